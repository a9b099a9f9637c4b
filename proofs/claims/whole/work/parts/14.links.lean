theorem ckX0 : CK 0 RX0 TX0 9 := ⟨rfl, hw_lay lysX0, tyX0_ok, nmX0, rfl, by decide⟩
theorem ffX0_0 : FF RX0 0 0 := fun C T N h => by have h : some (RX0, TX0, 9) = some (C, T, N) := h; cases h; exact ⟨rfl, rfl⟩
theorem ffX0_1 : FF RX0 0 1 := fun C T N h => by have h : some (RX0, TX0, 9) = some (C, T, N) := h; cases h; exact ⟨rfl, rfl⟩
theorem ffX0_2 : FF RX0 0 2 := fun C T N h => by have h : some (RX0, TX0, 9) = some (C, T, N) := h; cases h; exact ⟨rfl, rfl⟩
theorem ffX0_3 : FF RX0 0 3 := fun C T N h => by have h : some (RX0, TX0, 9) = some (C, T, N) := h; cases h; exact ⟨rfl, rfl⟩
theorem ffX0_4 : FF RX0 0 4 := fun C T N h => by have h : some (RX0, TX0, 9) = some (C, T, N) := h; cases h; exact ⟨rfl, rfl⟩
theorem ffX0_5 : FF RX0 0 5 := fun C T N h => by have h : some (RX0, TX0, 9) = some (C, T, N) := h; cases h; exact ⟨rfl, rfl⟩
theorem fnX0_6 : FN 0 6 := fun C T N h => by have h : some (RX0, TX0, 9) = some (C, T, N) := h; cases h; rfl
theorem fnX0_7 : FN 0 7 := fun C T N h => by have h : some (RX0, TX0, 9) = some (C, T, N) := h; cases h; rfl
theorem fnX0_8 : FN 0 8 := fun C T N h => by have h : some (RX0, TX0, 9) = some (C, T, N) := h; cases h; rfl
theorem ckX1 : CK 1 RX1 TX1 2 := ⟨rfl, hw_lay lysX1, tyX1_ok, nmX1, rfl, by decide⟩
theorem ffX1_0 : FF RX1 1 0 := fun C T N h => by have h : some (RX1, TX1, 2) = some (C, T, N) := h; cases h; exact ⟨rfl, rfl⟩
theorem ffX1_1 : FF RX1 1 1 := fun C T N h => by have h : some (RX1, TX1, 2) = some (C, T, N) := h; cases h; exact ⟨rfl, rfl⟩
theorem ckX2 : CK 2 RX2 TX2 16 := ⟨rfl, hw_lay lysX2, tyX2_ok, nmX2, rfl, by decide⟩
theorem fnX2_0 : FN 2 0 := fun C T N h => by have h : some (RX2, TX2, 16) = some (C, T, N) := h; cases h; rfl
theorem fnX2_1 : FN 2 1 := fun C T N h => by have h : some (RX2, TX2, 16) = some (C, T, N) := h; cases h; rfl
theorem fnX2_2 : FN 2 2 := fun C T N h => by have h : some (RX2, TX2, 16) = some (C, T, N) := h; cases h; rfl
theorem fnX2_3 : FN 2 3 := fun C T N h => by have h : some (RX2, TX2, 16) = some (C, T, N) := h; cases h; rfl
theorem fnX2_4 : FN 2 4 := fun C T N h => by have h : some (RX2, TX2, 16) = some (C, T, N) := h; cases h; rfl
theorem fnX2_5 : FN 2 5 := fun C T N h => by have h : some (RX2, TX2, 16) = some (C, T, N) := h; cases h; rfl
theorem fnX2_6 : FN 2 6 := fun C T N h => by have h : some (RX2, TX2, 16) = some (C, T, N) := h; cases h; rfl
theorem fnX2_7 : FN 2 7 := fun C T N h => by have h : some (RX2, TX2, 16) = some (C, T, N) := h; cases h; rfl
theorem fnX2_8 : FN 2 8 := fun C T N h => by have h : some (RX2, TX2, 16) = some (C, T, N) := h; cases h; rfl
theorem ffX2_9 : FF RX2 2 9 := fun C T N h => by have h : some (RX2, TX2, 16) = some (C, T, N) := h; cases h; exact ⟨rfl, rfl⟩
theorem ffX2_10 : FF RX2 2 10 := fun C T N h => by have h : some (RX2, TX2, 16) = some (C, T, N) := h; cases h; exact ⟨rfl, rfl⟩
theorem ffX2_11 : FF RX2 2 11 := fun C T N h => by have h : some (RX2, TX2, 16) = some (C, T, N) := h; cases h; exact ⟨rfl, rfl⟩
theorem ffX2_12 : FF RX2 2 12 := fun C T N h => by have h : some (RX2, TX2, 16) = some (C, T, N) := h; cases h; exact ⟨rfl, rfl⟩
theorem ffX2_13 : FF RX2 2 13 := fun C T N h => by have h : some (RX2, TX2, 16) = some (C, T, N) := h; cases h; exact ⟨rfl, rfl⟩
theorem ffX2_14 : FF RX2 2 14 := fun C T N h => by have h : some (RX2, TX2, 16) = some (C, T, N) := h; cases h; exact ⟨rfl, rfl⟩
theorem ffX2_15 : FF RX2 2 15 := fun C T N h => by have h : some (RX2, TX2, 16) = some (C, T, N) := h; cases h; exact ⟨rfl, rfl⟩
theorem ckX3 : CK 3 RX3 TX3 3 := ⟨rfl, hw_lay lysX3, tyX3_ok, nmX3, rfl, by decide⟩
theorem ffX3_0 : FF RX3 3 0 := fun C T N h => by have h : some (RX3, TX3, 3) = some (C, T, N) := h; cases h; exact ⟨rfl, rfl⟩
theorem fnX3_1 : FN 3 1 := fun C T N h => by have h : some (RX3, TX3, 3) = some (C, T, N) := h; cases h; rfl
theorem fnX3_2 : FN 3 2 := fun C T N h => by have h : some (RX3, TX3, 3) = some (C, T, N) := h; cases h; rfl
theorem ckX4 : CK 4 RX4 TX4 9 := ⟨rfl, hw_lay lysX4, tyX4_ok, nmX4, rfl, by decide⟩
theorem ffX4_0 : FF RX4 4 0 := fun C T N h => by have h : some (RX4, TX4, 9) = some (C, T, N) := h; cases h; exact ⟨rfl, rfl⟩
theorem ffX4_1 : FF RX4 4 1 := fun C T N h => by have h : some (RX4, TX4, 9) = some (C, T, N) := h; cases h; exact ⟨rfl, rfl⟩
theorem ffX4_2 : FF RX4 4 2 := fun C T N h => by have h : some (RX4, TX4, 9) = some (C, T, N) := h; cases h; exact ⟨rfl, rfl⟩
theorem ffX4_3 : FF RX4 4 3 := fun C T N h => by have h : some (RX4, TX4, 9) = some (C, T, N) := h; cases h; exact ⟨rfl, rfl⟩
theorem ffX4_4 : FF RX4 4 4 := fun C T N h => by have h : some (RX4, TX4, 9) = some (C, T, N) := h; cases h; exact ⟨rfl, rfl⟩
theorem ffX4_5 : FF RX4 4 5 := fun C T N h => by have h : some (RX4, TX4, 9) = some (C, T, N) := h; cases h; exact ⟨rfl, rfl⟩
theorem fnX4_6 : FN 4 6 := fun C T N h => by have h : some (RX4, TX4, 9) = some (C, T, N) := h; cases h; rfl
theorem fnX4_7 : FN 4 7 := fun C T N h => by have h : some (RX4, TX4, 9) = some (C, T, N) := h; cases h; rfl
theorem fnX4_8 : FN 4 8 := fun C T N h => by have h : some (RX4, TX4, 9) = some (C, T, N) := h; cases h; rfl
theorem ckX5 : CK 5 RX5 TX5 7 := ⟨rfl, hw_lay lysX5, tyX5_ok, nmX5, rfl, by decide⟩
theorem ffX5_0 : FF RX5 5 0 := fun C T N h => by have h : some (RX5, TX5, 7) = some (C, T, N) := h; cases h; exact ⟨rfl, rfl⟩
theorem ffX5_1 : FF RX5 5 1 := fun C T N h => by have h : some (RX5, TX5, 7) = some (C, T, N) := h; cases h; exact ⟨rfl, rfl⟩
theorem ffX5_2 : FF RX5 5 2 := fun C T N h => by have h : some (RX5, TX5, 7) = some (C, T, N) := h; cases h; exact ⟨rfl, rfl⟩
theorem fnX5_3 : FN 5 3 := fun C T N h => by have h : some (RX5, TX5, 7) = some (C, T, N) := h; cases h; rfl
theorem fnX5_4 : FN 5 4 := fun C T N h => by have h : some (RX5, TX5, 7) = some (C, T, N) := h; cases h; rfl
theorem fnX5_5 : FN 5 5 := fun C T N h => by have h : some (RX5, TX5, 7) = some (C, T, N) := h; cases h; rfl
theorem fnX5_6 : FN 5 6 := fun C T N h => by have h : some (RX5, TX5, 7) = some (C, T, N) := h; cases h; rfl
theorem ckX6 : CK 6 RX6 TX6 2 := ⟨rfl, hw_lay lysX6, tyX6_ok, nmX6, rfl, by decide⟩
theorem ffX6_0 : FF RX6 6 0 := fun C T N h => by have h : some (RX6, TX6, 2) = some (C, T, N) := h; cases h; exact ⟨rfl, rfl⟩
theorem fnX6_1 : FN 6 1 := fun C T N h => by have h : some (RX6, TX6, 2) = some (C, T, N) := h; cases h; rfl
theorem ckX7 : CK 7 RX7 TX7 11 := ⟨rfl, hw_lay lysX7, tyX7_ok, nmX7, rfl, by decide⟩
theorem fnX7_0 : FN 7 0 := fun C T N h => by have h : some (RX7, TX7, 11) = some (C, T, N) := h; cases h; rfl
theorem ffX7_1 : FF RX7 7 1 := fun C T N h => by have h : some (RX7, TX7, 11) = some (C, T, N) := h; cases h; exact ⟨rfl, rfl⟩
theorem ffX7_2 : FF RX7 7 2 := fun C T N h => by have h : some (RX7, TX7, 11) = some (C, T, N) := h; cases h; exact ⟨rfl, rfl⟩
theorem ffX7_3 : FF RX7 7 3 := fun C T N h => by have h : some (RX7, TX7, 11) = some (C, T, N) := h; cases h; exact ⟨rfl, rfl⟩
theorem ffX7_4 : FF RX7 7 4 := fun C T N h => by have h : some (RX7, TX7, 11) = some (C, T, N) := h; cases h; exact ⟨rfl, rfl⟩
theorem ffX7_5 : FF RX7 7 5 := fun C T N h => by have h : some (RX7, TX7, 11) = some (C, T, N) := h; cases h; exact ⟨rfl, rfl⟩
theorem ffX7_6 : FF RX7 7 6 := fun C T N h => by have h : some (RX7, TX7, 11) = some (C, T, N) := h; cases h; exact ⟨rfl, rfl⟩
theorem fnX7_7 : FN 7 7 := fun C T N h => by have h : some (RX7, TX7, 11) = some (C, T, N) := h; cases h; rfl
theorem fnX7_8 : FN 7 8 := fun C T N h => by have h : some (RX7, TX7, 11) = some (C, T, N) := h; cases h; rfl
theorem fnX7_9 : FN 7 9 := fun C T N h => by have h : some (RX7, TX7, 11) = some (C, T, N) := h; cases h; rfl
theorem fnX7_10 : FN 7 10 := fun C T N h => by have h : some (RX7, TX7, 11) = some (C, T, N) := h; cases h; rfl
theorem ckX8 : CK 8 RX8 TX8 7 := ⟨rfl, hw_lay lysX8, tyX8_ok, nmX8, rfl, by decide⟩
theorem ffX8_0 : FF RX8 8 0 := fun C T N h => by have h : some (RX8, TX8, 7) = some (C, T, N) := h; cases h; exact ⟨rfl, rfl⟩
theorem ffX8_1 : FF RX8 8 1 := fun C T N h => by have h : some (RX8, TX8, 7) = some (C, T, N) := h; cases h; exact ⟨rfl, rfl⟩
theorem fnX8_2 : FN 8 2 := fun C T N h => by have h : some (RX8, TX8, 7) = some (C, T, N) := h; cases h; rfl
theorem fnX8_3 : FN 8 3 := fun C T N h => by have h : some (RX8, TX8, 7) = some (C, T, N) := h; cases h; rfl
theorem fnX8_4 : FN 8 4 := fun C T N h => by have h : some (RX8, TX8, 7) = some (C, T, N) := h; cases h; rfl
theorem fnX8_5 : FN 8 5 := fun C T N h => by have h : some (RX8, TX8, 7) = some (C, T, N) := h; cases h; rfl
theorem fnX8_6 : FN 8 6 := fun C T N h => by have h : some (RX8, TX8, 7) = some (C, T, N) := h; cases h; rfl
theorem ckX9 : CK 9 RX9 TX9 3 := ⟨rfl, hw_lay lysX9, tyX9_ok, nmX9, rfl, by decide⟩
theorem ffX9_0 : FF RX9 9 0 := fun C T N h => by have h : some (RX9, TX9, 3) = some (C, T, N) := h; cases h; exact ⟨rfl, rfl⟩
theorem ffX9_1 : FF RX9 9 1 := fun C T N h => by have h : some (RX9, TX9, 3) = some (C, T, N) := h; cases h; exact ⟨rfl, rfl⟩
theorem ffX9_2 : FF RX9 9 2 := fun C T N h => by have h : some (RX9, TX9, 3) = some (C, T, N) := h; cases h; exact ⟨rfl, rfl⟩
theorem ckX10 : CK 10 RX10 TX10 16 := ⟨rfl, hw_lay lysX10, tyX10_ok, nmX10, rfl, by decide⟩
theorem ffX10_0 : FF RX10 10 0 := fun C T N h => by have h : some (RX10, TX10, 16) = some (C, T, N) := h; cases h; exact ⟨rfl, rfl⟩
theorem ffX10_1 : FF RX10 10 1 := fun C T N h => by have h : some (RX10, TX10, 16) = some (C, T, N) := h; cases h; exact ⟨rfl, rfl⟩
theorem ffX10_2 : FF RX10 10 2 := fun C T N h => by have h : some (RX10, TX10, 16) = some (C, T, N) := h; cases h; exact ⟨rfl, rfl⟩
theorem ffX10_3 : FF RX10 10 3 := fun C T N h => by have h : some (RX10, TX10, 16) = some (C, T, N) := h; cases h; exact ⟨rfl, rfl⟩
theorem ffX10_4 : FF RX10 10 4 := fun C T N h => by have h : some (RX10, TX10, 16) = some (C, T, N) := h; cases h; exact ⟨rfl, rfl⟩
theorem ffX10_5 : FF RX10 10 5 := fun C T N h => by have h : some (RX10, TX10, 16) = some (C, T, N) := h; cases h; exact ⟨rfl, rfl⟩
theorem ffX10_6 : FF RX10 10 6 := fun C T N h => by have h : some (RX10, TX10, 16) = some (C, T, N) := h; cases h; exact ⟨rfl, rfl⟩
theorem ffX10_7 : FF RX10 10 7 := fun C T N h => by have h : some (RX10, TX10, 16) = some (C, T, N) := h; cases h; exact ⟨rfl, rfl⟩
theorem ffX10_8 : FF RX10 10 8 := fun C T N h => by have h : some (RX10, TX10, 16) = some (C, T, N) := h; cases h; exact ⟨rfl, rfl⟩
theorem ffX10_9 : FF RX10 10 9 := fun C T N h => by have h : some (RX10, TX10, 16) = some (C, T, N) := h; cases h; exact ⟨rfl, rfl⟩
theorem ffX10_10 : FF RX10 10 10 := fun C T N h => by have h : some (RX10, TX10, 16) = some (C, T, N) := h; cases h; exact ⟨rfl, rfl⟩
theorem ffX10_11 : FF RX10 10 11 := fun C T N h => by have h : some (RX10, TX10, 16) = some (C, T, N) := h; cases h; exact ⟨rfl, rfl⟩
theorem ffX10_12 : FF RX10 10 12 := fun C T N h => by have h : some (RX10, TX10, 16) = some (C, T, N) := h; cases h; exact ⟨rfl, rfl⟩
theorem ffX10_13 : FF RX10 10 13 := fun C T N h => by have h : some (RX10, TX10, 16) = some (C, T, N) := h; cases h; exact ⟨rfl, rfl⟩
theorem ffX10_14 : FF RX10 10 14 := fun C T N h => by have h : some (RX10, TX10, 16) = some (C, T, N) := h; cases h; exact ⟨rfl, rfl⟩
theorem fnX10_15 : FN 10 15 := fun C T N h => by have h : some (RX10, TX10, 16) = some (C, T, N) := h; cases h; rfl
theorem ckX11 : CK 11 RX11 TX11 99 := ⟨rfl, hw_lay lysX11, tyX11_ok, nmX11, rfl, by decide⟩
theorem ffX11_0 : FF RX11 11 0 := fun C T N h => by have h : some (RX11, TX11, 99) = some (C, T, N) := h; cases h; exact ⟨rfl, rfl⟩
theorem fnX11_1 : FN 11 1 := fun C T N h => by have h : some (RX11, TX11, 99) = some (C, T, N) := h; cases h; rfl
theorem fnX11_2 : FN 11 2 := fun C T N h => by have h : some (RX11, TX11, 99) = some (C, T, N) := h; cases h; rfl
theorem fnX11_3 : FN 11 3 := fun C T N h => by have h : some (RX11, TX11, 99) = some (C, T, N) := h; cases h; rfl
theorem fnX11_4 : FN 11 4 := fun C T N h => by have h : some (RX11, TX11, 99) = some (C, T, N) := h; cases h; rfl
theorem fnX11_5 : FN 11 5 := fun C T N h => by have h : some (RX11, TX11, 99) = some (C, T, N) := h; cases h; rfl
theorem fnX11_6 : FN 11 6 := fun C T N h => by have h : some (RX11, TX11, 99) = some (C, T, N) := h; cases h; rfl
theorem fnX11_7 : FN 11 7 := fun C T N h => by have h : some (RX11, TX11, 99) = some (C, T, N) := h; cases h; rfl
theorem fnX11_8 : FN 11 8 := fun C T N h => by have h : some (RX11, TX11, 99) = some (C, T, N) := h; cases h; rfl
theorem ffX11_9 : FF RX11 11 9 := fun C T N h => by have h : some (RX11, TX11, 99) = some (C, T, N) := h; cases h; exact ⟨rfl, rfl⟩
theorem fnX11_10 : FN 11 10 := fun C T N h => by have h : some (RX11, TX11, 99) = some (C, T, N) := h; cases h; rfl
theorem ffX11_11 : FF RX11 11 11 := fun C T N h => by have h : some (RX11, TX11, 99) = some (C, T, N) := h; cases h; exact ⟨rfl, rfl⟩
theorem ffX11_12 : FF RX11 11 12 := fun C T N h => by have h : some (RX11, TX11, 99) = some (C, T, N) := h; cases h; exact ⟨rfl, rfl⟩
theorem ffX11_13 : FF RX11 11 13 := fun C T N h => by have h : some (RX11, TX11, 99) = some (C, T, N) := h; cases h; exact ⟨rfl, rfl⟩
theorem ffX11_14 : FF RX11 11 14 := fun C T N h => by have h : some (RX11, TX11, 99) = some (C, T, N) := h; cases h; exact ⟨rfl, rfl⟩
theorem ffX11_15 : FF RX11 11 15 := fun C T N h => by have h : some (RX11, TX11, 99) = some (C, T, N) := h; cases h; exact ⟨rfl, rfl⟩
theorem ffX11_16 : FF RX11 11 16 := fun C T N h => by have h : some (RX11, TX11, 99) = some (C, T, N) := h; cases h; exact ⟨rfl, rfl⟩
theorem ffX11_17 : FF RX11 11 17 := fun C T N h => by have h : some (RX11, TX11, 99) = some (C, T, N) := h; cases h; exact ⟨rfl, rfl⟩
theorem ffX11_18 : FF RX11 11 18 := fun C T N h => by have h : some (RX11, TX11, 99) = some (C, T, N) := h; cases h; exact ⟨rfl, rfl⟩
theorem ffX11_19 : FF RX11 11 19 := fun C T N h => by have h : some (RX11, TX11, 99) = some (C, T, N) := h; cases h; exact ⟨rfl, rfl⟩
theorem ffX11_20 : FF RX11 11 20 := fun C T N h => by have h : some (RX11, TX11, 99) = some (C, T, N) := h; cases h; exact ⟨rfl, rfl⟩
theorem ffX11_21 : FF RX11 11 21 := fun C T N h => by have h : some (RX11, TX11, 99) = some (C, T, N) := h; cases h; exact ⟨rfl, rfl⟩
theorem ffX11_22 : FF RX11 11 22 := fun C T N h => by have h : some (RX11, TX11, 99) = some (C, T, N) := h; cases h; exact ⟨rfl, rfl⟩
theorem ffX11_23 : FF RX11 11 23 := fun C T N h => by have h : some (RX11, TX11, 99) = some (C, T, N) := h; cases h; exact ⟨rfl, rfl⟩
theorem ffX11_24 : FF RX11 11 24 := fun C T N h => by have h : some (RX11, TX11, 99) = some (C, T, N) := h; cases h; exact ⟨rfl, rfl⟩
theorem ffX11_25 : FF RX11 11 25 := fun C T N h => by have h : some (RX11, TX11, 99) = some (C, T, N) := h; cases h; exact ⟨rfl, rfl⟩
theorem ffX11_26 : FF RX11 11 26 := fun C T N h => by have h : some (RX11, TX11, 99) = some (C, T, N) := h; cases h; exact ⟨rfl, rfl⟩
theorem ffX11_27 : FF RX11 11 27 := fun C T N h => by have h : some (RX11, TX11, 99) = some (C, T, N) := h; cases h; exact ⟨rfl, rfl⟩
theorem ffX11_28 : FF RX11 11 28 := fun C T N h => by have h : some (RX11, TX11, 99) = some (C, T, N) := h; cases h; exact ⟨rfl, rfl⟩
theorem ffX11_29 : FF RX11 11 29 := fun C T N h => by have h : some (RX11, TX11, 99) = some (C, T, N) := h; cases h; exact ⟨rfl, rfl⟩
theorem ffX11_30 : FF RX11 11 30 := fun C T N h => by have h : some (RX11, TX11, 99) = some (C, T, N) := h; cases h; exact ⟨rfl, rfl⟩
theorem ffX11_31 : FF RX11 11 31 := fun C T N h => by have h : some (RX11, TX11, 99) = some (C, T, N) := h; cases h; exact ⟨rfl, rfl⟩
theorem ffX11_32 : FF RX11 11 32 := fun C T N h => by have h : some (RX11, TX11, 99) = some (C, T, N) := h; cases h; exact ⟨rfl, rfl⟩
theorem ffX11_33 : FF RX11 11 33 := fun C T N h => by have h : some (RX11, TX11, 99) = some (C, T, N) := h; cases h; exact ⟨rfl, rfl⟩
theorem ffX11_34 : FF RX11 11 34 := fun C T N h => by have h : some (RX11, TX11, 99) = some (C, T, N) := h; cases h; exact ⟨rfl, rfl⟩
theorem fnX11_35 : FN 11 35 := fun C T N h => by have h : some (RX11, TX11, 99) = some (C, T, N) := h; cases h; rfl
theorem ffX11_36 : FF RX11 11 36 := fun C T N h => by have h : some (RX11, TX11, 99) = some (C, T, N) := h; cases h; exact ⟨rfl, rfl⟩
theorem ffX11_37 : FF RX11 11 37 := fun C T N h => by have h : some (RX11, TX11, 99) = some (C, T, N) := h; cases h; exact ⟨rfl, rfl⟩
theorem ffX11_38 : FF RX11 11 38 := fun C T N h => by have h : some (RX11, TX11, 99) = some (C, T, N) := h; cases h; exact ⟨rfl, rfl⟩
theorem ffX11_39 : FF RX11 11 39 := fun C T N h => by have h : some (RX11, TX11, 99) = some (C, T, N) := h; cases h; exact ⟨rfl, rfl⟩
theorem ffX11_40 : FF RX11 11 40 := fun C T N h => by have h : some (RX11, TX11, 99) = some (C, T, N) := h; cases h; exact ⟨rfl, rfl⟩
theorem ffX11_41 : FF RX11 11 41 := fun C T N h => by have h : some (RX11, TX11, 99) = some (C, T, N) := h; cases h; exact ⟨rfl, rfl⟩
theorem ffX11_42 : FF RX11 11 42 := fun C T N h => by have h : some (RX11, TX11, 99) = some (C, T, N) := h; cases h; exact ⟨rfl, rfl⟩
theorem ffX11_43 : FF RX11 11 43 := fun C T N h => by have h : some (RX11, TX11, 99) = some (C, T, N) := h; cases h; exact ⟨rfl, rfl⟩
theorem fnX11_44 : FN 11 44 := fun C T N h => by have h : some (RX11, TX11, 99) = some (C, T, N) := h; cases h; rfl
theorem fnX11_45 : FN 11 45 := fun C T N h => by have h : some (RX11, TX11, 99) = some (C, T, N) := h; cases h; rfl
theorem fnX11_46 : FN 11 46 := fun C T N h => by have h : some (RX11, TX11, 99) = some (C, T, N) := h; cases h; rfl
theorem fnX11_47 : FN 11 47 := fun C T N h => by have h : some (RX11, TX11, 99) = some (C, T, N) := h; cases h; rfl
theorem ffX11_48 : FF RX11 11 48 := fun C T N h => by have h : some (RX11, TX11, 99) = some (C, T, N) := h; cases h; exact ⟨rfl, rfl⟩
theorem ffX11_49 : FF RX11 11 49 := fun C T N h => by have h : some (RX11, TX11, 99) = some (C, T, N) := h; cases h; exact ⟨rfl, rfl⟩
theorem fnX11_50 : FN 11 50 := fun C T N h => by have h : some (RX11, TX11, 99) = some (C, T, N) := h; cases h; rfl
theorem fnX11_51 : FN 11 51 := fun C T N h => by have h : some (RX11, TX11, 99) = some (C, T, N) := h; cases h; rfl
theorem fnX11_52 : FN 11 52 := fun C T N h => by have h : some (RX11, TX11, 99) = some (C, T, N) := h; cases h; rfl
theorem fnX11_53 : FN 11 53 := fun C T N h => by have h : some (RX11, TX11, 99) = some (C, T, N) := h; cases h; rfl
theorem ffX11_54 : FF RX11 11 54 := fun C T N h => by have h : some (RX11, TX11, 99) = some (C, T, N) := h; cases h; exact ⟨rfl, rfl⟩
theorem fnX11_55 : FN 11 55 := fun C T N h => by have h : some (RX11, TX11, 99) = some (C, T, N) := h; cases h; rfl
theorem ffX11_56 : FF RX11 11 56 := fun C T N h => by have h : some (RX11, TX11, 99) = some (C, T, N) := h; cases h; exact ⟨rfl, rfl⟩
theorem ffX11_57 : FF RX11 11 57 := fun C T N h => by have h : some (RX11, TX11, 99) = some (C, T, N) := h; cases h; exact ⟨rfl, rfl⟩
theorem fnX11_58 : FN 11 58 := fun C T N h => by have h : some (RX11, TX11, 99) = some (C, T, N) := h; cases h; rfl
theorem ffX11_59 : FF RX11 11 59 := fun C T N h => by have h : some (RX11, TX11, 99) = some (C, T, N) := h; cases h; exact ⟨rfl, rfl⟩
theorem fnX11_60 : FN 11 60 := fun C T N h => by have h : some (RX11, TX11, 99) = some (C, T, N) := h; cases h; rfl
theorem fnX11_61 : FN 11 61 := fun C T N h => by have h : some (RX11, TX11, 99) = some (C, T, N) := h; cases h; rfl
theorem fnX11_62 : FN 11 62 := fun C T N h => by have h : some (RX11, TX11, 99) = some (C, T, N) := h; cases h; rfl
theorem ffX11_63 : FF RX11 11 63 := fun C T N h => by have h : some (RX11, TX11, 99) = some (C, T, N) := h; cases h; exact ⟨rfl, rfl⟩
theorem ffX11_64 : FF RX11 11 64 := fun C T N h => by have h : some (RX11, TX11, 99) = some (C, T, N) := h; cases h; exact ⟨rfl, rfl⟩
theorem ffX11_65 : FF RX11 11 65 := fun C T N h => by have h : some (RX11, TX11, 99) = some (C, T, N) := h; cases h; exact ⟨rfl, rfl⟩
theorem ffX11_66 : FF RX11 11 66 := fun C T N h => by have h : some (RX11, TX11, 99) = some (C, T, N) := h; cases h; exact ⟨rfl, rfl⟩
theorem ffX11_67 : FF RX11 11 67 := fun C T N h => by have h : some (RX11, TX11, 99) = some (C, T, N) := h; cases h; exact ⟨rfl, rfl⟩
theorem ffX11_68 : FF RX11 11 68 := fun C T N h => by have h : some (RX11, TX11, 99) = some (C, T, N) := h; cases h; exact ⟨rfl, rfl⟩
theorem ffX11_69 : FF RX11 11 69 := fun C T N h => by have h : some (RX11, TX11, 99) = some (C, T, N) := h; cases h; exact ⟨rfl, rfl⟩
theorem ffX11_70 : FF RX11 11 70 := fun C T N h => by have h : some (RX11, TX11, 99) = some (C, T, N) := h; cases h; exact ⟨rfl, rfl⟩
theorem ffX11_71 : FF RX11 11 71 := fun C T N h => by have h : some (RX11, TX11, 99) = some (C, T, N) := h; cases h; exact ⟨rfl, rfl⟩
theorem ffX11_72 : FF RX11 11 72 := fun C T N h => by have h : some (RX11, TX11, 99) = some (C, T, N) := h; cases h; exact ⟨rfl, rfl⟩
theorem ffX11_73 : FF RX11 11 73 := fun C T N h => by have h : some (RX11, TX11, 99) = some (C, T, N) := h; cases h; exact ⟨rfl, rfl⟩
theorem ffX11_74 : FF RX11 11 74 := fun C T N h => by have h : some (RX11, TX11, 99) = some (C, T, N) := h; cases h; exact ⟨rfl, rfl⟩
theorem ffX11_75 : FF RX11 11 75 := fun C T N h => by have h : some (RX11, TX11, 99) = some (C, T, N) := h; cases h; exact ⟨rfl, rfl⟩
theorem ffX11_76 : FF RX11 11 76 := fun C T N h => by have h : some (RX11, TX11, 99) = some (C, T, N) := h; cases h; exact ⟨rfl, rfl⟩
theorem ffX11_77 : FF RX11 11 77 := fun C T N h => by have h : some (RX11, TX11, 99) = some (C, T, N) := h; cases h; exact ⟨rfl, rfl⟩
theorem ffX11_78 : FF RX11 11 78 := fun C T N h => by have h : some (RX11, TX11, 99) = some (C, T, N) := h; cases h; exact ⟨rfl, rfl⟩
theorem ffX11_79 : FF RX11 11 79 := fun C T N h => by have h : some (RX11, TX11, 99) = some (C, T, N) := h; cases h; exact ⟨rfl, rfl⟩
theorem ffX11_80 : FF RX11 11 80 := fun C T N h => by have h : some (RX11, TX11, 99) = some (C, T, N) := h; cases h; exact ⟨rfl, rfl⟩
theorem ffX11_81 : FF RX11 11 81 := fun C T N h => by have h : some (RX11, TX11, 99) = some (C, T, N) := h; cases h; exact ⟨rfl, rfl⟩
theorem ffX11_82 : FF RX11 11 82 := fun C T N h => by have h : some (RX11, TX11, 99) = some (C, T, N) := h; cases h; exact ⟨rfl, rfl⟩
theorem ffX11_83 : FF RX11 11 83 := fun C T N h => by have h : some (RX11, TX11, 99) = some (C, T, N) := h; cases h; exact ⟨rfl, rfl⟩
theorem ffX11_84 : FF RX11 11 84 := fun C T N h => by have h : some (RX11, TX11, 99) = some (C, T, N) := h; cases h; exact ⟨rfl, rfl⟩
theorem ffX11_85 : FF RX11 11 85 := fun C T N h => by have h : some (RX11, TX11, 99) = some (C, T, N) := h; cases h; exact ⟨rfl, rfl⟩
theorem ffX11_86 : FF RX11 11 86 := fun C T N h => by have h : some (RX11, TX11, 99) = some (C, T, N) := h; cases h; exact ⟨rfl, rfl⟩
theorem ffX11_87 : FF RX11 11 87 := fun C T N h => by have h : some (RX11, TX11, 99) = some (C, T, N) := h; cases h; exact ⟨rfl, rfl⟩
theorem fnX11_88 : FN 11 88 := fun C T N h => by have h : some (RX11, TX11, 99) = some (C, T, N) := h; cases h; rfl
theorem ffX11_89 : FF RX11 11 89 := fun C T N h => by have h : some (RX11, TX11, 99) = some (C, T, N) := h; cases h; exact ⟨rfl, rfl⟩
theorem fnX11_90 : FN 11 90 := fun C T N h => by have h : some (RX11, TX11, 99) = some (C, T, N) := h; cases h; rfl
theorem fnX11_91 : FN 11 91 := fun C T N h => by have h : some (RX11, TX11, 99) = some (C, T, N) := h; cases h; rfl
theorem fnX11_92 : FN 11 92 := fun C T N h => by have h : some (RX11, TX11, 99) = some (C, T, N) := h; cases h; rfl
theorem ffX11_93 : FF RX11 11 93 := fun C T N h => by have h : some (RX11, TX11, 99) = some (C, T, N) := h; cases h; exact ⟨rfl, rfl⟩
theorem fnX11_94 : FN 11 94 := fun C T N h => by have h : some (RX11, TX11, 99) = some (C, T, N) := h; cases h; rfl
theorem fnX11_95 : FN 11 95 := fun C T N h => by have h : some (RX11, TX11, 99) = some (C, T, N) := h; cases h; rfl
theorem fnX11_96 : FN 11 96 := fun C T N h => by have h : some (RX11, TX11, 99) = some (C, T, N) := h; cases h; rfl
theorem ffX11_97 : FF RX11 11 97 := fun C T N h => by have h : some (RX11, TX11, 99) = some (C, T, N) := h; cases h; exact ⟨rfl, rfl⟩
theorem fnX11_98 : FN 11 98 := fun C T N h => by have h : some (RX11, TX11, 99) = some (C, T, N) := h; cases h; rfl
theorem fkX10_14 : FK RX10 14 10 0 := ⟨RX10, TX10, 16, ckX10, by decide, hw (tb2 (List.mem_of_getElem? (i := 203) rfl)) rfl⟩
theorem fkX10_18 : FK RX10 18 10 1 := ⟨RX10, TX10, 16, ckX10, by decide, hw (tb2 (List.mem_of_getElem? (i := 204) rfl)) rfl⟩
theorem fkX10_21 : FK RX10 21 10 2 := ⟨RX10, TX10, 16, ckX10, by decide, hw (tb2 (List.mem_of_getElem? (i := 205) rfl)) rfl⟩
theorem fkX10_24 : FK RX10 24 10 3 := ⟨RX10, TX10, 16, ckX10, by decide, hw (tb2 (List.mem_of_getElem? (i := 206) rfl)) rfl⟩
theorem fkX10_30 : FK RX10 30 10 4 := ⟨RX10, TX10, 16, ckX10, by decide, hw (tb2 (List.mem_of_getElem? (i := 207) rfl)) rfl⟩
theorem fkX10_34 : FK RX10 34 10 5 := ⟨RX10, TX10, 16, ckX10, by decide, hw (tb2 (List.mem_of_getElem? (i := 208) rfl)) rfl⟩
theorem fkX10_40 : FK RX10 40 10 6 := ⟨RX10, TX10, 16, ckX10, by decide, hw (tb2 (List.mem_of_getElem? (i := 209) rfl)) rfl⟩
theorem fkX10_44 : FK RX10 44 10 7 := ⟨RX10, TX10, 16, ckX10, by decide, hw (tb2 (List.mem_of_getElem? (i := 210) rfl)) rfl⟩
theorem fkX10_50 : FK RX10 50 10 8 := ⟨RX10, TX10, 16, ckX10, by decide, hw (tb2 (List.mem_of_getElem? (i := 211) rfl)) rfl⟩
theorem fkX10_59 : FK RX10 59 10 9 := ⟨RX10, TX10, 16, ckX10, by decide, hw (tb2 (List.mem_of_getElem? (i := 212) rfl)) rfl⟩
theorem fkX10_68 : FK RX10 68 10 10 := ⟨RX10, TX10, 16, ckX10, by decide, hw (tb2 (List.mem_of_getElem? (i := 213) rfl)) rfl⟩
theorem fkX10_77 : FK RX10 77 10 11 := ⟨RX10, TX10, 16, ckX10, by decide, hw (tb2 (List.mem_of_getElem? (i := 214) rfl)) rfl⟩
theorem fkX10_86 : FK RX10 86 10 12 := ⟨RX10, TX10, 16, ckX10, by decide, hw (tb2 (List.mem_of_getElem? (i := 215) rfl)) rfl⟩
theorem fkX10_95 : FK RX10 95 10 13 := ⟨RX10, TX10, 16, ckX10, by decide, hw (tb2 (List.mem_of_getElem? (i := 216) rfl)) rfl⟩
theorem fkX10_99 : FK RX10 99 10 14 := ⟨RX10, TX10, 16, ckX10, by decide, hw (tb2 (List.mem_of_getElem? (i := 217) rfl)) rfl⟩
theorem fkX10_103 : FK RX10 103 10 15 := ⟨RX10, TX10, 16, ckX10, by decide, hw (tb2 (List.mem_of_getElem? (i := 218) rfl)) rfl⟩
theorem fkX10_107 : FK RX10 107 6 1 := ⟨RX6, TX6, 2, ckX6, by decide, hw (tb1 (List.mem_of_getElem? (i := 39) rfl)) rfl⟩
theorem fkX10_135 : FK RX10 135 2 1 := ⟨RX2, TX2, 16, ckX2, by decide, hw (tb1 (List.mem_of_getElem? (i := 62) rfl)) rfl⟩
theorem fkX10_138 : FK RX10 138 5 5 := ⟨RX5, TX5, 7, ckX5, by decide, hw (tb2 (List.mem_of_getElem? (i := 82) rfl)) rfl⟩
theorem fkX10_141 : FK RX10 141 5 6 := ⟨RX5, TX5, 7, ckX5, by decide, hw (tb2 (List.mem_of_getElem? (i := 84) rfl)) rfl⟩
theorem fkX10_144 : FK RX10 144 2 2 := ⟨RX2, TX2, 16, ckX2, by decide, hw (tb1 (List.mem_of_getElem? (i := 66) rfl)) rfl⟩
theorem fkX10_147 : FK RX10 147 2 3 := ⟨RX2, TX2, 16, ckX2, by decide, hw (tb1 (List.mem_of_getElem? (i := 70) rfl)) rfl⟩
theorem fkX10_150 : FK RX10 150 2 4 := ⟨RX2, TX2, 16, ckX2, by decide, hw (tb1 (List.mem_of_getElem? (i := 79) rfl)) rfl⟩
theorem fkX10_153 : FK RX10 153 7 0 := ⟨RX7, TX7, 11, ckX7, by decide, hw (tb1 (List.mem_of_getElem? (i := 161) rfl)) rfl⟩
theorem fkX10_156 : FK RX10 156 7 4 := ⟨RX7, TX7, 11, ckX7, by decide, hw (tb1 (List.mem_of_getElem? (i := 172) rfl)) rfl⟩
theorem fkX10_170 : FK RX10 170 7 8 := ⟨RX7, TX7, 11, ckX7, by decide, hw (tb1 (List.mem_of_getElem? (i := 177) rfl)) rfl⟩
theorem fkX10_173 : FK RX10 173 3 2 := ⟨RX3, TX3, 3, ckX3, by decide, hw (tb1 (List.mem_of_getElem? (i := 217) rfl)) rfl⟩
theorem fkX10_186 : FK RX10 186 2 9 := ⟨RX2, TX2, 16, ckX2, by decide, hw (tb1 (List.mem_of_getElem? (i := 91) rfl)) rfl⟩
theorem fkX10_200 : FK RX10 200 7 1 := ⟨RX7, TX7, 11, ckX7, by decide, hw (tb1 (List.mem_of_getElem? (i := 164) rfl)) rfl⟩
theorem fkX10_202 : FK RX10 202 2 10 := ⟨RX2, TX2, 16, ckX2, by decide, hw (tb1 (List.mem_of_getElem? (i := 97) rfl)) rfl⟩
theorem fkX10_255 : FK RX10 255 4 8 := ⟨RX4, TX4, 9, ckX4, by decide, hw (tb2 (List.mem_of_getElem? (i := 146) rfl)) rfl⟩
theorem fkX10_258 : FK RX10 258 4 6 := ⟨RX4, TX4, 9, ckX4, by decide, hw (tb2 (List.mem_of_getElem? (i := 142) rfl)) rfl⟩
theorem fkX10_261 : FK RX10 261 4 7 := ⟨RX4, TX4, 9, ckX4, by decide, hw (tb2 (List.mem_of_getElem? (i := 144) rfl)) rfl⟩
theorem fkX10_268 : FK RX10 268 2 0 := ⟨RX2, TX2, 16, ckX2, by decide, hw (tb1 (List.mem_of_getElem? (i := 59) rfl)) rfl⟩
theorem fkX10_293 : FK RX10 293 0 8 := ⟨RX0, TX0, 9, ckX0, by decide, hw (tb2 (List.mem_of_getElem? (i := 183) rfl)) rfl⟩
theorem fkX10_296 : FK RX10 296 0 6 := ⟨RX0, TX0, 9, ckX0, by decide, hw (tb2 (List.mem_of_getElem? (i := 179) rfl)) rfl⟩
theorem fkX10_297 : FK RX10 297 0 7 := ⟨RX0, TX0, 9, ckX0, by decide, hw (tb2 (List.mem_of_getElem? (i := 181) rfl)) rfl⟩
theorem fkX10_384 : FK RX10 384 2 5 := ⟨RX2, TX2, 16, ckX2, by decide, hw (tb1 (List.mem_of_getElem? (i := 83) rfl)) rfl⟩
theorem fkX0_9 : FK RX0 9 0 5 := ⟨RX0, TX0, 9, ckX0, by decide, hw (tb2 (List.mem_of_getElem? (i := 177) rfl)) rfl⟩
theorem fkX0_15 : FK RX0 15 0 0 := ⟨RX0, TX0, 9, ckX0, by decide, hw (tb2 (List.mem_of_getElem? (i := 172) rfl)) rfl⟩
theorem fkX0_19 : FK RX0 19 0 1 := ⟨RX0, TX0, 9, ckX0, by decide, hw (tb2 (List.mem_of_getElem? (i := 173) rfl)) rfl⟩
theorem fkX0_23 : FK RX0 23 0 2 := ⟨RX0, TX0, 9, ckX0, by decide, hw (tb2 (List.mem_of_getElem? (i := 174) rfl)) rfl⟩
theorem fkX0_27 : FK RX0 27 0 3 := ⟨RX0, TX0, 9, ckX0, by decide, hw (tb2 (List.mem_of_getElem? (i := 175) rfl)) rfl⟩
theorem fkX0_30 : FK RX0 30 0 4 := ⟨RX0, TX0, 9, ckX0, by decide, hw (tb2 (List.mem_of_getElem? (i := 176) rfl)) rfl⟩
theorem fkX0_34 : FK RX0 34 6 1 := ⟨RX6, TX6, 2, ckX6, by decide, hw (tb1 (List.mem_of_getElem? (i := 38) rfl)) rfl⟩
theorem fkX0_54 : FK RX0 54 7 0 := ⟨RX7, TX7, 11, ckX7, by decide, hw (tb1 (List.mem_of_getElem? (i := 158) rfl)) rfl⟩
theorem fkX0_59 : FK RX0 59 2 4 := ⟨RX2, TX2, 16, ckX2, by decide, hw (tb1 (List.mem_of_getElem? (i := 78) rfl)) rfl⟩
theorem fkX0_104 : FK RX0 104 0 8 := ⟨RX0, TX0, 9, ckX0, by decide, hw (tb2 (List.mem_of_getElem? (i := 182) rfl)) rfl⟩
theorem fkX0_111 : FK RX0 111 0 6 := ⟨RX0, TX0, 9, ckX0, by decide, hw (tb2 (List.mem_of_getElem? (i := 178) rfl)) rfl⟩
theorem fkX0_112 : FK RX0 112 0 7 := ⟨RX0, TX0, 9, ckX0, by decide, hw (tb2 (List.mem_of_getElem? (i := 180) rfl)) rfl⟩
theorem fkX1_9 : FK RX1 9 1 1 := ⟨RX1, TX1, 2, ckX1, by decide, hw (tb2 (List.mem_of_getElem? (i := 107) rfl)) rfl⟩
theorem fkX1_15 : FK RX1 15 1 0 := ⟨RX1, TX1, 2, ckX1, by decide, hw (tb2 (List.mem_of_getElem? (i := 106) rfl)) rfl⟩
theorem fkX1_19 : FK RX1 19 6 1 := ⟨RX6, TX6, 2, ckX6, by decide, hw (tb1 (List.mem_of_getElem? (i := 41) rfl)) rfl⟩
theorem fkX1_44 : FK RX1 44 7 4 := ⟨RX7, TX7, 11, ckX7, by decide, hw (tb1 (List.mem_of_getElem? (i := 170) rfl)) rfl⟩
theorem fkX1_49 : FK RX1 49 2 10 := ⟨RX2, TX2, 16, ckX2, by decide, hw (tb1 (List.mem_of_getElem? (i := 96) rfl)) rfl⟩
theorem fkX1_54 : FK RX1 54 7 1 := ⟨RX7, TX7, 11, ckX7, by decide, hw (tb1 (List.mem_of_getElem? (i := 163) rfl)) rfl⟩
theorem fkX1_57 : FK RX1 57 7 0 := ⟨RX7, TX7, 11, ckX7, by decide, hw (tb1 (List.mem_of_getElem? (i := 159) rfl)) rfl⟩
theorem fkX2_9 : FK RX2 9 2 9 := ⟨RX2, TX2, 16, ckX2, by decide, hw (tb1 (List.mem_of_getElem? (i := 90) rfl)) rfl⟩
theorem fkX2_15 : FK RX2 15 2 10 := ⟨RX2, TX2, 16, ckX2, by decide, hw (tb1 (List.mem_of_getElem? (i := 93) rfl)) rfl⟩
theorem fkX2_18 : FK RX2 18 2 11 := ⟨RX2, TX2, 16, ckX2, by decide, hw (tb1 (List.mem_of_getElem? (i := 100) rfl)) rfl⟩
theorem fkX2_21 : FK RX2 21 2 12 := ⟨RX2, TX2, 16, ckX2, by decide, hw (tb1 (List.mem_of_getElem? (i := 103) rfl)) rfl⟩
theorem fkX2_24 : FK RX2 24 2 13 := ⟨RX2, TX2, 16, ckX2, by decide, hw (tb1 (List.mem_of_getElem? (i := 106) rfl)) rfl⟩
theorem fkX2_32 : FK RX2 32 2 14 := ⟨RX2, TX2, 16, ckX2, by decide, hw (tb1 (List.mem_of_getElem? (i := 109) rfl)) rfl⟩
theorem fkX2_36 : FK RX2 36 2 15 := ⟨RX2, TX2, 16, ckX2, by decide, hw (tb1 (List.mem_of_getElem? (i := 112) rfl)) rfl⟩
theorem fkX2_39 : FK RX2 39 2 0 := ⟨RX2, TX2, 16, ckX2, by decide, hw (tb1 (List.mem_of_getElem? (i := 58) rfl)) rfl⟩
theorem fkX2_43 : FK RX2 43 2 1 := ⟨RX2, TX2, 16, ckX2, by decide, hw (tb1 (List.mem_of_getElem? (i := 60) rfl)) rfl⟩
theorem fkX2_47 : FK RX2 47 2 2 := ⟨RX2, TX2, 16, ckX2, by decide, hw (tb1 (List.mem_of_getElem? (i := 63) rfl)) rfl⟩
theorem fkX2_50 : FK RX2 50 2 3 := ⟨RX2, TX2, 16, ckX2, by decide, hw (tb1 (List.mem_of_getElem? (i := 68) rfl)) rfl⟩
theorem fkX2_53 : FK RX2 53 2 4 := ⟨RX2, TX2, 16, ckX2, by decide, hw (tb1 (List.mem_of_getElem? (i := 76) rfl)) rfl⟩
theorem fkX2_56 : FK RX2 56 2 5 := ⟨RX2, TX2, 16, ckX2, by decide, hw (tb1 (List.mem_of_getElem? (i := 81) rfl)) rfl⟩
theorem fkX2_59 : FK RX2 59 2 6 := ⟨RX2, TX2, 16, ckX2, by decide, hw (tb1 (List.mem_of_getElem? (i := 84) rfl)) rfl⟩
theorem fkX2_62 : FK RX2 62 2 7 := ⟨RX2, TX2, 16, ckX2, by decide, hw (tb1 (List.mem_of_getElem? (i := 86) rfl)) rfl⟩
theorem fkX2_87 : FK RX2 87 2 8 := ⟨RX2, TX2, 16, ckX2, by decide, hw (tb1 (List.mem_of_getElem? (i := 88) rfl)) rfl⟩
theorem fkX3_11 : FK RX3 11 3 0 := ⟨RX3, TX3, 3, ckX3, by decide, hw (tb1 (List.mem_of_getElem? (i := 214) rfl)) rfl⟩
theorem fkX3_18 : FK RX3 18 3 2 := ⟨RX3, TX3, 3, ckX3, by decide, hw (tb1 (List.mem_of_getElem? (i := 216) rfl)) rfl⟩
theorem fkX3_22 : FK RX3 22 3 1 := ⟨RX3, TX3, 3, ckX3, by decide, hw (tb1 (List.mem_of_getElem? (i := 215) rfl)) rfl⟩
theorem fkX4_9 : FK RX4 9 4 4 := ⟨RX4, TX4, 9, ckX4, by decide, hw (tb2 (List.mem_of_getElem? (i := 139) rfl)) rfl⟩
theorem fkX4_15 : FK RX4 15 4 5 := ⟨RX4, TX4, 9, ckX4, by decide, hw (tb2 (List.mem_of_getElem? (i := 140) rfl)) rfl⟩
theorem fkX4_18 : FK RX4 18 4 0 := ⟨RX4, TX4, 9, ckX4, by decide, hw (tb2 (List.mem_of_getElem? (i := 135) rfl)) rfl⟩
theorem fkX4_22 : FK RX4 22 4 1 := ⟨RX4, TX4, 9, ckX4, by decide, hw (tb2 (List.mem_of_getElem? (i := 136) rfl)) rfl⟩
theorem fkX4_26 : FK RX4 26 4 2 := ⟨RX4, TX4, 9, ckX4, by decide, hw (tb2 (List.mem_of_getElem? (i := 137) rfl)) rfl⟩
theorem fkX4_30 : FK RX4 30 4 3 := ⟨RX4, TX4, 9, ckX4, by decide, hw (tb2 (List.mem_of_getElem? (i := 138) rfl)) rfl⟩
theorem fkX4_33 : FK RX4 33 2 4 := ⟨RX2, TX2, 16, ckX2, by decide, hw (tb1 (List.mem_of_getElem? (i := 74) rfl)) rfl⟩
theorem fkX4_43 : FK RX4 43 2 10 := ⟨RX2, TX2, 16, ckX2, by decide, hw (tb1 (List.mem_of_getElem? (i := 95) rfl)) rfl⟩
theorem fkX4_54 : FK RX4 54 4 8 := ⟨RX4, TX4, 9, ckX4, by decide, hw (tb2 (List.mem_of_getElem? (i := 145) rfl)) rfl⟩
theorem fkX4_57 : FK RX4 57 2 2 := ⟨RX2, TX2, 16, ckX2, by decide, hw (tb1 (List.mem_of_getElem? (i := 64) rfl)) rfl⟩
theorem fkX4_65 : FK RX4 65 4 6 := ⟨RX4, TX4, 9, ckX4, by decide, hw (tb2 (List.mem_of_getElem? (i := 141) rfl)) rfl⟩
theorem fkX4_68 : FK RX4 68 4 7 := ⟨RX4, TX4, 9, ckX4, by decide, hw (tb2 (List.mem_of_getElem? (i := 143) rfl)) rfl⟩
theorem fkX4_93 : FK RX4 93 7 4 := ⟨RX7, TX7, 11, ckX7, by decide, hw (tb1 (List.mem_of_getElem? (i := 171) rfl)) rfl⟩
theorem fkX4_117 : FK RX4 117 2 3 := ⟨RX2, TX2, 16, ckX2, by decide, hw (tb1 (List.mem_of_getElem? (i := 71) rfl)) rfl⟩
theorem fkX5_9 : FK RX5 9 5 6 := ⟨RX5, TX5, 7, ckX5, by decide, hw (tb2 (List.mem_of_getElem? (i := 83) rfl)) rfl⟩
theorem fkX5_20 : FK RX5 20 5 0 := ⟨RX5, TX5, 7, ckX5, by decide, hw (tb2 (List.mem_of_getElem? (i := 76) rfl)) rfl⟩
theorem fkX5_24 : FK RX5 24 5 1 := ⟨RX5, TX5, 7, ckX5, by decide, hw (tb2 (List.mem_of_getElem? (i := 77) rfl)) rfl⟩
theorem fkX5_28 : FK RX5 28 5 2 := ⟨RX5, TX5, 7, ckX5, by decide, hw (tb2 (List.mem_of_getElem? (i := 78) rfl)) rfl⟩
theorem fkX5_32 : FK RX5 32 5 3 := ⟨RX5, TX5, 7, ckX5, by decide, hw (tb2 (List.mem_of_getElem? (i := 79) rfl)) rfl⟩
theorem fkX5_41 : FK RX5 41 8 2 := ⟨RX8, TX8, 7, ckX8, by decide, hw (tb2 (List.mem_of_getElem? (i := 52) rfl)) rfl⟩
theorem fkX5_44 : FK RX5 44 2 1 := ⟨RX2, TX2, 16, ckX2, by decide, hw (tb1 (List.mem_of_getElem? (i := 61) rfl)) rfl⟩
theorem fkX5_54 : FK RX5 54 8 3 := ⟨RX8, TX8, 7, ckX8, by decide, hw (tb2 (List.mem_of_getElem? (i := 53) rfl)) rfl⟩
theorem fkX5_74 : FK RX5 74 5 5 := ⟨RX5, TX5, 7, ckX5, by decide, hw (tb2 (List.mem_of_getElem? (i := 81) rfl)) rfl⟩
theorem fkX5_83 : FK RX5 83 5 4 := ⟨RX5, TX5, 7, ckX5, by decide, hw (tb2 (List.mem_of_getElem? (i := 80) rfl)) rfl⟩
theorem fkX5_86 : FK RX5 86 8 5 := ⟨RX8, TX8, 7, ckX8, by decide, hw (tb2 (List.mem_of_getElem? (i := 58) rfl)) rfl⟩
theorem fkX5_124 : FK RX5 124 2 2 := ⟨RX2, TX2, 16, ckX2, by decide, hw (tb1 (List.mem_of_getElem? (i := 67) rfl)) rfl⟩
theorem fkX5_127 : FK RX5 127 2 3 := ⟨RX2, TX2, 16, ckX2, by decide, hw (tb1 (List.mem_of_getElem? (i := 72) rfl)) rfl⟩
theorem fkX5_133 : FK RX5 133 2 4 := ⟨RX2, TX2, 16, ckX2, by decide, hw (tb1 (List.mem_of_getElem? (i := 80) rfl)) rfl⟩
theorem fkX5_142 : FK RX5 142 2 11 := ⟨RX2, TX2, 16, ckX2, by decide, hw (tb1 (List.mem_of_getElem? (i := 102) rfl)) rfl⟩
theorem fkX5_150 : FK RX5 150 2 10 := ⟨RX2, TX2, 16, ckX2, by decide, hw (tb1 (List.mem_of_getElem? (i := 98) rfl)) rfl⟩
theorem fkX5_160 : FK RX5 160 2 13 := ⟨RX2, TX2, 16, ckX2, by decide, hw (tb1 (List.mem_of_getElem? (i := 108) rfl)) rfl⟩
theorem fkX5_163 : FK RX5 163 2 12 := ⟨RX2, TX2, 16, ckX2, by decide, hw (tb1 (List.mem_of_getElem? (i := 105) rfl)) rfl⟩
theorem fkX5_169 : FK RX5 169 2 6 := ⟨RX2, TX2, 16, ckX2, by decide, hw (tb1 (List.mem_of_getElem? (i := 85) rfl)) rfl⟩
theorem fkX5_173 : FK RX5 173 2 14 := ⟨RX2, TX2, 16, ckX2, by decide, hw (tb1 (List.mem_of_getElem? (i := 111) rfl)) rfl⟩
theorem fkX5_176 : FK RX5 176 2 7 := ⟨RX2, TX2, 16, ckX2, by decide, hw (tb1 (List.mem_of_getElem? (i := 87) rfl)) rfl⟩
theorem fkX5_179 : FK RX5 179 2 15 := ⟨RX2, TX2, 16, ckX2, by decide, hw (tb1 (List.mem_of_getElem? (i := 114) rfl)) rfl⟩
theorem fkX5_182 : FK RX5 182 2 5 := ⟨RX2, TX2, 16, ckX2, by decide, hw (tb1 (List.mem_of_getElem? (i := 82) rfl)) rfl⟩
theorem fkX5_192 : FK RX5 192 8 4 := ⟨RX8, TX8, 7, ckX8, by decide, hw (tb2 (List.mem_of_getElem? (i := 56) rfl)) rfl⟩
theorem fkX5_202 : FK RX5 202 2 9 := ⟨RX2, TX2, 16, ckX2, by decide, hw (tb1 (List.mem_of_getElem? (i := 92) rfl)) rfl⟩
theorem fkX6_15 : FK RX6 15 6 0 := ⟨RX6, TX6, 2, ckX6, by decide, hw (tb1 (List.mem_of_getElem? (i := 37) rfl)) rfl⟩
theorem fkX6_21 : FK RX6 21 6 1 := ⟨RX6, TX6, 2, ckX6, by decide, hw (tb1 (List.mem_of_getElem? (i := 40) rfl)) rfl⟩
theorem fkX7_9 : FK RX7 9 7 1 := ⟨RX7, TX7, 11, ckX7, by decide, hw (tb1 (List.mem_of_getElem? (i := 162) rfl)) rfl⟩
theorem fkX7_15 : FK RX7 15 7 2 := ⟨RX7, TX7, 11, ckX7, by decide, hw (tb1 (List.mem_of_getElem? (i := 165) rfl)) rfl⟩
theorem fkX7_18 : FK RX7 18 7 3 := ⟨RX7, TX7, 11, ckX7, by decide, hw (tb1 (List.mem_of_getElem? (i := 166) rfl)) rfl⟩
theorem fkX7_21 : FK RX7 21 7 4 := ⟨RX7, TX7, 11, ckX7, by decide, hw (tb1 (List.mem_of_getElem? (i := 168) rfl)) rfl⟩
theorem fkX7_24 : FK RX7 24 7 5 := ⟨RX7, TX7, 11, ckX7, by decide, hw (tb1 (List.mem_of_getElem? (i := 173) rfl)) rfl⟩
theorem fkX7_27 : FK RX7 27 7 6 := ⟨RX7, TX7, 11, ckX7, by decide, hw (tb1 (List.mem_of_getElem? (i := 174) rfl)) rfl⟩
theorem fkX7_34 : FK RX7 34 7 0 := ⟨RX7, TX7, 11, ckX7, by decide, hw (tb1 (List.mem_of_getElem? (i := 157) rfl)) rfl⟩
theorem fkX7_38 : FK RX7 38 2 11 := ⟨RX2, TX2, 16, ckX2, by decide, hw (tb1 (List.mem_of_getElem? (i := 101) rfl)) rfl⟩
theorem fkX7_47 : FK RX7 47 2 4 := ⟨RX2, TX2, 16, ckX2, by decide, hw (tb1 (List.mem_of_getElem? (i := 75) rfl)) rfl⟩
theorem fkX7_54 : FK RX7 54 2 12 := ⟨RX2, TX2, 16, ckX2, by decide, hw (tb1 (List.mem_of_getElem? (i := 104) rfl)) rfl⟩
theorem fkX7_57 : FK RX7 57 2 13 := ⟨RX2, TX2, 16, ckX2, by decide, hw (tb1 (List.mem_of_getElem? (i := 107) rfl)) rfl⟩
theorem fkX7_63 : FK RX7 63 7 9 := ⟨RX7, TX7, 11, ckX7, by decide, hw (tb1 (List.mem_of_getElem? (i := 178) rfl)) rfl⟩
theorem fkX7_75 : FK RX7 75 7 10 := ⟨RX7, TX7, 11, ckX7, by decide, hw (tb1 (List.mem_of_getElem? (i := 180) rfl)) rfl⟩
theorem fkX7_82 : FK RX7 82 7 7 := ⟨RX7, TX7, 11, ckX7, by decide, hw (tb1 (List.mem_of_getElem? (i := 175) rfl)) rfl⟩
theorem fkX7_85 : FK RX7 85 7 8 := ⟨RX7, TX7, 11, ckX7, by decide, hw (tb1 (List.mem_of_getElem? (i := 176) rfl)) rfl⟩
theorem fkX7_114 : FK RX7 114 2 3 := ⟨RX2, TX2, 16, ckX2, by decide, hw (tb1 (List.mem_of_getElem? (i := 73) rfl)) rfl⟩
theorem fkX7_117 : FK RX7 117 6 1 := ⟨RX6, TX6, 2, ckX6, by decide, hw (tb1 (List.mem_of_getElem? (i := 43) rfl)) rfl⟩
theorem fkX7_143 : FK RX7 143 2 10 := ⟨RX2, TX2, 16, ckX2, by decide, hw (tb1 (List.mem_of_getElem? (i := 99) rfl)) rfl⟩
theorem fkX8_9 : FK RX8 9 8 1 := ⟨RX8, TX8, 7, ckX8, by decide, hw (tb2 (List.mem_of_getElem? (i := 50) rfl)) rfl⟩
theorem fkX8_15 : FK RX8 15 8 0 := ⟨RX8, TX8, 7, ckX8, by decide, hw (tb2 (List.mem_of_getElem? (i := 49) rfl)) rfl⟩
theorem fkX8_35 : FK RX8 35 8 2 := ⟨RX8, TX8, 7, ckX8, by decide, hw (tb2 (List.mem_of_getElem? (i := 51) rfl)) rfl⟩
theorem fkX8_39 : FK RX8 39 8 6 := ⟨RX8, TX8, 7, ckX8, by decide, hw (tb2 (List.mem_of_getElem? (i := 59) rfl)) rfl⟩
theorem fkX8_45 : FK RX8 45 6 1 := ⟨RX6, TX6, 2, ckX6, by decide, hw (tb1 (List.mem_of_getElem? (i := 42) rfl)) rfl⟩
theorem fkX8_58 : FK RX8 58 8 5 := ⟨RX8, TX8, 7, ckX8, by decide, hw (tb2 (List.mem_of_getElem? (i := 57) rfl)) rfl⟩
theorem fkX8_64 : FK RX8 64 8 4 := ⟨RX8, TX8, 7, ckX8, by decide, hw (tb2 (List.mem_of_getElem? (i := 55) rfl)) rfl⟩
theorem fkX8_70 : FK RX8 70 8 3 := ⟨RX8, TX8, 7, ckX8, by decide, hw (tb2 (List.mem_of_getElem? (i := 54) rfl)) rfl⟩
theorem fkX9_9 : FK RX9 9 9 2 := ⟨RX9, TX9, 3, ckX9, by decide, hw (tb2 (List.mem_of_getElem? (i := 121) rfl)) rfl⟩
theorem fkX9_15 : FK RX9 15 9 0 := ⟨RX9, TX9, 3, ckX9, by decide, hw (tb2 (List.mem_of_getElem? (i := 119) rfl)) rfl⟩
theorem fkX9_19 : FK RX9 19 9 1 := ⟨RX9, TX9, 3, ckX9, by decide, hw (tb2 (List.mem_of_getElem? (i := 120) rfl)) rfl⟩
theorem fkX9_23 : FK RX9 23 2 10 := ⟨RX2, TX2, 16, ckX2, by decide, hw (tb1 (List.mem_of_getElem? (i := 94) rfl)) rfl⟩
theorem fkX9_32 : FK RX9 32 7 4 := ⟨RX7, TX7, 11, ckX7, by decide, hw (tb1 (List.mem_of_getElem? (i := 169) rfl)) rfl⟩
theorem fkX9_37 : FK RX9 37 2 4 := ⟨RX2, TX2, 16, ckX2, by decide, hw (tb1 (List.mem_of_getElem? (i := 77) rfl)) rfl⟩
theorem fkX9_54 : FK RX9 54 2 14 := ⟨RX2, TX2, 16, ckX2, by decide, hw (tb1 (List.mem_of_getElem? (i := 110) rfl)) rfl⟩
theorem fkX9_67 : FK RX9 67 7 9 := ⟨RX7, TX7, 11, ckX7, by decide, hw (tb1 (List.mem_of_getElem? (i := 179) rfl)) rfl⟩
theorem fkX9_71 : FK RX9 71 7 0 := ⟨RX7, TX7, 11, ckX7, by decide, hw (tb1 (List.mem_of_getElem? (i := 160) rfl)) rfl⟩
theorem fkX9_74 : FK RX9 74 7 10 := ⟨RX7, TX7, 11, ckX7, by decide, hw (tb1 (List.mem_of_getElem? (i := 181) rfl)) rfl⟩
theorem fkX9_77 : FK RX9 77 7 3 := ⟨RX7, TX7, 11, ckX7, by decide, hw (tb1 (List.mem_of_getElem? (i := 167) rfl)) rfl⟩
theorem fkX9_84 : FK RX9 84 2 2 := ⟨RX2, TX2, 16, ckX2, by decide, hw (tb1 (List.mem_of_getElem? (i := 65) rfl)) rfl⟩
theorem fkX9_91 : FK RX9 91 2 3 := ⟨RX2, TX2, 16, ckX2, by decide, hw (tb1 (List.mem_of_getElem? (i := 69) rfl)) rfl⟩
theorem fkX9_102 : FK RX9 102 2 8 := ⟨RX2, TX2, 16, ckX2, by decide, hw (tb1 (List.mem_of_getElem? (i := 89) rfl)) rfl⟩
theorem fkX9_113 : FK RX9 113 2 15 := ⟨RX2, TX2, 16, ckX2, by decide, hw (tb1 (List.mem_of_getElem? (i := 113) rfl)) rfl⟩
theorem fkX11_7 : FK RX11 7 11 0 := ⟨RX11, TX11, 99, ckX11, by decide, hw (tb6 (List.mem_of_getElem? (i := 60) rfl)) rfl⟩
theorem fkX11_13 : FK RX11 13 11 8 := ⟨RX11, TX11, 99, ckX11, by decide, hw (tb6 (List.mem_of_getElem? (i := 68) rfl)) rfl⟩
theorem fkX11_17 : FK RX11 17 11 9 := ⟨RX11, TX11, 99, ckX11, by decide, hw (tb6 (List.mem_of_getElem? (i := 69) rfl)) rfl⟩
theorem fkX11_20 : FK RX11 20 11 11 := ⟨RX11, TX11, 99, ckX11, by decide, hw (tb6 (List.mem_of_getElem? (i := 71) rfl)) rfl⟩
theorem fkX11_24 : FK RX11 24 11 12 := ⟨RX11, TX11, 99, ckX11, by decide, hw (tb6 (List.mem_of_getElem? (i := 72) rfl)) rfl⟩
theorem fkX11_27 : FK RX11 27 11 13 := ⟨RX11, TX11, 99, ckX11, by decide, hw (tb6 (List.mem_of_getElem? (i := 73) rfl)) rfl⟩
theorem fkX11_30 : FK RX11 30 11 14 := ⟨RX11, TX11, 99, ckX11, by decide, hw (tb6 (List.mem_of_getElem? (i := 74) rfl)) rfl⟩
theorem fkX11_33 : FK RX11 33 11 15 := ⟨RX11, TX11, 99, ckX11, by decide, hw (tb6 (List.mem_of_getElem? (i := 75) rfl)) rfl⟩
theorem fkX11_36 : FK RX11 36 11 16 := ⟨RX11, TX11, 99, ckX11, by decide, hw (tb6 (List.mem_of_getElem? (i := 76) rfl)) rfl⟩
theorem fkX11_39 : FK RX11 39 11 17 := ⟨RX11, TX11, 99, ckX11, by decide, hw (tb6 (List.mem_of_getElem? (i := 77) rfl)) rfl⟩
theorem fkX11_42 : FK RX11 42 11 18 := ⟨RX11, TX11, 99, ckX11, by decide, hw (tb6 (List.mem_of_getElem? (i := 78) rfl)) rfl⟩
theorem fkX11_45 : FK RX11 45 11 19 := ⟨RX11, TX11, 99, ckX11, by decide, hw (tb6 (List.mem_of_getElem? (i := 79) rfl)) rfl⟩
theorem fkX11_48 : FK RX11 48 11 20 := ⟨RX11, TX11, 99, ckX11, by decide, hw (tb6 (List.mem_of_getElem? (i := 80) rfl)) rfl⟩
theorem fkX11_51 : FK RX11 51 11 21 := ⟨RX11, TX11, 99, ckX11, by decide, hw (tb6 (List.mem_of_getElem? (i := 81) rfl)) rfl⟩
theorem fkX11_54 : FK RX11 54 11 22 := ⟨RX11, TX11, 99, ckX11, by decide, hw (tb6 (List.mem_of_getElem? (i := 82) rfl)) rfl⟩
theorem fkX11_57 : FK RX11 57 11 23 := ⟨RX11, TX11, 99, ckX11, by decide, hw (tb6 (List.mem_of_getElem? (i := 83) rfl)) rfl⟩
theorem fkX11_60 : FK RX11 60 11 24 := ⟨RX11, TX11, 99, ckX11, by decide, hw (tb6 (List.mem_of_getElem? (i := 84) rfl)) rfl⟩
theorem fkX11_63 : FK RX11 63 11 25 := ⟨RX11, TX11, 99, ckX11, by decide, hw (tb6 (List.mem_of_getElem? (i := 85) rfl)) rfl⟩
theorem fkX11_66 : FK RX11 66 11 26 := ⟨RX11, TX11, 99, ckX11, by decide, hw (tb6 (List.mem_of_getElem? (i := 86) rfl)) rfl⟩
theorem fkX11_69 : FK RX11 69 11 27 := ⟨RX11, TX11, 99, ckX11, by decide, hw (tb6 (List.mem_of_getElem? (i := 87) rfl)) rfl⟩
theorem fkX11_72 : FK RX11 72 11 28 := ⟨RX11, TX11, 99, ckX11, by decide, hw (tb6 (List.mem_of_getElem? (i := 88) rfl)) rfl⟩
theorem fkX11_75 : FK RX11 75 11 29 := ⟨RX11, TX11, 99, ckX11, by decide, hw (tb6 (List.mem_of_getElem? (i := 89) rfl)) rfl⟩
theorem fkX11_78 : FK RX11 78 11 30 := ⟨RX11, TX11, 99, ckX11, by decide, hw (tb6 (List.mem_of_getElem? (i := 90) rfl)) rfl⟩
theorem fkX11_81 : FK RX11 81 11 31 := ⟨RX11, TX11, 99, ckX11, by decide, hw (tb6 (List.mem_of_getElem? (i := 91) rfl)) rfl⟩
theorem fkX11_84 : FK RX11 84 11 32 := ⟨RX11, TX11, 99, ckX11, by decide, hw (tb6 (List.mem_of_getElem? (i := 92) rfl)) rfl⟩
theorem fkX11_87 : FK RX11 87 11 33 := ⟨RX11, TX11, 99, ckX11, by decide, hw (tb6 (List.mem_of_getElem? (i := 93) rfl)) rfl⟩
theorem fkX11_90 : FK RX11 90 11 34 := ⟨RX11, TX11, 99, ckX11, by decide, hw (tb6 (List.mem_of_getElem? (i := 94) rfl)) rfl⟩
theorem fkX11_93 : FK RX11 93 11 36 := ⟨RX11, TX11, 99, ckX11, by decide, hw (tb6 (List.mem_of_getElem? (i := 96) rfl)) rfl⟩
theorem fkX11_96 : FK RX11 96 11 37 := ⟨RX11, TX11, 99, ckX11, by decide, hw (tb6 (List.mem_of_getElem? (i := 97) rfl)) rfl⟩
theorem fkX11_99 : FK RX11 99 11 38 := ⟨RX11, TX11, 99, ckX11, by decide, hw (tb6 (List.mem_of_getElem? (i := 98) rfl)) rfl⟩
theorem fkX11_103 : FK RX11 103 11 39 := ⟨RX11, TX11, 99, ckX11, by decide, hw (tb6 (List.mem_of_getElem? (i := 99) rfl)) rfl⟩
theorem fkX11_106 : FK RX11 106 11 40 := ⟨RX11, TX11, 99, ckX11, by decide, hw (tb6 (List.mem_of_getElem? (i := 100) rfl)) rfl⟩
theorem fkX11_109 : FK RX11 109 11 41 := ⟨RX11, TX11, 99, ckX11, by decide, hw (tb6 (List.mem_of_getElem? (i := 101) rfl)) rfl⟩
theorem fkX11_112 : FK RX11 112 11 42 := ⟨RX11, TX11, 99, ckX11, by decide, hw (tb6 (List.mem_of_getElem? (i := 102) rfl)) rfl⟩
theorem fkX11_115 : FK RX11 115 11 43 := ⟨RX11, TX11, 99, ckX11, by decide, hw (tb6 (List.mem_of_getElem? (i := 103) rfl)) rfl⟩
theorem fkX11_118 : FK RX11 118 11 48 := ⟨RX11, TX11, 99, ckX11, by decide, hw (tb6 (List.mem_of_getElem? (i := 108) rfl)) rfl⟩
theorem fkX11_121 : FK RX11 121 11 49 := ⟨RX11, TX11, 99, ckX11, by decide, hw (tb6 (List.mem_of_getElem? (i := 109) rfl)) rfl⟩
theorem fkX11_124 : FK RX11 124 11 54 := ⟨RX11, TX11, 99, ckX11, by decide, hw (tb6 (List.mem_of_getElem? (i := 114) rfl)) rfl⟩
theorem fkX11_127 : FK RX11 127 11 56 := ⟨RX11, TX11, 99, ckX11, by decide, hw (tb6 (List.mem_of_getElem? (i := 116) rfl)) rfl⟩
theorem fkX11_130 : FK RX11 130 11 57 := ⟨RX11, TX11, 99, ckX11, by decide, hw (tb6 (List.mem_of_getElem? (i := 117) rfl)) rfl⟩
theorem fkX11_133 : FK RX11 133 11 59 := ⟨RX11, TX11, 99, ckX11, by decide, hw (tb6 (List.mem_of_getElem? (i := 119) rfl)) rfl⟩
theorem fkX11_136 : FK RX11 136 11 62 := ⟨RX11, TX11, 99, ckX11, by decide, hw (tb6 (List.mem_of_getElem? (i := 122) rfl)) rfl⟩
theorem fkX11_140 : FK RX11 140 11 63 := ⟨RX11, TX11, 99, ckX11, by decide, hw (tb6 (List.mem_of_getElem? (i := 123) rfl)) rfl⟩
theorem fkX11_143 : FK RX11 143 11 64 := ⟨RX11, TX11, 99, ckX11, by decide, hw (tb6 (List.mem_of_getElem? (i := 124) rfl)) rfl⟩
theorem fkX11_146 : FK RX11 146 11 65 := ⟨RX11, TX11, 99, ckX11, by decide, hw (tb6 (List.mem_of_getElem? (i := 125) rfl)) rfl⟩
theorem fkX11_149 : FK RX11 149 11 66 := ⟨RX11, TX11, 99, ckX11, by decide, hw (tb6 (List.mem_of_getElem? (i := 126) rfl)) rfl⟩
theorem fkX11_152 : FK RX11 152 11 67 := ⟨RX11, TX11, 99, ckX11, by decide, hw (tb6 (List.mem_of_getElem? (i := 127) rfl)) rfl⟩
theorem fkX11_155 : FK RX11 155 11 68 := ⟨RX11, TX11, 99, ckX11, by decide, hw (tb6 (List.mem_of_getElem? (i := 128) rfl)) rfl⟩
theorem fkX11_158 : FK RX11 158 11 69 := ⟨RX11, TX11, 99, ckX11, by decide, hw (tb6 (List.mem_of_getElem? (i := 129) rfl)) rfl⟩
theorem fkX11_161 : FK RX11 161 11 70 := ⟨RX11, TX11, 99, ckX11, by decide, hw (tb6 (List.mem_of_getElem? (i := 130) rfl)) rfl⟩
theorem fkX11_164 : FK RX11 164 11 71 := ⟨RX11, TX11, 99, ckX11, by decide, hw (tb6 (List.mem_of_getElem? (i := 131) rfl)) rfl⟩
theorem fkX11_167 : FK RX11 167 11 72 := ⟨RX11, TX11, 99, ckX11, by decide, hw (tb6 (List.mem_of_getElem? (i := 132) rfl)) rfl⟩
theorem fkX11_170 : FK RX11 170 11 73 := ⟨RX11, TX11, 99, ckX11, by decide, hw (tb6 (List.mem_of_getElem? (i := 133) rfl)) rfl⟩
theorem fkX11_173 : FK RX11 173 11 74 := ⟨RX11, TX11, 99, ckX11, by decide, hw (tb6 (List.mem_of_getElem? (i := 134) rfl)) rfl⟩
theorem fkX11_176 : FK RX11 176 11 75 := ⟨RX11, TX11, 99, ckX11, by decide, hw (tb6 (List.mem_of_getElem? (i := 135) rfl)) rfl⟩
theorem fkX11_179 : FK RX11 179 11 76 := ⟨RX11, TX11, 99, ckX11, by decide, hw (tb6 (List.mem_of_getElem? (i := 136) rfl)) rfl⟩
theorem fkX11_182 : FK RX11 182 11 77 := ⟨RX11, TX11, 99, ckX11, by decide, hw (tb6 (List.mem_of_getElem? (i := 137) rfl)) rfl⟩
theorem fkX11_185 : FK RX11 185 11 78 := ⟨RX11, TX11, 99, ckX11, by decide, hw (tb6 (List.mem_of_getElem? (i := 138) rfl)) rfl⟩
theorem fkX11_188 : FK RX11 188 11 79 := ⟨RX11, TX11, 99, ckX11, by decide, hw (tb6 (List.mem_of_getElem? (i := 139) rfl)) rfl⟩
theorem fkX11_191 : FK RX11 191 11 80 := ⟨RX11, TX11, 99, ckX11, by decide, hw (tb6 (List.mem_of_getElem? (i := 140) rfl)) rfl⟩
theorem fkX11_194 : FK RX11 194 11 81 := ⟨RX11, TX11, 99, ckX11, by decide, hw (tb6 (List.mem_of_getElem? (i := 141) rfl)) rfl⟩
theorem fkX11_197 : FK RX11 197 11 82 := ⟨RX11, TX11, 99, ckX11, by decide, hw (tb6 (List.mem_of_getElem? (i := 142) rfl)) rfl⟩
theorem fkX11_200 : FK RX11 200 11 83 := ⟨RX11, TX11, 99, ckX11, by decide, hw (tb6 (List.mem_of_getElem? (i := 143) rfl)) rfl⟩
theorem fkX11_203 : FK RX11 203 11 84 := ⟨RX11, TX11, 99, ckX11, by decide, hw (tb6 (List.mem_of_getElem? (i := 144) rfl)) rfl⟩
theorem fkX11_206 : FK RX11 206 11 85 := ⟨RX11, TX11, 99, ckX11, by decide, hw (tb6 (List.mem_of_getElem? (i := 145) rfl)) rfl⟩
theorem fkX11_209 : FK RX11 209 11 86 := ⟨RX11, TX11, 99, ckX11, by decide, hw (tb6 (List.mem_of_getElem? (i := 146) rfl)) rfl⟩
theorem fkX11_212 : FK RX11 212 11 87 := ⟨RX11, TX11, 99, ckX11, by decide, hw (tb6 (List.mem_of_getElem? (i := 147) rfl)) rfl⟩
theorem fkX11_215 : FK RX11 215 11 89 := ⟨RX11, TX11, 99, ckX11, by decide, hw (tb6 (List.mem_of_getElem? (i := 149) rfl)) rfl⟩
theorem fkX11_218 : FK RX11 218 11 93 := ⟨RX11, TX11, 99, ckX11, by decide, hw (tb6 (List.mem_of_getElem? (i := 153) rfl)) rfl⟩
theorem fkX11_221 : FK RX11 221 11 97 := ⟨RX11, TX11, 99, ckX11, by decide, hw (tb6 (List.mem_of_getElem? (i := 157) rfl)) rfl⟩
theorem fkX11_224 : FK RX11 224 11 1 := ⟨RX11, TX11, 99, ckX11, by decide, hw (tb6 (List.mem_of_getElem? (i := 61) rfl)) rfl⟩
theorem fkX11_227 : FK RX11 227 11 5 := ⟨RX11, TX11, 99, ckX11, by decide, hw (tb6 (List.mem_of_getElem? (i := 65) rfl)) rfl⟩
theorem fkX11_230 : FK RX11 230 11 6 := ⟨RX11, TX11, 99, ckX11, by decide, hw (tb6 (List.mem_of_getElem? (i := 66) rfl)) rfl⟩
theorem fkX11_233 : FK RX11 233 11 2 := ⟨RX11, TX11, 99, ckX11, by decide, hw (tb6 (List.mem_of_getElem? (i := 62) rfl)) rfl⟩
theorem fkX11_236 : FK RX11 236 11 3 := ⟨RX11, TX11, 99, ckX11, by decide, hw (tb6 (List.mem_of_getElem? (i := 63) rfl)) rfl⟩
theorem fkX11_247 : FK RX11 247 11 4 := ⟨RX11, TX11, 99, ckX11, by decide, hw (tb6 (List.mem_of_getElem? (i := 64) rfl)) rfl⟩
theorem fkX11_267 : FK RX11 267 11 10 := ⟨RX11, TX11, 99, ckX11, by decide, hw (tb6 (List.mem_of_getElem? (i := 70) rfl)) rfl⟩
theorem fkX11_278 : FK RX11 278 11 35 := ⟨RX11, TX11, 99, ckX11, by decide, hw (tb6 (List.mem_of_getElem? (i := 95) rfl)) rfl⟩
theorem fkX11_285 : FK RX11 285 11 47 := ⟨RX11, TX11, 99, ckX11, by decide, hw (tb6 (List.mem_of_getElem? (i := 107) rfl)) rfl⟩
theorem fkX11_315 : FK RX11 315 11 88 := ⟨RX11, TX11, 99, ckX11, by decide, hw (tb6 (List.mem_of_getElem? (i := 148) rfl)) rfl⟩
theorem fkX11_318 : FK RX11 318 11 90 := ⟨RX11, TX11, 99, ckX11, by decide, hw (tb6 (List.mem_of_getElem? (i := 150) rfl)) rfl⟩
theorem fkX11_321 : FK RX11 321 11 91 := ⟨RX11, TX11, 99, ckX11, by decide, hw (tb6 (List.mem_of_getElem? (i := 151) rfl)) rfl⟩
theorem fkX11_324 : FK RX11 324 11 92 := ⟨RX11, TX11, 99, ckX11, by decide, hw (tb6 (List.mem_of_getElem? (i := 152) rfl)) rfl⟩
theorem fkX11_333 : FK RX11 333 11 44 := ⟨RX11, TX11, 99, ckX11, by decide, hw (tb6 (List.mem_of_getElem? (i := 104) rfl)) rfl⟩
theorem fkX11_336 : FK RX11 336 11 45 := ⟨RX11, TX11, 99, ckX11, by decide, hw (tb6 (List.mem_of_getElem? (i := 105) rfl)) rfl⟩
theorem fkX11_357 : FK RX11 357 11 7 := ⟨RX11, TX11, 99, ckX11, by decide, hw (tb6 (List.mem_of_getElem? (i := 67) rfl)) rfl⟩
theorem fkX11_363 : FK RX11 363 11 46 := ⟨RX11, TX11, 99, ckX11, by decide, hw (tb6 (List.mem_of_getElem? (i := 106) rfl)) rfl⟩
theorem fkX11_367 : FK RX11 367 11 60 := ⟨RX11, TX11, 99, ckX11, by decide, hw (tb6 (List.mem_of_getElem? (i := 120) rfl)) rfl⟩
theorem fkX11_370 : FK RX11 370 11 55 := ⟨RX11, TX11, 99, ckX11, by decide, hw (tb6 (List.mem_of_getElem? (i := 115) rfl)) rfl⟩
theorem fkX11_401 : FK RX11 401 11 94 := ⟨RX11, TX11, 99, ckX11, by decide, hw (tb6 (List.mem_of_getElem? (i := 154) rfl)) rfl⟩
theorem fkX11_418 : FK RX11 418 11 50 := ⟨RX11, TX11, 99, ckX11, by decide, hw (tb6 (List.mem_of_getElem? (i := 110) rfl)) rfl⟩
theorem fkX11_421 : FK RX11 421 11 51 := ⟨RX11, TX11, 99, ckX11, by decide, hw (tb6 (List.mem_of_getElem? (i := 111) rfl)) rfl⟩
theorem fkX11_427 : FK RX11 427 11 53 := ⟨RX11, TX11, 99, ckX11, by decide, hw (tb6 (List.mem_of_getElem? (i := 113) rfl)) rfl⟩
theorem fkX11_430 : FK RX11 430 11 52 := ⟨RX11, TX11, 99, ckX11, by decide, hw (tb6 (List.mem_of_getElem? (i := 112) rfl)) rfl⟩
theorem fkX11_521 : FK RX11 521 11 58 := ⟨RX11, TX11, 99, ckX11, by decide, hw (tb6 (List.mem_of_getElem? (i := 118) rfl)) rfl⟩
theorem fkX11_538 : FK RX11 538 11 61 := ⟨RX11, TX11, 99, ckX11, by decide, hw (tb6 (List.mem_of_getElem? (i := 121) rfl)) rfl⟩
theorem fkX11_637 : FK RX11 637 11 95 := ⟨RX11, TX11, 99, ckX11, by decide, hw (tb6 (List.mem_of_getElem? (i := 155) rfl)) rfl⟩
theorem fkX11_642 : FK RX11 642 11 96 := ⟨RX11, TX11, 99, ckX11, by decide, hw (tb6 (List.mem_of_getElem? (i := 156) rfl)) rfl⟩
theorem fkX11_658 : FK RX11 658 11 98 := ⟨RX11, TX11, 99, ckX11, by decide, hw (tb6 (List.mem_of_getElem? (i := 158) rfl)) rfl⟩
theorem nkX0_init : NK mX0_init 5 := ⟨cdX0_init, by decide, by decide, tb1 (List.mem_of_getElem? (i := 16) rfl), ⟨by decide, by decide⟩, by decide +kernel⟩
theorem imX0_init : Cond.instanceMethod mX0_init.1 ∈ lw_tbl := tb2 (List.mem_of_getElem? (i := 169) rfl)
theorem nkX0_areRows : NK mX0_areRows 1 := ⟨cdX0_areRows, by decide, by decide, tb1 (List.mem_of_getElem? (i := 16) rfl), ⟨by decide, by decide⟩, by decide +kernel⟩
theorem imX0_areRows : Cond.instanceMethod mX0_areRows.1 ∈ lw_tbl := tb5 (List.mem_of_getElem? (i := 76) rfl)
theorem slX0_areRows : Cond.selects mX0_areRows.1.cls mX0_areRows.1 mX0_areRows.1 ∈ lw_tbl := tb5 (List.mem_of_getElem? (i := 77) rfl)
theorem nkX0_findSources : NK mX0_findSources 2 := ⟨cdX0_findSources, by decide, by decide, tb1 (List.mem_of_getElem? (i := 16) rfl), ⟨by decide, by decide⟩, by decide +kernel⟩
theorem imX0_findSources : Cond.instanceMethod mX0_findSources.1 ∈ lw_tbl := tb5 (List.mem_of_getElem? (i := 87) rfl)
theorem slX0_findSources : Cond.selects mX0_findSources.1.cls mX0_findSources.1 mX0_findSources.1 ∈ lw_tbl := tb5 (List.mem_of_getElem? (i := 88) rfl)
theorem nkX0_lastSeen : NK mX0_lastSeen 0 := ⟨cdX0_lastSeen, by decide, by decide, tb1 (List.mem_of_getElem? (i := 16) rfl), ⟨by decide, by decide⟩, by decide +kernel⟩
theorem imX0_lastSeen : Cond.instanceMethod mX0_lastSeen.1 ∈ lw_tbl := tb5 (List.mem_of_getElem? (i := 92) rfl)
theorem slX0_lastSeen : Cond.selects mX0_lastSeen.1.cls mX0_lastSeen.1 mX0_lastSeen.1 ∈ lw_tbl := List.mem_append_left _ (List.mem_of_getElem? (i := 45) rfl)
theorem nkX0_isSource : NK mX0_isSource 4 := ⟨cdX0_isSource, by decide, by decide, tb1 (List.mem_of_getElem? (i := 16) rfl), ⟨by decide, by decide⟩, by decide +kernel⟩
theorem imX0_isSource : Cond.instanceMethod mX0_isSource.1 ∈ lw_tbl := tb5 (List.mem_of_getElem? (i := 97) rfl)
theorem slX0_isSource : Cond.selects mX0_isSource.1.cls mX0_isSource.1 mX0_isSource.1 ∈ lw_tbl := List.mem_append_left _ (List.mem_of_getElem? (i := 46) rfl)
theorem nkX0_isAsSeen : NK mX0_isAsSeen 1 := ⟨cdX0_isAsSeen, by decide, by decide, tb1 (List.mem_of_getElem? (i := 16) rfl), ⟨by decide, by decide⟩, by decide +kernel⟩
theorem imX0_isAsSeen : Cond.instanceMethod mX0_isAsSeen.1 ∈ lw_tbl := tb5 (List.mem_of_getElem? (i := 113) rfl)
theorem slX0_isAsSeen : Cond.selects mX0_isAsSeen.1.cls mX0_isAsSeen.1 mX0_isAsSeen.1 ∈ lw_tbl := List.mem_append_left _ (List.mem_of_getElem? (i := 47) rfl)
theorem nkX0_findTelling : NK mX0_findTelling 3 := ⟨cdX0_findTelling, by decide, by decide, tb1 (List.mem_of_getElem? (i := 16) rfl), ⟨by decide, by decide⟩, by decide +kernel⟩
theorem imX0_findTelling : Cond.instanceMethod mX0_findTelling.1 ∈ lw_tbl := tb5 (List.mem_of_getElem? (i := 121) rfl)
theorem slX0_findTelling : Cond.selects mX0_findTelling.1.cls mX0_findTelling.1 mX0_findTelling.1 ∈ lw_tbl := tb5 (List.mem_of_getElem? (i := 122) rfl)
theorem nkX0_tracePath : NK mX0_tracePath 4 := ⟨cdX0_tracePath, by decide, by decide, tb1 (List.mem_of_getElem? (i := 16) rfl), ⟨by decide, by decide⟩, by decide +kernel⟩
theorem imX0_tracePath : Cond.instanceMethod mX0_tracePath.1 ∈ lw_tbl := tb5 (List.mem_of_getElem? (i := 127) rfl)
theorem slX0_tracePath : Cond.selects mX0_tracePath.1.cls mX0_tracePath.1 mX0_tracePath.1 ∈ lw_tbl := List.mem_append_left _ (List.mem_of_getElem? (i := 48) rfl)
theorem nkX0_pathCell : NK mX0_pathCell 3 := ⟨cdX0_pathCell, by decide, by decide, tb1 (List.mem_of_getElem? (i := 16) rfl), ⟨by decide, by decide⟩, by decide +kernel⟩
theorem scX0_pathCell : Cond.static mX0_pathCell.1 ∈ lw_tbl := tb5 (List.mem_of_getElem? (i := 130) rfl)
theorem nkX0_mostLeft : NK mX0_mostLeft 3 := ⟨cdX0_mostLeft, by decide, by decide, tb1 (List.mem_of_getElem? (i := 16) rfl), ⟨by decide, by decide⟩, by decide +kernel⟩
theorem imX0_mostLeft : Cond.instanceMethod mX0_mostLeft.1 ∈ lw_tbl := tb5 (List.mem_of_getElem? (i := 135) rfl)
theorem slX0_mostLeft : Cond.selects mX0_mostLeft.1.cls mX0_mostLeft.1 mX0_mostLeft.1 ∈ lw_tbl := List.mem_append_left _ (List.mem_of_getElem? (i := 49) rfl)
theorem nkX1_init : NK mX1_init 1 := ⟨cdX1_init, by decide, by decide, tb1 (List.mem_of_getElem? (i := 13) rfl), ⟨by decide, by decide⟩, by decide +kernel⟩
theorem imX1_init : Cond.instanceMethod mX1_init.1 ∈ lw_tbl := tb2 (List.mem_of_getElem? (i := 103) rfl)
theorem nkX1_worth : NK mX1_worth 5 := ⟨cdX1_worth, by decide, by decide, tb1 (List.mem_of_getElem? (i := 13) rfl), ⟨by decide, by decide⟩, by decide +kernel⟩
theorem imX1_worth : Cond.instanceMethod mX1_worth.1 ∈ lw_tbl := tb4 (List.mem_of_getElem? (i := 140) rfl)
theorem slX1_worth : Cond.selects mX1_worth.1.cls mX1_worth.1 mX1_worth.1 ∈ lw_tbl := tb4 (List.mem_of_getElem? (i := 141) rfl)
theorem nkX1_needsOf : NK mX1_needsOf 1 := ⟨cdX1_needsOf, by decide, by decide, tb1 (List.mem_of_getElem? (i := 13) rfl), ⟨by decide, by decide⟩, by decide +kernel⟩
theorem scX1_needsOf : Cond.static mX1_needsOf.1 ∈ lw_tbl := tb4 (List.mem_of_getElem? (i := 145) rfl)
theorem nkX1_look : NK mX1_look 5 := ⟨cdX1_look, by decide, by decide, tb1 (List.mem_of_getElem? (i := 13) rfl), ⟨by decide, by decide⟩, by decide +kernel⟩
theorem imX1_look : Cond.instanceMethod mX1_look.1 ∈ lw_tbl := tb4 (List.mem_of_getElem? (i := 149) rfl)
theorem slX1_look : Cond.selects mX1_look.1.cls mX1_look.1 mX1_look.1 ∈ lw_tbl := List.mem_append_left _ (List.mem_of_getElem? (i := 35) rfl)
theorem nkX1_turn : NK mX1_turn 4 := ⟨cdX1_turn, by decide, by decide, tb1 (List.mem_of_getElem? (i := 13) rfl), ⟨by decide, by decide⟩, by decide +kernel⟩
theorem imX1_turn : Cond.instanceMethod mX1_turn.1 ∈ lw_tbl := tb4 (List.mem_of_getElem? (i := 158) rfl)
theorem slX1_turn : Cond.selects mX1_turn.1.cls mX1_turn.1 mX1_turn.1 ∈ lw_tbl := List.mem_append_left _ (List.mem_of_getElem? (i := 36) rfl)
theorem nkX1_join : NK mX1_join 3 := ⟨cdX1_join, by decide, by decide, tb1 (List.mem_of_getElem? (i := 13) rfl), ⟨by decide, by decide⟩, by decide +kernel⟩
theorem scX1_join : Cond.static mX1_join.1 ∈ lw_tbl := tb4 (List.mem_of_getElem? (i := 163) rfl)
theorem nkX2_init : NK mX2_init 0 := ⟨cdX2_init, by decide, by decide, tb1 (List.mem_of_getElem? (i := 4) rfl), ⟨by decide, by decide⟩, by decide +kernel⟩
theorem imX2_init : Cond.instanceMethod mX2_init.1 ∈ lw_tbl := tb1 (List.mem_of_getElem? (i := 53) rfl)
theorem nkX2_begin : NK mX2_begin 0 := ⟨cdX2_begin, by decide, by decide, tb1 (List.mem_of_getElem? (i := 4) rfl), ⟨by decide, by decide⟩, by decide +kernel⟩
theorem imX2_begin : Cond.instanceMethod mX2_begin.1 ∈ lw_tbl := tb3 (List.mem_of_getElem? (i := 74) rfl)
theorem slX2_begin : Cond.selects mX2_begin.1.cls mX2_begin.1 mX2_begin.1 ∈ lw_tbl := tb3 (List.mem_of_getElem? (i := 75) rfl)
theorem nkX2_copyFrom : NK mX2_copyFrom 1 := ⟨cdX2_copyFrom, by decide, by decide, tb1 (List.mem_of_getElem? (i := 4) rfl), ⟨by decide, by decide⟩, by decide +kernel⟩
theorem imX2_copyFrom : Cond.instanceMethod mX2_copyFrom.1 ∈ lw_tbl := tb3 (List.mem_of_getElem? (i := 229) rfl)
theorem slX2_copyFrom : Cond.selects mX2_copyFrom.1.cls mX2_copyFrom.1 mX2_copyFrom.1 ∈ lw_tbl := tb3 (List.mem_of_getElem? (i := 230) rfl)
theorem nkX2_isSeat : NK mX2_isSeat 1 := ⟨cdX2_isSeat, by decide, by decide, tb1 (List.mem_of_getElem? (i := 4) rfl), ⟨by decide, by decide⟩, by decide +kernel⟩
theorem imX2_isSeat : Cond.instanceMethod mX2_isSeat.1 ∈ lw_tbl := tb5 (List.mem_of_getElem? (i := 181) rfl)
theorem slX2_isSeat : Cond.selects mX2_isSeat.1.cls mX2_isSeat.1 mX2_isSeat.1 ∈ lw_tbl := tb5 (List.mem_of_getElem? (i := 182) rfl)
theorem nkX2_isClerk : NK mX2_isClerk 1 := ⟨cdX2_isClerk, by decide, by decide, tb1 (List.mem_of_getElem? (i := 4) rfl), ⟨by decide, by decide⟩, by decide +kernel⟩
theorem imX2_isClerk : Cond.instanceMethod mX2_isClerk.1 ∈ lw_tbl := tb4 (List.mem_of_getElem? (i := 68) rfl)
theorem slX2_isClerk : Cond.selects mX2_isClerk.1.cls mX2_isClerk.1 mX2_isClerk.1 ∈ lw_tbl := tb4 (List.mem_of_getElem? (i := 69) rfl)
theorem nkX2_isMatter : NK mX2_isMatter 1 := ⟨cdX2_isMatter, by decide, by decide, tb1 (List.mem_of_getElem? (i := 4) rfl), ⟨by decide, by decide⟩, by decide +kernel⟩
theorem imX2_isMatter : Cond.instanceMethod mX2_isMatter.1 ∈ lw_tbl := tb4 (List.mem_of_getElem? (i := 64) rfl)
theorem slX2_isMatter : Cond.selects mX2_isMatter.1.cls mX2_isMatter.1 mX2_isMatter.1 ∈ lw_tbl := tb4 (List.mem_of_getElem? (i := 65) rfl)
theorem nkX2_areThere : NK mX2_areThere 2 := ⟨cdX2_areThere, by decide, by decide, tb1 (List.mem_of_getElem? (i := 4) rfl), ⟨by decide, by decide⟩, by decide +kernel⟩
theorem imX2_areThere : Cond.instanceMethod mX2_areThere.1 ∈ lw_tbl := tb4 (List.mem_of_getElem? (i := 110) rfl)
theorem slX2_areThere : Cond.selects mX2_areThere.1.cls mX2_areThere.1 mX2_areThere.1 ∈ lw_tbl := tb4 (List.mem_of_getElem? (i := 111) rfl)
theorem nkX2_isTaken : NK mX2_isTaken 1 := ⟨cdX2_isTaken, by decide, by decide, tb1 (List.mem_of_getElem? (i := 4) rfl), ⟨by decide, by decide⟩, by decide +kernel⟩
theorem imX2_isTaken : Cond.instanceMethod mX2_isTaken.1 ∈ lw_tbl := tb3 (List.mem_of_getElem? (i := 141) rfl)
theorem slX2_isTaken : Cond.selects mX2_isTaken.1.cls mX2_isTaken.1 mX2_isTaken.1 ∈ lw_tbl := tb3 (List.mem_of_getElem? (i := 142) rfl)
theorem nkX3_init : NK mX3_init 0 := ⟨cdX3_init, by decide, by decide, tb1 (List.mem_of_getElem? (i := 6) rfl), ⟨by decide, by decide⟩, by decide +kernel⟩
theorem imX3_init : Cond.instanceMethod mX3_init.1 ∈ lw_tbl := tb1 (List.mem_of_getElem? (i := 208) rfl)
theorem nkX3_clear : NK mX3_clear 0 := ⟨cdX3_clear, by decide, by decide, tb1 (List.mem_of_getElem? (i := 6) rfl), ⟨by decide, by decide⟩, by decide +kernel⟩
theorem imX3_clear : Cond.instanceMethod mX3_clear.1 ∈ lw_tbl := tb4 (List.mem_of_getElem? (i := 28) rfl)
theorem slX3_clear : Cond.selects mX3_clear.1.cls mX3_clear.1 mX3_clear.1 ∈ lw_tbl := tb4 (List.mem_of_getElem? (i := 29) rfl)
theorem nkX3_keep : NK mX3_keep 1 := ⟨cdX3_keep, by decide, by decide, tb1 (List.mem_of_getElem? (i := 6) rfl), ⟨by decide, by decide⟩, by decide +kernel⟩
theorem imX3_keep : Cond.instanceMethod mX3_keep.1 ∈ lw_tbl := tb5 (List.mem_of_getElem? (i := 144) rfl)
theorem slX3_keep : Cond.selects mX3_keep.1.cls mX3_keep.1 mX3_keep.1 ∈ lw_tbl := tb5 (List.mem_of_getElem? (i := 145) rfl)
theorem nkX3_goBack : NK mX3_goBack 1 := ⟨cdX3_goBack, by decide, by decide, tb1 (List.mem_of_getElem? (i := 6) rfl), ⟨by decide, by decide⟩, by decide +kernel⟩
theorem imX3_goBack : Cond.instanceMethod mX3_goBack.1 ∈ lw_tbl := tb5 (List.mem_of_getElem? (i := 222) rfl)
theorem slX3_goBack : Cond.selects mX3_goBack.1.cls mX3_goBack.1 mX3_goBack.1 ∈ lw_tbl := tb5 (List.mem_of_getElem? (i := 223) rfl)
theorem nkX4_init : NK mX4_init 4 := ⟨cdX4_init, by decide, by decide, tb1 (List.mem_of_getElem? (i := 15) rfl), ⟨by decide, by decide⟩, by decide +kernel⟩
theorem imX4_init : Cond.instanceMethod mX4_init.1 ∈ lw_tbl := tb2 (List.mem_of_getElem? (i := 132) rfl)
theorem nkX4_powerOf : NK mX4_powerOf 1 := ⟨cdX4_powerOf, by decide, by decide, tb1 (List.mem_of_getElem? (i := 15) rfl), ⟨by decide, by decide⟩, by decide +kernel⟩
theorem imX4_powerOf : Cond.instanceMethod mX4_powerOf.1 ∈ lw_tbl := tb4 (List.mem_of_getElem? (i := 97) rfl)
theorem slX4_powerOf : Cond.selects mX4_powerOf.1.cls mX4_powerOf.1 mX4_powerOf.1 ∈ lw_tbl := tb4 (List.mem_of_getElem? (i := 98) rfl)
theorem nkX4_roomOf : NK mX4_roomOf 1 := ⟨cdX4_roomOf, by decide, by decide, tb1 (List.mem_of_getElem? (i := 15) rfl), ⟨by decide, by decide⟩, by decide +kernel⟩
theorem imX4_roomOf : Cond.instanceMethod mX4_roomOf.1 ∈ lw_tbl := tb4 (List.mem_of_getElem? (i := 102) rfl)
theorem slX4_roomOf : Cond.selects mX4_roomOf.1.cls mX4_roomOf.1 mX4_roomOf.1 ∈ lw_tbl := List.mem_append_left _ (List.mem_of_getElem? (i := 34) rfl)
theorem nkX4_findDiscreet : NK mX4_findDiscreet 2 := ⟨cdX4_findDiscreet, by decide, by decide, tb1 (List.mem_of_getElem? (i := 15) rfl), ⟨by decide, by decide⟩, by decide +kernel⟩
theorem imX4_findDiscreet : Cond.instanceMethod mX4_findDiscreet.1 ∈ lw_tbl := tb4 (List.mem_of_getElem? (i := 238) rfl)
theorem slX4_findDiscreet : Cond.selects mX4_findDiscreet.1.cls mX4_findDiscreet.1 mX4_findDiscreet.1 ∈ lw_tbl := tb4 (List.mem_of_getElem? (i := 239) rfl)
theorem nkX4_countKnowing : NK mX4_countKnowing 4 := ⟨cdX4_countKnowing, by decide, by decide, tb1 (List.mem_of_getElem? (i := 15) rfl), ⟨by decide, by decide⟩, by decide +kernel⟩
theorem imX4_countKnowing : Cond.instanceMethod mX4_countKnowing.1 ∈ lw_tbl := tb5 (List.mem_of_getElem? (i := 3) rfl)
theorem slX4_countKnowing : Cond.selects mX4_countKnowing.1.cls mX4_countKnowing.1 mX4_countKnowing.1 ∈ lw_tbl := List.mem_append_left _ (List.mem_of_getElem? (i := 41) rfl)
theorem nkX4_findPressed : NK mX4_findPressed 3 := ⟨cdX4_findPressed, by decide, by decide, tb1 (List.mem_of_getElem? (i := 15) rfl), ⟨by decide, by decide⟩, by decide +kernel⟩
theorem imX4_findPressed : Cond.instanceMethod mX4_findPressed.1 ∈ lw_tbl := tb5 (List.mem_of_getElem? (i := 25) rfl)
theorem slX4_findPressed : Cond.selects mX4_findPressed.1.cls mX4_findPressed.1 mX4_findPressed.1 ∈ lw_tbl := tb5 (List.mem_of_getElem? (i := 26) rfl)
theorem nkX4_staysUnaware : NK mX4_staysUnaware 4 := ⟨cdX4_staysUnaware, by decide, by decide, tb1 (List.mem_of_getElem? (i := 15) rfl), ⟨by decide, by decide⟩, by decide +kernel⟩
theorem imX4_staysUnaware : Cond.instanceMethod mX4_staysUnaware.1 ∈ lw_tbl := tb5 (List.mem_of_getElem? (i := 30) rfl)
theorem slX4_staysUnaware : Cond.selects mX4_staysUnaware.1.cls mX4_staysUnaware.1 mX4_staysUnaware.1 ∈ lw_tbl := List.mem_append_left _ (List.mem_of_getElem? (i := 42) rfl)
theorem nkX4_findMops : NK mX4_findMops 0 := ⟨cdX4_findMops, by decide, by decide, tb1 (List.mem_of_getElem? (i := 15) rfl), ⟨by decide, by decide⟩, by decide +kernel⟩
theorem imX4_findMops : Cond.instanceMethod mX4_findMops.1 ∈ lw_tbl := tb5 (List.mem_of_getElem? (i := 48) rfl)
theorem slX4_findMops : Cond.selects mX4_findMops.1.cls mX4_findMops.1 mX4_findMops.1 ∈ lw_tbl := tb5 (List.mem_of_getElem? (i := 49) rfl)
theorem nkX4_spaceOf : NK mX4_spaceOf 1 := ⟨cdX4_spaceOf, by decide, by decide, tb1 (List.mem_of_getElem? (i := 15) rfl), ⟨by decide, by decide⟩, by decide +kernel⟩
theorem imX4_spaceOf : Cond.instanceMethod mX4_spaceOf.1 ∈ lw_tbl := tb5 (List.mem_of_getElem? (i := 54) rfl)
theorem slX4_spaceOf : Cond.selects mX4_spaceOf.1.cls mX4_spaceOf.1 mX4_spaceOf.1 ∈ lw_tbl := List.mem_append_left _ (List.mem_of_getElem? (i := 43) rfl)
theorem nkX4_findDesk : NK mX4_findDesk 1 := ⟨cdX4_findDesk, by decide, by decide, tb1 (List.mem_of_getElem? (i := 15) rfl), ⟨by decide, by decide⟩, by decide +kernel⟩
theorem imX4_findDesk : Cond.instanceMethod mX4_findDesk.1 ∈ lw_tbl := tb5 (List.mem_of_getElem? (i := 62) rfl)
theorem slX4_findDesk : Cond.selects mX4_findDesk.1.cls mX4_findDesk.1 mX4_findDesk.1 ∈ lw_tbl := tb5 (List.mem_of_getElem? (i := 63) rfl)
theorem nkX4_findDesks : NK mX4_findDesks 2 := ⟨cdX4_findDesks, by decide, by decide, tb1 (List.mem_of_getElem? (i := 15) rfl), ⟨by decide, by decide⟩, by decide +kernel⟩
theorem imX4_findDesks : Cond.instanceMethod mX4_findDesks.1 ∈ lw_tbl := tb5 (List.mem_of_getElem? (i := 69) rfl)
theorem slX4_findDesks : Cond.selects mX4_findDesks.1.cls mX4_findDesks.1 mX4_findDesks.1 ∈ lw_tbl := List.mem_append_left _ (List.mem_of_getElem? (i := 44) rfl)
theorem nkX5_init : NK mX5_init 3 := ⟨cdX5_init, by decide, by decide, tb1 (List.mem_of_getElem? (i := 7) rfl), ⟨by decide, by decide⟩, by decide +kernel⟩
theorem imX5_init : Cond.instanceMethod mX5_init.1 ∈ lw_tbl := tb1 (List.mem_of_getElem? (i := 228) rfl)
theorem nkX5_readRegistry : NK mX5_readRegistry 0 := ⟨cdX5_readRegistry, by decide, by decide, tb1 (List.mem_of_getElem? (i := 7) rfl), ⟨by decide, by decide⟩, by decide +kernel⟩
theorem imX5_readRegistry : Cond.instanceMethod mX5_readRegistry.1 ∈ lw_tbl := tb3 (List.mem_of_getElem? (i := 44) rfl)
theorem slX5_readRegistry : Cond.selects mX5_readRegistry.1.cls mX5_readRegistry.1 mX5_readRegistry.1 ∈ lw_tbl := tb3 (List.mem_of_getElem? (i := 45) rfl)
theorem nkX5_readQuestion : NK mX5_readQuestion 0 := ⟨cdX5_readQuestion, by decide, by decide, tb1 (List.mem_of_getElem? (i := 7) rfl), ⟨by decide, by decide⟩, by decide +kernel⟩
theorem imX5_readQuestion : Cond.instanceMethod mX5_readQuestion.1 ∈ lw_tbl := tb5 (List.mem_of_getElem? (i := 235) rfl)
theorem slX5_readQuestion : Cond.selects mX5_readQuestion.1.cls mX5_readQuestion.1 mX5_readQuestion.1 ∈ lw_tbl := tb5 (List.mem_of_getElem? (i := 236) rfl)
theorem nkX5_begin : NK mX5_begin 0 := ⟨cdX5_begin, by decide, by decide, tb1 (List.mem_of_getElem? (i := 7) rfl), ⟨by decide, by decide⟩, by decide +kernel⟩
theorem imX5_begin : Cond.instanceMethod mX5_begin.1 ∈ lw_tbl := tb3 (List.mem_of_getElem? (i := 49) rfl)
theorem slX5_begin : Cond.selects mX5_begin.1.cls mX5_begin.1 mX5_begin.1 ∈ lw_tbl := List.mem_append_left _ (List.mem_of_getElem? (i := 3) rfl)
theorem nkX5_speak : NK mX5_speak 2 := ⟨cdX5_speak, by decide, by decide, tb1 (List.mem_of_getElem? (i := 7) rfl), ⟨by decide, by decide⟩, by decide +kernel⟩
theorem imX5_speak : Cond.instanceMethod mX5_speak.1 ∈ lw_tbl := tb3 (List.mem_of_getElem? (i := 163) rfl)
theorem slX5_speak : Cond.selects mX5_speak.1.cls mX5_speak.1 mX5_speak.1 ∈ lw_tbl := List.mem_append_left _ (List.mem_of_getElem? (i := 19) rfl)
theorem nkX5_refuse : NK mX5_refuse 2 := ⟨cdX5_refuse, by decide, by decide, tb1 (List.mem_of_getElem? (i := 7) rfl), ⟨by decide, by decide⟩, by decide +kernel⟩
theorem imX5_refuse : Cond.instanceMethod mX5_refuse.1 ∈ lw_tbl := tb3 (List.mem_of_getElem? (i := 89) rfl)
theorem slX5_refuse : Cond.selects mX5_refuse.1.cls mX5_refuse.1 mX5_refuse.1 ∈ lw_tbl := List.mem_append_left _ (List.mem_of_getElem? (i := 6) rfl)
theorem nkX5_unfit : NK mX5_unfit 0 := ⟨cdX5_unfit, by decide, by decide, tb1 (List.mem_of_getElem? (i := 7) rfl), ⟨by decide, by decide⟩, by decide +kernel⟩
theorem imX5_unfit : Cond.instanceMethod mX5_unfit.1 ∈ lw_tbl := tb3 (List.mem_of_getElem? (i := 93) rfl)
theorem slX5_unfit : Cond.selects mX5_unfit.1.cls mX5_unfit.1 mX5_unfit.1 ∈ lw_tbl := List.mem_append_left _ (List.mem_of_getElem? (i := 7) rfl)
theorem nkX5_takeSign : NK mX5_takeSign 1 := ⟨cdX5_takeSign, by decide, by decide, tb1 (List.mem_of_getElem? (i := 7) rfl), ⟨by decide, by decide⟩, by decide +kernel⟩
theorem imX5_takeSign : Cond.instanceMethod mX5_takeSign.1 ∈ lw_tbl := tb3 (List.mem_of_getElem? (i := 193) rfl)
theorem slX5_takeSign : Cond.selects mX5_takeSign.1.cls mX5_takeSign.1 mX5_takeSign.1 ∈ lw_tbl := List.mem_append_left _ (List.mem_of_getElem? (i := 25) rfl)
theorem nkX5_takeWord : NK mX5_takeWord 1 := ⟨cdX5_takeWord, by decide, by decide, tb1 (List.mem_of_getElem? (i := 7) rfl), ⟨by decide, by decide⟩, by decide +kernel⟩
theorem imX5_takeWord : Cond.instanceMethod mX5_takeWord.1 ∈ lw_tbl := tb3 (List.mem_of_getElem? (i := 134) rfl)
theorem slX5_takeWord : Cond.selects mX5_takeWord.1.cls mX5_takeWord.1 mX5_takeWord.1 ∈ lw_tbl := List.mem_append_left _ (List.mem_of_getElem? (i := 15) rfl)
theorem nkX5_readStatement : NK mX5_readStatement 1 := ⟨cdX5_readStatement, by decide, by decide, tb1 (List.mem_of_getElem? (i := 7) rfl), ⟨by decide, by decide⟩, by decide +kernel⟩
theorem imX5_readStatement : Cond.instanceMethod mX5_readStatement.1 ∈ lw_tbl := tb3 (List.mem_of_getElem? (i := 85) rfl)
theorem slX5_readStatement : Cond.selects mX5_readStatement.1.cls mX5_readStatement.1 mX5_readStatement.1 ∈ lw_tbl := List.mem_append_left _ (List.mem_of_getElem? (i := 5) rfl)
theorem nkX5_readSeats : NK mX5_readSeats 0 := ⟨cdX5_readSeats, by decide, by decide, tb1 (List.mem_of_getElem? (i := 7) rfl), ⟨by decide, by decide⟩, by decide +kernel⟩
theorem imX5_readSeats : Cond.instanceMethod mX5_readSeats.1 ∈ lw_tbl := tb3 (List.mem_of_getElem? (i := 97) rfl)
theorem slX5_readSeats : Cond.selects mX5_readSeats.1.cls mX5_readSeats.1 mX5_readSeats.1 ∈ lw_tbl := List.mem_append_left _ (List.mem_of_getElem? (i := 8) rfl)
theorem nkX5_readMatter : NK mX5_readMatter 0 := ⟨cdX5_readMatter, by decide, by decide, tb1 (List.mem_of_getElem? (i := 7) rfl), ⟨by decide, by decide⟩, by decide +kernel⟩
theorem imX5_readMatter : Cond.instanceMethod mX5_readMatter.1 ∈ lw_tbl := tb3 (List.mem_of_getElem? (i := 117) rfl)
theorem slX5_readMatter : Cond.selects mX5_readMatter.1.cls mX5_readMatter.1 mX5_readMatter.1 ∈ lw_tbl := List.mem_append_left _ (List.mem_of_getElem? (i := 11) rfl)
theorem nkX5_readClerk : NK mX5_readClerk 0 := ⟨cdX5_readClerk, by decide, by decide, tb1 (List.mem_of_getElem? (i := 7) rfl), ⟨by decide, by decide⟩, by decide +kernel⟩
theorem imX5_readClerk : Cond.instanceMethod mX5_readClerk.1 ∈ lw_tbl := tb3 (List.mem_of_getElem? (i := 130) rfl)
theorem slX5_readClerk : Cond.selects mX5_readClerk.1.cls mX5_readClerk.1 mX5_readClerk.1 ∈ lw_tbl := List.mem_append_left _ (List.mem_of_getElem? (i := 14) rfl)
theorem nkX5_readTold : NK mX5_readTold 0 := ⟨cdX5_readTold, by decide, by decide, tb1 (List.mem_of_getElem? (i := 7) rfl), ⟨by decide, by decide⟩, by decide +kernel⟩
theorem imX5_readTold : Cond.instanceMethod mX5_readTold.1 ∈ lw_tbl := tb3 (List.mem_of_getElem? (i := 149) rfl)
theorem slX5_readTold : Cond.selects mX5_readTold.1.cls mX5_readTold.1 mX5_readTold.1 ∈ lw_tbl := List.mem_append_left _ (List.mem_of_getElem? (i := 16) rfl)
theorem nkX5_speakLeaks : NK mX5_speakLeaks 0 := ⟨cdX5_speakLeaks, by decide, by decide, tb1 (List.mem_of_getElem? (i := 7) rfl), ⟨by decide, by decide⟩, by decide +kernel⟩
theorem imX5_speakLeaks : Cond.instanceMethod mX5_speakLeaks.1 ∈ lw_tbl := tb3 (List.mem_of_getElem? (i := 159) rfl)
theorem slX5_speakLeaks : Cond.selects mX5_speakLeaks.1.cls mX5_speakLeaks.1 mX5_speakLeaks.1 ∈ lw_tbl := List.mem_append_left _ (List.mem_of_getElem? (i := 18) rfl)
theorem nkX5_speakShakes : NK mX5_speakShakes 0 := ⟨cdX5_speakShakes, by decide, by decide, tb1 (List.mem_of_getElem? (i := 7) rfl), ⟨by decide, by decide⟩, by decide +kernel⟩
theorem imX5_speakShakes : Cond.instanceMethod mX5_speakShakes.1 ∈ lw_tbl := tb3 (List.mem_of_getElem? (i := 209) rfl)
theorem slX5_speakShakes : Cond.selects mX5_speakShakes.1.cls mX5_speakShakes.1 mX5_speakShakes.1 ∈ lw_tbl := List.mem_append_left _ (List.mem_of_getElem? (i := 29) rfl)
theorem nkX5_readHand : NK mX5_readHand 0 := ⟨cdX5_readHand, by decide, by decide, tb1 (List.mem_of_getElem? (i := 7) rfl), ⟨by decide, by decide⟩, by decide +kernel⟩
theorem imX5_readHand : Cond.instanceMethod mX5_readHand.1 ∈ lw_tbl := tb3 (List.mem_of_getElem? (i := 225) rfl)
theorem slX5_readHand : Cond.selects mX5_readHand.1.cls mX5_readHand.1 mX5_readHand.1 ∈ lw_tbl := List.mem_append_left _ (List.mem_of_getElem? (i := 33) rfl)
theorem nkX5_isNumber : NK mX5_isNumber 0 := ⟨cdX5_isNumber, by decide, by decide, tb1 (List.mem_of_getElem? (i := 7) rfl), ⟨by decide, by decide⟩, by decide +kernel⟩
theorem imX5_isNumber : Cond.instanceMethod mX5_isNumber.1 ∈ lw_tbl := tb3 (List.mem_of_getElem? (i := 106) rfl)
theorem slX5_isNumber : Cond.selects mX5_isNumber.1.cls mX5_isNumber.1 mX5_isNumber.1 ∈ lw_tbl := List.mem_append_left _ (List.mem_of_getElem? (i := 10) rfl)
theorem nkX5_readNumber : NK mX5_readNumber 2 := ⟨cdX5_readNumber, by decide, by decide, tb1 (List.mem_of_getElem? (i := 7) rfl), ⟨by decide, by decide⟩, by decide +kernel⟩
theorem imX5_readNumber : Cond.instanceMethod mX5_readNumber.1 ∈ lw_tbl := tb3 (List.mem_of_getElem? (i := 102) rfl)
theorem slX5_readNumber : Cond.selects mX5_readNumber.1.cls mX5_readNumber.1 mX5_readNumber.1 ∈ lw_tbl := List.mem_append_left _ (List.mem_of_getElem? (i := 9) rfl)
theorem nkX5_isName : NK mX5_isName 0 := ⟨cdX5_isName, by decide, by decide, tb1 (List.mem_of_getElem? (i := 7) rfl), ⟨by decide, by decide⟩, by decide +kernel⟩
theorem imX5_isName : Cond.instanceMethod mX5_isName.1 ∈ lw_tbl := tb3 (List.mem_of_getElem? (i := 125) rfl)
theorem slX5_isName : Cond.selects mX5_isName.1.cls mX5_isName.1 mX5_isName.1 ∈ lw_tbl := List.mem_append_left _ (List.mem_of_getElem? (i := 13) rfl)
theorem nkX5_findName : NK mX5_findName 2 := ⟨cdX5_findName, by decide, by decide, tb1 (List.mem_of_getElem? (i := 7) rfl), ⟨by decide, by decide⟩, by decide +kernel⟩
theorem imX5_findName : Cond.instanceMethod mX5_findName.1 ∈ lw_tbl := tb3 (List.mem_of_getElem? (i := 153) rfl)
theorem slX5_findName : Cond.selects mX5_findName.1.cls mX5_findName.1 mX5_findName.1 ∈ lw_tbl := List.mem_append_left _ (List.mem_of_getElem? (i := 17) rfl)
theorem nkX5_giveName : NK mX5_giveName 1 := ⟨cdX5_giveName, by decide, by decide, tb1 (List.mem_of_getElem? (i := 7) rfl), ⟨by decide, by decide⟩, by decide +kernel⟩
theorem imX5_giveName : Cond.instanceMethod mX5_giveName.1 ∈ lw_tbl := tb3 (List.mem_of_getElem? (i := 121) rfl)
theorem slX5_giveName : Cond.selects mX5_giveName.1.cls mX5_giveName.1 mX5_giveName.1 ∈ lw_tbl := List.mem_append_left _ (List.mem_of_getElem? (i := 12) rfl)
theorem nkX5_readTest : NK mX5_readTest 1 := ⟨cdX5_readTest, by decide, by decide, tb1 (List.mem_of_getElem? (i := 7) rfl), ⟨by decide, by decide⟩, by decide +kernel⟩
theorem imX5_readTest : Cond.instanceMethod mX5_readTest.1 ∈ lw_tbl := tb3 (List.mem_of_getElem? (i := 213) rfl)
theorem slX5_readTest : Cond.selects mX5_readTest.1.cls mX5_readTest.1 mX5_readTest.1 ∈ lw_tbl := List.mem_append_left _ (List.mem_of_getElem? (i := 30) rfl)
theorem nkX5_readBoth : NK mX5_readBoth 1 := ⟨cdX5_readBoth, by decide, by decide, tb1 (List.mem_of_getElem? (i := 7) rfl), ⟨by decide, by decide⟩, by decide +kernel⟩
theorem imX5_readBoth : Cond.instanceMethod mX5_readBoth.1 ∈ lw_tbl := tb3 (List.mem_of_getElem? (i := 217) rfl)
theorem slX5_readBoth : Cond.selects mX5_readBoth.1.cls mX5_readBoth.1 mX5_readBoth.1 ∈ lw_tbl := List.mem_append_left _ (List.mem_of_getElem? (i := 31) rfl)
theorem nkX5_readFact : NK mX5_readFact 1 := ⟨cdX5_readFact, by decide, by decide, tb1 (List.mem_of_getElem? (i := 7) rfl), ⟨by decide, by decide⟩, by decide +kernel⟩
theorem imX5_readFact : Cond.instanceMethod mX5_readFact.1 ∈ lw_tbl := tb3 (List.mem_of_getElem? (i := 221) rfl)
theorem slX5_readFact : Cond.selects mX5_readFact.1.cls mX5_readFact.1 mX5_readFact.1 ∈ lw_tbl := List.mem_append_left _ (List.mem_of_getElem? (i := 32) rfl)
theorem nkX5_readSum : NK mX5_readSum 1 := ⟨cdX5_readSum, by decide, by decide, tb1 (List.mem_of_getElem? (i := 7) rfl), ⟨by decide, by decide⟩, by decide +kernel⟩
theorem imX5_readSum : Cond.instanceMethod mX5_readSum.1 ∈ lw_tbl := tb3 (List.mem_of_getElem? (i := 168) rfl)
theorem slX5_readSum : Cond.selects mX5_readSum.1.cls mX5_readSum.1 mX5_readSum.1 ∈ lw_tbl := List.mem_append_left _ (List.mem_of_getElem? (i := 20) rfl)
theorem nkX5_readProduct : NK mX5_readProduct 1 := ⟨cdX5_readProduct, by decide, by decide, tb1 (List.mem_of_getElem? (i := 7) rfl), ⟨by decide, by decide⟩, by decide +kernel⟩
theorem imX5_readProduct : Cond.instanceMethod mX5_readProduct.1 ∈ lw_tbl := tb3 (List.mem_of_getElem? (i := 172) rfl)
theorem slX5_readProduct : Cond.selects mX5_readProduct.1.cls mX5_readProduct.1 mX5_readProduct.1 ∈ lw_tbl := List.mem_append_left _ (List.mem_of_getElem? (i := 21) rfl)
theorem nkX5_readPart : NK mX5_readPart 1 := ⟨cdX5_readPart, by decide, by decide, tb1 (List.mem_of_getElem? (i := 7) rfl), ⟨by decide, by decide⟩, by decide +kernel⟩
theorem imX5_readPart : Cond.instanceMethod mX5_readPart.1 ∈ lw_tbl := tb3 (List.mem_of_getElem? (i := 176) rfl)
theorem slX5_readPart : Cond.selects mX5_readPart.1.cls mX5_readPart.1 mX5_readPart.1 ∈ lw_tbl := List.mem_append_left _ (List.mem_of_getElem? (i := 22) rfl)
theorem nkX5_readLiteral : NK mX5_readLiteral 0 := ⟨cdX5_readLiteral, by decide, by decide, tb1 (List.mem_of_getElem? (i := 7) rfl), ⟨by decide, by decide⟩, by decide +kernel⟩
theorem imX5_readLiteral : Cond.instanceMethod mX5_readLiteral.1 ∈ lw_tbl := tb3 (List.mem_of_getElem? (i := 180) rfl)
theorem slX5_readLiteral : Cond.selects mX5_readLiteral.1.cls mX5_readLiteral.1 mX5_readLiteral.1 ∈ lw_tbl := List.mem_append_left _ (List.mem_of_getElem? (i := 23) rfl)
theorem nkX5_readPair : NK mX5_readPair 2 := ⟨cdX5_readPair, by decide, by decide, tb1 (List.mem_of_getElem? (i := 7) rfl), ⟨by decide, by decide⟩, by decide +kernel⟩
theorem imX5_readPair : Cond.instanceMethod mX5_readPair.1 ∈ lw_tbl := tb3 (List.mem_of_getElem? (i := 197) rfl)
theorem slX5_readPair : Cond.selects mX5_readPair.1.cls mX5_readPair.1 mX5_readPair.1 ∈ lw_tbl := List.mem_append_left _ (List.mem_of_getElem? (i := 26) rfl)
theorem nkX5_readOfPart : NK mX5_readOfPart 2 := ⟨cdX5_readOfPart, by decide, by decide, tb1 (List.mem_of_getElem? (i := 7) rfl), ⟨by decide, by decide⟩, by decide +kernel⟩
theorem imX5_readOfPart : Cond.instanceMethod mX5_readOfPart.1 ∈ lw_tbl := tb3 (List.mem_of_getElem? (i := 201) rfl)
theorem slX5_readOfPart : Cond.selects mX5_readOfPart.1.cls mX5_readOfPart.1 mX5_readOfPart.1 ∈ lw_tbl := List.mem_append_left _ (List.mem_of_getElem? (i := 27) rfl)
theorem nkX5_takeOpening : NK mX5_takeOpening 1 := ⟨cdX5_takeOpening, by decide, by decide, tb1 (List.mem_of_getElem? (i := 7) rfl), ⟨by decide, by decide⟩, by decide +kernel⟩
theorem imX5_takeOpening : Cond.instanceMethod mX5_takeOpening.1 ∈ lw_tbl := tb3 (List.mem_of_getElem? (i := 189) rfl)
theorem slX5_takeOpening : Cond.selects mX5_takeOpening.1.cls mX5_takeOpening.1 mX5_takeOpening.1 ∈ lw_tbl := List.mem_append_left _ (List.mem_of_getElem? (i := 24) rfl)
theorem nkX5_isSpoken : NK mX5_isSpoken 1 := ⟨cdX5_isSpoken, by decide, by decide, tb1 (List.mem_of_getElem? (i := 7) rfl), ⟨by decide, by decide⟩, by decide +kernel⟩
theorem imX5_isSpoken : Cond.instanceMethod mX5_isSpoken.1 ∈ lw_tbl := tb3 (List.mem_of_getElem? (i := 205) rfl)
theorem slX5_isSpoken : Cond.selects mX5_isSpoken.1.cls mX5_isSpoken.1 mX5_isSpoken.1 ∈ lw_tbl := List.mem_append_left _ (List.mem_of_getElem? (i := 28) rfl)
theorem nkX6_init : NK mX6_init 1 := ⟨cdX6_init, by decide, by decide, tb1 (List.mem_of_getElem? (i := 2) rfl), ⟨by decide, by decide⟩, by decide +kernel⟩
theorem imX6_init : Cond.instanceMethod mX6_init.1 ∈ lw_tbl := tb1 (List.mem_of_getElem? (i := 31) rfl)
theorem nkX6_at : NK mX6_at 1 := ⟨cdX6_at, by decide, by decide, tb1 (List.mem_of_getElem? (i := 2) rfl), ⟨by decide, by decide⟩, by decide +kernel⟩
theorem imX6_at : Cond.instanceMethod mX6_at.1 ∈ lw_tbl := tb3 (List.mem_of_getElem? (i := 60) rfl)
theorem slX6_at : Cond.selects mX6_at.1.cls mX6_at.1 mX6_at.1 ∈ lw_tbl := tb3 (List.mem_of_getElem? (i := 61) rfl)
theorem nkX6_put : NK mX6_put 1 := ⟨cdX6_put, by decide, by decide, tb1 (List.mem_of_getElem? (i := 2) rfl), ⟨by decide, by decide⟩, by decide +kernel⟩
theorem imX6_put : Cond.instanceMethod mX6_put.1 ∈ lw_tbl := tb3 (List.mem_of_getElem? (i := 28) rfl)
theorem slX6_put : Cond.selects mX6_put.1.cls mX6_put.1 mX6_put.1 ∈ lw_tbl := tb3 (List.mem_of_getElem? (i := 29) rfl)
theorem nkX6_clear : NK mX6_clear 0 := ⟨cdX6_clear, by decide, by decide, tb1 (List.mem_of_getElem? (i := 2) rfl), ⟨by decide, by decide⟩, by decide +kernel⟩
theorem imX6_clear : Cond.instanceMethod mX6_clear.1 ∈ lw_tbl := tb3 (List.mem_of_getElem? (i := 79) rfl)
theorem slX6_clear : Cond.selects mX6_clear.1.cls mX6_clear.1 mX6_clear.1 ∈ lw_tbl := tb3 (List.mem_of_getElem? (i := 80) rfl)
theorem nkX6_copyFrom : NK mX6_copyFrom 1 := ⟨cdX6_copyFrom, by decide, by decide, tb1 (List.mem_of_getElem? (i := 2) rfl), ⟨by decide, by decide⟩, by decide +kernel⟩
theorem imX6_copyFrom : Cond.instanceMethod mX6_copyFrom.1 ∈ lw_tbl := tb4 (List.mem_of_getElem? (i := 2) rfl)
theorem slX6_copyFrom : Cond.selects mX6_copyFrom.1.cls mX6_copyFrom.1 mX6_copyFrom.1 ∈ lw_tbl := tb4 (List.mem_of_getElem? (i := 3) rfl)
theorem nkX6_holds : NK mX6_holds 1 := ⟨cdX6_holds, by decide, by decide, tb1 (List.mem_of_getElem? (i := 2) rfl), ⟨by decide, by decide⟩, by decide +kernel⟩
theorem imX6_holds : Cond.instanceMethod mX6_holds.1 ∈ lw_tbl := tb4 (List.mem_of_getElem? (i := 9) rfl)
theorem slX6_holds : Cond.selects mX6_holds.1.cls mX6_holds.1 mX6_holds.1 ∈ lw_tbl := tb4 (List.mem_of_getElem? (i := 10) rfl)
theorem nkX6_checkOf : NK mX6_checkOf 1 := ⟨cdX6_checkOf, by decide, by decide, tb1 (List.mem_of_getElem? (i := 2) rfl), ⟨by decide, by decide⟩, by decide +kernel⟩
theorem imX6_checkOf : Cond.instanceMethod mX6_checkOf.1 ∈ lw_tbl := tb6 (List.mem_of_getElem? (i := 18) rfl)
theorem slX6_checkOf : Cond.selects mX6_checkOf.1.cls mX6_checkOf.1 mX6_checkOf.1 ∈ lw_tbl := tb6 (List.mem_of_getElem? (i := 19) rfl)
theorem nkX6_pairAt : NK mX6_pairAt 1 := ⟨cdX6_pairAt, by decide, by decide, tb1 (List.mem_of_getElem? (i := 2) rfl), ⟨by decide, by decide⟩, by decide +kernel⟩
theorem imX6_pairAt : Cond.instanceMethod mX6_pairAt.1 ∈ lw_tbl := tb6 (List.mem_of_getElem? (i := 37) rfl)
theorem slX6_pairAt : Cond.selects mX6_pairAt.1.cls mX6_pairAt.1 mX6_pairAt.1 ∈ lw_tbl := tb6 (List.mem_of_getElem? (i := 38) rfl)
theorem nkX7_init : NK mX7_init 0 := ⟨cdX7_init, by decide, by decide, tb1 (List.mem_of_getElem? (i := 5) rfl), ⟨by decide, by decide⟩, by decide +kernel⟩
theorem imX7_init : Cond.instanceMethod mX7_init.1 ∈ lw_tbl := tb1 (List.mem_of_getElem? (i := 151) rfl)
theorem nkX7_begin : NK mX7_begin 1 := ⟨cdX7_begin, by decide, by decide, tb1 (List.mem_of_getElem? (i := 5) rfl), ⟨by decide, by decide⟩, by decide +kernel⟩
theorem imX7_begin : Cond.instanceMethod mX7_begin.1 ∈ lw_tbl := tb4 (List.mem_of_getElem? (i := 13) rfl)
theorem slX7_begin : Cond.selects mX7_begin.1.cls mX7_begin.1 mX7_begin.1 ∈ lw_tbl := tb4 (List.mem_of_getElem? (i := 14) rfl)
theorem nkX7_seatAll : NK mX7_seatAll 1 := ⟨cdX7_seatAll, by decide, by decide, tb1 (List.mem_of_getElem? (i := 5) rfl), ⟨by decide, by decide⟩, by decide +kernel⟩
theorem imX7_seatAll : Cond.instanceMethod mX7_seatAll.1 ∈ lw_tbl := tb4 (List.mem_of_getElem? (i := 18) rfl)
theorem slX7_seatAll : Cond.selects mX7_seatAll.1.cls mX7_seatAll.1 mX7_seatAll.1 ∈ lw_tbl := tb4 (List.mem_of_getElem? (i := 19) rfl)
theorem nkX7_copyRoom : NK mX7_copyRoom 1 := ⟨cdX7_copyRoom, by decide, by decide, tb1 (List.mem_of_getElem? (i := 5) rfl), ⟨by decide, by decide⟩, by decide +kernel⟩
theorem imX7_copyRoom : Cond.instanceMethod mX7_copyRoom.1 ∈ lw_tbl := tb4 (List.mem_of_getElem? (i := 202) rfl)
theorem slX7_copyRoom : Cond.selects mX7_copyRoom.1.cls mX7_copyRoom.1 mX7_copyRoom.1 ∈ lw_tbl := tb4 (List.mem_of_getElem? (i := 203) rfl)
theorem nkX7_copyAll : NK mX7_copyAll 1 := ⟨cdX7_copyAll, by decide, by decide, tb1 (List.mem_of_getElem? (i := 5) rfl), ⟨by decide, by decide⟩, by decide +kernel⟩
theorem imX7_copyAll : Cond.instanceMethod mX7_copyAll.1 ∈ lw_tbl := tb5 (List.mem_of_getElem? (i := 148) rfl)
theorem slX7_copyAll : Cond.selects mX7_copyAll.1.cls mX7_copyAll.1 mX7_copyAll.1 ∈ lw_tbl := tb5 (List.mem_of_getElem? (i := 149) rfl)
theorem nkX7_sitterAt : NK mX7_sitterAt 1 := ⟨cdX7_sitterAt, by decide, by decide, tb1 (List.mem_of_getElem? (i := 5) rfl), ⟨by decide, by decide⟩, by decide +kernel⟩
theorem imX7_sitterAt : Cond.instanceMethod mX7_sitterAt.1 ∈ lw_tbl := tb4 (List.mem_of_getElem? (i := 81) rfl)
theorem slX7_sitterAt : Cond.selects mX7_sitterAt.1.cls mX7_sitterAt.1 mX7_sitterAt.1 ∈ lw_tbl := tb4 (List.mem_of_getElem? (i := 82) rfl)
theorem nkX7_dropsOf : NK mX7_dropsOf 2 := ⟨cdX7_dropsOf, by decide, by decide, tb1 (List.mem_of_getElem? (i := 5) rfl), ⟨by decide, by decide⟩, by decide +kernel⟩
theorem imX7_dropsOf : Cond.instanceMethod mX7_dropsOf.1 ∈ lw_tbl := tb4 (List.mem_of_getElem? (i := 93) rfl)
theorem slX7_dropsOf : Cond.selects mX7_dropsOf.1.cls mX7_dropsOf.1 mX7_dropsOf.1 ∈ lw_tbl := tb4 (List.mem_of_getElem? (i := 94) rfl)
theorem nkX7_farOff : NK mX7_farOff 2 := ⟨cdX7_farOff, by decide, by decide, tb1 (List.mem_of_getElem? (i := 5) rfl), ⟨by decide, by decide⟩, by decide +kernel⟩
theorem imX7_farOff : Cond.instanceMethod mX7_farOff.1 ∈ lw_tbl := tb4 (List.mem_of_getElem? (i := 153) rfl)
theorem slX7_farOff : Cond.selects mX7_farOff.1.cls mX7_farOff.1 mX7_farOff.1 ∈ lw_tbl := tb4 (List.mem_of_getElem? (i := 154) rfl)
theorem nkX7_gain : NK mX7_gain 3 := ⟨cdX7_gain, by decide, by decide, tb1 (List.mem_of_getElem? (i := 5) rfl), ⟨by decide, by decide⟩, by decide +kernel⟩
theorem imX7_gain : Cond.instanceMethod mX7_gain.1 ∈ lw_tbl := tb4 (List.mem_of_getElem? (i := 217) rfl)
theorem slX7_gain : Cond.selects mX7_gain.1.cls mX7_gain.1 mX7_gain.1 ∈ lw_tbl := tb4 (List.mem_of_getElem? (i := 218) rfl)
theorem nkX7_poolOf : NK mX7_poolOf 2 := ⟨cdX7_poolOf, by decide, by decide, tb1 (List.mem_of_getElem? (i := 5) rfl), ⟨by decide, by decide⟩, by decide +kernel⟩
theorem imX7_poolOf : Cond.instanceMethod mX7_poolOf.1 ∈ lw_tbl := tb4 (List.mem_of_getElem? (i := 47) rfl)
theorem slX7_poolOf : Cond.selects mX7_poolOf.1.cls mX7_poolOf.1 mX7_poolOf.1 ∈ lw_tbl := tb4 (List.mem_of_getElem? (i := 48) rfl)
theorem nkX7_addToPool : NK mX7_addToPool 3 := ⟨cdX7_addToPool, by decide, by decide, tb1 (List.mem_of_getElem? (i := 5) rfl), ⟨by decide, by decide⟩, by decide +kernel⟩
theorem imX7_addToPool : Cond.instanceMethod mX7_addToPool.1 ∈ lw_tbl := tb5 (List.mem_of_getElem? (i := 37) rfl)
theorem slX7_addToPool : Cond.selects mX7_addToPool.1.cls mX7_addToPool.1 mX7_addToPool.1 ∈ lw_tbl := tb5 (List.mem_of_getElem? (i := 38) rfl)
theorem nkX7_pooled : NK mX7_pooled 1 := ⟨cdX7_pooled, by decide, by decide, tb1 (List.mem_of_getElem? (i := 5) rfl), ⟨by decide, by decide⟩, by decide +kernel⟩
theorem imX7_pooled : Cond.instanceMethod mX7_pooled.1 ∈ lw_tbl := tb4 (List.mem_of_getElem? (i := 43) rfl)
theorem slX7_pooled : Cond.selects mX7_pooled.1.cls mX7_pooled.1 mX7_pooled.1 ∈ lw_tbl := tb4 (List.mem_of_getElem? (i := 44) rfl)
theorem nkX7_heldOf : NK mX7_heldOf 1 := ⟨cdX7_heldOf, by decide, by decide, tb1 (List.mem_of_getElem? (i := 5) rfl), ⟨by decide, by decide⟩, by decide +kernel⟩
theorem imX7_heldOf : Cond.instanceMethod mX7_heldOf.1 ∈ lw_tbl := tb4 (List.mem_of_getElem? (i := 121) rfl)
theorem slX7_heldOf : Cond.selects mX7_heldOf.1.cls mX7_heldOf.1 mX7_heldOf.1 ∈ lw_tbl := tb4 (List.mem_of_getElem? (i := 122) rfl)
theorem nkX7_knowing : NK mX7_knowing 1 := ⟨cdX7_knowing, by decide, by decide, tb1 (List.mem_of_getElem? (i := 5) rfl), ⟨by decide, by decide⟩, by decide +kernel⟩
theorem imX7_knowing : Cond.instanceMethod mX7_knowing.1 ∈ lw_tbl := tb4 (List.mem_of_getElem? (i := 126) rfl)
theorem slX7_knowing : Cond.selects mX7_knowing.1.cls mX7_knowing.1 mX7_knowing.1 ∈ lw_tbl := tb4 (List.mem_of_getElem? (i := 127) rfl)
theorem nkX7_mindOf : NK mX7_mindOf 1 := ⟨cdX7_mindOf, by decide, by decide, tb1 (List.mem_of_getElem? (i := 5) rfl), ⟨by decide, by decide⟩, by decide +kernel⟩
theorem imX7_mindOf : Cond.instanceMethod mX7_mindOf.1 ∈ lw_tbl := tb4 (List.mem_of_getElem? (i := 89) rfl)
theorem slX7_mindOf : Cond.selects mX7_mindOf.1.cls mX7_mindOf.1 mX7_mindOf.1 ∈ lw_tbl := tb4 (List.mem_of_getElem? (i := 90) rfl)
theorem nkX7_empty : NK mX7_empty 2 := ⟨cdX7_empty, by decide, by decide, tb1 (List.mem_of_getElem? (i := 5) rfl), ⟨by decide, by decide⟩, by decide +kernel⟩
theorem imX7_empty : Cond.instanceMethod mX7_empty.1 ∈ lw_tbl := tb5 (List.mem_of_getElem? (i := 33) rfl)
theorem slX7_empty : Cond.selects mX7_empty.1.cls mX7_empty.1 mX7_empty.1 ∈ lw_tbl := tb5 (List.mem_of_getElem? (i := 34) rfl)
theorem nkX7_swap : NK mX7_swap 2 := ⟨cdX7_swap, by decide, by decide, tb1 (List.mem_of_getElem? (i := 5) rfl), ⟨by decide, by decide⟩, by decide +kernel⟩
theorem imX7_swap : Cond.instanceMethod mX7_swap.1 ∈ lw_tbl := tb5 (List.mem_of_getElem? (i := 7) rfl)
theorem slX7_swap : Cond.selects mX7_swap.1.cls mX7_swap.1 mX7_swap.1 ∈ lw_tbl := tb5 (List.mem_of_getElem? (i := 8) rfl)
theorem nkX7_forgetKept : NK mX7_forgetKept 0 := ⟨cdX7_forgetKept, by decide, by decide, tb1 (List.mem_of_getElem? (i := 5) rfl), ⟨by decide, by decide⟩, by decide +kernel⟩
theorem imX7_forgetKept : Cond.instanceMethod mX7_forgetKept.1 ∈ lw_tbl := tb4 (List.mem_of_getElem? (i := 24) rfl)
theorem slX7_forgetKept : Cond.selects mX7_forgetKept.1.cls mX7_forgetKept.1 mX7_forgetKept.1 ∈ lw_tbl := tb4 (List.mem_of_getElem? (i := 25) rfl)
theorem nkX7_keepDay : NK mX7_keepDay 3 := ⟨cdX7_keepDay, by decide, by decide, tb1 (List.mem_of_getElem? (i := 5) rfl), ⟨by decide, by decide⟩, by decide +kernel⟩
theorem imX7_keepDay : Cond.instanceMethod mX7_keepDay.1 ∈ lw_tbl := tb5 (List.mem_of_getElem? (i := 194) rfl)
theorem slX7_keepDay : Cond.selects mX7_keepDay.1.cls mX7_keepDay.1 mX7_keepDay.1 ∈ lw_tbl := tb5 (List.mem_of_getElem? (i := 195) rfl)
theorem nkX7_keptAt : NK mX7_keptAt 2 := ⟨cdX7_keptAt, by decide, by decide, tb1 (List.mem_of_getElem? (i := 5) rfl), ⟨by decide, by decide⟩, by decide +kernel⟩
theorem imX7_keptAt : Cond.instanceMethod mX7_keptAt.1 ∈ lw_tbl := tb4 (List.mem_of_getElem? (i := 186) rfl)
theorem slX7_keptAt : Cond.selects mX7_keptAt.1.cls mX7_keptAt.1 mX7_keptAt.1 ∈ lw_tbl := tb4 (List.mem_of_getElem? (i := 187) rfl)
theorem nkX7_readPicture : NK mX7_readPicture 2 := ⟨cdX7_readPicture, by decide, by decide, tb1 (List.mem_of_getElem? (i := 5) rfl), ⟨by decide, by decide⟩, by decide +kernel⟩
theorem imX7_readPicture : Cond.instanceMethod mX7_readPicture.1 ∈ lw_tbl := tb6 (List.mem_of_getElem? (i := 31) rfl)
theorem slX7_readPicture : Cond.selects mX7_readPicture.1.cls mX7_readPicture.1 mX7_readPicture.1 ∈ lw_tbl := tb6 (List.mem_of_getElem? (i := 32) rfl)
theorem nkX7_readClerk : NK mX7_readClerk 4 := ⟨cdX7_readClerk, by decide, by decide, tb1 (List.mem_of_getElem? (i := 5) rfl), ⟨by decide, by decide⟩, by decide +kernel⟩
theorem imX7_readClerk : Cond.instanceMethod mX7_readClerk.1 ∈ lw_tbl := tb6 (List.mem_of_getElem? (i := 42) rfl)
theorem slX7_readClerk : Cond.selects mX7_readClerk.1.cls mX7_readClerk.1 mX7_readClerk.1 ∈ lw_tbl := List.mem_append_left _ (List.mem_of_getElem? (i := 57) rfl)
theorem nkX7_readPools : NK mX7_readPools 3 := ⟨cdX7_readPools, by decide, by decide, tb1 (List.mem_of_getElem? (i := 5) rfl), ⟨by decide, by decide⟩, by decide +kernel⟩
theorem imX7_readPools : Cond.instanceMethod mX7_readPools.1 ∈ lw_tbl := tb6 (List.mem_of_getElem? (i := 47) rfl)
theorem slX7_readPools : Cond.selects mX7_readPools.1.cls mX7_readPools.1 mX7_readPools.1 ∈ lw_tbl := List.mem_append_left _ (List.mem_of_getElem? (i := 58) rfl)
theorem nkX8_init : NK mX8_init 1 := ⟨cdX8_init, by decide, by decide, tb1 (List.mem_of_getElem? (i := 8) rfl), ⟨by decide, by decide⟩, by decide +kernel⟩
theorem imX8_init : Cond.instanceMethod mX8_init.1 ∈ lw_tbl := tb1 (List.mem_of_getElem? (i := 234) rfl)
theorem nkX8_begin : NK mX8_begin 0 := ⟨cdX8_begin, by decide, by decide, tb1 (List.mem_of_getElem? (i := 8) rfl), ⟨by decide, by decide⟩, by decide +kernel⟩
theorem imX8_begin : Cond.instanceMethod mX8_begin.1 ∈ lw_tbl := tb3 (List.mem_of_getElem? (i := 52) rfl)
theorem slX8_begin : Cond.selects mX8_begin.1.cls mX8_begin.1 mX8_begin.1 ∈ lw_tbl := tb3 (List.mem_of_getElem? (i := 53) rfl)
theorem nkX8_scan : NK mX8_scan 0 := ⟨cdX8_scan, by decide, by decide, tb1 (List.mem_of_getElem? (i := 8) rfl), ⟨by decide, by decide⟩, by decide +kernel⟩
theorem imX8_scan : Cond.instanceMethod mX8_scan.1 ∈ lw_tbl := tb3 (List.mem_of_getElem? (i := 56) rfl)
theorem slX8_scan : Cond.selects mX8_scan.1.cls mX8_scan.1 mX8_scan.1 ∈ lw_tbl := tb3 (List.mem_of_getElem? (i := 57) rfl)
theorem nkX8_isWord : NK mX8_isWord 1 := ⟨cdX8_isWord, by decide, by decide, tb1 (List.mem_of_getElem? (i := 8) rfl), ⟨by decide, by decide⟩, by decide +kernel⟩
theorem imX8_isWord : Cond.instanceMethod mX8_isWord.1 ∈ lw_tbl := tb3 (List.mem_of_getElem? (i := 137) rfl)
theorem slX8_isWord : Cond.selects mX8_isWord.1.cls mX8_isWord.1 mX8_isWord.1 ∈ lw_tbl := tb3 (List.mem_of_getElem? (i := 138) rfl)
theorem nkX8_isSign : NK mX8_isSign 1 := ⟨cdX8_isSign, by decide, by decide, tb1 (List.mem_of_getElem? (i := 8) rfl), ⟨by decide, by decide⟩, by decide +kernel⟩
theorem imX8_isSign : Cond.instanceMethod mX8_isSign.1 ∈ lw_tbl := tb3 (List.mem_of_getElem? (i := 184) rfl)
theorem slX8_isSign : Cond.selects mX8_isSign.1.cls mX8_isSign.1 mX8_isSign.1 ∈ lw_tbl := tb3 (List.mem_of_getElem? (i := 185) rfl)
theorem nkX8_length : NK mX8_length 0 := ⟨cdX8_length, by decide, by decide, tb1 (List.mem_of_getElem? (i := 8) rfl), ⟨by decide, by decide⟩, by decide +kernel⟩
theorem imX8_length : Cond.instanceMethod mX8_length.1 ∈ lw_tbl := tb3 (List.mem_of_getElem? (i := 109) rfl)
theorem slX8_length : Cond.selects mX8_length.1.cls mX8_length.1 mX8_length.1 ∈ lw_tbl := tb3 (List.mem_of_getElem? (i := 110) rfl)
theorem nkX8_findWord : NK mX8_findWord 0 := ⟨cdX8_findWord, by decide, by decide, tb1 (List.mem_of_getElem? (i := 8) rfl), ⟨by decide, by decide⟩, by decide +kernel⟩
theorem imX8_findWord : Cond.instanceMethod mX8_findWord.1 ∈ lw_tbl := tb3 (List.mem_of_getElem? (i := 71) rfl)
theorem slX8_findWord : Cond.selects mX8_findWord.1.cls mX8_findWord.1 mX8_findWord.1 ∈ lw_tbl := List.mem_append_left _ (List.mem_of_getElem? (i := 4) rfl)
theorem nkX8_isBlank : NK mX8_isBlank 1 := ⟨cdX8_isBlank, by decide, by decide, tb1 (List.mem_of_getElem? (i := 8) rfl), ⟨by decide, by decide⟩, by decide +kernel⟩
theorem scX8_isBlank : Cond.static mX8_isBlank.1 ∈ lw_tbl := tb3 (List.mem_of_getElem? (i := 64) rfl)
theorem nkX8_kindOf : NK mX8_kindOf 1 := ⟨cdX8_kindOf, by decide, by decide, tb1 (List.mem_of_getElem? (i := 8) rfl), ⟨by decide, by decide⟩, by decide +kernel⟩
theorem scX8_kindOf : Cond.static mX8_kindOf.1 ∈ lw_tbl := tb3 (List.mem_of_getElem? (i := 67) rfl)
theorem nkX9_init : NK mX9_init 2 := ⟨cdX9_init, by decide, by decide, tb1 (List.mem_of_getElem? (i := 14) rfl), ⟨by decide, by decide⟩, by decide +kernel⟩
theorem imX9_init : Cond.instanceMethod mX9_init.1 ∈ lw_tbl := tb2 (List.mem_of_getElem? (i := 116) rfl)
theorem nkX9_space : NK mX9_space 2 := ⟨cdX9_space, by decide, by decide, tb1 (List.mem_of_getElem? (i := 14) rfl), ⟨by decide, by decide⟩, by decide +kernel⟩
theorem imX9_space : Cond.instanceMethod mX9_space.1 ∈ lw_tbl := tb4 (List.mem_of_getElem? (i := 55) rfl)
theorem slX9_space : Cond.selects mX9_space.1.cls mX9_space.1 mX9_space.1 ∈ lw_tbl := tb4 (List.mem_of_getElem? (i := 56) rfl)
theorem nkX9_countFull : NK mX9_countFull 1 := ⟨cdX9_countFull, by decide, by decide, tb1 (List.mem_of_getElem? (i := 14) rfl), ⟨by decide, by decide⟩, by decide +kernel⟩
theorem imX9_countFull : Cond.instanceMethod mX9_countFull.1 ∈ lw_tbl := tb4 (List.mem_of_getElem? (i := 51) rfl)
theorem slX9_countFull : Cond.selects mX9_countFull.1.cls mX9_countFull.1 mX9_countFull.1 ∈ lw_tbl := tb4 (List.mem_of_getElem? (i := 52) rfl)
theorem nkX9_flow : NK mX9_flow 4 := ⟨cdX9_flow, by decide, by decide, tb1 (List.mem_of_getElem? (i := 14) rfl), ⟨by decide, by decide⟩, by decide +kernel⟩
theorem imX9_flow : Cond.instanceMethod mX9_flow.1 ∈ lw_tbl := tb4 (List.mem_of_getElem? (i := 134) rfl)
theorem slX9_flow : Cond.selects mX9_flow.1.cls mX9_flow.1 mX9_flow.1 ∈ lw_tbl := tb4 (List.mem_of_getElem? (i := 135) rfl)
theorem nkX9_passDay : NK mX9_passDay 1 := ⟨cdX9_passDay, by decide, by decide, tb1 (List.mem_of_getElem? (i := 14) rfl), ⟨by decide, by decide⟩, by decide +kernel⟩
theorem imX9_passDay : Cond.instanceMethod mX9_passDay.1 ∈ lw_tbl := tb4 (List.mem_of_getElem? (i := 206) rfl)
theorem slX9_passDay : Cond.selects mX9_passDay.1.cls mX9_passDay.1 mX9_passDay.1 ∈ lw_tbl := tb4 (List.mem_of_getElem? (i := 207) rfl)
theorem nkX9_isAsAhead : NK mX9_isAsAhead 1 := ⟨cdX9_isAsAhead, by decide, by decide, tb1 (List.mem_of_getElem? (i := 14) rfl), ⟨by decide, by decide⟩, by decide +kernel⟩
theorem imX9_isAsAhead : Cond.instanceMethod mX9_isAsAhead.1 ∈ lw_tbl := tb4 (List.mem_of_getElem? (i := 223) rfl)
theorem slX9_isAsAhead : Cond.selects mX9_isAsAhead.1.cls mX9_isAsAhead.1 mX9_isAsAhead.1 ∈ lw_tbl := List.mem_append_left _ (List.mem_of_getElem? (i := 40) rfl)
theorem nkX9_hand : NK mX9_hand 5 := ⟨cdX9_hand, by decide, by decide, tb1 (List.mem_of_getElem? (i := 14) rfl), ⟨by decide, by decide⟩, by decide +kernel⟩
theorem imX9_hand : Cond.instanceMethod mX9_hand.1 ∈ lw_tbl := tb4 (List.mem_of_getElem? (i := 214) rfl)
theorem slX9_hand : Cond.selects mX9_hand.1.cls mX9_hand.1 mX9_hand.1 ∈ lw_tbl := List.mem_append_left _ (List.mem_of_getElem? (i := 39) rfl)
theorem nkX9_shake : NK mX9_shake 3 := ⟨cdX9_shake, by decide, by decide, tb1 (List.mem_of_getElem? (i := 14) rfl), ⟨by decide, by decide⟩, by decide +kernel⟩
theorem imX9_shake : Cond.instanceMethod mX9_shake.1 ∈ lw_tbl := tb5 (List.mem_of_getElem? (i := 213) rfl)
theorem slX9_shake : Cond.selects mX9_shake.1.cls mX9_shake.1 mX9_shake.1 ∈ lw_tbl := tb5 (List.mem_of_getElem? (i := 214) rfl)
theorem nkX9_canPour : NK mX9_canPour 4 := ⟨cdX9_canPour, by decide, by decide, tb1 (List.mem_of_getElem? (i := 14) rfl), ⟨by decide, by decide⟩, by decide +kernel⟩
theorem imX9_canPour : Cond.instanceMethod mX9_canPour.1 ∈ lw_tbl := tb5 (List.mem_of_getElem? (i := 100) rfl)
theorem slX9_canPour : Cond.selects mX9_canPour.1.cls mX9_canPour.1 mX9_canPour.1 ∈ lw_tbl := tb5 (List.mem_of_getElem? (i := 101) rfl)
theorem nkX9_pour : NK mX9_pour 4 := ⟨cdX9_pour, by decide, by decide, tb1 (List.mem_of_getElem? (i := 14) rfl), ⟨by decide, by decide⟩, by decide +kernel⟩
theorem imX9_pour : Cond.instanceMethod mX9_pour.1 ∈ lw_tbl := tb5 (List.mem_of_getElem? (i := 106) rfl)
theorem slX9_pour : Cond.selects mX9_pour.1.cls mX9_pour.1 mX9_pour.1 ∈ lw_tbl := tb5 (List.mem_of_getElem? (i := 107) rfl)
theorem nkX9_takeFromFloor : NK mX9_takeFromFloor 2 := ⟨cdX9_takeFromFloor, by decide, by decide, tb1 (List.mem_of_getElem? (i := 14) rfl), ⟨by decide, by decide⟩, by decide +kernel⟩
theorem imX9_takeFromFloor : Cond.instanceMethod mX9_takeFromFloor.1 ∈ lw_tbl := tb5 (List.mem_of_getElem? (i := 173) rfl)
theorem slX9_takeFromFloor : Cond.selects mX9_takeFromFloor.1.cls mX9_takeFromFloor.1 mX9_takeFromFloor.1 ∈ lw_tbl := tb5 (List.mem_of_getElem? (i := 174) rfl)
theorem nkX10_init : NK mX10_init 0 := ⟨cdX10_init, by decide, by decide, tb1 (List.mem_of_getElem? (i := 1) rfl), ⟨by decide, by decide⟩, by decide +kernel⟩
theorem imX10_init : Cond.instanceMethod mX10_init.1 ∈ lw_tbl := tb1 (List.mem_of_getElem? (i := 23) rfl)
theorem nkX10_feed : NK mX10_feed 5 := ⟨cdX10_feed, by decide, by decide, tb1 (List.mem_of_getElem? (i := 1) rfl), ⟨by decide, by decide⟩, by decide +kernel⟩
theorem imX10_feed : Cond.instanceMethod mX10_feed.1 ∈ lw_tbl := tb3 (List.mem_of_getElem? (i := 13) rfl)
theorem slX10_feed : Cond.selects mX10_feed.1.cls mX10_feed.1 mX10_feed.1 ∈ lw_tbl := tb3 (List.mem_of_getElem? (i := 14) rfl)
theorem nkX10_end : NK mX10_end 1 := ⟨cdX10_end, by decide, by decide, tb1 (List.mem_of_getElem? (i := 1) rfl), ⟨by decide, by decide⟩, by decide +kernel⟩
theorem imX10_end : Cond.instanceMethod mX10_end.1 ∈ lw_tbl := tb3 (List.mem_of_getElem? (i := 32) rfl)
theorem slX10_end : Cond.selects mX10_end.1.cls mX10_end.1 mX10_end.1 ∈ lw_tbl := tb3 (List.mem_of_getElem? (i := 33) rfl)
theorem nkX10_registry : NK mX10_registry 0 := ⟨cdX10_registry, by decide, by decide, tb1 (List.mem_of_getElem? (i := 1) rfl), ⟨by decide, by decide⟩, by decide +kernel⟩
theorem imX10_registry : Cond.instanceMethod mX10_registry.1 ∈ lw_tbl := tb3 (List.mem_of_getElem? (i := 40) rfl)
theorem slX10_registry : Cond.selects mX10_registry.1.cls mX10_registry.1 mX10_registry.1 ∈ lw_tbl := tb3 (List.mem_of_getElem? (i := 41) rfl)
theorem nkX10_fault : NK mX10_fault 1 := ⟨cdX10_fault, by decide, by decide, tb1 (List.mem_of_getElem? (i := 1) rfl), ⟨by decide, by decide⟩, by decide +kernel⟩
theorem imX10_fault : Cond.instanceMethod mX10_fault.1 ∈ lw_tbl := tb4 (List.mem_of_getElem? (i := 32) rfl)
theorem slX10_fault : Cond.selects mX10_fault.1.cls mX10_fault.1 mX10_fault.1 ∈ lw_tbl := tb4 (List.mem_of_getElem? (i := 33) rfl)
theorem nkX10_has : NK mX10_has 1 := ⟨cdX10_has, by decide, by decide, tb1 (List.mem_of_getElem? (i := 1) rfl), ⟨by decide, by decide⟩, by decide +kernel⟩
theorem imX10_has : Cond.instanceMethod mX10_has.1 ∈ lw_tbl := tb4 (List.mem_of_getElem? (i := 36) rfl)
theorem slX10_has : Cond.selects mX10_has.1.cls mX10_has.1 mX10_has.1 ∈ lw_tbl := tb4 (List.mem_of_getElem? (i := 37) rfl)
theorem nkX10_letter : NK mX10_letter 3 := ⟨cdX10_letter, by decide, by decide, tb1 (List.mem_of_getElem? (i := 1) rfl), ⟨by decide, by decide⟩, by decide +kernel⟩
theorem imX10_letter : Cond.instanceMethod mX10_letter.1 ∈ lw_tbl := tb4 (List.mem_of_getElem? (i := 60) rfl)
theorem slX10_letter : Cond.selects mX10_letter.1.cls mX10_letter.1 mX10_letter.1 ∈ lw_tbl := tb4 (List.mem_of_getElem? (i := 61) rfl)
theorem nkX10_seat : NK mX10_seat 1 := ⟨cdX10_seat, by decide, by decide, tb1 (List.mem_of_getElem? (i := 1) rfl), ⟨by decide, by decide⟩, by decide +kernel⟩
theorem imX10_seat : Cond.instanceMethod mX10_seat.1 ∈ lw_tbl := tb4 (List.mem_of_getElem? (i := 77) rfl)
theorem slX10_seat : Cond.selects mX10_seat.1.cls mX10_seat.1 mX10_seat.1 ∈ lw_tbl := tb4 (List.mem_of_getElem? (i := 78) rfl)
theorem nkX10_clerk : NK mX10_clerk 2 := ⟨cdX10_clerk, by decide, by decide, tb1 (List.mem_of_getElem? (i := 1) rfl), ⟨by decide, by decide⟩, by decide +kernel⟩
theorem imX10_clerk : Cond.instanceMethod mX10_clerk.1 ∈ lw_tbl := tb4 (List.mem_of_getElem? (i := 85) rfl)
theorem slX10_clerk : Cond.selects mX10_clerk.1.cls mX10_clerk.1 mX10_clerk.1 ∈ lw_tbl := tb4 (List.mem_of_getElem? (i := 86) rfl)
theorem nkX10_drops : NK mX10_drops 2 := ⟨cdX10_drops, by decide, by decide, tb1 (List.mem_of_getElem? (i := 1) rfl), ⟨by decide, by decide⟩, by decide +kernel⟩
theorem imX10_drops : Cond.instanceMethod mX10_drops.1 ∈ lw_tbl := tb4 (List.mem_of_getElem? (i := 106) rfl)
theorem slX10_drops : Cond.selects mX10_drops.1.cls mX10_drops.1 mX10_drops.1 ∈ lw_tbl := tb4 (List.mem_of_getElem? (i := 107) rfl)
theorem nkX10_matter : NK mX10_matter 2 := ⟨cdX10_matter, by decide, by decide, tb1 (List.mem_of_getElem? (i := 1) rfl), ⟨by decide, by decide⟩, by decide +kernel⟩
theorem imX10_matter : Cond.instanceMethod mX10_matter.1 ∈ lw_tbl := tb4 (List.mem_of_getElem? (i := 117) rfl)
theorem slX10_matter : Cond.selects mX10_matter.1.cls mX10_matter.1 mX10_matter.1 ∈ lw_tbl := tb4 (List.mem_of_getElem? (i := 118) rfl)
theorem nkX10_leak : NK mX10_leak 3 := ⟨cdX10_leak, by decide, by decide, tb1 (List.mem_of_getElem? (i := 1) rfl), ⟨by decide, by decide⟩, by decide +kernel⟩
theorem imX10_leak : Cond.instanceMethod mX10_leak.1 ∈ lw_tbl := tb4 (List.mem_of_getElem? (i := 130) rfl)
theorem slX10_leak : Cond.selects mX10_leak.1.cls mX10_leak.1 mX10_leak.1 ∈ lw_tbl := tb4 (List.mem_of_getElem? (i := 131) rfl)
theorem nkX10_kept : NK mX10_kept 2 := ⟨cdX10_kept, by decide, by decide, tb1 (List.mem_of_getElem? (i := 1) rfl), ⟨by decide, by decide⟩, by decide +kernel⟩
theorem imX10_kept : Cond.instanceMethod mX10_kept.1 ∈ lw_tbl := tb4 (List.mem_of_getElem? (i := 182) rfl)
theorem slX10_kept : Cond.selects mX10_kept.1.cls mX10_kept.1 mX10_kept.1 ∈ lw_tbl := tb4 (List.mem_of_getElem? (i := 183) rfl)
theorem nkX10_later : NK mX10_later 3 := ⟨cdX10_later, by decide, by decide, tb1 (List.mem_of_getElem? (i := 1) rfl), ⟨by decide, by decide⟩, by decide +kernel⟩
theorem imX10_later : Cond.instanceMethod mX10_later.1 ∈ lw_tbl := tb4 (List.mem_of_getElem? (i := 190) rfl)
theorem slX10_later : Cond.selects mX10_later.1.cls mX10_later.1 mX10_later.1 ∈ lw_tbl := tb4 (List.mem_of_getElem? (i := 191) rfl)
theorem nkX10_knows : NK mX10_knows 2 := ⟨cdX10_knows, by decide, by decide, tb1 (List.mem_of_getElem? (i := 1) rfl), ⟨by decide, by decide⟩, by decide +kernel⟩
theorem imX10_knows : Cond.instanceMethod mX10_knows.1 ∈ lw_tbl := tb4 (List.mem_of_getElem? (i := 226) rfl)
theorem slX10_knows : Cond.selects mX10_knows.1.cls mX10_knows.1 mX10_knows.1 ∈ lw_tbl := tb4 (List.mem_of_getElem? (i := 227) rfl)
theorem nkX10_hears : NK mX10_hears 2 := ⟨cdX10_hears, by decide, by decide, tb1 (List.mem_of_getElem? (i := 1) rfl), ⟨by decide, by decide⟩, by decide +kernel⟩
theorem imX10_hears : Cond.instanceMethod mX10_hears.1 ∈ lw_tbl := tb4 (List.mem_of_getElem? (i := 230) rfl)
theorem slX10_hears : Cond.selects mX10_hears.1.cls mX10_hears.1 mX10_hears.1 ∈ lw_tbl := tb4 (List.mem_of_getElem? (i := 231) rfl)
theorem nkX10_discreet : NK mX10_discreet 3 := ⟨cdX10_discreet, by decide, by decide, tb1 (List.mem_of_getElem? (i := 1) rfl), ⟨by decide, by decide⟩, by decide +kernel⟩
theorem imX10_discreet : Cond.instanceMethod mX10_discreet.1 ∈ lw_tbl := tb4 (List.mem_of_getElem? (i := 234) rfl)
theorem slX10_discreet : Cond.selects mX10_discreet.1.cls mX10_discreet.1 mX10_discreet.1 ∈ lw_tbl := tb4 (List.mem_of_getElem? (i := 235) rfl)
theorem nkX10_pressed : NK mX10_pressed 3 := ⟨cdX10_pressed, by decide, by decide, tb1 (List.mem_of_getElem? (i := 1) rfl), ⟨by decide, by decide⟩, by decide +kernel⟩
theorem imX10_pressed : Cond.instanceMethod mX10_pressed.1 ∈ lw_tbl := tb5 (List.mem_of_getElem? (i := 21) rfl)
theorem slX10_pressed : Cond.selects mX10_pressed.1.cls mX10_pressed.1 mX10_pressed.1 ∈ lw_tbl := tb5 (List.mem_of_getElem? (i := 22) rfl)
theorem nkX10_mops : NK mX10_mops 0 := ⟨cdX10_mops, by decide, by decide, tb1 (List.mem_of_getElem? (i := 1) rfl), ⟨by decide, by decide⟩, by decide +kernel⟩
theorem imX10_mops : Cond.instanceMethod mX10_mops.1 ∈ lw_tbl := tb5 (List.mem_of_getElem? (i := 44) rfl)
theorem slX10_mops : Cond.selects mX10_mops.1.cls mX10_mops.1 mX10_mops.1 ∈ lw_tbl := tb5 (List.mem_of_getElem? (i := 45) rfl)
theorem nkX10_desks : NK mX10_desks 1 := ⟨cdX10_desks, by decide, by decide, tb1 (List.mem_of_getElem? (i := 1) rfl), ⟨by decide, by decide⟩, by decide +kernel⟩
theorem imX10_desks : Cond.instanceMethod mX10_desks.1 ∈ lw_tbl := tb5 (List.mem_of_getElem? (i := 58) rfl)
theorem slX10_desks : Cond.selects mX10_desks.1.cls mX10_desks.1 mX10_desks.1 ∈ lw_tbl := tb5 (List.mem_of_getElem? (i := 59) rfl)
theorem nkX10_see : NK mX10_see 0 := ⟨cdX10_see, by decide, by decide, tb1 (List.mem_of_getElem? (i := 1) rfl), ⟨by decide, by decide⟩, by decide +kernel⟩
theorem imX10_see : Cond.instanceMethod mX10_see.1 ∈ lw_tbl := tb5 (List.mem_of_getElem? (i := 72) rfl)
theorem slX10_see : Cond.selects mX10_see.1.cls mX10_see.1 mX10_see.1 ∈ lw_tbl := tb5 (List.mem_of_getElem? (i := 73) rfl)
theorem nkX10_sources : NK mX10_sources 2 := ⟨cdX10_sources, by decide, by decide, tb1 (List.mem_of_getElem? (i := 1) rfl), ⟨by decide, by decide⟩, by decide +kernel⟩
theorem imX10_sources : Cond.instanceMethod mX10_sources.1 ∈ lw_tbl := tb5 (List.mem_of_getElem? (i := 83) rfl)
theorem slX10_sources : Cond.selects mX10_sources.1.cls mX10_sources.1 mX10_sources.1 ∈ lw_tbl := tb5 (List.mem_of_getElem? (i := 84) rfl)
theorem nkX10_tells : NK mX10_tells 3 := ⟨cdX10_tells, by decide, by decide, tb1 (List.mem_of_getElem? (i := 1) rfl), ⟨by decide, by decide⟩, by decide +kernel⟩
theorem imX10_tells : Cond.instanceMethod mX10_tells.1 ∈ lw_tbl := tb5 (List.mem_of_getElem? (i := 117) rfl)
theorem slX10_tells : Cond.selects mX10_tells.1.cls mX10_tells.1 mX10_tells.1 ∈ lw_tbl := tb5 (List.mem_of_getElem? (i := 118) rfl)
theorem nkX10_tell : NK mX10_tell 3 := ⟨cdX10_tell, by decide, by decide, tb1 (List.mem_of_getElem? (i := 1) rfl), ⟨by decide, by decide⟩, by decide +kernel⟩
theorem imX10_tell : Cond.instanceMethod mX10_tell.1 ∈ lw_tbl := tb5 (List.mem_of_getElem? (i := 139) rfl)
theorem slX10_tell : Cond.selects mX10_tell.1.cls mX10_tell.1 mX10_tell.1 ∈ lw_tbl := tb5 (List.mem_of_getElem? (i := 140) rfl)
theorem nkX10_squeeze : NK mX10_squeeze 1 := ⟨cdX10_squeeze, by decide, by decide, tb1 (List.mem_of_getElem? (i := 1) rfl), ⟨by decide, by decide⟩, by decide +kernel⟩
theorem imX10_squeeze : Cond.instanceMethod mX10_squeeze.1 ∈ lw_tbl := tb5 (List.mem_of_getElem? (i := 155) rfl)
theorem slX10_squeeze : Cond.selects mX10_squeeze.1.cls mX10_squeeze.1 mX10_squeeze.1 ∈ lw_tbl := tb5 (List.mem_of_getElem? (i := 156) rfl)
theorem nkX10_rinse : NK mX10_rinse 1 := ⟨cdX10_rinse, by decide, by decide, tb1 (List.mem_of_getElem? (i := 1) rfl), ⟨by decide, by decide⟩, by decide +kernel⟩
theorem imX10_rinse : Cond.instanceMethod mX10_rinse.1 ∈ lw_tbl := tb5 (List.mem_of_getElem? (i := 164) rfl)
theorem slX10_rinse : Cond.selects mX10_rinse.1.cls mX10_rinse.1 mX10_rinse.1 ∈ lw_tbl := tb5 (List.mem_of_getElem? (i := 165) rfl)
theorem nkX10_mop : NK mX10_mop 1 := ⟨cdX10_mop, by decide, by decide, tb1 (List.mem_of_getElem? (i := 1) rfl), ⟨by decide, by decide⟩, by decide +kernel⟩
theorem imX10_mop : Cond.instanceMethod mX10_mop.1 ∈ lw_tbl := tb5 (List.mem_of_getElem? (i := 168) rfl)
theorem slX10_mop : Cond.selects mX10_mop.1.cls mX10_mop.1 mX10_mop.1 ∈ lw_tbl := tb5 (List.mem_of_getElem? (i := 169) rfl)
theorem nkX10_change : NK mX10_change 2 := ⟨cdX10_change, by decide, by decide, tb1 (List.mem_of_getElem? (i := 1) rfl), ⟨by decide, by decide⟩, by decide +kernel⟩
theorem imX10_change : Cond.instanceMethod mX10_change.1 ∈ lw_tbl := tb5 (List.mem_of_getElem? (i := 177) rfl)
theorem slX10_change : Cond.selects mX10_change.1.cls mX10_change.1 mX10_change.1 ∈ lw_tbl := tb5 (List.mem_of_getElem? (i := 178) rfl)
theorem nkX10_days : NK mX10_days 1 := ⟨cdX10_days, by decide, by decide, tb1 (List.mem_of_getElem? (i := 1) rfl), ⟨by decide, by decide⟩, by decide +kernel⟩
theorem imX10_days : Cond.instanceMethod mX10_days.1 ∈ lw_tbl := tb5 (List.mem_of_getElem? (i := 186) rfl)
theorem slX10_days : Cond.selects mX10_days.1.cls mX10_days.1 mX10_days.1 ∈ lw_tbl := tb5 (List.mem_of_getElem? (i := 187) rfl)
theorem nkX10_chance : NK mX10_chance 1 := ⟨cdX10_chance, by decide, by decide, tb1 (List.mem_of_getElem? (i := 1) rfl), ⟨by decide, by decide⟩, by decide +kernel⟩
theorem imX10_chance : Cond.instanceMethod mX10_chance.1 ∈ lw_tbl := tb5 (List.mem_of_getElem? (i := 198) rfl)
theorem slX10_chance : Cond.selects mX10_chance.1.cls mX10_chance.1 mX10_chance.1 ∈ lw_tbl := tb5 (List.mem_of_getElem? (i := 199) rfl)
theorem nkX10_undo : NK mX10_undo 0 := ⟨cdX10_undo, by decide, by decide, tb1 (List.mem_of_getElem? (i := 1) rfl), ⟨by decide, by decide⟩, by decide +kernel⟩
theorem imX10_undo : Cond.instanceMethod mX10_undo.1 ∈ lw_tbl := tb5 (List.mem_of_getElem? (i := 218) rfl)
theorem slX10_undo : Cond.selects mX10_undo.1.cls mX10_undo.1 mX10_undo.1 ∈ lw_tbl := tb5 (List.mem_of_getElem? (i := 219) rfl)
theorem nkX10_seed : NK mX10_seed 1 := ⟨cdX10_seed, by decide, by decide, tb1 (List.mem_of_getElem? (i := 1) rfl), ⟨by decide, by decide⟩, by decide +kernel⟩
theorem imX10_seed : Cond.instanceMethod mX10_seed.1 ∈ lw_tbl := tb5 (List.mem_of_getElem? (i := 226) rfl)
theorem slX10_seed : Cond.selects mX10_seed.1.cls mX10_seed.1 mX10_seed.1 ∈ lw_tbl := tb5 (List.mem_of_getElem? (i := 227) rfl)
theorem nkX10_ask : NK mX10_ask 0 := ⟨cdX10_ask, by decide, by decide, tb1 (List.mem_of_getElem? (i := 1) rfl), ⟨by decide, by decide⟩, by decide +kernel⟩
theorem imX10_ask : Cond.instanceMethod mX10_ask.1 ∈ lw_tbl := tb5 (List.mem_of_getElem? (i := 230) rfl)
theorem slX10_ask : Cond.selects mX10_ask.1.cls mX10_ask.1 mX10_ask.1 ∈ lw_tbl := tb5 (List.mem_of_getElem? (i := 231) rfl)
theorem nkX10_image : NK mX10_image 0 := ⟨cdX10_image, by decide, by decide, tb1 (List.mem_of_getElem? (i := 1) rfl), ⟨by decide, by decide⟩, by decide +kernel⟩
theorem imX10_image : Cond.instanceMethod mX10_image.1 ∈ lw_tbl := tb6 (List.mem_of_getElem? (i := 10) rfl)
theorem slX10_image : Cond.selects mX10_image.1.cls mX10_image.1 mX10_image.1 ∈ lw_tbl := tb6 (List.mem_of_getElem? (i := 11) rfl)
theorem nkX10_octet : NK mX10_octet 1 := ⟨cdX10_octet, by decide, by decide, tb1 (List.mem_of_getElem? (i := 1) rfl), ⟨by decide, by decide⟩, by decide +kernel⟩
theorem imX10_octet : Cond.instanceMethod mX10_octet.1 ∈ lw_tbl := tb6 (List.mem_of_getElem? (i := 22) rfl)
theorem slX10_octet : Cond.selects mX10_octet.1.cls mX10_octet.1 mX10_octet.1 ∈ lw_tbl := tb6 (List.mem_of_getElem? (i := 23) rfl)
theorem nkX10_on : NK mX10_on 0 := ⟨cdX10_on, by decide, by decide, tb1 (List.mem_of_getElem? (i := 1) rfl), ⟨by decide, by decide⟩, by decide +kernel⟩
theorem imX10_on : Cond.instanceMethod mX10_on.1 ∈ lw_tbl := tb6 (List.mem_of_getElem? (i := 27) rfl)
theorem slX10_on : Cond.selects mX10_on.1.cls mX10_on.1 mX10_on.1 ∈ lw_tbl := tb6 (List.mem_of_getElem? (i := 28) rfl)
theorem nkX10_status : NK mX10_status 1 := ⟨cdX10_status, by decide, by decide, tb1 (List.mem_of_getElem? (i := 1) rfl), ⟨by decide, by decide⟩, by decide +kernel⟩
theorem imX10_status : Cond.instanceMethod mX10_status.1 ∈ lw_tbl := tb6 (List.mem_of_getElem? (i := 51) rfl)
theorem slX10_status : Cond.selects mX10_status.1.cls mX10_status.1 mX10_status.1 ∈ lw_tbl := tb6 (List.mem_of_getElem? (i := 52) rfl)
theorem nkX10_refuse : NK mX10_refuse 1 := ⟨cdX10_refuse, by decide, by decide, tb1 (List.mem_of_getElem? (i := 1) rfl), ⟨by decide, by decide⟩, by decide +kernel⟩
theorem imX10_refuse : Cond.instanceMethod mX10_refuse.1 ∈ lw_tbl := tb3 (List.mem_of_getElem? (i := 18) rfl)
theorem slX10_refuse : Cond.selects mX10_refuse.1.cls mX10_refuse.1 mX10_refuse.1 ∈ lw_tbl := List.mem_append_left _ (List.mem_of_getElem? (i := 0) rfl)
theorem nkX10_deny : NK mX10_deny 1 := ⟨cdX10_deny, by decide, by decide, tb1 (List.mem_of_getElem? (i := 1) rfl), ⟨by decide, by decide⟩, by decide +kernel⟩
theorem imX10_deny : Cond.instanceMethod mX10_deny.1 ∈ lw_tbl := tb3 (List.mem_of_getElem? (i := 37) rfl)
theorem slX10_deny : Cond.selects mX10_deny.1.cls mX10_deny.1 mX10_deny.1 ∈ lw_tbl := List.mem_append_left _ (List.mem_of_getElem? (i := 2) rfl)
theorem nkX10_feedNumber : NK mX10_feedNumber 1 := ⟨cdX10_feedNumber, by decide, by decide, tb1 (List.mem_of_getElem? (i := 1) rfl), ⟨by decide, by decide⟩, by decide +kernel⟩
theorem imX10_feedNumber : Cond.instanceMethod mX10_feedNumber.1 ∈ lw_tbl := tb3 (List.mem_of_getElem? (i := 25) rfl)
theorem slX10_feedNumber : Cond.selects mX10_feedNumber.1.cls mX10_feedNumber.1 mX10_feedNumber.1 ∈ lw_tbl := List.mem_append_left _ (List.mem_of_getElem? (i := 1) rfl)
theorem nkX10_putPair : NK mX10_putPair 1 := ⟨cdX10_putPair, by decide, by decide, tb1 (List.mem_of_getElem? (i := 1) rfl), ⟨by decide, by decide⟩, by decide +kernel⟩
theorem imX10_putPair : Cond.instanceMethod mX10_putPair.1 ∈ lw_tbl := tb6 (List.mem_of_getElem? (i := 15) rfl)
theorem slX10_putPair : Cond.selects mX10_putPair.1.cls mX10_putPair.1 mX10_putPair.1 ∈ lw_tbl := List.mem_append_left _ (List.mem_of_getElem? (i := 56) rfl)
theorem nkX10_canPass : NK mX10_canPass 3 := ⟨cdX10_canPass, by decide, by decide, tb1 (List.mem_of_getElem? (i := 1) rfl), ⟨by decide, by decide⟩, by decide +kernel⟩
theorem imX10_canPass : Cond.instanceMethod mX10_canPass.1 ∈ lw_tbl := tb4 (List.mem_of_getElem? (i := 195) rfl)
theorem slX10_canPass : Cond.selects mX10_canPass.1.cls mX10_canPass.1 mX10_canPass.1 ∈ lw_tbl := List.mem_append_left _ (List.mem_of_getElem? (i := 37) rfl)
theorem nkX10_lookAhead : NK mX10_lookAhead 1 := ⟨cdX10_lookAhead, by decide, by decide, tb1 (List.mem_of_getElem? (i := 1) rfl), ⟨by decide, by decide⟩, by decide +kernel⟩
theorem imX10_lookAhead : Cond.instanceMethod mX10_lookAhead.1 ∈ lw_tbl := tb4 (List.mem_of_getElem? (i := 199) rfl)
theorem slX10_lookAhead : Cond.selects mX10_lookAhead.1.cls mX10_lookAhead.1 mX10_lookAhead.1 ∈ lw_tbl := List.mem_append_left _ (List.mem_of_getElem? (i := 38) rfl)
theorem nkX10_dry : NK mX10_dry 2 := ⟨cdX10_dry, by decide, by decide, tb1 (List.mem_of_getElem? (i := 1) rfl), ⟨by decide, by decide⟩, by decide +kernel⟩
theorem imX10_dry : Cond.instanceMethod mX10_dry.1 ∈ lw_tbl := tb5 (List.mem_of_getElem? (i := 160) rfl)
theorem slX10_dry : Cond.selects mX10_dry.1.cls mX10_dry.1 mX10_dry.1 ∈ lw_tbl := List.mem_append_left _ (List.mem_of_getElem? (i := 50) rfl)
theorem nkX10_liveDay : NK mX10_liveDay 1 := ⟨cdX10_liveDay, by decide, by decide, tb1 (List.mem_of_getElem? (i := 1) rfl), ⟨by decide, by decide⟩, by decide +kernel⟩
theorem imX10_liveDay : Cond.instanceMethod mX10_liveDay.1 ∈ lw_tbl := tb5 (List.mem_of_getElem? (i := 191) rfl)
theorem slX10_liveDay : Cond.selects mX10_liveDay.1.cls mX10_liveDay.1 mX10_liveDay.1 ∈ lw_tbl := List.mem_append_left _ (List.mem_of_getElem? (i := 51) rfl)
theorem nkX10_tryHands : NK mX10_tryHands 0 := ⟨cdX10_tryHands, by decide, by decide, tb1 (List.mem_of_getElem? (i := 1) rfl), ⟨by decide, by decide⟩, by decide +kernel⟩
theorem imX10_tryHands : Cond.instanceMethod mX10_tryHands.1 ∈ lw_tbl := tb5 (List.mem_of_getElem? (i := 203) rfl)
theorem slX10_tryHands : Cond.selects mX10_tryHands.1.cls mX10_tryHands.1 mX10_tryHands.1 ∈ lw_tbl := List.mem_append_left _ (List.mem_of_getElem? (i := 52) rfl)
theorem nkX10_draw : NK mX10_draw 1 := ⟨cdX10_draw, by decide, by decide, tb1 (List.mem_of_getElem? (i := 1) rfl), ⟨by decide, by decide⟩, by decide +kernel⟩
theorem imX10_draw : Cond.instanceMethod mX10_draw.1 ∈ lw_tbl := tb5 (List.mem_of_getElem? (i := 207) rfl)
theorem slX10_draw : Cond.selects mX10_draw.1.cls mX10_draw.1 mX10_draw.1 ∈ lw_tbl := List.mem_append_left _ (List.mem_of_getElem? (i := 53) rfl)
theorem nkX10_countHolding : NK mX10_countHolding 1 := ⟨cdX10_countHolding, by decide, by decide, tb1 (List.mem_of_getElem? (i := 1) rfl), ⟨by decide, by decide⟩, by decide +kernel⟩
theorem imX10_countHolding : Cond.instanceMethod mX10_countHolding.1 ∈ lw_tbl := tb6 (List.mem_of_getElem? (i := 0) rfl)
theorem slX10_countHolding : Cond.selects mX10_countHolding.1.cls mX10_countHolding.1 mX10_countHolding.1 ∈ lw_tbl := List.mem_append_left _ (List.mem_of_getElem? (i := 54) rfl)
theorem nkX10_gatherSums : NK mX10_gatherSums 1 := ⟨cdX10_gatherSums, by decide, by decide, tb1 (List.mem_of_getElem? (i := 1) rfl), ⟨by decide, by decide⟩, by decide +kernel⟩
theorem imX10_gatherSums : Cond.instanceMethod mX10_gatherSums.1 ∈ lw_tbl := tb6 (List.mem_of_getElem? (i := 5) rfl)
theorem slX10_gatherSums : Cond.selects mX10_gatherSums.1.cls mX10_gatherSums.1 mX10_gatherSums.1 ∈ lw_tbl := List.mem_append_left _ (List.mem_of_getElem? (i := 55) rfl)
theorem nkX10_pick : NK mX10_pick 2 := ⟨cdX10_pick, by decide, by decide, tb1 (List.mem_of_getElem? (i := 1) rfl), ⟨by decide, by decide⟩, by decide +kernel⟩
theorem scX10_pick : Cond.static mX10_pick.1 ∈ lw_tbl := tb3 (List.mem_of_getElem? (i := 145) rfl)
theorem nkX10_set : NK mX10_set 3 := ⟨cdX10_set, by decide, by decide, tb1 (List.mem_of_getElem? (i := 1) rfl), ⟨by decide, by decide⟩, by decide +kernel⟩
theorem scX10_set : Cond.static mX10_set.1 ∈ lw_tbl := tb2 (List.mem_of_getElem? (i := 47) rfl)
theorem nkX10_add : NK mX10_add 3 := ⟨cdX10_add, by decide, by decide, tb1 (List.mem_of_getElem? (i := 1) rfl), ⟨by decide, by decide⟩, by decide +kernel⟩
theorem scX10_add : Cond.static mX10_add.1 ∈ lw_tbl := tb3 (List.mem_of_getElem? (i := 21) rfl)
theorem nkX10_fill : NK mX10_fill 2 := ⟨cdX10_fill, by decide, by decide, tb1 (List.mem_of_getElem? (i := 1) rfl), ⟨by decide, by decide⟩, by decide +kernel⟩
theorem scX10_fill : Cond.static mX10_fill.1 ∈ lw_tbl := tb1 (List.mem_of_getElem? (i := 155) rfl)
theorem nkX10_copy : NK mX10_copy 2 := ⟨cdX10_copy, by decide, by decide, tb1 (List.mem_of_getElem? (i := 1) rfl), ⟨by decide, by decide⟩, by decide +kernel⟩
theorem scX10_copy : Cond.static mX10_copy.1 ∈ lw_tbl := tb3 (List.mem_of_getElem? (i := 233) rfl)
theorem nkX10_total : NK mX10_total 1 := ⟨cdX10_total, by decide, by decide, tb1 (List.mem_of_getElem? (i := 1) rfl), ⟨by decide, by decide⟩, by decide +kernel⟩
theorem scX10_total : Cond.static mX10_total.1 ∈ lw_tbl := tb4 (List.mem_of_getElem? (i := 40) rfl)
theorem nkX10_within : NK mX10_within 3 := ⟨cdX10_within, by decide, by decide, tb1 (List.mem_of_getElem? (i := 1) rfl), ⟨by decide, by decide⟩, by decide +kernel⟩
theorem scX10_within : Cond.static mX10_within.1 ∈ lw_tbl := tb3 (List.mem_of_getElem? (i := 113) rfl)
theorem nkX10_letterOf : NK mX10_letterOf 2 := ⟨cdX10_letterOf, by decide, by decide, tb1 (List.mem_of_getElem? (i := 1) rfl), ⟨by decide, by decide⟩, by decide +kernel⟩
theorem scX10_letterOf : Cond.static mX10_letterOf.1 ∈ lw_tbl := tb4 (List.mem_of_getElem? (i := 74) rfl)
theorem nkX11_init : NK mX11_init 0 := ⟨cdX11_init, by decide, by decide, tb1 (List.mem_of_getElem? (i := 17) rfl), ⟨by decide, by decide⟩, by decide +kernel⟩
theorem imX11_init : Cond.instanceMethod mX11_init.1 ∈ lw_tbl := tb6 (List.mem_of_getElem? (i := 57) rfl)
theorem nkX11_isIn : NK mX11_isIn 3 := ⟨cdX11_isIn, by decide, by decide, tb1 (List.mem_of_getElem? (i := 17) rfl), ⟨by decide, by decide⟩, by decide +kernel⟩
theorem scX11_isIn : Cond.static mX11_isIn.1 ∈ lw_tbl := tb7 (List.mem_of_getElem? (i := 167) rfl)
theorem nkX11_feed : NK mX11_feed 5 := ⟨cdX11_feed, by decide, by decide, tb1 (List.mem_of_getElem? (i := 17) rfl), ⟨by decide, by decide⟩, by decide +kernel⟩
theorem imX11_feed : Cond.instanceMethod mX11_feed.1 ∈ lw_tbl := tb7 (List.mem_of_getElem? (i := 121) rfl)
theorem slX11_feed : Cond.selects mX11_feed.1.cls mX11_feed.1 mX11_feed.1 ∈ lw_tbl := tb7 (List.mem_of_getElem? (i := 122) rfl)
theorem nkX11_end : NK mX11_end 1 := ⟨cdX11_end, by decide, by decide, tb1 (List.mem_of_getElem? (i := 17) rfl), ⟨by decide, by decide⟩, by decide +kernel⟩
theorem imX11_end : Cond.instanceMethod mX11_end.1 ∈ lw_tbl := tb7 (List.mem_of_getElem? (i := 125) rfl)
theorem slX11_end : Cond.selects mX11_end.1.cls mX11_end.1 mX11_end.1 ∈ lw_tbl := tb7 (List.mem_of_getElem? (i := 126) rfl)
theorem nkX11_fail : NK mX11_fail 2 := ⟨cdX11_fail, by decide, by decide, tb1 (List.mem_of_getElem? (i := 17) rfl), ⟨by decide, by decide⟩, by decide +kernel⟩
theorem imX11_fail : Cond.instanceMethod mX11_fail.1 ∈ lw_tbl := tb7 (List.mem_of_getElem? (i := 157) rfl)
theorem slX11_fail : Cond.selects mX11_fail.1.cls mX11_fail.1 mX11_fail.1 ∈ lw_tbl := List.mem_append_left _ (List.mem_of_getElem? (i := 64) rfl)
theorem nkX11_isLetter : NK mX11_isLetter 1 := ⟨cdX11_isLetter, by decide, by decide, tb1 (List.mem_of_getElem? (i := 17) rfl), ⟨by decide, by decide⟩, by decide +kernel⟩
theorem scX11_isLetter : Cond.static mX11_isLetter.1 ∈ lw_tbl := tb7 (List.mem_of_getElem? (i := 153) rfl)
theorem nkX11_isDigit : NK mX11_isDigit 1 := ⟨cdX11_isDigit, by decide, by decide, tb1 (List.mem_of_getElem? (i := 17) rfl), ⟨by decide, by decide⟩, by decide +kernel⟩
theorem scX11_isDigit : Cond.static mX11_isDigit.1 ∈ lw_tbl := tb7 (List.mem_of_getElem? (i := 164) rfl)
theorem nkX11_look : NK mX11_look 0 := ⟨cdX11_look, by decide, by decide, tb1 (List.mem_of_getElem? (i := 17) rfl), ⟨by decide, by decide⟩, by decide +kernel⟩
theorem imX11_look : Cond.instanceMethod mX11_look.1 ∈ lw_tbl := tb7 (List.mem_of_getElem? (i := 150) rfl)
theorem slX11_look : Cond.selects mX11_look.1.cls mX11_look.1 mX11_look.1 ∈ lw_tbl := List.mem_append_left _ (List.mem_of_getElem? (i := 63) rfl)
theorem nkX11_isHere : NK mX11_isHere 1 := ⟨cdX11_isHere, by decide, by decide, tb1 (List.mem_of_getElem? (i := 17) rfl), ⟨by decide, by decide⟩, by decide +kernel⟩
theorem imX11_isHere : Cond.instanceMethod mX11_isHere.1 ∈ lw_tbl := tb7 (List.mem_of_getElem? (i := 146) rfl)
theorem slX11_isHere : Cond.selects mX11_isHere.1.cls mX11_isHere.1 mX11_isHere.1 ∈ lw_tbl := List.mem_append_left _ (List.mem_of_getElem? (i := 62) rfl)
theorem nkX11_takes : NK mX11_takes 1 := ⟨cdX11_takes, by decide, by decide, tb1 (List.mem_of_getElem? (i := 17) rfl), ⟨by decide, by decide⟩, by decide +kernel⟩
theorem imX11_takes : Cond.instanceMethod mX11_takes.1 ∈ lw_tbl := tb7 (List.mem_of_getElem? (i := 142) rfl)
theorem slX11_takes : Cond.selects mX11_takes.1.cls mX11_takes.1 mX11_takes.1 ∈ lw_tbl := List.mem_append_left _ (List.mem_of_getElem? (i := 61) rfl)
theorem nkX11_asks : NK mX11_asks 1 := ⟨cdX11_asks, by decide, by decide, tb1 (List.mem_of_getElem? (i := 17) rfl), ⟨by decide, by decide⟩, by decide +kernel⟩
theorem imX11_asks : Cond.instanceMethod mX11_asks.1 ∈ lw_tbl := tb7 (List.mem_of_getElem? (i := 138) rfl)
theorem slX11_asks : Cond.selects mX11_asks.1.cls mX11_asks.1 mX11_asks.1 ∈ lw_tbl := List.mem_append_left _ (List.mem_of_getElem? (i := 60) rfl)
theorem nkX11_takesSign : NK mX11_takesSign 1 := ⟨cdX11_takesSign, by decide, by decide, tb1 (List.mem_of_getElem? (i := 17) rfl), ⟨by decide, by decide⟩, by decide +kernel⟩
theorem imX11_takesSign : Cond.instanceMethod mX11_takesSign.1 ∈ lw_tbl := tb7 (List.mem_of_getElem? (i := 175) rfl)
theorem slX11_takesSign : Cond.selects mX11_takesSign.1.cls mX11_takesSign.1 mX11_takesSign.1 ∈ lw_tbl := List.mem_append_left _ (List.mem_of_getElem? (i := 67) rfl)
theorem nkX11_asksSign : NK mX11_asksSign 1 := ⟨cdX11_asksSign, by decide, by decide, tb1 (List.mem_of_getElem? (i := 17) rfl), ⟨by decide, by decide⟩, by decide +kernel⟩
theorem imX11_asksSign : Cond.instanceMethod mX11_asksSign.1 ∈ lw_tbl := tb7 (List.mem_of_getElem? (i := 171) rfl)
theorem slX11_asksSign : Cond.selects mX11_asksSign.1.cls mX11_asksSign.1 mX11_asksSign.1 ∈ lw_tbl := List.mem_append_left _ (List.mem_of_getElem? (i := 66) rfl)
theorem nkX11_number : NK mX11_number 2 := ⟨cdX11_number, by decide, by decide, tb1 (List.mem_of_getElem? (i := 17) rfl), ⟨by decide, by decide⟩, by decide +kernel⟩
theorem imX11_number : Cond.instanceMethod mX11_number.1 ∈ lw_tbl := tb7 (List.mem_of_getElem? (i := 161) rfl)
theorem slX11_number : Cond.selects mX11_number.1.cls mX11_number.1 mX11_number.1 ∈ lw_tbl := List.mem_append_left _ (List.mem_of_getElem? (i := 65) rfl)
theorem nkX11_isOwnHere : NK mX11_isOwnHere 0 := ⟨cdX11_isOwnHere, by decide, by decide, tb1 (List.mem_of_getElem? (i := 17) rfl), ⟨by decide, by decide⟩, by decide +kernel⟩
theorem imX11_isOwnHere : Cond.instanceMethod mX11_isOwnHere.1 ∈ lw_tbl := tb7 (List.mem_of_getElem? (i := 199) rfl)
theorem slX11_isOwnHere : Cond.selects mX11_isOwnHere.1.cls mX11_isOwnHere.1 mX11_isOwnHere.1 ∈ lw_tbl := List.mem_append_left _ (List.mem_of_getElem? (i := 73) rfl)
theorem nkX11_name : NK mX11_name 0 := ⟨cdX11_name, by decide, by decide, tb1 (List.mem_of_getElem? (i := 17) rfl), ⟨by decide, by decide⟩, by decide +kernel⟩
theorem imX11_name : Cond.instanceMethod mX11_name.1 ∈ lw_tbl := tb7 (List.mem_of_getElem? (i := 195) rfl)
theorem slX11_name : Cond.selects mX11_name.1.cls mX11_name.1 mX11_name.1 ∈ lw_tbl := List.mem_append_left _ (List.mem_of_getElem? (i := 72) rfl)
theorem nkX11_isAllowed : NK mX11_isAllowed 1 := ⟨cdX11_isAllowed, by decide, by decide, tb1 (List.mem_of_getElem? (i := 17) rfl), ⟨by decide, by decide⟩, by decide +kernel⟩
theorem imX11_isAllowed : Cond.instanceMethod mX11_isAllowed.1 ∈ lw_tbl := tb8 (List.mem_of_getElem? (i := 13) rfl)
theorem slX11_isAllowed : Cond.selects mX11_isAllowed.1.cls mX11_isAllowed.1 mX11_isAllowed.1 ∈ lw_tbl := List.mem_append_left _ (List.mem_of_getElem? (i := 86) rfl)
theorem nkX11_isFull : NK mX11_isFull 3 := ⟨cdX11_isFull, by decide, by decide, tb1 (List.mem_of_getElem? (i := 17) rfl), ⟨by decide, by decide⟩, by decide +kernel⟩
theorem imX11_isFull : Cond.instanceMethod mX11_isFull.1 ∈ lw_tbl := tb7 (List.mem_of_getElem? (i := 187) rfl)
theorem slX11_isFull : Cond.selects mX11_isFull.1.cls mX11_isFull.1 mX11_isFull.1 ∈ lw_tbl := List.mem_append_left _ (List.mem_of_getElem? (i := 70) rfl)
theorem nkX11_newName : NK mX11_newName 0 := ⟨cdX11_newName, by decide, by decide, tb1 (List.mem_of_getElem? (i := 17) rfl), ⟨by decide, by decide⟩, by decide +kernel⟩
theorem imX11_newName : Cond.instanceMethod mX11_newName.1 ∈ lw_tbl := tb7 (List.mem_of_getElem? (i := 191) rfl)
theorem slX11_newName : Cond.selects mX11_newName.1.cls mX11_newName.1 mX11_newName.1 ∈ lw_tbl := List.mem_append_left _ (List.mem_of_getElem? (i := 71) rfl)
theorem nkX11_named : NK mX11_named 1 := ⟨cdX11_named, by decide, by decide, tb1 (List.mem_of_getElem? (i := 17) rfl), ⟨by decide, by decide⟩, by decide +kernel⟩
theorem imX11_named : Cond.instanceMethod mX11_named.1 ∈ lw_tbl := tb7 (List.mem_of_getElem? (i := 213) rfl)
theorem slX11_named : Cond.selects mX11_named.1.cls mX11_named.1 mX11_named.1 ∈ lw_tbl := List.mem_append_left _ (List.mem_of_getElem? (i := 76) rfl)
theorem nkX11_seatsTold : NK mX11_seatsTold 0 := ⟨cdX11_seatsTold, by decide, by decide, tb1 (List.mem_of_getElem? (i := 17) rfl), ⟨by decide, by decide⟩, by decide +kernel⟩
theorem imX11_seatsTold : Cond.instanceMethod mX11_seatsTold.1 ∈ lw_tbl := tb7 (List.mem_of_getElem? (i := 134) rfl)
theorem slX11_seatsTold : Cond.selects mX11_seatsTold.1.cls mX11_seatsTold.1 mX11_seatsTold.1 ∈ lw_tbl := List.mem_append_left _ (List.mem_of_getElem? (i := 59) rfl)
theorem nkX11_matterTold : NK mX11_matterTold 1 := ⟨cdX11_matterTold, by decide, by decide, tb1 (List.mem_of_getElem? (i := 17) rfl), ⟨by decide, by decide⟩, by decide +kernel⟩
theorem imX11_matterTold : Cond.instanceMethod mX11_matterTold.1 ∈ lw_tbl := tb7 (List.mem_of_getElem? (i := 183) rfl)
theorem slX11_matterTold : Cond.selects mX11_matterTold.1.cls mX11_matterTold.1 mX11_matterTold.1 ∈ lw_tbl := List.mem_append_left _ (List.mem_of_getElem? (i := 69) rfl)
theorem nkX11_clerkTold : NK mX11_clerkTold 1 := ⟨cdX11_clerkTold, by decide, by decide, tb1 (List.mem_of_getElem? (i := 17) rfl), ⟨by decide, by decide⟩, by decide +kernel⟩
theorem imX11_clerkTold : Cond.instanceMethod mX11_clerkTold.1 ∈ lw_tbl := tb7 (List.mem_of_getElem? (i := 205) rfl)
theorem slX11_clerkTold : Cond.selects mX11_clerkTold.1.cls mX11_clerkTold.1 mX11_clerkTold.1 ∈ lw_tbl := List.mem_append_left _ (List.mem_of_getElem? (i := 74) rfl)
theorem nkX11_toldTold : NK mX11_toldTold 0 := ⟨cdX11_toldTold, by decide, by decide, tb1 (List.mem_of_getElem? (i := 17) rfl), ⟨by decide, by decide⟩, by decide +kernel⟩
theorem imX11_toldTold : Cond.instanceMethod mX11_toldTold.1 ∈ lw_tbl := tb7 (List.mem_of_getElem? (i := 209) rfl)
theorem slX11_toldTold : Cond.selects mX11_toldTold.1.cls mX11_toldTold.1 mX11_toldTold.1 ∈ lw_tbl := List.mem_append_left _ (List.mem_of_getElem? (i := 75) rfl)
theorem nkX11_codesTold : NK mX11_codesTold 2 := ⟨cdX11_codesTold, by decide, by decide, tb1 (List.mem_of_getElem? (i := 17) rfl), ⟨by decide, by decide⟩, by decide +kernel⟩
theorem imX11_codesTold : Cond.instanceMethod mX11_codesTold.1 ∈ lw_tbl := tb7 (List.mem_of_getElem? (i := 217) rfl)
theorem slX11_codesTold : Cond.selects mX11_codesTold.1.cls mX11_codesTold.1 mX11_codesTold.1 ∈ lw_tbl := List.mem_append_left _ (List.mem_of_getElem? (i := 77) rfl)
theorem nkX11_statementTold : NK mX11_statementTold 0 := ⟨cdX11_statementTold, by decide, by decide, tb1 (List.mem_of_getElem? (i := 17) rfl), ⟨by decide, by decide⟩, by decide +kernel⟩
theorem imX11_statementTold : Cond.instanceMethod mX11_statementTold.1 ∈ lw_tbl := tb7 (List.mem_of_getElem? (i := 179) rfl)
theorem slX11_statementTold : Cond.selects mX11_statementTold.1.cls mX11_statementTold.1 mX11_statementTold.1 ∈ lw_tbl := List.mem_append_left _ (List.mem_of_getElem? (i := 68) rfl)
theorem nkX11_registry : NK mX11_registry 0 := ⟨cdX11_registry, by decide, by decide, tb1 (List.mem_of_getElem? (i := 17) rfl), ⟨by decide, by decide⟩, by decide +kernel⟩
theorem imX11_registry : Cond.instanceMethod mX11_registry.1 ∈ lw_tbl := tb7 (List.mem_of_getElem? (i := 129) rfl)
theorem slX11_registry : Cond.selects mX11_registry.1.cls mX11_registry.1 mX11_registry.1 ∈ lw_tbl := tb7 (List.mem_of_getElem? (i := 130) rfl)
theorem nkX11_stands : NK mX11_stands 0 := ⟨cdX11_stands, by decide, by decide, tb1 (List.mem_of_getElem? (i := 17) rfl), ⟨by decide, by decide⟩, by decide +kernel⟩
theorem imX11_stands : Cond.instanceMethod mX11_stands.1 ∈ lw_tbl := tb8 (List.mem_of_getElem? (i := 60) rfl)
theorem slX11_stands : Cond.selects mX11_stands.1.cls mX11_stands.1 mX11_stands.1 ∈ lw_tbl := List.mem_append_left _ (List.mem_of_getElem? (i := 97) rfl)
theorem nkX11_fault : NK mX11_fault 1 := ⟨cdX11_fault, by decide, by decide, tb1 (List.mem_of_getElem? (i := 17) rfl), ⟨by decide, by decide⟩, by decide +kernel⟩
theorem imX11_fault : Cond.instanceMethod mX11_fault.1 ∈ lw_tbl := tb8 (List.mem_of_getElem? (i := 63) rfl)
theorem slX11_fault : Cond.selects mX11_fault.1.cls mX11_fault.1 mX11_fault.1 ∈ lw_tbl := tb8 (List.mem_of_getElem? (i := 64) rfl)
theorem nkX11_matterMany : NK mX11_matterMany 0 := ⟨cdX11_matterMany, by decide, by decide, tb1 (List.mem_of_getElem? (i := 17) rfl), ⟨by decide, by decide⟩, by decide +kernel⟩
theorem imX11_matterMany : Cond.instanceMethod mX11_matterMany.1 ∈ lw_tbl := tb8 (List.mem_of_getElem? (i := 92) rfl)
theorem slX11_matterMany : Cond.selects mX11_matterMany.1.cls mX11_matterMany.1 mX11_matterMany.1 ∈ lw_tbl := List.mem_append_left _ (List.mem_of_getElem? (i := 103) rfl)
theorem nkX11_clerkMany : NK mX11_clerkMany 0 := ⟨cdX11_clerkMany, by decide, by decide, tb1 (List.mem_of_getElem? (i := 17) rfl), ⟨by decide, by decide⟩, by decide +kernel⟩
theorem imX11_clerkMany : Cond.instanceMethod mX11_clerkMany.1 ∈ lw_tbl := tb8 (List.mem_of_getElem? (i := 76) rfl)
theorem slX11_clerkMany : Cond.selects mX11_clerkMany.1.cls mX11_clerkMany.1 mX11_clerkMany.1 ∈ lw_tbl := List.mem_append_left _ (List.mem_of_getElem? (i := 99) rfl)
theorem nkX11_isMatter : NK mX11_isMatter 1 := ⟨cdX11_isMatter, by decide, by decide, tb1 (List.mem_of_getElem? (i := 17) rfl), ⟨by decide, by decide⟩, by decide +kernel⟩
theorem imX11_isMatter : Cond.instanceMethod mX11_isMatter.1 ∈ lw_tbl := tb8 (List.mem_of_getElem? (i := 153) rfl)
theorem slX11_isMatter : Cond.selects mX11_isMatter.1.cls mX11_isMatter.1 mX11_isMatter.1 ∈ lw_tbl := List.mem_append_left _ (List.mem_of_getElem? (i := 114) rfl)
theorem nkX11_isClerk : NK mX11_isClerk 1 := ⟨cdX11_isClerk, by decide, by decide, tb1 (List.mem_of_getElem? (i := 17) rfl), ⟨by decide, by decide⟩, by decide +kernel⟩
theorem imX11_isClerk : Cond.instanceMethod mX11_isClerk.1 ∈ lw_tbl := tb8 (List.mem_of_getElem? (i := 133) rfl)
theorem slX11_isClerk : Cond.selects mX11_isClerk.1.cls mX11_isClerk.1 mX11_isClerk.1 ∈ lw_tbl := List.mem_append_left _ (List.mem_of_getElem? (i := 110) rfl)
theorem nkX11_areBoth : NK mX11_areBoth 2 := ⟨cdX11_areBoth, by decide, by decide, tb1 (List.mem_of_getElem? (i := 17) rfl), ⟨by decide, by decide⟩, by decide +kernel⟩
theorem imX11_areBoth : Cond.instanceMethod mX11_areBoth.1 ∈ lw_tbl := tb8 (List.mem_of_getElem? (i := 149) rfl)
theorem slX11_areBoth : Cond.selects mX11_areBoth.1.cls mX11_areBoth.1 mX11_areBoth.1 ∈ lw_tbl := List.mem_append_left _ (List.mem_of_getElem? (i := 113) rfl)
theorem nkX11_seatOf : NK mX11_seatOf 1 := ⟨cdX11_seatOf, by decide, by decide, tb1 (List.mem_of_getElem? (i := 17) rfl), ⟨by decide, by decide⟩, by decide +kernel⟩
theorem imX11_seatOf : Cond.instanceMethod mX11_seatOf.1 ∈ lw_tbl := tb8 (List.mem_of_getElem? (i := 125) rfl)
theorem slX11_seatOf : Cond.selects mX11_seatOf.1.cls mX11_seatOf.1 mX11_seatOf.1 ∈ lw_tbl := List.mem_append_left _ (List.mem_of_getElem? (i := 109) rfl)
theorem nkX11_dropsOf : NK mX11_dropsOf 2 := ⟨cdX11_dropsOf, by decide, by decide, tb1 (List.mem_of_getElem? (i := 17) rfl), ⟨by decide, by decide⟩, by decide +kernel⟩
theorem imX11_dropsOf : Cond.instanceMethod mX11_dropsOf.1 ∈ lw_tbl := tb8 (List.mem_of_getElem? (i := 84) rfl)
theorem slX11_dropsOf : Cond.selects mX11_dropsOf.1.cls mX11_dropsOf.1 mX11_dropsOf.1 ∈ lw_tbl := List.mem_append_left _ (List.mem_of_getElem? (i := 101) rfl)
theorem nkX11_roomOf : NK mX11_roomOf 1 := ⟨cdX11_roomOf, by decide, by decide, tb1 (List.mem_of_getElem? (i := 17) rfl), ⟨by decide, by decide⟩, by decide +kernel⟩
theorem imX11_roomOf : Cond.instanceMethod mX11_roomOf.1 ∈ lw_tbl := tb8 (List.mem_of_getElem? (i := 108) rfl)
theorem slX11_roomOf : Cond.selects mX11_roomOf.1.cls mX11_roomOf.1 mX11_roomOf.1 ∈ lw_tbl := List.mem_append_left _ (List.mem_of_getElem? (i := 107) rfl)
theorem nkX11_fullOf : NK mX11_fullOf 1 := ⟨cdX11_fullOf, by decide, by decide, tb1 (List.mem_of_getElem? (i := 17) rfl), ⟨by decide, by decide⟩, by decide +kernel⟩
theorem imX11_fullOf : Cond.instanceMethod mX11_fullOf.1 ∈ lw_tbl := tb8 (List.mem_of_getElem? (i := 80) rfl)
theorem slX11_fullOf : Cond.selects mX11_fullOf.1.cls mX11_fullOf.1 mX11_fullOf.1 ∈ lw_tbl := List.mem_append_left _ (List.mem_of_getElem? (i := 100) rfl)
theorem nkX11_spaceOf : NK mX11_spaceOf 1 := ⟨cdX11_spaceOf, by decide, by decide, tb1 (List.mem_of_getElem? (i := 17) rfl), ⟨by decide, by decide⟩, by decide +kernel⟩
theorem imX11_spaceOf : Cond.instanceMethod mX11_spaceOf.1 ∈ lw_tbl := tb8 (List.mem_of_getElem? (i := 104) rfl)
theorem slX11_spaceOf : Cond.selects mX11_spaceOf.1.cls mX11_spaceOf.1 mX11_spaceOf.1 ∈ lw_tbl := List.mem_append_left _ (List.mem_of_getElem? (i := 106) rfl)
theorem nkX11_apart : NK mX11_apart 2 := ⟨cdX11_apart, by decide, by decide, tb1 (List.mem_of_getElem? (i := 17) rfl), ⟨by decide, by decide⟩, by decide +kernel⟩
theorem imX11_apart : Cond.instanceMethod mX11_apart.1 ∈ lw_tbl := tb8 (List.mem_of_getElem? (i := 190) rfl)
theorem slX11_apart : Cond.selects mX11_apart.1.cls mX11_apart.1 mX11_apart.1 ∈ lw_tbl := List.mem_append_left _ (List.mem_of_getElem? (i := 121) rfl)
theorem nkX11_mindOf : NK mX11_mindOf 1 := ⟨cdX11_mindOf, by decide, by decide, tb1 (List.mem_of_getElem? (i := 17) rfl), ⟨by decide, by decide⟩, by decide +kernel⟩
theorem imX11_mindOf : Cond.instanceMethod mX11_mindOf.1 ∈ lw_tbl := tb8 (List.mem_of_getElem? (i := 137) rfl)
theorem slX11_mindOf : Cond.selects mX11_mindOf.1.cls mX11_mindOf.1 mX11_mindOf.1 ∈ lw_tbl := List.mem_append_left _ (List.mem_of_getElem? (i := 111) rfl)
theorem nkX11_sitterOf : NK mX11_sitterOf 1 := ⟨cdX11_sitterOf, by decide, by decide, tb1 (List.mem_of_getElem? (i := 17) rfl), ⟨by decide, by decide⟩, by decide +kernel⟩
theorem imX11_sitterOf : Cond.instanceMethod mX11_sitterOf.1 ∈ lw_tbl := tb8 (List.mem_of_getElem? (i := 121) rfl)
theorem slX11_sitterOf : Cond.selects mX11_sitterOf.1.cls mX11_sitterOf.1 mX11_sitterOf.1 ∈ lw_tbl := List.mem_append_left _ (List.mem_of_getElem? (i := 108) rfl)
theorem nkX11_floorOf : NK mX11_floorOf 1 := ⟨cdX11_floorOf, by decide, by decide, tb1 (List.mem_of_getElem? (i := 17) rfl), ⟨by decide, by decide⟩, by decide +kernel⟩
theorem imX11_floorOf : Cond.instanceMethod mX11_floorOf.1 ∈ lw_tbl := tb8 (List.mem_of_getElem? (i := 96) rfl)
theorem slX11_floorOf : Cond.selects mX11_floorOf.1.cls mX11_floorOf.1 mX11_floorOf.1 ∈ lw_tbl := List.mem_append_left _ (List.mem_of_getElem? (i := 104) rfl)
theorem nkX11_floorAll : NK mX11_floorAll 0 := ⟨cdX11_floorAll, by decide, by decide, tb1 (List.mem_of_getElem? (i := 17) rfl), ⟨by decide, by decide⟩, by decide +kernel⟩
theorem imX11_floorAll : Cond.instanceMethod mX11_floorAll.1 ∈ lw_tbl := tb8 (List.mem_of_getElem? (i := 88) rfl)
theorem slX11_floorAll : Cond.selects mX11_floorAll.1.cls mX11_floorAll.1 mX11_floorAll.1 ∈ lw_tbl := List.mem_append_left _ (List.mem_of_getElem? (i := 102) rfl)
theorem nkX11_bits : NK mX11_bits 1 := ⟨cdX11_bits, by decide, by decide, tb1 (List.mem_of_getElem? (i := 17) rfl), ⟨by decide, by decide⟩, by decide +kernel⟩
theorem scX11_bits : Cond.static mX11_bits.1 ∈ lw_tbl := tb9 (List.mem_of_getElem? (i := 22) rfl)
theorem nkX11_codesTell : NK mX11_codesTell 2 := ⟨cdX11_codesTell, by decide, by decide, tb1 (List.mem_of_getElem? (i := 17) rfl), ⟨by decide, by decide⟩, by decide +kernel⟩
theorem imX11_codesTell : Cond.instanceMethod mX11_codesTell.1 ∈ lw_tbl := tb8 (List.mem_of_getElem? (i := 178) rfl)
theorem slX11_codesTell : Cond.selects mX11_codesTell.1.cls mX11_codesTell.1 mX11_codesTell.1 ∈ lw_tbl := List.mem_append_left _ (List.mem_of_getElem? (i := 118) rfl)
theorem nkX11_leaksFrom : NK mX11_leaksFrom 3 := ⟨cdX11_leaksFrom, by decide, by decide, tb1 (List.mem_of_getElem? (i := 17) rfl), ⟨by decide, by decide⟩, by decide +kernel⟩
theorem imX11_leaksFrom : Cond.instanceMethod mX11_leaksFrom.1 ∈ lw_tbl := tb8 (List.mem_of_getElem? (i := 174) rfl)
theorem slX11_leaksFrom : Cond.selects mX11_leaksFrom.1.cls mX11_leaksFrom.1 mX11_leaksFrom.1 ∈ lw_tbl := List.mem_append_left _ (List.mem_of_getElem? (i := 117) rfl)
theorem nkX11_goesOver : NK mX11_goesOver 4 := ⟨cdX11_goesOver, by decide, by decide, tb1 (List.mem_of_getElem? (i := 17) rfl), ⟨by decide, by decide⟩, by decide +kernel⟩
theorem imX11_goesOver : Cond.instanceMethod mX11_goesOver.1 ∈ lw_tbl := tb8 (List.mem_of_getElem? (i := 231) rfl)
theorem slX11_goesOver : Cond.selects mX11_goesOver.1.cls mX11_goesOver.1 mX11_goesOver.1 ∈ lw_tbl := List.mem_append_left _ (List.mem_of_getElem? (i := 127) rfl)
theorem nkX11_fullMany : NK mX11_fullMany 0 := ⟨cdX11_fullMany, by decide, by decide, tb1 (List.mem_of_getElem? (i := 17) rfl), ⟨by decide, by decide⟩, by decide +kernel⟩
theorem imX11_fullMany : Cond.instanceMethod mX11_fullMany.1 ∈ lw_tbl := tb8 (List.mem_of_getElem? (i := 100) rfl)
theorem slX11_fullMany : Cond.selects mX11_fullMany.1.cls mX11_fullMany.1 mX11_fullMany.1 ∈ lw_tbl := List.mem_append_left _ (List.mem_of_getElem? (i := 105) rfl)
theorem nkX11_isKept : NK mX11_isKept 1 := ⟨cdX11_isKept, by decide, by decide, tb1 (List.mem_of_getElem? (i := 17) rfl), ⟨by decide, by decide⟩, by decide +kernel⟩
theorem imX11_isKept : Cond.instanceMethod mX11_isKept.1 ∈ lw_tbl := tb8 (List.mem_of_getElem? (i := 235) rfl)
theorem slX11_isKept : Cond.selects mX11_isKept.1.cls mX11_isKept.1 mX11_isKept.1 ∈ lw_tbl := List.mem_append_left _ (List.mem_of_getElem? (i := 128) rfl)
theorem nkX11_dayGoes : NK mX11_dayGoes 1 := ⟨cdX11_dayGoes, by decide, by decide, tb1 (List.mem_of_getElem? (i := 17) rfl), ⟨by decide, by decide⟩, by decide +kernel⟩
theorem imX11_dayGoes : Cond.instanceMethod mX11_dayGoes.1 ∈ lw_tbl := tb8 (List.mem_of_getElem? (i := 227) rfl)
theorem slX11_dayGoes : Cond.selects mX11_dayGoes.1.cls mX11_dayGoes.1 mX11_dayGoes.1 ∈ lw_tbl := List.mem_append_left _ (List.mem_of_getElem? (i := 126) rfl)
theorem nkX11_daysGo : NK mX11_daysGo 1 := ⟨cdX11_daysGo, by decide, by decide, tb1 (List.mem_of_getElem? (i := 17) rfl), ⟨by decide, by decide⟩, by decide +kernel⟩
theorem imX11_daysGo : Cond.instanceMethod mX11_daysGo.1 ∈ lw_tbl := tb8 (List.mem_of_getElem? (i := 223) rfl)
theorem slX11_daysGo : Cond.selects mX11_daysGo.1.cls mX11_daysGo.1 mX11_daysGo.1 ∈ lw_tbl := List.mem_append_left _ (List.mem_of_getElem? (i := 125) rfl)
theorem nkX11_putsAside : NK mX11_putsAside 0 := ⟨cdX11_putsAside, by decide, by decide, tb1 (List.mem_of_getElem? (i := 17) rfl), ⟨by decide, by decide⟩, by decide +kernel⟩
theorem imX11_putsAside : Cond.instanceMethod mX11_putsAside.1 ∈ lw_tbl := tb8 (List.mem_of_getElem? (i := 219) rfl)
theorem slX11_putsAside : Cond.selects mX11_putsAside.1.cls mX11_putsAside.1 mX11_putsAside.1 ∈ lw_tbl := List.mem_append_left _ (List.mem_of_getElem? (i := 124) rfl)
theorem nkX11_triesAnew : NK mX11_triesAnew 0 := ⟨cdX11_triesAnew, by decide, by decide, tb1 (List.mem_of_getElem? (i := 17) rfl), ⟨by decide, by decide⟩, by decide +kernel⟩
theorem imX11_triesAnew : Cond.instanceMethod mX11_triesAnew.1 ∈ lw_tbl := tb9 (List.mem_of_getElem? (i := 3) rfl)
theorem slX11_triesAnew : Cond.selects mX11_triesAnew.1.cls mX11_triesAnew.1 mX11_triesAnew.1 ∈ lw_tbl := List.mem_append_left _ (List.mem_of_getElem? (i := 130) rfl)
theorem nkX11_takesBack : NK mX11_takesBack 0 := ⟨cdX11_takesBack, by decide, by decide, tb1 (List.mem_of_getElem? (i := 17) rfl), ⟨by decide, by decide⟩, by decide +kernel⟩
theorem imX11_takesBack : Cond.instanceMethod mX11_takesBack.1 ∈ lw_tbl := tb8 (List.mem_of_getElem? (i := 239) rfl)
theorem slX11_takesBack : Cond.selects mX11_takesBack.1.cls mX11_takesBack.1 mX11_takesBack.1 ∈ lw_tbl := List.mem_append_left _ (List.mem_of_getElem? (i := 129) rfl)
theorem nkX11_isAhead : NK mX11_isAhead 3 := ⟨cdX11_isAhead, by decide, by decide, tb1 (List.mem_of_getElem? (i := 17) rfl), ⟨by decide, by decide⟩, by decide +kernel⟩
theorem imX11_isAhead : Cond.instanceMethod mX11_isAhead.1 ∈ lw_tbl := tb8 (List.mem_of_getElem? (i := 215) rfl)
theorem slX11_isAhead : Cond.selects mX11_isAhead.1.cls mX11_isAhead.1 mX11_isAhead.1 ∈ lw_tbl := List.mem_append_left _ (List.mem_of_getElem? (i := 123) rfl)
theorem nkX11_knowersOf : NK mX11_knowersOf 1 := ⟨cdX11_knowersOf, by decide, by decide, tb1 (List.mem_of_getElem? (i := 17) rfl), ⟨by decide, by decide⟩, by decide +kernel⟩
theorem imX11_knowersOf : Cond.instanceMethod mX11_knowersOf.1 ∈ lw_tbl := tb8 (List.mem_of_getElem? (i := 166) rfl)
theorem slX11_knowersOf : Cond.selects mX11_knowersOf.1.cls mX11_knowersOf.1 mX11_knowersOf.1 ∈ lw_tbl := List.mem_append_left _ (List.mem_of_getElem? (i := 116) rfl)
theorem nkX11_inClerks : NK mX11_inClerks 1 := ⟨cdX11_inClerks, by decide, by decide, tb1 (List.mem_of_getElem? (i := 17) rfl), ⟨by decide, by decide⟩, by decide +kernel⟩
theorem imX11_inClerks : Cond.instanceMethod mX11_inClerks.1 ∈ lw_tbl := tb8 (List.mem_of_getElem? (i := 161) rfl)
theorem slX11_inClerks : Cond.selects mX11_inClerks.1.cls mX11_inClerks.1 mX11_inClerks.1 ∈ lw_tbl := List.mem_append_left _ (List.mem_of_getElem? (i := 115) rfl)
theorem nkX11_dropAll : NK mX11_dropAll 0 := ⟨cdX11_dropAll, by decide, by decide, tb1 (List.mem_of_getElem? (i := 17) rfl), ⟨by decide, by decide⟩, by decide +kernel⟩
theorem imX11_dropAll : Cond.instanceMethod mX11_dropAll.1 ∈ lw_tbl := tb8 (List.mem_of_getElem? (i := 72) rfl)
theorem slX11_dropAll : Cond.selects mX11_dropAll.1.cls mX11_dropAll.1 mX11_dropAll.1 ∈ lw_tbl := List.mem_append_left _ (List.mem_of_getElem? (i := 98) rfl)
theorem nkX11_has : NK mX11_has 1 := ⟨cdX11_has, by decide, by decide, tb1 (List.mem_of_getElem? (i := 17) rfl), ⟨by decide, by decide⟩, by decide +kernel⟩
theorem imX11_has : Cond.instanceMethod mX11_has.1 ∈ lw_tbl := tb8 (List.mem_of_getElem? (i := 67) rfl)
theorem slX11_has : Cond.selects mX11_has.1.cls mX11_has.1 mX11_has.1 ∈ lw_tbl := tb8 (List.mem_of_getElem? (i := 68) rfl)
theorem nkX11_letter : NK mX11_letter 3 := ⟨cdX11_letter, by decide, by decide, tb1 (List.mem_of_getElem? (i := 17) rfl), ⟨by decide, by decide⟩, by decide +kernel⟩
theorem imX11_letter : Cond.instanceMethod mX11_letter.1 ∈ lw_tbl := tb8 (List.mem_of_getElem? (i := 111) rfl)
theorem slX11_letter : Cond.selects mX11_letter.1.cls mX11_letter.1 mX11_letter.1 ∈ lw_tbl := tb8 (List.mem_of_getElem? (i := 112) rfl)
theorem nkX11_seat : NK mX11_seat 1 := ⟨cdX11_seat, by decide, by decide, tb1 (List.mem_of_getElem? (i := 17) rfl), ⟨by decide, by decide⟩, by decide +kernel⟩
theorem imX11_seat : Cond.instanceMethod mX11_seat.1 ∈ lw_tbl := tb8 (List.mem_of_getElem? (i := 116) rfl)
theorem slX11_seat : Cond.selects mX11_seat.1.cls mX11_seat.1 mX11_seat.1 ∈ lw_tbl := tb8 (List.mem_of_getElem? (i := 117) rfl)
theorem nkX11_powerOf : NK mX11_powerOf 1 := ⟨cdX11_powerOf, by decide, by decide, tb1 (List.mem_of_getElem? (i := 17) rfl), ⟨by decide, by decide⟩, by decide +kernel⟩
theorem imX11_powerOf : Cond.instanceMethod mX11_powerOf.1 ∈ lw_tbl := tb8 (List.mem_of_getElem? (i := 141) rfl)
theorem slX11_powerOf : Cond.selects mX11_powerOf.1.cls mX11_powerOf.1 mX11_powerOf.1 ∈ lw_tbl := List.mem_append_left _ (List.mem_of_getElem? (i := 112) rfl)
theorem nkX11_clerk : NK mX11_clerk 2 := ⟨cdX11_clerk, by decide, by decide, tb1 (List.mem_of_getElem? (i := 17) rfl), ⟨by decide, by decide⟩, by decide +kernel⟩
theorem imX11_clerk : Cond.instanceMethod mX11_clerk.1 ∈ lw_tbl := tb8 (List.mem_of_getElem? (i := 128) rfl)
theorem slX11_clerk : Cond.selects mX11_clerk.1.cls mX11_clerk.1 mX11_clerk.1 ∈ lw_tbl := tb8 (List.mem_of_getElem? (i := 129) rfl)
theorem nkX11_drops : NK mX11_drops 2 := ⟨cdX11_drops, by decide, by decide, tb1 (List.mem_of_getElem? (i := 17) rfl), ⟨by decide, by decide⟩, by decide +kernel⟩
theorem imX11_drops : Cond.instanceMethod mX11_drops.1 ∈ lw_tbl := tb8 (List.mem_of_getElem? (i := 144) rfl)
theorem slX11_drops : Cond.selects mX11_drops.1.cls mX11_drops.1 mX11_drops.1 ∈ lw_tbl := tb8 (List.mem_of_getElem? (i := 145) rfl)
theorem nkX11_matter : NK mX11_matter 2 := ⟨cdX11_matter, by decide, by decide, tb1 (List.mem_of_getElem? (i := 17) rfl), ⟨by decide, by decide⟩, by decide +kernel⟩
theorem imX11_matter : Cond.instanceMethod mX11_matter.1 ∈ lw_tbl := tb8 (List.mem_of_getElem? (i := 156) rfl)
theorem slX11_matter : Cond.selects mX11_matter.1.cls mX11_matter.1 mX11_matter.1 ∈ lw_tbl := tb8 (List.mem_of_getElem? (i := 157) rfl)
theorem nkX11_leak : NK mX11_leak 3 := ⟨cdX11_leak, by decide, by decide, tb1 (List.mem_of_getElem? (i := 17) rfl), ⟨by decide, by decide⟩, by decide +kernel⟩
theorem imX11_leak : Cond.instanceMethod mX11_leak.1 ∈ lw_tbl := tb8 (List.mem_of_getElem? (i := 169) rfl)
theorem slX11_leak : Cond.selects mX11_leak.1.cls mX11_leak.1 mX11_leak.1 ∈ lw_tbl := tb8 (List.mem_of_getElem? (i := 170) rfl)
theorem nkX11_kept : NK mX11_kept 2 := ⟨cdX11_kept, by decide, by decide, tb1 (List.mem_of_getElem? (i := 17) rfl), ⟨by decide, by decide⟩, by decide +kernel⟩
theorem imX11_kept : Cond.instanceMethod mX11_kept.1 ∈ lw_tbl := tb8 (List.mem_of_getElem? (i := 205) rfl)
theorem slX11_kept : Cond.selects mX11_kept.1.cls mX11_kept.1 mX11_kept.1 ∈ lw_tbl := tb8 (List.mem_of_getElem? (i := 206) rfl)
theorem nkX11_later : NK mX11_later 3 := ⟨cdX11_later, by decide, by decide, tb1 (List.mem_of_getElem? (i := 17) rfl), ⟨by decide, by decide⟩, by decide +kernel⟩
theorem imX11_later : Cond.instanceMethod mX11_later.1 ∈ lw_tbl := tb8 (List.mem_of_getElem? (i := 210) rfl)
theorem slX11_later : Cond.selects mX11_later.1.cls mX11_later.1 mX11_later.1 ∈ lw_tbl := tb8 (List.mem_of_getElem? (i := 211) rfl)
theorem nkX11_knows : NK mX11_knows 2 := ⟨cdX11_knows, by decide, by decide, tb1 (List.mem_of_getElem? (i := 17) rfl), ⟨by decide, by decide⟩, by decide +kernel⟩
theorem imX11_knows : Cond.instanceMethod mX11_knows.1 ∈ lw_tbl := tb9 (List.mem_of_getElem? (i := 6) rfl)
theorem slX11_knows : Cond.selects mX11_knows.1.cls mX11_knows.1 mX11_knows.1 ∈ lw_tbl := tb9 (List.mem_of_getElem? (i := 7) rfl)
theorem nkX11_hears : NK mX11_hears 2 := ⟨cdX11_hears, by decide, by decide, tb1 (List.mem_of_getElem? (i := 17) rfl), ⟨by decide, by decide⟩, by decide +kernel⟩
theorem imX11_hears : Cond.instanceMethod mX11_hears.1 ∈ lw_tbl := tb9 (List.mem_of_getElem? (i := 10) rfl)
theorem slX11_hears : Cond.selects mX11_hears.1.cls mX11_hears.1 mX11_hears.1 ∈ lw_tbl := tb9 (List.mem_of_getElem? (i := 11) rfl)
theorem nkX11_changes : NK mX11_changes 2 := ⟨cdX11_changes, by decide, by decide, tb1 (List.mem_of_getElem? (i := 17) rfl), ⟨by decide, by decide⟩, by decide +kernel⟩
theorem imX11_changes : Cond.instanceMethod mX11_changes.1 ∈ lw_tbl := tb9 (List.mem_of_getElem? (i := 26) rfl)
theorem slX11_changes : Cond.selects mX11_changes.1.cls mX11_changes.1 mX11_changes.1 ∈ lw_tbl := List.mem_append_left _ (List.mem_of_getElem? (i := 132) rfl)
theorem nkX11_knowMany : NK mX11_knowMany 2 := ⟨cdX11_knowMany, by decide, by decide, tb1 (List.mem_of_getElem? (i := 17) rfl), ⟨by decide, by decide⟩, by decide +kernel⟩
theorem imX11_knowMany : Cond.instanceMethod mX11_knowMany.1 ∈ lw_tbl := tb9 (List.mem_of_getElem? (i := 19) rfl)
theorem slX11_knowMany : Cond.selects mX11_knowMany.1.cls mX11_knowMany.1 mX11_knowMany.1 ∈ lw_tbl := List.mem_append_left _ (List.mem_of_getElem? (i := 131) rfl)
theorem nkX11_discreet : NK mX11_discreet 3 := ⟨cdX11_discreet, by decide, by decide, tb1 (List.mem_of_getElem? (i := 17) rfl), ⟨by decide, by decide⟩, by decide +kernel⟩
theorem imX11_discreet : Cond.instanceMethod mX11_discreet.1 ∈ lw_tbl := tb9 (List.mem_of_getElem? (i := 14) rfl)
theorem slX11_discreet : Cond.selects mX11_discreet.1.cls mX11_discreet.1 mX11_discreet.1 ∈ lw_tbl := tb9 (List.mem_of_getElem? (i := 15) rfl)
theorem nkX11_isPressed : NK mX11_isPressed 4 := ⟨cdX11_isPressed, by decide, by decide, tb1 (List.mem_of_getElem? (i := 17) rfl), ⟨by decide, by decide⟩, by decide +kernel⟩
theorem imX11_isPressed : Cond.instanceMethod mX11_isPressed.1 ∈ lw_tbl := tb9 (List.mem_of_getElem? (i := 34) rfl)
theorem slX11_isPressed : Cond.selects mX11_isPressed.1.cls mX11_isPressed.1 mX11_isPressed.1 ∈ lw_tbl := List.mem_append_left _ (List.mem_of_getElem? (i := 133) rfl)
theorem nkX11_pressed : NK mX11_pressed 3 := ⟨cdX11_pressed, by decide, by decide, tb1 (List.mem_of_getElem? (i := 17) rfl), ⟨by decide, by decide⟩, by decide +kernel⟩
theorem imX11_pressed : Cond.instanceMethod mX11_pressed.1 ∈ lw_tbl := tb9 (List.mem_of_getElem? (i := 29) rfl)
theorem slX11_pressed : Cond.selects mX11_pressed.1.cls mX11_pressed.1 mX11_pressed.1 ∈ lw_tbl := tb9 (List.mem_of_getElem? (i := 30) rfl)
theorem nkX11_mops : NK mX11_mops 0 := ⟨cdX11_mops, by decide, by decide, tb1 (List.mem_of_getElem? (i := 17) rfl), ⟨by decide, by decide⟩, by decide +kernel⟩
theorem imX11_mops : Cond.instanceMethod mX11_mops.1 ∈ lw_tbl := tb9 (List.mem_of_getElem? (i := 37) rfl)
theorem slX11_mops : Cond.selects mX11_mops.1.cls mX11_mops.1 mX11_mops.1 ∈ lw_tbl := tb9 (List.mem_of_getElem? (i := 38) rfl)
theorem nkX11_canHave : NK mX11_canHave 2 := ⟨cdX11_canHave, by decide, by decide, tb1 (List.mem_of_getElem? (i := 17) rfl), ⟨by decide, by decide⟩, by decide +kernel⟩
theorem imX11_canHave : Cond.instanceMethod mX11_canHave.1 ∈ lw_tbl := tb9 (List.mem_of_getElem? (i := 50) rfl)
theorem slX11_canHave : Cond.selects mX11_canHave.1.cls mX11_canHave.1 mX11_canHave.1 ∈ lw_tbl := List.mem_append_left _ (List.mem_of_getElem? (i := 135) rfl)
theorem nkX11_isRow : NK mX11_isRow 0 := ⟨cdX11_isRow, by decide, by decide, tb1 (List.mem_of_getElem? (i := 17) rfl), ⟨by decide, by decide⟩, by decide +kernel⟩
theorem imX11_isRow : Cond.instanceMethod mX11_isRow.1 ∈ lw_tbl := tb9 (List.mem_of_getElem? (i := 46) rfl)
theorem slX11_isRow : Cond.selects mX11_isRow.1.cls mX11_isRow.1 mX11_isRow.1 ∈ lw_tbl := List.mem_append_left _ (List.mem_of_getElem? (i := 134) rfl)
theorem nkX11_desks : NK mX11_desks 1 := ⟨cdX11_desks, by decide, by decide, tb1 (List.mem_of_getElem? (i := 17) rfl), ⟨by decide, by decide⟩, by decide +kernel⟩
theorem imX11_desks : Cond.instanceMethod mX11_desks.1 ∈ lw_tbl := tb9 (List.mem_of_getElem? (i := 41) rfl)
theorem slX11_desks : Cond.selects mX11_desks.1.cls mX11_desks.1 mX11_desks.1 ∈ lw_tbl := tb9 (List.mem_of_getElem? (i := 42) rfl)
theorem nkX11_refuses : NK mX11_refuses 1 := ⟨cdX11_refuses, by decide, by decide, tb1 (List.mem_of_getElem? (i := 17) rfl), ⟨by decide, by decide⟩, by decide +kernel⟩
theorem imX11_refuses : Cond.instanceMethod mX11_refuses.1 ∈ lw_tbl := tb9 (List.mem_of_getElem? (i := 58) rfl)
theorem slX11_refuses : Cond.selects mX11_refuses.1.cls mX11_refuses.1 mX11_refuses.1 ∈ lw_tbl := List.mem_append_left _ (List.mem_of_getElem? (i := 136) rfl)
theorem nkX11_see : NK mX11_see 0 := ⟨cdX11_see, by decide, by decide, tb1 (List.mem_of_getElem? (i := 17) rfl), ⟨by decide, by decide⟩, by decide +kernel⟩
theorem imX11_see : Cond.instanceMethod mX11_see.1 ∈ lw_tbl := tb9 (List.mem_of_getElem? (i := 53) rfl)
theorem slX11_see : Cond.selects mX11_see.1.cls mX11_see.1 mX11_see.1 ∈ lw_tbl := tb9 (List.mem_of_getElem? (i := 54) rfl)
theorem nkX11_isAsSeen : NK mX11_isAsSeen 1 := ⟨cdX11_isAsSeen, by decide, by decide, tb1 (List.mem_of_getElem? (i := 17) rfl), ⟨by decide, by decide⟩, by decide +kernel⟩
theorem imX11_isAsSeen : Cond.instanceMethod mX11_isAsSeen.1 ∈ lw_tbl := tb9 (List.mem_of_getElem? (i := 79) rfl)
theorem slX11_isAsSeen : Cond.selects mX11_isAsSeen.1.cls mX11_isAsSeen.1 mX11_isAsSeen.1 ∈ lw_tbl := List.mem_append_left _ (List.mem_of_getElem? (i := 140) rfl)
theorem nkX11_spillOf : NK mX11_spillOf 2 := ⟨cdX11_spillOf, by decide, by decide, tb1 (List.mem_of_getElem? (i := 17) rfl), ⟨by decide, by decide⟩, by decide +kernel⟩
theorem imX11_spillOf : Cond.instanceMethod mX11_spillOf.1 ∈ lw_tbl := tb9 (List.mem_of_getElem? (i := 71) rfl)
theorem slX11_spillOf : Cond.selects mX11_spillOf.1.cls mX11_spillOf.1 mX11_spillOf.1 ∈ lw_tbl := List.mem_append_left _ (List.mem_of_getElem? (i := 138) rfl)
theorem nkX11_isTold : NK mX11_isTold 3 := ⟨cdX11_isTold, by decide, by decide, tb1 (List.mem_of_getElem? (i := 17) rfl), ⟨by decide, by decide⟩, by decide +kernel⟩
theorem imX11_isTold : Cond.instanceMethod mX11_isTold.1 ∈ lw_tbl := tb9 (List.mem_of_getElem? (i := 75) rfl)
theorem slX11_isTold : Cond.selects mX11_isTold.1.cls mX11_isTold.1 mX11_isTold.1 ∈ lw_tbl := List.mem_append_left _ (List.mem_of_getElem? (i := 139) rfl)
theorem nkX11_laysSources : NK mX11_laysSources 2 := ⟨cdX11_laysSources, by decide, by decide, tb1 (List.mem_of_getElem? (i := 17) rfl), ⟨by decide, by decide⟩, by decide +kernel⟩
theorem imX11_laysSources : Cond.instanceMethod mX11_laysSources.1 ∈ lw_tbl := tb9 (List.mem_of_getElem? (i := 67) rfl)
theorem slX11_laysSources : Cond.selects mX11_laysSources.1.cls mX11_laysSources.1 mX11_laysSources.1 ∈ lw_tbl := List.mem_append_left _ (List.mem_of_getElem? (i := 137) rfl)
theorem nkX11_sources : NK mX11_sources 2 := ⟨cdX11_sources, by decide, by decide, tb1 (List.mem_of_getElem? (i := 17) rfl), ⟨by decide, by decide⟩, by decide +kernel⟩
theorem imX11_sources : Cond.instanceMethod mX11_sources.1 ∈ lw_tbl := tb9 (List.mem_of_getElem? (i := 61) rfl)
theorem slX11_sources : Cond.selects mX11_sources.1.cls mX11_sources.1 mX11_sources.1 ∈ lw_tbl := tb9 (List.mem_of_getElem? (i := 62) rfl)
theorem nkX11_mostAlike : NK mX11_mostAlike 2 := ⟨cdX11_mostAlike, by decide, by decide, tb1 (List.mem_of_getElem? (i := 17) rfl), ⟨by decide, by decide⟩, by decide +kernel⟩
theorem imX11_mostAlike : Cond.instanceMethod mX11_mostAlike.1 ∈ lw_tbl := tb9 (List.mem_of_getElem? (i := 87) rfl)
theorem slX11_mostAlike : Cond.selects mX11_mostAlike.1.cls mX11_mostAlike.1 mX11_mostAlike.1 ∈ lw_tbl := List.mem_append_left _ (List.mem_of_getElem? (i := 141) rfl)
theorem nkX11_tells : NK mX11_tells 3 := ⟨cdX11_tells, by decide, by decide, tb1 (List.mem_of_getElem? (i := 17) rfl), ⟨by decide, by decide⟩, by decide +kernel⟩
theorem imX11_tells : Cond.instanceMethod mX11_tells.1 ∈ lw_tbl := tb9 (List.mem_of_getElem? (i := 82) rfl)
theorem slX11_tells : Cond.selects mX11_tells.1.cls mX11_tells.1 mX11_tells.1 ∈ lw_tbl := tb9 (List.mem_of_getElem? (i := 83) rfl)
theorem nkX11_keeps : NK mX11_keeps 0 := ⟨cdX11_keeps, by decide, by decide, tb1 (List.mem_of_getElem? (i := 17) rfl), ⟨by decide, by decide⟩, by decide +kernel⟩
theorem imX11_keeps : Cond.instanceMethod mX11_keeps.1 ∈ lw_tbl := tb9 (List.mem_of_getElem? (i := 99) rfl)
theorem slX11_keeps : Cond.selects mX11_keeps.1.cls mX11_keeps.1 mX11_keeps.1 ∈ lw_tbl := List.mem_append_left _ (List.mem_of_getElem? (i := 142) rfl)
theorem nkX11_undo : NK mX11_undo 0 := ⟨cdX11_undo, by decide, by decide, tb1 (List.mem_of_getElem? (i := 17) rfl), ⟨by decide, by decide⟩, by decide +kernel⟩
theorem imX11_undo : Cond.instanceMethod mX11_undo.1 ∈ lw_tbl := tb9 (List.mem_of_getElem? (i := 90) rfl)
theorem slX11_undo : Cond.selects mX11_undo.1.cls mX11_undo.1 mX11_undo.1 ∈ lw_tbl := tb9 (List.mem_of_getElem? (i := 91) rfl)
theorem nkX11_tell : NK mX11_tell 3 := ⟨cdX11_tell, by decide, by decide, tb1 (List.mem_of_getElem? (i := 17) rfl), ⟨by decide, by decide⟩, by decide +kernel⟩
theorem imX11_tell : Cond.instanceMethod mX11_tell.1 ∈ lw_tbl := tb9 (List.mem_of_getElem? (i := 94) rfl)
theorem slX11_tell : Cond.selects mX11_tell.1.cls mX11_tell.1 mX11_tell.1 ∈ lw_tbl := tb9 (List.mem_of_getElem? (i := 95) rfl)
theorem nkX11_goesOut : NK mX11_goesOut 2 := ⟨cdX11_goesOut, by decide, by decide, tb1 (List.mem_of_getElem? (i := 17) rfl), ⟨by decide, by decide⟩, by decide +kernel⟩
theorem imX11_goesOut : Cond.instanceMethod mX11_goesOut.1 ∈ lw_tbl := tb9 (List.mem_of_getElem? (i := 107) rfl)
theorem slX11_goesOut : Cond.selects mX11_goesOut.1.cls mX11_goesOut.1 mX11_goesOut.1 ∈ lw_tbl := List.mem_append_left _ (List.mem_of_getElem? (i := 143) rfl)
theorem nkX11_squeeze : NK mX11_squeeze 1 := ⟨cdX11_squeeze, by decide, by decide, tb1 (List.mem_of_getElem? (i := 17) rfl), ⟨by decide, by decide⟩, by decide +kernel⟩
theorem imX11_squeeze : Cond.instanceMethod mX11_squeeze.1 ∈ lw_tbl := tb9 (List.mem_of_getElem? (i := 102) rfl)
theorem slX11_squeeze : Cond.selects mX11_squeeze.1.cls mX11_squeeze.1 mX11_squeeze.1 ∈ lw_tbl := tb9 (List.mem_of_getElem? (i := 103) rfl)
theorem nkX11_rinse : NK mX11_rinse 1 := ⟨cdX11_rinse, by decide, by decide, tb1 (List.mem_of_getElem? (i := 17) rfl), ⟨by decide, by decide⟩, by decide +kernel⟩
theorem imX11_rinse : Cond.instanceMethod mX11_rinse.1 ∈ lw_tbl := tb9 (List.mem_of_getElem? (i := 110) rfl)
theorem slX11_rinse : Cond.selects mX11_rinse.1.cls mX11_rinse.1 mX11_rinse.1 ∈ lw_tbl := tb9 (List.mem_of_getElem? (i := 111) rfl)
theorem nkX11_mop : NK mX11_mop 1 := ⟨cdX11_mop, by decide, by decide, tb1 (List.mem_of_getElem? (i := 17) rfl), ⟨by decide, by decide⟩, by decide +kernel⟩
theorem imX11_mop : Cond.instanceMethod mX11_mop.1 ∈ lw_tbl := tb9 (List.mem_of_getElem? (i := 114) rfl)
theorem slX11_mop : Cond.selects mX11_mop.1.cls mX11_mop.1 mX11_mop.1 ∈ lw_tbl := tb9 (List.mem_of_getElem? (i := 115) rfl)
theorem nkX11_change : NK mX11_change 2 := ⟨cdX11_change, by decide, by decide, tb1 (List.mem_of_getElem? (i := 17) rfl), ⟨by decide, by decide⟩, by decide +kernel⟩
theorem imX11_change : Cond.instanceMethod mX11_change.1 ∈ lw_tbl := tb9 (List.mem_of_getElem? (i := 118) rfl)
theorem slX11_change : Cond.selects mX11_change.1.cls mX11_change.1 mX11_change.1 ∈ lw_tbl := tb9 (List.mem_of_getElem? (i := 119) rfl)
theorem nkX11_days : NK mX11_days 1 := ⟨cdX11_days, by decide, by decide, tb1 (List.mem_of_getElem? (i := 17) rfl), ⟨by decide, by decide⟩, by decide +kernel⟩
theorem imX11_days : Cond.instanceMethod mX11_days.1 ∈ lw_tbl := tb9 (List.mem_of_getElem? (i := 122) rfl)
theorem slX11_days : Cond.selects mX11_days.1.cls mX11_days.1 mX11_days.1 ∈ lw_tbl := tb9 (List.mem_of_getElem? (i := 123) rfl)
theorem nkX11_seed : NK mX11_seed 1 := ⟨cdX11_seed, by decide, by decide, tb1 (List.mem_of_getElem? (i := 17) rfl), ⟨by decide, by decide⟩, by decide +kernel⟩
theorem imX11_seed : Cond.instanceMethod mX11_seed.1 ∈ lw_tbl := tb9 (List.mem_of_getElem? (i := 126) rfl)
theorem slX11_seed : Cond.selects mX11_seed.1.cls mX11_seed.1 mX11_seed.1 ∈ lw_tbl := tb9 (List.mem_of_getElem? (i := 127) rfl)
theorem nkX11_drawOf : NK mX11_drawOf 1 := ⟨cdX11_drawOf, by decide, by decide, tb1 (List.mem_of_getElem? (i := 17) rfl), ⟨by decide, by decide⟩, by decide +kernel⟩
theorem imX11_drawOf : Cond.instanceMethod mX11_drawOf.1 ∈ lw_tbl := tb9 (List.mem_of_getElem? (i := 135) rfl)
theorem slX11_drawOf : Cond.selects mX11_drawOf.1.cls mX11_drawOf.1 mX11_drawOf.1 ∈ lw_tbl := List.mem_append_left _ (List.mem_of_getElem? (i := 144) rfl)
theorem nkX11_canShake : NK mX11_canShake 2 := ⟨cdX11_canShake, by decide, by decide, tb1 (List.mem_of_getElem? (i := 17) rfl), ⟨by decide, by decide⟩, by decide +kernel⟩
theorem imX11_canShake : Cond.instanceMethod mX11_canShake.1 ∈ lw_tbl := tb9 (List.mem_of_getElem? (i := 143) rfl)
theorem slX11_canShake : Cond.selects mX11_canShake.1.cls mX11_canShake.1 mX11_canShake.1 ∈ lw_tbl := List.mem_append_left _ (List.mem_of_getElem? (i := 145) rfl)
theorem nkX11_shake : NK mX11_shake 2 := ⟨cdX11_shake, by decide, by decide, tb1 (List.mem_of_getElem? (i := 17) rfl), ⟨by decide, by decide⟩, by decide +kernel⟩
theorem imX11_shake : Cond.instanceMethod mX11_shake.1 ∈ lw_tbl := tb9 (List.mem_of_getElem? (i := 147) rfl)
theorem slX11_shake : Cond.selects mX11_shake.1.cls mX11_shake.1 mX11_shake.1 ∈ lw_tbl := List.mem_append_left _ (List.mem_of_getElem? (i := 146) rfl)
theorem nkX11_chance : NK mX11_chance 1 := ⟨cdX11_chance, by decide, by decide, tb1 (List.mem_of_getElem? (i := 17) rfl), ⟨by decide, by decide⟩, by decide +kernel⟩
theorem imX11_chance : Cond.instanceMethod mX11_chance.1 ∈ lw_tbl := tb9 (List.mem_of_getElem? (i := 130) rfl)
theorem slX11_chance : Cond.selects mX11_chance.1.cls mX11_chance.1 mX11_chance.1 ∈ lw_tbl := tb9 (List.mem_of_getElem? (i := 131) rfl)
theorem nkX11_qCode : NK mX11_qCode 1 := ⟨cdX11_qCode, by decide, by decide, tb1 (List.mem_of_getElem? (i := 17) rfl), ⟨by decide, by decide⟩, by decide +kernel⟩
theorem imX11_qCode : Cond.instanceMethod mX11_qCode.1 ∈ lw_tbl := tb7 (List.mem_of_getElem? (i := 233) rfl)
theorem slX11_qCode : Cond.selects mX11_qCode.1.cls mX11_qCode.1 mX11_qCode.1 ∈ lw_tbl := List.mem_append_left _ (List.mem_of_getElem? (i := 81) rfl)
theorem nkX11_qOpens : NK mX11_qOpens 2 := ⟨cdX11_qOpens, by decide, by decide, tb1 (List.mem_of_getElem? (i := 17) rfl), ⟨by decide, by decide⟩, by decide +kernel⟩
theorem imX11_qOpens : Cond.instanceMethod mX11_qOpens.1 ∈ lw_tbl := tb7 (List.mem_of_getElem? (i := 225) rfl)
theorem slX11_qOpens : Cond.selects mX11_qOpens.1.cls mX11_qOpens.1 mX11_qOpens.1 ∈ lw_tbl := List.mem_append_left _ (List.mem_of_getElem? (i := 79) rfl)
theorem nkX11_qIsOn : NK mX11_qIsOn 1 := ⟨cdX11_qIsOn, by decide, by decide, tb1 (List.mem_of_getElem? (i := 17) rfl), ⟨by decide, by decide⟩, by decide +kernel⟩
theorem imX11_qIsOn : Cond.instanceMethod mX11_qIsOn.1 ∈ lw_tbl := tb8 (List.mem_of_getElem? (i := 44) rfl)
theorem slX11_qIsOn : Cond.selects mX11_qIsOn.1.cls mX11_qIsOn.1 mX11_qIsOn.1 ∈ lw_tbl := List.mem_append_left _ (List.mem_of_getElem? (i := 93) rfl)
theorem nkX11_qDrops : NK mX11_qDrops 0 := ⟨cdX11_qDrops, by decide, by decide, tb1 (List.mem_of_getElem? (i := 17) rfl), ⟨by decide, by decide⟩, by decide +kernel⟩
theorem imX11_qDrops : Cond.instanceMethod mX11_qDrops.1 ∈ lw_tbl := tb8 (List.mem_of_getElem? (i := 25) rfl)
theorem slX11_qDrops : Cond.selects mX11_qDrops.1.cls mX11_qDrops.1 mX11_qDrops.1 ∈ lw_tbl := List.mem_append_left _ (List.mem_of_getElem? (i := 89) rfl)
theorem nkX11_qIsBracket : NK mX11_qIsBracket 1 := ⟨cdX11_qIsBracket, by decide, by decide, tb1 (List.mem_of_getElem? (i := 17) rfl), ⟨by decide, by decide⟩, by decide +kernel⟩
theorem scX11_qIsBracket : Cond.static mX11_qIsBracket.1 ∈ lw_tbl := tb8 (List.mem_of_getElem? (i := 36) rfl)
theorem nkX11_qBracket : NK mX11_qBracket 0 := ⟨cdX11_qBracket, by decide, by decide, tb1 (List.mem_of_getElem? (i := 17) rfl), ⟨by decide, by decide⟩, by decide +kernel⟩
theorem imX11_qBracket : Cond.instanceMethod mX11_qBracket.1 ∈ lw_tbl := tb8 (List.mem_of_getElem? (i := 33) rfl)
theorem slX11_qBracket : Cond.selects mX11_qBracket.1.cls mX11_qBracket.1 mX11_qBracket.1 ∈ lw_tbl := List.mem_append_left _ (List.mem_of_getElem? (i := 91) rfl)
theorem nkX11_qDropsToBracket : NK mX11_qDropsToBracket 0 := ⟨cdX11_qDropsToBracket, by decide, by decide, tb1 (List.mem_of_getElem? (i := 17) rfl), ⟨by decide, by decide⟩, by decide +kernel⟩
theorem imX11_qDropsToBracket : Cond.instanceMethod mX11_qDropsToBracket.1 ∈ lw_tbl := tb8 (List.mem_of_getElem? (i := 40) rfl)
theorem slX11_qDropsToBracket : Cond.selects mX11_qDropsToBracket.1.cls mX11_qDropsToBracket.1 mX11_qDropsToBracket.1 ∈ lw_tbl := List.mem_append_left _ (List.mem_of_getElem? (i := 92) rfl)
theorem nkX11_qWordHere : NK mX11_qWordHere 0 := ⟨cdX11_qWordHere, by decide, by decide, tb1 (List.mem_of_getElem? (i := 17) rfl), ⟨by decide, by decide⟩, by decide +kernel⟩
theorem imX11_qWordHere : Cond.instanceMethod mX11_qWordHere.1 ∈ lw_tbl := tb8 (List.mem_of_getElem? (i := 9) rfl)
theorem slX11_qWordHere : Cond.selects mX11_qWordHere.1.cls mX11_qWordHere.1 mX11_qWordHere.1 ∈ lw_tbl := List.mem_append_left _ (List.mem_of_getElem? (i := 85) rfl)
theorem nkX11_qWordOf : NK mX11_qWordOf 2 := ⟨cdX11_qWordOf, by decide, by decide, tb1 (List.mem_of_getElem? (i := 17) rfl), ⟨by decide, by decide⟩, by decide +kernel⟩
theorem imX11_qWordOf : Cond.instanceMethod mX11_qWordOf.1 ∈ lw_tbl := tb8 (List.mem_of_getElem? (i := 5) rfl)
theorem slX11_qWordOf : Cond.selects mX11_qWordOf.1.cls mX11_qWordOf.1 mX11_qWordOf.1 ∈ lw_tbl := List.mem_append_left _ (List.mem_of_getElem? (i := 84) rfl)
theorem nkX11_qAsksWord : NK mX11_qAsksWord 1 := ⟨cdX11_qAsksWord, by decide, by decide, tb1 (List.mem_of_getElem? (i := 17) rfl), ⟨by decide, by decide⟩, by decide +kernel⟩
theorem imX11_qAsksWord : Cond.instanceMethod mX11_qAsksWord.1 ∈ lw_tbl := tb8 (List.mem_of_getElem? (i := 17) rfl)
theorem slX11_qAsksWord : Cond.selects mX11_qAsksWord.1.cls mX11_qAsksWord.1 mX11_qAsksWord.1 ∈ lw_tbl := List.mem_append_left _ (List.mem_of_getElem? (i := 87) rfl)
theorem nkX11_qEndsPart : NK mX11_qEndsPart 0 := ⟨cdX11_qEndsPart, by decide, by decide, tb1 (List.mem_of_getElem? (i := 17) rfl), ⟨by decide, by decide⟩, by decide +kernel⟩
theorem imX11_qEndsPart : Cond.instanceMethod mX11_qEndsPart.1 ∈ lw_tbl := tb8 (List.mem_of_getElem? (i := 21) rfl)
theorem slX11_qEndsPart : Cond.selects mX11_qEndsPart.1.cls mX11_qEndsPart.1 mX11_qEndsPart.1 ∈ lw_tbl := List.mem_append_left _ (List.mem_of_getElem? (i := 88) rfl)
theorem nkX11_qPartTold : NK mX11_qPartTold 0 := ⟨cdX11_qPartTold, by decide, by decide, tb1 (List.mem_of_getElem? (i := 17) rfl), ⟨by decide, by decide⟩, by decide +kernel⟩
theorem imX11_qPartTold : Cond.instanceMethod mX11_qPartTold.1 ∈ lw_tbl := tb8 (List.mem_of_getElem? (i := 1) rfl)
theorem slX11_qPartTold : Cond.selects mX11_qPartTold.1.cls mX11_qPartTold.1 mX11_qPartTold.1 ∈ lw_tbl := List.mem_append_left _ (List.mem_of_getElem? (i := 83) rfl)
theorem nkX11_qGoesOn : NK mX11_qGoesOn 0 := ⟨cdX11_qGoesOn, by decide, by decide, tb1 (List.mem_of_getElem? (i := 17) rfl), ⟨by decide, by decide⟩, by decide +kernel⟩
theorem imX11_qGoesOn : Cond.instanceMethod mX11_qGoesOn.1 ∈ lw_tbl := tb8 (List.mem_of_getElem? (i := 29) rfl)
theorem slX11_qGoesOn : Cond.selects mX11_qGoesOn.1.cls mX11_qGoesOn.1 mX11_qGoesOn.1 ∈ lw_tbl := List.mem_append_left _ (List.mem_of_getElem? (i := 90) rfl)
theorem nkX11_qSums : NK mX11_qSums 0 := ⟨cdX11_qSums, by decide, by decide, tb1 (List.mem_of_getElem? (i := 17) rfl), ⟨by decide, by decide⟩, by decide +kernel⟩
theorem imX11_qSums : Cond.instanceMethod mX11_qSums.1 ∈ lw_tbl := tb7 (List.mem_of_getElem? (i := 237) rfl)
theorem slX11_qSums : Cond.selects mX11_qSums.1.cls mX11_qSums.1 mX11_qSums.1 ∈ lw_tbl := List.mem_append_left _ (List.mem_of_getElem? (i := 82) rfl)
theorem nkX11_qFact : NK mX11_qFact 0 := ⟨cdX11_qFact, by decide, by decide, tb1 (List.mem_of_getElem? (i := 17) rfl), ⟨by decide, by decide⟩, by decide +kernel⟩
theorem imX11_qFact : Cond.instanceMethod mX11_qFact.1 ∈ lw_tbl := tb7 (List.mem_of_getElem? (i := 229) rfl)
theorem slX11_qFact : Cond.selects mX11_qFact.1.cls mX11_qFact.1 mX11_qFact.1 ∈ lw_tbl := List.mem_append_left _ (List.mem_of_getElem? (i := 80) rfl)
theorem nkX11_qHasSquare : NK mX11_qHasSquare 0 := ⟨cdX11_qHasSquare, by decide, by decide, tb1 (List.mem_of_getElem? (i := 17) rfl), ⟨by decide, by decide⟩, by decide +kernel⟩
theorem imX11_qHasSquare : Cond.instanceMethod mX11_qHasSquare.1 ∈ lw_tbl := tb8 (List.mem_of_getElem? (i := 56) rfl)
theorem slX11_qHasSquare : Cond.selects mX11_qHasSquare.1.cls mX11_qHasSquare.1 mX11_qHasSquare.1 ∈ lw_tbl := List.mem_append_left _ (List.mem_of_getElem? (i := 96) rfl)
theorem nkX11_qDropsNots : NK mX11_qDropsNots 0 := ⟨cdX11_qDropsNots, by decide, by decide, tb1 (List.mem_of_getElem? (i := 17) rfl), ⟨by decide, by decide⟩, by decide +kernel⟩
theorem imX11_qDropsNots : Cond.instanceMethod mX11_qDropsNots.1 ∈ lw_tbl := tb8 (List.mem_of_getElem? (i := 48) rfl)
theorem slX11_qDropsNots : Cond.selects mX11_qDropsNots.1.cls mX11_qDropsNots.1 mX11_qDropsNots.1 ∈ lw_tbl := List.mem_append_left _ (List.mem_of_getElem? (i := 94) rfl)
theorem nkX11_qTest : NK mX11_qTest 0 := ⟨cdX11_qTest, by decide, by decide, tb1 (List.mem_of_getElem? (i := 17) rfl), ⟨by decide, by decide⟩, by decide +kernel⟩
theorem imX11_qTest : Cond.instanceMethod mX11_qTest.1 ∈ lw_tbl := tb7 (List.mem_of_getElem? (i := 221) rfl)
theorem slX11_qTest : Cond.selects mX11_qTest.1.cls mX11_qTest.1 mX11_qTest.1 ∈ lw_tbl := List.mem_append_left _ (List.mem_of_getElem? (i := 78) rfl)
theorem nkX11_qGoesOnTest : NK mX11_qGoesOnTest 0 := ⟨cdX11_qGoesOnTest, by decide, by decide, tb1 (List.mem_of_getElem? (i := 17) rfl), ⟨by decide, by decide⟩, by decide +kernel⟩
theorem imX11_qGoesOnTest : Cond.instanceMethod mX11_qGoesOnTest.1 ∈ lw_tbl := tb8 (List.mem_of_getElem? (i := 52) rfl)
theorem slX11_qGoesOnTest : Cond.selects mX11_qGoesOnTest.1.cls mX11_qGoesOnTest.1 mX11_qGoesOnTest.1 ∈ lw_tbl := List.mem_append_left _ (List.mem_of_getElem? (i := 95) rfl)
theorem nkX11_qClip : NK mX11_qClip 1 := ⟨cdX11_qClip, by decide, by decide, tb1 (List.mem_of_getElem? (i := 17) rfl), ⟨by decide, by decide⟩, by decide +kernel⟩
theorem scX11_qClip : Cond.static mX11_qClip.1 ∈ lw_tbl := tb8 (List.mem_of_getElem? (i := 197) rfl)
theorem nkX11_qFloor : NK mX11_qFloor 2 := ⟨cdX11_qFloor, by decide, by decide, tb1 (List.mem_of_getElem? (i := 17) rfl), ⟨by decide, by decide⟩, by decide +kernel⟩
theorem scX11_qFloor : Cond.static mX11_qFloor.1 ∈ lw_tbl := tb8 (List.mem_of_getElem? (i := 202) rfl)
theorem nkX11_qPuts : NK mX11_qPuts 1 := ⟨cdX11_qPuts, by decide, by decide, tb1 (List.mem_of_getElem? (i := 17) rfl), ⟨by decide, by decide⟩, by decide +kernel⟩
theorem imX11_qPuts : Cond.instanceMethod mX11_qPuts.1 ∈ lw_tbl := tb8 (List.mem_of_getElem? (i := 182) rfl)
theorem slX11_qPuts : Cond.selects mX11_qPuts.1.cls mX11_qPuts.1 mX11_qPuts.1 ∈ lw_tbl := List.mem_append_left _ (List.mem_of_getElem? (i := 119) rfl)
theorem nkX11_qJoins : NK mX11_qJoins 1 := ⟨cdX11_qJoins, by decide, by decide, tb1 (List.mem_of_getElem? (i := 17) rfl), ⟨by decide, by decide⟩, by decide +kernel⟩
theorem imX11_qJoins : Cond.instanceMethod mX11_qJoins.1 ∈ lw_tbl := tb8 (List.mem_of_getElem? (i := 194) rfl)
theorem slX11_qJoins : Cond.selects mX11_qJoins.1.cls mX11_qJoins.1 mX11_qJoins.1 ∈ lw_tbl := List.mem_append_left _ (List.mem_of_getElem? (i := 122) rfl)
theorem nkX11_qPartOf : NK mX11_qPartOf 2 := ⟨cdX11_qPartOf, by decide, by decide, tb1 (List.mem_of_getElem? (i := 17) rfl), ⟨by decide, by decide⟩, by decide +kernel⟩
theorem imX11_qPartOf : Cond.instanceMethod mX11_qPartOf.1 ∈ lw_tbl := tb8 (List.mem_of_getElem? (i := 186) rfl)
theorem slX11_qPartOf : Cond.selects mX11_qPartOf.1.cls mX11_qPartOf.1 mX11_qPartOf.1 ∈ lw_tbl := List.mem_append_left _ (List.mem_of_getElem? (i := 120) rfl)
theorem nkX11_qOf : NK mX11_qOf 3 := ⟨cdX11_qOf, by decide, by decide, tb1 (List.mem_of_getElem? (i := 17) rfl), ⟨by decide, by decide⟩, by decide +kernel⟩
theorem imX11_qOf : Cond.instanceMethod mX11_qOf.1 ∈ lw_tbl := tb9 (List.mem_of_getElem? (i := 165) rfl)
theorem slX11_qOf : Cond.selects mX11_qOf.1.cls mX11_qOf.1 mX11_qOf.1 ∈ lw_tbl := List.mem_append_left _ (List.mem_of_getElem? (i := 149) rfl)
theorem nkX11_qTold : NK mX11_qTold 1 := ⟨cdX11_qTold, by decide, by decide, tb1 (List.mem_of_getElem? (i := 17) rfl), ⟨by decide, by decide⟩, by decide +kernel⟩
theorem imX11_qTold : Cond.instanceMethod mX11_qTold.1 ∈ lw_tbl := tb9 (List.mem_of_getElem? (i := 161) rfl)
theorem slX11_qTold : Cond.selects mX11_qTold.1.cls mX11_qTold.1 mX11_qTold.1 ∈ lw_tbl := List.mem_append_left _ (List.mem_of_getElem? (i := 148) rfl)
theorem nkX11_qKind : NK mX11_qKind 0 := ⟨cdX11_qKind, by decide, by decide, tb1 (List.mem_of_getElem? (i := 17) rfl), ⟨by decide, by decide⟩, by decide +kernel⟩
theorem imX11_qKind : Cond.instanceMethod mX11_qKind.1 ∈ lw_tbl := tb9 (List.mem_of_getElem? (i := 156) rfl)
theorem slX11_qKind : Cond.selects mX11_qKind.1.cls mX11_qKind.1 mX11_qKind.1 ∈ lw_tbl := List.mem_append_left _ (List.mem_of_getElem? (i := 147) rfl)
theorem nkX11_qTakes : NK mX11_qTakes 3 := ⟨cdX11_qTakes, by decide, by decide, tb1 (List.mem_of_getElem? (i := 17) rfl), ⟨by decide, by decide⟩, by decide +kernel⟩
theorem imX11_qTakes : Cond.instanceMethod mX11_qTakes.1 ∈ lw_tbl := tb9 (List.mem_of_getElem? (i := 169) rfl)
theorem slX11_qTakes : Cond.selects mX11_qTakes.1.cls mX11_qTakes.1 mX11_qTakes.1 ∈ lw_tbl := List.mem_append_left _ (List.mem_of_getElem? (i := 150) rfl)
theorem nkX11_ask : NK mX11_ask 0 := ⟨cdX11_ask, by decide, by decide, tb1 (List.mem_of_getElem? (i := 17) rfl), ⟨by decide, by decide⟩, by decide +kernel⟩
theorem imX11_ask : Cond.instanceMethod mX11_ask.1 ∈ lw_tbl := tb9 (List.mem_of_getElem? (i := 150) rfl)
theorem slX11_ask : Cond.selects mX11_ask.1.cls mX11_ask.1 mX11_ask.1 ∈ lw_tbl := tb9 (List.mem_of_getElem? (i := 151) rfl)
theorem nkX11_checked : NK mX11_checked 2 := ⟨cdX11_checked, by decide, by decide, tb1 (List.mem_of_getElem? (i := 17) rfl), ⟨by decide, by decide⟩, by decide +kernel⟩
theorem scX11_checked : Cond.static mX11_checked.1 ∈ lw_tbl := tb9 (List.mem_of_getElem? (i := 184) rfl)
theorem nkX11_writes : NK mX11_writes 1 := ⟨cdX11_writes, by decide, by decide, tb1 (List.mem_of_getElem? (i := 17) rfl), ⟨by decide, by decide⟩, by decide +kernel⟩
theorem imX11_writes : Cond.instanceMethod mX11_writes.1 ∈ lw_tbl := tb9 (List.mem_of_getElem? (i := 181) rfl)
theorem slX11_writes : Cond.selects mX11_writes.1.cls mX11_writes.1 mX11_writes.1 ∈ lw_tbl := List.mem_append_left _ (List.mem_of_getElem? (i := 152) rfl)
theorem nkX11_writesTwo : NK mX11_writesTwo 1 := ⟨cdX11_writesTwo, by decide, by decide, tb1 (List.mem_of_getElem? (i := 17) rfl), ⟨by decide, by decide⟩, by decide +kernel⟩
theorem imX11_writesTwo : Cond.instanceMethod mX11_writesTwo.1 ∈ lw_tbl := tb9 (List.mem_of_getElem? (i := 177) rfl)
theorem slX11_writesTwo : Cond.selects mX11_writesTwo.1.cls mX11_writesTwo.1 mX11_writesTwo.1 ∈ lw_tbl := List.mem_append_left _ (List.mem_of_getElem? (i := 151) rfl)
theorem nkX11_image : NK mX11_image 0 := ⟨cdX11_image, by decide, by decide, tb1 (List.mem_of_getElem? (i := 17) rfl), ⟨by decide, by decide⟩, by decide +kernel⟩
theorem imX11_image : Cond.instanceMethod mX11_image.1 ∈ lw_tbl := tb9 (List.mem_of_getElem? (i := 172) rfl)
theorem slX11_image : Cond.selects mX11_image.1.cls mX11_image.1 mX11_image.1 ∈ lw_tbl := tb9 (List.mem_of_getElem? (i := 173) rfl)
theorem nkX11_octet : NK mX11_octet 1 := ⟨cdX11_octet, by decide, by decide, tb1 (List.mem_of_getElem? (i := 17) rfl), ⟨by decide, by decide⟩, by decide +kernel⟩
theorem imX11_octet : Cond.instanceMethod mX11_octet.1 ∈ lw_tbl := tb9 (List.mem_of_getElem? (i := 187) rfl)
theorem slX11_octet : Cond.selects mX11_octet.1.cls mX11_octet.1 mX11_octet.1 ∈ lw_tbl := tb9 (List.mem_of_getElem? (i := 188) rfl)
theorem nkX11_twoAt : NK mX11_twoAt 1 := ⟨cdX11_twoAt, by decide, by decide, tb1 (List.mem_of_getElem? (i := 17) rfl), ⟨by decide, by decide⟩, by decide +kernel⟩
theorem imX11_twoAt : Cond.instanceMethod mX11_twoAt.1 ∈ lw_tbl := tb9 (List.mem_of_getElem? (i := 200) rfl)
theorem slX11_twoAt : Cond.selects mX11_twoAt.1.cls mX11_twoAt.1 mX11_twoAt.1 ∈ lw_tbl := List.mem_append_left _ (List.mem_of_getElem? (i := 154) rfl)
theorem nkX11_isClerkTold : NK mX11_isClerkTold 1 := ⟨cdX11_isClerkTold, by decide, by decide, tb1 (List.mem_of_getElem? (i := 17) rfl), ⟨by decide, by decide⟩, by decide +kernel⟩
theorem imX11_isClerkTold : Cond.instanceMethod mX11_isClerkTold.1 ∈ lw_tbl := tb9 (List.mem_of_getElem? (i := 204) rfl)
theorem slX11_isClerkTold : Cond.selects mX11_isClerkTold.1.cls mX11_isClerkTold.1 mX11_isClerkTold.1 ∈ lw_tbl := List.mem_append_left _ (List.mem_of_getElem? (i := 155) rfl)
theorem nkX11_isImage : NK mX11_isImage 1 := ⟨cdX11_isImage, by decide, by decide, tb1 (List.mem_of_getElem? (i := 17) rfl), ⟨by decide, by decide⟩, by decide +kernel⟩
theorem imX11_isImage : Cond.instanceMethod mX11_isImage.1 ∈ lw_tbl := tb9 (List.mem_of_getElem? (i := 196) rfl)
theorem slX11_isImage : Cond.selects mX11_isImage.1.cls mX11_isImage.1 mX11_isImage.1 ∈ lw_tbl := List.mem_append_left _ (List.mem_of_getElem? (i := 153) rfl)
theorem nkX11_on : NK mX11_on 0 := ⟨cdX11_on, by decide, by decide, tb1 (List.mem_of_getElem? (i := 17) rfl), ⟨by decide, by decide⟩, by decide +kernel⟩
theorem imX11_on : Cond.instanceMethod mX11_on.1 ∈ lw_tbl := tb9 (List.mem_of_getElem? (i := 191) rfl)
theorem slX11_on : Cond.selects mX11_on.1.cls mX11_on.1 mX11_on.1 ∈ lw_tbl := tb9 (List.mem_of_getElem? (i := 192) rfl)
theorem nkX11_status : NK mX11_status 1 := ⟨cdX11_status, by decide, by decide, tb1 (List.mem_of_getElem? (i := 17) rfl), ⟨by decide, by decide⟩, by decide +kernel⟩
theorem imX11_status : Cond.instanceMethod mX11_status.1 ∈ lw_tbl := tb9 (List.mem_of_getElem? (i := 207) rfl)
theorem slX11_status : Cond.selects mX11_status.1.cls mX11_status.1 mX11_status.1 ∈ lw_tbl := tb9 (List.mem_of_getElem? (i := 208) rfl)
theorem nkJ6_bitCount_0f7a4 : NK mJ6_bitCount_0f7a4 1 := ⟨cdJ6_bitCount_0f7a4, by decide, by decide, tb1 (List.mem_of_getElem? (i := 19) rfl), ⟨by decide, by decide⟩, by decide +kernel⟩
theorem scJ6_bitCount_0f7a4 : Cond.static mJ6_bitCount_0f7a4.1 ∈ lw_tbl := tb5 (List.mem_of_getElem? (i := 14) rfl)
theorem nkJ9_floorDiv_7cf53 : NK mJ9_floorDiv_7cf53 2 := ⟨cdJ9_floorDiv_7cf53, by decide +kernel, by decide, tb1 (List.mem_of_getElem? (i := 3) rfl), ⟨by decide, by decide⟩, by decide +kernel⟩
theorem scJ9_floorDiv_7cf53 : Cond.static mJ9_floorDiv_7cf53.1 ∈ lw_tbl := tb4 (List.mem_of_getElem? (i := 178) rfl)
theorem nkJ9_max_7cf53 : NK mJ9_max_7cf53 2 := ⟨cdJ9_max_7cf53, by decide +kernel, by decide, tb1 (List.mem_of_getElem? (i := 3) rfl), ⟨by decide, by decide⟩, by decide +kernel⟩
theorem scJ9_max_7cf53 : Cond.static mJ9_max_7cf53.1 ∈ lw_tbl := tb1 (List.mem_of_getElem? (i := 35) rfl)
theorem nkJ9_max_f86c9 : NK mJ9_max_f86c9 2 := ⟨cdJ9_max_f86c9, by decide +kernel, by decide, tb1 (List.mem_of_getElem? (i := 3) rfl), ⟨by decide, by decide⟩, by decide +kernel⟩
theorem scJ9_max_f86c9 : Cond.static mJ9_max_f86c9.1 ∈ lw_tbl := tb4 (List.mem_of_getElem? (i := 175) rfl)
theorem nkJ9_min_7cf53 : NK mJ9_min_7cf53 2 := ⟨cdJ9_min_7cf53, by decide +kernel, by decide, tb1 (List.mem_of_getElem? (i := 3) rfl), ⟨by decide, by decide⟩, by decide +kernel⟩
theorem scJ9_min_7cf53 : Cond.static mJ9_min_7cf53.1 ∈ lw_tbl := tb3 (List.mem_of_getElem? (i := 236) rfl)
theorem nkJ9_min_f86c9 : NK mJ9_min_f86c9 2 := ⟨cdJ9_min_f86c9, by decide +kernel, by decide, tb1 (List.mem_of_getElem? (i := 3) rfl), ⟨by decide, by decide⟩, by decide +kernel⟩
theorem scJ9_min_f86c9 : Cond.static mJ9_min_f86c9.1 ∈ lw_tbl := tb4 (List.mem_of_getElem? (i := 172) rfl)
theorem nkJ0_length_8abf5 : NK mJ0_length_8abf5 0 := ⟨cdJ0_length_8abf5, by decide, by decide, tb1 (List.mem_of_getElem? (i := 9) rfl), ⟨by decide, by decide⟩, by decide +kernel⟩
theorem imJ0_length_8abf5 : Cond.instanceMethod mJ0_length_8abf5.1 ∈ lw_tbl := tb1 (List.mem_of_getElem? (i := 239) rfl)
theorem slJ0_length_8abf5 : Cond.selects mJ0_length_8abf5.1.cls mJ0_length_8abf5.1 mJ0_length_8abf5.1 ∈ lw_tbl := tb2 (List.mem_of_getElem? (i := 0) rfl)
theorem nkJ0_charAt_5068e : NK mJ0_charAt_5068e 1 := ⟨cdJ0_charAt_5068e, by decide, by decide, tb1 (List.mem_of_getElem? (i := 9) rfl), ⟨by decide, by decide⟩, by decide +kernel⟩
theorem imJ0_charAt_5068e : Cond.instanceMethod mJ0_charAt_5068e.1 ∈ lw_tbl := tb2 (List.mem_of_getElem? (i := 9) rfl)
theorem slJ0_charAt_5068e : Cond.selects mJ0_charAt_5068e.1.cls mJ0_charAt_5068e.1 mJ0_charAt_5068e.1 ∈ lw_tbl := tb2 (List.mem_of_getElem? (i := 10) rfl)
theorem nkJ0_coder_7d493 : NK mJ0_coder_7d493 0 := ⟨cdJ0_coder_7d493, by decide, by decide, tb1 (List.mem_of_getElem? (i := 9) rfl), ⟨by decide, by decide⟩, by decide +kernel⟩
theorem imJ0_coder_7d493 : Cond.instanceMethod mJ0_coder_7d493.1 ∈ lw_tbl := tb2 (List.mem_of_getElem? (i := 3) rfl)
theorem slJ0_coder_7d493 : Cond.selects mJ0_coder_7d493.1.cls mJ0_coder_7d493.1 mJ0_coder_7d493.1 ∈ lw_tbl := tb2 (List.mem_of_getElem? (i := 4) rfl)
theorem nkJ0_isLatin1_aae02 : NK mJ0_isLatin1_aae02 0 := ⟨cdJ0_isLatin1_aae02, by decide, by decide, tb1 (List.mem_of_getElem? (i := 9) rfl), ⟨by decide, by decide⟩, by decide +kernel⟩
theorem imJ0_isLatin1_aae02 : Cond.instanceMethod mJ0_isLatin1_aae02.1 ∈ lw_tbl := tb2 (List.mem_of_getElem? (i := 13) rfl)
theorem slJ0_isLatin1_aae02 : Cond.selects mJ0_isLatin1_aae02.1.cls mJ0_isLatin1_aae02.1 mJ0_isLatin1_aae02.1 ∈ lw_tbl := tb2 (List.mem_of_getElem? (i := 14) rfl)
theorem nkJ0_checkIndex_df160 : NK mJ0_checkIndex_df160 2 := ⟨cdJ0_checkIndex_df160, by decide, by decide, tb1 (List.mem_of_getElem? (i := 9) rfl), ⟨by decide, by decide⟩, by decide +kernel⟩
theorem scJ0_checkIndex_df160 : Cond.static mJ0_checkIndex_df160.1 ∈ lw_tbl := tb2 (List.mem_of_getElem? (i := 20) rfl)
theorem nkJ1_charAt_3b067 : NK mJ1_charAt_3b067 2 := ⟨cdJ1_charAt_3b067, by decide, by decide, tb1 (List.mem_of_getElem? (i := 10) rfl), ⟨by decide, by decide⟩, by decide +kernel⟩
theorem scJ1_charAt_3b067 : Cond.static mJ1_charAt_3b067.1 ∈ lw_tbl := tb2 (List.mem_of_getElem? (i := 17) rfl)
theorem nkJ2_getChar_3b067 : NK mJ2_getChar_3b067 2 := ⟨cdJ2_getChar_3b067, by decide, by decide, tb1 (List.mem_of_getElem? (i := 12) rfl), ⟨by decide, by decide⟩, by decide +kernel⟩
theorem scJ2_getChar_3b067 : Cond.static mJ2_getChar_3b067.1 ∈ lw_tbl := tb2 (List.mem_of_getElem? (i := 38) rfl)
theorem nkJ2_length_9d52b : NK mJ2_length_9d52b 1 := ⟨cdJ2_length_9d52b, by decide, by decide, tb1 (List.mem_of_getElem? (i := 12) rfl), ⟨by decide, by decide⟩, by decide +kernel⟩
theorem scJ2_length_9d52b : Cond.static mJ2_length_9d52b.1 ∈ lw_tbl := tb2 (List.mem_of_getElem? (i := 34) rfl)
theorem nkJ2_charAt_3b067 : NK mJ2_charAt_3b067 2 := ⟨cdJ2_charAt_3b067, by decide, by decide, tb1 (List.mem_of_getElem? (i := 12) rfl), ⟨by decide, by decide⟩, by decide +kernel⟩
theorem scJ2_charAt_3b067 : Cond.static mJ2_charAt_3b067.1 ∈ lw_tbl := tb2 (List.mem_of_getElem? (i := 28) rfl)
theorem nkJ2_checkIndex_2214a : NK mJ2_checkIndex_2214a 2 := ⟨cdJ2_checkIndex_2214a, by decide, by decide, tb1 (List.mem_of_getElem? (i := 12) rfl), ⟨by decide, by decide⟩, by decide +kernel⟩
theorem scJ2_checkIndex_2214a : Cond.static mJ2_checkIndex_2214a.1 ∈ lw_tbl := tb2 (List.mem_of_getElem? (i := 31) rfl)
theorem nkJ3_checkIndex_8e157 : NK mJ3_checkIndex_8e157 3 := ⟨cdJ3_checkIndex_8e157, by decide, by decide, tb1 (List.mem_of_getElem? (i := 11) rfl), ⟨by decide, by decide⟩, by decide +kernel⟩
theorem scJ3_checkIndex_8e157 : Cond.static mJ3_checkIndex_8e157.1 ∈ lw_tbl := tb2 (List.mem_of_getElem? (i := 25) rfl)
theorem mlX10_11 : Cond.methodLink RX10 11 mX6_init.1 ∈ lw_tbl ∨ ∃ host, Cond.methodLinkNest RX10 11 mX6_init.1 host ∈ lw_tbl := Or.inl (tb1 (List.mem_of_getElem? (i := 30) rfl))
theorem mlX10_29 : Cond.methodLink RX10 29 mX2_init.1 ∈ lw_tbl ∨ ∃ host, Cond.methodLinkNest RX10 29 mX2_init.1 host ∈ lw_tbl := Or.inr ⟨"SpongeClerks", tb1 (List.mem_of_getElem? (i := 52) rfl)⟩
theorem mlX10_39 : Cond.methodLink RX10 39 mX7_init.1 ∈ lw_tbl ∨ ∃ host, Cond.methodLinkNest RX10 39 mX7_init.1 host ∈ lw_tbl := Or.inl (tb1 (List.mem_of_getElem? (i := 150) rfl))
theorem mlX10_49 : Cond.methodLink RX10 49 mX3_init.1 ∈ lw_tbl ∨ ∃ host, Cond.methodLinkNest RX10 49 mX3_init.1 host ∈ lw_tbl := Or.inl (tb1 (List.mem_of_getElem? (i := 207) rfl))
theorem mlX10_56 : Cond.methodLink RX10 56 mX5_init.1 ∈ lw_tbl ∨ ∃ host, Cond.methodLinkNest RX10 56 mX5_init.1 host ∈ lw_tbl := Or.inl (tb1 (List.mem_of_getElem? (i := 227) rfl))
theorem mlX10_65 : Cond.methodLink RX10 65 mX1_init.1 ∈ lw_tbl ∨ ∃ host, Cond.methodLinkNest RX10 65 mX1_init.1 host ∈ lw_tbl := Or.inl (tb2 (List.mem_of_getElem? (i := 102) rfl))
theorem mlX10_74 : Cond.methodLink RX10 74 mX9_init.1 ∈ lw_tbl ∨ ∃ host, Cond.methodLinkNest RX10 74 mX9_init.1 host ∈ lw_tbl := Or.inl (tb2 (List.mem_of_getElem? (i := 115) rfl))
theorem mlX10_83 : Cond.methodLink RX10 83 mX4_init.1 ∈ lw_tbl ∨ ∃ host, Cond.methodLinkNest RX10 83 mX4_init.1 host ∈ lw_tbl := Or.inl (tb2 (List.mem_of_getElem? (i := 131) rfl))
theorem mlX10_92 : Cond.methodLink RX10 92 mX0_init.1 ∈ lw_tbl ∨ ∃ host, Cond.methodLinkNest RX10 92 mX0_init.1 host ∈ lw_tbl := Or.inl (tb2 (List.mem_of_getElem? (i := 168) rfl))
theorem mlX10_110 : Cond.methodLink RX10 110 mX10_refuse.1 ∈ lw_tbl ∨ ∃ host, Cond.methodLinkNest RX10 110 mX10_refuse.1 host ∈ lw_tbl := Or.inl (tb3 (List.mem_of_getElem? (i := 16) rfl))
theorem mlX10_114 : Cond.methodLink RX10 114 mX10_feedNumber.1 ∈ lw_tbl ∨ ∃ host, Cond.methodLinkNest RX10 114 mX10_feedNumber.1 host ∈ lw_tbl := Or.inl (tb3 (List.mem_of_getElem? (i := 23) rfl))
theorem mlX10_117 : Cond.methodLink RX10 117 mX10_deny.1 ∈ lw_tbl ∨ ∃ host, Cond.methodLinkNest RX10 117 mX10_deny.1 host ∈ lw_tbl := Or.inl (tb3 (List.mem_of_getElem? (i := 35) rfl))
theorem mlX10_121 : Cond.methodLink RX10 121 mX5_readRegistry.1 ∈ lw_tbl ∨ ∃ host, Cond.methodLinkNest RX10 121 mX5_readRegistry.1 host ∈ lw_tbl := Or.inl (tb3 (List.mem_of_getElem? (i := 43) rfl))
theorem mlX10_125 : Cond.methodLink RX10 125 mX6_clear.1 ∈ lw_tbl ∨ ∃ host, Cond.methodLinkNest RX10 125 mX6_clear.1 host ∈ lw_tbl := Or.inl (tb3 (List.mem_of_getElem? (i := 227) rfl))
theorem mlX10_128 : Cond.methodLink RX10 128 mX2_copyFrom.1 ∈ lw_tbl ∨ ∃ host, Cond.methodLinkNest RX10 128 mX2_copyFrom.1 host ∈ lw_tbl := Or.inl (tb3 (List.mem_of_getElem? (i := 228) rfl))
theorem mlX10_131 : Cond.methodLink RX10 131 mX7_begin.1 ∈ lw_tbl ∨ ∃ host, Cond.methodLinkNest RX10 131 mX7_begin.1 host ∈ lw_tbl := Or.inl (tb4 (List.mem_of_getElem? (i := 12) rfl))
theorem mlX10_134 : Cond.methodLink RX10 134 mX3_clear.1 ∈ lw_tbl ∨ ∃ host, Cond.methodLinkNest RX10 134 mX3_clear.1 host ∈ lw_tbl := Or.inl (tb4 (List.mem_of_getElem? (i := 27) rfl))
theorem mlX10_159 : Cond.methodLink RX10 159 mX10_total.1 ∈ lw_tbl ∨ ∃ host, Cond.methodLinkNest RX10 159 mX10_total.1 host ∈ lw_tbl := Or.inl (tb4 (List.mem_of_getElem? (i := 39) rfl))
theorem mlX10_163 : Cond.methodLink RX10 163 mX7_pooled.1 ∈ lw_tbl ∨ ∃ host, Cond.methodLinkNest RX10 163 mX7_pooled.1 host ∈ lw_tbl := Or.inl (tb4 (List.mem_of_getElem? (i := 42) rfl))
theorem mlX10_166 : Cond.methodLink RX10 166 mX9_countFull.1 ∈ lw_tbl ∨ ∃ host, Cond.methodLinkNest RX10 166 mX9_countFull.1 host ∈ lw_tbl := Or.inl (tb4 (List.mem_of_getElem? (i := 50) rfl))
theorem mlX10_176 : Cond.methodLink RX10 176 mX2_isMatter.1 ∈ lw_tbl ∨ ∃ host, Cond.methodLinkNest RX10 176 mX2_isMatter.1 host ∈ lw_tbl := Or.inl (tb4 (List.mem_of_getElem? (i := 63) rfl))
theorem mlX10_179 : Cond.methodLink RX10 179 mX2_isClerk.1 ∈ lw_tbl ∨ ∃ host, Cond.methodLinkNest RX10 179 mX2_isClerk.1 host ∈ lw_tbl := Or.inl (tb4 (List.mem_of_getElem? (i := 67) rfl))
theorem mlX10_182 : Cond.methodLink RX10 182 mX10_within.1 ∈ lw_tbl ∨ ∃ host, Cond.methodLinkNest RX10 182 mX10_within.1 host ∈ lw_tbl := Or.inl (tb4 (List.mem_of_getElem? (i := 71) rfl))
theorem mlX10_189 : Cond.methodLink RX10 189 mX10_pick.1 ∈ lw_tbl ∨ ∃ host, Cond.methodLinkNest RX10 189 mX10_pick.1 host ∈ lw_tbl := Or.inl (tb4 (List.mem_of_getElem? (i := 72) rfl))
theorem mlX10_193 : Cond.methodLink RX10 193 mX10_letterOf.1 ∈ lw_tbl ∨ ∃ host, Cond.methodLinkNest RX10 193 mX10_letterOf.1 host ∈ lw_tbl := Or.inl (tb4 (List.mem_of_getElem? (i := 73) rfl))
theorem mlX10_197 : Cond.methodLink RX10 197 mX7_sitterAt.1 ∈ lw_tbl ∨ ∃ host, Cond.methodLinkNest RX10 197 mX7_sitterAt.1 host ∈ lw_tbl := Or.inl (tb4 (List.mem_of_getElem? (i := 80) rfl))
theorem mlX10_205 : Cond.methodLink RX10 205 mX7_mindOf.1 ∈ lw_tbl ∨ ∃ host, Cond.methodLinkNest RX10 205 mX7_mindOf.1 host ∈ lw_tbl := Or.inl (tb4 (List.mem_of_getElem? (i := 88) rfl))
theorem mlX10_208 : Cond.methodLink RX10 208 mX4_powerOf.1 ∈ lw_tbl ∨ ∃ host, Cond.methodLinkNest RX10 208 mX4_powerOf.1 host ∈ lw_tbl := Or.inl (tb4 (List.mem_of_getElem? (i := 96) rfl))
theorem mlX10_211 : Cond.methodLink RX10 211 mX2_areThere.1 ∈ lw_tbl ∨ ∃ host, Cond.methodLinkNest RX10 211 mX2_areThere.1 host ∈ lw_tbl := Or.inl (tb4 (List.mem_of_getElem? (i := 109) rfl))
theorem mlX10_215 : Cond.methodLink RX10 215 mX7_dropsOf.1 ∈ lw_tbl ∨ ∃ host, Cond.methodLinkNest RX10 215 mX7_dropsOf.1 host ∈ lw_tbl := Or.inl (tb4 (List.mem_of_getElem? (i := 115) rfl))
theorem mlX10_218 : Cond.methodLink RX10 218 mX7_heldOf.1 ∈ lw_tbl ∨ ∃ host, Cond.methodLinkNest RX10 218 mX7_heldOf.1 host ∈ lw_tbl := Or.inl (tb4 (List.mem_of_getElem? (i := 120) rfl))
theorem mlX10_221 : Cond.methodLink RX10 221 mX7_poolOf.1 ∈ lw_tbl ∨ ∃ host, Cond.methodLinkNest RX10 221 mX7_poolOf.1 host ∈ lw_tbl := Or.inl (tb4 (List.mem_of_getElem? (i := 124) rfl))
theorem mlX10_224 : Cond.methodLink RX10 224 mX7_knowing.1 ∈ lw_tbl ∨ ∃ host, Cond.methodLinkNest RX10 224 mX7_knowing.1 host ∈ lw_tbl := Or.inl (tb4 (List.mem_of_getElem? (i := 125) rfl))
theorem mlX10_227 : Cond.methodLink RX10 227 mX9_flow.1 ∈ lw_tbl ∨ ∃ host, Cond.methodLinkNest RX10 227 mX9_flow.1 host ∈ lw_tbl := Or.inl (tb4 (List.mem_of_getElem? (i := 133) rfl))
theorem mlX10_231 : Cond.methodLink RX10 231 mX7_keptAt.1 ∈ lw_tbl ∨ ∃ host, Cond.methodLinkNest RX10 231 mX7_keptAt.1 host ∈ lw_tbl := Or.inl (tb4 (List.mem_of_getElem? (i := 185) rfl))
theorem mlX10_234 : Cond.methodLink RX10 234 mX10_canPass.1 ∈ lw_tbl ∨ ∃ host, Cond.methodLinkNest RX10 234 mX10_canPass.1 host ∈ lw_tbl := Or.inl (tb4 (List.mem_of_getElem? (i := 193) rfl))
theorem mlX10_237 : Cond.methodLink RX10 237 mX10_lookAhead.1 ∈ lw_tbl ∨ ∃ host, Cond.methodLinkNest RX10 237 mX10_lookAhead.1 host ∈ lw_tbl := Or.inl (tb4 (List.mem_of_getElem? (i := 197) rfl))
theorem mlX10_240 : Cond.methodLink RX10 240 mX7_copyRoom.1 ∈ lw_tbl ∨ ∃ host, Cond.methodLinkNest RX10 240 mX7_copyRoom.1 host ∈ lw_tbl := Or.inl (tb4 (List.mem_of_getElem? (i := 201) rfl))
theorem mlX10_244 : Cond.methodLink RX10 244 mJ9_min_7cf53.1 ∈ lw_tbl ∨ ∃ host, Cond.methodLinkNest RX10 244 mJ9_min_7cf53.1 host ∈ lw_tbl := Or.inl (tb3 (List.mem_of_getElem? (i := 235) rfl))
theorem mlX10_249 : Cond.methodLink RX10 249 mX9_passDay.1 ∈ lw_tbl ∨ ∃ host, Cond.methodLinkNest RX10 249 mX9_passDay.1 host ∈ lw_tbl := Or.inl (tb4 (List.mem_of_getElem? (i := 205) rfl))
theorem mlX10_252 : Cond.methodLink RX10 252 mX4_findDiscreet.1 ∈ lw_tbl ∨ ∃ host, Cond.methodLinkNest RX10 252 mX4_findDiscreet.1 host ∈ lw_tbl := Or.inl (tb4 (List.mem_of_getElem? (i := 237) rfl))
theorem mlX10_264 : Cond.methodLink RX10 264 mX4_findPressed.1 ∈ lw_tbl ∨ ∃ host, Cond.methodLinkNest RX10 264 mX4_findPressed.1 host ∈ lw_tbl := Or.inl (tb5 (List.mem_of_getElem? (i := 24) rfl))
theorem mlX10_272 : Cond.methodLink RX10 272 mX4_findMops.1 ∈ lw_tbl ∨ ∃ host, Cond.methodLinkNest RX10 272 mX4_findMops.1 host ∈ lw_tbl := Or.inl (tb5 (List.mem_of_getElem? (i := 47) rfl))
theorem mlX10_276 : Cond.methodLink RX10 276 mX4_findDesk.1 ∈ lw_tbl ∨ ∃ host, Cond.methodLinkNest RX10 276 mX4_findDesk.1 host ∈ lw_tbl := Or.inl (tb5 (List.mem_of_getElem? (i := 61) rfl))
theorem mlX10_279 : Cond.methodLink RX10 279 mX0_areRows.1 ∈ lw_tbl ∨ ∃ host, Cond.methodLinkNest RX10 279 mX0_areRows.1 host ∈ lw_tbl := Or.inl (tb5 (List.mem_of_getElem? (i := 75) rfl))
theorem mlX10_283 : Cond.methodLink RX10 283 mX6_copyFrom.1 ∈ lw_tbl ∨ ∃ host, Cond.methodLinkNest RX10 283 mX6_copyFrom.1 host ∈ lw_tbl := Or.inl (tb5 (List.mem_of_getElem? (i := 81) rfl))
theorem mlX10_286 : Cond.methodLink RX10 286 mX0_findSources.1 ∈ lw_tbl ∨ ∃ host, Cond.methodLinkNest RX10 286 mX0_findSources.1 host ∈ lw_tbl := Or.inl (tb5 (List.mem_of_getElem? (i := 86) rfl))
theorem mlX10_289 : Cond.methodLink RX10 289 mX0_findTelling.1 ∈ lw_tbl ∨ ∃ host, Cond.methodLinkNest RX10 289 mX0_findTelling.1 host ∈ lw_tbl := Or.inl (tb5 (List.mem_of_getElem? (i := 120) rfl))
theorem mlX10_300 : Cond.methodLink RX10 300 mX9_canPour.1 ∈ lw_tbl ∨ ∃ host, Cond.methodLinkNest RX10 300 mX9_canPour.1 host ∈ lw_tbl := Or.inl (tb5 (List.mem_of_getElem? (i := 142) rfl))
theorem mlX10_304 : Cond.methodLink RX10 304 mX3_keep.1 ∈ lw_tbl ∨ ∃ host, Cond.methodLinkNest RX10 304 mX3_keep.1 host ∈ lw_tbl := Or.inl (tb5 (List.mem_of_getElem? (i := 143) rfl))
theorem mlX10_307 : Cond.methodLink RX10 307 mX9_pour.1 ∈ lw_tbl ∨ ∃ host, Cond.methodLinkNest RX10 307 mX9_pour.1 host ∈ lw_tbl := Or.inl (tb5 (List.mem_of_getElem? (i := 153) rfl))
theorem mlX10_310 : Cond.methodLink RX10 310 mX10_dry.1 ∈ lw_tbl ∨ ∃ host, Cond.methodLinkNest RX10 310 mX10_dry.1 host ∈ lw_tbl := Or.inl (tb5 (List.mem_of_getElem? (i := 158) rfl))
theorem mlX10_313 : Cond.methodLink RX10 313 mX9_space.1 ∈ lw_tbl ∨ ∃ host, Cond.methodLinkNest RX10 313 mX9_space.1 host ∈ lw_tbl := Or.inl (tb5 (List.mem_of_getElem? (i := 171) rfl))
theorem mlX10_317 : Cond.methodLink RX10 317 mX9_takeFromFloor.1 ∈ lw_tbl ∨ ∃ host, Cond.methodLinkNest RX10 317 mX9_takeFromFloor.1 host ∈ lw_tbl := Or.inl (tb5 (List.mem_of_getElem? (i := 172) rfl))
theorem mlX10_320 : Cond.methodLink RX10 320 mX2_isSeat.1 ∈ lw_tbl ∨ ∃ host, Cond.methodLinkNest RX10 320 mX2_isSeat.1 host ∈ lw_tbl := Or.inl (tb5 (List.mem_of_getElem? (i := 180) rfl))
theorem mlX10_323 : Cond.methodLink RX10 323 mX7_swap.1 ∈ lw_tbl ∨ ∃ host, Cond.methodLinkNest RX10 323 mX7_swap.1 host ∈ lw_tbl := Or.inl (tb5 (List.mem_of_getElem? (i := 184) rfl))
theorem mlX10_327 : Cond.methodLink RX10 327 mX10_liveDay.1 ∈ lw_tbl ∨ ∃ host, Cond.methodLinkNest RX10 327 mX10_liveDay.1 host ∈ lw_tbl := Or.inl (tb5 (List.mem_of_getElem? (i := 189) rfl))
theorem mlX10_330 : Cond.methodLink RX10 330 mX10_tryHands.1 ∈ lw_tbl ∨ ∃ host, Cond.methodLinkNest RX10 330 mX10_tryHands.1 host ∈ lw_tbl := Or.inl (tb5 (List.mem_of_getElem? (i := 201) rfl))
theorem mlX10_333 : Cond.methodLink RX10 333 mJ9_max_7cf53.1 ∈ lw_tbl ∨ ∃ host, Cond.methodLinkNest RX10 333 mJ9_max_7cf53.1 host ∈ lw_tbl := Or.inl (tb5 (List.mem_of_getElem? (i := 216) rfl))
theorem mlX10_336 : Cond.methodLink RX10 336 mX3_goBack.1 ∈ lw_tbl ∨ ∃ host, Cond.methodLinkNest RX10 336 mX3_goBack.1 host ∈ lw_tbl := Or.inl (tb5 (List.mem_of_getElem? (i := 221) rfl))
theorem mlX10_342 : Cond.methodLink RX10 342 mX5_readQuestion.1 ∈ lw_tbl ∨ ∃ host, Cond.methodLinkNest RX10 342 mX5_readQuestion.1 host ∈ lw_tbl := Or.inl (tb5 (List.mem_of_getElem? (i := 234) rfl))
theorem mlX10_345 : Cond.methodLink RX10 345 mX10_countHolding.1 ∈ lw_tbl ∨ ∃ host, Cond.methodLinkNest RX10 345 mX10_countHolding.1 host ∈ lw_tbl := Or.inl (tb5 (List.mem_of_getElem? (i := 238) rfl))
theorem mlX10_349 : Cond.methodLink RX10 349 mX10_gatherSums.1 ∈ lw_tbl ∨ ∃ host, Cond.methodLinkNest RX10 349 mX10_gatherSums.1 host ∈ lw_tbl := Or.inl (tb6 (List.mem_of_getElem? (i := 3) rfl))
theorem mlX10_352 : Cond.methodLink RX10 352 mX10_putPair.1 ∈ lw_tbl ∨ ∃ host, Cond.methodLinkNest RX10 352 mX10_putPair.1 host ∈ lw_tbl := Or.inl (tb6 (List.mem_of_getElem? (i := 13) rfl))
theorem mlX10_355 : Cond.methodLink RX10 355 mX6_put.1 ∈ lw_tbl ∨ ∃ host, Cond.methodLinkNest RX10 355 mX6_put.1 host ∈ lw_tbl := Or.inl (tb3 (List.mem_of_getElem? (i := 27) rfl))
theorem mlX10_358 : Cond.methodLink RX10 358 mX6_checkOf.1 ∈ lw_tbl ∨ ∃ host, Cond.methodLinkNest RX10 358 mX6_checkOf.1 host ∈ lw_tbl := Or.inl (tb6 (List.mem_of_getElem? (i := 17) rfl))
theorem mlX10_361 : Cond.methodLink RX10 361 mX6_at.1 ∈ lw_tbl ∨ ∃ host, Cond.methodLinkNest RX10 361 mX6_at.1 host ∈ lw_tbl := Or.inl (tb6 (List.mem_of_getElem? (i := 25) rfl))
theorem mlX10_364 : Cond.methodLink RX10 364 mX7_readPicture.1 ∈ lw_tbl ∨ ∃ host, Cond.methodLinkNest RX10 364 mX7_readPicture.1 host ∈ lw_tbl := Or.inl (tb6 (List.mem_of_getElem? (i := 30) rfl))
theorem mlX10_368 : Cond.methodLink RX10 368 mX7_forgetKept.1 ∈ lw_tbl ∨ ∃ host, Cond.methodLinkNest RX10 368 mX7_forgetKept.1 host ∈ lw_tbl := Or.inl (tb6 (List.mem_of_getElem? (i := 49) rfl))
theorem mlX10_371 : Cond.methodLink RX10 371 mX10_add.1 ∈ lw_tbl ∨ ∃ host, Cond.methodLinkNest RX10 371 mX10_add.1 host ∈ lw_tbl := Or.inl (tb3 (List.mem_of_getElem? (i := 20) rfl))
theorem mlX10_375 : Cond.methodLink RX10 375 mX7_empty.1 ∈ lw_tbl ∨ ∃ host, Cond.methodLinkNest RX10 375 mX7_empty.1 host ∈ lw_tbl := Or.inl (tb5 (List.mem_of_getElem? (i := 162) rfl))
theorem mlX10_378 : Cond.methodLink RX10 378 mX7_keepDay.1 ∈ lw_tbl ∨ ∃ host, Cond.methodLinkNest RX10 378 mX7_keepDay.1 host ∈ lw_tbl := Or.inl (tb5 (List.mem_of_getElem? (i := 193) rfl))
theorem mlX10_381 : Cond.methodLink RX10 381 mX10_draw.1 ∈ lw_tbl ∨ ∃ host, Cond.methodLinkNest RX10 381 mX10_draw.1 host ∈ lw_tbl := Or.inl (tb5 (List.mem_of_getElem? (i := 205) rfl))
theorem mlX10_387 : Cond.methodLink RX10 387 mX9_shake.1 ∈ lw_tbl ∨ ∃ host, Cond.methodLinkNest RX10 387 mX9_shake.1 host ∈ lw_tbl := Or.inl (tb5 (List.mem_of_getElem? (i := 212) rfl))
theorem mlX10_397 : Cond.methodLink RX10 397 mX1_worth.1 ∈ lw_tbl ∨ ∃ host, Cond.methodLinkNest RX10 397 mX1_worth.1 host ∈ lw_tbl := Or.inl (tb6 (List.mem_of_getElem? (i := 2) rfl))
theorem mlX10_401 : Cond.methodLink RX10 401 mJ9_max_f86c9.1 ∈ lw_tbl ∨ ∃ host, Cond.methodLinkNest RX10 401 mJ9_max_f86c9.1 host ∈ lw_tbl := Or.inl (tb6 (List.mem_of_getElem? (i := 7) rfl))
theorem mlX10_404 : Cond.methodLink RX10 404 mJ9_min_f86c9.1 ∈ lw_tbl ∨ ∃ host, Cond.methodLinkNest RX10 404 mJ9_min_f86c9.1 host ∈ lw_tbl := Or.inl (tb6 (List.mem_of_getElem? (i := 8) rfl))
theorem mlX0_40 : Cond.methodLink RX0 40 mX6_at.1 ∈ lw_tbl ∨ ∃ host, Cond.methodLinkNest RX0 40 mX6_at.1 host ∈ lw_tbl := Or.inl (tb5 (List.mem_of_getElem? (i := 79) rfl))
theorem mlX0_44 : Cond.methodLink RX0 44 mX2_areThere.1 ∈ lw_tbl ∨ ∃ host, Cond.methodLinkNest RX0 44 mX2_areThere.1 host ∈ lw_tbl := Or.inl (tb5 (List.mem_of_getElem? (i := 80) rfl))
theorem mlX0_50 : Cond.methodLink RX0 50 mX0_lastSeen.1 ∈ lw_tbl ∨ ∃ host, Cond.methodLinkNest RX0 50 mX0_lastSeen.1 host ∈ lw_tbl := Or.inl (tb5 (List.mem_of_getElem? (i := 90) rfl))
theorem mlX0_62 : Cond.methodLink RX0 62 mX0_isSource.1 ∈ lw_tbl ∨ ∃ host, Cond.methodLinkNest RX0 62 mX0_isSource.1 host ∈ lw_tbl := Or.inl (tb5 (List.mem_of_getElem? (i := 95) rfl))
theorem mlX0_66 : Cond.methodLink RX0 66 mJ9_max_7cf53.1 ∈ lw_tbl ∨ ∃ host, Cond.methodLinkNest RX0 66 mJ9_max_7cf53.1 host ∈ lw_tbl := Or.inl (tb5 (List.mem_of_getElem? (i := 94) rfl))
theorem mlX0_72 : Cond.methodLink RX0 72 mX9_canPour.1 ∈ lw_tbl ∨ ∃ host, Cond.methodLinkNest RX0 72 mX9_canPour.1 host ∈ lw_tbl := Or.inl (tb5 (List.mem_of_getElem? (i := 99) rfl))
theorem mlX0_78 : Cond.methodLink RX0 78 mX7_copyRoom.1 ∈ lw_tbl ∨ ∃ host, Cond.methodLinkNest RX0 78 mX7_copyRoom.1 host ∈ lw_tbl := Or.inl (tb5 (List.mem_of_getElem? (i := 104) rfl))
theorem mlX0_82 : Cond.methodLink RX0 82 mX9_pour.1 ∈ lw_tbl ∨ ∃ host, Cond.methodLinkNest RX0 82 mX9_pour.1 host ∈ lw_tbl := Or.inl (tb5 (List.mem_of_getElem? (i := 105) rfl))
theorem mlX0_86 : Cond.methodLink RX0 86 mX9_passDay.1 ∈ lw_tbl ∨ ∃ host, Cond.methodLinkNest RX0 86 mX9_passDay.1 host ∈ lw_tbl := Or.inl (tb5 (List.mem_of_getElem? (i := 110) rfl))
theorem mlX0_90 : Cond.methodLink RX0 90 mX0_isAsSeen.1 ∈ lw_tbl ∨ ∃ host, Cond.methodLinkNest RX0 90 mX0_isAsSeen.1 host ∈ lw_tbl := Or.inl (tb5 (List.mem_of_getElem? (i := 111) rfl))
theorem mlX0_94 : Cond.methodLink RX0 94 mX7_dropsOf.1 ∈ lw_tbl ∨ ∃ host, Cond.methodLinkNest RX0 94 mX7_dropsOf.1 host ∈ lw_tbl := Or.inl (tb5 (List.mem_of_getElem? (i := 115) rfl))
theorem mlX0_97 : Cond.methodLink RX0 97 mJ9_min_7cf53.1 ∈ lw_tbl ∨ ∃ host, Cond.methodLinkNest RX0 97 mJ9_min_7cf53.1 host ∈ lw_tbl := Or.inl (tb5 (List.mem_of_getElem? (i := 124) rfl))
theorem mlX0_100 : Cond.methodLink RX0 100 mX0_tracePath.1 ∈ lw_tbl ∨ ∃ host, Cond.methodLinkNest RX0 100 mX0_tracePath.1 host ∈ lw_tbl := Or.inl (tb5 (List.mem_of_getElem? (i := 125) rfl))
theorem mlX0_107 : Cond.methodLink RX0 107 mX0_mostLeft.1 ∈ lw_tbl ∨ ∃ host, Cond.methodLinkNest RX0 107 mX0_mostLeft.1 host ∈ lw_tbl := Or.inl (tb5 (List.mem_of_getElem? (i := 133) rfl))
theorem mlX0_115 : Cond.methodLink RX0 115 mX0_pathCell.1 ∈ lw_tbl ∨ ∃ host, Cond.methodLinkNest RX0 115 mX0_pathCell.1 host ∈ lw_tbl := Or.inl (tb5 (List.mem_of_getElem? (i := 129) rfl))
theorem mlX0_118 : Cond.methodLink RX0 118 mX10_set.1 ∈ lw_tbl ∨ ∃ host, Cond.methodLinkNest RX0 118 mX10_set.1 host ∈ lw_tbl := Or.inr ⟨"SpongeClerks", tb5 (List.mem_of_getElem? (i := 132) rfl)⟩
theorem mlX0_122 : Cond.methodLink RX0 122 mX10_pick.1 ∈ lw_tbl ∨ ∃ host, Cond.methodLinkNest RX0 122 mX10_pick.1 host ∈ lw_tbl := Or.inr ⟨"SpongeClerks", tb5 (List.mem_of_getElem? (i := 137) rfl)⟩
theorem mlX1_25 : Cond.methodLink RX1 25 mX6_at.1 ∈ lw_tbl ∨ ∃ host, Cond.methodLinkNest RX1 25 mX6_at.1 host ∈ lw_tbl := Or.inl (tb4 (List.mem_of_getElem? (i := 143) rfl))
theorem mlX1_29 : Cond.methodLink RX1 29 mX1_needsOf.1 ∈ lw_tbl ∨ ∃ host, Cond.methodLinkNest RX1 29 mX1_needsOf.1 host ∈ lw_tbl := Or.inl (tb4 (List.mem_of_getElem? (i := 144) rfl))
theorem mlX1_32 : Cond.methodLink RX1 32 mX1_look.1 ∈ lw_tbl ∨ ∃ host, Cond.methodLinkNest RX1 32 mX1_look.1 host ∈ lw_tbl := Or.inl (tb4 (List.mem_of_getElem? (i := 147) rfl))
theorem mlX1_36 : Cond.methodLink RX1 36 mX1_turn.1 ∈ lw_tbl ∨ ∃ host, Cond.methodLinkNest RX1 36 mX1_turn.1 host ∈ lw_tbl := Or.inl (tb4 (List.mem_of_getElem? (i := 156) rfl))
theorem mlX1_40 : Cond.methodLink RX1 40 mX1_join.1 ∈ lw_tbl ∨ ∃ host, Cond.methodLinkNest RX1 40 mX1_join.1 host ∈ lw_tbl := Or.inl (tb4 (List.mem_of_getElem? (i := 162) rfl))
theorem mlX1_60 : Cond.methodLink RX1 60 mX7_dropsOf.1 ∈ lw_tbl ∨ ∃ host, Cond.methodLinkNest RX1 60 mX7_dropsOf.1 host ∈ lw_tbl := Or.inl (tb4 (List.mem_of_getElem? (i := 151) rfl))
theorem mlX1_64 : Cond.methodLink RX1 64 mX7_farOff.1 ∈ lw_tbl ∨ ∃ host, Cond.methodLinkNest RX1 64 mX7_farOff.1 host ∈ lw_tbl := Or.inl (tb4 (List.mem_of_getElem? (i := 152) rfl))
theorem mlX1_67 : Cond.methodLink RX1 67 mX2_isMatter.1 ∈ lw_tbl ∨ ∃ host, Cond.methodLinkNest RX1 67 mX2_isMatter.1 host ∈ lw_tbl := Or.inl (tb4 (List.mem_of_getElem? (i := 160) rfl))
theorem mlX1_71 : Cond.methodLink RX1 71 mX2_isClerk.1 ∈ lw_tbl ∨ ∃ host, Cond.methodLinkNest RX1 71 mX2_isClerk.1 host ∈ lw_tbl := Or.inl (tb4 (List.mem_of_getElem? (i := 161) rfl))
theorem mlX1_76 : Cond.methodLink RX1 76 mJ9_min_7cf53.1 ∈ lw_tbl ∨ ∃ host, Cond.methodLinkNest RX1 76 mJ9_min_7cf53.1 host ∈ lw_tbl := Or.inl (tb4 (List.mem_of_getElem? (i := 167) rfl))
theorem mlX1_81 : Cond.methodLink RX1 81 mJ9_max_7cf53.1 ∈ lw_tbl ∨ ∃ host, Cond.methodLinkNest RX1 81 mJ9_max_7cf53.1 host ∈ lw_tbl := Or.inl (tb4 (List.mem_of_getElem? (i := 168) rfl))
theorem mlX1_88 : Cond.methodLink RX1 88 mJ9_min_f86c9.1 ∈ lw_tbl ∨ ∃ host, Cond.methodLinkNest RX1 88 mJ9_min_f86c9.1 host ∈ lw_tbl := Or.inl (tb4 (List.mem_of_getElem? (i := 171) rfl))
theorem mlX1_91 : Cond.methodLink RX1 91 mJ9_max_f86c9.1 ∈ lw_tbl ∨ ∃ host, Cond.methodLinkNest RX1 91 mJ9_max_f86c9.1 host ∈ lw_tbl := Or.inl (tb4 (List.mem_of_getElem? (i := 174) rfl))
theorem mlX1_93 : Cond.methodLink RX1 93 mJ9_floorDiv_7cf53.1 ∈ lw_tbl ∨ ∃ host, Cond.methodLinkNest RX1 93 mJ9_floorDiv_7cf53.1 host ∈ lw_tbl := Or.inl (tb4 (List.mem_of_getElem? (i := 177) rfl))
theorem mlX2_29 : Cond.methodLink RX2 29 mX6_init.1 ∈ lw_tbl ∨ ∃ host, Cond.methodLinkNest RX2 29 mX6_init.1 host ∈ lw_tbl := Or.inl (tb1 (List.mem_of_getElem? (i := 57) rfl))
theorem mlX2_65 : Cond.methodLink RX2 65 mX10_fill.1 ∈ lw_tbl ∨ ∃ host, Cond.methodLinkNest RX2 65 mX10_fill.1 host ∈ lw_tbl := Or.inr ⟨"SpongeClerks", tb3 (List.mem_of_getElem? (i := 77) rfl)⟩
theorem mlX2_69 : Cond.methodLink RX2 69 mX6_clear.1 ∈ lw_tbl ∨ ∃ host, Cond.methodLinkNest RX2 69 mX6_clear.1 host ∈ lw_tbl := Or.inl (tb3 (List.mem_of_getElem? (i := 78) rfl))
theorem mlX2_72 : Cond.methodLink RX2 72 mX6_put.1 ∈ lw_tbl ∨ ∃ host, Cond.methodLinkNest RX2 72 mX6_put.1 host ∈ lw_tbl := Or.inl (tb3 (List.mem_of_getElem? (i := 82) rfl))
theorem mlX2_75 : Cond.methodLink RX2 75 mX10_copy.1 ∈ lw_tbl ∨ ∃ host, Cond.methodLinkNest RX2 75 mX10_copy.1 host ∈ lw_tbl := Or.inr ⟨"SpongeClerks", tb3 (List.mem_of_getElem? (i := 232) rfl)⟩
theorem mlX2_79 : Cond.methodLink RX2 79 mX6_copyFrom.1 ∈ lw_tbl ∨ ∃ host, Cond.methodLinkNest RX2 79 mX6_copyFrom.1 host ∈ lw_tbl := Or.inl (tb4 (List.mem_of_getElem? (i := 1) rfl))
theorem mlX2_83 : Cond.methodLink RX2 83 mX6_holds.1 ∈ lw_tbl ∨ ∃ host, Cond.methodLinkNest RX2 83 mX6_holds.1 host ∈ lw_tbl := Or.inl (tb4 (List.mem_of_getElem? (i := 8) rfl))
theorem mlX2_90 : Cond.methodLink RX2 90 mX2_isClerk.1 ∈ lw_tbl ∨ ∃ host, Cond.methodLinkNest RX2 90 mX2_isClerk.1 host ∈ lw_tbl := Or.inl (tb4 (List.mem_of_getElem? (i := 113) rfl))
theorem mlX2_93 : Cond.methodLink RX2 93 mX2_isMatter.1 ∈ lw_tbl ∨ ∃ host, Cond.methodLinkNest RX2 93 mX2_isMatter.1 host ∈ lw_tbl := Or.inl (tb4 (List.mem_of_getElem? (i := 114) rfl))
theorem mlX2_96 : Cond.methodLink RX2 96 mX10_pick.1 ∈ lw_tbl ∨ ∃ host, Cond.methodLinkNest RX2 96 mX10_pick.1 host ∈ lw_tbl := Or.inr ⟨"SpongeClerks", tb3 (List.mem_of_getElem? (i := 144) rfl)⟩
theorem mlX3_17 : Cond.methodLink RX3 17 mX7_init.1 ∈ lw_tbl ∨ ∃ host, Cond.methodLinkNest RX3 17 mX7_init.1 host ∈ lw_tbl := Or.inl (tb1 (List.mem_of_getElem? (i := 213) rfl))
theorem mlX3_25 : Cond.methodLink RX3 25 mX7_copyAll.1 ∈ lw_tbl ∨ ∃ host, Cond.methodLinkNest RX3 25 mX7_copyAll.1 host ∈ lw_tbl := Or.inl (tb5 (List.mem_of_getElem? (i := 147) rfl))
theorem mlX3_29 : Cond.methodLink RX3 29 mJ9_min_7cf53.1 ∈ lw_tbl ∨ ∃ host, Cond.methodLinkNest RX3 29 mJ9_min_7cf53.1 host ∈ lw_tbl := Or.inl (tb5 (List.mem_of_getElem? (i := 152) rfl))
theorem mlX4_39 : Cond.methodLink RX4 39 mX4_roomOf.1 ∈ lw_tbl ∨ ∃ host, Cond.methodLinkNest RX4 39 mX4_roomOf.1 host ∈ lw_tbl := Or.inl (tb4 (List.mem_of_getElem? (i := 100) rfl))
theorem mlX4_46 : Cond.methodLink RX4 46 mX10_pick.1 ∈ lw_tbl ∨ ∃ host, Cond.methodLinkNest RX4 46 mX10_pick.1 host ∈ lw_tbl := Or.inr ⟨"SpongeClerks", tb4 (List.mem_of_getElem? (i := 104) rfl)⟩
theorem mlX4_50 : Cond.methodLink RX4 50 mX4_countKnowing.1 ∈ lw_tbl ∨ ∃ host, Cond.methodLinkNest RX4 50 mX4_countKnowing.1 host ∈ lw_tbl := Or.inl (tb5 (List.mem_of_getElem? (i := 1) rfl))
theorem mlX4_60 : Cond.methodLink RX4 60 mX7_sitterAt.1 ∈ lw_tbl ∨ ∃ host, Cond.methodLinkNest RX4 60 mX7_sitterAt.1 host ∈ lw_tbl := Or.inl (tb5 (List.mem_of_getElem? (i := 19) rfl))
theorem mlX4_71 : Cond.methodLink RX4 71 mX7_copyRoom.1 ∈ lw_tbl ∨ ∃ host, Cond.methodLinkNest RX4 71 mX7_copyRoom.1 host ∈ lw_tbl := Or.inl (tb5 (List.mem_of_getElem? (i := 5) rfl))
theorem mlX4_75 : Cond.methodLink RX4 75 mX7_swap.1 ∈ lw_tbl ∨ ∃ host, Cond.methodLinkNest RX4 75 mX7_swap.1 host ∈ lw_tbl := Or.inl (tb5 (List.mem_of_getElem? (i := 6) rfl))
theorem mlX4_79 : Cond.methodLink RX4 79 mX9_passDay.1 ∈ lw_tbl ∨ ∃ host, Cond.methodLinkNest RX4 79 mX9_passDay.1 host ∈ lw_tbl := Or.inl (tb5 (List.mem_of_getElem? (i := 11) rfl))
theorem mlX4_85 : Cond.methodLink RX4 85 mX7_knowing.1 ∈ lw_tbl ∨ ∃ host, Cond.methodLinkNest RX4 85 mX7_knowing.1 host ∈ lw_tbl := Or.inl (tb5 (List.mem_of_getElem? (i := 12) rfl))
theorem mlX4_88 : Cond.methodLink RX4 88 mJ6_bitCount_0f7a4.1 ∈ lw_tbl ∨ ∃ host, Cond.methodLinkNest RX4 88 mJ6_bitCount_0f7a4.1 host ∈ lw_tbl := Or.inl (tb5 (List.mem_of_getElem? (i := 13) rfl))
theorem mlX4_96 : Cond.methodLink RX4 96 mX4_staysUnaware.1 ∈ lw_tbl ∨ ∃ host, Cond.methodLinkNest RX4 96 mX4_staysUnaware.1 host ∈ lw_tbl := Or.inl (tb5 (List.mem_of_getElem? (i := 28) rfl))
theorem mlX4_100 : Cond.methodLink RX4 100 mX7_empty.1 ∈ lw_tbl ∨ ∃ host, Cond.methodLinkNest RX4 100 mX7_empty.1 host ∈ lw_tbl := Or.inl (tb5 (List.mem_of_getElem? (i := 32) rfl))
theorem mlX4_104 : Cond.methodLink RX4 104 mX7_dropsOf.1 ∈ lw_tbl ∨ ∃ host, Cond.methodLinkNest RX4 104 mX7_dropsOf.1 host ∈ lw_tbl := Or.inl (tb5 (List.mem_of_getElem? (i := 42) rfl))
theorem mlX4_107 : Cond.methodLink RX4 107 mX7_pooled.1 ∈ lw_tbl ∨ ∃ host, Cond.methodLinkNest RX4 107 mX7_pooled.1 host ∈ lw_tbl := Or.inl (tb5 (List.mem_of_getElem? (i := 51) rfl))
theorem mlX4_110 : Cond.methodLink RX4 110 mX4_spaceOf.1 ∈ lw_tbl ∨ ∃ host, Cond.methodLinkNest RX4 110 mX4_spaceOf.1 host ∈ lw_tbl := Or.inl (tb5 (List.mem_of_getElem? (i := 52) rfl))
theorem mlX4_113 : Cond.methodLink RX4 113 mX9_space.1 ∈ lw_tbl ∨ ∃ host, Cond.methodLinkNest RX4 113 mX9_space.1 host ∈ lw_tbl := Or.inl (tb5 (List.mem_of_getElem? (i := 56) rfl))
theorem mlX4_120 : Cond.methodLink RX4 120 mX7_heldOf.1 ∈ lw_tbl ∨ ∃ host, Cond.methodLinkNest RX4 120 mX7_heldOf.1 host ∈ lw_tbl := Or.inl (tb5 (List.mem_of_getElem? (i := 65) rfl))
theorem mlX4_122 : Cond.methodLink RX4 122 mX10_set.1 ∈ lw_tbl ∨ ∃ host, Cond.methodLinkNest RX4 122 mX10_set.1 host ∈ lw_tbl := Or.inr ⟨"SpongeClerks", tb5 (List.mem_of_getElem? (i := 66) rfl)⟩
theorem mlX4_126 : Cond.methodLink RX4 126 mX4_findDesks.1 ∈ lw_tbl ∨ ∃ host, Cond.methodLinkNest RX4 126 mX4_findDesks.1 host ∈ lw_tbl := Or.inl (tb5 (List.mem_of_getElem? (i := 67) rfl))
theorem mlX5_17 : Cond.methodLink RX5 17 mX8_init.1 ∈ lw_tbl ∨ ∃ host, Cond.methodLinkNest RX5 17 mX8_init.1 host ∈ lw_tbl := Or.inl (tb1 (List.mem_of_getElem? (i := 233) rfl))
theorem mlX5_35 : Cond.methodLink RX5 35 mX5_begin.1 ∈ lw_tbl ∨ ∃ host, Cond.methodLinkNest RX5 35 mX5_begin.1 host ∈ lw_tbl := Or.inl (tb3 (List.mem_of_getElem? (i := 47) rfl))
theorem mlX5_38 : Cond.methodLink RX5 38 mX2_begin.1 ∈ lw_tbl ∨ ∃ host, Cond.methodLinkNest RX5 38 mX2_begin.1 host ∈ lw_tbl := Or.inl (tb3 (List.mem_of_getElem? (i := 73) rfl))
theorem mlX5_47 : Cond.methodLink RX5 47 mX5_readStatement.1 ∈ lw_tbl ∨ ∃ host, Cond.methodLinkNest RX5 47 mX5_readStatement.1 host ∈ lw_tbl := Or.inl (tb3 (List.mem_of_getElem? (i := 83) rfl))
theorem mlX5_51 : Cond.methodLink RX5 51 mX5_takeSign.1 ∈ lw_tbl ∨ ∃ host, Cond.methodLinkNest RX5 51 mX5_takeSign.1 host ∈ lw_tbl := Or.inl (tb3 (List.mem_of_getElem? (i := 191) rfl))
theorem mlX5_57 : Cond.methodLink RX5 57 mX5_unfit.1 ∈ lw_tbl ∨ ∃ host, Cond.methodLinkNest RX5 57 mX5_unfit.1 host ∈ lw_tbl := Or.inl (tb3 (List.mem_of_getElem? (i := 91) rfl))
theorem mlX5_61 : Cond.methodLink RX5 61 mX8_scan.1 ∈ lw_tbl ∨ ∃ host, Cond.methodLinkNest RX5 61 mX8_scan.1 host ∈ lw_tbl := Or.inl (tb3 (List.mem_of_getElem? (i := 99) rfl))
theorem mlX5_64 : Cond.methodLink RX5 64 mX5_speak.1 ∈ lw_tbl ∨ ∃ host, Cond.methodLinkNest RX5 64 mX5_speak.1 host ∈ lw_tbl := Or.inl (tb3 (List.mem_of_getElem? (i := 161) rfl))
theorem mlX5_68 : Cond.methodLink RX5 68 mX5_readTest.1 ∈ lw_tbl ∨ ∃ host, Cond.methodLinkNest RX5 68 mX5_readTest.1 host ∈ lw_tbl := Or.inl (tb3 (List.mem_of_getElem? (i := 211) rfl))
theorem mlX5_71 : Cond.methodLink RX5 71 mX5_readSum.1 ∈ lw_tbl ∨ ∃ host, Cond.methodLinkNest RX5 71 mX5_readSum.1 host ∈ lw_tbl := Or.inl (tb3 (List.mem_of_getElem? (i := 166) rfl))
theorem mlX5_77 : Cond.methodLink RX5 77 mX8_begin.1 ∈ lw_tbl ∨ ∃ host, Cond.methodLinkNest RX5 77 mX8_begin.1 host ∈ lw_tbl := Or.inl (tb3 (List.mem_of_getElem? (i := 51) rfl))
theorem mlX5_78 : Cond.methodLink RX5 78 mX6_clear.1 ∈ lw_tbl ∨ ∃ host, Cond.methodLinkNest RX5 78 mX6_clear.1 host ∈ lw_tbl := Or.inl (tb3 (List.mem_of_getElem? (i := 165) rfl))
theorem mlX5_89 : Cond.methodLink RX5 89 mX8_isSign.1 ∈ lw_tbl ∨ ∃ host, Cond.methodLinkNest RX5 89 mX8_isSign.1 host ∈ lw_tbl := Or.inl (tb3 (List.mem_of_getElem? (i := 183) rfl))
theorem mlX5_92 : Cond.methodLink RX5 92 mX8_isWord.1 ∈ lw_tbl ∨ ∃ host, Cond.methodLinkNest RX5 92 mX8_isWord.1 host ∈ lw_tbl := Or.inl (tb3 (List.mem_of_getElem? (i := 136) rfl))
theorem mlX5_95 : Cond.methodLink RX5 95 mX5_refuse.1 ∈ lw_tbl ∨ ∃ host, Cond.methodLinkNest RX5 95 mX5_refuse.1 host ∈ lw_tbl := Or.inl (tb3 (List.mem_of_getElem? (i := 87) rfl))
theorem mlX5_99 : Cond.methodLink RX5 99 mX5_readSeats.1 ∈ lw_tbl ∨ ∃ host, Cond.methodLinkNest RX5 99 mX5_readSeats.1 host ∈ lw_tbl := Or.inl (tb3 (List.mem_of_getElem? (i := 95) rfl))
theorem mlX5_102 : Cond.methodLink RX5 102 mX5_readMatter.1 ∈ lw_tbl ∨ ∃ host, Cond.methodLinkNest RX5 102 mX5_readMatter.1 host ∈ lw_tbl := Or.inl (tb3 (List.mem_of_getElem? (i := 115) rfl))
theorem mlX5_105 : Cond.methodLink RX5 105 mX5_readClerk.1 ∈ lw_tbl ∨ ∃ host, Cond.methodLinkNest RX5 105 mX5_readClerk.1 host ∈ lw_tbl := Or.inl (tb3 (List.mem_of_getElem? (i := 128) rfl))
theorem mlX5_108 : Cond.methodLink RX5 108 mX5_readTold.1 ∈ lw_tbl ∨ ∃ host, Cond.methodLinkNest RX5 108 mX5_readTold.1 host ∈ lw_tbl := Or.inl (tb3 (List.mem_of_getElem? (i := 147) rfl))
theorem mlX5_111 : Cond.methodLink RX5 111 mX5_speakLeaks.1 ∈ lw_tbl ∨ ∃ host, Cond.methodLinkNest RX5 111 mX5_speakLeaks.1 host ∈ lw_tbl := Or.inl (tb3 (List.mem_of_getElem? (i := 157) rfl))
theorem mlX5_114 : Cond.methodLink RX5 114 mX5_speakShakes.1 ∈ lw_tbl ∨ ∃ host, Cond.methodLinkNest RX5 114 mX5_speakShakes.1 host ∈ lw_tbl := Or.inl (tb3 (List.mem_of_getElem? (i := 207) rfl))
theorem mlX5_117 : Cond.methodLink RX5 117 mX5_readHand.1 ∈ lw_tbl ∨ ∃ host, Cond.methodLinkNest RX5 117 mX5_readHand.1 host ∈ lw_tbl := Or.inl (tb3 (List.mem_of_getElem? (i := 223) rfl))
theorem mlX5_120 : Cond.methodLink RX5 120 mX5_readNumber.1 ∈ lw_tbl ∨ ∃ host, Cond.methodLinkNest RX5 120 mX5_readNumber.1 host ∈ lw_tbl := Or.inl (tb3 (List.mem_of_getElem? (i := 100) rfl))
theorem mlX5_130 : Cond.methodLink RX5 130 mX5_giveName.1 ∈ lw_tbl ∨ ∃ host, Cond.methodLinkNest RX5 130 mX5_giveName.1 host ∈ lw_tbl := Or.inl (tb3 (List.mem_of_getElem? (i := 119) rfl))
theorem mlX5_136 : Cond.methodLink RX5 136 mX5_takeWord.1 ∈ lw_tbl ∨ ∃ host, Cond.methodLinkNest RX5 136 mX5_takeWord.1 host ∈ lw_tbl := Or.inl (tb3 (List.mem_of_getElem? (i := 132) rfl))
theorem mlX5_139 : Cond.methodLink RX5 139 mX2_isTaken.1 ∈ lw_tbl ∨ ∃ host, Cond.methodLinkNest RX5 139 mX2_isTaken.1 host ∈ lw_tbl := Or.inl (tb3 (List.mem_of_getElem? (i := 140) rfl))
theorem mlX5_146 : Cond.methodLink RX5 146 mX10_set.1 ∈ lw_tbl ∨ ∃ host, Cond.methodLinkNest RX5 146 mX10_set.1 host ∈ lw_tbl := Or.inr ⟨"SpongeClerks", tb3 (List.mem_of_getElem? (i := 127) rfl)⟩
theorem mlX5_153 : Cond.methodLink RX5 153 mX5_findName.1 ∈ lw_tbl ∨ ∃ host, Cond.methodLinkNest RX5 153 mX5_findName.1 host ∈ lw_tbl := Or.inl (tb3 (List.mem_of_getElem? (i := 151) rfl))
theorem mlX5_156 : Cond.methodLink RX5 156 mX10_pick.1 ∈ lw_tbl ∨ ∃ host, Cond.methodLinkNest RX5 156 mX10_pick.1 host ∈ lw_tbl := Or.inr ⟨"SpongeClerks", tb3 (List.mem_of_getElem? (i := 155) rfl)⟩
theorem mlX5_166 : Cond.methodLink RX5 166 mX10_add.1 ∈ lw_tbl ∨ ∃ host, Cond.methodLinkNest RX5 166 mX10_add.1 host ∈ lw_tbl := Or.inr ⟨"SpongeClerks", tb3 (List.mem_of_getElem? (i := 156) rfl)⟩
theorem mlX5_185 : Cond.methodLink RX5 185 mX8_length.1 ∈ lw_tbl ∨ ∃ host, Cond.methodLinkNest RX5 185 mX8_length.1 host ∈ lw_tbl := Or.inl (tb3 (List.mem_of_getElem? (i := 108) rfl))
theorem mlX5_189 : Cond.methodLink RX5 189 mX5_isNumber.1 ∈ lw_tbl ∨ ∃ host, Cond.methodLinkNest RX5 189 mX5_isNumber.1 host ∈ lw_tbl := Or.inl (tb3 (List.mem_of_getElem? (i := 104) rfl))
theorem mlX5_195 : Cond.methodLink RX5 195 mX10_within.1 ∈ lw_tbl ∨ ∃ host, Cond.methodLinkNest RX5 195 mX10_within.1 host ∈ lw_tbl := Or.inr ⟨"SpongeClerks", tb3 (List.mem_of_getElem? (i := 112) rfl)⟩
theorem mlX5_199 : Cond.methodLink RX5 199 mX5_isName.1 ∈ lw_tbl ∨ ∃ host, Cond.methodLinkNest RX5 199 mX5_isName.1 host ∈ lw_tbl := Or.inl (tb3 (List.mem_of_getElem? (i := 123) rfl))
theorem mlX5_205 : Cond.methodLink RX5 205 mX5_readBoth.1 ∈ lw_tbl ∨ ∃ host, Cond.methodLinkNest RX5 205 mX5_readBoth.1 host ∈ lw_tbl := Or.inl (tb3 (List.mem_of_getElem? (i := 215) rfl))
theorem mlX5_208 : Cond.methodLink RX5 208 mX6_put.1 ∈ lw_tbl ∨ ∃ host, Cond.methodLinkNest RX5 208 mX6_put.1 host ∈ lw_tbl := Or.inl (tb3 (List.mem_of_getElem? (i := 182) rfl))
theorem mlX5_212 : Cond.methodLink RX5 212 mX5_readFact.1 ∈ lw_tbl ∨ ∃ host, Cond.methodLinkNest RX5 212 mX5_readFact.1 host ∈ lw_tbl := Or.inl (tb3 (List.mem_of_getElem? (i := 219) rfl))
theorem mlX5_215 : Cond.methodLink RX5 215 mX5_takeOpening.1 ∈ lw_tbl ∨ ∃ host, Cond.methodLinkNest RX5 215 mX5_takeOpening.1 host ∈ lw_tbl := Or.inl (tb3 (List.mem_of_getElem? (i := 187) rfl))
theorem mlX5_218 : Cond.methodLink RX5 218 mX5_readProduct.1 ∈ lw_tbl ∨ ∃ host, Cond.methodLinkNest RX5 218 mX5_readProduct.1 host ∈ lw_tbl := Or.inl (tb3 (List.mem_of_getElem? (i := 170) rfl))
theorem mlX5_221 : Cond.methodLink RX5 221 mX5_readPart.1 ∈ lw_tbl ∨ ∃ host, Cond.methodLinkNest RX5 221 mX5_readPart.1 host ∈ lw_tbl := Or.inl (tb3 (List.mem_of_getElem? (i := 174) rfl))
theorem mlX5_224 : Cond.methodLink RX5 224 mX5_readLiteral.1 ∈ lw_tbl ∨ ∃ host, Cond.methodLinkNest RX5 224 mX5_readLiteral.1 host ∈ lw_tbl := Or.inl (tb3 (List.mem_of_getElem? (i := 178) rfl))
theorem mlX5_227 : Cond.methodLink RX5 227 mX5_readPair.1 ∈ lw_tbl ∨ ∃ host, Cond.methodLinkNest RX5 227 mX5_readPair.1 host ∈ lw_tbl := Or.inl (tb3 (List.mem_of_getElem? (i := 195) rfl))
theorem mlX5_230 : Cond.methodLink RX5 230 mX5_readOfPart.1 ∈ lw_tbl ∨ ∃ host, Cond.methodLinkNest RX5 230 mX5_readOfPart.1 host ∈ lw_tbl := Or.inl (tb3 (List.mem_of_getElem? (i := 199) rfl))
theorem mlX5_233 : Cond.methodLink RX5 233 mX5_isSpoken.1 ∈ lw_tbl ∨ ∃ host, Cond.methodLinkNest RX5 233 mX5_isSpoken.1 host ∈ lw_tbl := Or.inl (tb3 (List.mem_of_getElem? (i := 203) rfl))
theorem mlX6_9 : Cond.methodLink RX6 9 mJ9_max_7cf53.1 ∈ lw_tbl ∨ ∃ host, Cond.methodLinkNest RX6 9 mJ9_max_7cf53.1 host ∈ lw_tbl := Or.inl (tb1 (List.mem_of_getElem? (i := 34) rfl))
theorem mlX6_25 : Cond.methodLink RX6 25 mJ9_min_7cf53.1 ∈ lw_tbl ∨ ∃ host, Cond.methodLinkNest RX6 25 mJ9_min_7cf53.1 host ∈ lw_tbl := Or.inl (tb4 (List.mem_of_getElem? (i := 5) rfl))
theorem mlX6_28 : Cond.methodLink RX6 28 mX6_at.1 ∈ lw_tbl ∨ ∃ host, Cond.methodLinkNest RX6 28 mX6_at.1 host ∈ lw_tbl := Or.inl (tb4 (List.mem_of_getElem? (i := 6) rfl))
theorem mlX6_32 : Cond.methodLink RX6 32 mX10_set.1 ∈ lw_tbl ∨ ∃ host, Cond.methodLinkNest RX6 32 mX10_set.1 host ∈ lw_tbl := Or.inr ⟨"SpongeClerks", tb4 (List.mem_of_getElem? (i := 7) rfl)⟩
theorem mlX7_30 : Cond.methodLink RX7 30 mX10_fill.1 ∈ lw_tbl ∨ ∃ host, Cond.methodLinkNest RX7 30 mX10_fill.1 host ∈ lw_tbl := Or.inr ⟨"SpongeClerks", tb1 (List.mem_of_getElem? (i := 154) rfl)⟩
theorem mlX7_43 : Cond.methodLink RX7 43 mX10_copy.1 ∈ lw_tbl ∨ ∃ host, Cond.methodLinkNest RX7 43 mX10_copy.1 host ∈ lw_tbl := Or.inr ⟨"SpongeClerks", tb4 (List.mem_of_getElem? (i := 16) rfl)⟩
theorem mlX7_50 : Cond.methodLink RX7 50 mX7_seatAll.1 ∈ lw_tbl ∨ ∃ host, Cond.methodLinkNest RX7 50 mX7_seatAll.1 host ∈ lw_tbl := Or.inl (tb4 (List.mem_of_getElem? (i := 17) rfl))
theorem mlX7_60 : Cond.methodLink RX7 60 mX7_forgetKept.1 ∈ lw_tbl ∨ ∃ host, Cond.methodLinkNest RX7 60 mX7_forgetKept.1 host ∈ lw_tbl := Or.inl (tb4 (List.mem_of_getElem? (i := 23) rfl))
theorem mlX7_67 : Cond.methodLink RX7 67 mX10_pick.1 ∈ lw_tbl ∨ ∃ host, Cond.methodLinkNest RX7 67 mX10_pick.1 host ∈ lw_tbl := Or.inr ⟨"SpongeClerks", tb4 (List.mem_of_getElem? (i := 21) rfl)⟩
theorem mlX7_71 : Cond.methodLink RX7 71 mX10_set.1 ∈ lw_tbl ∨ ∃ host, Cond.methodLinkNest RX7 71 mX10_set.1 host ∈ lw_tbl := Or.inr ⟨"SpongeClerks", tb4 (List.mem_of_getElem? (i := 22) rfl)⟩
theorem mlX7_78 : Cond.methodLink RX7 78 mX7_copyRoom.1 ∈ lw_tbl ∨ ∃ host, Cond.methodLinkNest RX7 78 mX7_copyRoom.1 host ∈ lw_tbl := Or.inl (tb5 (List.mem_of_getElem? (i := 151) rfl))
theorem mlX7_88 : Cond.methodLink RX7 88 mX10_add.1 ∈ lw_tbl ∨ ∃ host, Cond.methodLinkNest RX7 88 mX10_add.1 host ∈ lw_tbl := Or.inr ⟨"SpongeClerks", tb4 (List.mem_of_getElem? (i := 220) rfl)⟩
theorem mlX7_91 : Cond.methodLink RX7 91 mX7_poolOf.1 ∈ lw_tbl ∨ ∃ host, Cond.methodLinkNest RX7 91 mX7_poolOf.1 host ∈ lw_tbl := Or.inl (tb4 (List.mem_of_getElem? (i := 46) rfl))
theorem mlX7_95 : Cond.methodLink RX7 95 mJ9_min_7cf53.1 ∈ lw_tbl ∨ ∃ host, Cond.methodLinkNest RX7 95 mJ9_min_7cf53.1 host ∈ lw_tbl := Or.inl (tb5 (List.mem_of_getElem? (i := 40) rfl))
theorem mlX7_100 : Cond.methodLink RX7 100 mX7_dropsOf.1 ∈ lw_tbl ∨ ∃ host, Cond.methodLinkNest RX7 100 mX7_dropsOf.1 host ∈ lw_tbl := Or.inl (tb4 (List.mem_of_getElem? (i := 92) rfl))
theorem mlX7_103 : Cond.methodLink RX7 103 mX7_addToPool.1 ∈ lw_tbl ∨ ∃ host, Cond.methodLinkNest RX7 103 mX7_addToPool.1 host ∈ lw_tbl := Or.inl (tb5 (List.mem_of_getElem? (i := 36) rfl))
theorem mlX7_107 : Cond.methodLink RX7 107 mX7_gain.1 ∈ lw_tbl ∨ ∃ host, Cond.methodLinkNest RX7 107 mX7_gain.1 host ∈ lw_tbl := Or.inl (tb5 (List.mem_of_getElem? (i := 41) rfl))
theorem mlX7_110 : Cond.methodLink RX7 110 mX7_sitterAt.1 ∈ lw_tbl ∨ ∃ host, Cond.methodLinkNest RX7 110 mX7_sitterAt.1 host ∈ lw_tbl := Or.inl (tb5 (List.mem_of_getElem? (i := 10) rfl))
theorem mlX7_122 : Cond.methodLink RX7 122 mX6_checkOf.1 ∈ lw_tbl ∨ ∃ host, Cond.methodLinkNest RX7 122 mX6_checkOf.1 host ∈ lw_tbl := Or.inl (tb6 (List.mem_of_getElem? (i := 34) rfl))
theorem mlX7_125 : Cond.methodLink RX7 125 mX6_at.1 ∈ lw_tbl ∨ ∃ host, Cond.methodLinkNest RX7 125 mX6_at.1 host ∈ lw_tbl := Or.inl (tb6 (List.mem_of_getElem? (i := 35) rfl))
theorem mlX7_128 : Cond.methodLink RX7 128 mX6_pairAt.1 ∈ lw_tbl ∨ ∃ host, Cond.methodLinkNest RX7 128 mX6_pairAt.1 host ∈ lw_tbl := Or.inl (tb6 (List.mem_of_getElem? (i := 36) rfl))
theorem mlX7_131 : Cond.methodLink RX7 131 mX7_readClerk.1 ∈ lw_tbl ∨ ∃ host, Cond.methodLinkNest RX7 131 mX7_readClerk.1 host ∈ lw_tbl := Or.inl (tb6 (List.mem_of_getElem? (i := 40) rfl))
theorem mlX7_135 : Cond.methodLink RX7 135 mX7_readPools.1 ∈ lw_tbl ∨ ∃ host, Cond.methodLinkNest RX7 135 mX7_readPools.1 host ∈ lw_tbl := Or.inl (tb6 (List.mem_of_getElem? (i := 45) rfl))
theorem mlX7_139 : Cond.methodLink RX7 139 mX2_isSeat.1 ∈ lw_tbl ∨ ∃ host, Cond.methodLinkNest RX7 139 mX2_isSeat.1 host ∈ lw_tbl := Or.inl (tb6 (List.mem_of_getElem? (i := 44) rfl))
theorem mlX8_21 : Cond.methodLink RX8 21 mJ0_length_8abf5.1 ∈ lw_tbl ∨ ∃ host, Cond.methodLinkNest RX8 21 mJ0_length_8abf5.1 host ∈ lw_tbl := Or.inl (tb1 (List.mem_of_getElem? (i := 238) rfl))
theorem mlX8_27 : Cond.methodLink RX8 27 mJ0_charAt_5068e.1 ∈ lw_tbl ∨ ∃ host, Cond.methodLinkNest RX8 27 mJ0_charAt_5068e.1 host ∈ lw_tbl := Or.inl (tb2 (List.mem_of_getElem? (i := 8) rfl))
theorem mlX8_31 : Cond.methodLink RX8 31 mX10_set.1 ∈ lw_tbl ∨ ∃ host, Cond.methodLinkNest RX8 31 mX10_set.1 host ∈ lw_tbl := Or.inr ⟨"SpongeClerks", tb2 (List.mem_of_getElem? (i := 46) rfl)⟩
theorem mlX8_42 : Cond.methodLink RX8 42 mX8_scan.1 ∈ lw_tbl ∨ ∃ host, Cond.methodLinkNest RX8 42 mX8_scan.1 host ∈ lw_tbl := Or.inl (tb3 (List.mem_of_getElem? (i := 55) rfl))
theorem mlX8_50 : Cond.methodLink RX8 50 mX6_at.1 ∈ lw_tbl ∨ ∃ host, Cond.methodLinkNest RX8 50 mX6_at.1 host ∈ lw_tbl := Or.inl (tb3 (List.mem_of_getElem? (i := 59) rfl))
theorem mlX8_54 : Cond.methodLink RX8 54 mX8_isBlank.1 ∈ lw_tbl ∨ ∃ host, Cond.methodLinkNest RX8 54 mX8_isBlank.1 host ∈ lw_tbl := Or.inl (tb3 (List.mem_of_getElem? (i := 63) rfl))
theorem mlX8_61 : Cond.methodLink RX8 61 mX8_kindOf.1 ∈ lw_tbl ∨ ∃ host, Cond.methodLinkNest RX8 61 mX8_kindOf.1 host ∈ lw_tbl := Or.inl (tb3 (List.mem_of_getElem? (i := 66) rfl))
theorem mlX8_67 : Cond.methodLink RX8 67 mX8_findWord.1 ∈ lw_tbl ∨ ∃ host, Cond.methodLinkNest RX8 67 mX8_findWord.1 host ∈ lw_tbl := Or.inl (tb3 (List.mem_of_getElem? (i := 69) rfl))
theorem mlX9_28 : Cond.methodLink RX9 28 mX10_pick.1 ∈ lw_tbl ∨ ∃ host, Cond.methodLinkNest RX9 28 mX10_pick.1 host ∈ lw_tbl := Or.inr ⟨"SpongeClerks", tb4 (List.mem_of_getElem? (i := 58) rfl)⟩
theorem mlX9_41 : Cond.methodLink RX9 41 mX9_space.1 ∈ lw_tbl ∨ ∃ host, Cond.methodLinkNest RX9 41 mX9_space.1 host ∈ lw_tbl := Or.inl (tb4 (List.mem_of_getElem? (i := 54) rfl))
theorem mlX9_45 : Cond.methodLink RX9 45 mX7_dropsOf.1 ∈ lw_tbl ∨ ∃ host, Cond.methodLinkNest RX9 45 mX7_dropsOf.1 host ∈ lw_tbl := Or.inl (tb4 (List.mem_of_getElem? (i := 137) rfl))
theorem mlX9_49 : Cond.methodLink RX9 49 mJ9_min_7cf53.1 ∈ lw_tbl ∨ ∃ host, Cond.methodLinkNest RX9 49 mJ9_min_7cf53.1 host ∈ lw_tbl := Or.inl (tb4 (List.mem_of_getElem? (i := 138) rfl))
theorem mlX9_58 : Cond.methodLink RX9 58 mX1_worth.1 ∈ lw_tbl ∨ ∃ host, Cond.methodLinkNest RX9 58 mX1_worth.1 host ∈ lw_tbl := Or.inl (tb4 (List.mem_of_getElem? (i := 139) rfl))
theorem mlX9_64 : Cond.methodLink RX9 64 mJ9_max_7cf53.1 ∈ lw_tbl ∨ ∃ host, Cond.methodLinkNest RX9 64 mJ9_max_7cf53.1 host ∈ lw_tbl := Or.inl (tb4 (List.mem_of_getElem? (i := 180) rfl))
theorem mlX9_80 : Cond.methodLink RX9 80 mX10_copy.1 ∈ lw_tbl ∨ ∃ host, Cond.methodLinkNest RX9 80 mX10_copy.1 host ∈ lw_tbl := Or.inr ⟨"SpongeClerks", tb4 (List.mem_of_getElem? (i := 209) rfl)⟩
theorem mlX9_87 : Cond.methodLink RX9 87 mX7_sitterAt.1 ∈ lw_tbl ∨ ∃ host, Cond.methodLinkNest RX9 87 mX7_sitterAt.1 host ∈ lw_tbl := Or.inl (tb4 (List.mem_of_getElem? (i := 210) rfl))
theorem mlX9_94 : Cond.methodLink RX9 94 mX9_flow.1 ∈ lw_tbl ∨ ∃ host, Cond.methodLinkNest RX9 94 mX9_flow.1 host ∈ lw_tbl := Or.inl (tb4 (List.mem_of_getElem? (i := 211) rfl))
theorem mlX9_98 : Cond.methodLink RX9 98 mX9_hand.1 ∈ lw_tbl ∨ ∃ host, Cond.methodLinkNest RX9 98 mX9_hand.1 host ∈ lw_tbl := Or.inl (tb4 (List.mem_of_getElem? (i := 212) rfl))
theorem mlX9_105 : Cond.methodLink RX9 105 mX9_isAsAhead.1 ∈ lw_tbl ∨ ∃ host, Cond.methodLinkNest RX9 105 mX9_isAsAhead.1 host ∈ lw_tbl := Or.inl (tb4 (List.mem_of_getElem? (i := 221) rfl))
theorem mlX9_109 : Cond.methodLink RX9 109 mX7_gain.1 ∈ lw_tbl ∨ ∃ host, Cond.methodLinkNest RX9 109 mX7_gain.1 host ∈ lw_tbl := Or.inl (tb4 (List.mem_of_getElem? (i := 216) rfl))
theorem mlX9_116 : Cond.methodLink RX9 116 mX7_poolOf.1 ∈ lw_tbl ∨ ∃ host, Cond.methodLinkNest RX9 116 mX7_poolOf.1 host ∈ lw_tbl := Or.inl (tb5 (List.mem_of_getElem? (i := 103) rfl))
theorem mlX9_119 : Cond.methodLink RX9 119 mX7_addToPool.1 ∈ lw_tbl ∨ ∃ host, Cond.methodLinkNest RX9 119 mX7_addToPool.1 host ∈ lw_tbl := Or.inl (tb5 (List.mem_of_getElem? (i := 109) rfl))
theorem mlL_9 : Cond.methodLink RL 9 mX10_init.1 ∈ lw_tbl ∨ ∃ host, Cond.methodLinkNest RL 9 mX10_init.1 host ∈ lw_tbl := Or.inl (tb1 (List.mem_of_getElem? (i := 22) rfl))
theorem mlL_12 : Cond.methodLink RL 12 mX11_init.1 ∈ lw_tbl ∨ ∃ host, Cond.methodLinkNest RL 12 mX11_init.1 host ∈ lw_tbl := Or.inl (tb6 (List.mem_of_getElem? (i := 56) rfl))
theorem mlL_13 : Cond.methodLink RL 13 mX10_feed.1 ∈ lw_tbl ∨ ∃ host, Cond.methodLinkNest RL 13 mX10_feed.1 host ∈ lw_tbl := Or.inl (tb3 (List.mem_of_getElem? (i := 12) rfl))
theorem mlL_17 : Cond.methodLink RL 17 mX11_feed.1 ∈ lw_tbl ∨ ∃ host, Cond.methodLinkNest RL 17 mX11_feed.1 host ∈ lw_tbl := Or.inl (tb7 (List.mem_of_getElem? (i := 120) rfl))
theorem mlL_18 : Cond.methodLink RL 18 mX10_end.1 ∈ lw_tbl ∨ ∃ host, Cond.methodLinkNest RL 18 mX10_end.1 host ∈ lw_tbl := Or.inl (tb3 (List.mem_of_getElem? (i := 31) rfl))
theorem mlL_22 : Cond.methodLink RL 22 mX11_end.1 ∈ lw_tbl ∨ ∃ host, Cond.methodLinkNest RL 22 mX11_end.1 host ∈ lw_tbl := Or.inl (tb7 (List.mem_of_getElem? (i := 124) rfl))
theorem mlL_23 : Cond.methodLink RL 23 mX10_registry.1 ∈ lw_tbl ∨ ∃ host, Cond.methodLinkNest RL 23 mX10_registry.1 host ∈ lw_tbl := Or.inl (tb3 (List.mem_of_getElem? (i := 39) rfl))
theorem mlL_27 : Cond.methodLink RL 27 mX11_registry.1 ∈ lw_tbl ∨ ∃ host, Cond.methodLinkNest RL 27 mX11_registry.1 host ∈ lw_tbl := Or.inl (tb7 (List.mem_of_getElem? (i := 128) rfl))
theorem mlL_28 : Cond.methodLink RL 28 mX10_fault.1 ∈ lw_tbl ∨ ∃ host, Cond.methodLinkNest RL 28 mX10_fault.1 host ∈ lw_tbl := Or.inl (tb4 (List.mem_of_getElem? (i := 31) rfl))
theorem mlL_32 : Cond.methodLink RL 32 mX11_fault.1 ∈ lw_tbl ∨ ∃ host, Cond.methodLinkNest RL 32 mX11_fault.1 host ∈ lw_tbl := Or.inl (tb8 (List.mem_of_getElem? (i := 62) rfl))
theorem mlL_33 : Cond.methodLink RL 33 mX10_has.1 ∈ lw_tbl ∨ ∃ host, Cond.methodLinkNest RL 33 mX10_has.1 host ∈ lw_tbl := Or.inl (tb4 (List.mem_of_getElem? (i := 35) rfl))
theorem mlL_36 : Cond.methodLink RL 36 mX11_has.1 ∈ lw_tbl ∨ ∃ host, Cond.methodLinkNest RL 36 mX11_has.1 host ∈ lw_tbl := Or.inl (tb8 (List.mem_of_getElem? (i := 66) rfl))
theorem mlL_37 : Cond.methodLink RL 37 mX10_letter.1 ∈ lw_tbl ∨ ∃ host, Cond.methodLinkNest RL 37 mX10_letter.1 host ∈ lw_tbl := Or.inl (tb4 (List.mem_of_getElem? (i := 59) rfl))
theorem mlL_41 : Cond.methodLink RL 41 mX11_letter.1 ∈ lw_tbl ∨ ∃ host, Cond.methodLinkNest RL 41 mX11_letter.1 host ∈ lw_tbl := Or.inl (tb8 (List.mem_of_getElem? (i := 110) rfl))
theorem mlL_42 : Cond.methodLink RL 42 mX10_seat.1 ∈ lw_tbl ∨ ∃ host, Cond.methodLinkNest RL 42 mX10_seat.1 host ∈ lw_tbl := Or.inl (tb4 (List.mem_of_getElem? (i := 76) rfl))
theorem mlL_45 : Cond.methodLink RL 45 mX11_seat.1 ∈ lw_tbl ∨ ∃ host, Cond.methodLinkNest RL 45 mX11_seat.1 host ∈ lw_tbl := Or.inl (tb8 (List.mem_of_getElem? (i := 115) rfl))
theorem mlL_46 : Cond.methodLink RL 46 mX10_clerk.1 ∈ lw_tbl ∨ ∃ host, Cond.methodLinkNest RL 46 mX10_clerk.1 host ∈ lw_tbl := Or.inl (tb4 (List.mem_of_getElem? (i := 84) rfl))
theorem mlL_50 : Cond.methodLink RL 50 mX11_clerk.1 ∈ lw_tbl ∨ ∃ host, Cond.methodLinkNest RL 50 mX11_clerk.1 host ∈ lw_tbl := Or.inl (tb8 (List.mem_of_getElem? (i := 127) rfl))
theorem mlL_51 : Cond.methodLink RL 51 mX10_drops.1 ∈ lw_tbl ∨ ∃ host, Cond.methodLinkNest RL 51 mX10_drops.1 host ∈ lw_tbl := Or.inl (tb4 (List.mem_of_getElem? (i := 105) rfl))
theorem mlL_54 : Cond.methodLink RL 54 mX11_drops.1 ∈ lw_tbl ∨ ∃ host, Cond.methodLinkNest RL 54 mX11_drops.1 host ∈ lw_tbl := Or.inl (tb8 (List.mem_of_getElem? (i := 143) rfl))
theorem mlL_55 : Cond.methodLink RL 55 mX10_matter.1 ∈ lw_tbl ∨ ∃ host, Cond.methodLinkNest RL 55 mX10_matter.1 host ∈ lw_tbl := Or.inl (tb4 (List.mem_of_getElem? (i := 116) rfl))
theorem mlL_58 : Cond.methodLink RL 58 mX11_matter.1 ∈ lw_tbl ∨ ∃ host, Cond.methodLinkNest RL 58 mX11_matter.1 host ∈ lw_tbl := Or.inl (tb8 (List.mem_of_getElem? (i := 155) rfl))
theorem mlL_59 : Cond.methodLink RL 59 mX10_leak.1 ∈ lw_tbl ∨ ∃ host, Cond.methodLinkNest RL 59 mX10_leak.1 host ∈ lw_tbl := Or.inl (tb4 (List.mem_of_getElem? (i := 129) rfl))
theorem mlL_62 : Cond.methodLink RL 62 mX11_leak.1 ∈ lw_tbl ∨ ∃ host, Cond.methodLinkNest RL 62 mX11_leak.1 host ∈ lw_tbl := Or.inl (tb8 (List.mem_of_getElem? (i := 168) rfl))
theorem mlL_63 : Cond.methodLink RL 63 mX10_kept.1 ∈ lw_tbl ∨ ∃ host, Cond.methodLinkNest RL 63 mX10_kept.1 host ∈ lw_tbl := Or.inl (tb4 (List.mem_of_getElem? (i := 181) rfl))
theorem mlL_66 : Cond.methodLink RL 66 mX11_kept.1 ∈ lw_tbl ∨ ∃ host, Cond.methodLinkNest RL 66 mX11_kept.1 host ∈ lw_tbl := Or.inl (tb8 (List.mem_of_getElem? (i := 204) rfl))
theorem mlL_67 : Cond.methodLink RL 67 mX10_later.1 ∈ lw_tbl ∨ ∃ host, Cond.methodLinkNest RL 67 mX10_later.1 host ∈ lw_tbl := Or.inl (tb4 (List.mem_of_getElem? (i := 189) rfl))
theorem mlL_70 : Cond.methodLink RL 70 mX11_later.1 ∈ lw_tbl ∨ ∃ host, Cond.methodLinkNest RL 70 mX11_later.1 host ∈ lw_tbl := Or.inl (tb8 (List.mem_of_getElem? (i := 209) rfl))
theorem mlL_71 : Cond.methodLink RL 71 mX10_knows.1 ∈ lw_tbl ∨ ∃ host, Cond.methodLinkNest RL 71 mX10_knows.1 host ∈ lw_tbl := Or.inl (tb4 (List.mem_of_getElem? (i := 225) rfl))
theorem mlL_74 : Cond.methodLink RL 74 mX11_knows.1 ∈ lw_tbl ∨ ∃ host, Cond.methodLinkNest RL 74 mX11_knows.1 host ∈ lw_tbl := Or.inl (tb9 (List.mem_of_getElem? (i := 5) rfl))
theorem mlL_75 : Cond.methodLink RL 75 mX10_hears.1 ∈ lw_tbl ∨ ∃ host, Cond.methodLinkNest RL 75 mX10_hears.1 host ∈ lw_tbl := Or.inl (tb4 (List.mem_of_getElem? (i := 229) rfl))
theorem mlL_78 : Cond.methodLink RL 78 mX11_hears.1 ∈ lw_tbl ∨ ∃ host, Cond.methodLinkNest RL 78 mX11_hears.1 host ∈ lw_tbl := Or.inl (tb9 (List.mem_of_getElem? (i := 9) rfl))
theorem mlL_79 : Cond.methodLink RL 79 mX10_discreet.1 ∈ lw_tbl ∨ ∃ host, Cond.methodLinkNest RL 79 mX10_discreet.1 host ∈ lw_tbl := Or.inl (tb4 (List.mem_of_getElem? (i := 233) rfl))
theorem mlL_82 : Cond.methodLink RL 82 mX11_discreet.1 ∈ lw_tbl ∨ ∃ host, Cond.methodLinkNest RL 82 mX11_discreet.1 host ∈ lw_tbl := Or.inl (tb9 (List.mem_of_getElem? (i := 13) rfl))
theorem mlL_83 : Cond.methodLink RL 83 mX10_pressed.1 ∈ lw_tbl ∨ ∃ host, Cond.methodLinkNest RL 83 mX10_pressed.1 host ∈ lw_tbl := Or.inl (tb5 (List.mem_of_getElem? (i := 20) rfl))
theorem mlL_86 : Cond.methodLink RL 86 mX11_pressed.1 ∈ lw_tbl ∨ ∃ host, Cond.methodLinkNest RL 86 mX11_pressed.1 host ∈ lw_tbl := Or.inl (tb9 (List.mem_of_getElem? (i := 28) rfl))
theorem mlL_87 : Cond.methodLink RL 87 mX10_mops.1 ∈ lw_tbl ∨ ∃ host, Cond.methodLinkNest RL 87 mX10_mops.1 host ∈ lw_tbl := Or.inl (tb5 (List.mem_of_getElem? (i := 43) rfl))
theorem mlL_90 : Cond.methodLink RL 90 mX11_mops.1 ∈ lw_tbl ∨ ∃ host, Cond.methodLinkNest RL 90 mX11_mops.1 host ∈ lw_tbl := Or.inl (tb9 (List.mem_of_getElem? (i := 36) rfl))
theorem mlL_91 : Cond.methodLink RL 91 mX10_desks.1 ∈ lw_tbl ∨ ∃ host, Cond.methodLinkNest RL 91 mX10_desks.1 host ∈ lw_tbl := Or.inl (tb5 (List.mem_of_getElem? (i := 57) rfl))
theorem mlL_94 : Cond.methodLink RL 94 mX11_desks.1 ∈ lw_tbl ∨ ∃ host, Cond.methodLinkNest RL 94 mX11_desks.1 host ∈ lw_tbl := Or.inl (tb9 (List.mem_of_getElem? (i := 40) rfl))
theorem mlL_95 : Cond.methodLink RL 95 mX10_see.1 ∈ lw_tbl ∨ ∃ host, Cond.methodLinkNest RL 95 mX10_see.1 host ∈ lw_tbl := Or.inl (tb5 (List.mem_of_getElem? (i := 71) rfl))
theorem mlL_98 : Cond.methodLink RL 98 mX11_see.1 ∈ lw_tbl ∨ ∃ host, Cond.methodLinkNest RL 98 mX11_see.1 host ∈ lw_tbl := Or.inl (tb9 (List.mem_of_getElem? (i := 52) rfl))
theorem mlL_99 : Cond.methodLink RL 99 mX10_sources.1 ∈ lw_tbl ∨ ∃ host, Cond.methodLinkNest RL 99 mX10_sources.1 host ∈ lw_tbl := Or.inl (tb5 (List.mem_of_getElem? (i := 82) rfl))
theorem mlL_102 : Cond.methodLink RL 102 mX11_sources.1 ∈ lw_tbl ∨ ∃ host, Cond.methodLinkNest RL 102 mX11_sources.1 host ∈ lw_tbl := Or.inl (tb9 (List.mem_of_getElem? (i := 60) rfl))
theorem mlL_103 : Cond.methodLink RL 103 mX10_tells.1 ∈ lw_tbl ∨ ∃ host, Cond.methodLinkNest RL 103 mX10_tells.1 host ∈ lw_tbl := Or.inl (tb5 (List.mem_of_getElem? (i := 116) rfl))
theorem mlL_106 : Cond.methodLink RL 106 mX11_tells.1 ∈ lw_tbl ∨ ∃ host, Cond.methodLinkNest RL 106 mX11_tells.1 host ∈ lw_tbl := Or.inl (tb9 (List.mem_of_getElem? (i := 81) rfl))
theorem mlL_107 : Cond.methodLink RL 107 mX10_tell.1 ∈ lw_tbl ∨ ∃ host, Cond.methodLinkNest RL 107 mX10_tell.1 host ∈ lw_tbl := Or.inl (tb5 (List.mem_of_getElem? (i := 138) rfl))
theorem mlL_110 : Cond.methodLink RL 110 mX11_tell.1 ∈ lw_tbl ∨ ∃ host, Cond.methodLinkNest RL 110 mX11_tell.1 host ∈ lw_tbl := Or.inl (tb9 (List.mem_of_getElem? (i := 93) rfl))
theorem mlL_111 : Cond.methodLink RL 111 mX10_squeeze.1 ∈ lw_tbl ∨ ∃ host, Cond.methodLinkNest RL 111 mX10_squeeze.1 host ∈ lw_tbl := Or.inl (tb5 (List.mem_of_getElem? (i := 154) rfl))
theorem mlL_114 : Cond.methodLink RL 114 mX11_squeeze.1 ∈ lw_tbl ∨ ∃ host, Cond.methodLinkNest RL 114 mX11_squeeze.1 host ∈ lw_tbl := Or.inl (tb9 (List.mem_of_getElem? (i := 101) rfl))
theorem mlL_115 : Cond.methodLink RL 115 mX10_rinse.1 ∈ lw_tbl ∨ ∃ host, Cond.methodLinkNest RL 115 mX10_rinse.1 host ∈ lw_tbl := Or.inl (tb5 (List.mem_of_getElem? (i := 163) rfl))
theorem mlL_118 : Cond.methodLink RL 118 mX11_rinse.1 ∈ lw_tbl ∨ ∃ host, Cond.methodLinkNest RL 118 mX11_rinse.1 host ∈ lw_tbl := Or.inl (tb9 (List.mem_of_getElem? (i := 109) rfl))
theorem mlL_119 : Cond.methodLink RL 119 mX10_mop.1 ∈ lw_tbl ∨ ∃ host, Cond.methodLinkNest RL 119 mX10_mop.1 host ∈ lw_tbl := Or.inl (tb5 (List.mem_of_getElem? (i := 167) rfl))
theorem mlL_122 : Cond.methodLink RL 122 mX11_mop.1 ∈ lw_tbl ∨ ∃ host, Cond.methodLinkNest RL 122 mX11_mop.1 host ∈ lw_tbl := Or.inl (tb9 (List.mem_of_getElem? (i := 113) rfl))
theorem mlL_123 : Cond.methodLink RL 123 mX10_change.1 ∈ lw_tbl ∨ ∃ host, Cond.methodLinkNest RL 123 mX10_change.1 host ∈ lw_tbl := Or.inl (tb5 (List.mem_of_getElem? (i := 176) rfl))
theorem mlL_127 : Cond.methodLink RL 127 mX11_change.1 ∈ lw_tbl ∨ ∃ host, Cond.methodLinkNest RL 127 mX11_change.1 host ∈ lw_tbl := Or.inl (tb9 (List.mem_of_getElem? (i := 117) rfl))
theorem mlL_128 : Cond.methodLink RL 128 mX10_days.1 ∈ lw_tbl ∨ ∃ host, Cond.methodLinkNest RL 128 mX10_days.1 host ∈ lw_tbl := Or.inl (tb5 (List.mem_of_getElem? (i := 185) rfl))
theorem mlL_131 : Cond.methodLink RL 131 mX11_days.1 ∈ lw_tbl ∨ ∃ host, Cond.methodLinkNest RL 131 mX11_days.1 host ∈ lw_tbl := Or.inl (tb9 (List.mem_of_getElem? (i := 121) rfl))
theorem mlL_132 : Cond.methodLink RL 132 mX10_chance.1 ∈ lw_tbl ∨ ∃ host, Cond.methodLinkNest RL 132 mX10_chance.1 host ∈ lw_tbl := Or.inl (tb5 (List.mem_of_getElem? (i := 197) rfl))
theorem mlL_135 : Cond.methodLink RL 135 mX11_chance.1 ∈ lw_tbl ∨ ∃ host, Cond.methodLinkNest RL 135 mX11_chance.1 host ∈ lw_tbl := Or.inl (tb9 (List.mem_of_getElem? (i := 129) rfl))
theorem mlL_136 : Cond.methodLink RL 136 mX10_undo.1 ∈ lw_tbl ∨ ∃ host, Cond.methodLinkNest RL 136 mX10_undo.1 host ∈ lw_tbl := Or.inl (tb5 (List.mem_of_getElem? (i := 217) rfl))
theorem mlL_140 : Cond.methodLink RL 140 mX11_undo.1 ∈ lw_tbl ∨ ∃ host, Cond.methodLinkNest RL 140 mX11_undo.1 host ∈ lw_tbl := Or.inl (tb9 (List.mem_of_getElem? (i := 89) rfl))
theorem mlL_141 : Cond.methodLink RL 141 mX10_seed.1 ∈ lw_tbl ∨ ∃ host, Cond.methodLinkNest RL 141 mX10_seed.1 host ∈ lw_tbl := Or.inl (tb5 (List.mem_of_getElem? (i := 225) rfl))
theorem mlL_144 : Cond.methodLink RL 144 mX11_seed.1 ∈ lw_tbl ∨ ∃ host, Cond.methodLinkNest RL 144 mX11_seed.1 host ∈ lw_tbl := Or.inl (tb9 (List.mem_of_getElem? (i := 125) rfl))
theorem mlL_145 : Cond.methodLink RL 145 mX10_ask.1 ∈ lw_tbl ∨ ∃ host, Cond.methodLinkNest RL 145 mX10_ask.1 host ∈ lw_tbl := Or.inl (tb5 (List.mem_of_getElem? (i := 229) rfl))
theorem mlL_149 : Cond.methodLink RL 149 mX11_ask.1 ∈ lw_tbl ∨ ∃ host, Cond.methodLinkNest RL 149 mX11_ask.1 host ∈ lw_tbl := Or.inl (tb9 (List.mem_of_getElem? (i := 149) rfl))
theorem mlL_150 : Cond.methodLink RL 150 mX10_image.1 ∈ lw_tbl ∨ ∃ host, Cond.methodLinkNest RL 150 mX10_image.1 host ∈ lw_tbl := Or.inl (tb6 (List.mem_of_getElem? (i := 9) rfl))
theorem mlL_153 : Cond.methodLink RL 153 mX11_image.1 ∈ lw_tbl ∨ ∃ host, Cond.methodLinkNest RL 153 mX11_image.1 host ∈ lw_tbl := Or.inl (tb9 (List.mem_of_getElem? (i := 171) rfl))
theorem mlL_154 : Cond.methodLink RL 154 mX10_octet.1 ∈ lw_tbl ∨ ∃ host, Cond.methodLinkNest RL 154 mX10_octet.1 host ∈ lw_tbl := Or.inl (tb6 (List.mem_of_getElem? (i := 21) rfl))
theorem mlL_157 : Cond.methodLink RL 157 mX11_octet.1 ∈ lw_tbl ∨ ∃ host, Cond.methodLinkNest RL 157 mX11_octet.1 host ∈ lw_tbl := Or.inl (tb9 (List.mem_of_getElem? (i := 186) rfl))
theorem mlL_158 : Cond.methodLink RL 158 mX10_on.1 ∈ lw_tbl ∨ ∃ host, Cond.methodLinkNest RL 158 mX10_on.1 host ∈ lw_tbl := Or.inl (tb6 (List.mem_of_getElem? (i := 26) rfl))
theorem mlL_161 : Cond.methodLink RL 161 mX11_on.1 ∈ lw_tbl ∨ ∃ host, Cond.methodLinkNest RL 161 mX11_on.1 host ∈ lw_tbl := Or.inl (tb9 (List.mem_of_getElem? (i := 190) rfl))
theorem mlL_162 : Cond.methodLink RL 162 mX10_status.1 ∈ lw_tbl ∨ ∃ host, Cond.methodLinkNest RL 162 mX10_status.1 host ∈ lw_tbl := Or.inl (tb6 (List.mem_of_getElem? (i := 50) rfl))
theorem mlL_165 : Cond.methodLink RL 165 mX11_status.1 ∈ lw_tbl ∨ ∃ host, Cond.methodLinkNest RL 165 mX11_status.1 host ∈ lw_tbl := Or.inl (tb9 (List.mem_of_getElem? (i := 206) rfl))
theorem mlX11_239 : Cond.methodLink RX11 239 mX11_look.1 ∈ lw_tbl ∨ ∃ host, Cond.methodLinkNest RX11 239 mX11_look.1 host ∈ lw_tbl := Or.inl (tb7 (List.mem_of_getElem? (i := 148) rfl))
theorem mlX11_243 : Cond.methodLink RX11 243 mX11_isLetter.1 ∈ lw_tbl ∨ ∃ host, Cond.methodLinkNest RX11 243 mX11_isLetter.1 host ∈ lw_tbl := Or.inl (tb7 (List.mem_of_getElem? (i := 152) rfl))
theorem mlX11_250 : Cond.methodLink RX11 250 mX11_isHere.1 ∈ lw_tbl ∨ ∃ host, Cond.methodLinkNest RX11 250 mX11_isHere.1 host ∈ lw_tbl := Or.inl (tb7 (List.mem_of_getElem? (i := 144) rfl))
theorem mlX11_254 : Cond.methodLink RX11 254 mX11_takes.1 ∈ lw_tbl ∨ ∃ host, Cond.methodLinkNest RX11 254 mX11_takes.1 host ∈ lw_tbl := Or.inl (tb7 (List.mem_of_getElem? (i := 140) rfl))
theorem mlX11_257 : Cond.methodLink RX11 257 mX11_fail.1 ∈ lw_tbl ∨ ∃ host, Cond.methodLinkNest RX11 257 mX11_fail.1 host ∈ lw_tbl := Or.inl (tb7 (List.mem_of_getElem? (i := 155) rfl))
theorem mlX11_261 : Cond.methodLink RX11 261 mX11_takesSign.1 ∈ lw_tbl ∨ ∃ host, Cond.methodLinkNest RX11 261 mX11_takesSign.1 host ∈ lw_tbl := Or.inl (tb7 (List.mem_of_getElem? (i := 173) rfl))
theorem mlX11_264 : Cond.methodLink RX11 264 mX11_isDigit.1 ∈ lw_tbl ∨ ∃ host, Cond.methodLinkNest RX11 264 mX11_isDigit.1 host ∈ lw_tbl := Or.inl (tb7 (List.mem_of_getElem? (i := 163) rfl))
theorem mlX11_270 : Cond.methodLink RX11 270 mX11_isIn.1 ∈ lw_tbl ∨ ∃ host, Cond.methodLinkNest RX11 270 mX11_isIn.1 host ∈ lw_tbl := Or.inl (tb7 (List.mem_of_getElem? (i := 166) rfl))
theorem mlX11_274 : Cond.methodLink RX11 274 mX11_isOwnHere.1 ∈ lw_tbl ∨ ∃ host, Cond.methodLinkNest RX11 274 mX11_isOwnHere.1 host ∈ lw_tbl := Or.inl (tb7 (List.mem_of_getElem? (i := 197) rfl))
theorem mlX11_288 : Cond.methodLink RX11 288 mX11_name.1 ∈ lw_tbl ∨ ∃ host, Cond.methodLinkNest RX11 288 mX11_name.1 host ∈ lw_tbl := Or.inl (tb7 (List.mem_of_getElem? (i := 193) rfl))
theorem mlX11_292 : Cond.methodLink RX11 292 mX11_asks.1 ∈ lw_tbl ∨ ∃ host, Cond.methodLinkNest RX11 292 mX11_asks.1 host ∈ lw_tbl := Or.inl (tb7 (List.mem_of_getElem? (i := 136) rfl))
theorem mlX11_296 : Cond.methodLink RX11 296 mX11_number.1 ∈ lw_tbl ∨ ∃ host, Cond.methodLinkNest RX11 296 mX11_number.1 host ∈ lw_tbl := Or.inl (tb7 (List.mem_of_getElem? (i := 159) rfl))
theorem mlX11_300 : Cond.methodLink RX11 300 mX11_asksSign.1 ∈ lw_tbl ∨ ∃ host, Cond.methodLinkNest RX11 300 mX11_asksSign.1 host ∈ lw_tbl := Or.inl (tb7 (List.mem_of_getElem? (i := 169) rfl))
theorem mlX11_304 : Cond.methodLink RX11 304 mX11_isFull.1 ∈ lw_tbl ∨ ∃ host, Cond.methodLinkNest RX11 304 mX11_isFull.1 host ∈ lw_tbl := Or.inl (tb7 (List.mem_of_getElem? (i := 185) rfl))
theorem mlX11_308 : Cond.methodLink RX11 308 mX11_newName.1 ∈ lw_tbl ∨ ∃ host, Cond.methodLinkNest RX11 308 mX11_newName.1 host ∈ lw_tbl := Or.inl (tb7 (List.mem_of_getElem? (i := 189) rfl))
theorem mlX11_311 : Cond.methodLink RX11 311 mX11_named.1 ∈ lw_tbl ∨ ∃ host, Cond.methodLinkNest RX11 311 mX11_named.1 host ∈ lw_tbl := Or.inl (tb7 (List.mem_of_getElem? (i := 211) rfl))
theorem mlX11_327 : Cond.methodLink RX11 327 mX11_qTest.1 ∈ lw_tbl ∨ ∃ host, Cond.methodLinkNest RX11 327 mX11_qTest.1 host ∈ lw_tbl := Or.inl (tb7 (List.mem_of_getElem? (i := 219) rfl))
theorem mlX11_330 : Cond.methodLink RX11 330 mX11_qSums.1 ∈ lw_tbl ∨ ∃ host, Cond.methodLinkNest RX11 330 mX11_qSums.1 host ∈ lw_tbl := Or.inl (tb7 (List.mem_of_getElem? (i := 235) rfl))
theorem mlX11_339 : Cond.methodLink RX11 339 mX11_matterTold.1 ∈ lw_tbl ∨ ∃ host, Cond.methodLinkNest RX11 339 mX11_matterTold.1 host ∈ lw_tbl := Or.inl (tb7 (List.mem_of_getElem? (i := 181) rfl))
theorem mlX11_342 : Cond.methodLink RX11 342 mX11_clerkTold.1 ∈ lw_tbl ∨ ∃ host, Cond.methodLinkNest RX11 342 mX11_clerkTold.1 host ∈ lw_tbl := Or.inl (tb7 (List.mem_of_getElem? (i := 203) rfl))
theorem mlX11_345 : Cond.methodLink RX11 345 mX11_toldTold.1 ∈ lw_tbl ∨ ∃ host, Cond.methodLinkNest RX11 345 mX11_toldTold.1 host ∈ lw_tbl := Or.inl (tb7 (List.mem_of_getElem? (i := 207) rfl))
theorem mlX11_348 : Cond.methodLink RX11 348 mX11_codesTold.1 ∈ lw_tbl ∨ ∃ host, Cond.methodLinkNest RX11 348 mX11_codesTold.1 host ∈ lw_tbl := Or.inl (tb7 (List.mem_of_getElem? (i := 215) rfl))
theorem mlX11_351 : Cond.methodLink RX11 351 mX11_seatsTold.1 ∈ lw_tbl ∨ ∃ host, Cond.methodLinkNest RX11 351 mX11_seatsTold.1 host ∈ lw_tbl := Or.inl (tb7 (List.mem_of_getElem? (i := 132) rfl))
theorem mlX11_354 : Cond.methodLink RX11 354 mX11_statementTold.1 ∈ lw_tbl ∨ ∃ host, Cond.methodLinkNest RX11 354 mX11_statementTold.1 host ∈ lw_tbl := Or.inl (tb7 (List.mem_of_getElem? (i := 177) rfl))
theorem mlX11_360 : Cond.methodLink RX11 360 mX11_stands.1 ∈ lw_tbl ∨ ∃ host, Cond.methodLinkNest RX11 360 mX11_stands.1 host ∈ lw_tbl := Or.inl (tb8 (List.mem_of_getElem? (i := 58) rfl))
theorem mlX11_373 : Cond.methodLink RX11 373 mX11_matterMany.1 ∈ lw_tbl ∨ ∃ host, Cond.methodLinkNest RX11 373 mX11_matterMany.1 host ∈ lw_tbl := Or.inl (tb8 (List.mem_of_getElem? (i := 90) rfl))
theorem mlX11_376 : Cond.methodLink RX11 376 mX11_clerkMany.1 ∈ lw_tbl ∨ ∃ host, Cond.methodLinkNest RX11 376 mX11_clerkMany.1 host ∈ lw_tbl := Or.inl (tb8 (List.mem_of_getElem? (i := 74) rfl))
theorem mlX11_379 : Cond.methodLink RX11 379 mX11_isClerk.1 ∈ lw_tbl ∨ ∃ host, Cond.methodLinkNest RX11 379 mX11_isClerk.1 host ∈ lw_tbl := Or.inl (tb8 (List.mem_of_getElem? (i := 131) rfl))
theorem mlX11_383 : Cond.methodLink RX11 383 mX11_isMatter.1 ∈ lw_tbl ∨ ∃ host, Cond.methodLinkNest RX11 383 mX11_isMatter.1 host ∈ lw_tbl := Or.inl (tb8 (List.mem_of_getElem? (i := 151) rfl))
theorem mlX11_386 : Cond.methodLink RX11 386 mX11_dropsOf.1 ∈ lw_tbl ∨ ∃ host, Cond.methodLinkNest RX11 386 mX11_dropsOf.1 host ∈ lw_tbl := Or.inl (tb8 (List.mem_of_getElem? (i := 82) rfl))
theorem mlX11_389 : Cond.methodLink RX11 389 mX11_roomOf.1 ∈ lw_tbl ∨ ∃ host, Cond.methodLinkNest RX11 389 mX11_roomOf.1 host ∈ lw_tbl := Or.inl (tb8 (List.mem_of_getElem? (i := 106) rfl))
theorem mlX11_392 : Cond.methodLink RX11 392 mX11_fullOf.1 ∈ lw_tbl ∨ ∃ host, Cond.methodLinkNest RX11 392 mX11_fullOf.1 host ∈ lw_tbl := Or.inl (tb8 (List.mem_of_getElem? (i := 78) rfl))
theorem mlX11_395 : Cond.methodLink RX11 395 mX11_seatOf.1 ∈ lw_tbl ∨ ∃ host, Cond.methodLinkNest RX11 395 mX11_seatOf.1 host ∈ lw_tbl := Or.inl (tb8 (List.mem_of_getElem? (i := 123) rfl))
theorem mlX11_398 : Cond.methodLink RX11 398 mX11_floorOf.1 ∈ lw_tbl ∨ ∃ host, Cond.methodLinkNest RX11 398 mX11_floorOf.1 host ∈ lw_tbl := Or.inl (tb8 (List.mem_of_getElem? (i := 94) rfl))
theorem mlX11_404 : Cond.methodLink RX11 404 mX11_qPuts.1 ∈ lw_tbl ∨ ∃ host, Cond.methodLinkNest RX11 404 mX11_qPuts.1 host ∈ lw_tbl := Or.inl (tb8 (List.mem_of_getElem? (i := 180) rfl))
theorem mlX11_408 : Cond.methodLink RX11 408 mX11_qPartOf.1 ∈ lw_tbl ∨ ∃ host, Cond.methodLinkNest RX11 408 mX11_qPartOf.1 host ∈ lw_tbl := Or.inl (tb8 (List.mem_of_getElem? (i := 184) rfl))
theorem mlX11_412 : Cond.methodLink RX11 412 mX11_qJoins.1 ∈ lw_tbl ∨ ∃ host, Cond.methodLinkNest RX11 412 mX11_qJoins.1 host ∈ lw_tbl := Or.inl (tb8 (List.mem_of_getElem? (i := 192) rfl))
theorem mlX11_415 : Cond.methodLink RX11 415 mX11_spaceOf.1 ∈ lw_tbl ∨ ∃ host, Cond.methodLinkNest RX11 415 mX11_spaceOf.1 host ∈ lw_tbl := Or.inl (tb8 (List.mem_of_getElem? (i := 102) rfl))
theorem mlX11_424 : Cond.methodLink RX11 424 mX11_codesTell.1 ∈ lw_tbl ∨ ∃ host, Cond.methodLinkNest RX11 424 mX11_codesTell.1 host ∈ lw_tbl := Or.inl (tb8 (List.mem_of_getElem? (i := 176) rfl))
theorem mlX11_433 : Cond.methodLink RX11 433 mX11_fullMany.1 ∈ lw_tbl ∨ ∃ host, Cond.methodLinkNest RX11 433 mX11_fullMany.1 host ∈ lw_tbl := Or.inl (tb8 (List.mem_of_getElem? (i := 98) rfl))
theorem mlX11_436 : Cond.methodLink RX11 436 mX11_sitterOf.1 ∈ lw_tbl ∨ ∃ host, Cond.methodLinkNest RX11 436 mX11_sitterOf.1 host ∈ lw_tbl := Or.inl (tb8 (List.mem_of_getElem? (i := 119) rfl))
theorem mlX11_439 : Cond.methodLink RX11 439 mX11_leaksFrom.1 ∈ lw_tbl ∨ ∃ host, Cond.methodLinkNest RX11 439 mX11_leaksFrom.1 host ∈ lw_tbl := Or.inl (tb8 (List.mem_of_getElem? (i := 172) rfl))
theorem mlX11_443 : Cond.methodLink RX11 443 mX11_goesOver.1 ∈ lw_tbl ∨ ∃ host, Cond.methodLinkNest RX11 443 mX11_goesOver.1 host ∈ lw_tbl := Or.inl (tb8 (List.mem_of_getElem? (i := 229) rfl))
theorem mlX11_447 : Cond.methodLink RX11 447 mX11_isKept.1 ∈ lw_tbl ∨ ∃ host, Cond.methodLinkNest RX11 447 mX11_isKept.1 host ∈ lw_tbl := Or.inl (tb8 (List.mem_of_getElem? (i := 233) rfl))
theorem mlX11_450 : Cond.methodLink RX11 450 mX11_dayGoes.1 ∈ lw_tbl ∨ ∃ host, Cond.methodLinkNest RX11 450 mX11_dayGoes.1 host ∈ lw_tbl := Or.inl (tb8 (List.mem_of_getElem? (i := 225) rfl))
theorem mlX11_453 : Cond.methodLink RX11 453 mX11_triesAnew.1 ∈ lw_tbl ∨ ∃ host, Cond.methodLinkNest RX11 453 mX11_triesAnew.1 host ∈ lw_tbl := Or.inl (tb9 (List.mem_of_getElem? (i := 1) rfl))
theorem mlX11_456 : Cond.methodLink RX11 456 mX11_dropAll.1 ∈ lw_tbl ∨ ∃ host, Cond.methodLinkNest RX11 456 mX11_dropAll.1 host ∈ lw_tbl := Or.inl (tb8 (List.mem_of_getElem? (i := 70) rfl))
theorem mlX11_459 : Cond.methodLink RX11 459 mX11_floorAll.1 ∈ lw_tbl ∨ ∃ host, Cond.methodLinkNest RX11 459 mX11_floorAll.1 host ∈ lw_tbl := Or.inl (tb8 (List.mem_of_getElem? (i := 86) rfl))
theorem mlX11_464 : Cond.methodLink RX11 464 mX11_mindOf.1 ∈ lw_tbl ∨ ∃ host, Cond.methodLinkNest RX11 464 mX11_mindOf.1 host ∈ lw_tbl := Or.inl (tb8 (List.mem_of_getElem? (i := 135) rfl))
theorem mlX11_467 : Cond.methodLink RX11 467 mX11_powerOf.1 ∈ lw_tbl ∨ ∃ host, Cond.methodLinkNest RX11 467 mX11_powerOf.1 host ∈ lw_tbl := Or.inl (tb8 (List.mem_of_getElem? (i := 139) rfl))
theorem mlX11_470 : Cond.methodLink RX11 470 mX11_areBoth.1 ∈ lw_tbl ∨ ∃ host, Cond.methodLinkNest RX11 470 mX11_areBoth.1 host ∈ lw_tbl := Or.inl (tb8 (List.mem_of_getElem? (i := 147) rfl))
theorem mlX11_474 : Cond.methodLink RX11 474 mX11_inClerks.1 ∈ lw_tbl ∨ ∃ host, Cond.methodLinkNest RX11 474 mX11_inClerks.1 host ∈ lw_tbl := Or.inl (tb8 (List.mem_of_getElem? (i := 159) rfl))
theorem mlX11_479 : Cond.methodLink RX11 479 mX11_knowersOf.1 ∈ lw_tbl ∨ ∃ host, Cond.methodLinkNest RX11 479 mX11_knowersOf.1 host ∈ lw_tbl := Or.inl (tb8 (List.mem_of_getElem? (i := 164) rfl))
theorem mlX11_484 : Cond.methodLink RX11 484 mX11_isAhead.1 ∈ lw_tbl ∨ ∃ host, Cond.methodLinkNest RX11 484 mX11_isAhead.1 host ∈ lw_tbl := Or.inl (tb8 (List.mem_of_getElem? (i := 213) rfl))
theorem mlX11_487 : Cond.methodLink RX11 487 mX11_putsAside.1 ∈ lw_tbl ∨ ∃ host, Cond.methodLinkNest RX11 487 mX11_putsAside.1 host ∈ lw_tbl := Or.inl (tb8 (List.mem_of_getElem? (i := 217) rfl))
theorem mlX11_490 : Cond.methodLink RX11 490 mX11_daysGo.1 ∈ lw_tbl ∨ ∃ host, Cond.methodLinkNest RX11 490 mX11_daysGo.1 host ∈ lw_tbl := Or.inl (tb8 (List.mem_of_getElem? (i := 221) rfl))
theorem mlX11_493 : Cond.methodLink RX11 493 mX11_takesBack.1 ∈ lw_tbl ∨ ∃ host, Cond.methodLinkNest RX11 493 mX11_takesBack.1 host ∈ lw_tbl := Or.inl (tb8 (List.mem_of_getElem? (i := 237) rfl))
theorem mlX11_496 : Cond.methodLink RX11 496 mX11_bits.1 ∈ lw_tbl ∨ ∃ host, Cond.methodLinkNest RX11 496 mX11_bits.1 host ∈ lw_tbl := Or.inl (tb9 (List.mem_of_getElem? (i := 21) rfl))
theorem mlX11_499 : Cond.methodLink RX11 499 mX11_knowMany.1 ∈ lw_tbl ∨ ∃ host, Cond.methodLinkNest RX11 499 mX11_knowMany.1 host ∈ lw_tbl := Or.inl (tb9 (List.mem_of_getElem? (i := 17) rfl))
theorem mlX11_502 : Cond.methodLink RX11 502 mX11_changes.1 ∈ lw_tbl ∨ ∃ host, Cond.methodLinkNest RX11 502 mX11_changes.1 host ∈ lw_tbl := Or.inl (tb9 (List.mem_of_getElem? (i := 24) rfl))
theorem mlX11_505 : Cond.methodLink RX11 505 mX11_isPressed.1 ∈ lw_tbl ∨ ∃ host, Cond.methodLinkNest RX11 505 mX11_isPressed.1 host ∈ lw_tbl := Or.inl (tb9 (List.mem_of_getElem? (i := 32) rfl))
theorem mlX11_509 : Cond.methodLink RX11 509 mX11_canHave.1 ∈ lw_tbl ∨ ∃ host, Cond.methodLinkNest RX11 509 mX11_canHave.1 host ∈ lw_tbl := Or.inl (tb9 (List.mem_of_getElem? (i := 48) rfl))
theorem mlX11_512 : Cond.methodLink RX11 512 mX11_isRow.1 ∈ lw_tbl ∨ ∃ host, Cond.methodLinkNest RX11 512 mX11_isRow.1 host ∈ lw_tbl := Or.inl (tb9 (List.mem_of_getElem? (i := 44) rfl))
theorem mlX11_515 : Cond.methodLink RX11 515 mX11_refuses.1 ∈ lw_tbl ∨ ∃ host, Cond.methodLinkNest RX11 515 mX11_refuses.1 host ∈ lw_tbl := Or.inl (tb9 (List.mem_of_getElem? (i := 56) rfl))
theorem mlX11_518 : Cond.methodLink RX11 518 mX11_spillOf.1 ∈ lw_tbl ∨ ∃ host, Cond.methodLinkNest RX11 518 mX11_spillOf.1 host ∈ lw_tbl := Or.inl (tb9 (List.mem_of_getElem? (i := 69) rfl))
theorem mlX11_524 : Cond.methodLink RX11 524 mX11_isTold.1 ∈ lw_tbl ∨ ∃ host, Cond.methodLinkNest RX11 524 mX11_isTold.1 host ∈ lw_tbl := Or.inl (tb9 (List.mem_of_getElem? (i := 73) rfl))
theorem mlX11_527 : Cond.methodLink RX11 527 mX11_isAsSeen.1 ∈ lw_tbl ∨ ∃ host, Cond.methodLinkNest RX11 527 mX11_isAsSeen.1 host ∈ lw_tbl := Or.inl (tb9 (List.mem_of_getElem? (i := 77) rfl))
theorem mlX11_532 : Cond.methodLink RX11 532 mX11_laysSources.1 ∈ lw_tbl ∨ ∃ host, Cond.methodLinkNest RX11 532 mX11_laysSources.1 host ∈ lw_tbl := Or.inl (tb9 (List.mem_of_getElem? (i := 65) rfl))
theorem mlX11_535 : Cond.methodLink RX11 535 mX11_mostAlike.1 ∈ lw_tbl ∨ ∃ host, Cond.methodLinkNest RX11 535 mX11_mostAlike.1 host ∈ lw_tbl := Or.inl (tb9 (List.mem_of_getElem? (i := 85) rfl))
theorem mlX11_541 : Cond.methodLink RX11 541 mX11_keeps.1 ∈ lw_tbl ∨ ∃ host, Cond.methodLinkNest RX11 541 mX11_keeps.1 host ∈ lw_tbl := Or.inl (tb9 (List.mem_of_getElem? (i := 97) rfl))
theorem mlX11_544 : Cond.methodLink RX11 544 mX11_goesOut.1 ∈ lw_tbl ∨ ∃ host, Cond.methodLinkNest RX11 544 mX11_goesOut.1 host ∈ lw_tbl := Or.inl (tb9 (List.mem_of_getElem? (i := 105) rfl))
theorem mlX11_555 : Cond.methodLink RX11 555 mX11_drawOf.1 ∈ lw_tbl ∨ ∃ host, Cond.methodLinkNest RX11 555 mX11_drawOf.1 host ∈ lw_tbl := Or.inl (tb9 (List.mem_of_getElem? (i := 133) rfl))
theorem mlX11_558 : Cond.methodLink RX11 558 mX11_canShake.1 ∈ lw_tbl ∨ ∃ host, Cond.methodLinkNest RX11 558 mX11_canShake.1 host ∈ lw_tbl := Or.inl (tb9 (List.mem_of_getElem? (i := 141) rfl))
theorem mlX11_561 : Cond.methodLink RX11 561 mX11_shake.1 ∈ lw_tbl ∨ ∃ host, Cond.methodLinkNest RX11 561 mX11_shake.1 host ∈ lw_tbl := Or.inl (tb9 (List.mem_of_getElem? (i := 145) rfl))
theorem mlX11_564 : Cond.methodLink RX11 564 mX11_qCode.1 ∈ lw_tbl ∨ ∃ host, Cond.methodLinkNest RX11 564 mX11_qCode.1 host ∈ lw_tbl := Or.inl (tb7 (List.mem_of_getElem? (i := 231) rfl))
theorem mlX11_567 : Cond.methodLink RX11 567 mX11_qIsBracket.1 ∈ lw_tbl ∨ ∃ host, Cond.methodLinkNest RX11 567 mX11_qIsBracket.1 host ∈ lw_tbl := Or.inl (tb8 (List.mem_of_getElem? (i := 35) rfl))
theorem mlX11_570 : Cond.methodLink RX11 570 mX11_qDrops.1 ∈ lw_tbl ∨ ∃ host, Cond.methodLinkNest RX11 570 mX11_qDrops.1 host ∈ lw_tbl := Or.inl (tb8 (List.mem_of_getElem? (i := 23) rfl))
theorem mlX11_573 : Cond.methodLink RX11 573 mX11_qWordHere.1 ∈ lw_tbl ∨ ∃ host, Cond.methodLinkNest RX11 573 mX11_qWordHere.1 host ∈ lw_tbl := Or.inl (tb8 (List.mem_of_getElem? (i := 7) rfl))
theorem mlX11_576 : Cond.methodLink RX11 576 mX11_isAllowed.1 ∈ lw_tbl ∨ ∃ host, Cond.methodLinkNest RX11 576 mX11_isAllowed.1 host ∈ lw_tbl := Or.inl (tb8 (List.mem_of_getElem? (i := 11) rfl))
theorem mlX11_579 : Cond.methodLink RX11 579 mX11_qWordOf.1 ∈ lw_tbl ∨ ∃ host, Cond.methodLinkNest RX11 579 mX11_qWordOf.1 host ∈ lw_tbl := Or.inl (tb8 (List.mem_of_getElem? (i := 3) rfl))
theorem mlX11_582 : Cond.methodLink RX11 582 mX11_qOpens.1 ∈ lw_tbl ∨ ∃ host, Cond.methodLinkNest RX11 582 mX11_qOpens.1 host ∈ lw_tbl := Or.inl (tb7 (List.mem_of_getElem? (i := 223) rfl))
theorem mlX11_585 : Cond.methodLink RX11 585 mX11_qAsksWord.1 ∈ lw_tbl ∨ ∃ host, Cond.methodLinkNest RX11 585 mX11_qAsksWord.1 host ∈ lw_tbl := Or.inl (tb8 (List.mem_of_getElem? (i := 15) rfl))
theorem mlX11_588 : Cond.methodLink RX11 588 mX11_qEndsPart.1 ∈ lw_tbl ∨ ∃ host, Cond.methodLinkNest RX11 588 mX11_qEndsPart.1 host ∈ lw_tbl := Or.inl (tb8 (List.mem_of_getElem? (i := 19) rfl))
theorem mlX11_591 : Cond.methodLink RX11 591 mX11_qBracket.1 ∈ lw_tbl ∨ ∃ host, Cond.methodLinkNest RX11 591 mX11_qBracket.1 host ∈ lw_tbl := Or.inl (tb8 (List.mem_of_getElem? (i := 31) rfl))
theorem mlX11_594 : Cond.methodLink RX11 594 mX11_qDropsToBracket.1 ∈ lw_tbl ∨ ∃ host, Cond.methodLinkNest RX11 594 mX11_qDropsToBracket.1 host ∈ lw_tbl := Or.inl (tb8 (List.mem_of_getElem? (i := 38) rfl))
theorem mlX11_597 : Cond.methodLink RX11 597 mX11_qIsOn.1 ∈ lw_tbl ∨ ∃ host, Cond.methodLinkNest RX11 597 mX11_qIsOn.1 host ∈ lw_tbl := Or.inl (tb8 (List.mem_of_getElem? (i := 42) rfl))
theorem mlX11_600 : Cond.methodLink RX11 600 mX11_qPartTold.1 ∈ lw_tbl ∨ ∃ host, Cond.methodLinkNest RX11 600 mX11_qPartTold.1 host ∈ lw_tbl := Or.inl (tb7 (List.mem_of_getElem? (i := 239) rfl))
theorem mlX11_603 : Cond.methodLink RX11 603 mX11_qGoesOn.1 ∈ lw_tbl ∨ ∃ host, Cond.methodLinkNest RX11 603 mX11_qGoesOn.1 host ∈ lw_tbl := Or.inl (tb8 (List.mem_of_getElem? (i := 27) rfl))
theorem mlX11_606 : Cond.methodLink RX11 606 mX11_qFact.1 ∈ lw_tbl ∨ ∃ host, Cond.methodLinkNest RX11 606 mX11_qFact.1 host ∈ lw_tbl := Or.inl (tb7 (List.mem_of_getElem? (i := 227) rfl))
theorem mlX11_609 : Cond.methodLink RX11 609 mX11_qDropsNots.1 ∈ lw_tbl ∨ ∃ host, Cond.methodLinkNest RX11 609 mX11_qDropsNots.1 host ∈ lw_tbl := Or.inl (tb8 (List.mem_of_getElem? (i := 46) rfl))
theorem mlX11_612 : Cond.methodLink RX11 612 mX11_qGoesOnTest.1 ∈ lw_tbl ∨ ∃ host, Cond.methodLinkNest RX11 612 mX11_qGoesOnTest.1 host ∈ lw_tbl := Or.inl (tb8 (List.mem_of_getElem? (i := 50) rfl))
theorem mlX11_615 : Cond.methodLink RX11 615 mX11_qHasSquare.1 ∈ lw_tbl ∨ ∃ host, Cond.methodLinkNest RX11 615 mX11_qHasSquare.1 host ∈ lw_tbl := Or.inl (tb8 (List.mem_of_getElem? (i := 54) rfl))
theorem mlX11_622 : Cond.methodLink RX11 622 mX11_qClip.1 ∈ lw_tbl ∨ ∃ host, Cond.methodLinkNest RX11 622 mX11_qClip.1 host ∈ lw_tbl := Or.inl (tb8 (List.mem_of_getElem? (i := 196) rfl))
theorem mlX11_626 : Cond.methodLink RX11 626 mX11_qFloor.1 ∈ lw_tbl ∨ ∃ host, Cond.methodLinkNest RX11 626 mX11_qFloor.1 host ∈ lw_tbl := Or.inl (tb8 (List.mem_of_getElem? (i := 201) rfl))
theorem mlX11_630 : Cond.methodLink RX11 630 mX11_apart.1 ∈ lw_tbl ∨ ∃ host, Cond.methodLinkNest RX11 630 mX11_apart.1 host ∈ lw_tbl := Or.inl (tb8 (List.mem_of_getElem? (i := 188) rfl))
theorem mlX11_633 : Cond.methodLink RX11 633 mX11_qOf.1 ∈ lw_tbl ∨ ∃ host, Cond.methodLinkNest RX11 633 mX11_qOf.1 host ∈ lw_tbl := Or.inl (tb9 (List.mem_of_getElem? (i := 163) rfl))
theorem mlX11_647 : Cond.methodLink RX11 647 mX11_qKind.1 ∈ lw_tbl ∨ ∃ host, Cond.methodLinkNest RX11 647 mX11_qKind.1 host ∈ lw_tbl := Or.inl (tb9 (List.mem_of_getElem? (i := 154) rfl))
theorem mlX11_650 : Cond.methodLink RX11 650 mX11_qTold.1 ∈ lw_tbl ∨ ∃ host, Cond.methodLinkNest RX11 650 mX11_qTold.1 host ∈ lw_tbl := Or.inl (tb9 (List.mem_of_getElem? (i := 159) rfl))
theorem mlX11_654 : Cond.methodLink RX11 654 mX11_qTakes.1 ∈ lw_tbl ∨ ∃ host, Cond.methodLinkNest RX11 654 mX11_qTakes.1 host ∈ lw_tbl := Or.inl (tb9 (List.mem_of_getElem? (i := 167) rfl))
theorem mlX11_661 : Cond.methodLink RX11 661 mX11_writes.1 ∈ lw_tbl ∨ ∃ host, Cond.methodLinkNest RX11 661 mX11_writes.1 host ∈ lw_tbl := Or.inl (tb9 (List.mem_of_getElem? (i := 179) rfl))
theorem mlX11_664 : Cond.methodLink RX11 664 mX11_writesTwo.1 ∈ lw_tbl ∨ ∃ host, Cond.methodLinkNest RX11 664 mX11_writesTwo.1 host ∈ lw_tbl := Or.inl (tb9 (List.mem_of_getElem? (i := 175) rfl))
theorem mlX11_667 : Cond.methodLink RX11 667 mX11_checked.1 ∈ lw_tbl ∨ ∃ host, Cond.methodLinkNest RX11 667 mX11_checked.1 host ∈ lw_tbl := Or.inl (tb9 (List.mem_of_getElem? (i := 183) rfl))
theorem mlX11_671 : Cond.methodLink RX11 671 mX11_twoAt.1 ∈ lw_tbl ∨ ∃ host, Cond.methodLinkNest RX11 671 mX11_twoAt.1 host ∈ lw_tbl := Or.inl (tb9 (List.mem_of_getElem? (i := 198) rfl))
theorem mlX11_674 : Cond.methodLink RX11 674 mX11_isClerkTold.1 ∈ lw_tbl ∨ ∃ host, Cond.methodLinkNest RX11 674 mX11_isClerkTold.1 host ∈ lw_tbl := Or.inl (tb9 (List.mem_of_getElem? (i := 202) rfl))
theorem mlX11_677 : Cond.methodLink RX11 677 mX11_isImage.1 ∈ lw_tbl ∨ ∃ host, Cond.methodLinkNest RX11 677 mX11_isImage.1 host ∈ lw_tbl := Or.inl (tb9 (List.mem_of_getElem? (i := 194) rfl))
theorem kcX1_74 : Cond.constant RX1 74 (Int32.ofInt (-1000000)) ∈ lw_h := hw (tb4 (List.mem_of_getElem? (i := 165) rfl)) rfl
theorem kcX1_75 : Cond.constant RX1 75 (Int32.ofInt (1000000)) ∈ lw_h := hw (tb4 (List.mem_of_getElem? (i := 166) rfl)) rfl
theorem kcX1_84 : Cond.constantLong RX1 84 (Int64.ofInt (-1000000)) ∈ lw_h := hw (tb4 (List.mem_of_getElem? (i := 169) rfl)) rfl
theorem kcX1_86 : Cond.constantLong RX1 86 (Int64.ofInt (1000000)) ∈ lw_h := hw (tb4 (List.mem_of_getElem? (i := 170) rfl)) rfl
theorem kcJ6_265 : Cond.constant RJ6 265 (Int32.ofInt (1431655765)) ∈ lw_h := hw (tb5 (List.mem_of_getElem? (i := 16) rfl)) rfl
theorem kcJ6_266 : Cond.constant RJ6 266 (Int32.ofInt (858993459)) ∈ lw_h := hw (tb5 (List.mem_of_getElem? (i := 17) rfl)) rfl
theorem kcJ6_267 : Cond.constant RJ6 267 (Int32.ofInt (252645135)) ∈ lw_h := hw (tb5 (List.mem_of_getElem? (i := 18) rfl)) rfl
theorem kcX10_391 : Cond.constantLong RX10 391 (Int64.ofInt (1103515245)) ∈ lw_h := hw (tb5 (List.mem_of_getElem? (i := 209) rfl)) rfl
theorem kcX10_393 : Cond.constantLong RX10 393 (Int64.ofInt (12345)) ∈ lw_h := hw (tb5 (List.mem_of_getElem? (i := 210) rfl)) rfl
theorem kcX10_395 : Cond.constantLong RX10 395 (Int64.ofInt (2147483647)) ∈ lw_h := hw (tb5 (List.mem_of_getElem? (i := 211) rfl)) rfl
theorem kcX10_340 : Cond.constantLong RX10 340 (Int64.ofInt (-1000000000000000)) ∈ lw_h := hw (tb5 (List.mem_of_getElem? (i := 233) rfl)) rfl
theorem kcX11_281 : Cond.constantLong RX11 281 (Int64.ofInt (27)) ∈ lw_h := hw (tb7 (List.mem_of_getElem? (i := 201) rfl)) rfl
theorem kcX11_283 : Cond.constantLong RX11 283 (Int64.ofInt (97)) ∈ lw_h := hw (tb7 (List.mem_of_getElem? (i := 202) rfl)) rfl
theorem kcX11_462 : Cond.constantLong RX11 462 (Int64.ofInt (5)) ∈ lw_h := hw (tb8 (List.mem_of_getElem? (i := 114) rfl)) rfl
theorem kcX11_477 : Cond.constantLong RX11 477 (Int64.ofInt (3)) ∈ lw_h := hw (tb8 (List.mem_of_getElem? (i := 163) rfl)) rfl
theorem kcX11_618 : Cond.constantLong RX11 618 (Int64.ofInt (1000000)) ∈ lw_h := hw (tb8 (List.mem_of_getElem? (i := 199) rfl)) rfl
theorem kcX11_620 : Cond.constantLong RX11 620 (Int64.ofInt (-1000000)) ∈ lw_h := hw (tb8 (List.mem_of_getElem? (i := 200) rfl)) rfl
theorem kcX11_482 : Cond.constantLong RX11 482 (Int64.ofInt (2)) ∈ lw_h := hw (tb8 (List.mem_of_getElem? (i := 208) rfl)) rfl
theorem kcX11_530 : Cond.constantLong RX11 530 (Int64.ofInt (99)) ∈ lw_h := hw (tb9 (List.mem_of_getElem? (i := 64) rfl)) rfl
theorem kcX11_547 : Cond.constantLong RX11 547 (Int64.ofInt (1103515245)) ∈ lw_h := hw (tb9 (List.mem_of_getElem? (i := 137) rfl)) rfl
theorem kcX11_549 : Cond.constantLong RX11 549 (Int64.ofInt (12345)) ∈ lw_h := hw (tb9 (List.mem_of_getElem? (i := 138) rfl)) rfl
theorem kcX11_551 : Cond.constantLong RX11 551 (Int64.ofInt (2147483648)) ∈ lw_h := hw (tb9 (List.mem_of_getElem? (i := 139) rfl)) rfl
theorem kcX11_553 : Cond.constantLong RX11 553 (Int64.ofInt (64)) ∈ lw_h := hw (tb9 (List.mem_of_getElem? (i := 140) rfl)) rfl
theorem kcX11_645 : Cond.constantLong RX11 645 (Int64.ofInt (-1000000000000000)) ∈ lw_h := hw (tb9 (List.mem_of_getElem? (i := 153) rfl)) rfl
theorem kcX11_640 : Cond.constantLong RX11 640 (Int64.ofInt (-1)) ∈ lw_h := hw (tb9 (List.mem_of_getElem? (i := 158) rfl)) rfl
theorem acp : Cond.methodLink RX10 406 arraycopyName ∈ lw_tbl := tb3 (List.mem_of_getElem? (i := 238) rfl)
theorem acn : Cond.native arraycopyName ∈ lw_tbl := tb4 (List.mem_of_getElem? (i := 0) rfl)
theorem acs : Cond.static arraycopyName ∈ lw_tbl := tb3 (List.mem_of_getElem? (i := 239) rfl)
theorem aci : Cond.initialized "java/lang/System" ∈ lw_tbl := tb1 (List.mem_of_getElem? (i := 18) rfl)
