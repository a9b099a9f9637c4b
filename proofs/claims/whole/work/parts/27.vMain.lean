theorem vX10_feed_0 {d : Nat} {φ : aF} {α : aA} {Q : Int → aF → aA → Prop} {x1 : Int} {x2 : Int} {x3 : Int} {x4 : Int} {x5 : Int} (h : inR ((φ 6 1 1) + 20) ∧ ((((φ 6 1 1) + 20) ≤ 1600 →
   (eX10_feedNumber d x1 φ α (fun r3 φ3 α3 =>
     (eX10_feedNumber d x2 φ3 α3 (fun r4 φ4 α4 =>
     (eX10_feedNumber d x3 φ4 α4 (fun r5 φ5 α5 =>
     (eX10_feedNumber d x4 φ5 α5 (fun r6 φ6 α6 =>
     (eX10_feedNumber d x5 φ6 α6 (fun r7 φ7 α7 =>
     (Q (φ7 6 1 1) φ7 α7)))))))))))) ∧
   (¬ (((φ 6 1 1) + 20) ≤ 1600) →
   (eX10_refuse d 0 φ α (fun r8 φ8 α8 =>
     (Q r8 φ8 α8)))))) : eX10_feed (d + 1) x1 x2 x3 x4 x5 φ α Q := by
  intro Ln
  refine r_aload_n (pc' := 1) (kX10_feed_0 0 rfl) rfl rfl ?_
  refine s_getr (v := 1) (pc' := 4) (kX10_feed_0 1 rfl) rfl fkX10_14 rfl rfl (kz0 Ln) rfl (by decide) ?_
  refine s_get (x := (φ 6 1 1)) (pc' := 7) (kX10_feed_0 2 rfl) rfl fkX10_107 rfl rfl rfl (kz1 Ln) rfl ?_
  refine r_bipush 20 (pc' := 9) (kX10_feed_0 3 rfl) rfl ⟨by unfold inR; omega, rfl⟩ ?_
  have g1 := h.1
  have h := h.2
  refine r_iadd (pc' := 10) (kX10_feed_0 4 rfl) rfl g1 ?_
  refine r_sipush 1600 (pc' := 13) (kX10_feed_0 5 rfl) rfl ⟨by unfold inR; omega, rfl⟩ ?_
  refine r_icmp_le (t := 22) (pc' := 16) (kX10_feed_0 6 rfl) rfl rfl (fun c2 => ?_) (fun c2 => ?_)
  · have h := h.1 c2
    refine r_aload_n (pc' := 23) (kX10_feed_0 11 rfl) rfl rfl ?_
    refine r_iload_n (pc' := 24) (kX10_feed_0 12 rfl) rfl rfl ?_
    refine s_callV (As := [(0, x1)]) (o := 0) (S := []) (S2 := fun z => []) (pc' := 27) (kX10_feed_0 13 rfl) rfl rfl nkX10_feedNumber mlX10_114 imX10_feedNumber rfl slX10_feedNumber rfl (Nat.le_of_ble_eq_true rfl) (Nat.le_of_ble_eq_true rfl) (kz0 Ln) h (fun z => rfl) (fun r3 φ3 α3 h => ?_)
    refine r_aload_n (pc' := 28) (kX10_feed_0 14 rfl) rfl rfl ?_
    refine r_iload_n (pc' := 29) (kX10_feed_0 15 rfl) rfl rfl ?_
    refine s_callV (As := [(0, x2)]) (o := 0) (S := []) (S2 := fun z => []) (pc' := 32) (kX10_feed_0 16 rfl) rfl rfl nkX10_feedNumber mlX10_114 imX10_feedNumber rfl slX10_feedNumber rfl (Nat.le_of_ble_eq_true rfl) (Nat.le_of_ble_eq_true rfl) (kz0 Ln) h (fun z => rfl) (fun r4 φ4 α4 h => ?_)
    refine r_aload_n (pc' := 33) (kX10_feed_0 17 rfl) rfl rfl ?_
    refine r_iload_n (pc' := 34) (kX10_feed_0 18 rfl) rfl rfl ?_
    refine s_callV (As := [(0, x3)]) (o := 0) (S := []) (S2 := fun z => []) (pc' := 37) (kX10_feed_0 19 rfl) rfl rfl nkX10_feedNumber mlX10_114 imX10_feedNumber rfl slX10_feedNumber rfl (Nat.le_of_ble_eq_true rfl) (Nat.le_of_ble_eq_true rfl) (kz0 Ln) h (fun z => rfl) (fun r5 φ5 α5 h => ?_)
    refine r_aload_n (pc' := 38) (kX10_feed_0 20 rfl) rfl rfl ?_
    refine r_iload (pc' := 40) (kX10_feed_0 21 rfl) rfl rfl ?_
    refine s_callV (As := [(0, x4)]) (o := 0) (S := []) (S2 := fun z => []) (pc' := 43) (kX10_feed_0 22 rfl) rfl rfl nkX10_feedNumber mlX10_114 imX10_feedNumber rfl slX10_feedNumber rfl (Nat.le_of_ble_eq_true rfl) (Nat.le_of_ble_eq_true rfl) (kz0 Ln) h (fun z => rfl) (fun r6 φ6 α6 h => ?_)
    refine r_aload_n (pc' := 44) (kX10_feed_0 23 rfl) rfl rfl ?_
    refine r_iload (pc' := 46) (kX10_feed_0 24 rfl) rfl rfl ?_
    refine s_callV (As := [(0, x5)]) (o := 0) (S := []) (S2 := fun z => []) (pc' := 49) (kX10_feed_0 25 rfl) rfl rfl nkX10_feedNumber mlX10_114 imX10_feedNumber rfl slX10_feedNumber rfl (Nat.le_of_ble_eq_true rfl) (Nat.le_of_ble_eq_true rfl) (kz0 Ln) h (fun z => rfl) (fun r7 φ7 α7 h => ?_)
    refine r_aload_n (pc' := 50) (kX10_feed_0 26 rfl) rfl rfl ?_
    refine s_getr (v := 1) (pc' := 53) (kX10_feed_0 27 rfl) rfl fkX10_14 rfl rfl (kz0 Ln) rfl (by decide) ?_
    refine s_get (x := (φ7 6 1 1)) (pc' := 56) (kX10_feed_0 28 rfl) rfl fkX10_107 rfl rfl rfl (kz1 Ln) rfl ?_
    exact s_iret (kX10_feed_0 29 rfl) rfl h
  · have h := h.2 c2
    refine r_aload_n (pc' := 17) (kX10_feed_0 7 rfl) rfl rfl ?_
    refine r_iconst 0 (pc' := 18) (kX10_feed_0 8 rfl) rfl (by unfold inR; omega) ?_
    refine s_callV (As := [(0, 0)]) (o := 0) (S := []) (S2 := fun z => [(0, z)]) (pc' := 21) (kX10_feed_0 9 rfl) rfl rfl nkX10_refuse mlX10_110 imX10_refuse rfl slX10_refuse rfl (Nat.le_of_ble_eq_true rfl) (Nat.le_of_ble_eq_true rfl) (kz0 Ln) h (fun z => rfl) (fun r8 φ8 α8 h => ?_)
    exact s_iret (kX10_feed_0 10 rfl) rfl h
theorem vX10_end_0 {d : Nat} {φ : aF} {α : aA} {Q : Int → aF → aA → Prop} {x1 : Int} (h : ((x1 < 0 →
   (eX10_deny d 0 φ α (fun r2 φ2 α2 =>
     (r2 = 0 ∨ r2 = 1) ∧ (Q r2 φ2 α2)))) ∧
   (¬ (x1 < 0) →
   ((x1 ≤ (φ 6 1 1) →
     (Q 1 (upf φ 6 1 1 x1) α)) ∧
     (¬ (x1 ≤ (φ 6 1 1)) →
     (eX10_deny d 0 φ α (fun r5 φ5 α5 =>
       (r5 = 0 ∨ r5 = 1) ∧ (Q r5 φ5 α5)))))))) : eX10_end (d + 1) x1 φ α Q := by
  intro Ln
  refine r_iload_n (pc' := 1) (kX10_end_0 0 rfl) rfl rfl ?_
  refine r_if_lt (t := 15) (pc' := 4) (kX10_end_0 1 rfl) rfl rfl (fun c1 => ?_) (fun c1 => ?_)
  · have h := h.1 c1
    refine r_aload_n (pc' := 16) (kX10_end_0 7 rfl) rfl rfl ?_
    refine r_iconst 0 (pc' := 17) (kX10_end_0 8 rfl) rfl (by unfold inR; omega) ?_
    refine s_callV (As := [(0, 0)]) (o := 0) (S := []) (S2 := fun z => [(0, z)]) (pc' := 20) (kX10_end_0 9 rfl) rfl rfl nkX10_deny mlX10_117 imX10_deny rfl slX10_deny rfl (Nat.le_of_ble_eq_true rfl) (Nat.le_of_ble_eq_true rfl) (kz0 Ln) h (fun z => rfl) (fun r2 φ2 α2 h => ?_)
    have g3 := h.1
    have h := h.2
    exact s_zret (kX10_end_0 10 rfl) rfl g3 h
  · have h := h.2 c1
    refine r_iload_n (pc' := 5) (kX10_end_0 2 rfl) rfl rfl ?_
    refine r_aload_n (pc' := 6) (kX10_end_0 3 rfl) rfl rfl ?_
    refine s_getr (v := 1) (pc' := 9) (kX10_end_0 4 rfl) rfl fkX10_14 rfl rfl (kz0 Ln) rfl (by decide) ?_
    refine s_get (x := (φ 6 1 1)) (pc' := 12) (kX10_end_0 5 rfl) rfl fkX10_107 rfl rfl rfl (kz1 Ln) rfl ?_
    refine r_icmp_le (t := 21) (pc' := 15) (kX10_end_0 6 rfl) rfl rfl (fun c4 => ?_) (fun c4 => ?_)
    · have h := h.1 c4
      refine r_aload_n (pc' := 22) (kX10_end_0 11 rfl) rfl rfl ?_
      refine s_getr (v := 1) (pc' := 25) (kX10_end_0 12 rfl) rfl fkX10_14 rfl rfl (kz0 Ln) rfl (by decide) ?_
      refine r_iload_n (pc' := 26) (kX10_end_0 13 rfl) rfl rfl ?_
      refine s_put (pc' := 29) (kX10_end_0 14 rfl) rfl fkX10_107 fnX6_1 rfl pk_int (kz1 Ln) ?_
      refine r_iconst 1 (pc' := 30) (kX10_end_0 15 rfl) rfl (by unfold inR; omega) ?_
      exact s_zret (kX10_end_0 16 rfl) rfl (Or.inr rfl) h
    · have h := h.2 c4
      refine r_aload_n (pc' := 16) (kX10_end_0 7 rfl) rfl rfl ?_
      refine r_iconst 0 (pc' := 17) (kX10_end_0 8 rfl) rfl (by unfold inR; omega) ?_
      refine s_callV (As := [(0, 0)]) (o := 0) (S := []) (S2 := fun z => [(0, z)]) (pc' := 20) (kX10_end_0 9 rfl) rfl rfl nkX10_deny mlX10_117 imX10_deny rfl slX10_deny rfl (Nat.le_of_ble_eq_true rfl) (Nat.le_of_ble_eq_true rfl) (kz0 Ln) h (fun z => rfl) (fun r5 φ5 α5 h => ?_)
      have g6 := h.1
      have h := h.2
      exact s_zret (kX10_end_0 10 rfl) rfl g6 h
theorem vX10_registry_0 {d : Nat} {φ : aF} {α : aA} {Q : Int → aF → aA → Prop} (h : (eX5_readRegistry d  φ α (fun r1 φ1 α1 =>
   (eX6_clear d 1 φ1 α1 (fun r2 φ2 α2 =>
   ((¬ r1 = 0 →
   (eX2_copyFrom d 9 19 φ2 α2 (fun r4 φ4 α4 =>
     (eX7_begin d 29 9 φ4 α4 (fun r5 φ5 α5 =>
     (eX3_clear d  φ5 α5 (fun r6 φ6 α6 =>
     (eX6_clear d 5 φ6 α6 (fun r7 φ7 α7 =>
     (Q (φ7 2 1 9) φ7 α7)))))))))) ∧
   (r1 = 0 →
   (eX10_refuse d 1 φ2 α2 (fun r8 φ8 α8 =>
     (Q r8 φ8 α8)))))))))) : eX10_registry (d + 1)  φ α Q := by
  intro Ln
  refine r_aload_n (pc' := 1) (kX10_registry_0 0 rfl) rfl rfl ?_
  refine s_getr (v := 185) (pc' := 4) (kX10_registry_0 1 rfl) rfl fkX10_59 rfl rfl (kz0 Ln) rfl (by decide) ?_
  refine s_callV (As := []) (o := 185) (S := []) (S2 := fun z => [(0, z)]) (pc' := 7) (kX10_registry_0 2 rfl) rfl rfl nkX5_readRegistry mlX10_121 imX5_readRegistry rfl slX5_readRegistry rfl (Nat.le_of_ble_eq_true rfl) (Nat.le_of_ble_eq_true rfl) (kz185 Ln) h (fun z => rfl) (fun r1 φ1 α1 h => ?_)
  refine r_istore_n (L' := [(2, 0), (0, r1)]) (pc' := 8) (kX10_registry_0 3 rfl) rfl (Nat.le_of_ble_eq_true rfl) rfl ?_
  refine r_aload_n (pc' := 9) (kX10_registry_0 4 rfl) rfl rfl ?_
  refine s_getr (v := 1) (pc' := 12) (kX10_registry_0 5 rfl) rfl fkX10_14 rfl rfl (kz0 Ln) rfl (by decide) ?_
  refine s_callV (As := []) (o := 1) (S := []) (S2 := fun z => []) (pc' := 15) (kX10_registry_0 6 rfl) rfl rfl nkX6_clear mlX10_125 imX6_clear rfl slX6_clear rfl (Nat.le_of_ble_eq_true rfl) (Nat.le_of_ble_eq_true rfl) (kz1 Ln) h (fun z => rfl) (fun r2 φ2 α2 h => ?_)
  refine r_iload_n (pc' := 16) (kX10_registry_0 7 rfl) rfl rfl ?_
  refine r_if_ne (t := 25) (pc' := 19) (kX10_registry_0 8 rfl) rfl rfl (fun c3 => ?_) (fun c3 => ?_)
  · have h := h.1 c3
    refine r_aload_n (pc' := 26) (kX10_registry_0 13 rfl) rfl rfl ?_
    refine s_getr (v := 9) (pc' := 29) (kX10_registry_0 14 rfl) rfl fkX10_30 rfl rfl (kz0 Ln) rfl (by decide) ?_
    refine r_aload_n (pc' := 30) (kX10_registry_0 15 rfl) rfl rfl ?_
    refine s_getr (v := 19) (pc' := 33) (kX10_registry_0 16 rfl) rfl fkX10_34 rfl rfl (kz0 Ln) rfl (by decide) ?_
    refine s_callV (As := [(2, 19)]) (o := 9) (S := []) (S2 := fun z => []) (pc' := 36) (kX10_registry_0 17 rfl) rfl rfl nkX2_copyFrom mlX10_128 imX2_copyFrom rfl slX2_copyFrom rfl (Nat.le_of_ble_eq_true rfl) (Nat.le_of_ble_eq_true rfl) (kz9 Ln) h (fun z => rfl) (fun r4 φ4 α4 h => ?_)
    refine r_aload_n (pc' := 37) (kX10_registry_0 18 rfl) rfl rfl ?_
    refine s_getr (v := 29) (pc' := 40) (kX10_registry_0 19 rfl) rfl fkX10_40 rfl rfl (kz0 Ln) rfl (by decide) ?_
    refine r_aload_n (pc' := 41) (kX10_registry_0 20 rfl) rfl rfl ?_
    refine s_getr (v := 9) (pc' := 44) (kX10_registry_0 21 rfl) rfl fkX10_30 rfl rfl (kz0 Ln) rfl (by decide) ?_
    refine s_callV (As := [(2, 9)]) (o := 29) (S := []) (S2 := fun z => []) (pc' := 47) (kX10_registry_0 22 rfl) rfl rfl nkX7_begin mlX10_131 imX7_begin rfl slX7_begin rfl (Nat.le_of_ble_eq_true rfl) (Nat.le_of_ble_eq_true rfl) (kz29 Ln) h (fun z => rfl) (fun r5 φ5 α5 h => ?_)
    refine r_aload_n (pc' := 48) (kX10_registry_0 23 rfl) rfl rfl ?_
    refine s_getr (v := 43) (pc' := 51) (kX10_registry_0 24 rfl) rfl fkX10_50 rfl rfl (kz0 Ln) rfl (by decide) ?_
    refine s_callV (As := []) (o := 43) (S := []) (S2 := fun z => []) (pc' := 54) (kX10_registry_0 25 rfl) rfl rfl nkX3_clear mlX10_134 imX3_clear rfl slX3_clear rfl (Nat.le_of_ble_eq_true rfl) (Nat.le_of_ble_eq_true rfl) (kz43 Ln) h (fun z => rfl) (fun r6 φ6 α6 h => ?_)
    refine r_aload_n (pc' := 55) (kX10_registry_0 26 rfl) rfl rfl ?_
    refine s_getr (v := 5) (pc' := 58) (kX10_registry_0 27 rfl) rfl fkX10_21 rfl rfl (kz0 Ln) rfl (by decide) ?_
    refine s_callV (As := []) (o := 5) (S := []) (S2 := fun z => []) (pc' := 61) (kX10_registry_0 28 rfl) rfl rfl nkX6_clear mlX10_125 imX6_clear rfl slX6_clear rfl (Nat.le_of_ble_eq_true rfl) (Nat.le_of_ble_eq_true rfl) (kz5 Ln) h (fun z => rfl) (fun r7 φ7 α7 h => ?_)
    refine r_aload_n (pc' := 62) (kX10_registry_0 29 rfl) rfl rfl ?_
    refine s_getr (v := 9) (pc' := 65) (kX10_registry_0 30 rfl) rfl fkX10_30 rfl rfl (kz0 Ln) rfl (by decide) ?_
    refine s_get (x := (φ7 2 1 9)) (pc' := 68) (kX10_registry_0 31 rfl) rfl fkX10_135 rfl rfl rfl (kz9 Ln) rfl ?_
    exact s_iret (kX10_registry_0 32 rfl) rfl h
  · have h := h.2 c3
    refine r_aload_n (pc' := 20) (kX10_registry_0 9 rfl) rfl rfl ?_
    refine r_iconst 1 (pc' := 21) (kX10_registry_0 10 rfl) rfl (by unfold inR; omega) ?_
    refine s_callV (As := [(0, 1)]) (o := 0) (S := []) (S2 := fun z => [(0, z)]) (pc' := 24) (kX10_registry_0 11 rfl) rfl rfl nkX10_refuse mlX10_110 imX10_refuse rfl slX10_refuse rfl (Nat.le_of_ble_eq_true rfl) (Nat.le_of_ble_eq_true rfl) (kz0 Ln) h (fun z => rfl) (fun r8 φ8 α8 h => ?_)
    exact s_iret (kX10_registry_0 12 rfl) rfl h
theorem vX10_fault_0 {d : Nat} {φ : aF} {α : aA} {Q : Int → aF → aA → Prop} {x1 : Int} (h : ((x1 = 0 →
   (Q (φ 5 5 185) φ α)) ∧
   ((x1 = 1 →
   (Q (φ 5 6 185) φ α)) ∧
   ((¬ x1 = 0 ∧ ¬ x1 = 1) →
   (Q (-1) φ α))))) : eX10_fault d x1 φ α Q := by
  intro Ln
  refine r_iload_n (pc' := 1) (kX10_fault_0 0 rfl) rfl rfl ?_
  have hD : (¬ x1 = 0 ∧ ¬ x1 = 1) → Rn d mX10_fault 44 [(2, 0), (0, x1)] [] (K0 Ln) (mix φ) (mixA α) (0, 0) (Q0 mX10_fault Ln Q) := by
    intro c0
    have h := h.2.2 c0
    refine r_iconst (-1) (pc' := 45) (kX10_fault_0 10 rfl) rfl (by unfold inR; omega) ?_
    exact s_iret (kX10_fault_0 11 rfl) rfl h
  by_cases c1_0 : x1 = 0
  · have h := h.1 c1_0
    refine r_lookup (pc' := 28) (kX10_fault_0 1 rfl) rfl (by rw [c1_0]; try rfl) rfl ?_
    refine r_aload_n (pc' := 29) (kX10_fault_0 2 rfl) rfl rfl ?_
    refine s_getr (v := 185) (pc' := 32) (kX10_fault_0 3 rfl) rfl fkX10_59 rfl rfl (kz0 Ln) rfl (by decide) ?_
    refine s_get (x := (φ 5 5 185)) (pc' := 35) (kX10_fault_0 4 rfl) rfl fkX10_138 rfl rfl rfl (kz185 Ln) rfl ?_
    exact s_iret (kX10_fault_0 5 rfl) rfl h
  by_cases c1_1 : x1 = 1
  · have h := h.2.1 c1_1
    refine r_lookup (pc' := 36) (kX10_fault_0 1 rfl) rfl (by rw [c1_1]; try rfl) rfl ?_
    refine r_aload_n (pc' := 37) (kX10_fault_0 6 rfl) rfl rfl ?_
    refine s_getr (v := 185) (pc' := 40) (kX10_fault_0 7 rfl) rfl fkX10_59 rfl rfl (kz0 Ln) rfl (by decide) ?_
    refine s_get (x := (φ 5 6 185)) (pc' := 43) (kX10_fault_0 8 rfl) rfl fkX10_141 rfl rfl rfl (kz185 Ln) rfl ?_
    exact s_iret (kX10_fault_0 9 rfl) rfl h
  have hD := hD ⟨c1_0, c1_1⟩
  exact r_lookup (pc' := 44) (kX10_fault_0 1 rfl) rfl ((off_ne c1_0).trans ((off_ne c1_1).trans rfl)) rfl hD
theorem vX10_has_0 {d : Nat} {φ : aF} {α : aA} {Q : Int → aF → aA → Prop} {x1 : Int} (h : ((x1 = 0 →
   (Q (φ 2 2 9) φ α)) ∧
   ((x1 = 1 →
   (Q (φ 2 3 9) φ α)) ∧
   ((x1 = 2 →
   (Q (φ 2 4 9) φ α)) ∧
   ((x1 = 3 →
   (Q (φ 7 0 29) φ α)) ∧
   ((x1 = 4 →
   (eX10_total d 33 φ α (fun r2 φ2 α2 =>
     (Q r2 φ2 α2)))) ∧
   ((x1 = 5 →
   (eX7_pooled d 29 0 φ α (fun r3 φ3 α3 =>
     (Q r3 φ3 α3)))) ∧
   ((x1 = 6 →
   (eX9_countFull d 29 φ α (fun r4 φ4 α4 =>
     (Q r4 φ4 α4)))) ∧
   ((x1 = 7 →
   (Q (φ 7 8 29) φ α)) ∧
   ((x1 = 8 →
   inR (Int.tdiv (φ 6 1 5) 4) ∧ (Q (Int.tdiv (φ 6 1 5) 4) φ α)) ∧
   ((x1 = 9 →
   (Q (φ 3 2 43) φ α)) ∧
   ((¬ x1 = 0 ∧ ¬ x1 = 1 ∧ ¬ x1 = 2 ∧ ¬ x1 = 3 ∧ ¬ x1 = 4 ∧ ¬ x1 = 5 ∧ ¬ x1 = 6 ∧ ¬ x1 = 7 ∧ ¬ x1 = 8 ∧ ¬ x1 = 9) →
   (Q (-1) φ α))))))))))))) : eX10_has (d + 1) x1 φ α Q := by
  intro Ln
  refine r_iload_n (pc' := 1) (kX10_has_0 0 rfl) rfl rfl ?_
  have hD : (¬ x1 = 0 ∧ ¬ x1 = 1 ∧ ¬ x1 = 2 ∧ ¬ x1 = 3 ∧ ¬ x1 = 4 ∧ ¬ x1 = 5 ∧ ¬ x1 = 6 ∧ ¬ x1 = 7 ∧ ¬ x1 = 8 ∧ ¬ x1 = 9) → Rn (d + 1) mX10_has 146 [(2, 0), (0, x1)] [] (K0 Ln) (mix φ) (mixA α) (0, 0) (Q0 mX10_has Ln Q) := by
    intro c0
    have h := h.2.2.2.2.2.2.2.2.2.2 c0
    refine r_iconst (-1) (pc' := 147) (kX10_has_0 48 rfl) rfl (by unfold inR; omega) ?_
    exact s_iret (kX10_has_0 49 rfl) rfl h
  by_cases c1_0 : x1 = 0
  · have h := h.1 c1_0
    refine r_tabIn (pc' := 56) 0 c1_0 (kX10_has_0 1 rfl) (by decide) (by decide) rfl rfl ?_
    refine r_aload_n (pc' := 57) (kX10_has_0 2 rfl) rfl rfl ?_
    refine s_getr (v := 9) (pc' := 60) (kX10_has_0 3 rfl) rfl fkX10_30 rfl rfl (kz0 Ln) rfl (by decide) ?_
    refine s_get (x := (φ 2 2 9)) (pc' := 63) (kX10_has_0 4 rfl) rfl fkX10_144 rfl rfl rfl (kz9 Ln) rfl ?_
    exact s_iret (kX10_has_0 5 rfl) rfl h
  by_cases c1_1 : x1 = 1
  · have h := h.2.1 c1_1
    refine r_tabIn (pc' := 64) 1 c1_1 (kX10_has_0 1 rfl) (by decide) (by decide) rfl rfl ?_
    refine r_aload_n (pc' := 65) (kX10_has_0 6 rfl) rfl rfl ?_
    refine s_getr (v := 9) (pc' := 68) (kX10_has_0 7 rfl) rfl fkX10_30 rfl rfl (kz0 Ln) rfl (by decide) ?_
    refine s_get (x := (φ 2 3 9)) (pc' := 71) (kX10_has_0 8 rfl) rfl fkX10_147 rfl rfl rfl (kz9 Ln) rfl ?_
    exact s_iret (kX10_has_0 9 rfl) rfl h
  by_cases c1_2 : x1 = 2
  · have h := h.2.2.1 c1_2
    refine r_tabIn (pc' := 72) 2 c1_2 (kX10_has_0 1 rfl) (by decide) (by decide) rfl rfl ?_
    refine r_aload_n (pc' := 73) (kX10_has_0 10 rfl) rfl rfl ?_
    refine s_getr (v := 9) (pc' := 76) (kX10_has_0 11 rfl) rfl fkX10_30 rfl rfl (kz0 Ln) rfl (by decide) ?_
    refine s_get (x := (φ 2 4 9)) (pc' := 79) (kX10_has_0 12 rfl) rfl fkX10_150 rfl rfl rfl (kz9 Ln) rfl ?_
    exact s_iret (kX10_has_0 13 rfl) rfl h
  by_cases c1_3 : x1 = 3
  · have h := h.2.2.2.1 c1_3
    refine r_tabIn (pc' := 80) 3 c1_3 (kX10_has_0 1 rfl) (by decide) (by decide) rfl rfl ?_
    refine r_aload_n (pc' := 81) (kX10_has_0 14 rfl) rfl rfl ?_
    refine s_getr (v := 29) (pc' := 84) (kX10_has_0 15 rfl) rfl fkX10_40 rfl rfl (kz0 Ln) rfl (by decide) ?_
    refine s_get (x := (φ 7 0 29)) (pc' := 87) (kX10_has_0 16 rfl) rfl fkX10_153 rfl rfl rfl (kz29 Ln) rfl ?_
    exact s_iret (kX10_has_0 17 rfl) rfl h
  by_cases c1_4 : x1 = 4
  · have h := h.2.2.2.2.1 c1_4
    refine r_tabIn (pc' := 88) 4 c1_4 (kX10_has_0 1 rfl) (by decide) (by decide) rfl rfl ?_
    refine r_aload_n (pc' := 89) (kX10_has_0 18 rfl) rfl rfl ?_
    refine s_getr (v := 29) (pc' := 92) (kX10_has_0 19 rfl) rfl fkX10_40 rfl rfl (kz0 Ln) rfl (by decide) ?_
    refine s_getr (v := 33) (pc' := 95) (kX10_has_0 20 rfl) rfl fkX10_156 rfl rfl (kz29 Ln) rfl (by decide) ?_
    refine s_callS (As := [(2, 33)]) (S := []) (S2 := fun z => [(0, z)]) (pc' := 98) (kX10_has_0 21 rfl) rfl rfl nkX10_total mlX10_159 scX10_total rfl (Nat.le_of_ble_eq_true rfl) (Nat.le_of_ble_eq_true rfl) h (fun z => rfl) (fun r2 φ2 α2 h => ?_)
    exact s_iret (kX10_has_0 22 rfl) rfl h
  by_cases c1_5 : x1 = 5
  · have h := h.2.2.2.2.2.1 c1_5
    refine r_tabIn (pc' := 99) 5 c1_5 (kX10_has_0 1 rfl) (by decide) (by decide) rfl rfl ?_
    refine r_aload_n (pc' := 100) (kX10_has_0 23 rfl) rfl rfl ?_
    refine s_getr (v := 29) (pc' := 103) (kX10_has_0 24 rfl) rfl fkX10_40 rfl rfl (kz0 Ln) rfl (by decide) ?_
    refine r_iconst 0 (pc' := 104) (kX10_has_0 25 rfl) rfl (by unfold inR; omega) ?_
    refine s_callV (As := [(0, 0)]) (o := 29) (S := []) (S2 := fun z => [(0, z)]) (pc' := 107) (kX10_has_0 26 rfl) rfl rfl nkX7_pooled mlX10_163 imX7_pooled rfl slX7_pooled rfl (Nat.le_of_ble_eq_true rfl) (Nat.le_of_ble_eq_true rfl) (kz29 Ln) h (fun z => rfl) (fun r3 φ3 α3 h => ?_)
    exact s_iret (kX10_has_0 27 rfl) rfl h
  by_cases c1_6 : x1 = 6
  · have h := h.2.2.2.2.2.2.1 c1_6
    refine r_tabIn (pc' := 108) 6 c1_6 (kX10_has_0 1 rfl) (by decide) (by decide) rfl rfl ?_
    refine r_aload_n (pc' := 109) (kX10_has_0 28 rfl) rfl rfl ?_
    refine s_getr (v := 190) (pc' := 112) (kX10_has_0 29 rfl) rfl fkX10_77 rfl rfl (kz0 Ln) rfl (by decide) ?_
    refine r_aload_n (pc' := 113) (kX10_has_0 30 rfl) rfl rfl ?_
    refine s_getr (v := 29) (pc' := 116) (kX10_has_0 31 rfl) rfl fkX10_40 rfl rfl (kz0 Ln) rfl (by decide) ?_
    refine s_callV (As := [(2, 29)]) (o := 190) (S := []) (S2 := fun z => [(0, z)]) (pc' := 119) (kX10_has_0 32 rfl) rfl rfl nkX9_countFull mlX10_166 imX9_countFull rfl slX9_countFull rfl (Nat.le_of_ble_eq_true rfl) (Nat.le_of_ble_eq_true rfl) (kz190 Ln) h (fun z => rfl) (fun r4 φ4 α4 h => ?_)
    exact s_iret (kX10_has_0 33 rfl) rfl h
  by_cases c1_7 : x1 = 7
  · have h := h.2.2.2.2.2.2.2.1 c1_7
    refine r_tabIn (pc' := 120) 7 c1_7 (kX10_has_0 1 rfl) (by decide) (by decide) rfl rfl ?_
    refine r_aload_n (pc' := 121) (kX10_has_0 34 rfl) rfl rfl ?_
    refine s_getr (v := 29) (pc' := 124) (kX10_has_0 35 rfl) rfl fkX10_40 rfl rfl (kz0 Ln) rfl (by decide) ?_
    refine s_get (x := (φ 7 8 29)) (pc' := 127) (kX10_has_0 36 rfl) rfl fkX10_170 rfl rfl rfl (kz29 Ln) rfl ?_
    exact s_iret (kX10_has_0 37 rfl) rfl h
  by_cases c1_8 : x1 = 8
  · have h := h.2.2.2.2.2.2.2.2.1 c1_8
    refine r_tabIn (pc' := 128) 8 c1_8 (kX10_has_0 1 rfl) (by decide) (by decide) rfl rfl ?_
    refine r_aload_n (pc' := 129) (kX10_has_0 38 rfl) rfl rfl ?_
    refine s_getr (v := 5) (pc' := 132) (kX10_has_0 39 rfl) rfl fkX10_21 rfl rfl (kz0 Ln) rfl (by decide) ?_
    refine s_get (x := (φ 6 1 5)) (pc' := 135) (kX10_has_0 40 rfl) rfl fkX10_107 rfl rfl rfl (kz5 Ln) rfl ?_
    refine r_iconst 4 (pc' := 136) (kX10_has_0 41 rfl) rfl (by unfold inR; omega) ?_
    have g5 := h.1
    have h := h.2
    refine r_idiv (pc' := 137) (kX10_has_0 42 rfl) rfl ⟨by decide, g5⟩ ?_
    exact s_iret (kX10_has_0 43 rfl) rfl h
  by_cases c1_9 : x1 = 9
  · have h := h.2.2.2.2.2.2.2.2.2.1 c1_9
    refine r_tabIn (pc' := 138) 9 c1_9 (kX10_has_0 1 rfl) (by decide) (by decide) rfl rfl ?_
    refine r_aload_n (pc' := 139) (kX10_has_0 44 rfl) rfl rfl ?_
    refine s_getr (v := 43) (pc' := 142) (kX10_has_0 45 rfl) rfl fkX10_50 rfl rfl (kz0 Ln) rfl (by decide) ?_
    refine s_get (x := (φ 3 2 43)) (pc' := 145) (kX10_has_0 46 rfl) rfl fkX10_173 rfl rfl rfl (kz43 Ln) rfl ?_
    exact s_iret (kX10_has_0 47 rfl) rfl h
  have hD := hD ⟨c1_0, c1_1, c1_2, c1_3, c1_4, c1_5, c1_6, c1_7, c1_8, c1_9⟩
  exact r_tabOut (pc' := 146) (kX10_has_0 1 rfl) (by omega) rfl hD
theorem vX10_letter_0 {d : Nat} {φ : aF} {α : aA} {Q : Int → aF → aA → Prop} {x1 : Int} {x2 : Int} {x3 : Int} (h : ((¬ x1 = 0 →
   ((¬ x1 = 1 →
     (Q (-1) φ α)) ∧
     (x1 = 1 →
     (eX2_isClerk d 9 x2 φ α (fun r3 φ3 α3 =>
       ((r3 = 0 →
       (Q (-1) φ3 α3)) ∧
       (¬ (r3 = 0) →
       (eX10_within d x3 0 5 φ3 α3 (fun r5 φ5 α5 =>
         ((¬ r5 = 0 →
         inR (4 + x2) ∧ (eX10_pick d 10 (4 + x2) φ5 α5 (fun r8 φ8 α8 =>
           (eX10_letterOf d r8 x3 φ8 α8 (fun r9 φ9 α9 =>
           (Q r9 φ9 α9)))))) ∧
         (r5 = 0 →
         (Q (-1) φ5 α5)))))))))))) ∧
   (x1 = 0 →
   (eX2_isMatter d 9 x2 φ α (fun r10 φ10 α10 =>
     ((r10 = 0 →
     (Q (-1) φ10 α10)) ∧
     (¬ (r10 = 0) →
     (eX10_within d x3 0 5 φ10 α10 (fun r12 φ12 α12 =>
       ((¬ r12 = 0 →
       (eX10_pick d 10 x2 φ12 α12 (fun r14 φ14 α14 =>
         (eX10_letterOf d r14 x3 φ14 α14 (fun r15 φ15 α15 =>
         (Q r15 φ15 α15)))))) ∧
       (r12 = 0 →
       (Q (-1) φ12 α12)))))))))))) : eX10_letter (d + 1) x1 x2 x3 φ α Q := by
  intro Ln
  refine r_iload_n (pc' := 1) (kX10_letter_0 0 rfl) rfl rfl ?_
  refine r_if_ne (t := 15) (pc' := 4) (kX10_letter_0 1 rfl) rfl rfl (fun c1 => ?_) (fun c1 => ?_)
  · have h := h.1 c1
    refine r_iload_n (pc' := 16) (kX10_letter_0 7 rfl) rfl rfl ?_
    refine r_iconst 1 (pc' := 17) (kX10_letter_0 8 rfl) rfl (by unfold inR; omega) ?_
    refine r_icmp_ne (t := 35) (pc' := 20) (kX10_letter_0 9 rfl) rfl rfl (fun c2 => ?_) (fun c2 => ?_)
    · have h := h.1 c2
      refine r_iconst 0 (pc' := 36) (kX10_letter_0 17 rfl) rfl (by unfold inR; omega) ?_
      refine r_istore (L' := [(2, 0), (0, x1), (0, x2), (0, x3), (0, 0)]) (pc' := 38) (kX10_letter_0 18 rfl) rfl (Nat.le_of_ble_eq_true rfl) rfl ?_
      refine r_iload (pc' := 40) (kX10_letter_0 19 rfl) rfl rfl ?_
      refine r_if_eq (t := 52) (pc' := 43) (kX10_letter_0 20 rfl) rfl rfl (fun _ => ?_) (fun cz => absurd cz (by decide))
      refine r_iconst (-1) (pc' := 53) (kX10_letter_0 26 rfl) rfl (by unfold inR; omega) ?_
      exact s_iret (kX10_letter_0 27 rfl) rfl h
    · have h := h.2 c2
      refine r_aload_n (pc' := 21) (kX10_letter_0 10 rfl) rfl rfl ?_
      refine s_getr (v := 9) (pc' := 24) (kX10_letter_0 11 rfl) rfl fkX10_30 rfl rfl (kz0 Ln) rfl (by decide) ?_
      refine r_iload_n (pc' := 25) (kX10_letter_0 12 rfl) rfl rfl ?_
      refine s_callV (As := [(0, x2)]) (o := 9) (S := []) (S2 := fun z => [(0, z)]) (pc' := 28) (kX10_letter_0 13 rfl) rfl rfl nkX2_isClerk mlX10_179 imX2_isClerk rfl slX2_isClerk rfl (Nat.le_of_ble_eq_true rfl) (Nat.le_of_ble_eq_true rfl) (kz9 Ln) h (fun z => rfl) (fun r3 φ3 α3 h => ?_)
      refine r_if_eq (t := 35) (pc' := 31) (kX10_letter_0 14 rfl) rfl rfl (fun c4 => ?_) (fun c4 => ?_)
      · have h := h.1 c4
        refine r_iconst 0 (pc' := 36) (kX10_letter_0 17 rfl) rfl (by unfold inR; omega) ?_
        refine r_istore (L' := [(2, 0), (0, x1), (0, x2), (0, x3), (0, 0)]) (pc' := 38) (kX10_letter_0 18 rfl) rfl (Nat.le_of_ble_eq_true rfl) rfl ?_
        refine r_iload (pc' := 40) (kX10_letter_0 19 rfl) rfl rfl ?_
        refine r_if_eq (t := 52) (pc' := 43) (kX10_letter_0 20 rfl) rfl rfl (fun _ => ?_) (fun cz => absurd cz (by decide))
        refine r_iconst (-1) (pc' := 53) (kX10_letter_0 26 rfl) rfl (by unfold inR; omega) ?_
        exact s_iret (kX10_letter_0 27 rfl) rfl h
      · have h := h.2 c4
        refine r_iconst 1 (pc' := 32) (kX10_letter_0 15 rfl) rfl (by unfold inR; omega) ?_
        refine r_goto (pc' := 36) (kX10_letter_0 16 rfl) rfl ?_
        refine r_istore (L' := [(2, 0), (0, x1), (0, x2), (0, x3), (0, 1)]) (pc' := 38) (kX10_letter_0 18 rfl) rfl (Nat.le_of_ble_eq_true rfl) rfl ?_
        refine r_iload (pc' := 40) (kX10_letter_0 19 rfl) rfl rfl ?_
        refine r_if_eq (t := 52) (pc' := 43) (kX10_letter_0 20 rfl) rfl rfl (fun cz => absurd cz (by decide)) (fun _ => ?_)
        refine r_iload_n (pc' := 44) (kX10_letter_0 21 rfl) rfl rfl ?_
        refine r_iconst 0 (pc' := 45) (kX10_letter_0 22 rfl) rfl (by unfold inR; omega) ?_
        refine r_iconst 5 (pc' := 46) (kX10_letter_0 23 rfl) rfl (by unfold inR; omega) ?_
        refine s_callS (As := [(0, x3), (0, 0), (0, 5)]) (S := []) (S2 := fun z => [(0, z)]) (pc' := 49) (kX10_letter_0 24 rfl) rfl rfl nkX10_within mlX10_182 scX10_within rfl (Nat.le_of_ble_eq_true rfl) (Nat.le_of_ble_eq_true rfl) h (fun z => rfl) (fun r5 φ5 α5 h => ?_)
        refine r_if_ne (t := 54) (pc' := 52) (kX10_letter_0 25 rfl) rfl rfl (fun c6 => ?_) (fun c6 => ?_)
        · have h := h.1 c6
          refine r_aload_n (pc' := 55) (kX10_letter_0 28 rfl) rfl rfl ?_
          refine s_getr (v := 9) (pc' := 58) (kX10_letter_0 29 rfl) rfl fkX10_30 rfl rfl (kz0 Ln) rfl (by decide) ?_
          refine s_getr (v := 10) (pc' := 61) (kX10_letter_0 30 rfl) rfl fkX10_186 rfl rfl (kz9 Ln) rfl (by decide) ?_
          refine r_iload_n (pc' := 62) (kX10_letter_0 31 rfl) rfl rfl ?_
          refine r_if_ne (t := 69) (pc' := 65) (kX10_letter_0 32 rfl) rfl rfl (fun _ => ?_) (fun cz => absurd cz c1)
          refine r_iconst 4 (pc' := 70) (kX10_letter_0 35 rfl) rfl (by unfold inR; omega) ?_
          refine r_iload_n (pc' := 71) (kX10_letter_0 36 rfl) rfl rfl ?_
          have g7 := h.1
          have h := h.2
          refine r_iadd (pc' := 72) (kX10_letter_0 37 rfl) rfl g7 ?_
          refine s_callS (As := [(2, 10), (0, (4 + x2))]) (S := []) (S2 := fun z => [(0, z)]) (pc' := 75) (kX10_letter_0 38 rfl) rfl rfl nkX10_pick mlX10_189 scX10_pick rfl (Nat.le_of_ble_eq_true rfl) (Nat.le_of_ble_eq_true rfl) h (fun z => rfl) (fun r8 φ8 α8 h => ?_)
          refine r_iload_n (pc' := 76) (kX10_letter_0 39 rfl) rfl rfl ?_
          refine s_callS (As := [(0, r8), (0, x3)]) (S := []) (S2 := fun z => [(0, z)]) (pc' := 79) (kX10_letter_0 40 rfl) rfl rfl nkX10_letterOf mlX10_193 scX10_letterOf rfl (Nat.le_of_ble_eq_true rfl) (Nat.le_of_ble_eq_true rfl) h (fun z => rfl) (fun r9 φ9 α9 h => ?_)
          exact s_iret (kX10_letter_0 41 rfl) rfl h
        · have h := h.2 c6
          refine r_iconst (-1) (pc' := 53) (kX10_letter_0 26 rfl) rfl (by unfold inR; omega) ?_
          exact s_iret (kX10_letter_0 27 rfl) rfl h
  · have h := h.2 c1
    refine r_aload_n (pc' := 5) (kX10_letter_0 2 rfl) rfl rfl ?_
    refine s_getr (v := 9) (pc' := 8) (kX10_letter_0 3 rfl) rfl fkX10_30 rfl rfl (kz0 Ln) rfl (by decide) ?_
    refine r_iload_n (pc' := 9) (kX10_letter_0 4 rfl) rfl rfl ?_
    refine s_callV (As := [(0, x2)]) (o := 9) (S := []) (S2 := fun z => [(0, z)]) (pc' := 12) (kX10_letter_0 5 rfl) rfl rfl nkX2_isMatter mlX10_176 imX2_isMatter rfl slX2_isMatter rfl (Nat.le_of_ble_eq_true rfl) (Nat.le_of_ble_eq_true rfl) (kz9 Ln) h (fun z => rfl) (fun r10 φ10 α10 h => ?_)
    refine r_goto (pc' := 36) (kX10_letter_0 6 rfl) rfl ?_
    refine r_istore (L' := [(2, 0), (0, x1), (0, x2), (0, x3), (0, r10)]) (pc' := 38) (kX10_letter_0 18 rfl) rfl (Nat.le_of_ble_eq_true rfl) rfl ?_
    refine r_iload (pc' := 40) (kX10_letter_0 19 rfl) rfl rfl ?_
    refine r_if_eq (t := 52) (pc' := 43) (kX10_letter_0 20 rfl) rfl rfl (fun c11 => ?_) (fun c11 => ?_)
    · have h := h.1 c11
      refine r_iconst (-1) (pc' := 53) (kX10_letter_0 26 rfl) rfl (by unfold inR; omega) ?_
      exact s_iret (kX10_letter_0 27 rfl) rfl h
    · have h := h.2 c11
      refine r_iload_n (pc' := 44) (kX10_letter_0 21 rfl) rfl rfl ?_
      refine r_iconst 0 (pc' := 45) (kX10_letter_0 22 rfl) rfl (by unfold inR; omega) ?_
      refine r_iconst 5 (pc' := 46) (kX10_letter_0 23 rfl) rfl (by unfold inR; omega) ?_
      refine s_callS (As := [(0, x3), (0, 0), (0, 5)]) (S := []) (S2 := fun z => [(0, z)]) (pc' := 49) (kX10_letter_0 24 rfl) rfl rfl nkX10_within mlX10_182 scX10_within rfl (Nat.le_of_ble_eq_true rfl) (Nat.le_of_ble_eq_true rfl) h (fun z => rfl) (fun r12 φ12 α12 h => ?_)
      refine r_if_ne (t := 54) (pc' := 52) (kX10_letter_0 25 rfl) rfl rfl (fun c13 => ?_) (fun c13 => ?_)
      · have h := h.1 c13
        refine r_aload_n (pc' := 55) (kX10_letter_0 28 rfl) rfl rfl ?_
        refine s_getr (v := 9) (pc' := 58) (kX10_letter_0 29 rfl) rfl fkX10_30 rfl rfl (kz0 Ln) rfl (by decide) ?_
        refine s_getr (v := 10) (pc' := 61) (kX10_letter_0 30 rfl) rfl fkX10_186 rfl rfl (kz9 Ln) rfl (by decide) ?_
        refine r_iload_n (pc' := 62) (kX10_letter_0 31 rfl) rfl rfl ?_
        refine r_if_ne (t := 69) (pc' := 65) (kX10_letter_0 32 rfl) rfl rfl (fun cz => absurd c1 cz) (fun _ => ?_)
        refine r_iload_n (pc' := 66) (kX10_letter_0 33 rfl) rfl rfl ?_
        refine r_goto (pc' := 72) (kX10_letter_0 34 rfl) rfl ?_
        refine s_callS (As := [(2, 10), (0, x2)]) (S := []) (S2 := fun z => [(0, z)]) (pc' := 75) (kX10_letter_0 38 rfl) rfl rfl nkX10_pick mlX10_189 scX10_pick rfl (Nat.le_of_ble_eq_true rfl) (Nat.le_of_ble_eq_true rfl) h (fun z => rfl) (fun r14 φ14 α14 h => ?_)
        refine r_iload_n (pc' := 76) (kX10_letter_0 39 rfl) rfl rfl ?_
        refine s_callS (As := [(0, r14), (0, x3)]) (S := []) (S2 := fun z => [(0, z)]) (pc' := 79) (kX10_letter_0 40 rfl) rfl rfl nkX10_letterOf mlX10_193 scX10_letterOf rfl (Nat.le_of_ble_eq_true rfl) (Nat.le_of_ble_eq_true rfl) h (fun z => rfl) (fun r15 φ15 α15 h => ?_)
        exact s_iret (kX10_letter_0 41 rfl) rfl h
      · have h := h.2 c13
        refine r_iconst (-1) (pc' := 53) (kX10_letter_0 26 rfl) rfl (by unfold inR; omega) ?_
        exact s_iret (kX10_letter_0 27 rfl) rfl h
theorem vX10_seat_0 {d : Nat} {φ : aF} {α : aA} {Q : Int → aF → aA → Prop} {x1 : Int} (h : (eX7_sitterAt d 29 x1 φ α (fun r1 φ1 α1 =>
   (Q r1 φ1 α1)))) : eX10_seat (d + 1) x1 φ α Q := by
  intro Ln
  refine r_aload_n (pc' := 1) (kX10_seat_0 0 rfl) rfl rfl ?_
  refine s_getr (v := 29) (pc' := 4) (kX10_seat_0 1 rfl) rfl fkX10_40 rfl rfl (kz0 Ln) rfl (by decide) ?_
  refine r_iload_n (pc' := 5) (kX10_seat_0 2 rfl) rfl rfl ?_
  refine s_callV (As := [(0, x1)]) (o := 29) (S := []) (S2 := fun z => [(0, z)]) (pc' := 8) (kX10_seat_0 3 rfl) rfl rfl nkX7_sitterAt mlX10_197 imX7_sitterAt rfl slX7_sitterAt rfl (Nat.le_of_ble_eq_true rfl) (Nat.le_of_ble_eq_true rfl) (kz29 Ln) h (fun z => rfl) (fun r1 φ1 α1 h => ?_)
  exact s_iret (kX10_seat_0 4 rfl) rfl h
theorem vX10_clerk_0 {d : Nat} {φ : aF} {α : aA} {Q : Int → aF → aA → Prop} {x1 : Int} {x2 : Int} (h : (eX2_isClerk d 9 x1 φ α (fun r1 φ1 α1 =>
   ((¬ r1 = 0 →
   ((x2 = 0 →
     (eX10_pick d 30 x1 φ1 α1 (fun r4 φ4 α4 =>
       (Q r4 φ4 α4)))) ∧
     ((x2 = 1 →
     (eX10_pick d 11 x1 φ1 α1 (fun r5 φ5 α5 =>
       (Q r5 φ5 α5)))) ∧
     ((x2 = 2 →
     (eX10_pick d 33 x1 φ1 α1 (fun r6 φ6 α6 =>
       (Q r6 φ6 α6)))) ∧
     ((x2 = 3 →
     (eX7_mindOf d 29 x1 φ1 α1 (fun r7 φ7 α7 =>
       (Q r7 φ7 α7)))) ∧
     ((x2 = 4 →
     (eX4_powerOf d x1 φ1 α1 (fun r8 φ8 α8 =>
       (Q r8 φ8 α8)))) ∧
     ((¬ x2 = 0 ∧ ¬ x2 = 1 ∧ ¬ x2 = 2 ∧ ¬ x2 = 3 ∧ ¬ x2 = 4) →
     (Q (-1) φ1 α1)))))))) ∧
   (r1 = 0 →
   (Q (-1) φ1 α1)))))) : eX10_clerk (d + 1) x1 x2 φ α Q := by
  intro Ln
  refine r_aload_n (pc' := 1) (kX10_clerk_0 0 rfl) rfl rfl ?_
  refine s_getr (v := 9) (pc' := 4) (kX10_clerk_0 1 rfl) rfl fkX10_30 rfl rfl (kz0 Ln) rfl (by decide) ?_
  refine r_iload_n (pc' := 5) (kX10_clerk_0 2 rfl) rfl rfl ?_
  refine s_callV (As := [(0, x1)]) (o := 9) (S := []) (S2 := fun z => [(0, z)]) (pc' := 8) (kX10_clerk_0 3 rfl) rfl rfl nkX2_isClerk mlX10_179 imX2_isClerk rfl slX2_isClerk rfl (Nat.le_of_ble_eq_true rfl) (Nat.le_of_ble_eq_true rfl) (kz9 Ln) h (fun z => rfl) (fun r1 φ1 α1 h => ?_)
  refine r_if_ne (t := 13) (pc' := 11) (kX10_clerk_0 4 rfl) rfl rfl (fun c2 => ?_) (fun c2 => ?_)
  · have h := h.1 c2
    refine r_iload_n (pc' := 14) (kX10_clerk_0 7 rfl) rfl rfl ?_
    have hD : (¬ x2 = 0 ∧ ¬ x2 = 1 ∧ ¬ x2 = 2 ∧ ¬ x2 = 3 ∧ ¬ x2 = 4) → Rn (d + 1) mX10_clerk 102 [(2, 0), (0, x1), (0, x2)] [] (K0 Ln) (mix φ1) (mixA α1) (0, 0) (Q0 mX10_clerk Ln Q) := by
      intro c0
      have h := h.2.2.2.2.2 c0
      refine r_iconst (-1) (pc' := 103) (kX10_clerk_0 37 rfl) rfl (by unfold inR; omega) ?_
      exact s_iret (kX10_clerk_0 38 rfl) rfl h
    by_cases c3_0 : x2 = 0
    · have h := h.1 c3_0
      refine r_tabIn (pc' := 48) 0 c3_0 (kX10_clerk_0 8 rfl) (by decide) (by decide) rfl rfl ?_
      refine r_aload_n (pc' := 49) (kX10_clerk_0 9 rfl) rfl rfl ?_
      refine s_getr (v := 29) (pc' := 52) (kX10_clerk_0 10 rfl) rfl fkX10_40 rfl rfl (kz0 Ln) rfl (by decide) ?_
      refine s_getr (v := 30) (pc' := 55) (kX10_clerk_0 11 rfl) rfl fkX10_200 rfl rfl (kz29 Ln) rfl (by decide) ?_
      refine r_iload_n (pc' := 56) (kX10_clerk_0 12 rfl) rfl rfl ?_
      refine s_callS (As := [(2, 30), (0, x1)]) (S := []) (S2 := fun z => [(0, z)]) (pc' := 59) (kX10_clerk_0 13 rfl) rfl rfl nkX10_pick mlX10_189 scX10_pick rfl (Nat.le_of_ble_eq_true rfl) (Nat.le_of_ble_eq_true rfl) h (fun z => rfl) (fun r4 φ4 α4 h => ?_)
      exact s_iret (kX10_clerk_0 14 rfl) rfl h
    by_cases c3_1 : x2 = 1
    · have h := h.2.1 c3_1
      refine r_tabIn (pc' := 60) 1 c3_1 (kX10_clerk_0 8 rfl) (by decide) (by decide) rfl rfl ?_
      refine r_aload_n (pc' := 61) (kX10_clerk_0 15 rfl) rfl rfl ?_
      refine s_getr (v := 9) (pc' := 64) (kX10_clerk_0 16 rfl) rfl fkX10_30 rfl rfl (kz0 Ln) rfl (by decide) ?_
      refine s_getr (v := 11) (pc' := 67) (kX10_clerk_0 17 rfl) rfl fkX10_202 rfl rfl (kz9 Ln) rfl (by decide) ?_
      refine r_iload_n (pc' := 68) (kX10_clerk_0 18 rfl) rfl rfl ?_
      refine s_callS (As := [(2, 11), (0, x1)]) (S := []) (S2 := fun z => [(0, z)]) (pc' := 71) (kX10_clerk_0 19 rfl) rfl rfl nkX10_pick mlX10_189 scX10_pick rfl (Nat.le_of_ble_eq_true rfl) (Nat.le_of_ble_eq_true rfl) h (fun z => rfl) (fun r5 φ5 α5 h => ?_)
      exact s_iret (kX10_clerk_0 20 rfl) rfl h
    by_cases c3_2 : x2 = 2
    · have h := h.2.2.1 c3_2
      refine r_tabIn (pc' := 72) 2 c3_2 (kX10_clerk_0 8 rfl) (by decide) (by decide) rfl rfl ?_
      refine r_aload_n (pc' := 73) (kX10_clerk_0 21 rfl) rfl rfl ?_
      refine s_getr (v := 29) (pc' := 76) (kX10_clerk_0 22 rfl) rfl fkX10_40 rfl rfl (kz0 Ln) rfl (by decide) ?_
      refine s_getr (v := 33) (pc' := 79) (kX10_clerk_0 23 rfl) rfl fkX10_156 rfl rfl (kz29 Ln) rfl (by decide) ?_
      refine r_iload_n (pc' := 80) (kX10_clerk_0 24 rfl) rfl rfl ?_
      refine s_callS (As := [(2, 33), (0, x1)]) (S := []) (S2 := fun z => [(0, z)]) (pc' := 83) (kX10_clerk_0 25 rfl) rfl rfl nkX10_pick mlX10_189 scX10_pick rfl (Nat.le_of_ble_eq_true rfl) (Nat.le_of_ble_eq_true rfl) h (fun z => rfl) (fun r6 φ6 α6 h => ?_)
      exact s_iret (kX10_clerk_0 26 rfl) rfl h
    by_cases c3_3 : x2 = 3
    · have h := h.2.2.2.1 c3_3
      refine r_tabIn (pc' := 84) 3 c3_3 (kX10_clerk_0 8 rfl) (by decide) (by decide) rfl rfl ?_
      refine r_aload_n (pc' := 85) (kX10_clerk_0 27 rfl) rfl rfl ?_
      refine s_getr (v := 29) (pc' := 88) (kX10_clerk_0 28 rfl) rfl fkX10_40 rfl rfl (kz0 Ln) rfl (by decide) ?_
      refine r_iload_n (pc' := 89) (kX10_clerk_0 29 rfl) rfl rfl ?_
      refine s_callV (As := [(0, x1)]) (o := 29) (S := []) (S2 := fun z => [(0, z)]) (pc' := 92) (kX10_clerk_0 30 rfl) rfl rfl nkX7_mindOf mlX10_205 imX7_mindOf rfl slX7_mindOf rfl (Nat.le_of_ble_eq_true rfl) (Nat.le_of_ble_eq_true rfl) (kz29 Ln) h (fun z => rfl) (fun r7 φ7 α7 h => ?_)
      exact s_iret (kX10_clerk_0 31 rfl) rfl h
    by_cases c3_4 : x2 = 4
    · have h := h.2.2.2.2.1 c3_4
      refine r_tabIn (pc' := 93) 4 c3_4 (kX10_clerk_0 8 rfl) (by decide) (by decide) rfl rfl ?_
      refine r_aload_n (pc' := 94) (kX10_clerk_0 32 rfl) rfl rfl ?_
      refine s_getr (v := 192) (pc' := 97) (kX10_clerk_0 33 rfl) rfl fkX10_86 rfl rfl (kz0 Ln) rfl (by decide) ?_
      refine r_iload_n (pc' := 98) (kX10_clerk_0 34 rfl) rfl rfl ?_
      refine s_callV (As := [(0, x1)]) (o := 192) (S := []) (S2 := fun z => [(0, z)]) (pc' := 101) (kX10_clerk_0 35 rfl) rfl rfl nkX4_powerOf mlX10_208 imX4_powerOf rfl slX4_powerOf rfl (Nat.le_of_ble_eq_true rfl) (Nat.le_of_ble_eq_true rfl) (kz192 Ln) h (fun z => rfl) (fun r8 φ8 α8 h => ?_)
      exact s_iret (kX10_clerk_0 36 rfl) rfl h
    have hD := hD ⟨c3_0, c3_1, c3_2, c3_3, c3_4⟩
    exact r_tabOut (pc' := 102) (kX10_clerk_0 8 rfl) (by omega) rfl hD
  · have h := h.2 c2
    refine r_iconst (-1) (pc' := 12) (kX10_clerk_0 5 rfl) rfl (by unfold inR; omega) ?_
    exact s_iret (kX10_clerk_0 6 rfl) rfl h
theorem vX10_drops_0 {d : Nat} {φ : aF} {α : aA} {Q : Int → aF → aA → Prop} {x1 : Int} {x2 : Int} (h : (eX2_areThere d 9 x1 x2 φ α (fun r1 φ1 α1 =>
   ((r1 = 0 →
   (Q (-1) φ1 α1)) ∧
   (¬ (r1 = 0) →
   (eX7_dropsOf d 29 x1 x2 φ1 α1 (fun r3 φ3 α3 =>
     (Q r3 φ3 α3)))))))) : eX10_drops (d + 1) x1 x2 φ α Q := by
  intro Ln
  refine r_aload_n (pc' := 1) (kX10_drops_0 0 rfl) rfl rfl ?_
  refine s_getr (v := 9) (pc' := 4) (kX10_drops_0 1 rfl) rfl fkX10_30 rfl rfl (kz0 Ln) rfl (by decide) ?_
  refine r_iload_n (pc' := 5) (kX10_drops_0 2 rfl) rfl rfl ?_
  refine r_iload_n (pc' := 6) (kX10_drops_0 3 rfl) rfl rfl ?_
  refine s_callV (As := [(0, x1), (0, x2)]) (o := 9) (S := []) (S2 := fun z => [(0, z)]) (pc' := 9) (kX10_drops_0 4 rfl) rfl rfl nkX2_areThere mlX10_211 imX2_areThere rfl slX2_areThere rfl (Nat.le_of_ble_eq_true rfl) (Nat.le_of_ble_eq_true rfl) (kz9 Ln) h (fun z => rfl) (fun r1 φ1 α1 h => ?_)
  refine r_if_eq (t := 24) (pc' := 12) (kX10_drops_0 5 rfl) rfl rfl (fun c2 => ?_) (fun c2 => ?_)
  · have h := h.1 c2
    refine r_iconst (-1) (pc' := 25) (kX10_drops_0 12 rfl) rfl (by unfold inR; omega) ?_
    exact s_iret (kX10_drops_0 13 rfl) rfl h
  · have h := h.2 c2
    refine r_aload_n (pc' := 13) (kX10_drops_0 6 rfl) rfl rfl ?_
    refine s_getr (v := 29) (pc' := 16) (kX10_drops_0 7 rfl) rfl fkX10_40 rfl rfl (kz0 Ln) rfl (by decide) ?_
    refine r_iload_n (pc' := 17) (kX10_drops_0 8 rfl) rfl rfl ?_
    refine r_iload_n (pc' := 18) (kX10_drops_0 9 rfl) rfl rfl ?_
    refine s_callV (As := [(0, x1), (0, x2)]) (o := 29) (S := []) (S2 := fun z => [(0, z)]) (pc' := 21) (kX10_drops_0 10 rfl) rfl rfl nkX7_dropsOf mlX10_215 imX7_dropsOf rfl slX7_dropsOf rfl (Nat.le_of_ble_eq_true rfl) (Nat.le_of_ble_eq_true rfl) (kz29 Ln) h (fun z => rfl) (fun r3 φ3 α3 h => ?_)
    refine r_goto (pc' := 25) (kX10_drops_0 11 rfl) rfl ?_
    exact s_iret (kX10_drops_0 13 rfl) rfl h
theorem vX10_matter_0 {d : Nat} {φ : aF} {α : aA} {Q : Int → aF → aA → Prop} {x1 : Int} {x2 : Int} (h : (eX2_isMatter d 9 x1 φ α (fun r1 φ1 α1 =>
   ((¬ r1 = 0 →
   ((x2 = 0 →
     (eX7_heldOf d 29 x1 φ1 α1 (fun r4 φ4 α4 =>
       (Q r4 φ4 α4)))) ∧
     ((x2 = 1 →
     (eX7_poolOf d 29 0 x1 φ1 α1 (fun r5 φ5 α5 =>
       (Q r5 φ5 α5)))) ∧
     ((x2 = 2 →
     (eX7_poolOf d 29 1 x1 φ1 α1 (fun r6 φ6 α6 =>
       (Q r6 φ6 α6)))) ∧
     ((x2 = 3 →
     (eX7_poolOf d 29 2 x1 φ1 α1 (fun r7 φ7 α7 =>
       (Q r7 φ7 α7)))) ∧
     ((x2 = 4 →
     (eX7_knowing d 29 x1 φ1 α1 (fun r8 φ8 α8 =>
       (Q r8 φ8 α8)))) ∧
     ((¬ x2 = 0 ∧ ¬ x2 = 1 ∧ ¬ x2 = 2 ∧ ¬ x2 = 3 ∧ ¬ x2 = 4) →
     (Q (-1) φ1 α1)))))))) ∧
   (r1 = 0 →
   (Q (-1) φ1 α1)))))) : eX10_matter (d + 1) x1 x2 φ α Q := by
  intro Ln
  refine r_aload_n (pc' := 1) (kX10_matter_0 0 rfl) rfl rfl ?_
  refine s_getr (v := 9) (pc' := 4) (kX10_matter_0 1 rfl) rfl fkX10_30 rfl rfl (kz0 Ln) rfl (by decide) ?_
  refine r_iload_n (pc' := 5) (kX10_matter_0 2 rfl) rfl rfl ?_
  refine s_callV (As := [(0, x1)]) (o := 9) (S := []) (S2 := fun z => [(0, z)]) (pc' := 8) (kX10_matter_0 3 rfl) rfl rfl nkX2_isMatter mlX10_176 imX2_isMatter rfl slX2_isMatter rfl (Nat.le_of_ble_eq_true rfl) (Nat.le_of_ble_eq_true rfl) (kz9 Ln) h (fun z => rfl) (fun r1 φ1 α1 h => ?_)
  refine r_if_ne (t := 13) (pc' := 11) (kX10_matter_0 4 rfl) rfl rfl (fun c2 => ?_) (fun c2 => ?_)
  · have h := h.1 c2
    refine r_iload_n (pc' := 14) (kX10_matter_0 7 rfl) rfl rfl ?_
    have hD : (¬ x2 = 0 ∧ ¬ x2 = 1 ∧ ¬ x2 = 2 ∧ ¬ x2 = 3 ∧ ¬ x2 = 4) → Rn (d + 1) mX10_matter 96 [(2, 0), (0, x1), (0, x2)] [] (K0 Ln) (mix φ1) (mixA α1) (0, 0) (Q0 mX10_matter Ln Q) := by
      intro c0
      have h := h.2.2.2.2.2 c0
      refine r_iconst (-1) (pc' := 97) (kX10_matter_0 37 rfl) rfl (by unfold inR; omega) ?_
      exact s_iret (kX10_matter_0 38 rfl) rfl h
    by_cases c3_0 : x2 = 0
    · have h := h.1 c3_0
      refine r_tabIn (pc' := 48) 0 c3_0 (kX10_matter_0 8 rfl) (by decide) (by decide) rfl rfl ?_
      refine r_aload_n (pc' := 49) (kX10_matter_0 9 rfl) rfl rfl ?_
      refine s_getr (v := 29) (pc' := 52) (kX10_matter_0 10 rfl) rfl fkX10_40 rfl rfl (kz0 Ln) rfl (by decide) ?_
      refine r_iload_n (pc' := 53) (kX10_matter_0 11 rfl) rfl rfl ?_
      refine s_callV (As := [(0, x1)]) (o := 29) (S := []) (S2 := fun z => [(0, z)]) (pc' := 56) (kX10_matter_0 12 rfl) rfl rfl nkX7_heldOf mlX10_218 imX7_heldOf rfl slX7_heldOf rfl (Nat.le_of_ble_eq_true rfl) (Nat.le_of_ble_eq_true rfl) (kz29 Ln) h (fun z => rfl) (fun r4 φ4 α4 h => ?_)
      exact s_iret (kX10_matter_0 13 rfl) rfl h
    by_cases c3_1 : x2 = 1
    · have h := h.2.1 c3_1
      refine r_tabIn (pc' := 57) 1 c3_1 (kX10_matter_0 8 rfl) (by decide) (by decide) rfl rfl ?_
      refine r_aload_n (pc' := 58) (kX10_matter_0 14 rfl) rfl rfl ?_
      refine s_getr (v := 29) (pc' := 61) (kX10_matter_0 15 rfl) rfl fkX10_40 rfl rfl (kz0 Ln) rfl (by decide) ?_
      refine r_iconst 0 (pc' := 62) (kX10_matter_0 16 rfl) rfl (by unfold inR; omega) ?_
      refine r_iload_n (pc' := 63) (kX10_matter_0 17 rfl) rfl rfl ?_
      refine s_callV (As := [(0, 0), (0, x1)]) (o := 29) (S := []) (S2 := fun z => [(0, z)]) (pc' := 66) (kX10_matter_0 18 rfl) rfl rfl nkX7_poolOf mlX10_221 imX7_poolOf rfl slX7_poolOf rfl (Nat.le_of_ble_eq_true rfl) (Nat.le_of_ble_eq_true rfl) (kz29 Ln) h (fun z => rfl) (fun r5 φ5 α5 h => ?_)
      exact s_iret (kX10_matter_0 19 rfl) rfl h
    by_cases c3_2 : x2 = 2
    · have h := h.2.2.1 c3_2
      refine r_tabIn (pc' := 67) 2 c3_2 (kX10_matter_0 8 rfl) (by decide) (by decide) rfl rfl ?_
      refine r_aload_n (pc' := 68) (kX10_matter_0 20 rfl) rfl rfl ?_
      refine s_getr (v := 29) (pc' := 71) (kX10_matter_0 21 rfl) rfl fkX10_40 rfl rfl (kz0 Ln) rfl (by decide) ?_
      refine r_iconst 1 (pc' := 72) (kX10_matter_0 22 rfl) rfl (by unfold inR; omega) ?_
      refine r_iload_n (pc' := 73) (kX10_matter_0 23 rfl) rfl rfl ?_
      refine s_callV (As := [(0, 1), (0, x1)]) (o := 29) (S := []) (S2 := fun z => [(0, z)]) (pc' := 76) (kX10_matter_0 24 rfl) rfl rfl nkX7_poolOf mlX10_221 imX7_poolOf rfl slX7_poolOf rfl (Nat.le_of_ble_eq_true rfl) (Nat.le_of_ble_eq_true rfl) (kz29 Ln) h (fun z => rfl) (fun r6 φ6 α6 h => ?_)
      exact s_iret (kX10_matter_0 25 rfl) rfl h
    by_cases c3_3 : x2 = 3
    · have h := h.2.2.2.1 c3_3
      refine r_tabIn (pc' := 77) 3 c3_3 (kX10_matter_0 8 rfl) (by decide) (by decide) rfl rfl ?_
      refine r_aload_n (pc' := 78) (kX10_matter_0 26 rfl) rfl rfl ?_
      refine s_getr (v := 29) (pc' := 81) (kX10_matter_0 27 rfl) rfl fkX10_40 rfl rfl (kz0 Ln) rfl (by decide) ?_
      refine r_iconst 2 (pc' := 82) (kX10_matter_0 28 rfl) rfl (by unfold inR; omega) ?_
      refine r_iload_n (pc' := 83) (kX10_matter_0 29 rfl) rfl rfl ?_
      refine s_callV (As := [(0, 2), (0, x1)]) (o := 29) (S := []) (S2 := fun z => [(0, z)]) (pc' := 86) (kX10_matter_0 30 rfl) rfl rfl nkX7_poolOf mlX10_221 imX7_poolOf rfl slX7_poolOf rfl (Nat.le_of_ble_eq_true rfl) (Nat.le_of_ble_eq_true rfl) (kz29 Ln) h (fun z => rfl) (fun r7 φ7 α7 h => ?_)
      exact s_iret (kX10_matter_0 31 rfl) rfl h
    by_cases c3_4 : x2 = 4
    · have h := h.2.2.2.2.1 c3_4
      refine r_tabIn (pc' := 87) 4 c3_4 (kX10_matter_0 8 rfl) (by decide) (by decide) rfl rfl ?_
      refine r_aload_n (pc' := 88) (kX10_matter_0 32 rfl) rfl rfl ?_
      refine s_getr (v := 29) (pc' := 91) (kX10_matter_0 33 rfl) rfl fkX10_40 rfl rfl (kz0 Ln) rfl (by decide) ?_
      refine r_iload_n (pc' := 92) (kX10_matter_0 34 rfl) rfl rfl ?_
      refine s_callV (As := [(0, x1)]) (o := 29) (S := []) (S2 := fun z => [(0, z)]) (pc' := 95) (kX10_matter_0 35 rfl) rfl rfl nkX7_knowing mlX10_224 imX7_knowing rfl slX7_knowing rfl (Nat.le_of_ble_eq_true rfl) (Nat.le_of_ble_eq_true rfl) (kz29 Ln) h (fun z => rfl) (fun r8 φ8 α8 h => ?_)
      exact s_iret (kX10_matter_0 36 rfl) rfl h
    have hD := hD ⟨c3_0, c3_1, c3_2, c3_3, c3_4⟩
    exact r_tabOut (pc' := 96) (kX10_matter_0 8 rfl) (by omega) rfl hD
  · have h := h.2 c2
    refine r_iconst (-1) (pc' := 12) (kX10_matter_0 5 rfl) rfl (by unfold inR; omega) ?_
    exact s_iret (kX10_matter_0 6 rfl) rfl h
theorem vX10_leak_0 {d : Nat} {φ : aF} {α : aA} {Q : Int → aF → aA → Prop} {x1 : Int} {x2 : Int} {x3 : Int} (h : (eX2_areThere d 9 x1 x3 φ α (fun r1 φ1 α1 =>
   ((r1 = 0 →
   (Q (-1) φ1 α1)) ∧
   (¬ (r1 = 0) →
   (eX10_within d x2 0 1 φ1 α1 (fun r3 φ3 α3 =>
     ((¬ r3 = 0 →
     (eX10_pick d 30 x1 φ3 α3 (fun r5 φ5 α5 =>
       ((¬ x2 = 0 →
       inR (r5 + 1) ∧ (eX7_sitterAt d 29 (r5 + 1) φ5 α5 (fun r8 φ8 α8 =>
         ((0 ≤ r8 →
         (eX9_flow d 29 x1 r8 x3 φ8 α8 (fun r10 φ10 α10 =>
           (Q r10 φ10 α10)))) ∧
         (¬ (0 ≤ r8) →
         (Q (-1) φ8 α8)))))) ∧
       (x2 = 0 →
       inR (r5 + (-1)) ∧ (eX7_sitterAt d 29 (r5 + (-1)) φ5 α5 (fun r12 φ12 α12 =>
         ((0 ≤ r12 →
         (eX9_flow d 29 x1 r12 x3 φ12 α12 (fun r14 φ14 α14 =>
           (Q r14 φ14 α14)))) ∧
         (¬ (0 ≤ r12) →
         (Q (-1) φ12 α12)))))))))) ∧
     (r3 = 0 →
     (Q (-1) φ3 α3)))))))))) : eX10_leak (d + 1) x1 x2 x3 φ α Q := by
  intro Ln
  refine r_aload_n (pc' := 1) (kX10_leak_0 0 rfl) rfl rfl ?_
  refine s_getr (v := 9) (pc' := 4) (kX10_leak_0 1 rfl) rfl fkX10_30 rfl rfl (kz0 Ln) rfl (by decide) ?_
  refine r_iload_n (pc' := 5) (kX10_leak_0 2 rfl) rfl rfl ?_
  refine r_iload_n (pc' := 6) (kX10_leak_0 3 rfl) rfl rfl ?_
  refine s_callV (As := [(0, x1), (0, x3)]) (o := 9) (S := []) (S2 := fun z => [(0, z)]) (pc' := 9) (kX10_leak_0 4 rfl) rfl rfl nkX2_areThere mlX10_211 imX2_areThere rfl slX2_areThere rfl (Nat.le_of_ble_eq_true rfl) (Nat.le_of_ble_eq_true rfl) (kz9 Ln) h (fun z => rfl) (fun r1 φ1 α1 h => ?_)
  refine r_if_eq (t := 21) (pc' := 12) (kX10_leak_0 5 rfl) rfl rfl (fun c2 => ?_) (fun c2 => ?_)
  · have h := h.1 c2
    refine r_iconst (-1) (pc' := 22) (kX10_leak_0 11 rfl) rfl (by unfold inR; omega) ?_
    exact s_iret (kX10_leak_0 12 rfl) rfl h
  · have h := h.2 c2
    refine r_iload_n (pc' := 13) (kX10_leak_0 6 rfl) rfl rfl ?_
    refine r_iconst 0 (pc' := 14) (kX10_leak_0 7 rfl) rfl (by unfold inR; omega) ?_
    refine r_iconst 1 (pc' := 15) (kX10_leak_0 8 rfl) rfl (by unfold inR; omega) ?_
    refine s_callS (As := [(0, x2), (0, 0), (0, 1)]) (S := []) (S2 := fun z => [(0, z)]) (pc' := 18) (kX10_leak_0 9 rfl) rfl rfl nkX10_within mlX10_182 scX10_within rfl (Nat.le_of_ble_eq_true rfl) (Nat.le_of_ble_eq_true rfl) h (fun z => rfl) (fun r3 φ3 α3 h => ?_)
    refine r_if_ne (t := 23) (pc' := 21) (kX10_leak_0 10 rfl) rfl rfl (fun c4 => ?_) (fun c4 => ?_)
    · have h := h.1 c4
      refine r_aload_n (pc' := 24) (kX10_leak_0 13 rfl) rfl rfl ?_
      refine s_getr (v := 29) (pc' := 27) (kX10_leak_0 14 rfl) rfl fkX10_40 rfl rfl (kz0 Ln) rfl (by decide) ?_
      refine r_aload_n (pc' := 28) (kX10_leak_0 15 rfl) rfl rfl ?_
      refine s_getr (v := 29) (pc' := 31) (kX10_leak_0 16 rfl) rfl fkX10_40 rfl rfl (kz0 Ln) rfl (by decide) ?_
      refine s_getr (v := 30) (pc' := 34) (kX10_leak_0 17 rfl) rfl fkX10_200 rfl rfl (kz29 Ln) rfl (by decide) ?_
      refine r_iload_n (pc' := 35) (kX10_leak_0 18 rfl) rfl rfl ?_
      refine s_callS (As := [(2, 30), (0, x1)]) (S := [(2, 29)]) (S2 := fun z => [(0, z), (2, 29)]) (pc' := 38) (kX10_leak_0 19 rfl) rfl rfl nkX10_pick mlX10_189 scX10_pick rfl (Nat.le_of_ble_eq_true rfl) (Nat.le_of_ble_eq_true rfl) h (fun z => rfl) (fun r5 φ5 α5 h => ?_)
      refine r_iload_n (pc' := 39) (kX10_leak_0 20 rfl) rfl rfl ?_
      refine r_if_ne (t := 46) (pc' := 42) (kX10_leak_0 21 rfl) rfl rfl (fun c6 => ?_) (fun c6 => ?_)
      · have h := h.1 c6
        refine r_iconst 1 (pc' := 47) (kX10_leak_0 24 rfl) rfl (by unfold inR; omega) ?_
        have g7 := h.1
        have h := h.2
        refine r_iadd (pc' := 48) (kX10_leak_0 25 rfl) rfl g7 ?_
        refine s_callV (As := [(0, (r5 + 1))]) (o := 29) (S := []) (S2 := fun z => [(0, z)]) (pc' := 51) (kX10_leak_0 26 rfl) rfl rfl nkX7_sitterAt mlX10_197 imX7_sitterAt rfl slX7_sitterAt rfl (Nat.le_of_ble_eq_true rfl) (Nat.le_of_ble_eq_true rfl) (kz29 Ln) h (fun z => rfl) (fun r8 φ8 α8 h => ?_)
        refine r_istore (L' := [(2, 0), (0, x1), (0, x2), (0, x3), (0, r8)]) (pc' := 53) (kX10_leak_0 27 rfl) rfl (Nat.le_of_ble_eq_true rfl) rfl ?_
        refine r_iload (pc' := 55) (kX10_leak_0 28 rfl) rfl rfl ?_
        refine r_if_ge (t := 62) (pc' := 58) (kX10_leak_0 29 rfl) rfl rfl (fun c9 => ?_) (fun c9 => ?_)
        · have h := h.1 c9
          refine r_aload_n (pc' := 63) (kX10_leak_0 32 rfl) rfl rfl ?_
          refine s_getr (v := 190) (pc' := 66) (kX10_leak_0 33 rfl) rfl fkX10_77 rfl rfl (kz0 Ln) rfl (by decide) ?_
          refine r_aload_n (pc' := 67) (kX10_leak_0 34 rfl) rfl rfl ?_
          refine s_getr (v := 29) (pc' := 70) (kX10_leak_0 35 rfl) rfl fkX10_40 rfl rfl (kz0 Ln) rfl (by decide) ?_
          refine r_iload_n (pc' := 71) (kX10_leak_0 36 rfl) rfl rfl ?_
          refine r_iload (pc' := 73) (kX10_leak_0 37 rfl) rfl rfl ?_
          refine r_iload_n (pc' := 74) (kX10_leak_0 38 rfl) rfl rfl ?_
          refine s_callV (As := [(2, 29), (0, x1), (0, r8), (0, x3)]) (o := 190) (S := []) (S2 := fun z => [(0, z)]) (pc' := 77) (kX10_leak_0 39 rfl) rfl rfl nkX9_flow mlX10_227 imX9_flow rfl slX9_flow rfl (Nat.le_of_ble_eq_true rfl) (Nat.le_of_ble_eq_true rfl) (kz190 Ln) h (fun z => rfl) (fun r10 φ10 α10 h => ?_)
          exact s_iret (kX10_leak_0 40 rfl) rfl h
        · have h := h.2 c9
          refine r_iconst (-1) (pc' := 59) (kX10_leak_0 30 rfl) rfl (by unfold inR; omega) ?_
          refine r_goto (pc' := 77) (kX10_leak_0 31 rfl) rfl ?_
          exact s_iret (kX10_leak_0 40 rfl) rfl h
      · have h := h.2 c6
        refine r_iconst (-1) (pc' := 43) (kX10_leak_0 22 rfl) rfl (by unfold inR; omega) ?_
        refine r_goto (pc' := 47) (kX10_leak_0 23 rfl) rfl ?_
        have g11 := h.1
        have h := h.2
        refine r_iadd (pc' := 48) (kX10_leak_0 25 rfl) rfl g11 ?_
        refine s_callV (As := [(0, (r5 + (-1)))]) (o := 29) (S := []) (S2 := fun z => [(0, z)]) (pc' := 51) (kX10_leak_0 26 rfl) rfl rfl nkX7_sitterAt mlX10_197 imX7_sitterAt rfl slX7_sitterAt rfl (Nat.le_of_ble_eq_true rfl) (Nat.le_of_ble_eq_true rfl) (kz29 Ln) h (fun z => rfl) (fun r12 φ12 α12 h => ?_)
        refine r_istore (L' := [(2, 0), (0, x1), (0, x2), (0, x3), (0, r12)]) (pc' := 53) (kX10_leak_0 27 rfl) rfl (Nat.le_of_ble_eq_true rfl) rfl ?_
        refine r_iload (pc' := 55) (kX10_leak_0 28 rfl) rfl rfl ?_
        refine r_if_ge (t := 62) (pc' := 58) (kX10_leak_0 29 rfl) rfl rfl (fun c13 => ?_) (fun c13 => ?_)
        · have h := h.1 c13
          refine r_aload_n (pc' := 63) (kX10_leak_0 32 rfl) rfl rfl ?_
          refine s_getr (v := 190) (pc' := 66) (kX10_leak_0 33 rfl) rfl fkX10_77 rfl rfl (kz0 Ln) rfl (by decide) ?_
          refine r_aload_n (pc' := 67) (kX10_leak_0 34 rfl) rfl rfl ?_
          refine s_getr (v := 29) (pc' := 70) (kX10_leak_0 35 rfl) rfl fkX10_40 rfl rfl (kz0 Ln) rfl (by decide) ?_
          refine r_iload_n (pc' := 71) (kX10_leak_0 36 rfl) rfl rfl ?_
          refine r_iload (pc' := 73) (kX10_leak_0 37 rfl) rfl rfl ?_
          refine r_iload_n (pc' := 74) (kX10_leak_0 38 rfl) rfl rfl ?_
          refine s_callV (As := [(2, 29), (0, x1), (0, r12), (0, x3)]) (o := 190) (S := []) (S2 := fun z => [(0, z)]) (pc' := 77) (kX10_leak_0 39 rfl) rfl rfl nkX9_flow mlX10_227 imX9_flow rfl slX9_flow rfl (Nat.le_of_ble_eq_true rfl) (Nat.le_of_ble_eq_true rfl) (kz190 Ln) h (fun z => rfl) (fun r14 φ14 α14 h => ?_)
          exact s_iret (kX10_leak_0 40 rfl) rfl h
        · have h := h.2 c13
          refine r_iconst (-1) (pc' := 59) (kX10_leak_0 30 rfl) rfl (by unfold inR; omega) ?_
          refine r_goto (pc' := 77) (kX10_leak_0 31 rfl) rfl ?_
          exact s_iret (kX10_leak_0 40 rfl) rfl h
    · have h := h.2 c4
      refine r_iconst (-1) (pc' := 22) (kX10_leak_0 11 rfl) rfl (by unfold inR; omega) ?_
      exact s_iret (kX10_leak_0 12 rfl) rfl h
theorem vX10_kept_0 {d : Nat} {φ : aF} {α : aA} {Q : Int → aF → aA → Prop} {x1 : Int} {x2 : Int} (h : (eX10_within d x2 0 2 φ α (fun r1 φ1 α1 =>
   ((r1 = 0 →
   (Q (-1) φ1 α1)) ∧
   (¬ (r1 = 0) →
   (eX7_keptAt d 29 x1 x2 φ1 α1 (fun r3 φ3 α3 =>
     (Q r3 φ3 α3)))))))) : eX10_kept (d + 1) x1 x2 φ α Q := by
  intro Ln
  refine r_iload_n (pc' := 1) (kX10_kept_0 0 rfl) rfl rfl ?_
  refine r_iconst 0 (pc' := 2) (kX10_kept_0 1 rfl) rfl (by unfold inR; omega) ?_
  refine r_iconst 2 (pc' := 3) (kX10_kept_0 2 rfl) rfl (by unfold inR; omega) ?_
  refine s_callS (As := [(0, x2), (0, 0), (0, 2)]) (S := []) (S2 := fun z => [(0, z)]) (pc' := 6) (kX10_kept_0 3 rfl) rfl rfl nkX10_within mlX10_182 scX10_within rfl (Nat.le_of_ble_eq_true rfl) (Nat.le_of_ble_eq_true rfl) h (fun z => rfl) (fun r1 φ1 α1 h => ?_)
  refine r_if_eq (t := 21) (pc' := 9) (kX10_kept_0 4 rfl) rfl rfl (fun c2 => ?_) (fun c2 => ?_)
  · have h := h.1 c2
    refine r_iconst (-1) (pc' := 22) (kX10_kept_0 11 rfl) rfl (by unfold inR; omega) ?_
    exact s_iret (kX10_kept_0 12 rfl) rfl h
  · have h := h.2 c2
    refine r_aload_n (pc' := 10) (kX10_kept_0 5 rfl) rfl rfl ?_
    refine s_getr (v := 29) (pc' := 13) (kX10_kept_0 6 rfl) rfl fkX10_40 rfl rfl (kz0 Ln) rfl (by decide) ?_
    refine r_iload_n (pc' := 14) (kX10_kept_0 7 rfl) rfl rfl ?_
    refine r_iload_n (pc' := 15) (kX10_kept_0 8 rfl) rfl rfl ?_
    refine s_callV (As := [(0, x1), (0, x2)]) (o := 29) (S := []) (S2 := fun z => [(0, z)]) (pc' := 18) (kX10_kept_0 9 rfl) rfl rfl nkX7_keptAt mlX10_231 imX7_keptAt rfl slX7_keptAt rfl (Nat.le_of_ble_eq_true rfl) (Nat.le_of_ble_eq_true rfl) (kz29 Ln) h (fun z => rfl) (fun r3 φ3 α3 h => ?_)
    refine r_goto (pc' := 22) (kX10_kept_0 10 rfl) rfl ?_
    exact s_iret (kX10_kept_0 12 rfl) rfl h
theorem vX10_later_0 {d : Nat} {φ : aF} {α : aA} {Q : Int → aF → aA → Prop} {x1 : Int} {x2 : Int} {x3 : Int} (h : (eX2_areThere d 9 x1 x2 φ α (fun r1 φ1 α1 =>
   ((r1 = 0 →
   (Q (-1) φ1 α1)) ∧
   (¬ (r1 = 0) →
   (eX10_canPass d x3 0 60 φ1 α1 (fun r3 φ3 α3 =>
     ((¬ r3 = 0 →
     (eX10_lookAhead d x3 φ3 α3 (fun r5 φ5 α5 =>
       (eX7_dropsOf d 36 x1 x2 φ5 α5 (fun r6 φ6 α6 =>
       (Q r6 φ6 α6)))))) ∧
     (r3 = 0 →
     (Q (-1) φ3 α3)))))))))) : eX10_later (d + 1) x1 x2 x3 φ α Q := by
  intro Ln
  refine r_aload_n (pc' := 1) (kX10_later_0 0 rfl) rfl rfl ?_
  refine s_getr (v := 9) (pc' := 4) (kX10_later_0 1 rfl) rfl fkX10_30 rfl rfl (kz0 Ln) rfl (by decide) ?_
  refine r_iload_n (pc' := 5) (kX10_later_0 2 rfl) rfl rfl ?_
  refine r_iload_n (pc' := 6) (kX10_later_0 3 rfl) rfl rfl ?_
  refine s_callV (As := [(0, x1), (0, x2)]) (o := 9) (S := []) (S2 := fun z => [(0, z)]) (pc' := 9) (kX10_later_0 4 rfl) rfl rfl nkX2_areThere mlX10_211 imX2_areThere rfl slX2_areThere rfl (Nat.le_of_ble_eq_true rfl) (Nat.le_of_ble_eq_true rfl) (kz9 Ln) h (fun z => rfl) (fun r1 φ1 α1 h => ?_)
  refine r_if_eq (t := 23) (pc' := 12) (kX10_later_0 5 rfl) rfl rfl (fun c2 => ?_) (fun c2 => ?_)
  · have h := h.1 c2
    refine r_iconst (-1) (pc' := 24) (kX10_later_0 12 rfl) rfl (by unfold inR; omega) ?_
    exact s_iret (kX10_later_0 13 rfl) rfl h
  · have h := h.2 c2
    refine r_aload_n (pc' := 13) (kX10_later_0 6 rfl) rfl rfl ?_
    refine r_iload_n (pc' := 14) (kX10_later_0 7 rfl) rfl rfl ?_
    refine r_iconst 0 (pc' := 15) (kX10_later_0 8 rfl) rfl (by unfold inR; omega) ?_
    refine r_bipush 60 (pc' := 17) (kX10_later_0 9 rfl) rfl ⟨by unfold inR; omega, rfl⟩ ?_
    refine s_callV (As := [(0, x3), (0, 0), (0, 60)]) (o := 0) (S := []) (S2 := fun z => [(0, z)]) (pc' := 20) (kX10_later_0 10 rfl) rfl rfl nkX10_canPass mlX10_234 imX10_canPass rfl slX10_canPass rfl (Nat.le_of_ble_eq_true rfl) (Nat.le_of_ble_eq_true rfl) (kz0 Ln) h (fun z => rfl) (fun r3 φ3 α3 h => ?_)
    refine r_if_ne (t := 25) (pc' := 23) (kX10_later_0 11 rfl) rfl rfl (fun c4 => ?_) (fun c4 => ?_)
    · have h := h.1 c4
      refine r_aload_n (pc' := 26) (kX10_later_0 14 rfl) rfl rfl ?_
      refine r_iload_n (pc' := 27) (kX10_later_0 15 rfl) rfl rfl ?_
      refine s_callV (As := [(0, x3)]) (o := 0) (S := []) (S2 := fun z => []) (pc' := 30) (kX10_later_0 16 rfl) rfl rfl nkX10_lookAhead mlX10_237 imX10_lookAhead rfl slX10_lookAhead rfl (Nat.le_of_ble_eq_true rfl) (Nat.le_of_ble_eq_true rfl) (kz0 Ln) h (fun z => rfl) (fun r5 φ5 α5 h => ?_)
      refine r_aload_n (pc' := 31) (kX10_later_0 17 rfl) rfl rfl ?_
      refine s_getr (v := 36) (pc' := 34) (kX10_later_0 18 rfl) rfl fkX10_44 rfl rfl (kz0 Ln) rfl (by decide) ?_
      refine r_iload_n (pc' := 35) (kX10_later_0 19 rfl) rfl rfl ?_
      refine r_iload_n (pc' := 36) (kX10_later_0 20 rfl) rfl rfl ?_
      refine s_callV (As := [(0, x1), (0, x2)]) (o := 36) (S := []) (S2 := fun z => [(0, z)]) (pc' := 39) (kX10_later_0 21 rfl) rfl rfl nkX7_dropsOf mlX10_215 imX7_dropsOf rfl slX7_dropsOf rfl (Nat.le_of_ble_eq_true rfl) (Nat.le_of_ble_eq_true rfl) (kz36 Ln) h (fun z => rfl) (fun r6 φ6 α6 h => ?_)
      exact s_iret (kX10_later_0 22 rfl) rfl h
    · have h := h.2 c4
      refine r_iconst (-1) (pc' := 24) (kX10_later_0 12 rfl) rfl (by unfold inR; omega) ?_
      exact s_iret (kX10_later_0 13 rfl) rfl h
theorem vX10_knows_0 {d : Nat} {φ : aF} {α : aA} {Q : Int → aF → aA → Prop} {x1 : Int} {x2 : Int} (h : (eX2_isMatter d 9 x1 φ α (fun r1 φ1 α1 =>
   ((r1 = 0 →
   (Q (-1) φ1 α1)) ∧
   (¬ (r1 = 0) →
   (eX10_canPass d x2 0 60 φ1 α1 (fun r3 φ3 α3 =>
     ((¬ r3 = 0 →
     (eX10_lookAhead d x2 φ3 α3 (fun r5 φ5 α5 =>
       (eX7_knowing d 36 x1 φ5 α5 (fun r6 φ6 α6 =>
       (Q r6 φ6 α6)))))) ∧
     (r3 = 0 →
     (Q (-1) φ3 α3)))))))))) : eX10_knows (d + 1) x1 x2 φ α Q := by
  intro Ln
  refine r_aload_n (pc' := 1) (kX10_knows_0 0 rfl) rfl rfl ?_
  refine s_getr (v := 9) (pc' := 4) (kX10_knows_0 1 rfl) rfl fkX10_30 rfl rfl (kz0 Ln) rfl (by decide) ?_
  refine r_iload_n (pc' := 5) (kX10_knows_0 2 rfl) rfl rfl ?_
  refine s_callV (As := [(0, x1)]) (o := 9) (S := []) (S2 := fun z => [(0, z)]) (pc' := 8) (kX10_knows_0 3 rfl) rfl rfl nkX2_isMatter mlX10_176 imX2_isMatter rfl slX2_isMatter rfl (Nat.le_of_ble_eq_true rfl) (Nat.le_of_ble_eq_true rfl) (kz9 Ln) h (fun z => rfl) (fun r1 φ1 α1 h => ?_)
  refine r_if_eq (t := 22) (pc' := 11) (kX10_knows_0 4 rfl) rfl rfl (fun c2 => ?_) (fun c2 => ?_)
  · have h := h.1 c2
    refine r_iconst (-1) (pc' := 23) (kX10_knows_0 11 rfl) rfl (by unfold inR; omega) ?_
    exact s_iret (kX10_knows_0 12 rfl) rfl h
  · have h := h.2 c2
    refine r_aload_n (pc' := 12) (kX10_knows_0 5 rfl) rfl rfl ?_
    refine r_iload_n (pc' := 13) (kX10_knows_0 6 rfl) rfl rfl ?_
    refine r_iconst 0 (pc' := 14) (kX10_knows_0 7 rfl) rfl (by unfold inR; omega) ?_
    refine r_bipush 60 (pc' := 16) (kX10_knows_0 8 rfl) rfl ⟨by unfold inR; omega, rfl⟩ ?_
    refine s_callV (As := [(0, x2), (0, 0), (0, 60)]) (o := 0) (S := []) (S2 := fun z => [(0, z)]) (pc' := 19) (kX10_knows_0 9 rfl) rfl rfl nkX10_canPass mlX10_234 imX10_canPass rfl slX10_canPass rfl (Nat.le_of_ble_eq_true rfl) (Nat.le_of_ble_eq_true rfl) (kz0 Ln) h (fun z => rfl) (fun r3 φ3 α3 h => ?_)
    refine r_if_ne (t := 24) (pc' := 22) (kX10_knows_0 10 rfl) rfl rfl (fun c4 => ?_) (fun c4 => ?_)
    · have h := h.1 c4
      refine r_aload_n (pc' := 25) (kX10_knows_0 13 rfl) rfl rfl ?_
      refine r_iload_n (pc' := 26) (kX10_knows_0 14 rfl) rfl rfl ?_
      refine s_callV (As := [(0, x2)]) (o := 0) (S := []) (S2 := fun z => []) (pc' := 29) (kX10_knows_0 15 rfl) rfl rfl nkX10_lookAhead mlX10_237 imX10_lookAhead rfl slX10_lookAhead rfl (Nat.le_of_ble_eq_true rfl) (Nat.le_of_ble_eq_true rfl) (kz0 Ln) h (fun z => rfl) (fun r5 φ5 α5 h => ?_)
      refine r_aload_n (pc' := 30) (kX10_knows_0 16 rfl) rfl rfl ?_
      refine s_getr (v := 36) (pc' := 33) (kX10_knows_0 17 rfl) rfl fkX10_44 rfl rfl (kz0 Ln) rfl (by decide) ?_
      refine r_iload_n (pc' := 34) (kX10_knows_0 18 rfl) rfl rfl ?_
      refine s_callV (As := [(0, x1)]) (o := 36) (S := []) (S2 := fun z => [(0, z)]) (pc' := 37) (kX10_knows_0 19 rfl) rfl rfl nkX7_knowing mlX10_224 imX7_knowing rfl slX7_knowing rfl (Nat.le_of_ble_eq_true rfl) (Nat.le_of_ble_eq_true rfl) (kz36 Ln) h (fun z => rfl) (fun r6 φ6 α6 h => ?_)
      exact s_iret (kX10_knows_0 20 rfl) rfl h
    · have h := h.2 c4
      refine r_iconst (-1) (pc' := 23) (kX10_knows_0 11 rfl) rfl (by unfold inR; omega) ?_
      exact s_iret (kX10_knows_0 12 rfl) rfl h
abbrev jX10_hears_45 (d : Nat) (x1 x2 x3 x4 : Int) (φ : aF) (α : aA) (Q : Int → aF → aA → Prop) : Prop := R0 d mX10_hears 45 [(2, 0), (0, x1), (0, x2), (0, x3), (0, x4)] [] φ α Q
theorem vX10_hears_0 {d : Nat} {φ : aF} {α : aA} {Q : Int → aF → aA → Prop} {x1 : Int} {x2 : Int} (h : (eX2_areThere d 9 x1 x2 φ α (fun r1 φ1 α1 =>
   ((¬ r1 = 0 →
   (eX7_copyRoom d 36 29 φ1 α1 (fun r3 φ3 α3 =>
     inR (999 - (φ3 7 0 29)) ∧ (eJ9_min_7cf53 d 60 (999 - (φ3 7 0 29)) φ3 α3 (fun r5 φ5 α5 =>
     (jX10_hears_45 (d + 1) x1 x2 r5 0 φ5 α5 Q)))))) ∧
   (r1 = 0 →
   (Q (-1) φ1 α1)))))) : eX10_hears (d + 1) x1 x2 φ α Q := by
  intro Ln
  refine r_aload_n (pc' := 1) (kX10_hears_0 0 rfl) rfl rfl ?_
  refine s_getr (v := 9) (pc' := 4) (kX10_hears_0 1 rfl) rfl fkX10_30 rfl rfl (kz0 Ln) rfl (by decide) ?_
  refine r_iload_n (pc' := 5) (kX10_hears_0 2 rfl) rfl rfl ?_
  refine r_iload_n (pc' := 6) (kX10_hears_0 3 rfl) rfl rfl ?_
  refine s_callV (As := [(0, x1), (0, x2)]) (o := 9) (S := []) (S2 := fun z => [(0, z)]) (pc' := 9) (kX10_hears_0 4 rfl) rfl rfl nkX2_areThere mlX10_211 imX2_areThere rfl slX2_areThere rfl (Nat.le_of_ble_eq_true rfl) (Nat.le_of_ble_eq_true rfl) (kz9 Ln) h (fun z => rfl) (fun r1 φ1 α1 h => ?_)
  refine r_if_ne (t := 14) (pc' := 12) (kX10_hears_0 5 rfl) rfl rfl (fun c2 => ?_) (fun c2 => ?_)
  · have h := h.1 c2
    refine r_aload_n (pc' := 15) (kX10_hears_0 8 rfl) rfl rfl ?_
    refine s_getr (v := 36) (pc' := 18) (kX10_hears_0 9 rfl) rfl fkX10_44 rfl rfl (kz0 Ln) rfl (by decide) ?_
    refine r_aload_n (pc' := 19) (kX10_hears_0 10 rfl) rfl rfl ?_
    refine s_getr (v := 29) (pc' := 22) (kX10_hears_0 11 rfl) rfl fkX10_40 rfl rfl (kz0 Ln) rfl (by decide) ?_
    refine s_callV (As := [(2, 29)]) (o := 36) (S := []) (S2 := fun z => []) (pc' := 25) (kX10_hears_0 12 rfl) rfl rfl nkX7_copyRoom mlX10_240 imX7_copyRoom rfl slX7_copyRoom rfl (Nat.le_of_ble_eq_true rfl) (Nat.le_of_ble_eq_true rfl) (kz36 Ln) h (fun z => rfl) (fun r3 φ3 α3 h => ?_)
    refine r_bipush 60 (pc' := 27) (kX10_hears_0 13 rfl) rfl ⟨by unfold inR; omega, rfl⟩ ?_
    refine r_sipush 999 (pc' := 30) (kX10_hears_0 14 rfl) rfl ⟨by unfold inR; omega, rfl⟩ ?_
    refine r_aload_n (pc' := 31) (kX10_hears_0 15 rfl) rfl rfl ?_
    refine s_getr (v := 29) (pc' := 34) (kX10_hears_0 16 rfl) rfl fkX10_40 rfl rfl (kz0 Ln) rfl (by decide) ?_
    refine s_get (x := (φ3 7 0 29)) (pc' := 37) (kX10_hears_0 17 rfl) rfl fkX10_153 rfl rfl rfl (kz29 Ln) rfl ?_
    have g4 := h.1
    have h := h.2
    refine r_isub (pc' := 38) (kX10_hears_0 18 rfl) rfl g4 ?_
    refine s_callS (As := [(0, 60), (0, (999 - (φ3 7 0 29)))]) (S := []) (S2 := fun z => [(0, z)]) (pc' := 41) (kX10_hears_0 19 rfl) rfl rfl nkJ9_min_7cf53 mlX10_244 scJ9_min_7cf53 rfl (Nat.le_of_ble_eq_true rfl) (Nat.le_of_ble_eq_true rfl) h (fun z => rfl) (fun r5 φ5 α5 h => ?_)
    refine r_istore_n (L' := [(2, 0), (0, x1), (0, x2), (0, r5), (9, 0)]) (pc' := 42) (kX10_hears_0 20 rfl) rfl (Nat.le_of_ble_eq_true rfl) rfl ?_
    refine r_iconst 0 (pc' := 43) (kX10_hears_0 21 rfl) rfl (by unfold inR; omega) ?_
    refine r_istore (L' := [(2, 0), (0, x1), (0, x2), (0, r5), (0, 0)]) (pc' := 45) (kX10_hears_0 22 rfl) rfl (Nat.le_of_ble_eq_true rfl) rfl ?_
    exact r_weak (L' := [(2, 0), (0, x1), (0, x2), (0, r5), (0, 0)]) ⟨Or.inl rfl, Or.inl rfl, Or.inl rfl, Or.inl rfl, Or.inl rfl, trivial⟩ (h Ln)
  · have h := h.2 c2
    refine r_iconst (-1) (pc' := 13) (kX10_hears_0 6 rfl) rfl (by unfold inR; omega) ?_
    exact s_iret (kX10_hears_0 7 rfl) rfl h
theorem vX10_hears_45 {d : Nat} {φ : aF} {α : aA} {Q : Int → aF → aA → Prop} {x1 : Int} {x2 : Int} {x3 : Int} {x4 : Int} (h : ((x3 < x4 →
   (Q (-1) φ α)) ∧
   (¬ (x3 < x4) →
   ((x4 ≤ 0 →
     (eX7_dropsOf d 36 x1 x2 φ α (fun r3 φ3 α3 =>
       ((r3 ≤ 0 →
       inR (x4 + 1) ∧ (jX10_hears_45 (d + 1) x1 x2 x3 (x4 + 1) φ3 α3 Q)) ∧
       (¬ (r3 ≤ 0) →
       (Q x4 φ3 α3)))))) ∧
     (¬ (x4 ≤ 0) →
     (eX9_passDay d 36 φ α (fun r6 φ6 α6 =>
       (eX7_dropsOf d 36 x1 x2 φ6 α6 (fun r7 φ7 α7 =>
       ((r7 ≤ 0 →
       inR (x4 + 1) ∧ (jX10_hears_45 (d + 1) x1 x2 x3 (x4 + 1) φ7 α7 Q)) ∧
       (¬ (r7 ≤ 0) →
       (Q x4 φ7 α7)))))))))))) : jX10_hears_45 (d + 1) x1 x2 x3 x4 φ α Q := by
  intro Ln
  refine r_iload (pc' := 47) (kX10_hears_0 23 rfl) rfl rfl ?_
  refine r_iload_n (pc' := 48) (kX10_hears_0 24 rfl) rfl rfl ?_
  refine r_icmp_gt (t := 89) (pc' := 51) (kX10_hears_0 25 rfl) rfl rfl (fun c1 => ?_) (fun c1 => ?_)
  · have h := h.1 c1
    refine r_iconst (-1) (pc' := 90) (kX10_hears_0 44 rfl) rfl (by unfold inR; omega) ?_
    exact s_iret (kX10_hears_0 45 rfl) rfl h
  · have h := h.2 c1
    refine r_iload (pc' := 53) (kX10_hears_0 26 rfl) rfl rfl ?_
    refine r_if_le (t := 68) (pc' := 56) (kX10_hears_0 27 rfl) rfl rfl (fun c2 => ?_) (fun c2 => ?_)
    · have h := h.1 c2
      refine r_aload_n (pc' := 69) (kX10_hears_0 34 rfl) rfl rfl ?_
      refine s_getr (v := 36) (pc' := 72) (kX10_hears_0 35 rfl) rfl fkX10_44 rfl rfl (kz0 Ln) rfl (by decide) ?_
      refine r_iload_n (pc' := 73) (kX10_hears_0 36 rfl) rfl rfl ?_
      refine r_iload_n (pc' := 74) (kX10_hears_0 37 rfl) rfl rfl ?_
      refine s_callV (As := [(0, x1), (0, x2)]) (o := 36) (S := []) (S2 := fun z => [(0, z)]) (pc' := 77) (kX10_hears_0 38 rfl) rfl rfl nkX7_dropsOf mlX10_215 imX7_dropsOf rfl slX7_dropsOf rfl (Nat.le_of_ble_eq_true rfl) (Nat.le_of_ble_eq_true rfl) (kz36 Ln) h (fun z => rfl) (fun r3 φ3 α3 h => ?_)
      refine r_if_le (t := 83) (pc' := 80) (kX10_hears_0 39 rfl) rfl rfl (fun c4 => ?_) (fun c4 => ?_)
      · have h := h.1 c4
        have g5 := h.1
        have h := h.2
        refine r_iinc (L' := [(2, 0), (0, x1), (0, x2), (0, x3), (0, (x4 + 1))]) (pc' := 86) (kX10_hears_0 42 rfl) rfl (Nat.le_of_ble_eq_true rfl) rfl g5 rfl ?_
        refine r_goto (pc' := 45) (kX10_hears_0 43 rfl) rfl ?_
        exact r_weak (L' := [(2, 0), (0, x1), (0, x2), (0, x3), (0, (x4 + 1))]) ⟨Or.inl rfl, Or.inl rfl, Or.inl rfl, Or.inl rfl, Or.inl rfl, trivial⟩ (h Ln)
      · have h := h.2 c4
        refine r_iload (pc' := 82) (kX10_hears_0 40 rfl) rfl rfl ?_
        exact s_iret (kX10_hears_0 41 rfl) rfl h
    · have h := h.2 c2
      refine r_aload_n (pc' := 57) (kX10_hears_0 28 rfl) rfl rfl ?_
      refine s_getr (v := 190) (pc' := 60) (kX10_hears_0 29 rfl) rfl fkX10_77 rfl rfl (kz0 Ln) rfl (by decide) ?_
      refine r_aload_n (pc' := 61) (kX10_hears_0 30 rfl) rfl rfl ?_
      refine s_getr (v := 36) (pc' := 64) (kX10_hears_0 31 rfl) rfl fkX10_44 rfl rfl (kz0 Ln) rfl (by decide) ?_
      refine s_callV (As := [(2, 36)]) (o := 190) (S := []) (S2 := fun z => [(0, z)]) (pc' := 67) (kX10_hears_0 32 rfl) rfl rfl nkX9_passDay mlX10_249 imX9_passDay rfl slX9_passDay rfl (Nat.le_of_ble_eq_true rfl) (Nat.le_of_ble_eq_true rfl) (kz190 Ln) h (fun z => rfl) (fun r6 φ6 α6 h => ?_)
      refine r_pop (pc' := 68) (kX10_hears_0 33 rfl) rfl rfl ?_
      refine r_aload_n (pc' := 69) (kX10_hears_0 34 rfl) rfl rfl ?_
      refine s_getr (v := 36) (pc' := 72) (kX10_hears_0 35 rfl) rfl fkX10_44 rfl rfl (kz0 Ln) rfl (by decide) ?_
      refine r_iload_n (pc' := 73) (kX10_hears_0 36 rfl) rfl rfl ?_
      refine r_iload_n (pc' := 74) (kX10_hears_0 37 rfl) rfl rfl ?_
      refine s_callV (As := [(0, x1), (0, x2)]) (o := 36) (S := []) (S2 := fun z => [(0, z)]) (pc' := 77) (kX10_hears_0 38 rfl) rfl rfl nkX7_dropsOf mlX10_215 imX7_dropsOf rfl slX7_dropsOf rfl (Nat.le_of_ble_eq_true rfl) (Nat.le_of_ble_eq_true rfl) (kz36 Ln) h (fun z => rfl) (fun r7 φ7 α7 h => ?_)
      refine r_if_le (t := 83) (pc' := 80) (kX10_hears_0 39 rfl) rfl rfl (fun c8 => ?_) (fun c8 => ?_)
      · have h := h.1 c8
        have g9 := h.1
        have h := h.2
        refine r_iinc (L' := [(2, 0), (0, x1), (0, x2), (0, x3), (0, (x4 + 1))]) (pc' := 86) (kX10_hears_0 42 rfl) rfl (Nat.le_of_ble_eq_true rfl) rfl g9 rfl ?_
        refine r_goto (pc' := 45) (kX10_hears_0 43 rfl) rfl ?_
        exact r_weak (L' := [(2, 0), (0, x1), (0, x2), (0, x3), (0, (x4 + 1))]) ⟨Or.inl rfl, Or.inl rfl, Or.inl rfl, Or.inl rfl, Or.inl rfl, trivial⟩ (h Ln)
      · have h := h.2 c8
        refine r_iload (pc' := 82) (kX10_hears_0 40 rfl) rfl rfl ?_
        exact s_iret (kX10_hears_0 41 rfl) rfl h
theorem vX10_discreet_0 {d : Nat} {φ : aF} {α : aA} {Q : Int → aF → aA → Prop} {x1 : Int} {x2 : Int} {x3 : Int} (h : (eX2_isMatter d 9 x1 φ α (fun r1 φ1 α1 =>
   ((r1 = 0 →
   (Q (-1) φ1 α1)) ∧
   (¬ (r1 = 0) →
   (eX10_canPass d x2 1 30 φ1 α1 (fun r3 φ3 α3 =>
     ((r3 = 0 →
     (Q (-1) φ3 α3)) ∧
     (¬ (r3 = 0) →
     (eX10_within d x3 0 2 φ3 α3 (fun r5 φ5 α5 =>
       ((r5 = 0 →
       (Q (-1) φ5 α5)) ∧
       (¬ (r5 = 0) →
       (eX4_findDiscreet d x1 x2 φ5 α5 (fun r7 φ7 α7 =>
         ((¬ r7 = 0 →
         ((¬ x3 = 2 →
           ((¬ x3 = 0 →
             (Q (φ7 4 7 192) φ7 α7)) ∧
             (x3 = 0 →
             (Q (φ7 4 6 192) φ7 α7)))) ∧
           (x3 = 2 →
           (Q (φ7 4 8 192) φ7 α7)))) ∧
         (r7 = 0 →
         (Q (-1) φ7 α7)))))))))))))))))) : eX10_discreet (d + 1) x1 x2 x3 φ α Q := by
  intro Ln
  refine r_aload_n (pc' := 1) (kX10_discreet_0 0 rfl) rfl rfl ?_
  refine s_getr (v := 9) (pc' := 4) (kX10_discreet_0 1 rfl) rfl fkX10_30 rfl rfl (kz0 Ln) rfl (by decide) ?_
  refine r_iload_n (pc' := 5) (kX10_discreet_0 2 rfl) rfl rfl ?_
  refine s_callV (As := [(0, x1)]) (o := 9) (S := []) (S2 := fun z => [(0, z)]) (pc' := 8) (kX10_discreet_0 3 rfl) rfl rfl nkX2_isMatter mlX10_176 imX2_isMatter rfl slX2_isMatter rfl (Nat.le_of_ble_eq_true rfl) (Nat.le_of_ble_eq_true rfl) (kz9 Ln) h (fun z => rfl) (fun r1 φ1 α1 h => ?_)
  refine r_if_eq (t := 26) (pc' := 11) (kX10_discreet_0 4 rfl) rfl rfl (fun c2 => ?_) (fun c2 => ?_)
  · have h := h.1 c2
    refine r_iconst 0 (pc' := 27) (kX10_discreet_0 13 rfl) rfl (by unfold inR; omega) ?_
    refine r_istore (L' := [(2, 0), (0, x1), (0, x2), (0, x3), (0, 0)]) (pc' := 29) (kX10_discreet_0 14 rfl) rfl (Nat.le_of_ble_eq_true rfl) rfl ?_
    refine r_iload (pc' := 31) (kX10_discreet_0 15 rfl) rfl rfl ?_
    refine r_if_eq (t := 55) (pc' := 34) (kX10_discreet_0 16 rfl) rfl rfl (fun _ => ?_) (fun cz => absurd cz (by decide))
    refine r_iconst (-1) (pc' := 56) (kX10_discreet_0 28 rfl) rfl (by unfold inR; omega) ?_
    exact s_iret (kX10_discreet_0 29 rfl) rfl h
  · have h := h.2 c2
    refine r_aload_n (pc' := 12) (kX10_discreet_0 5 rfl) rfl rfl ?_
    refine r_iload_n (pc' := 13) (kX10_discreet_0 6 rfl) rfl rfl ?_
    refine r_iconst 1 (pc' := 14) (kX10_discreet_0 7 rfl) rfl (by unfold inR; omega) ?_
    refine r_bipush 30 (pc' := 16) (kX10_discreet_0 8 rfl) rfl ⟨by unfold inR; omega, rfl⟩ ?_
    refine s_callV (As := [(0, x2), (0, 1), (0, 30)]) (o := 0) (S := []) (S2 := fun z => [(0, z)]) (pc' := 19) (kX10_discreet_0 9 rfl) rfl rfl nkX10_canPass mlX10_234 imX10_canPass rfl slX10_canPass rfl (Nat.le_of_ble_eq_true rfl) (Nat.le_of_ble_eq_true rfl) (kz0 Ln) h (fun z => rfl) (fun r3 φ3 α3 h => ?_)
    refine r_if_eq (t := 26) (pc' := 22) (kX10_discreet_0 10 rfl) rfl rfl (fun c4 => ?_) (fun c4 => ?_)
    · have h := h.1 c4
      refine r_iconst 0 (pc' := 27) (kX10_discreet_0 13 rfl) rfl (by unfold inR; omega) ?_
      refine r_istore (L' := [(2, 0), (0, x1), (0, x2), (0, x3), (0, 0)]) (pc' := 29) (kX10_discreet_0 14 rfl) rfl (Nat.le_of_ble_eq_true rfl) rfl ?_
      refine r_iload (pc' := 31) (kX10_discreet_0 15 rfl) rfl rfl ?_
      refine r_if_eq (t := 55) (pc' := 34) (kX10_discreet_0 16 rfl) rfl rfl (fun _ => ?_) (fun cz => absurd cz (by decide))
      refine r_iconst (-1) (pc' := 56) (kX10_discreet_0 28 rfl) rfl (by unfold inR; omega) ?_
      exact s_iret (kX10_discreet_0 29 rfl) rfl h
    · have h := h.2 c4
      refine r_iconst 1 (pc' := 23) (kX10_discreet_0 11 rfl) rfl (by unfold inR; omega) ?_
      refine r_goto (pc' := 27) (kX10_discreet_0 12 rfl) rfl ?_
      refine r_istore (L' := [(2, 0), (0, x1), (0, x2), (0, x3), (0, 1)]) (pc' := 29) (kX10_discreet_0 14 rfl) rfl (Nat.le_of_ble_eq_true rfl) rfl ?_
      refine r_iload (pc' := 31) (kX10_discreet_0 15 rfl) rfl rfl ?_
      refine r_if_eq (t := 55) (pc' := 34) (kX10_discreet_0 16 rfl) rfl rfl (fun cz => absurd cz (by decide)) (fun _ => ?_)
      refine r_iload_n (pc' := 35) (kX10_discreet_0 17 rfl) rfl rfl ?_
      refine r_iconst 0 (pc' := 36) (kX10_discreet_0 18 rfl) rfl (by unfold inR; omega) ?_
      refine r_iconst 2 (pc' := 37) (kX10_discreet_0 19 rfl) rfl (by unfold inR; omega) ?_
      refine s_callS (As := [(0, x3), (0, 0), (0, 2)]) (S := []) (S2 := fun z => [(0, z)]) (pc' := 40) (kX10_discreet_0 20 rfl) rfl rfl nkX10_within mlX10_182 scX10_within rfl (Nat.le_of_ble_eq_true rfl) (Nat.le_of_ble_eq_true rfl) h (fun z => rfl) (fun r5 φ5 α5 h => ?_)
      refine r_if_eq (t := 55) (pc' := 43) (kX10_discreet_0 21 rfl) rfl rfl (fun c6 => ?_) (fun c6 => ?_)
      · have h := h.1 c6
        refine r_iconst (-1) (pc' := 56) (kX10_discreet_0 28 rfl) rfl (by unfold inR; omega) ?_
        exact s_iret (kX10_discreet_0 29 rfl) rfl h
      · have h := h.2 c6
        refine r_aload_n (pc' := 44) (kX10_discreet_0 22 rfl) rfl rfl ?_
        refine s_getr (v := 192) (pc' := 47) (kX10_discreet_0 23 rfl) rfl fkX10_86 rfl rfl (kz0 Ln) rfl (by decide) ?_
        refine r_iload_n (pc' := 48) (kX10_discreet_0 24 rfl) rfl rfl ?_
        refine r_iload_n (pc' := 49) (kX10_discreet_0 25 rfl) rfl rfl ?_
        refine s_callV (As := [(0, x1), (0, x2)]) (o := 192) (S := []) (S2 := fun z => [(0, z)]) (pc' := 52) (kX10_discreet_0 26 rfl) rfl rfl nkX4_findDiscreet mlX10_252 imX4_findDiscreet rfl slX4_findDiscreet rfl (Nat.le_of_ble_eq_true rfl) (Nat.le_of_ble_eq_true rfl) (kz192 Ln) h (fun z => rfl) (fun r7 φ7 α7 h => ?_)
        refine r_if_ne (t := 57) (pc' := 55) (kX10_discreet_0 27 rfl) rfl rfl (fun c8 => ?_) (fun c8 => ?_)
        · have h := h.1 c8
          refine r_iload_n (pc' := 58) (kX10_discreet_0 30 rfl) rfl rfl ?_
          refine r_iconst 2 (pc' := 59) (kX10_discreet_0 31 rfl) rfl (by unfold inR; omega) ?_
          refine r_icmp_ne (t := 70) (pc' := 62) (kX10_discreet_0 32 rfl) rfl rfl (fun c9 => ?_) (fun c9 => ?_)
          · have h := h.1 c9
            refine r_iload_n (pc' := 71) (kX10_discreet_0 37 rfl) rfl rfl ?_
            refine r_if_ne (t := 84) (pc' := 74) (kX10_discreet_0 38 rfl) rfl rfl (fun c10 => ?_) (fun c10 => ?_)
            · have h := h.1 c10
              refine r_aload_n (pc' := 85) (kX10_discreet_0 43 rfl) rfl rfl ?_
              refine s_getr (v := 192) (pc' := 88) (kX10_discreet_0 44 rfl) rfl fkX10_86 rfl rfl (kz0 Ln) rfl (by decide) ?_
              refine s_get (x := (φ7 4 7 192)) (pc' := 91) (kX10_discreet_0 45 rfl) rfl fkX10_261 rfl rfl rfl (kz192 Ln) rfl ?_
              exact s_iret (kX10_discreet_0 46 rfl) rfl h
            · have h := h.2 c10
              refine r_aload_n (pc' := 75) (kX10_discreet_0 39 rfl) rfl rfl ?_
              refine s_getr (v := 192) (pc' := 78) (kX10_discreet_0 40 rfl) rfl fkX10_86 rfl rfl (kz0 Ln) rfl (by decide) ?_
              refine s_get (x := (φ7 4 6 192)) (pc' := 81) (kX10_discreet_0 41 rfl) rfl fkX10_258 rfl rfl rfl (kz192 Ln) rfl ?_
              refine r_goto (pc' := 91) (kX10_discreet_0 42 rfl) rfl ?_
              exact s_iret (kX10_discreet_0 46 rfl) rfl h
          · have h := h.2 c9
            refine r_aload_n (pc' := 63) (kX10_discreet_0 33 rfl) rfl rfl ?_
            refine s_getr (v := 192) (pc' := 66) (kX10_discreet_0 34 rfl) rfl fkX10_86 rfl rfl (kz0 Ln) rfl (by decide) ?_
            refine s_get (x := (φ7 4 8 192)) (pc' := 69) (kX10_discreet_0 35 rfl) rfl fkX10_255 rfl rfl rfl (kz192 Ln) rfl ?_
            exact s_iret (kX10_discreet_0 36 rfl) rfl h
        · have h := h.2 c8
          refine r_iconst (-1) (pc' := 56) (kX10_discreet_0 28 rfl) rfl (by unfold inR; omega) ?_
          exact s_iret (kX10_discreet_0 29 rfl) rfl h
theorem vX10_pressed_0 {d : Nat} {φ : aF} {α : aA} {Q : Int → aF → aA → Prop} {x1 : Int} {x2 : Int} {x3 : Int} (h : (eX2_areThere d 9 x1 x2 φ α (fun r1 φ1 α1 =>
   ((r1 = 0 →
   (Q (-1) φ1 α1)) ∧
   (¬ (r1 = 0) →
   (eX10_canPass d x3 1 30 φ1 α1 (fun r3 φ3 α3 =>
     ((¬ r3 = 0 →
     (eX4_findPressed d x1 x2 x3 φ3 α3 (fun r5 φ5 α5 =>
       (Q r5 φ5 α5)))) ∧
     (r3 = 0 →
     (Q (-1) φ3 α3)))))))))) : eX10_pressed (d + 1) x1 x2 x3 φ α Q := by
  intro Ln
  refine r_aload_n (pc' := 1) (kX10_pressed_0 0 rfl) rfl rfl ?_
  refine s_getr (v := 9) (pc' := 4) (kX10_pressed_0 1 rfl) rfl fkX10_30 rfl rfl (kz0 Ln) rfl (by decide) ?_
  refine r_iload_n (pc' := 5) (kX10_pressed_0 2 rfl) rfl rfl ?_
  refine r_iload_n (pc' := 6) (kX10_pressed_0 3 rfl) rfl rfl ?_
  refine s_callV (As := [(0, x1), (0, x2)]) (o := 9) (S := []) (S2 := fun z => [(0, z)]) (pc' := 9) (kX10_pressed_0 4 rfl) rfl rfl nkX2_areThere mlX10_211 imX2_areThere rfl slX2_areThere rfl (Nat.le_of_ble_eq_true rfl) (Nat.le_of_ble_eq_true rfl) (kz9 Ln) h (fun z => rfl) (fun r1 φ1 α1 h => ?_)
  refine r_if_eq (t := 23) (pc' := 12) (kX10_pressed_0 5 rfl) rfl rfl (fun c2 => ?_) (fun c2 => ?_)
  · have h := h.1 c2
    refine r_iconst (-1) (pc' := 24) (kX10_pressed_0 12 rfl) rfl (by unfold inR; omega) ?_
    exact s_iret (kX10_pressed_0 13 rfl) rfl h
  · have h := h.2 c2
    refine r_aload_n (pc' := 13) (kX10_pressed_0 6 rfl) rfl rfl ?_
    refine r_iload_n (pc' := 14) (kX10_pressed_0 7 rfl) rfl rfl ?_
    refine r_iconst 1 (pc' := 15) (kX10_pressed_0 8 rfl) rfl (by unfold inR; omega) ?_
    refine r_bipush 30 (pc' := 17) (kX10_pressed_0 9 rfl) rfl ⟨by unfold inR; omega, rfl⟩ ?_
    refine s_callV (As := [(0, x3), (0, 1), (0, 30)]) (o := 0) (S := []) (S2 := fun z => [(0, z)]) (pc' := 20) (kX10_pressed_0 10 rfl) rfl rfl nkX10_canPass mlX10_234 imX10_canPass rfl slX10_canPass rfl (Nat.le_of_ble_eq_true rfl) (Nat.le_of_ble_eq_true rfl) (kz0 Ln) h (fun z => rfl) (fun r3 φ3 α3 h => ?_)
    refine r_if_ne (t := 25) (pc' := 23) (kX10_pressed_0 11 rfl) rfl rfl (fun c4 => ?_) (fun c4 => ?_)
    · have h := h.1 c4
      refine r_aload_n (pc' := 26) (kX10_pressed_0 14 rfl) rfl rfl ?_
      refine s_getr (v := 192) (pc' := 29) (kX10_pressed_0 15 rfl) rfl fkX10_86 rfl rfl (kz0 Ln) rfl (by decide) ?_
      refine r_iload_n (pc' := 30) (kX10_pressed_0 16 rfl) rfl rfl ?_
      refine r_iload_n (pc' := 31) (kX10_pressed_0 17 rfl) rfl rfl ?_
      refine r_iload_n (pc' := 32) (kX10_pressed_0 18 rfl) rfl rfl ?_
      refine s_callV (As := [(0, x1), (0, x2), (0, x3)]) (o := 192) (S := []) (S2 := fun z => [(0, z)]) (pc' := 35) (kX10_pressed_0 19 rfl) rfl rfl nkX4_findPressed mlX10_264 imX4_findPressed rfl slX4_findPressed rfl (Nat.le_of_ble_eq_true rfl) (Nat.le_of_ble_eq_true rfl) (kz192 Ln) h (fun z => rfl) (fun r5 φ5 α5 h => ?_)
      exact s_iret (kX10_pressed_0 20 rfl) rfl h
    · have h := h.2 c4
      refine r_iconst (-1) (pc' := 24) (kX10_pressed_0 12 rfl) rfl (by unfold inR; omega) ?_
      exact s_iret (kX10_pressed_0 13 rfl) rfl h
theorem vX10_mops_0 {d : Nat} {φ : aF} {α : aA} {Q : Int → aF → aA → Prop} (h : (((φ 2 0 9) = 0 →
   (Q (-1) φ α)) ∧
   (¬ ((φ 2 0 9) = 0) →
   (eX4_findMops d  φ α (fun r2 φ2 α2 =>
     (Q r2 φ2 α2)))))) : eX10_mops (d + 1)  φ α Q := by
  intro Ln
  refine r_aload_n (pc' := 1) (kX10_mops_0 0 rfl) rfl rfl ?_
  refine s_getr (v := 9) (pc' := 4) (kX10_mops_0 1 rfl) rfl fkX10_30 rfl rfl (kz0 Ln) rfl (by decide) ?_
  refine s_get (x := (φ 2 0 9)) (pc' := 7) (kX10_mops_0 2 rfl) rfl fkX10_268 rfl rfl rfl (kz9 Ln) rfl ?_
  refine r_if_eq (t := 20) (pc' := 10) (kX10_mops_0 3 rfl) rfl rfl (fun c1 => ?_) (fun c1 => ?_)
  · have h := h.1 c1
    refine r_iconst (-1) (pc' := 21) (kX10_mops_0 8 rfl) rfl (by unfold inR; omega) ?_
    exact s_iret (kX10_mops_0 9 rfl) rfl h
  · have h := h.2 c1
    refine r_aload_n (pc' := 11) (kX10_mops_0 4 rfl) rfl rfl ?_
    refine s_getr (v := 192) (pc' := 14) (kX10_mops_0 5 rfl) rfl fkX10_86 rfl rfl (kz0 Ln) rfl (by decide) ?_
    refine s_callV (As := []) (o := 192) (S := []) (S2 := fun z => [(0, z)]) (pc' := 17) (kX10_mops_0 6 rfl) rfl rfl nkX4_findMops mlX10_272 imX4_findMops rfl slX4_findMops rfl (Nat.le_of_ble_eq_true rfl) (Nat.le_of_ble_eq_true rfl) (kz192 Ln) h (fun z => rfl) (fun r2 φ2 α2 h => ?_)
    refine r_goto (pc' := 21) (kX10_mops_0 7 rfl) rfl ?_
    exact s_iret (kX10_mops_0 9 rfl) rfl h
theorem vX10_desks_0 {d : Nat} {φ : aF} {α : aA} {Q : Int → aF → aA → Prop} {x1 : Int} (h : (eX2_isMatter d 9 x1 φ α (fun r1 φ1 α1 =>
   ((r1 = 0 →
   (Q (-1) φ1 α1)) ∧
   (¬ (r1 = 0) →
   (eX4_findDesk d x1 φ1 α1 (fun r3 φ3 α3 =>
     (Q r3 φ3 α3)))))))) : eX10_desks (d + 1) x1 φ α Q := by
  intro Ln
  refine r_aload_n (pc' := 1) (kX10_desks_0 0 rfl) rfl rfl ?_
  refine s_getr (v := 9) (pc' := 4) (kX10_desks_0 1 rfl) rfl fkX10_30 rfl rfl (kz0 Ln) rfl (by decide) ?_
  refine r_iload_n (pc' := 5) (kX10_desks_0 2 rfl) rfl rfl ?_
  refine s_callV (As := [(0, x1)]) (o := 9) (S := []) (S2 := fun z => [(0, z)]) (pc' := 8) (kX10_desks_0 3 rfl) rfl rfl nkX2_isMatter mlX10_176 imX2_isMatter rfl slX2_isMatter rfl (Nat.le_of_ble_eq_true rfl) (Nat.le_of_ble_eq_true rfl) (kz9 Ln) h (fun z => rfl) (fun r1 φ1 α1 h => ?_)
  refine r_if_eq (t := 22) (pc' := 11) (kX10_desks_0 4 rfl) rfl rfl (fun c2 => ?_) (fun c2 => ?_)
  · have h := h.1 c2
    refine r_iconst (-1) (pc' := 23) (kX10_desks_0 10 rfl) rfl (by unfold inR; omega) ?_
    exact s_iret (kX10_desks_0 11 rfl) rfl h
  · have h := h.2 c2
    refine r_aload_n (pc' := 12) (kX10_desks_0 5 rfl) rfl rfl ?_
    refine s_getr (v := 192) (pc' := 15) (kX10_desks_0 6 rfl) rfl fkX10_86 rfl rfl (kz0 Ln) rfl (by decide) ?_
    refine r_iload_n (pc' := 16) (kX10_desks_0 7 rfl) rfl rfl ?_
    refine s_callV (As := [(0, x1)]) (o := 192) (S := []) (S2 := fun z => [(0, z)]) (pc' := 19) (kX10_desks_0 8 rfl) rfl rfl nkX4_findDesk mlX10_276 imX4_findDesk rfl slX4_findDesk rfl (Nat.le_of_ble_eq_true rfl) (Nat.le_of_ble_eq_true rfl) (kz192 Ln) h (fun z => rfl) (fun r3 φ3 α3 h => ?_)
    refine r_goto (pc' := 23) (kX10_desks_0 9 rfl) rfl ?_
    exact s_iret (kX10_desks_0 11 rfl) rfl h
theorem vX10_see_0 {d : Nat} {φ : aF} {α : aA} {Q : Int → aF → aA → Prop} (h : (eX0_areRows d 1 φ α (fun r1 φ1 α1 =>
   ((r1 = 0 →
   (eX6_clear d 1 φ1 α1 (fun r3 φ3 α3 =>
     (eX10_refuse d 1 φ3 α3 (fun r4 φ4 α4 =>
     (Q r4 φ4 α4)))))) ∧
   (¬ (r1 = 0) →
   (eX6_copyFrom d 5 1 φ1 α1 (fun r5 φ5 α5 =>
     (eX6_clear d 1 φ5 α5 (fun r6 φ6 α6 =>
     inR (Int.tdiv (φ6 6 1 5) 4) ∧ (Q (Int.tdiv (φ6 6 1 5) 4) φ6 α6)))))))))) : eX10_see (d + 1)  φ α Q := by
  intro Ln
  refine r_aload_n (pc' := 1) (kX10_see_0 0 rfl) rfl rfl ?_
  refine s_getr (v := 195) (pc' := 4) (kX10_see_0 1 rfl) rfl fkX10_95 rfl rfl (kz0 Ln) rfl (by decide) ?_
  refine r_aload_n (pc' := 5) (kX10_see_0 2 rfl) rfl rfl ?_
  refine s_getr (v := 1) (pc' := 8) (kX10_see_0 3 rfl) rfl fkX10_14 rfl rfl (kz0 Ln) rfl (by decide) ?_
  refine s_callV (As := [(2, 1)]) (o := 195) (S := []) (S2 := fun z => [(0, z)]) (pc' := 11) (kX10_see_0 4 rfl) rfl rfl nkX0_areRows mlX10_279 imX0_areRows rfl slX0_areRows rfl (Nat.le_of_ble_eq_true rfl) (Nat.le_of_ble_eq_true rfl) (kz195 Ln) h (fun z => rfl) (fun r1 φ1 α1 h => ?_)
  refine r_istore_n (L' := [(2, 0), (0, r1)]) (pc' := 12) (kX10_see_0 5 rfl) rfl (Nat.le_of_ble_eq_true rfl) rfl ?_
  refine r_iload_n (pc' := 13) (kX10_see_0 6 rfl) rfl rfl ?_
  refine r_if_eq (t := 27) (pc' := 16) (kX10_see_0 7 rfl) rfl rfl (fun c2 => ?_) (fun c2 => ?_)
  · have h := h.1 c2
    refine r_aload_n (pc' := 28) (kX10_see_0 13 rfl) rfl rfl ?_
    refine s_getr (v := 1) (pc' := 31) (kX10_see_0 14 rfl) rfl fkX10_14 rfl rfl (kz0 Ln) rfl (by decide) ?_
    refine s_callV (As := []) (o := 1) (S := []) (S2 := fun z => []) (pc' := 34) (kX10_see_0 15 rfl) rfl rfl nkX6_clear mlX10_125 imX6_clear rfl slX6_clear rfl (Nat.le_of_ble_eq_true rfl) (Nat.le_of_ble_eq_true rfl) (kz1 Ln) h (fun z => rfl) (fun r3 φ3 α3 h => ?_)
    refine r_iload_n (pc' := 35) (kX10_see_0 16 rfl) rfl rfl ?_
    refine r_if_eq (t := 50) (pc' := 38) (kX10_see_0 17 rfl) rfl rfl (fun _ => ?_) (fun cz => absurd c2 cz)
    refine r_aload_n (pc' := 51) (kX10_see_0 24 rfl) rfl rfl ?_
    refine r_iconst 1 (pc' := 52) (kX10_see_0 25 rfl) rfl (by unfold inR; omega) ?_
    refine s_callV (As := [(0, 1)]) (o := 0) (S := []) (S2 := fun z => [(0, z)]) (pc' := 55) (kX10_see_0 26 rfl) rfl rfl nkX10_refuse mlX10_110 imX10_refuse rfl slX10_refuse rfl (Nat.le_of_ble_eq_true rfl) (Nat.le_of_ble_eq_true rfl) (kz0 Ln) h (fun z => rfl) (fun r4 φ4 α4 h => ?_)
    exact s_iret (kX10_see_0 27 rfl) rfl h
  · have h := h.2 c2
    refine r_aload_n (pc' := 17) (kX10_see_0 8 rfl) rfl rfl ?_
    refine s_getr (v := 5) (pc' := 20) (kX10_see_0 9 rfl) rfl fkX10_21 rfl rfl (kz0 Ln) rfl (by decide) ?_
    refine r_aload_n (pc' := 21) (kX10_see_0 10 rfl) rfl rfl ?_
    refine s_getr (v := 1) (pc' := 24) (kX10_see_0 11 rfl) rfl fkX10_14 rfl rfl (kz0 Ln) rfl (by decide) ?_
    refine s_callV (As := [(2, 1)]) (o := 5) (S := []) (S2 := fun z => []) (pc' := 27) (kX10_see_0 12 rfl) rfl rfl nkX6_copyFrom mlX10_283 imX6_copyFrom rfl slX6_copyFrom rfl (Nat.le_of_ble_eq_true rfl) (Nat.le_of_ble_eq_true rfl) (kz5 Ln) h (fun z => rfl) (fun r5 φ5 α5 h => ?_)
    refine r_aload_n (pc' := 28) (kX10_see_0 13 rfl) rfl rfl ?_
    refine s_getr (v := 1) (pc' := 31) (kX10_see_0 14 rfl) rfl fkX10_14 rfl rfl (kz0 Ln) rfl (by decide) ?_
    refine s_callV (As := []) (o := 1) (S := []) (S2 := fun z => []) (pc' := 34) (kX10_see_0 15 rfl) rfl rfl nkX6_clear mlX10_125 imX6_clear rfl slX6_clear rfl (Nat.le_of_ble_eq_true rfl) (Nat.le_of_ble_eq_true rfl) (kz1 Ln) h (fun z => rfl) (fun r6 φ6 α6 h => ?_)
    refine r_iload_n (pc' := 35) (kX10_see_0 16 rfl) rfl rfl ?_
    refine r_if_eq (t := 50) (pc' := 38) (kX10_see_0 17 rfl) rfl rfl (fun cz => absurd cz c2) (fun _ => ?_)
    refine r_aload_n (pc' := 39) (kX10_see_0 18 rfl) rfl rfl ?_
    refine s_getr (v := 5) (pc' := 42) (kX10_see_0 19 rfl) rfl fkX10_21 rfl rfl (kz0 Ln) rfl (by decide) ?_
    refine s_get (x := (φ6 6 1 5)) (pc' := 45) (kX10_see_0 20 rfl) rfl fkX10_107 rfl rfl rfl (kz5 Ln) rfl ?_
    refine r_iconst 4 (pc' := 46) (kX10_see_0 21 rfl) rfl (by unfold inR; omega) ?_
    have g7 := h.1
    have h := h.2
    refine r_idiv (pc' := 47) (kX10_see_0 22 rfl) rfl ⟨by decide, g7⟩ ?_
    refine r_goto (pc' := 55) (kX10_see_0 23 rfl) rfl ?_
    exact s_iret (kX10_see_0 27 rfl) rfl h
theorem vX10_sources_0 {d : Nat} {φ : aF} {α : aA} {Q : Int → aF → aA → Prop} {x1 : Int} {x2 : Int} (h : (eX2_isMatter d 9 x1 φ α (fun r1 φ1 α1 =>
   ((r1 = 0 →
   (Q (-1) φ1 α1)) ∧
   (¬ (r1 = 0) →
   (eX10_within d x2 0 99 φ1 α1 (fun r3 φ3 α3 =>
     ((¬ r3 = 0 →
     (eX0_findSources d x1 x2 φ3 α3 (fun r5 φ5 α5 =>
       (Q r5 φ5 α5)))) ∧
     (r3 = 0 →
     (Q (-1) φ3 α3)))))))))) : eX10_sources (d + 1) x1 x2 φ α Q := by
  intro Ln
  refine r_aload_n (pc' := 1) (kX10_sources_0 0 rfl) rfl rfl ?_
  refine s_getr (v := 9) (pc' := 4) (kX10_sources_0 1 rfl) rfl fkX10_30 rfl rfl (kz0 Ln) rfl (by decide) ?_
  refine r_iload_n (pc' := 5) (kX10_sources_0 2 rfl) rfl rfl ?_
  refine s_callV (As := [(0, x1)]) (o := 9) (S := []) (S2 := fun z => [(0, z)]) (pc' := 8) (kX10_sources_0 3 rfl) rfl rfl nkX2_isMatter mlX10_176 imX2_isMatter rfl slX2_isMatter rfl (Nat.le_of_ble_eq_true rfl) (Nat.le_of_ble_eq_true rfl) (kz9 Ln) h (fun z => rfl) (fun r1 φ1 α1 h => ?_)
  refine r_if_eq (t := 21) (pc' := 11) (kX10_sources_0 4 rfl) rfl rfl (fun c2 => ?_) (fun c2 => ?_)
  · have h := h.1 c2
    refine r_iconst (-1) (pc' := 22) (kX10_sources_0 10 rfl) rfl (by unfold inR; omega) ?_
    exact s_iret (kX10_sources_0 11 rfl) rfl h
  · have h := h.2 c2
    refine r_iload_n (pc' := 12) (kX10_sources_0 5 rfl) rfl rfl ?_
    refine r_iconst 0 (pc' := 13) (kX10_sources_0 6 rfl) rfl (by unfold inR; omega) ?_
    refine r_bipush 99 (pc' := 15) (kX10_sources_0 7 rfl) rfl ⟨by unfold inR; omega, rfl⟩ ?_
    refine s_callS (As := [(0, x2), (0, 0), (0, 99)]) (S := []) (S2 := fun z => [(0, z)]) (pc' := 18) (kX10_sources_0 8 rfl) rfl rfl nkX10_within mlX10_182 scX10_within rfl (Nat.le_of_ble_eq_true rfl) (Nat.le_of_ble_eq_true rfl) h (fun z => rfl) (fun r3 φ3 α3 h => ?_)
    refine r_if_ne (t := 23) (pc' := 21) (kX10_sources_0 9 rfl) rfl rfl (fun c4 => ?_) (fun c4 => ?_)
    · have h := h.1 c4
      refine r_aload_n (pc' := 24) (kX10_sources_0 12 rfl) rfl rfl ?_
      refine s_getr (v := 195) (pc' := 27) (kX10_sources_0 13 rfl) rfl fkX10_95 rfl rfl (kz0 Ln) rfl (by decide) ?_
      refine r_iload_n (pc' := 28) (kX10_sources_0 14 rfl) rfl rfl ?_
      refine r_iload_n (pc' := 29) (kX10_sources_0 15 rfl) rfl rfl ?_
      refine s_callV (As := [(0, x1), (0, x2)]) (o := 195) (S := []) (S2 := fun z => [(0, z)]) (pc' := 32) (kX10_sources_0 16 rfl) rfl rfl nkX0_findSources mlX10_286 imX0_findSources rfl slX0_findSources rfl (Nat.le_of_ble_eq_true rfl) (Nat.le_of_ble_eq_true rfl) (kz195 Ln) h (fun z => rfl) (fun r5 φ5 α5 h => ?_)
      exact s_iret (kX10_sources_0 17 rfl) rfl h
    · have h := h.2 c4
      refine r_iconst (-1) (pc' := 22) (kX10_sources_0 10 rfl) rfl (by unfold inR; omega) ?_
      exact s_iret (kX10_sources_0 11 rfl) rfl h
theorem vX10_tells_0 {d : Nat} {φ : aF} {α : aA} {Q : Int → aF → aA → Prop} {x1 : Int} {x2 : Int} {x3 : Int} (h : (eX2_isMatter d 9 x1 φ α (fun r1 φ1 α1 =>
   ((r1 = 0 →
   (Q (-1) φ1 α1)) ∧
   (¬ (r1 = 0) →
   (eX10_within d x2 0 99 φ1 α1 (fun r3 φ3 α3 =>
     ((r3 = 0 →
     (Q (-1) φ3 α3)) ∧
     (¬ (r3 = 0) →
     (eX10_within d x3 0 2 φ3 α3 (fun r5 φ5 α5 =>
       ((¬ r5 = 0 →
       (eX0_findSources d x1 x2 φ5 α5 (fun r7 φ7 α7 =>
         ((¬ r7 = 0 →
         (eX0_findTelling d r7 x1 x2 φ7 α7 (fun r9 φ9 α9 =>
           ((¬ x3 = 2 →
           ((¬ x3 = 0 →
             (Q (φ9 0 7 195) φ9 α9)) ∧
             (x3 = 0 →
             (Q (φ9 0 6 195) φ9 α9)))) ∧
           (x3 = 2 →
           (Q (φ9 0 8 195) φ9 α9)))))) ∧
         (r7 = 0 →
         (Q (-1) φ7 α7)))))) ∧
       (r5 = 0 →
       (Q (-1) φ5 α5)))))))))))))) : eX10_tells (d + 1) x1 x2 x3 φ α Q := by
  intro Ln
  refine r_aload_n (pc' := 1) (kX10_tells_0 0 rfl) rfl rfl ?_
  refine s_getr (v := 9) (pc' := 4) (kX10_tells_0 1 rfl) rfl fkX10_30 rfl rfl (kz0 Ln) rfl (by decide) ?_
  refine r_iload_n (pc' := 5) (kX10_tells_0 2 rfl) rfl rfl ?_
  refine s_callV (As := [(0, x1)]) (o := 9) (S := []) (S2 := fun z => [(0, z)]) (pc' := 8) (kX10_tells_0 3 rfl) rfl rfl nkX2_isMatter mlX10_176 imX2_isMatter rfl slX2_isMatter rfl (Nat.le_of_ble_eq_true rfl) (Nat.le_of_ble_eq_true rfl) (kz9 Ln) h (fun z => rfl) (fun r1 φ1 α1 h => ?_)
  refine r_if_eq (t := 25) (pc' := 11) (kX10_tells_0 4 rfl) rfl rfl (fun c2 => ?_) (fun c2 => ?_)
  · have h := h.1 c2
    refine r_iconst 0 (pc' := 26) (kX10_tells_0 12 rfl) rfl (by unfold inR; omega) ?_
    refine r_istore (L' := [(2, 0), (0, x1), (0, x2), (0, x3), (0, 0), (9, 0)]) (pc' := 28) (kX10_tells_0 13 rfl) rfl (Nat.le_of_ble_eq_true rfl) rfl ?_
    refine r_iload (pc' := 30) (kX10_tells_0 14 rfl) rfl rfl ?_
    refine r_if_eq (t := 42) (pc' := 33) (kX10_tells_0 15 rfl) rfl rfl (fun _ => ?_) (fun cz => absurd cz (by decide))
    refine r_iconst (-1) (pc' := 43) (kX10_tells_0 21 rfl) rfl (by unfold inR; omega) ?_
    exact s_iret (kX10_tells_0 22 rfl) rfl h
  · have h := h.2 c2
    refine r_iload_n (pc' := 12) (kX10_tells_0 5 rfl) rfl rfl ?_
    refine r_iconst 0 (pc' := 13) (kX10_tells_0 6 rfl) rfl (by unfold inR; omega) ?_
    refine r_bipush 99 (pc' := 15) (kX10_tells_0 7 rfl) rfl ⟨by unfold inR; omega, rfl⟩ ?_
    refine s_callS (As := [(0, x2), (0, 0), (0, 99)]) (S := []) (S2 := fun z => [(0, z)]) (pc' := 18) (kX10_tells_0 8 rfl) rfl rfl nkX10_within mlX10_182 scX10_within rfl (Nat.le_of_ble_eq_true rfl) (Nat.le_of_ble_eq_true rfl) h (fun z => rfl) (fun r3 φ3 α3 h => ?_)
    refine r_if_eq (t := 25) (pc' := 21) (kX10_tells_0 9 rfl) rfl rfl (fun c4 => ?_) (fun c4 => ?_)
    · have h := h.1 c4
      refine r_iconst 0 (pc' := 26) (kX10_tells_0 12 rfl) rfl (by unfold inR; omega) ?_
      refine r_istore (L' := [(2, 0), (0, x1), (0, x2), (0, x3), (0, 0), (9, 0)]) (pc' := 28) (kX10_tells_0 13 rfl) rfl (Nat.le_of_ble_eq_true rfl) rfl ?_
      refine r_iload (pc' := 30) (kX10_tells_0 14 rfl) rfl rfl ?_
      refine r_if_eq (t := 42) (pc' := 33) (kX10_tells_0 15 rfl) rfl rfl (fun _ => ?_) (fun cz => absurd cz (by decide))
      refine r_iconst (-1) (pc' := 43) (kX10_tells_0 21 rfl) rfl (by unfold inR; omega) ?_
      exact s_iret (kX10_tells_0 22 rfl) rfl h
    · have h := h.2 c4
      refine r_iconst 1 (pc' := 22) (kX10_tells_0 10 rfl) rfl (by unfold inR; omega) ?_
      refine r_goto (pc' := 26) (kX10_tells_0 11 rfl) rfl ?_
      refine r_istore (L' := [(2, 0), (0, x1), (0, x2), (0, x3), (0, 1), (9, 0)]) (pc' := 28) (kX10_tells_0 13 rfl) rfl (Nat.le_of_ble_eq_true rfl) rfl ?_
      refine r_iload (pc' := 30) (kX10_tells_0 14 rfl) rfl rfl ?_
      refine r_if_eq (t := 42) (pc' := 33) (kX10_tells_0 15 rfl) rfl rfl (fun cz => absurd cz (by decide)) (fun _ => ?_)
      refine r_iload_n (pc' := 34) (kX10_tells_0 16 rfl) rfl rfl ?_
      refine r_iconst 0 (pc' := 35) (kX10_tells_0 17 rfl) rfl (by unfold inR; omega) ?_
      refine r_iconst 2 (pc' := 36) (kX10_tells_0 18 rfl) rfl (by unfold inR; omega) ?_
      refine s_callS (As := [(0, x3), (0, 0), (0, 2)]) (S := []) (S2 := fun z => [(0, z)]) (pc' := 39) (kX10_tells_0 19 rfl) rfl rfl nkX10_within mlX10_182 scX10_within rfl (Nat.le_of_ble_eq_true rfl) (Nat.le_of_ble_eq_true rfl) h (fun z => rfl) (fun r5 φ5 α5 h => ?_)
      refine r_if_ne (t := 44) (pc' := 42) (kX10_tells_0 20 rfl) rfl rfl (fun c6 => ?_) (fun c6 => ?_)
      · have h := h.1 c6
        refine r_aload_n (pc' := 45) (kX10_tells_0 23 rfl) rfl rfl ?_
        refine s_getr (v := 195) (pc' := 48) (kX10_tells_0 24 rfl) rfl fkX10_95 rfl rfl (kz0 Ln) rfl (by decide) ?_
        refine r_iload_n (pc' := 49) (kX10_tells_0 25 rfl) rfl rfl ?_
        refine r_iload_n (pc' := 50) (kX10_tells_0 26 rfl) rfl rfl ?_
        refine s_callV (As := [(0, x1), (0, x2)]) (o := 195) (S := []) (S2 := fun z => [(0, z)]) (pc' := 53) (kX10_tells_0 27 rfl) rfl rfl nkX0_findSources mlX10_286 imX0_findSources rfl slX0_findSources rfl (Nat.le_of_ble_eq_true rfl) (Nat.le_of_ble_eq_true rfl) (kz195 Ln) h (fun z => rfl) (fun r7 φ7 α7 h => ?_)
        refine r_istore (L' := [(2, 0), (0, x1), (0, x2), (0, x3), (0, 1), (0, r7)]) (pc' := 55) (kX10_tells_0 28 rfl) rfl (Nat.le_of_ble_eq_true rfl) rfl ?_
        refine r_iload (pc' := 57) (kX10_tells_0 29 rfl) rfl rfl ?_
        refine r_if_ne (t := 62) (pc' := 60) (kX10_tells_0 30 rfl) rfl rfl (fun c8 => ?_) (fun c8 => ?_)
        · have h := h.1 c8
          refine r_aload_n (pc' := 63) (kX10_tells_0 33 rfl) rfl rfl ?_
          refine s_getr (v := 195) (pc' := 66) (kX10_tells_0 34 rfl) rfl fkX10_95 rfl rfl (kz0 Ln) rfl (by decide) ?_
          refine r_iload (pc' := 68) (kX10_tells_0 35 rfl) rfl rfl ?_
          refine r_iload_n (pc' := 69) (kX10_tells_0 36 rfl) rfl rfl ?_
          refine r_iload_n (pc' := 70) (kX10_tells_0 37 rfl) rfl rfl ?_
          refine s_callV (As := [(0, r7), (0, x1), (0, x2)]) (o := 195) (S := []) (S2 := fun z => []) (pc' := 73) (kX10_tells_0 38 rfl) rfl rfl nkX0_findTelling mlX10_289 imX0_findTelling rfl slX0_findTelling rfl (Nat.le_of_ble_eq_true rfl) (Nat.le_of_ble_eq_true rfl) (kz195 Ln) h (fun z => rfl) (fun r9 φ9 α9 h => ?_)
          refine r_iload_n (pc' := 74) (kX10_tells_0 39 rfl) rfl rfl ?_
          refine r_iconst 2 (pc' := 75) (kX10_tells_0 40 rfl) rfl (by unfold inR; omega) ?_
          refine r_icmp_ne (t := 86) (pc' := 78) (kX10_tells_0 41 rfl) rfl rfl (fun c10 => ?_) (fun c10 => ?_)
          · have h := h.1 c10
            refine r_iload_n (pc' := 87) (kX10_tells_0 46 rfl) rfl rfl ?_
            refine r_if_ne (t := 100) (pc' := 90) (kX10_tells_0 47 rfl) rfl rfl (fun c11 => ?_) (fun c11 => ?_)
            · have h := h.1 c11
              refine r_aload_n (pc' := 101) (kX10_tells_0 52 rfl) rfl rfl ?_
              refine s_getr (v := 195) (pc' := 104) (kX10_tells_0 53 rfl) rfl fkX10_95 rfl rfl (kz0 Ln) rfl (by decide) ?_
              refine s_get (x := (φ9 0 7 195)) (pc' := 107) (kX10_tells_0 54 rfl) rfl fkX10_297 rfl rfl rfl (kz195 Ln) rfl ?_
              exact s_iret (kX10_tells_0 55 rfl) rfl h
            · have h := h.2 c11
              refine r_aload_n (pc' := 91) (kX10_tells_0 48 rfl) rfl rfl ?_
              refine s_getr (v := 195) (pc' := 94) (kX10_tells_0 49 rfl) rfl fkX10_95 rfl rfl (kz0 Ln) rfl (by decide) ?_
              refine s_get (x := (φ9 0 6 195)) (pc' := 97) (kX10_tells_0 50 rfl) rfl fkX10_296 rfl rfl rfl (kz195 Ln) rfl ?_
              refine r_goto (pc' := 107) (kX10_tells_0 51 rfl) rfl ?_
              exact s_iret (kX10_tells_0 55 rfl) rfl h
          · have h := h.2 c10
            refine r_aload_n (pc' := 79) (kX10_tells_0 42 rfl) rfl rfl ?_
            refine s_getr (v := 195) (pc' := 82) (kX10_tells_0 43 rfl) rfl fkX10_95 rfl rfl (kz0 Ln) rfl (by decide) ?_
            refine s_get (x := (φ9 0 8 195)) (pc' := 85) (kX10_tells_0 44 rfl) rfl fkX10_293 rfl rfl rfl (kz195 Ln) rfl ?_
            exact s_iret (kX10_tells_0 45 rfl) rfl h
        · have h := h.2 c8
          refine r_iconst (-1) (pc' := 61) (kX10_tells_0 31 rfl) rfl (by unfold inR; omega) ?_
          exact s_iret (kX10_tells_0 32 rfl) rfl h
      · have h := h.2 c6
        refine r_iconst (-1) (pc' := 43) (kX10_tells_0 21 rfl) rfl (by unfold inR; omega) ?_
        exact s_iret (kX10_tells_0 22 rfl) rfl h
theorem vX10_tell_0 {d : Nat} {φ : aF} {α : aA} {Q : Int → aF → aA → Prop} {x1 : Int} {x2 : Int} {x3 : Int} (h : (eX2_areThere d 9 x1 x2 φ α (fun r1 φ1 α1 =>
   ((r1 = 0 →
   (eX10_refuse d 2 φ1 α1 (fun r3 φ3 α3 =>
     (Q r3 φ3 α3)))) ∧
   (¬ (r1 = 0) →
   (eX10_within d x3 1 99 φ1 α1 (fun r4 φ4 α4 =>
     ((r4 = 0 →
     (eX10_refuse d 2 φ4 α4 (fun r6 φ6 α6 =>
       (Q r6 φ6 α6)))) ∧
     (¬ (r4 = 0) →
     (eX9_canPour d 29 x1 x2 x3 φ4 α4 (fun r7 φ7 α7 =>
       ((¬ r7 = 0 →
       (eX3_keep d 29 φ7 α7 (fun r9 φ9 α9 =>
         (eX9_pour d 29 x1 x2 x3 φ9 α9 (fun r10 φ10 α10 =>
         (Q r10 φ10 α10)))))) ∧
       (r7 = 0 →
       (eX10_refuse d 2 φ7 α7 (fun r11 φ11 α11 =>
         (Q r11 φ11 α11)))))))))))))))) : eX10_tell (d + 1) x1 x2 x3 φ α Q := by
  intro Ln
  refine r_aload_n (pc' := 1) (kX10_tell_0 0 rfl) rfl rfl ?_
  refine s_getr (v := 9) (pc' := 4) (kX10_tell_0 1 rfl) rfl fkX10_30 rfl rfl (kz0 Ln) rfl (by decide) ?_
  refine r_iload_n (pc' := 5) (kX10_tell_0 2 rfl) rfl rfl ?_
  refine r_iload_n (pc' := 6) (kX10_tell_0 3 rfl) rfl rfl ?_
  refine s_callV (As := [(0, x1), (0, x2)]) (o := 9) (S := []) (S2 := fun z => [(0, z)]) (pc' := 9) (kX10_tell_0 4 rfl) rfl rfl nkX2_areThere mlX10_211 imX2_areThere rfl slX2_areThere rfl (Nat.le_of_ble_eq_true rfl) (Nat.le_of_ble_eq_true rfl) (kz9 Ln) h (fun z => rfl) (fun r1 φ1 α1 h => ?_)
  refine r_if_eq (t := 26) (pc' := 12) (kX10_tell_0 5 rfl) rfl rfl (fun c2 => ?_) (fun c2 => ?_)
  · have h := h.1 c2
    refine r_iconst 0 (pc' := 27) (kX10_tell_0 13 rfl) rfl (by unfold inR; omega) ?_
    refine r_istore (L' := [(2, 0), (0, x1), (0, x2), (0, x3), (0, 0)]) (pc' := 29) (kX10_tell_0 14 rfl) rfl (Nat.le_of_ble_eq_true rfl) rfl ?_
    refine r_iload (pc' := 31) (kX10_tell_0 15 rfl) rfl rfl ?_
    refine r_if_eq (t := 51) (pc' := 34) (kX10_tell_0 16 rfl) rfl rfl (fun _ => ?_) (fun cz => absurd cz (by decide))
    refine r_aload_n (pc' := 52) (kX10_tell_0 26 rfl) rfl rfl ?_
    refine r_iconst 2 (pc' := 53) (kX10_tell_0 27 rfl) rfl (by unfold inR; omega) ?_
    refine s_callV (As := [(0, 2)]) (o := 0) (S := []) (S2 := fun z => [(0, z)]) (pc' := 56) (kX10_tell_0 28 rfl) rfl rfl nkX10_refuse mlX10_110 imX10_refuse rfl slX10_refuse rfl (Nat.le_of_ble_eq_true rfl) (Nat.le_of_ble_eq_true rfl) (kz0 Ln) h (fun z => rfl) (fun r3 φ3 α3 h => ?_)
    exact s_iret (kX10_tell_0 29 rfl) rfl h
  · have h := h.2 c2
    refine r_iload_n (pc' := 13) (kX10_tell_0 6 rfl) rfl rfl ?_
    refine r_iconst 1 (pc' := 14) (kX10_tell_0 7 rfl) rfl (by unfold inR; omega) ?_
    refine r_bipush 99 (pc' := 16) (kX10_tell_0 8 rfl) rfl ⟨by unfold inR; omega, rfl⟩ ?_
    refine s_callS (As := [(0, x3), (0, 1), (0, 99)]) (S := []) (S2 := fun z => [(0, z)]) (pc' := 19) (kX10_tell_0 9 rfl) rfl rfl nkX10_within mlX10_182 scX10_within rfl (Nat.le_of_ble_eq_true rfl) (Nat.le_of_ble_eq_true rfl) h (fun z => rfl) (fun r4 φ4 α4 h => ?_)
    refine r_if_eq (t := 26) (pc' := 22) (kX10_tell_0 10 rfl) rfl rfl (fun c5 => ?_) (fun c5 => ?_)
    · have h := h.1 c5
      refine r_iconst 0 (pc' := 27) (kX10_tell_0 13 rfl) rfl (by unfold inR; omega) ?_
      refine r_istore (L' := [(2, 0), (0, x1), (0, x2), (0, x3), (0, 0)]) (pc' := 29) (kX10_tell_0 14 rfl) rfl (Nat.le_of_ble_eq_true rfl) rfl ?_
      refine r_iload (pc' := 31) (kX10_tell_0 15 rfl) rfl rfl ?_
      refine r_if_eq (t := 51) (pc' := 34) (kX10_tell_0 16 rfl) rfl rfl (fun _ => ?_) (fun cz => absurd cz (by decide))
      refine r_aload_n (pc' := 52) (kX10_tell_0 26 rfl) rfl rfl ?_
      refine r_iconst 2 (pc' := 53) (kX10_tell_0 27 rfl) rfl (by unfold inR; omega) ?_
      refine s_callV (As := [(0, 2)]) (o := 0) (S := []) (S2 := fun z => [(0, z)]) (pc' := 56) (kX10_tell_0 28 rfl) rfl rfl nkX10_refuse mlX10_110 imX10_refuse rfl slX10_refuse rfl (Nat.le_of_ble_eq_true rfl) (Nat.le_of_ble_eq_true rfl) (kz0 Ln) h (fun z => rfl) (fun r6 φ6 α6 h => ?_)
      exact s_iret (kX10_tell_0 29 rfl) rfl h
    · have h := h.2 c5
      refine r_iconst 1 (pc' := 23) (kX10_tell_0 11 rfl) rfl (by unfold inR; omega) ?_
      refine r_goto (pc' := 27) (kX10_tell_0 12 rfl) rfl ?_
      refine r_istore (L' := [(2, 0), (0, x1), (0, x2), (0, x3), (0, 1)]) (pc' := 29) (kX10_tell_0 14 rfl) rfl (Nat.le_of_ble_eq_true rfl) rfl ?_
      refine r_iload (pc' := 31) (kX10_tell_0 15 rfl) rfl rfl ?_
      refine r_if_eq (t := 51) (pc' := 34) (kX10_tell_0 16 rfl) rfl rfl (fun cz => absurd cz (by decide)) (fun _ => ?_)
      refine r_aload_n (pc' := 35) (kX10_tell_0 17 rfl) rfl rfl ?_
      refine s_getr (v := 190) (pc' := 38) (kX10_tell_0 18 rfl) rfl fkX10_77 rfl rfl (kz0 Ln) rfl (by decide) ?_
      refine r_aload_n (pc' := 39) (kX10_tell_0 19 rfl) rfl rfl ?_
      refine s_getr (v := 29) (pc' := 42) (kX10_tell_0 20 rfl) rfl fkX10_40 rfl rfl (kz0 Ln) rfl (by decide) ?_
      refine r_iload_n (pc' := 43) (kX10_tell_0 21 rfl) rfl rfl ?_
      refine r_iload_n (pc' := 44) (kX10_tell_0 22 rfl) rfl rfl ?_
      refine r_iload_n (pc' := 45) (kX10_tell_0 23 rfl) rfl rfl ?_
      refine s_callV (As := [(2, 29), (0, x1), (0, x2), (0, x3)]) (o := 190) (S := []) (S2 := fun z => [(0, z)]) (pc' := 48) (kX10_tell_0 24 rfl) rfl rfl nkX9_canPour mlX10_300 imX9_canPour rfl slX9_canPour rfl (Nat.le_of_ble_eq_true rfl) (Nat.le_of_ble_eq_true rfl) (kz190 Ln) h (fun z => rfl) (fun r7 φ7 α7 h => ?_)
      refine r_if_ne (t := 57) (pc' := 51) (kX10_tell_0 25 rfl) rfl rfl (fun c8 => ?_) (fun c8 => ?_)
      · have h := h.1 c8
        refine r_aload_n (pc' := 58) (kX10_tell_0 30 rfl) rfl rfl ?_
        refine s_getr (v := 43) (pc' := 61) (kX10_tell_0 31 rfl) rfl fkX10_50 rfl rfl (kz0 Ln) rfl (by decide) ?_
        refine r_aload_n (pc' := 62) (kX10_tell_0 32 rfl) rfl rfl ?_
        refine s_getr (v := 29) (pc' := 65) (kX10_tell_0 33 rfl) rfl fkX10_40 rfl rfl (kz0 Ln) rfl (by decide) ?_
        refine s_callV (As := [(2, 29)]) (o := 43) (S := []) (S2 := fun z => []) (pc' := 68) (kX10_tell_0 34 rfl) rfl rfl nkX3_keep mlX10_304 imX3_keep rfl slX3_keep rfl (Nat.le_of_ble_eq_true rfl) (Nat.le_of_ble_eq_true rfl) (kz43 Ln) h (fun z => rfl) (fun r9 φ9 α9 h => ?_)
        refine r_aload_n (pc' := 69) (kX10_tell_0 35 rfl) rfl rfl ?_
        refine s_getr (v := 190) (pc' := 72) (kX10_tell_0 36 rfl) rfl fkX10_77 rfl rfl (kz0 Ln) rfl (by decide) ?_
        refine r_aload_n (pc' := 73) (kX10_tell_0 37 rfl) rfl rfl ?_
        refine s_getr (v := 29) (pc' := 76) (kX10_tell_0 38 rfl) rfl fkX10_40 rfl rfl (kz0 Ln) rfl (by decide) ?_
        refine r_iload_n (pc' := 77) (kX10_tell_0 39 rfl) rfl rfl ?_
        refine r_iload_n (pc' := 78) (kX10_tell_0 40 rfl) rfl rfl ?_
        refine r_iload_n (pc' := 79) (kX10_tell_0 41 rfl) rfl rfl ?_
        refine s_callV (As := [(2, 29), (0, x1), (0, x2), (0, x3)]) (o := 190) (S := []) (S2 := fun z => [(0, z)]) (pc' := 82) (kX10_tell_0 42 rfl) rfl rfl nkX9_pour mlX10_307 imX9_pour rfl slX9_pour rfl (Nat.le_of_ble_eq_true rfl) (Nat.le_of_ble_eq_true rfl) (kz190 Ln) h (fun z => rfl) (fun r10 φ10 α10 h => ?_)
        exact s_iret (kX10_tell_0 43 rfl) rfl h
      · have h := h.2 c8
        refine r_aload_n (pc' := 52) (kX10_tell_0 26 rfl) rfl rfl ?_
        refine r_iconst 2 (pc' := 53) (kX10_tell_0 27 rfl) rfl (by unfold inR; omega) ?_
        refine s_callV (As := [(0, 2)]) (o := 0) (S := []) (S2 := fun z => [(0, z)]) (pc' := 56) (kX10_tell_0 28 rfl) rfl rfl nkX10_refuse mlX10_110 imX10_refuse rfl slX10_refuse rfl (Nat.le_of_ble_eq_true rfl) (Nat.le_of_ble_eq_true rfl) (kz0 Ln) h (fun z => rfl) (fun r11 φ11 α11 h => ?_)
        exact s_iret (kX10_tell_0 29 rfl) rfl h
theorem vX10_squeeze_0 {d : Nat} {φ : aF} {α : aA} {Q : Int → aF → aA → Prop} {x1 : Int} (h : (eX10_dry d x1 1 φ α (fun r1 φ1 α1 =>
   (Q r1 φ1 α1)))) : eX10_squeeze (d + 1) x1 φ α Q := by
  intro Ln
  refine r_aload_n (pc' := 1) (kX10_squeeze_0 0 rfl) rfl rfl ?_
  refine r_iload_n (pc' := 2) (kX10_squeeze_0 1 rfl) rfl rfl ?_
  refine r_iconst 1 (pc' := 3) (kX10_squeeze_0 2 rfl) rfl (by unfold inR; omega) ?_
  refine s_callV (As := [(0, x1), (0, 1)]) (o := 0) (S := []) (S2 := fun z => [(0, z)]) (pc' := 6) (kX10_squeeze_0 3 rfl) rfl rfl nkX10_dry mlX10_310 imX10_dry rfl slX10_dry rfl (Nat.le_of_ble_eq_true rfl) (Nat.le_of_ble_eq_true rfl) (kz0 Ln) h (fun z => rfl) (fun r1 φ1 α1 h => ?_)
  exact s_iret (kX10_squeeze_0 4 rfl) rfl h
theorem vX10_rinse_0 {d : Nat} {φ : aF} {α : aA} {Q : Int → aF → aA → Prop} {x1 : Int} (h : (eX10_dry d x1 2 φ α (fun r1 φ1 α1 =>
   (Q r1 φ1 α1)))) : eX10_rinse (d + 1) x1 φ α Q := by
  intro Ln
  refine r_aload_n (pc' := 1) (kX10_rinse_0 0 rfl) rfl rfl ?_
  refine r_iload_n (pc' := 2) (kX10_rinse_0 1 rfl) rfl rfl ?_
  refine r_iconst 2 (pc' := 3) (kX10_rinse_0 2 rfl) rfl (by unfold inR; omega) ?_
  refine s_callV (As := [(0, x1), (0, 2)]) (o := 0) (S := []) (S2 := fun z => [(0, z)]) (pc' := 6) (kX10_rinse_0 3 rfl) rfl rfl nkX10_dry mlX10_310 imX10_dry rfl slX10_dry rfl (Nat.le_of_ble_eq_true rfl) (Nat.le_of_ble_eq_true rfl) (kz0 Ln) h (fun z => rfl) (fun r1 φ1 α1 h => ?_)
  exact s_iret (kX10_rinse_0 4 rfl) rfl h
theorem vX10_mop_0 {d : Nat} {φ : aF} {α : aA} {Q : Int → aF → aA → Prop} {x1 : Int} (h : (eX2_isClerk d 9 x1 φ α (fun r1 φ1 α1 =>
   ((r1 = 0 →
   (eX10_refuse d 2 φ1 α1 (fun r3 φ3 α3 =>
     (Q r3 φ3 α3)))) ∧
   (¬ (r1 = 0) →
   (eX9_space d 29 x1 φ1 α1 (fun r4 φ4 α4 =>
     ((r4 = 0 →
     (eX10_refuse d 2 φ4 α4 (fun r6 φ6 α6 =>
       (Q r6 φ6 α6)))) ∧
     (¬ (r4 = 0) →
     (eX7_pooled d 29 0 φ4 α4 (fun r7 φ7 α7 =>
       ((¬ r7 = 0 →
       (eX3_keep d 29 φ7 α7 (fun r9 φ9 α9 =>
         (eX9_takeFromFloor d 29 x1 φ9 α9 (fun r10 φ10 α10 =>
         (Q r10 φ10 α10)))))) ∧
       (r7 = 0 →
       (eX10_refuse d 2 φ7 α7 (fun r11 φ11 α11 =>
         (Q r11 φ11 α11)))))))))))))))) : eX10_mop (d + 1) x1 φ α Q := by
  intro Ln
  refine r_aload_n (pc' := 1) (kX10_mop_0 0 rfl) rfl rfl ?_
  refine s_getr (v := 9) (pc' := 4) (kX10_mop_0 1 rfl) rfl fkX10_30 rfl rfl (kz0 Ln) rfl (by decide) ?_
  refine r_iload_n (pc' := 5) (kX10_mop_0 2 rfl) rfl rfl ?_
  refine s_callV (As := [(0, x1)]) (o := 9) (S := []) (S2 := fun z => [(0, z)]) (pc' := 8) (kX10_mop_0 3 rfl) rfl rfl nkX2_isClerk mlX10_179 imX2_isClerk rfl slX2_isClerk rfl (Nat.le_of_ble_eq_true rfl) (Nat.le_of_ble_eq_true rfl) (kz9 Ln) h (fun z => rfl) (fun r1 φ1 α1 h => ?_)
  refine r_if_eq (t := 37) (pc' := 11) (kX10_mop_0 4 rfl) rfl rfl (fun c2 => ?_) (fun c2 => ?_)
  · have h := h.1 c2
    refine r_aload_n (pc' := 38) (kX10_mop_0 17 rfl) rfl rfl ?_
    refine r_iconst 2 (pc' := 39) (kX10_mop_0 18 rfl) rfl (by unfold inR; omega) ?_
    refine s_callV (As := [(0, 2)]) (o := 0) (S := []) (S2 := fun z => [(0, z)]) (pc' := 42) (kX10_mop_0 19 rfl) rfl rfl nkX10_refuse mlX10_110 imX10_refuse rfl slX10_refuse rfl (Nat.le_of_ble_eq_true rfl) (Nat.le_of_ble_eq_true rfl) (kz0 Ln) h (fun z => rfl) (fun r3 φ3 α3 h => ?_)
    exact s_iret (kX10_mop_0 20 rfl) rfl h
  · have h := h.2 c2
    refine r_aload_n (pc' := 12) (kX10_mop_0 5 rfl) rfl rfl ?_
    refine s_getr (v := 190) (pc' := 15) (kX10_mop_0 6 rfl) rfl fkX10_77 rfl rfl (kz0 Ln) rfl (by decide) ?_
    refine r_aload_n (pc' := 16) (kX10_mop_0 7 rfl) rfl rfl ?_
    refine s_getr (v := 29) (pc' := 19) (kX10_mop_0 8 rfl) rfl fkX10_40 rfl rfl (kz0 Ln) rfl (by decide) ?_
    refine r_iload_n (pc' := 20) (kX10_mop_0 9 rfl) rfl rfl ?_
    refine s_callV (As := [(2, 29), (0, x1)]) (o := 190) (S := []) (S2 := fun z => [(0, z)]) (pc' := 23) (kX10_mop_0 10 rfl) rfl rfl nkX9_space mlX10_313 imX9_space rfl slX9_space rfl (Nat.le_of_ble_eq_true rfl) (Nat.le_of_ble_eq_true rfl) (kz190 Ln) h (fun z => rfl) (fun r4 φ4 α4 h => ?_)
    refine r_if_eq (t := 37) (pc' := 26) (kX10_mop_0 11 rfl) rfl rfl (fun c5 => ?_) (fun c5 => ?_)
    · have h := h.1 c5
      refine r_aload_n (pc' := 38) (kX10_mop_0 17 rfl) rfl rfl ?_
      refine r_iconst 2 (pc' := 39) (kX10_mop_0 18 rfl) rfl (by unfold inR; omega) ?_
      refine s_callV (As := [(0, 2)]) (o := 0) (S := []) (S2 := fun z => [(0, z)]) (pc' := 42) (kX10_mop_0 19 rfl) rfl rfl nkX10_refuse mlX10_110 imX10_refuse rfl slX10_refuse rfl (Nat.le_of_ble_eq_true rfl) (Nat.le_of_ble_eq_true rfl) (kz0 Ln) h (fun z => rfl) (fun r6 φ6 α6 h => ?_)
      exact s_iret (kX10_mop_0 20 rfl) rfl h
    · have h := h.2 c5
      refine r_aload_n (pc' := 27) (kX10_mop_0 12 rfl) rfl rfl ?_
      refine s_getr (v := 29) (pc' := 30) (kX10_mop_0 13 rfl) rfl fkX10_40 rfl rfl (kz0 Ln) rfl (by decide) ?_
      refine r_iconst 0 (pc' := 31) (kX10_mop_0 14 rfl) rfl (by unfold inR; omega) ?_
      refine s_callV (As := [(0, 0)]) (o := 29) (S := []) (S2 := fun z => [(0, z)]) (pc' := 34) (kX10_mop_0 15 rfl) rfl rfl nkX7_pooled mlX10_163 imX7_pooled rfl slX7_pooled rfl (Nat.le_of_ble_eq_true rfl) (Nat.le_of_ble_eq_true rfl) (kz29 Ln) h (fun z => rfl) (fun r7 φ7 α7 h => ?_)
      refine r_if_ne (t := 43) (pc' := 37) (kX10_mop_0 16 rfl) rfl rfl (fun c8 => ?_) (fun c8 => ?_)
      · have h := h.1 c8
        refine r_aload_n (pc' := 44) (kX10_mop_0 21 rfl) rfl rfl ?_
        refine s_getr (v := 43) (pc' := 47) (kX10_mop_0 22 rfl) rfl fkX10_50 rfl rfl (kz0 Ln) rfl (by decide) ?_
        refine r_aload_n (pc' := 48) (kX10_mop_0 23 rfl) rfl rfl ?_
        refine s_getr (v := 29) (pc' := 51) (kX10_mop_0 24 rfl) rfl fkX10_40 rfl rfl (kz0 Ln) rfl (by decide) ?_
        refine s_callV (As := [(2, 29)]) (o := 43) (S := []) (S2 := fun z => []) (pc' := 54) (kX10_mop_0 25 rfl) rfl rfl nkX3_keep mlX10_304 imX3_keep rfl slX3_keep rfl (Nat.le_of_ble_eq_true rfl) (Nat.le_of_ble_eq_true rfl) (kz43 Ln) h (fun z => rfl) (fun r9 φ9 α9 h => ?_)
        refine r_aload_n (pc' := 55) (kX10_mop_0 26 rfl) rfl rfl ?_
        refine s_getr (v := 190) (pc' := 58) (kX10_mop_0 27 rfl) rfl fkX10_77 rfl rfl (kz0 Ln) rfl (by decide) ?_
        refine r_aload_n (pc' := 59) (kX10_mop_0 28 rfl) rfl rfl ?_
        refine s_getr (v := 29) (pc' := 62) (kX10_mop_0 29 rfl) rfl fkX10_40 rfl rfl (kz0 Ln) rfl (by decide) ?_
        refine r_iload_n (pc' := 63) (kX10_mop_0 30 rfl) rfl rfl ?_
        refine s_callV (As := [(2, 29), (0, x1)]) (o := 190) (S := []) (S2 := fun z => [(0, z)]) (pc' := 66) (kX10_mop_0 31 rfl) rfl rfl nkX9_takeFromFloor mlX10_317 imX9_takeFromFloor rfl slX9_takeFromFloor rfl (Nat.le_of_ble_eq_true rfl) (Nat.le_of_ble_eq_true rfl) (kz190 Ln) h (fun z => rfl) (fun r10 φ10 α10 h => ?_)
        exact s_iret (kX10_mop_0 32 rfl) rfl h
      · have h := h.2 c8
        refine r_aload_n (pc' := 38) (kX10_mop_0 17 rfl) rfl rfl ?_
        refine r_iconst 2 (pc' := 39) (kX10_mop_0 18 rfl) rfl (by unfold inR; omega) ?_
        refine s_callV (As := [(0, 2)]) (o := 0) (S := []) (S2 := fun z => [(0, z)]) (pc' := 42) (kX10_mop_0 19 rfl) rfl rfl nkX10_refuse mlX10_110 imX10_refuse rfl slX10_refuse rfl (Nat.le_of_ble_eq_true rfl) (Nat.le_of_ble_eq_true rfl) (kz0 Ln) h (fun z => rfl) (fun r11 φ11 α11 h => ?_)
        exact s_iret (kX10_mop_0 20 rfl) rfl h
theorem vX10_change_0 {d : Nat} {φ : aF} {α : aA} {Q : Int → aF → aA → Prop} {x1 : Int} {x2 : Int} (h : (eX2_isSeat d 9 x1 φ α (fun r1 φ1 α1 =>
   ((r1 = 0 →
   (eX10_deny d 2 φ1 α1 (fun r3 φ3 α3 =>
     (r3 = 0 ∨ r3 = 1) ∧ (Q r3 φ3 α3)))) ∧
   (¬ (r1 = 0) →
   (eX2_isSeat d 9 x2 φ1 α1 (fun r5 φ5 α5 =>
     ((r5 = 0 →
     (eX10_deny d 2 φ5 α5 (fun r7 φ7 α7 =>
       (r7 = 0 ∨ r7 = 1) ∧ (Q r7 φ7 α7)))) ∧
     (¬ (r5 = 0) →
     ((x1 = x2 →
       (eX10_deny d 2 φ5 α5 (fun r10 φ10 α10 =>
         (r10 = 0 ∨ r10 = 1) ∧ (Q r10 φ10 α10)))) ∧
       (¬ (x1 = x2) →
       (eX7_sitterAt d 29 x1 φ5 α5 (fun r12 φ12 α12 =>
         ((0 ≤ r12 →
         (eX3_keep d 29 φ12 α12 (fun r14 φ14 α14 =>
           (eX7_swap d 29 x1 x2 φ14 α14 (fun r15 φ15 α15 =>
           (Q 1 φ15 α15)))))) ∧
         (¬ (0 ≤ r12) →
         (eX7_sitterAt d 29 x2 φ12 α12 (fun r16 φ16 α16 =>
           ((0 ≤ r16 →
           (eX3_keep d 29 φ16 α16 (fun r18 φ18 α18 =>
             (eX7_swap d 29 x1 x2 φ18 α18 (fun r19 φ19 α19 =>
             (Q 1 φ19 α19)))))) ∧
           (¬ (0 ≤ r16) →
           (eX10_deny d 2 φ16 α16 (fun r20 φ20 α20 =>
             (r20 = 0 ∨ r20 = 1) ∧ (Q r20 φ20 α20)))))))))))))))))))))) : eX10_change (d + 1) x1 x2 φ α Q := by
  intro Ln
  refine r_aload_n (pc' := 1) (kX10_change_0 0 rfl) rfl rfl ?_
  refine s_getr (v := 9) (pc' := 4) (kX10_change_0 1 rfl) rfl fkX10_30 rfl rfl (kz0 Ln) rfl (by decide) ?_
  refine r_iload_n (pc' := 5) (kX10_change_0 2 rfl) rfl rfl ?_
  refine s_callV (As := [(0, x1)]) (o := 9) (S := []) (S2 := fun z => [(0, z)]) (pc' := 8) (kX10_change_0 3 rfl) rfl rfl nkX2_isSeat mlX10_320 imX2_isSeat rfl slX2_isSeat rfl (Nat.le_of_ble_eq_true rfl) (Nat.le_of_ble_eq_true rfl) (kz9 Ln) h (fun z => rfl) (fun r1 φ1 α1 h => ?_)
  refine r_if_eq (t := 31) (pc' := 11) (kX10_change_0 4 rfl) rfl rfl (fun c2 => ?_) (fun c2 => ?_)
  · have h := h.1 c2
    refine r_iconst 0 (pc' := 32) (kX10_change_0 15 rfl) rfl (by unfold inR; omega) ?_
    refine r_istore_n (L' := [(2, 0), (0, x1), (0, x2), (0, 0)]) (pc' := 33) (kX10_change_0 16 rfl) rfl (Nat.le_of_ble_eq_true rfl) rfl ?_
    refine r_iload_n (pc' := 34) (kX10_change_0 17 rfl) rfl rfl ?_
    refine r_if_eq (t := 59) (pc' := 37) (kX10_change_0 18 rfl) rfl rfl (fun _ => ?_) (fun cz => absurd cz (by decide))
    refine r_aload_n (pc' := 60) (kX10_change_0 29 rfl) rfl rfl ?_
    refine r_iconst 2 (pc' := 61) (kX10_change_0 30 rfl) rfl (by unfold inR; omega) ?_
    refine s_callV (As := [(0, 2)]) (o := 0) (S := []) (S2 := fun z => [(0, z)]) (pc' := 64) (kX10_change_0 31 rfl) rfl rfl nkX10_deny mlX10_117 imX10_deny rfl slX10_deny rfl (Nat.le_of_ble_eq_true rfl) (Nat.le_of_ble_eq_true rfl) (kz0 Ln) h (fun z => rfl) (fun r3 φ3 α3 h => ?_)
    have g4 := h.1
    have h := h.2
    exact s_zret (kX10_change_0 32 rfl) rfl g4 h
  · have h := h.2 c2
    refine r_aload_n (pc' := 12) (kX10_change_0 5 rfl) rfl rfl ?_
    refine s_getr (v := 9) (pc' := 15) (kX10_change_0 6 rfl) rfl fkX10_30 rfl rfl (kz0 Ln) rfl (by decide) ?_
    refine r_iload_n (pc' := 16) (kX10_change_0 7 rfl) rfl rfl ?_
    refine s_callV (As := [(0, x2)]) (o := 9) (S := []) (S2 := fun z => [(0, z)]) (pc' := 19) (kX10_change_0 8 rfl) rfl rfl nkX2_isSeat mlX10_320 imX2_isSeat rfl slX2_isSeat rfl (Nat.le_of_ble_eq_true rfl) (Nat.le_of_ble_eq_true rfl) (kz9 Ln) h (fun z => rfl) (fun r5 φ5 α5 h => ?_)
    refine r_if_eq (t := 31) (pc' := 22) (kX10_change_0 9 rfl) rfl rfl (fun c6 => ?_) (fun c6 => ?_)
    · have h := h.1 c6
      refine r_iconst 0 (pc' := 32) (kX10_change_0 15 rfl) rfl (by unfold inR; omega) ?_
      refine r_istore_n (L' := [(2, 0), (0, x1), (0, x2), (0, 0)]) (pc' := 33) (kX10_change_0 16 rfl) rfl (Nat.le_of_ble_eq_true rfl) rfl ?_
      refine r_iload_n (pc' := 34) (kX10_change_0 17 rfl) rfl rfl ?_
      refine r_if_eq (t := 59) (pc' := 37) (kX10_change_0 18 rfl) rfl rfl (fun _ => ?_) (fun cz => absurd cz (by decide))
      refine r_aload_n (pc' := 60) (kX10_change_0 29 rfl) rfl rfl ?_
      refine r_iconst 2 (pc' := 61) (kX10_change_0 30 rfl) rfl (by unfold inR; omega) ?_
      refine s_callV (As := [(0, 2)]) (o := 0) (S := []) (S2 := fun z => [(0, z)]) (pc' := 64) (kX10_change_0 31 rfl) rfl rfl nkX10_deny mlX10_117 imX10_deny rfl slX10_deny rfl (Nat.le_of_ble_eq_true rfl) (Nat.le_of_ble_eq_true rfl) (kz0 Ln) h (fun z => rfl) (fun r7 φ7 α7 h => ?_)
      have g8 := h.1
      have h := h.2
      exact s_zret (kX10_change_0 32 rfl) rfl g8 h
    · have h := h.2 c6
      refine r_iload_n (pc' := 23) (kX10_change_0 10 rfl) rfl rfl ?_
      refine r_iload_n (pc' := 24) (kX10_change_0 11 rfl) rfl rfl ?_
      refine r_icmp_eq (t := 31) (pc' := 27) (kX10_change_0 12 rfl) rfl rfl (fun c9 => ?_) (fun c9 => ?_)
      · have h := h.1 c9
        refine r_iconst 0 (pc' := 32) (kX10_change_0 15 rfl) rfl (by unfold inR; omega) ?_
        refine r_istore_n (L' := [(2, 0), (0, x1), (0, x2), (0, 0)]) (pc' := 33) (kX10_change_0 16 rfl) rfl (Nat.le_of_ble_eq_true rfl) rfl ?_
        refine r_iload_n (pc' := 34) (kX10_change_0 17 rfl) rfl rfl ?_
        refine r_if_eq (t := 59) (pc' := 37) (kX10_change_0 18 rfl) rfl rfl (fun _ => ?_) (fun cz => absurd cz (by decide))
        refine r_aload_n (pc' := 60) (kX10_change_0 29 rfl) rfl rfl ?_
        refine r_iconst 2 (pc' := 61) (kX10_change_0 30 rfl) rfl (by unfold inR; omega) ?_
        refine s_callV (As := [(0, 2)]) (o := 0) (S := []) (S2 := fun z => [(0, z)]) (pc' := 64) (kX10_change_0 31 rfl) rfl rfl nkX10_deny mlX10_117 imX10_deny rfl slX10_deny rfl (Nat.le_of_ble_eq_true rfl) (Nat.le_of_ble_eq_true rfl) (kz0 Ln) h (fun z => rfl) (fun r10 φ10 α10 h => ?_)
        have g11 := h.1
        have h := h.2
        exact s_zret (kX10_change_0 32 rfl) rfl g11 h
      · have h := h.2 c9
        refine r_iconst 1 (pc' := 28) (kX10_change_0 13 rfl) rfl (by unfold inR; omega) ?_
        refine r_goto (pc' := 32) (kX10_change_0 14 rfl) rfl ?_
        refine r_istore_n (L' := [(2, 0), (0, x1), (0, x2), (0, 1)]) (pc' := 33) (kX10_change_0 16 rfl) rfl (Nat.le_of_ble_eq_true rfl) rfl ?_
        refine r_iload_n (pc' := 34) (kX10_change_0 17 rfl) rfl rfl ?_
        refine r_if_eq (t := 59) (pc' := 37) (kX10_change_0 18 rfl) rfl rfl (fun cz => absurd cz (by decide)) (fun _ => ?_)
        refine r_aload_n (pc' := 38) (kX10_change_0 19 rfl) rfl rfl ?_
        refine s_getr (v := 29) (pc' := 41) (kX10_change_0 20 rfl) rfl fkX10_40 rfl rfl (kz0 Ln) rfl (by decide) ?_
        refine r_iload_n (pc' := 42) (kX10_change_0 21 rfl) rfl rfl ?_
        refine s_callV (As := [(0, x1)]) (o := 29) (S := []) (S2 := fun z => [(0, z)]) (pc' := 45) (kX10_change_0 22 rfl) rfl rfl nkX7_sitterAt mlX10_197 imX7_sitterAt rfl slX7_sitterAt rfl (Nat.le_of_ble_eq_true rfl) (Nat.le_of_ble_eq_true rfl) (kz29 Ln) h (fun z => rfl) (fun r12 φ12 α12 h => ?_)
        refine r_if_ge (t := 65) (pc' := 48) (kX10_change_0 23 rfl) rfl rfl (fun c13 => ?_) (fun c13 => ?_)
        · have h := h.1 c13
          refine r_aload_n (pc' := 66) (kX10_change_0 33 rfl) rfl rfl ?_
          refine s_getr (v := 43) (pc' := 69) (kX10_change_0 34 rfl) rfl fkX10_50 rfl rfl (kz0 Ln) rfl (by decide) ?_
          refine r_aload_n (pc' := 70) (kX10_change_0 35 rfl) rfl rfl ?_
          refine s_getr (v := 29) (pc' := 73) (kX10_change_0 36 rfl) rfl fkX10_40 rfl rfl (kz0 Ln) rfl (by decide) ?_
          refine s_callV (As := [(2, 29)]) (o := 43) (S := []) (S2 := fun z => []) (pc' := 76) (kX10_change_0 37 rfl) rfl rfl nkX3_keep mlX10_304 imX3_keep rfl slX3_keep rfl (Nat.le_of_ble_eq_true rfl) (Nat.le_of_ble_eq_true rfl) (kz43 Ln) h (fun z => rfl) (fun r14 φ14 α14 h => ?_)
          refine r_aload_n (pc' := 77) (kX10_change_0 38 rfl) rfl rfl ?_
          refine s_getr (v := 29) (pc' := 80) (kX10_change_0 39 rfl) rfl fkX10_40 rfl rfl (kz0 Ln) rfl (by decide) ?_
          refine r_iload_n (pc' := 81) (kX10_change_0 40 rfl) rfl rfl ?_
          refine r_iload_n (pc' := 82) (kX10_change_0 41 rfl) rfl rfl ?_
          refine s_callV (As := [(0, x1), (0, x2)]) (o := 29) (S := []) (S2 := fun z => []) (pc' := 85) (kX10_change_0 42 rfl) rfl rfl nkX7_swap mlX10_323 imX7_swap rfl slX7_swap rfl (Nat.le_of_ble_eq_true rfl) (Nat.le_of_ble_eq_true rfl) (kz29 Ln) h (fun z => rfl) (fun r15 φ15 α15 h => ?_)
          refine r_iconst 1 (pc' := 86) (kX10_change_0 43 rfl) rfl (by unfold inR; omega) ?_
          exact s_zret (kX10_change_0 44 rfl) rfl (Or.inr rfl) h
        · have h := h.2 c13
          refine r_aload_n (pc' := 49) (kX10_change_0 24 rfl) rfl rfl ?_
          refine s_getr (v := 29) (pc' := 52) (kX10_change_0 25 rfl) rfl fkX10_40 rfl rfl (kz0 Ln) rfl (by decide) ?_
          refine r_iload_n (pc' := 53) (kX10_change_0 26 rfl) rfl rfl ?_
          refine s_callV (As := [(0, x2)]) (o := 29) (S := []) (S2 := fun z => [(0, z)]) (pc' := 56) (kX10_change_0 27 rfl) rfl rfl nkX7_sitterAt mlX10_197 imX7_sitterAt rfl slX7_sitterAt rfl (Nat.le_of_ble_eq_true rfl) (Nat.le_of_ble_eq_true rfl) (kz29 Ln) h (fun z => rfl) (fun r16 φ16 α16 h => ?_)
          refine r_if_ge (t := 65) (pc' := 59) (kX10_change_0 28 rfl) rfl rfl (fun c17 => ?_) (fun c17 => ?_)
          · have h := h.1 c17
            refine r_aload_n (pc' := 66) (kX10_change_0 33 rfl) rfl rfl ?_
            refine s_getr (v := 43) (pc' := 69) (kX10_change_0 34 rfl) rfl fkX10_50 rfl rfl (kz0 Ln) rfl (by decide) ?_
            refine r_aload_n (pc' := 70) (kX10_change_0 35 rfl) rfl rfl ?_
            refine s_getr (v := 29) (pc' := 73) (kX10_change_0 36 rfl) rfl fkX10_40 rfl rfl (kz0 Ln) rfl (by decide) ?_
            refine s_callV (As := [(2, 29)]) (o := 43) (S := []) (S2 := fun z => []) (pc' := 76) (kX10_change_0 37 rfl) rfl rfl nkX3_keep mlX10_304 imX3_keep rfl slX3_keep rfl (Nat.le_of_ble_eq_true rfl) (Nat.le_of_ble_eq_true rfl) (kz43 Ln) h (fun z => rfl) (fun r18 φ18 α18 h => ?_)
            refine r_aload_n (pc' := 77) (kX10_change_0 38 rfl) rfl rfl ?_
            refine s_getr (v := 29) (pc' := 80) (kX10_change_0 39 rfl) rfl fkX10_40 rfl rfl (kz0 Ln) rfl (by decide) ?_
            refine r_iload_n (pc' := 81) (kX10_change_0 40 rfl) rfl rfl ?_
            refine r_iload_n (pc' := 82) (kX10_change_0 41 rfl) rfl rfl ?_
            refine s_callV (As := [(0, x1), (0, x2)]) (o := 29) (S := []) (S2 := fun z => []) (pc' := 85) (kX10_change_0 42 rfl) rfl rfl nkX7_swap mlX10_323 imX7_swap rfl slX7_swap rfl (Nat.le_of_ble_eq_true rfl) (Nat.le_of_ble_eq_true rfl) (kz29 Ln) h (fun z => rfl) (fun r19 φ19 α19 h => ?_)
            refine r_iconst 1 (pc' := 86) (kX10_change_0 43 rfl) rfl (by unfold inR; omega) ?_
            exact s_zret (kX10_change_0 44 rfl) rfl (Or.inr rfl) h
          · have h := h.2 c17
            refine r_aload_n (pc' := 60) (kX10_change_0 29 rfl) rfl rfl ?_
            refine r_iconst 2 (pc' := 61) (kX10_change_0 30 rfl) rfl (by unfold inR; omega) ?_
            refine s_callV (As := [(0, 2)]) (o := 0) (S := []) (S2 := fun z => [(0, z)]) (pc' := 64) (kX10_change_0 31 rfl) rfl rfl nkX10_deny mlX10_117 imX10_deny rfl slX10_deny rfl (Nat.le_of_ble_eq_true rfl) (Nat.le_of_ble_eq_true rfl) (kz0 Ln) h (fun z => rfl) (fun r20 φ20 α20 h => ?_)
            have g21 := h.1
            have h := h.2
            exact s_zret (kX10_change_0 32 rfl) rfl g21 h
abbrev jX10_days_32 (d : Nat) (x1 x2 x3 : Int) (φ : aF) (α : aA) (Q : Int → aF → aA → Prop) : Prop := R0 d mX10_days 32 [(2, 0), (0, x1), (0, x2), (0, x3)] [] φ α Q
theorem vX10_days_0 {d : Nat} {φ : aF} {α : aA} {Q : Int → aF → aA → Prop} {x1 : Int} (h : (eX10_canPass d x1 1 100 φ α (fun r1 φ1 α1 =>
   ((¬ r1 = 0 →
   (eX3_keep d 29 φ1 α1 (fun r3 φ3 α3 =>
     (jX10_days_32 (d + 1) x1 0 0 φ3 α3 Q)))) ∧
   (r1 = 0 →
   (eX10_refuse d 3 φ1 α1 (fun r4 φ4 α4 =>
     (Q r4 φ4 α4)))))))) : eX10_days (d + 1) x1 φ α Q := by
  intro Ln
  refine r_aload_n (pc' := 1) (kX10_days_0 0 rfl) rfl rfl ?_
  refine r_iload_n (pc' := 2) (kX10_days_0 1 rfl) rfl rfl ?_
  refine r_iconst 1 (pc' := 3) (kX10_days_0 2 rfl) rfl (by unfold inR; omega) ?_
  refine r_bipush 100 (pc' := 5) (kX10_days_0 3 rfl) rfl ⟨by unfold inR; omega, rfl⟩ ?_
  refine s_callV (As := [(0, x1), (0, 1), (0, 100)]) (o := 0) (S := []) (S2 := fun z => [(0, z)]) (pc' := 8) (kX10_days_0 4 rfl) rfl rfl nkX10_canPass mlX10_234 imX10_canPass rfl slX10_canPass rfl (Nat.le_of_ble_eq_true rfl) (Nat.le_of_ble_eq_true rfl) (kz0 Ln) h (fun z => rfl) (fun r1 φ1 α1 h => ?_)
  refine r_if_ne (t := 17) (pc' := 11) (kX10_days_0 5 rfl) rfl rfl (fun c2 => ?_) (fun c2 => ?_)
  · have h := h.1 c2
    refine r_aload_n (pc' := 18) (kX10_days_0 10 rfl) rfl rfl ?_
    refine s_getr (v := 43) (pc' := 21) (kX10_days_0 11 rfl) rfl fkX10_50 rfl rfl (kz0 Ln) rfl (by decide) ?_
    refine r_aload_n (pc' := 22) (kX10_days_0 12 rfl) rfl rfl ?_
    refine s_getr (v := 29) (pc' := 25) (kX10_days_0 13 rfl) rfl fkX10_40 rfl rfl (kz0 Ln) rfl (by decide) ?_
    refine s_callV (As := [(2, 29)]) (o := 43) (S := []) (S2 := fun z => []) (pc' := 28) (kX10_days_0 14 rfl) rfl rfl nkX3_keep mlX10_304 imX3_keep rfl slX3_keep rfl (Nat.le_of_ble_eq_true rfl) (Nat.le_of_ble_eq_true rfl) (kz43 Ln) h (fun z => rfl) (fun r3 φ3 α3 h => ?_)
    refine r_iconst 0 (pc' := 29) (kX10_days_0 15 rfl) rfl (by unfold inR; omega) ?_
    refine r_istore_n (L' := [(2, 0), (0, x1), (0, 0), (9, 0)]) (pc' := 30) (kX10_days_0 16 rfl) rfl (Nat.le_of_ble_eq_true rfl) rfl ?_
    refine r_iconst 0 (pc' := 31) (kX10_days_0 17 rfl) rfl (by unfold inR; omega) ?_
    refine r_istore_n (L' := [(2, 0), (0, x1), (0, 0), (0, 0)]) (pc' := 32) (kX10_days_0 18 rfl) rfl (Nat.le_of_ble_eq_true rfl) rfl ?_
    exact r_weak (L' := [(2, 0), (0, x1), (0, 0), (0, 0)]) ⟨Or.inl rfl, Or.inl rfl, Or.inl rfl, Or.inl rfl, trivial⟩ (h Ln)
  · have h := h.2 c2
    refine r_aload_n (pc' := 12) (kX10_days_0 6 rfl) rfl rfl ?_
    refine r_iconst 3 (pc' := 13) (kX10_days_0 7 rfl) rfl (by unfold inR; omega) ?_
    refine s_callV (As := [(0, 3)]) (o := 0) (S := []) (S2 := fun z => [(0, z)]) (pc' := 16) (kX10_days_0 8 rfl) rfl rfl nkX10_refuse mlX10_110 imX10_refuse rfl slX10_refuse rfl (Nat.le_of_ble_eq_true rfl) (Nat.le_of_ble_eq_true rfl) (kz0 Ln) h (fun z => rfl) (fun r4 φ4 α4 h => ?_)
    exact s_iret (kX10_days_0 9 rfl) rfl h
theorem vX10_days_32 {d : Nat} {φ : aF} {α : aA} {Q : Int → aF → aA → Prop} {x1 : Int} {x2 : Int} {x3 : Int} (h : ((x1 ≤ x3 →
   (Q x2 φ α)) ∧
   (¬ (x1 ≤ x3) →
   (eX10_liveDay d 0 φ α (fun r2 φ2 α2 =>
     inR (x2 + r2) ∧ inR (x3 + 1) ∧ (jX10_days_32 (d + 1) x1 (x2 + r2) (x3 + 1) φ2 α2 Q)))))) : jX10_days_32 (d + 1) x1 x2 x3 φ α Q := by
  intro Ln
  refine r_iload_n (pc' := 33) (kX10_days_0 19 rfl) rfl rfl ?_
  refine r_iload_n (pc' := 34) (kX10_days_0 20 rfl) rfl rfl ?_
  refine r_icmp_ge (t := 51) (pc' := 37) (kX10_days_0 21 rfl) rfl rfl (fun c1 => ?_) (fun c1 => ?_)
  · have h := h.1 c1
    refine r_iload_n (pc' := 52) (kX10_days_0 30 rfl) rfl rfl ?_
    exact s_iret (kX10_days_0 31 rfl) rfl h
  · have h := h.2 c1
    refine r_iload_n (pc' := 38) (kX10_days_0 22 rfl) rfl rfl ?_
    refine r_aload_n (pc' := 39) (kX10_days_0 23 rfl) rfl rfl ?_
    refine r_iconst 0 (pc' := 40) (kX10_days_0 24 rfl) rfl (by unfold inR; omega) ?_
    refine s_callV (As := [(0, 0)]) (o := 0) (S := [(0, x2)]) (S2 := fun z => [(0, z), (0, x2)]) (pc' := 43) (kX10_days_0 25 rfl) rfl rfl nkX10_liveDay mlX10_327 imX10_liveDay rfl slX10_liveDay rfl (Nat.le_of_ble_eq_true rfl) (Nat.le_of_ble_eq_true rfl) (kz0 Ln) h (fun z => rfl) (fun r2 φ2 α2 h => ?_)
    have g3 := h.1
    have h := h.2
    refine r_iadd (pc' := 44) (kX10_days_0 26 rfl) rfl g3 ?_
    refine r_istore_n (L' := [(2, 0), (0, x1), (0, (x2 + r2)), (0, x3)]) (pc' := 45) (kX10_days_0 27 rfl) rfl (Nat.le_of_ble_eq_true rfl) rfl ?_
    have g4 := h.1
    have h := h.2
    refine r_iinc (L' := [(2, 0), (0, x1), (0, (x2 + r2)), (0, (x3 + 1))]) (pc' := 48) (kX10_days_0 28 rfl) rfl (Nat.le_of_ble_eq_true rfl) rfl g4 rfl ?_
    refine r_goto (pc' := 32) (kX10_days_0 29 rfl) rfl ?_
    exact r_weak (L' := [(2, 0), (0, x1), (0, (x2 + r2)), (0, (x3 + 1))]) ⟨Or.inl rfl, Or.inl rfl, Or.inl rfl, Or.inl rfl, trivial⟩ (h Ln)
abbrev jX10_chance_32 (d : Nat) (x1 x2 x3 : Int) (φ : aF) (α : aA) (Q : Int → aF → aA → Prop) : Prop := R0 d mX10_chance 32 [(2, 0), (0, x1), (0, x2), (0, x3), (9, 0)] [] φ α Q
theorem vX10_chance_0 {d : Nat} {φ : aF} {α : aA} {Q : Int → aF → aA → Prop} {x1 : Int} (h : (eX10_canPass d x1 1 100 φ α (fun r1 φ1 α1 =>
   ((¬ r1 = 0 →
   (eX3_keep d 29 φ1 α1 (fun r3 φ3 α3 =>
     (jX10_chance_32 (d + 1) x1 0 0 φ3 α3 Q)))) ∧
   (r1 = 0 →
   (eX10_refuse d 3 φ1 α1 (fun r4 φ4 α4 =>
     (Q r4 φ4 α4)))))))) : eX10_chance (d + 1) x1 φ α Q := by
  intro Ln
  refine r_aload_n (pc' := 1) (kX10_chance_0 0 rfl) rfl rfl ?_
  refine r_iload_n (pc' := 2) (kX10_chance_0 1 rfl) rfl rfl ?_
  refine r_iconst 1 (pc' := 3) (kX10_chance_0 2 rfl) rfl (by unfold inR; omega) ?_
  refine r_bipush 100 (pc' := 5) (kX10_chance_0 3 rfl) rfl ⟨by unfold inR; omega, rfl⟩ ?_
  refine s_callV (As := [(0, x1), (0, 1), (0, 100)]) (o := 0) (S := []) (S2 := fun z => [(0, z)]) (pc' := 8) (kX10_chance_0 4 rfl) rfl rfl nkX10_canPass mlX10_234 imX10_canPass rfl slX10_canPass rfl (Nat.le_of_ble_eq_true rfl) (Nat.le_of_ble_eq_true rfl) (kz0 Ln) h (fun z => rfl) (fun r1 φ1 α1 h => ?_)
  refine r_if_ne (t := 17) (pc' := 11) (kX10_chance_0 5 rfl) rfl rfl (fun c2 => ?_) (fun c2 => ?_)
  · have h := h.1 c2
    refine r_aload_n (pc' := 18) (kX10_chance_0 10 rfl) rfl rfl ?_
    refine s_getr (v := 43) (pc' := 21) (kX10_chance_0 11 rfl) rfl fkX10_50 rfl rfl (kz0 Ln) rfl (by decide) ?_
    refine r_aload_n (pc' := 22) (kX10_chance_0 12 rfl) rfl rfl ?_
    refine s_getr (v := 29) (pc' := 25) (kX10_chance_0 13 rfl) rfl fkX10_40 rfl rfl (kz0 Ln) rfl (by decide) ?_
    refine s_callV (As := [(2, 29)]) (o := 43) (S := []) (S2 := fun z => []) (pc' := 28) (kX10_chance_0 14 rfl) rfl rfl nkX3_keep mlX10_304 imX3_keep rfl slX3_keep rfl (Nat.le_of_ble_eq_true rfl) (Nat.le_of_ble_eq_true rfl) (kz43 Ln) h (fun z => rfl) (fun r3 φ3 α3 h => ?_)
    refine r_iconst 0 (pc' := 29) (kX10_chance_0 15 rfl) rfl (by unfold inR; omega) ?_
    refine r_istore_n (L' := [(2, 0), (0, x1), (0, 0), (9, 0), (9, 0)]) (pc' := 30) (kX10_chance_0 16 rfl) rfl (Nat.le_of_ble_eq_true rfl) rfl ?_
    refine r_iconst 0 (pc' := 31) (kX10_chance_0 17 rfl) rfl (by unfold inR; omega) ?_
    refine r_istore_n (L' := [(2, 0), (0, x1), (0, 0), (0, 0), (9, 0)]) (pc' := 32) (kX10_chance_0 18 rfl) rfl (Nat.le_of_ble_eq_true rfl) rfl ?_
    exact r_weak (L' := [(2, 0), (0, x1), (0, 0), (0, 0), (9, 0)]) ⟨Or.inl rfl, Or.inl rfl, Or.inl rfl, Or.inl rfl, Or.inr (by decide), trivial⟩ (h Ln)
  · have h := h.2 c2
    refine r_aload_n (pc' := 12) (kX10_chance_0 6 rfl) rfl rfl ?_
    refine r_iconst 3 (pc' := 13) (kX10_chance_0 7 rfl) rfl (by unfold inR; omega) ?_
    refine s_callV (As := [(0, 3)]) (o := 0) (S := []) (S2 := fun z => [(0, z)]) (pc' := 16) (kX10_chance_0 8 rfl) rfl rfl nkX10_refuse mlX10_110 imX10_refuse rfl slX10_refuse rfl (Nat.le_of_ble_eq_true rfl) (Nat.le_of_ble_eq_true rfl) (kz0 Ln) h (fun z => rfl) (fun r4 φ4 α4 h => ?_)
    exact s_iret (kX10_chance_0 9 rfl) rfl h
theorem vX10_chance_32 {d : Nat} {φ : aF} {α : aA} {Q : Int → aF → aA → Prop} {x1 : Int} {x2 : Int} {x3 : Int} (h : ((x1 ≤ x3 →
   (Q x2 φ α)) ∧
   (¬ (x1 ≤ x3) →
   (eX10_tryHands d  φ α (fun r2 φ2 α2 =>
     ((r2 < 0 →
     (eJ9_max_7cf53 d 0 r2 φ2 α2 (fun r4 φ4 α4 =>
       (eX10_liveDay d r4 φ4 α4 (fun r5 φ5 α5 =>
       inR (x3 + 1) ∧ (jX10_chance_32 (d + 1) x1 x2 (x3 + 1) φ5 α5 Q)))))) ∧
     (¬ (r2 < 0) →
     inR (x2 + 1) ∧ (eJ9_max_7cf53 d 0 r2 φ2 α2 (fun r8 φ8 α8 =>
       (eX10_liveDay d r8 φ8 α8 (fun r9 φ9 α9 =>
       inR (x3 + 1) ∧ (jX10_chance_32 (d + 1) x1 (x2 + 1) (x3 + 1) φ9 α9 Q)))))))))))) : jX10_chance_32 (d + 1) x1 x2 x3 φ α Q := by
  intro Ln
  refine r_iload_n (pc' := 33) (kX10_chance_0 19 rfl) rfl rfl ?_
  refine r_iload_n (pc' := 34) (kX10_chance_0 20 rfl) rfl rfl ?_
  refine r_icmp_ge (t := 68) (pc' := 37) (kX10_chance_0 21 rfl) rfl rfl (fun c1 => ?_) (fun c1 => ?_)
  · have h := h.1 c1
    refine r_iload_n (pc' := 69) (kX10_chance_0 36 rfl) rfl rfl ?_
    exact s_iret (kX10_chance_0 37 rfl) rfl h
  · have h := h.2 c1
    refine r_aload_n (pc' := 38) (kX10_chance_0 22 rfl) rfl rfl ?_
    refine s_callV (As := []) (o := 0) (S := []) (S2 := fun z => [(0, z)]) (pc' := 41) (kX10_chance_0 23 rfl) rfl rfl nkX10_tryHands mlX10_330 imX10_tryHands rfl slX10_tryHands rfl (Nat.le_of_ble_eq_true rfl) (Nat.le_of_ble_eq_true rfl) (kz0 Ln) h (fun z => rfl) (fun r2 φ2 α2 h => ?_)
    refine r_istore (L' := [(2, 0), (0, x1), (0, x2), (0, x3), (0, r2)]) (pc' := 43) (kX10_chance_0 24 rfl) rfl (Nat.le_of_ble_eq_true rfl) rfl ?_
    refine r_iload (pc' := 45) (kX10_chance_0 25 rfl) rfl rfl ?_
    refine r_if_lt (t := 51) (pc' := 48) (kX10_chance_0 26 rfl) rfl rfl (fun c3 => ?_) (fun c3 => ?_)
    · have h := h.1 c3
      refine r_aload_n (pc' := 52) (kX10_chance_0 28 rfl) rfl rfl ?_
      refine r_iconst 0 (pc' := 53) (kX10_chance_0 29 rfl) rfl (by unfold inR; omega) ?_
      refine r_iload (pc' := 55) (kX10_chance_0 30 rfl) rfl rfl ?_
      refine s_callS (As := [(0, 0), (0, r2)]) (S := [(2, 0)]) (S2 := fun z => [(0, z), (2, 0)]) (pc' := 58) (kX10_chance_0 31 rfl) rfl rfl nkJ9_max_7cf53 mlX10_333 scJ9_max_7cf53 rfl (Nat.le_of_ble_eq_true rfl) (Nat.le_of_ble_eq_true rfl) h (fun z => rfl) (fun r4 φ4 α4 h => ?_)
      refine s_callV (As := [(0, r4)]) (o := 0) (S := []) (S2 := fun z => [(0, z)]) (pc' := 61) (kX10_chance_0 32 rfl) rfl rfl nkX10_liveDay mlX10_327 imX10_liveDay rfl slX10_liveDay rfl (Nat.le_of_ble_eq_true rfl) (Nat.le_of_ble_eq_true rfl) (kz0 Ln) h (fun z => rfl) (fun r5 φ5 α5 h => ?_)
      refine r_pop (pc' := 62) (kX10_chance_0 33 rfl) rfl rfl ?_
      have g6 := h.1
      have h := h.2
      refine r_iinc (L' := [(2, 0), (0, x1), (0, x2), (0, (x3 + 1)), (0, r2)]) (pc' := 65) (kX10_chance_0 34 rfl) rfl (Nat.le_of_ble_eq_true rfl) rfl g6 rfl ?_
      refine r_goto (pc' := 32) (kX10_chance_0 35 rfl) rfl ?_
      exact r_weak (L' := [(2, 0), (0, x1), (0, x2), (0, (x3 + 1)), (9, 0)]) ⟨Or.inl rfl, Or.inl rfl, Or.inl rfl, Or.inl rfl, Or.inr (by decide), trivial⟩ (h Ln)
    · have h := h.2 c3
      have g7 := h.1
      have h := h.2
      refine r_iinc (L' := [(2, 0), (0, x1), (0, (x2 + 1)), (0, x3), (0, r2)]) (pc' := 51) (kX10_chance_0 27 rfl) rfl (Nat.le_of_ble_eq_true rfl) rfl g7 rfl ?_
      refine r_aload_n (pc' := 52) (kX10_chance_0 28 rfl) rfl rfl ?_
      refine r_iconst 0 (pc' := 53) (kX10_chance_0 29 rfl) rfl (by unfold inR; omega) ?_
      refine r_iload (pc' := 55) (kX10_chance_0 30 rfl) rfl rfl ?_
      refine s_callS (As := [(0, 0), (0, r2)]) (S := [(2, 0)]) (S2 := fun z => [(0, z), (2, 0)]) (pc' := 58) (kX10_chance_0 31 rfl) rfl rfl nkJ9_max_7cf53 mlX10_333 scJ9_max_7cf53 rfl (Nat.le_of_ble_eq_true rfl) (Nat.le_of_ble_eq_true rfl) h (fun z => rfl) (fun r8 φ8 α8 h => ?_)
      refine s_callV (As := [(0, r8)]) (o := 0) (S := []) (S2 := fun z => [(0, z)]) (pc' := 61) (kX10_chance_0 32 rfl) rfl rfl nkX10_liveDay mlX10_327 imX10_liveDay rfl slX10_liveDay rfl (Nat.le_of_ble_eq_true rfl) (Nat.le_of_ble_eq_true rfl) (kz0 Ln) h (fun z => rfl) (fun r9 φ9 α9 h => ?_)
      refine r_pop (pc' := 62) (kX10_chance_0 33 rfl) rfl rfl ?_
      have g10 := h.1
      have h := h.2
      refine r_iinc (L' := [(2, 0), (0, x1), (0, (x2 + 1)), (0, (x3 + 1)), (0, r2)]) (pc' := 65) (kX10_chance_0 34 rfl) rfl (Nat.le_of_ble_eq_true rfl) rfl g10 rfl ?_
      refine r_goto (pc' := 32) (kX10_chance_0 35 rfl) rfl ?_
      exact r_weak (L' := [(2, 0), (0, x1), (0, (x2 + 1)), (0, (x3 + 1)), (9, 0)]) ⟨Or.inl rfl, Or.inl rfl, Or.inl rfl, Or.inl rfl, Or.inr (by decide), trivial⟩ (h Ln)
theorem vX10_undo_0 {d : Nat} {φ : aF} {α : aA} {Q : Int → aF → aA → Prop} (h : (eX3_goBack d 29 φ α (fun r1 φ1 α1 =>
   ((¬ r1 = 0 →
   (Q 1 φ1 α1)) ∧
   (r1 = 0 →
   (eX10_deny d 4 φ1 α1 (fun r3 φ3 α3 =>
     ((r3 = 0 →
     (Q 0 φ3 α3)) ∧
     (¬ (r3 = 0) →
     (Q 1 φ3 α3)))))))))) : eX10_undo (d + 1)  φ α Q := by
  intro Ln
  refine r_aload_n (pc' := 1) (kX10_undo_0 0 rfl) rfl rfl ?_
  refine s_getr (v := 43) (pc' := 4) (kX10_undo_0 1 rfl) rfl fkX10_50 rfl rfl (kz0 Ln) rfl (by decide) ?_
  refine r_aload_n (pc' := 5) (kX10_undo_0 2 rfl) rfl rfl ?_
  refine s_getr (v := 29) (pc' := 8) (kX10_undo_0 3 rfl) rfl fkX10_40 rfl rfl (kz0 Ln) rfl (by decide) ?_
  refine s_callV (As := [(2, 29)]) (o := 43) (S := []) (S2 := fun z => [(0, z)]) (pc' := 11) (kX10_undo_0 4 rfl) rfl rfl nkX3_goBack mlX10_336 imX3_goBack rfl slX3_goBack rfl (Nat.le_of_ble_eq_true rfl) (Nat.le_of_ble_eq_true rfl) (kz43 Ln) h (fun z => rfl) (fun r1 φ1 α1 h => ?_)
  refine r_if_ne (t := 22) (pc' := 14) (kX10_undo_0 5 rfl) rfl rfl (fun c2 => ?_) (fun c2 => ?_)
  · have h := h.1 c2
    refine r_iconst 1 (pc' := 23) (kX10_undo_0 10 rfl) rfl (by unfold inR; omega) ?_
    refine r_goto (pc' := 27) (kX10_undo_0 11 rfl) rfl ?_
    exact s_zret (kX10_undo_0 13 rfl) rfl (Or.inr rfl) h
  · have h := h.2 c2
    refine r_aload_n (pc' := 15) (kX10_undo_0 6 rfl) rfl rfl ?_
    refine r_iconst 4 (pc' := 16) (kX10_undo_0 7 rfl) rfl (by unfold inR; omega) ?_
    refine s_callV (As := [(0, 4)]) (o := 0) (S := []) (S2 := fun z => [(0, z)]) (pc' := 19) (kX10_undo_0 8 rfl) rfl rfl nkX10_deny mlX10_117 imX10_deny rfl slX10_deny rfl (Nat.le_of_ble_eq_true rfl) (Nat.le_of_ble_eq_true rfl) (kz0 Ln) h (fun z => rfl) (fun r3 φ3 α3 h => ?_)
    refine r_if_eq (t := 26) (pc' := 22) (kX10_undo_0 9 rfl) rfl rfl (fun c4 => ?_) (fun c4 => ?_)
    · have h := h.1 c4
      refine r_iconst 0 (pc' := 27) (kX10_undo_0 12 rfl) rfl (by unfold inR; omega) ?_
      exact s_zret (kX10_undo_0 13 rfl) rfl (Or.inl rfl) h
    · have h := h.2 c4
      refine r_iconst 1 (pc' := 23) (kX10_undo_0 10 rfl) rfl (by unfold inR; omega) ?_
      refine r_goto (pc' := 27) (kX10_undo_0 11 rfl) rfl ?_
      exact s_zret (kX10_undo_0 13 rfl) rfl (Or.inr rfl) h
theorem vX10_seed_0 {d : Nat} {φ : aF} {α : aA} {Q : Int → aF → aA → Prop} {x1 : Int} (h : ((0 ≤ x1 →
   (Q 1 (upf φ 10 15 0 x1) α)) ∧
   (¬ (0 ≤ x1) →
   (eX10_deny d 5 φ α (fun r2 φ2 α2 =>
     (r2 = 0 ∨ r2 = 1) ∧ (Q r2 φ2 α2)))))) : eX10_seed (d + 1) x1 φ α Q := by
  intro Ln
  refine r_iload_n (pc' := 1) (kX10_seed_0 0 rfl) rfl rfl ?_
  refine r_if_ge (t := 10) (pc' := 4) (kX10_seed_0 1 rfl) rfl rfl (fun c1 => ?_) (fun c1 => ?_)
  · have h := h.1 c1
    refine r_aload_n (pc' := 11) (kX10_seed_0 6 rfl) rfl rfl ?_
    refine r_iload_n (pc' := 12) (kX10_seed_0 7 rfl) rfl rfl ?_
    refine s_put (pc' := 15) (kX10_seed_0 8 rfl) rfl fkX10_103 fnX10_15 rfl pk_int (kz0 Ln) ?_
    refine r_iconst 1 (pc' := 16) (kX10_seed_0 9 rfl) rfl (by unfold inR; omega) ?_
    exact s_zret (kX10_seed_0 10 rfl) rfl (Or.inr rfl) h
  · have h := h.2 c1
    refine r_aload_n (pc' := 5) (kX10_seed_0 2 rfl) rfl rfl ?_
    refine r_iconst 5 (pc' := 6) (kX10_seed_0 3 rfl) rfl (by unfold inR; omega) ?_
    refine s_callV (As := [(0, 5)]) (o := 0) (S := []) (S2 := fun z => [(0, z)]) (pc' := 9) (kX10_seed_0 4 rfl) rfl rfl nkX10_deny mlX10_117 imX10_deny rfl slX10_deny rfl (Nat.le_of_ble_eq_true rfl) (Nat.le_of_ble_eq_true rfl) (kz0 Ln) h (fun z => rfl) (fun r2 φ2 α2 h => ?_)
    have g3 := h.1
    have h := h.2
    exact s_zret (kX10_seed_0 5 rfl) rfl g3 h
theorem vX10_ask_0 {d : Nat} {φ : aF} {α : aA} {Q : Int → aF → aA → Prop} (h : ((¬ (φ 2 0 9) = 0 →
   (eX5_readQuestion d  φ α (fun r2 φ2 α2 =>
     (eX6_clear d 1 φ2 α2 (fun r3 φ3 α3 =>
     ((0 ≤ r2 →
     ((r2 = 24 →
       (eX10_countHolding d r2 φ3 α3 (fun r6 φ6 α6 =>
         (Q r6 φ6 α6)))) ∧
       (¬ (r2 = 24) →
       ((r2 = 25 →
         (eX10_countHolding d r2 φ3 α3 (fun r8 φ8 α8 =>
           (Q r8 φ8 α8)))) ∧
         (¬ (r2 = 25) →
         ((¬ r2 = 26 →
           (eX10_gatherSums d r2 φ3 α3 (fun r10 φ10 α10 =>
             (Q r10 φ10 α10)))) ∧
           (r2 = 26 →
           (eX10_countHolding d r2 φ3 α3 (fun r11 φ11 α11 =>
             (Q r11 φ11 α11)))))))))) ∧
     (¬ (0 ≤ r2) →
     (Q (-1000000000000000) φ3 α3)))))))) ∧
   ((φ 2 0 9) = 0 →
   (eX6_clear d 1 φ α (fun r12 φ12 α12 =>
     (Q (-1000000000000000) φ12 α12)))))) : eX10_ask (d + 1)  φ α Q := by
  intro Ln
  refine r_aload_n (pc' := 1) (kX10_ask_0 0 rfl) rfl rfl ?_
  refine s_getr (v := 9) (pc' := 4) (kX10_ask_0 1 rfl) rfl fkX10_30 rfl rfl (kz0 Ln) rfl (by decide) ?_
  refine s_get (x := (φ 2 0 9)) (pc' := 7) (kX10_ask_0 2 rfl) rfl fkX10_268 rfl rfl rfl (kz9 Ln) rfl ?_
  refine r_if_ne (t := 21) (pc' := 10) (kX10_ask_0 3 rfl) rfl rfl (fun c1 => ?_) (fun c1 => ?_)
  · have h := h.1 c1
    refine r_aload_n (pc' := 22) (kX10_ask_0 9 rfl) rfl rfl ?_
    refine s_getr (v := 185) (pc' := 25) (kX10_ask_0 10 rfl) rfl fkX10_59 rfl rfl (kz0 Ln) rfl (by decide) ?_
    refine s_callV (As := []) (o := 185) (S := []) (S2 := fun z => [(0, z)]) (pc' := 28) (kX10_ask_0 11 rfl) rfl rfl nkX5_readQuestion mlX10_342 imX5_readQuestion rfl slX5_readQuestion rfl (Nat.le_of_ble_eq_true rfl) (Nat.le_of_ble_eq_true rfl) (kz185 Ln) h (fun z => rfl) (fun r2 φ2 α2 h => ?_)
    refine r_istore_n (L' := [(2, 0), (0, r2)]) (pc' := 29) (kX10_ask_0 12 rfl) rfl (Nat.le_of_ble_eq_true rfl) rfl ?_
    refine r_aload_n (pc' := 30) (kX10_ask_0 13 rfl) rfl rfl ?_
    refine s_getr (v := 1) (pc' := 33) (kX10_ask_0 14 rfl) rfl fkX10_14 rfl rfl (kz0 Ln) rfl (by decide) ?_
    refine s_callV (As := []) (o := 1) (S := []) (S2 := fun z => []) (pc' := 36) (kX10_ask_0 15 rfl) rfl rfl nkX6_clear mlX10_125 imX6_clear rfl slX6_clear rfl (Nat.le_of_ble_eq_true rfl) (Nat.le_of_ble_eq_true rfl) (kz1 Ln) h (fun z => rfl) (fun r3 φ3 α3 h => ?_)
    refine r_iload_n (pc' := 37) (kX10_ask_0 16 rfl) rfl rfl ?_
    refine r_if_ge (t := 44) (pc' := 40) (kX10_ask_0 17 rfl) rfl rfl (fun c4 => ?_) (fun c4 => ?_)
    · have h := h.1 c4
      refine r_iload_n (pc' := 45) (kX10_ask_0 20 rfl) rfl rfl ?_
      refine r_bipush 24 (pc' := 47) (kX10_ask_0 21 rfl) rfl ⟨by unfold inR; omega, rfl⟩ ?_
      refine r_icmp_eq (t := 62) (pc' := 50) (kX10_ask_0 22 rfl) rfl rfl (fun c5 => ?_) (fun c5 => ?_)
      · have h := h.1 c5
        refine r_aload_n (pc' := 63) (kX10_ask_0 29 rfl) rfl rfl ?_
        refine r_iload_n (pc' := 64) (kX10_ask_0 30 rfl) rfl rfl ?_
        refine s_callV (As := [(0, r2)]) (o := 0) (S := []) (S2 := fun z => [(1, z)]) (pc' := 67) (kX10_ask_0 31 rfl) rfl rfl nkX10_countHolding mlX10_345 imX10_countHolding rfl slX10_countHolding rfl (Nat.le_of_ble_eq_true rfl) (Nat.le_of_ble_eq_true rfl) (kz0 Ln) h (fun z => rfl) (fun r6 φ6 α6 h => ?_)
        refine r_goto (pc' := 75) (kX10_ask_0 32 rfl) rfl ?_
        exact s_lret (kX10_ask_0 36 rfl) rfl h
      · have h := h.2 c5
        refine r_iload_n (pc' := 51) (kX10_ask_0 23 rfl) rfl rfl ?_
        refine r_bipush 25 (pc' := 53) (kX10_ask_0 24 rfl) rfl ⟨by unfold inR; omega, rfl⟩ ?_
        refine r_icmp_eq (t := 62) (pc' := 56) (kX10_ask_0 25 rfl) rfl rfl (fun c7 => ?_) (fun c7 => ?_)
        · have h := h.1 c7
          refine r_aload_n (pc' := 63) (kX10_ask_0 29 rfl) rfl rfl ?_
          refine r_iload_n (pc' := 64) (kX10_ask_0 30 rfl) rfl rfl ?_
          refine s_callV (As := [(0, r2)]) (o := 0) (S := []) (S2 := fun z => [(1, z)]) (pc' := 67) (kX10_ask_0 31 rfl) rfl rfl nkX10_countHolding mlX10_345 imX10_countHolding rfl slX10_countHolding rfl (Nat.le_of_ble_eq_true rfl) (Nat.le_of_ble_eq_true rfl) (kz0 Ln) h (fun z => rfl) (fun r8 φ8 α8 h => ?_)
          refine r_goto (pc' := 75) (kX10_ask_0 32 rfl) rfl ?_
          exact s_lret (kX10_ask_0 36 rfl) rfl h
        · have h := h.2 c7
          refine r_iload_n (pc' := 57) (kX10_ask_0 26 rfl) rfl rfl ?_
          refine r_bipush 26 (pc' := 59) (kX10_ask_0 27 rfl) rfl ⟨by unfold inR; omega, rfl⟩ ?_
          refine r_icmp_ne (t := 70) (pc' := 62) (kX10_ask_0 28 rfl) rfl rfl (fun c9 => ?_) (fun c9 => ?_)
          · have h := h.1 c9
            refine r_aload_n (pc' := 71) (kX10_ask_0 33 rfl) rfl rfl ?_
            refine r_iload_n (pc' := 72) (kX10_ask_0 34 rfl) rfl rfl ?_
            refine s_callV (As := [(0, r2)]) (o := 0) (S := []) (S2 := fun z => [(1, z)]) (pc' := 75) (kX10_ask_0 35 rfl) rfl rfl nkX10_gatherSums mlX10_349 imX10_gatherSums rfl slX10_gatherSums rfl (Nat.le_of_ble_eq_true rfl) (Nat.le_of_ble_eq_true rfl) (kz0 Ln) h (fun z => rfl) (fun r10 φ10 α10 h => ?_)
            exact s_lret (kX10_ask_0 36 rfl) rfl h
          · have h := h.2 c9
            refine r_aload_n (pc' := 63) (kX10_ask_0 29 rfl) rfl rfl ?_
            refine r_iload_n (pc' := 64) (kX10_ask_0 30 rfl) rfl rfl ?_
            refine s_callV (As := [(0, r2)]) (o := 0) (S := []) (S2 := fun z => [(1, z)]) (pc' := 67) (kX10_ask_0 31 rfl) rfl rfl nkX10_countHolding mlX10_345 imX10_countHolding rfl slX10_countHolding rfl (Nat.le_of_ble_eq_true rfl) (Nat.le_of_ble_eq_true rfl) (kz0 Ln) h (fun z => rfl) (fun r11 φ11 α11 h => ?_)
            refine r_goto (pc' := 75) (kX10_ask_0 32 rfl) rfl ?_
            exact s_lret (kX10_ask_0 36 rfl) rfl h
    · have h := h.2 c4
      refine r_ldc2 (-1000000000000000) (pc' := 43) (kX10_ask_0 18 rfl) rfl kcX10_340 (by unfold inJ; omega) ?_
      exact s_lret (kX10_ask_0 19 rfl) rfl h
  · have h := h.2 c1
    refine r_aload_n (pc' := 11) (kX10_ask_0 4 rfl) rfl rfl ?_
    refine s_getr (v := 1) (pc' := 14) (kX10_ask_0 5 rfl) rfl fkX10_14 rfl rfl (kz0 Ln) rfl (by decide) ?_
    refine s_callV (As := []) (o := 1) (S := []) (S2 := fun z => []) (pc' := 17) (kX10_ask_0 6 rfl) rfl rfl nkX6_clear mlX10_125 imX6_clear rfl slX6_clear rfl (Nat.le_of_ble_eq_true rfl) (Nat.le_of_ble_eq_true rfl) (kz1 Ln) h (fun z => rfl) (fun r12 φ12 α12 h => ?_)
    refine r_ldc2 (-1000000000000000) (pc' := 20) (kX10_ask_0 7 rfl) rfl kcX10_340 (by unfold inJ; omega) ?_
    exact s_lret (kX10_ask_0 8 rfl) rfl h
abbrev jX10_image_20 (d : Nat) (x1 : Int) (φ : aF) (α : aA) (Q : Int → aF → aA → Prop) : Prop := R0 d mX10_image 20 [(2, 0), (0, x1), (9, 0)] [] φ α Q
theorem vX10_image_0 {d : Nat} {φ : aF} {α : aA} {Q : Int → aF → aA → Prop} (h : (eX6_clear d 3 φ α (fun r1 φ1 α1 =>
   (eX10_putPair d (φ1 7 0 29) φ1 α1 (fun r2 φ2 α2 =>
   (jX10_image_20 (d + 1) 0 φ2 α2 Q)))))) : eX10_image (d + 1)  φ α Q := by
  intro Ln
  refine r_aload_n (pc' := 1) (kX10_image_0 0 rfl) rfl rfl ?_
  refine s_getr (v := 3) (pc' := 4) (kX10_image_0 1 rfl) rfl fkX10_18 rfl rfl (kz0 Ln) rfl (by decide) ?_
  refine s_callV (As := []) (o := 3) (S := []) (S2 := fun z => []) (pc' := 7) (kX10_image_0 2 rfl) rfl rfl nkX6_clear mlX10_125 imX6_clear rfl slX6_clear rfl (Nat.le_of_ble_eq_true rfl) (Nat.le_of_ble_eq_true rfl) (kz3 Ln) h (fun z => rfl) (fun r1 φ1 α1 h => ?_)
  refine r_aload_n (pc' := 8) (kX10_image_0 3 rfl) rfl rfl ?_
  refine r_aload_n (pc' := 9) (kX10_image_0 4 rfl) rfl rfl ?_
  refine s_getr (v := 29) (pc' := 12) (kX10_image_0 5 rfl) rfl fkX10_40 rfl rfl (kz0 Ln) rfl (by decide) ?_
  refine s_get (x := (φ1 7 0 29)) (pc' := 15) (kX10_image_0 6 rfl) rfl fkX10_153 rfl rfl rfl (kz29 Ln) rfl ?_
  refine s_callV (As := [(0, (φ1 7 0 29))]) (o := 0) (S := []) (S2 := fun z => []) (pc' := 18) (kX10_image_0 7 rfl) rfl rfl nkX10_putPair mlX10_352 imX10_putPair rfl slX10_putPair rfl (Nat.le_of_ble_eq_true rfl) (Nat.le_of_ble_eq_true rfl) (kz0 Ln) h (fun z => rfl) (fun r2 φ2 α2 h => ?_)
  refine r_iconst 0 (pc' := 19) (kX10_image_0 8 rfl) rfl (by unfold inR; omega) ?_
  refine r_istore_n (L' := [(2, 0), (0, 0), (9, 0)]) (pc' := 20) (kX10_image_0 9 rfl) rfl (Nat.le_of_ble_eq_true rfl) rfl ?_
  exact r_weak (L' := [(2, 0), (0, 0), (9, 0)]) ⟨Or.inl rfl, Or.inl rfl, Or.inr (by decide), trivial⟩ (h Ln)
abbrev jX10_image_92 (d : Nat) (x1 : Int) (φ : aF) (α : aA) (Q : Int → aF → aA → Prop) : Prop := R0 d mX10_image 92 [(2, 0), (0, x1), (9, 0)] [] φ α Q
abbrev jX10_image_51 (d : Nat) (x1 x2 : Int) (φ : aF) (α : aA) (Q : Int → aF → aA → Prop) : Prop := R0 d mX10_image 51 [(2, 0), (0, x1), (0, x2)] [] φ α Q
theorem vX10_image_20 {d : Nat} {φ : aF} {α : aA} {Q : Int → aF → aA → Prop} {x1 : Int} (h : (((φ 2 4 9) ≤ x1 →
   (jX10_image_92 (d + 1) 0 φ α Q)) ∧
   (¬ ((φ 2 4 9) ≤ x1) →
   (eX10_pick d 30 x1 φ α (fun r2 φ2 α2 =>
     (eX6_put d 3 r2 φ2 α2 (fun r3 φ3 α3 =>
     (jX10_image_51 (d + 1) x1 0 φ3 α3 Q)))))))) : jX10_image_20 (d + 1) x1 φ α Q := by
  intro Ln
  refine r_iload_n (pc' := 21) (kX10_image_0 10 rfl) rfl rfl ?_
  refine r_aload_n (pc' := 22) (kX10_image_0 11 rfl) rfl rfl ?_
  refine s_getr (v := 9) (pc' := 25) (kX10_image_0 12 rfl) rfl fkX10_30 rfl rfl (kz0 Ln) rfl (by decide) ?_
  refine s_get (x := (φ 2 4 9)) (pc' := 28) (kX10_image_0 13 rfl) rfl fkX10_150 rfl rfl rfl (kz9 Ln) rfl ?_
  refine r_icmp_ge (t := 90) (pc' := 31) (kX10_image_0 14 rfl) rfl rfl (fun c1 => ?_) (fun c1 => ?_)
  · have h := h.1 c1
    refine r_iconst 0 (pc' := 91) (kX10_image_0 42 rfl) rfl (by unfold inR; omega) ?_
    refine r_istore_n (L' := [(2, 0), (0, 0), (9, 0)]) (pc' := 92) (kX10_image_0 43 rfl) rfl (Nat.le_of_ble_eq_true rfl) rfl ?_
    exact r_weak (L' := [(2, 0), (0, 0), (9, 0)]) ⟨Or.inl rfl, Or.inl rfl, Or.inr (by decide), trivial⟩ (h Ln)
  · have h := h.2 c1
    refine r_aload_n (pc' := 32) (kX10_image_0 15 rfl) rfl rfl ?_
    refine s_getr (v := 3) (pc' := 35) (kX10_image_0 16 rfl) rfl fkX10_18 rfl rfl (kz0 Ln) rfl (by decide) ?_
    refine r_aload_n (pc' := 36) (kX10_image_0 17 rfl) rfl rfl ?_
    refine s_getr (v := 29) (pc' := 39) (kX10_image_0 18 rfl) rfl fkX10_40 rfl rfl (kz0 Ln) rfl (by decide) ?_
    refine s_getr (v := 30) (pc' := 42) (kX10_image_0 19 rfl) rfl fkX10_200 rfl rfl (kz29 Ln) rfl (by decide) ?_
    refine r_iload_n (pc' := 43) (kX10_image_0 20 rfl) rfl rfl ?_
    refine s_callS (As := [(2, 30), (0, x1)]) (S := [(2, 3)]) (S2 := fun z => [(0, z), (2, 3)]) (pc' := 46) (kX10_image_0 21 rfl) rfl rfl nkX10_pick mlX10_189 scX10_pick rfl (Nat.le_of_ble_eq_true rfl) (Nat.le_of_ble_eq_true rfl) h (fun z => rfl) (fun r2 φ2 α2 h => ?_)
    refine s_callV (As := [(0, r2)]) (o := 3) (S := []) (S2 := fun z => []) (pc' := 49) (kX10_image_0 22 rfl) rfl rfl nkX6_put mlX10_355 imX6_put rfl slX6_put rfl (Nat.le_of_ble_eq_true rfl) (Nat.le_of_ble_eq_true rfl) (kz3 Ln) h (fun z => rfl) (fun r3 φ3 α3 h => ?_)
    refine r_iconst 0 (pc' := 50) (kX10_image_0 23 rfl) rfl (by unfold inR; omega) ?_
    refine r_istore_n (L' := [(2, 0), (0, x1), (0, 0)]) (pc' := 51) (kX10_image_0 24 rfl) rfl (Nat.le_of_ble_eq_true rfl) rfl ?_
    exact r_weak (L' := [(2, 0), (0, x1), (0, 0)]) ⟨Or.inl rfl, Or.inl rfl, Or.inl rfl, trivial⟩ (h Ln)
abbrev jX10_image_105 (d : Nat) (x1 x2 : Int) (φ : aF) (α : aA) (Q : Int → aF → aA → Prop) : Prop := R0 d mX10_image 105 [(2, 0), (0, x1), (0, x2)] [] φ α Q
theorem vX10_image_92 {d : Nat} {φ : aF} {α : aA} {Q : Int → aF → aA → Prop} {x1 : Int} (h : (((φ 2 3 9) ≤ x1 →
   (eX6_checkOf d 3 (φ 6 1 3) φ α (fun r2 φ2 α2 =>
     (eX6_put d 3 r2 φ2 α2 (fun r3 φ3 α3 =>
     (Q (φ3 6 1 3) φ3 α3)))))) ∧
   (¬ ((φ 2 3 9) ≤ x1) →
   (jX10_image_105 (d + 1) x1 0 φ α Q)))) : jX10_image_92 (d + 1) x1 φ α Q := by
  intro Ln
  refine r_iload_n (pc' := 93) (kX10_image_0 44 rfl) rfl rfl ?_
  refine r_aload_n (pc' := 94) (kX10_image_0 45 rfl) rfl rfl ?_
  refine s_getr (v := 9) (pc' := 97) (kX10_image_0 46 rfl) rfl fkX10_30 rfl rfl (kz0 Ln) rfl (by decide) ?_
  refine s_get (x := (φ 2 3 9)) (pc' := 100) (kX10_image_0 47 rfl) rfl fkX10_147 rfl rfl rfl (kz9 Ln) rfl ?_
  refine r_icmp_ge (t := 135) (pc' := 103) (kX10_image_0 48 rfl) rfl rfl (fun c1 => ?_) (fun c1 => ?_)
  · have h := h.1 c1
    refine r_aload_n (pc' := 136) (kX10_image_1 5 rfl) rfl rfl ?_
    refine s_getr (v := 3) (pc' := 139) (kX10_image_1 6 rfl) rfl fkX10_18 rfl rfl (kz0 Ln) rfl (by decide) ?_
    refine r_aload_n (pc' := 140) (kX10_image_1 7 rfl) rfl rfl ?_
    refine s_getr (v := 3) (pc' := 143) (kX10_image_1 8 rfl) rfl fkX10_18 rfl rfl (kz0 Ln) rfl (by decide) ?_
    refine r_aload_n (pc' := 144) (kX10_image_1 9 rfl) rfl rfl ?_
    refine s_getr (v := 3) (pc' := 147) (kX10_image_1 10 rfl) rfl fkX10_18 rfl rfl (kz0 Ln) rfl (by decide) ?_
    refine s_get (x := (φ 6 1 3)) (pc' := 150) (kX10_image_1 11 rfl) rfl fkX10_107 rfl rfl rfl (kz3 Ln) rfl ?_
    refine s_callV (As := [(0, (φ 6 1 3))]) (o := 3) (S := [(2, 3)]) (S2 := fun z => [(0, z), (2, 3)]) (pc' := 153) (kX10_image_1 12 rfl) rfl rfl nkX6_checkOf mlX10_358 imX6_checkOf rfl slX6_checkOf rfl (Nat.le_of_ble_eq_true rfl) (Nat.le_of_ble_eq_true rfl) (kz3 Ln) h (fun z => rfl) (fun r2 φ2 α2 h => ?_)
    refine s_callV (As := [(0, r2)]) (o := 3) (S := []) (S2 := fun z => []) (pc' := 156) (kX10_image_1 13 rfl) rfl rfl nkX6_put mlX10_355 imX6_put rfl slX6_put rfl (Nat.le_of_ble_eq_true rfl) (Nat.le_of_ble_eq_true rfl) (kz3 Ln) h (fun z => rfl) (fun r3 φ3 α3 h => ?_)
    refine r_aload_n (pc' := 157) (kX10_image_1 14 rfl) rfl rfl ?_
    refine s_getr (v := 3) (pc' := 160) (kX10_image_1 15 rfl) rfl fkX10_18 rfl rfl (kz0 Ln) rfl (by decide) ?_
    refine s_get (x := (φ3 6 1 3)) (pc' := 163) (kX10_image_1 16 rfl) rfl fkX10_107 rfl rfl rfl (kz3 Ln) rfl ?_
    exact s_iret (kX10_image_1 17 rfl) rfl h
  · have h := h.2 c1
    refine r_iconst 0 (pc' := 104) (kX10_image_0 49 rfl) rfl (by unfold inR; omega) ?_
    refine r_istore_n (L' := [(2, 0), (0, x1), (0, 0)]) (pc' := 105) (kX10_image_0 50 rfl) rfl (Nat.le_of_ble_eq_true rfl) rfl ?_
    exact r_weak (L' := [(2, 0), (0, x1), (0, 0)]) ⟨Or.inl rfl, Or.inl rfl, Or.inl rfl, trivial⟩ (h Ln)
theorem vX10_image_51 {d : Nat} {φ : aF} {α : aA} {Q : Int → aF → aA → Prop} {x1 : Int} {x2 : Int} (h : (((φ 2 3 9) ≤ x2 →
   inR (x1 + 1) ∧ (jX10_image_20 (d + 1) (x1 + 1) φ α Q)) ∧
   (¬ ((φ 2 3 9) ≤ x2) →
   (eX7_dropsOf d 29 x1 x2 φ α (fun r3 φ3 α3 =>
     (eX6_put d 3 r3 φ3 α3 (fun r4 φ4 α4 =>
     inR (x2 + 1) ∧ (jX10_image_51 (d + 1) x1 (x2 + 1) φ4 α4 Q)))))))) : jX10_image_51 (d + 1) x1 x2 φ α Q := by
  intro Ln
  refine r_iload_n (pc' := 52) (kX10_image_0 25 rfl) rfl rfl ?_
  refine r_aload_n (pc' := 53) (kX10_image_0 26 rfl) rfl rfl ?_
  refine s_getr (v := 9) (pc' := 56) (kX10_image_0 27 rfl) rfl fkX10_30 rfl rfl (kz0 Ln) rfl (by decide) ?_
  refine s_get (x := (φ 2 3 9)) (pc' := 59) (kX10_image_0 28 rfl) rfl fkX10_147 rfl rfl rfl (kz9 Ln) rfl ?_
  refine r_icmp_ge (t := 84) (pc' := 62) (kX10_image_0 29 rfl) rfl rfl (fun c1 => ?_) (fun c1 => ?_)
  · have h := h.1 c1
    have g2 := h.1
    have h := h.2
    refine r_iinc (L' := [(2, 0), (0, (x1 + 1)), (0, x2)]) (pc' := 87) (kX10_image_0 40 rfl) rfl (Nat.le_of_ble_eq_true rfl) rfl g2 rfl ?_
    refine r_goto (pc' := 20) (kX10_image_0 41 rfl) rfl ?_
    exact r_weak (L' := [(2, 0), (0, (x1 + 1)), (9, 0)]) ⟨Or.inl rfl, Or.inl rfl, Or.inr (by decide), trivial⟩ (h Ln)
  · have h := h.2 c1
    refine r_aload_n (pc' := 63) (kX10_image_0 30 rfl) rfl rfl ?_
    refine s_getr (v := 3) (pc' := 66) (kX10_image_0 31 rfl) rfl fkX10_18 rfl rfl (kz0 Ln) rfl (by decide) ?_
    refine r_aload_n (pc' := 67) (kX10_image_0 32 rfl) rfl rfl ?_
    refine s_getr (v := 29) (pc' := 70) (kX10_image_0 33 rfl) rfl fkX10_40 rfl rfl (kz0 Ln) rfl (by decide) ?_
    refine r_iload_n (pc' := 71) (kX10_image_0 34 rfl) rfl rfl ?_
    refine r_iload_n (pc' := 72) (kX10_image_0 35 rfl) rfl rfl ?_
    refine s_callV (As := [(0, x1), (0, x2)]) (o := 29) (S := [(2, 3)]) (S2 := fun z => [(0, z), (2, 3)]) (pc' := 75) (kX10_image_0 36 rfl) rfl rfl nkX7_dropsOf mlX10_215 imX7_dropsOf rfl slX7_dropsOf rfl (Nat.le_of_ble_eq_true rfl) (Nat.le_of_ble_eq_true rfl) (kz29 Ln) h (fun z => rfl) (fun r3 φ3 α3 h => ?_)
    refine s_callV (As := [(0, r3)]) (o := 3) (S := []) (S2 := fun z => []) (pc' := 78) (kX10_image_0 37 rfl) rfl rfl nkX6_put mlX10_355 imX6_put rfl slX6_put rfl (Nat.le_of_ble_eq_true rfl) (Nat.le_of_ble_eq_true rfl) (kz3 Ln) h (fun z => rfl) (fun r4 φ4 α4 h => ?_)
    have g5 := h.1
    have h := h.2
    refine r_iinc (L' := [(2, 0), (0, x1), (0, (x2 + 1))]) (pc' := 81) (kX10_image_0 38 rfl) rfl (Nat.le_of_ble_eq_true rfl) rfl g5 rfl ?_
    refine r_goto (pc' := 51) (kX10_image_0 39 rfl) rfl ?_
    exact r_weak (L' := [(2, 0), (0, x1), (0, (x2 + 1))]) ⟨Or.inl rfl, Or.inl rfl, Or.inl rfl, trivial⟩ (h Ln)
theorem vX10_image_105 {d : Nat} {φ : aF} {α : aA} {Q : Int → aF → aA → Prop} {x1 : Int} {x2 : Int} (h : ((2 < x2 →
   inR (x1 + 1) ∧ (jX10_image_92 (d + 1) (x1 + 1) φ α Q)) ∧
   (¬ (2 < x2) →
   (eX7_poolOf d 29 x2 x1 φ α (fun r3 φ3 α3 =>
     (eX10_putPair d r3 φ3 α3 (fun r4 φ4 α4 =>
     inR (x2 + 1) ∧ (jX10_image_105 (d + 1) x1 (x2 + 1) φ4 α4 Q)))))))) : jX10_image_105 (d + 1) x1 x2 φ α Q := by
  intro Ln
  refine r_iload_n (pc' := 106) (kX10_image_0 51 rfl) rfl rfl ?_
  refine r_iconst 2 (pc' := 107) (kX10_image_0 52 rfl) rfl (by unfold inR; omega) ?_
  refine r_icmp_gt (t := 129) (pc' := 110) (kX10_image_0 53 rfl) rfl rfl (fun c1 => ?_) (fun c1 => ?_)
  · have h := h.1 c1
    have g2 := h.1
    have h := h.2
    refine r_iinc (L' := [(2, 0), (0, (x1 + 1)), (0, x2)]) (pc' := 132) (kX10_image_1 3 rfl) rfl (Nat.le_of_ble_eq_true rfl) rfl g2 rfl ?_
    refine r_goto (pc' := 92) (kX10_image_1 4 rfl) rfl ?_
    exact r_weak (L' := [(2, 0), (0, (x1 + 1)), (9, 0)]) ⟨Or.inl rfl, Or.inl rfl, Or.inr (by decide), trivial⟩ (h Ln)
  · have h := h.2 c1
    refine r_aload_n (pc' := 111) (kX10_image_0 54 rfl) rfl rfl ?_
    refine r_aload_n (pc' := 112) (kX10_image_0 55 rfl) rfl rfl ?_
    refine s_getr (v := 29) (pc' := 115) (kX10_image_0 56 rfl) rfl fkX10_40 rfl rfl (kz0 Ln) rfl (by decide) ?_
    refine r_iload_n (pc' := 116) (kX10_image_0 57 rfl) rfl rfl ?_
    refine r_iload_n (pc' := 117) (kX10_image_0 58 rfl) rfl rfl ?_
    refine s_callV (As := [(0, x2), (0, x1)]) (o := 29) (S := [(2, 0)]) (S2 := fun z => [(0, z), (2, 0)]) (pc' := 120) (kX10_image_0 59 rfl) rfl rfl nkX7_poolOf mlX10_221 imX7_poolOf rfl slX7_poolOf rfl (Nat.le_of_ble_eq_true rfl) (Nat.le_of_ble_eq_true rfl) (kz29 Ln) h (fun z => rfl) (fun r3 φ3 α3 h => ?_)
    refine s_callV (As := [(0, r3)]) (o := 0) (S := []) (S2 := fun z => []) (pc' := 123) (kX10_image_1 0 rfl) rfl rfl nkX10_putPair mlX10_352 imX10_putPair rfl slX10_putPair rfl (Nat.le_of_ble_eq_true rfl) (Nat.le_of_ble_eq_true rfl) (kz0 Ln) h (fun z => rfl) (fun r4 φ4 α4 h => ?_)
    have g5 := h.1
    have h := h.2
    refine r_iinc (L' := [(2, 0), (0, x1), (0, (x2 + 1))]) (pc' := 126) (kX10_image_1 1 rfl) rfl (Nat.le_of_ble_eq_true rfl) rfl g5 rfl ?_
    refine r_goto (pc' := 105) (kX10_image_1 2 rfl) rfl ?_
    exact r_weak (L' := [(2, 0), (0, x1), (0, (x2 + 1))]) ⟨Or.inl rfl, Or.inl rfl, Or.inl rfl, trivial⟩ (h Ln)
theorem vX10_octet_0 {d : Nat} {φ : aF} {α : aA} {Q : Int → aF → aA → Prop} {x1 : Int} (h : (eX6_at d 3 x1 φ α (fun r1 φ1 α1 =>
   (Q r1 φ1 α1)))) : eX10_octet (d + 1) x1 φ α Q := by
  intro Ln
  refine r_aload_n (pc' := 1) (kX10_octet_0 0 rfl) rfl rfl ?_
  refine s_getr (v := 3) (pc' := 4) (kX10_octet_0 1 rfl) rfl fkX10_18 rfl rfl (kz0 Ln) rfl (by decide) ?_
  refine r_iload_n (pc' := 5) (kX10_octet_0 2 rfl) rfl rfl ?_
  refine s_callV (As := [(0, x1)]) (o := 3) (S := []) (S2 := fun z => [(0, z)]) (pc' := 8) (kX10_octet_0 3 rfl) rfl rfl nkX6_at mlX10_361 imX6_at rfl slX6_at rfl (Nat.le_of_ble_eq_true rfl) (Nat.le_of_ble_eq_true rfl) (kz3 Ln) h (fun z => rfl) (fun r1 φ1 α1 h => ?_)
  exact s_iret (kX10_octet_0 4 rfl) rfl h
theorem vX10_on_0 {d : Nat} {φ : aF} {α : aA} {Q : Int → aF → aA → Prop} (h : (((φ 2 0 9) = 0 →
   (eX6_clear d 1 φ α (fun r2 φ2 α2 =>
     (eX10_deny d 5 φ2 α2 (fun r3 φ3 α3 =>
     (r3 = 0 ∨ r3 = 1) ∧ (Q r3 φ3 α3)))))) ∧
   (¬ ((φ 2 0 9) = 0) →
   (eX7_readPicture d 36 1 9 φ α (fun r5 φ5 α5 =>
     ((r5 = 0 →
     (eX6_clear d 1 φ5 α5 (fun r7 φ7 α7 =>
       (eX10_deny d 5 φ7 α7 (fun r8 φ8 α8 =>
       (r8 = 0 ∨ r8 = 1) ∧ (Q r8 φ8 α8)))))) ∧
     (¬ (r5 = 0) →
     (eX6_clear d 1 φ5 α5 (fun r10 φ10 α10 =>
       (eX7_copyRoom d 29 36 φ10 α10 (fun r11 φ11 α11 =>
       (eX7_forgetKept d 29 φ11 α11 (fun r12 φ12 α12 =>
       (eX3_clear d  φ12 α12 (fun r13 φ13 α13 =>
       (Q 1 φ13 α13)))))))))))))))) : eX10_on (d + 1)  φ α Q := by
  intro Ln
  refine r_aload_n (pc' := 1) (kX10_on_0 0 rfl) rfl rfl ?_
  refine s_getr (v := 9) (pc' := 4) (kX10_on_0 1 rfl) rfl fkX10_30 rfl rfl (kz0 Ln) rfl (by decide) ?_
  refine s_get (x := (φ 2 0 9)) (pc' := 7) (kX10_on_0 2 rfl) rfl fkX10_268 rfl rfl rfl (kz9 Ln) rfl ?_
  refine r_if_eq (t := 32) (pc' := 10) (kX10_on_0 3 rfl) rfl rfl (fun c1 => ?_) (fun c1 => ?_)
  · have h := h.1 c1
    refine r_iconst 0 (pc' := 33) (kX10_on_0 14 rfl) rfl (by unfold inR; omega) ?_
    refine r_istore_n (L' := [(2, 0), (0, 0)]) (pc' := 34) (kX10_on_0 15 rfl) rfl (Nat.le_of_ble_eq_true rfl) rfl ?_
    refine r_aload_n (pc' := 35) (kX10_on_0 16 rfl) rfl rfl ?_
    refine s_getr (v := 1) (pc' := 38) (kX10_on_0 17 rfl) rfl fkX10_14 rfl rfl (kz0 Ln) rfl (by decide) ?_
    refine s_callV (As := []) (o := 1) (S := []) (S2 := fun z => []) (pc' := 41) (kX10_on_0 18 rfl) rfl rfl nkX6_clear mlX10_125 imX6_clear rfl slX6_clear rfl (Nat.le_of_ble_eq_true rfl) (Nat.le_of_ble_eq_true rfl) (kz1 Ln) h (fun z => rfl) (fun r2 φ2 α2 h => ?_)
    refine r_iload_n (pc' := 42) (kX10_on_0 19 rfl) rfl rfl ?_
    refine r_if_ne (t := 51) (pc' := 45) (kX10_on_0 20 rfl) rfl rfl (fun cz => absurd cz (by decide)) (fun _ => ?_)
    refine r_aload_n (pc' := 46) (kX10_on_0 21 rfl) rfl rfl ?_
    refine r_iconst 5 (pc' := 47) (kX10_on_0 22 rfl) rfl (by unfold inR; omega) ?_
    refine s_callV (As := [(0, 5)]) (o := 0) (S := []) (S2 := fun z => [(0, z)]) (pc' := 50) (kX10_on_0 23 rfl) rfl rfl nkX10_deny mlX10_117 imX10_deny rfl slX10_deny rfl (Nat.le_of_ble_eq_true rfl) (Nat.le_of_ble_eq_true rfl) (kz0 Ln) h (fun z => rfl) (fun r3 φ3 α3 h => ?_)
    have g4 := h.1
    have h := h.2
    exact s_zret (kX10_on_0 24 rfl) rfl g4 h
  · have h := h.2 c1
    refine r_aload_n (pc' := 11) (kX10_on_0 4 rfl) rfl rfl ?_
    refine s_getr (v := 36) (pc' := 14) (kX10_on_0 5 rfl) rfl fkX10_44 rfl rfl (kz0 Ln) rfl (by decide) ?_
    refine r_aload_n (pc' := 15) (kX10_on_0 6 rfl) rfl rfl ?_
    refine s_getr (v := 1) (pc' := 18) (kX10_on_0 7 rfl) rfl fkX10_14 rfl rfl (kz0 Ln) rfl (by decide) ?_
    refine r_aload_n (pc' := 19) (kX10_on_0 8 rfl) rfl rfl ?_
    refine s_getr (v := 9) (pc' := 22) (kX10_on_0 9 rfl) rfl fkX10_30 rfl rfl (kz0 Ln) rfl (by decide) ?_
    refine s_callV (As := [(2, 1), (2, 9)]) (o := 36) (S := []) (S2 := fun z => [(0, z)]) (pc' := 25) (kX10_on_0 10 rfl) rfl rfl nkX7_readPicture mlX10_364 imX7_readPicture rfl slX7_readPicture rfl (Nat.le_of_ble_eq_true rfl) (Nat.le_of_ble_eq_true rfl) (kz36 Ln) h (fun z => rfl) (fun r5 φ5 α5 h => ?_)
    refine r_if_eq (t := 32) (pc' := 28) (kX10_on_0 11 rfl) rfl rfl (fun c6 => ?_) (fun c6 => ?_)
    · have h := h.1 c6
      refine r_iconst 0 (pc' := 33) (kX10_on_0 14 rfl) rfl (by unfold inR; omega) ?_
      refine r_istore_n (L' := [(2, 0), (0, 0)]) (pc' := 34) (kX10_on_0 15 rfl) rfl (Nat.le_of_ble_eq_true rfl) rfl ?_
      refine r_aload_n (pc' := 35) (kX10_on_0 16 rfl) rfl rfl ?_
      refine s_getr (v := 1) (pc' := 38) (kX10_on_0 17 rfl) rfl fkX10_14 rfl rfl (kz0 Ln) rfl (by decide) ?_
      refine s_callV (As := []) (o := 1) (S := []) (S2 := fun z => []) (pc' := 41) (kX10_on_0 18 rfl) rfl rfl nkX6_clear mlX10_125 imX6_clear rfl slX6_clear rfl (Nat.le_of_ble_eq_true rfl) (Nat.le_of_ble_eq_true rfl) (kz1 Ln) h (fun z => rfl) (fun r7 φ7 α7 h => ?_)
      refine r_iload_n (pc' := 42) (kX10_on_0 19 rfl) rfl rfl ?_
      refine r_if_ne (t := 51) (pc' := 45) (kX10_on_0 20 rfl) rfl rfl (fun cz => absurd cz (by decide)) (fun _ => ?_)
      refine r_aload_n (pc' := 46) (kX10_on_0 21 rfl) rfl rfl ?_
      refine r_iconst 5 (pc' := 47) (kX10_on_0 22 rfl) rfl (by unfold inR; omega) ?_
      refine s_callV (As := [(0, 5)]) (o := 0) (S := []) (S2 := fun z => [(0, z)]) (pc' := 50) (kX10_on_0 23 rfl) rfl rfl nkX10_deny mlX10_117 imX10_deny rfl slX10_deny rfl (Nat.le_of_ble_eq_true rfl) (Nat.le_of_ble_eq_true rfl) (kz0 Ln) h (fun z => rfl) (fun r8 φ8 α8 h => ?_)
      have g9 := h.1
      have h := h.2
      exact s_zret (kX10_on_0 24 rfl) rfl g9 h
    · have h := h.2 c6
      refine r_iconst 1 (pc' := 29) (kX10_on_0 12 rfl) rfl (by unfold inR; omega) ?_
      refine r_goto (pc' := 33) (kX10_on_0 13 rfl) rfl ?_
      refine r_istore_n (L' := [(2, 0), (0, 1)]) (pc' := 34) (kX10_on_0 15 rfl) rfl (Nat.le_of_ble_eq_true rfl) rfl ?_
      refine r_aload_n (pc' := 35) (kX10_on_0 16 rfl) rfl rfl ?_
      refine s_getr (v := 1) (pc' := 38) (kX10_on_0 17 rfl) rfl fkX10_14 rfl rfl (kz0 Ln) rfl (by decide) ?_
      refine s_callV (As := []) (o := 1) (S := []) (S2 := fun z => []) (pc' := 41) (kX10_on_0 18 rfl) rfl rfl nkX6_clear mlX10_125 imX6_clear rfl slX6_clear rfl (Nat.le_of_ble_eq_true rfl) (Nat.le_of_ble_eq_true rfl) (kz1 Ln) h (fun z => rfl) (fun r10 φ10 α10 h => ?_)
      refine r_iload_n (pc' := 42) (kX10_on_0 19 rfl) rfl rfl ?_
      refine r_if_ne (t := 51) (pc' := 45) (kX10_on_0 20 rfl) rfl rfl (fun _ => ?_) (fun cz => absurd cz (by decide))
      refine r_aload_n (pc' := 52) (kX10_on_0 25 rfl) rfl rfl ?_
      refine s_getr (v := 29) (pc' := 55) (kX10_on_0 26 rfl) rfl fkX10_40 rfl rfl (kz0 Ln) rfl (by decide) ?_
      refine r_aload_n (pc' := 56) (kX10_on_0 27 rfl) rfl rfl ?_
      refine s_getr (v := 36) (pc' := 59) (kX10_on_0 28 rfl) rfl fkX10_44 rfl rfl (kz0 Ln) rfl (by decide) ?_
      refine s_callV (As := [(2, 36)]) (o := 29) (S := []) (S2 := fun z => []) (pc' := 62) (kX10_on_0 29 rfl) rfl rfl nkX7_copyRoom mlX10_240 imX7_copyRoom rfl slX7_copyRoom rfl (Nat.le_of_ble_eq_true rfl) (Nat.le_of_ble_eq_true rfl) (kz29 Ln) h (fun z => rfl) (fun r11 φ11 α11 h => ?_)
      refine r_aload_n (pc' := 63) (kX10_on_0 30 rfl) rfl rfl ?_
      refine s_getr (v := 29) (pc' := 66) (kX10_on_0 31 rfl) rfl fkX10_40 rfl rfl (kz0 Ln) rfl (by decide) ?_
      refine s_callV (As := []) (o := 29) (S := []) (S2 := fun z => []) (pc' := 69) (kX10_on_0 32 rfl) rfl rfl nkX7_forgetKept mlX10_368 imX7_forgetKept rfl slX7_forgetKept rfl (Nat.le_of_ble_eq_true rfl) (Nat.le_of_ble_eq_true rfl) (kz29 Ln) h (fun z => rfl) (fun r12 φ12 α12 h => ?_)
      refine r_aload_n (pc' := 70) (kX10_on_0 33 rfl) rfl rfl ?_
      refine s_getr (v := 43) (pc' := 73) (kX10_on_0 34 rfl) rfl fkX10_50 rfl rfl (kz0 Ln) rfl (by decide) ?_
      refine s_callV (As := []) (o := 43) (S := []) (S2 := fun z => []) (pc' := 76) (kX10_on_0 35 rfl) rfl rfl nkX3_clear mlX10_134 imX3_clear rfl slX3_clear rfl (Nat.le_of_ble_eq_true rfl) (Nat.le_of_ble_eq_true rfl) (kz43 Ln) h (fun z => rfl) (fun r13 φ13 α13 h => ?_)
      refine r_iconst 1 (pc' := 77) (kX10_on_0 36 rfl) rfl (by unfold inR; omega) ?_
      exact s_zret (kX10_on_0 37 rfl) rfl (Or.inr rfl) h
theorem vX10_status_0 {d : Nat} {φ : aF} {α : aA} {Q : Int → aF → aA → Prop} {x1 : Int} (h : (eX10_within d x1 0 (6 - 1) φ α (fun r1 φ1 α1 =>
   ((r1 = 0 →
   (Q (-1) φ1 α1)) ∧
   (¬ (r1 = 0) →
   (eX10_pick d 197 x1 φ1 α1 (fun r3 φ3 α3 =>
     (Q r3 φ3 α3)))))))) : eX10_status (d + 1) x1 φ α Q := by
  intro Ln
  refine r_iload_n (pc' := 1) (kX10_status_0 0 rfl) rfl rfl ?_
  refine r_iconst 0 (pc' := 2) (kX10_status_0 1 rfl) rfl (by unfold inR; omega) ?_
  refine r_aload_n (pc' := 3) (kX10_status_0 2 rfl) rfl rfl ?_
  refine s_getr (v := 197) (pc' := 6) (kX10_status_0 3 rfl) rfl fkX10_99 rfl rfl (kz0 Ln) rfl (by decide) ?_
  refine s_alen (pc' := 7) (kX10_status_0 4 rfl) rfl (kz197 Ln) ⟨by decide, by decide⟩ ?_
  refine r_iconst 1 (pc' := 8) (kX10_status_0 5 rfl) rfl (by unfold inR; omega) ?_
  refine r_isub (pc' := 9) (kX10_status_0 6 rfl) rfl (by unfold inR; omega) ?_
  refine s_callS (As := [(0, x1), (0, 0), (0, (6 - 1))]) (S := []) (S2 := fun z => [(0, z)]) (pc' := 12) (kX10_status_0 7 rfl) rfl rfl nkX10_within mlX10_182 scX10_within rfl (Nat.le_of_ble_eq_true rfl) (Nat.le_of_ble_eq_true rfl) h (fun z => rfl) (fun r1 φ1 α1 h => ?_)
  refine r_if_eq (t := 26) (pc' := 15) (kX10_status_0 8 rfl) rfl rfl (fun c2 => ?_) (fun c2 => ?_)
  · have h := h.1 c2
    refine r_iconst (-1) (pc' := 27) (kX10_status_0 14 rfl) rfl (by unfold inR; omega) ?_
    exact s_iret (kX10_status_0 15 rfl) rfl h
  · have h := h.2 c2
    refine r_aload_n (pc' := 16) (kX10_status_0 9 rfl) rfl rfl ?_
    refine s_getr (v := 197) (pc' := 19) (kX10_status_0 10 rfl) rfl fkX10_99 rfl rfl (kz0 Ln) rfl (by decide) ?_
    refine r_iload_n (pc' := 20) (kX10_status_0 11 rfl) rfl rfl ?_
    refine s_callS (As := [(2, 197), (0, x1)]) (S := []) (S2 := fun z => [(0, z)]) (pc' := 23) (kX10_status_0 12 rfl) rfl rfl nkX10_pick mlX10_189 scX10_pick rfl (Nat.le_of_ble_eq_true rfl) (Nat.le_of_ble_eq_true rfl) h (fun z => rfl) (fun r3 φ3 α3 h => ?_)
    refine r_goto (pc' := 27) (kX10_status_0 13 rfl) rfl ?_
    exact s_iret (kX10_status_0 15 rfl) rfl h
theorem vX10_refuse_0 {d : Nat} {φ : aF} {α : aA} {Q : Int → aF → aA → Prop} {x1 : Int} (h : (eX10_add d 197 x1 1 φ α (fun r1 φ1 α1 =>
   (Q (-1) φ1 α1)))) : eX10_refuse (d + 1) x1 φ α Q := by
  intro Ln
  refine r_aload_n (pc' := 1) (kX10_refuse_0 0 rfl) rfl rfl ?_
  refine s_getr (v := 197) (pc' := 4) (kX10_refuse_0 1 rfl) rfl fkX10_99 rfl rfl (kz0 Ln) rfl (by decide) ?_
  refine r_iload_n (pc' := 5) (kX10_refuse_0 2 rfl) rfl rfl ?_
  refine r_iconst 1 (pc' := 6) (kX10_refuse_0 3 rfl) rfl (by unfold inR; omega) ?_
  refine s_callS (As := [(2, 197), (0, x1), (0, 1)]) (S := []) (S2 := fun z => []) (pc' := 9) (kX10_refuse_0 4 rfl) rfl rfl nkX10_add mlX10_371 scX10_add rfl (Nat.le_of_ble_eq_true rfl) (Nat.le_of_ble_eq_true rfl) h (fun z => rfl) (fun r1 φ1 α1 h => ?_)
  refine r_iconst (-1) (pc' := 10) (kX10_refuse_0 5 rfl) rfl (by unfold inR; omega) ?_
  exact s_iret (kX10_refuse_0 6 rfl) rfl h
theorem vX10_deny_0 {d : Nat} {φ : aF} {α : aA} {Q : Int → aF → aA → Prop} {x1 : Int} (h : (eX10_refuse d x1 φ α (fun r1 φ1 α1 =>
   (Q 0 φ1 α1)))) : eX10_deny (d + 1) x1 φ α Q := by
  intro Ln
  refine r_aload_n (pc' := 1) (kX10_deny_0 0 rfl) rfl rfl ?_
  refine r_iload_n (pc' := 2) (kX10_deny_0 1 rfl) rfl rfl ?_
  refine s_callV (As := [(0, x1)]) (o := 0) (S := []) (S2 := fun z => [(0, z)]) (pc' := 5) (kX10_deny_0 2 rfl) rfl rfl nkX10_refuse mlX10_110 imX10_refuse rfl slX10_refuse rfl (Nat.le_of_ble_eq_true rfl) (Nat.le_of_ble_eq_true rfl) (kz0 Ln) h (fun z => rfl) (fun r1 φ1 α1 h => ?_)
  refine r_pop (pc' := 6) (kX10_deny_0 3 rfl) rfl rfl ?_
  refine r_iconst 0 (pc' := 7) (kX10_deny_0 4 rfl) rfl (by unfold inR; omega) ?_
  exact s_zret (kX10_deny_0 5 rfl) rfl (Or.inl rfl) h
theorem vX10_feedNumber_0 {d : Nat} {φ : aF} {α : aA} {Q : Int → aF → aA → Prop} {x1 : Int} (h : (eX6_put d 1 (iAnd (iUshr x1 24) 255) φ α (fun r1 φ1 α1 =>
   (eX6_put d 1 (iAnd (iUshr x1 16) 255) φ1 α1 (fun r2 φ2 α2 =>
   (eX6_put d 1 (iAnd (iUshr x1 8) 255) φ2 α2 (fun r3 φ3 α3 =>
   (eX6_put d 1 (iAnd x1 255) φ3 α3 (fun r4 φ4 α4 =>
   (Q 0 φ4 α4)))))))))) : eX10_feedNumber (d + 1) x1 φ α Q := by
  intro Ln
  refine r_aload_n (pc' := 1) (kX10_feedNumber_0 0 rfl) rfl rfl ?_
  refine s_getr (v := 1) (pc' := 4) (kX10_feedNumber_0 1 rfl) rfl fkX10_14 rfl rfl (kz0 Ln) rfl (by decide) ?_
  refine r_iload_n (pc' := 5) (kX10_feedNumber_0 2 rfl) rfl rfl ?_
  refine r_bipush 24 (pc' := 7) (kX10_feedNumber_0 3 rfl) rfl ⟨by unfold inR; omega, rfl⟩ ?_
  refine r_iushr (pc' := 8) (kX10_feedNumber_0 4 rfl) rfl ?_
  refine r_sipush 255 (pc' := 11) (kX10_feedNumber_0 5 rfl) rfl ⟨by unfold inR; omega, rfl⟩ ?_
  refine r_iand (pc' := 12) (kX10_feedNumber_0 6 rfl) rfl ?_
  refine s_callV (As := [(0, (iAnd (iUshr x1 24) 255))]) (o := 1) (S := []) (S2 := fun z => []) (pc' := 15) (kX10_feedNumber_0 7 rfl) rfl rfl nkX6_put mlX10_355 imX6_put rfl slX6_put rfl (Nat.le_of_ble_eq_true rfl) (Nat.le_of_ble_eq_true rfl) (kz1 Ln) h (fun z => rfl) (fun r1 φ1 α1 h => ?_)
  refine r_aload_n (pc' := 16) (kX10_feedNumber_0 8 rfl) rfl rfl ?_
  refine s_getr (v := 1) (pc' := 19) (kX10_feedNumber_0 9 rfl) rfl fkX10_14 rfl rfl (kz0 Ln) rfl (by decide) ?_
  refine r_iload_n (pc' := 20) (kX10_feedNumber_0 10 rfl) rfl rfl ?_
  refine r_bipush 16 (pc' := 22) (kX10_feedNumber_0 11 rfl) rfl ⟨by unfold inR; omega, rfl⟩ ?_
  refine r_iushr (pc' := 23) (kX10_feedNumber_0 12 rfl) rfl ?_
  refine r_sipush 255 (pc' := 26) (kX10_feedNumber_0 13 rfl) rfl ⟨by unfold inR; omega, rfl⟩ ?_
  refine r_iand (pc' := 27) (kX10_feedNumber_0 14 rfl) rfl ?_
  refine s_callV (As := [(0, (iAnd (iUshr x1 16) 255))]) (o := 1) (S := []) (S2 := fun z => []) (pc' := 30) (kX10_feedNumber_0 15 rfl) rfl rfl nkX6_put mlX10_355 imX6_put rfl slX6_put rfl (Nat.le_of_ble_eq_true rfl) (Nat.le_of_ble_eq_true rfl) (kz1 Ln) h (fun z => rfl) (fun r2 φ2 α2 h => ?_)
  refine r_aload_n (pc' := 31) (kX10_feedNumber_0 16 rfl) rfl rfl ?_
  refine s_getr (v := 1) (pc' := 34) (kX10_feedNumber_0 17 rfl) rfl fkX10_14 rfl rfl (kz0 Ln) rfl (by decide) ?_
  refine r_iload_n (pc' := 35) (kX10_feedNumber_0 18 rfl) rfl rfl ?_
  refine r_bipush 8 (pc' := 37) (kX10_feedNumber_0 19 rfl) rfl ⟨by unfold inR; omega, rfl⟩ ?_
  refine r_iushr (pc' := 38) (kX10_feedNumber_0 20 rfl) rfl ?_
  refine r_sipush 255 (pc' := 41) (kX10_feedNumber_0 21 rfl) rfl ⟨by unfold inR; omega, rfl⟩ ?_
  refine r_iand (pc' := 42) (kX10_feedNumber_0 22 rfl) rfl ?_
  refine s_callV (As := [(0, (iAnd (iUshr x1 8) 255))]) (o := 1) (S := []) (S2 := fun z => []) (pc' := 45) (kX10_feedNumber_0 23 rfl) rfl rfl nkX6_put mlX10_355 imX6_put rfl slX6_put rfl (Nat.le_of_ble_eq_true rfl) (Nat.le_of_ble_eq_true rfl) (kz1 Ln) h (fun z => rfl) (fun r3 φ3 α3 h => ?_)
  refine r_aload_n (pc' := 46) (kX10_feedNumber_0 24 rfl) rfl rfl ?_
  refine s_getr (v := 1) (pc' := 49) (kX10_feedNumber_0 25 rfl) rfl fkX10_14 rfl rfl (kz0 Ln) rfl (by decide) ?_
  refine r_iload_n (pc' := 50) (kX10_feedNumber_0 26 rfl) rfl rfl ?_
  refine r_sipush 255 (pc' := 53) (kX10_feedNumber_0 27 rfl) rfl ⟨by unfold inR; omega, rfl⟩ ?_
  refine r_iand (pc' := 54) (kX10_feedNumber_0 28 rfl) rfl ?_
  refine s_callV (As := [(0, (iAnd x1 255))]) (o := 1) (S := []) (S2 := fun z => []) (pc' := 57) (kX10_feedNumber_0 29 rfl) rfl rfl nkX6_put mlX10_355 imX6_put rfl slX6_put rfl (Nat.le_of_ble_eq_true rfl) (Nat.le_of_ble_eq_true rfl) (kz1 Ln) h (fun z => rfl) (fun r4 φ4 α4 h => ?_)
  exact s_vret (kX10_feedNumber_0 30 rfl) rfl h
theorem vX10_putPair_0 {d : Nat} {φ : aF} {α : aA} {Q : Int → aF → aA → Prop} {x1 : Int} (h : (eX6_put d 3 (iAnd (iUshr x1 8) 255) φ α (fun r1 φ1 α1 =>
   (eX6_put d 3 (iAnd x1 255) φ1 α1 (fun r2 φ2 α2 =>
   (Q 0 φ2 α2)))))) : eX10_putPair (d + 1) x1 φ α Q := by
  intro Ln
  refine r_aload_n (pc' := 1) (kX10_putPair_0 0 rfl) rfl rfl ?_
  refine s_getr (v := 3) (pc' := 4) (kX10_putPair_0 1 rfl) rfl fkX10_18 rfl rfl (kz0 Ln) rfl (by decide) ?_
  refine r_iload_n (pc' := 5) (kX10_putPair_0 2 rfl) rfl rfl ?_
  refine r_bipush 8 (pc' := 7) (kX10_putPair_0 3 rfl) rfl ⟨by unfold inR; omega, rfl⟩ ?_
  refine r_iushr (pc' := 8) (kX10_putPair_0 4 rfl) rfl ?_
  refine r_sipush 255 (pc' := 11) (kX10_putPair_0 5 rfl) rfl ⟨by unfold inR; omega, rfl⟩ ?_
  refine r_iand (pc' := 12) (kX10_putPair_0 6 rfl) rfl ?_
  refine s_callV (As := [(0, (iAnd (iUshr x1 8) 255))]) (o := 3) (S := []) (S2 := fun z => []) (pc' := 15) (kX10_putPair_0 7 rfl) rfl rfl nkX6_put mlX10_355 imX6_put rfl slX6_put rfl (Nat.le_of_ble_eq_true rfl) (Nat.le_of_ble_eq_true rfl) (kz3 Ln) h (fun z => rfl) (fun r1 φ1 α1 h => ?_)
  refine r_aload_n (pc' := 16) (kX10_putPair_0 8 rfl) rfl rfl ?_
  refine s_getr (v := 3) (pc' := 19) (kX10_putPair_0 9 rfl) rfl fkX10_18 rfl rfl (kz0 Ln) rfl (by decide) ?_
  refine r_iload_n (pc' := 20) (kX10_putPair_0 10 rfl) rfl rfl ?_
  refine r_sipush 255 (pc' := 23) (kX10_putPair_0 11 rfl) rfl ⟨by unfold inR; omega, rfl⟩ ?_
  refine r_iand (pc' := 24) (kX10_putPair_0 12 rfl) rfl ?_
  refine s_callV (As := [(0, (iAnd x1 255))]) (o := 3) (S := []) (S2 := fun z => []) (pc' := 27) (kX10_putPair_0 13 rfl) rfl rfl nkX6_put mlX10_355 imX6_put rfl slX6_put rfl (Nat.le_of_ble_eq_true rfl) (Nat.le_of_ble_eq_true rfl) (kz3 Ln) h (fun z => rfl) (fun r2 φ2 α2 h => ?_)
  exact s_vret (kX10_putPair_0 14 rfl) rfl h
theorem vX10_canPass_0 {d : Nat} {φ : aF} {α : aA} {Q : Int → aF → aA → Prop} {x1 : Int} {x2 : Int} {x3 : Int} (h : (((φ 2 0 9) = 0 →
   (Q 0 φ α)) ∧
   (¬ ((φ 2 0 9) = 0) →
   (eX10_within d x1 x2 x3 φ α (fun r2 φ2 α2 =>
     ((r2 = 0 →
     (Q 0 φ2 α2)) ∧
     (¬ (r2 = 0) →
     inR ((φ2 7 0 29) + x1) ∧ ((999 < ((φ2 7 0 29) + x1) →
       (Q 0 φ2 α2)) ∧
       (¬ (999 < ((φ2 7 0 29) + x1)) →
       (Q 1 φ2 α2)))))))))) : eX10_canPass (d + 1) x1 x2 x3 φ α Q := by
  intro Ln
  refine r_aload_n (pc' := 1) (kX10_canPass_0 0 rfl) rfl rfl ?_
  refine s_getr (v := 9) (pc' := 4) (kX10_canPass_0 1 rfl) rfl fkX10_30 rfl rfl (kz0 Ln) rfl (by decide) ?_
  refine s_get (x := (φ 2 0 9)) (pc' := 7) (kX10_canPass_0 2 rfl) rfl fkX10_268 rfl rfl rfl (kz9 Ln) rfl ?_
  refine r_if_eq (t := 38) (pc' := 10) (kX10_canPass_0 3 rfl) rfl rfl (fun c1 => ?_) (fun c1 => ?_)
  · have h := h.1 c1
    refine r_iconst 0 (pc' := 39) (kX10_canPass_0 18 rfl) rfl (by unfold inR; omega) ?_
    exact s_zret (kX10_canPass_0 19 rfl) rfl (Or.inl rfl) h
  · have h := h.2 c1
    refine r_iload_n (pc' := 11) (kX10_canPass_0 4 rfl) rfl rfl ?_
    refine r_iload_n (pc' := 12) (kX10_canPass_0 5 rfl) rfl rfl ?_
    refine r_iload_n (pc' := 13) (kX10_canPass_0 6 rfl) rfl rfl ?_
    refine s_callS (As := [(0, x1), (0, x2), (0, x3)]) (S := []) (S2 := fun z => [(0, z)]) (pc' := 16) (kX10_canPass_0 7 rfl) rfl rfl nkX10_within mlX10_182 scX10_within rfl (Nat.le_of_ble_eq_true rfl) (Nat.le_of_ble_eq_true rfl) h (fun z => rfl) (fun r2 φ2 α2 h => ?_)
    refine r_if_eq (t := 38) (pc' := 19) (kX10_canPass_0 8 rfl) rfl rfl (fun c3 => ?_) (fun c3 => ?_)
    · have h := h.1 c3
      refine r_iconst 0 (pc' := 39) (kX10_canPass_0 18 rfl) rfl (by unfold inR; omega) ?_
      exact s_zret (kX10_canPass_0 19 rfl) rfl (Or.inl rfl) h
    · have h := h.2 c3
      refine r_aload_n (pc' := 20) (kX10_canPass_0 9 rfl) rfl rfl ?_
      refine s_getr (v := 29) (pc' := 23) (kX10_canPass_0 10 rfl) rfl fkX10_40 rfl rfl (kz0 Ln) rfl (by decide) ?_
      refine s_get (x := (φ2 7 0 29)) (pc' := 26) (kX10_canPass_0 11 rfl) rfl fkX10_153 rfl rfl rfl (kz29 Ln) rfl ?_
      refine r_iload_n (pc' := 27) (kX10_canPass_0 12 rfl) rfl rfl ?_
      have g4 := h.1
      have h := h.2
      refine r_iadd (pc' := 28) (kX10_canPass_0 13 rfl) rfl g4 ?_
      refine r_sipush 999 (pc' := 31) (kX10_canPass_0 14 rfl) rfl ⟨by unfold inR; omega, rfl⟩ ?_
      refine r_icmp_gt (t := 38) (pc' := 34) (kX10_canPass_0 15 rfl) rfl rfl (fun c5 => ?_) (fun c5 => ?_)
      · have h := h.1 c5
        refine r_iconst 0 (pc' := 39) (kX10_canPass_0 18 rfl) rfl (by unfold inR; omega) ?_
        exact s_zret (kX10_canPass_0 19 rfl) rfl (Or.inl rfl) h
      · have h := h.2 c5
        refine r_iconst 1 (pc' := 35) (kX10_canPass_0 16 rfl) rfl (by unfold inR; omega) ?_
        refine r_goto (pc' := 39) (kX10_canPass_0 17 rfl) rfl ?_
        exact s_zret (kX10_canPass_0 19 rfl) rfl (Or.inr rfl) h
abbrev jX10_lookAhead_13 (d : Nat) (x1 x2 : Int) (φ : aF) (α : aA) (Q : Int → aF → aA → Prop) : Prop := R0 d mX10_lookAhead 13 [(2, 0), (0, x1), (0, x2)] [] φ α Q
theorem vX10_lookAhead_0 {d : Nat} {φ : aF} {α : aA} {Q : Int → aF → aA → Prop} {x1 : Int} (h : (eX7_copyRoom d 36 29 φ α (fun r1 φ1 α1 =>
   (jX10_lookAhead_13 (d + 1) x1 0 φ1 α1 Q)))) : eX10_lookAhead (d + 1) x1 φ α Q := by
  intro Ln
  refine r_aload_n (pc' := 1) (kX10_lookAhead_0 0 rfl) rfl rfl ?_
  refine s_getr (v := 36) (pc' := 4) (kX10_lookAhead_0 1 rfl) rfl fkX10_44 rfl rfl (kz0 Ln) rfl (by decide) ?_
  refine r_aload_n (pc' := 5) (kX10_lookAhead_0 2 rfl) rfl rfl ?_
  refine s_getr (v := 29) (pc' := 8) (kX10_lookAhead_0 3 rfl) rfl fkX10_40 rfl rfl (kz0 Ln) rfl (by decide) ?_
  refine s_callV (As := [(2, 29)]) (o := 36) (S := []) (S2 := fun z => []) (pc' := 11) (kX10_lookAhead_0 4 rfl) rfl rfl nkX7_copyRoom mlX10_240 imX7_copyRoom rfl slX7_copyRoom rfl (Nat.le_of_ble_eq_true rfl) (Nat.le_of_ble_eq_true rfl) (kz36 Ln) h (fun z => rfl) (fun r1 φ1 α1 h => ?_)
  refine r_iconst 0 (pc' := 12) (kX10_lookAhead_0 5 rfl) rfl (by unfold inR; omega) ?_
  refine r_istore_n (L' := [(2, 0), (0, x1), (0, 0)]) (pc' := 13) (kX10_lookAhead_0 6 rfl) rfl (Nat.le_of_ble_eq_true rfl) rfl ?_
  exact r_weak (L' := [(2, 0), (0, x1), (0, 0)]) ⟨Or.inl rfl, Or.inl rfl, Or.inl rfl, trivial⟩ (h Ln)
theorem vX10_lookAhead_13 {d : Nat} {φ : aF} {α : aA} {Q : Int → aF → aA → Prop} {x1 : Int} {x2 : Int} (h : ((x1 ≤ x2 →
   (Q 0 φ α)) ∧
   (¬ (x1 ≤ x2) →
   (eX9_passDay d 36 φ α (fun r2 φ2 α2 =>
     inR (x2 + 1) ∧ (jX10_lookAhead_13 (d + 1) x1 (x2 + 1) φ2 α2 Q)))))) : jX10_lookAhead_13 (d + 1) x1 x2 φ α Q := by
  intro Ln
  refine r_iload_n (pc' := 14) (kX10_lookAhead_0 7 rfl) rfl rfl ?_
  refine r_iload_n (pc' := 15) (kX10_lookAhead_0 8 rfl) rfl rfl ?_
  refine r_icmp_ge (t := 36) (pc' := 18) (kX10_lookAhead_0 9 rfl) rfl rfl (fun c1 => ?_) (fun c1 => ?_)
  · have h := h.1 c1
    exact s_vret (kX10_lookAhead_0 18 rfl) rfl h
  · have h := h.2 c1
    refine r_aload_n (pc' := 19) (kX10_lookAhead_0 10 rfl) rfl rfl ?_
    refine s_getr (v := 190) (pc' := 22) (kX10_lookAhead_0 11 rfl) rfl fkX10_77 rfl rfl (kz0 Ln) rfl (by decide) ?_
    refine r_aload_n (pc' := 23) (kX10_lookAhead_0 12 rfl) rfl rfl ?_
    refine s_getr (v := 36) (pc' := 26) (kX10_lookAhead_0 13 rfl) rfl fkX10_44 rfl rfl (kz0 Ln) rfl (by decide) ?_
    refine s_callV (As := [(2, 36)]) (o := 190) (S := []) (S2 := fun z => [(0, z)]) (pc' := 29) (kX10_lookAhead_0 14 rfl) rfl rfl nkX9_passDay mlX10_249 imX9_passDay rfl slX9_passDay rfl (Nat.le_of_ble_eq_true rfl) (Nat.le_of_ble_eq_true rfl) (kz190 Ln) h (fun z => rfl) (fun r2 φ2 α2 h => ?_)
    refine r_pop (pc' := 30) (kX10_lookAhead_0 15 rfl) rfl rfl ?_
    have g3 := h.1
    have h := h.2
    refine r_iinc (L' := [(2, 0), (0, x1), (0, (x2 + 1))]) (pc' := 33) (kX10_lookAhead_0 16 rfl) rfl (Nat.le_of_ble_eq_true rfl) rfl g3 rfl ?_
    refine r_goto (pc' := 13) (kX10_lookAhead_0 17 rfl) rfl ?_
    exact r_weak (L' := [(2, 0), (0, x1), (0, (x2 + 1))]) ⟨Or.inl rfl, Or.inl rfl, Or.inl rfl, trivial⟩ (h Ln)
theorem vX10_dry_0 {d : Nat} {φ : aF} {α : aA} {Q : Int → aF → aA → Prop} {x1 : Int} {x2 : Int} (h : (eX2_isClerk d 9 x1 φ α (fun r1 φ1 α1 =>
   ((r1 = 0 →
   (eX10_refuse d 2 φ1 α1 (fun r3 φ3 α3 =>
     (Q r3 φ3 α3)))) ∧
   (¬ (r1 = 0) →
   (eX10_pick d 33 x1 φ1 α1 (fun r4 φ4 α4 =>
     ((¬ r4 = 0 →
     (eX3_keep d 29 φ4 α4 (fun r6 φ6 α6 =>
       (eX7_empty d 29 x1 x2 φ6 α6 (fun r7 φ7 α7 =>
       (Q r7 φ7 α7)))))) ∧
     (r4 = 0 →
     (eX10_refuse d 2 φ4 α4 (fun r8 φ8 α8 =>
       (Q r8 φ8 α8)))))))))))) : eX10_dry (d + 1) x1 x2 φ α Q := by
  intro Ln
  refine r_aload_n (pc' := 1) (kX10_dry_0 0 rfl) rfl rfl ?_
  refine s_getr (v := 9) (pc' := 4) (kX10_dry_0 1 rfl) rfl fkX10_30 rfl rfl (kz0 Ln) rfl (by decide) ?_
  refine r_iload_n (pc' := 5) (kX10_dry_0 2 rfl) rfl rfl ?_
  refine s_callV (As := [(0, x1)]) (o := 9) (S := []) (S2 := fun z => [(0, z)]) (pc' := 8) (kX10_dry_0 3 rfl) rfl rfl nkX2_isClerk mlX10_179 imX2_isClerk rfl slX2_isClerk rfl (Nat.le_of_ble_eq_true rfl) (Nat.le_of_ble_eq_true rfl) (kz9 Ln) h (fun z => rfl) (fun r1 φ1 α1 h => ?_)
  refine r_if_eq (t := 25) (pc' := 11) (kX10_dry_0 4 rfl) rfl rfl (fun c2 => ?_) (fun c2 => ?_)
  · have h := h.1 c2
    refine r_aload_n (pc' := 26) (kX10_dry_0 11 rfl) rfl rfl ?_
    refine r_iconst 2 (pc' := 27) (kX10_dry_0 12 rfl) rfl (by unfold inR; omega) ?_
    refine s_callV (As := [(0, 2)]) (o := 0) (S := []) (S2 := fun z => [(0, z)]) (pc' := 30) (kX10_dry_0 13 rfl) rfl rfl nkX10_refuse mlX10_110 imX10_refuse rfl slX10_refuse rfl (Nat.le_of_ble_eq_true rfl) (Nat.le_of_ble_eq_true rfl) (kz0 Ln) h (fun z => rfl) (fun r3 φ3 α3 h => ?_)
    exact s_iret (kX10_dry_0 14 rfl) rfl h
  · have h := h.2 c2
    refine r_aload_n (pc' := 12) (kX10_dry_0 5 rfl) rfl rfl ?_
    refine s_getr (v := 29) (pc' := 15) (kX10_dry_0 6 rfl) rfl fkX10_40 rfl rfl (kz0 Ln) rfl (by decide) ?_
    refine s_getr (v := 33) (pc' := 18) (kX10_dry_0 7 rfl) rfl fkX10_156 rfl rfl (kz29 Ln) rfl (by decide) ?_
    refine r_iload_n (pc' := 19) (kX10_dry_0 8 rfl) rfl rfl ?_
    refine s_callS (As := [(2, 33), (0, x1)]) (S := []) (S2 := fun z => [(0, z)]) (pc' := 22) (kX10_dry_0 9 rfl) rfl rfl nkX10_pick mlX10_189 scX10_pick rfl (Nat.le_of_ble_eq_true rfl) (Nat.le_of_ble_eq_true rfl) h (fun z => rfl) (fun r4 φ4 α4 h => ?_)
    refine r_if_ne (t := 31) (pc' := 25) (kX10_dry_0 10 rfl) rfl rfl (fun c5 => ?_) (fun c5 => ?_)
    · have h := h.1 c5
      refine r_aload_n (pc' := 32) (kX10_dry_0 15 rfl) rfl rfl ?_
      refine s_getr (v := 43) (pc' := 35) (kX10_dry_0 16 rfl) rfl fkX10_50 rfl rfl (kz0 Ln) rfl (by decide) ?_
      refine r_aload_n (pc' := 36) (kX10_dry_0 17 rfl) rfl rfl ?_
      refine s_getr (v := 29) (pc' := 39) (kX10_dry_0 18 rfl) rfl fkX10_40 rfl rfl (kz0 Ln) rfl (by decide) ?_
      refine s_callV (As := [(2, 29)]) (o := 43) (S := []) (S2 := fun z => []) (pc' := 42) (kX10_dry_0 19 rfl) rfl rfl nkX3_keep mlX10_304 imX3_keep rfl slX3_keep rfl (Nat.le_of_ble_eq_true rfl) (Nat.le_of_ble_eq_true rfl) (kz43 Ln) h (fun z => rfl) (fun r6 φ6 α6 h => ?_)
      refine r_aload_n (pc' := 43) (kX10_dry_0 20 rfl) rfl rfl ?_
      refine s_getr (v := 29) (pc' := 46) (kX10_dry_0 21 rfl) rfl fkX10_40 rfl rfl (kz0 Ln) rfl (by decide) ?_
      refine r_iload_n (pc' := 47) (kX10_dry_0 22 rfl) rfl rfl ?_
      refine r_iload_n (pc' := 48) (kX10_dry_0 23 rfl) rfl rfl ?_
      refine s_callV (As := [(0, x1), (0, x2)]) (o := 29) (S := []) (S2 := fun z => [(0, z)]) (pc' := 51) (kX10_dry_0 24 rfl) rfl rfl nkX7_empty mlX10_375 imX7_empty rfl slX7_empty rfl (Nat.le_of_ble_eq_true rfl) (Nat.le_of_ble_eq_true rfl) (kz29 Ln) h (fun z => rfl) (fun r7 φ7 α7 h => ?_)
      exact s_iret (kX10_dry_0 25 rfl) rfl h
    · have h := h.2 c5
      refine r_aload_n (pc' := 26) (kX10_dry_0 11 rfl) rfl rfl ?_
      refine r_iconst 2 (pc' := 27) (kX10_dry_0 12 rfl) rfl (by unfold inR; omega) ?_
      refine s_callV (As := [(0, 2)]) (o := 0) (S := []) (S2 := fun z => [(0, z)]) (pc' := 30) (kX10_dry_0 13 rfl) rfl rfl nkX10_refuse mlX10_110 imX10_refuse rfl slX10_refuse rfl (Nat.le_of_ble_eq_true rfl) (Nat.le_of_ble_eq_true rfl) (kz0 Ln) h (fun z => rfl) (fun r8 φ8 α8 h => ?_)
      exact s_iret (kX10_dry_0 14 rfl) rfl h
theorem vX10_liveDay_0 {d : Nat} {φ : aF} {α : aA} {Q : Int → aF → aA → Prop} {x1 : Int} (h : (eX9_passDay d 29 φ α (fun r1 φ1 α1 =>
   inR (x1 + r1) ∧ (eX9_countFull d 29 φ1 α1 (fun r3 φ3 α3 =>
   (eX7_keepDay d 29 (φ 7 0 29) (x1 + r1) r3 φ3 α3 (fun r4 φ4 α4 =>
   (Q r1 φ4 α4)))))))) : eX10_liveDay (d + 1) x1 φ α Q := by
  intro Ln
  refine r_aload_n (pc' := 1) (kX10_liveDay_0 0 rfl) rfl rfl ?_
  refine s_getr (v := 29) (pc' := 4) (kX10_liveDay_0 1 rfl) rfl fkX10_40 rfl rfl (kz0 Ln) rfl (by decide) ?_
  refine s_get (x := (φ 7 0 29)) (pc' := 7) (kX10_liveDay_0 2 rfl) rfl fkX10_153 rfl rfl rfl (kz29 Ln) rfl ?_
  refine r_istore_n (L' := [(2, 0), (0, x1), (0, (φ 7 0 29)), (9, 0)]) (pc' := 8) (kX10_liveDay_0 3 rfl) rfl (Nat.le_of_ble_eq_true rfl) rfl ?_
  refine r_aload_n (pc' := 9) (kX10_liveDay_0 4 rfl) rfl rfl ?_
  refine s_getr (v := 190) (pc' := 12) (kX10_liveDay_0 5 rfl) rfl fkX10_77 rfl rfl (kz0 Ln) rfl (by decide) ?_
  refine r_aload_n (pc' := 13) (kX10_liveDay_0 6 rfl) rfl rfl ?_
  refine s_getr (v := 29) (pc' := 16) (kX10_liveDay_0 7 rfl) rfl fkX10_40 rfl rfl (kz0 Ln) rfl (by decide) ?_
  refine s_callV (As := [(2, 29)]) (o := 190) (S := []) (S2 := fun z => [(0, z)]) (pc' := 19) (kX10_liveDay_0 8 rfl) rfl rfl nkX9_passDay mlX10_249 imX9_passDay rfl slX9_passDay rfl (Nat.le_of_ble_eq_true rfl) (Nat.le_of_ble_eq_true rfl) (kz190 Ln) h (fun z => rfl) (fun r1 φ1 α1 h => ?_)
  refine r_istore_n (L' := [(2, 0), (0, x1), (0, (φ 7 0 29)), (0, r1)]) (pc' := 20) (kX10_liveDay_0 9 rfl) rfl (Nat.le_of_ble_eq_true rfl) rfl ?_
  refine r_aload_n (pc' := 21) (kX10_liveDay_0 10 rfl) rfl rfl ?_
  refine s_getr (v := 29) (pc' := 24) (kX10_liveDay_0 11 rfl) rfl fkX10_40 rfl rfl (kz0 Ln) rfl (by decide) ?_
  refine r_iload_n (pc' := 25) (kX10_liveDay_0 12 rfl) rfl rfl ?_
  refine r_iload_n (pc' := 26) (kX10_liveDay_0 13 rfl) rfl rfl ?_
  refine r_iload_n (pc' := 27) (kX10_liveDay_0 14 rfl) rfl rfl ?_
  have g2 := h.1
  have h := h.2
  refine r_iadd (pc' := 28) (kX10_liveDay_0 15 rfl) rfl g2 ?_
  refine r_aload_n (pc' := 29) (kX10_liveDay_0 16 rfl) rfl rfl ?_
  refine s_getr (v := 190) (pc' := 32) (kX10_liveDay_0 17 rfl) rfl fkX10_77 rfl rfl (kz0 Ln) rfl (by decide) ?_
  refine r_aload_n (pc' := 33) (kX10_liveDay_0 18 rfl) rfl rfl ?_
  refine s_getr (v := 29) (pc' := 36) (kX10_liveDay_0 19 rfl) rfl fkX10_40 rfl rfl (kz0 Ln) rfl (by decide) ?_
  refine s_callV (As := [(2, 29)]) (o := 190) (S := [(0, (x1 + r1)), (0, (φ 7 0 29)), (2, 29)]) (S2 := fun z => [(0, z), (0, (x1 + r1)), (0, (φ 7 0 29)), (2, 29)]) (pc' := 39) (kX10_liveDay_0 20 rfl) rfl rfl nkX9_countFull mlX10_166 imX9_countFull rfl slX9_countFull rfl (Nat.le_of_ble_eq_true rfl) (Nat.le_of_ble_eq_true rfl) (kz190 Ln) h (fun z => rfl) (fun r3 φ3 α3 h => ?_)
  refine s_callV (As := [(0, (φ 7 0 29)), (0, (x1 + r1)), (0, r3)]) (o := 29) (S := []) (S2 := fun z => []) (pc' := 42) (kX10_liveDay_0 21 rfl) rfl rfl nkX7_keepDay mlX10_378 imX7_keepDay rfl slX7_keepDay rfl (Nat.le_of_ble_eq_true rfl) (Nat.le_of_ble_eq_true rfl) (kz29 Ln) h (fun z => rfl) (fun r4 φ4 α4 h => ?_)
  refine r_iload_n (pc' := 43) (kX10_liveDay_0 22 rfl) rfl rfl ?_
  exact s_iret (kX10_liveDay_0 23 rfl) rfl h
theorem vX10_tryHands_0 {d : Nat} {φ : aF} {α : aA} {Q : Int → aF → aA → Prop} (h : (eX10_draw d 100 φ α (fun r1 φ1 α1 =>
   (((φ1 2 5 9) ≤ r1 →
   (Q (-1) φ1 α1)) ∧
   (¬ ((φ1 2 5 9) ≤ r1) →
   ((2 ≤ (φ1 2 4 9) →
     (eX10_draw d (φ1 2 4 9) φ1 α1 (fun r4 φ4 α4 =>
       inR ((φ4 2 4 9) - 1) ∧ (eX10_draw d ((φ4 2 4 9) - 1) φ4 α4 (fun r6 φ6 α6 =>
       ((r6 < r4 →
       (eX9_shake d 29 r4 r6 φ6 α6 (fun r8 φ8 α8 =>
         (Q r8 φ8 α8)))) ∧
       (¬ (r6 < r4) →
       inR (r6 + 1) ∧ (eX9_shake d 29 r4 (r6 + 1) φ6 α6 (fun r10 φ10 α10 =>
         (Q r10 φ10 α10)))))))))) ∧
     (¬ (2 ≤ (φ1 2 4 9)) →
     (Q (-1) φ1 α1)))))))) : eX10_tryHands (d + 1)  φ α Q := by
  intro Ln
  refine r_aload_n (pc' := 1) (kX10_tryHands_0 0 rfl) rfl rfl ?_
  refine r_bipush 100 (pc' := 3) (kX10_tryHands_0 1 rfl) rfl ⟨by unfold inR; omega, rfl⟩ ?_
  refine s_callV (As := [(0, 100)]) (o := 0) (S := []) (S2 := fun z => [(0, z)]) (pc' := 6) (kX10_tryHands_0 2 rfl) rfl rfl nkX10_draw mlX10_381 imX10_draw rfl slX10_draw rfl (Nat.le_of_ble_eq_true rfl) (Nat.le_of_ble_eq_true rfl) (kz0 Ln) h (fun z => rfl) (fun r1 φ1 α1 h => ?_)
  refine r_aload_n (pc' := 7) (kX10_tryHands_0 3 rfl) rfl rfl ?_
  refine s_getr (v := 9) (pc' := 10) (kX10_tryHands_0 4 rfl) rfl fkX10_30 rfl rfl (kz0 Ln) rfl (by decide) ?_
  refine s_get (x := (φ1 2 5 9)) (pc' := 13) (kX10_tryHands_0 5 rfl) rfl fkX10_384 rfl rfl rfl (kz9 Ln) rfl ?_
  refine r_icmp_ge (t := 27) (pc' := 16) (kX10_tryHands_0 6 rfl) rfl rfl (fun c2 => ?_) (fun c2 => ?_)
  · have h := h.1 c2
    refine r_iconst (-1) (pc' := 28) (kX10_tryHands_0 12 rfl) rfl (by unfold inR; omega) ?_
    exact s_iret (kX10_tryHands_0 13 rfl) rfl h
  · have h := h.2 c2
    refine r_aload_n (pc' := 17) (kX10_tryHands_0 7 rfl) rfl rfl ?_
    refine s_getr (v := 9) (pc' := 20) (kX10_tryHands_0 8 rfl) rfl fkX10_30 rfl rfl (kz0 Ln) rfl (by decide) ?_
    refine s_get (x := (φ1 2 4 9)) (pc' := 23) (kX10_tryHands_0 9 rfl) rfl fkX10_150 rfl rfl rfl (kz9 Ln) rfl ?_
    refine r_iconst 2 (pc' := 24) (kX10_tryHands_0 10 rfl) rfl (by unfold inR; omega) ?_
    refine r_icmp_ge (t := 29) (pc' := 27) (kX10_tryHands_0 11 rfl) rfl rfl (fun c3 => ?_) (fun c3 => ?_)
    · have h := h.1 c3
      refine r_aload_n (pc' := 30) (kX10_tryHands_0 14 rfl) rfl rfl ?_
      refine r_aload_n (pc' := 31) (kX10_tryHands_0 15 rfl) rfl rfl ?_
      refine s_getr (v := 9) (pc' := 34) (kX10_tryHands_0 16 rfl) rfl fkX10_30 rfl rfl (kz0 Ln) rfl (by decide) ?_
      refine s_get (x := (φ1 2 4 9)) (pc' := 37) (kX10_tryHands_0 17 rfl) rfl fkX10_150 rfl rfl rfl (kz9 Ln) rfl ?_
      refine s_callV (As := [(0, (φ1 2 4 9))]) (o := 0) (S := []) (S2 := fun z => [(0, z)]) (pc' := 40) (kX10_tryHands_0 18 rfl) rfl rfl nkX10_draw mlX10_381 imX10_draw rfl slX10_draw rfl (Nat.le_of_ble_eq_true rfl) (Nat.le_of_ble_eq_true rfl) (kz0 Ln) h (fun z => rfl) (fun r4 φ4 α4 h => ?_)
      refine r_istore_n (L' := [(2, 0), (0, r4), (9, 0)]) (pc' := 41) (kX10_tryHands_0 19 rfl) rfl (Nat.le_of_ble_eq_true rfl) rfl ?_
      refine r_aload_n (pc' := 42) (kX10_tryHands_0 20 rfl) rfl rfl ?_
      refine r_aload_n (pc' := 43) (kX10_tryHands_0 21 rfl) rfl rfl ?_
      refine s_getr (v := 9) (pc' := 46) (kX10_tryHands_0 22 rfl) rfl fkX10_30 rfl rfl (kz0 Ln) rfl (by decide) ?_
      refine s_get (x := (φ4 2 4 9)) (pc' := 49) (kX10_tryHands_0 23 rfl) rfl fkX10_150 rfl rfl rfl (kz9 Ln) rfl ?_
      refine r_iconst 1 (pc' := 50) (kX10_tryHands_0 24 rfl) rfl (by unfold inR; omega) ?_
      have g5 := h.1
      have h := h.2
      refine r_isub (pc' := 51) (kX10_tryHands_0 25 rfl) rfl g5 ?_
      refine s_callV (As := [(0, ((φ4 2 4 9) - 1))]) (o := 0) (S := []) (S2 := fun z => [(0, z)]) (pc' := 54) (kX10_tryHands_0 26 rfl) rfl rfl nkX10_draw mlX10_381 imX10_draw rfl slX10_draw rfl (Nat.le_of_ble_eq_true rfl) (Nat.le_of_ble_eq_true rfl) (kz0 Ln) h (fun z => rfl) (fun r6 φ6 α6 h => ?_)
      refine r_istore_n (L' := [(2, 0), (0, r4), (0, r6)]) (pc' := 55) (kX10_tryHands_0 27 rfl) rfl (Nat.le_of_ble_eq_true rfl) rfl ?_
      refine r_iload_n (pc' := 56) (kX10_tryHands_0 28 rfl) rfl rfl ?_
      refine r_iload_n (pc' := 57) (kX10_tryHands_0 29 rfl) rfl rfl ?_
      refine r_icmp_lt (t := 63) (pc' := 60) (kX10_tryHands_0 30 rfl) rfl rfl (fun c7 => ?_) (fun c7 => ?_)
      · have h := h.1 c7
        refine r_aload_n (pc' := 64) (kX10_tryHands_0 32 rfl) rfl rfl ?_
        refine s_getr (v := 190) (pc' := 67) (kX10_tryHands_0 33 rfl) rfl fkX10_77 rfl rfl (kz0 Ln) rfl (by decide) ?_
        refine r_aload_n (pc' := 68) (kX10_tryHands_0 34 rfl) rfl rfl ?_
        refine s_getr (v := 29) (pc' := 71) (kX10_tryHands_0 35 rfl) rfl fkX10_40 rfl rfl (kz0 Ln) rfl (by decide) ?_
        refine r_iload_n (pc' := 72) (kX10_tryHands_0 36 rfl) rfl rfl ?_
        refine r_iload_n (pc' := 73) (kX10_tryHands_0 37 rfl) rfl rfl ?_
        refine s_callV (As := [(2, 29), (0, r4), (0, r6)]) (o := 190) (S := []) (S2 := fun z => [(0, z)]) (pc' := 76) (kX10_tryHands_0 38 rfl) rfl rfl nkX9_shake mlX10_387 imX9_shake rfl slX9_shake rfl (Nat.le_of_ble_eq_true rfl) (Nat.le_of_ble_eq_true rfl) (kz190 Ln) h (fun z => rfl) (fun r8 φ8 α8 h => ?_)
        exact s_iret (kX10_tryHands_0 39 rfl) rfl h
      · have h := h.2 c7
        have g9 := h.1
        have h := h.2
        refine r_iinc (L' := [(2, 0), (0, r4), (0, (r6 + 1))]) (pc' := 63) (kX10_tryHands_0 31 rfl) rfl (Nat.le_of_ble_eq_true rfl) rfl g9 rfl ?_
        refine r_aload_n (pc' := 64) (kX10_tryHands_0 32 rfl) rfl rfl ?_
        refine s_getr (v := 190) (pc' := 67) (kX10_tryHands_0 33 rfl) rfl fkX10_77 rfl rfl (kz0 Ln) rfl (by decide) ?_
        refine r_aload_n (pc' := 68) (kX10_tryHands_0 34 rfl) rfl rfl ?_
        refine s_getr (v := 29) (pc' := 71) (kX10_tryHands_0 35 rfl) rfl fkX10_40 rfl rfl (kz0 Ln) rfl (by decide) ?_
        refine r_iload_n (pc' := 72) (kX10_tryHands_0 36 rfl) rfl rfl ?_
        refine r_iload_n (pc' := 73) (kX10_tryHands_0 37 rfl) rfl rfl ?_
        refine s_callV (As := [(2, 29), (0, r4), (0, (r6 + 1))]) (o := 190) (S := []) (S2 := fun z => [(0, z)]) (pc' := 76) (kX10_tryHands_0 38 rfl) rfl rfl nkX9_shake mlX10_387 imX9_shake rfl slX9_shake rfl (Nat.le_of_ble_eq_true rfl) (Nat.le_of_ble_eq_true rfl) (kz190 Ln) h (fun z => rfl) (fun r10 φ10 α10 h => ?_)
        exact s_iret (kX10_tryHands_0 39 rfl) rfl h
    · have h := h.2 c3
      refine r_iconst (-1) (pc' := 28) (kX10_tryHands_0 12 rfl) rfl (by unfold inR; omega) ?_
      exact s_iret (kX10_tryHands_0 13 rfl) rfl h
theorem vX10_draw_0 {d : Nat} {φ : aF} {α : aA} {Q : Int → aF → aA → Prop} {x1 : Int} (h : inJ (1103515245 * (φ 10 15 0)) ∧ inJ ((1103515245 * (φ 10 15 0)) + 12345) ∧ inR (jAnd ((1103515245 * (φ 10 15 0)) + 12345) 2147483647) ∧ ((x1 ≤ 0 →
   (Q 0 (upf φ 10 15 0 (jAnd ((1103515245 * (φ 10 15 0)) + 12345) 2147483647)) α)) ∧
   (¬ (x1 ≤ 0) →
   inR (Int.tdiv (jAnd ((1103515245 * (φ 10 15 0)) + 12345) 2147483647) 64) ∧ (x1 ≠ 0 ∧ inR (Int.tmod (Int.tdiv (jAnd ((1103515245 * (φ 10 15 0)) + 12345) 2147483647) 64) x1)) ∧ (Q (Int.tmod (Int.tdiv (jAnd ((1103515245 * (φ 10 15 0)) + 12345) 2147483647) 64) x1) (upf φ 10 15 0 (jAnd ((1103515245 * (φ 10 15 0)) + 12345) 2147483647)) α)))) : eX10_draw d x1 φ α Q := by
  intro Ln
  refine r_aload_n (pc' := 1) (kX10_draw_0 0 rfl) rfl rfl ?_
  refine r_ldc2 1103515245 (pc' := 4) (kX10_draw_0 1 rfl) rfl kcX10_391 (by unfold inJ; omega) ?_
  refine r_aload_n (pc' := 5) (kX10_draw_0 2 rfl) rfl rfl ?_
  refine s_get (x := (φ 10 15 0)) (pc' := 8) (kX10_draw_0 3 rfl) rfl fkX10_103 rfl rfl rfl (kz0 Ln) rfl ?_
  refine r_i2l (pc' := 9) (kX10_draw_0 4 rfl) rfl ?_
  have g1 := h.1
  have h := h.2
  refine r_lmul (pc' := 10) (kX10_draw_0 5 rfl) rfl g1 ?_
  refine r_ldc2 12345 (pc' := 13) (kX10_draw_0 6 rfl) rfl kcX10_393 (by unfold inJ; omega) ?_
  have g2 := h.1
  have h := h.2
  refine r_ladd (pc' := 14) (kX10_draw_0 7 rfl) rfl g2 ?_
  refine r_ldc2 2147483647 (pc' := 17) (kX10_draw_0 8 rfl) rfl kcX10_395 (by unfold inJ; omega) ?_
  refine r_land (pc' := 18) (kX10_draw_0 9 rfl) rfl ?_
  have g3 := h.1
  have h := h.2
  refine r_l2i (pc' := 19) (kX10_draw_0 10 rfl) rfl g3 ?_
  refine s_put (pc' := 22) (kX10_draw_0 11 rfl) rfl fkX10_103 fnX10_15 rfl pk_int (kz0 Ln) ?_
  refine r_iload_n (pc' := 23) (kX10_draw_0 12 rfl) rfl rfl ?_
  refine r_if_le (t := 38) (pc' := 26) (kX10_draw_0 13 rfl) rfl rfl (fun c4 => ?_) (fun c4 => ?_)
  · have h := h.1 c4
    refine r_iconst 0 (pc' := 39) (kX10_draw_0 21 rfl) rfl (by unfold inR; omega) ?_
    exact s_iret (kX10_draw_0 22 rfl) rfl h
  · have h := h.2 c4
    refine r_aload_n (pc' := 27) (kX10_draw_0 14 rfl) rfl rfl ?_
    refine s_get (x := (jAnd ((1103515245 * (φ 10 15 0)) + 12345) 2147483647)) (pc' := 30) (kX10_draw_0 15 rfl) rfl fkX10_103 rfl rfl rfl (kz0 Ln) (by simp [upf]) ?_
    refine r_bipush 64 (pc' := 32) (kX10_draw_0 16 rfl) rfl ⟨by unfold inR; omega, rfl⟩ ?_
    have g5 := h.1
    have h := h.2
    refine r_idiv (pc' := 33) (kX10_draw_0 17 rfl) rfl ⟨by decide, g5⟩ ?_
    refine r_iload_n (pc' := 34) (kX10_draw_0 18 rfl) rfl rfl ?_
    have g6 := h.1
    have h := h.2
    refine r_irem (pc' := 35) (kX10_draw_0 19 rfl) rfl g6 ?_
    refine r_goto (pc' := 39) (kX10_draw_0 20 rfl) rfl ?_
    exact s_iret (kX10_draw_0 22 rfl) rfl h
abbrev jX10_countHolding_10 (d : Nat) (x1 x2 x3 x4 x5 : Int) (φ : aF) (α : aA) (Q : Int → aF → aA → Prop) : Prop := R0 d mX10_countHolding 10 [(2, 0), (0, x1), (0, x2), (0, x3), (0, x4), (0, x5)] [] φ α Q
theorem vX10_countHolding_0 {d : Nat} {φ : aF} {α : aA} {Q : Int → aF → aA → Prop} {x1 : Int} (h : (jX10_countHolding_10 (d + 1) x1 0 (-1) (-1) 0 φ α Q)) : eX10_countHolding (d + 1) x1 φ α Q := by
  intro Ln
  refine r_iconst 0 (pc' := 1) (kX10_countHolding_0 0 rfl) rfl (by unfold inR; omega) ?_
  refine r_istore_n (L' := [(2, 0), (0, x1), (0, 0), (9, 0), (9, 0), (9, 0)]) (pc' := 2) (kX10_countHolding_0 1 rfl) rfl (Nat.le_of_ble_eq_true rfl) rfl ?_
  refine r_iconst (-1) (pc' := 3) (kX10_countHolding_0 2 rfl) rfl (by unfold inR; omega) ?_
  refine r_istore_n (L' := [(2, 0), (0, x1), (0, 0), (0, (-1)), (9, 0), (9, 0)]) (pc' := 4) (kX10_countHolding_0 3 rfl) rfl (Nat.le_of_ble_eq_true rfl) rfl ?_
  refine r_iconst (-1) (pc' := 5) (kX10_countHolding_0 4 rfl) rfl (by unfold inR; omega) ?_
  refine r_istore (L' := [(2, 0), (0, x1), (0, 0), (0, (-1)), (0, (-1)), (9, 0)]) (pc' := 7) (kX10_countHolding_0 5 rfl) rfl (Nat.le_of_ble_eq_true rfl) rfl ?_
  refine r_iconst 0 (pc' := 8) (kX10_countHolding_0 6 rfl) rfl (by unfold inR; omega) ?_
  refine r_istore (L' := [(2, 0), (0, x1), (0, 0), (0, (-1)), (0, (-1)), (0, 0)]) (pc' := 10) (kX10_countHolding_0 7 rfl) rfl (Nat.le_of_ble_eq_true rfl) rfl ?_
  exact r_weak (L' := [(2, 0), (0, x1), (0, 0), (0, (-1)), (0, (-1)), (0, 0)]) ⟨Or.inl rfl, Or.inl rfl, Or.inl rfl, Or.inl rfl, Or.inl rfl, Or.inl rfl, trivial⟩ (h Ln)
theorem vX10_countHolding_10 {d : Nat} {φ : aF} {α : aA} {Q : Int → aF → aA → Prop} {x1 : Int} {x2 : Int} {x3 : Int} {x4 : Int} {x5 : Int} (h : (((φ 2 4 9) ≤ x5 →
   ((¬ x1 = 26 →
     ((¬ x1 = 24 →
       (Q x4 φ α)) ∧
       (x1 = 24 →
       (Q x3 φ α)))) ∧
     (x1 = 26 →
     (Q x2 φ α)))) ∧
   (¬ ((φ 2 4 9) ≤ x5) →
   (eX7_mindOf d 29 x5 φ α (fun r4 φ4 α4 =>
     (eX1_worth d 7 29 x5 x5 r4 φ4 α4 (fun r5 φ5 α5 =>
     ((r5 = 0 →
     inR (x5 + 1) ∧ (jX10_countHolding_10 (d + 1) x1 x2 x3 x4 (x5 + 1) φ5 α5 Q)) ∧
     (¬ (r5 = 0) →
     inR (x2 + 1) ∧ ((0 ≤ x3 →
       inR (x5 + 1) ∧ (jX10_countHolding_10 (d + 1) x1 (x2 + 1) x3 x5 (x5 + 1) φ5 α5 Q)) ∧
       (¬ (0 ≤ x3) →
       inR (x5 + 1) ∧ (jX10_countHolding_10 (d + 1) x1 (x2 + 1) x5 x5 (x5 + 1) φ5 α5 Q)))))))))))) : jX10_countHolding_10 (d + 1) x1 x2 x3 x4 x5 φ α Q := by
  intro Ln
  refine r_iload (pc' := 12) (kX10_countHolding_0 8 rfl) rfl rfl ?_
  refine r_aload_n (pc' := 13) (kX10_countHolding_0 9 rfl) rfl rfl ?_
  refine s_getr (v := 9) (pc' := 16) (kX10_countHolding_0 10 rfl) rfl fkX10_30 rfl rfl (kz0 Ln) rfl (by decide) ?_
  refine s_get (x := (φ 2 4 9)) (pc' := 19) (kX10_countHolding_0 11 rfl) rfl fkX10_150 rfl rfl rfl (kz9 Ln) rfl ?_
  refine r_icmp_ge (t := 77) (pc' := 22) (kX10_countHolding_0 12 rfl) rfl rfl (fun c1 => ?_) (fun c1 => ?_)
  · have h := h.1 c1
    refine r_iload_n (pc' := 78) (kX10_countHolding_0 38 rfl) rfl rfl ?_
    refine r_bipush 26 (pc' := 80) (kX10_countHolding_0 39 rfl) rfl ⟨by unfold inR; omega, rfl⟩ ?_
    refine r_icmp_ne (t := 86) (pc' := 83) (kX10_countHolding_0 40 rfl) rfl rfl (fun c2 => ?_) (fun c2 => ?_)
    · have h := h.1 c2
      refine r_iload_n (pc' := 87) (kX10_countHolding_0 44 rfl) rfl rfl ?_
      refine r_bipush 24 (pc' := 89) (kX10_countHolding_0 45 rfl) rfl ⟨by unfold inR; omega, rfl⟩ ?_
      refine r_icmp_ne (t := 97) (pc' := 92) (kX10_countHolding_0 46 rfl) rfl rfl (fun c3 => ?_) (fun c3 => ?_)
      · have h := h.1 c3
        refine r_iload (pc' := 99) (kX10_countHolding_0 50 rfl) rfl rfl ?_
        refine r_i2l (pc' := 100) (kX10_countHolding_0 51 rfl) rfl ?_
        exact s_lret (kX10_countHolding_0 52 rfl) rfl h
      · have h := h.2 c3
        refine r_iload_n (pc' := 93) (kX10_countHolding_0 47 rfl) rfl rfl ?_
        refine r_i2l (pc' := 94) (kX10_countHolding_0 48 rfl) rfl ?_
        refine r_goto (pc' := 100) (kX10_countHolding_0 49 rfl) rfl ?_
        exact s_lret (kX10_countHolding_0 52 rfl) rfl h
    · have h := h.2 c2
      refine r_iload_n (pc' := 84) (kX10_countHolding_0 41 rfl) rfl rfl ?_
      refine r_i2l (pc' := 85) (kX10_countHolding_0 42 rfl) rfl ?_
      exact s_lret (kX10_countHolding_0 43 rfl) rfl h
  · have h := h.2 c1
    refine r_aload_n (pc' := 23) (kX10_countHolding_0 13 rfl) rfl rfl ?_
    refine s_getr (v := 188) (pc' := 26) (kX10_countHolding_0 14 rfl) rfl fkX10_68 rfl rfl (kz0 Ln) rfl (by decide) ?_
    refine r_aload_n (pc' := 27) (kX10_countHolding_0 15 rfl) rfl rfl ?_
    refine s_getr (v := 7) (pc' := 30) (kX10_countHolding_0 16 rfl) rfl fkX10_24 rfl rfl (kz0 Ln) rfl (by decide) ?_
    refine r_aload_n (pc' := 31) (kX10_countHolding_0 17 rfl) rfl rfl ?_
    refine s_getr (v := 29) (pc' := 34) (kX10_countHolding_0 18 rfl) rfl fkX10_40 rfl rfl (kz0 Ln) rfl (by decide) ?_
    refine r_iload (pc' := 36) (kX10_countHolding_0 19 rfl) rfl rfl ?_
    refine r_iload (pc' := 38) (kX10_countHolding_0 20 rfl) rfl rfl ?_
    refine r_aload_n (pc' := 39) (kX10_countHolding_0 21 rfl) rfl rfl ?_
    refine s_getr (v := 29) (pc' := 42) (kX10_countHolding_0 22 rfl) rfl fkX10_40 rfl rfl (kz0 Ln) rfl (by decide) ?_
    refine r_iload (pc' := 44) (kX10_countHolding_0 23 rfl) rfl rfl ?_
    refine s_callV (As := [(0, x5)]) (o := 29) (S := [(0, x5), (0, x5), (2, 29), (2, 7), (2, 188)]) (S2 := fun z => [(0, z), (0, x5), (0, x5), (2, 29), (2, 7), (2, 188)]) (pc' := 47) (kX10_countHolding_0 24 rfl) rfl rfl nkX7_mindOf mlX10_205 imX7_mindOf rfl slX7_mindOf rfl (Nat.le_of_ble_eq_true rfl) (Nat.le_of_ble_eq_true rfl) (kz29 Ln) h (fun z => rfl) (fun r4 φ4 α4 h => ?_)
    refine s_callV (As := [(2, 7), (2, 29), (0, x5), (0, x5), (0, r4)]) (o := 188) (S := []) (S2 := fun z => [(0, z)]) (pc' := 50) (kX10_countHolding_0 25 rfl) rfl rfl nkX1_worth mlX10_397 imX1_worth rfl slX1_worth rfl (Nat.le_of_ble_eq_true rfl) (Nat.le_of_ble_eq_true rfl) (kz188 Ln) h (fun z => rfl) (fun r5 φ5 α5 h => ?_)
    refine r_if_eq (t := 71) (pc' := 53) (kX10_countHolding_0 26 rfl) rfl rfl (fun c6 => ?_) (fun c6 => ?_)
    · have h := h.1 c6
      have g7 := h.1
      have h := h.2
      refine r_iinc (L' := [(2, 0), (0, x1), (0, x2), (0, x3), (0, x4), (0, (x5 + 1))]) (pc' := 74) (kX10_countHolding_0 36 rfl) rfl (Nat.le_of_ble_eq_true rfl) rfl g7 rfl ?_
      refine r_goto (pc' := 10) (kX10_countHolding_0 37 rfl) rfl ?_
      exact r_weak (L' := [(2, 0), (0, x1), (0, x2), (0, x3), (0, x4), (0, (x5 + 1))]) ⟨Or.inl rfl, Or.inl rfl, Or.inl rfl, Or.inl rfl, Or.inl rfl, Or.inl rfl, trivial⟩ (h Ln)
    · have h := h.2 c6
      have g8 := h.1
      have h := h.2
      refine r_iinc (L' := [(2, 0), (0, x1), (0, (x2 + 1)), (0, x3), (0, x4), (0, x5)]) (pc' := 56) (kX10_countHolding_0 27 rfl) rfl (Nat.le_of_ble_eq_true rfl) rfl g8 rfl ?_
      refine r_iload_n (pc' := 57) (kX10_countHolding_0 28 rfl) rfl rfl ?_
      refine r_if_ge (t := 65) (pc' := 60) (kX10_countHolding_0 29 rfl) rfl rfl (fun c9 => ?_) (fun c9 => ?_)
      · have h := h.1 c9
        refine r_iload_n (pc' := 66) (kX10_countHolding_0 32 rfl) rfl rfl ?_
        refine r_istore_n (L' := [(2, 0), (0, x1), (0, (x2 + 1)), (0, x3), (0, x4), (0, x5)]) (pc' := 67) (kX10_countHolding_0 33 rfl) rfl (Nat.le_of_ble_eq_true rfl) rfl ?_
        refine r_iload (pc' := 69) (kX10_countHolding_0 34 rfl) rfl rfl ?_
        refine r_istore (L' := [(2, 0), (0, x1), (0, (x2 + 1)), (0, x3), (0, x5), (0, x5)]) (pc' := 71) (kX10_countHolding_0 35 rfl) rfl (Nat.le_of_ble_eq_true rfl) rfl ?_
        have g10 := h.1
        have h := h.2
        refine r_iinc (L' := [(2, 0), (0, x1), (0, (x2 + 1)), (0, x3), (0, x5), (0, (x5 + 1))]) (pc' := 74) (kX10_countHolding_0 36 rfl) rfl (Nat.le_of_ble_eq_true rfl) rfl g10 rfl ?_
        refine r_goto (pc' := 10) (kX10_countHolding_0 37 rfl) rfl ?_
        exact r_weak (L' := [(2, 0), (0, x1), (0, (x2 + 1)), (0, x3), (0, x5), (0, (x5 + 1))]) ⟨Or.inl rfl, Or.inl rfl, Or.inl rfl, Or.inl rfl, Or.inl rfl, Or.inl rfl, trivial⟩ (h Ln)
      · have h := h.2 c9
        refine r_iload (pc' := 62) (kX10_countHolding_0 30 rfl) rfl rfl ?_
        refine r_goto (pc' := 66) (kX10_countHolding_0 31 rfl) rfl ?_
        refine r_istore_n (L' := [(2, 0), (0, x1), (0, (x2 + 1)), (0, x5), (0, x4), (0, x5)]) (pc' := 67) (kX10_countHolding_0 33 rfl) rfl (Nat.le_of_ble_eq_true rfl) rfl ?_
        refine r_iload (pc' := 69) (kX10_countHolding_0 34 rfl) rfl rfl ?_
        refine r_istore (L' := [(2, 0), (0, x1), (0, (x2 + 1)), (0, x5), (0, x5), (0, x5)]) (pc' := 71) (kX10_countHolding_0 35 rfl) rfl (Nat.le_of_ble_eq_true rfl) rfl ?_
        have g11 := h.1
        have h := h.2
        refine r_iinc (L' := [(2, 0), (0, x1), (0, (x2 + 1)), (0, x5), (0, x5), (0, (x5 + 1))]) (pc' := 74) (kX10_countHolding_0 36 rfl) rfl (Nat.le_of_ble_eq_true rfl) rfl g11 rfl ?_
        refine r_goto (pc' := 10) (kX10_countHolding_0 37 rfl) rfl ?_
        exact r_weak (L' := [(2, 0), (0, x1), (0, (x2 + 1)), (0, x5), (0, x5), (0, (x5 + 1))]) ⟨Or.inl rfl, Or.inl rfl, Or.inl rfl, Or.inl rfl, Or.inl rfl, Or.inl rfl, trivial⟩ (h Ln)
abbrev jX10_gatherSums_5 (d : Nat) (x1 x2 x4 : Int) (φ : aF) (α : aA) (Q : Int → aF → aA → Prop) : Prop := R0 d mX10_gatherSums 5 [(2, 0), (0, x1), (1, x2), (8, 0), (0, x4), (9, 0)] [] φ α Q
theorem vX10_gatherSums_0 {d : Nat} {φ : aF} {α : aA} {Q : Int → aF → aA → Prop} {x1 : Int} (h : (jX10_gatherSums_5 (d + 1) x1 0 0 φ α Q)) : eX10_gatherSums (d + 1) x1 φ α Q := by
  intro Ln
  refine r_lconst 0 (pc' := 1) (kX10_gatherSums_0 0 rfl) rfl ⟨by unfold inJ; omega, rfl⟩ ?_
  refine r_lstore_n (L' := [(2, 0), (0, x1), (1, 0), (8, 0), (9, 0), (9, 0)]) (pc' := 2) (kX10_gatherSums_0 1 rfl) rfl (Nat.le_of_ble_eq_true rfl) rfl ?_
  refine r_iconst 0 (pc' := 3) (kX10_gatherSums_0 2 rfl) rfl (by unfold inR; omega) ?_
  refine r_istore (L' := [(2, 0), (0, x1), (1, 0), (8, 0), (0, 0), (9, 0)]) (pc' := 5) (kX10_gatherSums_0 3 rfl) rfl (Nat.le_of_ble_eq_true rfl) rfl ?_
  exact r_weak (L' := [(2, 0), (0, x1), (1, 0), (8, 0), (0, 0), (9, 0)]) ⟨Or.inl rfl, Or.inl rfl, Or.inl rfl, Or.inr (by decide), Or.inl rfl, Or.inr (by decide), trivial⟩ (h Ln)
theorem vX10_gatherSums_5 {d : Nat} {φ : aF} {α : aA} {Q : Int → aF → aA → Prop} {x1 : Int} {x2 : Int} {x4 : Int} (h : (((φ 2 4 9) ≤ x4 →
   (Q x2 φ α)) ∧
   (¬ ((φ 2 4 9) ≤ x4) →
   (eX7_mindOf d 29 x4 φ α (fun r2 φ2 α2 =>
     (eX1_worth d 7 29 x4 x4 r2 φ2 α2 (fun r3 φ3 α3 =>
     ((¬ x4 = 0 →
     ((¬ x1 = 27 →
       ((¬ x1 = 28 →
         (eJ9_min_f86c9 d x2 r3 φ3 α3 (fun r7 φ7 α7 =>
           inR (x4 + 1) ∧ (jX10_gatherSums_5 (d + 1) x1 r7 (x4 + 1) φ7 α7 Q)))) ∧
         (x1 = 28 →
         (eJ9_max_f86c9 d x2 r3 φ3 α3 (fun r9 φ9 α9 =>
           inR (x4 + 1) ∧ (jX10_gatherSums_5 (d + 1) x1 r9 (x4 + 1) φ9 α9 Q)))))) ∧
       (x1 = 27 →
       inJ (x2 + r3) ∧ inR (x4 + 1) ∧ (jX10_gatherSums_5 (d + 1) x1 (x2 + r3) (x4 + 1) φ3 α3 Q)))) ∧
     (x4 = 0 →
     inR (x4 + 1) ∧ (jX10_gatherSums_5 (d + 1) x1 r3 (x4 + 1) φ3 α3 Q)))))))))) : jX10_gatherSums_5 (d + 1) x1 x2 x4 φ α Q := by
  intro Ln
  refine r_iload (pc' := 7) (kX10_gatherSums_0 4 rfl) rfl rfl ?_
  refine r_aload_n (pc' := 8) (kX10_gatherSums_0 5 rfl) rfl rfl ?_
  refine s_getr (v := 9) (pc' := 11) (kX10_gatherSums_0 6 rfl) rfl fkX10_30 rfl rfl (kz0 Ln) rfl (by decide) ?_
  refine s_get (x := (φ 2 4 9)) (pc' := 14) (kX10_gatherSums_0 7 rfl) rfl fkX10_150 rfl rfl rfl (kz9 Ln) rfl ?_
  refine r_icmp_ge (t := 104) (pc' := 17) (kX10_gatherSums_0 8 rfl) rfl rfl (fun c1 => ?_) (fun c1 => ?_)
  · have h := h.1 c1
    refine r_lload_n (pc' := 105) (kX10_gatherSums_0 53 rfl) rfl rfl ?_
    exact s_lret (kX10_gatherSums_0 54 rfl) rfl h
  · have h := h.2 c1
    refine r_aload_n (pc' := 18) (kX10_gatherSums_0 9 rfl) rfl rfl ?_
    refine s_getr (v := 188) (pc' := 21) (kX10_gatherSums_0 10 rfl) rfl fkX10_68 rfl rfl (kz0 Ln) rfl (by decide) ?_
    refine r_aload_n (pc' := 22) (kX10_gatherSums_0 11 rfl) rfl rfl ?_
    refine s_getr (v := 7) (pc' := 25) (kX10_gatherSums_0 12 rfl) rfl fkX10_24 rfl rfl (kz0 Ln) rfl (by decide) ?_
    refine r_aload_n (pc' := 26) (kX10_gatherSums_0 13 rfl) rfl rfl ?_
    refine s_getr (v := 29) (pc' := 29) (kX10_gatherSums_0 14 rfl) rfl fkX10_40 rfl rfl (kz0 Ln) rfl (by decide) ?_
    refine r_iload (pc' := 31) (kX10_gatherSums_0 15 rfl) rfl rfl ?_
    refine r_iload (pc' := 33) (kX10_gatherSums_0 16 rfl) rfl rfl ?_
    refine r_aload_n (pc' := 34) (kX10_gatherSums_0 17 rfl) rfl rfl ?_
    refine s_getr (v := 29) (pc' := 37) (kX10_gatherSums_0 18 rfl) rfl fkX10_40 rfl rfl (kz0 Ln) rfl (by decide) ?_
    refine r_iload (pc' := 39) (kX10_gatherSums_0 19 rfl) rfl rfl ?_
    refine s_callV (As := [(0, x4)]) (o := 29) (S := [(0, x4), (0, x4), (2, 29), (2, 7), (2, 188)]) (S2 := fun z => [(0, z), (0, x4), (0, x4), (2, 29), (2, 7), (2, 188)]) (pc' := 42) (kX10_gatherSums_0 20 rfl) rfl rfl nkX7_mindOf mlX10_205 imX7_mindOf rfl slX7_mindOf rfl (Nat.le_of_ble_eq_true rfl) (Nat.le_of_ble_eq_true rfl) (kz29 Ln) h (fun z => rfl) (fun r2 φ2 α2 h => ?_)
    refine s_callV (As := [(2, 7), (2, 29), (0, x4), (0, x4), (0, r2)]) (o := 188) (S := []) (S2 := fun z => [(0, z)]) (pc' := 45) (kX10_gatherSums_0 21 rfl) rfl rfl nkX1_worth mlX10_397 imX1_worth rfl slX1_worth rfl (Nat.le_of_ble_eq_true rfl) (Nat.le_of_ble_eq_true rfl) (kz188 Ln) h (fun z => rfl) (fun r3 φ3 α3 h => ?_)
    refine r_istore (L' := [(2, 0), (0, x1), (1, x2), (8, 0), (0, x4), (0, r3)]) (pc' := 47) (kX10_gatherSums_0 22 rfl) rfl (Nat.le_of_ble_eq_true rfl) rfl ?_
    refine r_iload (pc' := 49) (kX10_gatherSums_0 23 rfl) rfl rfl ?_
    refine r_if_ne (t := 59) (pc' := 52) (kX10_gatherSums_0 24 rfl) rfl rfl (fun c4 => ?_) (fun c4 => ?_)
    · have h := h.1 c4
      refine r_iload_n (pc' := 60) (kX10_gatherSums_0 29 rfl) rfl rfl ?_
      refine r_bipush 27 (pc' := 62) (kX10_gatherSums_0 30 rfl) rfl ⟨by unfold inR; omega, rfl⟩ ?_
      refine r_icmp_ne (t := 74) (pc' := 65) (kX10_gatherSums_0 31 rfl) rfl rfl (fun c5 => ?_) (fun c5 => ?_)
      · have h := h.1 c5
        refine r_iload_n (pc' := 75) (kX10_gatherSums_0 38 rfl) rfl rfl ?_
        refine r_bipush 28 (pc' := 77) (kX10_gatherSums_0 39 rfl) rfl ⟨by unfold inR; omega, rfl⟩ ?_
        refine r_icmp_ne (t := 90) (pc' := 80) (kX10_gatherSums_0 40 rfl) rfl rfl (fun c6 => ?_) (fun c6 => ?_)
        · have h := h.1 c6
          refine r_lload_n (pc' := 91) (kX10_gatherSums_0 46 rfl) rfl rfl ?_
          refine r_iload (pc' := 93) (kX10_gatherSums_0 47 rfl) rfl rfl ?_
          refine r_i2l (pc' := 94) (kX10_gatherSums_0 48 rfl) rfl ?_
          refine s_callS (As := [(1, x2), (1, r3)]) (S := []) (S2 := fun z => [(1, z)]) (pc' := 97) (kX10_gatherSums_0 49 rfl) rfl rfl nkJ9_min_f86c9 mlX10_404 scJ9_min_f86c9 rfl (Nat.le_of_ble_eq_true rfl) (Nat.le_of_ble_eq_true rfl) h (fun z => rfl) (fun r7 φ7 α7 h => ?_)
          refine r_lstore_n (L' := [(2, 0), (0, x1), (1, r7), (8, 0), (0, x4), (0, r3)]) (pc' := 98) (kX10_gatherSums_0 50 rfl) rfl (Nat.le_of_ble_eq_true rfl) rfl ?_
          have g8 := h.1
          have h := h.2
          refine r_iinc (L' := [(2, 0), (0, x1), (1, r7), (8, 0), (0, (x4 + 1)), (0, r3)]) (pc' := 101) (kX10_gatherSums_0 51 rfl) rfl (Nat.le_of_ble_eq_true rfl) rfl g8 rfl ?_
          refine r_goto (pc' := 5) (kX10_gatherSums_0 52 rfl) rfl ?_
          exact r_weak (L' := [(2, 0), (0, x1), (1, r7), (8, 0), (0, (x4 + 1)), (9, 0)]) ⟨Or.inl rfl, Or.inl rfl, Or.inl rfl, Or.inr (by decide), Or.inl rfl, Or.inr (by decide), trivial⟩ (h Ln)
        · have h := h.2 c6
          refine r_lload_n (pc' := 81) (kX10_gatherSums_0 41 rfl) rfl rfl ?_
          refine r_iload (pc' := 83) (kX10_gatherSums_0 42 rfl) rfl rfl ?_
          refine r_i2l (pc' := 84) (kX10_gatherSums_0 43 rfl) rfl ?_
          refine s_callS (As := [(1, x2), (1, r3)]) (S := []) (S2 := fun z => [(1, z)]) (pc' := 87) (kX10_gatherSums_0 44 rfl) rfl rfl nkJ9_max_f86c9 mlX10_401 scJ9_max_f86c9 rfl (Nat.le_of_ble_eq_true rfl) (Nat.le_of_ble_eq_true rfl) h (fun z => rfl) (fun r9 φ9 α9 h => ?_)
          refine r_goto (pc' := 97) (kX10_gatherSums_0 45 rfl) rfl ?_
          refine r_lstore_n (L' := [(2, 0), (0, x1), (1, r9), (8, 0), (0, x4), (0, r3)]) (pc' := 98) (kX10_gatherSums_0 50 rfl) rfl (Nat.le_of_ble_eq_true rfl) rfl ?_
          have g10 := h.1
          have h := h.2
          refine r_iinc (L' := [(2, 0), (0, x1), (1, r9), (8, 0), (0, (x4 + 1)), (0, r3)]) (pc' := 101) (kX10_gatherSums_0 51 rfl) rfl (Nat.le_of_ble_eq_true rfl) rfl g10 rfl ?_
          refine r_goto (pc' := 5) (kX10_gatherSums_0 52 rfl) rfl ?_
          exact r_weak (L' := [(2, 0), (0, x1), (1, r9), (8, 0), (0, (x4 + 1)), (9, 0)]) ⟨Or.inl rfl, Or.inl rfl, Or.inl rfl, Or.inr (by decide), Or.inl rfl, Or.inr (by decide), trivial⟩ (h Ln)
      · have h := h.2 c5
        refine r_lload_n (pc' := 66) (kX10_gatherSums_0 32 rfl) rfl rfl ?_
        refine r_iload (pc' := 68) (kX10_gatherSums_0 33 rfl) rfl rfl ?_
        refine r_i2l (pc' := 69) (kX10_gatherSums_0 34 rfl) rfl ?_
        have g11 := h.1
        have h := h.2
        refine r_ladd (pc' := 70) (kX10_gatherSums_0 35 rfl) rfl g11 ?_
        refine r_lstore_n (L' := [(2, 0), (0, x1), (1, (x2 + r3)), (8, 0), (0, x4), (0, r3)]) (pc' := 71) (kX10_gatherSums_0 36 rfl) rfl (Nat.le_of_ble_eq_true rfl) rfl ?_
        refine r_goto (pc' := 98) (kX10_gatherSums_0 37 rfl) rfl ?_
        have g12 := h.1
        have h := h.2
        refine r_iinc (L' := [(2, 0), (0, x1), (1, (x2 + r3)), (8, 0), (0, (x4 + 1)), (0, r3)]) (pc' := 101) (kX10_gatherSums_0 51 rfl) rfl (Nat.le_of_ble_eq_true rfl) rfl g12 rfl ?_
        refine r_goto (pc' := 5) (kX10_gatherSums_0 52 rfl) rfl ?_
        exact r_weak (L' := [(2, 0), (0, x1), (1, (x2 + r3)), (8, 0), (0, (x4 + 1)), (9, 0)]) ⟨Or.inl rfl, Or.inl rfl, Or.inl rfl, Or.inr (by decide), Or.inl rfl, Or.inr (by decide), trivial⟩ (h Ln)
    · have h := h.2 c4
      refine r_iload (pc' := 54) (kX10_gatherSums_0 25 rfl) rfl rfl ?_
      refine r_i2l (pc' := 55) (kX10_gatherSums_0 26 rfl) rfl ?_
      refine r_lstore_n (L' := [(2, 0), (0, x1), (1, r3), (8, 0), (0, x4), (0, r3)]) (pc' := 56) (kX10_gatherSums_0 27 rfl) rfl (Nat.le_of_ble_eq_true rfl) rfl ?_
      refine r_goto (pc' := 98) (kX10_gatherSums_0 28 rfl) rfl ?_
      have g13 := h.1
      have h := h.2
      refine r_iinc (L' := [(2, 0), (0, x1), (1, r3), (8, 0), (0, (x4 + 1)), (0, r3)]) (pc' := 101) (kX10_gatherSums_0 51 rfl) rfl (Nat.le_of_ble_eq_true rfl) rfl g13 rfl ?_
      refine r_goto (pc' := 5) (kX10_gatherSums_0 52 rfl) rfl ?_
      exact r_weak (L' := [(2, 0), (0, x1), (1, r3), (8, 0), (0, (x4 + 1)), (9, 0)]) ⟨Or.inl rfl, Or.inl rfl, Or.inl rfl, Or.inr (by decide), Or.inl rfl, Or.inr (by decide), trivial⟩ (h Ln)
