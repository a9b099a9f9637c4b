theorem vX8_begin_0 {d : Nat} {φ : aF} {α : aA} {Q : Int → aF → aA → Prop} (h : (eX8_scan d  (upf (upf φ 8 2 186 3) 8 6 186 0) α (fun r1 φ1 α1 =>
   (Q 0 φ1 α1)))) : eX8_begin (d + 1)  φ α Q := by
  intro Ln
  refine r_aload_n (pc' := 1) (kX8_begin_0 0 rfl) rfl rfl ?_
  refine r_iconst 3 (pc' := 2) (kX8_begin_0 1 rfl) rfl (by unfold inR; omega) ?_
  refine s_put (pc' := 5) (kX8_begin_0 2 rfl) rfl fkX8_35 fnX8_2 rfl pk_int (kz186 Ln) ?_
  refine r_aload_n (pc' := 6) (kX8_begin_0 3 rfl) rfl rfl ?_
  refine r_iconst 0 (pc' := 7) (kX8_begin_0 4 rfl) rfl (by unfold inR; omega) ?_
  refine s_put (pc' := 10) (kX8_begin_0 5 rfl) rfl fkX8_39 fnX8_6 rfl pk_int (kz186 Ln) ?_
  refine r_aload_n (pc' := 11) (kX8_begin_0 6 rfl) rfl rfl ?_
  refine s_callV (As := []) (o := 186) (S := []) (S2 := fun z => []) (pc' := 14) (kX8_begin_0 7 rfl) rfl rfl nkX8_scan mlX8_42 imX8_scan rfl slX8_scan rfl (Nat.le_of_ble_eq_true rfl) (Nat.le_of_ble_eq_true rfl) (kz186 Ln) h (fun z => rfl) (fun r1 φ1 α1 h => ?_)
  exact s_vret (kX8_begin_0 8 rfl) rfl h
abbrev jX8_scan_27 (d : Nat) (x1 x2 : Int) (φ : aF) (α : aA) (Q : Int → aF → aA → Prop) : Prop := R0 d mX8_scan 27 [(2, 186), (0, x1), (0, x2)] [] φ α Q
theorem vX8_scan_0 {d : Nat} {φ : aF} {α : aA} {Q : Int → aF → aA → Prop} (h : (((φ 8 2 186) = 1 →
   (jX8_scan_27 (d + 1) (φ 8 6 186) 1 φ α Q)) ∧
   (¬ ((φ 8 2 186) = 1) →
   ((¬ (φ 8 2 186) = 2 →
     (jX8_scan_27 (d + 1) (φ 8 6 186) 0 φ α Q)) ∧
     ((φ 8 2 186) = 2 →
     (jX8_scan_27 (d + 1) (φ 8 6 186) 1 φ α Q)))))) : eX8_scan (d + 1)  φ α Q := by
  intro Ln
  refine r_aload_n (pc' := 1) (kX8_scan_0 0 rfl) rfl rfl ?_
  refine s_get (x := (φ 8 6 186)) (pc' := 4) (kX8_scan_0 1 rfl) rfl fkX8_39 rfl rfl rfl (kz186 Ln) rfl ?_
  refine r_istore_n (L' := [(2, 186), (0, (φ 8 6 186)), (9, 0)]) (pc' := 5) (kX8_scan_0 2 rfl) rfl (Nat.le_of_ble_eq_true rfl) rfl ?_
  refine r_aload_n (pc' := 6) (kX8_scan_0 3 rfl) rfl rfl ?_
  refine s_get (x := (φ 8 2 186)) (pc' := 9) (kX8_scan_0 4 rfl) rfl fkX8_35 rfl rfl rfl (kz186 Ln) rfl ?_
  refine r_iconst 1 (pc' := 10) (kX8_scan_0 5 rfl) rfl (by unfold inR; omega) ?_
  refine r_icmp_eq (t := 21) (pc' := 13) (kX8_scan_0 6 rfl) rfl rfl (fun c1 => ?_) (fun c1 => ?_)
  · have h := h.1 c1
    refine r_iconst 1 (pc' := 22) (kX8_scan_0 11 rfl) rfl (by unfold inR; omega) ?_
    refine r_goto (pc' := 26) (kX8_scan_0 12 rfl) rfl ?_
    refine r_istore_n (L' := [(2, 186), (0, (φ 8 6 186)), (0, 1)]) (pc' := 27) (kX8_scan_0 14 rfl) rfl (Nat.le_of_ble_eq_true rfl) rfl ?_
    exact r_weak (L' := [(2, 186), (0, (φ 8 6 186)), (0, 1)]) ⟨Or.inl rfl, Or.inl rfl, Or.inl rfl, trivial⟩ (h Ln)
  · have h := h.2 c1
    refine r_aload_n (pc' := 14) (kX8_scan_0 7 rfl) rfl rfl ?_
    refine s_get (x := (φ 8 2 186)) (pc' := 17) (kX8_scan_0 8 rfl) rfl fkX8_35 rfl rfl rfl (kz186 Ln) rfl ?_
    refine r_iconst 2 (pc' := 18) (kX8_scan_0 9 rfl) rfl (by unfold inR; omega) ?_
    refine r_icmp_ne (t := 25) (pc' := 21) (kX8_scan_0 10 rfl) rfl rfl (fun c2 => ?_) (fun c2 => ?_)
    · have h := h.1 c2
      refine r_iconst 0 (pc' := 26) (kX8_scan_0 13 rfl) rfl (by unfold inR; omega) ?_
      refine r_istore_n (L' := [(2, 186), (0, (φ 8 6 186)), (0, 0)]) (pc' := 27) (kX8_scan_0 14 rfl) rfl (Nat.le_of_ble_eq_true rfl) rfl ?_
      exact r_weak (L' := [(2, 186), (0, (φ 8 6 186)), (0, 0)]) ⟨Or.inl rfl, Or.inl rfl, Or.inl rfl, trivial⟩ (h Ln)
    · have h := h.2 c2
      refine r_iconst 1 (pc' := 22) (kX8_scan_0 11 rfl) rfl (by unfold inR; omega) ?_
      refine r_goto (pc' := 26) (kX8_scan_0 12 rfl) rfl ?_
      refine r_istore_n (L' := [(2, 186), (0, (φ 8 6 186)), (0, 1)]) (pc' := 27) (kX8_scan_0 14 rfl) rfl (Nat.le_of_ble_eq_true rfl) rfl ?_
      exact r_weak (L' := [(2, 186), (0, (φ 8 6 186)), (0, 1)]) ⟨Or.inl rfl, Or.inl rfl, Or.inl rfl, trivial⟩ (h Ln)
abbrev jX8_scan_102 (d : Nat) (x1 x2 : Int) (φ : aF) (α : aA) (Q : Int → aF → aA → Prop) : Prop := R0 d mX8_scan 102 [(2, 186), (0, x1), (0, x2)] [] φ α Q
theorem vX8_scan_27 {d : Nat} {φ : aF} {α : aA} {Q : Int → aF → aA → Prop} {x1 : Int} {x2 : Int} (h : (((φ 6 1 1) ≤ (φ 8 6 186) →
   (eX6_at d 1 (φ 8 6 186) (upf φ 8 5 186 (φ 8 6 186)) α (fun r2 φ2 α2 =>
     (eX8_kindOf d r2 φ2 α2 (fun r3 φ3 α3 =>
     (jX8_scan_102 (d + 1) x1 x2 (upf (upf φ3 8 2 186 r3) 8 4 186 0) α3 Q)))))) ∧
   (¬ ((φ 6 1 1) ≤ (φ 8 6 186)) →
   (eX6_at d 1 (φ 8 6 186) φ α (fun r4 φ4 α4 =>
     (eX8_isBlank d r4 φ4 α4 (fun r5 φ5 α5 =>
     ((r5 = 0 →
     (eX6_at d 1 (φ5 8 6 186) (upf φ5 8 5 186 (φ5 8 6 186)) α5 (fun r7 φ7 α7 =>
       (eX8_kindOf d r7 φ7 α7 (fun r8 φ8 α8 =>
       (jX8_scan_102 (d + 1) x1 x2 (upf (upf φ8 8 2 186 r8) 8 4 186 0) α8 Q)))))) ∧
     (¬ (r5 = 0) →
     inR ((φ5 8 6 186) + 1) ∧ (jX8_scan_27 (d + 1) x1 x2 (upf φ5 8 6 186 ((φ5 8 6 186) + 1)) α5 Q)))))))))) : jX8_scan_27 (d + 1) x1 x2 φ α Q := by
  intro Ln
  refine r_aload_n (pc' := 28) (kX8_scan_0 15 rfl) rfl rfl ?_
  refine s_get (x := (φ 8 6 186)) (pc' := 31) (kX8_scan_0 16 rfl) rfl fkX8_39 rfl rfl rfl (kz186 Ln) rfl ?_
  refine r_aload_n (pc' := 32) (kX8_scan_0 17 rfl) rfl rfl ?_
  refine s_getr (v := 1) (pc' := 35) (kX8_scan_0 18 rfl) rfl fkX8_15 rfl rfl (kz186 Ln) rfl (by decide) ?_
  refine s_get (x := (φ 6 1 1)) (pc' := 38) (kX8_scan_0 19 rfl) rfl fkX8_45 rfl rfl rfl (kz1 Ln) rfl ?_
  refine r_icmp_ge (t := 71) (pc' := 41) (kX8_scan_0 20 rfl) rfl rfl (fun c1 => ?_) (fun c1 => ?_)
  · have h := h.1 c1
    refine r_aload_n (pc' := 72) (kX8_scan_0 35 rfl) rfl rfl ?_
    refine r_aload_n (pc' := 73) (kX8_scan_0 36 rfl) rfl rfl ?_
    refine s_get (x := (φ 8 6 186)) (pc' := 76) (kX8_scan_0 37 rfl) rfl fkX8_39 rfl rfl rfl (kz186 Ln) rfl ?_
    refine s_put (pc' := 79) (kX8_scan_0 38 rfl) rfl fkX8_58 fnX8_5 rfl pk_int (kz186 Ln) ?_
    refine r_aload_n (pc' := 80) (kX8_scan_0 39 rfl) rfl rfl ?_
    refine r_aload_n (pc' := 81) (kX8_scan_0 40 rfl) rfl rfl ?_
    refine s_getr (v := 1) (pc' := 84) (kX8_scan_0 41 rfl) rfl fkX8_15 rfl rfl (kz186 Ln) rfl (by decide) ?_
    refine r_aload_n (pc' := 85) (kX8_scan_0 42 rfl) rfl rfl ?_
    refine s_get (x := (φ 8 6 186)) (pc' := 88) (kX8_scan_0 43 rfl) rfl fkX8_58 rfl rfl rfl (kz186 Ln) (by simp [upf]) ?_
    refine s_callV (As := [(0, (φ 8 6 186))]) (o := 1) (S := [(2, 186)]) (S2 := fun z => [(0, z), (2, 186)]) (pc' := 91) (kX8_scan_0 44 rfl) rfl rfl nkX6_at mlX8_50 imX6_at rfl slX6_at rfl (Nat.le_of_ble_eq_true rfl) (Nat.le_of_ble_eq_true rfl) (kz1 Ln) h (fun z => rfl) (fun r2 φ2 α2 h => ?_)
    refine s_callS (As := [(0, r2)]) (S := [(2, 186)]) (S2 := fun z => [(0, z), (2, 186)]) (pc' := 94) (kX8_scan_0 45 rfl) rfl rfl nkX8_kindOf mlX8_61 scX8_kindOf rfl (Nat.le_of_ble_eq_true rfl) (Nat.le_of_ble_eq_true rfl) h (fun z => rfl) (fun r3 φ3 α3 h => ?_)
    refine s_put (pc' := 97) (kX8_scan_0 46 rfl) rfl fkX8_35 fnX8_2 rfl pk_int (kz186 Ln) ?_
    refine r_aload_n (pc' := 98) (kX8_scan_0 47 rfl) rfl rfl ?_
    refine r_iconst 0 (pc' := 99) (kX8_scan_0 48 rfl) rfl (by unfold inR; omega) ?_
    refine s_put (pc' := 102) (kX8_scan_0 49 rfl) rfl fkX8_64 fnX8_4 rfl pk_int (kz186 Ln) ?_
    exact r_weak (L' := [(2, 186), (0, x1), (0, x2)]) ⟨Or.inl rfl, Or.inl rfl, Or.inl rfl, trivial⟩ (h Ln)
  · have h := h.2 c1
    refine r_aload_n (pc' := 42) (kX8_scan_0 21 rfl) rfl rfl ?_
    refine s_getr (v := 1) (pc' := 45) (kX8_scan_0 22 rfl) rfl fkX8_15 rfl rfl (kz186 Ln) rfl (by decide) ?_
    refine r_aload_n (pc' := 46) (kX8_scan_0 23 rfl) rfl rfl ?_
    refine s_get (x := (φ 8 6 186)) (pc' := 49) (kX8_scan_0 24 rfl) rfl fkX8_39 rfl rfl rfl (kz186 Ln) rfl ?_
    refine s_callV (As := [(0, (φ 8 6 186))]) (o := 1) (S := []) (S2 := fun z => [(0, z)]) (pc' := 52) (kX8_scan_0 25 rfl) rfl rfl nkX6_at mlX8_50 imX6_at rfl slX6_at rfl (Nat.le_of_ble_eq_true rfl) (Nat.le_of_ble_eq_true rfl) (kz1 Ln) h (fun z => rfl) (fun r4 φ4 α4 h => ?_)
    refine s_callS (As := [(0, r4)]) (S := []) (S2 := fun z => [(0, z)]) (pc' := 55) (kX8_scan_0 26 rfl) rfl rfl nkX8_isBlank mlX8_54 scX8_isBlank rfl (Nat.le_of_ble_eq_true rfl) (Nat.le_of_ble_eq_true rfl) h (fun z => rfl) (fun r5 φ5 α5 h => ?_)
    refine r_if_eq (t := 71) (pc' := 58) (kX8_scan_0 27 rfl) rfl rfl (fun c6 => ?_) (fun c6 => ?_)
    · have h := h.1 c6
      refine r_aload_n (pc' := 72) (kX8_scan_0 35 rfl) rfl rfl ?_
      refine r_aload_n (pc' := 73) (kX8_scan_0 36 rfl) rfl rfl ?_
      refine s_get (x := (φ5 8 6 186)) (pc' := 76) (kX8_scan_0 37 rfl) rfl fkX8_39 rfl rfl rfl (kz186 Ln) rfl ?_
      refine s_put (pc' := 79) (kX8_scan_0 38 rfl) rfl fkX8_58 fnX8_5 rfl pk_int (kz186 Ln) ?_
      refine r_aload_n (pc' := 80) (kX8_scan_0 39 rfl) rfl rfl ?_
      refine r_aload_n (pc' := 81) (kX8_scan_0 40 rfl) rfl rfl ?_
      refine s_getr (v := 1) (pc' := 84) (kX8_scan_0 41 rfl) rfl fkX8_15 rfl rfl (kz186 Ln) rfl (by decide) ?_
      refine r_aload_n (pc' := 85) (kX8_scan_0 42 rfl) rfl rfl ?_
      refine s_get (x := (φ5 8 6 186)) (pc' := 88) (kX8_scan_0 43 rfl) rfl fkX8_58 rfl rfl rfl (kz186 Ln) (by simp [upf]) ?_
      refine s_callV (As := [(0, (φ5 8 6 186))]) (o := 1) (S := [(2, 186)]) (S2 := fun z => [(0, z), (2, 186)]) (pc' := 91) (kX8_scan_0 44 rfl) rfl rfl nkX6_at mlX8_50 imX6_at rfl slX6_at rfl (Nat.le_of_ble_eq_true rfl) (Nat.le_of_ble_eq_true rfl) (kz1 Ln) h (fun z => rfl) (fun r7 φ7 α7 h => ?_)
      refine s_callS (As := [(0, r7)]) (S := [(2, 186)]) (S2 := fun z => [(0, z), (2, 186)]) (pc' := 94) (kX8_scan_0 45 rfl) rfl rfl nkX8_kindOf mlX8_61 scX8_kindOf rfl (Nat.le_of_ble_eq_true rfl) (Nat.le_of_ble_eq_true rfl) h (fun z => rfl) (fun r8 φ8 α8 h => ?_)
      refine s_put (pc' := 97) (kX8_scan_0 46 rfl) rfl fkX8_35 fnX8_2 rfl pk_int (kz186 Ln) ?_
      refine r_aload_n (pc' := 98) (kX8_scan_0 47 rfl) rfl rfl ?_
      refine r_iconst 0 (pc' := 99) (kX8_scan_0 48 rfl) rfl (by unfold inR; omega) ?_
      refine s_put (pc' := 102) (kX8_scan_0 49 rfl) rfl fkX8_64 fnX8_4 rfl pk_int (kz186 Ln) ?_
      exact r_weak (L' := [(2, 186), (0, x1), (0, x2)]) ⟨Or.inl rfl, Or.inl rfl, Or.inl rfl, trivial⟩ (h Ln)
    · have h := h.2 c6
      refine r_aload_n (pc' := 59) (kX8_scan_0 28 rfl) rfl rfl ?_
      refine r_dup (pc' := 60) (kX8_scan_0 29 rfl) rfl rfl ?_
      refine s_get (x := (φ5 8 6 186)) (pc' := 63) (kX8_scan_0 30 rfl) rfl fkX8_39 rfl rfl rfl (kz186 Ln) rfl ?_
      refine r_iconst 1 (pc' := 64) (kX8_scan_0 31 rfl) rfl (by unfold inR; omega) ?_
      have g9 := h.1
      have h := h.2
      refine r_iadd (pc' := 65) (kX8_scan_0 32 rfl) rfl g9 ?_
      refine s_put (pc' := 68) (kX8_scan_0 33 rfl) rfl fkX8_39 fnX8_6 rfl pk_int (kz186 Ln) ?_
      refine r_goto (pc' := 27) (kX8_scan_0 34 rfl) rfl ?_
      exact r_weak (L' := [(2, 186), (0, x1), (0, x2)]) ⟨Or.inl rfl, Or.inl rfl, Or.inl rfl, trivial⟩ (h Ln)
theorem vX8_scan_102 {d : Nat} {φ : aF} {α : aA} {Q : Int → aF → aA → Prop} {x1 : Int} {x2 : Int} (h : (((φ 6 1 1) ≤ (φ 8 6 186) →
   ((¬ (φ 8 2 186) = 3 →
     (eX8_findWord d  φ α (fun r3 φ3 α3 =>
       ((x2 = 0 →
       (Q 0 (upf φ3 8 3 186 r3) α3)) ∧
       (¬ (x2 = 0) →
       ((¬ (φ3 8 5 186) = x1 →
         (Q 0 (upf φ3 8 3 186 r3) α3)) ∧
         ((φ3 8 5 186) = x1 →
         (((φ3 8 2 186) = 1 →
           (Q 0 (upf (upf φ3 8 3 186 r3) 8 2 186 4) α3)) ∧
           (¬ ((φ3 8 2 186) = 1) →
           ((¬ (φ3 8 2 186) = 2 →
             (Q 0 (upf φ3 8 3 186 r3) α3)) ∧
             ((φ3 8 2 186) = 2 →
             (Q 0 (upf (upf φ3 8 3 186 r3) 8 2 186 4) α3)))))))))))) ∧
     ((φ 8 2 186) = 3 →
     (eX6_at d 1 (φ 8 5 186) φ α (fun r8 φ8 α8 =>
       inR ((φ8 8 6 186) + 1) ∧ (eX8_findWord d  (upf (upf φ8 8 4 186 r8) 8 6 186 ((φ8 8 6 186) + 1)) α8 (fun r10 φ10 α10 =>
       ((x2 = 0 →
       (Q 0 (upf φ10 8 3 186 r10) α10)) ∧
       (¬ (x2 = 0) →
       ((¬ (φ10 8 5 186) = x1 →
         (Q 0 (upf φ10 8 3 186 r10) α10)) ∧
         ((φ10 8 5 186) = x1 →
         (((φ10 8 2 186) = 1 →
           (Q 0 (upf (upf φ10 8 3 186 r10) 8 2 186 4) α10)) ∧
           (¬ ((φ10 8 2 186) = 1) →
           ((¬ (φ10 8 2 186) = 2 →
             (Q 0 (upf φ10 8 3 186 r10) α10)) ∧
             ((φ10 8 2 186) = 2 →
             (Q 0 (upf (upf φ10 8 3 186 r10) 8 2 186 4) α10)))))))))))))))) ∧
   (¬ ((φ 6 1 1) ≤ (φ 8 6 186)) →
   (eX6_at d 1 (φ 8 6 186) φ α (fun r15 φ15 α15 =>
     (eX8_kindOf d r15 φ15 α15 (fun r16 φ16 α16 =>
     ((¬ r16 = (φ16 8 2 186) →
     ((¬ (φ16 8 2 186) = 3 →
       (eX8_findWord d  φ16 α16 (fun r19 φ19 α19 =>
         ((x2 = 0 →
         (Q 0 (upf φ19 8 3 186 r19) α19)) ∧
         (¬ (x2 = 0) →
         ((¬ (φ19 8 5 186) = x1 →
           (Q 0 (upf φ19 8 3 186 r19) α19)) ∧
           ((φ19 8 5 186) = x1 →
           (((φ19 8 2 186) = 1 →
             (Q 0 (upf (upf φ19 8 3 186 r19) 8 2 186 4) α19)) ∧
             (¬ ((φ19 8 2 186) = 1) →
             ((¬ (φ19 8 2 186) = 2 →
               (Q 0 (upf φ19 8 3 186 r19) α19)) ∧
               ((φ19 8 2 186) = 2 →
               (Q 0 (upf (upf φ19 8 3 186 r19) 8 2 186 4) α19)))))))))))) ∧
       ((φ16 8 2 186) = 3 →
       (eX6_at d 1 (φ16 8 5 186) φ16 α16 (fun r24 φ24 α24 =>
         inR ((φ24 8 6 186) + 1) ∧ (eX8_findWord d  (upf (upf φ24 8 4 186 r24) 8 6 186 ((φ24 8 6 186) + 1)) α24 (fun r26 φ26 α26 =>
         ((x2 = 0 →
         (Q 0 (upf φ26 8 3 186 r26) α26)) ∧
         (¬ (x2 = 0) →
         ((¬ (φ26 8 5 186) = x1 →
           (Q 0 (upf φ26 8 3 186 r26) α26)) ∧
           ((φ26 8 5 186) = x1 →
           (((φ26 8 2 186) = 1 →
             (Q 0 (upf (upf φ26 8 3 186 r26) 8 2 186 4) α26)) ∧
             (¬ ((φ26 8 2 186) = 1) →
             ((¬ (φ26 8 2 186) = 2 →
               (Q 0 (upf φ26 8 3 186 r26) α26)) ∧
               ((φ26 8 2 186) = 2 →
               (Q 0 (upf (upf φ26 8 3 186 r26) 8 2 186 4) α26)))))))))))))))) ∧
     (r16 = (φ16 8 2 186) →
     (((φ16 8 2 186) = 3 →
       (eX6_at d 1 (φ16 8 5 186) φ16 α16 (fun r32 φ32 α32 =>
         inR ((φ32 8 6 186) + 1) ∧ (eX8_findWord d  (upf (upf φ32 8 4 186 r32) 8 6 186 ((φ32 8 6 186) + 1)) α32 (fun r34 φ34 α34 =>
         ((x2 = 0 →
         (Q 0 (upf φ34 8 3 186 r34) α34)) ∧
         (¬ (x2 = 0) →
         ((¬ (φ34 8 5 186) = x1 →
           (Q 0 (upf φ34 8 3 186 r34) α34)) ∧
           ((φ34 8 5 186) = x1 →
           (((φ34 8 2 186) = 1 →
             (Q 0 (upf (upf φ34 8 3 186 r34) 8 2 186 4) α34)) ∧
             (¬ ((φ34 8 2 186) = 1) →
             ((¬ (φ34 8 2 186) = 2 →
               (Q 0 (upf φ34 8 3 186 r34) α34)) ∧
               ((φ34 8 2 186) = 2 →
               (Q 0 (upf (upf φ34 8 3 186 r34) 8 2 186 4) α34)))))))))))))) ∧
       (¬ ((φ16 8 2 186) = 3) →
       ((¬ (φ16 8 2 186) = 1 →
         ((¬ (φ16 8 2 186) = 2 →
           inR ((φ16 8 6 186) + 1) ∧ (jX8_scan_102 (d + 1) x1 x2 (upf φ16 8 6 186 ((φ16 8 6 186) + 1)) α16 Q)) ∧
           ((φ16 8 2 186) = 2 →
           inR ((φ16 8 6 186) - (φ16 8 5 186)) ∧ ((4 ≤ ((φ16 8 6 186) - (φ16 8 5 186)) →
             inR ((φ16 8 6 186) + 1) ∧ (jX8_scan_102 (d + 1) x1 x2 (upf φ16 8 6 186 ((φ16 8 6 186) + 1)) α16 Q)) ∧
             (¬ (4 ≤ ((φ16 8 6 186) - (φ16 8 5 186))) →
             inR (10 * (φ16 8 4 186)) ∧ (eX6_at d 1 (φ16 8 6 186) φ16 α16 (fun r46 φ46 α46 =>
               inR ((10 * (φ16 8 4 186)) + r46) ∧ inR (((10 * (φ16 8 4 186)) + r46) - 48) ∧ inR ((φ46 8 6 186) + 1) ∧ (jX8_scan_102 (d + 1) x1 x2 (upf (upf φ46 8 4 186 (((10 * (φ16 8 4 186)) + r46) - 48)) 8 6 186 ((φ46 8 6 186) + 1)) α46 Q)))))))) ∧
         ((φ16 8 2 186) = 1 →
         inR ((φ16 8 6 186) - (φ16 8 5 186)) ∧ ((6 ≤ ((φ16 8 6 186) - (φ16 8 5 186)) →
           ((¬ (φ16 8 2 186) = 2 →
             inR ((φ16 8 6 186) + 1) ∧ (jX8_scan_102 (d + 1) x1 x2 (upf φ16 8 6 186 ((φ16 8 6 186) + 1)) α16 Q)) ∧
             ((φ16 8 2 186) = 2 →
             ((4 ≤ ((φ16 8 6 186) - (φ16 8 5 186)) →
               inR ((φ16 8 6 186) + 1) ∧ (jX8_scan_102 (d + 1) x1 x2 (upf φ16 8 6 186 ((φ16 8 6 186) + 1)) α16 Q)) ∧
               (¬ (4 ≤ ((φ16 8 6 186) - (φ16 8 5 186))) →
               inR (10 * (φ16 8 4 186)) ∧ (eX6_at d 1 (φ16 8 6 186) φ16 α16 (fun r57 φ57 α57 =>
                 inR ((10 * (φ16 8 4 186)) + r57) ∧ inR (((10 * (φ16 8 4 186)) + r57) - 48) ∧ inR ((φ57 8 6 186) + 1) ∧ (jX8_scan_102 (d + 1) x1 x2 (upf (upf φ57 8 4 186 (((10 * (φ16 8 4 186)) + r57) - 48)) 8 6 186 ((φ57 8 6 186) + 1)) α57 Q)))))))) ∧
           (¬ (6 ≤ ((φ16 8 6 186) - (φ16 8 5 186))) →
           inR (27 * (φ16 8 4 186)) ∧ (eX6_at d 1 (φ16 8 6 186) φ16 α16 (fun r62 φ62 α62 =>
             inR ((27 * (φ16 8 4 186)) + r62) ∧ inR (((27 * (φ16 8 4 186)) + r62) - 97) ∧ inR ((((27 * (φ16 8 4 186)) + r62) - 97) + 1) ∧ inR ((φ62 8 6 186) + 1) ∧ (jX8_scan_102 (d + 1) x1 x2 (upf (upf φ62 8 4 186 ((((27 * (φ16 8 4 186)) + r62) - 97) + 1)) 8 6 186 ((φ62 8 6 186) + 1)) α62 Q)))))))))))))))))) : jX8_scan_102 (d + 1) x1 x2 φ α Q := by
  intro Ln
  refine r_aload_n (pc' := 103) (kX8_scan_0 50 rfl) rfl rfl ?_
  refine s_get (x := (φ 8 6 186)) (pc' := 106) (kX8_scan_0 51 rfl) rfl fkX8_39 rfl rfl rfl (kz186 Ln) rfl ?_
  refine r_aload_n (pc' := 107) (kX8_scan_0 52 rfl) rfl rfl ?_
  refine s_getr (v := 1) (pc' := 110) (kX8_scan_0 53 rfl) rfl fkX8_15 rfl rfl (kz186 Ln) rfl (by decide) ?_
  refine s_get (x := (φ 6 1 1)) (pc' := 113) (kX8_scan_0 54 rfl) rfl fkX8_45 rfl rfl rfl (kz1 Ln) rfl ?_
  refine r_icmp_ge (t := 258) (pc' := 116) (kX8_scan_0 55 rfl) rfl rfl (fun c1 => ?_) (fun c1 => ?_)
  · have h := h.1 c1
    refine r_aload_n (pc' := 259) (kX8_scan_2 9 rfl) rfl rfl ?_
    refine s_get (x := (φ 8 2 186)) (pc' := 262) (kX8_scan_2 10 rfl) rfl fkX8_35 rfl rfl rfl (kz186 Ln) rfl ?_
    refine r_iconst 3 (pc' := 263) (kX8_scan_2 11 rfl) rfl (by unfold inR; omega) ?_
    refine r_icmp_ne (t := 291) (pc' := 266) (kX8_scan_2 12 rfl) rfl rfl (fun c2 => ?_) (fun c2 => ?_)
    · have h := h.1 c2
      refine r_aload_n (pc' := 292) (kX8_scan_2 26 rfl) rfl rfl ?_
      refine r_aload_n (pc' := 293) (kX8_scan_2 27 rfl) rfl rfl ?_
      refine s_callV (As := []) (o := 186) (S := [(2, 186)]) (S2 := fun z => [(0, z), (2, 186)]) (pc' := 296) (kX8_scan_2 28 rfl) rfl rfl nkX8_findWord mlX8_67 imX8_findWord rfl slX8_findWord rfl (Nat.le_of_ble_eq_true rfl) (Nat.le_of_ble_eq_true rfl) (kz186 Ln) h (fun z => rfl) (fun r3 φ3 α3 h => ?_)
      refine s_put (pc' := 299) (kX8_scan_2 29 rfl) rfl fkX8_70 fnX8_3 rfl pk_int (kz186 Ln) ?_
      refine r_iload_n (pc' := 300) (kX8_scan_2 30 rfl) rfl rfl ?_
      refine r_if_eq (t := 332) (pc' := 303) (kX8_scan_2 31 rfl) rfl rfl (fun c4 => ?_) (fun c4 => ?_)
      · have h := h.1 c4
        exact s_vret (kX8_scan_2 47 rfl) rfl h
      · have h := h.2 c4
        refine r_aload_n (pc' := 304) (kX8_scan_2 32 rfl) rfl rfl ?_
        refine s_get (x := (φ3 8 5 186)) (pc' := 307) (kX8_scan_2 33 rfl) rfl fkX8_58 rfl rfl rfl (kz186 Ln) rfl ?_
        refine r_iload_n (pc' := 308) (kX8_scan_2 34 rfl) rfl rfl ?_
        refine r_icmp_ne (t := 332) (pc' := 311) (kX8_scan_2 35 rfl) rfl rfl (fun c5 => ?_) (fun c5 => ?_)
        · have h := h.1 c5
          exact s_vret (kX8_scan_2 47 rfl) rfl h
        · have h := h.2 c5
          refine r_aload_n (pc' := 312) (kX8_scan_2 36 rfl) rfl rfl ?_
          refine s_get (x := (φ3 8 2 186)) (pc' := 315) (kX8_scan_2 37 rfl) rfl fkX8_35 rfl rfl rfl (kz186 Ln) rfl ?_
          refine r_iconst 1 (pc' := 316) (kX8_scan_2 38 rfl) rfl (by unfold inR; omega) ?_
          refine r_icmp_eq (t := 327) (pc' := 319) (kX8_scan_2 39 rfl) rfl rfl (fun c6 => ?_) (fun c6 => ?_)
          · have h := h.1 c6
            refine r_aload_n (pc' := 328) (kX8_scan_2 44 rfl) rfl rfl ?_
            refine r_iconst 4 (pc' := 329) (kX8_scan_2 45 rfl) rfl (by unfold inR; omega) ?_
            refine s_put (pc' := 332) (kX8_scan_2 46 rfl) rfl fkX8_35 fnX8_2 rfl pk_int (kz186 Ln) ?_
            exact s_vret (kX8_scan_2 47 rfl) rfl h
          · have h := h.2 c6
            refine r_aload_n (pc' := 320) (kX8_scan_2 40 rfl) rfl rfl ?_
            refine s_get (x := (φ3 8 2 186)) (pc' := 323) (kX8_scan_2 41 rfl) rfl fkX8_35 rfl rfl rfl (kz186 Ln) rfl ?_
            refine r_iconst 2 (pc' := 324) (kX8_scan_2 42 rfl) rfl (by unfold inR; omega) ?_
            refine r_icmp_ne (t := 332) (pc' := 327) (kX8_scan_2 43 rfl) rfl rfl (fun c7 => ?_) (fun c7 => ?_)
            · have h := h.1 c7
              exact s_vret (kX8_scan_2 47 rfl) rfl h
            · have h := h.2 c7
              refine r_aload_n (pc' := 328) (kX8_scan_2 44 rfl) rfl rfl ?_
              refine r_iconst 4 (pc' := 329) (kX8_scan_2 45 rfl) rfl (by unfold inR; omega) ?_
              refine s_put (pc' := 332) (kX8_scan_2 46 rfl) rfl fkX8_35 fnX8_2 rfl pk_int (kz186 Ln) ?_
              exact s_vret (kX8_scan_2 47 rfl) rfl h
    · have h := h.2 c2
      refine r_aload_n (pc' := 267) (kX8_scan_2 13 rfl) rfl rfl ?_
      refine r_aload_n (pc' := 268) (kX8_scan_2 14 rfl) rfl rfl ?_
      refine s_getr (v := 1) (pc' := 271) (kX8_scan_2 15 rfl) rfl fkX8_15 rfl rfl (kz186 Ln) rfl (by decide) ?_
      refine r_aload_n (pc' := 272) (kX8_scan_2 16 rfl) rfl rfl ?_
      refine s_get (x := (φ 8 5 186)) (pc' := 275) (kX8_scan_2 17 rfl) rfl fkX8_58 rfl rfl rfl (kz186 Ln) rfl ?_
      refine s_callV (As := [(0, (φ 8 5 186))]) (o := 1) (S := [(2, 186)]) (S2 := fun z => [(0, z), (2, 186)]) (pc' := 278) (kX8_scan_2 18 rfl) rfl rfl nkX6_at mlX8_50 imX6_at rfl slX6_at rfl (Nat.le_of_ble_eq_true rfl) (Nat.le_of_ble_eq_true rfl) (kz1 Ln) h (fun z => rfl) (fun r8 φ8 α8 h => ?_)
      refine s_put (pc' := 281) (kX8_scan_2 19 rfl) rfl fkX8_64 fnX8_4 rfl pk_int (kz186 Ln) ?_
      refine r_aload_n (pc' := 282) (kX8_scan_2 20 rfl) rfl rfl ?_
      refine r_dup (pc' := 283) (kX8_scan_2 21 rfl) rfl rfl ?_
      refine s_get (x := (φ8 8 6 186)) (pc' := 286) (kX8_scan_2 22 rfl) rfl fkX8_39 rfl rfl rfl (kz186 Ln) rfl ?_
      refine r_iconst 1 (pc' := 287) (kX8_scan_2 23 rfl) rfl (by unfold inR; omega) ?_
      have g9 := h.1
      have h := h.2
      refine r_iadd (pc' := 288) (kX8_scan_2 24 rfl) rfl g9 ?_
      refine s_put (pc' := 291) (kX8_scan_2 25 rfl) rfl fkX8_39 fnX8_6 rfl pk_int (kz186 Ln) ?_
      refine r_aload_n (pc' := 292) (kX8_scan_2 26 rfl) rfl rfl ?_
      refine r_aload_n (pc' := 293) (kX8_scan_2 27 rfl) rfl rfl ?_
      refine s_callV (As := []) (o := 186) (S := [(2, 186)]) (S2 := fun z => [(0, z), (2, 186)]) (pc' := 296) (kX8_scan_2 28 rfl) rfl rfl nkX8_findWord mlX8_67 imX8_findWord rfl slX8_findWord rfl (Nat.le_of_ble_eq_true rfl) (Nat.le_of_ble_eq_true rfl) (kz186 Ln) h (fun z => rfl) (fun r10 φ10 α10 h => ?_)
      refine s_put (pc' := 299) (kX8_scan_2 29 rfl) rfl fkX8_70 fnX8_3 rfl pk_int (kz186 Ln) ?_
      refine r_iload_n (pc' := 300) (kX8_scan_2 30 rfl) rfl rfl ?_
      refine r_if_eq (t := 332) (pc' := 303) (kX8_scan_2 31 rfl) rfl rfl (fun c11 => ?_) (fun c11 => ?_)
      · have h := h.1 c11
        exact s_vret (kX8_scan_2 47 rfl) rfl h
      · have h := h.2 c11
        refine r_aload_n (pc' := 304) (kX8_scan_2 32 rfl) rfl rfl ?_
        refine s_get (x := (φ10 8 5 186)) (pc' := 307) (kX8_scan_2 33 rfl) rfl fkX8_58 rfl rfl rfl (kz186 Ln) rfl ?_
        refine r_iload_n (pc' := 308) (kX8_scan_2 34 rfl) rfl rfl ?_
        refine r_icmp_ne (t := 332) (pc' := 311) (kX8_scan_2 35 rfl) rfl rfl (fun c12 => ?_) (fun c12 => ?_)
        · have h := h.1 c12
          exact s_vret (kX8_scan_2 47 rfl) rfl h
        · have h := h.2 c12
          refine r_aload_n (pc' := 312) (kX8_scan_2 36 rfl) rfl rfl ?_
          refine s_get (x := (φ10 8 2 186)) (pc' := 315) (kX8_scan_2 37 rfl) rfl fkX8_35 rfl rfl rfl (kz186 Ln) rfl ?_
          refine r_iconst 1 (pc' := 316) (kX8_scan_2 38 rfl) rfl (by unfold inR; omega) ?_
          refine r_icmp_eq (t := 327) (pc' := 319) (kX8_scan_2 39 rfl) rfl rfl (fun c13 => ?_) (fun c13 => ?_)
          · have h := h.1 c13
            refine r_aload_n (pc' := 328) (kX8_scan_2 44 rfl) rfl rfl ?_
            refine r_iconst 4 (pc' := 329) (kX8_scan_2 45 rfl) rfl (by unfold inR; omega) ?_
            refine s_put (pc' := 332) (kX8_scan_2 46 rfl) rfl fkX8_35 fnX8_2 rfl pk_int (kz186 Ln) ?_
            exact s_vret (kX8_scan_2 47 rfl) rfl h
          · have h := h.2 c13
            refine r_aload_n (pc' := 320) (kX8_scan_2 40 rfl) rfl rfl ?_
            refine s_get (x := (φ10 8 2 186)) (pc' := 323) (kX8_scan_2 41 rfl) rfl fkX8_35 rfl rfl rfl (kz186 Ln) rfl ?_
            refine r_iconst 2 (pc' := 324) (kX8_scan_2 42 rfl) rfl (by unfold inR; omega) ?_
            refine r_icmp_ne (t := 332) (pc' := 327) (kX8_scan_2 43 rfl) rfl rfl (fun c14 => ?_) (fun c14 => ?_)
            · have h := h.1 c14
              exact s_vret (kX8_scan_2 47 rfl) rfl h
            · have h := h.2 c14
              refine r_aload_n (pc' := 328) (kX8_scan_2 44 rfl) rfl rfl ?_
              refine r_iconst 4 (pc' := 329) (kX8_scan_2 45 rfl) rfl (by unfold inR; omega) ?_
              refine s_put (pc' := 332) (kX8_scan_2 46 rfl) rfl fkX8_35 fnX8_2 rfl pk_int (kz186 Ln) ?_
              exact s_vret (kX8_scan_2 47 rfl) rfl h
  · have h := h.2 c1
    refine r_aload_n (pc' := 117) (kX8_scan_0 56 rfl) rfl rfl ?_
    refine s_getr (v := 1) (pc' := 120) (kX8_scan_0 57 rfl) rfl fkX8_15 rfl rfl (kz186 Ln) rfl (by decide) ?_
    refine r_aload_n (pc' := 121) (kX8_scan_0 58 rfl) rfl rfl ?_
    refine s_get (x := (φ 8 6 186)) (pc' := 124) (kX8_scan_0 59 rfl) rfl fkX8_39 rfl rfl rfl (kz186 Ln) rfl ?_
    refine s_callV (As := [(0, (φ 8 6 186))]) (o := 1) (S := []) (S2 := fun z => [(0, z)]) (pc' := 127) (kX8_scan_1 0 rfl) rfl rfl nkX6_at mlX8_50 imX6_at rfl slX6_at rfl (Nat.le_of_ble_eq_true rfl) (Nat.le_of_ble_eq_true rfl) (kz1 Ln) h (fun z => rfl) (fun r15 φ15 α15 h => ?_)
    refine s_callS (As := [(0, r15)]) (S := []) (S2 := fun z => [(0, z)]) (pc' := 130) (kX8_scan_1 1 rfl) rfl rfl nkX8_kindOf mlX8_61 scX8_kindOf rfl (Nat.le_of_ble_eq_true rfl) (Nat.le_of_ble_eq_true rfl) h (fun z => rfl) (fun r16 φ16 α16 h => ?_)
    refine r_aload_n (pc' := 131) (kX8_scan_1 2 rfl) rfl rfl ?_
    refine s_get (x := (φ16 8 2 186)) (pc' := 134) (kX8_scan_1 3 rfl) rfl fkX8_35 rfl rfl rfl (kz186 Ln) rfl ?_
    refine r_icmp_ne (t := 258) (pc' := 137) (kX8_scan_1 4 rfl) rfl rfl (fun c17 => ?_) (fun c17 => ?_)
    · have h := h.1 c17
      refine r_aload_n (pc' := 259) (kX8_scan_2 9 rfl) rfl rfl ?_
      refine s_get (x := (φ16 8 2 186)) (pc' := 262) (kX8_scan_2 10 rfl) rfl fkX8_35 rfl rfl rfl (kz186 Ln) rfl ?_
      refine r_iconst 3 (pc' := 263) (kX8_scan_2 11 rfl) rfl (by unfold inR; omega) ?_
      refine r_icmp_ne (t := 291) (pc' := 266) (kX8_scan_2 12 rfl) rfl rfl (fun c18 => ?_) (fun c18 => ?_)
      · have h := h.1 c18
        refine r_aload_n (pc' := 292) (kX8_scan_2 26 rfl) rfl rfl ?_
        refine r_aload_n (pc' := 293) (kX8_scan_2 27 rfl) rfl rfl ?_
        refine s_callV (As := []) (o := 186) (S := [(2, 186)]) (S2 := fun z => [(0, z), (2, 186)]) (pc' := 296) (kX8_scan_2 28 rfl) rfl rfl nkX8_findWord mlX8_67 imX8_findWord rfl slX8_findWord rfl (Nat.le_of_ble_eq_true rfl) (Nat.le_of_ble_eq_true rfl) (kz186 Ln) h (fun z => rfl) (fun r19 φ19 α19 h => ?_)
        refine s_put (pc' := 299) (kX8_scan_2 29 rfl) rfl fkX8_70 fnX8_3 rfl pk_int (kz186 Ln) ?_
        refine r_iload_n (pc' := 300) (kX8_scan_2 30 rfl) rfl rfl ?_
        refine r_if_eq (t := 332) (pc' := 303) (kX8_scan_2 31 rfl) rfl rfl (fun c20 => ?_) (fun c20 => ?_)
        · have h := h.1 c20
          exact s_vret (kX8_scan_2 47 rfl) rfl h
        · have h := h.2 c20
          refine r_aload_n (pc' := 304) (kX8_scan_2 32 rfl) rfl rfl ?_
          refine s_get (x := (φ19 8 5 186)) (pc' := 307) (kX8_scan_2 33 rfl) rfl fkX8_58 rfl rfl rfl (kz186 Ln) rfl ?_
          refine r_iload_n (pc' := 308) (kX8_scan_2 34 rfl) rfl rfl ?_
          refine r_icmp_ne (t := 332) (pc' := 311) (kX8_scan_2 35 rfl) rfl rfl (fun c21 => ?_) (fun c21 => ?_)
          · have h := h.1 c21
            exact s_vret (kX8_scan_2 47 rfl) rfl h
          · have h := h.2 c21
            refine r_aload_n (pc' := 312) (kX8_scan_2 36 rfl) rfl rfl ?_
            refine s_get (x := (φ19 8 2 186)) (pc' := 315) (kX8_scan_2 37 rfl) rfl fkX8_35 rfl rfl rfl (kz186 Ln) rfl ?_
            refine r_iconst 1 (pc' := 316) (kX8_scan_2 38 rfl) rfl (by unfold inR; omega) ?_
            refine r_icmp_eq (t := 327) (pc' := 319) (kX8_scan_2 39 rfl) rfl rfl (fun c22 => ?_) (fun c22 => ?_)
            · have h := h.1 c22
              refine r_aload_n (pc' := 328) (kX8_scan_2 44 rfl) rfl rfl ?_
              refine r_iconst 4 (pc' := 329) (kX8_scan_2 45 rfl) rfl (by unfold inR; omega) ?_
              refine s_put (pc' := 332) (kX8_scan_2 46 rfl) rfl fkX8_35 fnX8_2 rfl pk_int (kz186 Ln) ?_
              exact s_vret (kX8_scan_2 47 rfl) rfl h
            · have h := h.2 c22
              refine r_aload_n (pc' := 320) (kX8_scan_2 40 rfl) rfl rfl ?_
              refine s_get (x := (φ19 8 2 186)) (pc' := 323) (kX8_scan_2 41 rfl) rfl fkX8_35 rfl rfl rfl (kz186 Ln) rfl ?_
              refine r_iconst 2 (pc' := 324) (kX8_scan_2 42 rfl) rfl (by unfold inR; omega) ?_
              refine r_icmp_ne (t := 332) (pc' := 327) (kX8_scan_2 43 rfl) rfl rfl (fun c23 => ?_) (fun c23 => ?_)
              · have h := h.1 c23
                exact s_vret (kX8_scan_2 47 rfl) rfl h
              · have h := h.2 c23
                refine r_aload_n (pc' := 328) (kX8_scan_2 44 rfl) rfl rfl ?_
                refine r_iconst 4 (pc' := 329) (kX8_scan_2 45 rfl) rfl (by unfold inR; omega) ?_
                refine s_put (pc' := 332) (kX8_scan_2 46 rfl) rfl fkX8_35 fnX8_2 rfl pk_int (kz186 Ln) ?_
                exact s_vret (kX8_scan_2 47 rfl) rfl h
      · have h := h.2 c18
        refine r_aload_n (pc' := 267) (kX8_scan_2 13 rfl) rfl rfl ?_
        refine r_aload_n (pc' := 268) (kX8_scan_2 14 rfl) rfl rfl ?_
        refine s_getr (v := 1) (pc' := 271) (kX8_scan_2 15 rfl) rfl fkX8_15 rfl rfl (kz186 Ln) rfl (by decide) ?_
        refine r_aload_n (pc' := 272) (kX8_scan_2 16 rfl) rfl rfl ?_
        refine s_get (x := (φ16 8 5 186)) (pc' := 275) (kX8_scan_2 17 rfl) rfl fkX8_58 rfl rfl rfl (kz186 Ln) rfl ?_
        refine s_callV (As := [(0, (φ16 8 5 186))]) (o := 1) (S := [(2, 186)]) (S2 := fun z => [(0, z), (2, 186)]) (pc' := 278) (kX8_scan_2 18 rfl) rfl rfl nkX6_at mlX8_50 imX6_at rfl slX6_at rfl (Nat.le_of_ble_eq_true rfl) (Nat.le_of_ble_eq_true rfl) (kz1 Ln) h (fun z => rfl) (fun r24 φ24 α24 h => ?_)
        refine s_put (pc' := 281) (kX8_scan_2 19 rfl) rfl fkX8_64 fnX8_4 rfl pk_int (kz186 Ln) ?_
        refine r_aload_n (pc' := 282) (kX8_scan_2 20 rfl) rfl rfl ?_
        refine r_dup (pc' := 283) (kX8_scan_2 21 rfl) rfl rfl ?_
        refine s_get (x := (φ24 8 6 186)) (pc' := 286) (kX8_scan_2 22 rfl) rfl fkX8_39 rfl rfl rfl (kz186 Ln) rfl ?_
        refine r_iconst 1 (pc' := 287) (kX8_scan_2 23 rfl) rfl (by unfold inR; omega) ?_
        have g25 := h.1
        have h := h.2
        refine r_iadd (pc' := 288) (kX8_scan_2 24 rfl) rfl g25 ?_
        refine s_put (pc' := 291) (kX8_scan_2 25 rfl) rfl fkX8_39 fnX8_6 rfl pk_int (kz186 Ln) ?_
        refine r_aload_n (pc' := 292) (kX8_scan_2 26 rfl) rfl rfl ?_
        refine r_aload_n (pc' := 293) (kX8_scan_2 27 rfl) rfl rfl ?_
        refine s_callV (As := []) (o := 186) (S := [(2, 186)]) (S2 := fun z => [(0, z), (2, 186)]) (pc' := 296) (kX8_scan_2 28 rfl) rfl rfl nkX8_findWord mlX8_67 imX8_findWord rfl slX8_findWord rfl (Nat.le_of_ble_eq_true rfl) (Nat.le_of_ble_eq_true rfl) (kz186 Ln) h (fun z => rfl) (fun r26 φ26 α26 h => ?_)
        refine s_put (pc' := 299) (kX8_scan_2 29 rfl) rfl fkX8_70 fnX8_3 rfl pk_int (kz186 Ln) ?_
        refine r_iload_n (pc' := 300) (kX8_scan_2 30 rfl) rfl rfl ?_
        refine r_if_eq (t := 332) (pc' := 303) (kX8_scan_2 31 rfl) rfl rfl (fun c27 => ?_) (fun c27 => ?_)
        · have h := h.1 c27
          exact s_vret (kX8_scan_2 47 rfl) rfl h
        · have h := h.2 c27
          refine r_aload_n (pc' := 304) (kX8_scan_2 32 rfl) rfl rfl ?_
          refine s_get (x := (φ26 8 5 186)) (pc' := 307) (kX8_scan_2 33 rfl) rfl fkX8_58 rfl rfl rfl (kz186 Ln) rfl ?_
          refine r_iload_n (pc' := 308) (kX8_scan_2 34 rfl) rfl rfl ?_
          refine r_icmp_ne (t := 332) (pc' := 311) (kX8_scan_2 35 rfl) rfl rfl (fun c28 => ?_) (fun c28 => ?_)
          · have h := h.1 c28
            exact s_vret (kX8_scan_2 47 rfl) rfl h
          · have h := h.2 c28
            refine r_aload_n (pc' := 312) (kX8_scan_2 36 rfl) rfl rfl ?_
            refine s_get (x := (φ26 8 2 186)) (pc' := 315) (kX8_scan_2 37 rfl) rfl fkX8_35 rfl rfl rfl (kz186 Ln) rfl ?_
            refine r_iconst 1 (pc' := 316) (kX8_scan_2 38 rfl) rfl (by unfold inR; omega) ?_
            refine r_icmp_eq (t := 327) (pc' := 319) (kX8_scan_2 39 rfl) rfl rfl (fun c29 => ?_) (fun c29 => ?_)
            · have h := h.1 c29
              refine r_aload_n (pc' := 328) (kX8_scan_2 44 rfl) rfl rfl ?_
              refine r_iconst 4 (pc' := 329) (kX8_scan_2 45 rfl) rfl (by unfold inR; omega) ?_
              refine s_put (pc' := 332) (kX8_scan_2 46 rfl) rfl fkX8_35 fnX8_2 rfl pk_int (kz186 Ln) ?_
              exact s_vret (kX8_scan_2 47 rfl) rfl h
            · have h := h.2 c29
              refine r_aload_n (pc' := 320) (kX8_scan_2 40 rfl) rfl rfl ?_
              refine s_get (x := (φ26 8 2 186)) (pc' := 323) (kX8_scan_2 41 rfl) rfl fkX8_35 rfl rfl rfl (kz186 Ln) rfl ?_
              refine r_iconst 2 (pc' := 324) (kX8_scan_2 42 rfl) rfl (by unfold inR; omega) ?_
              refine r_icmp_ne (t := 332) (pc' := 327) (kX8_scan_2 43 rfl) rfl rfl (fun c30 => ?_) (fun c30 => ?_)
              · have h := h.1 c30
                exact s_vret (kX8_scan_2 47 rfl) rfl h
              · have h := h.2 c30
                refine r_aload_n (pc' := 328) (kX8_scan_2 44 rfl) rfl rfl ?_
                refine r_iconst 4 (pc' := 329) (kX8_scan_2 45 rfl) rfl (by unfold inR; omega) ?_
                refine s_put (pc' := 332) (kX8_scan_2 46 rfl) rfl fkX8_35 fnX8_2 rfl pk_int (kz186 Ln) ?_
                exact s_vret (kX8_scan_2 47 rfl) rfl h
    · have h := h.2 c17
      refine r_aload_n (pc' := 138) (kX8_scan_1 5 rfl) rfl rfl ?_
      refine s_get (x := (φ16 8 2 186)) (pc' := 141) (kX8_scan_1 6 rfl) rfl fkX8_35 rfl rfl rfl (kz186 Ln) rfl ?_
      refine r_iconst 3 (pc' := 142) (kX8_scan_1 7 rfl) rfl (by unfold inR; omega) ?_
      refine r_icmp_eq (t := 258) (pc' := 145) (kX8_scan_1 8 rfl) rfl rfl (fun c31 => ?_) (fun c31 => ?_)
      · have h := h.1 c31
        refine r_aload_n (pc' := 259) (kX8_scan_2 9 rfl) rfl rfl ?_
        refine s_get (x := (φ16 8 2 186)) (pc' := 262) (kX8_scan_2 10 rfl) rfl fkX8_35 rfl rfl rfl (kz186 Ln) rfl ?_
        refine r_iconst 3 (pc' := 263) (kX8_scan_2 11 rfl) rfl (by unfold inR; omega) ?_
        refine r_icmp_ne (t := 291) (pc' := 266) (kX8_scan_2 12 rfl) rfl rfl (fun cz => absurd c31 cz) (fun _ => ?_)
        refine r_aload_n (pc' := 267) (kX8_scan_2 13 rfl) rfl rfl ?_
        refine r_aload_n (pc' := 268) (kX8_scan_2 14 rfl) rfl rfl ?_
        refine s_getr (v := 1) (pc' := 271) (kX8_scan_2 15 rfl) rfl fkX8_15 rfl rfl (kz186 Ln) rfl (by decide) ?_
        refine r_aload_n (pc' := 272) (kX8_scan_2 16 rfl) rfl rfl ?_
        refine s_get (x := (φ16 8 5 186)) (pc' := 275) (kX8_scan_2 17 rfl) rfl fkX8_58 rfl rfl rfl (kz186 Ln) rfl ?_
        refine s_callV (As := [(0, (φ16 8 5 186))]) (o := 1) (S := [(2, 186)]) (S2 := fun z => [(0, z), (2, 186)]) (pc' := 278) (kX8_scan_2 18 rfl) rfl rfl nkX6_at mlX8_50 imX6_at rfl slX6_at rfl (Nat.le_of_ble_eq_true rfl) (Nat.le_of_ble_eq_true rfl) (kz1 Ln) h (fun z => rfl) (fun r32 φ32 α32 h => ?_)
        refine s_put (pc' := 281) (kX8_scan_2 19 rfl) rfl fkX8_64 fnX8_4 rfl pk_int (kz186 Ln) ?_
        refine r_aload_n (pc' := 282) (kX8_scan_2 20 rfl) rfl rfl ?_
        refine r_dup (pc' := 283) (kX8_scan_2 21 rfl) rfl rfl ?_
        refine s_get (x := (φ32 8 6 186)) (pc' := 286) (kX8_scan_2 22 rfl) rfl fkX8_39 rfl rfl rfl (kz186 Ln) rfl ?_
        refine r_iconst 1 (pc' := 287) (kX8_scan_2 23 rfl) rfl (by unfold inR; omega) ?_
        have g33 := h.1
        have h := h.2
        refine r_iadd (pc' := 288) (kX8_scan_2 24 rfl) rfl g33 ?_
        refine s_put (pc' := 291) (kX8_scan_2 25 rfl) rfl fkX8_39 fnX8_6 rfl pk_int (kz186 Ln) ?_
        refine r_aload_n (pc' := 292) (kX8_scan_2 26 rfl) rfl rfl ?_
        refine r_aload_n (pc' := 293) (kX8_scan_2 27 rfl) rfl rfl ?_
        refine s_callV (As := []) (o := 186) (S := [(2, 186)]) (S2 := fun z => [(0, z), (2, 186)]) (pc' := 296) (kX8_scan_2 28 rfl) rfl rfl nkX8_findWord mlX8_67 imX8_findWord rfl slX8_findWord rfl (Nat.le_of_ble_eq_true rfl) (Nat.le_of_ble_eq_true rfl) (kz186 Ln) h (fun z => rfl) (fun r34 φ34 α34 h => ?_)
        refine s_put (pc' := 299) (kX8_scan_2 29 rfl) rfl fkX8_70 fnX8_3 rfl pk_int (kz186 Ln) ?_
        refine r_iload_n (pc' := 300) (kX8_scan_2 30 rfl) rfl rfl ?_
        refine r_if_eq (t := 332) (pc' := 303) (kX8_scan_2 31 rfl) rfl rfl (fun c35 => ?_) (fun c35 => ?_)
        · have h := h.1 c35
          exact s_vret (kX8_scan_2 47 rfl) rfl h
        · have h := h.2 c35
          refine r_aload_n (pc' := 304) (kX8_scan_2 32 rfl) rfl rfl ?_
          refine s_get (x := (φ34 8 5 186)) (pc' := 307) (kX8_scan_2 33 rfl) rfl fkX8_58 rfl rfl rfl (kz186 Ln) rfl ?_
          refine r_iload_n (pc' := 308) (kX8_scan_2 34 rfl) rfl rfl ?_
          refine r_icmp_ne (t := 332) (pc' := 311) (kX8_scan_2 35 rfl) rfl rfl (fun c36 => ?_) (fun c36 => ?_)
          · have h := h.1 c36
            exact s_vret (kX8_scan_2 47 rfl) rfl h
          · have h := h.2 c36
            refine r_aload_n (pc' := 312) (kX8_scan_2 36 rfl) rfl rfl ?_
            refine s_get (x := (φ34 8 2 186)) (pc' := 315) (kX8_scan_2 37 rfl) rfl fkX8_35 rfl rfl rfl (kz186 Ln) rfl ?_
            refine r_iconst 1 (pc' := 316) (kX8_scan_2 38 rfl) rfl (by unfold inR; omega) ?_
            refine r_icmp_eq (t := 327) (pc' := 319) (kX8_scan_2 39 rfl) rfl rfl (fun c37 => ?_) (fun c37 => ?_)
            · have h := h.1 c37
              refine r_aload_n (pc' := 328) (kX8_scan_2 44 rfl) rfl rfl ?_
              refine r_iconst 4 (pc' := 329) (kX8_scan_2 45 rfl) rfl (by unfold inR; omega) ?_
              refine s_put (pc' := 332) (kX8_scan_2 46 rfl) rfl fkX8_35 fnX8_2 rfl pk_int (kz186 Ln) ?_
              exact s_vret (kX8_scan_2 47 rfl) rfl h
            · have h := h.2 c37
              refine r_aload_n (pc' := 320) (kX8_scan_2 40 rfl) rfl rfl ?_
              refine s_get (x := (φ34 8 2 186)) (pc' := 323) (kX8_scan_2 41 rfl) rfl fkX8_35 rfl rfl rfl (kz186 Ln) rfl ?_
              refine r_iconst 2 (pc' := 324) (kX8_scan_2 42 rfl) rfl (by unfold inR; omega) ?_
              refine r_icmp_ne (t := 332) (pc' := 327) (kX8_scan_2 43 rfl) rfl rfl (fun c38 => ?_) (fun c38 => ?_)
              · have h := h.1 c38
                exact s_vret (kX8_scan_2 47 rfl) rfl h
              · have h := h.2 c38
                refine r_aload_n (pc' := 328) (kX8_scan_2 44 rfl) rfl rfl ?_
                refine r_iconst 4 (pc' := 329) (kX8_scan_2 45 rfl) rfl (by unfold inR; omega) ?_
                refine s_put (pc' := 332) (kX8_scan_2 46 rfl) rfl fkX8_35 fnX8_2 rfl pk_int (kz186 Ln) ?_
                exact s_vret (kX8_scan_2 47 rfl) rfl h
      · have h := h.2 c31
        refine r_aload_n (pc' := 146) (kX8_scan_1 9 rfl) rfl rfl ?_
        refine s_get (x := (φ16 8 2 186)) (pc' := 149) (kX8_scan_1 10 rfl) rfl fkX8_35 rfl rfl rfl (kz186 Ln) rfl ?_
        refine r_iconst 1 (pc' := 150) (kX8_scan_1 11 rfl) rfl (by unfold inR; omega) ?_
        refine r_icmp_ne (t := 198) (pc' := 153) (kX8_scan_1 12 rfl) rfl rfl (fun c39 => ?_) (fun c39 => ?_)
        · have h := h.1 c39
          refine r_aload_n (pc' := 199) (kX8_scan_1 37 rfl) rfl rfl ?_
          refine s_get (x := (φ16 8 2 186)) (pc' := 202) (kX8_scan_1 38 rfl) rfl fkX8_35 rfl rfl rfl (kz186 Ln) rfl ?_
          refine r_iconst 2 (pc' := 203) (kX8_scan_1 39 rfl) rfl (by unfold inR; omega) ?_
          refine r_icmp_ne (t := 245) (pc' := 206) (kX8_scan_1 40 rfl) rfl rfl (fun c40 => ?_) (fun c40 => ?_)
          · have h := h.1 c40
            refine r_aload_n (pc' := 246) (kX8_scan_2 2 rfl) rfl rfl ?_
            refine r_dup (pc' := 247) (kX8_scan_2 3 rfl) rfl rfl ?_
            refine s_get (x := (φ16 8 6 186)) (pc' := 250) (kX8_scan_2 4 rfl) rfl fkX8_39 rfl rfl rfl (kz186 Ln) rfl ?_
            refine r_iconst 1 (pc' := 251) (kX8_scan_2 5 rfl) rfl (by unfold inR; omega) ?_
            have g41 := h.1
            have h := h.2
            refine r_iadd (pc' := 252) (kX8_scan_2 6 rfl) rfl g41 ?_
            refine s_put (pc' := 255) (kX8_scan_2 7 rfl) rfl fkX8_39 fnX8_6 rfl pk_int (kz186 Ln) ?_
            refine r_goto (pc' := 102) (kX8_scan_2 8 rfl) rfl ?_
            exact r_weak (L' := [(2, 186), (0, x1), (0, x2)]) ⟨Or.inl rfl, Or.inl rfl, Or.inl rfl, trivial⟩ (h Ln)
          · have h := h.2 c40
            refine r_aload_n (pc' := 207) (kX8_scan_1 41 rfl) rfl rfl ?_
            refine s_get (x := (φ16 8 6 186)) (pc' := 210) (kX8_scan_1 42 rfl) rfl fkX8_39 rfl rfl rfl (kz186 Ln) rfl ?_
            refine r_aload_n (pc' := 211) (kX8_scan_1 43 rfl) rfl rfl ?_
            refine s_get (x := (φ16 8 5 186)) (pc' := 214) (kX8_scan_1 44 rfl) rfl fkX8_58 rfl rfl rfl (kz186 Ln) rfl ?_
            have g42 := h.1
            have h := h.2
            refine r_isub (pc' := 215) (kX8_scan_1 45 rfl) rfl g42 ?_
            refine r_iconst 4 (pc' := 216) (kX8_scan_1 46 rfl) rfl (by unfold inR; omega) ?_
            refine r_icmp_ge (t := 245) (pc' := 219) (kX8_scan_1 47 rfl) rfl rfl (fun c43 => ?_) (fun c43 => ?_)
            · have h := h.1 c43
              refine r_aload_n (pc' := 246) (kX8_scan_2 2 rfl) rfl rfl ?_
              refine r_dup (pc' := 247) (kX8_scan_2 3 rfl) rfl rfl ?_
              refine s_get (x := (φ16 8 6 186)) (pc' := 250) (kX8_scan_2 4 rfl) rfl fkX8_39 rfl rfl rfl (kz186 Ln) rfl ?_
              refine r_iconst 1 (pc' := 251) (kX8_scan_2 5 rfl) rfl (by unfold inR; omega) ?_
              have g44 := h.1
              have h := h.2
              refine r_iadd (pc' := 252) (kX8_scan_2 6 rfl) rfl g44 ?_
              refine s_put (pc' := 255) (kX8_scan_2 7 rfl) rfl fkX8_39 fnX8_6 rfl pk_int (kz186 Ln) ?_
              refine r_goto (pc' := 102) (kX8_scan_2 8 rfl) rfl ?_
              exact r_weak (L' := [(2, 186), (0, x1), (0, x2)]) ⟨Or.inl rfl, Or.inl rfl, Or.inl rfl, trivial⟩ (h Ln)
            · have h := h.2 c43
              refine r_aload_n (pc' := 220) (kX8_scan_1 48 rfl) rfl rfl ?_
              refine r_bipush 10 (pc' := 222) (kX8_scan_1 49 rfl) rfl ⟨by unfold inR; omega, rfl⟩ ?_
              refine r_aload_n (pc' := 223) (kX8_scan_1 50 rfl) rfl rfl ?_
              refine s_get (x := (φ16 8 4 186)) (pc' := 226) (kX8_scan_1 51 rfl) rfl fkX8_64 rfl rfl rfl (kz186 Ln) rfl ?_
              have g45 := h.1
              have h := h.2
              refine r_imul (pc' := 227) (kX8_scan_1 52 rfl) rfl g45 ?_
              refine r_aload_n (pc' := 228) (kX8_scan_1 53 rfl) rfl rfl ?_
              refine s_getr (v := 1) (pc' := 231) (kX8_scan_1 54 rfl) rfl fkX8_15 rfl rfl (kz186 Ln) rfl (by decide) ?_
              refine r_aload_n (pc' := 232) (kX8_scan_1 55 rfl) rfl rfl ?_
              refine s_get (x := (φ16 8 6 186)) (pc' := 235) (kX8_scan_1 56 rfl) rfl fkX8_39 rfl rfl rfl (kz186 Ln) rfl ?_
              refine s_callV (As := [(0, (φ16 8 6 186))]) (o := 1) (S := [(0, (10 * (φ16 8 4 186))), (2, 186)]) (S2 := fun z => [(0, z), (0, (10 * (φ16 8 4 186))), (2, 186)]) (pc' := 238) (kX8_scan_1 57 rfl) rfl rfl nkX6_at mlX8_50 imX6_at rfl slX6_at rfl (Nat.le_of_ble_eq_true rfl) (Nat.le_of_ble_eq_true rfl) (kz1 Ln) h (fun z => rfl) (fun r46 φ46 α46 h => ?_)
              have g47 := h.1
              have h := h.2
              refine r_iadd (pc' := 239) (kX8_scan_1 58 rfl) rfl g47 ?_
              refine r_bipush 48 (pc' := 241) (kX8_scan_1 59 rfl) rfl ⟨by unfold inR; omega, rfl⟩ ?_
              have g48 := h.1
              have h := h.2
              refine r_isub (pc' := 242) (kX8_scan_2 0 rfl) rfl g48 ?_
              refine s_put (pc' := 245) (kX8_scan_2 1 rfl) rfl fkX8_64 fnX8_4 rfl pk_int (kz186 Ln) ?_
              refine r_aload_n (pc' := 246) (kX8_scan_2 2 rfl) rfl rfl ?_
              refine r_dup (pc' := 247) (kX8_scan_2 3 rfl) rfl rfl ?_
              refine s_get (x := (φ46 8 6 186)) (pc' := 250) (kX8_scan_2 4 rfl) rfl fkX8_39 rfl rfl rfl (kz186 Ln) rfl ?_
              refine r_iconst 1 (pc' := 251) (kX8_scan_2 5 rfl) rfl (by unfold inR; omega) ?_
              have g49 := h.1
              have h := h.2
              refine r_iadd (pc' := 252) (kX8_scan_2 6 rfl) rfl g49 ?_
              refine s_put (pc' := 255) (kX8_scan_2 7 rfl) rfl fkX8_39 fnX8_6 rfl pk_int (kz186 Ln) ?_
              refine r_goto (pc' := 102) (kX8_scan_2 8 rfl) rfl ?_
              exact r_weak (L' := [(2, 186), (0, x1), (0, x2)]) ⟨Or.inl rfl, Or.inl rfl, Or.inl rfl, trivial⟩ (h Ln)
        · have h := h.2 c39
          refine r_aload_n (pc' := 154) (kX8_scan_1 13 rfl) rfl rfl ?_
          refine s_get (x := (φ16 8 6 186)) (pc' := 157) (kX8_scan_1 14 rfl) rfl fkX8_39 rfl rfl rfl (kz186 Ln) rfl ?_
          refine r_aload_n (pc' := 158) (kX8_scan_1 15 rfl) rfl rfl ?_
          refine s_get (x := (φ16 8 5 186)) (pc' := 161) (kX8_scan_1 16 rfl) rfl fkX8_58 rfl rfl rfl (kz186 Ln) rfl ?_
          have g50 := h.1
          have h := h.2
          refine r_isub (pc' := 162) (kX8_scan_1 17 rfl) rfl g50 ?_
          refine r_bipush 6 (pc' := 164) (kX8_scan_1 18 rfl) rfl ⟨by unfold inR; omega, rfl⟩ ?_
          refine r_icmp_ge (t := 198) (pc' := 167) (kX8_scan_1 19 rfl) rfl rfl (fun c51 => ?_) (fun c51 => ?_)
          · have h := h.1 c51
            refine r_aload_n (pc' := 199) (kX8_scan_1 37 rfl) rfl rfl ?_
            refine s_get (x := (φ16 8 2 186)) (pc' := 202) (kX8_scan_1 38 rfl) rfl fkX8_35 rfl rfl rfl (kz186 Ln) rfl ?_
            refine r_iconst 2 (pc' := 203) (kX8_scan_1 39 rfl) rfl (by unfold inR; omega) ?_
            refine r_icmp_ne (t := 245) (pc' := 206) (kX8_scan_1 40 rfl) rfl rfl (fun c52 => ?_) (fun c52 => ?_)
            · have h := h.1 c52
              refine r_aload_n (pc' := 246) (kX8_scan_2 2 rfl) rfl rfl ?_
              refine r_dup (pc' := 247) (kX8_scan_2 3 rfl) rfl rfl ?_
              refine s_get (x := (φ16 8 6 186)) (pc' := 250) (kX8_scan_2 4 rfl) rfl fkX8_39 rfl rfl rfl (kz186 Ln) rfl ?_
              refine r_iconst 1 (pc' := 251) (kX8_scan_2 5 rfl) rfl (by unfold inR; omega) ?_
              have g53 := h.1
              have h := h.2
              refine r_iadd (pc' := 252) (kX8_scan_2 6 rfl) rfl g53 ?_
              refine s_put (pc' := 255) (kX8_scan_2 7 rfl) rfl fkX8_39 fnX8_6 rfl pk_int (kz186 Ln) ?_
              refine r_goto (pc' := 102) (kX8_scan_2 8 rfl) rfl ?_
              exact r_weak (L' := [(2, 186), (0, x1), (0, x2)]) ⟨Or.inl rfl, Or.inl rfl, Or.inl rfl, trivial⟩ (h Ln)
            · have h := h.2 c52
              refine r_aload_n (pc' := 207) (kX8_scan_1 41 rfl) rfl rfl ?_
              refine s_get (x := (φ16 8 6 186)) (pc' := 210) (kX8_scan_1 42 rfl) rfl fkX8_39 rfl rfl rfl (kz186 Ln) rfl ?_
              refine r_aload_n (pc' := 211) (kX8_scan_1 43 rfl) rfl rfl ?_
              refine s_get (x := (φ16 8 5 186)) (pc' := 214) (kX8_scan_1 44 rfl) rfl fkX8_58 rfl rfl rfl (kz186 Ln) rfl ?_
              refine r_isub (pc' := 215) (kX8_scan_1 45 rfl) rfl g50 ?_
              refine r_iconst 4 (pc' := 216) (kX8_scan_1 46 rfl) rfl (by unfold inR; omega) ?_
              refine r_icmp_ge (t := 245) (pc' := 219) (kX8_scan_1 47 rfl) rfl rfl (fun c54 => ?_) (fun c54 => ?_)
              · have h := h.1 c54
                refine r_aload_n (pc' := 246) (kX8_scan_2 2 rfl) rfl rfl ?_
                refine r_dup (pc' := 247) (kX8_scan_2 3 rfl) rfl rfl ?_
                refine s_get (x := (φ16 8 6 186)) (pc' := 250) (kX8_scan_2 4 rfl) rfl fkX8_39 rfl rfl rfl (kz186 Ln) rfl ?_
                refine r_iconst 1 (pc' := 251) (kX8_scan_2 5 rfl) rfl (by unfold inR; omega) ?_
                have g55 := h.1
                have h := h.2
                refine r_iadd (pc' := 252) (kX8_scan_2 6 rfl) rfl g55 ?_
                refine s_put (pc' := 255) (kX8_scan_2 7 rfl) rfl fkX8_39 fnX8_6 rfl pk_int (kz186 Ln) ?_
                refine r_goto (pc' := 102) (kX8_scan_2 8 rfl) rfl ?_
                exact r_weak (L' := [(2, 186), (0, x1), (0, x2)]) ⟨Or.inl rfl, Or.inl rfl, Or.inl rfl, trivial⟩ (h Ln)
              · have h := h.2 c54
                refine r_aload_n (pc' := 220) (kX8_scan_1 48 rfl) rfl rfl ?_
                refine r_bipush 10 (pc' := 222) (kX8_scan_1 49 rfl) rfl ⟨by unfold inR; omega, rfl⟩ ?_
                refine r_aload_n (pc' := 223) (kX8_scan_1 50 rfl) rfl rfl ?_
                refine s_get (x := (φ16 8 4 186)) (pc' := 226) (kX8_scan_1 51 rfl) rfl fkX8_64 rfl rfl rfl (kz186 Ln) rfl ?_
                have g56 := h.1
                have h := h.2
                refine r_imul (pc' := 227) (kX8_scan_1 52 rfl) rfl g56 ?_
                refine r_aload_n (pc' := 228) (kX8_scan_1 53 rfl) rfl rfl ?_
                refine s_getr (v := 1) (pc' := 231) (kX8_scan_1 54 rfl) rfl fkX8_15 rfl rfl (kz186 Ln) rfl (by decide) ?_
                refine r_aload_n (pc' := 232) (kX8_scan_1 55 rfl) rfl rfl ?_
                refine s_get (x := (φ16 8 6 186)) (pc' := 235) (kX8_scan_1 56 rfl) rfl fkX8_39 rfl rfl rfl (kz186 Ln) rfl ?_
                refine s_callV (As := [(0, (φ16 8 6 186))]) (o := 1) (S := [(0, (10 * (φ16 8 4 186))), (2, 186)]) (S2 := fun z => [(0, z), (0, (10 * (φ16 8 4 186))), (2, 186)]) (pc' := 238) (kX8_scan_1 57 rfl) rfl rfl nkX6_at mlX8_50 imX6_at rfl slX6_at rfl (Nat.le_of_ble_eq_true rfl) (Nat.le_of_ble_eq_true rfl) (kz1 Ln) h (fun z => rfl) (fun r57 φ57 α57 h => ?_)
                have g58 := h.1
                have h := h.2
                refine r_iadd (pc' := 239) (kX8_scan_1 58 rfl) rfl g58 ?_
                refine r_bipush 48 (pc' := 241) (kX8_scan_1 59 rfl) rfl ⟨by unfold inR; omega, rfl⟩ ?_
                have g59 := h.1
                have h := h.2
                refine r_isub (pc' := 242) (kX8_scan_2 0 rfl) rfl g59 ?_
                refine s_put (pc' := 245) (kX8_scan_2 1 rfl) rfl fkX8_64 fnX8_4 rfl pk_int (kz186 Ln) ?_
                refine r_aload_n (pc' := 246) (kX8_scan_2 2 rfl) rfl rfl ?_
                refine r_dup (pc' := 247) (kX8_scan_2 3 rfl) rfl rfl ?_
                refine s_get (x := (φ57 8 6 186)) (pc' := 250) (kX8_scan_2 4 rfl) rfl fkX8_39 rfl rfl rfl (kz186 Ln) rfl ?_
                refine r_iconst 1 (pc' := 251) (kX8_scan_2 5 rfl) rfl (by unfold inR; omega) ?_
                have g60 := h.1
                have h := h.2
                refine r_iadd (pc' := 252) (kX8_scan_2 6 rfl) rfl g60 ?_
                refine s_put (pc' := 255) (kX8_scan_2 7 rfl) rfl fkX8_39 fnX8_6 rfl pk_int (kz186 Ln) ?_
                refine r_goto (pc' := 102) (kX8_scan_2 8 rfl) rfl ?_
                exact r_weak (L' := [(2, 186), (0, x1), (0, x2)]) ⟨Or.inl rfl, Or.inl rfl, Or.inl rfl, trivial⟩ (h Ln)
          · have h := h.2 c51
            refine r_aload_n (pc' := 168) (kX8_scan_1 20 rfl) rfl rfl ?_
            refine r_bipush 27 (pc' := 170) (kX8_scan_1 21 rfl) rfl ⟨by unfold inR; omega, rfl⟩ ?_
            refine r_aload_n (pc' := 171) (kX8_scan_1 22 rfl) rfl rfl ?_
            refine s_get (x := (φ16 8 4 186)) (pc' := 174) (kX8_scan_1 23 rfl) rfl fkX8_64 rfl rfl rfl (kz186 Ln) rfl ?_
            have g61 := h.1
            have h := h.2
            refine r_imul (pc' := 175) (kX8_scan_1 24 rfl) rfl g61 ?_
            refine r_aload_n (pc' := 176) (kX8_scan_1 25 rfl) rfl rfl ?_
            refine s_getr (v := 1) (pc' := 179) (kX8_scan_1 26 rfl) rfl fkX8_15 rfl rfl (kz186 Ln) rfl (by decide) ?_
            refine r_aload_n (pc' := 180) (kX8_scan_1 27 rfl) rfl rfl ?_
            refine s_get (x := (φ16 8 6 186)) (pc' := 183) (kX8_scan_1 28 rfl) rfl fkX8_39 rfl rfl rfl (kz186 Ln) rfl ?_
            refine s_callV (As := [(0, (φ16 8 6 186))]) (o := 1) (S := [(0, (27 * (φ16 8 4 186))), (2, 186)]) (S2 := fun z => [(0, z), (0, (27 * (φ16 8 4 186))), (2, 186)]) (pc' := 186) (kX8_scan_1 29 rfl) rfl rfl nkX6_at mlX8_50 imX6_at rfl slX6_at rfl (Nat.le_of_ble_eq_true rfl) (Nat.le_of_ble_eq_true rfl) (kz1 Ln) h (fun z => rfl) (fun r62 φ62 α62 h => ?_)
            have g63 := h.1
            have h := h.2
            refine r_iadd (pc' := 187) (kX8_scan_1 30 rfl) rfl g63 ?_
            refine r_bipush 97 (pc' := 189) (kX8_scan_1 31 rfl) rfl ⟨by unfold inR; omega, rfl⟩ ?_
            have g64 := h.1
            have h := h.2
            refine r_isub (pc' := 190) (kX8_scan_1 32 rfl) rfl g64 ?_
            refine r_iconst 1 (pc' := 191) (kX8_scan_1 33 rfl) rfl (by unfold inR; omega) ?_
            have g65 := h.1
            have h := h.2
            refine r_iadd (pc' := 192) (kX8_scan_1 34 rfl) rfl g65 ?_
            refine s_put (pc' := 195) (kX8_scan_1 35 rfl) rfl fkX8_64 fnX8_4 rfl pk_int (kz186 Ln) ?_
            refine r_goto (pc' := 245) (kX8_scan_1 36 rfl) rfl ?_
            refine r_aload_n (pc' := 246) (kX8_scan_2 2 rfl) rfl rfl ?_
            refine r_dup (pc' := 247) (kX8_scan_2 3 rfl) rfl rfl ?_
            refine s_get (x := (φ62 8 6 186)) (pc' := 250) (kX8_scan_2 4 rfl) rfl fkX8_39 rfl rfl rfl (kz186 Ln) rfl ?_
            refine r_iconst 1 (pc' := 251) (kX8_scan_2 5 rfl) rfl (by unfold inR; omega) ?_
            have g66 := h.1
            have h := h.2
            refine r_iadd (pc' := 252) (kX8_scan_2 6 rfl) rfl g66 ?_
            refine s_put (pc' := 255) (kX8_scan_2 7 rfl) rfl fkX8_39 fnX8_6 rfl pk_int (kz186 Ln) ?_
            refine r_goto (pc' := 102) (kX8_scan_2 8 rfl) rfl ?_
            exact r_weak (L' := [(2, 186), (0, x1), (0, x2)]) ⟨Or.inl rfl, Or.inl rfl, Or.inl rfl, trivial⟩ (h Ln)
theorem vX8_isWord_0 {d : Nat} {φ : aF} {α : aA} {Q : Int → aF → aA → Prop} {x1 : Int} (h : ((¬ (φ 8 2 186) = 1 →
   (Q 0 φ α)) ∧
   ((φ 8 2 186) = 1 →
   ((¬ (φ 8 3 186) = x1 →
     (Q 0 φ α)) ∧
     ((φ 8 3 186) = x1 →
     (Q 1 φ α)))))) : eX8_isWord d x1 φ α Q := by
  intro Ln
  refine r_aload_n (pc' := 1) (kX8_isWord_0 0 rfl) rfl rfl ?_
  refine s_get (x := (φ 8 2 186)) (pc' := 4) (kX8_isWord_0 1 rfl) rfl fkX8_35 rfl rfl rfl (kz186 Ln) rfl ?_
  refine r_iconst 1 (pc' := 5) (kX8_isWord_0 2 rfl) rfl (by unfold inR; omega) ?_
  refine r_icmp_ne (t := 20) (pc' := 8) (kX8_isWord_0 3 rfl) rfl rfl (fun c1 => ?_) (fun c1 => ?_)
  · have h := h.1 c1
    refine r_iconst 0 (pc' := 21) (kX8_isWord_0 10 rfl) rfl (by unfold inR; omega) ?_
    exact s_zret (kX8_isWord_0 11 rfl) rfl (Or.inl rfl) h
  · have h := h.2 c1
    refine r_aload_n (pc' := 9) (kX8_isWord_0 4 rfl) rfl rfl ?_
    refine s_get (x := (φ 8 3 186)) (pc' := 12) (kX8_isWord_0 5 rfl) rfl fkX8_70 rfl rfl rfl (kz186 Ln) rfl ?_
    refine r_iload_n (pc' := 13) (kX8_isWord_0 6 rfl) rfl rfl ?_
    refine r_icmp_ne (t := 20) (pc' := 16) (kX8_isWord_0 7 rfl) rfl rfl (fun c2 => ?_) (fun c2 => ?_)
    · have h := h.1 c2
      refine r_iconst 0 (pc' := 21) (kX8_isWord_0 10 rfl) rfl (by unfold inR; omega) ?_
      exact s_zret (kX8_isWord_0 11 rfl) rfl (Or.inl rfl) h
    · have h := h.2 c2
      refine r_iconst 1 (pc' := 17) (kX8_isWord_0 8 rfl) rfl (by unfold inR; omega) ?_
      refine r_goto (pc' := 21) (kX8_isWord_0 9 rfl) rfl ?_
      exact s_zret (kX8_isWord_0 11 rfl) rfl (Or.inr rfl) h
theorem vX8_isSign_0 {d : Nat} {φ : aF} {α : aA} {Q : Int → aF → aA → Prop} {x1 : Int} (h : ((¬ (φ 8 2 186) = 3 →
   (Q 0 φ α)) ∧
   ((φ 8 2 186) = 3 →
   ((¬ (φ 8 4 186) = x1 →
     (Q 0 φ α)) ∧
     ((φ 8 4 186) = x1 →
     (Q 1 φ α)))))) : eX8_isSign d x1 φ α Q := by
  intro Ln
  refine r_aload_n (pc' := 1) (kX8_isSign_0 0 rfl) rfl rfl ?_
  refine s_get (x := (φ 8 2 186)) (pc' := 4) (kX8_isSign_0 1 rfl) rfl fkX8_35 rfl rfl rfl (kz186 Ln) rfl ?_
  refine r_iconst 3 (pc' := 5) (kX8_isSign_0 2 rfl) rfl (by unfold inR; omega) ?_
  refine r_icmp_ne (t := 20) (pc' := 8) (kX8_isSign_0 3 rfl) rfl rfl (fun c1 => ?_) (fun c1 => ?_)
  · have h := h.1 c1
    refine r_iconst 0 (pc' := 21) (kX8_isSign_0 10 rfl) rfl (by unfold inR; omega) ?_
    exact s_zret (kX8_isSign_0 11 rfl) rfl (Or.inl rfl) h
  · have h := h.2 c1
    refine r_aload_n (pc' := 9) (kX8_isSign_0 4 rfl) rfl rfl ?_
    refine s_get (x := (φ 8 4 186)) (pc' := 12) (kX8_isSign_0 5 rfl) rfl fkX8_64 rfl rfl rfl (kz186 Ln) rfl ?_
    refine r_iload_n (pc' := 13) (kX8_isSign_0 6 rfl) rfl rfl ?_
    refine r_icmp_ne (t := 20) (pc' := 16) (kX8_isSign_0 7 rfl) rfl rfl (fun c2 => ?_) (fun c2 => ?_)
    · have h := h.1 c2
      refine r_iconst 0 (pc' := 21) (kX8_isSign_0 10 rfl) rfl (by unfold inR; omega) ?_
      exact s_zret (kX8_isSign_0 11 rfl) rfl (Or.inl rfl) h
    · have h := h.2 c2
      refine r_iconst 1 (pc' := 17) (kX8_isSign_0 8 rfl) rfl (by unfold inR; omega) ?_
      refine r_goto (pc' := 21) (kX8_isSign_0 9 rfl) rfl ?_
      exact s_zret (kX8_isSign_0 11 rfl) rfl (Or.inr rfl) h
theorem vX8_length_0 {d : Nat} {φ : aF} {α : aA} {Q : Int → aF → aA → Prop} (h : inR ((φ 8 6 186) - (φ 8 5 186)) ∧ (Q ((φ 8 6 186) - (φ 8 5 186)) φ α)) : eX8_length d  φ α Q := by
  intro Ln
  refine r_aload_n (pc' := 1) (kX8_length_0 0 rfl) rfl rfl ?_
  refine s_get (x := (φ 8 6 186)) (pc' := 4) (kX8_length_0 1 rfl) rfl fkX8_39 rfl rfl rfl (kz186 Ln) rfl ?_
  refine r_aload_n (pc' := 5) (kX8_length_0 2 rfl) rfl rfl ?_
  refine s_get (x := (φ 8 5 186)) (pc' := 8) (kX8_length_0 3 rfl) rfl fkX8_58 rfl rfl rfl (kz186 Ln) rfl ?_
  have g1 := h.1
  have h := h.2
  refine r_isub (pc' := 9) (kX8_length_0 4 rfl) rfl g1 ?_
  exact s_iret (kX8_length_0 5 rfl) rfl h
abbrev jX8_findWord_2 (d : Nat) (x1 : Int) (φ : aF) (α : aA) (Q : Int → aF → aA → Prop) : Prop := R0 d mX8_findWord 2 [(2, 186), (0, x1)] [] φ α Q
theorem vX8_findWord_0 {d : Nat} {φ : aF} {α : aA} {Q : Int → aF → aA → Prop} (h : (jX8_findWord_2 d 0 φ α Q)) : eX8_findWord d  φ α Q := by
  intro Ln
  refine r_iconst 0 (pc' := 1) (kX8_findWord_0 0 rfl) rfl (by unfold inR; omega) ?_
  refine r_istore_n (L' := [(2, 186), (0, 0)]) (pc' := 2) (kX8_findWord_0 1 rfl) rfl (Nat.le_of_ble_eq_true rfl) rfl ?_
  exact r_weak (L' := [(2, 186), (0, 0)]) ⟨Or.inl rfl, Or.inl rfl, trivial⟩ (h Ln)
theorem vX8_findWord_2 {d : Nat} {φ : aF} {α : aA} {Q : Int → aF → aA → Prop} {x1 : Int} (h : ((30 ≤ x1 →
   (Q (-1) φ α)) ∧
   (¬ (30 ≤ x1) →
   ((¬ (φ 8 2 186) = 1 →
     (Q (-1) φ α)) ∧
     ((φ 8 2 186) = 1 →
     inR ((φ 8 6 186) - (φ 8 5 186)) ∧ ((6 < ((φ 8 6 186) - (φ 8 5 186)) →
       (Q (-1) φ α)) ∧
       (¬ (6 < ((φ 8 6 186) - (φ 8 5 186))) →
       (0 ≤ x1 ∧ x1 < (30 : Nat)) ∧ ((¬ (α 187 x1) = (φ 8 4 186) →
         inR (x1 + 1) ∧ (jX8_findWord_2 d (x1 + 1) φ α Q)) ∧
         ((α 187 x1) = (φ 8 4 186) →
         (Q x1 φ α)))))))))) : jX8_findWord_2 d x1 φ α Q := by
  intro Ln
  refine r_iload_n (pc' := 3) (kX8_findWord_0 2 rfl) rfl rfl ?_
  refine r_aload_n (pc' := 4) (kX8_findWord_0 3 rfl) rfl rfl ?_
  refine s_getr (v := 187) (pc' := 7) (kX8_findWord_0 4 rfl) rfl fkX8_9 rfl rfl (kz186 Ln) rfl (by decide) ?_
  refine s_alen (pc' := 8) (kX8_findWord_0 5 rfl) rfl (kz187 Ln) ⟨by decide, by decide⟩ ?_
  refine r_icmp_ge (t := 54) (pc' := 11) (kX8_findWord_0 6 rfl) rfl rfl (fun c1 => ?_) (fun c1 => ?_)
  · have h := h.1 c1
    refine r_iconst (-1) (pc' := 55) (kX8_findWord_0 29 rfl) rfl (by unfold inR; omega) ?_
    exact s_iret (kX8_findWord_0 30 rfl) rfl h
  · have h := h.2 c1
    refine r_aload_n (pc' := 12) (kX8_findWord_0 7 rfl) rfl rfl ?_
    refine s_get (x := (φ 8 2 186)) (pc' := 15) (kX8_findWord_0 8 rfl) rfl fkX8_35 rfl rfl rfl (kz186 Ln) rfl ?_
    refine r_iconst 1 (pc' := 16) (kX8_findWord_0 9 rfl) rfl (by unfold inR; omega) ?_
    refine r_icmp_ne (t := 54) (pc' := 19) (kX8_findWord_0 10 rfl) rfl rfl (fun c2 => ?_) (fun c2 => ?_)
    · have h := h.1 c2
      refine r_iconst (-1) (pc' := 55) (kX8_findWord_0 29 rfl) rfl (by unfold inR; omega) ?_
      exact s_iret (kX8_findWord_0 30 rfl) rfl h
    · have h := h.2 c2
      refine r_aload_n (pc' := 20) (kX8_findWord_0 11 rfl) rfl rfl ?_
      refine s_get (x := (φ 8 6 186)) (pc' := 23) (kX8_findWord_0 12 rfl) rfl fkX8_39 rfl rfl rfl (kz186 Ln) rfl ?_
      refine r_aload_n (pc' := 24) (kX8_findWord_0 13 rfl) rfl rfl ?_
      refine s_get (x := (φ 8 5 186)) (pc' := 27) (kX8_findWord_0 14 rfl) rfl fkX8_58 rfl rfl rfl (kz186 Ln) rfl ?_
      have g3 := h.1
      have h := h.2
      refine r_isub (pc' := 28) (kX8_findWord_0 15 rfl) rfl g3 ?_
      refine r_bipush 6 (pc' := 30) (kX8_findWord_0 16 rfl) rfl ⟨by unfold inR; omega, rfl⟩ ?_
      refine r_icmp_gt (t := 54) (pc' := 33) (kX8_findWord_0 17 rfl) rfl rfl (fun c4 => ?_) (fun c4 => ?_)
      · have h := h.1 c4
        refine r_iconst (-1) (pc' := 55) (kX8_findWord_0 29 rfl) rfl (by unfold inR; omega) ?_
        exact s_iret (kX8_findWord_0 30 rfl) rfl h
      · have h := h.2 c4
        refine r_aload_n (pc' := 34) (kX8_findWord_0 18 rfl) rfl rfl ?_
        refine s_getr (v := 187) (pc' := 37) (kX8_findWord_0 19 rfl) rfl fkX8_9 rfl rfl (kz186 Ln) rfl (by decide) ?_
        refine r_iload_n (pc' := 38) (kX8_findWord_0 20 rfl) rfl rfl ?_
        have g5 := h.1
        have h := h.2
        refine s_iald (x := (α 187 x1)) (pc' := 39) (kX8_findWord_0 21 rfl) rfl (kz187 Ln) g5 rfl ?_
        refine r_aload_n (pc' := 40) (kX8_findWord_0 22 rfl) rfl rfl ?_
        refine s_get (x := (φ 8 4 186)) (pc' := 43) (kX8_findWord_0 23 rfl) rfl fkX8_64 rfl rfl rfl (kz186 Ln) rfl ?_
        refine r_icmp_ne (t := 48) (pc' := 46) (kX8_findWord_0 24 rfl) rfl rfl (fun c6 => ?_) (fun c6 => ?_)
        · have h := h.1 c6
          have g7 := h.1
          have h := h.2
          refine r_iinc (L' := [(2, 186), (0, (x1 + 1))]) (pc' := 51) (kX8_findWord_0 27 rfl) rfl (Nat.le_of_ble_eq_true rfl) rfl g7 rfl ?_
          refine r_goto (pc' := 2) (kX8_findWord_0 28 rfl) rfl ?_
          exact r_weak (L' := [(2, 186), (0, (x1 + 1))]) ⟨Or.inl rfl, Or.inl rfl, trivial⟩ (h Ln)
        · have h := h.2 c6
          refine r_iload_n (pc' := 47) (kX8_findWord_0 25 rfl) rfl rfl ?_
          exact s_iret (kX8_findWord_0 26 rfl) rfl h
theorem vX8_isBlank_0 {d : Nat} {φ : aF} {α : aA} {Q : Int → aF → aA → Prop} {x0 : Int} (h : ((x0 = 32 →
   (Q 1 φ α)) ∧
   (¬ (x0 = 32) →
   ((¬ x0 = 10 →
     (Q 0 φ α)) ∧
     (x0 = 10 →
     (Q 1 φ α)))))) : eX8_isBlank d x0 φ α Q := by
  intro Ln
  refine r_iload_n (pc' := 1) (kX8_isBlank_0 0 rfl) rfl rfl ?_
  refine r_bipush 32 (pc' := 3) (kX8_isBlank_0 1 rfl) rfl ⟨by unfold inR; omega, rfl⟩ ?_
  refine r_icmp_eq (t := 12) (pc' := 6) (kX8_isBlank_0 2 rfl) rfl rfl (fun c1 => ?_) (fun c1 => ?_)
  · have h := h.1 c1
    refine r_iconst 1 (pc' := 13) (kX8_isBlank_0 6 rfl) rfl (by unfold inR; omega) ?_
    refine r_goto (pc' := 17) (kX8_isBlank_0 7 rfl) rfl ?_
    exact s_zret (kX8_isBlank_0 9 rfl) rfl (Or.inr rfl) h
  · have h := h.2 c1
    refine r_iload_n (pc' := 7) (kX8_isBlank_0 3 rfl) rfl rfl ?_
    refine r_bipush 10 (pc' := 9) (kX8_isBlank_0 4 rfl) rfl ⟨by unfold inR; omega, rfl⟩ ?_
    refine r_icmp_ne (t := 16) (pc' := 12) (kX8_isBlank_0 5 rfl) rfl rfl (fun c2 => ?_) (fun c2 => ?_)
    · have h := h.1 c2
      refine r_iconst 0 (pc' := 17) (kX8_isBlank_0 8 rfl) rfl (by unfold inR; omega) ?_
      exact s_zret (kX8_isBlank_0 9 rfl) rfl (Or.inl rfl) h
    · have h := h.2 c2
      refine r_iconst 1 (pc' := 13) (kX8_isBlank_0 6 rfl) rfl (by unfold inR; omega) ?_
      refine r_goto (pc' := 17) (kX8_isBlank_0 7 rfl) rfl ?_
      exact s_zret (kX8_isBlank_0 9 rfl) rfl (Or.inr rfl) h
theorem vX8_kindOf_0 {d : Nat} {φ : aF} {α : aA} {Q : Int → aF → aA → Prop} {x0 : Int} (h : ((x0 < 97 →
   ((x0 < 48 →
     ((¬ x0 = (-1) →
       (Q 3 φ α)) ∧
       (x0 = (-1) →
       (Q 0 φ α)))) ∧
     (¬ (x0 < 48) →
     ((57 < x0 →
       ((¬ x0 = (-1) →
         (Q 3 φ α)) ∧
         (x0 = (-1) →
         (Q 0 φ α)))) ∧
       (¬ (57 < x0) →
       (Q 2 φ α)))))) ∧
   (¬ (x0 < 97) →
   ((122 < x0 →
     ((x0 < 48 →
       ((¬ x0 = (-1) →
         (Q 3 φ α)) ∧
         (x0 = (-1) →
         (Q 0 φ α)))) ∧
       (¬ (x0 < 48) →
       ((57 < x0 →
         ((¬ x0 = (-1) →
           (Q 3 φ α)) ∧
           (x0 = (-1) →
           (Q 0 φ α)))) ∧
         (¬ (57 < x0) →
         (Q 2 φ α)))))) ∧
     (¬ (122 < x0) →
     (Q 1 φ α)))))) : eX8_kindOf d x0 φ α Q := by
  intro Ln
  refine r_iload_n (pc' := 1) (kX8_kindOf_0 0 rfl) rfl rfl ?_
  refine r_bipush 97 (pc' := 3) (kX8_kindOf_0 1 rfl) rfl ⟨by unfold inR; omega, rfl⟩ ?_
  refine r_icmp_lt (t := 14) (pc' := 6) (kX8_kindOf_0 2 rfl) rfl rfl (fun c1 => ?_) (fun c1 => ?_)
  · have h := h.1 c1
    refine r_iload_n (pc' := 15) (kX8_kindOf_0 8 rfl) rfl rfl ?_
    refine r_bipush 48 (pc' := 17) (kX8_kindOf_0 9 rfl) rfl ⟨by unfold inR; omega, rfl⟩ ?_
    refine r_icmp_lt (t := 28) (pc' := 20) (kX8_kindOf_0 10 rfl) rfl rfl (fun c2 => ?_) (fun c2 => ?_)
    · have h := h.1 c2
      refine r_iload_n (pc' := 29) (kX8_kindOf_0 16 rfl) rfl rfl ?_
      refine r_iconst (-1) (pc' := 30) (kX8_kindOf_0 17 rfl) rfl (by unfold inR; omega) ?_
      refine r_icmp_ne (t := 37) (pc' := 33) (kX8_kindOf_0 18 rfl) rfl rfl (fun c3 => ?_) (fun c3 => ?_)
      · have h := h.1 c3
        refine r_iconst 3 (pc' := 38) (kX8_kindOf_0 21 rfl) rfl (by unfold inR; omega) ?_
        exact s_iret (kX8_kindOf_0 22 rfl) rfl h
      · have h := h.2 c3
        refine r_iconst 0 (pc' := 34) (kX8_kindOf_0 19 rfl) rfl (by unfold inR; omega) ?_
        refine r_goto (pc' := 38) (kX8_kindOf_0 20 rfl) rfl ?_
        exact s_iret (kX8_kindOf_0 22 rfl) rfl h
    · have h := h.2 c2
      refine r_iload_n (pc' := 21) (kX8_kindOf_0 11 rfl) rfl rfl ?_
      refine r_bipush 57 (pc' := 23) (kX8_kindOf_0 12 rfl) rfl ⟨by unfold inR; omega, rfl⟩ ?_
      refine r_icmp_gt (t := 28) (pc' := 26) (kX8_kindOf_0 13 rfl) rfl rfl (fun c4 => ?_) (fun c4 => ?_)
      · have h := h.1 c4
        refine r_iload_n (pc' := 29) (kX8_kindOf_0 16 rfl) rfl rfl ?_
        refine r_iconst (-1) (pc' := 30) (kX8_kindOf_0 17 rfl) rfl (by unfold inR; omega) ?_
        refine r_icmp_ne (t := 37) (pc' := 33) (kX8_kindOf_0 18 rfl) rfl rfl (fun c5 => ?_) (fun c5 => ?_)
        · have h := h.1 c5
          refine r_iconst 3 (pc' := 38) (kX8_kindOf_0 21 rfl) rfl (by unfold inR; omega) ?_
          exact s_iret (kX8_kindOf_0 22 rfl) rfl h
        · have h := h.2 c5
          refine r_iconst 0 (pc' := 34) (kX8_kindOf_0 19 rfl) rfl (by unfold inR; omega) ?_
          refine r_goto (pc' := 38) (kX8_kindOf_0 20 rfl) rfl ?_
          exact s_iret (kX8_kindOf_0 22 rfl) rfl h
      · have h := h.2 c4
        refine r_iconst 2 (pc' := 27) (kX8_kindOf_0 14 rfl) rfl (by unfold inR; omega) ?_
        exact s_iret (kX8_kindOf_0 15 rfl) rfl h
  · have h := h.2 c1
    refine r_iload_n (pc' := 7) (kX8_kindOf_0 3 rfl) rfl rfl ?_
    refine r_bipush 122 (pc' := 9) (kX8_kindOf_0 4 rfl) rfl ⟨by unfold inR; omega, rfl⟩ ?_
    refine r_icmp_gt (t := 14) (pc' := 12) (kX8_kindOf_0 5 rfl) rfl rfl (fun c6 => ?_) (fun c6 => ?_)
    · have h := h.1 c6
      refine r_iload_n (pc' := 15) (kX8_kindOf_0 8 rfl) rfl rfl ?_
      refine r_bipush 48 (pc' := 17) (kX8_kindOf_0 9 rfl) rfl ⟨by unfold inR; omega, rfl⟩ ?_
      refine r_icmp_lt (t := 28) (pc' := 20) (kX8_kindOf_0 10 rfl) rfl rfl (fun c7 => ?_) (fun c7 => ?_)
      · have h := h.1 c7
        refine r_iload_n (pc' := 29) (kX8_kindOf_0 16 rfl) rfl rfl ?_
        refine r_iconst (-1) (pc' := 30) (kX8_kindOf_0 17 rfl) rfl (by unfold inR; omega) ?_
        refine r_icmp_ne (t := 37) (pc' := 33) (kX8_kindOf_0 18 rfl) rfl rfl (fun c8 => ?_) (fun c8 => ?_)
        · have h := h.1 c8
          refine r_iconst 3 (pc' := 38) (kX8_kindOf_0 21 rfl) rfl (by unfold inR; omega) ?_
          exact s_iret (kX8_kindOf_0 22 rfl) rfl h
        · have h := h.2 c8
          refine r_iconst 0 (pc' := 34) (kX8_kindOf_0 19 rfl) rfl (by unfold inR; omega) ?_
          refine r_goto (pc' := 38) (kX8_kindOf_0 20 rfl) rfl ?_
          exact s_iret (kX8_kindOf_0 22 rfl) rfl h
      · have h := h.2 c7
        refine r_iload_n (pc' := 21) (kX8_kindOf_0 11 rfl) rfl rfl ?_
        refine r_bipush 57 (pc' := 23) (kX8_kindOf_0 12 rfl) rfl ⟨by unfold inR; omega, rfl⟩ ?_
        refine r_icmp_gt (t := 28) (pc' := 26) (kX8_kindOf_0 13 rfl) rfl rfl (fun c9 => ?_) (fun c9 => ?_)
        · have h := h.1 c9
          refine r_iload_n (pc' := 29) (kX8_kindOf_0 16 rfl) rfl rfl ?_
          refine r_iconst (-1) (pc' := 30) (kX8_kindOf_0 17 rfl) rfl (by unfold inR; omega) ?_
          refine r_icmp_ne (t := 37) (pc' := 33) (kX8_kindOf_0 18 rfl) rfl rfl (fun c10 => ?_) (fun c10 => ?_)
          · have h := h.1 c10
            refine r_iconst 3 (pc' := 38) (kX8_kindOf_0 21 rfl) rfl (by unfold inR; omega) ?_
            exact s_iret (kX8_kindOf_0 22 rfl) rfl h
          · have h := h.2 c10
            refine r_iconst 0 (pc' := 34) (kX8_kindOf_0 19 rfl) rfl (by unfold inR; omega) ?_
            refine r_goto (pc' := 38) (kX8_kindOf_0 20 rfl) rfl ?_
            exact s_iret (kX8_kindOf_0 22 rfl) rfl h
        · have h := h.2 c9
          refine r_iconst 2 (pc' := 27) (kX8_kindOf_0 14 rfl) rfl (by unfold inR; omega) ?_
          exact s_iret (kX8_kindOf_0 15 rfl) rfl h
    · have h := h.2 c6
      refine r_iconst 1 (pc' := 13) (kX8_kindOf_0 6 rfl) rfl (by unfold inR; omega) ?_
      exact s_iret (kX8_kindOf_0 7 rfl) rfl h
abbrev jX5_readRegistry_13 (d : Nat) (x1 : Int) (φ : aF) (α : aA) (Q : Int → aF → aA → Prop) : Prop := R0 d mX5_readRegistry 13 [(2, 185), (0, x1)] [] φ α Q
theorem vX5_readRegistry_0 {d : Nat} {φ : aF} {α : aA} {Q : Int → aF → aA → Prop} (h : (eX5_begin d  φ α (fun r1 φ1 α1 =>
   (eX2_begin d 19 φ1 α1 (fun r2 φ2 α2 =>
   (jX5_readRegistry_13 (d + 1) 0 φ2 α2 Q)))))) : eX5_readRegistry (d + 1)  φ α Q := by
  intro Ln
  refine r_aload_n (pc' := 1) (kX5_readRegistry_0 0 rfl) rfl rfl ?_
  refine s_callV (As := []) (o := 185) (S := []) (S2 := fun z => []) (pc' := 4) (kX5_readRegistry_0 1 rfl) rfl rfl nkX5_begin mlX5_35 imX5_begin rfl slX5_begin rfl (Nat.le_of_ble_eq_true rfl) (Nat.le_of_ble_eq_true rfl) (kz185 Ln) h (fun z => rfl) (fun r1 φ1 α1 h => ?_)
  refine r_aload_n (pc' := 5) (kX5_readRegistry_0 2 rfl) rfl rfl ?_
  refine s_getr (v := 19) (pc' := 8) (kX5_readRegistry_0 3 rfl) rfl fkX5_24 rfl rfl (kz185 Ln) rfl (by decide) ?_
  refine s_callV (As := []) (o := 19) (S := []) (S2 := fun z => []) (pc' := 11) (kX5_readRegistry_0 4 rfl) rfl rfl nkX2_begin mlX5_38 imX2_begin rfl slX2_begin rfl (Nat.le_of_ble_eq_true rfl) (Nat.le_of_ble_eq_true rfl) (kz19 Ln) h (fun z => rfl) (fun r2 φ2 α2 h => ?_)
  refine r_iconst 0 (pc' := 12) (kX5_readRegistry_0 5 rfl) rfl (by unfold inR; omega) ?_
  refine r_istore_n (L' := [(2, 185), (0, 0)]) (pc' := 13) (kX5_readRegistry_0 6 rfl) rfl (Nat.le_of_ble_eq_true rfl) rfl ?_
  exact r_weak (L' := [(2, 185), (0, 0)]) ⟨Or.inl rfl, Or.inl rfl, trivial⟩ (h Ln)
theorem vX5_readRegistry_13 {d : Nat} {φ : aF} {α : aA} {Q : Int → aF → aA → Prop} {x1 : Int} (h : ((80 < x1 →
   (Q 0 φ α)) ∧
   (¬ (80 < x1) →
   ((x1 ≤ 0 →
     (eX5_readStatement d x1 φ α (fun r3 φ3 α3 =>
       ((r3 = 0 →
       (Q 0 φ3 α3)) ∧
       (¬ (r3 = 0) →
       (eX5_takeSign d 59 φ3 α3 (fun r5 φ5 α5 =>
         ((¬ r5 = 0 →
         inR (x1 + 1) ∧ (jX5_readRegistry_13 (d + 1) (x1 + 1) φ5 α5 Q)) ∧
         (r5 = 0 →
         (Q 0 φ5 α5)))))))))) ∧
     (¬ (x1 ≤ 0) →
     ((¬ (φ 8 2 186) = 0 →
       (eX5_readStatement d x1 φ α (fun r9 φ9 α9 =>
         ((r9 = 0 →
         (Q 0 φ9 α9)) ∧
         (¬ (r9 = 0) →
         (eX5_takeSign d 59 φ9 α9 (fun r11 φ11 α11 =>
           ((¬ r11 = 0 →
           inR (x1 + 1) ∧ (jX5_readRegistry_13 (d + 1) (x1 + 1) φ11 α11 Q)) ∧
           (r11 = 0 →
           (Q 0 φ11 α11)))))))))) ∧
       ((φ 8 2 186) = 0 →
       (Q 1 (upf φ 2 1 19 x1) α)))))))) : jX5_readRegistry_13 (d + 1) x1 φ α Q := by
  intro Ln
  refine r_iload_n (pc' := 14) (kX5_readRegistry_0 7 rfl) rfl rfl ?_
  refine r_bipush 80 (pc' := 16) (kX5_readRegistry_0 8 rfl) rfl ⟨by unfold inR; omega, rfl⟩ ?_
  refine r_icmp_gt (t := 68) (pc' := 19) (kX5_readRegistry_0 9 rfl) rfl rfl (fun c1 => ?_) (fun c1 => ?_)
  · have h := h.1 c1
    refine r_iconst 0 (pc' := 69) (kX5_readRegistry_0 34 rfl) rfl (by unfold inR; omega) ?_
    exact s_zret (kX5_readRegistry_0 35 rfl) rfl (Or.inl rfl) h
  · have h := h.2 c1
    refine r_iload_n (pc' := 20) (kX5_readRegistry_0 10 rfl) rfl rfl ?_
    refine r_if_le (t := 43) (pc' := 23) (kX5_readRegistry_0 11 rfl) rfl rfl (fun c2 => ?_) (fun c2 => ?_)
    · have h := h.1 c2
      refine r_aload_n (pc' := 44) (kX5_readRegistry_0 22 rfl) rfl rfl ?_
      refine r_iload_n (pc' := 45) (kX5_readRegistry_0 23 rfl) rfl rfl ?_
      refine s_callV (As := [(0, x1)]) (o := 185) (S := []) (S2 := fun z => [(0, z)]) (pc' := 48) (kX5_readRegistry_0 24 rfl) rfl rfl nkX5_readStatement mlX5_47 imX5_readStatement rfl slX5_readStatement rfl (Nat.le_of_ble_eq_true rfl) (Nat.le_of_ble_eq_true rfl) (kz185 Ln) h (fun z => rfl) (fun r3 φ3 α3 h => ?_)
      refine r_if_eq (t := 60) (pc' := 51) (kX5_readRegistry_0 25 rfl) rfl rfl (fun c4 => ?_) (fun c4 => ?_)
      · have h := h.1 c4
        refine r_iconst 0 (pc' := 61) (kX5_readRegistry_0 30 rfl) rfl (by unfold inR; omega) ?_
        exact s_zret (kX5_readRegistry_0 31 rfl) rfl (Or.inl rfl) h
      · have h := h.2 c4
        refine r_aload_n (pc' := 52) (kX5_readRegistry_0 26 rfl) rfl rfl ?_
        refine r_bipush 59 (pc' := 54) (kX5_readRegistry_0 27 rfl) rfl ⟨by unfold inR; omega, rfl⟩ ?_
        refine s_callV (As := [(0, 59)]) (o := 185) (S := []) (S2 := fun z => [(0, z)]) (pc' := 57) (kX5_readRegistry_0 28 rfl) rfl rfl nkX5_takeSign mlX5_51 imX5_takeSign rfl slX5_takeSign rfl (Nat.le_of_ble_eq_true rfl) (Nat.le_of_ble_eq_true rfl) (kz185 Ln) h (fun z => rfl) (fun r5 φ5 α5 h => ?_)
        refine r_if_ne (t := 62) (pc' := 60) (kX5_readRegistry_0 29 rfl) rfl rfl (fun c6 => ?_) (fun c6 => ?_)
        · have h := h.1 c6
          have g7 := h.1
          have h := h.2
          refine r_iinc (L' := [(2, 185), (0, (x1 + 1))]) (pc' := 65) (kX5_readRegistry_0 32 rfl) rfl (Nat.le_of_ble_eq_true rfl) rfl g7 rfl ?_
          refine r_goto (pc' := 13) (kX5_readRegistry_0 33 rfl) rfl ?_
          exact r_weak (L' := [(2, 185), (0, (x1 + 1))]) ⟨Or.inl rfl, Or.inl rfl, trivial⟩ (h Ln)
        · have h := h.2 c6
          refine r_iconst 0 (pc' := 61) (kX5_readRegistry_0 30 rfl) rfl (by unfold inR; omega) ?_
          exact s_zret (kX5_readRegistry_0 31 rfl) rfl (Or.inl rfl) h
    · have h := h.2 c2
      refine r_aload_n (pc' := 24) (kX5_readRegistry_0 12 rfl) rfl rfl ?_
      refine s_getr (v := 186) (pc' := 27) (kX5_readRegistry_0 13 rfl) rfl fkX5_20 rfl rfl (kz185 Ln) rfl (by decide) ?_
      refine s_get (x := (φ 8 2 186)) (pc' := 30) (kX5_readRegistry_0 14 rfl) rfl fkX5_41 rfl rfl rfl (kz186 Ln) rfl ?_
      refine r_if_ne (t := 43) (pc' := 33) (kX5_readRegistry_0 15 rfl) rfl rfl (fun c8 => ?_) (fun c8 => ?_)
      · have h := h.1 c8
        refine r_aload_n (pc' := 44) (kX5_readRegistry_0 22 rfl) rfl rfl ?_
        refine r_iload_n (pc' := 45) (kX5_readRegistry_0 23 rfl) rfl rfl ?_
        refine s_callV (As := [(0, x1)]) (o := 185) (S := []) (S2 := fun z => [(0, z)]) (pc' := 48) (kX5_readRegistry_0 24 rfl) rfl rfl nkX5_readStatement mlX5_47 imX5_readStatement rfl slX5_readStatement rfl (Nat.le_of_ble_eq_true rfl) (Nat.le_of_ble_eq_true rfl) (kz185 Ln) h (fun z => rfl) (fun r9 φ9 α9 h => ?_)
        refine r_if_eq (t := 60) (pc' := 51) (kX5_readRegistry_0 25 rfl) rfl rfl (fun c10 => ?_) (fun c10 => ?_)
        · have h := h.1 c10
          refine r_iconst 0 (pc' := 61) (kX5_readRegistry_0 30 rfl) rfl (by unfold inR; omega) ?_
          exact s_zret (kX5_readRegistry_0 31 rfl) rfl (Or.inl rfl) h
        · have h := h.2 c10
          refine r_aload_n (pc' := 52) (kX5_readRegistry_0 26 rfl) rfl rfl ?_
          refine r_bipush 59 (pc' := 54) (kX5_readRegistry_0 27 rfl) rfl ⟨by unfold inR; omega, rfl⟩ ?_
          refine s_callV (As := [(0, 59)]) (o := 185) (S := []) (S2 := fun z => [(0, z)]) (pc' := 57) (kX5_readRegistry_0 28 rfl) rfl rfl nkX5_takeSign mlX5_51 imX5_takeSign rfl slX5_takeSign rfl (Nat.le_of_ble_eq_true rfl) (Nat.le_of_ble_eq_true rfl) (kz185 Ln) h (fun z => rfl) (fun r11 φ11 α11 h => ?_)
          refine r_if_ne (t := 62) (pc' := 60) (kX5_readRegistry_0 29 rfl) rfl rfl (fun c12 => ?_) (fun c12 => ?_)
          · have h := h.1 c12
            have g13 := h.1
            have h := h.2
            refine r_iinc (L' := [(2, 185), (0, (x1 + 1))]) (pc' := 65) (kX5_readRegistry_0 32 rfl) rfl (Nat.le_of_ble_eq_true rfl) rfl g13 rfl ?_
            refine r_goto (pc' := 13) (kX5_readRegistry_0 33 rfl) rfl ?_
            exact r_weak (L' := [(2, 185), (0, (x1 + 1))]) ⟨Or.inl rfl, Or.inl rfl, trivial⟩ (h Ln)
          · have h := h.2 c12
            refine r_iconst 0 (pc' := 61) (kX5_readRegistry_0 30 rfl) rfl (by unfold inR; omega) ?_
            exact s_zret (kX5_readRegistry_0 31 rfl) rfl (Or.inl rfl) h
      · have h := h.2 c8
        refine r_aload_n (pc' := 34) (kX5_readRegistry_0 16 rfl) rfl rfl ?_
        refine s_getr (v := 19) (pc' := 37) (kX5_readRegistry_0 17 rfl) rfl fkX5_24 rfl rfl (kz185 Ln) rfl (by decide) ?_
        refine r_iload_n (pc' := 38) (kX5_readRegistry_0 18 rfl) rfl rfl ?_
        refine s_put (pc' := 41) (kX5_readRegistry_0 19 rfl) rfl fkX5_44 fnX2_1 rfl pk_int (kz19 Ln) ?_
        refine r_iconst 1 (pc' := 42) (kX5_readRegistry_0 20 rfl) rfl (by unfold inR; omega) ?_
        exact s_zret (kX5_readRegistry_0 21 rfl) rfl (Or.inr rfl) h
theorem vX5_readQuestion_0 {d : Nat} {φ : aF} {α : aA} {Q : Int → aF → aA → Prop} (h : (eX5_begin d  φ α (fun r1 φ1 α1 =>
   ((¬ (φ1 8 2 186) = 1 →
   (eX5_unfit d  φ1 α1 (fun r3 φ3 α3 =>
     (Q (-1) φ3 α3)))) ∧
   ((φ1 8 2 186) = 1 →
   ((24 ≤ (φ1 8 3 186) →
     (eX8_scan d  φ1 α1 (fun r5 φ5 α5 =>
       (eX5_speak d 7 26 φ5 α5 (fun r6 φ6 α6 =>
       (((φ1 8 3 186) = 24 →
       (eX5_readTest d 0 φ6 α6 (fun r8 φ8 α8 =>
         ((r8 = 0 →
         (Q (-1) φ8 α8)) ∧
         (¬ (r8 = 0) →
         (((φ8 8 2 186) = 0 →
           (Q (φ1 8 3 186) φ8 α8)) ∧
           (¬ ((φ8 8 2 186) = 0) →
           (eX5_unfit d  φ8 α8 (fun r11 φ11 α11 =>
             ((r11 = 0 →
             (Q (-1) φ11 α11)) ∧
             (¬ (r11 = 0) →
             (Q (φ1 8 3 186) φ11 α11)))))))))))) ∧
       (¬ ((φ1 8 3 186) = 24) →
       (((φ1 8 3 186) = 25 →
         (eX5_readTest d 0 φ6 α6 (fun r14 φ14 α14 =>
           ((r14 = 0 →
           (Q (-1) φ14 α14)) ∧
           (¬ (r14 = 0) →
           (((φ14 8 2 186) = 0 →
             (Q (φ1 8 3 186) φ14 α14)) ∧
             (¬ ((φ14 8 2 186) = 0) →
             (eX5_unfit d  φ14 α14 (fun r17 φ17 α17 =>
               ((r17 = 0 →
               (Q (-1) φ17 α17)) ∧
               (¬ (r17 = 0) →
               (Q (φ1 8 3 186) φ17 α17)))))))))))) ∧
         (¬ ((φ1 8 3 186) = 25) →
         ((¬ (φ1 8 3 186) = 26 →
           (eX5_readSum d 0 φ6 α6 (fun r20 φ20 α20 =>
             ((r20 = 0 →
             (Q (-1) φ20 α20)) ∧
             (¬ (r20 = 0) →
             (((φ20 8 2 186) = 0 →
               (Q (φ1 8 3 186) φ20 α20)) ∧
               (¬ ((φ20 8 2 186) = 0) →
               (eX5_unfit d  φ20 α20 (fun r23 φ23 α23 =>
                 ((r23 = 0 →
                 (Q (-1) φ23 α23)) ∧
                 (¬ (r23 = 0) →
                 (Q (φ1 8 3 186) φ23 α23)))))))))))) ∧
           ((φ1 8 3 186) = 26 →
           (eX5_readTest d 0 φ6 α6 (fun r25 φ25 α25 =>
             ((r25 = 0 →
             (Q (-1) φ25 α25)) ∧
             (¬ (r25 = 0) →
             (((φ25 8 2 186) = 0 →
               (Q (φ1 8 3 186) φ25 α25)) ∧
               (¬ ((φ25 8 2 186) = 0) →
               (eX5_unfit d  φ25 α25 (fun r28 φ28 α28 =>
                 ((r28 = 0 →
                 (Q (-1) φ28 α28)) ∧
                 (¬ (r28 = 0) →
                 (Q (φ1 8 3 186) φ28 α28)))))))))))))))))))))) ∧
     (¬ (24 ≤ (φ1 8 3 186)) →
     (eX5_unfit d  φ1 α1 (fun r30 φ30 α30 =>
       (Q (-1) φ30 α30)))))))))) : eX5_readQuestion (d + 1)  φ α Q := by
  intro Ln
  refine r_aload_n (pc' := 1) (kX5_readQuestion_0 0 rfl) rfl rfl ?_
  refine s_callV (As := []) (o := 185) (S := []) (S2 := fun z => []) (pc' := 4) (kX5_readQuestion_0 1 rfl) rfl rfl nkX5_begin mlX5_35 imX5_begin rfl slX5_begin rfl (Nat.le_of_ble_eq_true rfl) (Nat.le_of_ble_eq_true rfl) (kz185 Ln) h (fun z => rfl) (fun r1 φ1 α1 h => ?_)
  refine r_aload_n (pc' := 5) (kX5_readQuestion_0 2 rfl) rfl rfl ?_
  refine s_getr (v := 186) (pc' := 8) (kX5_readQuestion_0 3 rfl) rfl fkX5_20 rfl rfl (kz185 Ln) rfl (by decide) ?_
  refine s_get (x := (φ1 8 2 186)) (pc' := 11) (kX5_readQuestion_0 4 rfl) rfl fkX5_41 rfl rfl rfl (kz186 Ln) rfl ?_
  refine r_iconst 1 (pc' := 12) (kX5_readQuestion_0 5 rfl) rfl (by unfold inR; omega) ?_
  refine r_icmp_ne (t := 25) (pc' := 15) (kX5_readQuestion_0 6 rfl) rfl rfl (fun c2 => ?_) (fun c2 => ?_)
  · have h := h.1 c2
    refine r_iconst (-1) (pc' := 26) (kX5_readQuestion_0 11 rfl) rfl (by unfold inR; omega) ?_
    refine r_istore_n (L' := [(2, 185), (0, (-1)), (9, 0), (9, 0)]) (pc' := 27) (kX5_readQuestion_0 12 rfl) rfl (Nat.le_of_ble_eq_true rfl) rfl ?_
    refine r_iload_n (pc' := 28) (kX5_readQuestion_0 13 rfl) rfl rfl ?_
    refine r_bipush 24 (pc' := 30) (kX5_readQuestion_0 14 rfl) rfl ⟨by unfold inR; omega, rfl⟩ ?_
    refine r_icmp_ge (t := 40) (pc' := 33) (kX5_readQuestion_0 15 rfl) rfl rfl (fun cz => absurd cz (by decide)) (fun _ => ?_)
    refine r_aload_n (pc' := 34) (kX5_readQuestion_0 16 rfl) rfl rfl ?_
    refine s_callV (As := []) (o := 185) (S := []) (S2 := fun z => [(0, z)]) (pc' := 37) (kX5_readQuestion_0 17 rfl) rfl rfl nkX5_unfit mlX5_57 imX5_unfit rfl slX5_unfit rfl (Nat.le_of_ble_eq_true rfl) (Nat.le_of_ble_eq_true rfl) (kz185 Ln) h (fun z => rfl) (fun r3 φ3 α3 h => ?_)
    refine r_pop (pc' := 38) (kX5_readQuestion_0 18 rfl) rfl rfl ?_
    refine r_iconst (-1) (pc' := 39) (kX5_readQuestion_0 19 rfl) rfl (by unfold inR; omega) ?_
    exact s_iret (kX5_readQuestion_0 20 rfl) rfl h
  · have h := h.2 c2
    refine r_aload_n (pc' := 16) (kX5_readQuestion_0 7 rfl) rfl rfl ?_
    refine s_getr (v := 186) (pc' := 19) (kX5_readQuestion_0 8 rfl) rfl fkX5_20 rfl rfl (kz185 Ln) rfl (by decide) ?_
    refine s_get (x := (φ1 8 3 186)) (pc' := 22) (kX5_readQuestion_0 9 rfl) rfl fkX5_54 rfl rfl rfl (kz186 Ln) rfl ?_
    refine r_goto (pc' := 26) (kX5_readQuestion_0 10 rfl) rfl ?_
    refine r_istore_n (L' := [(2, 185), (0, (φ1 8 3 186)), (9, 0), (9, 0)]) (pc' := 27) (kX5_readQuestion_0 12 rfl) rfl (Nat.le_of_ble_eq_true rfl) rfl ?_
    refine r_iload_n (pc' := 28) (kX5_readQuestion_0 13 rfl) rfl rfl ?_
    refine r_bipush 24 (pc' := 30) (kX5_readQuestion_0 14 rfl) rfl ⟨by unfold inR; omega, rfl⟩ ?_
    refine r_icmp_ge (t := 40) (pc' := 33) (kX5_readQuestion_0 15 rfl) rfl rfl (fun c4 => ?_) (fun c4 => ?_)
    · have h := h.1 c4
      refine r_aload_n (pc' := 41) (kX5_readQuestion_0 21 rfl) rfl rfl ?_
      refine s_getr (v := 186) (pc' := 44) (kX5_readQuestion_0 22 rfl) rfl fkX5_20 rfl rfl (kz185 Ln) rfl (by decide) ?_
      refine s_callV (As := []) (o := 186) (S := []) (S2 := fun z => []) (pc' := 47) (kX5_readQuestion_0 23 rfl) rfl rfl nkX8_scan mlX5_61 imX8_scan rfl slX8_scan rfl (Nat.le_of_ble_eq_true rfl) (Nat.le_of_ble_eq_true rfl) (kz186 Ln) h (fun z => rfl) (fun r5 φ5 α5 h => ?_)
      refine r_aload_n (pc' := 48) (kX5_readQuestion_0 24 rfl) rfl rfl ?_
      refine r_aload_n (pc' := 49) (kX5_readQuestion_0 25 rfl) rfl rfl ?_
      refine s_getr (v := 7) (pc' := 52) (kX5_readQuestion_0 26 rfl) rfl fkX5_28 rfl rfl (kz185 Ln) rfl (by decide) ?_
      refine r_bipush 26 (pc' := 54) (kX5_readQuestion_0 27 rfl) rfl ⟨by unfold inR; omega, rfl⟩ ?_
      refine s_callV (As := [(2, 7), (0, 26)]) (o := 185) (S := []) (S2 := fun z => []) (pc' := 57) (kX5_readQuestion_0 28 rfl) rfl rfl nkX5_speak mlX5_64 imX5_speak rfl slX5_speak rfl (Nat.le_of_ble_eq_true rfl) (Nat.le_of_ble_eq_true rfl) (kz185 Ln) h (fun z => rfl) (fun r6 φ6 α6 h => ?_)
      refine r_iload_n (pc' := 58) (kX5_readQuestion_0 29 rfl) rfl rfl ?_
      refine r_bipush 24 (pc' := 60) (kX5_readQuestion_0 30 rfl) rfl ⟨by unfold inR; omega, rfl⟩ ?_
      refine r_icmp_eq (t := 75) (pc' := 63) (kX5_readQuestion_0 31 rfl) rfl rfl (fun c7 => ?_) (fun c7 => ?_)
      · have h := h.1 c7
        refine r_iconst 1 (pc' := 76) (kX5_readQuestion_0 38 rfl) rfl (by unfold inR; omega) ?_
        refine r_goto (pc' := 80) (kX5_readQuestion_0 39 rfl) rfl ?_
        refine r_istore_n (L' := [(2, 185), (0, (φ1 8 3 186)), (0, 1), (9, 0)]) (pc' := 81) (kX5_readQuestion_0 41 rfl) rfl (Nat.le_of_ble_eq_true rfl) rfl ?_
        refine r_iload_n (pc' := 82) (kX5_readQuestion_0 42 rfl) rfl rfl ?_
        refine r_if_eq (t := 93) (pc' := 85) (kX5_readQuestion_0 43 rfl) rfl rfl (fun cz => absurd cz (by decide)) (fun _ => ?_)
        refine r_aload_n (pc' := 86) (kX5_readQuestion_0 44 rfl) rfl rfl ?_
        refine r_iconst 0 (pc' := 87) (kX5_readQuestion_0 45 rfl) rfl (by unfold inR; omega) ?_
        refine s_callV (As := [(0, 0)]) (o := 185) (S := []) (S2 := fun z => [(0, z)]) (pc' := 90) (kX5_readQuestion_0 46 rfl) rfl rfl nkX5_readTest mlX5_68 imX5_readTest rfl slX5_readTest rfl (Nat.le_of_ble_eq_true rfl) (Nat.le_of_ble_eq_true rfl) (kz185 Ln) h (fun z => rfl) (fun r8 φ8 α8 h => ?_)
        refine r_goto (pc' := 98) (kX5_readQuestion_0 47 rfl) rfl ?_
        refine r_istore_n (L' := [(2, 185), (0, (φ1 8 3 186)), (0, 1), (0, r8)]) (pc' := 99) (kX5_readQuestion_0 51 rfl) rfl (Nat.le_of_ble_eq_true rfl) rfl ?_
        refine r_iload_n (pc' := 100) (kX5_readQuestion_0 52 rfl) rfl rfl ?_
        refine r_if_eq (t := 118) (pc' := 103) (kX5_readQuestion_0 53 rfl) rfl rfl (fun c9 => ?_) (fun c9 => ?_)
        · have h := h.1 c9
          refine r_iload_n (pc' := 119) (kX5_readQuestion_1 1 rfl) rfl rfl ?_
          refine r_if_eq (t := 126) (pc' := 122) (kX5_readQuestion_1 2 rfl) rfl rfl (fun _ => ?_) (fun cz => absurd c9 cz)
          refine r_iconst (-1) (pc' := 127) (kX5_readQuestion_1 5 rfl) rfl (by unfold inR; omega) ?_
          exact s_iret (kX5_readQuestion_1 6 rfl) rfl h
        · have h := h.2 c9
          refine r_aload_n (pc' := 104) (kX5_readQuestion_0 54 rfl) rfl rfl ?_
          refine s_getr (v := 186) (pc' := 107) (kX5_readQuestion_0 55 rfl) rfl fkX5_20 rfl rfl (kz185 Ln) rfl (by decide) ?_
          refine s_get (x := (φ8 8 2 186)) (pc' := 110) (kX5_readQuestion_0 56 rfl) rfl fkX5_41 rfl rfl rfl (kz186 Ln) rfl ?_
          refine r_if_eq (t := 118) (pc' := 113) (kX5_readQuestion_0 57 rfl) rfl rfl (fun c10 => ?_) (fun c10 => ?_)
          · have h := h.1 c10
            refine r_iload_n (pc' := 119) (kX5_readQuestion_1 1 rfl) rfl rfl ?_
            refine r_if_eq (t := 126) (pc' := 122) (kX5_readQuestion_1 2 rfl) rfl rfl (fun cz => absurd cz c9) (fun _ => ?_)
            refine r_iload_n (pc' := 123) (kX5_readQuestion_1 3 rfl) rfl rfl ?_
            refine r_goto (pc' := 127) (kX5_readQuestion_1 4 rfl) rfl ?_
            exact s_iret (kX5_readQuestion_1 6 rfl) rfl h
          · have h := h.2 c10
            refine r_aload_n (pc' := 114) (kX5_readQuestion_0 58 rfl) rfl rfl ?_
            refine s_callV (As := []) (o := 185) (S := []) (S2 := fun z => [(0, z)]) (pc' := 117) (kX5_readQuestion_0 59 rfl) rfl rfl nkX5_unfit mlX5_57 imX5_unfit rfl slX5_unfit rfl (Nat.le_of_ble_eq_true rfl) (Nat.le_of_ble_eq_true rfl) (kz185 Ln) h (fun z => rfl) (fun r11 φ11 α11 h => ?_)
            refine r_istore_n (L' := [(2, 185), (0, (φ1 8 3 186)), (0, 1), (0, r11)]) (pc' := 118) (kX5_readQuestion_1 0 rfl) rfl (Nat.le_of_ble_eq_true rfl) rfl ?_
            refine r_iload_n (pc' := 119) (kX5_readQuestion_1 1 rfl) rfl rfl ?_
            refine r_if_eq (t := 126) (pc' := 122) (kX5_readQuestion_1 2 rfl) rfl rfl (fun c12 => ?_) (fun c12 => ?_)
            · have h := h.1 c12
              refine r_iconst (-1) (pc' := 127) (kX5_readQuestion_1 5 rfl) rfl (by unfold inR; omega) ?_
              exact s_iret (kX5_readQuestion_1 6 rfl) rfl h
            · have h := h.2 c12
              refine r_iload_n (pc' := 123) (kX5_readQuestion_1 3 rfl) rfl rfl ?_
              refine r_goto (pc' := 127) (kX5_readQuestion_1 4 rfl) rfl ?_
              exact s_iret (kX5_readQuestion_1 6 rfl) rfl h
      · have h := h.2 c7
        refine r_iload_n (pc' := 64) (kX5_readQuestion_0 32 rfl) rfl rfl ?_
        refine r_bipush 25 (pc' := 66) (kX5_readQuestion_0 33 rfl) rfl ⟨by unfold inR; omega, rfl⟩ ?_
        refine r_icmp_eq (t := 75) (pc' := 69) (kX5_readQuestion_0 34 rfl) rfl rfl (fun c13 => ?_) (fun c13 => ?_)
        · have h := h.1 c13
          refine r_iconst 1 (pc' := 76) (kX5_readQuestion_0 38 rfl) rfl (by unfold inR; omega) ?_
          refine r_goto (pc' := 80) (kX5_readQuestion_0 39 rfl) rfl ?_
          refine r_istore_n (L' := [(2, 185), (0, (φ1 8 3 186)), (0, 1), (9, 0)]) (pc' := 81) (kX5_readQuestion_0 41 rfl) rfl (Nat.le_of_ble_eq_true rfl) rfl ?_
          refine r_iload_n (pc' := 82) (kX5_readQuestion_0 42 rfl) rfl rfl ?_
          refine r_if_eq (t := 93) (pc' := 85) (kX5_readQuestion_0 43 rfl) rfl rfl (fun cz => absurd cz (by decide)) (fun _ => ?_)
          refine r_aload_n (pc' := 86) (kX5_readQuestion_0 44 rfl) rfl rfl ?_
          refine r_iconst 0 (pc' := 87) (kX5_readQuestion_0 45 rfl) rfl (by unfold inR; omega) ?_
          refine s_callV (As := [(0, 0)]) (o := 185) (S := []) (S2 := fun z => [(0, z)]) (pc' := 90) (kX5_readQuestion_0 46 rfl) rfl rfl nkX5_readTest mlX5_68 imX5_readTest rfl slX5_readTest rfl (Nat.le_of_ble_eq_true rfl) (Nat.le_of_ble_eq_true rfl) (kz185 Ln) h (fun z => rfl) (fun r14 φ14 α14 h => ?_)
          refine r_goto (pc' := 98) (kX5_readQuestion_0 47 rfl) rfl ?_
          refine r_istore_n (L' := [(2, 185), (0, (φ1 8 3 186)), (0, 1), (0, r14)]) (pc' := 99) (kX5_readQuestion_0 51 rfl) rfl (Nat.le_of_ble_eq_true rfl) rfl ?_
          refine r_iload_n (pc' := 100) (kX5_readQuestion_0 52 rfl) rfl rfl ?_
          refine r_if_eq (t := 118) (pc' := 103) (kX5_readQuestion_0 53 rfl) rfl rfl (fun c15 => ?_) (fun c15 => ?_)
          · have h := h.1 c15
            refine r_iload_n (pc' := 119) (kX5_readQuestion_1 1 rfl) rfl rfl ?_
            refine r_if_eq (t := 126) (pc' := 122) (kX5_readQuestion_1 2 rfl) rfl rfl (fun _ => ?_) (fun cz => absurd c15 cz)
            refine r_iconst (-1) (pc' := 127) (kX5_readQuestion_1 5 rfl) rfl (by unfold inR; omega) ?_
            exact s_iret (kX5_readQuestion_1 6 rfl) rfl h
          · have h := h.2 c15
            refine r_aload_n (pc' := 104) (kX5_readQuestion_0 54 rfl) rfl rfl ?_
            refine s_getr (v := 186) (pc' := 107) (kX5_readQuestion_0 55 rfl) rfl fkX5_20 rfl rfl (kz185 Ln) rfl (by decide) ?_
            refine s_get (x := (φ14 8 2 186)) (pc' := 110) (kX5_readQuestion_0 56 rfl) rfl fkX5_41 rfl rfl rfl (kz186 Ln) rfl ?_
            refine r_if_eq (t := 118) (pc' := 113) (kX5_readQuestion_0 57 rfl) rfl rfl (fun c16 => ?_) (fun c16 => ?_)
            · have h := h.1 c16
              refine r_iload_n (pc' := 119) (kX5_readQuestion_1 1 rfl) rfl rfl ?_
              refine r_if_eq (t := 126) (pc' := 122) (kX5_readQuestion_1 2 rfl) rfl rfl (fun cz => absurd cz c15) (fun _ => ?_)
              refine r_iload_n (pc' := 123) (kX5_readQuestion_1 3 rfl) rfl rfl ?_
              refine r_goto (pc' := 127) (kX5_readQuestion_1 4 rfl) rfl ?_
              exact s_iret (kX5_readQuestion_1 6 rfl) rfl h
            · have h := h.2 c16
              refine r_aload_n (pc' := 114) (kX5_readQuestion_0 58 rfl) rfl rfl ?_
              refine s_callV (As := []) (o := 185) (S := []) (S2 := fun z => [(0, z)]) (pc' := 117) (kX5_readQuestion_0 59 rfl) rfl rfl nkX5_unfit mlX5_57 imX5_unfit rfl slX5_unfit rfl (Nat.le_of_ble_eq_true rfl) (Nat.le_of_ble_eq_true rfl) (kz185 Ln) h (fun z => rfl) (fun r17 φ17 α17 h => ?_)
              refine r_istore_n (L' := [(2, 185), (0, (φ1 8 3 186)), (0, 1), (0, r17)]) (pc' := 118) (kX5_readQuestion_1 0 rfl) rfl (Nat.le_of_ble_eq_true rfl) rfl ?_
              refine r_iload_n (pc' := 119) (kX5_readQuestion_1 1 rfl) rfl rfl ?_
              refine r_if_eq (t := 126) (pc' := 122) (kX5_readQuestion_1 2 rfl) rfl rfl (fun c18 => ?_) (fun c18 => ?_)
              · have h := h.1 c18
                refine r_iconst (-1) (pc' := 127) (kX5_readQuestion_1 5 rfl) rfl (by unfold inR; omega) ?_
                exact s_iret (kX5_readQuestion_1 6 rfl) rfl h
              · have h := h.2 c18
                refine r_iload_n (pc' := 123) (kX5_readQuestion_1 3 rfl) rfl rfl ?_
                refine r_goto (pc' := 127) (kX5_readQuestion_1 4 rfl) rfl ?_
                exact s_iret (kX5_readQuestion_1 6 rfl) rfl h
        · have h := h.2 c13
          refine r_iload_n (pc' := 70) (kX5_readQuestion_0 35 rfl) rfl rfl ?_
          refine r_bipush 26 (pc' := 72) (kX5_readQuestion_0 36 rfl) rfl ⟨by unfold inR; omega, rfl⟩ ?_
          refine r_icmp_ne (t := 79) (pc' := 75) (kX5_readQuestion_0 37 rfl) rfl rfl (fun c19 => ?_) (fun c19 => ?_)
          · have h := h.1 c19
            refine r_iconst 0 (pc' := 80) (kX5_readQuestion_0 40 rfl) rfl (by unfold inR; omega) ?_
            refine r_istore_n (L' := [(2, 185), (0, (φ1 8 3 186)), (0, 0), (9, 0)]) (pc' := 81) (kX5_readQuestion_0 41 rfl) rfl (Nat.le_of_ble_eq_true rfl) rfl ?_
            refine r_iload_n (pc' := 82) (kX5_readQuestion_0 42 rfl) rfl rfl ?_
            refine r_if_eq (t := 93) (pc' := 85) (kX5_readQuestion_0 43 rfl) rfl rfl (fun _ => ?_) (fun cz => absurd cz (by decide))
            refine r_aload_n (pc' := 94) (kX5_readQuestion_0 48 rfl) rfl rfl ?_
            refine r_iconst 0 (pc' := 95) (kX5_readQuestion_0 49 rfl) rfl (by unfold inR; omega) ?_
            refine s_callV (As := [(0, 0)]) (o := 185) (S := []) (S2 := fun z => [(0, z)]) (pc' := 98) (kX5_readQuestion_0 50 rfl) rfl rfl nkX5_readSum mlX5_71 imX5_readSum rfl slX5_readSum rfl (Nat.le_of_ble_eq_true rfl) (Nat.le_of_ble_eq_true rfl) (kz185 Ln) h (fun z => rfl) (fun r20 φ20 α20 h => ?_)
            refine r_istore_n (L' := [(2, 185), (0, (φ1 8 3 186)), (0, 0), (0, r20)]) (pc' := 99) (kX5_readQuestion_0 51 rfl) rfl (Nat.le_of_ble_eq_true rfl) rfl ?_
            refine r_iload_n (pc' := 100) (kX5_readQuestion_0 52 rfl) rfl rfl ?_
            refine r_if_eq (t := 118) (pc' := 103) (kX5_readQuestion_0 53 rfl) rfl rfl (fun c21 => ?_) (fun c21 => ?_)
            · have h := h.1 c21
              refine r_iload_n (pc' := 119) (kX5_readQuestion_1 1 rfl) rfl rfl ?_
              refine r_if_eq (t := 126) (pc' := 122) (kX5_readQuestion_1 2 rfl) rfl rfl (fun _ => ?_) (fun cz => absurd c21 cz)
              refine r_iconst (-1) (pc' := 127) (kX5_readQuestion_1 5 rfl) rfl (by unfold inR; omega) ?_
              exact s_iret (kX5_readQuestion_1 6 rfl) rfl h
            · have h := h.2 c21
              refine r_aload_n (pc' := 104) (kX5_readQuestion_0 54 rfl) rfl rfl ?_
              refine s_getr (v := 186) (pc' := 107) (kX5_readQuestion_0 55 rfl) rfl fkX5_20 rfl rfl (kz185 Ln) rfl (by decide) ?_
              refine s_get (x := (φ20 8 2 186)) (pc' := 110) (kX5_readQuestion_0 56 rfl) rfl fkX5_41 rfl rfl rfl (kz186 Ln) rfl ?_
              refine r_if_eq (t := 118) (pc' := 113) (kX5_readQuestion_0 57 rfl) rfl rfl (fun c22 => ?_) (fun c22 => ?_)
              · have h := h.1 c22
                refine r_iload_n (pc' := 119) (kX5_readQuestion_1 1 rfl) rfl rfl ?_
                refine r_if_eq (t := 126) (pc' := 122) (kX5_readQuestion_1 2 rfl) rfl rfl (fun cz => absurd cz c21) (fun _ => ?_)
                refine r_iload_n (pc' := 123) (kX5_readQuestion_1 3 rfl) rfl rfl ?_
                refine r_goto (pc' := 127) (kX5_readQuestion_1 4 rfl) rfl ?_
                exact s_iret (kX5_readQuestion_1 6 rfl) rfl h
              · have h := h.2 c22
                refine r_aload_n (pc' := 114) (kX5_readQuestion_0 58 rfl) rfl rfl ?_
                refine s_callV (As := []) (o := 185) (S := []) (S2 := fun z => [(0, z)]) (pc' := 117) (kX5_readQuestion_0 59 rfl) rfl rfl nkX5_unfit mlX5_57 imX5_unfit rfl slX5_unfit rfl (Nat.le_of_ble_eq_true rfl) (Nat.le_of_ble_eq_true rfl) (kz185 Ln) h (fun z => rfl) (fun r23 φ23 α23 h => ?_)
                refine r_istore_n (L' := [(2, 185), (0, (φ1 8 3 186)), (0, 0), (0, r23)]) (pc' := 118) (kX5_readQuestion_1 0 rfl) rfl (Nat.le_of_ble_eq_true rfl) rfl ?_
                refine r_iload_n (pc' := 119) (kX5_readQuestion_1 1 rfl) rfl rfl ?_
                refine r_if_eq (t := 126) (pc' := 122) (kX5_readQuestion_1 2 rfl) rfl rfl (fun c24 => ?_) (fun c24 => ?_)
                · have h := h.1 c24
                  refine r_iconst (-1) (pc' := 127) (kX5_readQuestion_1 5 rfl) rfl (by unfold inR; omega) ?_
                  exact s_iret (kX5_readQuestion_1 6 rfl) rfl h
                · have h := h.2 c24
                  refine r_iload_n (pc' := 123) (kX5_readQuestion_1 3 rfl) rfl rfl ?_
                  refine r_goto (pc' := 127) (kX5_readQuestion_1 4 rfl) rfl ?_
                  exact s_iret (kX5_readQuestion_1 6 rfl) rfl h
          · have h := h.2 c19
            refine r_iconst 1 (pc' := 76) (kX5_readQuestion_0 38 rfl) rfl (by unfold inR; omega) ?_
            refine r_goto (pc' := 80) (kX5_readQuestion_0 39 rfl) rfl ?_
            refine r_istore_n (L' := [(2, 185), (0, (φ1 8 3 186)), (0, 1), (9, 0)]) (pc' := 81) (kX5_readQuestion_0 41 rfl) rfl (Nat.le_of_ble_eq_true rfl) rfl ?_
            refine r_iload_n (pc' := 82) (kX5_readQuestion_0 42 rfl) rfl rfl ?_
            refine r_if_eq (t := 93) (pc' := 85) (kX5_readQuestion_0 43 rfl) rfl rfl (fun cz => absurd cz (by decide)) (fun _ => ?_)
            refine r_aload_n (pc' := 86) (kX5_readQuestion_0 44 rfl) rfl rfl ?_
            refine r_iconst 0 (pc' := 87) (kX5_readQuestion_0 45 rfl) rfl (by unfold inR; omega) ?_
            refine s_callV (As := [(0, 0)]) (o := 185) (S := []) (S2 := fun z => [(0, z)]) (pc' := 90) (kX5_readQuestion_0 46 rfl) rfl rfl nkX5_readTest mlX5_68 imX5_readTest rfl slX5_readTest rfl (Nat.le_of_ble_eq_true rfl) (Nat.le_of_ble_eq_true rfl) (kz185 Ln) h (fun z => rfl) (fun r25 φ25 α25 h => ?_)
            refine r_goto (pc' := 98) (kX5_readQuestion_0 47 rfl) rfl ?_
            refine r_istore_n (L' := [(2, 185), (0, (φ1 8 3 186)), (0, 1), (0, r25)]) (pc' := 99) (kX5_readQuestion_0 51 rfl) rfl (Nat.le_of_ble_eq_true rfl) rfl ?_
            refine r_iload_n (pc' := 100) (kX5_readQuestion_0 52 rfl) rfl rfl ?_
            refine r_if_eq (t := 118) (pc' := 103) (kX5_readQuestion_0 53 rfl) rfl rfl (fun c26 => ?_) (fun c26 => ?_)
            · have h := h.1 c26
              refine r_iload_n (pc' := 119) (kX5_readQuestion_1 1 rfl) rfl rfl ?_
              refine r_if_eq (t := 126) (pc' := 122) (kX5_readQuestion_1 2 rfl) rfl rfl (fun _ => ?_) (fun cz => absurd c26 cz)
              refine r_iconst (-1) (pc' := 127) (kX5_readQuestion_1 5 rfl) rfl (by unfold inR; omega) ?_
              exact s_iret (kX5_readQuestion_1 6 rfl) rfl h
            · have h := h.2 c26
              refine r_aload_n (pc' := 104) (kX5_readQuestion_0 54 rfl) rfl rfl ?_
              refine s_getr (v := 186) (pc' := 107) (kX5_readQuestion_0 55 rfl) rfl fkX5_20 rfl rfl (kz185 Ln) rfl (by decide) ?_
              refine s_get (x := (φ25 8 2 186)) (pc' := 110) (kX5_readQuestion_0 56 rfl) rfl fkX5_41 rfl rfl rfl (kz186 Ln) rfl ?_
              refine r_if_eq (t := 118) (pc' := 113) (kX5_readQuestion_0 57 rfl) rfl rfl (fun c27 => ?_) (fun c27 => ?_)
              · have h := h.1 c27
                refine r_iload_n (pc' := 119) (kX5_readQuestion_1 1 rfl) rfl rfl ?_
                refine r_if_eq (t := 126) (pc' := 122) (kX5_readQuestion_1 2 rfl) rfl rfl (fun cz => absurd cz c26) (fun _ => ?_)
                refine r_iload_n (pc' := 123) (kX5_readQuestion_1 3 rfl) rfl rfl ?_
                refine r_goto (pc' := 127) (kX5_readQuestion_1 4 rfl) rfl ?_
                exact s_iret (kX5_readQuestion_1 6 rfl) rfl h
              · have h := h.2 c27
                refine r_aload_n (pc' := 114) (kX5_readQuestion_0 58 rfl) rfl rfl ?_
                refine s_callV (As := []) (o := 185) (S := []) (S2 := fun z => [(0, z)]) (pc' := 117) (kX5_readQuestion_0 59 rfl) rfl rfl nkX5_unfit mlX5_57 imX5_unfit rfl slX5_unfit rfl (Nat.le_of_ble_eq_true rfl) (Nat.le_of_ble_eq_true rfl) (kz185 Ln) h (fun z => rfl) (fun r28 φ28 α28 h => ?_)
                refine r_istore_n (L' := [(2, 185), (0, (φ1 8 3 186)), (0, 1), (0, r28)]) (pc' := 118) (kX5_readQuestion_1 0 rfl) rfl (Nat.le_of_ble_eq_true rfl) rfl ?_
                refine r_iload_n (pc' := 119) (kX5_readQuestion_1 1 rfl) rfl rfl ?_
                refine r_if_eq (t := 126) (pc' := 122) (kX5_readQuestion_1 2 rfl) rfl rfl (fun c29 => ?_) (fun c29 => ?_)
                · have h := h.1 c29
                  refine r_iconst (-1) (pc' := 127) (kX5_readQuestion_1 5 rfl) rfl (by unfold inR; omega) ?_
                  exact s_iret (kX5_readQuestion_1 6 rfl) rfl h
                · have h := h.2 c29
                  refine r_iload_n (pc' := 123) (kX5_readQuestion_1 3 rfl) rfl rfl ?_
                  refine r_goto (pc' := 127) (kX5_readQuestion_1 4 rfl) rfl ?_
                  exact s_iret (kX5_readQuestion_1 6 rfl) rfl h
    · have h := h.2 c4
      refine r_aload_n (pc' := 34) (kX5_readQuestion_0 16 rfl) rfl rfl ?_
      refine s_callV (As := []) (o := 185) (S := []) (S2 := fun z => [(0, z)]) (pc' := 37) (kX5_readQuestion_0 17 rfl) rfl rfl nkX5_unfit mlX5_57 imX5_unfit rfl slX5_unfit rfl (Nat.le_of_ble_eq_true rfl) (Nat.le_of_ble_eq_true rfl) (kz185 Ln) h (fun z => rfl) (fun r30 φ30 α30 h => ?_)
      refine r_pop (pc' := 38) (kX5_readQuestion_0 18 rfl) rfl rfl ?_
      refine r_iconst (-1) (pc' := 39) (kX5_readQuestion_0 19 rfl) rfl (by unfold inR; omega) ?_
      exact s_iret (kX5_readQuestion_0 20 rfl) rfl h
theorem vX5_begin_0 {d : Nat} {φ : aF} {α : aA} {Q : Int → aF → aA → Prop} (h : (eX8_begin d  (upf (upf φ 5 5 185 0) 5 6 185 (-1)) α (fun r1 φ1 α1 =>
   (Q 0 φ1 α1)))) : eX5_begin (d + 1)  φ α Q := by
  intro Ln
  refine r_aload_n (pc' := 1) (kX5_begin_0 0 rfl) rfl rfl ?_
  refine r_iconst 0 (pc' := 2) (kX5_begin_0 1 rfl) rfl (by unfold inR; omega) ?_
  refine s_put (pc' := 5) (kX5_begin_0 2 rfl) rfl fkX5_74 fnX5_5 rfl pk_int (kz185 Ln) ?_
  refine r_aload_n (pc' := 6) (kX5_begin_0 3 rfl) rfl rfl ?_
  refine r_iconst (-1) (pc' := 7) (kX5_begin_0 4 rfl) rfl (by unfold inR; omega) ?_
  refine s_put (pc' := 10) (kX5_begin_0 5 rfl) rfl fkX5_9 fnX5_6 rfl pk_int (kz185 Ln) ?_
  refine r_aload_n (pc' := 11) (kX5_begin_0 6 rfl) rfl rfl ?_
  refine s_getr (v := 186) (pc' := 14) (kX5_begin_0 7 rfl) rfl fkX5_20 rfl rfl (kz185 Ln) rfl (by decide) ?_
  refine s_callV (As := []) (o := 186) (S := []) (S2 := fun z => []) (pc' := 17) (kX5_begin_0 8 rfl) rfl rfl nkX8_begin mlX5_77 imX8_begin rfl slX8_begin rfl (Nat.le_of_ble_eq_true rfl) (Nat.le_of_ble_eq_true rfl) (kz186 Ln) h (fun z => rfl) (fun r1 φ1 α1 h => ?_)
  exact s_vret (kX5_begin_0 9 rfl) rfl h
theorem vX5_speak_0 {d : Nat} {φ : aF} {α : aA} {Q : Int → aF → aA → Prop} {x1 : Int} {nx1 : Nat} {x2 : Int} (hx1 : isRow x1 nx1) (h : (eX6_clear d x1 φ α (fun r1 φ1 α1 =>
   (Q 0 (upf (upf φ1 5 3 185 x1) 5 4 185 x2) α1)))) : eX5_speak (d + 1) x1 x2 φ α Q := by
  intro Ln
  refine r_aload_n (pc' := 1) (kX5_speak_0 0 rfl) rfl rfl ?_
  refine s_callV (As := []) (o := x1) (S := []) (S2 := fun z => []) (pc' := 4) (kX5_speak_0 1 rfl) rfl rfl nkX6_clear mlX5_78 imX6_clear rfl slX6_clear rfl (Nat.le_of_ble_eq_true rfl) (Nat.le_of_ble_eq_true rfl) (hx1.1 Ln) h (fun z => rfl) (fun r1 φ1 α1 h => ?_)
  refine r_aload_n (pc' := 5) (kX5_speak_0 2 rfl) rfl rfl ?_
  refine r_aload_n (pc' := 6) (kX5_speak_0 3 rfl) rfl rfl ?_
  refine s_put (pc' := 9) (kX5_speak_0 4 rfl) rfl fkX5_32 fnX5_3 rfl pk_obj (kz185 Ln) ?_
  refine r_aload_n (pc' := 10) (kX5_speak_0 5 rfl) rfl rfl ?_
  refine r_iload_n (pc' := 11) (kX5_speak_0 6 rfl) rfl rfl ?_
  refine s_put (pc' := 14) (kX5_speak_0 7 rfl) rfl fkX5_83 fnX5_4 rfl pk_int (kz185 Ln) ?_
  exact s_vret (kX5_speak_0 8 rfl) rfl h
theorem vX5_refuse_0 {d : Nat} {φ : aF} {α : aA} {Q : Int → aF → aA → Prop} {x1 : Int} {x2 : Int} (h : (Q 0 (upf (upf φ 5 5 185 x1) 5 6 185 x2) α)) : eX5_refuse d x1 x2 φ α Q := by
  intro Ln
  refine r_aload_n (pc' := 1) (kX5_refuse_0 0 rfl) rfl rfl ?_
  refine r_iload_n (pc' := 2) (kX5_refuse_0 1 rfl) rfl rfl ?_
  refine s_put (pc' := 5) (kX5_refuse_0 2 rfl) rfl fkX5_74 fnX5_5 rfl pk_int (kz185 Ln) ?_
  refine r_aload_n (pc' := 6) (kX5_refuse_0 3 rfl) rfl rfl ?_
  refine r_iload_n (pc' := 7) (kX5_refuse_0 4 rfl) rfl rfl ?_
  refine s_put (pc' := 10) (kX5_refuse_0 5 rfl) rfl fkX5_9 fnX5_6 rfl pk_int (kz185 Ln) ?_
  refine r_iconst 0 (pc' := 11) (kX5_refuse_0 6 rfl) rfl (by unfold inR; omega) ?_
  exact s_zret (kX5_refuse_0 7 rfl) rfl (Or.inl rfl) h
theorem vX5_unfit_0 {d : Nat} {φ : aF} {α : aA} {Q : Int → aF → aA → Prop} (h : (Q 0 (upf (upf φ 5 5 185 1) 5 6 185 (φ 8 5 186)) α)) : eX5_unfit d  φ α Q := by
  intro Ln
  refine r_aload_n (pc' := 1) (kX5_unfit_0 0 rfl) rfl rfl ?_
  refine r_iconst 1 (pc' := 2) (kX5_unfit_0 1 rfl) rfl (by unfold inR; omega) ?_
  refine s_put (pc' := 5) (kX5_unfit_0 2 rfl) rfl fkX5_74 fnX5_5 rfl pk_int (kz185 Ln) ?_
  refine r_aload_n (pc' := 6) (kX5_unfit_0 3 rfl) rfl rfl ?_
  refine r_aload_n (pc' := 7) (kX5_unfit_0 4 rfl) rfl rfl ?_
  refine s_getr (v := 186) (pc' := 10) (kX5_unfit_0 5 rfl) rfl fkX5_20 rfl rfl (kz185 Ln) rfl (by decide) ?_
  refine s_get (x := (φ 8 5 186)) (pc' := 13) (kX5_unfit_0 6 rfl) rfl fkX5_86 rfl rfl rfl (kz186 Ln) rfl ?_
  refine s_put (pc' := 16) (kX5_unfit_0 7 rfl) rfl fkX5_9 fnX5_6 rfl pk_int (kz185 Ln) ?_
  refine r_iconst 0 (pc' := 17) (kX5_unfit_0 8 rfl) rfl (by unfold inR; omega) ?_
  exact s_zret (kX5_unfit_0 9 rfl) rfl (Or.inl rfl) h
theorem vX5_takeSign_0 {d : Nat} {φ : aF} {α : aA} {Q : Int → aF → aA → Prop} {x1 : Int} (h : (eX8_isSign d x1 φ α (fun r1 φ1 α1 =>
   ((¬ r1 = 0 →
   (eX8_scan d  φ1 α1 (fun r3 φ3 α3 =>
     (Q 1 φ3 α3)))) ∧
   (r1 = 0 →
   (eX5_unfit d  φ1 α1 (fun r4 φ4 α4 =>
     (r4 = 0 ∨ r4 = 1) ∧ (Q r4 φ4 α4)))))))) : eX5_takeSign (d + 1) x1 φ α Q := by
  intro Ln
  refine r_aload_n (pc' := 1) (kX5_takeSign_0 0 rfl) rfl rfl ?_
  refine s_getr (v := 186) (pc' := 4) (kX5_takeSign_0 1 rfl) rfl fkX5_20 rfl rfl (kz185 Ln) rfl (by decide) ?_
  refine r_iload_n (pc' := 5) (kX5_takeSign_0 2 rfl) rfl rfl ?_
  refine s_callV (As := [(0, x1)]) (o := 186) (S := []) (S2 := fun z => [(0, z)]) (pc' := 8) (kX5_takeSign_0 3 rfl) rfl rfl nkX8_isSign mlX5_89 imX8_isSign rfl slX8_isSign rfl (Nat.le_of_ble_eq_true rfl) (Nat.le_of_ble_eq_true rfl) (kz186 Ln) h (fun z => rfl) (fun r1 φ1 α1 h => ?_)
  refine r_if_ne (t := 16) (pc' := 11) (kX5_takeSign_0 4 rfl) rfl rfl (fun c2 => ?_) (fun c2 => ?_)
  · have h := h.1 c2
    refine r_aload_n (pc' := 17) (kX5_takeSign_0 8 rfl) rfl rfl ?_
    refine s_getr (v := 186) (pc' := 20) (kX5_takeSign_0 9 rfl) rfl fkX5_20 rfl rfl (kz185 Ln) rfl (by decide) ?_
    refine s_callV (As := []) (o := 186) (S := []) (S2 := fun z => []) (pc' := 23) (kX5_takeSign_0 10 rfl) rfl rfl nkX8_scan mlX5_61 imX8_scan rfl slX8_scan rfl (Nat.le_of_ble_eq_true rfl) (Nat.le_of_ble_eq_true rfl) (kz186 Ln) h (fun z => rfl) (fun r3 φ3 α3 h => ?_)
    refine r_iconst 1 (pc' := 24) (kX5_takeSign_0 11 rfl) rfl (by unfold inR; omega) ?_
    exact s_zret (kX5_takeSign_0 12 rfl) rfl (Or.inr rfl) h
  · have h := h.2 c2
    refine r_aload_n (pc' := 12) (kX5_takeSign_0 5 rfl) rfl rfl ?_
    refine s_callV (As := []) (o := 185) (S := []) (S2 := fun z => [(0, z)]) (pc' := 15) (kX5_takeSign_0 6 rfl) rfl rfl nkX5_unfit mlX5_57 imX5_unfit rfl slX5_unfit rfl (Nat.le_of_ble_eq_true rfl) (Nat.le_of_ble_eq_true rfl) (kz185 Ln) h (fun z => rfl) (fun r4 φ4 α4 h => ?_)
    have g5 := h.1
    have h := h.2
    exact s_zret (kX5_takeSign_0 7 rfl) rfl g5 h
theorem vX5_takeWord_0 {d : Nat} {φ : aF} {α : aA} {Q : Int → aF → aA → Prop} {x1 : Int} (h : (eX8_isWord d x1 φ α (fun r1 φ1 α1 =>
   ((¬ r1 = 0 →
   (eX8_scan d  φ1 α1 (fun r3 φ3 α3 =>
     (Q 1 φ3 α3)))) ∧
   (r1 = 0 →
   (eX5_unfit d  φ1 α1 (fun r4 φ4 α4 =>
     (r4 = 0 ∨ r4 = 1) ∧ (Q r4 φ4 α4)))))))) : eX5_takeWord (d + 1) x1 φ α Q := by
  intro Ln
  refine r_aload_n (pc' := 1) (kX5_takeWord_0 0 rfl) rfl rfl ?_
  refine s_getr (v := 186) (pc' := 4) (kX5_takeWord_0 1 rfl) rfl fkX5_20 rfl rfl (kz185 Ln) rfl (by decide) ?_
  refine r_iload_n (pc' := 5) (kX5_takeWord_0 2 rfl) rfl rfl ?_
  refine s_callV (As := [(0, x1)]) (o := 186) (S := []) (S2 := fun z => [(0, z)]) (pc' := 8) (kX5_takeWord_0 3 rfl) rfl rfl nkX8_isWord mlX5_92 imX8_isWord rfl slX8_isWord rfl (Nat.le_of_ble_eq_true rfl) (Nat.le_of_ble_eq_true rfl) (kz186 Ln) h (fun z => rfl) (fun r1 φ1 α1 h => ?_)
  refine r_if_ne (t := 16) (pc' := 11) (kX5_takeWord_0 4 rfl) rfl rfl (fun c2 => ?_) (fun c2 => ?_)
  · have h := h.1 c2
    refine r_aload_n (pc' := 17) (kX5_takeWord_0 8 rfl) rfl rfl ?_
    refine s_getr (v := 186) (pc' := 20) (kX5_takeWord_0 9 rfl) rfl fkX5_20 rfl rfl (kz185 Ln) rfl (by decide) ?_
    refine s_callV (As := []) (o := 186) (S := []) (S2 := fun z => []) (pc' := 23) (kX5_takeWord_0 10 rfl) rfl rfl nkX8_scan mlX5_61 imX8_scan rfl slX8_scan rfl (Nat.le_of_ble_eq_true rfl) (Nat.le_of_ble_eq_true rfl) (kz186 Ln) h (fun z => rfl) (fun r3 φ3 α3 h => ?_)
    refine r_iconst 1 (pc' := 24) (kX5_takeWord_0 11 rfl) rfl (by unfold inR; omega) ?_
    exact s_zret (kX5_takeWord_0 12 rfl) rfl (Or.inr rfl) h
  · have h := h.2 c2
    refine r_aload_n (pc' := 12) (kX5_takeWord_0 5 rfl) rfl rfl ?_
    refine s_callV (As := []) (o := 185) (S := []) (S2 := fun z => [(0, z)]) (pc' := 15) (kX5_takeWord_0 6 rfl) rfl rfl nkX5_unfit mlX5_57 imX5_unfit rfl slX5_unfit rfl (Nat.le_of_ble_eq_true rfl) (Nat.le_of_ble_eq_true rfl) (kz185 Ln) h (fun z => rfl) (fun r4 φ4 α4 h => ?_)
    have g5 := h.1
    have h := h.2
    exact s_zret (kX5_takeWord_0 7 rfl) rfl g5 h
theorem vX5_readStatement_0 {d : Nat} {φ : aF} {α : aA} {Q : Int → aF → aA → Prop} {x1 : Int} (h : ((x1 < 80 →
   ((¬ (φ 8 2 186) = 1 →
     (eX5_unfit d  φ α (fun r3 φ3 α3 =>
       (r3 = 0 ∨ r3 = 1) ∧ (Q r3 φ3 α3)))) ∧
     ((φ 8 2 186) = 1 →
     ((¬ (φ 8 3 186) = 0 →
       ((¬ x1 = 0 →
         (((φ 8 3 186) = 0 →
           (eX5_readSeats d  φ α (fun r10 φ10 α10 =>
             (r10 = 0 ∨ r10 = 1) ∧ (Q r10 φ10 α10)))) ∧
           (((φ 8 3 186) = 1 →
           (eX5_readMatter d  φ α (fun r12 φ12 α12 =>
             (r12 = 0 ∨ r12 = 1) ∧ (Q r12 φ12 α12)))) ∧
           (((φ 8 3 186) = 2 →
           (eX5_readClerk d  φ α (fun r14 φ14 α14 =>
             (r14 = 0 ∨ r14 = 1) ∧ (Q r14 φ14 α14)))) ∧
           (((φ 8 3 186) = 5 →
           (eX5_readTold d  φ α (fun r16 φ16 α16 =>
             (r16 = 0 ∨ r16 = 1) ∧ (Q r16 φ16 α16)))) ∧
           (((φ 8 3 186) = 7 →
           (eX5_speakLeaks d  φ α (fun r18 φ18 α18 =>
             ((r18 = 0 →
             (Q 0 φ18 α18)) ∧
             (¬ (r18 = 0) →
             (eX5_readSum d 0 φ18 α18 (fun r20 φ20 α20 =>
               ((r20 = 0 →
               (Q 0 φ20 α20)) ∧
               (¬ (r20 = 0) →
               (Q 1 φ20 α20)))))))))) ∧
           (((φ 8 3 186) = 8 →
           (eX5_speakShakes d  φ α (fun r22 φ22 α22 =>
             ((r22 = 0 →
             (Q 0 φ22 α22)) ∧
             (¬ (r22 = 0) →
             (eX5_readTest d 0 φ22 α22 (fun r24 φ24 α24 =>
               ((r24 = 0 →
               (Q 0 φ24 α24)) ∧
               (¬ (r24 = 0) →
               (Q 1 φ24 α24)))))))))) ∧
           (((φ 8 3 186) = 9 →
           (eX5_readHand d  φ α (fun r26 φ26 α26 =>
             (r26 = 0 ∨ r26 = 1) ∧ (Q r26 φ26 α26)))) ∧
           ((¬ (φ 8 3 186) = 0 ∧ ¬ (φ 8 3 186) = 1 ∧ ¬ (φ 8 3 186) = 2 ∧ ¬ (φ 8 3 186) = 5 ∧ ¬ (φ 8 3 186) = 7 ∧ ¬ (φ 8 3 186) = 8 ∧ ¬ (φ 8 3 186) = 9) →
           (eX5_unfit d  φ α (fun r8 φ8 α8 =>
             (r8 = 0 ∨ r8 = 1) ∧ (Q r8 φ8 α8)))))))))))) ∧
         (x1 = 0 →
         (eX5_unfit d  φ α (fun r28 φ28 α28 =>
           (r28 = 0 ∨ r28 = 1) ∧ (Q r28 φ28 α28)))))) ∧
       ((φ 8 3 186) = 0 →
       ((¬ x1 = 0 →
         (eX5_unfit d  φ α (fun r31 φ31 α31 =>
           (r31 = 0 ∨ r31 = 1) ∧ (Q r31 φ31 α31)))) ∧
         (x1 = 0 →
         (((φ 8 3 186) = 0 →
           (eX5_readSeats d  φ α (fun r36 φ36 α36 =>
             (r36 = 0 ∨ r36 = 1) ∧ (Q r36 φ36 α36)))) ∧
           (((φ 8 3 186) = 1 →
           (eX5_readMatter d  φ α (fun r38 φ38 α38 =>
             (r38 = 0 ∨ r38 = 1) ∧ (Q r38 φ38 α38)))) ∧
           (((φ 8 3 186) = 2 →
           (eX5_readClerk d  φ α (fun r40 φ40 α40 =>
             (r40 = 0 ∨ r40 = 1) ∧ (Q r40 φ40 α40)))) ∧
           (((φ 8 3 186) = 5 →
           (eX5_readTold d  φ α (fun r42 φ42 α42 =>
             (r42 = 0 ∨ r42 = 1) ∧ (Q r42 φ42 α42)))) ∧
           (((φ 8 3 186) = 7 →
           (eX5_speakLeaks d  φ α (fun r44 φ44 α44 =>
             ((r44 = 0 →
             (Q 0 φ44 α44)) ∧
             (¬ (r44 = 0) →
             (eX5_readSum d 0 φ44 α44 (fun r46 φ46 α46 =>
               ((r46 = 0 →
               (Q 0 φ46 α46)) ∧
               (¬ (r46 = 0) →
               (Q 1 φ46 α46)))))))))) ∧
           (((φ 8 3 186) = 8 →
           (eX5_speakShakes d  φ α (fun r48 φ48 α48 =>
             ((r48 = 0 →
             (Q 0 φ48 α48)) ∧
             (¬ (r48 = 0) →
             (eX5_readTest d 0 φ48 α48 (fun r50 φ50 α50 =>
               ((r50 = 0 →
               (Q 0 φ50 α50)) ∧
               (¬ (r50 = 0) →
               (Q 1 φ50 α50)))))))))) ∧
           (((φ 8 3 186) = 9 →
           (eX5_readHand d  φ α (fun r52 φ52 α52 =>
             (r52 = 0 ∨ r52 = 1) ∧ (Q r52 φ52 α52)))) ∧
           ((¬ (φ 8 3 186) = 0 ∧ ¬ (φ 8 3 186) = 1 ∧ ¬ (φ 8 3 186) = 2 ∧ ¬ (φ 8 3 186) = 5 ∧ ¬ (φ 8 3 186) = 7 ∧ ¬ (φ 8 3 186) = 8 ∧ ¬ (φ 8 3 186) = 9) →
           (eX5_unfit d  φ α (fun r34 φ34 α34 =>
             (r34 = 0 ∨ r34 = 1) ∧ (Q r34 φ34 α34)))))))))))))))))) ∧
   (¬ (x1 < 80) →
   (eX5_refuse d 5 (φ 8 5 186) φ α (fun r54 φ54 α54 =>
     (r54 = 0 ∨ r54 = 1) ∧ (Q r54 φ54 α54)))))) : eX5_readStatement (d + 1) x1 φ α Q := by
  intro Ln
  refine r_iload_n (pc' := 1) (kX5_readStatement_0 0 rfl) rfl rfl ?_
  refine r_bipush 80 (pc' := 3) (kX5_readStatement_0 1 rfl) rfl ⟨by unfold inR; omega, rfl⟩ ?_
  refine r_icmp_lt (t := 19) (pc' := 6) (kX5_readStatement_0 2 rfl) rfl rfl (fun c1 => ?_) (fun c1 => ?_)
  · have h := h.1 c1
    refine r_aload_n (pc' := 20) (kX5_readStatement_0 10 rfl) rfl rfl ?_
    refine s_getr (v := 186) (pc' := 23) (kX5_readStatement_0 11 rfl) rfl fkX5_20 rfl rfl (kz185 Ln) rfl (by decide) ?_
    refine s_get (x := (φ 8 2 186)) (pc' := 26) (kX5_readStatement_0 12 rfl) rfl fkX5_41 rfl rfl rfl (kz186 Ln) rfl ?_
    refine r_iconst 1 (pc' := 27) (kX5_readStatement_0 13 rfl) rfl (by unfold inR; omega) ?_
    refine r_icmp_ne (t := 57) (pc' := 30) (kX5_readStatement_0 14 rfl) rfl rfl (fun c2 => ?_) (fun c2 => ?_)
    · have h := h.1 c2
      refine r_aload_n (pc' := 58) (kX5_readStatement_0 28 rfl) rfl rfl ?_
      refine s_callV (As := []) (o := 185) (S := []) (S2 := fun z => [(0, z)]) (pc' := 61) (kX5_readStatement_0 29 rfl) rfl rfl nkX5_unfit mlX5_57 imX5_unfit rfl slX5_unfit rfl (Nat.le_of_ble_eq_true rfl) (Nat.le_of_ble_eq_true rfl) (kz185 Ln) h (fun z => rfl) (fun r3 φ3 α3 h => ?_)
      have g4 := h.1
      have h := h.2
      exact s_zret (kX5_readStatement_0 30 rfl) rfl g4 h
    · have h := h.2 c2
      refine r_aload_n (pc' := 31) (kX5_readStatement_0 15 rfl) rfl rfl ?_
      refine s_getr (v := 186) (pc' := 34) (kX5_readStatement_0 16 rfl) rfl fkX5_20 rfl rfl (kz185 Ln) rfl (by decide) ?_
      refine s_get (x := (φ 8 3 186)) (pc' := 37) (kX5_readStatement_0 17 rfl) rfl fkX5_54 rfl rfl rfl (kz186 Ln) rfl ?_
      refine r_if_ne (t := 44) (pc' := 40) (kX5_readStatement_0 18 rfl) rfl rfl (fun c5 => ?_) (fun c5 => ?_)
      · have h := h.1 c5
        refine r_iconst 0 (pc' := 45) (kX5_readStatement_0 21 rfl) rfl (by unfold inR; omega) ?_
        refine r_iload_n (pc' := 46) (kX5_readStatement_0 22 rfl) rfl rfl ?_
        refine r_if_ne (t := 53) (pc' := 49) (kX5_readStatement_0 23 rfl) rfl rfl (fun c6 => ?_) (fun c6 => ?_)
        · have h := h.1 c6
          refine r_iconst 0 (pc' := 54) (kX5_readStatement_0 26 rfl) rfl (by unfold inR; omega) ?_
          refine r_icmp_eq (t := 62) (pc' := 57) (kX5_readStatement_0 27 rfl) rfl rfl (fun _ => ?_) (fun cz => absurd cz (by decide))
          refine r_aload_n (pc' := 63) (kX5_readStatement_0 31 rfl) rfl rfl ?_
          refine s_getr (v := 186) (pc' := 66) (kX5_readStatement_0 32 rfl) rfl fkX5_20 rfl rfl (kz185 Ln) rfl (by decide) ?_
          refine s_get (x := (φ 8 3 186)) (pc' := 69) (kX5_readStatement_0 33 rfl) rfl fkX5_54 rfl rfl rfl (kz186 Ln) rfl ?_
          have hD : (¬ (φ 8 3 186) = 0 ∧ ¬ (φ 8 3 186) = 1 ∧ ¬ (φ 8 3 186) = 2 ∧ ¬ (φ 8 3 186) = 5 ∧ ¬ (φ 8 3 186) = 7 ∧ ¬ (φ 8 3 186) = 8 ∧ ¬ (φ 8 3 186) = 9) → Rn (d + 1) mX5_readStatement 191 [(2, 185), (0, x1)] [] (K0 Ln) (mix φ) (mixA α) (0, 0) (Q0 mX5_readStatement Ln Q) := by
            intro c0
            have h := h.2.2.2.2.2.2.2 c0
            refine r_aload_n (pc' := 192) (kX5_readStatement_1 12 rfl) rfl rfl ?_
            refine s_callV (As := []) (o := 185) (S := []) (S2 := fun z => [(0, z)]) (pc' := 195) (kX5_readStatement_1 13 rfl) rfl rfl nkX5_unfit mlX5_57 imX5_unfit rfl slX5_unfit rfl (Nat.le_of_ble_eq_true rfl) (Nat.le_of_ble_eq_true rfl) (kz185 Ln) h (fun z => rfl) (fun r8 φ8 α8 h => ?_)
            have g9 := h.1
            have h := h.2
            exact s_zret (kX5_readStatement_1 14 rfl) rfl g9 h
          by_cases c7_0 : (φ 8 3 186) = 0
          · have h := h.1 c7_0
            refine r_tabIn (pc' := 124) 0 c7_0 (kX5_readStatement_0 34 rfl) (by decide) (by decide) rfl rfl ?_
            refine r_aload_n (pc' := 125) (kX5_readStatement_0 35 rfl) rfl rfl ?_
            refine s_callV (As := []) (o := 185) (S := []) (S2 := fun z => [(0, z)]) (pc' := 128) (kX5_readStatement_0 36 rfl) rfl rfl nkX5_readSeats mlX5_99 imX5_readSeats rfl slX5_readSeats rfl (Nat.le_of_ble_eq_true rfl) (Nat.le_of_ble_eq_true rfl) (kz185 Ln) h (fun z => rfl) (fun r10 φ10 α10 h => ?_)
            have g11 := h.1
            have h := h.2
            exact s_zret (kX5_readStatement_0 37 rfl) rfl g11 h
          by_cases c7_1 : (φ 8 3 186) = 1
          · have h := h.2.1 c7_1
            refine r_tabIn (pc' := 129) 1 c7_1 (kX5_readStatement_0 34 rfl) (by decide) (by decide) rfl rfl ?_
            refine r_aload_n (pc' := 130) (kX5_readStatement_0 38 rfl) rfl rfl ?_
            refine s_callV (As := []) (o := 185) (S := []) (S2 := fun z => [(0, z)]) (pc' := 133) (kX5_readStatement_0 39 rfl) rfl rfl nkX5_readMatter mlX5_102 imX5_readMatter rfl slX5_readMatter rfl (Nat.le_of_ble_eq_true rfl) (Nat.le_of_ble_eq_true rfl) (kz185 Ln) h (fun z => rfl) (fun r12 φ12 α12 h => ?_)
            have g13 := h.1
            have h := h.2
            exact s_zret (kX5_readStatement_0 40 rfl) rfl g13 h
          by_cases c7_2 : (φ 8 3 186) = 2
          · have h := h.2.2.1 c7_2
            refine r_tabIn (pc' := 134) 2 c7_2 (kX5_readStatement_0 34 rfl) (by decide) (by decide) rfl rfl ?_
            refine r_aload_n (pc' := 135) (kX5_readStatement_0 41 rfl) rfl rfl ?_
            refine s_callV (As := []) (o := 185) (S := []) (S2 := fun z => [(0, z)]) (pc' := 138) (kX5_readStatement_0 42 rfl) rfl rfl nkX5_readClerk mlX5_105 imX5_readClerk rfl slX5_readClerk rfl (Nat.le_of_ble_eq_true rfl) (Nat.le_of_ble_eq_true rfl) (kz185 Ln) h (fun z => rfl) (fun r14 φ14 α14 h => ?_)
            have g15 := h.1
            have h := h.2
            exact s_zret (kX5_readStatement_0 43 rfl) rfl g15 h
          by_cases c7_3 : (φ 8 3 186) = 5
          · have h := h.2.2.2.1 c7_3
            refine r_tabIn (pc' := 139) 5 c7_3 (kX5_readStatement_0 34 rfl) (by decide) (by decide) rfl rfl ?_
            refine r_aload_n (pc' := 140) (kX5_readStatement_0 44 rfl) rfl rfl ?_
            refine s_callV (As := []) (o := 185) (S := []) (S2 := fun z => [(0, z)]) (pc' := 143) (kX5_readStatement_0 45 rfl) rfl rfl nkX5_readTold mlX5_108 imX5_readTold rfl slX5_readTold rfl (Nat.le_of_ble_eq_true rfl) (Nat.le_of_ble_eq_true rfl) (kz185 Ln) h (fun z => rfl) (fun r16 φ16 α16 h => ?_)
            have g17 := h.1
            have h := h.2
            exact s_zret (kX5_readStatement_0 46 rfl) rfl g17 h
          by_cases c7_4 : (φ 8 3 186) = 7
          · have h := h.2.2.2.2.1 c7_4
            refine r_tabIn (pc' := 144) 7 c7_4 (kX5_readStatement_0 34 rfl) (by decide) (by decide) rfl rfl ?_
            refine r_aload_n (pc' := 145) (kX5_readStatement_0 47 rfl) rfl rfl ?_
            refine s_callV (As := []) (o := 185) (S := []) (S2 := fun z => [(0, z)]) (pc' := 148) (kX5_readStatement_0 48 rfl) rfl rfl nkX5_speakLeaks mlX5_111 imX5_speakLeaks rfl slX5_speakLeaks rfl (Nat.le_of_ble_eq_true rfl) (Nat.le_of_ble_eq_true rfl) (kz185 Ln) h (fun z => rfl) (fun r18 φ18 α18 h => ?_)
            refine r_if_eq (t := 163) (pc' := 151) (kX5_readStatement_0 49 rfl) rfl rfl (fun c19 => ?_) (fun c19 => ?_)
            · have h := h.1 c19
              refine r_iconst 0 (pc' := 164) (kX5_readStatement_0 56 rfl) rfl (by unfold inR; omega) ?_
              exact s_zret (kX5_readStatement_0 57 rfl) rfl (Or.inl rfl) h
            · have h := h.2 c19
              refine r_aload_n (pc' := 152) (kX5_readStatement_0 50 rfl) rfl rfl ?_
              refine r_iconst 0 (pc' := 153) (kX5_readStatement_0 51 rfl) rfl (by unfold inR; omega) ?_
              refine s_callV (As := [(0, 0)]) (o := 185) (S := []) (S2 := fun z => [(0, z)]) (pc' := 156) (kX5_readStatement_0 52 rfl) rfl rfl nkX5_readSum mlX5_71 imX5_readSum rfl slX5_readSum rfl (Nat.le_of_ble_eq_true rfl) (Nat.le_of_ble_eq_true rfl) (kz185 Ln) h (fun z => rfl) (fun r20 φ20 α20 h => ?_)
              refine r_if_eq (t := 163) (pc' := 159) (kX5_readStatement_0 53 rfl) rfl rfl (fun c21 => ?_) (fun c21 => ?_)
              · have h := h.1 c21
                refine r_iconst 0 (pc' := 164) (kX5_readStatement_0 56 rfl) rfl (by unfold inR; omega) ?_
                exact s_zret (kX5_readStatement_0 57 rfl) rfl (Or.inl rfl) h
              · have h := h.2 c21
                refine r_iconst 1 (pc' := 160) (kX5_readStatement_0 54 rfl) rfl (by unfold inR; omega) ?_
                refine r_goto (pc' := 164) (kX5_readStatement_0 55 rfl) rfl ?_
                exact s_zret (kX5_readStatement_0 57 rfl) rfl (Or.inr rfl) h
          by_cases c7_5 : (φ 8 3 186) = 8
          · have h := h.2.2.2.2.2.1 c7_5
            refine r_tabIn (pc' := 165) 8 c7_5 (kX5_readStatement_0 34 rfl) (by decide) (by decide) rfl rfl ?_
            refine r_aload_n (pc' := 166) (kX5_readStatement_0 58 rfl) rfl rfl ?_
            refine s_callV (As := []) (o := 185) (S := []) (S2 := fun z => [(0, z)]) (pc' := 169) (kX5_readStatement_0 59 rfl) rfl rfl nkX5_speakShakes mlX5_114 imX5_speakShakes rfl slX5_speakShakes rfl (Nat.le_of_ble_eq_true rfl) (Nat.le_of_ble_eq_true rfl) (kz185 Ln) h (fun z => rfl) (fun r22 φ22 α22 h => ?_)
            refine r_if_eq (t := 184) (pc' := 172) (kX5_readStatement_1 0 rfl) rfl rfl (fun c23 => ?_) (fun c23 => ?_)
            · have h := h.1 c23
              refine r_iconst 0 (pc' := 185) (kX5_readStatement_1 7 rfl) rfl (by unfold inR; omega) ?_
              exact s_zret (kX5_readStatement_1 8 rfl) rfl (Or.inl rfl) h
            · have h := h.2 c23
              refine r_aload_n (pc' := 173) (kX5_readStatement_1 1 rfl) rfl rfl ?_
              refine r_iconst 0 (pc' := 174) (kX5_readStatement_1 2 rfl) rfl (by unfold inR; omega) ?_
              refine s_callV (As := [(0, 0)]) (o := 185) (S := []) (S2 := fun z => [(0, z)]) (pc' := 177) (kX5_readStatement_1 3 rfl) rfl rfl nkX5_readTest mlX5_68 imX5_readTest rfl slX5_readTest rfl (Nat.le_of_ble_eq_true rfl) (Nat.le_of_ble_eq_true rfl) (kz185 Ln) h (fun z => rfl) (fun r24 φ24 α24 h => ?_)
              refine r_if_eq (t := 184) (pc' := 180) (kX5_readStatement_1 4 rfl) rfl rfl (fun c25 => ?_) (fun c25 => ?_)
              · have h := h.1 c25
                refine r_iconst 0 (pc' := 185) (kX5_readStatement_1 7 rfl) rfl (by unfold inR; omega) ?_
                exact s_zret (kX5_readStatement_1 8 rfl) rfl (Or.inl rfl) h
              · have h := h.2 c25
                refine r_iconst 1 (pc' := 181) (kX5_readStatement_1 5 rfl) rfl (by unfold inR; omega) ?_
                refine r_goto (pc' := 185) (kX5_readStatement_1 6 rfl) rfl ?_
                exact s_zret (kX5_readStatement_1 8 rfl) rfl (Or.inr rfl) h
          by_cases c7_6 : (φ 8 3 186) = 9
          · have h := h.2.2.2.2.2.2.1 c7_6
            refine r_tabIn (pc' := 186) 9 c7_6 (kX5_readStatement_0 34 rfl) (by decide) (by decide) rfl rfl ?_
            refine r_aload_n (pc' := 187) (kX5_readStatement_1 9 rfl) rfl rfl ?_
            refine s_callV (As := []) (o := 185) (S := []) (S2 := fun z => [(0, z)]) (pc' := 190) (kX5_readStatement_1 10 rfl) rfl rfl nkX5_readHand mlX5_117 imX5_readHand rfl slX5_readHand rfl (Nat.le_of_ble_eq_true rfl) (Nat.le_of_ble_eq_true rfl) (kz185 Ln) h (fun z => rfl) (fun r26 φ26 α26 h => ?_)
            have g27 := h.1
            have h := h.2
            exact s_zret (kX5_readStatement_1 11 rfl) rfl g27 h
          have hD := hD ⟨c7_0, c7_1, c7_2, c7_3, c7_4, c7_5, c7_6⟩
          by_cases cd3 : (φ 8 3 186) = 3
          · exact r_tabIn 3 cd3 (kX5_readStatement_0 34 rfl) (by decide) (by decide) rfl rfl hD
          by_cases cd4 : (φ 8 3 186) = 4
          · exact r_tabIn 4 cd4 (kX5_readStatement_0 34 rfl) (by decide) (by decide) rfl rfl hD
          by_cases cd6 : (φ 8 3 186) = 6
          · exact r_tabIn 6 cd6 (kX5_readStatement_0 34 rfl) (by decide) (by decide) rfl rfl hD
          exact r_tabOut (pc' := 191) (kX5_readStatement_0 34 rfl) (by omega) rfl hD
        · have h := h.2 c6
          refine r_iconst 1 (pc' := 50) (kX5_readStatement_0 24 rfl) rfl (by unfold inR; omega) ?_
          refine r_goto (pc' := 54) (kX5_readStatement_0 25 rfl) rfl ?_
          refine r_icmp_eq (t := 62) (pc' := 57) (kX5_readStatement_0 27 rfl) rfl rfl (fun cz => absurd cz (by decide)) (fun _ => ?_)
          refine r_aload_n (pc' := 58) (kX5_readStatement_0 28 rfl) rfl rfl ?_
          refine s_callV (As := []) (o := 185) (S := []) (S2 := fun z => [(0, z)]) (pc' := 61) (kX5_readStatement_0 29 rfl) rfl rfl nkX5_unfit mlX5_57 imX5_unfit rfl slX5_unfit rfl (Nat.le_of_ble_eq_true rfl) (Nat.le_of_ble_eq_true rfl) (kz185 Ln) h (fun z => rfl) (fun r28 φ28 α28 h => ?_)
          have g29 := h.1
          have h := h.2
          exact s_zret (kX5_readStatement_0 30 rfl) rfl g29 h
      · have h := h.2 c5
        refine r_iconst 1 (pc' := 41) (kX5_readStatement_0 19 rfl) rfl (by unfold inR; omega) ?_
        refine r_goto (pc' := 45) (kX5_readStatement_0 20 rfl) rfl ?_
        refine r_iload_n (pc' := 46) (kX5_readStatement_0 22 rfl) rfl rfl ?_
        refine r_if_ne (t := 53) (pc' := 49) (kX5_readStatement_0 23 rfl) rfl rfl (fun c30 => ?_) (fun c30 => ?_)
        · have h := h.1 c30
          refine r_iconst 0 (pc' := 54) (kX5_readStatement_0 26 rfl) rfl (by unfold inR; omega) ?_
          refine r_icmp_eq (t := 62) (pc' := 57) (kX5_readStatement_0 27 rfl) rfl rfl (fun cz => absurd cz (by decide)) (fun _ => ?_)
          refine r_aload_n (pc' := 58) (kX5_readStatement_0 28 rfl) rfl rfl ?_
          refine s_callV (As := []) (o := 185) (S := []) (S2 := fun z => [(0, z)]) (pc' := 61) (kX5_readStatement_0 29 rfl) rfl rfl nkX5_unfit mlX5_57 imX5_unfit rfl slX5_unfit rfl (Nat.le_of_ble_eq_true rfl) (Nat.le_of_ble_eq_true rfl) (kz185 Ln) h (fun z => rfl) (fun r31 φ31 α31 h => ?_)
          have g32 := h.1
          have h := h.2
          exact s_zret (kX5_readStatement_0 30 rfl) rfl g32 h
        · have h := h.2 c30
          refine r_iconst 1 (pc' := 50) (kX5_readStatement_0 24 rfl) rfl (by unfold inR; omega) ?_
          refine r_goto (pc' := 54) (kX5_readStatement_0 25 rfl) rfl ?_
          refine r_icmp_eq (t := 62) (pc' := 57) (kX5_readStatement_0 27 rfl) rfl rfl (fun _ => ?_) (fun cz => absurd cz (by decide))
          refine r_aload_n (pc' := 63) (kX5_readStatement_0 31 rfl) rfl rfl ?_
          refine s_getr (v := 186) (pc' := 66) (kX5_readStatement_0 32 rfl) rfl fkX5_20 rfl rfl (kz185 Ln) rfl (by decide) ?_
          refine s_get (x := (φ 8 3 186)) (pc' := 69) (kX5_readStatement_0 33 rfl) rfl fkX5_54 rfl rfl rfl (kz186 Ln) rfl ?_
          have hD : (¬ (φ 8 3 186) = 0 ∧ ¬ (φ 8 3 186) = 1 ∧ ¬ (φ 8 3 186) = 2 ∧ ¬ (φ 8 3 186) = 5 ∧ ¬ (φ 8 3 186) = 7 ∧ ¬ (φ 8 3 186) = 8 ∧ ¬ (φ 8 3 186) = 9) → Rn (d + 1) mX5_readStatement 191 [(2, 185), (0, x1)] [] (K0 Ln) (mix φ) (mixA α) (0, 0) (Q0 mX5_readStatement Ln Q) := by
            intro c0
            have h := h.2.2.2.2.2.2.2 c0
            refine r_aload_n (pc' := 192) (kX5_readStatement_1 12 rfl) rfl rfl ?_
            refine s_callV (As := []) (o := 185) (S := []) (S2 := fun z => [(0, z)]) (pc' := 195) (kX5_readStatement_1 13 rfl) rfl rfl nkX5_unfit mlX5_57 imX5_unfit rfl slX5_unfit rfl (Nat.le_of_ble_eq_true rfl) (Nat.le_of_ble_eq_true rfl) (kz185 Ln) h (fun z => rfl) (fun r34 φ34 α34 h => ?_)
            have g35 := h.1
            have h := h.2
            exact s_zret (kX5_readStatement_1 14 rfl) rfl g35 h
          by_cases c33_0 : (φ 8 3 186) = 0
          · have h := h.1 c33_0
            refine r_tabIn (pc' := 124) 0 c33_0 (kX5_readStatement_0 34 rfl) (by decide) (by decide) rfl rfl ?_
            refine r_aload_n (pc' := 125) (kX5_readStatement_0 35 rfl) rfl rfl ?_
            refine s_callV (As := []) (o := 185) (S := []) (S2 := fun z => [(0, z)]) (pc' := 128) (kX5_readStatement_0 36 rfl) rfl rfl nkX5_readSeats mlX5_99 imX5_readSeats rfl slX5_readSeats rfl (Nat.le_of_ble_eq_true rfl) (Nat.le_of_ble_eq_true rfl) (kz185 Ln) h (fun z => rfl) (fun r36 φ36 α36 h => ?_)
            have g37 := h.1
            have h := h.2
            exact s_zret (kX5_readStatement_0 37 rfl) rfl g37 h
          by_cases c33_1 : (φ 8 3 186) = 1
          · have h := h.2.1 c33_1
            refine r_tabIn (pc' := 129) 1 c33_1 (kX5_readStatement_0 34 rfl) (by decide) (by decide) rfl rfl ?_
            refine r_aload_n (pc' := 130) (kX5_readStatement_0 38 rfl) rfl rfl ?_
            refine s_callV (As := []) (o := 185) (S := []) (S2 := fun z => [(0, z)]) (pc' := 133) (kX5_readStatement_0 39 rfl) rfl rfl nkX5_readMatter mlX5_102 imX5_readMatter rfl slX5_readMatter rfl (Nat.le_of_ble_eq_true rfl) (Nat.le_of_ble_eq_true rfl) (kz185 Ln) h (fun z => rfl) (fun r38 φ38 α38 h => ?_)
            have g39 := h.1
            have h := h.2
            exact s_zret (kX5_readStatement_0 40 rfl) rfl g39 h
          by_cases c33_2 : (φ 8 3 186) = 2
          · have h := h.2.2.1 c33_2
            refine r_tabIn (pc' := 134) 2 c33_2 (kX5_readStatement_0 34 rfl) (by decide) (by decide) rfl rfl ?_
            refine r_aload_n (pc' := 135) (kX5_readStatement_0 41 rfl) rfl rfl ?_
            refine s_callV (As := []) (o := 185) (S := []) (S2 := fun z => [(0, z)]) (pc' := 138) (kX5_readStatement_0 42 rfl) rfl rfl nkX5_readClerk mlX5_105 imX5_readClerk rfl slX5_readClerk rfl (Nat.le_of_ble_eq_true rfl) (Nat.le_of_ble_eq_true rfl) (kz185 Ln) h (fun z => rfl) (fun r40 φ40 α40 h => ?_)
            have g41 := h.1
            have h := h.2
            exact s_zret (kX5_readStatement_0 43 rfl) rfl g41 h
          by_cases c33_3 : (φ 8 3 186) = 5
          · have h := h.2.2.2.1 c33_3
            refine r_tabIn (pc' := 139) 5 c33_3 (kX5_readStatement_0 34 rfl) (by decide) (by decide) rfl rfl ?_
            refine r_aload_n (pc' := 140) (kX5_readStatement_0 44 rfl) rfl rfl ?_
            refine s_callV (As := []) (o := 185) (S := []) (S2 := fun z => [(0, z)]) (pc' := 143) (kX5_readStatement_0 45 rfl) rfl rfl nkX5_readTold mlX5_108 imX5_readTold rfl slX5_readTold rfl (Nat.le_of_ble_eq_true rfl) (Nat.le_of_ble_eq_true rfl) (kz185 Ln) h (fun z => rfl) (fun r42 φ42 α42 h => ?_)
            have g43 := h.1
            have h := h.2
            exact s_zret (kX5_readStatement_0 46 rfl) rfl g43 h
          by_cases c33_4 : (φ 8 3 186) = 7
          · have h := h.2.2.2.2.1 c33_4
            refine r_tabIn (pc' := 144) 7 c33_4 (kX5_readStatement_0 34 rfl) (by decide) (by decide) rfl rfl ?_
            refine r_aload_n (pc' := 145) (kX5_readStatement_0 47 rfl) rfl rfl ?_
            refine s_callV (As := []) (o := 185) (S := []) (S2 := fun z => [(0, z)]) (pc' := 148) (kX5_readStatement_0 48 rfl) rfl rfl nkX5_speakLeaks mlX5_111 imX5_speakLeaks rfl slX5_speakLeaks rfl (Nat.le_of_ble_eq_true rfl) (Nat.le_of_ble_eq_true rfl) (kz185 Ln) h (fun z => rfl) (fun r44 φ44 α44 h => ?_)
            refine r_if_eq (t := 163) (pc' := 151) (kX5_readStatement_0 49 rfl) rfl rfl (fun c45 => ?_) (fun c45 => ?_)
            · have h := h.1 c45
              refine r_iconst 0 (pc' := 164) (kX5_readStatement_0 56 rfl) rfl (by unfold inR; omega) ?_
              exact s_zret (kX5_readStatement_0 57 rfl) rfl (Or.inl rfl) h
            · have h := h.2 c45
              refine r_aload_n (pc' := 152) (kX5_readStatement_0 50 rfl) rfl rfl ?_
              refine r_iconst 0 (pc' := 153) (kX5_readStatement_0 51 rfl) rfl (by unfold inR; omega) ?_
              refine s_callV (As := [(0, 0)]) (o := 185) (S := []) (S2 := fun z => [(0, z)]) (pc' := 156) (kX5_readStatement_0 52 rfl) rfl rfl nkX5_readSum mlX5_71 imX5_readSum rfl slX5_readSum rfl (Nat.le_of_ble_eq_true rfl) (Nat.le_of_ble_eq_true rfl) (kz185 Ln) h (fun z => rfl) (fun r46 φ46 α46 h => ?_)
              refine r_if_eq (t := 163) (pc' := 159) (kX5_readStatement_0 53 rfl) rfl rfl (fun c47 => ?_) (fun c47 => ?_)
              · have h := h.1 c47
                refine r_iconst 0 (pc' := 164) (kX5_readStatement_0 56 rfl) rfl (by unfold inR; omega) ?_
                exact s_zret (kX5_readStatement_0 57 rfl) rfl (Or.inl rfl) h
              · have h := h.2 c47
                refine r_iconst 1 (pc' := 160) (kX5_readStatement_0 54 rfl) rfl (by unfold inR; omega) ?_
                refine r_goto (pc' := 164) (kX5_readStatement_0 55 rfl) rfl ?_
                exact s_zret (kX5_readStatement_0 57 rfl) rfl (Or.inr rfl) h
          by_cases c33_5 : (φ 8 3 186) = 8
          · have h := h.2.2.2.2.2.1 c33_5
            refine r_tabIn (pc' := 165) 8 c33_5 (kX5_readStatement_0 34 rfl) (by decide) (by decide) rfl rfl ?_
            refine r_aload_n (pc' := 166) (kX5_readStatement_0 58 rfl) rfl rfl ?_
            refine s_callV (As := []) (o := 185) (S := []) (S2 := fun z => [(0, z)]) (pc' := 169) (kX5_readStatement_0 59 rfl) rfl rfl nkX5_speakShakes mlX5_114 imX5_speakShakes rfl slX5_speakShakes rfl (Nat.le_of_ble_eq_true rfl) (Nat.le_of_ble_eq_true rfl) (kz185 Ln) h (fun z => rfl) (fun r48 φ48 α48 h => ?_)
            refine r_if_eq (t := 184) (pc' := 172) (kX5_readStatement_1 0 rfl) rfl rfl (fun c49 => ?_) (fun c49 => ?_)
            · have h := h.1 c49
              refine r_iconst 0 (pc' := 185) (kX5_readStatement_1 7 rfl) rfl (by unfold inR; omega) ?_
              exact s_zret (kX5_readStatement_1 8 rfl) rfl (Or.inl rfl) h
            · have h := h.2 c49
              refine r_aload_n (pc' := 173) (kX5_readStatement_1 1 rfl) rfl rfl ?_
              refine r_iconst 0 (pc' := 174) (kX5_readStatement_1 2 rfl) rfl (by unfold inR; omega) ?_
              refine s_callV (As := [(0, 0)]) (o := 185) (S := []) (S2 := fun z => [(0, z)]) (pc' := 177) (kX5_readStatement_1 3 rfl) rfl rfl nkX5_readTest mlX5_68 imX5_readTest rfl slX5_readTest rfl (Nat.le_of_ble_eq_true rfl) (Nat.le_of_ble_eq_true rfl) (kz185 Ln) h (fun z => rfl) (fun r50 φ50 α50 h => ?_)
              refine r_if_eq (t := 184) (pc' := 180) (kX5_readStatement_1 4 rfl) rfl rfl (fun c51 => ?_) (fun c51 => ?_)
              · have h := h.1 c51
                refine r_iconst 0 (pc' := 185) (kX5_readStatement_1 7 rfl) rfl (by unfold inR; omega) ?_
                exact s_zret (kX5_readStatement_1 8 rfl) rfl (Or.inl rfl) h
              · have h := h.2 c51
                refine r_iconst 1 (pc' := 181) (kX5_readStatement_1 5 rfl) rfl (by unfold inR; omega) ?_
                refine r_goto (pc' := 185) (kX5_readStatement_1 6 rfl) rfl ?_
                exact s_zret (kX5_readStatement_1 8 rfl) rfl (Or.inr rfl) h
          by_cases c33_6 : (φ 8 3 186) = 9
          · have h := h.2.2.2.2.2.2.1 c33_6
            refine r_tabIn (pc' := 186) 9 c33_6 (kX5_readStatement_0 34 rfl) (by decide) (by decide) rfl rfl ?_
            refine r_aload_n (pc' := 187) (kX5_readStatement_1 9 rfl) rfl rfl ?_
            refine s_callV (As := []) (o := 185) (S := []) (S2 := fun z => [(0, z)]) (pc' := 190) (kX5_readStatement_1 10 rfl) rfl rfl nkX5_readHand mlX5_117 imX5_readHand rfl slX5_readHand rfl (Nat.le_of_ble_eq_true rfl) (Nat.le_of_ble_eq_true rfl) (kz185 Ln) h (fun z => rfl) (fun r52 φ52 α52 h => ?_)
            have g53 := h.1
            have h := h.2
            exact s_zret (kX5_readStatement_1 11 rfl) rfl g53 h
          have hD := hD ⟨c33_0, c33_1, c33_2, c33_3, c33_4, c33_5, c33_6⟩
          by_cases cd3 : (φ 8 3 186) = 3
          · exact r_tabIn 3 cd3 (kX5_readStatement_0 34 rfl) (by decide) (by decide) rfl rfl hD
          by_cases cd4 : (φ 8 3 186) = 4
          · exact r_tabIn 4 cd4 (kX5_readStatement_0 34 rfl) (by decide) (by decide) rfl rfl hD
          by_cases cd6 : (φ 8 3 186) = 6
          · exact r_tabIn 6 cd6 (kX5_readStatement_0 34 rfl) (by decide) (by decide) rfl rfl hD
          exact r_tabOut (pc' := 191) (kX5_readStatement_0 34 rfl) (by omega) rfl hD
  · have h := h.2 c1
    refine r_aload_n (pc' := 7) (kX5_readStatement_0 3 rfl) rfl rfl ?_
    refine r_iconst 5 (pc' := 8) (kX5_readStatement_0 4 rfl) rfl (by unfold inR; omega) ?_
    refine r_aload_n (pc' := 9) (kX5_readStatement_0 5 rfl) rfl rfl ?_
    refine s_getr (v := 186) (pc' := 12) (kX5_readStatement_0 6 rfl) rfl fkX5_20 rfl rfl (kz185 Ln) rfl (by decide) ?_
    refine s_get (x := (φ 8 5 186)) (pc' := 15) (kX5_readStatement_0 7 rfl) rfl fkX5_86 rfl rfl rfl (kz186 Ln) rfl ?_
    refine s_callV (As := [(0, 5), (0, (φ 8 5 186))]) (o := 185) (S := []) (S2 := fun z => [(0, z)]) (pc' := 18) (kX5_readStatement_0 8 rfl) rfl rfl nkX5_refuse mlX5_95 imX5_refuse rfl slX5_refuse rfl (Nat.le_of_ble_eq_true rfl) (Nat.le_of_ble_eq_true rfl) (kz185 Ln) h (fun z => rfl) (fun r54 φ54 α54 h => ?_)
    have g55 := h.1
    have h := h.2
    exact s_zret (kX5_readStatement_0 9 rfl) rfl g55 h
theorem vX5_readSeats_0 {d : Nat} {φ : aF} {α : aA} {Q : Int → aF → aA → Prop} (h : (eX8_scan d  φ α (fun r1 φ1 α1 =>
   (eX5_readNumber d 2 9 φ1 α1 (fun r2 φ2 α2 =>
   ((r2 = (-1) →
   (Q 0 (upf φ2 2 2 19 r2) α2)) ∧
   (¬ (r2 = (-1)) →
   (Q 1 (upf φ2 2 2 19 r2) α2)))))))) : eX5_readSeats (d + 1)  φ α Q := by
  intro Ln
  refine r_aload_n (pc' := 1) (kX5_readSeats_0 0 rfl) rfl rfl ?_
  refine s_getr (v := 186) (pc' := 4) (kX5_readSeats_0 1 rfl) rfl fkX5_20 rfl rfl (kz185 Ln) rfl (by decide) ?_
  refine s_callV (As := []) (o := 186) (S := []) (S2 := fun z => []) (pc' := 7) (kX5_readSeats_0 2 rfl) rfl rfl nkX8_scan mlX5_61 imX8_scan rfl slX8_scan rfl (Nat.le_of_ble_eq_true rfl) (Nat.le_of_ble_eq_true rfl) (kz186 Ln) h (fun z => rfl) (fun r1 φ1 α1 h => ?_)
  refine r_aload_n (pc' := 8) (kX5_readSeats_0 3 rfl) rfl rfl ?_
  refine s_getr (v := 19) (pc' := 11) (kX5_readSeats_0 4 rfl) rfl fkX5_24 rfl rfl (kz185 Ln) rfl (by decide) ?_
  refine r_aload_n (pc' := 12) (kX5_readSeats_0 5 rfl) rfl rfl ?_
  refine r_iconst 2 (pc' := 13) (kX5_readSeats_0 6 rfl) rfl (by unfold inR; omega) ?_
  refine r_bipush 9 (pc' := 15) (kX5_readSeats_0 7 rfl) rfl ⟨by unfold inR; omega, rfl⟩ ?_
  refine s_callV (As := [(0, 2), (0, 9)]) (o := 185) (S := [(2, 19)]) (S2 := fun z => [(0, z), (2, 19)]) (pc' := 18) (kX5_readSeats_0 8 rfl) rfl rfl nkX5_readNumber mlX5_120 imX5_readNumber rfl slX5_readNumber rfl (Nat.le_of_ble_eq_true rfl) (Nat.le_of_ble_eq_true rfl) (kz185 Ln) h (fun z => rfl) (fun r2 φ2 α2 h => ?_)
  refine s_put (pc' := 21) (kX5_readSeats_0 9 rfl) rfl fkX5_124 fnX2_2 rfl pk_int (kz19 Ln) ?_
  refine r_aload_n (pc' := 22) (kX5_readSeats_0 10 rfl) rfl rfl ?_
  refine s_getr (v := 19) (pc' := 25) (kX5_readSeats_0 11 rfl) rfl fkX5_24 rfl rfl (kz185 Ln) rfl (by decide) ?_
  refine s_get (x := r2) (pc' := 28) (kX5_readSeats_0 12 rfl) rfl fkX5_124 rfl rfl rfl (kz19 Ln) (by simp [upf]) ?_
  refine r_iconst (-1) (pc' := 29) (kX5_readSeats_0 13 rfl) rfl (by unfold inR; omega) ?_
  refine r_icmp_eq (t := 36) (pc' := 32) (kX5_readSeats_0 14 rfl) rfl rfl (fun c3 => ?_) (fun c3 => ?_)
  · have h := h.1 c3
    refine r_iconst 0 (pc' := 37) (kX5_readSeats_0 17 rfl) rfl (by unfold inR; omega) ?_
    exact s_zret (kX5_readSeats_0 18 rfl) rfl (Or.inl rfl) h
  · have h := h.2 c3
    refine r_iconst 1 (pc' := 33) (kX5_readSeats_0 15 rfl) rfl (by unfold inR; omega) ?_
    refine r_goto (pc' := 37) (kX5_readSeats_0 16 rfl) rfl ?_
    exact s_zret (kX5_readSeats_0 18 rfl) rfl (Or.inr rfl) h
theorem vX5_readMatter_0 {d : Nat} {φ : aF} {α : aA} {Q : Int → aF → aA → Prop} (h : (((φ 2 3 19) < 4 →
   (eX8_scan d  φ α (fun r2 φ2 α2 =>
     (eX5_giveName d (φ2 2 3 19) φ2 α2 (fun r3 φ3 α3 =>
     ((¬ r3 = 0 →
     inR ((φ3 2 3 19) + 1) ∧ (Q 1 (upf φ3 2 3 19 ((φ3 2 3 19) + 1)) α3)) ∧
     (r3 = 0 →
     (Q 0 φ3 α3)))))))) ∧
   (¬ ((φ 2 3 19) < 4) →
   (eX5_refuse d 5 (φ 8 5 186) φ α (fun r6 φ6 α6 =>
     (r6 = 0 ∨ r6 = 1) ∧ (Q r6 φ6 α6)))))) : eX5_readMatter (d + 1)  φ α Q := by
  intro Ln
  refine r_aload_n (pc' := 1) (kX5_readMatter_0 0 rfl) rfl rfl ?_
  refine s_getr (v := 19) (pc' := 4) (kX5_readMatter_0 1 rfl) rfl fkX5_24 rfl rfl (kz185 Ln) rfl (by decide) ?_
  refine s_get (x := (φ 2 3 19)) (pc' := 7) (kX5_readMatter_0 2 rfl) rfl fkX5_127 rfl rfl rfl (kz19 Ln) rfl ?_
  refine r_iconst 4 (pc' := 8) (kX5_readMatter_0 3 rfl) rfl (by unfold inR; omega) ?_
  refine r_icmp_lt (t := 24) (pc' := 11) (kX5_readMatter_0 4 rfl) rfl rfl (fun c1 => ?_) (fun c1 => ?_)
  · have h := h.1 c1
    refine r_aload_n (pc' := 25) (kX5_readMatter_0 12 rfl) rfl rfl ?_
    refine s_getr (v := 186) (pc' := 28) (kX5_readMatter_0 13 rfl) rfl fkX5_20 rfl rfl (kz185 Ln) rfl (by decide) ?_
    refine s_callV (As := []) (o := 186) (S := []) (S2 := fun z => []) (pc' := 31) (kX5_readMatter_0 14 rfl) rfl rfl nkX8_scan mlX5_61 imX8_scan rfl slX8_scan rfl (Nat.le_of_ble_eq_true rfl) (Nat.le_of_ble_eq_true rfl) (kz186 Ln) h (fun z => rfl) (fun r2 φ2 α2 h => ?_)
    refine r_aload_n (pc' := 32) (kX5_readMatter_0 15 rfl) rfl rfl ?_
    refine r_aload_n (pc' := 33) (kX5_readMatter_0 16 rfl) rfl rfl ?_
    refine s_getr (v := 19) (pc' := 36) (kX5_readMatter_0 17 rfl) rfl fkX5_24 rfl rfl (kz185 Ln) rfl (by decide) ?_
    refine s_get (x := (φ2 2 3 19)) (pc' := 39) (kX5_readMatter_0 18 rfl) rfl fkX5_127 rfl rfl rfl (kz19 Ln) rfl ?_
    refine s_callV (As := [(0, (φ2 2 3 19))]) (o := 185) (S := []) (S2 := fun z => [(0, z)]) (pc' := 42) (kX5_readMatter_0 19 rfl) rfl rfl nkX5_giveName mlX5_130 imX5_giveName rfl slX5_giveName rfl (Nat.le_of_ble_eq_true rfl) (Nat.le_of_ble_eq_true rfl) (kz185 Ln) h (fun z => rfl) (fun r3 φ3 α3 h => ?_)
    refine r_if_ne (t := 47) (pc' := 45) (kX5_readMatter_0 20 rfl) rfl rfl (fun c4 => ?_) (fun c4 => ?_)
    · have h := h.1 c4
      refine r_aload_n (pc' := 48) (kX5_readMatter_0 23 rfl) rfl rfl ?_
      refine s_getr (v := 19) (pc' := 51) (kX5_readMatter_0 24 rfl) rfl fkX5_24 rfl rfl (kz185 Ln) rfl (by decide) ?_
      refine r_dup (pc' := 52) (kX5_readMatter_0 25 rfl) rfl rfl ?_
      refine s_get (x := (φ3 2 3 19)) (pc' := 55) (kX5_readMatter_0 26 rfl) rfl fkX5_127 rfl rfl rfl (kz19 Ln) rfl ?_
      refine r_iconst 1 (pc' := 56) (kX5_readMatter_0 27 rfl) rfl (by unfold inR; omega) ?_
      have g5 := h.1
      have h := h.2
      refine r_iadd (pc' := 57) (kX5_readMatter_0 28 rfl) rfl g5 ?_
      refine s_put (pc' := 60) (kX5_readMatter_0 29 rfl) rfl fkX5_127 fnX2_3 rfl pk_int (kz19 Ln) ?_
      refine r_iconst 1 (pc' := 61) (kX5_readMatter_0 30 rfl) rfl (by unfold inR; omega) ?_
      exact s_zret (kX5_readMatter_0 31 rfl) rfl (Or.inr rfl) h
    · have h := h.2 c4
      refine r_iconst 0 (pc' := 46) (kX5_readMatter_0 21 rfl) rfl (by unfold inR; omega) ?_
      exact s_zret (kX5_readMatter_0 22 rfl) rfl (Or.inl rfl) h
  · have h := h.2 c1
    refine r_aload_n (pc' := 12) (kX5_readMatter_0 5 rfl) rfl rfl ?_
    refine r_iconst 5 (pc' := 13) (kX5_readMatter_0 6 rfl) rfl (by unfold inR; omega) ?_
    refine r_aload_n (pc' := 14) (kX5_readMatter_0 7 rfl) rfl rfl ?_
    refine s_getr (v := 186) (pc' := 17) (kX5_readMatter_0 8 rfl) rfl fkX5_20 rfl rfl (kz185 Ln) rfl (by decide) ?_
    refine s_get (x := (φ 8 5 186)) (pc' := 20) (kX5_readMatter_0 9 rfl) rfl fkX5_86 rfl rfl rfl (kz186 Ln) rfl ?_
    refine s_callV (As := [(0, 5), (0, (φ 8 5 186))]) (o := 185) (S := []) (S2 := fun z => [(0, z)]) (pc' := 23) (kX5_readMatter_0 10 rfl) rfl rfl nkX5_refuse mlX5_95 imX5_refuse rfl slX5_refuse rfl (Nat.le_of_ble_eq_true rfl) (Nat.le_of_ble_eq_true rfl) (kz185 Ln) h (fun z => rfl) (fun r6 φ6 α6 h => ?_)
    have g7 := h.1
    have h := h.2
    exact s_zret (kX5_readMatter_0 11 rfl) rfl g7 h
theorem vX5_readClerk_0 {d : Nat} {φ : aF} {α : aA} {Q : Int → aF → aA → Prop} (h : (((φ 2 4 19) < 7 →
   (eX8_scan d  φ α (fun r2 φ2 α2 =>
     inR (4 + (φ 2 4 19)) ∧ (eX5_giveName d (4 + (φ 2 4 19)) φ2 α2 (fun r4 φ4 α4 =>
     ((r4 = 0 →
     (Q 0 φ4 α4)) ∧
     (¬ (r4 = 0) →
     (eX5_takeWord d 3 φ4 α4 (fun r6 φ6 α6 =>
       ((¬ r6 = 0 →
       inR ((φ6 2 2 19) - 1) ∧ (eX5_readNumber d 0 ((φ6 2 2 19) - 1) φ6 α6 (fun r9 φ9 α9 =>
         ((r9 = (-1) →
         (Q 0 φ9 α9)) ∧
         (¬ (r9 = (-1)) →
         (eX2_isTaken d 19 r9 φ9 α9 (fun r11 φ11 α11 =>
           ((r11 = 0 →
           (eX5_takeWord d 4 φ11 α11 (fun r13 φ13 α13 =>
             ((¬ r13 = 0 →
             (eX5_readNumber d 1 99 φ13 α13 (fun r15 φ15 α15 =>
               (eX10_set d 22 (φ 2 4 19) r9 φ15 α15 (fun r16 φ16 α16 =>
               (eX10_set d 21 (φ 2 4 19) r15 φ16 α16 (fun r17 φ17 α17 =>
               inR ((φ17 2 4 19) + 1) ∧ ((r15 = (-1) →
               (Q 0 (upf φ17 2 4 19 ((φ17 2 4 19) + 1)) α17)) ∧
               (¬ (r15 = (-1)) →
               (Q 1 (upf φ17 2 4 19 ((φ17 2 4 19) + 1)) α17)))))))))) ∧
             (r13 = 0 →
             (Q 0 φ13 α13)))))) ∧
           (¬ (r11 = 0) →
           (eX5_refuse d 2 (φ6 8 5 186) φ11 α11 (fun r20 φ20 α20 =>
             (r20 = 0 ∨ r20 = 1) ∧ (Q r20 φ20 α20)))))))))))) ∧
       (r6 = 0 →
       (Q 0 φ6 α6)))))))))))) ∧
   (¬ ((φ 2 4 19) < 7) →
   (eX5_refuse d 5 (φ 8 5 186) φ α (fun r22 φ22 α22 =>
     (r22 = 0 ∨ r22 = 1) ∧ (Q r22 φ22 α22)))))) : eX5_readClerk (d + 1)  φ α Q := by
  intro Ln
  refine r_aload_n (pc' := 1) (kX5_readClerk_0 0 rfl) rfl rfl ?_
  refine s_getr (v := 19) (pc' := 4) (kX5_readClerk_0 1 rfl) rfl fkX5_24 rfl rfl (kz185 Ln) rfl (by decide) ?_
  refine s_get (x := (φ 2 4 19)) (pc' := 7) (kX5_readClerk_0 2 rfl) rfl fkX5_133 rfl rfl rfl (kz19 Ln) rfl ?_
  refine r_istore_n (L' := [(2, 185), (0, (φ 2 4 19)), (9, 0), (9, 0), (9, 0)]) (pc' := 8) (kX5_readClerk_0 3 rfl) rfl (Nat.le_of_ble_eq_true rfl) rfl ?_
  refine r_iload_n (pc' := 9) (kX5_readClerk_0 4 rfl) rfl rfl ?_
  refine r_bipush 7 (pc' := 11) (kX5_readClerk_0 5 rfl) rfl ⟨by unfold inR; omega, rfl⟩ ?_
  refine r_icmp_lt (t := 27) (pc' := 14) (kX5_readClerk_0 6 rfl) rfl rfl (fun c1 => ?_) (fun c1 => ?_)
  · have h := h.1 c1
    refine r_aload_n (pc' := 28) (kX5_readClerk_0 14 rfl) rfl rfl ?_
    refine s_getr (v := 186) (pc' := 31) (kX5_readClerk_0 15 rfl) rfl fkX5_20 rfl rfl (kz185 Ln) rfl (by decide) ?_
    refine s_callV (As := []) (o := 186) (S := []) (S2 := fun z => []) (pc' := 34) (kX5_readClerk_0 16 rfl) rfl rfl nkX8_scan mlX5_61 imX8_scan rfl slX8_scan rfl (Nat.le_of_ble_eq_true rfl) (Nat.le_of_ble_eq_true rfl) (kz186 Ln) h (fun z => rfl) (fun r2 φ2 α2 h => ?_)
    refine r_aload_n (pc' := 35) (kX5_readClerk_0 17 rfl) rfl rfl ?_
    refine r_iconst 4 (pc' := 36) (kX5_readClerk_0 18 rfl) rfl (by unfold inR; omega) ?_
    refine r_iload_n (pc' := 37) (kX5_readClerk_0 19 rfl) rfl rfl ?_
    have g3 := h.1
    have h := h.2
    refine r_iadd (pc' := 38) (kX5_readClerk_0 20 rfl) rfl g3 ?_
    refine s_callV (As := [(0, (4 + (φ 2 4 19)))]) (o := 185) (S := []) (S2 := fun z => [(0, z)]) (pc' := 41) (kX5_readClerk_0 21 rfl) rfl rfl nkX5_giveName mlX5_130 imX5_giveName rfl slX5_giveName rfl (Nat.le_of_ble_eq_true rfl) (Nat.le_of_ble_eq_true rfl) (kz185 Ln) h (fun z => rfl) (fun r4 φ4 α4 h => ?_)
    refine r_if_eq (t := 52) (pc' := 44) (kX5_readClerk_0 22 rfl) rfl rfl (fun c5 => ?_) (fun c5 => ?_)
    · have h := h.1 c5
      refine r_iconst 0 (pc' := 53) (kX5_readClerk_0 27 rfl) rfl (by unfold inR; omega) ?_
      exact s_zret (kX5_readClerk_0 28 rfl) rfl (Or.inl rfl) h
    · have h := h.2 c5
      refine r_aload_n (pc' := 45) (kX5_readClerk_0 23 rfl) rfl rfl ?_
      refine r_iconst 3 (pc' := 46) (kX5_readClerk_0 24 rfl) rfl (by unfold inR; omega) ?_
      refine s_callV (As := [(0, 3)]) (o := 185) (S := []) (S2 := fun z => [(0, z)]) (pc' := 49) (kX5_readClerk_0 25 rfl) rfl rfl nkX5_takeWord mlX5_136 imX5_takeWord rfl slX5_takeWord rfl (Nat.le_of_ble_eq_true rfl) (Nat.le_of_ble_eq_true rfl) (kz185 Ln) h (fun z => rfl) (fun r6 φ6 α6 h => ?_)
      refine r_if_ne (t := 54) (pc' := 52) (kX5_readClerk_0 26 rfl) rfl rfl (fun c7 => ?_) (fun c7 => ?_)
      · have h := h.1 c7
        refine r_aload_n (pc' := 55) (kX5_readClerk_0 29 rfl) rfl rfl ?_
        refine s_getr (v := 186) (pc' := 58) (kX5_readClerk_0 30 rfl) rfl fkX5_20 rfl rfl (kz185 Ln) rfl (by decide) ?_
        refine s_get (x := (φ6 8 5 186)) (pc' := 61) (kX5_readClerk_0 31 rfl) rfl fkX5_86 rfl rfl rfl (kz186 Ln) rfl ?_
        refine r_istore_n (L' := [(2, 185), (0, (φ 2 4 19)), (0, (φ6 8 5 186)), (9, 0), (9, 0)]) (pc' := 62) (kX5_readClerk_0 32 rfl) rfl (Nat.le_of_ble_eq_true rfl) rfl ?_
        refine r_aload_n (pc' := 63) (kX5_readClerk_0 33 rfl) rfl rfl ?_
        refine r_iconst 0 (pc' := 64) (kX5_readClerk_0 34 rfl) rfl (by unfold inR; omega) ?_
        refine r_aload_n (pc' := 65) (kX5_readClerk_0 35 rfl) rfl rfl ?_
        refine s_getr (v := 19) (pc' := 68) (kX5_readClerk_0 36 rfl) rfl fkX5_24 rfl rfl (kz185 Ln) rfl (by decide) ?_
        refine s_get (x := (φ6 2 2 19)) (pc' := 71) (kX5_readClerk_0 37 rfl) rfl fkX5_124 rfl rfl rfl (kz19 Ln) rfl ?_
        refine r_iconst 1 (pc' := 72) (kX5_readClerk_0 38 rfl) rfl (by unfold inR; omega) ?_
        have g8 := h.1
        have h := h.2
        refine r_isub (pc' := 73) (kX5_readClerk_0 39 rfl) rfl g8 ?_
        refine s_callV (As := [(0, 0), (0, ((φ6 2 2 19) - 1))]) (o := 185) (S := []) (S2 := fun z => [(0, z)]) (pc' := 76) (kX5_readClerk_0 40 rfl) rfl rfl nkX5_readNumber mlX5_120 imX5_readNumber rfl slX5_readNumber rfl (Nat.le_of_ble_eq_true rfl) (Nat.le_of_ble_eq_true rfl) (kz185 Ln) h (fun z => rfl) (fun r9 φ9 α9 h => ?_)
        refine r_istore_n (L' := [(2, 185), (0, (φ 2 4 19)), (0, (φ6 8 5 186)), (0, r9), (9, 0)]) (pc' := 77) (kX5_readClerk_0 41 rfl) rfl (Nat.le_of_ble_eq_true rfl) rfl ?_
        refine r_iload_n (pc' := 78) (kX5_readClerk_0 42 rfl) rfl rfl ?_
        refine r_iconst (-1) (pc' := 79) (kX5_readClerk_0 43 rfl) rfl (by unfold inR; omega) ?_
        refine r_icmp_eq (t := 100) (pc' := 82) (kX5_readClerk_0 44 rfl) rfl rfl (fun c10 => ?_) (fun c10 => ?_)
        · have h := h.1 c10
          refine r_iload_n (pc' := 101) (kX5_readClerk_0 55 rfl) rfl rfl ?_
          refine r_iconst (-1) (pc' := 102) (kX5_readClerk_0 56 rfl) rfl (by unfold inR; omega) ?_
          refine r_icmp_eq (t := 113) (pc' := 105) (kX5_readClerk_0 57 rfl) rfl rfl (fun _ => ?_) (fun cz => absurd c10 cz)
          refine r_iconst 0 (pc' := 114) (kX5_readClerk_1 2 rfl) rfl (by unfold inR; omega) ?_
          exact s_zret (kX5_readClerk_1 3 rfl) rfl (Or.inl rfl) h
        · have h := h.2 c10
          refine r_aload_n (pc' := 83) (kX5_readClerk_0 45 rfl) rfl rfl ?_
          refine s_getr (v := 19) (pc' := 86) (kX5_readClerk_0 46 rfl) rfl fkX5_24 rfl rfl (kz185 Ln) rfl (by decide) ?_
          refine r_iload_n (pc' := 87) (kX5_readClerk_0 47 rfl) rfl rfl ?_
          refine s_callV (As := [(0, r9)]) (o := 19) (S := []) (S2 := fun z => [(0, z)]) (pc' := 90) (kX5_readClerk_0 48 rfl) rfl rfl nkX2_isTaken mlX5_139 imX2_isTaken rfl slX2_isTaken rfl (Nat.le_of_ble_eq_true rfl) (Nat.le_of_ble_eq_true rfl) (kz19 Ln) h (fun z => rfl) (fun r11 φ11 α11 h => ?_)
          refine r_if_eq (t := 100) (pc' := 93) (kX5_readClerk_0 49 rfl) rfl rfl (fun c12 => ?_) (fun c12 => ?_)
          · have h := h.1 c12
            refine r_iload_n (pc' := 101) (kX5_readClerk_0 55 rfl) rfl rfl ?_
            refine r_iconst (-1) (pc' := 102) (kX5_readClerk_0 56 rfl) rfl (by unfold inR; omega) ?_
            refine r_icmp_eq (t := 113) (pc' := 105) (kX5_readClerk_0 57 rfl) rfl rfl (fun cz => absurd cz c10) (fun _ => ?_)
            refine r_aload_n (pc' := 106) (kX5_readClerk_0 58 rfl) rfl rfl ?_
            refine r_iconst 4 (pc' := 107) (kX5_readClerk_0 59 rfl) rfl (by unfold inR; omega) ?_
            refine s_callV (As := [(0, 4)]) (o := 185) (S := []) (S2 := fun z => [(0, z)]) (pc' := 110) (kX5_readClerk_1 0 rfl) rfl rfl nkX5_takeWord mlX5_136 imX5_takeWord rfl slX5_takeWord rfl (Nat.le_of_ble_eq_true rfl) (Nat.le_of_ble_eq_true rfl) (kz185 Ln) h (fun z => rfl) (fun r13 φ13 α13 h => ?_)
            refine r_if_ne (t := 115) (pc' := 113) (kX5_readClerk_1 1 rfl) rfl rfl (fun c14 => ?_) (fun c14 => ?_)
            · have h := h.1 c14
              refine r_aload_n (pc' := 116) (kX5_readClerk_1 4 rfl) rfl rfl ?_
              refine r_iconst 1 (pc' := 117) (kX5_readClerk_1 5 rfl) rfl (by unfold inR; omega) ?_
              refine r_bipush 99 (pc' := 119) (kX5_readClerk_1 6 rfl) rfl ⟨by unfold inR; omega, rfl⟩ ?_
              refine s_callV (As := [(0, 1), (0, 99)]) (o := 185) (S := []) (S2 := fun z => [(0, z)]) (pc' := 122) (kX5_readClerk_1 7 rfl) rfl rfl nkX5_readNumber mlX5_120 imX5_readNumber rfl slX5_readNumber rfl (Nat.le_of_ble_eq_true rfl) (Nat.le_of_ble_eq_true rfl) (kz185 Ln) h (fun z => rfl) (fun r15 φ15 α15 h => ?_)
              refine r_istore (L' := [(2, 185), (0, (φ 2 4 19)), (0, (φ6 8 5 186)), (0, r9), (0, r15)]) (pc' := 124) (kX5_readClerk_1 8 rfl) rfl (Nat.le_of_ble_eq_true rfl) rfl ?_
              refine r_aload_n (pc' := 125) (kX5_readClerk_1 9 rfl) rfl rfl ?_
              refine s_getr (v := 19) (pc' := 128) (kX5_readClerk_1 10 rfl) rfl fkX5_24 rfl rfl (kz185 Ln) rfl (by decide) ?_
              refine s_getr (v := 22) (pc' := 131) (kX5_readClerk_1 11 rfl) rfl fkX5_142 rfl rfl (kz19 Ln) rfl (by decide) ?_
              refine r_iload_n (pc' := 132) (kX5_readClerk_1 12 rfl) rfl rfl ?_
              refine r_iload_n (pc' := 133) (kX5_readClerk_1 13 rfl) rfl rfl ?_
              refine s_callS (As := [(2, 22), (0, (φ 2 4 19)), (0, r9)]) (S := []) (S2 := fun z => []) (pc' := 136) (kX5_readClerk_1 14 rfl) rfl rfl nkX10_set mlX5_146 scX10_set rfl (Nat.le_of_ble_eq_true rfl) (Nat.le_of_ble_eq_true rfl) h (fun z => rfl) (fun r16 φ16 α16 h => ?_)
              refine r_aload_n (pc' := 137) (kX5_readClerk_1 15 rfl) rfl rfl ?_
              refine s_getr (v := 19) (pc' := 140) (kX5_readClerk_1 16 rfl) rfl fkX5_24 rfl rfl (kz185 Ln) rfl (by decide) ?_
              refine s_getr (v := 21) (pc' := 143) (kX5_readClerk_1 17 rfl) rfl fkX5_150 rfl rfl (kz19 Ln) rfl (by decide) ?_
              refine r_iload_n (pc' := 144) (kX5_readClerk_1 18 rfl) rfl rfl ?_
              refine r_iload (pc' := 146) (kX5_readClerk_1 19 rfl) rfl rfl ?_
              refine s_callS (As := [(2, 21), (0, (φ 2 4 19)), (0, r15)]) (S := []) (S2 := fun z => []) (pc' := 149) (kX5_readClerk_1 20 rfl) rfl rfl nkX10_set mlX5_146 scX10_set rfl (Nat.le_of_ble_eq_true rfl) (Nat.le_of_ble_eq_true rfl) h (fun z => rfl) (fun r17 φ17 α17 h => ?_)
              refine r_aload_n (pc' := 150) (kX5_readClerk_1 21 rfl) rfl rfl ?_
              refine s_getr (v := 19) (pc' := 153) (kX5_readClerk_1 22 rfl) rfl fkX5_24 rfl rfl (kz185 Ln) rfl (by decide) ?_
              refine r_dup (pc' := 154) (kX5_readClerk_1 23 rfl) rfl rfl ?_
              refine s_get (x := (φ17 2 4 19)) (pc' := 157) (kX5_readClerk_1 24 rfl) rfl fkX5_133 rfl rfl rfl (kz19 Ln) rfl ?_
              refine r_iconst 1 (pc' := 158) (kX5_readClerk_1 25 rfl) rfl (by unfold inR; omega) ?_
              have g18 := h.1
              have h := h.2
              refine r_iadd (pc' := 159) (kX5_readClerk_1 26 rfl) rfl g18 ?_
              refine s_put (pc' := 162) (kX5_readClerk_1 27 rfl) rfl fkX5_133 fnX2_4 rfl pk_int (kz19 Ln) ?_
              refine r_iload (pc' := 164) (kX5_readClerk_1 28 rfl) rfl rfl ?_
              refine r_iconst (-1) (pc' := 165) (kX5_readClerk_1 29 rfl) rfl (by unfold inR; omega) ?_
              refine r_icmp_eq (t := 172) (pc' := 168) (kX5_readClerk_1 30 rfl) rfl rfl (fun c19 => ?_) (fun c19 => ?_)
              · have h := h.1 c19
                refine r_iconst 0 (pc' := 173) (kX5_readClerk_1 33 rfl) rfl (by unfold inR; omega) ?_
                exact s_zret (kX5_readClerk_1 34 rfl) rfl (Or.inl rfl) h
              · have h := h.2 c19
                refine r_iconst 1 (pc' := 169) (kX5_readClerk_1 31 rfl) rfl (by unfold inR; omega) ?_
                refine r_goto (pc' := 173) (kX5_readClerk_1 32 rfl) rfl ?_
                exact s_zret (kX5_readClerk_1 34 rfl) rfl (Or.inr rfl) h
            · have h := h.2 c14
              refine r_iconst 0 (pc' := 114) (kX5_readClerk_1 2 rfl) rfl (by unfold inR; omega) ?_
              exact s_zret (kX5_readClerk_1 3 rfl) rfl (Or.inl rfl) h
          · have h := h.2 c12
            refine r_aload_n (pc' := 94) (kX5_readClerk_0 50 rfl) rfl rfl ?_
            refine r_iconst 2 (pc' := 95) (kX5_readClerk_0 51 rfl) rfl (by unfold inR; omega) ?_
            refine r_iload_n (pc' := 96) (kX5_readClerk_0 52 rfl) rfl rfl ?_
            refine s_callV (As := [(0, 2), (0, (φ6 8 5 186))]) (o := 185) (S := []) (S2 := fun z => [(0, z)]) (pc' := 99) (kX5_readClerk_0 53 rfl) rfl rfl nkX5_refuse mlX5_95 imX5_refuse rfl slX5_refuse rfl (Nat.le_of_ble_eq_true rfl) (Nat.le_of_ble_eq_true rfl) (kz185 Ln) h (fun z => rfl) (fun r20 φ20 α20 h => ?_)
            have g21 := h.1
            have h := h.2
            exact s_zret (kX5_readClerk_0 54 rfl) rfl g21 h
      · have h := h.2 c7
        refine r_iconst 0 (pc' := 53) (kX5_readClerk_0 27 rfl) rfl (by unfold inR; omega) ?_
        exact s_zret (kX5_readClerk_0 28 rfl) rfl (Or.inl rfl) h
  · have h := h.2 c1
    refine r_aload_n (pc' := 15) (kX5_readClerk_0 7 rfl) rfl rfl ?_
    refine r_iconst 5 (pc' := 16) (kX5_readClerk_0 8 rfl) rfl (by unfold inR; omega) ?_
    refine r_aload_n (pc' := 17) (kX5_readClerk_0 9 rfl) rfl rfl ?_
    refine s_getr (v := 186) (pc' := 20) (kX5_readClerk_0 10 rfl) rfl fkX5_20 rfl rfl (kz185 Ln) rfl (by decide) ?_
    refine s_get (x := (φ 8 5 186)) (pc' := 23) (kX5_readClerk_0 11 rfl) rfl fkX5_86 rfl rfl rfl (kz186 Ln) rfl ?_
    refine s_callV (As := [(0, 5), (0, (φ 8 5 186))]) (o := 185) (S := []) (S2 := fun z => [(0, z)]) (pc' := 26) (kX5_readClerk_0 12 rfl) rfl rfl nkX5_refuse mlX5_95 imX5_refuse rfl slX5_refuse rfl (Nat.le_of_ble_eq_true rfl) (Nat.le_of_ble_eq_true rfl) (kz185 Ln) h (fun z => rfl) (fun r22 φ22 α22 h => ?_)
    have g23 := h.1
    have h := h.2
    exact s_zret (kX5_readClerk_0 13 rfl) rfl g23 h
theorem vX5_readTold_0 {d : Nat} {φ : aF} {α : aA} {Q : Int → aF → aA → Prop} (h : (eX8_scan d  φ α (fun r1 φ1 α1 =>
   (eX5_findName d 4 (φ1 2 4 19) φ1 α1 (fun r2 φ2 α2 =>
   ((r2 = (-1) →
   (Q 0 φ2 α2)) ∧
   (¬ (r2 = (-1)) →
   (eX5_takeWord d 6 φ2 α2 (fun r4 φ4 α4 =>
     ((¬ r4 = 0 →
     (eX5_findName d 0 (φ4 2 3 19) φ4 α4 (fun r6 φ6 α6 =>
       ((¬ r6 = (-1) →
       (eX10_pick d 21 r2 φ6 α6 (fun r8 φ8 α8 =>
         (eX10_pick d 24 r2 φ8 α8 (fun r9 φ9 α9 =>
         inR (r8 - r9) ∧ (eX5_readNumber d 0 (r8 - r9) φ9 α9 (fun r11 φ11 α11 =>
         ((¬ r11 = (-1) →
         inR (r2 * 4) ∧ inR ((r2 * 4) + r6) ∧ (eX10_add d 23 ((r2 * 4) + r6) r11 φ11 α11 (fun r15 φ15 α15 =>
           (eX10_add d 24 r2 r11 φ15 α15 (fun r16 φ16 α16 =>
           (Q 1 φ16 α16)))))) ∧
         (r11 = (-1) →
         (Q 0 φ11 α11)))))))))) ∧
       (r6 = (-1) →
       (Q 0 φ6 α6)))))) ∧
     (r4 = 0 →
     (Q 0 φ4 α4)))))))))))) : eX5_readTold (d + 1)  φ α Q := by
  intro Ln
  refine r_aload_n (pc' := 1) (kX5_readTold_0 0 rfl) rfl rfl ?_
  refine s_getr (v := 186) (pc' := 4) (kX5_readTold_0 1 rfl) rfl fkX5_20 rfl rfl (kz185 Ln) rfl (by decide) ?_
  refine s_callV (As := []) (o := 186) (S := []) (S2 := fun z => []) (pc' := 7) (kX5_readTold_0 2 rfl) rfl rfl nkX8_scan mlX5_61 imX8_scan rfl slX8_scan rfl (Nat.le_of_ble_eq_true rfl) (Nat.le_of_ble_eq_true rfl) (kz186 Ln) h (fun z => rfl) (fun r1 φ1 α1 h => ?_)
  refine r_aload_n (pc' := 8) (kX5_readTold_0 3 rfl) rfl rfl ?_
  refine r_iconst 4 (pc' := 9) (kX5_readTold_0 4 rfl) rfl (by unfold inR; omega) ?_
  refine r_aload_n (pc' := 10) (kX5_readTold_0 5 rfl) rfl rfl ?_
  refine s_getr (v := 19) (pc' := 13) (kX5_readTold_0 6 rfl) rfl fkX5_24 rfl rfl (kz185 Ln) rfl (by decide) ?_
  refine s_get (x := (φ1 2 4 19)) (pc' := 16) (kX5_readTold_0 7 rfl) rfl fkX5_133 rfl rfl rfl (kz19 Ln) rfl ?_
  refine s_callV (As := [(0, 4), (0, (φ1 2 4 19))]) (o := 185) (S := []) (S2 := fun z => [(0, z)]) (pc' := 19) (kX5_readTold_0 8 rfl) rfl rfl nkX5_findName mlX5_153 imX5_findName rfl slX5_findName rfl (Nat.le_of_ble_eq_true rfl) (Nat.le_of_ble_eq_true rfl) (kz185 Ln) h (fun z => rfl) (fun r2 φ2 α2 h => ?_)
  refine r_istore_n (L' := [(2, 185), (0, r2), (9, 0), (9, 0), (9, 0)]) (pc' := 20) (kX5_readTold_0 9 rfl) rfl (Nat.le_of_ble_eq_true rfl) rfl ?_
  refine r_iload_n (pc' := 21) (kX5_readTold_0 10 rfl) rfl rfl ?_
  refine r_iconst (-1) (pc' := 22) (kX5_readTold_0 11 rfl) rfl (by unfold inR; omega) ?_
  refine r_icmp_eq (t := 34) (pc' := 25) (kX5_readTold_0 12 rfl) rfl rfl (fun c3 => ?_) (fun c3 => ?_)
  · have h := h.1 c3
    refine r_iconst 0 (pc' := 35) (kX5_readTold_0 17 rfl) rfl (by unfold inR; omega) ?_
    exact s_zret (kX5_readTold_0 18 rfl) rfl (Or.inl rfl) h
  · have h := h.2 c3
    refine r_aload_n (pc' := 26) (kX5_readTold_0 13 rfl) rfl rfl ?_
    refine r_bipush 6 (pc' := 28) (kX5_readTold_0 14 rfl) rfl ⟨by unfold inR; omega, rfl⟩ ?_
    refine s_callV (As := [(0, 6)]) (o := 185) (S := []) (S2 := fun z => [(0, z)]) (pc' := 31) (kX5_readTold_0 15 rfl) rfl rfl nkX5_takeWord mlX5_136 imX5_takeWord rfl slX5_takeWord rfl (Nat.le_of_ble_eq_true rfl) (Nat.le_of_ble_eq_true rfl) (kz185 Ln) h (fun z => rfl) (fun r4 φ4 α4 h => ?_)
    refine r_if_ne (t := 36) (pc' := 34) (kX5_readTold_0 16 rfl) rfl rfl (fun c5 => ?_) (fun c5 => ?_)
    · have h := h.1 c5
      refine r_aload_n (pc' := 37) (kX5_readTold_0 19 rfl) rfl rfl ?_
      refine r_iconst 0 (pc' := 38) (kX5_readTold_0 20 rfl) rfl (by unfold inR; omega) ?_
      refine r_aload_n (pc' := 39) (kX5_readTold_0 21 rfl) rfl rfl ?_
      refine s_getr (v := 19) (pc' := 42) (kX5_readTold_0 22 rfl) rfl fkX5_24 rfl rfl (kz185 Ln) rfl (by decide) ?_
      refine s_get (x := (φ4 2 3 19)) (pc' := 45) (kX5_readTold_0 23 rfl) rfl fkX5_127 rfl rfl rfl (kz19 Ln) rfl ?_
      refine s_callV (As := [(0, 0), (0, (φ4 2 3 19))]) (o := 185) (S := []) (S2 := fun z => [(0, z)]) (pc' := 48) (kX5_readTold_0 24 rfl) rfl rfl nkX5_findName mlX5_153 imX5_findName rfl slX5_findName rfl (Nat.le_of_ble_eq_true rfl) (Nat.le_of_ble_eq_true rfl) (kz185 Ln) h (fun z => rfl) (fun r6 φ6 α6 h => ?_)
      refine r_istore_n (L' := [(2, 185), (0, r2), (0, r6), (9, 0), (9, 0)]) (pc' := 49) (kX5_readTold_0 25 rfl) rfl (Nat.le_of_ble_eq_true rfl) rfl ?_
      refine r_iload_n (pc' := 50) (kX5_readTold_0 26 rfl) rfl rfl ?_
      refine r_iconst (-1) (pc' := 51) (kX5_readTold_0 27 rfl) rfl (by unfold inR; omega) ?_
      refine r_icmp_ne (t := 56) (pc' := 54) (kX5_readTold_0 28 rfl) rfl rfl (fun c7 => ?_) (fun c7 => ?_)
      · have h := h.1 c7
        refine r_aload_n (pc' := 57) (kX5_readTold_0 31 rfl) rfl rfl ?_
        refine s_getr (v := 19) (pc' := 60) (kX5_readTold_0 32 rfl) rfl fkX5_24 rfl rfl (kz185 Ln) rfl (by decide) ?_
        refine s_getr (v := 21) (pc' := 63) (kX5_readTold_0 33 rfl) rfl fkX5_150 rfl rfl (kz19 Ln) rfl (by decide) ?_
        refine r_iload_n (pc' := 64) (kX5_readTold_0 34 rfl) rfl rfl ?_
        refine s_callS (As := [(2, 21), (0, r2)]) (S := []) (S2 := fun z => [(0, z)]) (pc' := 67) (kX5_readTold_0 35 rfl) rfl rfl nkX10_pick mlX5_156 scX10_pick rfl (Nat.le_of_ble_eq_true rfl) (Nat.le_of_ble_eq_true rfl) h (fun z => rfl) (fun r8 φ8 α8 h => ?_)
        refine r_aload_n (pc' := 68) (kX5_readTold_0 36 rfl) rfl rfl ?_
        refine s_getr (v := 19) (pc' := 71) (kX5_readTold_0 37 rfl) rfl fkX5_24 rfl rfl (kz185 Ln) rfl (by decide) ?_
        refine s_getr (v := 24) (pc' := 74) (kX5_readTold_0 38 rfl) rfl fkX5_160 rfl rfl (kz19 Ln) rfl (by decide) ?_
        refine r_iload_n (pc' := 75) (kX5_readTold_0 39 rfl) rfl rfl ?_
        refine s_callS (As := [(2, 24), (0, r2)]) (S := [(0, r8)]) (S2 := fun z => [(0, z), (0, r8)]) (pc' := 78) (kX5_readTold_0 40 rfl) rfl rfl nkX10_pick mlX5_156 scX10_pick rfl (Nat.le_of_ble_eq_true rfl) (Nat.le_of_ble_eq_true rfl) h (fun z => rfl) (fun r9 φ9 α9 h => ?_)
        have g10 := h.1
        have h := h.2
        refine r_isub (pc' := 79) (kX5_readTold_0 41 rfl) rfl g10 ?_
        refine r_istore_n (L' := [(2, 185), (0, r2), (0, r6), (0, (r8 - r9)), (9, 0)]) (pc' := 80) (kX5_readTold_0 42 rfl) rfl (Nat.le_of_ble_eq_true rfl) rfl ?_
        refine r_aload_n (pc' := 81) (kX5_readTold_0 43 rfl) rfl rfl ?_
        refine r_iconst 0 (pc' := 82) (kX5_readTold_0 44 rfl) rfl (by unfold inR; omega) ?_
        refine r_iload_n (pc' := 83) (kX5_readTold_0 45 rfl) rfl rfl ?_
        refine s_callV (As := [(0, 0), (0, (r8 - r9))]) (o := 185) (S := []) (S2 := fun z => [(0, z)]) (pc' := 86) (kX5_readTold_0 46 rfl) rfl rfl nkX5_readNumber mlX5_120 imX5_readNumber rfl slX5_readNumber rfl (Nat.le_of_ble_eq_true rfl) (Nat.le_of_ble_eq_true rfl) (kz185 Ln) h (fun z => rfl) (fun r11 φ11 α11 h => ?_)
        refine r_istore (L' := [(2, 185), (0, r2), (0, r6), (0, (r8 - r9)), (0, r11)]) (pc' := 88) (kX5_readTold_0 47 rfl) rfl (Nat.le_of_ble_eq_true rfl) rfl ?_
        refine r_iload (pc' := 90) (kX5_readTold_0 48 rfl) rfl rfl ?_
        refine r_iconst (-1) (pc' := 91) (kX5_readTold_0 49 rfl) rfl (by unfold inR; omega) ?_
        refine r_icmp_ne (t := 96) (pc' := 94) (kX5_readTold_0 50 rfl) rfl rfl (fun c12 => ?_) (fun c12 => ?_)
        · have h := h.1 c12
          refine r_aload_n (pc' := 97) (kX5_readTold_0 53 rfl) rfl rfl ?_
          refine s_getr (v := 19) (pc' := 100) (kX5_readTold_0 54 rfl) rfl fkX5_24 rfl rfl (kz185 Ln) rfl (by decide) ?_
          refine s_getr (v := 23) (pc' := 103) (kX5_readTold_0 55 rfl) rfl fkX5_163 rfl rfl (kz19 Ln) rfl (by decide) ?_
          refine r_iload_n (pc' := 104) (kX5_readTold_0 56 rfl) rfl rfl ?_
          refine r_iconst 4 (pc' := 105) (kX5_readTold_0 57 rfl) rfl (by unfold inR; omega) ?_
          have g13 := h.1
          have h := h.2
          refine r_imul (pc' := 106) (kX5_readTold_0 58 rfl) rfl g13 ?_
          refine r_iload_n (pc' := 107) (kX5_readTold_0 59 rfl) rfl rfl ?_
          have g14 := h.1
          have h := h.2
          refine r_iadd (pc' := 108) (kX5_readTold_1 0 rfl) rfl g14 ?_
          refine r_iload (pc' := 110) (kX5_readTold_1 1 rfl) rfl rfl ?_
          refine s_callS (As := [(2, 23), (0, ((r2 * 4) + r6)), (0, r11)]) (S := []) (S2 := fun z => []) (pc' := 113) (kX5_readTold_1 2 rfl) rfl rfl nkX10_add mlX5_166 scX10_add rfl (Nat.le_of_ble_eq_true rfl) (Nat.le_of_ble_eq_true rfl) h (fun z => rfl) (fun r15 φ15 α15 h => ?_)
          refine r_aload_n (pc' := 114) (kX5_readTold_1 3 rfl) rfl rfl ?_
          refine s_getr (v := 19) (pc' := 117) (kX5_readTold_1 4 rfl) rfl fkX5_24 rfl rfl (kz185 Ln) rfl (by decide) ?_
          refine s_getr (v := 24) (pc' := 120) (kX5_readTold_1 5 rfl) rfl fkX5_160 rfl rfl (kz19 Ln) rfl (by decide) ?_
          refine r_iload_n (pc' := 121) (kX5_readTold_1 6 rfl) rfl rfl ?_
          refine r_iload (pc' := 123) (kX5_readTold_1 7 rfl) rfl rfl ?_
          refine s_callS (As := [(2, 24), (0, r2), (0, r11)]) (S := []) (S2 := fun z => []) (pc' := 126) (kX5_readTold_1 8 rfl) rfl rfl nkX10_add mlX5_166 scX10_add rfl (Nat.le_of_ble_eq_true rfl) (Nat.le_of_ble_eq_true rfl) h (fun z => rfl) (fun r16 φ16 α16 h => ?_)
          refine r_iconst 1 (pc' := 127) (kX5_readTold_1 9 rfl) rfl (by unfold inR; omega) ?_
          exact s_zret (kX5_readTold_1 10 rfl) rfl (Or.inr rfl) h
        · have h := h.2 c12
          refine r_iconst 0 (pc' := 95) (kX5_readTold_0 51 rfl) rfl (by unfold inR; omega) ?_
          exact s_zret (kX5_readTold_0 52 rfl) rfl (Or.inl rfl) h
      · have h := h.2 c7
        refine r_iconst 0 (pc' := 55) (kX5_readTold_0 29 rfl) rfl (by unfold inR; omega) ?_
        exact s_zret (kX5_readTold_0 30 rfl) rfl (Or.inl rfl) h
    · have h := h.2 c5
      refine r_iconst 0 (pc' := 35) (kX5_readTold_0 17 rfl) rfl (by unfold inR; omega) ?_
      exact s_zret (kX5_readTold_0 18 rfl) rfl (Or.inl rfl) h
theorem vX5_speakLeaks_0 {d : Nat} {φ : aF} {α : aA} {Q : Int → aF → aA → Prop} (h : (((φ 2 6 19) = 0 →
   (eX8_scan d  (upf φ 2 6 19 1) α (fun r2 φ2 α2 =>
     (eX5_speak d 25 7 φ2 α2 (fun r3 φ3 α3 =>
     (Q 1 φ3 α3)))))) ∧
   (¬ ((φ 2 6 19) = 0) →
   (eX5_refuse d 5 (φ 8 5 186) φ α (fun r4 φ4 α4 =>
     (r4 = 0 ∨ r4 = 1) ∧ (Q r4 φ4 α4)))))) : eX5_speakLeaks (d + 1)  φ α Q := by
  intro Ln
  refine r_aload_n (pc' := 1) (kX5_speakLeaks_0 0 rfl) rfl rfl ?_
  refine s_getr (v := 19) (pc' := 4) (kX5_speakLeaks_0 1 rfl) rfl fkX5_24 rfl rfl (kz185 Ln) rfl (by decide) ?_
  refine s_get (x := (φ 2 6 19)) (pc' := 7) (kX5_speakLeaks_0 2 rfl) rfl fkX5_169 rfl rfl rfl (kz19 Ln) rfl ?_
  refine r_if_eq (t := 23) (pc' := 10) (kX5_speakLeaks_0 3 rfl) rfl rfl (fun c1 => ?_) (fun c1 => ?_)
  · have h := h.1 c1
    refine r_aload_n (pc' := 24) (kX5_speakLeaks_0 11 rfl) rfl rfl ?_
    refine s_getr (v := 19) (pc' := 27) (kX5_speakLeaks_0 12 rfl) rfl fkX5_24 rfl rfl (kz185 Ln) rfl (by decide) ?_
    refine r_iconst 1 (pc' := 28) (kX5_speakLeaks_0 13 rfl) rfl (by unfold inR; omega) ?_
    refine s_put (pc' := 31) (kX5_speakLeaks_0 14 rfl) rfl fkX5_169 fnX2_6 rfl (pk_bool (Or.inr rfl)) (kz19 Ln) ?_
    refine r_aload_n (pc' := 32) (kX5_speakLeaks_0 15 rfl) rfl rfl ?_
    refine s_getr (v := 186) (pc' := 35) (kX5_speakLeaks_0 16 rfl) rfl fkX5_20 rfl rfl (kz185 Ln) rfl (by decide) ?_
    refine s_callV (As := []) (o := 186) (S := []) (S2 := fun z => []) (pc' := 38) (kX5_speakLeaks_0 17 rfl) rfl rfl nkX8_scan mlX5_61 imX8_scan rfl slX8_scan rfl (Nat.le_of_ble_eq_true rfl) (Nat.le_of_ble_eq_true rfl) (kz186 Ln) h (fun z => rfl) (fun r2 φ2 α2 h => ?_)
    refine r_aload_n (pc' := 39) (kX5_speakLeaks_0 18 rfl) rfl rfl ?_
    refine r_aload_n (pc' := 40) (kX5_speakLeaks_0 19 rfl) rfl rfl ?_
    refine s_getr (v := 19) (pc' := 43) (kX5_speakLeaks_0 20 rfl) rfl fkX5_24 rfl rfl (kz185 Ln) rfl (by decide) ?_
    refine s_getr (v := 25) (pc' := 46) (kX5_speakLeaks_0 21 rfl) rfl fkX5_173 rfl rfl (kz19 Ln) rfl (by decide) ?_
    refine r_bipush 7 (pc' := 48) (kX5_speakLeaks_0 22 rfl) rfl ⟨by unfold inR; omega, rfl⟩ ?_
    refine s_callV (As := [(2, 25), (0, 7)]) (o := 185) (S := []) (S2 := fun z => []) (pc' := 51) (kX5_speakLeaks_0 23 rfl) rfl rfl nkX5_speak mlX5_64 imX5_speak rfl slX5_speak rfl (Nat.le_of_ble_eq_true rfl) (Nat.le_of_ble_eq_true rfl) (kz185 Ln) h (fun z => rfl) (fun r3 φ3 α3 h => ?_)
    refine r_iconst 1 (pc' := 52) (kX5_speakLeaks_0 24 rfl) rfl (by unfold inR; omega) ?_
    exact s_zret (kX5_speakLeaks_0 25 rfl) rfl (Or.inr rfl) h
  · have h := h.2 c1
    refine r_aload_n (pc' := 11) (kX5_speakLeaks_0 4 rfl) rfl rfl ?_
    refine r_iconst 5 (pc' := 12) (kX5_speakLeaks_0 5 rfl) rfl (by unfold inR; omega) ?_
    refine r_aload_n (pc' := 13) (kX5_speakLeaks_0 6 rfl) rfl rfl ?_
    refine s_getr (v := 186) (pc' := 16) (kX5_speakLeaks_0 7 rfl) rfl fkX5_20 rfl rfl (kz185 Ln) rfl (by decide) ?_
    refine s_get (x := (φ 8 5 186)) (pc' := 19) (kX5_speakLeaks_0 8 rfl) rfl fkX5_86 rfl rfl rfl (kz186 Ln) rfl ?_
    refine s_callV (As := [(0, 5), (0, (φ 8 5 186))]) (o := 185) (S := []) (S2 := fun z => [(0, z)]) (pc' := 22) (kX5_speakLeaks_0 9 rfl) rfl rfl nkX5_refuse mlX5_95 imX5_refuse rfl slX5_refuse rfl (Nat.le_of_ble_eq_true rfl) (Nat.le_of_ble_eq_true rfl) (kz185 Ln) h (fun z => rfl) (fun r4 φ4 α4 h => ?_)
    have g5 := h.1
    have h := h.2
    exact s_zret (kX5_speakLeaks_0 10 rfl) rfl g5 h
theorem vX5_speakShakes_0 {d : Nat} {φ : aF} {α : aA} {Q : Int → aF → aA → Prop} (h : (((φ 2 7 19) = 0 →
   (eX8_scan d  (upf φ 2 7 19 1) α (fun r2 φ2 α2 =>
     (eX5_speak d 27 8 φ2 α2 (fun r3 φ3 α3 =>
     (Q 1 φ3 α3)))))) ∧
   (¬ ((φ 2 7 19) = 0) →
   (eX5_refuse d 5 (φ 8 5 186) φ α (fun r4 φ4 α4 =>
     (r4 = 0 ∨ r4 = 1) ∧ (Q r4 φ4 α4)))))) : eX5_speakShakes (d + 1)  φ α Q := by
  intro Ln
  refine r_aload_n (pc' := 1) (kX5_speakShakes_0 0 rfl) rfl rfl ?_
  refine s_getr (v := 19) (pc' := 4) (kX5_speakShakes_0 1 rfl) rfl fkX5_24 rfl rfl (kz185 Ln) rfl (by decide) ?_
  refine s_get (x := (φ 2 7 19)) (pc' := 7) (kX5_speakShakes_0 2 rfl) rfl fkX5_176 rfl rfl rfl (kz19 Ln) rfl ?_
  refine r_if_eq (t := 23) (pc' := 10) (kX5_speakShakes_0 3 rfl) rfl rfl (fun c1 => ?_) (fun c1 => ?_)
  · have h := h.1 c1
    refine r_aload_n (pc' := 24) (kX5_speakShakes_0 11 rfl) rfl rfl ?_
    refine s_getr (v := 19) (pc' := 27) (kX5_speakShakes_0 12 rfl) rfl fkX5_24 rfl rfl (kz185 Ln) rfl (by decide) ?_
    refine r_iconst 1 (pc' := 28) (kX5_speakShakes_0 13 rfl) rfl (by unfold inR; omega) ?_
    refine s_put (pc' := 31) (kX5_speakShakes_0 14 rfl) rfl fkX5_176 fnX2_7 rfl (pk_bool (Or.inr rfl)) (kz19 Ln) ?_
    refine r_aload_n (pc' := 32) (kX5_speakShakes_0 15 rfl) rfl rfl ?_
    refine s_getr (v := 186) (pc' := 35) (kX5_speakShakes_0 16 rfl) rfl fkX5_20 rfl rfl (kz185 Ln) rfl (by decide) ?_
    refine s_callV (As := []) (o := 186) (S := []) (S2 := fun z => []) (pc' := 38) (kX5_speakShakes_0 17 rfl) rfl rfl nkX8_scan mlX5_61 imX8_scan rfl slX8_scan rfl (Nat.le_of_ble_eq_true rfl) (Nat.le_of_ble_eq_true rfl) (kz186 Ln) h (fun z => rfl) (fun r2 φ2 α2 h => ?_)
    refine r_aload_n (pc' := 39) (kX5_speakShakes_0 18 rfl) rfl rfl ?_
    refine r_aload_n (pc' := 40) (kX5_speakShakes_0 19 rfl) rfl rfl ?_
    refine s_getr (v := 19) (pc' := 43) (kX5_speakShakes_0 20 rfl) rfl fkX5_24 rfl rfl (kz185 Ln) rfl (by decide) ?_
    refine s_getr (v := 27) (pc' := 46) (kX5_speakShakes_0 21 rfl) rfl fkX5_179 rfl rfl (kz19 Ln) rfl (by decide) ?_
    refine r_bipush 8 (pc' := 48) (kX5_speakShakes_0 22 rfl) rfl ⟨by unfold inR; omega, rfl⟩ ?_
    refine s_callV (As := [(2, 27), (0, 8)]) (o := 185) (S := []) (S2 := fun z => []) (pc' := 51) (kX5_speakShakes_0 23 rfl) rfl rfl nkX5_speak mlX5_64 imX5_speak rfl slX5_speak rfl (Nat.le_of_ble_eq_true rfl) (Nat.le_of_ble_eq_true rfl) (kz185 Ln) h (fun z => rfl) (fun r3 φ3 α3 h => ?_)
    refine r_iconst 1 (pc' := 52) (kX5_speakShakes_0 24 rfl) rfl (by unfold inR; omega) ?_
    exact s_zret (kX5_speakShakes_0 25 rfl) rfl (Or.inr rfl) h
  · have h := h.2 c1
    refine r_aload_n (pc' := 11) (kX5_speakShakes_0 4 rfl) rfl rfl ?_
    refine r_iconst 5 (pc' := 12) (kX5_speakShakes_0 5 rfl) rfl (by unfold inR; omega) ?_
    refine r_aload_n (pc' := 13) (kX5_speakShakes_0 6 rfl) rfl rfl ?_
    refine s_getr (v := 186) (pc' := 16) (kX5_speakShakes_0 7 rfl) rfl fkX5_20 rfl rfl (kz185 Ln) rfl (by decide) ?_
    refine s_get (x := (φ 8 5 186)) (pc' := 19) (kX5_speakShakes_0 8 rfl) rfl fkX5_86 rfl rfl rfl (kz186 Ln) rfl ?_
    refine s_callV (As := [(0, 5), (0, (φ 8 5 186))]) (o := 185) (S := []) (S2 := fun z => [(0, z)]) (pc' := 22) (kX5_speakShakes_0 9 rfl) rfl rfl nkX5_refuse mlX5_95 imX5_refuse rfl slX5_refuse rfl (Nat.le_of_ble_eq_true rfl) (Nat.le_of_ble_eq_true rfl) (kz185 Ln) h (fun z => rfl) (fun r4 φ4 α4 h => ?_)
    have g5 := h.1
    have h := h.2
    exact s_zret (kX5_speakShakes_0 10 rfl) rfl g5 h
theorem vX5_readHand_0 {d : Nat} {φ : aF} {α : aA} {Q : Int → aF → aA → Prop} (h : (eX8_scan d  φ α (fun r1 φ1 α1 =>
   (eX5_readNumber d 0 100 φ1 α1 (fun r2 φ2 α2 =>
   ((r2 = (-1) →
   (Q 0 (upf φ2 2 5 19 r2) α2)) ∧
   (¬ (r2 = (-1)) →
   (Q 1 (upf φ2 2 5 19 r2) α2)))))))) : eX5_readHand (d + 1)  φ α Q := by
  intro Ln
  refine r_aload_n (pc' := 1) (kX5_readHand_0 0 rfl) rfl rfl ?_
  refine s_getr (v := 186) (pc' := 4) (kX5_readHand_0 1 rfl) rfl fkX5_20 rfl rfl (kz185 Ln) rfl (by decide) ?_
  refine s_callV (As := []) (o := 186) (S := []) (S2 := fun z => []) (pc' := 7) (kX5_readHand_0 2 rfl) rfl rfl nkX8_scan mlX5_61 imX8_scan rfl slX8_scan rfl (Nat.le_of_ble_eq_true rfl) (Nat.le_of_ble_eq_true rfl) (kz186 Ln) h (fun z => rfl) (fun r1 φ1 α1 h => ?_)
  refine r_aload_n (pc' := 8) (kX5_readHand_0 3 rfl) rfl rfl ?_
  refine s_getr (v := 19) (pc' := 11) (kX5_readHand_0 4 rfl) rfl fkX5_24 rfl rfl (kz185 Ln) rfl (by decide) ?_
  refine r_aload_n (pc' := 12) (kX5_readHand_0 5 rfl) rfl rfl ?_
  refine r_iconst 0 (pc' := 13) (kX5_readHand_0 6 rfl) rfl (by unfold inR; omega) ?_
  refine r_bipush 100 (pc' := 15) (kX5_readHand_0 7 rfl) rfl ⟨by unfold inR; omega, rfl⟩ ?_
  refine s_callV (As := [(0, 0), (0, 100)]) (o := 185) (S := [(2, 19)]) (S2 := fun z => [(0, z), (2, 19)]) (pc' := 18) (kX5_readHand_0 8 rfl) rfl rfl nkX5_readNumber mlX5_120 imX5_readNumber rfl slX5_readNumber rfl (Nat.le_of_ble_eq_true rfl) (Nat.le_of_ble_eq_true rfl) (kz185 Ln) h (fun z => rfl) (fun r2 φ2 α2 h => ?_)
  refine s_put (pc' := 21) (kX5_readHand_0 9 rfl) rfl fkX5_182 fnX2_5 rfl pk_int (kz19 Ln) ?_
  refine r_aload_n (pc' := 22) (kX5_readHand_0 10 rfl) rfl rfl ?_
  refine s_getr (v := 19) (pc' := 25) (kX5_readHand_0 11 rfl) rfl fkX5_24 rfl rfl (kz185 Ln) rfl (by decide) ?_
  refine s_get (x := r2) (pc' := 28) (kX5_readHand_0 12 rfl) rfl fkX5_182 rfl rfl rfl (kz19 Ln) (by simp [upf]) ?_
  refine r_iconst (-1) (pc' := 29) (kX5_readHand_0 13 rfl) rfl (by unfold inR; omega) ?_
  refine r_icmp_eq (t := 36) (pc' := 32) (kX5_readHand_0 14 rfl) rfl rfl (fun c3 => ?_) (fun c3 => ?_)
  · have h := h.1 c3
    refine r_iconst 0 (pc' := 37) (kX5_readHand_0 17 rfl) rfl (by unfold inR; omega) ?_
    exact s_zret (kX5_readHand_0 18 rfl) rfl (Or.inl rfl) h
  · have h := h.2 c3
    refine r_iconst 1 (pc' := 33) (kX5_readHand_0 15 rfl) rfl (by unfold inR; omega) ?_
    refine r_goto (pc' := 37) (kX5_readHand_0 16 rfl) rfl ?_
    exact s_zret (kX5_readHand_0 18 rfl) rfl (Or.inr rfl) h
theorem vX5_isNumber_0 {d : Nat} {φ : aF} {α : aA} {Q : Int → aF → aA → Prop} (h : (((φ 8 2 186) = 2 →
   (eX8_length d  φ α (fun r2 φ2 α2 =>
     ((r2 ≤ 4 →
     (Q 1 φ2 α2)) ∧
     (¬ (r2 ≤ 4) →
     inR ((φ2 8 5 186) + 4) ∧ (eX5_refuse d 1 ((φ2 8 5 186) + 4) φ2 α2 (fun r5 φ5 α5 =>
       ((r5 = 0 →
       (Q 0 φ5 α5)) ∧
       (¬ (r5 = 0) →
       (Q 1 φ5 α5)))))))))) ∧
   (¬ ((φ 8 2 186) = 2) →
   (eX5_unfit d  φ α (fun r7 φ7 α7 =>
     (r7 = 0 ∨ r7 = 1) ∧ (Q r7 φ7 α7)))))) : eX5_isNumber (d + 1)  φ α Q := by
  intro Ln
  refine r_aload_n (pc' := 1) (kX5_isNumber_0 0 rfl) rfl rfl ?_
  refine s_getr (v := 186) (pc' := 4) (kX5_isNumber_0 1 rfl) rfl fkX5_20 rfl rfl (kz185 Ln) rfl (by decide) ?_
  refine s_get (x := (φ 8 2 186)) (pc' := 7) (kX5_isNumber_0 2 rfl) rfl fkX5_41 rfl rfl rfl (kz186 Ln) rfl ?_
  refine r_iconst 2 (pc' := 8) (kX5_isNumber_0 3 rfl) rfl (by unfold inR; omega) ?_
  refine r_icmp_eq (t := 16) (pc' := 11) (kX5_isNumber_0 4 rfl) rfl rfl (fun c1 => ?_) (fun c1 => ?_)
  · have h := h.1 c1
    refine r_aload_n (pc' := 17) (kX5_isNumber_0 8 rfl) rfl rfl ?_
    refine s_getr (v := 186) (pc' := 20) (kX5_isNumber_0 9 rfl) rfl fkX5_20 rfl rfl (kz185 Ln) rfl (by decide) ?_
    refine s_callV (As := []) (o := 186) (S := []) (S2 := fun z => [(0, z)]) (pc' := 23) (kX5_isNumber_0 10 rfl) rfl rfl nkX8_length mlX5_185 imX8_length rfl slX8_length rfl (Nat.le_of_ble_eq_true rfl) (Nat.le_of_ble_eq_true rfl) (kz186 Ln) h (fun z => rfl) (fun r2 φ2 α2 h => ?_)
    refine r_iconst 4 (pc' := 24) (kX5_isNumber_0 11 rfl) rfl (by unfold inR; omega) ?_
    refine r_icmp_le (t := 44) (pc' := 27) (kX5_isNumber_0 12 rfl) rfl rfl (fun c3 => ?_) (fun c3 => ?_)
    · have h := h.1 c3
      refine r_iconst 1 (pc' := 45) (kX5_isNumber_0 22 rfl) rfl (by unfold inR; omega) ?_
      refine r_goto (pc' := 49) (kX5_isNumber_0 23 rfl) rfl ?_
      exact s_zret (kX5_isNumber_0 25 rfl) rfl (Or.inr rfl) h
    · have h := h.2 c3
      refine r_aload_n (pc' := 28) (kX5_isNumber_0 13 rfl) rfl rfl ?_
      refine r_iconst 1 (pc' := 29) (kX5_isNumber_0 14 rfl) rfl (by unfold inR; omega) ?_
      refine r_aload_n (pc' := 30) (kX5_isNumber_0 15 rfl) rfl rfl ?_
      refine s_getr (v := 186) (pc' := 33) (kX5_isNumber_0 16 rfl) rfl fkX5_20 rfl rfl (kz185 Ln) rfl (by decide) ?_
      refine s_get (x := (φ2 8 5 186)) (pc' := 36) (kX5_isNumber_0 17 rfl) rfl fkX5_86 rfl rfl rfl (kz186 Ln) rfl ?_
      refine r_iconst 4 (pc' := 37) (kX5_isNumber_0 18 rfl) rfl (by unfold inR; omega) ?_
      have g4 := h.1
      have h := h.2
      refine r_iadd (pc' := 38) (kX5_isNumber_0 19 rfl) rfl g4 ?_
      refine s_callV (As := [(0, 1), (0, ((φ2 8 5 186) + 4))]) (o := 185) (S := []) (S2 := fun z => [(0, z)]) (pc' := 41) (kX5_isNumber_0 20 rfl) rfl rfl nkX5_refuse mlX5_95 imX5_refuse rfl slX5_refuse rfl (Nat.le_of_ble_eq_true rfl) (Nat.le_of_ble_eq_true rfl) (kz185 Ln) h (fun z => rfl) (fun r5 φ5 α5 h => ?_)
      refine r_if_eq (t := 48) (pc' := 44) (kX5_isNumber_0 21 rfl) rfl rfl (fun c6 => ?_) (fun c6 => ?_)
      · have h := h.1 c6
        refine r_iconst 0 (pc' := 49) (kX5_isNumber_0 24 rfl) rfl (by unfold inR; omega) ?_
        exact s_zret (kX5_isNumber_0 25 rfl) rfl (Or.inl rfl) h
      · have h := h.2 c6
        refine r_iconst 1 (pc' := 45) (kX5_isNumber_0 22 rfl) rfl (by unfold inR; omega) ?_
        refine r_goto (pc' := 49) (kX5_isNumber_0 23 rfl) rfl ?_
        exact s_zret (kX5_isNumber_0 25 rfl) rfl (Or.inr rfl) h
  · have h := h.2 c1
    refine r_aload_n (pc' := 12) (kX5_isNumber_0 5 rfl) rfl rfl ?_
    refine s_callV (As := []) (o := 185) (S := []) (S2 := fun z => [(0, z)]) (pc' := 15) (kX5_isNumber_0 6 rfl) rfl rfl nkX5_unfit mlX5_57 imX5_unfit rfl slX5_unfit rfl (Nat.le_of_ble_eq_true rfl) (Nat.le_of_ble_eq_true rfl) (kz185 Ln) h (fun z => rfl) (fun r7 φ7 α7 h => ?_)
    have g8 := h.1
    have h := h.2
    exact s_zret (kX5_isNumber_0 7 rfl) rfl g8 h
theorem vX5_readNumber_0 {d : Nat} {φ : aF} {α : aA} {Q : Int → aF → aA → Prop} {x1 : Int} {x2 : Int} (h : (eX5_isNumber d  φ α (fun r1 φ1 α1 =>
   ((¬ r1 = 0 →
   (eX10_within d (φ1 8 4 186) x1 x2 φ1 α1 (fun r3 φ3 α3 =>
     ((¬ r3 = 0 →
     (eX8_scan d  φ3 α3 (fun r5 φ5 α5 =>
       (Q (φ1 8 4 186) φ5 α5)))) ∧
     (r3 = 0 →
     (eX5_refuse d 2 (φ3 8 5 186) φ3 α3 (fun r6 φ6 α6 =>
       (Q (-1) φ6 α6)))))))) ∧
   (r1 = 0 →
   (Q (-1) φ1 α1)))))) : eX5_readNumber (d + 1) x1 x2 φ α Q := by
  intro Ln
  refine r_aload_n (pc' := 1) (kX5_readNumber_0 0 rfl) rfl rfl ?_
  refine s_callV (As := []) (o := 185) (S := []) (S2 := fun z => [(0, z)]) (pc' := 4) (kX5_readNumber_0 1 rfl) rfl rfl nkX5_isNumber mlX5_189 imX5_isNumber rfl slX5_isNumber rfl (Nat.le_of_ble_eq_true rfl) (Nat.le_of_ble_eq_true rfl) (kz185 Ln) h (fun z => rfl) (fun r1 φ1 α1 h => ?_)
  refine r_if_ne (t := 9) (pc' := 7) (kX5_readNumber_0 2 rfl) rfl rfl (fun c2 => ?_) (fun c2 => ?_)
  · have h := h.1 c2
    refine r_aload_n (pc' := 10) (kX5_readNumber_0 5 rfl) rfl rfl ?_
    refine s_getr (v := 186) (pc' := 13) (kX5_readNumber_0 6 rfl) rfl fkX5_20 rfl rfl (kz185 Ln) rfl (by decide) ?_
    refine s_get (x := (φ1 8 4 186)) (pc' := 16) (kX5_readNumber_0 7 rfl) rfl fkX5_192 rfl rfl rfl (kz186 Ln) rfl ?_
    refine r_istore_n (L' := [(2, 185), (0, x1), (0, x2), (0, (φ1 8 4 186))]) (pc' := 17) (kX5_readNumber_0 8 rfl) rfl (Nat.le_of_ble_eq_true rfl) rfl ?_
    refine r_iload_n (pc' := 18) (kX5_readNumber_0 9 rfl) rfl rfl ?_
    refine r_iload_n (pc' := 19) (kX5_readNumber_0 10 rfl) rfl rfl ?_
    refine r_iload_n (pc' := 20) (kX5_readNumber_0 11 rfl) rfl rfl ?_
    refine s_callS (As := [(0, (φ1 8 4 186)), (0, x1), (0, x2)]) (S := []) (S2 := fun z => [(0, z)]) (pc' := 23) (kX5_readNumber_0 12 rfl) rfl rfl nkX10_within mlX5_195 scX10_within rfl (Nat.le_of_ble_eq_true rfl) (Nat.le_of_ble_eq_true rfl) h (fun z => rfl) (fun r3 φ3 α3 h => ?_)
    refine r_if_ne (t := 41) (pc' := 26) (kX5_readNumber_0 13 rfl) rfl rfl (fun c4 => ?_) (fun c4 => ?_)
    · have h := h.1 c4
      refine r_aload_n (pc' := 42) (kX5_readNumber_0 23 rfl) rfl rfl ?_
      refine s_getr (v := 186) (pc' := 45) (kX5_readNumber_0 24 rfl) rfl fkX5_20 rfl rfl (kz185 Ln) rfl (by decide) ?_
      refine s_callV (As := []) (o := 186) (S := []) (S2 := fun z => []) (pc' := 48) (kX5_readNumber_0 25 rfl) rfl rfl nkX8_scan mlX5_61 imX8_scan rfl slX8_scan rfl (Nat.le_of_ble_eq_true rfl) (Nat.le_of_ble_eq_true rfl) (kz186 Ln) h (fun z => rfl) (fun r5 φ5 α5 h => ?_)
      refine r_iload_n (pc' := 49) (kX5_readNumber_0 26 rfl) rfl rfl ?_
      exact s_iret (kX5_readNumber_0 27 rfl) rfl h
    · have h := h.2 c4
      refine r_aload_n (pc' := 27) (kX5_readNumber_0 14 rfl) rfl rfl ?_
      refine r_iconst 2 (pc' := 28) (kX5_readNumber_0 15 rfl) rfl (by unfold inR; omega) ?_
      refine r_aload_n (pc' := 29) (kX5_readNumber_0 16 rfl) rfl rfl ?_
      refine s_getr (v := 186) (pc' := 32) (kX5_readNumber_0 17 rfl) rfl fkX5_20 rfl rfl (kz185 Ln) rfl (by decide) ?_
      refine s_get (x := (φ3 8 5 186)) (pc' := 35) (kX5_readNumber_0 18 rfl) rfl fkX5_86 rfl rfl rfl (kz186 Ln) rfl ?_
      refine s_callV (As := [(0, 2), (0, (φ3 8 5 186))]) (o := 185) (S := []) (S2 := fun z => [(0, z)]) (pc' := 38) (kX5_readNumber_0 19 rfl) rfl rfl nkX5_refuse mlX5_95 imX5_refuse rfl slX5_refuse rfl (Nat.le_of_ble_eq_true rfl) (Nat.le_of_ble_eq_true rfl) (kz185 Ln) h (fun z => rfl) (fun r6 φ6 α6 h => ?_)
      refine r_pop (pc' := 39) (kX5_readNumber_0 20 rfl) rfl rfl ?_
      refine r_iconst (-1) (pc' := 40) (kX5_readNumber_0 21 rfl) rfl (by unfold inR; omega) ?_
      exact s_iret (kX5_readNumber_0 22 rfl) rfl h
  · have h := h.2 c2
    refine r_iconst (-1) (pc' := 8) (kX5_readNumber_0 3 rfl) rfl (by unfold inR; omega) ?_
    exact s_iret (kX5_readNumber_0 4 rfl) rfl h
theorem vX5_isName_0 {d : Nat} {φ : aF} {α : aA} {Q : Int → aF → aA → Prop} (h : ((¬ (φ 8 2 186) = 1 →
   (eX5_unfit d  φ α (fun r2 φ2 α2 =>
     (r2 = 0 ∨ r2 = 1) ∧ (Q r2 φ2 α2)))) ∧
   ((φ 8 2 186) = 1 →
   (eX10_within d (φ 8 3 186) 0 23 φ α (fun r4 φ4 α4 =>
     ((r4 = 0 →
     (eX8_length d  φ4 α4 (fun r6 φ6 α6 =>
       ((r6 ≤ 6 →
       (Q 1 φ6 α6)) ∧
       (¬ (r6 ≤ 6) →
       inR ((φ6 8 5 186) + 6) ∧ (eX5_refuse d 1 ((φ6 8 5 186) + 6) φ6 α6 (fun r9 φ9 α9 =>
         ((r9 = 0 →
         (Q 0 φ9 α9)) ∧
         (¬ (r9 = 0) →
         (Q 1 φ9 α9)))))))))) ∧
     (¬ (r4 = 0) →
     (eX5_unfit d  φ4 α4 (fun r11 φ11 α11 =>
       (r11 = 0 ∨ r11 = 1) ∧ (Q r11 φ11 α11)))))))))) : eX5_isName (d + 1)  φ α Q := by
  intro Ln
  refine r_aload_n (pc' := 1) (kX5_isName_0 0 rfl) rfl rfl ?_
  refine s_getr (v := 186) (pc' := 4) (kX5_isName_0 1 rfl) rfl fkX5_20 rfl rfl (kz185 Ln) rfl (by decide) ?_
  refine s_get (x := (φ 8 2 186)) (pc' := 7) (kX5_isName_0 2 rfl) rfl fkX5_41 rfl rfl rfl (kz186 Ln) rfl ?_
  refine r_iconst 1 (pc' := 8) (kX5_isName_0 3 rfl) rfl (by unfold inR; omega) ?_
  refine r_icmp_ne (t := 27) (pc' := 11) (kX5_isName_0 4 rfl) rfl rfl (fun c1 => ?_) (fun c1 => ?_)
  · have h := h.1 c1
    refine r_aload_n (pc' := 28) (kX5_isName_0 12 rfl) rfl rfl ?_
    refine s_callV (As := []) (o := 185) (S := []) (S2 := fun z => [(0, z)]) (pc' := 31) (kX5_isName_0 13 rfl) rfl rfl nkX5_unfit mlX5_57 imX5_unfit rfl slX5_unfit rfl (Nat.le_of_ble_eq_true rfl) (Nat.le_of_ble_eq_true rfl) (kz185 Ln) h (fun z => rfl) (fun r2 φ2 α2 h => ?_)
    have g3 := h.1
    have h := h.2
    exact s_zret (kX5_isName_0 14 rfl) rfl g3 h
  · have h := h.2 c1
    refine r_aload_n (pc' := 12) (kX5_isName_0 5 rfl) rfl rfl ?_
    refine s_getr (v := 186) (pc' := 15) (kX5_isName_0 6 rfl) rfl fkX5_20 rfl rfl (kz185 Ln) rfl (by decide) ?_
    refine s_get (x := (φ 8 3 186)) (pc' := 18) (kX5_isName_0 7 rfl) rfl fkX5_54 rfl rfl rfl (kz186 Ln) rfl ?_
    refine r_iconst 0 (pc' := 19) (kX5_isName_0 8 rfl) rfl (by unfold inR; omega) ?_
    refine r_bipush 23 (pc' := 21) (kX5_isName_0 9 rfl) rfl ⟨by unfold inR; omega, rfl⟩ ?_
    refine s_callS (As := [(0, (φ 8 3 186)), (0, 0), (0, 23)]) (S := []) (S2 := fun z => [(0, z)]) (pc' := 24) (kX5_isName_0 10 rfl) rfl rfl nkX10_within mlX5_195 scX10_within rfl (Nat.le_of_ble_eq_true rfl) (Nat.le_of_ble_eq_true rfl) h (fun z => rfl) (fun r4 φ4 α4 h => ?_)
    refine r_if_eq (t := 32) (pc' := 27) (kX5_isName_0 11 rfl) rfl rfl (fun c5 => ?_) (fun c5 => ?_)
    · have h := h.1 c5
      refine r_aload_n (pc' := 33) (kX5_isName_0 15 rfl) rfl rfl ?_
      refine s_getr (v := 186) (pc' := 36) (kX5_isName_0 16 rfl) rfl fkX5_20 rfl rfl (kz185 Ln) rfl (by decide) ?_
      refine s_callV (As := []) (o := 186) (S := []) (S2 := fun z => [(0, z)]) (pc' := 39) (kX5_isName_0 17 rfl) rfl rfl nkX8_length mlX5_185 imX8_length rfl slX8_length rfl (Nat.le_of_ble_eq_true rfl) (Nat.le_of_ble_eq_true rfl) (kz186 Ln) h (fun z => rfl) (fun r6 φ6 α6 h => ?_)
      refine r_bipush 6 (pc' := 41) (kX5_isName_0 18 rfl) rfl ⟨by unfold inR; omega, rfl⟩ ?_
      refine r_icmp_le (t := 62) (pc' := 44) (kX5_isName_0 19 rfl) rfl rfl (fun c7 => ?_) (fun c7 => ?_)
      · have h := h.1 c7
        refine r_iconst 1 (pc' := 63) (kX5_isName_0 29 rfl) rfl (by unfold inR; omega) ?_
        refine r_goto (pc' := 67) (kX5_isName_0 30 rfl) rfl ?_
        exact s_zret (kX5_isName_0 32 rfl) rfl (Or.inr rfl) h
      · have h := h.2 c7
        refine r_aload_n (pc' := 45) (kX5_isName_0 20 rfl) rfl rfl ?_
        refine r_iconst 1 (pc' := 46) (kX5_isName_0 21 rfl) rfl (by unfold inR; omega) ?_
        refine r_aload_n (pc' := 47) (kX5_isName_0 22 rfl) rfl rfl ?_
        refine s_getr (v := 186) (pc' := 50) (kX5_isName_0 23 rfl) rfl fkX5_20 rfl rfl (kz185 Ln) rfl (by decide) ?_
        refine s_get (x := (φ6 8 5 186)) (pc' := 53) (kX5_isName_0 24 rfl) rfl fkX5_86 rfl rfl rfl (kz186 Ln) rfl ?_
        refine r_bipush 6 (pc' := 55) (kX5_isName_0 25 rfl) rfl ⟨by unfold inR; omega, rfl⟩ ?_
        have g8 := h.1
        have h := h.2
        refine r_iadd (pc' := 56) (kX5_isName_0 26 rfl) rfl g8 ?_
        refine s_callV (As := [(0, 1), (0, ((φ6 8 5 186) + 6))]) (o := 185) (S := []) (S2 := fun z => [(0, z)]) (pc' := 59) (kX5_isName_0 27 rfl) rfl rfl nkX5_refuse mlX5_95 imX5_refuse rfl slX5_refuse rfl (Nat.le_of_ble_eq_true rfl) (Nat.le_of_ble_eq_true rfl) (kz185 Ln) h (fun z => rfl) (fun r9 φ9 α9 h => ?_)
        refine r_if_eq (t := 66) (pc' := 62) (kX5_isName_0 28 rfl) rfl rfl (fun c10 => ?_) (fun c10 => ?_)
        · have h := h.1 c10
          refine r_iconst 0 (pc' := 67) (kX5_isName_0 31 rfl) rfl (by unfold inR; omega) ?_
          exact s_zret (kX5_isName_0 32 rfl) rfl (Or.inl rfl) h
        · have h := h.2 c10
          refine r_iconst 1 (pc' := 63) (kX5_isName_0 29 rfl) rfl (by unfold inR; omega) ?_
          refine r_goto (pc' := 67) (kX5_isName_0 30 rfl) rfl ?_
          exact s_zret (kX5_isName_0 32 rfl) rfl (Or.inr rfl) h
    · have h := h.2 c5
      refine r_aload_n (pc' := 28) (kX5_isName_0 12 rfl) rfl rfl ?_
      refine s_callV (As := []) (o := 185) (S := []) (S2 := fun z => [(0, z)]) (pc' := 31) (kX5_isName_0 13 rfl) rfl rfl nkX5_unfit mlX5_57 imX5_unfit rfl slX5_unfit rfl (Nat.le_of_ble_eq_true rfl) (Nat.le_of_ble_eq_true rfl) (kz185 Ln) h (fun z => rfl) (fun r11 φ11 α11 h => ?_)
      have g12 := h.1
      have h := h.2
      exact s_zret (kX5_isName_0 14 rfl) rfl g12 h
abbrev jX5_findName_11 (d : Nat) (x1 x2 x3 : Int) (φ : aF) (α : aA) (Q : Int → aF → aA → Prop) : Prop := R0 d mX5_findName 11 [(2, 185), (0, x1), (0, x2), (0, x3)] [] φ α Q
theorem vX5_findName_0 {d : Nat} {φ : aF} {α : aA} {Q : Int → aF → aA → Prop} {x1 : Int} {x2 : Int} (h : (eX5_isName d  φ α (fun r1 φ1 α1 =>
   ((¬ r1 = 0 →
   (jX5_findName_11 (d + 1) x1 x2 0 φ1 α1 Q)) ∧
   (r1 = 0 →
   (Q (-1) φ1 α1)))))) : eX5_findName (d + 1) x1 x2 φ α Q := by
  intro Ln
  refine r_aload_n (pc' := 1) (kX5_findName_0 0 rfl) rfl rfl ?_
  refine s_callV (As := []) (o := 185) (S := []) (S2 := fun z => [(0, z)]) (pc' := 4) (kX5_findName_0 1 rfl) rfl rfl nkX5_isName mlX5_199 imX5_isName rfl slX5_isName rfl (Nat.le_of_ble_eq_true rfl) (Nat.le_of_ble_eq_true rfl) (kz185 Ln) h (fun z => rfl) (fun r1 φ1 α1 h => ?_)
  refine r_if_ne (t := 9) (pc' := 7) (kX5_findName_0 2 rfl) rfl rfl (fun c2 => ?_) (fun c2 => ?_)
  · have h := h.1 c2
    refine r_iconst 0 (pc' := 10) (kX5_findName_0 5 rfl) rfl (by unfold inR; omega) ?_
    refine r_istore_n (L' := [(2, 185), (0, x1), (0, x2), (0, 0)]) (pc' := 11) (kX5_findName_0 6 rfl) rfl (Nat.le_of_ble_eq_true rfl) rfl ?_
    exact r_weak (L' := [(2, 185), (0, x1), (0, x2), (0, 0)]) ⟨Or.inl rfl, Or.inl rfl, Or.inl rfl, Or.inl rfl, trivial⟩ (h Ln)
  · have h := h.2 c2
    refine r_iconst (-1) (pc' := 8) (kX5_findName_0 3 rfl) rfl (by unfold inR; omega) ?_
    exact s_iret (kX5_findName_0 4 rfl) rfl h
theorem vX5_findName_11 {d : Nat} {φ : aF} {α : aA} {Q : Int → aF → aA → Prop} {x1 : Int} {x2 : Int} {x3 : Int} (h : ((x2 ≤ x3 →
   (eX5_refuse d 3 (φ 8 5 186) φ α (fun r2 φ2 α2 =>
     (Q (-1) φ2 α2)))) ∧
   (¬ (x2 ≤ x3) →
   inR (x1 + x3) ∧ (eX10_pick d 20 (x1 + x3) φ α (fun r4 φ4 α4 =>
     ((¬ r4 = (φ4 8 4 186) →
     inR (x3 + 1) ∧ (jX5_findName_11 (d + 1) x1 x2 (x3 + 1) φ4 α4 Q)) ∧
     (r4 = (φ4 8 4 186) →
     (eX8_scan d  φ4 α4 (fun r7 φ7 α7 =>
       (Q x3 φ7 α7)))))))))) : jX5_findName_11 (d + 1) x1 x2 x3 φ α Q := by
  intro Ln
  refine r_iload_n (pc' := 12) (kX5_findName_0 7 rfl) rfl rfl ?_
  refine r_iload_n (pc' := 13) (kX5_findName_0 8 rfl) rfl rfl ?_
  refine r_icmp_ge (t := 54) (pc' := 16) (kX5_findName_0 9 rfl) rfl rfl (fun c1 => ?_) (fun c1 => ?_)
  · have h := h.1 c1
    refine r_aload_n (pc' := 55) (kX5_findName_0 28 rfl) rfl rfl ?_
    refine r_iconst 3 (pc' := 56) (kX5_findName_0 29 rfl) rfl (by unfold inR; omega) ?_
    refine r_aload_n (pc' := 57) (kX5_findName_0 30 rfl) rfl rfl ?_
    refine s_getr (v := 186) (pc' := 60) (kX5_findName_0 31 rfl) rfl fkX5_20 rfl rfl (kz185 Ln) rfl (by decide) ?_
    refine s_get (x := (φ 8 5 186)) (pc' := 63) (kX5_findName_0 32 rfl) rfl fkX5_86 rfl rfl rfl (kz186 Ln) rfl ?_
    refine s_callV (As := [(0, 3), (0, (φ 8 5 186))]) (o := 185) (S := []) (S2 := fun z => [(0, z)]) (pc' := 66) (kX5_findName_0 33 rfl) rfl rfl nkX5_refuse mlX5_95 imX5_refuse rfl slX5_refuse rfl (Nat.le_of_ble_eq_true rfl) (Nat.le_of_ble_eq_true rfl) (kz185 Ln) h (fun z => rfl) (fun r2 φ2 α2 h => ?_)
    refine r_pop (pc' := 67) (kX5_findName_0 34 rfl) rfl rfl ?_
    refine r_iconst (-1) (pc' := 68) (kX5_findName_0 35 rfl) rfl (by unfold inR; omega) ?_
    exact s_iret (kX5_findName_0 36 rfl) rfl h
  · have h := h.2 c1
    refine r_aload_n (pc' := 17) (kX5_findName_0 10 rfl) rfl rfl ?_
    refine s_getr (v := 19) (pc' := 20) (kX5_findName_0 11 rfl) rfl fkX5_24 rfl rfl (kz185 Ln) rfl (by decide) ?_
    refine s_getr (v := 20) (pc' := 23) (kX5_findName_0 12 rfl) rfl fkX5_202 rfl rfl (kz19 Ln) rfl (by decide) ?_
    refine r_iload_n (pc' := 24) (kX5_findName_0 13 rfl) rfl rfl ?_
    refine r_iload_n (pc' := 25) (kX5_findName_0 14 rfl) rfl rfl ?_
    have g3 := h.1
    have h := h.2
    refine r_iadd (pc' := 26) (kX5_findName_0 15 rfl) rfl g3 ?_
    refine s_callS (As := [(2, 20), (0, (x1 + x3))]) (S := []) (S2 := fun z => [(0, z)]) (pc' := 29) (kX5_findName_0 16 rfl) rfl rfl nkX10_pick mlX5_156 scX10_pick rfl (Nat.le_of_ble_eq_true rfl) (Nat.le_of_ble_eq_true rfl) h (fun z => rfl) (fun r4 φ4 α4 h => ?_)
    refine r_aload_n (pc' := 30) (kX5_findName_0 17 rfl) rfl rfl ?_
    refine s_getr (v := 186) (pc' := 33) (kX5_findName_0 18 rfl) rfl fkX5_20 rfl rfl (kz185 Ln) rfl (by decide) ?_
    refine s_get (x := (φ4 8 4 186)) (pc' := 36) (kX5_findName_0 19 rfl) rfl fkX5_192 rfl rfl rfl (kz186 Ln) rfl ?_
    refine r_icmp_ne (t := 48) (pc' := 39) (kX5_findName_0 20 rfl) rfl rfl (fun c5 => ?_) (fun c5 => ?_)
    · have h := h.1 c5
      have g6 := h.1
      have h := h.2
      refine r_iinc (L' := [(2, 185), (0, x1), (0, x2), (0, (x3 + 1))]) (pc' := 51) (kX5_findName_0 26 rfl) rfl (Nat.le_of_ble_eq_true rfl) rfl g6 rfl ?_
      refine r_goto (pc' := 11) (kX5_findName_0 27 rfl) rfl ?_
      exact r_weak (L' := [(2, 185), (0, x1), (0, x2), (0, (x3 + 1))]) ⟨Or.inl rfl, Or.inl rfl, Or.inl rfl, Or.inl rfl, trivial⟩ (h Ln)
    · have h := h.2 c5
      refine r_aload_n (pc' := 40) (kX5_findName_0 21 rfl) rfl rfl ?_
      refine s_getr (v := 186) (pc' := 43) (kX5_findName_0 22 rfl) rfl fkX5_20 rfl rfl (kz185 Ln) rfl (by decide) ?_
      refine s_callV (As := []) (o := 186) (S := []) (S2 := fun z => []) (pc' := 46) (kX5_findName_0 23 rfl) rfl rfl nkX8_scan mlX5_61 imX8_scan rfl slX8_scan rfl (Nat.le_of_ble_eq_true rfl) (Nat.le_of_ble_eq_true rfl) (kz186 Ln) h (fun z => rfl) (fun r7 φ7 α7 h => ?_)
      refine r_iload_n (pc' := 47) (kX5_findName_0 24 rfl) rfl rfl ?_
      exact s_iret (kX5_findName_0 25 rfl) rfl h
abbrev jX5_giveName_11 (d : Nat) (x1 x2 : Int) (φ : aF) (α : aA) (Q : Int → aF → aA → Prop) : Prop := R0 d mX5_giveName 11 [(2, 185), (0, x1), (0, x2)] [] φ α Q
theorem vX5_giveName_0 {d : Nat} {φ : aF} {α : aA} {Q : Int → aF → aA → Prop} {x1 : Int} (h : (eX5_isName d  φ α (fun r1 φ1 α1 =>
   ((¬ r1 = 0 →
   (jX5_giveName_11 (d + 1) x1 0 φ1 α1 Q)) ∧
   (r1 = 0 →
   (Q 0 φ1 α1)))))) : eX5_giveName (d + 1) x1 φ α Q := by
  intro Ln
  refine r_aload_n (pc' := 1) (kX5_giveName_0 0 rfl) rfl rfl ?_
  refine s_callV (As := []) (o := 185) (S := []) (S2 := fun z => [(0, z)]) (pc' := 4) (kX5_giveName_0 1 rfl) rfl rfl nkX5_isName mlX5_199 imX5_isName rfl slX5_isName rfl (Nat.le_of_ble_eq_true rfl) (Nat.le_of_ble_eq_true rfl) (kz185 Ln) h (fun z => rfl) (fun r1 φ1 α1 h => ?_)
  refine r_if_ne (t := 9) (pc' := 7) (kX5_giveName_0 2 rfl) rfl rfl (fun c2 => ?_) (fun c2 => ?_)
  · have h := h.1 c2
    refine r_iconst 0 (pc' := 10) (kX5_giveName_0 5 rfl) rfl (by unfold inR; omega) ?_
    refine r_istore_n (L' := [(2, 185), (0, x1), (0, 0)]) (pc' := 11) (kX5_giveName_0 6 rfl) rfl (Nat.le_of_ble_eq_true rfl) rfl ?_
    exact r_weak (L' := [(2, 185), (0, x1), (0, 0)]) ⟨Or.inl rfl, Or.inl rfl, Or.inl rfl, trivial⟩ (h Ln)
  · have h := h.2 c2
    refine r_iconst 0 (pc' := 8) (kX5_giveName_0 3 rfl) rfl (by unfold inR; omega) ?_
    exact s_zret (kX5_giveName_0 4 rfl) rfl (Or.inl rfl) h
theorem vX5_giveName_11 {d : Nat} {φ : aF} {α : aA} {Q : Int → aF → aA → Prop} {x1 : Int} {x2 : Int} (h : ((11 ≤ x2 →
   (eX10_set d 20 x1 (φ 8 4 186) φ α (fun r2 φ2 α2 =>
     (eX8_scan d  φ2 α2 (fun r3 φ3 α3 =>
     (Q 1 φ3 α3)))))) ∧
   (¬ (11 ≤ x2) →
   (0 ≤ x2 ∧ x2 < (11 : Nat)) ∧ ((¬ (α 20 x2) = (φ 8 4 186) →
     inR (x2 + 1) ∧ (jX5_giveName_11 (d + 1) x1 (x2 + 1) φ α Q)) ∧
     ((α 20 x2) = (φ 8 4 186) →
     (eX5_refuse d 3 (φ 8 5 186) φ α (fun r7 φ7 α7 =>
       (r7 = 0 ∨ r7 = 1) ∧ (Q r7 φ7 α7)))))))) : jX5_giveName_11 (d + 1) x1 x2 φ α Q := by
  intro Ln
  refine r_iload_n (pc' := 12) (kX5_giveName_0 7 rfl) rfl rfl ?_
  refine r_aload_n (pc' := 13) (kX5_giveName_0 8 rfl) rfl rfl ?_
  refine s_getr (v := 19) (pc' := 16) (kX5_giveName_0 9 rfl) rfl fkX5_24 rfl rfl (kz185 Ln) rfl (by decide) ?_
  refine s_getr (v := 20) (pc' := 19) (kX5_giveName_0 10 rfl) rfl fkX5_202 rfl rfl (kz19 Ln) rfl (by decide) ?_
  refine s_alen (pc' := 20) (kX5_giveName_0 11 rfl) rfl (kz20 Ln) ⟨by decide, by decide⟩ ?_
  refine r_icmp_ge (t := 61) (pc' := 23) (kX5_giveName_0 12 rfl) rfl rfl (fun c1 => ?_) (fun c1 => ?_)
  · have h := h.1 c1
    refine r_aload_n (pc' := 62) (kX5_giveName_0 31 rfl) rfl rfl ?_
    refine s_getr (v := 19) (pc' := 65) (kX5_giveName_0 32 rfl) rfl fkX5_24 rfl rfl (kz185 Ln) rfl (by decide) ?_
    refine s_getr (v := 20) (pc' := 68) (kX5_giveName_0 33 rfl) rfl fkX5_202 rfl rfl (kz19 Ln) rfl (by decide) ?_
    refine r_iload_n (pc' := 69) (kX5_giveName_0 34 rfl) rfl rfl ?_
    refine r_aload_n (pc' := 70) (kX5_giveName_0 35 rfl) rfl rfl ?_
    refine s_getr (v := 186) (pc' := 73) (kX5_giveName_0 36 rfl) rfl fkX5_20 rfl rfl (kz185 Ln) rfl (by decide) ?_
    refine s_get (x := (φ 8 4 186)) (pc' := 76) (kX5_giveName_0 37 rfl) rfl fkX5_192 rfl rfl rfl (kz186 Ln) rfl ?_
    refine s_callS (As := [(2, 20), (0, x1), (0, (φ 8 4 186))]) (S := []) (S2 := fun z => []) (pc' := 79) (kX5_giveName_0 38 rfl) rfl rfl nkX10_set mlX5_146 scX10_set rfl (Nat.le_of_ble_eq_true rfl) (Nat.le_of_ble_eq_true rfl) h (fun z => rfl) (fun r2 φ2 α2 h => ?_)
    refine r_aload_n (pc' := 80) (kX5_giveName_0 39 rfl) rfl rfl ?_
    refine s_getr (v := 186) (pc' := 83) (kX5_giveName_0 40 rfl) rfl fkX5_20 rfl rfl (kz185 Ln) rfl (by decide) ?_
    refine s_callV (As := []) (o := 186) (S := []) (S2 := fun z => []) (pc' := 86) (kX5_giveName_0 41 rfl) rfl rfl nkX8_scan mlX5_61 imX8_scan rfl slX8_scan rfl (Nat.le_of_ble_eq_true rfl) (Nat.le_of_ble_eq_true rfl) (kz186 Ln) h (fun z => rfl) (fun r3 φ3 α3 h => ?_)
    refine r_iconst 1 (pc' := 87) (kX5_giveName_0 42 rfl) rfl (by unfold inR; omega) ?_
    exact s_zret (kX5_giveName_0 43 rfl) rfl (Or.inr rfl) h
  · have h := h.2 c1
    refine r_aload_n (pc' := 24) (kX5_giveName_0 13 rfl) rfl rfl ?_
    refine s_getr (v := 19) (pc' := 27) (kX5_giveName_0 14 rfl) rfl fkX5_24 rfl rfl (kz185 Ln) rfl (by decide) ?_
    refine s_getr (v := 20) (pc' := 30) (kX5_giveName_0 15 rfl) rfl fkX5_202 rfl rfl (kz19 Ln) rfl (by decide) ?_
    refine r_iload_n (pc' := 31) (kX5_giveName_0 16 rfl) rfl rfl ?_
    have g4 := h.1
    have h := h.2
    refine s_iald (x := (α 20 x2)) (pc' := 32) (kX5_giveName_0 17 rfl) rfl (kz20 Ln) g4 rfl ?_
    refine r_aload_n (pc' := 33) (kX5_giveName_0 18 rfl) rfl rfl ?_
    refine s_getr (v := 186) (pc' := 36) (kX5_giveName_0 19 rfl) rfl fkX5_20 rfl rfl (kz185 Ln) rfl (by decide) ?_
    refine s_get (x := (φ 8 4 186)) (pc' := 39) (kX5_giveName_0 20 rfl) rfl fkX5_192 rfl rfl rfl (kz186 Ln) rfl ?_
    refine r_icmp_ne (t := 55) (pc' := 42) (kX5_giveName_0 21 rfl) rfl rfl (fun c5 => ?_) (fun c5 => ?_)
    · have h := h.1 c5
      have g6 := h.1
      have h := h.2
      refine r_iinc (L' := [(2, 185), (0, x1), (0, (x2 + 1))]) (pc' := 58) (kX5_giveName_0 29 rfl) rfl (Nat.le_of_ble_eq_true rfl) rfl g6 rfl ?_
      refine r_goto (pc' := 11) (kX5_giveName_0 30 rfl) rfl ?_
      exact r_weak (L' := [(2, 185), (0, x1), (0, (x2 + 1))]) ⟨Or.inl rfl, Or.inl rfl, Or.inl rfl, trivial⟩ (h Ln)
    · have h := h.2 c5
      refine r_aload_n (pc' := 43) (kX5_giveName_0 22 rfl) rfl rfl ?_
      refine r_iconst 3 (pc' := 44) (kX5_giveName_0 23 rfl) rfl (by unfold inR; omega) ?_
      refine r_aload_n (pc' := 45) (kX5_giveName_0 24 rfl) rfl rfl ?_
      refine s_getr (v := 186) (pc' := 48) (kX5_giveName_0 25 rfl) rfl fkX5_20 rfl rfl (kz185 Ln) rfl (by decide) ?_
      refine s_get (x := (φ 8 5 186)) (pc' := 51) (kX5_giveName_0 26 rfl) rfl fkX5_86 rfl rfl rfl (kz186 Ln) rfl ?_
      refine s_callV (As := [(0, 3), (0, (φ 8 5 186))]) (o := 185) (S := []) (S2 := fun z => [(0, z)]) (pc' := 54) (kX5_giveName_0 27 rfl) rfl rfl nkX5_refuse mlX5_95 imX5_refuse rfl slX5_refuse rfl (Nat.le_of_ble_eq_true rfl) (Nat.le_of_ble_eq_true rfl) (kz185 Ln) h (fun z => rfl) (fun r7 φ7 α7 h => ?_)
      have g8 := h.1
      have h := h.2
      exact s_zret (kX5_giveName_0 28 rfl) rfl g8 h
abbrev jX5_readTest_12 (d : Nat) (x1 x2 : Int) (φ : aF) (α : aA) (Q : Int → aF → aA → Prop) : Prop := R0 d mX5_readTest 12 [(2, 185), (0, x1), (0, x2)] [] φ α Q
theorem vX5_readTest_0 {d : Nat} {φ : aF} {α : aA} {Q : Int → aF → aA → Prop} {x1 : Int} (h : (eX5_readBoth d x1 φ α (fun r1 φ1 α1 =>
   ((¬ r1 = 0 →
   (jX5_readTest_12 (d + 1) x1 0 φ1 α1 Q)) ∧
   (r1 = 0 →
   (Q 0 φ1 α1)))))) : eX5_readTest (d + 1) x1 φ α Q := by
  intro Ln
  refine r_aload_n (pc' := 1) (kX5_readTest_0 0 rfl) rfl rfl ?_
  refine r_iload_n (pc' := 2) (kX5_readTest_0 1 rfl) rfl rfl ?_
  refine s_callV (As := [(0, x1)]) (o := 185) (S := []) (S2 := fun z => [(0, z)]) (pc' := 5) (kX5_readTest_0 2 rfl) rfl rfl nkX5_readBoth mlX5_205 imX5_readBoth rfl slX5_readBoth rfl (Nat.le_of_ble_eq_true rfl) (Nat.le_of_ble_eq_true rfl) (kz185 Ln) h (fun z => rfl) (fun r1 φ1 α1 h => ?_)
  refine r_if_ne (t := 10) (pc' := 8) (kX5_readTest_0 3 rfl) rfl rfl (fun c2 => ?_) (fun c2 => ?_)
  · have h := h.1 c2
    refine r_iconst 0 (pc' := 11) (kX5_readTest_0 6 rfl) rfl (by unfold inR; omega) ?_
    refine r_istore_n (L' := [(2, 185), (0, x1), (0, 0)]) (pc' := 12) (kX5_readTest_0 7 rfl) rfl (Nat.le_of_ble_eq_true rfl) rfl ?_
    exact r_weak (L' := [(2, 185), (0, x1), (0, 0)]) ⟨Or.inl rfl, Or.inl rfl, Or.inl rfl, trivial⟩ (h Ln)
  · have h := h.2 c2
    refine r_iconst 0 (pc' := 9) (kX5_readTest_0 4 rfl) rfl (by unfold inR; omega) ?_
    exact s_zret (kX5_readTest_0 5 rfl) rfl (Or.inl rfl) h
theorem vX5_readTest_12 {d : Nat} {φ : aF} {α : aA} {Q : Int → aF → aA → Prop} {x1 : Int} {x2 : Int} (h : ((1600 ≤ x2 →
   (Q 1 φ α)) ∧
   (¬ (1600 ≤ x2) →
   (eX8_isWord d 18 φ α (fun r2 φ2 α2 =>
     ((r2 = 0 →
     (Q 1 φ2 α2)) ∧
     (¬ (r2 = 0) →
     (eX8_scan d  φ2 α2 (fun r4 φ4 α4 =>
       (eX5_readBoth d x1 φ4 α4 (fun r5 φ5 α5 =>
       ((¬ r5 = 0 →
       isRow (φ5 5 3 185) 1600 ∧ (eX6_put d (φ5 5 3 185) 18 φ5 α5 (fun r8 φ8 α8 =>
         inR (x2 + 1) ∧ (jX5_readTest_12 (d + 1) x1 (x2 + 1) φ8 α8 Q)))) ∧
       (r5 = 0 →
       (Q 0 φ5 α5)))))))))))))) : jX5_readTest_12 (d + 1) x1 x2 φ α Q := by
  intro Ln
  refine r_iload_n (pc' := 13) (kX5_readTest_0 8 rfl) rfl rfl ?_
  refine r_sipush 1600 (pc' := 16) (kX5_readTest_0 9 rfl) rfl ⟨by unfold inR; omega, rfl⟩ ?_
  refine r_icmp_ge (t := 63) (pc' := 19) (kX5_readTest_0 10 rfl) rfl rfl (fun c1 => ?_) (fun c1 => ?_)
  · have h := h.1 c1
    refine r_iconst 1 (pc' := 64) (kX5_readTest_0 31 rfl) rfl (by unfold inR; omega) ?_
    exact s_zret (kX5_readTest_0 32 rfl) rfl (Or.inr rfl) h
  · have h := h.2 c1
    refine r_aload_n (pc' := 20) (kX5_readTest_0 11 rfl) rfl rfl ?_
    refine s_getr (v := 186) (pc' := 23) (kX5_readTest_0 12 rfl) rfl fkX5_20 rfl rfl (kz185 Ln) rfl (by decide) ?_
    refine r_bipush 18 (pc' := 25) (kX5_readTest_0 13 rfl) rfl ⟨by unfold inR; omega, rfl⟩ ?_
    refine s_callV (As := [(0, 18)]) (o := 186) (S := []) (S2 := fun z => [(0, z)]) (pc' := 28) (kX5_readTest_0 14 rfl) rfl rfl nkX8_isWord mlX5_92 imX8_isWord rfl slX8_isWord rfl (Nat.le_of_ble_eq_true rfl) (Nat.le_of_ble_eq_true rfl) (kz186 Ln) h (fun z => rfl) (fun r2 φ2 α2 h => ?_)
    refine r_if_eq (t := 63) (pc' := 31) (kX5_readTest_0 15 rfl) rfl rfl (fun c3 => ?_) (fun c3 => ?_)
    · have h := h.1 c3
      refine r_iconst 1 (pc' := 64) (kX5_readTest_0 31 rfl) rfl (by unfold inR; omega) ?_
      exact s_zret (kX5_readTest_0 32 rfl) rfl (Or.inr rfl) h
    · have h := h.2 c3
      refine r_aload_n (pc' := 32) (kX5_readTest_0 16 rfl) rfl rfl ?_
      refine s_getr (v := 186) (pc' := 35) (kX5_readTest_0 17 rfl) rfl fkX5_20 rfl rfl (kz185 Ln) rfl (by decide) ?_
      refine s_callV (As := []) (o := 186) (S := []) (S2 := fun z => []) (pc' := 38) (kX5_readTest_0 18 rfl) rfl rfl nkX8_scan mlX5_61 imX8_scan rfl slX8_scan rfl (Nat.le_of_ble_eq_true rfl) (Nat.le_of_ble_eq_true rfl) (kz186 Ln) h (fun z => rfl) (fun r4 φ4 α4 h => ?_)
      refine r_aload_n (pc' := 39) (kX5_readTest_0 19 rfl) rfl rfl ?_
      refine r_iload_n (pc' := 40) (kX5_readTest_0 20 rfl) rfl rfl ?_
      refine s_callV (As := [(0, x1)]) (o := 185) (S := []) (S2 := fun z => [(0, z)]) (pc' := 43) (kX5_readTest_0 21 rfl) rfl rfl nkX5_readBoth mlX5_205 imX5_readBoth rfl slX5_readBoth rfl (Nat.le_of_ble_eq_true rfl) (Nat.le_of_ble_eq_true rfl) (kz185 Ln) h (fun z => rfl) (fun r5 φ5 α5 h => ?_)
      refine r_if_ne (t := 48) (pc' := 46) (kX5_readTest_0 22 rfl) rfl rfl (fun c6 => ?_) (fun c6 => ?_)
      · have h := h.1 c6
        refine r_aload_n (pc' := 49) (kX5_readTest_0 25 rfl) rfl rfl ?_
        have g7 := h.1
        have h := h.2
        refine s_getc (x := (φ5 5 3 185)) (pc' := 52) (kX5_readTest_0 26 rfl) rfl fkX5_32 rfl rfl (kz185 Ln) rfl g7.2.2 ?_
        refine r_bipush 18 (pc' := 54) (kX5_readTest_0 27 rfl) rfl ⟨by unfold inR; omega, rfl⟩ ?_
        refine s_callV (As := [(0, 18)]) (o := (φ5 5 3 185)) (S := []) (S2 := fun z => []) (pc' := 57) (kX5_readTest_0 28 rfl) rfl rfl nkX6_put mlX5_208 imX6_put rfl slX6_put rfl (Nat.le_of_ble_eq_true rfl) (Nat.le_of_ble_eq_true rfl) (g7.1 Ln) h (fun z => rfl) (fun r8 φ8 α8 h => ?_)
        have g9 := h.1
        have h := h.2
        refine r_iinc (L' := [(2, 185), (0, x1), (0, (x2 + 1))]) (pc' := 60) (kX5_readTest_0 29 rfl) rfl (Nat.le_of_ble_eq_true rfl) rfl g9 rfl ?_
        refine r_goto (pc' := 12) (kX5_readTest_0 30 rfl) rfl ?_
        exact r_weak (L' := [(2, 185), (0, x1), (0, (x2 + 1))]) ⟨Or.inl rfl, Or.inl rfl, Or.inl rfl, trivial⟩ (h Ln)
      · have h := h.2 c6
        refine r_iconst 0 (pc' := 47) (kX5_readTest_0 23 rfl) rfl (by unfold inR; omega) ?_
        exact s_zret (kX5_readTest_0 24 rfl) rfl (Or.inl rfl) h
abbrev jX5_readBoth_12 (d : Nat) (x1 x2 : Int) (φ : aF) (α : aA) (Q : Int → aF → aA → Prop) : Prop := R0 d mX5_readBoth 12 [(2, 185), (0, x1), (0, x2)] [] φ α Q
theorem vX5_readBoth_0 {d : Nat} {φ : aF} {α : aA} {Q : Int → aF → aA → Prop} {x1 : Int} (h : (eX5_readFact d x1 φ α (fun r1 φ1 α1 =>
   ((¬ r1 = 0 →
   (jX5_readBoth_12 (d + 1) x1 0 φ1 α1 Q)) ∧
   (r1 = 0 →
   (Q 0 φ1 α1)))))) : eX5_readBoth (d + 1) x1 φ α Q := by
  intro Ln
  refine r_aload_n (pc' := 1) (kX5_readBoth_0 0 rfl) rfl rfl ?_
  refine r_iload_n (pc' := 2) (kX5_readBoth_0 1 rfl) rfl rfl ?_
  refine s_callV (As := [(0, x1)]) (o := 185) (S := []) (S2 := fun z => [(0, z)]) (pc' := 5) (kX5_readBoth_0 2 rfl) rfl rfl nkX5_readFact mlX5_212 imX5_readFact rfl slX5_readFact rfl (Nat.le_of_ble_eq_true rfl) (Nat.le_of_ble_eq_true rfl) (kz185 Ln) h (fun z => rfl) (fun r1 φ1 α1 h => ?_)
  refine r_if_ne (t := 10) (pc' := 8) (kX5_readBoth_0 3 rfl) rfl rfl (fun c2 => ?_) (fun c2 => ?_)
  · have h := h.1 c2
    refine r_iconst 0 (pc' := 11) (kX5_readBoth_0 6 rfl) rfl (by unfold inR; omega) ?_
    refine r_istore_n (L' := [(2, 185), (0, x1), (0, 0)]) (pc' := 12) (kX5_readBoth_0 7 rfl) rfl (Nat.le_of_ble_eq_true rfl) rfl ?_
    exact r_weak (L' := [(2, 185), (0, x1), (0, 0)]) ⟨Or.inl rfl, Or.inl rfl, Or.inl rfl, trivial⟩ (h Ln)
  · have h := h.2 c2
    refine r_iconst 0 (pc' := 9) (kX5_readBoth_0 4 rfl) rfl (by unfold inR; omega) ?_
    exact s_zret (kX5_readBoth_0 5 rfl) rfl (Or.inl rfl) h
theorem vX5_readBoth_12 {d : Nat} {φ : aF} {α : aA} {Q : Int → aF → aA → Prop} {x1 : Int} {x2 : Int} (h : ((1600 ≤ x2 →
   (Q 1 φ α)) ∧
   (¬ (1600 ≤ x2) →
   (eX8_isWord d 19 φ α (fun r2 φ2 α2 =>
     ((r2 = 0 →
     (Q 1 φ2 α2)) ∧
     (¬ (r2 = 0) →
     (eX8_scan d  φ2 α2 (fun r4 φ4 α4 =>
       (eX5_readFact d x1 φ4 α4 (fun r5 φ5 α5 =>
       ((¬ r5 = 0 →
       isRow (φ5 5 3 185) 1600 ∧ (eX6_put d (φ5 5 3 185) 19 φ5 α5 (fun r8 φ8 α8 =>
         inR (x2 + 1) ∧ (jX5_readBoth_12 (d + 1) x1 (x2 + 1) φ8 α8 Q)))) ∧
       (r5 = 0 →
       (Q 0 φ5 α5)))))))))))))) : jX5_readBoth_12 (d + 1) x1 x2 φ α Q := by
  intro Ln
  refine r_iload_n (pc' := 13) (kX5_readBoth_0 8 rfl) rfl rfl ?_
  refine r_sipush 1600 (pc' := 16) (kX5_readBoth_0 9 rfl) rfl ⟨by unfold inR; omega, rfl⟩ ?_
  refine r_icmp_ge (t := 63) (pc' := 19) (kX5_readBoth_0 10 rfl) rfl rfl (fun c1 => ?_) (fun c1 => ?_)
  · have h := h.1 c1
    refine r_iconst 1 (pc' := 64) (kX5_readBoth_0 31 rfl) rfl (by unfold inR; omega) ?_
    exact s_zret (kX5_readBoth_0 32 rfl) rfl (Or.inr rfl) h
  · have h := h.2 c1
    refine r_aload_n (pc' := 20) (kX5_readBoth_0 11 rfl) rfl rfl ?_
    refine s_getr (v := 186) (pc' := 23) (kX5_readBoth_0 12 rfl) rfl fkX5_20 rfl rfl (kz185 Ln) rfl (by decide) ?_
    refine r_bipush 19 (pc' := 25) (kX5_readBoth_0 13 rfl) rfl ⟨by unfold inR; omega, rfl⟩ ?_
    refine s_callV (As := [(0, 19)]) (o := 186) (S := []) (S2 := fun z => [(0, z)]) (pc' := 28) (kX5_readBoth_0 14 rfl) rfl rfl nkX8_isWord mlX5_92 imX8_isWord rfl slX8_isWord rfl (Nat.le_of_ble_eq_true rfl) (Nat.le_of_ble_eq_true rfl) (kz186 Ln) h (fun z => rfl) (fun r2 φ2 α2 h => ?_)
    refine r_if_eq (t := 63) (pc' := 31) (kX5_readBoth_0 15 rfl) rfl rfl (fun c3 => ?_) (fun c3 => ?_)
    · have h := h.1 c3
      refine r_iconst 1 (pc' := 64) (kX5_readBoth_0 31 rfl) rfl (by unfold inR; omega) ?_
      exact s_zret (kX5_readBoth_0 32 rfl) rfl (Or.inr rfl) h
    · have h := h.2 c3
      refine r_aload_n (pc' := 32) (kX5_readBoth_0 16 rfl) rfl rfl ?_
      refine s_getr (v := 186) (pc' := 35) (kX5_readBoth_0 17 rfl) rfl fkX5_20 rfl rfl (kz185 Ln) rfl (by decide) ?_
      refine s_callV (As := []) (o := 186) (S := []) (S2 := fun z => []) (pc' := 38) (kX5_readBoth_0 18 rfl) rfl rfl nkX8_scan mlX5_61 imX8_scan rfl slX8_scan rfl (Nat.le_of_ble_eq_true rfl) (Nat.le_of_ble_eq_true rfl) (kz186 Ln) h (fun z => rfl) (fun r4 φ4 α4 h => ?_)
      refine r_aload_n (pc' := 39) (kX5_readBoth_0 19 rfl) rfl rfl ?_
      refine r_iload_n (pc' := 40) (kX5_readBoth_0 20 rfl) rfl rfl ?_
      refine s_callV (As := [(0, x1)]) (o := 185) (S := []) (S2 := fun z => [(0, z)]) (pc' := 43) (kX5_readBoth_0 21 rfl) rfl rfl nkX5_readFact mlX5_212 imX5_readFact rfl slX5_readFact rfl (Nat.le_of_ble_eq_true rfl) (Nat.le_of_ble_eq_true rfl) (kz185 Ln) h (fun z => rfl) (fun r5 φ5 α5 h => ?_)
      refine r_if_ne (t := 48) (pc' := 46) (kX5_readBoth_0 22 rfl) rfl rfl (fun c6 => ?_) (fun c6 => ?_)
      · have h := h.1 c6
        refine r_aload_n (pc' := 49) (kX5_readBoth_0 25 rfl) rfl rfl ?_
        have g7 := h.1
        have h := h.2
        refine s_getc (x := (φ5 5 3 185)) (pc' := 52) (kX5_readBoth_0 26 rfl) rfl fkX5_32 rfl rfl (kz185 Ln) rfl g7.2.2 ?_
        refine r_bipush 19 (pc' := 54) (kX5_readBoth_0 27 rfl) rfl ⟨by unfold inR; omega, rfl⟩ ?_
        refine s_callV (As := [(0, 19)]) (o := (φ5 5 3 185)) (S := []) (S2 := fun z => []) (pc' := 57) (kX5_readBoth_0 28 rfl) rfl rfl nkX6_put mlX5_208 imX6_put rfl slX6_put rfl (Nat.le_of_ble_eq_true rfl) (Nat.le_of_ble_eq_true rfl) (g7.1 Ln) h (fun z => rfl) (fun r8 φ8 α8 h => ?_)
        have g9 := h.1
        have h := h.2
        refine r_iinc (L' := [(2, 185), (0, x1), (0, (x2 + 1))]) (pc' := 60) (kX5_readBoth_0 29 rfl) rfl (Nat.le_of_ble_eq_true rfl) rfl g9 rfl ?_
        refine r_goto (pc' := 12) (kX5_readBoth_0 30 rfl) rfl ?_
        exact r_weak (L' := [(2, 185), (0, x1), (0, (x2 + 1))]) ⟨Or.inl rfl, Or.inl rfl, Or.inl rfl, trivial⟩ (h Ln)
      · have h := h.2 c6
        refine r_iconst 0 (pc' := 47) (kX5_readBoth_0 23 rfl) rfl (by unfold inR; omega) ?_
        exact s_zret (kX5_readBoth_0 24 rfl) rfl (Or.inl rfl) h
theorem vX5_readFact_0 {d : Nat} {φ : aF} {α : aA} {Q : Int → aF → aA → Prop} {x1 : Int} (h : (eX8_isWord d 21 φ α (fun r1 φ1 α1 =>
   ((r1 = 0 →
   (eX8_isWord d 20 φ1 α1 (fun r3 φ3 α3 =>
     ((r3 = 0 →
     (eX8_isSign d 91 φ3 α3 (fun r5 φ5 α5 =>
       ((r5 = 0 →
       (eX5_readSum d x1 φ5 α5 (fun r7 φ7 α7 =>
         ((¬ r7 = 0 →
         (eX8_isSign d 60 φ7 α7 (fun r9 φ9 α9 =>
           ((¬ r9 = 0 →
           (eX8_scan d  φ9 α9 (fun r11 φ11 α11 =>
             (eX5_readSum d x1 φ11 α11 (fun r12 φ12 α12 =>
             ((¬ r12 = 0 →
             isRow (φ12 5 3 185) 1600 ∧ (eX6_put d (φ12 5 3 185) (φ9 8 4 186) φ12 α12 (fun r15 φ15 α15 =>
               (Q 1 φ15 α15)))) ∧
             (r12 = 0 →
             (Q 0 φ12 α12)))))))) ∧
           (r9 = 0 →
           (eX8_isSign d 62 φ9 α9 (fun r16 φ16 α16 =>
             ((¬ r16 = 0 →
             (eX8_scan d  φ16 α16 (fun r18 φ18 α18 =>
               (eX5_readSum d x1 φ18 α18 (fun r19 φ19 α19 =>
               ((¬ r19 = 0 →
               isRow (φ19 5 3 185) 1600 ∧ (eX6_put d (φ19 5 3 185) (φ16 8 4 186) φ19 α19 (fun r22 φ22 α22 =>
                 (Q 1 φ22 α22)))) ∧
               (r19 = 0 →
               (Q 0 φ19 α19)))))))) ∧
             (r16 = 0 →
             (eX8_isSign d 61 φ16 α16 (fun r23 φ23 α23 =>
               ((¬ r23 = 0 →
               (eX8_scan d  φ23 α23 (fun r25 φ25 α25 =>
                 (eX5_readSum d x1 φ25 α25 (fun r26 φ26 α26 =>
                 ((¬ r26 = 0 →
                 isRow (φ26 5 3 185) 1600 ∧ (eX6_put d (φ26 5 3 185) (φ23 8 4 186) φ26 α26 (fun r29 φ29 α29 =>
                   (Q 1 φ29 α29)))) ∧
                 (r26 = 0 →
                 (Q 0 φ26 α26)))))))) ∧
               (r23 = 0 →
               (eX5_unfit d  φ23 α23 (fun r30 φ30 α30 =>
                 (r30 = 0 ∨ r30 = 1) ∧ (Q r30 φ30 α30)))))))))))))))) ∧
         (r7 = 0 →
         (Q 0 φ7 α7)))))) ∧
       (¬ (r5 = 0) →
       (eX5_takeOpening d x1 φ5 α5 (fun r32 φ32 α32 =>
         ((r32 = 0 →
         (Q 0 φ32 α32)) ∧
         (¬ (r32 = 0) →
         inR (x1 + 1) ∧ (eX5_readTest d (x1 + 1) φ32 α32 (fun r35 φ35 α35 =>
           ((r35 = 0 →
           (Q 0 φ35 α35)) ∧
           (¬ (r35 = 0) →
           (eX5_takeSign d 93 φ35 α35 (fun r37 φ37 α37 =>
             ((r37 = 0 →
             (Q 0 φ37 α37)) ∧
             (¬ (r37 = 0) →
             (Q 1 φ37 α37)))))))))))))))))) ∧
     (¬ (r3 = 0) →
     (eX5_takeOpening d x1 φ3 α3 (fun r39 φ39 α39 =>
       ((r39 = 0 →
       (Q 0 φ39 α39)) ∧
       (¬ (r39 = 0) →
       inR (x1 + 1) ∧ (eX5_readFact d (x1 + 1) φ39 α39 (fun r42 φ42 α42 =>
         ((¬ r42 = 0 →
         isRow (φ42 5 3 185) 1600 ∧ (eX6_put d (φ42 5 3 185) 20 φ42 α42 (fun r45 φ45 α45 =>
           (Q 1 φ45 α45)))) ∧
         (r42 = 0 →
         (Q 0 φ42 α42)))))))))))))) ∧
   (¬ (r1 = 0) →
   isRow (φ1 5 3 185) 1600 ∧ (eX6_put d (φ1 5 3 185) 21 φ1 α1 (fun r47 φ47 α47 =>
     (eX8_scan d  φ47 α47 (fun r48 φ48 α48 =>
     (Q 1 φ48 α48)))))))))) : eX5_readFact (d + 1) x1 φ α Q := by
  intro Ln
  refine r_aload_n (pc' := 1) (kX5_readFact_0 0 rfl) rfl rfl ?_
  refine s_getr (v := 186) (pc' := 4) (kX5_readFact_0 1 rfl) rfl fkX5_20 rfl rfl (kz185 Ln) rfl (by decide) ?_
  refine r_bipush 21 (pc' := 6) (kX5_readFact_0 2 rfl) rfl ⟨by unfold inR; omega, rfl⟩ ?_
  refine s_callV (As := [(0, 21)]) (o := 186) (S := []) (S2 := fun z => [(0, z)]) (pc' := 9) (kX5_readFact_0 3 rfl) rfl rfl nkX8_isWord mlX5_92 imX8_isWord rfl slX8_isWord rfl (Nat.le_of_ble_eq_true rfl) (Nat.le_of_ble_eq_true rfl) (kz186 Ln) h (fun z => rfl) (fun r1 φ1 α1 h => ?_)
  refine r_if_eq (t := 30) (pc' := 12) (kX5_readFact_0 4 rfl) rfl rfl (fun c2 => ?_) (fun c2 => ?_)
  · have h := h.1 c2
    refine r_aload_n (pc' := 31) (kX5_readFact_0 14 rfl) rfl rfl ?_
    refine s_getr (v := 186) (pc' := 34) (kX5_readFact_0 15 rfl) rfl fkX5_20 rfl rfl (kz185 Ln) rfl (by decide) ?_
    refine r_bipush 20 (pc' := 36) (kX5_readFact_0 16 rfl) rfl ⟨by unfold inR; omega, rfl⟩ ?_
    refine s_callV (As := [(0, 20)]) (o := 186) (S := []) (S2 := fun z => [(0, z)]) (pc' := 39) (kX5_readFact_0 17 rfl) rfl rfl nkX8_isWord mlX5_92 imX8_isWord rfl slX8_isWord rfl (Nat.le_of_ble_eq_true rfl) (Nat.le_of_ble_eq_true rfl) (kz186 Ln) h (fun z => rfl) (fun r3 φ3 α3 h => ?_)
    refine r_if_eq (t := 73) (pc' := 42) (kX5_readFact_0 18 rfl) rfl rfl (fun c4 => ?_) (fun c4 => ?_)
    · have h := h.1 c4
      refine r_aload_n (pc' := 74) (kX5_readFact_0 37 rfl) rfl rfl ?_
      refine s_getr (v := 186) (pc' := 77) (kX5_readFact_0 38 rfl) rfl fkX5_20 rfl rfl (kz185 Ln) rfl (by decide) ?_
      refine r_bipush 91 (pc' := 79) (kX5_readFact_0 39 rfl) rfl ⟨by unfold inR; omega, rfl⟩ ?_
      refine s_callV (As := [(0, 91)]) (o := 186) (S := []) (S2 := fun z => [(0, z)]) (pc' := 82) (kX5_readFact_0 40 rfl) rfl rfl nkX8_isSign mlX5_89 imX8_isSign rfl slX8_isSign rfl (Nat.le_of_ble_eq_true rfl) (Nat.le_of_ble_eq_true rfl) (kz186 Ln) h (fun z => rfl) (fun r5 φ5 α5 h => ?_)
      refine r_if_eq (t := 118) (pc' := 85) (kX5_readFact_0 41 rfl) rfl rfl (fun c6 => ?_) (fun c6 => ?_)
      · have h := h.1 c6
        refine r_aload_n (pc' := 119) (kX5_readFact_1 0 rfl) rfl rfl ?_
        refine r_iload_n (pc' := 120) (kX5_readFact_1 1 rfl) rfl rfl ?_
        refine s_callV (As := [(0, x1)]) (o := 185) (S := []) (S2 := fun z => [(0, z)]) (pc' := 123) (kX5_readFact_1 2 rfl) rfl rfl nkX5_readSum mlX5_71 imX5_readSum rfl slX5_readSum rfl (Nat.le_of_ble_eq_true rfl) (Nat.le_of_ble_eq_true rfl) (kz185 Ln) h (fun z => rfl) (fun r7 φ7 α7 h => ?_)
        refine r_if_ne (t := 128) (pc' := 126) (kX5_readFact_1 3 rfl) rfl rfl (fun c8 => ?_) (fun c8 => ?_)
        · have h := h.1 c8
          refine r_aload_n (pc' := 129) (kX5_readFact_1 6 rfl) rfl rfl ?_
          refine s_getr (v := 186) (pc' := 132) (kX5_readFact_1 7 rfl) rfl fkX5_20 rfl rfl (kz185 Ln) rfl (by decide) ?_
          refine r_bipush 60 (pc' := 134) (kX5_readFact_1 8 rfl) rfl ⟨by unfold inR; omega, rfl⟩ ?_
          refine s_callV (As := [(0, 60)]) (o := 186) (S := []) (S2 := fun z => [(0, z)]) (pc' := 137) (kX5_readFact_1 9 rfl) rfl rfl nkX8_isSign mlX5_89 imX8_isSign rfl slX8_isSign rfl (Nat.le_of_ble_eq_true rfl) (Nat.le_of_ble_eq_true rfl) (kz186 Ln) h (fun z => rfl) (fun r9 φ9 α9 h => ?_)
          refine r_if_ne (t := 169) (pc' := 140) (kX5_readFact_1 10 rfl) rfl rfl (fun c10 => ?_) (fun c10 => ?_)
          · have h := h.1 c10
            refine r_aload_n (pc' := 170) (kX5_readFact_1 24 rfl) rfl rfl ?_
            refine s_getr (v := 186) (pc' := 173) (kX5_readFact_1 25 rfl) rfl fkX5_20 rfl rfl (kz185 Ln) rfl (by decide) ?_
            refine s_get (x := (φ9 8 4 186)) (pc' := 176) (kX5_readFact_1 26 rfl) rfl fkX5_192 rfl rfl rfl (kz186 Ln) rfl ?_
            refine r_istore_n (L' := [(2, 185), (0, x1), (0, (φ9 8 4 186))]) (pc' := 177) (kX5_readFact_1 27 rfl) rfl (Nat.le_of_ble_eq_true rfl) rfl ?_
            refine r_aload_n (pc' := 178) (kX5_readFact_1 28 rfl) rfl rfl ?_
            refine s_getr (v := 186) (pc' := 181) (kX5_readFact_1 29 rfl) rfl fkX5_20 rfl rfl (kz185 Ln) rfl (by decide) ?_
            refine s_callV (As := []) (o := 186) (S := []) (S2 := fun z => []) (pc' := 184) (kX5_readFact_1 30 rfl) rfl rfl nkX8_scan mlX5_61 imX8_scan rfl slX8_scan rfl (Nat.le_of_ble_eq_true rfl) (Nat.le_of_ble_eq_true rfl) (kz186 Ln) h (fun z => rfl) (fun r11 φ11 α11 h => ?_)
            refine r_aload_n (pc' := 185) (kX5_readFact_1 31 rfl) rfl rfl ?_
            refine r_iload_n (pc' := 186) (kX5_readFact_1 32 rfl) rfl rfl ?_
            refine s_callV (As := [(0, x1)]) (o := 185) (S := []) (S2 := fun z => [(0, z)]) (pc' := 189) (kX5_readFact_1 33 rfl) rfl rfl nkX5_readSum mlX5_71 imX5_readSum rfl slX5_readSum rfl (Nat.le_of_ble_eq_true rfl) (Nat.le_of_ble_eq_true rfl) (kz185 Ln) h (fun z => rfl) (fun r12 φ12 α12 h => ?_)
            refine r_if_ne (t := 194) (pc' := 192) (kX5_readFact_1 34 rfl) rfl rfl (fun c13 => ?_) (fun c13 => ?_)
            · have h := h.1 c13
              refine r_aload_n (pc' := 195) (kX5_readFact_1 37 rfl) rfl rfl ?_
              have g14 := h.1
              have h := h.2
              refine s_getc (x := (φ12 5 3 185)) (pc' := 198) (kX5_readFact_1 38 rfl) rfl fkX5_32 rfl rfl (kz185 Ln) rfl g14.2.2 ?_
              refine r_iload_n (pc' := 199) (kX5_readFact_1 39 rfl) rfl rfl ?_
              refine s_callV (As := [(0, (φ9 8 4 186))]) (o := (φ12 5 3 185)) (S := []) (S2 := fun z => []) (pc' := 202) (kX5_readFact_1 40 rfl) rfl rfl nkX6_put mlX5_208 imX6_put rfl slX6_put rfl (Nat.le_of_ble_eq_true rfl) (Nat.le_of_ble_eq_true rfl) (g14.1 Ln) h (fun z => rfl) (fun r15 φ15 α15 h => ?_)
              refine r_iconst 1 (pc' := 203) (kX5_readFact_1 41 rfl) rfl (by unfold inR; omega) ?_
              exact s_zret (kX5_readFact_1 42 rfl) rfl (Or.inr rfl) h
            · have h := h.2 c13
              refine r_iconst 0 (pc' := 193) (kX5_readFact_1 35 rfl) rfl (by unfold inR; omega) ?_
              exact s_zret (kX5_readFact_1 36 rfl) rfl (Or.inl rfl) h
          · have h := h.2 c10
            refine r_aload_n (pc' := 141) (kX5_readFact_1 11 rfl) rfl rfl ?_
            refine s_getr (v := 186) (pc' := 144) (kX5_readFact_1 12 rfl) rfl fkX5_20 rfl rfl (kz185 Ln) rfl (by decide) ?_
            refine r_bipush 62 (pc' := 146) (kX5_readFact_1 13 rfl) rfl ⟨by unfold inR; omega, rfl⟩ ?_
            refine s_callV (As := [(0, 62)]) (o := 186) (S := []) (S2 := fun z => [(0, z)]) (pc' := 149) (kX5_readFact_1 14 rfl) rfl rfl nkX8_isSign mlX5_89 imX8_isSign rfl slX8_isSign rfl (Nat.le_of_ble_eq_true rfl) (Nat.le_of_ble_eq_true rfl) (kz186 Ln) h (fun z => rfl) (fun r16 φ16 α16 h => ?_)
            refine r_if_ne (t := 169) (pc' := 152) (kX5_readFact_1 15 rfl) rfl rfl (fun c17 => ?_) (fun c17 => ?_)
            · have h := h.1 c17
              refine r_aload_n (pc' := 170) (kX5_readFact_1 24 rfl) rfl rfl ?_
              refine s_getr (v := 186) (pc' := 173) (kX5_readFact_1 25 rfl) rfl fkX5_20 rfl rfl (kz185 Ln) rfl (by decide) ?_
              refine s_get (x := (φ16 8 4 186)) (pc' := 176) (kX5_readFact_1 26 rfl) rfl fkX5_192 rfl rfl rfl (kz186 Ln) rfl ?_
              refine r_istore_n (L' := [(2, 185), (0, x1), (0, (φ16 8 4 186))]) (pc' := 177) (kX5_readFact_1 27 rfl) rfl (Nat.le_of_ble_eq_true rfl) rfl ?_
              refine r_aload_n (pc' := 178) (kX5_readFact_1 28 rfl) rfl rfl ?_
              refine s_getr (v := 186) (pc' := 181) (kX5_readFact_1 29 rfl) rfl fkX5_20 rfl rfl (kz185 Ln) rfl (by decide) ?_
              refine s_callV (As := []) (o := 186) (S := []) (S2 := fun z => []) (pc' := 184) (kX5_readFact_1 30 rfl) rfl rfl nkX8_scan mlX5_61 imX8_scan rfl slX8_scan rfl (Nat.le_of_ble_eq_true rfl) (Nat.le_of_ble_eq_true rfl) (kz186 Ln) h (fun z => rfl) (fun r18 φ18 α18 h => ?_)
              refine r_aload_n (pc' := 185) (kX5_readFact_1 31 rfl) rfl rfl ?_
              refine r_iload_n (pc' := 186) (kX5_readFact_1 32 rfl) rfl rfl ?_
              refine s_callV (As := [(0, x1)]) (o := 185) (S := []) (S2 := fun z => [(0, z)]) (pc' := 189) (kX5_readFact_1 33 rfl) rfl rfl nkX5_readSum mlX5_71 imX5_readSum rfl slX5_readSum rfl (Nat.le_of_ble_eq_true rfl) (Nat.le_of_ble_eq_true rfl) (kz185 Ln) h (fun z => rfl) (fun r19 φ19 α19 h => ?_)
              refine r_if_ne (t := 194) (pc' := 192) (kX5_readFact_1 34 rfl) rfl rfl (fun c20 => ?_) (fun c20 => ?_)
              · have h := h.1 c20
                refine r_aload_n (pc' := 195) (kX5_readFact_1 37 rfl) rfl rfl ?_
                have g21 := h.1
                have h := h.2
                refine s_getc (x := (φ19 5 3 185)) (pc' := 198) (kX5_readFact_1 38 rfl) rfl fkX5_32 rfl rfl (kz185 Ln) rfl g21.2.2 ?_
                refine r_iload_n (pc' := 199) (kX5_readFact_1 39 rfl) rfl rfl ?_
                refine s_callV (As := [(0, (φ16 8 4 186))]) (o := (φ19 5 3 185)) (S := []) (S2 := fun z => []) (pc' := 202) (kX5_readFact_1 40 rfl) rfl rfl nkX6_put mlX5_208 imX6_put rfl slX6_put rfl (Nat.le_of_ble_eq_true rfl) (Nat.le_of_ble_eq_true rfl) (g21.1 Ln) h (fun z => rfl) (fun r22 φ22 α22 h => ?_)
                refine r_iconst 1 (pc' := 203) (kX5_readFact_1 41 rfl) rfl (by unfold inR; omega) ?_
                exact s_zret (kX5_readFact_1 42 rfl) rfl (Or.inr rfl) h
              · have h := h.2 c20
                refine r_iconst 0 (pc' := 193) (kX5_readFact_1 35 rfl) rfl (by unfold inR; omega) ?_
                exact s_zret (kX5_readFact_1 36 rfl) rfl (Or.inl rfl) h
            · have h := h.2 c17
              refine r_aload_n (pc' := 153) (kX5_readFact_1 16 rfl) rfl rfl ?_
              refine s_getr (v := 186) (pc' := 156) (kX5_readFact_1 17 rfl) rfl fkX5_20 rfl rfl (kz185 Ln) rfl (by decide) ?_
              refine r_bipush 61 (pc' := 158) (kX5_readFact_1 18 rfl) rfl ⟨by unfold inR; omega, rfl⟩ ?_
              refine s_callV (As := [(0, 61)]) (o := 186) (S := []) (S2 := fun z => [(0, z)]) (pc' := 161) (kX5_readFact_1 19 rfl) rfl rfl nkX8_isSign mlX5_89 imX8_isSign rfl slX8_isSign rfl (Nat.le_of_ble_eq_true rfl) (Nat.le_of_ble_eq_true rfl) (kz186 Ln) h (fun z => rfl) (fun r23 φ23 α23 h => ?_)
              refine r_if_ne (t := 169) (pc' := 164) (kX5_readFact_1 20 rfl) rfl rfl (fun c24 => ?_) (fun c24 => ?_)
              · have h := h.1 c24
                refine r_aload_n (pc' := 170) (kX5_readFact_1 24 rfl) rfl rfl ?_
                refine s_getr (v := 186) (pc' := 173) (kX5_readFact_1 25 rfl) rfl fkX5_20 rfl rfl (kz185 Ln) rfl (by decide) ?_
                refine s_get (x := (φ23 8 4 186)) (pc' := 176) (kX5_readFact_1 26 rfl) rfl fkX5_192 rfl rfl rfl (kz186 Ln) rfl ?_
                refine r_istore_n (L' := [(2, 185), (0, x1), (0, (φ23 8 4 186))]) (pc' := 177) (kX5_readFact_1 27 rfl) rfl (Nat.le_of_ble_eq_true rfl) rfl ?_
                refine r_aload_n (pc' := 178) (kX5_readFact_1 28 rfl) rfl rfl ?_
                refine s_getr (v := 186) (pc' := 181) (kX5_readFact_1 29 rfl) rfl fkX5_20 rfl rfl (kz185 Ln) rfl (by decide) ?_
                refine s_callV (As := []) (o := 186) (S := []) (S2 := fun z => []) (pc' := 184) (kX5_readFact_1 30 rfl) rfl rfl nkX8_scan mlX5_61 imX8_scan rfl slX8_scan rfl (Nat.le_of_ble_eq_true rfl) (Nat.le_of_ble_eq_true rfl) (kz186 Ln) h (fun z => rfl) (fun r25 φ25 α25 h => ?_)
                refine r_aload_n (pc' := 185) (kX5_readFact_1 31 rfl) rfl rfl ?_
                refine r_iload_n (pc' := 186) (kX5_readFact_1 32 rfl) rfl rfl ?_
                refine s_callV (As := [(0, x1)]) (o := 185) (S := []) (S2 := fun z => [(0, z)]) (pc' := 189) (kX5_readFact_1 33 rfl) rfl rfl nkX5_readSum mlX5_71 imX5_readSum rfl slX5_readSum rfl (Nat.le_of_ble_eq_true rfl) (Nat.le_of_ble_eq_true rfl) (kz185 Ln) h (fun z => rfl) (fun r26 φ26 α26 h => ?_)
                refine r_if_ne (t := 194) (pc' := 192) (kX5_readFact_1 34 rfl) rfl rfl (fun c27 => ?_) (fun c27 => ?_)
                · have h := h.1 c27
                  refine r_aload_n (pc' := 195) (kX5_readFact_1 37 rfl) rfl rfl ?_
                  have g28 := h.1
                  have h := h.2
                  refine s_getc (x := (φ26 5 3 185)) (pc' := 198) (kX5_readFact_1 38 rfl) rfl fkX5_32 rfl rfl (kz185 Ln) rfl g28.2.2 ?_
                  refine r_iload_n (pc' := 199) (kX5_readFact_1 39 rfl) rfl rfl ?_
                  refine s_callV (As := [(0, (φ23 8 4 186))]) (o := (φ26 5 3 185)) (S := []) (S2 := fun z => []) (pc' := 202) (kX5_readFact_1 40 rfl) rfl rfl nkX6_put mlX5_208 imX6_put rfl slX6_put rfl (Nat.le_of_ble_eq_true rfl) (Nat.le_of_ble_eq_true rfl) (g28.1 Ln) h (fun z => rfl) (fun r29 φ29 α29 h => ?_)
                  refine r_iconst 1 (pc' := 203) (kX5_readFact_1 41 rfl) rfl (by unfold inR; omega) ?_
                  exact s_zret (kX5_readFact_1 42 rfl) rfl (Or.inr rfl) h
                · have h := h.2 c27
                  refine r_iconst 0 (pc' := 193) (kX5_readFact_1 35 rfl) rfl (by unfold inR; omega) ?_
                  exact s_zret (kX5_readFact_1 36 rfl) rfl (Or.inl rfl) h
              · have h := h.2 c24
                refine r_aload_n (pc' := 165) (kX5_readFact_1 21 rfl) rfl rfl ?_
                refine s_callV (As := []) (o := 185) (S := []) (S2 := fun z => [(0, z)]) (pc' := 168) (kX5_readFact_1 22 rfl) rfl rfl nkX5_unfit mlX5_57 imX5_unfit rfl slX5_unfit rfl (Nat.le_of_ble_eq_true rfl) (Nat.le_of_ble_eq_true rfl) (kz185 Ln) h (fun z => rfl) (fun r30 φ30 α30 h => ?_)
                have g31 := h.1
                have h := h.2
                exact s_zret (kX5_readFact_1 23 rfl) rfl g31 h
        · have h := h.2 c8
          refine r_iconst 0 (pc' := 127) (kX5_readFact_1 4 rfl) rfl (by unfold inR; omega) ?_
          exact s_zret (kX5_readFact_1 5 rfl) rfl (Or.inl rfl) h
      · have h := h.2 c6
        refine r_aload_n (pc' := 86) (kX5_readFact_0 42 rfl) rfl rfl ?_
        refine r_iload_n (pc' := 87) (kX5_readFact_0 43 rfl) rfl rfl ?_
        refine s_callV (As := [(0, x1)]) (o := 185) (S := []) (S2 := fun z => [(0, z)]) (pc' := 90) (kX5_readFact_0 44 rfl) rfl rfl nkX5_takeOpening mlX5_215 imX5_takeOpening rfl slX5_takeOpening rfl (Nat.le_of_ble_eq_true rfl) (Nat.le_of_ble_eq_true rfl) (kz185 Ln) h (fun z => rfl) (fun r32 φ32 α32 h => ?_)
        refine r_if_eq (t := 116) (pc' := 93) (kX5_readFact_0 45 rfl) rfl rfl (fun c33 => ?_) (fun c33 => ?_)
        · have h := h.1 c33
          refine r_iconst 0 (pc' := 117) (kX5_readFact_0 58 rfl) rfl (by unfold inR; omega) ?_
          exact s_zret (kX5_readFact_0 59 rfl) rfl (Or.inl rfl) h
        · have h := h.2 c33
          refine r_aload_n (pc' := 94) (kX5_readFact_0 46 rfl) rfl rfl ?_
          refine r_iload_n (pc' := 95) (kX5_readFact_0 47 rfl) rfl rfl ?_
          refine r_iconst 1 (pc' := 96) (kX5_readFact_0 48 rfl) rfl (by unfold inR; omega) ?_
          have g34 := h.1
          have h := h.2
          refine r_iadd (pc' := 97) (kX5_readFact_0 49 rfl) rfl g34 ?_
          refine s_callV (As := [(0, (x1 + 1))]) (o := 185) (S := []) (S2 := fun z => [(0, z)]) (pc' := 100) (kX5_readFact_0 50 rfl) rfl rfl nkX5_readTest mlX5_68 imX5_readTest rfl slX5_readTest rfl (Nat.le_of_ble_eq_true rfl) (Nat.le_of_ble_eq_true rfl) (kz185 Ln) h (fun z => rfl) (fun r35 φ35 α35 h => ?_)
          refine r_if_eq (t := 116) (pc' := 103) (kX5_readFact_0 51 rfl) rfl rfl (fun c36 => ?_) (fun c36 => ?_)
          · have h := h.1 c36
            refine r_iconst 0 (pc' := 117) (kX5_readFact_0 58 rfl) rfl (by unfold inR; omega) ?_
            exact s_zret (kX5_readFact_0 59 rfl) rfl (Or.inl rfl) h
          · have h := h.2 c36
            refine r_aload_n (pc' := 104) (kX5_readFact_0 52 rfl) rfl rfl ?_
            refine r_bipush 93 (pc' := 106) (kX5_readFact_0 53 rfl) rfl ⟨by unfold inR; omega, rfl⟩ ?_
            refine s_callV (As := [(0, 93)]) (o := 185) (S := []) (S2 := fun z => [(0, z)]) (pc' := 109) (kX5_readFact_0 54 rfl) rfl rfl nkX5_takeSign mlX5_51 imX5_takeSign rfl slX5_takeSign rfl (Nat.le_of_ble_eq_true rfl) (Nat.le_of_ble_eq_true rfl) (kz185 Ln) h (fun z => rfl) (fun r37 φ37 α37 h => ?_)
            refine r_if_eq (t := 116) (pc' := 112) (kX5_readFact_0 55 rfl) rfl rfl (fun c38 => ?_) (fun c38 => ?_)
            · have h := h.1 c38
              refine r_iconst 0 (pc' := 117) (kX5_readFact_0 58 rfl) rfl (by unfold inR; omega) ?_
              exact s_zret (kX5_readFact_0 59 rfl) rfl (Or.inl rfl) h
            · have h := h.2 c38
              refine r_iconst 1 (pc' := 113) (kX5_readFact_0 56 rfl) rfl (by unfold inR; omega) ?_
              refine r_goto (pc' := 117) (kX5_readFact_0 57 rfl) rfl ?_
              exact s_zret (kX5_readFact_0 59 rfl) rfl (Or.inr rfl) h
    · have h := h.2 c4
      refine r_aload_n (pc' := 43) (kX5_readFact_0 19 rfl) rfl rfl ?_
      refine r_iload_n (pc' := 44) (kX5_readFact_0 20 rfl) rfl rfl ?_
      refine s_callV (As := [(0, x1)]) (o := 185) (S := []) (S2 := fun z => [(0, z)]) (pc' := 47) (kX5_readFact_0 21 rfl) rfl rfl nkX5_takeOpening mlX5_215 imX5_takeOpening rfl slX5_takeOpening rfl (Nat.le_of_ble_eq_true rfl) (Nat.le_of_ble_eq_true rfl) (kz185 Ln) h (fun z => rfl) (fun r39 φ39 α39 h => ?_)
      refine r_if_eq (t := 60) (pc' := 50) (kX5_readFact_0 22 rfl) rfl rfl (fun c40 => ?_) (fun c40 => ?_)
      · have h := h.1 c40
        refine r_iconst 0 (pc' := 61) (kX5_readFact_0 29 rfl) rfl (by unfold inR; omega) ?_
        exact s_zret (kX5_readFact_0 30 rfl) rfl (Or.inl rfl) h
      · have h := h.2 c40
        refine r_aload_n (pc' := 51) (kX5_readFact_0 23 rfl) rfl rfl ?_
        refine r_iload_n (pc' := 52) (kX5_readFact_0 24 rfl) rfl rfl ?_
        refine r_iconst 1 (pc' := 53) (kX5_readFact_0 25 rfl) rfl (by unfold inR; omega) ?_
        have g41 := h.1
        have h := h.2
        refine r_iadd (pc' := 54) (kX5_readFact_0 26 rfl) rfl g41 ?_
        refine s_callV (As := [(0, (x1 + 1))]) (o := 185) (S := []) (S2 := fun z => [(0, z)]) (pc' := 57) (kX5_readFact_0 27 rfl) rfl rfl nkX5_readFact mlX5_212 imX5_readFact rfl slX5_readFact rfl (Nat.le_of_ble_eq_true rfl) (Nat.le_of_ble_eq_true rfl) (kz185 Ln) h (fun z => rfl) (fun r42 φ42 α42 h => ?_)
        refine r_if_ne (t := 62) (pc' := 60) (kX5_readFact_0 28 rfl) rfl rfl (fun c43 => ?_) (fun c43 => ?_)
        · have h := h.1 c43
          refine r_aload_n (pc' := 63) (kX5_readFact_0 31 rfl) rfl rfl ?_
          have g44 := h.1
          have h := h.2
          refine s_getc (x := (φ42 5 3 185)) (pc' := 66) (kX5_readFact_0 32 rfl) rfl fkX5_32 rfl rfl (kz185 Ln) rfl g44.2.2 ?_
          refine r_bipush 20 (pc' := 68) (kX5_readFact_0 33 rfl) rfl ⟨by unfold inR; omega, rfl⟩ ?_
          refine s_callV (As := [(0, 20)]) (o := (φ42 5 3 185)) (S := []) (S2 := fun z => []) (pc' := 71) (kX5_readFact_0 34 rfl) rfl rfl nkX6_put mlX5_208 imX6_put rfl slX6_put rfl (Nat.le_of_ble_eq_true rfl) (Nat.le_of_ble_eq_true rfl) (g44.1 Ln) h (fun z => rfl) (fun r45 φ45 α45 h => ?_)
          refine r_iconst 1 (pc' := 72) (kX5_readFact_0 35 rfl) rfl (by unfold inR; omega) ?_
          exact s_zret (kX5_readFact_0 36 rfl) rfl (Or.inr rfl) h
        · have h := h.2 c43
          refine r_iconst 0 (pc' := 61) (kX5_readFact_0 29 rfl) rfl (by unfold inR; omega) ?_
          exact s_zret (kX5_readFact_0 30 rfl) rfl (Or.inl rfl) h
  · have h := h.2 c2
    refine r_aload_n (pc' := 13) (kX5_readFact_0 5 rfl) rfl rfl ?_
    have g46 := h.1
    have h := h.2
    refine s_getc (x := (φ1 5 3 185)) (pc' := 16) (kX5_readFact_0 6 rfl) rfl fkX5_32 rfl rfl (kz185 Ln) rfl g46.2.2 ?_
    refine r_bipush 21 (pc' := 18) (kX5_readFact_0 7 rfl) rfl ⟨by unfold inR; omega, rfl⟩ ?_
    refine s_callV (As := [(0, 21)]) (o := (φ1 5 3 185)) (S := []) (S2 := fun z => []) (pc' := 21) (kX5_readFact_0 8 rfl) rfl rfl nkX6_put mlX5_208 imX6_put rfl slX6_put rfl (Nat.le_of_ble_eq_true rfl) (Nat.le_of_ble_eq_true rfl) (g46.1 Ln) h (fun z => rfl) (fun r47 φ47 α47 h => ?_)
    refine r_aload_n (pc' := 22) (kX5_readFact_0 9 rfl) rfl rfl ?_
    refine s_getr (v := 186) (pc' := 25) (kX5_readFact_0 10 rfl) rfl fkX5_20 rfl rfl (kz185 Ln) rfl (by decide) ?_
    refine s_callV (As := []) (o := 186) (S := []) (S2 := fun z => []) (pc' := 28) (kX5_readFact_0 11 rfl) rfl rfl nkX8_scan mlX5_61 imX8_scan rfl slX8_scan rfl (Nat.le_of_ble_eq_true rfl) (Nat.le_of_ble_eq_true rfl) (kz186 Ln) h (fun z => rfl) (fun r48 φ48 α48 h => ?_)
    refine r_iconst 1 (pc' := 29) (kX5_readFact_0 12 rfl) rfl (by unfold inR; omega) ?_
    exact s_zret (kX5_readFact_0 13 rfl) rfl (Or.inr rfl) h
abbrev jX5_readSum_12 (d : Nat) (x1 x2 : Int) (φ : aF) (α : aA) (Q : Int → aF → aA → Prop) : Prop := R0 d mX5_readSum 12 [(2, 185), (0, x1), (0, x2), (9, 0)] [] φ α Q
theorem vX5_readSum_0 {d : Nat} {φ : aF} {α : aA} {Q : Int → aF → aA → Prop} {x1 : Int} (h : (eX5_readProduct d x1 φ α (fun r1 φ1 α1 =>
   ((¬ r1 = 0 →
   (jX5_readSum_12 (d + 1) x1 0 φ1 α1 Q)) ∧
   (r1 = 0 →
   (Q 0 φ1 α1)))))) : eX5_readSum (d + 1) x1 φ α Q := by
  intro Ln
  refine r_aload_n (pc' := 1) (kX5_readSum_0 0 rfl) rfl rfl ?_
  refine r_iload_n (pc' := 2) (kX5_readSum_0 1 rfl) rfl rfl ?_
  refine s_callV (As := [(0, x1)]) (o := 185) (S := []) (S2 := fun z => [(0, z)]) (pc' := 5) (kX5_readSum_0 2 rfl) rfl rfl nkX5_readProduct mlX5_218 imX5_readProduct rfl slX5_readProduct rfl (Nat.le_of_ble_eq_true rfl) (Nat.le_of_ble_eq_true rfl) (kz185 Ln) h (fun z => rfl) (fun r1 φ1 α1 h => ?_)
  refine r_if_ne (t := 10) (pc' := 8) (kX5_readSum_0 3 rfl) rfl rfl (fun c2 => ?_) (fun c2 => ?_)
  · have h := h.1 c2
    refine r_iconst 0 (pc' := 11) (kX5_readSum_0 6 rfl) rfl (by unfold inR; omega) ?_
    refine r_istore_n (L' := [(2, 185), (0, x1), (0, 0), (9, 0)]) (pc' := 12) (kX5_readSum_0 7 rfl) rfl (Nat.le_of_ble_eq_true rfl) rfl ?_
    exact r_weak (L' := [(2, 185), (0, x1), (0, 0), (9, 0)]) ⟨Or.inl rfl, Or.inl rfl, Or.inl rfl, Or.inr (by decide), trivial⟩ (h Ln)
  · have h := h.2 c2
    refine r_iconst 0 (pc' := 9) (kX5_readSum_0 4 rfl) rfl (by unfold inR; omega) ?_
    exact s_zret (kX5_readSum_0 5 rfl) rfl (Or.inl rfl) h
theorem vX5_readSum_12 {d : Nat} {φ : aF} {α : aA} {Q : Int → aF → aA → Prop} {x1 : Int} {x2 : Int} (h : ((1600 ≤ x2 →
   (Q 1 φ α)) ∧
   (¬ (1600 ≤ x2) →
   (eX8_isSign d 43 φ α (fun r2 φ2 α2 =>
     ((¬ r2 = 0 →
     (eX8_scan d  φ2 α2 (fun r4 φ4 α4 =>
       (eX5_readProduct d x1 φ4 α4 (fun r5 φ5 α5 =>
       ((¬ r5 = 0 →
       isRow (φ5 5 3 185) 1600 ∧ (eX6_put d (φ5 5 3 185) (φ2 8 4 186) φ5 α5 (fun r8 φ8 α8 =>
         inR (x2 + 1) ∧ (jX5_readSum_12 (d + 1) x1 (x2 + 1) φ8 α8 Q)))) ∧
       (r5 = 0 →
       (Q 0 φ5 α5)))))))) ∧
     (r2 = 0 →
     (eX8_isSign d 45 φ2 α2 (fun r10 φ10 α10 =>
       ((r10 = 0 →
       (Q 1 φ10 α10)) ∧
       (¬ (r10 = 0) →
       (eX8_scan d  φ10 α10 (fun r12 φ12 α12 =>
         (eX5_readProduct d x1 φ12 α12 (fun r13 φ13 α13 =>
         ((¬ r13 = 0 →
         isRow (φ13 5 3 185) 1600 ∧ (eX6_put d (φ13 5 3 185) (φ10 8 4 186) φ13 α13 (fun r16 φ16 α16 =>
           inR (x2 + 1) ∧ (jX5_readSum_12 (d + 1) x1 (x2 + 1) φ16 α16 Q)))) ∧
         (r13 = 0 →
         (Q 0 φ13 α13)))))))))))))))))) : jX5_readSum_12 (d + 1) x1 x2 φ α Q := by
  intro Ln
  refine r_iload_n (pc' := 13) (kX5_readSum_0 8 rfl) rfl rfl ?_
  refine r_sipush 1600 (pc' := 16) (kX5_readSum_0 9 rfl) rfl ⟨by unfold inR; omega, rfl⟩ ?_
  refine r_icmp_ge (t := 82) (pc' := 19) (kX5_readSum_0 10 rfl) rfl rfl (fun c1 => ?_) (fun c1 => ?_)
  · have h := h.1 c1
    refine r_iconst 1 (pc' := 83) (kX5_readSum_0 40 rfl) rfl (by unfold inR; omega) ?_
    exact s_zret (kX5_readSum_0 41 rfl) rfl (Or.inr rfl) h
  · have h := h.2 c1
    refine r_aload_n (pc' := 20) (kX5_readSum_0 11 rfl) rfl rfl ?_
    refine s_getr (v := 186) (pc' := 23) (kX5_readSum_0 12 rfl) rfl fkX5_20 rfl rfl (kz185 Ln) rfl (by decide) ?_
    refine r_bipush 43 (pc' := 25) (kX5_readSum_0 13 rfl) rfl ⟨by unfold inR; omega, rfl⟩ ?_
    refine s_callV (As := [(0, 43)]) (o := 186) (S := []) (S2 := fun z => [(0, z)]) (pc' := 28) (kX5_readSum_0 14 rfl) rfl rfl nkX8_isSign mlX5_89 imX8_isSign rfl slX8_isSign rfl (Nat.le_of_ble_eq_true rfl) (Nat.le_of_ble_eq_true rfl) (kz186 Ln) h (fun z => rfl) (fun r2 φ2 α2 h => ?_)
    refine r_if_ne (t := 43) (pc' := 31) (kX5_readSum_0 15 rfl) rfl rfl (fun c3 => ?_) (fun c3 => ?_)
    · have h := h.1 c3
      refine r_aload_n (pc' := 44) (kX5_readSum_0 21 rfl) rfl rfl ?_
      refine s_getr (v := 186) (pc' := 47) (kX5_readSum_0 22 rfl) rfl fkX5_20 rfl rfl (kz185 Ln) rfl (by decide) ?_
      refine s_get (x := (φ2 8 4 186)) (pc' := 50) (kX5_readSum_0 23 rfl) rfl fkX5_192 rfl rfl rfl (kz186 Ln) rfl ?_
      refine r_istore_n (L' := [(2, 185), (0, x1), (0, x2), (0, (φ2 8 4 186))]) (pc' := 51) (kX5_readSum_0 24 rfl) rfl (Nat.le_of_ble_eq_true rfl) rfl ?_
      refine r_aload_n (pc' := 52) (kX5_readSum_0 25 rfl) rfl rfl ?_
      refine s_getr (v := 186) (pc' := 55) (kX5_readSum_0 26 rfl) rfl fkX5_20 rfl rfl (kz185 Ln) rfl (by decide) ?_
      refine s_callV (As := []) (o := 186) (S := []) (S2 := fun z => []) (pc' := 58) (kX5_readSum_0 27 rfl) rfl rfl nkX8_scan mlX5_61 imX8_scan rfl slX8_scan rfl (Nat.le_of_ble_eq_true rfl) (Nat.le_of_ble_eq_true rfl) (kz186 Ln) h (fun z => rfl) (fun r4 φ4 α4 h => ?_)
      refine r_aload_n (pc' := 59) (kX5_readSum_0 28 rfl) rfl rfl ?_
      refine r_iload_n (pc' := 60) (kX5_readSum_0 29 rfl) rfl rfl ?_
      refine s_callV (As := [(0, x1)]) (o := 185) (S := []) (S2 := fun z => [(0, z)]) (pc' := 63) (kX5_readSum_0 30 rfl) rfl rfl nkX5_readProduct mlX5_218 imX5_readProduct rfl slX5_readProduct rfl (Nat.le_of_ble_eq_true rfl) (Nat.le_of_ble_eq_true rfl) (kz185 Ln) h (fun z => rfl) (fun r5 φ5 α5 h => ?_)
      refine r_if_ne (t := 68) (pc' := 66) (kX5_readSum_0 31 rfl) rfl rfl (fun c6 => ?_) (fun c6 => ?_)
      · have h := h.1 c6
        refine r_aload_n (pc' := 69) (kX5_readSum_0 34 rfl) rfl rfl ?_
        have g7 := h.1
        have h := h.2
        refine s_getc (x := (φ5 5 3 185)) (pc' := 72) (kX5_readSum_0 35 rfl) rfl fkX5_32 rfl rfl (kz185 Ln) rfl g7.2.2 ?_
        refine r_iload_n (pc' := 73) (kX5_readSum_0 36 rfl) rfl rfl ?_
        refine s_callV (As := [(0, (φ2 8 4 186))]) (o := (φ5 5 3 185)) (S := []) (S2 := fun z => []) (pc' := 76) (kX5_readSum_0 37 rfl) rfl rfl nkX6_put mlX5_208 imX6_put rfl slX6_put rfl (Nat.le_of_ble_eq_true rfl) (Nat.le_of_ble_eq_true rfl) (g7.1 Ln) h (fun z => rfl) (fun r8 φ8 α8 h => ?_)
        have g9 := h.1
        have h := h.2
        refine r_iinc (L' := [(2, 185), (0, x1), (0, (x2 + 1)), (0, (φ2 8 4 186))]) (pc' := 79) (kX5_readSum_0 38 rfl) rfl (Nat.le_of_ble_eq_true rfl) rfl g9 rfl ?_
        refine r_goto (pc' := 12) (kX5_readSum_0 39 rfl) rfl ?_
        exact r_weak (L' := [(2, 185), (0, x1), (0, (x2 + 1)), (9, 0)]) ⟨Or.inl rfl, Or.inl rfl, Or.inl rfl, Or.inr (by decide), trivial⟩ (h Ln)
      · have h := h.2 c6
        refine r_iconst 0 (pc' := 67) (kX5_readSum_0 32 rfl) rfl (by unfold inR; omega) ?_
        exact s_zret (kX5_readSum_0 33 rfl) rfl (Or.inl rfl) h
    · have h := h.2 c3
      refine r_aload_n (pc' := 32) (kX5_readSum_0 16 rfl) rfl rfl ?_
      refine s_getr (v := 186) (pc' := 35) (kX5_readSum_0 17 rfl) rfl fkX5_20 rfl rfl (kz185 Ln) rfl (by decide) ?_
      refine r_bipush 45 (pc' := 37) (kX5_readSum_0 18 rfl) rfl ⟨by unfold inR; omega, rfl⟩ ?_
      refine s_callV (As := [(0, 45)]) (o := 186) (S := []) (S2 := fun z => [(0, z)]) (pc' := 40) (kX5_readSum_0 19 rfl) rfl rfl nkX8_isSign mlX5_89 imX8_isSign rfl slX8_isSign rfl (Nat.le_of_ble_eq_true rfl) (Nat.le_of_ble_eq_true rfl) (kz186 Ln) h (fun z => rfl) (fun r10 φ10 α10 h => ?_)
      refine r_if_eq (t := 82) (pc' := 43) (kX5_readSum_0 20 rfl) rfl rfl (fun c11 => ?_) (fun c11 => ?_)
      · have h := h.1 c11
        refine r_iconst 1 (pc' := 83) (kX5_readSum_0 40 rfl) rfl (by unfold inR; omega) ?_
        exact s_zret (kX5_readSum_0 41 rfl) rfl (Or.inr rfl) h
      · have h := h.2 c11
        refine r_aload_n (pc' := 44) (kX5_readSum_0 21 rfl) rfl rfl ?_
        refine s_getr (v := 186) (pc' := 47) (kX5_readSum_0 22 rfl) rfl fkX5_20 rfl rfl (kz185 Ln) rfl (by decide) ?_
        refine s_get (x := (φ10 8 4 186)) (pc' := 50) (kX5_readSum_0 23 rfl) rfl fkX5_192 rfl rfl rfl (kz186 Ln) rfl ?_
        refine r_istore_n (L' := [(2, 185), (0, x1), (0, x2), (0, (φ10 8 4 186))]) (pc' := 51) (kX5_readSum_0 24 rfl) rfl (Nat.le_of_ble_eq_true rfl) rfl ?_
        refine r_aload_n (pc' := 52) (kX5_readSum_0 25 rfl) rfl rfl ?_
        refine s_getr (v := 186) (pc' := 55) (kX5_readSum_0 26 rfl) rfl fkX5_20 rfl rfl (kz185 Ln) rfl (by decide) ?_
        refine s_callV (As := []) (o := 186) (S := []) (S2 := fun z => []) (pc' := 58) (kX5_readSum_0 27 rfl) rfl rfl nkX8_scan mlX5_61 imX8_scan rfl slX8_scan rfl (Nat.le_of_ble_eq_true rfl) (Nat.le_of_ble_eq_true rfl) (kz186 Ln) h (fun z => rfl) (fun r12 φ12 α12 h => ?_)
        refine r_aload_n (pc' := 59) (kX5_readSum_0 28 rfl) rfl rfl ?_
        refine r_iload_n (pc' := 60) (kX5_readSum_0 29 rfl) rfl rfl ?_
        refine s_callV (As := [(0, x1)]) (o := 185) (S := []) (S2 := fun z => [(0, z)]) (pc' := 63) (kX5_readSum_0 30 rfl) rfl rfl nkX5_readProduct mlX5_218 imX5_readProduct rfl slX5_readProduct rfl (Nat.le_of_ble_eq_true rfl) (Nat.le_of_ble_eq_true rfl) (kz185 Ln) h (fun z => rfl) (fun r13 φ13 α13 h => ?_)
        refine r_if_ne (t := 68) (pc' := 66) (kX5_readSum_0 31 rfl) rfl rfl (fun c14 => ?_) (fun c14 => ?_)
        · have h := h.1 c14
          refine r_aload_n (pc' := 69) (kX5_readSum_0 34 rfl) rfl rfl ?_
          have g15 := h.1
          have h := h.2
          refine s_getc (x := (φ13 5 3 185)) (pc' := 72) (kX5_readSum_0 35 rfl) rfl fkX5_32 rfl rfl (kz185 Ln) rfl g15.2.2 ?_
          refine r_iload_n (pc' := 73) (kX5_readSum_0 36 rfl) rfl rfl ?_
          refine s_callV (As := [(0, (φ10 8 4 186))]) (o := (φ13 5 3 185)) (S := []) (S2 := fun z => []) (pc' := 76) (kX5_readSum_0 37 rfl) rfl rfl nkX6_put mlX5_208 imX6_put rfl slX6_put rfl (Nat.le_of_ble_eq_true rfl) (Nat.le_of_ble_eq_true rfl) (g15.1 Ln) h (fun z => rfl) (fun r16 φ16 α16 h => ?_)
          have g17 := h.1
          have h := h.2
          refine r_iinc (L' := [(2, 185), (0, x1), (0, (x2 + 1)), (0, (φ10 8 4 186))]) (pc' := 79) (kX5_readSum_0 38 rfl) rfl (Nat.le_of_ble_eq_true rfl) rfl g17 rfl ?_
          refine r_goto (pc' := 12) (kX5_readSum_0 39 rfl) rfl ?_
          exact r_weak (L' := [(2, 185), (0, x1), (0, (x2 + 1)), (9, 0)]) ⟨Or.inl rfl, Or.inl rfl, Or.inl rfl, Or.inr (by decide), trivial⟩ (h Ln)
        · have h := h.2 c14
          refine r_iconst 0 (pc' := 67) (kX5_readSum_0 32 rfl) rfl (by unfold inR; omega) ?_
          exact s_zret (kX5_readSum_0 33 rfl) rfl (Or.inl rfl) h
abbrev jX5_readProduct_12 (d : Nat) (x1 x2 : Int) (φ : aF) (α : aA) (Q : Int → aF → aA → Prop) : Prop := R0 d mX5_readProduct 12 [(2, 185), (0, x1), (0, x2), (9, 0)] [] φ α Q
theorem vX5_readProduct_0 {d : Nat} {φ : aF} {α : aA} {Q : Int → aF → aA → Prop} {x1 : Int} (h : (eX5_readPart d x1 φ α (fun r1 φ1 α1 =>
   ((¬ r1 = 0 →
   (jX5_readProduct_12 (d + 1) x1 0 φ1 α1 Q)) ∧
   (r1 = 0 →
   (Q 0 φ1 α1)))))) : eX5_readProduct (d + 1) x1 φ α Q := by
  intro Ln
  refine r_aload_n (pc' := 1) (kX5_readProduct_0 0 rfl) rfl rfl ?_
  refine r_iload_n (pc' := 2) (kX5_readProduct_0 1 rfl) rfl rfl ?_
  refine s_callV (As := [(0, x1)]) (o := 185) (S := []) (S2 := fun z => [(0, z)]) (pc' := 5) (kX5_readProduct_0 2 rfl) rfl rfl nkX5_readPart mlX5_221 imX5_readPart rfl slX5_readPart rfl (Nat.le_of_ble_eq_true rfl) (Nat.le_of_ble_eq_true rfl) (kz185 Ln) h (fun z => rfl) (fun r1 φ1 α1 h => ?_)
  refine r_if_ne (t := 10) (pc' := 8) (kX5_readProduct_0 3 rfl) rfl rfl (fun c2 => ?_) (fun c2 => ?_)
  · have h := h.1 c2
    refine r_iconst 0 (pc' := 11) (kX5_readProduct_0 6 rfl) rfl (by unfold inR; omega) ?_
    refine r_istore_n (L' := [(2, 185), (0, x1), (0, 0), (9, 0)]) (pc' := 12) (kX5_readProduct_0 7 rfl) rfl (Nat.le_of_ble_eq_true rfl) rfl ?_
    exact r_weak (L' := [(2, 185), (0, x1), (0, 0), (9, 0)]) ⟨Or.inl rfl, Or.inl rfl, Or.inl rfl, Or.inr (by decide), trivial⟩ (h Ln)
  · have h := h.2 c2
    refine r_iconst 0 (pc' := 9) (kX5_readProduct_0 4 rfl) rfl (by unfold inR; omega) ?_
    exact s_zret (kX5_readProduct_0 5 rfl) rfl (Or.inl rfl) h
theorem vX5_readProduct_12 {d : Nat} {φ : aF} {α : aA} {Q : Int → aF → aA → Prop} {x1 : Int} {x2 : Int} (h : ((1600 ≤ x2 →
   (Q 1 φ α)) ∧
   (¬ (1600 ≤ x2) →
   (eX8_isSign d 42 φ α (fun r2 φ2 α2 =>
     ((¬ r2 = 0 →
     (eX8_scan d  φ2 α2 (fun r4 φ4 α4 =>
       (eX5_readPart d x1 φ4 α4 (fun r5 φ5 α5 =>
       ((¬ r5 = 0 →
       isRow (φ5 5 3 185) 1600 ∧ (eX6_put d (φ5 5 3 185) (φ2 8 4 186) φ5 α5 (fun r8 φ8 α8 =>
         inR (x2 + 1) ∧ (jX5_readProduct_12 (d + 1) x1 (x2 + 1) φ8 α8 Q)))) ∧
       (r5 = 0 →
       (Q 0 φ5 α5)))))))) ∧
     (r2 = 0 →
     (eX8_isSign d 47 φ2 α2 (fun r10 φ10 α10 =>
       ((r10 = 0 →
       (Q 1 φ10 α10)) ∧
       (¬ (r10 = 0) →
       (eX8_scan d  φ10 α10 (fun r12 φ12 α12 =>
         (eX5_readPart d x1 φ12 α12 (fun r13 φ13 α13 =>
         ((¬ r13 = 0 →
         isRow (φ13 5 3 185) 1600 ∧ (eX6_put d (φ13 5 3 185) (φ10 8 4 186) φ13 α13 (fun r16 φ16 α16 =>
           inR (x2 + 1) ∧ (jX5_readProduct_12 (d + 1) x1 (x2 + 1) φ16 α16 Q)))) ∧
         (r13 = 0 →
         (Q 0 φ13 α13)))))))))))))))))) : jX5_readProduct_12 (d + 1) x1 x2 φ α Q := by
  intro Ln
  refine r_iload_n (pc' := 13) (kX5_readProduct_0 8 rfl) rfl rfl ?_
  refine r_sipush 1600 (pc' := 16) (kX5_readProduct_0 9 rfl) rfl ⟨by unfold inR; omega, rfl⟩ ?_
  refine r_icmp_ge (t := 82) (pc' := 19) (kX5_readProduct_0 10 rfl) rfl rfl (fun c1 => ?_) (fun c1 => ?_)
  · have h := h.1 c1
    refine r_iconst 1 (pc' := 83) (kX5_readProduct_0 40 rfl) rfl (by unfold inR; omega) ?_
    exact s_zret (kX5_readProduct_0 41 rfl) rfl (Or.inr rfl) h
  · have h := h.2 c1
    refine r_aload_n (pc' := 20) (kX5_readProduct_0 11 rfl) rfl rfl ?_
    refine s_getr (v := 186) (pc' := 23) (kX5_readProduct_0 12 rfl) rfl fkX5_20 rfl rfl (kz185 Ln) rfl (by decide) ?_
    refine r_bipush 42 (pc' := 25) (kX5_readProduct_0 13 rfl) rfl ⟨by unfold inR; omega, rfl⟩ ?_
    refine s_callV (As := [(0, 42)]) (o := 186) (S := []) (S2 := fun z => [(0, z)]) (pc' := 28) (kX5_readProduct_0 14 rfl) rfl rfl nkX8_isSign mlX5_89 imX8_isSign rfl slX8_isSign rfl (Nat.le_of_ble_eq_true rfl) (Nat.le_of_ble_eq_true rfl) (kz186 Ln) h (fun z => rfl) (fun r2 φ2 α2 h => ?_)
    refine r_if_ne (t := 43) (pc' := 31) (kX5_readProduct_0 15 rfl) rfl rfl (fun c3 => ?_) (fun c3 => ?_)
    · have h := h.1 c3
      refine r_aload_n (pc' := 44) (kX5_readProduct_0 21 rfl) rfl rfl ?_
      refine s_getr (v := 186) (pc' := 47) (kX5_readProduct_0 22 rfl) rfl fkX5_20 rfl rfl (kz185 Ln) rfl (by decide) ?_
      refine s_get (x := (φ2 8 4 186)) (pc' := 50) (kX5_readProduct_0 23 rfl) rfl fkX5_192 rfl rfl rfl (kz186 Ln) rfl ?_
      refine r_istore_n (L' := [(2, 185), (0, x1), (0, x2), (0, (φ2 8 4 186))]) (pc' := 51) (kX5_readProduct_0 24 rfl) rfl (Nat.le_of_ble_eq_true rfl) rfl ?_
      refine r_aload_n (pc' := 52) (kX5_readProduct_0 25 rfl) rfl rfl ?_
      refine s_getr (v := 186) (pc' := 55) (kX5_readProduct_0 26 rfl) rfl fkX5_20 rfl rfl (kz185 Ln) rfl (by decide) ?_
      refine s_callV (As := []) (o := 186) (S := []) (S2 := fun z => []) (pc' := 58) (kX5_readProduct_0 27 rfl) rfl rfl nkX8_scan mlX5_61 imX8_scan rfl slX8_scan rfl (Nat.le_of_ble_eq_true rfl) (Nat.le_of_ble_eq_true rfl) (kz186 Ln) h (fun z => rfl) (fun r4 φ4 α4 h => ?_)
      refine r_aload_n (pc' := 59) (kX5_readProduct_0 28 rfl) rfl rfl ?_
      refine r_iload_n (pc' := 60) (kX5_readProduct_0 29 rfl) rfl rfl ?_
      refine s_callV (As := [(0, x1)]) (o := 185) (S := []) (S2 := fun z => [(0, z)]) (pc' := 63) (kX5_readProduct_0 30 rfl) rfl rfl nkX5_readPart mlX5_221 imX5_readPart rfl slX5_readPart rfl (Nat.le_of_ble_eq_true rfl) (Nat.le_of_ble_eq_true rfl) (kz185 Ln) h (fun z => rfl) (fun r5 φ5 α5 h => ?_)
      refine r_if_ne (t := 68) (pc' := 66) (kX5_readProduct_0 31 rfl) rfl rfl (fun c6 => ?_) (fun c6 => ?_)
      · have h := h.1 c6
        refine r_aload_n (pc' := 69) (kX5_readProduct_0 34 rfl) rfl rfl ?_
        have g7 := h.1
        have h := h.2
        refine s_getc (x := (φ5 5 3 185)) (pc' := 72) (kX5_readProduct_0 35 rfl) rfl fkX5_32 rfl rfl (kz185 Ln) rfl g7.2.2 ?_
        refine r_iload_n (pc' := 73) (kX5_readProduct_0 36 rfl) rfl rfl ?_
        refine s_callV (As := [(0, (φ2 8 4 186))]) (o := (φ5 5 3 185)) (S := []) (S2 := fun z => []) (pc' := 76) (kX5_readProduct_0 37 rfl) rfl rfl nkX6_put mlX5_208 imX6_put rfl slX6_put rfl (Nat.le_of_ble_eq_true rfl) (Nat.le_of_ble_eq_true rfl) (g7.1 Ln) h (fun z => rfl) (fun r8 φ8 α8 h => ?_)
        have g9 := h.1
        have h := h.2
        refine r_iinc (L' := [(2, 185), (0, x1), (0, (x2 + 1)), (0, (φ2 8 4 186))]) (pc' := 79) (kX5_readProduct_0 38 rfl) rfl (Nat.le_of_ble_eq_true rfl) rfl g9 rfl ?_
        refine r_goto (pc' := 12) (kX5_readProduct_0 39 rfl) rfl ?_
        exact r_weak (L' := [(2, 185), (0, x1), (0, (x2 + 1)), (9, 0)]) ⟨Or.inl rfl, Or.inl rfl, Or.inl rfl, Or.inr (by decide), trivial⟩ (h Ln)
      · have h := h.2 c6
        refine r_iconst 0 (pc' := 67) (kX5_readProduct_0 32 rfl) rfl (by unfold inR; omega) ?_
        exact s_zret (kX5_readProduct_0 33 rfl) rfl (Or.inl rfl) h
    · have h := h.2 c3
      refine r_aload_n (pc' := 32) (kX5_readProduct_0 16 rfl) rfl rfl ?_
      refine s_getr (v := 186) (pc' := 35) (kX5_readProduct_0 17 rfl) rfl fkX5_20 rfl rfl (kz185 Ln) rfl (by decide) ?_
      refine r_bipush 47 (pc' := 37) (kX5_readProduct_0 18 rfl) rfl ⟨by unfold inR; omega, rfl⟩ ?_
      refine s_callV (As := [(0, 47)]) (o := 186) (S := []) (S2 := fun z => [(0, z)]) (pc' := 40) (kX5_readProduct_0 19 rfl) rfl rfl nkX8_isSign mlX5_89 imX8_isSign rfl slX8_isSign rfl (Nat.le_of_ble_eq_true rfl) (Nat.le_of_ble_eq_true rfl) (kz186 Ln) h (fun z => rfl) (fun r10 φ10 α10 h => ?_)
      refine r_if_eq (t := 82) (pc' := 43) (kX5_readProduct_0 20 rfl) rfl rfl (fun c11 => ?_) (fun c11 => ?_)
      · have h := h.1 c11
        refine r_iconst 1 (pc' := 83) (kX5_readProduct_0 40 rfl) rfl (by unfold inR; omega) ?_
        exact s_zret (kX5_readProduct_0 41 rfl) rfl (Or.inr rfl) h
      · have h := h.2 c11
        refine r_aload_n (pc' := 44) (kX5_readProduct_0 21 rfl) rfl rfl ?_
        refine s_getr (v := 186) (pc' := 47) (kX5_readProduct_0 22 rfl) rfl fkX5_20 rfl rfl (kz185 Ln) rfl (by decide) ?_
        refine s_get (x := (φ10 8 4 186)) (pc' := 50) (kX5_readProduct_0 23 rfl) rfl fkX5_192 rfl rfl rfl (kz186 Ln) rfl ?_
        refine r_istore_n (L' := [(2, 185), (0, x1), (0, x2), (0, (φ10 8 4 186))]) (pc' := 51) (kX5_readProduct_0 24 rfl) rfl (Nat.le_of_ble_eq_true rfl) rfl ?_
        refine r_aload_n (pc' := 52) (kX5_readProduct_0 25 rfl) rfl rfl ?_
        refine s_getr (v := 186) (pc' := 55) (kX5_readProduct_0 26 rfl) rfl fkX5_20 rfl rfl (kz185 Ln) rfl (by decide) ?_
        refine s_callV (As := []) (o := 186) (S := []) (S2 := fun z => []) (pc' := 58) (kX5_readProduct_0 27 rfl) rfl rfl nkX8_scan mlX5_61 imX8_scan rfl slX8_scan rfl (Nat.le_of_ble_eq_true rfl) (Nat.le_of_ble_eq_true rfl) (kz186 Ln) h (fun z => rfl) (fun r12 φ12 α12 h => ?_)
        refine r_aload_n (pc' := 59) (kX5_readProduct_0 28 rfl) rfl rfl ?_
        refine r_iload_n (pc' := 60) (kX5_readProduct_0 29 rfl) rfl rfl ?_
        refine s_callV (As := [(0, x1)]) (o := 185) (S := []) (S2 := fun z => [(0, z)]) (pc' := 63) (kX5_readProduct_0 30 rfl) rfl rfl nkX5_readPart mlX5_221 imX5_readPart rfl slX5_readPart rfl (Nat.le_of_ble_eq_true rfl) (Nat.le_of_ble_eq_true rfl) (kz185 Ln) h (fun z => rfl) (fun r13 φ13 α13 h => ?_)
        refine r_if_ne (t := 68) (pc' := 66) (kX5_readProduct_0 31 rfl) rfl rfl (fun c14 => ?_) (fun c14 => ?_)
        · have h := h.1 c14
          refine r_aload_n (pc' := 69) (kX5_readProduct_0 34 rfl) rfl rfl ?_
          have g15 := h.1
          have h := h.2
          refine s_getc (x := (φ13 5 3 185)) (pc' := 72) (kX5_readProduct_0 35 rfl) rfl fkX5_32 rfl rfl (kz185 Ln) rfl g15.2.2 ?_
          refine r_iload_n (pc' := 73) (kX5_readProduct_0 36 rfl) rfl rfl ?_
          refine s_callV (As := [(0, (φ10 8 4 186))]) (o := (φ13 5 3 185)) (S := []) (S2 := fun z => []) (pc' := 76) (kX5_readProduct_0 37 rfl) rfl rfl nkX6_put mlX5_208 imX6_put rfl slX6_put rfl (Nat.le_of_ble_eq_true rfl) (Nat.le_of_ble_eq_true rfl) (g15.1 Ln) h (fun z => rfl) (fun r16 φ16 α16 h => ?_)
          have g17 := h.1
          have h := h.2
          refine r_iinc (L' := [(2, 185), (0, x1), (0, (x2 + 1)), (0, (φ10 8 4 186))]) (pc' := 79) (kX5_readProduct_0 38 rfl) rfl (Nat.le_of_ble_eq_true rfl) rfl g17 rfl ?_
          refine r_goto (pc' := 12) (kX5_readProduct_0 39 rfl) rfl ?_
          exact r_weak (L' := [(2, 185), (0, x1), (0, (x2 + 1)), (9, 0)]) ⟨Or.inl rfl, Or.inl rfl, Or.inl rfl, Or.inr (by decide), trivial⟩ (h Ln)
        · have h := h.2 c14
          refine r_iconst 0 (pc' := 67) (kX5_readProduct_0 32 rfl) rfl (by unfold inR; omega) ?_
          exact s_zret (kX5_readProduct_0 33 rfl) rfl (Or.inl rfl) h
theorem vX5_readPart_0 {d : Nat} {φ : aF} {α : aA} {Q : Int → aF → aA → Prop} {x1 : Int} (h : ((¬ (φ 8 2 186) = 2 →
   (eX8_isSign d 40 φ α (fun r2 φ2 α2 =>
     ((r2 = 0 →
     (((φ2 8 2 186) = 1 →
       (((φ2 8 3 186) = 22 →
         (eX5_readPair d (φ2 8 3 186) x1 φ2 α2 (fun r6 φ6 α6 =>
           (r6 = 0 ∨ r6 = 1) ∧ (Q r6 φ6 α6)))) ∧
         (¬ ((φ2 8 3 186) = 22) →
         ((¬ (φ2 8 3 186) = 23 →
           ((¬ (φ2 5 4 185) = 26 →
             (eX5_isSpoken d (φ2 8 3 186) φ2 α2 (fun r10 φ10 α10 =>
               ((¬ r10 = 0 →
               isRow (φ10 5 3 185) 1600 ∧ (eX6_put d (φ10 5 3 185) (φ2 8 3 186) φ10 α10 (fun r13 φ13 α13 =>
                 (eX8_scan d  φ13 α13 (fun r14 φ14 α14 =>
                 (Q 1 φ14 α14)))))) ∧
               (r10 = 0 →
               (eX5_unfit d  φ10 α10 (fun r15 φ15 α15 =>
                 (r15 = 0 ∨ r15 = 1) ∧ (Q r15 φ15 α15)))))))) ∧
             ((φ2 5 4 185) = 26 →
             (((φ2 8 3 186) = 13 →
               (eX5_readOfPart d 30 x1 φ2 α2 (fun r18 φ18 α18 =>
                 (r18 = 0 ∨ r18 = 1) ∧ (Q r18 φ18 α18)))) ∧
               (¬ ((φ2 8 3 186) = 13) →
               ((¬ (φ2 8 3 186) = 15 →
                 (eX5_isSpoken d (φ2 8 3 186) φ2 α2 (fun r21 φ21 α21 =>
                   ((¬ r21 = 0 →
                   isRow (φ21 5 3 185) 1600 ∧ (eX6_put d (φ21 5 3 185) (φ2 8 3 186) φ21 α21 (fun r24 φ24 α24 =>
                     (eX8_scan d  φ24 α24 (fun r25 φ25 α25 =>
                     (Q 1 φ25 α25)))))) ∧
                   (r21 = 0 →
                   (eX5_unfit d  φ21 α21 (fun r26 φ26 α26 =>
                     (r26 = 0 ∨ r26 = 1) ∧ (Q r26 φ26 α26)))))))) ∧
                 ((φ2 8 3 186) = 15 →
                 ((¬ (φ2 8 3 186) = 13 →
                   (eX5_readOfPart d 31 x1 φ2 α2 (fun r29 φ29 α29 =>
                     (r29 = 0 ∨ r29 = 1) ∧ (Q r29 φ29 α29)))) ∧
                   ((φ2 8 3 186) = 13 →
                   (eX5_readOfPart d 30 x1 φ2 α2 (fun r31 φ31 α31 =>
                     (r31 = 0 ∨ r31 = 1) ∧ (Q r31 φ31 α31)))))))))))) ∧
           ((φ2 8 3 186) = 23 →
           (eX5_readPair d (φ2 8 3 186) x1 φ2 α2 (fun r33 φ33 α33 =>
             (r33 = 0 ∨ r33 = 1) ∧ (Q r33 φ33 α33)))))))) ∧
       (¬ ((φ2 8 2 186) = 1) →
       (eX5_unfit d  φ2 α2 (fun r35 φ35 α35 =>
         (r35 = 0 ∨ r35 = 1) ∧ (Q r35 φ35 α35)))))) ∧
     (¬ (r2 = 0) →
     (eX5_takeOpening d x1 φ2 α2 (fun r37 φ37 α37 =>
       ((r37 = 0 →
       (Q 0 φ37 α37)) ∧
       (¬ (r37 = 0) →
       inR (x1 + 1) ∧ (eX5_readSum d (x1 + 1) φ37 α37 (fun r40 φ40 α40 =>
         ((r40 = 0 →
         (Q 0 φ40 α40)) ∧
         (¬ (r40 = 0) →
         (eX5_takeSign d 41 φ40 α40 (fun r42 φ42 α42 =>
           ((r42 = 0 →
           (Q 0 φ42 α42)) ∧
           (¬ (r42 = 0) →
           (Q 1 φ42 α42)))))))))))))))))) ∧
   ((φ 8 2 186) = 2 →
   (eX5_readLiteral d  φ α (fun r44 φ44 α44 =>
     (r44 = 0 ∨ r44 = 1) ∧ (Q r44 φ44 α44)))))) : eX5_readPart (d + 1) x1 φ α Q := by
  intro Ln
  refine r_aload_n (pc' := 1) (kX5_readPart_0 0 rfl) rfl rfl ?_
  refine s_getr (v := 186) (pc' := 4) (kX5_readPart_0 1 rfl) rfl fkX5_20 rfl rfl (kz185 Ln) rfl (by decide) ?_
  refine s_get (x := (φ 8 2 186)) (pc' := 7) (kX5_readPart_0 2 rfl) rfl fkX5_41 rfl rfl rfl (kz186 Ln) rfl ?_
  refine r_iconst 2 (pc' := 8) (kX5_readPart_0 3 rfl) rfl (by unfold inR; omega) ?_
  refine r_icmp_ne (t := 16) (pc' := 11) (kX5_readPart_0 4 rfl) rfl rfl (fun c1 => ?_) (fun c1 => ?_)
  · have h := h.1 c1
    refine r_aload_n (pc' := 17) (kX5_readPart_0 8 rfl) rfl rfl ?_
    refine s_getr (v := 186) (pc' := 20) (kX5_readPart_0 9 rfl) rfl fkX5_20 rfl rfl (kz185 Ln) rfl (by decide) ?_
    refine r_bipush 40 (pc' := 22) (kX5_readPart_0 10 rfl) rfl ⟨by unfold inR; omega, rfl⟩ ?_
    refine s_callV (As := [(0, 40)]) (o := 186) (S := []) (S2 := fun z => [(0, z)]) (pc' := 25) (kX5_readPart_0 11 rfl) rfl rfl nkX8_isSign mlX5_89 imX8_isSign rfl slX8_isSign rfl (Nat.le_of_ble_eq_true rfl) (Nat.le_of_ble_eq_true rfl) (kz186 Ln) h (fun z => rfl) (fun r2 φ2 α2 h => ?_)
    refine r_if_eq (t := 61) (pc' := 28) (kX5_readPart_0 12 rfl) rfl rfl (fun c3 => ?_) (fun c3 => ?_)
    · have h := h.1 c3
      refine r_aload_n (pc' := 62) (kX5_readPart_0 31 rfl) rfl rfl ?_
      refine s_getr (v := 186) (pc' := 65) (kX5_readPart_0 32 rfl) rfl fkX5_20 rfl rfl (kz185 Ln) rfl (by decide) ?_
      refine s_get (x := (φ2 8 2 186)) (pc' := 68) (kX5_readPart_0 33 rfl) rfl fkX5_41 rfl rfl rfl (kz186 Ln) rfl ?_
      refine r_iconst 1 (pc' := 69) (kX5_readPart_0 34 rfl) rfl (by unfold inR; omega) ?_
      refine r_icmp_eq (t := 77) (pc' := 72) (kX5_readPart_0 35 rfl) rfl rfl (fun c4 => ?_) (fun c4 => ?_)
      · have h := h.1 c4
        refine r_aload_n (pc' := 78) (kX5_readPart_0 39 rfl) rfl rfl ?_
        refine s_getr (v := 186) (pc' := 81) (kX5_readPart_0 40 rfl) rfl fkX5_20 rfl rfl (kz185 Ln) rfl (by decide) ?_
        refine s_get (x := (φ2 8 3 186)) (pc' := 84) (kX5_readPart_0 41 rfl) rfl fkX5_54 rfl rfl rfl (kz186 Ln) rfl ?_
        refine r_istore_n (L' := [(2, 185), (0, x1), (0, (φ2 8 3 186))]) (pc' := 85) (kX5_readPart_0 42 rfl) rfl (Nat.le_of_ble_eq_true rfl) rfl ?_
        refine r_iload_n (pc' := 86) (kX5_readPart_0 43 rfl) rfl rfl ?_
        refine r_bipush 22 (pc' := 88) (kX5_readPart_0 44 rfl) rfl ⟨by unfold inR; omega, rfl⟩ ?_
        refine r_icmp_eq (t := 97) (pc' := 91) (kX5_readPart_0 45 rfl) rfl rfl (fun c5 => ?_) (fun c5 => ?_)
        · have h := h.1 c5
          refine r_aload_n (pc' := 98) (kX5_readPart_0 49 rfl) rfl rfl ?_
          refine r_iload_n (pc' := 99) (kX5_readPart_0 50 rfl) rfl rfl ?_
          refine r_iload_n (pc' := 100) (kX5_readPart_0 51 rfl) rfl rfl ?_
          refine s_callV (As := [(0, (φ2 8 3 186)), (0, x1)]) (o := 185) (S := []) (S2 := fun z => [(0, z)]) (pc' := 103) (kX5_readPart_0 52 rfl) rfl rfl nkX5_readPair mlX5_227 imX5_readPair rfl slX5_readPair rfl (Nat.le_of_ble_eq_true rfl) (Nat.le_of_ble_eq_true rfl) (kz185 Ln) h (fun z => rfl) (fun r6 φ6 α6 h => ?_)
          have g7 := h.1
          have h := h.2
          exact s_zret (kX5_readPart_0 53 rfl) rfl g7 h
        · have h := h.2 c5
          refine r_iload_n (pc' := 92) (kX5_readPart_0 46 rfl) rfl rfl ?_
          refine r_bipush 23 (pc' := 94) (kX5_readPart_0 47 rfl) rfl ⟨by unfold inR; omega, rfl⟩ ?_
          refine r_icmp_ne (t := 104) (pc' := 97) (kX5_readPart_0 48 rfl) rfl rfl (fun c8 => ?_) (fun c8 => ?_)
          · have h := h.1 c8
            refine r_aload_n (pc' := 105) (kX5_readPart_0 54 rfl) rfl rfl ?_
            refine s_get (x := (φ2 5 4 185)) (pc' := 108) (kX5_readPart_0 55 rfl) rfl fkX5_83 rfl rfl rfl (kz185 Ln) rfl ?_
            refine r_bipush 26 (pc' := 110) (kX5_readPart_0 56 rfl) rfl ⟨by unfold inR; omega, rfl⟩ ?_
            refine r_icmp_ne (t := 144) (pc' := 113) (kX5_readPart_0 57 rfl) rfl rfl (fun c9 => ?_) (fun c9 => ?_)
            · have h := h.1 c9
              refine r_aload_n (pc' := 145) (kX5_readPart_1 14 rfl) rfl rfl ?_
              refine r_iload_n (pc' := 146) (kX5_readPart_1 15 rfl) rfl rfl ?_
              refine s_callV (As := [(0, (φ2 8 3 186))]) (o := 185) (S := []) (S2 := fun z => [(0, z)]) (pc' := 149) (kX5_readPart_1 16 rfl) rfl rfl nkX5_isSpoken mlX5_233 imX5_isSpoken rfl slX5_isSpoken rfl (Nat.le_of_ble_eq_true rfl) (Nat.le_of_ble_eq_true rfl) (kz185 Ln) h (fun z => rfl) (fun r10 φ10 α10 h => ?_)
              refine r_if_ne (t := 157) (pc' := 152) (kX5_readPart_1 17 rfl) rfl rfl (fun c11 => ?_) (fun c11 => ?_)
              · have h := h.1 c11
                refine r_aload_n (pc' := 158) (kX5_readPart_1 21 rfl) rfl rfl ?_
                have g12 := h.1
                have h := h.2
                refine s_getc (x := (φ10 5 3 185)) (pc' := 161) (kX5_readPart_1 22 rfl) rfl fkX5_32 rfl rfl (kz185 Ln) rfl g12.2.2 ?_
                refine r_iload_n (pc' := 162) (kX5_readPart_1 23 rfl) rfl rfl ?_
                refine s_callV (As := [(0, (φ2 8 3 186))]) (o := (φ10 5 3 185)) (S := []) (S2 := fun z => []) (pc' := 165) (kX5_readPart_1 24 rfl) rfl rfl nkX6_put mlX5_208 imX6_put rfl slX6_put rfl (Nat.le_of_ble_eq_true rfl) (Nat.le_of_ble_eq_true rfl) (g12.1 Ln) h (fun z => rfl) (fun r13 φ13 α13 h => ?_)
                refine r_aload_n (pc' := 166) (kX5_readPart_1 25 rfl) rfl rfl ?_
                refine s_getr (v := 186) (pc' := 169) (kX5_readPart_1 26 rfl) rfl fkX5_20 rfl rfl (kz185 Ln) rfl (by decide) ?_
                refine s_callV (As := []) (o := 186) (S := []) (S2 := fun z => []) (pc' := 172) (kX5_readPart_1 27 rfl) rfl rfl nkX8_scan mlX5_61 imX8_scan rfl slX8_scan rfl (Nat.le_of_ble_eq_true rfl) (Nat.le_of_ble_eq_true rfl) (kz186 Ln) h (fun z => rfl) (fun r14 φ14 α14 h => ?_)
                refine r_iconst 1 (pc' := 173) (kX5_readPart_1 28 rfl) rfl (by unfold inR; omega) ?_
                exact s_zret (kX5_readPart_1 29 rfl) rfl (Or.inr rfl) h
              · have h := h.2 c11
                refine r_aload_n (pc' := 153) (kX5_readPart_1 18 rfl) rfl rfl ?_
                refine s_callV (As := []) (o := 185) (S := []) (S2 := fun z => [(0, z)]) (pc' := 156) (kX5_readPart_1 19 rfl) rfl rfl nkX5_unfit mlX5_57 imX5_unfit rfl slX5_unfit rfl (Nat.le_of_ble_eq_true rfl) (Nat.le_of_ble_eq_true rfl) (kz185 Ln) h (fun z => rfl) (fun r15 φ15 α15 h => ?_)
                have g16 := h.1
                have h := h.2
                exact s_zret (kX5_readPart_1 20 rfl) rfl g16 h
            · have h := h.2 c9
              refine r_iload_n (pc' := 114) (kX5_readPart_0 58 rfl) rfl rfl ?_
              refine r_bipush 13 (pc' := 116) (kX5_readPart_0 59 rfl) rfl ⟨by unfold inR; omega, rfl⟩ ?_
              refine r_icmp_eq (t := 125) (pc' := 119) (kX5_readPart_1 0 rfl) rfl rfl (fun c17 => ?_) (fun c17 => ?_)
              · have h := h.1 c17
                refine r_aload_n (pc' := 126) (kX5_readPart_1 4 rfl) rfl rfl ?_
                refine r_iload_n (pc' := 127) (kX5_readPart_1 5 rfl) rfl rfl ?_
                refine r_bipush 13 (pc' := 129) (kX5_readPart_1 6 rfl) rfl ⟨by unfold inR; omega, rfl⟩ ?_
                refine r_icmp_ne (t := 137) (pc' := 132) (kX5_readPart_1 7 rfl) rfl rfl (fun cz => absurd c17 cz) (fun _ => ?_)
                refine r_bipush 30 (pc' := 134) (kX5_readPart_1 8 rfl) rfl ⟨by unfold inR; omega, rfl⟩ ?_
                refine r_goto (pc' := 139) (kX5_readPart_1 9 rfl) rfl ?_
                refine r_iload_n (pc' := 140) (kX5_readPart_1 11 rfl) rfl rfl ?_
                refine s_callV (As := [(0, 30), (0, x1)]) (o := 185) (S := []) (S2 := fun z => [(0, z)]) (pc' := 143) (kX5_readPart_1 12 rfl) rfl rfl nkX5_readOfPart mlX5_230 imX5_readOfPart rfl slX5_readOfPart rfl (Nat.le_of_ble_eq_true rfl) (Nat.le_of_ble_eq_true rfl) (kz185 Ln) h (fun z => rfl) (fun r18 φ18 α18 h => ?_)
                have g19 := h.1
                have h := h.2
                exact s_zret (kX5_readPart_1 13 rfl) rfl g19 h
              · have h := h.2 c17
                refine r_iload_n (pc' := 120) (kX5_readPart_1 1 rfl) rfl rfl ?_
                refine r_bipush 15 (pc' := 122) (kX5_readPart_1 2 rfl) rfl ⟨by unfold inR; omega, rfl⟩ ?_
                refine r_icmp_ne (t := 144) (pc' := 125) (kX5_readPart_1 3 rfl) rfl rfl (fun c20 => ?_) (fun c20 => ?_)
                · have h := h.1 c20
                  refine r_aload_n (pc' := 145) (kX5_readPart_1 14 rfl) rfl rfl ?_
                  refine r_iload_n (pc' := 146) (kX5_readPart_1 15 rfl) rfl rfl ?_
                  refine s_callV (As := [(0, (φ2 8 3 186))]) (o := 185) (S := []) (S2 := fun z => [(0, z)]) (pc' := 149) (kX5_readPart_1 16 rfl) rfl rfl nkX5_isSpoken mlX5_233 imX5_isSpoken rfl slX5_isSpoken rfl (Nat.le_of_ble_eq_true rfl) (Nat.le_of_ble_eq_true rfl) (kz185 Ln) h (fun z => rfl) (fun r21 φ21 α21 h => ?_)
                  refine r_if_ne (t := 157) (pc' := 152) (kX5_readPart_1 17 rfl) rfl rfl (fun c22 => ?_) (fun c22 => ?_)
                  · have h := h.1 c22
                    refine r_aload_n (pc' := 158) (kX5_readPart_1 21 rfl) rfl rfl ?_
                    have g23 := h.1
                    have h := h.2
                    refine s_getc (x := (φ21 5 3 185)) (pc' := 161) (kX5_readPart_1 22 rfl) rfl fkX5_32 rfl rfl (kz185 Ln) rfl g23.2.2 ?_
                    refine r_iload_n (pc' := 162) (kX5_readPart_1 23 rfl) rfl rfl ?_
                    refine s_callV (As := [(0, (φ2 8 3 186))]) (o := (φ21 5 3 185)) (S := []) (S2 := fun z => []) (pc' := 165) (kX5_readPart_1 24 rfl) rfl rfl nkX6_put mlX5_208 imX6_put rfl slX6_put rfl (Nat.le_of_ble_eq_true rfl) (Nat.le_of_ble_eq_true rfl) (g23.1 Ln) h (fun z => rfl) (fun r24 φ24 α24 h => ?_)
                    refine r_aload_n (pc' := 166) (kX5_readPart_1 25 rfl) rfl rfl ?_
                    refine s_getr (v := 186) (pc' := 169) (kX5_readPart_1 26 rfl) rfl fkX5_20 rfl rfl (kz185 Ln) rfl (by decide) ?_
                    refine s_callV (As := []) (o := 186) (S := []) (S2 := fun z => []) (pc' := 172) (kX5_readPart_1 27 rfl) rfl rfl nkX8_scan mlX5_61 imX8_scan rfl slX8_scan rfl (Nat.le_of_ble_eq_true rfl) (Nat.le_of_ble_eq_true rfl) (kz186 Ln) h (fun z => rfl) (fun r25 φ25 α25 h => ?_)
                    refine r_iconst 1 (pc' := 173) (kX5_readPart_1 28 rfl) rfl (by unfold inR; omega) ?_
                    exact s_zret (kX5_readPart_1 29 rfl) rfl (Or.inr rfl) h
                  · have h := h.2 c22
                    refine r_aload_n (pc' := 153) (kX5_readPart_1 18 rfl) rfl rfl ?_
                    refine s_callV (As := []) (o := 185) (S := []) (S2 := fun z => [(0, z)]) (pc' := 156) (kX5_readPart_1 19 rfl) rfl rfl nkX5_unfit mlX5_57 imX5_unfit rfl slX5_unfit rfl (Nat.le_of_ble_eq_true rfl) (Nat.le_of_ble_eq_true rfl) (kz185 Ln) h (fun z => rfl) (fun r26 φ26 α26 h => ?_)
                    have g27 := h.1
                    have h := h.2
                    exact s_zret (kX5_readPart_1 20 rfl) rfl g27 h
                · have h := h.2 c20
                  refine r_aload_n (pc' := 126) (kX5_readPart_1 4 rfl) rfl rfl ?_
                  refine r_iload_n (pc' := 127) (kX5_readPart_1 5 rfl) rfl rfl ?_
                  refine r_bipush 13 (pc' := 129) (kX5_readPart_1 6 rfl) rfl ⟨by unfold inR; omega, rfl⟩ ?_
                  refine r_icmp_ne (t := 137) (pc' := 132) (kX5_readPart_1 7 rfl) rfl rfl (fun c28 => ?_) (fun c28 => ?_)
                  · have h := h.1 c28
                    refine r_bipush 31 (pc' := 139) (kX5_readPart_1 10 rfl) rfl ⟨by unfold inR; omega, rfl⟩ ?_
                    refine r_iload_n (pc' := 140) (kX5_readPart_1 11 rfl) rfl rfl ?_
                    refine s_callV (As := [(0, 31), (0, x1)]) (o := 185) (S := []) (S2 := fun z => [(0, z)]) (pc' := 143) (kX5_readPart_1 12 rfl) rfl rfl nkX5_readOfPart mlX5_230 imX5_readOfPart rfl slX5_readOfPart rfl (Nat.le_of_ble_eq_true rfl) (Nat.le_of_ble_eq_true rfl) (kz185 Ln) h (fun z => rfl) (fun r29 φ29 α29 h => ?_)
                    have g30 := h.1
                    have h := h.2
                    exact s_zret (kX5_readPart_1 13 rfl) rfl g30 h
                  · have h := h.2 c28
                    refine r_bipush 30 (pc' := 134) (kX5_readPart_1 8 rfl) rfl ⟨by unfold inR; omega, rfl⟩ ?_
                    refine r_goto (pc' := 139) (kX5_readPart_1 9 rfl) rfl ?_
                    refine r_iload_n (pc' := 140) (kX5_readPart_1 11 rfl) rfl rfl ?_
                    refine s_callV (As := [(0, 30), (0, x1)]) (o := 185) (S := []) (S2 := fun z => [(0, z)]) (pc' := 143) (kX5_readPart_1 12 rfl) rfl rfl nkX5_readOfPart mlX5_230 imX5_readOfPart rfl slX5_readOfPart rfl (Nat.le_of_ble_eq_true rfl) (Nat.le_of_ble_eq_true rfl) (kz185 Ln) h (fun z => rfl) (fun r31 φ31 α31 h => ?_)
                    have g32 := h.1
                    have h := h.2
                    exact s_zret (kX5_readPart_1 13 rfl) rfl g32 h
          · have h := h.2 c8
            refine r_aload_n (pc' := 98) (kX5_readPart_0 49 rfl) rfl rfl ?_
            refine r_iload_n (pc' := 99) (kX5_readPart_0 50 rfl) rfl rfl ?_
            refine r_iload_n (pc' := 100) (kX5_readPart_0 51 rfl) rfl rfl ?_
            refine s_callV (As := [(0, (φ2 8 3 186)), (0, x1)]) (o := 185) (S := []) (S2 := fun z => [(0, z)]) (pc' := 103) (kX5_readPart_0 52 rfl) rfl rfl nkX5_readPair mlX5_227 imX5_readPair rfl slX5_readPair rfl (Nat.le_of_ble_eq_true rfl) (Nat.le_of_ble_eq_true rfl) (kz185 Ln) h (fun z => rfl) (fun r33 φ33 α33 h => ?_)
            have g34 := h.1
            have h := h.2
            exact s_zret (kX5_readPart_0 53 rfl) rfl g34 h
      · have h := h.2 c4
        refine r_aload_n (pc' := 73) (kX5_readPart_0 36 rfl) rfl rfl ?_
        refine s_callV (As := []) (o := 185) (S := []) (S2 := fun z => [(0, z)]) (pc' := 76) (kX5_readPart_0 37 rfl) rfl rfl nkX5_unfit mlX5_57 imX5_unfit rfl slX5_unfit rfl (Nat.le_of_ble_eq_true rfl) (Nat.le_of_ble_eq_true rfl) (kz185 Ln) h (fun z => rfl) (fun r35 φ35 α35 h => ?_)
        have g36 := h.1
        have h := h.2
        exact s_zret (kX5_readPart_0 38 rfl) rfl g36 h
    · have h := h.2 c3
      refine r_aload_n (pc' := 29) (kX5_readPart_0 13 rfl) rfl rfl ?_
      refine r_iload_n (pc' := 30) (kX5_readPart_0 14 rfl) rfl rfl ?_
      refine s_callV (As := [(0, x1)]) (o := 185) (S := []) (S2 := fun z => [(0, z)]) (pc' := 33) (kX5_readPart_0 15 rfl) rfl rfl nkX5_takeOpening mlX5_215 imX5_takeOpening rfl slX5_takeOpening rfl (Nat.le_of_ble_eq_true rfl) (Nat.le_of_ble_eq_true rfl) (kz185 Ln) h (fun z => rfl) (fun r37 φ37 α37 h => ?_)
      refine r_if_eq (t := 59) (pc' := 36) (kX5_readPart_0 16 rfl) rfl rfl (fun c38 => ?_) (fun c38 => ?_)
      · have h := h.1 c38
        refine r_iconst 0 (pc' := 60) (kX5_readPart_0 29 rfl) rfl (by unfold inR; omega) ?_
        exact s_zret (kX5_readPart_0 30 rfl) rfl (Or.inl rfl) h
      · have h := h.2 c38
        refine r_aload_n (pc' := 37) (kX5_readPart_0 17 rfl) rfl rfl ?_
        refine r_iload_n (pc' := 38) (kX5_readPart_0 18 rfl) rfl rfl ?_
        refine r_iconst 1 (pc' := 39) (kX5_readPart_0 19 rfl) rfl (by unfold inR; omega) ?_
        have g39 := h.1
        have h := h.2
        refine r_iadd (pc' := 40) (kX5_readPart_0 20 rfl) rfl g39 ?_
        refine s_callV (As := [(0, (x1 + 1))]) (o := 185) (S := []) (S2 := fun z => [(0, z)]) (pc' := 43) (kX5_readPart_0 21 rfl) rfl rfl nkX5_readSum mlX5_71 imX5_readSum rfl slX5_readSum rfl (Nat.le_of_ble_eq_true rfl) (Nat.le_of_ble_eq_true rfl) (kz185 Ln) h (fun z => rfl) (fun r40 φ40 α40 h => ?_)
        refine r_if_eq (t := 59) (pc' := 46) (kX5_readPart_0 22 rfl) rfl rfl (fun c41 => ?_) (fun c41 => ?_)
        · have h := h.1 c41
          refine r_iconst 0 (pc' := 60) (kX5_readPart_0 29 rfl) rfl (by unfold inR; omega) ?_
          exact s_zret (kX5_readPart_0 30 rfl) rfl (Or.inl rfl) h
        · have h := h.2 c41
          refine r_aload_n (pc' := 47) (kX5_readPart_0 23 rfl) rfl rfl ?_
          refine r_bipush 41 (pc' := 49) (kX5_readPart_0 24 rfl) rfl ⟨by unfold inR; omega, rfl⟩ ?_
          refine s_callV (As := [(0, 41)]) (o := 185) (S := []) (S2 := fun z => [(0, z)]) (pc' := 52) (kX5_readPart_0 25 rfl) rfl rfl nkX5_takeSign mlX5_51 imX5_takeSign rfl slX5_takeSign rfl (Nat.le_of_ble_eq_true rfl) (Nat.le_of_ble_eq_true rfl) (kz185 Ln) h (fun z => rfl) (fun r42 φ42 α42 h => ?_)
          refine r_if_eq (t := 59) (pc' := 55) (kX5_readPart_0 26 rfl) rfl rfl (fun c43 => ?_) (fun c43 => ?_)
          · have h := h.1 c43
            refine r_iconst 0 (pc' := 60) (kX5_readPart_0 29 rfl) rfl (by unfold inR; omega) ?_
            exact s_zret (kX5_readPart_0 30 rfl) rfl (Or.inl rfl) h
          · have h := h.2 c43
            refine r_iconst 1 (pc' := 56) (kX5_readPart_0 27 rfl) rfl (by unfold inR; omega) ?_
            refine r_goto (pc' := 60) (kX5_readPart_0 28 rfl) rfl ?_
            exact s_zret (kX5_readPart_0 30 rfl) rfl (Or.inr rfl) h
  · have h := h.2 c1
    refine r_aload_n (pc' := 12) (kX5_readPart_0 5 rfl) rfl rfl ?_
    refine s_callV (As := []) (o := 185) (S := []) (S2 := fun z => [(0, z)]) (pc' := 15) (kX5_readPart_0 6 rfl) rfl rfl nkX5_readLiteral mlX5_224 imX5_readLiteral rfl slX5_readLiteral rfl (Nat.le_of_ble_eq_true rfl) (Nat.le_of_ble_eq_true rfl) (kz185 Ln) h (fun z => rfl) (fun r44 φ44 α44 h => ?_)
    have g45 := h.1
    have h := h.2
    exact s_zret (kX5_readPart_0 7 rfl) rfl g45 h
theorem vX5_readLiteral_0 {d : Nat} {φ : aF} {α : aA} {Q : Int → aF → aA → Prop} (h : (eX5_isNumber d  φ α (fun r1 φ1 α1 =>
   ((¬ r1 = 0 →
   isRow (φ1 5 3 185) 1600 ∧ inR (1000 + (φ1 8 4 186)) ∧ (eX6_put d (φ1 5 3 185) (1000 + (φ1 8 4 186)) φ1 α1 (fun r5 φ5 α5 =>
     (eX8_scan d  φ5 α5 (fun r6 φ6 α6 =>
     (Q 1 φ6 α6)))))) ∧
   (r1 = 0 →
   (Q 0 φ1 α1)))))) : eX5_readLiteral (d + 1)  φ α Q := by
  intro Ln
  refine r_aload_n (pc' := 1) (kX5_readLiteral_0 0 rfl) rfl rfl ?_
  refine s_callV (As := []) (o := 185) (S := []) (S2 := fun z => [(0, z)]) (pc' := 4) (kX5_readLiteral_0 1 rfl) rfl rfl nkX5_isNumber mlX5_189 imX5_isNumber rfl slX5_isNumber rfl (Nat.le_of_ble_eq_true rfl) (Nat.le_of_ble_eq_true rfl) (kz185 Ln) h (fun z => rfl) (fun r1 φ1 α1 h => ?_)
  refine r_if_ne (t := 9) (pc' := 7) (kX5_readLiteral_0 2 rfl) rfl rfl (fun c2 => ?_) (fun c2 => ?_)
  · have h := h.1 c2
    refine r_aload_n (pc' := 10) (kX5_readLiteral_0 5 rfl) rfl rfl ?_
    have g3 := h.1
    have h := h.2
    refine s_getc (x := (φ1 5 3 185)) (pc' := 13) (kX5_readLiteral_0 6 rfl) rfl fkX5_32 rfl rfl (kz185 Ln) rfl g3.2.2 ?_
    refine r_sipush 1000 (pc' := 16) (kX5_readLiteral_0 7 rfl) rfl ⟨by unfold inR; omega, rfl⟩ ?_
    refine r_aload_n (pc' := 17) (kX5_readLiteral_0 8 rfl) rfl rfl ?_
    refine s_getr (v := 186) (pc' := 20) (kX5_readLiteral_0 9 rfl) rfl fkX5_20 rfl rfl (kz185 Ln) rfl (by decide) ?_
    refine s_get (x := (φ1 8 4 186)) (pc' := 23) (kX5_readLiteral_0 10 rfl) rfl fkX5_192 rfl rfl rfl (kz186 Ln) rfl ?_
    have g4 := h.1
    have h := h.2
    refine r_iadd (pc' := 24) (kX5_readLiteral_0 11 rfl) rfl g4 ?_
    refine s_callV (As := [(0, (1000 + (φ1 8 4 186)))]) (o := (φ1 5 3 185)) (S := []) (S2 := fun z => []) (pc' := 27) (kX5_readLiteral_0 12 rfl) rfl rfl nkX6_put mlX5_208 imX6_put rfl slX6_put rfl (Nat.le_of_ble_eq_true rfl) (Nat.le_of_ble_eq_true rfl) (g3.1 Ln) h (fun z => rfl) (fun r5 φ5 α5 h => ?_)
    refine r_aload_n (pc' := 28) (kX5_readLiteral_0 13 rfl) rfl rfl ?_
    refine s_getr (v := 186) (pc' := 31) (kX5_readLiteral_0 14 rfl) rfl fkX5_20 rfl rfl (kz185 Ln) rfl (by decide) ?_
    refine s_callV (As := []) (o := 186) (S := []) (S2 := fun z => []) (pc' := 34) (kX5_readLiteral_0 15 rfl) rfl rfl nkX8_scan mlX5_61 imX8_scan rfl slX8_scan rfl (Nat.le_of_ble_eq_true rfl) (Nat.le_of_ble_eq_true rfl) (kz186 Ln) h (fun z => rfl) (fun r6 φ6 α6 h => ?_)
    refine r_iconst 1 (pc' := 35) (kX5_readLiteral_0 16 rfl) rfl (by unfold inR; omega) ?_
    exact s_zret (kX5_readLiteral_0 17 rfl) rfl (Or.inr rfl) h
  · have h := h.2 c2
    refine r_iconst 0 (pc' := 8) (kX5_readLiteral_0 3 rfl) rfl (by unfold inR; omega) ?_
    exact s_zret (kX5_readLiteral_0 4 rfl) rfl (Or.inl rfl) h
theorem vX5_readPair_0 {d : Nat} {φ : aF} {α : aA} {Q : Int → aF → aA → Prop} {x1 : Int} {x2 : Int} (h : (eX8_scan d  φ α (fun r1 φ1 α1 =>
   (eX8_isSign d 40 φ1 α1 (fun r2 φ2 α2 =>
   ((¬ r2 = 0 →
   (eX5_takeOpening d x2 φ2 α2 (fun r4 φ4 α4 =>
     ((r4 = 0 →
     (Q 0 φ4 α4)) ∧
     (¬ (r4 = 0) →
     inR (x2 + 1) ∧ (eX5_readSum d (x2 + 1) φ4 α4 (fun r7 φ7 α7 =>
       ((r7 = 0 →
       (Q 0 φ7 α7)) ∧
       (¬ (r7 = 0) →
       (eX5_takeSign d 44 φ7 α7 (fun r9 φ9 α9 =>
         ((r9 = 0 →
         (Q 0 φ9 α9)) ∧
         (¬ (r9 = 0) →
         (eX5_readSum d (x2 + 1) φ9 α9 (fun r11 φ11 α11 =>
           ((r11 = 0 →
           (Q 0 φ11 α11)) ∧
           (¬ (r11 = 0) →
           (eX5_takeSign d 41 φ11 α11 (fun r13 φ13 α13 =>
             ((r13 = 0 →
             (Q 0 φ13 α13)) ∧
             (¬ (r13 = 0) →
             isRow (φ13 5 3 185) 1600 ∧ (eX6_put d (φ13 5 3 185) x1 φ13 α13 (fun r16 φ16 α16 =>
               (Q 1 φ16 α16)))))))))))))))))))))))) ∧
   (r2 = 0 →
   (eX5_unfit d  φ2 α2 (fun r17 φ17 α17 =>
     (r17 = 0 ∨ r17 = 1) ∧ (Q r17 φ17 α17)))))))))) : eX5_readPair (d + 1) x1 x2 φ α Q := by
  intro Ln
  refine r_aload_n (pc' := 1) (kX5_readPair_0 0 rfl) rfl rfl ?_
  refine s_getr (v := 186) (pc' := 4) (kX5_readPair_0 1 rfl) rfl fkX5_20 rfl rfl (kz185 Ln) rfl (by decide) ?_
  refine s_callV (As := []) (o := 186) (S := []) (S2 := fun z => []) (pc' := 7) (kX5_readPair_0 2 rfl) rfl rfl nkX8_scan mlX5_61 imX8_scan rfl slX8_scan rfl (Nat.le_of_ble_eq_true rfl) (Nat.le_of_ble_eq_true rfl) (kz186 Ln) h (fun z => rfl) (fun r1 φ1 α1 h => ?_)
  refine r_aload_n (pc' := 8) (kX5_readPair_0 3 rfl) rfl rfl ?_
  refine s_getr (v := 186) (pc' := 11) (kX5_readPair_0 4 rfl) rfl fkX5_20 rfl rfl (kz185 Ln) rfl (by decide) ?_
  refine r_bipush 40 (pc' := 13) (kX5_readPair_0 5 rfl) rfl ⟨by unfold inR; omega, rfl⟩ ?_
  refine s_callV (As := [(0, 40)]) (o := 186) (S := []) (S2 := fun z => [(0, z)]) (pc' := 16) (kX5_readPair_0 6 rfl) rfl rfl nkX8_isSign mlX5_89 imX8_isSign rfl slX8_isSign rfl (Nat.le_of_ble_eq_true rfl) (Nat.le_of_ble_eq_true rfl) (kz186 Ln) h (fun z => rfl) (fun r2 φ2 α2 h => ?_)
  refine r_if_ne (t := 24) (pc' := 19) (kX5_readPair_0 7 rfl) rfl rfl (fun c3 => ?_) (fun c3 => ?_)
  · have h := h.1 c3
    refine r_aload_n (pc' := 25) (kX5_readPair_0 11 rfl) rfl rfl ?_
    refine r_iload_n (pc' := 26) (kX5_readPair_0 12 rfl) rfl rfl ?_
    refine s_callV (As := [(0, x2)]) (o := 185) (S := []) (S2 := fun z => [(0, z)]) (pc' := 29) (kX5_readPair_0 13 rfl) rfl rfl nkX5_takeOpening mlX5_215 imX5_takeOpening rfl slX5_takeOpening rfl (Nat.le_of_ble_eq_true rfl) (Nat.le_of_ble_eq_true rfl) (kz185 Ln) h (fun z => rfl) (fun r4 φ4 α4 h => ?_)
    refine r_if_eq (t := 74) (pc' := 32) (kX5_readPair_0 14 rfl) rfl rfl (fun c5 => ?_) (fun c5 => ?_)
    · have h := h.1 c5
      refine r_iconst 0 (pc' := 75) (kX5_readPair_0 37 rfl) rfl (by unfold inR; omega) ?_
      refine r_istore_n (L' := [(2, 185), (0, x1), (0, x2), (0, 0)]) (pc' := 76) (kX5_readPair_0 38 rfl) rfl (Nat.le_of_ble_eq_true rfl) rfl ?_
      refine r_iload_n (pc' := 77) (kX5_readPair_0 39 rfl) rfl rfl ?_
      refine r_if_eq (t := 88) (pc' := 80) (kX5_readPair_0 40 rfl) rfl rfl (fun _ => ?_) (fun cz => absurd cz (by decide))
      refine r_iload_n (pc' := 89) (kX5_readPair_0 45 rfl) rfl rfl ?_
      exact s_zret (kX5_readPair_0 46 rfl) rfl (Or.inl rfl) h
    · have h := h.2 c5
      refine r_aload_n (pc' := 33) (kX5_readPair_0 15 rfl) rfl rfl ?_
      refine r_iload_n (pc' := 34) (kX5_readPair_0 16 rfl) rfl rfl ?_
      refine r_iconst 1 (pc' := 35) (kX5_readPair_0 17 rfl) rfl (by unfold inR; omega) ?_
      have g6 := h.1
      have h := h.2
      refine r_iadd (pc' := 36) (kX5_readPair_0 18 rfl) rfl g6 ?_
      refine s_callV (As := [(0, (x2 + 1))]) (o := 185) (S := []) (S2 := fun z => [(0, z)]) (pc' := 39) (kX5_readPair_0 19 rfl) rfl rfl nkX5_readSum mlX5_71 imX5_readSum rfl slX5_readSum rfl (Nat.le_of_ble_eq_true rfl) (Nat.le_of_ble_eq_true rfl) (kz185 Ln) h (fun z => rfl) (fun r7 φ7 α7 h => ?_)
      refine r_if_eq (t := 74) (pc' := 42) (kX5_readPair_0 20 rfl) rfl rfl (fun c8 => ?_) (fun c8 => ?_)
      · have h := h.1 c8
        refine r_iconst 0 (pc' := 75) (kX5_readPair_0 37 rfl) rfl (by unfold inR; omega) ?_
        refine r_istore_n (L' := [(2, 185), (0, x1), (0, x2), (0, 0)]) (pc' := 76) (kX5_readPair_0 38 rfl) rfl (Nat.le_of_ble_eq_true rfl) rfl ?_
        refine r_iload_n (pc' := 77) (kX5_readPair_0 39 rfl) rfl rfl ?_
        refine r_if_eq (t := 88) (pc' := 80) (kX5_readPair_0 40 rfl) rfl rfl (fun _ => ?_) (fun cz => absurd cz (by decide))
        refine r_iload_n (pc' := 89) (kX5_readPair_0 45 rfl) rfl rfl ?_
        exact s_zret (kX5_readPair_0 46 rfl) rfl (Or.inl rfl) h
      · have h := h.2 c8
        refine r_aload_n (pc' := 43) (kX5_readPair_0 21 rfl) rfl rfl ?_
        refine r_bipush 44 (pc' := 45) (kX5_readPair_0 22 rfl) rfl ⟨by unfold inR; omega, rfl⟩ ?_
        refine s_callV (As := [(0, 44)]) (o := 185) (S := []) (S2 := fun z => [(0, z)]) (pc' := 48) (kX5_readPair_0 23 rfl) rfl rfl nkX5_takeSign mlX5_51 imX5_takeSign rfl slX5_takeSign rfl (Nat.le_of_ble_eq_true rfl) (Nat.le_of_ble_eq_true rfl) (kz185 Ln) h (fun z => rfl) (fun r9 φ9 α9 h => ?_)
        refine r_if_eq (t := 74) (pc' := 51) (kX5_readPair_0 24 rfl) rfl rfl (fun c10 => ?_) (fun c10 => ?_)
        · have h := h.1 c10
          refine r_iconst 0 (pc' := 75) (kX5_readPair_0 37 rfl) rfl (by unfold inR; omega) ?_
          refine r_istore_n (L' := [(2, 185), (0, x1), (0, x2), (0, 0)]) (pc' := 76) (kX5_readPair_0 38 rfl) rfl (Nat.le_of_ble_eq_true rfl) rfl ?_
          refine r_iload_n (pc' := 77) (kX5_readPair_0 39 rfl) rfl rfl ?_
          refine r_if_eq (t := 88) (pc' := 80) (kX5_readPair_0 40 rfl) rfl rfl (fun _ => ?_) (fun cz => absurd cz (by decide))
          refine r_iload_n (pc' := 89) (kX5_readPair_0 45 rfl) rfl rfl ?_
          exact s_zret (kX5_readPair_0 46 rfl) rfl (Or.inl rfl) h
        · have h := h.2 c10
          refine r_aload_n (pc' := 52) (kX5_readPair_0 25 rfl) rfl rfl ?_
          refine r_iload_n (pc' := 53) (kX5_readPair_0 26 rfl) rfl rfl ?_
          refine r_iconst 1 (pc' := 54) (kX5_readPair_0 27 rfl) rfl (by unfold inR; omega) ?_
          refine r_iadd (pc' := 55) (kX5_readPair_0 28 rfl) rfl g6 ?_
          refine s_callV (As := [(0, (x2 + 1))]) (o := 185) (S := []) (S2 := fun z => [(0, z)]) (pc' := 58) (kX5_readPair_0 29 rfl) rfl rfl nkX5_readSum mlX5_71 imX5_readSum rfl slX5_readSum rfl (Nat.le_of_ble_eq_true rfl) (Nat.le_of_ble_eq_true rfl) (kz185 Ln) h (fun z => rfl) (fun r11 φ11 α11 h => ?_)
          refine r_if_eq (t := 74) (pc' := 61) (kX5_readPair_0 30 rfl) rfl rfl (fun c12 => ?_) (fun c12 => ?_)
          · have h := h.1 c12
            refine r_iconst 0 (pc' := 75) (kX5_readPair_0 37 rfl) rfl (by unfold inR; omega) ?_
            refine r_istore_n (L' := [(2, 185), (0, x1), (0, x2), (0, 0)]) (pc' := 76) (kX5_readPair_0 38 rfl) rfl (Nat.le_of_ble_eq_true rfl) rfl ?_
            refine r_iload_n (pc' := 77) (kX5_readPair_0 39 rfl) rfl rfl ?_
            refine r_if_eq (t := 88) (pc' := 80) (kX5_readPair_0 40 rfl) rfl rfl (fun _ => ?_) (fun cz => absurd cz (by decide))
            refine r_iload_n (pc' := 89) (kX5_readPair_0 45 rfl) rfl rfl ?_
            exact s_zret (kX5_readPair_0 46 rfl) rfl (Or.inl rfl) h
          · have h := h.2 c12
            refine r_aload_n (pc' := 62) (kX5_readPair_0 31 rfl) rfl rfl ?_
            refine r_bipush 41 (pc' := 64) (kX5_readPair_0 32 rfl) rfl ⟨by unfold inR; omega, rfl⟩ ?_
            refine s_callV (As := [(0, 41)]) (o := 185) (S := []) (S2 := fun z => [(0, z)]) (pc' := 67) (kX5_readPair_0 33 rfl) rfl rfl nkX5_takeSign mlX5_51 imX5_takeSign rfl slX5_takeSign rfl (Nat.le_of_ble_eq_true rfl) (Nat.le_of_ble_eq_true rfl) (kz185 Ln) h (fun z => rfl) (fun r13 φ13 α13 h => ?_)
            refine r_if_eq (t := 74) (pc' := 70) (kX5_readPair_0 34 rfl) rfl rfl (fun c14 => ?_) (fun c14 => ?_)
            · have h := h.1 c14
              refine r_iconst 0 (pc' := 75) (kX5_readPair_0 37 rfl) rfl (by unfold inR; omega) ?_
              refine r_istore_n (L' := [(2, 185), (0, x1), (0, x2), (0, 0)]) (pc' := 76) (kX5_readPair_0 38 rfl) rfl (Nat.le_of_ble_eq_true rfl) rfl ?_
              refine r_iload_n (pc' := 77) (kX5_readPair_0 39 rfl) rfl rfl ?_
              refine r_if_eq (t := 88) (pc' := 80) (kX5_readPair_0 40 rfl) rfl rfl (fun _ => ?_) (fun cz => absurd cz (by decide))
              refine r_iload_n (pc' := 89) (kX5_readPair_0 45 rfl) rfl rfl ?_
              exact s_zret (kX5_readPair_0 46 rfl) rfl (Or.inl rfl) h
            · have h := h.2 c14
              refine r_iconst 1 (pc' := 71) (kX5_readPair_0 35 rfl) rfl (by unfold inR; omega) ?_
              refine r_goto (pc' := 75) (kX5_readPair_0 36 rfl) rfl ?_
              refine r_istore_n (L' := [(2, 185), (0, x1), (0, x2), (0, 1)]) (pc' := 76) (kX5_readPair_0 38 rfl) rfl (Nat.le_of_ble_eq_true rfl) rfl ?_
              refine r_iload_n (pc' := 77) (kX5_readPair_0 39 rfl) rfl rfl ?_
              refine r_if_eq (t := 88) (pc' := 80) (kX5_readPair_0 40 rfl) rfl rfl (fun cz => absurd cz (by decide)) (fun _ => ?_)
              refine r_aload_n (pc' := 81) (kX5_readPair_0 41 rfl) rfl rfl ?_
              have g15 := h.1
              have h := h.2
              refine s_getc (x := (φ13 5 3 185)) (pc' := 84) (kX5_readPair_0 42 rfl) rfl fkX5_32 rfl rfl (kz185 Ln) rfl g15.2.2 ?_
              refine r_iload_n (pc' := 85) (kX5_readPair_0 43 rfl) rfl rfl ?_
              refine s_callV (As := [(0, x1)]) (o := (φ13 5 3 185)) (S := []) (S2 := fun z => []) (pc' := 88) (kX5_readPair_0 44 rfl) rfl rfl nkX6_put mlX5_208 imX6_put rfl slX6_put rfl (Nat.le_of_ble_eq_true rfl) (Nat.le_of_ble_eq_true rfl) (g15.1 Ln) h (fun z => rfl) (fun r16 φ16 α16 h => ?_)
              refine r_iload_n (pc' := 89) (kX5_readPair_0 45 rfl) rfl rfl ?_
              exact s_zret (kX5_readPair_0 46 rfl) rfl (Or.inr rfl) h
  · have h := h.2 c3
    refine r_aload_n (pc' := 20) (kX5_readPair_0 8 rfl) rfl rfl ?_
    refine s_callV (As := []) (o := 185) (S := []) (S2 := fun z => [(0, z)]) (pc' := 23) (kX5_readPair_0 9 rfl) rfl rfl nkX5_unfit mlX5_57 imX5_unfit rfl slX5_unfit rfl (Nat.le_of_ble_eq_true rfl) (Nat.le_of_ble_eq_true rfl) (kz185 Ln) h (fun z => rfl) (fun r17 φ17 α17 h => ?_)
    have g18 := h.1
    have h := h.2
    exact s_zret (kX5_readPair_0 10 rfl) rfl g18 h
theorem vX5_readOfPart_0 {d : Nat} {φ : aF} {α : aA} {Q : Int → aF → aA → Prop} {x1 : Int} {x2 : Int} (h : (eX5_takeOpening d x2 φ α (fun r1 φ1 α1 =>
   ((r1 = 0 →
   (Q 0 φ1 α1)) ∧
   (¬ (r1 = 0) →
   inR (x2 + 1) ∧ (eX5_readPart d (x2 + 1) φ1 α1 (fun r4 φ4 α4 =>
     ((¬ r4 = 0 →
     isRow (φ4 5 3 185) 1600 ∧ (eX6_put d (φ4 5 3 185) x1 φ4 α4 (fun r7 φ7 α7 =>
       (Q 1 φ7 α7)))) ∧
     (r4 = 0 →
     (Q 0 φ4 α4)))))))))) : eX5_readOfPart (d + 1) x1 x2 φ α Q := by
  intro Ln
  refine r_aload_n (pc' := 1) (kX5_readOfPart_0 0 rfl) rfl rfl ?_
  refine r_iload_n (pc' := 2) (kX5_readOfPart_0 1 rfl) rfl rfl ?_
  refine s_callV (As := [(0, x2)]) (o := 185) (S := []) (S2 := fun z => [(0, z)]) (pc' := 5) (kX5_readOfPart_0 2 rfl) rfl rfl nkX5_takeOpening mlX5_215 imX5_takeOpening rfl slX5_takeOpening rfl (Nat.le_of_ble_eq_true rfl) (Nat.le_of_ble_eq_true rfl) (kz185 Ln) h (fun z => rfl) (fun r1 φ1 α1 h => ?_)
  refine r_if_eq (t := 18) (pc' := 8) (kX5_readOfPart_0 3 rfl) rfl rfl (fun c2 => ?_) (fun c2 => ?_)
  · have h := h.1 c2
    refine r_iconst 0 (pc' := 19) (kX5_readOfPart_0 10 rfl) rfl (by unfold inR; omega) ?_
    exact s_zret (kX5_readOfPart_0 11 rfl) rfl (Or.inl rfl) h
  · have h := h.2 c2
    refine r_aload_n (pc' := 9) (kX5_readOfPart_0 4 rfl) rfl rfl ?_
    refine r_iload_n (pc' := 10) (kX5_readOfPart_0 5 rfl) rfl rfl ?_
    refine r_iconst 1 (pc' := 11) (kX5_readOfPart_0 6 rfl) rfl (by unfold inR; omega) ?_
    have g3 := h.1
    have h := h.2
    refine r_iadd (pc' := 12) (kX5_readOfPart_0 7 rfl) rfl g3 ?_
    refine s_callV (As := [(0, (x2 + 1))]) (o := 185) (S := []) (S2 := fun z => [(0, z)]) (pc' := 15) (kX5_readOfPart_0 8 rfl) rfl rfl nkX5_readPart mlX5_221 imX5_readPart rfl slX5_readPart rfl (Nat.le_of_ble_eq_true rfl) (Nat.le_of_ble_eq_true rfl) (kz185 Ln) h (fun z => rfl) (fun r4 φ4 α4 h => ?_)
    refine r_if_ne (t := 20) (pc' := 18) (kX5_readOfPart_0 9 rfl) rfl rfl (fun c5 => ?_) (fun c5 => ?_)
    · have h := h.1 c5
      refine r_aload_n (pc' := 21) (kX5_readOfPart_0 12 rfl) rfl rfl ?_
      have g6 := h.1
      have h := h.2
      refine s_getc (x := (φ4 5 3 185)) (pc' := 24) (kX5_readOfPart_0 13 rfl) rfl fkX5_32 rfl rfl (kz185 Ln) rfl g6.2.2 ?_
      refine r_iload_n (pc' := 25) (kX5_readOfPart_0 14 rfl) rfl rfl ?_
      refine s_callV (As := [(0, x1)]) (o := (φ4 5 3 185)) (S := []) (S2 := fun z => []) (pc' := 28) (kX5_readOfPart_0 15 rfl) rfl rfl nkX6_put mlX5_208 imX6_put rfl slX6_put rfl (Nat.le_of_ble_eq_true rfl) (Nat.le_of_ble_eq_true rfl) (g6.1 Ln) h (fun z => rfl) (fun r7 φ7 α7 h => ?_)
      refine r_iconst 1 (pc' := 29) (kX5_readOfPart_0 16 rfl) rfl (by unfold inR; omega) ?_
      exact s_zret (kX5_readOfPart_0 17 rfl) rfl (Or.inr rfl) h
    · have h := h.2 c5
      refine r_iconst 0 (pc' := 19) (kX5_readOfPart_0 10 rfl) rfl (by unfold inR; omega) ?_
      exact s_zret (kX5_readOfPart_0 11 rfl) rfl (Or.inl rfl) h
theorem vX5_takeOpening_0 {d : Nat} {φ : aF} {α : aA} {Q : Int → aF → aA → Prop} {x1 : Int} (h : ((x1 < 6 →
   (eX8_scan d  φ α (fun r2 φ2 α2 =>
     (Q 1 φ2 α2)))) ∧
   (¬ (x1 < 6) →
   (eX5_refuse d 4 (φ 8 5 186) φ α (fun r3 φ3 α3 =>
     (r3 = 0 ∨ r3 = 1) ∧ (Q r3 φ3 α3)))))) : eX5_takeOpening (d + 1) x1 φ α Q := by
  intro Ln
  refine r_iload_n (pc' := 1) (kX5_takeOpening_0 0 rfl) rfl rfl ?_
  refine r_bipush 6 (pc' := 3) (kX5_takeOpening_0 1 rfl) rfl ⟨by unfold inR; omega, rfl⟩ ?_
  refine r_icmp_lt (t := 19) (pc' := 6) (kX5_takeOpening_0 2 rfl) rfl rfl (fun c1 => ?_) (fun c1 => ?_)
  · have h := h.1 c1
    refine r_aload_n (pc' := 20) (kX5_takeOpening_0 10 rfl) rfl rfl ?_
    refine s_getr (v := 186) (pc' := 23) (kX5_takeOpening_0 11 rfl) rfl fkX5_20 rfl rfl (kz185 Ln) rfl (by decide) ?_
    refine s_callV (As := []) (o := 186) (S := []) (S2 := fun z => []) (pc' := 26) (kX5_takeOpening_0 12 rfl) rfl rfl nkX8_scan mlX5_61 imX8_scan rfl slX8_scan rfl (Nat.le_of_ble_eq_true rfl) (Nat.le_of_ble_eq_true rfl) (kz186 Ln) h (fun z => rfl) (fun r2 φ2 α2 h => ?_)
    refine r_iconst 1 (pc' := 27) (kX5_takeOpening_0 13 rfl) rfl (by unfold inR; omega) ?_
    exact s_zret (kX5_takeOpening_0 14 rfl) rfl (Or.inr rfl) h
  · have h := h.2 c1
    refine r_aload_n (pc' := 7) (kX5_takeOpening_0 3 rfl) rfl rfl ?_
    refine r_iconst 4 (pc' := 8) (kX5_takeOpening_0 4 rfl) rfl (by unfold inR; omega) ?_
    refine r_aload_n (pc' := 9) (kX5_takeOpening_0 5 rfl) rfl rfl ?_
    refine s_getr (v := 186) (pc' := 12) (kX5_takeOpening_0 6 rfl) rfl fkX5_20 rfl rfl (kz185 Ln) rfl (by decide) ?_
    refine s_get (x := (φ 8 5 186)) (pc' := 15) (kX5_takeOpening_0 7 rfl) rfl fkX5_86 rfl rfl rfl (kz186 Ln) rfl ?_
    refine s_callV (As := [(0, 4), (0, (φ 8 5 186))]) (o := 185) (S := []) (S2 := fun z => [(0, z)]) (pc' := 18) (kX5_takeOpening_0 8 rfl) rfl rfl nkX5_refuse mlX5_95 imX5_refuse rfl slX5_refuse rfl (Nat.le_of_ble_eq_true rfl) (Nat.le_of_ble_eq_true rfl) (kz185 Ln) h (fun z => rfl) (fun r3 φ3 α3 h => ?_)
    have g4 := h.1
    have h := h.2
    exact s_zret (kX5_takeOpening_0 9 rfl) rfl g4 h
theorem vX5_isSpoken_0 {d : Nat} {φ : aF} {α : aA} {Q : Int → aF → aA → Prop} {x1 : Int} (h : ((x1 = 1 →
   ((¬ (φ 5 4 185) = 7 →
     (Q 0 φ α)) ∧
     ((φ 5 4 185) = 7 →
     (Q 1 φ α)))) ∧
   ((x1 = 4 →
   (Q 1 φ α)) ∧
   ((x1 = 10 →
   (Q 1 φ α)) ∧
   ((x1 = 11 →
   (Q 1 φ α)) ∧
   ((x1 = 12 →
   (Q 1 φ α)) ∧
   ((x1 = 13 →
   ((¬ (φ 5 4 185) = 7 →
     (Q 0 φ α)) ∧
     ((φ 5 4 185) = 7 →
     (Q 1 φ α)))) ∧
   ((x1 = 14 →
   ((¬ (φ 5 4 185) = 7 →
     (Q 0 φ α)) ∧
     ((φ 5 4 185) = 7 →
     (Q 1 φ α)))) ∧
   ((x1 = 15 →
   ((¬ (φ 5 4 185) = 8 →
     (Q 0 φ α)) ∧
     ((φ 5 4 185) = 8 →
     (Q 1 φ α)))) ∧
   ((x1 = 16 →
   ((¬ (φ 5 4 185) = 26 →
     (Q 0 φ α)) ∧
     ((φ 5 4 185) = 26 →
     (Q 1 φ α)))) ∧
   ((x1 = 17 →
   ((¬ (φ 5 4 185) = 26 →
     (Q 0 φ α)) ∧
     ((φ 5 4 185) = 26 →
     (Q 1 φ α)))) ∧
   ((¬ x1 = 1 ∧ ¬ x1 = 4 ∧ ¬ x1 = 10 ∧ ¬ x1 = 11 ∧ ¬ x1 = 12 ∧ ¬ x1 = 13 ∧ ¬ x1 = 14 ∧ ¬ x1 = 15 ∧ ¬ x1 = 16 ∧ ¬ x1 = 17) →
   (Q 0 φ α))))))))))))) : eX5_isSpoken d x1 φ α Q := by
  intro Ln
  refine r_iload_n (pc' := 1) (kX5_isSpoken_0 0 rfl) rfl rfl ?_
  have hD : (¬ x1 = 1 ∧ ¬ x1 = 4 ∧ ¬ x1 = 10 ∧ ¬ x1 = 11 ∧ ¬ x1 = 12 ∧ ¬ x1 = 13 ∧ ¬ x1 = 14 ∧ ¬ x1 = 15 ∧ ¬ x1 = 16 ∧ ¬ x1 = 17) → Rn d mX5_isSpoken 131 [(2, 185), (0, x1)] [] (K0 Ln) (mix φ) (mixA α) (0, 0) (Q0 mX5_isSpoken Ln Q) := by
    intro c0
    have h := h.2.2.2.2.2.2.2.2.2.2 c0
    refine r_iconst 0 (pc' := 132) (kX5_isSpoken_0 28 rfl) rfl (by unfold inR; omega) ?_
    exact s_zret (kX5_isSpoken_0 29 rfl) rfl (Or.inl rfl) h
  by_cases c1_0 : x1 = 1
  · have h := h.1 c1_0
    refine r_tabIn (pc' := 86) 1 c1_0 (kX5_isSpoken_0 1 rfl) (by decide) (by decide) rfl rfl ?_
    refine r_aload_n (pc' := 87) (kX5_isSpoken_0 4 rfl) rfl rfl ?_
    refine s_get (x := (φ 5 4 185)) (pc' := 90) (kX5_isSpoken_0 5 rfl) rfl fkX5_83 rfl rfl rfl (kz185 Ln) rfl ?_
    refine r_bipush 7 (pc' := 92) (kX5_isSpoken_0 6 rfl) rfl ⟨by unfold inR; omega, rfl⟩ ?_
    refine r_icmp_ne (t := 99) (pc' := 95) (kX5_isSpoken_0 7 rfl) rfl rfl (fun c2 => ?_) (fun c2 => ?_)
    · have h := h.1 c2
      refine r_iconst 0 (pc' := 100) (kX5_isSpoken_0 10 rfl) rfl (by unfold inR; omega) ?_
      exact s_zret (kX5_isSpoken_0 11 rfl) rfl (Or.inl rfl) h
    · have h := h.2 c2
      refine r_iconst 1 (pc' := 96) (kX5_isSpoken_0 8 rfl) rfl (by unfold inR; omega) ?_
      refine r_goto (pc' := 100) (kX5_isSpoken_0 9 rfl) rfl ?_
      exact s_zret (kX5_isSpoken_0 11 rfl) rfl (Or.inr rfl) h
  by_cases c1_1 : x1 = 4
  · have h := h.2.1 c1_1
    refine r_tabIn (pc' := 84) 4 c1_1 (kX5_isSpoken_0 1 rfl) (by decide) (by decide) rfl rfl ?_
    refine r_iconst 1 (pc' := 85) (kX5_isSpoken_0 2 rfl) rfl (by unfold inR; omega) ?_
    exact s_zret (kX5_isSpoken_0 3 rfl) rfl (Or.inr rfl) h
  by_cases c1_2 : x1 = 10
  · have h := h.2.2.1 c1_2
    refine r_tabIn (pc' := 84) 10 c1_2 (kX5_isSpoken_0 1 rfl) (by decide) (by decide) rfl rfl ?_
    refine r_iconst 1 (pc' := 85) (kX5_isSpoken_0 2 rfl) rfl (by unfold inR; omega) ?_
    exact s_zret (kX5_isSpoken_0 3 rfl) rfl (Or.inr rfl) h
  by_cases c1_3 : x1 = 11
  · have h := h.2.2.2.1 c1_3
    refine r_tabIn (pc' := 84) 11 c1_3 (kX5_isSpoken_0 1 rfl) (by decide) (by decide) rfl rfl ?_
    refine r_iconst 1 (pc' := 85) (kX5_isSpoken_0 2 rfl) rfl (by unfold inR; omega) ?_
    exact s_zret (kX5_isSpoken_0 3 rfl) rfl (Or.inr rfl) h
  by_cases c1_4 : x1 = 12
  · have h := h.2.2.2.2.1 c1_4
    refine r_tabIn (pc' := 84) 12 c1_4 (kX5_isSpoken_0 1 rfl) (by decide) (by decide) rfl rfl ?_
    refine r_iconst 1 (pc' := 85) (kX5_isSpoken_0 2 rfl) rfl (by unfold inR; omega) ?_
    exact s_zret (kX5_isSpoken_0 3 rfl) rfl (Or.inr rfl) h
  by_cases c1_5 : x1 = 13
  · have h := h.2.2.2.2.2.1 c1_5
    refine r_tabIn (pc' := 86) 13 c1_5 (kX5_isSpoken_0 1 rfl) (by decide) (by decide) rfl rfl ?_
    refine r_aload_n (pc' := 87) (kX5_isSpoken_0 4 rfl) rfl rfl ?_
    refine s_get (x := (φ 5 4 185)) (pc' := 90) (kX5_isSpoken_0 5 rfl) rfl fkX5_83 rfl rfl rfl (kz185 Ln) rfl ?_
    refine r_bipush 7 (pc' := 92) (kX5_isSpoken_0 6 rfl) rfl ⟨by unfold inR; omega, rfl⟩ ?_
    refine r_icmp_ne (t := 99) (pc' := 95) (kX5_isSpoken_0 7 rfl) rfl rfl (fun c3 => ?_) (fun c3 => ?_)
    · have h := h.1 c3
      refine r_iconst 0 (pc' := 100) (kX5_isSpoken_0 10 rfl) rfl (by unfold inR; omega) ?_
      exact s_zret (kX5_isSpoken_0 11 rfl) rfl (Or.inl rfl) h
    · have h := h.2 c3
      refine r_iconst 1 (pc' := 96) (kX5_isSpoken_0 8 rfl) rfl (by unfold inR; omega) ?_
      refine r_goto (pc' := 100) (kX5_isSpoken_0 9 rfl) rfl ?_
      exact s_zret (kX5_isSpoken_0 11 rfl) rfl (Or.inr rfl) h
  by_cases c1_6 : x1 = 14
  · have h := h.2.2.2.2.2.2.1 c1_6
    refine r_tabIn (pc' := 86) 14 c1_6 (kX5_isSpoken_0 1 rfl) (by decide) (by decide) rfl rfl ?_
    refine r_aload_n (pc' := 87) (kX5_isSpoken_0 4 rfl) rfl rfl ?_
    refine s_get (x := (φ 5 4 185)) (pc' := 90) (kX5_isSpoken_0 5 rfl) rfl fkX5_83 rfl rfl rfl (kz185 Ln) rfl ?_
    refine r_bipush 7 (pc' := 92) (kX5_isSpoken_0 6 rfl) rfl ⟨by unfold inR; omega, rfl⟩ ?_
    refine r_icmp_ne (t := 99) (pc' := 95) (kX5_isSpoken_0 7 rfl) rfl rfl (fun c4 => ?_) (fun c4 => ?_)
    · have h := h.1 c4
      refine r_iconst 0 (pc' := 100) (kX5_isSpoken_0 10 rfl) rfl (by unfold inR; omega) ?_
      exact s_zret (kX5_isSpoken_0 11 rfl) rfl (Or.inl rfl) h
    · have h := h.2 c4
      refine r_iconst 1 (pc' := 96) (kX5_isSpoken_0 8 rfl) rfl (by unfold inR; omega) ?_
      refine r_goto (pc' := 100) (kX5_isSpoken_0 9 rfl) rfl ?_
      exact s_zret (kX5_isSpoken_0 11 rfl) rfl (Or.inr rfl) h
  by_cases c1_7 : x1 = 15
  · have h := h.2.2.2.2.2.2.2.1 c1_7
    refine r_tabIn (pc' := 101) 15 c1_7 (kX5_isSpoken_0 1 rfl) (by decide) (by decide) rfl rfl ?_
    refine r_aload_n (pc' := 102) (kX5_isSpoken_0 12 rfl) rfl rfl ?_
    refine s_get (x := (φ 5 4 185)) (pc' := 105) (kX5_isSpoken_0 13 rfl) rfl fkX5_83 rfl rfl rfl (kz185 Ln) rfl ?_
    refine r_bipush 8 (pc' := 107) (kX5_isSpoken_0 14 rfl) rfl ⟨by unfold inR; omega, rfl⟩ ?_
    refine r_icmp_ne (t := 114) (pc' := 110) (kX5_isSpoken_0 15 rfl) rfl rfl (fun c5 => ?_) (fun c5 => ?_)
    · have h := h.1 c5
      refine r_iconst 0 (pc' := 115) (kX5_isSpoken_0 18 rfl) rfl (by unfold inR; omega) ?_
      exact s_zret (kX5_isSpoken_0 19 rfl) rfl (Or.inl rfl) h
    · have h := h.2 c5
      refine r_iconst 1 (pc' := 111) (kX5_isSpoken_0 16 rfl) rfl (by unfold inR; omega) ?_
      refine r_goto (pc' := 115) (kX5_isSpoken_0 17 rfl) rfl ?_
      exact s_zret (kX5_isSpoken_0 19 rfl) rfl (Or.inr rfl) h
  by_cases c1_8 : x1 = 16
  · have h := h.2.2.2.2.2.2.2.2.1 c1_8
    refine r_tabIn (pc' := 116) 16 c1_8 (kX5_isSpoken_0 1 rfl) (by decide) (by decide) rfl rfl ?_
    refine r_aload_n (pc' := 117) (kX5_isSpoken_0 20 rfl) rfl rfl ?_
    refine s_get (x := (φ 5 4 185)) (pc' := 120) (kX5_isSpoken_0 21 rfl) rfl fkX5_83 rfl rfl rfl (kz185 Ln) rfl ?_
    refine r_bipush 26 (pc' := 122) (kX5_isSpoken_0 22 rfl) rfl ⟨by unfold inR; omega, rfl⟩ ?_
    refine r_icmp_ne (t := 129) (pc' := 125) (kX5_isSpoken_0 23 rfl) rfl rfl (fun c6 => ?_) (fun c6 => ?_)
    · have h := h.1 c6
      refine r_iconst 0 (pc' := 130) (kX5_isSpoken_0 26 rfl) rfl (by unfold inR; omega) ?_
      exact s_zret (kX5_isSpoken_0 27 rfl) rfl (Or.inl rfl) h
    · have h := h.2 c6
      refine r_iconst 1 (pc' := 126) (kX5_isSpoken_0 24 rfl) rfl (by unfold inR; omega) ?_
      refine r_goto (pc' := 130) (kX5_isSpoken_0 25 rfl) rfl ?_
      exact s_zret (kX5_isSpoken_0 27 rfl) rfl (Or.inr rfl) h
  by_cases c1_9 : x1 = 17
  · have h := h.2.2.2.2.2.2.2.2.2.1 c1_9
    refine r_tabIn (pc' := 116) 17 c1_9 (kX5_isSpoken_0 1 rfl) (by decide) (by decide) rfl rfl ?_
    refine r_aload_n (pc' := 117) (kX5_isSpoken_0 20 rfl) rfl rfl ?_
    refine s_get (x := (φ 5 4 185)) (pc' := 120) (kX5_isSpoken_0 21 rfl) rfl fkX5_83 rfl rfl rfl (kz185 Ln) rfl ?_
    refine r_bipush 26 (pc' := 122) (kX5_isSpoken_0 22 rfl) rfl ⟨by unfold inR; omega, rfl⟩ ?_
    refine r_icmp_ne (t := 129) (pc' := 125) (kX5_isSpoken_0 23 rfl) rfl rfl (fun c7 => ?_) (fun c7 => ?_)
    · have h := h.1 c7
      refine r_iconst 0 (pc' := 130) (kX5_isSpoken_0 26 rfl) rfl (by unfold inR; omega) ?_
      exact s_zret (kX5_isSpoken_0 27 rfl) rfl (Or.inl rfl) h
    · have h := h.2 c7
      refine r_iconst 1 (pc' := 126) (kX5_isSpoken_0 24 rfl) rfl (by unfold inR; omega) ?_
      refine r_goto (pc' := 130) (kX5_isSpoken_0 25 rfl) rfl ?_
      exact s_zret (kX5_isSpoken_0 27 rfl) rfl (Or.inr rfl) h
  have hD := hD ⟨c1_0, c1_1, c1_2, c1_3, c1_4, c1_5, c1_6, c1_7, c1_8, c1_9⟩
  by_cases cd2 : x1 = 2
  · exact r_tabIn 2 cd2 (kX5_isSpoken_0 1 rfl) (by decide) (by decide) rfl rfl hD
  by_cases cd3 : x1 = 3
  · exact r_tabIn 3 cd3 (kX5_isSpoken_0 1 rfl) (by decide) (by decide) rfl rfl hD
  by_cases cd5 : x1 = 5
  · exact r_tabIn 5 cd5 (kX5_isSpoken_0 1 rfl) (by decide) (by decide) rfl rfl hD
  by_cases cd6 : x1 = 6
  · exact r_tabIn 6 cd6 (kX5_isSpoken_0 1 rfl) (by decide) (by decide) rfl rfl hD
  by_cases cd7 : x1 = 7
  · exact r_tabIn 7 cd7 (kX5_isSpoken_0 1 rfl) (by decide) (by decide) rfl rfl hD
  by_cases cd8 : x1 = 8
  · exact r_tabIn 8 cd8 (kX5_isSpoken_0 1 rfl) (by decide) (by decide) rfl rfl hD
  by_cases cd9 : x1 = 9
  · exact r_tabIn 9 cd9 (kX5_isSpoken_0 1 rfl) (by decide) (by decide) rfl rfl hD
  exact r_tabOut (pc' := 131) (kX5_isSpoken_0 1 rfl) (by omega) rfl hD
