abbrev jX4_powerOf_21 (d : Nat) (x1 x2 x3 x4 : Int) (φ : aF) (α : aA) (Q : Int → aF → aA → Prop) : Prop := R0 d mX4_powerOf 21 [(2, 192), (0, x1), (0, x2), (0, x3), (0, x4), (9, 0)] [] φ α Q
theorem vX4_powerOf_0 {d : Nat} {φ : aF} {α : aA} {Q : Int → aF → aA → Prop} {x1 : Int} (h : inR ((iShl 1 (φ 2 4 9)) - 1) ∧ (eX4_roomOf d ((iShl 1 (φ 2 4 9)) - 1) φ α (fun r2 φ2 α2 =>
   (jX4_powerOf_21 (d + 1) x1 r2 0 0 φ2 α2 Q)))) : eX4_powerOf (d + 1) x1 φ α Q := by
  intro Ln
  refine r_aload_n (pc' := 1) (kX4_powerOf_0 0 rfl) rfl rfl ?_
  refine r_iconst 1 (pc' := 2) (kX4_powerOf_0 1 rfl) rfl (by unfold inR; omega) ?_
  refine r_aload_n (pc' := 3) (kX4_powerOf_0 2 rfl) rfl rfl ?_
  refine s_getr (v := 9) (pc' := 6) (kX4_powerOf_0 3 rfl) rfl fkX4_18 rfl rfl (kz192 Ln) rfl (by decide) ?_
  refine s_get (x := (φ 2 4 9)) (pc' := 9) (kX4_powerOf_0 4 rfl) rfl fkX4_33 rfl rfl rfl (kz9 Ln) rfl ?_
  refine r_ishl (pc' := 10) (kX4_powerOf_0 5 rfl) rfl ?_
  refine r_iconst 1 (pc' := 11) (kX4_powerOf_0 6 rfl) rfl (by unfold inR; omega) ?_
  have g1 := h.1
  have h := h.2
  refine r_isub (pc' := 12) (kX4_powerOf_0 7 rfl) rfl g1 ?_
  refine s_callV (As := [(0, ((iShl 1 (φ 2 4 9)) - 1))]) (o := 192) (S := []) (S2 := fun z => [(0, z)]) (pc' := 15) (kX4_powerOf_0 8 rfl) rfl rfl nkX4_roomOf mlX4_39 imX4_roomOf rfl slX4_roomOf rfl (Nat.le_of_ble_eq_true rfl) (Nat.le_of_ble_eq_true rfl) (kz192 Ln) h (fun z => rfl) (fun r2 φ2 α2 h => ?_)
  refine r_istore_n (L' := [(2, 192), (0, x1), (0, r2), (9, 0), (9, 0), (9, 0)]) (pc' := 16) (kX4_powerOf_0 9 rfl) rfl (Nat.le_of_ble_eq_true rfl) rfl ?_
  refine r_iconst 0 (pc' := 17) (kX4_powerOf_0 10 rfl) rfl (by unfold inR; omega) ?_
  refine r_istore_n (L' := [(2, 192), (0, x1), (0, r2), (0, 0), (9, 0), (9, 0)]) (pc' := 18) (kX4_powerOf_0 11 rfl) rfl (Nat.le_of_ble_eq_true rfl) rfl ?_
  refine r_iconst 0 (pc' := 19) (kX4_powerOf_0 12 rfl) rfl (by unfold inR; omega) ?_
  refine r_istore (L' := [(2, 192), (0, x1), (0, r2), (0, 0), (0, 0), (9, 0)]) (pc' := 21) (kX4_powerOf_0 13 rfl) rfl (Nat.le_of_ble_eq_true rfl) rfl ?_
  exact r_weak (L' := [(2, 192), (0, x1), (0, r2), (0, 0), (0, 0), (9, 0)]) ⟨Or.inl rfl, Or.inl rfl, Or.inl rfl, Or.inl rfl, Or.inl rfl, Or.inr (by decide), trivial⟩ (h Ln)
theorem vX4_powerOf_21 {d : Nat} {φ : aF} {α : aA} {Q : Int → aF → aA → Prop} {x1 : Int} {x2 : Int} {x3 : Int} {x4 : Int} (h : (((iShl 1 (φ 2 4 9)) ≤ x4 →
   (Q x3 φ α)) ∧
   (¬ ((iShl 1 (φ 2 4 9)) ≤ x4) →
   ((¬ (iAnd (iShr x4 x1) 1) = 0 →
     inR (x4 + 1) ∧ (jX4_powerOf_21 (d + 1) x1 x2 x3 (x4 + 1) φ α Q)) ∧
     ((iAnd (iShr x4 x1) 1) = 0 →
     (eX4_roomOf d x4 φ α (fun r4 φ4 α4 =>
       inR (2 * r4) ∧ ((x2 < (2 * r4) →
       inR (x4 + 1) ∧ (jX4_powerOf_21 (d + 1) x1 x2 x3 (x4 + 1) φ4 α4 Q)) ∧
       (¬ (x2 < (2 * r4)) →
       (eX10_pick d 11 x1 φ4 α4 (fun r8 φ8 α8 =>
         inR (r4 + r8) ∧ inR (2 * (r4 + r8)) ∧ (((2 * (r4 + r8)) ≤ x2 →
         inR (x4 + 1) ∧ (jX4_powerOf_21 (d + 1) x1 x2 x3 (x4 + 1) φ8 α8 Q)) ∧
         (¬ ((2 * (r4 + r8)) ≤ x2) →
         inR (x3 + 1) ∧ inR (x4 + 1) ∧ (jX4_powerOf_21 (d + 1) x1 x2 (x3 + 1) (x4 + 1) φ8 α8 Q)))))))))))))) : jX4_powerOf_21 (d + 1) x1 x2 x3 x4 φ α Q := by
  intro Ln
  refine r_iload (pc' := 23) (kX4_powerOf_0 14 rfl) rfl rfl ?_
  refine r_iconst 1 (pc' := 24) (kX4_powerOf_0 15 rfl) rfl (by unfold inR; omega) ?_
  refine r_aload_n (pc' := 25) (kX4_powerOf_0 16 rfl) rfl rfl ?_
  refine s_getr (v := 9) (pc' := 28) (kX4_powerOf_0 17 rfl) rfl fkX4_18 rfl rfl (kz192 Ln) rfl (by decide) ?_
  refine s_get (x := (φ 2 4 9)) (pc' := 31) (kX4_powerOf_0 18 rfl) rfl fkX4_33 rfl rfl rfl (kz9 Ln) rfl ?_
  refine r_ishl (pc' := 32) (kX4_powerOf_0 19 rfl) rfl ?_
  refine r_icmp_ge (t := 89) (pc' := 35) (kX4_powerOf_0 20 rfl) rfl rfl (fun c1 => ?_) (fun c1 => ?_)
  · have h := h.1 c1
    refine r_iload_n (pc' := 90) (kX4_powerOf_0 50 rfl) rfl rfl ?_
    exact s_iret (kX4_powerOf_0 51 rfl) rfl h
  · have h := h.2 c1
    refine r_iload (pc' := 37) (kX4_powerOf_0 21 rfl) rfl rfl ?_
    refine r_iload_n (pc' := 38) (kX4_powerOf_0 22 rfl) rfl rfl ?_
    refine r_ishr (pc' := 39) (kX4_powerOf_0 23 rfl) rfl ?_
    refine r_iconst 1 (pc' := 40) (kX4_powerOf_0 24 rfl) rfl (by unfold inR; omega) ?_
    refine r_iand (pc' := 41) (kX4_powerOf_0 25 rfl) rfl ?_
    refine r_if_ne (t := 83) (pc' := 44) (kX4_powerOf_0 26 rfl) rfl rfl (fun c2 => ?_) (fun c2 => ?_)
    · have h := h.1 c2
      have g3 := h.1
      have h := h.2
      refine r_iinc (L' := [(2, 192), (0, x1), (0, x2), (0, x3), (0, (x4 + 1)), (9, 0)]) (pc' := 86) (kX4_powerOf_0 48 rfl) rfl (Nat.le_of_ble_eq_true rfl) rfl g3 rfl ?_
      refine r_goto (pc' := 21) (kX4_powerOf_0 49 rfl) rfl ?_
      exact r_weak (L' := [(2, 192), (0, x1), (0, x2), (0, x3), (0, (x4 + 1)), (9, 0)]) ⟨Or.inl rfl, Or.inl rfl, Or.inl rfl, Or.inl rfl, Or.inl rfl, Or.inr (by decide), trivial⟩ (h Ln)
    · have h := h.2 c2
      refine r_aload_n (pc' := 45) (kX4_powerOf_0 27 rfl) rfl rfl ?_
      refine r_iload (pc' := 47) (kX4_powerOf_0 28 rfl) rfl rfl ?_
      refine s_callV (As := [(0, x4)]) (o := 192) (S := []) (S2 := fun z => [(0, z)]) (pc' := 50) (kX4_powerOf_0 29 rfl) rfl rfl nkX4_roomOf mlX4_39 imX4_roomOf rfl slX4_roomOf rfl (Nat.le_of_ble_eq_true rfl) (Nat.le_of_ble_eq_true rfl) (kz192 Ln) h (fun z => rfl) (fun r4 φ4 α4 h => ?_)
      refine r_istore (L' := [(2, 192), (0, x1), (0, x2), (0, x3), (0, x4), (0, r4)]) (pc' := 52) (kX4_powerOf_0 30 rfl) rfl (Nat.le_of_ble_eq_true rfl) rfl ?_
      refine r_iconst 2 (pc' := 53) (kX4_powerOf_0 31 rfl) rfl (by unfold inR; omega) ?_
      refine r_iload (pc' := 55) (kX4_powerOf_0 32 rfl) rfl rfl ?_
      have g5 := h.1
      have h := h.2
      refine r_imul (pc' := 56) (kX4_powerOf_0 33 rfl) rfl g5 ?_
      refine r_iload_n (pc' := 57) (kX4_powerOf_0 34 rfl) rfl rfl ?_
      refine r_icmp_gt (t := 83) (pc' := 60) (kX4_powerOf_0 35 rfl) rfl rfl (fun c6 => ?_) (fun c6 => ?_)
      · have h := h.1 c6
        have g7 := h.1
        have h := h.2
        refine r_iinc (L' := [(2, 192), (0, x1), (0, x2), (0, x3), (0, (x4 + 1)), (0, r4)]) (pc' := 86) (kX4_powerOf_0 48 rfl) rfl (Nat.le_of_ble_eq_true rfl) rfl g7 rfl ?_
        refine r_goto (pc' := 21) (kX4_powerOf_0 49 rfl) rfl ?_
        exact r_weak (L' := [(2, 192), (0, x1), (0, x2), (0, x3), (0, (x4 + 1)), (9, 0)]) ⟨Or.inl rfl, Or.inl rfl, Or.inl rfl, Or.inl rfl, Or.inl rfl, Or.inr (by decide), trivial⟩ (h Ln)
      · have h := h.2 c6
        refine r_iconst 2 (pc' := 61) (kX4_powerOf_0 36 rfl) rfl (by unfold inR; omega) ?_
        refine r_iload (pc' := 63) (kX4_powerOf_0 37 rfl) rfl rfl ?_
        refine r_aload_n (pc' := 64) (kX4_powerOf_0 38 rfl) rfl rfl ?_
        refine s_getr (v := 9) (pc' := 67) (kX4_powerOf_0 39 rfl) rfl fkX4_18 rfl rfl (kz192 Ln) rfl (by decide) ?_
        refine s_getr (v := 11) (pc' := 70) (kX4_powerOf_0 40 rfl) rfl fkX4_43 rfl rfl (kz9 Ln) rfl (by decide) ?_
        refine r_iload_n (pc' := 71) (kX4_powerOf_0 41 rfl) rfl rfl ?_
        refine s_callS (As := [(2, 11), (0, x1)]) (S := [(0, r4), (0, 2)]) (S2 := fun z => [(0, z), (0, r4), (0, 2)]) (pc' := 74) (kX4_powerOf_0 42 rfl) rfl rfl nkX10_pick mlX4_46 scX10_pick rfl (Nat.le_of_ble_eq_true rfl) (Nat.le_of_ble_eq_true rfl) h (fun z => rfl) (fun r8 φ8 α8 h => ?_)
        have g9 := h.1
        have h := h.2
        refine r_iadd (pc' := 75) (kX4_powerOf_0 43 rfl) rfl g9 ?_
        have g10 := h.1
        have h := h.2
        refine r_imul (pc' := 76) (kX4_powerOf_0 44 rfl) rfl g10 ?_
        refine r_iload_n (pc' := 77) (kX4_powerOf_0 45 rfl) rfl rfl ?_
        refine r_icmp_le (t := 83) (pc' := 80) (kX4_powerOf_0 46 rfl) rfl rfl (fun c11 => ?_) (fun c11 => ?_)
        · have h := h.1 c11
          have g12 := h.1
          have h := h.2
          refine r_iinc (L' := [(2, 192), (0, x1), (0, x2), (0, x3), (0, (x4 + 1)), (0, r4)]) (pc' := 86) (kX4_powerOf_0 48 rfl) rfl (Nat.le_of_ble_eq_true rfl) rfl g12 rfl ?_
          refine r_goto (pc' := 21) (kX4_powerOf_0 49 rfl) rfl ?_
          exact r_weak (L' := [(2, 192), (0, x1), (0, x2), (0, x3), (0, (x4 + 1)), (9, 0)]) ⟨Or.inl rfl, Or.inl rfl, Or.inl rfl, Or.inl rfl, Or.inl rfl, Or.inr (by decide), trivial⟩ (h Ln)
        · have h := h.2 c11
          have g13 := h.1
          have h := h.2
          refine r_iinc (L' := [(2, 192), (0, x1), (0, x2), (0, (x3 + 1)), (0, x4), (0, r4)]) (pc' := 83) (kX4_powerOf_0 47 rfl) rfl (Nat.le_of_ble_eq_true rfl) rfl g13 rfl ?_
          have g14 := h.1
          have h := h.2
          refine r_iinc (L' := [(2, 192), (0, x1), (0, x2), (0, (x3 + 1)), (0, (x4 + 1)), (0, r4)]) (pc' := 86) (kX4_powerOf_0 48 rfl) rfl (Nat.le_of_ble_eq_true rfl) rfl g14 rfl ?_
          refine r_goto (pc' := 21) (kX4_powerOf_0 49 rfl) rfl ?_
          exact r_weak (L' := [(2, 192), (0, x1), (0, x2), (0, (x3 + 1)), (0, (x4 + 1)), (9, 0)]) ⟨Or.inl rfl, Or.inl rfl, Or.inl rfl, Or.inl rfl, Or.inl rfl, Or.inr (by decide), trivial⟩ (h Ln)
abbrev jX4_roomOf_4 (d : Nat) (x1 x2 x3 : Int) (φ : aF) (α : aA) (Q : Int → aF → aA → Prop) : Prop := R0 d mX4_roomOf 4 [(2, 192), (0, x1), (0, x2), (0, x3)] [] φ α Q
theorem vX4_roomOf_0 {d : Nat} {φ : aF} {α : aA} {Q : Int → aF → aA → Prop} {x1 : Int} (h : (jX4_roomOf_4 (d + 1) x1 0 0 φ α Q)) : eX4_roomOf (d + 1) x1 φ α Q := by
  intro Ln
  refine r_iconst 0 (pc' := 1) (kX4_roomOf_0 0 rfl) rfl (by unfold inR; omega) ?_
  refine r_istore_n (L' := [(2, 192), (0, x1), (0, 0), (9, 0)]) (pc' := 2) (kX4_roomOf_0 1 rfl) rfl (Nat.le_of_ble_eq_true rfl) rfl ?_
  refine r_iconst 0 (pc' := 3) (kX4_roomOf_0 2 rfl) rfl (by unfold inR; omega) ?_
  refine r_istore_n (L' := [(2, 192), (0, x1), (0, 0), (0, 0)]) (pc' := 4) (kX4_roomOf_0 3 rfl) rfl (Nat.le_of_ble_eq_true rfl) rfl ?_
  exact r_weak (L' := [(2, 192), (0, x1), (0, 0), (0, 0)]) ⟨Or.inl rfl, Or.inl rfl, Or.inl rfl, Or.inl rfl, trivial⟩ (h Ln)
theorem vX4_roomOf_4 {d : Nat} {φ : aF} {α : aA} {Q : Int → aF → aA → Prop} {x1 : Int} {x2 : Int} {x3 : Int} (h : (((φ 2 4 9) ≤ x3 →
   (Q x2 φ α)) ∧
   (¬ ((φ 2 4 9) ≤ x3) →
   (((iAnd (iShr x1 x3) 1) = 0 →
     inR (x3 + 1) ∧ (jX4_roomOf_4 (d + 1) x1 x2 (x3 + 1) φ α Q)) ∧
     (¬ ((iAnd (iShr x1 x3) 1) = 0) →
     (eX10_pick d 11 x3 φ α (fun r4 φ4 α4 =>
       inR (x2 + r4) ∧ inR (x3 + 1) ∧ (jX4_roomOf_4 (d + 1) x1 (x2 + r4) (x3 + 1) φ4 α4 Q)))))))) : jX4_roomOf_4 (d + 1) x1 x2 x3 φ α Q := by
  intro Ln
  refine r_iload_n (pc' := 5) (kX4_roomOf_0 4 rfl) rfl rfl ?_
  refine r_aload_n (pc' := 6) (kX4_roomOf_0 5 rfl) rfl rfl ?_
  refine s_getr (v := 9) (pc' := 9) (kX4_roomOf_0 6 rfl) rfl fkX4_18 rfl rfl (kz192 Ln) rfl (by decide) ?_
  refine s_get (x := (φ 2 4 9)) (pc' := 12) (kX4_roomOf_0 7 rfl) rfl fkX4_33 rfl rfl rfl (kz9 Ln) rfl ?_
  refine r_icmp_ge (t := 43) (pc' := 15) (kX4_roomOf_0 8 rfl) rfl rfl (fun c1 => ?_) (fun c1 => ?_)
  · have h := h.1 c1
    refine r_iload_n (pc' := 44) (kX4_roomOf_0 25 rfl) rfl rfl ?_
    exact s_iret (kX4_roomOf_0 26 rfl) rfl h
  · have h := h.2 c1
    refine r_iload_n (pc' := 16) (kX4_roomOf_0 9 rfl) rfl rfl ?_
    refine r_iload_n (pc' := 17) (kX4_roomOf_0 10 rfl) rfl rfl ?_
    refine r_ishr (pc' := 18) (kX4_roomOf_0 11 rfl) rfl ?_
    refine r_iconst 1 (pc' := 19) (kX4_roomOf_0 12 rfl) rfl (by unfold inR; omega) ?_
    refine r_iand (pc' := 20) (kX4_roomOf_0 13 rfl) rfl ?_
    refine r_if_eq (t := 37) (pc' := 23) (kX4_roomOf_0 14 rfl) rfl rfl (fun c2 => ?_) (fun c2 => ?_)
    · have h := h.1 c2
      have g3 := h.1
      have h := h.2
      refine r_iinc (L' := [(2, 192), (0, x1), (0, x2), (0, (x3 + 1))]) (pc' := 40) (kX4_roomOf_0 23 rfl) rfl (Nat.le_of_ble_eq_true rfl) rfl g3 rfl ?_
      refine r_goto (pc' := 4) (kX4_roomOf_0 24 rfl) rfl ?_
      exact r_weak (L' := [(2, 192), (0, x1), (0, x2), (0, (x3 + 1))]) ⟨Or.inl rfl, Or.inl rfl, Or.inl rfl, Or.inl rfl, trivial⟩ (h Ln)
    · have h := h.2 c2
      refine r_iload_n (pc' := 24) (kX4_roomOf_0 15 rfl) rfl rfl ?_
      refine r_aload_n (pc' := 25) (kX4_roomOf_0 16 rfl) rfl rfl ?_
      refine s_getr (v := 9) (pc' := 28) (kX4_roomOf_0 17 rfl) rfl fkX4_18 rfl rfl (kz192 Ln) rfl (by decide) ?_
      refine s_getr (v := 11) (pc' := 31) (kX4_roomOf_0 18 rfl) rfl fkX4_43 rfl rfl (kz9 Ln) rfl (by decide) ?_
      refine r_iload_n (pc' := 32) (kX4_roomOf_0 19 rfl) rfl rfl ?_
      refine s_callS (As := [(2, 11), (0, x3)]) (S := [(0, x2)]) (S2 := fun z => [(0, z), (0, x2)]) (pc' := 35) (kX4_roomOf_0 20 rfl) rfl rfl nkX10_pick mlX4_46 scX10_pick rfl (Nat.le_of_ble_eq_true rfl) (Nat.le_of_ble_eq_true rfl) h (fun z => rfl) (fun r4 φ4 α4 h => ?_)
      have g5 := h.1
      have h := h.2
      refine r_iadd (pc' := 36) (kX4_roomOf_0 21 rfl) rfl g5 ?_
      refine r_istore_n (L' := [(2, 192), (0, x1), (0, (x2 + r4)), (0, x3)]) (pc' := 37) (kX4_roomOf_0 22 rfl) rfl (Nat.le_of_ble_eq_true rfl) rfl ?_
      have g6 := h.1
      have h := h.2
      refine r_iinc (L' := [(2, 192), (0, x1), (0, (x2 + r4)), (0, (x3 + 1))]) (pc' := 40) (kX4_roomOf_0 23 rfl) rfl (Nat.le_of_ble_eq_true rfl) rfl g6 rfl ?_
      refine r_goto (pc' := 4) (kX4_roomOf_0 24 rfl) rfl ?_
      exact r_weak (L' := [(2, 192), (0, x1), (0, (x2 + r4)), (0, (x3 + 1))]) ⟨Or.inl rfl, Or.inl rfl, Or.inl rfl, Or.inl rfl, trivial⟩ (h Ln)
abbrev jX4_findDiscreet_17 (d : Nat) (x1 x2 x3 x4 : Int) (φ : aF) (α : aA) (Q : Int → aF → aA → Prop) : Prop := R0 d mX4_findDiscreet 17 [(2, 192), (0, x1), (0, x2), (0, x3), (0, x4), (9, 0), (9, 0)] [] φ α Q
theorem vX4_findDiscreet_0 {d : Nat} {φ : aF} {α : aA} {Q : Int → aF → aA → Prop} {x1 : Int} {x2 : Int} (h : (eX4_countKnowing d 0 0 x1 x2 φ α (fun r1 φ1 α1 =>
   (jX4_findDiscreet_17 (d + 1) x1 x2 0 0 (upf φ1 4 8 192 r1) α1 Q)))) : eX4_findDiscreet (d + 1) x1 x2 φ α Q := by
  intro Ln
  refine r_aload_n (pc' := 1) (kX4_findDiscreet_0 0 rfl) rfl rfl ?_
  refine r_aload_n (pc' := 2) (kX4_findDiscreet_0 1 rfl) rfl rfl ?_
  refine r_iconst 0 (pc' := 3) (kX4_findDiscreet_0 2 rfl) rfl (by unfold inR; omega) ?_
  refine r_iconst 0 (pc' := 4) (kX4_findDiscreet_0 3 rfl) rfl (by unfold inR; omega) ?_
  refine r_iload_n (pc' := 5) (kX4_findDiscreet_0 4 rfl) rfl rfl ?_
  refine r_iload_n (pc' := 6) (kX4_findDiscreet_0 5 rfl) rfl rfl ?_
  refine s_callV (As := [(0, 0), (0, 0), (0, x1), (0, x2)]) (o := 192) (S := [(2, 192)]) (S2 := fun z => [(0, z), (2, 192)]) (pc' := 9) (kX4_findDiscreet_0 6 rfl) rfl rfl nkX4_countKnowing mlX4_50 imX4_countKnowing rfl slX4_countKnowing rfl (Nat.le_of_ble_eq_true rfl) (Nat.le_of_ble_eq_true rfl) (kz192 Ln) h (fun z => rfl) (fun r1 φ1 α1 h => ?_)
  refine s_put (pc' := 12) (kX4_findDiscreet_0 7 rfl) rfl fkX4_54 fnX4_8 rfl pk_int (kz192 Ln) ?_
  refine r_iconst 0 (pc' := 13) (kX4_findDiscreet_0 8 rfl) rfl (by unfold inR; omega) ?_
  refine r_istore_n (L' := [(2, 192), (0, x1), (0, x2), (0, 0), (9, 0), (9, 0), (9, 0)]) (pc' := 14) (kX4_findDiscreet_0 9 rfl) rfl (Nat.le_of_ble_eq_true rfl) rfl ?_
  refine r_iconst 0 (pc' := 15) (kX4_findDiscreet_0 10 rfl) rfl (by unfold inR; omega) ?_
  refine r_istore (L' := [(2, 192), (0, x1), (0, x2), (0, 0), (0, 0), (9, 0), (9, 0)]) (pc' := 17) (kX4_findDiscreet_0 11 rfl) rfl (Nat.le_of_ble_eq_true rfl) rfl ?_
  exact r_weak (L' := [(2, 192), (0, x1), (0, x2), (0, 0), (0, 0), (9, 0), (9, 0)]) ⟨Or.inl rfl, Or.inl rfl, Or.inl rfl, Or.inl rfl, Or.inl rfl, Or.inr (by decide), Or.inr (by decide), trivial⟩ (h Ln)
abbrev jX4_findDiscreet_35 (d : Nat) (x1 x2 x3 x4 x5 : Int) (φ : aF) (α : aA) (Q : Int → aF → aA → Prop) : Prop := R0 d mX4_findDiscreet 35 [(2, 192), (0, x1), (0, x2), (0, x3), (0, x4), (0, x5), (9, 0)] [] φ α Q
theorem vX4_findDiscreet_17 {d : Nat} {φ : aF} {α : aA} {Q : Int → aF → aA → Prop} {x1 : Int} {x2 : Int} {x3 : Int} {x4 : Int} (h : (((φ 2 2 9) ≤ x4 →
   (x3 = 0 ∨ x3 = 1) ∧ (Q x3 φ α)) ∧
   (¬ ((φ 2 2 9) ≤ x4) →
   inR (x4 + 1) ∧ (jX4_findDiscreet_35 (d + 1) x1 x2 x3 x4 (x4 + 1) φ α Q)))) : jX4_findDiscreet_17 (d + 1) x1 x2 x3 x4 φ α Q := by
  intro Ln
  refine r_iload (pc' := 19) (kX4_findDiscreet_0 12 rfl) rfl rfl ?_
  refine r_aload_n (pc' := 20) (kX4_findDiscreet_0 13 rfl) rfl rfl ?_
  refine s_getr (v := 9) (pc' := 23) (kX4_findDiscreet_0 14 rfl) rfl fkX4_18 rfl rfl (kz192 Ln) rfl (by decide) ?_
  refine s_get (x := (φ 2 2 9)) (pc' := 26) (kX4_findDiscreet_0 15 rfl) rfl fkX4_57 rfl rfl rfl (kz9 Ln) rfl ?_
  refine r_icmp_ge (t := 137) (pc' := 29) (kX4_findDiscreet_0 16 rfl) rfl rfl (fun c1 => ?_) (fun c1 => ?_)
  · have h := h.1 c1
    refine r_iload_n (pc' := 138) (kX4_findDiscreet_1 9 rfl) rfl rfl ?_
    have g2 := h.1
    have h := h.2
    exact s_zret (kX4_findDiscreet_1 10 rfl) rfl g2 h
  · have h := h.2 c1
    refine r_iload (pc' := 31) (kX4_findDiscreet_0 17 rfl) rfl rfl ?_
    refine r_iconst 1 (pc' := 32) (kX4_findDiscreet_0 18 rfl) rfl (by unfold inR; omega) ?_
    have g3 := h.1
    have h := h.2
    refine r_iadd (pc' := 33) (kX4_findDiscreet_0 19 rfl) rfl g3 ?_
    refine r_istore (L' := [(2, 192), (0, x1), (0, x2), (0, x3), (0, x4), (0, (x4 + 1)), (9, 0)]) (pc' := 35) (kX4_findDiscreet_0 20 rfl) rfl (Nat.le_of_ble_eq_true rfl) rfl ?_
    exact r_weak (L' := [(2, 192), (0, x1), (0, x2), (0, x3), (0, x4), (0, (x4 + 1)), (9, 0)]) ⟨Or.inl rfl, Or.inl rfl, Or.inl rfl, Or.inl rfl, Or.inl rfl, Or.inl rfl, Or.inr (by decide), trivial⟩ (h Ln)
theorem vX4_findDiscreet_35 {d : Nat} {φ : aF} {α : aA} {Q : Int → aF → aA → Prop} {x1 : Int} {x2 : Int} {x3 : Int} {x4 : Int} {x5 : Int} (h : (((φ 2 2 9) ≤ x5 →
   inR (x4 + 1) ∧ (jX4_findDiscreet_17 (d + 1) x1 x2 x3 (x4 + 1) φ α Q)) ∧
   (¬ ((φ 2 2 9) ≤ x5) →
   ((1 < (φ 4 8 192) →
     (eX7_sitterAt d 29 x4 φ α (fun r4 φ4 α4 =>
       ((0 ≤ r4 →
       (eX4_countKnowing d x4 x5 x1 x2 φ4 α4 (fun r6 φ6 α6 =>
         (((φ6 4 8 192) ≤ r6 →
         inR (x5 + 1) ∧ (jX4_findDiscreet_35 (d + 1) x1 x2 x3 x4 (x5 + 1) φ6 α6 Q)) ∧
         (¬ ((φ6 4 8 192) ≤ r6) →
         inR (x5 + 1) ∧ (jX4_findDiscreet_35 (d + 1) x1 x2 1 x4 (x5 + 1) (upf (upf (upf φ6 4 8 192 r6) 4 6 192 x4) 4 7 192 x5) α6 Q)))))) ∧
       (¬ (0 ≤ r4) →
       (eX7_sitterAt d 29 x5 φ4 α4 (fun r10 φ10 α10 =>
         ((0 ≤ r10 →
         (eX4_countKnowing d x4 x5 x1 x2 φ10 α10 (fun r12 φ12 α12 =>
           (((φ12 4 8 192) ≤ r12 →
           inR (x5 + 1) ∧ (jX4_findDiscreet_35 (d + 1) x1 x2 x3 x4 (x5 + 1) φ12 α12 Q)) ∧
           (¬ ((φ12 4 8 192) ≤ r12) →
           inR (x5 + 1) ∧ (jX4_findDiscreet_35 (d + 1) x1 x2 1 x4 (x5 + 1) (upf (upf (upf φ12 4 8 192 r12) 4 6 192 x4) 4 7 192 x5) α12 Q)))))) ∧
         (¬ (0 ≤ r10) →
         inR (x5 + 1) ∧ (jX4_findDiscreet_35 (d + 1) x1 x2 x3 x4 (x5 + 1) φ10 α10 Q)))))))))) ∧
     (¬ (1 < (φ 4 8 192)) →
     (x3 = 0 ∨ x3 = 1) ∧ (Q x3 φ α)))))) : jX4_findDiscreet_35 (d + 1) x1 x2 x3 x4 x5 φ α Q := by
  intro Ln
  refine r_iload (pc' := 37) (kX4_findDiscreet_0 21 rfl) rfl rfl ?_
  refine r_aload_n (pc' := 38) (kX4_findDiscreet_0 22 rfl) rfl rfl ?_
  refine s_getr (v := 9) (pc' := 41) (kX4_findDiscreet_0 23 rfl) rfl fkX4_18 rfl rfl (kz192 Ln) rfl (by decide) ?_
  refine s_get (x := (φ 2 2 9)) (pc' := 44) (kX4_findDiscreet_0 24 rfl) rfl fkX4_57 rfl rfl rfl (kz9 Ln) rfl ?_
  refine r_icmp_ge (t := 131) (pc' := 47) (kX4_findDiscreet_0 25 rfl) rfl rfl (fun c1 => ?_) (fun c1 => ?_)
  · have h := h.1 c1
    have g2 := h.1
    have h := h.2
    refine r_iinc (L' := [(2, 192), (0, x1), (0, x2), (0, x3), (0, (x4 + 1)), (0, x5), (9, 0)]) (pc' := 134) (kX4_findDiscreet_1 7 rfl) rfl (Nat.le_of_ble_eq_true rfl) rfl g2 rfl ?_
    refine r_goto (pc' := 17) (kX4_findDiscreet_1 8 rfl) rfl ?_
    exact r_weak (L' := [(2, 192), (0, x1), (0, x2), (0, x3), (0, (x4 + 1)), (9, 0), (9, 0)]) ⟨Or.inl rfl, Or.inl rfl, Or.inl rfl, Or.inl rfl, Or.inl rfl, Or.inr (by decide), Or.inr (by decide), trivial⟩ (h Ln)
  · have h := h.2 c1
    refine r_aload_n (pc' := 48) (kX4_findDiscreet_0 26 rfl) rfl rfl ?_
    refine s_get (x := (φ 4 8 192)) (pc' := 51) (kX4_findDiscreet_0 27 rfl) rfl fkX4_54 rfl rfl rfl (kz192 Ln) rfl ?_
    refine r_iconst 1 (pc' := 52) (kX4_findDiscreet_0 28 rfl) rfl (by unfold inR; omega) ?_
    refine r_icmp_gt (t := 57) (pc' := 55) (kX4_findDiscreet_0 29 rfl) rfl rfl (fun c3 => ?_) (fun c3 => ?_)
    · have h := h.1 c3
      refine r_aload_n (pc' := 58) (kX4_findDiscreet_0 32 rfl) rfl rfl ?_
      refine s_getr (v := 29) (pc' := 61) (kX4_findDiscreet_0 33 rfl) rfl fkX4_26 rfl rfl (kz192 Ln) rfl (by decide) ?_
      refine r_iload (pc' := 63) (kX4_findDiscreet_0 34 rfl) rfl rfl ?_
      refine s_callV (As := [(0, x4)]) (o := 29) (S := []) (S2 := fun z => [(0, z)]) (pc' := 66) (kX4_findDiscreet_0 35 rfl) rfl rfl nkX7_sitterAt mlX4_60 imX7_sitterAt rfl slX7_sitterAt rfl (Nat.le_of_ble_eq_true rfl) (Nat.le_of_ble_eq_true rfl) (kz29 Ln) h (fun z => rfl) (fun r4 φ4 α4 h => ?_)
      refine r_if_ge (t := 84) (pc' := 69) (kX4_findDiscreet_0 36 rfl) rfl rfl (fun c5 => ?_) (fun c5 => ?_)
      · have h := h.1 c5
        refine r_aload_n (pc' := 85) (kX4_findDiscreet_0 43 rfl) rfl rfl ?_
        refine r_iload (pc' := 87) (kX4_findDiscreet_0 44 rfl) rfl rfl ?_
        refine r_iload (pc' := 89) (kX4_findDiscreet_0 45 rfl) rfl rfl ?_
        refine r_iload_n (pc' := 90) (kX4_findDiscreet_0 46 rfl) rfl rfl ?_
        refine r_iload_n (pc' := 91) (kX4_findDiscreet_0 47 rfl) rfl rfl ?_
        refine s_callV (As := [(0, x4), (0, x5), (0, x1), (0, x2)]) (o := 192) (S := []) (S2 := fun z => [(0, z)]) (pc' := 94) (kX4_findDiscreet_0 48 rfl) rfl rfl nkX4_countKnowing mlX4_50 imX4_countKnowing rfl slX4_countKnowing rfl (Nat.le_of_ble_eq_true rfl) (Nat.le_of_ble_eq_true rfl) (kz192 Ln) h (fun z => rfl) (fun r6 φ6 α6 h => ?_)
        refine r_istore (L' := [(2, 192), (0, x1), (0, x2), (0, x3), (0, x4), (0, x5), (0, r6)]) (pc' := 96) (kX4_findDiscreet_0 49 rfl) rfl (Nat.le_of_ble_eq_true rfl) rfl ?_
        refine r_iload (pc' := 98) (kX4_findDiscreet_0 50 rfl) rfl rfl ?_
        refine r_aload_n (pc' := 99) (kX4_findDiscreet_0 51 rfl) rfl rfl ?_
        refine s_get (x := (φ6 4 8 192)) (pc' := 102) (kX4_findDiscreet_0 52 rfl) rfl fkX4_54 rfl rfl rfl (kz192 Ln) rfl ?_
        refine r_icmp_ge (t := 125) (pc' := 105) (kX4_findDiscreet_0 53 rfl) rfl rfl (fun c7 => ?_) (fun c7 => ?_)
        · have h := h.1 c7
          have g8 := h.1
          have h := h.2
          refine r_iinc (L' := [(2, 192), (0, x1), (0, x2), (0, x3), (0, x4), (0, (x5 + 1)), (0, r6)]) (pc' := 128) (kX4_findDiscreet_1 5 rfl) rfl (Nat.le_of_ble_eq_true rfl) rfl g8 rfl ?_
          refine r_goto (pc' := 35) (kX4_findDiscreet_1 6 rfl) rfl ?_
          exact r_weak (L' := [(2, 192), (0, x1), (0, x2), (0, x3), (0, x4), (0, (x5 + 1)), (9, 0)]) ⟨Or.inl rfl, Or.inl rfl, Or.inl rfl, Or.inl rfl, Or.inl rfl, Or.inl rfl, Or.inr (by decide), trivial⟩ (h Ln)
        · have h := h.2 c7
          refine r_iconst 1 (pc' := 106) (kX4_findDiscreet_0 54 rfl) rfl (by unfold inR; omega) ?_
          refine r_istore_n (L' := [(2, 192), (0, x1), (0, x2), (0, 1), (0, x4), (0, x5), (0, r6)]) (pc' := 107) (kX4_findDiscreet_0 55 rfl) rfl (Nat.le_of_ble_eq_true rfl) rfl ?_
          refine r_aload_n (pc' := 108) (kX4_findDiscreet_0 56 rfl) rfl rfl ?_
          refine r_iload (pc' := 110) (kX4_findDiscreet_0 57 rfl) rfl rfl ?_
          refine s_put (pc' := 113) (kX4_findDiscreet_0 58 rfl) rfl fkX4_54 fnX4_8 rfl pk_int (kz192 Ln) ?_
          refine r_aload_n (pc' := 114) (kX4_findDiscreet_0 59 rfl) rfl rfl ?_
          refine r_iload (pc' := 116) (kX4_findDiscreet_1 0 rfl) rfl rfl ?_
          refine s_put (pc' := 119) (kX4_findDiscreet_1 1 rfl) rfl fkX4_65 fnX4_6 rfl pk_int (kz192 Ln) ?_
          refine r_aload_n (pc' := 120) (kX4_findDiscreet_1 2 rfl) rfl rfl ?_
          refine r_iload (pc' := 122) (kX4_findDiscreet_1 3 rfl) rfl rfl ?_
          refine s_put (pc' := 125) (kX4_findDiscreet_1 4 rfl) rfl fkX4_68 fnX4_7 rfl pk_int (kz192 Ln) ?_
          have g9 := h.1
          have h := h.2
          refine r_iinc (L' := [(2, 192), (0, x1), (0, x2), (0, 1), (0, x4), (0, (x5 + 1)), (0, r6)]) (pc' := 128) (kX4_findDiscreet_1 5 rfl) rfl (Nat.le_of_ble_eq_true rfl) rfl g9 rfl ?_
          refine r_goto (pc' := 35) (kX4_findDiscreet_1 6 rfl) rfl ?_
          exact r_weak (L' := [(2, 192), (0, x1), (0, x2), (0, 1), (0, x4), (0, (x5 + 1)), (9, 0)]) ⟨Or.inl rfl, Or.inl rfl, Or.inl rfl, Or.inl rfl, Or.inl rfl, Or.inl rfl, Or.inr (by decide), trivial⟩ (h Ln)
      · have h := h.2 c5
        refine r_aload_n (pc' := 70) (kX4_findDiscreet_0 37 rfl) rfl rfl ?_
        refine s_getr (v := 29) (pc' := 73) (kX4_findDiscreet_0 38 rfl) rfl fkX4_26 rfl rfl (kz192 Ln) rfl (by decide) ?_
        refine r_iload (pc' := 75) (kX4_findDiscreet_0 39 rfl) rfl rfl ?_
        refine s_callV (As := [(0, x5)]) (o := 29) (S := []) (S2 := fun z => [(0, z)]) (pc' := 78) (kX4_findDiscreet_0 40 rfl) rfl rfl nkX7_sitterAt mlX4_60 imX7_sitterAt rfl slX7_sitterAt rfl (Nat.le_of_ble_eq_true rfl) (Nat.le_of_ble_eq_true rfl) (kz29 Ln) h (fun z => rfl) (fun r10 φ10 α10 h => ?_)
        refine r_if_ge (t := 84) (pc' := 81) (kX4_findDiscreet_0 41 rfl) rfl rfl (fun c11 => ?_) (fun c11 => ?_)
        · have h := h.1 c11
          refine r_aload_n (pc' := 85) (kX4_findDiscreet_0 43 rfl) rfl rfl ?_
          refine r_iload (pc' := 87) (kX4_findDiscreet_0 44 rfl) rfl rfl ?_
          refine r_iload (pc' := 89) (kX4_findDiscreet_0 45 rfl) rfl rfl ?_
          refine r_iload_n (pc' := 90) (kX4_findDiscreet_0 46 rfl) rfl rfl ?_
          refine r_iload_n (pc' := 91) (kX4_findDiscreet_0 47 rfl) rfl rfl ?_
          refine s_callV (As := [(0, x4), (0, x5), (0, x1), (0, x2)]) (o := 192) (S := []) (S2 := fun z => [(0, z)]) (pc' := 94) (kX4_findDiscreet_0 48 rfl) rfl rfl nkX4_countKnowing mlX4_50 imX4_countKnowing rfl slX4_countKnowing rfl (Nat.le_of_ble_eq_true rfl) (Nat.le_of_ble_eq_true rfl) (kz192 Ln) h (fun z => rfl) (fun r12 φ12 α12 h => ?_)
          refine r_istore (L' := [(2, 192), (0, x1), (0, x2), (0, x3), (0, x4), (0, x5), (0, r12)]) (pc' := 96) (kX4_findDiscreet_0 49 rfl) rfl (Nat.le_of_ble_eq_true rfl) rfl ?_
          refine r_iload (pc' := 98) (kX4_findDiscreet_0 50 rfl) rfl rfl ?_
          refine r_aload_n (pc' := 99) (kX4_findDiscreet_0 51 rfl) rfl rfl ?_
          refine s_get (x := (φ12 4 8 192)) (pc' := 102) (kX4_findDiscreet_0 52 rfl) rfl fkX4_54 rfl rfl rfl (kz192 Ln) rfl ?_
          refine r_icmp_ge (t := 125) (pc' := 105) (kX4_findDiscreet_0 53 rfl) rfl rfl (fun c13 => ?_) (fun c13 => ?_)
          · have h := h.1 c13
            have g14 := h.1
            have h := h.2
            refine r_iinc (L' := [(2, 192), (0, x1), (0, x2), (0, x3), (0, x4), (0, (x5 + 1)), (0, r12)]) (pc' := 128) (kX4_findDiscreet_1 5 rfl) rfl (Nat.le_of_ble_eq_true rfl) rfl g14 rfl ?_
            refine r_goto (pc' := 35) (kX4_findDiscreet_1 6 rfl) rfl ?_
            exact r_weak (L' := [(2, 192), (0, x1), (0, x2), (0, x3), (0, x4), (0, (x5 + 1)), (9, 0)]) ⟨Or.inl rfl, Or.inl rfl, Or.inl rfl, Or.inl rfl, Or.inl rfl, Or.inl rfl, Or.inr (by decide), trivial⟩ (h Ln)
          · have h := h.2 c13
            refine r_iconst 1 (pc' := 106) (kX4_findDiscreet_0 54 rfl) rfl (by unfold inR; omega) ?_
            refine r_istore_n (L' := [(2, 192), (0, x1), (0, x2), (0, 1), (0, x4), (0, x5), (0, r12)]) (pc' := 107) (kX4_findDiscreet_0 55 rfl) rfl (Nat.le_of_ble_eq_true rfl) rfl ?_
            refine r_aload_n (pc' := 108) (kX4_findDiscreet_0 56 rfl) rfl rfl ?_
            refine r_iload (pc' := 110) (kX4_findDiscreet_0 57 rfl) rfl rfl ?_
            refine s_put (pc' := 113) (kX4_findDiscreet_0 58 rfl) rfl fkX4_54 fnX4_8 rfl pk_int (kz192 Ln) ?_
            refine r_aload_n (pc' := 114) (kX4_findDiscreet_0 59 rfl) rfl rfl ?_
            refine r_iload (pc' := 116) (kX4_findDiscreet_1 0 rfl) rfl rfl ?_
            refine s_put (pc' := 119) (kX4_findDiscreet_1 1 rfl) rfl fkX4_65 fnX4_6 rfl pk_int (kz192 Ln) ?_
            refine r_aload_n (pc' := 120) (kX4_findDiscreet_1 2 rfl) rfl rfl ?_
            refine r_iload (pc' := 122) (kX4_findDiscreet_1 3 rfl) rfl rfl ?_
            refine s_put (pc' := 125) (kX4_findDiscreet_1 4 rfl) rfl fkX4_68 fnX4_7 rfl pk_int (kz192 Ln) ?_
            have g15 := h.1
            have h := h.2
            refine r_iinc (L' := [(2, 192), (0, x1), (0, x2), (0, 1), (0, x4), (0, (x5 + 1)), (0, r12)]) (pc' := 128) (kX4_findDiscreet_1 5 rfl) rfl (Nat.le_of_ble_eq_true rfl) rfl g15 rfl ?_
            refine r_goto (pc' := 35) (kX4_findDiscreet_1 6 rfl) rfl ?_
            exact r_weak (L' := [(2, 192), (0, x1), (0, x2), (0, 1), (0, x4), (0, (x5 + 1)), (9, 0)]) ⟨Or.inl rfl, Or.inl rfl, Or.inl rfl, Or.inl rfl, Or.inl rfl, Or.inl rfl, Or.inr (by decide), trivial⟩ (h Ln)
        · have h := h.2 c11
          refine r_goto (pc' := 125) (kX4_findDiscreet_0 42 rfl) rfl ?_
          have g16 := h.1
          have h := h.2
          refine r_iinc (L' := [(2, 192), (0, x1), (0, x2), (0, x3), (0, x4), (0, (x5 + 1)), (9, 0)]) (pc' := 128) (kX4_findDiscreet_1 5 rfl) rfl (Nat.le_of_ble_eq_true rfl) rfl g16 rfl ?_
          refine r_goto (pc' := 35) (kX4_findDiscreet_1 6 rfl) rfl ?_
          exact r_weak (L' := [(2, 192), (0, x1), (0, x2), (0, x3), (0, x4), (0, (x5 + 1)), (9, 0)]) ⟨Or.inl rfl, Or.inl rfl, Or.inl rfl, Or.inl rfl, Or.inl rfl, Or.inl rfl, Or.inr (by decide), trivial⟩ (h Ln)
    · have h := h.2 c3
      refine r_iload_n (pc' := 56) (kX4_findDiscreet_0 30 rfl) rfl rfl ?_
      have g17 := h.1
      have h := h.2
      exact s_zret (kX4_findDiscreet_0 31 rfl) rfl g17 h
abbrev jX4_countKnowing_28 (d : Nat) (x3 x4 x5 : Int) (φ : aF) (α : aA) (Q : Int → aF → aA → Prop) : Prop := R0 d mX4_countKnowing 28 [(2, 192), (9, 0), (9, 0), (0, x3), (0, x4), (0, x5)] [] φ α Q
theorem vX4_countKnowing_0 {d : Nat} {φ : aF} {α : aA} {Q : Int → aF → aA → Prop} {x1 : Int} {x2 : Int} {x3 : Int} {x4 : Int} (h : (eX7_copyRoom d 36 29 φ α (fun r1 φ1 α1 =>
   ((x1 = x2 →
   (jX4_countKnowing_28 (d + 1) x3 x4 0 φ1 α1 Q)) ∧
   (¬ (x1 = x2) →
   (eX7_swap d 36 x1 x2 φ1 α1 (fun r3 φ3 α3 =>
     (jX4_countKnowing_28 (d + 1) x3 x4 0 φ3 α3 Q)))))))) : eX4_countKnowing (d + 1) x1 x2 x3 x4 φ α Q := by
  intro Ln
  refine r_aload_n (pc' := 1) (kX4_countKnowing_0 0 rfl) rfl rfl ?_
  refine s_getr (v := 36) (pc' := 4) (kX4_countKnowing_0 1 rfl) rfl fkX4_30 rfl rfl (kz192 Ln) rfl (by decide) ?_
  refine r_aload_n (pc' := 5) (kX4_countKnowing_0 2 rfl) rfl rfl ?_
  refine s_getr (v := 29) (pc' := 8) (kX4_countKnowing_0 3 rfl) rfl fkX4_26 rfl rfl (kz192 Ln) rfl (by decide) ?_
  refine s_callV (As := [(2, 29)]) (o := 36) (S := []) (S2 := fun z => []) (pc' := 11) (kX4_countKnowing_0 4 rfl) rfl rfl nkX7_copyRoom mlX4_71 imX7_copyRoom rfl slX7_copyRoom rfl (Nat.le_of_ble_eq_true rfl) (Nat.le_of_ble_eq_true rfl) (kz36 Ln) h (fun z => rfl) (fun r1 φ1 α1 h => ?_)
  refine r_iload_n (pc' := 12) (kX4_countKnowing_0 5 rfl) rfl rfl ?_
  refine r_iload_n (pc' := 13) (kX4_countKnowing_0 6 rfl) rfl rfl ?_
  refine r_icmp_eq (t := 25) (pc' := 16) (kX4_countKnowing_0 7 rfl) rfl rfl (fun c2 => ?_) (fun c2 => ?_)
  · have h := h.1 c2
    refine r_iconst 0 (pc' := 26) (kX4_countKnowing_0 13 rfl) rfl (by unfold inR; omega) ?_
    refine r_istore (L' := [(2, 192), (0, x1), (0, x2), (0, x3), (0, x4), (0, 0)]) (pc' := 28) (kX4_countKnowing_0 14 rfl) rfl (Nat.le_of_ble_eq_true rfl) rfl ?_
    exact r_weak (L' := [(2, 192), (9, 0), (9, 0), (0, x3), (0, x4), (0, 0)]) ⟨Or.inl rfl, Or.inr (by decide), Or.inr (by decide), Or.inl rfl, Or.inl rfl, Or.inl rfl, trivial⟩ (h Ln)
  · have h := h.2 c2
    refine r_aload_n (pc' := 17) (kX4_countKnowing_0 8 rfl) rfl rfl ?_
    refine s_getr (v := 36) (pc' := 20) (kX4_countKnowing_0 9 rfl) rfl fkX4_30 rfl rfl (kz192 Ln) rfl (by decide) ?_
    refine r_iload_n (pc' := 21) (kX4_countKnowing_0 10 rfl) rfl rfl ?_
    refine r_iload_n (pc' := 22) (kX4_countKnowing_0 11 rfl) rfl rfl ?_
    refine s_callV (As := [(0, x1), (0, x2)]) (o := 36) (S := []) (S2 := fun z => []) (pc' := 25) (kX4_countKnowing_0 12 rfl) rfl rfl nkX7_swap mlX4_75 imX7_swap rfl slX7_swap rfl (Nat.le_of_ble_eq_true rfl) (Nat.le_of_ble_eq_true rfl) (kz36 Ln) h (fun z => rfl) (fun r3 φ3 α3 h => ?_)
    refine r_iconst 0 (pc' := 26) (kX4_countKnowing_0 13 rfl) rfl (by unfold inR; omega) ?_
    refine r_istore (L' := [(2, 192), (0, x1), (0, x2), (0, x3), (0, x4), (0, 0)]) (pc' := 28) (kX4_countKnowing_0 14 rfl) rfl (Nat.le_of_ble_eq_true rfl) rfl ?_
    exact r_weak (L' := [(2, 192), (9, 0), (9, 0), (0, x3), (0, x4), (0, 0)]) ⟨Or.inl rfl, Or.inr (by decide), Or.inr (by decide), Or.inl rfl, Or.inl rfl, Or.inl rfl, trivial⟩ (h Ln)
theorem vX4_countKnowing_28 {d : Nat} {φ : aF} {α : aA} {Q : Int → aF → aA → Prop} {x3 : Int} {x4 : Int} {x5 : Int} (h : ((x4 ≤ x5 →
   (eX7_knowing d 36 x3 φ α (fun r2 φ2 α2 =>
     (eJ6_bitCount_0f7a4 d r2 φ2 α2 (fun r3 φ3 α3 =>
     (Q r3 φ3 α3)))))) ∧
   (¬ (x4 ≤ x5) →
   (eX9_passDay d 36 φ α (fun r4 φ4 α4 =>
     inR (x5 + 1) ∧ (jX4_countKnowing_28 (d + 1) x3 x4 (x5 + 1) φ4 α4 Q)))))) : jX4_countKnowing_28 (d + 1) x3 x4 x5 φ α Q := by
  intro Ln
  refine r_iload (pc' := 30) (kX4_countKnowing_0 15 rfl) rfl rfl ?_
  refine r_iload (pc' := 32) (kX4_countKnowing_0 16 rfl) rfl rfl ?_
  refine r_icmp_ge (t := 53) (pc' := 35) (kX4_countKnowing_0 17 rfl) rfl rfl (fun c1 => ?_) (fun c1 => ?_)
  · have h := h.1 c1
    refine r_aload_n (pc' := 54) (kX4_countKnowing_0 26 rfl) rfl rfl ?_
    refine s_getr (v := 36) (pc' := 57) (kX4_countKnowing_0 27 rfl) rfl fkX4_30 rfl rfl (kz192 Ln) rfl (by decide) ?_
    refine r_iload_n (pc' := 58) (kX4_countKnowing_0 28 rfl) rfl rfl ?_
    refine s_callV (As := [(0, x3)]) (o := 36) (S := []) (S2 := fun z => [(0, z)]) (pc' := 61) (kX4_countKnowing_0 29 rfl) rfl rfl nkX7_knowing mlX4_85 imX7_knowing rfl slX7_knowing rfl (Nat.le_of_ble_eq_true rfl) (Nat.le_of_ble_eq_true rfl) (kz36 Ln) h (fun z => rfl) (fun r2 φ2 α2 h => ?_)
    refine s_callS (As := [(0, r2)]) (S := []) (S2 := fun z => [(0, z)]) (pc' := 64) (kX4_countKnowing_0 30 rfl) rfl rfl nkJ6_bitCount_0f7a4 mlX4_88 scJ6_bitCount_0f7a4 rfl (Nat.le_of_ble_eq_true rfl) (Nat.le_of_ble_eq_true rfl) h (fun z => rfl) (fun r3 φ3 α3 h => ?_)
    exact s_iret (kX4_countKnowing_0 31 rfl) rfl h
  · have h := h.2 c1
    refine r_aload_n (pc' := 36) (kX4_countKnowing_0 18 rfl) rfl rfl ?_
    refine s_getr (v := 190) (pc' := 39) (kX4_countKnowing_0 19 rfl) rfl fkX4_22 rfl rfl (kz192 Ln) rfl (by decide) ?_
    refine r_aload_n (pc' := 40) (kX4_countKnowing_0 20 rfl) rfl rfl ?_
    refine s_getr (v := 36) (pc' := 43) (kX4_countKnowing_0 21 rfl) rfl fkX4_30 rfl rfl (kz192 Ln) rfl (by decide) ?_
    refine s_callV (As := [(2, 36)]) (o := 190) (S := []) (S2 := fun z => [(0, z)]) (pc' := 46) (kX4_countKnowing_0 22 rfl) rfl rfl nkX9_passDay mlX4_79 imX9_passDay rfl slX9_passDay rfl (Nat.le_of_ble_eq_true rfl) (Nat.le_of_ble_eq_true rfl) (kz190 Ln) h (fun z => rfl) (fun r4 φ4 α4 h => ?_)
    refine r_pop (pc' := 47) (kX4_countKnowing_0 23 rfl) rfl rfl ?_
    have g5 := h.1
    have h := h.2
    refine r_iinc (L' := [(2, 192), (9, 0), (9, 0), (0, x3), (0, x4), (0, (x5 + 1))]) (pc' := 50) (kX4_countKnowing_0 24 rfl) rfl (Nat.le_of_ble_eq_true rfl) rfl g5 rfl ?_
    refine r_goto (pc' := 28) (kX4_countKnowing_0 25 rfl) rfl ?_
    exact r_weak (L' := [(2, 192), (9, 0), (9, 0), (0, x3), (0, x4), (0, (x5 + 1))]) ⟨Or.inl rfl, Or.inr (by decide), Or.inr (by decide), Or.inl rfl, Or.inl rfl, Or.inl rfl, trivial⟩ (h Ln)
abbrev jX4_findPressed_8 (d : Nat) (x1 x2 x3 x4 x5 : Int) (φ : aF) (α : aA) (Q : Int → aF → aA → Prop) : Prop := R0 d mX4_findPressed 8 [(2, 192), (0, x1), (0, x2), (0, x3), (0, x4), (0, x5), (9, 0), (9, 0)] [] φ α Q
theorem vX4_findPressed_0 {d : Nat} {φ : aF} {α : aA} {Q : Int → aF → aA → Prop} {x1 : Int} {x2 : Int} {x3 : Int} (h : (jX4_findPressed_8 (d + 1) x1 x2 x3 (iShl 1 x1) 0 φ α Q)) : eX4_findPressed (d + 1) x1 x2 x3 φ α Q := by
  intro Ln
  refine r_iconst 1 (pc' := 1) (kX4_findPressed_0 0 rfl) rfl (by unfold inR; omega) ?_
  refine r_iload_n (pc' := 2) (kX4_findPressed_0 1 rfl) rfl rfl ?_
  refine r_ishl (pc' := 3) (kX4_findPressed_0 2 rfl) rfl ?_
  refine r_istore (L' := [(2, 192), (0, x1), (0, x2), (0, x3), (0, (iShl 1 x1)), (9, 0), (9, 0), (9, 0)]) (pc' := 5) (kX4_findPressed_0 3 rfl) rfl (Nat.le_of_ble_eq_true rfl) rfl ?_
  refine r_iconst 0 (pc' := 6) (kX4_findPressed_0 4 rfl) rfl (by unfold inR; omega) ?_
  refine r_istore (L' := [(2, 192), (0, x1), (0, x2), (0, x3), (0, (iShl 1 x1)), (0, 0), (9, 0), (9, 0)]) (pc' := 8) (kX4_findPressed_0 5 rfl) rfl (Nat.le_of_ble_eq_true rfl) rfl ?_
  exact r_weak (L' := [(2, 192), (0, x1), (0, x2), (0, x3), (0, (iShl 1 x1)), (0, 0), (9, 0), (9, 0)]) ⟨Or.inl rfl, Or.inl rfl, Or.inl rfl, Or.inl rfl, Or.inl rfl, Or.inl rfl, Or.inr (by decide), Or.inr (by decide), trivial⟩ (h Ln)
abbrev jX4_findPressed_53 (d : Nat) (x1 x2 x3 x4 x5 : Int) (φ : aF) (α : aA) (Q : Int → aF → aA → Prop) : Prop := R0 d mX4_findPressed 53 [(2, 192), (0, x1), (0, x2), (0, x3), (0, x4), (0, x5), (9, 0), (9, 0)] [] φ α Q
theorem vX4_findPressed_8 {d : Nat} {φ : aF} {α : aA} {Q : Int → aF → aA → Prop} {x1 : Int} {x2 : Int} {x3 : Int} {x4 : Int} {x5 : Int} (h : (((φ 2 4 9) ≤ x5 →
   (jX4_findPressed_53 (d + 1) x1 x2 x3 x4 0 φ α Q)) ∧
   (¬ ((φ 2 4 9) ≤ x5) →
   (eX10_pick d 33 x5 φ α (fun r2 φ2 α2 =>
     ((¬ r2 = 0 →
     inR (x5 + 1) ∧ (jX4_findPressed_8 (d + 1) x1 x2 x3 x4 (x5 + 1) φ2 α2 Q)) ∧
     (r2 = 0 →
     inR (x5 + 1) ∧ (jX4_findPressed_8 (d + 1) x1 x2 x3 (iOr x4 (iShl 1 x5)) (x5 + 1) φ2 α2 Q)))))))) : jX4_findPressed_8 (d + 1) x1 x2 x3 x4 x5 φ α Q := by
  intro Ln
  refine r_iload (pc' := 10) (kX4_findPressed_0 6 rfl) rfl rfl ?_
  refine r_aload_n (pc' := 11) (kX4_findPressed_0 7 rfl) rfl rfl ?_
  refine s_getr (v := 9) (pc' := 14) (kX4_findPressed_0 8 rfl) rfl fkX4_18 rfl rfl (kz192 Ln) rfl (by decide) ?_
  refine s_get (x := (φ 2 4 9)) (pc' := 17) (kX4_findPressed_0 9 rfl) rfl fkX4_33 rfl rfl rfl (kz9 Ln) rfl ?_
  refine r_icmp_ge (t := 50) (pc' := 20) (kX4_findPressed_0 10 rfl) rfl rfl (fun c1 => ?_) (fun c1 => ?_)
  · have h := h.1 c1
    refine r_iconst 0 (pc' := 51) (kX4_findPressed_0 25 rfl) rfl (by unfold inR; omega) ?_
    refine r_istore (L' := [(2, 192), (0, x1), (0, x2), (0, x3), (0, x4), (0, 0), (9, 0), (9, 0)]) (pc' := 53) (kX4_findPressed_0 26 rfl) rfl (Nat.le_of_ble_eq_true rfl) rfl ?_
    exact r_weak (L' := [(2, 192), (0, x1), (0, x2), (0, x3), (0, x4), (0, 0), (9, 0), (9, 0)]) ⟨Or.inl rfl, Or.inl rfl, Or.inl rfl, Or.inl rfl, Or.inl rfl, Or.inl rfl, Or.inr (by decide), Or.inr (by decide), trivial⟩ (h Ln)
  · have h := h.2 c1
    refine r_aload_n (pc' := 21) (kX4_findPressed_0 11 rfl) rfl rfl ?_
    refine s_getr (v := 29) (pc' := 24) (kX4_findPressed_0 12 rfl) rfl fkX4_26 rfl rfl (kz192 Ln) rfl (by decide) ?_
    refine s_getr (v := 33) (pc' := 27) (kX4_findPressed_0 13 rfl) rfl fkX4_93 rfl rfl (kz29 Ln) rfl (by decide) ?_
    refine r_iload (pc' := 29) (kX4_findPressed_0 14 rfl) rfl rfl ?_
    refine s_callS (As := [(2, 33), (0, x5)]) (S := []) (S2 := fun z => [(0, z)]) (pc' := 32) (kX4_findPressed_0 15 rfl) rfl rfl nkX10_pick mlX4_46 scX10_pick rfl (Nat.le_of_ble_eq_true rfl) (Nat.le_of_ble_eq_true rfl) h (fun z => rfl) (fun r2 φ2 α2 h => ?_)
    refine r_if_ne (t := 44) (pc' := 35) (kX4_findPressed_0 16 rfl) rfl rfl (fun c3 => ?_) (fun c3 => ?_)
    · have h := h.1 c3
      have g4 := h.1
      have h := h.2
      refine r_iinc (L' := [(2, 192), (0, x1), (0, x2), (0, x3), (0, x4), (0, (x5 + 1)), (9, 0), (9, 0)]) (pc' := 47) (kX4_findPressed_0 23 rfl) rfl (Nat.le_of_ble_eq_true rfl) rfl g4 rfl ?_
      refine r_goto (pc' := 8) (kX4_findPressed_0 24 rfl) rfl ?_
      exact r_weak (L' := [(2, 192), (0, x1), (0, x2), (0, x3), (0, x4), (0, (x5 + 1)), (9, 0), (9, 0)]) ⟨Or.inl rfl, Or.inl rfl, Or.inl rfl, Or.inl rfl, Or.inl rfl, Or.inl rfl, Or.inr (by decide), Or.inr (by decide), trivial⟩ (h Ln)
    · have h := h.2 c3
      refine r_iload (pc' := 37) (kX4_findPressed_0 17 rfl) rfl rfl ?_
      refine r_iconst 1 (pc' := 38) (kX4_findPressed_0 18 rfl) rfl (by unfold inR; omega) ?_
      refine r_iload (pc' := 40) (kX4_findPressed_0 19 rfl) rfl rfl ?_
      refine r_ishl (pc' := 41) (kX4_findPressed_0 20 rfl) rfl ?_
      refine r_ior (pc' := 42) (kX4_findPressed_0 21 rfl) rfl ?_
      refine r_istore (L' := [(2, 192), (0, x1), (0, x2), (0, x3), (0, (iOr x4 (iShl 1 x5))), (0, x5), (9, 0), (9, 0)]) (pc' := 44) (kX4_findPressed_0 22 rfl) rfl (Nat.le_of_ble_eq_true rfl) rfl ?_
      have g5 := h.1
      have h := h.2
      refine r_iinc (L' := [(2, 192), (0, x1), (0, x2), (0, x3), (0, (iOr x4 (iShl 1 x5))), (0, (x5 + 1)), (9, 0), (9, 0)]) (pc' := 47) (kX4_findPressed_0 23 rfl) rfl (Nat.le_of_ble_eq_true rfl) rfl g5 rfl ?_
      refine r_goto (pc' := 8) (kX4_findPressed_0 24 rfl) rfl ?_
      exact r_weak (L' := [(2, 192), (0, x1), (0, x2), (0, x3), (0, (iOr x4 (iShl 1 x5))), (0, (x5 + 1)), (9, 0), (9, 0)]) ⟨Or.inl rfl, Or.inl rfl, Or.inl rfl, Or.inl rfl, Or.inl rfl, Or.inl rfl, Or.inr (by decide), Or.inr (by decide), trivial⟩ (h Ln)
abbrev jX4_findPressed_68 (d : Nat) (x1 x2 x3 x4 x5 x6 : Int) (φ : aF) (α : aA) (Q : Int → aF → aA → Prop) : Prop := R0 d mX4_findPressed 68 [(2, 192), (0, x1), (0, x2), (0, x3), (0, x4), (0, x5), (0, x6), (9, 0)] [] φ α Q
theorem vX4_findPressed_53 {d : Nat} {φ : aF} {α : aA} {Q : Int → aF → aA → Prop} {x1 : Int} {x2 : Int} {x3 : Int} {x4 : Int} {x5 : Int} (h : (((φ 2 4 9) ≤ x5 →
   (Q (-1) φ α)) ∧
   (¬ ((φ 2 4 9) ≤ x5) →
   (jX4_findPressed_68 (d + 1) x1 x2 x3 x4 x5 0 φ α Q)))) : jX4_findPressed_53 (d + 1) x1 x2 x3 x4 x5 φ α Q := by
  intro Ln
  refine r_iload (pc' := 55) (kX4_findPressed_0 27 rfl) rfl rfl ?_
  refine r_aload_n (pc' := 56) (kX4_findPressed_0 28 rfl) rfl rfl ?_
  refine s_getr (v := 9) (pc' := 59) (kX4_findPressed_0 29 rfl) rfl fkX4_18 rfl rfl (kz192 Ln) rfl (by decide) ?_
  refine s_get (x := (φ 2 4 9)) (pc' := 62) (kX4_findPressed_0 30 rfl) rfl fkX4_33 rfl rfl rfl (kz9 Ln) rfl ?_
  refine r_icmp_ge (t := 139) (pc' := 65) (kX4_findPressed_0 31 rfl) rfl rfl (fun c1 => ?_) (fun c1 => ?_)
  · have h := h.1 c1
    refine r_iconst (-1) (pc' := 140) (kX4_findPressed_1 8 rfl) rfl (by unfold inR; omega) ?_
    exact s_iret (kX4_findPressed_1 9 rfl) rfl h
  · have h := h.2 c1
    refine r_iconst 0 (pc' := 66) (kX4_findPressed_0 32 rfl) rfl (by unfold inR; omega) ?_
    refine r_istore (L' := [(2, 192), (0, x1), (0, x2), (0, x3), (0, x4), (0, x5), (0, 0), (9, 0)]) (pc' := 68) (kX4_findPressed_0 33 rfl) rfl (Nat.le_of_ble_eq_true rfl) rfl ?_
    exact r_weak (L' := [(2, 192), (0, x1), (0, x2), (0, x3), (0, x4), (0, x5), (0, 0), (9, 0)]) ⟨Or.inl rfl, Or.inl rfl, Or.inl rfl, Or.inl rfl, Or.inl rfl, Or.inl rfl, Or.inl rfl, Or.inr (by decide), trivial⟩ (h Ln)
theorem vX4_findPressed_68 {d : Nat} {φ : aF} {α : aA} {Q : Int → aF → aA → Prop} {x1 : Int} {x2 : Int} {x3 : Int} {x4 : Int} {x5 : Int} {x6 : Int} (h : (((iShl 1 (φ 2 4 9)) ≤ x6 →
   inR (x5 + 1) ∧ (jX4_findPressed_53 (d + 1) x1 x2 x3 x4 (x5 + 1) φ α Q)) ∧
   (¬ ((iShl 1 (φ 2 4 9)) ≤ x6) →
   ((¬ (iAnd x6 x4) = 0 →
     inR (x6 + 1) ∧ (jX4_findPressed_68 (d + 1) x1 x2 x3 x4 x5 (x6 + 1) φ α Q)) ∧
     ((iAnd x6 x4) = 0 →
     (eJ6_bitCount_0f7a4 d x6 φ α (fun r5 φ5 α5 =>
       ((¬ r5 = x5 →
       inR (x6 + 1) ∧ (jX4_findPressed_68 (d + 1) x1 x2 x3 x4 x5 (x6 + 1) φ5 α5 Q)) ∧
       (r5 = x5 →
       (eX4_staysUnaware d x1 x2 x3 x6 φ5 α5 (fun r8 φ8 α8 =>
         ((r8 = 0 →
         inR (x6 + 1) ∧ (jX4_findPressed_68 (d + 1) x1 x2 x3 x4 x5 (x6 + 1) φ8 α8 Q)) ∧
         (¬ (r8 = 0) →
         (Q x6 φ8 α8)))))))))))))) : jX4_findPressed_68 (d + 1) x1 x2 x3 x4 x5 x6 φ α Q := by
  intro Ln
  refine r_iload (pc' := 70) (kX4_findPressed_0 34 rfl) rfl rfl ?_
  refine r_iconst 1 (pc' := 71) (kX4_findPressed_0 35 rfl) rfl (by unfold inR; omega) ?_
  refine r_aload_n (pc' := 72) (kX4_findPressed_0 36 rfl) rfl rfl ?_
  refine s_getr (v := 9) (pc' := 75) (kX4_findPressed_0 37 rfl) rfl fkX4_18 rfl rfl (kz192 Ln) rfl (by decide) ?_
  refine s_get (x := (φ 2 4 9)) (pc' := 78) (kX4_findPressed_0 38 rfl) rfl fkX4_33 rfl rfl rfl (kz9 Ln) rfl ?_
  refine r_ishl (pc' := 79) (kX4_findPressed_0 39 rfl) rfl ?_
  refine r_icmp_ge (t := 133) (pc' := 82) (kX4_findPressed_0 40 rfl) rfl rfl (fun c1 => ?_) (fun c1 => ?_)
  · have h := h.1 c1
    have g2 := h.1
    have h := h.2
    refine r_iinc (L' := [(2, 192), (0, x1), (0, x2), (0, x3), (0, x4), (0, (x5 + 1)), (0, x6), (9, 0)]) (pc' := 136) (kX4_findPressed_1 6 rfl) rfl (Nat.le_of_ble_eq_true rfl) rfl g2 rfl ?_
    refine r_goto (pc' := 53) (kX4_findPressed_1 7 rfl) rfl ?_
    exact r_weak (L' := [(2, 192), (0, x1), (0, x2), (0, x3), (0, x4), (0, (x5 + 1)), (9, 0), (9, 0)]) ⟨Or.inl rfl, Or.inl rfl, Or.inl rfl, Or.inl rfl, Or.inl rfl, Or.inl rfl, Or.inr (by decide), Or.inr (by decide), trivial⟩ (h Ln)
  · have h := h.2 c1
    refine r_iload (pc' := 84) (kX4_findPressed_0 41 rfl) rfl rfl ?_
    refine r_iload (pc' := 86) (kX4_findPressed_0 42 rfl) rfl rfl ?_
    refine r_iand (pc' := 87) (kX4_findPressed_0 43 rfl) rfl ?_
    refine r_if_ne (t := 104) (pc' := 90) (kX4_findPressed_0 44 rfl) rfl rfl (fun c3 => ?_) (fun c3 => ?_)
    · have h := h.1 c3
      refine r_iconst 0 (pc' := 105) (kX4_findPressed_0 51 rfl) rfl (by unfold inR; omega) ?_
      refine r_istore (L' := [(2, 192), (0, x1), (0, x2), (0, x3), (0, x4), (0, x5), (0, x6), (0, 0)]) (pc' := 107) (kX4_findPressed_0 52 rfl) rfl (Nat.le_of_ble_eq_true rfl) rfl ?_
      refine r_iload (pc' := 109) (kX4_findPressed_0 53 rfl) rfl rfl ?_
      refine r_if_eq (t := 127) (pc' := 112) (kX4_findPressed_0 54 rfl) rfl rfl (fun _ => ?_) (fun cz => absurd cz (by decide))
      have g4 := h.1
      have h := h.2
      refine r_iinc (L' := [(2, 192), (0, x1), (0, x2), (0, x3), (0, x4), (0, x5), (0, (x6 + 1)), (0, 0)]) (pc' := 130) (kX4_findPressed_1 4 rfl) rfl (Nat.le_of_ble_eq_true rfl) rfl g4 rfl ?_
      refine r_goto (pc' := 68) (kX4_findPressed_1 5 rfl) rfl ?_
      exact r_weak (L' := [(2, 192), (0, x1), (0, x2), (0, x3), (0, x4), (0, x5), (0, (x6 + 1)), (9, 0)]) ⟨Or.inl rfl, Or.inl rfl, Or.inl rfl, Or.inl rfl, Or.inl rfl, Or.inl rfl, Or.inl rfl, Or.inr (by decide), trivial⟩ (h Ln)
    · have h := h.2 c3
      refine r_iload (pc' := 92) (kX4_findPressed_0 45 rfl) rfl rfl ?_
      refine s_callS (As := [(0, x6)]) (S := []) (S2 := fun z => [(0, z)]) (pc' := 95) (kX4_findPressed_0 46 rfl) rfl rfl nkJ6_bitCount_0f7a4 mlX4_88 scJ6_bitCount_0f7a4 rfl (Nat.le_of_ble_eq_true rfl) (Nat.le_of_ble_eq_true rfl) h (fun z => rfl) (fun r5 φ5 α5 h => ?_)
      refine r_iload (pc' := 97) (kX4_findPressed_0 47 rfl) rfl rfl ?_
      refine r_icmp_ne (t := 104) (pc' := 100) (kX4_findPressed_0 48 rfl) rfl rfl (fun c6 => ?_) (fun c6 => ?_)
      · have h := h.1 c6
        refine r_iconst 0 (pc' := 105) (kX4_findPressed_0 51 rfl) rfl (by unfold inR; omega) ?_
        refine r_istore (L' := [(2, 192), (0, x1), (0, x2), (0, x3), (0, x4), (0, x5), (0, x6), (0, 0)]) (pc' := 107) (kX4_findPressed_0 52 rfl) rfl (Nat.le_of_ble_eq_true rfl) rfl ?_
        refine r_iload (pc' := 109) (kX4_findPressed_0 53 rfl) rfl rfl ?_
        refine r_if_eq (t := 127) (pc' := 112) (kX4_findPressed_0 54 rfl) rfl rfl (fun _ => ?_) (fun cz => absurd cz (by decide))
        have g7 := h.1
        have h := h.2
        refine r_iinc (L' := [(2, 192), (0, x1), (0, x2), (0, x3), (0, x4), (0, x5), (0, (x6 + 1)), (0, 0)]) (pc' := 130) (kX4_findPressed_1 4 rfl) rfl (Nat.le_of_ble_eq_true rfl) rfl g7 rfl ?_
        refine r_goto (pc' := 68) (kX4_findPressed_1 5 rfl) rfl ?_
        exact r_weak (L' := [(2, 192), (0, x1), (0, x2), (0, x3), (0, x4), (0, x5), (0, (x6 + 1)), (9, 0)]) ⟨Or.inl rfl, Or.inl rfl, Or.inl rfl, Or.inl rfl, Or.inl rfl, Or.inl rfl, Or.inl rfl, Or.inr (by decide), trivial⟩ (h Ln)
      · have h := h.2 c6
        refine r_iconst 1 (pc' := 101) (kX4_findPressed_0 49 rfl) rfl (by unfold inR; omega) ?_
        refine r_goto (pc' := 105) (kX4_findPressed_0 50 rfl) rfl ?_
        refine r_istore (L' := [(2, 192), (0, x1), (0, x2), (0, x3), (0, x4), (0, x5), (0, x6), (0, 1)]) (pc' := 107) (kX4_findPressed_0 52 rfl) rfl (Nat.le_of_ble_eq_true rfl) rfl ?_
        refine r_iload (pc' := 109) (kX4_findPressed_0 53 rfl) rfl rfl ?_
        refine r_if_eq (t := 127) (pc' := 112) (kX4_findPressed_0 54 rfl) rfl rfl (fun cz => absurd cz (by decide)) (fun _ => ?_)
        refine r_aload_n (pc' := 113) (kX4_findPressed_0 55 rfl) rfl rfl ?_
        refine r_iload_n (pc' := 114) (kX4_findPressed_0 56 rfl) rfl rfl ?_
        refine r_iload_n (pc' := 115) (kX4_findPressed_0 57 rfl) rfl rfl ?_
        refine r_iload_n (pc' := 116) (kX4_findPressed_0 58 rfl) rfl rfl ?_
        refine r_iload (pc' := 118) (kX4_findPressed_0 59 rfl) rfl rfl ?_
        refine s_callV (As := [(0, x1), (0, x2), (0, x3), (0, x6)]) (o := 192) (S := []) (S2 := fun z => [(0, z)]) (pc' := 121) (kX4_findPressed_1 0 rfl) rfl rfl nkX4_staysUnaware mlX4_96 imX4_staysUnaware rfl slX4_staysUnaware rfl (Nat.le_of_ble_eq_true rfl) (Nat.le_of_ble_eq_true rfl) (kz192 Ln) h (fun z => rfl) (fun r8 φ8 α8 h => ?_)
        refine r_if_eq (t := 127) (pc' := 124) (kX4_findPressed_1 1 rfl) rfl rfl (fun c9 => ?_) (fun c9 => ?_)
        · have h := h.1 c9
          have g10 := h.1
          have h := h.2
          refine r_iinc (L' := [(2, 192), (0, x1), (0, x2), (0, x3), (0, x4), (0, x5), (0, (x6 + 1)), (0, 1)]) (pc' := 130) (kX4_findPressed_1 4 rfl) rfl (Nat.le_of_ble_eq_true rfl) rfl g10 rfl ?_
          refine r_goto (pc' := 68) (kX4_findPressed_1 5 rfl) rfl ?_
          exact r_weak (L' := [(2, 192), (0, x1), (0, x2), (0, x3), (0, x4), (0, x5), (0, (x6 + 1)), (9, 0)]) ⟨Or.inl rfl, Or.inl rfl, Or.inl rfl, Or.inl rfl, Or.inl rfl, Or.inl rfl, Or.inl rfl, Or.inr (by decide), trivial⟩ (h Ln)
        · have h := h.2 c9
          refine r_iload (pc' := 126) (kX4_findPressed_1 2 rfl) rfl rfl ?_
          exact s_iret (kX4_findPressed_1 3 rfl) rfl h
abbrev jX4_staysUnaware_14 (d : Nat) (x1 x2 x3 x4 x5 : Int) (φ : aF) (α : aA) (Q : Int → aF → aA → Prop) : Prop := R0 d mX4_staysUnaware 14 [(2, 192), (0, x1), (0, x2), (0, x3), (0, x4), (0, x5)] [] φ α Q
theorem vX4_staysUnaware_0 {d : Nat} {φ : aF} {α : aA} {Q : Int → aF → aA → Prop} {x1 : Int} {x2 : Int} {x3 : Int} {x4 : Int} (h : (eX7_copyRoom d 36 29 φ α (fun r1 φ1 α1 =>
   (jX4_staysUnaware_14 (d + 1) x1 x2 x3 x4 0 φ1 α1 Q)))) : eX4_staysUnaware (d + 1) x1 x2 x3 x4 φ α Q := by
  intro Ln
  refine r_aload_n (pc' := 1) (kX4_staysUnaware_0 0 rfl) rfl rfl ?_
  refine s_getr (v := 36) (pc' := 4) (kX4_staysUnaware_0 1 rfl) rfl fkX4_30 rfl rfl (kz192 Ln) rfl (by decide) ?_
  refine r_aload_n (pc' := 5) (kX4_staysUnaware_0 2 rfl) rfl rfl ?_
  refine s_getr (v := 29) (pc' := 8) (kX4_staysUnaware_0 3 rfl) rfl fkX4_26 rfl rfl (kz192 Ln) rfl (by decide) ?_
  refine s_callV (As := [(2, 29)]) (o := 36) (S := []) (S2 := fun z => []) (pc' := 11) (kX4_staysUnaware_0 4 rfl) rfl rfl nkX7_copyRoom mlX4_71 imX7_copyRoom rfl slX7_copyRoom rfl (Nat.le_of_ble_eq_true rfl) (Nat.le_of_ble_eq_true rfl) (kz36 Ln) h (fun z => rfl) (fun r1 φ1 α1 h => ?_)
  refine r_iconst 0 (pc' := 12) (kX4_staysUnaware_0 5 rfl) rfl (by unfold inR; omega) ?_
  refine r_istore (L' := [(2, 192), (0, x1), (0, x2), (0, x3), (0, x4), (0, 0)]) (pc' := 14) (kX4_staysUnaware_0 6 rfl) rfl (Nat.le_of_ble_eq_true rfl) rfl ?_
  exact r_weak (L' := [(2, 192), (0, x1), (0, x2), (0, x3), (0, x4), (0, 0)]) ⟨Or.inl rfl, Or.inl rfl, Or.inl rfl, Or.inl rfl, Or.inl rfl, Or.inl rfl, trivial⟩ (h Ln)
abbrev jX4_staysUnaware_56 (d : Nat) (x1 x2 x3 x5 : Int) (φ : aF) (α : aA) (Q : Int → aF → aA → Prop) : Prop := R0 d mX4_staysUnaware 56 [(2, 192), (0, x1), (0, x2), (0, x3), (9, 0), (0, x5)] [] φ α Q
theorem vX4_staysUnaware_14 {d : Nat} {φ : aF} {α : aA} {Q : Int → aF → aA → Prop} {x1 : Int} {x2 : Int} {x3 : Int} {x4 : Int} {x5 : Int} (h : (((φ 2 4 9) ≤ x5 →
   (jX4_staysUnaware_56 (d + 1) x1 x2 x3 0 φ α Q)) ∧
   (¬ ((φ 2 4 9) ≤ x5) →
   (((iAnd (iShr x4 x5) 1) = 0 →
     inR (x5 + 1) ∧ (jX4_staysUnaware_14 (d + 1) x1 x2 x3 x4 (x5 + 1) φ α Q)) ∧
     (¬ ((iAnd (iShr x4 x5) 1) = 0) →
     (eX7_empty d 36 x5 1 φ α (fun r4 φ4 α4 =>
       inR (x5 + 1) ∧ (jX4_staysUnaware_14 (d + 1) x1 x2 x3 x4 (x5 + 1) φ4 α4 Q)))))))) : jX4_staysUnaware_14 (d + 1) x1 x2 x3 x4 x5 φ α Q := by
  intro Ln
  refine r_iload (pc' := 16) (kX4_staysUnaware_0 7 rfl) rfl rfl ?_
  refine r_aload_n (pc' := 17) (kX4_staysUnaware_0 8 rfl) rfl rfl ?_
  refine s_getr (v := 9) (pc' := 20) (kX4_staysUnaware_0 9 rfl) rfl fkX4_18 rfl rfl (kz192 Ln) rfl (by decide) ?_
  refine s_get (x := (φ 2 4 9)) (pc' := 23) (kX4_staysUnaware_0 10 rfl) rfl fkX4_33 rfl rfl rfl (kz9 Ln) rfl ?_
  refine r_icmp_ge (t := 53) (pc' := 26) (kX4_staysUnaware_0 11 rfl) rfl rfl (fun c1 => ?_) (fun c1 => ?_)
  · have h := h.1 c1
    refine r_iconst 0 (pc' := 54) (kX4_staysUnaware_0 26 rfl) rfl (by unfold inR; omega) ?_
    refine r_istore (L' := [(2, 192), (0, x1), (0, x2), (0, x3), (0, x4), (0, 0)]) (pc' := 56) (kX4_staysUnaware_0 27 rfl) rfl (Nat.le_of_ble_eq_true rfl) rfl ?_
    exact r_weak (L' := [(2, 192), (0, x1), (0, x2), (0, x3), (9, 0), (0, 0)]) ⟨Or.inl rfl, Or.inl rfl, Or.inl rfl, Or.inl rfl, Or.inr (by decide), Or.inl rfl, trivial⟩ (h Ln)
  · have h := h.2 c1
    refine r_iload (pc' := 28) (kX4_staysUnaware_0 12 rfl) rfl rfl ?_
    refine r_iload (pc' := 30) (kX4_staysUnaware_0 13 rfl) rfl rfl ?_
    refine r_ishr (pc' := 31) (kX4_staysUnaware_0 14 rfl) rfl ?_
    refine r_iconst 1 (pc' := 32) (kX4_staysUnaware_0 15 rfl) rfl (by unfold inR; omega) ?_
    refine r_iand (pc' := 33) (kX4_staysUnaware_0 16 rfl) rfl ?_
    refine r_if_eq (t := 47) (pc' := 36) (kX4_staysUnaware_0 17 rfl) rfl rfl (fun c2 => ?_) (fun c2 => ?_)
    · have h := h.1 c2
      have g3 := h.1
      have h := h.2
      refine r_iinc (L' := [(2, 192), (0, x1), (0, x2), (0, x3), (0, x4), (0, (x5 + 1))]) (pc' := 50) (kX4_staysUnaware_0 24 rfl) rfl (Nat.le_of_ble_eq_true rfl) rfl g3 rfl ?_
      refine r_goto (pc' := 14) (kX4_staysUnaware_0 25 rfl) rfl ?_
      exact r_weak (L' := [(2, 192), (0, x1), (0, x2), (0, x3), (0, x4), (0, (x5 + 1))]) ⟨Or.inl rfl, Or.inl rfl, Or.inl rfl, Or.inl rfl, Or.inl rfl, Or.inl rfl, trivial⟩ (h Ln)
    · have h := h.2 c2
      refine r_aload_n (pc' := 37) (kX4_staysUnaware_0 18 rfl) rfl rfl ?_
      refine s_getr (v := 36) (pc' := 40) (kX4_staysUnaware_0 19 rfl) rfl fkX4_30 rfl rfl (kz192 Ln) rfl (by decide) ?_
      refine r_iload (pc' := 42) (kX4_staysUnaware_0 20 rfl) rfl rfl ?_
      refine r_iconst 1 (pc' := 43) (kX4_staysUnaware_0 21 rfl) rfl (by unfold inR; omega) ?_
      refine s_callV (As := [(0, x5), (0, 1)]) (o := 36) (S := []) (S2 := fun z => [(0, z)]) (pc' := 46) (kX4_staysUnaware_0 22 rfl) rfl rfl nkX7_empty mlX4_100 imX7_empty rfl slX7_empty rfl (Nat.le_of_ble_eq_true rfl) (Nat.le_of_ble_eq_true rfl) (kz36 Ln) h (fun z => rfl) (fun r4 φ4 α4 h => ?_)
      refine r_pop (pc' := 47) (kX4_staysUnaware_0 23 rfl) rfl rfl ?_
      have g5 := h.1
      have h := h.2
      refine r_iinc (L' := [(2, 192), (0, x1), (0, x2), (0, x3), (0, x4), (0, (x5 + 1))]) (pc' := 50) (kX4_staysUnaware_0 24 rfl) rfl (Nat.le_of_ble_eq_true rfl) rfl g5 rfl ?_
      refine r_goto (pc' := 14) (kX4_staysUnaware_0 25 rfl) rfl ?_
      exact r_weak (L' := [(2, 192), (0, x1), (0, x2), (0, x3), (0, x4), (0, (x5 + 1))]) ⟨Or.inl rfl, Or.inl rfl, Or.inl rfl, Or.inl rfl, Or.inl rfl, Or.inl rfl, trivial⟩ (h Ln)
theorem vX4_staysUnaware_56 {d : Nat} {φ : aF} {α : aA} {Q : Int → aF → aA → Prop} {x1 : Int} {x2 : Int} {x3 : Int} {x5 : Int} (h : ((x3 ≤ x5 →
   (Q 1 φ α)) ∧
   (¬ (x3 ≤ x5) →
   (eX9_passDay d 36 φ α (fun r2 φ2 α2 =>
     (eX7_dropsOf d 36 x1 x2 φ2 α2 (fun r3 φ3 α3 =>
     ((r3 ≤ 0 →
     inR (x5 + 1) ∧ (jX4_staysUnaware_56 (d + 1) x1 x2 x3 (x5 + 1) φ3 α3 Q)) ∧
     (¬ (r3 ≤ 0) →
     (Q 0 φ3 α3)))))))))) : jX4_staysUnaware_56 (d + 1) x1 x2 x3 x5 φ α Q := by
  intro Ln
  refine r_iload (pc' := 58) (kX4_staysUnaware_0 28 rfl) rfl rfl ?_
  refine r_iload_n (pc' := 59) (kX4_staysUnaware_0 29 rfl) rfl rfl ?_
  refine r_icmp_ge (t := 94) (pc' := 62) (kX4_staysUnaware_0 30 rfl) rfl rfl (fun c1 => ?_) (fun c1 => ?_)
  · have h := h.1 c1
    refine r_iconst 1 (pc' := 95) (kX4_staysUnaware_0 47 rfl) rfl (by unfold inR; omega) ?_
    exact s_zret (kX4_staysUnaware_0 48 rfl) rfl (Or.inr rfl) h
  · have h := h.2 c1
    refine r_aload_n (pc' := 63) (kX4_staysUnaware_0 31 rfl) rfl rfl ?_
    refine s_getr (v := 190) (pc' := 66) (kX4_staysUnaware_0 32 rfl) rfl fkX4_22 rfl rfl (kz192 Ln) rfl (by decide) ?_
    refine r_aload_n (pc' := 67) (kX4_staysUnaware_0 33 rfl) rfl rfl ?_
    refine s_getr (v := 36) (pc' := 70) (kX4_staysUnaware_0 34 rfl) rfl fkX4_30 rfl rfl (kz192 Ln) rfl (by decide) ?_
    refine s_callV (As := [(2, 36)]) (o := 190) (S := []) (S2 := fun z => [(0, z)]) (pc' := 73) (kX4_staysUnaware_0 35 rfl) rfl rfl nkX9_passDay mlX4_79 imX9_passDay rfl slX9_passDay rfl (Nat.le_of_ble_eq_true rfl) (Nat.le_of_ble_eq_true rfl) (kz190 Ln) h (fun z => rfl) (fun r2 φ2 α2 h => ?_)
    refine r_pop (pc' := 74) (kX4_staysUnaware_0 36 rfl) rfl rfl ?_
    refine r_aload_n (pc' := 75) (kX4_staysUnaware_0 37 rfl) rfl rfl ?_
    refine s_getr (v := 36) (pc' := 78) (kX4_staysUnaware_0 38 rfl) rfl fkX4_30 rfl rfl (kz192 Ln) rfl (by decide) ?_
    refine r_iload_n (pc' := 79) (kX4_staysUnaware_0 39 rfl) rfl rfl ?_
    refine r_iload_n (pc' := 80) (kX4_staysUnaware_0 40 rfl) rfl rfl ?_
    refine s_callV (As := [(0, x1), (0, x2)]) (o := 36) (S := []) (S2 := fun z => [(0, z)]) (pc' := 83) (kX4_staysUnaware_0 41 rfl) rfl rfl nkX7_dropsOf mlX4_104 imX7_dropsOf rfl slX7_dropsOf rfl (Nat.le_of_ble_eq_true rfl) (Nat.le_of_ble_eq_true rfl) (kz36 Ln) h (fun z => rfl) (fun r3 φ3 α3 h => ?_)
    refine r_if_le (t := 88) (pc' := 86) (kX4_staysUnaware_0 42 rfl) rfl rfl (fun c4 => ?_) (fun c4 => ?_)
    · have h := h.1 c4
      have g5 := h.1
      have h := h.2
      refine r_iinc (L' := [(2, 192), (0, x1), (0, x2), (0, x3), (9, 0), (0, (x5 + 1))]) (pc' := 91) (kX4_staysUnaware_0 45 rfl) rfl (Nat.le_of_ble_eq_true rfl) rfl g5 rfl ?_
      refine r_goto (pc' := 56) (kX4_staysUnaware_0 46 rfl) rfl ?_
      exact r_weak (L' := [(2, 192), (0, x1), (0, x2), (0, x3), (9, 0), (0, (x5 + 1))]) ⟨Or.inl rfl, Or.inl rfl, Or.inl rfl, Or.inl rfl, Or.inr (by decide), Or.inl rfl, trivial⟩ (h Ln)
    · have h := h.2 c4
      refine r_iconst 0 (pc' := 87) (kX4_staysUnaware_0 43 rfl) rfl (by unfold inR; omega) ?_
      exact s_zret (kX4_staysUnaware_0 44 rfl) rfl (Or.inl rfl) h
abbrev jX4_findMops_11 (d : Nat) (x1 x2 : Int) (φ : aF) (α : aA) (Q : Int → aF → aA → Prop) : Prop := R0 d mX4_findMops 11 [(2, 192), (0, x1), (0, x2), (9, 0)] [] φ α Q
theorem vX4_findMops_0 {d : Nat} {φ : aF} {α : aA} {Q : Int → aF → aA → Prop} (h : (eX7_pooled d 29 0 φ α (fun r1 φ1 α1 =>
   (jX4_findMops_11 (d + 1) r1 0 φ1 α1 Q)))) : eX4_findMops (d + 1)  φ α Q := by
  intro Ln
  refine r_aload_n (pc' := 1) (kX4_findMops_0 0 rfl) rfl rfl ?_
  refine s_getr (v := 29) (pc' := 4) (kX4_findMops_0 1 rfl) rfl fkX4_26 rfl rfl (kz192 Ln) rfl (by decide) ?_
  refine r_iconst 0 (pc' := 5) (kX4_findMops_0 2 rfl) rfl (by unfold inR; omega) ?_
  refine s_callV (As := [(0, 0)]) (o := 29) (S := []) (S2 := fun z => [(0, z)]) (pc' := 8) (kX4_findMops_0 3 rfl) rfl rfl nkX7_pooled mlX4_107 imX7_pooled rfl slX7_pooled rfl (Nat.le_of_ble_eq_true rfl) (Nat.le_of_ble_eq_true rfl) (kz29 Ln) h (fun z => rfl) (fun r1 φ1 α1 h => ?_)
  refine r_istore_n (L' := [(2, 192), (0, r1), (9, 0), (9, 0)]) (pc' := 9) (kX4_findMops_0 4 rfl) rfl (Nat.le_of_ble_eq_true rfl) rfl ?_
  refine r_iconst 0 (pc' := 10) (kX4_findMops_0 5 rfl) rfl (by unfold inR; omega) ?_
  refine r_istore_n (L' := [(2, 192), (0, r1), (0, 0), (9, 0)]) (pc' := 11) (kX4_findMops_0 6 rfl) rfl (Nat.le_of_ble_eq_true rfl) rfl ?_
  exact r_weak (L' := [(2, 192), (0, r1), (0, 0), (9, 0)]) ⟨Or.inl rfl, Or.inl rfl, Or.inl rfl, Or.inr (by decide), trivial⟩ (h Ln)
abbrev jX4_findMops_24 (d : Nat) (x1 x2 x3 : Int) (φ : aF) (α : aA) (Q : Int → aF → aA → Prop) : Prop := R0 d mX4_findMops 24 [(2, 192), (0, x1), (0, x2), (0, x3)] [] φ α Q
theorem vX4_findMops_11 {d : Nat} {φ : aF} {α : aA} {Q : Int → aF → aA → Prop} {x1 : Int} {x2 : Int} (h : (((φ 2 4 9) < x2 →
   (Q (-1) φ α)) ∧
   (¬ ((φ 2 4 9) < x2) →
   (jX4_findMops_24 (d + 1) x1 x2 0 φ α Q)))) : jX4_findMops_11 (d + 1) x1 x2 φ α Q := by
  intro Ln
  refine r_iload_n (pc' := 12) (kX4_findMops_0 7 rfl) rfl rfl ?_
  refine r_aload_n (pc' := 13) (kX4_findMops_0 8 rfl) rfl rfl ?_
  refine s_getr (v := 9) (pc' := 16) (kX4_findMops_0 9 rfl) rfl fkX4_18 rfl rfl (kz192 Ln) rfl (by decide) ?_
  refine s_get (x := (φ 2 4 9)) (pc' := 19) (kX4_findMops_0 10 rfl) rfl fkX4_33 rfl rfl rfl (kz9 Ln) rfl ?_
  refine r_icmp_gt (t := 68) (pc' := 22) (kX4_findMops_0 11 rfl) rfl rfl (fun c1 => ?_) (fun c1 => ?_)
  · have h := h.1 c1
    refine r_iconst (-1) (pc' := 69) (kX4_findMops_0 36 rfl) rfl (by unfold inR; omega) ?_
    exact s_iret (kX4_findMops_0 37 rfl) rfl h
  · have h := h.2 c1
    refine r_iconst 0 (pc' := 23) (kX4_findMops_0 12 rfl) rfl (by unfold inR; omega) ?_
    refine r_istore_n (L' := [(2, 192), (0, x1), (0, x2), (0, 0)]) (pc' := 24) (kX4_findMops_0 13 rfl) rfl (Nat.le_of_ble_eq_true rfl) rfl ?_
    exact r_weak (L' := [(2, 192), (0, x1), (0, x2), (0, 0)]) ⟨Or.inl rfl, Or.inl rfl, Or.inl rfl, Or.inl rfl, trivial⟩ (h Ln)
theorem vX4_findMops_24 {d : Nat} {φ : aF} {α : aA} {Q : Int → aF → aA → Prop} {x1 : Int} {x2 : Int} {x3 : Int} (h : (((iShl 1 (φ 2 4 9)) ≤ x3 →
   inR (x2 + 1) ∧ (jX4_findMops_11 (d + 1) x1 (x2 + 1) φ α Q)) ∧
   (¬ ((iShl 1 (φ 2 4 9)) ≤ x3) →
   (eJ6_bitCount_0f7a4 d x3 φ α (fun r3 φ3 α3 =>
     ((¬ r3 = x2 →
     inR (x3 + 1) ∧ (jX4_findMops_24 (d + 1) x1 x2 (x3 + 1) φ3 α3 Q)) ∧
     (r3 = x2 →
     (eX4_spaceOf d x3 φ3 α3 (fun r6 φ6 α6 =>
       ((r6 < x1 →
       inR (x3 + 1) ∧ (jX4_findMops_24 (d + 1) x1 x2 (x3 + 1) φ6 α6 Q)) ∧
       (¬ (r6 < x1) →
       (Q x3 φ6 α6)))))))))))) : jX4_findMops_24 (d + 1) x1 x2 x3 φ α Q := by
  intro Ln
  refine r_iload_n (pc' := 25) (kX4_findMops_0 14 rfl) rfl rfl ?_
  refine r_iconst 1 (pc' := 26) (kX4_findMops_0 15 rfl) rfl (by unfold inR; omega) ?_
  refine r_aload_n (pc' := 27) (kX4_findMops_0 16 rfl) rfl rfl ?_
  refine s_getr (v := 9) (pc' := 30) (kX4_findMops_0 17 rfl) rfl fkX4_18 rfl rfl (kz192 Ln) rfl (by decide) ?_
  refine s_get (x := (φ 2 4 9)) (pc' := 33) (kX4_findMops_0 18 rfl) rfl fkX4_33 rfl rfl rfl (kz9 Ln) rfl ?_
  refine r_ishl (pc' := 34) (kX4_findMops_0 19 rfl) rfl ?_
  refine r_icmp_ge (t := 62) (pc' := 37) (kX4_findMops_0 20 rfl) rfl rfl (fun c1 => ?_) (fun c1 => ?_)
  · have h := h.1 c1
    have g2 := h.1
    have h := h.2
    refine r_iinc (L' := [(2, 192), (0, x1), (0, (x2 + 1)), (0, x3)]) (pc' := 65) (kX4_findMops_0 34 rfl) rfl (Nat.le_of_ble_eq_true rfl) rfl g2 rfl ?_
    refine r_goto (pc' := 11) (kX4_findMops_0 35 rfl) rfl ?_
    exact r_weak (L' := [(2, 192), (0, x1), (0, (x2 + 1)), (9, 0)]) ⟨Or.inl rfl, Or.inl rfl, Or.inl rfl, Or.inr (by decide), trivial⟩ (h Ln)
  · have h := h.2 c1
    refine r_iload_n (pc' := 38) (kX4_findMops_0 21 rfl) rfl rfl ?_
    refine s_callS (As := [(0, x3)]) (S := []) (S2 := fun z => [(0, z)]) (pc' := 41) (kX4_findMops_0 22 rfl) rfl rfl nkJ6_bitCount_0f7a4 mlX4_88 scJ6_bitCount_0f7a4 rfl (Nat.le_of_ble_eq_true rfl) (Nat.le_of_ble_eq_true rfl) h (fun z => rfl) (fun r3 φ3 α3 h => ?_)
    refine r_iload_n (pc' := 42) (kX4_findMops_0 23 rfl) rfl rfl ?_
    refine r_icmp_ne (t := 56) (pc' := 45) (kX4_findMops_0 24 rfl) rfl rfl (fun c4 => ?_) (fun c4 => ?_)
    · have h := h.1 c4
      have g5 := h.1
      have h := h.2
      refine r_iinc (L' := [(2, 192), (0, x1), (0, x2), (0, (x3 + 1))]) (pc' := 59) (kX4_findMops_0 32 rfl) rfl (Nat.le_of_ble_eq_true rfl) rfl g5 rfl ?_
      refine r_goto (pc' := 24) (kX4_findMops_0 33 rfl) rfl ?_
      exact r_weak (L' := [(2, 192), (0, x1), (0, x2), (0, (x3 + 1))]) ⟨Or.inl rfl, Or.inl rfl, Or.inl rfl, Or.inl rfl, trivial⟩ (h Ln)
    · have h := h.2 c4
      refine r_aload_n (pc' := 46) (kX4_findMops_0 25 rfl) rfl rfl ?_
      refine r_iload_n (pc' := 47) (kX4_findMops_0 26 rfl) rfl rfl ?_
      refine s_callV (As := [(0, x3)]) (o := 192) (S := []) (S2 := fun z => [(0, z)]) (pc' := 50) (kX4_findMops_0 27 rfl) rfl rfl nkX4_spaceOf mlX4_110 imX4_spaceOf rfl slX4_spaceOf rfl (Nat.le_of_ble_eq_true rfl) (Nat.le_of_ble_eq_true rfl) (kz192 Ln) h (fun z => rfl) (fun r6 φ6 α6 h => ?_)
      refine r_iload_n (pc' := 51) (kX4_findMops_0 28 rfl) rfl rfl ?_
      refine r_icmp_lt (t := 56) (pc' := 54) (kX4_findMops_0 29 rfl) rfl rfl (fun c7 => ?_) (fun c7 => ?_)
      · have h := h.1 c7
        have g8 := h.1
        have h := h.2
        refine r_iinc (L' := [(2, 192), (0, x1), (0, x2), (0, (x3 + 1))]) (pc' := 59) (kX4_findMops_0 32 rfl) rfl (Nat.le_of_ble_eq_true rfl) rfl g8 rfl ?_
        refine r_goto (pc' := 24) (kX4_findMops_0 33 rfl) rfl ?_
        exact r_weak (L' := [(2, 192), (0, x1), (0, x2), (0, (x3 + 1))]) ⟨Or.inl rfl, Or.inl rfl, Or.inl rfl, Or.inl rfl, trivial⟩ (h Ln)
      · have h := h.2 c7
        refine r_iload_n (pc' := 55) (kX4_findMops_0 30 rfl) rfl rfl ?_
        exact s_iret (kX4_findMops_0 31 rfl) rfl h
abbrev jX4_spaceOf_4 (d : Nat) (x1 x2 x3 : Int) (φ : aF) (α : aA) (Q : Int → aF → aA → Prop) : Prop := R0 d mX4_spaceOf 4 [(2, 192), (0, x1), (0, x2), (0, x3)] [] φ α Q
theorem vX4_spaceOf_0 {d : Nat} {φ : aF} {α : aA} {Q : Int → aF → aA → Prop} {x1 : Int} (h : (jX4_spaceOf_4 (d + 1) x1 0 0 φ α Q)) : eX4_spaceOf (d + 1) x1 φ α Q := by
  intro Ln
  refine r_iconst 0 (pc' := 1) (kX4_spaceOf_0 0 rfl) rfl (by unfold inR; omega) ?_
  refine r_istore_n (L' := [(2, 192), (0, x1), (0, 0), (9, 0)]) (pc' := 2) (kX4_spaceOf_0 1 rfl) rfl (Nat.le_of_ble_eq_true rfl) rfl ?_
  refine r_iconst 0 (pc' := 3) (kX4_spaceOf_0 2 rfl) rfl (by unfold inR; omega) ?_
  refine r_istore_n (L' := [(2, 192), (0, x1), (0, 0), (0, 0)]) (pc' := 4) (kX4_spaceOf_0 3 rfl) rfl (Nat.le_of_ble_eq_true rfl) rfl ?_
  exact r_weak (L' := [(2, 192), (0, x1), (0, 0), (0, 0)]) ⟨Or.inl rfl, Or.inl rfl, Or.inl rfl, Or.inl rfl, trivial⟩ (h Ln)
theorem vX4_spaceOf_4 {d : Nat} {φ : aF} {α : aA} {Q : Int → aF → aA → Prop} {x1 : Int} {x2 : Int} {x3 : Int} (h : (((φ 2 4 9) ≤ x3 →
   (Q x2 φ α)) ∧
   (¬ ((φ 2 4 9) ≤ x3) →
   (((iAnd (iShr x1 x3) 1) = 0 →
     inR (x3 + 1) ∧ (jX4_spaceOf_4 (d + 1) x1 x2 (x3 + 1) φ α Q)) ∧
     (¬ ((iAnd (iShr x1 x3) 1) = 0) →
     (eX9_space d 29 x3 φ α (fun r4 φ4 α4 =>
       inR (x2 + r4) ∧ inR (x3 + 1) ∧ (jX4_spaceOf_4 (d + 1) x1 (x2 + r4) (x3 + 1) φ4 α4 Q)))))))) : jX4_spaceOf_4 (d + 1) x1 x2 x3 φ α Q := by
  intro Ln
  refine r_iload_n (pc' := 5) (kX4_spaceOf_0 4 rfl) rfl rfl ?_
  refine r_aload_n (pc' := 6) (kX4_spaceOf_0 5 rfl) rfl rfl ?_
  refine s_getr (v := 9) (pc' := 9) (kX4_spaceOf_0 6 rfl) rfl fkX4_18 rfl rfl (kz192 Ln) rfl (by decide) ?_
  refine s_get (x := (φ 2 4 9)) (pc' := 12) (kX4_spaceOf_0 7 rfl) rfl fkX4_33 rfl rfl rfl (kz9 Ln) rfl ?_
  refine r_icmp_ge (t := 44) (pc' := 15) (kX4_spaceOf_0 8 rfl) rfl rfl (fun c1 => ?_) (fun c1 => ?_)
  · have h := h.1 c1
    refine r_iload_n (pc' := 45) (kX4_spaceOf_0 26 rfl) rfl rfl ?_
    exact s_iret (kX4_spaceOf_0 27 rfl) rfl h
  · have h := h.2 c1
    refine r_iload_n (pc' := 16) (kX4_spaceOf_0 9 rfl) rfl rfl ?_
    refine r_iload_n (pc' := 17) (kX4_spaceOf_0 10 rfl) rfl rfl ?_
    refine r_ishr (pc' := 18) (kX4_spaceOf_0 11 rfl) rfl ?_
    refine r_iconst 1 (pc' := 19) (kX4_spaceOf_0 12 rfl) rfl (by unfold inR; omega) ?_
    refine r_iand (pc' := 20) (kX4_spaceOf_0 13 rfl) rfl ?_
    refine r_if_eq (t := 38) (pc' := 23) (kX4_spaceOf_0 14 rfl) rfl rfl (fun c2 => ?_) (fun c2 => ?_)
    · have h := h.1 c2
      have g3 := h.1
      have h := h.2
      refine r_iinc (L' := [(2, 192), (0, x1), (0, x2), (0, (x3 + 1))]) (pc' := 41) (kX4_spaceOf_0 24 rfl) rfl (Nat.le_of_ble_eq_true rfl) rfl g3 rfl ?_
      refine r_goto (pc' := 4) (kX4_spaceOf_0 25 rfl) rfl ?_
      exact r_weak (L' := [(2, 192), (0, x1), (0, x2), (0, (x3 + 1))]) ⟨Or.inl rfl, Or.inl rfl, Or.inl rfl, Or.inl rfl, trivial⟩ (h Ln)
    · have h := h.2 c2
      refine r_iload_n (pc' := 24) (kX4_spaceOf_0 15 rfl) rfl rfl ?_
      refine r_aload_n (pc' := 25) (kX4_spaceOf_0 16 rfl) rfl rfl ?_
      refine s_getr (v := 190) (pc' := 28) (kX4_spaceOf_0 17 rfl) rfl fkX4_22 rfl rfl (kz192 Ln) rfl (by decide) ?_
      refine r_aload_n (pc' := 29) (kX4_spaceOf_0 18 rfl) rfl rfl ?_
      refine s_getr (v := 29) (pc' := 32) (kX4_spaceOf_0 19 rfl) rfl fkX4_26 rfl rfl (kz192 Ln) rfl (by decide) ?_
      refine r_iload_n (pc' := 33) (kX4_spaceOf_0 20 rfl) rfl rfl ?_
      refine s_callV (As := [(2, 29), (0, x3)]) (o := 190) (S := [(0, x2)]) (S2 := fun z => [(0, z), (0, x2)]) (pc' := 36) (kX4_spaceOf_0 21 rfl) rfl rfl nkX9_space mlX4_113 imX9_space rfl slX9_space rfl (Nat.le_of_ble_eq_true rfl) (Nat.le_of_ble_eq_true rfl) (kz190 Ln) h (fun z => rfl) (fun r4 φ4 α4 h => ?_)
      have g5 := h.1
      have h := h.2
      refine r_iadd (pc' := 37) (kX4_spaceOf_0 22 rfl) rfl g5 ?_
      refine r_istore_n (L' := [(2, 192), (0, x1), (0, (x2 + r4)), (0, x3)]) (pc' := 38) (kX4_spaceOf_0 23 rfl) rfl (Nat.le_of_ble_eq_true rfl) rfl ?_
      have g6 := h.1
      have h := h.2
      refine r_iinc (L' := [(2, 192), (0, x1), (0, (x2 + r4)), (0, (x3 + 1))]) (pc' := 41) (kX4_spaceOf_0 24 rfl) rfl (Nat.le_of_ble_eq_true rfl) rfl g6 rfl ?_
      refine r_goto (pc' := 4) (kX4_spaceOf_0 25 rfl) rfl ?_
      exact r_weak (L' := [(2, 192), (0, x1), (0, (x2 + r4)), (0, (x3 + 1))]) ⟨Or.inl rfl, Or.inl rfl, Or.inl rfl, Or.inl rfl, trivial⟩ (h Ln)
abbrev jX4_findDesk_2 (d : Nat) (x1 x2 : Int) (φ : aF) (α : aA) (Q : Int → aF → aA → Prop) : Prop := R0 d mX4_findDesk 2 [(2, 192), (0, x1), (0, x2)] [] φ α Q
theorem vX4_findDesk_0 {d : Nat} {φ : aF} {α : aA} {Q : Int → aF → aA → Prop} {x1 : Int} (h : (jX4_findDesk_2 (d + 1) x1 0 φ α Q)) : eX4_findDesk (d + 1) x1 φ α Q := by
  intro Ln
  refine r_iconst 0 (pc' := 1) (kX4_findDesk_0 0 rfl) rfl (by unfold inR; omega) ?_
  refine r_istore_n (L' := [(2, 192), (0, x1), (0, 0)]) (pc' := 2) (kX4_findDesk_0 1 rfl) rfl (Nat.le_of_ble_eq_true rfl) rfl ?_
  exact r_weak (L' := [(2, 192), (0, x1), (0, 0)]) ⟨Or.inl rfl, Or.inl rfl, Or.inl rfl, trivial⟩ (h Ln)
theorem vX4_findDesk_2 {d : Nat} {φ : aF} {α : aA} {Q : Int → aF → aA → Prop} {x1 : Int} {x2 : Int} (h : (((φ 2 3 9) ≤ x2 →
   (eX4_findDesks d 0 0 φ α (fun r2 φ2 α2 =>
     ((r2 = 0 →
     (Q (-1) φ2 α2)) ∧
     (¬ (r2 = 0) →
     (eX10_pick d 194 x1 φ2 α2 (fun r4 φ4 α4 =>
       (Q r4 φ4 α4)))))))) ∧
   (¬ ((φ 2 3 9) ≤ x2) →
   (eX7_heldOf d 29 x2 φ α (fun r5 φ5 α5 =>
     (eX10_set d 193 x2 r5 φ5 α5 (fun r6 φ6 α6 =>
     inR (x2 + 1) ∧ (jX4_findDesk_2 (d + 1) x1 (x2 + 1) φ6 α6 Q)))))))) : jX4_findDesk_2 (d + 1) x1 x2 φ α Q := by
  intro Ln
  refine r_iload_n (pc' := 3) (kX4_findDesk_0 2 rfl) rfl rfl ?_
  refine r_aload_n (pc' := 4) (kX4_findDesk_0 3 rfl) rfl rfl ?_
  refine s_getr (v := 9) (pc' := 7) (kX4_findDesk_0 4 rfl) rfl fkX4_18 rfl rfl (kz192 Ln) rfl (by decide) ?_
  refine s_get (x := (φ 2 3 9)) (pc' := 10) (kX4_findDesk_0 5 rfl) rfl fkX4_117 rfl rfl rfl (kz9 Ln) rfl ?_
  refine r_icmp_ge (t := 35) (pc' := 13) (kX4_findDesk_0 6 rfl) rfl rfl (fun c1 => ?_) (fun c1 => ?_)
  · have h := h.1 c1
    refine r_aload_n (pc' := 36) (kX4_findDesk_0 17 rfl) rfl rfl ?_
    refine r_iconst 0 (pc' := 37) (kX4_findDesk_0 18 rfl) rfl (by unfold inR; omega) ?_
    refine r_iconst 0 (pc' := 38) (kX4_findDesk_0 19 rfl) rfl (by unfold inR; omega) ?_
    refine s_callV (As := [(0, 0), (0, 0)]) (o := 192) (S := []) (S2 := fun z => [(0, z)]) (pc' := 41) (kX4_findDesk_0 20 rfl) rfl rfl nkX4_findDesks mlX4_126 imX4_findDesks rfl slX4_findDesks rfl (Nat.le_of_ble_eq_true rfl) (Nat.le_of_ble_eq_true rfl) (kz192 Ln) h (fun z => rfl) (fun r2 φ2 α2 h => ?_)
    refine r_if_eq (t := 55) (pc' := 44) (kX4_findDesk_0 21 rfl) rfl rfl (fun c3 => ?_) (fun c3 => ?_)
    · have h := h.1 c3
      refine r_iconst (-1) (pc' := 56) (kX4_findDesk_0 27 rfl) rfl (by unfold inR; omega) ?_
      exact s_iret (kX4_findDesk_0 28 rfl) rfl h
    · have h := h.2 c3
      refine r_aload_n (pc' := 45) (kX4_findDesk_0 22 rfl) rfl rfl ?_
      refine s_getr (v := 194) (pc' := 48) (kX4_findDesk_0 23 rfl) rfl fkX4_15 rfl rfl (kz192 Ln) rfl (by decide) ?_
      refine r_iload_n (pc' := 49) (kX4_findDesk_0 24 rfl) rfl rfl ?_
      refine s_callS (As := [(2, 194), (0, x1)]) (S := []) (S2 := fun z => [(0, z)]) (pc' := 52) (kX4_findDesk_0 25 rfl) rfl rfl nkX10_pick mlX4_46 scX10_pick rfl (Nat.le_of_ble_eq_true rfl) (Nat.le_of_ble_eq_true rfl) h (fun z => rfl) (fun r4 φ4 α4 h => ?_)
      refine r_goto (pc' := 56) (kX4_findDesk_0 26 rfl) rfl ?_
      exact s_iret (kX4_findDesk_0 28 rfl) rfl h
  · have h := h.2 c1
    refine r_aload_n (pc' := 14) (kX4_findDesk_0 7 rfl) rfl rfl ?_
    refine s_getr (v := 193) (pc' := 17) (kX4_findDesk_0 8 rfl) rfl fkX4_9 rfl rfl (kz192 Ln) rfl (by decide) ?_
    refine r_iload_n (pc' := 18) (kX4_findDesk_0 9 rfl) rfl rfl ?_
    refine r_aload_n (pc' := 19) (kX4_findDesk_0 10 rfl) rfl rfl ?_
    refine s_getr (v := 29) (pc' := 22) (kX4_findDesk_0 11 rfl) rfl fkX4_26 rfl rfl (kz192 Ln) rfl (by decide) ?_
    refine r_iload_n (pc' := 23) (kX4_findDesk_0 12 rfl) rfl rfl ?_
    refine s_callV (As := [(0, x2)]) (o := 29) (S := [(0, x2), (2, 193)]) (S2 := fun z => [(0, z), (0, x2), (2, 193)]) (pc' := 26) (kX4_findDesk_0 13 rfl) rfl rfl nkX7_heldOf mlX4_120 imX7_heldOf rfl slX7_heldOf rfl (Nat.le_of_ble_eq_true rfl) (Nat.le_of_ble_eq_true rfl) (kz29 Ln) h (fun z => rfl) (fun r5 φ5 α5 h => ?_)
    refine s_callS (As := [(2, 193), (0, x2), (0, r5)]) (S := []) (S2 := fun z => []) (pc' := 29) (kX4_findDesk_0 14 rfl) rfl rfl nkX10_set mlX4_122 scX10_set rfl (Nat.le_of_ble_eq_true rfl) (Nat.le_of_ble_eq_true rfl) h (fun z => rfl) (fun r6 φ6 α6 h => ?_)
    have g7 := h.1
    have h := h.2
    refine r_iinc (L' := [(2, 192), (0, x1), (0, (x2 + 1))]) (pc' := 32) (kX4_findDesk_0 15 rfl) rfl (Nat.le_of_ble_eq_true rfl) rfl g7 rfl ?_
    refine r_goto (pc' := 2) (kX4_findDesk_0 16 rfl) rfl ?_
    exact r_weak (L' := [(2, 192), (0, x1), (0, (x2 + 1))]) ⟨Or.inl rfl, Or.inl rfl, Or.inl rfl, trivial⟩ (h Ln)
abbrev jX4_findDesks_20 (d : Nat) (x1 x2 x3 : Int) (φ : aF) (α : aA) (Q : Int → aF → aA → Prop) : Prop := R0 d mX4_findDesks 20 [(2, 192), (0, x1), (0, x2), (0, x3), (9, 0)] [] φ α Q
theorem vX4_findDesks_0 {d : Nat} {φ : aF} {α : aA} {Q : Int → aF → aA → Prop} {x1 : Int} {x2 : Int} (h : (((φ 2 3 9) ≤ x1 →
   (Q 1 φ α)) ∧
   (¬ ((φ 2 3 9) ≤ x1) →
   ((x1 < 4 →
     (jX4_findDesks_20 (d + 1) x1 x2 0 φ α Q)) ∧
     (¬ (x1 < 4) →
     (Q 1 φ α)))))) : eX4_findDesks (d + 1) x1 x2 φ α Q := by
  intro Ln
  refine r_iload_n (pc' := 1) (kX4_findDesks_0 0 rfl) rfl rfl ?_
  refine r_aload_n (pc' := 2) (kX4_findDesks_0 1 rfl) rfl rfl ?_
  refine s_getr (v := 9) (pc' := 5) (kX4_findDesks_0 2 rfl) rfl fkX4_18 rfl rfl (kz192 Ln) rfl (by decide) ?_
  refine s_get (x := (φ 2 3 9)) (pc' := 8) (kX4_findDesks_0 3 rfl) rfl fkX4_117 rfl rfl rfl (kz9 Ln) rfl ?_
  refine r_icmp_ge (t := 16) (pc' := 11) (kX4_findDesks_0 4 rfl) rfl rfl (fun c1 => ?_) (fun c1 => ?_)
  · have h := h.1 c1
    refine r_iconst 1 (pc' := 17) (kX4_findDesks_0 8 rfl) rfl (by unfold inR; omega) ?_
    exact s_zret (kX4_findDesks_0 9 rfl) rfl (Or.inr rfl) h
  · have h := h.2 c1
    refine r_iload_n (pc' := 12) (kX4_findDesks_0 5 rfl) rfl rfl ?_
    refine r_iconst 4 (pc' := 13) (kX4_findDesks_0 6 rfl) rfl (by unfold inR; omega) ?_
    refine r_icmp_lt (t := 18) (pc' := 16) (kX4_findDesks_0 7 rfl) rfl rfl (fun c2 => ?_) (fun c2 => ?_)
    · have h := h.1 c2
      refine r_iconst 0 (pc' := 19) (kX4_findDesks_0 10 rfl) rfl (by unfold inR; omega) ?_
      refine r_istore_n (L' := [(2, 192), (0, x1), (0, x2), (0, 0), (9, 0)]) (pc' := 20) (kX4_findDesks_0 11 rfl) rfl (Nat.le_of_ble_eq_true rfl) rfl ?_
      exact r_weak (L' := [(2, 192), (0, x1), (0, x2), (0, 0), (9, 0)]) ⟨Or.inl rfl, Or.inl rfl, Or.inl rfl, Or.inl rfl, Or.inr (by decide), trivial⟩ (h Ln)
    · have h := h.2 c2
      refine r_iconst 1 (pc' := 17) (kX4_findDesks_0 8 rfl) rfl (by unfold inR; omega) ?_
      exact s_zret (kX4_findDesks_0 9 rfl) rfl (Or.inr rfl) h
theorem vX4_findDesks_20 {d : Nat} {φ : aF} {α : aA} {Q : Int → aF → aA → Prop} {x1 : Int} {x2 : Int} {x3 : Int} (h : (((φ 2 4 9) ≤ x3 →
   (Q 0 φ α)) ∧
   (¬ ((φ 2 4 9) ≤ x3) →
   ((¬ (iAnd (iShr x2 x3) 1) = 0 →
     inR (x3 + 1) ∧ (jX4_findDesks_20 (d + 1) x1 x2 (x3 + 1) φ α Q)) ∧
     ((iAnd (iShr x2 x3) 1) = 0 →
     (eX10_pick d 11 x3 φ α (fun r4 φ4 α4 =>
       (eX10_pick d 193 x1 φ4 α4 (fun r5 φ5 α5 =>
       ((r4 < r5 →
       inR (x3 + 1) ∧ (jX4_findDesks_20 (d + 1) x1 x2 (x3 + 1) φ5 α5 Q)) ∧
       (¬ (r4 < r5) →
       (eX10_set d 194 x1 x3 φ5 α5 (fun r8 φ8 α8 =>
         inR (x1 + 1) ∧ (eX4_findDesks d (x1 + 1) (iOr x2 (iShl 1 x3)) φ8 α8 (fun r10 φ10 α10 =>
         ((r10 = 0 →
         inR (x3 + 1) ∧ (jX4_findDesks_20 (d + 1) x1 x2 (x3 + 1) φ10 α10 Q)) ∧
         (¬ (r10 = 0) →
         (Q 1 φ10 α10)))))))))))))))))) : jX4_findDesks_20 (d + 1) x1 x2 x3 φ α Q := by
  intro Ln
  refine r_iload_n (pc' := 21) (kX4_findDesks_0 12 rfl) rfl rfl ?_
  refine r_aload_n (pc' := 22) (kX4_findDesks_0 13 rfl) rfl rfl ?_
  refine s_getr (v := 9) (pc' := 25) (kX4_findDesks_0 14 rfl) rfl fkX4_18 rfl rfl (kz192 Ln) rfl (by decide) ?_
  refine s_get (x := (φ 2 4 9)) (pc' := 28) (kX4_findDesks_0 15 rfl) rfl fkX4_33 rfl rfl rfl (kz9 Ln) rfl ?_
  refine r_icmp_ge (t := 105) (pc' := 31) (kX4_findDesks_0 16 rfl) rfl rfl (fun c1 => ?_) (fun c1 => ?_)
  · have h := h.1 c1
    refine r_iconst 0 (pc' := 106) (kX4_findDesks_0 59 rfl) rfl (by unfold inR; omega) ?_
    exact s_zret (kX4_findDesks_1 0 rfl) rfl (Or.inl rfl) h
  · have h := h.2 c1
    refine r_iload_n (pc' := 32) (kX4_findDesks_0 17 rfl) rfl rfl ?_
    refine r_iload_n (pc' := 33) (kX4_findDesks_0 18 rfl) rfl rfl ?_
    refine r_ishr (pc' := 34) (kX4_findDesks_0 19 rfl) rfl ?_
    refine r_iconst 1 (pc' := 35) (kX4_findDesks_0 20 rfl) rfl (by unfold inR; omega) ?_
    refine r_iand (pc' := 36) (kX4_findDesks_0 21 rfl) rfl ?_
    refine r_if_ne (t := 43) (pc' := 39) (kX4_findDesks_0 22 rfl) rfl rfl (fun c2 => ?_) (fun c2 => ?_)
    · have h := h.1 c2
      refine r_iconst 0 (pc' := 44) (kX4_findDesks_0 25 rfl) rfl (by unfold inR; omega) ?_
      refine r_istore (L' := [(2, 192), (0, x1), (0, x2), (0, x3), (0, 0)]) (pc' := 46) (kX4_findDesks_0 26 rfl) rfl (Nat.le_of_ble_eq_true rfl) rfl ?_
      refine r_iload (pc' := 48) (kX4_findDesks_0 27 rfl) rfl rfl ?_
      refine r_if_eq (t := 99) (pc' := 51) (kX4_findDesks_0 28 rfl) rfl rfl (fun _ => ?_) (fun cz => absurd cz (by decide))
      have g3 := h.1
      have h := h.2
      refine r_iinc (L' := [(2, 192), (0, x1), (0, x2), (0, (x3 + 1)), (0, 0)]) (pc' := 102) (kX4_findDesks_0 57 rfl) rfl (Nat.le_of_ble_eq_true rfl) rfl g3 rfl ?_
      refine r_goto (pc' := 20) (kX4_findDesks_0 58 rfl) rfl ?_
      exact r_weak (L' := [(2, 192), (0, x1), (0, x2), (0, (x3 + 1)), (9, 0)]) ⟨Or.inl rfl, Or.inl rfl, Or.inl rfl, Or.inl rfl, Or.inr (by decide), trivial⟩ (h Ln)
    · have h := h.2 c2
      refine r_iconst 1 (pc' := 40) (kX4_findDesks_0 23 rfl) rfl (by unfold inR; omega) ?_
      refine r_goto (pc' := 44) (kX4_findDesks_0 24 rfl) rfl ?_
      refine r_istore (L' := [(2, 192), (0, x1), (0, x2), (0, x3), (0, 1)]) (pc' := 46) (kX4_findDesks_0 26 rfl) rfl (Nat.le_of_ble_eq_true rfl) rfl ?_
      refine r_iload (pc' := 48) (kX4_findDesks_0 27 rfl) rfl rfl ?_
      refine r_if_eq (t := 99) (pc' := 51) (kX4_findDesks_0 28 rfl) rfl rfl (fun cz => absurd cz (by decide)) (fun _ => ?_)
      refine r_aload_n (pc' := 52) (kX4_findDesks_0 29 rfl) rfl rfl ?_
      refine s_getr (v := 9) (pc' := 55) (kX4_findDesks_0 30 rfl) rfl fkX4_18 rfl rfl (kz192 Ln) rfl (by decide) ?_
      refine s_getr (v := 11) (pc' := 58) (kX4_findDesks_0 31 rfl) rfl fkX4_43 rfl rfl (kz9 Ln) rfl (by decide) ?_
      refine r_iload_n (pc' := 59) (kX4_findDesks_0 32 rfl) rfl rfl ?_
      refine s_callS (As := [(2, 11), (0, x3)]) (S := []) (S2 := fun z => [(0, z)]) (pc' := 62) (kX4_findDesks_0 33 rfl) rfl rfl nkX10_pick mlX4_46 scX10_pick rfl (Nat.le_of_ble_eq_true rfl) (Nat.le_of_ble_eq_true rfl) h (fun z => rfl) (fun r4 φ4 α4 h => ?_)
      refine r_aload_n (pc' := 63) (kX4_findDesks_0 34 rfl) rfl rfl ?_
      refine s_getr (v := 193) (pc' := 66) (kX4_findDesks_0 35 rfl) rfl fkX4_9 rfl rfl (kz192 Ln) rfl (by decide) ?_
      refine r_iload_n (pc' := 67) (kX4_findDesks_0 36 rfl) rfl rfl ?_
      refine s_callS (As := [(2, 193), (0, x1)]) (S := [(0, r4)]) (S2 := fun z => [(0, z), (0, r4)]) (pc' := 70) (kX4_findDesks_0 37 rfl) rfl rfl nkX10_pick mlX4_46 scX10_pick rfl (Nat.le_of_ble_eq_true rfl) (Nat.le_of_ble_eq_true rfl) h (fun z => rfl) (fun r5 φ5 α5 h => ?_)
      refine r_icmp_lt (t := 99) (pc' := 73) (kX4_findDesks_0 38 rfl) rfl rfl (fun c6 => ?_) (fun c6 => ?_)
      · have h := h.1 c6
        have g7 := h.1
        have h := h.2
        refine r_iinc (L' := [(2, 192), (0, x1), (0, x2), (0, (x3 + 1)), (0, 1)]) (pc' := 102) (kX4_findDesks_0 57 rfl) rfl (Nat.le_of_ble_eq_true rfl) rfl g7 rfl ?_
        refine r_goto (pc' := 20) (kX4_findDesks_0 58 rfl) rfl ?_
        exact r_weak (L' := [(2, 192), (0, x1), (0, x2), (0, (x3 + 1)), (9, 0)]) ⟨Or.inl rfl, Or.inl rfl, Or.inl rfl, Or.inl rfl, Or.inr (by decide), trivial⟩ (h Ln)
      · have h := h.2 c6
        refine r_aload_n (pc' := 74) (kX4_findDesks_0 39 rfl) rfl rfl ?_
        refine s_getr (v := 194) (pc' := 77) (kX4_findDesks_0 40 rfl) rfl fkX4_15 rfl rfl (kz192 Ln) rfl (by decide) ?_
        refine r_iload_n (pc' := 78) (kX4_findDesks_0 41 rfl) rfl rfl ?_
        refine r_iload_n (pc' := 79) (kX4_findDesks_0 42 rfl) rfl rfl ?_
        refine s_callS (As := [(2, 194), (0, x1), (0, x3)]) (S := []) (S2 := fun z => []) (pc' := 82) (kX4_findDesks_0 43 rfl) rfl rfl nkX10_set mlX4_122 scX10_set rfl (Nat.le_of_ble_eq_true rfl) (Nat.le_of_ble_eq_true rfl) h (fun z => rfl) (fun r8 φ8 α8 h => ?_)
        refine r_aload_n (pc' := 83) (kX4_findDesks_0 44 rfl) rfl rfl ?_
        refine r_iload_n (pc' := 84) (kX4_findDesks_0 45 rfl) rfl rfl ?_
        refine r_iconst 1 (pc' := 85) (kX4_findDesks_0 46 rfl) rfl (by unfold inR; omega) ?_
        have g9 := h.1
        have h := h.2
        refine r_iadd (pc' := 86) (kX4_findDesks_0 47 rfl) rfl g9 ?_
        refine r_iload_n (pc' := 87) (kX4_findDesks_0 48 rfl) rfl rfl ?_
        refine r_iconst 1 (pc' := 88) (kX4_findDesks_0 49 rfl) rfl (by unfold inR; omega) ?_
        refine r_iload_n (pc' := 89) (kX4_findDesks_0 50 rfl) rfl rfl ?_
        refine r_ishl (pc' := 90) (kX4_findDesks_0 51 rfl) rfl ?_
        refine r_ior (pc' := 91) (kX4_findDesks_0 52 rfl) rfl ?_
        refine s_callV (As := [(0, (x1 + 1)), (0, (iOr x2 (iShl 1 x3)))]) (o := 192) (S := []) (S2 := fun z => [(0, z)]) (pc' := 94) (kX4_findDesks_0 53 rfl) rfl rfl nkX4_findDesks mlX4_126 imX4_findDesks rfl slX4_findDesks rfl (Nat.le_of_ble_eq_true rfl) (Nat.le_of_ble_eq_true rfl) (kz192 Ln) h (fun z => rfl) (fun r10 φ10 α10 h => ?_)
        refine r_if_eq (t := 99) (pc' := 97) (kX4_findDesks_0 54 rfl) rfl rfl (fun c11 => ?_) (fun c11 => ?_)
        · have h := h.1 c11
          have g12 := h.1
          have h := h.2
          refine r_iinc (L' := [(2, 192), (0, x1), (0, x2), (0, (x3 + 1)), (0, 1)]) (pc' := 102) (kX4_findDesks_0 57 rfl) rfl (Nat.le_of_ble_eq_true rfl) rfl g12 rfl ?_
          refine r_goto (pc' := 20) (kX4_findDesks_0 58 rfl) rfl ?_
          exact r_weak (L' := [(2, 192), (0, x1), (0, x2), (0, (x3 + 1)), (9, 0)]) ⟨Or.inl rfl, Or.inl rfl, Or.inl rfl, Or.inl rfl, Or.inr (by decide), trivial⟩ (h Ln)
        · have h := h.2 c11
          refine r_iconst 1 (pc' := 98) (kX4_findDesks_0 55 rfl) rfl (by unfold inR; omega) ?_
          exact s_zret (kX4_findDesks_0 56 rfl) rfl (Or.inr rfl) h
abbrev jX0_areRows_29 (d : Nat) (x1 x2 : Int) (φ : aF) (α : aA) (Q : Int → aF → aA → Prop) : Prop := R0 d mX0_areRows 29 [(2, 195), (2, x1), (0, x2), (9, 0)] [] φ α Q
theorem vX0_areRows_0 {d : Nat} {φ : aF} {α : aA} {Q : Int → aF → aA → Prop} {x1 : Int} {nx1 : Nat} (hx1 : isRow x1 nx1) (h : (((φ 6 1 x1) = 0 →
   (Q 0 φ α)) ∧
   (¬ ((φ 6 1 x1) = 0) →
   inR (Int.tmod (φ 6 1 x1) 4) ∧ ((¬ (Int.tmod (φ 6 1 x1) 4) = 0 →
     (Q 0 φ α)) ∧
     ((Int.tmod (φ 6 1 x1) 4) = 0 →
     (((φ 6 1 x1) ≤ 64 →
       (jX0_areRows_29 (d + 1) x1 0 φ α Q)) ∧
       (¬ ((φ 6 1 x1) ≤ 64) →
       (Q 0 φ α)))))))) : eX0_areRows (d + 1) x1 φ α Q := by
  intro Ln
  refine r_aload_n (pc' := 1) (kX0_areRows_0 0 rfl) rfl rfl ?_
  refine s_get (x := (φ 6 1 x1)) (pc' := 4) (kX0_areRows_0 1 rfl) rfl fkX0_34 rfl rfl rfl (hx1.1 Ln) rfl ?_
  refine r_if_eq (t := 25) (pc' := 7) (kX0_areRows_0 2 rfl) rfl rfl (fun c1 => ?_) (fun c1 => ?_)
  · have h := h.1 c1
    refine r_iconst 0 (pc' := 26) (kX0_areRows_0 12 rfl) rfl (by unfold inR; omega) ?_
    exact s_zret (kX0_areRows_0 13 rfl) rfl (Or.inl rfl) h
  · have h := h.2 c1
    refine r_aload_n (pc' := 8) (kX0_areRows_0 3 rfl) rfl rfl ?_
    refine s_get (x := (φ 6 1 x1)) (pc' := 11) (kX0_areRows_0 4 rfl) rfl fkX0_34 rfl rfl rfl (hx1.1 Ln) rfl ?_
    refine r_iconst 4 (pc' := 12) (kX0_areRows_0 5 rfl) rfl (by unfold inR; omega) ?_
    have g2 := h.1
    have h := h.2
    refine r_irem (pc' := 13) (kX0_areRows_0 6 rfl) rfl ⟨by decide, g2⟩ ?_
    refine r_if_ne (t := 25) (pc' := 16) (kX0_areRows_0 7 rfl) rfl rfl (fun c3 => ?_) (fun c3 => ?_)
    · have h := h.1 c3
      refine r_iconst 0 (pc' := 26) (kX0_areRows_0 12 rfl) rfl (by unfold inR; omega) ?_
      exact s_zret (kX0_areRows_0 13 rfl) rfl (Or.inl rfl) h
    · have h := h.2 c3
      refine r_aload_n (pc' := 17) (kX0_areRows_0 8 rfl) rfl rfl ?_
      refine s_get (x := (φ 6 1 x1)) (pc' := 20) (kX0_areRows_0 9 rfl) rfl fkX0_34 rfl rfl rfl (hx1.1 Ln) rfl ?_
      refine r_bipush 64 (pc' := 22) (kX0_areRows_0 10 rfl) rfl ⟨by unfold inR; omega, rfl⟩ ?_
      refine r_icmp_le (t := 27) (pc' := 25) (kX0_areRows_0 11 rfl) rfl rfl (fun c4 => ?_) (fun c4 => ?_)
      · have h := h.1 c4
        refine r_iconst 0 (pc' := 28) (kX0_areRows_0 14 rfl) rfl (by unfold inR; omega) ?_
        refine r_istore_n (L' := [(2, 195), (2, x1), (0, 0), (9, 0)]) (pc' := 29) (kX0_areRows_0 15 rfl) rfl (Nat.le_of_ble_eq_true rfl) rfl ?_
        exact r_weak (L' := [(2, 195), (2, x1), (0, 0), (9, 0)]) ⟨Or.inl rfl, Or.inl rfl, Or.inl rfl, Or.inr (by decide), trivial⟩ (h Ln)
      · have h := h.2 c4
        refine r_iconst 0 (pc' := 26) (kX0_areRows_0 12 rfl) rfl (by unfold inR; omega) ?_
        exact s_zret (kX0_areRows_0 13 rfl) rfl (Or.inl rfl) h
theorem vX0_areRows_29 {d : Nat} {φ : aF} {α : aA} {Q : Int → aF → aA → Prop} {x1 : Int} {nx1 : Nat} {x2 : Int} (hx1 : isRow x1 nx1) (h : (((φ 6 1 x1) ≤ x2 →
   (Q 1 φ α)) ∧
   (¬ ((φ 6 1 x1) ≤ x2) →
   (eX6_at d x1 x2 φ α (fun r2 φ2 α2 =>
     ((30 < r2 →
     (Q 0 φ2 α2)) ∧
     (¬ (30 < r2) →
     inR (x2 + 1) ∧ (eX6_at d x1 (x2 + 1) φ2 α2 (fun r5 φ5 α5 =>
       inR (x2 + 2) ∧ (eX6_at d x1 (x2 + 2) φ5 α5 (fun r7 φ7 α7 =>
       (eX2_areThere d 9 r5 r7 φ7 α7 (fun r8 φ8 α8 =>
       ((r8 = 0 →
       (Q 0 φ8 α8)) ∧
       (¬ (r8 = 0) →
       inR (x2 + 3) ∧ (eX6_at d x1 (x2 + 3) φ8 α8 (fun r11 φ11 α11 =>
         ((99 < r11 →
         (Q 0 φ11 α11)) ∧
         (¬ (99 < r11) →
         inR (x2 + 4) ∧ (jX0_areRows_29 (d + 1) x1 (x2 + 4) φ11 α11 Q)))))))))))))))))))) : jX0_areRows_29 (d + 1) x1 x2 φ α Q := by
  intro Ln
  refine r_iload_n (pc' := 30) (kX0_areRows_0 16 rfl) rfl rfl ?_
  refine r_aload_n (pc' := 31) (kX0_areRows_0 17 rfl) rfl rfl ?_
  refine s_get (x := (φ 6 1 x1)) (pc' := 34) (kX0_areRows_0 18 rfl) rfl fkX0_34 rfl rfl rfl (hx1.1 Ln) rfl ?_
  refine r_icmp_ge (t := 101) (pc' := 37) (kX0_areRows_0 19 rfl) rfl rfl (fun c1 => ?_) (fun c1 => ?_)
  · have h := h.1 c1
    refine r_iconst 1 (pc' := 102) (kX0_areRows_0 56 rfl) rfl (by unfold inR; omega) ?_
    exact s_zret (kX0_areRows_0 57 rfl) rfl (Or.inr rfl) h
  · have h := h.2 c1
    refine r_aload_n (pc' := 38) (kX0_areRows_0 20 rfl) rfl rfl ?_
    refine r_iload_n (pc' := 39) (kX0_areRows_0 21 rfl) rfl rfl ?_
    refine s_callV (As := [(0, x2)]) (o := x1) (S := []) (S2 := fun z => [(0, z)]) (pc' := 42) (kX0_areRows_0 22 rfl) rfl rfl nkX6_at mlX0_40 imX6_at rfl slX6_at rfl (Nat.le_of_ble_eq_true rfl) (Nat.le_of_ble_eq_true rfl) (hx1.1 Ln) h (fun z => rfl) (fun r2 φ2 α2 h => ?_)
    refine r_bipush 30 (pc' := 44) (kX0_areRows_0 23 rfl) rfl ⟨by unfold inR; omega, rfl⟩ ?_
    refine r_icmp_gt (t := 87) (pc' := 47) (kX0_areRows_0 24 rfl) rfl rfl (fun c3 => ?_) (fun c3 => ?_)
    · have h := h.1 c3
      refine r_iconst 0 (pc' := 88) (kX0_areRows_0 48 rfl) rfl (by unfold inR; omega) ?_
      refine r_istore_n (L' := [(2, 195), (2, x1), (0, x2), (0, 0)]) (pc' := 89) (kX0_areRows_0 49 rfl) rfl (Nat.le_of_ble_eq_true rfl) rfl ?_
      refine r_iload_n (pc' := 90) (kX0_areRows_0 50 rfl) rfl rfl ?_
      refine r_if_ne (t := 95) (pc' := 93) (kX0_areRows_0 51 rfl) rfl rfl (fun cz => absurd cz (by decide)) (fun _ => ?_)
      refine r_iconst 0 (pc' := 94) (kX0_areRows_0 52 rfl) rfl (by unfold inR; omega) ?_
      exact s_zret (kX0_areRows_0 53 rfl) rfl (Or.inl rfl) h
    · have h := h.2 c3
      refine r_aload_n (pc' := 48) (kX0_areRows_0 25 rfl) rfl rfl ?_
      refine s_getr (v := 9) (pc' := 51) (kX0_areRows_0 26 rfl) rfl fkX0_15 rfl rfl (kz195 Ln) rfl (by decide) ?_
      refine r_aload_n (pc' := 52) (kX0_areRows_0 27 rfl) rfl rfl ?_
      refine r_iload_n (pc' := 53) (kX0_areRows_0 28 rfl) rfl rfl ?_
      refine r_iconst 1 (pc' := 54) (kX0_areRows_0 29 rfl) rfl (by unfold inR; omega) ?_
      have g4 := h.1
      have h := h.2
      refine r_iadd (pc' := 55) (kX0_areRows_0 30 rfl) rfl g4 ?_
      refine s_callV (As := [(0, (x2 + 1))]) (o := x1) (S := [(2, 9)]) (S2 := fun z => [(0, z), (2, 9)]) (pc' := 58) (kX0_areRows_0 31 rfl) rfl rfl nkX6_at mlX0_40 imX6_at rfl slX6_at rfl (Nat.le_of_ble_eq_true rfl) (Nat.le_of_ble_eq_true rfl) (hx1.1 Ln) h (fun z => rfl) (fun r5 φ5 α5 h => ?_)
      refine r_aload_n (pc' := 59) (kX0_areRows_0 32 rfl) rfl rfl ?_
      refine r_iload_n (pc' := 60) (kX0_areRows_0 33 rfl) rfl rfl ?_
      refine r_iconst 2 (pc' := 61) (kX0_areRows_0 34 rfl) rfl (by unfold inR; omega) ?_
      have g6 := h.1
      have h := h.2
      refine r_iadd (pc' := 62) (kX0_areRows_0 35 rfl) rfl g6 ?_
      refine s_callV (As := [(0, (x2 + 2))]) (o := x1) (S := [(0, r5), (2, 9)]) (S2 := fun z => [(0, z), (0, r5), (2, 9)]) (pc' := 65) (kX0_areRows_0 36 rfl) rfl rfl nkX6_at mlX0_40 imX6_at rfl slX6_at rfl (Nat.le_of_ble_eq_true rfl) (Nat.le_of_ble_eq_true rfl) (hx1.1 Ln) h (fun z => rfl) (fun r7 φ7 α7 h => ?_)
      refine s_callV (As := [(0, r5), (0, r7)]) (o := 9) (S := []) (S2 := fun z => [(0, z)]) (pc' := 68) (kX0_areRows_0 37 rfl) rfl rfl nkX2_areThere mlX0_44 imX2_areThere rfl slX2_areThere rfl (Nat.le_of_ble_eq_true rfl) (Nat.le_of_ble_eq_true rfl) (kz9 Ln) h (fun z => rfl) (fun r8 φ8 α8 h => ?_)
      refine r_if_eq (t := 87) (pc' := 71) (kX0_areRows_0 38 rfl) rfl rfl (fun c9 => ?_) (fun c9 => ?_)
      · have h := h.1 c9
        refine r_iconst 0 (pc' := 88) (kX0_areRows_0 48 rfl) rfl (by unfold inR; omega) ?_
        refine r_istore_n (L' := [(2, 195), (2, x1), (0, x2), (0, 0)]) (pc' := 89) (kX0_areRows_0 49 rfl) rfl (Nat.le_of_ble_eq_true rfl) rfl ?_
        refine r_iload_n (pc' := 90) (kX0_areRows_0 50 rfl) rfl rfl ?_
        refine r_if_ne (t := 95) (pc' := 93) (kX0_areRows_0 51 rfl) rfl rfl (fun cz => absurd cz (by decide)) (fun _ => ?_)
        refine r_iconst 0 (pc' := 94) (kX0_areRows_0 52 rfl) rfl (by unfold inR; omega) ?_
        exact s_zret (kX0_areRows_0 53 rfl) rfl (Or.inl rfl) h
      · have h := h.2 c9
        refine r_aload_n (pc' := 72) (kX0_areRows_0 39 rfl) rfl rfl ?_
        refine r_iload_n (pc' := 73) (kX0_areRows_0 40 rfl) rfl rfl ?_
        refine r_iconst 3 (pc' := 74) (kX0_areRows_0 41 rfl) rfl (by unfold inR; omega) ?_
        have g10 := h.1
        have h := h.2
        refine r_iadd (pc' := 75) (kX0_areRows_0 42 rfl) rfl g10 ?_
        refine s_callV (As := [(0, (x2 + 3))]) (o := x1) (S := []) (S2 := fun z => [(0, z)]) (pc' := 78) (kX0_areRows_0 43 rfl) rfl rfl nkX6_at mlX0_40 imX6_at rfl slX6_at rfl (Nat.le_of_ble_eq_true rfl) (Nat.le_of_ble_eq_true rfl) (hx1.1 Ln) h (fun z => rfl) (fun r11 φ11 α11 h => ?_)
        refine r_bipush 99 (pc' := 80) (kX0_areRows_0 44 rfl) rfl ⟨by unfold inR; omega, rfl⟩ ?_
        refine r_icmp_gt (t := 87) (pc' := 83) (kX0_areRows_0 45 rfl) rfl rfl (fun c12 => ?_) (fun c12 => ?_)
        · have h := h.1 c12
          refine r_iconst 0 (pc' := 88) (kX0_areRows_0 48 rfl) rfl (by unfold inR; omega) ?_
          refine r_istore_n (L' := [(2, 195), (2, x1), (0, x2), (0, 0)]) (pc' := 89) (kX0_areRows_0 49 rfl) rfl (Nat.le_of_ble_eq_true rfl) rfl ?_
          refine r_iload_n (pc' := 90) (kX0_areRows_0 50 rfl) rfl rfl ?_
          refine r_if_ne (t := 95) (pc' := 93) (kX0_areRows_0 51 rfl) rfl rfl (fun cz => absurd cz (by decide)) (fun _ => ?_)
          refine r_iconst 0 (pc' := 94) (kX0_areRows_0 52 rfl) rfl (by unfold inR; omega) ?_
          exact s_zret (kX0_areRows_0 53 rfl) rfl (Or.inl rfl) h
        · have h := h.2 c12
          refine r_iconst 1 (pc' := 84) (kX0_areRows_0 46 rfl) rfl (by unfold inR; omega) ?_
          refine r_goto (pc' := 88) (kX0_areRows_0 47 rfl) rfl ?_
          refine r_istore_n (L' := [(2, 195), (2, x1), (0, x2), (0, 1)]) (pc' := 89) (kX0_areRows_0 49 rfl) rfl (Nat.le_of_ble_eq_true rfl) rfl ?_
          refine r_iload_n (pc' := 90) (kX0_areRows_0 50 rfl) rfl rfl ?_
          refine r_if_ne (t := 95) (pc' := 93) (kX0_areRows_0 51 rfl) rfl rfl (fun _ => ?_) (fun cz => absurd cz (by decide))
          have g13 := h.1
          have h := h.2
          refine r_iinc (L' := [(2, 195), (2, x1), (0, (x2 + 4)), (0, 1)]) (pc' := 98) (kX0_areRows_0 54 rfl) rfl (Nat.le_of_ble_eq_true rfl) rfl g13 rfl ?_
          refine r_goto (pc' := 29) (kX0_areRows_0 55 rfl) rfl ?_
          exact r_weak (L' := [(2, 195), (2, x1), (0, (x2 + 4)), (9, 0)]) ⟨Or.inl rfl, Or.inl rfl, Or.inl rfl, Or.inr (by decide), trivial⟩ (h Ln)
abbrev jX0_findSources_28 (d : Nat) (x1 x2 x3 x4 x5 : Int) (φ : aF) (α : aA) (Q : Int → aF → aA → Prop) : Prop := R0 d mX0_findSources 28 [(2, 195), (0, x1), (0, x2), (0, x3), (0, x4), (0, x5)] [] φ α Q
theorem vX0_findSources_0 {d : Nat} {φ : aF} {α : aA} {Q : Int → aF → aA → Prop} {x1 : Int} {x2 : Int} (h : (eX0_lastSeen d  φ α (fun r1 φ1 α1 =>
   inR ((φ1 7 0 29) + r1) ∧ ((((φ1 7 0 29) + r1) ≤ 999 →
   (jX0_findSources_28 (d + 1) x1 x2 r1 0 0 φ1 α1 Q)) ∧
   (¬ (((φ1 7 0 29) + r1) ≤ 999) →
   (Q 0 φ1 α1)))))) : eX0_findSources (d + 1) x1 x2 φ α Q := by
  intro Ln
  refine r_aload_n (pc' := 1) (kX0_findSources_0 0 rfl) rfl rfl ?_
  refine s_callV (As := []) (o := 195) (S := []) (S2 := fun z => [(0, z)]) (pc' := 4) (kX0_findSources_0 1 rfl) rfl rfl nkX0_lastSeen mlX0_50 imX0_lastSeen rfl slX0_lastSeen rfl (Nat.le_of_ble_eq_true rfl) (Nat.le_of_ble_eq_true rfl) (kz195 Ln) h (fun z => rfl) (fun r1 φ1 α1 h => ?_)
  refine r_istore_n (L' := [(2, 195), (0, x1), (0, x2), (0, r1), (9, 0), (9, 0)]) (pc' := 5) (kX0_findSources_0 2 rfl) rfl (Nat.le_of_ble_eq_true rfl) rfl ?_
  refine r_aload_n (pc' := 6) (kX0_findSources_0 3 rfl) rfl rfl ?_
  refine s_getr (v := 29) (pc' := 9) (kX0_findSources_0 4 rfl) rfl fkX0_23 rfl rfl (kz195 Ln) rfl (by decide) ?_
  refine s_get (x := (φ1 7 0 29)) (pc' := 12) (kX0_findSources_0 5 rfl) rfl fkX0_54 rfl rfl rfl (kz29 Ln) rfl ?_
  refine r_iload_n (pc' := 13) (kX0_findSources_0 6 rfl) rfl rfl ?_
  have g2 := h.1
  have h := h.2
  refine r_iadd (pc' := 14) (kX0_findSources_0 7 rfl) rfl g2 ?_
  refine r_sipush 999 (pc' := 17) (kX0_findSources_0 8 rfl) rfl ⟨by unfold inR; omega, rfl⟩ ?_
  refine r_icmp_le (t := 22) (pc' := 20) (kX0_findSources_0 9 rfl) rfl rfl (fun c3 => ?_) (fun c3 => ?_)
  · have h := h.1 c3
    refine r_iconst 0 (pc' := 23) (kX0_findSources_0 12 rfl) rfl (by unfold inR; omega) ?_
    refine r_istore (L' := [(2, 195), (0, x1), (0, x2), (0, r1), (0, 0), (9, 0)]) (pc' := 25) (kX0_findSources_0 13 rfl) rfl (Nat.le_of_ble_eq_true rfl) rfl ?_
    refine r_iconst 0 (pc' := 26) (kX0_findSources_0 14 rfl) rfl (by unfold inR; omega) ?_
    refine r_istore (L' := [(2, 195), (0, x1), (0, x2), (0, r1), (0, 0), (0, 0)]) (pc' := 28) (kX0_findSources_0 15 rfl) rfl (Nat.le_of_ble_eq_true rfl) rfl ?_
    exact r_weak (L' := [(2, 195), (0, x1), (0, x2), (0, r1), (0, 0), (0, 0)]) ⟨Or.inl rfl, Or.inl rfl, Or.inl rfl, Or.inl rfl, Or.inl rfl, Or.inl rfl, trivial⟩ (h Ln)
  · have h := h.2 c3
    refine r_iconst 0 (pc' := 21) (kX0_findSources_0 10 rfl) rfl (by unfold inR; omega) ?_
    exact s_iret (kX0_findSources_0 11 rfl) rfl h
theorem vX0_findSources_28 {d : Nat} {φ : aF} {α : aA} {Q : Int → aF → aA → Prop} {x1 : Int} {x2 : Int} {x3 : Int} {x4 : Int} {x5 : Int} (h : (((φ 2 4 9) ≤ x5 →
   (Q x4 φ α)) ∧
   (¬ ((φ 2 4 9) ≤ x5) →
   (eX0_isSource d x5 x1 x2 x3 φ α (fun r2 φ2 α2 =>
     ((r2 = 0 →
     inR (x5 + 1) ∧ (jX0_findSources_28 (d + 1) x1 x2 x3 x4 (x5 + 1) φ2 α2 Q)) ∧
     (¬ (r2 = 0) →
     inR (x5 + 1) ∧ (jX0_findSources_28 (d + 1) x1 x2 x3 (iOr x4 (iShl 1 x5)) (x5 + 1) φ2 α2 Q)))))))) : jX0_findSources_28 (d + 1) x1 x2 x3 x4 x5 φ α Q := by
  intro Ln
  refine r_iload (pc' := 30) (kX0_findSources_0 16 rfl) rfl rfl ?_
  refine r_aload_n (pc' := 31) (kX0_findSources_0 17 rfl) rfl rfl ?_
  refine s_getr (v := 9) (pc' := 34) (kX0_findSources_0 18 rfl) rfl fkX0_15 rfl rfl (kz195 Ln) rfl (by decide) ?_
  refine s_get (x := (φ 2 4 9)) (pc' := 37) (kX0_findSources_0 19 rfl) rfl fkX0_59 rfl rfl rfl (kz9 Ln) rfl ?_
  refine r_icmp_ge (t := 67) (pc' := 40) (kX0_findSources_0 20 rfl) rfl rfl (fun c1 => ?_) (fun c1 => ?_)
  · have h := h.1 c1
    refine r_iload (pc' := 69) (kX0_findSources_0 36 rfl) rfl rfl ?_
    exact s_iret (kX0_findSources_0 37 rfl) rfl h
  · have h := h.2 c1
    refine r_aload_n (pc' := 41) (kX0_findSources_0 21 rfl) rfl rfl ?_
    refine r_iload (pc' := 43) (kX0_findSources_0 22 rfl) rfl rfl ?_
    refine r_iload_n (pc' := 44) (kX0_findSources_0 23 rfl) rfl rfl ?_
    refine r_iload_n (pc' := 45) (kX0_findSources_0 24 rfl) rfl rfl ?_
    refine r_iload_n (pc' := 46) (kX0_findSources_0 25 rfl) rfl rfl ?_
    refine s_callV (As := [(0, x5), (0, x1), (0, x2), (0, x3)]) (o := 195) (S := []) (S2 := fun z => [(0, z)]) (pc' := 49) (kX0_findSources_0 26 rfl) rfl rfl nkX0_isSource mlX0_62 imX0_isSource rfl slX0_isSource rfl (Nat.le_of_ble_eq_true rfl) (Nat.le_of_ble_eq_true rfl) (kz195 Ln) h (fun z => rfl) (fun r2 φ2 α2 h => ?_)
    refine r_if_eq (t := 61) (pc' := 52) (kX0_findSources_0 27 rfl) rfl rfl (fun c3 => ?_) (fun c3 => ?_)
    · have h := h.1 c3
      have g4 := h.1
      have h := h.2
      refine r_iinc (L' := [(2, 195), (0, x1), (0, x2), (0, x3), (0, x4), (0, (x5 + 1))]) (pc' := 64) (kX0_findSources_0 34 rfl) rfl (Nat.le_of_ble_eq_true rfl) rfl g4 rfl ?_
      refine r_goto (pc' := 28) (kX0_findSources_0 35 rfl) rfl ?_
      exact r_weak (L' := [(2, 195), (0, x1), (0, x2), (0, x3), (0, x4), (0, (x5 + 1))]) ⟨Or.inl rfl, Or.inl rfl, Or.inl rfl, Or.inl rfl, Or.inl rfl, Or.inl rfl, trivial⟩ (h Ln)
    · have h := h.2 c3
      refine r_iload (pc' := 54) (kX0_findSources_0 28 rfl) rfl rfl ?_
      refine r_iconst 1 (pc' := 55) (kX0_findSources_0 29 rfl) rfl (by unfold inR; omega) ?_
      refine r_iload (pc' := 57) (kX0_findSources_0 30 rfl) rfl rfl ?_
      refine r_ishl (pc' := 58) (kX0_findSources_0 31 rfl) rfl ?_
      refine r_ior (pc' := 59) (kX0_findSources_0 32 rfl) rfl ?_
      refine r_istore (L' := [(2, 195), (0, x1), (0, x2), (0, x3), (0, (iOr x4 (iShl 1 x5))), (0, x5)]) (pc' := 61) (kX0_findSources_0 33 rfl) rfl (Nat.le_of_ble_eq_true rfl) rfl ?_
      have g5 := h.1
      have h := h.2
      refine r_iinc (L' := [(2, 195), (0, x1), (0, x2), (0, x3), (0, (iOr x4 (iShl 1 x5))), (0, (x5 + 1))]) (pc' := 64) (kX0_findSources_0 34 rfl) rfl (Nat.le_of_ble_eq_true rfl) rfl g5 rfl ?_
      refine r_goto (pc' := 28) (kX0_findSources_0 35 rfl) rfl ?_
      exact r_weak (L' := [(2, 195), (0, x1), (0, x2), (0, x3), (0, (iOr x4 (iShl 1 x5))), (0, (x5 + 1))]) ⟨Or.inl rfl, Or.inl rfl, Or.inl rfl, Or.inl rfl, Or.inl rfl, Or.inl rfl, trivial⟩ (h Ln)
abbrev jX0_lastSeen_4 (d : Nat) (x1 x2 : Int) (φ : aF) (α : aA) (Q : Int → aF → aA → Prop) : Prop := R0 d mX0_lastSeen 4 [(2, 195), (0, x1), (0, x2)] [] φ α Q
theorem vX0_lastSeen_0 {d : Nat} {φ : aF} {α : aA} {Q : Int → aF → aA → Prop} (h : (jX0_lastSeen_4 (d + 1) 0 0 φ α Q)) : eX0_lastSeen (d + 1)  φ α Q := by
  intro Ln
  refine r_iconst 0 (pc' := 1) (kX0_lastSeen_0 0 rfl) rfl (by unfold inR; omega) ?_
  refine r_istore_n (L' := [(2, 195), (0, 0), (9, 0)]) (pc' := 2) (kX0_lastSeen_0 1 rfl) rfl (Nat.le_of_ble_eq_true rfl) rfl ?_
  refine r_iconst 0 (pc' := 3) (kX0_lastSeen_0 2 rfl) rfl (by unfold inR; omega) ?_
  refine r_istore_n (L' := [(2, 195), (0, 0), (0, 0)]) (pc' := 4) (kX0_lastSeen_0 3 rfl) rfl (Nat.le_of_ble_eq_true rfl) rfl ?_
  exact r_weak (L' := [(2, 195), (0, 0), (0, 0)]) ⟨Or.inl rfl, Or.inl rfl, Or.inl rfl, trivial⟩ (h Ln)
theorem vX0_lastSeen_4 {d : Nat} {φ : aF} {α : aA} {Q : Int → aF → aA → Prop} {x1 : Int} {x2 : Int} (h : (((φ 6 1 5) ≤ x2 →
   (Q x1 φ α)) ∧
   (¬ ((φ 6 1 5) ≤ x2) →
   (eX6_at d 5 x2 φ α (fun r2 φ2 α2 =>
     (eJ9_max_7cf53 d x1 r2 φ2 α2 (fun r3 φ3 α3 =>
     inR (x2 + 4) ∧ (jX0_lastSeen_4 (d + 1) r3 (x2 + 4) φ3 α3 Q)))))))) : jX0_lastSeen_4 (d + 1) x1 x2 φ α Q := by
  intro Ln
  refine r_iload_n (pc' := 5) (kX0_lastSeen_0 4 rfl) rfl rfl ?_
  refine r_aload_n (pc' := 6) (kX0_lastSeen_0 5 rfl) rfl rfl ?_
  refine s_getr (v := 5) (pc' := 9) (kX0_lastSeen_0 6 rfl) rfl fkX0_30 rfl rfl (kz195 Ln) rfl (by decide) ?_
  refine s_get (x := (φ 6 1 5)) (pc' := 12) (kX0_lastSeen_0 7 rfl) rfl fkX0_34 rfl rfl rfl (kz5 Ln) rfl ?_
  refine r_icmp_ge (t := 34) (pc' := 15) (kX0_lastSeen_0 8 rfl) rfl rfl (fun c1 => ?_) (fun c1 => ?_)
  · have h := h.1 c1
    refine r_iload_n (pc' := 35) (kX0_lastSeen_0 18 rfl) rfl rfl ?_
    exact s_iret (kX0_lastSeen_0 19 rfl) rfl h
  · have h := h.2 c1
    refine r_iload_n (pc' := 16) (kX0_lastSeen_0 9 rfl) rfl rfl ?_
    refine r_aload_n (pc' := 17) (kX0_lastSeen_0 10 rfl) rfl rfl ?_
    refine s_getr (v := 5) (pc' := 20) (kX0_lastSeen_0 11 rfl) rfl fkX0_30 rfl rfl (kz195 Ln) rfl (by decide) ?_
    refine r_iload_n (pc' := 21) (kX0_lastSeen_0 12 rfl) rfl rfl ?_
    refine s_callV (As := [(0, x2)]) (o := 5) (S := [(0, x1)]) (S2 := fun z => [(0, z), (0, x1)]) (pc' := 24) (kX0_lastSeen_0 13 rfl) rfl rfl nkX6_at mlX0_40 imX6_at rfl slX6_at rfl (Nat.le_of_ble_eq_true rfl) (Nat.le_of_ble_eq_true rfl) (kz5 Ln) h (fun z => rfl) (fun r2 φ2 α2 h => ?_)
    refine s_callS (As := [(0, x1), (0, r2)]) (S := []) (S2 := fun z => [(0, z)]) (pc' := 27) (kX0_lastSeen_0 14 rfl) rfl rfl nkJ9_max_7cf53 mlX0_66 scJ9_max_7cf53 rfl (Nat.le_of_ble_eq_true rfl) (Nat.le_of_ble_eq_true rfl) h (fun z => rfl) (fun r3 φ3 α3 h => ?_)
    refine r_istore_n (L' := [(2, 195), (0, r3), (0, x2)]) (pc' := 28) (kX0_lastSeen_0 15 rfl) rfl (Nat.le_of_ble_eq_true rfl) rfl ?_
    have g4 := h.1
    have h := h.2
    refine r_iinc (L' := [(2, 195), (0, r3), (0, (x2 + 4))]) (pc' := 31) (kX0_lastSeen_0 16 rfl) rfl (Nat.le_of_ble_eq_true rfl) rfl g4 rfl ?_
    refine r_goto (pc' := 4) (kX0_lastSeen_0 17 rfl) rfl ?_
    exact r_weak (L' := [(2, 195), (0, r3), (0, (x2 + 4))]) ⟨Or.inl rfl, Or.inl rfl, Or.inl rfl, trivial⟩ (h Ln)
abbrev jX0_isSource_48 (d : Nat) (x4 x5 : Int) (φ : aF) (α : aA) (Q : Int → aF → aA → Prop) : Prop := R0 d mX0_isSource 48 [(2, 195), (9, 0), (9, 0), (9, 0), (0, x4), (0, x5)] [] φ α Q
theorem vX0_isSource_0 {d : Nat} {φ : aF} {α : aA} {Q : Int → aF → aA → Prop} {x1 : Int} {x2 : Int} {x3 : Int} {x4 : Int} (h : (eX9_canPour d 29 x1 x2 x3 φ α (fun r1 φ1 α1 =>
   ((¬ r1 = 0 →
   (eX7_copyRoom d 36 29 φ1 α1 (fun r3 φ3 α3 =>
     (eX9_pour d 36 x1 x2 x3 φ3 α3 (fun r4 φ4 α4 =>
     (jX0_isSource_48 (d + 1) x4 0 φ4 α4 Q)))))) ∧
   (r1 = 0 →
   (Q 0 φ1 α1)))))) : eX0_isSource (d + 1) x1 x2 x3 x4 φ α Q := by
  intro Ln
  refine r_aload_n (pc' := 1) (kX0_isSource_0 0 rfl) rfl rfl ?_
  refine s_getr (v := 190) (pc' := 4) (kX0_isSource_0 1 rfl) rfl fkX0_19 rfl rfl (kz195 Ln) rfl (by decide) ?_
  refine r_aload_n (pc' := 5) (kX0_isSource_0 2 rfl) rfl rfl ?_
  refine s_getr (v := 29) (pc' := 8) (kX0_isSource_0 3 rfl) rfl fkX0_23 rfl rfl (kz195 Ln) rfl (by decide) ?_
  refine r_iload_n (pc' := 9) (kX0_isSource_0 4 rfl) rfl rfl ?_
  refine r_iload_n (pc' := 10) (kX0_isSource_0 5 rfl) rfl rfl ?_
  refine r_iload_n (pc' := 11) (kX0_isSource_0 6 rfl) rfl rfl ?_
  refine s_callV (As := [(2, 29), (0, x1), (0, x2), (0, x3)]) (o := 190) (S := []) (S2 := fun z => [(0, z)]) (pc' := 14) (kX0_isSource_0 7 rfl) rfl rfl nkX9_canPour mlX0_72 imX9_canPour rfl slX9_canPour rfl (Nat.le_of_ble_eq_true rfl) (Nat.le_of_ble_eq_true rfl) (kz190 Ln) h (fun z => rfl) (fun r1 φ1 α1 h => ?_)
  refine r_if_ne (t := 19) (pc' := 17) (kX0_isSource_0 8 rfl) rfl rfl (fun c2 => ?_) (fun c2 => ?_)
  · have h := h.1 c2
    refine r_aload_n (pc' := 20) (kX0_isSource_0 11 rfl) rfl rfl ?_
    refine s_getr (v := 36) (pc' := 23) (kX0_isSource_0 12 rfl) rfl fkX0_27 rfl rfl (kz195 Ln) rfl (by decide) ?_
    refine r_aload_n (pc' := 24) (kX0_isSource_0 13 rfl) rfl rfl ?_
    refine s_getr (v := 29) (pc' := 27) (kX0_isSource_0 14 rfl) rfl fkX0_23 rfl rfl (kz195 Ln) rfl (by decide) ?_
    refine s_callV (As := [(2, 29)]) (o := 36) (S := []) (S2 := fun z => []) (pc' := 30) (kX0_isSource_0 15 rfl) rfl rfl nkX7_copyRoom mlX0_78 imX7_copyRoom rfl slX7_copyRoom rfl (Nat.le_of_ble_eq_true rfl) (Nat.le_of_ble_eq_true rfl) (kz36 Ln) h (fun z => rfl) (fun r3 φ3 α3 h => ?_)
    refine r_aload_n (pc' := 31) (kX0_isSource_0 16 rfl) rfl rfl ?_
    refine s_getr (v := 190) (pc' := 34) (kX0_isSource_0 17 rfl) rfl fkX0_19 rfl rfl (kz195 Ln) rfl (by decide) ?_
    refine r_aload_n (pc' := 35) (kX0_isSource_0 18 rfl) rfl rfl ?_
    refine s_getr (v := 36) (pc' := 38) (kX0_isSource_0 19 rfl) rfl fkX0_27 rfl rfl (kz195 Ln) rfl (by decide) ?_
    refine r_iload_n (pc' := 39) (kX0_isSource_0 20 rfl) rfl rfl ?_
    refine r_iload_n (pc' := 40) (kX0_isSource_0 21 rfl) rfl rfl ?_
    refine r_iload_n (pc' := 41) (kX0_isSource_0 22 rfl) rfl rfl ?_
    refine s_callV (As := [(2, 36), (0, x1), (0, x2), (0, x3)]) (o := 190) (S := []) (S2 := fun z => [(0, z)]) (pc' := 44) (kX0_isSource_0 23 rfl) rfl rfl nkX9_pour mlX0_82 imX9_pour rfl slX9_pour rfl (Nat.le_of_ble_eq_true rfl) (Nat.le_of_ble_eq_true rfl) (kz190 Ln) h (fun z => rfl) (fun r4 φ4 α4 h => ?_)
    refine r_pop (pc' := 45) (kX0_isSource_0 24 rfl) rfl rfl ?_
    refine r_iconst 0 (pc' := 46) (kX0_isSource_0 25 rfl) rfl (by unfold inR; omega) ?_
    refine r_istore (L' := [(2, 195), (0, x1), (0, x2), (0, x3), (0, x4), (0, 0)]) (pc' := 48) (kX0_isSource_0 26 rfl) rfl (Nat.le_of_ble_eq_true rfl) rfl ?_
    exact r_weak (L' := [(2, 195), (9, 0), (9, 0), (9, 0), (0, x4), (0, 0)]) ⟨Or.inl rfl, Or.inr (by decide), Or.inr (by decide), Or.inr (by decide), Or.inl rfl, Or.inl rfl, trivial⟩ (h Ln)
  · have h := h.2 c2
    refine r_iconst 0 (pc' := 18) (kX0_isSource_0 9 rfl) rfl (by unfold inR; omega) ?_
    exact s_zret (kX0_isSource_0 10 rfl) rfl (Or.inl rfl) h
theorem vX0_isSource_48 {d : Nat} {φ : aF} {α : aA} {Q : Int → aF → aA → Prop} {x4 : Int} {x5 : Int} (h : ((x4 < x5 →
   (Q 1 φ α)) ∧
   (¬ (x4 < x5) →
   ((x5 ≤ 0 →
     (eX0_isAsSeen d x5 φ α (fun r3 φ3 α3 =>
       ((¬ r3 = 0 →
       inR (x5 + 1) ∧ (jX0_isSource_48 (d + 1) x4 (x5 + 1) φ3 α3 Q)) ∧
       (r3 = 0 →
       (Q 0 φ3 α3)))))) ∧
     (¬ (x5 ≤ 0) →
     (eX9_passDay d 36 φ α (fun r6 φ6 α6 =>
       (eX0_isAsSeen d x5 φ6 α6 (fun r7 φ7 α7 =>
       ((¬ r7 = 0 →
       inR (x5 + 1) ∧ (jX0_isSource_48 (d + 1) x4 (x5 + 1) φ7 α7 Q)) ∧
       (r7 = 0 →
       (Q 0 φ7 α7)))))))))))) : jX0_isSource_48 (d + 1) x4 x5 φ α Q := by
  intro Ln
  refine r_iload (pc' := 50) (kX0_isSource_0 27 rfl) rfl rfl ?_
  refine r_iload (pc' := 52) (kX0_isSource_0 28 rfl) rfl rfl ?_
  refine r_icmp_gt (t := 89) (pc' := 55) (kX0_isSource_0 29 rfl) rfl rfl (fun c1 => ?_) (fun c1 => ?_)
  · have h := h.1 c1
    refine r_iconst 1 (pc' := 90) (kX0_isSource_0 46 rfl) rfl (by unfold inR; omega) ?_
    exact s_zret (kX0_isSource_0 47 rfl) rfl (Or.inr rfl) h
  · have h := h.2 c1
    refine r_iload (pc' := 57) (kX0_isSource_0 30 rfl) rfl rfl ?_
    refine r_if_le (t := 72) (pc' := 60) (kX0_isSource_0 31 rfl) rfl rfl (fun c2 => ?_) (fun c2 => ?_)
    · have h := h.1 c2
      refine r_aload_n (pc' := 73) (kX0_isSource_0 38 rfl) rfl rfl ?_
      refine r_iload (pc' := 75) (kX0_isSource_0 39 rfl) rfl rfl ?_
      refine s_callV (As := [(0, x5)]) (o := 195) (S := []) (S2 := fun z => [(0, z)]) (pc' := 78) (kX0_isSource_0 40 rfl) rfl rfl nkX0_isAsSeen mlX0_90 imX0_isAsSeen rfl slX0_isAsSeen rfl (Nat.le_of_ble_eq_true rfl) (Nat.le_of_ble_eq_true rfl) (kz195 Ln) h (fun z => rfl) (fun r3 φ3 α3 h => ?_)
      refine r_if_ne (t := 83) (pc' := 81) (kX0_isSource_0 41 rfl) rfl rfl (fun c4 => ?_) (fun c4 => ?_)
      · have h := h.1 c4
        have g5 := h.1
        have h := h.2
        refine r_iinc (L' := [(2, 195), (9, 0), (9, 0), (9, 0), (0, x4), (0, (x5 + 1))]) (pc' := 86) (kX0_isSource_0 44 rfl) rfl (Nat.le_of_ble_eq_true rfl) rfl g5 rfl ?_
        refine r_goto (pc' := 48) (kX0_isSource_0 45 rfl) rfl ?_
        exact r_weak (L' := [(2, 195), (9, 0), (9, 0), (9, 0), (0, x4), (0, (x5 + 1))]) ⟨Or.inl rfl, Or.inr (by decide), Or.inr (by decide), Or.inr (by decide), Or.inl rfl, Or.inl rfl, trivial⟩ (h Ln)
      · have h := h.2 c4
        refine r_iconst 0 (pc' := 82) (kX0_isSource_0 42 rfl) rfl (by unfold inR; omega) ?_
        exact s_zret (kX0_isSource_0 43 rfl) rfl (Or.inl rfl) h
    · have h := h.2 c2
      refine r_aload_n (pc' := 61) (kX0_isSource_0 32 rfl) rfl rfl ?_
      refine s_getr (v := 190) (pc' := 64) (kX0_isSource_0 33 rfl) rfl fkX0_19 rfl rfl (kz195 Ln) rfl (by decide) ?_
      refine r_aload_n (pc' := 65) (kX0_isSource_0 34 rfl) rfl rfl ?_
      refine s_getr (v := 36) (pc' := 68) (kX0_isSource_0 35 rfl) rfl fkX0_27 rfl rfl (kz195 Ln) rfl (by decide) ?_
      refine s_callV (As := [(2, 36)]) (o := 190) (S := []) (S2 := fun z => [(0, z)]) (pc' := 71) (kX0_isSource_0 36 rfl) rfl rfl nkX9_passDay mlX0_86 imX9_passDay rfl slX9_passDay rfl (Nat.le_of_ble_eq_true rfl) (Nat.le_of_ble_eq_true rfl) (kz190 Ln) h (fun z => rfl) (fun r6 φ6 α6 h => ?_)
      refine r_pop (pc' := 72) (kX0_isSource_0 37 rfl) rfl rfl ?_
      refine r_aload_n (pc' := 73) (kX0_isSource_0 38 rfl) rfl rfl ?_
      refine r_iload (pc' := 75) (kX0_isSource_0 39 rfl) rfl rfl ?_
      refine s_callV (As := [(0, x5)]) (o := 195) (S := []) (S2 := fun z => [(0, z)]) (pc' := 78) (kX0_isSource_0 40 rfl) rfl rfl nkX0_isAsSeen mlX0_90 imX0_isAsSeen rfl slX0_isAsSeen rfl (Nat.le_of_ble_eq_true rfl) (Nat.le_of_ble_eq_true rfl) (kz195 Ln) h (fun z => rfl) (fun r7 φ7 α7 h => ?_)
      refine r_if_ne (t := 83) (pc' := 81) (kX0_isSource_0 41 rfl) rfl rfl (fun c8 => ?_) (fun c8 => ?_)
      · have h := h.1 c8
        have g9 := h.1
        have h := h.2
        refine r_iinc (L' := [(2, 195), (9, 0), (9, 0), (9, 0), (0, x4), (0, (x5 + 1))]) (pc' := 86) (kX0_isSource_0 44 rfl) rfl (Nat.le_of_ble_eq_true rfl) rfl g9 rfl ?_
        refine r_goto (pc' := 48) (kX0_isSource_0 45 rfl) rfl ?_
        exact r_weak (L' := [(2, 195), (9, 0), (9, 0), (9, 0), (0, x4), (0, (x5 + 1))]) ⟨Or.inl rfl, Or.inr (by decide), Or.inr (by decide), Or.inr (by decide), Or.inl rfl, Or.inl rfl, trivial⟩ (h Ln)
      · have h := h.2 c8
        refine r_iconst 0 (pc' := 82) (kX0_isSource_0 42 rfl) rfl (by unfold inR; omega) ?_
        exact s_zret (kX0_isSource_0 43 rfl) rfl (Or.inl rfl) h
abbrev jX0_isAsSeen_2 (d : Nat) (x1 x2 : Int) (φ : aF) (α : aA) (Q : Int → aF → aA → Prop) : Prop := R0 d mX0_isAsSeen 2 [(2, 195), (0, x1), (0, x2), (9, 0)] [] φ α Q
theorem vX0_isAsSeen_0 {d : Nat} {φ : aF} {α : aA} {Q : Int → aF → aA → Prop} {x1 : Int} (h : (jX0_isAsSeen_2 (d + 1) x1 0 φ α Q)) : eX0_isAsSeen (d + 1) x1 φ α Q := by
  intro Ln
  refine r_iconst 0 (pc' := 1) (kX0_isAsSeen_0 0 rfl) rfl (by unfold inR; omega) ?_
  refine r_istore_n (L' := [(2, 195), (0, x1), (0, 0), (9, 0)]) (pc' := 2) (kX0_isAsSeen_0 1 rfl) rfl (Nat.le_of_ble_eq_true rfl) rfl ?_
  exact r_weak (L' := [(2, 195), (0, x1), (0, 0), (9, 0)]) ⟨Or.inl rfl, Or.inl rfl, Or.inl rfl, Or.inr (by decide), trivial⟩ (h Ln)
theorem vX0_isAsSeen_2 {d : Nat} {φ : aF} {α : aA} {Q : Int → aF → aA → Prop} {x1 : Int} {x2 : Int} (h : (((φ 6 1 5) ≤ x2 →
   (Q 1 φ α)) ∧
   (¬ ((φ 6 1 5) ≤ x2) →
   (eX6_at d 5 x2 φ α (fun r2 φ2 α2 =>
     ((¬ r2 = x1 →
     inR (x2 + 4) ∧ (jX0_isAsSeen_2 (d + 1) x1 (x2 + 4) φ2 α2 Q)) ∧
     (r2 = x1 →
     inR (x2 + 1) ∧ (eX6_at d 5 (x2 + 1) φ2 α2 (fun r6 φ6 α6 =>
       inR (x2 + 2) ∧ (eX6_at d 5 (x2 + 2) φ6 α6 (fun r8 φ8 α8 =>
       (eX7_dropsOf d 36 r6 r8 φ8 α8 (fun r9 φ9 α9 =>
       inR (x2 + 3) ∧ (eX6_at d 5 (x2 + 3) φ9 α9 (fun r11 φ11 α11 =>
       ((r9 = r11 →
       inR (x2 + 4) ∧ (jX0_isAsSeen_2 (d + 1) x1 (x2 + 4) φ11 α11 Q)) ∧
       (¬ (r9 = r11) →
       (Q 0 φ11 α11)))))))))))))))))) : jX0_isAsSeen_2 (d + 1) x1 x2 φ α Q := by
  intro Ln
  refine r_iload_n (pc' := 3) (kX0_isAsSeen_0 2 rfl) rfl rfl ?_
  refine r_aload_n (pc' := 4) (kX0_isAsSeen_0 3 rfl) rfl rfl ?_
  refine s_getr (v := 5) (pc' := 7) (kX0_isAsSeen_0 4 rfl) rfl fkX0_30 rfl rfl (kz195 Ln) rfl (by decide) ?_
  refine s_get (x := (φ 6 1 5)) (pc' := 10) (kX0_isAsSeen_0 5 rfl) rfl fkX0_34 rfl rfl rfl (kz5 Ln) rfl ?_
  refine r_icmp_ge (t := 83) (pc' := 13) (kX0_isAsSeen_0 6 rfl) rfl rfl (fun c1 => ?_) (fun c1 => ?_)
  · have h := h.1 c1
    refine r_iconst 1 (pc' := 84) (kX0_isAsSeen_0 45 rfl) rfl (by unfold inR; omega) ?_
    exact s_zret (kX0_isAsSeen_0 46 rfl) rfl (Or.inr rfl) h
  · have h := h.2 c1
    refine r_aload_n (pc' := 14) (kX0_isAsSeen_0 7 rfl) rfl rfl ?_
    refine s_getr (v := 5) (pc' := 17) (kX0_isAsSeen_0 8 rfl) rfl fkX0_30 rfl rfl (kz195 Ln) rfl (by decide) ?_
    refine r_iload_n (pc' := 18) (kX0_isAsSeen_0 9 rfl) rfl rfl ?_
    refine s_callV (As := [(0, x2)]) (o := 5) (S := []) (S2 := fun z => [(0, z)]) (pc' := 21) (kX0_isAsSeen_0 10 rfl) rfl rfl nkX6_at mlX0_40 imX6_at rfl slX6_at rfl (Nat.le_of_ble_eq_true rfl) (Nat.le_of_ble_eq_true rfl) (kz5 Ln) h (fun z => rfl) (fun r2 φ2 α2 h => ?_)
    refine r_iload_n (pc' := 22) (kX0_isAsSeen_0 11 rfl) rfl rfl ?_
    refine r_icmp_ne (t := 29) (pc' := 25) (kX0_isAsSeen_0 12 rfl) rfl rfl (fun c3 => ?_) (fun c3 => ?_)
    · have h := h.1 c3
      refine r_iconst 0 (pc' := 30) (kX0_isAsSeen_0 15 rfl) rfl (by unfold inR; omega) ?_
      refine r_istore_n (L' := [(2, 195), (0, x1), (0, x2), (0, 0)]) (pc' := 31) (kX0_isAsSeen_0 16 rfl) rfl (Nat.le_of_ble_eq_true rfl) rfl ?_
      refine r_iload_n (pc' := 32) (kX0_isAsSeen_0 17 rfl) rfl rfl ?_
      refine r_if_eq (t := 77) (pc' := 35) (kX0_isAsSeen_0 18 rfl) rfl rfl (fun _ => ?_) (fun cz => absurd cz (by decide))
      have g4 := h.1
      have h := h.2
      refine r_iinc (L' := [(2, 195), (0, x1), (0, (x2 + 4)), (0, 0)]) (pc' := 80) (kX0_isAsSeen_0 43 rfl) rfl (Nat.le_of_ble_eq_true rfl) rfl g4 rfl ?_
      refine r_goto (pc' := 2) (kX0_isAsSeen_0 44 rfl) rfl ?_
      exact r_weak (L' := [(2, 195), (0, x1), (0, (x2 + 4)), (9, 0)]) ⟨Or.inl rfl, Or.inl rfl, Or.inl rfl, Or.inr (by decide), trivial⟩ (h Ln)
    · have h := h.2 c3
      refine r_iconst 1 (pc' := 26) (kX0_isAsSeen_0 13 rfl) rfl (by unfold inR; omega) ?_
      refine r_goto (pc' := 30) (kX0_isAsSeen_0 14 rfl) rfl ?_
      refine r_istore_n (L' := [(2, 195), (0, x1), (0, x2), (0, 1)]) (pc' := 31) (kX0_isAsSeen_0 16 rfl) rfl (Nat.le_of_ble_eq_true rfl) rfl ?_
      refine r_iload_n (pc' := 32) (kX0_isAsSeen_0 17 rfl) rfl rfl ?_
      refine r_if_eq (t := 77) (pc' := 35) (kX0_isAsSeen_0 18 rfl) rfl rfl (fun cz => absurd cz (by decide)) (fun _ => ?_)
      refine r_aload_n (pc' := 36) (kX0_isAsSeen_0 19 rfl) rfl rfl ?_
      refine s_getr (v := 36) (pc' := 39) (kX0_isAsSeen_0 20 rfl) rfl fkX0_27 rfl rfl (kz195 Ln) rfl (by decide) ?_
      refine r_aload_n (pc' := 40) (kX0_isAsSeen_0 21 rfl) rfl rfl ?_
      refine s_getr (v := 5) (pc' := 43) (kX0_isAsSeen_0 22 rfl) rfl fkX0_30 rfl rfl (kz195 Ln) rfl (by decide) ?_
      refine r_iload_n (pc' := 44) (kX0_isAsSeen_0 23 rfl) rfl rfl ?_
      refine r_iconst 1 (pc' := 45) (kX0_isAsSeen_0 24 rfl) rfl (by unfold inR; omega) ?_
      have g5 := h.1
      have h := h.2
      refine r_iadd (pc' := 46) (kX0_isAsSeen_0 25 rfl) rfl g5 ?_
      refine s_callV (As := [(0, (x2 + 1))]) (o := 5) (S := [(2, 36)]) (S2 := fun z => [(0, z), (2, 36)]) (pc' := 49) (kX0_isAsSeen_0 26 rfl) rfl rfl nkX6_at mlX0_40 imX6_at rfl slX6_at rfl (Nat.le_of_ble_eq_true rfl) (Nat.le_of_ble_eq_true rfl) (kz5 Ln) h (fun z => rfl) (fun r6 φ6 α6 h => ?_)
      refine r_aload_n (pc' := 50) (kX0_isAsSeen_0 27 rfl) rfl rfl ?_
      refine s_getr (v := 5) (pc' := 53) (kX0_isAsSeen_0 28 rfl) rfl fkX0_30 rfl rfl (kz195 Ln) rfl (by decide) ?_
      refine r_iload_n (pc' := 54) (kX0_isAsSeen_0 29 rfl) rfl rfl ?_
      refine r_iconst 2 (pc' := 55) (kX0_isAsSeen_0 30 rfl) rfl (by unfold inR; omega) ?_
      have g7 := h.1
      have h := h.2
      refine r_iadd (pc' := 56) (kX0_isAsSeen_0 31 rfl) rfl g7 ?_
      refine s_callV (As := [(0, (x2 + 2))]) (o := 5) (S := [(0, r6), (2, 36)]) (S2 := fun z => [(0, z), (0, r6), (2, 36)]) (pc' := 59) (kX0_isAsSeen_0 32 rfl) rfl rfl nkX6_at mlX0_40 imX6_at rfl slX6_at rfl (Nat.le_of_ble_eq_true rfl) (Nat.le_of_ble_eq_true rfl) (kz5 Ln) h (fun z => rfl) (fun r8 φ8 α8 h => ?_)
      refine s_callV (As := [(0, r6), (0, r8)]) (o := 36) (S := []) (S2 := fun z => [(0, z)]) (pc' := 62) (kX0_isAsSeen_0 33 rfl) rfl rfl nkX7_dropsOf mlX0_94 imX7_dropsOf rfl slX7_dropsOf rfl (Nat.le_of_ble_eq_true rfl) (Nat.le_of_ble_eq_true rfl) (kz36 Ln) h (fun z => rfl) (fun r9 φ9 α9 h => ?_)
      refine r_aload_n (pc' := 63) (kX0_isAsSeen_0 34 rfl) rfl rfl ?_
      refine s_getr (v := 5) (pc' := 66) (kX0_isAsSeen_0 35 rfl) rfl fkX0_30 rfl rfl (kz195 Ln) rfl (by decide) ?_
      refine r_iload_n (pc' := 67) (kX0_isAsSeen_0 36 rfl) rfl rfl ?_
      refine r_iconst 3 (pc' := 68) (kX0_isAsSeen_0 37 rfl) rfl (by unfold inR; omega) ?_
      have g10 := h.1
      have h := h.2
      refine r_iadd (pc' := 69) (kX0_isAsSeen_0 38 rfl) rfl g10 ?_
      refine s_callV (As := [(0, (x2 + 3))]) (o := 5) (S := [(0, r9)]) (S2 := fun z => [(0, z), (0, r9)]) (pc' := 72) (kX0_isAsSeen_0 39 rfl) rfl rfl nkX6_at mlX0_40 imX6_at rfl slX6_at rfl (Nat.le_of_ble_eq_true rfl) (Nat.le_of_ble_eq_true rfl) (kz5 Ln) h (fun z => rfl) (fun r11 φ11 α11 h => ?_)
      refine r_icmp_eq (t := 77) (pc' := 75) (kX0_isAsSeen_0 40 rfl) rfl rfl (fun c12 => ?_) (fun c12 => ?_)
      · have h := h.1 c12
        have g13 := h.1
        have h := h.2
        refine r_iinc (L' := [(2, 195), (0, x1), (0, (x2 + 4)), (0, 1)]) (pc' := 80) (kX0_isAsSeen_0 43 rfl) rfl (Nat.le_of_ble_eq_true rfl) rfl g13 rfl ?_
        refine r_goto (pc' := 2) (kX0_isAsSeen_0 44 rfl) rfl ?_
        exact r_weak (L' := [(2, 195), (0, x1), (0, (x2 + 4)), (9, 0)]) ⟨Or.inl rfl, Or.inl rfl, Or.inl rfl, Or.inr (by decide), trivial⟩ (h Ln)
      · have h := h.2 c12
        refine r_iconst 0 (pc' := 76) (kX0_isAsSeen_0 41 rfl) rfl (by unfold inR; omega) ?_
        exact s_zret (kX0_isAsSeen_0 42 rfl) rfl (Or.inl rfl) h
abbrev jX0_findTelling_21 (d : Nat) (x1 x2 x3 x4 x5 : Int) (φ : aF) (α : aA) (Q : Int → aF → aA → Prop) : Prop := R0 d mX0_findTelling 21 [(2, 195), (0, x1), (0, x2), (0, x3), (0, x4), (0, x5), (9, 0), (9, 0)] [] φ α Q
theorem vX0_findTelling_0 {d : Nat} {φ : aF} {α : aA} {Q : Int → aF → aA → Prop} {x1 : Int} {x2 : Int} {x3 : Int} (h : inR (999 - (φ 7 0 29)) ∧ (eJ9_min_7cf53 d 30 (999 - (φ 7 0 29)) φ α (fun r2 φ2 α2 =>
   (jX0_findTelling_21 (d + 1) x1 x2 x3 r2 0 φ2 α2 Q)))) : eX0_findTelling (d + 1) x1 x2 x3 φ α Q := by
  intro Ln
  refine r_bipush 30 (pc' := 2) (kX0_findTelling_0 0 rfl) rfl ⟨by unfold inR; omega, rfl⟩ ?_
  refine r_sipush 999 (pc' := 5) (kX0_findTelling_0 1 rfl) rfl ⟨by unfold inR; omega, rfl⟩ ?_
  refine r_aload_n (pc' := 6) (kX0_findTelling_0 2 rfl) rfl rfl ?_
  refine s_getr (v := 29) (pc' := 9) (kX0_findTelling_0 3 rfl) rfl fkX0_23 rfl rfl (kz195 Ln) rfl (by decide) ?_
  refine s_get (x := (φ 7 0 29)) (pc' := 12) (kX0_findTelling_0 4 rfl) rfl fkX0_54 rfl rfl rfl (kz29 Ln) rfl ?_
  have g1 := h.1
  have h := h.2
  refine r_isub (pc' := 13) (kX0_findTelling_0 5 rfl) rfl g1 ?_
  refine s_callS (As := [(0, 30), (0, (999 - (φ 7 0 29)))]) (S := []) (S2 := fun z => [(0, z)]) (pc' := 16) (kX0_findTelling_0 6 rfl) rfl rfl nkJ9_min_7cf53 mlX0_97 scJ9_min_7cf53 rfl (Nat.le_of_ble_eq_true rfl) (Nat.le_of_ble_eq_true rfl) h (fun z => rfl) (fun r2 φ2 α2 h => ?_)
  refine r_istore (L' := [(2, 195), (0, x1), (0, x2), (0, x3), (0, r2), (9, 0), (9, 0), (9, 0)]) (pc' := 18) (kX0_findTelling_0 7 rfl) rfl (Nat.le_of_ble_eq_true rfl) rfl ?_
  refine r_iconst 0 (pc' := 19) (kX0_findTelling_0 8 rfl) rfl (by unfold inR; omega) ?_
  refine r_istore (L' := [(2, 195), (0, x1), (0, x2), (0, x3), (0, r2), (0, 0), (9, 0), (9, 0)]) (pc' := 21) (kX0_findTelling_0 9 rfl) rfl (Nat.le_of_ble_eq_true rfl) rfl ?_
  exact r_weak (L' := [(2, 195), (0, x1), (0, x2), (0, x3), (0, r2), (0, 0), (9, 0), (9, 0)]) ⟨Or.inl rfl, Or.inl rfl, Or.inl rfl, Or.inl rfl, Or.inl rfl, Or.inl rfl, Or.inr (by decide), Or.inr (by decide), trivial⟩ (h Ln)
abbrev jX0_findTelling_67 (d : Nat) (x1 x4 x5 : Int) (φ : aF) (α : aA) (Q : Int → aF → aA → Prop) : Prop := R0 d mX0_findTelling 67 [(2, 195), (0, x1), (9, 0), (9, 0), (0, x4), (0, x5), (9, 0), (9, 0)] [] φ α Q
theorem vX0_findTelling_21 {d : Nat} {φ : aF} {α : aA} {Q : Int → aF → aA → Prop} {x1 : Int} {x2 : Int} {x3 : Int} {x4 : Int} {x5 : Int} (h : (((φ 2 4 9) ≤ x5 →
   (jX0_findTelling_67 (d + 1) x1 x4 0 (upf φ 0 8 195 8) α Q)) ∧
   (¬ ((φ 2 4 9) ≤ x5) →
   (((iAnd (iShr x1 x5) 1) = 0 →
     inR (x5 + 1) ∧ (jX0_findTelling_21 (d + 1) x1 x2 x3 x4 (x5 + 1) φ α Q)) ∧
     (¬ ((iAnd (iShr x1 x5) 1) = 0) →
     (eX0_tracePath d x5 x2 x3 x4 φ α (fun r4 φ4 α4 =>
       inR (x5 + 1) ∧ (jX0_findTelling_21 (d + 1) x1 x2 x3 x4 (x5 + 1) φ4 α4 Q)))))))) : jX0_findTelling_21 (d + 1) x1 x2 x3 x4 x5 φ α Q := by
  intro Ln
  refine r_iload (pc' := 23) (kX0_findTelling_0 10 rfl) rfl rfl ?_
  refine r_aload_n (pc' := 24) (kX0_findTelling_0 11 rfl) rfl rfl ?_
  refine s_getr (v := 9) (pc' := 27) (kX0_findTelling_0 12 rfl) rfl fkX0_15 rfl rfl (kz195 Ln) rfl (by decide) ?_
  refine s_get (x := (φ 2 4 9)) (pc' := 30) (kX0_findTelling_0 13 rfl) rfl fkX0_59 rfl rfl rfl (kz9 Ln) rfl ?_
  refine r_icmp_ge (t := 58) (pc' := 33) (kX0_findTelling_0 14 rfl) rfl rfl (fun c1 => ?_) (fun c1 => ?_)
  · have h := h.1 c1
    refine r_aload_n (pc' := 59) (kX0_findTelling_0 29 rfl) rfl rfl ?_
    refine r_bipush 8 (pc' := 61) (kX0_findTelling_0 30 rfl) rfl ⟨by unfold inR; omega, rfl⟩ ?_
    refine s_put (pc' := 64) (kX0_findTelling_0 31 rfl) rfl fkX0_104 fnX0_8 rfl pk_int (kz195 Ln) ?_
    refine r_iconst 0 (pc' := 65) (kX0_findTelling_0 32 rfl) rfl (by unfold inR; omega) ?_
    refine r_istore (L' := [(2, 195), (0, x1), (0, x2), (0, x3), (0, x4), (0, 0), (9, 0), (9, 0)]) (pc' := 67) (kX0_findTelling_0 33 rfl) rfl (Nat.le_of_ble_eq_true rfl) rfl ?_
    exact r_weak (L' := [(2, 195), (0, x1), (9, 0), (9, 0), (0, x4), (0, 0), (9, 0), (9, 0)]) ⟨Or.inl rfl, Or.inl rfl, Or.inr (by decide), Or.inr (by decide), Or.inl rfl, Or.inl rfl, Or.inr (by decide), Or.inr (by decide), trivial⟩ (h Ln)
  · have h := h.2 c1
    refine r_iload_n (pc' := 34) (kX0_findTelling_0 15 rfl) rfl rfl ?_
    refine r_iload (pc' := 36) (kX0_findTelling_0 16 rfl) rfl rfl ?_
    refine r_ishr (pc' := 37) (kX0_findTelling_0 17 rfl) rfl ?_
    refine r_iconst 1 (pc' := 38) (kX0_findTelling_0 18 rfl) rfl (by unfold inR; omega) ?_
    refine r_iand (pc' := 39) (kX0_findTelling_0 19 rfl) rfl ?_
    refine r_if_eq (t := 52) (pc' := 42) (kX0_findTelling_0 20 rfl) rfl rfl (fun c2 => ?_) (fun c2 => ?_)
    · have h := h.1 c2
      have g3 := h.1
      have h := h.2
      refine r_iinc (L' := [(2, 195), (0, x1), (0, x2), (0, x3), (0, x4), (0, (x5 + 1)), (9, 0), (9, 0)]) (pc' := 55) (kX0_findTelling_0 27 rfl) rfl (Nat.le_of_ble_eq_true rfl) rfl g3 rfl ?_
      refine r_goto (pc' := 21) (kX0_findTelling_0 28 rfl) rfl ?_
      exact r_weak (L' := [(2, 195), (0, x1), (0, x2), (0, x3), (0, x4), (0, (x5 + 1)), (9, 0), (9, 0)]) ⟨Or.inl rfl, Or.inl rfl, Or.inl rfl, Or.inl rfl, Or.inl rfl, Or.inl rfl, Or.inr (by decide), Or.inr (by decide), trivial⟩ (h Ln)
    · have h := h.2 c2
      refine r_aload_n (pc' := 43) (kX0_findTelling_0 21 rfl) rfl rfl ?_
      refine r_iload (pc' := 45) (kX0_findTelling_0 22 rfl) rfl rfl ?_
      refine r_iload_n (pc' := 46) (kX0_findTelling_0 23 rfl) rfl rfl ?_
      refine r_iload_n (pc' := 47) (kX0_findTelling_0 24 rfl) rfl rfl ?_
      refine r_iload (pc' := 49) (kX0_findTelling_0 25 rfl) rfl rfl ?_
      refine s_callV (As := [(0, x5), (0, x2), (0, x3), (0, x4)]) (o := 195) (S := []) (S2 := fun z => []) (pc' := 52) (kX0_findTelling_0 26 rfl) rfl rfl nkX0_tracePath mlX0_100 imX0_tracePath rfl slX0_tracePath rfl (Nat.le_of_ble_eq_true rfl) (Nat.le_of_ble_eq_true rfl) (kz195 Ln) h (fun z => rfl) (fun r4 φ4 α4 h => ?_)
      have g5 := h.1
      have h := h.2
      refine r_iinc (L' := [(2, 195), (0, x1), (0, x2), (0, x3), (0, x4), (0, (x5 + 1)), (9, 0), (9, 0)]) (pc' := 55) (kX0_findTelling_0 27 rfl) rfl (Nat.le_of_ble_eq_true rfl) rfl g5 rfl ?_
      refine r_goto (pc' := 21) (kX0_findTelling_0 28 rfl) rfl ?_
      exact r_weak (L' := [(2, 195), (0, x1), (0, x2), (0, x3), (0, x4), (0, (x5 + 1)), (9, 0), (9, 0)]) ⟨Or.inl rfl, Or.inl rfl, Or.inl rfl, Or.inl rfl, Or.inl rfl, Or.inl rfl, Or.inr (by decide), Or.inr (by decide), trivial⟩ (h Ln)
abbrev jX0_findTelling_77 (d : Nat) (x1 x4 x5 x6 : Int) (φ : aF) (α : aA) (Q : Int → aF → aA → Prop) : Prop := R0 d mX0_findTelling 77 [(2, 195), (0, x1), (9, 0), (9, 0), (0, x4), (0, x5), (0, x6), (9, 0)] [] φ α Q
theorem vX0_findTelling_67 {d : Nat} {φ : aF} {α : aA} {Q : Int → aF → aA → Prop} {x1 : Int} {x4 : Int} {x5 : Int} (h : ((x4 < x5 →
   (Q 0 φ α)) ∧
   (¬ (x4 < x5) →
   (jX0_findTelling_77 (d + 1) x1 x4 x5 0 φ α Q)))) : jX0_findTelling_67 (d + 1) x1 x4 x5 φ α Q := by
  intro Ln
  refine r_iload (pc' := 69) (kX0_findTelling_0 34 rfl) rfl rfl ?_
  refine r_iload (pc' := 71) (kX0_findTelling_0 35 rfl) rfl rfl ?_
  refine r_icmp_gt (t := 139) (pc' := 74) (kX0_findTelling_0 36 rfl) rfl rfl (fun c1 => ?_) (fun c1 => ?_)
  · have h := h.1 c1
    exact s_vret (kX0_findTelling_1 7 rfl) rfl h
  · have h := h.2 c1
    refine r_iconst 0 (pc' := 75) (kX0_findTelling_0 37 rfl) rfl (by unfold inR; omega) ?_
    refine r_istore (L' := [(2, 195), (0, x1), (9, 0), (9, 0), (0, x4), (0, x5), (0, 0), (9, 0)]) (pc' := 77) (kX0_findTelling_0 38 rfl) rfl (Nat.le_of_ble_eq_true rfl) rfl ?_
    exact r_weak (L' := [(2, 195), (0, x1), (9, 0), (9, 0), (0, x4), (0, x5), (0, 0), (9, 0)]) ⟨Or.inl rfl, Or.inl rfl, Or.inr (by decide), Or.inr (by decide), Or.inl rfl, Or.inl rfl, Or.inl rfl, Or.inr (by decide), trivial⟩ (h Ln)
theorem vX0_findTelling_77 {d : Nat} {φ : aF} {α : aA} {Q : Int → aF → aA → Prop} {x1 : Int} {x4 : Int} {x5 : Int} {x6 : Int} (h : (((φ 2 4 9) ≤ x6 →
   inR (x5 + 1) ∧ (jX0_findTelling_67 (d + 1) x1 x4 (x5 + 1) φ α Q)) ∧
   (¬ ((φ 2 4 9) ≤ x6) →
   (eX0_mostLeft d x1 x5 x6 φ α (fun r3 φ3 α3 =>
     (((φ3 0 8 195) ≤ r3 →
     inR (x6 + 1) ∧ (jX0_findTelling_77 (d + 1) x1 x4 x5 (x6 + 1) φ3 α3 Q)) ∧
     (¬ ((φ3 0 8 195) ≤ r3) →
     inR (x6 + 1) ∧ (jX0_findTelling_77 (d + 1) x1 x4 x5 (x6 + 1) (upf (upf (upf φ3 0 8 195 r3) 0 6 195 x5) 0 7 195 x6) α3 Q)))))))) : jX0_findTelling_77 (d + 1) x1 x4 x5 x6 φ α Q := by
  intro Ln
  refine r_iload (pc' := 79) (kX0_findTelling_0 39 rfl) rfl rfl ?_
  refine r_aload_n (pc' := 80) (kX0_findTelling_0 40 rfl) rfl rfl ?_
  refine s_getr (v := 9) (pc' := 83) (kX0_findTelling_0 41 rfl) rfl fkX0_15 rfl rfl (kz195 Ln) rfl (by decide) ?_
  refine s_get (x := (φ 2 4 9)) (pc' := 86) (kX0_findTelling_0 42 rfl) rfl fkX0_59 rfl rfl rfl (kz9 Ln) rfl ?_
  refine r_icmp_ge (t := 133) (pc' := 89) (kX0_findTelling_0 43 rfl) rfl rfl (fun c1 => ?_) (fun c1 => ?_)
  · have h := h.1 c1
    have g2 := h.1
    have h := h.2
    refine r_iinc (L' := [(2, 195), (0, x1), (9, 0), (9, 0), (0, x4), (0, (x5 + 1)), (0, x6), (9, 0)]) (pc' := 136) (kX0_findTelling_1 5 rfl) rfl (Nat.le_of_ble_eq_true rfl) rfl g2 rfl ?_
    refine r_goto (pc' := 67) (kX0_findTelling_1 6 rfl) rfl ?_
    exact r_weak (L' := [(2, 195), (0, x1), (9, 0), (9, 0), (0, x4), (0, (x5 + 1)), (9, 0), (9, 0)]) ⟨Or.inl rfl, Or.inl rfl, Or.inr (by decide), Or.inr (by decide), Or.inl rfl, Or.inl rfl, Or.inr (by decide), Or.inr (by decide), trivial⟩ (h Ln)
  · have h := h.2 c1
    refine r_aload_n (pc' := 90) (kX0_findTelling_0 44 rfl) rfl rfl ?_
    refine r_iload_n (pc' := 91) (kX0_findTelling_0 45 rfl) rfl rfl ?_
    refine r_iload (pc' := 93) (kX0_findTelling_0 46 rfl) rfl rfl ?_
    refine r_iload (pc' := 95) (kX0_findTelling_0 47 rfl) rfl rfl ?_
    refine s_callV (As := [(0, x1), (0, x5), (0, x6)]) (o := 195) (S := []) (S2 := fun z => [(0, z)]) (pc' := 98) (kX0_findTelling_0 48 rfl) rfl rfl nkX0_mostLeft mlX0_107 imX0_mostLeft rfl slX0_mostLeft rfl (Nat.le_of_ble_eq_true rfl) (Nat.le_of_ble_eq_true rfl) (kz195 Ln) h (fun z => rfl) (fun r3 φ3 α3 h => ?_)
    refine r_istore (L' := [(2, 195), (0, x1), (9, 0), (9, 0), (0, x4), (0, x5), (0, x6), (0, r3)]) (pc' := 100) (kX0_findTelling_0 49 rfl) rfl (Nat.le_of_ble_eq_true rfl) rfl ?_
    refine r_iload (pc' := 102) (kX0_findTelling_0 50 rfl) rfl rfl ?_
    refine r_aload_n (pc' := 103) (kX0_findTelling_0 51 rfl) rfl rfl ?_
    refine s_get (x := (φ3 0 8 195)) (pc' := 106) (kX0_findTelling_0 52 rfl) rfl fkX0_104 rfl rfl rfl (kz195 Ln) rfl ?_
    refine r_icmp_ge (t := 127) (pc' := 109) (kX0_findTelling_0 53 rfl) rfl rfl (fun c4 => ?_) (fun c4 => ?_)
    · have h := h.1 c4
      have g5 := h.1
      have h := h.2
      refine r_iinc (L' := [(2, 195), (0, x1), (9, 0), (9, 0), (0, x4), (0, x5), (0, (x6 + 1)), (0, r3)]) (pc' := 130) (kX0_findTelling_1 3 rfl) rfl (Nat.le_of_ble_eq_true rfl) rfl g5 rfl ?_
      refine r_goto (pc' := 77) (kX0_findTelling_1 4 rfl) rfl ?_
      exact r_weak (L' := [(2, 195), (0, x1), (9, 0), (9, 0), (0, x4), (0, x5), (0, (x6 + 1)), (9, 0)]) ⟨Or.inl rfl, Or.inl rfl, Or.inr (by decide), Or.inr (by decide), Or.inl rfl, Or.inl rfl, Or.inl rfl, Or.inr (by decide), trivial⟩ (h Ln)
    · have h := h.2 c4
      refine r_aload_n (pc' := 110) (kX0_findTelling_0 54 rfl) rfl rfl ?_
      refine r_iload (pc' := 112) (kX0_findTelling_0 55 rfl) rfl rfl ?_
      refine s_put (pc' := 115) (kX0_findTelling_0 56 rfl) rfl fkX0_104 fnX0_8 rfl pk_int (kz195 Ln) ?_
      refine r_aload_n (pc' := 116) (kX0_findTelling_0 57 rfl) rfl rfl ?_
      refine r_iload (pc' := 118) (kX0_findTelling_0 58 rfl) rfl rfl ?_
      refine s_put (pc' := 121) (kX0_findTelling_0 59 rfl) rfl fkX0_111 fnX0_6 rfl pk_int (kz195 Ln) ?_
      refine r_aload_n (pc' := 122) (kX0_findTelling_1 0 rfl) rfl rfl ?_
      refine r_iload (pc' := 124) (kX0_findTelling_1 1 rfl) rfl rfl ?_
      refine s_put (pc' := 127) (kX0_findTelling_1 2 rfl) rfl fkX0_112 fnX0_7 rfl pk_int (kz195 Ln) ?_
      have g6 := h.1
      have h := h.2
      refine r_iinc (L' := [(2, 195), (0, x1), (9, 0), (9, 0), (0, x4), (0, x5), (0, (x6 + 1)), (0, r3)]) (pc' := 130) (kX0_findTelling_1 3 rfl) rfl (Nat.le_of_ble_eq_true rfl) rfl g6 rfl ?_
      refine r_goto (pc' := 77) (kX0_findTelling_1 4 rfl) rfl ?_
      exact r_weak (L' := [(2, 195), (0, x1), (9, 0), (9, 0), (0, x4), (0, x5), (0, (x6 + 1)), (9, 0)]) ⟨Or.inl rfl, Or.inl rfl, Or.inr (by decide), Or.inr (by decide), Or.inl rfl, Or.inl rfl, Or.inl rfl, Or.inr (by decide), trivial⟩ (h Ln)
abbrev jX0_tracePath_29 (d : Nat) (x1 x2 x4 x5 : Int) (φ : aF) (α : aA) (Q : Int → aF → aA → Prop) : Prop := R0 d mX0_tracePath 29 [(2, 195), (0, x1), (0, x2), (9, 0), (0, x4), (0, x5), (9, 0)] [] φ α Q
theorem vX0_tracePath_0 {d : Nat} {φ : aF} {α : aA} {Q : Int → aF → aA → Prop} {x1 : Int} {x2 : Int} {x3 : Int} {x4 : Int} (h : (eX7_copyRoom d 36 29 φ α (fun r1 φ1 α1 =>
   (eX9_pour d 36 x1 x2 x3 φ1 α1 (fun r2 φ2 α2 =>
   (jX0_tracePath_29 (d + 1) x1 x2 x4 0 φ2 α2 Q)))))) : eX0_tracePath (d + 1) x1 x2 x3 x4 φ α Q := by
  intro Ln
  refine r_aload_n (pc' := 1) (kX0_tracePath_0 0 rfl) rfl rfl ?_
  refine s_getr (v := 36) (pc' := 4) (kX0_tracePath_0 1 rfl) rfl fkX0_27 rfl rfl (kz195 Ln) rfl (by decide) ?_
  refine r_aload_n (pc' := 5) (kX0_tracePath_0 2 rfl) rfl rfl ?_
  refine s_getr (v := 29) (pc' := 8) (kX0_tracePath_0 3 rfl) rfl fkX0_23 rfl rfl (kz195 Ln) rfl (by decide) ?_
  refine s_callV (As := [(2, 29)]) (o := 36) (S := []) (S2 := fun z => []) (pc' := 11) (kX0_tracePath_0 4 rfl) rfl rfl nkX7_copyRoom mlX0_78 imX7_copyRoom rfl slX7_copyRoom rfl (Nat.le_of_ble_eq_true rfl) (Nat.le_of_ble_eq_true rfl) (kz36 Ln) h (fun z => rfl) (fun r1 φ1 α1 h => ?_)
  refine r_aload_n (pc' := 12) (kX0_tracePath_0 5 rfl) rfl rfl ?_
  refine s_getr (v := 190) (pc' := 15) (kX0_tracePath_0 6 rfl) rfl fkX0_19 rfl rfl (kz195 Ln) rfl (by decide) ?_
  refine r_aload_n (pc' := 16) (kX0_tracePath_0 7 rfl) rfl rfl ?_
  refine s_getr (v := 36) (pc' := 19) (kX0_tracePath_0 8 rfl) rfl fkX0_27 rfl rfl (kz195 Ln) rfl (by decide) ?_
  refine r_iload_n (pc' := 20) (kX0_tracePath_0 9 rfl) rfl rfl ?_
  refine r_iload_n (pc' := 21) (kX0_tracePath_0 10 rfl) rfl rfl ?_
  refine r_iload_n (pc' := 22) (kX0_tracePath_0 11 rfl) rfl rfl ?_
  refine s_callV (As := [(2, 36), (0, x1), (0, x2), (0, x3)]) (o := 190) (S := []) (S2 := fun z => [(0, z)]) (pc' := 25) (kX0_tracePath_0 12 rfl) rfl rfl nkX9_pour mlX0_82 imX9_pour rfl slX9_pour rfl (Nat.le_of_ble_eq_true rfl) (Nat.le_of_ble_eq_true rfl) (kz190 Ln) h (fun z => rfl) (fun r2 φ2 α2 h => ?_)
  refine r_pop (pc' := 26) (kX0_tracePath_0 13 rfl) rfl rfl ?_
  refine r_iconst 0 (pc' := 27) (kX0_tracePath_0 14 rfl) rfl (by unfold inR; omega) ?_
  refine r_istore (L' := [(2, 195), (0, x1), (0, x2), (0, x3), (0, x4), (0, 0), (9, 0)]) (pc' := 29) (kX0_tracePath_0 15 rfl) rfl (Nat.le_of_ble_eq_true rfl) rfl ?_
  exact r_weak (L' := [(2, 195), (0, x1), (0, x2), (9, 0), (0, x4), (0, 0), (9, 0)]) ⟨Or.inl rfl, Or.inl rfl, Or.inl rfl, Or.inr (by decide), Or.inl rfl, Or.inl rfl, Or.inr (by decide), trivial⟩ (h Ln)
abbrev jX0_tracePath_56 (d : Nat) (x1 x2 x4 x5 x6 : Int) (φ : aF) (α : aA) (Q : Int → aF → aA → Prop) : Prop := R0 d mX0_tracePath 56 [(2, 195), (0, x1), (0, x2), (9, 0), (0, x4), (0, x5), (0, x6)] [] φ α Q
theorem vX0_tracePath_29 {d : Nat} {φ : aF} {α : aA} {Q : Int → aF → aA → Prop} {x1 : Int} {x2 : Int} {x4 : Int} {x5 : Int} (h : ((x4 < x5 →
   (Q 0 φ α)) ∧
   (¬ (x4 < x5) →
   ((x5 ≤ 0 →
     (jX0_tracePath_56 (d + 1) x1 x2 x4 x5 0 φ α Q)) ∧
     (¬ (x5 ≤ 0) →
     (eX9_passDay d 36 φ α (fun r3 φ3 α3 =>
       (jX0_tracePath_56 (d + 1) x1 x2 x4 x5 0 φ3 α3 Q)))))))) : jX0_tracePath_29 (d + 1) x1 x2 x4 x5 φ α Q := by
  intro Ln
  refine r_iload (pc' := 31) (kX0_tracePath_0 16 rfl) rfl rfl ?_
  refine r_iload (pc' := 33) (kX0_tracePath_0 17 rfl) rfl rfl ?_
  refine r_icmp_gt (t := 105) (pc' := 36) (kX0_tracePath_0 18 rfl) rfl rfl (fun c1 => ?_) (fun c1 => ?_)
  · have h := h.1 c1
    exact s_vret (kX0_tracePath_0 50 rfl) rfl h
  · have h := h.2 c1
    refine r_iload (pc' := 38) (kX0_tracePath_0 19 rfl) rfl rfl ?_
    refine r_if_le (t := 53) (pc' := 41) (kX0_tracePath_0 20 rfl) rfl rfl (fun c2 => ?_) (fun c2 => ?_)
    · have h := h.1 c2
      refine r_iconst 0 (pc' := 54) (kX0_tracePath_0 27 rfl) rfl (by unfold inR; omega) ?_
      refine r_istore (L' := [(2, 195), (0, x1), (0, x2), (9, 0), (0, x4), (0, x5), (0, 0)]) (pc' := 56) (kX0_tracePath_0 28 rfl) rfl (Nat.le_of_ble_eq_true rfl) rfl ?_
      exact r_weak (L' := [(2, 195), (0, x1), (0, x2), (9, 0), (0, x4), (0, x5), (0, 0)]) ⟨Or.inl rfl, Or.inl rfl, Or.inl rfl, Or.inr (by decide), Or.inl rfl, Or.inl rfl, Or.inl rfl, trivial⟩ (h Ln)
    · have h := h.2 c2
      refine r_aload_n (pc' := 42) (kX0_tracePath_0 21 rfl) rfl rfl ?_
      refine s_getr (v := 190) (pc' := 45) (kX0_tracePath_0 22 rfl) rfl fkX0_19 rfl rfl (kz195 Ln) rfl (by decide) ?_
      refine r_aload_n (pc' := 46) (kX0_tracePath_0 23 rfl) rfl rfl ?_
      refine s_getr (v := 36) (pc' := 49) (kX0_tracePath_0 24 rfl) rfl fkX0_27 rfl rfl (kz195 Ln) rfl (by decide) ?_
      refine s_callV (As := [(2, 36)]) (o := 190) (S := []) (S2 := fun z => [(0, z)]) (pc' := 52) (kX0_tracePath_0 25 rfl) rfl rfl nkX9_passDay mlX0_86 imX9_passDay rfl slX9_passDay rfl (Nat.le_of_ble_eq_true rfl) (Nat.le_of_ble_eq_true rfl) (kz190 Ln) h (fun z => rfl) (fun r3 φ3 α3 h => ?_)
      refine r_pop (pc' := 53) (kX0_tracePath_0 26 rfl) rfl rfl ?_
      refine r_iconst 0 (pc' := 54) (kX0_tracePath_0 27 rfl) rfl (by unfold inR; omega) ?_
      refine r_istore (L' := [(2, 195), (0, x1), (0, x2), (9, 0), (0, x4), (0, x5), (0, 0)]) (pc' := 56) (kX0_tracePath_0 28 rfl) rfl (Nat.le_of_ble_eq_true rfl) rfl ?_
      exact r_weak (L' := [(2, 195), (0, x1), (0, x2), (9, 0), (0, x4), (0, x5), (0, 0)]) ⟨Or.inl rfl, Or.inl rfl, Or.inl rfl, Or.inr (by decide), Or.inl rfl, Or.inl rfl, Or.inl rfl, trivial⟩ (h Ln)
theorem vX0_tracePath_56 {d : Nat} {φ : aF} {α : aA} {Q : Int → aF → aA → Prop} {x1 : Int} {x2 : Int} {x4 : Int} {x5 : Int} {x6 : Int} (h : (((φ 2 4 9) ≤ x6 →
   inR (x5 + 1) ∧ (jX0_tracePath_29 (d + 1) x1 x2 x4 (x5 + 1) φ α Q)) ∧
   (¬ ((φ 2 4 9) ≤ x6) →
   (eX0_pathCell d x1 x5 x6 φ α (fun r3 φ3 α3 =>
     (eX7_dropsOf d 36 x6 x2 φ3 α3 (fun r4 φ4 α4 =>
     (eX10_set d 196 r3 r4 φ4 α4 (fun r5 φ5 α5 =>
     inR (x6 + 1) ∧ (jX0_tracePath_56 (d + 1) x1 x2 x4 x5 (x6 + 1) φ5 α5 Q)))))))))) : jX0_tracePath_56 (d + 1) x1 x2 x4 x5 x6 φ α Q := by
  intro Ln
  refine r_iload (pc' := 58) (kX0_tracePath_0 29 rfl) rfl rfl ?_
  refine r_aload_n (pc' := 59) (kX0_tracePath_0 30 rfl) rfl rfl ?_
  refine s_getr (v := 9) (pc' := 62) (kX0_tracePath_0 31 rfl) rfl fkX0_15 rfl rfl (kz195 Ln) rfl (by decide) ?_
  refine s_get (x := (φ 2 4 9)) (pc' := 65) (kX0_tracePath_0 32 rfl) rfl fkX0_59 rfl rfl rfl (kz9 Ln) rfl ?_
  refine r_icmp_ge (t := 99) (pc' := 68) (kX0_tracePath_0 33 rfl) rfl rfl (fun c1 => ?_) (fun c1 => ?_)
  · have h := h.1 c1
    have g2 := h.1
    have h := h.2
    refine r_iinc (L' := [(2, 195), (0, x1), (0, x2), (9, 0), (0, x4), (0, (x5 + 1)), (0, x6)]) (pc' := 102) (kX0_tracePath_0 48 rfl) rfl (Nat.le_of_ble_eq_true rfl) rfl g2 rfl ?_
    refine r_goto (pc' := 29) (kX0_tracePath_0 49 rfl) rfl ?_
    exact r_weak (L' := [(2, 195), (0, x1), (0, x2), (9, 0), (0, x4), (0, (x5 + 1)), (9, 0)]) ⟨Or.inl rfl, Or.inl rfl, Or.inl rfl, Or.inr (by decide), Or.inl rfl, Or.inl rfl, Or.inr (by decide), trivial⟩ (h Ln)
  · have h := h.2 c1
    refine r_aload_n (pc' := 69) (kX0_tracePath_0 34 rfl) rfl rfl ?_
    refine s_getr (v := 196) (pc' := 72) (kX0_tracePath_0 35 rfl) rfl fkX0_9 rfl rfl (kz195 Ln) rfl (by decide) ?_
    refine r_iload_n (pc' := 73) (kX0_tracePath_0 36 rfl) rfl rfl ?_
    refine r_iload (pc' := 75) (kX0_tracePath_0 37 rfl) rfl rfl ?_
    refine r_iload (pc' := 77) (kX0_tracePath_0 38 rfl) rfl rfl ?_
    refine s_callS (As := [(0, x1), (0, x5), (0, x6)]) (S := [(2, 196)]) (S2 := fun z => [(0, z), (2, 196)]) (pc' := 80) (kX0_tracePath_0 39 rfl) rfl rfl nkX0_pathCell mlX0_115 scX0_pathCell rfl (Nat.le_of_ble_eq_true rfl) (Nat.le_of_ble_eq_true rfl) h (fun z => rfl) (fun r3 φ3 α3 h => ?_)
    refine r_aload_n (pc' := 81) (kX0_tracePath_0 40 rfl) rfl rfl ?_
    refine s_getr (v := 36) (pc' := 84) (kX0_tracePath_0 41 rfl) rfl fkX0_27 rfl rfl (kz195 Ln) rfl (by decide) ?_
    refine r_iload (pc' := 86) (kX0_tracePath_0 42 rfl) rfl rfl ?_
    refine r_iload_n (pc' := 87) (kX0_tracePath_0 43 rfl) rfl rfl ?_
    refine s_callV (As := [(0, x6), (0, x2)]) (o := 36) (S := [(0, r3), (2, 196)]) (S2 := fun z => [(0, z), (0, r3), (2, 196)]) (pc' := 90) (kX0_tracePath_0 44 rfl) rfl rfl nkX7_dropsOf mlX0_94 imX7_dropsOf rfl slX7_dropsOf rfl (Nat.le_of_ble_eq_true rfl) (Nat.le_of_ble_eq_true rfl) (kz36 Ln) h (fun z => rfl) (fun r4 φ4 α4 h => ?_)
    refine s_callS (As := [(2, 196), (0, r3), (0, r4)]) (S := []) (S2 := fun z => []) (pc' := 93) (kX0_tracePath_0 45 rfl) rfl rfl nkX10_set mlX0_118 scX10_set rfl (Nat.le_of_ble_eq_true rfl) (Nat.le_of_ble_eq_true rfl) h (fun z => rfl) (fun r5 φ5 α5 h => ?_)
    have g6 := h.1
    have h := h.2
    refine r_iinc (L' := [(2, 195), (0, x1), (0, x2), (9, 0), (0, x4), (0, x5), (0, (x6 + 1))]) (pc' := 96) (kX0_tracePath_0 46 rfl) rfl (Nat.le_of_ble_eq_true rfl) rfl g6 rfl ?_
    refine r_goto (pc' := 56) (kX0_tracePath_0 47 rfl) rfl ?_
    exact r_weak (L' := [(2, 195), (0, x1), (0, x2), (9, 0), (0, x4), (0, x5), (0, (x6 + 1))]) ⟨Or.inl rfl, Or.inl rfl, Or.inl rfl, Or.inr (by decide), Or.inl rfl, Or.inl rfl, Or.inl rfl, trivial⟩ (h Ln)
theorem vX0_pathCell_0 {d : Nat} {φ : aF} {α : aA} {Q : Int → aF → aA → Prop} {x0 : Int} {x1 : Int} {x2 : Int} (h : inR (x0 * 31) ∧ inR ((x0 * 31) + x1) ∧ inR (((x0 * 31) + x1) * 7) ∧ inR ((((x0 * 31) + x1) * 7) + x2) ∧ (Q ((((x0 * 31) + x1) * 7) + x2) φ α)) : eX0_pathCell d x0 x1 x2 φ α Q := by
  intro Ln
  refine r_iload_n (pc' := 1) (kX0_pathCell_0 0 rfl) rfl rfl ?_
  refine r_bipush 31 (pc' := 3) (kX0_pathCell_0 1 rfl) rfl ⟨by unfold inR; omega, rfl⟩ ?_
  have g1 := h.1
  have h := h.2
  refine r_imul (pc' := 4) (kX0_pathCell_0 2 rfl) rfl g1 ?_
  refine r_iload_n (pc' := 5) (kX0_pathCell_0 3 rfl) rfl rfl ?_
  have g2 := h.1
  have h := h.2
  refine r_iadd (pc' := 6) (kX0_pathCell_0 4 rfl) rfl g2 ?_
  refine r_bipush 7 (pc' := 8) (kX0_pathCell_0 5 rfl) rfl ⟨by unfold inR; omega, rfl⟩ ?_
  have g3 := h.1
  have h := h.2
  refine r_imul (pc' := 9) (kX0_pathCell_0 6 rfl) rfl g3 ?_
  refine r_iload_n (pc' := 10) (kX0_pathCell_0 7 rfl) rfl rfl ?_
  have g4 := h.1
  have h := h.2
  refine r_iadd (pc' := 11) (kX0_pathCell_0 8 rfl) rfl g4 ?_
  exact s_iret (kX0_pathCell_0 9 rfl) rfl h
abbrev jX0_mostLeft_6 (d : Nat) (x1 x2 x3 x4 x5 : Int) (φ : aF) (α : aA) (Q : Int → aF → aA → Prop) : Prop := R0 d mX0_mostLeft 6 [(2, 195), (0, x1), (0, x2), (0, x3), (0, x4), (0, x5), (9, 0), (9, 0), (9, 0), (9, 0)] [] φ α Q
theorem vX0_mostLeft_0 {d : Nat} {φ : aF} {α : aA} {Q : Int → aF → aA → Prop} {x1 : Int} {x2 : Int} {x3 : Int} (h : (jX0_mostLeft_6 (d + 1) x1 x2 x3 0 0 φ α Q)) : eX0_mostLeft (d + 1) x1 x2 x3 φ α Q := by
  intro Ln
  refine r_iconst 0 (pc' := 1) (kX0_mostLeft_0 0 rfl) rfl (by unfold inR; omega) ?_
  refine r_istore (L' := [(2, 195), (0, x1), (0, x2), (0, x3), (0, 0), (9, 0), (9, 0), (9, 0), (9, 0), (9, 0)]) (pc' := 3) (kX0_mostLeft_0 1 rfl) rfl (Nat.le_of_ble_eq_true rfl) rfl ?_
  refine r_iconst 0 (pc' := 4) (kX0_mostLeft_0 2 rfl) rfl (by unfold inR; omega) ?_
  refine r_istore (L' := [(2, 195), (0, x1), (0, x2), (0, x3), (0, 0), (0, 0), (9, 0), (9, 0), (9, 0), (9, 0)]) (pc' := 6) (kX0_mostLeft_0 3 rfl) rfl (Nat.le_of_ble_eq_true rfl) rfl ?_
  exact r_weak (L' := [(2, 195), (0, x1), (0, x2), (0, x3), (0, 0), (0, 0), (9, 0), (9, 0), (9, 0), (9, 0)]) ⟨Or.inl rfl, Or.inl rfl, Or.inl rfl, Or.inl rfl, Or.inl rfl, Or.inl rfl, Or.inr (by decide), Or.inr (by decide), Or.inr (by decide), Or.inr (by decide), trivial⟩ (h Ln)
abbrev jX0_mostLeft_24 (d : Nat) (x1 x2 x3 x4 x5 x6 x7 : Int) (φ : aF) (α : aA) (Q : Int → aF → aA → Prop) : Prop := R0 d mX0_mostLeft 24 [(2, 195), (0, x1), (0, x2), (0, x3), (0, x4), (0, x5), (0, x6), (0, x7), (9, 0), (9, 0)] [] φ α Q
theorem vX0_mostLeft_6 {d : Nat} {φ : aF} {α : aA} {Q : Int → aF → aA → Prop} {x1 : Int} {x2 : Int} {x3 : Int} {x4 : Int} {x5 : Int} (h : (((φ 2 4 9) ≤ x5 →
   (Q x4 φ α)) ∧
   (¬ ((φ 2 4 9) ≤ x5) →
   (jX0_mostLeft_24 (d + 1) x1 x2 x3 x4 x5 0 0 φ α Q)))) : jX0_mostLeft_6 (d + 1) x1 x2 x3 x4 x5 φ α Q := by
  intro Ln
  refine r_iload (pc' := 8) (kX0_mostLeft_0 4 rfl) rfl rfl ?_
  refine r_aload_n (pc' := 9) (kX0_mostLeft_0 5 rfl) rfl rfl ?_
  refine s_getr (v := 9) (pc' := 12) (kX0_mostLeft_0 6 rfl) rfl fkX0_15 rfl rfl (kz195 Ln) rfl (by decide) ?_
  refine s_get (x := (φ 2 4 9)) (pc' := 15) (kX0_mostLeft_0 7 rfl) rfl fkX0_59 rfl rfl rfl (kz9 Ln) rfl ?_
  refine r_icmp_ge (t := 125) (pc' := 18) (kX0_mostLeft_0 8 rfl) rfl rfl (fun c1 => ?_) (fun c1 => ?_)
  · have h := h.1 c1
    refine r_iload (pc' := 127) (kX0_mostLeft_1 2 rfl) rfl rfl ?_
    exact s_iret (kX0_mostLeft_1 3 rfl) rfl h
  · have h := h.2 c1
    refine r_iconst 0 (pc' := 19) (kX0_mostLeft_0 9 rfl) rfl (by unfold inR; omega) ?_
    refine r_istore (L' := [(2, 195), (0, x1), (0, x2), (0, x3), (0, x4), (0, x5), (0, 0), (9, 0), (9, 0), (9, 0)]) (pc' := 21) (kX0_mostLeft_0 10 rfl) rfl (Nat.le_of_ble_eq_true rfl) rfl ?_
    refine r_iconst 0 (pc' := 22) (kX0_mostLeft_0 11 rfl) rfl (by unfold inR; omega) ?_
    refine r_istore (L' := [(2, 195), (0, x1), (0, x2), (0, x3), (0, x4), (0, x5), (0, 0), (0, 0), (9, 0), (9, 0)]) (pc' := 24) (kX0_mostLeft_0 12 rfl) rfl (Nat.le_of_ble_eq_true rfl) rfl ?_
    exact r_weak (L' := [(2, 195), (0, x1), (0, x2), (0, x3), (0, x4), (0, x5), (0, 0), (0, 0), (9, 0), (9, 0)]) ⟨Or.inl rfl, Or.inl rfl, Or.inl rfl, Or.inl rfl, Or.inl rfl, Or.inl rfl, Or.inl rfl, Or.inl rfl, Or.inr (by decide), Or.inr (by decide), trivial⟩ (h Ln)
theorem vX0_mostLeft_24 {d : Nat} {φ : aF} {α : aA} {Q : Int → aF → aA → Prop} {x1 : Int} {x2 : Int} {x3 : Int} {x4 : Int} {x5 : Int} {x6 : Int} {x7 : Int} (h : (((φ 2 4 9) ≤ x7 →
   (eJ9_max_7cf53 d x4 x6 φ α (fun r2 φ2 α2 =>
     inR (x5 + 1) ∧ (jX0_mostLeft_6 (d + 1) x1 x2 x3 r2 (x5 + 1) φ2 α2 Q)))) ∧
   (¬ ((φ 2 4 9) ≤ x7) →
   (((iAnd (iShr x1 x5) 1) = 0 →
     (eX0_pathCell d x5 x2 x3 φ α (fun r5 φ5 α5 =>
       (eX10_pick d 196 r5 φ5 α5 (fun r6 φ6 α6 =>
       inR (x7 + 1) ∧ (jX0_mostLeft_24 (d + 1) x1 x2 x3 x4 x5 x6 (x7 + 1) φ6 α6 Q)))))) ∧
     (¬ ((iAnd (iShr x1 x5) 1) = 0) →
     (((iAnd (iShr x1 x7) 1) = 0 →
       (eX0_pathCell d x5 x2 x3 φ α (fun r9 φ9 α9 =>
         (eX10_pick d 196 r9 φ9 α9 (fun r10 φ10 α10 =>
         inR (x7 + 1) ∧ (jX0_mostLeft_24 (d + 1) x1 x2 x3 x4 x5 x6 (x7 + 1) φ10 α10 Q)))))) ∧
       (¬ ((iAnd (iShr x1 x7) 1) = 0) →
       (eX0_pathCell d x5 x2 x3 φ α (fun r12 φ12 α12 =>
         (eX10_pick d 196 r12 φ12 α12 (fun r13 φ13 α13 =>
         (eX0_pathCell d x7 x2 x3 φ13 α13 (fun r14 φ14 α14 =>
         (eX10_pick d 196 r14 φ14 α14 (fun r15 φ15 α15 =>
         ((¬ r15 = r13 →
         inR (x7 + 1) ∧ (jX0_mostLeft_24 (d + 1) x1 x2 x3 x4 x5 x6 (x7 + 1) φ15 α15 Q)) ∧
         (r15 = r13 →
         inR (x6 + 1) ∧ inR (x7 + 1) ∧ (jX0_mostLeft_24 (d + 1) x1 x2 x3 x4 x5 (x6 + 1) (x7 + 1) φ15 α15 Q)))))))))))))))))) : jX0_mostLeft_24 (d + 1) x1 x2 x3 x4 x5 x6 x7 φ α Q := by
  intro Ln
  refine r_iload (pc' := 26) (kX0_mostLeft_0 13 rfl) rfl rfl ?_
  refine r_aload_n (pc' := 27) (kX0_mostLeft_0 14 rfl) rfl rfl ?_
  refine s_getr (v := 9) (pc' := 30) (kX0_mostLeft_0 15 rfl) rfl fkX0_15 rfl rfl (kz195 Ln) rfl (by decide) ?_
  refine s_get (x := (φ 2 4 9)) (pc' := 33) (kX0_mostLeft_0 16 rfl) rfl fkX0_59 rfl rfl rfl (kz9 Ln) rfl ?_
  refine r_icmp_ge (t := 110) (pc' := 36) (kX0_mostLeft_0 17 rfl) rfl rfl (fun c1 => ?_) (fun c1 => ?_)
  · have h := h.1 c1
    refine r_iload (pc' := 112) (kX0_mostLeft_0 56 rfl) rfl rfl ?_
    refine r_iload (pc' := 114) (kX0_mostLeft_0 57 rfl) rfl rfl ?_
    refine s_callS (As := [(0, x4), (0, x6)]) (S := []) (S2 := fun z => [(0, z)]) (pc' := 117) (kX0_mostLeft_0 58 rfl) rfl rfl nkJ9_max_7cf53 mlX0_66 scJ9_max_7cf53 rfl (Nat.le_of_ble_eq_true rfl) (Nat.le_of_ble_eq_true rfl) h (fun z => rfl) (fun r2 φ2 α2 h => ?_)
    refine r_istore (L' := [(2, 195), (0, x1), (0, x2), (0, x3), (0, r2), (0, x5), (0, x6), (0, x7), (9, 0), (9, 0)]) (pc' := 119) (kX0_mostLeft_0 59 rfl) rfl (Nat.le_of_ble_eq_true rfl) rfl ?_
    have g3 := h.1
    have h := h.2
    refine r_iinc (L' := [(2, 195), (0, x1), (0, x2), (0, x3), (0, r2), (0, (x5 + 1)), (0, x6), (0, x7), (9, 0), (9, 0)]) (pc' := 122) (kX0_mostLeft_1 0 rfl) rfl (Nat.le_of_ble_eq_true rfl) rfl g3 rfl ?_
    refine r_goto (pc' := 6) (kX0_mostLeft_1 1 rfl) rfl ?_
    exact r_weak (L' := [(2, 195), (0, x1), (0, x2), (0, x3), (0, r2), (0, (x5 + 1)), (9, 0), (9, 0), (9, 0), (9, 0)]) ⟨Or.inl rfl, Or.inl rfl, Or.inl rfl, Or.inl rfl, Or.inl rfl, Or.inl rfl, Or.inr (by decide), Or.inr (by decide), Or.inr (by decide), Or.inr (by decide), trivial⟩ (h Ln)
  · have h := h.2 c1
    refine r_iload_n (pc' := 37) (kX0_mostLeft_0 18 rfl) rfl rfl ?_
    refine r_iload (pc' := 39) (kX0_mostLeft_0 19 rfl) rfl rfl ?_
    refine r_ishr (pc' := 40) (kX0_mostLeft_0 20 rfl) rfl ?_
    refine r_iconst 1 (pc' := 41) (kX0_mostLeft_0 21 rfl) rfl (by unfold inR; omega) ?_
    refine r_iand (pc' := 42) (kX0_mostLeft_0 22 rfl) rfl ?_
    refine r_if_eq (t := 58) (pc' := 45) (kX0_mostLeft_0 23 rfl) rfl rfl (fun c4 => ?_) (fun c4 => ?_)
    · have h := h.1 c4
      refine r_iconst 0 (pc' := 59) (kX0_mostLeft_0 32 rfl) rfl (by unfold inR; omega) ?_
      refine r_istore (L' := [(2, 195), (0, x1), (0, x2), (0, x3), (0, x4), (0, x5), (0, x6), (0, x7), (0, 0), (9, 0)]) (pc' := 61) (kX0_mostLeft_0 33 rfl) rfl (Nat.le_of_ble_eq_true rfl) rfl ?_
      refine r_aload_n (pc' := 62) (kX0_mostLeft_0 34 rfl) rfl rfl ?_
      refine s_getr (v := 196) (pc' := 65) (kX0_mostLeft_0 35 rfl) rfl fkX0_9 rfl rfl (kz195 Ln) rfl (by decide) ?_
      refine r_iload (pc' := 67) (kX0_mostLeft_0 36 rfl) rfl rfl ?_
      refine r_iload_n (pc' := 68) (kX0_mostLeft_0 37 rfl) rfl rfl ?_
      refine r_iload_n (pc' := 69) (kX0_mostLeft_0 38 rfl) rfl rfl ?_
      refine s_callS (As := [(0, x5), (0, x2), (0, x3)]) (S := [(2, 196)]) (S2 := fun z => [(0, z), (2, 196)]) (pc' := 72) (kX0_mostLeft_0 39 rfl) rfl rfl nkX0_pathCell mlX0_115 scX0_pathCell rfl (Nat.le_of_ble_eq_true rfl) (Nat.le_of_ble_eq_true rfl) h (fun z => rfl) (fun r5 φ5 α5 h => ?_)
      refine s_callS (As := [(2, 196), (0, r5)]) (S := []) (S2 := fun z => [(0, z)]) (pc' := 75) (kX0_mostLeft_0 40 rfl) rfl rfl nkX10_pick mlX0_122 scX10_pick rfl (Nat.le_of_ble_eq_true rfl) (Nat.le_of_ble_eq_true rfl) h (fun z => rfl) (fun r6 φ6 α6 h => ?_)
      refine r_istore (L' := [(2, 195), (0, x1), (0, x2), (0, x3), (0, x4), (0, x5), (0, x6), (0, x7), (0, 0), (0, r6)]) (pc' := 77) (kX0_mostLeft_0 41 rfl) rfl (Nat.le_of_ble_eq_true rfl) rfl ?_
      refine r_iload (pc' := 79) (kX0_mostLeft_0 42 rfl) rfl rfl ?_
      refine r_if_eq (t := 104) (pc' := 82) (kX0_mostLeft_0 43 rfl) rfl rfl (fun _ => ?_) (fun cz => absurd cz (by decide))
      have g7 := h.1
      have h := h.2
      refine r_iinc (L' := [(2, 195), (0, x1), (0, x2), (0, x3), (0, x4), (0, x5), (0, x6), (0, (x7 + 1)), (0, 0), (0, r6)]) (pc' := 107) (kX0_mostLeft_0 54 rfl) rfl (Nat.le_of_ble_eq_true rfl) rfl g7 rfl ?_
      refine r_goto (pc' := 24) (kX0_mostLeft_0 55 rfl) rfl ?_
      exact r_weak (L' := [(2, 195), (0, x1), (0, x2), (0, x3), (0, x4), (0, x5), (0, x6), (0, (x7 + 1)), (9, 0), (9, 0)]) ⟨Or.inl rfl, Or.inl rfl, Or.inl rfl, Or.inl rfl, Or.inl rfl, Or.inl rfl, Or.inl rfl, Or.inl rfl, Or.inr (by decide), Or.inr (by decide), trivial⟩ (h Ln)
    · have h := h.2 c4
      refine r_iload_n (pc' := 46) (kX0_mostLeft_0 24 rfl) rfl rfl ?_
      refine r_iload (pc' := 48) (kX0_mostLeft_0 25 rfl) rfl rfl ?_
      refine r_ishr (pc' := 49) (kX0_mostLeft_0 26 rfl) rfl ?_
      refine r_iconst 1 (pc' := 50) (kX0_mostLeft_0 27 rfl) rfl (by unfold inR; omega) ?_
      refine r_iand (pc' := 51) (kX0_mostLeft_0 28 rfl) rfl ?_
      refine r_if_eq (t := 58) (pc' := 54) (kX0_mostLeft_0 29 rfl) rfl rfl (fun c8 => ?_) (fun c8 => ?_)
      · have h := h.1 c8
        refine r_iconst 0 (pc' := 59) (kX0_mostLeft_0 32 rfl) rfl (by unfold inR; omega) ?_
        refine r_istore (L' := [(2, 195), (0, x1), (0, x2), (0, x3), (0, x4), (0, x5), (0, x6), (0, x7), (0, 0), (9, 0)]) (pc' := 61) (kX0_mostLeft_0 33 rfl) rfl (Nat.le_of_ble_eq_true rfl) rfl ?_
        refine r_aload_n (pc' := 62) (kX0_mostLeft_0 34 rfl) rfl rfl ?_
        refine s_getr (v := 196) (pc' := 65) (kX0_mostLeft_0 35 rfl) rfl fkX0_9 rfl rfl (kz195 Ln) rfl (by decide) ?_
        refine r_iload (pc' := 67) (kX0_mostLeft_0 36 rfl) rfl rfl ?_
        refine r_iload_n (pc' := 68) (kX0_mostLeft_0 37 rfl) rfl rfl ?_
        refine r_iload_n (pc' := 69) (kX0_mostLeft_0 38 rfl) rfl rfl ?_
        refine s_callS (As := [(0, x5), (0, x2), (0, x3)]) (S := [(2, 196)]) (S2 := fun z => [(0, z), (2, 196)]) (pc' := 72) (kX0_mostLeft_0 39 rfl) rfl rfl nkX0_pathCell mlX0_115 scX0_pathCell rfl (Nat.le_of_ble_eq_true rfl) (Nat.le_of_ble_eq_true rfl) h (fun z => rfl) (fun r9 φ9 α9 h => ?_)
        refine s_callS (As := [(2, 196), (0, r9)]) (S := []) (S2 := fun z => [(0, z)]) (pc' := 75) (kX0_mostLeft_0 40 rfl) rfl rfl nkX10_pick mlX0_122 scX10_pick rfl (Nat.le_of_ble_eq_true rfl) (Nat.le_of_ble_eq_true rfl) h (fun z => rfl) (fun r10 φ10 α10 h => ?_)
        refine r_istore (L' := [(2, 195), (0, x1), (0, x2), (0, x3), (0, x4), (0, x5), (0, x6), (0, x7), (0, 0), (0, r10)]) (pc' := 77) (kX0_mostLeft_0 41 rfl) rfl (Nat.le_of_ble_eq_true rfl) rfl ?_
        refine r_iload (pc' := 79) (kX0_mostLeft_0 42 rfl) rfl rfl ?_
        refine r_if_eq (t := 104) (pc' := 82) (kX0_mostLeft_0 43 rfl) rfl rfl (fun _ => ?_) (fun cz => absurd cz (by decide))
        have g11 := h.1
        have h := h.2
        refine r_iinc (L' := [(2, 195), (0, x1), (0, x2), (0, x3), (0, x4), (0, x5), (0, x6), (0, (x7 + 1)), (0, 0), (0, r10)]) (pc' := 107) (kX0_mostLeft_0 54 rfl) rfl (Nat.le_of_ble_eq_true rfl) rfl g11 rfl ?_
        refine r_goto (pc' := 24) (kX0_mostLeft_0 55 rfl) rfl ?_
        exact r_weak (L' := [(2, 195), (0, x1), (0, x2), (0, x3), (0, x4), (0, x5), (0, x6), (0, (x7 + 1)), (9, 0), (9, 0)]) ⟨Or.inl rfl, Or.inl rfl, Or.inl rfl, Or.inl rfl, Or.inl rfl, Or.inl rfl, Or.inl rfl, Or.inl rfl, Or.inr (by decide), Or.inr (by decide), trivial⟩ (h Ln)
      · have h := h.2 c8
        refine r_iconst 1 (pc' := 55) (kX0_mostLeft_0 30 rfl) rfl (by unfold inR; omega) ?_
        refine r_goto (pc' := 59) (kX0_mostLeft_0 31 rfl) rfl ?_
        refine r_istore (L' := [(2, 195), (0, x1), (0, x2), (0, x3), (0, x4), (0, x5), (0, x6), (0, x7), (0, 1), (9, 0)]) (pc' := 61) (kX0_mostLeft_0 33 rfl) rfl (Nat.le_of_ble_eq_true rfl) rfl ?_
        refine r_aload_n (pc' := 62) (kX0_mostLeft_0 34 rfl) rfl rfl ?_
        refine s_getr (v := 196) (pc' := 65) (kX0_mostLeft_0 35 rfl) rfl fkX0_9 rfl rfl (kz195 Ln) rfl (by decide) ?_
        refine r_iload (pc' := 67) (kX0_mostLeft_0 36 rfl) rfl rfl ?_
        refine r_iload_n (pc' := 68) (kX0_mostLeft_0 37 rfl) rfl rfl ?_
        refine r_iload_n (pc' := 69) (kX0_mostLeft_0 38 rfl) rfl rfl ?_
        refine s_callS (As := [(0, x5), (0, x2), (0, x3)]) (S := [(2, 196)]) (S2 := fun z => [(0, z), (2, 196)]) (pc' := 72) (kX0_mostLeft_0 39 rfl) rfl rfl nkX0_pathCell mlX0_115 scX0_pathCell rfl (Nat.le_of_ble_eq_true rfl) (Nat.le_of_ble_eq_true rfl) h (fun z => rfl) (fun r12 φ12 α12 h => ?_)
        refine s_callS (As := [(2, 196), (0, r12)]) (S := []) (S2 := fun z => [(0, z)]) (pc' := 75) (kX0_mostLeft_0 40 rfl) rfl rfl nkX10_pick mlX0_122 scX10_pick rfl (Nat.le_of_ble_eq_true rfl) (Nat.le_of_ble_eq_true rfl) h (fun z => rfl) (fun r13 φ13 α13 h => ?_)
        refine r_istore (L' := [(2, 195), (0, x1), (0, x2), (0, x3), (0, x4), (0, x5), (0, x6), (0, x7), (0, 1), (0, r13)]) (pc' := 77) (kX0_mostLeft_0 41 rfl) rfl (Nat.le_of_ble_eq_true rfl) rfl ?_
        refine r_iload (pc' := 79) (kX0_mostLeft_0 42 rfl) rfl rfl ?_
        refine r_if_eq (t := 104) (pc' := 82) (kX0_mostLeft_0 43 rfl) rfl rfl (fun cz => absurd cz (by decide)) (fun _ => ?_)
        refine r_aload_n (pc' := 83) (kX0_mostLeft_0 44 rfl) rfl rfl ?_
        refine s_getr (v := 196) (pc' := 86) (kX0_mostLeft_0 45 rfl) rfl fkX0_9 rfl rfl (kz195 Ln) rfl (by decide) ?_
        refine r_iload (pc' := 88) (kX0_mostLeft_0 46 rfl) rfl rfl ?_
        refine r_iload_n (pc' := 89) (kX0_mostLeft_0 47 rfl) rfl rfl ?_
        refine r_iload_n (pc' := 90) (kX0_mostLeft_0 48 rfl) rfl rfl ?_
        refine s_callS (As := [(0, x7), (0, x2), (0, x3)]) (S := [(2, 196)]) (S2 := fun z => [(0, z), (2, 196)]) (pc' := 93) (kX0_mostLeft_0 49 rfl) rfl rfl nkX0_pathCell mlX0_115 scX0_pathCell rfl (Nat.le_of_ble_eq_true rfl) (Nat.le_of_ble_eq_true rfl) h (fun z => rfl) (fun r14 φ14 α14 h => ?_)
        refine s_callS (As := [(2, 196), (0, r14)]) (S := []) (S2 := fun z => [(0, z)]) (pc' := 96) (kX0_mostLeft_0 50 rfl) rfl rfl nkX10_pick mlX0_122 scX10_pick rfl (Nat.le_of_ble_eq_true rfl) (Nat.le_of_ble_eq_true rfl) h (fun z => rfl) (fun r15 φ15 α15 h => ?_)
        refine r_iload (pc' := 98) (kX0_mostLeft_0 51 rfl) rfl rfl ?_
        refine r_icmp_ne (t := 104) (pc' := 101) (kX0_mostLeft_0 52 rfl) rfl rfl (fun c16 => ?_) (fun c16 => ?_)
        · have h := h.1 c16
          have g17 := h.1
          have h := h.2
          refine r_iinc (L' := [(2, 195), (0, x1), (0, x2), (0, x3), (0, x4), (0, x5), (0, x6), (0, (x7 + 1)), (0, 1), (0, r13)]) (pc' := 107) (kX0_mostLeft_0 54 rfl) rfl (Nat.le_of_ble_eq_true rfl) rfl g17 rfl ?_
          refine r_goto (pc' := 24) (kX0_mostLeft_0 55 rfl) rfl ?_
          exact r_weak (L' := [(2, 195), (0, x1), (0, x2), (0, x3), (0, x4), (0, x5), (0, x6), (0, (x7 + 1)), (9, 0), (9, 0)]) ⟨Or.inl rfl, Or.inl rfl, Or.inl rfl, Or.inl rfl, Or.inl rfl, Or.inl rfl, Or.inl rfl, Or.inl rfl, Or.inr (by decide), Or.inr (by decide), trivial⟩ (h Ln)
        · have h := h.2 c16
          have g18 := h.1
          have h := h.2
          refine r_iinc (L' := [(2, 195), (0, x1), (0, x2), (0, x3), (0, x4), (0, x5), (0, (x6 + 1)), (0, x7), (0, 1), (0, r13)]) (pc' := 104) (kX0_mostLeft_0 53 rfl) rfl (Nat.le_of_ble_eq_true rfl) rfl g18 rfl ?_
          have g19 := h.1
          have h := h.2
          refine r_iinc (L' := [(2, 195), (0, x1), (0, x2), (0, x3), (0, x4), (0, x5), (0, (x6 + 1)), (0, (x7 + 1)), (0, 1), (0, r13)]) (pc' := 107) (kX0_mostLeft_0 54 rfl) rfl (Nat.le_of_ble_eq_true rfl) rfl g19 rfl ?_
          refine r_goto (pc' := 24) (kX0_mostLeft_0 55 rfl) rfl ?_
          exact r_weak (L' := [(2, 195), (0, x1), (0, x2), (0, x3), (0, x4), (0, x5), (0, (x6 + 1)), (0, (x7 + 1)), (9, 0), (9, 0)]) ⟨Or.inl rfl, Or.inl rfl, Or.inl rfl, Or.inl rfl, Or.inl rfl, Or.inl rfl, Or.inl rfl, Or.inl rfl, Or.inr (by decide), Or.inr (by decide), trivial⟩ (h Ln)
