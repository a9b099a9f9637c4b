abbrev jX11_letter_67 (d : Nat) (x3 x4 x6 x7 : Int) (φ : aF) (α : aA) (Q : Int → aF → aA → Prop) : Prop := R0 d mX11_letter 67 [(9, 0), (9, 0), (9, 0), (0, x3), (1, x4), (8, 0), (0, x6), (1, x7), (8, 0)] [] φ α Q
theorem vX11_letter_0 {d : Nat} {φ : aF} {α : aA} {Q : Int → aF → aA → Prop} {x1 : Int} {x2 : Int} {x3 : Int} (h : (eX11_isIn d x1 0 1 φ α (fun r1 φ1 α1 =>
   ((r1 = 0 →
   (Q (-1) φ1 α1)) ∧
   (¬ (r1 = 0) →
   inR (2 + x1) ∧ (0 ≤ (2 + x1) ∧ (2 + x1) < (4 : Nat)) ∧ inR ((α1 226 (2 + x1)) - 1) ∧ (eX11_isIn d x2 0 ((α1 226 (2 + x1)) - 1) φ1 α1 (fun r6 φ6 α6 =>
     ((r6 = 0 →
     (Q (-1) φ6 α6)) ∧
     (¬ (r6 = 0) →
     (eX11_isIn d x3 0 5 φ6 α6 (fun r8 φ8 α8 =>
       ((¬ r8 = 0 →
       inR (8 * x1) ∧ inR (16 + (8 * x1)) ∧ inR ((16 + (8 * x1)) + x2) ∧ (0 ≤ ((16 + (8 * x1)) + x2) ∧ ((16 + (8 * x1)) + x2) < (32 : Nat)) ∧ (jX11_letter_67 (d + 1) x3 (α8 227 ((16 + (8 * x1)) + x2)) 0 (α8 227 ((16 + (8 * x1)) + x2)) φ8 α8 Q)) ∧
       (r8 = 0 →
       (Q (-1) φ8 α8)))))))))))))) : eX11_letter (d + 1) x1 x2 x3 φ α Q := by
  intro Ln
  refine r_iload_n (pc' := 1) (kX11_letter_0 0 rfl) rfl rfl ?_
  refine r_i2l (pc' := 2) (kX11_letter_0 1 rfl) rfl ?_
  refine r_lconst 0 (pc' := 3) (kX11_letter_0 2 rfl) rfl ⟨by unfold inJ; omega, rfl⟩ ?_
  refine r_lconst 1 (pc' := 4) (kX11_letter_0 3 rfl) rfl ⟨by unfold inJ; omega, rfl⟩ ?_
  refine s_callS (As := [(1, x1), (1, 0), (1, 1)]) (S := []) (S2 := fun z => [(0, z)]) (pc' := 7) (kX11_letter_0 4 rfl) rfl rfl nkX11_isIn mlX11_270 scX11_isIn rfl (Nat.le_of_ble_eq_true rfl) (Nat.le_of_ble_eq_true rfl) h (fun z => rfl) (fun r1 φ1 α1 h => ?_)
  refine r_if_eq (t := 42) (pc' := 10) (kX11_letter_0 5 rfl) rfl rfl (fun c2 => ?_) (fun c2 => ?_)
  · have h := h.1 c2
    refine r_iconst (-1) (pc' := 43) (kX11_letter_0 26 rfl) rfl (by unfold inR; omega) ?_
    exact s_iret (kX11_letter_0 27 rfl) rfl h
  · have h := h.2 c2
    refine r_iload_n (pc' := 11) (kX11_letter_0 6 rfl) rfl rfl ?_
    refine r_i2l (pc' := 12) (kX11_letter_0 7 rfl) rfl ?_
    refine r_lconst 0 (pc' := 13) (kX11_letter_0 8 rfl) rfl ⟨by unfold inJ; omega, rfl⟩ ?_
    refine r_aload_n (pc' := 14) (kX11_letter_0 9 rfl) rfl rfl ?_
    refine s_getr (v := 226) (pc' := 17) (kX11_letter_0 10 rfl) rfl fkX11_96 rfl rfl (kz198 Ln) rfl (by decide) ?_
    refine r_iconst 2 (pc' := 18) (kX11_letter_0 11 rfl) rfl (by unfold inR; omega) ?_
    refine r_iload_n (pc' := 19) (kX11_letter_0 12 rfl) rfl rfl ?_
    have g3 := h.1
    have h := h.2
    refine r_iadd (pc' := 20) (kX11_letter_0 13 rfl) rfl g3 ?_
    have g4 := h.1
    have h := h.2
    refine s_iald (x := (α1 226 (2 + x1))) (pc' := 21) (kX11_letter_0 14 rfl) rfl (kz226 Ln) g4 rfl ?_
    refine r_iconst 1 (pc' := 22) (kX11_letter_0 15 rfl) rfl (by unfold inR; omega) ?_
    have g5 := h.1
    have h := h.2
    refine r_isub (pc' := 23) (kX11_letter_0 16 rfl) rfl g5 ?_
    refine r_i2l (pc' := 24) (kX11_letter_0 17 rfl) rfl ?_
    refine s_callS (As := [(1, x2), (1, 0), (1, ((α1 226 (2 + x1)) - 1))]) (S := []) (S2 := fun z => [(0, z)]) (pc' := 27) (kX11_letter_0 18 rfl) rfl rfl nkX11_isIn mlX11_270 scX11_isIn rfl (Nat.le_of_ble_eq_true rfl) (Nat.le_of_ble_eq_true rfl) h (fun z => rfl) (fun r6 φ6 α6 h => ?_)
    refine r_if_eq (t := 42) (pc' := 30) (kX11_letter_0 19 rfl) rfl rfl (fun c7 => ?_) (fun c7 => ?_)
    · have h := h.1 c7
      refine r_iconst (-1) (pc' := 43) (kX11_letter_0 26 rfl) rfl (by unfold inR; omega) ?_
      exact s_iret (kX11_letter_0 27 rfl) rfl h
    · have h := h.2 c7
      refine r_iload_n (pc' := 31) (kX11_letter_0 20 rfl) rfl rfl ?_
      refine r_i2l (pc' := 32) (kX11_letter_0 21 rfl) rfl ?_
      refine r_lconst 0 (pc' := 33) (kX11_letter_0 22 rfl) rfl ⟨by unfold inJ; omega, rfl⟩ ?_
      refine r_ldc2 5 (pc' := 36) (kX11_letter_0 23 rfl) rfl kcX11_462 (by unfold inJ; omega) ?_
      refine s_callS (As := [(1, x3), (1, 0), (1, 5)]) (S := []) (S2 := fun z => [(0, z)]) (pc' := 39) (kX11_letter_0 24 rfl) rfl rfl nkX11_isIn mlX11_270 scX11_isIn rfl (Nat.le_of_ble_eq_true rfl) (Nat.le_of_ble_eq_true rfl) h (fun z => rfl) (fun r8 φ8 α8 h => ?_)
      refine r_if_ne (t := 44) (pc' := 42) (kX11_letter_0 25 rfl) rfl rfl (fun c9 => ?_) (fun c9 => ?_)
      · have h := h.1 c9
        refine r_aload_n (pc' := 45) (kX11_letter_0 28 rfl) rfl rfl ?_
        refine s_getr (v := 227) (pc' := 48) (kX11_letter_0 29 rfl) rfl fkX11_99 rfl rfl (kz198 Ln) rfl (by decide) ?_
        refine r_bipush 16 (pc' := 50) (kX11_letter_0 30 rfl) rfl ⟨by unfold inR; omega, rfl⟩ ?_
        refine r_bipush 8 (pc' := 52) (kX11_letter_0 31 rfl) rfl ⟨by unfold inR; omega, rfl⟩ ?_
        refine r_iload_n (pc' := 53) (kX11_letter_0 32 rfl) rfl rfl ?_
        have g10 := h.1
        have h := h.2
        refine r_imul (pc' := 54) (kX11_letter_0 33 rfl) rfl g10 ?_
        have g11 := h.1
        have h := h.2
        refine r_iadd (pc' := 55) (kX11_letter_0 34 rfl) rfl g11 ?_
        refine r_iload_n (pc' := 56) (kX11_letter_0 35 rfl) rfl rfl ?_
        have g12 := h.1
        have h := h.2
        refine r_iadd (pc' := 57) (kX11_letter_0 36 rfl) rfl g12 ?_
        have g13 := h.1
        have h := h.2
        refine s_lald (x := (α8 227 ((16 + (8 * x1)) + x2))) (pc' := 58) (kX11_letter_0 37 rfl) rfl (kz227 Ln) g13 rfl ?_
        refine r_lstore (L' := [(2, 198), (0, x1), (0, x2), (0, x3), (1, (α8 227 ((16 + (8 * x1)) + x2))), (8, 0), (9, 0), (9, 0), (9, 0)]) (pc' := 60) (kX11_letter_0 38 rfl) rfl (Nat.le_of_ble_eq_true rfl) rfl ?_
        refine r_iconst 0 (pc' := 61) (kX11_letter_0 39 rfl) rfl (by unfold inR; omega) ?_
        refine r_istore (L' := [(2, 198), (0, x1), (0, x2), (0, x3), (1, (α8 227 ((16 + (8 * x1)) + x2))), (8, 0), (0, 0), (9, 0), (9, 0)]) (pc' := 63) (kX11_letter_0 40 rfl) rfl (Nat.le_of_ble_eq_true rfl) rfl ?_
        refine r_lload (pc' := 65) (kX11_letter_0 41 rfl) rfl rfl ?_
        refine r_lstore (L' := [(2, 198), (0, x1), (0, x2), (0, x3), (1, (α8 227 ((16 + (8 * x1)) + x2))), (8, 0), (0, 0), (1, (α8 227 ((16 + (8 * x1)) + x2))), (8, 0)]) (pc' := 67) (kX11_letter_0 42 rfl) rfl (Nat.le_of_ble_eq_true rfl) rfl ?_
        exact r_weak (L' := [(9, 0), (9, 0), (9, 0), (0, x3), (1, (α8 227 ((16 + (8 * x1)) + x2))), (8, 0), (0, 0), (1, (α8 227 ((16 + (8 * x1)) + x2))), (8, 0)]) ⟨Or.inr (by decide), Or.inr (by decide), Or.inr (by decide), Or.inl rfl, Or.inl rfl, Or.inr (by decide), Or.inl rfl, Or.inl rfl, Or.inr (by decide), trivial⟩ (h Ln)
      · have h := h.2 c9
        refine r_iconst (-1) (pc' := 43) (kX11_letter_0 26 rfl) rfl (by unfold inR; omega) ?_
        exact s_iret (kX11_letter_0 27 rfl) rfl h
abbrev jX11_letter_102 (d : Nat) (x3 x4 x7 : Int) (φ : aF) (α : aA) (Q : Int → aF → aA → Prop) : Prop := R0 d mX11_letter 102 [(9, 0), (9, 0), (9, 0), (0, x3), (1, x4), (8, 0), (9, 0), (0, x7), (9, 0)] [] φ α Q
theorem vX11_letter_67 {d : Nat} {φ : aF} {α : aA} {Q : Int → aF → aA → Prop} {x3 : Int} {x4 : Int} {x6 : Int} {x7 : Int} (h : (((j3 x7 0) ≤ 0 →
   ((x3 < x6 →
     inR (x6 - 1) ∧ (jX11_letter_102 (d + 1) x3 x4 (x6 - 1) φ α Q)) ∧
     (¬ (x3 < x6) →
     (Q 0 φ α)))) ∧
   (¬ ((j3 x7 0) ≤ 0) →
   inR (x6 + 1) ∧ inJ (Int.tdiv x7 27) ∧ (jX11_letter_67 (d + 1) x3 x4 (x6 + 1) (Int.tdiv x7 27) φ α Q)))) : jX11_letter_67 (d + 1) x3 x4 x6 x7 φ α Q := by
  intro Ln
  refine r_lload (pc' := 69) (kX11_letter_0 43 rfl) rfl rfl ?_
  refine r_lconst 0 (pc' := 70) (kX11_letter_0 44 rfl) rfl ⟨by unfold inJ; omega, rfl⟩ ?_
  refine r_lcmp (pc' := 71) (kX11_letter_0 45 rfl) rfl ?_
  refine r_if_le (t := 88) (pc' := 74) (kX11_letter_0 46 rfl) rfl rfl (fun c1 => ?_) (fun c1 => ?_)
  · have h := h.1 c1
    refine r_iload_n (pc' := 89) (kX11_letter_0 53 rfl) rfl rfl ?_
    refine r_iload (pc' := 91) (kX11_letter_0 54 rfl) rfl rfl ?_
    refine r_icmp_lt (t := 96) (pc' := 94) (kX11_letter_0 55 rfl) rfl rfl (fun c2 => ?_) (fun c2 => ?_)
    · have h := h.1 c2
      refine r_iload (pc' := 98) (kX11_letter_0 58 rfl) rfl rfl ?_
      refine r_iconst 1 (pc' := 99) (kX11_letter_0 59 rfl) rfl (by unfold inR; omega) ?_
      have g3 := h.1
      have h := h.2
      refine r_isub (pc' := 100) (kX11_letter_1 0 rfl) rfl g3 ?_
      refine r_istore (L' := [(9, 0), (9, 0), (9, 0), (0, x3), (1, x4), (8, 0), (0, x6), (0, (x6 - 1)), (8, 0)]) (pc' := 102) (kX11_letter_1 1 rfl) rfl (Nat.le_of_ble_eq_true rfl) rfl ?_
      exact r_weak (L' := [(9, 0), (9, 0), (9, 0), (0, x3), (1, x4), (8, 0), (9, 0), (0, (x6 - 1)), (9, 0)]) ⟨Or.inr (by decide), Or.inr (by decide), Or.inr (by decide), Or.inl rfl, Or.inl rfl, Or.inr (by decide), Or.inr (by decide), Or.inl rfl, Or.inr (by decide), trivial⟩ (h Ln)
    · have h := h.2 c2
      refine r_iconst 0 (pc' := 95) (kX11_letter_0 56 rfl) rfl (by unfold inR; omega) ?_
      exact s_iret (kX11_letter_0 57 rfl) rfl h
  · have h := h.2 c1
    have g4 := h.1
    have h := h.2
    refine r_iinc (L' := [(9, 0), (9, 0), (9, 0), (0, x3), (1, x4), (8, 0), (0, (x6 + 1)), (1, x7), (8, 0)]) (pc' := 77) (kX11_letter_0 47 rfl) rfl (Nat.le_of_ble_eq_true rfl) rfl g4 rfl ?_
    refine r_lload (pc' := 79) (kX11_letter_0 48 rfl) rfl rfl ?_
    refine r_ldc2 27 (pc' := 82) (kX11_letter_0 49 rfl) rfl kcX11_281 (by unfold inJ; omega) ?_
    have g5 := h.1
    have h := h.2
    refine r_ldiv (pc' := 83) (kX11_letter_0 50 rfl) rfl ⟨by decide, g5⟩ ?_
    refine r_lstore (L' := [(9, 0), (9, 0), (9, 0), (0, x3), (1, x4), (8, 0), (0, (x6 + 1)), (1, (Int.tdiv x7 27)), (8, 0)]) (pc' := 85) (kX11_letter_0 51 rfl) rfl (Nat.le_of_ble_eq_true rfl) rfl ?_
    refine r_goto (pc' := 67) (kX11_letter_0 52 rfl) rfl ?_
    exact r_weak (L' := [(9, 0), (9, 0), (9, 0), (0, x3), (1, x4), (8, 0), (0, (x6 + 1)), (1, (Int.tdiv x7 27)), (8, 0)]) ⟨Or.inr (by decide), Or.inr (by decide), Or.inr (by decide), Or.inl rfl, Or.inl rfl, Or.inr (by decide), Or.inl rfl, Or.inl rfl, Or.inr (by decide), trivial⟩ (h Ln)
theorem vX11_letter_102 {d : Nat} {φ : aF} {α : aA} {Q : Int → aF → aA → Prop} {x3 : Int} {x4 : Int} {x7 : Int} (h : ((x7 ≤ x3 →
   inJ (Int.tmod x4 27) ∧ inR (Int.tmod x4 27) ∧ (Q (Int.tmod x4 27) φ α)) ∧
   (¬ (x7 ≤ x3) →
   inJ (Int.tdiv x4 27) ∧ inR (x7 + (-1)) ∧ (jX11_letter_102 (d + 1) x3 (Int.tdiv x4 27) (x7 + (-1)) φ α Q)))) : jX11_letter_102 (d + 1) x3 x4 x7 φ α Q := by
  intro Ln
  refine r_iload (pc' := 104) (kX11_letter_1 2 rfl) rfl rfl ?_
  refine r_iload_n (pc' := 105) (kX11_letter_1 3 rfl) rfl rfl ?_
  refine r_icmp_le (t := 122) (pc' := 108) (kX11_letter_1 4 rfl) rfl rfl (fun c1 => ?_) (fun c1 => ?_)
  · have h := h.1 c1
    refine r_lload (pc' := 124) (kX11_letter_1 11 rfl) rfl rfl ?_
    refine r_ldc2 27 (pc' := 127) (kX11_letter_1 12 rfl) rfl kcX11_281 (by unfold inJ; omega) ?_
    have g2 := h.1
    have h := h.2
    refine r_lrem (pc' := 128) (kX11_letter_1 13 rfl) rfl ⟨by decide, g2⟩ ?_
    have g3 := h.1
    have h := h.2
    refine r_l2i (pc' := 129) (kX11_letter_1 14 rfl) rfl g3 ?_
    exact s_iret (kX11_letter_1 15 rfl) rfl h
  · have h := h.2 c1
    refine r_lload (pc' := 110) (kX11_letter_1 5 rfl) rfl rfl ?_
    refine r_ldc2 27 (pc' := 113) (kX11_letter_1 6 rfl) rfl kcX11_281 (by unfold inJ; omega) ?_
    have g4 := h.1
    have h := h.2
    refine r_ldiv (pc' := 114) (kX11_letter_1 7 rfl) rfl ⟨by decide, g4⟩ ?_
    refine r_lstore (L' := [(9, 0), (9, 0), (9, 0), (0, x3), (1, (Int.tdiv x4 27)), (8, 0), (9, 0), (0, x7), (9, 0)]) (pc' := 116) (kX11_letter_1 8 rfl) rfl (Nat.le_of_ble_eq_true rfl) rfl ?_
    have g5 := h.1
    have h := h.2
    refine r_iinc (L' := [(9, 0), (9, 0), (9, 0), (0, x3), (1, (Int.tdiv x4 27)), (8, 0), (9, 0), (0, (x7 + (-1))), (9, 0)]) (pc' := 119) (kX11_letter_1 9 rfl) rfl (Nat.le_of_ble_eq_true rfl) rfl g5 rfl ?_
    refine r_goto (pc' := 102) (kX11_letter_1 10 rfl) rfl ?_
    exact r_weak (L' := [(9, 0), (9, 0), (9, 0), (0, x3), (1, (Int.tdiv x4 27)), (8, 0), (9, 0), (0, (x7 + (-1))), (9, 0)]) ⟨Or.inr (by decide), Or.inr (by decide), Or.inr (by decide), Or.inl rfl, Or.inl rfl, Or.inr (by decide), Or.inr (by decide), Or.inl rfl, Or.inr (by decide), trivial⟩ (h Ln)
theorem vX11_seat_0 {d : Nat} {φ : aF} {α : aA} {Q : Int → aF → aA → Prop} {x1 : Int} (h : (((φ 11 46 198) = 0 →
   (Q (-1) φ α)) ∧
   (¬ ((φ 11 46 198) = 0) →
   inR ((α 225 2) - 1) ∧ (eX11_isIn d x1 0 ((α 225 2) - 1) φ α (fun r3 φ3 α3 =>
     ((r3 = 0 →
     (Q (-1) φ3 α3)) ∧
     (¬ (r3 = 0) →
     (eX11_sitterOf d x1 φ3 α3 (fun r5 φ5 α5 =>
       (Q r5 φ5 α5)))))))))) : eX11_seat (d + 1) x1 φ α Q := by
  intro Ln
  refine r_aload_n (pc' := 1) (kX11_seat_0 0 rfl) rfl rfl ?_
  refine s_get (x := (φ 11 46 198)) (pc' := 4) (kX11_seat_0 1 rfl) rfl fkX11_363 rfl rfl rfl (kz198 Ln) rfl ?_
  refine r_if_eq (t := 33) (pc' := 7) (kX11_seat_0 2 rfl) rfl rfl (fun c1 => ?_) (fun c1 => ?_)
  · have h := h.1 c1
    refine r_iconst (-1) (pc' := 34) (kX11_seat_0 19 rfl) rfl (by unfold inR; omega) ?_
    exact s_iret (kX11_seat_0 20 rfl) rfl h
  · have h := h.2 c1
    refine r_iload_n (pc' := 8) (kX11_seat_0 3 rfl) rfl rfl ?_
    refine r_i2l (pc' := 9) (kX11_seat_0 4 rfl) rfl ?_
    refine r_lconst 0 (pc' := 10) (kX11_seat_0 5 rfl) rfl ⟨by unfold inJ; omega, rfl⟩ ?_
    refine r_aload_n (pc' := 11) (kX11_seat_0 6 rfl) rfl rfl ?_
    refine s_getr (v := 225) (pc' := 14) (kX11_seat_0 7 rfl) rfl fkX11_93 rfl rfl (kz198 Ln) rfl (by decide) ?_
    refine r_iconst 2 (pc' := 15) (kX11_seat_0 8 rfl) rfl (by unfold inR; omega) ?_
    refine s_iald (x := (α 225 2)) (pc' := 16) (kX11_seat_0 9 rfl) rfl (kz225 Ln) ⟨by decide, by decide⟩ rfl ?_
    refine r_iconst 1 (pc' := 17) (kX11_seat_0 10 rfl) rfl (by unfold inR; omega) ?_
    have g2 := h.1
    have h := h.2
    refine r_isub (pc' := 18) (kX11_seat_0 11 rfl) rfl g2 ?_
    refine r_i2l (pc' := 19) (kX11_seat_0 12 rfl) rfl ?_
    refine s_callS (As := [(1, x1), (1, 0), (1, ((α 225 2) - 1))]) (S := []) (S2 := fun z => [(0, z)]) (pc' := 22) (kX11_seat_0 13 rfl) rfl rfl nkX11_isIn mlX11_270 scX11_isIn rfl (Nat.le_of_ble_eq_true rfl) (Nat.le_of_ble_eq_true rfl) h (fun z => rfl) (fun r3 φ3 α3 h => ?_)
    refine r_if_eq (t := 33) (pc' := 25) (kX11_seat_0 14 rfl) rfl rfl (fun c4 => ?_) (fun c4 => ?_)
    · have h := h.1 c4
      refine r_iconst (-1) (pc' := 34) (kX11_seat_0 19 rfl) rfl (by unfold inR; omega) ?_
      exact s_iret (kX11_seat_0 20 rfl) rfl h
    · have h := h.2 c4
      refine r_aload_n (pc' := 26) (kX11_seat_0 15 rfl) rfl rfl ?_
      refine r_iload_n (pc' := 27) (kX11_seat_0 16 rfl) rfl rfl ?_
      refine s_callV (As := [(0, x1)]) (o := 198) (S := []) (S2 := fun z => [(0, z)]) (pc' := 30) (kX11_seat_0 17 rfl) rfl rfl nkX11_sitterOf mlX11_436 imX11_sitterOf rfl slX11_sitterOf rfl (Nat.le_of_ble_eq_true rfl) (Nat.le_of_ble_eq_true rfl) (kz198 Ln) h (fun z => rfl) (fun r5 φ5 α5 h => ?_)
      refine r_goto (pc' := 34) (kX11_seat_0 18 rfl) rfl ?_
      exact s_iret (kX11_seat_0 20 rfl) rfl h
abbrev jX11_powerOf_4 (d : Nat) (x1 x2 x3 : Int) (φ : aF) (α : aA) (Q : Int → aF → aA → Prop) : Prop := R0 d mX11_powerOf 4 [(2, 198), (0, x1), (0, x2), (0, x3), (9, 0), (9, 0), (9, 0)] [] φ α Q
theorem vX11_powerOf_0 {d : Nat} {φ : aF} {α : aA} {Q : Int → aF → aA → Prop} {x1 : Int} (h : (jX11_powerOf_4 (d + 1) x1 0 0 φ α Q)) : eX11_powerOf (d + 1) x1 φ α Q := by
  intro Ln
  refine r_iconst 0 (pc' := 1) (kX11_powerOf_0 0 rfl) rfl (by unfold inR; omega) ?_
  refine r_istore_n (L' := [(2, 198), (0, x1), (0, 0), (9, 0), (9, 0), (9, 0), (9, 0)]) (pc' := 2) (kX11_powerOf_0 1 rfl) rfl (Nat.le_of_ble_eq_true rfl) rfl ?_
  refine r_iconst 0 (pc' := 3) (kX11_powerOf_0 2 rfl) rfl (by unfold inR; omega) ?_
  refine r_istore_n (L' := [(2, 198), (0, x1), (0, 0), (0, 0), (9, 0), (9, 0), (9, 0)]) (pc' := 4) (kX11_powerOf_0 3 rfl) rfl (Nat.le_of_ble_eq_true rfl) rfl ?_
  exact r_weak (L' := [(2, 198), (0, x1), (0, 0), (0, 0), (9, 0), (9, 0), (9, 0)]) ⟨Or.inl rfl, Or.inl rfl, Or.inl rfl, Or.inl rfl, Or.inr (by decide), Or.inr (by decide), Or.inr (by decide), trivial⟩ (h Ln)
abbrev jX11_powerOf_31 (d : Nat) (x1 x2 x3 x4 : Int) (φ : aF) (α : aA) (Q : Int → aF → aA → Prop) : Prop := R0 d mX11_powerOf 31 [(2, 198), (0, x1), (0, x2), (0, x3), (0, x4), (9, 0), (9, 0)] [] φ α Q
theorem vX11_powerOf_4 {d : Nat} {φ : aF} {α : aA} {Q : Int → aF → aA → Prop} {x1 : Int} {x2 : Int} {x3 : Int} (h : (eX11_clerkMany d  φ α (fun r1 φ1 α1 =>
   ((r1 ≤ x3 →
   (jX11_powerOf_31 (d + 1) x1 x2 0 0 φ1 α1 Q)) ∧
   (¬ (r1 ≤ x3) →
   (eX11_roomOf d x3 φ1 α1 (fun r3 φ3 α3 =>
     inR (x2 + r3) ∧ inR (x3 + 1) ∧ (jX11_powerOf_4 (d + 1) x1 (x2 + r3) (x3 + 1) φ3 α3 Q)))))))) : jX11_powerOf_4 (d + 1) x1 x2 x3 φ α Q := by
  intro Ln
  refine r_iload_n (pc' := 5) (kX11_powerOf_0 4 rfl) rfl rfl ?_
  refine r_aload_n (pc' := 6) (kX11_powerOf_0 5 rfl) rfl rfl ?_
  refine s_callV (As := []) (o := 198) (S := [(0, x3)]) (S2 := fun z => [(0, z), (0, x3)]) (pc' := 9) (kX11_powerOf_0 6 rfl) rfl rfl nkX11_clerkMany mlX11_376 imX11_clerkMany rfl slX11_clerkMany rfl (Nat.le_of_ble_eq_true rfl) (Nat.le_of_ble_eq_true rfl) (kz198 Ln) h (fun z => rfl) (fun r1 φ1 α1 h => ?_)
  refine r_icmp_ge (t := 26) (pc' := 12) (kX11_powerOf_0 7 rfl) rfl rfl (fun c2 => ?_) (fun c2 => ?_)
  · have h := h.1 c2
    refine r_iconst 0 (pc' := 27) (kX11_powerOf_0 16 rfl) rfl (by unfold inR; omega) ?_
    refine r_istore_n (L' := [(2, 198), (0, x1), (0, x2), (0, 0), (9, 0), (9, 0), (9, 0)]) (pc' := 28) (kX11_powerOf_0 17 rfl) rfl (Nat.le_of_ble_eq_true rfl) rfl ?_
    refine r_iconst 0 (pc' := 29) (kX11_powerOf_0 18 rfl) rfl (by unfold inR; omega) ?_
    refine r_istore (L' := [(2, 198), (0, x1), (0, x2), (0, 0), (0, 0), (9, 0), (9, 0)]) (pc' := 31) (kX11_powerOf_0 19 rfl) rfl (Nat.le_of_ble_eq_true rfl) rfl ?_
    exact r_weak (L' := [(2, 198), (0, x1), (0, x2), (0, 0), (0, 0), (9, 0), (9, 0)]) ⟨Or.inl rfl, Or.inl rfl, Or.inl rfl, Or.inl rfl, Or.inl rfl, Or.inr (by decide), Or.inr (by decide), trivial⟩ (h Ln)
  · have h := h.2 c2
    refine r_iload_n (pc' := 13) (kX11_powerOf_0 8 rfl) rfl rfl ?_
    refine r_aload_n (pc' := 14) (kX11_powerOf_0 9 rfl) rfl rfl ?_
    refine r_iload_n (pc' := 15) (kX11_powerOf_0 10 rfl) rfl rfl ?_
    refine s_callV (As := [(0, x3)]) (o := 198) (S := [(0, x2)]) (S2 := fun z => [(0, z), (0, x2)]) (pc' := 18) (kX11_powerOf_0 11 rfl) rfl rfl nkX11_roomOf mlX11_389 imX11_roomOf rfl slX11_roomOf rfl (Nat.le_of_ble_eq_true rfl) (Nat.le_of_ble_eq_true rfl) (kz198 Ln) h (fun z => rfl) (fun r3 φ3 α3 h => ?_)
    have g4 := h.1
    have h := h.2
    refine r_iadd (pc' := 19) (kX11_powerOf_0 12 rfl) rfl g4 ?_
    refine r_istore_n (L' := [(2, 198), (0, x1), (0, (x2 + r3)), (0, x3), (9, 0), (9, 0), (9, 0)]) (pc' := 20) (kX11_powerOf_0 13 rfl) rfl (Nat.le_of_ble_eq_true rfl) rfl ?_
    have g5 := h.1
    have h := h.2
    refine r_iinc (L' := [(2, 198), (0, x1), (0, (x2 + r3)), (0, (x3 + 1)), (9, 0), (9, 0), (9, 0)]) (pc' := 23) (kX11_powerOf_0 14 rfl) rfl (Nat.le_of_ble_eq_true rfl) rfl g5 rfl ?_
    refine r_goto (pc' := 4) (kX11_powerOf_0 15 rfl) rfl ?_
    exact r_weak (L' := [(2, 198), (0, x1), (0, (x2 + r3)), (0, (x3 + 1)), (9, 0), (9, 0), (9, 0)]) ⟨Or.inl rfl, Or.inl rfl, Or.inl rfl, Or.inl rfl, Or.inr (by decide), Or.inr (by decide), Or.inr (by decide), trivial⟩ (h Ln)
abbrev jX11_powerOf_61 (d : Nat) (x1 x2 x3 x4 x5 x6 : Int) (φ : aF) (α : aA) (Q : Int → aF → aA → Prop) : Prop := R0 d mX11_powerOf 61 [(2, 198), (0, x1), (0, x2), (0, x3), (0, x4), (0, x5), (0, x6)] [] φ α Q
theorem vX11_powerOf_31 {d : Nat} {φ : aF} {α : aA} {Q : Int → aF → aA → Prop} {x1 : Int} {x2 : Int} {x3 : Int} {x4 : Int} (h : (eX11_clerkMany d  φ α (fun r1 φ1 α1 =>
   (((iShl 1 r1) ≤ x4 →
   (Q x3 φ1 α1)) ∧
   (¬ ((iShl 1 r1) ≤ x4) →
   ((¬ (iAnd (iShr x4 x1) 1) = 1 →
     (jX11_powerOf_61 (d + 1) x1 x2 x3 x4 0 0 φ1 α1 Q)) ∧
     ((iAnd (iShr x4 x1) 1) = 1 →
     inR (x4 + 1) ∧ (jX11_powerOf_31 (d + 1) x1 x2 x3 (x4 + 1) φ1 α1 Q)))))))) : jX11_powerOf_31 (d + 1) x1 x2 x3 x4 φ α Q := by
  intro Ln
  refine r_iload (pc' := 33) (kX11_powerOf_0 20 rfl) rfl rfl ?_
  refine r_iconst 1 (pc' := 34) (kX11_powerOf_0 21 rfl) rfl (by unfold inR; omega) ?_
  refine r_aload_n (pc' := 35) (kX11_powerOf_0 22 rfl) rfl rfl ?_
  refine s_callV (As := []) (o := 198) (S := [(0, 1), (0, x4)]) (S2 := fun z => [(0, z), (0, 1), (0, x4)]) (pc' := 38) (kX11_powerOf_0 23 rfl) rfl rfl nkX11_clerkMany mlX11_376 imX11_clerkMany rfl slX11_clerkMany rfl (Nat.le_of_ble_eq_true rfl) (Nat.le_of_ble_eq_true rfl) (kz198 Ln) h (fun z => rfl) (fun r1 φ1 α1 h => ?_)
  refine r_ishl (pc' := 39) (kX11_powerOf_0 24 rfl) rfl ?_
  refine r_icmp_ge (t := 129) (pc' := 42) (kX11_powerOf_0 25 rfl) rfl rfl (fun c2 => ?_) (fun c2 => ?_)
  · have h := h.1 c2
    refine r_iload_n (pc' := 130) (kX11_powerOf_1 14 rfl) rfl rfl ?_
    exact s_iret (kX11_powerOf_1 15 rfl) rfl h
  · have h := h.2 c2
    refine r_iload (pc' := 44) (kX11_powerOf_0 26 rfl) rfl rfl ?_
    refine r_iload_n (pc' := 45) (kX11_powerOf_0 27 rfl) rfl rfl ?_
    refine r_ishr (pc' := 46) (kX11_powerOf_0 28 rfl) rfl ?_
    refine r_iconst 1 (pc' := 47) (kX11_powerOf_0 29 rfl) rfl (by unfold inR; omega) ?_
    refine r_iand (pc' := 48) (kX11_powerOf_0 30 rfl) rfl ?_
    refine r_iconst 1 (pc' := 49) (kX11_powerOf_0 31 rfl) rfl (by unfold inR; omega) ?_
    refine r_icmp_ne (t := 55) (pc' := 52) (kX11_powerOf_0 32 rfl) rfl rfl (fun c3 => ?_) (fun c3 => ?_)
    · have h := h.1 c3
      refine r_iconst 0 (pc' := 56) (kX11_powerOf_0 34 rfl) rfl (by unfold inR; omega) ?_
      refine r_istore (L' := [(2, 198), (0, x1), (0, x2), (0, x3), (0, x4), (0, 0), (9, 0)]) (pc' := 58) (kX11_powerOf_0 35 rfl) rfl (Nat.le_of_ble_eq_true rfl) rfl ?_
      refine r_iconst 0 (pc' := 59) (kX11_powerOf_0 36 rfl) rfl (by unfold inR; omega) ?_
      refine r_istore (L' := [(2, 198), (0, x1), (0, x2), (0, x3), (0, x4), (0, 0), (0, 0)]) (pc' := 61) (kX11_powerOf_0 37 rfl) rfl (Nat.le_of_ble_eq_true rfl) rfl ?_
      exact r_weak (L' := [(2, 198), (0, x1), (0, x2), (0, x3), (0, x4), (0, 0), (0, 0)]) ⟨Or.inl rfl, Or.inl rfl, Or.inl rfl, Or.inl rfl, Or.inl rfl, Or.inl rfl, Or.inl rfl, trivial⟩ (h Ln)
    · have h := h.2 c3
      refine r_goto (pc' := 123) (kX11_powerOf_0 33 rfl) rfl ?_
      have g4 := h.1
      have h := h.2
      refine r_iinc (L' := [(2, 198), (0, x1), (0, x2), (0, x3), (0, (x4 + 1)), (9, 0), (9, 0)]) (pc' := 126) (kX11_powerOf_1 12 rfl) rfl (Nat.le_of_ble_eq_true rfl) rfl g4 rfl ?_
      refine r_goto (pc' := 31) (kX11_powerOf_1 13 rfl) rfl ?_
      exact r_weak (L' := [(2, 198), (0, x1), (0, x2), (0, x3), (0, (x4 + 1)), (9, 0), (9, 0)]) ⟨Or.inl rfl, Or.inl rfl, Or.inl rfl, Or.inl rfl, Or.inl rfl, Or.inr (by decide), Or.inr (by decide), trivial⟩ (h Ln)
theorem vX11_powerOf_61 {d : Nat} {φ : aF} {α : aA} {Q : Int → aF → aA → Prop} {x1 : Int} {x2 : Int} {x3 : Int} {x4 : Int} {x5 : Int} {x6 : Int} (h : (eX11_clerkMany d  φ α (fun r1 φ1 α1 =>
   ((r1 ≤ x6 →
   inR (2 * x5) ∧ ((x2 < (2 * x5) →
     inR (x4 + 1) ∧ (jX11_powerOf_31 (d + 1) x1 x2 x3 (x4 + 1) φ1 α1 Q)) ∧
     (¬ (x2 < (2 * x5)) →
     (eX11_roomOf d x1 φ1 α1 (fun r6 φ6 α6 =>
       inR (x5 + r6) ∧ inR (2 * (x5 + r6)) ∧ (((2 * (x5 + r6)) ≤ x2 →
       inR (x4 + 1) ∧ (jX11_powerOf_31 (d + 1) x1 x2 x3 (x4 + 1) φ6 α6 Q)) ∧
       (¬ ((2 * (x5 + r6)) ≤ x2) →
       inR (x3 + 1) ∧ inR (x4 + 1) ∧ (jX11_powerOf_31 (d + 1) x1 x2 (x3 + 1) (x4 + 1) φ6 α6 Q)))))))) ∧
   (¬ (r1 ≤ x6) →
   ((¬ (iAnd (iShr x4 x6) 1) = 1 →
     inR (x6 + 1) ∧ (jX11_powerOf_61 (d + 1) x1 x2 x3 x4 x5 (x6 + 1) φ1 α1 Q)) ∧
     ((iAnd (iShr x4 x6) 1) = 1 →
     (eX11_roomOf d x6 φ1 α1 (fun r15 φ15 α15 =>
       inR (x5 + r15) ∧ inR (x6 + 1) ∧ (jX11_powerOf_61 (d + 1) x1 x2 x3 x4 (x5 + r15) (x6 + 1) φ15 α15 Q)))))))))) : jX11_powerOf_61 (d + 1) x1 x2 x3 x4 x5 x6 φ α Q := by
  intro Ln
  refine r_iload (pc' := 63) (kX11_powerOf_0 38 rfl) rfl rfl ?_
  refine r_aload_n (pc' := 64) (kX11_powerOf_0 39 rfl) rfl rfl ?_
  refine s_callV (As := []) (o := 198) (S := [(0, x6)]) (S2 := fun z => [(0, z), (0, x6)]) (pc' := 67) (kX11_powerOf_0 40 rfl) rfl rfl nkX11_clerkMany mlX11_376 imX11_clerkMany rfl slX11_clerkMany rfl (Nat.le_of_ble_eq_true rfl) (Nat.le_of_ble_eq_true rfl) (kz198 Ln) h (fun z => rfl) (fun r1 φ1 α1 h => ?_)
  refine r_icmp_ge (t := 98) (pc' := 70) (kX11_powerOf_0 41 rfl) rfl rfl (fun c2 => ?_) (fun c2 => ?_)
  · have h := h.1 c2
    refine r_iconst 2 (pc' := 99) (kX11_powerOf_0 57 rfl) rfl (by unfold inR; omega) ?_
    refine r_iload (pc' := 101) (kX11_powerOf_0 58 rfl) rfl rfl ?_
    have g3 := h.1
    have h := h.2
    refine r_imul (pc' := 102) (kX11_powerOf_0 59 rfl) rfl g3 ?_
    refine r_iload_n (pc' := 103) (kX11_powerOf_1 0 rfl) rfl rfl ?_
    refine r_icmp_gt (t := 123) (pc' := 106) (kX11_powerOf_1 1 rfl) rfl rfl (fun c4 => ?_) (fun c4 => ?_)
    · have h := h.1 c4
      have g5 := h.1
      have h := h.2
      refine r_iinc (L' := [(2, 198), (0, x1), (0, x2), (0, x3), (0, (x4 + 1)), (0, x5), (0, x6)]) (pc' := 126) (kX11_powerOf_1 12 rfl) rfl (Nat.le_of_ble_eq_true rfl) rfl g5 rfl ?_
      refine r_goto (pc' := 31) (kX11_powerOf_1 13 rfl) rfl ?_
      exact r_weak (L' := [(2, 198), (0, x1), (0, x2), (0, x3), (0, (x4 + 1)), (9, 0), (9, 0)]) ⟨Or.inl rfl, Or.inl rfl, Or.inl rfl, Or.inl rfl, Or.inl rfl, Or.inr (by decide), Or.inr (by decide), trivial⟩ (h Ln)
    · have h := h.2 c4
      refine r_iconst 2 (pc' := 107) (kX11_powerOf_1 2 rfl) rfl (by unfold inR; omega) ?_
      refine r_iload (pc' := 109) (kX11_powerOf_1 3 rfl) rfl rfl ?_
      refine r_aload_n (pc' := 110) (kX11_powerOf_1 4 rfl) rfl rfl ?_
      refine r_iload_n (pc' := 111) (kX11_powerOf_1 5 rfl) rfl rfl ?_
      refine s_callV (As := [(0, x1)]) (o := 198) (S := [(0, x5), (0, 2)]) (S2 := fun z => [(0, z), (0, x5), (0, 2)]) (pc' := 114) (kX11_powerOf_1 6 rfl) rfl rfl nkX11_roomOf mlX11_389 imX11_roomOf rfl slX11_roomOf rfl (Nat.le_of_ble_eq_true rfl) (Nat.le_of_ble_eq_true rfl) (kz198 Ln) h (fun z => rfl) (fun r6 φ6 α6 h => ?_)
      have g7 := h.1
      have h := h.2
      refine r_iadd (pc' := 115) (kX11_powerOf_1 7 rfl) rfl g7 ?_
      have g8 := h.1
      have h := h.2
      refine r_imul (pc' := 116) (kX11_powerOf_1 8 rfl) rfl g8 ?_
      refine r_iload_n (pc' := 117) (kX11_powerOf_1 9 rfl) rfl rfl ?_
      refine r_icmp_le (t := 123) (pc' := 120) (kX11_powerOf_1 10 rfl) rfl rfl (fun c9 => ?_) (fun c9 => ?_)
      · have h := h.1 c9
        have g10 := h.1
        have h := h.2
        refine r_iinc (L' := [(2, 198), (0, x1), (0, x2), (0, x3), (0, (x4 + 1)), (0, x5), (0, x6)]) (pc' := 126) (kX11_powerOf_1 12 rfl) rfl (Nat.le_of_ble_eq_true rfl) rfl g10 rfl ?_
        refine r_goto (pc' := 31) (kX11_powerOf_1 13 rfl) rfl ?_
        exact r_weak (L' := [(2, 198), (0, x1), (0, x2), (0, x3), (0, (x4 + 1)), (9, 0), (9, 0)]) ⟨Or.inl rfl, Or.inl rfl, Or.inl rfl, Or.inl rfl, Or.inl rfl, Or.inr (by decide), Or.inr (by decide), trivial⟩ (h Ln)
      · have h := h.2 c9
        have g11 := h.1
        have h := h.2
        refine r_iinc (L' := [(2, 198), (0, x1), (0, x2), (0, (x3 + 1)), (0, x4), (0, x5), (0, x6)]) (pc' := 123) (kX11_powerOf_1 11 rfl) rfl (Nat.le_of_ble_eq_true rfl) rfl g11 rfl ?_
        have g12 := h.1
        have h := h.2
        refine r_iinc (L' := [(2, 198), (0, x1), (0, x2), (0, (x3 + 1)), (0, (x4 + 1)), (0, x5), (0, x6)]) (pc' := 126) (kX11_powerOf_1 12 rfl) rfl (Nat.le_of_ble_eq_true rfl) rfl g12 rfl ?_
        refine r_goto (pc' := 31) (kX11_powerOf_1 13 rfl) rfl ?_
        exact r_weak (L' := [(2, 198), (0, x1), (0, x2), (0, (x3 + 1)), (0, (x4 + 1)), (9, 0), (9, 0)]) ⟨Or.inl rfl, Or.inl rfl, Or.inl rfl, Or.inl rfl, Or.inl rfl, Or.inr (by decide), Or.inr (by decide), trivial⟩ (h Ln)
  · have h := h.2 c2
    refine r_iload (pc' := 72) (kX11_powerOf_0 42 rfl) rfl rfl ?_
    refine r_iload (pc' := 74) (kX11_powerOf_0 43 rfl) rfl rfl ?_
    refine r_ishr (pc' := 75) (kX11_powerOf_0 44 rfl) rfl ?_
    refine r_iconst 1 (pc' := 76) (kX11_powerOf_0 45 rfl) rfl (by unfold inR; omega) ?_
    refine r_iand (pc' := 77) (kX11_powerOf_0 46 rfl) rfl ?_
    refine r_iconst 1 (pc' := 78) (kX11_powerOf_0 47 rfl) rfl (by unfold inR; omega) ?_
    refine r_icmp_ne (t := 92) (pc' := 81) (kX11_powerOf_0 48 rfl) rfl rfl (fun c13 => ?_) (fun c13 => ?_)
    · have h := h.1 c13
      have g14 := h.1
      have h := h.2
      refine r_iinc (L' := [(2, 198), (0, x1), (0, x2), (0, x3), (0, x4), (0, x5), (0, (x6 + 1))]) (pc' := 95) (kX11_powerOf_0 55 rfl) rfl (Nat.le_of_ble_eq_true rfl) rfl g14 rfl ?_
      refine r_goto (pc' := 61) (kX11_powerOf_0 56 rfl) rfl ?_
      exact r_weak (L' := [(2, 198), (0, x1), (0, x2), (0, x3), (0, x4), (0, x5), (0, (x6 + 1))]) ⟨Or.inl rfl, Or.inl rfl, Or.inl rfl, Or.inl rfl, Or.inl rfl, Or.inl rfl, Or.inl rfl, trivial⟩ (h Ln)
    · have h := h.2 c13
      refine r_iload (pc' := 83) (kX11_powerOf_0 49 rfl) rfl rfl ?_
      refine r_aload_n (pc' := 84) (kX11_powerOf_0 50 rfl) rfl rfl ?_
      refine r_iload (pc' := 86) (kX11_powerOf_0 51 rfl) rfl rfl ?_
      refine s_callV (As := [(0, x6)]) (o := 198) (S := [(0, x5)]) (S2 := fun z => [(0, z), (0, x5)]) (pc' := 89) (kX11_powerOf_0 52 rfl) rfl rfl nkX11_roomOf mlX11_389 imX11_roomOf rfl slX11_roomOf rfl (Nat.le_of_ble_eq_true rfl) (Nat.le_of_ble_eq_true rfl) (kz198 Ln) h (fun z => rfl) (fun r15 φ15 α15 h => ?_)
      have g16 := h.1
      have h := h.2
      refine r_iadd (pc' := 90) (kX11_powerOf_0 53 rfl) rfl g16 ?_
      refine r_istore (L' := [(2, 198), (0, x1), (0, x2), (0, x3), (0, x4), (0, (x5 + r15)), (0, x6)]) (pc' := 92) (kX11_powerOf_0 54 rfl) rfl (Nat.le_of_ble_eq_true rfl) rfl ?_
      have g17 := h.1
      have h := h.2
      refine r_iinc (L' := [(2, 198), (0, x1), (0, x2), (0, x3), (0, x4), (0, (x5 + r15)), (0, (x6 + 1))]) (pc' := 95) (kX11_powerOf_0 55 rfl) rfl (Nat.le_of_ble_eq_true rfl) rfl g17 rfl ?_
      refine r_goto (pc' := 61) (kX11_powerOf_0 56 rfl) rfl ?_
      exact r_weak (L' := [(2, 198), (0, x1), (0, x2), (0, x3), (0, x4), (0, (x5 + r15)), (0, (x6 + 1))]) ⟨Or.inl rfl, Or.inl rfl, Or.inl rfl, Or.inl rfl, Or.inl rfl, Or.inl rfl, Or.inl rfl, trivial⟩ (h Ln)
theorem vX11_clerk_0 {d : Nat} {φ : aF} {α : aA} {Q : Int → aF → aA → Prop} {x1 : Int} {x2 : Int} (h : (eX11_isClerk d x1 φ α (fun r1 φ1 α1 =>
   ((¬ r1 = 0 →
   ((x2 = 0 →
     (eX11_seatOf d x1 φ1 α1 (fun r4 φ4 α4 =>
       (Q r4 φ4 α4)))) ∧
     ((x2 = 1 →
     (eX11_roomOf d x1 φ1 α1 (fun r5 φ5 α5 =>
       (Q r5 φ5 α5)))) ∧
     ((x2 = 2 →
     (eX11_fullOf d x1 φ1 α1 (fun r6 φ6 α6 =>
       (Q r6 φ6 α6)))) ∧
     ((x2 = 3 →
     (eX11_mindOf d x1 φ1 α1 (fun r7 φ7 α7 =>
       (Q r7 φ7 α7)))) ∧
     ((x2 = 4 →
     (eX11_powerOf d x1 φ1 α1 (fun r8 φ8 α8 =>
       (Q r8 φ8 α8)))) ∧
     ((¬ x2 = 0 ∧ ¬ x2 = 1 ∧ ¬ x2 = 2 ∧ ¬ x2 = 3 ∧ ¬ x2 = 4) →
     (Q (-1) φ1 α1)))))))) ∧
   (r1 = 0 →
   (Q (-1) φ1 α1)))))) : eX11_clerk (d + 1) x1 x2 φ α Q := by
  intro Ln
  refine r_aload_n (pc' := 1) (kX11_clerk_0 0 rfl) rfl rfl ?_
  refine r_iload_n (pc' := 2) (kX11_clerk_0 1 rfl) rfl rfl ?_
  refine r_i2l (pc' := 3) (kX11_clerk_0 2 rfl) rfl ?_
  refine s_callV (As := [(1, x1)]) (o := 198) (S := []) (S2 := fun z => [(0, z)]) (pc' := 6) (kX11_clerk_0 3 rfl) rfl rfl nkX11_isClerk mlX11_379 imX11_isClerk rfl slX11_isClerk rfl (Nat.le_of_ble_eq_true rfl) (Nat.le_of_ble_eq_true rfl) (kz198 Ln) h (fun z => rfl) (fun r1 φ1 α1 h => ?_)
  refine r_if_ne (t := 11) (pc' := 9) (kX11_clerk_0 4 rfl) rfl rfl (fun c2 => ?_) (fun c2 => ?_)
  · have h := h.1 c2
    refine r_iload_n (pc' := 12) (kX11_clerk_0 7 rfl) rfl rfl ?_
    have hD : (¬ x2 = 0 ∧ ¬ x2 = 1 ∧ ¬ x2 = 2 ∧ ¬ x2 = 3 ∧ ¬ x2 = 4) → Rn (d + 1) mX11_clerk 78 [(2, 198), (0, x1), (0, x2)] [] (K0 Ln) (mix φ1) (mixA α1) (0, 0) (Q0 mX11_clerk Ln Q) := by
      intro c0
      have h := h.2.2.2.2.2 c0
      refine r_iconst (-1) (pc' := 79) (kX11_clerk_0 29 rfl) rfl (by unfold inR; omega) ?_
      exact s_iret (kX11_clerk_0 30 rfl) rfl h
    by_cases c3_0 : x2 = 0
    · have h := h.1 c3_0
      refine r_tabIn (pc' := 48) 0 c3_0 (kX11_clerk_0 8 rfl) (by decide) (by decide) rfl rfl ?_
      refine r_aload_n (pc' := 49) (kX11_clerk_0 9 rfl) rfl rfl ?_
      refine r_iload_n (pc' := 50) (kX11_clerk_0 10 rfl) rfl rfl ?_
      refine s_callV (As := [(0, x1)]) (o := 198) (S := []) (S2 := fun z => [(0, z)]) (pc' := 53) (kX11_clerk_0 11 rfl) rfl rfl nkX11_seatOf mlX11_395 imX11_seatOf rfl slX11_seatOf rfl (Nat.le_of_ble_eq_true rfl) (Nat.le_of_ble_eq_true rfl) (kz198 Ln) h (fun z => rfl) (fun r4 φ4 α4 h => ?_)
      exact s_iret (kX11_clerk_0 12 rfl) rfl h
    by_cases c3_1 : x2 = 1
    · have h := h.2.1 c3_1
      refine r_tabIn (pc' := 54) 1 c3_1 (kX11_clerk_0 8 rfl) (by decide) (by decide) rfl rfl ?_
      refine r_aload_n (pc' := 55) (kX11_clerk_0 13 rfl) rfl rfl ?_
      refine r_iload_n (pc' := 56) (kX11_clerk_0 14 rfl) rfl rfl ?_
      refine s_callV (As := [(0, x1)]) (o := 198) (S := []) (S2 := fun z => [(0, z)]) (pc' := 59) (kX11_clerk_0 15 rfl) rfl rfl nkX11_roomOf mlX11_389 imX11_roomOf rfl slX11_roomOf rfl (Nat.le_of_ble_eq_true rfl) (Nat.le_of_ble_eq_true rfl) (kz198 Ln) h (fun z => rfl) (fun r5 φ5 α5 h => ?_)
      exact s_iret (kX11_clerk_0 16 rfl) rfl h
    by_cases c3_2 : x2 = 2
    · have h := h.2.2.1 c3_2
      refine r_tabIn (pc' := 60) 2 c3_2 (kX11_clerk_0 8 rfl) (by decide) (by decide) rfl rfl ?_
      refine r_aload_n (pc' := 61) (kX11_clerk_0 17 rfl) rfl rfl ?_
      refine r_iload_n (pc' := 62) (kX11_clerk_0 18 rfl) rfl rfl ?_
      refine s_callV (As := [(0, x1)]) (o := 198) (S := []) (S2 := fun z => [(0, z)]) (pc' := 65) (kX11_clerk_0 19 rfl) rfl rfl nkX11_fullOf mlX11_392 imX11_fullOf rfl slX11_fullOf rfl (Nat.le_of_ble_eq_true rfl) (Nat.le_of_ble_eq_true rfl) (kz198 Ln) h (fun z => rfl) (fun r6 φ6 α6 h => ?_)
      exact s_iret (kX11_clerk_0 20 rfl) rfl h
    by_cases c3_3 : x2 = 3
    · have h := h.2.2.2.1 c3_3
      refine r_tabIn (pc' := 66) 3 c3_3 (kX11_clerk_0 8 rfl) (by decide) (by decide) rfl rfl ?_
      refine r_aload_n (pc' := 67) (kX11_clerk_0 21 rfl) rfl rfl ?_
      refine r_iload_n (pc' := 68) (kX11_clerk_0 22 rfl) rfl rfl ?_
      refine s_callV (As := [(0, x1)]) (o := 198) (S := []) (S2 := fun z => [(0, z)]) (pc' := 71) (kX11_clerk_0 23 rfl) rfl rfl nkX11_mindOf mlX11_464 imX11_mindOf rfl slX11_mindOf rfl (Nat.le_of_ble_eq_true rfl) (Nat.le_of_ble_eq_true rfl) (kz198 Ln) h (fun z => rfl) (fun r7 φ7 α7 h => ?_)
      exact s_iret (kX11_clerk_0 24 rfl) rfl h
    by_cases c3_4 : x2 = 4
    · have h := h.2.2.2.2.1 c3_4
      refine r_tabIn (pc' := 72) 4 c3_4 (kX11_clerk_0 8 rfl) (by decide) (by decide) rfl rfl ?_
      refine r_aload_n (pc' := 73) (kX11_clerk_0 25 rfl) rfl rfl ?_
      refine r_iload_n (pc' := 74) (kX11_clerk_0 26 rfl) rfl rfl ?_
      refine s_callV (As := [(0, x1)]) (o := 198) (S := []) (S2 := fun z => [(0, z)]) (pc' := 77) (kX11_clerk_0 27 rfl) rfl rfl nkX11_powerOf mlX11_467 imX11_powerOf rfl slX11_powerOf rfl (Nat.le_of_ble_eq_true rfl) (Nat.le_of_ble_eq_true rfl) (kz198 Ln) h (fun z => rfl) (fun r8 φ8 α8 h => ?_)
      exact s_iret (kX11_clerk_0 28 rfl) rfl h
    have hD := hD ⟨c3_0, c3_1, c3_2, c3_3, c3_4⟩
    exact r_tabOut (pc' := 78) (kX11_clerk_0 8 rfl) (by omega) rfl hD
  · have h := h.2 c2
    refine r_iconst (-1) (pc' := 10) (kX11_clerk_0 5 rfl) rfl (by unfold inR; omega) ?_
    exact s_iret (kX11_clerk_0 6 rfl) rfl h
theorem vX11_drops_0 {d : Nat} {φ : aF} {α : aA} {Q : Int → aF → aA → Prop} {x1 : Int} {x2 : Int} (h : (eX11_areBoth d x1 x2 φ α (fun r1 φ1 α1 =>
   ((r1 = 0 →
   (Q (-1) φ1 α1)) ∧
   (¬ (r1 = 0) →
   (eX11_dropsOf d x1 x2 φ1 α1 (fun r3 φ3 α3 =>
     (Q r3 φ3 α3)))))))) : eX11_drops (d + 1) x1 x2 φ α Q := by
  intro Ln
  refine r_aload_n (pc' := 1) (kX11_drops_0 0 rfl) rfl rfl ?_
  refine r_iload_n (pc' := 2) (kX11_drops_0 1 rfl) rfl rfl ?_
  refine r_iload_n (pc' := 3) (kX11_drops_0 2 rfl) rfl rfl ?_
  refine s_callV (As := [(0, x1), (0, x2)]) (o := 198) (S := []) (S2 := fun z => [(0, z)]) (pc' := 6) (kX11_drops_0 3 rfl) rfl rfl nkX11_areBoth mlX11_470 imX11_areBoth rfl slX11_areBoth rfl (Nat.le_of_ble_eq_true rfl) (Nat.le_of_ble_eq_true rfl) (kz198 Ln) h (fun z => rfl) (fun r1 φ1 α1 h => ?_)
  refine r_if_eq (t := 18) (pc' := 9) (kX11_drops_0 4 rfl) rfl rfl (fun c2 => ?_) (fun c2 => ?_)
  · have h := h.1 c2
    refine r_iconst (-1) (pc' := 19) (kX11_drops_0 10 rfl) rfl (by unfold inR; omega) ?_
    exact s_iret (kX11_drops_0 11 rfl) rfl h
  · have h := h.2 c2
    refine r_aload_n (pc' := 10) (kX11_drops_0 5 rfl) rfl rfl ?_
    refine r_iload_n (pc' := 11) (kX11_drops_0 6 rfl) rfl rfl ?_
    refine r_iload_n (pc' := 12) (kX11_drops_0 7 rfl) rfl rfl ?_
    refine s_callV (As := [(0, x1), (0, x2)]) (o := 198) (S := []) (S2 := fun z => [(0, z)]) (pc' := 15) (kX11_drops_0 8 rfl) rfl rfl nkX11_dropsOf mlX11_386 imX11_dropsOf rfl slX11_dropsOf rfl (Nat.le_of_ble_eq_true rfl) (Nat.le_of_ble_eq_true rfl) (kz198 Ln) h (fun z => rfl) (fun r3 φ3 α3 h => ?_)
    refine r_goto (pc' := 19) (kX11_drops_0 9 rfl) rfl ?_
    exact s_iret (kX11_drops_0 11 rfl) rfl h
theorem vX11_matter_0 {d : Nat} {φ : aF} {α : aA} {Q : Int → aF → aA → Prop} {x1 : Int} {x2 : Int} (h : (eX11_isMatter d x1 φ α (fun r1 φ1 α1 =>
   ((¬ r1 = 0 →
   ((¬ x2 = 0 →
     (eX11_isIn d x2 1 3 φ1 α1 (fun r4 φ4 α4 =>
       ((r4 = 0 →
       ((¬ x2 = 4 →
         (Q (-1) φ4 α4)) ∧
         (x2 = 4 →
         (eX11_knowersOf d x1 φ4 α4 (fun r7 φ7 α7 =>
           (Q r7 φ7 α7)))))) ∧
       (¬ (r4 = 0) →
       inR (3 * x1) ∧ inR (36 + (3 * x1)) ∧ inR ((36 + (3 * x1)) + x2) ∧ inR (((36 + (3 * x1)) + x2) - 1) ∧ (0 ≤ (((36 + (3 * x1)) + x2) - 1) ∧ (((36 + (3 * x1)) + x2) - 1) < (169 : Nat)) ∧ (Q (α4 233 (((36 + (3 * x1)) + x2) - 1)) φ4 α4)))))) ∧
     (x2 = 0 →
     (eX11_inClerks d x1 φ1 α1 (fun r13 φ13 α13 =>
       (Q r13 φ13 α13)))))) ∧
   (r1 = 0 →
   (Q (-1) φ1 α1)))))) : eX11_matter (d + 1) x1 x2 φ α Q := by
  intro Ln
  refine r_aload_n (pc' := 1) (kX11_matter_0 0 rfl) rfl rfl ?_
  refine r_iload_n (pc' := 2) (kX11_matter_0 1 rfl) rfl rfl ?_
  refine r_i2l (pc' := 3) (kX11_matter_0 2 rfl) rfl ?_
  refine s_callV (As := [(1, x1)]) (o := 198) (S := []) (S2 := fun z => [(0, z)]) (pc' := 6) (kX11_matter_0 3 rfl) rfl rfl nkX11_isMatter mlX11_383 imX11_isMatter rfl slX11_isMatter rfl (Nat.le_of_ble_eq_true rfl) (Nat.le_of_ble_eq_true rfl) (kz198 Ln) h (fun z => rfl) (fun r1 φ1 α1 h => ?_)
  refine r_if_ne (t := 11) (pc' := 9) (kX11_matter_0 4 rfl) rfl rfl (fun c2 => ?_) (fun c2 => ?_)
  · have h := h.1 c2
    refine r_iload_n (pc' := 12) (kX11_matter_0 7 rfl) rfl rfl ?_
    refine r_if_ne (t := 21) (pc' := 15) (kX11_matter_0 8 rfl) rfl rfl (fun c3 => ?_) (fun c3 => ?_)
    · have h := h.1 c3
      refine r_iload_n (pc' := 22) (kX11_matter_0 13 rfl) rfl rfl ?_
      refine r_i2l (pc' := 23) (kX11_matter_0 14 rfl) rfl ?_
      refine r_lconst 1 (pc' := 24) (kX11_matter_0 15 rfl) rfl ⟨by unfold inJ; omega, rfl⟩ ?_
      refine r_ldc2 3 (pc' := 27) (kX11_matter_0 16 rfl) rfl kcX11_477 (by unfold inJ; omega) ?_
      refine s_callS (As := [(1, x2), (1, 1), (1, 3)]) (S := []) (S2 := fun z => [(0, z)]) (pc' := 30) (kX11_matter_0 17 rfl) rfl rfl nkX11_isIn mlX11_270 scX11_isIn rfl (Nat.le_of_ble_eq_true rfl) (Nat.le_of_ble_eq_true rfl) h (fun z => rfl) (fun r4 φ4 α4 h => ?_)
      refine r_if_eq (t := 51) (pc' := 33) (kX11_matter_0 18 rfl) rfl rfl (fun c5 => ?_) (fun c5 => ?_)
      · have h := h.1 c5
        refine r_iload_n (pc' := 52) (kX11_matter_0 32 rfl) rfl rfl ?_
        refine r_iconst 4 (pc' := 53) (kX11_matter_0 33 rfl) rfl (by unfold inR; omega) ?_
        refine r_icmp_ne (t := 64) (pc' := 56) (kX11_matter_0 34 rfl) rfl rfl (fun c6 => ?_) (fun c6 => ?_)
        · have h := h.1 c6
          refine r_iconst (-1) (pc' := 65) (kX11_matter_0 39 rfl) rfl (by unfold inR; omega) ?_
          exact s_iret (kX11_matter_0 40 rfl) rfl h
        · have h := h.2 c6
          refine r_aload_n (pc' := 57) (kX11_matter_0 35 rfl) rfl rfl ?_
          refine r_iload_n (pc' := 58) (kX11_matter_0 36 rfl) rfl rfl ?_
          refine s_callV (As := [(0, x1)]) (o := 198) (S := []) (S2 := fun z => [(0, z)]) (pc' := 61) (kX11_matter_0 37 rfl) rfl rfl nkX11_knowersOf mlX11_479 imX11_knowersOf rfl slX11_knowersOf rfl (Nat.le_of_ble_eq_true rfl) (Nat.le_of_ble_eq_true rfl) (kz198 Ln) h (fun z => rfl) (fun r7 φ7 α7 h => ?_)
          refine r_goto (pc' := 65) (kX11_matter_0 38 rfl) rfl ?_
          exact s_iret (kX11_matter_0 40 rfl) rfl h
      · have h := h.2 c5
        refine r_aload_n (pc' := 34) (kX11_matter_0 19 rfl) rfl rfl ?_
        refine s_getr (v := 233) (pc' := 37) (kX11_matter_0 20 rfl) rfl fkX11_118 rfl rfl (kz198 Ln) rfl (by decide) ?_
        refine r_bipush 36 (pc' := 39) (kX11_matter_0 21 rfl) rfl ⟨by unfold inR; omega, rfl⟩ ?_
        refine r_iconst 3 (pc' := 40) (kX11_matter_0 22 rfl) rfl (by unfold inR; omega) ?_
        refine r_iload_n (pc' := 41) (kX11_matter_0 23 rfl) rfl rfl ?_
        have g8 := h.1
        have h := h.2
        refine r_imul (pc' := 42) (kX11_matter_0 24 rfl) rfl g8 ?_
        have g9 := h.1
        have h := h.2
        refine r_iadd (pc' := 43) (kX11_matter_0 25 rfl) rfl g9 ?_
        refine r_iload_n (pc' := 44) (kX11_matter_0 26 rfl) rfl rfl ?_
        have g10 := h.1
        have h := h.2
        refine r_iadd (pc' := 45) (kX11_matter_0 27 rfl) rfl g10 ?_
        refine r_iconst 1 (pc' := 46) (kX11_matter_0 28 rfl) rfl (by unfold inR; omega) ?_
        have g11 := h.1
        have h := h.2
        refine r_isub (pc' := 47) (kX11_matter_0 29 rfl) rfl g11 ?_
        have g12 := h.1
        have h := h.2
        refine s_iald (x := (α4 233 (((36 + (3 * x1)) + x2) - 1))) (pc' := 48) (kX11_matter_0 30 rfl) rfl (kz233 Ln) g12 rfl ?_
        refine r_goto (pc' := 65) (kX11_matter_0 31 rfl) rfl ?_
        exact s_iret (kX11_matter_0 40 rfl) rfl h
    · have h := h.2 c3
      refine r_aload_n (pc' := 16) (kX11_matter_0 9 rfl) rfl rfl ?_
      refine r_iload_n (pc' := 17) (kX11_matter_0 10 rfl) rfl rfl ?_
      refine s_callV (As := [(0, x1)]) (o := 198) (S := []) (S2 := fun z => [(0, z)]) (pc' := 20) (kX11_matter_0 11 rfl) rfl rfl nkX11_inClerks mlX11_474 imX11_inClerks rfl slX11_inClerks rfl (Nat.le_of_ble_eq_true rfl) (Nat.le_of_ble_eq_true rfl) (kz198 Ln) h (fun z => rfl) (fun r13 φ13 α13 h => ?_)
      exact s_iret (kX11_matter_0 12 rfl) rfl h
  · have h := h.2 c2
    refine r_iconst (-1) (pc' := 10) (kX11_matter_0 5 rfl) rfl (by unfold inR; omega) ?_
    exact s_iret (kX11_matter_0 6 rfl) rfl h
theorem vX11_leak_0 {d : Nat} {φ : aF} {α : aA} {Q : Int → aF → aA → Prop} {x1 : Int} {x2 : Int} {x3 : Int} (h : (eX11_areBoth d x1 x3 φ α (fun r1 φ1 α1 =>
   ((r1 = 0 →
   (Q (-1) φ1 α1)) ∧
   (¬ (r1 = 0) →
   (eX11_isIn d x2 0 1 φ1 α1 (fun r3 φ3 α3 =>
     ((¬ r3 = 0 →
     (eX11_seatOf d x1 φ3 α3 (fun r5 φ5 α5 =>
       ((¬ x2 = 0 →
       inR (r5 + 1) ∧ (eX11_sitterOf d (r5 + 1) φ5 α5 (fun r8 φ8 α8 =>
         ((¬ r8 = (-1) →
         (eX11_leaksFrom d x1 r8 x3 φ8 α8 (fun r10 φ10 α10 =>
           (Q r10 φ10 α10)))) ∧
         (r8 = (-1) →
         (Q (-1) φ8 α8)))))) ∧
       (x2 = 0 →
       inR (r5 + (-1)) ∧ (eX11_sitterOf d (r5 + (-1)) φ5 α5 (fun r12 φ12 α12 =>
         ((¬ r12 = (-1) →
         (eX11_leaksFrom d x1 r12 x3 φ12 α12 (fun r14 φ14 α14 =>
           (Q r14 φ14 α14)))) ∧
         (r12 = (-1) →
         (Q (-1) φ12 α12)))))))))) ∧
     (r3 = 0 →
     (Q (-1) φ3 α3)))))))))) : eX11_leak (d + 1) x1 x2 x3 φ α Q := by
  intro Ln
  refine r_aload_n (pc' := 1) (kX11_leak_0 0 rfl) rfl rfl ?_
  refine r_iload_n (pc' := 2) (kX11_leak_0 1 rfl) rfl rfl ?_
  refine r_iload_n (pc' := 3) (kX11_leak_0 2 rfl) rfl rfl ?_
  refine s_callV (As := [(0, x1), (0, x3)]) (o := 198) (S := []) (S2 := fun z => [(0, z)]) (pc' := 6) (kX11_leak_0 3 rfl) rfl rfl nkX11_areBoth mlX11_470 imX11_areBoth rfl slX11_areBoth rfl (Nat.le_of_ble_eq_true rfl) (Nat.le_of_ble_eq_true rfl) (kz198 Ln) h (fun z => rfl) (fun r1 φ1 α1 h => ?_)
  refine r_if_eq (t := 19) (pc' := 9) (kX11_leak_0 4 rfl) rfl rfl (fun c2 => ?_) (fun c2 => ?_)
  · have h := h.1 c2
    refine r_iconst (-1) (pc' := 20) (kX11_leak_0 11 rfl) rfl (by unfold inR; omega) ?_
    exact s_iret (kX11_leak_0 12 rfl) rfl h
  · have h := h.2 c2
    refine r_iload_n (pc' := 10) (kX11_leak_0 5 rfl) rfl rfl ?_
    refine r_i2l (pc' := 11) (kX11_leak_0 6 rfl) rfl ?_
    refine r_lconst 0 (pc' := 12) (kX11_leak_0 7 rfl) rfl ⟨by unfold inJ; omega, rfl⟩ ?_
    refine r_lconst 1 (pc' := 13) (kX11_leak_0 8 rfl) rfl ⟨by unfold inJ; omega, rfl⟩ ?_
    refine s_callS (As := [(1, x2), (1, 0), (1, 1)]) (S := []) (S2 := fun z => [(0, z)]) (pc' := 16) (kX11_leak_0 9 rfl) rfl rfl nkX11_isIn mlX11_270 scX11_isIn rfl (Nat.le_of_ble_eq_true rfl) (Nat.le_of_ble_eq_true rfl) h (fun z => rfl) (fun r3 φ3 α3 h => ?_)
    refine r_if_ne (t := 21) (pc' := 19) (kX11_leak_0 10 rfl) rfl rfl (fun c4 => ?_) (fun c4 => ?_)
    · have h := h.1 c4
      refine r_aload_n (pc' := 22) (kX11_leak_0 13 rfl) rfl rfl ?_
      refine r_aload_n (pc' := 23) (kX11_leak_0 14 rfl) rfl rfl ?_
      refine r_iload_n (pc' := 24) (kX11_leak_0 15 rfl) rfl rfl ?_
      refine s_callV (As := [(0, x1)]) (o := 198) (S := [(2, 198)]) (S2 := fun z => [(0, z), (2, 198)]) (pc' := 27) (kX11_leak_0 16 rfl) rfl rfl nkX11_seatOf mlX11_395 imX11_seatOf rfl slX11_seatOf rfl (Nat.le_of_ble_eq_true rfl) (Nat.le_of_ble_eq_true rfl) (kz198 Ln) h (fun z => rfl) (fun r5 φ5 α5 h => ?_)
      refine r_iload_n (pc' := 28) (kX11_leak_0 17 rfl) rfl rfl ?_
      refine r_if_ne (t := 35) (pc' := 31) (kX11_leak_0 18 rfl) rfl rfl (fun c6 => ?_) (fun c6 => ?_)
      · have h := h.1 c6
        refine r_iconst 1 (pc' := 36) (kX11_leak_0 21 rfl) rfl (by unfold inR; omega) ?_
        have g7 := h.1
        have h := h.2
        refine r_iadd (pc' := 37) (kX11_leak_0 22 rfl) rfl g7 ?_
        refine s_callV (As := [(0, (r5 + 1))]) (o := 198) (S := []) (S2 := fun z => [(0, z)]) (pc' := 40) (kX11_leak_0 23 rfl) rfl rfl nkX11_sitterOf mlX11_436 imX11_sitterOf rfl slX11_sitterOf rfl (Nat.le_of_ble_eq_true rfl) (Nat.le_of_ble_eq_true rfl) (kz198 Ln) h (fun z => rfl) (fun r8 φ8 α8 h => ?_)
        refine r_istore (L' := [(2, 198), (0, x1), (0, x2), (0, x3), (0, r8)]) (pc' := 42) (kX11_leak_0 24 rfl) rfl (Nat.le_of_ble_eq_true rfl) rfl ?_
        refine r_iload (pc' := 44) (kX11_leak_0 25 rfl) rfl rfl ?_
        refine r_iconst (-1) (pc' := 45) (kX11_leak_0 26 rfl) rfl (by unfold inR; omega) ?_
        refine r_icmp_ne (t := 52) (pc' := 48) (kX11_leak_0 27 rfl) rfl rfl (fun c9 => ?_) (fun c9 => ?_)
        · have h := h.1 c9
          refine r_aload_n (pc' := 53) (kX11_leak_0 30 rfl) rfl rfl ?_
          refine r_iload_n (pc' := 54) (kX11_leak_0 31 rfl) rfl rfl ?_
          refine r_iload (pc' := 56) (kX11_leak_0 32 rfl) rfl rfl ?_
          refine r_iload_n (pc' := 57) (kX11_leak_0 33 rfl) rfl rfl ?_
          refine s_callV (As := [(0, x1), (0, r8), (0, x3)]) (o := 198) (S := []) (S2 := fun z => [(0, z)]) (pc' := 60) (kX11_leak_0 34 rfl) rfl rfl nkX11_leaksFrom mlX11_439 imX11_leaksFrom rfl slX11_leaksFrom rfl (Nat.le_of_ble_eq_true rfl) (Nat.le_of_ble_eq_true rfl) (kz198 Ln) h (fun z => rfl) (fun r10 φ10 α10 h => ?_)
          exact s_iret (kX11_leak_0 35 rfl) rfl h
        · have h := h.2 c9
          refine r_iconst (-1) (pc' := 49) (kX11_leak_0 28 rfl) rfl (by unfold inR; omega) ?_
          refine r_goto (pc' := 60) (kX11_leak_0 29 rfl) rfl ?_
          exact s_iret (kX11_leak_0 35 rfl) rfl h
      · have h := h.2 c6
        refine r_iconst (-1) (pc' := 32) (kX11_leak_0 19 rfl) rfl (by unfold inR; omega) ?_
        refine r_goto (pc' := 36) (kX11_leak_0 20 rfl) rfl ?_
        have g11 := h.1
        have h := h.2
        refine r_iadd (pc' := 37) (kX11_leak_0 22 rfl) rfl g11 ?_
        refine s_callV (As := [(0, (r5 + (-1)))]) (o := 198) (S := []) (S2 := fun z => [(0, z)]) (pc' := 40) (kX11_leak_0 23 rfl) rfl rfl nkX11_sitterOf mlX11_436 imX11_sitterOf rfl slX11_sitterOf rfl (Nat.le_of_ble_eq_true rfl) (Nat.le_of_ble_eq_true rfl) (kz198 Ln) h (fun z => rfl) (fun r12 φ12 α12 h => ?_)
        refine r_istore (L' := [(2, 198), (0, x1), (0, x2), (0, x3), (0, r12)]) (pc' := 42) (kX11_leak_0 24 rfl) rfl (Nat.le_of_ble_eq_true rfl) rfl ?_
        refine r_iload (pc' := 44) (kX11_leak_0 25 rfl) rfl rfl ?_
        refine r_iconst (-1) (pc' := 45) (kX11_leak_0 26 rfl) rfl (by unfold inR; omega) ?_
        refine r_icmp_ne (t := 52) (pc' := 48) (kX11_leak_0 27 rfl) rfl rfl (fun c13 => ?_) (fun c13 => ?_)
        · have h := h.1 c13
          refine r_aload_n (pc' := 53) (kX11_leak_0 30 rfl) rfl rfl ?_
          refine r_iload_n (pc' := 54) (kX11_leak_0 31 rfl) rfl rfl ?_
          refine r_iload (pc' := 56) (kX11_leak_0 32 rfl) rfl rfl ?_
          refine r_iload_n (pc' := 57) (kX11_leak_0 33 rfl) rfl rfl ?_
          refine s_callV (As := [(0, x1), (0, r12), (0, x3)]) (o := 198) (S := []) (S2 := fun z => [(0, z)]) (pc' := 60) (kX11_leak_0 34 rfl) rfl rfl nkX11_leaksFrom mlX11_439 imX11_leaksFrom rfl slX11_leaksFrom rfl (Nat.le_of_ble_eq_true rfl) (Nat.le_of_ble_eq_true rfl) (kz198 Ln) h (fun z => rfl) (fun r14 φ14 α14 h => ?_)
          exact s_iret (kX11_leak_0 35 rfl) rfl h
        · have h := h.2 c13
          refine r_iconst (-1) (pc' := 49) (kX11_leak_0 28 rfl) rfl (by unfold inR; omega) ?_
          refine r_goto (pc' := 60) (kX11_leak_0 29 rfl) rfl ?_
          exact s_iret (kX11_leak_0 35 rfl) rfl h
    · have h := h.2 c4
      refine r_iconst (-1) (pc' := 20) (kX11_leak_0 11 rfl) rfl (by unfold inR; omega) ?_
      exact s_iret (kX11_leak_0 12 rfl) rfl h
theorem vX11_kept_0 {d : Nat} {φ : aF} {α : aA} {Q : Int → aF → aA → Prop} {x1 : Int} {x2 : Int} (h : inR ((α 233 48) - 1) ∧ (eX11_isIn d x1 0 ((α 233 48) - 1) φ α (fun r2 φ2 α2 =>
   ((r2 = 0 →
   (Q (-1) φ2 α2)) ∧
   (¬ (r2 = 0) →
   (eX11_isIn d x2 0 2 φ2 α2 (fun r4 φ4 α4 =>
     ((r4 = 0 →
     (Q (-1) φ4 α4)) ∧
     (¬ (r4 = 0) →
     inR (3 * x1) ∧ inR (49 + (3 * x1)) ∧ inR ((49 + (3 * x1)) + x2) ∧ (0 ≤ ((49 + (3 * x1)) + x2) ∧ ((49 + (3 * x1)) + x2) < (169 : Nat)) ∧ (Q (α4 233 ((49 + (3 * x1)) + x2)) φ4 α4)))))))))) : eX11_kept (d + 1) x1 x2 φ α Q := by
  intro Ln
  refine r_iload_n (pc' := 1) (kX11_kept_0 0 rfl) rfl rfl ?_
  refine r_i2l (pc' := 2) (kX11_kept_0 1 rfl) rfl ?_
  refine r_lconst 0 (pc' := 3) (kX11_kept_0 2 rfl) rfl ⟨by unfold inJ; omega, rfl⟩ ?_
  refine r_aload_n (pc' := 4) (kX11_kept_0 3 rfl) rfl rfl ?_
  refine s_getr (v := 233) (pc' := 7) (kX11_kept_0 4 rfl) rfl fkX11_118 rfl rfl (kz198 Ln) rfl (by decide) ?_
  refine r_bipush 48 (pc' := 9) (kX11_kept_0 5 rfl) rfl ⟨by unfold inR; omega, rfl⟩ ?_
  refine s_iald (x := (α 233 48)) (pc' := 10) (kX11_kept_0 6 rfl) rfl (kz233 Ln) ⟨by decide, by decide⟩ rfl ?_
  refine r_iconst 1 (pc' := 11) (kX11_kept_0 7 rfl) rfl (by unfold inR; omega) ?_
  have g1 := h.1
  have h := h.2
  refine r_isub (pc' := 12) (kX11_kept_0 8 rfl) rfl g1 ?_
  refine r_i2l (pc' := 13) (kX11_kept_0 9 rfl) rfl ?_
  refine s_callS (As := [(1, x1), (1, 0), (1, ((α 233 48) - 1))]) (S := []) (S2 := fun z => [(0, z)]) (pc' := 16) (kX11_kept_0 10 rfl) rfl rfl nkX11_isIn mlX11_270 scX11_isIn rfl (Nat.le_of_ble_eq_true rfl) (Nat.le_of_ble_eq_true rfl) h (fun z => rfl) (fun r2 φ2 α2 h => ?_)
  refine r_if_eq (t := 47) (pc' := 19) (kX11_kept_0 11 rfl) rfl rfl (fun c3 => ?_) (fun c3 => ?_)
  · have h := h.1 c3
    refine r_iconst (-1) (pc' := 48) (kX11_kept_0 29 rfl) rfl (by unfold inR; omega) ?_
    exact s_iret (kX11_kept_0 30 rfl) rfl h
  · have h := h.2 c3
    refine r_iload_n (pc' := 20) (kX11_kept_0 12 rfl) rfl rfl ?_
    refine r_i2l (pc' := 21) (kX11_kept_0 13 rfl) rfl ?_
    refine r_lconst 0 (pc' := 22) (kX11_kept_0 14 rfl) rfl ⟨by unfold inJ; omega, rfl⟩ ?_
    refine r_ldc2 2 (pc' := 25) (kX11_kept_0 15 rfl) rfl kcX11_482 (by unfold inJ; omega) ?_
    refine s_callS (As := [(1, x2), (1, 0), (1, 2)]) (S := []) (S2 := fun z => [(0, z)]) (pc' := 28) (kX11_kept_0 16 rfl) rfl rfl nkX11_isIn mlX11_270 scX11_isIn rfl (Nat.le_of_ble_eq_true rfl) (Nat.le_of_ble_eq_true rfl) h (fun z => rfl) (fun r4 φ4 α4 h => ?_)
    refine r_if_eq (t := 47) (pc' := 31) (kX11_kept_0 17 rfl) rfl rfl (fun c5 => ?_) (fun c5 => ?_)
    · have h := h.1 c5
      refine r_iconst (-1) (pc' := 48) (kX11_kept_0 29 rfl) rfl (by unfold inR; omega) ?_
      exact s_iret (kX11_kept_0 30 rfl) rfl h
    · have h := h.2 c5
      refine r_aload_n (pc' := 32) (kX11_kept_0 18 rfl) rfl rfl ?_
      refine s_getr (v := 233) (pc' := 35) (kX11_kept_0 19 rfl) rfl fkX11_118 rfl rfl (kz198 Ln) rfl (by decide) ?_
      refine r_bipush 49 (pc' := 37) (kX11_kept_0 20 rfl) rfl ⟨by unfold inR; omega, rfl⟩ ?_
      refine r_iconst 3 (pc' := 38) (kX11_kept_0 21 rfl) rfl (by unfold inR; omega) ?_
      refine r_iload_n (pc' := 39) (kX11_kept_0 22 rfl) rfl rfl ?_
      have g6 := h.1
      have h := h.2
      refine r_imul (pc' := 40) (kX11_kept_0 23 rfl) rfl g6 ?_
      have g7 := h.1
      have h := h.2
      refine r_iadd (pc' := 41) (kX11_kept_0 24 rfl) rfl g7 ?_
      refine r_iload_n (pc' := 42) (kX11_kept_0 25 rfl) rfl rfl ?_
      have g8 := h.1
      have h := h.2
      refine r_iadd (pc' := 43) (kX11_kept_0 26 rfl) rfl g8 ?_
      have g9 := h.1
      have h := h.2
      refine s_iald (x := (α4 233 ((49 + (3 * x1)) + x2))) (pc' := 44) (kX11_kept_0 27 rfl) rfl (kz233 Ln) g9 rfl ?_
      refine r_goto (pc' := 48) (kX11_kept_0 28 rfl) rfl ?_
      exact s_iret (kX11_kept_0 30 rfl) rfl h
theorem vX11_later_0 {d : Nat} {φ : aF} {α : aA} {Q : Int → aF → aA → Prop} {x1 : Int} {x2 : Int} {x3 : Int} (h : (eX11_areBoth d x1 x2 φ α (fun r1 φ1 α1 =>
   ((r1 = 0 →
   (Q (-1) φ1 α1)) ∧
   (¬ (r1 = 0) →
   (eX11_isAhead d x3 0 60 φ1 α1 (fun r3 φ3 α3 =>
     ((¬ r3 = 0 →
     (eX11_putsAside d  φ3 α3 (fun r5 φ5 α5 =>
       (eX11_daysGo d x3 φ5 α5 (fun r6 φ6 α6 =>
       (eX11_dropsOf d x1 x2 φ6 α6 (fun r7 φ7 α7 =>
       (eX11_takesBack d  φ7 α7 (fun r8 φ8 α8 =>
       (Q r7 φ8 α8)))))))))) ∧
     (r3 = 0 →
     (Q (-1) φ3 α3)))))))))) : eX11_later (d + 1) x1 x2 x3 φ α Q := by
  intro Ln
  refine r_aload_n (pc' := 1) (kX11_later_0 0 rfl) rfl rfl ?_
  refine r_iload_n (pc' := 2) (kX11_later_0 1 rfl) rfl rfl ?_
  refine r_iload_n (pc' := 3) (kX11_later_0 2 rfl) rfl rfl ?_
  refine s_callV (As := [(0, x1), (0, x2)]) (o := 198) (S := []) (S2 := fun z => [(0, z)]) (pc' := 6) (kX11_later_0 3 rfl) rfl rfl nkX11_areBoth mlX11_470 imX11_areBoth rfl slX11_areBoth rfl (Nat.le_of_ble_eq_true rfl) (Nat.le_of_ble_eq_true rfl) (kz198 Ln) h (fun z => rfl) (fun r1 φ1 α1 h => ?_)
  refine r_if_eq (t := 20) (pc' := 9) (kX11_later_0 4 rfl) rfl rfl (fun c2 => ?_) (fun c2 => ?_)
  · have h := h.1 c2
    refine r_iconst (-1) (pc' := 21) (kX11_later_0 11 rfl) rfl (by unfold inR; omega) ?_
    exact s_iret (kX11_later_0 12 rfl) rfl h
  · have h := h.2 c2
    refine r_aload_n (pc' := 10) (kX11_later_0 5 rfl) rfl rfl ?_
    refine r_iload_n (pc' := 11) (kX11_later_0 6 rfl) rfl rfl ?_
    refine r_iconst 0 (pc' := 12) (kX11_later_0 7 rfl) rfl (by unfold inR; omega) ?_
    refine r_bipush 60 (pc' := 14) (kX11_later_0 8 rfl) rfl ⟨by unfold inR; omega, rfl⟩ ?_
    refine s_callV (As := [(0, x3), (0, 0), (0, 60)]) (o := 198) (S := []) (S2 := fun z => [(0, z)]) (pc' := 17) (kX11_later_0 9 rfl) rfl rfl nkX11_isAhead mlX11_484 imX11_isAhead rfl slX11_isAhead rfl (Nat.le_of_ble_eq_true rfl) (Nat.le_of_ble_eq_true rfl) (kz198 Ln) h (fun z => rfl) (fun r3 φ3 α3 h => ?_)
    refine r_if_ne (t := 22) (pc' := 20) (kX11_later_0 10 rfl) rfl rfl (fun c4 => ?_) (fun c4 => ?_)
    · have h := h.1 c4
      refine r_aload_n (pc' := 23) (kX11_later_0 13 rfl) rfl rfl ?_
      refine s_callV (As := []) (o := 198) (S := []) (S2 := fun z => []) (pc' := 26) (kX11_later_0 14 rfl) rfl rfl nkX11_putsAside mlX11_487 imX11_putsAside rfl slX11_putsAside rfl (Nat.le_of_ble_eq_true rfl) (Nat.le_of_ble_eq_true rfl) (kz198 Ln) h (fun z => rfl) (fun r5 φ5 α5 h => ?_)
      refine r_aload_n (pc' := 27) (kX11_later_0 15 rfl) rfl rfl ?_
      refine r_iload_n (pc' := 28) (kX11_later_0 16 rfl) rfl rfl ?_
      refine s_callV (As := [(0, x3)]) (o := 198) (S := []) (S2 := fun z => []) (pc' := 31) (kX11_later_0 17 rfl) rfl rfl nkX11_daysGo mlX11_490 imX11_daysGo rfl slX11_daysGo rfl (Nat.le_of_ble_eq_true rfl) (Nat.le_of_ble_eq_true rfl) (kz198 Ln) h (fun z => rfl) (fun r6 φ6 α6 h => ?_)
      refine r_aload_n (pc' := 32) (kX11_later_0 18 rfl) rfl rfl ?_
      refine r_iload_n (pc' := 33) (kX11_later_0 19 rfl) rfl rfl ?_
      refine r_iload_n (pc' := 34) (kX11_later_0 20 rfl) rfl rfl ?_
      refine s_callV (As := [(0, x1), (0, x2)]) (o := 198) (S := []) (S2 := fun z => [(0, z)]) (pc' := 37) (kX11_later_0 21 rfl) rfl rfl nkX11_dropsOf mlX11_386 imX11_dropsOf rfl slX11_dropsOf rfl (Nat.le_of_ble_eq_true rfl) (Nat.le_of_ble_eq_true rfl) (kz198 Ln) h (fun z => rfl) (fun r7 φ7 α7 h => ?_)
      refine r_istore (L' := [(2, 198), (0, x1), (0, x2), (0, x3), (0, r7)]) (pc' := 39) (kX11_later_0 22 rfl) rfl (Nat.le_of_ble_eq_true rfl) rfl ?_
      refine r_aload_n (pc' := 40) (kX11_later_0 23 rfl) rfl rfl ?_
      refine s_callV (As := []) (o := 198) (S := []) (S2 := fun z => []) (pc' := 43) (kX11_later_0 24 rfl) rfl rfl nkX11_takesBack mlX11_493 imX11_takesBack rfl slX11_takesBack rfl (Nat.le_of_ble_eq_true rfl) (Nat.le_of_ble_eq_true rfl) (kz198 Ln) h (fun z => rfl) (fun r8 φ8 α8 h => ?_)
      refine r_iload (pc' := 45) (kX11_later_0 25 rfl) rfl rfl ?_
      exact s_iret (kX11_later_0 26 rfl) rfl h
    · have h := h.2 c4
      refine r_iconst (-1) (pc' := 21) (kX11_later_0 11 rfl) rfl (by unfold inR; omega) ?_
      exact s_iret (kX11_later_0 12 rfl) rfl h
theorem vX11_knows_0 {d : Nat} {φ : aF} {α : aA} {Q : Int → aF → aA → Prop} {x1 : Int} {x2 : Int} (h : (eX11_isMatter d x1 φ α (fun r1 φ1 α1 =>
   ((r1 = 0 →
   (Q (-1) φ1 α1)) ∧
   (¬ (r1 = 0) →
   (eX11_isAhead d x2 0 60 φ1 α1 (fun r3 φ3 α3 =>
     ((¬ r3 = 0 →
     (eX11_putsAside d  φ3 α3 (fun r5 φ5 α5 =>
       (eX11_daysGo d x2 φ5 α5 (fun r6 φ6 α6 =>
       (eX11_knowersOf d x1 φ6 α6 (fun r7 φ7 α7 =>
       (eX11_takesBack d  φ7 α7 (fun r8 φ8 α8 =>
       (Q r7 φ8 α8)))))))))) ∧
     (r3 = 0 →
     (Q (-1) φ3 α3)))))))))) : eX11_knows (d + 1) x1 x2 φ α Q := by
  intro Ln
  refine r_aload_n (pc' := 1) (kX11_knows_0 0 rfl) rfl rfl ?_
  refine r_iload_n (pc' := 2) (kX11_knows_0 1 rfl) rfl rfl ?_
  refine r_i2l (pc' := 3) (kX11_knows_0 2 rfl) rfl ?_
  refine s_callV (As := [(1, x1)]) (o := 198) (S := []) (S2 := fun z => [(0, z)]) (pc' := 6) (kX11_knows_0 3 rfl) rfl rfl nkX11_isMatter mlX11_383 imX11_isMatter rfl slX11_isMatter rfl (Nat.le_of_ble_eq_true rfl) (Nat.le_of_ble_eq_true rfl) (kz198 Ln) h (fun z => rfl) (fun r1 φ1 α1 h => ?_)
  refine r_if_eq (t := 20) (pc' := 9) (kX11_knows_0 4 rfl) rfl rfl (fun c2 => ?_) (fun c2 => ?_)
  · have h := h.1 c2
    refine r_iconst (-1) (pc' := 21) (kX11_knows_0 11 rfl) rfl (by unfold inR; omega) ?_
    exact s_iret (kX11_knows_0 12 rfl) rfl h
  · have h := h.2 c2
    refine r_aload_n (pc' := 10) (kX11_knows_0 5 rfl) rfl rfl ?_
    refine r_iload_n (pc' := 11) (kX11_knows_0 6 rfl) rfl rfl ?_
    refine r_iconst 0 (pc' := 12) (kX11_knows_0 7 rfl) rfl (by unfold inR; omega) ?_
    refine r_bipush 60 (pc' := 14) (kX11_knows_0 8 rfl) rfl ⟨by unfold inR; omega, rfl⟩ ?_
    refine s_callV (As := [(0, x2), (0, 0), (0, 60)]) (o := 198) (S := []) (S2 := fun z => [(0, z)]) (pc' := 17) (kX11_knows_0 9 rfl) rfl rfl nkX11_isAhead mlX11_484 imX11_isAhead rfl slX11_isAhead rfl (Nat.le_of_ble_eq_true rfl) (Nat.le_of_ble_eq_true rfl) (kz198 Ln) h (fun z => rfl) (fun r3 φ3 α3 h => ?_)
    refine r_if_ne (t := 22) (pc' := 20) (kX11_knows_0 10 rfl) rfl rfl (fun c4 => ?_) (fun c4 => ?_)
    · have h := h.1 c4
      refine r_aload_n (pc' := 23) (kX11_knows_0 13 rfl) rfl rfl ?_
      refine s_callV (As := []) (o := 198) (S := []) (S2 := fun z => []) (pc' := 26) (kX11_knows_0 14 rfl) rfl rfl nkX11_putsAside mlX11_487 imX11_putsAside rfl slX11_putsAside rfl (Nat.le_of_ble_eq_true rfl) (Nat.le_of_ble_eq_true rfl) (kz198 Ln) h (fun z => rfl) (fun r5 φ5 α5 h => ?_)
      refine r_aload_n (pc' := 27) (kX11_knows_0 15 rfl) rfl rfl ?_
      refine r_iload_n (pc' := 28) (kX11_knows_0 16 rfl) rfl rfl ?_
      refine s_callV (As := [(0, x2)]) (o := 198) (S := []) (S2 := fun z => []) (pc' := 31) (kX11_knows_0 17 rfl) rfl rfl nkX11_daysGo mlX11_490 imX11_daysGo rfl slX11_daysGo rfl (Nat.le_of_ble_eq_true rfl) (Nat.le_of_ble_eq_true rfl) (kz198 Ln) h (fun z => rfl) (fun r6 φ6 α6 h => ?_)
      refine r_aload_n (pc' := 32) (kX11_knows_0 18 rfl) rfl rfl ?_
      refine r_iload_n (pc' := 33) (kX11_knows_0 19 rfl) rfl rfl ?_
      refine s_callV (As := [(0, x1)]) (o := 198) (S := []) (S2 := fun z => [(0, z)]) (pc' := 36) (kX11_knows_0 20 rfl) rfl rfl nkX11_knowersOf mlX11_479 imX11_knowersOf rfl slX11_knowersOf rfl (Nat.le_of_ble_eq_true rfl) (Nat.le_of_ble_eq_true rfl) (kz198 Ln) h (fun z => rfl) (fun r7 φ7 α7 h => ?_)
      refine r_istore_n (L' := [(2, 198), (0, x1), (0, x2), (0, r7)]) (pc' := 37) (kX11_knows_0 21 rfl) rfl (Nat.le_of_ble_eq_true rfl) rfl ?_
      refine r_aload_n (pc' := 38) (kX11_knows_0 22 rfl) rfl rfl ?_
      refine s_callV (As := []) (o := 198) (S := []) (S2 := fun z => []) (pc' := 41) (kX11_knows_0 23 rfl) rfl rfl nkX11_takesBack mlX11_493 imX11_takesBack rfl slX11_takesBack rfl (Nat.le_of_ble_eq_true rfl) (Nat.le_of_ble_eq_true rfl) (kz198 Ln) h (fun z => rfl) (fun r8 φ8 α8 h => ?_)
      refine r_iload_n (pc' := 42) (kX11_knows_0 24 rfl) rfl rfl ?_
      exact s_iret (kX11_knows_0 25 rfl) rfl h
    · have h := h.2 c4
      refine r_iconst (-1) (pc' := 21) (kX11_knows_0 11 rfl) rfl (by unfold inR; omega) ?_
      exact s_iret (kX11_knows_0 12 rfl) rfl h
abbrev jX11_hears_17 (d : Nat) (x1 x2 x3 : Int) (φ : aF) (α : aA) (Q : Int → aF → aA → Prop) : Prop := R0 d mX11_hears 17 [(2, 198), (0, x1), (0, x2), (0, x3), (9, 0)] [] φ α Q
theorem vX11_hears_0 {d : Nat} {φ : aF} {α : aA} {Q : Int → aF → aA → Prop} {x1 : Int} {x2 : Int} (h : (eX11_areBoth d x1 x2 φ α (fun r1 φ1 α1 =>
   ((¬ r1 = 0 →
   (eX11_putsAside d  φ1 α1 (fun r3 φ3 α3 =>
     (jX11_hears_17 (d + 1) x1 x2 0 φ3 α3 Q)))) ∧
   (r1 = 0 →
   (Q (-1) φ1 α1)))))) : eX11_hears (d + 1) x1 x2 φ α Q := by
  intro Ln
  refine r_aload_n (pc' := 1) (kX11_hears_0 0 rfl) rfl rfl ?_
  refine r_iload_n (pc' := 2) (kX11_hears_0 1 rfl) rfl rfl ?_
  refine r_iload_n (pc' := 3) (kX11_hears_0 2 rfl) rfl rfl ?_
  refine s_callV (As := [(0, x1), (0, x2)]) (o := 198) (S := []) (S2 := fun z => [(0, z)]) (pc' := 6) (kX11_hears_0 3 rfl) rfl rfl nkX11_areBoth mlX11_470 imX11_areBoth rfl slX11_areBoth rfl (Nat.le_of_ble_eq_true rfl) (Nat.le_of_ble_eq_true rfl) (kz198 Ln) h (fun z => rfl) (fun r1 φ1 α1 h => ?_)
  refine r_if_ne (t := 11) (pc' := 9) (kX11_hears_0 4 rfl) rfl rfl (fun c2 => ?_) (fun c2 => ?_)
  · have h := h.1 c2
    refine r_iconst 0 (pc' := 12) (kX11_hears_0 7 rfl) rfl (by unfold inR; omega) ?_
    refine r_istore_n (L' := [(2, 198), (0, x1), (0, x2), (0, 0), (9, 0)]) (pc' := 13) (kX11_hears_0 8 rfl) rfl (Nat.le_of_ble_eq_true rfl) rfl ?_
    refine r_aload_n (pc' := 14) (kX11_hears_0 9 rfl) rfl rfl ?_
    refine s_callV (As := []) (o := 198) (S := []) (S2 := fun z => []) (pc' := 17) (kX11_hears_0 10 rfl) rfl rfl nkX11_putsAside mlX11_487 imX11_putsAside rfl slX11_putsAside rfl (Nat.le_of_ble_eq_true rfl) (Nat.le_of_ble_eq_true rfl) (kz198 Ln) h (fun z => rfl) (fun r3 φ3 α3 h => ?_)
    exact r_weak (L' := [(2, 198), (0, x1), (0, x2), (0, 0), (9, 0)]) ⟨Or.inl rfl, Or.inl rfl, Or.inl rfl, Or.inl rfl, Or.inr (by decide), trivial⟩ (h Ln)
  · have h := h.2 c2
    refine r_iconst (-1) (pc' := 10) (kX11_hears_0 5 rfl) rfl (by unfold inR; omega) ?_
    exact s_iret (kX11_hears_0 6 rfl) rfl h
theorem vX11_hears_17 {d : Nat} {φ : aF} {α : aA} {Q : Int → aF → aA → Prop} {x1 : Int} {x2 : Int} {x3 : Int} (h : (eX11_dropsOf d x1 x2 φ α (fun r1 φ1 α1 =>
   ((¬ r1 = 0 →
   (eX11_dropsOf d x1 x2 φ1 α1 (fun r3 φ3 α3 =>
     ((r3 ≤ 0 →
     (eX11_takesBack d  φ3 α3 (fun r5 φ5 α5 =>
       (Q (-1) φ5 α5)))) ∧
     (¬ (r3 ≤ 0) →
     (eX11_takesBack d  φ3 α3 (fun r6 φ6 α6 =>
       (Q x3 φ6 α6)))))))) ∧
   (r1 = 0 →
   ((60 ≤ x3 →
     (eX11_dropsOf d x1 x2 φ1 α1 (fun r8 φ8 α8 =>
       ((r8 ≤ 0 →
       (eX11_takesBack d  φ8 α8 (fun r10 φ10 α10 =>
         (Q (-1) φ10 α10)))) ∧
       (¬ (r8 ≤ 0) →
       (eX11_takesBack d  φ8 α8 (fun r11 φ11 α11 =>
         (Q x3 φ11 α11)))))))) ∧
     (¬ (60 ≤ x3) →
     ((999 ≤ (α1 233 0) →
       (eX11_dropsOf d x1 x2 φ1 α1 (fun r13 φ13 α13 =>
         ((r13 ≤ 0 →
         (eX11_takesBack d  φ13 α13 (fun r15 φ15 α15 =>
           (Q (-1) φ15 α15)))) ∧
         (¬ (r13 ≤ 0) →
         (eX11_takesBack d  φ13 α13 (fun r16 φ16 α16 =>
           (Q x3 φ16 α16)))))))) ∧
       (¬ (999 ≤ (α1 233 0)) →
       (eX11_dayGoes d 0 φ1 α1 (fun r17 φ17 α17 =>
         inR (x3 + 1) ∧ (jX11_hears_17 (d + 1) x1 x2 (x3 + 1) φ17 α17 Q)))))))))))) : jX11_hears_17 (d + 1) x1 x2 x3 φ α Q := by
  intro Ln
  refine r_aload_n (pc' := 18) (kX11_hears_0 11 rfl) rfl rfl ?_
  refine r_iload_n (pc' := 19) (kX11_hears_0 12 rfl) rfl rfl ?_
  refine r_iload_n (pc' := 20) (kX11_hears_0 13 rfl) rfl rfl ?_
  refine s_callV (As := [(0, x1), (0, x2)]) (o := 198) (S := []) (S2 := fun z => [(0, z)]) (pc' := 23) (kX11_hears_0 14 rfl) rfl rfl nkX11_dropsOf mlX11_386 imX11_dropsOf rfl slX11_dropsOf rfl (Nat.le_of_ble_eq_true rfl) (Nat.le_of_ble_eq_true rfl) (kz198 Ln) h (fun z => rfl) (fun r1 φ1 α1 h => ?_)
  refine r_if_ne (t := 55) (pc' := 26) (kX11_hears_0 15 rfl) rfl rfl (fun c2 => ?_) (fun c2 => ?_)
  · have h := h.1 c2
    refine r_aload_n (pc' := 56) (kX11_hears_0 30 rfl) rfl rfl ?_
    refine r_iload_n (pc' := 57) (kX11_hears_0 31 rfl) rfl rfl ?_
    refine r_iload_n (pc' := 58) (kX11_hears_0 32 rfl) rfl rfl ?_
    refine s_callV (As := [(0, x1), (0, x2)]) (o := 198) (S := []) (S2 := fun z => [(0, z)]) (pc' := 61) (kX11_hears_0 33 rfl) rfl rfl nkX11_dropsOf mlX11_386 imX11_dropsOf rfl slX11_dropsOf rfl (Nat.le_of_ble_eq_true rfl) (Nat.le_of_ble_eq_true rfl) (kz198 Ln) h (fun z => rfl) (fun r3 φ3 α3 h => ?_)
    refine r_if_le (t := 68) (pc' := 64) (kX11_hears_0 34 rfl) rfl rfl (fun c4 => ?_) (fun c4 => ?_)
    · have h := h.1 c4
      refine r_iconst 0 (pc' := 69) (kX11_hears_0 37 rfl) rfl (by unfold inR; omega) ?_
      refine r_istore (L' := [(2, 198), (0, x1), (0, x2), (0, x3), (0, 0)]) (pc' := 71) (kX11_hears_0 38 rfl) rfl (Nat.le_of_ble_eq_true rfl) rfl ?_
      refine r_aload_n (pc' := 72) (kX11_hears_0 39 rfl) rfl rfl ?_
      refine s_callV (As := []) (o := 198) (S := []) (S2 := fun z => []) (pc' := 75) (kX11_hears_0 40 rfl) rfl rfl nkX11_takesBack mlX11_493 imX11_takesBack rfl slX11_takesBack rfl (Nat.le_of_ble_eq_true rfl) (Nat.le_of_ble_eq_true rfl) (kz198 Ln) h (fun z => rfl) (fun r5 φ5 α5 h => ?_)
      refine r_iload (pc' := 77) (kX11_hears_0 41 rfl) rfl rfl ?_
      refine r_if_eq (t := 84) (pc' := 80) (kX11_hears_0 42 rfl) rfl rfl (fun _ => ?_) (fun cz => absurd cz (by decide))
      refine r_iconst (-1) (pc' := 85) (kX11_hears_0 45 rfl) rfl (by unfold inR; omega) ?_
      exact s_iret (kX11_hears_0 46 rfl) rfl h
    · have h := h.2 c4
      refine r_iconst 1 (pc' := 65) (kX11_hears_0 35 rfl) rfl (by unfold inR; omega) ?_
      refine r_goto (pc' := 69) (kX11_hears_0 36 rfl) rfl ?_
      refine r_istore (L' := [(2, 198), (0, x1), (0, x2), (0, x3), (0, 1)]) (pc' := 71) (kX11_hears_0 38 rfl) rfl (Nat.le_of_ble_eq_true rfl) rfl ?_
      refine r_aload_n (pc' := 72) (kX11_hears_0 39 rfl) rfl rfl ?_
      refine s_callV (As := []) (o := 198) (S := []) (S2 := fun z => []) (pc' := 75) (kX11_hears_0 40 rfl) rfl rfl nkX11_takesBack mlX11_493 imX11_takesBack rfl slX11_takesBack rfl (Nat.le_of_ble_eq_true rfl) (Nat.le_of_ble_eq_true rfl) (kz198 Ln) h (fun z => rfl) (fun r6 φ6 α6 h => ?_)
      refine r_iload (pc' := 77) (kX11_hears_0 41 rfl) rfl rfl ?_
      refine r_if_eq (t := 84) (pc' := 80) (kX11_hears_0 42 rfl) rfl rfl (fun cz => absurd cz (by decide)) (fun _ => ?_)
      refine r_iload_n (pc' := 81) (kX11_hears_0 43 rfl) rfl rfl ?_
      refine r_goto (pc' := 85) (kX11_hears_0 44 rfl) rfl ?_
      exact s_iret (kX11_hears_0 46 rfl) rfl h
  · have h := h.2 c2
    refine r_iload_n (pc' := 27) (kX11_hears_0 16 rfl) rfl rfl ?_
    refine r_bipush 60 (pc' := 29) (kX11_hears_0 17 rfl) rfl ⟨by unfold inR; omega, rfl⟩ ?_
    refine r_icmp_ge (t := 55) (pc' := 32) (kX11_hears_0 18 rfl) rfl rfl (fun c7 => ?_) (fun c7 => ?_)
    · have h := h.1 c7
      refine r_aload_n (pc' := 56) (kX11_hears_0 30 rfl) rfl rfl ?_
      refine r_iload_n (pc' := 57) (kX11_hears_0 31 rfl) rfl rfl ?_
      refine r_iload_n (pc' := 58) (kX11_hears_0 32 rfl) rfl rfl ?_
      refine s_callV (As := [(0, x1), (0, x2)]) (o := 198) (S := []) (S2 := fun z => [(0, z)]) (pc' := 61) (kX11_hears_0 33 rfl) rfl rfl nkX11_dropsOf mlX11_386 imX11_dropsOf rfl slX11_dropsOf rfl (Nat.le_of_ble_eq_true rfl) (Nat.le_of_ble_eq_true rfl) (kz198 Ln) h (fun z => rfl) (fun r8 φ8 α8 h => ?_)
      refine r_if_le (t := 68) (pc' := 64) (kX11_hears_0 34 rfl) rfl rfl (fun c9 => ?_) (fun c9 => ?_)
      · have h := h.1 c9
        refine r_iconst 0 (pc' := 69) (kX11_hears_0 37 rfl) rfl (by unfold inR; omega) ?_
        refine r_istore (L' := [(2, 198), (0, x1), (0, x2), (0, x3), (0, 0)]) (pc' := 71) (kX11_hears_0 38 rfl) rfl (Nat.le_of_ble_eq_true rfl) rfl ?_
        refine r_aload_n (pc' := 72) (kX11_hears_0 39 rfl) rfl rfl ?_
        refine s_callV (As := []) (o := 198) (S := []) (S2 := fun z => []) (pc' := 75) (kX11_hears_0 40 rfl) rfl rfl nkX11_takesBack mlX11_493 imX11_takesBack rfl slX11_takesBack rfl (Nat.le_of_ble_eq_true rfl) (Nat.le_of_ble_eq_true rfl) (kz198 Ln) h (fun z => rfl) (fun r10 φ10 α10 h => ?_)
        refine r_iload (pc' := 77) (kX11_hears_0 41 rfl) rfl rfl ?_
        refine r_if_eq (t := 84) (pc' := 80) (kX11_hears_0 42 rfl) rfl rfl (fun _ => ?_) (fun cz => absurd cz (by decide))
        refine r_iconst (-1) (pc' := 85) (kX11_hears_0 45 rfl) rfl (by unfold inR; omega) ?_
        exact s_iret (kX11_hears_0 46 rfl) rfl h
      · have h := h.2 c9
        refine r_iconst 1 (pc' := 65) (kX11_hears_0 35 rfl) rfl (by unfold inR; omega) ?_
        refine r_goto (pc' := 69) (kX11_hears_0 36 rfl) rfl ?_
        refine r_istore (L' := [(2, 198), (0, x1), (0, x2), (0, x3), (0, 1)]) (pc' := 71) (kX11_hears_0 38 rfl) rfl (Nat.le_of_ble_eq_true rfl) rfl ?_
        refine r_aload_n (pc' := 72) (kX11_hears_0 39 rfl) rfl rfl ?_
        refine s_callV (As := []) (o := 198) (S := []) (S2 := fun z => []) (pc' := 75) (kX11_hears_0 40 rfl) rfl rfl nkX11_takesBack mlX11_493 imX11_takesBack rfl slX11_takesBack rfl (Nat.le_of_ble_eq_true rfl) (Nat.le_of_ble_eq_true rfl) (kz198 Ln) h (fun z => rfl) (fun r11 φ11 α11 h => ?_)
        refine r_iload (pc' := 77) (kX11_hears_0 41 rfl) rfl rfl ?_
        refine r_if_eq (t := 84) (pc' := 80) (kX11_hears_0 42 rfl) rfl rfl (fun cz => absurd cz (by decide)) (fun _ => ?_)
        refine r_iload_n (pc' := 81) (kX11_hears_0 43 rfl) rfl rfl ?_
        refine r_goto (pc' := 85) (kX11_hears_0 44 rfl) rfl ?_
        exact s_iret (kX11_hears_0 46 rfl) rfl h
    · have h := h.2 c7
      refine r_aload_n (pc' := 33) (kX11_hears_0 19 rfl) rfl rfl ?_
      refine s_getr (v := 233) (pc' := 36) (kX11_hears_0 20 rfl) rfl fkX11_118 rfl rfl (kz198 Ln) rfl (by decide) ?_
      refine r_iconst 0 (pc' := 37) (kX11_hears_0 21 rfl) rfl (by unfold inR; omega) ?_
      refine s_iald (x := (α1 233 0)) (pc' := 38) (kX11_hears_0 22 rfl) rfl (kz233 Ln) ⟨by decide, by decide⟩ rfl ?_
      refine r_sipush 999 (pc' := 41) (kX11_hears_0 23 rfl) rfl ⟨by unfold inR; omega, rfl⟩ ?_
      refine r_icmp_ge (t := 55) (pc' := 44) (kX11_hears_0 24 rfl) rfl rfl (fun c12 => ?_) (fun c12 => ?_)
      · have h := h.1 c12
        refine r_aload_n (pc' := 56) (kX11_hears_0 30 rfl) rfl rfl ?_
        refine r_iload_n (pc' := 57) (kX11_hears_0 31 rfl) rfl rfl ?_
        refine r_iload_n (pc' := 58) (kX11_hears_0 32 rfl) rfl rfl ?_
        refine s_callV (As := [(0, x1), (0, x2)]) (o := 198) (S := []) (S2 := fun z => [(0, z)]) (pc' := 61) (kX11_hears_0 33 rfl) rfl rfl nkX11_dropsOf mlX11_386 imX11_dropsOf rfl slX11_dropsOf rfl (Nat.le_of_ble_eq_true rfl) (Nat.le_of_ble_eq_true rfl) (kz198 Ln) h (fun z => rfl) (fun r13 φ13 α13 h => ?_)
        refine r_if_le (t := 68) (pc' := 64) (kX11_hears_0 34 rfl) rfl rfl (fun c14 => ?_) (fun c14 => ?_)
        · have h := h.1 c14
          refine r_iconst 0 (pc' := 69) (kX11_hears_0 37 rfl) rfl (by unfold inR; omega) ?_
          refine r_istore (L' := [(2, 198), (0, x1), (0, x2), (0, x3), (0, 0)]) (pc' := 71) (kX11_hears_0 38 rfl) rfl (Nat.le_of_ble_eq_true rfl) rfl ?_
          refine r_aload_n (pc' := 72) (kX11_hears_0 39 rfl) rfl rfl ?_
          refine s_callV (As := []) (o := 198) (S := []) (S2 := fun z => []) (pc' := 75) (kX11_hears_0 40 rfl) rfl rfl nkX11_takesBack mlX11_493 imX11_takesBack rfl slX11_takesBack rfl (Nat.le_of_ble_eq_true rfl) (Nat.le_of_ble_eq_true rfl) (kz198 Ln) h (fun z => rfl) (fun r15 φ15 α15 h => ?_)
          refine r_iload (pc' := 77) (kX11_hears_0 41 rfl) rfl rfl ?_
          refine r_if_eq (t := 84) (pc' := 80) (kX11_hears_0 42 rfl) rfl rfl (fun _ => ?_) (fun cz => absurd cz (by decide))
          refine r_iconst (-1) (pc' := 85) (kX11_hears_0 45 rfl) rfl (by unfold inR; omega) ?_
          exact s_iret (kX11_hears_0 46 rfl) rfl h
        · have h := h.2 c14
          refine r_iconst 1 (pc' := 65) (kX11_hears_0 35 rfl) rfl (by unfold inR; omega) ?_
          refine r_goto (pc' := 69) (kX11_hears_0 36 rfl) rfl ?_
          refine r_istore (L' := [(2, 198), (0, x1), (0, x2), (0, x3), (0, 1)]) (pc' := 71) (kX11_hears_0 38 rfl) rfl (Nat.le_of_ble_eq_true rfl) rfl ?_
          refine r_aload_n (pc' := 72) (kX11_hears_0 39 rfl) rfl rfl ?_
          refine s_callV (As := []) (o := 198) (S := []) (S2 := fun z => []) (pc' := 75) (kX11_hears_0 40 rfl) rfl rfl nkX11_takesBack mlX11_493 imX11_takesBack rfl slX11_takesBack rfl (Nat.le_of_ble_eq_true rfl) (Nat.le_of_ble_eq_true rfl) (kz198 Ln) h (fun z => rfl) (fun r16 φ16 α16 h => ?_)
          refine r_iload (pc' := 77) (kX11_hears_0 41 rfl) rfl rfl ?_
          refine r_if_eq (t := 84) (pc' := 80) (kX11_hears_0 42 rfl) rfl rfl (fun cz => absurd cz (by decide)) (fun _ => ?_)
          refine r_iload_n (pc' := 81) (kX11_hears_0 43 rfl) rfl rfl ?_
          refine r_goto (pc' := 85) (kX11_hears_0 44 rfl) rfl ?_
          exact s_iret (kX11_hears_0 46 rfl) rfl h
      · have h := h.2 c12
        refine r_aload_n (pc' := 45) (kX11_hears_0 25 rfl) rfl rfl ?_
        refine r_iconst 0 (pc' := 46) (kX11_hears_0 26 rfl) rfl (by unfold inR; omega) ?_
        refine s_callV (As := [(0, 0)]) (o := 198) (S := []) (S2 := fun z => []) (pc' := 49) (kX11_hears_0 27 rfl) rfl rfl nkX11_dayGoes mlX11_450 imX11_dayGoes rfl slX11_dayGoes rfl (Nat.le_of_ble_eq_true rfl) (Nat.le_of_ble_eq_true rfl) (kz198 Ln) h (fun z => rfl) (fun r17 φ17 α17 h => ?_)
        have g18 := h.1
        have h := h.2
        refine r_iinc (L' := [(2, 198), (0, x1), (0, x2), (0, (x3 + 1)), (9, 0)]) (pc' := 52) (kX11_hears_0 28 rfl) rfl (Nat.le_of_ble_eq_true rfl) rfl g18 rfl ?_
        refine r_goto (pc' := 17) (kX11_hears_0 29 rfl) rfl ?_
        exact r_weak (L' := [(2, 198), (0, x1), (0, x2), (0, (x3 + 1)), (9, 0)]) ⟨Or.inl rfl, Or.inl rfl, Or.inl rfl, Or.inl rfl, Or.inr (by decide), trivial⟩ (h Ln)
theorem vX11_changes_0 {d : Nat} {φ : aF} {α : aA} {Q : Int → aF → aA → Prop} {x1 : Int} {x2 : Int} (h : (eX11_sitterOf d x1 φ α (fun r1 φ1 α1 =>
   (eX11_sitterOf d x2 φ1 α1 (fun r2 φ2 α2 =>
   ((r1 = (-1) →
   ((r2 = (-1) →
     (Q 0 φ2 α2)) ∧
     (¬ (r2 = (-1)) →
     inR (5 * r2) ∧ inR (1 + (5 * r2)) ∧ (0 ≤ (1 + (5 * r2)) ∧ (1 + (5 * r2)) < (169 : Nat)) ∧ (Q 0 φ2 (upa α2 233 (1 + (5 * r2)) x1))))) ∧
   (¬ (r1 = (-1)) →
   inR (5 * r1) ∧ inR (1 + (5 * r1)) ∧ (0 ≤ (1 + (5 * r1)) ∧ (1 + (5 * r1)) < (169 : Nat)) ∧ ((r2 = (-1) →
     (Q 0 φ2 (upa α2 233 (1 + (5 * r1)) x2))) ∧
     (¬ (r2 = (-1)) →
     inR (5 * r2) ∧ inR (1 + (5 * r2)) ∧ (0 ≤ (1 + (5 * r2)) ∧ (1 + (5 * r2)) < (169 : Nat)) ∧ (Q 0 φ2 (upa (upa α2 233 (1 + (5 * r1)) x2) 233 (1 + (5 * r2)) x1))))))))))) : eX11_changes (d + 1) x1 x2 φ α Q := by
  intro Ln
  refine r_aload_n (pc' := 1) (kX11_changes_0 0 rfl) rfl rfl ?_
  refine r_iload_n (pc' := 2) (kX11_changes_0 1 rfl) rfl rfl ?_
  refine s_callV (As := [(0, x1)]) (o := 198) (S := []) (S2 := fun z => [(0, z)]) (pc' := 5) (kX11_changes_0 2 rfl) rfl rfl nkX11_sitterOf mlX11_436 imX11_sitterOf rfl slX11_sitterOf rfl (Nat.le_of_ble_eq_true rfl) (Nat.le_of_ble_eq_true rfl) (kz198 Ln) h (fun z => rfl) (fun r1 φ1 α1 h => ?_)
  refine r_istore_n (L' := [(2, 198), (0, x1), (0, x2), (0, r1), (9, 0)]) (pc' := 6) (kX11_changes_0 3 rfl) rfl (Nat.le_of_ble_eq_true rfl) rfl ?_
  refine r_aload_n (pc' := 7) (kX11_changes_0 4 rfl) rfl rfl ?_
  refine r_iload_n (pc' := 8) (kX11_changes_0 5 rfl) rfl rfl ?_
  refine s_callV (As := [(0, x2)]) (o := 198) (S := []) (S2 := fun z => [(0, z)]) (pc' := 11) (kX11_changes_0 6 rfl) rfl rfl nkX11_sitterOf mlX11_436 imX11_sitterOf rfl slX11_sitterOf rfl (Nat.le_of_ble_eq_true rfl) (Nat.le_of_ble_eq_true rfl) (kz198 Ln) h (fun z => rfl) (fun r2 φ2 α2 h => ?_)
  refine r_istore (L' := [(2, 198), (0, x1), (0, x2), (0, r1), (0, r2)]) (pc' := 13) (kX11_changes_0 7 rfl) rfl (Nat.le_of_ble_eq_true rfl) rfl ?_
  refine r_iload_n (pc' := 14) (kX11_changes_0 8 rfl) rfl rfl ?_
  refine r_iconst (-1) (pc' := 15) (kX11_changes_0 9 rfl) rfl (by unfold inR; omega) ?_
  refine r_icmp_eq (t := 29) (pc' := 18) (kX11_changes_0 10 rfl) rfl rfl (fun c3 => ?_) (fun c3 => ?_)
  · have h := h.1 c3
    refine r_iload (pc' := 31) (kX11_changes_0 20 rfl) rfl rfl ?_
    refine r_iconst (-1) (pc' := 32) (kX11_changes_0 21 rfl) rfl (by unfold inR; omega) ?_
    refine r_icmp_eq (t := 47) (pc' := 35) (kX11_changes_0 22 rfl) rfl rfl (fun c4 => ?_) (fun c4 => ?_)
    · have h := h.1 c4
      exact s_vret (kX11_changes_0 32 rfl) rfl h
    · have h := h.2 c4
      refine r_aload_n (pc' := 36) (kX11_changes_0 23 rfl) rfl rfl ?_
      refine s_getr (v := 233) (pc' := 39) (kX11_changes_0 24 rfl) rfl fkX11_118 rfl rfl (kz198 Ln) rfl (by decide) ?_
      refine r_iconst 1 (pc' := 40) (kX11_changes_0 25 rfl) rfl (by unfold inR; omega) ?_
      refine r_iconst 5 (pc' := 41) (kX11_changes_0 26 rfl) rfl (by unfold inR; omega) ?_
      refine r_iload (pc' := 43) (kX11_changes_0 27 rfl) rfl rfl ?_
      have g5 := h.1
      have h := h.2
      refine r_imul (pc' := 44) (kX11_changes_0 28 rfl) rfl g5 ?_
      have g6 := h.1
      have h := h.2
      refine r_iadd (pc' := 45) (kX11_changes_0 29 rfl) rfl g6 ?_
      refine r_iload_n (pc' := 46) (kX11_changes_0 30 rfl) rfl rfl ?_
      have g7 := h.1
      have h := h.2
      refine s_iast (pc' := 47) (kX11_changes_0 31 rfl) rfl (kz233 Ln) g7 ?_
      exact s_vret (kX11_changes_0 32 rfl) rfl h
  · have h := h.2 c3
    refine r_aload_n (pc' := 19) (kX11_changes_0 11 rfl) rfl rfl ?_
    refine s_getr (v := 233) (pc' := 22) (kX11_changes_0 12 rfl) rfl fkX11_118 rfl rfl (kz198 Ln) rfl (by decide) ?_
    refine r_iconst 1 (pc' := 23) (kX11_changes_0 13 rfl) rfl (by unfold inR; omega) ?_
    refine r_iconst 5 (pc' := 24) (kX11_changes_0 14 rfl) rfl (by unfold inR; omega) ?_
    refine r_iload_n (pc' := 25) (kX11_changes_0 15 rfl) rfl rfl ?_
    have g8 := h.1
    have h := h.2
    refine r_imul (pc' := 26) (kX11_changes_0 16 rfl) rfl g8 ?_
    have g9 := h.1
    have h := h.2
    refine r_iadd (pc' := 27) (kX11_changes_0 17 rfl) rfl g9 ?_
    refine r_iload_n (pc' := 28) (kX11_changes_0 18 rfl) rfl rfl ?_
    have g10 := h.1
    have h := h.2
    refine s_iast (pc' := 29) (kX11_changes_0 19 rfl) rfl (kz233 Ln) g10 ?_
    refine r_iload (pc' := 31) (kX11_changes_0 20 rfl) rfl rfl ?_
    refine r_iconst (-1) (pc' := 32) (kX11_changes_0 21 rfl) rfl (by unfold inR; omega) ?_
    refine r_icmp_eq (t := 47) (pc' := 35) (kX11_changes_0 22 rfl) rfl rfl (fun c11 => ?_) (fun c11 => ?_)
    · have h := h.1 c11
      exact s_vret (kX11_changes_0 32 rfl) rfl h
    · have h := h.2 c11
      refine r_aload_n (pc' := 36) (kX11_changes_0 23 rfl) rfl rfl ?_
      refine s_getr (v := 233) (pc' := 39) (kX11_changes_0 24 rfl) rfl fkX11_118 rfl rfl (kz198 Ln) rfl (by decide) ?_
      refine r_iconst 1 (pc' := 40) (kX11_changes_0 25 rfl) rfl (by unfold inR; omega) ?_
      refine r_iconst 5 (pc' := 41) (kX11_changes_0 26 rfl) rfl (by unfold inR; omega) ?_
      refine r_iload (pc' := 43) (kX11_changes_0 27 rfl) rfl rfl ?_
      have g12 := h.1
      have h := h.2
      refine r_imul (pc' := 44) (kX11_changes_0 28 rfl) rfl g12 ?_
      have g13 := h.1
      have h := h.2
      refine r_iadd (pc' := 45) (kX11_changes_0 29 rfl) rfl g13 ?_
      refine r_iload_n (pc' := 46) (kX11_changes_0 30 rfl) rfl rfl ?_
      have g14 := h.1
      have h := h.2
      refine s_iast (pc' := 47) (kX11_changes_0 31 rfl) rfl (kz233 Ln) g14 ?_
      exact s_vret (kX11_changes_0 32 rfl) rfl h
theorem vX11_knowMany_0 {d : Nat} {φ : aF} {α : aA} {Q : Int → aF → aA → Prop} {x1 : Int} {x2 : Int} (h : (eX11_daysGo d x2 φ α (fun r1 φ1 α1 =>
   (eX11_knowersOf d x1 φ1 α1 (fun r2 φ2 α2 =>
   (eX11_bits d r2 φ2 α2 (fun r3 φ3 α3 =>
   (eX11_triesAnew d  φ3 α3 (fun r4 φ4 α4 =>
   (Q r3 φ4 α4)))))))))) : eX11_knowMany (d + 1) x1 x2 φ α Q := by
  intro Ln
  refine r_aload_n (pc' := 1) (kX11_knowMany_0 0 rfl) rfl rfl ?_
  refine r_iload_n (pc' := 2) (kX11_knowMany_0 1 rfl) rfl rfl ?_
  refine s_callV (As := [(0, x2)]) (o := 198) (S := []) (S2 := fun z => []) (pc' := 5) (kX11_knowMany_0 2 rfl) rfl rfl nkX11_daysGo mlX11_490 imX11_daysGo rfl slX11_daysGo rfl (Nat.le_of_ble_eq_true rfl) (Nat.le_of_ble_eq_true rfl) (kz198 Ln) h (fun z => rfl) (fun r1 φ1 α1 h => ?_)
  refine r_aload_n (pc' := 6) (kX11_knowMany_0 3 rfl) rfl rfl ?_
  refine r_iload_n (pc' := 7) (kX11_knowMany_0 4 rfl) rfl rfl ?_
  refine s_callV (As := [(0, x1)]) (o := 198) (S := []) (S2 := fun z => [(0, z)]) (pc' := 10) (kX11_knowMany_0 5 rfl) rfl rfl nkX11_knowersOf mlX11_479 imX11_knowersOf rfl slX11_knowersOf rfl (Nat.le_of_ble_eq_true rfl) (Nat.le_of_ble_eq_true rfl) (kz198 Ln) h (fun z => rfl) (fun r2 φ2 α2 h => ?_)
  refine s_callS (As := [(0, r2)]) (S := []) (S2 := fun z => [(0, z)]) (pc' := 13) (kX11_knowMany_0 6 rfl) rfl rfl nkX11_bits mlX11_496 scX11_bits rfl (Nat.le_of_ble_eq_true rfl) (Nat.le_of_ble_eq_true rfl) h (fun z => rfl) (fun r3 φ3 α3 h => ?_)
  refine r_istore_n (L' := [(2, 198), (0, x1), (0, x2), (0, r3)]) (pc' := 14) (kX11_knowMany_0 7 rfl) rfl (Nat.le_of_ble_eq_true rfl) rfl ?_
  refine r_aload_n (pc' := 15) (kX11_knowMany_0 8 rfl) rfl rfl ?_
  refine s_callV (As := []) (o := 198) (S := []) (S2 := fun z => []) (pc' := 18) (kX11_knowMany_0 9 rfl) rfl rfl nkX11_triesAnew mlX11_453 imX11_triesAnew rfl slX11_triesAnew rfl (Nat.le_of_ble_eq_true rfl) (Nat.le_of_ble_eq_true rfl) (kz198 Ln) h (fun z => rfl) (fun r4 φ4 α4 h => ?_)
  refine r_iload_n (pc' := 19) (kX11_knowMany_0 10 rfl) rfl rfl ?_
  exact s_iret (kX11_knowMany_0 11 rfl) rfl h
abbrev jX11_discreet_55 (d : Nat) (x1 x2 x3 x4 x5 x6 x7 : Int) (φ : aF) (α : aA) (Q : Int → aF → aA → Prop) : Prop := R0 d mX11_discreet 55 [(2, 198), (0, x1), (0, x2), (0, x3), (0, x4), (0, x5), (0, x6), (0, x7), (9, 0), (9, 0)] [] φ α Q
theorem vX11_discreet_0 {d : Nat} {φ : aF} {α : aA} {Q : Int → aF → aA → Prop} {x1 : Int} {x2 : Int} {x3 : Int} (h : (eX11_isMatter d x1 φ α (fun r1 φ1 α1 =>
   ((r1 = 0 →
   (Q (-1) φ1 α1)) ∧
   (¬ (r1 = 0) →
   (eX11_isAhead d x2 1 30 φ1 α1 (fun r3 φ3 α3 =>
     ((r3 = 0 →
     (Q (-1) φ3 α3)) ∧
     (¬ (r3 = 0) →
     (eX11_isIn d x3 0 2 φ3 α3 (fun r5 φ5 α5 =>
       ((¬ r5 = 0 →
       (eX11_putsAside d  φ5 α5 (fun r7 φ7 α7 =>
         (eX11_knowMany d x1 x2 φ7 α7 (fun r8 φ8 α8 =>
         (jX11_discreet_55 (d + 1) x1 x2 x3 r8 (-1) (-1) 0 φ8 α8 Q)))))) ∧
       (r5 = 0 →
       (Q (-1) φ5 α5)))))))))))))) : eX11_discreet (d + 1) x1 x2 x3 φ α Q := by
  intro Ln
  refine r_aload_n (pc' := 1) (kX11_discreet_0 0 rfl) rfl rfl ?_
  refine r_iload_n (pc' := 2) (kX11_discreet_0 1 rfl) rfl rfl ?_
  refine r_i2l (pc' := 3) (kX11_discreet_0 2 rfl) rfl ?_
  refine s_callV (As := [(1, x1)]) (o := 198) (S := []) (S2 := fun z => [(0, z)]) (pc' := 6) (kX11_discreet_0 3 rfl) rfl rfl nkX11_isMatter mlX11_383 imX11_isMatter rfl slX11_isMatter rfl (Nat.le_of_ble_eq_true rfl) (Nat.le_of_ble_eq_true rfl) (kz198 Ln) h (fun z => rfl) (fun r1 φ1 α1 h => ?_)
  refine r_if_eq (t := 32) (pc' := 9) (kX11_discreet_0 4 rfl) rfl rfl (fun c2 => ?_) (fun c2 => ?_)
  · have h := h.1 c2
    refine r_iconst (-1) (pc' := 33) (kX11_discreet_0 17 rfl) rfl (by unfold inR; omega) ?_
    exact s_iret (kX11_discreet_0 18 rfl) rfl h
  · have h := h.2 c2
    refine r_aload_n (pc' := 10) (kX11_discreet_0 5 rfl) rfl rfl ?_
    refine r_iload_n (pc' := 11) (kX11_discreet_0 6 rfl) rfl rfl ?_
    refine r_iconst 1 (pc' := 12) (kX11_discreet_0 7 rfl) rfl (by unfold inR; omega) ?_
    refine r_bipush 30 (pc' := 14) (kX11_discreet_0 8 rfl) rfl ⟨by unfold inR; omega, rfl⟩ ?_
    refine s_callV (As := [(0, x2), (0, 1), (0, 30)]) (o := 198) (S := []) (S2 := fun z => [(0, z)]) (pc' := 17) (kX11_discreet_0 9 rfl) rfl rfl nkX11_isAhead mlX11_484 imX11_isAhead rfl slX11_isAhead rfl (Nat.le_of_ble_eq_true rfl) (Nat.le_of_ble_eq_true rfl) (kz198 Ln) h (fun z => rfl) (fun r3 φ3 α3 h => ?_)
    refine r_if_eq (t := 32) (pc' := 20) (kX11_discreet_0 10 rfl) rfl rfl (fun c4 => ?_) (fun c4 => ?_)
    · have h := h.1 c4
      refine r_iconst (-1) (pc' := 33) (kX11_discreet_0 17 rfl) rfl (by unfold inR; omega) ?_
      exact s_iret (kX11_discreet_0 18 rfl) rfl h
    · have h := h.2 c4
      refine r_iload_n (pc' := 21) (kX11_discreet_0 11 rfl) rfl rfl ?_
      refine r_i2l (pc' := 22) (kX11_discreet_0 12 rfl) rfl ?_
      refine r_lconst 0 (pc' := 23) (kX11_discreet_0 13 rfl) rfl ⟨by unfold inJ; omega, rfl⟩ ?_
      refine r_ldc2 2 (pc' := 26) (kX11_discreet_0 14 rfl) rfl kcX11_482 (by unfold inJ; omega) ?_
      refine s_callS (As := [(1, x3), (1, 0), (1, 2)]) (S := []) (S2 := fun z => [(0, z)]) (pc' := 29) (kX11_discreet_0 15 rfl) rfl rfl nkX11_isIn mlX11_270 scX11_isIn rfl (Nat.le_of_ble_eq_true rfl) (Nat.le_of_ble_eq_true rfl) h (fun z => rfl) (fun r5 φ5 α5 h => ?_)
      refine r_if_ne (t := 34) (pc' := 32) (kX11_discreet_0 16 rfl) rfl rfl (fun c6 => ?_) (fun c6 => ?_)
      · have h := h.1 c6
        refine r_aload_n (pc' := 35) (kX11_discreet_0 19 rfl) rfl rfl ?_
        refine s_callV (As := []) (o := 198) (S := []) (S2 := fun z => []) (pc' := 38) (kX11_discreet_0 20 rfl) rfl rfl nkX11_putsAside mlX11_487 imX11_putsAside rfl slX11_putsAside rfl (Nat.le_of_ble_eq_true rfl) (Nat.le_of_ble_eq_true rfl) (kz198 Ln) h (fun z => rfl) (fun r7 φ7 α7 h => ?_)
        refine r_aload_n (pc' := 39) (kX11_discreet_0 21 rfl) rfl rfl ?_
        refine r_iload_n (pc' := 40) (kX11_discreet_0 22 rfl) rfl rfl ?_
        refine r_iload_n (pc' := 41) (kX11_discreet_0 23 rfl) rfl rfl ?_
        refine s_callV (As := [(0, x1), (0, x2)]) (o := 198) (S := []) (S2 := fun z => [(0, z)]) (pc' := 44) (kX11_discreet_0 24 rfl) rfl rfl nkX11_knowMany mlX11_499 imX11_knowMany rfl slX11_knowMany rfl (Nat.le_of_ble_eq_true rfl) (Nat.le_of_ble_eq_true rfl) (kz198 Ln) h (fun z => rfl) (fun r8 φ8 α8 h => ?_)
        refine r_istore (L' := [(2, 198), (0, x1), (0, x2), (0, x3), (0, r8), (9, 0), (9, 0), (9, 0), (9, 0), (9, 0)]) (pc' := 46) (kX11_discreet_0 25 rfl) rfl (Nat.le_of_ble_eq_true rfl) rfl ?_
        refine r_iconst (-1) (pc' := 47) (kX11_discreet_0 26 rfl) rfl (by unfold inR; omega) ?_
        refine r_istore (L' := [(2, 198), (0, x1), (0, x2), (0, x3), (0, r8), (0, (-1)), (9, 0), (9, 0), (9, 0), (9, 0)]) (pc' := 49) (kX11_discreet_0 27 rfl) rfl (Nat.le_of_ble_eq_true rfl) rfl ?_
        refine r_iconst (-1) (pc' := 50) (kX11_discreet_0 28 rfl) rfl (by unfold inR; omega) ?_
        refine r_istore (L' := [(2, 198), (0, x1), (0, x2), (0, x3), (0, r8), (0, (-1)), (0, (-1)), (9, 0), (9, 0), (9, 0)]) (pc' := 52) (kX11_discreet_0 29 rfl) rfl (Nat.le_of_ble_eq_true rfl) rfl ?_
        refine r_iconst 0 (pc' := 53) (kX11_discreet_0 30 rfl) rfl (by unfold inR; omega) ?_
        refine r_istore (L' := [(2, 198), (0, x1), (0, x2), (0, x3), (0, r8), (0, (-1)), (0, (-1)), (0, 0), (9, 0), (9, 0)]) (pc' := 55) (kX11_discreet_0 31 rfl) rfl (Nat.le_of_ble_eq_true rfl) rfl ?_
        exact r_weak (L' := [(2, 198), (0, x1), (0, x2), (0, x3), (0, r8), (0, (-1)), (0, (-1)), (0, 0), (9, 0), (9, 0)]) ⟨Or.inl rfl, Or.inl rfl, Or.inl rfl, Or.inl rfl, Or.inl rfl, Or.inl rfl, Or.inl rfl, Or.inl rfl, Or.inr (by decide), Or.inr (by decide), trivial⟩ (h Ln)
      · have h := h.2 c6
        refine r_iconst (-1) (pc' := 33) (kX11_discreet_0 17 rfl) rfl (by unfold inR; omega) ?_
        exact s_iret (kX11_discreet_0 18 rfl) rfl h
abbrev jX11_discreet_72 (d : Nat) (x1 x2 x3 x4 x5 x6 x7 x8 : Int) (φ : aF) (α : aA) (Q : Int → aF → aA → Prop) : Prop := R0 d mX11_discreet 72 [(2, 198), (0, x1), (0, x2), (0, x3), (0, x4), (0, x5), (0, x6), (0, x7), (0, x8), (9, 0)] [] φ α Q
theorem vX11_discreet_55 {d : Nat} {φ : aF} {α : aA} {Q : Int → aF → aA → Prop} {x1 : Int} {x2 : Int} {x3 : Int} {x4 : Int} {x5 : Int} {x6 : Int} {x7 : Int} (h : (((α 225 2) ≤ x7 →
   (eX11_takesBack d  φ α (fun r2 φ2 α2 =>
     ((¬ x5 = (-1) →
     ((¬ x3 = 0 →
       ((¬ x3 = 1 →
         (Q x4 φ2 α2)) ∧
         (x3 = 1 →
         (Q x6 φ2 α2)))) ∧
       (x3 = 0 →
       (Q x5 φ2 α2)))) ∧
     (x5 = (-1) →
     (Q (-1) φ2 α2)))))) ∧
   (¬ ((α 225 2) ≤ x7) →
   inR (x7 + 1) ∧ (jX11_discreet_72 (d + 1) x1 x2 x3 x4 x5 x6 x7 (x7 + 1) φ α Q)))) : jX11_discreet_55 (d + 1) x1 x2 x3 x4 x5 x6 x7 φ α Q := by
  intro Ln
  refine r_iload (pc' := 57) (kX11_discreet_0 32 rfl) rfl rfl ?_
  refine r_aload_n (pc' := 58) (kX11_discreet_0 33 rfl) rfl rfl ?_
  refine s_getr (v := 225) (pc' := 61) (kX11_discreet_0 34 rfl) rfl fkX11_93 rfl rfl (kz198 Ln) rfl (by decide) ?_
  refine r_iconst 2 (pc' := 62) (kX11_discreet_0 35 rfl) rfl (by unfold inR; omega) ?_
  refine s_iald (x := (α 225 2)) (pc' := 63) (kX11_discreet_0 36 rfl) rfl (kz225 Ln) ⟨by decide, by decide⟩ rfl ?_
  refine r_icmp_ge (t := 133) (pc' := 66) (kX11_discreet_0 37 rfl) rfl rfl (fun c1 => ?_) (fun c1 => ?_)
  · have h := h.1 c1
    refine r_aload_n (pc' := 134) (kX11_discreet_1 11 rfl) rfl rfl ?_
    refine s_callV (As := []) (o := 198) (S := []) (S2 := fun z => []) (pc' := 137) (kX11_discreet_1 12 rfl) rfl rfl nkX11_takesBack mlX11_493 imX11_takesBack rfl slX11_takesBack rfl (Nat.le_of_ble_eq_true rfl) (Nat.le_of_ble_eq_true rfl) (kz198 Ln) h (fun z => rfl) (fun r2 φ2 α2 h => ?_)
    refine r_iload (pc' := 139) (kX11_discreet_1 13 rfl) rfl rfl ?_
    refine r_iconst (-1) (pc' := 140) (kX11_discreet_1 14 rfl) rfl (by unfold inR; omega) ?_
    refine r_icmp_ne (t := 147) (pc' := 143) (kX11_discreet_1 15 rfl) rfl rfl (fun c3 => ?_) (fun c3 => ?_)
    · have h := h.1 c3
      refine r_iload_n (pc' := 148) (kX11_discreet_1 18 rfl) rfl rfl ?_
      refine r_if_ne (t := 156) (pc' := 151) (kX11_discreet_1 19 rfl) rfl rfl (fun c4 => ?_) (fun c4 => ?_)
      · have h := h.1 c4
        refine r_iload_n (pc' := 157) (kX11_discreet_1 22 rfl) rfl rfl ?_
        refine r_iconst 1 (pc' := 158) (kX11_discreet_1 23 rfl) rfl (by unfold inR; omega) ?_
        refine r_icmp_ne (t := 166) (pc' := 161) (kX11_discreet_1 24 rfl) rfl rfl (fun c5 => ?_) (fun c5 => ?_)
        · have h := h.1 c5
          refine r_iload (pc' := 168) (kX11_discreet_1 27 rfl) rfl rfl ?_
          exact s_iret (kX11_discreet_1 28 rfl) rfl h
        · have h := h.2 c5
          refine r_iload (pc' := 163) (kX11_discreet_1 25 rfl) rfl rfl ?_
          refine r_goto (pc' := 168) (kX11_discreet_1 26 rfl) rfl ?_
          exact s_iret (kX11_discreet_1 28 rfl) rfl h
      · have h := h.2 c4
        refine r_iload (pc' := 153) (kX11_discreet_1 20 rfl) rfl rfl ?_
        refine r_goto (pc' := 168) (kX11_discreet_1 21 rfl) rfl ?_
        exact s_iret (kX11_discreet_1 28 rfl) rfl h
    · have h := h.2 c3
      refine r_iconst (-1) (pc' := 144) (kX11_discreet_1 16 rfl) rfl (by unfold inR; omega) ?_
      refine r_goto (pc' := 168) (kX11_discreet_1 17 rfl) rfl ?_
      exact s_iret (kX11_discreet_1 28 rfl) rfl h
  · have h := h.2 c1
    refine r_iload (pc' := 68) (kX11_discreet_0 38 rfl) rfl rfl ?_
    refine r_iconst 1 (pc' := 69) (kX11_discreet_0 39 rfl) rfl (by unfold inR; omega) ?_
    have g6 := h.1
    have h := h.2
    refine r_iadd (pc' := 70) (kX11_discreet_0 40 rfl) rfl g6 ?_
    refine r_istore (L' := [(2, 198), (0, x1), (0, x2), (0, x3), (0, x4), (0, x5), (0, x6), (0, x7), (0, (x7 + 1)), (9, 0)]) (pc' := 72) (kX11_discreet_0 41 rfl) rfl (Nat.le_of_ble_eq_true rfl) rfl ?_
    exact r_weak (L' := [(2, 198), (0, x1), (0, x2), (0, x3), (0, x4), (0, x5), (0, x6), (0, x7), (0, (x7 + 1)), (9, 0)]) ⟨Or.inl rfl, Or.inl rfl, Or.inl rfl, Or.inl rfl, Or.inl rfl, Or.inl rfl, Or.inl rfl, Or.inl rfl, Or.inl rfl, Or.inr (by decide), trivial⟩ (h Ln)
theorem vX11_discreet_72 {d : Nat} {φ : aF} {α : aA} {Q : Int → aF → aA → Prop} {x1 : Int} {x2 : Int} {x3 : Int} {x4 : Int} {x5 : Int} {x6 : Int} {x7 : Int} {x8 : Int} (h : (((α 225 2) ≤ x8 →
   inR (x7 + 1) ∧ (jX11_discreet_55 (d + 1) x1 x2 x3 x4 x5 x6 (x7 + 1) φ α Q)) ∧
   (¬ ((α 225 2) ≤ x8) →
   (eX11_changes d x7 x8 φ α (fun r3 φ3 α3 =>
     (eX11_knowMany d x1 x2 φ3 α3 (fun r4 φ4 α4 =>
     ((r4 < x4 →
     inR (x8 + 1) ∧ (jX11_discreet_72 (d + 1) x1 x2 x3 r4 x7 x8 x7 (x8 + 1) φ4 α4 Q)) ∧
     (¬ (r4 < x4) →
     inR (x8 + 1) ∧ (jX11_discreet_72 (d + 1) x1 x2 x3 x4 x5 x6 x7 (x8 + 1) φ4 α4 Q)))))))))) : jX11_discreet_72 (d + 1) x1 x2 x3 x4 x5 x6 x7 x8 φ α Q := by
  intro Ln
  refine r_iload (pc' := 74) (kX11_discreet_0 42 rfl) rfl rfl ?_
  refine r_aload_n (pc' := 75) (kX11_discreet_0 43 rfl) rfl rfl ?_
  refine s_getr (v := 225) (pc' := 78) (kX11_discreet_0 44 rfl) rfl fkX11_93 rfl rfl (kz198 Ln) rfl (by decide) ?_
  refine r_iconst 2 (pc' := 79) (kX11_discreet_0 45 rfl) rfl (by unfold inR; omega) ?_
  refine s_iald (x := (α 225 2)) (pc' := 80) (kX11_discreet_0 46 rfl) rfl (kz225 Ln) ⟨by decide, by decide⟩ rfl ?_
  refine r_icmp_ge (t := 127) (pc' := 83) (kX11_discreet_0 47 rfl) rfl rfl (fun c1 => ?_) (fun c1 => ?_)
  · have h := h.1 c1
    have g2 := h.1
    have h := h.2
    refine r_iinc (L' := [(2, 198), (0, x1), (0, x2), (0, x3), (0, x4), (0, x5), (0, x6), (0, (x7 + 1)), (0, x8), (9, 0)]) (pc' := 130) (kX11_discreet_1 9 rfl) rfl (Nat.le_of_ble_eq_true rfl) rfl g2 rfl ?_
    refine r_goto (pc' := 55) (kX11_discreet_1 10 rfl) rfl ?_
    exact r_weak (L' := [(2, 198), (0, x1), (0, x2), (0, x3), (0, x4), (0, x5), (0, x6), (0, (x7 + 1)), (9, 0), (9, 0)]) ⟨Or.inl rfl, Or.inl rfl, Or.inl rfl, Or.inl rfl, Or.inl rfl, Or.inl rfl, Or.inl rfl, Or.inl rfl, Or.inr (by decide), Or.inr (by decide), trivial⟩ (h Ln)
  · have h := h.2 c1
    refine r_aload_n (pc' := 84) (kX11_discreet_0 48 rfl) rfl rfl ?_
    refine r_iload (pc' := 86) (kX11_discreet_0 49 rfl) rfl rfl ?_
    refine r_iload (pc' := 88) (kX11_discreet_0 50 rfl) rfl rfl ?_
    refine s_callV (As := [(0, x7), (0, x8)]) (o := 198) (S := []) (S2 := fun z => []) (pc' := 91) (kX11_discreet_0 51 rfl) rfl rfl nkX11_changes mlX11_502 imX11_changes rfl slX11_changes rfl (Nat.le_of_ble_eq_true rfl) (Nat.le_of_ble_eq_true rfl) (kz198 Ln) h (fun z => rfl) (fun r3 φ3 α3 h => ?_)
    refine r_aload_n (pc' := 92) (kX11_discreet_0 52 rfl) rfl rfl ?_
    refine r_iload_n (pc' := 93) (kX11_discreet_0 53 rfl) rfl rfl ?_
    refine r_iload_n (pc' := 94) (kX11_discreet_0 54 rfl) rfl rfl ?_
    refine s_callV (As := [(0, x1), (0, x2)]) (o := 198) (S := []) (S2 := fun z => [(0, z)]) (pc' := 97) (kX11_discreet_0 55 rfl) rfl rfl nkX11_knowMany mlX11_499 imX11_knowMany rfl slX11_knowMany rfl (Nat.le_of_ble_eq_true rfl) (Nat.le_of_ble_eq_true rfl) (kz198 Ln) h (fun z => rfl) (fun r4 φ4 α4 h => ?_)
    refine r_istore (L' := [(2, 198), (0, x1), (0, x2), (0, x3), (0, x4), (0, x5), (0, x6), (0, x7), (0, x8), (0, r4)]) (pc' := 99) (kX11_discreet_0 56 rfl) rfl (Nat.le_of_ble_eq_true rfl) rfl ?_
    refine r_iload (pc' := 101) (kX11_discreet_0 57 rfl) rfl rfl ?_
    refine r_iload (pc' := 103) (kX11_discreet_0 58 rfl) rfl rfl ?_
    refine r_icmp_lt (t := 109) (pc' := 106) (kX11_discreet_0 59 rfl) rfl rfl (fun c5 => ?_) (fun c5 => ?_)
    · have h := h.1 c5
      refine r_iload (pc' := 111) (kX11_discreet_1 1 rfl) rfl rfl ?_
      refine r_istore (L' := [(2, 198), (0, x1), (0, x2), (0, x3), (0, r4), (0, x5), (0, x6), (0, x7), (0, x8), (0, r4)]) (pc' := 113) (kX11_discreet_1 2 rfl) rfl (Nat.le_of_ble_eq_true rfl) rfl ?_
      refine r_iload (pc' := 115) (kX11_discreet_1 3 rfl) rfl rfl ?_
      refine r_istore (L' := [(2, 198), (0, x1), (0, x2), (0, x3), (0, r4), (0, x7), (0, x6), (0, x7), (0, x8), (0, r4)]) (pc' := 117) (kX11_discreet_1 4 rfl) rfl (Nat.le_of_ble_eq_true rfl) rfl ?_
      refine r_iload (pc' := 119) (kX11_discreet_1 5 rfl) rfl rfl ?_
      refine r_istore (L' := [(2, 198), (0, x1), (0, x2), (0, x3), (0, r4), (0, x7), (0, x8), (0, x7), (0, x8), (0, r4)]) (pc' := 121) (kX11_discreet_1 6 rfl) rfl (Nat.le_of_ble_eq_true rfl) rfl ?_
      have g6 := h.1
      have h := h.2
      refine r_iinc (L' := [(2, 198), (0, x1), (0, x2), (0, x3), (0, r4), (0, x7), (0, x8), (0, x7), (0, (x8 + 1)), (0, r4)]) (pc' := 124) (kX11_discreet_1 7 rfl) rfl (Nat.le_of_ble_eq_true rfl) rfl g6 rfl ?_
      refine r_goto (pc' := 72) (kX11_discreet_1 8 rfl) rfl ?_
      exact r_weak (L' := [(2, 198), (0, x1), (0, x2), (0, x3), (0, r4), (0, x7), (0, x8), (0, x7), (0, (x8 + 1)), (9, 0)]) ⟨Or.inl rfl, Or.inl rfl, Or.inl rfl, Or.inl rfl, Or.inl rfl, Or.inl rfl, Or.inl rfl, Or.inl rfl, Or.inl rfl, Or.inr (by decide), trivial⟩ (h Ln)
    · have h := h.2 c5
      refine r_goto (pc' := 121) (kX11_discreet_1 0 rfl) rfl ?_
      have g7 := h.1
      have h := h.2
      refine r_iinc (L' := [(2, 198), (0, x1), (0, x2), (0, x3), (0, x4), (0, x5), (0, x6), (0, x7), (0, (x8 + 1)), (0, r4)]) (pc' := 124) (kX11_discreet_1 7 rfl) rfl (Nat.le_of_ble_eq_true rfl) rfl g7 rfl ?_
      refine r_goto (pc' := 72) (kX11_discreet_1 8 rfl) rfl ?_
      exact r_weak (L' := [(2, 198), (0, x1), (0, x2), (0, x3), (0, x4), (0, x5), (0, x6), (0, x7), (0, (x8 + 1)), (9, 0)]) ⟨Or.inl rfl, Or.inl rfl, Or.inl rfl, Or.inl rfl, Or.inl rfl, Or.inl rfl, Or.inl rfl, Or.inl rfl, Or.inl rfl, Or.inr (by decide), trivial⟩ (h Ln)
abbrev jX11_isPressed_3 (d : Nat) (x1 x2 x3 x4 x5 : Int) (φ : aF) (α : aA) (Q : Int → aF → aA → Prop) : Prop := R0 d mX11_isPressed 3 [(2, 198), (0, x1), (0, x2), (0, x3), (0, x4), (0, x5), (9, 0)] [] φ α Q
theorem vX11_isPressed_0 {d : Nat} {φ : aF} {α : aA} {Q : Int → aF → aA → Prop} {x1 : Int} {x2 : Int} {x3 : Int} {x4 : Int} (h : (jX11_isPressed_3 (d + 1) x1 x2 x3 x4 0 φ α Q)) : eX11_isPressed (d + 1) x1 x2 x3 x4 φ α Q := by
  intro Ln
  refine r_iconst 0 (pc' := 1) (kX11_isPressed_0 0 rfl) rfl (by unfold inR; omega) ?_
  refine r_istore (L' := [(2, 198), (0, x1), (0, x2), (0, x3), (0, x4), (0, 0), (9, 0)]) (pc' := 3) (kX11_isPressed_0 1 rfl) rfl (Nat.le_of_ble_eq_true rfl) rfl ?_
  exact r_weak (L' := [(2, 198), (0, x1), (0, x2), (0, x3), (0, x4), (0, 0), (9, 0)]) ⟨Or.inl rfl, Or.inl rfl, Or.inl rfl, Or.inl rfl, Or.inl rfl, Or.inl rfl, Or.inr (by decide), trivial⟩ (h Ln)
abbrev jX11_isPressed_64 (d : Nat) (x2 x3 x4 x5 x6 : Int) (φ : aF) (α : aA) (Q : Int → aF → aA → Prop) : Prop := R0 d mX11_isPressed 64 [(2, 198), (9, 0), (0, x2), (0, x3), (0, x4), (0, x5), (0, x6)] [] φ α Q
abbrev jX11_isPressed_25 (d : Nat) (x1 x2 x3 x4 x5 x6 : Int) (φ : aF) (α : aA) (Q : Int → aF → aA → Prop) : Prop := R0 d mX11_isPressed 25 [(2, 198), (0, x1), (0, x2), (0, x3), (0, x4), (0, x5), (0, x6)] [] φ α Q
theorem vX11_isPressed_3 {d : Nat} {φ : aF} {α : aA} {Q : Int → aF → aA → Prop} {x1 : Int} {x2 : Int} {x3 : Int} {x4 : Int} {x5 : Int} (h : (eX11_clerkMany d  φ α (fun r1 φ1 α1 =>
   ((r1 ≤ x5 →
   (jX11_isPressed_64 (d + 1) x2 x3 x4 1 0 φ1 α1 Q)) ∧
   (¬ (r1 ≤ x5) →
   ((¬ (iAnd (iShr x1 x5) 1) = 1 →
     inR (x5 + 1) ∧ (jX11_isPressed_3 (d + 1) x1 x2 x3 x4 (x5 + 1) φ1 α1 Q)) ∧
     ((iAnd (iShr x1 x5) 1) = 1 →
     (jX11_isPressed_25 (d + 1) x1 x2 x3 x4 x5 0 φ1 α1 Q)))))))) : jX11_isPressed_3 (d + 1) x1 x2 x3 x4 x5 φ α Q := by
  intro Ln
  refine r_iload (pc' := 5) (kX11_isPressed_0 2 rfl) rfl rfl ?_
  refine r_aload_n (pc' := 6) (kX11_isPressed_0 3 rfl) rfl rfl ?_
  refine s_callV (As := []) (o := 198) (S := [(0, x5)]) (S2 := fun z => [(0, z), (0, x5)]) (pc' := 9) (kX11_isPressed_0 4 rfl) rfl rfl nkX11_clerkMany mlX11_376 imX11_clerkMany rfl slX11_clerkMany rfl (Nat.le_of_ble_eq_true rfl) (Nat.le_of_ble_eq_true rfl) (kz198 Ln) h (fun z => rfl) (fun r1 φ1 α1 h => ?_)
  refine r_icmp_ge (t := 58) (pc' := 12) (kX11_isPressed_0 5 rfl) rfl rfl (fun c2 => ?_) (fun c2 => ?_)
  · have h := h.1 c2
    refine r_iconst 1 (pc' := 59) (kX11_isPressed_0 33 rfl) rfl (by unfold inR; omega) ?_
    refine r_istore (L' := [(2, 198), (0, x1), (0, x2), (0, x3), (0, x4), (0, 1), (9, 0)]) (pc' := 61) (kX11_isPressed_0 34 rfl) rfl (Nat.le_of_ble_eq_true rfl) rfl ?_
    refine r_iconst 0 (pc' := 62) (kX11_isPressed_0 35 rfl) rfl (by unfold inR; omega) ?_
    refine r_istore (L' := [(2, 198), (0, x1), (0, x2), (0, x3), (0, x4), (0, 1), (0, 0)]) (pc' := 64) (kX11_isPressed_0 36 rfl) rfl (Nat.le_of_ble_eq_true rfl) rfl ?_
    exact r_weak (L' := [(2, 198), (9, 0), (0, x2), (0, x3), (0, x4), (0, 1), (0, 0)]) ⟨Or.inl rfl, Or.inr (by decide), Or.inl rfl, Or.inl rfl, Or.inl rfl, Or.inl rfl, Or.inl rfl, trivial⟩ (h Ln)
  · have h := h.2 c2
    refine r_iload_n (pc' := 13) (kX11_isPressed_0 6 rfl) rfl rfl ?_
    refine r_iload (pc' := 15) (kX11_isPressed_0 7 rfl) rfl rfl ?_
    refine r_ishr (pc' := 16) (kX11_isPressed_0 8 rfl) rfl ?_
    refine r_iconst 1 (pc' := 17) (kX11_isPressed_0 9 rfl) rfl (by unfold inR; omega) ?_
    refine r_iand (pc' := 18) (kX11_isPressed_0 10 rfl) rfl ?_
    refine r_iconst 1 (pc' := 19) (kX11_isPressed_0 11 rfl) rfl (by unfold inR; omega) ?_
    refine r_icmp_ne (t := 52) (pc' := 22) (kX11_isPressed_0 12 rfl) rfl rfl (fun c3 => ?_) (fun c3 => ?_)
    · have h := h.1 c3
      have g4 := h.1
      have h := h.2
      refine r_iinc (L' := [(2, 198), (0, x1), (0, x2), (0, x3), (0, x4), (0, (x5 + 1)), (9, 0)]) (pc' := 55) (kX11_isPressed_0 31 rfl) rfl (Nat.le_of_ble_eq_true rfl) rfl g4 rfl ?_
      refine r_goto (pc' := 3) (kX11_isPressed_0 32 rfl) rfl ?_
      exact r_weak (L' := [(2, 198), (0, x1), (0, x2), (0, x3), (0, x4), (0, (x5 + 1)), (9, 0)]) ⟨Or.inl rfl, Or.inl rfl, Or.inl rfl, Or.inl rfl, Or.inl rfl, Or.inl rfl, Or.inr (by decide), trivial⟩ (h Ln)
    · have h := h.2 c3
      refine r_iconst 0 (pc' := 23) (kX11_isPressed_0 13 rfl) rfl (by unfold inR; omega) ?_
      refine r_istore (L' := [(2, 198), (0, x1), (0, x2), (0, x3), (0, x4), (0, x5), (0, 0)]) (pc' := 25) (kX11_isPressed_0 14 rfl) rfl (Nat.le_of_ble_eq_true rfl) rfl ?_
      exact r_weak (L' := [(2, 198), (0, x1), (0, x2), (0, x3), (0, x4), (0, x5), (0, 0)]) ⟨Or.inl rfl, Or.inl rfl, Or.inl rfl, Or.inl rfl, Or.inl rfl, Or.inl rfl, Or.inl rfl, trivial⟩ (h Ln)
theorem vX11_isPressed_64 {d : Nat} {φ : aF} {α : aA} {Q : Int → aF → aA → Prop} {x2 : Int} {x3 : Int} {x4 : Int} {x5 : Int} {x6 : Int} (h : ((x4 ≤ x6 →
   (eX11_triesAnew d  φ α (fun r2 φ2 α2 =>
     (x5 = 0 ∨ x5 = 1) ∧ (Q x5 φ2 α2)))) ∧
   (¬ (x4 ≤ x6) →
   ((x5 = 0 →
     (eX11_triesAnew d  φ α (fun r5 φ5 α5 =>
       (x5 = 0 ∨ x5 = 1) ∧ (Q x5 φ5 α5)))) ∧
     (¬ (x5 = 0) →
     (eX11_dayGoes d 0 φ α (fun r7 φ7 α7 =>
       (eX11_dropsOf d x2 x3 φ7 α7 (fun r8 φ8 α8 =>
       ((¬ r8 = 0 →
       inR (x6 + 1) ∧ (jX11_isPressed_64 (d + 1) x2 x3 x4 0 (x6 + 1) φ8 α8 Q)) ∧
       (r8 = 0 →
       inR (x6 + 1) ∧ (jX11_isPressed_64 (d + 1) x2 x3 x4 1 (x6 + 1) φ8 α8 Q)))))))))))) : jX11_isPressed_64 (d + 1) x2 x3 x4 x5 x6 φ α Q := by
  intro Ln
  refine r_iload (pc' := 66) (kX11_isPressed_0 37 rfl) rfl rfl ?_
  refine r_iload (pc' := 68) (kX11_isPressed_0 38 rfl) rfl rfl ?_
  refine r_icmp_ge (t := 103) (pc' := 71) (kX11_isPressed_0 39 rfl) rfl rfl (fun c1 => ?_) (fun c1 => ?_)
  · have h := h.1 c1
    refine r_aload_n (pc' := 104) (kX11_isPressed_0 56 rfl) rfl rfl ?_
    refine s_callV (As := []) (o := 198) (S := []) (S2 := fun z => []) (pc' := 107) (kX11_isPressed_0 57 rfl) rfl rfl nkX11_triesAnew mlX11_453 imX11_triesAnew rfl slX11_triesAnew rfl (Nat.le_of_ble_eq_true rfl) (Nat.le_of_ble_eq_true rfl) (kz198 Ln) h (fun z => rfl) (fun r2 φ2 α2 h => ?_)
    refine r_iload (pc' := 109) (kX11_isPressed_0 58 rfl) rfl rfl ?_
    have g3 := h.1
    have h := h.2
    exact s_zret (kX11_isPressed_0 59 rfl) rfl g3 h
  · have h := h.2 c1
    refine r_iload (pc' := 73) (kX11_isPressed_0 40 rfl) rfl rfl ?_
    refine r_if_eq (t := 103) (pc' := 76) (kX11_isPressed_0 41 rfl) rfl rfl (fun c4 => ?_) (fun c4 => ?_)
    · have h := h.1 c4
      refine r_aload_n (pc' := 104) (kX11_isPressed_0 56 rfl) rfl rfl ?_
      refine s_callV (As := []) (o := 198) (S := []) (S2 := fun z => []) (pc' := 107) (kX11_isPressed_0 57 rfl) rfl rfl nkX11_triesAnew mlX11_453 imX11_triesAnew rfl slX11_triesAnew rfl (Nat.le_of_ble_eq_true rfl) (Nat.le_of_ble_eq_true rfl) (kz198 Ln) h (fun z => rfl) (fun r5 φ5 α5 h => ?_)
      refine r_iload (pc' := 109) (kX11_isPressed_0 58 rfl) rfl rfl ?_
      have g6 := h.1
      have h := h.2
      exact s_zret (kX11_isPressed_0 59 rfl) rfl g6 h
    · have h := h.2 c4
      refine r_aload_n (pc' := 77) (kX11_isPressed_0 42 rfl) rfl rfl ?_
      refine r_iconst 0 (pc' := 78) (kX11_isPressed_0 43 rfl) rfl (by unfold inR; omega) ?_
      refine s_callV (As := [(0, 0)]) (o := 198) (S := []) (S2 := fun z => []) (pc' := 81) (kX11_isPressed_0 44 rfl) rfl rfl nkX11_dayGoes mlX11_450 imX11_dayGoes rfl slX11_dayGoes rfl (Nat.le_of_ble_eq_true rfl) (Nat.le_of_ble_eq_true rfl) (kz198 Ln) h (fun z => rfl) (fun r7 φ7 α7 h => ?_)
      refine r_aload_n (pc' := 82) (kX11_isPressed_0 45 rfl) rfl rfl ?_
      refine r_iload_n (pc' := 83) (kX11_isPressed_0 46 rfl) rfl rfl ?_
      refine r_iload_n (pc' := 84) (kX11_isPressed_0 47 rfl) rfl rfl ?_
      refine s_callV (As := [(0, x2), (0, x3)]) (o := 198) (S := []) (S2 := fun z => [(0, z)]) (pc' := 87) (kX11_isPressed_0 48 rfl) rfl rfl nkX11_dropsOf mlX11_386 imX11_dropsOf rfl slX11_dropsOf rfl (Nat.le_of_ble_eq_true rfl) (Nat.le_of_ble_eq_true rfl) (kz198 Ln) h (fun z => rfl) (fun r8 φ8 α8 h => ?_)
      refine r_if_ne (t := 94) (pc' := 90) (kX11_isPressed_0 49 rfl) rfl rfl (fun c9 => ?_) (fun c9 => ?_)
      · have h := h.1 c9
        refine r_iconst 0 (pc' := 95) (kX11_isPressed_0 52 rfl) rfl (by unfold inR; omega) ?_
        refine r_istore (L' := [(2, 198), (9, 0), (0, x2), (0, x3), (0, x4), (0, 0), (0, x6)]) (pc' := 97) (kX11_isPressed_0 53 rfl) rfl (Nat.le_of_ble_eq_true rfl) rfl ?_
        have g10 := h.1
        have h := h.2
        refine r_iinc (L' := [(2, 198), (9, 0), (0, x2), (0, x3), (0, x4), (0, 0), (0, (x6 + 1))]) (pc' := 100) (kX11_isPressed_0 54 rfl) rfl (Nat.le_of_ble_eq_true rfl) rfl g10 rfl ?_
        refine r_goto (pc' := 64) (kX11_isPressed_0 55 rfl) rfl ?_
        exact r_weak (L' := [(2, 198), (9, 0), (0, x2), (0, x3), (0, x4), (0, 0), (0, (x6 + 1))]) ⟨Or.inl rfl, Or.inr (by decide), Or.inl rfl, Or.inl rfl, Or.inl rfl, Or.inl rfl, Or.inl rfl, trivial⟩ (h Ln)
      · have h := h.2 c9
        refine r_iconst 1 (pc' := 91) (kX11_isPressed_0 50 rfl) rfl (by unfold inR; omega) ?_
        refine r_goto (pc' := 95) (kX11_isPressed_0 51 rfl) rfl ?_
        refine r_istore (L' := [(2, 198), (9, 0), (0, x2), (0, x3), (0, x4), (0, 1), (0, x6)]) (pc' := 97) (kX11_isPressed_0 53 rfl) rfl (Nat.le_of_ble_eq_true rfl) rfl ?_
        have g11 := h.1
        have h := h.2
        refine r_iinc (L' := [(2, 198), (9, 0), (0, x2), (0, x3), (0, x4), (0, 1), (0, (x6 + 1))]) (pc' := 100) (kX11_isPressed_0 54 rfl) rfl (Nat.le_of_ble_eq_true rfl) rfl g11 rfl ?_
        refine r_goto (pc' := 64) (kX11_isPressed_0 55 rfl) rfl ?_
        exact r_weak (L' := [(2, 198), (9, 0), (0, x2), (0, x3), (0, x4), (0, 1), (0, (x6 + 1))]) ⟨Or.inl rfl, Or.inr (by decide), Or.inl rfl, Or.inl rfl, Or.inl rfl, Or.inl rfl, Or.inl rfl, trivial⟩ (h Ln)
theorem vX11_isPressed_25 {d : Nat} {φ : aF} {α : aA} {Q : Int → aF → aA → Prop} {x1 : Int} {x2 : Int} {x3 : Int} {x4 : Int} {x5 : Int} {x6 : Int} (h : ((4 ≤ x6 →
   inR (x5 + 1) ∧ (jX11_isPressed_3 (d + 1) x1 x2 x3 x4 (x5 + 1) φ α Q)) ∧
   (¬ (4 ≤ x6) →
   inR (5 * x5) ∧ inR (2 + (5 * x5)) ∧ inR ((2 + (5 * x5)) + x6) ∧ (0 ≤ ((2 + (5 * x5)) + x6) ∧ ((2 + (5 * x5)) + x6) < (169 : Nat)) ∧ inR (x6 + 1) ∧ (jX11_isPressed_25 (d + 1) x1 x2 x3 x4 x5 (x6 + 1) φ (upa α 233 ((2 + (5 * x5)) + x6) 0) Q)))) : jX11_isPressed_25 (d + 1) x1 x2 x3 x4 x5 x6 φ α Q := by
  intro Ln
  refine r_iload (pc' := 27) (kX11_isPressed_0 15 rfl) rfl rfl ?_
  refine r_iconst 4 (pc' := 28) (kX11_isPressed_0 16 rfl) rfl (by unfold inR; omega) ?_
  refine r_icmp_ge (t := 52) (pc' := 31) (kX11_isPressed_0 17 rfl) rfl rfl (fun c1 => ?_) (fun c1 => ?_)
  · have h := h.1 c1
    have g2 := h.1
    have h := h.2
    refine r_iinc (L' := [(2, 198), (0, x1), (0, x2), (0, x3), (0, x4), (0, (x5 + 1)), (0, x6)]) (pc' := 55) (kX11_isPressed_0 31 rfl) rfl (Nat.le_of_ble_eq_true rfl) rfl g2 rfl ?_
    refine r_goto (pc' := 3) (kX11_isPressed_0 32 rfl) rfl ?_
    exact r_weak (L' := [(2, 198), (0, x1), (0, x2), (0, x3), (0, x4), (0, (x5 + 1)), (9, 0)]) ⟨Or.inl rfl, Or.inl rfl, Or.inl rfl, Or.inl rfl, Or.inl rfl, Or.inl rfl, Or.inr (by decide), trivial⟩ (h Ln)
  · have h := h.2 c1
    refine r_aload_n (pc' := 32) (kX11_isPressed_0 18 rfl) rfl rfl ?_
    refine s_getr (v := 233) (pc' := 35) (kX11_isPressed_0 19 rfl) rfl fkX11_118 rfl rfl (kz198 Ln) rfl (by decide) ?_
    refine r_iconst 2 (pc' := 36) (kX11_isPressed_0 20 rfl) rfl (by unfold inR; omega) ?_
    refine r_iconst 5 (pc' := 37) (kX11_isPressed_0 21 rfl) rfl (by unfold inR; omega) ?_
    refine r_iload (pc' := 39) (kX11_isPressed_0 22 rfl) rfl rfl ?_
    have g3 := h.1
    have h := h.2
    refine r_imul (pc' := 40) (kX11_isPressed_0 23 rfl) rfl g3 ?_
    have g4 := h.1
    have h := h.2
    refine r_iadd (pc' := 41) (kX11_isPressed_0 24 rfl) rfl g4 ?_
    refine r_iload (pc' := 43) (kX11_isPressed_0 25 rfl) rfl rfl ?_
    have g5 := h.1
    have h := h.2
    refine r_iadd (pc' := 44) (kX11_isPressed_0 26 rfl) rfl g5 ?_
    refine r_iconst 0 (pc' := 45) (kX11_isPressed_0 27 rfl) rfl (by unfold inR; omega) ?_
    have g6 := h.1
    have h := h.2
    refine s_iast (pc' := 46) (kX11_isPressed_0 28 rfl) rfl (kz233 Ln) g6 ?_
    have g7 := h.1
    have h := h.2
    refine r_iinc (L' := [(2, 198), (0, x1), (0, x2), (0, x3), (0, x4), (0, x5), (0, (x6 + 1))]) (pc' := 49) (kX11_isPressed_0 29 rfl) rfl (Nat.le_of_ble_eq_true rfl) rfl g7 rfl ?_
    refine r_goto (pc' := 25) (kX11_isPressed_0 30 rfl) rfl ?_
    exact r_weak (L' := [(2, 198), (0, x1), (0, x2), (0, x3), (0, x4), (0, x5), (0, (x6 + 1))]) ⟨Or.inl rfl, Or.inl rfl, Or.inl rfl, Or.inl rfl, Or.inl rfl, Or.inl rfl, Or.inl rfl, trivial⟩ (h Ln)
abbrev jX11_pressed_32 (d : Nat) (x1 x2 x3 x4 x5 : Int) (φ : aF) (α : aA) (Q : Int → aF → aA → Prop) : Prop := R0 d mX11_pressed 32 [(2, 198), (0, x1), (0, x2), (0, x3), (0, x4), (0, x5)] [] φ α Q
theorem vX11_pressed_0 {d : Nat} {φ : aF} {α : aA} {Q : Int → aF → aA → Prop} {x1 : Int} {x2 : Int} {x3 : Int} (h : (eX11_areBoth d x1 x2 φ α (fun r1 φ1 α1 =>
   ((r1 = 0 →
   (Q (-1) φ1 α1)) ∧
   (¬ (r1 = 0) →
   (eX11_isAhead d x3 1 30 φ1 α1 (fun r3 φ3 α3 =>
     ((¬ r3 = 0 →
     (eX11_putsAside d  φ3 α3 (fun r5 φ5 α5 =>
       (jX11_pressed_32 (d + 1) x1 x2 x3 (-1) 0 φ5 α5 Q)))) ∧
     (r3 = 0 →
     (Q (-1) φ3 α3)))))))))) : eX11_pressed (d + 1) x1 x2 x3 φ α Q := by
  intro Ln
  refine r_aload_n (pc' := 1) (kX11_pressed_0 0 rfl) rfl rfl ?_
  refine r_iload_n (pc' := 2) (kX11_pressed_0 1 rfl) rfl rfl ?_
  refine r_iload_n (pc' := 3) (kX11_pressed_0 2 rfl) rfl rfl ?_
  refine s_callV (As := [(0, x1), (0, x2)]) (o := 198) (S := []) (S2 := fun z => [(0, z)]) (pc' := 6) (kX11_pressed_0 3 rfl) rfl rfl nkX11_areBoth mlX11_470 imX11_areBoth rfl slX11_areBoth rfl (Nat.le_of_ble_eq_true rfl) (Nat.le_of_ble_eq_true rfl) (kz198 Ln) h (fun z => rfl) (fun r1 φ1 α1 h => ?_)
  refine r_if_eq (t := 20) (pc' := 9) (kX11_pressed_0 4 rfl) rfl rfl (fun c2 => ?_) (fun c2 => ?_)
  · have h := h.1 c2
    refine r_iconst (-1) (pc' := 21) (kX11_pressed_0 11 rfl) rfl (by unfold inR; omega) ?_
    exact s_iret (kX11_pressed_0 12 rfl) rfl h
  · have h := h.2 c2
    refine r_aload_n (pc' := 10) (kX11_pressed_0 5 rfl) rfl rfl ?_
    refine r_iload_n (pc' := 11) (kX11_pressed_0 6 rfl) rfl rfl ?_
    refine r_iconst 1 (pc' := 12) (kX11_pressed_0 7 rfl) rfl (by unfold inR; omega) ?_
    refine r_bipush 30 (pc' := 14) (kX11_pressed_0 8 rfl) rfl ⟨by unfold inR; omega, rfl⟩ ?_
    refine s_callV (As := [(0, x3), (0, 1), (0, 30)]) (o := 198) (S := []) (S2 := fun z => [(0, z)]) (pc' := 17) (kX11_pressed_0 9 rfl) rfl rfl nkX11_isAhead mlX11_484 imX11_isAhead rfl slX11_isAhead rfl (Nat.le_of_ble_eq_true rfl) (Nat.le_of_ble_eq_true rfl) (kz198 Ln) h (fun z => rfl) (fun r3 φ3 α3 h => ?_)
    refine r_if_ne (t := 22) (pc' := 20) (kX11_pressed_0 10 rfl) rfl rfl (fun c4 => ?_) (fun c4 => ?_)
    · have h := h.1 c4
      refine r_iconst (-1) (pc' := 23) (kX11_pressed_0 13 rfl) rfl (by unfold inR; omega) ?_
      refine r_istore (L' := [(2, 198), (0, x1), (0, x2), (0, x3), (0, (-1)), (9, 0)]) (pc' := 25) (kX11_pressed_0 14 rfl) rfl (Nat.le_of_ble_eq_true rfl) rfl ?_
      refine r_aload_n (pc' := 26) (kX11_pressed_0 15 rfl) rfl rfl ?_
      refine s_callV (As := []) (o := 198) (S := []) (S2 := fun z => []) (pc' := 29) (kX11_pressed_0 16 rfl) rfl rfl nkX11_putsAside mlX11_487 imX11_putsAside rfl slX11_putsAside rfl (Nat.le_of_ble_eq_true rfl) (Nat.le_of_ble_eq_true rfl) (kz198 Ln) h (fun z => rfl) (fun r5 φ5 α5 h => ?_)
      refine r_iconst 0 (pc' := 30) (kX11_pressed_0 17 rfl) rfl (by unfold inR; omega) ?_
      refine r_istore (L' := [(2, 198), (0, x1), (0, x2), (0, x3), (0, (-1)), (0, 0)]) (pc' := 32) (kX11_pressed_0 18 rfl) rfl (Nat.le_of_ble_eq_true rfl) rfl ?_
      exact r_weak (L' := [(2, 198), (0, x1), (0, x2), (0, x3), (0, (-1)), (0, 0)]) ⟨Or.inl rfl, Or.inl rfl, Or.inl rfl, Or.inl rfl, Or.inl rfl, Or.inl rfl, trivial⟩ (h Ln)
    · have h := h.2 c4
      refine r_iconst (-1) (pc' := 21) (kX11_pressed_0 11 rfl) rfl (by unfold inR; omega) ?_
      exact s_iret (kX11_pressed_0 12 rfl) rfl h
theorem vX11_pressed_32 {d : Nat} {φ : aF} {α : aA} {Q : Int → aF → aA → Prop} {x1 : Int} {x2 : Int} {x3 : Int} {x4 : Int} {x5 : Int} (h : (eX11_clerkMany d  φ α (fun r1 φ1 α1 =>
   (((iShl 1 r1) ≤ x5 →
   (eX11_takesBack d  φ1 α1 (fun r3 φ3 α3 =>
     (Q x4 φ3 α3)))) ∧
   (¬ ((iShl 1 r1) ≤ x5) →
   ((¬ (iAnd (iShr x5 x1) 1) = 0 →
     inR (x5 + 1) ∧ (jX11_pressed_32 (d + 1) x1 x2 x3 x4 (x5 + 1) φ1 α1 Q)) ∧
     ((iAnd (iShr x5 x1) 1) = 0 →
     ((x4 = (-1) →
       (eX11_isPressed d x5 x1 x2 x3 φ1 α1 (fun r7 φ7 α7 =>
         ((r7 = 0 →
         inR (x5 + 1) ∧ (jX11_pressed_32 (d + 1) x1 x2 x3 x4 (x5 + 1) φ7 α7 Q)) ∧
         (¬ (r7 = 0) →
         inR (x5 + 1) ∧ (jX11_pressed_32 (d + 1) x1 x2 x3 x5 (x5 + 1) φ7 α7 Q)))))) ∧
       (¬ (x4 = (-1)) →
       (eX11_bits d x5 φ1 α1 (fun r11 φ11 α11 =>
         (eX11_bits d x4 φ11 α11 (fun r12 φ12 α12 =>
         ((r12 ≤ r11 →
         inR (x5 + 1) ∧ (jX11_pressed_32 (d + 1) x1 x2 x3 x4 (x5 + 1) φ12 α12 Q)) ∧
         (¬ (r12 ≤ r11) →
         (eX11_isPressed d x5 x1 x2 x3 φ12 α12 (fun r15 φ15 α15 =>
           ((r15 = 0 →
           inR (x5 + 1) ∧ (jX11_pressed_32 (d + 1) x1 x2 x3 x4 (x5 + 1) φ15 α15 Q)) ∧
           (¬ (r15 = 0) →
           inR (x5 + 1) ∧ (jX11_pressed_32 (d + 1) x1 x2 x3 x5 (x5 + 1) φ15 α15 Q)))))))))))))))))))) : jX11_pressed_32 (d + 1) x1 x2 x3 x4 x5 φ α Q := by
  intro Ln
  refine r_iload (pc' := 34) (kX11_pressed_0 19 rfl) rfl rfl ?_
  refine r_iconst 1 (pc' := 35) (kX11_pressed_0 20 rfl) rfl (by unfold inR; omega) ?_
  refine r_aload_n (pc' := 36) (kX11_pressed_0 21 rfl) rfl rfl ?_
  refine s_callV (As := []) (o := 198) (S := [(0, 1), (0, x5)]) (S2 := fun z => [(0, z), (0, 1), (0, x5)]) (pc' := 39) (kX11_pressed_0 22 rfl) rfl rfl nkX11_clerkMany mlX11_376 imX11_clerkMany rfl slX11_clerkMany rfl (Nat.le_of_ble_eq_true rfl) (Nat.le_of_ble_eq_true rfl) (kz198 Ln) h (fun z => rfl) (fun r1 φ1 α1 h => ?_)
  refine r_ishl (pc' := 40) (kX11_pressed_0 23 rfl) rfl ?_
  refine r_icmp_ge (t := 93) (pc' := 43) (kX11_pressed_0 24 rfl) rfl rfl (fun c2 => ?_) (fun c2 => ?_)
  · have h := h.1 c2
    refine r_aload_n (pc' := 94) (kX11_pressed_0 50 rfl) rfl rfl ?_
    refine s_callV (As := []) (o := 198) (S := []) (S2 := fun z => []) (pc' := 97) (kX11_pressed_0 51 rfl) rfl rfl nkX11_takesBack mlX11_493 imX11_takesBack rfl slX11_takesBack rfl (Nat.le_of_ble_eq_true rfl) (Nat.le_of_ble_eq_true rfl) (kz198 Ln) h (fun z => rfl) (fun r3 φ3 α3 h => ?_)
    refine r_iload (pc' := 99) (kX11_pressed_0 52 rfl) rfl rfl ?_
    exact s_iret (kX11_pressed_0 53 rfl) rfl h
  · have h := h.2 c2
    refine r_iload (pc' := 45) (kX11_pressed_0 25 rfl) rfl rfl ?_
    refine r_iload_n (pc' := 46) (kX11_pressed_0 26 rfl) rfl rfl ?_
    refine r_ishr (pc' := 47) (kX11_pressed_0 27 rfl) rfl ?_
    refine r_iconst 1 (pc' := 48) (kX11_pressed_0 28 rfl) rfl (by unfold inR; omega) ?_
    refine r_iand (pc' := 49) (kX11_pressed_0 29 rfl) rfl ?_
    refine r_if_ne (t := 87) (pc' := 52) (kX11_pressed_0 30 rfl) rfl rfl (fun c4 => ?_) (fun c4 => ?_)
    · have h := h.1 c4
      have g5 := h.1
      have h := h.2
      refine r_iinc (L' := [(2, 198), (0, x1), (0, x2), (0, x3), (0, x4), (0, (x5 + 1))]) (pc' := 90) (kX11_pressed_0 48 rfl) rfl (Nat.le_of_ble_eq_true rfl) rfl g5 rfl ?_
      refine r_goto (pc' := 32) (kX11_pressed_0 49 rfl) rfl ?_
      exact r_weak (L' := [(2, 198), (0, x1), (0, x2), (0, x3), (0, x4), (0, (x5 + 1))]) ⟨Or.inl rfl, Or.inl rfl, Or.inl rfl, Or.inl rfl, Or.inl rfl, Or.inl rfl, trivial⟩ (h Ln)
    · have h := h.2 c4
      refine r_iload (pc' := 54) (kX11_pressed_0 31 rfl) rfl rfl ?_
      refine r_iconst (-1) (pc' := 55) (kX11_pressed_0 32 rfl) rfl (by unfold inR; omega) ?_
      refine r_icmp_eq (t := 71) (pc' := 58) (kX11_pressed_0 33 rfl) rfl rfl (fun c6 => ?_) (fun c6 => ?_)
      · have h := h.1 c6
        refine r_aload_n (pc' := 72) (kX11_pressed_0 39 rfl) rfl rfl ?_
        refine r_iload (pc' := 74) (kX11_pressed_0 40 rfl) rfl rfl ?_
        refine r_iload_n (pc' := 75) (kX11_pressed_0 41 rfl) rfl rfl ?_
        refine r_iload_n (pc' := 76) (kX11_pressed_0 42 rfl) rfl rfl ?_
        refine r_iload_n (pc' := 77) (kX11_pressed_0 43 rfl) rfl rfl ?_
        refine s_callV (As := [(0, x5), (0, x1), (0, x2), (0, x3)]) (o := 198) (S := []) (S2 := fun z => [(0, z)]) (pc' := 80) (kX11_pressed_0 44 rfl) rfl rfl nkX11_isPressed mlX11_505 imX11_isPressed rfl slX11_isPressed rfl (Nat.le_of_ble_eq_true rfl) (Nat.le_of_ble_eq_true rfl) (kz198 Ln) h (fun z => rfl) (fun r7 φ7 α7 h => ?_)
        refine r_if_eq (t := 87) (pc' := 83) (kX11_pressed_0 45 rfl) rfl rfl (fun c8 => ?_) (fun c8 => ?_)
        · have h := h.1 c8
          have g9 := h.1
          have h := h.2
          refine r_iinc (L' := [(2, 198), (0, x1), (0, x2), (0, x3), (0, x4), (0, (x5 + 1))]) (pc' := 90) (kX11_pressed_0 48 rfl) rfl (Nat.le_of_ble_eq_true rfl) rfl g9 rfl ?_
          refine r_goto (pc' := 32) (kX11_pressed_0 49 rfl) rfl ?_
          exact r_weak (L' := [(2, 198), (0, x1), (0, x2), (0, x3), (0, x4), (0, (x5 + 1))]) ⟨Or.inl rfl, Or.inl rfl, Or.inl rfl, Or.inl rfl, Or.inl rfl, Or.inl rfl, trivial⟩ (h Ln)
        · have h := h.2 c8
          refine r_iload (pc' := 85) (kX11_pressed_0 46 rfl) rfl rfl ?_
          refine r_istore (L' := [(2, 198), (0, x1), (0, x2), (0, x3), (0, x5), (0, x5)]) (pc' := 87) (kX11_pressed_0 47 rfl) rfl (Nat.le_of_ble_eq_true rfl) rfl ?_
          have g10 := h.1
          have h := h.2
          refine r_iinc (L' := [(2, 198), (0, x1), (0, x2), (0, x3), (0, x5), (0, (x5 + 1))]) (pc' := 90) (kX11_pressed_0 48 rfl) rfl (Nat.le_of_ble_eq_true rfl) rfl g10 rfl ?_
          refine r_goto (pc' := 32) (kX11_pressed_0 49 rfl) rfl ?_
          exact r_weak (L' := [(2, 198), (0, x1), (0, x2), (0, x3), (0, x5), (0, (x5 + 1))]) ⟨Or.inl rfl, Or.inl rfl, Or.inl rfl, Or.inl rfl, Or.inl rfl, Or.inl rfl, trivial⟩ (h Ln)
      · have h := h.2 c6
        refine r_iload (pc' := 60) (kX11_pressed_0 34 rfl) rfl rfl ?_
        refine s_callS (As := [(0, x5)]) (S := []) (S2 := fun z => [(0, z)]) (pc' := 63) (kX11_pressed_0 35 rfl) rfl rfl nkX11_bits mlX11_496 scX11_bits rfl (Nat.le_of_ble_eq_true rfl) (Nat.le_of_ble_eq_true rfl) h (fun z => rfl) (fun r11 φ11 α11 h => ?_)
        refine r_iload (pc' := 65) (kX11_pressed_0 36 rfl) rfl rfl ?_
        refine s_callS (As := [(0, x4)]) (S := [(0, r11)]) (S2 := fun z => [(0, z), (0, r11)]) (pc' := 68) (kX11_pressed_0 37 rfl) rfl rfl nkX11_bits mlX11_496 scX11_bits rfl (Nat.le_of_ble_eq_true rfl) (Nat.le_of_ble_eq_true rfl) h (fun z => rfl) (fun r12 φ12 α12 h => ?_)
        refine r_icmp_ge (t := 87) (pc' := 71) (kX11_pressed_0 38 rfl) rfl rfl (fun c13 => ?_) (fun c13 => ?_)
        · have h := h.1 c13
          have g14 := h.1
          have h := h.2
          refine r_iinc (L' := [(2, 198), (0, x1), (0, x2), (0, x3), (0, x4), (0, (x5 + 1))]) (pc' := 90) (kX11_pressed_0 48 rfl) rfl (Nat.le_of_ble_eq_true rfl) rfl g14 rfl ?_
          refine r_goto (pc' := 32) (kX11_pressed_0 49 rfl) rfl ?_
          exact r_weak (L' := [(2, 198), (0, x1), (0, x2), (0, x3), (0, x4), (0, (x5 + 1))]) ⟨Or.inl rfl, Or.inl rfl, Or.inl rfl, Or.inl rfl, Or.inl rfl, Or.inl rfl, trivial⟩ (h Ln)
        · have h := h.2 c13
          refine r_aload_n (pc' := 72) (kX11_pressed_0 39 rfl) rfl rfl ?_
          refine r_iload (pc' := 74) (kX11_pressed_0 40 rfl) rfl rfl ?_
          refine r_iload_n (pc' := 75) (kX11_pressed_0 41 rfl) rfl rfl ?_
          refine r_iload_n (pc' := 76) (kX11_pressed_0 42 rfl) rfl rfl ?_
          refine r_iload_n (pc' := 77) (kX11_pressed_0 43 rfl) rfl rfl ?_
          refine s_callV (As := [(0, x5), (0, x1), (0, x2), (0, x3)]) (o := 198) (S := []) (S2 := fun z => [(0, z)]) (pc' := 80) (kX11_pressed_0 44 rfl) rfl rfl nkX11_isPressed mlX11_505 imX11_isPressed rfl slX11_isPressed rfl (Nat.le_of_ble_eq_true rfl) (Nat.le_of_ble_eq_true rfl) (kz198 Ln) h (fun z => rfl) (fun r15 φ15 α15 h => ?_)
          refine r_if_eq (t := 87) (pc' := 83) (kX11_pressed_0 45 rfl) rfl rfl (fun c16 => ?_) (fun c16 => ?_)
          · have h := h.1 c16
            have g17 := h.1
            have h := h.2
            refine r_iinc (L' := [(2, 198), (0, x1), (0, x2), (0, x3), (0, x4), (0, (x5 + 1))]) (pc' := 90) (kX11_pressed_0 48 rfl) rfl (Nat.le_of_ble_eq_true rfl) rfl g17 rfl ?_
            refine r_goto (pc' := 32) (kX11_pressed_0 49 rfl) rfl ?_
            exact r_weak (L' := [(2, 198), (0, x1), (0, x2), (0, x3), (0, x4), (0, (x5 + 1))]) ⟨Or.inl rfl, Or.inl rfl, Or.inl rfl, Or.inl rfl, Or.inl rfl, Or.inl rfl, trivial⟩ (h Ln)
          · have h := h.2 c16
            refine r_iload (pc' := 85) (kX11_pressed_0 46 rfl) rfl rfl ?_
            refine r_istore (L' := [(2, 198), (0, x1), (0, x2), (0, x3), (0, x5), (0, x5)]) (pc' := 87) (kX11_pressed_0 47 rfl) rfl (Nat.le_of_ble_eq_true rfl) rfl ?_
            have g18 := h.1
            have h := h.2
            refine r_iinc (L' := [(2, 198), (0, x1), (0, x2), (0, x3), (0, x5), (0, (x5 + 1))]) (pc' := 90) (kX11_pressed_0 48 rfl) rfl (Nat.le_of_ble_eq_true rfl) rfl g18 rfl ?_
            refine r_goto (pc' := 32) (kX11_pressed_0 49 rfl) rfl ?_
            exact r_weak (L' := [(2, 198), (0, x1), (0, x2), (0, x3), (0, x5), (0, (x5 + 1))]) ⟨Or.inl rfl, Or.inl rfl, Or.inl rfl, Or.inl rfl, Or.inl rfl, Or.inl rfl, trivial⟩ (h Ln)
abbrev jX11_mops_18 (d : Nat) (x1 x2 x3 : Int) (φ : aF) (α : aA) (Q : Int → aF → aA → Prop) : Prop := R0 d mX11_mops 18 [(2, 198), (0, x1), (0, x2), (0, x3), (9, 0), (9, 0)] [] φ α Q
theorem vX11_mops_0 {d : Nat} {φ : aF} {α : aA} {Q : Int → aF → aA → Prop} (h : ((¬ (φ 11 46 198) = 0 →
   (eX11_floorAll d  φ α (fun r2 φ2 α2 =>
     (jX11_mops_18 (d + 1) r2 (-1) 0 φ2 α2 Q)))) ∧
   ((φ 11 46 198) = 0 →
   (Q (-1) φ α)))) : eX11_mops (d + 1)  φ α Q := by
  intro Ln
  refine r_aload_n (pc' := 1) (kX11_mops_0 0 rfl) rfl rfl ?_
  refine s_get (x := (φ 11 46 198)) (pc' := 4) (kX11_mops_0 1 rfl) rfl fkX11_363 rfl rfl rfl (kz198 Ln) rfl ?_
  refine r_if_ne (t := 9) (pc' := 7) (kX11_mops_0 2 rfl) rfl rfl (fun c1 => ?_) (fun c1 => ?_)
  · have h := h.1 c1
    refine r_aload_n (pc' := 10) (kX11_mops_0 5 rfl) rfl rfl ?_
    refine s_callV (As := []) (o := 198) (S := []) (S2 := fun z => [(0, z)]) (pc' := 13) (kX11_mops_0 6 rfl) rfl rfl nkX11_floorAll mlX11_459 imX11_floorAll rfl slX11_floorAll rfl (Nat.le_of_ble_eq_true rfl) (Nat.le_of_ble_eq_true rfl) (kz198 Ln) h (fun z => rfl) (fun r2 φ2 α2 h => ?_)
    refine r_istore_n (L' := [(2, 198), (0, r2), (9, 0), (9, 0), (9, 0), (9, 0)]) (pc' := 14) (kX11_mops_0 7 rfl) rfl (Nat.le_of_ble_eq_true rfl) rfl ?_
    refine r_iconst (-1) (pc' := 15) (kX11_mops_0 8 rfl) rfl (by unfold inR; omega) ?_
    refine r_istore_n (L' := [(2, 198), (0, r2), (0, (-1)), (9, 0), (9, 0), (9, 0)]) (pc' := 16) (kX11_mops_0 9 rfl) rfl (Nat.le_of_ble_eq_true rfl) rfl ?_
    refine r_iconst 0 (pc' := 17) (kX11_mops_0 10 rfl) rfl (by unfold inR; omega) ?_
    refine r_istore_n (L' := [(2, 198), (0, r2), (0, (-1)), (0, 0), (9, 0), (9, 0)]) (pc' := 18) (kX11_mops_0 11 rfl) rfl (Nat.le_of_ble_eq_true rfl) rfl ?_
    exact r_weak (L' := [(2, 198), (0, r2), (0, (-1)), (0, 0), (9, 0), (9, 0)]) ⟨Or.inl rfl, Or.inl rfl, Or.inl rfl, Or.inl rfl, Or.inr (by decide), Or.inr (by decide), trivial⟩ (h Ln)
  · have h := h.2 c1
    refine r_iconst (-1) (pc' := 8) (kX11_mops_0 3 rfl) rfl (by unfold inR; omega) ?_
    exact s_iret (kX11_mops_0 4 rfl) rfl h
abbrev jX11_mops_53 (d : Nat) (x1 x2 x3 x4 x5 : Int) (φ : aF) (α : aA) (Q : Int → aF → aA → Prop) : Prop := R0 d mX11_mops 53 [(2, 198), (0, x1), (0, x2), (0, x3), (0, x4), (0, x5)] [] φ α Q
theorem vX11_mops_18 {d : Nat} {φ : aF} {α : aA} {Q : Int → aF → aA → Prop} {x1 : Int} {x2 : Int} {x3 : Int} (h : (eX11_clerkMany d  φ α (fun r1 φ1 α1 =>
   (((iShl 1 r1) ≤ x3 →
   (Q x2 φ1 α1)) ∧
   (¬ ((iShl 1 r1) ≤ x3) →
   ((x2 = (-1) →
     (jX11_mops_53 (d + 1) x1 x2 x3 0 0 φ1 α1 Q)) ∧
     (¬ (x2 = (-1)) →
     (eX11_bits d x3 φ1 α1 (fun r4 φ4 α4 =>
       (eX11_bits d x2 φ4 α4 (fun r5 φ5 α5 =>
       ((r4 < r5 →
       (jX11_mops_53 (d + 1) x1 x2 x3 0 0 φ5 α5 Q)) ∧
       (¬ (r4 < r5) →
       inR (x3 + 1) ∧ (jX11_mops_18 (d + 1) x1 x2 (x3 + 1) φ5 α5 Q)))))))))))))) : jX11_mops_18 (d + 1) x1 x2 x3 φ α Q := by
  intro Ln
  refine r_iload_n (pc' := 19) (kX11_mops_0 12 rfl) rfl rfl ?_
  refine r_iconst 1 (pc' := 20) (kX11_mops_0 13 rfl) rfl (by unfold inR; omega) ?_
  refine r_aload_n (pc' := 21) (kX11_mops_0 14 rfl) rfl rfl ?_
  refine s_callV (As := []) (o := 198) (S := [(0, 1), (0, x3)]) (S2 := fun z => [(0, z), (0, 1), (0, x3)]) (pc' := 24) (kX11_mops_0 15 rfl) rfl rfl nkX11_clerkMany mlX11_376 imX11_clerkMany rfl slX11_clerkMany rfl (Nat.le_of_ble_eq_true rfl) (Nat.le_of_ble_eq_true rfl) (kz198 Ln) h (fun z => rfl) (fun r1 φ1 α1 h => ?_)
  refine r_ishl (pc' := 25) (kX11_mops_0 16 rfl) rfl ?_
  refine r_icmp_ge (t := 103) (pc' := 28) (kX11_mops_0 17 rfl) rfl rfl (fun c2 => ?_) (fun c2 => ?_)
  · have h := h.1 c2
    refine r_iload_n (pc' := 104) (kX11_mops_0 57 rfl) rfl rfl ?_
    exact s_iret (kX11_mops_0 58 rfl) rfl h
  · have h := h.2 c2
    refine r_iload_n (pc' := 29) (kX11_mops_0 18 rfl) rfl rfl ?_
    refine r_iconst (-1) (pc' := 30) (kX11_mops_0 19 rfl) rfl (by unfold inR; omega) ?_
    refine r_icmp_eq (t := 47) (pc' := 33) (kX11_mops_0 20 rfl) rfl rfl (fun c3 => ?_) (fun c3 => ?_)
    · have h := h.1 c3
      refine r_iconst 0 (pc' := 48) (kX11_mops_0 27 rfl) rfl (by unfold inR; omega) ?_
      refine r_istore (L' := [(2, 198), (0, x1), (0, x2), (0, x3), (0, 0), (9, 0)]) (pc' := 50) (kX11_mops_0 28 rfl) rfl (Nat.le_of_ble_eq_true rfl) rfl ?_
      refine r_iconst 0 (pc' := 51) (kX11_mops_0 29 rfl) rfl (by unfold inR; omega) ?_
      refine r_istore (L' := [(2, 198), (0, x1), (0, x2), (0, x3), (0, 0), (0, 0)]) (pc' := 53) (kX11_mops_0 30 rfl) rfl (Nat.le_of_ble_eq_true rfl) rfl ?_
      exact r_weak (L' := [(2, 198), (0, x1), (0, x2), (0, x3), (0, 0), (0, 0)]) ⟨Or.inl rfl, Or.inl rfl, Or.inl rfl, Or.inl rfl, Or.inl rfl, Or.inl rfl, trivial⟩ (h Ln)
    · have h := h.2 c3
      refine r_iload_n (pc' := 34) (kX11_mops_0 21 rfl) rfl rfl ?_
      refine s_callS (As := [(0, x3)]) (S := []) (S2 := fun z => [(0, z)]) (pc' := 37) (kX11_mops_0 22 rfl) rfl rfl nkX11_bits mlX11_496 scX11_bits rfl (Nat.le_of_ble_eq_true rfl) (Nat.le_of_ble_eq_true rfl) h (fun z => rfl) (fun r4 φ4 α4 h => ?_)
      refine r_iload_n (pc' := 38) (kX11_mops_0 23 rfl) rfl rfl ?_
      refine s_callS (As := [(0, x2)]) (S := [(0, r4)]) (S2 := fun z => [(0, z), (0, r4)]) (pc' := 41) (kX11_mops_0 24 rfl) rfl rfl nkX11_bits mlX11_496 scX11_bits rfl (Nat.le_of_ble_eq_true rfl) (Nat.le_of_ble_eq_true rfl) h (fun z => rfl) (fun r5 φ5 α5 h => ?_)
      refine r_icmp_lt (t := 47) (pc' := 44) (kX11_mops_0 25 rfl) rfl rfl (fun c6 => ?_) (fun c6 => ?_)
      · have h := h.1 c6
        refine r_iconst 0 (pc' := 48) (kX11_mops_0 27 rfl) rfl (by unfold inR; omega) ?_
        refine r_istore (L' := [(2, 198), (0, x1), (0, x2), (0, x3), (0, 0), (9, 0)]) (pc' := 50) (kX11_mops_0 28 rfl) rfl (Nat.le_of_ble_eq_true rfl) rfl ?_
        refine r_iconst 0 (pc' := 51) (kX11_mops_0 29 rfl) rfl (by unfold inR; omega) ?_
        refine r_istore (L' := [(2, 198), (0, x1), (0, x2), (0, x3), (0, 0), (0, 0)]) (pc' := 53) (kX11_mops_0 30 rfl) rfl (Nat.le_of_ble_eq_true rfl) rfl ?_
        exact r_weak (L' := [(2, 198), (0, x1), (0, x2), (0, x3), (0, 0), (0, 0)]) ⟨Or.inl rfl, Or.inl rfl, Or.inl rfl, Or.inl rfl, Or.inl rfl, Or.inl rfl, trivial⟩ (h Ln)
      · have h := h.2 c6
        refine r_goto (pc' := 97) (kX11_mops_0 26 rfl) rfl ?_
        have g7 := h.1
        have h := h.2
        refine r_iinc (L' := [(2, 198), (0, x1), (0, x2), (0, (x3 + 1)), (9, 0), (9, 0)]) (pc' := 100) (kX11_mops_0 55 rfl) rfl (Nat.le_of_ble_eq_true rfl) rfl g7 rfl ?_
        refine r_goto (pc' := 18) (kX11_mops_0 56 rfl) rfl ?_
        exact r_weak (L' := [(2, 198), (0, x1), (0, x2), (0, (x3 + 1)), (9, 0), (9, 0)]) ⟨Or.inl rfl, Or.inl rfl, Or.inl rfl, Or.inl rfl, Or.inr (by decide), Or.inr (by decide), trivial⟩ (h Ln)
theorem vX11_mops_53 {d : Nat} {φ : aF} {α : aA} {Q : Int → aF → aA → Prop} {x1 : Int} {x2 : Int} {x3 : Int} {x4 : Int} {x5 : Int} (h : (eX11_clerkMany d  φ α (fun r1 φ1 α1 =>
   ((r1 ≤ x5 →
   ((x4 < x1 →
     inR (x3 + 1) ∧ (jX11_mops_18 (d + 1) x1 x2 (x3 + 1) φ1 α1 Q)) ∧
     (¬ (x4 < x1) →
     inR (x3 + 1) ∧ (jX11_mops_18 (d + 1) x1 x3 (x3 + 1) φ1 α1 Q)))) ∧
   (¬ (r1 ≤ x5) →
   ((¬ (iAnd (iShr x3 x5) 1) = 1 →
     inR (x5 + 1) ∧ (jX11_mops_53 (d + 1) x1 x2 x3 x4 (x5 + 1) φ1 α1 Q)) ∧
     ((iAnd (iShr x3 x5) 1) = 1 →
     (eX11_spaceOf d x5 φ1 α1 (fun r8 φ8 α8 =>
       inR (x4 + r8) ∧ inR (x5 + 1) ∧ (jX11_mops_53 (d + 1) x1 x2 x3 (x4 + r8) (x5 + 1) φ8 α8 Q)))))))))) : jX11_mops_53 (d + 1) x1 x2 x3 x4 x5 φ α Q := by
  intro Ln
  refine r_iload (pc' := 55) (kX11_mops_0 31 rfl) rfl rfl ?_
  refine r_aload_n (pc' := 56) (kX11_mops_0 32 rfl) rfl rfl ?_
  refine s_callV (As := []) (o := 198) (S := [(0, x5)]) (S2 := fun z => [(0, z), (0, x5)]) (pc' := 59) (kX11_mops_0 33 rfl) rfl rfl nkX11_clerkMany mlX11_376 imX11_clerkMany rfl slX11_clerkMany rfl (Nat.le_of_ble_eq_true rfl) (Nat.le_of_ble_eq_true rfl) (kz198 Ln) h (fun z => rfl) (fun r1 φ1 α1 h => ?_)
  refine r_icmp_ge (t := 89) (pc' := 62) (kX11_mops_0 34 rfl) rfl rfl (fun c2 => ?_) (fun c2 => ?_)
  · have h := h.1 c2
    refine r_iload (pc' := 91) (kX11_mops_0 50 rfl) rfl rfl ?_
    refine r_iload_n (pc' := 92) (kX11_mops_0 51 rfl) rfl rfl ?_
    refine r_icmp_lt (t := 97) (pc' := 95) (kX11_mops_0 52 rfl) rfl rfl (fun c3 => ?_) (fun c3 => ?_)
    · have h := h.1 c3
      have g4 := h.1
      have h := h.2
      refine r_iinc (L' := [(2, 198), (0, x1), (0, x2), (0, (x3 + 1)), (0, x4), (0, x5)]) (pc' := 100) (kX11_mops_0 55 rfl) rfl (Nat.le_of_ble_eq_true rfl) rfl g4 rfl ?_
      refine r_goto (pc' := 18) (kX11_mops_0 56 rfl) rfl ?_
      exact r_weak (L' := [(2, 198), (0, x1), (0, x2), (0, (x3 + 1)), (9, 0), (9, 0)]) ⟨Or.inl rfl, Or.inl rfl, Or.inl rfl, Or.inl rfl, Or.inr (by decide), Or.inr (by decide), trivial⟩ (h Ln)
    · have h := h.2 c3
      refine r_iload_n (pc' := 96) (kX11_mops_0 53 rfl) rfl rfl ?_
      refine r_istore_n (L' := [(2, 198), (0, x1), (0, x3), (0, x3), (0, x4), (0, x5)]) (pc' := 97) (kX11_mops_0 54 rfl) rfl (Nat.le_of_ble_eq_true rfl) rfl ?_
      have g5 := h.1
      have h := h.2
      refine r_iinc (L' := [(2, 198), (0, x1), (0, x3), (0, (x3 + 1)), (0, x4), (0, x5)]) (pc' := 100) (kX11_mops_0 55 rfl) rfl (Nat.le_of_ble_eq_true rfl) rfl g5 rfl ?_
      refine r_goto (pc' := 18) (kX11_mops_0 56 rfl) rfl ?_
      exact r_weak (L' := [(2, 198), (0, x1), (0, x3), (0, (x3 + 1)), (9, 0), (9, 0)]) ⟨Or.inl rfl, Or.inl rfl, Or.inl rfl, Or.inl rfl, Or.inr (by decide), Or.inr (by decide), trivial⟩ (h Ln)
  · have h := h.2 c2
    refine r_iload_n (pc' := 63) (kX11_mops_0 35 rfl) rfl rfl ?_
    refine r_iload (pc' := 65) (kX11_mops_0 36 rfl) rfl rfl ?_
    refine r_ishr (pc' := 66) (kX11_mops_0 37 rfl) rfl ?_
    refine r_iconst 1 (pc' := 67) (kX11_mops_0 38 rfl) rfl (by unfold inR; omega) ?_
    refine r_iand (pc' := 68) (kX11_mops_0 39 rfl) rfl ?_
    refine r_iconst 1 (pc' := 69) (kX11_mops_0 40 rfl) rfl (by unfold inR; omega) ?_
    refine r_icmp_ne (t := 83) (pc' := 72) (kX11_mops_0 41 rfl) rfl rfl (fun c6 => ?_) (fun c6 => ?_)
    · have h := h.1 c6
      have g7 := h.1
      have h := h.2
      refine r_iinc (L' := [(2, 198), (0, x1), (0, x2), (0, x3), (0, x4), (0, (x5 + 1))]) (pc' := 86) (kX11_mops_0 48 rfl) rfl (Nat.le_of_ble_eq_true rfl) rfl g7 rfl ?_
      refine r_goto (pc' := 53) (kX11_mops_0 49 rfl) rfl ?_
      exact r_weak (L' := [(2, 198), (0, x1), (0, x2), (0, x3), (0, x4), (0, (x5 + 1))]) ⟨Or.inl rfl, Or.inl rfl, Or.inl rfl, Or.inl rfl, Or.inl rfl, Or.inl rfl, trivial⟩ (h Ln)
    · have h := h.2 c6
      refine r_iload (pc' := 74) (kX11_mops_0 42 rfl) rfl rfl ?_
      refine r_aload_n (pc' := 75) (kX11_mops_0 43 rfl) rfl rfl ?_
      refine r_iload (pc' := 77) (kX11_mops_0 44 rfl) rfl rfl ?_
      refine s_callV (As := [(0, x5)]) (o := 198) (S := [(0, x4)]) (S2 := fun z => [(0, z), (0, x4)]) (pc' := 80) (kX11_mops_0 45 rfl) rfl rfl nkX11_spaceOf mlX11_415 imX11_spaceOf rfl slX11_spaceOf rfl (Nat.le_of_ble_eq_true rfl) (Nat.le_of_ble_eq_true rfl) (kz198 Ln) h (fun z => rfl) (fun r8 φ8 α8 h => ?_)
      have g9 := h.1
      have h := h.2
      refine r_iadd (pc' := 81) (kX11_mops_0 46 rfl) rfl g9 ?_
      refine r_istore (L' := [(2, 198), (0, x1), (0, x2), (0, x3), (0, (x4 + r8)), (0, x5)]) (pc' := 83) (kX11_mops_0 47 rfl) rfl (Nat.le_of_ble_eq_true rfl) rfl ?_
      have g10 := h.1
      have h := h.2
      refine r_iinc (L' := [(2, 198), (0, x1), (0, x2), (0, x3), (0, (x4 + r8)), (0, (x5 + 1))]) (pc' := 86) (kX11_mops_0 48 rfl) rfl (Nat.le_of_ble_eq_true rfl) rfl g10 rfl ?_
      refine r_goto (pc' := 53) (kX11_mops_0 49 rfl) rfl ?_
      exact r_weak (L' := [(2, 198), (0, x1), (0, x2), (0, x3), (0, (x4 + r8)), (0, (x5 + 1))]) ⟨Or.inl rfl, Or.inl rfl, Or.inl rfl, Or.inl rfl, Or.inl rfl, Or.inl rfl, trivial⟩ (h Ln)
abbrev jX11_canHave_17 (d : Nat) (x1 x2 x3 : Int) (φ : aF) (α : aA) (Q : Int → aF → aA → Prop) : Prop := R0 d mX11_canHave 17 [(2, 198), (0, x1), (0, x2), (0, x3)] [] φ α Q
theorem vX11_canHave_0 {d : Nat} {φ : aF} {α : aA} {Q : Int → aF → aA → Prop} {x1 : Int} {x2 : Int} (h : (eX11_roomOf d x2 φ α (fun r1 φ1 α1 =>
   (eX11_inClerks d x1 φ1 α1 (fun r2 φ2 α2 =>
   ((r2 ≤ r1 →
   (jX11_canHave_17 (d + 1) x1 x2 0 φ2 α2 Q)) ∧
   (¬ (r2 ≤ r1) →
   (Q 0 φ2 α2)))))))) : eX11_canHave (d + 1) x1 x2 φ α Q := by
  intro Ln
  refine r_aload_n (pc' := 1) (kX11_canHave_0 0 rfl) rfl rfl ?_
  refine r_iload_n (pc' := 2) (kX11_canHave_0 1 rfl) rfl rfl ?_
  refine s_callV (As := [(0, x2)]) (o := 198) (S := []) (S2 := fun z => [(0, z)]) (pc' := 5) (kX11_canHave_0 2 rfl) rfl rfl nkX11_roomOf mlX11_389 imX11_roomOf rfl slX11_roomOf rfl (Nat.le_of_ble_eq_true rfl) (Nat.le_of_ble_eq_true rfl) (kz198 Ln) h (fun z => rfl) (fun r1 φ1 α1 h => ?_)
  refine r_aload_n (pc' := 6) (kX11_canHave_0 3 rfl) rfl rfl ?_
  refine r_iload_n (pc' := 7) (kX11_canHave_0 4 rfl) rfl rfl ?_
  refine s_callV (As := [(0, x1)]) (o := 198) (S := [(0, r1)]) (S2 := fun z => [(0, z), (0, r1)]) (pc' := 10) (kX11_canHave_0 5 rfl) rfl rfl nkX11_inClerks mlX11_474 imX11_inClerks rfl slX11_inClerks rfl (Nat.le_of_ble_eq_true rfl) (Nat.le_of_ble_eq_true rfl) (kz198 Ln) h (fun z => rfl) (fun r2 φ2 α2 h => ?_)
  refine r_icmp_ge (t := 15) (pc' := 13) (kX11_canHave_0 6 rfl) rfl rfl (fun c3 => ?_) (fun c3 => ?_)
  · have h := h.1 c3
    refine r_iconst 0 (pc' := 16) (kX11_canHave_0 9 rfl) rfl (by unfold inR; omega) ?_
    refine r_istore_n (L' := [(2, 198), (0, x1), (0, x2), (0, 0)]) (pc' := 17) (kX11_canHave_0 10 rfl) rfl (Nat.le_of_ble_eq_true rfl) rfl ?_
    exact r_weak (L' := [(2, 198), (0, x1), (0, x2), (0, 0)]) ⟨Or.inl rfl, Or.inl rfl, Or.inl rfl, Or.inl rfl, trivial⟩ (h Ln)
  · have h := h.2 c3
    refine r_iconst 0 (pc' := 14) (kX11_canHave_0 7 rfl) rfl (by unfold inR; omega) ?_
    exact s_zret (kX11_canHave_0 8 rfl) rfl (Or.inl rfl) h
theorem vX11_canHave_17 {d : Nat} {φ : aF} {α : aA} {Q : Int → aF → aA → Prop} {x1 : Int} {x2 : Int} {x3 : Int} (h : ((x1 ≤ x3 →
   (Q 1 φ α)) ∧
   (¬ (x1 ≤ x3) →
   (0 ≤ x3 ∧ x3 < (4 : Nat)) ∧ ((¬ (α 235 x3) = x2 →
     inR (x3 + 1) ∧ (jX11_canHave_17 (d + 1) x1 x2 (x3 + 1) φ α Q)) ∧
     ((α 235 x3) = x2 →
     (Q 0 φ α)))))) : jX11_canHave_17 (d + 1) x1 x2 x3 φ α Q := by
  intro Ln
  refine r_iload_n (pc' := 18) (kX11_canHave_0 11 rfl) rfl rfl ?_
  refine r_iload_n (pc' := 19) (kX11_canHave_0 12 rfl) rfl rfl ?_
  refine r_icmp_ge (t := 40) (pc' := 22) (kX11_canHave_0 13 rfl) rfl rfl (fun c1 => ?_) (fun c1 => ?_)
  · have h := h.1 c1
    refine r_iconst 1 (pc' := 41) (kX11_canHave_0 24 rfl) rfl (by unfold inR; omega) ?_
    exact s_zret (kX11_canHave_0 25 rfl) rfl (Or.inr rfl) h
  · have h := h.2 c1
    refine r_aload_n (pc' := 23) (kX11_canHave_0 14 rfl) rfl rfl ?_
    refine s_getr (v := 235) (pc' := 26) (kX11_canHave_0 15 rfl) rfl fkX11_124 rfl rfl (kz198 Ln) rfl (by decide) ?_
    refine r_iload_n (pc' := 27) (kX11_canHave_0 16 rfl) rfl rfl ?_
    have g2 := h.1
    have h := h.2
    refine s_iald (x := (α 235 x3)) (pc' := 28) (kX11_canHave_0 17 rfl) rfl (kz235 Ln) g2 rfl ?_
    refine r_iload_n (pc' := 29) (kX11_canHave_0 18 rfl) rfl rfl ?_
    refine r_icmp_ne (t := 34) (pc' := 32) (kX11_canHave_0 19 rfl) rfl rfl (fun c3 => ?_) (fun c3 => ?_)
    · have h := h.1 c3
      have g4 := h.1
      have h := h.2
      refine r_iinc (L' := [(2, 198), (0, x1), (0, x2), (0, (x3 + 1))]) (pc' := 37) (kX11_canHave_0 22 rfl) rfl (Nat.le_of_ble_eq_true rfl) rfl g4 rfl ?_
      refine r_goto (pc' := 17) (kX11_canHave_0 23 rfl) rfl ?_
      exact r_weak (L' := [(2, 198), (0, x1), (0, x2), (0, (x3 + 1))]) ⟨Or.inl rfl, Or.inl rfl, Or.inl rfl, Or.inl rfl, trivial⟩ (h Ln)
    · have h := h.2 c3
      refine r_iconst 0 (pc' := 33) (kX11_canHave_0 20 rfl) rfl (by unfold inR; omega) ?_
      exact s_zret (kX11_canHave_0 21 rfl) rfl (Or.inl rfl) h
abbrev jX11_isRow_9 (d : Nat) (x1 : Int) (φ : aF) (α : aA) (Q : Int → aF → aA → Prop) : Prop := R0 d mX11_isRow 9 [(2, 198), (0, x1)] [] φ α Q
theorem vX11_isRow_0 {d : Nat} {φ : aF} {α : aA} {Q : Int → aF → aA → Prop} (h : (jX11_isRow_9 (d + 1) 0 φ (upa α 235 0 (-1)) Q)) : eX11_isRow (d + 1)  φ α Q := by
  intro Ln
  refine r_iconst 0 (pc' := 1) (kX11_isRow_0 0 rfl) rfl (by unfold inR; omega) ?_
  refine r_istore_n (L' := [(2, 198), (0, 0)]) (pc' := 2) (kX11_isRow_0 1 rfl) rfl (Nat.le_of_ble_eq_true rfl) rfl ?_
  refine r_aload_n (pc' := 3) (kX11_isRow_0 2 rfl) rfl rfl ?_
  refine s_getr (v := 235) (pc' := 6) (kX11_isRow_0 3 rfl) rfl fkX11_124 rfl rfl (kz198 Ln) rfl (by decide) ?_
  refine r_iconst 0 (pc' := 7) (kX11_isRow_0 4 rfl) rfl (by unfold inR; omega) ?_
  refine r_iconst (-1) (pc' := 8) (kX11_isRow_0 5 rfl) rfl (by unfold inR; omega) ?_
  refine s_iast (pc' := 9) (kX11_isRow_0 6 rfl) rfl (kz235 Ln) ⟨by decide, by decide⟩ ?_
  exact r_weak (L' := [(2, 198), (0, 0)]) ⟨Or.inl rfl, Or.inl rfl, trivial⟩ (h Ln)
abbrev jX11_isRow_33 (d : Nat) (x1 : Int) (φ : aF) (α : aA) (Q : Int → aF → aA → Prop) : Prop := R0 d mX11_isRow 33 [(2, 198), (0, x1)] [] φ α Q
theorem vX11_isRow_9 {d : Nat} {φ : aF} {α : aA} {Q : Int → aF → aA → Prop} {x1 : Int} (h : ((x1 < 0 →
   (Q 0 φ α)) ∧
   (¬ (x1 < 0) →
   (eX11_matterMany d  φ α (fun r2 φ2 α2 =>
     ((¬ x1 = r2 →
     (0 ≤ x1 ∧ x1 < (4 : Nat)) ∧ inR ((α2 235 x1) + 1) ∧ (jX11_isRow_33 (d + 1) x1 φ2 (upa α2 235 x1 ((α2 235 x1) + 1)) Q)) ∧
     (x1 = r2 →
     (Q 1 φ2 α2)))))))) : jX11_isRow_9 (d + 1) x1 φ α Q := by
  intro Ln
  refine r_iload_n (pc' := 10) (kX11_isRow_0 7 rfl) rfl rfl ?_
  refine r_if_lt (t := 110) (pc' := 13) (kX11_isRow_0 8 rfl) rfl rfl (fun c1 => ?_) (fun c1 => ?_)
  · have h := h.1 c1
    refine r_iconst 0 (pc' := 111) (kX11_isRow_1 6 rfl) rfl (by unfold inR; omega) ?_
    exact s_zret (kX11_isRow_1 7 rfl) rfl (Or.inl rfl) h
  · have h := h.2 c1
    refine r_iload_n (pc' := 14) (kX11_isRow_0 9 rfl) rfl rfl ?_
    refine r_aload_n (pc' := 15) (kX11_isRow_0 10 rfl) rfl rfl ?_
    refine s_callV (As := []) (o := 198) (S := [(0, x1)]) (S2 := fun z => [(0, z), (0, x1)]) (pc' := 18) (kX11_isRow_0 11 rfl) rfl rfl nkX11_matterMany mlX11_373 imX11_matterMany rfl slX11_matterMany rfl (Nat.le_of_ble_eq_true rfl) (Nat.le_of_ble_eq_true rfl) (kz198 Ln) h (fun z => rfl) (fun r2 φ2 α2 h => ?_)
    refine r_icmp_ne (t := 23) (pc' := 21) (kX11_isRow_0 12 rfl) rfl rfl (fun c3 => ?_) (fun c3 => ?_)
    · have h := h.1 c3
      refine r_aload_n (pc' := 24) (kX11_isRow_0 15 rfl) rfl rfl ?_
      refine s_getr (v := 235) (pc' := 27) (kX11_isRow_0 16 rfl) rfl fkX11_124 rfl rfl (kz198 Ln) rfl (by decide) ?_
      refine r_iload_n (pc' := 28) (kX11_isRow_0 17 rfl) rfl rfl ?_
      refine r_dup2 (pc' := 29) (kX11_isRow_0 18 rfl) rfl rfl rfl ?_
      have g4 := h.1
      have h := h.2
      refine s_iald (x := (α2 235 x1)) (pc' := 30) (kX11_isRow_0 19 rfl) rfl (kz235 Ln) g4 rfl ?_
      refine r_iconst 1 (pc' := 31) (kX11_isRow_0 20 rfl) rfl (by unfold inR; omega) ?_
      have g5 := h.1
      have h := h.2
      refine r_iadd (pc' := 32) (kX11_isRow_0 21 rfl) rfl g5 ?_
      refine s_iast (pc' := 33) (kX11_isRow_0 22 rfl) rfl (kz235 Ln) g4 ?_
      exact r_weak (L' := [(2, 198), (0, x1)]) ⟨Or.inl rfl, Or.inl rfl, trivial⟩ (h Ln)
    · have h := h.2 c3
      refine r_iconst 1 (pc' := 22) (kX11_isRow_0 13 rfl) rfl (by unfold inR; omega) ?_
      exact s_zret (kX11_isRow_0 14 rfl) rfl (Or.inr rfl) h
theorem vX11_isRow_33 {d : Nat} {φ : aF} {α : aA} {Q : Int → aF → aA → Prop} {x1 : Int} (h : (0 ≤ x1 ∧ x1 < (4 : Nat)) ∧ (eX11_clerkMany d  φ α (fun r2 φ2 α2 =>
   ((r2 ≤ (α 235 x1) →
   (eX11_clerkMany d  φ2 α2 (fun r4 φ4 α4 =>
     (((α2 235 x1) < r4 →
     inR (x1 + 1) ∧ ((4 ≤ (x1 + 1) →
       (jX11_isRow_9 (d + 1) (x1 + 1) φ4 α4 Q)) ∧
       (¬ (4 ≤ (x1 + 1)) →
       (0 ≤ (x1 + 1) ∧ (x1 + 1) < (4 : Nat)) ∧ (jX11_isRow_9 (d + 1) (x1 + 1) φ4 (upa α4 235 (x1 + 1) (-1)) Q)))) ∧
     (¬ ((α2 235 x1) < r4) →
     inR (x1 + (-1)) ∧ (jX11_isRow_9 (d + 1) (x1 + (-1)) φ4 α4 Q)))))) ∧
   (¬ (r2 ≤ (α 235 x1)) →
   (eX11_canHave d x1 (α2 235 x1) φ2 α2 (fun r10 φ10 α10 =>
     ((¬ r10 = 0 →
     (eX11_clerkMany d  φ10 α10 (fun r12 φ12 α12 =>
       (((α10 235 x1) < r12 →
       inR (x1 + 1) ∧ ((4 ≤ (x1 + 1) →
         (jX11_isRow_9 (d + 1) (x1 + 1) φ12 α12 Q)) ∧
         (¬ (4 ≤ (x1 + 1)) →
         (0 ≤ (x1 + 1) ∧ (x1 + 1) < (4 : Nat)) ∧ (jX11_isRow_9 (d + 1) (x1 + 1) φ12 (upa α12 235 (x1 + 1) (-1)) Q)))) ∧
       (¬ ((α10 235 x1) < r12) →
       inR (x1 + (-1)) ∧ (jX11_isRow_9 (d + 1) (x1 + (-1)) φ12 α12 Q)))))) ∧
     (r10 = 0 →
     inR ((α10 235 x1) + 1) ∧ (jX11_isRow_33 (d + 1) x1 φ10 (upa α10 235 x1 ((α10 235 x1) + 1)) Q)))))))))) : jX11_isRow_33 (d + 1) x1 φ α Q := by
  intro Ln
  refine r_aload_n (pc' := 34) (kX11_isRow_0 23 rfl) rfl rfl ?_
  refine s_getr (v := 235) (pc' := 37) (kX11_isRow_0 24 rfl) rfl fkX11_124 rfl rfl (kz198 Ln) rfl (by decide) ?_
  refine r_iload_n (pc' := 38) (kX11_isRow_0 25 rfl) rfl rfl ?_
  have g1 := h.1
  have h := h.2
  refine s_iald (x := (α 235 x1)) (pc' := 39) (kX11_isRow_0 26 rfl) rfl (kz235 Ln) g1 rfl ?_
  refine r_aload_n (pc' := 40) (kX11_isRow_0 27 rfl) rfl rfl ?_
  refine s_callV (As := []) (o := 198) (S := [(0, (α 235 x1))]) (S2 := fun z => [(0, z), (0, (α 235 x1))]) (pc' := 43) (kX11_isRow_0 28 rfl) rfl rfl nkX11_clerkMany mlX11_376 imX11_clerkMany rfl slX11_clerkMany rfl (Nat.le_of_ble_eq_true rfl) (Nat.le_of_ble_eq_true rfl) (kz198 Ln) h (fun z => rfl) (fun r2 φ2 α2 h => ?_)
  refine r_icmp_ge (t := 73) (pc' := 46) (kX11_isRow_0 29 rfl) rfl rfl (fun c3 => ?_) (fun c3 => ?_)
  · have h := h.1 c3
    refine r_aload_n (pc' := 74) (kX11_isRow_0 47 rfl) rfl rfl ?_
    refine s_getr (v := 235) (pc' := 77) (kX11_isRow_0 48 rfl) rfl fkX11_124 rfl rfl (kz198 Ln) rfl (by decide) ?_
    refine r_iload_n (pc' := 78) (kX11_isRow_0 49 rfl) rfl rfl ?_
    refine s_iald (x := (α2 235 x1)) (pc' := 79) (kX11_isRow_0 50 rfl) rfl (kz235 Ln) g1 rfl ?_
    refine r_aload_n (pc' := 80) (kX11_isRow_0 51 rfl) rfl rfl ?_
    refine s_callV (As := []) (o := 198) (S := [(0, (α2 235 x1))]) (S2 := fun z => [(0, z), (0, (α2 235 x1))]) (pc' := 83) (kX11_isRow_0 52 rfl) rfl rfl nkX11_clerkMany mlX11_376 imX11_clerkMany rfl slX11_clerkMany rfl (Nat.le_of_ble_eq_true rfl) (Nat.le_of_ble_eq_true rfl) (kz198 Ln) h (fun z => rfl) (fun r4 φ4 α4 h => ?_)
    refine r_icmp_lt (t := 92) (pc' := 86) (kX11_isRow_0 53 rfl) rfl rfl (fun c5 => ?_) (fun c5 => ?_)
    · have h := h.1 c5
      have g6 := h.1
      have h := h.2
      refine r_iinc (L' := [(2, 198), (0, (x1 + 1))]) (pc' := 95) (kX11_isRow_0 56 rfl) rfl (Nat.le_of_ble_eq_true rfl) rfl g6 rfl ?_
      refine r_iload_n (pc' := 96) (kX11_isRow_0 57 rfl) rfl rfl ?_
      refine r_iconst 4 (pc' := 97) (kX11_isRow_0 58 rfl) rfl (by unfold inR; omega) ?_
      refine r_icmp_ge (t := 9) (pc' := 100) (kX11_isRow_0 59 rfl) rfl rfl (fun c7 => ?_) (fun c7 => ?_)
      · have h := h.1 c7
        exact r_weak (L' := [(2, 198), (0, (x1 + 1))]) ⟨Or.inl rfl, Or.inl rfl, trivial⟩ (h Ln)
      · have h := h.2 c7
        refine r_aload_n (pc' := 101) (kX11_isRow_1 0 rfl) rfl rfl ?_
        refine s_getr (v := 235) (pc' := 104) (kX11_isRow_1 1 rfl) rfl fkX11_124 rfl rfl (kz198 Ln) rfl (by decide) ?_
        refine r_iload_n (pc' := 105) (kX11_isRow_1 2 rfl) rfl rfl ?_
        refine r_iconst (-1) (pc' := 106) (kX11_isRow_1 3 rfl) rfl (by unfold inR; omega) ?_
        have g8 := h.1
        have h := h.2
        refine s_iast (pc' := 107) (kX11_isRow_1 4 rfl) rfl (kz235 Ln) g8 ?_
        refine r_goto (pc' := 9) (kX11_isRow_1 5 rfl) rfl ?_
        exact r_weak (L' := [(2, 198), (0, (x1 + 1))]) ⟨Or.inl rfl, Or.inl rfl, trivial⟩ (h Ln)
    · have h := h.2 c5
      have g9 := h.1
      have h := h.2
      refine r_iinc (L' := [(2, 198), (0, (x1 + (-1)))]) (pc' := 89) (kX11_isRow_0 54 rfl) rfl (Nat.le_of_ble_eq_true rfl) rfl g9 rfl ?_
      refine r_goto (pc' := 9) (kX11_isRow_0 55 rfl) rfl ?_
      exact r_weak (L' := [(2, 198), (0, (x1 + (-1)))]) ⟨Or.inl rfl, Or.inl rfl, trivial⟩ (h Ln)
  · have h := h.2 c3
    refine r_aload_n (pc' := 47) (kX11_isRow_0 30 rfl) rfl rfl ?_
    refine r_iload_n (pc' := 48) (kX11_isRow_0 31 rfl) rfl rfl ?_
    refine r_aload_n (pc' := 49) (kX11_isRow_0 32 rfl) rfl rfl ?_
    refine s_getr (v := 235) (pc' := 52) (kX11_isRow_0 33 rfl) rfl fkX11_124 rfl rfl (kz198 Ln) rfl (by decide) ?_
    refine r_iload_n (pc' := 53) (kX11_isRow_0 34 rfl) rfl rfl ?_
    refine s_iald (x := (α2 235 x1)) (pc' := 54) (kX11_isRow_0 35 rfl) rfl (kz235 Ln) g1 rfl ?_
    refine s_callV (As := [(0, x1), (0, (α2 235 x1))]) (o := 198) (S := []) (S2 := fun z => [(0, z)]) (pc' := 57) (kX11_isRow_0 36 rfl) rfl rfl nkX11_canHave mlX11_509 imX11_canHave rfl slX11_canHave rfl (Nat.le_of_ble_eq_true rfl) (Nat.le_of_ble_eq_true rfl) (kz198 Ln) h (fun z => rfl) (fun r10 φ10 α10 h => ?_)
    refine r_if_ne (t := 73) (pc' := 60) (kX11_isRow_0 37 rfl) rfl rfl (fun c11 => ?_) (fun c11 => ?_)
    · have h := h.1 c11
      refine r_aload_n (pc' := 74) (kX11_isRow_0 47 rfl) rfl rfl ?_
      refine s_getr (v := 235) (pc' := 77) (kX11_isRow_0 48 rfl) rfl fkX11_124 rfl rfl (kz198 Ln) rfl (by decide) ?_
      refine r_iload_n (pc' := 78) (kX11_isRow_0 49 rfl) rfl rfl ?_
      refine s_iald (x := (α10 235 x1)) (pc' := 79) (kX11_isRow_0 50 rfl) rfl (kz235 Ln) g1 rfl ?_
      refine r_aload_n (pc' := 80) (kX11_isRow_0 51 rfl) rfl rfl ?_
      refine s_callV (As := []) (o := 198) (S := [(0, (α10 235 x1))]) (S2 := fun z => [(0, z), (0, (α10 235 x1))]) (pc' := 83) (kX11_isRow_0 52 rfl) rfl rfl nkX11_clerkMany mlX11_376 imX11_clerkMany rfl slX11_clerkMany rfl (Nat.le_of_ble_eq_true rfl) (Nat.le_of_ble_eq_true rfl) (kz198 Ln) h (fun z => rfl) (fun r12 φ12 α12 h => ?_)
      refine r_icmp_lt (t := 92) (pc' := 86) (kX11_isRow_0 53 rfl) rfl rfl (fun c13 => ?_) (fun c13 => ?_)
      · have h := h.1 c13
        have g14 := h.1
        have h := h.2
        refine r_iinc (L' := [(2, 198), (0, (x1 + 1))]) (pc' := 95) (kX11_isRow_0 56 rfl) rfl (Nat.le_of_ble_eq_true rfl) rfl g14 rfl ?_
        refine r_iload_n (pc' := 96) (kX11_isRow_0 57 rfl) rfl rfl ?_
        refine r_iconst 4 (pc' := 97) (kX11_isRow_0 58 rfl) rfl (by unfold inR; omega) ?_
        refine r_icmp_ge (t := 9) (pc' := 100) (kX11_isRow_0 59 rfl) rfl rfl (fun c15 => ?_) (fun c15 => ?_)
        · have h := h.1 c15
          exact r_weak (L' := [(2, 198), (0, (x1 + 1))]) ⟨Or.inl rfl, Or.inl rfl, trivial⟩ (h Ln)
        · have h := h.2 c15
          refine r_aload_n (pc' := 101) (kX11_isRow_1 0 rfl) rfl rfl ?_
          refine s_getr (v := 235) (pc' := 104) (kX11_isRow_1 1 rfl) rfl fkX11_124 rfl rfl (kz198 Ln) rfl (by decide) ?_
          refine r_iload_n (pc' := 105) (kX11_isRow_1 2 rfl) rfl rfl ?_
          refine r_iconst (-1) (pc' := 106) (kX11_isRow_1 3 rfl) rfl (by unfold inR; omega) ?_
          have g16 := h.1
          have h := h.2
          refine s_iast (pc' := 107) (kX11_isRow_1 4 rfl) rfl (kz235 Ln) g16 ?_
          refine r_goto (pc' := 9) (kX11_isRow_1 5 rfl) rfl ?_
          exact r_weak (L' := [(2, 198), (0, (x1 + 1))]) ⟨Or.inl rfl, Or.inl rfl, trivial⟩ (h Ln)
      · have h := h.2 c13
        have g17 := h.1
        have h := h.2
        refine r_iinc (L' := [(2, 198), (0, (x1 + (-1)))]) (pc' := 89) (kX11_isRow_0 54 rfl) rfl (Nat.le_of_ble_eq_true rfl) rfl g17 rfl ?_
        refine r_goto (pc' := 9) (kX11_isRow_0 55 rfl) rfl ?_
        exact r_weak (L' := [(2, 198), (0, (x1 + (-1)))]) ⟨Or.inl rfl, Or.inl rfl, trivial⟩ (h Ln)
    · have h := h.2 c11
      refine r_aload_n (pc' := 61) (kX11_isRow_0 38 rfl) rfl rfl ?_
      refine s_getr (v := 235) (pc' := 64) (kX11_isRow_0 39 rfl) rfl fkX11_124 rfl rfl (kz198 Ln) rfl (by decide) ?_
      refine r_iload_n (pc' := 65) (kX11_isRow_0 40 rfl) rfl rfl ?_
      refine r_dup2 (pc' := 66) (kX11_isRow_0 41 rfl) rfl rfl rfl ?_
      refine s_iald (x := (α10 235 x1)) (pc' := 67) (kX11_isRow_0 42 rfl) rfl (kz235 Ln) g1 rfl ?_
      refine r_iconst 1 (pc' := 68) (kX11_isRow_0 43 rfl) rfl (by unfold inR; omega) ?_
      have g18 := h.1
      have h := h.2
      refine r_iadd (pc' := 69) (kX11_isRow_0 44 rfl) rfl g18 ?_
      refine s_iast (pc' := 70) (kX11_isRow_0 45 rfl) rfl (kz235 Ln) g1 ?_
      refine r_goto (pc' := 33) (kX11_isRow_0 46 rfl) rfl ?_
      exact r_weak (L' := [(2, 198), (0, x1)]) ⟨Or.inl rfl, Or.inl rfl, trivial⟩ (h Ln)
theorem vX11_desks_0 {d : Nat} {φ : aF} {α : aA} {Q : Int → aF → aA → Prop} {x1 : Int} (h : (eX11_isMatter d x1 φ α (fun r1 φ1 α1 =>
   ((r1 = 0 →
   (Q (-1) φ1 α1)) ∧
   (¬ (r1 = 0) →
   (eX11_isRow d  φ1 α1 (fun r3 φ3 α3 =>
     ((r3 = 0 →
     (Q (-1) φ3 α3)) ∧
     (¬ (r3 = 0) →
     (0 ≤ x1 ∧ x1 < (4 : Nat)) ∧ (Q (α3 235 x1) φ3 α3)))))))))) : eX11_desks (d + 1) x1 φ α Q := by
  intro Ln
  refine r_aload_n (pc' := 1) (kX11_desks_0 0 rfl) rfl rfl ?_
  refine r_iload_n (pc' := 2) (kX11_desks_0 1 rfl) rfl rfl ?_
  refine r_i2l (pc' := 3) (kX11_desks_0 2 rfl) rfl ?_
  refine s_callV (As := [(1, x1)]) (o := 198) (S := []) (S2 := fun z => [(0, z)]) (pc' := 6) (kX11_desks_0 3 rfl) rfl rfl nkX11_isMatter mlX11_383 imX11_isMatter rfl slX11_isMatter rfl (Nat.le_of_ble_eq_true rfl) (Nat.le_of_ble_eq_true rfl) (kz198 Ln) h (fun z => rfl) (fun r1 φ1 α1 h => ?_)
  refine r_if_eq (t := 25) (pc' := 9) (kX11_desks_0 4 rfl) rfl rfl (fun c2 => ?_) (fun c2 => ?_)
  · have h := h.1 c2
    refine r_iconst (-1) (pc' := 26) (kX11_desks_0 13 rfl) rfl (by unfold inR; omega) ?_
    exact s_iret (kX11_desks_0 14 rfl) rfl h
  · have h := h.2 c2
    refine r_aload_n (pc' := 10) (kX11_desks_0 5 rfl) rfl rfl ?_
    refine s_callV (As := []) (o := 198) (S := []) (S2 := fun z => [(0, z)]) (pc' := 13) (kX11_desks_0 6 rfl) rfl rfl nkX11_isRow mlX11_512 imX11_isRow rfl slX11_isRow rfl (Nat.le_of_ble_eq_true rfl) (Nat.le_of_ble_eq_true rfl) (kz198 Ln) h (fun z => rfl) (fun r3 φ3 α3 h => ?_)
    refine r_if_eq (t := 25) (pc' := 16) (kX11_desks_0 7 rfl) rfl rfl (fun c4 => ?_) (fun c4 => ?_)
    · have h := h.1 c4
      refine r_iconst (-1) (pc' := 26) (kX11_desks_0 13 rfl) rfl (by unfold inR; omega) ?_
      exact s_iret (kX11_desks_0 14 rfl) rfl h
    · have h := h.2 c4
      refine r_aload_n (pc' := 17) (kX11_desks_0 8 rfl) rfl rfl ?_
      refine s_getr (v := 235) (pc' := 20) (kX11_desks_0 9 rfl) rfl fkX11_124 rfl rfl (kz198 Ln) rfl (by decide) ?_
      refine r_iload_n (pc' := 21) (kX11_desks_0 10 rfl) rfl rfl ?_
      have g5 := h.1
      have h := h.2
      refine s_iald (x := (α3 235 x1)) (pc' := 22) (kX11_desks_0 11 rfl) rfl (kz235 Ln) g5 rfl ?_
      refine r_goto (pc' := 26) (kX11_desks_0 12 rfl) rfl ?_
      exact s_iret (kX11_desks_0 14 rfl) rfl h
theorem vX11_refuses_0 {d : Nat} {φ : aF} {α : aA} {Q : Int → aF → aA → Prop} {x1 : Int} (h : (0 ≤ x1 ∧ x1 < (6 : Nat)) ∧ inR ((α 200 x1) + 1) ∧ (Q (-1) φ (upa α 200 x1 ((α 200 x1) + 1)))) : eX11_refuses d x1 φ α Q := by
  intro Ln
  refine r_aload_n (pc' := 1) (kX11_refuses_0 0 rfl) rfl rfl ?_
  refine s_getr (v := 200) (pc' := 4) (kX11_refuses_0 1 rfl) rfl fkX11_17 rfl rfl (kz198 Ln) rfl (by decide) ?_
  refine r_iload_n (pc' := 5) (kX11_refuses_0 2 rfl) rfl rfl ?_
  refine r_dup2 (pc' := 6) (kX11_refuses_0 3 rfl) rfl rfl rfl ?_
  have g1 := h.1
  have h := h.2
  refine s_iald (x := (α 200 x1)) (pc' := 7) (kX11_refuses_0 4 rfl) rfl (kz200 Ln) g1 rfl ?_
  refine r_iconst 1 (pc' := 8) (kX11_refuses_0 5 rfl) rfl (by unfold inR; omega) ?_
  have g2 := h.1
  have h := h.2
  refine r_iadd (pc' := 9) (kX11_refuses_0 6 rfl) rfl g2 ?_
  refine s_iast (pc' := 10) (kX11_refuses_0 7 rfl) rfl (kz200 Ln) g1 ?_
  refine r_iconst (-1) (pc' := 11) (kX11_refuses_0 8 rfl) rfl (by unfold inR; omega) ?_
  exact s_iret (kX11_refuses_0 9 rfl) rfl h
abbrev jX11_see_43 (d : Nat) (x1 x2 x3 : Int) (φ : aF) (α : aA) (Q : Int → aF → aA → Prop) : Prop := R0 d mX11_see 43 [(2, 198), (0, x1), (0, x2), (0, x3)] [] φ α Q
theorem vX11_see_0 {d : Nat} {φ : aF} {α : aA} {Q : Int → aF → aA → Prop} (h : (((φ 11 46 198) = 0 →
   (jX11_see_43 (d + 1) (φ 11 1 198) 0 0 (upf φ 11 1 198 0) α Q)) ∧
   (¬ ((φ 11 46 198) = 0) →
   (((φ 11 1 198) ≤ 0 →
     (jX11_see_43 (d + 1) (φ 11 1 198) 0 0 (upf φ 11 1 198 0) α Q)) ∧
     (¬ ((φ 11 1 198) ≤ 0) →
     inR (Int.tmod (φ 11 1 198) 4) ∧ ((¬ (Int.tmod (φ 11 1 198) 4) = 0 →
       (jX11_see_43 (d + 1) (φ 11 1 198) 0 0 (upf φ 11 1 198 0) α Q)) ∧
       ((Int.tmod (φ 11 1 198) 4) = 0 →
       inR (Int.tdiv (φ 11 1 198) 4) ∧ ((16 < (Int.tdiv (φ 11 1 198) 4) →
         (jX11_see_43 (d + 1) (φ 11 1 198) 0 0 (upf φ 11 1 198 0) α Q)) ∧
         (¬ (16 < (Int.tdiv (φ 11 1 198) 4)) →
         (jX11_see_43 (d + 1) (φ 11 1 198) 1 0 (upf φ 11 1 198 0) α Q)))))))))) : eX11_see (d + 1)  φ α Q := by
  intro Ln
  refine r_aload_n (pc' := 1) (kX11_see_0 0 rfl) rfl rfl ?_
  refine s_get (x := (φ 11 1 198)) (pc' := 4) (kX11_see_0 1 rfl) rfl fkX11_224 rfl rfl rfl (kz198 Ln) rfl ?_
  refine r_istore_n (L' := [(2, 198), (0, (φ 11 1 198)), (9, 0), (9, 0)]) (pc' := 5) (kX11_see_0 2 rfl) rfl (Nat.le_of_ble_eq_true rfl) rfl ?_
  refine r_aload_n (pc' := 6) (kX11_see_0 3 rfl) rfl rfl ?_
  refine r_iconst 0 (pc' := 7) (kX11_see_0 4 rfl) rfl (by unfold inR; omega) ?_
  refine s_put (pc' := 10) (kX11_see_0 5 rfl) rfl fkX11_224 fnX11_1 rfl pk_int (kz198 Ln) ?_
  refine r_aload_n (pc' := 11) (kX11_see_0 6 rfl) rfl rfl ?_
  refine s_get (x := (φ 11 46 198)) (pc' := 14) (kX11_see_0 7 rfl) rfl fkX11_363 rfl rfl rfl (kz198 Ln) rfl ?_
  refine r_if_eq (t := 39) (pc' := 17) (kX11_see_0 8 rfl) rfl rfl (fun c1 => ?_) (fun c1 => ?_)
  · have h := h.1 c1
    refine r_iconst 0 (pc' := 40) (kX11_see_0 22 rfl) rfl (by unfold inR; omega) ?_
    refine r_istore_n (L' := [(2, 198), (0, (φ 11 1 198)), (0, 0), (9, 0)]) (pc' := 41) (kX11_see_0 23 rfl) rfl (Nat.le_of_ble_eq_true rfl) rfl ?_
    refine r_iconst 0 (pc' := 42) (kX11_see_0 24 rfl) rfl (by unfold inR; omega) ?_
    refine r_istore_n (L' := [(2, 198), (0, (φ 11 1 198)), (0, 0), (0, 0)]) (pc' := 43) (kX11_see_0 25 rfl) rfl (Nat.le_of_ble_eq_true rfl) rfl ?_
    exact r_weak (L' := [(2, 198), (0, (φ 11 1 198)), (0, 0), (0, 0)]) ⟨Or.inl rfl, Or.inl rfl, Or.inl rfl, Or.inl rfl, trivial⟩ (h Ln)
  · have h := h.2 c1
    refine r_iload_n (pc' := 18) (kX11_see_0 9 rfl) rfl rfl ?_
    refine r_if_le (t := 39) (pc' := 21) (kX11_see_0 10 rfl) rfl rfl (fun c2 => ?_) (fun c2 => ?_)
    · have h := h.1 c2
      refine r_iconst 0 (pc' := 40) (kX11_see_0 22 rfl) rfl (by unfold inR; omega) ?_
      refine r_istore_n (L' := [(2, 198), (0, (φ 11 1 198)), (0, 0), (9, 0)]) (pc' := 41) (kX11_see_0 23 rfl) rfl (Nat.le_of_ble_eq_true rfl) rfl ?_
      refine r_iconst 0 (pc' := 42) (kX11_see_0 24 rfl) rfl (by unfold inR; omega) ?_
      refine r_istore_n (L' := [(2, 198), (0, (φ 11 1 198)), (0, 0), (0, 0)]) (pc' := 43) (kX11_see_0 25 rfl) rfl (Nat.le_of_ble_eq_true rfl) rfl ?_
      exact r_weak (L' := [(2, 198), (0, (φ 11 1 198)), (0, 0), (0, 0)]) ⟨Or.inl rfl, Or.inl rfl, Or.inl rfl, Or.inl rfl, trivial⟩ (h Ln)
    · have h := h.2 c2
      refine r_iload_n (pc' := 22) (kX11_see_0 11 rfl) rfl rfl ?_
      refine r_iconst 4 (pc' := 23) (kX11_see_0 12 rfl) rfl (by unfold inR; omega) ?_
      have g3 := h.1
      have h := h.2
      refine r_irem (pc' := 24) (kX11_see_0 13 rfl) rfl ⟨by decide, g3⟩ ?_
      refine r_if_ne (t := 39) (pc' := 27) (kX11_see_0 14 rfl) rfl rfl (fun c4 => ?_) (fun c4 => ?_)
      · have h := h.1 c4
        refine r_iconst 0 (pc' := 40) (kX11_see_0 22 rfl) rfl (by unfold inR; omega) ?_
        refine r_istore_n (L' := [(2, 198), (0, (φ 11 1 198)), (0, 0), (9, 0)]) (pc' := 41) (kX11_see_0 23 rfl) rfl (Nat.le_of_ble_eq_true rfl) rfl ?_
        refine r_iconst 0 (pc' := 42) (kX11_see_0 24 rfl) rfl (by unfold inR; omega) ?_
        refine r_istore_n (L' := [(2, 198), (0, (φ 11 1 198)), (0, 0), (0, 0)]) (pc' := 43) (kX11_see_0 25 rfl) rfl (Nat.le_of_ble_eq_true rfl) rfl ?_
        exact r_weak (L' := [(2, 198), (0, (φ 11 1 198)), (0, 0), (0, 0)]) ⟨Or.inl rfl, Or.inl rfl, Or.inl rfl, Or.inl rfl, trivial⟩ (h Ln)
      · have h := h.2 c4
        refine r_iload_n (pc' := 28) (kX11_see_0 15 rfl) rfl rfl ?_
        refine r_iconst 4 (pc' := 29) (kX11_see_0 16 rfl) rfl (by unfold inR; omega) ?_
        have g5 := h.1
        have h := h.2
        refine r_idiv (pc' := 30) (kX11_see_0 17 rfl) rfl ⟨by decide, g5⟩ ?_
        refine r_bipush 16 (pc' := 32) (kX11_see_0 18 rfl) rfl ⟨by unfold inR; omega, rfl⟩ ?_
        refine r_icmp_gt (t := 39) (pc' := 35) (kX11_see_0 19 rfl) rfl rfl (fun c6 => ?_) (fun c6 => ?_)
        · have h := h.1 c6
          refine r_iconst 0 (pc' := 40) (kX11_see_0 22 rfl) rfl (by unfold inR; omega) ?_
          refine r_istore_n (L' := [(2, 198), (0, (φ 11 1 198)), (0, 0), (9, 0)]) (pc' := 41) (kX11_see_0 23 rfl) rfl (Nat.le_of_ble_eq_true rfl) rfl ?_
          refine r_iconst 0 (pc' := 42) (kX11_see_0 24 rfl) rfl (by unfold inR; omega) ?_
          refine r_istore_n (L' := [(2, 198), (0, (φ 11 1 198)), (0, 0), (0, 0)]) (pc' := 43) (kX11_see_0 25 rfl) rfl (Nat.le_of_ble_eq_true rfl) rfl ?_
          exact r_weak (L' := [(2, 198), (0, (φ 11 1 198)), (0, 0), (0, 0)]) ⟨Or.inl rfl, Or.inl rfl, Or.inl rfl, Or.inl rfl, trivial⟩ (h Ln)
        · have h := h.2 c6
          refine r_iconst 1 (pc' := 36) (kX11_see_0 20 rfl) rfl (by unfold inR; omega) ?_
          refine r_goto (pc' := 40) (kX11_see_0 21 rfl) rfl ?_
          refine r_istore_n (L' := [(2, 198), (0, (φ 11 1 198)), (0, 1), (9, 0)]) (pc' := 41) (kX11_see_0 23 rfl) rfl (Nat.le_of_ble_eq_true rfl) rfl ?_
          refine r_iconst 0 (pc' := 42) (kX11_see_0 24 rfl) rfl (by unfold inR; omega) ?_
          refine r_istore_n (L' := [(2, 198), (0, (φ 11 1 198)), (0, 1), (0, 0)]) (pc' := 43) (kX11_see_0 25 rfl) rfl (Nat.le_of_ble_eq_true rfl) rfl ?_
          exact r_weak (L' := [(2, 198), (0, (φ 11 1 198)), (0, 1), (0, 0)]) ⟨Or.inl rfl, Or.inl rfl, Or.inl rfl, Or.inl rfl, trivial⟩ (h Ln)
abbrev jX11_see_123 (d : Nat) (x1 x3 : Int) (φ : aF) (α : aA) (Q : Int → aF → aA → Prop) : Prop := R0 d mX11_see 123 [(2, 198), (0, x1), (9, 0), (0, x3)] [] φ α Q
theorem vX11_see_43 {d : Nat} {φ : aF} {α : aA} {Q : Int → aF → aA → Prop} {x1 : Int} {x2 : Int} {x3 : Int} (h : ((x1 ≤ x3 →
   ((¬ x2 = 0 →
     (jX11_see_123 (d + 1) x1 0 φ α Q)) ∧
     (x2 = 0 →
     (eX11_refuses d 1 φ α (fun r3 φ3 α3 =>
       (Q r3 φ3 α3)))))) ∧
   (¬ (x1 ≤ x3) →
   ((x2 = 0 →
     (eX11_refuses d 1 φ α (fun r5 φ5 α5 =>
       (Q r5 φ5 α5)))) ∧
     (¬ (x2 = 0) →
     (0 ≤ x3 ∧ x3 < (1600 : Nat)) ∧ ((30 < (α 199 x3) →
       inR (x3 + 4) ∧ (jX11_see_43 (d + 1) x1 0 (x3 + 4) φ α Q)) ∧
       (¬ (30 < (α 199 x3)) →
       inR (x3 + 1) ∧ (0 ≤ (x3 + 1) ∧ (x3 + 1) < (1600 : Nat)) ∧ inR (x3 + 2) ∧ (0 ≤ (x3 + 2) ∧ (x3 + 2) < (1600 : Nat)) ∧ (eX11_areBoth d (α 199 (x3 + 1)) (α 199 (x3 + 2)) φ α (fun r13 φ13 α13 =>
         ((r13 = 0 →
         inR (x3 + 4) ∧ (jX11_see_43 (d + 1) x1 0 (x3 + 4) φ13 α13 Q)) ∧
         (¬ (r13 = 0) →
         inR (x3 + 3) ∧ (0 ≤ (x3 + 3) ∧ (x3 + 3) < (1600 : Nat)) ∧ ((99 < (α13 199 (x3 + 3)) →
           inR (x3 + 4) ∧ (jX11_see_43 (d + 1) x1 0 (x3 + 4) φ13 α13 Q)) ∧
           (¬ (99 < (α13 199 (x3 + 3))) →
           inR (x3 + 4) ∧ (jX11_see_43 (d + 1) x1 1 (x3 + 4) φ13 α13 Q)))))))))))))) : jX11_see_43 (d + 1) x1 x2 x3 φ α Q := by
  intro Ln
  refine r_iload_n (pc' := 44) (kX11_see_0 26 rfl) rfl rfl ?_
  refine r_iload_n (pc' := 45) (kX11_see_0 27 rfl) rfl rfl ?_
  refine r_icmp_ge (t := 111) (pc' := 48) (kX11_see_0 28 rfl) rfl rfl (fun c1 => ?_) (fun c1 => ?_)
  · have h := h.1 c1
    refine r_iload_n (pc' := 112) (kX11_see_1 6 rfl) rfl rfl ?_
    refine r_if_ne (t := 121) (pc' := 115) (kX11_see_1 7 rfl) rfl rfl (fun c2 => ?_) (fun c2 => ?_)
    · have h := h.1 c2
      refine r_iconst 0 (pc' := 122) (kX11_see_1 12 rfl) rfl (by unfold inR; omega) ?_
      refine r_istore_n (L' := [(2, 198), (0, x1), (0, x2), (0, 0)]) (pc' := 123) (kX11_see_1 13 rfl) rfl (Nat.le_of_ble_eq_true rfl) rfl ?_
      exact r_weak (L' := [(2, 198), (0, x1), (9, 0), (0, 0)]) ⟨Or.inl rfl, Or.inl rfl, Or.inr (by decide), Or.inl rfl, trivial⟩ (h Ln)
    · have h := h.2 c2
      refine r_aload_n (pc' := 116) (kX11_see_1 8 rfl) rfl rfl ?_
      refine r_iconst 1 (pc' := 117) (kX11_see_1 9 rfl) rfl (by unfold inR; omega) ?_
      refine s_callV (As := [(0, 1)]) (o := 198) (S := []) (S2 := fun z => [(0, z)]) (pc' := 120) (kX11_see_1 10 rfl) rfl rfl nkX11_refuses mlX11_515 imX11_refuses rfl slX11_refuses rfl (Nat.le_of_ble_eq_true rfl) (Nat.le_of_ble_eq_true rfl) (kz198 Ln) h (fun z => rfl) (fun r3 φ3 α3 h => ?_)
      exact s_iret (kX11_see_1 11 rfl) rfl h
  · have h := h.2 c1
    refine r_iload_n (pc' := 49) (kX11_see_0 29 rfl) rfl rfl ?_
    refine r_if_eq (t := 111) (pc' := 52) (kX11_see_0 30 rfl) rfl rfl (fun c4 => ?_) (fun c4 => ?_)
    · have h := h.1 c4
      refine r_iload_n (pc' := 112) (kX11_see_1 6 rfl) rfl rfl ?_
      refine r_if_ne (t := 121) (pc' := 115) (kX11_see_1 7 rfl) rfl rfl (fun cz => absurd c4 cz) (fun _ => ?_)
      refine r_aload_n (pc' := 116) (kX11_see_1 8 rfl) rfl rfl ?_
      refine r_iconst 1 (pc' := 117) (kX11_see_1 9 rfl) rfl (by unfold inR; omega) ?_
      refine s_callV (As := [(0, 1)]) (o := 198) (S := []) (S2 := fun z => [(0, z)]) (pc' := 120) (kX11_see_1 10 rfl) rfl rfl nkX11_refuses mlX11_515 imX11_refuses rfl slX11_refuses rfl (Nat.le_of_ble_eq_true rfl) (Nat.le_of_ble_eq_true rfl) (kz198 Ln) h (fun z => rfl) (fun r5 φ5 α5 h => ?_)
      exact s_iret (kX11_see_1 11 rfl) rfl h
    · have h := h.2 c4
      refine r_aload_n (pc' := 53) (kX11_see_0 31 rfl) rfl rfl ?_
      refine s_getr (v := 199) (pc' := 56) (kX11_see_0 32 rfl) rfl fkX11_7 rfl rfl (kz198 Ln) rfl (by decide) ?_
      refine r_iload_n (pc' := 57) (kX11_see_0 33 rfl) rfl rfl ?_
      have g6 := h.1
      have h := h.2
      refine s_iald (x := (α 199 x3)) (pc' := 58) (kX11_see_0 34 rfl) rfl (kz199 Ln) g6 rfl ?_
      refine r_bipush 30 (pc' := 60) (kX11_see_0 35 rfl) rfl ⟨by unfold inR; omega, rfl⟩ ?_
      refine r_icmp_gt (t := 103) (pc' := 63) (kX11_see_0 36 rfl) rfl rfl (fun c7 => ?_) (fun c7 => ?_)
      · have h := h.1 c7
        refine r_iconst 0 (pc' := 104) (kX11_see_1 2 rfl) rfl (by unfold inR; omega) ?_
        refine r_istore_n (L' := [(2, 198), (0, x1), (0, 0), (0, x3)]) (pc' := 105) (kX11_see_1 3 rfl) rfl (Nat.le_of_ble_eq_true rfl) rfl ?_
        have g8 := h.1
        have h := h.2
        refine r_iinc (L' := [(2, 198), (0, x1), (0, 0), (0, (x3 + 4))]) (pc' := 108) (kX11_see_1 4 rfl) rfl (Nat.le_of_ble_eq_true rfl) rfl g8 rfl ?_
        refine r_goto (pc' := 43) (kX11_see_1 5 rfl) rfl ?_
        exact r_weak (L' := [(2, 198), (0, x1), (0, 0), (0, (x3 + 4))]) ⟨Or.inl rfl, Or.inl rfl, Or.inl rfl, Or.inl rfl, trivial⟩ (h Ln)
      · have h := h.2 c7
        refine r_aload_n (pc' := 64) (kX11_see_0 37 rfl) rfl rfl ?_
        refine r_aload_n (pc' := 65) (kX11_see_0 38 rfl) rfl rfl ?_
        refine s_getr (v := 199) (pc' := 68) (kX11_see_0 39 rfl) rfl fkX11_7 rfl rfl (kz198 Ln) rfl (by decide) ?_
        refine r_iload_n (pc' := 69) (kX11_see_0 40 rfl) rfl rfl ?_
        refine r_iconst 1 (pc' := 70) (kX11_see_0 41 rfl) rfl (by unfold inR; omega) ?_
        have g9 := h.1
        have h := h.2
        refine r_iadd (pc' := 71) (kX11_see_0 42 rfl) rfl g9 ?_
        have g10 := h.1
        have h := h.2
        refine s_iald (x := (α 199 (x3 + 1))) (pc' := 72) (kX11_see_0 43 rfl) rfl (kz199 Ln) g10 rfl ?_
        refine r_aload_n (pc' := 73) (kX11_see_0 44 rfl) rfl rfl ?_
        refine s_getr (v := 199) (pc' := 76) (kX11_see_0 45 rfl) rfl fkX11_7 rfl rfl (kz198 Ln) rfl (by decide) ?_
        refine r_iload_n (pc' := 77) (kX11_see_0 46 rfl) rfl rfl ?_
        refine r_iconst 2 (pc' := 78) (kX11_see_0 47 rfl) rfl (by unfold inR; omega) ?_
        have g11 := h.1
        have h := h.2
        refine r_iadd (pc' := 79) (kX11_see_0 48 rfl) rfl g11 ?_
        have g12 := h.1
        have h := h.2
        refine s_iald (x := (α 199 (x3 + 2))) (pc' := 80) (kX11_see_0 49 rfl) rfl (kz199 Ln) g12 rfl ?_
        refine s_callV (As := [(0, (α 199 (x3 + 1))), (0, (α 199 (x3 + 2)))]) (o := 198) (S := []) (S2 := fun z => [(0, z)]) (pc' := 83) (kX11_see_0 50 rfl) rfl rfl nkX11_areBoth mlX11_470 imX11_areBoth rfl slX11_areBoth rfl (Nat.le_of_ble_eq_true rfl) (Nat.le_of_ble_eq_true rfl) (kz198 Ln) h (fun z => rfl) (fun r13 φ13 α13 h => ?_)
        refine r_if_eq (t := 103) (pc' := 86) (kX11_see_0 51 rfl) rfl rfl (fun c14 => ?_) (fun c14 => ?_)
        · have h := h.1 c14
          refine r_iconst 0 (pc' := 104) (kX11_see_1 2 rfl) rfl (by unfold inR; omega) ?_
          refine r_istore_n (L' := [(2, 198), (0, x1), (0, 0), (0, x3)]) (pc' := 105) (kX11_see_1 3 rfl) rfl (Nat.le_of_ble_eq_true rfl) rfl ?_
          have g15 := h.1
          have h := h.2
          refine r_iinc (L' := [(2, 198), (0, x1), (0, 0), (0, (x3 + 4))]) (pc' := 108) (kX11_see_1 4 rfl) rfl (Nat.le_of_ble_eq_true rfl) rfl g15 rfl ?_
          refine r_goto (pc' := 43) (kX11_see_1 5 rfl) rfl ?_
          exact r_weak (L' := [(2, 198), (0, x1), (0, 0), (0, (x3 + 4))]) ⟨Or.inl rfl, Or.inl rfl, Or.inl rfl, Or.inl rfl, trivial⟩ (h Ln)
        · have h := h.2 c14
          refine r_aload_n (pc' := 87) (kX11_see_0 52 rfl) rfl rfl ?_
          refine s_getr (v := 199) (pc' := 90) (kX11_see_0 53 rfl) rfl fkX11_7 rfl rfl (kz198 Ln) rfl (by decide) ?_
          refine r_iload_n (pc' := 91) (kX11_see_0 54 rfl) rfl rfl ?_
          refine r_iconst 3 (pc' := 92) (kX11_see_0 55 rfl) rfl (by unfold inR; omega) ?_
          have g16 := h.1
          have h := h.2
          refine r_iadd (pc' := 93) (kX11_see_0 56 rfl) rfl g16 ?_
          have g17 := h.1
          have h := h.2
          refine s_iald (x := (α13 199 (x3 + 3))) (pc' := 94) (kX11_see_0 57 rfl) rfl (kz199 Ln) g17 rfl ?_
          refine r_bipush 99 (pc' := 96) (kX11_see_0 58 rfl) rfl ⟨by unfold inR; omega, rfl⟩ ?_
          refine r_icmp_gt (t := 103) (pc' := 99) (kX11_see_0 59 rfl) rfl rfl (fun c18 => ?_) (fun c18 => ?_)
          · have h := h.1 c18
            refine r_iconst 0 (pc' := 104) (kX11_see_1 2 rfl) rfl (by unfold inR; omega) ?_
            refine r_istore_n (L' := [(2, 198), (0, x1), (0, 0), (0, x3)]) (pc' := 105) (kX11_see_1 3 rfl) rfl (Nat.le_of_ble_eq_true rfl) rfl ?_
            have g19 := h.1
            have h := h.2
            refine r_iinc (L' := [(2, 198), (0, x1), (0, 0), (0, (x3 + 4))]) (pc' := 108) (kX11_see_1 4 rfl) rfl (Nat.le_of_ble_eq_true rfl) rfl g19 rfl ?_
            refine r_goto (pc' := 43) (kX11_see_1 5 rfl) rfl ?_
            exact r_weak (L' := [(2, 198), (0, x1), (0, 0), (0, (x3 + 4))]) ⟨Or.inl rfl, Or.inl rfl, Or.inl rfl, Or.inl rfl, trivial⟩ (h Ln)
          · have h := h.2 c18
            refine r_iconst 1 (pc' := 100) (kX11_see_1 0 rfl) rfl (by unfold inR; omega) ?_
            refine r_goto (pc' := 104) (kX11_see_1 1 rfl) rfl ?_
            refine r_istore_n (L' := [(2, 198), (0, x1), (0, 1), (0, x3)]) (pc' := 105) (kX11_see_1 3 rfl) rfl (Nat.le_of_ble_eq_true rfl) rfl ?_
            have g20 := h.1
            have h := h.2
            refine r_iinc (L' := [(2, 198), (0, x1), (0, 1), (0, (x3 + 4))]) (pc' := 108) (kX11_see_1 4 rfl) rfl (Nat.le_of_ble_eq_true rfl) rfl g20 rfl ?_
            refine r_goto (pc' := 43) (kX11_see_1 5 rfl) rfl ?_
            exact r_weak (L' := [(2, 198), (0, x1), (0, 1), (0, (x3 + 4))]) ⟨Or.inl rfl, Or.inl rfl, Or.inl rfl, Or.inl rfl, trivial⟩ (h Ln)
theorem vX11_see_123 {d : Nat} {φ : aF} {α : aA} {Q : Int → aF → aA → Prop} {x1 : Int} {x3 : Int} (h : ((x1 ≤ x3 →
   inR (Int.tdiv x1 4) ∧ (Q (Int.tdiv x1 4) (upf φ 11 55 198 (Int.tdiv x1 4)) α)) ∧
   (¬ (x1 ≤ x3) →
   (0 ≤ x3 ∧ x3 < (1600 : Nat)) ∧ (0 ≤ x3 ∧ x3 < (64 : Nat)) ∧ inR (x3 + 1) ∧ (jX11_see_123 (d + 1) x1 (x3 + 1) φ (upa α 236 x3 (α 199 x3)) Q)))) : jX11_see_123 (d + 1) x1 x3 φ α Q := by
  intro Ln
  refine r_iload_n (pc' := 124) (kX11_see_1 14 rfl) rfl rfl ?_
  refine r_iload_n (pc' := 125) (kX11_see_1 15 rfl) rfl rfl ?_
  refine r_icmp_ge (t := 146) (pc' := 128) (kX11_see_1 16 rfl) rfl rfl (fun c1 => ?_) (fun c1 => ?_)
  · have h := h.1 c1
    refine r_aload_n (pc' := 147) (kX11_see_1 27 rfl) rfl rfl ?_
    refine r_iload_n (pc' := 148) (kX11_see_1 28 rfl) rfl rfl ?_
    refine r_iconst 4 (pc' := 149) (kX11_see_1 29 rfl) rfl (by unfold inR; omega) ?_
    have g2 := h.1
    have h := h.2
    refine r_idiv (pc' := 150) (kX11_see_1 30 rfl) rfl ⟨by decide, g2⟩ ?_
    refine s_put (pc' := 153) (kX11_see_1 31 rfl) rfl fkX11_370 fnX11_55 rfl pk_int (kz198 Ln) ?_
    refine r_aload_n (pc' := 154) (kX11_see_1 32 rfl) rfl rfl ?_
    refine s_get (x := (Int.tdiv x1 4)) (pc' := 157) (kX11_see_1 33 rfl) rfl fkX11_370 rfl rfl rfl (kz198 Ln) (by simp [upf]) ?_
    exact s_iret (kX11_see_1 34 rfl) rfl h
  · have h := h.2 c1
    refine r_aload_n (pc' := 129) (kX11_see_1 17 rfl) rfl rfl ?_
    refine s_getr (v := 236) (pc' := 132) (kX11_see_1 18 rfl) rfl fkX11_127 rfl rfl (kz198 Ln) rfl (by decide) ?_
    refine r_iload_n (pc' := 133) (kX11_see_1 19 rfl) rfl rfl ?_
    refine r_aload_n (pc' := 134) (kX11_see_1 20 rfl) rfl rfl ?_
    refine s_getr (v := 199) (pc' := 137) (kX11_see_1 21 rfl) rfl fkX11_7 rfl rfl (kz198 Ln) rfl (by decide) ?_
    refine r_iload_n (pc' := 138) (kX11_see_1 22 rfl) rfl rfl ?_
    have g3 := h.1
    have h := h.2
    refine s_iald (x := (α 199 x3)) (pc' := 139) (kX11_see_1 23 rfl) rfl (kz199 Ln) g3 rfl ?_
    have g4 := h.1
    have h := h.2
    refine s_iast (pc' := 140) (kX11_see_1 24 rfl) rfl (kz236 Ln) g4 ?_
    have g5 := h.1
    have h := h.2
    refine r_iinc (L' := [(2, 198), (0, x1), (9, 0), (0, (x3 + 1))]) (pc' := 143) (kX11_see_1 25 rfl) rfl (Nat.le_of_ble_eq_true rfl) rfl g5 rfl ?_
    refine r_goto (pc' := 123) (kX11_see_1 26 rfl) rfl ?_
    exact r_weak (L' := [(2, 198), (0, x1), (9, 0), (0, (x3 + 1))]) ⟨Or.inl rfl, Or.inl rfl, Or.inr (by decide), Or.inl rfl, trivial⟩ (h Ln)
abbrev jX11_isAsSeen_2 (d : Nat) (x1 x2 : Int) (φ : aF) (α : aA) (Q : Int → aF → aA → Prop) : Prop := R0 d mX11_isAsSeen 2 [(2, 198), (0, x1), (0, x2)] [] φ α Q
theorem vX11_isAsSeen_0 {d : Nat} {φ : aF} {α : aA} {Q : Int → aF → aA → Prop} {x1 : Int} (h : (jX11_isAsSeen_2 (d + 1) x1 0 φ α Q)) : eX11_isAsSeen (d + 1) x1 φ α Q := by
  intro Ln
  refine r_iconst 0 (pc' := 1) (kX11_isAsSeen_0 0 rfl) rfl (by unfold inR; omega) ?_
  refine r_istore_n (L' := [(2, 198), (0, x1), (0, 0)]) (pc' := 2) (kX11_isAsSeen_0 1 rfl) rfl (Nat.le_of_ble_eq_true rfl) rfl ?_
  exact r_weak (L' := [(2, 198), (0, x1), (0, 0)]) ⟨Or.inl rfl, Or.inl rfl, Or.inl rfl, trivial⟩ (h Ln)
theorem vX11_isAsSeen_2 {d : Nat} {φ : aF} {α : aA} {Q : Int → aF → aA → Prop} {x1 : Int} {x2 : Int} (h : (((φ 11 55 198) ≤ x2 →
   (Q 1 φ α)) ∧
   (¬ ((φ 11 55 198) ≤ x2) →
   inR (4 * x2) ∧ (0 ≤ (4 * x2) ∧ (4 * x2) < (64 : Nat)) ∧ ((¬ (α 236 (4 * x2)) = x1 →
     inR (x2 + 1) ∧ (jX11_isAsSeen_2 (d + 1) x1 (x2 + 1) φ α Q)) ∧
     ((α 236 (4 * x2)) = x1 →
     ((999 < (α 233 0) →
       (Q 0 φ α)) ∧
       (¬ (999 < (α 233 0)) →
       inR ((4 * x2) + 1) ∧ (0 ≤ ((4 * x2) + 1) ∧ ((4 * x2) + 1) < (64 : Nat)) ∧ inR ((4 * x2) + 2) ∧ (0 ≤ ((4 * x2) + 2) ∧ ((4 * x2) + 2) < (64 : Nat)) ∧ (eX11_dropsOf d (α 236 ((4 * x2) + 1)) (α 236 ((4 * x2) + 2)) φ α (fun r11 φ11 α11 =>
         inR ((4 * x2) + 3) ∧ (0 ≤ ((4 * x2) + 3) ∧ ((4 * x2) + 3) < (64 : Nat)) ∧ ((r11 = (α11 236 ((4 * x2) + 3)) →
         inR (x2 + 1) ∧ (jX11_isAsSeen_2 (d + 1) x1 (x2 + 1) φ11 α11 Q)) ∧
         (¬ (r11 = (α11 236 ((4 * x2) + 3))) →
         (Q 0 φ11 α11)))))))))))) : jX11_isAsSeen_2 (d + 1) x1 x2 φ α Q := by
  intro Ln
  refine r_iload_n (pc' := 3) (kX11_isAsSeen_0 2 rfl) rfl rfl ?_
  refine r_aload_n (pc' := 4) (kX11_isAsSeen_0 3 rfl) rfl rfl ?_
  refine s_get (x := (φ 11 55 198)) (pc' := 7) (kX11_isAsSeen_0 4 rfl) rfl fkX11_370 rfl rfl rfl (kz198 Ln) rfl ?_
  refine r_icmp_ge (t := 79) (pc' := 10) (kX11_isAsSeen_0 5 rfl) rfl rfl (fun c1 => ?_) (fun c1 => ?_)
  · have h := h.1 c1
    refine r_iconst 1 (pc' := 80) (kX11_isAsSeen_0 51 rfl) rfl (by unfold inR; omega) ?_
    exact s_zret (kX11_isAsSeen_0 52 rfl) rfl (Or.inr rfl) h
  · have h := h.2 c1
    refine r_aload_n (pc' := 11) (kX11_isAsSeen_0 6 rfl) rfl rfl ?_
    refine s_getr (v := 236) (pc' := 14) (kX11_isAsSeen_0 7 rfl) rfl fkX11_127 rfl rfl (kz198 Ln) rfl (by decide) ?_
    refine r_iconst 4 (pc' := 15) (kX11_isAsSeen_0 8 rfl) rfl (by unfold inR; omega) ?_
    refine r_iload_n (pc' := 16) (kX11_isAsSeen_0 9 rfl) rfl rfl ?_
    have g2 := h.1
    have h := h.2
    refine r_imul (pc' := 17) (kX11_isAsSeen_0 10 rfl) rfl g2 ?_
    have g3 := h.1
    have h := h.2
    refine s_iald (x := (α 236 (4 * x2))) (pc' := 18) (kX11_isAsSeen_0 11 rfl) rfl (kz236 Ln) g3 rfl ?_
    refine r_iload_n (pc' := 19) (kX11_isAsSeen_0 12 rfl) rfl rfl ?_
    refine r_icmp_ne (t := 73) (pc' := 22) (kX11_isAsSeen_0 13 rfl) rfl rfl (fun c4 => ?_) (fun c4 => ?_)
    · have h := h.1 c4
      have g5 := h.1
      have h := h.2
      refine r_iinc (L' := [(2, 198), (0, x1), (0, (x2 + 1))]) (pc' := 76) (kX11_isAsSeen_0 49 rfl) rfl (Nat.le_of_ble_eq_true rfl) rfl g5 rfl ?_
      refine r_goto (pc' := 2) (kX11_isAsSeen_0 50 rfl) rfl ?_
      exact r_weak (L' := [(2, 198), (0, x1), (0, (x2 + 1))]) ⟨Or.inl rfl, Or.inl rfl, Or.inl rfl, trivial⟩ (h Ln)
    · have h := h.2 c4
      refine r_aload_n (pc' := 23) (kX11_isAsSeen_0 14 rfl) rfl rfl ?_
      refine s_getr (v := 233) (pc' := 26) (kX11_isAsSeen_0 15 rfl) rfl fkX11_118 rfl rfl (kz198 Ln) rfl (by decide) ?_
      refine r_iconst 0 (pc' := 27) (kX11_isAsSeen_0 16 rfl) rfl (by unfold inR; omega) ?_
      refine s_iald (x := (α 233 0)) (pc' := 28) (kX11_isAsSeen_0 17 rfl) rfl (kz233 Ln) ⟨by decide, by decide⟩ rfl ?_
      refine r_sipush 999 (pc' := 31) (kX11_isAsSeen_0 18 rfl) rfl ⟨by unfold inR; omega, rfl⟩ ?_
      refine r_icmp_gt (t := 71) (pc' := 34) (kX11_isAsSeen_0 19 rfl) rfl rfl (fun c6 => ?_) (fun c6 => ?_)
      · have h := h.1 c6
        refine r_iconst 0 (pc' := 72) (kX11_isAsSeen_0 47 rfl) rfl (by unfold inR; omega) ?_
        exact s_zret (kX11_isAsSeen_0 48 rfl) rfl (Or.inl rfl) h
      · have h := h.2 c6
        refine r_aload_n (pc' := 35) (kX11_isAsSeen_0 20 rfl) rfl rfl ?_
        refine r_aload_n (pc' := 36) (kX11_isAsSeen_0 21 rfl) rfl rfl ?_
        refine s_getr (v := 236) (pc' := 39) (kX11_isAsSeen_0 22 rfl) rfl fkX11_127 rfl rfl (kz198 Ln) rfl (by decide) ?_
        refine r_iconst 4 (pc' := 40) (kX11_isAsSeen_0 23 rfl) rfl (by unfold inR; omega) ?_
        refine r_iload_n (pc' := 41) (kX11_isAsSeen_0 24 rfl) rfl rfl ?_
        refine r_imul (pc' := 42) (kX11_isAsSeen_0 25 rfl) rfl g2 ?_
        refine r_iconst 1 (pc' := 43) (kX11_isAsSeen_0 26 rfl) rfl (by unfold inR; omega) ?_
        have g7 := h.1
        have h := h.2
        refine r_iadd (pc' := 44) (kX11_isAsSeen_0 27 rfl) rfl g7 ?_
        have g8 := h.1
        have h := h.2
        refine s_iald (x := (α 236 ((4 * x2) + 1))) (pc' := 45) (kX11_isAsSeen_0 28 rfl) rfl (kz236 Ln) g8 rfl ?_
        refine r_aload_n (pc' := 46) (kX11_isAsSeen_0 29 rfl) rfl rfl ?_
        refine s_getr (v := 236) (pc' := 49) (kX11_isAsSeen_0 30 rfl) rfl fkX11_127 rfl rfl (kz198 Ln) rfl (by decide) ?_
        refine r_iconst 4 (pc' := 50) (kX11_isAsSeen_0 31 rfl) rfl (by unfold inR; omega) ?_
        refine r_iload_n (pc' := 51) (kX11_isAsSeen_0 32 rfl) rfl rfl ?_
        refine r_imul (pc' := 52) (kX11_isAsSeen_0 33 rfl) rfl g2 ?_
        refine r_iconst 2 (pc' := 53) (kX11_isAsSeen_0 34 rfl) rfl (by unfold inR; omega) ?_
        have g9 := h.1
        have h := h.2
        refine r_iadd (pc' := 54) (kX11_isAsSeen_0 35 rfl) rfl g9 ?_
        have g10 := h.1
        have h := h.2
        refine s_iald (x := (α 236 ((4 * x2) + 2))) (pc' := 55) (kX11_isAsSeen_0 36 rfl) rfl (kz236 Ln) g10 rfl ?_
        refine s_callV (As := [(0, (α 236 ((4 * x2) + 1))), (0, (α 236 ((4 * x2) + 2)))]) (o := 198) (S := []) (S2 := fun z => [(0, z)]) (pc' := 58) (kX11_isAsSeen_0 37 rfl) rfl rfl nkX11_dropsOf mlX11_386 imX11_dropsOf rfl slX11_dropsOf rfl (Nat.le_of_ble_eq_true rfl) (Nat.le_of_ble_eq_true rfl) (kz198 Ln) h (fun z => rfl) (fun r11 φ11 α11 h => ?_)
        refine r_aload_n (pc' := 59) (kX11_isAsSeen_0 38 rfl) rfl rfl ?_
        refine s_getr (v := 236) (pc' := 62) (kX11_isAsSeen_0 39 rfl) rfl fkX11_127 rfl rfl (kz198 Ln) rfl (by decide) ?_
        refine r_iconst 4 (pc' := 63) (kX11_isAsSeen_0 40 rfl) rfl (by unfold inR; omega) ?_
        refine r_iload_n (pc' := 64) (kX11_isAsSeen_0 41 rfl) rfl rfl ?_
        refine r_imul (pc' := 65) (kX11_isAsSeen_0 42 rfl) rfl g2 ?_
        refine r_iconst 3 (pc' := 66) (kX11_isAsSeen_0 43 rfl) rfl (by unfold inR; omega) ?_
        have g12 := h.1
        have h := h.2
        refine r_iadd (pc' := 67) (kX11_isAsSeen_0 44 rfl) rfl g12 ?_
        have g13 := h.1
        have h := h.2
        refine s_iald (x := (α11 236 ((4 * x2) + 3))) (pc' := 68) (kX11_isAsSeen_0 45 rfl) rfl (kz236 Ln) g13 rfl ?_
        refine r_icmp_eq (t := 73) (pc' := 71) (kX11_isAsSeen_0 46 rfl) rfl rfl (fun c14 => ?_) (fun c14 => ?_)
        · have h := h.1 c14
          have g15 := h.1
          have h := h.2
          refine r_iinc (L' := [(2, 198), (0, x1), (0, (x2 + 1))]) (pc' := 76) (kX11_isAsSeen_0 49 rfl) rfl (Nat.le_of_ble_eq_true rfl) rfl g15 rfl ?_
          refine r_goto (pc' := 2) (kX11_isAsSeen_0 50 rfl) rfl ?_
          exact r_weak (L' := [(2, 198), (0, x1), (0, (x2 + 1))]) ⟨Or.inl rfl, Or.inl rfl, Or.inl rfl, trivial⟩ (h Ln)
        · have h := h.2 c14
          refine r_iconst 0 (pc' := 72) (kX11_isAsSeen_0 47 rfl) rfl (by unfold inR; omega) ?_
          exact s_zret (kX11_isAsSeen_0 48 rfl) rfl (Or.inl rfl) h
theorem vX11_spillOf_0 {d : Nat} {φ : aF} {α : aA} {Q : Int → aF → aA → Prop} {x1 : Int} {x2 : Int} (h : (eX11_spaceOf d x1 φ α (fun r1 φ1 α1 =>
   ((x2 ≤ r1 →
   (Q 0 φ1 α1)) ∧
   (¬ (x2 ≤ r1) →
   (eX11_spaceOf d x1 φ1 α1 (fun r3 φ3 α3 =>
     inR (x2 - r3) ∧ (Q (x2 - r3) φ3 α3)))))))) : eX11_spillOf (d + 1) x1 x2 φ α Q := by
  intro Ln
  refine r_iload_n (pc' := 1) (kX11_spillOf_0 0 rfl) rfl rfl ?_
  refine r_aload_n (pc' := 2) (kX11_spillOf_0 1 rfl) rfl rfl ?_
  refine r_iload_n (pc' := 3) (kX11_spillOf_0 2 rfl) rfl rfl ?_
  refine s_callV (As := [(0, x1)]) (o := 198) (S := [(0, x2)]) (S2 := fun z => [(0, z), (0, x2)]) (pc' := 6) (kX11_spillOf_0 3 rfl) rfl rfl nkX11_spaceOf mlX11_415 imX11_spaceOf rfl slX11_spaceOf rfl (Nat.le_of_ble_eq_true rfl) (Nat.le_of_ble_eq_true rfl) (kz198 Ln) h (fun z => rfl) (fun r1 φ1 α1 h => ?_)
  refine r_icmp_le (t := 19) (pc' := 9) (kX11_spillOf_0 4 rfl) rfl rfl (fun c2 => ?_) (fun c2 => ?_)
  · have h := h.1 c2
    refine r_iconst 0 (pc' := 20) (kX11_spillOf_0 11 rfl) rfl (by unfold inR; omega) ?_
    exact s_iret (kX11_spillOf_0 12 rfl) rfl h
  · have h := h.2 c2
    refine r_iload_n (pc' := 10) (kX11_spillOf_0 5 rfl) rfl rfl ?_
    refine r_aload_n (pc' := 11) (kX11_spillOf_0 6 rfl) rfl rfl ?_
    refine r_iload_n (pc' := 12) (kX11_spillOf_0 7 rfl) rfl rfl ?_
    refine s_callV (As := [(0, x1)]) (o := 198) (S := [(0, x2)]) (S2 := fun z => [(0, z), (0, x2)]) (pc' := 15) (kX11_spillOf_0 8 rfl) rfl rfl nkX11_spaceOf mlX11_415 imX11_spaceOf rfl slX11_spaceOf rfl (Nat.le_of_ble_eq_true rfl) (Nat.le_of_ble_eq_true rfl) (kz198 Ln) h (fun z => rfl) (fun r3 φ3 α3 h => ?_)
    have g4 := h.1
    have h := h.2
    refine r_isub (pc' := 16) (kX11_spillOf_0 9 rfl) rfl g4 ?_
    refine r_goto (pc' := 20) (kX11_spillOf_0 10 rfl) rfl ?_
    exact s_iret (kX11_spillOf_0 12 rfl) rfl h
theorem vX11_isTold_0 {d : Nat} {φ : aF} {α : aA} {Q : Int → aF → aA → Prop} {x1 : Int} {x2 : Int} {x3 : Int} (h : (eX11_spillOf d x1 x3 φ α (fun r1 φ1 α1 =>
   inR (5 * x1) ∧ inR (2 + (5 * x1)) ∧ inR ((2 + (5 * x1)) + x2) ∧ (0 ≤ ((2 + (5 * x1)) + x2) ∧ ((2 + (5 * x1)) + x2) < (169 : Nat)) ∧ inR (x3 - r1) ∧ inR ((α1 233 ((2 + (5 * x1)) + x2)) + (x3 - r1)) ∧ inR (3 * x2) ∧ inR (36 + (3 * x2)) ∧ (0 ≤ (36 + (3 * x2)) ∧ (36 + (3 * x2)) < (169 : Nat)) ∧ inR (((upa α1 233 ((2 + (5 * x1)) + x2) ((α1 233 ((2 + (5 * x1)) + x2)) + (x3 - r1))) 233 (36 + (3 * x2))) + r1) ∧ (Q r1 φ1 (upa (upa α1 233 ((2 + (5 * x1)) + x2) ((α1 233 ((2 + (5 * x1)) + x2)) + (x3 - r1))) 233 (36 + (3 * x2)) (((upa α1 233 ((2 + (5 * x1)) + x2) ((α1 233 ((2 + (5 * x1)) + x2)) + (x3 - r1))) 233 (36 + (3 * x2))) + r1)))))) : eX11_isTold (d + 1) x1 x2 x3 φ α Q := by
  intro Ln
  refine r_aload_n (pc' := 1) (kX11_isTold_0 0 rfl) rfl rfl ?_
  refine r_iload_n (pc' := 2) (kX11_isTold_0 1 rfl) rfl rfl ?_
  refine r_iload_n (pc' := 3) (kX11_isTold_0 2 rfl) rfl rfl ?_
  refine s_callV (As := [(0, x1), (0, x3)]) (o := 198) (S := []) (S2 := fun z => [(0, z)]) (pc' := 6) (kX11_isTold_0 3 rfl) rfl rfl nkX11_spillOf mlX11_518 imX11_spillOf rfl slX11_spillOf rfl (Nat.le_of_ble_eq_true rfl) (Nat.le_of_ble_eq_true rfl) (kz198 Ln) h (fun z => rfl) (fun r1 φ1 α1 h => ?_)
  refine r_istore (L' := [(2, 198), (0, x1), (0, x2), (0, x3), (0, r1)]) (pc' := 8) (kX11_isTold_0 4 rfl) rfl (Nat.le_of_ble_eq_true rfl) rfl ?_
  refine r_aload_n (pc' := 9) (kX11_isTold_0 5 rfl) rfl rfl ?_
  refine s_getr (v := 233) (pc' := 12) (kX11_isTold_0 6 rfl) rfl fkX11_118 rfl rfl (kz198 Ln) rfl (by decide) ?_
  refine r_iconst 2 (pc' := 13) (kX11_isTold_0 7 rfl) rfl (by unfold inR; omega) ?_
  refine r_iconst 5 (pc' := 14) (kX11_isTold_0 8 rfl) rfl (by unfold inR; omega) ?_
  refine r_iload_n (pc' := 15) (kX11_isTold_0 9 rfl) rfl rfl ?_
  have g2 := h.1
  have h := h.2
  refine r_imul (pc' := 16) (kX11_isTold_0 10 rfl) rfl g2 ?_
  have g3 := h.1
  have h := h.2
  refine r_iadd (pc' := 17) (kX11_isTold_0 11 rfl) rfl g3 ?_
  refine r_iload_n (pc' := 18) (kX11_isTold_0 12 rfl) rfl rfl ?_
  have g4 := h.1
  have h := h.2
  refine r_iadd (pc' := 19) (kX11_isTold_0 13 rfl) rfl g4 ?_
  refine r_dup2 (pc' := 20) (kX11_isTold_0 14 rfl) rfl rfl rfl ?_
  have g5 := h.1
  have h := h.2
  refine s_iald (x := (α1 233 ((2 + (5 * x1)) + x2))) (pc' := 21) (kX11_isTold_0 15 rfl) rfl (kz233 Ln) g5 rfl ?_
  refine r_iload_n (pc' := 22) (kX11_isTold_0 16 rfl) rfl rfl ?_
  refine r_iload (pc' := 24) (kX11_isTold_0 17 rfl) rfl rfl ?_
  have g6 := h.1
  have h := h.2
  refine r_isub (pc' := 25) (kX11_isTold_0 18 rfl) rfl g6 ?_
  have g7 := h.1
  have h := h.2
  refine r_iadd (pc' := 26) (kX11_isTold_0 19 rfl) rfl g7 ?_
  refine s_iast (pc' := 27) (kX11_isTold_0 20 rfl) rfl (kz233 Ln) g5 ?_
  refine r_aload_n (pc' := 28) (kX11_isTold_0 21 rfl) rfl rfl ?_
  refine s_getr (v := 233) (pc' := 31) (kX11_isTold_0 22 rfl) rfl fkX11_118 rfl rfl (kz198 Ln) rfl (by decide) ?_
  refine r_bipush 36 (pc' := 33) (kX11_isTold_0 23 rfl) rfl ⟨by unfold inR; omega, rfl⟩ ?_
  refine r_iconst 3 (pc' := 34) (kX11_isTold_0 24 rfl) rfl (by unfold inR; omega) ?_
  refine r_iload_n (pc' := 35) (kX11_isTold_0 25 rfl) rfl rfl ?_
  have g8 := h.1
  have h := h.2
  refine r_imul (pc' := 36) (kX11_isTold_0 26 rfl) rfl g8 ?_
  have g9 := h.1
  have h := h.2
  refine r_iadd (pc' := 37) (kX11_isTold_0 27 rfl) rfl g9 ?_
  refine r_dup2 (pc' := 38) (kX11_isTold_0 28 rfl) rfl rfl rfl ?_
  have g10 := h.1
  have h := h.2
  refine s_iald (x := ((upa α1 233 ((2 + (5 * x1)) + x2) ((α1 233 ((2 + (5 * x1)) + x2)) + (x3 - r1))) 233 (36 + (3 * x2)))) (pc' := 39) (kX11_isTold_0 29 rfl) rfl (kz233 Ln) g10 rfl ?_
  refine r_iload (pc' := 41) (kX11_isTold_0 30 rfl) rfl rfl ?_
  have g11 := h.1
  have h := h.2
  refine r_iadd (pc' := 42) (kX11_isTold_0 31 rfl) rfl g11 ?_
  refine s_iast (pc' := 43) (kX11_isTold_0 32 rfl) rfl (kz233 Ln) g10 ?_
  refine r_iload (pc' := 45) (kX11_isTold_0 33 rfl) rfl rfl ?_
  exact s_iret (kX11_isTold_0 34 rfl) rfl h
abbrev jX11_laysSources_11 (d : Nat) (x1 x2 x3 : Int) (φ : aF) (α : aA) (Q : Int → aF → aA → Prop) : Prop := R0 d mX11_laysSources 11 [(2, 198), (0, x1), (0, x2), (0, x3), (9, 0), (9, 0), (9, 0)] [] φ α Q
theorem vX11_laysSources_0 {d : Nat} {φ : aF} {α : aA} {Q : Int → aF → aA → Prop} {x1 : Int} {x2 : Int} (h : (eX11_putsAside d  (upf φ 11 58 198 0) α (fun r1 φ1 α1 =>
   (jX11_laysSources_11 (d + 1) x1 x2 0 φ1 α1 Q)))) : eX11_laysSources (d + 1) x1 x2 φ α Q := by
  intro Ln
  refine r_aload_n (pc' := 1) (kX11_laysSources_0 0 rfl) rfl rfl ?_
  refine r_iconst 0 (pc' := 2) (kX11_laysSources_0 1 rfl) rfl (by unfold inR; omega) ?_
  refine s_put (pc' := 5) (kX11_laysSources_0 2 rfl) rfl fkX11_521 fnX11_58 rfl pk_int (kz198 Ln) ?_
  refine r_aload_n (pc' := 6) (kX11_laysSources_0 3 rfl) rfl rfl ?_
  refine s_callV (As := []) (o := 198) (S := []) (S2 := fun z => []) (pc' := 9) (kX11_laysSources_0 4 rfl) rfl rfl nkX11_putsAside mlX11_487 imX11_putsAside rfl slX11_putsAside rfl (Nat.le_of_ble_eq_true rfl) (Nat.le_of_ble_eq_true rfl) (kz198 Ln) h (fun z => rfl) (fun r1 φ1 α1 h => ?_)
  refine r_iconst 0 (pc' := 10) (kX11_laysSources_0 5 rfl) rfl (by unfold inR; omega) ?_
  refine r_istore_n (L' := [(2, 198), (0, x1), (0, x2), (0, 0), (9, 0), (9, 0), (9, 0)]) (pc' := 11) (kX11_laysSources_0 6 rfl) rfl (Nat.le_of_ble_eq_true rfl) rfl ?_
  exact r_weak (L' := [(2, 198), (0, x1), (0, x2), (0, 0), (9, 0), (9, 0), (9, 0)]) ⟨Or.inl rfl, Or.inl rfl, Or.inl rfl, Or.inl rfl, Or.inr (by decide), Or.inr (by decide), Or.inr (by decide), trivial⟩ (h Ln)
abbrev jX11_laysSources_60 (d : Nat) (x1 x2 x3 x4 x5 : Int) (φ : aF) (α : aA) (Q : Int → aF → aA → Prop) : Prop := R0 d mX11_laysSources 60 [(2, 198), (0, x1), (0, x2), (0, x3), (0, x4), (0, x5), (9, 0)] [] φ α Q
theorem vX11_laysSources_11 {d : Nat} {φ : aF} {α : aA} {Q : Int → aF → aA → Prop} {x1 : Int} {x2 : Int} {x3 : Int} (h : (eX11_clerkMany d  φ α (fun r1 φ1 α1 =>
   ((r1 ≤ x3 →
   (eX11_takesBack d  φ1 α1 (fun r3 φ3 α3 =>
     (Q 0 φ3 α3)))) ∧
   (¬ (r1 ≤ x3) →
   (eX11_floorOf d x1 φ1 α1 (fun r4 φ4 α4 =>
     (eX11_spillOf d x3 x2 φ4 α4 (fun r5 φ5 α5 =>
     inR (r4 + r5) ∧ ((9999 < (r4 + r5) →
     (jX11_laysSources_60 (d + 1) x1 x2 x3 0 0 φ5 α5 Q)) ∧
     (¬ (9999 < (r4 + r5)) →
     (eX11_isTold d x3 x1 x2 φ5 α5 (fun r8 φ8 α8 =>
       (jX11_laysSources_60 (d + 1) x1 x2 x3 1 0 φ8 α8 Q)))))))))))))) : jX11_laysSources_11 (d + 1) x1 x2 x3 φ α Q := by
  intro Ln
  refine r_iload_n (pc' := 12) (kX11_laysSources_0 7 rfl) rfl rfl ?_
  refine r_aload_n (pc' := 13) (kX11_laysSources_0 8 rfl) rfl rfl ?_
  refine s_callV (As := []) (o := 198) (S := [(0, x3)]) (S2 := fun z => [(0, z), (0, x3)]) (pc' := 16) (kX11_laysSources_0 9 rfl) rfl rfl nkX11_clerkMany mlX11_376 imX11_clerkMany rfl slX11_clerkMany rfl (Nat.le_of_ble_eq_true rfl) (Nat.le_of_ble_eq_true rfl) (kz198 Ln) h (fun z => rfl) (fun r1 φ1 α1 h => ?_)
  refine r_icmp_ge (t := 162) (pc' := 19) (kX11_laysSources_0 10 rfl) rfl rfl (fun c2 => ?_) (fun c2 => ?_)
  · have h := h.1 c2
    refine r_aload_n (pc' := 163) (kX11_laysSources_1 27 rfl) rfl rfl ?_
    refine s_callV (As := []) (o := 198) (S := []) (S2 := fun z => []) (pc' := 166) (kX11_laysSources_1 28 rfl) rfl rfl nkX11_takesBack mlX11_493 imX11_takesBack rfl slX11_takesBack rfl (Nat.le_of_ble_eq_true rfl) (Nat.le_of_ble_eq_true rfl) (kz198 Ln) h (fun z => rfl) (fun r3 φ3 α3 h => ?_)
    exact s_vret (kX11_laysSources_1 29 rfl) rfl h
  · have h := h.2 c2
    refine r_aload_n (pc' := 20) (kX11_laysSources_0 11 rfl) rfl rfl ?_
    refine r_iload_n (pc' := 21) (kX11_laysSources_0 12 rfl) rfl rfl ?_
    refine s_callV (As := [(0, x1)]) (o := 198) (S := []) (S2 := fun z => [(0, z)]) (pc' := 24) (kX11_laysSources_0 13 rfl) rfl rfl nkX11_floorOf mlX11_398 imX11_floorOf rfl slX11_floorOf rfl (Nat.le_of_ble_eq_true rfl) (Nat.le_of_ble_eq_true rfl) (kz198 Ln) h (fun z => rfl) (fun r4 φ4 α4 h => ?_)
    refine r_aload_n (pc' := 25) (kX11_laysSources_0 14 rfl) rfl rfl ?_
    refine r_iload_n (pc' := 26) (kX11_laysSources_0 15 rfl) rfl rfl ?_
    refine r_iload_n (pc' := 27) (kX11_laysSources_0 16 rfl) rfl rfl ?_
    refine s_callV (As := [(0, x3), (0, x2)]) (o := 198) (S := [(0, r4)]) (S2 := fun z => [(0, z), (0, r4)]) (pc' := 30) (kX11_laysSources_0 17 rfl) rfl rfl nkX11_spillOf mlX11_518 imX11_spillOf rfl slX11_spillOf rfl (Nat.le_of_ble_eq_true rfl) (Nat.le_of_ble_eq_true rfl) (kz198 Ln) h (fun z => rfl) (fun r5 φ5 α5 h => ?_)
    have g6 := h.1
    have h := h.2
    refine r_iadd (pc' := 31) (kX11_laysSources_0 18 rfl) rfl g6 ?_
    refine r_sipush 9999 (pc' := 34) (kX11_laysSources_0 19 rfl) rfl ⟨by unfold inR; omega, rfl⟩ ?_
    refine r_icmp_gt (t := 41) (pc' := 37) (kX11_laysSources_0 20 rfl) rfl rfl (fun c7 => ?_) (fun c7 => ?_)
    · have h := h.1 c7
      refine r_iconst 0 (pc' := 42) (kX11_laysSources_0 23 rfl) rfl (by unfold inR; omega) ?_
      refine r_istore (L' := [(2, 198), (0, x1), (0, x2), (0, x3), (0, 0), (9, 0), (9, 0)]) (pc' := 44) (kX11_laysSources_0 24 rfl) rfl (Nat.le_of_ble_eq_true rfl) rfl ?_
      refine r_iload (pc' := 46) (kX11_laysSources_0 25 rfl) rfl rfl ?_
      refine r_if_eq (t := 57) (pc' := 49) (kX11_laysSources_0 26 rfl) rfl rfl (fun _ => ?_) (fun cz => absurd cz (by decide))
      refine r_iconst 0 (pc' := 58) (kX11_laysSources_0 33 rfl) rfl (by unfold inR; omega) ?_
      refine r_istore (L' := [(2, 198), (0, x1), (0, x2), (0, x3), (0, 0), (0, 0), (9, 0)]) (pc' := 60) (kX11_laysSources_0 34 rfl) rfl (Nat.le_of_ble_eq_true rfl) rfl ?_
      exact r_weak (L' := [(2, 198), (0, x1), (0, x2), (0, x3), (0, 0), (0, 0), (9, 0)]) ⟨Or.inl rfl, Or.inl rfl, Or.inl rfl, Or.inl rfl, Or.inl rfl, Or.inl rfl, Or.inr (by decide), trivial⟩ (h Ln)
    · have h := h.2 c7
      refine r_iconst 1 (pc' := 38) (kX11_laysSources_0 21 rfl) rfl (by unfold inR; omega) ?_
      refine r_goto (pc' := 42) (kX11_laysSources_0 22 rfl) rfl ?_
      refine r_istore (L' := [(2, 198), (0, x1), (0, x2), (0, x3), (0, 1), (9, 0), (9, 0)]) (pc' := 44) (kX11_laysSources_0 24 rfl) rfl (Nat.le_of_ble_eq_true rfl) rfl ?_
      refine r_iload (pc' := 46) (kX11_laysSources_0 25 rfl) rfl rfl ?_
      refine r_if_eq (t := 57) (pc' := 49) (kX11_laysSources_0 26 rfl) rfl rfl (fun cz => absurd cz (by decide)) (fun _ => ?_)
      refine r_aload_n (pc' := 50) (kX11_laysSources_0 27 rfl) rfl rfl ?_
      refine r_iload_n (pc' := 51) (kX11_laysSources_0 28 rfl) rfl rfl ?_
      refine r_iload_n (pc' := 52) (kX11_laysSources_0 29 rfl) rfl rfl ?_
      refine r_iload_n (pc' := 53) (kX11_laysSources_0 30 rfl) rfl rfl ?_
      refine s_callV (As := [(0, x3), (0, x1), (0, x2)]) (o := 198) (S := []) (S2 := fun z => [(0, z)]) (pc' := 56) (kX11_laysSources_0 31 rfl) rfl rfl nkX11_isTold mlX11_524 imX11_isTold rfl slX11_isTold rfl (Nat.le_of_ble_eq_true rfl) (Nat.le_of_ble_eq_true rfl) (kz198 Ln) h (fun z => rfl) (fun r8 φ8 α8 h => ?_)
      refine r_pop (pc' := 57) (kX11_laysSources_0 32 rfl) rfl rfl ?_
      refine r_iconst 0 (pc' := 58) (kX11_laysSources_0 33 rfl) rfl (by unfold inR; omega) ?_
      refine r_istore (L' := [(2, 198), (0, x1), (0, x2), (0, x3), (0, 1), (0, 0), (9, 0)]) (pc' := 60) (kX11_laysSources_0 34 rfl) rfl (Nat.le_of_ble_eq_true rfl) rfl ?_
      exact r_weak (L' := [(2, 198), (0, x1), (0, x2), (0, x3), (0, 1), (0, 0), (9, 0)]) ⟨Or.inl rfl, Or.inl rfl, Or.inl rfl, Or.inl rfl, Or.inl rfl, Or.inl rfl, Or.inr (by decide), trivial⟩ (h Ln)
abbrev jX11_laysSources_83 (d : Nat) (x1 x2 x3 x4 x5 x6 : Int) (φ : aF) (α : aA) (Q : Int → aF → aA → Prop) : Prop := R0 d mX11_laysSources 83 [(2, 198), (0, x1), (0, x2), (0, x3), (0, x4), (0, x5), (0, x6)] [] φ α Q
theorem vX11_laysSources_60 {d : Nat} {φ : aF} {α : aA} {Q : Int → aF → aA → Prop} {x1 : Int} {x2 : Int} {x3 : Int} {x4 : Int} {x5 : Int} (h : ((30 < x5 →
   ((x4 = 0 →
     (eX11_triesAnew d  φ α (fun r3 φ3 α3 =>
       inR (x3 + 1) ∧ (jX11_laysSources_11 (d + 1) x1 x2 (x3 + 1) φ3 α3 Q)))) ∧
     (¬ (x4 = 0) →
     (eX11_triesAnew d  (upf φ 11 58 198 (iOr (φ 11 58 198) (iShl 1 x3))) α (fun r5 φ5 α5 =>
       inR (x3 + 1) ∧ (jX11_laysSources_11 (d + 1) x1 x2 (x3 + 1) φ5 α5 Q)))))) ∧
   (¬ (30 < x5) →
   ((x4 = 0 →
     (eX11_triesAnew d  φ α (fun r8 φ8 α8 =>
       inR (x3 + 1) ∧ (jX11_laysSources_11 (d + 1) x1 x2 (x3 + 1) φ8 α8 Q)))) ∧
     (¬ (x4 = 0) →
     (eX11_isAsSeen d x5 φ α (fun r10 φ10 α10 =>
       (jX11_laysSources_83 (d + 1) x1 x2 x3 r10 x5 0 φ10 α10 Q)))))))) : jX11_laysSources_60 (d + 1) x1 x2 x3 x4 x5 φ α Q := by
  intro Ln
  refine r_iload (pc' := 62) (kX11_laysSources_0 35 rfl) rfl rfl ?_
  refine r_bipush 30 (pc' := 64) (kX11_laysSources_0 36 rfl) rfl ⟨by unfold inR; omega, rfl⟩ ?_
  refine r_icmp_gt (t := 135) (pc' := 67) (kX11_laysSources_0 37 rfl) rfl rfl (fun c1 => ?_) (fun c1 => ?_)
  · have h := h.1 c1
    refine r_iload (pc' := 137) (kX11_laysSources_1 13 rfl) rfl rfl ?_
    refine r_if_eq (t := 152) (pc' := 140) (kX11_laysSources_1 14 rfl) rfl rfl (fun c2 => ?_) (fun c2 => ?_)
    · have h := h.1 c2
      refine r_aload_n (pc' := 153) (kX11_laysSources_1 23 rfl) rfl rfl ?_
      refine s_callV (As := []) (o := 198) (S := []) (S2 := fun z => []) (pc' := 156) (kX11_laysSources_1 24 rfl) rfl rfl nkX11_triesAnew mlX11_453 imX11_triesAnew rfl slX11_triesAnew rfl (Nat.le_of_ble_eq_true rfl) (Nat.le_of_ble_eq_true rfl) (kz198 Ln) h (fun z => rfl) (fun r3 φ3 α3 h => ?_)
      have g4 := h.1
      have h := h.2
      refine r_iinc (L' := [(2, 198), (0, x1), (0, x2), (0, (x3 + 1)), (0, x4), (0, x5), (9, 0)]) (pc' := 159) (kX11_laysSources_1 25 rfl) rfl (Nat.le_of_ble_eq_true rfl) rfl g4 rfl ?_
      refine r_goto (pc' := 11) (kX11_laysSources_1 26 rfl) rfl ?_
      exact r_weak (L' := [(2, 198), (0, x1), (0, x2), (0, (x3 + 1)), (9, 0), (9, 0), (9, 0)]) ⟨Or.inl rfl, Or.inl rfl, Or.inl rfl, Or.inl rfl, Or.inr (by decide), Or.inr (by decide), Or.inr (by decide), trivial⟩ (h Ln)
    · have h := h.2 c2
      refine r_aload_n (pc' := 141) (kX11_laysSources_1 15 rfl) rfl rfl ?_
      refine r_dup (pc' := 142) (kX11_laysSources_1 16 rfl) rfl rfl ?_
      refine s_get (x := (φ 11 58 198)) (pc' := 145) (kX11_laysSources_1 17 rfl) rfl fkX11_521 rfl rfl rfl (kz198 Ln) rfl ?_
      refine r_iconst 1 (pc' := 146) (kX11_laysSources_1 18 rfl) rfl (by unfold inR; omega) ?_
      refine r_iload_n (pc' := 147) (kX11_laysSources_1 19 rfl) rfl rfl ?_
      refine r_ishl (pc' := 148) (kX11_laysSources_1 20 rfl) rfl ?_
      refine r_ior (pc' := 149) (kX11_laysSources_1 21 rfl) rfl ?_
      refine s_put (pc' := 152) (kX11_laysSources_1 22 rfl) rfl fkX11_521 fnX11_58 rfl pk_int (kz198 Ln) ?_
      refine r_aload_n (pc' := 153) (kX11_laysSources_1 23 rfl) rfl rfl ?_
      refine s_callV (As := []) (o := 198) (S := []) (S2 := fun z => []) (pc' := 156) (kX11_laysSources_1 24 rfl) rfl rfl nkX11_triesAnew mlX11_453 imX11_triesAnew rfl slX11_triesAnew rfl (Nat.le_of_ble_eq_true rfl) (Nat.le_of_ble_eq_true rfl) (kz198 Ln) h (fun z => rfl) (fun r5 φ5 α5 h => ?_)
      have g6 := h.1
      have h := h.2
      refine r_iinc (L' := [(2, 198), (0, x1), (0, x2), (0, (x3 + 1)), (0, x4), (0, x5), (9, 0)]) (pc' := 159) (kX11_laysSources_1 25 rfl) rfl (Nat.le_of_ble_eq_true rfl) rfl g6 rfl ?_
      refine r_goto (pc' := 11) (kX11_laysSources_1 26 rfl) rfl ?_
      exact r_weak (L' := [(2, 198), (0, x1), (0, x2), (0, (x3 + 1)), (9, 0), (9, 0), (9, 0)]) ⟨Or.inl rfl, Or.inl rfl, Or.inl rfl, Or.inl rfl, Or.inr (by decide), Or.inr (by decide), Or.inr (by decide), trivial⟩ (h Ln)
  · have h := h.2 c1
    refine r_iload (pc' := 69) (kX11_laysSources_0 38 rfl) rfl rfl ?_
    refine r_if_eq (t := 135) (pc' := 72) (kX11_laysSources_0 39 rfl) rfl rfl (fun c7 => ?_) (fun c7 => ?_)
    · have h := h.1 c7
      refine r_iload (pc' := 137) (kX11_laysSources_1 13 rfl) rfl rfl ?_
      refine r_if_eq (t := 152) (pc' := 140) (kX11_laysSources_1 14 rfl) rfl rfl (fun _ => ?_) (fun cz => absurd c7 cz)
      refine r_aload_n (pc' := 153) (kX11_laysSources_1 23 rfl) rfl rfl ?_
      refine s_callV (As := []) (o := 198) (S := []) (S2 := fun z => []) (pc' := 156) (kX11_laysSources_1 24 rfl) rfl rfl nkX11_triesAnew mlX11_453 imX11_triesAnew rfl slX11_triesAnew rfl (Nat.le_of_ble_eq_true rfl) (Nat.le_of_ble_eq_true rfl) (kz198 Ln) h (fun z => rfl) (fun r8 φ8 α8 h => ?_)
      have g9 := h.1
      have h := h.2
      refine r_iinc (L' := [(2, 198), (0, x1), (0, x2), (0, (x3 + 1)), (0, x4), (0, x5), (9, 0)]) (pc' := 159) (kX11_laysSources_1 25 rfl) rfl (Nat.le_of_ble_eq_true rfl) rfl g9 rfl ?_
      refine r_goto (pc' := 11) (kX11_laysSources_1 26 rfl) rfl ?_
      exact r_weak (L' := [(2, 198), (0, x1), (0, x2), (0, (x3 + 1)), (9, 0), (9, 0), (9, 0)]) ⟨Or.inl rfl, Or.inl rfl, Or.inl rfl, Or.inl rfl, Or.inr (by decide), Or.inr (by decide), Or.inr (by decide), trivial⟩ (h Ln)
    · have h := h.2 c7
      refine r_aload_n (pc' := 73) (kX11_laysSources_0 40 rfl) rfl rfl ?_
      refine r_iload (pc' := 75) (kX11_laysSources_0 41 rfl) rfl rfl ?_
      refine s_callV (As := [(0, x5)]) (o := 198) (S := []) (S2 := fun z => [(0, z)]) (pc' := 78) (kX11_laysSources_0 42 rfl) rfl rfl nkX11_isAsSeen mlX11_527 imX11_isAsSeen rfl slX11_isAsSeen rfl (Nat.le_of_ble_eq_true rfl) (Nat.le_of_ble_eq_true rfl) (kz198 Ln) h (fun z => rfl) (fun r10 φ10 α10 h => ?_)
      refine r_istore (L' := [(2, 198), (0, x1), (0, x2), (0, x3), (0, r10), (0, x5), (9, 0)]) (pc' := 80) (kX11_laysSources_0 43 rfl) rfl (Nat.le_of_ble_eq_true rfl) rfl ?_
      refine r_iconst 0 (pc' := 81) (kX11_laysSources_0 44 rfl) rfl (by unfold inR; omega) ?_
      refine r_istore (L' := [(2, 198), (0, x1), (0, x2), (0, x3), (0, r10), (0, x5), (0, 0)]) (pc' := 83) (kX11_laysSources_0 45 rfl) rfl (Nat.le_of_ble_eq_true rfl) rfl ?_
      exact r_weak (L' := [(2, 198), (0, x1), (0, x2), (0, x3), (0, r10), (0, x5), (0, 0)]) ⟨Or.inl rfl, Or.inl rfl, Or.inl rfl, Or.inl rfl, Or.inl rfl, Or.inl rfl, Or.inl rfl, trivial⟩ (h Ln)
theorem vX11_laysSources_83 {d : Nat} {φ : aF} {α : aA} {Q : Int → aF → aA → Prop} {x1 : Int} {x2 : Int} {x3 : Int} {x4 : Int} {x5 : Int} {x6 : Int} (h : (eX11_clerkMany d  φ α (fun r1 φ1 α1 =>
   ((r1 ≤ x6 →
   (eX11_dayGoes d 0 φ1 α1 (fun r3 φ3 α3 =>
     inR (x5 + 1) ∧ (jX11_laysSources_60 (d + 1) x1 x2 x3 x4 (x5 + 1) φ3 α3 Q)))) ∧
   (¬ (r1 ≤ x6) →
   inR (217 * x3) ∧ inR (7 * x5) ∧ inR ((217 * x3) + (7 * x5)) ∧ inR (((217 * x3) + (7 * x5)) + x6) ∧ (eX11_dropsOf d x6 x1 φ1 α1 (fun r9 φ9 α9 =>
     (0 ≤ (((217 * x3) + (7 * x5)) + x6) ∧ (((217 * x3) + (7 * x5)) + x6) < (1519 : Nat)) ∧ inR (x6 + 1) ∧ (jX11_laysSources_83 (d + 1) x1 x2 x3 x4 x5 (x6 + 1) φ9 (upa α9 237 (((217 * x3) + (7 * x5)) + x6) r9) Q)))))))) : jX11_laysSources_83 (d + 1) x1 x2 x3 x4 x5 x6 φ α Q := by
  intro Ln
  refine r_iload (pc' := 85) (kX11_laysSources_0 46 rfl) rfl rfl ?_
  refine r_aload_n (pc' := 86) (kX11_laysSources_0 47 rfl) rfl rfl ?_
  refine s_callV (As := []) (o := 198) (S := [(0, x6)]) (S2 := fun z => [(0, z), (0, x6)]) (pc' := 89) (kX11_laysSources_0 48 rfl) rfl rfl nkX11_clerkMany mlX11_376 imX11_clerkMany rfl slX11_clerkMany rfl (Nat.le_of_ble_eq_true rfl) (Nat.le_of_ble_eq_true rfl) (kz198 Ln) h (fun z => rfl) (fun r1 φ1 α1 h => ?_)
  refine r_icmp_ge (t := 124) (pc' := 92) (kX11_laysSources_0 49 rfl) rfl rfl (fun c2 => ?_) (fun c2 => ?_)
  · have h := h.1 c2
    refine r_aload_n (pc' := 125) (kX11_laysSources_1 8 rfl) rfl rfl ?_
    refine r_iconst 0 (pc' := 126) (kX11_laysSources_1 9 rfl) rfl (by unfold inR; omega) ?_
    refine s_callV (As := [(0, 0)]) (o := 198) (S := []) (S2 := fun z => []) (pc' := 129) (kX11_laysSources_1 10 rfl) rfl rfl nkX11_dayGoes mlX11_450 imX11_dayGoes rfl slX11_dayGoes rfl (Nat.le_of_ble_eq_true rfl) (Nat.le_of_ble_eq_true rfl) (kz198 Ln) h (fun z => rfl) (fun r3 φ3 α3 h => ?_)
    have g4 := h.1
    have h := h.2
    refine r_iinc (L' := [(2, 198), (0, x1), (0, x2), (0, x3), (0, x4), (0, (x5 + 1)), (0, x6)]) (pc' := 132) (kX11_laysSources_1 11 rfl) rfl (Nat.le_of_ble_eq_true rfl) rfl g4 rfl ?_
    refine r_goto (pc' := 60) (kX11_laysSources_1 12 rfl) rfl ?_
    exact r_weak (L' := [(2, 198), (0, x1), (0, x2), (0, x3), (0, x4), (0, (x5 + 1)), (9, 0)]) ⟨Or.inl rfl, Or.inl rfl, Or.inl rfl, Or.inl rfl, Or.inl rfl, Or.inl rfl, Or.inr (by decide), trivial⟩ (h Ln)
  · have h := h.2 c2
    refine r_aload_n (pc' := 93) (kX11_laysSources_0 50 rfl) rfl rfl ?_
    refine s_getr (v := 237) (pc' := 96) (kX11_laysSources_0 51 rfl) rfl fkX11_130 rfl rfl (kz198 Ln) rfl (by decide) ?_
    refine r_sipush 217 (pc' := 99) (kX11_laysSources_0 52 rfl) rfl ⟨by unfold inR; omega, rfl⟩ ?_
    refine r_iload_n (pc' := 100) (kX11_laysSources_0 53 rfl) rfl rfl ?_
    have g5 := h.1
    have h := h.2
    refine r_imul (pc' := 101) (kX11_laysSources_0 54 rfl) rfl g5 ?_
    refine r_bipush 7 (pc' := 103) (kX11_laysSources_0 55 rfl) rfl ⟨by unfold inR; omega, rfl⟩ ?_
    refine r_iload (pc' := 105) (kX11_laysSources_0 56 rfl) rfl rfl ?_
    have g6 := h.1
    have h := h.2
    refine r_imul (pc' := 106) (kX11_laysSources_0 57 rfl) rfl g6 ?_
    have g7 := h.1
    have h := h.2
    refine r_iadd (pc' := 107) (kX11_laysSources_0 58 rfl) rfl g7 ?_
    refine r_iload (pc' := 109) (kX11_laysSources_0 59 rfl) rfl rfl ?_
    have g8 := h.1
    have h := h.2
    refine r_iadd (pc' := 110) (kX11_laysSources_1 0 rfl) rfl g8 ?_
    refine r_aload_n (pc' := 111) (kX11_laysSources_1 1 rfl) rfl rfl ?_
    refine r_iload (pc' := 113) (kX11_laysSources_1 2 rfl) rfl rfl ?_
    refine r_iload_n (pc' := 114) (kX11_laysSources_1 3 rfl) rfl rfl ?_
    refine s_callV (As := [(0, x6), (0, x1)]) (o := 198) (S := [(0, (((217 * x3) + (7 * x5)) + x6)), (2, 237)]) (S2 := fun z => [(0, z), (0, (((217 * x3) + (7 * x5)) + x6)), (2, 237)]) (pc' := 117) (kX11_laysSources_1 4 rfl) rfl rfl nkX11_dropsOf mlX11_386 imX11_dropsOf rfl slX11_dropsOf rfl (Nat.le_of_ble_eq_true rfl) (Nat.le_of_ble_eq_true rfl) (kz198 Ln) h (fun z => rfl) (fun r9 φ9 α9 h => ?_)
    have g10 := h.1
    have h := h.2
    refine s_iast (pc' := 118) (kX11_laysSources_1 5 rfl) rfl (kz237 Ln) g10 ?_
    have g11 := h.1
    have h := h.2
    refine r_iinc (L' := [(2, 198), (0, x1), (0, x2), (0, x3), (0, x4), (0, x5), (0, (x6 + 1))]) (pc' := 121) (kX11_laysSources_1 6 rfl) rfl (Nat.le_of_ble_eq_true rfl) rfl g11 rfl ?_
    refine r_goto (pc' := 83) (kX11_laysSources_1 7 rfl) rfl ?_
    exact r_weak (L' := [(2, 198), (0, x1), (0, x2), (0, x3), (0, x4), (0, x5), (0, (x6 + 1))]) ⟨Or.inl rfl, Or.inl rfl, Or.inl rfl, Or.inl rfl, Or.inl rfl, Or.inl rfl, Or.inl rfl, trivial⟩ (h Ln)
theorem vX11_sources_0 {d : Nat} {φ : aF} {α : aA} {Q : Int → aF → aA → Prop} {x1 : Int} {x2 : Int} (h : (eX11_isMatter d x1 φ α (fun r1 φ1 α1 =>
   ((r1 = 0 →
   (Q (-1) φ1 α1)) ∧
   (¬ (r1 = 0) →
   (eX11_isIn d x2 0 99 φ1 α1 (fun r3 φ3 α3 =>
     ((¬ r3 = 0 →
     (eX11_laysSources d x1 x2 φ3 α3 (fun r5 φ5 α5 =>
       (Q (φ5 11 58 198) φ5 α5)))) ∧
     (r3 = 0 →
     (Q (-1) φ3 α3)))))))))) : eX11_sources (d + 1) x1 x2 φ α Q := by
  intro Ln
  refine r_aload_n (pc' := 1) (kX11_sources_0 0 rfl) rfl rfl ?_
  refine r_iload_n (pc' := 2) (kX11_sources_0 1 rfl) rfl rfl ?_
  refine r_i2l (pc' := 3) (kX11_sources_0 2 rfl) rfl ?_
  refine s_callV (As := [(1, x1)]) (o := 198) (S := []) (S2 := fun z => [(0, z)]) (pc' := 6) (kX11_sources_0 3 rfl) rfl rfl nkX11_isMatter mlX11_383 imX11_isMatter rfl slX11_isMatter rfl (Nat.le_of_ble_eq_true rfl) (Nat.le_of_ble_eq_true rfl) (kz198 Ln) h (fun z => rfl) (fun r1 φ1 α1 h => ?_)
  refine r_if_eq (t := 21) (pc' := 9) (kX11_sources_0 4 rfl) rfl rfl (fun c2 => ?_) (fun c2 => ?_)
  · have h := h.1 c2
    refine r_iconst (-1) (pc' := 22) (kX11_sources_0 11 rfl) rfl (by unfold inR; omega) ?_
    exact s_iret (kX11_sources_0 12 rfl) rfl h
  · have h := h.2 c2
    refine r_iload_n (pc' := 10) (kX11_sources_0 5 rfl) rfl rfl ?_
    refine r_i2l (pc' := 11) (kX11_sources_0 6 rfl) rfl ?_
    refine r_lconst 0 (pc' := 12) (kX11_sources_0 7 rfl) rfl ⟨by unfold inJ; omega, rfl⟩ ?_
    refine r_ldc2 99 (pc' := 15) (kX11_sources_0 8 rfl) rfl kcX11_530 (by unfold inJ; omega) ?_
    refine s_callS (As := [(1, x2), (1, 0), (1, 99)]) (S := []) (S2 := fun z => [(0, z)]) (pc' := 18) (kX11_sources_0 9 rfl) rfl rfl nkX11_isIn mlX11_270 scX11_isIn rfl (Nat.le_of_ble_eq_true rfl) (Nat.le_of_ble_eq_true rfl) h (fun z => rfl) (fun r3 φ3 α3 h => ?_)
    refine r_if_ne (t := 23) (pc' := 21) (kX11_sources_0 10 rfl) rfl rfl (fun c4 => ?_) (fun c4 => ?_)
    · have h := h.1 c4
      refine r_aload_n (pc' := 24) (kX11_sources_0 13 rfl) rfl rfl ?_
      refine r_iload_n (pc' := 25) (kX11_sources_0 14 rfl) rfl rfl ?_
      refine r_iload_n (pc' := 26) (kX11_sources_0 15 rfl) rfl rfl ?_
      refine s_callV (As := [(0, x1), (0, x2)]) (o := 198) (S := []) (S2 := fun z => []) (pc' := 29) (kX11_sources_0 16 rfl) rfl rfl nkX11_laysSources mlX11_532 imX11_laysSources rfl slX11_laysSources rfl (Nat.le_of_ble_eq_true rfl) (Nat.le_of_ble_eq_true rfl) (kz198 Ln) h (fun z => rfl) (fun r5 φ5 α5 h => ?_)
      refine r_aload_n (pc' := 30) (kX11_sources_0 17 rfl) rfl rfl ?_
      refine s_get (x := (φ5 11 58 198)) (pc' := 33) (kX11_sources_0 18 rfl) rfl fkX11_521 rfl rfl rfl (kz198 Ln) rfl ?_
      exact s_iret (kX11_sources_0 19 rfl) rfl h
    · have h := h.2 c4
      refine r_iconst (-1) (pc' := 22) (kX11_sources_0 11 rfl) rfl (by unfold inR; omega) ?_
      exact s_iret (kX11_sources_0 12 rfl) rfl h
abbrev jX11_mostAlike_13 (d : Nat) (x3 x4 x5 : Int) (φ : aF) (α : aA) (Q : Int → aF → aA → Prop) : Prop := R0 d mX11_mostAlike 13 [(2, 198), (9, 0), (9, 0), (0, x3), (0, x4), (0, x5), (9, 0), (9, 0)] [] φ α Q
theorem vX11_mostAlike_0 {d : Nat} {φ : aF} {α : aA} {Q : Int → aF → aA → Prop} {x1 : Int} {x2 : Int} (h : inR (7 * x1) ∧ inR ((7 * x1) + x2) ∧ (jX11_mostAlike_13 (d + 1) ((7 * x1) + x2) 0 0 φ α Q)) : eX11_mostAlike (d + 1) x1 x2 φ α Q := by
  intro Ln
  refine r_bipush 7 (pc' := 2) (kX11_mostAlike_0 0 rfl) rfl ⟨by unfold inR; omega, rfl⟩ ?_
  refine r_iload_n (pc' := 3) (kX11_mostAlike_0 1 rfl) rfl rfl ?_
  have g1 := h.1
  have h := h.2
  refine r_imul (pc' := 4) (kX11_mostAlike_0 2 rfl) rfl g1 ?_
  refine r_iload_n (pc' := 5) (kX11_mostAlike_0 3 rfl) rfl rfl ?_
  have g2 := h.1
  have h := h.2
  refine r_iadd (pc' := 6) (kX11_mostAlike_0 4 rfl) rfl g2 ?_
  refine r_istore_n (L' := [(2, 198), (0, x1), (0, x2), (0, ((7 * x1) + x2)), (9, 0), (9, 0), (9, 0), (9, 0)]) (pc' := 7) (kX11_mostAlike_0 5 rfl) rfl (Nat.le_of_ble_eq_true rfl) rfl ?_
  refine r_iconst 0 (pc' := 8) (kX11_mostAlike_0 6 rfl) rfl (by unfold inR; omega) ?_
  refine r_istore (L' := [(2, 198), (0, x1), (0, x2), (0, ((7 * x1) + x2)), (0, 0), (9, 0), (9, 0), (9, 0)]) (pc' := 10) (kX11_mostAlike_0 7 rfl) rfl (Nat.le_of_ble_eq_true rfl) rfl ?_
  refine r_iconst 0 (pc' := 11) (kX11_mostAlike_0 8 rfl) rfl (by unfold inR; omega) ?_
  refine r_istore (L' := [(2, 198), (0, x1), (0, x2), (0, ((7 * x1) + x2)), (0, 0), (0, 0), (9, 0), (9, 0)]) (pc' := 13) (kX11_mostAlike_0 9 rfl) rfl (Nat.le_of_ble_eq_true rfl) rfl ?_
  exact r_weak (L' := [(2, 198), (9, 0), (9, 0), (0, ((7 * x1) + x2)), (0, 0), (0, 0), (9, 0), (9, 0)]) ⟨Or.inl rfl, Or.inr (by decide), Or.inr (by decide), Or.inl rfl, Or.inl rfl, Or.inl rfl, Or.inr (by decide), Or.inr (by decide), trivial⟩ (h Ln)
abbrev jX11_mostAlike_43 (d : Nat) (x3 x4 x5 x6 x7 : Int) (φ : aF) (α : aA) (Q : Int → aF → aA → Prop) : Prop := R0 d mX11_mostAlike 43 [(2, 198), (9, 0), (9, 0), (0, x3), (0, x4), (0, x5), (0, x6), (0, x7)] [] φ α Q
theorem vX11_mostAlike_13 {d : Nat} {φ : aF} {α : aA} {Q : Int → aF → aA → Prop} {x3 : Int} {x4 : Int} {x5 : Int} (h : (eX11_clerkMany d  φ α (fun r1 φ1 α1 =>
   ((r1 ≤ x5 →
   (Q x4 φ1 α1)) ∧
   (¬ (r1 ≤ x5) →
   ((¬ (iAnd (iShr (φ1 11 58 198) x5) 1) = 0 →
     (jX11_mostAlike_43 (d + 1) x3 x4 x5 0 0 φ1 α1 Q)) ∧
     ((iAnd (iShr (φ1 11 58 198) x5) 1) = 0 →
     inR (x5 + 1) ∧ (jX11_mostAlike_13 (d + 1) x3 x4 (x5 + 1) φ1 α1 Q)))))))) : jX11_mostAlike_13 (d + 1) x3 x4 x5 φ α Q := by
  intro Ln
  refine r_iload (pc' := 15) (kX11_mostAlike_0 10 rfl) rfl rfl ?_
  refine r_aload_n (pc' := 16) (kX11_mostAlike_0 11 rfl) rfl rfl ?_
  refine s_callV (As := []) (o := 198) (S := [(0, x5)]) (S2 := fun z => [(0, z), (0, x5)]) (pc' := 19) (kX11_mostAlike_0 12 rfl) rfl rfl nkX11_clerkMany mlX11_376 imX11_clerkMany rfl slX11_clerkMany rfl (Nat.le_of_ble_eq_true rfl) (Nat.le_of_ble_eq_true rfl) (kz198 Ln) h (fun z => rfl) (fun r1 φ1 α1 h => ?_)
  refine r_icmp_ge (t := 120) (pc' := 22) (kX11_mostAlike_0 13 rfl) rfl rfl (fun c2 => ?_) (fun c2 => ?_)
  · have h := h.1 c2
    refine r_iload (pc' := 122) (kX11_mostAlike_1 5 rfl) rfl rfl ?_
    exact s_iret (kX11_mostAlike_1 6 rfl) rfl h
  · have h := h.2 c2
    refine r_aload_n (pc' := 23) (kX11_mostAlike_0 14 rfl) rfl rfl ?_
    refine s_get (x := (φ1 11 58 198)) (pc' := 26) (kX11_mostAlike_0 15 rfl) rfl fkX11_521 rfl rfl rfl (kz198 Ln) rfl ?_
    refine r_iload (pc' := 28) (kX11_mostAlike_0 16 rfl) rfl rfl ?_
    refine r_ishr (pc' := 29) (kX11_mostAlike_0 17 rfl) rfl ?_
    refine r_iconst 1 (pc' := 30) (kX11_mostAlike_0 18 rfl) rfl (by unfold inR; omega) ?_
    refine r_iand (pc' := 31) (kX11_mostAlike_0 19 rfl) rfl ?_
    refine r_if_ne (t := 37) (pc' := 34) (kX11_mostAlike_0 20 rfl) rfl rfl (fun c3 => ?_) (fun c3 => ?_)
    · have h := h.1 c3
      refine r_iconst 0 (pc' := 38) (kX11_mostAlike_0 22 rfl) rfl (by unfold inR; omega) ?_
      refine r_istore (L' := [(2, 198), (9, 0), (9, 0), (0, x3), (0, x4), (0, x5), (0, 0), (9, 0)]) (pc' := 40) (kX11_mostAlike_0 23 rfl) rfl (Nat.le_of_ble_eq_true rfl) rfl ?_
      refine r_iconst 0 (pc' := 41) (kX11_mostAlike_0 24 rfl) rfl (by unfold inR; omega) ?_
      refine r_istore (L' := [(2, 198), (9, 0), (9, 0), (0, x3), (0, x4), (0, x5), (0, 0), (0, 0)]) (pc' := 43) (kX11_mostAlike_0 25 rfl) rfl (Nat.le_of_ble_eq_true rfl) rfl ?_
      exact r_weak (L' := [(2, 198), (9, 0), (9, 0), (0, x3), (0, x4), (0, x5), (0, 0), (0, 0)]) ⟨Or.inl rfl, Or.inr (by decide), Or.inr (by decide), Or.inl rfl, Or.inl rfl, Or.inl rfl, Or.inl rfl, Or.inl rfl, trivial⟩ (h Ln)
    · have h := h.2 c3
      refine r_goto (pc' := 114) (kX11_mostAlike_0 21 rfl) rfl ?_
      have g4 := h.1
      have h := h.2
      refine r_iinc (L' := [(2, 198), (9, 0), (9, 0), (0, x3), (0, x4), (0, (x5 + 1)), (9, 0), (9, 0)]) (pc' := 117) (kX11_mostAlike_1 3 rfl) rfl (Nat.le_of_ble_eq_true rfl) rfl g4 rfl ?_
      refine r_goto (pc' := 13) (kX11_mostAlike_1 4 rfl) rfl ?_
      exact r_weak (L' := [(2, 198), (9, 0), (9, 0), (0, x3), (0, x4), (0, (x5 + 1)), (9, 0), (9, 0)]) ⟨Or.inl rfl, Or.inr (by decide), Or.inr (by decide), Or.inl rfl, Or.inl rfl, Or.inl rfl, Or.inr (by decide), Or.inr (by decide), trivial⟩ (h Ln)
theorem vX11_mostAlike_43 {d : Nat} {φ : aF} {α : aA} {Q : Int → aF → aA → Prop} {x3 : Int} {x4 : Int} {x5 : Int} {x6 : Int} {x7 : Int} (h : (eX11_clerkMany d  φ α (fun r1 φ1 α1 =>
   ((r1 ≤ x7 →
   ((x6 ≤ x4 →
     inR (x5 + 1) ∧ (jX11_mostAlike_13 (d + 1) x3 x4 (x5 + 1) φ1 α1 Q)) ∧
     (¬ (x6 ≤ x4) →
     inR (x5 + 1) ∧ (jX11_mostAlike_13 (d + 1) x3 x6 (x5 + 1) φ1 α1 Q)))) ∧
   (¬ (r1 ≤ x7) →
   ((¬ (iAnd (iShr (φ1 11 58 198) x7) 1) = 1 →
     inR (x7 + 1) ∧ (jX11_mostAlike_43 (d + 1) x3 x4 x5 x6 (x7 + 1) φ1 α1 Q)) ∧
     ((iAnd (iShr (φ1 11 58 198) x7) 1) = 1 →
     inR (217 * x5) ∧ inR ((217 * x5) + x3) ∧ (0 ≤ ((217 * x5) + x3) ∧ ((217 * x5) + x3) < (1519 : Nat)) ∧ inR (217 * x7) ∧ inR ((217 * x7) + x3) ∧ (0 ≤ ((217 * x7) + x3) ∧ ((217 * x7) + x3) < (1519 : Nat)) ∧ ((¬ (α1 237 ((217 * x5) + x3)) = (α1 237 ((217 * x7) + x3)) →
       inR (x7 + 1) ∧ (jX11_mostAlike_43 (d + 1) x3 x4 x5 x6 (x7 + 1) φ1 α1 Q)) ∧
       ((α1 237 ((217 * x5) + x3)) = (α1 237 ((217 * x7) + x3)) →
       inR (x6 + 1) ∧ inR (x7 + 1) ∧ (jX11_mostAlike_43 (d + 1) x3 x4 x5 (x6 + 1) (x7 + 1) φ1 α1 Q)))))))))) : jX11_mostAlike_43 (d + 1) x3 x4 x5 x6 x7 φ α Q := by
  intro Ln
  refine r_iload (pc' := 45) (kX11_mostAlike_0 26 rfl) rfl rfl ?_
  refine r_aload_n (pc' := 46) (kX11_mostAlike_0 27 rfl) rfl rfl ?_
  refine s_callV (As := []) (o := 198) (S := [(0, x7)]) (S2 := fun z => [(0, z), (0, x7)]) (pc' := 49) (kX11_mostAlike_0 28 rfl) rfl rfl nkX11_clerkMany mlX11_376 imX11_clerkMany rfl slX11_clerkMany rfl (Nat.le_of_ble_eq_true rfl) (Nat.le_of_ble_eq_true rfl) (kz198 Ln) h (fun z => rfl) (fun r1 φ1 α1 h => ?_)
  refine r_icmp_ge (t := 103) (pc' := 52) (kX11_mostAlike_0 29 rfl) rfl rfl (fun c2 => ?_) (fun c2 => ?_)
  · have h := h.1 c2
    refine r_iload (pc' := 105) (kX11_mostAlike_0 58 rfl) rfl rfl ?_
    refine r_iload (pc' := 107) (kX11_mostAlike_0 59 rfl) rfl rfl ?_
    refine r_icmp_le (t := 114) (pc' := 110) (kX11_mostAlike_1 0 rfl) rfl rfl (fun c3 => ?_) (fun c3 => ?_)
    · have h := h.1 c3
      have g4 := h.1
      have h := h.2
      refine r_iinc (L' := [(2, 198), (9, 0), (9, 0), (0, x3), (0, x4), (0, (x5 + 1)), (0, x6), (0, x7)]) (pc' := 117) (kX11_mostAlike_1 3 rfl) rfl (Nat.le_of_ble_eq_true rfl) rfl g4 rfl ?_
      refine r_goto (pc' := 13) (kX11_mostAlike_1 4 rfl) rfl ?_
      exact r_weak (L' := [(2, 198), (9, 0), (9, 0), (0, x3), (0, x4), (0, (x5 + 1)), (9, 0), (9, 0)]) ⟨Or.inl rfl, Or.inr (by decide), Or.inr (by decide), Or.inl rfl, Or.inl rfl, Or.inl rfl, Or.inr (by decide), Or.inr (by decide), trivial⟩ (h Ln)
    · have h := h.2 c3
      refine r_iload (pc' := 112) (kX11_mostAlike_1 1 rfl) rfl rfl ?_
      refine r_istore (L' := [(2, 198), (9, 0), (9, 0), (0, x3), (0, x6), (0, x5), (0, x6), (0, x7)]) (pc' := 114) (kX11_mostAlike_1 2 rfl) rfl (Nat.le_of_ble_eq_true rfl) rfl ?_
      have g5 := h.1
      have h := h.2
      refine r_iinc (L' := [(2, 198), (9, 0), (9, 0), (0, x3), (0, x6), (0, (x5 + 1)), (0, x6), (0, x7)]) (pc' := 117) (kX11_mostAlike_1 3 rfl) rfl (Nat.le_of_ble_eq_true rfl) rfl g5 rfl ?_
      refine r_goto (pc' := 13) (kX11_mostAlike_1 4 rfl) rfl ?_
      exact r_weak (L' := [(2, 198), (9, 0), (9, 0), (0, x3), (0, x6), (0, (x5 + 1)), (9, 0), (9, 0)]) ⟨Or.inl rfl, Or.inr (by decide), Or.inr (by decide), Or.inl rfl, Or.inl rfl, Or.inl rfl, Or.inr (by decide), Or.inr (by decide), trivial⟩ (h Ln)
  · have h := h.2 c2
    refine r_aload_n (pc' := 53) (kX11_mostAlike_0 30 rfl) rfl rfl ?_
    refine s_get (x := (φ1 11 58 198)) (pc' := 56) (kX11_mostAlike_0 31 rfl) rfl fkX11_521 rfl rfl rfl (kz198 Ln) rfl ?_
    refine r_iload (pc' := 58) (kX11_mostAlike_0 32 rfl) rfl rfl ?_
    refine r_ishr (pc' := 59) (kX11_mostAlike_0 33 rfl) rfl ?_
    refine r_iconst 1 (pc' := 60) (kX11_mostAlike_0 34 rfl) rfl (by unfold inR; omega) ?_
    refine r_iand (pc' := 61) (kX11_mostAlike_0 35 rfl) rfl ?_
    refine r_iconst 1 (pc' := 62) (kX11_mostAlike_0 36 rfl) rfl (by unfold inR; omega) ?_
    refine r_icmp_ne (t := 97) (pc' := 65) (kX11_mostAlike_0 37 rfl) rfl rfl (fun c6 => ?_) (fun c6 => ?_)
    · have h := h.1 c6
      have g7 := h.1
      have h := h.2
      refine r_iinc (L' := [(2, 198), (9, 0), (9, 0), (0, x3), (0, x4), (0, x5), (0, x6), (0, (x7 + 1))]) (pc' := 100) (kX11_mostAlike_0 56 rfl) rfl (Nat.le_of_ble_eq_true rfl) rfl g7 rfl ?_
      refine r_goto (pc' := 43) (kX11_mostAlike_0 57 rfl) rfl ?_
      exact r_weak (L' := [(2, 198), (9, 0), (9, 0), (0, x3), (0, x4), (0, x5), (0, x6), (0, (x7 + 1))]) ⟨Or.inl rfl, Or.inr (by decide), Or.inr (by decide), Or.inl rfl, Or.inl rfl, Or.inl rfl, Or.inl rfl, Or.inl rfl, trivial⟩ (h Ln)
    · have h := h.2 c6
      refine r_aload_n (pc' := 66) (kX11_mostAlike_0 38 rfl) rfl rfl ?_
      refine s_getr (v := 237) (pc' := 69) (kX11_mostAlike_0 39 rfl) rfl fkX11_130 rfl rfl (kz198 Ln) rfl (by decide) ?_
      refine r_sipush 217 (pc' := 72) (kX11_mostAlike_0 40 rfl) rfl ⟨by unfold inR; omega, rfl⟩ ?_
      refine r_iload (pc' := 74) (kX11_mostAlike_0 41 rfl) rfl rfl ?_
      have g8 := h.1
      have h := h.2
      refine r_imul (pc' := 75) (kX11_mostAlike_0 42 rfl) rfl g8 ?_
      refine r_iload_n (pc' := 76) (kX11_mostAlike_0 43 rfl) rfl rfl ?_
      have g9 := h.1
      have h := h.2
      refine r_iadd (pc' := 77) (kX11_mostAlike_0 44 rfl) rfl g9 ?_
      have g10 := h.1
      have h := h.2
      refine s_iald (x := (α1 237 ((217 * x5) + x3))) (pc' := 78) (kX11_mostAlike_0 45 rfl) rfl (kz237 Ln) g10 rfl ?_
      refine r_aload_n (pc' := 79) (kX11_mostAlike_0 46 rfl) rfl rfl ?_
      refine s_getr (v := 237) (pc' := 82) (kX11_mostAlike_0 47 rfl) rfl fkX11_130 rfl rfl (kz198 Ln) rfl (by decide) ?_
      refine r_sipush 217 (pc' := 85) (kX11_mostAlike_0 48 rfl) rfl ⟨by unfold inR; omega, rfl⟩ ?_
      refine r_iload (pc' := 87) (kX11_mostAlike_0 49 rfl) rfl rfl ?_
      have g11 := h.1
      have h := h.2
      refine r_imul (pc' := 88) (kX11_mostAlike_0 50 rfl) rfl g11 ?_
      refine r_iload_n (pc' := 89) (kX11_mostAlike_0 51 rfl) rfl rfl ?_
      have g12 := h.1
      have h := h.2
      refine r_iadd (pc' := 90) (kX11_mostAlike_0 52 rfl) rfl g12 ?_
      have g13 := h.1
      have h := h.2
      refine s_iald (x := (α1 237 ((217 * x7) + x3))) (pc' := 91) (kX11_mostAlike_0 53 rfl) rfl (kz237 Ln) g13 rfl ?_
      refine r_icmp_ne (t := 97) (pc' := 94) (kX11_mostAlike_0 54 rfl) rfl rfl (fun c14 => ?_) (fun c14 => ?_)
      · have h := h.1 c14
        have g15 := h.1
        have h := h.2
        refine r_iinc (L' := [(2, 198), (9, 0), (9, 0), (0, x3), (0, x4), (0, x5), (0, x6), (0, (x7 + 1))]) (pc' := 100) (kX11_mostAlike_0 56 rfl) rfl (Nat.le_of_ble_eq_true rfl) rfl g15 rfl ?_
        refine r_goto (pc' := 43) (kX11_mostAlike_0 57 rfl) rfl ?_
        exact r_weak (L' := [(2, 198), (9, 0), (9, 0), (0, x3), (0, x4), (0, x5), (0, x6), (0, (x7 + 1))]) ⟨Or.inl rfl, Or.inr (by decide), Or.inr (by decide), Or.inl rfl, Or.inl rfl, Or.inl rfl, Or.inl rfl, Or.inl rfl, trivial⟩ (h Ln)
      · have h := h.2 c14
        have g16 := h.1
        have h := h.2
        refine r_iinc (L' := [(2, 198), (9, 0), (9, 0), (0, x3), (0, x4), (0, x5), (0, (x6 + 1)), (0, x7)]) (pc' := 97) (kX11_mostAlike_0 55 rfl) rfl (Nat.le_of_ble_eq_true rfl) rfl g16 rfl ?_
        have g17 := h.1
        have h := h.2
        refine r_iinc (L' := [(2, 198), (9, 0), (9, 0), (0, x3), (0, x4), (0, x5), (0, (x6 + 1)), (0, (x7 + 1))]) (pc' := 100) (kX11_mostAlike_0 56 rfl) rfl (Nat.le_of_ble_eq_true rfl) rfl g17 rfl ?_
        refine r_goto (pc' := 43) (kX11_mostAlike_0 57 rfl) rfl ?_
        exact r_weak (L' := [(2, 198), (9, 0), (9, 0), (0, x3), (0, x4), (0, x5), (0, (x6 + 1)), (0, (x7 + 1))]) ⟨Or.inl rfl, Or.inr (by decide), Or.inr (by decide), Or.inl rfl, Or.inl rfl, Or.inl rfl, Or.inl rfl, Or.inl rfl, trivial⟩ (h Ln)
abbrev jX11_tells_53 (d : Nat) (x3 x4 x5 x6 x7 : Int) (φ : aF) (α : aA) (Q : Int → aF → aA → Prop) : Prop := R0 d mX11_tells 53 [(2, 198), (9, 0), (9, 0), (0, x3), (0, x4), (0, x5), (0, x6), (0, x7), (9, 0), (9, 0)] [] φ α Q
theorem vX11_tells_0 {d : Nat} {φ : aF} {α : aA} {Q : Int → aF → aA → Prop} {x1 : Int} {x2 : Int} {x3 : Int} (h : (eX11_isMatter d x1 φ α (fun r1 φ1 α1 =>
   ((r1 = 0 →
   (Q (-1) φ1 α1)) ∧
   (¬ (r1 = 0) →
   (eX11_isIn d x2 0 99 φ1 α1 (fun r3 φ3 α3 =>
     ((r3 = 0 →
     (Q (-1) φ3 α3)) ∧
     (¬ (r3 = 0) →
     (eX11_isIn d x3 0 2 φ3 α3 (fun r5 φ5 α5 =>
       ((¬ r5 = 0 →
       (eX11_laysSources d x1 x2 φ5 α5 (fun r7 φ7 α7 =>
         (jX11_tells_53 (d + 1) x3 (-1) (-1) 0 0 φ7 α7 Q)))) ∧
       (r5 = 0 →
       (Q (-1) φ5 α5)))))))))))))) : eX11_tells (d + 1) x1 x2 x3 φ α Q := by
  intro Ln
  refine r_aload_n (pc' := 1) (kX11_tells_0 0 rfl) rfl rfl ?_
  refine r_iload_n (pc' := 2) (kX11_tells_0 1 rfl) rfl rfl ?_
  refine r_i2l (pc' := 3) (kX11_tells_0 2 rfl) rfl ?_
  refine s_callV (As := [(1, x1)]) (o := 198) (S := []) (S2 := fun z => [(0, z)]) (pc' := 6) (kX11_tells_0 3 rfl) rfl rfl nkX11_isMatter mlX11_383 imX11_isMatter rfl slX11_isMatter rfl (Nat.le_of_ble_eq_true rfl) (Nat.le_of_ble_eq_true rfl) (kz198 Ln) h (fun z => rfl) (fun r1 φ1 α1 h => ?_)
  refine r_if_eq (t := 33) (pc' := 9) (kX11_tells_0 4 rfl) rfl rfl (fun c2 => ?_) (fun c2 => ?_)
  · have h := h.1 c2
    refine r_iconst (-1) (pc' := 34) (kX11_tells_0 17 rfl) rfl (by unfold inR; omega) ?_
    exact s_iret (kX11_tells_0 18 rfl) rfl h
  · have h := h.2 c2
    refine r_iload_n (pc' := 10) (kX11_tells_0 5 rfl) rfl rfl ?_
    refine r_i2l (pc' := 11) (kX11_tells_0 6 rfl) rfl ?_
    refine r_lconst 0 (pc' := 12) (kX11_tells_0 7 rfl) rfl ⟨by unfold inJ; omega, rfl⟩ ?_
    refine r_ldc2 99 (pc' := 15) (kX11_tells_0 8 rfl) rfl kcX11_530 (by unfold inJ; omega) ?_
    refine s_callS (As := [(1, x2), (1, 0), (1, 99)]) (S := []) (S2 := fun z => [(0, z)]) (pc' := 18) (kX11_tells_0 9 rfl) rfl rfl nkX11_isIn mlX11_270 scX11_isIn rfl (Nat.le_of_ble_eq_true rfl) (Nat.le_of_ble_eq_true rfl) h (fun z => rfl) (fun r3 φ3 α3 h => ?_)
    refine r_if_eq (t := 33) (pc' := 21) (kX11_tells_0 10 rfl) rfl rfl (fun c4 => ?_) (fun c4 => ?_)
    · have h := h.1 c4
      refine r_iconst (-1) (pc' := 34) (kX11_tells_0 17 rfl) rfl (by unfold inR; omega) ?_
      exact s_iret (kX11_tells_0 18 rfl) rfl h
    · have h := h.2 c4
      refine r_iload_n (pc' := 22) (kX11_tells_0 11 rfl) rfl rfl ?_
      refine r_i2l (pc' := 23) (kX11_tells_0 12 rfl) rfl ?_
      refine r_lconst 0 (pc' := 24) (kX11_tells_0 13 rfl) rfl ⟨by unfold inJ; omega, rfl⟩ ?_
      refine r_ldc2 2 (pc' := 27) (kX11_tells_0 14 rfl) rfl kcX11_482 (by unfold inJ; omega) ?_
      refine s_callS (As := [(1, x3), (1, 0), (1, 2)]) (S := []) (S2 := fun z => [(0, z)]) (pc' := 30) (kX11_tells_0 15 rfl) rfl rfl nkX11_isIn mlX11_270 scX11_isIn rfl (Nat.le_of_ble_eq_true rfl) (Nat.le_of_ble_eq_true rfl) h (fun z => rfl) (fun r5 φ5 α5 h => ?_)
      refine r_if_ne (t := 35) (pc' := 33) (kX11_tells_0 16 rfl) rfl rfl (fun c6 => ?_) (fun c6 => ?_)
      · have h := h.1 c6
        refine r_aload_n (pc' := 36) (kX11_tells_0 19 rfl) rfl rfl ?_
        refine r_iload_n (pc' := 37) (kX11_tells_0 20 rfl) rfl rfl ?_
        refine r_iload_n (pc' := 38) (kX11_tells_0 21 rfl) rfl rfl ?_
        refine s_callV (As := [(0, x1), (0, x2)]) (o := 198) (S := []) (S2 := fun z => []) (pc' := 41) (kX11_tells_0 22 rfl) rfl rfl nkX11_laysSources mlX11_532 imX11_laysSources rfl slX11_laysSources rfl (Nat.le_of_ble_eq_true rfl) (Nat.le_of_ble_eq_true rfl) (kz198 Ln) h (fun z => rfl) (fun r7 φ7 α7 h => ?_)
        refine r_iconst (-1) (pc' := 42) (kX11_tells_0 23 rfl) rfl (by unfold inR; omega) ?_
        refine r_istore (L' := [(2, 198), (0, x1), (0, x2), (0, x3), (0, (-1)), (9, 0), (9, 0), (9, 0), (9, 0), (9, 0)]) (pc' := 44) (kX11_tells_0 24 rfl) rfl (Nat.le_of_ble_eq_true rfl) rfl ?_
        refine r_iconst (-1) (pc' := 45) (kX11_tells_0 25 rfl) rfl (by unfold inR; omega) ?_
        refine r_istore (L' := [(2, 198), (0, x1), (0, x2), (0, x3), (0, (-1)), (0, (-1)), (9, 0), (9, 0), (9, 0), (9, 0)]) (pc' := 47) (kX11_tells_0 26 rfl) rfl (Nat.le_of_ble_eq_true rfl) rfl ?_
        refine r_iconst 0 (pc' := 48) (kX11_tells_0 27 rfl) rfl (by unfold inR; omega) ?_
        refine r_istore (L' := [(2, 198), (0, x1), (0, x2), (0, x3), (0, (-1)), (0, (-1)), (0, 0), (9, 0), (9, 0), (9, 0)]) (pc' := 50) (kX11_tells_0 28 rfl) rfl (Nat.le_of_ble_eq_true rfl) rfl ?_
        refine r_iconst 0 (pc' := 51) (kX11_tells_0 29 rfl) rfl (by unfold inR; omega) ?_
        refine r_istore (L' := [(2, 198), (0, x1), (0, x2), (0, x3), (0, (-1)), (0, (-1)), (0, 0), (0, 0), (9, 0), (9, 0)]) (pc' := 53) (kX11_tells_0 30 rfl) rfl (Nat.le_of_ble_eq_true rfl) rfl ?_
        exact r_weak (L' := [(2, 198), (9, 0), (9, 0), (0, x3), (0, (-1)), (0, (-1)), (0, 0), (0, 0), (9, 0), (9, 0)]) ⟨Or.inl rfl, Or.inr (by decide), Or.inr (by decide), Or.inl rfl, Or.inl rfl, Or.inl rfl, Or.inl rfl, Or.inl rfl, Or.inr (by decide), Or.inr (by decide), trivial⟩ (h Ln)
      · have h := h.2 c6
        refine r_iconst (-1) (pc' := 34) (kX11_tells_0 17 rfl) rfl (by unfold inR; omega) ?_
        exact s_iret (kX11_tells_0 18 rfl) rfl h
abbrev jX11_tells_75 (d : Nat) (x3 x4 x5 x6 x7 x8 : Int) (φ : aF) (α : aA) (Q : Int → aF → aA → Prop) : Prop := R0 d mX11_tells 75 [(2, 198), (9, 0), (9, 0), (0, x3), (0, x4), (0, x5), (0, x6), (0, x7), (0, x8), (9, 0)] [] φ α Q
theorem vX11_tells_53 {d : Nat} {φ : aF} {α : aA} {Q : Int → aF → aA → Prop} {x3 : Int} {x4 : Int} {x5 : Int} {x6 : Int} {x7 : Int} (h : (((φ 11 58 198) = 0 →
   ((¬ x4 = (-1) →
     ((¬ x3 = 0 →
       ((¬ x3 = 1 →
         (Q x6 φ α)) ∧
         (x3 = 1 →
         (Q x5 φ α)))) ∧
       (x3 = 0 →
       (Q x4 φ α)))) ∧
     (x4 = (-1) →
     (Q (-1) φ α)))) ∧
   (¬ ((φ 11 58 198) = 0) →
   (eX11_isAhead d x7 0 30 φ α (fun r5 φ5 α5 =>
     ((r5 = 0 →
     ((¬ x4 = (-1) →
       ((¬ x3 = 0 →
         ((¬ x3 = 1 →
           (Q x6 φ5 α5)) ∧
           (x3 = 1 →
           (Q x5 φ5 α5)))) ∧
         (x3 = 0 →
         (Q x4 φ5 α5)))) ∧
       (x4 = (-1) →
       (Q (-1) φ5 α5)))) ∧
     (¬ (r5 = 0) →
     (jX11_tells_75 (d + 1) x3 x4 x5 x6 x7 0 φ5 α5 Q)))))))) : jX11_tells_53 (d + 1) x3 x4 x5 x6 x7 φ α Q := by
  intro Ln
  refine r_aload_n (pc' := 54) (kX11_tells_0 31 rfl) rfl rfl ?_
  refine s_get (x := (φ 11 58 198)) (pc' := 57) (kX11_tells_0 32 rfl) rfl fkX11_521 rfl rfl rfl (kz198 Ln) rfl ?_
  refine r_if_eq (t := 134) (pc' := 60) (kX11_tells_0 33 rfl) rfl rfl (fun c1 => ?_) (fun c1 => ?_)
  · have h := h.1 c1
    refine r_iload (pc' := 136) (kX11_tells_1 8 rfl) rfl rfl ?_
    refine r_iconst (-1) (pc' := 137) (kX11_tells_1 9 rfl) rfl (by unfold inR; omega) ?_
    refine r_icmp_ne (t := 144) (pc' := 140) (kX11_tells_1 10 rfl) rfl rfl (fun c2 => ?_) (fun c2 => ?_)
    · have h := h.1 c2
      refine r_iload_n (pc' := 145) (kX11_tells_1 13 rfl) rfl rfl ?_
      refine r_if_ne (t := 153) (pc' := 148) (kX11_tells_1 14 rfl) rfl rfl (fun c3 => ?_) (fun c3 => ?_)
      · have h := h.1 c3
        refine r_iload_n (pc' := 154) (kX11_tells_1 17 rfl) rfl rfl ?_
        refine r_iconst 1 (pc' := 155) (kX11_tells_1 18 rfl) rfl (by unfold inR; omega) ?_
        refine r_icmp_ne (t := 163) (pc' := 158) (kX11_tells_1 19 rfl) rfl rfl (fun c4 => ?_) (fun c4 => ?_)
        · have h := h.1 c4
          refine r_iload (pc' := 165) (kX11_tells_1 22 rfl) rfl rfl ?_
          exact s_iret (kX11_tells_1 23 rfl) rfl h
        · have h := h.2 c4
          refine r_iload (pc' := 160) (kX11_tells_1 20 rfl) rfl rfl ?_
          refine r_goto (pc' := 165) (kX11_tells_1 21 rfl) rfl ?_
          exact s_iret (kX11_tells_1 23 rfl) rfl h
      · have h := h.2 c3
        refine r_iload (pc' := 150) (kX11_tells_1 15 rfl) rfl rfl ?_
        refine r_goto (pc' := 165) (kX11_tells_1 16 rfl) rfl ?_
        exact s_iret (kX11_tells_1 23 rfl) rfl h
    · have h := h.2 c2
      refine r_iconst (-1) (pc' := 141) (kX11_tells_1 11 rfl) rfl (by unfold inR; omega) ?_
      refine r_goto (pc' := 165) (kX11_tells_1 12 rfl) rfl ?_
      exact s_iret (kX11_tells_1 23 rfl) rfl h
  · have h := h.2 c1
    refine r_aload_n (pc' := 61) (kX11_tells_0 34 rfl) rfl rfl ?_
    refine r_iload (pc' := 63) (kX11_tells_0 35 rfl) rfl rfl ?_
    refine r_iconst 0 (pc' := 64) (kX11_tells_0 36 rfl) rfl (by unfold inR; omega) ?_
    refine r_bipush 30 (pc' := 66) (kX11_tells_0 37 rfl) rfl ⟨by unfold inR; omega, rfl⟩ ?_
    refine s_callV (As := [(0, x7), (0, 0), (0, 30)]) (o := 198) (S := []) (S2 := fun z => [(0, z)]) (pc' := 69) (kX11_tells_0 38 rfl) rfl rfl nkX11_isAhead mlX11_484 imX11_isAhead rfl slX11_isAhead rfl (Nat.le_of_ble_eq_true rfl) (Nat.le_of_ble_eq_true rfl) (kz198 Ln) h (fun z => rfl) (fun r5 φ5 α5 h => ?_)
    refine r_if_eq (t := 134) (pc' := 72) (kX11_tells_0 39 rfl) rfl rfl (fun c6 => ?_) (fun c6 => ?_)
    · have h := h.1 c6
      refine r_iload (pc' := 136) (kX11_tells_1 8 rfl) rfl rfl ?_
      refine r_iconst (-1) (pc' := 137) (kX11_tells_1 9 rfl) rfl (by unfold inR; omega) ?_
      refine r_icmp_ne (t := 144) (pc' := 140) (kX11_tells_1 10 rfl) rfl rfl (fun c7 => ?_) (fun c7 => ?_)
      · have h := h.1 c7
        refine r_iload_n (pc' := 145) (kX11_tells_1 13 rfl) rfl rfl ?_
        refine r_if_ne (t := 153) (pc' := 148) (kX11_tells_1 14 rfl) rfl rfl (fun c8 => ?_) (fun c8 => ?_)
        · have h := h.1 c8
          refine r_iload_n (pc' := 154) (kX11_tells_1 17 rfl) rfl rfl ?_
          refine r_iconst 1 (pc' := 155) (kX11_tells_1 18 rfl) rfl (by unfold inR; omega) ?_
          refine r_icmp_ne (t := 163) (pc' := 158) (kX11_tells_1 19 rfl) rfl rfl (fun c9 => ?_) (fun c9 => ?_)
          · have h := h.1 c9
            refine r_iload (pc' := 165) (kX11_tells_1 22 rfl) rfl rfl ?_
            exact s_iret (kX11_tells_1 23 rfl) rfl h
          · have h := h.2 c9
            refine r_iload (pc' := 160) (kX11_tells_1 20 rfl) rfl rfl ?_
            refine r_goto (pc' := 165) (kX11_tells_1 21 rfl) rfl ?_
            exact s_iret (kX11_tells_1 23 rfl) rfl h
        · have h := h.2 c8
          refine r_iload (pc' := 150) (kX11_tells_1 15 rfl) rfl rfl ?_
          refine r_goto (pc' := 165) (kX11_tells_1 16 rfl) rfl ?_
          exact s_iret (kX11_tells_1 23 rfl) rfl h
      · have h := h.2 c7
        refine r_iconst (-1) (pc' := 141) (kX11_tells_1 11 rfl) rfl (by unfold inR; omega) ?_
        refine r_goto (pc' := 165) (kX11_tells_1 12 rfl) rfl ?_
        exact s_iret (kX11_tells_1 23 rfl) rfl h
    · have h := h.2 c6
      refine r_iconst 0 (pc' := 73) (kX11_tells_0 40 rfl) rfl (by unfold inR; omega) ?_
      refine r_istore (L' := [(2, 198), (9, 0), (9, 0), (0, x3), (0, x4), (0, x5), (0, x6), (0, x7), (0, 0), (9, 0)]) (pc' := 75) (kX11_tells_0 41 rfl) rfl (Nat.le_of_ble_eq_true rfl) rfl ?_
      exact r_weak (L' := [(2, 198), (9, 0), (9, 0), (0, x3), (0, x4), (0, x5), (0, x6), (0, x7), (0, 0), (9, 0)]) ⟨Or.inl rfl, Or.inr (by decide), Or.inr (by decide), Or.inl rfl, Or.inl rfl, Or.inl rfl, Or.inl rfl, Or.inl rfl, Or.inl rfl, Or.inr (by decide), trivial⟩ (h Ln)
theorem vX11_tells_75 {d : Nat} {φ : aF} {α : aA} {Q : Int → aF → aA → Prop} {x3 : Int} {x4 : Int} {x5 : Int} {x6 : Int} {x7 : Int} {x8 : Int} (h : (eX11_clerkMany d  φ α (fun r1 φ1 α1 =>
   ((r1 ≤ x8 →
   inR (x7 + 1) ∧ (jX11_tells_53 (d + 1) x3 x4 x5 x6 (x7 + 1) φ1 α1 Q)) ∧
   (¬ (r1 ≤ x8) →
   (eX11_mostAlike d x7 x8 φ1 α1 (fun r4 φ4 α4 =>
     ((x4 = (-1) →
     inR (x8 + 1) ∧ (jX11_tells_75 (d + 1) x3 x7 x8 r4 x7 (x8 + 1) φ4 α4 Q)) ∧
     (¬ (x4 = (-1)) →
     ((r4 < x6 →
       inR (x8 + 1) ∧ (jX11_tells_75 (d + 1) x3 x7 x8 r4 x7 (x8 + 1) φ4 α4 Q)) ∧
       (¬ (r4 < x6) →
       inR (x8 + 1) ∧ (jX11_tells_75 (d + 1) x3 x4 x5 x6 x7 (x8 + 1) φ4 α4 Q)))))))))))) : jX11_tells_75 (d + 1) x3 x4 x5 x6 x7 x8 φ α Q := by
  intro Ln
  refine r_iload (pc' := 77) (kX11_tells_0 42 rfl) rfl rfl ?_
  refine r_aload_n (pc' := 78) (kX11_tells_0 43 rfl) rfl rfl ?_
  refine s_callV (As := []) (o := 198) (S := [(0, x8)]) (S2 := fun z => [(0, z), (0, x8)]) (pc' := 81) (kX11_tells_0 44 rfl) rfl rfl nkX11_clerkMany mlX11_376 imX11_clerkMany rfl slX11_clerkMany rfl (Nat.le_of_ble_eq_true rfl) (Nat.le_of_ble_eq_true rfl) (kz198 Ln) h (fun z => rfl) (fun r1 φ1 α1 h => ?_)
  refine r_icmp_ge (t := 128) (pc' := 84) (kX11_tells_0 45 rfl) rfl rfl (fun c2 => ?_) (fun c2 => ?_)
  · have h := h.1 c2
    have g3 := h.1
    have h := h.2
    refine r_iinc (L' := [(2, 198), (9, 0), (9, 0), (0, x3), (0, x4), (0, x5), (0, x6), (0, (x7 + 1)), (0, x8), (9, 0)]) (pc' := 131) (kX11_tells_1 6 rfl) rfl (Nat.le_of_ble_eq_true rfl) rfl g3 rfl ?_
    refine r_goto (pc' := 53) (kX11_tells_1 7 rfl) rfl ?_
    exact r_weak (L' := [(2, 198), (9, 0), (9, 0), (0, x3), (0, x4), (0, x5), (0, x6), (0, (x7 + 1)), (9, 0), (9, 0)]) ⟨Or.inl rfl, Or.inr (by decide), Or.inr (by decide), Or.inl rfl, Or.inl rfl, Or.inl rfl, Or.inl rfl, Or.inl rfl, Or.inr (by decide), Or.inr (by decide), trivial⟩ (h Ln)
  · have h := h.2 c2
    refine r_aload_n (pc' := 85) (kX11_tells_0 46 rfl) rfl rfl ?_
    refine r_iload (pc' := 87) (kX11_tells_0 47 rfl) rfl rfl ?_
    refine r_iload (pc' := 89) (kX11_tells_0 48 rfl) rfl rfl ?_
    refine s_callV (As := [(0, x7), (0, x8)]) (o := 198) (S := []) (S2 := fun z => [(0, z)]) (pc' := 92) (kX11_tells_0 49 rfl) rfl rfl nkX11_mostAlike mlX11_535 imX11_mostAlike rfl slX11_mostAlike rfl (Nat.le_of_ble_eq_true rfl) (Nat.le_of_ble_eq_true rfl) (kz198 Ln) h (fun z => rfl) (fun r4 φ4 α4 h => ?_)
    refine r_istore (L' := [(2, 198), (9, 0), (9, 0), (0, x3), (0, x4), (0, x5), (0, x6), (0, x7), (0, x8), (0, r4)]) (pc' := 94) (kX11_tells_0 50 rfl) rfl (Nat.le_of_ble_eq_true rfl) rfl ?_
    refine r_iload (pc' := 96) (kX11_tells_0 51 rfl) rfl rfl ?_
    refine r_iconst (-1) (pc' := 97) (kX11_tells_0 52 rfl) rfl (by unfold inR; omega) ?_
    refine r_icmp_eq (t := 110) (pc' := 100) (kX11_tells_0 53 rfl) rfl rfl (fun c5 => ?_) (fun c5 => ?_)
    · have h := h.1 c5
      refine r_iload (pc' := 112) (kX11_tells_0 58 rfl) rfl rfl ?_
      refine r_istore (L' := [(2, 198), (9, 0), (9, 0), (0, x3), (0, x7), (0, x5), (0, x6), (0, x7), (0, x8), (0, r4)]) (pc' := 114) (kX11_tells_0 59 rfl) rfl (Nat.le_of_ble_eq_true rfl) rfl ?_
      refine r_iload (pc' := 116) (kX11_tells_1 0 rfl) rfl rfl ?_
      refine r_istore (L' := [(2, 198), (9, 0), (9, 0), (0, x3), (0, x7), (0, x8), (0, x6), (0, x7), (0, x8), (0, r4)]) (pc' := 118) (kX11_tells_1 1 rfl) rfl (Nat.le_of_ble_eq_true rfl) rfl ?_
      refine r_iload (pc' := 120) (kX11_tells_1 2 rfl) rfl rfl ?_
      refine r_istore (L' := [(2, 198), (9, 0), (9, 0), (0, x3), (0, x7), (0, x8), (0, r4), (0, x7), (0, x8), (0, r4)]) (pc' := 122) (kX11_tells_1 3 rfl) rfl (Nat.le_of_ble_eq_true rfl) rfl ?_
      have g6 := h.1
      have h := h.2
      refine r_iinc (L' := [(2, 198), (9, 0), (9, 0), (0, x3), (0, x7), (0, x8), (0, r4), (0, x7), (0, (x8 + 1)), (0, r4)]) (pc' := 125) (kX11_tells_1 4 rfl) rfl (Nat.le_of_ble_eq_true rfl) rfl g6 rfl ?_
      refine r_goto (pc' := 75) (kX11_tells_1 5 rfl) rfl ?_
      exact r_weak (L' := [(2, 198), (9, 0), (9, 0), (0, x3), (0, x7), (0, x8), (0, r4), (0, x7), (0, (x8 + 1)), (9, 0)]) ⟨Or.inl rfl, Or.inr (by decide), Or.inr (by decide), Or.inl rfl, Or.inl rfl, Or.inl rfl, Or.inl rfl, Or.inl rfl, Or.inl rfl, Or.inr (by decide), trivial⟩ (h Ln)
    · have h := h.2 c5
      refine r_iload (pc' := 102) (kX11_tells_0 54 rfl) rfl rfl ?_
      refine r_iload (pc' := 104) (kX11_tells_0 55 rfl) rfl rfl ?_
      refine r_icmp_lt (t := 110) (pc' := 107) (kX11_tells_0 56 rfl) rfl rfl (fun c7 => ?_) (fun c7 => ?_)
      · have h := h.1 c7
        refine r_iload (pc' := 112) (kX11_tells_0 58 rfl) rfl rfl ?_
        refine r_istore (L' := [(2, 198), (9, 0), (9, 0), (0, x3), (0, x7), (0, x5), (0, x6), (0, x7), (0, x8), (0, r4)]) (pc' := 114) (kX11_tells_0 59 rfl) rfl (Nat.le_of_ble_eq_true rfl) rfl ?_
        refine r_iload (pc' := 116) (kX11_tells_1 0 rfl) rfl rfl ?_
        refine r_istore (L' := [(2, 198), (9, 0), (9, 0), (0, x3), (0, x7), (0, x8), (0, x6), (0, x7), (0, x8), (0, r4)]) (pc' := 118) (kX11_tells_1 1 rfl) rfl (Nat.le_of_ble_eq_true rfl) rfl ?_
        refine r_iload (pc' := 120) (kX11_tells_1 2 rfl) rfl rfl ?_
        refine r_istore (L' := [(2, 198), (9, 0), (9, 0), (0, x3), (0, x7), (0, x8), (0, r4), (0, x7), (0, x8), (0, r4)]) (pc' := 122) (kX11_tells_1 3 rfl) rfl (Nat.le_of_ble_eq_true rfl) rfl ?_
        have g8 := h.1
        have h := h.2
        refine r_iinc (L' := [(2, 198), (9, 0), (9, 0), (0, x3), (0, x7), (0, x8), (0, r4), (0, x7), (0, (x8 + 1)), (0, r4)]) (pc' := 125) (kX11_tells_1 4 rfl) rfl (Nat.le_of_ble_eq_true rfl) rfl g8 rfl ?_
        refine r_goto (pc' := 75) (kX11_tells_1 5 rfl) rfl ?_
        exact r_weak (L' := [(2, 198), (9, 0), (9, 0), (0, x3), (0, x7), (0, x8), (0, r4), (0, x7), (0, (x8 + 1)), (9, 0)]) ⟨Or.inl rfl, Or.inr (by decide), Or.inr (by decide), Or.inl rfl, Or.inl rfl, Or.inl rfl, Or.inl rfl, Or.inl rfl, Or.inl rfl, Or.inr (by decide), trivial⟩ (h Ln)
      · have h := h.2 c7
        refine r_goto (pc' := 122) (kX11_tells_0 57 rfl) rfl ?_
        have g9 := h.1
        have h := h.2
        refine r_iinc (L' := [(2, 198), (9, 0), (9, 0), (0, x3), (0, x4), (0, x5), (0, x6), (0, x7), (0, (x8 + 1)), (0, r4)]) (pc' := 125) (kX11_tells_1 4 rfl) rfl (Nat.le_of_ble_eq_true rfl) rfl g9 rfl ?_
        refine r_goto (pc' := 75) (kX11_tells_1 5 rfl) rfl ?_
        exact r_weak (L' := [(2, 198), (9, 0), (9, 0), (0, x3), (0, x4), (0, x5), (0, x6), (0, x7), (0, (x8 + 1)), (9, 0)]) ⟨Or.inl rfl, Or.inr (by decide), Or.inr (by decide), Or.inl rfl, Or.inl rfl, Or.inl rfl, Or.inl rfl, Or.inl rfl, Or.inl rfl, Or.inr (by decide), trivial⟩ (h Ln)
abbrev jX11_keeps_15 (d : Nat) (x1 : Int) (φ : aF) (α : aA) (Q : Int → aF → aA → Prop) : Prop := R0 d mX11_keeps 15 [(2, 198), (0, x1)] [] φ α Q
theorem vX11_keeps_0 {d : Nat} {φ : aF} {α : aA} {Q : Int → aF → aA → Prop} (h : inR ((φ 11 61 198) + 1) ∧ inR (Int.tmod ((φ 11 61 198) + 1) 20) ∧ (jX11_keeps_15 d 0 (upf φ 11 61 198 (Int.tmod ((φ 11 61 198) + 1) 20)) α Q)) : eX11_keeps d  φ α Q := by
  intro Ln
  refine r_aload_n (pc' := 1) (kX11_keeps_0 0 rfl) rfl rfl ?_
  refine r_aload_n (pc' := 2) (kX11_keeps_0 1 rfl) rfl rfl ?_
  refine s_get (x := (φ 11 61 198)) (pc' := 5) (kX11_keeps_0 2 rfl) rfl fkX11_538 rfl rfl rfl (kz198 Ln) rfl ?_
  refine r_iconst 1 (pc' := 6) (kX11_keeps_0 3 rfl) rfl (by unfold inR; omega) ?_
  have g1 := h.1
  have h := h.2
  refine r_iadd (pc' := 7) (kX11_keeps_0 4 rfl) rfl g1 ?_
  refine r_bipush 20 (pc' := 9) (kX11_keeps_0 5 rfl) rfl ⟨by unfold inR; omega, rfl⟩ ?_
  have g2 := h.1
  have h := h.2
  refine r_irem (pc' := 10) (kX11_keeps_0 6 rfl) rfl ⟨by decide, g2⟩ ?_
  refine s_put (pc' := 13) (kX11_keeps_0 7 rfl) rfl fkX11_538 fnX11_61 rfl pk_int (kz198 Ln) ?_
  refine r_iconst 0 (pc' := 14) (kX11_keeps_0 8 rfl) rfl (by unfold inR; omega) ?_
  refine r_istore_n (L' := [(2, 198), (0, 0)]) (pc' := 15) (kX11_keeps_0 9 rfl) rfl (Nat.le_of_ble_eq_true rfl) rfl ?_
  exact r_weak (L' := [(2, 198), (0, 0)]) ⟨Or.inl rfl, Or.inl rfl, trivial⟩ (h Ln)
theorem vX11_keeps_15 {d : Nat} {φ : aF} {α : aA} {Q : Int → aF → aA → Prop} {x1 : Int} (h : ((169 ≤ x1 →
   ((20 ≤ (φ 11 60 198) →
     (Q 0 φ α)) ∧
     (¬ (20 ≤ (φ 11 60 198)) →
     inR ((φ 11 60 198) + 1) ∧ (Q 0 (upf φ 11 60 198 ((φ 11 60 198) + 1)) α)))) ∧
   (¬ (169 ≤ x1) →
   inR (169 * (φ 11 61 198)) ∧ inR ((169 * (φ 11 61 198)) + x1) ∧ (0 ≤ x1 ∧ x1 < (169 : Nat)) ∧ (0 ≤ ((169 * (φ 11 61 198)) + x1) ∧ ((169 * (φ 11 61 198)) + x1) < (3380 : Nat)) ∧ inR (x1 + 1) ∧ (jX11_keeps_15 d (x1 + 1) φ (upa α 238 ((169 * (φ 11 61 198)) + x1) (α 233 x1)) Q)))) : jX11_keeps_15 d x1 φ α Q := by
  intro Ln
  refine r_iload_n (pc' := 16) (kX11_keeps_0 10 rfl) rfl rfl ?_
  refine r_sipush 169 (pc' := 19) (kX11_keeps_0 11 rfl) rfl ⟨by unfold inR; omega, rfl⟩ ?_
  refine r_icmp_ge (t := 49) (pc' := 22) (kX11_keeps_0 12 rfl) rfl rfl (fun c1 => ?_) (fun c1 => ?_)
  · have h := h.1 c1
    refine r_aload_n (pc' := 50) (kX11_keeps_0 28 rfl) rfl rfl ?_
    refine s_get (x := (φ 11 60 198)) (pc' := 53) (kX11_keeps_0 29 rfl) rfl fkX11_367 rfl rfl rfl (kz198 Ln) rfl ?_
    refine r_bipush 20 (pc' := 55) (kX11_keeps_0 30 rfl) rfl ⟨by unfold inR; omega, rfl⟩ ?_
    refine r_icmp_ge (t := 68) (pc' := 58) (kX11_keeps_0 31 rfl) rfl rfl (fun c2 => ?_) (fun c2 => ?_)
    · have h := h.1 c2
      exact s_vret (kX11_keeps_0 38 rfl) rfl h
    · have h := h.2 c2
      refine r_aload_n (pc' := 59) (kX11_keeps_0 32 rfl) rfl rfl ?_
      refine r_dup (pc' := 60) (kX11_keeps_0 33 rfl) rfl rfl ?_
      refine s_get (x := (φ 11 60 198)) (pc' := 63) (kX11_keeps_0 34 rfl) rfl fkX11_367 rfl rfl rfl (kz198 Ln) rfl ?_
      refine r_iconst 1 (pc' := 64) (kX11_keeps_0 35 rfl) rfl (by unfold inR; omega) ?_
      have g3 := h.1
      have h := h.2
      refine r_iadd (pc' := 65) (kX11_keeps_0 36 rfl) rfl g3 ?_
      refine s_put (pc' := 68) (kX11_keeps_0 37 rfl) rfl fkX11_367 fnX11_60 rfl pk_int (kz198 Ln) ?_
      exact s_vret (kX11_keeps_0 38 rfl) rfl h
  · have h := h.2 c1
    refine r_aload_n (pc' := 23) (kX11_keeps_0 13 rfl) rfl rfl ?_
    refine s_getr (v := 238) (pc' := 26) (kX11_keeps_0 14 rfl) rfl fkX11_133 rfl rfl (kz198 Ln) rfl (by decide) ?_
    refine r_sipush 169 (pc' := 29) (kX11_keeps_0 15 rfl) rfl ⟨by unfold inR; omega, rfl⟩ ?_
    refine r_aload_n (pc' := 30) (kX11_keeps_0 16 rfl) rfl rfl ?_
    refine s_get (x := (φ 11 61 198)) (pc' := 33) (kX11_keeps_0 17 rfl) rfl fkX11_538 rfl rfl rfl (kz198 Ln) rfl ?_
    have g4 := h.1
    have h := h.2
    refine r_imul (pc' := 34) (kX11_keeps_0 18 rfl) rfl g4 ?_
    refine r_iload_n (pc' := 35) (kX11_keeps_0 19 rfl) rfl rfl ?_
    have g5 := h.1
    have h := h.2
    refine r_iadd (pc' := 36) (kX11_keeps_0 20 rfl) rfl g5 ?_
    refine r_aload_n (pc' := 37) (kX11_keeps_0 21 rfl) rfl rfl ?_
    refine s_getr (v := 233) (pc' := 40) (kX11_keeps_0 22 rfl) rfl fkX11_118 rfl rfl (kz198 Ln) rfl (by decide) ?_
    refine r_iload_n (pc' := 41) (kX11_keeps_0 23 rfl) rfl rfl ?_
    have g6 := h.1
    have h := h.2
    refine s_iald (x := (α 233 x1)) (pc' := 42) (kX11_keeps_0 24 rfl) rfl (kz233 Ln) g6 rfl ?_
    have g7 := h.1
    have h := h.2
    refine s_iast (pc' := 43) (kX11_keeps_0 25 rfl) rfl (kz238 Ln) g7 ?_
    have g8 := h.1
    have h := h.2
    refine r_iinc (L' := [(2, 198), (0, (x1 + 1))]) (pc' := 46) (kX11_keeps_0 26 rfl) rfl (Nat.le_of_ble_eq_true rfl) rfl g8 rfl ?_
    refine r_goto (pc' := 15) (kX11_keeps_0 27 rfl) rfl ?_
    exact r_weak (L' := [(2, 198), (0, (x1 + 1))]) ⟨Or.inl rfl, Or.inl rfl, trivial⟩ (h Ln)
abbrev jX11_undo_21 (d : Nat) (x1 : Int) (φ : aF) (α : aA) (Q : Int → aF → aA → Prop) : Prop := R0 d mX11_undo 21 [(2, 198), (0, x1)] [] φ α Q
theorem vX11_undo_0 {d : Nat} {φ : aF} {α : aA} {Q : Int → aF → aA → Prop} (h : ((¬ (φ 11 60 198) = 0 →
   (jX11_undo_21 d 0 φ α Q)) ∧
   ((φ 11 60 198) = 0 →
   inR ((α 200 4) + 1) ∧ (Q 0 φ (upa α 200 4 ((α 200 4) + 1)))))) : eX11_undo d  φ α Q := by
  intro Ln
  refine r_aload_n (pc' := 1) (kX11_undo_0 0 rfl) rfl rfl ?_
  refine s_get (x := (φ 11 60 198)) (pc' := 4) (kX11_undo_0 1 rfl) rfl fkX11_367 rfl rfl rfl (kz198 Ln) rfl ?_
  refine r_if_ne (t := 19) (pc' := 7) (kX11_undo_0 2 rfl) rfl rfl (fun c1 => ?_) (fun c1 => ?_)
  · have h := h.1 c1
    refine r_iconst 0 (pc' := 20) (kX11_undo_0 13 rfl) rfl (by unfold inR; omega) ?_
    refine r_istore_n (L' := [(2, 198), (0, 0)]) (pc' := 21) (kX11_undo_0 14 rfl) rfl (Nat.le_of_ble_eq_true rfl) rfl ?_
    exact r_weak (L' := [(2, 198), (0, 0)]) ⟨Or.inl rfl, Or.inl rfl, trivial⟩ (h Ln)
  · have h := h.2 c1
    refine r_aload_n (pc' := 8) (kX11_undo_0 3 rfl) rfl rfl ?_
    refine s_getr (v := 200) (pc' := 11) (kX11_undo_0 4 rfl) rfl fkX11_17 rfl rfl (kz198 Ln) rfl (by decide) ?_
    refine r_iconst 4 (pc' := 12) (kX11_undo_0 5 rfl) rfl (by unfold inR; omega) ?_
    refine r_dup2 (pc' := 13) (kX11_undo_0 6 rfl) rfl rfl rfl ?_
    refine s_iald (x := (α 200 4)) (pc' := 14) (kX11_undo_0 7 rfl) rfl (kz200 Ln) ⟨by decide, by decide⟩ rfl ?_
    refine r_iconst 1 (pc' := 15) (kX11_undo_0 8 rfl) rfl (by unfold inR; omega) ?_
    have g2 := h.1
    have h := h.2
    refine r_iadd (pc' := 16) (kX11_undo_0 9 rfl) rfl g2 ?_
    refine s_iast (pc' := 17) (kX11_undo_0 10 rfl) rfl (kz200 Ln) ⟨by decide, by decide⟩ ?_
    refine r_iconst 0 (pc' := 18) (kX11_undo_0 11 rfl) rfl (by unfold inR; omega) ?_
    exact s_zret (kX11_undo_0 12 rfl) rfl (Or.inl rfl) h
theorem vX11_undo_21 {d : Nat} {φ : aF} {α : aA} {Q : Int → aF → aA → Prop} {x1 : Int} (h : ((169 ≤ x1 →
   inR ((φ 11 61 198) + 20) ∧ inR (((φ 11 61 198) + 20) - 1) ∧ inR (Int.tmod (((φ 11 61 198) + 20) - 1) 20) ∧ inR ((φ 11 60 198) - 1) ∧ (Q 1 (upf (upf φ 11 61 198 (Int.tmod (((φ 11 61 198) + 20) - 1) 20)) 11 60 198 ((φ 11 60 198) - 1)) α)) ∧
   (¬ (169 ≤ x1) →
   inR (169 * (φ 11 61 198)) ∧ inR ((169 * (φ 11 61 198)) + x1) ∧ (0 ≤ ((169 * (φ 11 61 198)) + x1) ∧ ((169 * (φ 11 61 198)) + x1) < (3380 : Nat)) ∧ (0 ≤ x1 ∧ x1 < (169 : Nat)) ∧ inR (x1 + 1) ∧ (jX11_undo_21 d (x1 + 1) φ (upa α 233 x1 (α 238 ((169 * (φ 11 61 198)) + x1))) Q)))) : jX11_undo_21 d x1 φ α Q := by
  intro Ln
  refine r_iload_n (pc' := 22) (kX11_undo_0 15 rfl) rfl rfl ?_
  refine r_sipush 169 (pc' := 25) (kX11_undo_0 16 rfl) rfl ⟨by unfold inR; omega, rfl⟩ ?_
  refine r_icmp_ge (t := 55) (pc' := 28) (kX11_undo_0 17 rfl) rfl rfl (fun c1 => ?_) (fun c1 => ?_)
  · have h := h.1 c1
    refine r_aload_n (pc' := 56) (kX11_undo_0 33 rfl) rfl rfl ?_
    refine r_aload_n (pc' := 57) (kX11_undo_0 34 rfl) rfl rfl ?_
    refine s_get (x := (φ 11 61 198)) (pc' := 60) (kX11_undo_0 35 rfl) rfl fkX11_538 rfl rfl rfl (kz198 Ln) rfl ?_
    refine r_bipush 20 (pc' := 62) (kX11_undo_0 36 rfl) rfl ⟨by unfold inR; omega, rfl⟩ ?_
    have g2 := h.1
    have h := h.2
    refine r_iadd (pc' := 63) (kX11_undo_0 37 rfl) rfl g2 ?_
    refine r_iconst 1 (pc' := 64) (kX11_undo_0 38 rfl) rfl (by unfold inR; omega) ?_
    have g3 := h.1
    have h := h.2
    refine r_isub (pc' := 65) (kX11_undo_0 39 rfl) rfl g3 ?_
    refine r_bipush 20 (pc' := 67) (kX11_undo_0 40 rfl) rfl ⟨by unfold inR; omega, rfl⟩ ?_
    have g4 := h.1
    have h := h.2
    refine r_irem (pc' := 68) (kX11_undo_0 41 rfl) rfl ⟨by decide, g4⟩ ?_
    refine s_put (pc' := 71) (kX11_undo_0 42 rfl) rfl fkX11_538 fnX11_61 rfl pk_int (kz198 Ln) ?_
    refine r_aload_n (pc' := 72) (kX11_undo_0 43 rfl) rfl rfl ?_
    refine r_dup (pc' := 73) (kX11_undo_0 44 rfl) rfl rfl ?_
    refine s_get (x := (φ 11 60 198)) (pc' := 76) (kX11_undo_0 45 rfl) rfl fkX11_367 rfl rfl rfl (kz198 Ln) rfl ?_
    refine r_iconst 1 (pc' := 77) (kX11_undo_0 46 rfl) rfl (by unfold inR; omega) ?_
    have g5 := h.1
    have h := h.2
    refine r_isub (pc' := 78) (kX11_undo_0 47 rfl) rfl g5 ?_
    refine s_put (pc' := 81) (kX11_undo_0 48 rfl) rfl fkX11_367 fnX11_60 rfl pk_int (kz198 Ln) ?_
    refine r_iconst 1 (pc' := 82) (kX11_undo_0 49 rfl) rfl (by unfold inR; omega) ?_
    exact s_zret (kX11_undo_0 50 rfl) rfl (Or.inr rfl) h
  · have h := h.2 c1
    refine r_aload_n (pc' := 29) (kX11_undo_0 18 rfl) rfl rfl ?_
    refine s_getr (v := 233) (pc' := 32) (kX11_undo_0 19 rfl) rfl fkX11_118 rfl rfl (kz198 Ln) rfl (by decide) ?_
    refine r_iload_n (pc' := 33) (kX11_undo_0 20 rfl) rfl rfl ?_
    refine r_aload_n (pc' := 34) (kX11_undo_0 21 rfl) rfl rfl ?_
    refine s_getr (v := 238) (pc' := 37) (kX11_undo_0 22 rfl) rfl fkX11_133 rfl rfl (kz198 Ln) rfl (by decide) ?_
    refine r_sipush 169 (pc' := 40) (kX11_undo_0 23 rfl) rfl ⟨by unfold inR; omega, rfl⟩ ?_
    refine r_aload_n (pc' := 41) (kX11_undo_0 24 rfl) rfl rfl ?_
    refine s_get (x := (φ 11 61 198)) (pc' := 44) (kX11_undo_0 25 rfl) rfl fkX11_538 rfl rfl rfl (kz198 Ln) rfl ?_
    have g6 := h.1
    have h := h.2
    refine r_imul (pc' := 45) (kX11_undo_0 26 rfl) rfl g6 ?_
    refine r_iload_n (pc' := 46) (kX11_undo_0 27 rfl) rfl rfl ?_
    have g7 := h.1
    have h := h.2
    refine r_iadd (pc' := 47) (kX11_undo_0 28 rfl) rfl g7 ?_
    have g8 := h.1
    have h := h.2
    refine s_iald (x := (α 238 ((169 * (φ 11 61 198)) + x1))) (pc' := 48) (kX11_undo_0 29 rfl) rfl (kz238 Ln) g8 rfl ?_
    have g9 := h.1
    have h := h.2
    refine s_iast (pc' := 49) (kX11_undo_0 30 rfl) rfl (kz233 Ln) g9 ?_
    have g10 := h.1
    have h := h.2
    refine r_iinc (L' := [(2, 198), (0, (x1 + 1))]) (pc' := 52) (kX11_undo_0 31 rfl) rfl (Nat.le_of_ble_eq_true rfl) rfl g10 rfl ?_
    refine r_goto (pc' := 21) (kX11_undo_0 32 rfl) rfl ?_
    exact r_weak (L' := [(2, 198), (0, (x1 + 1))]) ⟨Or.inl rfl, Or.inl rfl, trivial⟩ (h Ln)
theorem vX11_tell_0 {d : Nat} {φ : aF} {α : aA} {Q : Int → aF → aA → Prop} {x1 : Int} {x2 : Int} {x3 : Int} (h : (eX11_areBoth d x1 x2 φ α (fun r1 φ1 α1 =>
   ((r1 = 0 →
   (eX11_refuses d 2 φ1 α1 (fun r3 φ3 α3 =>
     (Q r3 φ3 α3)))) ∧
   (¬ (r1 = 0) →
   (eX11_isIn d x3 1 99 φ1 α1 (fun r4 φ4 α4 =>
     ((r4 = 0 →
     (eX11_refuses d 2 φ4 α4 (fun r6 φ6 α6 =>
       (Q r6 φ6 α6)))) ∧
     (¬ (r4 = 0) →
     (eX11_floorOf d x2 φ4 α4 (fun r7 φ7 α7 =>
       (eX11_spillOf d x1 x3 φ7 α7 (fun r8 φ8 α8 =>
       inR (r7 + r8) ∧ (((r7 + r8) ≤ 9999 →
       (eX11_keeps d  φ8 α8 (fun r11 φ11 α11 =>
         (eX11_isTold d x1 x2 x3 φ11 α11 (fun r12 φ12 α12 =>
         (Q r12 φ12 α12)))))) ∧
       (¬ ((r7 + r8) ≤ 9999) →
       (eX11_refuses d 2 φ8 α8 (fun r13 φ13 α13 =>
         (Q r13 φ13 α13)))))))))))))))))) : eX11_tell (d + 1) x1 x2 x3 φ α Q := by
  intro Ln
  refine r_aload_n (pc' := 1) (kX11_tell_0 0 rfl) rfl rfl ?_
  refine r_iload_n (pc' := 2) (kX11_tell_0 1 rfl) rfl rfl ?_
  refine r_iload_n (pc' := 3) (kX11_tell_0 2 rfl) rfl rfl ?_
  refine s_callV (As := [(0, x1), (0, x2)]) (o := 198) (S := []) (S2 := fun z => [(0, z)]) (pc' := 6) (kX11_tell_0 3 rfl) rfl rfl nkX11_areBoth mlX11_470 imX11_areBoth rfl slX11_areBoth rfl (Nat.le_of_ble_eq_true rfl) (Nat.le_of_ble_eq_true rfl) (kz198 Ln) h (fun z => rfl) (fun r1 φ1 α1 h => ?_)
  refine r_if_eq (t := 39) (pc' := 9) (kX11_tell_0 4 rfl) rfl rfl (fun c2 => ?_) (fun c2 => ?_)
  · have h := h.1 c2
    refine r_aload_n (pc' := 40) (kX11_tell_0 21 rfl) rfl rfl ?_
    refine r_iconst 2 (pc' := 41) (kX11_tell_0 22 rfl) rfl (by unfold inR; omega) ?_
    refine s_callV (As := [(0, 2)]) (o := 198) (S := []) (S2 := fun z => [(0, z)]) (pc' := 44) (kX11_tell_0 23 rfl) rfl rfl nkX11_refuses mlX11_515 imX11_refuses rfl slX11_refuses rfl (Nat.le_of_ble_eq_true rfl) (Nat.le_of_ble_eq_true rfl) (kz198 Ln) h (fun z => rfl) (fun r3 φ3 α3 h => ?_)
    exact s_iret (kX11_tell_0 24 rfl) rfl h
  · have h := h.2 c2
    refine r_iload_n (pc' := 10) (kX11_tell_0 5 rfl) rfl rfl ?_
    refine r_i2l (pc' := 11) (kX11_tell_0 6 rfl) rfl ?_
    refine r_lconst 1 (pc' := 12) (kX11_tell_0 7 rfl) rfl ⟨by unfold inJ; omega, rfl⟩ ?_
    refine r_ldc2 99 (pc' := 15) (kX11_tell_0 8 rfl) rfl kcX11_530 (by unfold inJ; omega) ?_
    refine s_callS (As := [(1, x3), (1, 1), (1, 99)]) (S := []) (S2 := fun z => [(0, z)]) (pc' := 18) (kX11_tell_0 9 rfl) rfl rfl nkX11_isIn mlX11_270 scX11_isIn rfl (Nat.le_of_ble_eq_true rfl) (Nat.le_of_ble_eq_true rfl) h (fun z => rfl) (fun r4 φ4 α4 h => ?_)
    refine r_if_eq (t := 39) (pc' := 21) (kX11_tell_0 10 rfl) rfl rfl (fun c5 => ?_) (fun c5 => ?_)
    · have h := h.1 c5
      refine r_aload_n (pc' := 40) (kX11_tell_0 21 rfl) rfl rfl ?_
      refine r_iconst 2 (pc' := 41) (kX11_tell_0 22 rfl) rfl (by unfold inR; omega) ?_
      refine s_callV (As := [(0, 2)]) (o := 198) (S := []) (S2 := fun z => [(0, z)]) (pc' := 44) (kX11_tell_0 23 rfl) rfl rfl nkX11_refuses mlX11_515 imX11_refuses rfl slX11_refuses rfl (Nat.le_of_ble_eq_true rfl) (Nat.le_of_ble_eq_true rfl) (kz198 Ln) h (fun z => rfl) (fun r6 φ6 α6 h => ?_)
      exact s_iret (kX11_tell_0 24 rfl) rfl h
    · have h := h.2 c5
      refine r_aload_n (pc' := 22) (kX11_tell_0 11 rfl) rfl rfl ?_
      refine r_iload_n (pc' := 23) (kX11_tell_0 12 rfl) rfl rfl ?_
      refine s_callV (As := [(0, x2)]) (o := 198) (S := []) (S2 := fun z => [(0, z)]) (pc' := 26) (kX11_tell_0 13 rfl) rfl rfl nkX11_floorOf mlX11_398 imX11_floorOf rfl slX11_floorOf rfl (Nat.le_of_ble_eq_true rfl) (Nat.le_of_ble_eq_true rfl) (kz198 Ln) h (fun z => rfl) (fun r7 φ7 α7 h => ?_)
      refine r_aload_n (pc' := 27) (kX11_tell_0 14 rfl) rfl rfl ?_
      refine r_iload_n (pc' := 28) (kX11_tell_0 15 rfl) rfl rfl ?_
      refine r_iload_n (pc' := 29) (kX11_tell_0 16 rfl) rfl rfl ?_
      refine s_callV (As := [(0, x1), (0, x3)]) (o := 198) (S := [(0, r7)]) (S2 := fun z => [(0, z), (0, r7)]) (pc' := 32) (kX11_tell_0 17 rfl) rfl rfl nkX11_spillOf mlX11_518 imX11_spillOf rfl slX11_spillOf rfl (Nat.le_of_ble_eq_true rfl) (Nat.le_of_ble_eq_true rfl) (kz198 Ln) h (fun z => rfl) (fun r8 φ8 α8 h => ?_)
      have g9 := h.1
      have h := h.2
      refine r_iadd (pc' := 33) (kX11_tell_0 18 rfl) rfl g9 ?_
      refine r_sipush 9999 (pc' := 36) (kX11_tell_0 19 rfl) rfl ⟨by unfold inR; omega, rfl⟩ ?_
      refine r_icmp_le (t := 45) (pc' := 39) (kX11_tell_0 20 rfl) rfl rfl (fun c10 => ?_) (fun c10 => ?_)
      · have h := h.1 c10
        refine r_aload_n (pc' := 46) (kX11_tell_0 25 rfl) rfl rfl ?_
        refine s_callV (As := []) (o := 198) (S := []) (S2 := fun z => []) (pc' := 49) (kX11_tell_0 26 rfl) rfl rfl nkX11_keeps mlX11_541 imX11_keeps rfl slX11_keeps rfl (Nat.le_of_ble_eq_true rfl) (Nat.le_of_ble_eq_true rfl) (kz198 Ln) h (fun z => rfl) (fun r11 φ11 α11 h => ?_)
        refine r_aload_n (pc' := 50) (kX11_tell_0 27 rfl) rfl rfl ?_
        refine r_iload_n (pc' := 51) (kX11_tell_0 28 rfl) rfl rfl ?_
        refine r_iload_n (pc' := 52) (kX11_tell_0 29 rfl) rfl rfl ?_
        refine r_iload_n (pc' := 53) (kX11_tell_0 30 rfl) rfl rfl ?_
        refine s_callV (As := [(0, x1), (0, x2), (0, x3)]) (o := 198) (S := []) (S2 := fun z => [(0, z)]) (pc' := 56) (kX11_tell_0 31 rfl) rfl rfl nkX11_isTold mlX11_524 imX11_isTold rfl slX11_isTold rfl (Nat.le_of_ble_eq_true rfl) (Nat.le_of_ble_eq_true rfl) (kz198 Ln) h (fun z => rfl) (fun r12 φ12 α12 h => ?_)
        exact s_iret (kX11_tell_0 32 rfl) rfl h
      · have h := h.2 c10
        refine r_aload_n (pc' := 40) (kX11_tell_0 21 rfl) rfl rfl ?_
        refine r_iconst 2 (pc' := 41) (kX11_tell_0 22 rfl) rfl (by unfold inR; omega) ?_
        refine s_callV (As := [(0, 2)]) (o := 198) (S := []) (S2 := fun z => [(0, z)]) (pc' := 44) (kX11_tell_0 23 rfl) rfl rfl nkX11_refuses mlX11_515 imX11_refuses rfl slX11_refuses rfl (Nat.le_of_ble_eq_true rfl) (Nat.le_of_ble_eq_true rfl) (kz198 Ln) h (fun z => rfl) (fun r13 φ13 α13 h => ?_)
        exact s_iret (kX11_tell_0 24 rfl) rfl h
abbrev jX11_goesOut_36 (d : Nat) (x1 x2 x3 x4 : Int) (φ : aF) (α : aA) (Q : Int → aF → aA → Prop) : Prop := R0 d mX11_goesOut 36 [(2, 198), (0, x1), (0, x2), (0, x3), (0, x4), (9, 0)] [] φ α Q
theorem vX11_goesOut_0 {d : Nat} {φ : aF} {α : aA} {Q : Int → aF → aA → Prop} {x1 : Int} {x2 : Int} (h : (eX11_isClerk d x1 φ α (fun r1 φ1 α1 =>
   ((r1 = 0 →
   (eX11_refuses d 2 φ1 α1 (fun r3 φ3 α3 =>
     (Q r3 φ3 α3)))) ∧
   (¬ (r1 = 0) →
   (eX11_fullOf d x1 φ1 α1 (fun r4 φ4 α4 =>
     ((¬ r4 = 0 →
     (eX11_keeps d  φ4 α4 (fun r6 φ6 α6 =>
       (eX11_fullOf d x1 φ6 α6 (fun r7 φ7 α7 =>
       (jX11_goesOut_36 (d + 1) x1 x2 r7 0 φ7 α7 Q)))))) ∧
     (r4 = 0 →
     (eX11_refuses d 2 φ4 α4 (fun r8 φ8 α8 =>
       (Q r8 φ8 α8)))))))))))) : eX11_goesOut (d + 1) x1 x2 φ α Q := by
  intro Ln
  refine r_aload_n (pc' := 1) (kX11_goesOut_0 0 rfl) rfl rfl ?_
  refine r_iload_n (pc' := 2) (kX11_goesOut_0 1 rfl) rfl rfl ?_
  refine r_i2l (pc' := 3) (kX11_goesOut_0 2 rfl) rfl ?_
  refine s_callV (As := [(1, x1)]) (o := 198) (S := []) (S2 := fun z => [(0, z)]) (pc' := 6) (kX11_goesOut_0 3 rfl) rfl rfl nkX11_isClerk mlX11_379 imX11_isClerk rfl slX11_isClerk rfl (Nat.le_of_ble_eq_true rfl) (Nat.le_of_ble_eq_true rfl) (kz198 Ln) h (fun z => rfl) (fun r1 φ1 α1 h => ?_)
  refine r_if_eq (t := 17) (pc' := 9) (kX11_goesOut_0 4 rfl) rfl rfl (fun c2 => ?_) (fun c2 => ?_)
  · have h := h.1 c2
    refine r_aload_n (pc' := 18) (kX11_goesOut_0 9 rfl) rfl rfl ?_
    refine r_iconst 2 (pc' := 19) (kX11_goesOut_0 10 rfl) rfl (by unfold inR; omega) ?_
    refine s_callV (As := [(0, 2)]) (o := 198) (S := []) (S2 := fun z => [(0, z)]) (pc' := 22) (kX11_goesOut_0 11 rfl) rfl rfl nkX11_refuses mlX11_515 imX11_refuses rfl slX11_refuses rfl (Nat.le_of_ble_eq_true rfl) (Nat.le_of_ble_eq_true rfl) (kz198 Ln) h (fun z => rfl) (fun r3 φ3 α3 h => ?_)
    exact s_iret (kX11_goesOut_0 12 rfl) rfl h
  · have h := h.2 c2
    refine r_aload_n (pc' := 10) (kX11_goesOut_0 5 rfl) rfl rfl ?_
    refine r_iload_n (pc' := 11) (kX11_goesOut_0 6 rfl) rfl rfl ?_
    refine s_callV (As := [(0, x1)]) (o := 198) (S := []) (S2 := fun z => [(0, z)]) (pc' := 14) (kX11_goesOut_0 7 rfl) rfl rfl nkX11_fullOf mlX11_392 imX11_fullOf rfl slX11_fullOf rfl (Nat.le_of_ble_eq_true rfl) (Nat.le_of_ble_eq_true rfl) (kz198 Ln) h (fun z => rfl) (fun r4 φ4 α4 h => ?_)
    refine r_if_ne (t := 23) (pc' := 17) (kX11_goesOut_0 8 rfl) rfl rfl (fun c5 => ?_) (fun c5 => ?_)
    · have h := h.1 c5
      refine r_aload_n (pc' := 24) (kX11_goesOut_0 13 rfl) rfl rfl ?_
      refine s_callV (As := []) (o := 198) (S := []) (S2 := fun z => []) (pc' := 27) (kX11_goesOut_0 14 rfl) rfl rfl nkX11_keeps mlX11_541 imX11_keeps rfl slX11_keeps rfl (Nat.le_of_ble_eq_true rfl) (Nat.le_of_ble_eq_true rfl) (kz198 Ln) h (fun z => rfl) (fun r6 φ6 α6 h => ?_)
      refine r_aload_n (pc' := 28) (kX11_goesOut_0 15 rfl) rfl rfl ?_
      refine r_iload_n (pc' := 29) (kX11_goesOut_0 16 rfl) rfl rfl ?_
      refine s_callV (As := [(0, x1)]) (o := 198) (S := []) (S2 := fun z => [(0, z)]) (pc' := 32) (kX11_goesOut_0 17 rfl) rfl rfl nkX11_fullOf mlX11_392 imX11_fullOf rfl slX11_fullOf rfl (Nat.le_of_ble_eq_true rfl) (Nat.le_of_ble_eq_true rfl) (kz198 Ln) h (fun z => rfl) (fun r7 φ7 α7 h => ?_)
      refine r_istore_n (L' := [(2, 198), (0, x1), (0, x2), (0, r7), (9, 0), (9, 0)]) (pc' := 33) (kX11_goesOut_0 18 rfl) rfl (Nat.le_of_ble_eq_true rfl) rfl ?_
      refine r_iconst 0 (pc' := 34) (kX11_goesOut_0 19 rfl) rfl (by unfold inR; omega) ?_
      refine r_istore (L' := [(2, 198), (0, x1), (0, x2), (0, r7), (0, 0), (9, 0)]) (pc' := 36) (kX11_goesOut_0 20 rfl) rfl (Nat.le_of_ble_eq_true rfl) rfl ?_
      exact r_weak (L' := [(2, 198), (0, x1), (0, x2), (0, r7), (0, 0), (9, 0)]) ⟨Or.inl rfl, Or.inl rfl, Or.inl rfl, Or.inl rfl, Or.inl rfl, Or.inr (by decide), trivial⟩ (h Ln)
    · have h := h.2 c5
      refine r_aload_n (pc' := 18) (kX11_goesOut_0 9 rfl) rfl rfl ?_
      refine r_iconst 2 (pc' := 19) (kX11_goesOut_0 10 rfl) rfl (by unfold inR; omega) ?_
      refine s_callV (As := [(0, 2)]) (o := 198) (S := []) (S2 := fun z => [(0, z)]) (pc' := 22) (kX11_goesOut_0 11 rfl) rfl rfl nkX11_refuses mlX11_515 imX11_refuses rfl slX11_refuses rfl (Nat.le_of_ble_eq_true rfl) (Nat.le_of_ble_eq_true rfl) (kz198 Ln) h (fun z => rfl) (fun r8 φ8 α8 h => ?_)
      exact s_iret (kX11_goesOut_0 12 rfl) rfl h
theorem vX11_goesOut_36 {d : Nat} {φ : aF} {α : aA} {Q : Int → aF → aA → Prop} {x1 : Int} {x2 : Int} {x3 : Int} {x4 : Int} (h : (eX11_matterMany d  φ α (fun r1 φ1 α1 =>
   ((r1 ≤ x4 →
   (Q x3 φ1 α1)) ∧
   (¬ (r1 ≤ x4) →
   inR (3 * x4) ∧ inR (36 + (3 * x4)) ∧ inR ((36 + (3 * x4)) + x2) ∧ (0 ≤ ((36 + (3 * x4)) + x2) ∧ ((36 + (3 * x4)) + x2) < (169 : Nat)) ∧ (eX11_dropsOf d x1 x4 φ1 α1 (fun r7 φ7 α7 =>
     inR ((α1 233 ((36 + (3 * x4)) + x2)) + r7) ∧ ((((α1 233 ((36 + (3 * x4)) + x2)) + r7) ≤ 9999 →
     (eX11_dropsOf d x1 x4 φ7 α7 (fun r10 φ10 α10 =>
       inR ((α7 233 ((36 + (3 * x4)) + x2)) + r10) ∧ inR (5 * x1) ∧ inR (2 + (5 * x1)) ∧ inR ((2 + (5 * x1)) + x4) ∧ (0 ≤ ((2 + (5 * x1)) + x4) ∧ ((2 + (5 * x1)) + x4) < (169 : Nat)) ∧ inR (x4 + 1) ∧ (jX11_goesOut_36 (d + 1) x1 x2 x3 (x4 + 1) φ10 (upa (upa α10 233 ((36 + (3 * x4)) + x2) ((α7 233 ((36 + (3 * x4)) + x2)) + r10)) 233 ((2 + (5 * x1)) + x4) 0) Q)))) ∧
     (¬ (((α1 233 ((36 + (3 * x4)) + x2)) + r7) ≤ 9999) →
     inR (5 * x1) ∧ inR (2 + (5 * x1)) ∧ inR ((2 + (5 * x1)) + x4) ∧ (0 ≤ ((2 + (5 * x1)) + x4) ∧ ((2 + (5 * x1)) + x4) < (169 : Nat)) ∧ inR (x4 + 1) ∧ (jX11_goesOut_36 (d + 1) x1 x2 x3 (x4 + 1) φ7 (upa (upa α7 233 ((36 + (3 * x4)) + x2) 9999) 233 ((2 + (5 * x1)) + x4) 0) Q)))))))))) : jX11_goesOut_36 (d + 1) x1 x2 x3 x4 φ α Q := by
  intro Ln
  refine r_iload (pc' := 38) (kX11_goesOut_0 21 rfl) rfl rfl ?_
  refine r_aload_n (pc' := 39) (kX11_goesOut_0 22 rfl) rfl rfl ?_
  refine s_callV (As := []) (o := 198) (S := [(0, x4)]) (S2 := fun z => [(0, z), (0, x4)]) (pc' := 42) (kX11_goesOut_0 23 rfl) rfl rfl nkX11_matterMany mlX11_373 imX11_matterMany rfl slX11_matterMany rfl (Nat.le_of_ble_eq_true rfl) (Nat.le_of_ble_eq_true rfl) (kz198 Ln) h (fun z => rfl) (fun r1 φ1 α1 h => ?_)
  refine r_icmp_ge (t := 125) (pc' := 45) (kX11_goesOut_0 24 rfl) rfl rfl (fun c2 => ?_) (fun c2 => ?_)
  · have h := h.1 c2
    refine r_iload_n (pc' := 126) (kX11_goesOut_1 12 rfl) rfl rfl ?_
    exact s_iret (kX11_goesOut_1 13 rfl) rfl h
  · have h := h.2 c2
    refine r_bipush 36 (pc' := 47) (kX11_goesOut_0 25 rfl) rfl ⟨by unfold inR; omega, rfl⟩ ?_
    refine r_iconst 3 (pc' := 48) (kX11_goesOut_0 26 rfl) rfl (by unfold inR; omega) ?_
    refine r_iload (pc' := 50) (kX11_goesOut_0 27 rfl) rfl rfl ?_
    have g3 := h.1
    have h := h.2
    refine r_imul (pc' := 51) (kX11_goesOut_0 28 rfl) rfl g3 ?_
    have g4 := h.1
    have h := h.2
    refine r_iadd (pc' := 52) (kX11_goesOut_0 29 rfl) rfl g4 ?_
    refine r_iload_n (pc' := 53) (kX11_goesOut_0 30 rfl) rfl rfl ?_
    have g5 := h.1
    have h := h.2
    refine r_iadd (pc' := 54) (kX11_goesOut_0 31 rfl) rfl g5 ?_
    refine r_istore (L' := [(2, 198), (0, x1), (0, x2), (0, x3), (0, x4), (0, ((36 + (3 * x4)) + x2))]) (pc' := 56) (kX11_goesOut_0 32 rfl) rfl (Nat.le_of_ble_eq_true rfl) rfl ?_
    refine r_aload_n (pc' := 57) (kX11_goesOut_0 33 rfl) rfl rfl ?_
    refine s_getr (v := 233) (pc' := 60) (kX11_goesOut_0 34 rfl) rfl fkX11_118 rfl rfl (kz198 Ln) rfl (by decide) ?_
    refine r_iload (pc' := 62) (kX11_goesOut_0 35 rfl) rfl rfl ?_
    refine r_aload_n (pc' := 63) (kX11_goesOut_0 36 rfl) rfl rfl ?_
    refine s_getr (v := 233) (pc' := 66) (kX11_goesOut_0 37 rfl) rfl fkX11_118 rfl rfl (kz198 Ln) rfl (by decide) ?_
    refine r_iload (pc' := 68) (kX11_goesOut_0 38 rfl) rfl rfl ?_
    have g6 := h.1
    have h := h.2
    refine s_iald (x := (α1 233 ((36 + (3 * x4)) + x2))) (pc' := 69) (kX11_goesOut_0 39 rfl) rfl (kz233 Ln) g6 rfl ?_
    refine r_aload_n (pc' := 70) (kX11_goesOut_0 40 rfl) rfl rfl ?_
    refine r_iload_n (pc' := 71) (kX11_goesOut_0 41 rfl) rfl rfl ?_
    refine r_iload (pc' := 73) (kX11_goesOut_0 42 rfl) rfl rfl ?_
    refine s_callV (As := [(0, x1), (0, x4)]) (o := 198) (S := [(0, (α1 233 ((36 + (3 * x4)) + x2))), (0, ((36 + (3 * x4)) + x2)), (2, 233)]) (S2 := fun z => [(0, z), (0, (α1 233 ((36 + (3 * x4)) + x2))), (0, ((36 + (3 * x4)) + x2)), (2, 233)]) (pc' := 76) (kX11_goesOut_0 43 rfl) rfl rfl nkX11_dropsOf mlX11_386 imX11_dropsOf rfl slX11_dropsOf rfl (Nat.le_of_ble_eq_true rfl) (Nat.le_of_ble_eq_true rfl) (kz198 Ln) h (fun z => rfl) (fun r7 φ7 α7 h => ?_)
    have g8 := h.1
    have h := h.2
    refine r_iadd (pc' := 77) (kX11_goesOut_0 44 rfl) rfl g8 ?_
    refine r_sipush 9999 (pc' := 80) (kX11_goesOut_0 45 rfl) rfl ⟨by unfold inR; omega, rfl⟩ ?_
    refine r_icmp_le (t := 89) (pc' := 83) (kX11_goesOut_0 46 rfl) rfl rfl (fun c9 => ?_) (fun c9 => ?_)
    · have h := h.1 c9
      refine r_aload_n (pc' := 90) (kX11_goesOut_0 49 rfl) rfl rfl ?_
      refine s_getr (v := 233) (pc' := 93) (kX11_goesOut_0 50 rfl) rfl fkX11_118 rfl rfl (kz198 Ln) rfl (by decide) ?_
      refine r_iload (pc' := 95) (kX11_goesOut_0 51 rfl) rfl rfl ?_
      refine s_iald (x := (α7 233 ((36 + (3 * x4)) + x2))) (pc' := 96) (kX11_goesOut_0 52 rfl) rfl (kz233 Ln) g6 rfl ?_
      refine r_aload_n (pc' := 97) (kX11_goesOut_0 53 rfl) rfl rfl ?_
      refine r_iload_n (pc' := 98) (kX11_goesOut_0 54 rfl) rfl rfl ?_
      refine r_iload (pc' := 100) (kX11_goesOut_0 55 rfl) rfl rfl ?_
      refine s_callV (As := [(0, x1), (0, x4)]) (o := 198) (S := [(0, (α7 233 ((36 + (3 * x4)) + x2))), (0, ((36 + (3 * x4)) + x2)), (2, 233)]) (S2 := fun z => [(0, z), (0, (α7 233 ((36 + (3 * x4)) + x2))), (0, ((36 + (3 * x4)) + x2)), (2, 233)]) (pc' := 103) (kX11_goesOut_0 56 rfl) rfl rfl nkX11_dropsOf mlX11_386 imX11_dropsOf rfl slX11_dropsOf rfl (Nat.le_of_ble_eq_true rfl) (Nat.le_of_ble_eq_true rfl) (kz198 Ln) h (fun z => rfl) (fun r10 φ10 α10 h => ?_)
      have g11 := h.1
      have h := h.2
      refine r_iadd (pc' := 104) (kX11_goesOut_0 57 rfl) rfl g11 ?_
      refine s_iast (pc' := 105) (kX11_goesOut_0 58 rfl) rfl (kz233 Ln) g6 ?_
      refine r_aload_n (pc' := 106) (kX11_goesOut_0 59 rfl) rfl rfl ?_
      refine s_getr (v := 233) (pc' := 109) (kX11_goesOut_1 0 rfl) rfl fkX11_118 rfl rfl (kz198 Ln) rfl (by decide) ?_
      refine r_iconst 2 (pc' := 110) (kX11_goesOut_1 1 rfl) rfl (by unfold inR; omega) ?_
      refine r_iconst 5 (pc' := 111) (kX11_goesOut_1 2 rfl) rfl (by unfold inR; omega) ?_
      refine r_iload_n (pc' := 112) (kX11_goesOut_1 3 rfl) rfl rfl ?_
      have g12 := h.1
      have h := h.2
      refine r_imul (pc' := 113) (kX11_goesOut_1 4 rfl) rfl g12 ?_
      have g13 := h.1
      have h := h.2
      refine r_iadd (pc' := 114) (kX11_goesOut_1 5 rfl) rfl g13 ?_
      refine r_iload (pc' := 116) (kX11_goesOut_1 6 rfl) rfl rfl ?_
      have g14 := h.1
      have h := h.2
      refine r_iadd (pc' := 117) (kX11_goesOut_1 7 rfl) rfl g14 ?_
      refine r_iconst 0 (pc' := 118) (kX11_goesOut_1 8 rfl) rfl (by unfold inR; omega) ?_
      have g15 := h.1
      have h := h.2
      refine s_iast (pc' := 119) (kX11_goesOut_1 9 rfl) rfl (kz233 Ln) g15 ?_
      have g16 := h.1
      have h := h.2
      refine r_iinc (L' := [(2, 198), (0, x1), (0, x2), (0, x3), (0, (x4 + 1)), (0, ((36 + (3 * x4)) + x2))]) (pc' := 122) (kX11_goesOut_1 10 rfl) rfl (Nat.le_of_ble_eq_true rfl) rfl g16 rfl ?_
      refine r_goto (pc' := 36) (kX11_goesOut_1 11 rfl) rfl ?_
      exact r_weak (L' := [(2, 198), (0, x1), (0, x2), (0, x3), (0, (x4 + 1)), (9, 0)]) ⟨Or.inl rfl, Or.inl rfl, Or.inl rfl, Or.inl rfl, Or.inl rfl, Or.inr (by decide), trivial⟩ (h Ln)
    · have h := h.2 c9
      refine r_sipush 9999 (pc' := 86) (kX11_goesOut_0 47 rfl) rfl ⟨by unfold inR; omega, rfl⟩ ?_
      refine r_goto (pc' := 104) (kX11_goesOut_0 48 rfl) rfl ?_
      refine s_iast (pc' := 105) (kX11_goesOut_0 58 rfl) rfl (kz233 Ln) g6 ?_
      refine r_aload_n (pc' := 106) (kX11_goesOut_0 59 rfl) rfl rfl ?_
      refine s_getr (v := 233) (pc' := 109) (kX11_goesOut_1 0 rfl) rfl fkX11_118 rfl rfl (kz198 Ln) rfl (by decide) ?_
      refine r_iconst 2 (pc' := 110) (kX11_goesOut_1 1 rfl) rfl (by unfold inR; omega) ?_
      refine r_iconst 5 (pc' := 111) (kX11_goesOut_1 2 rfl) rfl (by unfold inR; omega) ?_
      refine r_iload_n (pc' := 112) (kX11_goesOut_1 3 rfl) rfl rfl ?_
      have g17 := h.1
      have h := h.2
      refine r_imul (pc' := 113) (kX11_goesOut_1 4 rfl) rfl g17 ?_
      have g18 := h.1
      have h := h.2
      refine r_iadd (pc' := 114) (kX11_goesOut_1 5 rfl) rfl g18 ?_
      refine r_iload (pc' := 116) (kX11_goesOut_1 6 rfl) rfl rfl ?_
      have g19 := h.1
      have h := h.2
      refine r_iadd (pc' := 117) (kX11_goesOut_1 7 rfl) rfl g19 ?_
      refine r_iconst 0 (pc' := 118) (kX11_goesOut_1 8 rfl) rfl (by unfold inR; omega) ?_
      have g20 := h.1
      have h := h.2
      refine s_iast (pc' := 119) (kX11_goesOut_1 9 rfl) rfl (kz233 Ln) g20 ?_
      have g21 := h.1
      have h := h.2
      refine r_iinc (L' := [(2, 198), (0, x1), (0, x2), (0, x3), (0, (x4 + 1)), (0, ((36 + (3 * x4)) + x2))]) (pc' := 122) (kX11_goesOut_1 10 rfl) rfl (Nat.le_of_ble_eq_true rfl) rfl g21 rfl ?_
      refine r_goto (pc' := 36) (kX11_goesOut_1 11 rfl) rfl ?_
      exact r_weak (L' := [(2, 198), (0, x1), (0, x2), (0, x3), (0, (x4 + 1)), (9, 0)]) ⟨Or.inl rfl, Or.inl rfl, Or.inl rfl, Or.inl rfl, Or.inl rfl, Or.inr (by decide), trivial⟩ (h Ln)
theorem vX11_squeeze_0 {d : Nat} {φ : aF} {α : aA} {Q : Int → aF → aA → Prop} {x1 : Int} (h : (eX11_goesOut d x1 1 φ α (fun r1 φ1 α1 =>
   (Q r1 φ1 α1)))) : eX11_squeeze (d + 1) x1 φ α Q := by
  intro Ln
  refine r_aload_n (pc' := 1) (kX11_squeeze_0 0 rfl) rfl rfl ?_
  refine r_iload_n (pc' := 2) (kX11_squeeze_0 1 rfl) rfl rfl ?_
  refine r_iconst 1 (pc' := 3) (kX11_squeeze_0 2 rfl) rfl (by unfold inR; omega) ?_
  refine s_callV (As := [(0, x1), (0, 1)]) (o := 198) (S := []) (S2 := fun z => [(0, z)]) (pc' := 6) (kX11_squeeze_0 3 rfl) rfl rfl nkX11_goesOut mlX11_544 imX11_goesOut rfl slX11_goesOut rfl (Nat.le_of_ble_eq_true rfl) (Nat.le_of_ble_eq_true rfl) (kz198 Ln) h (fun z => rfl) (fun r1 φ1 α1 h => ?_)
  exact s_iret (kX11_squeeze_0 4 rfl) rfl h
theorem vX11_rinse_0 {d : Nat} {φ : aF} {α : aA} {Q : Int → aF → aA → Prop} {x1 : Int} (h : (eX11_goesOut d x1 2 φ α (fun r1 φ1 α1 =>
   (Q r1 φ1 α1)))) : eX11_rinse (d + 1) x1 φ α Q := by
  intro Ln
  refine r_aload_n (pc' := 1) (kX11_rinse_0 0 rfl) rfl rfl ?_
  refine r_iload_n (pc' := 2) (kX11_rinse_0 1 rfl) rfl rfl ?_
  refine r_iconst 2 (pc' := 3) (kX11_rinse_0 2 rfl) rfl (by unfold inR; omega) ?_
  refine s_callV (As := [(0, x1), (0, 2)]) (o := 198) (S := []) (S2 := fun z => [(0, z)]) (pc' := 6) (kX11_rinse_0 3 rfl) rfl rfl nkX11_goesOut mlX11_544 imX11_goesOut rfl slX11_goesOut rfl (Nat.le_of_ble_eq_true rfl) (Nat.le_of_ble_eq_true rfl) (kz198 Ln) h (fun z => rfl) (fun r1 φ1 α1 h => ?_)
  exact s_iret (kX11_rinse_0 4 rfl) rfl h
abbrev jX11_mop_38 (d : Nat) (x1 x2 x3 : Int) (φ : aF) (α : aA) (Q : Int → aF → aA → Prop) : Prop := R0 d mX11_mop 38 [(2, 198), (0, x1), (0, x2), (0, x3), (9, 0)] [] φ α Q
theorem vX11_mop_0 {d : Nat} {φ : aF} {α : aA} {Q : Int → aF → aA → Prop} {x1 : Int} (h : (eX11_isClerk d x1 φ α (fun r1 φ1 α1 =>
   ((r1 = 0 →
   (eX11_refuses d 2 φ1 α1 (fun r3 φ3 α3 =>
     (Q r3 φ3 α3)))) ∧
   (¬ (r1 = 0) →
   (eX11_spaceOf d x1 φ1 α1 (fun r4 φ4 α4 =>
     ((r4 = 0 →
     (eX11_refuses d 2 φ4 α4 (fun r6 φ6 α6 =>
       (Q r6 φ6 α6)))) ∧
     (¬ (r4 = 0) →
     (eX11_floorAll d  φ4 α4 (fun r7 φ7 α7 =>
       ((¬ r7 = 0 →
       (eX11_keeps d  φ7 α7 (fun r9 φ9 α9 =>
         (jX11_mop_38 (d + 1) x1 0 0 φ9 α9 Q)))) ∧
       (r7 = 0 →
       (eX11_refuses d 2 φ7 α7 (fun r10 φ10 α10 =>
         (Q r10 φ10 α10)))))))))))))))) : eX11_mop (d + 1) x1 φ α Q := by
  intro Ln
  refine r_aload_n (pc' := 1) (kX11_mop_0 0 rfl) rfl rfl ?_
  refine r_iload_n (pc' := 2) (kX11_mop_0 1 rfl) rfl rfl ?_
  refine r_i2l (pc' := 3) (kX11_mop_0 2 rfl) rfl ?_
  refine s_callV (As := [(1, x1)]) (o := 198) (S := []) (S2 := fun z => [(0, z)]) (pc' := 6) (kX11_mop_0 3 rfl) rfl rfl nkX11_isClerk mlX11_379 imX11_isClerk rfl slX11_isClerk rfl (Nat.le_of_ble_eq_true rfl) (Nat.le_of_ble_eq_true rfl) (kz198 Ln) h (fun z => rfl) (fun r1 φ1 α1 h => ?_)
  refine r_if_eq (t := 24) (pc' := 9) (kX11_mop_0 4 rfl) rfl rfl (fun c2 => ?_) (fun c2 => ?_)
  · have h := h.1 c2
    refine r_aload_n (pc' := 25) (kX11_mop_0 12 rfl) rfl rfl ?_
    refine r_iconst 2 (pc' := 26) (kX11_mop_0 13 rfl) rfl (by unfold inR; omega) ?_
    refine s_callV (As := [(0, 2)]) (o := 198) (S := []) (S2 := fun z => [(0, z)]) (pc' := 29) (kX11_mop_0 14 rfl) rfl rfl nkX11_refuses mlX11_515 imX11_refuses rfl slX11_refuses rfl (Nat.le_of_ble_eq_true rfl) (Nat.le_of_ble_eq_true rfl) (kz198 Ln) h (fun z => rfl) (fun r3 φ3 α3 h => ?_)
    exact s_iret (kX11_mop_0 15 rfl) rfl h
  · have h := h.2 c2
    refine r_aload_n (pc' := 10) (kX11_mop_0 5 rfl) rfl rfl ?_
    refine r_iload_n (pc' := 11) (kX11_mop_0 6 rfl) rfl rfl ?_
    refine s_callV (As := [(0, x1)]) (o := 198) (S := []) (S2 := fun z => [(0, z)]) (pc' := 14) (kX11_mop_0 7 rfl) rfl rfl nkX11_spaceOf mlX11_415 imX11_spaceOf rfl slX11_spaceOf rfl (Nat.le_of_ble_eq_true rfl) (Nat.le_of_ble_eq_true rfl) (kz198 Ln) h (fun z => rfl) (fun r4 φ4 α4 h => ?_)
    refine r_if_eq (t := 24) (pc' := 17) (kX11_mop_0 8 rfl) rfl rfl (fun c5 => ?_) (fun c5 => ?_)
    · have h := h.1 c5
      refine r_aload_n (pc' := 25) (kX11_mop_0 12 rfl) rfl rfl ?_
      refine r_iconst 2 (pc' := 26) (kX11_mop_0 13 rfl) rfl (by unfold inR; omega) ?_
      refine s_callV (As := [(0, 2)]) (o := 198) (S := []) (S2 := fun z => [(0, z)]) (pc' := 29) (kX11_mop_0 14 rfl) rfl rfl nkX11_refuses mlX11_515 imX11_refuses rfl slX11_refuses rfl (Nat.le_of_ble_eq_true rfl) (Nat.le_of_ble_eq_true rfl) (kz198 Ln) h (fun z => rfl) (fun r6 φ6 α6 h => ?_)
      exact s_iret (kX11_mop_0 15 rfl) rfl h
    · have h := h.2 c5
      refine r_aload_n (pc' := 18) (kX11_mop_0 9 rfl) rfl rfl ?_
      refine s_callV (As := []) (o := 198) (S := []) (S2 := fun z => [(0, z)]) (pc' := 21) (kX11_mop_0 10 rfl) rfl rfl nkX11_floorAll mlX11_459 imX11_floorAll rfl slX11_floorAll rfl (Nat.le_of_ble_eq_true rfl) (Nat.le_of_ble_eq_true rfl) (kz198 Ln) h (fun z => rfl) (fun r7 φ7 α7 h => ?_)
      refine r_if_ne (t := 30) (pc' := 24) (kX11_mop_0 11 rfl) rfl rfl (fun c8 => ?_) (fun c8 => ?_)
      · have h := h.1 c8
        refine r_aload_n (pc' := 31) (kX11_mop_0 16 rfl) rfl rfl ?_
        refine s_callV (As := []) (o := 198) (S := []) (S2 := fun z => []) (pc' := 34) (kX11_mop_0 17 rfl) rfl rfl nkX11_keeps mlX11_541 imX11_keeps rfl slX11_keeps rfl (Nat.le_of_ble_eq_true rfl) (Nat.le_of_ble_eq_true rfl) (kz198 Ln) h (fun z => rfl) (fun r9 φ9 α9 h => ?_)
        refine r_iconst 0 (pc' := 35) (kX11_mop_0 18 rfl) rfl (by unfold inR; omega) ?_
        refine r_istore_n (L' := [(2, 198), (0, x1), (0, 0), (9, 0), (9, 0)]) (pc' := 36) (kX11_mop_0 19 rfl) rfl (Nat.le_of_ble_eq_true rfl) rfl ?_
        refine r_iconst 0 (pc' := 37) (kX11_mop_0 20 rfl) rfl (by unfold inR; omega) ?_
        refine r_istore_n (L' := [(2, 198), (0, x1), (0, 0), (0, 0), (9, 0)]) (pc' := 38) (kX11_mop_0 21 rfl) rfl (Nat.le_of_ble_eq_true rfl) rfl ?_
        exact r_weak (L' := [(2, 198), (0, x1), (0, 0), (0, 0), (9, 0)]) ⟨Or.inl rfl, Or.inl rfl, Or.inl rfl, Or.inl rfl, Or.inr (by decide), trivial⟩ (h Ln)
      · have h := h.2 c8
        refine r_aload_n (pc' := 25) (kX11_mop_0 12 rfl) rfl rfl ?_
        refine r_iconst 2 (pc' := 26) (kX11_mop_0 13 rfl) rfl (by unfold inR; omega) ?_
        refine s_callV (As := [(0, 2)]) (o := 198) (S := []) (S2 := fun z => [(0, z)]) (pc' := 29) (kX11_mop_0 14 rfl) rfl rfl nkX11_refuses mlX11_515 imX11_refuses rfl slX11_refuses rfl (Nat.le_of_ble_eq_true rfl) (Nat.le_of_ble_eq_true rfl) (kz198 Ln) h (fun z => rfl) (fun r10 φ10 α10 h => ?_)
        exact s_iret (kX11_mop_0 15 rfl) rfl h
theorem vX11_mop_38 {d : Nat} {φ : aF} {α : aA} {Q : Int → aF → aA → Prop} {x1 : Int} {x2 : Int} {x3 : Int} (h : (eX11_matterMany d  φ α (fun r1 φ1 α1 =>
   ((r1 ≤ x3 →
   (Q x2 φ1 α1)) ∧
   (¬ (r1 ≤ x3) →
   (eX11_floorOf d x3 φ1 α1 (fun r3 φ3 α3 =>
     (eX11_spaceOf d x1 φ3 α3 (fun r4 φ4 α4 =>
     ((r4 ≤ r3 →
     (eX11_spaceOf d x1 φ4 α4 (fun r6 φ6 α6 =>
       inR (3 * x3) ∧ inR (36 + (3 * x3)) ∧ (0 ≤ (36 + (3 * x3)) ∧ (36 + (3 * x3)) < (169 : Nat)) ∧ inR ((α6 233 (36 + (3 * x3))) - r6) ∧ inR (5 * x1) ∧ inR (2 + (5 * x1)) ∧ inR ((2 + (5 * x1)) + x3) ∧ (0 ≤ ((2 + (5 * x1)) + x3) ∧ ((2 + (5 * x1)) + x3) < (169 : Nat)) ∧ inR (((upa α6 233 (36 + (3 * x3)) ((α6 233 (36 + (3 * x3))) - r6)) 233 ((2 + (5 * x1)) + x3)) + r6) ∧ inR (x2 + r6) ∧ inR (x3 + 1) ∧ (jX11_mop_38 (d + 1) x1 (x2 + r6) (x3 + 1) φ6 (upa (upa α6 233 (36 + (3 * x3)) ((α6 233 (36 + (3 * x3))) - r6)) 233 ((2 + (5 * x1)) + x3) (((upa α6 233 (36 + (3 * x3)) ((α6 233 (36 + (3 * x3))) - r6)) 233 ((2 + (5 * x1)) + x3)) + r6)) Q)))) ∧
     (¬ (r4 ≤ r3) →
     (eX11_floorOf d x3 φ4 α4 (fun r18 φ18 α18 =>
       inR (3 * x3) ∧ inR (36 + (3 * x3)) ∧ (0 ≤ (36 + (3 * x3)) ∧ (36 + (3 * x3)) < (169 : Nat)) ∧ inR ((α18 233 (36 + (3 * x3))) - r18) ∧ inR (5 * x1) ∧ inR (2 + (5 * x1)) ∧ inR ((2 + (5 * x1)) + x3) ∧ (0 ≤ ((2 + (5 * x1)) + x3) ∧ ((2 + (5 * x1)) + x3) < (169 : Nat)) ∧ inR (((upa α18 233 (36 + (3 * x3)) ((α18 233 (36 + (3 * x3))) - r18)) 233 ((2 + (5 * x1)) + x3)) + r18) ∧ inR (x2 + r18) ∧ inR (x3 + 1) ∧ (jX11_mop_38 (d + 1) x1 (x2 + r18) (x3 + 1) φ18 (upa (upa α18 233 (36 + (3 * x3)) ((α18 233 (36 + (3 * x3))) - r18)) 233 ((2 + (5 * x1)) + x3) (((upa α18 233 (36 + (3 * x3)) ((α18 233 (36 + (3 * x3))) - r18)) 233 ((2 + (5 * x1)) + x3)) + r18)) Q)))))))))))))) : jX11_mop_38 (d + 1) x1 x2 x3 φ α Q := by
  intro Ln
  refine r_iload_n (pc' := 39) (kX11_mop_0 22 rfl) rfl rfl ?_
  refine r_aload_n (pc' := 40) (kX11_mop_0 23 rfl) rfl rfl ?_
  refine s_callV (As := []) (o := 198) (S := [(0, x3)]) (S2 := fun z => [(0, z), (0, x3)]) (pc' := 43) (kX11_mop_0 24 rfl) rfl rfl nkX11_matterMany mlX11_373 imX11_matterMany rfl slX11_matterMany rfl (Nat.le_of_ble_eq_true rfl) (Nat.le_of_ble_eq_true rfl) (kz198 Ln) h (fun z => rfl) (fun r1 φ1 α1 h => ?_)
  refine r_icmp_ge (t := 118) (pc' := 46) (kX11_mop_0 25 rfl) rfl rfl (fun c2 => ?_) (fun c2 => ?_)
  · have h := h.1 c2
    refine r_iload_n (pc' := 119) (kX11_mop_1 13 rfl) rfl rfl ?_
    exact s_iret (kX11_mop_1 14 rfl) rfl h
  · have h := h.2 c2
    refine r_aload_n (pc' := 47) (kX11_mop_0 26 rfl) rfl rfl ?_
    refine r_iload_n (pc' := 48) (kX11_mop_0 27 rfl) rfl rfl ?_
    refine s_callV (As := [(0, x3)]) (o := 198) (S := []) (S2 := fun z => [(0, z)]) (pc' := 51) (kX11_mop_0 28 rfl) rfl rfl nkX11_floorOf mlX11_398 imX11_floorOf rfl slX11_floorOf rfl (Nat.le_of_ble_eq_true rfl) (Nat.le_of_ble_eq_true rfl) (kz198 Ln) h (fun z => rfl) (fun r3 φ3 α3 h => ?_)
    refine r_aload_n (pc' := 52) (kX11_mop_0 29 rfl) rfl rfl ?_
    refine r_iload_n (pc' := 53) (kX11_mop_0 30 rfl) rfl rfl ?_
    refine s_callV (As := [(0, x1)]) (o := 198) (S := [(0, r3)]) (S2 := fun z => [(0, z), (0, r3)]) (pc' := 56) (kX11_mop_0 31 rfl) rfl rfl nkX11_spaceOf mlX11_415 imX11_spaceOf rfl slX11_spaceOf rfl (Nat.le_of_ble_eq_true rfl) (Nat.le_of_ble_eq_true rfl) (kz198 Ln) h (fun z => rfl) (fun r4 φ4 α4 h => ?_)
    refine r_icmp_ge (t := 67) (pc' := 59) (kX11_mop_0 32 rfl) rfl rfl (fun c5 => ?_) (fun c5 => ?_)
    · have h := h.1 c5
      refine r_aload_n (pc' := 68) (kX11_mop_0 37 rfl) rfl rfl ?_
      refine r_iload_n (pc' := 69) (kX11_mop_0 38 rfl) rfl rfl ?_
      refine s_callV (As := [(0, x1)]) (o := 198) (S := []) (S2 := fun z => [(0, z)]) (pc' := 72) (kX11_mop_0 39 rfl) rfl rfl nkX11_spaceOf mlX11_415 imX11_spaceOf rfl slX11_spaceOf rfl (Nat.le_of_ble_eq_true rfl) (Nat.le_of_ble_eq_true rfl) (kz198 Ln) h (fun z => rfl) (fun r6 φ6 α6 h => ?_)
      refine r_istore (L' := [(2, 198), (0, x1), (0, x2), (0, x3), (0, r6)]) (pc' := 74) (kX11_mop_0 40 rfl) rfl (Nat.le_of_ble_eq_true rfl) rfl ?_
      refine r_aload_n (pc' := 75) (kX11_mop_0 41 rfl) rfl rfl ?_
      refine s_getr (v := 233) (pc' := 78) (kX11_mop_0 42 rfl) rfl fkX11_118 rfl rfl (kz198 Ln) rfl (by decide) ?_
      refine r_bipush 36 (pc' := 80) (kX11_mop_0 43 rfl) rfl ⟨by unfold inR; omega, rfl⟩ ?_
      refine r_iconst 3 (pc' := 81) (kX11_mop_0 44 rfl) rfl (by unfold inR; omega) ?_
      refine r_iload_n (pc' := 82) (kX11_mop_0 45 rfl) rfl rfl ?_
      have g7 := h.1
      have h := h.2
      refine r_imul (pc' := 83) (kX11_mop_0 46 rfl) rfl g7 ?_
      have g8 := h.1
      have h := h.2
      refine r_iadd (pc' := 84) (kX11_mop_0 47 rfl) rfl g8 ?_
      refine r_dup2 (pc' := 85) (kX11_mop_0 48 rfl) rfl rfl rfl ?_
      have g9 := h.1
      have h := h.2
      refine s_iald (x := (α6 233 (36 + (3 * x3)))) (pc' := 86) (kX11_mop_0 49 rfl) rfl (kz233 Ln) g9 rfl ?_
      refine r_iload (pc' := 88) (kX11_mop_0 50 rfl) rfl rfl ?_
      have g10 := h.1
      have h := h.2
      refine r_isub (pc' := 89) (kX11_mop_0 51 rfl) rfl g10 ?_
      refine s_iast (pc' := 90) (kX11_mop_0 52 rfl) rfl (kz233 Ln) g9 ?_
      refine r_aload_n (pc' := 91) (kX11_mop_0 53 rfl) rfl rfl ?_
      refine s_getr (v := 233) (pc' := 94) (kX11_mop_0 54 rfl) rfl fkX11_118 rfl rfl (kz198 Ln) rfl (by decide) ?_
      refine r_iconst 2 (pc' := 95) (kX11_mop_0 55 rfl) rfl (by unfold inR; omega) ?_
      refine r_iconst 5 (pc' := 96) (kX11_mop_0 56 rfl) rfl (by unfold inR; omega) ?_
      refine r_iload_n (pc' := 97) (kX11_mop_0 57 rfl) rfl rfl ?_
      have g11 := h.1
      have h := h.2
      refine r_imul (pc' := 98) (kX11_mop_0 58 rfl) rfl g11 ?_
      have g12 := h.1
      have h := h.2
      refine r_iadd (pc' := 99) (kX11_mop_0 59 rfl) rfl g12 ?_
      refine r_iload_n (pc' := 100) (kX11_mop_1 0 rfl) rfl rfl ?_
      have g13 := h.1
      have h := h.2
      refine r_iadd (pc' := 101) (kX11_mop_1 1 rfl) rfl g13 ?_
      refine r_dup2 (pc' := 102) (kX11_mop_1 2 rfl) rfl rfl rfl ?_
      have g14 := h.1
      have h := h.2
      refine s_iald (x := ((upa α6 233 (36 + (3 * x3)) ((α6 233 (36 + (3 * x3))) - r6)) 233 ((2 + (5 * x1)) + x3))) (pc' := 103) (kX11_mop_1 3 rfl) rfl (kz233 Ln) g14 rfl ?_
      refine r_iload (pc' := 105) (kX11_mop_1 4 rfl) rfl rfl ?_
      have g15 := h.1
      have h := h.2
      refine r_iadd (pc' := 106) (kX11_mop_1 5 rfl) rfl g15 ?_
      refine s_iast (pc' := 107) (kX11_mop_1 6 rfl) rfl (kz233 Ln) g14 ?_
      refine r_iload_n (pc' := 108) (kX11_mop_1 7 rfl) rfl rfl ?_
      refine r_iload (pc' := 110) (kX11_mop_1 8 rfl) rfl rfl ?_
      have g16 := h.1
      have h := h.2
      refine r_iadd (pc' := 111) (kX11_mop_1 9 rfl) rfl g16 ?_
      refine r_istore_n (L' := [(2, 198), (0, x1), (0, (x2 + r6)), (0, x3), (0, r6)]) (pc' := 112) (kX11_mop_1 10 rfl) rfl (Nat.le_of_ble_eq_true rfl) rfl ?_
      have g17 := h.1
      have h := h.2
      refine r_iinc (L' := [(2, 198), (0, x1), (0, (x2 + r6)), (0, (x3 + 1)), (0, r6)]) (pc' := 115) (kX11_mop_1 11 rfl) rfl (Nat.le_of_ble_eq_true rfl) rfl g17 rfl ?_
      refine r_goto (pc' := 38) (kX11_mop_1 12 rfl) rfl ?_
      exact r_weak (L' := [(2, 198), (0, x1), (0, (x2 + r6)), (0, (x3 + 1)), (9, 0)]) ⟨Or.inl rfl, Or.inl rfl, Or.inl rfl, Or.inl rfl, Or.inr (by decide), trivial⟩ (h Ln)
    · have h := h.2 c5
      refine r_aload_n (pc' := 60) (kX11_mop_0 33 rfl) rfl rfl ?_
      refine r_iload_n (pc' := 61) (kX11_mop_0 34 rfl) rfl rfl ?_
      refine s_callV (As := [(0, x3)]) (o := 198) (S := []) (S2 := fun z => [(0, z)]) (pc' := 64) (kX11_mop_0 35 rfl) rfl rfl nkX11_floorOf mlX11_398 imX11_floorOf rfl slX11_floorOf rfl (Nat.le_of_ble_eq_true rfl) (Nat.le_of_ble_eq_true rfl) (kz198 Ln) h (fun z => rfl) (fun r18 φ18 α18 h => ?_)
      refine r_goto (pc' := 72) (kX11_mop_0 36 rfl) rfl ?_
      refine r_istore (L' := [(2, 198), (0, x1), (0, x2), (0, x3), (0, r18)]) (pc' := 74) (kX11_mop_0 40 rfl) rfl (Nat.le_of_ble_eq_true rfl) rfl ?_
      refine r_aload_n (pc' := 75) (kX11_mop_0 41 rfl) rfl rfl ?_
      refine s_getr (v := 233) (pc' := 78) (kX11_mop_0 42 rfl) rfl fkX11_118 rfl rfl (kz198 Ln) rfl (by decide) ?_
      refine r_bipush 36 (pc' := 80) (kX11_mop_0 43 rfl) rfl ⟨by unfold inR; omega, rfl⟩ ?_
      refine r_iconst 3 (pc' := 81) (kX11_mop_0 44 rfl) rfl (by unfold inR; omega) ?_
      refine r_iload_n (pc' := 82) (kX11_mop_0 45 rfl) rfl rfl ?_
      have g19 := h.1
      have h := h.2
      refine r_imul (pc' := 83) (kX11_mop_0 46 rfl) rfl g19 ?_
      have g20 := h.1
      have h := h.2
      refine r_iadd (pc' := 84) (kX11_mop_0 47 rfl) rfl g20 ?_
      refine r_dup2 (pc' := 85) (kX11_mop_0 48 rfl) rfl rfl rfl ?_
      have g21 := h.1
      have h := h.2
      refine s_iald (x := (α18 233 (36 + (3 * x3)))) (pc' := 86) (kX11_mop_0 49 rfl) rfl (kz233 Ln) g21 rfl ?_
      refine r_iload (pc' := 88) (kX11_mop_0 50 rfl) rfl rfl ?_
      have g22 := h.1
      have h := h.2
      refine r_isub (pc' := 89) (kX11_mop_0 51 rfl) rfl g22 ?_
      refine s_iast (pc' := 90) (kX11_mop_0 52 rfl) rfl (kz233 Ln) g21 ?_
      refine r_aload_n (pc' := 91) (kX11_mop_0 53 rfl) rfl rfl ?_
      refine s_getr (v := 233) (pc' := 94) (kX11_mop_0 54 rfl) rfl fkX11_118 rfl rfl (kz198 Ln) rfl (by decide) ?_
      refine r_iconst 2 (pc' := 95) (kX11_mop_0 55 rfl) rfl (by unfold inR; omega) ?_
      refine r_iconst 5 (pc' := 96) (kX11_mop_0 56 rfl) rfl (by unfold inR; omega) ?_
      refine r_iload_n (pc' := 97) (kX11_mop_0 57 rfl) rfl rfl ?_
      have g23 := h.1
      have h := h.2
      refine r_imul (pc' := 98) (kX11_mop_0 58 rfl) rfl g23 ?_
      have g24 := h.1
      have h := h.2
      refine r_iadd (pc' := 99) (kX11_mop_0 59 rfl) rfl g24 ?_
      refine r_iload_n (pc' := 100) (kX11_mop_1 0 rfl) rfl rfl ?_
      have g25 := h.1
      have h := h.2
      refine r_iadd (pc' := 101) (kX11_mop_1 1 rfl) rfl g25 ?_
      refine r_dup2 (pc' := 102) (kX11_mop_1 2 rfl) rfl rfl rfl ?_
      have g26 := h.1
      have h := h.2
      refine s_iald (x := ((upa α18 233 (36 + (3 * x3)) ((α18 233 (36 + (3 * x3))) - r18)) 233 ((2 + (5 * x1)) + x3))) (pc' := 103) (kX11_mop_1 3 rfl) rfl (kz233 Ln) g26 rfl ?_
      refine r_iload (pc' := 105) (kX11_mop_1 4 rfl) rfl rfl ?_
      have g27 := h.1
      have h := h.2
      refine r_iadd (pc' := 106) (kX11_mop_1 5 rfl) rfl g27 ?_
      refine s_iast (pc' := 107) (kX11_mop_1 6 rfl) rfl (kz233 Ln) g26 ?_
      refine r_iload_n (pc' := 108) (kX11_mop_1 7 rfl) rfl rfl ?_
      refine r_iload (pc' := 110) (kX11_mop_1 8 rfl) rfl rfl ?_
      have g28 := h.1
      have h := h.2
      refine r_iadd (pc' := 111) (kX11_mop_1 9 rfl) rfl g28 ?_
      refine r_istore_n (L' := [(2, 198), (0, x1), (0, (x2 + r18)), (0, x3), (0, r18)]) (pc' := 112) (kX11_mop_1 10 rfl) rfl (Nat.le_of_ble_eq_true rfl) rfl ?_
      have g29 := h.1
      have h := h.2
      refine r_iinc (L' := [(2, 198), (0, x1), (0, (x2 + r18)), (0, (x3 + 1)), (0, r18)]) (pc' := 115) (kX11_mop_1 11 rfl) rfl (Nat.le_of_ble_eq_true rfl) rfl g29 rfl ?_
      refine r_goto (pc' := 38) (kX11_mop_1 12 rfl) rfl ?_
      exact r_weak (L' := [(2, 198), (0, x1), (0, (x2 + r18)), (0, (x3 + 1)), (9, 0)]) ⟨Or.inl rfl, Or.inl rfl, Or.inl rfl, Or.inl rfl, Or.inr (by decide), trivial⟩ (h Ln)
theorem vX11_change_0 {d : Nat} {φ : aF} {α : aA} {Q : Int → aF → aA → Prop} {x1 : Int} {x2 : Int} (h : (((φ 11 46 198) = 0 →
   inR ((α 200 2) + 1) ∧ (Q 0 φ (upa α 200 2 ((α 200 2) + 1)))) ∧
   (¬ ((φ 11 46 198) = 0) →
   inR ((α 225 2) - 1) ∧ (eX11_isIn d x1 0 ((α 225 2) - 1) φ α (fun r4 φ4 α4 =>
     ((r4 = 0 →
     inR ((α4 200 2) + 1) ∧ (Q 0 φ4 (upa α4 200 2 ((α4 200 2) + 1)))) ∧
     (¬ (r4 = 0) →
     inR ((α4 225 2) - 1) ∧ (eX11_isIn d x2 0 ((α4 225 2) - 1) φ4 α4 (fun r8 φ8 α8 =>
       ((r8 = 0 →
       inR ((α8 200 2) + 1) ∧ (Q 0 φ8 (upa α8 200 2 ((α8 200 2) + 1)))) ∧
       (¬ (r8 = 0) →
       ((x1 = x2 →
         inR ((α8 200 2) + 1) ∧ (Q 0 φ8 (upa α8 200 2 ((α8 200 2) + 1)))) ∧
         (¬ (x1 = x2) →
         (eX11_sitterOf d x1 φ8 α8 (fun r13 φ13 α13 =>
           ((¬ r13 = (-1) →
           (eX11_keeps d  φ13 α13 (fun r15 φ15 α15 =>
             (eX11_changes d x1 x2 φ15 α15 (fun r16 φ16 α16 =>
             (Q 1 φ16 α16)))))) ∧
           (r13 = (-1) →
           (eX11_sitterOf d x2 φ13 α13 (fun r17 φ17 α17 =>
             ((¬ r17 = (-1) →
             (eX11_keeps d  φ17 α17 (fun r19 φ19 α19 =>
               (eX11_changes d x1 x2 φ19 α19 (fun r20 φ20 α20 =>
               (Q 1 φ20 α20)))))) ∧
             (r17 = (-1) →
             inR ((α17 200 2) + 1) ∧ (Q 0 φ17 (upa α17 200 2 ((α17 200 2) + 1)))))))))))))))))))))))) : eX11_change (d + 1) x1 x2 φ α Q := by
  intro Ln
  refine r_aload_n (pc' := 1) (kX11_change_0 0 rfl) rfl rfl ?_
  refine s_get (x := (φ 11 46 198)) (pc' := 4) (kX11_change_0 1 rfl) rfl fkX11_363 rfl rfl rfl (kz198 Ln) rfl ?_
  refine r_if_eq (t := 66) (pc' := 7) (kX11_change_0 2 rfl) rfl rfl (fun c1 => ?_) (fun c1 => ?_)
  · have h := h.1 c1
    refine r_aload_n (pc' := 67) (kX11_change_0 40 rfl) rfl rfl ?_
    refine s_getr (v := 200) (pc' := 70) (kX11_change_0 41 rfl) rfl fkX11_17 rfl rfl (kz198 Ln) rfl (by decide) ?_
    refine r_iconst 2 (pc' := 71) (kX11_change_0 42 rfl) rfl (by unfold inR; omega) ?_
    refine r_dup2 (pc' := 72) (kX11_change_0 43 rfl) rfl rfl rfl ?_
    refine s_iald (x := (α 200 2)) (pc' := 73) (kX11_change_0 44 rfl) rfl (kz200 Ln) ⟨by decide, by decide⟩ rfl ?_
    refine r_iconst 1 (pc' := 74) (kX11_change_0 45 rfl) rfl (by unfold inR; omega) ?_
    have g2 := h.1
    have h := h.2
    refine r_iadd (pc' := 75) (kX11_change_0 46 rfl) rfl g2 ?_
    refine s_iast (pc' := 76) (kX11_change_0 47 rfl) rfl (kz200 Ln) ⟨by decide, by decide⟩ ?_
    refine r_iconst 0 (pc' := 77) (kX11_change_0 48 rfl) rfl (by unfold inR; omega) ?_
    exact s_zret (kX11_change_0 49 rfl) rfl (Or.inl rfl) h
  · have h := h.2 c1
    refine r_iload_n (pc' := 8) (kX11_change_0 3 rfl) rfl rfl ?_
    refine r_i2l (pc' := 9) (kX11_change_0 4 rfl) rfl ?_
    refine r_lconst 0 (pc' := 10) (kX11_change_0 5 rfl) rfl ⟨by unfold inJ; omega, rfl⟩ ?_
    refine r_aload_n (pc' := 11) (kX11_change_0 6 rfl) rfl rfl ?_
    refine s_getr (v := 225) (pc' := 14) (kX11_change_0 7 rfl) rfl fkX11_93 rfl rfl (kz198 Ln) rfl (by decide) ?_
    refine r_iconst 2 (pc' := 15) (kX11_change_0 8 rfl) rfl (by unfold inR; omega) ?_
    refine s_iald (x := (α 225 2)) (pc' := 16) (kX11_change_0 9 rfl) rfl (kz225 Ln) ⟨by decide, by decide⟩ rfl ?_
    refine r_iconst 1 (pc' := 17) (kX11_change_0 10 rfl) rfl (by unfold inR; omega) ?_
    have g3 := h.1
    have h := h.2
    refine r_isub (pc' := 18) (kX11_change_0 11 rfl) rfl g3 ?_
    refine r_i2l (pc' := 19) (kX11_change_0 12 rfl) rfl ?_
    refine s_callS (As := [(1, x1), (1, 0), (1, ((α 225 2) - 1))]) (S := []) (S2 := fun z => [(0, z)]) (pc' := 22) (kX11_change_0 13 rfl) rfl rfl nkX11_isIn mlX11_270 scX11_isIn rfl (Nat.le_of_ble_eq_true rfl) (Nat.le_of_ble_eq_true rfl) h (fun z => rfl) (fun r4 φ4 α4 h => ?_)
    refine r_if_eq (t := 66) (pc' := 25) (kX11_change_0 14 rfl) rfl rfl (fun c5 => ?_) (fun c5 => ?_)
    · have h := h.1 c5
      refine r_aload_n (pc' := 67) (kX11_change_0 40 rfl) rfl rfl ?_
      refine s_getr (v := 200) (pc' := 70) (kX11_change_0 41 rfl) rfl fkX11_17 rfl rfl (kz198 Ln) rfl (by decide) ?_
      refine r_iconst 2 (pc' := 71) (kX11_change_0 42 rfl) rfl (by unfold inR; omega) ?_
      refine r_dup2 (pc' := 72) (kX11_change_0 43 rfl) rfl rfl rfl ?_
      refine s_iald (x := (α4 200 2)) (pc' := 73) (kX11_change_0 44 rfl) rfl (kz200 Ln) ⟨by decide, by decide⟩ rfl ?_
      refine r_iconst 1 (pc' := 74) (kX11_change_0 45 rfl) rfl (by unfold inR; omega) ?_
      have g6 := h.1
      have h := h.2
      refine r_iadd (pc' := 75) (kX11_change_0 46 rfl) rfl g6 ?_
      refine s_iast (pc' := 76) (kX11_change_0 47 rfl) rfl (kz200 Ln) ⟨by decide, by decide⟩ ?_
      refine r_iconst 0 (pc' := 77) (kX11_change_0 48 rfl) rfl (by unfold inR; omega) ?_
      exact s_zret (kX11_change_0 49 rfl) rfl (Or.inl rfl) h
    · have h := h.2 c5
      refine r_iload_n (pc' := 26) (kX11_change_0 15 rfl) rfl rfl ?_
      refine r_i2l (pc' := 27) (kX11_change_0 16 rfl) rfl ?_
      refine r_lconst 0 (pc' := 28) (kX11_change_0 17 rfl) rfl ⟨by unfold inJ; omega, rfl⟩ ?_
      refine r_aload_n (pc' := 29) (kX11_change_0 18 rfl) rfl rfl ?_
      refine s_getr (v := 225) (pc' := 32) (kX11_change_0 19 rfl) rfl fkX11_93 rfl rfl (kz198 Ln) rfl (by decide) ?_
      refine r_iconst 2 (pc' := 33) (kX11_change_0 20 rfl) rfl (by unfold inR; omega) ?_
      refine s_iald (x := (α4 225 2)) (pc' := 34) (kX11_change_0 21 rfl) rfl (kz225 Ln) ⟨by decide, by decide⟩ rfl ?_
      refine r_iconst 1 (pc' := 35) (kX11_change_0 22 rfl) rfl (by unfold inR; omega) ?_
      have g7 := h.1
      have h := h.2
      refine r_isub (pc' := 36) (kX11_change_0 23 rfl) rfl g7 ?_
      refine r_i2l (pc' := 37) (kX11_change_0 24 rfl) rfl ?_
      refine s_callS (As := [(1, x2), (1, 0), (1, ((α4 225 2) - 1))]) (S := []) (S2 := fun z => [(0, z)]) (pc' := 40) (kX11_change_0 25 rfl) rfl rfl nkX11_isIn mlX11_270 scX11_isIn rfl (Nat.le_of_ble_eq_true rfl) (Nat.le_of_ble_eq_true rfl) h (fun z => rfl) (fun r8 φ8 α8 h => ?_)
      refine r_if_eq (t := 66) (pc' := 43) (kX11_change_0 26 rfl) rfl rfl (fun c9 => ?_) (fun c9 => ?_)
      · have h := h.1 c9
        refine r_aload_n (pc' := 67) (kX11_change_0 40 rfl) rfl rfl ?_
        refine s_getr (v := 200) (pc' := 70) (kX11_change_0 41 rfl) rfl fkX11_17 rfl rfl (kz198 Ln) rfl (by decide) ?_
        refine r_iconst 2 (pc' := 71) (kX11_change_0 42 rfl) rfl (by unfold inR; omega) ?_
        refine r_dup2 (pc' := 72) (kX11_change_0 43 rfl) rfl rfl rfl ?_
        refine s_iald (x := (α8 200 2)) (pc' := 73) (kX11_change_0 44 rfl) rfl (kz200 Ln) ⟨by decide, by decide⟩ rfl ?_
        refine r_iconst 1 (pc' := 74) (kX11_change_0 45 rfl) rfl (by unfold inR; omega) ?_
        have g10 := h.1
        have h := h.2
        refine r_iadd (pc' := 75) (kX11_change_0 46 rfl) rfl g10 ?_
        refine s_iast (pc' := 76) (kX11_change_0 47 rfl) rfl (kz200 Ln) ⟨by decide, by decide⟩ ?_
        refine r_iconst 0 (pc' := 77) (kX11_change_0 48 rfl) rfl (by unfold inR; omega) ?_
        exact s_zret (kX11_change_0 49 rfl) rfl (Or.inl rfl) h
      · have h := h.2 c9
        refine r_iload_n (pc' := 44) (kX11_change_0 27 rfl) rfl rfl ?_
        refine r_iload_n (pc' := 45) (kX11_change_0 28 rfl) rfl rfl ?_
        refine r_icmp_eq (t := 66) (pc' := 48) (kX11_change_0 29 rfl) rfl rfl (fun c11 => ?_) (fun c11 => ?_)
        · have h := h.1 c11
          refine r_aload_n (pc' := 67) (kX11_change_0 40 rfl) rfl rfl ?_
          refine s_getr (v := 200) (pc' := 70) (kX11_change_0 41 rfl) rfl fkX11_17 rfl rfl (kz198 Ln) rfl (by decide) ?_
          refine r_iconst 2 (pc' := 71) (kX11_change_0 42 rfl) rfl (by unfold inR; omega) ?_
          refine r_dup2 (pc' := 72) (kX11_change_0 43 rfl) rfl rfl rfl ?_
          refine s_iald (x := (α8 200 2)) (pc' := 73) (kX11_change_0 44 rfl) rfl (kz200 Ln) ⟨by decide, by decide⟩ rfl ?_
          refine r_iconst 1 (pc' := 74) (kX11_change_0 45 rfl) rfl (by unfold inR; omega) ?_
          have g12 := h.1
          have h := h.2
          refine r_iadd (pc' := 75) (kX11_change_0 46 rfl) rfl g12 ?_
          refine s_iast (pc' := 76) (kX11_change_0 47 rfl) rfl (kz200 Ln) ⟨by decide, by decide⟩ ?_
          refine r_iconst 0 (pc' := 77) (kX11_change_0 48 rfl) rfl (by unfold inR; omega) ?_
          exact s_zret (kX11_change_0 49 rfl) rfl (Or.inl rfl) h
        · have h := h.2 c11
          refine r_aload_n (pc' := 49) (kX11_change_0 30 rfl) rfl rfl ?_
          refine r_iload_n (pc' := 50) (kX11_change_0 31 rfl) rfl rfl ?_
          refine s_callV (As := [(0, x1)]) (o := 198) (S := []) (S2 := fun z => [(0, z)]) (pc' := 53) (kX11_change_0 32 rfl) rfl rfl nkX11_sitterOf mlX11_436 imX11_sitterOf rfl slX11_sitterOf rfl (Nat.le_of_ble_eq_true rfl) (Nat.le_of_ble_eq_true rfl) (kz198 Ln) h (fun z => rfl) (fun r13 φ13 α13 h => ?_)
          refine r_iconst (-1) (pc' := 54) (kX11_change_0 33 rfl) rfl (by unfold inR; omega) ?_
          refine r_icmp_ne (t := 78) (pc' := 57) (kX11_change_0 34 rfl) rfl rfl (fun c14 => ?_) (fun c14 => ?_)
          · have h := h.1 c14
            refine r_aload_n (pc' := 79) (kX11_change_0 50 rfl) rfl rfl ?_
            refine s_callV (As := []) (o := 198) (S := []) (S2 := fun z => []) (pc' := 82) (kX11_change_0 51 rfl) rfl rfl nkX11_keeps mlX11_541 imX11_keeps rfl slX11_keeps rfl (Nat.le_of_ble_eq_true rfl) (Nat.le_of_ble_eq_true rfl) (kz198 Ln) h (fun z => rfl) (fun r15 φ15 α15 h => ?_)
            refine r_aload_n (pc' := 83) (kX11_change_0 52 rfl) rfl rfl ?_
            refine r_iload_n (pc' := 84) (kX11_change_0 53 rfl) rfl rfl ?_
            refine r_iload_n (pc' := 85) (kX11_change_0 54 rfl) rfl rfl ?_
            refine s_callV (As := [(0, x1), (0, x2)]) (o := 198) (S := []) (S2 := fun z => []) (pc' := 88) (kX11_change_0 55 rfl) rfl rfl nkX11_changes mlX11_502 imX11_changes rfl slX11_changes rfl (Nat.le_of_ble_eq_true rfl) (Nat.le_of_ble_eq_true rfl) (kz198 Ln) h (fun z => rfl) (fun r16 φ16 α16 h => ?_)
            refine r_iconst 1 (pc' := 89) (kX11_change_0 56 rfl) rfl (by unfold inR; omega) ?_
            exact s_zret (kX11_change_0 57 rfl) rfl (Or.inr rfl) h
          · have h := h.2 c14
            refine r_aload_n (pc' := 58) (kX11_change_0 35 rfl) rfl rfl ?_
            refine r_iload_n (pc' := 59) (kX11_change_0 36 rfl) rfl rfl ?_
            refine s_callV (As := [(0, x2)]) (o := 198) (S := []) (S2 := fun z => [(0, z)]) (pc' := 62) (kX11_change_0 37 rfl) rfl rfl nkX11_sitterOf mlX11_436 imX11_sitterOf rfl slX11_sitterOf rfl (Nat.le_of_ble_eq_true rfl) (Nat.le_of_ble_eq_true rfl) (kz198 Ln) h (fun z => rfl) (fun r17 φ17 α17 h => ?_)
            refine r_iconst (-1) (pc' := 63) (kX11_change_0 38 rfl) rfl (by unfold inR; omega) ?_
            refine r_icmp_ne (t := 78) (pc' := 66) (kX11_change_0 39 rfl) rfl rfl (fun c18 => ?_) (fun c18 => ?_)
            · have h := h.1 c18
              refine r_aload_n (pc' := 79) (kX11_change_0 50 rfl) rfl rfl ?_
              refine s_callV (As := []) (o := 198) (S := []) (S2 := fun z => []) (pc' := 82) (kX11_change_0 51 rfl) rfl rfl nkX11_keeps mlX11_541 imX11_keeps rfl slX11_keeps rfl (Nat.le_of_ble_eq_true rfl) (Nat.le_of_ble_eq_true rfl) (kz198 Ln) h (fun z => rfl) (fun r19 φ19 α19 h => ?_)
              refine r_aload_n (pc' := 83) (kX11_change_0 52 rfl) rfl rfl ?_
              refine r_iload_n (pc' := 84) (kX11_change_0 53 rfl) rfl rfl ?_
              refine r_iload_n (pc' := 85) (kX11_change_0 54 rfl) rfl rfl ?_
              refine s_callV (As := [(0, x1), (0, x2)]) (o := 198) (S := []) (S2 := fun z => []) (pc' := 88) (kX11_change_0 55 rfl) rfl rfl nkX11_changes mlX11_502 imX11_changes rfl slX11_changes rfl (Nat.le_of_ble_eq_true rfl) (Nat.le_of_ble_eq_true rfl) (kz198 Ln) h (fun z => rfl) (fun r20 φ20 α20 h => ?_)
              refine r_iconst 1 (pc' := 89) (kX11_change_0 56 rfl) rfl (by unfold inR; omega) ?_
              exact s_zret (kX11_change_0 57 rfl) rfl (Or.inr rfl) h
            · have h := h.2 c18
              refine r_aload_n (pc' := 67) (kX11_change_0 40 rfl) rfl rfl ?_
              refine s_getr (v := 200) (pc' := 70) (kX11_change_0 41 rfl) rfl fkX11_17 rfl rfl (kz198 Ln) rfl (by decide) ?_
              refine r_iconst 2 (pc' := 71) (kX11_change_0 42 rfl) rfl (by unfold inR; omega) ?_
              refine r_dup2 (pc' := 72) (kX11_change_0 43 rfl) rfl rfl rfl ?_
              refine s_iald (x := (α17 200 2)) (pc' := 73) (kX11_change_0 44 rfl) rfl (kz200 Ln) ⟨by decide, by decide⟩ rfl ?_
              refine r_iconst 1 (pc' := 74) (kX11_change_0 45 rfl) rfl (by unfold inR; omega) ?_
              have g21 := h.1
              have h := h.2
              refine r_iadd (pc' := 75) (kX11_change_0 46 rfl) rfl g21 ?_
              refine s_iast (pc' := 76) (kX11_change_0 47 rfl) rfl (kz200 Ln) ⟨by decide, by decide⟩ ?_
              refine r_iconst 0 (pc' := 77) (kX11_change_0 48 rfl) rfl (by unfold inR; omega) ?_
              exact s_zret (kX11_change_0 49 rfl) rfl (Or.inl rfl) h
theorem vX11_days_0 {d : Nat} {φ : aF} {α : aA} {Q : Int → aF → aA → Prop} {x1 : Int} (h : (eX11_isAhead d x1 1 100 φ α (fun r1 φ1 α1 =>
   ((¬ r1 = 0 →
   (eX11_keeps d  φ1 α1 (fun r3 φ3 α3 =>
     (eX11_daysGo d x1 (upf φ3 11 53 198 0) α3 (fun r4 φ4 α4 =>
     (Q (φ4 11 53 198) φ4 α4)))))) ∧
   (r1 = 0 →
   (eX11_refuses d 3 φ1 α1 (fun r5 φ5 α5 =>
     (Q r5 φ5 α5)))))))) : eX11_days (d + 1) x1 φ α Q := by
  intro Ln
  refine r_aload_n (pc' := 1) (kX11_days_0 0 rfl) rfl rfl ?_
  refine r_iload_n (pc' := 2) (kX11_days_0 1 rfl) rfl rfl ?_
  refine r_iconst 1 (pc' := 3) (kX11_days_0 2 rfl) rfl (by unfold inR; omega) ?_
  refine r_bipush 100 (pc' := 5) (kX11_days_0 3 rfl) rfl ⟨by unfold inR; omega, rfl⟩ ?_
  refine s_callV (As := [(0, x1), (0, 1), (0, 100)]) (o := 198) (S := []) (S2 := fun z => [(0, z)]) (pc' := 8) (kX11_days_0 4 rfl) rfl rfl nkX11_isAhead mlX11_484 imX11_isAhead rfl slX11_isAhead rfl (Nat.le_of_ble_eq_true rfl) (Nat.le_of_ble_eq_true rfl) (kz198 Ln) h (fun z => rfl) (fun r1 φ1 α1 h => ?_)
  refine r_if_ne (t := 17) (pc' := 11) (kX11_days_0 5 rfl) rfl rfl (fun c2 => ?_) (fun c2 => ?_)
  · have h := h.1 c2
    refine r_aload_n (pc' := 18) (kX11_days_0 10 rfl) rfl rfl ?_
    refine s_callV (As := []) (o := 198) (S := []) (S2 := fun z => []) (pc' := 21) (kX11_days_0 11 rfl) rfl rfl nkX11_keeps mlX11_541 imX11_keeps rfl slX11_keeps rfl (Nat.le_of_ble_eq_true rfl) (Nat.le_of_ble_eq_true rfl) (kz198 Ln) h (fun z => rfl) (fun r3 φ3 α3 h => ?_)
    refine r_aload_n (pc' := 22) (kX11_days_0 12 rfl) rfl rfl ?_
    refine r_iconst 0 (pc' := 23) (kX11_days_0 13 rfl) rfl (by unfold inR; omega) ?_
    refine s_put (pc' := 26) (kX11_days_0 14 rfl) rfl fkX11_427 fnX11_53 rfl pk_int (kz198 Ln) ?_
    refine r_aload_n (pc' := 27) (kX11_days_0 15 rfl) rfl rfl ?_
    refine r_iload_n (pc' := 28) (kX11_days_0 16 rfl) rfl rfl ?_
    refine s_callV (As := [(0, x1)]) (o := 198) (S := []) (S2 := fun z => []) (pc' := 31) (kX11_days_0 17 rfl) rfl rfl nkX11_daysGo mlX11_490 imX11_daysGo rfl slX11_daysGo rfl (Nat.le_of_ble_eq_true rfl) (Nat.le_of_ble_eq_true rfl) (kz198 Ln) h (fun z => rfl) (fun r4 φ4 α4 h => ?_)
    refine r_aload_n (pc' := 32) (kX11_days_0 18 rfl) rfl rfl ?_
    refine s_get (x := (φ4 11 53 198)) (pc' := 35) (kX11_days_0 19 rfl) rfl fkX11_427 rfl rfl rfl (kz198 Ln) rfl ?_
    exact s_iret (kX11_days_0 20 rfl) rfl h
  · have h := h.2 c2
    refine r_aload_n (pc' := 12) (kX11_days_0 6 rfl) rfl rfl ?_
    refine r_iconst 3 (pc' := 13) (kX11_days_0 7 rfl) rfl (by unfold inR; omega) ?_
    refine s_callV (As := [(0, 3)]) (o := 198) (S := []) (S2 := fun z => [(0, z)]) (pc' := 16) (kX11_days_0 8 rfl) rfl rfl nkX11_refuses mlX11_515 imX11_refuses rfl slX11_refuses rfl (Nat.le_of_ble_eq_true rfl) (Nat.le_of_ble_eq_true rfl) (kz198 Ln) h (fun z => rfl) (fun r5 φ5 α5 h => ?_)
    exact s_iret (kX11_days_0 9 rfl) rfl h
theorem vX11_seed_0 {d : Nat} {φ : aF} {α : aA} {Q : Int → aF → aA → Prop} {x1 : Int} (h : ((0 ≤ x1 →
   (Q 1 (upf φ 11 62 198 x1) α)) ∧
   (¬ (0 ≤ x1) →
   inR ((α 200 5) + 1) ∧ (Q 0 φ (upa α 200 5 ((α 200 5) + 1)))))) : eX11_seed d x1 φ α Q := by
  intro Ln
  refine r_iload_n (pc' := 1) (kX11_seed_0 0 rfl) rfl rfl ?_
  refine r_if_ge (t := 16) (pc' := 4) (kX11_seed_0 1 rfl) rfl rfl (fun c1 => ?_) (fun c1 => ?_)
  · have h := h.1 c1
    refine r_aload_n (pc' := 17) (kX11_seed_0 12 rfl) rfl rfl ?_
    refine r_iload_n (pc' := 18) (kX11_seed_0 13 rfl) rfl rfl ?_
    refine r_i2l (pc' := 19) (kX11_seed_0 14 rfl) rfl ?_
    refine s_put (pc' := 22) (kX11_seed_0 15 rfl) rfl fkX11_136 fnX11_62 rfl pk_long (kz198 Ln) ?_
    refine r_iconst 1 (pc' := 23) (kX11_seed_0 16 rfl) rfl (by unfold inR; omega) ?_
    exact s_zret (kX11_seed_0 17 rfl) rfl (Or.inr rfl) h
  · have h := h.2 c1
    refine r_aload_n (pc' := 5) (kX11_seed_0 2 rfl) rfl rfl ?_
    refine s_getr (v := 200) (pc' := 8) (kX11_seed_0 3 rfl) rfl fkX11_17 rfl rfl (kz198 Ln) rfl (by decide) ?_
    refine r_iconst 5 (pc' := 9) (kX11_seed_0 4 rfl) rfl (by unfold inR; omega) ?_
    refine r_dup2 (pc' := 10) (kX11_seed_0 5 rfl) rfl rfl rfl ?_
    refine s_iald (x := (α 200 5)) (pc' := 11) (kX11_seed_0 6 rfl) rfl (kz200 Ln) ⟨by decide, by decide⟩ rfl ?_
    refine r_iconst 1 (pc' := 12) (kX11_seed_0 7 rfl) rfl (by unfold inR; omega) ?_
    have g2 := h.1
    have h := h.2
    refine r_iadd (pc' := 13) (kX11_seed_0 8 rfl) rfl g2 ?_
    refine s_iast (pc' := 14) (kX11_seed_0 9 rfl) rfl (kz200 Ln) ⟨by decide, by decide⟩ ?_
    refine r_iconst 0 (pc' := 15) (kX11_seed_0 10 rfl) rfl (by unfold inR; omega) ?_
    exact s_zret (kX11_seed_0 11 rfl) rfl (Or.inl rfl) h
theorem vX11_drawOf_0 {d : Nat} {φ : aF} {α : aA} {Q : Int → aF → aA → Prop} {x1 : Int} (h : inJ (1103515245 * (φ 11 62 198)) ∧ inJ ((1103515245 * (φ 11 62 198)) + 12345) ∧ inJ (Int.tmod ((1103515245 * (φ 11 62 198)) + 12345) 2147483648) ∧ inJ (Int.tdiv (Int.tmod ((1103515245 * (φ 11 62 198)) + 12345) 2147483648) 64) ∧ (x1 ≠ 0 ∧ inJ (Int.tmod (Int.tdiv (Int.tmod ((1103515245 * (φ 11 62 198)) + 12345) 2147483648) 64) x1)) ∧ inR (Int.tmod (Int.tdiv (Int.tmod ((1103515245 * (φ 11 62 198)) + 12345) 2147483648) 64) x1) ∧ (Q (Int.tmod (Int.tdiv (Int.tmod ((1103515245 * (φ 11 62 198)) + 12345) 2147483648) 64) x1) (upf φ 11 62 198 (Int.tmod ((1103515245 * (φ 11 62 198)) + 12345) 2147483648)) α)) : eX11_drawOf d x1 φ α Q := by
  intro Ln
  refine r_aload_n (pc' := 1) (kX11_drawOf_0 0 rfl) rfl rfl ?_
  refine r_ldc2 1103515245 (pc' := 4) (kX11_drawOf_0 1 rfl) rfl kcX11_547 (by unfold inJ; omega) ?_
  refine r_aload_n (pc' := 5) (kX11_drawOf_0 2 rfl) rfl rfl ?_
  refine s_get (x := (φ 11 62 198)) (pc' := 8) (kX11_drawOf_0 3 rfl) rfl fkX11_136 rfl rfl rfl (kz198 Ln) rfl ?_
  have g1 := h.1
  have h := h.2
  refine r_lmul (pc' := 9) (kX11_drawOf_0 4 rfl) rfl g1 ?_
  refine r_ldc2 12345 (pc' := 12) (kX11_drawOf_0 5 rfl) rfl kcX11_549 (by unfold inJ; omega) ?_
  have g2 := h.1
  have h := h.2
  refine r_ladd (pc' := 13) (kX11_drawOf_0 6 rfl) rfl g2 ?_
  refine r_ldc2 2147483648 (pc' := 16) (kX11_drawOf_0 7 rfl) rfl kcX11_551 (by unfold inJ; omega) ?_
  have g3 := h.1
  have h := h.2
  refine r_lrem (pc' := 17) (kX11_drawOf_0 8 rfl) rfl ⟨by decide, g3⟩ ?_
  refine s_put (pc' := 20) (kX11_drawOf_0 9 rfl) rfl fkX11_136 fnX11_62 rfl pk_long (kz198 Ln) ?_
  refine r_aload_n (pc' := 21) (kX11_drawOf_0 10 rfl) rfl rfl ?_
  refine s_get (x := (Int.tmod ((1103515245 * (φ 11 62 198)) + 12345) 2147483648)) (pc' := 24) (kX11_drawOf_0 11 rfl) rfl fkX11_136 rfl rfl rfl (kz198 Ln) (by simp [upf]) ?_
  refine r_ldc2 64 (pc' := 27) (kX11_drawOf_0 12 rfl) rfl kcX11_553 (by unfold inJ; omega) ?_
  have g4 := h.1
  have h := h.2
  refine r_ldiv (pc' := 28) (kX11_drawOf_0 13 rfl) rfl ⟨by decide, g4⟩ ?_
  refine r_iload_n (pc' := 29) (kX11_drawOf_0 14 rfl) rfl rfl ?_
  refine r_i2l (pc' := 30) (kX11_drawOf_0 15 rfl) rfl ?_
  have g5 := h.1
  have h := h.2
  refine r_lrem (pc' := 31) (kX11_drawOf_0 16 rfl) rfl g5 ?_
  have g6 := h.1
  have h := h.2
  refine r_l2i (pc' := 32) (kX11_drawOf_0 17 rfl) rfl g6 ?_
  exact s_iret (kX11_drawOf_0 18 rfl) rfl h
theorem vX11_canShake_0 {d : Nat} {φ : aF} {α : aA} {Q : Int → aF → aA → Prop} {x1 : Int} {x2 : Int} (h : (((α 230 3) = (-1) →
   (Q 1 (upf φ 11 51 198 x2) α)) ∧
   (¬ ((α 230 3) = (-1)) →
   (eX11_codesTell d 1 x1 (upf φ 11 51 198 x2) α (fun r2 φ2 α2 =>
     ((¬ (j3 r2 1) = 0 →
     (Q 0 φ2 α2)) ∧
     ((j3 r2 1) = 0 →
     (Q 1 φ2 α2)))))))) : eX11_canShake (d + 1) x1 x2 φ α Q := by
  intro Ln
  refine r_aload_n (pc' := 1) (kX11_canShake_0 0 rfl) rfl rfl ?_
  refine r_iload_n (pc' := 2) (kX11_canShake_0 1 rfl) rfl rfl ?_
  refine s_put (pc' := 5) (kX11_canShake_0 2 rfl) rfl fkX11_421 fnX11_51 rfl pk_int (kz198 Ln) ?_
  refine r_aload_n (pc' := 6) (kX11_canShake_0 3 rfl) rfl rfl ?_
  refine s_getr (v := 230) (pc' := 9) (kX11_canShake_0 4 rfl) rfl fkX11_109 rfl rfl (kz198 Ln) rfl (by decide) ?_
  refine r_iconst 3 (pc' := 10) (kX11_canShake_0 5 rfl) rfl (by unfold inR; omega) ?_
  refine s_iald (x := (α 230 3)) (pc' := 11) (kX11_canShake_0 6 rfl) rfl (kz230 Ln) ⟨by decide, by decide⟩ rfl ?_
  refine r_iconst (-1) (pc' := 12) (kX11_canShake_0 7 rfl) rfl (by unfold inR; omega) ?_
  refine r_icmp_eq (t := 26) (pc' := 15) (kX11_canShake_0 8 rfl) rfl rfl (fun c1 => ?_) (fun c1 => ?_)
  · have h := h.1 c1
    refine r_iconst 1 (pc' := 27) (kX11_canShake_0 16 rfl) rfl (by unfold inR; omega) ?_
    refine r_goto (pc' := 31) (kX11_canShake_0 17 rfl) rfl ?_
    exact s_zret (kX11_canShake_0 19 rfl) rfl (Or.inr rfl) h
  · have h := h.2 c1
    refine r_aload_n (pc' := 16) (kX11_canShake_0 9 rfl) rfl rfl ?_
    refine r_iconst 1 (pc' := 17) (kX11_canShake_0 10 rfl) rfl (by unfold inR; omega) ?_
    refine r_iload_n (pc' := 18) (kX11_canShake_0 11 rfl) rfl rfl ?_
    refine s_callV (As := [(0, 1), (0, x1)]) (o := 198) (S := []) (S2 := fun z => [(1, z)]) (pc' := 21) (kX11_canShake_0 12 rfl) rfl rfl nkX11_codesTell mlX11_424 imX11_codesTell rfl slX11_codesTell rfl (Nat.le_of_ble_eq_true rfl) (Nat.le_of_ble_eq_true rfl) (kz198 Ln) h (fun z => rfl) (fun r2 φ2 α2 h => ?_)
    refine r_lconst 1 (pc' := 22) (kX11_canShake_0 13 rfl) rfl ⟨by unfold inJ; omega, rfl⟩ ?_
    refine r_lcmp (pc' := 23) (kX11_canShake_0 14 rfl) rfl ?_
    refine r_if_ne (t := 30) (pc' := 26) (kX11_canShake_0 15 rfl) rfl rfl (fun c3 => ?_) (fun c3 => ?_)
    · have h := h.1 c3
      refine r_iconst 0 (pc' := 31) (kX11_canShake_0 18 rfl) rfl (by unfold inR; omega) ?_
      exact s_zret (kX11_canShake_0 19 rfl) rfl (Or.inl rfl) h
    · have h := h.2 c3
      refine r_iconst 1 (pc' := 27) (kX11_canShake_0 16 rfl) rfl (by unfold inR; omega) ?_
      refine r_goto (pc' := 31) (kX11_canShake_0 17 rfl) rfl ?_
      exact s_zret (kX11_canShake_0 19 rfl) rfl (Or.inr rfl) h
abbrev jX11_shake_2 (d : Nat) (x1 x2 x3 : Int) (φ : aF) (α : aA) (Q : Int → aF → aA → Prop) : Prop := R0 d mX11_shake 2 [(2, 198), (0, x1), (0, x2), (0, x3), (9, 0)] [] φ α Q
theorem vX11_shake_0 {d : Nat} {φ : aF} {α : aA} {Q : Int → aF → aA → Prop} {x1 : Int} {x2 : Int} (h : (jX11_shake_2 (d + 1) x1 x2 0 φ α Q)) : eX11_shake (d + 1) x1 x2 φ α Q := by
  intro Ln
  refine r_iconst 0 (pc' := 1) (kX11_shake_0 0 rfl) rfl (by unfold inR; omega) ?_
  refine r_istore_n (L' := [(2, 198), (0, x1), (0, x2), (0, 0), (9, 0)]) (pc' := 2) (kX11_shake_0 1 rfl) rfl (Nat.le_of_ble_eq_true rfl) rfl ?_
  exact r_weak (L' := [(2, 198), (0, x1), (0, x2), (0, 0), (9, 0)]) ⟨Or.inl rfl, Or.inl rfl, Or.inl rfl, Or.inl rfl, Or.inr (by decide), trivial⟩ (h Ln)
theorem vX11_shake_2 {d : Nat} {φ : aF} {α : aA} {Q : Int → aF → aA → Prop} {x1 : Int} {x2 : Int} {x3 : Int} (h : (eX11_matterMany d  φ α (fun r1 φ1 α1 =>
   ((r1 ≤ x3 →
   (Q 0 φ1 α1)) ∧
   (¬ (r1 ≤ x3) →
   (eX11_dropsOf d x1 x3 φ1 α1 (fun r3 φ3 α3 =>
     inR (Int.tdiv r3 2) ∧ (eX11_spaceOf d x2 φ3 α3 (fun r5 φ5 α5 =>
     ((r5 ≤ (Int.tdiv r3 2) →
     (eX11_spaceOf d x2 φ5 α5 (fun r7 φ7 α7 =>
       (eX11_goesOver d x1 x2 x3 r7 φ7 α7 (fun r8 φ8 α8 =>
       inR (x3 + 1) ∧ (jX11_shake_2 (d + 1) x1 x2 (x3 + 1) φ8 α8 Q)))))) ∧
     (¬ (r5 ≤ (Int.tdiv r3 2)) →
     (eX11_goesOver d x1 x2 x3 (Int.tdiv r3 2) φ5 α5 (fun r10 φ10 α10 =>
       inR (x3 + 1) ∧ (jX11_shake_2 (d + 1) x1 x2 (x3 + 1) φ10 α10 Q)))))))))))))) : jX11_shake_2 (d + 1) x1 x2 x3 φ α Q := by
  intro Ln
  refine r_iload_n (pc' := 3) (kX11_shake_0 2 rfl) rfl rfl ?_
  refine r_aload_n (pc' := 4) (kX11_shake_0 3 rfl) rfl rfl ?_
  refine s_callV (As := []) (o := 198) (S := [(0, x3)]) (S2 := fun z => [(0, z), (0, x3)]) (pc' := 7) (kX11_shake_0 4 rfl) rfl rfl nkX11_matterMany mlX11_373 imX11_matterMany rfl slX11_matterMany rfl (Nat.le_of_ble_eq_true rfl) (Nat.le_of_ble_eq_true rfl) (kz198 Ln) h (fun z => rfl) (fun r1 φ1 α1 h => ?_)
  refine r_icmp_ge (t := 53) (pc' := 10) (kX11_shake_0 5 rfl) rfl rfl (fun c2 => ?_) (fun c2 => ?_)
  · have h := h.1 c2
    exact s_vret (kX11_shake_0 30 rfl) rfl h
  · have h := h.2 c2
    refine r_aload_n (pc' := 11) (kX11_shake_0 6 rfl) rfl rfl ?_
    refine r_iload_n (pc' := 12) (kX11_shake_0 7 rfl) rfl rfl ?_
    refine r_iload_n (pc' := 13) (kX11_shake_0 8 rfl) rfl rfl ?_
    refine s_callV (As := [(0, x1), (0, x3)]) (o := 198) (S := []) (S2 := fun z => [(0, z)]) (pc' := 16) (kX11_shake_0 9 rfl) rfl rfl nkX11_dropsOf mlX11_386 imX11_dropsOf rfl slX11_dropsOf rfl (Nat.le_of_ble_eq_true rfl) (Nat.le_of_ble_eq_true rfl) (kz198 Ln) h (fun z => rfl) (fun r3 φ3 α3 h => ?_)
    refine r_iconst 2 (pc' := 17) (kX11_shake_0 10 rfl) rfl (by unfold inR; omega) ?_
    have g4 := h.1
    have h := h.2
    refine r_idiv (pc' := 18) (kX11_shake_0 11 rfl) rfl ⟨by decide, g4⟩ ?_
    refine r_istore (L' := [(2, 198), (0, x1), (0, x2), (0, x3), (0, (Int.tdiv r3 2))]) (pc' := 20) (kX11_shake_0 12 rfl) rfl (Nat.le_of_ble_eq_true rfl) rfl ?_
    refine r_aload_n (pc' := 21) (kX11_shake_0 13 rfl) rfl rfl ?_
    refine r_iload_n (pc' := 22) (kX11_shake_0 14 rfl) rfl rfl ?_
    refine r_iload_n (pc' := 23) (kX11_shake_0 15 rfl) rfl rfl ?_
    refine r_iload_n (pc' := 24) (kX11_shake_0 16 rfl) rfl rfl ?_
    refine r_iload (pc' := 26) (kX11_shake_0 17 rfl) rfl rfl ?_
    refine r_aload_n (pc' := 27) (kX11_shake_0 18 rfl) rfl rfl ?_
    refine r_iload_n (pc' := 28) (kX11_shake_0 19 rfl) rfl rfl ?_
    refine s_callV (As := [(0, x2)]) (o := 198) (S := [(0, (Int.tdiv r3 2)), (0, x3), (0, x2), (0, x1), (2, 198)]) (S2 := fun z => [(0, z), (0, (Int.tdiv r3 2)), (0, x3), (0, x2), (0, x1), (2, 198)]) (pc' := 31) (kX11_shake_0 20 rfl) rfl rfl nkX11_spaceOf mlX11_415 imX11_spaceOf rfl slX11_spaceOf rfl (Nat.le_of_ble_eq_true rfl) (Nat.le_of_ble_eq_true rfl) (kz198 Ln) h (fun z => rfl) (fun r5 φ5 α5 h => ?_)
    refine r_icmp_ge (t := 39) (pc' := 34) (kX11_shake_0 21 rfl) rfl rfl (fun c6 => ?_) (fun c6 => ?_)
    · have h := h.1 c6
      refine r_aload_n (pc' := 40) (kX11_shake_0 24 rfl) rfl rfl ?_
      refine r_iload_n (pc' := 41) (kX11_shake_0 25 rfl) rfl rfl ?_
      refine s_callV (As := [(0, x2)]) (o := 198) (S := [(0, x3), (0, x2), (0, x1), (2, 198)]) (S2 := fun z => [(0, z), (0, x3), (0, x2), (0, x1), (2, 198)]) (pc' := 44) (kX11_shake_0 26 rfl) rfl rfl nkX11_spaceOf mlX11_415 imX11_spaceOf rfl slX11_spaceOf rfl (Nat.le_of_ble_eq_true rfl) (Nat.le_of_ble_eq_true rfl) (kz198 Ln) h (fun z => rfl) (fun r7 φ7 α7 h => ?_)
      refine s_callV (As := [(0, x1), (0, x2), (0, x3), (0, r7)]) (o := 198) (S := []) (S2 := fun z => []) (pc' := 47) (kX11_shake_0 27 rfl) rfl rfl nkX11_goesOver mlX11_443 imX11_goesOver rfl slX11_goesOver rfl (Nat.le_of_ble_eq_true rfl) (Nat.le_of_ble_eq_true rfl) (kz198 Ln) h (fun z => rfl) (fun r8 φ8 α8 h => ?_)
      have g9 := h.1
      have h := h.2
      refine r_iinc (L' := [(2, 198), (0, x1), (0, x2), (0, (x3 + 1)), (0, (Int.tdiv r3 2))]) (pc' := 50) (kX11_shake_0 28 rfl) rfl (Nat.le_of_ble_eq_true rfl) rfl g9 rfl ?_
      refine r_goto (pc' := 2) (kX11_shake_0 29 rfl) rfl ?_
      exact r_weak (L' := [(2, 198), (0, x1), (0, x2), (0, (x3 + 1)), (9, 0)]) ⟨Or.inl rfl, Or.inl rfl, Or.inl rfl, Or.inl rfl, Or.inr (by decide), trivial⟩ (h Ln)
    · have h := h.2 c6
      refine r_iload (pc' := 36) (kX11_shake_0 22 rfl) rfl rfl ?_
      refine r_goto (pc' := 44) (kX11_shake_0 23 rfl) rfl ?_
      refine s_callV (As := [(0, x1), (0, x2), (0, x3), (0, (Int.tdiv r3 2))]) (o := 198) (S := []) (S2 := fun z => []) (pc' := 47) (kX11_shake_0 27 rfl) rfl rfl nkX11_goesOver mlX11_443 imX11_goesOver rfl slX11_goesOver rfl (Nat.le_of_ble_eq_true rfl) (Nat.le_of_ble_eq_true rfl) (kz198 Ln) h (fun z => rfl) (fun r10 φ10 α10 h => ?_)
      have g11 := h.1
      have h := h.2
      refine r_iinc (L' := [(2, 198), (0, x1), (0, x2), (0, (x3 + 1)), (0, (Int.tdiv r3 2))]) (pc' := 50) (kX11_shake_0 28 rfl) rfl (Nat.le_of_ble_eq_true rfl) rfl g11 rfl ?_
      refine r_goto (pc' := 2) (kX11_shake_0 29 rfl) rfl ?_
      exact r_weak (L' := [(2, 198), (0, x1), (0, x2), (0, (x3 + 1)), (9, 0)]) ⟨Or.inl rfl, Or.inl rfl, Or.inl rfl, Or.inl rfl, Or.inr (by decide), trivial⟩ (h Ln)
abbrev jX11_chance_25 (d : Nat) (x1 x2 x3 : Int) (φ : aF) (α : aA) (Q : Int → aF → aA → Prop) : Prop := R0 d mX11_chance 25 [(2, 198), (0, x1), (0, x2), (0, x3), (9, 0), (9, 0)] [] φ α Q
theorem vX11_chance_0 {d : Nat} {φ : aF} {α : aA} {Q : Int → aF → aA → Prop} {x1 : Int} (h : (eX11_isAhead d x1 1 100 φ α (fun r1 φ1 α1 =>
   ((¬ r1 = 0 →
   (eX11_keeps d  φ1 α1 (fun r3 φ3 α3 =>
     (jX11_chance_25 (d + 1) x1 0 0 φ3 α3 Q)))) ∧
   (r1 = 0 →
   (eX11_refuses d 3 φ1 α1 (fun r4 φ4 α4 =>
     (Q r4 φ4 α4)))))))) : eX11_chance (d + 1) x1 φ α Q := by
  intro Ln
  refine r_aload_n (pc' := 1) (kX11_chance_0 0 rfl) rfl rfl ?_
  refine r_iload_n (pc' := 2) (kX11_chance_0 1 rfl) rfl rfl ?_
  refine r_iconst 1 (pc' := 3) (kX11_chance_0 2 rfl) rfl (by unfold inR; omega) ?_
  refine r_bipush 100 (pc' := 5) (kX11_chance_0 3 rfl) rfl ⟨by unfold inR; omega, rfl⟩ ?_
  refine s_callV (As := [(0, x1), (0, 1), (0, 100)]) (o := 198) (S := []) (S2 := fun z => [(0, z)]) (pc' := 8) (kX11_chance_0 4 rfl) rfl rfl nkX11_isAhead mlX11_484 imX11_isAhead rfl slX11_isAhead rfl (Nat.le_of_ble_eq_true rfl) (Nat.le_of_ble_eq_true rfl) (kz198 Ln) h (fun z => rfl) (fun r1 φ1 α1 h => ?_)
  refine r_if_ne (t := 17) (pc' := 11) (kX11_chance_0 5 rfl) rfl rfl (fun c2 => ?_) (fun c2 => ?_)
  · have h := h.1 c2
    refine r_aload_n (pc' := 18) (kX11_chance_0 10 rfl) rfl rfl ?_
    refine s_callV (As := []) (o := 198) (S := []) (S2 := fun z => []) (pc' := 21) (kX11_chance_0 11 rfl) rfl rfl nkX11_keeps mlX11_541 imX11_keeps rfl slX11_keeps rfl (Nat.le_of_ble_eq_true rfl) (Nat.le_of_ble_eq_true rfl) (kz198 Ln) h (fun z => rfl) (fun r3 φ3 α3 h => ?_)
    refine r_iconst 0 (pc' := 22) (kX11_chance_0 12 rfl) rfl (by unfold inR; omega) ?_
    refine r_istore_n (L' := [(2, 198), (0, x1), (0, 0), (9, 0), (9, 0), (9, 0)]) (pc' := 23) (kX11_chance_0 13 rfl) rfl (Nat.le_of_ble_eq_true rfl) rfl ?_
    refine r_iconst 0 (pc' := 24) (kX11_chance_0 14 rfl) rfl (by unfold inR; omega) ?_
    refine r_istore_n (L' := [(2, 198), (0, x1), (0, 0), (0, 0), (9, 0), (9, 0)]) (pc' := 25) (kX11_chance_0 15 rfl) rfl (Nat.le_of_ble_eq_true rfl) rfl ?_
    exact r_weak (L' := [(2, 198), (0, x1), (0, 0), (0, 0), (9, 0), (9, 0)]) ⟨Or.inl rfl, Or.inl rfl, Or.inl rfl, Or.inl rfl, Or.inr (by decide), Or.inr (by decide), trivial⟩ (h Ln)
  · have h := h.2 c2
    refine r_aload_n (pc' := 12) (kX11_chance_0 6 rfl) rfl rfl ?_
    refine r_iconst 3 (pc' := 13) (kX11_chance_0 7 rfl) rfl (by unfold inR; omega) ?_
    refine s_callV (As := [(0, 3)]) (o := 198) (S := []) (S2 := fun z => [(0, z)]) (pc' := 16) (kX11_chance_0 8 rfl) rfl rfl nkX11_refuses mlX11_515 imX11_refuses rfl slX11_refuses rfl (Nat.le_of_ble_eq_true rfl) (Nat.le_of_ble_eq_true rfl) (kz198 Ln) h (fun z => rfl) (fun r4 φ4 α4 h => ?_)
    exact s_iret (kX11_chance_0 9 rfl) rfl h
theorem vX11_chance_25 {d : Nat} {φ : aF} {α : aA} {Q : Int → aF → aA → Prop} {x1 : Int} {x2 : Int} {x3 : Int} (h : ((x1 ≤ x3 →
   (Q x2 φ α)) ∧
   (¬ (x1 ≤ x3) →
   (eX11_drawOf d 100 (upf φ 11 53 198 0) α (fun r2 φ2 α2 =>
     (((α2 225 3) ≤ r2 →
     (eX11_dayGoes d (φ2 11 53 198) φ2 α2 (fun r4 φ4 α4 =>
       inR (x3 + 1) ∧ (jX11_chance_25 (d + 1) x1 x2 (x3 + 1) φ4 α4 Q)))) ∧
     (¬ ((α2 225 3) ≤ r2) →
     (eX11_clerkMany d  φ2 α2 (fun r6 φ6 α6 =>
       ((r6 ≤ 1 →
       (eX11_dayGoes d (φ6 11 53 198) φ6 α6 (fun r8 φ8 α8 =>
         inR (x3 + 1) ∧ (jX11_chance_25 (d + 1) x1 x2 (x3 + 1) φ8 α8 Q)))) ∧
       (¬ (r6 ≤ 1) →
       (eX11_clerkMany d  φ6 α6 (fun r10 φ10 α10 =>
         (eX11_drawOf d r10 φ10 α10 (fun r11 φ11 α11 =>
         (eX11_clerkMany d  φ11 α11 (fun r12 φ12 α12 =>
         inR (r12 - 1) ∧ (eX11_drawOf d (r12 - 1) φ12 α12 (fun r14 φ14 α14 =>
         ((r14 < r11 →
         (eX11_canShake d r11 r14 φ14 α14 (fun r16 φ16 α16 =>
           ((r16 = 0 →
           (eX11_dayGoes d (φ16 11 53 198) φ16 α16 (fun r18 φ18 α18 =>
             inR (x3 + 1) ∧ (jX11_chance_25 (d + 1) x1 x2 (x3 + 1) φ18 α18 Q)))) ∧
           (¬ (r16 = 0) →
           (eX11_shake d r11 r14 φ16 α16 (fun r20 φ20 α20 =>
             inR (x2 + 1) ∧ (eX11_dayGoes d (φ20 11 53 198) φ20 α20 (fun r22 φ22 α22 =>
             inR (x3 + 1) ∧ (jX11_chance_25 (d + 1) x1 (x2 + 1) (x3 + 1) φ22 α22 Q)))))))))) ∧
         (¬ (r14 < r11) →
         inR (r14 + 1) ∧ (eX11_canShake d r11 (r14 + 1) φ14 α14 (fun r25 φ25 α25 =>
           ((r25 = 0 →
           (eX11_dayGoes d (φ25 11 53 198) φ25 α25 (fun r27 φ27 α27 =>
             inR (x3 + 1) ∧ (jX11_chance_25 (d + 1) x1 x2 (x3 + 1) φ27 α27 Q)))) ∧
           (¬ (r25 = 0) →
           (eX11_shake d r11 (r14 + 1) φ25 α25 (fun r29 φ29 α29 =>
             inR (x2 + 1) ∧ (eX11_dayGoes d (φ29 11 53 198) φ29 α29 (fun r31 φ31 α31 =>
             inR (x3 + 1) ∧ (jX11_chance_25 (d + 1) x1 (x2 + 1) (x3 + 1) φ31 α31 Q)))))))))))))))))))))))))))))) : jX11_chance_25 (d + 1) x1 x2 x3 φ α Q := by
  intro Ln
  refine r_iload_n (pc' := 26) (kX11_chance_0 16 rfl) rfl rfl ?_
  refine r_iload_n (pc' := 27) (kX11_chance_0 17 rfl) rfl rfl ?_
  refine r_icmp_ge (t := 126) (pc' := 30) (kX11_chance_0 18 rfl) rfl rfl (fun c1 => ?_) (fun c1 => ?_)
  · have h := h.1 c1
    refine r_iload_n (pc' := 127) (kX11_chance_1 6 rfl) rfl rfl ?_
    exact s_iret (kX11_chance_1 7 rfl) rfl h
  · have h := h.2 c1
    refine r_aload_n (pc' := 31) (kX11_chance_0 19 rfl) rfl rfl ?_
    refine r_iconst 0 (pc' := 32) (kX11_chance_0 20 rfl) rfl (by unfold inR; omega) ?_
    refine s_put (pc' := 35) (kX11_chance_0 21 rfl) rfl fkX11_427 fnX11_53 rfl pk_int (kz198 Ln) ?_
    refine r_aload_n (pc' := 36) (kX11_chance_0 22 rfl) rfl rfl ?_
    refine r_bipush 100 (pc' := 38) (kX11_chance_0 23 rfl) rfl ⟨by unfold inR; omega, rfl⟩ ?_
    refine s_callV (As := [(0, 100)]) (o := 198) (S := []) (S2 := fun z => [(0, z)]) (pc' := 41) (kX11_chance_0 24 rfl) rfl rfl nkX11_drawOf mlX11_555 imX11_drawOf rfl slX11_drawOf rfl (Nat.le_of_ble_eq_true rfl) (Nat.le_of_ble_eq_true rfl) (kz198 Ln) h (fun z => rfl) (fun r2 φ2 α2 h => ?_)
    refine r_aload_n (pc' := 42) (kX11_chance_0 25 rfl) rfl rfl ?_
    refine s_getr (v := 225) (pc' := 45) (kX11_chance_0 26 rfl) rfl fkX11_93 rfl rfl (kz198 Ln) rfl (by decide) ?_
    refine r_iconst 3 (pc' := 46) (kX11_chance_0 27 rfl) rfl (by unfold inR; omega) ?_
    refine s_iald (x := (α2 225 3)) (pc' := 47) (kX11_chance_0 28 rfl) rfl (kz225 Ln) ⟨by decide, by decide⟩ rfl ?_
    refine r_icmp_ge (t := 112) (pc' := 50) (kX11_chance_0 29 rfl) rfl rfl (fun c3 => ?_) (fun c3 => ?_)
    · have h := h.1 c3
      refine r_aload_n (pc' := 113) (kX11_chance_1 0 rfl) rfl rfl ?_
      refine r_aload_n (pc' := 114) (kX11_chance_1 1 rfl) rfl rfl ?_
      refine s_get (x := (φ2 11 53 198)) (pc' := 117) (kX11_chance_1 2 rfl) rfl fkX11_427 rfl rfl rfl (kz198 Ln) rfl ?_
      refine s_callV (As := [(0, (φ2 11 53 198))]) (o := 198) (S := []) (S2 := fun z => []) (pc' := 120) (kX11_chance_1 3 rfl) rfl rfl nkX11_dayGoes mlX11_450 imX11_dayGoes rfl slX11_dayGoes rfl (Nat.le_of_ble_eq_true rfl) (Nat.le_of_ble_eq_true rfl) (kz198 Ln) h (fun z => rfl) (fun r4 φ4 α4 h => ?_)
      have g5 := h.1
      have h := h.2
      refine r_iinc (L' := [(2, 198), (0, x1), (0, x2), (0, (x3 + 1)), (9, 0), (9, 0)]) (pc' := 123) (kX11_chance_1 4 rfl) rfl (Nat.le_of_ble_eq_true rfl) rfl g5 rfl ?_
      refine r_goto (pc' := 25) (kX11_chance_1 5 rfl) rfl ?_
      exact r_weak (L' := [(2, 198), (0, x1), (0, x2), (0, (x3 + 1)), (9, 0), (9, 0)]) ⟨Or.inl rfl, Or.inl rfl, Or.inl rfl, Or.inl rfl, Or.inr (by decide), Or.inr (by decide), trivial⟩ (h Ln)
    · have h := h.2 c3
      refine r_aload_n (pc' := 51) (kX11_chance_0 30 rfl) rfl rfl ?_
      refine s_callV (As := []) (o := 198) (S := []) (S2 := fun z => [(0, z)]) (pc' := 54) (kX11_chance_0 31 rfl) rfl rfl nkX11_clerkMany mlX11_376 imX11_clerkMany rfl slX11_clerkMany rfl (Nat.le_of_ble_eq_true rfl) (Nat.le_of_ble_eq_true rfl) (kz198 Ln) h (fun z => rfl) (fun r6 φ6 α6 h => ?_)
      refine r_iconst 1 (pc' := 55) (kX11_chance_0 32 rfl) rfl (by unfold inR; omega) ?_
      refine r_icmp_le (t := 112) (pc' := 58) (kX11_chance_0 33 rfl) rfl rfl (fun c7 => ?_) (fun c7 => ?_)
      · have h := h.1 c7
        refine r_aload_n (pc' := 113) (kX11_chance_1 0 rfl) rfl rfl ?_
        refine r_aload_n (pc' := 114) (kX11_chance_1 1 rfl) rfl rfl ?_
        refine s_get (x := (φ6 11 53 198)) (pc' := 117) (kX11_chance_1 2 rfl) rfl fkX11_427 rfl rfl rfl (kz198 Ln) rfl ?_
        refine s_callV (As := [(0, (φ6 11 53 198))]) (o := 198) (S := []) (S2 := fun z => []) (pc' := 120) (kX11_chance_1 3 rfl) rfl rfl nkX11_dayGoes mlX11_450 imX11_dayGoes rfl slX11_dayGoes rfl (Nat.le_of_ble_eq_true rfl) (Nat.le_of_ble_eq_true rfl) (kz198 Ln) h (fun z => rfl) (fun r8 φ8 α8 h => ?_)
        have g9 := h.1
        have h := h.2
        refine r_iinc (L' := [(2, 198), (0, x1), (0, x2), (0, (x3 + 1)), (9, 0), (9, 0)]) (pc' := 123) (kX11_chance_1 4 rfl) rfl (Nat.le_of_ble_eq_true rfl) rfl g9 rfl ?_
        refine r_goto (pc' := 25) (kX11_chance_1 5 rfl) rfl ?_
        exact r_weak (L' := [(2, 198), (0, x1), (0, x2), (0, (x3 + 1)), (9, 0), (9, 0)]) ⟨Or.inl rfl, Or.inl rfl, Or.inl rfl, Or.inl rfl, Or.inr (by decide), Or.inr (by decide), trivial⟩ (h Ln)
      · have h := h.2 c7
        refine r_aload_n (pc' := 59) (kX11_chance_0 34 rfl) rfl rfl ?_
        refine r_aload_n (pc' := 60) (kX11_chance_0 35 rfl) rfl rfl ?_
        refine s_callV (As := []) (o := 198) (S := [(2, 198)]) (S2 := fun z => [(0, z), (2, 198)]) (pc' := 63) (kX11_chance_0 36 rfl) rfl rfl nkX11_clerkMany mlX11_376 imX11_clerkMany rfl slX11_clerkMany rfl (Nat.le_of_ble_eq_true rfl) (Nat.le_of_ble_eq_true rfl) (kz198 Ln) h (fun z => rfl) (fun r10 φ10 α10 h => ?_)
        refine s_callV (As := [(0, r10)]) (o := 198) (S := []) (S2 := fun z => [(0, z)]) (pc' := 66) (kX11_chance_0 37 rfl) rfl rfl nkX11_drawOf mlX11_555 imX11_drawOf rfl slX11_drawOf rfl (Nat.le_of_ble_eq_true rfl) (Nat.le_of_ble_eq_true rfl) (kz198 Ln) h (fun z => rfl) (fun r11 φ11 α11 h => ?_)
        refine r_istore (L' := [(2, 198), (0, x1), (0, x2), (0, x3), (0, r11), (9, 0)]) (pc' := 68) (kX11_chance_0 38 rfl) rfl (Nat.le_of_ble_eq_true rfl) rfl ?_
        refine r_aload_n (pc' := 69) (kX11_chance_0 39 rfl) rfl rfl ?_
        refine r_aload_n (pc' := 70) (kX11_chance_0 40 rfl) rfl rfl ?_
        refine s_callV (As := []) (o := 198) (S := [(2, 198)]) (S2 := fun z => [(0, z), (2, 198)]) (pc' := 73) (kX11_chance_0 41 rfl) rfl rfl nkX11_clerkMany mlX11_376 imX11_clerkMany rfl slX11_clerkMany rfl (Nat.le_of_ble_eq_true rfl) (Nat.le_of_ble_eq_true rfl) (kz198 Ln) h (fun z => rfl) (fun r12 φ12 α12 h => ?_)
        refine r_iconst 1 (pc' := 74) (kX11_chance_0 42 rfl) rfl (by unfold inR; omega) ?_
        have g13 := h.1
        have h := h.2
        refine r_isub (pc' := 75) (kX11_chance_0 43 rfl) rfl g13 ?_
        refine s_callV (As := [(0, (r12 - 1))]) (o := 198) (S := []) (S2 := fun z => [(0, z)]) (pc' := 78) (kX11_chance_0 44 rfl) rfl rfl nkX11_drawOf mlX11_555 imX11_drawOf rfl slX11_drawOf rfl (Nat.le_of_ble_eq_true rfl) (Nat.le_of_ble_eq_true rfl) (kz198 Ln) h (fun z => rfl) (fun r14 φ14 α14 h => ?_)
        refine r_istore (L' := [(2, 198), (0, x1), (0, x2), (0, x3), (0, r11), (0, r14)]) (pc' := 80) (kX11_chance_0 45 rfl) rfl (Nat.le_of_ble_eq_true rfl) rfl ?_
        refine r_iload (pc' := 82) (kX11_chance_0 46 rfl) rfl rfl ?_
        refine r_iload (pc' := 84) (kX11_chance_0 47 rfl) rfl rfl ?_
        refine r_icmp_lt (t := 90) (pc' := 87) (kX11_chance_0 48 rfl) rfl rfl (fun c15 => ?_) (fun c15 => ?_)
        · have h := h.1 c15
          refine r_aload_n (pc' := 91) (kX11_chance_0 50 rfl) rfl rfl ?_
          refine r_iload (pc' := 93) (kX11_chance_0 51 rfl) rfl rfl ?_
          refine r_iload (pc' := 95) (kX11_chance_0 52 rfl) rfl rfl ?_
          refine s_callV (As := [(0, r11), (0, r14)]) (o := 198) (S := []) (S2 := fun z => [(0, z)]) (pc' := 98) (kX11_chance_0 53 rfl) rfl rfl nkX11_canShake mlX11_558 imX11_canShake rfl slX11_canShake rfl (Nat.le_of_ble_eq_true rfl) (Nat.le_of_ble_eq_true rfl) (kz198 Ln) h (fun z => rfl) (fun r16 φ16 α16 h => ?_)
          refine r_if_eq (t := 112) (pc' := 101) (kX11_chance_0 54 rfl) rfl rfl (fun c17 => ?_) (fun c17 => ?_)
          · have h := h.1 c17
            refine r_aload_n (pc' := 113) (kX11_chance_1 0 rfl) rfl rfl ?_
            refine r_aload_n (pc' := 114) (kX11_chance_1 1 rfl) rfl rfl ?_
            refine s_get (x := (φ16 11 53 198)) (pc' := 117) (kX11_chance_1 2 rfl) rfl fkX11_427 rfl rfl rfl (kz198 Ln) rfl ?_
            refine s_callV (As := [(0, (φ16 11 53 198))]) (o := 198) (S := []) (S2 := fun z => []) (pc' := 120) (kX11_chance_1 3 rfl) rfl rfl nkX11_dayGoes mlX11_450 imX11_dayGoes rfl slX11_dayGoes rfl (Nat.le_of_ble_eq_true rfl) (Nat.le_of_ble_eq_true rfl) (kz198 Ln) h (fun z => rfl) (fun r18 φ18 α18 h => ?_)
            have g19 := h.1
            have h := h.2
            refine r_iinc (L' := [(2, 198), (0, x1), (0, x2), (0, (x3 + 1)), (0, r11), (0, r14)]) (pc' := 123) (kX11_chance_1 4 rfl) rfl (Nat.le_of_ble_eq_true rfl) rfl g19 rfl ?_
            refine r_goto (pc' := 25) (kX11_chance_1 5 rfl) rfl ?_
            exact r_weak (L' := [(2, 198), (0, x1), (0, x2), (0, (x3 + 1)), (9, 0), (9, 0)]) ⟨Or.inl rfl, Or.inl rfl, Or.inl rfl, Or.inl rfl, Or.inr (by decide), Or.inr (by decide), trivial⟩ (h Ln)
          · have h := h.2 c17
            refine r_aload_n (pc' := 102) (kX11_chance_0 55 rfl) rfl rfl ?_
            refine r_iload (pc' := 104) (kX11_chance_0 56 rfl) rfl rfl ?_
            refine r_iload (pc' := 106) (kX11_chance_0 57 rfl) rfl rfl ?_
            refine s_callV (As := [(0, r11), (0, r14)]) (o := 198) (S := []) (S2 := fun z => []) (pc' := 109) (kX11_chance_0 58 rfl) rfl rfl nkX11_shake mlX11_561 imX11_shake rfl slX11_shake rfl (Nat.le_of_ble_eq_true rfl) (Nat.le_of_ble_eq_true rfl) (kz198 Ln) h (fun z => rfl) (fun r20 φ20 α20 h => ?_)
            have g21 := h.1
            have h := h.2
            refine r_iinc (L' := [(2, 198), (0, x1), (0, (x2 + 1)), (0, x3), (0, r11), (0, r14)]) (pc' := 112) (kX11_chance_0 59 rfl) rfl (Nat.le_of_ble_eq_true rfl) rfl g21 rfl ?_
            refine r_aload_n (pc' := 113) (kX11_chance_1 0 rfl) rfl rfl ?_
            refine r_aload_n (pc' := 114) (kX11_chance_1 1 rfl) rfl rfl ?_
            refine s_get (x := (φ20 11 53 198)) (pc' := 117) (kX11_chance_1 2 rfl) rfl fkX11_427 rfl rfl rfl (kz198 Ln) rfl ?_
            refine s_callV (As := [(0, (φ20 11 53 198))]) (o := 198) (S := []) (S2 := fun z => []) (pc' := 120) (kX11_chance_1 3 rfl) rfl rfl nkX11_dayGoes mlX11_450 imX11_dayGoes rfl slX11_dayGoes rfl (Nat.le_of_ble_eq_true rfl) (Nat.le_of_ble_eq_true rfl) (kz198 Ln) h (fun z => rfl) (fun r22 φ22 α22 h => ?_)
            have g23 := h.1
            have h := h.2
            refine r_iinc (L' := [(2, 198), (0, x1), (0, (x2 + 1)), (0, (x3 + 1)), (0, r11), (0, r14)]) (pc' := 123) (kX11_chance_1 4 rfl) rfl (Nat.le_of_ble_eq_true rfl) rfl g23 rfl ?_
            refine r_goto (pc' := 25) (kX11_chance_1 5 rfl) rfl ?_
            exact r_weak (L' := [(2, 198), (0, x1), (0, (x2 + 1)), (0, (x3 + 1)), (9, 0), (9, 0)]) ⟨Or.inl rfl, Or.inl rfl, Or.inl rfl, Or.inl rfl, Or.inr (by decide), Or.inr (by decide), trivial⟩ (h Ln)
        · have h := h.2 c15
          have g24 := h.1
          have h := h.2
          refine r_iinc (L' := [(2, 198), (0, x1), (0, x2), (0, x3), (0, r11), (0, (r14 + 1))]) (pc' := 90) (kX11_chance_0 49 rfl) rfl (Nat.le_of_ble_eq_true rfl) rfl g24 rfl ?_
          refine r_aload_n (pc' := 91) (kX11_chance_0 50 rfl) rfl rfl ?_
          refine r_iload (pc' := 93) (kX11_chance_0 51 rfl) rfl rfl ?_
          refine r_iload (pc' := 95) (kX11_chance_0 52 rfl) rfl rfl ?_
          refine s_callV (As := [(0, r11), (0, (r14 + 1))]) (o := 198) (S := []) (S2 := fun z => [(0, z)]) (pc' := 98) (kX11_chance_0 53 rfl) rfl rfl nkX11_canShake mlX11_558 imX11_canShake rfl slX11_canShake rfl (Nat.le_of_ble_eq_true rfl) (Nat.le_of_ble_eq_true rfl) (kz198 Ln) h (fun z => rfl) (fun r25 φ25 α25 h => ?_)
          refine r_if_eq (t := 112) (pc' := 101) (kX11_chance_0 54 rfl) rfl rfl (fun c26 => ?_) (fun c26 => ?_)
          · have h := h.1 c26
            refine r_aload_n (pc' := 113) (kX11_chance_1 0 rfl) rfl rfl ?_
            refine r_aload_n (pc' := 114) (kX11_chance_1 1 rfl) rfl rfl ?_
            refine s_get (x := (φ25 11 53 198)) (pc' := 117) (kX11_chance_1 2 rfl) rfl fkX11_427 rfl rfl rfl (kz198 Ln) rfl ?_
            refine s_callV (As := [(0, (φ25 11 53 198))]) (o := 198) (S := []) (S2 := fun z => []) (pc' := 120) (kX11_chance_1 3 rfl) rfl rfl nkX11_dayGoes mlX11_450 imX11_dayGoes rfl slX11_dayGoes rfl (Nat.le_of_ble_eq_true rfl) (Nat.le_of_ble_eq_true rfl) (kz198 Ln) h (fun z => rfl) (fun r27 φ27 α27 h => ?_)
            have g28 := h.1
            have h := h.2
            refine r_iinc (L' := [(2, 198), (0, x1), (0, x2), (0, (x3 + 1)), (0, r11), (0, (r14 + 1))]) (pc' := 123) (kX11_chance_1 4 rfl) rfl (Nat.le_of_ble_eq_true rfl) rfl g28 rfl ?_
            refine r_goto (pc' := 25) (kX11_chance_1 5 rfl) rfl ?_
            exact r_weak (L' := [(2, 198), (0, x1), (0, x2), (0, (x3 + 1)), (9, 0), (9, 0)]) ⟨Or.inl rfl, Or.inl rfl, Or.inl rfl, Or.inl rfl, Or.inr (by decide), Or.inr (by decide), trivial⟩ (h Ln)
          · have h := h.2 c26
            refine r_aload_n (pc' := 102) (kX11_chance_0 55 rfl) rfl rfl ?_
            refine r_iload (pc' := 104) (kX11_chance_0 56 rfl) rfl rfl ?_
            refine r_iload (pc' := 106) (kX11_chance_0 57 rfl) rfl rfl ?_
            refine s_callV (As := [(0, r11), (0, (r14 + 1))]) (o := 198) (S := []) (S2 := fun z => []) (pc' := 109) (kX11_chance_0 58 rfl) rfl rfl nkX11_shake mlX11_561 imX11_shake rfl slX11_shake rfl (Nat.le_of_ble_eq_true rfl) (Nat.le_of_ble_eq_true rfl) (kz198 Ln) h (fun z => rfl) (fun r29 φ29 α29 h => ?_)
            have g30 := h.1
            have h := h.2
            refine r_iinc (L' := [(2, 198), (0, x1), (0, (x2 + 1)), (0, x3), (0, r11), (0, (r14 + 1))]) (pc' := 112) (kX11_chance_0 59 rfl) rfl (Nat.le_of_ble_eq_true rfl) rfl g30 rfl ?_
            refine r_aload_n (pc' := 113) (kX11_chance_1 0 rfl) rfl rfl ?_
            refine r_aload_n (pc' := 114) (kX11_chance_1 1 rfl) rfl rfl ?_
            refine s_get (x := (φ29 11 53 198)) (pc' := 117) (kX11_chance_1 2 rfl) rfl fkX11_427 rfl rfl rfl (kz198 Ln) rfl ?_
            refine s_callV (As := [(0, (φ29 11 53 198))]) (o := 198) (S := []) (S2 := fun z => []) (pc' := 120) (kX11_chance_1 3 rfl) rfl rfl nkX11_dayGoes mlX11_450 imX11_dayGoes rfl slX11_dayGoes rfl (Nat.le_of_ble_eq_true rfl) (Nat.le_of_ble_eq_true rfl) (kz198 Ln) h (fun z => rfl) (fun r31 φ31 α31 h => ?_)
            have g32 := h.1
            have h := h.2
            refine r_iinc (L' := [(2, 198), (0, x1), (0, (x2 + 1)), (0, (x3 + 1)), (0, r11), (0, (r14 + 1))]) (pc' := 123) (kX11_chance_1 4 rfl) rfl (Nat.le_of_ble_eq_true rfl) rfl g32 rfl ?_
            refine r_goto (pc' := 25) (kX11_chance_1 5 rfl) rfl ?_
            exact r_weak (L' := [(2, 198), (0, x1), (0, (x2 + 1)), (0, (x3 + 1)), (9, 0), (9, 0)]) ⟨Or.inl rfl, Or.inl rfl, Or.inl rfl, Or.inl rfl, Or.inr (by decide), Or.inr (by decide), trivial⟩ (h Ln)
theorem vX11_qCode_0 {d : Nat} {φ : aF} {α : aA} {Q : Int → aF → aA → Prop} {x1 : Int} (h : (0 ≤ (φ 11 88 198) ∧ (φ 11 88 198) < (1700 : Nat)) ∧ inR ((φ 11 88 198) + 1) ∧ (Q 0 (upf φ 11 88 198 ((φ 11 88 198) + 1)) (upa α 263 (φ 11 88 198) x1))) : eX11_qCode d x1 φ α Q := by
  intro Ln
  refine r_aload_n (pc' := 1) (kX11_qCode_0 0 rfl) rfl rfl ?_
  refine s_getr (v := 263) (pc' := 4) (kX11_qCode_0 1 rfl) rfl fkX11_212 rfl rfl (kz198 Ln) rfl (by decide) ?_
  refine r_aload_n (pc' := 5) (kX11_qCode_0 2 rfl) rfl rfl ?_
  refine s_get (x := (φ 11 88 198)) (pc' := 8) (kX11_qCode_0 3 rfl) rfl fkX11_315 rfl rfl rfl (kz198 Ln) rfl ?_
  refine r_iload_n (pc' := 9) (kX11_qCode_0 4 rfl) rfl rfl ?_
  have g1 := h.1
  have h := h.2
  refine s_iast (pc' := 10) (kX11_qCode_0 5 rfl) rfl (kz263 Ln) g1 ?_
  refine r_aload_n (pc' := 11) (kX11_qCode_0 6 rfl) rfl rfl ?_
  refine r_dup (pc' := 12) (kX11_qCode_0 7 rfl) rfl rfl ?_
  refine s_get (x := (φ 11 88 198)) (pc' := 15) (kX11_qCode_0 8 rfl) rfl fkX11_315 rfl rfl rfl (kz198 Ln) rfl ?_
  refine r_iconst 1 (pc' := 16) (kX11_qCode_0 9 rfl) rfl (by unfold inR; omega) ?_
  have g2 := h.1
  have h := h.2
  refine r_iadd (pc' := 17) (kX11_qCode_0 10 rfl) rfl g2 ?_
  refine s_put (pc' := 20) (kX11_qCode_0 11 rfl) rfl fkX11_315 fnX11_88 rfl pk_int (kz198 Ln) ?_
  exact s_vret (kX11_qCode_0 12 rfl) rfl h
theorem vX11_qOpens_0 {d : Nat} {φ : aF} {α : aA} {Q : Int → aF → aA → Prop} {x1 : Int} {x2 : Int} (h : (((φ 11 5 198) = 0 →
   ((¬ (φ 11 91 198) = 6 →
     inR ((φ 11 91 198) + 1) ∧ (0 ≤ (φ 11 90 198) ∧ (φ 11 90 198) < (1700 : Nat)) ∧ inR ((φ 11 90 198) + 1) ∧ (Q 0 (upf (upf φ 11 91 198 ((φ 11 91 198) + 1)) 11 90 198 ((φ 11 90 198) + 1)) (upa α 264 (φ 11 90 198) x1))) ∧
     ((φ 11 91 198) = 6 →
     (eX11_fail d 4 x2 φ α (fun r6 φ6 α6 =>
       (Q 0 φ6 α6)))))) ∧
   (¬ ((φ 11 5 198) = 0) →
   (Q 0 φ α)))) : eX11_qOpens (d + 1) x1 x2 φ α Q := by
  intro Ln
  refine r_aload_n (pc' := 1) (kX11_qOpens_0 0 rfl) rfl rfl ?_
  refine s_get (x := (φ 11 5 198)) (pc' := 4) (kX11_qOpens_0 1 rfl) rfl fkX11_227 rfl rfl rfl (kz198 Ln) rfl ?_
  refine r_if_eq (t := 8) (pc' := 7) (kX11_qOpens_0 2 rfl) rfl rfl (fun c1 => ?_) (fun c1 => ?_)
  · have h := h.1 c1
    refine r_aload_n (pc' := 9) (kX11_qOpens_0 4 rfl) rfl rfl ?_
    refine s_get (x := (φ 11 91 198)) (pc' := 12) (kX11_qOpens_0 5 rfl) rfl fkX11_321 rfl rfl rfl (kz198 Ln) rfl ?_
    refine r_bipush 6 (pc' := 14) (kX11_qOpens_0 6 rfl) rfl ⟨by unfold inR; omega, rfl⟩ ?_
    refine r_icmp_ne (t := 24) (pc' := 17) (kX11_qOpens_0 7 rfl) rfl rfl (fun c2 => ?_) (fun c2 => ?_)
    · have h := h.1 c2
      refine r_aload_n (pc' := 25) (kX11_qOpens_0 13 rfl) rfl rfl ?_
      refine r_dup (pc' := 26) (kX11_qOpens_0 14 rfl) rfl rfl ?_
      refine s_get (x := (φ 11 91 198)) (pc' := 29) (kX11_qOpens_0 15 rfl) rfl fkX11_321 rfl rfl rfl (kz198 Ln) rfl ?_
      refine r_iconst 1 (pc' := 30) (kX11_qOpens_0 16 rfl) rfl (by unfold inR; omega) ?_
      have g3 := h.1
      have h := h.2
      refine r_iadd (pc' := 31) (kX11_qOpens_0 17 rfl) rfl g3 ?_
      refine s_put (pc' := 34) (kX11_qOpens_0 18 rfl) rfl fkX11_321 fnX11_91 rfl pk_int (kz198 Ln) ?_
      refine r_aload_n (pc' := 35) (kX11_qOpens_0 19 rfl) rfl rfl ?_
      refine s_getr (v := 264) (pc' := 38) (kX11_qOpens_0 20 rfl) rfl fkX11_215 rfl rfl (kz198 Ln) rfl (by decide) ?_
      refine r_aload_n (pc' := 39) (kX11_qOpens_0 21 rfl) rfl rfl ?_
      refine s_get (x := (φ 11 90 198)) (pc' := 42) (kX11_qOpens_0 22 rfl) rfl fkX11_318 rfl rfl rfl (kz198 Ln) rfl ?_
      refine r_iload_n (pc' := 43) (kX11_qOpens_0 23 rfl) rfl rfl ?_
      have g4 := h.1
      have h := h.2
      refine s_iast (pc' := 44) (kX11_qOpens_0 24 rfl) rfl (kz264 Ln) g4 ?_
      refine r_aload_n (pc' := 45) (kX11_qOpens_0 25 rfl) rfl rfl ?_
      refine r_dup (pc' := 46) (kX11_qOpens_0 26 rfl) rfl rfl ?_
      refine s_get (x := (φ 11 90 198)) (pc' := 49) (kX11_qOpens_0 27 rfl) rfl fkX11_318 rfl rfl rfl (kz198 Ln) rfl ?_
      refine r_iconst 1 (pc' := 50) (kX11_qOpens_0 28 rfl) rfl (by unfold inR; omega) ?_
      have g5 := h.1
      have h := h.2
      refine r_iadd (pc' := 51) (kX11_qOpens_0 29 rfl) rfl g5 ?_
      refine s_put (pc' := 54) (kX11_qOpens_0 30 rfl) rfl fkX11_318 fnX11_90 rfl pk_int (kz198 Ln) ?_
      exact s_vret (kX11_qOpens_0 31 rfl) rfl h
    · have h := h.2 c2
      refine r_aload_n (pc' := 18) (kX11_qOpens_0 8 rfl) rfl rfl ?_
      refine r_iconst 4 (pc' := 19) (kX11_qOpens_0 9 rfl) rfl (by unfold inR; omega) ?_
      refine r_iload_n (pc' := 20) (kX11_qOpens_0 10 rfl) rfl rfl ?_
      refine s_callV (As := [(0, 4), (0, x2)]) (o := 198) (S := []) (S2 := fun z => []) (pc' := 23) (kX11_qOpens_0 11 rfl) rfl rfl nkX11_fail mlX11_257 imX11_fail rfl slX11_fail rfl (Nat.le_of_ble_eq_true rfl) (Nat.le_of_ble_eq_true rfl) (kz198 Ln) h (fun z => rfl) (fun r6 φ6 α6 h => ?_)
      exact s_vret (kX11_qOpens_0 12 rfl) rfl h
  · have h := h.2 c1
    exact s_vret (kX11_qOpens_0 3 rfl) rfl h
