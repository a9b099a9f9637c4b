theorem vX11_isIn_0 {d : Nat} {φ : aF} {α : aA} {Q : Int → aF → aA → Prop} {x0 : Int} {x2 : Int} {x4 : Int} (h : (((j3 x0 x2) < 0 →
   (Q 0 φ α)) ∧
   (¬ ((j3 x0 x2) < 0) →
   ((0 < (j3 x0 x4) →
     (Q 0 φ α)) ∧
     (¬ (0 < (j3 x0 x4)) →
     (Q 1 φ α)))))) : eX11_isIn d x0 x2 x4 φ α Q := by
  intro Ln
  refine r_lload_n (pc' := 1) (kX11_isIn_0 0 rfl) rfl rfl ?_
  refine r_lload_n (pc' := 2) (kX11_isIn_0 1 rfl) rfl rfl ?_
  refine r_lcmp (pc' := 3) (kX11_isIn_0 2 rfl) rfl ?_
  refine r_if_lt (t := 17) (pc' := 6) (kX11_isIn_0 3 rfl) rfl rfl (fun c1 => ?_) (fun c1 => ?_)
  · have h := h.1 c1
    refine r_iconst 0 (pc' := 18) (kX11_isIn_0 10 rfl) rfl (by unfold inR; omega) ?_
    exact s_zret (kX11_isIn_0 11 rfl) rfl (Or.inl rfl) h
  · have h := h.2 c1
    refine r_lload_n (pc' := 7) (kX11_isIn_0 4 rfl) rfl rfl ?_
    refine r_lload (pc' := 9) (kX11_isIn_0 5 rfl) rfl rfl ?_
    refine r_lcmp (pc' := 10) (kX11_isIn_0 6 rfl) rfl ?_
    refine r_if_gt (t := 17) (pc' := 13) (kX11_isIn_0 7 rfl) rfl rfl (fun c2 => ?_) (fun c2 => ?_)
    · have h := h.1 c2
      refine r_iconst 0 (pc' := 18) (kX11_isIn_0 10 rfl) rfl (by unfold inR; omega) ?_
      exact s_zret (kX11_isIn_0 11 rfl) rfl (Or.inl rfl) h
    · have h := h.2 c2
      refine r_iconst 1 (pc' := 14) (kX11_isIn_0 8 rfl) rfl (by unfold inR; omega) ?_
      refine r_goto (pc' := 18) (kX11_isIn_0 9 rfl) rfl ?_
      exact s_zret (kX11_isIn_0 11 rfl) rfl (Or.inr rfl) h
abbrev jX11_feed_28 (d : Nat) (x1 x2 x3 x4 x5 x6 : Int) (φ : aF) (α : aA) (Q : Int → aF → aA → Prop) : Prop := R0 d mX11_feed 28 [(2, 198), (0, x1), (0, x2), (0, x3), (0, x4), (0, x5), (0, x6), (9, 0)] [] φ α Q
theorem vX11_feed_0 {d : Nat} {φ : aF} {α : aA} {Q : Int → aF → aA → Prop} {x1 : Int} {x2 : Int} {x3 : Int} {x4 : Int} {x5 : Int} (h : inR ((φ 11 1 198) + 20) ∧ ((((φ 11 1 198) + 20) ≤ 1600 →
   (jX11_feed_28 d x1 x2 x3 x4 x5 0 φ α Q)) ∧
   (¬ (((φ 11 1 198) + 20) ≤ 1600) →
   inR ((α 200 0) + 1) ∧ (Q (-1) φ (upa α 200 0 ((α 200 0) + 1)))))) : eX11_feed d x1 x2 x3 x4 x5 φ α Q := by
  intro Ln
  refine r_aload_n (pc' := 1) (kX11_feed_0 0 rfl) rfl rfl ?_
  refine s_get (x := (φ 11 1 198)) (pc' := 4) (kX11_feed_0 1 rfl) rfl fkX11_224 rfl rfl rfl (kz198 Ln) rfl ?_
  refine r_bipush 20 (pc' := 6) (kX11_feed_0 2 rfl) rfl ⟨by unfold inR; omega, rfl⟩ ?_
  have g1 := h.1
  have h := h.2
  refine r_iadd (pc' := 7) (kX11_feed_0 3 rfl) rfl g1 ?_
  refine r_sipush 1600 (pc' := 10) (kX11_feed_0 4 rfl) rfl ⟨by unfold inR; omega, rfl⟩ ?_
  refine r_icmp_le (t := 25) (pc' := 13) (kX11_feed_0 5 rfl) rfl rfl (fun c2 => ?_) (fun c2 => ?_)
  · have h := h.1 c2
    refine r_iconst 0 (pc' := 26) (kX11_feed_0 16 rfl) rfl (by unfold inR; omega) ?_
    refine r_istore (L' := [(2, 198), (0, x1), (0, x2), (0, x3), (0, x4), (0, x5), (0, 0), (9, 0)]) (pc' := 28) (kX11_feed_0 17 rfl) rfl (Nat.le_of_ble_eq_true rfl) rfl ?_
    exact r_weak (L' := [(2, 198), (0, x1), (0, x2), (0, x3), (0, x4), (0, x5), (0, 0), (9, 0)]) ⟨Or.inl rfl, Or.inl rfl, Or.inl rfl, Or.inl rfl, Or.inl rfl, Or.inl rfl, Or.inl rfl, Or.inr (by decide), trivial⟩ (h Ln)
  · have h := h.2 c2
    refine r_aload_n (pc' := 14) (kX11_feed_0 6 rfl) rfl rfl ?_
    refine s_getr (v := 200) (pc' := 17) (kX11_feed_0 7 rfl) rfl fkX11_17 rfl rfl (kz198 Ln) rfl (by decide) ?_
    refine r_iconst 0 (pc' := 18) (kX11_feed_0 8 rfl) rfl (by unfold inR; omega) ?_
    refine r_dup2 (pc' := 19) (kX11_feed_0 9 rfl) rfl rfl rfl ?_
    refine s_iald (x := (α 200 0)) (pc' := 20) (kX11_feed_0 10 rfl) rfl (kz200 Ln) ⟨by decide, by decide⟩ rfl ?_
    refine r_iconst 1 (pc' := 21) (kX11_feed_0 11 rfl) rfl (by unfold inR; omega) ?_
    have g3 := h.1
    have h := h.2
    refine r_iadd (pc' := 22) (kX11_feed_0 12 rfl) rfl g3 ?_
    refine s_iast (pc' := 23) (kX11_feed_0 13 rfl) rfl (kz200 Ln) ⟨by decide, by decide⟩ ?_
    refine r_iconst (-1) (pc' := 24) (kX11_feed_0 14 rfl) rfl (by unfold inR; omega) ?_
    exact s_iret (kX11_feed_0 15 rfl) rfl h
theorem vX11_feed_28 {d : Nat} {φ : aF} {α : aA} {Q : Int → aF → aA → Prop} {x1 : Int} {x2 : Int} {x3 : Int} {x4 : Int} {x5 : Int} {x6 : Int} (h : ((20 ≤ x6 →
   (Q (φ 11 1 198) φ α)) ∧
   (¬ (20 ≤ x6) →
   ((4 ≤ x6 →
     ((8 ≤ x6 →
       ((12 ≤ x6 →
         ((16 ≤ x6 →
           inR (Int.tmod x6 4) ∧ inR (3 - (Int.tmod x6 4)) ∧ inR (8 * (3 - (Int.tmod x6 4))) ∧ (0 ≤ (φ 11 1 198) ∧ (φ 11 1 198) < (1600 : Nat)) ∧ inR ((φ 11 1 198) + 1) ∧ inR (x6 + 1) ∧ (jX11_feed_28 d x1 x2 x3 x4 x5 (x6 + 1) (upf φ 11 1 198 ((φ 11 1 198) + 1)) (upa α 199 (φ 11 1 198) (iAnd (iShr x5 (8 * (3 - (Int.tmod x6 4)))) 255)) Q)) ∧
           (¬ (16 ≤ x6) →
           inR (Int.tmod x6 4) ∧ inR (3 - (Int.tmod x6 4)) ∧ inR (8 * (3 - (Int.tmod x6 4))) ∧ (0 ≤ (φ 11 1 198) ∧ (φ 11 1 198) < (1600 : Nat)) ∧ inR ((φ 11 1 198) + 1) ∧ inR (x6 + 1) ∧ (jX11_feed_28 d x1 x2 x3 x4 x5 (x6 + 1) (upf φ 11 1 198 ((φ 11 1 198) + 1)) (upa α 199 (φ 11 1 198) (iAnd (iShr x4 (8 * (3 - (Int.tmod x6 4)))) 255)) Q)))) ∧
         (¬ (12 ≤ x6) →
         inR (Int.tmod x6 4) ∧ inR (3 - (Int.tmod x6 4)) ∧ inR (8 * (3 - (Int.tmod x6 4))) ∧ (0 ≤ (φ 11 1 198) ∧ (φ 11 1 198) < (1600 : Nat)) ∧ inR ((φ 11 1 198) + 1) ∧ inR (x6 + 1) ∧ (jX11_feed_28 d x1 x2 x3 x4 x5 (x6 + 1) (upf φ 11 1 198 ((φ 11 1 198) + 1)) (upa α 199 (φ 11 1 198) (iAnd (iShr x3 (8 * (3 - (Int.tmod x6 4)))) 255)) Q)))) ∧
       (¬ (8 ≤ x6) →
       inR (Int.tmod x6 4) ∧ inR (3 - (Int.tmod x6 4)) ∧ inR (8 * (3 - (Int.tmod x6 4))) ∧ (0 ≤ (φ 11 1 198) ∧ (φ 11 1 198) < (1600 : Nat)) ∧ inR ((φ 11 1 198) + 1) ∧ inR (x6 + 1) ∧ (jX11_feed_28 d x1 x2 x3 x4 x5 (x6 + 1) (upf φ 11 1 198 ((φ 11 1 198) + 1)) (upa α 199 (φ 11 1 198) (iAnd (iShr x2 (8 * (3 - (Int.tmod x6 4)))) 255)) Q)))) ∧
     (¬ (4 ≤ x6) →
     inR (Int.tmod x6 4) ∧ inR (3 - (Int.tmod x6 4)) ∧ inR (8 * (3 - (Int.tmod x6 4))) ∧ (0 ≤ (φ 11 1 198) ∧ (φ 11 1 198) < (1600 : Nat)) ∧ inR ((φ 11 1 198) + 1) ∧ inR (x6 + 1) ∧ (jX11_feed_28 d x1 x2 x3 x4 x5 (x6 + 1) (upf φ 11 1 198 ((φ 11 1 198) + 1)) (upa α 199 (φ 11 1 198) (iAnd (iShr x1 (8 * (3 - (Int.tmod x6 4)))) 255)) Q)))))) : jX11_feed_28 d x1 x2 x3 x4 x5 x6 φ α Q := by
  intro Ln
  refine r_iload (pc' := 30) (kX11_feed_0 18 rfl) rfl rfl ?_
  refine r_bipush 20 (pc' := 32) (kX11_feed_0 19 rfl) rfl ⟨by unfold inR; omega, rfl⟩ ?_
  refine r_icmp_ge (t := 124) (pc' := 35) (kX11_feed_0 20 rfl) rfl rfl (fun c1 => ?_) (fun c1 => ?_)
  · have h := h.1 c1
    refine r_aload_n (pc' := 125) (kX11_feed_1 7 rfl) rfl rfl ?_
    refine s_get (x := (φ 11 1 198)) (pc' := 128) (kX11_feed_1 8 rfl) rfl fkX11_224 rfl rfl rfl (kz198 Ln) rfl ?_
    exact s_iret (kX11_feed_1 9 rfl) rfl h
  · have h := h.2 c1
    refine r_iload (pc' := 37) (kX11_feed_0 21 rfl) rfl rfl ?_
    refine r_iconst 4 (pc' := 38) (kX11_feed_0 22 rfl) rfl (by unfold inR; omega) ?_
    refine r_icmp_ge (t := 45) (pc' := 41) (kX11_feed_0 23 rfl) rfl rfl (fun c2 => ?_) (fun c2 => ?_)
    · have h := h.1 c2
      refine r_iload (pc' := 47) (kX11_feed_0 26 rfl) rfl rfl ?_
      refine r_bipush 8 (pc' := 49) (kX11_feed_0 27 rfl) rfl ⟨by unfold inR; omega, rfl⟩ ?_
      refine r_icmp_ge (t := 56) (pc' := 52) (kX11_feed_0 28 rfl) rfl rfl (fun c3 => ?_) (fun c3 => ?_)
      · have h := h.1 c3
        refine r_iload (pc' := 58) (kX11_feed_0 31 rfl) rfl rfl ?_
        refine r_bipush 12 (pc' := 60) (kX11_feed_0 32 rfl) rfl ⟨by unfold inR; omega, rfl⟩ ?_
        refine r_icmp_ge (t := 67) (pc' := 63) (kX11_feed_0 33 rfl) rfl rfl (fun c4 => ?_) (fun c4 => ?_)
        · have h := h.1 c4
          refine r_iload (pc' := 69) (kX11_feed_0 36 rfl) rfl rfl ?_
          refine r_bipush 16 (pc' := 71) (kX11_feed_0 37 rfl) rfl ⟨by unfold inR; omega, rfl⟩ ?_
          refine r_icmp_ge (t := 79) (pc' := 74) (kX11_feed_0 38 rfl) rfl rfl (fun c5 => ?_) (fun c5 => ?_)
          · have h := h.1 c5
            refine r_iload (pc' := 81) (kX11_feed_0 41 rfl) rfl rfl ?_
            refine r_istore (L' := [(2, 198), (0, x1), (0, x2), (0, x3), (0, x4), (0, x5), (0, x6), (0, x5)]) (pc' := 83) (kX11_feed_0 42 rfl) rfl (Nat.le_of_ble_eq_true rfl) rfl ?_
            refine r_aload_n (pc' := 84) (kX11_feed_0 43 rfl) rfl rfl ?_
            refine s_getr (v := 199) (pc' := 87) (kX11_feed_0 44 rfl) rfl fkX11_7 rfl rfl (kz198 Ln) rfl (by decide) ?_
            refine r_aload_n (pc' := 88) (kX11_feed_0 45 rfl) rfl rfl ?_
            refine s_get (x := (φ 11 1 198)) (pc' := 91) (kX11_feed_0 46 rfl) rfl fkX11_224 rfl rfl rfl (kz198 Ln) rfl ?_
            refine r_iload (pc' := 93) (kX11_feed_0 47 rfl) rfl rfl ?_
            refine r_bipush 8 (pc' := 95) (kX11_feed_0 48 rfl) rfl ⟨by unfold inR; omega, rfl⟩ ?_
            refine r_iconst 3 (pc' := 96) (kX11_feed_0 49 rfl) rfl (by unfold inR; omega) ?_
            refine r_iload (pc' := 98) (kX11_feed_0 50 rfl) rfl rfl ?_
            refine r_iconst 4 (pc' := 99) (kX11_feed_0 51 rfl) rfl (by unfold inR; omega) ?_
            have g6 := h.1
            have h := h.2
            refine r_irem (pc' := 100) (kX11_feed_0 52 rfl) rfl ⟨by decide, g6⟩ ?_
            have g7 := h.1
            have h := h.2
            refine r_isub (pc' := 101) (kX11_feed_0 53 rfl) rfl g7 ?_
            have g8 := h.1
            have h := h.2
            refine r_imul (pc' := 102) (kX11_feed_0 54 rfl) rfl g8 ?_
            refine r_ishr (pc' := 103) (kX11_feed_0 55 rfl) rfl ?_
            refine r_sipush 255 (pc' := 106) (kX11_feed_0 56 rfl) rfl ⟨by unfold inR; omega, rfl⟩ ?_
            refine r_iand (pc' := 107) (kX11_feed_0 57 rfl) rfl ?_
            have g9 := h.1
            have h := h.2
            refine s_iast (pc' := 108) (kX11_feed_0 58 rfl) rfl (kz199 Ln) g9 ?_
            refine r_aload_n (pc' := 109) (kX11_feed_0 59 rfl) rfl rfl ?_
            refine r_dup (pc' := 110) (kX11_feed_1 0 rfl) rfl rfl ?_
            refine s_get (x := (φ 11 1 198)) (pc' := 113) (kX11_feed_1 1 rfl) rfl fkX11_224 rfl rfl rfl (kz198 Ln) rfl ?_
            refine r_iconst 1 (pc' := 114) (kX11_feed_1 2 rfl) rfl (by unfold inR; omega) ?_
            have g10 := h.1
            have h := h.2
            refine r_iadd (pc' := 115) (kX11_feed_1 3 rfl) rfl g10 ?_
            refine s_put (pc' := 118) (kX11_feed_1 4 rfl) rfl fkX11_224 fnX11_1 rfl pk_int (kz198 Ln) ?_
            have g11 := h.1
            have h := h.2
            refine r_iinc (L' := [(2, 198), (0, x1), (0, x2), (0, x3), (0, x4), (0, x5), (0, (x6 + 1)), (0, x5)]) (pc' := 121) (kX11_feed_1 5 rfl) rfl (Nat.le_of_ble_eq_true rfl) rfl g11 rfl ?_
            refine r_goto (pc' := 28) (kX11_feed_1 6 rfl) rfl ?_
            exact r_weak (L' := [(2, 198), (0, x1), (0, x2), (0, x3), (0, x4), (0, x5), (0, (x6 + 1)), (9, 0)]) ⟨Or.inl rfl, Or.inl rfl, Or.inl rfl, Or.inl rfl, Or.inl rfl, Or.inl rfl, Or.inl rfl, Or.inr (by decide), trivial⟩ (h Ln)
          · have h := h.2 c5
            refine r_iload (pc' := 76) (kX11_feed_0 39 rfl) rfl rfl ?_
            refine r_goto (pc' := 81) (kX11_feed_0 40 rfl) rfl ?_
            refine r_istore (L' := [(2, 198), (0, x1), (0, x2), (0, x3), (0, x4), (0, x5), (0, x6), (0, x4)]) (pc' := 83) (kX11_feed_0 42 rfl) rfl (Nat.le_of_ble_eq_true rfl) rfl ?_
            refine r_aload_n (pc' := 84) (kX11_feed_0 43 rfl) rfl rfl ?_
            refine s_getr (v := 199) (pc' := 87) (kX11_feed_0 44 rfl) rfl fkX11_7 rfl rfl (kz198 Ln) rfl (by decide) ?_
            refine r_aload_n (pc' := 88) (kX11_feed_0 45 rfl) rfl rfl ?_
            refine s_get (x := (φ 11 1 198)) (pc' := 91) (kX11_feed_0 46 rfl) rfl fkX11_224 rfl rfl rfl (kz198 Ln) rfl ?_
            refine r_iload (pc' := 93) (kX11_feed_0 47 rfl) rfl rfl ?_
            refine r_bipush 8 (pc' := 95) (kX11_feed_0 48 rfl) rfl ⟨by unfold inR; omega, rfl⟩ ?_
            refine r_iconst 3 (pc' := 96) (kX11_feed_0 49 rfl) rfl (by unfold inR; omega) ?_
            refine r_iload (pc' := 98) (kX11_feed_0 50 rfl) rfl rfl ?_
            refine r_iconst 4 (pc' := 99) (kX11_feed_0 51 rfl) rfl (by unfold inR; omega) ?_
            have g12 := h.1
            have h := h.2
            refine r_irem (pc' := 100) (kX11_feed_0 52 rfl) rfl ⟨by decide, g12⟩ ?_
            have g13 := h.1
            have h := h.2
            refine r_isub (pc' := 101) (kX11_feed_0 53 rfl) rfl g13 ?_
            have g14 := h.1
            have h := h.2
            refine r_imul (pc' := 102) (kX11_feed_0 54 rfl) rfl g14 ?_
            refine r_ishr (pc' := 103) (kX11_feed_0 55 rfl) rfl ?_
            refine r_sipush 255 (pc' := 106) (kX11_feed_0 56 rfl) rfl ⟨by unfold inR; omega, rfl⟩ ?_
            refine r_iand (pc' := 107) (kX11_feed_0 57 rfl) rfl ?_
            have g15 := h.1
            have h := h.2
            refine s_iast (pc' := 108) (kX11_feed_0 58 rfl) rfl (kz199 Ln) g15 ?_
            refine r_aload_n (pc' := 109) (kX11_feed_0 59 rfl) rfl rfl ?_
            refine r_dup (pc' := 110) (kX11_feed_1 0 rfl) rfl rfl ?_
            refine s_get (x := (φ 11 1 198)) (pc' := 113) (kX11_feed_1 1 rfl) rfl fkX11_224 rfl rfl rfl (kz198 Ln) rfl ?_
            refine r_iconst 1 (pc' := 114) (kX11_feed_1 2 rfl) rfl (by unfold inR; omega) ?_
            have g16 := h.1
            have h := h.2
            refine r_iadd (pc' := 115) (kX11_feed_1 3 rfl) rfl g16 ?_
            refine s_put (pc' := 118) (kX11_feed_1 4 rfl) rfl fkX11_224 fnX11_1 rfl pk_int (kz198 Ln) ?_
            have g17 := h.1
            have h := h.2
            refine r_iinc (L' := [(2, 198), (0, x1), (0, x2), (0, x3), (0, x4), (0, x5), (0, (x6 + 1)), (0, x4)]) (pc' := 121) (kX11_feed_1 5 rfl) rfl (Nat.le_of_ble_eq_true rfl) rfl g17 rfl ?_
            refine r_goto (pc' := 28) (kX11_feed_1 6 rfl) rfl ?_
            exact r_weak (L' := [(2, 198), (0, x1), (0, x2), (0, x3), (0, x4), (0, x5), (0, (x6 + 1)), (9, 0)]) ⟨Or.inl rfl, Or.inl rfl, Or.inl rfl, Or.inl rfl, Or.inl rfl, Or.inl rfl, Or.inl rfl, Or.inr (by decide), trivial⟩ (h Ln)
        · have h := h.2 c4
          refine r_iload_n (pc' := 64) (kX11_feed_0 34 rfl) rfl rfl ?_
          refine r_goto (pc' := 81) (kX11_feed_0 35 rfl) rfl ?_
          refine r_istore (L' := [(2, 198), (0, x1), (0, x2), (0, x3), (0, x4), (0, x5), (0, x6), (0, x3)]) (pc' := 83) (kX11_feed_0 42 rfl) rfl (Nat.le_of_ble_eq_true rfl) rfl ?_
          refine r_aload_n (pc' := 84) (kX11_feed_0 43 rfl) rfl rfl ?_
          refine s_getr (v := 199) (pc' := 87) (kX11_feed_0 44 rfl) rfl fkX11_7 rfl rfl (kz198 Ln) rfl (by decide) ?_
          refine r_aload_n (pc' := 88) (kX11_feed_0 45 rfl) rfl rfl ?_
          refine s_get (x := (φ 11 1 198)) (pc' := 91) (kX11_feed_0 46 rfl) rfl fkX11_224 rfl rfl rfl (kz198 Ln) rfl ?_
          refine r_iload (pc' := 93) (kX11_feed_0 47 rfl) rfl rfl ?_
          refine r_bipush 8 (pc' := 95) (kX11_feed_0 48 rfl) rfl ⟨by unfold inR; omega, rfl⟩ ?_
          refine r_iconst 3 (pc' := 96) (kX11_feed_0 49 rfl) rfl (by unfold inR; omega) ?_
          refine r_iload (pc' := 98) (kX11_feed_0 50 rfl) rfl rfl ?_
          refine r_iconst 4 (pc' := 99) (kX11_feed_0 51 rfl) rfl (by unfold inR; omega) ?_
          have g18 := h.1
          have h := h.2
          refine r_irem (pc' := 100) (kX11_feed_0 52 rfl) rfl ⟨by decide, g18⟩ ?_
          have g19 := h.1
          have h := h.2
          refine r_isub (pc' := 101) (kX11_feed_0 53 rfl) rfl g19 ?_
          have g20 := h.1
          have h := h.2
          refine r_imul (pc' := 102) (kX11_feed_0 54 rfl) rfl g20 ?_
          refine r_ishr (pc' := 103) (kX11_feed_0 55 rfl) rfl ?_
          refine r_sipush 255 (pc' := 106) (kX11_feed_0 56 rfl) rfl ⟨by unfold inR; omega, rfl⟩ ?_
          refine r_iand (pc' := 107) (kX11_feed_0 57 rfl) rfl ?_
          have g21 := h.1
          have h := h.2
          refine s_iast (pc' := 108) (kX11_feed_0 58 rfl) rfl (kz199 Ln) g21 ?_
          refine r_aload_n (pc' := 109) (kX11_feed_0 59 rfl) rfl rfl ?_
          refine r_dup (pc' := 110) (kX11_feed_1 0 rfl) rfl rfl ?_
          refine s_get (x := (φ 11 1 198)) (pc' := 113) (kX11_feed_1 1 rfl) rfl fkX11_224 rfl rfl rfl (kz198 Ln) rfl ?_
          refine r_iconst 1 (pc' := 114) (kX11_feed_1 2 rfl) rfl (by unfold inR; omega) ?_
          have g22 := h.1
          have h := h.2
          refine r_iadd (pc' := 115) (kX11_feed_1 3 rfl) rfl g22 ?_
          refine s_put (pc' := 118) (kX11_feed_1 4 rfl) rfl fkX11_224 fnX11_1 rfl pk_int (kz198 Ln) ?_
          have g23 := h.1
          have h := h.2
          refine r_iinc (L' := [(2, 198), (0, x1), (0, x2), (0, x3), (0, x4), (0, x5), (0, (x6 + 1)), (0, x3)]) (pc' := 121) (kX11_feed_1 5 rfl) rfl (Nat.le_of_ble_eq_true rfl) rfl g23 rfl ?_
          refine r_goto (pc' := 28) (kX11_feed_1 6 rfl) rfl ?_
          exact r_weak (L' := [(2, 198), (0, x1), (0, x2), (0, x3), (0, x4), (0, x5), (0, (x6 + 1)), (9, 0)]) ⟨Or.inl rfl, Or.inl rfl, Or.inl rfl, Or.inl rfl, Or.inl rfl, Or.inl rfl, Or.inl rfl, Or.inr (by decide), trivial⟩ (h Ln)
      · have h := h.2 c3
        refine r_iload_n (pc' := 53) (kX11_feed_0 29 rfl) rfl rfl ?_
        refine r_goto (pc' := 81) (kX11_feed_0 30 rfl) rfl ?_
        refine r_istore (L' := [(2, 198), (0, x1), (0, x2), (0, x3), (0, x4), (0, x5), (0, x6), (0, x2)]) (pc' := 83) (kX11_feed_0 42 rfl) rfl (Nat.le_of_ble_eq_true rfl) rfl ?_
        refine r_aload_n (pc' := 84) (kX11_feed_0 43 rfl) rfl rfl ?_
        refine s_getr (v := 199) (pc' := 87) (kX11_feed_0 44 rfl) rfl fkX11_7 rfl rfl (kz198 Ln) rfl (by decide) ?_
        refine r_aload_n (pc' := 88) (kX11_feed_0 45 rfl) rfl rfl ?_
        refine s_get (x := (φ 11 1 198)) (pc' := 91) (kX11_feed_0 46 rfl) rfl fkX11_224 rfl rfl rfl (kz198 Ln) rfl ?_
        refine r_iload (pc' := 93) (kX11_feed_0 47 rfl) rfl rfl ?_
        refine r_bipush 8 (pc' := 95) (kX11_feed_0 48 rfl) rfl ⟨by unfold inR; omega, rfl⟩ ?_
        refine r_iconst 3 (pc' := 96) (kX11_feed_0 49 rfl) rfl (by unfold inR; omega) ?_
        refine r_iload (pc' := 98) (kX11_feed_0 50 rfl) rfl rfl ?_
        refine r_iconst 4 (pc' := 99) (kX11_feed_0 51 rfl) rfl (by unfold inR; omega) ?_
        have g24 := h.1
        have h := h.2
        refine r_irem (pc' := 100) (kX11_feed_0 52 rfl) rfl ⟨by decide, g24⟩ ?_
        have g25 := h.1
        have h := h.2
        refine r_isub (pc' := 101) (kX11_feed_0 53 rfl) rfl g25 ?_
        have g26 := h.1
        have h := h.2
        refine r_imul (pc' := 102) (kX11_feed_0 54 rfl) rfl g26 ?_
        refine r_ishr (pc' := 103) (kX11_feed_0 55 rfl) rfl ?_
        refine r_sipush 255 (pc' := 106) (kX11_feed_0 56 rfl) rfl ⟨by unfold inR; omega, rfl⟩ ?_
        refine r_iand (pc' := 107) (kX11_feed_0 57 rfl) rfl ?_
        have g27 := h.1
        have h := h.2
        refine s_iast (pc' := 108) (kX11_feed_0 58 rfl) rfl (kz199 Ln) g27 ?_
        refine r_aload_n (pc' := 109) (kX11_feed_0 59 rfl) rfl rfl ?_
        refine r_dup (pc' := 110) (kX11_feed_1 0 rfl) rfl rfl ?_
        refine s_get (x := (φ 11 1 198)) (pc' := 113) (kX11_feed_1 1 rfl) rfl fkX11_224 rfl rfl rfl (kz198 Ln) rfl ?_
        refine r_iconst 1 (pc' := 114) (kX11_feed_1 2 rfl) rfl (by unfold inR; omega) ?_
        have g28 := h.1
        have h := h.2
        refine r_iadd (pc' := 115) (kX11_feed_1 3 rfl) rfl g28 ?_
        refine s_put (pc' := 118) (kX11_feed_1 4 rfl) rfl fkX11_224 fnX11_1 rfl pk_int (kz198 Ln) ?_
        have g29 := h.1
        have h := h.2
        refine r_iinc (L' := [(2, 198), (0, x1), (0, x2), (0, x3), (0, x4), (0, x5), (0, (x6 + 1)), (0, x2)]) (pc' := 121) (kX11_feed_1 5 rfl) rfl (Nat.le_of_ble_eq_true rfl) rfl g29 rfl ?_
        refine r_goto (pc' := 28) (kX11_feed_1 6 rfl) rfl ?_
        exact r_weak (L' := [(2, 198), (0, x1), (0, x2), (0, x3), (0, x4), (0, x5), (0, (x6 + 1)), (9, 0)]) ⟨Or.inl rfl, Or.inl rfl, Or.inl rfl, Or.inl rfl, Or.inl rfl, Or.inl rfl, Or.inl rfl, Or.inr (by decide), trivial⟩ (h Ln)
    · have h := h.2 c2
      refine r_iload_n (pc' := 42) (kX11_feed_0 24 rfl) rfl rfl ?_
      refine r_goto (pc' := 81) (kX11_feed_0 25 rfl) rfl ?_
      refine r_istore (L' := [(2, 198), (0, x1), (0, x2), (0, x3), (0, x4), (0, x5), (0, x6), (0, x1)]) (pc' := 83) (kX11_feed_0 42 rfl) rfl (Nat.le_of_ble_eq_true rfl) rfl ?_
      refine r_aload_n (pc' := 84) (kX11_feed_0 43 rfl) rfl rfl ?_
      refine s_getr (v := 199) (pc' := 87) (kX11_feed_0 44 rfl) rfl fkX11_7 rfl rfl (kz198 Ln) rfl (by decide) ?_
      refine r_aload_n (pc' := 88) (kX11_feed_0 45 rfl) rfl rfl ?_
      refine s_get (x := (φ 11 1 198)) (pc' := 91) (kX11_feed_0 46 rfl) rfl fkX11_224 rfl rfl rfl (kz198 Ln) rfl ?_
      refine r_iload (pc' := 93) (kX11_feed_0 47 rfl) rfl rfl ?_
      refine r_bipush 8 (pc' := 95) (kX11_feed_0 48 rfl) rfl ⟨by unfold inR; omega, rfl⟩ ?_
      refine r_iconst 3 (pc' := 96) (kX11_feed_0 49 rfl) rfl (by unfold inR; omega) ?_
      refine r_iload (pc' := 98) (kX11_feed_0 50 rfl) rfl rfl ?_
      refine r_iconst 4 (pc' := 99) (kX11_feed_0 51 rfl) rfl (by unfold inR; omega) ?_
      have g30 := h.1
      have h := h.2
      refine r_irem (pc' := 100) (kX11_feed_0 52 rfl) rfl ⟨by decide, g30⟩ ?_
      have g31 := h.1
      have h := h.2
      refine r_isub (pc' := 101) (kX11_feed_0 53 rfl) rfl g31 ?_
      have g32 := h.1
      have h := h.2
      refine r_imul (pc' := 102) (kX11_feed_0 54 rfl) rfl g32 ?_
      refine r_ishr (pc' := 103) (kX11_feed_0 55 rfl) rfl ?_
      refine r_sipush 255 (pc' := 106) (kX11_feed_0 56 rfl) rfl ⟨by unfold inR; omega, rfl⟩ ?_
      refine r_iand (pc' := 107) (kX11_feed_0 57 rfl) rfl ?_
      have g33 := h.1
      have h := h.2
      refine s_iast (pc' := 108) (kX11_feed_0 58 rfl) rfl (kz199 Ln) g33 ?_
      refine r_aload_n (pc' := 109) (kX11_feed_0 59 rfl) rfl rfl ?_
      refine r_dup (pc' := 110) (kX11_feed_1 0 rfl) rfl rfl ?_
      refine s_get (x := (φ 11 1 198)) (pc' := 113) (kX11_feed_1 1 rfl) rfl fkX11_224 rfl rfl rfl (kz198 Ln) rfl ?_
      refine r_iconst 1 (pc' := 114) (kX11_feed_1 2 rfl) rfl (by unfold inR; omega) ?_
      have g34 := h.1
      have h := h.2
      refine r_iadd (pc' := 115) (kX11_feed_1 3 rfl) rfl g34 ?_
      refine s_put (pc' := 118) (kX11_feed_1 4 rfl) rfl fkX11_224 fnX11_1 rfl pk_int (kz198 Ln) ?_
      have g35 := h.1
      have h := h.2
      refine r_iinc (L' := [(2, 198), (0, x1), (0, x2), (0, x3), (0, x4), (0, x5), (0, (x6 + 1)), (0, x1)]) (pc' := 121) (kX11_feed_1 5 rfl) rfl (Nat.le_of_ble_eq_true rfl) rfl g35 rfl ?_
      refine r_goto (pc' := 28) (kX11_feed_1 6 rfl) rfl ?_
      exact r_weak (L' := [(2, 198), (0, x1), (0, x2), (0, x3), (0, x4), (0, x5), (0, (x6 + 1)), (9, 0)]) ⟨Or.inl rfl, Or.inl rfl, Or.inl rfl, Or.inl rfl, Or.inl rfl, Or.inl rfl, Or.inl rfl, Or.inr (by decide), trivial⟩ (h Ln)
theorem vX11_end_0 {d : Nat} {φ : aF} {α : aA} {Q : Int → aF → aA → Prop} {x1 : Int} (h : ((x1 < 0 →
   inR ((α 200 0) + 1) ∧ (Q 0 φ (upa α 200 0 ((α 200 0) + 1)))) ∧
   (¬ (x1 < 0) →
   ((x1 ≤ (φ 11 1 198) →
     (Q 1 (upf φ 11 1 198 x1) α)) ∧
     (¬ (x1 ≤ (φ 11 1 198)) →
     inR ((α 200 0) + 1) ∧ (Q 0 φ (upa α 200 0 ((α 200 0) + 1)))))))) : eX11_end d x1 φ α Q := by
  intro Ln
  refine r_iload_n (pc' := 1) (kX11_end_0 0 rfl) rfl rfl ?_
  refine r_if_lt (t := 12) (pc' := 4) (kX11_end_0 1 rfl) rfl rfl (fun c1 => ?_) (fun c1 => ?_)
  · have h := h.1 c1
    refine r_aload_n (pc' := 13) (kX11_end_0 6 rfl) rfl rfl ?_
    refine s_getr (v := 200) (pc' := 16) (kX11_end_0 7 rfl) rfl fkX11_17 rfl rfl (kz198 Ln) rfl (by decide) ?_
    refine r_iconst 0 (pc' := 17) (kX11_end_0 8 rfl) rfl (by unfold inR; omega) ?_
    refine r_dup2 (pc' := 18) (kX11_end_0 9 rfl) rfl rfl rfl ?_
    refine s_iald (x := (α 200 0)) (pc' := 19) (kX11_end_0 10 rfl) rfl (kz200 Ln) ⟨by decide, by decide⟩ rfl ?_
    refine r_iconst 1 (pc' := 20) (kX11_end_0 11 rfl) rfl (by unfold inR; omega) ?_
    have g2 := h.1
    have h := h.2
    refine r_iadd (pc' := 21) (kX11_end_0 12 rfl) rfl g2 ?_
    refine s_iast (pc' := 22) (kX11_end_0 13 rfl) rfl (kz200 Ln) ⟨by decide, by decide⟩ ?_
    refine r_iconst 0 (pc' := 23) (kX11_end_0 14 rfl) rfl (by unfold inR; omega) ?_
    exact s_zret (kX11_end_0 15 rfl) rfl (Or.inl rfl) h
  · have h := h.2 c1
    refine r_iload_n (pc' := 5) (kX11_end_0 2 rfl) rfl rfl ?_
    refine r_aload_n (pc' := 6) (kX11_end_0 3 rfl) rfl rfl ?_
    refine s_get (x := (φ 11 1 198)) (pc' := 9) (kX11_end_0 4 rfl) rfl fkX11_224 rfl rfl rfl (kz198 Ln) rfl ?_
    refine r_icmp_le (t := 24) (pc' := 12) (kX11_end_0 5 rfl) rfl rfl (fun c3 => ?_) (fun c3 => ?_)
    · have h := h.1 c3
      refine r_aload_n (pc' := 25) (kX11_end_0 16 rfl) rfl rfl ?_
      refine r_iload_n (pc' := 26) (kX11_end_0 17 rfl) rfl rfl ?_
      refine s_put (pc' := 29) (kX11_end_0 18 rfl) rfl fkX11_224 fnX11_1 rfl pk_int (kz198 Ln) ?_
      refine r_iconst 1 (pc' := 30) (kX11_end_0 19 rfl) rfl (by unfold inR; omega) ?_
      exact s_zret (kX11_end_0 20 rfl) rfl (Or.inr rfl) h
    · have h := h.2 c3
      refine r_aload_n (pc' := 13) (kX11_end_0 6 rfl) rfl rfl ?_
      refine s_getr (v := 200) (pc' := 16) (kX11_end_0 7 rfl) rfl fkX11_17 rfl rfl (kz198 Ln) rfl (by decide) ?_
      refine r_iconst 0 (pc' := 17) (kX11_end_0 8 rfl) rfl (by unfold inR; omega) ?_
      refine r_dup2 (pc' := 18) (kX11_end_0 9 rfl) rfl rfl rfl ?_
      refine s_iald (x := (α 200 0)) (pc' := 19) (kX11_end_0 10 rfl) rfl (kz200 Ln) ⟨by decide, by decide⟩ rfl ?_
      refine r_iconst 1 (pc' := 20) (kX11_end_0 11 rfl) rfl (by unfold inR; omega) ?_
      have g4 := h.1
      have h := h.2
      refine r_iadd (pc' := 21) (kX11_end_0 12 rfl) rfl g4 ?_
      refine s_iast (pc' := 22) (kX11_end_0 13 rfl) rfl (kz200 Ln) ⟨by decide, by decide⟩ ?_
      refine r_iconst 0 (pc' := 23) (kX11_end_0 14 rfl) rfl (by unfold inR; omega) ?_
      exact s_zret (kX11_end_0 15 rfl) rfl (Or.inl rfl) h
theorem vX11_fail_0 {d : Nat} {φ : aF} {α : aA} {Q : Int → aF → aA → Prop} {x1 : Int} {x2 : Int} (h : (((φ 11 5 198) = 0 →
   (Q 0 (upf (upf φ 11 5 198 x1) 11 6 198 x2) α)) ∧
   (¬ ((φ 11 5 198) = 0) →
   (Q 0 φ α)))) : eX11_fail d x1 x2 φ α Q := by
  intro Ln
  refine r_aload_n (pc' := 1) (kX11_fail_0 0 rfl) rfl rfl ?_
  refine s_get (x := (φ 11 5 198)) (pc' := 4) (kX11_fail_0 1 rfl) rfl fkX11_227 rfl rfl rfl (kz198 Ln) rfl ?_
  refine r_if_eq (t := 8) (pc' := 7) (kX11_fail_0 2 rfl) rfl rfl (fun c1 => ?_) (fun c1 => ?_)
  · have h := h.1 c1
    refine r_aload_n (pc' := 9) (kX11_fail_0 4 rfl) rfl rfl ?_
    refine r_iload_n (pc' := 10) (kX11_fail_0 5 rfl) rfl rfl ?_
    refine s_put (pc' := 13) (kX11_fail_0 6 rfl) rfl fkX11_227 fnX11_5 rfl pk_int (kz198 Ln) ?_
    refine r_aload_n (pc' := 14) (kX11_fail_0 7 rfl) rfl rfl ?_
    refine r_iload_n (pc' := 15) (kX11_fail_0 8 rfl) rfl rfl ?_
    refine s_put (pc' := 18) (kX11_fail_0 9 rfl) rfl fkX11_230 fnX11_6 rfl pk_int (kz198 Ln) ?_
    exact s_vret (kX11_fail_0 10 rfl) rfl h
  · have h := h.2 c1
    exact s_vret (kX11_fail_0 3 rfl) rfl h
theorem vX11_isLetter_0 {d : Nat} {φ : aF} {α : aA} {Q : Int → aF → aA → Prop} {x0 : Int} (h : ((x0 < 97 →
   (Q 0 φ α)) ∧
   (¬ (x0 < 97) →
   ((122 < x0 →
     (Q 0 φ α)) ∧
     (¬ (122 < x0) →
     (Q 1 φ α)))))) : eX11_isLetter d x0 φ α Q := by
  intro Ln
  refine r_iload_n (pc' := 1) (kX11_isLetter_0 0 rfl) rfl rfl ?_
  refine r_bipush 97 (pc' := 3) (kX11_isLetter_0 1 rfl) rfl ⟨by unfold inR; omega, rfl⟩ ?_
  refine r_icmp_lt (t := 16) (pc' := 6) (kX11_isLetter_0 2 rfl) rfl rfl (fun c1 => ?_) (fun c1 => ?_)
  · have h := h.1 c1
    refine r_iconst 0 (pc' := 17) (kX11_isLetter_0 8 rfl) rfl (by unfold inR; omega) ?_
    exact s_zret (kX11_isLetter_0 9 rfl) rfl (Or.inl rfl) h
  · have h := h.2 c1
    refine r_iload_n (pc' := 7) (kX11_isLetter_0 3 rfl) rfl rfl ?_
    refine r_bipush 122 (pc' := 9) (kX11_isLetter_0 4 rfl) rfl ⟨by unfold inR; omega, rfl⟩ ?_
    refine r_icmp_gt (t := 16) (pc' := 12) (kX11_isLetter_0 5 rfl) rfl rfl (fun c2 => ?_) (fun c2 => ?_)
    · have h := h.1 c2
      refine r_iconst 0 (pc' := 17) (kX11_isLetter_0 8 rfl) rfl (by unfold inR; omega) ?_
      exact s_zret (kX11_isLetter_0 9 rfl) rfl (Or.inl rfl) h
    · have h := h.2 c2
      refine r_iconst 1 (pc' := 13) (kX11_isLetter_0 6 rfl) rfl (by unfold inR; omega) ?_
      refine r_goto (pc' := 17) (kX11_isLetter_0 7 rfl) rfl ?_
      exact s_zret (kX11_isLetter_0 9 rfl) rfl (Or.inr rfl) h
theorem vX11_isDigit_0 {d : Nat} {φ : aF} {α : aA} {Q : Int → aF → aA → Prop} {x0 : Int} (h : ((x0 < 48 →
   (Q 0 φ α)) ∧
   (¬ (x0 < 48) →
   ((57 < x0 →
     (Q 0 φ α)) ∧
     (¬ (57 < x0) →
     (Q 1 φ α)))))) : eX11_isDigit d x0 φ α Q := by
  intro Ln
  refine r_iload_n (pc' := 1) (kX11_isDigit_0 0 rfl) rfl rfl ?_
  refine r_bipush 48 (pc' := 3) (kX11_isDigit_0 1 rfl) rfl ⟨by unfold inR; omega, rfl⟩ ?_
  refine r_icmp_lt (t := 16) (pc' := 6) (kX11_isDigit_0 2 rfl) rfl rfl (fun c1 => ?_) (fun c1 => ?_)
  · have h := h.1 c1
    refine r_iconst 0 (pc' := 17) (kX11_isDigit_0 8 rfl) rfl (by unfold inR; omega) ?_
    exact s_zret (kX11_isDigit_0 9 rfl) rfl (Or.inl rfl) h
  · have h := h.2 c1
    refine r_iload_n (pc' := 7) (kX11_isDigit_0 3 rfl) rfl rfl ?_
    refine r_bipush 57 (pc' := 9) (kX11_isDigit_0 4 rfl) rfl ⟨by unfold inR; omega, rfl⟩ ?_
    refine r_icmp_gt (t := 16) (pc' := 12) (kX11_isDigit_0 5 rfl) rfl rfl (fun c2 => ?_) (fun c2 => ?_)
    · have h := h.1 c2
      refine r_iconst 0 (pc' := 17) (kX11_isDigit_0 8 rfl) rfl (by unfold inR; omega) ?_
      exact s_zret (kX11_isDigit_0 9 rfl) rfl (Or.inl rfl) h
    · have h := h.2 c2
      refine r_iconst 1 (pc' := 13) (kX11_isDigit_0 6 rfl) rfl (by unfold inR; omega) ?_
      refine r_goto (pc' := 17) (kX11_isDigit_0 7 rfl) rfl ?_
      exact s_zret (kX11_isDigit_0 9 rfl) rfl (Or.inr rfl) h
abbrev jX11_look_0 (d : Nat) (φ : aF) (α : aA) (Q : Int → aF → aA → Prop) : Prop := R0 d mX11_look 0 [(2, 198)] [] φ α Q
theorem vX11_look_0 {d : Nat} {φ : aF} {α : aA} {Q : Int → aF → aA → Prop} (h : (((φ 11 3 198) ≤ (φ 11 2 198) →
   (Q (-1) φ α)) ∧
   (¬ ((φ 11 3 198) ≤ (φ 11 2 198)) →
   (0 ≤ (φ 11 2 198) ∧ (φ 11 2 198) < (1600 : Nat)) ∧ (((α 199 (φ 11 2 198)) = 10 →
     inR ((φ 11 2 198) + 1) ∧ (jX11_look_0 d  (upf φ 11 2 198 ((φ 11 2 198) + 1)) α Q)) ∧
     (¬ ((α 199 (φ 11 2 198)) = 10) →
     ((¬ (α 199 (φ 11 2 198)) = 32 →
       (Q (α 199 (φ 11 2 198)) φ α)) ∧
       ((α 199 (φ 11 2 198)) = 32 →
       inR ((φ 11 2 198) + 1) ∧ (jX11_look_0 d  (upf φ 11 2 198 ((φ 11 2 198) + 1)) α Q)))))))) : eX11_look d  φ α Q := by
  intro Ln
  refine r_aload_n (pc' := 1) (kX11_look_0 0 rfl) rfl rfl ?_
  refine s_get (x := (φ 11 2 198)) (pc' := 4) (kX11_look_0 1 rfl) rfl fkX11_233 rfl rfl rfl (kz198 Ln) rfl ?_
  refine r_aload_n (pc' := 5) (kX11_look_0 2 rfl) rfl rfl ?_
  refine s_get (x := (φ 11 3 198)) (pc' := 8) (kX11_look_0 3 rfl) rfl fkX11_236 rfl rfl rfl (kz198 Ln) rfl ?_
  refine r_icmp_ge (t := 52) (pc' := 11) (kX11_look_0 4 rfl) rfl rfl (fun c1 => ?_) (fun c1 => ?_)
  · have h := h.1 c1
    refine r_aload_n (pc' := 53) (kX11_look_0 26 rfl) rfl rfl ?_
    refine s_get (x := (φ 11 2 198)) (pc' := 56) (kX11_look_0 27 rfl) rfl fkX11_233 rfl rfl rfl (kz198 Ln) rfl ?_
    refine r_aload_n (pc' := 57) (kX11_look_0 28 rfl) rfl rfl ?_
    refine s_get (x := (φ 11 3 198)) (pc' := 60) (kX11_look_0 29 rfl) rfl fkX11_236 rfl rfl rfl (kz198 Ln) rfl ?_
    refine r_icmp_ge (t := 75) (pc' := 63) (kX11_look_0 30 rfl) rfl rfl (fun _ => ?_) (fun cz => absurd c1 cz)
    refine r_iconst (-1) (pc' := 76) (kX11_look_0 37 rfl) rfl (by unfold inR; omega) ?_
    exact s_iret (kX11_look_0 38 rfl) rfl h
  · have h := h.2 c1
    refine r_aload_n (pc' := 12) (kX11_look_0 5 rfl) rfl rfl ?_
    refine s_getr (v := 199) (pc' := 15) (kX11_look_0 6 rfl) rfl fkX11_7 rfl rfl (kz198 Ln) rfl (by decide) ?_
    refine r_aload_n (pc' := 16) (kX11_look_0 7 rfl) rfl rfl ?_
    refine s_get (x := (φ 11 2 198)) (pc' := 19) (kX11_look_0 8 rfl) rfl fkX11_233 rfl rfl rfl (kz198 Ln) rfl ?_
    have g2 := h.1
    have h := h.2
    refine s_iald (x := (α 199 (φ 11 2 198))) (pc' := 20) (kX11_look_0 9 rfl) rfl (kz199 Ln) g2 rfl ?_
    refine r_bipush 10 (pc' := 22) (kX11_look_0 10 rfl) rfl ⟨by unfold inR; omega, rfl⟩ ?_
    refine r_icmp_eq (t := 39) (pc' := 25) (kX11_look_0 11 rfl) rfl rfl (fun c3 => ?_) (fun c3 => ?_)
    · have h := h.1 c3
      refine r_aload_n (pc' := 40) (kX11_look_0 19 rfl) rfl rfl ?_
      refine r_dup (pc' := 41) (kX11_look_0 20 rfl) rfl rfl ?_
      refine s_get (x := (φ 11 2 198)) (pc' := 44) (kX11_look_0 21 rfl) rfl fkX11_233 rfl rfl rfl (kz198 Ln) rfl ?_
      refine r_iconst 1 (pc' := 45) (kX11_look_0 22 rfl) rfl (by unfold inR; omega) ?_
      have g4 := h.1
      have h := h.2
      refine r_iadd (pc' := 46) (kX11_look_0 23 rfl) rfl g4 ?_
      refine s_put (pc' := 49) (kX11_look_0 24 rfl) rfl fkX11_233 fnX11_2 rfl pk_int (kz198 Ln) ?_
      refine r_goto (pc' := 0) (kX11_look_0 25 rfl) rfl ?_
      exact r_weak (L' := [(2, 198)]) ⟨Or.inl rfl, trivial⟩ (h Ln)
    · have h := h.2 c3
      refine r_aload_n (pc' := 26) (kX11_look_0 12 rfl) rfl rfl ?_
      refine s_getr (v := 199) (pc' := 29) (kX11_look_0 13 rfl) rfl fkX11_7 rfl rfl (kz198 Ln) rfl (by decide) ?_
      refine r_aload_n (pc' := 30) (kX11_look_0 14 rfl) rfl rfl ?_
      refine s_get (x := (φ 11 2 198)) (pc' := 33) (kX11_look_0 15 rfl) rfl fkX11_233 rfl rfl rfl (kz198 Ln) rfl ?_
      refine s_iald (x := (α 199 (φ 11 2 198))) (pc' := 34) (kX11_look_0 16 rfl) rfl (kz199 Ln) g2 rfl ?_
      refine r_bipush 32 (pc' := 36) (kX11_look_0 17 rfl) rfl ⟨by unfold inR; omega, rfl⟩ ?_
      refine r_icmp_ne (t := 52) (pc' := 39) (kX11_look_0 18 rfl) rfl rfl (fun c5 => ?_) (fun c5 => ?_)
      · have h := h.1 c5
        refine r_aload_n (pc' := 53) (kX11_look_0 26 rfl) rfl rfl ?_
        refine s_get (x := (φ 11 2 198)) (pc' := 56) (kX11_look_0 27 rfl) rfl fkX11_233 rfl rfl rfl (kz198 Ln) rfl ?_
        refine r_aload_n (pc' := 57) (kX11_look_0 28 rfl) rfl rfl ?_
        refine s_get (x := (φ 11 3 198)) (pc' := 60) (kX11_look_0 29 rfl) rfl fkX11_236 rfl rfl rfl (kz198 Ln) rfl ?_
        refine r_icmp_ge (t := 75) (pc' := 63) (kX11_look_0 30 rfl) rfl rfl (fun cz => absurd cz c1) (fun _ => ?_)
        refine r_aload_n (pc' := 64) (kX11_look_0 31 rfl) rfl rfl ?_
        refine s_getr (v := 199) (pc' := 67) (kX11_look_0 32 rfl) rfl fkX11_7 rfl rfl (kz198 Ln) rfl (by decide) ?_
        refine r_aload_n (pc' := 68) (kX11_look_0 33 rfl) rfl rfl ?_
        refine s_get (x := (φ 11 2 198)) (pc' := 71) (kX11_look_0 34 rfl) rfl fkX11_233 rfl rfl rfl (kz198 Ln) rfl ?_
        refine s_iald (x := (α 199 (φ 11 2 198))) (pc' := 72) (kX11_look_0 35 rfl) rfl (kz199 Ln) g2 rfl ?_
        refine r_goto (pc' := 76) (kX11_look_0 36 rfl) rfl ?_
        exact s_iret (kX11_look_0 38 rfl) rfl h
      · have h := h.2 c5
        refine r_aload_n (pc' := 40) (kX11_look_0 19 rfl) rfl rfl ?_
        refine r_dup (pc' := 41) (kX11_look_0 20 rfl) rfl rfl ?_
        refine s_get (x := (φ 11 2 198)) (pc' := 44) (kX11_look_0 21 rfl) rfl fkX11_233 rfl rfl rfl (kz198 Ln) rfl ?_
        refine r_iconst 1 (pc' := 45) (kX11_look_0 22 rfl) rfl (by unfold inR; omega) ?_
        have g6 := h.1
        have h := h.2
        refine r_iadd (pc' := 46) (kX11_look_0 23 rfl) rfl g6 ?_
        refine s_put (pc' := 49) (kX11_look_0 24 rfl) rfl fkX11_233 fnX11_2 rfl pk_int (kz198 Ln) ?_
        refine r_goto (pc' := 0) (kX11_look_0 25 rfl) rfl ?_
        exact r_weak (L' := [(2, 198)]) ⟨Or.inl rfl, trivial⟩ (h Ln)
abbrev jX11_isHere_35 (d : Nat) (x1 x2 : Int) (φ : aF) (α : aA) (Q : Int → aF → aA → Prop) : Prop := R0 d mX11_isHere 35 [(2, 198), (2, x1), (0, x2), (9, 0)] [] φ α Q
theorem vX11_isHere_0 {d : Nat} {φ : aF} {α : aA} {Q : Int → aF → aA → Prop} {x1 : Int} {nx1 : Nat} (hx1 : isCA x1 nx1) (h : ((¬ (φ 11 5 198) = 0 →
   (Q 0 φ α)) ∧
   ((φ 11 5 198) = 0 →
   (eX11_look d  φ α (fun r2 φ2 α2 =>
     (eX11_isLetter d r2 φ2 α2 (fun r3 φ3 α3 =>
     ((r3 = 0 →
     (Q 0 φ3 α3)) ∧
     (¬ (r3 = 0) →
     ((¬ (φ3 11 2 198) = (φ3 11 4 198) →
       (jX11_isHere_35 (d + 1) x1 (φ3 11 2 198) φ3 α3 Q)) ∧
       ((φ3 11 2 198) = (φ3 11 4 198) →
       (Q 0 φ3 α3)))))))))))) : eX11_isHere (d + 1) x1 φ α Q := by
  intro Ln
  refine r_aload_n (pc' := 1) (kX11_isHere_0 0 rfl) rfl rfl ?_
  refine s_get (x := (φ 11 5 198)) (pc' := 4) (kX11_isHere_0 1 rfl) rfl fkX11_227 rfl rfl rfl (kz198 Ln) rfl ?_
  refine r_if_ne (t := 28) (pc' := 7) (kX11_isHere_0 2 rfl) rfl rfl (fun c1 => ?_) (fun c1 => ?_)
  · have h := h.1 c1
    refine r_iconst 0 (pc' := 29) (kX11_isHere_0 12 rfl) rfl (by unfold inR; omega) ?_
    exact s_zret (kX11_isHere_0 13 rfl) rfl (Or.inl rfl) h
  · have h := h.2 c1
    refine r_aload_n (pc' := 8) (kX11_isHere_0 3 rfl) rfl rfl ?_
    refine s_callV (As := []) (o := 198) (S := []) (S2 := fun z => [(0, z)]) (pc' := 11) (kX11_isHere_0 4 rfl) rfl rfl nkX11_look mlX11_239 imX11_look rfl slX11_look rfl (Nat.le_of_ble_eq_true rfl) (Nat.le_of_ble_eq_true rfl) (kz198 Ln) h (fun z => rfl) (fun r2 φ2 α2 h => ?_)
    refine s_callS (As := [(0, r2)]) (S := []) (S2 := fun z => [(0, z)]) (pc' := 14) (kX11_isHere_0 5 rfl) rfl rfl nkX11_isLetter mlX11_243 scX11_isLetter rfl (Nat.le_of_ble_eq_true rfl) (Nat.le_of_ble_eq_true rfl) h (fun z => rfl) (fun r3 φ3 α3 h => ?_)
    refine r_if_eq (t := 28) (pc' := 17) (kX11_isHere_0 6 rfl) rfl rfl (fun c4 => ?_) (fun c4 => ?_)
    · have h := h.1 c4
      refine r_iconst 0 (pc' := 29) (kX11_isHere_0 12 rfl) rfl (by unfold inR; omega) ?_
      exact s_zret (kX11_isHere_0 13 rfl) rfl (Or.inl rfl) h
    · have h := h.2 c4
      refine r_aload_n (pc' := 18) (kX11_isHere_0 7 rfl) rfl rfl ?_
      refine s_get (x := (φ3 11 2 198)) (pc' := 21) (kX11_isHere_0 8 rfl) rfl fkX11_233 rfl rfl rfl (kz198 Ln) rfl ?_
      refine r_aload_n (pc' := 22) (kX11_isHere_0 9 rfl) rfl rfl ?_
      refine s_get (x := (φ3 11 4 198)) (pc' := 25) (kX11_isHere_0 10 rfl) rfl fkX11_247 rfl rfl rfl (kz198 Ln) rfl ?_
      refine r_icmp_ne (t := 30) (pc' := 28) (kX11_isHere_0 11 rfl) rfl rfl (fun c5 => ?_) (fun c5 => ?_)
      · have h := h.1 c5
        refine r_aload_n (pc' := 31) (kX11_isHere_0 14 rfl) rfl rfl ?_
        refine s_get (x := (φ3 11 2 198)) (pc' := 34) (kX11_isHere_0 15 rfl) rfl fkX11_233 rfl rfl rfl (kz198 Ln) rfl ?_
        refine r_istore_n (L' := [(2, 198), (2, x1), (0, (φ3 11 2 198)), (9, 0)]) (pc' := 35) (kX11_isHere_0 16 rfl) rfl (Nat.le_of_ble_eq_true rfl) rfl ?_
        exact r_weak (L' := [(2, 198), (2, x1), (0, (φ3 11 2 198)), (9, 0)]) ⟨Or.inl rfl, Or.inl rfl, Or.inl rfl, Or.inr (by decide), trivial⟩ (h Ln)
      · have h := h.2 c5
        refine r_iconst 0 (pc' := 29) (kX11_isHere_0 12 rfl) rfl (by unfold inR; omega) ?_
        exact s_zret (kX11_isHere_0 13 rfl) rfl (Or.inl rfl) h
abbrev jX11_isHere_76 (d : Nat) (x1 x3 : Int) (φ : aF) (α : aA) (Q : Int → aF → aA → Prop) : Prop := R0 d mX11_isHere 76 [(2, 198), (2, x1), (9, 0), (0, x3)] [] φ α Q
theorem vX11_isHere_35 {d : Nat} {φ : aF} {α : aA} {Q : Int → aF → aA → Prop} {x1 : Int} {nx1 : Nat} {x2 : Int} (hx1 : isCA x1 nx1) (h : (((φ 11 3 198) ≤ x2 →
   inR (x2 - (φ 11 2 198)) ∧ (((x2 - (φ 11 2 198)) = (nx1 : Int) →
     (jX11_isHere_76 (d + 1) x1 0 φ α Q)) ∧
     (¬ ((x2 - (φ 11 2 198)) = (nx1 : Int)) →
     (Q 0 φ α)))) ∧
   (¬ ((φ 11 3 198) ≤ x2) →
   (0 ≤ x2 ∧ x2 < (1600 : Nat)) ∧ (eX11_isLetter d (α 199 x2) φ α (fun r5 φ5 α5 =>
     ((r5 = 0 →
     inR (x2 - (φ5 11 2 198)) ∧ (((x2 - (φ5 11 2 198)) = (nx1 : Int) →
       (jX11_isHere_76 (d + 1) x1 0 φ5 α5 Q)) ∧
       (¬ ((x2 - (φ5 11 2 198)) = (nx1 : Int)) →
       (Q 0 φ5 α5)))) ∧
     (¬ (r5 = 0) →
     inR (x2 + 1) ∧ (jX11_isHere_35 (d + 1) x1 (x2 + 1) φ5 α5 Q)))))))) : jX11_isHere_35 (d + 1) x1 x2 φ α Q := by
  intro Ln
  refine r_iload_n (pc' := 36) (kX11_isHere_0 17 rfl) rfl rfl ?_
  refine r_aload_n (pc' := 37) (kX11_isHere_0 18 rfl) rfl rfl ?_
  refine s_get (x := (φ 11 3 198)) (pc' := 40) (kX11_isHere_0 19 rfl) rfl fkX11_236 rfl rfl rfl (kz198 Ln) rfl ?_
  refine r_icmp_ge (t := 61) (pc' := 43) (kX11_isHere_0 20 rfl) rfl rfl (fun c1 => ?_) (fun c1 => ?_)
  · have h := h.1 c1
    refine r_iload_n (pc' := 62) (kX11_isHere_0 29 rfl) rfl rfl ?_
    refine r_aload_n (pc' := 63) (kX11_isHere_0 30 rfl) rfl rfl ?_
    refine s_get (x := (φ 11 2 198)) (pc' := 66) (kX11_isHere_0 31 rfl) rfl fkX11_233 rfl rfl rfl (kz198 Ln) rfl ?_
    have g2 := h.1
    have h := h.2
    refine r_isub (pc' := 67) (kX11_isHere_0 32 rfl) rfl g2 ?_
    refine r_aload_n (pc' := 68) (kX11_isHere_0 33 rfl) rfl rfl ?_
    refine s_alen (pc' := 69) (kX11_isHere_0 34 rfl) rfl (hx1 Ln) ⟨by decide, by decide⟩ ?_
    refine r_icmp_eq (t := 74) (pc' := 72) (kX11_isHere_0 35 rfl) rfl rfl (fun c3 => ?_) (fun c3 => ?_)
    · have h := h.1 c3
      refine r_iconst 0 (pc' := 75) (kX11_isHere_0 38 rfl) rfl (by unfold inR; omega) ?_
      refine r_istore_n (L' := [(2, 198), (2, x1), (0, x2), (0, 0)]) (pc' := 76) (kX11_isHere_0 39 rfl) rfl (Nat.le_of_ble_eq_true rfl) rfl ?_
      exact r_weak (L' := [(2, 198), (2, x1), (9, 0), (0, 0)]) ⟨Or.inl rfl, Or.inl rfl, Or.inr (by decide), Or.inl rfl, trivial⟩ (h Ln)
    · have h := h.2 c3
      refine r_iconst 0 (pc' := 73) (kX11_isHere_0 36 rfl) rfl (by unfold inR; omega) ?_
      exact s_zret (kX11_isHere_0 37 rfl) rfl (Or.inl rfl) h
  · have h := h.2 c1
    refine r_aload_n (pc' := 44) (kX11_isHere_0 21 rfl) rfl rfl ?_
    refine s_getr (v := 199) (pc' := 47) (kX11_isHere_0 22 rfl) rfl fkX11_7 rfl rfl (kz198 Ln) rfl (by decide) ?_
    refine r_iload_n (pc' := 48) (kX11_isHere_0 23 rfl) rfl rfl ?_
    have g4 := h.1
    have h := h.2
    refine s_iald (x := (α 199 x2)) (pc' := 49) (kX11_isHere_0 24 rfl) rfl (kz199 Ln) g4 rfl ?_
    refine s_callS (As := [(0, (α 199 x2))]) (S := []) (S2 := fun z => [(0, z)]) (pc' := 52) (kX11_isHere_0 25 rfl) rfl rfl nkX11_isLetter mlX11_243 scX11_isLetter rfl (Nat.le_of_ble_eq_true rfl) (Nat.le_of_ble_eq_true rfl) h (fun z => rfl) (fun r5 φ5 α5 h => ?_)
    refine r_if_eq (t := 61) (pc' := 55) (kX11_isHere_0 26 rfl) rfl rfl (fun c6 => ?_) (fun c6 => ?_)
    · have h := h.1 c6
      refine r_iload_n (pc' := 62) (kX11_isHere_0 29 rfl) rfl rfl ?_
      refine r_aload_n (pc' := 63) (kX11_isHere_0 30 rfl) rfl rfl ?_
      refine s_get (x := (φ5 11 2 198)) (pc' := 66) (kX11_isHere_0 31 rfl) rfl fkX11_233 rfl rfl rfl (kz198 Ln) rfl ?_
      have g7 := h.1
      have h := h.2
      refine r_isub (pc' := 67) (kX11_isHere_0 32 rfl) rfl g7 ?_
      refine r_aload_n (pc' := 68) (kX11_isHere_0 33 rfl) rfl rfl ?_
      refine s_alen (pc' := 69) (kX11_isHere_0 34 rfl) rfl (hx1 Ln) ⟨by decide, by decide⟩ ?_
      refine r_icmp_eq (t := 74) (pc' := 72) (kX11_isHere_0 35 rfl) rfl rfl (fun c8 => ?_) (fun c8 => ?_)
      · have h := h.1 c8
        refine r_iconst 0 (pc' := 75) (kX11_isHere_0 38 rfl) rfl (by unfold inR; omega) ?_
        refine r_istore_n (L' := [(2, 198), (2, x1), (0, x2), (0, 0)]) (pc' := 76) (kX11_isHere_0 39 rfl) rfl (Nat.le_of_ble_eq_true rfl) rfl ?_
        exact r_weak (L' := [(2, 198), (2, x1), (9, 0), (0, 0)]) ⟨Or.inl rfl, Or.inl rfl, Or.inr (by decide), Or.inl rfl, trivial⟩ (h Ln)
      · have h := h.2 c8
        refine r_iconst 0 (pc' := 73) (kX11_isHere_0 36 rfl) rfl (by unfold inR; omega) ?_
        exact s_zret (kX11_isHere_0 37 rfl) rfl (Or.inl rfl) h
    · have h := h.2 c6
      have g9 := h.1
      have h := h.2
      refine r_iinc (L' := [(2, 198), (2, x1), (0, (x2 + 1)), (9, 0)]) (pc' := 58) (kX11_isHere_0 27 rfl) rfl (Nat.le_of_ble_eq_true rfl) rfl g9 rfl ?_
      refine r_goto (pc' := 35) (kX11_isHere_0 28 rfl) rfl ?_
      exact r_weak (L' := [(2, 198), (2, x1), (0, (x2 + 1)), (9, 0)]) ⟨Or.inl rfl, Or.inl rfl, Or.inl rfl, Or.inr (by decide), trivial⟩ (h Ln)
theorem vX11_isHere_76 {d : Nat} {φ : aF} {α : aA} {Q : Int → aF → aA → Prop} {x1 : Int} {nx1 : Nat} {x3 : Int} (hx1 : isCA x1 nx1) (h : (((nx1 : Int) ≤ x3 →
   (Q 1 φ α)) ∧
   (¬ ((nx1 : Int) ≤ x3) →
   inR ((φ 11 2 198) + x3) ∧ (0 ≤ ((φ 11 2 198) + x3) ∧ ((φ 11 2 198) + x3) < (1600 : Nat)) ∧ (0 ≤ x3 ∧ x3 < (nx1 : Nat)) ∧ (((α 199 ((φ 11 2 198) + x3)) = (α x1 x3) →
     inR (x3 + 1) ∧ (jX11_isHere_76 (d + 1) x1 (x3 + 1) φ α Q)) ∧
     (¬ ((α 199 ((φ 11 2 198) + x3)) = (α x1 x3)) →
     (Q 0 φ α)))))) : jX11_isHere_76 (d + 1) x1 x3 φ α Q := by
  intro Ln
  refine r_iload_n (pc' := 77) (kX11_isHere_0 40 rfl) rfl rfl ?_
  refine r_aload_n (pc' := 78) (kX11_isHere_0 41 rfl) rfl rfl ?_
  refine s_alen (pc' := 79) (kX11_isHere_0 42 rfl) rfl (hx1 Ln) ⟨by decide, by decide⟩ ?_
  refine r_icmp_ge (t := 107) (pc' := 82) (kX11_isHere_0 43 rfl) rfl rfl (fun c1 => ?_) (fun c1 => ?_)
  · have h := h.1 c1
    refine r_iconst 1 (pc' := 108) (kX11_isHere_0 59 rfl) rfl (by unfold inR; omega) ?_
    exact s_zret (kX11_isHere_1 0 rfl) rfl (Or.inr rfl) h
  · have h := h.2 c1
    refine r_aload_n (pc' := 83) (kX11_isHere_0 44 rfl) rfl rfl ?_
    refine s_getr (v := 199) (pc' := 86) (kX11_isHere_0 45 rfl) rfl fkX11_7 rfl rfl (kz198 Ln) rfl (by decide) ?_
    refine r_aload_n (pc' := 87) (kX11_isHere_0 46 rfl) rfl rfl ?_
    refine s_get (x := (φ 11 2 198)) (pc' := 90) (kX11_isHere_0 47 rfl) rfl fkX11_233 rfl rfl rfl (kz198 Ln) rfl ?_
    refine r_iload_n (pc' := 91) (kX11_isHere_0 48 rfl) rfl rfl ?_
    have g2 := h.1
    have h := h.2
    refine r_iadd (pc' := 92) (kX11_isHere_0 49 rfl) rfl g2 ?_
    have g3 := h.1
    have h := h.2
    refine s_iald (x := (α 199 ((φ 11 2 198) + x3))) (pc' := 93) (kX11_isHere_0 50 rfl) rfl (kz199 Ln) g3 rfl ?_
    refine r_aload_n (pc' := 94) (kX11_isHere_0 51 rfl) rfl rfl ?_
    refine r_iload_n (pc' := 95) (kX11_isHere_0 52 rfl) rfl rfl ?_
    have g4 := h.1
    have h := h.2
    refine s_cald (x := (α x1 x3)) (pc' := 96) (kX11_isHere_0 53 rfl) rfl (hx1 Ln) g4 rfl ?_
    refine r_icmp_eq (t := 101) (pc' := 99) (kX11_isHere_0 54 rfl) rfl rfl (fun c5 => ?_) (fun c5 => ?_)
    · have h := h.1 c5
      have g6 := h.1
      have h := h.2
      refine r_iinc (L' := [(2, 198), (2, x1), (9, 0), (0, (x3 + 1))]) (pc' := 104) (kX11_isHere_0 57 rfl) rfl (Nat.le_of_ble_eq_true rfl) rfl g6 rfl ?_
      refine r_goto (pc' := 76) (kX11_isHere_0 58 rfl) rfl ?_
      exact r_weak (L' := [(2, 198), (2, x1), (9, 0), (0, (x3 + 1))]) ⟨Or.inl rfl, Or.inl rfl, Or.inr (by decide), Or.inl rfl, trivial⟩ (h Ln)
    · have h := h.2 c5
      refine r_iconst 0 (pc' := 100) (kX11_isHere_0 55 rfl) rfl (by unfold inR; omega) ?_
      exact s_zret (kX11_isHere_0 56 rfl) rfl (Or.inl rfl) h
theorem vX11_takes_0 {d : Nat} {φ : aF} {α : aA} {Q : Int → aF → aA → Prop} {x1 : Int} {nx1 : Nat} (hx1 : isCA x1 nx1) (h : (eX11_isHere d x1 φ α (fun r1 φ1 α1 =>
   ((¬ r1 = 0 →
   inR ((φ1 11 2 198) + (nx1 : Int)) ∧ (Q 1 (upf (upf φ1 11 2 198 ((φ1 11 2 198) + (nx1 : Int))) 11 4 198 ((φ1 11 2 198) + (nx1 : Int))) α1)) ∧
   (r1 = 0 →
   (Q 0 φ1 α1)))))) : eX11_takes (d + 1) x1 φ α Q := by
  intro Ln
  refine r_aload_n (pc' := 1) (kX11_takes_0 0 rfl) rfl rfl ?_
  refine r_aload_n (pc' := 2) (kX11_takes_0 1 rfl) rfl rfl ?_
  refine s_callV (As := [(2, x1)]) (o := 198) (S := []) (S2 := fun z => [(0, z)]) (pc' := 5) (kX11_takes_0 2 rfl) rfl rfl nkX11_isHere mlX11_250 imX11_isHere rfl slX11_isHere rfl (Nat.le_of_ble_eq_true rfl) (Nat.le_of_ble_eq_true rfl) (kz198 Ln) h (fun z => rfl) (fun r1 φ1 α1 h => ?_)
  refine r_if_ne (t := 10) (pc' := 8) (kX11_takes_0 3 rfl) rfl rfl (fun c2 => ?_) (fun c2 => ?_)
  · have h := h.1 c2
    refine r_aload_n (pc' := 11) (kX11_takes_0 6 rfl) rfl rfl ?_
    refine r_dup (pc' := 12) (kX11_takes_0 7 rfl) rfl rfl ?_
    refine s_get (x := (φ1 11 2 198)) (pc' := 15) (kX11_takes_0 8 rfl) rfl fkX11_233 rfl rfl rfl (kz198 Ln) rfl ?_
    refine r_aload_n (pc' := 16) (kX11_takes_0 9 rfl) rfl rfl ?_
    refine s_alen (pc' := 17) (kX11_takes_0 10 rfl) rfl (hx1 Ln) ⟨by decide, by decide⟩ ?_
    have g3 := h.1
    have h := h.2
    refine r_iadd (pc' := 18) (kX11_takes_0 11 rfl) rfl g3 ?_
    refine s_put (pc' := 21) (kX11_takes_0 12 rfl) rfl fkX11_233 fnX11_2 rfl pk_int (kz198 Ln) ?_
    refine r_aload_n (pc' := 22) (kX11_takes_0 13 rfl) rfl rfl ?_
    refine r_aload_n (pc' := 23) (kX11_takes_0 14 rfl) rfl rfl ?_
    refine s_get (x := ((φ1 11 2 198) + (nx1 : Int))) (pc' := 26) (kX11_takes_0 15 rfl) rfl fkX11_233 rfl rfl rfl (kz198 Ln) (by simp [upf]) ?_
    refine s_put (pc' := 29) (kX11_takes_0 16 rfl) rfl fkX11_247 fnX11_4 rfl pk_int (kz198 Ln) ?_
    refine r_iconst 1 (pc' := 30) (kX11_takes_0 17 rfl) rfl (by unfold inR; omega) ?_
    exact s_zret (kX11_takes_0 18 rfl) rfl (Or.inr rfl) h
  · have h := h.2 c2
    refine r_iconst 0 (pc' := 9) (kX11_takes_0 4 rfl) rfl (by unfold inR; omega) ?_
    exact s_zret (kX11_takes_0 5 rfl) rfl (Or.inl rfl) h
theorem vX11_asks_0 {d : Nat} {φ : aF} {α : aA} {Q : Int → aF → aA → Prop} {x1 : Int} {nx1 : Nat} (hx1 : isCA x1 nx1) (h : ((¬ (φ 11 5 198) = 0 →
   (Q 0 φ α)) ∧
   ((φ 11 5 198) = 0 →
   (eX11_takes d x1 φ α (fun r2 φ2 α2 =>
     ((¬ r2 = 0 →
     (Q 0 φ2 α2)) ∧
     (r2 = 0 →
     (eX11_fail d 1 (φ2 11 2 198) φ2 α2 (fun r4 φ4 α4 =>
       (Q 0 φ4 α4)))))))))) : eX11_asks (d + 1) x1 φ α Q := by
  intro Ln
  refine r_aload_n (pc' := 1) (kX11_asks_0 0 rfl) rfl rfl ?_
  refine s_get (x := (φ 11 5 198)) (pc' := 4) (kX11_asks_0 1 rfl) rfl fkX11_227 rfl rfl rfl (kz198 Ln) rfl ?_
  refine r_if_ne (t := 24) (pc' := 7) (kX11_asks_0 2 rfl) rfl rfl (fun c1 => ?_) (fun c1 => ?_)
  · have h := h.1 c1
    exact s_vret (kX11_asks_0 12 rfl) rfl h
  · have h := h.2 c1
    refine r_aload_n (pc' := 8) (kX11_asks_0 3 rfl) rfl rfl ?_
    refine r_aload_n (pc' := 9) (kX11_asks_0 4 rfl) rfl rfl ?_
    refine s_callV (As := [(2, x1)]) (o := 198) (S := []) (S2 := fun z => [(0, z)]) (pc' := 12) (kX11_asks_0 5 rfl) rfl rfl nkX11_takes mlX11_254 imX11_takes rfl slX11_takes rfl (Nat.le_of_ble_eq_true rfl) (Nat.le_of_ble_eq_true rfl) (kz198 Ln) h (fun z => rfl) (fun r2 φ2 α2 h => ?_)
    refine r_if_ne (t := 24) (pc' := 15) (kX11_asks_0 6 rfl) rfl rfl (fun c3 => ?_) (fun c3 => ?_)
    · have h := h.1 c3
      exact s_vret (kX11_asks_0 12 rfl) rfl h
    · have h := h.2 c3
      refine r_aload_n (pc' := 16) (kX11_asks_0 7 rfl) rfl rfl ?_
      refine r_iconst 1 (pc' := 17) (kX11_asks_0 8 rfl) rfl (by unfold inR; omega) ?_
      refine r_aload_n (pc' := 18) (kX11_asks_0 9 rfl) rfl rfl ?_
      refine s_get (x := (φ2 11 2 198)) (pc' := 21) (kX11_asks_0 10 rfl) rfl fkX11_233 rfl rfl rfl (kz198 Ln) rfl ?_
      refine s_callV (As := [(0, 1), (0, (φ2 11 2 198))]) (o := 198) (S := []) (S2 := fun z => []) (pc' := 24) (kX11_asks_0 11 rfl) rfl rfl nkX11_fail mlX11_257 imX11_fail rfl slX11_fail rfl (Nat.le_of_ble_eq_true rfl) (Nat.le_of_ble_eq_true rfl) (kz198 Ln) h (fun z => rfl) (fun r4 φ4 α4 h => ?_)
      exact s_vret (kX11_asks_0 12 rfl) rfl h
theorem vX11_takesSign_0 {d : Nat} {φ : aF} {α : aA} {Q : Int → aF → aA → Prop} {x1 : Int} (h : ((¬ (φ 11 5 198) = 0 →
   (Q 0 φ α)) ∧
   ((φ 11 5 198) = 0 →
   (eX11_look d  φ α (fun r2 φ2 α2 =>
     ((r2 = x1 →
     inR ((φ2 11 2 198) + 1) ∧ (Q 1 (upf φ2 11 2 198 ((φ2 11 2 198) + 1)) α2)) ∧
     (¬ (r2 = x1) →
     (Q 0 φ2 α2)))))))) : eX11_takesSign (d + 1) x1 φ α Q := by
  intro Ln
  refine r_aload_n (pc' := 1) (kX11_takesSign_0 0 rfl) rfl rfl ?_
  refine s_get (x := (φ 11 5 198)) (pc' := 4) (kX11_takesSign_0 1 rfl) rfl fkX11_227 rfl rfl rfl (kz198 Ln) rfl ?_
  refine r_if_ne (t := 15) (pc' := 7) (kX11_takesSign_0 2 rfl) rfl rfl (fun c1 => ?_) (fun c1 => ?_)
  · have h := h.1 c1
    refine r_iconst 0 (pc' := 16) (kX11_takesSign_0 7 rfl) rfl (by unfold inR; omega) ?_
    exact s_zret (kX11_takesSign_0 8 rfl) rfl (Or.inl rfl) h
  · have h := h.2 c1
    refine r_aload_n (pc' := 8) (kX11_takesSign_0 3 rfl) rfl rfl ?_
    refine s_callV (As := []) (o := 198) (S := []) (S2 := fun z => [(0, z)]) (pc' := 11) (kX11_takesSign_0 4 rfl) rfl rfl nkX11_look mlX11_239 imX11_look rfl slX11_look rfl (Nat.le_of_ble_eq_true rfl) (Nat.le_of_ble_eq_true rfl) (kz198 Ln) h (fun z => rfl) (fun r2 φ2 α2 h => ?_)
    refine r_iload_n (pc' := 12) (kX11_takesSign_0 5 rfl) rfl rfl ?_
    refine r_icmp_eq (t := 17) (pc' := 15) (kX11_takesSign_0 6 rfl) rfl rfl (fun c3 => ?_) (fun c3 => ?_)
    · have h := h.1 c3
      refine r_aload_n (pc' := 18) (kX11_takesSign_0 9 rfl) rfl rfl ?_
      refine r_dup (pc' := 19) (kX11_takesSign_0 10 rfl) rfl rfl ?_
      refine s_get (x := (φ2 11 2 198)) (pc' := 22) (kX11_takesSign_0 11 rfl) rfl fkX11_233 rfl rfl rfl (kz198 Ln) rfl ?_
      refine r_iconst 1 (pc' := 23) (kX11_takesSign_0 12 rfl) rfl (by unfold inR; omega) ?_
      have g4 := h.1
      have h := h.2
      refine r_iadd (pc' := 24) (kX11_takesSign_0 13 rfl) rfl g4 ?_
      refine s_put (pc' := 27) (kX11_takesSign_0 14 rfl) rfl fkX11_233 fnX11_2 rfl pk_int (kz198 Ln) ?_
      refine r_iconst 1 (pc' := 28) (kX11_takesSign_0 15 rfl) rfl (by unfold inR; omega) ?_
      exact s_zret (kX11_takesSign_0 16 rfl) rfl (Or.inr rfl) h
    · have h := h.2 c3
      refine r_iconst 0 (pc' := 16) (kX11_takesSign_0 7 rfl) rfl (by unfold inR; omega) ?_
      exact s_zret (kX11_takesSign_0 8 rfl) rfl (Or.inl rfl) h
theorem vX11_asksSign_0 {d : Nat} {φ : aF} {α : aA} {Q : Int → aF → aA → Prop} {x1 : Int} (h : ((¬ (φ 11 5 198) = 0 →
   (Q 0 φ α)) ∧
   ((φ 11 5 198) = 0 →
   (eX11_takesSign d x1 φ α (fun r2 φ2 α2 =>
     ((¬ r2 = 0 →
     (Q 0 φ2 α2)) ∧
     (r2 = 0 →
     (eX11_fail d 1 (φ2 11 2 198) φ2 α2 (fun r4 φ4 α4 =>
       (Q 0 φ4 α4)))))))))) : eX11_asksSign (d + 1) x1 φ α Q := by
  intro Ln
  refine r_aload_n (pc' := 1) (kX11_asksSign_0 0 rfl) rfl rfl ?_
  refine s_get (x := (φ 11 5 198)) (pc' := 4) (kX11_asksSign_0 1 rfl) rfl fkX11_227 rfl rfl rfl (kz198 Ln) rfl ?_
  refine r_if_ne (t := 24) (pc' := 7) (kX11_asksSign_0 2 rfl) rfl rfl (fun c1 => ?_) (fun c1 => ?_)
  · have h := h.1 c1
    exact s_vret (kX11_asksSign_0 12 rfl) rfl h
  · have h := h.2 c1
    refine r_aload_n (pc' := 8) (kX11_asksSign_0 3 rfl) rfl rfl ?_
    refine r_iload_n (pc' := 9) (kX11_asksSign_0 4 rfl) rfl rfl ?_
    refine s_callV (As := [(0, x1)]) (o := 198) (S := []) (S2 := fun z => [(0, z)]) (pc' := 12) (kX11_asksSign_0 5 rfl) rfl rfl nkX11_takesSign mlX11_261 imX11_takesSign rfl slX11_takesSign rfl (Nat.le_of_ble_eq_true rfl) (Nat.le_of_ble_eq_true rfl) (kz198 Ln) h (fun z => rfl) (fun r2 φ2 α2 h => ?_)
    refine r_if_ne (t := 24) (pc' := 15) (kX11_asksSign_0 6 rfl) rfl rfl (fun c3 => ?_) (fun c3 => ?_)
    · have h := h.1 c3
      exact s_vret (kX11_asksSign_0 12 rfl) rfl h
    · have h := h.2 c3
      refine r_aload_n (pc' := 16) (kX11_asksSign_0 7 rfl) rfl rfl ?_
      refine r_iconst 1 (pc' := 17) (kX11_asksSign_0 8 rfl) rfl (by unfold inR; omega) ?_
      refine r_aload_n (pc' := 18) (kX11_asksSign_0 9 rfl) rfl rfl ?_
      refine s_get (x := (φ2 11 2 198)) (pc' := 21) (kX11_asksSign_0 10 rfl) rfl fkX11_233 rfl rfl rfl (kz198 Ln) rfl ?_
      refine s_callV (As := [(0, 1), (0, (φ2 11 2 198))]) (o := 198) (S := []) (S2 := fun z => []) (pc' := 24) (kX11_asksSign_0 11 rfl) rfl rfl nkX11_fail mlX11_257 imX11_fail rfl slX11_fail rfl (Nat.le_of_ble_eq_true rfl) (Nat.le_of_ble_eq_true rfl) (kz198 Ln) h (fun z => rfl) (fun r4 φ4 α4 h => ?_)
      exact s_vret (kX11_asksSign_0 12 rfl) rfl h
abbrev jX11_number_49 (d : Nat) (x1 x2 x3 x4 : Int) (φ : aF) (α : aA) (Q : Int → aF → aA → Prop) : Prop := R0 d mX11_number 49 [(2, 198), (0, x1), (0, x2), (0, x3), (0, x4)] [] φ α Q
theorem vX11_number_0 {d : Nat} {φ : aF} {α : aA} {Q : Int → aF → aA → Prop} {x1 : Int} {x2 : Int} (h : (((φ 11 5 198) = 0 →
   (eX11_look d  φ α (fun r2 φ2 α2 =>
     (eX11_isDigit d r2 φ2 α2 (fun r3 φ3 α3 =>
     ((r3 = 0 →
     (eX11_fail d 1 (φ3 11 2 198) φ3 α3 (fun r5 φ5 α5 =>
       (Q 0 φ5 α5)))) ∧
     (¬ (r3 = 0) →
     ((¬ (φ3 11 2 198) = (φ3 11 4 198) →
       (jX11_number_49 (d + 1) x1 x2 (φ3 11 2 198) 0 φ3 α3 Q)) ∧
       ((φ3 11 2 198) = (φ3 11 4 198) →
       (eX11_fail d 1 (φ3 11 2 198) φ3 α3 (fun r7 φ7 α7 =>
         (Q 0 φ7 α7)))))))))))) ∧
   (¬ ((φ 11 5 198) = 0) →
   (Q 0 φ α)))) : eX11_number (d + 1) x1 x2 φ α Q := by
  intro Ln
  refine r_aload_n (pc' := 1) (kX11_number_0 0 rfl) rfl rfl ?_
  refine s_get (x := (φ 11 5 198)) (pc' := 4) (kX11_number_0 1 rfl) rfl fkX11_227 rfl rfl rfl (kz198 Ln) rfl ?_
  refine r_if_eq (t := 9) (pc' := 7) (kX11_number_0 2 rfl) rfl rfl (fun c1 => ?_) (fun c1 => ?_)
  · have h := h.1 c1
    refine r_aload_n (pc' := 10) (kX11_number_0 5 rfl) rfl rfl ?_
    refine s_callV (As := []) (o := 198) (S := []) (S2 := fun z => [(0, z)]) (pc' := 13) (kX11_number_0 6 rfl) rfl rfl nkX11_look mlX11_239 imX11_look rfl slX11_look rfl (Nat.le_of_ble_eq_true rfl) (Nat.le_of_ble_eq_true rfl) (kz198 Ln) h (fun z => rfl) (fun r2 φ2 α2 h => ?_)
    refine s_callS (As := [(0, r2)]) (S := []) (S2 := fun z => [(0, z)]) (pc' := 16) (kX11_number_0 7 rfl) rfl rfl nkX11_isDigit mlX11_264 scX11_isDigit rfl (Nat.le_of_ble_eq_true rfl) (Nat.le_of_ble_eq_true rfl) h (fun z => rfl) (fun r3 φ3 α3 h => ?_)
    refine r_if_eq (t := 30) (pc' := 19) (kX11_number_0 8 rfl) rfl rfl (fun c4 => ?_) (fun c4 => ?_)
    · have h := h.1 c4
      refine r_aload_n (pc' := 31) (kX11_number_0 14 rfl) rfl rfl ?_
      refine r_iconst 1 (pc' := 32) (kX11_number_0 15 rfl) rfl (by unfold inR; omega) ?_
      refine r_aload_n (pc' := 33) (kX11_number_0 16 rfl) rfl rfl ?_
      refine s_get (x := (φ3 11 2 198)) (pc' := 36) (kX11_number_0 17 rfl) rfl fkX11_233 rfl rfl rfl (kz198 Ln) rfl ?_
      refine s_callV (As := [(0, 1), (0, (φ3 11 2 198))]) (o := 198) (S := []) (S2 := fun z => []) (pc' := 39) (kX11_number_0 18 rfl) rfl rfl nkX11_fail mlX11_257 imX11_fail rfl slX11_fail rfl (Nat.le_of_ble_eq_true rfl) (Nat.le_of_ble_eq_true rfl) (kz198 Ln) h (fun z => rfl) (fun r5 φ5 α5 h => ?_)
      refine r_iconst 0 (pc' := 40) (kX11_number_0 19 rfl) rfl (by unfold inR; omega) ?_
      exact s_iret (kX11_number_0 20 rfl) rfl h
    · have h := h.2 c4
      refine r_aload_n (pc' := 20) (kX11_number_0 9 rfl) rfl rfl ?_
      refine s_get (x := (φ3 11 2 198)) (pc' := 23) (kX11_number_0 10 rfl) rfl fkX11_233 rfl rfl rfl (kz198 Ln) rfl ?_
      refine r_aload_n (pc' := 24) (kX11_number_0 11 rfl) rfl rfl ?_
      refine s_get (x := (φ3 11 4 198)) (pc' := 27) (kX11_number_0 12 rfl) rfl fkX11_247 rfl rfl rfl (kz198 Ln) rfl ?_
      refine r_icmp_ne (t := 41) (pc' := 30) (kX11_number_0 13 rfl) rfl rfl (fun c6 => ?_) (fun c6 => ?_)
      · have h := h.1 c6
        refine r_aload_n (pc' := 42) (kX11_number_0 21 rfl) rfl rfl ?_
        refine s_get (x := (φ3 11 2 198)) (pc' := 45) (kX11_number_0 22 rfl) rfl fkX11_233 rfl rfl rfl (kz198 Ln) rfl ?_
        refine r_istore_n (L' := [(2, 198), (0, x1), (0, x2), (0, (φ3 11 2 198)), (9, 0)]) (pc' := 46) (kX11_number_0 23 rfl) rfl (Nat.le_of_ble_eq_true rfl) rfl ?_
        refine r_iconst 0 (pc' := 47) (kX11_number_0 24 rfl) rfl (by unfold inR; omega) ?_
        refine r_istore (L' := [(2, 198), (0, x1), (0, x2), (0, (φ3 11 2 198)), (0, 0)]) (pc' := 49) (kX11_number_0 25 rfl) rfl (Nat.le_of_ble_eq_true rfl) rfl ?_
        exact r_weak (L' := [(2, 198), (0, x1), (0, x2), (0, (φ3 11 2 198)), (0, 0)]) ⟨Or.inl rfl, Or.inl rfl, Or.inl rfl, Or.inl rfl, Or.inl rfl, trivial⟩ (h Ln)
      · have h := h.2 c6
        refine r_aload_n (pc' := 31) (kX11_number_0 14 rfl) rfl rfl ?_
        refine r_iconst 1 (pc' := 32) (kX11_number_0 15 rfl) rfl (by unfold inR; omega) ?_
        refine r_aload_n (pc' := 33) (kX11_number_0 16 rfl) rfl rfl ?_
        refine s_get (x := (φ3 11 2 198)) (pc' := 36) (kX11_number_0 17 rfl) rfl fkX11_233 rfl rfl rfl (kz198 Ln) rfl ?_
        refine s_callV (As := [(0, 1), (0, (φ3 11 2 198))]) (o := 198) (S := []) (S2 := fun z => []) (pc' := 39) (kX11_number_0 18 rfl) rfl rfl nkX11_fail mlX11_257 imX11_fail rfl slX11_fail rfl (Nat.le_of_ble_eq_true rfl) (Nat.le_of_ble_eq_true rfl) (kz198 Ln) h (fun z => rfl) (fun r7 φ7 α7 h => ?_)
        refine r_iconst 0 (pc' := 40) (kX11_number_0 19 rfl) rfl (by unfold inR; omega) ?_
        exact s_iret (kX11_number_0 20 rfl) rfl h
  · have h := h.2 c1
    refine r_iconst 0 (pc' := 8) (kX11_number_0 3 rfl) rfl (by unfold inR; omega) ?_
    exact s_iret (kX11_number_0 4 rfl) rfl h
theorem vX11_number_49 {d : Nat} {φ : aF} {α : aA} {Q : Int → aF → aA → Prop} {x1 : Int} {x2 : Int} {x3 : Int} {x4 : Int} (h : (((φ 11 3 198) ≤ (φ 11 2 198) →
   (eX11_isIn d x4 x1 x2 (upf (upf φ 11 4 198 (φ 11 2 198)) 11 10 198 x3) α (fun r2 φ2 α2 =>
     ((¬ r2 = 0 →
     (Q x4 φ2 α2)) ∧
     (r2 = 0 →
     (eX11_fail d 2 x3 φ2 α2 (fun r4 φ4 α4 =>
       (Q x4 φ4 α4)))))))) ∧
   (¬ ((φ 11 3 198) ≤ (φ 11 2 198)) →
   (0 ≤ (φ 11 2 198) ∧ (φ 11 2 198) < (1600 : Nat)) ∧ (eX11_isDigit d (α 199 (φ 11 2 198)) φ α (fun r6 φ6 α6 =>
     ((r6 = 0 →
     (eX11_isIn d x4 x1 x2 (upf (upf φ6 11 4 198 (φ6 11 2 198)) 11 10 198 x3) α6 (fun r8 φ8 α8 =>
       ((¬ r8 = 0 →
       (Q x4 φ8 α8)) ∧
       (r8 = 0 →
       (eX11_fail d 2 x3 φ8 α8 (fun r10 φ10 α10 =>
         (Q x4 φ10 α10)))))))) ∧
     (¬ (r6 = 0) →
     inR ((φ6 11 2 198) - x3) ∧ ((¬ ((φ6 11 2 198) - x3) = 4 →
       inR (10 * x4) ∧ (0 ≤ (φ6 11 2 198) ∧ (φ6 11 2 198) < (1600 : Nat)) ∧ inR ((10 * x4) + (α6 199 (φ6 11 2 198))) ∧ inR (((10 * x4) + (α6 199 (φ6 11 2 198))) - 48) ∧ inR ((φ6 11 2 198) + 1) ∧ (jX11_number_49 (d + 1) x1 x2 x3 (((10 * x4) + (α6 199 (φ6 11 2 198))) - 48) (upf φ6 11 2 198 ((φ6 11 2 198) + 1)) α6 Q)) ∧
       (((φ6 11 2 198) - x3) = 4 →
       (eX11_fail d 1 (φ6 11 2 198) φ6 α6 (fun r18 φ18 α18 =>
         (Q 0 φ18 α18)))))))))))) : jX11_number_49 (d + 1) x1 x2 x3 x4 φ α Q := by
  intro Ln
  refine r_aload_n (pc' := 50) (kX11_number_0 26 rfl) rfl rfl ?_
  refine s_get (x := (φ 11 2 198)) (pc' := 53) (kX11_number_0 27 rfl) rfl fkX11_233 rfl rfl rfl (kz198 Ln) rfl ?_
  refine r_aload_n (pc' := 54) (kX11_number_0 28 rfl) rfl rfl ?_
  refine s_get (x := (φ 11 3 198)) (pc' := 57) (kX11_number_0 29 rfl) rfl fkX11_236 rfl rfl rfl (kz198 Ln) rfl ?_
  refine r_icmp_ge (t := 129) (pc' := 60) (kX11_number_0 30 rfl) rfl rfl (fun c1 => ?_) (fun c1 => ?_)
  · have h := h.1 c1
    refine r_aload_n (pc' := 130) (kX11_number_1 10 rfl) rfl rfl ?_
    refine r_aload_n (pc' := 131) (kX11_number_1 11 rfl) rfl rfl ?_
    refine s_get (x := (φ 11 2 198)) (pc' := 134) (kX11_number_1 12 rfl) rfl fkX11_233 rfl rfl rfl (kz198 Ln) rfl ?_
    refine s_put (pc' := 137) (kX11_number_1 13 rfl) rfl fkX11_247 fnX11_4 rfl pk_int (kz198 Ln) ?_
    refine r_aload_n (pc' := 138) (kX11_number_1 14 rfl) rfl rfl ?_
    refine r_iload_n (pc' := 139) (kX11_number_1 15 rfl) rfl rfl ?_
    refine s_put (pc' := 142) (kX11_number_1 16 rfl) rfl fkX11_267 fnX11_10 rfl pk_int (kz198 Ln) ?_
    refine r_iload (pc' := 144) (kX11_number_1 17 rfl) rfl rfl ?_
    refine r_i2l (pc' := 145) (kX11_number_1 18 rfl) rfl ?_
    refine r_iload_n (pc' := 146) (kX11_number_1 19 rfl) rfl rfl ?_
    refine r_i2l (pc' := 147) (kX11_number_1 20 rfl) rfl ?_
    refine r_iload_n (pc' := 148) (kX11_number_1 21 rfl) rfl rfl ?_
    refine r_i2l (pc' := 149) (kX11_number_1 22 rfl) rfl ?_
    refine s_callS (As := [(1, x4), (1, x1), (1, x2)]) (S := []) (S2 := fun z => [(0, z)]) (pc' := 152) (kX11_number_1 23 rfl) rfl rfl nkX11_isIn mlX11_270 scX11_isIn rfl (Nat.le_of_ble_eq_true rfl) (Nat.le_of_ble_eq_true rfl) h (fun z => rfl) (fun r2 φ2 α2 h => ?_)
    refine r_if_ne (t := 161) (pc' := 155) (kX11_number_1 24 rfl) rfl rfl (fun c3 => ?_) (fun c3 => ?_)
    · have h := h.1 c3
      refine r_iload (pc' := 163) (kX11_number_1 29 rfl) rfl rfl ?_
      exact s_iret (kX11_number_1 30 rfl) rfl h
    · have h := h.2 c3
      refine r_aload_n (pc' := 156) (kX11_number_1 25 rfl) rfl rfl ?_
      refine r_iconst 2 (pc' := 157) (kX11_number_1 26 rfl) rfl (by unfold inR; omega) ?_
      refine r_iload_n (pc' := 158) (kX11_number_1 27 rfl) rfl rfl ?_
      refine s_callV (As := [(0, 2), (0, x3)]) (o := 198) (S := []) (S2 := fun z => []) (pc' := 161) (kX11_number_1 28 rfl) rfl rfl nkX11_fail mlX11_257 imX11_fail rfl slX11_fail rfl (Nat.le_of_ble_eq_true rfl) (Nat.le_of_ble_eq_true rfl) (kz198 Ln) h (fun z => rfl) (fun r4 φ4 α4 h => ?_)
      refine r_iload (pc' := 163) (kX11_number_1 29 rfl) rfl rfl ?_
      exact s_iret (kX11_number_1 30 rfl) rfl h
  · have h := h.2 c1
    refine r_aload_n (pc' := 61) (kX11_number_0 31 rfl) rfl rfl ?_
    refine s_getr (v := 199) (pc' := 64) (kX11_number_0 32 rfl) rfl fkX11_7 rfl rfl (kz198 Ln) rfl (by decide) ?_
    refine r_aload_n (pc' := 65) (kX11_number_0 33 rfl) rfl rfl ?_
    refine s_get (x := (φ 11 2 198)) (pc' := 68) (kX11_number_0 34 rfl) rfl fkX11_233 rfl rfl rfl (kz198 Ln) rfl ?_
    have g5 := h.1
    have h := h.2
    refine s_iald (x := (α 199 (φ 11 2 198))) (pc' := 69) (kX11_number_0 35 rfl) rfl (kz199 Ln) g5 rfl ?_
    refine s_callS (As := [(0, (α 199 (φ 11 2 198)))]) (S := []) (S2 := fun z => [(0, z)]) (pc' := 72) (kX11_number_0 36 rfl) rfl rfl nkX11_isDigit mlX11_264 scX11_isDigit rfl (Nat.le_of_ble_eq_true rfl) (Nat.le_of_ble_eq_true rfl) h (fun z => rfl) (fun r6 φ6 α6 h => ?_)
    refine r_if_eq (t := 129) (pc' := 75) (kX11_number_0 37 rfl) rfl rfl (fun c7 => ?_) (fun c7 => ?_)
    · have h := h.1 c7
      refine r_aload_n (pc' := 130) (kX11_number_1 10 rfl) rfl rfl ?_
      refine r_aload_n (pc' := 131) (kX11_number_1 11 rfl) rfl rfl ?_
      refine s_get (x := (φ6 11 2 198)) (pc' := 134) (kX11_number_1 12 rfl) rfl fkX11_233 rfl rfl rfl (kz198 Ln) rfl ?_
      refine s_put (pc' := 137) (kX11_number_1 13 rfl) rfl fkX11_247 fnX11_4 rfl pk_int (kz198 Ln) ?_
      refine r_aload_n (pc' := 138) (kX11_number_1 14 rfl) rfl rfl ?_
      refine r_iload_n (pc' := 139) (kX11_number_1 15 rfl) rfl rfl ?_
      refine s_put (pc' := 142) (kX11_number_1 16 rfl) rfl fkX11_267 fnX11_10 rfl pk_int (kz198 Ln) ?_
      refine r_iload (pc' := 144) (kX11_number_1 17 rfl) rfl rfl ?_
      refine r_i2l (pc' := 145) (kX11_number_1 18 rfl) rfl ?_
      refine r_iload_n (pc' := 146) (kX11_number_1 19 rfl) rfl rfl ?_
      refine r_i2l (pc' := 147) (kX11_number_1 20 rfl) rfl ?_
      refine r_iload_n (pc' := 148) (kX11_number_1 21 rfl) rfl rfl ?_
      refine r_i2l (pc' := 149) (kX11_number_1 22 rfl) rfl ?_
      refine s_callS (As := [(1, x4), (1, x1), (1, x2)]) (S := []) (S2 := fun z => [(0, z)]) (pc' := 152) (kX11_number_1 23 rfl) rfl rfl nkX11_isIn mlX11_270 scX11_isIn rfl (Nat.le_of_ble_eq_true rfl) (Nat.le_of_ble_eq_true rfl) h (fun z => rfl) (fun r8 φ8 α8 h => ?_)
      refine r_if_ne (t := 161) (pc' := 155) (kX11_number_1 24 rfl) rfl rfl (fun c9 => ?_) (fun c9 => ?_)
      · have h := h.1 c9
        refine r_iload (pc' := 163) (kX11_number_1 29 rfl) rfl rfl ?_
        exact s_iret (kX11_number_1 30 rfl) rfl h
      · have h := h.2 c9
        refine r_aload_n (pc' := 156) (kX11_number_1 25 rfl) rfl rfl ?_
        refine r_iconst 2 (pc' := 157) (kX11_number_1 26 rfl) rfl (by unfold inR; omega) ?_
        refine r_iload_n (pc' := 158) (kX11_number_1 27 rfl) rfl rfl ?_
        refine s_callV (As := [(0, 2), (0, x3)]) (o := 198) (S := []) (S2 := fun z => []) (pc' := 161) (kX11_number_1 28 rfl) rfl rfl nkX11_fail mlX11_257 imX11_fail rfl slX11_fail rfl (Nat.le_of_ble_eq_true rfl) (Nat.le_of_ble_eq_true rfl) (kz198 Ln) h (fun z => rfl) (fun r10 φ10 α10 h => ?_)
        refine r_iload (pc' := 163) (kX11_number_1 29 rfl) rfl rfl ?_
        exact s_iret (kX11_number_1 30 rfl) rfl h
    · have h := h.2 c7
      refine r_aload_n (pc' := 76) (kX11_number_0 38 rfl) rfl rfl ?_
      refine s_get (x := (φ6 11 2 198)) (pc' := 79) (kX11_number_0 39 rfl) rfl fkX11_233 rfl rfl rfl (kz198 Ln) rfl ?_
      refine r_iload_n (pc' := 80) (kX11_number_0 40 rfl) rfl rfl ?_
      have g11 := h.1
      have h := h.2
      refine r_isub (pc' := 81) (kX11_number_0 41 rfl) rfl g11 ?_
      refine r_iconst 4 (pc' := 82) (kX11_number_0 42 rfl) rfl (by unfold inR; omega) ?_
      refine r_icmp_ne (t := 96) (pc' := 85) (kX11_number_0 43 rfl) rfl rfl (fun c12 => ?_) (fun c12 => ?_)
      · have h := h.1 c12
        refine r_bipush 10 (pc' := 98) (kX11_number_0 51 rfl) rfl ⟨by unfold inR; omega, rfl⟩ ?_
        refine r_iload (pc' := 100) (kX11_number_0 52 rfl) rfl rfl ?_
        have g13 := h.1
        have h := h.2
        refine r_imul (pc' := 101) (kX11_number_0 53 rfl) rfl g13 ?_
        refine r_aload_n (pc' := 102) (kX11_number_0 54 rfl) rfl rfl ?_
        refine s_getr (v := 199) (pc' := 105) (kX11_number_0 55 rfl) rfl fkX11_7 rfl rfl (kz198 Ln) rfl (by decide) ?_
        refine r_aload_n (pc' := 106) (kX11_number_0 56 rfl) rfl rfl ?_
        refine s_get (x := (φ6 11 2 198)) (pc' := 109) (kX11_number_0 57 rfl) rfl fkX11_233 rfl rfl rfl (kz198 Ln) rfl ?_
        have g14 := h.1
        have h := h.2
        refine s_iald (x := (α6 199 (φ6 11 2 198))) (pc' := 110) (kX11_number_0 58 rfl) rfl (kz199 Ln) g14 rfl ?_
        have g15 := h.1
        have h := h.2
        refine r_iadd (pc' := 111) (kX11_number_0 59 rfl) rfl g15 ?_
        refine r_bipush 48 (pc' := 113) (kX11_number_1 0 rfl) rfl ⟨by unfold inR; omega, rfl⟩ ?_
        have g16 := h.1
        have h := h.2
        refine r_isub (pc' := 114) (kX11_number_1 1 rfl) rfl g16 ?_
        refine r_istore (L' := [(2, 198), (0, x1), (0, x2), (0, x3), (0, (((10 * x4) + (α6 199 (φ6 11 2 198))) - 48))]) (pc' := 116) (kX11_number_1 2 rfl) rfl (Nat.le_of_ble_eq_true rfl) rfl ?_
        refine r_aload_n (pc' := 117) (kX11_number_1 3 rfl) rfl rfl ?_
        refine r_dup (pc' := 118) (kX11_number_1 4 rfl) rfl rfl ?_
        refine s_get (x := (φ6 11 2 198)) (pc' := 121) (kX11_number_1 5 rfl) rfl fkX11_233 rfl rfl rfl (kz198 Ln) rfl ?_
        refine r_iconst 1 (pc' := 122) (kX11_number_1 6 rfl) rfl (by unfold inR; omega) ?_
        have g17 := h.1
        have h := h.2
        refine r_iadd (pc' := 123) (kX11_number_1 7 rfl) rfl g17 ?_
        refine s_put (pc' := 126) (kX11_number_1 8 rfl) rfl fkX11_233 fnX11_2 rfl pk_int (kz198 Ln) ?_
        refine r_goto (pc' := 49) (kX11_number_1 9 rfl) rfl ?_
        exact r_weak (L' := [(2, 198), (0, x1), (0, x2), (0, x3), (0, (((10 * x4) + (α6 199 (φ6 11 2 198))) - 48))]) ⟨Or.inl rfl, Or.inl rfl, Or.inl rfl, Or.inl rfl, Or.inl rfl, trivial⟩ (h Ln)
      · have h := h.2 c12
        refine r_aload_n (pc' := 86) (kX11_number_0 44 rfl) rfl rfl ?_
        refine r_iconst 1 (pc' := 87) (kX11_number_0 45 rfl) rfl (by unfold inR; omega) ?_
        refine r_aload_n (pc' := 88) (kX11_number_0 46 rfl) rfl rfl ?_
        refine s_get (x := (φ6 11 2 198)) (pc' := 91) (kX11_number_0 47 rfl) rfl fkX11_233 rfl rfl rfl (kz198 Ln) rfl ?_
        refine s_callV (As := [(0, 1), (0, (φ6 11 2 198))]) (o := 198) (S := []) (S2 := fun z => []) (pc' := 94) (kX11_number_0 48 rfl) rfl rfl nkX11_fail mlX11_257 imX11_fail rfl slX11_fail rfl (Nat.le_of_ble_eq_true rfl) (Nat.le_of_ble_eq_true rfl) (kz198 Ln) h (fun z => rfl) (fun r18 φ18 α18 h => ?_)
        refine r_iconst 0 (pc' := 95) (kX11_number_0 49 rfl) rfl (by unfold inR; omega) ?_
        exact s_iret (kX11_number_0 50 rfl) rfl h
theorem vX11_isOwnHere_0 {d : Nat} {φ : aF} {α : aA} {Q : Int → aF → aA → Prop} (h : (eX11_isHere d 201 φ α (fun r1 φ1 α1 =>
   ((¬ r1 = 0 →
   (Q 1 φ1 α1)) ∧
   (r1 = 0 →
   (eX11_isHere d 202 φ1 α1 (fun r3 φ3 α3 =>
     ((¬ r3 = 0 →
     (Q 1 φ3 α3)) ∧
     (r3 = 0 →
     (eX11_isHere d 203 φ3 α3 (fun r5 φ5 α5 =>
       ((¬ r5 = 0 →
       (Q 1 φ5 α5)) ∧
       (r5 = 0 →
       (eX11_isHere d 204 φ5 α5 (fun r7 φ7 α7 =>
         ((¬ r7 = 0 →
         (Q 1 φ7 α7)) ∧
         (r7 = 0 →
         (eX11_isHere d 205 φ7 α7 (fun r9 φ9 α9 =>
           ((¬ r9 = 0 →
           (Q 1 φ9 α9)) ∧
           (r9 = 0 →
           (eX11_isHere d 206 φ9 α9 (fun r11 φ11 α11 =>
             ((r11 = 0 →
             (eX11_isHere d 207 φ11 α11 (fun r13 φ13 α13 =>
               ((¬ r13 = 0 →
               (Q 1 φ13 α13)) ∧
               (r13 = 0 →
               (eX11_isHere d 208 φ13 α13 (fun r15 φ15 α15 =>
                 ((¬ r15 = 0 →
                 (Q 1 φ15 α15)) ∧
                 (r15 = 0 →
                 (eX11_isHere d 209 φ15 α15 (fun r17 φ17 α17 =>
                   ((¬ r17 = 0 →
                   (Q 1 φ17 α17)) ∧
                   (r17 = 0 →
                   (eX11_isHere d 210 φ17 α17 (fun r19 φ19 α19 =>
                     ((¬ r19 = 0 →
                     (Q 1 φ19 α19)) ∧
                     (r19 = 0 →
                     (eX11_isHere d 211 φ19 α19 (fun r21 φ21 α21 =>
                       ((¬ r21 = 0 →
                       (Q 1 φ21 α21)) ∧
                       (r21 = 0 →
                       (eX11_isHere d 212 φ21 α21 (fun r23 φ23 α23 =>
                         ((r23 = 0 →
                         (eX11_isHere d 213 φ23 α23 (fun r25 φ25 α25 =>
                           ((¬ r25 = 0 →
                           (Q 1 φ25 α25)) ∧
                           (r25 = 0 →
                           (eX11_isHere d 214 φ25 α25 (fun r27 φ27 α27 =>
                             ((¬ r27 = 0 →
                             (Q 1 φ27 α27)) ∧
                             (r27 = 0 →
                             (eX11_isHere d 215 φ27 α27 (fun r29 φ29 α29 =>
                               ((¬ r29 = 0 →
                               (Q 1 φ29 α29)) ∧
                               (r29 = 0 →
                               (eX11_isHere d 216 φ29 α29 (fun r31 φ31 α31 =>
                                 ((¬ r31 = 0 →
                                 (Q 1 φ31 α31)) ∧
                                 (r31 = 0 →
                                 (eX11_isHere d 217 φ31 α31 (fun r33 φ33 α33 =>
                                   ((¬ r33 = 0 →
                                   (Q 1 φ33 α33)) ∧
                                   (r33 = 0 →
                                   (eX11_isHere d 218 φ33 α33 (fun r35 φ35 α35 =>
                                     ((r35 = 0 →
                                     (eX11_isHere d 219 φ35 α35 (fun r37 φ37 α37 =>
                                       ((¬ r37 = 0 →
                                       (Q 1 φ37 α37)) ∧
                                       (r37 = 0 →
                                       (eX11_isHere d 220 φ37 α37 (fun r39 φ39 α39 =>
                                         ((¬ r39 = 0 →
                                         (Q 1 φ39 α39)) ∧
                                         (r39 = 0 →
                                         (eX11_isHere d 221 φ39 α39 (fun r41 φ41 α41 =>
                                           ((¬ r41 = 0 →
                                           (Q 1 φ41 α41)) ∧
                                           (r41 = 0 →
                                           (eX11_isHere d 222 φ41 α41 (fun r43 φ43 α43 =>
                                             ((¬ r43 = 0 →
                                             (Q 1 φ43 α43)) ∧
                                             (r43 = 0 →
                                             (eX11_isHere d 223 φ43 α43 (fun r45 φ45 α45 =>
                                               ((¬ r45 = 0 →
                                               (Q 1 φ45 α45)) ∧
                                               (r45 = 0 →
                                               (eX11_isHere d 224 φ45 α45 (fun r47 φ47 α47 =>
                                                 ((r47 = 0 →
                                                 (Q 0 φ47 α47)) ∧
                                                 (¬ (r47 = 0) →
                                                 (Q 1 φ47 α47)))))))))))))))))))))))))) ∧
                                     (¬ (r35 = 0) →
                                     (Q 1 φ35 α35)))))))))))))))))))))))))) ∧
                         (¬ (r23 = 0) →
                         (Q 1 φ23 α23)))))))))))))))))))))))))) ∧
             (¬ (r11 = 0) →
             (Q 1 φ11 α11)))))))))))))))))))))))))) : eX11_isOwnHere (d + 1)  φ α Q := by
  intro Ln
  refine r_aload_n (pc' := 1) (kX11_isOwnHere_0 0 rfl) rfl rfl ?_
  refine r_aload_n (pc' := 2) (kX11_isOwnHere_0 1 rfl) rfl rfl ?_
  refine s_getr (v := 201) (pc' := 5) (kX11_isOwnHere_0 2 rfl) rfl fkX11_20 rfl rfl (kz198 Ln) rfl (by decide) ?_
  refine s_callV (As := [(2, 201)]) (o := 198) (S := []) (S2 := fun z => [(0, z)]) (pc' := 8) (kX11_isOwnHere_0 3 rfl) rfl rfl nkX11_isHere mlX11_250 imX11_isHere rfl slX11_isHere rfl (Nat.le_of_ble_eq_true rfl) (Nat.le_of_ble_eq_true rfl) (kz198 Ln) h (fun z => rfl) (fun r1 φ1 α1 h => ?_)
  refine r_if_ne (t := 66) (pc' := 11) (kX11_isOwnHere_0 4 rfl) rfl rfl (fun c2 => ?_) (fun c2 => ?_)
  · have h := h.1 c2
    refine r_iconst 1 (pc' := 67) (kX11_isOwnHere_0 30 rfl) rfl (by unfold inR; omega) ?_
    refine r_goto (pc' := 71) (kX11_isOwnHere_0 31 rfl) rfl ?_
    refine r_istore_n (L' := [(2, 198), (0, 1)]) (pc' := 72) (kX11_isOwnHere_0 33 rfl) rfl (Nat.le_of_ble_eq_true rfl) rfl ?_
    refine r_iload_n (pc' := 73) (kX11_isOwnHere_0 34 rfl) rfl rfl ?_
    refine r_if_ne (t := 142) (pc' := 76) (kX11_isOwnHere_0 35 rfl) rfl rfl (fun _ => ?_) (fun cz => absurd cz (by decide))
    refine r_iconst 1 (pc' := 143) (kX11_isOwnHere_1 6 rfl) rfl (by unfold inR; omega) ?_
    refine r_goto (pc' := 147) (kX11_isOwnHere_1 7 rfl) rfl ?_
    refine r_istore_n (L' := [(2, 198), (0, 1)]) (pc' := 148) (kX11_isOwnHere_1 9 rfl) rfl (Nat.le_of_ble_eq_true rfl) rfl ?_
    refine r_iload_n (pc' := 149) (kX11_isOwnHere_1 10 rfl) rfl rfl ?_
    refine r_if_ne (t := 218) (pc' := 152) (kX11_isOwnHere_1 11 rfl) rfl rfl (fun _ => ?_) (fun cz => absurd cz (by decide))
    refine r_iconst 1 (pc' := 219) (kX11_isOwnHere_1 42 rfl) rfl (by unfold inR; omega) ?_
    refine r_goto (pc' := 223) (kX11_isOwnHere_1 43 rfl) rfl ?_
    refine r_istore_n (L' := [(2, 198), (0, 1)]) (pc' := 224) (kX11_isOwnHere_1 45 rfl) rfl (Nat.le_of_ble_eq_true rfl) rfl ?_
    refine r_iload_n (pc' := 225) (kX11_isOwnHere_1 46 rfl) rfl rfl ?_
    refine r_if_ne (t := 294) (pc' := 228) (kX11_isOwnHere_1 47 rfl) rfl rfl (fun _ => ?_) (fun cz => absurd cz (by decide))
    refine r_iconst 1 (pc' := 295) (kX11_isOwnHere_2 18 rfl) rfl (by unfold inR; omega) ?_
    refine r_goto (pc' := 299) (kX11_isOwnHere_2 19 rfl) rfl ?_
    refine r_istore_n (L' := [(2, 198), (0, 1)]) (pc' := 300) (kX11_isOwnHere_2 21 rfl) rfl (Nat.le_of_ble_eq_true rfl) rfl ?_
    refine r_iload_n (pc' := 301) (kX11_isOwnHere_2 22 rfl) rfl rfl ?_
    exact s_zret (kX11_isOwnHere_2 23 rfl) rfl (Or.inr rfl) h
  · have h := h.2 c2
    refine r_aload_n (pc' := 12) (kX11_isOwnHere_0 5 rfl) rfl rfl ?_
    refine r_aload_n (pc' := 13) (kX11_isOwnHere_0 6 rfl) rfl rfl ?_
    refine s_getr (v := 202) (pc' := 16) (kX11_isOwnHere_0 7 rfl) rfl fkX11_24 rfl rfl (kz198 Ln) rfl (by decide) ?_
    refine s_callV (As := [(2, 202)]) (o := 198) (S := []) (S2 := fun z => [(0, z)]) (pc' := 19) (kX11_isOwnHere_0 8 rfl) rfl rfl nkX11_isHere mlX11_250 imX11_isHere rfl slX11_isHere rfl (Nat.le_of_ble_eq_true rfl) (Nat.le_of_ble_eq_true rfl) (kz198 Ln) h (fun z => rfl) (fun r3 φ3 α3 h => ?_)
    refine r_if_ne (t := 66) (pc' := 22) (kX11_isOwnHere_0 9 rfl) rfl rfl (fun c4 => ?_) (fun c4 => ?_)
    · have h := h.1 c4
      refine r_iconst 1 (pc' := 67) (kX11_isOwnHere_0 30 rfl) rfl (by unfold inR; omega) ?_
      refine r_goto (pc' := 71) (kX11_isOwnHere_0 31 rfl) rfl ?_
      refine r_istore_n (L' := [(2, 198), (0, 1)]) (pc' := 72) (kX11_isOwnHere_0 33 rfl) rfl (Nat.le_of_ble_eq_true rfl) rfl ?_
      refine r_iload_n (pc' := 73) (kX11_isOwnHere_0 34 rfl) rfl rfl ?_
      refine r_if_ne (t := 142) (pc' := 76) (kX11_isOwnHere_0 35 rfl) rfl rfl (fun _ => ?_) (fun cz => absurd cz (by decide))
      refine r_iconst 1 (pc' := 143) (kX11_isOwnHere_1 6 rfl) rfl (by unfold inR; omega) ?_
      refine r_goto (pc' := 147) (kX11_isOwnHere_1 7 rfl) rfl ?_
      refine r_istore_n (L' := [(2, 198), (0, 1)]) (pc' := 148) (kX11_isOwnHere_1 9 rfl) rfl (Nat.le_of_ble_eq_true rfl) rfl ?_
      refine r_iload_n (pc' := 149) (kX11_isOwnHere_1 10 rfl) rfl rfl ?_
      refine r_if_ne (t := 218) (pc' := 152) (kX11_isOwnHere_1 11 rfl) rfl rfl (fun _ => ?_) (fun cz => absurd cz (by decide))
      refine r_iconst 1 (pc' := 219) (kX11_isOwnHere_1 42 rfl) rfl (by unfold inR; omega) ?_
      refine r_goto (pc' := 223) (kX11_isOwnHere_1 43 rfl) rfl ?_
      refine r_istore_n (L' := [(2, 198), (0, 1)]) (pc' := 224) (kX11_isOwnHere_1 45 rfl) rfl (Nat.le_of_ble_eq_true rfl) rfl ?_
      refine r_iload_n (pc' := 225) (kX11_isOwnHere_1 46 rfl) rfl rfl ?_
      refine r_if_ne (t := 294) (pc' := 228) (kX11_isOwnHere_1 47 rfl) rfl rfl (fun _ => ?_) (fun cz => absurd cz (by decide))
      refine r_iconst 1 (pc' := 295) (kX11_isOwnHere_2 18 rfl) rfl (by unfold inR; omega) ?_
      refine r_goto (pc' := 299) (kX11_isOwnHere_2 19 rfl) rfl ?_
      refine r_istore_n (L' := [(2, 198), (0, 1)]) (pc' := 300) (kX11_isOwnHere_2 21 rfl) rfl (Nat.le_of_ble_eq_true rfl) rfl ?_
      refine r_iload_n (pc' := 301) (kX11_isOwnHere_2 22 rfl) rfl rfl ?_
      exact s_zret (kX11_isOwnHere_2 23 rfl) rfl (Or.inr rfl) h
    · have h := h.2 c4
      refine r_aload_n (pc' := 23) (kX11_isOwnHere_0 10 rfl) rfl rfl ?_
      refine r_aload_n (pc' := 24) (kX11_isOwnHere_0 11 rfl) rfl rfl ?_
      refine s_getr (v := 203) (pc' := 27) (kX11_isOwnHere_0 12 rfl) rfl fkX11_27 rfl rfl (kz198 Ln) rfl (by decide) ?_
      refine s_callV (As := [(2, 203)]) (o := 198) (S := []) (S2 := fun z => [(0, z)]) (pc' := 30) (kX11_isOwnHere_0 13 rfl) rfl rfl nkX11_isHere mlX11_250 imX11_isHere rfl slX11_isHere rfl (Nat.le_of_ble_eq_true rfl) (Nat.le_of_ble_eq_true rfl) (kz198 Ln) h (fun z => rfl) (fun r5 φ5 α5 h => ?_)
      refine r_if_ne (t := 66) (pc' := 33) (kX11_isOwnHere_0 14 rfl) rfl rfl (fun c6 => ?_) (fun c6 => ?_)
      · have h := h.1 c6
        refine r_iconst 1 (pc' := 67) (kX11_isOwnHere_0 30 rfl) rfl (by unfold inR; omega) ?_
        refine r_goto (pc' := 71) (kX11_isOwnHere_0 31 rfl) rfl ?_
        refine r_istore_n (L' := [(2, 198), (0, 1)]) (pc' := 72) (kX11_isOwnHere_0 33 rfl) rfl (Nat.le_of_ble_eq_true rfl) rfl ?_
        refine r_iload_n (pc' := 73) (kX11_isOwnHere_0 34 rfl) rfl rfl ?_
        refine r_if_ne (t := 142) (pc' := 76) (kX11_isOwnHere_0 35 rfl) rfl rfl (fun _ => ?_) (fun cz => absurd cz (by decide))
        refine r_iconst 1 (pc' := 143) (kX11_isOwnHere_1 6 rfl) rfl (by unfold inR; omega) ?_
        refine r_goto (pc' := 147) (kX11_isOwnHere_1 7 rfl) rfl ?_
        refine r_istore_n (L' := [(2, 198), (0, 1)]) (pc' := 148) (kX11_isOwnHere_1 9 rfl) rfl (Nat.le_of_ble_eq_true rfl) rfl ?_
        refine r_iload_n (pc' := 149) (kX11_isOwnHere_1 10 rfl) rfl rfl ?_
        refine r_if_ne (t := 218) (pc' := 152) (kX11_isOwnHere_1 11 rfl) rfl rfl (fun _ => ?_) (fun cz => absurd cz (by decide))
        refine r_iconst 1 (pc' := 219) (kX11_isOwnHere_1 42 rfl) rfl (by unfold inR; omega) ?_
        refine r_goto (pc' := 223) (kX11_isOwnHere_1 43 rfl) rfl ?_
        refine r_istore_n (L' := [(2, 198), (0, 1)]) (pc' := 224) (kX11_isOwnHere_1 45 rfl) rfl (Nat.le_of_ble_eq_true rfl) rfl ?_
        refine r_iload_n (pc' := 225) (kX11_isOwnHere_1 46 rfl) rfl rfl ?_
        refine r_if_ne (t := 294) (pc' := 228) (kX11_isOwnHere_1 47 rfl) rfl rfl (fun _ => ?_) (fun cz => absurd cz (by decide))
        refine r_iconst 1 (pc' := 295) (kX11_isOwnHere_2 18 rfl) rfl (by unfold inR; omega) ?_
        refine r_goto (pc' := 299) (kX11_isOwnHere_2 19 rfl) rfl ?_
        refine r_istore_n (L' := [(2, 198), (0, 1)]) (pc' := 300) (kX11_isOwnHere_2 21 rfl) rfl (Nat.le_of_ble_eq_true rfl) rfl ?_
        refine r_iload_n (pc' := 301) (kX11_isOwnHere_2 22 rfl) rfl rfl ?_
        exact s_zret (kX11_isOwnHere_2 23 rfl) rfl (Or.inr rfl) h
      · have h := h.2 c6
        refine r_aload_n (pc' := 34) (kX11_isOwnHere_0 15 rfl) rfl rfl ?_
        refine r_aload_n (pc' := 35) (kX11_isOwnHere_0 16 rfl) rfl rfl ?_
        refine s_getr (v := 204) (pc' := 38) (kX11_isOwnHere_0 17 rfl) rfl fkX11_30 rfl rfl (kz198 Ln) rfl (by decide) ?_
        refine s_callV (As := [(2, 204)]) (o := 198) (S := []) (S2 := fun z => [(0, z)]) (pc' := 41) (kX11_isOwnHere_0 18 rfl) rfl rfl nkX11_isHere mlX11_250 imX11_isHere rfl slX11_isHere rfl (Nat.le_of_ble_eq_true rfl) (Nat.le_of_ble_eq_true rfl) (kz198 Ln) h (fun z => rfl) (fun r7 φ7 α7 h => ?_)
        refine r_if_ne (t := 66) (pc' := 44) (kX11_isOwnHere_0 19 rfl) rfl rfl (fun c8 => ?_) (fun c8 => ?_)
        · have h := h.1 c8
          refine r_iconst 1 (pc' := 67) (kX11_isOwnHere_0 30 rfl) rfl (by unfold inR; omega) ?_
          refine r_goto (pc' := 71) (kX11_isOwnHere_0 31 rfl) rfl ?_
          refine r_istore_n (L' := [(2, 198), (0, 1)]) (pc' := 72) (kX11_isOwnHere_0 33 rfl) rfl (Nat.le_of_ble_eq_true rfl) rfl ?_
          refine r_iload_n (pc' := 73) (kX11_isOwnHere_0 34 rfl) rfl rfl ?_
          refine r_if_ne (t := 142) (pc' := 76) (kX11_isOwnHere_0 35 rfl) rfl rfl (fun _ => ?_) (fun cz => absurd cz (by decide))
          refine r_iconst 1 (pc' := 143) (kX11_isOwnHere_1 6 rfl) rfl (by unfold inR; omega) ?_
          refine r_goto (pc' := 147) (kX11_isOwnHere_1 7 rfl) rfl ?_
          refine r_istore_n (L' := [(2, 198), (0, 1)]) (pc' := 148) (kX11_isOwnHere_1 9 rfl) rfl (Nat.le_of_ble_eq_true rfl) rfl ?_
          refine r_iload_n (pc' := 149) (kX11_isOwnHere_1 10 rfl) rfl rfl ?_
          refine r_if_ne (t := 218) (pc' := 152) (kX11_isOwnHere_1 11 rfl) rfl rfl (fun _ => ?_) (fun cz => absurd cz (by decide))
          refine r_iconst 1 (pc' := 219) (kX11_isOwnHere_1 42 rfl) rfl (by unfold inR; omega) ?_
          refine r_goto (pc' := 223) (kX11_isOwnHere_1 43 rfl) rfl ?_
          refine r_istore_n (L' := [(2, 198), (0, 1)]) (pc' := 224) (kX11_isOwnHere_1 45 rfl) rfl (Nat.le_of_ble_eq_true rfl) rfl ?_
          refine r_iload_n (pc' := 225) (kX11_isOwnHere_1 46 rfl) rfl rfl ?_
          refine r_if_ne (t := 294) (pc' := 228) (kX11_isOwnHere_1 47 rfl) rfl rfl (fun _ => ?_) (fun cz => absurd cz (by decide))
          refine r_iconst 1 (pc' := 295) (kX11_isOwnHere_2 18 rfl) rfl (by unfold inR; omega) ?_
          refine r_goto (pc' := 299) (kX11_isOwnHere_2 19 rfl) rfl ?_
          refine r_istore_n (L' := [(2, 198), (0, 1)]) (pc' := 300) (kX11_isOwnHere_2 21 rfl) rfl (Nat.le_of_ble_eq_true rfl) rfl ?_
          refine r_iload_n (pc' := 301) (kX11_isOwnHere_2 22 rfl) rfl rfl ?_
          exact s_zret (kX11_isOwnHere_2 23 rfl) rfl (Or.inr rfl) h
        · have h := h.2 c8
          refine r_aload_n (pc' := 45) (kX11_isOwnHere_0 20 rfl) rfl rfl ?_
          refine r_aload_n (pc' := 46) (kX11_isOwnHere_0 21 rfl) rfl rfl ?_
          refine s_getr (v := 205) (pc' := 49) (kX11_isOwnHere_0 22 rfl) rfl fkX11_33 rfl rfl (kz198 Ln) rfl (by decide) ?_
          refine s_callV (As := [(2, 205)]) (o := 198) (S := []) (S2 := fun z => [(0, z)]) (pc' := 52) (kX11_isOwnHere_0 23 rfl) rfl rfl nkX11_isHere mlX11_250 imX11_isHere rfl slX11_isHere rfl (Nat.le_of_ble_eq_true rfl) (Nat.le_of_ble_eq_true rfl) (kz198 Ln) h (fun z => rfl) (fun r9 φ9 α9 h => ?_)
          refine r_if_ne (t := 66) (pc' := 55) (kX11_isOwnHere_0 24 rfl) rfl rfl (fun c10 => ?_) (fun c10 => ?_)
          · have h := h.1 c10
            refine r_iconst 1 (pc' := 67) (kX11_isOwnHere_0 30 rfl) rfl (by unfold inR; omega) ?_
            refine r_goto (pc' := 71) (kX11_isOwnHere_0 31 rfl) rfl ?_
            refine r_istore_n (L' := [(2, 198), (0, 1)]) (pc' := 72) (kX11_isOwnHere_0 33 rfl) rfl (Nat.le_of_ble_eq_true rfl) rfl ?_
            refine r_iload_n (pc' := 73) (kX11_isOwnHere_0 34 rfl) rfl rfl ?_
            refine r_if_ne (t := 142) (pc' := 76) (kX11_isOwnHere_0 35 rfl) rfl rfl (fun _ => ?_) (fun cz => absurd cz (by decide))
            refine r_iconst 1 (pc' := 143) (kX11_isOwnHere_1 6 rfl) rfl (by unfold inR; omega) ?_
            refine r_goto (pc' := 147) (kX11_isOwnHere_1 7 rfl) rfl ?_
            refine r_istore_n (L' := [(2, 198), (0, 1)]) (pc' := 148) (kX11_isOwnHere_1 9 rfl) rfl (Nat.le_of_ble_eq_true rfl) rfl ?_
            refine r_iload_n (pc' := 149) (kX11_isOwnHere_1 10 rfl) rfl rfl ?_
            refine r_if_ne (t := 218) (pc' := 152) (kX11_isOwnHere_1 11 rfl) rfl rfl (fun _ => ?_) (fun cz => absurd cz (by decide))
            refine r_iconst 1 (pc' := 219) (kX11_isOwnHere_1 42 rfl) rfl (by unfold inR; omega) ?_
            refine r_goto (pc' := 223) (kX11_isOwnHere_1 43 rfl) rfl ?_
            refine r_istore_n (L' := [(2, 198), (0, 1)]) (pc' := 224) (kX11_isOwnHere_1 45 rfl) rfl (Nat.le_of_ble_eq_true rfl) rfl ?_
            refine r_iload_n (pc' := 225) (kX11_isOwnHere_1 46 rfl) rfl rfl ?_
            refine r_if_ne (t := 294) (pc' := 228) (kX11_isOwnHere_1 47 rfl) rfl rfl (fun _ => ?_) (fun cz => absurd cz (by decide))
            refine r_iconst 1 (pc' := 295) (kX11_isOwnHere_2 18 rfl) rfl (by unfold inR; omega) ?_
            refine r_goto (pc' := 299) (kX11_isOwnHere_2 19 rfl) rfl ?_
            refine r_istore_n (L' := [(2, 198), (0, 1)]) (pc' := 300) (kX11_isOwnHere_2 21 rfl) rfl (Nat.le_of_ble_eq_true rfl) rfl ?_
            refine r_iload_n (pc' := 301) (kX11_isOwnHere_2 22 rfl) rfl rfl ?_
            exact s_zret (kX11_isOwnHere_2 23 rfl) rfl (Or.inr rfl) h
          · have h := h.2 c10
            refine r_aload_n (pc' := 56) (kX11_isOwnHere_0 25 rfl) rfl rfl ?_
            refine r_aload_n (pc' := 57) (kX11_isOwnHere_0 26 rfl) rfl rfl ?_
            refine s_getr (v := 206) (pc' := 60) (kX11_isOwnHere_0 27 rfl) rfl fkX11_36 rfl rfl (kz198 Ln) rfl (by decide) ?_
            refine s_callV (As := [(2, 206)]) (o := 198) (S := []) (S2 := fun z => [(0, z)]) (pc' := 63) (kX11_isOwnHere_0 28 rfl) rfl rfl nkX11_isHere mlX11_250 imX11_isHere rfl slX11_isHere rfl (Nat.le_of_ble_eq_true rfl) (Nat.le_of_ble_eq_true rfl) (kz198 Ln) h (fun z => rfl) (fun r11 φ11 α11 h => ?_)
            refine r_if_eq (t := 70) (pc' := 66) (kX11_isOwnHere_0 29 rfl) rfl rfl (fun c12 => ?_) (fun c12 => ?_)
            · have h := h.1 c12
              refine r_iconst 0 (pc' := 71) (kX11_isOwnHere_0 32 rfl) rfl (by unfold inR; omega) ?_
              refine r_istore_n (L' := [(2, 198), (0, 0)]) (pc' := 72) (kX11_isOwnHere_0 33 rfl) rfl (Nat.le_of_ble_eq_true rfl) rfl ?_
              refine r_iload_n (pc' := 73) (kX11_isOwnHere_0 34 rfl) rfl rfl ?_
              refine r_if_ne (t := 142) (pc' := 76) (kX11_isOwnHere_0 35 rfl) rfl rfl (fun cz => absurd cz (by decide)) (fun _ => ?_)
              refine r_aload_n (pc' := 77) (kX11_isOwnHere_0 36 rfl) rfl rfl ?_
              refine r_aload_n (pc' := 78) (kX11_isOwnHere_0 37 rfl) rfl rfl ?_
              refine s_getr (v := 207) (pc' := 81) (kX11_isOwnHere_0 38 rfl) rfl fkX11_39 rfl rfl (kz198 Ln) rfl (by decide) ?_
              refine s_callV (As := [(2, 207)]) (o := 198) (S := []) (S2 := fun z => [(0, z)]) (pc' := 84) (kX11_isOwnHere_0 39 rfl) rfl rfl nkX11_isHere mlX11_250 imX11_isHere rfl slX11_isHere rfl (Nat.le_of_ble_eq_true rfl) (Nat.le_of_ble_eq_true rfl) (kz198 Ln) h (fun z => rfl) (fun r13 φ13 α13 h => ?_)
              refine r_if_ne (t := 142) (pc' := 87) (kX11_isOwnHere_0 40 rfl) rfl rfl (fun c14 => ?_) (fun c14 => ?_)
              · have h := h.1 c14
                refine r_iconst 1 (pc' := 143) (kX11_isOwnHere_1 6 rfl) rfl (by unfold inR; omega) ?_
                refine r_goto (pc' := 147) (kX11_isOwnHere_1 7 rfl) rfl ?_
                refine r_istore_n (L' := [(2, 198), (0, 1)]) (pc' := 148) (kX11_isOwnHere_1 9 rfl) rfl (Nat.le_of_ble_eq_true rfl) rfl ?_
                refine r_iload_n (pc' := 149) (kX11_isOwnHere_1 10 rfl) rfl rfl ?_
                refine r_if_ne (t := 218) (pc' := 152) (kX11_isOwnHere_1 11 rfl) rfl rfl (fun _ => ?_) (fun cz => absurd cz (by decide))
                refine r_iconst 1 (pc' := 219) (kX11_isOwnHere_1 42 rfl) rfl (by unfold inR; omega) ?_
                refine r_goto (pc' := 223) (kX11_isOwnHere_1 43 rfl) rfl ?_
                refine r_istore_n (L' := [(2, 198), (0, 1)]) (pc' := 224) (kX11_isOwnHere_1 45 rfl) rfl (Nat.le_of_ble_eq_true rfl) rfl ?_
                refine r_iload_n (pc' := 225) (kX11_isOwnHere_1 46 rfl) rfl rfl ?_
                refine r_if_ne (t := 294) (pc' := 228) (kX11_isOwnHere_1 47 rfl) rfl rfl (fun _ => ?_) (fun cz => absurd cz (by decide))
                refine r_iconst 1 (pc' := 295) (kX11_isOwnHere_2 18 rfl) rfl (by unfold inR; omega) ?_
                refine r_goto (pc' := 299) (kX11_isOwnHere_2 19 rfl) rfl ?_
                refine r_istore_n (L' := [(2, 198), (0, 1)]) (pc' := 300) (kX11_isOwnHere_2 21 rfl) rfl (Nat.le_of_ble_eq_true rfl) rfl ?_
                refine r_iload_n (pc' := 301) (kX11_isOwnHere_2 22 rfl) rfl rfl ?_
                exact s_zret (kX11_isOwnHere_2 23 rfl) rfl (Or.inr rfl) h
              · have h := h.2 c14
                refine r_aload_n (pc' := 88) (kX11_isOwnHere_0 41 rfl) rfl rfl ?_
                refine r_aload_n (pc' := 89) (kX11_isOwnHere_0 42 rfl) rfl rfl ?_
                refine s_getr (v := 208) (pc' := 92) (kX11_isOwnHere_0 43 rfl) rfl fkX11_42 rfl rfl (kz198 Ln) rfl (by decide) ?_
                refine s_callV (As := [(2, 208)]) (o := 198) (S := []) (S2 := fun z => [(0, z)]) (pc' := 95) (kX11_isOwnHere_0 44 rfl) rfl rfl nkX11_isHere mlX11_250 imX11_isHere rfl slX11_isHere rfl (Nat.le_of_ble_eq_true rfl) (Nat.le_of_ble_eq_true rfl) (kz198 Ln) h (fun z => rfl) (fun r15 φ15 α15 h => ?_)
                refine r_if_ne (t := 142) (pc' := 98) (kX11_isOwnHere_0 45 rfl) rfl rfl (fun c16 => ?_) (fun c16 => ?_)
                · have h := h.1 c16
                  refine r_iconst 1 (pc' := 143) (kX11_isOwnHere_1 6 rfl) rfl (by unfold inR; omega) ?_
                  refine r_goto (pc' := 147) (kX11_isOwnHere_1 7 rfl) rfl ?_
                  refine r_istore_n (L' := [(2, 198), (0, 1)]) (pc' := 148) (kX11_isOwnHere_1 9 rfl) rfl (Nat.le_of_ble_eq_true rfl) rfl ?_
                  refine r_iload_n (pc' := 149) (kX11_isOwnHere_1 10 rfl) rfl rfl ?_
                  refine r_if_ne (t := 218) (pc' := 152) (kX11_isOwnHere_1 11 rfl) rfl rfl (fun _ => ?_) (fun cz => absurd cz (by decide))
                  refine r_iconst 1 (pc' := 219) (kX11_isOwnHere_1 42 rfl) rfl (by unfold inR; omega) ?_
                  refine r_goto (pc' := 223) (kX11_isOwnHere_1 43 rfl) rfl ?_
                  refine r_istore_n (L' := [(2, 198), (0, 1)]) (pc' := 224) (kX11_isOwnHere_1 45 rfl) rfl (Nat.le_of_ble_eq_true rfl) rfl ?_
                  refine r_iload_n (pc' := 225) (kX11_isOwnHere_1 46 rfl) rfl rfl ?_
                  refine r_if_ne (t := 294) (pc' := 228) (kX11_isOwnHere_1 47 rfl) rfl rfl (fun _ => ?_) (fun cz => absurd cz (by decide))
                  refine r_iconst 1 (pc' := 295) (kX11_isOwnHere_2 18 rfl) rfl (by unfold inR; omega) ?_
                  refine r_goto (pc' := 299) (kX11_isOwnHere_2 19 rfl) rfl ?_
                  refine r_istore_n (L' := [(2, 198), (0, 1)]) (pc' := 300) (kX11_isOwnHere_2 21 rfl) rfl (Nat.le_of_ble_eq_true rfl) rfl ?_
                  refine r_iload_n (pc' := 301) (kX11_isOwnHere_2 22 rfl) rfl rfl ?_
                  exact s_zret (kX11_isOwnHere_2 23 rfl) rfl (Or.inr rfl) h
                · have h := h.2 c16
                  refine r_aload_n (pc' := 99) (kX11_isOwnHere_0 46 rfl) rfl rfl ?_
                  refine r_aload_n (pc' := 100) (kX11_isOwnHere_0 47 rfl) rfl rfl ?_
                  refine s_getr (v := 209) (pc' := 103) (kX11_isOwnHere_0 48 rfl) rfl fkX11_45 rfl rfl (kz198 Ln) rfl (by decide) ?_
                  refine s_callV (As := [(2, 209)]) (o := 198) (S := []) (S2 := fun z => [(0, z)]) (pc' := 106) (kX11_isOwnHere_0 49 rfl) rfl rfl nkX11_isHere mlX11_250 imX11_isHere rfl slX11_isHere rfl (Nat.le_of_ble_eq_true rfl) (Nat.le_of_ble_eq_true rfl) (kz198 Ln) h (fun z => rfl) (fun r17 φ17 α17 h => ?_)
                  refine r_if_ne (t := 142) (pc' := 109) (kX11_isOwnHere_0 50 rfl) rfl rfl (fun c18 => ?_) (fun c18 => ?_)
                  · have h := h.1 c18
                    refine r_iconst 1 (pc' := 143) (kX11_isOwnHere_1 6 rfl) rfl (by unfold inR; omega) ?_
                    refine r_goto (pc' := 147) (kX11_isOwnHere_1 7 rfl) rfl ?_
                    refine r_istore_n (L' := [(2, 198), (0, 1)]) (pc' := 148) (kX11_isOwnHere_1 9 rfl) rfl (Nat.le_of_ble_eq_true rfl) rfl ?_
                    refine r_iload_n (pc' := 149) (kX11_isOwnHere_1 10 rfl) rfl rfl ?_
                    refine r_if_ne (t := 218) (pc' := 152) (kX11_isOwnHere_1 11 rfl) rfl rfl (fun _ => ?_) (fun cz => absurd cz (by decide))
                    refine r_iconst 1 (pc' := 219) (kX11_isOwnHere_1 42 rfl) rfl (by unfold inR; omega) ?_
                    refine r_goto (pc' := 223) (kX11_isOwnHere_1 43 rfl) rfl ?_
                    refine r_istore_n (L' := [(2, 198), (0, 1)]) (pc' := 224) (kX11_isOwnHere_1 45 rfl) rfl (Nat.le_of_ble_eq_true rfl) rfl ?_
                    refine r_iload_n (pc' := 225) (kX11_isOwnHere_1 46 rfl) rfl rfl ?_
                    refine r_if_ne (t := 294) (pc' := 228) (kX11_isOwnHere_1 47 rfl) rfl rfl (fun _ => ?_) (fun cz => absurd cz (by decide))
                    refine r_iconst 1 (pc' := 295) (kX11_isOwnHere_2 18 rfl) rfl (by unfold inR; omega) ?_
                    refine r_goto (pc' := 299) (kX11_isOwnHere_2 19 rfl) rfl ?_
                    refine r_istore_n (L' := [(2, 198), (0, 1)]) (pc' := 300) (kX11_isOwnHere_2 21 rfl) rfl (Nat.le_of_ble_eq_true rfl) rfl ?_
                    refine r_iload_n (pc' := 301) (kX11_isOwnHere_2 22 rfl) rfl rfl ?_
                    exact s_zret (kX11_isOwnHere_2 23 rfl) rfl (Or.inr rfl) h
                  · have h := h.2 c18
                    refine r_aload_n (pc' := 110) (kX11_isOwnHere_0 51 rfl) rfl rfl ?_
                    refine r_aload_n (pc' := 111) (kX11_isOwnHere_0 52 rfl) rfl rfl ?_
                    refine s_getr (v := 210) (pc' := 114) (kX11_isOwnHere_0 53 rfl) rfl fkX11_48 rfl rfl (kz198 Ln) rfl (by decide) ?_
                    refine s_callV (As := [(2, 210)]) (o := 198) (S := []) (S2 := fun z => [(0, z)]) (pc' := 117) (kX11_isOwnHere_0 54 rfl) rfl rfl nkX11_isHere mlX11_250 imX11_isHere rfl slX11_isHere rfl (Nat.le_of_ble_eq_true rfl) (Nat.le_of_ble_eq_true rfl) (kz198 Ln) h (fun z => rfl) (fun r19 φ19 α19 h => ?_)
                    refine r_if_ne (t := 142) (pc' := 120) (kX11_isOwnHere_0 55 rfl) rfl rfl (fun c20 => ?_) (fun c20 => ?_)
                    · have h := h.1 c20
                      refine r_iconst 1 (pc' := 143) (kX11_isOwnHere_1 6 rfl) rfl (by unfold inR; omega) ?_
                      refine r_goto (pc' := 147) (kX11_isOwnHere_1 7 rfl) rfl ?_
                      refine r_istore_n (L' := [(2, 198), (0, 1)]) (pc' := 148) (kX11_isOwnHere_1 9 rfl) rfl (Nat.le_of_ble_eq_true rfl) rfl ?_
                      refine r_iload_n (pc' := 149) (kX11_isOwnHere_1 10 rfl) rfl rfl ?_
                      refine r_if_ne (t := 218) (pc' := 152) (kX11_isOwnHere_1 11 rfl) rfl rfl (fun _ => ?_) (fun cz => absurd cz (by decide))
                      refine r_iconst 1 (pc' := 219) (kX11_isOwnHere_1 42 rfl) rfl (by unfold inR; omega) ?_
                      refine r_goto (pc' := 223) (kX11_isOwnHere_1 43 rfl) rfl ?_
                      refine r_istore_n (L' := [(2, 198), (0, 1)]) (pc' := 224) (kX11_isOwnHere_1 45 rfl) rfl (Nat.le_of_ble_eq_true rfl) rfl ?_
                      refine r_iload_n (pc' := 225) (kX11_isOwnHere_1 46 rfl) rfl rfl ?_
                      refine r_if_ne (t := 294) (pc' := 228) (kX11_isOwnHere_1 47 rfl) rfl rfl (fun _ => ?_) (fun cz => absurd cz (by decide))
                      refine r_iconst 1 (pc' := 295) (kX11_isOwnHere_2 18 rfl) rfl (by unfold inR; omega) ?_
                      refine r_goto (pc' := 299) (kX11_isOwnHere_2 19 rfl) rfl ?_
                      refine r_istore_n (L' := [(2, 198), (0, 1)]) (pc' := 300) (kX11_isOwnHere_2 21 rfl) rfl (Nat.le_of_ble_eq_true rfl) rfl ?_
                      refine r_iload_n (pc' := 301) (kX11_isOwnHere_2 22 rfl) rfl rfl ?_
                      exact s_zret (kX11_isOwnHere_2 23 rfl) rfl (Or.inr rfl) h
                    · have h := h.2 c20
                      refine r_aload_n (pc' := 121) (kX11_isOwnHere_0 56 rfl) rfl rfl ?_
                      refine r_aload_n (pc' := 122) (kX11_isOwnHere_0 57 rfl) rfl rfl ?_
                      refine s_getr (v := 211) (pc' := 125) (kX11_isOwnHere_0 58 rfl) rfl fkX11_51 rfl rfl (kz198 Ln) rfl (by decide) ?_
                      refine s_callV (As := [(2, 211)]) (o := 198) (S := []) (S2 := fun z => [(0, z)]) (pc' := 128) (kX11_isOwnHere_0 59 rfl) rfl rfl nkX11_isHere mlX11_250 imX11_isHere rfl slX11_isHere rfl (Nat.le_of_ble_eq_true rfl) (Nat.le_of_ble_eq_true rfl) (kz198 Ln) h (fun z => rfl) (fun r21 φ21 α21 h => ?_)
                      refine r_if_ne (t := 142) (pc' := 131) (kX11_isOwnHere_1 0 rfl) rfl rfl (fun c22 => ?_) (fun c22 => ?_)
                      · have h := h.1 c22
                        refine r_iconst 1 (pc' := 143) (kX11_isOwnHere_1 6 rfl) rfl (by unfold inR; omega) ?_
                        refine r_goto (pc' := 147) (kX11_isOwnHere_1 7 rfl) rfl ?_
                        refine r_istore_n (L' := [(2, 198), (0, 1)]) (pc' := 148) (kX11_isOwnHere_1 9 rfl) rfl (Nat.le_of_ble_eq_true rfl) rfl ?_
                        refine r_iload_n (pc' := 149) (kX11_isOwnHere_1 10 rfl) rfl rfl ?_
                        refine r_if_ne (t := 218) (pc' := 152) (kX11_isOwnHere_1 11 rfl) rfl rfl (fun _ => ?_) (fun cz => absurd cz (by decide))
                        refine r_iconst 1 (pc' := 219) (kX11_isOwnHere_1 42 rfl) rfl (by unfold inR; omega) ?_
                        refine r_goto (pc' := 223) (kX11_isOwnHere_1 43 rfl) rfl ?_
                        refine r_istore_n (L' := [(2, 198), (0, 1)]) (pc' := 224) (kX11_isOwnHere_1 45 rfl) rfl (Nat.le_of_ble_eq_true rfl) rfl ?_
                        refine r_iload_n (pc' := 225) (kX11_isOwnHere_1 46 rfl) rfl rfl ?_
                        refine r_if_ne (t := 294) (pc' := 228) (kX11_isOwnHere_1 47 rfl) rfl rfl (fun _ => ?_) (fun cz => absurd cz (by decide))
                        refine r_iconst 1 (pc' := 295) (kX11_isOwnHere_2 18 rfl) rfl (by unfold inR; omega) ?_
                        refine r_goto (pc' := 299) (kX11_isOwnHere_2 19 rfl) rfl ?_
                        refine r_istore_n (L' := [(2, 198), (0, 1)]) (pc' := 300) (kX11_isOwnHere_2 21 rfl) rfl (Nat.le_of_ble_eq_true rfl) rfl ?_
                        refine r_iload_n (pc' := 301) (kX11_isOwnHere_2 22 rfl) rfl rfl ?_
                        exact s_zret (kX11_isOwnHere_2 23 rfl) rfl (Or.inr rfl) h
                      · have h := h.2 c22
                        refine r_aload_n (pc' := 132) (kX11_isOwnHere_1 1 rfl) rfl rfl ?_
                        refine r_aload_n (pc' := 133) (kX11_isOwnHere_1 2 rfl) rfl rfl ?_
                        refine s_getr (v := 212) (pc' := 136) (kX11_isOwnHere_1 3 rfl) rfl fkX11_54 rfl rfl (kz198 Ln) rfl (by decide) ?_
                        refine s_callV (As := [(2, 212)]) (o := 198) (S := []) (S2 := fun z => [(0, z)]) (pc' := 139) (kX11_isOwnHere_1 4 rfl) rfl rfl nkX11_isHere mlX11_250 imX11_isHere rfl slX11_isHere rfl (Nat.le_of_ble_eq_true rfl) (Nat.le_of_ble_eq_true rfl) (kz198 Ln) h (fun z => rfl) (fun r23 φ23 α23 h => ?_)
                        refine r_if_eq (t := 146) (pc' := 142) (kX11_isOwnHere_1 5 rfl) rfl rfl (fun c24 => ?_) (fun c24 => ?_)
                        · have h := h.1 c24
                          refine r_iconst 0 (pc' := 147) (kX11_isOwnHere_1 8 rfl) rfl (by unfold inR; omega) ?_
                          refine r_istore_n (L' := [(2, 198), (0, 0)]) (pc' := 148) (kX11_isOwnHere_1 9 rfl) rfl (Nat.le_of_ble_eq_true rfl) rfl ?_
                          refine r_iload_n (pc' := 149) (kX11_isOwnHere_1 10 rfl) rfl rfl ?_
                          refine r_if_ne (t := 218) (pc' := 152) (kX11_isOwnHere_1 11 rfl) rfl rfl (fun cz => absurd cz (by decide)) (fun _ => ?_)
                          refine r_aload_n (pc' := 153) (kX11_isOwnHere_1 12 rfl) rfl rfl ?_
                          refine r_aload_n (pc' := 154) (kX11_isOwnHere_1 13 rfl) rfl rfl ?_
                          refine s_getr (v := 213) (pc' := 157) (kX11_isOwnHere_1 14 rfl) rfl fkX11_57 rfl rfl (kz198 Ln) rfl (by decide) ?_
                          refine s_callV (As := [(2, 213)]) (o := 198) (S := []) (S2 := fun z => [(0, z)]) (pc' := 160) (kX11_isOwnHere_1 15 rfl) rfl rfl nkX11_isHere mlX11_250 imX11_isHere rfl slX11_isHere rfl (Nat.le_of_ble_eq_true rfl) (Nat.le_of_ble_eq_true rfl) (kz198 Ln) h (fun z => rfl) (fun r25 φ25 α25 h => ?_)
                          refine r_if_ne (t := 218) (pc' := 163) (kX11_isOwnHere_1 16 rfl) rfl rfl (fun c26 => ?_) (fun c26 => ?_)
                          · have h := h.1 c26
                            refine r_iconst 1 (pc' := 219) (kX11_isOwnHere_1 42 rfl) rfl (by unfold inR; omega) ?_
                            refine r_goto (pc' := 223) (kX11_isOwnHere_1 43 rfl) rfl ?_
                            refine r_istore_n (L' := [(2, 198), (0, 1)]) (pc' := 224) (kX11_isOwnHere_1 45 rfl) rfl (Nat.le_of_ble_eq_true rfl) rfl ?_
                            refine r_iload_n (pc' := 225) (kX11_isOwnHere_1 46 rfl) rfl rfl ?_
                            refine r_if_ne (t := 294) (pc' := 228) (kX11_isOwnHere_1 47 rfl) rfl rfl (fun _ => ?_) (fun cz => absurd cz (by decide))
                            refine r_iconst 1 (pc' := 295) (kX11_isOwnHere_2 18 rfl) rfl (by unfold inR; omega) ?_
                            refine r_goto (pc' := 299) (kX11_isOwnHere_2 19 rfl) rfl ?_
                            refine r_istore_n (L' := [(2, 198), (0, 1)]) (pc' := 300) (kX11_isOwnHere_2 21 rfl) rfl (Nat.le_of_ble_eq_true rfl) rfl ?_
                            refine r_iload_n (pc' := 301) (kX11_isOwnHere_2 22 rfl) rfl rfl ?_
                            exact s_zret (kX11_isOwnHere_2 23 rfl) rfl (Or.inr rfl) h
                          · have h := h.2 c26
                            refine r_aload_n (pc' := 164) (kX11_isOwnHere_1 17 rfl) rfl rfl ?_
                            refine r_aload_n (pc' := 165) (kX11_isOwnHere_1 18 rfl) rfl rfl ?_
                            refine s_getr (v := 214) (pc' := 168) (kX11_isOwnHere_1 19 rfl) rfl fkX11_60 rfl rfl (kz198 Ln) rfl (by decide) ?_
                            refine s_callV (As := [(2, 214)]) (o := 198) (S := []) (S2 := fun z => [(0, z)]) (pc' := 171) (kX11_isOwnHere_1 20 rfl) rfl rfl nkX11_isHere mlX11_250 imX11_isHere rfl slX11_isHere rfl (Nat.le_of_ble_eq_true rfl) (Nat.le_of_ble_eq_true rfl) (kz198 Ln) h (fun z => rfl) (fun r27 φ27 α27 h => ?_)
                            refine r_if_ne (t := 218) (pc' := 174) (kX11_isOwnHere_1 21 rfl) rfl rfl (fun c28 => ?_) (fun c28 => ?_)
                            · have h := h.1 c28
                              refine r_iconst 1 (pc' := 219) (kX11_isOwnHere_1 42 rfl) rfl (by unfold inR; omega) ?_
                              refine r_goto (pc' := 223) (kX11_isOwnHere_1 43 rfl) rfl ?_
                              refine r_istore_n (L' := [(2, 198), (0, 1)]) (pc' := 224) (kX11_isOwnHere_1 45 rfl) rfl (Nat.le_of_ble_eq_true rfl) rfl ?_
                              refine r_iload_n (pc' := 225) (kX11_isOwnHere_1 46 rfl) rfl rfl ?_
                              refine r_if_ne (t := 294) (pc' := 228) (kX11_isOwnHere_1 47 rfl) rfl rfl (fun _ => ?_) (fun cz => absurd cz (by decide))
                              refine r_iconst 1 (pc' := 295) (kX11_isOwnHere_2 18 rfl) rfl (by unfold inR; omega) ?_
                              refine r_goto (pc' := 299) (kX11_isOwnHere_2 19 rfl) rfl ?_
                              refine r_istore_n (L' := [(2, 198), (0, 1)]) (pc' := 300) (kX11_isOwnHere_2 21 rfl) rfl (Nat.le_of_ble_eq_true rfl) rfl ?_
                              refine r_iload_n (pc' := 301) (kX11_isOwnHere_2 22 rfl) rfl rfl ?_
                              exact s_zret (kX11_isOwnHere_2 23 rfl) rfl (Or.inr rfl) h
                            · have h := h.2 c28
                              refine r_aload_n (pc' := 175) (kX11_isOwnHere_1 22 rfl) rfl rfl ?_
                              refine r_aload_n (pc' := 176) (kX11_isOwnHere_1 23 rfl) rfl rfl ?_
                              refine s_getr (v := 215) (pc' := 179) (kX11_isOwnHere_1 24 rfl) rfl fkX11_63 rfl rfl (kz198 Ln) rfl (by decide) ?_
                              refine s_callV (As := [(2, 215)]) (o := 198) (S := []) (S2 := fun z => [(0, z)]) (pc' := 182) (kX11_isOwnHere_1 25 rfl) rfl rfl nkX11_isHere mlX11_250 imX11_isHere rfl slX11_isHere rfl (Nat.le_of_ble_eq_true rfl) (Nat.le_of_ble_eq_true rfl) (kz198 Ln) h (fun z => rfl) (fun r29 φ29 α29 h => ?_)
                              refine r_if_ne (t := 218) (pc' := 185) (kX11_isOwnHere_1 26 rfl) rfl rfl (fun c30 => ?_) (fun c30 => ?_)
                              · have h := h.1 c30
                                refine r_iconst 1 (pc' := 219) (kX11_isOwnHere_1 42 rfl) rfl (by unfold inR; omega) ?_
                                refine r_goto (pc' := 223) (kX11_isOwnHere_1 43 rfl) rfl ?_
                                refine r_istore_n (L' := [(2, 198), (0, 1)]) (pc' := 224) (kX11_isOwnHere_1 45 rfl) rfl (Nat.le_of_ble_eq_true rfl) rfl ?_
                                refine r_iload_n (pc' := 225) (kX11_isOwnHere_1 46 rfl) rfl rfl ?_
                                refine r_if_ne (t := 294) (pc' := 228) (kX11_isOwnHere_1 47 rfl) rfl rfl (fun _ => ?_) (fun cz => absurd cz (by decide))
                                refine r_iconst 1 (pc' := 295) (kX11_isOwnHere_2 18 rfl) rfl (by unfold inR; omega) ?_
                                refine r_goto (pc' := 299) (kX11_isOwnHere_2 19 rfl) rfl ?_
                                refine r_istore_n (L' := [(2, 198), (0, 1)]) (pc' := 300) (kX11_isOwnHere_2 21 rfl) rfl (Nat.le_of_ble_eq_true rfl) rfl ?_
                                refine r_iload_n (pc' := 301) (kX11_isOwnHere_2 22 rfl) rfl rfl ?_
                                exact s_zret (kX11_isOwnHere_2 23 rfl) rfl (Or.inr rfl) h
                              · have h := h.2 c30
                                refine r_aload_n (pc' := 186) (kX11_isOwnHere_1 27 rfl) rfl rfl ?_
                                refine r_aload_n (pc' := 187) (kX11_isOwnHere_1 28 rfl) rfl rfl ?_
                                refine s_getr (v := 216) (pc' := 190) (kX11_isOwnHere_1 29 rfl) rfl fkX11_66 rfl rfl (kz198 Ln) rfl (by decide) ?_
                                refine s_callV (As := [(2, 216)]) (o := 198) (S := []) (S2 := fun z => [(0, z)]) (pc' := 193) (kX11_isOwnHere_1 30 rfl) rfl rfl nkX11_isHere mlX11_250 imX11_isHere rfl slX11_isHere rfl (Nat.le_of_ble_eq_true rfl) (Nat.le_of_ble_eq_true rfl) (kz198 Ln) h (fun z => rfl) (fun r31 φ31 α31 h => ?_)
                                refine r_if_ne (t := 218) (pc' := 196) (kX11_isOwnHere_1 31 rfl) rfl rfl (fun c32 => ?_) (fun c32 => ?_)
                                · have h := h.1 c32
                                  refine r_iconst 1 (pc' := 219) (kX11_isOwnHere_1 42 rfl) rfl (by unfold inR; omega) ?_
                                  refine r_goto (pc' := 223) (kX11_isOwnHere_1 43 rfl) rfl ?_
                                  refine r_istore_n (L' := [(2, 198), (0, 1)]) (pc' := 224) (kX11_isOwnHere_1 45 rfl) rfl (Nat.le_of_ble_eq_true rfl) rfl ?_
                                  refine r_iload_n (pc' := 225) (kX11_isOwnHere_1 46 rfl) rfl rfl ?_
                                  refine r_if_ne (t := 294) (pc' := 228) (kX11_isOwnHere_1 47 rfl) rfl rfl (fun _ => ?_) (fun cz => absurd cz (by decide))
                                  refine r_iconst 1 (pc' := 295) (kX11_isOwnHere_2 18 rfl) rfl (by unfold inR; omega) ?_
                                  refine r_goto (pc' := 299) (kX11_isOwnHere_2 19 rfl) rfl ?_
                                  refine r_istore_n (L' := [(2, 198), (0, 1)]) (pc' := 300) (kX11_isOwnHere_2 21 rfl) rfl (Nat.le_of_ble_eq_true rfl) rfl ?_
                                  refine r_iload_n (pc' := 301) (kX11_isOwnHere_2 22 rfl) rfl rfl ?_
                                  exact s_zret (kX11_isOwnHere_2 23 rfl) rfl (Or.inr rfl) h
                                · have h := h.2 c32
                                  refine r_aload_n (pc' := 197) (kX11_isOwnHere_1 32 rfl) rfl rfl ?_
                                  refine r_aload_n (pc' := 198) (kX11_isOwnHere_1 33 rfl) rfl rfl ?_
                                  refine s_getr (v := 217) (pc' := 201) (kX11_isOwnHere_1 34 rfl) rfl fkX11_69 rfl rfl (kz198 Ln) rfl (by decide) ?_
                                  refine s_callV (As := [(2, 217)]) (o := 198) (S := []) (S2 := fun z => [(0, z)]) (pc' := 204) (kX11_isOwnHere_1 35 rfl) rfl rfl nkX11_isHere mlX11_250 imX11_isHere rfl slX11_isHere rfl (Nat.le_of_ble_eq_true rfl) (Nat.le_of_ble_eq_true rfl) (kz198 Ln) h (fun z => rfl) (fun r33 φ33 α33 h => ?_)
                                  refine r_if_ne (t := 218) (pc' := 207) (kX11_isOwnHere_1 36 rfl) rfl rfl (fun c34 => ?_) (fun c34 => ?_)
                                  · have h := h.1 c34
                                    refine r_iconst 1 (pc' := 219) (kX11_isOwnHere_1 42 rfl) rfl (by unfold inR; omega) ?_
                                    refine r_goto (pc' := 223) (kX11_isOwnHere_1 43 rfl) rfl ?_
                                    refine r_istore_n (L' := [(2, 198), (0, 1)]) (pc' := 224) (kX11_isOwnHere_1 45 rfl) rfl (Nat.le_of_ble_eq_true rfl) rfl ?_
                                    refine r_iload_n (pc' := 225) (kX11_isOwnHere_1 46 rfl) rfl rfl ?_
                                    refine r_if_ne (t := 294) (pc' := 228) (kX11_isOwnHere_1 47 rfl) rfl rfl (fun _ => ?_) (fun cz => absurd cz (by decide))
                                    refine r_iconst 1 (pc' := 295) (kX11_isOwnHere_2 18 rfl) rfl (by unfold inR; omega) ?_
                                    refine r_goto (pc' := 299) (kX11_isOwnHere_2 19 rfl) rfl ?_
                                    refine r_istore_n (L' := [(2, 198), (0, 1)]) (pc' := 300) (kX11_isOwnHere_2 21 rfl) rfl (Nat.le_of_ble_eq_true rfl) rfl ?_
                                    refine r_iload_n (pc' := 301) (kX11_isOwnHere_2 22 rfl) rfl rfl ?_
                                    exact s_zret (kX11_isOwnHere_2 23 rfl) rfl (Or.inr rfl) h
                                  · have h := h.2 c34
                                    refine r_aload_n (pc' := 208) (kX11_isOwnHere_1 37 rfl) rfl rfl ?_
                                    refine r_aload_n (pc' := 209) (kX11_isOwnHere_1 38 rfl) rfl rfl ?_
                                    refine s_getr (v := 218) (pc' := 212) (kX11_isOwnHere_1 39 rfl) rfl fkX11_72 rfl rfl (kz198 Ln) rfl (by decide) ?_
                                    refine s_callV (As := [(2, 218)]) (o := 198) (S := []) (S2 := fun z => [(0, z)]) (pc' := 215) (kX11_isOwnHere_1 40 rfl) rfl rfl nkX11_isHere mlX11_250 imX11_isHere rfl slX11_isHere rfl (Nat.le_of_ble_eq_true rfl) (Nat.le_of_ble_eq_true rfl) (kz198 Ln) h (fun z => rfl) (fun r35 φ35 α35 h => ?_)
                                    refine r_if_eq (t := 222) (pc' := 218) (kX11_isOwnHere_1 41 rfl) rfl rfl (fun c36 => ?_) (fun c36 => ?_)
                                    · have h := h.1 c36
                                      refine r_iconst 0 (pc' := 223) (kX11_isOwnHere_1 44 rfl) rfl (by unfold inR; omega) ?_
                                      refine r_istore_n (L' := [(2, 198), (0, 0)]) (pc' := 224) (kX11_isOwnHere_1 45 rfl) rfl (Nat.le_of_ble_eq_true rfl) rfl ?_
                                      refine r_iload_n (pc' := 225) (kX11_isOwnHere_1 46 rfl) rfl rfl ?_
                                      refine r_if_ne (t := 294) (pc' := 228) (kX11_isOwnHere_1 47 rfl) rfl rfl (fun cz => absurd cz (by decide)) (fun _ => ?_)
                                      refine r_aload_n (pc' := 229) (kX11_isOwnHere_1 48 rfl) rfl rfl ?_
                                      refine r_aload_n (pc' := 230) (kX11_isOwnHere_1 49 rfl) rfl rfl ?_
                                      refine s_getr (v := 219) (pc' := 233) (kX11_isOwnHere_1 50 rfl) rfl fkX11_75 rfl rfl (kz198 Ln) rfl (by decide) ?_
                                      refine s_callV (As := [(2, 219)]) (o := 198) (S := []) (S2 := fun z => [(0, z)]) (pc' := 236) (kX11_isOwnHere_1 51 rfl) rfl rfl nkX11_isHere mlX11_250 imX11_isHere rfl slX11_isHere rfl (Nat.le_of_ble_eq_true rfl) (Nat.le_of_ble_eq_true rfl) (kz198 Ln) h (fun z => rfl) (fun r37 φ37 α37 h => ?_)
                                      refine r_if_ne (t := 294) (pc' := 239) (kX11_isOwnHere_1 52 rfl) rfl rfl (fun c38 => ?_) (fun c38 => ?_)
                                      · have h := h.1 c38
                                        refine r_iconst 1 (pc' := 295) (kX11_isOwnHere_2 18 rfl) rfl (by unfold inR; omega) ?_
                                        refine r_goto (pc' := 299) (kX11_isOwnHere_2 19 rfl) rfl ?_
                                        refine r_istore_n (L' := [(2, 198), (0, 1)]) (pc' := 300) (kX11_isOwnHere_2 21 rfl) rfl (Nat.le_of_ble_eq_true rfl) rfl ?_
                                        refine r_iload_n (pc' := 301) (kX11_isOwnHere_2 22 rfl) rfl rfl ?_
                                        exact s_zret (kX11_isOwnHere_2 23 rfl) rfl (Or.inr rfl) h
                                      · have h := h.2 c38
                                        refine r_aload_n (pc' := 240) (kX11_isOwnHere_1 53 rfl) rfl rfl ?_
                                        refine r_aload_n (pc' := 241) (kX11_isOwnHere_1 54 rfl) rfl rfl ?_
                                        refine s_getr (v := 220) (pc' := 244) (kX11_isOwnHere_1 55 rfl) rfl fkX11_78 rfl rfl (kz198 Ln) rfl (by decide) ?_
                                        refine s_callV (As := [(2, 220)]) (o := 198) (S := []) (S2 := fun z => [(0, z)]) (pc' := 247) (kX11_isOwnHere_1 56 rfl) rfl rfl nkX11_isHere mlX11_250 imX11_isHere rfl slX11_isHere rfl (Nat.le_of_ble_eq_true rfl) (Nat.le_of_ble_eq_true rfl) (kz198 Ln) h (fun z => rfl) (fun r39 φ39 α39 h => ?_)
                                        refine r_if_ne (t := 294) (pc' := 250) (kX11_isOwnHere_1 57 rfl) rfl rfl (fun c40 => ?_) (fun c40 => ?_)
                                        · have h := h.1 c40
                                          refine r_iconst 1 (pc' := 295) (kX11_isOwnHere_2 18 rfl) rfl (by unfold inR; omega) ?_
                                          refine r_goto (pc' := 299) (kX11_isOwnHere_2 19 rfl) rfl ?_
                                          refine r_istore_n (L' := [(2, 198), (0, 1)]) (pc' := 300) (kX11_isOwnHere_2 21 rfl) rfl (Nat.le_of_ble_eq_true rfl) rfl ?_
                                          refine r_iload_n (pc' := 301) (kX11_isOwnHere_2 22 rfl) rfl rfl ?_
                                          exact s_zret (kX11_isOwnHere_2 23 rfl) rfl (Or.inr rfl) h
                                        · have h := h.2 c40
                                          refine r_aload_n (pc' := 251) (kX11_isOwnHere_1 58 rfl) rfl rfl ?_
                                          refine r_aload_n (pc' := 252) (kX11_isOwnHere_1 59 rfl) rfl rfl ?_
                                          refine s_getr (v := 221) (pc' := 255) (kX11_isOwnHere_2 0 rfl) rfl fkX11_81 rfl rfl (kz198 Ln) rfl (by decide) ?_
                                          refine s_callV (As := [(2, 221)]) (o := 198) (S := []) (S2 := fun z => [(0, z)]) (pc' := 258) (kX11_isOwnHere_2 1 rfl) rfl rfl nkX11_isHere mlX11_250 imX11_isHere rfl slX11_isHere rfl (Nat.le_of_ble_eq_true rfl) (Nat.le_of_ble_eq_true rfl) (kz198 Ln) h (fun z => rfl) (fun r41 φ41 α41 h => ?_)
                                          refine r_if_ne (t := 294) (pc' := 261) (kX11_isOwnHere_2 2 rfl) rfl rfl (fun c42 => ?_) (fun c42 => ?_)
                                          · have h := h.1 c42
                                            refine r_iconst 1 (pc' := 295) (kX11_isOwnHere_2 18 rfl) rfl (by unfold inR; omega) ?_
                                            refine r_goto (pc' := 299) (kX11_isOwnHere_2 19 rfl) rfl ?_
                                            refine r_istore_n (L' := [(2, 198), (0, 1)]) (pc' := 300) (kX11_isOwnHere_2 21 rfl) rfl (Nat.le_of_ble_eq_true rfl) rfl ?_
                                            refine r_iload_n (pc' := 301) (kX11_isOwnHere_2 22 rfl) rfl rfl ?_
                                            exact s_zret (kX11_isOwnHere_2 23 rfl) rfl (Or.inr rfl) h
                                          · have h := h.2 c42
                                            refine r_aload_n (pc' := 262) (kX11_isOwnHere_2 3 rfl) rfl rfl ?_
                                            refine r_aload_n (pc' := 263) (kX11_isOwnHere_2 4 rfl) rfl rfl ?_
                                            refine s_getr (v := 222) (pc' := 266) (kX11_isOwnHere_2 5 rfl) rfl fkX11_84 rfl rfl (kz198 Ln) rfl (by decide) ?_
                                            refine s_callV (As := [(2, 222)]) (o := 198) (S := []) (S2 := fun z => [(0, z)]) (pc' := 269) (kX11_isOwnHere_2 6 rfl) rfl rfl nkX11_isHere mlX11_250 imX11_isHere rfl slX11_isHere rfl (Nat.le_of_ble_eq_true rfl) (Nat.le_of_ble_eq_true rfl) (kz198 Ln) h (fun z => rfl) (fun r43 φ43 α43 h => ?_)
                                            refine r_if_ne (t := 294) (pc' := 272) (kX11_isOwnHere_2 7 rfl) rfl rfl (fun c44 => ?_) (fun c44 => ?_)
                                            · have h := h.1 c44
                                              refine r_iconst 1 (pc' := 295) (kX11_isOwnHere_2 18 rfl) rfl (by unfold inR; omega) ?_
                                              refine r_goto (pc' := 299) (kX11_isOwnHere_2 19 rfl) rfl ?_
                                              refine r_istore_n (L' := [(2, 198), (0, 1)]) (pc' := 300) (kX11_isOwnHere_2 21 rfl) rfl (Nat.le_of_ble_eq_true rfl) rfl ?_
                                              refine r_iload_n (pc' := 301) (kX11_isOwnHere_2 22 rfl) rfl rfl ?_
                                              exact s_zret (kX11_isOwnHere_2 23 rfl) rfl (Or.inr rfl) h
                                            · have h := h.2 c44
                                              refine r_aload_n (pc' := 273) (kX11_isOwnHere_2 8 rfl) rfl rfl ?_
                                              refine r_aload_n (pc' := 274) (kX11_isOwnHere_2 9 rfl) rfl rfl ?_
                                              refine s_getr (v := 223) (pc' := 277) (kX11_isOwnHere_2 10 rfl) rfl fkX11_87 rfl rfl (kz198 Ln) rfl (by decide) ?_
                                              refine s_callV (As := [(2, 223)]) (o := 198) (S := []) (S2 := fun z => [(0, z)]) (pc' := 280) (kX11_isOwnHere_2 11 rfl) rfl rfl nkX11_isHere mlX11_250 imX11_isHere rfl slX11_isHere rfl (Nat.le_of_ble_eq_true rfl) (Nat.le_of_ble_eq_true rfl) (kz198 Ln) h (fun z => rfl) (fun r45 φ45 α45 h => ?_)
                                              refine r_if_ne (t := 294) (pc' := 283) (kX11_isOwnHere_2 12 rfl) rfl rfl (fun c46 => ?_) (fun c46 => ?_)
                                              · have h := h.1 c46
                                                refine r_iconst 1 (pc' := 295) (kX11_isOwnHere_2 18 rfl) rfl (by unfold inR; omega) ?_
                                                refine r_goto (pc' := 299) (kX11_isOwnHere_2 19 rfl) rfl ?_
                                                refine r_istore_n (L' := [(2, 198), (0, 1)]) (pc' := 300) (kX11_isOwnHere_2 21 rfl) rfl (Nat.le_of_ble_eq_true rfl) rfl ?_
                                                refine r_iload_n (pc' := 301) (kX11_isOwnHere_2 22 rfl) rfl rfl ?_
                                                exact s_zret (kX11_isOwnHere_2 23 rfl) rfl (Or.inr rfl) h
                                              · have h := h.2 c46
                                                refine r_aload_n (pc' := 284) (kX11_isOwnHere_2 13 rfl) rfl rfl ?_
                                                refine r_aload_n (pc' := 285) (kX11_isOwnHere_2 14 rfl) rfl rfl ?_
                                                refine s_getr (v := 224) (pc' := 288) (kX11_isOwnHere_2 15 rfl) rfl fkX11_90 rfl rfl (kz198 Ln) rfl (by decide) ?_
                                                refine s_callV (As := [(2, 224)]) (o := 198) (S := []) (S2 := fun z => [(0, z)]) (pc' := 291) (kX11_isOwnHere_2 16 rfl) rfl rfl nkX11_isHere mlX11_250 imX11_isHere rfl slX11_isHere rfl (Nat.le_of_ble_eq_true rfl) (Nat.le_of_ble_eq_true rfl) (kz198 Ln) h (fun z => rfl) (fun r47 φ47 α47 h => ?_)
                                                refine r_if_eq (t := 298) (pc' := 294) (kX11_isOwnHere_2 17 rfl) rfl rfl (fun c48 => ?_) (fun c48 => ?_)
                                                · have h := h.1 c48
                                                  refine r_iconst 0 (pc' := 299) (kX11_isOwnHere_2 20 rfl) rfl (by unfold inR; omega) ?_
                                                  refine r_istore_n (L' := [(2, 198), (0, 0)]) (pc' := 300) (kX11_isOwnHere_2 21 rfl) rfl (Nat.le_of_ble_eq_true rfl) rfl ?_
                                                  refine r_iload_n (pc' := 301) (kX11_isOwnHere_2 22 rfl) rfl rfl ?_
                                                  exact s_zret (kX11_isOwnHere_2 23 rfl) rfl (Or.inl rfl) h
                                                · have h := h.2 c48
                                                  refine r_iconst 1 (pc' := 295) (kX11_isOwnHere_2 18 rfl) rfl (by unfold inR; omega) ?_
                                                  refine r_goto (pc' := 299) (kX11_isOwnHere_2 19 rfl) rfl ?_
                                                  refine r_istore_n (L' := [(2, 198), (0, 1)]) (pc' := 300) (kX11_isOwnHere_2 21 rfl) rfl (Nat.le_of_ble_eq_true rfl) rfl ?_
                                                  refine r_iload_n (pc' := 301) (kX11_isOwnHere_2 22 rfl) rfl rfl ?_
                                                  exact s_zret (kX11_isOwnHere_2 23 rfl) rfl (Or.inr rfl) h
                                    · have h := h.2 c36
                                      refine r_iconst 1 (pc' := 219) (kX11_isOwnHere_1 42 rfl) rfl (by unfold inR; omega) ?_
                                      refine r_goto (pc' := 223) (kX11_isOwnHere_1 43 rfl) rfl ?_
                                      refine r_istore_n (L' := [(2, 198), (0, 1)]) (pc' := 224) (kX11_isOwnHere_1 45 rfl) rfl (Nat.le_of_ble_eq_true rfl) rfl ?_
                                      refine r_iload_n (pc' := 225) (kX11_isOwnHere_1 46 rfl) rfl rfl ?_
                                      refine r_if_ne (t := 294) (pc' := 228) (kX11_isOwnHere_1 47 rfl) rfl rfl (fun _ => ?_) (fun cz => absurd cz (by decide))
                                      refine r_iconst 1 (pc' := 295) (kX11_isOwnHere_2 18 rfl) rfl (by unfold inR; omega) ?_
                                      refine r_goto (pc' := 299) (kX11_isOwnHere_2 19 rfl) rfl ?_
                                      refine r_istore_n (L' := [(2, 198), (0, 1)]) (pc' := 300) (kX11_isOwnHere_2 21 rfl) rfl (Nat.le_of_ble_eq_true rfl) rfl ?_
                                      refine r_iload_n (pc' := 301) (kX11_isOwnHere_2 22 rfl) rfl rfl ?_
                                      exact s_zret (kX11_isOwnHere_2 23 rfl) rfl (Or.inr rfl) h
                        · have h := h.2 c24
                          refine r_iconst 1 (pc' := 143) (kX11_isOwnHere_1 6 rfl) rfl (by unfold inR; omega) ?_
                          refine r_goto (pc' := 147) (kX11_isOwnHere_1 7 rfl) rfl ?_
                          refine r_istore_n (L' := [(2, 198), (0, 1)]) (pc' := 148) (kX11_isOwnHere_1 9 rfl) rfl (Nat.le_of_ble_eq_true rfl) rfl ?_
                          refine r_iload_n (pc' := 149) (kX11_isOwnHere_1 10 rfl) rfl rfl ?_
                          refine r_if_ne (t := 218) (pc' := 152) (kX11_isOwnHere_1 11 rfl) rfl rfl (fun _ => ?_) (fun cz => absurd cz (by decide))
                          refine r_iconst 1 (pc' := 219) (kX11_isOwnHere_1 42 rfl) rfl (by unfold inR; omega) ?_
                          refine r_goto (pc' := 223) (kX11_isOwnHere_1 43 rfl) rfl ?_
                          refine r_istore_n (L' := [(2, 198), (0, 1)]) (pc' := 224) (kX11_isOwnHere_1 45 rfl) rfl (Nat.le_of_ble_eq_true rfl) rfl ?_
                          refine r_iload_n (pc' := 225) (kX11_isOwnHere_1 46 rfl) rfl rfl ?_
                          refine r_if_ne (t := 294) (pc' := 228) (kX11_isOwnHere_1 47 rfl) rfl rfl (fun _ => ?_) (fun cz => absurd cz (by decide))
                          refine r_iconst 1 (pc' := 295) (kX11_isOwnHere_2 18 rfl) rfl (by unfold inR; omega) ?_
                          refine r_goto (pc' := 299) (kX11_isOwnHere_2 19 rfl) rfl ?_
                          refine r_istore_n (L' := [(2, 198), (0, 1)]) (pc' := 300) (kX11_isOwnHere_2 21 rfl) rfl (Nat.le_of_ble_eq_true rfl) rfl ?_
                          refine r_iload_n (pc' := 301) (kX11_isOwnHere_2 22 rfl) rfl rfl ?_
                          exact s_zret (kX11_isOwnHere_2 23 rfl) rfl (Or.inr rfl) h
            · have h := h.2 c12
              refine r_iconst 1 (pc' := 67) (kX11_isOwnHere_0 30 rfl) rfl (by unfold inR; omega) ?_
              refine r_goto (pc' := 71) (kX11_isOwnHere_0 31 rfl) rfl ?_
              refine r_istore_n (L' := [(2, 198), (0, 1)]) (pc' := 72) (kX11_isOwnHere_0 33 rfl) rfl (Nat.le_of_ble_eq_true rfl) rfl ?_
              refine r_iload_n (pc' := 73) (kX11_isOwnHere_0 34 rfl) rfl rfl ?_
              refine r_if_ne (t := 142) (pc' := 76) (kX11_isOwnHere_0 35 rfl) rfl rfl (fun _ => ?_) (fun cz => absurd cz (by decide))
              refine r_iconst 1 (pc' := 143) (kX11_isOwnHere_1 6 rfl) rfl (by unfold inR; omega) ?_
              refine r_goto (pc' := 147) (kX11_isOwnHere_1 7 rfl) rfl ?_
              refine r_istore_n (L' := [(2, 198), (0, 1)]) (pc' := 148) (kX11_isOwnHere_1 9 rfl) rfl (Nat.le_of_ble_eq_true rfl) rfl ?_
              refine r_iload_n (pc' := 149) (kX11_isOwnHere_1 10 rfl) rfl rfl ?_
              refine r_if_ne (t := 218) (pc' := 152) (kX11_isOwnHere_1 11 rfl) rfl rfl (fun _ => ?_) (fun cz => absurd cz (by decide))
              refine r_iconst 1 (pc' := 219) (kX11_isOwnHere_1 42 rfl) rfl (by unfold inR; omega) ?_
              refine r_goto (pc' := 223) (kX11_isOwnHere_1 43 rfl) rfl ?_
              refine r_istore_n (L' := [(2, 198), (0, 1)]) (pc' := 224) (kX11_isOwnHere_1 45 rfl) rfl (Nat.le_of_ble_eq_true rfl) rfl ?_
              refine r_iload_n (pc' := 225) (kX11_isOwnHere_1 46 rfl) rfl rfl ?_
              refine r_if_ne (t := 294) (pc' := 228) (kX11_isOwnHere_1 47 rfl) rfl rfl (fun _ => ?_) (fun cz => absurd cz (by decide))
              refine r_iconst 1 (pc' := 295) (kX11_isOwnHere_2 18 rfl) rfl (by unfold inR; omega) ?_
              refine r_goto (pc' := 299) (kX11_isOwnHere_2 19 rfl) rfl ?_
              refine r_istore_n (L' := [(2, 198), (0, 1)]) (pc' := 300) (kX11_isOwnHere_2 21 rfl) rfl (Nat.le_of_ble_eq_true rfl) rfl ?_
              refine r_iload_n (pc' := 301) (kX11_isOwnHere_2 22 rfl) rfl rfl ?_
              exact s_zret (kX11_isOwnHere_2 23 rfl) rfl (Or.inr rfl) h
abbrev jX11_name_58 (d : Nat) (x1 : Int) (φ : aF) (α : aA) (Q : Int → aF → aA → Prop) : Prop := R0 d mX11_name 58 [(2, 198), (1, x1), (8, 0)] [] φ α Q
theorem vX11_name_0 {d : Nat} {φ : aF} {α : aA} {Q : Int → aF → aA → Prop} (h : (((φ 11 5 198) = 0 →
   (eX11_look d  φ α (fun r2 φ2 α2 =>
     (eX11_isLetter d r2 φ2 α2 (fun r3 φ3 α3 =>
     ((r3 = 0 →
     (eX11_fail d 1 (φ3 11 2 198) φ3 α3 (fun r5 φ5 α5 =>
       (Q 0 φ5 α5)))) ∧
     (¬ (r3 = 0) →
     (((φ3 11 2 198) = (φ3 11 4 198) →
       (eX11_fail d 1 (φ3 11 2 198) φ3 α3 (fun r7 φ7 α7 =>
         (Q 0 φ7 α7)))) ∧
       (¬ ((φ3 11 2 198) = (φ3 11 4 198)) →
       (eX11_isOwnHere d  φ3 α3 (fun r8 φ8 α8 =>
         ((r8 = 0 →
         (jX11_name_58 (d + 1) 0 (upf φ8 11 35 198 (φ8 11 2 198)) α8 Q)) ∧
         (¬ (r8 = 0) →
         (eX11_fail d 1 (φ8 11 2 198) φ8 α8 (fun r10 φ10 α10 =>
           (Q 0 φ10 α10)))))))))))))))) ∧
   (¬ ((φ 11 5 198) = 0) →
   (Q 0 φ α)))) : eX11_name (d + 1)  φ α Q := by
  intro Ln
  refine r_aload_n (pc' := 1) (kX11_name_0 0 rfl) rfl rfl ?_
  refine s_get (x := (φ 11 5 198)) (pc' := 4) (kX11_name_0 1 rfl) rfl fkX11_227 rfl rfl rfl (kz198 Ln) rfl ?_
  refine r_if_eq (t := 9) (pc' := 7) (kX11_name_0 2 rfl) rfl rfl (fun c1 => ?_) (fun c1 => ?_)
  · have h := h.1 c1
    refine r_aload_n (pc' := 10) (kX11_name_0 5 rfl) rfl rfl ?_
    refine s_callV (As := []) (o := 198) (S := []) (S2 := fun z => [(0, z)]) (pc' := 13) (kX11_name_0 6 rfl) rfl rfl nkX11_look mlX11_239 imX11_look rfl slX11_look rfl (Nat.le_of_ble_eq_true rfl) (Nat.le_of_ble_eq_true rfl) (kz198 Ln) h (fun z => rfl) (fun r2 φ2 α2 h => ?_)
    refine s_callS (As := [(0, r2)]) (S := []) (S2 := fun z => [(0, z)]) (pc' := 16) (kX11_name_0 7 rfl) rfl rfl nkX11_isLetter mlX11_243 scX11_isLetter rfl (Nat.le_of_ble_eq_true rfl) (Nat.le_of_ble_eq_true rfl) h (fun z => rfl) (fun r3 φ3 α3 h => ?_)
    refine r_if_eq (t := 37) (pc' := 19) (kX11_name_0 8 rfl) rfl rfl (fun c4 => ?_) (fun c4 => ?_)
    · have h := h.1 c4
      refine r_aload_n (pc' := 38) (kX11_name_0 17 rfl) rfl rfl ?_
      refine r_iconst 1 (pc' := 39) (kX11_name_0 18 rfl) rfl (by unfold inR; omega) ?_
      refine r_aload_n (pc' := 40) (kX11_name_0 19 rfl) rfl rfl ?_
      refine s_get (x := (φ3 11 2 198)) (pc' := 43) (kX11_name_0 20 rfl) rfl fkX11_233 rfl rfl rfl (kz198 Ln) rfl ?_
      refine s_callV (As := [(0, 1), (0, (φ3 11 2 198))]) (o := 198) (S := []) (S2 := fun z => []) (pc' := 46) (kX11_name_0 21 rfl) rfl rfl nkX11_fail mlX11_257 imX11_fail rfl slX11_fail rfl (Nat.le_of_ble_eq_true rfl) (Nat.le_of_ble_eq_true rfl) (kz198 Ln) h (fun z => rfl) (fun r5 φ5 α5 h => ?_)
      refine r_lconst 0 (pc' := 47) (kX11_name_0 22 rfl) rfl ⟨by unfold inJ; omega, rfl⟩ ?_
      exact s_lret (kX11_name_0 23 rfl) rfl h
    · have h := h.2 c4
      refine r_aload_n (pc' := 20) (kX11_name_0 9 rfl) rfl rfl ?_
      refine s_get (x := (φ3 11 2 198)) (pc' := 23) (kX11_name_0 10 rfl) rfl fkX11_233 rfl rfl rfl (kz198 Ln) rfl ?_
      refine r_aload_n (pc' := 24) (kX11_name_0 11 rfl) rfl rfl ?_
      refine s_get (x := (φ3 11 4 198)) (pc' := 27) (kX11_name_0 12 rfl) rfl fkX11_247 rfl rfl rfl (kz198 Ln) rfl ?_
      refine r_icmp_eq (t := 37) (pc' := 30) (kX11_name_0 13 rfl) rfl rfl (fun c6 => ?_) (fun c6 => ?_)
      · have h := h.1 c6
        refine r_aload_n (pc' := 38) (kX11_name_0 17 rfl) rfl rfl ?_
        refine r_iconst 1 (pc' := 39) (kX11_name_0 18 rfl) rfl (by unfold inR; omega) ?_
        refine r_aload_n (pc' := 40) (kX11_name_0 19 rfl) rfl rfl ?_
        refine s_get (x := (φ3 11 2 198)) (pc' := 43) (kX11_name_0 20 rfl) rfl fkX11_233 rfl rfl rfl (kz198 Ln) rfl ?_
        refine s_callV (As := [(0, 1), (0, (φ3 11 2 198))]) (o := 198) (S := []) (S2 := fun z => []) (pc' := 46) (kX11_name_0 21 rfl) rfl rfl nkX11_fail mlX11_257 imX11_fail rfl slX11_fail rfl (Nat.le_of_ble_eq_true rfl) (Nat.le_of_ble_eq_true rfl) (kz198 Ln) h (fun z => rfl) (fun r7 φ7 α7 h => ?_)
        refine r_lconst 0 (pc' := 47) (kX11_name_0 22 rfl) rfl ⟨by unfold inJ; omega, rfl⟩ ?_
        exact s_lret (kX11_name_0 23 rfl) rfl h
      · have h := h.2 c6
        refine r_aload_n (pc' := 31) (kX11_name_0 14 rfl) rfl rfl ?_
        refine s_callV (As := []) (o := 198) (S := []) (S2 := fun z => [(0, z)]) (pc' := 34) (kX11_name_0 15 rfl) rfl rfl nkX11_isOwnHere mlX11_274 imX11_isOwnHere rfl slX11_isOwnHere rfl (Nat.le_of_ble_eq_true rfl) (Nat.le_of_ble_eq_true rfl) (kz198 Ln) h (fun z => rfl) (fun r8 φ8 α8 h => ?_)
        refine r_if_eq (t := 48) (pc' := 37) (kX11_name_0 16 rfl) rfl rfl (fun c9 => ?_) (fun c9 => ?_)
        · have h := h.1 c9
          refine r_aload_n (pc' := 49) (kX11_name_0 24 rfl) rfl rfl ?_
          refine r_aload_n (pc' := 50) (kX11_name_0 25 rfl) rfl rfl ?_
          refine s_get (x := (φ8 11 2 198)) (pc' := 53) (kX11_name_0 26 rfl) rfl fkX11_233 rfl rfl rfl (kz198 Ln) rfl ?_
          refine s_put (pc' := 56) (kX11_name_0 27 rfl) rfl fkX11_278 fnX11_35 rfl pk_int (kz198 Ln) ?_
          refine r_lconst 0 (pc' := 57) (kX11_name_0 28 rfl) rfl ⟨by unfold inJ; omega, rfl⟩ ?_
          refine r_lstore_n (L' := [(2, 198), (1, 0), (8, 0)]) (pc' := 58) (kX11_name_0 29 rfl) rfl (Nat.le_of_ble_eq_true rfl) rfl ?_
          exact r_weak (L' := [(2, 198), (1, 0), (8, 0)]) ⟨Or.inl rfl, Or.inl rfl, Or.inr (by decide), trivial⟩ (h Ln)
        · have h := h.2 c9
          refine r_aload_n (pc' := 38) (kX11_name_0 17 rfl) rfl rfl ?_
          refine r_iconst 1 (pc' := 39) (kX11_name_0 18 rfl) rfl (by unfold inR; omega) ?_
          refine r_aload_n (pc' := 40) (kX11_name_0 19 rfl) rfl rfl ?_
          refine s_get (x := (φ8 11 2 198)) (pc' := 43) (kX11_name_0 20 rfl) rfl fkX11_233 rfl rfl rfl (kz198 Ln) rfl ?_
          refine s_callV (As := [(0, 1), (0, (φ8 11 2 198))]) (o := 198) (S := []) (S2 := fun z => []) (pc' := 46) (kX11_name_0 21 rfl) rfl rfl nkX11_fail mlX11_257 imX11_fail rfl slX11_fail rfl (Nat.le_of_ble_eq_true rfl) (Nat.le_of_ble_eq_true rfl) (kz198 Ln) h (fun z => rfl) (fun r10 φ10 α10 h => ?_)
          refine r_lconst 0 (pc' := 47) (kX11_name_0 22 rfl) rfl ⟨by unfold inJ; omega, rfl⟩ ?_
          exact s_lret (kX11_name_0 23 rfl) rfl h
  · have h := h.2 c1
    refine r_lconst 0 (pc' := 8) (kX11_name_0 3 rfl) rfl ⟨by unfold inJ; omega, rfl⟩ ?_
    exact s_lret (kX11_name_0 4 rfl) rfl h
theorem vX11_name_58 {d : Nat} {φ : aF} {α : aA} {Q : Int → aF → aA → Prop} {x1 : Int} (h : (((φ 11 3 198) ≤ (φ 11 2 198) →
   (Q x1 (upf φ 11 4 198 (φ 11 2 198)) α)) ∧
   (¬ ((φ 11 3 198) ≤ (φ 11 2 198)) →
   (0 ≤ (φ 11 2 198) ∧ (φ 11 2 198) < (1600 : Nat)) ∧ (eX11_isLetter d (α 199 (φ 11 2 198)) φ α (fun r3 φ3 α3 =>
     ((r3 = 0 →
     (Q x1 (upf φ3 11 4 198 (φ3 11 2 198)) α3)) ∧
     (¬ (r3 = 0) →
     inR ((φ3 11 2 198) - (φ3 11 35 198)) ∧ ((¬ ((φ3 11 2 198) - (φ3 11 35 198)) = 6 →
       inJ (27 * x1) ∧ (0 ≤ (φ3 11 2 198) ∧ (φ3 11 2 198) < (1600 : Nat)) ∧ inJ ((27 * x1) + (α3 199 (φ3 11 2 198))) ∧ inJ (((27 * x1) + (α3 199 (φ3 11 2 198))) - 97) ∧ inJ ((((27 * x1) + (α3 199 (φ3 11 2 198))) - 97) + 1) ∧ inR ((φ3 11 2 198) + 1) ∧ (jX11_name_58 (d + 1) ((((27 * x1) + (α3 199 (φ3 11 2 198))) - 97) + 1) (upf φ3 11 2 198 ((φ3 11 2 198) + 1)) α3 Q)) ∧
       (((φ3 11 2 198) - (φ3 11 35 198)) = 6 →
       (eX11_fail d 1 (φ3 11 2 198) φ3 α3 (fun r13 φ13 α13 =>
         (Q 0 φ13 α13)))))))))))) : jX11_name_58 (d + 1) x1 φ α Q := by
  intro Ln
  refine r_aload_n (pc' := 59) (kX11_name_0 30 rfl) rfl rfl ?_
  refine s_get (x := (φ 11 2 198)) (pc' := 62) (kX11_name_0 31 rfl) rfl fkX11_233 rfl rfl rfl (kz198 Ln) rfl ?_
  refine r_aload_n (pc' := 63) (kX11_name_0 32 rfl) rfl rfl ?_
  refine s_get (x := (φ 11 3 198)) (pc' := 66) (kX11_name_0 33 rfl) rfl fkX11_236 rfl rfl rfl (kz198 Ln) rfl ?_
  refine r_icmp_ge (t := 145) (pc' := 69) (kX11_name_0 34 rfl) rfl rfl (fun c1 => ?_) (fun c1 => ?_)
  · have h := h.1 c1
    refine r_aload_n (pc' := 146) (kX11_name_1 18 rfl) rfl rfl ?_
    refine r_aload_n (pc' := 147) (kX11_name_1 19 rfl) rfl rfl ?_
    refine s_get (x := (φ 11 2 198)) (pc' := 150) (kX11_name_1 20 rfl) rfl fkX11_233 rfl rfl rfl (kz198 Ln) rfl ?_
    refine s_put (pc' := 153) (kX11_name_1 21 rfl) rfl fkX11_247 fnX11_4 rfl pk_int (kz198 Ln) ?_
    refine r_lload_n (pc' := 154) (kX11_name_1 22 rfl) rfl rfl ?_
    exact s_lret (kX11_name_1 23 rfl) rfl h
  · have h := h.2 c1
    refine r_aload_n (pc' := 70) (kX11_name_0 35 rfl) rfl rfl ?_
    refine s_getr (v := 199) (pc' := 73) (kX11_name_0 36 rfl) rfl fkX11_7 rfl rfl (kz198 Ln) rfl (by decide) ?_
    refine r_aload_n (pc' := 74) (kX11_name_0 37 rfl) rfl rfl ?_
    refine s_get (x := (φ 11 2 198)) (pc' := 77) (kX11_name_0 38 rfl) rfl fkX11_233 rfl rfl rfl (kz198 Ln) rfl ?_
    have g2 := h.1
    have h := h.2
    refine s_iald (x := (α 199 (φ 11 2 198))) (pc' := 78) (kX11_name_0 39 rfl) rfl (kz199 Ln) g2 rfl ?_
    refine s_callS (As := [(0, (α 199 (φ 11 2 198)))]) (S := []) (S2 := fun z => [(0, z)]) (pc' := 81) (kX11_name_0 40 rfl) rfl rfl nkX11_isLetter mlX11_243 scX11_isLetter rfl (Nat.le_of_ble_eq_true rfl) (Nat.le_of_ble_eq_true rfl) h (fun z => rfl) (fun r3 φ3 α3 h => ?_)
    refine r_if_eq (t := 145) (pc' := 84) (kX11_name_0 41 rfl) rfl rfl (fun c4 => ?_) (fun c4 => ?_)
    · have h := h.1 c4
      refine r_aload_n (pc' := 146) (kX11_name_1 18 rfl) rfl rfl ?_
      refine r_aload_n (pc' := 147) (kX11_name_1 19 rfl) rfl rfl ?_
      refine s_get (x := (φ3 11 2 198)) (pc' := 150) (kX11_name_1 20 rfl) rfl fkX11_233 rfl rfl rfl (kz198 Ln) rfl ?_
      refine s_put (pc' := 153) (kX11_name_1 21 rfl) rfl fkX11_247 fnX11_4 rfl pk_int (kz198 Ln) ?_
      refine r_lload_n (pc' := 154) (kX11_name_1 22 rfl) rfl rfl ?_
      exact s_lret (kX11_name_1 23 rfl) rfl h
    · have h := h.2 c4
      refine r_aload_n (pc' := 85) (kX11_name_0 42 rfl) rfl rfl ?_
      refine s_get (x := (φ3 11 2 198)) (pc' := 88) (kX11_name_0 43 rfl) rfl fkX11_233 rfl rfl rfl (kz198 Ln) rfl ?_
      refine r_aload_n (pc' := 89) (kX11_name_0 44 rfl) rfl rfl ?_
      refine s_get (x := (φ3 11 35 198)) (pc' := 92) (kX11_name_0 45 rfl) rfl fkX11_278 rfl rfl rfl (kz198 Ln) rfl ?_
      have g5 := h.1
      have h := h.2
      refine r_isub (pc' := 93) (kX11_name_0 46 rfl) rfl g5 ?_
      refine r_bipush 6 (pc' := 95) (kX11_name_0 47 rfl) rfl ⟨by unfold inR; omega, rfl⟩ ?_
      refine r_icmp_ne (t := 109) (pc' := 98) (kX11_name_0 48 rfl) rfl rfl (fun c6 => ?_) (fun c6 => ?_)
      · have h := h.1 c6
        refine r_ldc2 27 (pc' := 112) (kX11_name_0 56 rfl) rfl kcX11_281 (by unfold inJ; omega) ?_
        refine r_lload_n (pc' := 113) (kX11_name_0 57 rfl) rfl rfl ?_
        have g7 := h.1
        have h := h.2
        refine r_lmul (pc' := 114) (kX11_name_0 58 rfl) rfl g7 ?_
        refine r_aload_n (pc' := 115) (kX11_name_0 59 rfl) rfl rfl ?_
        refine s_getr (v := 199) (pc' := 118) (kX11_name_1 0 rfl) rfl fkX11_7 rfl rfl (kz198 Ln) rfl (by decide) ?_
        refine r_aload_n (pc' := 119) (kX11_name_1 1 rfl) rfl rfl ?_
        refine s_get (x := (φ3 11 2 198)) (pc' := 122) (kX11_name_1 2 rfl) rfl fkX11_233 rfl rfl rfl (kz198 Ln) rfl ?_
        have g8 := h.1
        have h := h.2
        refine s_iald (x := (α3 199 (φ3 11 2 198))) (pc' := 123) (kX11_name_1 3 rfl) rfl (kz199 Ln) g8 rfl ?_
        refine r_i2l (pc' := 124) (kX11_name_1 4 rfl) rfl ?_
        have g9 := h.1
        have h := h.2
        refine r_ladd (pc' := 125) (kX11_name_1 5 rfl) rfl g9 ?_
        refine r_ldc2 97 (pc' := 128) (kX11_name_1 6 rfl) rfl kcX11_283 (by unfold inJ; omega) ?_
        have g10 := h.1
        have h := h.2
        refine r_lsub (pc' := 129) (kX11_name_1 7 rfl) rfl g10 ?_
        refine r_lconst 1 (pc' := 130) (kX11_name_1 8 rfl) rfl ⟨by unfold inJ; omega, rfl⟩ ?_
        have g11 := h.1
        have h := h.2
        refine r_ladd (pc' := 131) (kX11_name_1 9 rfl) rfl g11 ?_
        refine r_lstore_n (L' := [(2, 198), (1, ((((27 * x1) + (α3 199 (φ3 11 2 198))) - 97) + 1)), (8, 0)]) (pc' := 132) (kX11_name_1 10 rfl) rfl (Nat.le_of_ble_eq_true rfl) rfl ?_
        refine r_aload_n (pc' := 133) (kX11_name_1 11 rfl) rfl rfl ?_
        refine r_dup (pc' := 134) (kX11_name_1 12 rfl) rfl rfl ?_
        refine s_get (x := (φ3 11 2 198)) (pc' := 137) (kX11_name_1 13 rfl) rfl fkX11_233 rfl rfl rfl (kz198 Ln) rfl ?_
        refine r_iconst 1 (pc' := 138) (kX11_name_1 14 rfl) rfl (by unfold inR; omega) ?_
        have g12 := h.1
        have h := h.2
        refine r_iadd (pc' := 139) (kX11_name_1 15 rfl) rfl g12 ?_
        refine s_put (pc' := 142) (kX11_name_1 16 rfl) rfl fkX11_233 fnX11_2 rfl pk_int (kz198 Ln) ?_
        refine r_goto (pc' := 58) (kX11_name_1 17 rfl) rfl ?_
        exact r_weak (L' := [(2, 198), (1, ((((27 * x1) + (α3 199 (φ3 11 2 198))) - 97) + 1)), (8, 0)]) ⟨Or.inl rfl, Or.inl rfl, Or.inr (by decide), trivial⟩ (h Ln)
      · have h := h.2 c6
        refine r_aload_n (pc' := 99) (kX11_name_0 49 rfl) rfl rfl ?_
        refine r_iconst 1 (pc' := 100) (kX11_name_0 50 rfl) rfl (by unfold inR; omega) ?_
        refine r_aload_n (pc' := 101) (kX11_name_0 51 rfl) rfl rfl ?_
        refine s_get (x := (φ3 11 2 198)) (pc' := 104) (kX11_name_0 52 rfl) rfl fkX11_233 rfl rfl rfl (kz198 Ln) rfl ?_
        refine s_callV (As := [(0, 1), (0, (φ3 11 2 198))]) (o := 198) (S := []) (S2 := fun z => []) (pc' := 107) (kX11_name_0 53 rfl) rfl rfl nkX11_fail mlX11_257 imX11_fail rfl slX11_fail rfl (Nat.le_of_ble_eq_true rfl) (Nat.le_of_ble_eq_true rfl) (kz198 Ln) h (fun z => rfl) (fun r13 φ13 α13 h => ?_)
        refine r_lconst 0 (pc' := 108) (kX11_name_0 54 rfl) rfl ⟨by unfold inJ; omega, rfl⟩ ?_
        exact s_lret (kX11_name_0 55 rfl) rfl h
theorem vX11_isAllowed_0 {d : Nat} {φ : aF} {α : aA} {Q : Int → aF → aA → Prop} {x1 : Int} (h : ((¬ (φ 11 47 198) = 0 →
   ((¬ (φ 11 47 198) = 1 →
     ((x1 < 4 →
       (Q 1 φ α)) ∧
       (¬ (x1 < 4) →
       ((x1 ≤ 7 →
         (Q 0 φ α)) ∧
         (¬ (x1 ≤ 7) →
         (Q 1 φ α)))))) ∧
     ((φ 11 47 198) = 1 →
     ((x1 < 4 →
       (Q 1 φ α)) ∧
       (¬ (x1 < 4) →
       ((¬ x1 = 7 →
         (Q 0 φ α)) ∧
         (x1 = 7 →
         (Q 1 φ α)))))))) ∧
   ((φ 11 47 198) = 0 →
   ((7 ≤ x1 →
     (Q 0 φ α)) ∧
     (¬ (7 ≤ x1) →
     (Q 1 φ α)))))) : eX11_isAllowed d x1 φ α Q := by
  intro Ln
  refine r_aload_n (pc' := 1) (kX11_isAllowed_0 0 rfl) rfl rfl ?_
  refine s_get (x := (φ 11 47 198)) (pc' := 4) (kX11_isAllowed_0 1 rfl) rfl fkX11_285 rfl rfl rfl (kz198 Ln) rfl ?_
  refine r_if_ne (t := 21) (pc' := 7) (kX11_isAllowed_0 2 rfl) rfl rfl (fun c1 => ?_) (fun c1 => ?_)
  · have h := h.1 c1
    refine r_aload_n (pc' := 22) (kX11_isAllowed_0 10 rfl) rfl rfl ?_
    refine s_get (x := (φ 11 47 198)) (pc' := 25) (kX11_isAllowed_0 11 rfl) rfl fkX11_285 rfl rfl rfl (kz198 Ln) rfl ?_
    refine r_iconst 1 (pc' := 26) (kX11_isAllowed_0 12 rfl) rfl (by unfold inR; omega) ?_
    refine r_icmp_ne (t := 48) (pc' := 29) (kX11_isAllowed_0 13 rfl) rfl rfl (fun c2 => ?_) (fun c2 => ?_)
    · have h := h.1 c2
      refine r_iload_n (pc' := 49) (kX11_isAllowed_0 24 rfl) rfl rfl ?_
      refine r_iconst 4 (pc' := 50) (kX11_isAllowed_0 25 rfl) rfl (by unfold inR; omega) ?_
      refine r_icmp_lt (t := 59) (pc' := 53) (kX11_isAllowed_0 26 rfl) rfl rfl (fun c3 => ?_) (fun c3 => ?_)
      · have h := h.1 c3
        refine r_iconst 1 (pc' := 60) (kX11_isAllowed_0 30 rfl) rfl (by unfold inR; omega) ?_
        refine r_goto (pc' := 64) (kX11_isAllowed_0 31 rfl) rfl ?_
        exact s_zret (kX11_isAllowed_0 33 rfl) rfl (Or.inr rfl) h
      · have h := h.2 c3
        refine r_iload_n (pc' := 54) (kX11_isAllowed_0 27 rfl) rfl rfl ?_
        refine r_bipush 7 (pc' := 56) (kX11_isAllowed_0 28 rfl) rfl ⟨by unfold inR; omega, rfl⟩ ?_
        refine r_icmp_le (t := 63) (pc' := 59) (kX11_isAllowed_0 29 rfl) rfl rfl (fun c4 => ?_) (fun c4 => ?_)
        · have h := h.1 c4
          refine r_iconst 0 (pc' := 64) (kX11_isAllowed_0 32 rfl) rfl (by unfold inR; omega) ?_
          exact s_zret (kX11_isAllowed_0 33 rfl) rfl (Or.inl rfl) h
        · have h := h.2 c4
          refine r_iconst 1 (pc' := 60) (kX11_isAllowed_0 30 rfl) rfl (by unfold inR; omega) ?_
          refine r_goto (pc' := 64) (kX11_isAllowed_0 31 rfl) rfl ?_
          exact s_zret (kX11_isAllowed_0 33 rfl) rfl (Or.inr rfl) h
    · have h := h.2 c2
      refine r_iload_n (pc' := 30) (kX11_isAllowed_0 14 rfl) rfl rfl ?_
      refine r_iconst 4 (pc' := 31) (kX11_isAllowed_0 15 rfl) rfl (by unfold inR; omega) ?_
      refine r_icmp_lt (t := 40) (pc' := 34) (kX11_isAllowed_0 16 rfl) rfl rfl (fun c5 => ?_) (fun c5 => ?_)
      · have h := h.1 c5
        refine r_iconst 1 (pc' := 41) (kX11_isAllowed_0 20 rfl) rfl (by unfold inR; omega) ?_
        refine r_goto (pc' := 64) (kX11_isAllowed_0 21 rfl) rfl ?_
        exact s_zret (kX11_isAllowed_0 33 rfl) rfl (Or.inr rfl) h
      · have h := h.2 c5
        refine r_iload_n (pc' := 35) (kX11_isAllowed_0 17 rfl) rfl rfl ?_
        refine r_bipush 7 (pc' := 37) (kX11_isAllowed_0 18 rfl) rfl ⟨by unfold inR; omega, rfl⟩ ?_
        refine r_icmp_ne (t := 44) (pc' := 40) (kX11_isAllowed_0 19 rfl) rfl rfl (fun c6 => ?_) (fun c6 => ?_)
        · have h := h.1 c6
          refine r_iconst 0 (pc' := 45) (kX11_isAllowed_0 22 rfl) rfl (by unfold inR; omega) ?_
          refine r_goto (pc' := 64) (kX11_isAllowed_0 23 rfl) rfl ?_
          exact s_zret (kX11_isAllowed_0 33 rfl) rfl (Or.inl rfl) h
        · have h := h.2 c6
          refine r_iconst 1 (pc' := 41) (kX11_isAllowed_0 20 rfl) rfl (by unfold inR; omega) ?_
          refine r_goto (pc' := 64) (kX11_isAllowed_0 21 rfl) rfl ?_
          exact s_zret (kX11_isAllowed_0 33 rfl) rfl (Or.inr rfl) h
  · have h := h.2 c1
    refine r_iload_n (pc' := 8) (kX11_isAllowed_0 3 rfl) rfl rfl ?_
    refine r_bipush 7 (pc' := 10) (kX11_isAllowed_0 4 rfl) rfl ⟨by unfold inR; omega, rfl⟩ ?_
    refine r_icmp_ge (t := 17) (pc' := 13) (kX11_isAllowed_0 5 rfl) rfl rfl (fun c7 => ?_) (fun c7 => ?_)
    · have h := h.1 c7
      refine r_iconst 0 (pc' := 18) (kX11_isAllowed_0 8 rfl) rfl (by unfold inR; omega) ?_
      refine r_goto (pc' := 64) (kX11_isAllowed_0 9 rfl) rfl ?_
      exact s_zret (kX11_isAllowed_0 33 rfl) rfl (Or.inl rfl) h
    · have h := h.2 c7
      refine r_iconst 1 (pc' := 14) (kX11_isAllowed_0 6 rfl) rfl (by unfold inR; omega) ?_
      refine r_goto (pc' := 64) (kX11_isAllowed_0 7 rfl) rfl ?_
      exact s_zret (kX11_isAllowed_0 33 rfl) rfl (Or.inr rfl) h
theorem vX11_isFull_0 {d : Nat} {φ : aF} {α : aA} {Q : Int → aF → aA → Prop} {x1 : Int} {x2 : Int} {x3 : Int} (h : ((¬ (φ 11 5 198) = 0 →
   (((φ 11 5 198) = 0 →
     (Q 0 φ α)) ∧
     (¬ ((φ 11 5 198) = 0) →
     (Q 1 φ α)))) ∧
   ((φ 11 5 198) = 0 →
   (0 ≤ x1 ∧ x1 < (4 : Nat)) ∧ ((¬ (α 226 x1) = x2 →
     (Q 0 φ α)) ∧
     ((α 226 x1) = x2 →
     (eX11_fail d 5 x3 φ α (fun r5 φ5 α5 =>
       (((φ5 11 5 198) = 0 →
       (Q 0 φ5 α5)) ∧
       (¬ ((φ5 11 5 198) = 0) →
       (Q 1 φ5 α5)))))))))) : eX11_isFull (d + 1) x1 x2 x3 φ α Q := by
  intro Ln
  refine r_aload_n (pc' := 1) (kX11_isFull_0 0 rfl) rfl rfl ?_
  refine s_get (x := (φ 11 5 198)) (pc' := 4) (kX11_isFull_0 1 rfl) rfl fkX11_227 rfl rfl rfl (kz198 Ln) rfl ?_
  refine r_if_ne (t := 23) (pc' := 7) (kX11_isFull_0 2 rfl) rfl rfl (fun c1 => ?_) (fun c1 => ?_)
  · have h := h.1 c1
    refine r_aload_n (pc' := 24) (kX11_isFull_0 13 rfl) rfl rfl ?_
    refine s_get (x := (φ 11 5 198)) (pc' := 27) (kX11_isFull_0 14 rfl) rfl fkX11_227 rfl rfl rfl (kz198 Ln) rfl ?_
    refine r_if_eq (t := 34) (pc' := 30) (kX11_isFull_0 15 rfl) rfl rfl (fun c2 => ?_) (fun c2 => ?_)
    · have h := h.1 c2
      refine r_iconst 0 (pc' := 35) (kX11_isFull_0 18 rfl) rfl (by unfold inR; omega) ?_
      exact s_zret (kX11_isFull_0 19 rfl) rfl (Or.inl rfl) h
    · have h := h.2 c2
      refine r_iconst 1 (pc' := 31) (kX11_isFull_0 16 rfl) rfl (by unfold inR; omega) ?_
      refine r_goto (pc' := 35) (kX11_isFull_0 17 rfl) rfl ?_
      exact s_zret (kX11_isFull_0 19 rfl) rfl (Or.inr rfl) h
  · have h := h.2 c1
    refine r_aload_n (pc' := 8) (kX11_isFull_0 3 rfl) rfl rfl ?_
    refine s_getr (v := 226) (pc' := 11) (kX11_isFull_0 4 rfl) rfl fkX11_96 rfl rfl (kz198 Ln) rfl (by decide) ?_
    refine r_iload_n (pc' := 12) (kX11_isFull_0 5 rfl) rfl rfl ?_
    have g3 := h.1
    have h := h.2
    refine s_iald (x := (α 226 x1)) (pc' := 13) (kX11_isFull_0 6 rfl) rfl (kz226 Ln) g3 rfl ?_
    refine r_iload_n (pc' := 14) (kX11_isFull_0 7 rfl) rfl rfl ?_
    refine r_icmp_ne (t := 23) (pc' := 17) (kX11_isFull_0 8 rfl) rfl rfl (fun c4 => ?_) (fun c4 => ?_)
    · have h := h.1 c4
      refine r_aload_n (pc' := 24) (kX11_isFull_0 13 rfl) rfl rfl ?_
      refine s_get (x := (φ 11 5 198)) (pc' := 27) (kX11_isFull_0 14 rfl) rfl fkX11_227 rfl rfl rfl (kz198 Ln) rfl ?_
      refine r_if_eq (t := 34) (pc' := 30) (kX11_isFull_0 15 rfl) rfl rfl (fun _ => ?_) (fun cz => absurd c1 cz)
      refine r_iconst 0 (pc' := 35) (kX11_isFull_0 18 rfl) rfl (by unfold inR; omega) ?_
      exact s_zret (kX11_isFull_0 19 rfl) rfl (Or.inl rfl) h
    · have h := h.2 c4
      refine r_aload_n (pc' := 18) (kX11_isFull_0 9 rfl) rfl rfl ?_
      refine r_iconst 5 (pc' := 19) (kX11_isFull_0 10 rfl) rfl (by unfold inR; omega) ?_
      refine r_iload_n (pc' := 20) (kX11_isFull_0 11 rfl) rfl rfl ?_
      refine s_callV (As := [(0, 5), (0, x3)]) (o := 198) (S := []) (S2 := fun z => []) (pc' := 23) (kX11_isFull_0 12 rfl) rfl rfl nkX11_fail mlX11_257 imX11_fail rfl slX11_fail rfl (Nat.le_of_ble_eq_true rfl) (Nat.le_of_ble_eq_true rfl) (kz198 Ln) h (fun z => rfl) (fun r5 φ5 α5 h => ?_)
      refine r_aload_n (pc' := 24) (kX11_isFull_0 13 rfl) rfl rfl ?_
      refine s_get (x := (φ5 11 5 198)) (pc' := 27) (kX11_isFull_0 14 rfl) rfl fkX11_227 rfl rfl rfl (kz198 Ln) rfl ?_
      refine r_if_eq (t := 34) (pc' := 30) (kX11_isFull_0 15 rfl) rfl rfl (fun c6 => ?_) (fun c6 => ?_)
      · have h := h.1 c6
        refine r_iconst 0 (pc' := 35) (kX11_isFull_0 18 rfl) rfl (by unfold inR; omega) ?_
        exact s_zret (kX11_isFull_0 19 rfl) rfl (Or.inl rfl) h
      · have h := h.2 c6
        refine r_iconst 1 (pc' := 31) (kX11_isFull_0 16 rfl) rfl (by unfold inR; omega) ?_
        refine r_goto (pc' := 35) (kX11_isFull_0 17 rfl) rfl ?_
        exact s_zret (kX11_isFull_0 19 rfl) rfl (Or.inr rfl) h
abbrev jX11_newName_7 (d : Nat) (x1 x3 : Int) (φ : aF) (α : aA) (Q : Int → aF → aA → Prop) : Prop := R0 d mX11_newName 7 [(2, 198), (1, x1), (8, 0), (0, x3), (9, 0)] [] φ α Q
theorem vX11_newName_0 {d : Nat} {φ : aF} {α : aA} {Q : Int → aF → aA → Prop} (h : (eX11_name d  φ α (fun r1 φ1 α1 =>
   (jX11_newName_7 (d + 1) r1 0 φ1 α1 Q)))) : eX11_newName (d + 1)  φ α Q := by
  intro Ln
  refine r_aload_n (pc' := 1) (kX11_newName_0 0 rfl) rfl rfl ?_
  refine s_callV (As := []) (o := 198) (S := []) (S2 := fun z => [(1, z)]) (pc' := 4) (kX11_newName_0 1 rfl) rfl rfl nkX11_name mlX11_288 imX11_name rfl slX11_name rfl (Nat.le_of_ble_eq_true rfl) (Nat.le_of_ble_eq_true rfl) (kz198 Ln) h (fun z => rfl) (fun r1 φ1 α1 h => ?_)
  refine r_lstore_n (L' := [(2, 198), (1, r1), (8, 0), (9, 0), (9, 0)]) (pc' := 5) (kX11_newName_0 2 rfl) rfl (Nat.le_of_ble_eq_true rfl) rfl ?_
  refine r_iconst 0 (pc' := 6) (kX11_newName_0 3 rfl) rfl (by unfold inR; omega) ?_
  refine r_istore_n (L' := [(2, 198), (1, r1), (8, 0), (0, 0), (9, 0)]) (pc' := 7) (kX11_newName_0 4 rfl) rfl (Nat.le_of_ble_eq_true rfl) rfl ?_
  exact r_weak (L' := [(2, 198), (1, r1), (8, 0), (0, 0), (9, 0)]) ⟨Or.inl rfl, Or.inl rfl, Or.inr (by decide), Or.inl rfl, Or.inr (by decide), trivial⟩ (h Ln)
abbrev jX11_newName_15 (d : Nat) (x1 x3 x4 : Int) (φ : aF) (α : aA) (Q : Int → aF → aA → Prop) : Prop := R0 d mX11_newName 15 [(2, 198), (1, x1), (8, 0), (0, x3), (0, x4)] [] φ α Q
theorem vX11_newName_7 {d : Nat} {φ : aF} {α : aA} {Q : Int → aF → aA → Prop} {x1 : Int} {x3 : Int} (h : ((2 ≤ x3 →
   (Q x1 φ α)) ∧
   (¬ (2 ≤ x3) →
   (jX11_newName_15 (d + 1) x1 x3 0 φ α Q)))) : jX11_newName_7 (d + 1) x1 x3 φ α Q := by
  intro Ln
  refine r_iload_n (pc' := 8) (kX11_newName_0 5 rfl) rfl rfl ?_
  refine r_iconst 2 (pc' := 9) (kX11_newName_0 6 rfl) rfl (by unfold inR; omega) ?_
  refine r_icmp_ge (t := 71) (pc' := 12) (kX11_newName_0 7 rfl) rfl rfl (fun c1 => ?_) (fun c1 => ?_)
  · have h := h.1 c1
    refine r_lload_n (pc' := 72) (kX11_newName_0 39 rfl) rfl rfl ?_
    exact s_lret (kX11_newName_0 40 rfl) rfl h
  · have h := h.2 c1
    refine r_iconst 0 (pc' := 13) (kX11_newName_0 8 rfl) rfl (by unfold inR; omega) ?_
    refine r_istore (L' := [(2, 198), (1, x1), (8, 0), (0, x3), (0, 0)]) (pc' := 15) (kX11_newName_0 9 rfl) rfl (Nat.le_of_ble_eq_true rfl) rfl ?_
    exact r_weak (L' := [(2, 198), (1, x1), (8, 0), (0, x3), (0, 0)]) ⟨Or.inl rfl, Or.inl rfl, Or.inr (by decide), Or.inl rfl, Or.inl rfl, trivial⟩ (h Ln)
theorem vX11_newName_15 {d : Nat} {φ : aF} {α : aA} {Q : Int → aF → aA → Prop} {x1 : Int} {x3 : Int} {x4 : Int} (h : (0 ≤ x3 ∧ x3 < (4 : Nat)) ∧ (((α 226 x3) ≤ x4 →
   inR (x3 + 1) ∧ (jX11_newName_7 (d + 1) x1 (x3 + 1) φ α Q)) ∧
   (¬ ((α 226 x3) ≤ x4) →
   ((¬ (φ 11 5 198) = 0 →
     inR (x4 + 1) ∧ (jX11_newName_15 (d + 1) x1 x3 (x4 + 1) φ α Q)) ∧
     ((φ 11 5 198) = 0 →
     inR (8 * x3) ∧ inR ((8 * x3) + x4) ∧ (0 ≤ ((8 * x3) + x4) ∧ ((8 * x3) + x4) < (32 : Nat)) ∧ ((¬ (j3 (α 227 ((8 * x3) + x4)) x1) = 0 →
       inR (x4 + 1) ∧ (jX11_newName_15 (d + 1) x1 x3 (x4 + 1) φ α Q)) ∧
       ((j3 (α 227 ((8 * x3) + x4)) x1) = 0 →
       (eX11_fail d 3 (φ 11 35 198) φ α (fun r11 φ11 α11 =>
         inR (x4 + 1) ∧ (jX11_newName_15 (d + 1) x1 x3 (x4 + 1) φ11 α11 Q)))))))))) : jX11_newName_15 (d + 1) x1 x3 x4 φ α Q := by
  intro Ln
  refine r_iload (pc' := 17) (kX11_newName_0 10 rfl) rfl rfl ?_
  refine r_aload_n (pc' := 18) (kX11_newName_0 11 rfl) rfl rfl ?_
  refine s_getr (v := 226) (pc' := 21) (kX11_newName_0 12 rfl) rfl fkX11_96 rfl rfl (kz198 Ln) rfl (by decide) ?_
  refine r_iload_n (pc' := 22) (kX11_newName_0 13 rfl) rfl rfl ?_
  have g1 := h.1
  have h := h.2
  refine s_iald (x := (α 226 x3)) (pc' := 23) (kX11_newName_0 14 rfl) rfl (kz226 Ln) g1 rfl ?_
  refine r_icmp_ge (t := 65) (pc' := 26) (kX11_newName_0 15 rfl) rfl rfl (fun c2 => ?_) (fun c2 => ?_)
  · have h := h.1 c2
    have g3 := h.1
    have h := h.2
    refine r_iinc (L' := [(2, 198), (1, x1), (8, 0), (0, (x3 + 1)), (0, x4)]) (pc' := 68) (kX11_newName_0 37 rfl) rfl (Nat.le_of_ble_eq_true rfl) rfl g3 rfl ?_
    refine r_goto (pc' := 7) (kX11_newName_0 38 rfl) rfl ?_
    exact r_weak (L' := [(2, 198), (1, x1), (8, 0), (0, (x3 + 1)), (9, 0)]) ⟨Or.inl rfl, Or.inl rfl, Or.inr (by decide), Or.inl rfl, Or.inr (by decide), trivial⟩ (h Ln)
  · have h := h.2 c2
    refine r_aload_n (pc' := 27) (kX11_newName_0 16 rfl) rfl rfl ?_
    refine s_get (x := (φ 11 5 198)) (pc' := 30) (kX11_newName_0 17 rfl) rfl fkX11_227 rfl rfl rfl (kz198 Ln) rfl ?_
    refine r_if_ne (t := 59) (pc' := 33) (kX11_newName_0 18 rfl) rfl rfl (fun c4 => ?_) (fun c4 => ?_)
    · have h := h.1 c4
      have g5 := h.1
      have h := h.2
      refine r_iinc (L' := [(2, 198), (1, x1), (8, 0), (0, x3), (0, (x4 + 1))]) (pc' := 62) (kX11_newName_0 35 rfl) rfl (Nat.le_of_ble_eq_true rfl) rfl g5 rfl ?_
      refine r_goto (pc' := 15) (kX11_newName_0 36 rfl) rfl ?_
      exact r_weak (L' := [(2, 198), (1, x1), (8, 0), (0, x3), (0, (x4 + 1))]) ⟨Or.inl rfl, Or.inl rfl, Or.inr (by decide), Or.inl rfl, Or.inl rfl, trivial⟩ (h Ln)
    · have h := h.2 c4
      refine r_aload_n (pc' := 34) (kX11_newName_0 19 rfl) rfl rfl ?_
      refine s_getr (v := 227) (pc' := 37) (kX11_newName_0 20 rfl) rfl fkX11_99 rfl rfl (kz198 Ln) rfl (by decide) ?_
      refine r_bipush 8 (pc' := 39) (kX11_newName_0 21 rfl) rfl ⟨by unfold inR; omega, rfl⟩ ?_
      refine r_iload_n (pc' := 40) (kX11_newName_0 22 rfl) rfl rfl ?_
      have g6 := h.1
      have h := h.2
      refine r_imul (pc' := 41) (kX11_newName_0 23 rfl) rfl g6 ?_
      refine r_iload (pc' := 43) (kX11_newName_0 24 rfl) rfl rfl ?_
      have g7 := h.1
      have h := h.2
      refine r_iadd (pc' := 44) (kX11_newName_0 25 rfl) rfl g7 ?_
      have g8 := h.1
      have h := h.2
      refine s_lald (x := (α 227 ((8 * x3) + x4))) (pc' := 45) (kX11_newName_0 26 rfl) rfl (kz227 Ln) g8 rfl ?_
      refine r_lload_n (pc' := 46) (kX11_newName_0 27 rfl) rfl rfl ?_
      refine r_lcmp (pc' := 47) (kX11_newName_0 28 rfl) rfl ?_
      refine r_if_ne (t := 59) (pc' := 50) (kX11_newName_0 29 rfl) rfl rfl (fun c9 => ?_) (fun c9 => ?_)
      · have h := h.1 c9
        have g10 := h.1
        have h := h.2
        refine r_iinc (L' := [(2, 198), (1, x1), (8, 0), (0, x3), (0, (x4 + 1))]) (pc' := 62) (kX11_newName_0 35 rfl) rfl (Nat.le_of_ble_eq_true rfl) rfl g10 rfl ?_
        refine r_goto (pc' := 15) (kX11_newName_0 36 rfl) rfl ?_
        exact r_weak (L' := [(2, 198), (1, x1), (8, 0), (0, x3), (0, (x4 + 1))]) ⟨Or.inl rfl, Or.inl rfl, Or.inr (by decide), Or.inl rfl, Or.inl rfl, trivial⟩ (h Ln)
      · have h := h.2 c9
        refine r_aload_n (pc' := 51) (kX11_newName_0 30 rfl) rfl rfl ?_
        refine r_iconst 3 (pc' := 52) (kX11_newName_0 31 rfl) rfl (by unfold inR; omega) ?_
        refine r_aload_n (pc' := 53) (kX11_newName_0 32 rfl) rfl rfl ?_
        refine s_get (x := (φ 11 35 198)) (pc' := 56) (kX11_newName_0 33 rfl) rfl fkX11_278 rfl rfl rfl (kz198 Ln) rfl ?_
        refine s_callV (As := [(0, 3), (0, (φ 11 35 198))]) (o := 198) (S := []) (S2 := fun z => []) (pc' := 59) (kX11_newName_0 34 rfl) rfl rfl nkX11_fail mlX11_257 imX11_fail rfl slX11_fail rfl (Nat.le_of_ble_eq_true rfl) (Nat.le_of_ble_eq_true rfl) (kz198 Ln) h (fun z => rfl) (fun r11 φ11 α11 h => ?_)
        have g12 := h.1
        have h := h.2
        refine r_iinc (L' := [(2, 198), (1, x1), (8, 0), (0, x3), (0, (x4 + 1))]) (pc' := 62) (kX11_newName_0 35 rfl) rfl (Nat.le_of_ble_eq_true rfl) rfl g12 rfl ?_
        refine r_goto (pc' := 15) (kX11_newName_0 36 rfl) rfl ?_
        exact r_weak (L' := [(2, 198), (1, x1), (8, 0), (0, x3), (0, (x4 + 1))]) ⟨Or.inl rfl, Or.inl rfl, Or.inr (by decide), Or.inl rfl, Or.inl rfl, trivial⟩ (h Ln)
abbrev jX11_named_8 (d : Nat) (x1 x2 x4 : Int) (φ : aF) (α : aA) (Q : Int → aF → aA → Prop) : Prop := R0 d mX11_named 8 [(2, 198), (0, x1), (1, x2), (8, 0), (0, x4)] [] φ α Q
theorem vX11_named_0 {d : Nat} {φ : aF} {α : aA} {Q : Int → aF → aA → Prop} {x1 : Int} (h : (eX11_name d  φ α (fun r1 φ1 α1 =>
   (jX11_named_8 (d + 1) x1 r1 0 φ1 α1 Q)))) : eX11_named (d + 1) x1 φ α Q := by
  intro Ln
  refine r_aload_n (pc' := 1) (kX11_named_0 0 rfl) rfl rfl ?_
  refine s_callV (As := []) (o := 198) (S := []) (S2 := fun z => [(1, z)]) (pc' := 4) (kX11_named_0 1 rfl) rfl rfl nkX11_name mlX11_288 imX11_name rfl slX11_name rfl (Nat.le_of_ble_eq_true rfl) (Nat.le_of_ble_eq_true rfl) (kz198 Ln) h (fun z => rfl) (fun r1 φ1 α1 h => ?_)
  refine r_lstore_n (L' := [(2, 198), (0, x1), (1, r1), (8, 0), (9, 0)]) (pc' := 5) (kX11_named_0 2 rfl) rfl (Nat.le_of_ble_eq_true rfl) rfl ?_
  refine r_iconst 0 (pc' := 6) (kX11_named_0 3 rfl) rfl (by unfold inR; omega) ?_
  refine r_istore (L' := [(2, 198), (0, x1), (1, r1), (8, 0), (0, 0)]) (pc' := 8) (kX11_named_0 4 rfl) rfl (Nat.le_of_ble_eq_true rfl) rfl ?_
  exact r_weak (L' := [(2, 198), (0, x1), (1, r1), (8, 0), (0, 0)]) ⟨Or.inl rfl, Or.inl rfl, Or.inl rfl, Or.inr (by decide), Or.inl rfl, trivial⟩ (h Ln)
theorem vX11_named_8 {d : Nat} {φ : aF} {α : aA} {Q : Int → aF → aA → Prop} {x1 : Int} {x2 : Int} {x4 : Int} (h : (0 ≤ x1 ∧ x1 < (4 : Nat)) ∧ (((α 226 x1) ≤ x4 →
   ((¬ (φ 11 5 198) = 0 →
     (Q 0 φ α)) ∧
     ((φ 11 5 198) = 0 →
     (eX11_fail d 3 (φ 11 35 198) φ α (fun r4 φ4 α4 =>
       (Q 0 φ4 α4)))))) ∧
   (¬ ((α 226 x1) ≤ x4) →
   inR (8 * x1) ∧ inR ((8 * x1) + x4) ∧ (0 ≤ ((8 * x1) + x4) ∧ ((8 * x1) + x4) < (32 : Nat)) ∧ ((¬ (j3 (α 227 ((8 * x1) + x4)) x2) = 0 →
     inR (x4 + 1) ∧ (jX11_named_8 (d + 1) x1 x2 (x4 + 1) φ α Q)) ∧
     ((j3 (α 227 ((8 * x1) + x4)) x2) = 0 →
     (Q x4 φ α)))))) : jX11_named_8 (d + 1) x1 x2 x4 φ α Q := by
  intro Ln
  refine r_iload (pc' := 10) (kX11_named_0 5 rfl) rfl rfl ?_
  refine r_aload_n (pc' := 11) (kX11_named_0 6 rfl) rfl rfl ?_
  refine s_getr (v := 226) (pc' := 14) (kX11_named_0 7 rfl) rfl fkX11_96 rfl rfl (kz198 Ln) rfl (by decide) ?_
  refine r_iload_n (pc' := 15) (kX11_named_0 8 rfl) rfl rfl ?_
  have g1 := h.1
  have h := h.2
  refine s_iald (x := (α 226 x1)) (pc' := 16) (kX11_named_0 9 rfl) rfl (kz226 Ln) g1 rfl ?_
  refine r_icmp_ge (t := 45) (pc' := 19) (kX11_named_0 10 rfl) rfl rfl (fun c2 => ?_) (fun c2 => ?_)
  · have h := h.1 c2
    refine r_aload_n (pc' := 46) (kX11_named_0 26 rfl) rfl rfl ?_
    refine s_get (x := (φ 11 5 198)) (pc' := 49) (kX11_named_0 27 rfl) rfl fkX11_227 rfl rfl rfl (kz198 Ln) rfl ?_
    refine r_if_ne (t := 61) (pc' := 52) (kX11_named_0 28 rfl) rfl rfl (fun c3 => ?_) (fun c3 => ?_)
    · have h := h.1 c3
      refine r_iconst 0 (pc' := 62) (kX11_named_0 34 rfl) rfl (by unfold inR; omega) ?_
      exact s_iret (kX11_named_0 35 rfl) rfl h
    · have h := h.2 c3
      refine r_aload_n (pc' := 53) (kX11_named_0 29 rfl) rfl rfl ?_
      refine r_iconst 3 (pc' := 54) (kX11_named_0 30 rfl) rfl (by unfold inR; omega) ?_
      refine r_aload_n (pc' := 55) (kX11_named_0 31 rfl) rfl rfl ?_
      refine s_get (x := (φ 11 35 198)) (pc' := 58) (kX11_named_0 32 rfl) rfl fkX11_278 rfl rfl rfl (kz198 Ln) rfl ?_
      refine s_callV (As := [(0, 3), (0, (φ 11 35 198))]) (o := 198) (S := []) (S2 := fun z => []) (pc' := 61) (kX11_named_0 33 rfl) rfl rfl nkX11_fail mlX11_257 imX11_fail rfl slX11_fail rfl (Nat.le_of_ble_eq_true rfl) (Nat.le_of_ble_eq_true rfl) (kz198 Ln) h (fun z => rfl) (fun r4 φ4 α4 h => ?_)
      refine r_iconst 0 (pc' := 62) (kX11_named_0 34 rfl) rfl (by unfold inR; omega) ?_
      exact s_iret (kX11_named_0 35 rfl) rfl h
  · have h := h.2 c2
    refine r_aload_n (pc' := 20) (kX11_named_0 11 rfl) rfl rfl ?_
    refine s_getr (v := 227) (pc' := 23) (kX11_named_0 12 rfl) rfl fkX11_99 rfl rfl (kz198 Ln) rfl (by decide) ?_
    refine r_bipush 8 (pc' := 25) (kX11_named_0 13 rfl) rfl ⟨by unfold inR; omega, rfl⟩ ?_
    refine r_iload_n (pc' := 26) (kX11_named_0 14 rfl) rfl rfl ?_
    have g5 := h.1
    have h := h.2
    refine r_imul (pc' := 27) (kX11_named_0 15 rfl) rfl g5 ?_
    refine r_iload (pc' := 29) (kX11_named_0 16 rfl) rfl rfl ?_
    have g6 := h.1
    have h := h.2
    refine r_iadd (pc' := 30) (kX11_named_0 17 rfl) rfl g6 ?_
    have g7 := h.1
    have h := h.2
    refine s_lald (x := (α 227 ((8 * x1) + x4))) (pc' := 31) (kX11_named_0 18 rfl) rfl (kz227 Ln) g7 rfl ?_
    refine r_lload_n (pc' := 32) (kX11_named_0 19 rfl) rfl rfl ?_
    refine r_lcmp (pc' := 33) (kX11_named_0 20 rfl) rfl ?_
    refine r_if_ne (t := 39) (pc' := 36) (kX11_named_0 21 rfl) rfl rfl (fun c8 => ?_) (fun c8 => ?_)
    · have h := h.1 c8
      have g9 := h.1
      have h := h.2
      refine r_iinc (L' := [(2, 198), (0, x1), (1, x2), (8, 0), (0, (x4 + 1))]) (pc' := 42) (kX11_named_0 24 rfl) rfl (Nat.le_of_ble_eq_true rfl) rfl g9 rfl ?_
      refine r_goto (pc' := 8) (kX11_named_0 25 rfl) rfl ?_
      exact r_weak (L' := [(2, 198), (0, x1), (1, x2), (8, 0), (0, (x4 + 1))]) ⟨Or.inl rfl, Or.inl rfl, Or.inl rfl, Or.inr (by decide), Or.inl rfl, trivial⟩ (h Ln)
    · have h := h.2 c8
      refine r_iload (pc' := 38) (kX11_named_0 22 rfl) rfl rfl ?_
      exact s_iret (kX11_named_0 23 rfl) rfl h
theorem vX11_seatsTold_0 {d : Nat} {φ : aF} {α : aA} {Q : Int → aF → aA → Prop} (h : (eX11_asks d 201 φ α (fun r1 φ1 α1 =>
   (eX11_number d 2 9 φ1 α1 (fun r2 φ2 α2 =>
   (eX11_asksSign d 59 φ2 (upa α2 225 0 r2) (fun r3 φ3 α3 =>
   (Q 0 φ3 α3)))))))) : eX11_seatsTold (d + 1)  φ α Q := by
  intro Ln
  refine r_aload_n (pc' := 1) (kX11_seatsTold_0 0 rfl) rfl rfl ?_
  refine r_aload_n (pc' := 2) (kX11_seatsTold_0 1 rfl) rfl rfl ?_
  refine s_getr (v := 201) (pc' := 5) (kX11_seatsTold_0 2 rfl) rfl fkX11_20 rfl rfl (kz198 Ln) rfl (by decide) ?_
  refine s_callV (As := [(2, 201)]) (o := 198) (S := []) (S2 := fun z => []) (pc' := 8) (kX11_seatsTold_0 3 rfl) rfl rfl nkX11_asks mlX11_292 imX11_asks rfl slX11_asks rfl (Nat.le_of_ble_eq_true rfl) (Nat.le_of_ble_eq_true rfl) (kz198 Ln) h (fun z => rfl) (fun r1 φ1 α1 h => ?_)
  refine r_aload_n (pc' := 9) (kX11_seatsTold_0 4 rfl) rfl rfl ?_
  refine s_getr (v := 225) (pc' := 12) (kX11_seatsTold_0 5 rfl) rfl fkX11_93 rfl rfl (kz198 Ln) rfl (by decide) ?_
  refine r_iconst 0 (pc' := 13) (kX11_seatsTold_0 6 rfl) rfl (by unfold inR; omega) ?_
  refine r_aload_n (pc' := 14) (kX11_seatsTold_0 7 rfl) rfl rfl ?_
  refine r_iconst 2 (pc' := 15) (kX11_seatsTold_0 8 rfl) rfl (by unfold inR; omega) ?_
  refine r_bipush 9 (pc' := 17) (kX11_seatsTold_0 9 rfl) rfl ⟨by unfold inR; omega, rfl⟩ ?_
  refine s_callV (As := [(0, 2), (0, 9)]) (o := 198) (S := [(0, 0), (2, 225)]) (S2 := fun z => [(0, z), (0, 0), (2, 225)]) (pc' := 20) (kX11_seatsTold_0 10 rfl) rfl rfl nkX11_number mlX11_296 imX11_number rfl slX11_number rfl (Nat.le_of_ble_eq_true rfl) (Nat.le_of_ble_eq_true rfl) (kz198 Ln) h (fun z => rfl) (fun r2 φ2 α2 h => ?_)
  refine s_iast (pc' := 21) (kX11_seatsTold_0 11 rfl) rfl (kz225 Ln) ⟨by decide, by decide⟩ ?_
  refine r_aload_n (pc' := 22) (kX11_seatsTold_0 12 rfl) rfl rfl ?_
  refine r_bipush 59 (pc' := 24) (kX11_seatsTold_0 13 rfl) rfl ⟨by unfold inR; omega, rfl⟩ ?_
  refine s_callV (As := [(0, 59)]) (o := 198) (S := []) (S2 := fun z => []) (pc' := 27) (kX11_seatsTold_0 14 rfl) rfl rfl nkX11_asksSign mlX11_300 imX11_asksSign rfl slX11_asksSign rfl (Nat.le_of_ble_eq_true rfl) (Nat.le_of_ble_eq_true rfl) (kz198 Ln) h (fun z => rfl) (fun r3 φ3 α3 h => ?_)
  exact s_vret (kX11_seatsTold_0 15 rfl) rfl h
theorem vX11_matterTold_0 {d : Nat} {φ : aF} {α : aA} {Q : Int → aF → aA → Prop} {x1 : Int} (h : (eX11_isFull d 0 4 x1 φ α (fun r1 φ1 α1 =>
   ((r1 = 0 →
   (eX11_newName d  φ1 α1 (fun r3 φ3 α3 =>
     (((φ3 11 5 198) = 0 →
     (0 ≤ (α3 226 0) ∧ (α3 226 0) < (32 : Nat)) ∧ inR ((α3 226 0) + 1) ∧ (Q 0 φ3 (upa (upa α3 227 (α3 226 0) r3) 226 0 ((α3 226 0) + 1)))) ∧
     (¬ ((φ3 11 5 198) = 0) →
     (Q 0 φ3 α3)))))) ∧
   (¬ (r1 = 0) →
   (Q 0 φ1 α1)))))) : eX11_matterTold (d + 1) x1 φ α Q := by
  intro Ln
  refine r_aload_n (pc' := 1) (kX11_matterTold_0 0 rfl) rfl rfl ?_
  refine r_iconst 0 (pc' := 2) (kX11_matterTold_0 1 rfl) rfl (by unfold inR; omega) ?_
  refine r_iconst 4 (pc' := 3) (kX11_matterTold_0 2 rfl) rfl (by unfold inR; omega) ?_
  refine r_iload_n (pc' := 4) (kX11_matterTold_0 3 rfl) rfl rfl ?_
  refine s_callV (As := [(0, 0), (0, 4), (0, x1)]) (o := 198) (S := []) (S2 := fun z => [(0, z)]) (pc' := 7) (kX11_matterTold_0 4 rfl) rfl rfl nkX11_isFull mlX11_304 imX11_isFull rfl slX11_isFull rfl (Nat.le_of_ble_eq_true rfl) (Nat.le_of_ble_eq_true rfl) (kz198 Ln) h (fun z => rfl) (fun r1 φ1 α1 h => ?_)
  refine r_if_eq (t := 11) (pc' := 10) (kX11_matterTold_0 5 rfl) rfl rfl (fun c2 => ?_) (fun c2 => ?_)
  · have h := h.1 c2
    refine r_aload_n (pc' := 12) (kX11_matterTold_0 7 rfl) rfl rfl ?_
    refine s_callV (As := []) (o := 198) (S := []) (S2 := fun z => [(1, z)]) (pc' := 15) (kX11_matterTold_0 8 rfl) rfl rfl nkX11_newName mlX11_308 imX11_newName rfl slX11_newName rfl (Nat.le_of_ble_eq_true rfl) (Nat.le_of_ble_eq_true rfl) (kz198 Ln) h (fun z => rfl) (fun r3 φ3 α3 h => ?_)
    refine r_lstore_n (L' := [(2, 198), (0, x1), (1, r3), (8, 0)]) (pc' := 16) (kX11_matterTold_0 9 rfl) rfl (Nat.le_of_ble_eq_true rfl) rfl ?_
    refine r_aload_n (pc' := 17) (kX11_matterTold_0 10 rfl) rfl rfl ?_
    refine s_get (x := (φ3 11 5 198)) (pc' := 20) (kX11_matterTold_0 11 rfl) rfl fkX11_227 rfl rfl rfl (kz198 Ln) rfl ?_
    refine r_if_eq (t := 24) (pc' := 23) (kX11_matterTold_0 12 rfl) rfl rfl (fun c4 => ?_) (fun c4 => ?_)
    · have h := h.1 c4
      refine r_aload_n (pc' := 25) (kX11_matterTold_0 14 rfl) rfl rfl ?_
      refine s_getr (v := 227) (pc' := 28) (kX11_matterTold_0 15 rfl) rfl fkX11_99 rfl rfl (kz198 Ln) rfl (by decide) ?_
      refine r_aload_n (pc' := 29) (kX11_matterTold_0 16 rfl) rfl rfl ?_
      refine s_getr (v := 226) (pc' := 32) (kX11_matterTold_0 17 rfl) rfl fkX11_96 rfl rfl (kz198 Ln) rfl (by decide) ?_
      refine r_iconst 0 (pc' := 33) (kX11_matterTold_0 18 rfl) rfl (by unfold inR; omega) ?_
      refine s_iald (x := (α3 226 0)) (pc' := 34) (kX11_matterTold_0 19 rfl) rfl (kz226 Ln) ⟨by decide, by decide⟩ rfl ?_
      refine r_lload_n (pc' := 35) (kX11_matterTold_0 20 rfl) rfl rfl ?_
      have g5 := h.1
      have h := h.2
      refine s_last (pc' := 36) (kX11_matterTold_0 21 rfl) rfl (kz227 Ln) g5 ?_
      refine r_aload_n (pc' := 37) (kX11_matterTold_0 22 rfl) rfl rfl ?_
      refine s_getr (v := 226) (pc' := 40) (kX11_matterTold_0 23 rfl) rfl fkX11_96 rfl rfl (kz198 Ln) rfl (by decide) ?_
      refine r_iconst 0 (pc' := 41) (kX11_matterTold_0 24 rfl) rfl (by unfold inR; omega) ?_
      refine r_dup2 (pc' := 42) (kX11_matterTold_0 25 rfl) rfl rfl rfl ?_
      refine s_iald (x := (α3 226 0)) (pc' := 43) (kX11_matterTold_0 26 rfl) rfl (kz226 Ln) ⟨by decide, by decide⟩ rfl ?_
      refine r_iconst 1 (pc' := 44) (kX11_matterTold_0 27 rfl) rfl (by unfold inR; omega) ?_
      have g6 := h.1
      have h := h.2
      refine r_iadd (pc' := 45) (kX11_matterTold_0 28 rfl) rfl g6 ?_
      refine s_iast (pc' := 46) (kX11_matterTold_0 29 rfl) rfl (kz226 Ln) ⟨by decide, by decide⟩ ?_
      exact s_vret (kX11_matterTold_0 30 rfl) rfl h
    · have h := h.2 c4
      exact s_vret (kX11_matterTold_0 13 rfl) rfl h
  · have h := h.2 c2
    exact s_vret (kX11_matterTold_0 6 rfl) rfl h
abbrev jX11_clerkTold_43 (d : Nat) (x2 x4 x5 : Int) (φ : aF) (α : aA) (Q : Int → aF → aA → Prop) : Prop := R0 d mX11_clerkTold 43 [(2, 198), (9, 0), (1, x2), (8, 0), (0, x4), (0, x5), (9, 0), (9, 0)] [] φ α Q
theorem vX11_clerkTold_0 {d : Nat} {φ : aF} {α : aA} {Q : Int → aF → aA → Prop} {x1 : Int} (h : (eX11_isFull d 1 7 x1 φ α (fun r1 φ1 α1 =>
   ((r1 = 0 →
   (eX11_newName d  φ1 α1 (fun r3 φ3 α3 =>
     (eX11_asks d 204 φ3 α3 (fun r4 φ4 α4 =>
     inR ((α4 225 0) - 1) ∧ (eX11_number d 0 ((α4 225 0) - 1) φ4 α4 (fun r6 φ6 α6 =>
     (jX11_clerkTold_43 (d + 1) r3 r6 0 φ6 α6 Q)))))))) ∧
   (¬ (r1 = 0) →
   (Q 0 φ1 α1)))))) : eX11_clerkTold (d + 1) x1 φ α Q := by
  intro Ln
  refine r_aload_n (pc' := 1) (kX11_clerkTold_0 0 rfl) rfl rfl ?_
  refine r_iconst 1 (pc' := 2) (kX11_clerkTold_0 1 rfl) rfl (by unfold inR; omega) ?_
  refine r_bipush 7 (pc' := 4) (kX11_clerkTold_0 2 rfl) rfl ⟨by unfold inR; omega, rfl⟩ ?_
  refine r_iload_n (pc' := 5) (kX11_clerkTold_0 3 rfl) rfl rfl ?_
  refine s_callV (As := [(0, 1), (0, 7), (0, x1)]) (o := 198) (S := []) (S2 := fun z => [(0, z)]) (pc' := 8) (kX11_clerkTold_0 4 rfl) rfl rfl nkX11_isFull mlX11_304 imX11_isFull rfl slX11_isFull rfl (Nat.le_of_ble_eq_true rfl) (Nat.le_of_ble_eq_true rfl) (kz198 Ln) h (fun z => rfl) (fun r1 φ1 α1 h => ?_)
  refine r_if_eq (t := 12) (pc' := 11) (kX11_clerkTold_0 5 rfl) rfl rfl (fun c2 => ?_) (fun c2 => ?_)
  · have h := h.1 c2
    refine r_aload_n (pc' := 13) (kX11_clerkTold_0 7 rfl) rfl rfl ?_
    refine s_callV (As := []) (o := 198) (S := []) (S2 := fun z => [(1, z)]) (pc' := 16) (kX11_clerkTold_0 8 rfl) rfl rfl nkX11_newName mlX11_308 imX11_newName rfl slX11_newName rfl (Nat.le_of_ble_eq_true rfl) (Nat.le_of_ble_eq_true rfl) (kz198 Ln) h (fun z => rfl) (fun r3 φ3 α3 h => ?_)
    refine r_lstore_n (L' := [(2, 198), (0, x1), (1, r3), (8, 0), (9, 0), (9, 0), (9, 0), (9, 0)]) (pc' := 17) (kX11_clerkTold_0 9 rfl) rfl (Nat.le_of_ble_eq_true rfl) rfl ?_
    refine r_aload_n (pc' := 18) (kX11_clerkTold_0 10 rfl) rfl rfl ?_
    refine r_aload_n (pc' := 19) (kX11_clerkTold_0 11 rfl) rfl rfl ?_
    refine s_getr (v := 204) (pc' := 22) (kX11_clerkTold_0 12 rfl) rfl fkX11_30 rfl rfl (kz198 Ln) rfl (by decide) ?_
    refine s_callV (As := [(2, 204)]) (o := 198) (S := []) (S2 := fun z => []) (pc' := 25) (kX11_clerkTold_0 13 rfl) rfl rfl nkX11_asks mlX11_292 imX11_asks rfl slX11_asks rfl (Nat.le_of_ble_eq_true rfl) (Nat.le_of_ble_eq_true rfl) (kz198 Ln) h (fun z => rfl) (fun r4 φ4 α4 h => ?_)
    refine r_aload_n (pc' := 26) (kX11_clerkTold_0 14 rfl) rfl rfl ?_
    refine r_iconst 0 (pc' := 27) (kX11_clerkTold_0 15 rfl) rfl (by unfold inR; omega) ?_
    refine r_aload_n (pc' := 28) (kX11_clerkTold_0 16 rfl) rfl rfl ?_
    refine s_getr (v := 225) (pc' := 31) (kX11_clerkTold_0 17 rfl) rfl fkX11_93 rfl rfl (kz198 Ln) rfl (by decide) ?_
    refine r_iconst 0 (pc' := 32) (kX11_clerkTold_0 18 rfl) rfl (by unfold inR; omega) ?_
    refine s_iald (x := (α4 225 0)) (pc' := 33) (kX11_clerkTold_0 19 rfl) rfl (kz225 Ln) ⟨by decide, by decide⟩ rfl ?_
    refine r_iconst 1 (pc' := 34) (kX11_clerkTold_0 20 rfl) rfl (by unfold inR; omega) ?_
    have g5 := h.1
    have h := h.2
    refine r_isub (pc' := 35) (kX11_clerkTold_0 21 rfl) rfl g5 ?_
    refine s_callV (As := [(0, 0), (0, ((α4 225 0) - 1))]) (o := 198) (S := []) (S2 := fun z => [(0, z)]) (pc' := 38) (kX11_clerkTold_0 22 rfl) rfl rfl nkX11_number mlX11_296 imX11_number rfl slX11_number rfl (Nat.le_of_ble_eq_true rfl) (Nat.le_of_ble_eq_true rfl) (kz198 Ln) h (fun z => rfl) (fun r6 φ6 α6 h => ?_)
    refine r_istore (L' := [(2, 198), (0, x1), (1, r3), (8, 0), (0, r6), (9, 0), (9, 0), (9, 0)]) (pc' := 40) (kX11_clerkTold_0 23 rfl) rfl (Nat.le_of_ble_eq_true rfl) rfl ?_
    refine r_iconst 0 (pc' := 41) (kX11_clerkTold_0 24 rfl) rfl (by unfold inR; omega) ?_
    refine r_istore (L' := [(2, 198), (0, x1), (1, r3), (8, 0), (0, r6), (0, 0), (9, 0), (9, 0)]) (pc' := 43) (kX11_clerkTold_0 25 rfl) rfl (Nat.le_of_ble_eq_true rfl) rfl ?_
    exact r_weak (L' := [(2, 198), (9, 0), (1, r3), (8, 0), (0, r6), (0, 0), (9, 0), (9, 0)]) ⟨Or.inl rfl, Or.inr (by decide), Or.inl rfl, Or.inr (by decide), Or.inl rfl, Or.inl rfl, Or.inr (by decide), Or.inr (by decide), trivial⟩ (h Ln)
  · have h := h.2 c2
    exact s_vret (kX11_clerkTold_0 6 rfl) rfl h
abbrev jX11_clerkTold_161 (d : Nat) (x6 x7 : Int) (φ : aF) (α : aA) (Q : Int → aF → aA → Prop) : Prop := R0 d mX11_clerkTold 161 [(2, 198), (9, 0), (9, 0), (9, 0), (9, 0), (9, 0), (0, x6), (0, x7)] [] φ α Q
theorem vX11_clerkTold_43 {d : Nat} {φ : aF} {α : aA} {Q : Int → aF → aA → Prop} {x2 : Int} {x4 : Int} {x5 : Int} (h : (((α 226 1) ≤ x5 →
   (eX11_asks d 205 φ α (fun r2 φ2 α2 =>
     (eX11_number d 1 99 φ2 α2 (fun r3 φ3 α3 =>
     (((φ3 11 5 198) = 0 →
     inR (8 + (α3 226 1)) ∧ (0 ≤ (8 + (α3 226 1)) ∧ (8 + (α3 226 1)) < (32 : Nat)) ∧ inR (2 * (α3 226 1)) ∧ (0 ≤ (2 * (α3 226 1)) ∧ (2 * (α3 226 1)) < (28 : Nat)) ∧ inR ((2 * (α3 226 1)) + 1) ∧ (0 ≤ ((2 * (α3 226 1)) + 1) ∧ ((2 * (α3 226 1)) + 1) < (28 : Nat)) ∧ (jX11_clerkTold_161 (d + 1) (α3 226 1) 0 φ3 (upa (upa (upa α3 227 (8 + (α3 226 1)) x2) 228 (2 * (α3 226 1)) x4) 228 ((2 * (α3 226 1)) + 1) r3) Q)) ∧
     (¬ ((φ3 11 5 198) = 0) →
     (Q 0 φ3 α3)))))))) ∧
   (¬ ((α 226 1) ≤ x5) →
   ((¬ (φ 11 5 198) = 0 →
     inR (x5 + 1) ∧ (jX11_clerkTold_43 (d + 1) x2 x4 (x5 + 1) φ α Q)) ∧
     ((φ 11 5 198) = 0 →
     inR (2 * x5) ∧ (0 ≤ (2 * x5) ∧ (2 * x5) < (28 : Nat)) ∧ ((¬ (α 228 (2 * x5)) = x4 →
       inR (x5 + 1) ∧ (jX11_clerkTold_43 (d + 1) x2 x4 (x5 + 1) φ α Q)) ∧
       ((α 228 (2 * x5)) = x4 →
       (eX11_fail d 2 (φ 11 10 198) φ α (fun r17 φ17 α17 =>
         inR (x5 + 1) ∧ (jX11_clerkTold_43 (d + 1) x2 x4 (x5 + 1) φ17 α17 Q)))))))))) : jX11_clerkTold_43 (d + 1) x2 x4 x5 φ α Q := by
  intro Ln
  refine r_iload (pc' := 45) (kX11_clerkTold_0 26 rfl) rfl rfl ?_
  refine r_aload_n (pc' := 46) (kX11_clerkTold_0 27 rfl) rfl rfl ?_
  refine s_getr (v := 226) (pc' := 49) (kX11_clerkTold_0 28 rfl) rfl fkX11_96 rfl rfl (kz198 Ln) rfl (by decide) ?_
  refine r_iconst 1 (pc' := 50) (kX11_clerkTold_0 29 rfl) rfl (by unfold inR; omega) ?_
  refine s_iald (x := (α 226 1)) (pc' := 51) (kX11_clerkTold_0 30 rfl) rfl (kz226 Ln) ⟨by decide, by decide⟩ rfl ?_
  refine r_icmp_ge (t := 90) (pc' := 54) (kX11_clerkTold_0 31 rfl) rfl rfl (fun c1 => ?_) (fun c1 => ?_)
  · have h := h.1 c1
    refine r_aload_n (pc' := 91) (kX11_clerkTold_0 50 rfl) rfl rfl ?_
    refine r_aload_n (pc' := 92) (kX11_clerkTold_0 51 rfl) rfl rfl ?_
    refine s_getr (v := 205) (pc' := 95) (kX11_clerkTold_0 52 rfl) rfl fkX11_33 rfl rfl (kz198 Ln) rfl (by decide) ?_
    refine s_callV (As := [(2, 205)]) (o := 198) (S := []) (S2 := fun z => []) (pc' := 98) (kX11_clerkTold_0 53 rfl) rfl rfl nkX11_asks mlX11_292 imX11_asks rfl slX11_asks rfl (Nat.le_of_ble_eq_true rfl) (Nat.le_of_ble_eq_true rfl) (kz198 Ln) h (fun z => rfl) (fun r2 φ2 α2 h => ?_)
    refine r_aload_n (pc' := 99) (kX11_clerkTold_0 54 rfl) rfl rfl ?_
    refine r_iconst 1 (pc' := 100) (kX11_clerkTold_0 55 rfl) rfl (by unfold inR; omega) ?_
    refine r_bipush 99 (pc' := 102) (kX11_clerkTold_0 56 rfl) rfl ⟨by unfold inR; omega, rfl⟩ ?_
    refine s_callV (As := [(0, 1), (0, 99)]) (o := 198) (S := []) (S2 := fun z => [(0, z)]) (pc' := 105) (kX11_clerkTold_0 57 rfl) rfl rfl nkX11_number mlX11_296 imX11_number rfl slX11_number rfl (Nat.le_of_ble_eq_true rfl) (Nat.le_of_ble_eq_true rfl) (kz198 Ln) h (fun z => rfl) (fun r3 φ3 α3 h => ?_)
    refine r_istore (L' := [(2, 198), (9, 0), (1, x2), (8, 0), (0, x4), (0, r3), (9, 0), (9, 0)]) (pc' := 107) (kX11_clerkTold_0 58 rfl) rfl (Nat.le_of_ble_eq_true rfl) rfl ?_
    refine r_aload_n (pc' := 108) (kX11_clerkTold_0 59 rfl) rfl rfl ?_
    refine s_get (x := (φ3 11 5 198)) (pc' := 111) (kX11_clerkTold_1 0 rfl) rfl fkX11_227 rfl rfl rfl (kz198 Ln) rfl ?_
    refine r_if_eq (t := 115) (pc' := 114) (kX11_clerkTold_1 1 rfl) rfl rfl (fun c4 => ?_) (fun c4 => ?_)
    · have h := h.1 c4
      refine r_aload_n (pc' := 116) (kX11_clerkTold_1 3 rfl) rfl rfl ?_
      refine s_getr (v := 226) (pc' := 119) (kX11_clerkTold_1 4 rfl) rfl fkX11_96 rfl rfl (kz198 Ln) rfl (by decide) ?_
      refine r_iconst 1 (pc' := 120) (kX11_clerkTold_1 5 rfl) rfl (by unfold inR; omega) ?_
      refine s_iald (x := (α3 226 1)) (pc' := 121) (kX11_clerkTold_1 6 rfl) rfl (kz226 Ln) ⟨by decide, by decide⟩ rfl ?_
      refine r_istore (L' := [(2, 198), (9, 0), (1, x2), (8, 0), (0, x4), (0, r3), (0, (α3 226 1)), (9, 0)]) (pc' := 123) (kX11_clerkTold_1 7 rfl) rfl (Nat.le_of_ble_eq_true rfl) rfl ?_
      refine r_aload_n (pc' := 124) (kX11_clerkTold_1 8 rfl) rfl rfl ?_
      refine s_getr (v := 227) (pc' := 127) (kX11_clerkTold_1 9 rfl) rfl fkX11_99 rfl rfl (kz198 Ln) rfl (by decide) ?_
      refine r_bipush 8 (pc' := 129) (kX11_clerkTold_1 10 rfl) rfl ⟨by unfold inR; omega, rfl⟩ ?_
      refine r_iload (pc' := 131) (kX11_clerkTold_1 11 rfl) rfl rfl ?_
      have g5 := h.1
      have h := h.2
      refine r_iadd (pc' := 132) (kX11_clerkTold_1 12 rfl) rfl g5 ?_
      refine r_lload_n (pc' := 133) (kX11_clerkTold_1 13 rfl) rfl rfl ?_
      have g6 := h.1
      have h := h.2
      refine s_last (pc' := 134) (kX11_clerkTold_1 14 rfl) rfl (kz227 Ln) g6 ?_
      refine r_aload_n (pc' := 135) (kX11_clerkTold_1 15 rfl) rfl rfl ?_
      refine s_getr (v := 228) (pc' := 138) (kX11_clerkTold_1 16 rfl) rfl fkX11_103 rfl rfl (kz198 Ln) rfl (by decide) ?_
      refine r_iconst 2 (pc' := 139) (kX11_clerkTold_1 17 rfl) rfl (by unfold inR; omega) ?_
      refine r_iload (pc' := 141) (kX11_clerkTold_1 18 rfl) rfl rfl ?_
      have g7 := h.1
      have h := h.2
      refine r_imul (pc' := 142) (kX11_clerkTold_1 19 rfl) rfl g7 ?_
      refine r_iload (pc' := 144) (kX11_clerkTold_1 20 rfl) rfl rfl ?_
      have g8 := h.1
      have h := h.2
      refine s_iast (pc' := 145) (kX11_clerkTold_1 21 rfl) rfl (kz228 Ln) g8 ?_
      refine r_aload_n (pc' := 146) (kX11_clerkTold_1 22 rfl) rfl rfl ?_
      refine s_getr (v := 228) (pc' := 149) (kX11_clerkTold_1 23 rfl) rfl fkX11_103 rfl rfl (kz198 Ln) rfl (by decide) ?_
      refine r_iconst 2 (pc' := 150) (kX11_clerkTold_1 24 rfl) rfl (by unfold inR; omega) ?_
      refine r_iload (pc' := 152) (kX11_clerkTold_1 25 rfl) rfl rfl ?_
      refine r_imul (pc' := 153) (kX11_clerkTold_1 26 rfl) rfl g7 ?_
      refine r_iconst 1 (pc' := 154) (kX11_clerkTold_1 27 rfl) rfl (by unfold inR; omega) ?_
      have g9 := h.1
      have h := h.2
      refine r_iadd (pc' := 155) (kX11_clerkTold_1 28 rfl) rfl g9 ?_
      refine r_iload (pc' := 157) (kX11_clerkTold_1 29 rfl) rfl rfl ?_
      have g10 := h.1
      have h := h.2
      refine s_iast (pc' := 158) (kX11_clerkTold_1 30 rfl) rfl (kz228 Ln) g10 ?_
      refine r_iconst 0 (pc' := 159) (kX11_clerkTold_1 31 rfl) rfl (by unfold inR; omega) ?_
      refine r_istore (L' := [(2, 198), (9, 0), (1, x2), (8, 0), (0, x4), (0, r3), (0, (α3 226 1)), (0, 0)]) (pc' := 161) (kX11_clerkTold_1 32 rfl) rfl (Nat.le_of_ble_eq_true rfl) rfl ?_
      exact r_weak (L' := [(2, 198), (9, 0), (9, 0), (9, 0), (9, 0), (9, 0), (0, (α3 226 1)), (0, 0)]) ⟨Or.inl rfl, Or.inr (by decide), Or.inr (by decide), Or.inr (by decide), Or.inr (by decide), Or.inr (by decide), Or.inl rfl, Or.inl rfl, trivial⟩ (h Ln)
    · have h := h.2 c4
      exact s_vret (kX11_clerkTold_1 2 rfl) rfl h
  · have h := h.2 c1
    refine r_aload_n (pc' := 55) (kX11_clerkTold_0 32 rfl) rfl rfl ?_
    refine s_get (x := (φ 11 5 198)) (pc' := 58) (kX11_clerkTold_0 33 rfl) rfl fkX11_227 rfl rfl rfl (kz198 Ln) rfl ?_
    refine r_if_ne (t := 84) (pc' := 61) (kX11_clerkTold_0 34 rfl) rfl rfl (fun c11 => ?_) (fun c11 => ?_)
    · have h := h.1 c11
      have g12 := h.1
      have h := h.2
      refine r_iinc (L' := [(2, 198), (9, 0), (1, x2), (8, 0), (0, x4), (0, (x5 + 1)), (9, 0), (9, 0)]) (pc' := 87) (kX11_clerkTold_0 48 rfl) rfl (Nat.le_of_ble_eq_true rfl) rfl g12 rfl ?_
      refine r_goto (pc' := 43) (kX11_clerkTold_0 49 rfl) rfl ?_
      exact r_weak (L' := [(2, 198), (9, 0), (1, x2), (8, 0), (0, x4), (0, (x5 + 1)), (9, 0), (9, 0)]) ⟨Or.inl rfl, Or.inr (by decide), Or.inl rfl, Or.inr (by decide), Or.inl rfl, Or.inl rfl, Or.inr (by decide), Or.inr (by decide), trivial⟩ (h Ln)
    · have h := h.2 c11
      refine r_aload_n (pc' := 62) (kX11_clerkTold_0 35 rfl) rfl rfl ?_
      refine s_getr (v := 228) (pc' := 65) (kX11_clerkTold_0 36 rfl) rfl fkX11_103 rfl rfl (kz198 Ln) rfl (by decide) ?_
      refine r_iconst 2 (pc' := 66) (kX11_clerkTold_0 37 rfl) rfl (by unfold inR; omega) ?_
      refine r_iload (pc' := 68) (kX11_clerkTold_0 38 rfl) rfl rfl ?_
      have g13 := h.1
      have h := h.2
      refine r_imul (pc' := 69) (kX11_clerkTold_0 39 rfl) rfl g13 ?_
      have g14 := h.1
      have h := h.2
      refine s_iald (x := (α 228 (2 * x5))) (pc' := 70) (kX11_clerkTold_0 40 rfl) rfl (kz228 Ln) g14 rfl ?_
      refine r_iload (pc' := 72) (kX11_clerkTold_0 41 rfl) rfl rfl ?_
      refine r_icmp_ne (t := 84) (pc' := 75) (kX11_clerkTold_0 42 rfl) rfl rfl (fun c15 => ?_) (fun c15 => ?_)
      · have h := h.1 c15
        have g16 := h.1
        have h := h.2
        refine r_iinc (L' := [(2, 198), (9, 0), (1, x2), (8, 0), (0, x4), (0, (x5 + 1)), (9, 0), (9, 0)]) (pc' := 87) (kX11_clerkTold_0 48 rfl) rfl (Nat.le_of_ble_eq_true rfl) rfl g16 rfl ?_
        refine r_goto (pc' := 43) (kX11_clerkTold_0 49 rfl) rfl ?_
        exact r_weak (L' := [(2, 198), (9, 0), (1, x2), (8, 0), (0, x4), (0, (x5 + 1)), (9, 0), (9, 0)]) ⟨Or.inl rfl, Or.inr (by decide), Or.inl rfl, Or.inr (by decide), Or.inl rfl, Or.inl rfl, Or.inr (by decide), Or.inr (by decide), trivial⟩ (h Ln)
      · have h := h.2 c15
        refine r_aload_n (pc' := 76) (kX11_clerkTold_0 43 rfl) rfl rfl ?_
        refine r_iconst 2 (pc' := 77) (kX11_clerkTold_0 44 rfl) rfl (by unfold inR; omega) ?_
        refine r_aload_n (pc' := 78) (kX11_clerkTold_0 45 rfl) rfl rfl ?_
        refine s_get (x := (φ 11 10 198)) (pc' := 81) (kX11_clerkTold_0 46 rfl) rfl fkX11_267 rfl rfl rfl (kz198 Ln) rfl ?_
        refine s_callV (As := [(0, 2), (0, (φ 11 10 198))]) (o := 198) (S := []) (S2 := fun z => []) (pc' := 84) (kX11_clerkTold_0 47 rfl) rfl rfl nkX11_fail mlX11_257 imX11_fail rfl slX11_fail rfl (Nat.le_of_ble_eq_true rfl) (Nat.le_of_ble_eq_true rfl) (kz198 Ln) h (fun z => rfl) (fun r17 φ17 α17 h => ?_)
        have g18 := h.1
        have h := h.2
        refine r_iinc (L' := [(2, 198), (9, 0), (1, x2), (8, 0), (0, x4), (0, (x5 + 1)), (9, 0), (9, 0)]) (pc' := 87) (kX11_clerkTold_0 48 rfl) rfl (Nat.le_of_ble_eq_true rfl) rfl g18 rfl ?_
        refine r_goto (pc' := 43) (kX11_clerkTold_0 49 rfl) rfl ?_
        exact r_weak (L' := [(2, 198), (9, 0), (1, x2), (8, 0), (0, x4), (0, (x5 + 1)), (9, 0), (9, 0)]) ⟨Or.inl rfl, Or.inr (by decide), Or.inl rfl, Or.inr (by decide), Or.inl rfl, Or.inl rfl, Or.inr (by decide), Or.inr (by decide), trivial⟩ (h Ln)
theorem vX11_clerkTold_161 {d : Nat} {φ : aF} {α : aA} {Q : Int → aF → aA → Prop} {x6 : Int} {x7 : Int} (h : ((4 ≤ x7 →
   inR ((α 226 1) + 1) ∧ (Q 0 φ (upa α 226 1 ((α 226 1) + 1)))) ∧
   (¬ (4 ≤ x7) →
   inR (4 * x6) ∧ inR ((4 * x6) + x7) ∧ (0 ≤ ((4 * x6) + x7) ∧ ((4 * x6) + x7) < (28 : Nat)) ∧ inR (x7 + 1) ∧ (jX11_clerkTold_161 (d + 1) x6 (x7 + 1) φ (upa α 229 ((4 * x6) + x7) 0) Q)))) : jX11_clerkTold_161 (d + 1) x6 x7 φ α Q := by
  intro Ln
  refine r_iload (pc' := 163) (kX11_clerkTold_1 33 rfl) rfl rfl ?_
  refine r_iconst 4 (pc' := 164) (kX11_clerkTold_1 34 rfl) rfl (by unfold inR; omega) ?_
  refine r_icmp_ge (t := 186) (pc' := 167) (kX11_clerkTold_1 35 rfl) rfl rfl (fun c1 => ?_) (fun c1 => ?_)
  · have h := h.1 c1
    refine r_aload_n (pc' := 187) (kX11_clerkTold_1 47 rfl) rfl rfl ?_
    refine s_getr (v := 226) (pc' := 190) (kX11_clerkTold_1 48 rfl) rfl fkX11_96 rfl rfl (kz198 Ln) rfl (by decide) ?_
    refine r_iconst 1 (pc' := 191) (kX11_clerkTold_1 49 rfl) rfl (by unfold inR; omega) ?_
    refine r_dup2 (pc' := 192) (kX11_clerkTold_1 50 rfl) rfl rfl rfl ?_
    refine s_iald (x := (α 226 1)) (pc' := 193) (kX11_clerkTold_1 51 rfl) rfl (kz226 Ln) ⟨by decide, by decide⟩ rfl ?_
    refine r_iconst 1 (pc' := 194) (kX11_clerkTold_1 52 rfl) rfl (by unfold inR; omega) ?_
    have g2 := h.1
    have h := h.2
    refine r_iadd (pc' := 195) (kX11_clerkTold_1 53 rfl) rfl g2 ?_
    refine s_iast (pc' := 196) (kX11_clerkTold_1 54 rfl) rfl (kz226 Ln) ⟨by decide, by decide⟩ ?_
    exact s_vret (kX11_clerkTold_1 55 rfl) rfl h
  · have h := h.2 c1
    refine r_aload_n (pc' := 168) (kX11_clerkTold_1 36 rfl) rfl rfl ?_
    refine s_getr (v := 229) (pc' := 171) (kX11_clerkTold_1 37 rfl) rfl fkX11_106 rfl rfl (kz198 Ln) rfl (by decide) ?_
    refine r_iconst 4 (pc' := 172) (kX11_clerkTold_1 38 rfl) rfl (by unfold inR; omega) ?_
    refine r_iload (pc' := 174) (kX11_clerkTold_1 39 rfl) rfl rfl ?_
    have g3 := h.1
    have h := h.2
    refine r_imul (pc' := 175) (kX11_clerkTold_1 40 rfl) rfl g3 ?_
    refine r_iload (pc' := 177) (kX11_clerkTold_1 41 rfl) rfl rfl ?_
    have g4 := h.1
    have h := h.2
    refine r_iadd (pc' := 178) (kX11_clerkTold_1 42 rfl) rfl g4 ?_
    refine r_iconst 0 (pc' := 179) (kX11_clerkTold_1 43 rfl) rfl (by unfold inR; omega) ?_
    have g5 := h.1
    have h := h.2
    refine s_iast (pc' := 180) (kX11_clerkTold_1 44 rfl) rfl (kz229 Ln) g5 ?_
    have g6 := h.1
    have h := h.2
    refine r_iinc (L' := [(2, 198), (9, 0), (9, 0), (9, 0), (9, 0), (9, 0), (0, x6), (0, (x7 + 1))]) (pc' := 183) (kX11_clerkTold_1 45 rfl) rfl (Nat.le_of_ble_eq_true rfl) rfl g6 rfl ?_
    refine r_goto (pc' := 161) (kX11_clerkTold_1 46 rfl) rfl ?_
    exact r_weak (L' := [(2, 198), (9, 0), (9, 0), (9, 0), (9, 0), (9, 0), (0, x6), (0, (x7 + 1))]) ⟨Or.inl rfl, Or.inr (by decide), Or.inr (by decide), Or.inr (by decide), Or.inr (by decide), Or.inr (by decide), Or.inl rfl, Or.inl rfl, trivial⟩ (h Ln)
abbrev jX11_toldTold_42 (d : Nat) (x1 x2 x3 x4 x5 : Int) (φ : aF) (α : aA) (Q : Int → aF → aA → Prop) : Prop := R0 d mX11_toldTold 42 [(2, 198), (0, x1), (0, x2), (0, x3), (0, x4), (0, x5)] [] φ α Q
theorem vX11_toldTold_0 {d : Nat} {φ : aF} {α : aA} {Q : Int → aF → aA → Prop} (h : (eX11_named d 1 φ α (fun r1 φ1 α1 =>
   (eX11_asks d 207 φ1 α1 (fun r2 φ2 α2 =>
   (eX11_named d 0 φ2 α2 (fun r3 φ3 α3 =>
   (eX11_number d 0 99 φ3 α3 (fun r4 φ4 α4 =>
   (((φ4 11 5 198) = 0 →
   (jX11_toldTold_42 (d + 1) r1 r3 r4 r4 0 φ4 α4 Q)) ∧
   (¬ ((φ4 11 5 198) = 0) →
   (Q 0 φ4 α4)))))))))))) : eX11_toldTold (d + 1)  φ α Q := by
  intro Ln
  refine r_aload_n (pc' := 1) (kX11_toldTold_0 0 rfl) rfl rfl ?_
  refine r_iconst 1 (pc' := 2) (kX11_toldTold_0 1 rfl) rfl (by unfold inR; omega) ?_
  refine s_callV (As := [(0, 1)]) (o := 198) (S := []) (S2 := fun z => [(0, z)]) (pc' := 5) (kX11_toldTold_0 2 rfl) rfl rfl nkX11_named mlX11_311 imX11_named rfl slX11_named rfl (Nat.le_of_ble_eq_true rfl) (Nat.le_of_ble_eq_true rfl) (kz198 Ln) h (fun z => rfl) (fun r1 φ1 α1 h => ?_)
  refine r_istore_n (L' := [(2, 198), (0, r1), (9, 0), (9, 0), (9, 0), (9, 0)]) (pc' := 6) (kX11_toldTold_0 3 rfl) rfl (Nat.le_of_ble_eq_true rfl) rfl ?_
  refine r_aload_n (pc' := 7) (kX11_toldTold_0 4 rfl) rfl rfl ?_
  refine r_aload_n (pc' := 8) (kX11_toldTold_0 5 rfl) rfl rfl ?_
  refine s_getr (v := 207) (pc' := 11) (kX11_toldTold_0 6 rfl) rfl fkX11_39 rfl rfl (kz198 Ln) rfl (by decide) ?_
  refine s_callV (As := [(2, 207)]) (o := 198) (S := []) (S2 := fun z => []) (pc' := 14) (kX11_toldTold_0 7 rfl) rfl rfl nkX11_asks mlX11_292 imX11_asks rfl slX11_asks rfl (Nat.le_of_ble_eq_true rfl) (Nat.le_of_ble_eq_true rfl) (kz198 Ln) h (fun z => rfl) (fun r2 φ2 α2 h => ?_)
  refine r_aload_n (pc' := 15) (kX11_toldTold_0 8 rfl) rfl rfl ?_
  refine r_iconst 0 (pc' := 16) (kX11_toldTold_0 9 rfl) rfl (by unfold inR; omega) ?_
  refine s_callV (As := [(0, 0)]) (o := 198) (S := []) (S2 := fun z => [(0, z)]) (pc' := 19) (kX11_toldTold_0 10 rfl) rfl rfl nkX11_named mlX11_311 imX11_named rfl slX11_named rfl (Nat.le_of_ble_eq_true rfl) (Nat.le_of_ble_eq_true rfl) (kz198 Ln) h (fun z => rfl) (fun r3 φ3 α3 h => ?_)
  refine r_istore_n (L' := [(2, 198), (0, r1), (0, r3), (9, 0), (9, 0), (9, 0)]) (pc' := 20) (kX11_toldTold_0 11 rfl) rfl (Nat.le_of_ble_eq_true rfl) rfl ?_
  refine r_aload_n (pc' := 21) (kX11_toldTold_0 12 rfl) rfl rfl ?_
  refine r_iconst 0 (pc' := 22) (kX11_toldTold_0 13 rfl) rfl (by unfold inR; omega) ?_
  refine r_bipush 99 (pc' := 24) (kX11_toldTold_0 14 rfl) rfl ⟨by unfold inR; omega, rfl⟩ ?_
  refine s_callV (As := [(0, 0), (0, 99)]) (o := 198) (S := []) (S2 := fun z => [(0, z)]) (pc' := 27) (kX11_toldTold_0 15 rfl) rfl rfl nkX11_number mlX11_296 imX11_number rfl slX11_number rfl (Nat.le_of_ble_eq_true rfl) (Nat.le_of_ble_eq_true rfl) (kz198 Ln) h (fun z => rfl) (fun r4 φ4 α4 h => ?_)
  refine r_istore_n (L' := [(2, 198), (0, r1), (0, r3), (0, r4), (9, 0), (9, 0)]) (pc' := 28) (kX11_toldTold_0 16 rfl) rfl (Nat.le_of_ble_eq_true rfl) rfl ?_
  refine r_aload_n (pc' := 29) (kX11_toldTold_0 17 rfl) rfl rfl ?_
  refine s_get (x := (φ4 11 5 198)) (pc' := 32) (kX11_toldTold_0 18 rfl) rfl fkX11_227 rfl rfl rfl (kz198 Ln) rfl ?_
  refine r_if_eq (t := 36) (pc' := 35) (kX11_toldTold_0 19 rfl) rfl rfl (fun c5 => ?_) (fun c5 => ?_)
  · have h := h.1 c5
    refine r_iload_n (pc' := 37) (kX11_toldTold_0 21 rfl) rfl rfl ?_
    refine r_istore (L' := [(2, 198), (0, r1), (0, r3), (0, r4), (0, r4), (9, 0)]) (pc' := 39) (kX11_toldTold_0 22 rfl) rfl (Nat.le_of_ble_eq_true rfl) rfl ?_
    refine r_iconst 0 (pc' := 40) (kX11_toldTold_0 23 rfl) rfl (by unfold inR; omega) ?_
    refine r_istore (L' := [(2, 198), (0, r1), (0, r3), (0, r4), (0, r4), (0, 0)]) (pc' := 42) (kX11_toldTold_0 24 rfl) rfl (Nat.le_of_ble_eq_true rfl) rfl ?_
    exact r_weak (L' := [(2, 198), (0, r1), (0, r3), (0, r4), (0, r4), (0, 0)]) ⟨Or.inl rfl, Or.inl rfl, Or.inl rfl, Or.inl rfl, Or.inl rfl, Or.inl rfl, trivial⟩ (h Ln)
  · have h := h.2 c5
    exact s_vret (kX11_toldTold_0 20 rfl) rfl h
theorem vX11_toldTold_42 {d : Nat} {φ : aF} {α : aA} {Q : Int → aF → aA → Prop} {x1 : Int} {x2 : Int} {x3 : Int} {x4 : Int} {x5 : Int} (h : ((4 ≤ x5 →
   inR (2 * x1) ∧ inR ((2 * x1) + 1) ∧ (0 ≤ ((2 * x1) + 1) ∧ ((2 * x1) + 1) < (28 : Nat)) ∧ ((x4 ≤ (α 228 ((2 * x1) + 1)) →
     inR (4 * x1) ∧ inR ((4 * x1) + x2) ∧ (0 ≤ ((4 * x1) + x2) ∧ ((4 * x1) + x2) < (28 : Nat)) ∧ inR ((α 229 ((4 * x1) + x2)) + x3) ∧ (Q 0 φ (upa α 229 ((4 * x1) + x2) ((α 229 ((4 * x1) + x2)) + x3)))) ∧
     (¬ (x4 ≤ (α 228 ((2 * x1) + 1))) →
     (eX11_fail d 2 (φ 11 10 198) φ α (fun r10 φ10 α10 =>
       (Q 0 φ10 α10)))))) ∧
   (¬ (4 ≤ x5) →
   inR (4 * x1) ∧ inR ((4 * x1) + x5) ∧ (0 ≤ ((4 * x1) + x5) ∧ ((4 * x1) + x5) < (28 : Nat)) ∧ inR (x4 + (α 229 ((4 * x1) + x5))) ∧ inR (x5 + 1) ∧ (jX11_toldTold_42 (d + 1) x1 x2 x3 (x4 + (α 229 ((4 * x1) + x5))) (x5 + 1) φ α Q)))) : jX11_toldTold_42 (d + 1) x1 x2 x3 x4 x5 φ α Q := by
  intro Ln
  refine r_iload (pc' := 44) (kX11_toldTold_0 25 rfl) rfl rfl ?_
  refine r_iconst 4 (pc' := 45) (kX11_toldTold_0 26 rfl) rfl (by unfold inR; omega) ?_
  refine r_icmp_ge (t := 70) (pc' := 48) (kX11_toldTold_0 27 rfl) rfl rfl (fun c1 => ?_) (fun c1 => ?_)
  · have h := h.1 c1
    refine r_iload (pc' := 72) (kX11_toldTold_0 41 rfl) rfl rfl ?_
    refine r_aload_n (pc' := 73) (kX11_toldTold_0 42 rfl) rfl rfl ?_
    refine s_getr (v := 228) (pc' := 76) (kX11_toldTold_0 43 rfl) rfl fkX11_103 rfl rfl (kz198 Ln) rfl (by decide) ?_
    refine r_iconst 2 (pc' := 77) (kX11_toldTold_0 44 rfl) rfl (by unfold inR; omega) ?_
    refine r_iload_n (pc' := 78) (kX11_toldTold_0 45 rfl) rfl rfl ?_
    have g2 := h.1
    have h := h.2
    refine r_imul (pc' := 79) (kX11_toldTold_0 46 rfl) rfl g2 ?_
    refine r_iconst 1 (pc' := 80) (kX11_toldTold_0 47 rfl) rfl (by unfold inR; omega) ?_
    have g3 := h.1
    have h := h.2
    refine r_iadd (pc' := 81) (kX11_toldTold_0 48 rfl) rfl g3 ?_
    have g4 := h.1
    have h := h.2
    refine s_iald (x := (α 228 ((2 * x1) + 1))) (pc' := 82) (kX11_toldTold_0 49 rfl) rfl (kz228 Ln) g4 rfl ?_
    refine r_icmp_le (t := 97) (pc' := 85) (kX11_toldTold_0 50 rfl) rfl rfl (fun c5 => ?_) (fun c5 => ?_)
    · have h := h.1 c5
      refine r_aload_n (pc' := 98) (kX11_toldTold_0 57 rfl) rfl rfl ?_
      refine s_getr (v := 229) (pc' := 101) (kX11_toldTold_0 58 rfl) rfl fkX11_106 rfl rfl (kz198 Ln) rfl (by decide) ?_
      refine r_iconst 4 (pc' := 102) (kX11_toldTold_0 59 rfl) rfl (by unfold inR; omega) ?_
      refine r_iload_n (pc' := 103) (kX11_toldTold_1 0 rfl) rfl rfl ?_
      have g6 := h.1
      have h := h.2
      refine r_imul (pc' := 104) (kX11_toldTold_1 1 rfl) rfl g6 ?_
      refine r_iload_n (pc' := 105) (kX11_toldTold_1 2 rfl) rfl rfl ?_
      have g7 := h.1
      have h := h.2
      refine r_iadd (pc' := 106) (kX11_toldTold_1 3 rfl) rfl g7 ?_
      refine r_dup2 (pc' := 107) (kX11_toldTold_1 4 rfl) rfl rfl rfl ?_
      have g8 := h.1
      have h := h.2
      refine s_iald (x := (α 229 ((4 * x1) + x2))) (pc' := 108) (kX11_toldTold_1 5 rfl) rfl (kz229 Ln) g8 rfl ?_
      refine r_iload_n (pc' := 109) (kX11_toldTold_1 6 rfl) rfl rfl ?_
      have g9 := h.1
      have h := h.2
      refine r_iadd (pc' := 110) (kX11_toldTold_1 7 rfl) rfl g9 ?_
      refine s_iast (pc' := 111) (kX11_toldTold_1 8 rfl) rfl (kz229 Ln) g8 ?_
      exact s_vret (kX11_toldTold_1 9 rfl) rfl h
    · have h := h.2 c5
      refine r_aload_n (pc' := 86) (kX11_toldTold_0 51 rfl) rfl rfl ?_
      refine r_iconst 2 (pc' := 87) (kX11_toldTold_0 52 rfl) rfl (by unfold inR; omega) ?_
      refine r_aload_n (pc' := 88) (kX11_toldTold_0 53 rfl) rfl rfl ?_
      refine s_get (x := (φ 11 10 198)) (pc' := 91) (kX11_toldTold_0 54 rfl) rfl fkX11_267 rfl rfl rfl (kz198 Ln) rfl ?_
      refine s_callV (As := [(0, 2), (0, (φ 11 10 198))]) (o := 198) (S := []) (S2 := fun z => []) (pc' := 94) (kX11_toldTold_0 55 rfl) rfl rfl nkX11_fail mlX11_257 imX11_fail rfl slX11_fail rfl (Nat.le_of_ble_eq_true rfl) (Nat.le_of_ble_eq_true rfl) (kz198 Ln) h (fun z => rfl) (fun r10 φ10 α10 h => ?_)
      refine r_goto (pc' := 111) (kX11_toldTold_0 56 rfl) rfl ?_
      exact s_vret (kX11_toldTold_1 9 rfl) rfl h
  · have h := h.2 c1
    refine r_iload (pc' := 50) (kX11_toldTold_0 28 rfl) rfl rfl ?_
    refine r_aload_n (pc' := 51) (kX11_toldTold_0 29 rfl) rfl rfl ?_
    refine s_getr (v := 229) (pc' := 54) (kX11_toldTold_0 30 rfl) rfl fkX11_106 rfl rfl (kz198 Ln) rfl (by decide) ?_
    refine r_iconst 4 (pc' := 55) (kX11_toldTold_0 31 rfl) rfl (by unfold inR; omega) ?_
    refine r_iload_n (pc' := 56) (kX11_toldTold_0 32 rfl) rfl rfl ?_
    have g11 := h.1
    have h := h.2
    refine r_imul (pc' := 57) (kX11_toldTold_0 33 rfl) rfl g11 ?_
    refine r_iload (pc' := 59) (kX11_toldTold_0 34 rfl) rfl rfl ?_
    have g12 := h.1
    have h := h.2
    refine r_iadd (pc' := 60) (kX11_toldTold_0 35 rfl) rfl g12 ?_
    have g13 := h.1
    have h := h.2
    refine s_iald (x := (α 229 ((4 * x1) + x5))) (pc' := 61) (kX11_toldTold_0 36 rfl) rfl (kz229 Ln) g13 rfl ?_
    have g14 := h.1
    have h := h.2
    refine r_iadd (pc' := 62) (kX11_toldTold_0 37 rfl) rfl g14 ?_
    refine r_istore (L' := [(2, 198), (0, x1), (0, x2), (0, x3), (0, (x4 + (α 229 ((4 * x1) + x5)))), (0, x5)]) (pc' := 64) (kX11_toldTold_0 38 rfl) rfl (Nat.le_of_ble_eq_true rfl) rfl ?_
    have g15 := h.1
    have h := h.2
    refine r_iinc (L' := [(2, 198), (0, x1), (0, x2), (0, x3), (0, (x4 + (α 229 ((4 * x1) + x5)))), (0, (x5 + 1))]) (pc' := 67) (kX11_toldTold_0 39 rfl) rfl (Nat.le_of_ble_eq_true rfl) rfl g15 rfl ?_
    refine r_goto (pc' := 42) (kX11_toldTold_0 40 rfl) rfl ?_
    exact r_weak (L' := [(2, 198), (0, x1), (0, x2), (0, x3), (0, (x4 + (α 229 ((4 * x1) + x5)))), (0, (x5 + 1))]) ⟨Or.inl rfl, Or.inl rfl, Or.inl rfl, Or.inl rfl, Or.inl rfl, Or.inl rfl, trivial⟩ (h Ln)
abbrev jX11_codesTold_92 (d : Nat) (x1 x3 : Int) (φ : aF) (α : aA) (Q : Int → aF → aA → Prop) : Prop := R0 d mX11_codesTold 92 [(2, 198), (0, x1), (9, 0), (0, x3)] [] φ α Q
theorem vX11_codesTold_0 {d : Nat} {φ : aF} {α : aA} {Q : Int → aF → aA → Prop} {x1 : Int} {x2 : Int} (h : ((¬ (φ 11 5 198) = 0 →
   (((φ 11 5 198) = 0 →
     ((¬ x1 = 1 →
       (eX11_qSums d  (upf (upf (upf (upf (upf φ 11 47 198 x1) 11 88 198 0) 11 90 198 0) 11 91 198 0) 11 92 198 0) α (fun r4 φ4 α4 =>
         (((φ4 11 5 198) = 0 →
         (0 ≤ x1 ∧ x1 < (4 : Nat)) ∧ (jX11_codesTold_92 (d + 1) x1 0 φ4 (upa α4 230 x1 (φ4 11 44 198)) Q)) ∧
         (¬ ((φ4 11 5 198) = 0) →
         (Q 0 φ4 α4)))))) ∧
       (x1 = 1 →
       (eX11_qTest d  (upf (upf (upf (upf (upf φ 11 47 198 x1) 11 88 198 0) 11 90 198 0) 11 91 198 0) 11 92 198 0) α (fun r7 φ7 α7 =>
         (((φ7 11 5 198) = 0 →
         (0 ≤ x1 ∧ x1 < (4 : Nat)) ∧ (jX11_codesTold_92 (d + 1) x1 0 φ7 (upa α7 230 x1 (φ7 11 44 198)) Q)) ∧
         (¬ ((φ7 11 5 198) = 0) →
         (Q 0 φ7 α7)))))))) ∧
     (¬ ((φ 11 5 198) = 0) →
     (Q 0 φ α)))) ∧
   ((φ 11 5 198) = 0 →
   (0 ≤ x1 ∧ x1 < (4 : Nat)) ∧ (((α 230 x1) = (-1) →
     ((¬ x1 = 1 →
       (eX11_qSums d  (upf (upf (upf (upf (upf φ 11 47 198 x1) 11 88 198 0) 11 90 198 0) 11 91 198 0) 11 92 198 0) α (fun r13 φ13 α13 =>
         (((φ13 11 5 198) = 0 →
         (jX11_codesTold_92 (d + 1) x1 0 φ13 (upa α13 230 x1 (φ13 11 44 198)) Q)) ∧
         (¬ ((φ13 11 5 198) = 0) →
         (Q 0 φ13 α13)))))) ∧
       (x1 = 1 →
       (eX11_qTest d  (upf (upf (upf (upf (upf φ 11 47 198 x1) 11 88 198 0) 11 90 198 0) 11 91 198 0) 11 92 198 0) α (fun r15 φ15 α15 =>
         (((φ15 11 5 198) = 0 →
         (jX11_codesTold_92 (d + 1) x1 0 φ15 (upa α15 230 x1 (φ15 11 44 198)) Q)) ∧
         (¬ ((φ15 11 5 198) = 0) →
         (Q 0 φ15 α15)))))))) ∧
     (¬ ((α 230 x1) = (-1)) →
     (eX11_fail d 5 x2 φ α (fun r17 φ17 α17 =>
       (((φ17 11 5 198) = 0 →
       ((¬ x1 = 1 →
         (eX11_qSums d  (upf (upf (upf (upf (upf φ17 11 47 198 x1) 11 88 198 0) 11 90 198 0) 11 91 198 0) 11 92 198 0) α17 (fun r20 φ20 α20 =>
           (((φ20 11 5 198) = 0 →
           (jX11_codesTold_92 (d + 1) x1 0 φ20 (upa α20 230 x1 (φ20 11 44 198)) Q)) ∧
           (¬ ((φ20 11 5 198) = 0) →
           (Q 0 φ20 α20)))))) ∧
         (x1 = 1 →
         (eX11_qTest d  (upf (upf (upf (upf (upf φ17 11 47 198 x1) 11 88 198 0) 11 90 198 0) 11 91 198 0) 11 92 198 0) α17 (fun r22 φ22 α22 =>
           (((φ22 11 5 198) = 0 →
           (jX11_codesTold_92 (d + 1) x1 0 φ22 (upa α22 230 x1 (φ22 11 44 198)) Q)) ∧
           (¬ ((φ22 11 5 198) = 0) →
           (Q 0 φ22 α22)))))))) ∧
       (¬ ((φ17 11 5 198) = 0) →
       (Q 0 φ17 α17)))))))))) : eX11_codesTold (d + 1) x1 x2 φ α Q := by
  intro Ln
  refine r_aload_n (pc' := 1) (kX11_codesTold_0 0 rfl) rfl rfl ?_
  refine s_get (x := (φ 11 5 198)) (pc' := 4) (kX11_codesTold_0 1 rfl) rfl fkX11_227 rfl rfl rfl (kz198 Ln) rfl ?_
  refine r_if_ne (t := 23) (pc' := 7) (kX11_codesTold_0 2 rfl) rfl rfl (fun c1 => ?_) (fun c1 => ?_)
  · have h := h.1 c1
    refine r_aload_n (pc' := 24) (kX11_codesTold_0 13 rfl) rfl rfl ?_
    refine s_get (x := (φ 11 5 198)) (pc' := 27) (kX11_codesTold_0 14 rfl) rfl fkX11_227 rfl rfl rfl (kz198 Ln) rfl ?_
    refine r_if_eq (t := 31) (pc' := 30) (kX11_codesTold_0 15 rfl) rfl rfl (fun c2 => ?_) (fun c2 => ?_)
    · have h := h.1 c2
      refine r_aload_n (pc' := 32) (kX11_codesTold_0 17 rfl) rfl rfl ?_
      refine r_iload_n (pc' := 33) (kX11_codesTold_0 18 rfl) rfl rfl ?_
      refine s_put (pc' := 36) (kX11_codesTold_0 19 rfl) rfl fkX11_285 fnX11_47 rfl pk_int (kz198 Ln) ?_
      refine r_aload_n (pc' := 37) (kX11_codesTold_0 20 rfl) rfl rfl ?_
      refine r_iconst 0 (pc' := 38) (kX11_codesTold_0 21 rfl) rfl (by unfold inR; omega) ?_
      refine s_put (pc' := 41) (kX11_codesTold_0 22 rfl) rfl fkX11_315 fnX11_88 rfl pk_int (kz198 Ln) ?_
      refine r_aload_n (pc' := 42) (kX11_codesTold_0 23 rfl) rfl rfl ?_
      refine r_iconst 0 (pc' := 43) (kX11_codesTold_0 24 rfl) rfl (by unfold inR; omega) ?_
      refine s_put (pc' := 46) (kX11_codesTold_0 25 rfl) rfl fkX11_318 fnX11_90 rfl pk_int (kz198 Ln) ?_
      refine r_aload_n (pc' := 47) (kX11_codesTold_0 26 rfl) rfl rfl ?_
      refine r_iconst 0 (pc' := 48) (kX11_codesTold_0 27 rfl) rfl (by unfold inR; omega) ?_
      refine s_put (pc' := 51) (kX11_codesTold_0 28 rfl) rfl fkX11_321 fnX11_91 rfl pk_int (kz198 Ln) ?_
      refine r_aload_n (pc' := 52) (kX11_codesTold_0 29 rfl) rfl rfl ?_
      refine r_iconst 0 (pc' := 53) (kX11_codesTold_0 30 rfl) rfl (by unfold inR; omega) ?_
      refine s_put (pc' := 56) (kX11_codesTold_0 31 rfl) rfl fkX11_324 fnX11_92 rfl pk_int (kz198 Ln) ?_
      refine r_iload_n (pc' := 57) (kX11_codesTold_0 32 rfl) rfl rfl ?_
      refine r_iconst 1 (pc' := 58) (kX11_codesTold_0 33 rfl) rfl (by unfold inR; omega) ?_
      refine r_icmp_ne (t := 68) (pc' := 61) (kX11_codesTold_0 34 rfl) rfl rfl (fun c3 => ?_) (fun c3 => ?_)
      · have h := h.1 c3
        refine r_aload_n (pc' := 69) (kX11_codesTold_0 38 rfl) rfl rfl ?_
        refine s_callV (As := []) (o := 198) (S := []) (S2 := fun z => []) (pc' := 72) (kX11_codesTold_0 39 rfl) rfl rfl nkX11_qSums mlX11_330 imX11_qSums rfl slX11_qSums rfl (Nat.le_of_ble_eq_true rfl) (Nat.le_of_ble_eq_true rfl) (kz198 Ln) h (fun z => rfl) (fun r4 φ4 α4 h => ?_)
        refine r_aload_n (pc' := 73) (kX11_codesTold_0 40 rfl) rfl rfl ?_
        refine s_get (x := (φ4 11 5 198)) (pc' := 76) (kX11_codesTold_0 41 rfl) rfl fkX11_227 rfl rfl rfl (kz198 Ln) rfl ?_
        refine r_if_eq (t := 80) (pc' := 79) (kX11_codesTold_0 42 rfl) rfl rfl (fun c5 => ?_) (fun c5 => ?_)
        · have h := h.1 c5
          refine r_aload_n (pc' := 81) (kX11_codesTold_0 44 rfl) rfl rfl ?_
          refine s_getr (v := 230) (pc' := 84) (kX11_codesTold_0 45 rfl) rfl fkX11_109 rfl rfl (kz198 Ln) rfl (by decide) ?_
          refine r_iload_n (pc' := 85) (kX11_codesTold_0 46 rfl) rfl rfl ?_
          refine r_aload_n (pc' := 86) (kX11_codesTold_0 47 rfl) rfl rfl ?_
          refine s_get (x := (φ4 11 44 198)) (pc' := 89) (kX11_codesTold_0 48 rfl) rfl fkX11_333 rfl rfl rfl (kz198 Ln) rfl ?_
          have g6 := h.1
          have h := h.2
          refine s_iast (pc' := 90) (kX11_codesTold_0 49 rfl) rfl (kz230 Ln) g6 ?_
          refine r_iconst 0 (pc' := 91) (kX11_codesTold_0 50 rfl) rfl (by unfold inR; omega) ?_
          refine r_istore_n (L' := [(2, 198), (0, x1), (0, x2), (0, 0)]) (pc' := 92) (kX11_codesTold_0 51 rfl) rfl (Nat.le_of_ble_eq_true rfl) rfl ?_
          exact r_weak (L' := [(2, 198), (0, x1), (9, 0), (0, 0)]) ⟨Or.inl rfl, Or.inl rfl, Or.inr (by decide), Or.inl rfl, trivial⟩ (h Ln)
        · have h := h.2 c5
          exact s_vret (kX11_codesTold_0 43 rfl) rfl h
      · have h := h.2 c3
        refine r_aload_n (pc' := 62) (kX11_codesTold_0 35 rfl) rfl rfl ?_
        refine s_callV (As := []) (o := 198) (S := []) (S2 := fun z => []) (pc' := 65) (kX11_codesTold_0 36 rfl) rfl rfl nkX11_qTest mlX11_327 imX11_qTest rfl slX11_qTest rfl (Nat.le_of_ble_eq_true rfl) (Nat.le_of_ble_eq_true rfl) (kz198 Ln) h (fun z => rfl) (fun r7 φ7 α7 h => ?_)
        refine r_goto (pc' := 72) (kX11_codesTold_0 37 rfl) rfl ?_
        refine r_aload_n (pc' := 73) (kX11_codesTold_0 40 rfl) rfl rfl ?_
        refine s_get (x := (φ7 11 5 198)) (pc' := 76) (kX11_codesTold_0 41 rfl) rfl fkX11_227 rfl rfl rfl (kz198 Ln) rfl ?_
        refine r_if_eq (t := 80) (pc' := 79) (kX11_codesTold_0 42 rfl) rfl rfl (fun c8 => ?_) (fun c8 => ?_)
        · have h := h.1 c8
          refine r_aload_n (pc' := 81) (kX11_codesTold_0 44 rfl) rfl rfl ?_
          refine s_getr (v := 230) (pc' := 84) (kX11_codesTold_0 45 rfl) rfl fkX11_109 rfl rfl (kz198 Ln) rfl (by decide) ?_
          refine r_iload_n (pc' := 85) (kX11_codesTold_0 46 rfl) rfl rfl ?_
          refine r_aload_n (pc' := 86) (kX11_codesTold_0 47 rfl) rfl rfl ?_
          refine s_get (x := (φ7 11 44 198)) (pc' := 89) (kX11_codesTold_0 48 rfl) rfl fkX11_333 rfl rfl rfl (kz198 Ln) rfl ?_
          have g9 := h.1
          have h := h.2
          refine s_iast (pc' := 90) (kX11_codesTold_0 49 rfl) rfl (kz230 Ln) g9 ?_
          refine r_iconst 0 (pc' := 91) (kX11_codesTold_0 50 rfl) rfl (by unfold inR; omega) ?_
          refine r_istore_n (L' := [(2, 198), (0, x1), (0, x2), (0, 0)]) (pc' := 92) (kX11_codesTold_0 51 rfl) rfl (Nat.le_of_ble_eq_true rfl) rfl ?_
          exact r_weak (L' := [(2, 198), (0, x1), (9, 0), (0, 0)]) ⟨Or.inl rfl, Or.inl rfl, Or.inr (by decide), Or.inl rfl, trivial⟩ (h Ln)
        · have h := h.2 c8
          exact s_vret (kX11_codesTold_0 43 rfl) rfl h
    · have h := h.2 c2
      exact s_vret (kX11_codesTold_0 16 rfl) rfl h
  · have h := h.2 c1
    refine r_aload_n (pc' := 8) (kX11_codesTold_0 3 rfl) rfl rfl ?_
    refine s_getr (v := 230) (pc' := 11) (kX11_codesTold_0 4 rfl) rfl fkX11_109 rfl rfl (kz198 Ln) rfl (by decide) ?_
    refine r_iload_n (pc' := 12) (kX11_codesTold_0 5 rfl) rfl rfl ?_
    have g10 := h.1
    have h := h.2
    refine s_iald (x := (α 230 x1)) (pc' := 13) (kX11_codesTold_0 6 rfl) rfl (kz230 Ln) g10 rfl ?_
    refine r_iconst (-1) (pc' := 14) (kX11_codesTold_0 7 rfl) rfl (by unfold inR; omega) ?_
    refine r_icmp_eq (t := 23) (pc' := 17) (kX11_codesTold_0 8 rfl) rfl rfl (fun c11 => ?_) (fun c11 => ?_)
    · have h := h.1 c11
      refine r_aload_n (pc' := 24) (kX11_codesTold_0 13 rfl) rfl rfl ?_
      refine s_get (x := (φ 11 5 198)) (pc' := 27) (kX11_codesTold_0 14 rfl) rfl fkX11_227 rfl rfl rfl (kz198 Ln) rfl ?_
      refine r_if_eq (t := 31) (pc' := 30) (kX11_codesTold_0 15 rfl) rfl rfl (fun _ => ?_) (fun cz => absurd c1 cz)
      refine r_aload_n (pc' := 32) (kX11_codesTold_0 17 rfl) rfl rfl ?_
      refine r_iload_n (pc' := 33) (kX11_codesTold_0 18 rfl) rfl rfl ?_
      refine s_put (pc' := 36) (kX11_codesTold_0 19 rfl) rfl fkX11_285 fnX11_47 rfl pk_int (kz198 Ln) ?_
      refine r_aload_n (pc' := 37) (kX11_codesTold_0 20 rfl) rfl rfl ?_
      refine r_iconst 0 (pc' := 38) (kX11_codesTold_0 21 rfl) rfl (by unfold inR; omega) ?_
      refine s_put (pc' := 41) (kX11_codesTold_0 22 rfl) rfl fkX11_315 fnX11_88 rfl pk_int (kz198 Ln) ?_
      refine r_aload_n (pc' := 42) (kX11_codesTold_0 23 rfl) rfl rfl ?_
      refine r_iconst 0 (pc' := 43) (kX11_codesTold_0 24 rfl) rfl (by unfold inR; omega) ?_
      refine s_put (pc' := 46) (kX11_codesTold_0 25 rfl) rfl fkX11_318 fnX11_90 rfl pk_int (kz198 Ln) ?_
      refine r_aload_n (pc' := 47) (kX11_codesTold_0 26 rfl) rfl rfl ?_
      refine r_iconst 0 (pc' := 48) (kX11_codesTold_0 27 rfl) rfl (by unfold inR; omega) ?_
      refine s_put (pc' := 51) (kX11_codesTold_0 28 rfl) rfl fkX11_321 fnX11_91 rfl pk_int (kz198 Ln) ?_
      refine r_aload_n (pc' := 52) (kX11_codesTold_0 29 rfl) rfl rfl ?_
      refine r_iconst 0 (pc' := 53) (kX11_codesTold_0 30 rfl) rfl (by unfold inR; omega) ?_
      refine s_put (pc' := 56) (kX11_codesTold_0 31 rfl) rfl fkX11_324 fnX11_92 rfl pk_int (kz198 Ln) ?_
      refine r_iload_n (pc' := 57) (kX11_codesTold_0 32 rfl) rfl rfl ?_
      refine r_iconst 1 (pc' := 58) (kX11_codesTold_0 33 rfl) rfl (by unfold inR; omega) ?_
      refine r_icmp_ne (t := 68) (pc' := 61) (kX11_codesTold_0 34 rfl) rfl rfl (fun c12 => ?_) (fun c12 => ?_)
      · have h := h.1 c12
        refine r_aload_n (pc' := 69) (kX11_codesTold_0 38 rfl) rfl rfl ?_
        refine s_callV (As := []) (o := 198) (S := []) (S2 := fun z => []) (pc' := 72) (kX11_codesTold_0 39 rfl) rfl rfl nkX11_qSums mlX11_330 imX11_qSums rfl slX11_qSums rfl (Nat.le_of_ble_eq_true rfl) (Nat.le_of_ble_eq_true rfl) (kz198 Ln) h (fun z => rfl) (fun r13 φ13 α13 h => ?_)
        refine r_aload_n (pc' := 73) (kX11_codesTold_0 40 rfl) rfl rfl ?_
        refine s_get (x := (φ13 11 5 198)) (pc' := 76) (kX11_codesTold_0 41 rfl) rfl fkX11_227 rfl rfl rfl (kz198 Ln) rfl ?_
        refine r_if_eq (t := 80) (pc' := 79) (kX11_codesTold_0 42 rfl) rfl rfl (fun c14 => ?_) (fun c14 => ?_)
        · have h := h.1 c14
          refine r_aload_n (pc' := 81) (kX11_codesTold_0 44 rfl) rfl rfl ?_
          refine s_getr (v := 230) (pc' := 84) (kX11_codesTold_0 45 rfl) rfl fkX11_109 rfl rfl (kz198 Ln) rfl (by decide) ?_
          refine r_iload_n (pc' := 85) (kX11_codesTold_0 46 rfl) rfl rfl ?_
          refine r_aload_n (pc' := 86) (kX11_codesTold_0 47 rfl) rfl rfl ?_
          refine s_get (x := (φ13 11 44 198)) (pc' := 89) (kX11_codesTold_0 48 rfl) rfl fkX11_333 rfl rfl rfl (kz198 Ln) rfl ?_
          refine s_iast (pc' := 90) (kX11_codesTold_0 49 rfl) rfl (kz230 Ln) g10 ?_
          refine r_iconst 0 (pc' := 91) (kX11_codesTold_0 50 rfl) rfl (by unfold inR; omega) ?_
          refine r_istore_n (L' := [(2, 198), (0, x1), (0, x2), (0, 0)]) (pc' := 92) (kX11_codesTold_0 51 rfl) rfl (Nat.le_of_ble_eq_true rfl) rfl ?_
          exact r_weak (L' := [(2, 198), (0, x1), (9, 0), (0, 0)]) ⟨Or.inl rfl, Or.inl rfl, Or.inr (by decide), Or.inl rfl, trivial⟩ (h Ln)
        · have h := h.2 c14
          exact s_vret (kX11_codesTold_0 43 rfl) rfl h
      · have h := h.2 c12
        refine r_aload_n (pc' := 62) (kX11_codesTold_0 35 rfl) rfl rfl ?_
        refine s_callV (As := []) (o := 198) (S := []) (S2 := fun z => []) (pc' := 65) (kX11_codesTold_0 36 rfl) rfl rfl nkX11_qTest mlX11_327 imX11_qTest rfl slX11_qTest rfl (Nat.le_of_ble_eq_true rfl) (Nat.le_of_ble_eq_true rfl) (kz198 Ln) h (fun z => rfl) (fun r15 φ15 α15 h => ?_)
        refine r_goto (pc' := 72) (kX11_codesTold_0 37 rfl) rfl ?_
        refine r_aload_n (pc' := 73) (kX11_codesTold_0 40 rfl) rfl rfl ?_
        refine s_get (x := (φ15 11 5 198)) (pc' := 76) (kX11_codesTold_0 41 rfl) rfl fkX11_227 rfl rfl rfl (kz198 Ln) rfl ?_
        refine r_if_eq (t := 80) (pc' := 79) (kX11_codesTold_0 42 rfl) rfl rfl (fun c16 => ?_) (fun c16 => ?_)
        · have h := h.1 c16
          refine r_aload_n (pc' := 81) (kX11_codesTold_0 44 rfl) rfl rfl ?_
          refine s_getr (v := 230) (pc' := 84) (kX11_codesTold_0 45 rfl) rfl fkX11_109 rfl rfl (kz198 Ln) rfl (by decide) ?_
          refine r_iload_n (pc' := 85) (kX11_codesTold_0 46 rfl) rfl rfl ?_
          refine r_aload_n (pc' := 86) (kX11_codesTold_0 47 rfl) rfl rfl ?_
          refine s_get (x := (φ15 11 44 198)) (pc' := 89) (kX11_codesTold_0 48 rfl) rfl fkX11_333 rfl rfl rfl (kz198 Ln) rfl ?_
          refine s_iast (pc' := 90) (kX11_codesTold_0 49 rfl) rfl (kz230 Ln) g10 ?_
          refine r_iconst 0 (pc' := 91) (kX11_codesTold_0 50 rfl) rfl (by unfold inR; omega) ?_
          refine r_istore_n (L' := [(2, 198), (0, x1), (0, x2), (0, 0)]) (pc' := 92) (kX11_codesTold_0 51 rfl) rfl (Nat.le_of_ble_eq_true rfl) rfl ?_
          exact r_weak (L' := [(2, 198), (0, x1), (9, 0), (0, 0)]) ⟨Or.inl rfl, Or.inl rfl, Or.inr (by decide), Or.inl rfl, trivial⟩ (h Ln)
        · have h := h.2 c16
          exact s_vret (kX11_codesTold_0 43 rfl) rfl h
    · have h := h.2 c11
      refine r_aload_n (pc' := 18) (kX11_codesTold_0 9 rfl) rfl rfl ?_
      refine r_iconst 5 (pc' := 19) (kX11_codesTold_0 10 rfl) rfl (by unfold inR; omega) ?_
      refine r_iload_n (pc' := 20) (kX11_codesTold_0 11 rfl) rfl rfl ?_
      refine s_callV (As := [(0, 5), (0, x2)]) (o := 198) (S := []) (S2 := fun z => []) (pc' := 23) (kX11_codesTold_0 12 rfl) rfl rfl nkX11_fail mlX11_257 imX11_fail rfl slX11_fail rfl (Nat.le_of_ble_eq_true rfl) (Nat.le_of_ble_eq_true rfl) (kz198 Ln) h (fun z => rfl) (fun r17 φ17 α17 h => ?_)
      refine r_aload_n (pc' := 24) (kX11_codesTold_0 13 rfl) rfl rfl ?_
      refine s_get (x := (φ17 11 5 198)) (pc' := 27) (kX11_codesTold_0 14 rfl) rfl fkX11_227 rfl rfl rfl (kz198 Ln) rfl ?_
      refine r_if_eq (t := 31) (pc' := 30) (kX11_codesTold_0 15 rfl) rfl rfl (fun c18 => ?_) (fun c18 => ?_)
      · have h := h.1 c18
        refine r_aload_n (pc' := 32) (kX11_codesTold_0 17 rfl) rfl rfl ?_
        refine r_iload_n (pc' := 33) (kX11_codesTold_0 18 rfl) rfl rfl ?_
        refine s_put (pc' := 36) (kX11_codesTold_0 19 rfl) rfl fkX11_285 fnX11_47 rfl pk_int (kz198 Ln) ?_
        refine r_aload_n (pc' := 37) (kX11_codesTold_0 20 rfl) rfl rfl ?_
        refine r_iconst 0 (pc' := 38) (kX11_codesTold_0 21 rfl) rfl (by unfold inR; omega) ?_
        refine s_put (pc' := 41) (kX11_codesTold_0 22 rfl) rfl fkX11_315 fnX11_88 rfl pk_int (kz198 Ln) ?_
        refine r_aload_n (pc' := 42) (kX11_codesTold_0 23 rfl) rfl rfl ?_
        refine r_iconst 0 (pc' := 43) (kX11_codesTold_0 24 rfl) rfl (by unfold inR; omega) ?_
        refine s_put (pc' := 46) (kX11_codesTold_0 25 rfl) rfl fkX11_318 fnX11_90 rfl pk_int (kz198 Ln) ?_
        refine r_aload_n (pc' := 47) (kX11_codesTold_0 26 rfl) rfl rfl ?_
        refine r_iconst 0 (pc' := 48) (kX11_codesTold_0 27 rfl) rfl (by unfold inR; omega) ?_
        refine s_put (pc' := 51) (kX11_codesTold_0 28 rfl) rfl fkX11_321 fnX11_91 rfl pk_int (kz198 Ln) ?_
        refine r_aload_n (pc' := 52) (kX11_codesTold_0 29 rfl) rfl rfl ?_
        refine r_iconst 0 (pc' := 53) (kX11_codesTold_0 30 rfl) rfl (by unfold inR; omega) ?_
        refine s_put (pc' := 56) (kX11_codesTold_0 31 rfl) rfl fkX11_324 fnX11_92 rfl pk_int (kz198 Ln) ?_
        refine r_iload_n (pc' := 57) (kX11_codesTold_0 32 rfl) rfl rfl ?_
        refine r_iconst 1 (pc' := 58) (kX11_codesTold_0 33 rfl) rfl (by unfold inR; omega) ?_
        refine r_icmp_ne (t := 68) (pc' := 61) (kX11_codesTold_0 34 rfl) rfl rfl (fun c19 => ?_) (fun c19 => ?_)
        · have h := h.1 c19
          refine r_aload_n (pc' := 69) (kX11_codesTold_0 38 rfl) rfl rfl ?_
          refine s_callV (As := []) (o := 198) (S := []) (S2 := fun z => []) (pc' := 72) (kX11_codesTold_0 39 rfl) rfl rfl nkX11_qSums mlX11_330 imX11_qSums rfl slX11_qSums rfl (Nat.le_of_ble_eq_true rfl) (Nat.le_of_ble_eq_true rfl) (kz198 Ln) h (fun z => rfl) (fun r20 φ20 α20 h => ?_)
          refine r_aload_n (pc' := 73) (kX11_codesTold_0 40 rfl) rfl rfl ?_
          refine s_get (x := (φ20 11 5 198)) (pc' := 76) (kX11_codesTold_0 41 rfl) rfl fkX11_227 rfl rfl rfl (kz198 Ln) rfl ?_
          refine r_if_eq (t := 80) (pc' := 79) (kX11_codesTold_0 42 rfl) rfl rfl (fun c21 => ?_) (fun c21 => ?_)
          · have h := h.1 c21
            refine r_aload_n (pc' := 81) (kX11_codesTold_0 44 rfl) rfl rfl ?_
            refine s_getr (v := 230) (pc' := 84) (kX11_codesTold_0 45 rfl) rfl fkX11_109 rfl rfl (kz198 Ln) rfl (by decide) ?_
            refine r_iload_n (pc' := 85) (kX11_codesTold_0 46 rfl) rfl rfl ?_
            refine r_aload_n (pc' := 86) (kX11_codesTold_0 47 rfl) rfl rfl ?_
            refine s_get (x := (φ20 11 44 198)) (pc' := 89) (kX11_codesTold_0 48 rfl) rfl fkX11_333 rfl rfl rfl (kz198 Ln) rfl ?_
            refine s_iast (pc' := 90) (kX11_codesTold_0 49 rfl) rfl (kz230 Ln) g10 ?_
            refine r_iconst 0 (pc' := 91) (kX11_codesTold_0 50 rfl) rfl (by unfold inR; omega) ?_
            refine r_istore_n (L' := [(2, 198), (0, x1), (0, x2), (0, 0)]) (pc' := 92) (kX11_codesTold_0 51 rfl) rfl (Nat.le_of_ble_eq_true rfl) rfl ?_
            exact r_weak (L' := [(2, 198), (0, x1), (9, 0), (0, 0)]) ⟨Or.inl rfl, Or.inl rfl, Or.inr (by decide), Or.inl rfl, trivial⟩ (h Ln)
          · have h := h.2 c21
            exact s_vret (kX11_codesTold_0 43 rfl) rfl h
        · have h := h.2 c19
          refine r_aload_n (pc' := 62) (kX11_codesTold_0 35 rfl) rfl rfl ?_
          refine s_callV (As := []) (o := 198) (S := []) (S2 := fun z => []) (pc' := 65) (kX11_codesTold_0 36 rfl) rfl rfl nkX11_qTest mlX11_327 imX11_qTest rfl slX11_qTest rfl (Nat.le_of_ble_eq_true rfl) (Nat.le_of_ble_eq_true rfl) (kz198 Ln) h (fun z => rfl) (fun r22 φ22 α22 h => ?_)
          refine r_goto (pc' := 72) (kX11_codesTold_0 37 rfl) rfl ?_
          refine r_aload_n (pc' := 73) (kX11_codesTold_0 40 rfl) rfl rfl ?_
          refine s_get (x := (φ22 11 5 198)) (pc' := 76) (kX11_codesTold_0 41 rfl) rfl fkX11_227 rfl rfl rfl (kz198 Ln) rfl ?_
          refine r_if_eq (t := 80) (pc' := 79) (kX11_codesTold_0 42 rfl) rfl rfl (fun c23 => ?_) (fun c23 => ?_)
          · have h := h.1 c23
            refine r_aload_n (pc' := 81) (kX11_codesTold_0 44 rfl) rfl rfl ?_
            refine s_getr (v := 230) (pc' := 84) (kX11_codesTold_0 45 rfl) rfl fkX11_109 rfl rfl (kz198 Ln) rfl (by decide) ?_
            refine r_iload_n (pc' := 85) (kX11_codesTold_0 46 rfl) rfl rfl ?_
            refine r_aload_n (pc' := 86) (kX11_codesTold_0 47 rfl) rfl rfl ?_
            refine s_get (x := (φ22 11 44 198)) (pc' := 89) (kX11_codesTold_0 48 rfl) rfl fkX11_333 rfl rfl rfl (kz198 Ln) rfl ?_
            refine s_iast (pc' := 90) (kX11_codesTold_0 49 rfl) rfl (kz230 Ln) g10 ?_
            refine r_iconst 0 (pc' := 91) (kX11_codesTold_0 50 rfl) rfl (by unfold inR; omega) ?_
            refine r_istore_n (L' := [(2, 198), (0, x1), (0, x2), (0, 0)]) (pc' := 92) (kX11_codesTold_0 51 rfl) rfl (Nat.le_of_ble_eq_true rfl) rfl ?_
            exact r_weak (L' := [(2, 198), (0, x1), (9, 0), (0, 0)]) ⟨Or.inl rfl, Or.inl rfl, Or.inr (by decide), Or.inl rfl, trivial⟩ (h Ln)
          · have h := h.2 c23
            exact s_vret (kX11_codesTold_0 43 rfl) rfl h
      · have h := h.2 c18
        exact s_vret (kX11_codesTold_0 16 rfl) rfl h
theorem vX11_codesTold_92 {d : Nat} {φ : aF} {α : aA} {Q : Int → aF → aA → Prop} {x1 : Int} {x3 : Int} (h : (((φ 11 88 198) ≤ x3 →
   (0 ≤ x1 ∧ x1 < (4 : Nat)) ∧ (Q 0 φ (upa α 231 x1 (φ 11 44 198)))) ∧
   (¬ ((φ 11 88 198) ≤ x3) →
   (0 ≤ x3 ∧ x3 < (1700 : Nat)) ∧ (0 ≤ (φ 11 44 198) ∧ (φ 11 44 198) < (3200 : Nat)) ∧ inR ((φ 11 44 198) + 1) ∧ inR (x3 + 1) ∧ (jX11_codesTold_92 (d + 1) x1 (x3 + 1) (upf φ 11 44 198 ((φ 11 44 198) + 1)) (upa α 232 (φ 11 44 198) (α 263 x3)) Q)))) : jX11_codesTold_92 (d + 1) x1 x3 φ α Q := by
  intro Ln
  refine r_iload_n (pc' := 93) (kX11_codesTold_0 52 rfl) rfl rfl ?_
  refine r_aload_n (pc' := 94) (kX11_codesTold_0 53 rfl) rfl rfl ?_
  refine s_get (x := (φ 11 88 198)) (pc' := 97) (kX11_codesTold_0 54 rfl) rfl fkX11_315 rfl rfl rfl (kz198 Ln) rfl ?_
  refine r_icmp_ge (t := 131) (pc' := 100) (kX11_codesTold_0 55 rfl) rfl rfl (fun c1 => ?_) (fun c1 => ?_)
  · have h := h.1 c1
    refine r_aload_n (pc' := 132) (kX11_codesTold_1 13 rfl) rfl rfl ?_
    refine s_getr (v := 231) (pc' := 135) (kX11_codesTold_1 14 rfl) rfl fkX11_112 rfl rfl (kz198 Ln) rfl (by decide) ?_
    refine r_iload_n (pc' := 136) (kX11_codesTold_1 15 rfl) rfl rfl ?_
    refine r_aload_n (pc' := 137) (kX11_codesTold_1 16 rfl) rfl rfl ?_
    refine s_get (x := (φ 11 44 198)) (pc' := 140) (kX11_codesTold_1 17 rfl) rfl fkX11_333 rfl rfl rfl (kz198 Ln) rfl ?_
    have g2 := h.1
    have h := h.2
    refine s_iast (pc' := 141) (kX11_codesTold_1 18 rfl) rfl (kz231 Ln) g2 ?_
    exact s_vret (kX11_codesTold_1 19 rfl) rfl h
  · have h := h.2 c1
    refine r_aload_n (pc' := 101) (kX11_codesTold_0 56 rfl) rfl rfl ?_
    refine s_getr (v := 232) (pc' := 104) (kX11_codesTold_0 57 rfl) rfl fkX11_115 rfl rfl (kz198 Ln) rfl (by decide) ?_
    refine r_aload_n (pc' := 105) (kX11_codesTold_0 58 rfl) rfl rfl ?_
    refine s_get (x := (φ 11 44 198)) (pc' := 108) (kX11_codesTold_0 59 rfl) rfl fkX11_333 rfl rfl rfl (kz198 Ln) rfl ?_
    refine r_aload_n (pc' := 109) (kX11_codesTold_1 0 rfl) rfl rfl ?_
    refine s_getr (v := 263) (pc' := 112) (kX11_codesTold_1 1 rfl) rfl fkX11_212 rfl rfl (kz198 Ln) rfl (by decide) ?_
    refine r_iload_n (pc' := 113) (kX11_codesTold_1 2 rfl) rfl rfl ?_
    have g3 := h.1
    have h := h.2
    refine s_iald (x := (α 263 x3)) (pc' := 114) (kX11_codesTold_1 3 rfl) rfl (kz263 Ln) g3 rfl ?_
    have g4 := h.1
    have h := h.2
    refine s_iast (pc' := 115) (kX11_codesTold_1 4 rfl) rfl (kz232 Ln) g4 ?_
    refine r_aload_n (pc' := 116) (kX11_codesTold_1 5 rfl) rfl rfl ?_
    refine r_dup (pc' := 117) (kX11_codesTold_1 6 rfl) rfl rfl ?_
    refine s_get (x := (φ 11 44 198)) (pc' := 120) (kX11_codesTold_1 7 rfl) rfl fkX11_333 rfl rfl rfl (kz198 Ln) rfl ?_
    refine r_iconst 1 (pc' := 121) (kX11_codesTold_1 8 rfl) rfl (by unfold inR; omega) ?_
    have g5 := h.1
    have h := h.2
    refine r_iadd (pc' := 122) (kX11_codesTold_1 9 rfl) rfl g5 ?_
    refine s_put (pc' := 125) (kX11_codesTold_1 10 rfl) rfl fkX11_333 fnX11_44 rfl pk_int (kz198 Ln) ?_
    have g6 := h.1
    have h := h.2
    refine r_iinc (L' := [(2, 198), (0, x1), (9, 0), (0, (x3 + 1))]) (pc' := 128) (kX11_codesTold_1 11 rfl) rfl (Nat.le_of_ble_eq_true rfl) rfl g6 rfl ?_
    refine r_goto (pc' := 92) (kX11_codesTold_1 12 rfl) rfl ?_
    exact r_weak (L' := [(2, 198), (0, x1), (9, 0), (0, (x3 + 1))]) ⟨Or.inl rfl, Or.inl rfl, Or.inr (by decide), Or.inl rfl, trivial⟩ (h Ln)
theorem vX11_statementTold_0 {d : Nat} {φ : aF} {α : aA} {Q : Int → aF → aA → Prop} (h : ((¬ (φ 11 45 198) = 80 →
   (eX11_takes d 202 φ α (fun r2 φ2 α2 =>
     ((r2 = 0 →
     (eX11_takes d 203 φ2 α2 (fun r4 φ4 α4 =>
       ((r4 = 0 →
       (eX11_takes d 206 φ4 α4 (fun r6 φ6 α6 =>
         ((r6 = 0 →
         (eX11_takes d 208 φ6 α6 (fun r8 φ8 α8 =>
           ((r8 = 0 →
           (eX11_takes d 209 φ8 α8 (fun r10 φ10 α10 =>
             ((r10 = 0 →
             (eX11_asks d 210 φ10 α10 (fun r12 φ12 α12 =>
               (eX11_number d 0 100 φ12 α12 (fun r13 φ13 α13 =>
               (eX11_asksSign d 59 φ13 (upa α13 225 1 r13) (fun r14 φ14 α14 =>
               inR ((φ14 11 45 198) + 1) ∧ (Q 0 (upf φ14 11 45 198 ((φ14 11 45 198) + 1)) α14)))))))) ∧
             (¬ (r10 = 0) →
             (eX11_codesTold d 1 (φ 11 2 198) φ10 α10 (fun r16 φ16 α16 =>
               (eX11_asksSign d 59 φ16 α16 (fun r17 φ17 α17 =>
               inR ((φ17 11 45 198) + 1) ∧ (Q 0 (upf φ17 11 45 198 ((φ17 11 45 198) + 1)) α17)))))))))) ∧
           (¬ (r8 = 0) →
           (eX11_codesTold d 0 (φ 11 2 198) φ8 α8 (fun r19 φ19 α19 =>
             (eX11_asksSign d 59 φ19 α19 (fun r20 φ20 α20 =>
             inR ((φ20 11 45 198) + 1) ∧ (Q 0 (upf φ20 11 45 198 ((φ20 11 45 198) + 1)) α20)))))))))) ∧
         (¬ (r6 = 0) →
         (eX11_toldTold d  φ6 α6 (fun r22 φ22 α22 =>
           (eX11_asksSign d 59 φ22 α22 (fun r23 φ23 α23 =>
           inR ((φ23 11 45 198) + 1) ∧ (Q 0 (upf φ23 11 45 198 ((φ23 11 45 198) + 1)) α23)))))))))) ∧
       (¬ (r4 = 0) →
       (eX11_clerkTold d (φ 11 2 198) φ4 α4 (fun r25 φ25 α25 =>
         (eX11_asksSign d 59 φ25 α25 (fun r26 φ26 α26 =>
         inR ((φ26 11 45 198) + 1) ∧ (Q 0 (upf φ26 11 45 198 ((φ26 11 45 198) + 1)) α26)))))))))) ∧
     (¬ (r2 = 0) →
     (eX11_matterTold d (φ 11 2 198) φ2 α2 (fun r28 φ28 α28 =>
       (eX11_asksSign d 59 φ28 α28 (fun r29 φ29 α29 =>
       inR ((φ29 11 45 198) + 1) ∧ (Q 0 (upf φ29 11 45 198 ((φ29 11 45 198) + 1)) α29)))))))))) ∧
   ((φ 11 45 198) = 80 →
   (eX11_fail d 5 (φ 11 2 198) φ α (fun r31 φ31 α31 =>
     (Q 0 φ31 α31)))))) : eX11_statementTold (d + 1)  φ α Q := by
  intro Ln
  refine r_aload_n (pc' := 1) (kX11_statementTold_0 0 rfl) rfl rfl ?_
  refine s_get (x := (φ 11 2 198)) (pc' := 4) (kX11_statementTold_0 1 rfl) rfl fkX11_233 rfl rfl rfl (kz198 Ln) rfl ?_
  refine r_istore_n (L' := [(2, 198), (0, (φ 11 2 198))]) (pc' := 5) (kX11_statementTold_0 2 rfl) rfl (Nat.le_of_ble_eq_true rfl) rfl ?_
  refine r_aload_n (pc' := 6) (kX11_statementTold_0 3 rfl) rfl rfl ?_
  refine s_get (x := (φ 11 45 198)) (pc' := 9) (kX11_statementTold_0 4 rfl) rfl fkX11_336 rfl rfl rfl (kz198 Ln) rfl ?_
  refine r_bipush 80 (pc' := 11) (kX11_statementTold_0 5 rfl) rfl ⟨by unfold inR; omega, rfl⟩ ?_
  refine r_icmp_ne (t := 21) (pc' := 14) (kX11_statementTold_0 6 rfl) rfl rfl (fun c1 => ?_) (fun c1 => ?_)
  · have h := h.1 c1
    refine r_aload_n (pc' := 22) (kX11_statementTold_0 12 rfl) rfl rfl ?_
    refine r_aload_n (pc' := 23) (kX11_statementTold_0 13 rfl) rfl rfl ?_
    refine s_getr (v := 202) (pc' := 26) (kX11_statementTold_0 14 rfl) rfl fkX11_24 rfl rfl (kz198 Ln) rfl (by decide) ?_
    refine s_callV (As := [(2, 202)]) (o := 198) (S := []) (S2 := fun z => [(0, z)]) (pc' := 29) (kX11_statementTold_0 15 rfl) rfl rfl nkX11_takes mlX11_254 imX11_takes rfl slX11_takes rfl (Nat.le_of_ble_eq_true rfl) (Nat.le_of_ble_eq_true rfl) (kz198 Ln) h (fun z => rfl) (fun r2 φ2 α2 h => ?_)
    refine r_if_eq (t := 40) (pc' := 32) (kX11_statementTold_0 16 rfl) rfl rfl (fun c3 => ?_) (fun c3 => ?_)
    · have h := h.1 c3
      refine r_aload_n (pc' := 41) (kX11_statementTold_0 21 rfl) rfl rfl ?_
      refine r_aload_n (pc' := 42) (kX11_statementTold_0 22 rfl) rfl rfl ?_
      refine s_getr (v := 203) (pc' := 45) (kX11_statementTold_0 23 rfl) rfl fkX11_27 rfl rfl (kz198 Ln) rfl (by decide) ?_
      refine s_callV (As := [(2, 203)]) (o := 198) (S := []) (S2 := fun z => [(0, z)]) (pc' := 48) (kX11_statementTold_0 24 rfl) rfl rfl nkX11_takes mlX11_254 imX11_takes rfl slX11_takes rfl (Nat.le_of_ble_eq_true rfl) (Nat.le_of_ble_eq_true rfl) (kz198 Ln) h (fun z => rfl) (fun r4 φ4 α4 h => ?_)
      refine r_if_eq (t := 59) (pc' := 51) (kX11_statementTold_0 25 rfl) rfl rfl (fun c5 => ?_) (fun c5 => ?_)
      · have h := h.1 c5
        refine r_aload_n (pc' := 60) (kX11_statementTold_0 30 rfl) rfl rfl ?_
        refine r_aload_n (pc' := 61) (kX11_statementTold_0 31 rfl) rfl rfl ?_
        refine s_getr (v := 206) (pc' := 64) (kX11_statementTold_0 32 rfl) rfl fkX11_36 rfl rfl (kz198 Ln) rfl (by decide) ?_
        refine s_callV (As := [(2, 206)]) (o := 198) (S := []) (S2 := fun z => [(0, z)]) (pc' := 67) (kX11_statementTold_0 33 rfl) rfl rfl nkX11_takes mlX11_254 imX11_takes rfl slX11_takes rfl (Nat.le_of_ble_eq_true rfl) (Nat.le_of_ble_eq_true rfl) (kz198 Ln) h (fun z => rfl) (fun r6 φ6 α6 h => ?_)
        refine r_if_eq (t := 77) (pc' := 70) (kX11_statementTold_0 34 rfl) rfl rfl (fun c7 => ?_) (fun c7 => ?_)
        · have h := h.1 c7
          refine r_aload_n (pc' := 78) (kX11_statementTold_0 38 rfl) rfl rfl ?_
          refine r_aload_n (pc' := 79) (kX11_statementTold_0 39 rfl) rfl rfl ?_
          refine s_getr (v := 208) (pc' := 82) (kX11_statementTold_0 40 rfl) rfl fkX11_42 rfl rfl (kz198 Ln) rfl (by decide) ?_
          refine s_callV (As := [(2, 208)]) (o := 198) (S := []) (S2 := fun z => [(0, z)]) (pc' := 85) (kX11_statementTold_0 41 rfl) rfl rfl nkX11_takes mlX11_254 imX11_takes rfl slX11_takes rfl (Nat.le_of_ble_eq_true rfl) (Nat.le_of_ble_eq_true rfl) (kz198 Ln) h (fun z => rfl) (fun r8 φ8 α8 h => ?_)
          refine r_if_eq (t := 97) (pc' := 88) (kX11_statementTold_0 42 rfl) rfl rfl (fun c9 => ?_) (fun c9 => ?_)
          · have h := h.1 c9
            refine r_aload_n (pc' := 98) (kX11_statementTold_0 48 rfl) rfl rfl ?_
            refine r_aload_n (pc' := 99) (kX11_statementTold_0 49 rfl) rfl rfl ?_
            refine s_getr (v := 209) (pc' := 102) (kX11_statementTold_0 50 rfl) rfl fkX11_45 rfl rfl (kz198 Ln) rfl (by decide) ?_
            refine s_callV (As := [(2, 209)]) (o := 198) (S := []) (S2 := fun z => [(0, z)]) (pc' := 105) (kX11_statementTold_0 51 rfl) rfl rfl nkX11_takes mlX11_254 imX11_takes rfl slX11_takes rfl (Nat.le_of_ble_eq_true rfl) (Nat.le_of_ble_eq_true rfl) (kz198 Ln) h (fun z => rfl) (fun r10 φ10 α10 h => ?_)
            refine r_if_eq (t := 117) (pc' := 108) (kX11_statementTold_0 52 rfl) rfl rfl (fun c11 => ?_) (fun c11 => ?_)
            · have h := h.1 c11
              refine r_aload_n (pc' := 118) (kX11_statementTold_0 58 rfl) rfl rfl ?_
              refine r_aload_n (pc' := 119) (kX11_statementTold_0 59 rfl) rfl rfl ?_
              refine s_getr (v := 210) (pc' := 122) (kX11_statementTold_1 0 rfl) rfl fkX11_48 rfl rfl (kz198 Ln) rfl (by decide) ?_
              refine s_callV (As := [(2, 210)]) (o := 198) (S := []) (S2 := fun z => []) (pc' := 125) (kX11_statementTold_1 1 rfl) rfl rfl nkX11_asks mlX11_292 imX11_asks rfl slX11_asks rfl (Nat.le_of_ble_eq_true rfl) (Nat.le_of_ble_eq_true rfl) (kz198 Ln) h (fun z => rfl) (fun r12 φ12 α12 h => ?_)
              refine r_aload_n (pc' := 126) (kX11_statementTold_1 2 rfl) rfl rfl ?_
              refine s_getr (v := 225) (pc' := 129) (kX11_statementTold_1 3 rfl) rfl fkX11_93 rfl rfl (kz198 Ln) rfl (by decide) ?_
              refine r_iconst 1 (pc' := 130) (kX11_statementTold_1 4 rfl) rfl (by unfold inR; omega) ?_
              refine r_aload_n (pc' := 131) (kX11_statementTold_1 5 rfl) rfl rfl ?_
              refine r_iconst 0 (pc' := 132) (kX11_statementTold_1 6 rfl) rfl (by unfold inR; omega) ?_
              refine r_bipush 100 (pc' := 134) (kX11_statementTold_1 7 rfl) rfl ⟨by unfold inR; omega, rfl⟩ ?_
              refine s_callV (As := [(0, 0), (0, 100)]) (o := 198) (S := [(0, 1), (2, 225)]) (S2 := fun z => [(0, z), (0, 1), (2, 225)]) (pc' := 137) (kX11_statementTold_1 8 rfl) rfl rfl nkX11_number mlX11_296 imX11_number rfl slX11_number rfl (Nat.le_of_ble_eq_true rfl) (Nat.le_of_ble_eq_true rfl) (kz198 Ln) h (fun z => rfl) (fun r13 φ13 α13 h => ?_)
              refine s_iast (pc' := 138) (kX11_statementTold_1 9 rfl) rfl (kz225 Ln) ⟨by decide, by decide⟩ ?_
              refine r_aload_n (pc' := 139) (kX11_statementTold_1 10 rfl) rfl rfl ?_
              refine r_bipush 59 (pc' := 141) (kX11_statementTold_1 11 rfl) rfl ⟨by unfold inR; omega, rfl⟩ ?_
              refine s_callV (As := [(0, 59)]) (o := 198) (S := []) (S2 := fun z => []) (pc' := 144) (kX11_statementTold_1 12 rfl) rfl rfl nkX11_asksSign mlX11_300 imX11_asksSign rfl slX11_asksSign rfl (Nat.le_of_ble_eq_true rfl) (Nat.le_of_ble_eq_true rfl) (kz198 Ln) h (fun z => rfl) (fun r14 φ14 α14 h => ?_)
              refine r_aload_n (pc' := 145) (kX11_statementTold_1 13 rfl) rfl rfl ?_
              refine r_dup (pc' := 146) (kX11_statementTold_1 14 rfl) rfl rfl ?_
              refine s_get (x := (φ14 11 45 198)) (pc' := 149) (kX11_statementTold_1 15 rfl) rfl fkX11_336 rfl rfl rfl (kz198 Ln) rfl ?_
              refine r_iconst 1 (pc' := 150) (kX11_statementTold_1 16 rfl) rfl (by unfold inR; omega) ?_
              have g15 := h.1
              have h := h.2
              refine r_iadd (pc' := 151) (kX11_statementTold_1 17 rfl) rfl g15 ?_
              refine s_put (pc' := 154) (kX11_statementTold_1 18 rfl) rfl fkX11_336 fnX11_45 rfl pk_int (kz198 Ln) ?_
              exact s_vret (kX11_statementTold_1 19 rfl) rfl h
            · have h := h.2 c11
              refine r_aload_n (pc' := 109) (kX11_statementTold_0 53 rfl) rfl rfl ?_
              refine r_iconst 1 (pc' := 110) (kX11_statementTold_0 54 rfl) rfl (by unfold inR; omega) ?_
              refine r_iload_n (pc' := 111) (kX11_statementTold_0 55 rfl) rfl rfl ?_
              refine s_callV (As := [(0, 1), (0, (φ 11 2 198))]) (o := 198) (S := []) (S2 := fun z => []) (pc' := 114) (kX11_statementTold_0 56 rfl) rfl rfl nkX11_codesTold mlX11_348 imX11_codesTold rfl slX11_codesTold rfl (Nat.le_of_ble_eq_true rfl) (Nat.le_of_ble_eq_true rfl) (kz198 Ln) h (fun z => rfl) (fun r16 φ16 α16 h => ?_)
              refine r_goto (pc' := 138) (kX11_statementTold_0 57 rfl) rfl ?_
              refine r_aload_n (pc' := 139) (kX11_statementTold_1 10 rfl) rfl rfl ?_
              refine r_bipush 59 (pc' := 141) (kX11_statementTold_1 11 rfl) rfl ⟨by unfold inR; omega, rfl⟩ ?_
              refine s_callV (As := [(0, 59)]) (o := 198) (S := []) (S2 := fun z => []) (pc' := 144) (kX11_statementTold_1 12 rfl) rfl rfl nkX11_asksSign mlX11_300 imX11_asksSign rfl slX11_asksSign rfl (Nat.le_of_ble_eq_true rfl) (Nat.le_of_ble_eq_true rfl) (kz198 Ln) h (fun z => rfl) (fun r17 φ17 α17 h => ?_)
              refine r_aload_n (pc' := 145) (kX11_statementTold_1 13 rfl) rfl rfl ?_
              refine r_dup (pc' := 146) (kX11_statementTold_1 14 rfl) rfl rfl ?_
              refine s_get (x := (φ17 11 45 198)) (pc' := 149) (kX11_statementTold_1 15 rfl) rfl fkX11_336 rfl rfl rfl (kz198 Ln) rfl ?_
              refine r_iconst 1 (pc' := 150) (kX11_statementTold_1 16 rfl) rfl (by unfold inR; omega) ?_
              have g18 := h.1
              have h := h.2
              refine r_iadd (pc' := 151) (kX11_statementTold_1 17 rfl) rfl g18 ?_
              refine s_put (pc' := 154) (kX11_statementTold_1 18 rfl) rfl fkX11_336 fnX11_45 rfl pk_int (kz198 Ln) ?_
              exact s_vret (kX11_statementTold_1 19 rfl) rfl h
          · have h := h.2 c9
            refine r_aload_n (pc' := 89) (kX11_statementTold_0 43 rfl) rfl rfl ?_
            refine r_iconst 0 (pc' := 90) (kX11_statementTold_0 44 rfl) rfl (by unfold inR; omega) ?_
            refine r_iload_n (pc' := 91) (kX11_statementTold_0 45 rfl) rfl rfl ?_
            refine s_callV (As := [(0, 0), (0, (φ 11 2 198))]) (o := 198) (S := []) (S2 := fun z => []) (pc' := 94) (kX11_statementTold_0 46 rfl) rfl rfl nkX11_codesTold mlX11_348 imX11_codesTold rfl slX11_codesTold rfl (Nat.le_of_ble_eq_true rfl) (Nat.le_of_ble_eq_true rfl) (kz198 Ln) h (fun z => rfl) (fun r19 φ19 α19 h => ?_)
            refine r_goto (pc' := 138) (kX11_statementTold_0 47 rfl) rfl ?_
            refine r_aload_n (pc' := 139) (kX11_statementTold_1 10 rfl) rfl rfl ?_
            refine r_bipush 59 (pc' := 141) (kX11_statementTold_1 11 rfl) rfl ⟨by unfold inR; omega, rfl⟩ ?_
            refine s_callV (As := [(0, 59)]) (o := 198) (S := []) (S2 := fun z => []) (pc' := 144) (kX11_statementTold_1 12 rfl) rfl rfl nkX11_asksSign mlX11_300 imX11_asksSign rfl slX11_asksSign rfl (Nat.le_of_ble_eq_true rfl) (Nat.le_of_ble_eq_true rfl) (kz198 Ln) h (fun z => rfl) (fun r20 φ20 α20 h => ?_)
            refine r_aload_n (pc' := 145) (kX11_statementTold_1 13 rfl) rfl rfl ?_
            refine r_dup (pc' := 146) (kX11_statementTold_1 14 rfl) rfl rfl ?_
            refine s_get (x := (φ20 11 45 198)) (pc' := 149) (kX11_statementTold_1 15 rfl) rfl fkX11_336 rfl rfl rfl (kz198 Ln) rfl ?_
            refine r_iconst 1 (pc' := 150) (kX11_statementTold_1 16 rfl) rfl (by unfold inR; omega) ?_
            have g21 := h.1
            have h := h.2
            refine r_iadd (pc' := 151) (kX11_statementTold_1 17 rfl) rfl g21 ?_
            refine s_put (pc' := 154) (kX11_statementTold_1 18 rfl) rfl fkX11_336 fnX11_45 rfl pk_int (kz198 Ln) ?_
            exact s_vret (kX11_statementTold_1 19 rfl) rfl h
        · have h := h.2 c7
          refine r_aload_n (pc' := 71) (kX11_statementTold_0 35 rfl) rfl rfl ?_
          refine s_callV (As := []) (o := 198) (S := []) (S2 := fun z => []) (pc' := 74) (kX11_statementTold_0 36 rfl) rfl rfl nkX11_toldTold mlX11_345 imX11_toldTold rfl slX11_toldTold rfl (Nat.le_of_ble_eq_true rfl) (Nat.le_of_ble_eq_true rfl) (kz198 Ln) h (fun z => rfl) (fun r22 φ22 α22 h => ?_)
          refine r_goto (pc' := 138) (kX11_statementTold_0 37 rfl) rfl ?_
          refine r_aload_n (pc' := 139) (kX11_statementTold_1 10 rfl) rfl rfl ?_
          refine r_bipush 59 (pc' := 141) (kX11_statementTold_1 11 rfl) rfl ⟨by unfold inR; omega, rfl⟩ ?_
          refine s_callV (As := [(0, 59)]) (o := 198) (S := []) (S2 := fun z => []) (pc' := 144) (kX11_statementTold_1 12 rfl) rfl rfl nkX11_asksSign mlX11_300 imX11_asksSign rfl slX11_asksSign rfl (Nat.le_of_ble_eq_true rfl) (Nat.le_of_ble_eq_true rfl) (kz198 Ln) h (fun z => rfl) (fun r23 φ23 α23 h => ?_)
          refine r_aload_n (pc' := 145) (kX11_statementTold_1 13 rfl) rfl rfl ?_
          refine r_dup (pc' := 146) (kX11_statementTold_1 14 rfl) rfl rfl ?_
          refine s_get (x := (φ23 11 45 198)) (pc' := 149) (kX11_statementTold_1 15 rfl) rfl fkX11_336 rfl rfl rfl (kz198 Ln) rfl ?_
          refine r_iconst 1 (pc' := 150) (kX11_statementTold_1 16 rfl) rfl (by unfold inR; omega) ?_
          have g24 := h.1
          have h := h.2
          refine r_iadd (pc' := 151) (kX11_statementTold_1 17 rfl) rfl g24 ?_
          refine s_put (pc' := 154) (kX11_statementTold_1 18 rfl) rfl fkX11_336 fnX11_45 rfl pk_int (kz198 Ln) ?_
          exact s_vret (kX11_statementTold_1 19 rfl) rfl h
      · have h := h.2 c5
        refine r_aload_n (pc' := 52) (kX11_statementTold_0 26 rfl) rfl rfl ?_
        refine r_iload_n (pc' := 53) (kX11_statementTold_0 27 rfl) rfl rfl ?_
        refine s_callV (As := [(0, (φ 11 2 198))]) (o := 198) (S := []) (S2 := fun z => []) (pc' := 56) (kX11_statementTold_0 28 rfl) rfl rfl nkX11_clerkTold mlX11_342 imX11_clerkTold rfl slX11_clerkTold rfl (Nat.le_of_ble_eq_true rfl) (Nat.le_of_ble_eq_true rfl) (kz198 Ln) h (fun z => rfl) (fun r25 φ25 α25 h => ?_)
        refine r_goto (pc' := 138) (kX11_statementTold_0 29 rfl) rfl ?_
        refine r_aload_n (pc' := 139) (kX11_statementTold_1 10 rfl) rfl rfl ?_
        refine r_bipush 59 (pc' := 141) (kX11_statementTold_1 11 rfl) rfl ⟨by unfold inR; omega, rfl⟩ ?_
        refine s_callV (As := [(0, 59)]) (o := 198) (S := []) (S2 := fun z => []) (pc' := 144) (kX11_statementTold_1 12 rfl) rfl rfl nkX11_asksSign mlX11_300 imX11_asksSign rfl slX11_asksSign rfl (Nat.le_of_ble_eq_true rfl) (Nat.le_of_ble_eq_true rfl) (kz198 Ln) h (fun z => rfl) (fun r26 φ26 α26 h => ?_)
        refine r_aload_n (pc' := 145) (kX11_statementTold_1 13 rfl) rfl rfl ?_
        refine r_dup (pc' := 146) (kX11_statementTold_1 14 rfl) rfl rfl ?_
        refine s_get (x := (φ26 11 45 198)) (pc' := 149) (kX11_statementTold_1 15 rfl) rfl fkX11_336 rfl rfl rfl (kz198 Ln) rfl ?_
        refine r_iconst 1 (pc' := 150) (kX11_statementTold_1 16 rfl) rfl (by unfold inR; omega) ?_
        have g27 := h.1
        have h := h.2
        refine r_iadd (pc' := 151) (kX11_statementTold_1 17 rfl) rfl g27 ?_
        refine s_put (pc' := 154) (kX11_statementTold_1 18 rfl) rfl fkX11_336 fnX11_45 rfl pk_int (kz198 Ln) ?_
        exact s_vret (kX11_statementTold_1 19 rfl) rfl h
    · have h := h.2 c3
      refine r_aload_n (pc' := 33) (kX11_statementTold_0 17 rfl) rfl rfl ?_
      refine r_iload_n (pc' := 34) (kX11_statementTold_0 18 rfl) rfl rfl ?_
      refine s_callV (As := [(0, (φ 11 2 198))]) (o := 198) (S := []) (S2 := fun z => []) (pc' := 37) (kX11_statementTold_0 19 rfl) rfl rfl nkX11_matterTold mlX11_339 imX11_matterTold rfl slX11_matterTold rfl (Nat.le_of_ble_eq_true rfl) (Nat.le_of_ble_eq_true rfl) (kz198 Ln) h (fun z => rfl) (fun r28 φ28 α28 h => ?_)
      refine r_goto (pc' := 138) (kX11_statementTold_0 20 rfl) rfl ?_
      refine r_aload_n (pc' := 139) (kX11_statementTold_1 10 rfl) rfl rfl ?_
      refine r_bipush 59 (pc' := 141) (kX11_statementTold_1 11 rfl) rfl ⟨by unfold inR; omega, rfl⟩ ?_
      refine s_callV (As := [(0, 59)]) (o := 198) (S := []) (S2 := fun z => []) (pc' := 144) (kX11_statementTold_1 12 rfl) rfl rfl nkX11_asksSign mlX11_300 imX11_asksSign rfl slX11_asksSign rfl (Nat.le_of_ble_eq_true rfl) (Nat.le_of_ble_eq_true rfl) (kz198 Ln) h (fun z => rfl) (fun r29 φ29 α29 h => ?_)
      refine r_aload_n (pc' := 145) (kX11_statementTold_1 13 rfl) rfl rfl ?_
      refine r_dup (pc' := 146) (kX11_statementTold_1 14 rfl) rfl rfl ?_
      refine s_get (x := (φ29 11 45 198)) (pc' := 149) (kX11_statementTold_1 15 rfl) rfl fkX11_336 rfl rfl rfl (kz198 Ln) rfl ?_
      refine r_iconst 1 (pc' := 150) (kX11_statementTold_1 16 rfl) rfl (by unfold inR; omega) ?_
      have g30 := h.1
      have h := h.2
      refine r_iadd (pc' := 151) (kX11_statementTold_1 17 rfl) rfl g30 ?_
      refine s_put (pc' := 154) (kX11_statementTold_1 18 rfl) rfl fkX11_336 fnX11_45 rfl pk_int (kz198 Ln) ?_
      exact s_vret (kX11_statementTold_1 19 rfl) rfl h
  · have h := h.2 c1
    refine r_aload_n (pc' := 15) (kX11_statementTold_0 7 rfl) rfl rfl ?_
    refine r_iconst 5 (pc' := 16) (kX11_statementTold_0 8 rfl) rfl (by unfold inR; omega) ?_
    refine r_iload_n (pc' := 17) (kX11_statementTold_0 9 rfl) rfl rfl ?_
    refine s_callV (As := [(0, 5), (0, (φ 11 2 198))]) (o := 198) (S := []) (S2 := fun z => []) (pc' := 20) (kX11_statementTold_0 10 rfl) rfl rfl nkX11_fail mlX11_257 imX11_fail rfl slX11_fail rfl (Nat.le_of_ble_eq_true rfl) (Nat.le_of_ble_eq_true rfl) (kz198 Ln) h (fun z => rfl) (fun r31 φ31 α31 h => ?_)
    exact s_vret (kX11_statementTold_0 11 rfl) rfl h
abbrev jX11_registry_40 (d : Nat) (x1 : Int) (φ : aF) (α : aA) (Q : Int → aF → aA → Prop) : Prop := R0 d mX11_registry 40 [(2, 198), (0, x1)] [] φ α Q
theorem vX11_registry_0 {d : Nat} {φ : aF} {α : aA} {Q : Int → aF → aA → Prop} (h : (jX11_registry_40 (d + 1) 0 (upf (upf (upf (upf (upf (upf (upf φ 11 3 198 (φ 11 1 198)) 11 1 198 0) 11 2 198 0) 11 4 198 (-1)) 11 5 198 0) 11 6 198 (-1)) 11 44 198 0) α Q)) : eX11_registry (d + 1)  φ α Q := by
  intro Ln
  refine r_aload_n (pc' := 1) (kX11_registry_0 0 rfl) rfl rfl ?_
  refine r_aload_n (pc' := 2) (kX11_registry_0 1 rfl) rfl rfl ?_
  refine s_get (x := (φ 11 1 198)) (pc' := 5) (kX11_registry_0 2 rfl) rfl fkX11_224 rfl rfl rfl (kz198 Ln) rfl ?_
  refine s_put (pc' := 8) (kX11_registry_0 3 rfl) rfl fkX11_236 fnX11_3 rfl pk_int (kz198 Ln) ?_
  refine r_aload_n (pc' := 9) (kX11_registry_0 4 rfl) rfl rfl ?_
  refine r_iconst 0 (pc' := 10) (kX11_registry_0 5 rfl) rfl (by unfold inR; omega) ?_
  refine s_put (pc' := 13) (kX11_registry_0 6 rfl) rfl fkX11_224 fnX11_1 rfl pk_int (kz198 Ln) ?_
  refine r_aload_n (pc' := 14) (kX11_registry_0 7 rfl) rfl rfl ?_
  refine r_iconst 0 (pc' := 15) (kX11_registry_0 8 rfl) rfl (by unfold inR; omega) ?_
  refine s_put (pc' := 18) (kX11_registry_0 9 rfl) rfl fkX11_233 fnX11_2 rfl pk_int (kz198 Ln) ?_
  refine r_aload_n (pc' := 19) (kX11_registry_0 10 rfl) rfl rfl ?_
  refine r_iconst (-1) (pc' := 20) (kX11_registry_0 11 rfl) rfl (by unfold inR; omega) ?_
  refine s_put (pc' := 23) (kX11_registry_0 12 rfl) rfl fkX11_247 fnX11_4 rfl pk_int (kz198 Ln) ?_
  refine r_aload_n (pc' := 24) (kX11_registry_0 13 rfl) rfl rfl ?_
  refine r_iconst 0 (pc' := 25) (kX11_registry_0 14 rfl) rfl (by unfold inR; omega) ?_
  refine s_put (pc' := 28) (kX11_registry_0 15 rfl) rfl fkX11_227 fnX11_5 rfl pk_int (kz198 Ln) ?_
  refine r_aload_n (pc' := 29) (kX11_registry_0 16 rfl) rfl rfl ?_
  refine r_iconst (-1) (pc' := 30) (kX11_registry_0 17 rfl) rfl (by unfold inR; omega) ?_
  refine s_put (pc' := 33) (kX11_registry_0 18 rfl) rfl fkX11_230 fnX11_6 rfl pk_int (kz198 Ln) ?_
  refine r_aload_n (pc' := 34) (kX11_registry_0 19 rfl) rfl rfl ?_
  refine r_iconst 0 (pc' := 35) (kX11_registry_0 20 rfl) rfl (by unfold inR; omega) ?_
  refine s_put (pc' := 38) (kX11_registry_0 21 rfl) rfl fkX11_333 fnX11_44 rfl pk_int (kz198 Ln) ?_
  refine r_iconst 0 (pc' := 39) (kX11_registry_0 22 rfl) rfl (by unfold inR; omega) ?_
  refine r_istore_n (L' := [(2, 198), (0, 0)]) (pc' := 40) (kX11_registry_0 23 rfl) rfl (Nat.le_of_ble_eq_true rfl) rfl ?_
  exact r_weak (L' := [(2, 198), (0, 0)]) ⟨Or.inl rfl, Or.inl rfl, trivial⟩ (h Ln)
abbrev jX11_registry_81 (d : Nat) (φ : aF) (α : aA) (Q : Int → aF → aA → Prop) : Prop := R0 d mX11_registry 81 [(2, 198), (9, 0)] [] φ α Q
theorem vX11_registry_40 {d : Nat} {φ : aF} {α : aA} {Q : Int → aF → aA → Prop} {x1 : Int} (h : ((2 ≤ x1 →
   (eX11_seatsTold d  φ (upa α 225 1 0) (fun r2 φ2 α2 =>
     (jX11_registry_81 (d + 1)  (upf φ2 11 45 198 1) α2 Q)))) ∧
   (¬ (2 ≤ x1) →
   (0 ≤ x1 ∧ x1 < (4 : Nat)) ∧ inR (x1 + 1) ∧ (jX11_registry_40 (d + 1) (x1 + 1) φ (upa (upa α 226 x1 0) 230 x1 (-1)) Q)))) : jX11_registry_40 (d + 1) x1 φ α Q := by
  intro Ln
  refine r_iload_n (pc' := 41) (kX11_registry_0 24 rfl) rfl rfl ?_
  refine r_iconst 2 (pc' := 42) (kX11_registry_0 25 rfl) rfl (by unfold inR; omega) ?_
  refine r_icmp_ge (t := 65) (pc' := 45) (kX11_registry_0 26 rfl) rfl rfl (fun c1 => ?_) (fun c1 => ?_)
  · have h := h.1 c1
    refine r_aload_n (pc' := 66) (kX11_registry_0 39 rfl) rfl rfl ?_
    refine s_getr (v := 225) (pc' := 69) (kX11_registry_0 40 rfl) rfl fkX11_93 rfl rfl (kz198 Ln) rfl (by decide) ?_
    refine r_iconst 1 (pc' := 70) (kX11_registry_0 41 rfl) rfl (by unfold inR; omega) ?_
    refine r_iconst 0 (pc' := 71) (kX11_registry_0 42 rfl) rfl (by unfold inR; omega) ?_
    refine s_iast (pc' := 72) (kX11_registry_0 43 rfl) rfl (kz225 Ln) ⟨by decide, by decide⟩ ?_
    refine r_aload_n (pc' := 73) (kX11_registry_0 44 rfl) rfl rfl ?_
    refine s_callV (As := []) (o := 198) (S := []) (S2 := fun z => []) (pc' := 76) (kX11_registry_0 45 rfl) rfl rfl nkX11_seatsTold mlX11_351 imX11_seatsTold rfl slX11_seatsTold rfl (Nat.le_of_ble_eq_true rfl) (Nat.le_of_ble_eq_true rfl) (kz198 Ln) h (fun z => rfl) (fun r2 φ2 α2 h => ?_)
    refine r_aload_n (pc' := 77) (kX11_registry_0 46 rfl) rfl rfl ?_
    refine r_iconst 1 (pc' := 78) (kX11_registry_0 47 rfl) rfl (by unfold inR; omega) ?_
    refine s_put (pc' := 81) (kX11_registry_0 48 rfl) rfl fkX11_336 fnX11_45 rfl pk_int (kz198 Ln) ?_
    exact r_weak (L' := [(2, 198), (9, 0)]) ⟨Or.inl rfl, Or.inr (by decide), trivial⟩ (h Ln)
  · have h := h.2 c1
    refine r_aload_n (pc' := 46) (kX11_registry_0 27 rfl) rfl rfl ?_
    refine s_getr (v := 226) (pc' := 49) (kX11_registry_0 28 rfl) rfl fkX11_96 rfl rfl (kz198 Ln) rfl (by decide) ?_
    refine r_iload_n (pc' := 50) (kX11_registry_0 29 rfl) rfl rfl ?_
    refine r_iconst 0 (pc' := 51) (kX11_registry_0 30 rfl) rfl (by unfold inR; omega) ?_
    have g3 := h.1
    have h := h.2
    refine s_iast (pc' := 52) (kX11_registry_0 31 rfl) rfl (kz226 Ln) g3 ?_
    refine r_aload_n (pc' := 53) (kX11_registry_0 32 rfl) rfl rfl ?_
    refine s_getr (v := 230) (pc' := 56) (kX11_registry_0 33 rfl) rfl fkX11_109 rfl rfl (kz198 Ln) rfl (by decide) ?_
    refine r_iload_n (pc' := 57) (kX11_registry_0 34 rfl) rfl rfl ?_
    refine r_iconst (-1) (pc' := 58) (kX11_registry_0 35 rfl) rfl (by unfold inR; omega) ?_
    refine s_iast (pc' := 59) (kX11_registry_0 36 rfl) rfl (kz230 Ln) g3 ?_
    have g4 := h.1
    have h := h.2
    refine r_iinc (L' := [(2, 198), (0, (x1 + 1))]) (pc' := 62) (kX11_registry_0 37 rfl) rfl (Nat.le_of_ble_eq_true rfl) rfl g4 rfl ?_
    refine r_goto (pc' := 40) (kX11_registry_0 38 rfl) rfl ?_
    exact r_weak (L' := [(2, 198), (0, (x1 + 1))]) ⟨Or.inl rfl, Or.inl rfl, trivial⟩ (h Ln)
theorem vX11_registry_81 {d : Nat} {φ : aF} {α : aA} {Q : Int → aF → aA → Prop} (h : ((¬ (φ 11 5 198) = 0 →
   (((φ 11 5 198) = 0 →
     (eX11_stands d  (upf (upf φ 11 7 198 (φ 11 5 198)) 11 8 198 (φ 11 6 198)) α (fun r3 φ3 α3 =>
       (Q (φ3 11 45 198) φ3 α3)))) ∧
     (¬ ((φ 11 5 198) = 0) →
     inR ((α 200 1) + 1) ∧ (Q (-1) (upf (upf φ 11 7 198 (φ 11 5 198)) 11 8 198 (φ 11 6 198)) (upa α 200 1 ((α 200 1) + 1)))))) ∧
   ((φ 11 5 198) = 0 →
   (eX11_look d  φ α (fun r5 φ5 α5 =>
     ((r5 = (-1) →
     (((φ5 11 5 198) = 0 →
       (eX11_stands d  (upf (upf φ5 11 7 198 (φ5 11 5 198)) 11 8 198 (φ5 11 6 198)) α5 (fun r8 φ8 α8 =>
         (Q (φ8 11 45 198) φ8 α8)))) ∧
       (¬ ((φ5 11 5 198) = 0) →
       inR ((α5 200 1) + 1) ∧ (Q (-1) (upf (upf φ5 11 7 198 (φ5 11 5 198)) 11 8 198 (φ5 11 6 198)) (upa α5 200 1 ((α5 200 1) + 1)))))) ∧
     (¬ (r5 = (-1)) →
     (eX11_statementTold d  φ5 α5 (fun r10 φ10 α10 =>
       (jX11_registry_81 (d + 1)  φ10 α10 Q)))))))))) : jX11_registry_81 (d + 1)  φ α Q := by
  intro Ln
  refine r_aload_n (pc' := 82) (kX11_registry_0 49 rfl) rfl rfl ?_
  refine s_get (x := (φ 11 5 198)) (pc' := 85) (kX11_registry_0 50 rfl) rfl fkX11_227 rfl rfl rfl (kz198 Ln) rfl ?_
  refine r_if_ne (t := 103) (pc' := 88) (kX11_registry_0 51 rfl) rfl rfl (fun c1 => ?_) (fun c1 => ?_)
  · have h := h.1 c1
    refine r_aload_n (pc' := 104) (kX11_registry_0 59 rfl) rfl rfl ?_
    refine r_aload_n (pc' := 105) (kX11_registry_1 0 rfl) rfl rfl ?_
    refine s_get (x := (φ 11 5 198)) (pc' := 108) (kX11_registry_1 1 rfl) rfl fkX11_227 rfl rfl rfl (kz198 Ln) rfl ?_
    refine s_put (pc' := 111) (kX11_registry_1 2 rfl) rfl fkX11_357 fnX11_7 rfl pk_int (kz198 Ln) ?_
    refine r_aload_n (pc' := 112) (kX11_registry_1 3 rfl) rfl rfl ?_
    refine r_aload_n (pc' := 113) (kX11_registry_1 4 rfl) rfl rfl ?_
    refine s_get (x := (φ 11 6 198)) (pc' := 116) (kX11_registry_1 5 rfl) rfl fkX11_230 rfl rfl rfl (kz198 Ln) rfl ?_
    refine s_put (pc' := 119) (kX11_registry_1 6 rfl) rfl fkX11_13 fnX11_8 rfl pk_int (kz198 Ln) ?_
    refine r_aload_n (pc' := 120) (kX11_registry_1 7 rfl) rfl rfl ?_
    refine s_get (x := (φ 11 5 198)) (pc' := 123) (kX11_registry_1 8 rfl) rfl fkX11_227 rfl rfl rfl (kz198 Ln) rfl ?_
    refine r_if_eq (t := 138) (pc' := 126) (kX11_registry_1 9 rfl) rfl rfl (fun c2 => ?_) (fun c2 => ?_)
    · have h := h.1 c2
      refine r_aload_n (pc' := 139) (kX11_registry_1 20 rfl) rfl rfl ?_
      refine s_callV (As := []) (o := 198) (S := []) (S2 := fun z => []) (pc' := 142) (kX11_registry_1 21 rfl) rfl rfl nkX11_stands mlX11_360 imX11_stands rfl slX11_stands rfl (Nat.le_of_ble_eq_true rfl) (Nat.le_of_ble_eq_true rfl) (kz198 Ln) h (fun z => rfl) (fun r3 φ3 α3 h => ?_)
      refine r_aload_n (pc' := 143) (kX11_registry_1 22 rfl) rfl rfl ?_
      refine s_get (x := (φ3 11 45 198)) (pc' := 146) (kX11_registry_1 23 rfl) rfl fkX11_336 rfl rfl rfl (kz198 Ln) rfl ?_
      exact s_iret (kX11_registry_1 24 rfl) rfl h
    · have h := h.2 c2
      refine r_aload_n (pc' := 127) (kX11_registry_1 10 rfl) rfl rfl ?_
      refine s_getr (v := 200) (pc' := 130) (kX11_registry_1 11 rfl) rfl fkX11_17 rfl rfl (kz198 Ln) rfl (by decide) ?_
      refine r_iconst 1 (pc' := 131) (kX11_registry_1 12 rfl) rfl (by unfold inR; omega) ?_
      refine r_dup2 (pc' := 132) (kX11_registry_1 13 rfl) rfl rfl rfl ?_
      refine s_iald (x := (α 200 1)) (pc' := 133) (kX11_registry_1 14 rfl) rfl (kz200 Ln) ⟨by decide, by decide⟩ rfl ?_
      refine r_iconst 1 (pc' := 134) (kX11_registry_1 15 rfl) rfl (by unfold inR; omega) ?_
      have g4 := h.1
      have h := h.2
      refine r_iadd (pc' := 135) (kX11_registry_1 16 rfl) rfl g4 ?_
      refine s_iast (pc' := 136) (kX11_registry_1 17 rfl) rfl (kz200 Ln) ⟨by decide, by decide⟩ ?_
      refine r_iconst (-1) (pc' := 137) (kX11_registry_1 18 rfl) rfl (by unfold inR; omega) ?_
      exact s_iret (kX11_registry_1 19 rfl) rfl h
  · have h := h.2 c1
    refine r_aload_n (pc' := 89) (kX11_registry_0 52 rfl) rfl rfl ?_
    refine s_callV (As := []) (o := 198) (S := []) (S2 := fun z => [(0, z)]) (pc' := 92) (kX11_registry_0 53 rfl) rfl rfl nkX11_look mlX11_239 imX11_look rfl slX11_look rfl (Nat.le_of_ble_eq_true rfl) (Nat.le_of_ble_eq_true rfl) (kz198 Ln) h (fun z => rfl) (fun r5 φ5 α5 h => ?_)
    refine r_iconst (-1) (pc' := 93) (kX11_registry_0 54 rfl) rfl (by unfold inR; omega) ?_
    refine r_icmp_eq (t := 103) (pc' := 96) (kX11_registry_0 55 rfl) rfl rfl (fun c6 => ?_) (fun c6 => ?_)
    · have h := h.1 c6
      refine r_aload_n (pc' := 104) (kX11_registry_0 59 rfl) rfl rfl ?_
      refine r_aload_n (pc' := 105) (kX11_registry_1 0 rfl) rfl rfl ?_
      refine s_get (x := (φ5 11 5 198)) (pc' := 108) (kX11_registry_1 1 rfl) rfl fkX11_227 rfl rfl rfl (kz198 Ln) rfl ?_
      refine s_put (pc' := 111) (kX11_registry_1 2 rfl) rfl fkX11_357 fnX11_7 rfl pk_int (kz198 Ln) ?_
      refine r_aload_n (pc' := 112) (kX11_registry_1 3 rfl) rfl rfl ?_
      refine r_aload_n (pc' := 113) (kX11_registry_1 4 rfl) rfl rfl ?_
      refine s_get (x := (φ5 11 6 198)) (pc' := 116) (kX11_registry_1 5 rfl) rfl fkX11_230 rfl rfl rfl (kz198 Ln) rfl ?_
      refine s_put (pc' := 119) (kX11_registry_1 6 rfl) rfl fkX11_13 fnX11_8 rfl pk_int (kz198 Ln) ?_
      refine r_aload_n (pc' := 120) (kX11_registry_1 7 rfl) rfl rfl ?_
      refine s_get (x := (φ5 11 5 198)) (pc' := 123) (kX11_registry_1 8 rfl) rfl fkX11_227 rfl rfl rfl (kz198 Ln) rfl ?_
      refine r_if_eq (t := 138) (pc' := 126) (kX11_registry_1 9 rfl) rfl rfl (fun c7 => ?_) (fun c7 => ?_)
      · have h := h.1 c7
        refine r_aload_n (pc' := 139) (kX11_registry_1 20 rfl) rfl rfl ?_
        refine s_callV (As := []) (o := 198) (S := []) (S2 := fun z => []) (pc' := 142) (kX11_registry_1 21 rfl) rfl rfl nkX11_stands mlX11_360 imX11_stands rfl slX11_stands rfl (Nat.le_of_ble_eq_true rfl) (Nat.le_of_ble_eq_true rfl) (kz198 Ln) h (fun z => rfl) (fun r8 φ8 α8 h => ?_)
        refine r_aload_n (pc' := 143) (kX11_registry_1 22 rfl) rfl rfl ?_
        refine s_get (x := (φ8 11 45 198)) (pc' := 146) (kX11_registry_1 23 rfl) rfl fkX11_336 rfl rfl rfl (kz198 Ln) rfl ?_
        exact s_iret (kX11_registry_1 24 rfl) rfl h
      · have h := h.2 c7
        refine r_aload_n (pc' := 127) (kX11_registry_1 10 rfl) rfl rfl ?_
        refine s_getr (v := 200) (pc' := 130) (kX11_registry_1 11 rfl) rfl fkX11_17 rfl rfl (kz198 Ln) rfl (by decide) ?_
        refine r_iconst 1 (pc' := 131) (kX11_registry_1 12 rfl) rfl (by unfold inR; omega) ?_
        refine r_dup2 (pc' := 132) (kX11_registry_1 13 rfl) rfl rfl rfl ?_
        refine s_iald (x := (α5 200 1)) (pc' := 133) (kX11_registry_1 14 rfl) rfl (kz200 Ln) ⟨by decide, by decide⟩ rfl ?_
        refine r_iconst 1 (pc' := 134) (kX11_registry_1 15 rfl) rfl (by unfold inR; omega) ?_
        have g9 := h.1
        have h := h.2
        refine r_iadd (pc' := 135) (kX11_registry_1 16 rfl) rfl g9 ?_
        refine s_iast (pc' := 136) (kX11_registry_1 17 rfl) rfl (kz200 Ln) ⟨by decide, by decide⟩ ?_
        refine r_iconst (-1) (pc' := 137) (kX11_registry_1 18 rfl) rfl (by unfold inR; omega) ?_
        exact s_iret (kX11_registry_1 19 rfl) rfl h
    · have h := h.2 c6
      refine r_aload_n (pc' := 97) (kX11_registry_0 56 rfl) rfl rfl ?_
      refine s_callV (As := []) (o := 198) (S := []) (S2 := fun z => []) (pc' := 100) (kX11_registry_0 57 rfl) rfl rfl nkX11_statementTold mlX11_354 imX11_statementTold rfl slX11_statementTold rfl (Nat.le_of_ble_eq_true rfl) (Nat.le_of_ble_eq_true rfl) (kz198 Ln) h (fun z => rfl) (fun r10 φ10 α10 h => ?_)
      refine r_goto (pc' := 81) (kX11_registry_0 58 rfl) rfl ?_
      exact r_weak (L' := [(2, 198), (9, 0)]) ⟨Or.inl rfl, Or.inr (by decide), trivial⟩ (h Ln)
abbrev jX11_stands_7 (d : Nat) (x1 : Int) (φ : aF) (α : aA) (Q : Int → aF → aA → Prop) : Prop := R0 d mX11_stands 7 [(2, 198), (0, x1), (9, 0)] [] φ α Q
theorem vX11_stands_0 {d : Nat} {φ : aF} {α : aA} {Q : Int → aF → aA → Prop} (h : (jX11_stands_7 d 0 (upf φ 11 46 198 1) α Q)) : eX11_stands d  φ α Q := by
  intro Ln
  refine r_aload_n (pc' := 1) (kX11_stands_0 0 rfl) rfl rfl ?_
  refine r_iconst 1 (pc' := 2) (kX11_stands_0 1 rfl) rfl (by unfold inR; omega) ?_
  refine s_put (pc' := 5) (kX11_stands_0 2 rfl) rfl fkX11_363 fnX11_46 rfl (pk_bool (Or.inr rfl)) (kz198 Ln) ?_
  refine r_iconst 0 (pc' := 6) (kX11_stands_0 3 rfl) rfl (by unfold inR; omega) ?_
  refine r_istore_n (L' := [(2, 198), (0, 0), (9, 0)]) (pc' := 7) (kX11_stands_0 4 rfl) rfl (Nat.le_of_ble_eq_true rfl) rfl ?_
  exact r_weak (L' := [(2, 198), (0, 0), (9, 0)]) ⟨Or.inl rfl, Or.inl rfl, Or.inr (by decide), trivial⟩ (h Ln)
abbrev jX11_stands_76 (d : Nat) (x1 : Int) (φ : aF) (α : aA) (Q : Int → aF → aA → Prop) : Prop := R0 d mX11_stands 76 [(2, 198), (0, x1), (9, 0)] [] φ α Q
theorem vX11_stands_7 {d : Nat} {φ : aF} {α : aA} {Q : Int → aF → aA → Prop} {x1 : Int} (h : ((2 ≤ x1 →
   (jX11_stands_76 d 0 φ α Q)) ∧
   (¬ (2 ≤ x1) →
   inR (2 + x1) ∧ (0 ≤ x1 ∧ x1 < (4 : Nat)) ∧ (0 ≤ (2 + x1) ∧ (2 + x1) < (4 : Nat)) ∧ inR (x1 + 1) ∧ (jX11_stands_7 d (x1 + 1) φ (upa (upa (upa (upa α 225 (2 + x1) (α 225 x1)) 226 (2 + x1) (α 226 x1)) 230 (2 + x1) (α 230 x1)) 231 (2 + x1) (α 231 x1)) Q)))) : jX11_stands_7 d x1 φ α Q := by
  intro Ln
  refine r_iload_n (pc' := 8) (kX11_stands_0 5 rfl) rfl rfl ?_
  refine r_iconst 2 (pc' := 9) (kX11_stands_0 6 rfl) rfl (by unfold inR; omega) ?_
  refine r_icmp_ge (t := 74) (pc' := 12) (kX11_stands_0 7 rfl) rfl rfl (fun c1 => ?_) (fun c1 => ?_)
  · have h := h.1 c1
    refine r_iconst 0 (pc' := 75) (kX11_stands_0 50 rfl) rfl (by unfold inR; omega) ?_
    refine r_istore_n (L' := [(2, 198), (0, 0), (9, 0)]) (pc' := 76) (kX11_stands_0 51 rfl) rfl (Nat.le_of_ble_eq_true rfl) rfl ?_
    exact r_weak (L' := [(2, 198), (0, 0), (9, 0)]) ⟨Or.inl rfl, Or.inl rfl, Or.inr (by decide), trivial⟩ (h Ln)
  · have h := h.2 c1
    refine r_aload_n (pc' := 13) (kX11_stands_0 8 rfl) rfl rfl ?_
    refine s_getr (v := 225) (pc' := 16) (kX11_stands_0 9 rfl) rfl fkX11_93 rfl rfl (kz198 Ln) rfl (by decide) ?_
    refine r_iconst 2 (pc' := 17) (kX11_stands_0 10 rfl) rfl (by unfold inR; omega) ?_
    refine r_iload_n (pc' := 18) (kX11_stands_0 11 rfl) rfl rfl ?_
    have g2 := h.1
    have h := h.2
    refine r_iadd (pc' := 19) (kX11_stands_0 12 rfl) rfl g2 ?_
    refine r_aload_n (pc' := 20) (kX11_stands_0 13 rfl) rfl rfl ?_
    refine s_getr (v := 225) (pc' := 23) (kX11_stands_0 14 rfl) rfl fkX11_93 rfl rfl (kz198 Ln) rfl (by decide) ?_
    refine r_iload_n (pc' := 24) (kX11_stands_0 15 rfl) rfl rfl ?_
    have g3 := h.1
    have h := h.2
    refine s_iald (x := (α 225 x1)) (pc' := 25) (kX11_stands_0 16 rfl) rfl (kz225 Ln) g3 rfl ?_
    have g4 := h.1
    have h := h.2
    refine s_iast (pc' := 26) (kX11_stands_0 17 rfl) rfl (kz225 Ln) g4 ?_
    refine r_aload_n (pc' := 27) (kX11_stands_0 18 rfl) rfl rfl ?_
    refine s_getr (v := 226) (pc' := 30) (kX11_stands_0 19 rfl) rfl fkX11_96 rfl rfl (kz198 Ln) rfl (by decide) ?_
    refine r_iconst 2 (pc' := 31) (kX11_stands_0 20 rfl) rfl (by unfold inR; omega) ?_
    refine r_iload_n (pc' := 32) (kX11_stands_0 21 rfl) rfl rfl ?_
    refine r_iadd (pc' := 33) (kX11_stands_0 22 rfl) rfl g2 ?_
    refine r_aload_n (pc' := 34) (kX11_stands_0 23 rfl) rfl rfl ?_
    refine s_getr (v := 226) (pc' := 37) (kX11_stands_0 24 rfl) rfl fkX11_96 rfl rfl (kz198 Ln) rfl (by decide) ?_
    refine r_iload_n (pc' := 38) (kX11_stands_0 25 rfl) rfl rfl ?_
    refine s_iald (x := (α 226 x1)) (pc' := 39) (kX11_stands_0 26 rfl) rfl (kz226 Ln) g3 rfl ?_
    refine s_iast (pc' := 40) (kX11_stands_0 27 rfl) rfl (kz226 Ln) g4 ?_
    refine r_aload_n (pc' := 41) (kX11_stands_0 28 rfl) rfl rfl ?_
    refine s_getr (v := 230) (pc' := 44) (kX11_stands_0 29 rfl) rfl fkX11_109 rfl rfl (kz198 Ln) rfl (by decide) ?_
    refine r_iconst 2 (pc' := 45) (kX11_stands_0 30 rfl) rfl (by unfold inR; omega) ?_
    refine r_iload_n (pc' := 46) (kX11_stands_0 31 rfl) rfl rfl ?_
    refine r_iadd (pc' := 47) (kX11_stands_0 32 rfl) rfl g2 ?_
    refine r_aload_n (pc' := 48) (kX11_stands_0 33 rfl) rfl rfl ?_
    refine s_getr (v := 230) (pc' := 51) (kX11_stands_0 34 rfl) rfl fkX11_109 rfl rfl (kz198 Ln) rfl (by decide) ?_
    refine r_iload_n (pc' := 52) (kX11_stands_0 35 rfl) rfl rfl ?_
    refine s_iald (x := (α 230 x1)) (pc' := 53) (kX11_stands_0 36 rfl) rfl (kz230 Ln) g3 rfl ?_
    refine s_iast (pc' := 54) (kX11_stands_0 37 rfl) rfl (kz230 Ln) g4 ?_
    refine r_aload_n (pc' := 55) (kX11_stands_0 38 rfl) rfl rfl ?_
    refine s_getr (v := 231) (pc' := 58) (kX11_stands_0 39 rfl) rfl fkX11_112 rfl rfl (kz198 Ln) rfl (by decide) ?_
    refine r_iconst 2 (pc' := 59) (kX11_stands_0 40 rfl) rfl (by unfold inR; omega) ?_
    refine r_iload_n (pc' := 60) (kX11_stands_0 41 rfl) rfl rfl ?_
    refine r_iadd (pc' := 61) (kX11_stands_0 42 rfl) rfl g2 ?_
    refine r_aload_n (pc' := 62) (kX11_stands_0 43 rfl) rfl rfl ?_
    refine s_getr (v := 231) (pc' := 65) (kX11_stands_0 44 rfl) rfl fkX11_112 rfl rfl (kz198 Ln) rfl (by decide) ?_
    refine r_iload_n (pc' := 66) (kX11_stands_0 45 rfl) rfl rfl ?_
    refine s_iald (x := (α 231 x1)) (pc' := 67) (kX11_stands_0 46 rfl) rfl (kz231 Ln) g3 rfl ?_
    refine s_iast (pc' := 68) (kX11_stands_0 47 rfl) rfl (kz231 Ln) g4 ?_
    have g5 := h.1
    have h := h.2
    refine r_iinc (L' := [(2, 198), (0, (x1 + 1)), (9, 0)]) (pc' := 71) (kX11_stands_0 48 rfl) rfl (Nat.le_of_ble_eq_true rfl) rfl g5 rfl ?_
    refine r_goto (pc' := 7) (kX11_stands_0 49 rfl) rfl ?_
    exact r_weak (L' := [(2, 198), (0, (x1 + 1)), (9, 0)]) ⟨Or.inl rfl, Or.inl rfl, Or.inr (by decide), trivial⟩ (h Ln)
abbrev jX11_stands_105 (d : Nat) (x1 : Int) (φ : aF) (α : aA) (Q : Int → aF → aA → Prop) : Prop := R0 d mX11_stands 105 [(2, 198), (0, x1), (9, 0)] [] φ α Q
theorem vX11_stands_76 {d : Nat} {φ : aF} {α : aA} {Q : Int → aF → aA → Prop} {x1 : Int} (h : ((16 ≤ x1 →
   (jX11_stands_105 d 0 φ α Q)) ∧
   (¬ (16 ≤ x1) →
   inR (16 + x1) ∧ (0 ≤ x1 ∧ x1 < (32 : Nat)) ∧ (0 ≤ (16 + x1) ∧ (16 + x1) < (32 : Nat)) ∧ inR (x1 + 1) ∧ (jX11_stands_76 d (x1 + 1) φ (upa α 227 (16 + x1) (α 227 x1)) Q)))) : jX11_stands_76 d x1 φ α Q := by
  intro Ln
  refine r_iload_n (pc' := 77) (kX11_stands_0 52 rfl) rfl rfl ?_
  refine r_bipush 16 (pc' := 79) (kX11_stands_0 53 rfl) rfl ⟨by unfold inR; omega, rfl⟩ ?_
  refine r_icmp_ge (t := 103) (pc' := 82) (kX11_stands_0 54 rfl) rfl rfl (fun c1 => ?_) (fun c1 => ?_)
  · have h := h.1 c1
    refine r_iconst 0 (pc' := 104) (kX11_stands_1 7 rfl) rfl (by unfold inR; omega) ?_
    refine r_istore_n (L' := [(2, 198), (0, 0), (9, 0)]) (pc' := 105) (kX11_stands_1 8 rfl) rfl (Nat.le_of_ble_eq_true rfl) rfl ?_
    exact r_weak (L' := [(2, 198), (0, 0), (9, 0)]) ⟨Or.inl rfl, Or.inl rfl, Or.inr (by decide), trivial⟩ (h Ln)
  · have h := h.2 c1
    refine r_aload_n (pc' := 83) (kX11_stands_0 55 rfl) rfl rfl ?_
    refine s_getr (v := 227) (pc' := 86) (kX11_stands_0 56 rfl) rfl fkX11_99 rfl rfl (kz198 Ln) rfl (by decide) ?_
    refine r_bipush 16 (pc' := 88) (kX11_stands_0 57 rfl) rfl ⟨by unfold inR; omega, rfl⟩ ?_
    refine r_iload_n (pc' := 89) (kX11_stands_0 58 rfl) rfl rfl ?_
    have g2 := h.1
    have h := h.2
    refine r_iadd (pc' := 90) (kX11_stands_0 59 rfl) rfl g2 ?_
    refine r_aload_n (pc' := 91) (kX11_stands_1 0 rfl) rfl rfl ?_
    refine s_getr (v := 227) (pc' := 94) (kX11_stands_1 1 rfl) rfl fkX11_99 rfl rfl (kz198 Ln) rfl (by decide) ?_
    refine r_iload_n (pc' := 95) (kX11_stands_1 2 rfl) rfl rfl ?_
    have g3 := h.1
    have h := h.2
    refine s_lald (x := (α 227 x1)) (pc' := 96) (kX11_stands_1 3 rfl) rfl (kz227 Ln) g3 rfl ?_
    have g4 := h.1
    have h := h.2
    refine s_last (pc' := 97) (kX11_stands_1 4 rfl) rfl (kz227 Ln) g4 ?_
    have g5 := h.1
    have h := h.2
    refine r_iinc (L' := [(2, 198), (0, (x1 + 1)), (9, 0)]) (pc' := 100) (kX11_stands_1 5 rfl) rfl (Nat.le_of_ble_eq_true rfl) rfl g5 rfl ?_
    refine r_goto (pc' := 76) (kX11_stands_1 6 rfl) rfl ?_
    exact r_weak (L' := [(2, 198), (0, (x1 + 1)), (9, 0)]) ⟨Or.inl rfl, Or.inl rfl, Or.inr (by decide), trivial⟩ (h Ln)
abbrev jX11_stands_134 (d : Nat) (x1 : Int) (φ : aF) (α : aA) (Q : Int → aF → aA → Prop) : Prop := R0 d mX11_stands 134 [(2, 198), (0, x1), (9, 0)] [] φ α Q
theorem vX11_stands_105 {d : Nat} {φ : aF} {α : aA} {Q : Int → aF → aA → Prop} {x1 : Int} (h : ((14 ≤ x1 →
   (jX11_stands_134 d 0 φ α Q)) ∧
   (¬ (14 ≤ x1) →
   inR (14 + x1) ∧ (0 ≤ x1 ∧ x1 < (28 : Nat)) ∧ (0 ≤ (14 + x1) ∧ (14 + x1) < (28 : Nat)) ∧ inR (x1 + 1) ∧ (jX11_stands_105 d (x1 + 1) φ (upa α 228 (14 + x1) (α 228 x1)) Q)))) : jX11_stands_105 d x1 φ α Q := by
  intro Ln
  refine r_iload_n (pc' := 106) (kX11_stands_1 9 rfl) rfl rfl ?_
  refine r_bipush 14 (pc' := 108) (kX11_stands_1 10 rfl) rfl ⟨by unfold inR; omega, rfl⟩ ?_
  refine r_icmp_ge (t := 132) (pc' := 111) (kX11_stands_1 11 rfl) rfl rfl (fun c1 => ?_) (fun c1 => ?_)
  · have h := h.1 c1
    refine r_iconst 0 (pc' := 133) (kX11_stands_1 24 rfl) rfl (by unfold inR; omega) ?_
    refine r_istore_n (L' := [(2, 198), (0, 0), (9, 0)]) (pc' := 134) (kX11_stands_1 25 rfl) rfl (Nat.le_of_ble_eq_true rfl) rfl ?_
    exact r_weak (L' := [(2, 198), (0, 0), (9, 0)]) ⟨Or.inl rfl, Or.inl rfl, Or.inr (by decide), trivial⟩ (h Ln)
  · have h := h.2 c1
    refine r_aload_n (pc' := 112) (kX11_stands_1 12 rfl) rfl rfl ?_
    refine s_getr (v := 228) (pc' := 115) (kX11_stands_1 13 rfl) rfl fkX11_103 rfl rfl (kz198 Ln) rfl (by decide) ?_
    refine r_bipush 14 (pc' := 117) (kX11_stands_1 14 rfl) rfl ⟨by unfold inR; omega, rfl⟩ ?_
    refine r_iload_n (pc' := 118) (kX11_stands_1 15 rfl) rfl rfl ?_
    have g2 := h.1
    have h := h.2
    refine r_iadd (pc' := 119) (kX11_stands_1 16 rfl) rfl g2 ?_
    refine r_aload_n (pc' := 120) (kX11_stands_1 17 rfl) rfl rfl ?_
    refine s_getr (v := 228) (pc' := 123) (kX11_stands_1 18 rfl) rfl fkX11_103 rfl rfl (kz198 Ln) rfl (by decide) ?_
    refine r_iload_n (pc' := 124) (kX11_stands_1 19 rfl) rfl rfl ?_
    have g3 := h.1
    have h := h.2
    refine s_iald (x := (α 228 x1)) (pc' := 125) (kX11_stands_1 20 rfl) rfl (kz228 Ln) g3 rfl ?_
    have g4 := h.1
    have h := h.2
    refine s_iast (pc' := 126) (kX11_stands_1 21 rfl) rfl (kz228 Ln) g4 ?_
    have g5 := h.1
    have h := h.2
    refine r_iinc (L' := [(2, 198), (0, (x1 + 1)), (9, 0)]) (pc' := 129) (kX11_stands_1 22 rfl) rfl (Nat.le_of_ble_eq_true rfl) rfl g5 rfl ?_
    refine r_goto (pc' := 105) (kX11_stands_1 23 rfl) rfl ?_
    exact r_weak (L' := [(2, 198), (0, (x1 + 1)), (9, 0)]) ⟨Or.inl rfl, Or.inl rfl, Or.inr (by decide), trivial⟩ (h Ln)
abbrev jX11_stands_166 (d : Nat) (x1 : Int) (φ : aF) (α : aA) (Q : Int → aF → aA → Prop) : Prop := R0 d mX11_stands 166 [(2, 198), (0, x1), (9, 0)] [] φ α Q
theorem vX11_stands_134 {d : Nat} {φ : aF} {α : aA} {Q : Int → aF → aA → Prop} {x1 : Int} (h : (((φ 11 44 198) ≤ x1 →
   (jX11_stands_166 d 0 φ α Q)) ∧
   (¬ ((φ 11 44 198) ≤ x1) →
   inR (1600 + x1) ∧ (0 ≤ x1 ∧ x1 < (3200 : Nat)) ∧ (0 ≤ (1600 + x1) ∧ (1600 + x1) < (3200 : Nat)) ∧ inR (x1 + 1) ∧ (jX11_stands_134 d (x1 + 1) φ (upa α 232 (1600 + x1) (α 232 x1)) Q)))) : jX11_stands_134 d x1 φ α Q := by
  intro Ln
  refine r_iload_n (pc' := 135) (kX11_stands_1 26 rfl) rfl rfl ?_
  refine r_aload_n (pc' := 136) (kX11_stands_1 27 rfl) rfl rfl ?_
  refine s_get (x := (φ 11 44 198)) (pc' := 139) (kX11_stands_1 28 rfl) rfl fkX11_333 rfl rfl rfl (kz198 Ln) rfl ?_
  refine r_icmp_ge (t := 164) (pc' := 142) (kX11_stands_1 29 rfl) rfl rfl (fun c1 => ?_) (fun c1 => ?_)
  · have h := h.1 c1
    refine r_iconst 0 (pc' := 165) (kX11_stands_1 42 rfl) rfl (by unfold inR; omega) ?_
    refine r_istore_n (L' := [(2, 198), (0, 0), (9, 0)]) (pc' := 166) (kX11_stands_1 43 rfl) rfl (Nat.le_of_ble_eq_true rfl) rfl ?_
    exact r_weak (L' := [(2, 198), (0, 0), (9, 0)]) ⟨Or.inl rfl, Or.inl rfl, Or.inr (by decide), trivial⟩ (h Ln)
  · have h := h.2 c1
    refine r_aload_n (pc' := 143) (kX11_stands_1 30 rfl) rfl rfl ?_
    refine s_getr (v := 232) (pc' := 146) (kX11_stands_1 31 rfl) rfl fkX11_115 rfl rfl (kz198 Ln) rfl (by decide) ?_
    refine r_sipush 1600 (pc' := 149) (kX11_stands_1 32 rfl) rfl ⟨by unfold inR; omega, rfl⟩ ?_
    refine r_iload_n (pc' := 150) (kX11_stands_1 33 rfl) rfl rfl ?_
    have g2 := h.1
    have h := h.2
    refine r_iadd (pc' := 151) (kX11_stands_1 34 rfl) rfl g2 ?_
    refine r_aload_n (pc' := 152) (kX11_stands_1 35 rfl) rfl rfl ?_
    refine s_getr (v := 232) (pc' := 155) (kX11_stands_1 36 rfl) rfl fkX11_115 rfl rfl (kz198 Ln) rfl (by decide) ?_
    refine r_iload_n (pc' := 156) (kX11_stands_1 37 rfl) rfl rfl ?_
    have g3 := h.1
    have h := h.2
    refine s_iald (x := (α 232 x1)) (pc' := 157) (kX11_stands_1 38 rfl) rfl (kz232 Ln) g3 rfl ?_
    have g4 := h.1
    have h := h.2
    refine s_iast (pc' := 158) (kX11_stands_1 39 rfl) rfl (kz232 Ln) g4 ?_
    have g5 := h.1
    have h := h.2
    refine r_iinc (L' := [(2, 198), (0, (x1 + 1)), (9, 0)]) (pc' := 161) (kX11_stands_1 40 rfl) rfl (Nat.le_of_ble_eq_true rfl) rfl g5 rfl ?_
    refine r_goto (pc' := 134) (kX11_stands_1 41 rfl) rfl ?_
    exact r_weak (L' := [(2, 198), (0, (x1 + 1)), (9, 0)]) ⟨Or.inl rfl, Or.inl rfl, Or.inr (by decide), trivial⟩ (h Ln)
abbrev jX11_stands_188 (d : Nat) (x1 : Int) (φ : aF) (α : aA) (Q : Int → aF → aA → Prop) : Prop := R0 d mX11_stands 188 [(2, 198), (0, x1), (9, 0)] [] φ α Q
theorem vX11_stands_166 {d : Nat} {φ : aF} {α : aA} {Q : Int → aF → aA → Prop} {x1 : Int} (h : ((169 ≤ x1 →
   (jX11_stands_188 d 0 φ α Q)) ∧
   (¬ (169 ≤ x1) →
   (0 ≤ x1 ∧ x1 < (169 : Nat)) ∧ inR (x1 + 1) ∧ (jX11_stands_166 d (x1 + 1) φ (upa α 233 x1 0) Q)))) : jX11_stands_166 d x1 φ α Q := by
  intro Ln
  refine r_iload_n (pc' := 167) (kX11_stands_1 44 rfl) rfl rfl ?_
  refine r_sipush 169 (pc' := 170) (kX11_stands_1 45 rfl) rfl ⟨by unfold inR; omega, rfl⟩ ?_
  refine r_icmp_ge (t := 186) (pc' := 173) (kX11_stands_1 46 rfl) rfl rfl (fun c1 => ?_) (fun c1 => ?_)
  · have h := h.1 c1
    refine r_iconst 0 (pc' := 187) (kX11_stands_1 54 rfl) rfl (by unfold inR; omega) ?_
    refine r_istore_n (L' := [(2, 198), (0, 0), (9, 0)]) (pc' := 188) (kX11_stands_1 55 rfl) rfl (Nat.le_of_ble_eq_true rfl) rfl ?_
    exact r_weak (L' := [(2, 198), (0, 0), (9, 0)]) ⟨Or.inl rfl, Or.inl rfl, Or.inr (by decide), trivial⟩ (h Ln)
  · have h := h.2 c1
    refine r_aload_n (pc' := 174) (kX11_stands_1 47 rfl) rfl rfl ?_
    refine s_getr (v := 233) (pc' := 177) (kX11_stands_1 48 rfl) rfl fkX11_118 rfl rfl (kz198 Ln) rfl (by decide) ?_
    refine r_iload_n (pc' := 178) (kX11_stands_1 49 rfl) rfl rfl ?_
    refine r_iconst 0 (pc' := 179) (kX11_stands_1 50 rfl) rfl (by unfold inR; omega) ?_
    have g2 := h.1
    have h := h.2
    refine s_iast (pc' := 180) (kX11_stands_1 51 rfl) rfl (kz233 Ln) g2 ?_
    have g3 := h.1
    have h := h.2
    refine r_iinc (L' := [(2, 198), (0, (x1 + 1)), (9, 0)]) (pc' := 183) (kX11_stands_1 52 rfl) rfl (Nat.le_of_ble_eq_true rfl) rfl g3 rfl ?_
    refine r_goto (pc' := 166) (kX11_stands_1 53 rfl) rfl ?_
    exact r_weak (L' := [(2, 198), (0, (x1 + 1)), (9, 0)]) ⟨Or.inl rfl, Or.inl rfl, Or.inr (by decide), trivial⟩ (h Ln)
abbrev jX11_stands_218 (d : Nat) (x1 x2 : Int) (φ : aF) (α : aA) (Q : Int → aF → aA → Prop) : Prop := R0 d mX11_stands 218 [(2, 198), (0, x1), (0, x2)] [] φ α Q
theorem vX11_stands_188 {d : Nat} {φ : aF} {α : aA} {Q : Int → aF → aA → Prop} {x1 : Int} (h : (((α 226 1) ≤ x1 →
   (Q 0 (upf (upf φ 11 60 198 0) 11 55 198 0) α)) ∧
   (¬ ((α 226 1) ≤ x1) →
   inR (5 * x1) ∧ inR (1 + (5 * x1)) ∧ inR (2 * x1) ∧ (0 ≤ (2 * x1) ∧ (2 * x1) < (28 : Nat)) ∧ (0 ≤ (1 + (5 * x1)) ∧ (1 + (5 * x1)) < (169 : Nat)) ∧ (jX11_stands_218 d x1 0 φ (upa α 233 (1 + (5 * x1)) (α 228 (2 * x1))) Q)))) : jX11_stands_188 d x1 φ α Q := by
  intro Ln
  refine r_iload_n (pc' := 189) (kX11_stands_1 56 rfl) rfl rfl ?_
  refine r_aload_n (pc' := 190) (kX11_stands_1 57 rfl) rfl rfl ?_
  refine s_getr (v := 226) (pc' := 193) (kX11_stands_1 58 rfl) rfl fkX11_96 rfl rfl (kz198 Ln) rfl (by decide) ?_
  refine r_iconst 1 (pc' := 194) (kX11_stands_1 59 rfl) rfl (by unfold inR; omega) ?_
  refine s_iald (x := (α 226 1)) (pc' := 195) (kX11_stands_2 0 rfl) rfl (kz226 Ln) ⟨by decide, by decide⟩ rfl ?_
  refine r_icmp_ge (t := 257) (pc' := 198) (kX11_stands_2 1 rfl) rfl rfl (fun c1 => ?_) (fun c1 => ?_)
  · have h := h.1 c1
    refine r_aload_n (pc' := 258) (kX11_stands_2 43 rfl) rfl rfl ?_
    refine r_iconst 0 (pc' := 259) (kX11_stands_2 44 rfl) rfl (by unfold inR; omega) ?_
    refine s_put (pc' := 262) (kX11_stands_2 45 rfl) rfl fkX11_367 fnX11_60 rfl pk_int (kz198 Ln) ?_
    refine r_aload_n (pc' := 263) (kX11_stands_2 46 rfl) rfl rfl ?_
    refine r_iconst 0 (pc' := 264) (kX11_stands_2 47 rfl) rfl (by unfold inR; omega) ?_
    refine s_put (pc' := 267) (kX11_stands_2 48 rfl) rfl fkX11_370 fnX11_55 rfl pk_int (kz198 Ln) ?_
    exact s_vret (kX11_stands_2 49 rfl) rfl h
  · have h := h.2 c1
    refine r_aload_n (pc' := 199) (kX11_stands_2 2 rfl) rfl rfl ?_
    refine s_getr (v := 233) (pc' := 202) (kX11_stands_2 3 rfl) rfl fkX11_118 rfl rfl (kz198 Ln) rfl (by decide) ?_
    refine r_iconst 1 (pc' := 203) (kX11_stands_2 4 rfl) rfl (by unfold inR; omega) ?_
    refine r_iconst 5 (pc' := 204) (kX11_stands_2 5 rfl) rfl (by unfold inR; omega) ?_
    refine r_iload_n (pc' := 205) (kX11_stands_2 6 rfl) rfl rfl ?_
    have g2 := h.1
    have h := h.2
    refine r_imul (pc' := 206) (kX11_stands_2 7 rfl) rfl g2 ?_
    have g3 := h.1
    have h := h.2
    refine r_iadd (pc' := 207) (kX11_stands_2 8 rfl) rfl g3 ?_
    refine r_aload_n (pc' := 208) (kX11_stands_2 9 rfl) rfl rfl ?_
    refine s_getr (v := 228) (pc' := 211) (kX11_stands_2 10 rfl) rfl fkX11_103 rfl rfl (kz198 Ln) rfl (by decide) ?_
    refine r_iconst 2 (pc' := 212) (kX11_stands_2 11 rfl) rfl (by unfold inR; omega) ?_
    refine r_iload_n (pc' := 213) (kX11_stands_2 12 rfl) rfl rfl ?_
    have g4 := h.1
    have h := h.2
    refine r_imul (pc' := 214) (kX11_stands_2 13 rfl) rfl g4 ?_
    have g5 := h.1
    have h := h.2
    refine s_iald (x := (α 228 (2 * x1))) (pc' := 215) (kX11_stands_2 14 rfl) rfl (kz228 Ln) g5 rfl ?_
    have g6 := h.1
    have h := h.2
    refine s_iast (pc' := 216) (kX11_stands_2 15 rfl) rfl (kz233 Ln) g6 ?_
    refine r_iconst 0 (pc' := 217) (kX11_stands_2 16 rfl) rfl (by unfold inR; omega) ?_
    refine r_istore_n (L' := [(2, 198), (0, x1), (0, 0)]) (pc' := 218) (kX11_stands_2 17 rfl) rfl (Nat.le_of_ble_eq_true rfl) rfl ?_
    exact r_weak (L' := [(2, 198), (0, x1), (0, 0)]) ⟨Or.inl rfl, Or.inl rfl, Or.inl rfl, trivial⟩ (h Ln)
theorem vX11_stands_218 {d : Nat} {φ : aF} {α : aA} {Q : Int → aF → aA → Prop} {x1 : Int} {x2 : Int} (h : ((4 ≤ x2 →
   inR (x1 + 1) ∧ (jX11_stands_188 d (x1 + 1) φ α Q)) ∧
   (¬ (4 ≤ x2) →
   inR (5 * x1) ∧ inR (2 + (5 * x1)) ∧ inR ((2 + (5 * x1)) + x2) ∧ inR (4 * x1) ∧ inR ((4 * x1) + x2) ∧ (0 ≤ ((4 * x1) + x2) ∧ ((4 * x1) + x2) < (28 : Nat)) ∧ (0 ≤ ((2 + (5 * x1)) + x2) ∧ ((2 + (5 * x1)) + x2) < (169 : Nat)) ∧ inR (x2 + 1) ∧ (jX11_stands_218 d x1 (x2 + 1) φ (upa α 233 ((2 + (5 * x1)) + x2) (α 229 ((4 * x1) + x2))) Q)))) : jX11_stands_218 d x1 x2 φ α Q := by
  intro Ln
  refine r_iload_n (pc' := 219) (kX11_stands_2 18 rfl) rfl rfl ?_
  refine r_iconst 4 (pc' := 220) (kX11_stands_2 19 rfl) rfl (by unfold inR; omega) ?_
  refine r_icmp_ge (t := 251) (pc' := 223) (kX11_stands_2 20 rfl) rfl rfl (fun c1 => ?_) (fun c1 => ?_)
  · have h := h.1 c1
    have g2 := h.1
    have h := h.2
    refine r_iinc (L' := [(2, 198), (0, (x1 + 1)), (0, x2)]) (pc' := 254) (kX11_stands_2 41 rfl) rfl (Nat.le_of_ble_eq_true rfl) rfl g2 rfl ?_
    refine r_goto (pc' := 188) (kX11_stands_2 42 rfl) rfl ?_
    exact r_weak (L' := [(2, 198), (0, (x1 + 1)), (9, 0)]) ⟨Or.inl rfl, Or.inl rfl, Or.inr (by decide), trivial⟩ (h Ln)
  · have h := h.2 c1
    refine r_aload_n (pc' := 224) (kX11_stands_2 21 rfl) rfl rfl ?_
    refine s_getr (v := 233) (pc' := 227) (kX11_stands_2 22 rfl) rfl fkX11_118 rfl rfl (kz198 Ln) rfl (by decide) ?_
    refine r_iconst 2 (pc' := 228) (kX11_stands_2 23 rfl) rfl (by unfold inR; omega) ?_
    refine r_iconst 5 (pc' := 229) (kX11_stands_2 24 rfl) rfl (by unfold inR; omega) ?_
    refine r_iload_n (pc' := 230) (kX11_stands_2 25 rfl) rfl rfl ?_
    have g3 := h.1
    have h := h.2
    refine r_imul (pc' := 231) (kX11_stands_2 26 rfl) rfl g3 ?_
    have g4 := h.1
    have h := h.2
    refine r_iadd (pc' := 232) (kX11_stands_2 27 rfl) rfl g4 ?_
    refine r_iload_n (pc' := 233) (kX11_stands_2 28 rfl) rfl rfl ?_
    have g5 := h.1
    have h := h.2
    refine r_iadd (pc' := 234) (kX11_stands_2 29 rfl) rfl g5 ?_
    refine r_aload_n (pc' := 235) (kX11_stands_2 30 rfl) rfl rfl ?_
    refine s_getr (v := 229) (pc' := 238) (kX11_stands_2 31 rfl) rfl fkX11_106 rfl rfl (kz198 Ln) rfl (by decide) ?_
    refine r_iconst 4 (pc' := 239) (kX11_stands_2 32 rfl) rfl (by unfold inR; omega) ?_
    refine r_iload_n (pc' := 240) (kX11_stands_2 33 rfl) rfl rfl ?_
    have g6 := h.1
    have h := h.2
    refine r_imul (pc' := 241) (kX11_stands_2 34 rfl) rfl g6 ?_
    refine r_iload_n (pc' := 242) (kX11_stands_2 35 rfl) rfl rfl ?_
    have g7 := h.1
    have h := h.2
    refine r_iadd (pc' := 243) (kX11_stands_2 36 rfl) rfl g7 ?_
    have g8 := h.1
    have h := h.2
    refine s_iald (x := (α 229 ((4 * x1) + x2))) (pc' := 244) (kX11_stands_2 37 rfl) rfl (kz229 Ln) g8 rfl ?_
    have g9 := h.1
    have h := h.2
    refine s_iast (pc' := 245) (kX11_stands_2 38 rfl) rfl (kz233 Ln) g9 ?_
    have g10 := h.1
    have h := h.2
    refine r_iinc (L' := [(2, 198), (0, x1), (0, (x2 + 1))]) (pc' := 248) (kX11_stands_2 39 rfl) rfl (Nat.le_of_ble_eq_true rfl) rfl g10 rfl ?_
    refine r_goto (pc' := 218) (kX11_stands_2 40 rfl) rfl ?_
    exact r_weak (L' := [(2, 198), (0, x1), (0, (x2 + 1))]) ⟨Or.inl rfl, Or.inl rfl, Or.inl rfl, trivial⟩ (h Ln)
theorem vX11_fault_0 {d : Nat} {φ : aF} {α : aA} {Q : Int → aF → aA → Prop} {x1 : Int} (h : ((¬ x1 = 0 →
   ((¬ x1 = 1 →
     (Q (-1) φ α)) ∧
     (x1 = 1 →
     (Q (φ 11 8 198) φ α)))) ∧
   (x1 = 0 →
   (Q (φ 11 7 198) φ α)))) : eX11_fault d x1 φ α Q := by
  intro Ln
  refine r_iload_n (pc' := 1) (kX11_fault_0 0 rfl) rfl rfl ?_
  refine r_if_ne (t := 11) (pc' := 4) (kX11_fault_0 1 rfl) rfl rfl (fun c1 => ?_) (fun c1 => ?_)
  · have h := h.1 c1
    refine r_iload_n (pc' := 12) (kX11_fault_0 5 rfl) rfl rfl ?_
    refine r_iconst 1 (pc' := 13) (kX11_fault_0 6 rfl) rfl (by unfold inR; omega) ?_
    refine r_icmp_ne (t := 23) (pc' := 16) (kX11_fault_0 7 rfl) rfl rfl (fun c2 => ?_) (fun c2 => ?_)
    · have h := h.1 c2
      refine r_iconst (-1) (pc' := 24) (kX11_fault_0 11 rfl) rfl (by unfold inR; omega) ?_
      exact s_iret (kX11_fault_0 12 rfl) rfl h
    · have h := h.2 c2
      refine r_aload_n (pc' := 17) (kX11_fault_0 8 rfl) rfl rfl ?_
      refine s_get (x := (φ 11 8 198)) (pc' := 20) (kX11_fault_0 9 rfl) rfl fkX11_13 rfl rfl rfl (kz198 Ln) rfl ?_
      refine r_goto (pc' := 24) (kX11_fault_0 10 rfl) rfl ?_
      exact s_iret (kX11_fault_0 12 rfl) rfl h
  · have h := h.2 c1
    refine r_aload_n (pc' := 5) (kX11_fault_0 2 rfl) rfl rfl ?_
    refine s_get (x := (φ 11 7 198)) (pc' := 8) (kX11_fault_0 3 rfl) rfl fkX11_357 rfl rfl rfl (kz198 Ln) rfl ?_
    refine r_goto (pc' := 24) (kX11_fault_0 4 rfl) rfl ?_
    exact s_iret (kX11_fault_0 12 rfl) rfl h
theorem vX11_matterMany_0 {d : Nat} {φ : aF} {α : aA} {Q : Int → aF → aA → Prop} (h : (Q (α 226 2) φ α)) : eX11_matterMany d  φ α Q := by
  intro Ln
  refine r_aload_n (pc' := 1) (kX11_matterMany_0 0 rfl) rfl rfl ?_
  refine s_getr (v := 226) (pc' := 4) (kX11_matterMany_0 1 rfl) rfl fkX11_96 rfl rfl (kz198 Ln) rfl (by decide) ?_
  refine r_iconst 2 (pc' := 5) (kX11_matterMany_0 2 rfl) rfl (by unfold inR; omega) ?_
  refine s_iald (x := (α 226 2)) (pc' := 6) (kX11_matterMany_0 3 rfl) rfl (kz226 Ln) ⟨by decide, by decide⟩ rfl ?_
  exact s_iret (kX11_matterMany_0 4 rfl) rfl h
theorem vX11_clerkMany_0 {d : Nat} {φ : aF} {α : aA} {Q : Int → aF → aA → Prop} (h : (Q (α 226 3) φ α)) : eX11_clerkMany d  φ α Q := by
  intro Ln
  refine r_aload_n (pc' := 1) (kX11_clerkMany_0 0 rfl) rfl rfl ?_
  refine s_getr (v := 226) (pc' := 4) (kX11_clerkMany_0 1 rfl) rfl fkX11_96 rfl rfl (kz198 Ln) rfl (by decide) ?_
  refine r_iconst 3 (pc' := 5) (kX11_clerkMany_0 2 rfl) rfl (by unfold inR; omega) ?_
  refine s_iald (x := (α 226 3)) (pc' := 6) (kX11_clerkMany_0 3 rfl) rfl (kz226 Ln) ⟨by decide, by decide⟩ rfl ?_
  exact s_iret (kX11_clerkMany_0 4 rfl) rfl h
theorem vX11_isMatter_0 {d : Nat} {φ : aF} {α : aA} {Q : Int → aF → aA → Prop} {x1 : Int} (h : (eX11_matterMany d  φ α (fun r1 φ1 α1 =>
   inR (r1 - 1) ∧ (eX11_isIn d x1 0 (r1 - 1) φ1 α1 (fun r3 φ3 α3 =>
   (r3 = 0 ∨ r3 = 1) ∧ (Q r3 φ3 α3)))))) : eX11_isMatter (d + 1) x1 φ α Q := by
  intro Ln
  refine r_lload_n (pc' := 1) (kX11_isMatter_0 0 rfl) rfl rfl ?_
  refine r_lconst 0 (pc' := 2) (kX11_isMatter_0 1 rfl) rfl ⟨by unfold inJ; omega, rfl⟩ ?_
  refine r_aload_n (pc' := 3) (kX11_isMatter_0 2 rfl) rfl rfl ?_
  refine s_callV (As := []) (o := 198) (S := [(1, 0), (1, x1)]) (S2 := fun z => [(0, z), (1, 0), (1, x1)]) (pc' := 6) (kX11_isMatter_0 3 rfl) rfl rfl nkX11_matterMany mlX11_373 imX11_matterMany rfl slX11_matterMany rfl (Nat.le_of_ble_eq_true rfl) (Nat.le_of_ble_eq_true rfl) (kz198 Ln) h (fun z => rfl) (fun r1 φ1 α1 h => ?_)
  refine r_iconst 1 (pc' := 7) (kX11_isMatter_0 4 rfl) rfl (by unfold inR; omega) ?_
  have g2 := h.1
  have h := h.2
  refine r_isub (pc' := 8) (kX11_isMatter_0 5 rfl) rfl g2 ?_
  refine r_i2l (pc' := 9) (kX11_isMatter_0 6 rfl) rfl ?_
  refine s_callS (As := [(1, x1), (1, 0), (1, (r1 - 1))]) (S := []) (S2 := fun z => [(0, z)]) (pc' := 12) (kX11_isMatter_0 7 rfl) rfl rfl nkX11_isIn mlX11_270 scX11_isIn rfl (Nat.le_of_ble_eq_true rfl) (Nat.le_of_ble_eq_true rfl) h (fun z => rfl) (fun r3 φ3 α3 h => ?_)
  have g4 := h.1
  have h := h.2
  exact s_zret (kX11_isMatter_0 8 rfl) rfl g4 h
theorem vX11_isClerk_0 {d : Nat} {φ : aF} {α : aA} {Q : Int → aF → aA → Prop} {x1 : Int} (h : (eX11_clerkMany d  φ α (fun r1 φ1 α1 =>
   inR (r1 - 1) ∧ (eX11_isIn d x1 0 (r1 - 1) φ1 α1 (fun r3 φ3 α3 =>
   (r3 = 0 ∨ r3 = 1) ∧ (Q r3 φ3 α3)))))) : eX11_isClerk (d + 1) x1 φ α Q := by
  intro Ln
  refine r_lload_n (pc' := 1) (kX11_isClerk_0 0 rfl) rfl rfl ?_
  refine r_lconst 0 (pc' := 2) (kX11_isClerk_0 1 rfl) rfl ⟨by unfold inJ; omega, rfl⟩ ?_
  refine r_aload_n (pc' := 3) (kX11_isClerk_0 2 rfl) rfl rfl ?_
  refine s_callV (As := []) (o := 198) (S := [(1, 0), (1, x1)]) (S2 := fun z => [(0, z), (1, 0), (1, x1)]) (pc' := 6) (kX11_isClerk_0 3 rfl) rfl rfl nkX11_clerkMany mlX11_376 imX11_clerkMany rfl slX11_clerkMany rfl (Nat.le_of_ble_eq_true rfl) (Nat.le_of_ble_eq_true rfl) (kz198 Ln) h (fun z => rfl) (fun r1 φ1 α1 h => ?_)
  refine r_iconst 1 (pc' := 7) (kX11_isClerk_0 4 rfl) rfl (by unfold inR; omega) ?_
  have g2 := h.1
  have h := h.2
  refine r_isub (pc' := 8) (kX11_isClerk_0 5 rfl) rfl g2 ?_
  refine r_i2l (pc' := 9) (kX11_isClerk_0 6 rfl) rfl ?_
  refine s_callS (As := [(1, x1), (1, 0), (1, (r1 - 1))]) (S := []) (S2 := fun z => [(0, z)]) (pc' := 12) (kX11_isClerk_0 7 rfl) rfl rfl nkX11_isIn mlX11_270 scX11_isIn rfl (Nat.le_of_ble_eq_true rfl) (Nat.le_of_ble_eq_true rfl) h (fun z => rfl) (fun r3 φ3 α3 h => ?_)
  have g4 := h.1
  have h := h.2
  exact s_zret (kX11_isClerk_0 8 rfl) rfl g4 h
theorem vX11_areBoth_0 {d : Nat} {φ : aF} {α : aA} {Q : Int → aF → aA → Prop} {x1 : Int} {x2 : Int} (h : (eX11_isClerk d x1 φ α (fun r1 φ1 α1 =>
   ((r1 = 0 →
   (Q 0 φ1 α1)) ∧
   (¬ (r1 = 0) →
   (eX11_isMatter d x2 φ1 α1 (fun r3 φ3 α3 =>
     ((r3 = 0 →
     (Q 0 φ3 α3)) ∧
     (¬ (r3 = 0) →
     (Q 1 φ3 α3)))))))))) : eX11_areBoth (d + 1) x1 x2 φ α Q := by
  intro Ln
  refine r_aload_n (pc' := 1) (kX11_areBoth_0 0 rfl) rfl rfl ?_
  refine r_iload_n (pc' := 2) (kX11_areBoth_0 1 rfl) rfl rfl ?_
  refine r_i2l (pc' := 3) (kX11_areBoth_0 2 rfl) rfl ?_
  refine s_callV (As := [(1, x1)]) (o := 198) (S := []) (S2 := fun z => [(0, z)]) (pc' := 6) (kX11_areBoth_0 3 rfl) rfl rfl nkX11_isClerk mlX11_379 imX11_isClerk rfl slX11_isClerk rfl (Nat.le_of_ble_eq_true rfl) (Nat.le_of_ble_eq_true rfl) (kz198 Ln) h (fun z => rfl) (fun r1 φ1 α1 h => ?_)
  refine r_if_eq (t := 22) (pc' := 9) (kX11_areBoth_0 4 rfl) rfl rfl (fun c2 => ?_) (fun c2 => ?_)
  · have h := h.1 c2
    refine r_iconst 0 (pc' := 23) (kX11_areBoth_0 12 rfl) rfl (by unfold inR; omega) ?_
    exact s_zret (kX11_areBoth_0 13 rfl) rfl (Or.inl rfl) h
  · have h := h.2 c2
    refine r_aload_n (pc' := 10) (kX11_areBoth_0 5 rfl) rfl rfl ?_
    refine r_iload_n (pc' := 11) (kX11_areBoth_0 6 rfl) rfl rfl ?_
    refine r_i2l (pc' := 12) (kX11_areBoth_0 7 rfl) rfl ?_
    refine s_callV (As := [(1, x2)]) (o := 198) (S := []) (S2 := fun z => [(0, z)]) (pc' := 15) (kX11_areBoth_0 8 rfl) rfl rfl nkX11_isMatter mlX11_383 imX11_isMatter rfl slX11_isMatter rfl (Nat.le_of_ble_eq_true rfl) (Nat.le_of_ble_eq_true rfl) (kz198 Ln) h (fun z => rfl) (fun r3 φ3 α3 h => ?_)
    refine r_if_eq (t := 22) (pc' := 18) (kX11_areBoth_0 9 rfl) rfl rfl (fun c4 => ?_) (fun c4 => ?_)
    · have h := h.1 c4
      refine r_iconst 0 (pc' := 23) (kX11_areBoth_0 12 rfl) rfl (by unfold inR; omega) ?_
      exact s_zret (kX11_areBoth_0 13 rfl) rfl (Or.inl rfl) h
    · have h := h.2 c4
      refine r_iconst 1 (pc' := 19) (kX11_areBoth_0 10 rfl) rfl (by unfold inR; omega) ?_
      refine r_goto (pc' := 23) (kX11_areBoth_0 11 rfl) rfl ?_
      exact s_zret (kX11_areBoth_0 13 rfl) rfl (Or.inr rfl) h
theorem vX11_seatOf_0 {d : Nat} {φ : aF} {α : aA} {Q : Int → aF → aA → Prop} {x1 : Int} (h : inR (5 * x1) ∧ inR (1 + (5 * x1)) ∧ (0 ≤ (1 + (5 * x1)) ∧ (1 + (5 * x1)) < (169 : Nat)) ∧ (Q (α 233 (1 + (5 * x1))) φ α)) : eX11_seatOf d x1 φ α Q := by
  intro Ln
  refine r_aload_n (pc' := 1) (kX11_seatOf_0 0 rfl) rfl rfl ?_
  refine s_getr (v := 233) (pc' := 4) (kX11_seatOf_0 1 rfl) rfl fkX11_118 rfl rfl (kz198 Ln) rfl (by decide) ?_
  refine r_iconst 1 (pc' := 5) (kX11_seatOf_0 2 rfl) rfl (by unfold inR; omega) ?_
  refine r_iconst 5 (pc' := 6) (kX11_seatOf_0 3 rfl) rfl (by unfold inR; omega) ?_
  refine r_iload_n (pc' := 7) (kX11_seatOf_0 4 rfl) rfl rfl ?_
  have g1 := h.1
  have h := h.2
  refine r_imul (pc' := 8) (kX11_seatOf_0 5 rfl) rfl g1 ?_
  have g2 := h.1
  have h := h.2
  refine r_iadd (pc' := 9) (kX11_seatOf_0 6 rfl) rfl g2 ?_
  have g3 := h.1
  have h := h.2
  refine s_iald (x := (α 233 (1 + (5 * x1)))) (pc' := 10) (kX11_seatOf_0 7 rfl) rfl (kz233 Ln) g3 rfl ?_
  exact s_iret (kX11_seatOf_0 8 rfl) rfl h
theorem vX11_dropsOf_0 {d : Nat} {φ : aF} {α : aA} {Q : Int → aF → aA → Prop} {x1 : Int} {x2 : Int} (h : inR (5 * x1) ∧ inR (2 + (5 * x1)) ∧ inR ((2 + (5 * x1)) + x2) ∧ (0 ≤ ((2 + (5 * x1)) + x2) ∧ ((2 + (5 * x1)) + x2) < (169 : Nat)) ∧ (Q (α 233 ((2 + (5 * x1)) + x2)) φ α)) : eX11_dropsOf d x1 x2 φ α Q := by
  intro Ln
  refine r_aload_n (pc' := 1) (kX11_dropsOf_0 0 rfl) rfl rfl ?_
  refine s_getr (v := 233) (pc' := 4) (kX11_dropsOf_0 1 rfl) rfl fkX11_118 rfl rfl (kz198 Ln) rfl (by decide) ?_
  refine r_iconst 2 (pc' := 5) (kX11_dropsOf_0 2 rfl) rfl (by unfold inR; omega) ?_
  refine r_iconst 5 (pc' := 6) (kX11_dropsOf_0 3 rfl) rfl (by unfold inR; omega) ?_
  refine r_iload_n (pc' := 7) (kX11_dropsOf_0 4 rfl) rfl rfl ?_
  have g1 := h.1
  have h := h.2
  refine r_imul (pc' := 8) (kX11_dropsOf_0 5 rfl) rfl g1 ?_
  have g2 := h.1
  have h := h.2
  refine r_iadd (pc' := 9) (kX11_dropsOf_0 6 rfl) rfl g2 ?_
  refine r_iload_n (pc' := 10) (kX11_dropsOf_0 7 rfl) rfl rfl ?_
  have g3 := h.1
  have h := h.2
  refine r_iadd (pc' := 11) (kX11_dropsOf_0 8 rfl) rfl g3 ?_
  have g4 := h.1
  have h := h.2
  refine s_iald (x := (α 233 ((2 + (5 * x1)) + x2))) (pc' := 12) (kX11_dropsOf_0 9 rfl) rfl (kz233 Ln) g4 rfl ?_
  exact s_iret (kX11_dropsOf_0 10 rfl) rfl h
theorem vX11_roomOf_0 {d : Nat} {φ : aF} {α : aA} {Q : Int → aF → aA → Prop} {x1 : Int} (h : inR (2 * x1) ∧ inR (15 + (2 * x1)) ∧ (0 ≤ (15 + (2 * x1)) ∧ (15 + (2 * x1)) < (28 : Nat)) ∧ (Q (α 228 (15 + (2 * x1))) φ α)) : eX11_roomOf d x1 φ α Q := by
  intro Ln
  refine r_aload_n (pc' := 1) (kX11_roomOf_0 0 rfl) rfl rfl ?_
  refine s_getr (v := 228) (pc' := 4) (kX11_roomOf_0 1 rfl) rfl fkX11_103 rfl rfl (kz198 Ln) rfl (by decide) ?_
  refine r_bipush 15 (pc' := 6) (kX11_roomOf_0 2 rfl) rfl ⟨by unfold inR; omega, rfl⟩ ?_
  refine r_iconst 2 (pc' := 7) (kX11_roomOf_0 3 rfl) rfl (by unfold inR; omega) ?_
  refine r_iload_n (pc' := 8) (kX11_roomOf_0 4 rfl) rfl rfl ?_
  have g1 := h.1
  have h := h.2
  refine r_imul (pc' := 9) (kX11_roomOf_0 5 rfl) rfl g1 ?_
  have g2 := h.1
  have h := h.2
  refine r_iadd (pc' := 10) (kX11_roomOf_0 6 rfl) rfl g2 ?_
  have g3 := h.1
  have h := h.2
  refine s_iald (x := (α 228 (15 + (2 * x1)))) (pc' := 11) (kX11_roomOf_0 7 rfl) rfl (kz228 Ln) g3 rfl ?_
  exact s_iret (kX11_roomOf_0 8 rfl) rfl h
abbrev jX11_fullOf_4 (d : Nat) (x1 x2 x3 : Int) (φ : aF) (α : aA) (Q : Int → aF → aA → Prop) : Prop := R0 d mX11_fullOf 4 [(2, 198), (0, x1), (0, x2), (0, x3)] [] φ α Q
theorem vX11_fullOf_0 {d : Nat} {φ : aF} {α : aA} {Q : Int → aF → aA → Prop} {x1 : Int} (h : (jX11_fullOf_4 (d + 1) x1 0 0 φ α Q)) : eX11_fullOf (d + 1) x1 φ α Q := by
  intro Ln
  refine r_iconst 0 (pc' := 1) (kX11_fullOf_0 0 rfl) rfl (by unfold inR; omega) ?_
  refine r_istore_n (L' := [(2, 198), (0, x1), (0, 0), (9, 0)]) (pc' := 2) (kX11_fullOf_0 1 rfl) rfl (Nat.le_of_ble_eq_true rfl) rfl ?_
  refine r_iconst 0 (pc' := 3) (kX11_fullOf_0 2 rfl) rfl (by unfold inR; omega) ?_
  refine r_istore_n (L' := [(2, 198), (0, x1), (0, 0), (0, 0)]) (pc' := 4) (kX11_fullOf_0 3 rfl) rfl (Nat.le_of_ble_eq_true rfl) rfl ?_
  exact r_weak (L' := [(2, 198), (0, x1), (0, 0), (0, 0)]) ⟨Or.inl rfl, Or.inl rfl, Or.inl rfl, Or.inl rfl, trivial⟩ (h Ln)
theorem vX11_fullOf_4 {d : Nat} {φ : aF} {α : aA} {Q : Int → aF → aA → Prop} {x1 : Int} {x2 : Int} {x3 : Int} (h : ((4 ≤ x3 →
   (Q x2 φ α)) ∧
   (¬ (4 ≤ x3) →
   (eX11_dropsOf d x1 x3 φ α (fun r2 φ2 α2 =>
     inR (x2 + r2) ∧ inR (x3 + 1) ∧ (jX11_fullOf_4 (d + 1) x1 (x2 + r2) (x3 + 1) φ2 α2 Q)))))) : jX11_fullOf_4 (d + 1) x1 x2 x3 φ α Q := by
  intro Ln
  refine r_iload_n (pc' := 5) (kX11_fullOf_0 4 rfl) rfl rfl ?_
  refine r_iconst 4 (pc' := 6) (kX11_fullOf_0 5 rfl) rfl (by unfold inR; omega) ?_
  refine r_icmp_ge (t := 24) (pc' := 9) (kX11_fullOf_0 6 rfl) rfl rfl (fun c1 => ?_) (fun c1 => ?_)
  · have h := h.1 c1
    refine r_iload_n (pc' := 25) (kX11_fullOf_0 16 rfl) rfl rfl ?_
    exact s_iret (kX11_fullOf_0 17 rfl) rfl h
  · have h := h.2 c1
    refine r_iload_n (pc' := 10) (kX11_fullOf_0 7 rfl) rfl rfl ?_
    refine r_aload_n (pc' := 11) (kX11_fullOf_0 8 rfl) rfl rfl ?_
    refine r_iload_n (pc' := 12) (kX11_fullOf_0 9 rfl) rfl rfl ?_
    refine r_iload_n (pc' := 13) (kX11_fullOf_0 10 rfl) rfl rfl ?_
    refine s_callV (As := [(0, x1), (0, x3)]) (o := 198) (S := [(0, x2)]) (S2 := fun z => [(0, z), (0, x2)]) (pc' := 16) (kX11_fullOf_0 11 rfl) rfl rfl nkX11_dropsOf mlX11_386 imX11_dropsOf rfl slX11_dropsOf rfl (Nat.le_of_ble_eq_true rfl) (Nat.le_of_ble_eq_true rfl) (kz198 Ln) h (fun z => rfl) (fun r2 φ2 α2 h => ?_)
    have g3 := h.1
    have h := h.2
    refine r_iadd (pc' := 17) (kX11_fullOf_0 12 rfl) rfl g3 ?_
    refine r_istore_n (L' := [(2, 198), (0, x1), (0, (x2 + r2)), (0, x3)]) (pc' := 18) (kX11_fullOf_0 13 rfl) rfl (Nat.le_of_ble_eq_true rfl) rfl ?_
    have g4 := h.1
    have h := h.2
    refine r_iinc (L' := [(2, 198), (0, x1), (0, (x2 + r2)), (0, (x3 + 1))]) (pc' := 21) (kX11_fullOf_0 14 rfl) rfl (Nat.le_of_ble_eq_true rfl) rfl g4 rfl ?_
    refine r_goto (pc' := 4) (kX11_fullOf_0 15 rfl) rfl ?_
    exact r_weak (L' := [(2, 198), (0, x1), (0, (x2 + r2)), (0, (x3 + 1))]) ⟨Or.inl rfl, Or.inl rfl, Or.inl rfl, Or.inl rfl, trivial⟩ (h Ln)
theorem vX11_spaceOf_0 {d : Nat} {φ : aF} {α : aA} {Q : Int → aF → aA → Prop} {x1 : Int} (h : (eX11_roomOf d x1 φ α (fun r1 φ1 α1 =>
   (eX11_fullOf d x1 φ1 α1 (fun r2 φ2 α2 =>
   inR (r1 - r2) ∧ (Q (r1 - r2) φ2 α2)))))) : eX11_spaceOf (d + 1) x1 φ α Q := by
  intro Ln
  refine r_aload_n (pc' := 1) (kX11_spaceOf_0 0 rfl) rfl rfl ?_
  refine r_iload_n (pc' := 2) (kX11_spaceOf_0 1 rfl) rfl rfl ?_
  refine s_callV (As := [(0, x1)]) (o := 198) (S := []) (S2 := fun z => [(0, z)]) (pc' := 5) (kX11_spaceOf_0 2 rfl) rfl rfl nkX11_roomOf mlX11_389 imX11_roomOf rfl slX11_roomOf rfl (Nat.le_of_ble_eq_true rfl) (Nat.le_of_ble_eq_true rfl) (kz198 Ln) h (fun z => rfl) (fun r1 φ1 α1 h => ?_)
  refine r_aload_n (pc' := 6) (kX11_spaceOf_0 3 rfl) rfl rfl ?_
  refine r_iload_n (pc' := 7) (kX11_spaceOf_0 4 rfl) rfl rfl ?_
  refine s_callV (As := [(0, x1)]) (o := 198) (S := [(0, r1)]) (S2 := fun z => [(0, z), (0, r1)]) (pc' := 10) (kX11_spaceOf_0 5 rfl) rfl rfl nkX11_fullOf mlX11_392 imX11_fullOf rfl slX11_fullOf rfl (Nat.le_of_ble_eq_true rfl) (Nat.le_of_ble_eq_true rfl) (kz198 Ln) h (fun z => rfl) (fun r2 φ2 α2 h => ?_)
  have g3 := h.1
  have h := h.2
  refine r_isub (pc' := 11) (kX11_spaceOf_0 6 rfl) rfl g3 ?_
  exact s_iret (kX11_spaceOf_0 7 rfl) rfl h
theorem vX11_apart_0 {d : Nat} {φ : aF} {α : aA} {Q : Int → aF → aA → Prop} {x1 : Int} {x2 : Int} (h : (eX11_seatOf d x1 φ α (fun r1 φ1 α1 =>
   (eX11_seatOf d x2 φ1 α1 (fun r2 φ2 α2 =>
   inR (r1 - r2) ∧ ((0 ≤ (r1 - r2) →
   (Q (r1 - r2) φ2 α2)) ∧
   (¬ (0 ≤ (r1 - r2)) →
   inR (-(r1 - r2)) ∧ (Q (-(r1 - r2)) φ2 α2)))))))) : eX11_apart (d + 1) x1 x2 φ α Q := by
  intro Ln
  refine r_aload_n (pc' := 1) (kX11_apart_0 0 rfl) rfl rfl ?_
  refine r_iload_n (pc' := 2) (kX11_apart_0 1 rfl) rfl rfl ?_
  refine s_callV (As := [(0, x1)]) (o := 198) (S := []) (S2 := fun z => [(0, z)]) (pc' := 5) (kX11_apart_0 2 rfl) rfl rfl nkX11_seatOf mlX11_395 imX11_seatOf rfl slX11_seatOf rfl (Nat.le_of_ble_eq_true rfl) (Nat.le_of_ble_eq_true rfl) (kz198 Ln) h (fun z => rfl) (fun r1 φ1 α1 h => ?_)
  refine r_aload_n (pc' := 6) (kX11_apart_0 3 rfl) rfl rfl ?_
  refine r_iload_n (pc' := 7) (kX11_apart_0 4 rfl) rfl rfl ?_
  refine s_callV (As := [(0, x2)]) (o := 198) (S := [(0, r1)]) (S2 := fun z => [(0, z), (0, r1)]) (pc' := 10) (kX11_apart_0 5 rfl) rfl rfl nkX11_seatOf mlX11_395 imX11_seatOf rfl slX11_seatOf rfl (Nat.le_of_ble_eq_true rfl) (Nat.le_of_ble_eq_true rfl) (kz198 Ln) h (fun z => rfl) (fun r2 φ2 α2 h => ?_)
  have g3 := h.1
  have h := h.2
  refine r_isub (pc' := 11) (kX11_apart_0 6 rfl) rfl g3 ?_
  refine r_istore_n (L' := [(2, 198), (0, x1), (0, x2), (0, (r1 - r2))]) (pc' := 12) (kX11_apart_0 7 rfl) rfl (Nat.le_of_ble_eq_true rfl) rfl ?_
  refine r_iload_n (pc' := 13) (kX11_apart_0 8 rfl) rfl rfl ?_
  refine r_if_ge (t := 21) (pc' := 16) (kX11_apart_0 9 rfl) rfl rfl (fun c4 => ?_) (fun c4 => ?_)
  · have h := h.1 c4
    refine r_iload_n (pc' := 22) (kX11_apart_0 13 rfl) rfl rfl ?_
    exact s_iret (kX11_apart_0 14 rfl) rfl h
  · have h := h.2 c4
    refine r_iload_n (pc' := 17) (kX11_apart_0 10 rfl) rfl rfl ?_
    have g5 := h.1
    have h := h.2
    refine r_ineg (pc' := 18) (kX11_apart_0 11 rfl) rfl g5 ?_
    refine r_goto (pc' := 22) (kX11_apart_0 12 rfl) rfl ?_
    exact s_iret (kX11_apart_0 14 rfl) rfl h
abbrev jX11_mindOf_4 (d : Nat) (x1 x2 x3 : Int) (φ : aF) (α : aA) (Q : Int → aF → aA → Prop) : Prop := R0 d mX11_mindOf 4 [(2, 198), (0, x1), (0, x2), (0, x3)] [] φ α Q
theorem vX11_mindOf_0 {d : Nat} {φ : aF} {α : aA} {Q : Int → aF → aA → Prop} {x1 : Int} (h : (jX11_mindOf_4 (d + 1) x1 (-1) 0 φ α Q)) : eX11_mindOf (d + 1) x1 φ α Q := by
  intro Ln
  refine r_iconst (-1) (pc' := 1) (kX11_mindOf_0 0 rfl) rfl (by unfold inR; omega) ?_
  refine r_istore_n (L' := [(2, 198), (0, x1), (0, (-1)), (9, 0)]) (pc' := 2) (kX11_mindOf_0 1 rfl) rfl (Nat.le_of_ble_eq_true rfl) rfl ?_
  refine r_iconst 0 (pc' := 3) (kX11_mindOf_0 2 rfl) rfl (by unfold inR; omega) ?_
  refine r_istore_n (L' := [(2, 198), (0, x1), (0, (-1)), (0, 0)]) (pc' := 4) (kX11_mindOf_0 3 rfl) rfl (Nat.le_of_ble_eq_true rfl) rfl ?_
  exact r_weak (L' := [(2, 198), (0, x1), (0, (-1)), (0, 0)]) ⟨Or.inl rfl, Or.inl rfl, Or.inl rfl, Or.inl rfl, trivial⟩ (h Ln)
theorem vX11_mindOf_4 {d : Nat} {φ : aF} {α : aA} {Q : Int → aF → aA → Prop} {x1 : Int} {x2 : Int} {x3 : Int} (h : (eX11_matterMany d  φ α (fun r1 φ1 α1 =>
   ((r1 ≤ x3 →
   (Q x2 φ1 α1)) ∧
   (¬ (r1 ≤ x3) →
   (eX11_dropsOf d x1 x3 φ1 α1 (fun r3 φ3 α3 =>
     ((¬ x2 = (-1) →
     (eX11_dropsOf d x1 x2 φ3 α3 (fun r5 φ5 α5 =>
       ((r3 ≤ r5 →
       inR (x3 + 1) ∧ (jX11_mindOf_4 (d + 1) x1 x2 (x3 + 1) φ5 α5 Q)) ∧
       (¬ (r3 ≤ r5) →
       inR (x3 + 1) ∧ (jX11_mindOf_4 (d + 1) x1 x3 (x3 + 1) φ5 α5 Q)))))) ∧
     (x2 = (-1) →
     ((r3 ≤ 0 →
       inR (x3 + 1) ∧ (jX11_mindOf_4 (d + 1) x1 x2 (x3 + 1) φ3 α3 Q)) ∧
       (¬ (r3 ≤ 0) →
       inR (x3 + 1) ∧ (jX11_mindOf_4 (d + 1) x1 x3 (x3 + 1) φ3 α3 Q)))))))))))) : jX11_mindOf_4 (d + 1) x1 x2 x3 φ α Q := by
  intro Ln
  refine r_iload_n (pc' := 5) (kX11_mindOf_0 4 rfl) rfl rfl ?_
  refine r_aload_n (pc' := 6) (kX11_mindOf_0 5 rfl) rfl rfl ?_
  refine s_callV (As := []) (o := 198) (S := [(0, x3)]) (S2 := fun z => [(0, z), (0, x3)]) (pc' := 9) (kX11_mindOf_0 6 rfl) rfl rfl nkX11_matterMany mlX11_373 imX11_matterMany rfl slX11_matterMany rfl (Nat.le_of_ble_eq_true rfl) (Nat.le_of_ble_eq_true rfl) (kz198 Ln) h (fun z => rfl) (fun r1 φ1 α1 h => ?_)
  refine r_icmp_ge (t := 44) (pc' := 12) (kX11_mindOf_0 7 rfl) rfl rfl (fun c2 => ?_) (fun c2 => ?_)
  · have h := h.1 c2
    refine r_iload_n (pc' := 45) (kX11_mindOf_0 26 rfl) rfl rfl ?_
    exact s_iret (kX11_mindOf_0 27 rfl) rfl h
  · have h := h.2 c2
    refine r_aload_n (pc' := 13) (kX11_mindOf_0 8 rfl) rfl rfl ?_
    refine r_iload_n (pc' := 14) (kX11_mindOf_0 9 rfl) rfl rfl ?_
    refine r_iload_n (pc' := 15) (kX11_mindOf_0 10 rfl) rfl rfl ?_
    refine s_callV (As := [(0, x1), (0, x3)]) (o := 198) (S := []) (S2 := fun z => [(0, z)]) (pc' := 18) (kX11_mindOf_0 11 rfl) rfl rfl nkX11_dropsOf mlX11_386 imX11_dropsOf rfl slX11_dropsOf rfl (Nat.le_of_ble_eq_true rfl) (Nat.le_of_ble_eq_true rfl) (kz198 Ln) h (fun z => rfl) (fun r3 φ3 α3 h => ?_)
    refine r_iload_n (pc' := 19) (kX11_mindOf_0 12 rfl) rfl rfl ?_
    refine r_iconst (-1) (pc' := 20) (kX11_mindOf_0 13 rfl) rfl (by unfold inR; omega) ?_
    refine r_icmp_ne (t := 27) (pc' := 23) (kX11_mindOf_0 14 rfl) rfl rfl (fun c4 => ?_) (fun c4 => ?_)
    · have h := h.1 c4
      refine r_aload_n (pc' := 28) (kX11_mindOf_0 17 rfl) rfl rfl ?_
      refine r_iload_n (pc' := 29) (kX11_mindOf_0 18 rfl) rfl rfl ?_
      refine r_iload_n (pc' := 30) (kX11_mindOf_0 19 rfl) rfl rfl ?_
      refine s_callV (As := [(0, x1), (0, x2)]) (o := 198) (S := [(0, r3)]) (S2 := fun z => [(0, z), (0, r3)]) (pc' := 33) (kX11_mindOf_0 20 rfl) rfl rfl nkX11_dropsOf mlX11_386 imX11_dropsOf rfl slX11_dropsOf rfl (Nat.le_of_ble_eq_true rfl) (Nat.le_of_ble_eq_true rfl) (kz198 Ln) h (fun z => rfl) (fun r5 φ5 α5 h => ?_)
      refine r_icmp_le (t := 38) (pc' := 36) (kX11_mindOf_0 21 rfl) rfl rfl (fun c6 => ?_) (fun c6 => ?_)
      · have h := h.1 c6
        have g7 := h.1
        have h := h.2
        refine r_iinc (L' := [(2, 198), (0, x1), (0, x2), (0, (x3 + 1))]) (pc' := 41) (kX11_mindOf_0 24 rfl) rfl (Nat.le_of_ble_eq_true rfl) rfl g7 rfl ?_
        refine r_goto (pc' := 4) (kX11_mindOf_0 25 rfl) rfl ?_
        exact r_weak (L' := [(2, 198), (0, x1), (0, x2), (0, (x3 + 1))]) ⟨Or.inl rfl, Or.inl rfl, Or.inl rfl, Or.inl rfl, trivial⟩ (h Ln)
      · have h := h.2 c6
        refine r_iload_n (pc' := 37) (kX11_mindOf_0 22 rfl) rfl rfl ?_
        refine r_istore_n (L' := [(2, 198), (0, x1), (0, x3), (0, x3)]) (pc' := 38) (kX11_mindOf_0 23 rfl) rfl (Nat.le_of_ble_eq_true rfl) rfl ?_
        have g8 := h.1
        have h := h.2
        refine r_iinc (L' := [(2, 198), (0, x1), (0, x3), (0, (x3 + 1))]) (pc' := 41) (kX11_mindOf_0 24 rfl) rfl (Nat.le_of_ble_eq_true rfl) rfl g8 rfl ?_
        refine r_goto (pc' := 4) (kX11_mindOf_0 25 rfl) rfl ?_
        exact r_weak (L' := [(2, 198), (0, x1), (0, x3), (0, (x3 + 1))]) ⟨Or.inl rfl, Or.inl rfl, Or.inl rfl, Or.inl rfl, trivial⟩ (h Ln)
    · have h := h.2 c4
      refine r_iconst 0 (pc' := 24) (kX11_mindOf_0 15 rfl) rfl (by unfold inR; omega) ?_
      refine r_goto (pc' := 33) (kX11_mindOf_0 16 rfl) rfl ?_
      refine r_icmp_le (t := 38) (pc' := 36) (kX11_mindOf_0 21 rfl) rfl rfl (fun c9 => ?_) (fun c9 => ?_)
      · have h := h.1 c9
        have g10 := h.1
        have h := h.2
        refine r_iinc (L' := [(2, 198), (0, x1), (0, x2), (0, (x3 + 1))]) (pc' := 41) (kX11_mindOf_0 24 rfl) rfl (Nat.le_of_ble_eq_true rfl) rfl g10 rfl ?_
        refine r_goto (pc' := 4) (kX11_mindOf_0 25 rfl) rfl ?_
        exact r_weak (L' := [(2, 198), (0, x1), (0, x2), (0, (x3 + 1))]) ⟨Or.inl rfl, Or.inl rfl, Or.inl rfl, Or.inl rfl, trivial⟩ (h Ln)
      · have h := h.2 c9
        refine r_iload_n (pc' := 37) (kX11_mindOf_0 22 rfl) rfl rfl ?_
        refine r_istore_n (L' := [(2, 198), (0, x1), (0, x3), (0, x3)]) (pc' := 38) (kX11_mindOf_0 23 rfl) rfl (Nat.le_of_ble_eq_true rfl) rfl ?_
        have g11 := h.1
        have h := h.2
        refine r_iinc (L' := [(2, 198), (0, x1), (0, x3), (0, (x3 + 1))]) (pc' := 41) (kX11_mindOf_0 24 rfl) rfl (Nat.le_of_ble_eq_true rfl) rfl g11 rfl ?_
        refine r_goto (pc' := 4) (kX11_mindOf_0 25 rfl) rfl ?_
        exact r_weak (L' := [(2, 198), (0, x1), (0, x3), (0, (x3 + 1))]) ⟨Or.inl rfl, Or.inl rfl, Or.inl rfl, Or.inl rfl, trivial⟩ (h Ln)
abbrev jX11_sitterOf_2 (d : Nat) (x1 x2 : Int) (φ : aF) (α : aA) (Q : Int → aF → aA → Prop) : Prop := R0 d mX11_sitterOf 2 [(2, 198), (0, x1), (0, x2)] [] φ α Q
theorem vX11_sitterOf_0 {d : Nat} {φ : aF} {α : aA} {Q : Int → aF → aA → Prop} {x1 : Int} (h : (jX11_sitterOf_2 (d + 1) x1 0 φ α Q)) : eX11_sitterOf (d + 1) x1 φ α Q := by
  intro Ln
  refine r_iconst 0 (pc' := 1) (kX11_sitterOf_0 0 rfl) rfl (by unfold inR; omega) ?_
  refine r_istore_n (L' := [(2, 198), (0, x1), (0, 0)]) (pc' := 2) (kX11_sitterOf_0 1 rfl) rfl (Nat.le_of_ble_eq_true rfl) rfl ?_
  exact r_weak (L' := [(2, 198), (0, x1), (0, 0)]) ⟨Or.inl rfl, Or.inl rfl, Or.inl rfl, trivial⟩ (h Ln)
theorem vX11_sitterOf_2 {d : Nat} {φ : aF} {α : aA} {Q : Int → aF → aA → Prop} {x1 : Int} {x2 : Int} (h : (eX11_clerkMany d  φ α (fun r1 φ1 α1 =>
   ((r1 ≤ x2 →
   (Q (-1) φ1 α1)) ∧
   (¬ (r1 ≤ x2) →
   (eX11_seatOf d x2 φ1 α1 (fun r3 φ3 α3 =>
     ((¬ r3 = x1 →
     inR (x2 + 1) ∧ (jX11_sitterOf_2 (d + 1) x1 (x2 + 1) φ3 α3 Q)) ∧
     (r3 = x1 →
     (Q x2 φ3 α3)))))))))) : jX11_sitterOf_2 (d + 1) x1 x2 φ α Q := by
  intro Ln
  refine r_iload_n (pc' := 3) (kX11_sitterOf_0 2 rfl) rfl rfl ?_
  refine r_aload_n (pc' := 4) (kX11_sitterOf_0 3 rfl) rfl rfl ?_
  refine s_callV (As := []) (o := 198) (S := [(0, x2)]) (S2 := fun z => [(0, z), (0, x2)]) (pc' := 7) (kX11_sitterOf_0 4 rfl) rfl rfl nkX11_clerkMany mlX11_376 imX11_clerkMany rfl slX11_clerkMany rfl (Nat.le_of_ble_eq_true rfl) (Nat.le_of_ble_eq_true rfl) (kz198 Ln) h (fun z => rfl) (fun r1 φ1 α1 h => ?_)
  refine r_icmp_ge (t := 27) (pc' := 10) (kX11_sitterOf_0 5 rfl) rfl rfl (fun c2 => ?_) (fun c2 => ?_)
  · have h := h.1 c2
    refine r_iconst (-1) (pc' := 28) (kX11_sitterOf_0 15 rfl) rfl (by unfold inR; omega) ?_
    exact s_iret (kX11_sitterOf_0 16 rfl) rfl h
  · have h := h.2 c2
    refine r_aload_n (pc' := 11) (kX11_sitterOf_0 6 rfl) rfl rfl ?_
    refine r_iload_n (pc' := 12) (kX11_sitterOf_0 7 rfl) rfl rfl ?_
    refine s_callV (As := [(0, x2)]) (o := 198) (S := []) (S2 := fun z => [(0, z)]) (pc' := 15) (kX11_sitterOf_0 8 rfl) rfl rfl nkX11_seatOf mlX11_395 imX11_seatOf rfl slX11_seatOf rfl (Nat.le_of_ble_eq_true rfl) (Nat.le_of_ble_eq_true rfl) (kz198 Ln) h (fun z => rfl) (fun r3 φ3 α3 h => ?_)
    refine r_iload_n (pc' := 16) (kX11_sitterOf_0 9 rfl) rfl rfl ?_
    refine r_icmp_ne (t := 21) (pc' := 19) (kX11_sitterOf_0 10 rfl) rfl rfl (fun c4 => ?_) (fun c4 => ?_)
    · have h := h.1 c4
      have g5 := h.1
      have h := h.2
      refine r_iinc (L' := [(2, 198), (0, x1), (0, (x2 + 1))]) (pc' := 24) (kX11_sitterOf_0 13 rfl) rfl (Nat.le_of_ble_eq_true rfl) rfl g5 rfl ?_
      refine r_goto (pc' := 2) (kX11_sitterOf_0 14 rfl) rfl ?_
      exact r_weak (L' := [(2, 198), (0, x1), (0, (x2 + 1))]) ⟨Or.inl rfl, Or.inl rfl, Or.inl rfl, trivial⟩ (h Ln)
    · have h := h.2 c4
      refine r_iload_n (pc' := 20) (kX11_sitterOf_0 11 rfl) rfl rfl ?_
      exact s_iret (kX11_sitterOf_0 12 rfl) rfl h
theorem vX11_floorOf_0 {d : Nat} {φ : aF} {α : aA} {Q : Int → aF → aA → Prop} {x1 : Int} (h : inR (3 * x1) ∧ inR (36 + (3 * x1)) ∧ (0 ≤ (36 + (3 * x1)) ∧ (36 + (3 * x1)) < (169 : Nat)) ∧ (Q (α 233 (36 + (3 * x1))) φ α)) : eX11_floorOf d x1 φ α Q := by
  intro Ln
  refine r_aload_n (pc' := 1) (kX11_floorOf_0 0 rfl) rfl rfl ?_
  refine s_getr (v := 233) (pc' := 4) (kX11_floorOf_0 1 rfl) rfl fkX11_118 rfl rfl (kz198 Ln) rfl (by decide) ?_
  refine r_bipush 36 (pc' := 6) (kX11_floorOf_0 2 rfl) rfl ⟨by unfold inR; omega, rfl⟩ ?_
  refine r_iconst 3 (pc' := 7) (kX11_floorOf_0 3 rfl) rfl (by unfold inR; omega) ?_
  refine r_iload_n (pc' := 8) (kX11_floorOf_0 4 rfl) rfl rfl ?_
  have g1 := h.1
  have h := h.2
  refine r_imul (pc' := 9) (kX11_floorOf_0 5 rfl) rfl g1 ?_
  have g2 := h.1
  have h := h.2
  refine r_iadd (pc' := 10) (kX11_floorOf_0 6 rfl) rfl g2 ?_
  have g3 := h.1
  have h := h.2
  refine s_iald (x := (α 233 (36 + (3 * x1)))) (pc' := 11) (kX11_floorOf_0 7 rfl) rfl (kz233 Ln) g3 rfl ?_
  exact s_iret (kX11_floorOf_0 8 rfl) rfl h
abbrev jX11_floorAll_4 (d : Nat) (x1 x2 : Int) (φ : aF) (α : aA) (Q : Int → aF → aA → Prop) : Prop := R0 d mX11_floorAll 4 [(2, 198), (0, x1), (0, x2)] [] φ α Q
theorem vX11_floorAll_0 {d : Nat} {φ : aF} {α : aA} {Q : Int → aF → aA → Prop} (h : (jX11_floorAll_4 (d + 1) 0 0 φ α Q)) : eX11_floorAll (d + 1)  φ α Q := by
  intro Ln
  refine r_iconst 0 (pc' := 1) (kX11_floorAll_0 0 rfl) rfl (by unfold inR; omega) ?_
  refine r_istore_n (L' := [(2, 198), (0, 0), (9, 0)]) (pc' := 2) (kX11_floorAll_0 1 rfl) rfl (Nat.le_of_ble_eq_true rfl) rfl ?_
  refine r_iconst 0 (pc' := 3) (kX11_floorAll_0 2 rfl) rfl (by unfold inR; omega) ?_
  refine r_istore_n (L' := [(2, 198), (0, 0), (0, 0)]) (pc' := 4) (kX11_floorAll_0 3 rfl) rfl (Nat.le_of_ble_eq_true rfl) rfl ?_
  exact r_weak (L' := [(2, 198), (0, 0), (0, 0)]) ⟨Or.inl rfl, Or.inl rfl, Or.inl rfl, trivial⟩ (h Ln)
theorem vX11_floorAll_4 {d : Nat} {φ : aF} {α : aA} {Q : Int → aF → aA → Prop} {x1 : Int} {x2 : Int} (h : (eX11_matterMany d  φ α (fun r1 φ1 α1 =>
   ((r1 ≤ x2 →
   (Q x1 φ1 α1)) ∧
   (¬ (r1 ≤ x2) →
   (eX11_floorOf d x2 φ1 α1 (fun r3 φ3 α3 =>
     inR (x1 + r3) ∧ inR (x2 + 1) ∧ (jX11_floorAll_4 (d + 1) (x1 + r3) (x2 + 1) φ3 α3 Q)))))))) : jX11_floorAll_4 (d + 1) x1 x2 φ α Q := by
  intro Ln
  refine r_iload_n (pc' := 5) (kX11_floorAll_0 4 rfl) rfl rfl ?_
  refine r_aload_n (pc' := 6) (kX11_floorAll_0 5 rfl) rfl rfl ?_
  refine s_callV (As := []) (o := 198) (S := [(0, x2)]) (S2 := fun z => [(0, z), (0, x2)]) (pc' := 9) (kX11_floorAll_0 6 rfl) rfl rfl nkX11_matterMany mlX11_373 imX11_matterMany rfl slX11_matterMany rfl (Nat.le_of_ble_eq_true rfl) (Nat.le_of_ble_eq_true rfl) (kz198 Ln) h (fun z => rfl) (fun r1 φ1 α1 h => ?_)
  refine r_icmp_ge (t := 26) (pc' := 12) (kX11_floorAll_0 7 rfl) rfl rfl (fun c2 => ?_) (fun c2 => ?_)
  · have h := h.1 c2
    refine r_iload_n (pc' := 27) (kX11_floorAll_0 16 rfl) rfl rfl ?_
    exact s_iret (kX11_floorAll_0 17 rfl) rfl h
  · have h := h.2 c2
    refine r_iload_n (pc' := 13) (kX11_floorAll_0 8 rfl) rfl rfl ?_
    refine r_aload_n (pc' := 14) (kX11_floorAll_0 9 rfl) rfl rfl ?_
    refine r_iload_n (pc' := 15) (kX11_floorAll_0 10 rfl) rfl rfl ?_
    refine s_callV (As := [(0, x2)]) (o := 198) (S := [(0, x1)]) (S2 := fun z => [(0, z), (0, x1)]) (pc' := 18) (kX11_floorAll_0 11 rfl) rfl rfl nkX11_floorOf mlX11_398 imX11_floorOf rfl slX11_floorOf rfl (Nat.le_of_ble_eq_true rfl) (Nat.le_of_ble_eq_true rfl) (kz198 Ln) h (fun z => rfl) (fun r3 φ3 α3 h => ?_)
    have g4 := h.1
    have h := h.2
    refine r_iadd (pc' := 19) (kX11_floorAll_0 12 rfl) rfl g4 ?_
    refine r_istore_n (L' := [(2, 198), (0, (x1 + r3)), (0, x2)]) (pc' := 20) (kX11_floorAll_0 13 rfl) rfl (Nat.le_of_ble_eq_true rfl) rfl ?_
    have g5 := h.1
    have h := h.2
    refine r_iinc (L' := [(2, 198), (0, (x1 + r3)), (0, (x2 + 1))]) (pc' := 23) (kX11_floorAll_0 14 rfl) rfl (Nat.le_of_ble_eq_true rfl) rfl g5 rfl ?_
    refine r_goto (pc' := 4) (kX11_floorAll_0 15 rfl) rfl ?_
    exact r_weak (L' := [(2, 198), (0, (x1 + r3)), (0, (x2 + 1))]) ⟨Or.inl rfl, Or.inl rfl, Or.inl rfl, trivial⟩ (h Ln)
abbrev jX11_bits_4 (d : Nat) (x1 x2 : Int) (φ : aF) (α : aA) (Q : Int → aF → aA → Prop) : Prop := R0 d mX11_bits 4 [(9, 0), (0, x1), (0, x2)] [] φ α Q
theorem vX11_bits_0 {d : Nat} {φ : aF} {α : aA} {Q : Int → aF → aA → Prop} {x0 : Int} (h : (jX11_bits_4 d 0 x0 φ α Q)) : eX11_bits d x0 φ α Q := by
  intro Ln
  refine r_iconst 0 (pc' := 1) (kX11_bits_0 0 rfl) rfl (by unfold inR; omega) ?_
  refine r_istore_n (L' := [(0, x0), (0, 0), (9, 0)]) (pc' := 2) (kX11_bits_0 1 rfl) rfl (Nat.le_of_ble_eq_true rfl) rfl ?_
  refine r_iload_n (pc' := 3) (kX11_bits_0 2 rfl) rfl rfl ?_
  refine r_istore_n (L' := [(0, x0), (0, 0), (0, x0)]) (pc' := 4) (kX11_bits_0 3 rfl) rfl (Nat.le_of_ble_eq_true rfl) rfl ?_
  exact r_weak (L' := [(9, 0), (0, 0), (0, x0)]) ⟨Or.inr (by decide), Or.inl rfl, Or.inl rfl, trivial⟩ (h Ln)
theorem vX11_bits_4 {d : Nat} {φ : aF} {α : aA} {Q : Int → aF → aA → Prop} {x1 : Int} {x2 : Int} (h : ((x2 = 0 →
   (Q x1 φ α)) ∧
   (¬ (x2 = 0) →
   inR (x1 + 1) ∧ inR (x2 - 1) ∧ (jX11_bits_4 d (x1 + 1) (iAnd x2 (x2 - 1)) φ α Q)))) : jX11_bits_4 d x1 x2 φ α Q := by
  intro Ln
  refine r_iload_n (pc' := 5) (kX11_bits_0 4 rfl) rfl rfl ?_
  refine r_if_eq (t := 20) (pc' := 8) (kX11_bits_0 5 rfl) rfl rfl (fun c1 => ?_) (fun c1 => ?_)
  · have h := h.1 c1
    refine r_iload_n (pc' := 21) (kX11_bits_0 14 rfl) rfl rfl ?_
    exact s_iret (kX11_bits_0 15 rfl) rfl h
  · have h := h.2 c1
    have g2 := h.1
    have h := h.2
    refine r_iinc (L' := [(9, 0), (0, (x1 + 1)), (0, x2)]) (pc' := 11) (kX11_bits_0 6 rfl) rfl (Nat.le_of_ble_eq_true rfl) rfl g2 rfl ?_
    refine r_iload_n (pc' := 12) (kX11_bits_0 7 rfl) rfl rfl ?_
    refine r_iload_n (pc' := 13) (kX11_bits_0 8 rfl) rfl rfl ?_
    refine r_iconst 1 (pc' := 14) (kX11_bits_0 9 rfl) rfl (by unfold inR; omega) ?_
    have g3 := h.1
    have h := h.2
    refine r_isub (pc' := 15) (kX11_bits_0 10 rfl) rfl g3 ?_
    refine r_iand (pc' := 16) (kX11_bits_0 11 rfl) rfl ?_
    refine r_istore_n (L' := [(9, 0), (0, (x1 + 1)), (0, (iAnd x2 (x2 - 1)))]) (pc' := 17) (kX11_bits_0 12 rfl) rfl (Nat.le_of_ble_eq_true rfl) rfl ?_
    refine r_goto (pc' := 4) (kX11_bits_0 13 rfl) rfl ?_
    exact r_weak (L' := [(9, 0), (0, (x1 + 1)), (0, (iAnd x2 (x2 - 1)))]) ⟨Or.inr (by decide), Or.inl rfl, Or.inl rfl, trivial⟩ (h Ln)
abbrev jX11_codesTell_19 (d : Nat) (x1 x2 x3 : Int) (φ : aF) (α : aA) (Q : Int → aF → aA → Prop) : Prop := R0 d mX11_codesTell 19 [(2, 198), (0, x1), (0, x2), (0, x3), (9, 0)] [] φ α Q
theorem vX11_codesTell_0 {d : Nat} {φ : aF} {α : aA} {Q : Int → aF → aA → Prop} {x1 : Int} {x2 : Int} (h : inR (2 + x1) ∧ (0 ≤ (2 + x1) ∧ (2 + x1) < (4 : Nat)) ∧ (jX11_codesTell_19 (d + 1) x1 x2 (α 230 (2 + x1)) (upf (upf φ 11 47 198 x1) 11 94 198 0) α Q)) : eX11_codesTell (d + 1) x1 x2 φ α Q := by
  intro Ln
  refine r_aload_n (pc' := 1) (kX11_codesTell_0 0 rfl) rfl rfl ?_
  refine r_iload_n (pc' := 2) (kX11_codesTell_0 1 rfl) rfl rfl ?_
  refine s_put (pc' := 5) (kX11_codesTell_0 2 rfl) rfl fkX11_285 fnX11_47 rfl pk_int (kz198 Ln) ?_
  refine r_aload_n (pc' := 6) (kX11_codesTell_0 3 rfl) rfl rfl ?_
  refine r_iconst 0 (pc' := 7) (kX11_codesTell_0 4 rfl) rfl (by unfold inR; omega) ?_
  refine s_put (pc' := 10) (kX11_codesTell_0 5 rfl) rfl fkX11_401 fnX11_94 rfl pk_int (kz198 Ln) ?_
  refine r_aload_n (pc' := 11) (kX11_codesTell_0 6 rfl) rfl rfl ?_
  refine s_getr (v := 230) (pc' := 14) (kX11_codesTell_0 7 rfl) rfl fkX11_109 rfl rfl (kz198 Ln) rfl (by decide) ?_
  refine r_iconst 2 (pc' := 15) (kX11_codesTell_0 8 rfl) rfl (by unfold inR; omega) ?_
  refine r_iload_n (pc' := 16) (kX11_codesTell_0 9 rfl) rfl rfl ?_
  have g1 := h.1
  have h := h.2
  refine r_iadd (pc' := 17) (kX11_codesTell_0 10 rfl) rfl g1 ?_
  have g2 := h.1
  have h := h.2
  refine s_iald (x := (α 230 (2 + x1))) (pc' := 18) (kX11_codesTell_0 11 rfl) rfl (kz230 Ln) g2 rfl ?_
  refine r_istore_n (L' := [(2, 198), (0, x1), (0, x2), (0, (α 230 (2 + x1))), (9, 0)]) (pc' := 19) (kX11_codesTell_0 12 rfl) rfl (Nat.le_of_ble_eq_true rfl) rfl ?_
  exact r_weak (L' := [(2, 198), (0, x1), (0, x2), (0, (α 230 (2 + x1))), (9, 0)]) ⟨Or.inl rfl, Or.inl rfl, Or.inl rfl, Or.inl rfl, Or.inr (by decide), trivial⟩ (h Ln)
theorem vX11_codesTell_19 {d : Nat} {φ : aF} {α : aA} {Q : Int → aF → aA → Prop} {x1 : Int} {x2 : Int} {x3 : Int} (h : inR (2 + x1) ∧ (0 ≤ (2 + x1) ∧ (2 + x1) < (4 : Nat)) ∧ (((α 231 (2 + x1)) ≤ x3 →
   (Q (α 265 0) φ α)) ∧
   (¬ ((α 231 (2 + x1)) ≤ x3) →
   inR (1600 + x3) ∧ (0 ≤ (1600 + x3) ∧ (1600 + x3) < (3200 : Nat)) ∧ (((α 232 (1600 + x3)) < 1000 →
     (((α 232 (1600 + x3)) < 40 →
       ((¬ (α 232 (1600 + x3)) = 13 →
         ((¬ (α 232 (1600 + x3)) = 12 →
           (eX11_qJoins d (α 232 (1600 + x3)) φ α (fun r10 φ10 α10 =>
             inR (x3 + 1) ∧ (jX11_codesTell_19 (d + 1) x1 x2 (x3 + 1) φ10 α10 Q)))) ∧
           ((α 232 (1600 + x3)) = 12 →
           inR ((φ 11 94 198) - 1) ∧ (0 ≤ ((φ 11 94 198) - 1) ∧ ((φ 11 94 198) - 1) < (1700 : Nat)) ∧ inJ (1 - (α 265 ((φ 11 94 198) - 1))) ∧ inR (x3 + 1) ∧ (jX11_codesTell_19 (d + 1) x1 x2 (x3 + 1) φ (upa α 265 ((φ 11 94 198) - 1) (1 - (α 265 ((φ 11 94 198) - 1)))) Q)))) ∧
         ((α 232 (1600 + x3)) = 13 →
         (eX11_qPuts d 1 φ α (fun r16 φ16 α16 =>
           inR (x3 + 1) ∧ (jX11_codesTell_19 (d + 1) x1 x2 (x3 + 1) φ16 α16 Q)))))) ∧
       (¬ ((α 232 (1600 + x3)) < 40) →
       inR ((α 232 (1600 + x3)) - 40) ∧ (eX11_qPartOf d ((α 232 (1600 + x3)) - 40) x2 φ α (fun r19 φ19 α19 =>
         (eX11_qPuts d r19 φ19 α19 (fun r20 φ20 α20 =>
         inR (x3 + 1) ∧ (jX11_codesTell_19 (d + 1) x1 x2 (x3 + 1) φ20 α20 Q)))))))) ∧
     (¬ ((α 232 (1600 + x3)) < 1000) →
     inR ((α 232 (1600 + x3)) - 1000) ∧ (eX11_qPuts d ((α 232 (1600 + x3)) - 1000) φ α (fun r23 φ23 α23 =>
       inR (x3 + 1) ∧ (jX11_codesTell_19 (d + 1) x1 x2 (x3 + 1) φ23 α23 Q)))))))) : jX11_codesTell_19 (d + 1) x1 x2 x3 φ α Q := by
  intro Ln
  refine r_iload_n (pc' := 20) (kX11_codesTell_0 13 rfl) rfl rfl ?_
  refine r_aload_n (pc' := 21) (kX11_codesTell_0 14 rfl) rfl rfl ?_
  refine s_getr (v := 231) (pc' := 24) (kX11_codesTell_0 15 rfl) rfl fkX11_112 rfl rfl (kz198 Ln) rfl (by decide) ?_
  refine r_iconst 2 (pc' := 25) (kX11_codesTell_0 16 rfl) rfl (by unfold inR; omega) ?_
  refine r_iload_n (pc' := 26) (kX11_codesTell_0 17 rfl) rfl rfl ?_
  have g1 := h.1
  have h := h.2
  refine r_iadd (pc' := 27) (kX11_codesTell_0 18 rfl) rfl g1 ?_
  have g2 := h.1
  have h := h.2
  refine s_iald (x := (α 231 (2 + x1))) (pc' := 28) (kX11_codesTell_0 19 rfl) rfl (kz231 Ln) g2 rfl ?_
  refine r_icmp_ge (t := 150) (pc' := 31) (kX11_codesTell_0 20 rfl) rfl rfl (fun c3 => ?_) (fun c3 => ?_)
  · have h := h.1 c3
    refine r_aload_n (pc' := 151) (kX11_codesTell_1 22 rfl) rfl rfl ?_
    refine s_getr (v := 265) (pc' := 154) (kX11_codesTell_1 23 rfl) rfl fkX11_218 rfl rfl (kz198 Ln) rfl (by decide) ?_
    refine r_iconst 0 (pc' := 155) (kX11_codesTell_1 24 rfl) rfl (by unfold inR; omega) ?_
    refine s_lald (x := (α 265 0)) (pc' := 156) (kX11_codesTell_1 25 rfl) rfl (kz265 Ln) ⟨by decide, by decide⟩ rfl ?_
    exact s_lret (kX11_codesTell_1 26 rfl) rfl h
  · have h := h.2 c3
    refine r_aload_n (pc' := 32) (kX11_codesTell_0 21 rfl) rfl rfl ?_
    refine s_getr (v := 232) (pc' := 35) (kX11_codesTell_0 22 rfl) rfl fkX11_115 rfl rfl (kz198 Ln) rfl (by decide) ?_
    refine r_sipush 1600 (pc' := 38) (kX11_codesTell_0 23 rfl) rfl ⟨by unfold inR; omega, rfl⟩ ?_
    refine r_iload_n (pc' := 39) (kX11_codesTell_0 24 rfl) rfl rfl ?_
    have g4 := h.1
    have h := h.2
    refine r_iadd (pc' := 40) (kX11_codesTell_0 25 rfl) rfl g4 ?_
    have g5 := h.1
    have h := h.2
    refine s_iald (x := (α 232 (1600 + x3))) (pc' := 41) (kX11_codesTell_0 26 rfl) rfl (kz232 Ln) g5 rfl ?_
    refine r_istore (L' := [(2, 198), (0, x1), (0, x2), (0, x3), (0, (α 232 (1600 + x3)))]) (pc' := 43) (kX11_codesTell_0 27 rfl) rfl (Nat.le_of_ble_eq_true rfl) rfl ?_
    refine r_iload (pc' := 45) (kX11_codesTell_0 28 rfl) rfl rfl ?_
    refine r_sipush 1000 (pc' := 48) (kX11_codesTell_0 29 rfl) rfl ⟨by unfold inR; omega, rfl⟩ ?_
    refine r_icmp_lt (t := 65) (pc' := 51) (kX11_codesTell_0 30 rfl) rfl rfl (fun c6 => ?_) (fun c6 => ?_)
    · have h := h.1 c6
      refine r_iload (pc' := 67) (kX11_codesTell_0 38 rfl) rfl rfl ?_
      refine r_bipush 40 (pc' := 69) (kX11_codesTell_0 39 rfl) rfl ⟨by unfold inR; omega, rfl⟩ ?_
      refine r_icmp_lt (t := 89) (pc' := 72) (kX11_codesTell_0 40 rfl) rfl rfl (fun c7 => ?_) (fun c7 => ?_)
      · have h := h.1 c7
        refine r_iload (pc' := 91) (kX11_codesTell_0 50 rfl) rfl rfl ?_
        refine r_bipush 13 (pc' := 93) (kX11_codesTell_0 51 rfl) rfl ⟨by unfold inR; omega, rfl⟩ ?_
        refine r_icmp_ne (t := 104) (pc' := 96) (kX11_codesTell_0 52 rfl) rfl rfl (fun c8 => ?_) (fun c8 => ?_)
        · have h := h.1 c8
          refine r_iload (pc' := 106) (kX11_codesTell_0 57 rfl) rfl rfl ?_
          refine r_bipush 12 (pc' := 108) (kX11_codesTell_0 58 rfl) rfl ⟨by unfold inR; omega, rfl⟩ ?_
          refine r_icmp_ne (t := 138) (pc' := 111) (kX11_codesTell_0 59 rfl) rfl rfl (fun c9 => ?_) (fun c9 => ?_)
          · have h := h.1 c9
            refine r_aload_n (pc' := 139) (kX11_codesTell_1 17 rfl) rfl rfl ?_
            refine r_iload (pc' := 141) (kX11_codesTell_1 18 rfl) rfl rfl ?_
            refine s_callV (As := [(0, (α 232 (1600 + x3)))]) (o := 198) (S := []) (S2 := fun z => []) (pc' := 144) (kX11_codesTell_1 19 rfl) rfl rfl nkX11_qJoins mlX11_412 imX11_qJoins rfl slX11_qJoins rfl (Nat.le_of_ble_eq_true rfl) (Nat.le_of_ble_eq_true rfl) (kz198 Ln) h (fun z => rfl) (fun r10 φ10 α10 h => ?_)
            have g11 := h.1
            have h := h.2
            refine r_iinc (L' := [(2, 198), (0, x1), (0, x2), (0, (x3 + 1)), (0, (α 232 (1600 + x3)))]) (pc' := 147) (kX11_codesTell_1 20 rfl) rfl (Nat.le_of_ble_eq_true rfl) rfl g11 rfl ?_
            refine r_goto (pc' := 19) (kX11_codesTell_1 21 rfl) rfl ?_
            exact r_weak (L' := [(2, 198), (0, x1), (0, x2), (0, (x3 + 1)), (9, 0)]) ⟨Or.inl rfl, Or.inl rfl, Or.inl rfl, Or.inl rfl, Or.inr (by decide), trivial⟩ (h Ln)
          · have h := h.2 c9
            refine r_aload_n (pc' := 112) (kX11_codesTell_1 0 rfl) rfl rfl ?_
            refine s_getr (v := 265) (pc' := 115) (kX11_codesTell_1 1 rfl) rfl fkX11_218 rfl rfl (kz198 Ln) rfl (by decide) ?_
            refine r_aload_n (pc' := 116) (kX11_codesTell_1 2 rfl) rfl rfl ?_
            refine s_get (x := (φ 11 94 198)) (pc' := 119) (kX11_codesTell_1 3 rfl) rfl fkX11_401 rfl rfl rfl (kz198 Ln) rfl ?_
            refine r_iconst 1 (pc' := 120) (kX11_codesTell_1 4 rfl) rfl (by unfold inR; omega) ?_
            have g12 := h.1
            have h := h.2
            refine r_isub (pc' := 121) (kX11_codesTell_1 5 rfl) rfl g12 ?_
            refine r_lconst 1 (pc' := 122) (kX11_codesTell_1 6 rfl) rfl ⟨by unfold inJ; omega, rfl⟩ ?_
            refine r_aload_n (pc' := 123) (kX11_codesTell_1 7 rfl) rfl rfl ?_
            refine s_getr (v := 265) (pc' := 126) (kX11_codesTell_1 8 rfl) rfl fkX11_218 rfl rfl (kz198 Ln) rfl (by decide) ?_
            refine r_aload_n (pc' := 127) (kX11_codesTell_1 9 rfl) rfl rfl ?_
            refine s_get (x := (φ 11 94 198)) (pc' := 130) (kX11_codesTell_1 10 rfl) rfl fkX11_401 rfl rfl rfl (kz198 Ln) rfl ?_
            refine r_iconst 1 (pc' := 131) (kX11_codesTell_1 11 rfl) rfl (by unfold inR; omega) ?_
            refine r_isub (pc' := 132) (kX11_codesTell_1 12 rfl) rfl g12 ?_
            have g13 := h.1
            have h := h.2
            refine s_lald (x := (α 265 ((φ 11 94 198) - 1))) (pc' := 133) (kX11_codesTell_1 13 rfl) rfl (kz265 Ln) g13 rfl ?_
            have g14 := h.1
            have h := h.2
            refine r_lsub (pc' := 134) (kX11_codesTell_1 14 rfl) rfl g14 ?_
            refine s_last (pc' := 135) (kX11_codesTell_1 15 rfl) rfl (kz265 Ln) g13 ?_
            refine r_goto (pc' := 144) (kX11_codesTell_1 16 rfl) rfl ?_
            have g15 := h.1
            have h := h.2
            refine r_iinc (L' := [(2, 198), (0, x1), (0, x2), (0, (x3 + 1)), (0, (α 232 (1600 + x3)))]) (pc' := 147) (kX11_codesTell_1 20 rfl) rfl (Nat.le_of_ble_eq_true rfl) rfl g15 rfl ?_
            refine r_goto (pc' := 19) (kX11_codesTell_1 21 rfl) rfl ?_
            exact r_weak (L' := [(2, 198), (0, x1), (0, x2), (0, (x3 + 1)), (9, 0)]) ⟨Or.inl rfl, Or.inl rfl, Or.inl rfl, Or.inl rfl, Or.inr (by decide), trivial⟩ (h Ln)
        · have h := h.2 c8
          refine r_aload_n (pc' := 97) (kX11_codesTell_0 53 rfl) rfl rfl ?_
          refine r_lconst 1 (pc' := 98) (kX11_codesTell_0 54 rfl) rfl ⟨by unfold inJ; omega, rfl⟩ ?_
          refine s_callV (As := [(1, 1)]) (o := 198) (S := []) (S2 := fun z => []) (pc' := 101) (kX11_codesTell_0 55 rfl) rfl rfl nkX11_qPuts mlX11_404 imX11_qPuts rfl slX11_qPuts rfl (Nat.le_of_ble_eq_true rfl) (Nat.le_of_ble_eq_true rfl) (kz198 Ln) h (fun z => rfl) (fun r16 φ16 α16 h => ?_)
          refine r_goto (pc' := 144) (kX11_codesTell_0 56 rfl) rfl ?_
          have g17 := h.1
          have h := h.2
          refine r_iinc (L' := [(2, 198), (0, x1), (0, x2), (0, (x3 + 1)), (0, (α 232 (1600 + x3)))]) (pc' := 147) (kX11_codesTell_1 20 rfl) rfl (Nat.le_of_ble_eq_true rfl) rfl g17 rfl ?_
          refine r_goto (pc' := 19) (kX11_codesTell_1 21 rfl) rfl ?_
          exact r_weak (L' := [(2, 198), (0, x1), (0, x2), (0, (x3 + 1)), (9, 0)]) ⟨Or.inl rfl, Or.inl rfl, Or.inl rfl, Or.inl rfl, Or.inr (by decide), trivial⟩ (h Ln)
      · have h := h.2 c7
        refine r_aload_n (pc' := 73) (kX11_codesTell_0 41 rfl) rfl rfl ?_
        refine r_aload_n (pc' := 74) (kX11_codesTell_0 42 rfl) rfl rfl ?_
        refine r_iload (pc' := 76) (kX11_codesTell_0 43 rfl) rfl rfl ?_
        refine r_bipush 40 (pc' := 78) (kX11_codesTell_0 44 rfl) rfl ⟨by unfold inR; omega, rfl⟩ ?_
        have g18 := h.1
        have h := h.2
        refine r_isub (pc' := 79) (kX11_codesTell_0 45 rfl) rfl g18 ?_
        refine r_iload_n (pc' := 80) (kX11_codesTell_0 46 rfl) rfl rfl ?_
        refine s_callV (As := [(0, ((α 232 (1600 + x3)) - 40)), (0, x2)]) (o := 198) (S := [(2, 198)]) (S2 := fun z => [(1, z), (2, 198)]) (pc' := 83) (kX11_codesTell_0 47 rfl) rfl rfl nkX11_qPartOf mlX11_408 imX11_qPartOf rfl slX11_qPartOf rfl (Nat.le_of_ble_eq_true rfl) (Nat.le_of_ble_eq_true rfl) (kz198 Ln) h (fun z => rfl) (fun r19 φ19 α19 h => ?_)
        refine s_callV (As := [(1, r19)]) (o := 198) (S := []) (S2 := fun z => []) (pc' := 86) (kX11_codesTell_0 48 rfl) rfl rfl nkX11_qPuts mlX11_404 imX11_qPuts rfl slX11_qPuts rfl (Nat.le_of_ble_eq_true rfl) (Nat.le_of_ble_eq_true rfl) (kz198 Ln) h (fun z => rfl) (fun r20 φ20 α20 h => ?_)
        refine r_goto (pc' := 144) (kX11_codesTell_0 49 rfl) rfl ?_
        have g21 := h.1
        have h := h.2
        refine r_iinc (L' := [(2, 198), (0, x1), (0, x2), (0, (x3 + 1)), (0, (α 232 (1600 + x3)))]) (pc' := 147) (kX11_codesTell_1 20 rfl) rfl (Nat.le_of_ble_eq_true rfl) rfl g21 rfl ?_
        refine r_goto (pc' := 19) (kX11_codesTell_1 21 rfl) rfl ?_
        exact r_weak (L' := [(2, 198), (0, x1), (0, x2), (0, (x3 + 1)), (9, 0)]) ⟨Or.inl rfl, Or.inl rfl, Or.inl rfl, Or.inl rfl, Or.inr (by decide), trivial⟩ (h Ln)
    · have h := h.2 c6
      refine r_aload_n (pc' := 52) (kX11_codesTell_0 31 rfl) rfl rfl ?_
      refine r_iload (pc' := 54) (kX11_codesTell_0 32 rfl) rfl rfl ?_
      refine r_sipush 1000 (pc' := 57) (kX11_codesTell_0 33 rfl) rfl ⟨by unfold inR; omega, rfl⟩ ?_
      have g22 := h.1
      have h := h.2
      refine r_isub (pc' := 58) (kX11_codesTell_0 34 rfl) rfl g22 ?_
      refine r_i2l (pc' := 59) (kX11_codesTell_0 35 rfl) rfl ?_
      refine s_callV (As := [(1, ((α 232 (1600 + x3)) - 1000))]) (o := 198) (S := []) (S2 := fun z => []) (pc' := 62) (kX11_codesTell_0 36 rfl) rfl rfl nkX11_qPuts mlX11_404 imX11_qPuts rfl slX11_qPuts rfl (Nat.le_of_ble_eq_true rfl) (Nat.le_of_ble_eq_true rfl) (kz198 Ln) h (fun z => rfl) (fun r23 φ23 α23 h => ?_)
      refine r_goto (pc' := 144) (kX11_codesTell_0 37 rfl) rfl ?_
      have g24 := h.1
      have h := h.2
      refine r_iinc (L' := [(2, 198), (0, x1), (0, x2), (0, (x3 + 1)), (0, (α 232 (1600 + x3)))]) (pc' := 147) (kX11_codesTell_1 20 rfl) rfl (Nat.le_of_ble_eq_true rfl) rfl g24 rfl ?_
      refine r_goto (pc' := 19) (kX11_codesTell_1 21 rfl) rfl ?_
      exact r_weak (L' := [(2, 198), (0, x1), (0, x2), (0, (x3 + 1)), (9, 0)]) ⟨Or.inl rfl, Or.inl rfl, Or.inl rfl, Or.inl rfl, Or.inr (by decide), trivial⟩ (h Ln)
theorem vX11_leaksFrom_0 {d : Nat} {φ : aF} {α : aA} {Q : Int → aF → aA → Prop} {x1 : Int} {x2 : Int} {x3 : Int} (h : (eX11_dropsOf d x1 x3 φ α (fun r1 φ1 α1 =>
   (eX11_spaceOf d x2 φ1 α1 (fun r2 φ2 α2 =>
   ((r2 ≤ r1 →
   (eX11_spaceOf d x2 φ2 α2 (fun r4 φ4 α4 =>
     ((¬ (α4 230 2) = (-1) →
     (eX11_codesTell d 0 x1 (upf (upf φ4 11 50 198 x3) 11 51 198 x2) α4 (fun r6 φ6 α6 =>
       ((0 ≤ (j3 r6 0) →
       (((j3 r6 r4) ≤ 0 →
         inR r6 ∧ (Q r6 φ6 α6)) ∧
         (¬ ((j3 r6 r4) ≤ 0) →
         (Q r4 φ6 α6)))) ∧
       (¬ (0 ≤ (j3 r6 0)) →
       (Q 0 φ6 α6)))))) ∧
     ((α4 230 2) = (-1) →
     inR (Int.tdiv r1 4) ∧ ((0 ≤ (j3 (Int.tdiv r1 4) 0) →
       (((j3 (Int.tdiv r1 4) r4) ≤ 0 →
         (Q (Int.tdiv r1 4) (upf (upf φ4 11 50 198 x3) 11 51 198 x2) α4)) ∧
         (¬ ((j3 (Int.tdiv r1 4) r4) ≤ 0) →
         (Q r4 (upf (upf φ4 11 50 198 x3) 11 51 198 x2) α4)))) ∧
       (¬ (0 ≤ (j3 (Int.tdiv r1 4) 0)) →
       (Q 0 (upf (upf φ4 11 50 198 x3) 11 51 198 x2) α4)))))))) ∧
   (¬ (r2 ≤ r1) →
   ((¬ (α2 230 2) = (-1) →
     (eX11_codesTell d 0 x1 (upf (upf φ2 11 50 198 x3) 11 51 198 x2) α2 (fun r14 φ14 α14 =>
       ((0 ≤ (j3 r14 0) →
       (((j3 r14 r1) ≤ 0 →
         inR r14 ∧ (Q r14 φ14 α14)) ∧
         (¬ ((j3 r14 r1) ≤ 0) →
         (Q r1 φ14 α14)))) ∧
       (¬ (0 ≤ (j3 r14 0)) →
       (Q 0 φ14 α14)))))) ∧
     ((α2 230 2) = (-1) →
     inR (Int.tdiv r1 4) ∧ ((0 ≤ (j3 (Int.tdiv r1 4) 0) →
       (((j3 (Int.tdiv r1 4) r1) ≤ 0 →
         (Q (Int.tdiv r1 4) (upf (upf φ2 11 50 198 x3) 11 51 198 x2) α2)) ∧
         (¬ ((j3 (Int.tdiv r1 4) r1) ≤ 0) →
         (Q r1 (upf (upf φ2 11 50 198 x3) 11 51 198 x2) α2)))) ∧
       (¬ (0 ≤ (j3 (Int.tdiv r1 4) 0)) →
       (Q 0 (upf (upf φ2 11 50 198 x3) 11 51 198 x2) α2)))))))))))) : eX11_leaksFrom (d + 1) x1 x2 x3 φ α Q := by
  intro Ln
  refine r_aload_n (pc' := 1) (kX11_leaksFrom_0 0 rfl) rfl rfl ?_
  refine r_iload_n (pc' := 2) (kX11_leaksFrom_0 1 rfl) rfl rfl ?_
  refine r_iload_n (pc' := 3) (kX11_leaksFrom_0 2 rfl) rfl rfl ?_
  refine s_callV (As := [(0, x1), (0, x3)]) (o := 198) (S := []) (S2 := fun z => [(0, z)]) (pc' := 6) (kX11_leaksFrom_0 3 rfl) rfl rfl nkX11_dropsOf mlX11_386 imX11_dropsOf rfl slX11_dropsOf rfl (Nat.le_of_ble_eq_true rfl) (Nat.le_of_ble_eq_true rfl) (kz198 Ln) h (fun z => rfl) (fun r1 φ1 α1 h => ?_)
  refine r_istore (L' := [(2, 198), (0, x1), (0, x2), (0, x3), (0, r1), (9, 0), (9, 0), (9, 0)]) (pc' := 8) (kX11_leaksFrom_0 4 rfl) rfl (Nat.le_of_ble_eq_true rfl) rfl ?_
  refine r_iload (pc' := 10) (kX11_leaksFrom_0 5 rfl) rfl rfl ?_
  refine r_aload_n (pc' := 11) (kX11_leaksFrom_0 6 rfl) rfl rfl ?_
  refine r_iload_n (pc' := 12) (kX11_leaksFrom_0 7 rfl) rfl rfl ?_
  refine s_callV (As := [(0, x2)]) (o := 198) (S := [(0, r1)]) (S2 := fun z => [(0, z), (0, r1)]) (pc' := 15) (kX11_leaksFrom_0 8 rfl) rfl rfl nkX11_spaceOf mlX11_415 imX11_spaceOf rfl slX11_spaceOf rfl (Nat.le_of_ble_eq_true rfl) (Nat.le_of_ble_eq_true rfl) (kz198 Ln) h (fun z => rfl) (fun r2 φ2 α2 h => ?_)
  refine r_icmp_ge (t := 23) (pc' := 18) (kX11_leaksFrom_0 9 rfl) rfl rfl (fun c3 => ?_) (fun c3 => ?_)
  · have h := h.1 c3
    refine r_aload_n (pc' := 24) (kX11_leaksFrom_0 12 rfl) rfl rfl ?_
    refine r_iload_n (pc' := 25) (kX11_leaksFrom_0 13 rfl) rfl rfl ?_
    refine s_callV (As := [(0, x2)]) (o := 198) (S := []) (S2 := fun z => [(0, z)]) (pc' := 28) (kX11_leaksFrom_0 14 rfl) rfl rfl nkX11_spaceOf mlX11_415 imX11_spaceOf rfl slX11_spaceOf rfl (Nat.le_of_ble_eq_true rfl) (Nat.le_of_ble_eq_true rfl) (kz198 Ln) h (fun z => rfl) (fun r4 φ4 α4 h => ?_)
    refine r_istore (L' := [(2, 198), (0, x1), (0, x2), (0, x3), (0, r1), (0, r4), (9, 0), (9, 0)]) (pc' := 30) (kX11_leaksFrom_0 15 rfl) rfl (Nat.le_of_ble_eq_true rfl) rfl ?_
    refine r_aload_n (pc' := 31) (kX11_leaksFrom_0 16 rfl) rfl rfl ?_
    refine r_iload_n (pc' := 32) (kX11_leaksFrom_0 17 rfl) rfl rfl ?_
    refine s_put (pc' := 35) (kX11_leaksFrom_0 18 rfl) rfl fkX11_418 fnX11_50 rfl pk_int (kz198 Ln) ?_
    refine r_aload_n (pc' := 36) (kX11_leaksFrom_0 19 rfl) rfl rfl ?_
    refine r_iload_n (pc' := 37) (kX11_leaksFrom_0 20 rfl) rfl rfl ?_
    refine s_put (pc' := 40) (kX11_leaksFrom_0 21 rfl) rfl fkX11_421 fnX11_51 rfl pk_int (kz198 Ln) ?_
    refine r_aload_n (pc' := 41) (kX11_leaksFrom_0 22 rfl) rfl rfl ?_
    refine s_getr (v := 230) (pc' := 44) (kX11_leaksFrom_0 23 rfl) rfl fkX11_109 rfl rfl (kz198 Ln) rfl (by decide) ?_
    refine r_iconst 2 (pc' := 45) (kX11_leaksFrom_0 24 rfl) rfl (by unfold inR; omega) ?_
    refine s_iald (x := (α4 230 2)) (pc' := 46) (kX11_leaksFrom_0 25 rfl) rfl (kz230 Ln) ⟨by decide, by decide⟩ rfl ?_
    refine r_iconst (-1) (pc' := 47) (kX11_leaksFrom_0 26 rfl) rfl (by unfold inR; omega) ?_
    refine r_icmp_ne (t := 58) (pc' := 50) (kX11_leaksFrom_0 27 rfl) rfl rfl (fun c5 => ?_) (fun c5 => ?_)
    · have h := h.1 c5
      refine r_aload_n (pc' := 59) (kX11_leaksFrom_0 33 rfl) rfl rfl ?_
      refine r_iconst 0 (pc' := 60) (kX11_leaksFrom_0 34 rfl) rfl (by unfold inR; omega) ?_
      refine r_iload_n (pc' := 61) (kX11_leaksFrom_0 35 rfl) rfl rfl ?_
      refine s_callV (As := [(0, 0), (0, x1)]) (o := 198) (S := []) (S2 := fun z => [(1, z)]) (pc' := 64) (kX11_leaksFrom_0 36 rfl) rfl rfl nkX11_codesTell mlX11_424 imX11_codesTell rfl slX11_codesTell rfl (Nat.le_of_ble_eq_true rfl) (Nat.le_of_ble_eq_true rfl) (kz198 Ln) h (fun z => rfl) (fun r6 φ6 α6 h => ?_)
      refine r_lstore (L' := [(2, 198), (0, x1), (0, x2), (0, x3), (0, r1), (0, r4), (1, r6), (8, 0)]) (pc' := 66) (kX11_leaksFrom_0 37 rfl) rfl (Nat.le_of_ble_eq_true rfl) rfl ?_
      refine r_lload (pc' := 68) (kX11_leaksFrom_0 38 rfl) rfl rfl ?_
      refine r_lconst 0 (pc' := 69) (kX11_leaksFrom_0 39 rfl) rfl ⟨by unfold inJ; omega, rfl⟩ ?_
      refine r_lcmp (pc' := 70) (kX11_leaksFrom_0 40 rfl) rfl ?_
      refine r_if_ge (t := 77) (pc' := 73) (kX11_leaksFrom_0 41 rfl) rfl rfl (fun c7 => ?_) (fun c7 => ?_)
      · have h := h.1 c7
        refine r_lload (pc' := 79) (kX11_leaksFrom_0 44 rfl) rfl rfl ?_
        refine r_iload (pc' := 81) (kX11_leaksFrom_0 45 rfl) rfl rfl ?_
        refine r_i2l (pc' := 82) (kX11_leaksFrom_0 46 rfl) rfl ?_
        refine r_lcmp (pc' := 83) (kX11_leaksFrom_0 47 rfl) rfl ?_
        refine r_if_le (t := 91) (pc' := 86) (kX11_leaksFrom_0 48 rfl) rfl rfl (fun c8 => ?_) (fun c8 => ?_)
        · have h := h.1 c8
          refine r_lload (pc' := 93) (kX11_leaksFrom_0 51 rfl) rfl rfl ?_
          have g9 := h.1
          have h := h.2
          refine r_l2i (pc' := 94) (kX11_leaksFrom_0 52 rfl) rfl g9 ?_
          exact s_iret (kX11_leaksFrom_0 53 rfl) rfl h
        · have h := h.2 c8
          refine r_iload (pc' := 88) (kX11_leaksFrom_0 49 rfl) rfl rfl ?_
          refine r_goto (pc' := 94) (kX11_leaksFrom_0 50 rfl) rfl ?_
          exact s_iret (kX11_leaksFrom_0 53 rfl) rfl h
      · have h := h.2 c7
        refine r_iconst 0 (pc' := 74) (kX11_leaksFrom_0 42 rfl) rfl (by unfold inR; omega) ?_
        refine r_goto (pc' := 94) (kX11_leaksFrom_0 43 rfl) rfl ?_
        exact s_iret (kX11_leaksFrom_0 53 rfl) rfl h
    · have h := h.2 c5
      refine r_iload (pc' := 52) (kX11_leaksFrom_0 28 rfl) rfl rfl ?_
      refine r_iconst 4 (pc' := 53) (kX11_leaksFrom_0 29 rfl) rfl (by unfold inR; omega) ?_
      have g10 := h.1
      have h := h.2
      refine r_idiv (pc' := 54) (kX11_leaksFrom_0 30 rfl) rfl ⟨by decide, g10⟩ ?_
      refine r_i2l (pc' := 55) (kX11_leaksFrom_0 31 rfl) rfl ?_
      refine r_goto (pc' := 64) (kX11_leaksFrom_0 32 rfl) rfl ?_
      refine r_lstore (L' := [(2, 198), (0, x1), (0, x2), (0, x3), (0, r1), (0, r4), (1, (Int.tdiv r1 4)), (8, 0)]) (pc' := 66) (kX11_leaksFrom_0 37 rfl) rfl (Nat.le_of_ble_eq_true rfl) rfl ?_
      refine r_lload (pc' := 68) (kX11_leaksFrom_0 38 rfl) rfl rfl ?_
      refine r_lconst 0 (pc' := 69) (kX11_leaksFrom_0 39 rfl) rfl ⟨by unfold inJ; omega, rfl⟩ ?_
      refine r_lcmp (pc' := 70) (kX11_leaksFrom_0 40 rfl) rfl ?_
      refine r_if_ge (t := 77) (pc' := 73) (kX11_leaksFrom_0 41 rfl) rfl rfl (fun c11 => ?_) (fun c11 => ?_)
      · have h := h.1 c11
        refine r_lload (pc' := 79) (kX11_leaksFrom_0 44 rfl) rfl rfl ?_
        refine r_iload (pc' := 81) (kX11_leaksFrom_0 45 rfl) rfl rfl ?_
        refine r_i2l (pc' := 82) (kX11_leaksFrom_0 46 rfl) rfl ?_
        refine r_lcmp (pc' := 83) (kX11_leaksFrom_0 47 rfl) rfl ?_
        refine r_if_le (t := 91) (pc' := 86) (kX11_leaksFrom_0 48 rfl) rfl rfl (fun c12 => ?_) (fun c12 => ?_)
        · have h := h.1 c12
          refine r_lload (pc' := 93) (kX11_leaksFrom_0 51 rfl) rfl rfl ?_
          refine r_l2i (pc' := 94) (kX11_leaksFrom_0 52 rfl) rfl g10 ?_
          exact s_iret (kX11_leaksFrom_0 53 rfl) rfl h
        · have h := h.2 c12
          refine r_iload (pc' := 88) (kX11_leaksFrom_0 49 rfl) rfl rfl ?_
          refine r_goto (pc' := 94) (kX11_leaksFrom_0 50 rfl) rfl ?_
          exact s_iret (kX11_leaksFrom_0 53 rfl) rfl h
      · have h := h.2 c11
        refine r_iconst 0 (pc' := 74) (kX11_leaksFrom_0 42 rfl) rfl (by unfold inR; omega) ?_
        refine r_goto (pc' := 94) (kX11_leaksFrom_0 43 rfl) rfl ?_
        exact s_iret (kX11_leaksFrom_0 53 rfl) rfl h
  · have h := h.2 c3
    refine r_iload (pc' := 20) (kX11_leaksFrom_0 10 rfl) rfl rfl ?_
    refine r_goto (pc' := 28) (kX11_leaksFrom_0 11 rfl) rfl ?_
    refine r_istore (L' := [(2, 198), (0, x1), (0, x2), (0, x3), (0, r1), (0, r1), (9, 0), (9, 0)]) (pc' := 30) (kX11_leaksFrom_0 15 rfl) rfl (Nat.le_of_ble_eq_true rfl) rfl ?_
    refine r_aload_n (pc' := 31) (kX11_leaksFrom_0 16 rfl) rfl rfl ?_
    refine r_iload_n (pc' := 32) (kX11_leaksFrom_0 17 rfl) rfl rfl ?_
    refine s_put (pc' := 35) (kX11_leaksFrom_0 18 rfl) rfl fkX11_418 fnX11_50 rfl pk_int (kz198 Ln) ?_
    refine r_aload_n (pc' := 36) (kX11_leaksFrom_0 19 rfl) rfl rfl ?_
    refine r_iload_n (pc' := 37) (kX11_leaksFrom_0 20 rfl) rfl rfl ?_
    refine s_put (pc' := 40) (kX11_leaksFrom_0 21 rfl) rfl fkX11_421 fnX11_51 rfl pk_int (kz198 Ln) ?_
    refine r_aload_n (pc' := 41) (kX11_leaksFrom_0 22 rfl) rfl rfl ?_
    refine s_getr (v := 230) (pc' := 44) (kX11_leaksFrom_0 23 rfl) rfl fkX11_109 rfl rfl (kz198 Ln) rfl (by decide) ?_
    refine r_iconst 2 (pc' := 45) (kX11_leaksFrom_0 24 rfl) rfl (by unfold inR; omega) ?_
    refine s_iald (x := (α2 230 2)) (pc' := 46) (kX11_leaksFrom_0 25 rfl) rfl (kz230 Ln) ⟨by decide, by decide⟩ rfl ?_
    refine r_iconst (-1) (pc' := 47) (kX11_leaksFrom_0 26 rfl) rfl (by unfold inR; omega) ?_
    refine r_icmp_ne (t := 58) (pc' := 50) (kX11_leaksFrom_0 27 rfl) rfl rfl (fun c13 => ?_) (fun c13 => ?_)
    · have h := h.1 c13
      refine r_aload_n (pc' := 59) (kX11_leaksFrom_0 33 rfl) rfl rfl ?_
      refine r_iconst 0 (pc' := 60) (kX11_leaksFrom_0 34 rfl) rfl (by unfold inR; omega) ?_
      refine r_iload_n (pc' := 61) (kX11_leaksFrom_0 35 rfl) rfl rfl ?_
      refine s_callV (As := [(0, 0), (0, x1)]) (o := 198) (S := []) (S2 := fun z => [(1, z)]) (pc' := 64) (kX11_leaksFrom_0 36 rfl) rfl rfl nkX11_codesTell mlX11_424 imX11_codesTell rfl slX11_codesTell rfl (Nat.le_of_ble_eq_true rfl) (Nat.le_of_ble_eq_true rfl) (kz198 Ln) h (fun z => rfl) (fun r14 φ14 α14 h => ?_)
      refine r_lstore (L' := [(2, 198), (0, x1), (0, x2), (0, x3), (0, r1), (0, r1), (1, r14), (8, 0)]) (pc' := 66) (kX11_leaksFrom_0 37 rfl) rfl (Nat.le_of_ble_eq_true rfl) rfl ?_
      refine r_lload (pc' := 68) (kX11_leaksFrom_0 38 rfl) rfl rfl ?_
      refine r_lconst 0 (pc' := 69) (kX11_leaksFrom_0 39 rfl) rfl ⟨by unfold inJ; omega, rfl⟩ ?_
      refine r_lcmp (pc' := 70) (kX11_leaksFrom_0 40 rfl) rfl ?_
      refine r_if_ge (t := 77) (pc' := 73) (kX11_leaksFrom_0 41 rfl) rfl rfl (fun c15 => ?_) (fun c15 => ?_)
      · have h := h.1 c15
        refine r_lload (pc' := 79) (kX11_leaksFrom_0 44 rfl) rfl rfl ?_
        refine r_iload (pc' := 81) (kX11_leaksFrom_0 45 rfl) rfl rfl ?_
        refine r_i2l (pc' := 82) (kX11_leaksFrom_0 46 rfl) rfl ?_
        refine r_lcmp (pc' := 83) (kX11_leaksFrom_0 47 rfl) rfl ?_
        refine r_if_le (t := 91) (pc' := 86) (kX11_leaksFrom_0 48 rfl) rfl rfl (fun c16 => ?_) (fun c16 => ?_)
        · have h := h.1 c16
          refine r_lload (pc' := 93) (kX11_leaksFrom_0 51 rfl) rfl rfl ?_
          have g17 := h.1
          have h := h.2
          refine r_l2i (pc' := 94) (kX11_leaksFrom_0 52 rfl) rfl g17 ?_
          exact s_iret (kX11_leaksFrom_0 53 rfl) rfl h
        · have h := h.2 c16
          refine r_iload (pc' := 88) (kX11_leaksFrom_0 49 rfl) rfl rfl ?_
          refine r_goto (pc' := 94) (kX11_leaksFrom_0 50 rfl) rfl ?_
          exact s_iret (kX11_leaksFrom_0 53 rfl) rfl h
      · have h := h.2 c15
        refine r_iconst 0 (pc' := 74) (kX11_leaksFrom_0 42 rfl) rfl (by unfold inR; omega) ?_
        refine r_goto (pc' := 94) (kX11_leaksFrom_0 43 rfl) rfl ?_
        exact s_iret (kX11_leaksFrom_0 53 rfl) rfl h
    · have h := h.2 c13
      refine r_iload (pc' := 52) (kX11_leaksFrom_0 28 rfl) rfl rfl ?_
      refine r_iconst 4 (pc' := 53) (kX11_leaksFrom_0 29 rfl) rfl (by unfold inR; omega) ?_
      have g18 := h.1
      have h := h.2
      refine r_idiv (pc' := 54) (kX11_leaksFrom_0 30 rfl) rfl ⟨by decide, g18⟩ ?_
      refine r_i2l (pc' := 55) (kX11_leaksFrom_0 31 rfl) rfl ?_
      refine r_goto (pc' := 64) (kX11_leaksFrom_0 32 rfl) rfl ?_
      refine r_lstore (L' := [(2, 198), (0, x1), (0, x2), (0, x3), (0, r1), (0, r1), (1, (Int.tdiv r1 4)), (8, 0)]) (pc' := 66) (kX11_leaksFrom_0 37 rfl) rfl (Nat.le_of_ble_eq_true rfl) rfl ?_
      refine r_lload (pc' := 68) (kX11_leaksFrom_0 38 rfl) rfl rfl ?_
      refine r_lconst 0 (pc' := 69) (kX11_leaksFrom_0 39 rfl) rfl ⟨by unfold inJ; omega, rfl⟩ ?_
      refine r_lcmp (pc' := 70) (kX11_leaksFrom_0 40 rfl) rfl ?_
      refine r_if_ge (t := 77) (pc' := 73) (kX11_leaksFrom_0 41 rfl) rfl rfl (fun c19 => ?_) (fun c19 => ?_)
      · have h := h.1 c19
        refine r_lload (pc' := 79) (kX11_leaksFrom_0 44 rfl) rfl rfl ?_
        refine r_iload (pc' := 81) (kX11_leaksFrom_0 45 rfl) rfl rfl ?_
        refine r_i2l (pc' := 82) (kX11_leaksFrom_0 46 rfl) rfl ?_
        refine r_lcmp (pc' := 83) (kX11_leaksFrom_0 47 rfl) rfl ?_
        refine r_if_le (t := 91) (pc' := 86) (kX11_leaksFrom_0 48 rfl) rfl rfl (fun c20 => ?_) (fun c20 => ?_)
        · have h := h.1 c20
          refine r_lload (pc' := 93) (kX11_leaksFrom_0 51 rfl) rfl rfl ?_
          refine r_l2i (pc' := 94) (kX11_leaksFrom_0 52 rfl) rfl g18 ?_
          exact s_iret (kX11_leaksFrom_0 53 rfl) rfl h
        · have h := h.2 c20
          refine r_iload (pc' := 88) (kX11_leaksFrom_0 49 rfl) rfl rfl ?_
          refine r_goto (pc' := 94) (kX11_leaksFrom_0 50 rfl) rfl ?_
          exact s_iret (kX11_leaksFrom_0 53 rfl) rfl h
      · have h := h.2 c19
        refine r_iconst 0 (pc' := 74) (kX11_leaksFrom_0 42 rfl) rfl (by unfold inR; omega) ?_
        refine r_goto (pc' := 94) (kX11_leaksFrom_0 43 rfl) rfl ?_
        exact s_iret (kX11_leaksFrom_0 53 rfl) rfl h
theorem vX11_goesOver_0 {d : Nat} {φ : aF} {α : aA} {Q : Int → aF → aA → Prop} {x1 : Int} {x2 : Int} {x3 : Int} {x4 : Int} (h : inR (5 * x1) ∧ inR (2 + (5 * x1)) ∧ inR ((2 + (5 * x1)) + x3) ∧ (0 ≤ ((2 + (5 * x1)) + x3) ∧ ((2 + (5 * x1)) + x3) < (169 : Nat)) ∧ inR ((α 233 ((2 + (5 * x1)) + x3)) - x4) ∧ inR (5 * x2) ∧ inR (2 + (5 * x2)) ∧ inR ((2 + (5 * x2)) + x3) ∧ (0 ≤ ((2 + (5 * x2)) + x3) ∧ ((2 + (5 * x2)) + x3) < (169 : Nat)) ∧ inR (((upa α 233 ((2 + (5 * x1)) + x3) ((α 233 ((2 + (5 * x1)) + x3)) - x4)) 233 ((2 + (5 * x2)) + x3)) + x4) ∧ inR ((φ 11 53 198) + x4) ∧ (Q 0 (upf φ 11 53 198 ((φ 11 53 198) + x4)) (upa (upa α 233 ((2 + (5 * x1)) + x3) ((α 233 ((2 + (5 * x1)) + x3)) - x4)) 233 ((2 + (5 * x2)) + x3) (((upa α 233 ((2 + (5 * x1)) + x3) ((α 233 ((2 + (5 * x1)) + x3)) - x4)) 233 ((2 + (5 * x2)) + x3)) + x4)))) : eX11_goesOver d x1 x2 x3 x4 φ α Q := by
  intro Ln
  refine r_aload_n (pc' := 1) (kX11_goesOver_0 0 rfl) rfl rfl ?_
  refine s_getr (v := 233) (pc' := 4) (kX11_goesOver_0 1 rfl) rfl fkX11_118 rfl rfl (kz198 Ln) rfl (by decide) ?_
  refine r_iconst 2 (pc' := 5) (kX11_goesOver_0 2 rfl) rfl (by unfold inR; omega) ?_
  refine r_iconst 5 (pc' := 6) (kX11_goesOver_0 3 rfl) rfl (by unfold inR; omega) ?_
  refine r_iload_n (pc' := 7) (kX11_goesOver_0 4 rfl) rfl rfl ?_
  have g1 := h.1
  have h := h.2
  refine r_imul (pc' := 8) (kX11_goesOver_0 5 rfl) rfl g1 ?_
  have g2 := h.1
  have h := h.2
  refine r_iadd (pc' := 9) (kX11_goesOver_0 6 rfl) rfl g2 ?_
  refine r_iload_n (pc' := 10) (kX11_goesOver_0 7 rfl) rfl rfl ?_
  have g3 := h.1
  have h := h.2
  refine r_iadd (pc' := 11) (kX11_goesOver_0 8 rfl) rfl g3 ?_
  refine r_dup2 (pc' := 12) (kX11_goesOver_0 9 rfl) rfl rfl rfl ?_
  have g4 := h.1
  have h := h.2
  refine s_iald (x := (α 233 ((2 + (5 * x1)) + x3))) (pc' := 13) (kX11_goesOver_0 10 rfl) rfl (kz233 Ln) g4 rfl ?_
  refine r_iload (pc' := 15) (kX11_goesOver_0 11 rfl) rfl rfl ?_
  have g5 := h.1
  have h := h.2
  refine r_isub (pc' := 16) (kX11_goesOver_0 12 rfl) rfl g5 ?_
  refine s_iast (pc' := 17) (kX11_goesOver_0 13 rfl) rfl (kz233 Ln) g4 ?_
  refine r_aload_n (pc' := 18) (kX11_goesOver_0 14 rfl) rfl rfl ?_
  refine s_getr (v := 233) (pc' := 21) (kX11_goesOver_0 15 rfl) rfl fkX11_118 rfl rfl (kz198 Ln) rfl (by decide) ?_
  refine r_iconst 2 (pc' := 22) (kX11_goesOver_0 16 rfl) rfl (by unfold inR; omega) ?_
  refine r_iconst 5 (pc' := 23) (kX11_goesOver_0 17 rfl) rfl (by unfold inR; omega) ?_
  refine r_iload_n (pc' := 24) (kX11_goesOver_0 18 rfl) rfl rfl ?_
  have g6 := h.1
  have h := h.2
  refine r_imul (pc' := 25) (kX11_goesOver_0 19 rfl) rfl g6 ?_
  have g7 := h.1
  have h := h.2
  refine r_iadd (pc' := 26) (kX11_goesOver_0 20 rfl) rfl g7 ?_
  refine r_iload_n (pc' := 27) (kX11_goesOver_0 21 rfl) rfl rfl ?_
  have g8 := h.1
  have h := h.2
  refine r_iadd (pc' := 28) (kX11_goesOver_0 22 rfl) rfl g8 ?_
  refine r_dup2 (pc' := 29) (kX11_goesOver_0 23 rfl) rfl rfl rfl ?_
  have g9 := h.1
  have h := h.2
  refine s_iald (x := ((upa α 233 ((2 + (5 * x1)) + x3) ((α 233 ((2 + (5 * x1)) + x3)) - x4)) 233 ((2 + (5 * x2)) + x3))) (pc' := 30) (kX11_goesOver_0 24 rfl) rfl (kz233 Ln) g9 rfl ?_
  refine r_iload (pc' := 32) (kX11_goesOver_0 25 rfl) rfl rfl ?_
  have g10 := h.1
  have h := h.2
  refine r_iadd (pc' := 33) (kX11_goesOver_0 26 rfl) rfl g10 ?_
  refine s_iast (pc' := 34) (kX11_goesOver_0 27 rfl) rfl (kz233 Ln) g9 ?_
  refine r_aload_n (pc' := 35) (kX11_goesOver_0 28 rfl) rfl rfl ?_
  refine r_dup (pc' := 36) (kX11_goesOver_0 29 rfl) rfl rfl ?_
  refine s_get (x := (φ 11 53 198)) (pc' := 39) (kX11_goesOver_0 30 rfl) rfl fkX11_427 rfl rfl rfl (kz198 Ln) rfl ?_
  refine r_iload (pc' := 41) (kX11_goesOver_0 31 rfl) rfl rfl ?_
  have g11 := h.1
  have h := h.2
  refine r_iadd (pc' := 42) (kX11_goesOver_0 32 rfl) rfl g11 ?_
  refine s_put (pc' := 45) (kX11_goesOver_0 33 rfl) rfl fkX11_427 fnX11_53 rfl pk_int (kz198 Ln) ?_
  exact s_vret (kX11_goesOver_0 34 rfl) rfl h
abbrev jX11_fullMany_4 (d : Nat) (x1 x2 : Int) (φ : aF) (α : aA) (Q : Int → aF → aA → Prop) : Prop := R0 d mX11_fullMany 4 [(2, 198), (0, x1), (0, x2)] [] φ α Q
theorem vX11_fullMany_0 {d : Nat} {φ : aF} {α : aA} {Q : Int → aF → aA → Prop} (h : (jX11_fullMany_4 (d + 1) 0 0 φ α Q)) : eX11_fullMany (d + 1)  φ α Q := by
  intro Ln
  refine r_iconst 0 (pc' := 1) (kX11_fullMany_0 0 rfl) rfl (by unfold inR; omega) ?_
  refine r_istore_n (L' := [(2, 198), (0, 0), (9, 0)]) (pc' := 2) (kX11_fullMany_0 1 rfl) rfl (Nat.le_of_ble_eq_true rfl) rfl ?_
  refine r_iconst 0 (pc' := 3) (kX11_fullMany_0 2 rfl) rfl (by unfold inR; omega) ?_
  refine r_istore_n (L' := [(2, 198), (0, 0), (0, 0)]) (pc' := 4) (kX11_fullMany_0 3 rfl) rfl (Nat.le_of_ble_eq_true rfl) rfl ?_
  exact r_weak (L' := [(2, 198), (0, 0), (0, 0)]) ⟨Or.inl rfl, Or.inl rfl, Or.inl rfl, trivial⟩ (h Ln)
theorem vX11_fullMany_4 {d : Nat} {φ : aF} {α : aA} {Q : Int → aF → aA → Prop} {x1 : Int} {x2 : Int} (h : (eX11_clerkMany d  φ α (fun r1 φ1 α1 =>
   ((r1 ≤ x2 →
   (Q x1 φ1 α1)) ∧
   (¬ (r1 ≤ x2) →
   (eX11_spaceOf d x2 φ1 α1 (fun r3 φ3 α3 =>
     ((¬ r3 = 0 →
     inR (x2 + 1) ∧ (jX11_fullMany_4 (d + 1) x1 (x2 + 1) φ3 α3 Q)) ∧
     (r3 = 0 →
     inR (x1 + 1) ∧ inR (x2 + 1) ∧ (jX11_fullMany_4 (d + 1) (x1 + 1) (x2 + 1) φ3 α3 Q)))))))))) : jX11_fullMany_4 (d + 1) x1 x2 φ α Q := by
  intro Ln
  refine r_iload_n (pc' := 5) (kX11_fullMany_0 4 rfl) rfl rfl ?_
  refine r_aload_n (pc' := 6) (kX11_fullMany_0 5 rfl) rfl rfl ?_
  refine s_callV (As := []) (o := 198) (S := [(0, x2)]) (S2 := fun z => [(0, z), (0, x2)]) (pc' := 9) (kX11_fullMany_0 6 rfl) rfl rfl nkX11_clerkMany mlX11_376 imX11_clerkMany rfl slX11_clerkMany rfl (Nat.le_of_ble_eq_true rfl) (Nat.le_of_ble_eq_true rfl) (kz198 Ln) h (fun z => rfl) (fun r1 φ1 α1 h => ?_)
  refine r_icmp_ge (t := 29) (pc' := 12) (kX11_fullMany_0 7 rfl) rfl rfl (fun c2 => ?_) (fun c2 => ?_)
  · have h := h.1 c2
    refine r_iload_n (pc' := 30) (kX11_fullMany_0 15 rfl) rfl rfl ?_
    exact s_iret (kX11_fullMany_0 16 rfl) rfl h
  · have h := h.2 c2
    refine r_aload_n (pc' := 13) (kX11_fullMany_0 8 rfl) rfl rfl ?_
    refine r_iload_n (pc' := 14) (kX11_fullMany_0 9 rfl) rfl rfl ?_
    refine s_callV (As := [(0, x2)]) (o := 198) (S := []) (S2 := fun z => [(0, z)]) (pc' := 17) (kX11_fullMany_0 10 rfl) rfl rfl nkX11_spaceOf mlX11_415 imX11_spaceOf rfl slX11_spaceOf rfl (Nat.le_of_ble_eq_true rfl) (Nat.le_of_ble_eq_true rfl) (kz198 Ln) h (fun z => rfl) (fun r3 φ3 α3 h => ?_)
    refine r_if_ne (t := 23) (pc' := 20) (kX11_fullMany_0 11 rfl) rfl rfl (fun c4 => ?_) (fun c4 => ?_)
    · have h := h.1 c4
      have g5 := h.1
      have h := h.2
      refine r_iinc (L' := [(2, 198), (0, x1), (0, (x2 + 1))]) (pc' := 26) (kX11_fullMany_0 13 rfl) rfl (Nat.le_of_ble_eq_true rfl) rfl g5 rfl ?_
      refine r_goto (pc' := 4) (kX11_fullMany_0 14 rfl) rfl ?_
      exact r_weak (L' := [(2, 198), (0, x1), (0, (x2 + 1))]) ⟨Or.inl rfl, Or.inl rfl, Or.inl rfl, trivial⟩ (h Ln)
    · have h := h.2 c4
      have g6 := h.1
      have h := h.2
      refine r_iinc (L' := [(2, 198), (0, (x1 + 1)), (0, x2)]) (pc' := 23) (kX11_fullMany_0 12 rfl) rfl (Nat.le_of_ble_eq_true rfl) rfl g6 rfl ?_
      have g7 := h.1
      have h := h.2
      refine r_iinc (L' := [(2, 198), (0, (x1 + 1)), (0, (x2 + 1))]) (pc' := 26) (kX11_fullMany_0 13 rfl) rfl (Nat.le_of_ble_eq_true rfl) rfl g7 rfl ?_
      refine r_goto (pc' := 4) (kX11_fullMany_0 14 rfl) rfl ?_
      exact r_weak (L' := [(2, 198), (0, (x1 + 1)), (0, (x2 + 1))]) ⟨Or.inl rfl, Or.inl rfl, Or.inl rfl, trivial⟩ (h Ln)
abbrev jX11_isKept_23 (d : Nat) (x1 x2 : Int) (φ : aF) (α : aA) (Q : Int → aF → aA → Prop) : Prop := R0 d mX11_isKept 23 [(2, 198), (0, x1), (0, x2)] [] φ α Q
theorem vX11_isKept_0 {d : Nat} {φ : aF} {α : aA} {Q : Int → aF → aA → Prop} {x1 : Int} (h : (((φ 11 52 198) = 0 →
   ((¬ (α 233 48) = 40 →
     inR ((α 233 48) + 1) ∧ inR (3 * ((α 233 48) + 1)) ∧ inR (49 + (3 * ((α 233 48) + 1))) ∧ inR ((49 + (3 * ((α 233 48) + 1))) - 3) ∧ (0 ≤ ((49 + (3 * ((α 233 48) + 1))) - 3) ∧ ((49 + (3 * ((α 233 48) + 1))) - 3) < (169 : Nat)) ∧ inR (((49 + (3 * ((α 233 48) + 1))) - 3) + 1) ∧ (0 ≤ (((49 + (3 * ((α 233 48) + 1))) - 3) + 1) ∧ (((49 + (3 * ((α 233 48) + 1))) - 3) + 1) < (169 : Nat)) ∧ inR (((49 + (3 * ((α 233 48) + 1))) - 3) + 2) ∧ (eX11_fullMany d  φ (upa (upa (upa α 233 48 ((α 233 48) + 1)) 233 ((49 + (3 * ((α 233 48) + 1))) - 3) (α 233 0)) 233 (((49 + (3 * ((α 233 48) + 1))) - 3) + 1) x1) (fun r11 φ11 α11 =>
       (0 ≤ (((49 + (3 * ((α 233 48) + 1))) - 3) + 2) ∧ (((49 + (3 * ((α 233 48) + 1))) - 3) + 2) < (169 : Nat)) ∧ (Q 0 φ11 (upa α11 233 (((49 + (3 * ((α 233 48) + 1))) - 3) + 2) r11))))) ∧
     ((α 233 48) = 40 →
     (jX11_isKept_23 (d + 1) x1 49 φ α Q)))) ∧
   (¬ ((φ 11 52 198) = 0) →
   (Q 0 φ α)))) : eX11_isKept (d + 1) x1 φ α Q := by
  intro Ln
  refine r_aload_n (pc' := 1) (kX11_isKept_0 0 rfl) rfl rfl ?_
  refine s_get (x := (φ 11 52 198)) (pc' := 4) (kX11_isKept_0 1 rfl) rfl fkX11_430 rfl rfl rfl (kz198 Ln) rfl ?_
  refine r_if_eq (t := 8) (pc' := 7) (kX11_isKept_0 2 rfl) rfl rfl (fun c1 => ?_) (fun c1 => ?_)
  · have h := h.1 c1
    refine r_aload_n (pc' := 9) (kX11_isKept_0 4 rfl) rfl rfl ?_
    refine s_getr (v := 233) (pc' := 12) (kX11_isKept_0 5 rfl) rfl fkX11_118 rfl rfl (kz198 Ln) rfl (by decide) ?_
    refine r_bipush 48 (pc' := 14) (kX11_isKept_0 6 rfl) rfl ⟨by unfold inR; omega, rfl⟩ ?_
    refine s_iald (x := (α 233 48)) (pc' := 15) (kX11_isKept_0 7 rfl) rfl (kz233 Ln) ⟨by decide, by decide⟩ rfl ?_
    refine r_bipush 40 (pc' := 17) (kX11_isKept_0 8 rfl) rfl ⟨by unfold inR; omega, rfl⟩ ?_
    refine r_icmp_ne (t := 53) (pc' := 20) (kX11_isKept_0 9 rfl) rfl rfl (fun c2 => ?_) (fun c2 => ?_)
    · have h := h.1 c2
      refine r_aload_n (pc' := 54) (kX11_isKept_0 28 rfl) rfl rfl ?_
      refine s_getr (v := 233) (pc' := 57) (kX11_isKept_0 29 rfl) rfl fkX11_118 rfl rfl (kz198 Ln) rfl (by decide) ?_
      refine r_bipush 48 (pc' := 59) (kX11_isKept_0 30 rfl) rfl ⟨by unfold inR; omega, rfl⟩ ?_
      refine r_dup2 (pc' := 60) (kX11_isKept_0 31 rfl) rfl rfl rfl ?_
      refine s_iald (x := (α 233 48)) (pc' := 61) (kX11_isKept_0 32 rfl) rfl (kz233 Ln) ⟨by decide, by decide⟩ rfl ?_
      refine r_iconst 1 (pc' := 62) (kX11_isKept_0 33 rfl) rfl (by unfold inR; omega) ?_
      have g3 := h.1
      have h := h.2
      refine r_iadd (pc' := 63) (kX11_isKept_0 34 rfl) rfl g3 ?_
      refine s_iast (pc' := 64) (kX11_isKept_0 35 rfl) rfl (kz233 Ln) ⟨by decide, by decide⟩ ?_
      refine r_bipush 49 (pc' := 66) (kX11_isKept_0 36 rfl) rfl ⟨by unfold inR; omega, rfl⟩ ?_
      refine r_iconst 3 (pc' := 67) (kX11_isKept_0 37 rfl) rfl (by unfold inR; omega) ?_
      refine r_aload_n (pc' := 68) (kX11_isKept_0 38 rfl) rfl rfl ?_
      refine s_getr (v := 233) (pc' := 71) (kX11_isKept_0 39 rfl) rfl fkX11_118 rfl rfl (kz198 Ln) rfl (by decide) ?_
      refine r_bipush 48 (pc' := 73) (kX11_isKept_0 40 rfl) rfl ⟨by unfold inR; omega, rfl⟩ ?_
      refine s_iald (x := ((α 233 48) + 1)) (pc' := 74) (kX11_isKept_0 41 rfl) rfl (kz233 Ln) ⟨by decide, by decide⟩ (by simp [upa]) ?_
      have g4 := h.1
      have h := h.2
      refine r_imul (pc' := 75) (kX11_isKept_0 42 rfl) rfl g4 ?_
      have g5 := h.1
      have h := h.2
      refine r_iadd (pc' := 76) (kX11_isKept_0 43 rfl) rfl g5 ?_
      refine r_iconst 3 (pc' := 77) (kX11_isKept_0 44 rfl) rfl (by unfold inR; omega) ?_
      have g6 := h.1
      have h := h.2
      refine r_isub (pc' := 78) (kX11_isKept_0 45 rfl) rfl g6 ?_
      refine r_istore_n (L' := [(2, 198), (0, x1), (0, ((49 + (3 * ((α 233 48) + 1))) - 3))]) (pc' := 79) (kX11_isKept_0 46 rfl) rfl (Nat.le_of_ble_eq_true rfl) rfl ?_
      refine r_aload_n (pc' := 80) (kX11_isKept_0 47 rfl) rfl rfl ?_
      refine s_getr (v := 233) (pc' := 83) (kX11_isKept_0 48 rfl) rfl fkX11_118 rfl rfl (kz198 Ln) rfl (by decide) ?_
      refine r_iload_n (pc' := 84) (kX11_isKept_0 49 rfl) rfl rfl ?_
      refine r_aload_n (pc' := 85) (kX11_isKept_0 50 rfl) rfl rfl ?_
      refine s_getr (v := 233) (pc' := 88) (kX11_isKept_0 51 rfl) rfl fkX11_118 rfl rfl (kz198 Ln) rfl (by decide) ?_
      refine r_iconst 0 (pc' := 89) (kX11_isKept_0 52 rfl) rfl (by unfold inR; omega) ?_
      refine s_iald (x := (α 233 0)) (pc' := 90) (kX11_isKept_0 53 rfl) rfl (kz233 Ln) ⟨by decide, by decide⟩ rfl ?_
      have g7 := h.1
      have h := h.2
      refine s_iast (pc' := 91) (kX11_isKept_0 54 rfl) rfl (kz233 Ln) g7 ?_
      refine r_aload_n (pc' := 92) (kX11_isKept_0 55 rfl) rfl rfl ?_
      refine s_getr (v := 233) (pc' := 95) (kX11_isKept_0 56 rfl) rfl fkX11_118 rfl rfl (kz198 Ln) rfl (by decide) ?_
      refine r_iload_n (pc' := 96) (kX11_isKept_0 57 rfl) rfl rfl ?_
      refine r_iconst 1 (pc' := 97) (kX11_isKept_0 58 rfl) rfl (by unfold inR; omega) ?_
      have g8 := h.1
      have h := h.2
      refine r_iadd (pc' := 98) (kX11_isKept_0 59 rfl) rfl g8 ?_
      refine r_iload_n (pc' := 99) (kX11_isKept_1 0 rfl) rfl rfl ?_
      have g9 := h.1
      have h := h.2
      refine s_iast (pc' := 100) (kX11_isKept_1 1 rfl) rfl (kz233 Ln) g9 ?_
      refine r_aload_n (pc' := 101) (kX11_isKept_1 2 rfl) rfl rfl ?_
      refine s_getr (v := 233) (pc' := 104) (kX11_isKept_1 3 rfl) rfl fkX11_118 rfl rfl (kz198 Ln) rfl (by decide) ?_
      refine r_iload_n (pc' := 105) (kX11_isKept_1 4 rfl) rfl rfl ?_
      refine r_iconst 2 (pc' := 106) (kX11_isKept_1 5 rfl) rfl (by unfold inR; omega) ?_
      have g10 := h.1
      have h := h.2
      refine r_iadd (pc' := 107) (kX11_isKept_1 6 rfl) rfl g10 ?_
      refine r_aload_n (pc' := 108) (kX11_isKept_1 7 rfl) rfl rfl ?_
      refine s_callV (As := []) (o := 198) (S := [(0, (((49 + (3 * ((α 233 48) + 1))) - 3) + 2)), (2, 233)]) (S2 := fun z => [(0, z), (0, (((49 + (3 * ((α 233 48) + 1))) - 3) + 2)), (2, 233)]) (pc' := 111) (kX11_isKept_1 8 rfl) rfl rfl nkX11_fullMany mlX11_433 imX11_fullMany rfl slX11_fullMany rfl (Nat.le_of_ble_eq_true rfl) (Nat.le_of_ble_eq_true rfl) (kz198 Ln) h (fun z => rfl) (fun r11 φ11 α11 h => ?_)
      have g12 := h.1
      have h := h.2
      refine s_iast (pc' := 112) (kX11_isKept_1 9 rfl) rfl (kz233 Ln) g12 ?_
      exact s_vret (kX11_isKept_1 10 rfl) rfl h
    · have h := h.2 c2
      refine r_bipush 49 (pc' := 22) (kX11_isKept_0 10 rfl) rfl ⟨by unfold inR; omega, rfl⟩ ?_
      refine r_istore_n (L' := [(2, 198), (0, x1), (0, 49)]) (pc' := 23) (kX11_isKept_0 11 rfl) rfl (Nat.le_of_ble_eq_true rfl) rfl ?_
      exact r_weak (L' := [(2, 198), (0, x1), (0, 49)]) ⟨Or.inl rfl, Or.inl rfl, Or.inl rfl, trivial⟩ (h Ln)
  · have h := h.2 c1
    exact s_vret (kX11_isKept_0 3 rfl) rfl h
theorem vX11_isKept_23 {d : Nat} {φ : aF} {α : aA} {Q : Int → aF → aA → Prop} {x1 : Int} {x2 : Int} (h : ((166 ≤ x2 →
   inR (3 * (α 233 48)) ∧ inR (49 + (3 * (α 233 48))) ∧ inR ((49 + (3 * (α 233 48))) - 3) ∧ (0 ≤ ((49 + (3 * (α 233 48))) - 3) ∧ ((49 + (3 * (α 233 48))) - 3) < (169 : Nat)) ∧ inR (((49 + (3 * (α 233 48))) - 3) + 1) ∧ (0 ≤ (((49 + (3 * (α 233 48))) - 3) + 1) ∧ (((49 + (3 * (α 233 48))) - 3) + 1) < (169 : Nat)) ∧ inR (((49 + (3 * (α 233 48))) - 3) + 2) ∧ (eX11_fullMany d  φ (upa (upa α 233 ((49 + (3 * (α 233 48))) - 3) (α 233 0)) 233 (((49 + (3 * (α 233 48))) - 3) + 1) x1) (fun r9 φ9 α9 =>
     (0 ≤ (((49 + (3 * (α 233 48))) - 3) + 2) ∧ (((49 + (3 * (α 233 48))) - 3) + 2) < (169 : Nat)) ∧ (Q 0 φ9 (upa α9 233 (((49 + (3 * (α 233 48))) - 3) + 2) r9))))) ∧
   (¬ (166 ≤ x2) →
   inR (x2 + 3) ∧ (0 ≤ (x2 + 3) ∧ (x2 + 3) < (169 : Nat)) ∧ (0 ≤ x2 ∧ x2 < (169 : Nat)) ∧ inR (x2 + 1) ∧ (jX11_isKept_23 (d + 1) x1 (x2 + 1) φ (upa α 233 x2 (α 233 (x2 + 3))) Q)))) : jX11_isKept_23 (d + 1) x1 x2 φ α Q := by
  intro Ln
  refine r_iload_n (pc' := 24) (kX11_isKept_0 12 rfl) rfl rfl ?_
  refine r_sipush 166 (pc' := 27) (kX11_isKept_0 13 rfl) rfl ⟨by unfold inR; omega, rfl⟩ ?_
  refine r_icmp_ge (t := 50) (pc' := 30) (kX11_isKept_0 14 rfl) rfl rfl (fun c1 => ?_) (fun c1 => ?_)
  · have h := h.1 c1
    refine r_goto (pc' := 64) (kX11_isKept_0 27 rfl) rfl ?_
    refine r_bipush 49 (pc' := 66) (kX11_isKept_0 36 rfl) rfl ⟨by unfold inR; omega, rfl⟩ ?_
    refine r_iconst 3 (pc' := 67) (kX11_isKept_0 37 rfl) rfl (by unfold inR; omega) ?_
    refine r_aload_n (pc' := 68) (kX11_isKept_0 38 rfl) rfl rfl ?_
    refine s_getr (v := 233) (pc' := 71) (kX11_isKept_0 39 rfl) rfl fkX11_118 rfl rfl (kz198 Ln) rfl (by decide) ?_
    refine r_bipush 48 (pc' := 73) (kX11_isKept_0 40 rfl) rfl ⟨by unfold inR; omega, rfl⟩ ?_
    refine s_iald (x := (α 233 48)) (pc' := 74) (kX11_isKept_0 41 rfl) rfl (kz233 Ln) ⟨by decide, by decide⟩ rfl ?_
    have g2 := h.1
    have h := h.2
    refine r_imul (pc' := 75) (kX11_isKept_0 42 rfl) rfl g2 ?_
    have g3 := h.1
    have h := h.2
    refine r_iadd (pc' := 76) (kX11_isKept_0 43 rfl) rfl g3 ?_
    refine r_iconst 3 (pc' := 77) (kX11_isKept_0 44 rfl) rfl (by unfold inR; omega) ?_
    have g4 := h.1
    have h := h.2
    refine r_isub (pc' := 78) (kX11_isKept_0 45 rfl) rfl g4 ?_
    refine r_istore_n (L' := [(2, 198), (0, x1), (0, ((49 + (3 * (α 233 48))) - 3))]) (pc' := 79) (kX11_isKept_0 46 rfl) rfl (Nat.le_of_ble_eq_true rfl) rfl ?_
    refine r_aload_n (pc' := 80) (kX11_isKept_0 47 rfl) rfl rfl ?_
    refine s_getr (v := 233) (pc' := 83) (kX11_isKept_0 48 rfl) rfl fkX11_118 rfl rfl (kz198 Ln) rfl (by decide) ?_
    refine r_iload_n (pc' := 84) (kX11_isKept_0 49 rfl) rfl rfl ?_
    refine r_aload_n (pc' := 85) (kX11_isKept_0 50 rfl) rfl rfl ?_
    refine s_getr (v := 233) (pc' := 88) (kX11_isKept_0 51 rfl) rfl fkX11_118 rfl rfl (kz198 Ln) rfl (by decide) ?_
    refine r_iconst 0 (pc' := 89) (kX11_isKept_0 52 rfl) rfl (by unfold inR; omega) ?_
    refine s_iald (x := (α 233 0)) (pc' := 90) (kX11_isKept_0 53 rfl) rfl (kz233 Ln) ⟨by decide, by decide⟩ rfl ?_
    have g5 := h.1
    have h := h.2
    refine s_iast (pc' := 91) (kX11_isKept_0 54 rfl) rfl (kz233 Ln) g5 ?_
    refine r_aload_n (pc' := 92) (kX11_isKept_0 55 rfl) rfl rfl ?_
    refine s_getr (v := 233) (pc' := 95) (kX11_isKept_0 56 rfl) rfl fkX11_118 rfl rfl (kz198 Ln) rfl (by decide) ?_
    refine r_iload_n (pc' := 96) (kX11_isKept_0 57 rfl) rfl rfl ?_
    refine r_iconst 1 (pc' := 97) (kX11_isKept_0 58 rfl) rfl (by unfold inR; omega) ?_
    have g6 := h.1
    have h := h.2
    refine r_iadd (pc' := 98) (kX11_isKept_0 59 rfl) rfl g6 ?_
    refine r_iload_n (pc' := 99) (kX11_isKept_1 0 rfl) rfl rfl ?_
    have g7 := h.1
    have h := h.2
    refine s_iast (pc' := 100) (kX11_isKept_1 1 rfl) rfl (kz233 Ln) g7 ?_
    refine r_aload_n (pc' := 101) (kX11_isKept_1 2 rfl) rfl rfl ?_
    refine s_getr (v := 233) (pc' := 104) (kX11_isKept_1 3 rfl) rfl fkX11_118 rfl rfl (kz198 Ln) rfl (by decide) ?_
    refine r_iload_n (pc' := 105) (kX11_isKept_1 4 rfl) rfl rfl ?_
    refine r_iconst 2 (pc' := 106) (kX11_isKept_1 5 rfl) rfl (by unfold inR; omega) ?_
    have g8 := h.1
    have h := h.2
    refine r_iadd (pc' := 107) (kX11_isKept_1 6 rfl) rfl g8 ?_
    refine r_aload_n (pc' := 108) (kX11_isKept_1 7 rfl) rfl rfl ?_
    refine s_callV (As := []) (o := 198) (S := [(0, (((49 + (3 * (α 233 48))) - 3) + 2)), (2, 233)]) (S2 := fun z => [(0, z), (0, (((49 + (3 * (α 233 48))) - 3) + 2)), (2, 233)]) (pc' := 111) (kX11_isKept_1 8 rfl) rfl rfl nkX11_fullMany mlX11_433 imX11_fullMany rfl slX11_fullMany rfl (Nat.le_of_ble_eq_true rfl) (Nat.le_of_ble_eq_true rfl) (kz198 Ln) h (fun z => rfl) (fun r9 φ9 α9 h => ?_)
    have g10 := h.1
    have h := h.2
    refine s_iast (pc' := 112) (kX11_isKept_1 9 rfl) rfl (kz233 Ln) g10 ?_
    exact s_vret (kX11_isKept_1 10 rfl) rfl h
  · have h := h.2 c1
    refine r_aload_n (pc' := 31) (kX11_isKept_0 15 rfl) rfl rfl ?_
    refine s_getr (v := 233) (pc' := 34) (kX11_isKept_0 16 rfl) rfl fkX11_118 rfl rfl (kz198 Ln) rfl (by decide) ?_
    refine r_iload_n (pc' := 35) (kX11_isKept_0 17 rfl) rfl rfl ?_
    refine r_aload_n (pc' := 36) (kX11_isKept_0 18 rfl) rfl rfl ?_
    refine s_getr (v := 233) (pc' := 39) (kX11_isKept_0 19 rfl) rfl fkX11_118 rfl rfl (kz198 Ln) rfl (by decide) ?_
    refine r_iload_n (pc' := 40) (kX11_isKept_0 20 rfl) rfl rfl ?_
    refine r_iconst 3 (pc' := 41) (kX11_isKept_0 21 rfl) rfl (by unfold inR; omega) ?_
    have g11 := h.1
    have h := h.2
    refine r_iadd (pc' := 42) (kX11_isKept_0 22 rfl) rfl g11 ?_
    have g12 := h.1
    have h := h.2
    refine s_iald (x := (α 233 (x2 + 3))) (pc' := 43) (kX11_isKept_0 23 rfl) rfl (kz233 Ln) g12 rfl ?_
    have g13 := h.1
    have h := h.2
    refine s_iast (pc' := 44) (kX11_isKept_0 24 rfl) rfl (kz233 Ln) g13 ?_
    have g14 := h.1
    have h := h.2
    refine r_iinc (L' := [(2, 198), (0, x1), (0, (x2 + 1))]) (pc' := 47) (kX11_isKept_0 25 rfl) rfl (Nat.le_of_ble_eq_true rfl) rfl g14 rfl ?_
    refine r_goto (pc' := 23) (kX11_isKept_0 26 rfl) rfl ?_
    exact r_weak (L' := [(2, 198), (0, x1), (0, (x2 + 1))]) ⟨Or.inl rfl, Or.inl rfl, Or.inl rfl, trivial⟩ (h Ln)
abbrev jX11_dayGoes_7 (d : Nat) (x1 x2 x3 : Int) (φ : aF) (α : aA) (Q : Int → aF → aA → Prop) : Prop := R0 d mX11_dayGoes 7 [(2, 198), (0, x1), (0, x2), (0, x3), (9, 0), (9, 0), (9, 0), (9, 0)] [] φ α Q
theorem vX11_dayGoes_0 {d : Nat} {φ : aF} {α : aA} {Q : Int → aF → aA → Prop} {x1 : Int} (h : (jX11_dayGoes_7 (d + 1) x1 (φ 11 53 198) 0 φ α Q)) : eX11_dayGoes (d + 1) x1 φ α Q := by
  intro Ln
  refine r_aload_n (pc' := 1) (kX11_dayGoes_0 0 rfl) rfl rfl ?_
  refine s_get (x := (φ 11 53 198)) (pc' := 4) (kX11_dayGoes_0 1 rfl) rfl fkX11_427 rfl rfl rfl (kz198 Ln) rfl ?_
  refine r_istore_n (L' := [(2, 198), (0, x1), (0, (φ 11 53 198)), (9, 0), (9, 0), (9, 0), (9, 0), (9, 0)]) (pc' := 5) (kX11_dayGoes_0 2 rfl) rfl (Nat.le_of_ble_eq_true rfl) rfl ?_
  refine r_iconst 0 (pc' := 6) (kX11_dayGoes_0 3 rfl) rfl (by unfold inR; omega) ?_
  refine r_istore_n (L' := [(2, 198), (0, x1), (0, (φ 11 53 198)), (0, 0), (9, 0), (9, 0), (9, 0), (9, 0)]) (pc' := 7) (kX11_dayGoes_0 4 rfl) rfl (Nat.le_of_ble_eq_true rfl) rfl ?_
  exact r_weak (L' := [(2, 198), (0, x1), (0, (φ 11 53 198)), (0, 0), (9, 0), (9, 0), (9, 0), (9, 0)]) ⟨Or.inl rfl, Or.inl rfl, Or.inl rfl, Or.inl rfl, Or.inr (by decide), Or.inr (by decide), Or.inr (by decide), Or.inr (by decide), trivial⟩ (h Ln)
abbrev jX11_dayGoes_36 (d : Nat) (x1 x2 x3 x4 x5 : Int) (φ : aF) (α : aA) (Q : Int → aF → aA → Prop) : Prop := R0 d mX11_dayGoes 36 [(2, 198), (0, x1), (0, x2), (0, x3), (0, x4), (0, x5), (9, 0), (9, 0)] [] φ α Q
theorem vX11_dayGoes_7 {d : Nat} {φ : aF} {α : aA} {Q : Int → aF → aA → Prop} {x1 : Int} {x2 : Int} {x3 : Int} (h : (((α 225 2) ≤ x3 →
   inR ((φ 11 53 198) - x2) ∧ inR (((φ 11 53 198) - x2) + x1) ∧ (eX11_isKept d (((φ 11 53 198) - x2) + x1) φ α (fun r4 φ4 α4 =>
     inR ((α4 233 0) + 1) ∧ (Q 0 φ4 (upa α4 233 0 ((α4 233 0) + 1)))))) ∧
   (¬ ((α 225 2) ≤ x3) →
   (eX11_sitterOf d x3 φ α (fun r6 φ6 α6 =>
     ((¬ r6 = (-1) →
     (jX11_dayGoes_36 (d + 1) x1 x2 x3 r6 (-1) φ6 α6 Q)) ∧
     (r6 = (-1) →
     inR (x3 + 1) ∧ (jX11_dayGoes_7 (d + 1) x1 x2 (x3 + 1) φ6 α6 Q)))))))) : jX11_dayGoes_7 (d + 1) x1 x2 x3 φ α Q := by
  intro Ln
  refine r_iload_n (pc' := 8) (kX11_dayGoes_0 5 rfl) rfl rfl ?_
  refine r_aload_n (pc' := 9) (kX11_dayGoes_0 6 rfl) rfl rfl ?_
  refine s_getr (v := 225) (pc' := 12) (kX11_dayGoes_0 7 rfl) rfl fkX11_93 rfl rfl (kz198 Ln) rfl (by decide) ?_
  refine r_iconst 2 (pc' := 13) (kX11_dayGoes_0 8 rfl) rfl (by unfold inR; omega) ?_
  refine s_iald (x := (α 225 2)) (pc' := 14) (kX11_dayGoes_0 9 rfl) rfl (kz225 Ln) ⟨by decide, by decide⟩ rfl ?_
  refine r_icmp_ge (t := 111) (pc' := 17) (kX11_dayGoes_0 10 rfl) rfl rfl (fun c1 => ?_) (fun c1 => ?_)
  · have h := h.1 c1
    refine r_aload_n (pc' := 112) (kX11_dayGoes_0 56 rfl) rfl rfl ?_
    refine r_aload_n (pc' := 113) (kX11_dayGoes_0 57 rfl) rfl rfl ?_
    refine s_get (x := (φ 11 53 198)) (pc' := 116) (kX11_dayGoes_0 58 rfl) rfl fkX11_427 rfl rfl rfl (kz198 Ln) rfl ?_
    refine r_iload_n (pc' := 117) (kX11_dayGoes_0 59 rfl) rfl rfl ?_
    have g2 := h.1
    have h := h.2
    refine r_isub (pc' := 118) (kX11_dayGoes_1 0 rfl) rfl g2 ?_
    refine r_iload_n (pc' := 119) (kX11_dayGoes_1 1 rfl) rfl rfl ?_
    have g3 := h.1
    have h := h.2
    refine r_iadd (pc' := 120) (kX11_dayGoes_1 2 rfl) rfl g3 ?_
    refine s_callV (As := [(0, (((φ 11 53 198) - x2) + x1))]) (o := 198) (S := []) (S2 := fun z => []) (pc' := 123) (kX11_dayGoes_1 3 rfl) rfl rfl nkX11_isKept mlX11_447 imX11_isKept rfl slX11_isKept rfl (Nat.le_of_ble_eq_true rfl) (Nat.le_of_ble_eq_true rfl) (kz198 Ln) h (fun z => rfl) (fun r4 φ4 α4 h => ?_)
    refine r_aload_n (pc' := 124) (kX11_dayGoes_1 4 rfl) rfl rfl ?_
    refine s_getr (v := 233) (pc' := 127) (kX11_dayGoes_1 5 rfl) rfl fkX11_118 rfl rfl (kz198 Ln) rfl (by decide) ?_
    refine r_iconst 0 (pc' := 128) (kX11_dayGoes_1 6 rfl) rfl (by unfold inR; omega) ?_
    refine r_dup2 (pc' := 129) (kX11_dayGoes_1 7 rfl) rfl rfl rfl ?_
    refine s_iald (x := (α4 233 0)) (pc' := 130) (kX11_dayGoes_1 8 rfl) rfl (kz233 Ln) ⟨by decide, by decide⟩ rfl ?_
    refine r_iconst 1 (pc' := 131) (kX11_dayGoes_1 9 rfl) rfl (by unfold inR; omega) ?_
    have g5 := h.1
    have h := h.2
    refine r_iadd (pc' := 132) (kX11_dayGoes_1 10 rfl) rfl g5 ?_
    refine s_iast (pc' := 133) (kX11_dayGoes_1 11 rfl) rfl (kz233 Ln) ⟨by decide, by decide⟩ ?_
    exact s_vret (kX11_dayGoes_1 12 rfl) rfl h
  · have h := h.2 c1
    refine r_aload_n (pc' := 18) (kX11_dayGoes_0 11 rfl) rfl rfl ?_
    refine r_iload_n (pc' := 19) (kX11_dayGoes_0 12 rfl) rfl rfl ?_
    refine s_callV (As := [(0, x3)]) (o := 198) (S := []) (S2 := fun z => [(0, z)]) (pc' := 22) (kX11_dayGoes_0 13 rfl) rfl rfl nkX11_sitterOf mlX11_436 imX11_sitterOf rfl slX11_sitterOf rfl (Nat.le_of_ble_eq_true rfl) (Nat.le_of_ble_eq_true rfl) (kz198 Ln) h (fun z => rfl) (fun r6 φ6 α6 h => ?_)
    refine r_istore (L' := [(2, 198), (0, x1), (0, x2), (0, x3), (0, r6), (9, 0), (9, 0), (9, 0)]) (pc' := 24) (kX11_dayGoes_0 14 rfl) rfl (Nat.le_of_ble_eq_true rfl) rfl ?_
    refine r_iload (pc' := 26) (kX11_dayGoes_0 15 rfl) rfl rfl ?_
    refine r_iconst (-1) (pc' := 27) (kX11_dayGoes_0 16 rfl) rfl (by unfold inR; omega) ?_
    refine r_icmp_ne (t := 33) (pc' := 30) (kX11_dayGoes_0 17 rfl) rfl rfl (fun c7 => ?_) (fun c7 => ?_)
    · have h := h.1 c7
      refine r_iconst (-1) (pc' := 34) (kX11_dayGoes_0 19 rfl) rfl (by unfold inR; omega) ?_
      refine r_istore (L' := [(2, 198), (0, x1), (0, x2), (0, x3), (0, r6), (0, (-1)), (9, 0), (9, 0)]) (pc' := 36) (kX11_dayGoes_0 20 rfl) rfl (Nat.le_of_ble_eq_true rfl) rfl ?_
      exact r_weak (L' := [(2, 198), (0, x1), (0, x2), (0, x3), (0, r6), (0, (-1)), (9, 0), (9, 0)]) ⟨Or.inl rfl, Or.inl rfl, Or.inl rfl, Or.inl rfl, Or.inl rfl, Or.inl rfl, Or.inr (by decide), Or.inr (by decide), trivial⟩ (h Ln)
    · have h := h.2 c7
      refine r_goto (pc' := 105) (kX11_dayGoes_0 18 rfl) rfl ?_
      have g8 := h.1
      have h := h.2
      refine r_iinc (L' := [(2, 198), (0, x1), (0, x2), (0, (x3 + 1)), (0, r6), (9, 0), (9, 0), (9, 0)]) (pc' := 108) (kX11_dayGoes_0 54 rfl) rfl (Nat.le_of_ble_eq_true rfl) rfl g8 rfl ?_
      refine r_goto (pc' := 7) (kX11_dayGoes_0 55 rfl) rfl ?_
      exact r_weak (L' := [(2, 198), (0, x1), (0, x2), (0, (x3 + 1)), (9, 0), (9, 0), (9, 0), (9, 0)]) ⟨Or.inl rfl, Or.inl rfl, Or.inl rfl, Or.inl rfl, Or.inr (by decide), Or.inr (by decide), Or.inr (by decide), Or.inr (by decide), trivial⟩ (h Ln)
abbrev jX11_dayGoes_64 (d : Nat) (x1 x2 x3 x4 x5 x6 x7 : Int) (φ : aF) (α : aA) (Q : Int → aF → aA → Prop) : Prop := R0 d mX11_dayGoes 64 [(2, 198), (0, x1), (0, x2), (0, x3), (0, x4), (0, x5), (0, x6), (0, x7)] [] φ α Q
theorem vX11_dayGoes_36 {d : Nat} {φ : aF} {α : aA} {Q : Int → aF → aA → Prop} {x1 : Int} {x2 : Int} {x3 : Int} {x4 : Int} {x5 : Int} (h : ((2 ≤ x5 →
   inR (x3 + 1) ∧ (jX11_dayGoes_7 (d + 1) x1 x2 (x3 + 1) φ α Q)) ∧
   (¬ (2 ≤ x5) →
   inR (x3 + x5) ∧ (eX11_sitterOf d (x3 + x5) φ α (fun r4 φ4 α4 =>
     ((¬ r4 = (-1) →
     (jX11_dayGoes_64 (d + 1) x1 x2 x3 x4 x5 r4 0 φ4 α4 Q)) ∧
     (r4 = (-1) →
     inR (x5 + 2) ∧ (jX11_dayGoes_36 (d + 1) x1 x2 x3 x4 (x5 + 2) φ4 α4 Q)))))))) : jX11_dayGoes_36 (d + 1) x1 x2 x3 x4 x5 φ α Q := by
  intro Ln
  refine r_iload (pc' := 38) (kX11_dayGoes_0 21 rfl) rfl rfl ?_
  refine r_iconst 2 (pc' := 39) (kX11_dayGoes_0 22 rfl) rfl (by unfold inR; omega) ?_
  refine r_icmp_ge (t := 105) (pc' := 42) (kX11_dayGoes_0 23 rfl) rfl rfl (fun c1 => ?_) (fun c1 => ?_)
  · have h := h.1 c1
    have g2 := h.1
    have h := h.2
    refine r_iinc (L' := [(2, 198), (0, x1), (0, x2), (0, (x3 + 1)), (0, x4), (0, x5), (9, 0), (9, 0)]) (pc' := 108) (kX11_dayGoes_0 54 rfl) rfl (Nat.le_of_ble_eq_true rfl) rfl g2 rfl ?_
    refine r_goto (pc' := 7) (kX11_dayGoes_0 55 rfl) rfl ?_
    exact r_weak (L' := [(2, 198), (0, x1), (0, x2), (0, (x3 + 1)), (9, 0), (9, 0), (9, 0), (9, 0)]) ⟨Or.inl rfl, Or.inl rfl, Or.inl rfl, Or.inl rfl, Or.inr (by decide), Or.inr (by decide), Or.inr (by decide), Or.inr (by decide), trivial⟩ (h Ln)
  · have h := h.2 c1
    refine r_aload_n (pc' := 43) (kX11_dayGoes_0 24 rfl) rfl rfl ?_
    refine r_iload_n (pc' := 44) (kX11_dayGoes_0 25 rfl) rfl rfl ?_
    refine r_iload (pc' := 46) (kX11_dayGoes_0 26 rfl) rfl rfl ?_
    have g3 := h.1
    have h := h.2
    refine r_iadd (pc' := 47) (kX11_dayGoes_0 27 rfl) rfl g3 ?_
    refine s_callV (As := [(0, (x3 + x5))]) (o := 198) (S := []) (S2 := fun z => [(0, z)]) (pc' := 50) (kX11_dayGoes_0 28 rfl) rfl rfl nkX11_sitterOf mlX11_436 imX11_sitterOf rfl slX11_sitterOf rfl (Nat.le_of_ble_eq_true rfl) (Nat.le_of_ble_eq_true rfl) (kz198 Ln) h (fun z => rfl) (fun r4 φ4 α4 h => ?_)
    refine r_istore (L' := [(2, 198), (0, x1), (0, x2), (0, x3), (0, x4), (0, x5), (0, r4), (9, 0)]) (pc' := 52) (kX11_dayGoes_0 29 rfl) rfl (Nat.le_of_ble_eq_true rfl) rfl ?_
    refine r_iload (pc' := 54) (kX11_dayGoes_0 30 rfl) rfl rfl ?_
    refine r_iconst (-1) (pc' := 55) (kX11_dayGoes_0 31 rfl) rfl (by unfold inR; omega) ?_
    refine r_icmp_ne (t := 61) (pc' := 58) (kX11_dayGoes_0 32 rfl) rfl rfl (fun c5 => ?_) (fun c5 => ?_)
    · have h := h.1 c5
      refine r_iconst 0 (pc' := 62) (kX11_dayGoes_0 34 rfl) rfl (by unfold inR; omega) ?_
      refine r_istore (L' := [(2, 198), (0, x1), (0, x2), (0, x3), (0, x4), (0, x5), (0, r4), (0, 0)]) (pc' := 64) (kX11_dayGoes_0 35 rfl) rfl (Nat.le_of_ble_eq_true rfl) rfl ?_
      exact r_weak (L' := [(2, 198), (0, x1), (0, x2), (0, x3), (0, x4), (0, x5), (0, r4), (0, 0)]) ⟨Or.inl rfl, Or.inl rfl, Or.inl rfl, Or.inl rfl, Or.inl rfl, Or.inl rfl, Or.inl rfl, Or.inl rfl, trivial⟩ (h Ln)
    · have h := h.2 c5
      refine r_goto (pc' := 99) (kX11_dayGoes_0 33 rfl) rfl ?_
      have g6 := h.1
      have h := h.2
      refine r_iinc (L' := [(2, 198), (0, x1), (0, x2), (0, x3), (0, x4), (0, (x5 + 2)), (0, r4), (9, 0)]) (pc' := 102) (kX11_dayGoes_0 52 rfl) rfl (Nat.le_of_ble_eq_true rfl) rfl g6 rfl ?_
      refine r_goto (pc' := 36) (kX11_dayGoes_0 53 rfl) rfl ?_
      exact r_weak (L' := [(2, 198), (0, x1), (0, x2), (0, x3), (0, x4), (0, (x5 + 2)), (9, 0), (9, 0)]) ⟨Or.inl rfl, Or.inl rfl, Or.inl rfl, Or.inl rfl, Or.inl rfl, Or.inl rfl, Or.inr (by decide), Or.inr (by decide), trivial⟩ (h Ln)
theorem vX11_dayGoes_64 {d : Nat} {φ : aF} {α : aA} {Q : Int → aF → aA → Prop} {x1 : Int} {x2 : Int} {x3 : Int} {x4 : Int} {x5 : Int} {x6 : Int} {x7 : Int} (h : (eX11_matterMany d  φ α (fun r1 φ1 α1 =>
   ((r1 ≤ x7 →
   inR (x5 + 2) ∧ (jX11_dayGoes_36 (d + 1) x1 x2 x3 x4 (x5 + 2) φ1 α1 Q)) ∧
   (¬ (r1 ≤ x7) →
   (eX11_leaksFrom d x4 x6 x7 φ1 α1 (fun r4 φ4 α4 =>
     (eX11_goesOver d x4 x6 x7 r4 φ4 α4 (fun r5 φ5 α5 =>
     inR (x7 + 1) ∧ (jX11_dayGoes_64 (d + 1) x1 x2 x3 x4 x5 x6 (x7 + 1) φ5 α5 Q)))))))))) : jX11_dayGoes_64 (d + 1) x1 x2 x3 x4 x5 x6 x7 φ α Q := by
  intro Ln
  refine r_iload (pc' := 66) (kX11_dayGoes_0 36 rfl) rfl rfl ?_
  refine r_aload_n (pc' := 67) (kX11_dayGoes_0 37 rfl) rfl rfl ?_
  refine s_callV (As := []) (o := 198) (S := [(0, x7)]) (S2 := fun z => [(0, z), (0, x7)]) (pc' := 70) (kX11_dayGoes_0 38 rfl) rfl rfl nkX11_matterMany mlX11_373 imX11_matterMany rfl slX11_matterMany rfl (Nat.le_of_ble_eq_true rfl) (Nat.le_of_ble_eq_true rfl) (kz198 Ln) h (fun z => rfl) (fun r1 φ1 α1 h => ?_)
  refine r_icmp_ge (t := 99) (pc' := 73) (kX11_dayGoes_0 39 rfl) rfl rfl (fun c2 => ?_) (fun c2 => ?_)
  · have h := h.1 c2
    have g3 := h.1
    have h := h.2
    refine r_iinc (L' := [(2, 198), (0, x1), (0, x2), (0, x3), (0, x4), (0, (x5 + 2)), (0, x6), (0, x7)]) (pc' := 102) (kX11_dayGoes_0 52 rfl) rfl (Nat.le_of_ble_eq_true rfl) rfl g3 rfl ?_
    refine r_goto (pc' := 36) (kX11_dayGoes_0 53 rfl) rfl ?_
    exact r_weak (L' := [(2, 198), (0, x1), (0, x2), (0, x3), (0, x4), (0, (x5 + 2)), (9, 0), (9, 0)]) ⟨Or.inl rfl, Or.inl rfl, Or.inl rfl, Or.inl rfl, Or.inl rfl, Or.inl rfl, Or.inr (by decide), Or.inr (by decide), trivial⟩ (h Ln)
  · have h := h.2 c2
    refine r_aload_n (pc' := 74) (kX11_dayGoes_0 40 rfl) rfl rfl ?_
    refine r_iload (pc' := 76) (kX11_dayGoes_0 41 rfl) rfl rfl ?_
    refine r_iload (pc' := 78) (kX11_dayGoes_0 42 rfl) rfl rfl ?_
    refine r_iload (pc' := 80) (kX11_dayGoes_0 43 rfl) rfl rfl ?_
    refine r_aload_n (pc' := 81) (kX11_dayGoes_0 44 rfl) rfl rfl ?_
    refine r_iload (pc' := 83) (kX11_dayGoes_0 45 rfl) rfl rfl ?_
    refine r_iload (pc' := 85) (kX11_dayGoes_0 46 rfl) rfl rfl ?_
    refine r_iload (pc' := 87) (kX11_dayGoes_0 47 rfl) rfl rfl ?_
    refine s_callV (As := [(0, x4), (0, x6), (0, x7)]) (o := 198) (S := [(0, x7), (0, x6), (0, x4), (2, 198)]) (S2 := fun z => [(0, z), (0, x7), (0, x6), (0, x4), (2, 198)]) (pc' := 90) (kX11_dayGoes_0 48 rfl) rfl rfl nkX11_leaksFrom mlX11_439 imX11_leaksFrom rfl slX11_leaksFrom rfl (Nat.le_of_ble_eq_true rfl) (Nat.le_of_ble_eq_true rfl) (kz198 Ln) h (fun z => rfl) (fun r4 φ4 α4 h => ?_)
    refine s_callV (As := [(0, x4), (0, x6), (0, x7), (0, r4)]) (o := 198) (S := []) (S2 := fun z => []) (pc' := 93) (kX11_dayGoes_0 49 rfl) rfl rfl nkX11_goesOver mlX11_443 imX11_goesOver rfl slX11_goesOver rfl (Nat.le_of_ble_eq_true rfl) (Nat.le_of_ble_eq_true rfl) (kz198 Ln) h (fun z => rfl) (fun r5 φ5 α5 h => ?_)
    have g6 := h.1
    have h := h.2
    refine r_iinc (L' := [(2, 198), (0, x1), (0, x2), (0, x3), (0, x4), (0, x5), (0, x6), (0, (x7 + 1))]) (pc' := 96) (kX11_dayGoes_0 50 rfl) rfl (Nat.le_of_ble_eq_true rfl) rfl g6 rfl ?_
    refine r_goto (pc' := 64) (kX11_dayGoes_0 51 rfl) rfl ?_
    exact r_weak (L' := [(2, 198), (0, x1), (0, x2), (0, x3), (0, x4), (0, x5), (0, x6), (0, (x7 + 1))]) ⟨Or.inl rfl, Or.inl rfl, Or.inl rfl, Or.inl rfl, Or.inl rfl, Or.inl rfl, Or.inl rfl, Or.inl rfl, trivial⟩ (h Ln)
abbrev jX11_daysGo_2 (d : Nat) (x1 x2 : Int) (φ : aF) (α : aA) (Q : Int → aF → aA → Prop) : Prop := R0 d mX11_daysGo 2 [(2, 198), (0, x1), (0, x2)] [] φ α Q
theorem vX11_daysGo_0 {d : Nat} {φ : aF} {α : aA} {Q : Int → aF → aA → Prop} {x1 : Int} (h : (jX11_daysGo_2 (d + 1) x1 0 φ α Q)) : eX11_daysGo (d + 1) x1 φ α Q := by
  intro Ln
  refine r_iconst 0 (pc' := 1) (kX11_daysGo_0 0 rfl) rfl (by unfold inR; omega) ?_
  refine r_istore_n (L' := [(2, 198), (0, x1), (0, 0)]) (pc' := 2) (kX11_daysGo_0 1 rfl) rfl (Nat.le_of_ble_eq_true rfl) rfl ?_
  exact r_weak (L' := [(2, 198), (0, x1), (0, 0)]) ⟨Or.inl rfl, Or.inl rfl, Or.inl rfl, trivial⟩ (h Ln)
theorem vX11_daysGo_2 {d : Nat} {φ : aF} {α : aA} {Q : Int → aF → aA → Prop} {x1 : Int} {x2 : Int} (h : ((x1 ≤ x2 →
   (Q 0 φ α)) ∧
   (¬ (x1 ≤ x2) →
   (eX11_dayGoes d 0 φ α (fun r2 φ2 α2 =>
     inR (x2 + 1) ∧ (jX11_daysGo_2 (d + 1) x1 (x2 + 1) φ2 α2 Q)))))) : jX11_daysGo_2 (d + 1) x1 x2 φ α Q := by
  intro Ln
  refine r_iload_n (pc' := 3) (kX11_daysGo_0 2 rfl) rfl rfl ?_
  refine r_iload_n (pc' := 4) (kX11_daysGo_0 3 rfl) rfl rfl ?_
  refine r_icmp_ge (t := 18) (pc' := 7) (kX11_daysGo_0 4 rfl) rfl rfl (fun c1 => ?_) (fun c1 => ?_)
  · have h := h.1 c1
    exact s_vret (kX11_daysGo_0 10 rfl) rfl h
  · have h := h.2 c1
    refine r_aload_n (pc' := 8) (kX11_daysGo_0 5 rfl) rfl rfl ?_
    refine r_iconst 0 (pc' := 9) (kX11_daysGo_0 6 rfl) rfl (by unfold inR; omega) ?_
    refine s_callV (As := [(0, 0)]) (o := 198) (S := []) (S2 := fun z => []) (pc' := 12) (kX11_daysGo_0 7 rfl) rfl rfl nkX11_dayGoes mlX11_450 imX11_dayGoes rfl slX11_dayGoes rfl (Nat.le_of_ble_eq_true rfl) (Nat.le_of_ble_eq_true rfl) (kz198 Ln) h (fun z => rfl) (fun r2 φ2 α2 h => ?_)
    have g3 := h.1
    have h := h.2
    refine r_iinc (L' := [(2, 198), (0, x1), (0, (x2 + 1))]) (pc' := 15) (kX11_daysGo_0 8 rfl) rfl (Nat.le_of_ble_eq_true rfl) rfl g3 rfl ?_
    refine r_goto (pc' := 2) (kX11_daysGo_0 9 rfl) rfl ?_
    exact r_weak (L' := [(2, 198), (0, x1), (0, (x2 + 1))]) ⟨Or.inl rfl, Or.inl rfl, Or.inl rfl, trivial⟩ (h Ln)
abbrev jX11_putsAside_7 (d : Nat) (x1 : Int) (φ : aF) (α : aA) (Q : Int → aF → aA → Prop) : Prop := R0 d mX11_putsAside 7 [(2, 198), (0, x1)] [] φ α Q
theorem vX11_putsAside_0 {d : Nat} {φ : aF} {α : aA} {Q : Int → aF → aA → Prop} (h : (jX11_putsAside_7 d 0 (upf φ 11 52 198 1) α Q)) : eX11_putsAside d  φ α Q := by
  intro Ln
  refine r_aload_n (pc' := 1) (kX11_putsAside_0 0 rfl) rfl rfl ?_
  refine r_iconst 1 (pc' := 2) (kX11_putsAside_0 1 rfl) rfl (by unfold inR; omega) ?_
  refine s_put (pc' := 5) (kX11_putsAside_0 2 rfl) rfl fkX11_430 fnX11_52 rfl (pk_bool (Or.inr rfl)) (kz198 Ln) ?_
  refine r_iconst 0 (pc' := 6) (kX11_putsAside_0 3 rfl) rfl (by unfold inR; omega) ?_
  refine r_istore_n (L' := [(2, 198), (0, 0)]) (pc' := 7) (kX11_putsAside_0 4 rfl) rfl (Nat.le_of_ble_eq_true rfl) rfl ?_
  exact r_weak (L' := [(2, 198), (0, 0)]) ⟨Or.inl rfl, Or.inl rfl, trivial⟩ (h Ln)
theorem vX11_putsAside_7 {d : Nat} {φ : aF} {α : aA} {Q : Int → aF → aA → Prop} {x1 : Int} (h : ((48 ≤ x1 →
   (Q 0 φ α)) ∧
   (¬ (48 ≤ x1) →
   (0 ≤ x1 ∧ x1 < (169 : Nat)) ∧ (0 ≤ x1 ∧ x1 < (48 : Nat)) ∧ inR (x1 + 1) ∧ (jX11_putsAside_7 d (x1 + 1) φ (upa α 234 x1 (α 233 x1)) Q)))) : jX11_putsAside_7 d x1 φ α Q := by
  intro Ln
  refine r_iload_n (pc' := 8) (kX11_putsAside_0 5 rfl) rfl rfl ?_
  refine r_bipush 48 (pc' := 10) (kX11_putsAside_0 6 rfl) rfl ⟨by unfold inR; omega, rfl⟩ ?_
  refine r_icmp_ge (t := 31) (pc' := 13) (kX11_putsAside_0 7 rfl) rfl rfl (fun c1 => ?_) (fun c1 => ?_)
  · have h := h.1 c1
    exact s_vret (kX11_putsAside_0 18 rfl) rfl h
  · have h := h.2 c1
    refine r_aload_n (pc' := 14) (kX11_putsAside_0 8 rfl) rfl rfl ?_
    refine s_getr (v := 234) (pc' := 17) (kX11_putsAside_0 9 rfl) rfl fkX11_121 rfl rfl (kz198 Ln) rfl (by decide) ?_
    refine r_iload_n (pc' := 18) (kX11_putsAside_0 10 rfl) rfl rfl ?_
    refine r_aload_n (pc' := 19) (kX11_putsAside_0 11 rfl) rfl rfl ?_
    refine s_getr (v := 233) (pc' := 22) (kX11_putsAside_0 12 rfl) rfl fkX11_118 rfl rfl (kz198 Ln) rfl (by decide) ?_
    refine r_iload_n (pc' := 23) (kX11_putsAside_0 13 rfl) rfl rfl ?_
    have g2 := h.1
    have h := h.2
    refine s_iald (x := (α 233 x1)) (pc' := 24) (kX11_putsAside_0 14 rfl) rfl (kz233 Ln) g2 rfl ?_
    have g3 := h.1
    have h := h.2
    refine s_iast (pc' := 25) (kX11_putsAside_0 15 rfl) rfl (kz234 Ln) g3 ?_
    have g4 := h.1
    have h := h.2
    refine r_iinc (L' := [(2, 198), (0, (x1 + 1))]) (pc' := 28) (kX11_putsAside_0 16 rfl) rfl (Nat.le_of_ble_eq_true rfl) rfl g4 rfl ?_
    refine r_goto (pc' := 7) (kX11_putsAside_0 17 rfl) rfl ?_
    exact r_weak (L' := [(2, 198), (0, (x1 + 1))]) ⟨Or.inl rfl, Or.inl rfl, trivial⟩ (h Ln)
abbrev jX11_triesAnew_2 (d : Nat) (x1 : Int) (φ : aF) (α : aA) (Q : Int → aF → aA → Prop) : Prop := R0 d mX11_triesAnew 2 [(2, 198), (0, x1)] [] φ α Q
theorem vX11_triesAnew_0 {d : Nat} {φ : aF} {α : aA} {Q : Int → aF → aA → Prop} (h : (jX11_triesAnew_2 d 0 φ α Q)) : eX11_triesAnew d  φ α Q := by
  intro Ln
  refine r_iconst 0 (pc' := 1) (kX11_triesAnew_0 0 rfl) rfl (by unfold inR; omega) ?_
  refine r_istore_n (L' := [(2, 198), (0, 0)]) (pc' := 2) (kX11_triesAnew_0 1 rfl) rfl (Nat.le_of_ble_eq_true rfl) rfl ?_
  exact r_weak (L' := [(2, 198), (0, 0)]) ⟨Or.inl rfl, Or.inl rfl, trivial⟩ (h Ln)
theorem vX11_triesAnew_2 {d : Nat} {φ : aF} {α : aA} {Q : Int → aF → aA → Prop} {x1 : Int} (h : ((48 ≤ x1 →
   (Q 0 φ α)) ∧
   (¬ (48 ≤ x1) →
   (0 ≤ x1 ∧ x1 < (48 : Nat)) ∧ (0 ≤ x1 ∧ x1 < (169 : Nat)) ∧ inR (x1 + 1) ∧ (jX11_triesAnew_2 d (x1 + 1) φ (upa α 233 x1 (α 234 x1)) Q)))) : jX11_triesAnew_2 d x1 φ α Q := by
  intro Ln
  refine r_iload_n (pc' := 3) (kX11_triesAnew_0 2 rfl) rfl rfl ?_
  refine r_bipush 48 (pc' := 5) (kX11_triesAnew_0 3 rfl) rfl ⟨by unfold inR; omega, rfl⟩ ?_
  refine r_icmp_ge (t := 26) (pc' := 8) (kX11_triesAnew_0 4 rfl) rfl rfl (fun c1 => ?_) (fun c1 => ?_)
  · have h := h.1 c1
    exact s_vret (kX11_triesAnew_0 15 rfl) rfl h
  · have h := h.2 c1
    refine r_aload_n (pc' := 9) (kX11_triesAnew_0 5 rfl) rfl rfl ?_
    refine s_getr (v := 233) (pc' := 12) (kX11_triesAnew_0 6 rfl) rfl fkX11_118 rfl rfl (kz198 Ln) rfl (by decide) ?_
    refine r_iload_n (pc' := 13) (kX11_triesAnew_0 7 rfl) rfl rfl ?_
    refine r_aload_n (pc' := 14) (kX11_triesAnew_0 8 rfl) rfl rfl ?_
    refine s_getr (v := 234) (pc' := 17) (kX11_triesAnew_0 9 rfl) rfl fkX11_121 rfl rfl (kz198 Ln) rfl (by decide) ?_
    refine r_iload_n (pc' := 18) (kX11_triesAnew_0 10 rfl) rfl rfl ?_
    have g2 := h.1
    have h := h.2
    refine s_iald (x := (α 234 x1)) (pc' := 19) (kX11_triesAnew_0 11 rfl) rfl (kz234 Ln) g2 rfl ?_
    have g3 := h.1
    have h := h.2
    refine s_iast (pc' := 20) (kX11_triesAnew_0 12 rfl) rfl (kz233 Ln) g3 ?_
    have g4 := h.1
    have h := h.2
    refine r_iinc (L' := [(2, 198), (0, (x1 + 1))]) (pc' := 23) (kX11_triesAnew_0 13 rfl) rfl (Nat.le_of_ble_eq_true rfl) rfl g4 rfl ?_
    refine r_goto (pc' := 2) (kX11_triesAnew_0 14 rfl) rfl ?_
    exact r_weak (L' := [(2, 198), (0, (x1 + 1))]) ⟨Or.inl rfl, Or.inl rfl, trivial⟩ (h Ln)
theorem vX11_takesBack_0 {d : Nat} {φ : aF} {α : aA} {Q : Int → aF → aA → Prop} (h : (eX11_triesAnew d  φ α (fun r1 φ1 α1 =>
   (Q 0 (upf φ1 11 52 198 0) α1)))) : eX11_takesBack (d + 1)  φ α Q := by
  intro Ln
  refine r_aload_n (pc' := 1) (kX11_takesBack_0 0 rfl) rfl rfl ?_
  refine s_callV (As := []) (o := 198) (S := []) (S2 := fun z => []) (pc' := 4) (kX11_takesBack_0 1 rfl) rfl rfl nkX11_triesAnew mlX11_453 imX11_triesAnew rfl slX11_triesAnew rfl (Nat.le_of_ble_eq_true rfl) (Nat.le_of_ble_eq_true rfl) (kz198 Ln) h (fun z => rfl) (fun r1 φ1 α1 h => ?_)
  refine r_aload_n (pc' := 5) (kX11_takesBack_0 2 rfl) rfl rfl ?_
  refine r_iconst 0 (pc' := 6) (kX11_takesBack_0 3 rfl) rfl (by unfold inR; omega) ?_
  refine s_put (pc' := 9) (kX11_takesBack_0 4 rfl) rfl fkX11_430 fnX11_52 rfl (pk_bool (Or.inl rfl)) (kz198 Ln) ?_
  exact s_vret (kX11_takesBack_0 5 rfl) rfl h
theorem vX11_isAhead_0 {d : Nat} {φ : aF} {α : aA} {Q : Int → aF → aA → Prop} {x1 : Int} {x2 : Int} {x3 : Int} (h : (((φ 11 46 198) = 0 →
   (Q 0 φ α)) ∧
   (¬ ((φ 11 46 198) = 0) →
   (eX11_isIn d x1 x2 x3 φ α (fun r2 φ2 α2 =>
     ((r2 = 0 →
     (Q 0 φ2 α2)) ∧
     (¬ (r2 = 0) →
     inR ((α2 233 0) + x1) ∧ ((999 < ((α2 233 0) + x1) →
       (Q 0 φ2 α2)) ∧
       (¬ (999 < ((α2 233 0) + x1)) →
       (Q 1 φ2 α2)))))))))) : eX11_isAhead (d + 1) x1 x2 x3 φ α Q := by
  intro Ln
  refine r_aload_n (pc' := 1) (kX11_isAhead_0 0 rfl) rfl rfl ?_
  refine s_get (x := (φ 11 46 198)) (pc' := 4) (kX11_isAhead_0 1 rfl) rfl fkX11_363 rfl rfl rfl (kz198 Ln) rfl ?_
  refine r_if_eq (t := 37) (pc' := 7) (kX11_isAhead_0 2 rfl) rfl rfl (fun c1 => ?_) (fun c1 => ?_)
  · have h := h.1 c1
    refine r_iconst 0 (pc' := 38) (kX11_isAhead_0 21 rfl) rfl (by unfold inR; omega) ?_
    exact s_zret (kX11_isAhead_0 22 rfl) rfl (Or.inl rfl) h
  · have h := h.2 c1
    refine r_iload_n (pc' := 8) (kX11_isAhead_0 3 rfl) rfl rfl ?_
    refine r_i2l (pc' := 9) (kX11_isAhead_0 4 rfl) rfl ?_
    refine r_iload_n (pc' := 10) (kX11_isAhead_0 5 rfl) rfl rfl ?_
    refine r_i2l (pc' := 11) (kX11_isAhead_0 6 rfl) rfl ?_
    refine r_iload_n (pc' := 12) (kX11_isAhead_0 7 rfl) rfl rfl ?_
    refine r_i2l (pc' := 13) (kX11_isAhead_0 8 rfl) rfl ?_
    refine s_callS (As := [(1, x1), (1, x2), (1, x3)]) (S := []) (S2 := fun z => [(0, z)]) (pc' := 16) (kX11_isAhead_0 9 rfl) rfl rfl nkX11_isIn mlX11_270 scX11_isIn rfl (Nat.le_of_ble_eq_true rfl) (Nat.le_of_ble_eq_true rfl) h (fun z => rfl) (fun r2 φ2 α2 h => ?_)
    refine r_if_eq (t := 37) (pc' := 19) (kX11_isAhead_0 10 rfl) rfl rfl (fun c3 => ?_) (fun c3 => ?_)
    · have h := h.1 c3
      refine r_iconst 0 (pc' := 38) (kX11_isAhead_0 21 rfl) rfl (by unfold inR; omega) ?_
      exact s_zret (kX11_isAhead_0 22 rfl) rfl (Or.inl rfl) h
    · have h := h.2 c3
      refine r_aload_n (pc' := 20) (kX11_isAhead_0 11 rfl) rfl rfl ?_
      refine s_getr (v := 233) (pc' := 23) (kX11_isAhead_0 12 rfl) rfl fkX11_118 rfl rfl (kz198 Ln) rfl (by decide) ?_
      refine r_iconst 0 (pc' := 24) (kX11_isAhead_0 13 rfl) rfl (by unfold inR; omega) ?_
      refine s_iald (x := (α2 233 0)) (pc' := 25) (kX11_isAhead_0 14 rfl) rfl (kz233 Ln) ⟨by decide, by decide⟩ rfl ?_
      refine r_iload_n (pc' := 26) (kX11_isAhead_0 15 rfl) rfl rfl ?_
      have g4 := h.1
      have h := h.2
      refine r_iadd (pc' := 27) (kX11_isAhead_0 16 rfl) rfl g4 ?_
      refine r_sipush 999 (pc' := 30) (kX11_isAhead_0 17 rfl) rfl ⟨by unfold inR; omega, rfl⟩ ?_
      refine r_icmp_gt (t := 37) (pc' := 33) (kX11_isAhead_0 18 rfl) rfl rfl (fun c5 => ?_) (fun c5 => ?_)
      · have h := h.1 c5
        refine r_iconst 0 (pc' := 38) (kX11_isAhead_0 21 rfl) rfl (by unfold inR; omega) ?_
        exact s_zret (kX11_isAhead_0 22 rfl) rfl (Or.inl rfl) h
      · have h := h.2 c5
        refine r_iconst 1 (pc' := 34) (kX11_isAhead_0 19 rfl) rfl (by unfold inR; omega) ?_
        refine r_goto (pc' := 38) (kX11_isAhead_0 20 rfl) rfl ?_
        exact s_zret (kX11_isAhead_0 22 rfl) rfl (Or.inr rfl) h
abbrev jX11_knowersOf_4 (d : Nat) (x1 x2 x3 : Int) (φ : aF) (α : aA) (Q : Int → aF → aA → Prop) : Prop := R0 d mX11_knowersOf 4 [(2, 198), (0, x1), (0, x2), (0, x3)] [] φ α Q
theorem vX11_knowersOf_0 {d : Nat} {φ : aF} {α : aA} {Q : Int → aF → aA → Prop} {x1 : Int} (h : (jX11_knowersOf_4 (d + 1) x1 0 0 φ α Q)) : eX11_knowersOf (d + 1) x1 φ α Q := by
  intro Ln
  refine r_iconst 0 (pc' := 1) (kX11_knowersOf_0 0 rfl) rfl (by unfold inR; omega) ?_
  refine r_istore_n (L' := [(2, 198), (0, x1), (0, 0), (9, 0)]) (pc' := 2) (kX11_knowersOf_0 1 rfl) rfl (Nat.le_of_ble_eq_true rfl) rfl ?_
  refine r_iconst 0 (pc' := 3) (kX11_knowersOf_0 2 rfl) rfl (by unfold inR; omega) ?_
  refine r_istore_n (L' := [(2, 198), (0, x1), (0, 0), (0, 0)]) (pc' := 4) (kX11_knowersOf_0 3 rfl) rfl (Nat.le_of_ble_eq_true rfl) rfl ?_
  exact r_weak (L' := [(2, 198), (0, x1), (0, 0), (0, 0)]) ⟨Or.inl rfl, Or.inl rfl, Or.inl rfl, Or.inl rfl, trivial⟩ (h Ln)
theorem vX11_knowersOf_4 {d : Nat} {φ : aF} {α : aA} {Q : Int → aF → aA → Prop} {x1 : Int} {x2 : Int} {x3 : Int} (h : (eX11_clerkMany d  φ α (fun r1 φ1 α1 =>
   ((r1 ≤ x3 →
   (Q x2 φ1 α1)) ∧
   (¬ (r1 ≤ x3) →
   (eX11_dropsOf d x3 x1 φ1 α1 (fun r3 φ3 α3 =>
     ((r3 ≤ 0 →
     inR (x3 + 1) ∧ (jX11_knowersOf_4 (d + 1) x1 x2 (x3 + 1) φ3 α3 Q)) ∧
     (¬ (r3 ≤ 0) →
     inR (x3 + 1) ∧ (jX11_knowersOf_4 (d + 1) x1 (iOr x2 (iShl 1 x3)) (x3 + 1) φ3 α3 Q)))))))))) : jX11_knowersOf_4 (d + 1) x1 x2 x3 φ α Q := by
  intro Ln
  refine r_iload_n (pc' := 5) (kX11_knowersOf_0 4 rfl) rfl rfl ?_
  refine r_aload_n (pc' := 6) (kX11_knowersOf_0 5 rfl) rfl rfl ?_
  refine s_callV (As := []) (o := 198) (S := [(0, x3)]) (S2 := fun z => [(0, z), (0, x3)]) (pc' := 9) (kX11_knowersOf_0 6 rfl) rfl rfl nkX11_clerkMany mlX11_376 imX11_clerkMany rfl slX11_clerkMany rfl (Nat.le_of_ble_eq_true rfl) (Nat.le_of_ble_eq_true rfl) (kz198 Ln) h (fun z => rfl) (fun r1 φ1 α1 h => ?_)
  refine r_icmp_ge (t := 33) (pc' := 12) (kX11_knowersOf_0 7 rfl) rfl rfl (fun c2 => ?_) (fun c2 => ?_)
  · have h := h.1 c2
    refine r_iload_n (pc' := 34) (kX11_knowersOf_0 21 rfl) rfl rfl ?_
    exact s_iret (kX11_knowersOf_0 22 rfl) rfl h
  · have h := h.2 c2
    refine r_aload_n (pc' := 13) (kX11_knowersOf_0 8 rfl) rfl rfl ?_
    refine r_iload_n (pc' := 14) (kX11_knowersOf_0 9 rfl) rfl rfl ?_
    refine r_iload_n (pc' := 15) (kX11_knowersOf_0 10 rfl) rfl rfl ?_
    refine s_callV (As := [(0, x3), (0, x1)]) (o := 198) (S := []) (S2 := fun z => [(0, z)]) (pc' := 18) (kX11_knowersOf_0 11 rfl) rfl rfl nkX11_dropsOf mlX11_386 imX11_dropsOf rfl slX11_dropsOf rfl (Nat.le_of_ble_eq_true rfl) (Nat.le_of_ble_eq_true rfl) (kz198 Ln) h (fun z => rfl) (fun r3 φ3 α3 h => ?_)
    refine r_if_le (t := 27) (pc' := 21) (kX11_knowersOf_0 12 rfl) rfl rfl (fun c4 => ?_) (fun c4 => ?_)
    · have h := h.1 c4
      have g5 := h.1
      have h := h.2
      refine r_iinc (L' := [(2, 198), (0, x1), (0, x2), (0, (x3 + 1))]) (pc' := 30) (kX11_knowersOf_0 19 rfl) rfl (Nat.le_of_ble_eq_true rfl) rfl g5 rfl ?_
      refine r_goto (pc' := 4) (kX11_knowersOf_0 20 rfl) rfl ?_
      exact r_weak (L' := [(2, 198), (0, x1), (0, x2), (0, (x3 + 1))]) ⟨Or.inl rfl, Or.inl rfl, Or.inl rfl, Or.inl rfl, trivial⟩ (h Ln)
    · have h := h.2 c4
      refine r_iload_n (pc' := 22) (kX11_knowersOf_0 13 rfl) rfl rfl ?_
      refine r_iconst 1 (pc' := 23) (kX11_knowersOf_0 14 rfl) rfl (by unfold inR; omega) ?_
      refine r_iload_n (pc' := 24) (kX11_knowersOf_0 15 rfl) rfl rfl ?_
      refine r_ishl (pc' := 25) (kX11_knowersOf_0 16 rfl) rfl ?_
      refine r_ior (pc' := 26) (kX11_knowersOf_0 17 rfl) rfl ?_
      refine r_istore_n (L' := [(2, 198), (0, x1), (0, (iOr x2 (iShl 1 x3))), (0, x3)]) (pc' := 27) (kX11_knowersOf_0 18 rfl) rfl (Nat.le_of_ble_eq_true rfl) rfl ?_
      have g6 := h.1
      have h := h.2
      refine r_iinc (L' := [(2, 198), (0, x1), (0, (iOr x2 (iShl 1 x3))), (0, (x3 + 1))]) (pc' := 30) (kX11_knowersOf_0 19 rfl) rfl (Nat.le_of_ble_eq_true rfl) rfl g6 rfl ?_
      refine r_goto (pc' := 4) (kX11_knowersOf_0 20 rfl) rfl ?_
      exact r_weak (L' := [(2, 198), (0, x1), (0, (iOr x2 (iShl 1 x3))), (0, (x3 + 1))]) ⟨Or.inl rfl, Or.inl rfl, Or.inl rfl, Or.inl rfl, trivial⟩ (h Ln)
abbrev jX11_inClerks_4 (d : Nat) (x1 x2 x3 : Int) (φ : aF) (α : aA) (Q : Int → aF → aA → Prop) : Prop := R0 d mX11_inClerks 4 [(2, 198), (0, x1), (0, x2), (0, x3)] [] φ α Q
theorem vX11_inClerks_0 {d : Nat} {φ : aF} {α : aA} {Q : Int → aF → aA → Prop} {x1 : Int} (h : (jX11_inClerks_4 (d + 1) x1 0 0 φ α Q)) : eX11_inClerks (d + 1) x1 φ α Q := by
  intro Ln
  refine r_iconst 0 (pc' := 1) (kX11_inClerks_0 0 rfl) rfl (by unfold inR; omega) ?_
  refine r_istore_n (L' := [(2, 198), (0, x1), (0, 0), (9, 0)]) (pc' := 2) (kX11_inClerks_0 1 rfl) rfl (Nat.le_of_ble_eq_true rfl) rfl ?_
  refine r_iconst 0 (pc' := 3) (kX11_inClerks_0 2 rfl) rfl (by unfold inR; omega) ?_
  refine r_istore_n (L' := [(2, 198), (0, x1), (0, 0), (0, 0)]) (pc' := 4) (kX11_inClerks_0 3 rfl) rfl (Nat.le_of_ble_eq_true rfl) rfl ?_
  exact r_weak (L' := [(2, 198), (0, x1), (0, 0), (0, 0)]) ⟨Or.inl rfl, Or.inl rfl, Or.inl rfl, Or.inl rfl, trivial⟩ (h Ln)
theorem vX11_inClerks_4 {d : Nat} {φ : aF} {α : aA} {Q : Int → aF → aA → Prop} {x1 : Int} {x2 : Int} {x3 : Int} (h : (eX11_clerkMany d  φ α (fun r1 φ1 α1 =>
   ((r1 ≤ x3 →
   (Q x2 φ1 α1)) ∧
   (¬ (r1 ≤ x3) →
   (eX11_dropsOf d x3 x1 φ1 α1 (fun r3 φ3 α3 =>
     inR (x2 + r3) ∧ inR (x3 + 1) ∧ (jX11_inClerks_4 (d + 1) x1 (x2 + r3) (x3 + 1) φ3 α3 Q)))))))) : jX11_inClerks_4 (d + 1) x1 x2 x3 φ α Q := by
  intro Ln
  refine r_iload_n (pc' := 5) (kX11_inClerks_0 4 rfl) rfl rfl ?_
  refine r_aload_n (pc' := 6) (kX11_inClerks_0 5 rfl) rfl rfl ?_
  refine s_callV (As := []) (o := 198) (S := [(0, x3)]) (S2 := fun z => [(0, z), (0, x3)]) (pc' := 9) (kX11_inClerks_0 6 rfl) rfl rfl nkX11_clerkMany mlX11_376 imX11_clerkMany rfl slX11_clerkMany rfl (Nat.le_of_ble_eq_true rfl) (Nat.le_of_ble_eq_true rfl) (kz198 Ln) h (fun z => rfl) (fun r1 φ1 α1 h => ?_)
  refine r_icmp_ge (t := 27) (pc' := 12) (kX11_inClerks_0 7 rfl) rfl rfl (fun c2 => ?_) (fun c2 => ?_)
  · have h := h.1 c2
    refine r_iload_n (pc' := 28) (kX11_inClerks_0 17 rfl) rfl rfl ?_
    exact s_iret (kX11_inClerks_0 18 rfl) rfl h
  · have h := h.2 c2
    refine r_iload_n (pc' := 13) (kX11_inClerks_0 8 rfl) rfl rfl ?_
    refine r_aload_n (pc' := 14) (kX11_inClerks_0 9 rfl) rfl rfl ?_
    refine r_iload_n (pc' := 15) (kX11_inClerks_0 10 rfl) rfl rfl ?_
    refine r_iload_n (pc' := 16) (kX11_inClerks_0 11 rfl) rfl rfl ?_
    refine s_callV (As := [(0, x3), (0, x1)]) (o := 198) (S := [(0, x2)]) (S2 := fun z => [(0, z), (0, x2)]) (pc' := 19) (kX11_inClerks_0 12 rfl) rfl rfl nkX11_dropsOf mlX11_386 imX11_dropsOf rfl slX11_dropsOf rfl (Nat.le_of_ble_eq_true rfl) (Nat.le_of_ble_eq_true rfl) (kz198 Ln) h (fun z => rfl) (fun r3 φ3 α3 h => ?_)
    have g4 := h.1
    have h := h.2
    refine r_iadd (pc' := 20) (kX11_inClerks_0 13 rfl) rfl g4 ?_
    refine r_istore_n (L' := [(2, 198), (0, x1), (0, (x2 + r3)), (0, x3)]) (pc' := 21) (kX11_inClerks_0 14 rfl) rfl (Nat.le_of_ble_eq_true rfl) rfl ?_
    have g5 := h.1
    have h := h.2
    refine r_iinc (L' := [(2, 198), (0, x1), (0, (x2 + r3)), (0, (x3 + 1))]) (pc' := 24) (kX11_inClerks_0 15 rfl) rfl (Nat.le_of_ble_eq_true rfl) rfl g5 rfl ?_
    refine r_goto (pc' := 4) (kX11_inClerks_0 16 rfl) rfl ?_
    exact r_weak (L' := [(2, 198), (0, x1), (0, (x2 + r3)), (0, (x3 + 1))]) ⟨Or.inl rfl, Or.inl rfl, Or.inl rfl, Or.inl rfl, trivial⟩ (h Ln)
abbrev jX11_dropAll_4 (d : Nat) (x1 x2 : Int) (φ : aF) (α : aA) (Q : Int → aF → aA → Prop) : Prop := R0 d mX11_dropAll 4 [(2, 198), (0, x1), (0, x2)] [] φ α Q
theorem vX11_dropAll_0 {d : Nat} {φ : aF} {α : aA} {Q : Int → aF → aA → Prop} (h : (jX11_dropAll_4 (d + 1) 0 0 φ α Q)) : eX11_dropAll (d + 1)  φ α Q := by
  intro Ln
  refine r_iconst 0 (pc' := 1) (kX11_dropAll_0 0 rfl) rfl (by unfold inR; omega) ?_
  refine r_istore_n (L' := [(2, 198), (0, 0), (9, 0)]) (pc' := 2) (kX11_dropAll_0 1 rfl) rfl (Nat.le_of_ble_eq_true rfl) rfl ?_
  refine r_iconst 0 (pc' := 3) (kX11_dropAll_0 2 rfl) rfl (by unfold inR; omega) ?_
  refine r_istore_n (L' := [(2, 198), (0, 0), (0, 0)]) (pc' := 4) (kX11_dropAll_0 3 rfl) rfl (Nat.le_of_ble_eq_true rfl) rfl ?_
  exact r_weak (L' := [(2, 198), (0, 0), (0, 0)]) ⟨Or.inl rfl, Or.inl rfl, Or.inl rfl, trivial⟩ (h Ln)
theorem vX11_dropAll_4 {d : Nat} {φ : aF} {α : aA} {Q : Int → aF → aA → Prop} {x1 : Int} {x2 : Int} (h : (eX11_clerkMany d  φ α (fun r1 φ1 α1 =>
   ((r1 ≤ x2 →
   (Q x1 φ1 α1)) ∧
   (¬ (r1 ≤ x2) →
   (eX11_fullOf d x2 φ1 α1 (fun r3 φ3 α3 =>
     inR (x1 + r3) ∧ inR (x2 + 1) ∧ (jX11_dropAll_4 (d + 1) (x1 + r3) (x2 + 1) φ3 α3 Q)))))))) : jX11_dropAll_4 (d + 1) x1 x2 φ α Q := by
  intro Ln
  refine r_iload_n (pc' := 5) (kX11_dropAll_0 4 rfl) rfl rfl ?_
  refine r_aload_n (pc' := 6) (kX11_dropAll_0 5 rfl) rfl rfl ?_
  refine s_callV (As := []) (o := 198) (S := [(0, x2)]) (S2 := fun z => [(0, z), (0, x2)]) (pc' := 9) (kX11_dropAll_0 6 rfl) rfl rfl nkX11_clerkMany mlX11_376 imX11_clerkMany rfl slX11_clerkMany rfl (Nat.le_of_ble_eq_true rfl) (Nat.le_of_ble_eq_true rfl) (kz198 Ln) h (fun z => rfl) (fun r1 φ1 α1 h => ?_)
  refine r_icmp_ge (t := 26) (pc' := 12) (kX11_dropAll_0 7 rfl) rfl rfl (fun c2 => ?_) (fun c2 => ?_)
  · have h := h.1 c2
    refine r_iload_n (pc' := 27) (kX11_dropAll_0 16 rfl) rfl rfl ?_
    exact s_iret (kX11_dropAll_0 17 rfl) rfl h
  · have h := h.2 c2
    refine r_iload_n (pc' := 13) (kX11_dropAll_0 8 rfl) rfl rfl ?_
    refine r_aload_n (pc' := 14) (kX11_dropAll_0 9 rfl) rfl rfl ?_
    refine r_iload_n (pc' := 15) (kX11_dropAll_0 10 rfl) rfl rfl ?_
    refine s_callV (As := [(0, x2)]) (o := 198) (S := [(0, x1)]) (S2 := fun z => [(0, z), (0, x1)]) (pc' := 18) (kX11_dropAll_0 11 rfl) rfl rfl nkX11_fullOf mlX11_392 imX11_fullOf rfl slX11_fullOf rfl (Nat.le_of_ble_eq_true rfl) (Nat.le_of_ble_eq_true rfl) (kz198 Ln) h (fun z => rfl) (fun r3 φ3 α3 h => ?_)
    have g4 := h.1
    have h := h.2
    refine r_iadd (pc' := 19) (kX11_dropAll_0 12 rfl) rfl g4 ?_
    refine r_istore_n (L' := [(2, 198), (0, (x1 + r3)), (0, x2)]) (pc' := 20) (kX11_dropAll_0 13 rfl) rfl (Nat.le_of_ble_eq_true rfl) rfl ?_
    have g5 := h.1
    have h := h.2
    refine r_iinc (L' := [(2, 198), (0, (x1 + r3)), (0, (x2 + 1))]) (pc' := 23) (kX11_dropAll_0 14 rfl) rfl (Nat.le_of_ble_eq_true rfl) rfl g5 rfl ?_
    refine r_goto (pc' := 4) (kX11_dropAll_0 15 rfl) rfl ?_
    exact r_weak (L' := [(2, 198), (0, (x1 + r3)), (0, (x2 + 1))]) ⟨Or.inl rfl, Or.inl rfl, Or.inl rfl, trivial⟩ (h Ln)
theorem vX11_has_0 {d : Nat} {φ : aF} {α : aA} {Q : Int → aF → aA → Prop} {x1 : Int} (h : ((x1 = 0 →
   (Q (α 225 2) φ α)) ∧
   ((x1 = 1 →
   inR (1 + x1) ∧ (0 ≤ (1 + x1) ∧ (1 + x1) < (4 : Nat)) ∧ (Q (α 226 (1 + x1)) φ α)) ∧
   ((x1 = 2 →
   inR (1 + x1) ∧ (0 ≤ (1 + x1) ∧ (1 + x1) < (4 : Nat)) ∧ (Q (α 226 (1 + x1)) φ α)) ∧
   ((x1 = 3 →
   (Q (α 233 0) φ α)) ∧
   ((x1 = 4 →
   (eX11_dropAll d  φ α (fun r6 φ6 α6 =>
     (Q r6 φ6 α6)))) ∧
   ((x1 = 5 →
   (eX11_floorAll d  φ α (fun r7 φ7 α7 =>
     (Q r7 φ7 α7)))) ∧
   ((x1 = 6 →
   (eX11_fullMany d  φ α (fun r8 φ8 α8 =>
     (Q r8 φ8 α8)))) ∧
   ((x1 = 7 →
   (Q (α 233 48) φ α)) ∧
   ((x1 = 8 →
   (Q (φ 11 55 198) φ α)) ∧
   ((x1 = 9 →
   (Q (φ 11 60 198) φ α)) ∧
   ((¬ x1 = 0 ∧ ¬ x1 = 1 ∧ ¬ x1 = 2 ∧ ¬ x1 = 3 ∧ ¬ x1 = 4 ∧ ¬ x1 = 5 ∧ ¬ x1 = 6 ∧ ¬ x1 = 7 ∧ ¬ x1 = 8 ∧ ¬ x1 = 9) →
   (Q (-1) φ α))))))))))))) : eX11_has (d + 1) x1 φ α Q := by
  intro Ln
  refine r_iload_n (pc' := 1) (kX11_has_0 0 rfl) rfl rfl ?_
  have hD : (¬ x1 = 0 ∧ ¬ x1 = 1 ∧ ¬ x1 = 2 ∧ ¬ x1 = 3 ∧ ¬ x1 = 4 ∧ ¬ x1 = 5 ∧ ¬ x1 = 6 ∧ ¬ x1 = 7 ∧ ¬ x1 = 8 ∧ ¬ x1 = 9) → Rn (d + 1) mX11_has 112 [(2, 198), (0, x1)] [] (K0 Ln) (mix φ) (mixA α) (0, 0) (Q0 mX11_has Ln Q) := by
    intro c0
    have h := h.2.2.2.2.2.2.2.2.2.2 c0
    refine r_iconst (-1) (pc' := 113) (kX11_has_0 39 rfl) rfl (by unfold inR; omega) ?_
    exact s_iret (kX11_has_0 40 rfl) rfl h
  by_cases c1_0 : x1 = 0
  · have h := h.1 c1_0
    refine r_tabIn (pc' := 56) 0 c1_0 (kX11_has_0 1 rfl) (by decide) (by decide) rfl rfl ?_
    refine r_aload_n (pc' := 57) (kX11_has_0 2 rfl) rfl rfl ?_
    refine s_getr (v := 225) (pc' := 60) (kX11_has_0 3 rfl) rfl fkX11_93 rfl rfl (kz198 Ln) rfl (by decide) ?_
    refine r_iconst 2 (pc' := 61) (kX11_has_0 4 rfl) rfl (by unfold inR; omega) ?_
    refine s_iald (x := (α 225 2)) (pc' := 62) (kX11_has_0 5 rfl) rfl (kz225 Ln) ⟨by decide, by decide⟩ rfl ?_
    exact s_iret (kX11_has_0 6 rfl) rfl h
  by_cases c1_1 : x1 = 1
  · have h := h.2.1 c1_1
    refine r_tabIn (pc' := 63) 1 c1_1 (kX11_has_0 1 rfl) (by decide) (by decide) rfl rfl ?_
    refine r_aload_n (pc' := 64) (kX11_has_0 7 rfl) rfl rfl ?_
    refine s_getr (v := 226) (pc' := 67) (kX11_has_0 8 rfl) rfl fkX11_96 rfl rfl (kz198 Ln) rfl (by decide) ?_
    refine r_iconst 1 (pc' := 68) (kX11_has_0 9 rfl) rfl (by unfold inR; omega) ?_
    refine r_iload_n (pc' := 69) (kX11_has_0 10 rfl) rfl rfl ?_
    have g2 := h.1
    have h := h.2
    refine r_iadd (pc' := 70) (kX11_has_0 11 rfl) rfl g2 ?_
    have g3 := h.1
    have h := h.2
    refine s_iald (x := (α 226 (1 + x1))) (pc' := 71) (kX11_has_0 12 rfl) rfl (kz226 Ln) g3 rfl ?_
    exact s_iret (kX11_has_0 13 rfl) rfl h
  by_cases c1_2 : x1 = 2
  · have h := h.2.2.1 c1_2
    refine r_tabIn (pc' := 63) 2 c1_2 (kX11_has_0 1 rfl) (by decide) (by decide) rfl rfl ?_
    refine r_aload_n (pc' := 64) (kX11_has_0 7 rfl) rfl rfl ?_
    refine s_getr (v := 226) (pc' := 67) (kX11_has_0 8 rfl) rfl fkX11_96 rfl rfl (kz198 Ln) rfl (by decide) ?_
    refine r_iconst 1 (pc' := 68) (kX11_has_0 9 rfl) rfl (by unfold inR; omega) ?_
    refine r_iload_n (pc' := 69) (kX11_has_0 10 rfl) rfl rfl ?_
    have g4 := h.1
    have h := h.2
    refine r_iadd (pc' := 70) (kX11_has_0 11 rfl) rfl g4 ?_
    have g5 := h.1
    have h := h.2
    refine s_iald (x := (α 226 (1 + x1))) (pc' := 71) (kX11_has_0 12 rfl) rfl (kz226 Ln) g5 rfl ?_
    exact s_iret (kX11_has_0 13 rfl) rfl h
  by_cases c1_3 : x1 = 3
  · have h := h.2.2.2.1 c1_3
    refine r_tabIn (pc' := 72) 3 c1_3 (kX11_has_0 1 rfl) (by decide) (by decide) rfl rfl ?_
    refine r_aload_n (pc' := 73) (kX11_has_0 14 rfl) rfl rfl ?_
    refine s_getr (v := 233) (pc' := 76) (kX11_has_0 15 rfl) rfl fkX11_118 rfl rfl (kz198 Ln) rfl (by decide) ?_
    refine r_iconst 0 (pc' := 77) (kX11_has_0 16 rfl) rfl (by unfold inR; omega) ?_
    refine s_iald (x := (α 233 0)) (pc' := 78) (kX11_has_0 17 rfl) rfl (kz233 Ln) ⟨by decide, by decide⟩ rfl ?_
    exact s_iret (kX11_has_0 18 rfl) rfl h
  by_cases c1_4 : x1 = 4
  · have h := h.2.2.2.2.1 c1_4
    refine r_tabIn (pc' := 79) 4 c1_4 (kX11_has_0 1 rfl) (by decide) (by decide) rfl rfl ?_
    refine r_aload_n (pc' := 80) (kX11_has_0 19 rfl) rfl rfl ?_
    refine s_callV (As := []) (o := 198) (S := []) (S2 := fun z => [(0, z)]) (pc' := 83) (kX11_has_0 20 rfl) rfl rfl nkX11_dropAll mlX11_456 imX11_dropAll rfl slX11_dropAll rfl (Nat.le_of_ble_eq_true rfl) (Nat.le_of_ble_eq_true rfl) (kz198 Ln) h (fun z => rfl) (fun r6 φ6 α6 h => ?_)
    exact s_iret (kX11_has_0 21 rfl) rfl h
  by_cases c1_5 : x1 = 5
  · have h := h.2.2.2.2.2.1 c1_5
    refine r_tabIn (pc' := 84) 5 c1_5 (kX11_has_0 1 rfl) (by decide) (by decide) rfl rfl ?_
    refine r_aload_n (pc' := 85) (kX11_has_0 22 rfl) rfl rfl ?_
    refine s_callV (As := []) (o := 198) (S := []) (S2 := fun z => [(0, z)]) (pc' := 88) (kX11_has_0 23 rfl) rfl rfl nkX11_floorAll mlX11_459 imX11_floorAll rfl slX11_floorAll rfl (Nat.le_of_ble_eq_true rfl) (Nat.le_of_ble_eq_true rfl) (kz198 Ln) h (fun z => rfl) (fun r7 φ7 α7 h => ?_)
    exact s_iret (kX11_has_0 24 rfl) rfl h
  by_cases c1_6 : x1 = 6
  · have h := h.2.2.2.2.2.2.1 c1_6
    refine r_tabIn (pc' := 89) 6 c1_6 (kX11_has_0 1 rfl) (by decide) (by decide) rfl rfl ?_
    refine r_aload_n (pc' := 90) (kX11_has_0 25 rfl) rfl rfl ?_
    refine s_callV (As := []) (o := 198) (S := []) (S2 := fun z => [(0, z)]) (pc' := 93) (kX11_has_0 26 rfl) rfl rfl nkX11_fullMany mlX11_433 imX11_fullMany rfl slX11_fullMany rfl (Nat.le_of_ble_eq_true rfl) (Nat.le_of_ble_eq_true rfl) (kz198 Ln) h (fun z => rfl) (fun r8 φ8 α8 h => ?_)
    exact s_iret (kX11_has_0 27 rfl) rfl h
  by_cases c1_7 : x1 = 7
  · have h := h.2.2.2.2.2.2.2.1 c1_7
    refine r_tabIn (pc' := 94) 7 c1_7 (kX11_has_0 1 rfl) (by decide) (by decide) rfl rfl ?_
    refine r_aload_n (pc' := 95) (kX11_has_0 28 rfl) rfl rfl ?_
    refine s_getr (v := 233) (pc' := 98) (kX11_has_0 29 rfl) rfl fkX11_118 rfl rfl (kz198 Ln) rfl (by decide) ?_
    refine r_bipush 48 (pc' := 100) (kX11_has_0 30 rfl) rfl ⟨by unfold inR; omega, rfl⟩ ?_
    refine s_iald (x := (α 233 48)) (pc' := 101) (kX11_has_0 31 rfl) rfl (kz233 Ln) ⟨by decide, by decide⟩ rfl ?_
    exact s_iret (kX11_has_0 32 rfl) rfl h
  by_cases c1_8 : x1 = 8
  · have h := h.2.2.2.2.2.2.2.2.1 c1_8
    refine r_tabIn (pc' := 102) 8 c1_8 (kX11_has_0 1 rfl) (by decide) (by decide) rfl rfl ?_
    refine r_aload_n (pc' := 103) (kX11_has_0 33 rfl) rfl rfl ?_
    refine s_get (x := (φ 11 55 198)) (pc' := 106) (kX11_has_0 34 rfl) rfl fkX11_370 rfl rfl rfl (kz198 Ln) rfl ?_
    exact s_iret (kX11_has_0 35 rfl) rfl h
  by_cases c1_9 : x1 = 9
  · have h := h.2.2.2.2.2.2.2.2.2.1 c1_9
    refine r_tabIn (pc' := 107) 9 c1_9 (kX11_has_0 1 rfl) (by decide) (by decide) rfl rfl ?_
    refine r_aload_n (pc' := 108) (kX11_has_0 36 rfl) rfl rfl ?_
    refine s_get (x := (φ 11 60 198)) (pc' := 111) (kX11_has_0 37 rfl) rfl fkX11_367 rfl rfl rfl (kz198 Ln) rfl ?_
    exact s_iret (kX11_has_0 38 rfl) rfl h
  have hD := hD ⟨c1_0, c1_1, c1_2, c1_3, c1_4, c1_5, c1_6, c1_7, c1_8, c1_9⟩
  exact r_tabOut (pc' := 112) (kX11_has_0 1 rfl) (by omega) rfl hD
