theorem vJ6_bitCount_0f7a4_0 {d : Nat} {φ : aF} {α : aA} {Q : Int → aF → aA → Prop} {x0 : Int} (h : inR (x0 - (iAnd (iUshr x0 1) 1431655765)) ∧ inR ((iAnd (x0 - (iAnd (iUshr x0 1) 1431655765)) 858993459) + (iAnd (iUshr (x0 - (iAnd (iUshr x0 1) 1431655765)) 2) 858993459)) ∧ inR (((iAnd (x0 - (iAnd (iUshr x0 1) 1431655765)) 858993459) + (iAnd (iUshr (x0 - (iAnd (iUshr x0 1) 1431655765)) 2) 858993459)) + (iUshr ((iAnd (x0 - (iAnd (iUshr x0 1) 1431655765)) 858993459) + (iAnd (iUshr (x0 - (iAnd (iUshr x0 1) 1431655765)) 2) 858993459)) 4)) ∧ inR ((iAnd (((iAnd (x0 - (iAnd (iUshr x0 1) 1431655765)) 858993459) + (iAnd (iUshr (x0 - (iAnd (iUshr x0 1) 1431655765)) 2) 858993459)) + (iUshr ((iAnd (x0 - (iAnd (iUshr x0 1) 1431655765)) 858993459) + (iAnd (iUshr (x0 - (iAnd (iUshr x0 1) 1431655765)) 2) 858993459)) 4)) 252645135) + (iUshr (iAnd (((iAnd (x0 - (iAnd (iUshr x0 1) 1431655765)) 858993459) + (iAnd (iUshr (x0 - (iAnd (iUshr x0 1) 1431655765)) 2) 858993459)) + (iUshr ((iAnd (x0 - (iAnd (iUshr x0 1) 1431655765)) 858993459) + (iAnd (iUshr (x0 - (iAnd (iUshr x0 1) 1431655765)) 2) 858993459)) 4)) 252645135) 8)) ∧ inR (((iAnd (((iAnd (x0 - (iAnd (iUshr x0 1) 1431655765)) 858993459) + (iAnd (iUshr (x0 - (iAnd (iUshr x0 1) 1431655765)) 2) 858993459)) + (iUshr ((iAnd (x0 - (iAnd (iUshr x0 1) 1431655765)) 858993459) + (iAnd (iUshr (x0 - (iAnd (iUshr x0 1) 1431655765)) 2) 858993459)) 4)) 252645135) + (iUshr (iAnd (((iAnd (x0 - (iAnd (iUshr x0 1) 1431655765)) 858993459) + (iAnd (iUshr (x0 - (iAnd (iUshr x0 1) 1431655765)) 2) 858993459)) + (iUshr ((iAnd (x0 - (iAnd (iUshr x0 1) 1431655765)) 858993459) + (iAnd (iUshr (x0 - (iAnd (iUshr x0 1) 1431655765)) 2) 858993459)) 4)) 252645135) 8)) + (iUshr ((iAnd (((iAnd (x0 - (iAnd (iUshr x0 1) 1431655765)) 858993459) + (iAnd (iUshr (x0 - (iAnd (iUshr x0 1) 1431655765)) 2) 858993459)) + (iUshr ((iAnd (x0 - (iAnd (iUshr x0 1) 1431655765)) 858993459) + (iAnd (iUshr (x0 - (iAnd (iUshr x0 1) 1431655765)) 2) 858993459)) 4)) 252645135) + (iUshr (iAnd (((iAnd (x0 - (iAnd (iUshr x0 1) 1431655765)) 858993459) + (iAnd (iUshr (x0 - (iAnd (iUshr x0 1) 1431655765)) 2) 858993459)) + (iUshr ((iAnd (x0 - (iAnd (iUshr x0 1) 1431655765)) 858993459) + (iAnd (iUshr (x0 - (iAnd (iUshr x0 1) 1431655765)) 2) 858993459)) 4)) 252645135) 8)) 16)) ∧ (Q (iAnd (((iAnd (((iAnd (x0 - (iAnd (iUshr x0 1) 1431655765)) 858993459) + (iAnd (iUshr (x0 - (iAnd (iUshr x0 1) 1431655765)) 2) 858993459)) + (iUshr ((iAnd (x0 - (iAnd (iUshr x0 1) 1431655765)) 858993459) + (iAnd (iUshr (x0 - (iAnd (iUshr x0 1) 1431655765)) 2) 858993459)) 4)) 252645135) + (iUshr (iAnd (((iAnd (x0 - (iAnd (iUshr x0 1) 1431655765)) 858993459) + (iAnd (iUshr (x0 - (iAnd (iUshr x0 1) 1431655765)) 2) 858993459)) + (iUshr ((iAnd (x0 - (iAnd (iUshr x0 1) 1431655765)) 858993459) + (iAnd (iUshr (x0 - (iAnd (iUshr x0 1) 1431655765)) 2) 858993459)) 4)) 252645135) 8)) + (iUshr ((iAnd (((iAnd (x0 - (iAnd (iUshr x0 1) 1431655765)) 858993459) + (iAnd (iUshr (x0 - (iAnd (iUshr x0 1) 1431655765)) 2) 858993459)) + (iUshr ((iAnd (x0 - (iAnd (iUshr x0 1) 1431655765)) 858993459) + (iAnd (iUshr (x0 - (iAnd (iUshr x0 1) 1431655765)) 2) 858993459)) 4)) 252645135) + (iUshr (iAnd (((iAnd (x0 - (iAnd (iUshr x0 1) 1431655765)) 858993459) + (iAnd (iUshr (x0 - (iAnd (iUshr x0 1) 1431655765)) 2) 858993459)) + (iUshr ((iAnd (x0 - (iAnd (iUshr x0 1) 1431655765)) 858993459) + (iAnd (iUshr (x0 - (iAnd (iUshr x0 1) 1431655765)) 2) 858993459)) 4)) 252645135) 8)) 16)) 63) φ α)) : eJ6_bitCount_0f7a4 d x0 φ α Q := by
  intro Ln
  refine r_iload_n (pc' := 1) (kJ6_bitCount_0f7a4_0 0 rfl) rfl rfl ?_
  refine r_iload_n (pc' := 2) (kJ6_bitCount_0f7a4_0 1 rfl) rfl rfl ?_
  refine r_iconst 1 (pc' := 3) (kJ6_bitCount_0f7a4_0 2 rfl) rfl (by unfold inR; omega) ?_
  refine r_iushr (pc' := 4) (kJ6_bitCount_0f7a4_0 3 rfl) rfl ?_
  refine r_ldcw 1431655765 (pc' := 7) (kJ6_bitCount_0f7a4_0 4 rfl) rfl kcJ6_265 (by unfold inR; omega) ?_
  refine r_iand (pc' := 8) (kJ6_bitCount_0f7a4_0 5 rfl) rfl ?_
  have g1 := h.1
  have h := h.2
  refine r_isub (pc' := 9) (kJ6_bitCount_0f7a4_0 6 rfl) rfl g1 ?_
  refine r_istore_n (L' := [(0, (x0 - (iAnd (iUshr x0 1) 1431655765)))]) (pc' := 10) (kJ6_bitCount_0f7a4_0 7 rfl) rfl (Nat.le_of_ble_eq_true rfl) rfl ?_
  refine r_iload_n (pc' := 11) (kJ6_bitCount_0f7a4_0 8 rfl) rfl rfl ?_
  refine r_ldcw 858993459 (pc' := 14) (kJ6_bitCount_0f7a4_0 9 rfl) rfl kcJ6_266 (by unfold inR; omega) ?_
  refine r_iand (pc' := 15) (kJ6_bitCount_0f7a4_0 10 rfl) rfl ?_
  refine r_iload_n (pc' := 16) (kJ6_bitCount_0f7a4_0 11 rfl) rfl rfl ?_
  refine r_iconst 2 (pc' := 17) (kJ6_bitCount_0f7a4_0 12 rfl) rfl (by unfold inR; omega) ?_
  refine r_iushr (pc' := 18) (kJ6_bitCount_0f7a4_0 13 rfl) rfl ?_
  refine r_ldcw 858993459 (pc' := 21) (kJ6_bitCount_0f7a4_0 14 rfl) rfl kcJ6_266 (by unfold inR; omega) ?_
  refine r_iand (pc' := 22) (kJ6_bitCount_0f7a4_0 15 rfl) rfl ?_
  have g2 := h.1
  have h := h.2
  refine r_iadd (pc' := 23) (kJ6_bitCount_0f7a4_0 16 rfl) rfl g2 ?_
  refine r_istore_n (L' := [(0, ((iAnd (x0 - (iAnd (iUshr x0 1) 1431655765)) 858993459) + (iAnd (iUshr (x0 - (iAnd (iUshr x0 1) 1431655765)) 2) 858993459)))]) (pc' := 24) (kJ6_bitCount_0f7a4_0 17 rfl) rfl (Nat.le_of_ble_eq_true rfl) rfl ?_
  refine r_iload_n (pc' := 25) (kJ6_bitCount_0f7a4_0 18 rfl) rfl rfl ?_
  refine r_iload_n (pc' := 26) (kJ6_bitCount_0f7a4_0 19 rfl) rfl rfl ?_
  refine r_iconst 4 (pc' := 27) (kJ6_bitCount_0f7a4_0 20 rfl) rfl (by unfold inR; omega) ?_
  refine r_iushr (pc' := 28) (kJ6_bitCount_0f7a4_0 21 rfl) rfl ?_
  have g3 := h.1
  have h := h.2
  refine r_iadd (pc' := 29) (kJ6_bitCount_0f7a4_0 22 rfl) rfl g3 ?_
  refine r_ldcw 252645135 (pc' := 32) (kJ6_bitCount_0f7a4_0 23 rfl) rfl kcJ6_267 (by unfold inR; omega) ?_
  refine r_iand (pc' := 33) (kJ6_bitCount_0f7a4_0 24 rfl) rfl ?_
  refine r_istore_n (L' := [(0, (iAnd (((iAnd (x0 - (iAnd (iUshr x0 1) 1431655765)) 858993459) + (iAnd (iUshr (x0 - (iAnd (iUshr x0 1) 1431655765)) 2) 858993459)) + (iUshr ((iAnd (x0 - (iAnd (iUshr x0 1) 1431655765)) 858993459) + (iAnd (iUshr (x0 - (iAnd (iUshr x0 1) 1431655765)) 2) 858993459)) 4)) 252645135))]) (pc' := 34) (kJ6_bitCount_0f7a4_0 25 rfl) rfl (Nat.le_of_ble_eq_true rfl) rfl ?_
  refine r_iload_n (pc' := 35) (kJ6_bitCount_0f7a4_0 26 rfl) rfl rfl ?_
  refine r_iload_n (pc' := 36) (kJ6_bitCount_0f7a4_0 27 rfl) rfl rfl ?_
  refine r_bipush 8 (pc' := 38) (kJ6_bitCount_0f7a4_0 28 rfl) rfl ⟨by unfold inR; omega, rfl⟩ ?_
  refine r_iushr (pc' := 39) (kJ6_bitCount_0f7a4_0 29 rfl) rfl ?_
  have g4 := h.1
  have h := h.2
  refine r_iadd (pc' := 40) (kJ6_bitCount_0f7a4_0 30 rfl) rfl g4 ?_
  refine r_istore_n (L' := [(0, ((iAnd (((iAnd (x0 - (iAnd (iUshr x0 1) 1431655765)) 858993459) + (iAnd (iUshr (x0 - (iAnd (iUshr x0 1) 1431655765)) 2) 858993459)) + (iUshr ((iAnd (x0 - (iAnd (iUshr x0 1) 1431655765)) 858993459) + (iAnd (iUshr (x0 - (iAnd (iUshr x0 1) 1431655765)) 2) 858993459)) 4)) 252645135) + (iUshr (iAnd (((iAnd (x0 - (iAnd (iUshr x0 1) 1431655765)) 858993459) + (iAnd (iUshr (x0 - (iAnd (iUshr x0 1) 1431655765)) 2) 858993459)) + (iUshr ((iAnd (x0 - (iAnd (iUshr x0 1) 1431655765)) 858993459) + (iAnd (iUshr (x0 - (iAnd (iUshr x0 1) 1431655765)) 2) 858993459)) 4)) 252645135) 8)))]) (pc' := 41) (kJ6_bitCount_0f7a4_0 31 rfl) rfl (Nat.le_of_ble_eq_true rfl) rfl ?_
  refine r_iload_n (pc' := 42) (kJ6_bitCount_0f7a4_0 32 rfl) rfl rfl ?_
  refine r_iload_n (pc' := 43) (kJ6_bitCount_0f7a4_0 33 rfl) rfl rfl ?_
  refine r_bipush 16 (pc' := 45) (kJ6_bitCount_0f7a4_0 34 rfl) rfl ⟨by unfold inR; omega, rfl⟩ ?_
  refine r_iushr (pc' := 46) (kJ6_bitCount_0f7a4_0 35 rfl) rfl ?_
  have g5 := h.1
  have h := h.2
  refine r_iadd (pc' := 47) (kJ6_bitCount_0f7a4_0 36 rfl) rfl g5 ?_
  refine r_istore_n (L' := [(0, (((iAnd (((iAnd (x0 - (iAnd (iUshr x0 1) 1431655765)) 858993459) + (iAnd (iUshr (x0 - (iAnd (iUshr x0 1) 1431655765)) 2) 858993459)) + (iUshr ((iAnd (x0 - (iAnd (iUshr x0 1) 1431655765)) 858993459) + (iAnd (iUshr (x0 - (iAnd (iUshr x0 1) 1431655765)) 2) 858993459)) 4)) 252645135) + (iUshr (iAnd (((iAnd (x0 - (iAnd (iUshr x0 1) 1431655765)) 858993459) + (iAnd (iUshr (x0 - (iAnd (iUshr x0 1) 1431655765)) 2) 858993459)) + (iUshr ((iAnd (x0 - (iAnd (iUshr x0 1) 1431655765)) 858993459) + (iAnd (iUshr (x0 - (iAnd (iUshr x0 1) 1431655765)) 2) 858993459)) 4)) 252645135) 8)) + (iUshr ((iAnd (((iAnd (x0 - (iAnd (iUshr x0 1) 1431655765)) 858993459) + (iAnd (iUshr (x0 - (iAnd (iUshr x0 1) 1431655765)) 2) 858993459)) + (iUshr ((iAnd (x0 - (iAnd (iUshr x0 1) 1431655765)) 858993459) + (iAnd (iUshr (x0 - (iAnd (iUshr x0 1) 1431655765)) 2) 858993459)) 4)) 252645135) + (iUshr (iAnd (((iAnd (x0 - (iAnd (iUshr x0 1) 1431655765)) 858993459) + (iAnd (iUshr (x0 - (iAnd (iUshr x0 1) 1431655765)) 2) 858993459)) + (iUshr ((iAnd (x0 - (iAnd (iUshr x0 1) 1431655765)) 858993459) + (iAnd (iUshr (x0 - (iAnd (iUshr x0 1) 1431655765)) 2) 858993459)) 4)) 252645135) 8)) 16)))]) (pc' := 48) (kJ6_bitCount_0f7a4_0 37 rfl) rfl (Nat.le_of_ble_eq_true rfl) rfl ?_
  refine r_iload_n (pc' := 49) (kJ6_bitCount_0f7a4_0 38 rfl) rfl rfl ?_
  refine r_bipush 63 (pc' := 51) (kJ6_bitCount_0f7a4_0 39 rfl) rfl ⟨by unfold inR; omega, rfl⟩ ?_
  refine r_iand (pc' := 52) (kJ6_bitCount_0f7a4_0 40 rfl) rfl ?_
  exact s_iret (kJ6_bitCount_0f7a4_0 41 rfl) rfl h
theorem vJ9_floorDiv_7cf53_0 {d : Nat} {φ : aF} {α : aA} {Q : Int → aF → aA → Prop} {x0 : Int} {x1 : Int} (h : (x1 ≠ 0 ∧ inR (Int.tdiv x0 x1)) ∧ ((0 ≤ (iXor x0 x1) →
   (Q (Int.tdiv x0 x1) φ α)) ∧
   (¬ (0 ≤ (iXor x0 x1)) →
   inR ((Int.tdiv x0 x1) * x1) ∧ ((((Int.tdiv x0 x1) * x1) = x0 →
     (Q (Int.tdiv x0 x1) φ α)) ∧
     (¬ (((Int.tdiv x0 x1) * x1) = x0) →
     inR ((Int.tdiv x0 x1) - 1) ∧ (Q ((Int.tdiv x0 x1) - 1) φ α)))))) : eJ9_floorDiv_7cf53 d x0 x1 φ α Q := by
  intro Ln
  refine r_iload_n (pc' := 1) (kJ9_floorDiv_7cf53_0 0 rfl) rfl rfl ?_
  refine r_iload_n (pc' := 2) (kJ9_floorDiv_7cf53_0 1 rfl) rfl rfl ?_
  have g1 := h.1
  have h := h.2
  refine r_idiv (pc' := 3) (kJ9_floorDiv_7cf53_0 2 rfl) rfl g1 ?_
  refine r_istore_n (L' := [(0, x0), (0, x1), (0, (Int.tdiv x0 x1))]) (pc' := 4) (kJ9_floorDiv_7cf53_0 3 rfl) rfl (Nat.le_of_ble_eq_true rfl) rfl ?_
  refine r_iload_n (pc' := 5) (kJ9_floorDiv_7cf53_0 4 rfl) rfl rfl ?_
  refine r_iload_n (pc' := 6) (kJ9_floorDiv_7cf53_0 5 rfl) rfl rfl ?_
  refine r_ixor (pc' := 7) (kJ9_floorDiv_7cf53_0 6 rfl) rfl ?_
  refine r_if_ge (t := 21) (pc' := 10) (kJ9_floorDiv_7cf53_0 7 rfl) rfl rfl (fun c2 => ?_) (fun c2 => ?_)
  · have h := h.1 c2
    refine r_iload_n (pc' := 22) (kJ9_floorDiv_7cf53_0 17 rfl) rfl rfl ?_
    exact s_iret (kJ9_floorDiv_7cf53_0 18 rfl) rfl h
  · have h := h.2 c2
    refine r_iload_n (pc' := 11) (kJ9_floorDiv_7cf53_0 8 rfl) rfl rfl ?_
    refine r_iload_n (pc' := 12) (kJ9_floorDiv_7cf53_0 9 rfl) rfl rfl ?_
    have g3 := h.1
    have h := h.2
    refine r_imul (pc' := 13) (kJ9_floorDiv_7cf53_0 10 rfl) rfl g3 ?_
    refine r_iload_n (pc' := 14) (kJ9_floorDiv_7cf53_0 11 rfl) rfl rfl ?_
    refine r_icmp_eq (t := 21) (pc' := 17) (kJ9_floorDiv_7cf53_0 12 rfl) rfl rfl (fun c4 => ?_) (fun c4 => ?_)
    · have h := h.1 c4
      refine r_iload_n (pc' := 22) (kJ9_floorDiv_7cf53_0 17 rfl) rfl rfl ?_
      exact s_iret (kJ9_floorDiv_7cf53_0 18 rfl) rfl h
    · have h := h.2 c4
      refine r_iload_n (pc' := 18) (kJ9_floorDiv_7cf53_0 13 rfl) rfl rfl ?_
      refine r_iconst 1 (pc' := 19) (kJ9_floorDiv_7cf53_0 14 rfl) rfl (by unfold inR; omega) ?_
      have g5 := h.1
      have h := h.2
      refine r_isub (pc' := 20) (kJ9_floorDiv_7cf53_0 15 rfl) rfl g5 ?_
      exact s_iret (kJ9_floorDiv_7cf53_0 16 rfl) rfl h
theorem vJ9_max_7cf53_0 {d : Nat} {φ : aF} {α : aA} {Q : Int → aF → aA → Prop} {x0 : Int} {x1 : Int} (h : ((x0 < x1 →
   (Q x1 φ α)) ∧
   (¬ (x0 < x1) →
   (Q x0 φ α)))) : eJ9_max_7cf53 d x0 x1 φ α Q := by
  intro Ln
  refine r_iload_n (pc' := 1) (kJ9_max_7cf53_0 0 rfl) rfl rfl ?_
  refine r_iload_n (pc' := 2) (kJ9_max_7cf53_0 1 rfl) rfl rfl ?_
  refine r_icmp_lt (t := 9) (pc' := 5) (kJ9_max_7cf53_0 2 rfl) rfl rfl (fun c1 => ?_) (fun c1 => ?_)
  · have h := h.1 c1
    refine r_iload_n (pc' := 10) (kJ9_max_7cf53_0 5 rfl) rfl rfl ?_
    exact s_iret (kJ9_max_7cf53_0 6 rfl) rfl h
  · have h := h.2 c1
    refine r_iload_n (pc' := 6) (kJ9_max_7cf53_0 3 rfl) rfl rfl ?_
    refine r_goto (pc' := 10) (kJ9_max_7cf53_0 4 rfl) rfl ?_
    exact s_iret (kJ9_max_7cf53_0 6 rfl) rfl h
theorem vJ9_max_f86c9_0 {d : Nat} {φ : aF} {α : aA} {Q : Int → aF → aA → Prop} {x0 : Int} {x2 : Int} (h : (((j3 x0 x2) < 0 →
   (Q x2 φ α)) ∧
   (¬ ((j3 x0 x2) < 0) →
   (Q x0 φ α)))) : eJ9_max_f86c9 d x0 x2 φ α Q := by
  intro Ln
  refine r_lload_n (pc' := 1) (kJ9_max_f86c9_0 0 rfl) rfl rfl ?_
  refine r_lload_n (pc' := 2) (kJ9_max_f86c9_0 1 rfl) rfl rfl ?_
  refine r_lcmp (pc' := 3) (kJ9_max_f86c9_0 2 rfl) rfl ?_
  refine r_if_lt (t := 10) (pc' := 6) (kJ9_max_f86c9_0 3 rfl) rfl rfl (fun c1 => ?_) (fun c1 => ?_)
  · have h := h.1 c1
    refine r_lload_n (pc' := 11) (kJ9_max_f86c9_0 6 rfl) rfl rfl ?_
    exact s_lret (kJ9_max_f86c9_0 7 rfl) rfl h
  · have h := h.2 c1
    refine r_lload_n (pc' := 7) (kJ9_max_f86c9_0 4 rfl) rfl rfl ?_
    refine r_goto (pc' := 11) (kJ9_max_f86c9_0 5 rfl) rfl ?_
    exact s_lret (kJ9_max_f86c9_0 7 rfl) rfl h
theorem vJ9_min_7cf53_0 {d : Nat} {φ : aF} {α : aA} {Q : Int → aF → aA → Prop} {x0 : Int} {x1 : Int} (h : ((x1 < x0 →
   (Q x1 φ α)) ∧
   (¬ (x1 < x0) →
   (Q x0 φ α)))) : eJ9_min_7cf53 d x0 x1 φ α Q := by
  intro Ln
  refine r_iload_n (pc' := 1) (kJ9_min_7cf53_0 0 rfl) rfl rfl ?_
  refine r_iload_n (pc' := 2) (kJ9_min_7cf53_0 1 rfl) rfl rfl ?_
  refine r_icmp_gt (t := 9) (pc' := 5) (kJ9_min_7cf53_0 2 rfl) rfl rfl (fun c1 => ?_) (fun c1 => ?_)
  · have h := h.1 c1
    refine r_iload_n (pc' := 10) (kJ9_min_7cf53_0 5 rfl) rfl rfl ?_
    exact s_iret (kJ9_min_7cf53_0 6 rfl) rfl h
  · have h := h.2 c1
    refine r_iload_n (pc' := 6) (kJ9_min_7cf53_0 3 rfl) rfl rfl ?_
    refine r_goto (pc' := 10) (kJ9_min_7cf53_0 4 rfl) rfl ?_
    exact s_iret (kJ9_min_7cf53_0 6 rfl) rfl h
theorem vJ9_min_f86c9_0 {d : Nat} {φ : aF} {α : aA} {Q : Int → aF → aA → Prop} {x0 : Int} {x2 : Int} (h : ((0 < (j3 x0 x2) →
   (Q x2 φ α)) ∧
   (¬ (0 < (j3 x0 x2)) →
   (Q x0 φ α)))) : eJ9_min_f86c9 d x0 x2 φ α Q := by
  intro Ln
  refine r_lload_n (pc' := 1) (kJ9_min_f86c9_0 0 rfl) rfl rfl ?_
  refine r_lload_n (pc' := 2) (kJ9_min_f86c9_0 1 rfl) rfl rfl ?_
  refine r_lcmp (pc' := 3) (kJ9_min_f86c9_0 2 rfl) rfl ?_
  refine r_if_gt (t := 10) (pc' := 6) (kJ9_min_f86c9_0 3 rfl) rfl rfl (fun c1 => ?_) (fun c1 => ?_)
  · have h := h.1 c1
    refine r_lload_n (pc' := 11) (kJ9_min_f86c9_0 6 rfl) rfl rfl ?_
    exact s_lret (kJ9_min_f86c9_0 7 rfl) rfl h
  · have h := h.2 c1
    refine r_lload_n (pc' := 7) (kJ9_min_f86c9_0 4 rfl) rfl rfl ?_
    refine r_goto (pc' := 11) (kJ9_min_f86c9_0 5 rfl) rfl ?_
    exact s_lret (kJ9_min_f86c9_0 7 rfl) rfl h
