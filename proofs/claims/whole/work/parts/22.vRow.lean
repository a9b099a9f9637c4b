theorem vX6_at_0 {d : Nat} {φ : aF} {α : aA} {Q : Int → aF → aA → Prop} {o : Int} {no : Nat} {x1 : Int} (ho : isRow o no) (h : ((x1 < 0 →
   (Q (-1) φ α)) ∧
   (¬ (x1 < 0) →
   (((φ 6 1 o) ≤ x1 →
     (Q (-1) φ α)) ∧
     (¬ ((φ 6 1 o) ≤ x1) →
     (((no : Int) ≤ x1 →
       (Q (-1) φ α)) ∧
       (¬ ((no : Int) ≤ x1) →
       (0 ≤ x1 ∧ x1 < (no : Nat)) ∧ (Q (α (o + 1) x1) φ α)))))))) : eX6_at d o x1 φ α Q := by
  intro Ln
  refine r_iload_n (pc' := 1) (kX6_at_0 0 rfl) rfl rfl ?_
  refine r_if_lt (t := 30) (pc' := 4) (kX6_at_0 1 rfl) rfl rfl (fun c1 => ?_) (fun c1 => ?_)
  · have h := h.1 c1
    refine r_iconst (-1) (pc' := 31) (kX6_at_0 16 rfl) rfl (by unfold inR; omega) ?_
    exact s_iret (kX6_at_0 17 rfl) rfl h
  · have h := h.2 c1
    refine r_iload_n (pc' := 5) (kX6_at_0 2 rfl) rfl rfl ?_
    refine r_aload_n (pc' := 6) (kX6_at_0 3 rfl) rfl rfl ?_
    refine s_get (x := (φ 6 1 o)) (pc' := 9) (kX6_at_0 4 rfl) rfl fkX6_21 rfl rfl rfl (ho.1 Ln) rfl ?_
    refine r_icmp_ge (t := 30) (pc' := 12) (kX6_at_0 5 rfl) rfl rfl (fun c2 => ?_) (fun c2 => ?_)
    · have h := h.1 c2
      refine r_iconst (-1) (pc' := 31) (kX6_at_0 16 rfl) rfl (by unfold inR; omega) ?_
      exact s_iret (kX6_at_0 17 rfl) rfl h
    · have h := h.2 c2
      refine r_iload_n (pc' := 13) (kX6_at_0 6 rfl) rfl rfl ?_
      refine r_aload_n (pc' := 14) (kX6_at_0 7 rfl) rfl rfl ?_
      refine s_getr (v := (o + 1)) (pc' := 17) (kX6_at_0 8 rfl) rfl fkX6_15 rfl rfl (ho.1 Ln) rfl (by have := ho.2.2; omega) ?_
      refine s_alen (pc' := 18) (kX6_at_0 9 rfl) rfl (ho.2.1 Ln) ⟨by decide, by decide⟩ ?_
      refine r_icmp_ge (t := 30) (pc' := 21) (kX6_at_0 10 rfl) rfl rfl (fun c3 => ?_) (fun c3 => ?_)
      · have h := h.1 c3
        refine r_iconst (-1) (pc' := 31) (kX6_at_0 16 rfl) rfl (by unfold inR; omega) ?_
        exact s_iret (kX6_at_0 17 rfl) rfl h
      · have h := h.2 c3
        refine r_aload_n (pc' := 22) (kX6_at_0 11 rfl) rfl rfl ?_
        refine s_getr (v := (o + 1)) (pc' := 25) (kX6_at_0 12 rfl) rfl fkX6_15 rfl rfl (ho.1 Ln) rfl (by have := ho.2.2; omega) ?_
        refine r_iload_n (pc' := 26) (kX6_at_0 13 rfl) rfl rfl ?_
        have g4 := h.1
        have h := h.2
        refine s_iald (x := (α (o + 1) x1)) (pc' := 27) (kX6_at_0 14 rfl) rfl (ho.2.1 Ln) g4 rfl ?_
        refine r_goto (pc' := 31) (kX6_at_0 15 rfl) rfl ?_
        exact s_iret (kX6_at_0 17 rfl) rfl h
theorem vX6_put_0 {d : Nat} {φ : aF} {α : aA} {Q : Int → aF → aA → Prop} {o : Int} {no : Nat} {x1 : Int} (ho : isRow o no) (h : (((φ 6 1 o) < 0 →
   (Q 0 φ α)) ∧
   (¬ ((φ 6 1 o) < 0) →
   (((no : Int) ≤ (φ 6 1 o) →
     (Q 0 φ α)) ∧
     (¬ ((no : Int) ≤ (φ 6 1 o)) →
     (0 ≤ (φ 6 1 o) ∧ (φ 6 1 o) < (no : Nat)) ∧ inR ((φ 6 1 o) + 1) ∧ (Q 0 (upf φ 6 1 o ((φ 6 1 o) + 1)) (upa α (o + 1) (φ 6 1 o) x1))))))) : eX6_put d o x1 φ α Q := by
  intro Ln
  refine r_aload_n (pc' := 1) (kX6_put_0 0 rfl) rfl rfl ?_
  refine s_get (x := (φ 6 1 o)) (pc' := 4) (kX6_put_0 1 rfl) rfl fkX6_21 rfl rfl rfl (ho.1 Ln) rfl ?_
  refine r_if_lt (t := 39) (pc' := 7) (kX6_put_0 2 rfl) rfl rfl (fun c1 => ?_) (fun c1 => ?_)
  · have h := h.1 c1
    exact s_vret (kX6_put_0 21 rfl) rfl h
  · have h := h.2 c1
    refine r_aload_n (pc' := 8) (kX6_put_0 3 rfl) rfl rfl ?_
    refine s_get (x := (φ 6 1 o)) (pc' := 11) (kX6_put_0 4 rfl) rfl fkX6_21 rfl rfl rfl (ho.1 Ln) rfl ?_
    refine r_aload_n (pc' := 12) (kX6_put_0 5 rfl) rfl rfl ?_
    refine s_getr (v := (o + 1)) (pc' := 15) (kX6_put_0 6 rfl) rfl fkX6_15 rfl rfl (ho.1 Ln) rfl (by have := ho.2.2; omega) ?_
    refine s_alen (pc' := 16) (kX6_put_0 7 rfl) rfl (ho.2.1 Ln) ⟨by decide, by decide⟩ ?_
    refine r_icmp_ge (t := 39) (pc' := 19) (kX6_put_0 8 rfl) rfl rfl (fun c2 => ?_) (fun c2 => ?_)
    · have h := h.1 c2
      exact s_vret (kX6_put_0 21 rfl) rfl h
    · have h := h.2 c2
      refine r_aload_n (pc' := 20) (kX6_put_0 9 rfl) rfl rfl ?_
      refine s_getr (v := (o + 1)) (pc' := 23) (kX6_put_0 10 rfl) rfl fkX6_15 rfl rfl (ho.1 Ln) rfl (by have := ho.2.2; omega) ?_
      refine r_aload_n (pc' := 24) (kX6_put_0 11 rfl) rfl rfl ?_
      refine s_get (x := (φ 6 1 o)) (pc' := 27) (kX6_put_0 12 rfl) rfl fkX6_21 rfl rfl rfl (ho.1 Ln) rfl ?_
      refine r_iload_n (pc' := 28) (kX6_put_0 13 rfl) rfl rfl ?_
      have g3 := h.1
      have h := h.2
      refine s_iast (pc' := 29) (kX6_put_0 14 rfl) rfl (ho.2.1 Ln) g3 ?_
      refine r_aload_n (pc' := 30) (kX6_put_0 15 rfl) rfl rfl ?_
      refine r_dup (pc' := 31) (kX6_put_0 16 rfl) rfl rfl ?_
      refine s_get (x := (φ 6 1 o)) (pc' := 34) (kX6_put_0 17 rfl) rfl fkX6_21 rfl rfl rfl (ho.1 Ln) rfl ?_
      refine r_iconst 1 (pc' := 35) (kX6_put_0 18 rfl) rfl (by unfold inR; omega) ?_
      have g4 := h.1
      have h := h.2
      refine r_iadd (pc' := 36) (kX6_put_0 19 rfl) rfl g4 ?_
      refine s_put (pc' := 39) (kX6_put_0 20 rfl) rfl fkX6_21 fnX6_1 rfl pk_int (ho.1 Ln) ?_
      exact s_vret (kX6_put_0 21 rfl) rfl h
theorem vX6_clear_0 {d : Nat} {φ : aF} {α : aA} {Q : Int → aF → aA → Prop} {o : Int} {no : Nat} (ho : isRow o no) (h : (Q 0 (upf φ 6 1 o 0) α)) : eX6_clear d o φ α Q := by
  intro Ln
  refine r_aload_n (pc' := 1) (kX6_clear_0 0 rfl) rfl rfl ?_
  refine r_iconst 0 (pc' := 2) (kX6_clear_0 1 rfl) rfl (by unfold inR; omega) ?_
  refine s_put (pc' := 5) (kX6_clear_0 2 rfl) rfl fkX6_21 fnX6_1 rfl pk_int (ho.1 Ln) ?_
  exact s_vret (kX6_clear_0 3 rfl) rfl h
abbrev jX6_copyFrom_18 (d : Nat) (o x1 x2 : Int) (φ : aF) (α : aA) (Q : Int → aF → aA → Prop) : Prop := R0 d mX6_copyFrom 18 [(2, o), (2, x1), (0, x2)] [] φ α Q
theorem vX6_copyFrom_0 {d : Nat} {φ : aF} {α : aA} {Q : Int → aF → aA → Prop} {o : Int} {no : Nat} {x1 : Int} {nx1 : Nat} (ho : isRow o no) (hx1 : isRow x1 nx1) (h : (eJ9_min_7cf53 d (φ 6 1 x1) (no : Int) φ α (fun r1 φ1 α1 =>
   (jX6_copyFrom_18 (d + 1) o x1 0 (upf φ1 6 1 o r1) α1 Q)))) : eX6_copyFrom (d + 1) o x1 φ α Q := by
  intro Ln
  refine r_aload_n (pc' := 1) (kX6_copyFrom_0 0 rfl) rfl rfl ?_
  refine r_aload_n (pc' := 2) (kX6_copyFrom_0 1 rfl) rfl rfl ?_
  refine s_get (x := (φ 6 1 x1)) (pc' := 5) (kX6_copyFrom_0 2 rfl) rfl fkX6_21 rfl rfl rfl (hx1.1 Ln) rfl ?_
  refine r_aload_n (pc' := 6) (kX6_copyFrom_0 3 rfl) rfl rfl ?_
  refine s_getr (v := (o + 1)) (pc' := 9) (kX6_copyFrom_0 4 rfl) rfl fkX6_15 rfl rfl (ho.1 Ln) rfl (by have := ho.2.2; omega) ?_
  refine s_alen (pc' := 10) (kX6_copyFrom_0 5 rfl) rfl (ho.2.1 Ln) ⟨by decide, by decide⟩ ?_
  refine s_callS (As := [(0, (φ 6 1 x1)), (0, (no : Int))]) (S := [(2, o)]) (S2 := fun z => [(0, z), (2, o)]) (pc' := 13) (kX6_copyFrom_0 6 rfl) rfl rfl nkJ9_min_7cf53 mlX6_25 scJ9_min_7cf53 rfl (Nat.le_of_ble_eq_true rfl) (Nat.le_of_ble_eq_true rfl) h (fun z => rfl) (fun r1 φ1 α1 h => ?_)
  refine s_put (pc' := 16) (kX6_copyFrom_0 7 rfl) rfl fkX6_21 fnX6_1 rfl pk_int (ho.1 Ln) ?_
  refine r_iconst 0 (pc' := 17) (kX6_copyFrom_0 8 rfl) rfl (by unfold inR; omega) ?_
  refine r_istore_n (L' := [(2, o), (2, x1), (0, 0)]) (pc' := 18) (kX6_copyFrom_0 9 rfl) rfl (Nat.le_of_ble_eq_true rfl) rfl ?_
  exact r_weak (L' := [(2, o), (2, x1), (0, 0)]) ⟨Or.inl rfl, Or.inl rfl, Or.inl rfl, trivial⟩ (h Ln)
theorem vX6_copyFrom_18 {d : Nat} {φ : aF} {α : aA} {Q : Int → aF → aA → Prop} {o : Int} {no : Nat} {x1 : Int} {nx1 : Nat} {x2 : Int} (ho : isRow o no) (hx1 : isRow x1 nx1) (h : (((φ 6 1 o) ≤ x2 →
   (Q 0 φ α)) ∧
   (¬ ((φ 6 1 o) ≤ x2) →
   (eX6_at d x1 x2 φ α (fun r2 φ2 α2 =>
     (eX10_set d (o + 1) x2 r2 φ2 α2 (fun r3 φ3 α3 =>
     inR (x2 + 1) ∧ (jX6_copyFrom_18 (d + 1) o x1 (x2 + 1) φ3 α3 Q)))))))) : jX6_copyFrom_18 (d + 1) o x1 x2 φ α Q := by
  intro Ln
  refine r_iload_n (pc' := 19) (kX6_copyFrom_0 10 rfl) rfl rfl ?_
  refine r_aload_n (pc' := 20) (kX6_copyFrom_0 11 rfl) rfl rfl ?_
  refine s_get (x := (φ 6 1 o)) (pc' := 23) (kX6_copyFrom_0 12 rfl) rfl fkX6_21 rfl rfl rfl (ho.1 Ln) rfl ?_
  refine r_icmp_ge (t := 45) (pc' := 26) (kX6_copyFrom_0 13 rfl) rfl rfl (fun c1 => ?_) (fun c1 => ?_)
  · have h := h.1 c1
    exact s_vret (kX6_copyFrom_0 23 rfl) rfl h
  · have h := h.2 c1
    refine r_aload_n (pc' := 27) (kX6_copyFrom_0 14 rfl) rfl rfl ?_
    refine s_getr (v := (o + 1)) (pc' := 30) (kX6_copyFrom_0 15 rfl) rfl fkX6_15 rfl rfl (ho.1 Ln) rfl (by have := ho.2.2; omega) ?_
    refine r_iload_n (pc' := 31) (kX6_copyFrom_0 16 rfl) rfl rfl ?_
    refine r_aload_n (pc' := 32) (kX6_copyFrom_0 17 rfl) rfl rfl ?_
    refine r_iload_n (pc' := 33) (kX6_copyFrom_0 18 rfl) rfl rfl ?_
    refine s_callV (As := [(0, x2)]) (o := x1) (S := [(0, x2), (2, (o + 1))]) (S2 := fun z => [(0, z), (0, x2), (2, (o + 1))]) (pc' := 36) (kX6_copyFrom_0 19 rfl) rfl rfl nkX6_at mlX6_28 imX6_at rfl slX6_at rfl (Nat.le_of_ble_eq_true rfl) (Nat.le_of_ble_eq_true rfl) (hx1.1 Ln) h (fun z => rfl) (fun r2 φ2 α2 h => ?_)
    refine s_callS (As := [(2, (o + 1)), (0, x2), (0, r2)]) (S := []) (S2 := fun z => []) (pc' := 39) (kX6_copyFrom_0 20 rfl) rfl rfl nkX10_set mlX6_32 scX10_set rfl (Nat.le_of_ble_eq_true rfl) (Nat.le_of_ble_eq_true rfl) h (fun z => rfl) (fun r3 φ3 α3 h => ?_)
    have g4 := h.1
    have h := h.2
    refine r_iinc (L' := [(2, o), (2, x1), (0, (x2 + 1))]) (pc' := 42) (kX6_copyFrom_0 21 rfl) rfl (Nat.le_of_ble_eq_true rfl) rfl g4 rfl ?_
    refine r_goto (pc' := 18) (kX6_copyFrom_0 22 rfl) rfl ?_
    exact r_weak (L' := [(2, o), (2, x1), (0, (x2 + 1))]) ⟨Or.inl rfl, Or.inl rfl, Or.inl rfl, trivial⟩ (h Ln)
abbrev jX6_holds_2 (d : Nat) (o x1 x2 : Int) (φ : aF) (α : aA) (Q : Int → aF → aA → Prop) : Prop := R0 d mX6_holds 2 [(2, o), (0, x1), (0, x2)] [] φ α Q
theorem vX6_holds_0 {d : Nat} {φ : aF} {α : aA} {Q : Int → aF → aA → Prop} {o : Int} {no : Nat} {x1 : Int} (ho : isRow o no) (h : (jX6_holds_2 (d + 1) o x1 0 φ α Q)) : eX6_holds (d + 1) o x1 φ α Q := by
  intro Ln
  refine r_iconst 0 (pc' := 1) (kX6_holds_0 0 rfl) rfl (by unfold inR; omega) ?_
  refine r_istore_n (L' := [(2, o), (0, x1), (0, 0)]) (pc' := 2) (kX6_holds_0 1 rfl) rfl (Nat.le_of_ble_eq_true rfl) rfl ?_
  exact r_weak (L' := [(2, o), (0, x1), (0, 0)]) ⟨Or.inl rfl, Or.inl rfl, Or.inl rfl, trivial⟩ (h Ln)
theorem vX6_holds_2 {d : Nat} {φ : aF} {α : aA} {Q : Int → aF → aA → Prop} {o : Int} {no : Nat} {x1 : Int} {x2 : Int} (ho : isRow o no) (h : (((φ 6 1 o) ≤ x2 →
   (Q 0 φ α)) ∧
   (¬ ((φ 6 1 o) ≤ x2) →
   (eX6_at d o x2 φ α (fun r2 φ2 α2 =>
     ((¬ r2 = x1 →
     inR (x2 + 1) ∧ (jX6_holds_2 (d + 1) o x1 (x2 + 1) φ2 α2 Q)) ∧
     (r2 = x1 →
     (Q 1 φ2 α2)))))))) : jX6_holds_2 (d + 1) o x1 x2 φ α Q := by
  intro Ln
  refine r_iload_n (pc' := 3) (kX6_holds_0 2 rfl) rfl rfl ?_
  refine r_aload_n (pc' := 4) (kX6_holds_0 3 rfl) rfl rfl ?_
  refine s_get (x := (φ 6 1 o)) (pc' := 7) (kX6_holds_0 4 rfl) rfl fkX6_21 rfl rfl rfl (ho.1 Ln) rfl ?_
  refine r_icmp_ge (t := 27) (pc' := 10) (kX6_holds_0 5 rfl) rfl rfl (fun c1 => ?_) (fun c1 => ?_)
  · have h := h.1 c1
    refine r_iconst 0 (pc' := 28) (kX6_holds_0 15 rfl) rfl (by unfold inR; omega) ?_
    exact s_zret (kX6_holds_0 16 rfl) rfl (Or.inl rfl) h
  · have h := h.2 c1
    refine r_aload_n (pc' := 11) (kX6_holds_0 6 rfl) rfl rfl ?_
    refine r_iload_n (pc' := 12) (kX6_holds_0 7 rfl) rfl rfl ?_
    refine s_callV (As := [(0, x2)]) (o := o) (S := []) (S2 := fun z => [(0, z)]) (pc' := 15) (kX6_holds_0 8 rfl) rfl rfl nkX6_at mlX6_28 imX6_at rfl slX6_at rfl (Nat.le_of_ble_eq_true rfl) (Nat.le_of_ble_eq_true rfl) (ho.1 Ln) h (fun z => rfl) (fun r2 φ2 α2 h => ?_)
    refine r_iload_n (pc' := 16) (kX6_holds_0 9 rfl) rfl rfl ?_
    refine r_icmp_ne (t := 21) (pc' := 19) (kX6_holds_0 10 rfl) rfl rfl (fun c3 => ?_) (fun c3 => ?_)
    · have h := h.1 c3
      have g4 := h.1
      have h := h.2
      refine r_iinc (L' := [(2, o), (0, x1), (0, (x2 + 1))]) (pc' := 24) (kX6_holds_0 13 rfl) rfl (Nat.le_of_ble_eq_true rfl) rfl g4 rfl ?_
      refine r_goto (pc' := 2) (kX6_holds_0 14 rfl) rfl ?_
      exact r_weak (L' := [(2, o), (0, x1), (0, (x2 + 1))]) ⟨Or.inl rfl, Or.inl rfl, Or.inl rfl, trivial⟩ (h Ln)
    · have h := h.2 c3
      refine r_iconst 1 (pc' := 20) (kX6_holds_0 11 rfl) rfl (by unfold inR; omega) ?_
      exact s_zret (kX6_holds_0 12 rfl) rfl (Or.inr rfl) h
abbrev jX6_checkOf_6 (d : Nat) (o x1 x2 x3 : Int) (φ : aF) (α : aA) (Q : Int → aF → aA → Prop) : Prop := R0 d mX6_checkOf 6 [(2, o), (0, x1), (0, x2), (0, x3)] [] φ α Q
theorem vX6_checkOf_0 {d : Nat} {φ : aF} {α : aA} {Q : Int → aF → aA → Prop} {o : Int} {no : Nat} {x1 : Int} (ho : isRow o no) (h : (jX6_checkOf_6 (d + 1) o x1 191 0 φ α Q)) : eX6_checkOf (d + 1) o x1 φ α Q := by
  intro Ln
  refine r_sipush 191 (pc' := 3) (kX6_checkOf_0 0 rfl) rfl ⟨by unfold inR; omega, rfl⟩ ?_
  refine r_istore_n (L' := [(2, o), (0, x1), (0, 191), (9, 0)]) (pc' := 4) (kX6_checkOf_0 1 rfl) rfl (Nat.le_of_ble_eq_true rfl) rfl ?_
  refine r_iconst 0 (pc' := 5) (kX6_checkOf_0 2 rfl) rfl (by unfold inR; omega) ?_
  refine r_istore_n (L' := [(2, o), (0, x1), (0, 191), (0, 0)]) (pc' := 6) (kX6_checkOf_0 3 rfl) rfl (Nat.le_of_ble_eq_true rfl) rfl ?_
  exact r_weak (L' := [(2, o), (0, x1), (0, 191), (0, 0)]) ⟨Or.inl rfl, Or.inl rfl, Or.inl rfl, Or.inl rfl, trivial⟩ (h Ln)
theorem vX6_checkOf_6 {d : Nat} {φ : aF} {α : aA} {Q : Int → aF → aA → Prop} {o : Int} {no : Nat} {x1 : Int} {x2 : Int} {x3 : Int} (ho : isRow o no) (h : ((x1 ≤ x3 →
   (Q x2 φ α)) ∧
   (¬ (x1 ≤ x3) →
   inR (3 * x2) ∧ (eX6_at d o x3 φ α (fun r3 φ3 α3 =>
     inR ((3 * x2) + r3) ∧ inR (Int.tmod ((3 * x2) + r3) 251) ∧ inR (x3 + 1) ∧ (jX6_checkOf_6 (d + 1) o x1 (Int.tmod ((3 * x2) + r3) 251) (x3 + 1) φ3 α3 Q)))))) : jX6_checkOf_6 (d + 1) o x1 x2 x3 φ α Q := by
  intro Ln
  refine r_iload_n (pc' := 7) (kX6_checkOf_0 4 rfl) rfl rfl ?_
  refine r_iload_n (pc' := 8) (kX6_checkOf_0 5 rfl) rfl rfl ?_
  refine r_icmp_ge (t := 31) (pc' := 11) (kX6_checkOf_0 6 rfl) rfl rfl (fun c1 => ?_) (fun c1 => ?_)
  · have h := h.1 c1
    refine r_iload_n (pc' := 32) (kX6_checkOf_0 19 rfl) rfl rfl ?_
    exact s_iret (kX6_checkOf_0 20 rfl) rfl h
  · have h := h.2 c1
    refine r_iconst 3 (pc' := 12) (kX6_checkOf_0 7 rfl) rfl (by unfold inR; omega) ?_
    refine r_iload_n (pc' := 13) (kX6_checkOf_0 8 rfl) rfl rfl ?_
    have g2 := h.1
    have h := h.2
    refine r_imul (pc' := 14) (kX6_checkOf_0 9 rfl) rfl g2 ?_
    refine r_aload_n (pc' := 15) (kX6_checkOf_0 10 rfl) rfl rfl ?_
    refine r_iload_n (pc' := 16) (kX6_checkOf_0 11 rfl) rfl rfl ?_
    refine s_callV (As := [(0, x3)]) (o := o) (S := [(0, (3 * x2))]) (S2 := fun z => [(0, z), (0, (3 * x2))]) (pc' := 19) (kX6_checkOf_0 12 rfl) rfl rfl nkX6_at mlX6_28 imX6_at rfl slX6_at rfl (Nat.le_of_ble_eq_true rfl) (Nat.le_of_ble_eq_true rfl) (ho.1 Ln) h (fun z => rfl) (fun r3 φ3 α3 h => ?_)
    have g4 := h.1
    have h := h.2
    refine r_iadd (pc' := 20) (kX6_checkOf_0 13 rfl) rfl g4 ?_
    refine r_sipush 251 (pc' := 23) (kX6_checkOf_0 14 rfl) rfl ⟨by unfold inR; omega, rfl⟩ ?_
    have g5 := h.1
    have h := h.2
    refine r_irem (pc' := 24) (kX6_checkOf_0 15 rfl) rfl ⟨by decide, g5⟩ ?_
    refine r_istore_n (L' := [(2, o), (0, x1), (0, (Int.tmod ((3 * x2) + r3) 251)), (0, x3)]) (pc' := 25) (kX6_checkOf_0 16 rfl) rfl (Nat.le_of_ble_eq_true rfl) rfl ?_
    have g6 := h.1
    have h := h.2
    refine r_iinc (L' := [(2, o), (0, x1), (0, (Int.tmod ((3 * x2) + r3) 251)), (0, (x3 + 1))]) (pc' := 28) (kX6_checkOf_0 17 rfl) rfl (Nat.le_of_ble_eq_true rfl) rfl g6 rfl ?_
    refine r_goto (pc' := 6) (kX6_checkOf_0 18 rfl) rfl ?_
    exact r_weak (L' := [(2, o), (0, x1), (0, (Int.tmod ((3 * x2) + r3) 251)), (0, (x3 + 1))]) ⟨Or.inl rfl, Or.inl rfl, Or.inl rfl, Or.inl rfl, trivial⟩ (h Ln)
theorem vX6_pairAt_0 {d : Nat} {φ : aF} {α : aA} {Q : Int → aF → aA → Prop} {o : Int} {no : Nat} {x1 : Int} (ho : isRow o no) (h : (eX6_at d o x1 φ α (fun r1 φ1 α1 =>
   inR (r1 * 256) ∧ inR (x1 + 1) ∧ (eX6_at d o (x1 + 1) φ1 α1 (fun r4 φ4 α4 =>
   inR ((r1 * 256) + r4) ∧ (Q ((r1 * 256) + r4) φ4 α4)))))) : eX6_pairAt (d + 1) o x1 φ α Q := by
  intro Ln
  refine r_aload_n (pc' := 1) (kX6_pairAt_0 0 rfl) rfl rfl ?_
  refine r_iload_n (pc' := 2) (kX6_pairAt_0 1 rfl) rfl rfl ?_
  refine s_callV (As := [(0, x1)]) (o := o) (S := []) (S2 := fun z => [(0, z)]) (pc' := 5) (kX6_pairAt_0 2 rfl) rfl rfl nkX6_at mlX6_28 imX6_at rfl slX6_at rfl (Nat.le_of_ble_eq_true rfl) (Nat.le_of_ble_eq_true rfl) (ho.1 Ln) h (fun z => rfl) (fun r1 φ1 α1 h => ?_)
  refine r_sipush 256 (pc' := 8) (kX6_pairAt_0 3 rfl) rfl ⟨by unfold inR; omega, rfl⟩ ?_
  have g2 := h.1
  have h := h.2
  refine r_imul (pc' := 9) (kX6_pairAt_0 4 rfl) rfl g2 ?_
  refine r_aload_n (pc' := 10) (kX6_pairAt_0 5 rfl) rfl rfl ?_
  refine r_iload_n (pc' := 11) (kX6_pairAt_0 6 rfl) rfl rfl ?_
  refine r_iconst 1 (pc' := 12) (kX6_pairAt_0 7 rfl) rfl (by unfold inR; omega) ?_
  have g3 := h.1
  have h := h.2
  refine r_iadd (pc' := 13) (kX6_pairAt_0 8 rfl) rfl g3 ?_
  refine s_callV (As := [(0, (x1 + 1))]) (o := o) (S := [(0, (r1 * 256))]) (S2 := fun z => [(0, z), (0, (r1 * 256))]) (pc' := 16) (kX6_pairAt_0 9 rfl) rfl rfl nkX6_at mlX6_28 imX6_at rfl slX6_at rfl (Nat.le_of_ble_eq_true rfl) (Nat.le_of_ble_eq_true rfl) (ho.1 Ln) h (fun z => rfl) (fun r4 φ4 α4 h => ?_)
  have g5 := h.1
  have h := h.2
  refine r_iadd (pc' := 17) (kX6_pairAt_0 10 rfl) rfl g5 ?_
  exact s_iret (kX6_pairAt_0 11 rfl) rfl h
theorem vX2_begin_0 {d : Nat} {φ : aF} {α : aA} {Q : Int → aF → aA → Prop} {o : Int} (ho : isOf o) (h : (eX10_fill d (o + 1) 0 (upf (upf (upf (upf (upf (upf (upf (upf φ 2 0 o 1) 2 1 o 0) 2 2 o 0) 2 3 o 0) 2 4 o 0) 2 5 o 0) 2 6 o 0) 2 7 o 0) α (fun r1 φ1 α1 =>
   (eX10_fill d (o + 2) 0 φ1 α1 (fun r2 φ2 α2 =>
   (eX10_fill d (o + 3) (-1) φ2 α2 (fun r3 φ3 α3 =>
   (eX10_fill d (o + 4) 0 φ3 α3 (fun r4 φ4 α4 =>
   (eX10_fill d (o + 5) 0 φ4 α4 (fun r5 φ5 α5 =>
   (eX6_clear d (o + 6) φ5 α5 (fun r6 φ6 α6 =>
   (eX6_put d (o + 6) 13 φ6 α6 (fun r7 φ7 α7 =>
   (eX6_put d (o + 6) 1004 φ7 α7 (fun r8 φ8 α8 =>
   (eX6_put d (o + 6) 47 φ8 α8 (fun r9 φ9 α9 =>
   (eX6_clear d (o + 8) φ9 α9 (fun r10 φ10 α10 =>
   (eX6_put d (o + 8) 21 φ10 α10 (fun r11 φ11 α11 =>
   (Q 0 φ11 α11)))))))))))))))))))))))) : eX2_begin (d + 1) o φ α Q := by
  intro Ln
  refine r_aload_n (pc' := 1) (kX2_begin_0 0 rfl) rfl rfl ?_
  refine r_iconst 1 (pc' := 2) (kX2_begin_0 1 rfl) rfl (by unfold inR; omega) ?_
  refine s_put (pc' := 5) (kX2_begin_0 2 rfl) rfl fkX2_39 fnX2_0 rfl (pk_bool (Or.inr rfl)) (of0 ho Ln) ?_
  refine r_aload_n (pc' := 6) (kX2_begin_0 3 rfl) rfl rfl ?_
  refine r_iconst 0 (pc' := 7) (kX2_begin_0 4 rfl) rfl (by unfold inR; omega) ?_
  refine s_put (pc' := 10) (kX2_begin_0 5 rfl) rfl fkX2_43 fnX2_1 rfl pk_int (of0 ho Ln) ?_
  refine r_aload_n (pc' := 11) (kX2_begin_0 6 rfl) rfl rfl ?_
  refine r_iconst 0 (pc' := 12) (kX2_begin_0 7 rfl) rfl (by unfold inR; omega) ?_
  refine s_put (pc' := 15) (kX2_begin_0 8 rfl) rfl fkX2_47 fnX2_2 rfl pk_int (of0 ho Ln) ?_
  refine r_aload_n (pc' := 16) (kX2_begin_0 9 rfl) rfl rfl ?_
  refine r_iconst 0 (pc' := 17) (kX2_begin_0 10 rfl) rfl (by unfold inR; omega) ?_
  refine s_put (pc' := 20) (kX2_begin_0 11 rfl) rfl fkX2_50 fnX2_3 rfl pk_int (of0 ho Ln) ?_
  refine r_aload_n (pc' := 21) (kX2_begin_0 12 rfl) rfl rfl ?_
  refine r_iconst 0 (pc' := 22) (kX2_begin_0 13 rfl) rfl (by unfold inR; omega) ?_
  refine s_put (pc' := 25) (kX2_begin_0 14 rfl) rfl fkX2_53 fnX2_4 rfl pk_int (of0 ho Ln) ?_
  refine r_aload_n (pc' := 26) (kX2_begin_0 15 rfl) rfl rfl ?_
  refine r_iconst 0 (pc' := 27) (kX2_begin_0 16 rfl) rfl (by unfold inR; omega) ?_
  refine s_put (pc' := 30) (kX2_begin_0 17 rfl) rfl fkX2_56 fnX2_5 rfl pk_int (of0 ho Ln) ?_
  refine r_aload_n (pc' := 31) (kX2_begin_0 18 rfl) rfl rfl ?_
  refine r_iconst 0 (pc' := 32) (kX2_begin_0 19 rfl) rfl (by unfold inR; omega) ?_
  refine s_put (pc' := 35) (kX2_begin_0 20 rfl) rfl fkX2_59 fnX2_6 rfl (pk_bool (Or.inl rfl)) (of0 ho Ln) ?_
  refine r_aload_n (pc' := 36) (kX2_begin_0 21 rfl) rfl rfl ?_
  refine r_iconst 0 (pc' := 37) (kX2_begin_0 22 rfl) rfl (by unfold inR; omega) ?_
  refine s_put (pc' := 40) (kX2_begin_0 23 rfl) rfl fkX2_62 fnX2_7 rfl (pk_bool (Or.inl rfl)) (of0 ho Ln) ?_
  refine r_aload_n (pc' := 41) (kX2_begin_0 24 rfl) rfl rfl ?_
  refine s_getr (v := (o + 1)) (pc' := 44) (kX2_begin_0 25 rfl) rfl fkX2_9 rfl rfl (of0 ho Ln) rfl (by have := of_pos ho; omega) ?_
  refine r_iconst 0 (pc' := 45) (kX2_begin_0 26 rfl) rfl (by unfold inR; omega) ?_
  refine s_callS (As := [(2, (o + 1)), (0, 0)]) (S := []) (S2 := fun z => []) (pc' := 48) (kX2_begin_0 27 rfl) rfl rfl nkX10_fill mlX2_65 scX10_fill rfl (Nat.le_of_ble_eq_true rfl) (Nat.le_of_ble_eq_true rfl) h (fun z => rfl) (fun r1 φ1 α1 h => ?_)
  refine r_aload_n (pc' := 49) (kX2_begin_0 28 rfl) rfl rfl ?_
  refine s_getr (v := (o + 2)) (pc' := 52) (kX2_begin_0 29 rfl) rfl fkX2_15 rfl rfl (of0 ho Ln) rfl (by have := of_pos ho; omega) ?_
  refine r_iconst 0 (pc' := 53) (kX2_begin_0 30 rfl) rfl (by unfold inR; omega) ?_
  refine s_callS (As := [(2, (o + 2)), (0, 0)]) (S := []) (S2 := fun z => []) (pc' := 56) (kX2_begin_0 31 rfl) rfl rfl nkX10_fill mlX2_65 scX10_fill rfl (Nat.le_of_ble_eq_true rfl) (Nat.le_of_ble_eq_true rfl) h (fun z => rfl) (fun r2 φ2 α2 h => ?_)
  refine r_aload_n (pc' := 57) (kX2_begin_0 32 rfl) rfl rfl ?_
  refine s_getr (v := (o + 3)) (pc' := 60) (kX2_begin_0 33 rfl) rfl fkX2_18 rfl rfl (of0 ho Ln) rfl (by have := of_pos ho; omega) ?_
  refine r_iconst (-1) (pc' := 61) (kX2_begin_0 34 rfl) rfl (by unfold inR; omega) ?_
  refine s_callS (As := [(2, (o + 3)), (0, (-1))]) (S := []) (S2 := fun z => []) (pc' := 64) (kX2_begin_0 35 rfl) rfl rfl nkX10_fill mlX2_65 scX10_fill rfl (Nat.le_of_ble_eq_true rfl) (Nat.le_of_ble_eq_true rfl) h (fun z => rfl) (fun r3 φ3 α3 h => ?_)
  refine r_aload_n (pc' := 65) (kX2_begin_0 36 rfl) rfl rfl ?_
  refine s_getr (v := (o + 4)) (pc' := 68) (kX2_begin_0 37 rfl) rfl fkX2_21 rfl rfl (of0 ho Ln) rfl (by have := of_pos ho; omega) ?_
  refine r_iconst 0 (pc' := 69) (kX2_begin_0 38 rfl) rfl (by unfold inR; omega) ?_
  refine s_callS (As := [(2, (o + 4)), (0, 0)]) (S := []) (S2 := fun z => []) (pc' := 72) (kX2_begin_0 39 rfl) rfl rfl nkX10_fill mlX2_65 scX10_fill rfl (Nat.le_of_ble_eq_true rfl) (Nat.le_of_ble_eq_true rfl) h (fun z => rfl) (fun r4 φ4 α4 h => ?_)
  refine r_aload_n (pc' := 73) (kX2_begin_0 40 rfl) rfl rfl ?_
  refine s_getr (v := (o + 5)) (pc' := 76) (kX2_begin_0 41 rfl) rfl fkX2_24 rfl rfl (of0 ho Ln) rfl (by have := of_pos ho; omega) ?_
  refine r_iconst 0 (pc' := 77) (kX2_begin_0 42 rfl) rfl (by unfold inR; omega) ?_
  refine s_callS (As := [(2, (o + 5)), (0, 0)]) (S := []) (S2 := fun z => []) (pc' := 80) (kX2_begin_0 43 rfl) rfl rfl nkX10_fill mlX2_65 scX10_fill rfl (Nat.le_of_ble_eq_true rfl) (Nat.le_of_ble_eq_true rfl) h (fun z => rfl) (fun r5 φ5 α5 h => ?_)
  refine r_aload_n (pc' := 81) (kX2_begin_0 44 rfl) rfl rfl ?_
  refine s_getr (v := (o + 6)) (pc' := 84) (kX2_begin_0 45 rfl) rfl fkX2_32 rfl rfl (of0 ho Ln) rfl (by have := of_pos ho; omega) ?_
  refine s_callV (As := []) (o := (o + 6)) (S := []) (S2 := fun z => []) (pc' := 87) (kX2_begin_0 46 rfl) rfl rfl nkX6_clear mlX2_69 imX6_clear rfl slX6_clear rfl (Nat.le_of_ble_eq_true rfl) (Nat.le_of_ble_eq_true rfl) ((of_r6 ho).1 Ln) h (fun z => rfl) (fun r6 φ6 α6 h => ?_)
  refine r_aload_n (pc' := 88) (kX2_begin_0 47 rfl) rfl rfl ?_
  refine s_getr (v := (o + 6)) (pc' := 91) (kX2_begin_0 48 rfl) rfl fkX2_32 rfl rfl (of0 ho Ln) rfl (by have := of_pos ho; omega) ?_
  refine r_bipush 13 (pc' := 93) (kX2_begin_0 49 rfl) rfl ⟨by unfold inR; omega, rfl⟩ ?_
  refine s_callV (As := [(0, 13)]) (o := (o + 6)) (S := []) (S2 := fun z => []) (pc' := 96) (kX2_begin_0 50 rfl) rfl rfl nkX6_put mlX2_72 imX6_put rfl slX6_put rfl (Nat.le_of_ble_eq_true rfl) (Nat.le_of_ble_eq_true rfl) ((of_r6 ho).1 Ln) h (fun z => rfl) (fun r7 φ7 α7 h => ?_)
  refine r_aload_n (pc' := 97) (kX2_begin_0 51 rfl) rfl rfl ?_
  refine s_getr (v := (o + 6)) (pc' := 100) (kX2_begin_0 52 rfl) rfl fkX2_32 rfl rfl (of0 ho Ln) rfl (by have := of_pos ho; omega) ?_
  refine r_sipush 1004 (pc' := 103) (kX2_begin_0 53 rfl) rfl ⟨by unfold inR; omega, rfl⟩ ?_
  refine s_callV (As := [(0, 1004)]) (o := (o + 6)) (S := []) (S2 := fun z => []) (pc' := 106) (kX2_begin_0 54 rfl) rfl rfl nkX6_put mlX2_72 imX6_put rfl slX6_put rfl (Nat.le_of_ble_eq_true rfl) (Nat.le_of_ble_eq_true rfl) ((of_r6 ho).1 Ln) h (fun z => rfl) (fun r8 φ8 α8 h => ?_)
  refine r_aload_n (pc' := 107) (kX2_begin_0 55 rfl) rfl rfl ?_
  refine s_getr (v := (o + 6)) (pc' := 110) (kX2_begin_0 56 rfl) rfl fkX2_32 rfl rfl (of0 ho Ln) rfl (by have := of_pos ho; omega) ?_
  refine r_bipush 47 (pc' := 112) (kX2_begin_0 57 rfl) rfl ⟨by unfold inR; omega, rfl⟩ ?_
  refine s_callV (As := [(0, 47)]) (o := (o + 6)) (S := []) (S2 := fun z => []) (pc' := 115) (kX2_begin_0 58 rfl) rfl rfl nkX6_put mlX2_72 imX6_put rfl slX6_put rfl (Nat.le_of_ble_eq_true rfl) (Nat.le_of_ble_eq_true rfl) ((of_r6 ho).1 Ln) h (fun z => rfl) (fun r9 φ9 α9 h => ?_)
  refine r_aload_n (pc' := 116) (kX2_begin_0 59 rfl) rfl rfl ?_
  refine s_getr (v := (o + 8)) (pc' := 119) (kX2_begin_1 0 rfl) rfl fkX2_36 rfl rfl (of0 ho Ln) rfl (by have := of_pos ho; omega) ?_
  refine s_callV (As := []) (o := (o + 8)) (S := []) (S2 := fun z => []) (pc' := 122) (kX2_begin_1 1 rfl) rfl rfl nkX6_clear mlX2_69 imX6_clear rfl slX6_clear rfl (Nat.le_of_ble_eq_true rfl) (Nat.le_of_ble_eq_true rfl) ((of_r8 ho).1 Ln) h (fun z => rfl) (fun r10 φ10 α10 h => ?_)
  refine r_aload_n (pc' := 123) (kX2_begin_1 2 rfl) rfl rfl ?_
  refine s_getr (v := (o + 8)) (pc' := 126) (kX2_begin_1 3 rfl) rfl fkX2_36 rfl rfl (of0 ho Ln) rfl (by have := of_pos ho; omega) ?_
  refine r_bipush 21 (pc' := 128) (kX2_begin_1 4 rfl) rfl ⟨by unfold inR; omega, rfl⟩ ?_
  refine s_callV (As := [(0, 21)]) (o := (o + 8)) (S := []) (S2 := fun z => []) (pc' := 131) (kX2_begin_1 5 rfl) rfl rfl nkX6_put mlX2_72 imX6_put rfl slX6_put rfl (Nat.le_of_ble_eq_true rfl) (Nat.le_of_ble_eq_true rfl) ((of_r8 ho).1 Ln) h (fun z => rfl) (fun r11 φ11 α11 h => ?_)
  exact s_vret (kX2_begin_1 6 rfl) rfl h
theorem vX2_copyFrom_0 {d : Nat} {φ : aF} {α : aA} {Q : Int → aF → aA → Prop} {o : Int} {x1 : Int} (ho : isOf o) (hx1 : isOf x1) (h : ((φ 2 0 x1) = 0 ∨ (φ 2 0 x1) = 1) ∧ ((φ 2 6 x1) = 0 ∨ (φ 2 6 x1) = 1) ∧ ((φ 2 7 x1) = 0 ∨ (φ 2 7 x1) = 1) ∧ (eX10_copy d (x1 + 1) (o + 1) (upf (upf (upf (upf (upf (upf (upf (upf φ 2 0 o (φ 2 0 x1)) 2 1 o (φ 2 1 x1)) 2 2 o (φ 2 2 x1)) 2 3 o (φ 2 3 x1)) 2 4 o (φ 2 4 x1)) 2 5 o (φ 2 5 x1)) 2 6 o (φ 2 6 x1)) 2 7 o (φ 2 7 x1)) α (fun r4 φ4 α4 =>
   (eX10_copy d (x1 + 2) (o + 2) φ4 α4 (fun r5 φ5 α5 =>
   (eX10_copy d (x1 + 3) (o + 3) φ5 α5 (fun r6 φ6 α6 =>
   (eX10_copy d (x1 + 4) (o + 4) φ6 α6 (fun r7 φ7 α7 =>
   (eX10_copy d (x1 + 5) (o + 5) φ7 α7 (fun r8 φ8 α8 =>
   (eX6_copyFrom d (o + 6) (x1 + 6) φ8 α8 (fun r9 φ9 α9 =>
   (eX6_copyFrom d (o + 8) (x1 + 8) φ9 α9 (fun r10 φ10 α10 =>
   (eX6_holds d (o + 6) 12 φ10 α10 (fun r11 φ11 α11 =>
   (r11 = 0 ∨ r11 = 1) ∧ (Q 0 (upf φ11 2 8 o r11) α11)))))))))))))))))) : eX2_copyFrom (d + 1) o x1 φ α Q := by
  intro Ln
  refine r_aload_n (pc' := 1) (kX2_copyFrom_0 0 rfl) rfl rfl ?_
  refine r_aload_n (pc' := 2) (kX2_copyFrom_0 1 rfl) rfl rfl ?_
  refine s_get (x := (φ 2 0 x1)) (pc' := 5) (kX2_copyFrom_0 2 rfl) rfl fkX2_39 rfl rfl rfl (of0 hx1 Ln) rfl ?_
  have g1 := h.1
  have h := h.2
  refine s_put (pc' := 8) (kX2_copyFrom_0 3 rfl) rfl fkX2_39 fnX2_0 rfl (pk_bool g1) (of0 ho Ln) ?_
  refine r_aload_n (pc' := 9) (kX2_copyFrom_0 4 rfl) rfl rfl ?_
  refine r_aload_n (pc' := 10) (kX2_copyFrom_0 5 rfl) rfl rfl ?_
  refine s_get (x := (φ 2 1 x1)) (pc' := 13) (kX2_copyFrom_0 6 rfl) rfl fkX2_43 rfl rfl rfl (of0 hx1 Ln) rfl ?_
  refine s_put (pc' := 16) (kX2_copyFrom_0 7 rfl) rfl fkX2_43 fnX2_1 rfl pk_int (of0 ho Ln) ?_
  refine r_aload_n (pc' := 17) (kX2_copyFrom_0 8 rfl) rfl rfl ?_
  refine r_aload_n (pc' := 18) (kX2_copyFrom_0 9 rfl) rfl rfl ?_
  refine s_get (x := (φ 2 2 x1)) (pc' := 21) (kX2_copyFrom_0 10 rfl) rfl fkX2_47 rfl rfl rfl (of0 hx1 Ln) rfl ?_
  refine s_put (pc' := 24) (kX2_copyFrom_0 11 rfl) rfl fkX2_47 fnX2_2 rfl pk_int (of0 ho Ln) ?_
  refine r_aload_n (pc' := 25) (kX2_copyFrom_0 12 rfl) rfl rfl ?_
  refine r_aload_n (pc' := 26) (kX2_copyFrom_0 13 rfl) rfl rfl ?_
  refine s_get (x := (φ 2 3 x1)) (pc' := 29) (kX2_copyFrom_0 14 rfl) rfl fkX2_50 rfl rfl rfl (of0 hx1 Ln) rfl ?_
  refine s_put (pc' := 32) (kX2_copyFrom_0 15 rfl) rfl fkX2_50 fnX2_3 rfl pk_int (of0 ho Ln) ?_
  refine r_aload_n (pc' := 33) (kX2_copyFrom_0 16 rfl) rfl rfl ?_
  refine r_aload_n (pc' := 34) (kX2_copyFrom_0 17 rfl) rfl rfl ?_
  refine s_get (x := (φ 2 4 x1)) (pc' := 37) (kX2_copyFrom_0 18 rfl) rfl fkX2_53 rfl rfl rfl (of0 hx1 Ln) rfl ?_
  refine s_put (pc' := 40) (kX2_copyFrom_0 19 rfl) rfl fkX2_53 fnX2_4 rfl pk_int (of0 ho Ln) ?_
  refine r_aload_n (pc' := 41) (kX2_copyFrom_0 20 rfl) rfl rfl ?_
  refine r_aload_n (pc' := 42) (kX2_copyFrom_0 21 rfl) rfl rfl ?_
  refine s_get (x := (φ 2 5 x1)) (pc' := 45) (kX2_copyFrom_0 22 rfl) rfl fkX2_56 rfl rfl rfl (of0 hx1 Ln) rfl ?_
  refine s_put (pc' := 48) (kX2_copyFrom_0 23 rfl) rfl fkX2_56 fnX2_5 rfl pk_int (of0 ho Ln) ?_
  refine r_aload_n (pc' := 49) (kX2_copyFrom_0 24 rfl) rfl rfl ?_
  refine r_aload_n (pc' := 50) (kX2_copyFrom_0 25 rfl) rfl rfl ?_
  refine s_get (x := (φ 2 6 x1)) (pc' := 53) (kX2_copyFrom_0 26 rfl) rfl fkX2_59 rfl rfl rfl (of0 hx1 Ln) rfl ?_
  have g2 := h.1
  have h := h.2
  refine s_put (pc' := 56) (kX2_copyFrom_0 27 rfl) rfl fkX2_59 fnX2_6 rfl (pk_bool g2) (of0 ho Ln) ?_
  refine r_aload_n (pc' := 57) (kX2_copyFrom_0 28 rfl) rfl rfl ?_
  refine r_aload_n (pc' := 58) (kX2_copyFrom_0 29 rfl) rfl rfl ?_
  refine s_get (x := (φ 2 7 x1)) (pc' := 61) (kX2_copyFrom_0 30 rfl) rfl fkX2_62 rfl rfl rfl (of0 hx1 Ln) rfl ?_
  have g3 := h.1
  have h := h.2
  refine s_put (pc' := 64) (kX2_copyFrom_0 31 rfl) rfl fkX2_62 fnX2_7 rfl (pk_bool g3) (of0 ho Ln) ?_
  refine r_aload_n (pc' := 65) (kX2_copyFrom_0 32 rfl) rfl rfl ?_
  refine s_getr (v := (x1 + 1)) (pc' := 68) (kX2_copyFrom_0 33 rfl) rfl fkX2_9 rfl rfl (of0 hx1 Ln) rfl (by have := of_pos hx1; omega) ?_
  refine r_aload_n (pc' := 69) (kX2_copyFrom_0 34 rfl) rfl rfl ?_
  refine s_getr (v := (o + 1)) (pc' := 72) (kX2_copyFrom_0 35 rfl) rfl fkX2_9 rfl rfl (of0 ho Ln) rfl (by have := of_pos ho; omega) ?_
  refine s_callS (As := [(2, (x1 + 1)), (2, (o + 1))]) (S := []) (S2 := fun z => []) (pc' := 75) (kX2_copyFrom_0 36 rfl) rfl rfl nkX10_copy mlX2_75 scX10_copy rfl (Nat.le_of_ble_eq_true rfl) (Nat.le_of_ble_eq_true rfl) h (fun z => rfl) (fun r4 φ4 α4 h => ?_)
  refine r_aload_n (pc' := 76) (kX2_copyFrom_0 37 rfl) rfl rfl ?_
  refine s_getr (v := (x1 + 2)) (pc' := 79) (kX2_copyFrom_0 38 rfl) rfl fkX2_15 rfl rfl (of0 hx1 Ln) rfl (by have := of_pos hx1; omega) ?_
  refine r_aload_n (pc' := 80) (kX2_copyFrom_0 39 rfl) rfl rfl ?_
  refine s_getr (v := (o + 2)) (pc' := 83) (kX2_copyFrom_0 40 rfl) rfl fkX2_15 rfl rfl (of0 ho Ln) rfl (by have := of_pos ho; omega) ?_
  refine s_callS (As := [(2, (x1 + 2)), (2, (o + 2))]) (S := []) (S2 := fun z => []) (pc' := 86) (kX2_copyFrom_0 41 rfl) rfl rfl nkX10_copy mlX2_75 scX10_copy rfl (Nat.le_of_ble_eq_true rfl) (Nat.le_of_ble_eq_true rfl) h (fun z => rfl) (fun r5 φ5 α5 h => ?_)
  refine r_aload_n (pc' := 87) (kX2_copyFrom_0 42 rfl) rfl rfl ?_
  refine s_getr (v := (x1 + 3)) (pc' := 90) (kX2_copyFrom_0 43 rfl) rfl fkX2_18 rfl rfl (of0 hx1 Ln) rfl (by have := of_pos hx1; omega) ?_
  refine r_aload_n (pc' := 91) (kX2_copyFrom_0 44 rfl) rfl rfl ?_
  refine s_getr (v := (o + 3)) (pc' := 94) (kX2_copyFrom_0 45 rfl) rfl fkX2_18 rfl rfl (of0 ho Ln) rfl (by have := of_pos ho; omega) ?_
  refine s_callS (As := [(2, (x1 + 3)), (2, (o + 3))]) (S := []) (S2 := fun z => []) (pc' := 97) (kX2_copyFrom_0 46 rfl) rfl rfl nkX10_copy mlX2_75 scX10_copy rfl (Nat.le_of_ble_eq_true rfl) (Nat.le_of_ble_eq_true rfl) h (fun z => rfl) (fun r6 φ6 α6 h => ?_)
  refine r_aload_n (pc' := 98) (kX2_copyFrom_0 47 rfl) rfl rfl ?_
  refine s_getr (v := (x1 + 4)) (pc' := 101) (kX2_copyFrom_0 48 rfl) rfl fkX2_21 rfl rfl (of0 hx1 Ln) rfl (by have := of_pos hx1; omega) ?_
  refine r_aload_n (pc' := 102) (kX2_copyFrom_0 49 rfl) rfl rfl ?_
  refine s_getr (v := (o + 4)) (pc' := 105) (kX2_copyFrom_0 50 rfl) rfl fkX2_21 rfl rfl (of0 ho Ln) rfl (by have := of_pos ho; omega) ?_
  refine s_callS (As := [(2, (x1 + 4)), (2, (o + 4))]) (S := []) (S2 := fun z => []) (pc' := 108) (kX2_copyFrom_0 51 rfl) rfl rfl nkX10_copy mlX2_75 scX10_copy rfl (Nat.le_of_ble_eq_true rfl) (Nat.le_of_ble_eq_true rfl) h (fun z => rfl) (fun r7 φ7 α7 h => ?_)
  refine r_aload_n (pc' := 109) (kX2_copyFrom_0 52 rfl) rfl rfl ?_
  refine s_getr (v := (x1 + 5)) (pc' := 112) (kX2_copyFrom_0 53 rfl) rfl fkX2_24 rfl rfl (of0 hx1 Ln) rfl (by have := of_pos hx1; omega) ?_
  refine r_aload_n (pc' := 113) (kX2_copyFrom_0 54 rfl) rfl rfl ?_
  refine s_getr (v := (o + 5)) (pc' := 116) (kX2_copyFrom_0 55 rfl) rfl fkX2_24 rfl rfl (of0 ho Ln) rfl (by have := of_pos ho; omega) ?_
  refine s_callS (As := [(2, (x1 + 5)), (2, (o + 5))]) (S := []) (S2 := fun z => []) (pc' := 119) (kX2_copyFrom_0 56 rfl) rfl rfl nkX10_copy mlX2_75 scX10_copy rfl (Nat.le_of_ble_eq_true rfl) (Nat.le_of_ble_eq_true rfl) h (fun z => rfl) (fun r8 φ8 α8 h => ?_)
  refine r_aload_n (pc' := 120) (kX2_copyFrom_0 57 rfl) rfl rfl ?_
  refine s_getr (v := (o + 6)) (pc' := 123) (kX2_copyFrom_0 58 rfl) rfl fkX2_32 rfl rfl (of0 ho Ln) rfl (by have := of_pos ho; omega) ?_
  refine r_aload_n (pc' := 124) (kX2_copyFrom_0 59 rfl) rfl rfl ?_
  refine s_getr (v := (x1 + 6)) (pc' := 127) (kX2_copyFrom_1 0 rfl) rfl fkX2_32 rfl rfl (of0 hx1 Ln) rfl (by have := of_pos hx1; omega) ?_
  refine s_callV (As := [(2, (x1 + 6))]) (o := (o + 6)) (S := []) (S2 := fun z => []) (pc' := 130) (kX2_copyFrom_1 1 rfl) rfl rfl nkX6_copyFrom mlX2_79 imX6_copyFrom rfl slX6_copyFrom rfl (Nat.le_of_ble_eq_true rfl) (Nat.le_of_ble_eq_true rfl) ((of_r6 ho).1 Ln) h (fun z => rfl) (fun r9 φ9 α9 h => ?_)
  refine r_aload_n (pc' := 131) (kX2_copyFrom_1 2 rfl) rfl rfl ?_
  refine s_getr (v := (o + 8)) (pc' := 134) (kX2_copyFrom_1 3 rfl) rfl fkX2_36 rfl rfl (of0 ho Ln) rfl (by have := of_pos ho; omega) ?_
  refine r_aload_n (pc' := 135) (kX2_copyFrom_1 4 rfl) rfl rfl ?_
  refine s_getr (v := (x1 + 8)) (pc' := 138) (kX2_copyFrom_1 5 rfl) rfl fkX2_36 rfl rfl (of0 hx1 Ln) rfl (by have := of_pos hx1; omega) ?_
  refine s_callV (As := [(2, (x1 + 8))]) (o := (o + 8)) (S := []) (S2 := fun z => []) (pc' := 141) (kX2_copyFrom_1 6 rfl) rfl rfl nkX6_copyFrom mlX2_79 imX6_copyFrom rfl slX6_copyFrom rfl (Nat.le_of_ble_eq_true rfl) (Nat.le_of_ble_eq_true rfl) ((of_r8 ho).1 Ln) h (fun z => rfl) (fun r10 φ10 α10 h => ?_)
  refine r_aload_n (pc' := 142) (kX2_copyFrom_1 7 rfl) rfl rfl ?_
  refine r_aload_n (pc' := 143) (kX2_copyFrom_1 8 rfl) rfl rfl ?_
  refine s_getr (v := (o + 6)) (pc' := 146) (kX2_copyFrom_1 9 rfl) rfl fkX2_32 rfl rfl (of0 ho Ln) rfl (by have := of_pos ho; omega) ?_
  refine r_bipush 12 (pc' := 148) (kX2_copyFrom_1 10 rfl) rfl ⟨by unfold inR; omega, rfl⟩ ?_
  refine s_callV (As := [(0, 12)]) (o := (o + 6)) (S := [(2, o)]) (S2 := fun z => [(0, z), (2, o)]) (pc' := 151) (kX2_copyFrom_1 11 rfl) rfl rfl nkX6_holds mlX2_83 imX6_holds rfl slX6_holds rfl (Nat.le_of_ble_eq_true rfl) (Nat.le_of_ble_eq_true rfl) ((of_r6 ho).1 Ln) h (fun z => rfl) (fun r11 φ11 α11 h => ?_)
  have g12 := h.1
  have h := h.2
  refine s_put (pc' := 154) (kX2_copyFrom_1 12 rfl) rfl fkX2_87 fnX2_8 rfl (pk_bool g12) (of0 ho Ln) ?_
  exact s_vret (kX2_copyFrom_1 13 rfl) rfl h
theorem vX2_isSeat_0 {d : Nat} {φ : aF} {α : aA} {Q : Int → aF → aA → Prop} {o : Int} {x1 : Int} (ho : isOf o) (h : ((x1 < 0 →
   (Q 0 φ α)) ∧
   (¬ (x1 < 0) →
   (((φ 2 2 o) ≤ x1 →
     (Q 0 φ α)) ∧
     (¬ ((φ 2 2 o) ≤ x1) →
     (Q 1 φ α)))))) : eX2_isSeat d o x1 φ α Q := by
  intro Ln
  refine r_iload_n (pc' := 1) (kX2_isSeat_0 0 rfl) rfl rfl ?_
  refine r_if_lt (t := 16) (pc' := 4) (kX2_isSeat_0 1 rfl) rfl rfl (fun c1 => ?_) (fun c1 => ?_)
  · have h := h.1 c1
    refine r_iconst 0 (pc' := 17) (kX2_isSeat_0 8 rfl) rfl (by unfold inR; omega) ?_
    exact s_zret (kX2_isSeat_0 9 rfl) rfl (Or.inl rfl) h
  · have h := h.2 c1
    refine r_iload_n (pc' := 5) (kX2_isSeat_0 2 rfl) rfl rfl ?_
    refine r_aload_n (pc' := 6) (kX2_isSeat_0 3 rfl) rfl rfl ?_
    refine s_get (x := (φ 2 2 o)) (pc' := 9) (kX2_isSeat_0 4 rfl) rfl fkX2_47 rfl rfl rfl (of0 ho Ln) rfl ?_
    refine r_icmp_ge (t := 16) (pc' := 12) (kX2_isSeat_0 5 rfl) rfl rfl (fun c2 => ?_) (fun c2 => ?_)
    · have h := h.1 c2
      refine r_iconst 0 (pc' := 17) (kX2_isSeat_0 8 rfl) rfl (by unfold inR; omega) ?_
      exact s_zret (kX2_isSeat_0 9 rfl) rfl (Or.inl rfl) h
    · have h := h.2 c2
      refine r_iconst 1 (pc' := 13) (kX2_isSeat_0 6 rfl) rfl (by unfold inR; omega) ?_
      refine r_goto (pc' := 17) (kX2_isSeat_0 7 rfl) rfl ?_
      exact s_zret (kX2_isSeat_0 9 rfl) rfl (Or.inr rfl) h
theorem vX2_isClerk_0 {d : Nat} {φ : aF} {α : aA} {Q : Int → aF → aA → Prop} {o : Int} {x1 : Int} (ho : isOf o) (h : ((x1 < 0 →
   (Q 0 φ α)) ∧
   (¬ (x1 < 0) →
   (((φ 2 4 o) ≤ x1 →
     (Q 0 φ α)) ∧
     (¬ ((φ 2 4 o) ≤ x1) →
     (Q 1 φ α)))))) : eX2_isClerk d o x1 φ α Q := by
  intro Ln
  refine r_iload_n (pc' := 1) (kX2_isClerk_0 0 rfl) rfl rfl ?_
  refine r_if_lt (t := 16) (pc' := 4) (kX2_isClerk_0 1 rfl) rfl rfl (fun c1 => ?_) (fun c1 => ?_)
  · have h := h.1 c1
    refine r_iconst 0 (pc' := 17) (kX2_isClerk_0 8 rfl) rfl (by unfold inR; omega) ?_
    exact s_zret (kX2_isClerk_0 9 rfl) rfl (Or.inl rfl) h
  · have h := h.2 c1
    refine r_iload_n (pc' := 5) (kX2_isClerk_0 2 rfl) rfl rfl ?_
    refine r_aload_n (pc' := 6) (kX2_isClerk_0 3 rfl) rfl rfl ?_
    refine s_get (x := (φ 2 4 o)) (pc' := 9) (kX2_isClerk_0 4 rfl) rfl fkX2_53 rfl rfl rfl (of0 ho Ln) rfl ?_
    refine r_icmp_ge (t := 16) (pc' := 12) (kX2_isClerk_0 5 rfl) rfl rfl (fun c2 => ?_) (fun c2 => ?_)
    · have h := h.1 c2
      refine r_iconst 0 (pc' := 17) (kX2_isClerk_0 8 rfl) rfl (by unfold inR; omega) ?_
      exact s_zret (kX2_isClerk_0 9 rfl) rfl (Or.inl rfl) h
    · have h := h.2 c2
      refine r_iconst 1 (pc' := 13) (kX2_isClerk_0 6 rfl) rfl (by unfold inR; omega) ?_
      refine r_goto (pc' := 17) (kX2_isClerk_0 7 rfl) rfl ?_
      exact s_zret (kX2_isClerk_0 9 rfl) rfl (Or.inr rfl) h
theorem vX2_isMatter_0 {d : Nat} {φ : aF} {α : aA} {Q : Int → aF → aA → Prop} {o : Int} {x1 : Int} (ho : isOf o) (h : ((x1 < 0 →
   (Q 0 φ α)) ∧
   (¬ (x1 < 0) →
   (((φ 2 3 o) ≤ x1 →
     (Q 0 φ α)) ∧
     (¬ ((φ 2 3 o) ≤ x1) →
     (Q 1 φ α)))))) : eX2_isMatter d o x1 φ α Q := by
  intro Ln
  refine r_iload_n (pc' := 1) (kX2_isMatter_0 0 rfl) rfl rfl ?_
  refine r_if_lt (t := 16) (pc' := 4) (kX2_isMatter_0 1 rfl) rfl rfl (fun c1 => ?_) (fun c1 => ?_)
  · have h := h.1 c1
    refine r_iconst 0 (pc' := 17) (kX2_isMatter_0 8 rfl) rfl (by unfold inR; omega) ?_
    exact s_zret (kX2_isMatter_0 9 rfl) rfl (Or.inl rfl) h
  · have h := h.2 c1
    refine r_iload_n (pc' := 5) (kX2_isMatter_0 2 rfl) rfl rfl ?_
    refine r_aload_n (pc' := 6) (kX2_isMatter_0 3 rfl) rfl rfl ?_
    refine s_get (x := (φ 2 3 o)) (pc' := 9) (kX2_isMatter_0 4 rfl) rfl fkX2_50 rfl rfl rfl (of0 ho Ln) rfl ?_
    refine r_icmp_ge (t := 16) (pc' := 12) (kX2_isMatter_0 5 rfl) rfl rfl (fun c2 => ?_) (fun c2 => ?_)
    · have h := h.1 c2
      refine r_iconst 0 (pc' := 17) (kX2_isMatter_0 8 rfl) rfl (by unfold inR; omega) ?_
      exact s_zret (kX2_isMatter_0 9 rfl) rfl (Or.inl rfl) h
    · have h := h.2 c2
      refine r_iconst 1 (pc' := 13) (kX2_isMatter_0 6 rfl) rfl (by unfold inR; omega) ?_
      refine r_goto (pc' := 17) (kX2_isMatter_0 7 rfl) rfl ?_
      exact s_zret (kX2_isMatter_0 9 rfl) rfl (Or.inr rfl) h
theorem vX2_areThere_0 {d : Nat} {φ : aF} {α : aA} {Q : Int → aF → aA → Prop} {o : Int} {x1 : Int} {x2 : Int} (ho : isOf o) (h : (eX2_isClerk d o x1 φ α (fun r1 φ1 α1 =>
   ((r1 = 0 →
   (Q 0 φ1 α1)) ∧
   (¬ (r1 = 0) →
   (eX2_isMatter d o x2 φ1 α1 (fun r3 φ3 α3 =>
     ((r3 = 0 →
     (Q 0 φ3 α3)) ∧
     (¬ (r3 = 0) →
     (Q 1 φ3 α3)))))))))) : eX2_areThere (d + 1) o x1 x2 φ α Q := by
  intro Ln
  refine r_aload_n (pc' := 1) (kX2_areThere_0 0 rfl) rfl rfl ?_
  refine r_iload_n (pc' := 2) (kX2_areThere_0 1 rfl) rfl rfl ?_
  refine s_callV (As := [(0, x1)]) (o := o) (S := []) (S2 := fun z => [(0, z)]) (pc' := 5) (kX2_areThere_0 2 rfl) rfl rfl nkX2_isClerk mlX2_90 imX2_isClerk rfl slX2_isClerk rfl (Nat.le_of_ble_eq_true rfl) (Nat.le_of_ble_eq_true rfl) (of0 ho Ln) h (fun z => rfl) (fun r1 φ1 α1 h => ?_)
  refine r_if_eq (t := 20) (pc' := 8) (kX2_areThere_0 3 rfl) rfl rfl (fun c2 => ?_) (fun c2 => ?_)
  · have h := h.1 c2
    refine r_iconst 0 (pc' := 21) (kX2_areThere_0 10 rfl) rfl (by unfold inR; omega) ?_
    exact s_zret (kX2_areThere_0 11 rfl) rfl (Or.inl rfl) h
  · have h := h.2 c2
    refine r_aload_n (pc' := 9) (kX2_areThere_0 4 rfl) rfl rfl ?_
    refine r_iload_n (pc' := 10) (kX2_areThere_0 5 rfl) rfl rfl ?_
    refine s_callV (As := [(0, x2)]) (o := o) (S := []) (S2 := fun z => [(0, z)]) (pc' := 13) (kX2_areThere_0 6 rfl) rfl rfl nkX2_isMatter mlX2_93 imX2_isMatter rfl slX2_isMatter rfl (Nat.le_of_ble_eq_true rfl) (Nat.le_of_ble_eq_true rfl) (of0 ho Ln) h (fun z => rfl) (fun r3 φ3 α3 h => ?_)
    refine r_if_eq (t := 20) (pc' := 16) (kX2_areThere_0 7 rfl) rfl rfl (fun c4 => ?_) (fun c4 => ?_)
    · have h := h.1 c4
      refine r_iconst 0 (pc' := 21) (kX2_areThere_0 10 rfl) rfl (by unfold inR; omega) ?_
      exact s_zret (kX2_areThere_0 11 rfl) rfl (Or.inl rfl) h
    · have h := h.2 c4
      refine r_iconst 1 (pc' := 17) (kX2_areThere_0 8 rfl) rfl (by unfold inR; omega) ?_
      refine r_goto (pc' := 21) (kX2_areThere_0 9 rfl) rfl ?_
      exact s_zret (kX2_areThere_0 11 rfl) rfl (Or.inr rfl) h
abbrev jX2_isTaken_2 (d : Nat) (o x1 x2 : Int) (φ : aF) (α : aA) (Q : Int → aF → aA → Prop) : Prop := R0 d mX2_isTaken 2 [(2, o), (0, x1), (0, x2)] [] φ α Q
theorem vX2_isTaken_0 {d : Nat} {φ : aF} {α : aA} {Q : Int → aF → aA → Prop} {o : Int} {x1 : Int} (ho : isOf o) (h : (jX2_isTaken_2 (d + 1) o x1 0 φ α Q)) : eX2_isTaken (d + 1) o x1 φ α Q := by
  intro Ln
  refine r_iconst 0 (pc' := 1) (kX2_isTaken_0 0 rfl) rfl (by unfold inR; omega) ?_
  refine r_istore_n (L' := [(2, o), (0, x1), (0, 0)]) (pc' := 2) (kX2_isTaken_0 1 rfl) rfl (Nat.le_of_ble_eq_true rfl) rfl ?_
  exact r_weak (L' := [(2, o), (0, x1), (0, 0)]) ⟨Or.inl rfl, Or.inl rfl, Or.inl rfl, trivial⟩ (h Ln)
theorem vX2_isTaken_2 {d : Nat} {φ : aF} {α : aA} {Q : Int → aF → aA → Prop} {o : Int} {x1 : Int} {x2 : Int} (ho : isOf o) (h : (((φ 2 4 o) ≤ x2 →
   (Q 0 φ α)) ∧
   (¬ ((φ 2 4 o) ≤ x2) →
   (eX10_pick d (o + 3) x2 φ α (fun r2 φ2 α2 =>
     ((¬ r2 = x1 →
     inR (x2 + 1) ∧ (jX2_isTaken_2 (d + 1) o x1 (x2 + 1) φ2 α2 Q)) ∧
     (r2 = x1 →
     (Q 1 φ2 α2)))))))) : jX2_isTaken_2 (d + 1) o x1 x2 φ α Q := by
  intro Ln
  refine r_iload_n (pc' := 3) (kX2_isTaken_0 2 rfl) rfl rfl ?_
  refine r_aload_n (pc' := 4) (kX2_isTaken_0 3 rfl) rfl rfl ?_
  refine s_get (x := (φ 2 4 o)) (pc' := 7) (kX2_isTaken_0 4 rfl) rfl fkX2_53 rfl rfl rfl (of0 ho Ln) rfl ?_
  refine r_icmp_ge (t := 30) (pc' := 10) (kX2_isTaken_0 5 rfl) rfl rfl (fun c1 => ?_) (fun c1 => ?_)
  · have h := h.1 c1
    refine r_iconst 0 (pc' := 31) (kX2_isTaken_0 16 rfl) rfl (by unfold inR; omega) ?_
    exact s_zret (kX2_isTaken_0 17 rfl) rfl (Or.inl rfl) h
  · have h := h.2 c1
    refine r_aload_n (pc' := 11) (kX2_isTaken_0 6 rfl) rfl rfl ?_
    refine s_getr (v := (o + 3)) (pc' := 14) (kX2_isTaken_0 7 rfl) rfl fkX2_18 rfl rfl (of0 ho Ln) rfl (by have := of_pos ho; omega) ?_
    refine r_iload_n (pc' := 15) (kX2_isTaken_0 8 rfl) rfl rfl ?_
    refine s_callS (As := [(2, (o + 3)), (0, x2)]) (S := []) (S2 := fun z => [(0, z)]) (pc' := 18) (kX2_isTaken_0 9 rfl) rfl rfl nkX10_pick mlX2_96 scX10_pick rfl (Nat.le_of_ble_eq_true rfl) (Nat.le_of_ble_eq_true rfl) h (fun z => rfl) (fun r2 φ2 α2 h => ?_)
    refine r_iload_n (pc' := 19) (kX2_isTaken_0 10 rfl) rfl rfl ?_
    refine r_icmp_ne (t := 24) (pc' := 22) (kX2_isTaken_0 11 rfl) rfl rfl (fun c3 => ?_) (fun c3 => ?_)
    · have h := h.1 c3
      have g4 := h.1
      have h := h.2
      refine r_iinc (L' := [(2, o), (0, x1), (0, (x2 + 1))]) (pc' := 27) (kX2_isTaken_0 14 rfl) rfl (Nat.le_of_ble_eq_true rfl) rfl g4 rfl ?_
      refine r_goto (pc' := 2) (kX2_isTaken_0 15 rfl) rfl ?_
      exact r_weak (L' := [(2, o), (0, x1), (0, (x2 + 1))]) ⟨Or.inl rfl, Or.inl rfl, Or.inl rfl, trivial⟩ (h Ln)
    · have h := h.2 c3
      refine r_iconst 1 (pc' := 23) (kX2_isTaken_0 12 rfl) rfl (by unfold inR; omega) ?_
      exact s_zret (kX2_isTaken_0 13 rfl) rfl (Or.inr rfl) h
