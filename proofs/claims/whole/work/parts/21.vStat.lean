theorem vX10_pick_0 {d : Nat} {φ : aF} {α : aA} {Q : Int → aF → aA → Prop} {x0 : Int} {nx0 : Nat} {x1 : Int} (hx0 : isIA x0 nx0) (h : ((x1 < 0 →
   (Q 0 φ α)) ∧
   (¬ (x1 < 0) →
   (((nx0 : Int) ≤ x1 →
     (Q 0 φ α)) ∧
     (¬ ((nx0 : Int) ≤ x1) →
     (0 ≤ x1 ∧ x1 < (nx0 : Nat)) ∧ (Q (α x0 x1) φ α)))))) : eX10_pick d x0 x1 φ α Q := by
  intro Ln
  refine r_iload_n (pc' := 1) (kX10_pick_0 0 rfl) rfl rfl ?_
  refine r_if_lt (t := 16) (pc' := 4) (kX10_pick_0 1 rfl) rfl rfl (fun c1 => ?_) (fun c1 => ?_)
  · have h := h.1 c1
    refine r_iconst 0 (pc' := 17) (kX10_pick_0 10 rfl) rfl (by unfold inR; omega) ?_
    exact s_iret (kX10_pick_0 11 rfl) rfl h
  · have h := h.2 c1
    refine r_iload_n (pc' := 5) (kX10_pick_0 2 rfl) rfl rfl ?_
    refine r_aload_n (pc' := 6) (kX10_pick_0 3 rfl) rfl rfl ?_
    refine s_alen (pc' := 7) (kX10_pick_0 4 rfl) rfl (hx0 Ln) ⟨by decide, by decide⟩ ?_
    refine r_icmp_ge (t := 16) (pc' := 10) (kX10_pick_0 5 rfl) rfl rfl (fun c2 => ?_) (fun c2 => ?_)
    · have h := h.1 c2
      refine r_iconst 0 (pc' := 17) (kX10_pick_0 10 rfl) rfl (by unfold inR; omega) ?_
      exact s_iret (kX10_pick_0 11 rfl) rfl h
    · have h := h.2 c2
      refine r_aload_n (pc' := 11) (kX10_pick_0 6 rfl) rfl rfl ?_
      refine r_iload_n (pc' := 12) (kX10_pick_0 7 rfl) rfl rfl ?_
      have g3 := h.1
      have h := h.2
      refine s_iald (x := (α x0 x1)) (pc' := 13) (kX10_pick_0 8 rfl) rfl (hx0 Ln) g3 rfl ?_
      refine r_goto (pc' := 17) (kX10_pick_0 9 rfl) rfl ?_
      exact s_iret (kX10_pick_0 11 rfl) rfl h
theorem vX10_set_0 {d : Nat} {φ : aF} {α : aA} {Q : Int → aF → aA → Prop} {x0 : Int} {nx0 : Nat} {x1 : Int} {x2 : Int} (hx0 : isIA x0 nx0) (h : ((x1 < 0 →
   (Q 0 φ α)) ∧
   (¬ (x1 < 0) →
   (((nx0 : Int) ≤ x1 →
     (Q 0 φ α)) ∧
     (¬ ((nx0 : Int) ≤ x1) →
     (0 ≤ x1 ∧ x1 < (nx0 : Nat)) ∧ (Q 0 φ (upa α x0 x1 x2))))))) : eX10_set d x0 x1 x2 φ α Q := by
  intro Ln
  refine r_iload_n (pc' := 1) (kX10_set_0 0 rfl) rfl rfl ?_
  refine r_if_lt (t := 14) (pc' := 4) (kX10_set_0 1 rfl) rfl rfl (fun c1 => ?_) (fun c1 => ?_)
  · have h := h.1 c1
    exact s_vret (kX10_set_0 10 rfl) rfl h
  · have h := h.2 c1
    refine r_iload_n (pc' := 5) (kX10_set_0 2 rfl) rfl rfl ?_
    refine r_aload_n (pc' := 6) (kX10_set_0 3 rfl) rfl rfl ?_
    refine s_alen (pc' := 7) (kX10_set_0 4 rfl) rfl (hx0 Ln) ⟨by decide, by decide⟩ ?_
    refine r_icmp_ge (t := 14) (pc' := 10) (kX10_set_0 5 rfl) rfl rfl (fun c2 => ?_) (fun c2 => ?_)
    · have h := h.1 c2
      exact s_vret (kX10_set_0 10 rfl) rfl h
    · have h := h.2 c2
      refine r_aload_n (pc' := 11) (kX10_set_0 6 rfl) rfl rfl ?_
      refine r_iload_n (pc' := 12) (kX10_set_0 7 rfl) rfl rfl ?_
      refine r_iload_n (pc' := 13) (kX10_set_0 8 rfl) rfl rfl ?_
      have g3 := h.1
      have h := h.2
      refine s_iast (pc' := 14) (kX10_set_0 9 rfl) rfl (hx0 Ln) g3 ?_
      exact s_vret (kX10_set_0 10 rfl) rfl h
theorem vX10_add_0 {d : Nat} {φ : aF} {α : aA} {Q : Int → aF → aA → Prop} {x0 : Int} {nx0 : Nat} {x1 : Int} {x2 : Int} (hx0 : isIA x0 nx0) (h : ((x1 < 0 →
   (Q 0 φ α)) ∧
   (¬ (x1 < 0) →
   (((nx0 : Int) ≤ x1 →
     (Q 0 φ α)) ∧
     (¬ ((nx0 : Int) ≤ x1) →
     (0 ≤ x1 ∧ x1 < (nx0 : Nat)) ∧ inR ((α x0 x1) + x2) ∧ (Q 0 φ (upa α x0 x1 ((α x0 x1) + x2)))))))) : eX10_add d x0 x1 x2 φ α Q := by
  intro Ln
  refine r_iload_n (pc' := 1) (kX10_add_0 0 rfl) rfl rfl ?_
  refine r_if_lt (t := 17) (pc' := 4) (kX10_add_0 1 rfl) rfl rfl (fun c1 => ?_) (fun c1 => ?_)
  · have h := h.1 c1
    exact s_vret (kX10_add_0 13 rfl) rfl h
  · have h := h.2 c1
    refine r_iload_n (pc' := 5) (kX10_add_0 2 rfl) rfl rfl ?_
    refine r_aload_n (pc' := 6) (kX10_add_0 3 rfl) rfl rfl ?_
    refine s_alen (pc' := 7) (kX10_add_0 4 rfl) rfl (hx0 Ln) ⟨by decide, by decide⟩ ?_
    refine r_icmp_ge (t := 17) (pc' := 10) (kX10_add_0 5 rfl) rfl rfl (fun c2 => ?_) (fun c2 => ?_)
    · have h := h.1 c2
      exact s_vret (kX10_add_0 13 rfl) rfl h
    · have h := h.2 c2
      refine r_aload_n (pc' := 11) (kX10_add_0 6 rfl) rfl rfl ?_
      refine r_iload_n (pc' := 12) (kX10_add_0 7 rfl) rfl rfl ?_
      refine r_dup2 (pc' := 13) (kX10_add_0 8 rfl) rfl rfl rfl ?_
      have g3 := h.1
      have h := h.2
      refine s_iald (x := (α x0 x1)) (pc' := 14) (kX10_add_0 9 rfl) rfl (hx0 Ln) g3 rfl ?_
      refine r_iload_n (pc' := 15) (kX10_add_0 10 rfl) rfl rfl ?_
      have g4 := h.1
      have h := h.2
      refine r_iadd (pc' := 16) (kX10_add_0 11 rfl) rfl g4 ?_
      refine s_iast (pc' := 17) (kX10_add_0 12 rfl) rfl (hx0 Ln) g3 ?_
      exact s_vret (kX10_add_0 13 rfl) rfl h
abbrev jX10_fill_2 (d : Nat) (x0 x1 x2 : Int) (φ : aF) (α : aA) (Q : Int → aF → aA → Prop) : Prop := R0 d mX10_fill 2 [(2, x0), (0, x1), (0, x2)] [] φ α Q
theorem vX10_fill_0 {d : Nat} {φ : aF} {α : aA} {Q : Int → aF → aA → Prop} {x0 : Int} {nx0 : Nat} {x1 : Int} (hx0 : isIA x0 nx0) (h : (jX10_fill_2 d x0 x1 0 φ α Q)) : eX10_fill d x0 x1 φ α Q := by
  intro Ln
  refine r_iconst 0 (pc' := 1) (kX10_fill_0 0 rfl) rfl (by unfold inR; omega) ?_
  refine r_istore_n (L' := [(2, x0), (0, x1), (0, 0)]) (pc' := 2) (kX10_fill_0 1 rfl) rfl (Nat.le_of_ble_eq_true rfl) rfl ?_
  exact r_weak (L' := [(2, x0), (0, x1), (0, 0)]) ⟨Or.inl rfl, Or.inl rfl, Or.inl rfl, trivial⟩ (h Ln)
theorem vX10_fill_2 {d : Nat} {φ : aF} {α : aA} {Q : Int → aF → aA → Prop} {x0 : Int} {nx0 : Nat} {x1 : Int} {x2 : Int} (hx0 : isIA x0 nx0) (h : (((nx0 : Int) ≤ x2 →
   (Q 0 φ α)) ∧
   (¬ ((nx0 : Int) ≤ x2) →
   (0 ≤ x2 ∧ x2 < (nx0 : Nat)) ∧ inR (x2 + 1) ∧ (jX10_fill_2 d x0 x1 (x2 + 1) φ (upa α x0 x2 x1) Q)))) : jX10_fill_2 d x0 x1 x2 φ α Q := by
  intro Ln
  refine r_iload_n (pc' := 3) (kX10_fill_0 2 rfl) rfl rfl ?_
  refine r_aload_n (pc' := 4) (kX10_fill_0 3 rfl) rfl rfl ?_
  refine s_alen (pc' := 5) (kX10_fill_0 4 rfl) rfl (hx0 Ln) ⟨by decide, by decide⟩ ?_
  refine r_icmp_ge (t := 18) (pc' := 8) (kX10_fill_0 5 rfl) rfl rfl (fun c1 => ?_) (fun c1 => ?_)
  · have h := h.1 c1
    exact s_vret (kX10_fill_0 12 rfl) rfl h
  · have h := h.2 c1
    refine r_aload_n (pc' := 9) (kX10_fill_0 6 rfl) rfl rfl ?_
    refine r_iload_n (pc' := 10) (kX10_fill_0 7 rfl) rfl rfl ?_
    refine r_iload_n (pc' := 11) (kX10_fill_0 8 rfl) rfl rfl ?_
    have g2 := h.1
    have h := h.2
    refine s_iast (pc' := 12) (kX10_fill_0 9 rfl) rfl (hx0 Ln) g2 ?_
    have g3 := h.1
    have h := h.2
    refine r_iinc (L' := [(2, x0), (0, x1), (0, (x2 + 1))]) (pc' := 15) (kX10_fill_0 10 rfl) rfl (Nat.le_of_ble_eq_true rfl) rfl g3 rfl ?_
    refine r_goto (pc' := 2) (kX10_fill_0 11 rfl) rfl ?_
    exact r_weak (L' := [(2, x0), (0, x1), (0, (x2 + 1))]) ⟨Or.inl rfl, Or.inl rfl, Or.inl rfl, trivial⟩ (h Ln)
theorem vX10_copy_0 {d : Nat} {φ : aF} {α : aA} {Q : Int → aF → aA → Prop} {x0 : Int} {nx0 : Nat} {x1 : Int} {nx1 : Nat} (hx0 : isIA x0 nx0) (hx1 : isIA x1 nx1) (h : (eJ9_min_7cf53 d (nx0 : Int) (nx1 : Int) φ α (fun r1 φ1 α1 =>
   (0 ≤ r1 ∧ r1 ≤ (nx0 : Nat) ∧ r1 ≤ (nx1 : Nat)) ∧ (Q 0 φ1 (cpA α1 x0 x1 r1))))) : eX10_copy (d + 1) x0 x1 φ α Q := by
  intro Ln
  refine r_aload_n (pc' := 1) (kX10_copy_0 0 rfl) rfl rfl ?_
  refine r_iconst 0 (pc' := 2) (kX10_copy_0 1 rfl) rfl (by unfold inR; omega) ?_
  refine r_aload_n (pc' := 3) (kX10_copy_0 2 rfl) rfl rfl ?_
  refine r_iconst 0 (pc' := 4) (kX10_copy_0 3 rfl) rfl (by unfold inR; omega) ?_
  refine r_aload_n (pc' := 5) (kX10_copy_0 4 rfl) rfl rfl ?_
  refine s_alen (pc' := 6) (kX10_copy_0 5 rfl) rfl (hx0 Ln) ⟨by decide, by decide⟩ ?_
  refine r_aload_n (pc' := 7) (kX10_copy_0 6 rfl) rfl rfl ?_
  refine s_alen (pc' := 8) (kX10_copy_0 7 rfl) rfl (hx1 Ln) ⟨by decide, by decide⟩ ?_
  refine s_callS (As := [(0, (nx0 : Int)), (0, (nx1 : Int))]) (S := [(0, 0), (2, x1), (0, 0), (2, x0)]) (S2 := fun z => [(0, z), (0, 0), (2, x1), (0, 0), (2, x0)]) (pc' := 11) (kX10_copy_0 8 rfl) rfl rfl nkJ9_min_7cf53 mlX10_244 scJ9_min_7cf53 rfl (Nat.le_of_ble_eq_true rfl) (Nat.le_of_ble_eq_true rfl) h (fun z => rfl) (fun r1 φ1 α1 h => ?_)
  have g2 := h.1
  have h := h.2
  refine s_copy (pc' := 14) (kX10_copy_0 9 rfl) rfl acp acn acs aci (Nat.succ_le_succ (Nat.zero_le _)) (Nat.le_of_ble_eq_true rfl) (hx0 Ln) (hx1 Ln) g2 ?_
  exact s_vret (kX10_copy_0 10 rfl) rfl h
abbrev jX10_total_4 (d : Nat) (x0 x1 x2 : Int) (φ : aF) (α : aA) (Q : Int → aF → aA → Prop) : Prop := R0 d mX10_total 4 [(2, x0), (0, x1), (0, x2)] [] φ α Q
theorem vX10_total_0 {d : Nat} {φ : aF} {α : aA} {Q : Int → aF → aA → Prop} {x0 : Int} {nx0 : Nat} (hx0 : isIA x0 nx0) (h : (jX10_total_4 d x0 0 0 φ α Q)) : eX10_total d x0 φ α Q := by
  intro Ln
  refine r_iconst 0 (pc' := 1) (kX10_total_0 0 rfl) rfl (by unfold inR; omega) ?_
  refine r_istore_n (L' := [(2, x0), (0, 0), (9, 0)]) (pc' := 2) (kX10_total_0 1 rfl) rfl (Nat.le_of_ble_eq_true rfl) rfl ?_
  refine r_iconst 0 (pc' := 3) (kX10_total_0 2 rfl) rfl (by unfold inR; omega) ?_
  refine r_istore_n (L' := [(2, x0), (0, 0), (0, 0)]) (pc' := 4) (kX10_total_0 3 rfl) rfl (Nat.le_of_ble_eq_true rfl) rfl ?_
  exact r_weak (L' := [(2, x0), (0, 0), (0, 0)]) ⟨Or.inl rfl, Or.inl rfl, Or.inl rfl, trivial⟩ (h Ln)
theorem vX10_total_4 {d : Nat} {φ : aF} {α : aA} {Q : Int → aF → aA → Prop} {x0 : Int} {nx0 : Nat} {x1 : Int} {x2 : Int} (hx0 : isIA x0 nx0) (h : (((nx0 : Int) ≤ x2 →
   (Q x1 φ α)) ∧
   (¬ ((nx0 : Int) ≤ x2) →
   (0 ≤ x2 ∧ x2 < (nx0 : Nat)) ∧ inR (x1 + (α x0 x2)) ∧ inR (x2 + 1) ∧ (jX10_total_4 d x0 (x1 + (α x0 x2)) (x2 + 1) φ α Q)))) : jX10_total_4 d x0 x1 x2 φ α Q := by
  intro Ln
  refine r_iload_n (pc' := 5) (kX10_total_0 4 rfl) rfl rfl ?_
  refine r_aload_n (pc' := 6) (kX10_total_0 5 rfl) rfl rfl ?_
  refine s_alen (pc' := 7) (kX10_total_0 6 rfl) rfl (hx0 Ln) ⟨by decide, by decide⟩ ?_
  refine r_icmp_ge (t := 22) (pc' := 10) (kX10_total_0 7 rfl) rfl rfl (fun c1 => ?_) (fun c1 => ?_)
  · have h := h.1 c1
    refine r_iload_n (pc' := 23) (kX10_total_0 16 rfl) rfl rfl ?_
    exact s_iret (kX10_total_0 17 rfl) rfl h
  · have h := h.2 c1
    refine r_iload_n (pc' := 11) (kX10_total_0 8 rfl) rfl rfl ?_
    refine r_aload_n (pc' := 12) (kX10_total_0 9 rfl) rfl rfl ?_
    refine r_iload_n (pc' := 13) (kX10_total_0 10 rfl) rfl rfl ?_
    have g2 := h.1
    have h := h.2
    refine s_iald (x := (α x0 x2)) (pc' := 14) (kX10_total_0 11 rfl) rfl (hx0 Ln) g2 rfl ?_
    have g3 := h.1
    have h := h.2
    refine r_iadd (pc' := 15) (kX10_total_0 12 rfl) rfl g3 ?_
    refine r_istore_n (L' := [(2, x0), (0, (x1 + (α x0 x2))), (0, x2)]) (pc' := 16) (kX10_total_0 13 rfl) rfl (Nat.le_of_ble_eq_true rfl) rfl ?_
    have g4 := h.1
    have h := h.2
    refine r_iinc (L' := [(2, x0), (0, (x1 + (α x0 x2))), (0, (x2 + 1))]) (pc' := 19) (kX10_total_0 14 rfl) rfl (Nat.le_of_ble_eq_true rfl) rfl g4 rfl ?_
    refine r_goto (pc' := 4) (kX10_total_0 15 rfl) rfl ?_
    exact r_weak (L' := [(2, x0), (0, (x1 + (α x0 x2))), (0, (x2 + 1))]) ⟨Or.inl rfl, Or.inl rfl, Or.inl rfl, trivial⟩ (h Ln)
theorem vX10_within_0 {d : Nat} {φ : aF} {α : aA} {Q : Int → aF → aA → Prop} {x0 : Int} {x1 : Int} {x2 : Int} (h : ((x0 < x1 →
   (Q 0 φ α)) ∧
   (¬ (x0 < x1) →
   ((x2 < x0 →
     (Q 0 φ α)) ∧
     (¬ (x2 < x0) →
     (Q 1 φ α)))))) : eX10_within d x0 x1 x2 φ α Q := by
  intro Ln
  refine r_iload_n (pc' := 1) (kX10_within_0 0 rfl) rfl rfl ?_
  refine r_iload_n (pc' := 2) (kX10_within_0 1 rfl) rfl rfl ?_
  refine r_icmp_lt (t := 14) (pc' := 5) (kX10_within_0 2 rfl) rfl rfl (fun c1 => ?_) (fun c1 => ?_)
  · have h := h.1 c1
    refine r_iconst 0 (pc' := 15) (kX10_within_0 8 rfl) rfl (by unfold inR; omega) ?_
    exact s_zret (kX10_within_0 9 rfl) rfl (Or.inl rfl) h
  · have h := h.2 c1
    refine r_iload_n (pc' := 6) (kX10_within_0 3 rfl) rfl rfl ?_
    refine r_iload_n (pc' := 7) (kX10_within_0 4 rfl) rfl rfl ?_
    refine r_icmp_gt (t := 14) (pc' := 10) (kX10_within_0 5 rfl) rfl rfl (fun c2 => ?_) (fun c2 => ?_)
    · have h := h.1 c2
      refine r_iconst 0 (pc' := 15) (kX10_within_0 8 rfl) rfl (by unfold inR; omega) ?_
      exact s_zret (kX10_within_0 9 rfl) rfl (Or.inl rfl) h
    · have h := h.2 c2
      refine r_iconst 1 (pc' := 11) (kX10_within_0 6 rfl) rfl (by unfold inR; omega) ?_
      refine r_goto (pc' := 15) (kX10_within_0 7 rfl) rfl ?_
      exact s_zret (kX10_within_0 9 rfl) rfl (Or.inr rfl) h
abbrev jX10_letterOf_4 (d : Nat) (x0 x1 x2 x3 : Int) (φ : aF) (α : aA) (Q : Int → aF → aA → Prop) : Prop := R0 d mX10_letterOf 4 [(0, x0), (0, x1), (0, x2), (0, x3), (9, 0)] [] φ α Q
theorem vX10_letterOf_0 {d : Nat} {φ : aF} {α : aA} {Q : Int → aF → aA → Prop} {x0 : Int} {x1 : Int} (h : (jX10_letterOf_4 d x0 x1 0 x0 φ α Q)) : eX10_letterOf d x0 x1 φ α Q := by
  intro Ln
  refine r_iconst 0 (pc' := 1) (kX10_letterOf_0 0 rfl) rfl (by unfold inR; omega) ?_
  refine r_istore_n (L' := [(0, x0), (0, x1), (0, 0), (9, 0), (9, 0)]) (pc' := 2) (kX10_letterOf_0 1 rfl) rfl (Nat.le_of_ble_eq_true rfl) rfl ?_
  refine r_iload_n (pc' := 3) (kX10_letterOf_0 2 rfl) rfl rfl ?_
  refine r_istore_n (L' := [(0, x0), (0, x1), (0, 0), (0, x0), (9, 0)]) (pc' := 4) (kX10_letterOf_0 3 rfl) rfl (Nat.le_of_ble_eq_true rfl) rfl ?_
  exact r_weak (L' := [(0, x0), (0, x1), (0, 0), (0, x0), (9, 0)]) ⟨Or.inl rfl, Or.inl rfl, Or.inl rfl, Or.inl rfl, Or.inr (by decide), trivial⟩ (h Ln)
abbrev jX10_letterOf_35 (d : Nat) (x1 x3 x4 : Int) (φ : aF) (α : aA) (Q : Int → aF → aA → Prop) : Prop := R0 d mX10_letterOf 35 [(9, 0), (0, x1), (9, 0), (0, x3), (0, x4)] [] φ α Q
theorem vX10_letterOf_4 {d : Nat} {φ : aF} {α : aA} {Q : Int → aF → aA → Prop} {x0 : Int} {x1 : Int} {x2 : Int} {x3 : Int} (h : ((x3 ≤ 0 →
   ((x2 ≤ x1 →
     inR (x2 - 1) ∧ (jX10_letterOf_35 d x1 0 (x2 - 1) φ α Q)) ∧
     (¬ (x2 ≤ x1) →
     inR (x2 - 1) ∧ (jX10_letterOf_35 d x1 x0 (x2 - 1) φ α Q)))) ∧
   (¬ (x3 ≤ 0) →
   inR (x2 + 1) ∧ inR (Int.tdiv x3 27) ∧ (jX10_letterOf_4 d x0 x1 (x2 + 1) (Int.tdiv x3 27) φ α Q)))) : jX10_letterOf_4 d x0 x1 x2 x3 φ α Q := by
  intro Ln
  refine r_iload_n (pc' := 5) (kX10_letterOf_0 4 rfl) rfl rfl ?_
  refine r_if_le (t := 19) (pc' := 8) (kX10_letterOf_0 5 rfl) rfl rfl (fun c1 => ?_) (fun c1 => ?_)
  · have h := h.1 c1
    refine r_iload_n (pc' := 20) (kX10_letterOf_0 12 rfl) rfl rfl ?_
    refine r_iload_n (pc' := 21) (kX10_letterOf_0 13 rfl) rfl rfl ?_
    refine r_icmp_ge (t := 28) (pc' := 24) (kX10_letterOf_0 14 rfl) rfl rfl (fun c2 => ?_) (fun c2 => ?_)
    · have h := h.1 c2
      refine r_iconst 0 (pc' := 29) (kX10_letterOf_0 17 rfl) rfl (by unfold inR; omega) ?_
      refine r_istore_n (L' := [(0, x0), (0, x1), (0, x2), (0, 0), (9, 0)]) (pc' := 30) (kX10_letterOf_0 18 rfl) rfl (Nat.le_of_ble_eq_true rfl) rfl ?_
      refine r_iload_n (pc' := 31) (kX10_letterOf_0 19 rfl) rfl rfl ?_
      refine r_iconst 1 (pc' := 32) (kX10_letterOf_0 20 rfl) rfl (by unfold inR; omega) ?_
      have g3 := h.1
      have h := h.2
      refine r_isub (pc' := 33) (kX10_letterOf_0 21 rfl) rfl g3 ?_
      refine r_istore (L' := [(0, x0), (0, x1), (0, x2), (0, 0), (0, (x2 - 1))]) (pc' := 35) (kX10_letterOf_0 22 rfl) rfl (Nat.le_of_ble_eq_true rfl) rfl ?_
      exact r_weak (L' := [(9, 0), (0, x1), (9, 0), (0, 0), (0, (x2 - 1))]) ⟨Or.inr (by decide), Or.inl rfl, Or.inr (by decide), Or.inl rfl, Or.inl rfl, trivial⟩ (h Ln)
    · have h := h.2 c2
      refine r_iload_n (pc' := 25) (kX10_letterOf_0 15 rfl) rfl rfl ?_
      refine r_goto (pc' := 29) (kX10_letterOf_0 16 rfl) rfl ?_
      refine r_istore_n (L' := [(0, x0), (0, x1), (0, x2), (0, x0), (9, 0)]) (pc' := 30) (kX10_letterOf_0 18 rfl) rfl (Nat.le_of_ble_eq_true rfl) rfl ?_
      refine r_iload_n (pc' := 31) (kX10_letterOf_0 19 rfl) rfl rfl ?_
      refine r_iconst 1 (pc' := 32) (kX10_letterOf_0 20 rfl) rfl (by unfold inR; omega) ?_
      have g4 := h.1
      have h := h.2
      refine r_isub (pc' := 33) (kX10_letterOf_0 21 rfl) rfl g4 ?_
      refine r_istore (L' := [(0, x0), (0, x1), (0, x2), (0, x0), (0, (x2 - 1))]) (pc' := 35) (kX10_letterOf_0 22 rfl) rfl (Nat.le_of_ble_eq_true rfl) rfl ?_
      exact r_weak (L' := [(9, 0), (0, x1), (9, 0), (0, x0), (0, (x2 - 1))]) ⟨Or.inr (by decide), Or.inl rfl, Or.inr (by decide), Or.inl rfl, Or.inl rfl, trivial⟩ (h Ln)
  · have h := h.2 c1
    have g5 := h.1
    have h := h.2
    refine r_iinc (L' := [(0, x0), (0, x1), (0, (x2 + 1)), (0, x3), (9, 0)]) (pc' := 11) (kX10_letterOf_0 6 rfl) rfl (Nat.le_of_ble_eq_true rfl) rfl g5 rfl ?_
    refine r_iload_n (pc' := 12) (kX10_letterOf_0 7 rfl) rfl rfl ?_
    refine r_bipush 27 (pc' := 14) (kX10_letterOf_0 8 rfl) rfl ⟨by unfold inR; omega, rfl⟩ ?_
    have g6 := h.1
    have h := h.2
    refine r_idiv (pc' := 15) (kX10_letterOf_0 9 rfl) rfl ⟨by decide, g6⟩ ?_
    refine r_istore_n (L' := [(0, x0), (0, x1), (0, (x2 + 1)), (0, (Int.tdiv x3 27)), (9, 0)]) (pc' := 16) (kX10_letterOf_0 10 rfl) rfl (Nat.le_of_ble_eq_true rfl) rfl ?_
    refine r_goto (pc' := 4) (kX10_letterOf_0 11 rfl) rfl ?_
    exact r_weak (L' := [(0, x0), (0, x1), (0, (x2 + 1)), (0, (Int.tdiv x3 27)), (9, 0)]) ⟨Or.inl rfl, Or.inl rfl, Or.inl rfl, Or.inl rfl, Or.inr (by decide), trivial⟩ (h Ln)
theorem vX10_letterOf_35 {d : Nat} {φ : aF} {α : aA} {Q : Int → aF → aA → Prop} {x1 : Int} {x3 : Int} {x4 : Int} (h : ((x4 ≤ x1 →
   inR (Int.tmod x3 27) ∧ (Q (Int.tmod x3 27) φ α)) ∧
   (¬ (x4 ≤ x1) →
   inR (Int.tdiv x3 27) ∧ inR (x4 + (-1)) ∧ (jX10_letterOf_35 d x1 (Int.tdiv x3 27) (x4 + (-1)) φ α Q)))) : jX10_letterOf_35 d x1 x3 x4 φ α Q := by
  intro Ln
  refine r_iload (pc' := 37) (kX10_letterOf_0 23 rfl) rfl rfl ?_
  refine r_iload_n (pc' := 38) (kX10_letterOf_0 24 rfl) rfl rfl ?_
  refine r_icmp_le (t := 52) (pc' := 41) (kX10_letterOf_0 25 rfl) rfl rfl (fun c1 => ?_) (fun c1 => ?_)
  · have h := h.1 c1
    refine r_iload_n (pc' := 53) (kX10_letterOf_0 32 rfl) rfl rfl ?_
    refine r_bipush 27 (pc' := 55) (kX10_letterOf_0 33 rfl) rfl ⟨by unfold inR; omega, rfl⟩ ?_
    have g2 := h.1
    have h := h.2
    refine r_irem (pc' := 56) (kX10_letterOf_0 34 rfl) rfl ⟨by decide, g2⟩ ?_
    exact s_iret (kX10_letterOf_0 35 rfl) rfl h
  · have h := h.2 c1
    refine r_iload_n (pc' := 42) (kX10_letterOf_0 26 rfl) rfl rfl ?_
    refine r_bipush 27 (pc' := 44) (kX10_letterOf_0 27 rfl) rfl ⟨by unfold inR; omega, rfl⟩ ?_
    have g3 := h.1
    have h := h.2
    refine r_idiv (pc' := 45) (kX10_letterOf_0 28 rfl) rfl ⟨by decide, g3⟩ ?_
    refine r_istore_n (L' := [(9, 0), (0, x1), (9, 0), (0, (Int.tdiv x3 27)), (0, x4)]) (pc' := 46) (kX10_letterOf_0 29 rfl) rfl (Nat.le_of_ble_eq_true rfl) rfl ?_
    have g4 := h.1
    have h := h.2
    refine r_iinc (L' := [(9, 0), (0, x1), (9, 0), (0, (Int.tdiv x3 27)), (0, (x4 + (-1)))]) (pc' := 49) (kX10_letterOf_0 30 rfl) rfl (Nat.le_of_ble_eq_true rfl) rfl g4 rfl ?_
    refine r_goto (pc' := 35) (kX10_letterOf_0 31 rfl) rfl ?_
    exact r_weak (L' := [(9, 0), (0, x1), (9, 0), (0, (Int.tdiv x3 27)), (0, (x4 + (-1)))]) ⟨Or.inr (by decide), Or.inl rfl, Or.inr (by decide), Or.inl rfl, Or.inl rfl, trivial⟩ (h Ln)
