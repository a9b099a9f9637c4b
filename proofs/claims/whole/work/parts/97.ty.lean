/-! what is read has its kind -/
def kL (lv : Nat) : Nat := if lv = 0 ∨ lv = 6 then 6 else if lv = 1 ∨ lv = 7 then 5 else if lv = 2 then 4 else if lv = 3 ∨ lv = 8 then 3 else if lv = 4 ∨ lv = 9 then 2 else 1
def inS (lv : Nat) (ts : List Bool) : List Bool := if lv < 6 then ts else if lv < 8 then true :: ts else false :: ts
def ouS (lv : Nat) (ts : List Bool) : List Bool := if lv < 3 ∨ lv = 6 ∨ lv = 7 then true :: ts else false :: ts
/-- cells of a tongue -/
def okc (tg x : Int) : Prop := ((x ≠ 13 ∧ x ≠ 1 ∧ x ≠ 14) ∨ tg = 7) ∧ (x ≠ 15 ∨ tg = 8) ∧ ((x ≠ 16 ∧ x ≠ 17 ∧ x ≠ 30 ∧ x ≠ 31) ∨ tg = 26)
section TY
variable {T : Int → Int} {N o p f : Nat} {tg e : Int} {ts ts' : List Bool} {c c' : List Int}
theorem ty_app : ∀ {c : List Int} {ts ts' : List Bool}, tyL2 ts c = some ts' → tyL2 ts (c ++ c') = tyL2 ts' c'
  | [], ts, ts', h => by cases h; rfl
  | x :: c, ts, ts', h => by
    rw [List.cons_append, tyL2]
    rw [tyL2] at h
    cases q : tyS ts x with
    | none => rw [q] at h; cases h
    | some t =>
      rw [q] at h
      exact ty_app (c := c) h
theorem ty_one {x : Int} (h : tyS ts x = some ts') : tyL2 ts [x] = some ts' := by rw [tyL2, h]; rfl
def TP (T : Int → Int) (N : Nat) (tg : Int) (f lv : Nat) : Prop := ∀ (o p : Nat) (e : Int) (p' : Nat) (e' : Int) (c : List Int) (ts : List Bool), p ≤ N → e ≤ p → o ≤ 6 → rd T N tg f lv o p e = .ok (p', e', c) → ts.length + 3 * (6 - o) + kL lv ≤ 60 → tyL2 (inS lv ts) c = some (ouS lv ts) ∧ ∀ x ∈ c, okc tg x
theorem ok_op {x : Int} (h : x = 18 ∨ x = 19 ∨ x = 20 ∨ x = 21 ∨ x = 22 ∨ x = 23 ∨ x = 42 ∨ x = 43 ∨ x = 45 ∨ x = 47 ∨ x = 60 ∨ x = 61 ∨ x = 62 ∨ 1000 ≤ x) : okc tg x := by unfold okc; omega
theorem ok_ap (h : ∀ x ∈ c, okc tg x) (h' : ∀ x ∈ c', okc tg x) : ∀ x ∈ c ++ c', okc tg x := fun x hx => by
  rcases List.mem_append.mp hx with q | q
  · exact h x q
  · exact h' x q
theorem ok_1 {x : Int} (h : okc tg x) : ∀ y ∈ [x], okc tg y := fun y hy => by rw [List.mem_singleton] at hy; rw [hy]; exact h
theorem two_ty {l1 l2 lv : Nat} {p' : Nat} {e' : Int} (ho : o ≤ 6) (h1 : TP T N tg f l1) (h2 : TP T N tg f l2) (hp : p ≤ N) (he : e ≤ p) (h : r2 (rd T N tg f) l1 l2 o p e = .ok (p', e', c)) (hk1 : kL l1 ≤ kL lv) (hk2 : kL l2 ≤ kL lv) (hi : inS l1 ts = inS lv ts) (hm : ouS l1 ts = inS l2 ts) (hu : ouS l2 ts = ouS lv ts) (hl : ts.length + 3 * (6 - o) + kL lv ≤ 60) : tyL2 (inS lv ts) c = some (ouS lv ts) ∧ ∀ x ∈ c, okc tg x := by
  obtain ⟨p1, e1, c1, w1, w2⟩ := bnd_inv h
  obtain ⟨p2, e2, c2, w3, w4⟩ := bnd_inv w2
  have g := rd_PG f l1 o _ _ _ he hp w1
  cases w4
  have a := h1 o p e p1 e1 c1 ts hp he ho w1 (by omega)
  have b := h2 o p1 e1 _ _ c2 ts g.1 g.2.1 ho w3 (by omega)
  rw [hi] at a
  refine ⟨?_, ok_ap a.2 b.2⟩
  rw [ty_app a.1, hm, b.1, hu]
theorem lo_ty {l1 lv : Nat} {p' : Nat} {e' cell : Int} {t : Bool} (ho : o ≤ 6) (h1 : TP T N tg f l1) (h2 : TP T N tg f lv) (hp : p ≤ N) (he : e ≤ p) (h : rLo T N (rd T N tg f) l1 lv o p e cell = .ok (p', e', c)) (hk1 : kL l1 + 1 ≤ kL lv) (hl1 : l1 < 6) (hi : inS lv ts = t :: ts) (hu : ouS lv ts = t :: ts) (hu1 : ouS l1 (t :: ts) = t :: t :: ts) (hc : tyS (t :: t :: ts) cell = some (t :: ts)) (hcell : okc tg cell) (hl : ts.length + 3 * (6 - o) + kL lv ≤ 60) : tyL2 (inS lv ts) c = some (ouS lv ts) ∧ ∀ x ∈ c, okc tg x := by
  obtain ⟨p1, e1, c1, w1, w2⟩ := bnd_inv h
  obtain ⟨p2, e2, c2, w3, w4⟩ := bnd_inv w2
  have av := av_bd (T := T) hp
  have g := rd_PG f l1 o _ _ _ (ed_le hp he) av.2.1 w1
  cases w4
  have a := h1 o _ _ p1 e1 c1 (t :: ts) av.2.1 (ed_le hp he) ho w1 (by simp only [List.length_cons]; omega)
  have b := h2 o p1 e1 _ _ c2 ts g.1 g.2.1 ho w3 hl
  have i1 : inS l1 (t :: ts) = t :: ts := by unfold inS; rw [if_pos hl1]
  rw [i1, hu1] at a
  refine ⟨?_, ok_ap a.2 (fun x hx => ?_)⟩
  · rw [hi, ty_app a.1, tyL2, hc]
    have := b.1
    rw [hi] at this
    exact this
  · rcases List.mem_cons.mp hx with q | q
    · rw [q]; exact hcell
    · exact b.2 x q
theorem en_ty {p1 p' : Nat} {e1 e' s : Int} (h : rEnd T N p1 e1 s c' = .ok (p', e', c)) : c = c' := by
  unfold rEnd at h
  split at h
  · cases h; rfl
  · cases h
theorem rd_ty : ∀ f lv : Nat, lv ≤ 9 → TP T N tg f lv
  | 0, lv, _ => fun _ _ _ _ _ _ _ _ _ _ h => by cases h
  | f + 1, lv, hlv => by
    intro o p e p' e' c ts hp he ho h hl
    have IH := fun l h => rd_ty f l h
    have av := av_bd (T := T) hp
    rcases (show lv = 0 ∨ lv = 1 ∨ lv = 2 ∨ lv = 3 ∨ lv = 4 ∨ lv = 5 ∨ lv = 6 ∨ lv = 7 ∨ lv = 8 ∨ lv = 9 by omega) with rfl | rfl | rfl | rfl | rfl | rfl | rfl | rfl | rfl | rfl
    · rw [rd_0] at h
      exact two_ty ho (IH 1 (by omega)) (IH 6 (by omega)) hp he h (by decide) (by decide) rfl rfl rfl hl
    · rw [rd_1] at h
      exact two_ty ho (IH 2 (by omega)) (IH 7 (by omega)) hp he h (by decide) (by decide) rfl rfl rfl hl
    · rw [rd_2] at h
      have hl : ts.length + 3 * (6 - o) + 4 ≤ 60 := hl
      show tyL2 ts c = some (true :: ts) ∧ _
      unfold rFact at h
      split at h
      · cases h
        exact ⟨ty_one (by unfold tyS; rw [if_neg (by omega), if_neg (by omega), if_neg (by omega), if_neg (by omega), if_neg (by omega), if_neg (by omega), if_pos rfl]), ok_1 (ok_op (by omega))⟩
      · split at h
        · split at h
          · cases h
          · rename_i o6
            obtain ⟨p1, e1, c1, w1, w2⟩ := bnd_inv h
            cases w2
            have a : tyL2 ts c1 = some (true :: ts) ∧ _ := IH 2 (by omega) (o + 1) _ _ _ _ c1 ts av.2.1 (ed_le hp he) (by omega) w1 (by show ts.length + 3 * (6 - (o + 1)) + 4 ≤ 60; omega)
            refine ⟨?_, ok_ap a.2 (ok_1 (ok_op (by omega)))⟩
            rw [ty_app a.1]
            exact ty_one (by unfold tyS; rw [if_neg (by omega), if_neg (by omega), if_neg (by omega), if_pos rfl])
        · split at h
          · split at h
            · cases h
            · rename_i o6
              obtain ⟨p1, e1, c1, w1, w2⟩ := bnd_inv h
              rw [en_ty w2]
              exact IH 0 (by omega) (o + 1) _ _ _ _ c1 ts av.2.1 (ed_le hp he) (by omega) w1 (by show ts.length + 3 * (6 - (o + 1)) + 6 ≤ 60; omega)
          · obtain ⟨p1, e1, c1, w1, w2⟩ := bnd_inv h
            have g := rd_PG f 3 o _ _ _ he hp w1
            have a : tyL2 ts c1 = some (false :: ts) ∧ _ := IH 3 (by omega) o _ _ _ _ c1 ts hp he ho w1 (by show ts.length + 3 * (6 - o) + 3 ≤ 60; omega)
            split at w2
            · rename_i q
              have av1 := av_bd (T := T) g.1
              obtain ⟨p2, e2, c2, w3, w4⟩ := bnd_inv w2
              have b : tyL2 (false :: ts) c2 = some (false :: false :: ts) ∧ _ := IH 3 (by omega) o _ _ _ _ c2 (false :: ts) av1.2.1 (ed_le g.1 g.2.1) ho w3 (by show (false :: ts).length + 3 * (6 - o) + 3 ≤ 60; simp only [List.length_cons]; omega)
              cases w4
              have tp : T p1 = 60 ∨ T p1 = 61 ∨ T p1 = 62 := by rcases q with q | q | q <;> have := q.2 <;> omega
              refine ⟨?_, ok_ap (ok_ap a.2 b.2) (ok_1 (ok_op (by clear q; omega)))⟩
              rw [List.append_assoc, ty_app a.1, ty_app b.1]
              exact ty_one (by unfold tyS; rw [if_neg (by clear q; omega), if_neg (by clear q; omega), if_pos tp])
            · cases w2
    · rw [rd_3] at h
      exact two_ty ho (IH 4 (by omega)) (IH 8 (by omega)) hp he h (by decide) (by decide) rfl rfl rfl hl
    · rw [rd_4] at h
      exact two_ty ho (IH 5 (by omega)) (IH 9 (by omega)) hp he h (by decide) (by decide) rfl rfl rfl hl
    · rw [rd_5] at h
      have hl : ts.length + 3 * (6 - o) + 1 ≤ 60 := hl
      show tyL2 ts c = some (false :: ts) ∧ _
      have lf : ∀ x : Int, ((1000 ≤ x ∧ x ≤ 10999) ∨ x = 1 ∨ x = 4 ∨ (10 ≤ x ∧ x ≤ 17)) → tyL2 ts [x] = some (false :: ts) := fun x hx => ty_one (by
        unfold tyS
        rw [if_neg (by omega), if_neg (by omega), if_neg (by omega), if_neg (by omega), if_neg (by omega), if_neg (by omega), if_neg (by omega), if_pos hx])
      unfold rPart at h
      split at h
      · rename_i q
        split at h
        · cases h
          have v := vl_num hp q.1
          exact ⟨lf _ (by clear q; omega), ok_1 (ok_op (by clear q; omega))⟩
        · cases h
      · split at h
        · split at h
          · cases h
          · obtain ⟨p1, e1, c1, w1, w2⟩ := bnd_inv h
            rw [en_ty w2]
            exact IH 3 (by omega) (o + 1) _ _ _ _ c1 ts av.2.1 (ed_le hp he) (by omega) w1 (by show ts.length + 3 * (6 - (o + 1)) + 3 ≤ 60; omega)
        · split at h
          · cases h
          · split at h
            · rename_i q
              unfold rPair at h
              split at h
              · split at h
                · cases h
                · have a0 := ed_le (T := T) hp he
                  have av0 := av_bd (T := T) av.2.1
                  obtain ⟨p1, e1, c1, w1, w2⟩ := bnd_inv h
                  have g := rd_PG f 3 (o + 1) _ _ _ (ed_le av.2.1 a0) av0.2.1 w1
                  have a : tyL2 ts c1 = some (false :: ts) ∧ _ := IH 3 (by omega) (o + 1) _ _ _ _ c1 ts av0.2.1 (ed_le av.2.1 a0) (by omega) w1 (by show ts.length + 3 * (6 - (o + 1)) + 3 ≤ 60; omega)
                  split at w2
                  · have av1 := av_bd (T := T) g.1
                    obtain ⟨p2, e2, c2, w3, w4⟩ := bnd_inv w2
                    have b : tyL2 (false :: ts) c2 = some (false :: false :: ts) ∧ _ := IH 3 (by omega) (o + 1) _ _ _ _ c2 (false :: ts) av1.2.1 (ed_le g.1 g.2.1) (by omega) w3 (by show (false :: ts).length + 3 * (6 - (o + 1)) + 3 ≤ 60; simp only [List.length_cons]; omega)
                    rw [en_ty w4]
                    refine ⟨?_, ok_ap (ok_ap a.2 b.2) (ok_1 (ok_op (by omega)))⟩
                    rw [List.append_assoc, ty_app a.1, ty_app b.1]
                    exact ty_one (by unfold tyS; rw [if_neg (by omega), if_pos (by omega)])
                  · cases w2
              · cases h
            · split at h
              · rename_i q
                split at h
                · cases h
                · obtain ⟨p1, e1, c1, w1, w2⟩ := bnd_inv h
                  cases w2
                  have a : tyL2 ts c1 = some (false :: ts) ∧ _ := IH 5 (by omega) (o + 1) _ _ _ _ c1 ts av.2.1 (ed_le hp he) (by omega) w1 (by show ts.length + 3 * (6 - (o + 1)) + 1 ≤ 60; omega)
                  have hx : (if wdF T N p = 13 then (30 : Int) else 31) = 30 ∨ (if wdF T N p = 13 then (30 : Int) else 31) = 31 := by split; (· exact Or.inl rfl); (· exact Or.inr rfl)
                  refine ⟨?_, ok_ap a.2 (ok_1 (by
                    unfold okc
                    generalize (if wdF T N p = 13 then (30 : Int) else 31) = x at hx
                    exact ⟨Or.inl (by omega), Or.inl (by omega), Or.inr q.1⟩))⟩
                  rw [ty_app a.1]
                  exact ty_one (by unfold tyS; rw [if_neg (by omega), if_neg (by omega), if_neg (by omega), if_neg (by omega), if_pos hx])
              · split at h
                · rename_i q
                  cases h
                  refine ⟨lf _ ?_, ok_1 ?_⟩
                  · unfold spk at q; omega
                  · unfold spk at q; unfold okc; omega
                · cases h
    · rw [rd_6] at h
      split at h
      · exact lo_ty (t := true) ho (IH 1 (by omega)) (IH 6 (by omega)) hp he h (by decide) (by decide) rfl rfl rfl rfl (ok_op (by omega)) hl
      · cases h; exact ⟨rfl, fun x hx => by cases hx⟩
    · rw [rd_7] at h
      split at h
      · exact lo_ty (t := true) ho (IH 2 (by omega)) (IH 7 (by omega)) hp he h (by decide) (by decide) rfl rfl rfl rfl (ok_op (by omega)) hl
      · cases h; exact ⟨rfl, fun x hx => by cases hx⟩
    · rw [rd_8] at h
      split at h
      · rename_i q
        have tp : T p = 43 ∨ T p = 45 := by rcases q with q | q <;> have := q.2 <;> omega
        refine lo_ty (t := false) ho (IH 4 (by omega)) (IH 8 (by omega)) hp he h (by decide) (by decide) rfl rfl rfl (by unfold tyS; rw [if_neg (by clear q; omega), if_pos (by clear q; omega)]) (ok_op (by clear q; omega)) hl
      · cases h; exact ⟨rfl, fun x hx => by cases hx⟩
    · rw [rd_9] at h
      split at h
      · rename_i q
        have tp : T p = 42 ∨ T p = 47 := by rcases q with q | q <;> have := q.2 <;> omega
        refine lo_ty (t := false) ho (IH 5 (by omega)) (IH 9 (by omega)) hp he h (by decide) (by decide) rfl rfl rfl (by unfold tyS; rw [if_neg (by clear q; omega), if_pos (by clear q; omega)]) (ok_op (by clear q; omega)) hl
      · cases h; exact ⟨rfl, fun x hx => by cases hx⟩
/-- a whole SUM, a whole TEST -/
theorem sum_ty {p' : Nat} {e' : Int} (hp : p ≤ N) (he : e ≤ p) (h : rd T N tg f 3 0 p e = .ok (p', e', c)) : tyL2 [] c = some [false] ∧ ∀ x ∈ c, okc tg x := rd_ty f 3 (by omega) 0 p e p' e' c [] hp he (by omega) h (by decide)
theorem test_ty {p' : Nat} {e' : Int} (hp : p ≤ N) (he : e ≤ p) (h : rd T N tg f 0 0 p e = .ok (p', e', c)) : tyL2 [] c = some [true] ∧ ∀ x ∈ c, okc tg x := rd_ty f 0 (by omega) 0 p e p' e' c [] hp he (by omega) h (by decide)
end TY
