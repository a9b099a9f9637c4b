/-! the small language: what is read, by descent -/
abbrev rR : Type := Except (Int × Int) (Nat × Int × List Int)
def bnd (x : rR) (k : Nat → Int → List Int → rR) : rR := match x with
  | .error e => .error e
  | .ok (p, e, c) => k p e c
theorem bnd_ok {x : rR} {k : Nat → Int → List Int → rR} {p : Nat} {e : Int} {c : List Int} (h : x = .ok (p, e, c)) : bnd x k = k p e c := by rw [h]; rfl
theorem bnd_er {x : rR} {k : Nat → Int → List Int → rR} {q : Int × Int} (h : x = .error q) : bnd x k = .error q := by rw [h]; rfl
theorem bnd_inv {x : rR} {k : Nat → Int → List Int → rR} {r : Nat × Int × List Int} (h : bnd x k = .ok r) : ∃ p e c, x = .ok (p, e, c) ∧ k p e c = .ok r := by
  match x, h with
  | .ok (p, e, c), h => exact ⟨p, e, c, rfl, h⟩
abbrev isW (T : Int → Int) (N p : Nat) (e w : Int) : Prop := kdF T N p = 1 ∧ e ≠ p ∧ wdF T N p = w
abbrev isS (T : Int → Int) (N p : Nat) (s : Int) : Prop := kdF T N p = 3 ∧ T p = s
abbrev spk (tg w : Int) : Prop := w = 4 ∨ w = 10 ∨ w = 11 ∨ w = 12 ∨ (tg = 7 ∧ (w = 1 ∨ w = 13 ∨ w = 14)) ∨ (tg = 8 ∧ w = 15) ∨ (tg = 26 ∧ (w = 16 ∨ w = 17))
section RD
variable (T : Int → Int) (N : Nat) (tg : Int)
def r2 (g : Nat → Nat → Nat → Int → rR) (l1 l2 o p : Nat) (e : Int) : rR := bnd (g l1 o p e) fun p1 e1 c1 => bnd (g l2 o p1 e1) fun p2 e2 c2 => .ok (p2, e2, c1 ++ c2)
def rLo (g : Nat → Nat → Nat → Int → rR) (l1 l2 o p : Nat) (e cell : Int) : rR := bnd (g l1 o (avF T N p) (edF T N p e)) fun p1 e1 c1 => bnd (g l2 o p1 e1) fun p2 e2 c2 => .ok (p2, e2, c1 ++ cell :: c2)
def rEnd (p : Nat) (e s : Int) (c : List Int) : rR := if isS T N p s then .ok (avF T N p, edF T N p e, c) else .error (1, (p : Int))
def rFact (g : Nat → Nat → Nat → Int → rR) (o p : Nat) (e : Int) : rR :=
  if isW T N p e 21 then .ok (avF T N p, edF T N p e, [21])
  else if isW T N p e 20 then (if 6 ≤ o then .error (4, (p : Int)) else bnd (g 2 (o + 1) (avF T N p) (edF T N p e)) fun p1 e1 c1 => .ok (p1, e1, c1 ++ [20]))
  else if isS T N p 91 then (if 6 ≤ o then .error (4, (p : Int)) else bnd (g 0 (o + 1) (avF T N p) (edF T N p e)) fun p1 e1 c1 => rEnd T N p1 e1 93 c1)
  else bnd (g 3 o p e) fun p1 e1 c1 => if isS T N p1 60 ∨ isS T N p1 62 ∨ isS T N p1 61 then bnd (g 3 o (avF T N p1) (edF T N p1 e1)) (fun p2 e2 c2 => .ok (p2, e2, (c1 ++ c2) ++ [T p1])) else .error (1, (p1 : Int))
def rPair (g : Nat → Nat → Nat → Int → rR) (w : Int) (o p : Nat) (e : Int) : rR :=
  if isS T N p 40 then (if 6 ≤ o then .error (4, (p : Int)) else bnd (g 3 (o + 1) (avF T N p) (edF T N p e)) fun p1 e1 c1 => if isS T N p1 44 then bnd (g 3 (o + 1) (avF T N p1) (edF T N p1 e1)) (fun p2 e2 c2 => rEnd T N p2 e2 41 ((c1 ++ c2) ++ [w])) else .error (1, (p1 : Int))) else .error (1, (p : Int))
def rPart (g : Nat → Nat → Nat → Int → rR) (o p : Nat) (e : Int) : rR :=
  if kdF T N p = 2 ∧ e ≠ p then (if nxF T N p - p ≤ 4 then .ok (avF T N p, edF T N p e, [1000 + vlF T N p]) else .error (1, (p : Int) + 4))
  else if isS T N p 40 then (if 6 ≤ o then .error (4, (p : Int)) else bnd (g 3 (o + 1) (avF T N p) (edF T N p e)) fun p1 e1 c1 => rEnd T N p1 e1 41 c1)
  else if ¬ (kdF T N p = 1 ∧ e ≠ p) then .error (1, (p : Int))
  else if wdF T N p = 22 ∨ wdF T N p = 23 then rPair T N g (wdF T N p) o (avF T N p) (edF T N p e)
  else if tg = 26 ∧ (wdF T N p = 13 ∨ wdF T N p = 15) then (if 6 ≤ o then .error (4, (p : Int)) else bnd (g 5 (o + 1) (avF T N p) (edF T N p e)) fun p1 e1 c1 => .ok (p1, e1, c1 ++ [if wdF T N p = 13 then 30 else 31]))
  else if spk tg (wdF T N p) then .ok (avF T N p, edF T N p e, [wdF T N p]) else .error (1, (p : Int))
/-- levels: 0 TEST, 1 BOTH, 2 FACT, 3 SUM, 4 PRODUCT, 5 PART; 6 .. 9 what goes on behind or, and, + -, * / -/
def rs (g : Nat → Nat → Nat → Int → rR) (lv o p : Nat) (e : Int) : rR :=
  if lv = 0 then r2 g 1 6 o p e else if lv = 1 then r2 g 2 7 o p e else if lv = 2 then rFact T N g o p e
  else if lv = 3 then r2 g 4 8 o p e else if lv = 4 then r2 g 5 9 o p e else if lv = 5 then rPart T N tg g o p e
  else if lv = 6 then (if isW T N p e 18 then rLo T N g 1 6 o p e 18 else .ok (p, e, []))
  else if lv = 7 then (if isW T N p e 19 then rLo T N g 2 7 o p e 19 else .ok (p, e, []))
  else if lv = 8 then (if isS T N p 43 ∨ isS T N p 45 then rLo T N g 4 8 o p e (T p) else .ok (p, e, []))
  else (if isS T N p 42 ∨ isS T N p 47 then rLo T N g 5 9 o p e (T p) else .ok (p, e, []))
def rd : Nat → Nat → Nat → Nat → Int → rR
  | 0 => fun _ _ _ _ => .error (0, 0)
  | f + 1 => rs T N tg (rd f)
/-- what is read ends further on, and its code is no longer than it -/
def PG (lv p : Nat) (r : Nat × Int × List Int) : Prop := r.1 ≤ N ∧ r.2.1 ≤ r.1 ∧ r.2.2.length + p ≤ r.1 ∧ (lv < 6 → p < r.1)
end RD
section PGs
variable {T : Int → Int} {N : Nat} {tg : Int} {o p : Nat} {e : Int}
theorem ed_le (hp : p ≤ N) (he : e ≤ p) : edF T N p e ≤ avF T N p := by
  have a := av_bd (T := T) hp
  have b := nx_bd (T := T) hp
  unfold edF
  split <;> omega
theorem rd_PG : ∀ (f lv o p : Nat) (e : Int) (r : Nat × Int × List Int), e ≤ p → p ≤ N → rd T N tg f lv o p e = .ok r → PG N lv p r
  | 0, lv, o, p, e, r, he, hp, h => by cases h
  | f + 1, lv, o, p, e, r, he, hp, h => by
    have IH := fun lv o p e r he hp h => rd_PG f lv o p e r he hp h
    have h : rs T N tg (rd T N tg f) lv o p e = .ok r := h
    have two : ∀ l1 l2, l1 < 6 → r2 (rd T N tg f) l1 l2 o p e = .ok r → PG N lv p r := by
      intro l1 l2 hl w
      obtain ⟨p1, e1, c1, w1, w2⟩ := bnd_inv w
      obtain ⟨p2, e2, c2, w3, w4⟩ := bnd_inv w2
      have i1 := IH l1 o p e _ he hp w1
      have i2 := IH l2 o p1 e1 _ i1.2.1 i1.1 w3
      cases w4
      have a := i1.2.2.2 hl
      have b := i1.2.2.1
      have c := i2.2.2.1
      dsimp only at a b c
      exact ⟨i2.1, i2.2.1, by dsimp only; rw [List.length_append]; omega, fun _ => by dsimp only; omega⟩
    have lo : ∀ l1 l2 cell, l1 < 6 → kdF T N p ≠ 0 → rLo T N (rd T N tg f) l1 l2 o p e cell = .ok r → PG N lv p r := by
      intro l1 l2 cell hl hk w
      have a := av_bd (T := T) hp
      have ap := a.2.2 hk
      obtain ⟨p1, e1, c1, w1, w2⟩ := bnd_inv w
      obtain ⟨p2, e2, c2, w3, w4⟩ := bnd_inv w2
      have i1 := IH l1 o _ _ _ (ed_le hp he) a.2.1 w1
      have i2 := IH l2 o p1 e1 _ i1.2.1 i1.1 w3
      cases w4
      have b1 := i1.2.2.1
      have c3 := i2.2.2.1
      dsimp only at b1 c3
      exact ⟨i2.1, i2.2.1, by dsimp only; rw [List.length_append, List.length_cons]; omega, fun _ => by dsimp only; omega⟩
    have nil : 6 ≤ lv → (Except.ok (p, e, ([] : List Int)) : rR) = .ok r → PG N lv p r := by
      intro hl w
      cases w
      exact ⟨hp, he, by simp, fun q => by omega⟩
    have one : ∀ c : List Int, c.length = 1 → kdF T N p ≠ 0 → (Except.ok (avF T N p, edF T N p e, c) : rR) = .ok r → PG N lv p r := by
      intro c hc hk w
      cases w
      have a := av_bd (T := T) hp
      have ap := a.2.2 hk
      exact ⟨a.2.1, ed_le hp he, by dsimp only; omega, fun _ => ap⟩
    have en : ∀ (p1 : Nat) (e1 s : Int) (c : List Int), p < p1 → e1 ≤ p1 → p1 ≤ N → c.length + p ≤ p1 + 1 → rEnd T N p1 e1 s c = .ok r → PG N lv p r := by
      intro p1 e1 s c h1 h2 h3 h4 w
      unfold rEnd at w
      split at w
      · rename_i hs
        cases w
        have a := av_bd (T := T) h3
        have ap := a.2.2 (by rw [hs.1]; omega)
        exact ⟨a.2.1, ed_le h3 h2, by dsimp only; omega, fun _ => by dsimp only; omega⟩
      · cases w
    unfold rs at h
    split at h
    · exact two 1 6 (by omega) h
    · split at h
      · exact two 2 7 (by omega) h
      · split at h
        · -- FACT
          unfold rFact at h
          split at h
          · rename_i q; exact one _ rfl (by rw [q.1]; omega) h
          · split at h
            · rename_i q
              split at h
              · cases h
              · have a := av_bd (T := T) hp
                have ap := a.2.2 (by rw [q.1]; omega)
                obtain ⟨p1, e1, c1, w1, w2⟩ := bnd_inv h
                have i1 := IH 2 _ _ _ _ (ed_le hp he) a.2.1 w1
                cases w2
                have b1 := i1.2.2.1
                have b2 := i1.2.2.2 (by omega)
                dsimp only at b1 b2
                exact ⟨i1.1, i1.2.1, by dsimp only; rw [List.length_append]; simp only [List.length_cons, List.length_nil]; omega, fun _ => by dsimp only; omega⟩
            · split at h
              · rename_i q
                split at h
                · cases h
                · have a := av_bd (T := T) hp
                  have ap := a.2.2 (by rw [q.1]; omega)
                  obtain ⟨p1, e1, c1, w1, w2⟩ := bnd_inv h
                  have i1 := IH 0 _ _ _ _ (ed_le hp he) a.2.1 w1
                  have b1 := i1.2.2.1
                  have b2 := i1.2.2.2 (by omega)
                  dsimp only at b1 b2
                  exact en p1 e1 93 c1 (by omega) i1.2.1 i1.1 (by omega) w2
              · obtain ⟨p1, e1, c1, w1, w2⟩ := bnd_inv h
                have i1 := IH 3 _ _ _ _ he hp w1
                have b1 := i1.2.2.1
                have b2 := i1.2.2.2 (by omega)
                dsimp only at b1 b2
                split at w2
                · rename_i q
                  have a := av_bd (T := T) i1.1
                  have ap := a.2.2 (by rcases q with q | q | q <;> rw [q.1] <;> omega)
                  dsimp only at a ap
                  obtain ⟨p2, e2, c2, w3, w4⟩ := bnd_inv w2
                  have i2 := IH 3 _ _ _ _ (ed_le i1.1 i1.2.1) a.2.1 w3
                  have b3 := i2.2.2.1
                  dsimp only at b3
                  cases w4
                  exact ⟨i2.1, i2.2.1, by dsimp only; rw [List.length_append, List.length_append]; simp only [List.length_cons, List.length_nil]; omega, fun _ => by dsimp only; omega⟩
                · cases w2
        · split at h
          · exact two 4 8 (by omega) h
          · split at h
            · exact two 5 9 (by omega) h
            · split at h
              · -- PART
                unfold rPart at h
                have a := av_bd (T := T) hp
                split at h
                · rename_i q
                  split at h
                  · exact one _ rfl (by rw [q.1]; omega) h
                  · cases h
                · split at h
                  · rename_i q
                    split at h
                    · cases h
                    · have ap := a.2.2 (by rw [q.1]; omega)
                      obtain ⟨p1, e1, c1, w1, w2⟩ := bnd_inv h
                      have i1 := IH 3 _ _ _ _ (ed_le hp he) a.2.1 w1
                      have b1 := i1.2.2.1
                      have b2 := i1.2.2.2 (by omega)
                      dsimp only at b1 b2
                      exact en p1 e1 41 c1 (by omega) i1.2.1 i1.1 (by omega) w2
                  · split at h
                    · cases h
                    · rename_i q
                      have q := Decidable.not_not.mp q
                      have ap := a.2.2 (by rw [q.1]; omega)
                      split at h
                      · unfold rPair at h
                        have a1 := av_bd (T := T) a.2.1
                        split at h
                        · rename_i q1
                          have ap1 := a1.2.2 (by rw [q1.1]; omega)
                          split at h
                          · cases h
                          · obtain ⟨p1, e1, c1, w1, w2⟩ := bnd_inv h
                            have i1 := IH 3 _ _ _ _ (ed_le a.2.1 (ed_le hp he)) a1.2.1 w1
                            have b1 := i1.2.2.1
                            have b2 := i1.2.2.2 (by omega)
                            dsimp only at b1 b2
                            split at w2
                            · rename_i q2
                              have a2 := av_bd (T := T) i1.1
                              have ap2 := a2.2.2 (by rw [q2.1]; omega)
                              dsimp only at a2 ap2
                              obtain ⟨p2, e2, c2, w3, w4⟩ := bnd_inv w2
                              have i2 := IH 3 _ _ _ _ (ed_le i1.1 i1.2.1) a2.2.1 w3
                              have b3 := i2.2.2.1
                              have b4 := i2.2.2.2 (by omega)
                              dsimp only at b3 b4
                              exact en p2 e2 41 _ (by omega) i2.2.1 i2.1 (by rw [List.length_append, List.length_append]; simp only [List.length_cons, List.length_nil]; omega) w4
                            · cases w2
                        · cases h
                      · split at h
                        · split at h
                          · cases h
                          · obtain ⟨p1, e1, c1, w1, w2⟩ := bnd_inv h
                            have i1 := IH 5 _ _ _ _ (ed_le hp he) a.2.1 w1
                            cases w2
                            have b1 := i1.2.2.1
                            have b2 := i1.2.2.2 (by omega)
                            dsimp only at b1 b2
                            exact ⟨i1.1, i1.2.1, by dsimp only; rw [List.length_append]; simp only [List.length_cons, List.length_nil]; omega, fun _ => by dsimp only; omega⟩
                        · split at h
                          · exact one _ rfl (by rw [q.1]; omega) h
                          · cases h
              · split at h
                · split at h
                  · rename_i q; exact lo 1 6 _ (by omega) (by rw [q.1]; omega) h
                  · exact nil (by omega) h
                · split at h
                  · split at h
                    · rename_i q; exact lo 2 7 _ (by omega) (by rw [q.1]; omega) h
                    · exact nil (by omega) h
                  · split at h
                    · split at h
                      · rename_i q; exact lo 4 8 _ (by omega) (by rcases q with q | q <;> rw [q.1] <;> omega) h
                      · exact nil (by omega) h
                    · split at h
                      · rename_i q; exact lo 5 9 _ (by omega) (by rcases q with q | q <;> rw [q.1] <;> omega) h
                      · exact nil (by omega) h
end PGs
