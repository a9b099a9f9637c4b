/-- as fr, and ways' row may have changed -/
def frd (b : Int) (φ : aF) (α : aA) (φ' : aF) (α' : aA) : Prop :=
  (∀ c f o, ¬ (c = 7 ∧ o = b ∧ (f = 0 ∨ f = 9 ∨ f = 10)) → φ' c f o = φ c f o) ∧ ∀ a : Int, ¬ (b < a ∧ a < b + 6) → a ≠ 189 → a ≠ 191 → α' a = α a
theorem fr.d {b : Int} {φ φ' : aF} {α α' : aA} (h : fr b φ α φ' α') : frd b φ α φ' α' := ⟨h.1, fun a q1 q2 _ => h.2 a q1 q2⟩
theorem frd.rf {b : Int} {φ : aF} {α : aA} : frd b φ α φ α := fr.rf.d
theorem frd.tr {b : Int} {φ φ1 φ2 : aF} {α α1 α2 : aA} (h : frd b φ α φ1 α1) (h' : frd b φ1 α1 φ2 α2) : frd b φ α φ2 α2 := ⟨fun c f o q => (h'.1 c f o q).trans (h.1 c f o q), fun a q1 q2 q3 => (h'.2 a q1 q2 q3).trans (h.2 a q1 q2 q3)⟩
/-- the office with the code of leaks -/
def XE (φ : aF) (α : aA) (n M ns : Nat) (rm : Int → Int) (cs : List Int) : Prop :=
  XO φ α n M ns rm ∧ φ 6 1 15 = cs.length ∧ (∀ i : Nat, i < cs.length → α 16 (i : Int) = cs.getD i 0) ∧ cs.length ≤ 1600 ∧ tyL2 [] cs = some [false] ∧ (∀ c : Int, 0 ≤ c → c < n → 0 ≤ rm c) ∧ (φ 2 8 9 = 0 ∨ φ 2 8 9 = 1) ∧ (φ 2 8 9 = 0 → (12 : Int) ∉ cs)
def lkF (n M : Nat) (rm : Int → Int) (cs : List Int) (nw : Int → Int) (c o m : Int) : Int := (evL n M rm nw c o m [] cs).headD 0
def flF (n M : Nat) (rm : Int → Int) (cs : List Int) (nw : Int → Int) (c o m : Int) : Int := max 0 (min (min (nw (2 + 5 * c + m)) (rm o - fullF nw o)) (lkF n M rm cs nw c o m))
def mvF (nw : Int → Int) (c o m v : Int) : Int → Int := un (un nw (2 + 5 * c + m) (nw (2 + 5 * c + m) + -v)) (2 + 5 * o + m) (un nw (2 + 5 * c + m) (nw (2 + 5 * c + m) + -v) (2 + 5 * o + m) + v)
def dmF (F : (Int → Int) → Int → Int → Int → Int) (c o : Int) (st : (Int → Int) × Int) : Nat → (Int → Int) × Int
  | 0 => st
  | k + 1 => (mvF (dmF F c o st k).1 c o k (F (dmF F c o st k).1 c o k), (dmF F c o st k).2 + F (dmF F c o st k).1 c o k)
def soF (F : (Int → Int) → Int → Int → Int → Int) (M : Nat) (c o : Int) (st : (Int → Int) × Int) : (Int → Int) × Int := if o < 0 then st else dmF F c o st M
def dsF (F : (Int → Int) → Int → Int → Int → Int) (n M : Nat) (s : Int) (st : (Int → Int) × Int) : (Int → Int) × Int :=
  if sitF st.1 s n < 0 then st else soF F M (sitF st.1 s n) (sitF st.1 (s + 1) n) (soF F M (sitF st.1 s n) (sitF st.1 (s - 1) n) st)
def dyF (F : (Int → Int) → Int → Int → Int → Int) (n M : Nat) (st : (Int → Int) × Int) : Nat → (Int → Int) × Int
  | 0 => st
  | k + 1 => dsF F n M k (dyF F n M st k)
/-- a day: what nw becomes, how many drops went over -/
def dayF (F : (Int → Int) → Int → Int → Int → Int) (n M ns : Nat) (nw : Int → Int) : (Int → Int) × Int := (un (dyF F n M (nw, 0) ns).1 0 ((dyF F n M (nw, 0) ns).1 0 + 1), (dyF F n M (nw, 0) ns).2)
section DY
variable {d : Nat} {φ φ' : aF} {α α' : aA} {Q : Int → aF → aA → Prop} {b c o m x y v s : Int} {n M ns : Nat} {nw rm : Int → Int} {cs : List Int}
theorem XO_of (h1 : ∀ f o, φ' 2 f o = φ 2 f o) (h2 : α' 11 = α 11) (O : XO φ α n M ns rm) : XO φ' α' n M ns rm := ⟨(h1 _ _).trans O.1, (h1 _ _).trans O.2.1, (h1 _ _).trans O.2.2.1, fun c q1 q2 => by rw [h2]; exact O.2.2.2 c q1 q2⟩
theorem XE_of (h1 : ∀ f o, φ' 2 f o = φ 2 f o) (h3 : φ' 6 1 15 = φ 6 1 15) (h2 : α' 11 = α 11) (h4 : α' 16 = α 16) (E : XE φ α n M ns rm cs) : XE φ' α' n M ns rm cs :=
  ⟨XO_of h1 h2 E.1, h3.trans E.2.1, fun i hi => by rw [h4]; exact E.2.2.1 i hi, E.2.2.2.1, E.2.2.2.2.1, E.2.2.2.2.2.1, by rw [h1]; exact E.2.2.2.2.2.2.1, by rw [h1]; exact E.2.2.2.2.2.2.2⟩
theorem XE_frd (hb : isSt b) (hf : frd b φ α φ' α') (E : XE φ α n M ns rm cs) : XE φ' α' n M ns rm cs := by
  have := st_rng hb
  exact XE_of (fun f o => hf.1 _ _ _ (by omega)) (hf.1 _ _ _ (by omega)) (hf.2 _ (by omega) (by omega) (by omega)) (hf.2 _ (by omega) (by omega) (by omega)) E
theorem mvF_full {c' : Int} (hm : 0 ≤ m ∧ m < 4) (hne : c ≠ o) : fullF (mvF nw c o m v) c' = fullF nw c' + (if c' = c then -v else 0) + (if c' = o then v else 0) := by
  unfold mvF
  by_cases e1 : c' = o
  · subst e1
    rw [fullF_un hm, if_pos rfl, if_neg (fun q => hne q.symm), fullF_un_o (by omega)]
    omega
  · rw [fullF_un_o (by omega), if_neg e1]
    by_cases e2 : c' = c
    · subst e2; rw [fullF_un hm, if_pos rfl]; omega
    · rw [fullF_un_o (by omega), if_neg e2]; omega
theorem mvF_o {i : Int} (h1 : i ≠ 2 + 5 * c + m) (h2 : i ≠ 2 + 5 * o + m) : mvF nw c o m v i = nw i := by
  unfold mvF
  rw [un_o h2, un_o h1]
theorem mvF_c (hne : c ≠ o) : mvF nw c o m v (2 + 5 * c + m) = nw (2 + 5 * c + m) - v := by
  unfold mvF
  rw [un_o (by omega), un_s]; omega
theorem mvF_t (hne : c ≠ o) : mvF nw c o m v (2 + 5 * o + m) = nw (2 + 5 * o + m) + v := by
  unfold mvF
  rw [un_s, un_o (by omega)]
theorem GS_mv (G : GS n M ns rm nw) (hc : 0 ≤ c ∧ c < n) (ho : 0 ≤ o ∧ o < n) (hne : c ≠ o) (hm : 0 ≤ m ∧ m < M) (hv0 : 0 ≤ v) (hv1 : v ≤ nw (2 + 5 * c + m)) (hv2 : v ≤ rm o - fullF nw o) : GS n M ns rm (mvF nw c o m v) := by
  obtain ⟨g1, g2, g3, g4, g5, g6, g7⟩ := G
  have sc : ∀ c' : Nat, mvF nw c o m v (1 + 5 * (c' : Int)) = nw (1 + 5 * (c' : Int)) := fun c' => mvF_o (by omega) (by omega)
  refine ⟨by rw [mvF_o (by omega) (by omega)]; exact g1, fun c' h => by rw [sc]; exact g2 c' h, fun c1 c2 h1 h2 h => g3 c1 c2 h1 h2 (by rw [sc, sc] at h; exact h), fun c' m' q1 q2 q3 q4 => ?_, fun c' q1 q2 => ?_, fun m' p' q1 q2 q3 q4 => ?_, g7⟩
  · have := g4 c' m' q1 q2 q3 q4
    by_cases e1 : c' = c ∧ m' = m
    · obtain ⟨rfl, rfl⟩ := e1
      rw [mvF_c hne]
      exact ⟨by omega, fun z => by omega⟩
    · by_cases e2 : c' = o ∧ m' = m
      · obtain ⟨rfl, rfl⟩ := e2
        rw [mvF_t hne]
        exact ⟨by omega, fun z => by omega⟩
      · rw [mvF_o (by omega) (by omega)]; exact this
  · have := g5 c' q1 q2
    rw [mvF_full (by omega) hne]
    by_cases e1 : c' = c
    · rw [if_pos e1, if_neg (by omega)]; omega
    · rw [if_neg e1]
      by_cases e2 : c' = o
      · subst e2; rw [if_pos rfl]; omega
      · rw [if_neg e2]; omega
  · rw [mvF_o (by omega) (by omega)]; exact g6 m' p' q1 q2 q3 q4
theorem c_space (hb : isSt b) (X : XS b φ α n nw) (G : GS n M ns rm nw) (O : XO φ α n M ns rm) (hrm : ∀ c : Int, 0 ≤ c → c < n → 0 ≤ rm c) (hc : 0 ≤ c ∧ c < n) (h : Q (rm c - fullF nw c) φ α) : eX9_space (d + 1) b c φ α Q := by
  have hn := G.2.2.2.2.2.2
  have a1 := G.full hc.1 (show c < 7 by omega)
  have a3 := G.2.2.2.2.1 c hc.1 hc.2
  have a5 := hrm c hc.1 hc.2
  refine vX9_space_0 hb (c_pick (a := 11) (n := 7) (fun _ => rfl) ⟨hc.1, by omega⟩ (c_pick (st4 hb) ⟨hc.1, by omega⟩ ?_))
  rw [O.2.2.2 c hc.1 hc.2, X.2.2.2.2.1 c hc.1 (by omega)]
  exact ⟨by unfold inR; omega, h⟩
theorem flF_bd (G : GS n M ns rm nw) (hc : 0 ≤ c ∧ c < n) (ho : 0 ≤ o ∧ o < n) (hm : 0 ≤ m ∧ m < M) : 0 ≤ flF n M rm cs nw c o m ∧ flF n M rm cs nw c o m ≤ nw (2 + 5 * c + m) ∧ flF n M rm cs nw c o m ≤ rm o - fullF nw o := by
  have hn := G.2.2.2.2.2.2
  have a1 := G.drop hc.1 (show c < 7 by omega) hm.1 (show m < 4 by omega)
  have a2 := G.2.2.2.2.1 o ho.1 ho.2
  unfold flF
  omega
theorem c_flow (hb : isSt b) (X : XS b φ α n nw) (G : GS n M ns rm nw) (E : XE φ α n M ns rm cs) (hc : 0 ≤ c ∧ c < n) (ho : 0 ≤ o ∧ o < n) (hm : 0 ≤ m ∧ m < M) (h : ∀ α', (∀ a, a ≠ 189 → α' a = α a) → Q (flF n M rm cs nw c o m) φ α') : eX9_flow (d + 3) b c o m φ α Q := by
  have hn := G.2.2.2.2.2.2
  refine vX9_flow_0 hb (c_dropsOf hb X (by omega) (by omega) (c_space hb X G E.1 E.2.2.2.2.2.1 ho (c_min ⟨fun q => ?_, fun q => ?_⟩)))
  · refine c_worth (r := 15) row15 (by omega) hb X G E.1 E.2.2.2.2.2.1 hc ho (by omega) E.2.2.1 E.2.1 E.2.2.2.1 E.2.2.2.2.1 (fun α' v ha he hv => c_min (c_max ?_))
    have := h α' ha
    unfold flF lkF at this
    rw [he] at this
    exact this
  · have := h α (fun _ _ => rfl)
    unfold flF at this
    rwa [show max 0 (min (min (nw (2 + 5 * c + m)) (rm o - fullF nw o)) (lkF n M rm cs nw c o m)) = 0 by omega] at this
theorem c_hand (hb : isSt b) (X : XS b φ α n nw) (G : GS n M ns rm nw) (hc : 0 ≤ c ∧ c < n) (ho : 0 ≤ o ∧ o < n) (hne : c ≠ o) (hm : 0 ≤ m ∧ m < M) (hv : 0 ≤ v ∧ v ≤ 99) (h : ∀ φ' α', XS b φ' α' n (mvF nw c o m v) → fr b φ α φ' α' → φ' 7 9 b = 0 → φ' 7 10 b = φ 7 10 b → Q 0 φ' α') : eX9_hand (d + 2) b c o m v φ α Q := by
  have hn := G.2.2.2.2.2.2
  have a1 := G.drop hc.1 (show c < 7 by omega) hm.1 (show m < 4 by omega)
  have a2 := G.full hc.1 (show c < 7 by omega)
  have a3 := G.drop ho.1 (show o < 7 by omega) hm.1 (show m < 4 by omega)
  have a4 := G.full ho.1 (show o < 7 by omega)
  refine vX9_hand_0 hb ⟨by unfold inR; omega, c_gain hb X (by omega) (by omega) (by unfold inR; omega) (by unfold inR; omega) (fun φ1 α1 X1 f1 s1 w1 => ?_)⟩
  refine c_gain hb X1 (by omega) (by omega) (by rw [un_o (by omega)]; unfold inR; omega) (by rw [fullF_un_o (by omega)]; unfold inR; omega) (fun φ2 α2 X2 f2 s2 w2 => ?_)
  exact h φ2 α2 X2 (f1.tr f2) s2 (w2.trans w1)
end DY
