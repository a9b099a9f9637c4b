/-- alike in day, seats, drops -/
def nwQ (nw nw' : Int → Int) : Prop := ∀ i : Int, 0 ≤ i → i < 36 → nw' i = nw i
/-- the clerks of a set below k are dry -/
def zq (nw : Int → Int) (s : Int) (k : Nat) : Int → Int := fun i => if 2 ≤ i ∧ i < 37 ∧ (i - 2) % 5 < 4 ∧ (i - 2) / 5 < k ∧ bt s ((i - 2) / 5) ≠ 0 then 0 else nw i
def unF (n M ns : Nat) (rm : Int → Int) (cs : List Int) (nw : Int → Int) (c m : Int) (N : Nat) : Prop := ∀ t : Nat, 1 ≤ t → t ≤ N → dN n M ns rm cs nw t (2 + 5 * c + m) = 0
section PR
variable {d j : Nat} {φ φ' φ0 : aF} {α α' α0 : aA} {Q : Int → aF → aA → Prop} {b c o m x y z v s k ce side t m' p : Int} {n M ns : Nat} {rm nw nw' nw0 sr : Int → Int} {cs ct : List Int}
theorem nwQ.rf : nwQ nw nw := fun _ _ _ => rfl
theorem nwQ.sit (hn : n ≤ 7) (h : nwQ nw nw') : sitF nw' s n = sitF nw s n := sitF_ext (fun c hc => h _ (by omega) (by omega))
theorem nwQ.full (h : nwQ nw nw') (hc : 0 ≤ c ∧ c < 7) : fullF nw' c = fullF nw c := fullF_nw (fun i q1 q2 => h i (by omega) (by omega))
theorem lookF_Q {cell : Int} (h : nwQ nw nw') (hc : 0 ≤ c ∧ c < 7) (ho : 0 ≤ o ∧ o < 7) : lookF rm nw' c o m cell = lookF rm nw c o m cell := by
  unfold lookF
  rw [h.full hc, h.full ho, h (1 + 5 * c) (by omega) (by omega), h (1 + 5 * o) (by omega) (by omega), h 0 (by omega) (by omega)]
  by_cases zm : 0 ≤ m ∧ m < 4
  · rw [if_pos zm, if_pos zm, h (2 + 5 * c + m) (by omega) (by omega)]
  · rw [if_neg zm, if_neg zm]
theorem turnF_Q {cell : Int} (hn : n ≤ 7 ∧ M ≤ 4) (h : nwQ nw nw') (hc : 0 ≤ c ∧ c < 7) : turnF n M nw' c cell v = turnF n M nw c cell v := by
  unfold turnF
  by_cases e1 : cell = 30
  · rw [if_pos e1, if_pos e1]
    by_cases z : 0 ≤ v ∧ v < M
    · rw [if_pos z, if_pos z, h _ (by omega) (by omega)]
    · rw [if_neg z, if_neg z]
  · rw [if_neg e1, if_neg e1]
    by_cases e2 : cell = 31
    · rw [if_pos e2, if_pos e2]
      by_cases z : 0 ≤ v ∧ v < n
      · rw [if_pos z, if_pos z, h _ (by omega) (by omega), h _ (by omega) (by omega)]
      · rw [if_neg z, if_neg z]
    · rw [if_neg e2, if_neg e2]
theorem evL_Q (hn : n ≤ 7 ∧ M ≤ 4) (h : nwQ nw nw') (hc : 0 ≤ c ∧ c < 7) (ho : 0 ≤ o ∧ o < 7) : ∀ (cs : List Int) (st : List Int), evL n M rm nw' c o m st cs = evL n M rm nw c o m st cs
  | [], st => rfl
  | ce :: cs, st => by
    have e : evS n M rm nw' c o m st ce = evS n M rm nw c o m st ce := by
      unfold evS
      have e1 : lookF rm nw' c o m ce = lookF rm nw c o m ce := lookF_Q h hc ho
      rw [e1]
      split
      · rfl
      · split
        · cases st with
          | nil => rfl
          | cons v t => dsimp only; rw [turnF_Q hn h hc]
        · rfl
    show evL n M rm nw' c o m (evS n M rm nw' c o m st ce) cs = evL n M rm nw c o m (evS n M rm nw c o m st ce) cs
    rw [e]
    exact evL_Q hn h hc ho cs _
theorem flF_Q (hn : n ≤ 7 ∧ M ≤ 4) (h : nwQ nw nw') (hc : 0 ≤ c ∧ c < n) (ho : 0 ≤ o ∧ o < n) (hm : 0 ≤ m ∧ m < M) : flF n M rm cs nw' c o m = flF n M rm cs nw c o m := by
  unfold flF lkF
  rw [evL_Q hn h (by omega) (by omega) cs [], h.full (by omega), h _ (by omega) (by omega)]
theorem mvF_Q (h : nwQ nw nw') (hc : 0 ≤ c ∧ c < 7) (ho : 0 ≤ o ∧ o < 7) (hm : 0 ≤ m ∧ m < 4) : nwQ (mvF nw c o m v) (mvF nw' c o m v) := by
  intro i h1 h2
  unfold mvF un
  rw [h (2 + 5 * c + m) (by omega) (by omega), h (2 + 5 * o + m) (by omega) (by omega), h i h1 h2]
theorem dmF_Q (hn : n ≤ 7 ∧ M ≤ 4) (hc : 0 ≤ c ∧ c < n) (ho : 0 ≤ o ∧ o < n) {st st' : (Int → Int) × Int} (h : nwQ st.1 st'.1) : ∀ (k : Nat), k ≤ M → nwQ (dmF (flF n M rm cs) c o st k).1 (dmF (flF n M rm cs) c o st' k).1
  | 0, _ => h
  | k + 1, hk => by
    have i1 := dmF_Q hn hc ho h k (by omega)
    rw [dmF, dmF]
    have e := flF_Q (rm := rm) (cs := cs) hn i1 hc ho (m := (k : Int)) (by omega)
    dsimp only
    rw [e]
    exact mvF_Q i1 (by omega) (by omega) (by omega)
theorem soF_Q (hn : n ≤ 7 ∧ M ≤ 4) (hc : 0 ≤ c ∧ c < n) (ho : o < n) {st st' : (Int → Int) × Int} (h : nwQ st.1 st'.1) : nwQ (soF (flF n M rm cs) M c o st).1 (soF (flF n M rm cs) M c o st').1 := by
  unfold soF
  by_cases q : o < 0
  · rw [if_pos q, if_pos q]; exact h
  · rw [if_neg q, if_neg q]; exact dmF_Q hn hc ⟨by omega, ho⟩ h M (Nat.le_refl _)
theorem dyF_Q {st st' : (Int → Int) × Int} (G : GS n M ns rm st.1) (h : nwQ st.1 st'.1) : ∀ (k : Nat), nwQ (dyF (flF n M rm cs) n M st k).1 (dyF (flF n M rm cs) n M st' k).1
  | 0 => h
  | k + 1 => by
    have i1 := dyF_Q G h k
    have hn := G.2.2.2.2.2.2
    have Gk := (dyF_inv (cs := cs) G k).1
    rw [dyF, dyF]
    unfold dsF
    rw [i1.sit hn.1, i1.sit hn.1, i1.sit hn.1]
    by_cases q : sitF (dyF (flF n M rm cs) n M st k).1 k n < 0
    · rw [if_pos q, if_pos q]; exact i1
    · rw [if_neg q, if_neg q]
      have g0 := Gk.sit k
      have g1 := Gk.sit ((k : Int) - 1)
      have g2 := Gk.sit ((k : Int) + 1)
      exact soF_Q (rm := rm) ⟨hn.1, hn.2.1⟩ (by omega) (by omega) (soF_Q (rm := rm) ⟨hn.1, hn.2.1⟩ (c := sitF (dyF (flF n M rm cs) n M st k).1 k n) (o := sitF (dyF (flF n M rm cs) n M st k).1 ((k : Int) - 1) n) (by omega) (by omega) i1)
theorem dayF_Q (G : GS n M ns rm nw) (h : nwQ nw nw') : nwQ (dayF (flF n M rm cs) n M ns nw).1 (dayF (flF n M rm cs) n M ns nw').1 := by
  have i1 := dyF_Q (cs := cs) (st := (nw, 0)) (st' := (nw', 0)) G h ns
  unfold dayF
  intro i q1 q2
  dsimp only
  unfold un
  rw [i1 0 (by omega) (by omega), i1 i q1 q2]
theorem dN_Q (G : GS n M ns rm nw) (h : nwQ nw nw') {N : Nat} (hN : nw 0 + (N : Int) ≤ 1999) : ∀ t : Nat, t ≤ N → nwQ (dN n M ns rm cs nw t) (dN n M ns rm cs nw' t)
  | 0, _ => h
  | t + 1, ht => by
    have g := dN_o (cs := cs) (k := (N : Int)) G hN t (by omega)
    exact dayF_Q g.1 (dN_Q G h hN t (by omega))
theorem unF_Q (G : GS n M ns rm nw) (h : nwQ nw nw') {N : Nat} (hN : nw 0 + (N : Int) ≤ 1999) (hc : 0 ≤ c ∧ c < 7) (hm : 0 ≤ m ∧ m < 4) : unF n M ns rm cs nw' c m N ↔ unF n M ns rm cs nw c m N := by
  constructor
  · intro q t h1 h2
    rw [← dN_Q G h hN t h2 _ (by omega) (by omega)]
    exact q t h1 h2
  · intro q t h1 h2
    rw [dN_Q G h hN t h2 _ (by omega) (by omega)]
    exact q t h1 h2
theorem zq_d {k : Nat} (hc : 0 ≤ c ∧ c < 7) (hm : 0 ≤ m ∧ m < 4) : zq nw s k (2 + 5 * c + m) = if c < k ∧ bt s c ≠ 0 then 0 else nw (2 + 5 * c + m) := by
  unfold zq
  have e1 : (2 + 5 * c + m - 2) / 5 = c := by omega
  have e2 : (2 + 5 * c + m - 2) % 5 = m := by omega
  rw [e1, e2]
  by_cases q : c < k ∧ bt s c ≠ 0
  · rw [if_pos ⟨by omega, by omega, by omega, q.1, q.2⟩, if_pos q]
  · rw [if_neg (fun w => q ⟨w.2.2.2.1, w.2.2.2.2⟩), if_neg q]
theorem zq_o {k : Nat} {i : Int} (h : i < 2 ∨ 37 ≤ i ∨ (i - 2) % 5 = 4) : zq nw s k i = nw i := by
  unfold zq
  rw [if_neg (by omega)]
theorem drop_i {i : Int} (h : ¬ (i < 2 ∨ 37 ≤ i ∨ (i - 2) % 5 = 4)) : ∃ c m : Int, (0 ≤ c ∧ c < 7) ∧ (0 ≤ m ∧ m < 4) ∧ i = 2 + 5 * c + m := ⟨(i - 2) / 5, (i - 2) % 5, by omega, by omega, by omega⟩
theorem zq_G {k : Nat} (G : GS n M ns rm nw) : GS n M ns rm (zq nw s k) := by
  obtain ⟨g1, g2, g3, g4, g5, g6, g7⟩ := G
  have G : GS n M ns rm nw := ⟨g1, g2, g3, g4, g5, g6, g7⟩
  refine ⟨by rw [zq_o (by omega)]; exact g1, fun c hc => by rw [zq_o (by omega)]; exact g2 c hc, fun c c' h1 h2 h => by rw [zq_o (by omega), zq_o (by omega)] at h; exact g3 c c' h1 h2 h, fun c m q1 q2 q3 q4 => ?_, fun c q1 q2 => ?_, fun m p q1 q2 q3 q4 => by rw [zq_o (by omega)]; exact g6 m p q1 q2 q3 q4, g7⟩
  · have w := g4 c m q1 q2 q3 q4
    rw [zq_d ⟨q1, q2⟩ ⟨q3, q4⟩]
    split
    · exact ⟨Int.le_refl _, fun _ => rfl⟩
    · exact w
  · have w := g5 c q1 q2
    have hc : 0 ≤ c ∧ c < 7 := by omega
    have d0 := G.drop hc.1 hc.2 (m := 0) (by omega) (by omega)
    have d1 := G.drop hc.1 hc.2 (m := 1) (by omega) (by omega)
    have d2 := G.drop hc.1 hc.2 (m := 2) (by omega) (by omega)
    have d3 := G.drop hc.1 hc.2 (m := 3) (by omega) (by omega)
    refine ⟨?_, w.2⟩
    have w1 := w.1
    unfold fullF at w1 ⊢
    have e : ∀ m : Int, 0 ≤ m ∧ m < 4 → zq nw s k (2 + 5 * c + m) ≤ nw (2 + 5 * c + m) := fun m hm => by
      have := G.drop hc.1 hc.2 hm.1 hm.2
      rw [zq_d hc hm]
      split <;> omega
    have e0 := e 0 (by omega); have e1 := e 1 (by omega); have e2 := e 2 (by omega); have e3 := e 3 (by omega)
    rw [Int.add_zero] at e0
    rw [show (2 : Int) + 5 * c + 1 = 3 + 5 * c by omega] at e1
    rw [show (2 : Int) + 5 * c + 2 = 4 + 5 * c by omega] at e2
    rw [show (2 : Int) + 5 * c + 3 = 5 + 5 * c by omega] at e3
    omega
theorem emF_G (G : GS n M ns rm nw) (hc : 0 ≤ c ∧ c < n) (hp : 0 ≤ p ∧ p < 3) : GS n M ns rm (emF nw c p 4) := by
  obtain ⟨g1, g2, g3, g4, g5, g6, g7⟩ := G
  have G : GS n M ns rm nw := ⟨g1, g2, g3, g4, g5, g6, g7⟩
  have hc7 : 0 ≤ c ∧ c < 7 := by omega
  have eo : ∀ i : Int, i < 36 → i < 2 + 5 * c ∨ 5 + 5 * c < i → emF nw c p 4 i = nw i := fun i h1 h2 => emF_o ⟨fun _ => h2, fun w => by omega⟩ hp hc7 4 (by omega)
  refine ⟨by rw [eo 0 (by omega) (by omega)]; exact g1, fun c' hc' => by rw [eo _ (by omega) (by omega)]; exact g2 c' hc', fun c1 c2 h1 h2 h => by rw [eo _ (by omega) (by omega), eo _ (by omega) (by omega)] at h; exact g3 c1 c2 h1 h2 h, fun c' m q1 q2 q3 q4 => ?_, fun c' q1 q2 => ?_, fun m p' q1 q2 q3 q4 => ?_, g7⟩
  · have w := g4 c' m q1 q2 q3 q4
    by_cases e : c' = c
    · subst e
      have z := emF_d (nw := nw) hp hc7 4 (by omega) m.toNat (by omega)
      rw [Int.toNat_of_nonneg q3, if_pos (by omega)] at z
      rw [z]
      exact ⟨Int.le_refl _, fun _ => rfl⟩
    · rw [eo _ (by omega) (by omega)]; exact w
  · have w := g5 c' q1 q2
    by_cases e : c' = c
    · subst e
      have z := fun j hj => emF_d (nw := nw) hp hc7 4 (by omega) j hj
      have z0 := z 0 (by omega); have z1 := z 1 (by omega); have z2 := z 2 (by omega); have z3 := z 3 (by omega)
      rw [if_pos (by omega)] at z0 z1 z2 z3
      have rm0 : 0 ≤ rm c' := by have := G.full hc7.1 hc7.2; omega
      refine ⟨?_, w.2⟩
      unfold fullF
      rw [show (2 : Int) + 5 * c' = 2 + 5 * c' + (0 : Nat) by omega, show (3 : Int) + 5 * c' = 2 + 5 * c' + (1 : Nat) by omega, show (4 : Int) + 5 * c' = 2 + 5 * c' + (2 : Nat) by omega, show (5 : Int) + 5 * c' = 2 + 5 * c' + (3 : Nat) by omega, z0, z1, z2, z3]
      omega
    · rw [fullF_nw (fun i z1 z2 => eo i (by omega) (by omega))]; exact w
  · have w := g6 m p' q1 q2 q3 q4
    have hd := G.drop hc7.1 hc7.2 q1 q2
    by_cases e : p' = p
    · subst e
      have z := emF_p (nw := nw) hp hc7 4 (by omega) m.toNat (by omega)
      rw [Int.toNat_of_nonneg q1, if_pos (by omega)] at z
      rw [z]
      refine ⟨by omega, by omega, fun q => ?_⟩
      have := w.2.2 q
      have := (g4 c m hc7.1 hc7.2 q1 q2).2 (Or.inr q)
      omega
    · rw [emF_o ⟨fun _ => by omega, fun _ j hj => by omega⟩ hp hc7 4 (by omega)]; exact w
-- the class
theorem l_stay56 {N : Nat} (G : GS n M ns rm nw) (hN : nw 0 + (N : Int) ≤ 1999) (hc : 0 ≤ c ∧ c < n) (hm : 0 ≤ m ∧ m < M) (h : ∀ φ' α' v, frd 36 φ0 α0 φ' α' → (v = 1 ∧ unF n M ns rm cs nw c m N ∨ v = 0 ∧ ¬ unF n M ns rm cs nw c m N) → Q v φ' α') : ∀ (r k : Nat), k + r = N → (∀ t : Nat, 1 ≤ t → t ≤ k → dN n M ns rm cs nw t (2 + 5 * c + m) = 0) → ∀ (φ : aF) (α : aA), TR n M ns rm cs φ α (dN n M ns rm cs nw k) → frd 36 φ0 α0 φ α → jX4_staysUnaware_56 (d + 5) c m (N : Int) k φ α Q
  | 0, k, hk, hz, φ, α, T, f => by
    have z : k = N := by omega
    subst z
    exact vX4_staysUnaware_56 ⟨fun _ => h φ α 1 f (Or.inl ⟨rfl, hz⟩), fun q => by omega⟩
  | r + 1, k, hk, hz, φ, α, T, f => by
    have hn := G.2.2.2.2.2.2
    have hd0 := G.1
    have g := dN_o (cs := cs) (k := (N : Int)) G hN k (by omega)
    have g1 := dN_o (cs := cs) (k := (N : Int)) G hN (k + 1) (by omega)
    have gd := g1.1.drop hc.1 (show c < 7 by omega) hm.1 (show m < 4 by omega)
    refine vX4_staysUnaware_56 ⟨fun q => by omega, fun _ => c_dayTR T (by omega) (fun φ1 α1 T1 f1 => c_dropsOf st36 T1.1 (by omega) (by omega) ⟨fun q => ⟨by unfold inR; omega, ?_⟩, fun q => h φ1 α1 0 (f.tr f1) (Or.inr ⟨rfl, fun w => q (Int.le_of_eq (w (k + 1) (by omega) (by omega)))⟩)⟩)⟩
    have q : dN n M ns rm cs nw (k + 1) (2 + 5 * c + m) ≤ 0 := q
    have := l_stay56 G hN hc hm h r (k + 1) (by omega) (fun t h1 h2 => by
      by_cases e : t = k + 1
      · subst e; omega
      · exact hz t h1 (by omega)) φ1 α1 T1 (f.tr f1)
    simpa using this
theorem l_stay14 {N S : Nat} (G : GS n M ns rm nw) (hS : S < 128) (hN : nw 0 + (N : Int) ≤ 1999) (hc : 0 ≤ c ∧ c < n) (hm : 0 ≤ m ∧ m < M) (h : ∀ φ' α' v, frd 36 φ0 α0 φ' α' → (v = 1 ∧ unF n M ns rm cs (zq nw S n) c m N ∨ v = 0 ∧ ¬ unF n M ns rm cs (zq nw S n) c m N) → Q v φ' α') : ∀ (r k : Nat), k + r = n → ∀ (nk : Int → Int) (φ : aF) (α : aA), TR n M ns rm cs φ α nk → nwQ (zq nw S k) nk → frd 36 φ0 α0 φ α → jX4_staysUnaware_14 (d + 5) c m (N : Int) S k φ α Q
  | 0, k, hk, nk, φ, α, T, hq, f => by
    have hn := G.2.2.2.2.2.2
    have e : k = n := by omega
    subst e
    have Gz : GS k M ns rm (zq nw S k) := zq_G G
    have z0 : zq nw S k 0 = nw 0 := zq_o (by omega)
    have n0 : nk 0 = nw 0 := (hq 0 (by omega) (by omega)).trans z0
    refine vX4_staysUnaware_14 ⟨fun _ => ?_, fun q => by have := T.2.2.1.1.2.2.1; omega⟩
    have := l_stay56 (d := d) (Q := Q) (φ0 := φ0) (α0 := α0) (N := N) (nw := nk) (cs := cs) T.2.1 (by omega) hc hm (fun φ' α' v f' hv => h φ' α' v f' (by rw [unF_Q Gz hq (by omega) (by omega) (by omega)] at hv; exact hv)) N 0 (by omega) (fun t h1 h2 => by omega) φ α T f
    simpa using this
  | r + 1, k, hk, nk, φ, α, T, hq, f => by
    have hn := G.2.2.2.2.2.2
    refine vX4_staysUnaware_14 ⟨fun q => by have := T.2.2.1.1.2.2.1; omega, fun _ => ⟨fun q => ⟨by unfold inR; omega, ?_⟩, fun q => ?_⟩⟩
    · have q : bt S k = 0 := q
      have := l_stay14 G hS hN hc hm h r (k + 1) (by omega) nk φ α T (fun i h1 h2 => ?_) f
      · simpa using this
      · rw [hq i h1 h2]
        by_cases e : i < 2 ∨ 37 ≤ i ∨ (i - 2) % 5 = 4
        · rw [zq_o e, zq_o e]
        · obtain ⟨c', m', hc', hm', rfl⟩ := drop_i e
          rw [zq_d hc' hm', zq_d hc' hm']
          by_cases z : c' < k ∧ bt S c' ≠ 0
          · rw [if_pos z, if_pos ⟨by omega, z.2⟩]
          · rw [if_neg z, if_neg (fun w => z ⟨by
              by_cases y : c' = k
              · subst y; exact absurd q w.2
              · omega, w.2⟩)]
    · have q : ¬ bt S k = 0 := q
      refine c_empty st36 T.1 T.2.1 (by omega) (by omega) (fun φ1 α1 X1 f1 s1 => ⟨by unfold inR; omega, ?_⟩)
      have := l_stay14 G hS hN hc hm h r (k + 1) (by omega) (emF nk k 1 4) φ1 α1 ⟨X1, emF_G T.2.1 (by omega) (by omega), XE_frd st36 f1.d T.2.2.1, Or.inl s1⟩ (fun i h1 h2 => ?_) (f.tr f1.d)
      · simpa using this
      · by_cases e : i < 2 ∨ 37 ≤ i ∨ (i - 2) % 5 = 4
        · rw [emF_o ⟨fun _ => by omega, fun w => by omega⟩ (by omega) (by omega) 4 (by omega), hq i h1 h2, zq_o e, zq_o e]
        · obtain ⟨c', m', hc', hm', rfl⟩ := drop_i e
          rw [zq_d hc' hm']
          by_cases y : c' = k
          · subst y
            have z := emF_d (nw := nk) (c := (k : Int)) (p := 1) (by omega) (by omega) 4 (by omega) m'.toNat (by omega)
            rw [Int.toNat_of_nonneg hm'.1, if_pos (by omega)] at z
            rw [z, if_pos ⟨by omega, q⟩]
          · rw [emF_o ⟨fun _ => by omega, fun w => by omega⟩ (by omega) (by omega) 4 (by omega), hq _ (by omega) (by omega), zq_d hc' hm']
            by_cases z : c' < k ∧ bt S c' ≠ 0
            · rw [if_pos z, if_pos ⟨by omega, z.2⟩]
            · rw [if_neg z, if_neg (fun w => z ⟨by omega, w.2⟩)]
theorem c_staysUnaware {N S : Nat} (I : Iv n M ns rm cs ct sr j φ α) (E : XE φ α n M ns rm cs) (hS : S < 128) (hN : α 233 0 + (N : Int) ≤ 1999) (hc : 0 ≤ c ∧ c < n) (hm : 0 ≤ m ∧ m < M) (h : ∀ φ' α' v, frd 36 φ α φ' α' → (v = 1 ∧ unF n M ns rm cs (zq (α 233) S n) c m N ∨ v = 0 ∧ ¬ unF n M ns rm cs (zq (α 233) S n) c m N) → Q v φ' α') : eX4_staysUnaware (d + 5) c m (N : Int) S φ α Q := by
  refine vX4_staysUnaware_0 (c_copyTR I E (fun φ1 α1 T1 f1 => ?_))
  have := l_stay14 (d := d) (Q := Q) (φ0 := φ) (α0 := α) (N := N) (S := S) (nw := α 233) (cs := cs) I.G hS hN hc hm h n 0 (by omega) (α 233) φ1 α1 T1 (fun i h1 h2 => by
    by_cases e : i < 2 ∨ 37 ≤ i ∨ (i - 2) % 5 = 4
    · rw [zq_o e]
    · obtain ⟨c', m', hc', hm', rfl⟩ := drop_i e
      rw [zq_d hc' hm', if_neg (by omega)]) f1
  simpa using this
-- the reference
theorem l_isP64 {N : Nat} (G : GS n M ns rm nw) (hN : nw 0 + (N : Int) ≤ 1999) (hN30 : N ≤ 30) (hc : 0 ≤ c ∧ c < n) (hm : 0 ≤ m ∧ m < M) (hv0 : 0 ≤ φ0 11 53 198 ∧ φ0 11 53 198 ≤ 2100000000) (h : ∀ φ' α' v, ft φ0 α0 φ' α' → RT n M ns rm cs nw0 φ' α' → α' 233 = nw0 → 0 ≤ φ' 11 53 198 ∧ φ' 11 53 198 ≤ φ0 11 53 198 + 53460 → (v = 1 ∧ unF n M ns rm cs nw c m N ∨ v = 0 ∧ ¬ unF n M ns rm cs nw c m N) → Q v φ' α') : ∀ (r k : Nat), k + r = N → (∀ t : Nat, 1 ≤ t → t ≤ k → dN n M ns rm cs nw t (2 + 5 * c + m) = 0) → ∀ (φ : aF) (α : aA), RT n M ns rm cs nw0 φ α → ft φ0 α0 φ α → α 233 = dN n M ns rm cs nw k → 0 ≤ φ 11 53 198 ∧ φ 11 53 198 ≤ φ0 11 53 198 + 1782 * (k : Int) → jX11_isPressed_64 (d + 7) c m (N : Int) 1 k φ α Q
  | 0, k, hk, hz, φ, α, R, f, e, v => by
    have z : k = N := by omega
    subst z
    exact vX11_isPressed_64 ⟨fun _ => r_triesT R (fun α2 R2 e2 f2 _ => ⟨Or.inr rfl, h φ α2 1 (f.tr f2) R2 e2 (by omega) (Or.inl ⟨rfl, hz⟩)⟩), fun q => by omega⟩
  | r + 1, k, hk, hz, φ, α, R, f, e, v => by
    have hn := G.2.2.2.2.2.2
    have hd0 := G.1
    have g := dN_o (cs := cs) (k := (N : Int)) G hN k (by omega)
    have g1 := dN_o (cs := cs) (k := (N : Int)) G hN (k + 1) (by omega)
    have gd := g1.1.drop hc.1 (show c < 7 by omega) hm.1 (show m < 4 by omega)
    refine vX11_isPressed_64 ⟨fun q => by omega, fun _ => ⟨fun q => by omega, fun _ => r_dayT (by omega) R (by rw [e]; exact g.1) (by omega) (fun φ1 α1 f1 R1 e1 v1 => r_dropsOf (by omega) (by omega) ?_)⟩⟩
    have e1 : α1 233 = dN n M ns rm cs nw (k + 1) := by rw [e1, e]; rfl
    rw [e1]
    refine ⟨fun q => ⟨by unfold inR; omega, ?_⟩, fun q => ⟨by unfold inR; omega, ?_⟩⟩
    · have no : ¬ unF n M ns rm cs nw c m N := fun w => q (w (k + 1) (by omega) (by omega))
      have fin : ∀ α2, RT n M ns rm cs nw0 φ1 α2 → α2 233 = nw0 → ft φ1 α1 φ1 α2 → (((0 : Int) = 0 ∨ (0 : Int) = 1) ∧ Q 0 φ1 α2) := fun α2 R2 e2 f2 => ⟨Or.inl rfl, h φ1 α2 0 ((f.tr f1.t).tr f2) R2 e2 (by omega) (Or.inr ⟨rfl, no⟩)⟩
      exact vX11_isPressed_64 ⟨fun _ => r_triesT R1 (fun α2 R2 e2 f2 _ => fin α2 R2 e2 f2), fun q2 => ⟨fun _ => r_triesT R1 (fun α2 R2 e2 f2 _ => fin α2 R2 e2 f2), fun q3 => absurd rfl q3⟩⟩
    · have := l_isP64 G hN hN30 hc hm hv0 h r (k + 1) (by omega) (fun t h1 h2 => by
        by_cases z : t = k + 1
        · subst z; exact q
        · exact hz t h1 (by omega)) φ1 α1 R1 (f.tr f1.t) e1 (by omega)
      simpa using this
theorem l_isP25 {N S k : Nat} (hk7 : k < 7) (h : ∀ α', (∀ a : Int, a ≠ 233 → α' a = α0 a) → (∀ i : Int, α' 233 i = if 2 + 5 * (k : Int) ≤ i ∧ i < 6 + 5 * (k : Int) then 0 else α0 233 i) → jX11_isPressed_3 (d + 1) S c m (N : Int) ((k : Int) + 1) φ α' Q) : ∀ (r t : Nat), t + r = 4 → ∀ (α : aA), (∀ a : Int, a ≠ 233 → α a = α0 a) → (∀ i : Int, α 233 i = if 2 + 5 * (k : Int) ≤ i ∧ i < 2 + 5 * (k : Int) + t then 0 else α0 233 i) → jX11_isPressed_25 (d + 1) S c m (N : Int) k t φ α Q
  | 0, t, ht, α, ha, he => by
    have z : t = 4 := by omega
    subst z
    refine vX11_isPressed_25 ⟨fun _ => ⟨by unfold inR; omega, h α ha (fun i => ?_)⟩, fun q => by omega⟩
    rw [he i]
    by_cases q : 2 + 5 * (k : Int) ≤ i ∧ i < 6 + 5 * (k : Int)
    · rw [if_pos (by omega), if_pos q]
    · rw [if_neg (by omega), if_neg q]
  | r + 1, t, ht, α, ha, he => by
    refine vX11_isPressed_25 ⟨fun q => by omega, fun _ => ⟨by unfold inR; omega, by unfold inR; omega, by unfold inR; omega, ⟨by omega, by omega⟩, by unfold inR; omega, ?_⟩⟩
    have := l_isP25 hk7 h r (t + 1) (by omega) (upa α 233 (2 + 5 * (k : Int) + t) 0) (fun a q => (upa_fn q).trans (ha a q)) (fun i => ?_)
    · simpa using this
    · by_cases q : i = 2 + 5 * (k : Int) + t
      · subst q; rw [upa_eq, if_pos (by omega)]
      · rw [upa_ni q, he i]
        by_cases z : 2 + 5 * (k : Int) ≤ i ∧ i < 2 + 5 * (k : Int) + t
        · rw [if_pos z, if_pos (by omega)]
        · rw [if_neg z, if_neg (by omega)]
theorem l_isP3 {N S : Nat} (G : GS n M ns rm nw0) (hS : S < 128) (hN : nw0 0 + (N : Int) ≤ 1999) (hN30 : N ≤ 30) (hc : 0 ≤ c ∧ c < n) (hm : 0 ≤ m ∧ m < M) (hv0 : 0 ≤ φ 11 53 198 ∧ φ 11 53 198 ≤ 2100000000) (h : ∀ φ' α' v, ft φ α0 φ' α' → RT n M ns rm cs nw0 φ' α' → α' 233 = nw0 → 0 ≤ φ' 11 53 198 ∧ φ' 11 53 198 ≤ φ 11 53 198 + 53460 → (v = 1 ∧ unF n M ns rm cs (zq nw0 S n) c m N ∨ v = 0 ∧ ¬ unF n M ns rm cs (zq nw0 S n) c m N) → Q v φ' α') : ∀ (r k : Nat), k + r = n → ∀ (α : aA), RT n M ns rm cs nw0 φ α → ft φ α0 φ α → α 233 = zq nw0 S k → jX11_isPressed_3 (d + 7) S c m (N : Int) k φ α Q
  | 0, k, hk, α, R, f, e => by
    have z : k = n := by omega
    subst z
    refine vX11_isPressed_3 (r_cMany R.2.1.1.2.1 ⟨fun _ => ?_, fun q => by omega⟩)
    have := l_isP64 (d := d) (Q := Q) (φ0 := φ) (α0 := α0) (N := N) (nw := zq nw0 S k) (nw0 := nw0) (cs := cs) (zq_G G) (by rw [zq_o (by omega)]; exact hN) hN30 hc hm hv0 h N 0 (by omega) (fun t h1 h2 => by omega) φ α R f e (by omega)
    simpa using this
  | r + 1, k, hk, α, R, f, e => by
    have hn := G.2.2.2.2.2.2
    have b3 := @bt01 S k (by omega) (by omega)
    refine vX11_isPressed_3 (r_cMany R.2.1.1.2.1 ⟨fun q => by omega, fun _ => ⟨fun q => ⟨by unfold inR; omega, ?_⟩, fun q => ?_⟩⟩)
    · have q : ¬ bt S k = 1 := q
      have := l_isP3 G hS hN hN30 hc hm hv0 h r (k + 1) (by omega) α R f (by
        rw [e]
        funext i
        by_cases e2 : i < 2 ∨ 37 ≤ i ∨ (i - 2) % 5 = 4
        · rw [zq_o e2, zq_o e2]
        · obtain ⟨c', m', hc', hm', rfl⟩ := drop_i e2
          rw [zq_d hc' hm', zq_d hc' hm']
          by_cases z : c' < k ∧ bt S c' ≠ 0
          · rw [if_pos z, if_pos ⟨by omega, z.2⟩]
          · rw [if_neg z, if_neg (fun w => z ⟨by
              by_cases y : c' = k
              · subst y; omega
              · omega, w.2⟩)])
      simpa using this
    · have q : bt S k = 1 := q
      have := l_isP25 (d := d + 6) (φ := φ) (Q := Q) (N := N) (S := S) (c := c) (m := m) (k := k) (α0 := α) (by omega) (fun α1 a1 e1 => ?_) 4 0 rfl α (fun _ _ => rfl) (fun i => by rw [if_neg (by omega)])
      · simpa using this
      · have fm1 : fm φ α φ α1 := ⟨fun _ _ _ _ => rfl, fun a q _ => a1 a q⟩
        have := l_isP3 G hS hN hN30 hc hm hv0 h r (k + 1) (by omega) α1 (RT_fm fm1 (fun i hi => by rw [e1 i, if_neg (by omega)]) R) (f.tr fm1.t) (by
          funext i
          rw [e1 i, e]
          by_cases e2 : i < 2 ∨ 37 ≤ i ∨ (i - 2) % 5 = 4
          · rw [zq_o e2, zq_o e2, if_neg (by omega)]
          · obtain ⟨c', m', hc', hm', rfl⟩ := drop_i e2
            rw [zq_d hc' hm', zq_d hc' hm']
            by_cases y : c' = k
            · subst y
              rw [if_pos (by omega), if_pos ⟨by omega, by omega⟩]
            · rw [if_neg (by omega)]
              by_cases z : c' < k ∧ bt S c' ≠ 0
              · rw [if_pos z, if_pos ⟨by omega, z.2⟩]
              · rw [if_neg z, if_neg (fun w => z ⟨by omega, w.2⟩)])
        simpa using this
theorem zq_0 : zq nw s 0 = nw := by
  funext i
  by_cases e2 : i < 2 ∨ 37 ≤ i ∨ (i - 2) % 5 = 4
  · rw [zq_o e2]
  · obtain ⟨c', m', hc', hm', rfl⟩ := drop_i e2
    rw [zq_d hc' hm', if_neg (by omega)]
theorem r_isPressed {N S : Nat} (G : GS n M ns rm nw0) (hS : S < 128) (hN : nw0 0 + (N : Int) ≤ 1999) (hN30 : N ≤ 30) (hc : 0 ≤ c ∧ c < n) (hm : 0 ≤ m ∧ m < M) (hv0 : 0 ≤ φ 11 53 198 ∧ φ 11 53 198 ≤ 2100000000) (R : RT n M ns rm cs nw0 φ α) (e : α 233 = nw0) (h : ∀ φ' α' v, ft φ α φ' α' → RT n M ns rm cs nw0 φ' α' → α' 233 = nw0 → 0 ≤ φ' 11 53 198 ∧ φ' 11 53 198 ≤ φ 11 53 198 + 53460 → (v = 1 ∧ unF n M ns rm cs (zq nw0 S n) c m N ∨ v = 0 ∧ ¬ unF n M ns rm cs (zq nw0 S n) c m N) → Q v φ' α') : eX11_isPressed (d + 7) S c m (N : Int) φ α Q := by
  refine vX11_isPressed_0 ?_
  have := l_isP3 (d := d) (Q := Q) (φ := φ) (α0 := α) (nw0 := nw0) (cs := cs) G hS hN hN30 hc hm hv0 h n 0 (by omega) α R ft.rf (by rw [zq_0]; exact e)
  simpa using this
end PR
