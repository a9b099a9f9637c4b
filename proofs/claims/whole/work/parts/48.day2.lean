section D2
variable {d : Nat} {φ φ' : aF} {α α' : aA} {Q : Int → aF → aA → Prop} {b c o m x y v s : Int} {n M ns : Nat} {nw nw' rm : Int → Int} {cs : List Int}
/-- alike but for the day and what is kept -/
def nwE (nw nw' : Int → Int) : Prop := ∀ i : Int, 1 ≤ i → i < 48 → nw' i = nw i
theorem nwE.rf : nwE nw nw := fun _ _ _ => rfl
theorem nwE.sit (hn : n ≤ 7) (h : nwE nw nw') : sitF nw' s n = sitF nw s n := sitF_ext (fun c hc => h _ (by omega) (by omega))
theorem nwE.full (h : nwE nw nw') (hc : 0 ≤ c ∧ c < 7) : fullF nw' c = fullF nw c := fullF_nw (fun i q1 q2 => h i (by omega) (by omega))
theorem lookF_ext {cell : Int} (h : nwE nw nw') (hd : cell ≠ 12 ∨ nw' 0 = nw 0) (hc : 0 ≤ c ∧ c < 7) (ho : 0 ≤ o ∧ o < 7) : lookF rm nw' c o m cell = lookF rm nw c o m cell := by
  unfold lookF
  rw [h.full hc, h.full ho, h (1 + 5 * c) (by omega) (by omega), h (1 + 5 * o) (by omega) (by omega)]
  by_cases zm : 0 ≤ m ∧ m < 4
  · rw [if_pos zm, if_pos zm, h (2 + 5 * c + m) (by omega) (by omega)]
    rcases hd with hd | hd
    · rw [if_neg hd, if_neg hd]
    · rw [hd]
  · rw [if_neg zm, if_neg zm]
    rcases hd with hd | hd
    · rw [if_neg hd, if_neg hd]
    · rw [hd]
theorem turnF_ext {cell : Int} (hn : n ≤ 7 ∧ M ≤ 4) (h : nwE nw nw') (hc : 0 ≤ c ∧ c < 7) : turnF n M nw' c cell v = turnF n M nw c cell v := by
  unfold turnF
  by_cases e1 : cell = 30
  · rw [if_pos e1, if_pos e1]
    by_cases z : 0 ≤ v ∧ v < M
    · rw [if_pos z, if_pos z, h _ (by omega) (by omega)]
    · rw [if_neg z, if_neg z]
  · rw [if_neg e1, if_neg e1]
    by_cases e2 : cell = 31
    · rw [if_pos e2, if_pos e2]
      by_cases z : 0 ≤ v ∧ v < n
      · rw [if_pos z, if_pos z, h _ (by omega) (by omega), h _ (by omega) (by omega)]
      · rw [if_neg z, if_neg z]
    · rw [if_neg e2, if_neg e2]
theorem evL_ext (hn : n ≤ 7 ∧ M ≤ 4) (h : nwE nw nw') (hc : 0 ≤ c ∧ c < 7) (ho : 0 ≤ o ∧ o < 7) : ∀ (cs : List Int) (st : List Int), ((12 : Int) ∉ cs ∨ nw' 0 = nw 0) → evL n M rm nw' c o m st cs = evL n M rm nw c o m st cs
  | [], st, _ => rfl
  | ce :: cs, st, hd => by
    have e : evS n M rm nw' c o m st ce = evS n M rm nw c o m st ce := by
      unfold evS
      have e1 : lookF rm nw' c o m ce = lookF rm nw c o m ce := lookF_ext h (by rcases hd with hd | hd; (· exact Or.inl (fun q => hd (by rw [q]; exact List.mem_cons_self))); (· exact Or.inr hd)) hc ho
      rw [e1]
      split
      · rfl
      · split
        · cases st with
          | nil => rfl
          | cons v t => dsimp only; rw [turnF_ext hn h hc]
        · rfl
    show evL n M rm nw' c o m (evS n M rm nw' c o m st ce) cs = evL n M rm nw c o m (evS n M rm nw c o m st ce) cs
    rw [e]
    exact evL_ext hn h hc ho cs _ (by rcases hd with hd | hd; (· exact Or.inl (fun q => hd (List.mem_cons_of_mem _ q))); (· exact Or.inr hd))
theorem flF_ext (hn : n ≤ 7 ∧ M ≤ 4) (h : nwE nw nw') (hd : (12 : Int) ∉ cs ∨ nw' 0 = nw 0) (hc : 0 ≤ c ∧ c < n) (ho : 0 ≤ o ∧ o < n) (hm : 0 ≤ m ∧ m < M) : flF n M rm cs nw' c o m = flF n M rm cs nw c o m := by
  unfold flF lkF
  rw [evL_ext hn h (by omega) (by omega) cs [] hd, h.full (by omega), h _ (by omega) (by omega)]
/-- what the moves of one neighbour leave: seats, what can be, how much went over -/
theorem dmF_inv (hc : 0 ≤ c ∧ c < n) (ho : 0 ≤ o ∧ o < n) (hne : c ≠ o) {st : (Int → Int) × Int} (G : GS n M ns rm st.1) : ∀ (k : Nat), k ≤ M → GS n M ns rm (dmF (flF n M rm cs) c o st k).1 ∧ (∀ s, sitF (dmF (flF n M rm cs) c o st k).1 s n = sitF st.1 s n) ∧ (dmF (flF n M rm cs) c o st k).1 0 = st.1 0 ∧ st.2 ≤ (dmF (flF n M rm cs) c o st k).2 ∧ (dmF (flF n M rm cs) c o st k).2 ≤ st.2 + 99 * k
  | 0, _ => ⟨G, fun _ => rfl, rfl, Int.le_refl _, by show st.2 ≤ st.2 + 99 * ((0 : Nat) : Int); omega⟩
  | k + 1, hk => by
    obtain ⟨i1, i2, i3, i4, i5⟩ := dmF_inv hc ho hne G k (by omega)
    have hn := i1.2.2.2.2.2.2
    have fb := flF_bd (cs := cs) i1 hc ho (m := (k : Int)) (by omega)
    have db := i1.drop hc.1 (show c < 7 by omega) (m := (k : Int)) (by omega) (by omega)
    rw [dmF]
    refine ⟨GS_mv i1 hc ho hne (by omega) fb.1 fb.2.1 fb.2.2, fun s => ?_, ?_, ?_, ?_⟩
    · dsimp only
      rw [sitF_ext (fun c' _ => mvF_o (by omega) (by omega))]
      exact i2 s
    · dsimp only
      rw [mvF_o (by omega) (by omega)]; exact i3
    · dsimp only; omega
    · dsimp only; omega
/-- what went over is what the giver lacks -/
theorem dmF_tot (hc : 0 ≤ c ∧ c < n) (ho : 0 ≤ o ∧ o < n) (hne : c ≠ o) {st : (Int → Int) × Int} (G : GS n M ns rm st.1) : ∀ (k : Nat), k ≤ M → (dmF (flF n M rm cs) c o st k).2 - st.2 = fullF st.1 c - fullF (dmF (flF n M rm cs) c o st k).1 c
  | 0, _ => by show st.2 - st.2 = fullF st.1 c - fullF st.1 c; omega
  | k + 1, hk => by
    have ih := dmF_tot hc ho hne G k (by omega)
    have hn := G.2.2.2.2.2.2
    rw [dmF]
    dsimp only
    rw [mvF_full (by omega) hne, if_pos rfl, if_neg hne]
    omega
theorem soF_inv (hc : 0 ≤ c ∧ c < n) (ho : o = -1 ∨ (0 ≤ o ∧ o < n ∧ c ≠ o)) {st : (Int → Int) × Int} (G : GS n M ns rm st.1) : GS n M ns rm (soF (flF n M rm cs) M c o st).1 ∧ (∀ s, sitF (soF (flF n M rm cs) M c o st).1 s n = sitF st.1 s n) ∧ (soF (flF n M rm cs) M c o st).1 0 = st.1 0 ∧ st.2 ≤ (soF (flF n M rm cs) M c o st).2 ∧ (soF (flF n M rm cs) M c o st).2 ≤ st.2 + 99 := by
  have hn := G.2.2.2.2.2.2
  unfold soF
  rcases ho with ho | ⟨h1, h2, h3⟩
  · rw [if_pos (by omega)]
    exact ⟨G, fun _ => rfl, rfl, Int.le_refl _, by omega⟩
  · rw [if_neg (by omega)]
    obtain ⟨i1, i2, i3, i4, i5⟩ := dmF_inv (cs := cs) hc ⟨h1, h2⟩ h3 G M (Nat.le_refl _)
    have e := dmF_tot (cs := cs) hc ⟨h1, h2⟩ h3 G M (Nat.le_refl _)
    have b1 := i1.full hc.1 (show c < 7 by omega)
    have b2 := G.2.2.2.2.1 c hc.1 hc.2
    exact ⟨i1, i2, i3, i4, by omega⟩
theorem sit_ne (G : GS n M ns rm nw) {s t : Int} (h : 0 ≤ sitF nw s n) (hst : s ≠ t) : sitF nw t n = -1 ∨ (0 ≤ sitF nw t n ∧ sitF nw t n < n ∧ sitF nw s n ≠ sitF nw t n) := by
  rcases G.sit t with q | ⟨q1, q2, q3⟩
  · exact Or.inl q
  · refine Or.inr ⟨q1, q2, fun e => hst ?_⟩
    rcases G.sit s with z | ⟨z1, z2, z3⟩
    · omega
    · rw [← z3, ← q3, e]
theorem dsF_inv {st : (Int → Int) × Int} (G : GS n M ns rm st.1) : GS n M ns rm (dsF (flF n M rm cs) n M s st).1 ∧ (∀ t, sitF (dsF (flF n M rm cs) n M s st).1 t n = sitF st.1 t n) ∧ (dsF (flF n M rm cs) n M s st).1 0 = st.1 0 ∧ st.2 ≤ (dsF (flF n M rm cs) n M s st).2 ∧ (dsF (flF n M rm cs) n M s st).2 ≤ st.2 + 198 := by
  unfold dsF
  by_cases h : sitF st.1 s n < 0
  · rw [if_pos h]
    exact ⟨G, fun _ => rfl, rfl, Int.le_refl _, by omega⟩
  · rw [if_neg h]
    have hc : 0 ≤ sitF st.1 s n ∧ sitF st.1 s n < n := by have := G.sit s; omega
    obtain ⟨i1, i2, i3, i4, i5⟩ := soF_inv (cs := cs) hc (sit_ne G (by omega) (show s ≠ s - 1 by omega)) G
    obtain ⟨j1, j2, j3, j4, j5⟩ := soF_inv (cs := cs) hc (sit_ne G (by omega) (show s ≠ s + 1 by omega)) i1
    exact ⟨j1, fun t => (j2 t).trans (i2 t), j3.trans i3, by omega, by omega⟩
theorem dyF_inv {st : (Int → Int) × Int} (G : GS n M ns rm st.1) : ∀ (k : Nat), GS n M ns rm (dyF (flF n M rm cs) n M st k).1 ∧ (∀ t, sitF (dyF (flF n M rm cs) n M st k).1 t n = sitF st.1 t n) ∧ (dyF (flF n M rm cs) n M st k).1 0 = st.1 0 ∧ st.2 ≤ (dyF (flF n M rm cs) n M st k).2 ∧ (dyF (flF n M rm cs) n M st k).2 ≤ st.2 + 198 * k
  | 0 => ⟨G, fun _ => rfl, rfl, Int.le_refl _, by show st.2 ≤ st.2 + 198 * ((0 : Nat) : Int); omega⟩
  | k + 1 => by
    obtain ⟨i1, i2, i3, i4, i5⟩ := dyF_inv G k
    obtain ⟨j1, j2, j3, j4, j5⟩ := dsF_inv (cs := cs) (s := k) i1
    rw [dyF]
    exact ⟨j1, fun t => (j2 t).trans (i2 t), j3.trans i3, by omega, by omega⟩
theorem mvF_E (h : nwE nw nw') (hc : 0 ≤ c ∧ c < 7) (ho : 0 ≤ o ∧ o < 7) (hm : 0 ≤ m ∧ m < 4) : nwE (mvF nw c o m v) (mvF nw' c o m v) := by
  intro i h1 h2
  unfold mvF un
  rw [h (2 + 5 * c + m) (by omega) (by omega), h (2 + 5 * o + m) (by omega) (by omega), h i h1 h2]
theorem dmF_E (hn : n ≤ 7 ∧ M ≤ 4) (hd : (12 : Int) ∉ cs) (hc : 0 ≤ c ∧ c < n) (ho : 0 ≤ o ∧ o < n) {st st' : (Int → Int) × Int} (h : nwE st.1 st'.1) (h2 : st'.2 = st.2) : ∀ (k : Nat), k ≤ M → nwE (dmF (flF n M rm cs) c o st k).1 (dmF (flF n M rm cs) c o st' k).1 ∧ (dmF (flF n M rm cs) c o st' k).2 = (dmF (flF n M rm cs) c o st k).2
  | 0, _ => ⟨h, h2⟩
  | k + 1, hk => by
    obtain ⟨i1, i2⟩ := dmF_E hn hd hc ho h h2 k (by omega)
    rw [dmF, dmF]
    have e := flF_ext (rm := rm) hn i1 (Or.inl hd) hc ho (m := (k : Int)) (by omega)
    dsimp only
    rw [e, i2]
    exact ⟨mvF_E i1 (by omega) (by omega) (by omega), rfl⟩
theorem soF_E (hn : n ≤ 7 ∧ M ≤ 4) (hd : (12 : Int) ∉ cs) (hc : 0 ≤ c ∧ c < n) (ho : o < n) {st st' : (Int → Int) × Int} (h : nwE st.1 st'.1) (h2 : st'.2 = st.2) : nwE (soF (flF n M rm cs) M c o st).1 (soF (flF n M rm cs) M c o st').1 ∧ (soF (flF n M rm cs) M c o st').2 = (soF (flF n M rm cs) M c o st).2 := by
  unfold soF
  by_cases q : o < 0
  · rw [if_pos q, if_pos q]; exact ⟨h, h2⟩
  · rw [if_neg q, if_neg q]; exact dmF_E hn hd hc ⟨by omega, ho⟩ h h2 M (Nat.le_refl _)
theorem dyF_E (hd : (12 : Int) ∉ cs) {st st' : (Int → Int) × Int} (G : GS n M ns rm st.1) (h : nwE st.1 st'.1) (h2 : st'.2 = st.2) : ∀ (k : Nat), nwE (dyF (flF n M rm cs) n M st k).1 (dyF (flF n M rm cs) n M st' k).1 ∧ (dyF (flF n M rm cs) n M st' k).2 = (dyF (flF n M rm cs) n M st k).2
  | 0 => ⟨h, h2⟩
  | k + 1 => by
    obtain ⟨i1, i2⟩ := dyF_E hd G h h2 k
    have hn := G.2.2.2.2.2.2
    have Gk := (dyF_inv (cs := cs) G k).1
    rw [dyF, dyF]
    unfold dsF
    rw [i1.sit hn.1, i1.sit hn.1, i1.sit hn.1]
    by_cases q : sitF (dyF (flF n M rm cs) n M st k).1 k n < 0
    · rw [if_pos q, if_pos q]; exact ⟨i1, i2⟩
    · rw [if_neg q, if_neg q]
      have g0 := Gk.sit k
      have g1 := Gk.sit ((k : Int) - 1)
      have g2 := Gk.sit ((k : Int) + 1)
      obtain ⟨j1, j2⟩ := soF_E (rm := rm) ⟨hn.1, hn.2.1⟩ hd (c := sitF (dyF (flF n M rm cs) n M st k).1 k n) (o := sitF (dyF (flF n M rm cs) n M st k).1 ((k : Int) - 1) n) (by omega) (by omega) i1 i2
      exact soF_E (rm := rm) ⟨hn.1, hn.2.1⟩ hd (by omega) (by omega) j1 j2
/-- the next day does not ask for the day's number -/
theorem dayF_E (hd : (12 : Int) ∉ cs) (G : GS n M ns rm nw) (h : nwE nw nw') : nwE (dayF (flF n M rm cs) n M ns nw).1 (dayF (flF n M rm cs) n M ns nw').1 ∧ (dayF (flF n M rm cs) n M ns nw').2 = (dayF (flF n M rm cs) n M ns nw).2 := by
  obtain ⟨i1, i2⟩ := dyF_E (st := (nw, 0)) (st' := (nw', 0)) hd G h rfl ns
  unfold dayF
  refine ⟨fun i q1 q2 => ?_, i2⟩
  dsimp only
  rw [un_o (by omega), un_o (by omega)]
  exact i1 i q1 q2
end D2
