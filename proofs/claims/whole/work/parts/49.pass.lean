section PD
variable {d : Nat} {φ φ' : aF} {α α' : aA} {Q : Int → aF → aA → Prop} {b c o m x y v s side : Int} {n M ns : Nat} {nw nw' rm : Int → Int} {cs : List Int}
theorem XS_sc (hb : isSt b) (ha : ∀ a, a ≠ 189 → α' a = α a) (X : XS b φ α n nw) : XS b φ α' n nw := by
  have := st_rng hb
  exact XS_of rfl (fun j _ _ => ha _ (by omega)) X
theorem XE_sc (ha : ∀ a, a ≠ 189 → α' a = α a) (E : XE φ α n M ns rm cs) : XE φ α' n M ns rm cs := XE_of (fun _ _ => rfl) rfl (ha _ (by omega)) (ha _ (by omega)) E
theorem fr_sc (ha : ∀ a, a ≠ 189 → α' a = α a) : fr b φ α φ α' := ⟨fun _ _ _ _ => rfl, fun a _ q => ha a q⟩
theorem l_pass82 (hb : isSt b) {st : (Int → Int) × Int} (G : GS n M ns rm st.1) (hst : -100000 ≤ st.2 ∧ st.2 ≤ 100000) (hside : -1 ≤ side ∧ side ≤ 1) (hc : 0 ≤ c ∧ c < n) (ho : 0 ≤ o ∧ o < n) (hne : c ≠ o) : ∀ (r k : Nat), k + r = M → ∀ (φ : aF) (α : aA), XS b φ α n (dmF (flF n M rm cs) c o st k).1 → XE φ α n M ns rm cs → (∀ φ' α', XS b φ' α' n (dmF (flF n M rm cs) c o st M).1 → fr b φ α φ' α' → jX9_passDay_58 (d + 4) b (dmF (flF n M rm cs) c o st M).2 s c (side + 2) φ' α' Q) → jX9_passDay_82 (d + 4) b (dmF (flF n M rm cs) c o st k).2 s c side o k φ α Q
  | 0, k, hk, φ, α, X, E, h => by
    have e : k = M := by omega
    subst e
    exact vX9_passDay_82 hb ⟨fun q => ⟨by unfold inR; omega, h φ α X fr.rf⟩, fun q => by rw [E.1.2.1] at q; omega⟩
  | r + 1, k, hk, φ, α, X, E, h => by
    obtain ⟨i1, i2, i3, i4, i5⟩ := dmF_inv (cs := cs) hc ho hne G k (by omega)
    have hn := G.2.2.2.2.2.2
    have fb := flF_bd (cs := cs) i1 hc ho (m := (k : Int)) (by omega)
    have db := i1.drop hc.1 (show c < 7 by omega) (m := (k : Int)) (by omega) (by omega)
    refine vX9_passDay_82 hb ⟨fun q => by rw [E.1.2.1] at q; omega, fun _ => ⟨fun q => by omega, fun _ => c_flow hb X i1 E hc ho (by omega) (fun α1 ha => ?_)⟩⟩
    refine c_hand hb (XS_sc hb ha X) i1 hc ho hne (by omega) (by omega) (fun φ2 α2 X2 f2 _ _ => ⟨by unfold inR; omega, by unfold inR; omega, ?_⟩)
    have f12 : fr b φ α φ2 α2 := (fr_sc ha).tr f2
    have := l_pass82 hb G hst hside hc ho hne r (k + 1) (by omega) φ2 α2 X2 (XE_frd hb f12.d E) (fun φ' α' X' f' => h φ' α' X' (f12.tr f'))
    simpa [dmF] using this
theorem l_passSo (hb : isSt b) {st : (Int → Int) × Int} (G : GS n M ns rm st.1) (hst : -100000 ≤ st.2 ∧ st.2 ≤ 100000) (hside : -1 ≤ side ∧ side ≤ 1) (hc : 0 ≤ c ∧ c < n) (ho : o = -1 ∨ (0 ≤ o ∧ o < n ∧ c ≠ o)) (X : XS b φ α n st.1) (E : XE φ α n M ns rm cs) (h : ∀ φ' α', XS b φ' α' n (soF (flF n M rm cs) M c o st).1 → fr b φ α φ' α' → jX9_passDay_58 (d + 4) b (soF (flF n M rm cs) M c o st).2 s c (side + 2) φ' α' Q) : jX9_passDay_82 (d + 4) b st.2 s c side o 0 φ α Q := by
  unfold soF at h
  rcases ho with ho | ⟨h1, h2, h3⟩
  · rw [if_pos (by omega)] at h
    exact vX9_passDay_82 hb ⟨fun q => ⟨by unfold inR; omega, h φ α X fr.rf⟩, fun q => ⟨fun _ => ⟨by unfold inR; omega, h φ α X fr.rf⟩, fun q => by omega⟩⟩
  · rw [if_neg (by omega)] at h
    have := l_pass82 (d := d) (Q := Q) (s := s) hb G hst hside hc ⟨h1, h2⟩ h3 M 0 (by omega) φ α X E h
    simpa [dmF] using this
theorem l_pass37 (hb : isSt b) (G0 : GS n M ns rm nw) (hs : s = s) : ∀ (r k : Nat), k + r = ns → ∀ (φ : aF) (α : aA), XS b φ α n (dyF (flF n M rm cs) n M (nw, 0) k).1 → XE φ α n M ns rm cs → (∀ φ' α', XS b φ' α' n (dyF (flF n M rm cs) n M (nw, 0) ns).1 → XE φ' α' n M ns rm cs → fr b φ α φ' α' → jX9_passDay_37 (d + 4) b (dyF (flF n M rm cs) n M (nw, 0) ns).2 ns φ' α' Q) → jX9_passDay_37 (d + 4) b (dyF (flF n M rm cs) n M (nw, 0) k).2 k φ α Q
  | 0, k, hk, φ, α, X, E, h => by
    have e : k = ns := by omega
    subst e
    exact h φ α X E fr.rf
  | r + 1, k, hk, φ, α, X, E, h => by
    obtain ⟨G, i2, i3, i4, i5⟩ := dyF_inv (cs := cs) (st := (nw, 0)) G0 k
    have hn := G.2.2.2.2.2.2
    dsimp only at i4 i5
    refine vX9_passDay_37 hb ⟨fun q => by rw [E.1.1] at q; omega, fun _ => c_sitterAtA hb X G ?_⟩
    have go : ∀ φ' α', XS b φ' α' n (dyF (flF n M rm cs) n M (nw, 0) (k + 1)).1 → fr b φ α φ' α' → jX9_passDay_37 (d + 4) b (dyF (flF n M rm cs) n M (nw, 0) (k + 1)).2 ((k : Int) + 1) φ' α' Q := by
      intro φ' α' X' f'
      have := l_pass37 hb G0 hs r (k + 1) (by omega) φ' α' X' (XE_frd hb f'.d E) (fun φ2 α2 X2 E2 f2 => h φ2 α2 X2 E2 (f'.tr f2))
      simpa using this
    rw [dyF] at go
    unfold dsF at go
    have g0 := G.sit k
    by_cases q : sitF (dyF (flF n M rm cs) n M (nw, 0) k).1 k n < 0
    · rw [if_pos q] at go
      exact vX9_passDay_58 hb ⟨fun z => by omega, fun _ => ⟨fun _ => ⟨by unfold inR; omega, go φ α X fr.rf⟩, fun z => by omega⟩⟩
    · rw [if_neg q] at go
      have hc : 0 ≤ sitF (dyF (flF n M rm cs) n M (nw, 0) k).1 k n ∧ sitF (dyF (flF n M rm cs) n M (nw, 0) k).1 k n < n := by omega
      have n1 := sit_ne G (by omega) (show (k : Int) ≠ k + -1 by omega)
      have n2 := sit_ne G (by omega) (show (k : Int) ≠ k + 1 by omega)
      refine vX9_passDay_58 hb ⟨fun z => by omega, fun _ => ⟨fun z => by omega, fun _ => ⟨by unfold inR; omega, c_sitterAtA hb X G ?_⟩⟩⟩
      refine l_passSo hb G (by omega) (by omega) hc n1 X E (fun φ1 α1 X1 f1 => ?_)
      obtain ⟨G1, j2, j3, j4, j5⟩ := soF_inv (cs := cs) hc n1 G
      refine vX9_passDay_58 hb ⟨fun z => by omega, fun _ => ⟨fun z => by omega, fun _ => ⟨by unfold inR; omega, c_sitterAtA hb X1 G1 ?_⟩⟩⟩
      rw [show (-1 : Int) + 2 = 1 by omega, j2]
      refine l_passSo hb G1 (by omega) (by omega) hc n2 X1 (XE_frd hb f1.d E) (fun φ2 α2 X2 f2 => ?_)
      refine vX9_passDay_58 hb ⟨fun _ => ⟨by unfold inR; omega, ?_⟩, fun z => by omega⟩
      rw [show (k : Int) + -1 = k - 1 by omega] at X2 ⊢
      exact go φ2 α2 X2 (f1.tr f2)
theorem l_isAsAhead (hb : isSt b) : ∀ (r k : Nat), k + r = 28 → (∀ i : Nat, i < k → α 191 (i : Int) = α (b + 3) (i : Int)) → (∀ v : Int, (v = 1 ∧ ∀ i : Int, 0 ≤ i → i < 28 → α 191 i = α (b + 3) i) ∨ v = 0 → Q v φ α) → jX9_isAsAhead_2 (d + 1) b k φ α Q
  | 0, k, hk, hi, h => vX9_isAsAhead_2 hb ⟨fun _ => h 1 (Or.inl ⟨rfl, fun i q1 q2 => by have := hi i.toNat (by omega); rwa [Int.toNat_of_nonneg q1] at this⟩), fun q => by omega⟩
  | r + 1, k, hk, hi, h => vX9_isAsAhead_2 hb ⟨fun q => by omega, fun _ => ⟨⟨by omega, by omega⟩, c_pick (st3 hb) ⟨by omega, by omega⟩ ⟨fun e => ⟨by unfold inR; omega, by
      have := l_isAsAhead hb r (k + 1) (by omega) (fun i q => by
        by_cases z : i = k
        · rw [z]; exact e
        · exact hi i (by omega)) h
      simpa using this⟩, fun _ => h 0 (Or.inr rfl)⟩⟩⟩
theorem c_isAsAhead (hb : isSt b) (h : ∀ v : Int, (v = 1 ∧ ∀ i : Int, 0 ≤ i → i < 28 → α 191 i = α (b + 3) i) ∨ v = 0 → Q v φ α) : eX9_isAsAhead (d + 1) b φ α Q := by
  have := l_isAsAhead (d := d) hb 28 0 rfl (fun i q => by omega) h
  exact vX9_isAsAhead_0 hb (by simpa using this)
/-- the mark 'settled' is right -/
def stl (b : Int) (φ : aF) (n M ns : Nat) (rm : Int → Int) (cs : List Int) (nw : Int → Int) : Prop :=
  φ 7 9 b = 0 ∨ (φ 7 9 b = 1 ∧ nwE nw (dayF (flF n M rm cs) n M ns nw).1 ∧ (dayF (flF n M rm cs) n M ns nw).2 = φ 7 10 b ∧ (12 : Int) ∉ cs)
theorem dayF_G (G : GS n M ns rm nw) (hd : nw 0 ≤ 1999) : GS n M ns rm (dayF (flF n M rm cs) n M ns nw).1 := by
  obtain ⟨⟨g1, g2, g3, g4, g5, g6, g7⟩, i2, i3, i4, i5⟩ := dyF_inv (cs := cs) (st := (nw, 0)) G ns
  have hz := G.1
  unfold dayF
  dsimp only at i3 ⊢
  refine ⟨?_, fun c h => ?_, fun c c' h1 h2 h => ?_, fun c m q1 q2 q3 q4 => ?_, fun c q1 q2 => ?_, fun m p q1 q2 q3 q4 => ?_, g7⟩
  · rw [un_s, i3]; omega
  · rw [un_o (by omega)]; exact g2 c h
  · rw [un_o (by omega), un_o (by omega)] at h; exact g3 c c' h1 h2 h
  · rw [un_o (by omega)]; exact g4 c m q1 q2 q3 q4
  · rw [fullF_un_o (by omega)]; exact g5 c q1 q2
  · rw [un_o (by omega)]; exact g6 m p q1 q2 q3 q4
theorem dayF_0 (G : GS n M ns rm nw) : (dayF (flF n M rm cs) n M ns nw).1 0 = nw 0 + 1 := by
  obtain ⟨-, i2, i3, i4, i5⟩ := dyF_inv (cs := cs) (st := (nw, 0)) G ns
  unfold dayF
  dsimp only at i3 ⊢
  rw [un_s, i3]
theorem dayF_mv (G : GS n M ns rm nw) : 0 ≤ (dayF (flF n M rm cs) n M ns nw).2 ∧ (dayF (flF n M rm cs) n M ns nw).2 ≤ 1782 := by
  obtain ⟨G', i2, i3, i4, i5⟩ := dyF_inv (cs := cs) (st := (nw, 0)) G ns
  have hn := G.2.2.2.2.2.2
  unfold dayF
  dsimp only at i4 i5 ⊢
  omega
end PD
