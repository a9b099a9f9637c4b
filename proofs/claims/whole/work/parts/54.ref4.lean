/-! the reference: a day -/
/-- what a day of the reference leaves as it was -/
def fm (φ : aF) (α : aA) (φ' : aF) (α' : aA) : Prop :=
  (∀ c f o, ¬ (c = 11 ∧ (f = 94 ∨ f = 47 ∨ f = 50 ∨ f = 51 ∨ f = 53)) → φ' c f o = φ c f o) ∧ ∀ a : Int, a ≠ 233 → a ≠ 265 → α' a = α a
theorem fm.rf {φ : aF} {α : aA} : fm φ α φ α := ⟨fun _ _ _ _ => rfl, fun _ _ _ => rfl⟩
theorem fm.tr {φ φ1 φ2 : aF} {α α1 α2 : aA} (h : fm φ α φ1 α1) (h' : fm φ1 α1 φ2 α2) : fm φ α φ2 α2 := ⟨fun c f o q => (h'.1 c f o q).trans (h.1 c f o q), fun a q1 q2 => (h'.2 a q1 q2).trans (h.2 a q1 q2)⟩
/-- the reference's office with the code of leaks -/
def ME (α : aA) (n M ns : Nat) (rm : Int → Int) (cs : List Int) : Prop :=
  MO α n M ns rm ∧ (∀ c : Int, 0 ≤ c → c < n → 0 ≤ rm c) ∧ tyL2 [] cs = some [false] ∧ (∀ ce ∈ cs, ce ≠ 17 ∧ ce ≠ 30 ∧ ce ≠ 31) ∧ ((α 230 2 = -1 ∧ cs = [13, 1004, 47]) ∨ ∃ f : Int, RC α 0 f cs)
section R4
variable {d : Nat} {φ φ' : aF} {α α' : aA} {Q : Int → aF → aA → Prop} {b c o m x y v s k ce side : Int} {n M ns : Nat} {rm nw nw' : Int → Int} {cs : List Int}
theorem ME_of (h : ∀ a : Int, 225 ≤ a → a ≤ 232 → α' a = α a) (E : ME α n M ns rm cs) : ME α' n M ns rm cs := by
  unfold ME MO RC at *
  rw [h 225 (by omega) (by omega), h 226 (by omega) (by omega), h 228 (by omega) (by omega), h 230 (by omega) (by omega), h 231 (by omega) (by omega), h 232 (by omega) (by omega)]
  exact E
theorem ME_fm (h : fm φ α φ' α') (E : ME α n M ns rm cs) : ME α' n M ns rm cs := ME_of (fun a _ _ => h.2 a (by omega) (by omega)) E
theorem fm_f {f : Nat} (hf : f = 94 ∨ f = 47 ∨ f = 50 ∨ f = 51 ∨ f = 53) : fm φ α (upf φ 11 f 198 v) α := ⟨fun c f' o q => upf_o (by
  by_cases e : c = 11
  · by_cases e2 : f' = f
    · exact absurd ⟨e, e2 ▸ hf⟩ q
    · exact Or.inr (Or.inl e2)
  · exact Or.inl e), fun _ _ _ => rfl⟩
theorem fm_a {i : Int} : fm φ α φ (upa α 233 i v) := ⟨fun _ _ _ _ => rfl, fun a q _ => upa_fn q⟩
theorem upa_un {a i : Int} : upa α a i v a = un (α a) i v := by
  funext j
  unfold upa un
  by_cases e : j = i
  · rw [if_pos ⟨rfl, e⟩, if_pos e]
  · rw [if_neg (fun q => e q.2), if_neg e]
theorem lk_def (hm : 0 ≤ m ∧ m < 4) (hh : 0 ≤ nw (2 + 5 * c + m)) : lkF n M rm [13, 1004, 47] nw c o m = Int.tdiv (nw (2 + 5 * c + m)) 4 := by
  have e : lkF n M rm [13, 1004, 47] nw c o m = flr (if 0 ≤ m ∧ m < 4 then nw (2 + 5 * c + m) else 0) 4 := rfl
  rw [e, if_pos hm]
  unfold flr
  rw [if_neg (by omega), if_neg (fun q => q.2 (by omega))]
theorem r_leaksFrom (E : ME α n M ns rm cs) (G : GS n M ns rm (α 233)) (hc : 0 ≤ c ∧ c < n) (ho : 0 ≤ o ∧ o < n) (hm : 0 ≤ m ∧ m < M) (h : ∀ φ' α', fm φ α φ' α' → φ' 11 53 198 = φ 11 53 198 → α' 233 = α 233 → Q (flF n M rm cs (α 233) c o m) φ' α') : eX11_leaksFrom (d + 5) c o m φ α Q := by
  have hn := G.2.2.2.2.2.2
  obtain ⟨O, hrm, hty, hcs, hcod⟩ := E
  have a1 := G.drop hc.1 (show c < 7 by omega) hm.1 (show m < 4 by omega)
  have a2 := G.2.2.2.2.1 o ho.1 ho.2
  have f0 : fm φ α (upf (upf φ 11 50 198 m) 11 51 198 o) α := (fm_f (by omega)).tr (fm_f (by omega))
  have o0 : (upf (upf φ 11 50 198 m) 11 51 198 o) 11 53 198 = φ 11 53 198 := by rw [upf_o (by omega), upf_o (by omega)]
  have td : 0 ≤ Int.tdiv (α 233 (2 + 5 * c + m)) 4 ∧ Int.tdiv (α 233 (2 + 5 * c + m)) 4 ≤ 99 := by
    rw [Int.tdiv_eq_ediv_of_nonneg a1.1]; omega
  have key : ∀ most : Int, most = min (α 233 (2 + 5 * c + m)) (rm o - fullF (α 233) o) →
     ((¬ (α 230 2) = (-1) → (eX11_codesTell (d + 4) 0 c (upf (upf φ 11 50 198 m) 11 51 198 o) α (fun r6 φ6 α6 => ((0 ≤ (j3 r6 0) → (((j3 r6 most) ≤ 0 → inR r6 ∧ (Q r6 φ6 α6)) ∧ (¬ ((j3 r6 most) ≤ 0) → (Q most φ6 α6)))) ∧ (¬ (0 ≤ (j3 r6 0)) → (Q 0 φ6 α6)))))) ∧
     ((α 230 2) = (-1) → inR (Int.tdiv (α 233 (2 + 5 * c + m)) 4) ∧ ((0 ≤ (j3 (Int.tdiv (α 233 (2 + 5 * c + m)) 4) 0) → (((j3 (Int.tdiv (α 233 (2 + 5 * c + m)) 4) most) ≤ 0 → (Q (Int.tdiv (α 233 (2 + 5 * c + m)) 4) (upf (upf φ 11 50 198 m) 11 51 198 o) α)) ∧ (¬ ((j3 (Int.tdiv (α 233 (2 + 5 * c + m)) 4) most) ≤ 0) → (Q most (upf (upf φ 11 50 198 m) 11 51 198 o) α)))) ∧ (¬ (0 ≤ (j3 (Int.tdiv (α 233 (2 + 5 * c + m)) 4) 0)) → (Q 0 (upf (upf φ 11 50 198 m) 11 51 198 o) α))))) := by
    intro most hmost
    rcases hcod with ⟨hd, rfl⟩ | ⟨f, hC⟩
    · refine ⟨fun q => absurd hd q, fun _ => ⟨by unfold inR; omega, fun _ => ⟨fun q => ?_, fun q => ?_⟩, fun q => ?_⟩⟩
      · have := h _ _ f0 o0 rfl
        unfold flF at this
        rw [lk_def (by omega) a1.1] at this
        rw [j3_le] at q
        rwa [show max 0 (min (min (α 233 (2 + 5 * c + m)) (rm o - fullF (α 233) o)) (Int.tdiv (α 233 (2 + 5 * c + m)) 4)) = Int.tdiv (α 233 (2 + 5 * c + m)) 4 by omega] at this
      · have := h _ _ f0 o0 rfl
        unfold flF at this
        rw [lk_def (by omega) a1.1] at this
        rw [j3_le] at q
        rwa [show max 0 (min (min (α 233 (2 + 5 * c + m)) (rm o - fullF (α 233) o)) (Int.tdiv (α 233 (2 + 5 * c + m)) 4)) = most by omega] at this
      · rw [j3_ge] at q; omega
    · refine ⟨fun _ => ?_, fun q => by have := hC.1; have h0 := hC.2.2.1; rw [Int.add_zero] at this; omega⟩
      refine r_codesTell (f := f) (m := m) (by omega) hrm hc ho (by omega) hC (fun q => (hcs 30 q).2.1 rfl) (fun q => (hcs 31 q).2.2 rfl) (fun ce hce => ⟨fun _ => ⟨by rw [upf_o (by omega), upf_s], by omega, by omega⟩, fun _ => upf_s, fun q => absurd q (hcs ce hce).1⟩) hty O G (fun φ6 α6 v p1 p2 p3 p4 => ?_)
      have p4 := vT_f.mp p4
      have f6 : fm φ α φ6 α6 := f0.tr ⟨fun c f o q => p1 c f o (by omega), fun a _ q => p2 a q⟩
      have := h φ6 α6 f6 (by rw [p1 _ _ _ (by omega)]; exact o0) (p2 233 (by omega))
      unfold flF lkF at this
      rw [p3] at this
      have e : ∀ w : Int, w = max 0 (min (min (α 233 (2 + 5 * c + m)) (rm o - fullF (α 233) o)) v) → Q w φ6 α6 := fun w hw => by rw [hw]; exact this
      refine ⟨fun q => ⟨fun q2 => ⟨by unfold inR; omega, e _ ?_⟩, fun q2 => e _ ?_⟩, fun q => e _ ?_⟩
      · rw [j3_ge] at q; rw [j3_le] at q2; omega
      · rw [j3_ge] at q; rw [j3_le] at q2; omega
      · rw [j3_ge] at q; omega
  refine vX11_leaksFrom_0 (r_dropsOf (by omega) (by omega) (r_spaceOf O G hrm ho ⟨fun q => r_spaceOf O G hrm ho (key _ (by omega)), fun q => key _ (by omega)⟩))
theorem mvF_upa : upa (upa α 233 ((2 + (5 * c)) + m) ((α 233 ((2 + (5 * c)) + m)) - v)) 233 ((2 + (5 * o)) + m) (((upa α 233 ((2 + (5 * c)) + m) ((α 233 ((2 + (5 * c)) + m)) - v)) 233 ((2 + (5 * o)) + m)) + v) 233 = mvF (α 233) c o m v := by
  rw [upa_un, upa_un]
  unfold mvF
  rw [Int.sub_eq_add_neg]
theorem r_goesOver (hc : 0 ≤ c ∧ c < 7) (ho : 0 ≤ o ∧ o < 7) (hm : 0 ≤ m ∧ m < 4) (hne : c ≠ o) (hv : 0 ≤ v ∧ v ≤ 99) (h1 : 0 ≤ α 233 (2 + 5 * c + m) ∧ α 233 (2 + 5 * c + m) ≤ 99) (h2 : 0 ≤ α 233 (2 + 5 * o + m) ∧ α 233 (2 + 5 * o + m) ≤ 99) (hov : 0 ≤ φ 11 53 198 ∧ φ 11 53 198 ≤ 2147000000) (h : ∀ φ' α', fm φ α φ' α' → φ' 11 53 198 = φ 11 53 198 + v → α' 233 = mvF (α 233) c o m v → Q 0 φ' α') : eX11_goesOver d c o m v φ α Q := by
  refine vX11_goesOver_0 ⟨by unfold inR; omega, by unfold inR; omega, by unfold inR; omega, ⟨by omega, by omega⟩, by unfold inR; omega, by unfold inR; omega, by unfold inR; omega, by unfold inR; omega, ⟨by omega, by omega⟩, ?_, by unfold inR; omega, ?_⟩
  · rw [upa_ni (by omega)]; unfold inR; omega
  · exact h _ _ (fm_a.tr (fm_a.tr (fm_f (by omega)))) upf_s mvF_upa
theorem l_day64 {x1 x2 ov : Int} {st : (Int → Int) × Int} (G : GS n M ns rm st.1) (hst : 0 ≤ st.2 ∧ st.2 ≤ 100000) (hov : 0 ≤ ov ∧ ov ≤ 2146000000) (hside : -1 ≤ side ∧ side ≤ 1) (hc : 0 ≤ c ∧ c < n) (ho : 0 ≤ o ∧ o < n) (hne : c ≠ o) : ∀ (r k : Nat), k + r = M → ∀ (φ : aF) (α : aA), α 233 = (dmF (flF n M rm cs) c o st k).1 → φ 11 53 198 = ov + (dmF (flF n M rm cs) c o st k).2 → ME α n M ns rm cs → (∀ φ' α', α' 233 = (dmF (flF n M rm cs) c o st M).1 → φ' 11 53 198 = ov + (dmF (flF n M rm cs) c o st M).2 → fm φ α φ' α' → jX11_dayGoes_36 (d + 6) x1 x2 s c (side + 2) φ' α' Q) → jX11_dayGoes_64 (d + 6) x1 x2 s c side o k φ α Q
  | 0, k, hk, φ, α, X, V, E, h => by
    have e : k = M := by omega
    subst e
    exact vX11_dayGoes_64 (r_mMany E.1.1 ⟨fun q => ⟨by unfold inR; omega, h φ α X V fm.rf⟩, fun q => by omega⟩)
  | r + 1, k, hk, φ, α, X, V, E, h => by
    obtain ⟨i1, i2, i3, i4, i5⟩ := dmF_inv (cs := cs) hc ho hne G k (by omega)
    have hn := G.2.2.2.2.2.2
    have fb := flF_bd (cs := cs) i1 hc ho (m := (k : Int)) (by omega)
    have db := i1.drop hc.1 (show c < 7 by omega) (m := (k : Int)) (by omega) (by omega)
    have db2 := i1.drop ho.1 (show o < 7 by omega) (m := (k : Int)) (by omega) (by omega)
    refine vX11_dayGoes_64 (r_mMany E.1.1 ⟨fun q => by omega, fun _ => r_leaksFrom E (by rw [X]; exact i1) hc ho (by omega) (fun φ1 α1 f1 v1 e1 => ?_)⟩)
    rw [X]
    refine r_goesOver (by omega) (by omega) (by omega) hne (by omega) (by rw [e1, X]; exact db) (by rw [e1, X]; exact db2) (by rw [v1, V]; omega) (fun φ2 α2 f2 v2 e2 => ⟨by unfold inR; omega, ?_⟩)
    have f12 := f1.tr f2
    have := l_day64 G hst hov hside hc ho hne r (k + 1) (by omega) φ2 α2 (by rw [e2, e1, X]; rfl) (by rw [v2, v1, V]; show _ = ov + ((dmF (flF n M rm cs) c o st k).2 + flF n M rm cs (dmF (flF n M rm cs) c o st k).1 c o k); omega) (ME_fm f12 E) (fun φ' α' X' V' f' => h φ' α' X' V' (f12.tr f'))
    simpa using this
theorem l_daySo {x1 x2 ov : Int} {st : (Int → Int) × Int} (G : GS n M ns rm st.1) (hst : 0 ≤ st.2 ∧ st.2 ≤ 100000) (hov : 0 ≤ ov ∧ ov ≤ 2146000000) (hside : -1 ≤ side ∧ side ≤ 1) (hs : 0 ≤ s ∧ s ≤ 20) (hc : 0 ≤ c ∧ c < n) (ho : sitF st.1 (s + side) n = o) (hne : c ≠ o) (X : α 233 = st.1) (V : φ 11 53 198 = ov + st.2) (E : ME α n M ns rm cs) (h : ∀ φ' α', α' 233 = (soF (flF n M rm cs) M c o st).1 → φ' 11 53 198 = ov + (soF (flF n M rm cs) M c o st).2 → fm φ α φ' α' → jX11_dayGoes_36 (d + 6) x1 x2 s c (side + 2) φ' α' Q) : jX11_dayGoes_36 (d + 6) x1 x2 s c side φ α Q := by
  have hn := G.2.2.2.2.2.2
  unfold soF at h
  refine vX11_dayGoes_36 ⟨fun q => by omega, fun _ => ⟨by unfold inR; omega, r_sitterOf E.1.2.1 hn.1 ?_⟩⟩
  rw [X, ho]
  have hg := G.sit (s + side)
  rw [ho] at hg
  refine ⟨fun q => ?_, fun q => ?_⟩
  · rw [if_neg (by omega)] at h
    have := l_day64 (d := d) (Q := Q) (s := s) (x1 := x1) (x2 := x2) (side := side) G hst hov hside hc (o := o) (by omega) hne M 0 (by omega) φ α X V E h
    simpa [dmF] using this
  · rw [if_pos (by omega)] at h
    exact ⟨by unfold inR; omega, h φ α X V fm.rf⟩
theorem l_day7 {x1 x2 : Int} (G0 : GS n M ns rm nw) {ov : Int} (hov : 0 ≤ ov ∧ ov ≤ 2146000000) : ∀ (r k : Nat), k + r = ns → ∀ (φ : aF) (α : aA), α 233 = (dyF (flF n M rm cs) n M (nw, 0) k).1 → φ 11 53 198 = ov + (dyF (flF n M rm cs) n M (nw, 0) k).2 → ME α n M ns rm cs → (∀ φ' α', α' 233 = (dyF (flF n M rm cs) n M (nw, 0) ns).1 → φ' 11 53 198 = ov + (dyF (flF n M rm cs) n M (nw, 0) ns).2 → ME α' n M ns rm cs → fm φ α φ' α' → jX11_dayGoes_7 (d + 6) x1 x2 ns φ' α' Q) → jX11_dayGoes_7 (d + 6) x1 x2 k φ α Q
  | 0, k, hk, φ, α, X, V, E, h => by
    have e : k = ns := by omega
    subst e
    exact h φ α X V E fm.rf
  | r + 1, k, hk, φ, α, X, V, E, h => by
    obtain ⟨G, i2, i3, i4, i5⟩ := dyF_inv (cs := cs) (st := (nw, 0)) G0 k
    have hn := G.2.2.2.2.2.2
    dsimp only at i4 i5
    have hns := E.1.2.2.1
    have go : ∀ φ' α', α' 233 = (dyF (flF n M rm cs) n M (nw, 0) (k + 1)).1 → φ' 11 53 198 = ov + (dyF (flF n M rm cs) n M (nw, 0) (k + 1)).2 → fm φ α φ' α' → jX11_dayGoes_7 (d + 6) x1 x2 ((k : Int) + 1) φ' α' Q := by
      intro φ' α' X' V' f'
      have := l_day7 G0 hov r (k + 1) (by omega) φ' α' X' V' (ME_fm f' E) (fun φ2 α2 X2 V2 E2 f2 => h φ2 α2 X2 V2 E2 (f'.tr f2))
      simpa using this
    rw [dyF] at go
    unfold dsF at go
    refine vX11_dayGoes_7 ⟨fun q => by omega, fun _ => r_sitterOf E.1.2.1 hn.1 ?_⟩
    rw [X]
    have g0 := G.sit k
    refine ⟨fun q => ?_, fun q => ?_⟩
    · rw [if_neg (by omega)] at go
      have hc : 0 ≤ sitF (dyF (flF n M rm cs) n M (nw, 0) k).1 k n ∧ sitF (dyF (flF n M rm cs) n M (nw, 0) k).1 k n < n := by omega
      have n1 := sit_ne G (by omega) (show (k : Int) ≠ k + -1 by omega)
      have n2 := sit_ne G (by omega) (show (k : Int) ≠ k + 1 by omega)
      refine l_daySo G (by omega) hov (by omega) (by omega) hc rfl (by omega) X V E (fun φ1 α1 X1 V1 f1 => ?_)
      obtain ⟨G1, j2, j3, j4, j5⟩ := soF_inv (cs := cs) hc n1 G
      rw [show (-1 : Int) + 2 = 1 by omega]
      refine l_daySo G1 (by omega) hov (by omega) (by omega) hc (j2 _) (by omega) X1 V1 (ME_fm f1 E) (fun φ2 α2 X2 V2 f2 => ?_)
      refine vX11_dayGoes_36 ⟨fun _ => ⟨by unfold inR; omega, ?_⟩, fun z => by omega⟩
      rw [show (k : Int) + -1 = k - 1 by omega] at X2 V2
      exact go φ2 α2 X2 V2 (f1.tr f2)
    · rw [if_pos (by omega)] at go
      exact ⟨by unfold inR; omega, go φ α X V fm.rf⟩
theorem GS_nw (h : ∀ i, 0 ≤ i → i < 48 → nw' i = nw i) (G : GS n M ns rm nw) : GS n M ns rm nw' := by
  obtain ⟨g1, g2, g3, g4, g5, g6, g7⟩ := G
  refine ⟨by rw [h 0 (by omega) (by omega)]; exact g1, fun c hc => by rw [h _ (by omega) (by omega)]; exact g2 c hc, fun c c' h1 h2 q => g3 c c' h1 h2 (by rwa [h _ (by omega) (by omega), h _ (by omega) (by omega)] at q), fun c m q1 q2 q3 q4 => by rw [h _ (by omega) (by omega)]; exact g4 c m q1 q2 q3 q4, fun c q1 q2 => by rw [fullF_nw (fun i z1 z2 => h i (by omega) (by omega))]; exact g5 c q1 q2, fun m p q1 q2 q3 q4 => by rw [h _ (by omega) (by omega)]; exact g6 m p q1 q2 q3 q4, g7⟩
/-- how many clerks are full -/
def ffF (rm nw : Int → Int) : Nat → Int := itF (fun x c => if rm c - fullF nw c = 0 then x + 1 else x) 0
theorem ffF_bd (rm nw : Int → Int) : ∀ k : Nat, 0 ≤ ffF rm nw k ∧ ffF rm nw k ≤ k
  | 0 => ⟨Int.le_refl _, Int.le_refl _⟩
  | k + 1 => by
    have ih := ffF_bd rm nw k
    rw [show ffF rm nw (k + 1) = if rm k - fullF nw k = 0 then ffF rm nw k + 1 else ffF rm nw k from rfl]
    split <;> omega
theorem ffF_ext (h : ∀ i, 1 ≤ i → i < 48 → nw' i = nw i) : ∀ k : Nat, k ≤ 7 → ffF rm nw' k = ffF rm nw k
  | 0, _ => rfl
  | k + 1, hk => by
    have ih := ffF_ext h k (by omega)
    rw [show ffF rm nw (k + 1) = if rm k - fullF nw k = 0 then ffF rm nw k + 1 else ffF rm nw k from rfl, show ffF rm nw' (k + 1) = if rm k - fullF nw' k = 0 then ffF rm nw' k + 1 else ffF rm nw' k from rfl, ih, fullF_nw (fun i z1 z2 => h i (by omega) (by omega))]
theorem l_fullMany (O : MO α n M ns rm) (G : GS n M ns rm (α 233)) (hrm : ∀ c : Int, 0 ≤ c → c < n → 0 ≤ rm c) (h : Q (ffF rm (α 233) n) φ α) : ∀ (r k : Nat), k + r = n → jX11_fullMany_4 (d + 3) (ffF rm (α 233) k) k φ α Q
  | 0, k, hk => vX11_fullMany_4 (r_cMany O.2.1 ⟨fun _ => by rw [show k = n by omega]; exact h, fun q => by omega⟩)
  | r + 1, k, hk => vX11_fullMany_4 (r_cMany O.2.1 ⟨fun q => by omega, fun _ => r_spaceOf O G hrm (by omega) (by
      have ih := l_fullMany O G hrm h r (k + 1) (by omega)
      have hn := G.2.2.2.2.2.2
      have hb := ffF_bd rm (α 233) k
      rw [show ffF rm (α 233) (k + 1) = if rm k - fullF (α 233) k = 0 then ffF rm (α 233) k + 1 else ffF rm (α 233) k from rfl] at ih
      refine ⟨fun q => ⟨by unfold inR; omega, ?_⟩, fun q => ⟨by unfold inR; omega, by unfold inR; omega, ?_⟩⟩
      · rw [if_neg q] at ih; exact ih
      · rw [if_pos q] at ih; exact ih)⟩)
theorem r_fullMany (O : MO α n M ns rm) (G : GS n M ns rm (α 233)) (hrm : ∀ c : Int, 0 ≤ c → c < n → 0 ≤ rm c) (h : Q (ffF rm (α 233) n) φ α) : eX11_fullMany (d + 3) φ α Q := vX11_fullMany_0 (l_fullMany O G hrm h n 0 (by omega))
/-- a day is kept -/
def kpR (n : Nat) (rm nw : Int → Int) (over : Int) (nw' : Int → Int) : Prop :=
  (∀ i, 0 ≤ i → i < 48 → nw' i = nw i) ∧ nw' 48 = min 40 (nw 48 + 1) ∧ (∀ k w : Int, 0 ≤ k → k < nw' 48 - 1 → 0 ≤ w → w < 3 → nw' (49 + 3 * k + w) = nw (49 + 3 * (k + (if nw 48 = 40 then 1 else 0)) + w)) ∧ nw' (49 + 3 * (nw' 48 - 1)) = nw 0 ∧ nw' (49 + 3 * (nw' 48 - 1) + 1) = over ∧ nw' (49 + 3 * (nw' 48 - 1) + 2) = ffF rm nw n
theorem rg_un {a i j : Int} {f : Int → Int} : rg α a i j f a = fun z => if i ≤ z ∧ z < j then f z else α a z := by
  funext z
  unfold rg
  by_cases e : i ≤ z ∧ z < j
  · rw [if_pos ⟨rfl, e⟩, if_pos e]
  · rw [if_neg (fun q => e q.2), if_neg e]
theorem l_isKept {x1 : Int} : ∀ (r : Nat) (k : Int) (α : aA), k + r = 166 → 49 ≤ k → (∀ α', (∀ a, a ≠ 233 → α' a = α a) → (∀ i, 0 ≤ i → α' 233 i = if k ≤ i ∧ i < 166 then α 233 (i + 3) else α 233 i) → jX11_isKept_23 (d + 1) x1 166 φ α' Q) → jX11_isKept_23 (d + 1) x1 k φ α Q
  | 0, k, α, hk, h0, h => by
    have e : k = 166 := by omega
    subst e
    exact h α (fun _ _ => rfl) (fun i _ => by rw [if_neg (by omega)])
  | r + 1, k, α, hk, h0, h => by
    refine vX11_isKept_23 ⟨fun q => by omega, fun _ => ⟨by unfold inR; omega, ⟨by omega, by omega⟩, ⟨by omega, by omega⟩, by unfold inR; omega, l_isKept r (k + 1) _ (by omega) (by omega) (fun α' h1 h2 => h α' (fun a q => (h1 a q).trans (upa_fn q)) (fun i q => ?_))⟩⟩
    rw [h2 i q]
    by_cases e : i = k
    · subst e; rw [if_neg (by omega), upa_eq, if_pos (by omega)]
    · by_cases e2 : k ≤ i ∧ i < 166
      · rw [if_pos (by omega), if_pos e2, upa_ni (by omega)]
      · rw [if_neg (by omega), if_neg e2, upa_ni e]
theorem r_isKept {x1 : Int} (O : MO α n M ns rm) (G : GS n M ns rm (α 233)) (hrm : ∀ c : Int, 0 ≤ c → c < n → 0 ≤ rm c) (h48 : 0 ≤ α 233 48 ∧ α 233 48 ≤ 40) (ht : φ 11 52 198 = 0) (h : ∀ α', (∀ a, a ≠ 233 → α' a = α a) → kpR n rm (α 233) x1 (α' 233) → Q 0 φ α') : eX11_isKept (d + 4) x1 φ α Q := by
  refine vX11_isKept_0 ⟨fun _ => ⟨fun q => ?_, fun q => ?_⟩, fun q => absurd ht q⟩
  · refine ⟨by unfold inR; omega, by unfold inR; omega, by unfold inR; omega, by unfold inR; omega, ⟨by omega, by omega⟩, by unfold inR; omega, ⟨by omega, by omega⟩, by unfold inR; omega, ?_⟩
    have e0 : ∀ i, 0 ≤ i → i < 48 → (upa (upa (upa α 233 48 ((α 233 48) + 1)) 233 ((49 + (3 * ((α 233 48) + 1))) - 3) (α 233 0)) 233 (((49 + (3 * ((α 233 48) + 1))) - 3) + 1) x1) 233 i = α 233 i := fun i q1 q2 => by rw [upa_ni (by omega), upa_ni (by omega), upa_ni (by omega)]
    refine r_fullMany ?_ (GS_nw e0 G) hrm ⟨⟨by omega, by omega⟩, h _ (fun a q => by rw [upa_fn q, upa_fn q, upa_fn q, upa_fn q]) ?_⟩
    · unfold MO at O ⊢
      rw [upa_fn (by omega), upa_fn (by omega), upa_fn (by omega), upa_fn (by omega), upa_fn (by omega), upa_fn (by omega), upa_fn (by omega), upa_fn (by omega), upa_fn (by omega)]
      exact O
    · rw [ffF_ext (fun i q1 q2 => e0 i (by omega) q2) n G.2.2.2.2.2.2.1]
      have e48 : upa (upa (upa (upa α 233 48 ((α 233 48) + 1)) 233 ((49 + (3 * ((α 233 48) + 1))) - 3) (α 233 0)) 233 (((49 + (3 * ((α 233 48) + 1))) - 3) + 1) x1) 233 (((49 + (3 * ((α 233 48) + 1))) - 3) + 2) (ffF rm (α 233) n) 233 48 = α 233 48 + 1 := by
        rw [upa_ni (by omega), upa_ni (by omega), upa_ni (by omega), upa_eq]
      refine ⟨fun i q1 q2 => by rw [upa_ni (by omega)]; exact e0 i q1 q2, by rw [e48]; omega, fun k w q1 q2 q3 q4 => ?_, ?_, ?_, ?_⟩
      · rw [e48] at q2
        rw [if_neg q, upa_ni (by omega), upa_ni (by omega), upa_ni (by omega), upa_ni (by omega), Int.add_zero]
      · rw [e48, upa_ni (by omega), upa_ni (by omega), show 49 + 3 * (α 233 48 + 1 - 1) = 49 + 3 * (α 233 48 + 1) - 3 by omega, upa_eq]
      · rw [e48, upa_ni (by omega), show 49 + 3 * (α 233 48 + 1 - 1) + 1 = 49 + 3 * (α 233 48 + 1) - 3 + 1 by omega, upa_eq]
      · rw [e48, show 49 + 3 * (α 233 48 + 1 - 1) + 2 = 49 + 3 * (α 233 48 + 1) - 3 + 2 by omega, upa_eq]
  · refine l_isKept 117 49 α rfl (by omega) (fun α1 h1 h2 => ?_)
    have z48 : α1 233 48 = 40 := by rw [h2 48 (by omega), if_neg (by omega)]; exact q
    have z0 : α1 233 0 = α 233 0 := by rw [h2 0 (by omega), if_neg (by omega)]
    refine vX11_isKept_23 ⟨fun _ => ?_, fun q => by omega⟩
    rw [z48, z0]
    refine ⟨by unfold inR; omega, by unfold inR; omega, by unfold inR; omega, ⟨by omega, by omega⟩, by unfold inR; omega, ⟨by omega, by omega⟩, by unfold inR; omega, ?_⟩
    have e0 : ∀ i, 0 ≤ i → i < 48 → (upa (upa α1 233 (49 + 3 * 40 - 3) (α 233 0)) 233 (49 + 3 * 40 - 3 + 1) x1) 233 i = α 233 i := fun i q1 q2 => by rw [upa_ni (by omega), upa_ni (by omega), h2 i q1, if_neg (by omega)]
    refine r_fullMany ?_ (GS_nw e0 G) hrm ⟨⟨by omega, by omega⟩, h _ (fun a q => by rw [upa_fn q, upa_fn q, upa_fn q]; exact h1 a q) ?_⟩
    · unfold MO at O ⊢
      rw [upa_fn (by omega), upa_fn (by omega), upa_fn (by omega), upa_fn (by omega), upa_fn (by omega), upa_fn (by omega), h1 226 (by omega), h1 225 (by omega), h1 228 (by omega)]
      exact O
    · rw [ffF_ext (fun i q1 q2 => e0 i (by omega) q2) n G.2.2.2.2.2.2.1]
      have e48 : upa (upa (upa α1 233 (49 + 3 * 40 - 3) (α 233 0)) 233 (49 + 3 * 40 - 3 + 1) x1) 233 (49 + 3 * 40 - 3 + 2) (ffF rm (α 233) n) 233 48 = 40 := by
        rw [upa_ni (by omega), upa_ni (by omega), upa_ni (by omega)]; exact z48
      refine ⟨fun i q1 q2 => by rw [upa_ni (by omega)]; exact e0 i q1 q2, by rw [e48]; omega, fun k w q1 q2 q3 q4 => ?_, ?_, ?_, ?_⟩
      · rw [e48] at q2
        rw [if_pos q, upa_ni (by omega), upa_ni (by omega), upa_ni (by omega), h2 _ (by omega), if_pos (by omega)]
        congr 1; omega
      · rw [e48, upa_ni (by omega), upa_ni (by omega), show (49 : Int) + 3 * (40 - 1) = 49 + 3 * 40 - 3 by omega, upa_eq]
      · rw [e48, upa_ni (by omega), show (49 : Int) + 3 * (40 - 1) + 1 = 49 + 3 * 40 - 3 + 1 by omega, upa_eq]
      · rw [e48, show (49 : Int) + 3 * (40 - 1) + 2 = 49 + 3 * 40 - 3 + 2 by omega, upa_eq]
/-- a day that is only thought -/
theorem r_dayThought {x1 : Int} (hx : 0 ≤ x1 ∧ x1 ≤ 10000) (E : ME α n M ns rm cs) (G : GS n M ns rm (α 233)) (hov : 0 ≤ φ 11 53 198 ∧ φ 11 53 198 ≤ 2146000000) (ht : φ 11 52 198 = 1) (h : ∀ φ' α', fm φ α φ' α' → α' 233 = (dayF (flF n M rm cs) n M ns (α 233)).1 → φ' 11 53 198 = φ 11 53 198 + (dayF (flF n M rm cs) n M ns (α 233)).2 → Q 0 φ' α') : eX11_dayGoes (d + 6) x1 φ α Q := by
  obtain ⟨G', i2, i3, i4, i5⟩ := dyF_inv (cs := cs) (st := (α 233, 0)) G ns
  have hn := G.2.2.2.2.2.2
  have hd0 := G.1
  dsimp only at i4 i5 i3
  refine vX11_dayGoes_0 (l_day7 (cs := cs) (nw := α 233) G (ov := φ 11 53 198) (by omega) ns 0 (by omega) φ α rfl (by show _ = φ 11 53 198 + 0; omega) E (fun φ1 α1 X1 V1 E1 f1 => ?_))
  refine vX11_dayGoes_7 ⟨fun _ => ⟨by rw [V1]; unfold inR; omega, by rw [V1]; unfold inR; omega, vX11_isKept_0 ⟨fun q => ?_, fun _ => ⟨by rw [X1, i3]; unfold inR; omega, ?_⟩⟩⟩, fun q => by rw [E1.1.2.2.1] at q; omega⟩
  · rw [f1.1 _ _ _ (by omega), ht] at q; omega
  · exact h _ _ (f1.tr fm_a) (by rw [upa_un, X1]; rfl) V1
/-- a day that is lived: moved over, kept -/
theorem r_dayLived {x1 : Int} (hx : 0 ≤ x1 ∧ x1 ≤ 10000) (E : ME α n M ns rm cs) (G : GS n M ns rm (α 233)) (hov : 0 ≤ φ 11 53 198 ∧ φ 11 53 198 ≤ 2146000000) (h48 : 0 ≤ α 233 48 ∧ α 233 48 ≤ 40) (ht : φ 11 52 198 = 0) (h : ∀ φ' α' nw', fm φ α φ' α' → kpR n rm (dyF (flF n M rm cs) n M (α 233, 0) ns).1 ((dayF (flF n M rm cs) n M ns (α 233)).2 + x1) nw' → α' 233 = un nw' 0 (nw' 0 + 1) → φ' 11 53 198 = φ 11 53 198 + (dayF (flF n M rm cs) n M ns (α 233)).2 → Q 0 φ' α') : eX11_dayGoes (d + 6) x1 φ α Q := by
  obtain ⟨G', i2, i3, i4, i5⟩ := dyF_inv (cs := cs) (st := (α 233, 0)) G ns
  have hn := G.2.2.2.2.2.2
  have hd0 := G.1
  dsimp only at i4 i5 i3
  have n48 : (dyF (flF n M rm cs) n M (α 233, 0) ns).1 48 = α 233 48 := dyF_nd (by omega) G ns
  refine vX11_dayGoes_0 (l_day7 (cs := cs) (nw := α 233) G (ov := φ 11 53 198) (by omega) ns 0 (by omega) φ α rfl (by show _ = φ 11 53 198 + 0; omega) E (fun φ1 α1 X1 V1 E1 f1 => ?_))
  refine vX11_dayGoes_7 ⟨fun _ => ⟨by rw [V1]; unfold inR; omega, by rw [V1]; unfold inR; omega, r_isKept E1.1 (by rw [X1]; exact G') E1.2.1 (by rw [X1, n48]; exact h48) (by rw [f1.1 _ _ _ (by omega)]; exact ht) (fun α2 h1 hk => ?_)⟩, fun q => by rw [E1.1.2.2.1] at q; omega⟩
  have e1 : α2 233 0 = α 233 0 := by rw [hk.1 0 (by omega) (by omega), X1]; exact i3
  rw [V1, show φ 11 53 198 + (dyF (flF n M rm cs) n M (α 233, 0) ns).2 - φ 11 53 198 + x1 = (dayF (flF n M rm cs) n M ns (α 233)).2 + x1 by show _ = (dyF (flF n M rm cs) n M (α 233, 0) ns).2 + x1; omega, X1] at hk
  refine ⟨by rw [e1]; unfold inR; omega, h _ _ (α2 233) (f1.tr (⟨fun _ _ _ _ => rfl, fun a q _ => h1 a q⟩ : fm φ1 α1 φ1 α2) |>.tr fm_a) hk upa_un V1⟩
end R4
