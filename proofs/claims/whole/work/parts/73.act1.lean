/-! acts: what is kept for undo, refusals -/
def rf1 (α : aA) (k : Int) : aA := upa α 197 k (α 197 k + 1)
/-- what the class's lived days and acts may change -/
def fl (φ : aF) (α : aA) (φ' : aF) (α' : aA) : Prop :=
  (∀ c f o, ¬ (c = 7 ∧ o = 29) → ¬ (c = 10 ∧ f = 15) → φ' c f o = φ c f o) ∧ ∀ a : Int, ¬ (29 < a ∧ a < 36) → a ≠ 189 → a ≠ 191 → α' a = α a
theorem fl.tr {φ φ1 φ2 : aF} {α α1 α2 : aA} (h : fl φ α φ1 α1) (h' : fl φ1 α1 φ2 α2) : fl φ α φ2 α2 := ⟨fun c f o q1 q2 => (h'.1 c f o q1 q2).trans (h.1 c f o q1 q2), fun a q1 q2 q3 => (h'.2 a q1 q2 q3).trans (h.2 a q1 q2 q3)⟩
theorem fl.rf {φ : aF} {α : aA} : fl φ α φ α := ⟨fun _ _ _ _ _ => rfl, fun _ _ _ _ => rfl⟩
theorem fl_d {φ φ' : aF} {α α' : aA} (f : frd 29 φ α φ' α') : fl φ α φ' α' := ⟨fun c g o q _ => f.1 c g o (by omega), fun a q1 q2 q3 => f.2 a (by omega) q2 q3⟩
/-- the class has kept its state -/
def AC (n M ns : Nat) (rm : Int → Int) (cs : List Int) (φ : aF) (α : aA) (φ1 : aF) (α1 : aA) : Prop :=
  (∀ c f o, ¬ (c = 7 ∧ (o = 29 ∨ o = 45 + 7 * φ 3 1 43)) → ¬ (c = 3 ∧ (f = 1 ∨ f = 2)) → ¬ (c = 10 ∧ f = 15) → φ1 c f o = φ c f o) ∧ (∀ a : Int, ¬ (29 < a ∧ a < 36) → ¬ (45 + 7 * φ 3 1 43 < a ∧ a < 52 + 7 * φ 3 1 43) → a ≠ 189 → a ≠ 191 → α1 a = α a) ∧ φ1 3 1 43 = (φ 3 1 43 + 1) % 20 ∧ φ1 3 2 43 = min (φ 3 2 43 + 1) 20 ∧ SN (45 + 7 * φ 3 1 43) φ1 α1 n M ns rm cs (α 233)
/-- what the reference's lived days and acts may change -/
def fn (φ : aF) (α : aA) (φ' : aF) (α' : aA) : Prop :=
  (∀ c f o, ¬ (c = 11 ∧ (f = 62 ∨ f = 94 ∨ f = 47 ∨ f = 50 ∨ f = 51 ∨ f = 53)) → φ' c f o = φ c f o) ∧ ∀ a : Int, a ≠ 233 → a ≠ 265 → α' a = α a
theorem fn.tr {φ φ1 φ2 : aF} {α α1 α2 : aA} (h : fn φ α φ1 α1) (h' : fn φ1 α1 φ2 α2) : fn φ α φ2 α2 := ⟨fun c f o q => (h'.1 c f o q).trans (h.1 c f o q), fun a q1 q2 => (h'.2 a q1 q2).trans (h.2 a q1 q2)⟩
theorem fn.rf {φ : aF} {α : aA} : fn φ α φ α := ⟨fun _ _ _ _ => rfl, fun _ _ _ => rfl⟩
theorem fn_m {φ φ' : aF} {α α' : aA} (f : fm φ α φ' α') : fn φ α φ' α' := ⟨fun c g o q => f.1 c g o (by omega), f.2⟩
theorem fn_a {φ : aF} {α α' : aA} (h : ∀ a : Int, a ≠ 233 → α' a = α a) : fn φ α φ α' := ⟨fun _ _ _ _ => rfl, fun a q _ => h a q⟩
/-- the reference has kept its state -/
def RK (φ : aF) (α : aA) (φ1 : aF) (α1 : aA) : Prop :=
  (∀ c f o, ¬ (c = 11 ∧ (f = 60 ∨ f = 61 ∨ f = 62 ∨ f = 94 ∨ f = 47 ∨ f = 50 ∨ f = 51 ∨ f = 53)) → φ1 c f o = φ c f o) ∧ (∀ a : Int, a ≠ 233 → a ≠ 238 → a ≠ 265 → α1 a = α a) ∧ φ1 11 61 198 = (φ 11 61 198 + 1) % 20 ∧ φ1 11 60 198 = min (φ 11 60 198 + 1) 20 ∧ (∀ i : Int, 0 ≤ i → i < 169 → α1 238 (169 * ((φ 11 61 198 + 1) % 20) + i) = α 233 i) ∧ ∀ i : Int, ¬ (169 * ((φ 11 61 198 + 1) % 20) ≤ i ∧ i < 169 * ((φ 11 61 198 + 1) % 20) + 169) → α1 238 i = α 238 i
section AT
variable {d j : Nat} {φ φ' φ0 φ1 φ2 : aF} {α α' α0 α1 α2 : aA} {Q : Int → aF → aA → Prop} {b b2 c o m x y z v s k ce side t m' p : Int} {n M ns : Nat} {rm nw nw' nw0 sr : Int → Int} {cs ct : List Int}
theorem RK_n (K : RK φ α φ1 α1) (f : fn φ1 α1 φ2 α2) : RK φ α φ2 α2 := by
  obtain ⟨k1, k2, k3, k4, k5, k6⟩ := K
  refine ⟨fun c g o q => (f.1 c g o (by omega)).trans (k1 c g o q), fun a q1 q2 q3 => (f.2 a q1 q3).trans (k2 a q1 q2 q3), (f.1 _ _ _ (by omega)).trans k3, (f.1 _ _ _ (by omega)).trans k4, ?_, ?_⟩
  · rw [f.2 238 (by omega) (by omega)]; exact k5
  · rw [f.2 238 (by omega) (by omega)]; exact k6
theorem AC_l (hp : 0 ≤ φ 3 1 43 ∧ φ 3 1 43 < 20) (A : AC n M ns rm cs φ α φ1 α1) (f : fl φ1 α1 φ2 α2) : AC n M ns rm cs φ α φ2 α2 := by
  obtain ⟨a1, a2, a3, a4, a5⟩ := A
  refine ⟨fun c g o q1 q2 q3 => (f.1 c g o (by omega) q3).trans (a1 c g o q1 q2 q3), fun a q1 q2 q3 q4 => (f.2 a q1 q3 q4).trans (a2 a q1 q2 q3 q4), (f.1 _ _ _ (by omega) (by omega)).trans a3, (f.1 _ _ _ (by omega) (by omega)).trans a4, SN_of (fun g _ => f.1 _ _ _ (by omega) (by omega)) (fun i q1 q2 => f.2 _ (by omega) (by omega) (by omega)) (fun _ _ _ => rfl) a5⟩
theorem Iv.P (I : Iv n M ns rm cs ct sr j φ α) : iP n M ns rm cs φ α := I.2.2.2.2.2.2.2.2.1
theorem Iv.N (I : Iv n M ns rm cs ct sr j φ α) : SN 29 φ α n M ns rm cs (α 233) := I.2.2.2.2.2.2.2.1
theorem Iv.R (I : Iv n M ns rm cs ct sr j φ α) : iR j α := I.2.2.2.1
theorem act_close (I : Iv n M ns rm cs ct sr j φ α) (A : AC n M ns rm cs φ α φ1 α1) (K : RK φ1 α1 φ2 α2) (S : SN 29 φ2 α2 n M ns rm cs (α2 233)) (hD : iD φ2) (hV : 0 ≤ φ2 11 53 198 ∧ φ2 11 53 198 ≤ 4000000 * ((j + 1 : Nat) : Int)) : Inv sr (j + 1) φ2 α2 := by
  obtain ⟨i0, i1, i2, i3, i4, i5, i6, i7, i8, i9, i10, i11⟩ := I
  obtain ⟨a1, a2, a3, a4, a5⟩ := A
  obtain ⟨k1, k2, k3, k4, k5, k6⟩ := K
  obtain ⟨p1, p2, p3, p4, p5, p6, p7⟩ := i8
  have ff : ∀ c f o, ¬ (c = 7 ∧ (o = 29 ∨ o = 45 + 7 * φ 3 1 43)) → ¬ (c = 3 ∧ (f = 1 ∨ f = 2)) → ¬ (c = 10 ∧ f = 15) → ¬ (c = 11 ∧ (f = 60 ∨ f = 61 ∨ f = 62 ∨ f = 94 ∨ f = 47 ∨ f = 50 ∨ f = 51 ∨ f = 53)) → φ2 c f o = φ c f o := fun c f o q1 q2 q3 q4 => (k1 c f o q4).trans (a1 c f o q1 q2 q3)
  have fa : ∀ a : Int, a < 29 ∨ (185 ≤ a ∧ a ≠ 189 ∧ a ≠ 191 ∧ a ≠ 233 ∧ a ≠ 238 ∧ a ≠ 265) → α2 a = α a := fun a q => (k2 a (by omega) (by omega) (by omega)).trans (a2 a (by omega) (by omega) (by omega) (by omega))
  have n1 : φ2 3 1 43 = (φ 3 1 43 + 1) % 20 := (k1 _ _ _ (by omega)).trans a3
  have n2 : φ2 3 2 43 = min (φ 3 2 43 + 1) 20 := (k1 _ _ _ (by omega)).trans a4
  have m1 : φ1 11 61 198 = φ 11 61 198 := a1 _ _ _ (by omega) (by omega) (by omega)
  have m2 : φ1 11 60 198 = φ 11 60 198 := a1 _ _ _ (by omega) (by omega) (by omega)
  have m3 : α1 233 = α 233 := a2 _ (by omega) (by omega) (by omega) (by omega)
  have m4 : α1 238 = α 238 := a2 _ (by omega) (by omega) (by omega) (by omega)
  rw [m1, p3] at k3 k5 k6
  rw [m2] at k4
  rw [m3] at k5
  rw [m4] at k6
  refine ⟨n, M, ns, rm, cs, ct, by rw [fa _ (by omega)]; exact i0, iT_of (ff _ _ _ (by omega) (by omega) (by omega) (by omega)) (ff _ _ _ (by omega) (by omega) (by omega) (by omega)) (fa _ (by omega)) (fa _ (by omega)) i1, iF_of (ff _ _ _ (by omega) (by omega) (by omega) (by omega)) (ff _ _ _ (by omega) (by omega) (by omega) (by omega)) (ff _ _ _ (by omega) (by omega) (by omega) (by omega)) (ff _ _ _ (by omega) (by omega) (by omega) (by omega)) i2, iR_of (Nat.le_succ j) (fa _ (by omega)) (fa _ (by omega)) i3, hD, ⟨by rw [ff _ _ _ (by omega) (by omega) (by omega) (by omega)]; exact i5.1, hV⟩, iO_of (fun _ => ff _ _ _ (by omega) (by omega) (by omega) (by omega)) (ff _ _ _ (by omega) (by omega) (by omega) (by omega)) (ff _ _ _ (by omega) (by omega) (by omega) (by omega)) (ff _ _ _ (by omega) (by omega) (by omega) (by omega)) (fun x _ _ => fa _ (by omega)) (fun x _ _ => fa _ (by omega)) i6, S, ?_, iS_of (ff _ _ _ (by omega) (by omega) (by omega) (by omega)) (ff _ _ _ (by omega) (by omega) (by omega) (by omega)) (fa _ (by omega)) (fa _ (by omega)) i9, iC_of (ff _ _ _ (by omega) (by omega) (by omega) (by omega)) (ff _ _ _ (by omega) (by omega) (by omega) (by omega)) (fa _ (by omega)) (fa _ (by omega)) i10, iW_of (fa _ (by omega)) (fun x _ _ => fa _ (by omega)) (fun x _ _ => fa _ (by omega)) i11⟩
  refine ⟨by omega, by omega, by omega, by omega, by omega, by omega, fun i q1 q2 => ?_⟩
  rw [n1]
  by_cases e : i = 0
  · subst e
    have e1 : ((φ 3 1 43 + 1) % 20 + 19 - 0) % 20 = φ 3 1 43 := by omega
    have e2 : ((φ 3 1 43 + 1) % 20 + 20 - 0) % 20 = (φ 3 1 43 + 1) % 20 := by omega
    rw [e1, e2]
    exact SN_of (fun f _ => k1 _ _ _ (by omega)) (fun i q1 q2 => k2 _ (by omega) (by omega) (by omega)) (fun i q1 q2 => k5 i q1 (by omega)) a5
  · have e1 : ((φ 3 1 43 + 1) % 20 + 19 - i) % 20 = (φ 3 1 43 + 19 - (i - 1)) % 20 := by omega
    have e2 : ((φ 3 1 43 + 1) % 20 + 20 - i) % 20 = (φ 3 1 43 + 20 - (i - 1)) % 20 := by omega
    rw [e1, e2]
    refine SN_of (fun f _ => ff _ _ _ (by omega) (by omega) (by omega) (by omega)) (fun z q1 q2 => (k2 _ (by omega) (by omega) (by omega)).trans (a2 _ (by omega) (by omega) (by omega) (by omega))) (fun z q1 q2 => k6 _ (by omega)) (p7 (i - 1) (by omega) (by omega))
theorem c_copyAll (hb : isSt b) (hb2 : isSt b2) (hne : b ≠ b2) (S : SN b2 φ α n M ns rm cs nw) (h : ∀ φ' α', SN b φ' α' n M ns rm cs nw → (∀ c f o, ¬ (c = 7 ∧ o = b) → φ' c f o = φ c f o) → (∀ a : Int, ¬ (b < a ∧ a < b + 7) → a ≠ 189 → α' a = α a) → Q 0 φ' α') : eX7_copyAll (d + 3) b b2 φ α Q := by
  obtain ⟨X, G, K, D, T⟩ := S
  have hn := G.2.2.2.2.2.2
  have hap := st_apart hb hb2 hne
  have r2 := st_rng hb2
  have r1 := st_rng hb
  refine vX7_copyAll_0 hb hb2 (c_copyRoom hb hb2 hne hn.1 X (by rcases T with q | q; (· exact Or.inl q); (· exact Or.inr q.1)) (fun φ1 α1 X1 f1 e9 e10 => c_copy (st6 hb2) (st6 hb) (h _ _ ⟨?_, G, ?_, D, ?_⟩ ?_ ?_)))
  · exact XS_of (by rw [upf_o (by omega), upf_o (by omega)]) (fun i q1 q2 => rg_ne (by omega)) X1
  · obtain ⟨k1, k2, k3, k4, k5, k6⟩ := K
    have g7 : φ1 7 7 b2 = φ 7 7 b2 := f1.1 _ _ _ (by omega)
    have g8 : φ1 7 8 b2 = φ 7 8 b2 := f1.1 _ _ _ (by omega)
    unfold XK
    rw [upf_o (by omega), upf_s, upf_s, g7, g8]
    refine ⟨k1, k2, k3, k4, k5, fun k w q1 q2 q3 q4 => ?_⟩
    rw [rg_in (by omega), f1.2 (b2 + 6) (by omega) (by omega)]
    exact k6 k w q1 q2 q3 q4
  · unfold stl at T ⊢
    rw [upf_o (by omega), upf_o (by omega), upf_o (by omega), upf_o (by omega), e9, e10]
    exact T
  · intro c f o q
    have h1 : ∀ f', c ≠ 7 ∨ f ≠ f' ∨ o ≠ b := fun f' => by omega
    rw [upf_o (h1 8), upf_o (h1 7)]
    exact f1.1 c f o (by omega)
  · intro a q1 q2
    rw [rg_ne (by omega)]
    exact f1.2 a (by omega) q2
theorem c_keep (hp : 0 ≤ φ 3 1 43 ∧ φ 3 1 43 < 20) (hc : 0 ≤ φ 3 2 43 ∧ φ 3 2 43 ≤ 20) (S : SN 29 φ α n M ns rm cs (α 233)) (h : ∀ φ' α', AC n M ns rm cs φ α φ' α' → SN 29 φ' α' n M ns rm cs (α 233) → φ' 10 15 0 = φ 10 15 0 → Q 0 φ' α') : eX3_keep (d + 4) 29 φ α Q := by
  refine vX3_keep_0 st29 ⟨fun q => by omega, fun _ => ⟨fun q => by omega, fun _ => ⟨hp, c_copyAll (pst hp) st29 (by omega) S (fun φ1 α1 S1 f1 g1 => ?_)⟩⟩⟩
  rw [f1 3 1 43 (by omega), f1 3 2 43 (by omega), Int.tmod_eq_emod_of_nonneg (by omega)]
  refine ⟨by unfold inR; omega, by unfold inR; omega, by unfold inR; omega, c_min (h _ _ ⟨?_, ?_, ?_, ?_, ?_⟩ ?_ ?_)⟩
  · intro c f o q1 q2 q3
    rw [upf_o (by omega), upf_o (by omega)]
    exact f1 c f o (by omega)
  · intro a q1 q2 q3 q4
    exact g1 a (by omega) q3
  · rw [upf_o (by omega), upf_s]
  · rw [upf_s]
  · exact SN_of (fun f _ => by rw [upf_o (by omega), upf_o (by omega)]) (fun i q1 q2 => rfl) (fun _ _ _ => rfl) S1
  · exact SN_of (fun f _ => by rw [upf_o (by omega), upf_o (by omega)]; exact f1 _ _ _ (by omega)) (fun i q1 q2 => g1 _ (by omega) (by omega)) (fun _ _ _ => rfl) S
  · rw [upf_o (by omega), upf_o (by omega)]; exact f1 _ _ _ (by omega)
theorem l_keeps {q0 : Int} (hq : 0 ≤ q0 ∧ q0 < 20) (e61 : φ 11 61 198 = q0) (h60 : 0 ≤ φ 11 60 198 ∧ φ 11 60 198 ≤ 20) : ∀ (r : Nat) (k : Int) (α : aA), 0 ≤ k → k + r = 169 → Q 0 (upf φ 11 60 198 (min (φ 11 60 198 + 1) 20)) (rg α 238 (169 * q0 + k) (169 * q0 + 169) (fun i => α 233 (i - 169 * q0))) → (φ 11 60 198 = 20 → Q 0 φ (rg α 238 (169 * q0 + k) (169 * q0 + 169) (fun i => α 233 (i - 169 * q0)))) → jX11_keeps_15 d k φ α Q
  | 0, k, α, h0, hk, h, h' => by
    have z : k = 169 := by omega
    subst z
    rw [rg_end (by omega)] at h h'
    refine vX11_keeps_15 ⟨fun _ => ⟨fun q => h' (by omega), fun q => ⟨by unfold inR; omega, ?_⟩⟩, fun q => by omega⟩
    rwa [show min (φ 11 60 198 + 1) 20 = φ 11 60 198 + 1 by omega] at h
  | r + 1, k, α, h0, hk, h, h' => by
    refine vX11_keeps_15 ⟨fun q => by omega, fun _ => ?_⟩
    rw [e61]
    have e := @rg_step α 238 (169 * q0 + k) (169 * q0 + 169) (fun i => α 233 (i - 169 * q0)) (by omega)
    try dsimp only at e
    rw [show 169 * q0 + k - 169 * q0 = k by omega] at e
    have ee : rg (upa α 238 (169 * q0 + k) (α 233 k)) 238 (169 * q0 + (k + 1)) (169 * q0 + 169) (fun i => (upa α 238 (169 * q0 + k) (α 233 k)) 233 (i - 169 * q0)) = rg α 238 (169 * q0 + k) (169 * q0 + 169) (fun i => α 233 (i - 169 * q0)) := by
      rw [upa_fn (show (233 : Int) ≠ 238 by omega), show 169 * q0 + (k + 1) = 169 * q0 + k + 1 by omega, e]
    exact ⟨by unfold inR; omega, by unfold inR; omega, ⟨by omega, by omega⟩, ⟨by omega, by omega⟩, by unfold inR; omega, l_keeps hq e61 h60 r (k + 1) _ (by omega) (by omega) (by rw [ee]; exact h) (by rw [ee]; exact h')⟩
theorem r_keeps (hp : 0 ≤ φ 11 61 198 ∧ φ 11 61 198 < 20) (hc : 0 ≤ φ 11 60 198 ∧ φ 11 60 198 ≤ 20) (h : ∀ φ' α', RK φ α φ' α' → α' 233 = α 233 → φ' 11 53 198 = φ 11 53 198 → φ' 11 62 198 = φ 11 62 198 → Q 0 φ' α') : eX11_keeps d φ α Q := by
  refine vX11_keeps_0 ?_
  rw [Int.tmod_eq_emod_of_nonneg (by omega)]
  refine ⟨by unfold inR; omega, by unfold inR; omega, ?_⟩
  have e60 : upf φ 11 61 198 ((φ 11 61 198 + 1) % 20) 11 60 198 = φ 11 60 198 := upf_o (by omega)
  have rk : ∀ φ', (∀ c f o, ¬ (c = 11 ∧ (f = 60 ∨ f = 61)) → φ' c f o = φ c f o) → φ' 11 61 198 = (φ 11 61 198 + 1) % 20 → φ' 11 60 198 = min (φ 11 60 198 + 1) 20 → Q 0 φ' (rg α 238 (169 * ((φ 11 61 198 + 1) % 20) + 0) (169 * ((φ 11 61 198 + 1) % 20) + 169) (fun i => α 233 (i - 169 * ((φ 11 61 198 + 1) % 20)))) := by
    intro φ' h1 h2 h3
    refine h _ _ ⟨fun c f o q => h1 c f o (by omega), fun a _ q _ => rg_ne q, h2, h3, fun i q1 q2 => ?_, fun i q => rg_out (by omega)⟩ (rg_ne (by omega)) (h1 _ _ _ (by omega)) (h1 _ _ _ (by omega))
    rw [rg_in (by omega)]
    try dsimp only
    rw [show 169 * ((φ 11 61 198 + 1) % 20) + i - 169 * ((φ 11 61 198 + 1) % 20) = i by omega]
  refine l_keeps (q0 := (φ 11 61 198 + 1) % 20) (by omega) upf_s (by rw [e60]; exact hc) 169 0 α (by omega) rfl ?_ ?_
  · rw [e60]
    exact rk _ (fun c f o q => by rw [upf_o (by omega), upf_o (by omega)]) (by rw [upf_o (by omega), upf_s]) upf_s
  · intro q
    rw [e60] at q
    exact rk _ (fun c f o q => by rw [upf_o (by omega)]) upf_s (by rw [e60]; omega)
-- refusals
theorem rf_o {a : Int} (h : a ≠ 197) : rf1 α k a = α a := upa_fn h
theorem Iv_r (I : Iv n M ns rm cs ct sr j φ α) (hk : 0 ≤ k ∧ k < 6) : Inv sr (j + 1) φ (upa (rf1 α k) 200 k (rf1 α k 200 k + 1)) := by
  obtain ⟨i0, i1, i2, i3, i4, i5, i6, i7, i8, i9, i10, i11⟩ := I
  have fa : ∀ a : Int, a ≠ 197 → a ≠ 200 → upa (rf1 α k) 200 k (rf1 α k 200 k + 1) a = α a := fun a q1 q2 => by rw [upa_fn q2, rf_o q1]
  refine ⟨n, M, ns, rm, cs, ct, by rw [fa _ (by omega) (by omega)]; exact i0, iT_of rfl rfl (fa _ (by omega) (by omega)) (fa _ (by omega) (by omega)) i1, i2, ?_, i4, ⟨i5.1, i5.2.1, by have := i5.2.2; omega⟩, iO_of (fun _ => rfl) rfl rfl rfl (fun x _ _ => fa _ (by omega) (by omega)) (fun x _ _ => fa _ (by omega) (by omega)) i6, iN_of (fun _ _ => rfl) (fun x _ _ => fa _ (by omega) (by omega)) (fa _ (by omega) (by omega)) i7, iP_of rfl rfl rfl rfl (fun _ _ _ _ => rfl) (fun x _ _ => fa _ (by omega) (by omega)) (fa _ (by omega) (by omega)) i8, iS_of rfl rfl (fa _ (by omega) (by omega)) (fa _ (by omega) (by omega)) i9, iC_of rfl rfl (fa _ (by omega) (by omega)) (fa _ (by omega) (by omega)) i10, iW_of (fa _ (by omega) (by omega)) (fun x _ _ => fa _ (by omega) (by omega)) (fun x _ _ => fa _ (by omega) (by omega)) i11⟩
  intro i q1 q2
  have w := i3 i q1 q2
  rw [upa_fn (show (197 : Int) ≠ 200 by omega), rf_o (show (200 : Int) ≠ 197 by omega)]
  unfold rf1
  by_cases e : i = k
  · subst e
    rw [upa_eq, upa_eq]
    omega
  · rw [upa_ni e, upa_ni e, upa_fn (show (200 : Int) ≠ 197 by omega)]
    omega
theorem ia197 : isIA 197 6 := fun _ => rfl
theorem c_refuse (hj : j < 512) (I : Iv n M ns rm cs ct sr j φ α) (hk : 0 ≤ k ∧ k < 6) (h : Q (-1) φ (rf1 α k)) : eX10_refuse (d + 1) k φ α Q := by
  have w := I.R k hk.1 hk.2
  exact vX10_refuse_0 (c_add ia197 hk (by unfold inR; omega) h)
theorem c_deny (hj : j < 512) (I : Iv n M ns rm cs ct sr j φ α) (hk : 0 ≤ k ∧ k < 6) (h : Q 0 φ (rf1 α k)) : eX10_deny (d + 2) k φ α Q := vX10_deny_0 (c_refuse hj I hk h)
theorem rfR (hj : j < 512) (I : Iv n M ns rm cs ct sr j φ α) (hk : 0 ≤ k ∧ k < 6) : inR (rf1 α k 200 k + 1) := by
  have w := I.R k hk.1 hk.2
  rw [rf_o (by omega)]
  unfold inR
  omega
theorem r_refuses (hj : j < 512) (I : Iv n M ns rm cs ct sr j φ α) (hk : 0 ≤ k ∧ k < 6) : eX11_refuses d k φ (rf1 α k) (pq sr j (-1)) := vX11_refuses_0 ⟨⟨by omega, by omega⟩, rfR hj I hk, ⟨rfl, Iv_r I hk⟩⟩
theorem MO_a (h : ∀ a : Int, 225 ≤ a → a ≤ 228 → α' a = α a) (O : MO α n M ns rm) : MO α' n M ns rm := by
  unfold MO at *
  rw [h 226 (by omega) (by omega), h 225 (by omega) (by omega), h 228 (by omega) (by omega)]
  exact O
theorem MO_r (O : MO α n M ns rm) : MO (rf1 α k) n M ns rm := MO_a (fun a _ _ => rf_o (by omega)) O
theorem GS_r (G : GS n M ns rm (α 233)) : GS n M ns rm (rf1 α k 233) := by rw [rf_o (by omega)]; exact G
theorem iD_nx (f1 : φ' 10 15 0 = φ 10 15 0) (f2 : φ' 11 62 198 = φ 11 62 198) (I : Iv n M ns rm cs ct sr j φ α) : iD φ' := iD_of f1 f2 I.2.2.2.2.1
end AT
