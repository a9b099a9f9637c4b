/-! days that are only thought -/
def dN (n M ns : Nat) (rm : Int → Int) (cs : List Int) (nw : Int → Int) : Nat → (Int → Int)
  | 0 => nw
  | k + 1 => (dayF (flF n M rm cs) n M ns (dN n M ns rm cs nw k)).1
def RT (n M ns : Nat) (rm : Int → Int) (cs : List Int) (nw0 : Int → Int) (φ : aF) (α : aA) : Prop :=
  φ 11 52 198 = 1 ∧ ME α n M ns rm cs ∧ (∀ i : Int, 0 ≤ i → i < 48 → α 234 i = nw0 i) ∧ ∀ i : Int, ¬ (0 ≤ i ∧ i < 48) → α 233 i = nw0 i
def ft (φ : aF) (α : aA) (φ' : aF) (α' : aA) : Prop :=
  (∀ c f o, ¬ (c = 11 ∧ (f = 94 ∨ f = 47 ∨ f = 50 ∨ f = 51 ∨ f = 52 ∨ f = 53 ∨ f = 58)) → φ' c f o = φ c f o) ∧ ∀ a : Int, a ≠ 233 → a ≠ 234 → a ≠ 235 → a ≠ 237 → a ≠ 265 → α' a = α a
theorem ft.rf {φ : aF} {α : aA} : ft φ α φ α := ⟨fun _ _ _ _ => rfl, fun _ _ _ _ _ _ => rfl⟩
theorem ft.tr {φ φ1 φ2 : aF} {α α1 α2 : aA} (h : ft φ α φ1 α1) (h' : ft φ1 α1 φ2 α2) : ft φ α φ2 α2 := ⟨fun c f o q => (h'.1 c f o q).trans (h.1 c f o q), fun a q1 q2 q3 q4 q5 => (h'.2 a q1 q2 q3 q4 q5).trans (h.2 a q1 q2 q3 q4 q5)⟩
theorem fm.t {φ φ' : aF} {α α' : aA} (h : fm φ α φ' α') : ft φ α φ' α' := ⟨fun c f o q => h.1 c f o (by omega), fun a q1 _ _ _ q5 => h.2 a q1 q5⟩
/-- the first at which p holds: tries r, from k on; else -1 -/
def fsF (p : Nat → Prop) [DecidablePred p] : Nat → Nat → Int
  | 0, _ => -1
  | r + 1, k => if p k then (k : Int) else fsF p r (k + 1)
section TK
variable {d j : Nat} {φ φ' φ0 : aF} {α α' α0 : aA} {Q : Int → aF → aA → Prop} {b c o m x y z v s k ce side : Int} {n M ns : Nat} {rm nw nw' nw0 sr : Int → Int} {cs ct : List Int}
theorem dN_o (G : GS n M ns rm nw) (hk : nw 0 + (k : Int) ≤ 1999) : ∀ (t : Nat), (t : Int) ≤ k → GS n M ns rm (dN n M ns rm cs nw t) ∧ dN n M ns rm cs nw t 0 = nw 0 + t ∧ ∀ i : Int, i < 0 ∨ 36 ≤ i → dN n M ns rm cs nw t i = nw i
  | 0, _ => ⟨G, by show nw 0 = nw 0 + ((0 : Nat) : Int); omega, fun _ _ => rfl⟩
  | t + 1, ht => by
    obtain ⟨i1, i2, i3⟩ := dN_o G hk t (by omega)
    refine ⟨dayF_G i1 (by omega), ?_, fun i hi => ?_⟩
    · rw [dN, dayF_0 i1, i2]; omega
    · rw [dN]
      unfold dayF
      dsimp only
      rw [un_o (by omega), dyF_nd (by omega) i1]
      exact i3 i hi
theorem RT_fm (f : fm φ α φ' α') (h : ∀ i : Int, ¬ (0 ≤ i ∧ i < 48) → α' 233 i = α 233 i) (R : RT n M ns rm cs nw0 φ α) : RT n M ns rm cs nw0 φ' α' :=
  ⟨by rw [f.1 _ _ _ (by omega)]; exact R.1, ME_fm f R.2.1, by rw [f.2 234 (by omega) (by omega)]; exact R.2.2.1, fun i hi => by rw [h i hi]; exact R.2.2.2 i hi⟩
theorem r_dayT (hx : 0 ≤ x ∧ x ≤ 10000) (R : RT n M ns rm cs nw0 φ α) (G : GS n M ns rm (α 233)) (hov : 0 ≤ φ 11 53 198 ∧ φ 11 53 198 ≤ 2146000000) (h : ∀ φ' α', fm φ α φ' α' → RT n M ns rm cs nw0 φ' α' → α' 233 = (dayF (flF n M rm cs) n M ns (α 233)).1 → 0 ≤ φ' 11 53 198 ∧ φ' 11 53 198 ≤ φ 11 53 198 + 1782 → Q 0 φ' α') : eX11_dayGoes (d + 6) x φ α Q := by
  have mv := dayF_mv (cs := cs) G
  refine r_dayThought hx R.2.1 G hov R.1 (fun φ' α' f e v => h φ' α' f (RT_fm f (fun i hi => ?_) R) e (by omega))
  rw [e]
  unfold dayF
  dsimp only
  rw [un_o (by omega), dyF_nd (by omega) G]
theorem l_daysGo {N : Nat} (G : GS n M ns rm nw) (hN : nw 0 + (N : Int) ≤ 1999) : ∀ (r k : Nat), k + r = N → ∀ (φ : aF) (α : aA), RT n M ns rm cs nw0 φ α → α 233 = dN n M ns rm cs nw k → 0 ≤ φ 11 53 198 ∧ φ 11 53 198 ≤ 2146000000 - 1782 * (r : Int) → (∀ φ' α', fm φ α φ' α' → RT n M ns rm cs nw0 φ' α' → α' 233 = dN n M ns rm cs nw N → 0 ≤ φ' 11 53 198 ∧ φ' 11 53 198 ≤ φ 11 53 198 + 1782 * (r : Int) → Q 0 φ' α') → jX11_daysGo_2 (d + 7) (N : Int) k φ α Q
  | 0, k, hk, φ, α, R, e, hov, h => by
    have z : k = N := by omega
    subst z
    exact vX11_daysGo_2 ⟨fun _ => h φ α fm.rf R e (by omega), fun q => by omega⟩
  | r + 1, k, hk, φ, α, R, e, hov, h => by
    have g := dN_o (cs := cs) (k := (N : Int)) G hN k (by omega)
    refine vX11_daysGo_2 ⟨fun q => by omega, fun _ => r_dayT (by omega) R (by rw [e]; exact g.1) (by omega) (fun φ1 α1 f1 R1 e1 v1 => ⟨by have := G.1; unfold inR; omega, ?_⟩)⟩
    have := l_daysGo G hN r (k + 1) (by omega) φ1 α1 R1 (by rw [e1, e]; rfl) (by omega) (fun φ' α' f' R' e' v' => h φ' α' (f1.tr f') R' e' (by omega))
    simpa using this
theorem r_daysGo {N : Nat} (hN : α 233 0 + (N : Int) ≤ 1999) (G : GS n M ns rm (α 233)) (R : RT n M ns rm cs nw0 φ α) (hov : 0 ≤ φ 11 53 198 ∧ φ 11 53 198 ≤ 2146000000 - 1782 * (N : Int)) (h : ∀ φ' α', fm φ α φ' α' → RT n M ns rm cs nw0 φ' α' → α' 233 = dN n M ns rm cs (α 233) N → 0 ≤ φ' 11 53 198 ∧ φ' 11 53 198 ≤ φ 11 53 198 + 1782 * (N : Int) → Q 0 φ' α') : eX11_daysGo (d + 7) (N : Int) φ α Q := vX11_daysGo_0 (l_daysGo (nw := α 233) G hN N 0 (by omega) φ α R rfl hov h)
theorem l_putsAside : ∀ (r : Nat) (k : Int) (α : aA), 0 ≤ k → k + r = 48 → Q 0 φ (rg α 234 k 48 (α 233)) → jX11_putsAside_7 d k φ α Q
  | 0, k, α, h0, hk, h => vX11_putsAside_7 ⟨fun _ => by rwa [rg_end (by omega)] at h, fun q => by omega⟩
  | r + 1, k, α, h0, hk, h => vX11_putsAside_7 ⟨fun q => by omega, fun _ => ⟨⟨by omega, by omega⟩, ⟨by omega, by omega⟩, by unfold inR; omega, l_putsAside r (k + 1) _ (by omega) (by omega) (by rw [upa_fn (by omega), rg_step (by omega)]; exact h)⟩⟩
theorem l_triesAnew : ∀ (r : Nat) (k : Int) (α : aA), 0 ≤ k → k + r = 48 → Q 0 φ (rg α 233 k 48 (α 234)) → jX11_triesAnew_2 d k φ α Q
  | 0, k, α, h0, hk, h => vX11_triesAnew_2 ⟨fun _ => by rwa [rg_end (by omega)] at h, fun q => by omega⟩
  | r + 1, k, α, h0, hk, h => vX11_triesAnew_2 ⟨fun q => by omega, fun _ => ⟨⟨by omega, by omega⟩, ⟨by omega, by omega⟩, by unfold inR; omega, l_triesAnew r (k + 1) _ (by omega) (by omega) (by rw [upa_fn (by omega), rg_step (by omega)]; exact h)⟩⟩
theorem rg_back (h1 : ∀ i : Int, 0 ≤ i → i < 48 → α 234 i = nw0 i) (h2 : ∀ i : Int, ¬ (0 ≤ i ∧ i < 48) → α 233 i = nw0 i) : rg α 233 0 48 (α 234) 233 = nw0 := by
  funext i
  by_cases e : 0 ≤ i ∧ i < 48
  · rw [rg_in e]; exact h1 i e.1 e.2
  · rw [rg_out e]; exact h2 i e
theorem ft_a {a : Int} {f : Int → Int} {i1 i2 : Int} (h : a = 233 ∨ a = 234 ∨ a = 235 ∨ a = 237 ∨ a = 265) : ft φ α φ (rg α a i1 i2 f) := ⟨fun _ _ _ _ => rfl, fun a' _ _ _ _ _ => rg_ne (by omega)⟩
theorem ft_u {a : Int} {i : Int} (h : a = 233 ∨ a = 234 ∨ a = 235 ∨ a = 237 ∨ a = 265) : ft φ α φ (upa α a i v) := ⟨fun _ _ _ _ => rfl, fun a' _ _ _ _ _ => upa_fn (by omega)⟩
theorem ft_f {f : Nat} (hf : f = 94 ∨ f = 47 ∨ f = 50 ∨ f = 51 ∨ f = 52 ∨ f = 53 ∨ f = 58) : ft φ α (upf φ 11 f 198 v) α := ⟨fun c f' o q => upf_o (by
  by_cases e : c = 11
  · by_cases e2 : f' = f
    · exact absurd ⟨e, e2 ▸ hf⟩ q
    · exact Or.inr (Or.inl e2)
  · exact Or.inl e), fun _ _ _ _ _ _ => rfl⟩
theorem r_putsT (E : ME α n M ns rm cs) (h : ∀ φ' α', RT n M ns rm cs (α 233) φ' α' → α' 233 = α 233 → ft φ α φ' α' → φ' 11 53 198 = φ 11 53 198 → Q 0 φ' α') : eX11_putsAside d φ α Q := by
  refine vX11_putsAside_0 (l_putsAside 48 0 α (by omega) rfl (h _ _ ⟨upf_s, ME_of (fun a _ _ => rg_ne (by omega)) E, fun i q1 q2 => by rw [rg_in ⟨q1, q2⟩], fun i _ => by rw [rg_ne (by omega)]⟩ (rg_ne (by omega)) ((ft_f (by omega)).tr (ft_a (by omega))) (upf_o (by omega))))
theorem r_triesT (R : RT n M ns rm cs nw0 φ α) (h : ∀ α', RT n M ns rm cs nw0 φ α' → α' 233 = nw0 → ft φ α φ α' → (∀ a, a ≠ 233 → α' a = α a) → Q 0 φ α') : eX11_triesAnew d φ α Q := by
  have e := rg_back R.2.2.1 R.2.2.2
  refine vX11_triesAnew_0 (l_triesAnew 48 0 α (by omega) rfl (h _ ⟨R.1, ME_of (fun a _ _ => rg_ne (by omega)) R.2.1, by rw [rg_ne (by omega)]; exact R.2.2.1, fun i _ => by rw [e]⟩ e (ft_a (by omega)) (fun a q => rg_ne q)))
theorem ft_fq (f : ft φ α φ' α') (h1 : α' 233 = α 233) (h2 : φ' 11 52 198 = φ 11 52 198) : fq φ α φ' α' := by
  refine ⟨fun c g o q => ?_, fun a q1 q2 q3 q4 q5 q6 q7 q8 q9 q10 => ?_⟩
  · by_cases e : c = 11 ∧ g = 52
    · obtain ⟨rfl, rfl⟩ := e
      by_cases e2 : o = 198
      · rw [e2]; exact h2
      · exact absurd (Or.inr (Or.inr (Or.inr ⟨rfl, Or.inl e2⟩))) q
    · exact f.1 c g o (by omega)
  · by_cases e : a = 233
    · rw [e]; exact h1
    · exact f.2 a e q7 q8 q9 q10
theorem r_backT (I : Iv n M ns rm cs ct sr j φ0 α0) (f : ft φ0 α0 φ α) (R : RT n M ns rm cs (α0 233) φ α) (hov : 0 ≤ φ 11 53 198 ∧ φ 11 53 198 ≤ φ0 11 53 198 + 4000000) (h : ∀ φ' α', Inv sr (j + 1) φ' α' → fq φ0 α0 φ' α' → Q 0 φ' α') : eX11_takesBack (d + 1) φ α Q := by
  refine vX11_takesBack_0 (r_triesT R (fun α1 R1 e1 f1 _ => ?_))
  have i5 := I.2.2.2.2.2.1
  have F : fq φ0 α0 (upf φ 11 52 198 0) α1 := by
    refine ft_fq ((f.tr f1).tr (ft_f (by omega))) e1 (by rw [upf_s, i5.1])
  refine h _ _ (Iv_fq (Nat.le_succ j) F ?_ I).inv F
  rw [upf_o (by omega)]
  have := i5.2.2
  omega
/-- when there is a clerk, a registry has been told -/
theorem Iv.open_ (I : Iv n M ns rm cs ct sr j φ α) (h : 0 < n ∨ 0 < M ∨ 0 < ns ∨ φ 11 46 198 ≠ 0) : φ 11 46 198 = 1 ∧ XE φ α n M ns rm cs ∧ ME α n M ns rm cs ∧ SH φ α ct := by
  rcases I.O.2.2.2.2.2.2 with q | q
  · omega
  · exact q
theorem Iv.S (I : Iv n M ns rm cs ct sr j φ α) : stl 29 φ n M ns rm cs (α 233) := I.2.2.2.2.2.2.2.1.2.2.2.2
theorem Iv.D (I : Iv n M ns rm cs ct sr j φ α) : α 233 0 ≤ 999 := I.2.2.2.2.2.2.2.1.2.2.2.1
theorem c_canPass (I : Iv n M ns rm cs ct sr j φ α) (hy : 0 ≤ y) (hz : z ≤ 1000) (h : Q (if φ 11 46 198 = 1 ∧ (y ≤ x ∧ x ≤ z) ∧ α 233 0 + x ≤ 999 then 1 else 0) φ α) : eX10_canPass (d + 1) x y z φ α Q := by
  have e0 := I.X.1
  have g := I.G.1
  have eo := I.O.2.2.2.2.2.1
  have op : φ 11 46 198 = 0 ∨ φ 11 46 198 = 1 := by rcases I.O.2.2.2.2.2.2 with q | q; (· exact Or.inl q.1); (· exact Or.inr q.1)
  refine vX10_canPass_0 ⟨fun q => ?_, fun q => c_within ?_⟩
  · rwa [if_neg (by omega)] at h
  · by_cases e : y ≤ x ∧ x ≤ z
    · rw [if_pos e, e0]
      exact ⟨fun q => by omega, fun _ => ⟨by unfold inR; omega, fun q2 => by rwa [if_neg (by omega)] at h, fun q2 => by rwa [if_pos (by omega)] at h⟩⟩
    · rw [if_neg e]
      exact ⟨fun _ => by rwa [if_neg (fun w => e w.2.1)] at h, fun q => absurd rfl q⟩
theorem r_isAhead (I : Iv n M ns rm cs ct sr j φ α) (hy : 0 ≤ y) (hz : z ≤ 1000) (h : Q (if φ 11 46 198 = 1 ∧ (y ≤ x ∧ x ≤ z) ∧ α 233 0 + x ≤ 999 then 1 else 0) φ α) : eX11_isAhead (d + 1) x y z φ α Q := by
  have g := I.G.1
  have op : φ 11 46 198 = 0 ∨ φ 11 46 198 = 1 := by rcases I.O.2.2.2.2.2.2 with q | q; (· exact Or.inl q.1); (· exact Or.inr q.1)
  refine vX11_isAhead_0 ⟨fun q => ?_, fun q => r_isIn ?_⟩
  · rwa [if_neg (by omega)] at h
  · by_cases e : y ≤ x ∧ x ≤ z
    · rw [if_pos e]
      exact ⟨fun q => by omega, fun _ => ⟨by unfold inR; omega, fun q2 => by rwa [if_neg (by omega)] at h, fun q2 => by rwa [if_pos (by omega)] at h⟩⟩
    · rw [if_neg e]
      exact ⟨fun _ => by rwa [if_neg (fun w => e w.2.1)] at h, fun q => absurd rfl q⟩
/-- the trial holds nw -/
def TR (n M ns : Nat) (rm : Int → Int) (cs : List Int) (φ : aF) (α : aA) (nw : Int → Int) : Prop := XS 36 φ α n nw ∧ GS n M ns rm nw ∧ XE φ α n M ns rm cs ∧ stl 36 φ n M ns rm cs nw
theorem frd_fq (f : frd 36 φ α φ' α') : fq φ α φ' α' := ⟨fun c g o q => f.1 c g o (by omega), fun a q1 q2 q3 _ _ _ _ _ _ _ => f.2 a (by omega) q2 q3⟩
theorem c_copyTR (I : Iv n M ns rm cs ct sr j φ α) (E : XE φ α n M ns rm cs) (h : ∀ φ' α', TR n M ns rm cs φ' α' (α 233) → frd 36 φ α φ' α' → Q 0 φ' α') : eX7_copyRoom (d + 2) 36 29 φ α Q := by
  have S := I.S
  refine c_copyRoom st36 st29 (by omega) I.G.2.2.2.2.2.2.1 I.X (by rcases S with q | q; (· exact Or.inl q); (· exact Or.inr q.1)) (fun φ' α' X f e1 e2 => h φ' α' ⟨X, I.G, XE_frd st36 f.d E, ?_⟩ f.d)
  unfold stl at S ⊢
  rw [e1, e2]
  exact S
theorem c_dayTR (T : TR n M ns rm cs φ α nw) (hd : nw 0 ≤ 1999) (h : ∀ φ' α', TR n M ns rm cs φ' α' (dayF (flF n M rm cs) n M ns nw).1 → frd 36 φ α φ' α' → Q (dayF (flF n M rm cs) n M ns nw).2 φ' α') : eX9_passDay (d + 4) 36 φ α Q := by
  refine c_passDay st36 T.1 T.2.1 T.2.2.1 T.2.2.2 (fun φ' α' X f S => h φ' α' ⟨X, dayF_G T.2.1 hd, XE_frd st36 f T.2.2.1, S⟩ f)
theorem l_lookAhead {N : Nat} (G : GS n M ns rm nw) (hN : nw 0 + (N : Int) ≤ 1999) : ∀ (r k : Nat), k + r = N → ∀ (φ : aF) (α : aA), TR n M ns rm cs φ α (dN n M ns rm cs nw k) → (∀ φ' α', TR n M ns rm cs φ' α' (dN n M ns rm cs nw N) → frd 36 φ α φ' α' → Q 0 φ' α') → jX10_lookAhead_13 (d + 5) (N : Int) k φ α Q
  | 0, k, hk, φ, α, T, h => by
    have z : k = N := by omega
    subst z
    exact vX10_lookAhead_13 ⟨fun _ => h φ α T frd.rf, fun q => by omega⟩
  | r + 1, k, hk, φ, α, T, h => by
    have g := dN_o (cs := cs) (k := (N : Int)) G hN k (by omega)
    refine vX10_lookAhead_13 ⟨fun q => by omega, fun _ => c_dayTR T (by omega) (fun φ1 α1 T1 f1 => ⟨by have := G.1; unfold inR; omega, ?_⟩)⟩
    have := l_lookAhead G hN r (k + 1) (by omega) φ1 α1 T1 (fun φ' α' T' f' => h φ' α' T' (f1.tr f'))
    simpa using this
theorem c_lookAhead {N : Nat} (I : Iv n M ns rm cs ct sr j φ α) (E : XE φ α n M ns rm cs) (hN : α 233 0 + (N : Int) ≤ 1999) (h : ∀ φ' α', TR n M ns rm cs φ' α' (dN n M ns rm cs (α 233) N) → frd 36 φ α φ' α' → Q 0 φ' α') : eX10_lookAhead (d + 5) (N : Int) φ α Q :=
  vX10_lookAhead_0 (c_copyTR I E (fun φ1 α1 T1 f1 => by
    have := l_lookAhead (d := d) (Q := Q) (nw := α 233) (cs := cs) I.G hN N 0 (by omega) φ1 α1 T1 (fun φ' α' T' f' => h φ' α' T' (f1.tr f'))
    simpa using this))
theorem Iv_frd (f : frd 36 φ α φ' α') (I : Iv n M ns rm cs ct sr j φ α) : Iv n M ns rm cs ct sr j φ' α' := Iv_fq (Nat.le_refl j) (frd_fq f) (by rw [f.1 _ _ _ (by omega)]; exact I.2.2.2.2.2.1.2) I
theorem Iv.ov (I : Iv n M ns rm cs ct sr j φ α) (hj : j < 512) : 0 ≤ φ 11 53 198 ∧ φ 11 53 198 ≤ 2044000000 := by
  have := I.2.2.2.2.2.1.2
  omega
theorem p_later (hj : j < 512) (I : Inv sr j φ α) : eX10_later (d + 20) x y z φ α (fun r φ1 α1 => eX11_later (d + 20) x y z φ1 α1 (pq sr j r)) := by
  obtain ⟨n, M, ns, rm, cs, ct, I⟩ := I
  have hn := I.G.2.2.2.2.2.2
  refine vX10_later_0 (c_areThere I.XO ?_)
  by_cases e : (0 ≤ x ∧ x < n) ∧ (0 ≤ y ∧ y < M)
  · rw [if_pos e]
    refine ⟨fun q => by omega, fun _ => c_canPass I (by omega) (by omega) ?_⟩
    by_cases e2 : φ 11 46 198 = 1 ∧ (0 ≤ z ∧ z ≤ 60) ∧ α 233 0 + z ≤ 999
    · rw [if_pos e2]
      obtain ⟨op, E, ME, S⟩ := I.open_ (by omega)
      obtain ⟨N, rfl⟩ : ∃ N : Nat, z = N := ⟨z.toNat, by omega⟩
      refine ⟨fun _ => c_lookAhead I E (by omega) (fun φ1 α1 T1 f1 => c_dropsOf st36 T1.1 (by omega) (by omega) ?_), fun q => by omega⟩
      have I1 := Iv_frd f1 I
      have e233 : α1 233 = α 233 := f1.2 _ (by omega) (by omega) (by omega)
      have e46 : φ1 11 46 198 = φ 11 46 198 := f1.1 _ _ _ (by omega)
      obtain ⟨op1, E1, ME1, S1⟩ := I1.open_ (by omega)
      have v1 := I1.ov hj
      refine vX11_later_0 (r_areBoth I1.MO.1 I1.MO.2.1 hn.2.1 hn.1 ?_)
      rw [if_pos e]
      refine ⟨fun q => by omega, fun _ => r_isAhead I1 (by omega) (by omega) ?_⟩
      rw [e233, e46, if_pos e2]
      refine ⟨fun _ => r_putsT ME1 (fun φ2 α2 R2 a2 f2 v2 => r_daysGo (by rw [a2, e233]; omega) (by rw [a2]; exact I1.G) R2 (by omega) (fun φ3 α3 f3 R3 a3 v3 => r_dropsOf (by omega) (by omega) (r_backT I1 (f2.tr f3.t) R3 (by omega) (fun φ4 α4 I4 f4 => ⟨?_, I4⟩)))), fun q => by omega⟩
      rw [a3, a2, e233]
    · rw [if_neg e2]
      refine ⟨fun q => absurd rfl q, fun _ => vX11_later_0 (r_areBoth I.MO.1 I.MO.2.1 hn.2.1 hn.1 ?_)⟩
      rw [if_pos e]
      refine ⟨fun q => by omega, fun _ => r_isAhead I (by omega) (by omega) ?_⟩
      rw [if_neg e2]
      exact ⟨fun q => absurd rfl q, fun _ => ⟨rfl, I.nx⟩⟩
  · rw [if_neg e]
    refine ⟨fun _ => vX11_later_0 (r_areBoth I.MO.1 I.MO.2.1 hn.2.1 hn.1 ?_), fun q => absurd rfl q⟩
    rw [if_neg e]
    exact ⟨fun _ => ⟨rfl, I.nx⟩, fun q => absurd rfl q⟩
end TK
