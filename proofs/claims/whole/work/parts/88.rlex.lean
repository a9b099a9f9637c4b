/-! the reference's words -/
theorem pkw_app (l : List Int) (c : Int) : pkw (l ++ [c]) = 27 * pkw l + (c - 96) := by unfold pkw; rw [List.foldl_append]; rfl
theorem pkw_nn : ∀ (n : Nat) (l : List Int), l.length = n → (∀ c ∈ l, 97 ≤ c ∧ c ≤ 122) → 0 ≤ pkw l
  | 0, l, hl, _ => by rw [List.eq_nil_of_length_eq_zero hl]; decide
  | n + 1, l, hl, h => by
    rcases List.eq_nil_or_concat l with rfl | ⟨l', c, rfl⟩
    · cases hl
    · rw [List.concat_eq_append] at h hl ⊢
      rw [pkw_app]
      have h1 := pkw_nn n l' (by rw [List.length_append] at hl; simpa using hl) (fun x hx => h x (List.mem_append.mpr (Or.inl hx)))
      have h2 := h c (by simp)
      omega
theorem pk_inj {T : Int → Int} {p : Nat} : ∀ (m : Nat) (l : List Int), (∀ i : Nat, i < m → 97 ≤ T ((p + i : Nat) : Int) ∧ T ((p + i : Nat) : Int) ≤ 122) → (∀ c ∈ l, 97 ≤ c ∧ c ≤ 122) → vwF T p m = pkw l → m = l.length ∧ ∀ j : Nat, j < m → T ((p + j : Nat) : Int) = l.getD j 0
  | 0, l, _, hl, h => by
    rcases List.eq_nil_or_concat l with rfl | ⟨l', c, rfl⟩
    · exact ⟨rfl, fun j hj => by omega⟩
    · exfalso
      rw [List.concat_eq_append] at hl h
      rw [pkw_app] at h
      have h1 := pkw_nn _ l' rfl (fun x hx => hl x (List.mem_append.mpr (Or.inl hx)))
      have h2 := hl c (by simp)
      have h : (0 : Int) = 27 * pkw l' + (c - 96) := h
      omega
  | m + 1, l, hT, hl, h => by
    have vb := vw_bd (T := T) (p := p) (m := m) (fun i hi => hT i (by omega))
    have tm := hT m (by omega)
    rw [vwF] at h
    rcases List.eq_nil_or_concat l with rfl | ⟨l', c, rfl⟩
    · exfalso
      have h : 27 * vwF T p m + T ((p + m : Nat) : Int) - 97 + 1 = 0 := h
      omega
    · rw [List.concat_eq_append] at hl h ⊢
      rw [pkw_app] at h
      have h1 := pkw_nn _ l' rfl (fun x hx => hl x (List.mem_append.mpr (Or.inl hx)))
      have h2 := hl c (by simp)
      obtain ⟨i1, i2⟩ := pk_inj m l' (fun i hi => hT i (by omega)) (fun x hx => hl x (List.mem_append.mpr (Or.inl hx))) (by omega)
      refine ⟨by rw [List.length_append]; simp; omega, fun j hj => ?_⟩
      rw [getD_snoc j (by rw [List.length_append]; simp; omega)]
      by_cases e : j = l'.length
      · rw [if_pos e, e, ← i1]; omega
      · rw [if_neg e]; exact i2 j (by omega)
theorem vw_eq {T : Int → Int} {p : Nat} : ∀ (m : Nat) (l : List Int), m = l.length → (∀ j : Nat, j < m → T ((p + j : Nat) : Int) = l.getD j 0) → vwF T p m = pkw l
  | 0, l, hl, _ => by rw [List.eq_nil_of_length_eq_zero hl.symm]; rfl
  | m + 1, l, hl, h => by
    rcases List.eq_nil_or_concat l with rfl | ⟨l', c, rfl⟩
    · cases hl
    · rw [List.concat_eq_append] at h hl ⊢
      have ll : m = l'.length := by rw [List.length_append] at hl; simpa using hl
      rw [pkw_app, vwF, vw_eq m l' ll (fun j hj => by
        rw [h j (by omega), getD_snoc j (by rw [List.length_append]; simp; omega), if_neg (by omega)]), h m (by omega), getD_snoc m (by rw [List.length_append]; simp; omega), if_pos ll]
      omega
theorem wdl_ok : (List.range 30).all (fun k => decide ((wdl.getD k []).length ≤ 6) && decide (0 < (wdl.getD k []).length) && (wdl.getD k []).all (fun c => decide (97 ≤ c ∧ c ≤ 122)) && decide (wiF (pkw (wdl.getD k [])) = k)) = true := by decide +kernel
theorem wdl_k {k : Nat} (hk : k < 30) : (wdl.getD k []).length ≤ 6 ∧ 0 < (wdl.getD k []).length ∧ (∀ c ∈ wdl.getD k [], 97 ≤ c ∧ c ≤ 122) ∧ wiF (pkw (wdl.getD k [])) = k := by
  have := List.all_eq_true.mp wdl_ok k (List.mem_range.mpr hk)
  simp only [Bool.and_eq_true, decide_eq_true_eq, List.all_eq_true] at this
  exact ⟨this.1.1.1, this.1.1.2, this.1.2, this.2⟩
theorem fsF_p {P : Nat → Prop} [DecidablePred P] : ∀ (r k : Nat) (i : Nat), fsF P r k = i → P i ∧ k ≤ i ∧ i < k + r
  | 0, k, i, h => by
    have h : (-1 : Int) = i := h
    omega
  | r + 1, k, i, h => by
    rw [fsF] at h
    split at h
    · rename_i q
      have : k = i := by omega
      subst this
      exact ⟨q, by omega, by omega⟩
    · have := fsF_p r (k + 1) i h
      exact ⟨this.1, by omega, by omega⟩
/-- a run of letters is word i if, and only if, it is spelt so -/
theorem spell {T : Int → Int} {N p i : Nat} (hi : i < 30) (hk : kdF T N p = 1) (hp : p ≤ N) : (nxF T N p - p = (wdl.getD i []).length ∧ ∀ j : Nat, j < (wdl.getD i []).length → T ((p + j : Nat) : Int) = (wdl.getD i []).getD j 0) ↔ wdF T N p = i := by
  obtain ⟨w1, w2, w3, w4⟩ := wdl_k hi
  obtain ⟨a1, a2⟩ := nx_all (Or.inl hk)
  have nb := nx_bd (T := T) hp
  constructor
  · rintro ⟨h1, h2⟩
    unfold wdF
    rw [if_pos ⟨hk, by omega⟩]
    unfold vlF
    rw [if_pos hk, show min 6 (nxF T N p - p) = (wdl.getD i []).length by omega, vw_eq _ _ rfl h2, w4]
  · intro h
    unfold wdF at h
    split at h
    · rename_i q
      have := fsF_p _ _ _ h
      unfold vlF at this
      rw [if_pos hk, show min 6 (nxF T N p - p) = nxF T N p - p by omega] at this
      have inj := pk_inj (T := T) (p := p) (nxF T N p - p) (wdl.getD i []) (fun j hj => by
        have k' := a1 (p + j) (by omega) (by omega)
        have b' := kdB_bd (T ((p + j : Nat) : Int))
        omega) w3 this.1.symm
      exact ⟨inj.1, fun j hj => inj.2 j (by omega)⟩
    · omega
def WR (α : aA) : Prop := (∀ k i : Nat, k < 24 → i < (wdl.getD k []).length → α (201 + (k : Int)) (i : Int) = (wdl.getD k []).getD i 0) ∧ (∀ k i : Nat, k < 24 → i < (wdq.getD k []).length → α (239 + (k : Int)) (i : Int) = (wdq.getD k []).getD i 0)
theorem ca_own {k : Nat} (hk : k < 24) : isCA (201 + (k : Int)) (wdl.getD k []).length := by
  rcases (show k = 0 ∨ k = 1 ∨ k = 2 ∨ k = 3 ∨ k = 4 ∨ k = 5 ∨ k = 6 ∨ k = 7 ∨ k = 8 ∨ k = 9 ∨ k = 10 ∨ k = 11 ∨ k = 12 ∨ k = 13 ∨ k = 14 ∨ k = 15 ∨ k = 16 ∨ k = 17 ∨ k = 18 ∨ k = 19 ∨ k = 20 ∨ k = 21 ∨ k = 22 ∨ k = 23 by omega) with rfl | rfl | rfl | rfl | rfl | rfl | rfl | rfl | rfl | rfl | rfl | rfl | rfl | rfl | rfl | rfl | rfl | rfl | rfl | rfl | rfl | rfl | rfl | rfl <;> exact fun _ => rfl
theorem ca_ask {k : Nat} (hk : k < 24) : isCA (239 + (k : Int)) (wdq.getD k []).length := by
  rcases (show k = 0 ∨ k = 1 ∨ k = 2 ∨ k = 3 ∨ k = 4 ∨ k = 5 ∨ k = 6 ∨ k = 7 ∨ k = 8 ∨ k = 9 ∨ k = 10 ∨ k = 11 ∨ k = 12 ∨ k = 13 ∨ k = 14 ∨ k = 15 ∨ k = 16 ∨ k = 17 ∨ k = 18 ∨ k = 19 ∨ k = 20 ∨ k = 21 ∨ k = 22 ∨ k = 23 by omega) with rfl | rfl | rfl | rfl | rfl | rfl | rfl | rfl | rfl | rfl | rfl | rfl | rfl | rfl | rfl | rfl | rfl | rfl | rfl | rfl | rfl | rfl | rfl | rfl <;> exact fun _ => rfl
/-- the reference stands before what begins at p; the last word or number ended at e -/
def RLx (T : Int → Int) (N : Nat) (φ : aF) (α : aA) (p : Nat) (e : Int) : Prop :=
  (N ≤ 1600 ∧ φ 11 3 198 = N ∧ (∀ i : Nat, i < N → α 199 (i : Int) = T i ∧ 0 ≤ T i ∧ T i ≤ 255)) ∧ φ 11 5 198 = 0 ∧ φ 11 4 198 = e ∧ ((∃ a : Nat, φ 11 2 198 = a ∧ a ≤ p ∧ sk T N a = p) ∧ φ 11 6 198 = -1) ∧ WR α ∧ e ≤ p ∧ p ≤ N
/-- words, numbers and places: what the reference's reading of them changes -/
def fw (φ φ' : aF) : Prop := ∀ c f o, ¬ (c = 11 ∧ (f = 2 ∨ f = 4 ∨ f = 5 ∨ f = 6 ∨ f = 10 ∨ f = 35)) → φ' c f o = φ c f o
theorem fw.rf {φ : aF} : fw φ φ := fun _ _ _ _ => rfl
theorem fw.tr {φ φ1 φ2 : aF} (h : fw φ φ1) (h' : fw φ1 φ2) : fw φ φ2 := fun c f o q => (h' c f o q).trans (h c f o q)
theorem fw_u {φ φ' : aF} {f : Nat} {v : Int} (hf : f = 2 ∨ f = 4 ∨ f = 5 ∨ f = 6 ∨ f = 10 ∨ f = 35) (h : fw φ φ') : fw φ (upf φ' 11 f 198 v) := fun c g o q => by
  rw [upf_o (by
    by_cases e : c = 11
    · by_cases e2 : g = f
      · exact absurd ⟨e, e2 ▸ hf⟩ q
      · exact Or.inr (Or.inl e2)
    · exact Or.inl e)]
  exact h c g o q
section RLs
variable {d N p i : Nat} {φ φ' φ0 φ1 : aF} {α : aA} {Q : Int → aF → aA → Prop} {e v s x1 x2 : Int} {T : Int → Int}
def cF (T : Int → Int) (N p : Nat) : Int := if p < N then T p else -1
theorem l_look (hN : N ≤ 1600 ∧ φ0 11 3 198 = N ∧ (∀ i : Nat, i < N → α 199 (i : Int) = T i ∧ 0 ≤ T i ∧ T i ≤ 255)) (h : ∀ φ', fw φ0 φ' → φ' 11 2 198 = p → φ' 11 4 198 = φ0 11 4 198 → φ' 11 5 198 = φ0 11 5 198 → φ' 11 6 198 = φ0 11 6 198 → Q (cF T N p) φ' α) : ∀ (r a : Nat), r = N - a → a ≤ N → sk T N a = p → ∀ (φ : aF), fw φ0 φ → φ 11 2 198 = a → φ 11 3 198 = N → φ 11 4 198 = φ0 11 4 198 → φ 11 5 198 = φ0 11 5 198 → φ 11 6 198 = φ0 11 6 198 → eX11_look d φ α Q := by
  intro r
  induction r with
  | zero =>
    intro a hr ha hs φ f h2 h3 h4 h5 h6
    have e1 : a = p := by rw [← hs, sk_n (by omega)]
    subst e1
    have := h φ f h2 h4 h5 h6
    unfold cF at this
    rw [if_neg (by omega)] at this
    exact vX11_look_0 ⟨fun _ => this, fun q => by omega⟩
  | succ r ih =>
    intro a hr ha hs φ f h2 h3 h4 h5 h6
    have t := hN.2.2 a (by omega)
    have on : (T a = 32 ∨ T a = 10) → inR (φ 11 2 198 + 1) ∧ eX11_look d (upf φ 11 2 198 (φ 11 2 198 + 1)) α Q := fun yb => ⟨by unfold inR; omega, ih (a + 1) (by omega) (by omega) (by rw [← hs, sk_y ⟨by omega, yb⟩]) _ (fw_u (by omega) f) (by rw [upf_s, h2]; omega) (by rw [upf_o (by omega)]; exact h3) (by rw [upf_o (by omega)]; exact h4) (by rw [upf_o (by omega)]; exact h5) (by rw [upf_o (by omega)]; exact h6)⟩
    refine vX11_look_0 ⟨fun q => by omega, fun _ => ⟨by omega, ?_⟩⟩
    rw [show α 199 (φ 11 2 198) = T a by rw [h2]; exact t.1]
    refine ⟨fun q => on (Or.inr q), fun q => ⟨fun q2 => ?_, fun q2 => on (Or.inl q2)⟩⟩
    have e1 : a = p := by rw [← hs, sk_n (by omega)]
    subst e1
    have := h φ f h2 h4 h5 h6
    unfold cF at this
    rwa [if_pos (by omega)] at this
theorem RLx_at (R : RLx T N φ α p e) (f : fw φ φ') (h2 : φ' 11 2 198 = p) (h4 : φ' 11 4 198 = φ 11 4 198) (h5 : φ' 11 5 198 = φ 11 5 198) (h6 : φ' 11 6 198 = φ 11 6 198) : RLx T N φ' α p e := by
  obtain ⟨r1, r2, r3, ⟨⟨a, r4, r5, r6⟩, r66⟩, r7, r8, r9⟩ := R
  have pn : ¬ (p < N ∧ (T p = 32 ∨ T p = 10)) := by
    intro w
    have key : ∀ (r a : Nat), r = N - a → a ≤ N → ¬ (sk T N a < N ∧ (T (sk T N a) = 32 ∨ T (sk T N a) = 10)) := by
      intro r
      induction r with
      | zero => intro a hr ha z; rw [sk_n (by omega)] at z; omega
      | succ r ih =>
        intro a hr ha
        by_cases q : a < N ∧ (T a = 32 ∨ T a = 10)
        · rw [sk_y q]; exact ih (a + 1) (by omega) (by omega)
        · rw [sk_n q]; exact q
    exact key (N - a) a rfl (by omega) (by rw [r6]; exact w)
  exact ⟨⟨r1.1, by rw [f _ _ _ (by omega)]; exact r1.2.1, r1.2.2⟩, h5.trans r2, h4.trans r3, ⟨⟨p, h2, Nat.le_refl p, sk_n pn⟩, h6.trans r66⟩, r7, r8, r9⟩
theorem r_look (R : RLx T N φ α p e) (h : ∀ φ', fw φ φ' → RLx T N φ' α p e → φ' 11 2 198 = p → Q (cF T N p) φ' α) : eX11_look d φ α Q := by
  obtain ⟨r1, r2, r3, ⟨⟨a, r4, r5, r6⟩, r66⟩, r7, r8, r9⟩ := id R
  exact l_look r1 (fun φ' f h2 h4 h5 h6 => h φ' f (RLx_at R f h2 h4 h5 h6) h2) (N - a) a rfl (by omega) r6 φ fw.rf r4 r1.2.1 rfl rfl rfl
theorem r_isLetter {c : Int} (h : Q (if 97 ≤ c ∧ c ≤ 122 then 1 else 0) φ α) : eX11_isLetter d c φ α Q := vX11_isLetter_0 ⟨fun q => by rwa [if_neg (by omega)] at h, fun q => ⟨fun q2 => by rwa [if_neg (by omega)] at h, fun q2 => by rwa [if_pos (by omega)] at h⟩⟩
theorem r_isDigit {c : Int} (h : Q (if 48 ≤ c ∧ c ≤ 57 then 1 else 0) φ α) : eX11_isDigit d c φ α Q := vX11_isDigit_0 ⟨fun q => by rwa [if_neg (by omega)] at h, fun q => ⟨fun q2 => by rwa [if_neg (by omega)] at h, fun q2 => by rwa [if_pos (by omega)] at h⟩⟩
theorem cF_k1 (R : RLx T N φ α p e) : (97 ≤ cF T N p ∧ cF T N p ≤ 122) ↔ kdF T N p = 1 := by
  unfold cF kdF
  have b := kdB_bd (T p)
  split <;> omega
theorem cF_k2 (R : RLx T N φ α p e) : (48 ≤ cF T N p ∧ cF T N p ≤ 57) ↔ kdF T N p = 2 := by
  unfold cF kdF
  have b := kdB_bd (T p)
  split <;> omega
theorem l_here76 {a : Int} {w : List Int} (hca : isCA a w.length) (hα : ∀ j : Nat, j < w.length → α a (j : Int) = w.getD j 0) (hN : N ≤ 1600) (hT : ∀ i : Nat, i < N → α 199 (i : Int) = T i) (h2 : φ 11 2 198 = p) (hl : p + w.length ≤ N) (h1 : (∀ j : Nat, j < w.length → T ((p + j : Nat) : Int) = w.getD j 0) → Q 1 φ α) (h0 : (¬ ∀ j : Nat, j < w.length → T ((p + j : Nat) : Int) = w.getD j 0) → Q 0 φ α) : ∀ (r k : Nat), k + r = w.length → (∀ j : Nat, j < k → T ((p + j : Nat) : Int) = w.getD j 0) → jX11_isHere_76 (d + 1) a k φ α Q := by
  intro r
  induction r with
  | zero =>
    intro k hk hp
    exact vX11_isHere_76 hca ⟨fun _ => h1 (fun j hj => hp j (by omega)), fun q => by omega⟩
  | succ r ih =>
    intro k hk hp
    refine vX11_isHere_76 hca ⟨fun q => by omega, fun _ => ⟨by unfold inR; omega, by omega, by omega, ?_⟩⟩
    rw [show α 199 (φ 11 2 198 + (k : Int)) = T ((p + k : Nat) : Int) by rw [h2, ← hT (p + k) (by omega)]; rfl, hα k (by omega)]
    refine ⟨fun q => ⟨by unfold inR; omega, ?_⟩, fun q => h0 (fun hall => q (hall k (by omega)))⟩
    have := ih (k + 1) (by omega) (fun j hj => by
      by_cases z : j = k
      · subst z; exact q
      · exact hp j (by omega))
    rw [show ((k + 1 : Nat) : Int) = (k : Int) + 1 by omega] at this
    exact this
theorem l_here35 {a : Int} {w : List Int} (hca : isCA a w.length) (hN : N ≤ 1600) (h3 : φ 11 3 198 = N) (hT : ∀ i : Nat, i < N → α 199 (i : Int) = T i) (h2 : φ 11 2 198 = p) (hp : p ≤ N) (hk : kdF T N p = 1) (h1 : nxF T N p - p = w.length → jX11_isHere_76 (d + 1) a 0 φ α Q) (h0 : nxF T N p - p ≠ w.length → Q 0 φ α) : ∀ (r k : Nat), k + r = nxF T N p → p ≤ k → jX11_isHere_35 (d + 1) a k φ α Q := by
  obtain ⟨a1, a2⟩ := nx_all (Or.inl hk)
  have nb := nx_bd (T := T) hp
  intro r
  induction r with
  | zero =>
    intro k hkk hpk
    have z : k = nxF T N p := by omega
    subst z
    have fin : inR ((nxF T N p : Int) - φ 11 2 198) ∧ ((((nxF T N p : Int) - φ 11 2 198) = (w.length : Int) → (jX11_isHere_76 (d + 1) a 0 φ α Q)) ∧ (¬ (((nxF T N p : Int) - φ 11 2 198) = (w.length : Int)) → (Q 0 φ α))) := ⟨by unfold inR; omega, fun q => h1 (by omega), fun q => h0 (by omega)⟩
    refine vX11_isHere_35 hca ⟨fun _ => fin, fun q => ⟨by omega, r_isLetter ?_⟩⟩
    rw [hT _ (by omega), if_neg (by
      intro w
      have b := kdB_bd (T (nxF T N p))
      exact a2 ⟨by omega, by omega⟩)]
    exact ⟨fun _ => fin, fun z => absurd rfl z⟩
  | succ r ih =>
    intro k hkk hpk
    have k' := a1 k (by omega) (by omega)
    have b := kdB_bd (T k)
    refine vX11_isHere_35 hca ⟨fun q => by omega, fun _ => ⟨by omega, r_isLetter ?_⟩⟩
    rw [hT k k'.1, if_pos (by omega)]
    refine ⟨fun z => by omega, fun _ => ⟨by unfold inR; omega, ?_⟩⟩
    have := ih (k + 1) (by omega) (by omega)
    rw [show ((k + 1 : Nat) : Int) = (k : Int) + 1 by omega] at this
    exact this
/-- is word i here -/
theorem r_isHere {a : Int} (hi : i < 30) (hca : isCA a (wdl.getD i []).length) (hα : ∀ j : Nat, j < (wdl.getD i []).length → α a (j : Int) = (wdl.getD i []).getD j 0) (R : RLx T N φ α p e) (h : ∀ φ', fw φ φ' → RLx T N φ' α p e → φ' 11 2 198 = p → Q (if isW T N p e i then 1 else 0) φ' α) : eX11_isHere (d + 1) a φ α Q := by
  refine vX11_isHere_0 hca ⟨fun q => absurd R.2.1 q, fun _ => r_look R (fun φ1 f1 R1 h2 => r_isLetter ?_)⟩
  have hh := h φ1 f1 R1 h2
  have k1 := cF_k1 R1
  have hp := R1.2.2.2.2.2.2
  have nb := nx_bd (T := T) hp
  by_cases q1 : kdF T N p = 1
  · rw [if_pos (k1.mpr q1)]
    refine ⟨fun z => by omega, fun _ => ?_⟩
    rw [h2, R1.2.2.1]
    refine ⟨fun q2 => ?_, fun q2 => by rwa [if_neg (fun z => z.2.1 q2.symm)] at hh⟩
    have sp := spell hi q1 hp
    have hT : ∀ i : Nat, i < N → α 199 (i : Int) = T i := fun i hi => (R1.1.2.2 i hi).1
    refine l_here35 (T := T) (N := N) hca R1.1.1 R1.1.2.1 hT h2 hp q1 (fun hl => ?_) (fun hl => ?_) (nxF T N p - p) p (by omega) (Nat.le_refl p)
    · have := l_here76 (d := d) (Q := Q) (p := p) hca hα R1.1.1 hT h2 (by omega) (fun hs => by rwa [if_pos ⟨q1, fun z => q2 z.symm, sp.mp ⟨hl, hs⟩⟩] at hh) (fun hs => by rwa [if_neg (fun z => hs (sp.mpr z.2.2).2)] at hh) (wdl.getD i []).length 0 (by omega) (fun j hj => by omega)
      exact this
    · rwa [if_neg (fun z => hl (sp.mpr z.2.2).1)] at hh
  · rw [if_neg (fun z => q1 (k1.mp z))]
    exact ⟨fun _ => by rwa [if_neg (fun z => q1 z.1)] at hh, fun z => absurd rfl z⟩
theorem r_own {a : Int} (hi : i < 24) (ha : a = 201 + (i : Int)) (R : RLx T N φ α p e) (h : ∀ φ', fw φ φ' → RLx T N φ' α p e → φ' 11 2 198 = p → Q (if isW T N p e i then 1 else 0) φ' α) : eX11_isHere (d + 1) a φ α Q := by
  subst ha
  exact r_isHere (by omega) (ca_own hi) (fun j hj => R.2.2.2.2.1.1 i j hi hj) R h
/-- the words of questions: which of the list they are -/
def wqF (k : Nat) : Nat := [24, 25, 26, 27, 28, 29, 20, 19, 18, 21, 22, 23, 10, 4, 11, 12, 13, 14, 1, 15, 16, 17, 13, 15].getD k 0
theorem wq_all : (List.range 24).all (fun k => decide (wdq.getD k [] = wdl.getD (wqF k) []) && decide (wqF k < 30)) = true := by decide +kernel
theorem r_ask {a : Int} (k : Nat) (hk : k < 24) (ha : a = 239 + (k : Int)) (R : RLx T N φ α p e) (h : ∀ φ', fw φ φ' → RLx T N φ' α p e → φ' 11 2 198 = p → Q (if isW T N p e (wqF k) then 1 else 0) φ' α) : eX11_isHere (d + 1) a φ α Q := by
  subst ha
  have w := List.all_eq_true.mp wq_all k (List.mem_range.mpr hk)
  simp only [Bool.and_eq_true, decide_eq_true_eq] at w
  exact r_isHere w.2 (by rw [← w.1]; exact ca_ask hk) (fun j hj => by rw [← w.1] at hj ⊢; exact R.2.2.2.2.1.2 k j hk hj) R h
theorem RLx_adv (R : RLx T N φ α p e) (hk : kdF T N p ≠ 0) (f : fw φ φ') (h2 : φ' 11 2 198 = nxF T N p) (h4 : φ' 11 4 198 = edF T N p e) (h5 : φ' 11 5 198 = 0) (h6 : φ' 11 6 198 = φ 11 6 198 := by first | rfl | rw [upf_o (by omega)] | rw [upf_o (by omega), upf_o (by omega)]) : RLx T N φ' α (avF T N p) (edF T N p e) := by
  obtain ⟨r1, r2, r3, r4, r7, r8, r9⟩ := R
  have ab := av_bd (T := T) r9
  exact ⟨⟨r1.1, by rw [f _ _ _ (by omega)]; exact r1.2.1, r1.2.2⟩, h5, h4, ⟨⟨nxF T N p, h2, ab.1, rfl⟩, h6.trans r4.2⟩, r7, ed_le r9 r8, ab.2.1⟩
/-- word i is taken, if it is here -/
theorem r_takes {a : Int} (hi : i < 30) (hca : isCA a (wdl.getD i []).length) (hh : ∀ (Q' : Int → aF → aA → Prop), (∀ φ', fw φ φ' → RLx T N φ' α p e → φ' 11 2 198 = p → Q' (if isW T N p e i then 1 else 0) φ' α) → eX11_isHere (d + 1) a φ α Q') (h1 : isW T N p e i → ∀ φ', fw φ φ' → RLx T N φ' α (avF T N p) (edF T N p e) → Q 1 φ' α) (h0 : ¬ isW T N p e i → ∀ φ', fw φ φ' → RLx T N φ' α p e → φ' 11 2 198 = p → Q 0 φ' α) : eX11_takes (d + 2) a φ α Q := by
  refine vX11_takes_0 hca (hh _ (fun φ1 f1 R1 h2 => ?_))
  have hp := R1.2.2.2.2.2.2
  have nb := nx_bd (T := T) hp
  by_cases q : isW T N p e i
  · rw [if_pos q]
    have sp := (spell hi q.1 hp).mpr q.2.2
    have hN := R1.1.1
    refine ⟨fun _ => ⟨by unfold inR; omega, h1 q _ (fw_u (by omega) (fw_u (by omega) f1)) (RLx_adv R1 (by rw [q.1]; omega) (fw_u (by omega) (fw_u (by omega) fw.rf)) (by rw [upf_o (by omega), upf_s, h2]; omega) ?_ (by rw [upf_o (by omega), upf_o (by omega)]; exact R1.2.1))⟩, fun z => by omega⟩
    rw [upf_s, h2]
    unfold edF
    rw [if_neg (by rw [q.1]; omega)]
    omega
  · rw [if_neg q]
    exact ⟨fun z => absurd rfl z, fun _ => h0 q φ1 f1 R1 h2⟩
/-- the first fault stands -/
def RF (φ : aF) (k pl : Int) : Prop := φ 11 5 198 = k ∧ φ 11 6 198 = pl
theorem r_fail {k pl : Int} (h0 : φ 11 5 198 = 0) (h : ∀ φ', fw φ φ' → RF φ' k pl → Q 0 φ' α) : eX11_fail d k pl φ α Q :=
  vX11_fail_0 ⟨fun _ => h _ (fw_u (by omega) (fw_u (by omega) fw.rf)) ⟨by rw [upf_o (by omega), upf_s], upf_s⟩, fun z => absurd h0 z⟩
theorem r_takesSign (hs : kdB s = 3 ∧ 0 ≤ s) (R : RLx T N φ α p e) (h1 : isS T N p s → ∀ φ', fw φ φ' → RLx T N φ' α (avF T N p) (edF T N p e) → φ' 11 2 198 = (p : Int) + 1 → Q 1 φ' α) (h0 : ¬ isS T N p s → ∀ φ', fw φ φ' → RLx T N φ' α p e → φ' 11 2 198 = p → Q 0 φ' α) : eX11_takesSign (d + 1) s φ α Q := by
  refine vX11_takesSign_0 ⟨fun z => absurd R.2.1 z, fun _ => r_look R (fun φ1 f1 R1 h2 => ?_)⟩
  have hp := R1.2.2.2.2.2.2
  have hN := R1.1.1
  have key : cF T N p = s ↔ isS T N p s := by
    unfold cF
    constructor
    · intro w
      split at w
      · rename_i q; exact ⟨by rw [kdF_in q, w]; exact hs.1, w⟩
      · omega
    · intro w
      have : ¬ N ≤ p := fun z => by have := w.1; rw [kdF_0.mpr z] at this; omega
      rw [if_pos (by omega)]; exact w.2
  refine ⟨fun q => ⟨by unfold inR; omega, ?_⟩, fun q => h0 (fun z => q (key.mpr z)) φ1 f1 R1 h2⟩
  have q := key.mp q
  have nx : nxF T N p = p + 1 := by unfold nxF; rw [if_pos q.1]
  refine h1 q _ (fw_u (by omega) f1) (RLx_adv R1 (by rw [q.1]; omega) (fw_u (by omega) fw.rf) (by rw [upf_s, h2, nx]; omega) (by rw [upf_o (by omega), R1.2.2.1]; unfold edF; rw [if_pos q.1]) (by rw [upf_o (by omega)]; exact R1.2.1)) (by rw [upf_s, h2])
theorem r_asksSign (hs : kdB s = 3 ∧ 0 ≤ s) (R : RLx T N φ α p e) (h1 : isS T N p s → ∀ φ', fw φ φ' → RLx T N φ' α (avF T N p) (edF T N p e) → Q 0 φ' α) (h0 : ¬ isS T N p s → ∀ φ', fw φ φ' → RF φ' 1 p → Q 0 φ' α) : eX11_asksSign (d + 2) s φ α Q := by
  refine vX11_asksSign_0 ⟨fun z => absurd R.2.1 z, fun _ => r_takesSign hs R (fun q φ1 f1 R1 _ => ⟨fun _ => h1 q φ1 f1 R1, fun z => by omega⟩) (fun q φ1 f1 R1 h2 => ⟨fun z => absurd rfl z, fun _ => ?_⟩)⟩
  rw [h2]
  exact r_fail R1.2.1 (fun φ2 f2 F2 => h0 q φ2 (f1.tr f2) F2)
theorem r_asks {a : Int} (hi : i < 30) (hca : isCA a (wdl.getD i []).length) (h5 : φ 11 5 198 = 0) (hh : ∀ (Q' : Int → aF → aA → Prop), (∀ φ', fw φ φ' → RLx T N φ' α p e → φ' 11 2 198 = p → Q' (if isW T N p e i then 1 else 0) φ' α) → eX11_isHere (d + 1) a φ α Q') (h1 : isW T N p e i → ∀ φ', fw φ φ' → RLx T N φ' α (avF T N p) (edF T N p e) → Q 0 φ' α) (h0 : ¬ isW T N p e i → ∀ φ', fw φ φ' → RF φ' 1 p → Q 0 φ' α) : eX11_asks (d + 3) a φ α Q := by
  refine vX11_asks_0 hca ⟨fun z => absurd h5 z, fun _ => r_takes hi hca hh (fun q φ1 f1 R1 => ⟨fun _ => h1 q φ1 f1 R1, fun z => by omega⟩) (fun q φ1 f1 R1 h2 => ⟨fun z => absurd rfl z, fun _ => ?_⟩)⟩
  rw [h2]
  exact r_fail R1.2.1 (fun φ2 f2 F2 => h0 q φ2 (f1.tr f2) F2)
/-- a number is read -/
theorem l_num49 (hp : p ≤ N) (hk : kdF T N p = 2) (R0 : RLx T N φ0 α p e) (h1 : nxF T N p - p ≤ 4 → (x1 ≤ vlF T N p ∧ vlF T N p ≤ x2) → ∀ φ', fw φ0 φ' → RLx T N φ' α (avF T N p) (edF T N p e) → φ' 11 10 198 = p → Q (vlF T N p) φ' α) (h2 : nxF T N p - p ≤ 4 → ¬ (x1 ≤ vlF T N p ∧ vlF T N p ≤ x2) → ∀ φ', fw φ0 φ' → RF φ' 2 p → Q (vlF T N p) φ' α) (h3 : ¬ nxF T N p - p ≤ 4 → ∀ φ', fw φ0 φ' → RF φ' 1 ((p : Int) + 4) → Q 0 φ' α) : ∀ (r m : Nat), p + m + r = nxF T N p → m ≤ 4 → ∀ (φ : aF), fw φ0 φ → φ 11 2 198 = ((p + m : Nat) : Int) → φ 11 5 198 = 0 → φ 11 6 198 = φ0 11 6 198 → jX11_number_49 (d + 1) x1 x2 p (vnF T p m) φ α Q := by
  obtain ⟨a1, a2⟩ := nx_all (Or.inr hk)
  have nb := nx_bd (T := T) hp
  have hN := R0.1.1
  intro r
  induction r with
  | zero =>
    intro m hm hm4 φ f g2 g5 g6
    have g3 : φ 11 3 198 = N := (f _ _ _ (by omega)).trans R0.1.2.1
    have v : vlF T N p = vnF T p m := by unfold vlF; rw [if_neg (by omega), if_pos hk, show min 4 (nxF T N p - p) = m by omega]
    rw [v] at h1 h2
    have fin : eX11_isIn d (vnF T p m) x1 x2 (upf (upf φ 11 4 198 (φ 11 2 198)) 11 10 198 p) α (fun r2 φ2 α2 => ((¬ r2 = 0 → (Q (vnF T p m) φ2 α2)) ∧ (r2 = 0 → (eX11_fail d 2 p φ2 α2 (fun r4 φ4 α4 => (Q (vnF T p m) φ4 α4)))))) := by
      refine r_isIn ?_
      have ff := fw_u (f := 10) (v := (p : Int)) (by omega) (fw_u (f := 4) (v := φ 11 2 198) (by omega) f)
      by_cases q : x1 ≤ vnF T p m ∧ vnF T p m ≤ x2
      · rw [if_pos q]
        refine ⟨fun _ => h1 (by omega) q _ ff (RLx_adv R0 (by omega) ff (by rw [upf_o (by omega), upf_o (by omega), g2]; omega) (by rw [upf_o (by omega), upf_s, g2]; unfold edF; rw [if_neg (by omega)]; omega) (by rw [upf_o (by omega), upf_o (by omega)]; exact g5) (by rw [upf_o (by omega), upf_o (by omega)]; exact g6)) upf_s, fun z => by omega⟩
      · rw [if_neg q]
        exact ⟨fun z => absurd rfl z, fun _ => r_fail (by rw [upf_o (by omega), upf_o (by omega)]; exact g5) (fun φ2 f2 F2 => h2 (by omega) q φ2 (ff.tr f2) F2)⟩
    refine vX11_number_49 ⟨fun _ => fin, fun q => ⟨by omega, r_isDigit ?_⟩⟩
    rw [show α 199 (φ 11 2 198) = T (nxF T N p) by rw [g2, show ((p + m : Nat) : Int) = (nxF T N p : Nat) by omega]; exact (R0.1.2.2 _ (by omega)).1, if_neg (by
      intro w
      have b := kdB_bd (T (nxF T N p))
      exact a2 ⟨by omega, by omega⟩)]
    exact ⟨fun _ => fin, fun z => absurd rfl z⟩
  | succ r ih =>
    intro m hm hm4 φ f g2 g5 g6
    have g3 : φ 11 3 198 = N := (f _ _ _ (by omega)).trans R0.1.2.1
    have k' := a1 (p + m) (by omega) (by omega)
    have b := kdB_bd (T ((p + m : Nat) : Int))
    have vb := vn_bd (T := T) (p := p) (m := m) (fun i hi => by
      have k' := a1 (p + i) (by omega) (by omega)
      have b' := kdB_bd (T ((p + i : Nat) : Int))
      omega)
    have p4 : (10 : Nat) ^ m ≤ 10 ^ 4 := Nat.pow_le_pow_right (by omega) hm4
    have t := R0.1.2.2 (p + m) k'.1
    have te : α 199 (φ 11 2 198) = T ((p + m : Nat) : Int) := by rw [g2]; exact t.1
    refine vX11_number_49 ⟨fun q => by omega, fun _ => ⟨by omega, r_isDigit ?_⟩⟩
    rw [te, if_pos (by omega)]
    refine ⟨fun z => by omega, fun _ => ⟨by unfold inR; omega, fun q => ⟨by unfold inR; omega, by omega, by unfold inR; omega, by unfold inR; omega, by unfold inR; omega, ih (m + 1) (by omega) (by omega) _ (fw_u (by omega) f) (by rw [upf_s, g2]; omega) (by rw [upf_o (by omega)]; exact g5) (by rw [upf_o (by omega)]; exact g6)⟩, fun q => ?_⟩⟩
    rw [show φ 11 2 198 = (p : Int) + 4 by omega]
    exact r_fail g5 (fun φ2 f2 F2 => h3 (by omega) φ2 (f.tr f2) F2)
theorem r_number (R : RLx T N φ α p e) (h1 : (kdF T N p = 2 ∧ e ≠ p) → nxF T N p - p ≤ 4 → (x1 ≤ vlF T N p ∧ vlF T N p ≤ x2) → ∀ φ', fw φ φ' → RLx T N φ' α (avF T N p) (edF T N p e) → φ' 11 10 198 = p → Q (vlF T N p) φ' α) (h2 : (kdF T N p = 2 ∧ e ≠ p) → nxF T N p - p ≤ 4 → ¬ (x1 ≤ vlF T N p ∧ vlF T N p ≤ x2) → ∀ φ', fw φ φ' → RF φ' 2 p → Q (vlF T N p) φ' α) (h3 : (kdF T N p = 2 ∧ e ≠ p) → ¬ nxF T N p - p ≤ 4 → ∀ φ', fw φ φ' → RF φ' 1 ((p : Int) + 4) → Q 0 φ' α) (h4 : ¬ (kdF T N p = 2 ∧ e ≠ p) → ∀ φ', fw φ φ' → RF φ' 1 p → Q 0 φ' α) : eX11_number (d + 1) x1 x2 φ α Q := by
  refine vX11_number_0 ⟨fun _ => r_look R (fun φ1 f1 R1 g2 => r_isDigit ?_), fun z => absurd R.2.1 z⟩
  have k2 := cF_k2 R1
  have hp := R1.2.2.2.2.2.2
  have nb := nx_bd (T := T) hp
  by_cases q1 : kdF T N p = 2
  · rw [if_pos (k2.mpr q1)]
    refine ⟨fun z => by omega, fun _ => ?_⟩
    rw [g2, R1.2.2.1]
    refine ⟨fun q2 => ?_, fun q2 => r_fail R1.2.1 (fun φ2 f2 F2 => h4 (fun z => z.2 q2.symm) φ2 (f1.tr f2) F2)⟩
    have q2' : e ≠ p := fun z => q2 z.symm
    have := l_num49 (d := d) (Q := Q) (x1 := x1) (x2 := x2) hp q1 R1 (fun w1 w2 φ2 f2 R2 w3 => h1 ⟨q1, q2'⟩ w1 w2 φ2 (f1.tr f2) R2 w3) (fun w1 w2 φ2 f2 F2 => h2 ⟨q1, q2'⟩ w1 w2 φ2 (f1.tr f2) F2) (fun w1 φ2 f2 F2 => h3 ⟨q1, q2'⟩ w1 φ2 (f1.tr f2) F2) (nxF T N p - p) 0 (by omega) (by omega) φ1 fw.rf g2 R1.2.1 rfl
    exact this
  · rw [if_neg (fun z => q1 (k2.mp z)), g2]
    exact ⟨fun _ => r_fail R1.2.1 (fun φ2 f2 F2 => h4 (fun z => q1 z.1) φ2 (f1.tr f2) F2), fun z => absurd rfl z⟩
end RLs
