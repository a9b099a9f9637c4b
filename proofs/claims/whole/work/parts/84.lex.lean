/-! the text: blanks, words, numbers, signs -/
def kdB (c : Int) : Int := if 97 ≤ c ∧ c ≤ 122 then 1 else if 48 ≤ c ∧ c ≤ 57 then 2 else 3
def kdF (T : Int → Int) (N p : Nat) : Int := if p < N then kdB (T p) else 0
def skF (T : Int → Int) (N : Nat) : Nat → Nat → Nat
  | 0, p => p
  | f + 1, p => if p < N ∧ (T p = 32 ∨ T p = 10) then skF T N f (p + 1) else p
def sk (T : Int → Int) (N p : Nat) : Nat := skF T N (N - p) p
def enF (T : Int → Int) (N : Nat) (k : Int) : Nat → Nat → Nat
  | 0, p => p
  | f + 1, p => if p < N ∧ kdB (T p) = k then enF T N k f (p + 1) else p
def nxF (T : Int → Int) (N p : Nat) : Nat := if kdF T N p = 3 then p + 1 else if kdF T N p = 0 then p else enF T N (kdF T N p) (N - p) p
def vwF (T : Int → Int) (p : Nat) : Nat → Int
  | 0 => 0
  | m + 1 => 27 * vwF T p m + T ((p + m : Nat) : Int) - 97 + 1
def vnF (T : Int → Int) (p : Nat) : Nat → Int
  | 0 => 0
  | m + 1 => 10 * vnF T p m + T ((p + m : Nat) : Int) - 48
def vlF (T : Int → Int) (N p : Nat) : Int := if kdF T N p = 1 then vwF T p (min 6 (nxF T N p - p)) else if kdF T N p = 2 then vnF T p (min 4 (nxF T N p - p)) else if kdF T N p = 3 then T p else 0
def wiF (v : Int) : Int := fsF (fun k => pkw (wdl.getD k []) = v) 30 0
def wdF (T : Int → Int) (N p : Nat) : Int := if kdF T N p = 1 ∧ nxF T N p - p ≤ 6 then wiF (vlF T N p) else -1
theorem kdB_bd (c : Int) : kdB c = 1 ∧ (97 ≤ c ∧ c ≤ 122) ∨ kdB c = 2 ∧ (48 ≤ c ∧ c ≤ 57) ∨ kdB c = 3 ∧ ¬ (97 ≤ c ∧ c ≤ 122) ∧ ¬ (48 ≤ c ∧ c ≤ 57) := by
  unfold kdB
  split
  · exact Or.inl ⟨rfl, by assumption⟩
  · split
    · exact Or.inr (Or.inl ⟨rfl, by assumption⟩)
    · exact Or.inr (Or.inr ⟨rfl, by assumption, by assumption⟩)
theorem kdF_in {T : Int → Int} {N p : Nat} (h : p < N) : kdF T N p = kdB (T p) := by unfold kdF; rw [if_pos h]
theorem kdF_0 {T : Int → Int} {N p : Nat} : kdF T N p = 0 ↔ N ≤ p := by
  unfold kdF
  have := kdB_bd (T p)
  split <;> omega
theorem kdF_c {T : Int → Int} {N p : Nat} : kdF T N p = 0 ∨ kdF T N p = 1 ∨ kdF T N p = 2 ∨ kdF T N p = 3 := by
  unfold kdF
  have := kdB_bd (T p)
  split <;> omega
theorem skF_s {T : Int → Int} {N : Nat} : ∀ (f p : Nat), f = N - p → (p < N ∧ (T p = 32 ∨ T p = 10) → skF T N f p = sk T N (p + 1)) ∧ (¬ (p < N ∧ (T p = 32 ∨ T p = 10)) → skF T N f p = p)
  | 0, p, h => ⟨fun q => by omega, fun _ => rfl⟩
  | f + 1, p, h => by
    refine ⟨fun q => ?_, fun q => ?_⟩
    · rw [skF, if_pos q]
      unfold sk
      rw [show N - (p + 1) = f by omega]
    · rw [skF, if_neg q]
theorem sk_y {T : Int → Int} {N p : Nat} (h : p < N ∧ (T p = 32 ∨ T p = 10)) : sk T N p = sk T N (p + 1) := (skF_s _ p rfl).1 h
theorem sk_n {T : Int → Int} {N p : Nat} (h : ¬ (p < N ∧ (T p = 32 ∨ T p = 10))) : sk T N p = p := (skF_s _ p rfl).2 h
theorem sk_bd {T : Int → Int} {N : Nat} : ∀ (f p : Nat), f = N - p → p ≤ N → p ≤ sk T N p ∧ sk T N p ≤ N
  | 0, p, h, hp => by rw [sk_n (by omega)]; omega
  | f + 1, p, h, hp => by
    by_cases q : p < N ∧ (T p = 32 ∨ T p = 10)
    · rw [sk_y q]
      have := sk_bd (T := T) (N := N) f (p + 1) (by omega) (by omega)
      omega
    · rw [sk_n q]; omega
theorem enF_bd {T : Int → Int} {N : Nat} {k : Int} : ∀ (f p : Nat), p ≤ N → p ≤ enF T N k f p ∧ enF T N k f p ≤ N
  | 0, p, h => ⟨Nat.le_refl p, h⟩
  | f + 1, p, h => by
    rw [enF]
    split
    · have := enF_bd (T := T) (N := N) (k := k) f (p + 1) (by omega); omega
    · omega
theorem enF_all {T : Int → Int} {N : Nat} {k : Int} : ∀ (f p : Nat), f = N - p → (∀ i : Nat, p ≤ i → i < enF T N k f p → i < N ∧ kdB (T i) = k) ∧ ¬ (enF T N k f p < N ∧ kdB (T (enF T N k f p)) = k)
  | 0, p, h => by
    rw [enF]
    exact ⟨fun i h1 h2 => by omega, fun q => by omega⟩
  | f + 1, p, h => by
    rw [enF]
    split
    · rename_i q
      obtain ⟨i1, i2⟩ := enF_all (T := T) (N := N) (k := k) f (p + 1) (by omega)
      refine ⟨fun i h1 h2 => ?_, i2⟩
      by_cases e : i = p
      · subst e; exact q
      · exact i1 i (by omega) h2
    · rename_i q
      exact ⟨fun i h1 h2 => by omega, q⟩
theorem nx_bd {T : Int → Int} {N p : Nat} (hp : p ≤ N) : p ≤ nxF T N p ∧ nxF T N p ≤ N ∧ (kdF T N p ≠ 0 → p < nxF T N p) := by
  have h0 := @kdF_0 T N p
  unfold nxF
  split
  · rename_i q; refine ⟨by omega, ?_, fun _ => by omega⟩
    have : ¬ N ≤ p := fun w => by rw [h0.mpr w] at q; omega
    omega
  · split
    · rename_i q; exact ⟨by omega, hp, fun w => absurd q w⟩
    · rename_i q
      have hlt : p < N := by have : ¬ N ≤ p := fun w => q (h0.mpr w); omega
      have b := enF_bd (T := T) (k := kdF T N p) (N - p) p hp
      refine ⟨b.1, b.2, fun _ => ?_⟩
      obtain ⟨f, hf⟩ : ∃ f, N - p = f + 1 := ⟨N - p - 1, by omega⟩
      rw [hf, enF, if_pos ⟨hlt, (kdF_in hlt).symm⟩]
      have := enF_bd (T := T) (N := N) (k := kdF T N p) f (p + 1) (by omega)
      omega
/-- where the next one begins -/
def avF (T : Int → Int) (N p : Nat) : Nat := sk T N (nxF T N p)
theorem av_bd {T : Int → Int} {N p : Nat} (hp : p ≤ N) : nxF T N p ≤ avF T N p ∧ avF T N p ≤ N ∧ (kdF T N p ≠ 0 → p < avF T N p) := by
  have a := nx_bd (T := T) hp
  have b := sk_bd (T := T) (N - nxF T N p) (nxF T N p) rfl a.2.1
  unfold avF
  exact ⟨b.1, b.2, fun q => by have := a.2.2 q; omega⟩
/-- the last word or number ended here -/
def edF (T : Int → Int) (N p : Nat) (e : Int) : Int := if kdF T N p = 3 then e else nxF T N p
/-- the class looks at what begins at p -/
def TOK (T : Int → Int) (N : Nat) (φ : aF) (p : Nat) (e : Int) : Prop :=
  φ 8 5 186 = p ∧ φ 8 2 186 = (if (kdF T N p = 1 ∨ kdF T N p = 2) ∧ e = p then 4 else kdF T N p) ∧ φ 8 3 186 = wdF T N p ∧ φ 8 4 186 = vlF T N p ∧ φ 8 6 186 = nxF T N p
def TX (T : Int → Int) (N : Nat) (φ : aF) (α : aA) : Prop :=
  N ≤ 1600 ∧ φ 6 1 1 = N ∧ (∀ i : Nat, i < N → α 2 (i : Int) = T i ∧ 0 ≤ T i ∧ T i ≤ 255) ∧ ∀ k : Nat, k < 30 → α 187 (k : Int) = pkw (wdl.getD k [])
def f8 (φ φ' : aF) : Prop := ∀ c f o, c ≠ 8 → φ' c f o = φ c f o
section LX
variable {d N p : Nat} {φ φ' φ0 : aF} {α : aA} {Q : Int → aF → aA → Prop} {x1 x2 v e : Int} {T : Int → Int}
theorem f8_u {f : Nat} {o : Int} (h : f8 φ0 φ) : f8 φ0 (upf φ 8 f o v) := fun c g o' q => by rw [upf_o (Or.inl q)]; exact h c g o' q
theorem TX_8 (h : f8 φ φ') (X : TX T N φ α) : TX T N φ' α := ⟨X.1, by rw [h _ _ _ (by omega)]; exact X.2.1, X.2.2⟩
theorem c_kindOf {c : Int} (hc : c = -1 ∨ 0 ≤ c) (h : Q (if c = -1 then 0 else kdB c) φ α) : eX8_kindOf d c φ α Q := by
  have k1 : ∀ w, (w = if c = -1 then 0 else kdB c) → Q w φ α := fun w hw => by rw [hw]; exact h
  have b := kdB_bd c
  refine vX8_kindOf_0 ⟨fun q => ⟨fun q2 => ⟨fun q3 => k1 _ ?_, fun q3 => k1 _ ?_⟩, fun q2 => ⟨fun q3 => ⟨fun q4 => k1 _ ?_, fun q4 => k1 _ ?_⟩, fun q3 => k1 _ ?_⟩⟩, fun q => ⟨fun q2 => ⟨fun q3 => ⟨fun q4 => k1 _ ?_, fun q4 => k1 _ ?_⟩, fun q3 => ⟨fun q4 => ⟨fun q5 => k1 _ ?_, fun q5 => k1 _ ?_⟩, fun q4 => k1 _ ?_⟩⟩, fun q2 => k1 _ ?_⟩⟩ <;> split <;> omega
theorem l_findW {v : Int} (hw : ∀ k : Nat, k < 30 → α 187 (k : Int) = pkw (wdl.getD k [])) (h4 : φ 8 4 186 = v) (h2 : φ 8 2 186 = 1) (hl : 0 ≤ φ 8 6 186 - φ 8 5 186 ∧ φ 8 6 186 - φ 8 5 186 ≤ 6) : ∀ (r k : Nat), k + r = 30 → Q (fsF (fun k => pkw (wdl.getD k []) = v) r k) φ α → jX8_findWord_2 d k φ α Q
  | 0, k, hk, h => vX8_findWord_2 ⟨fun _ => h, fun q => by omega⟩
  | r + 1, k, hk, h => by
    refine vX8_findWord_2 ⟨fun q => by omega, fun _ => ⟨fun q => absurd h2 q, fun _ => ⟨by unfold inR; omega, fun q => by omega, fun _ => ⟨by omega, ?_⟩⟩⟩⟩
    rw [hw k (by omega), h4]
    rw [fsF] at h
    refine ⟨fun q => ⟨by unfold inR; omega, ?_⟩, fun q => ?_⟩
    · rw [if_neg q] at h
      have := l_findW hw h4 h2 hl r (k + 1) (by omega) h
      rw [show ((k + 1 : Nat) : Int) = (k : Int) + 1 by omega] at this
      exact this
    · rw [if_pos q] at h
      exact h
theorem c_findWord (X : TX T N φ α) (hp : p ≤ N) (h2 : φ 8 2 186 = kdF T N p) (h4 : φ 8 4 186 = vlF T N p) (h5 : φ 8 5 186 = p) (h6 : φ 8 6 186 = nxF T N p) (h : Q (wdF T N p) φ α) : eX8_findWord d φ α Q := by
  have nb := nx_bd (T := T) hp
  have hN := X.1
  refine vX8_findWord_0 ?_
  by_cases e1 : kdF T N p = 1
  · by_cases e2 : nxF T N p - p ≤ 6
    · unfold wdF at h
      rw [if_pos ⟨e1, e2⟩] at h
      have := l_findW (d := d) (Q := Q) X.2.2.2 h4 (h2.trans e1) (by omega) 30 0 rfl h
      exact this
    · unfold wdF at h
      rw [if_neg (fun w => e2 w.2)] at h
      exact vX8_findWord_2 ⟨fun _ => h, fun _ => ⟨fun _ => h, fun _ => ⟨by unfold inR; omega, fun _ => h, fun q => by omega⟩⟩⟩
  · unfold wdF at h
    rw [if_neg (fun w => e1 w.1)] at h
    exact vX8_findWord_2 ⟨fun _ => h, fun _ => ⟨fun _ => h, fun q => absurd (h2.symm.trans q) e1⟩⟩
/-- the last steps of a scan -/
theorem sc_fin (X : TX T N φ α) (hp : p ≤ N) (h2 : φ 8 2 186 = kdF T N p) (h4 : φ 8 4 186 = vlF T N p) (h5 : φ 8 5 186 = p) (h6 : φ 8 6 186 = nxF T N p) (he : x2 = 0 ∧ e ≠ p ∨ x2 = 1 ∧ (e = p ↔ (p : Int) = x1)) (h : ∀ φ', f8 φ φ' → TOK T N φ' p e → Q 0 φ' α) : eX8_findWord d φ α (fun r3 φ3 α3 => ((x2 = 0 → (Q 0 (upf φ3 8 3 186 r3) α3)) ∧ (¬ (x2 = 0) → ((¬ (φ3 8 5 186) = x1 → (Q 0 (upf φ3 8 3 186 r3) α3)) ∧ ((φ3 8 5 186) = x1 → (((φ3 8 2 186) = 1 → (Q 0 (upf (upf φ3 8 3 186 r3) 8 2 186 4) α3)) ∧ (¬ ((φ3 8 2 186) = 1) → ((¬ (φ3 8 2 186) = 2 → (Q 0 (upf φ3 8 3 186 r3) α3)) ∧ ((φ3 8 2 186) = 2 → (Q 0 (upf (upf φ3 8 3 186 r3) 8 2 186 4) α3)))))))))) := by
  refine c_findWord X hp h2 h4 h5 h6 ?_
  have no : ¬ ((kdF T N p = 1 ∨ kdF T N p = 2) ∧ e = p) → Q 0 (upf φ 8 3 186 (wdF T N p)) α := fun w => h _ (f8_u (fun _ _ _ _ => rfl)) ⟨by rw [upf_o (by omega)]; exact h5, by rw [upf_o (by omega), if_neg w]; exact h2, upf_s, by rw [upf_o (by omega)]; exact h4, by rw [upf_o (by omega)]; exact h6⟩
  have yes : ((kdF T N p = 1 ∨ kdF T N p = 2) ∧ e = p) → Q 0 (upf (upf φ 8 3 186 (wdF T N p)) 8 2 186 4) α := fun w => h _ (f8_u (f8_u (fun _ _ _ _ => rfl))) ⟨by rw [upf_o (by omega), upf_o (by omega)]; exact h5, by rw [upf_s, if_pos w], by rw [upf_o (by omega), upf_s], by rw [upf_o (by omega), upf_o (by omega)]; exact h4, by rw [upf_o (by omega), upf_o (by omega)]; exact h6⟩
  rw [h5, h2]
  refine ⟨fun q => no (fun w => by omega), fun q => ⟨fun q2 => no (fun w => by omega), fun q2 => ⟨fun q3 => yes (by omega), fun q3 => ⟨fun q4 => no (fun w => by omega), fun q4 => yes (by omega)⟩⟩⟩⟩
theorem vw_bd {m : Nat} (h : ∀ i : Nat, i < m → 97 ≤ T ((p + i : Nat) : Int) ∧ T ((p + i : Nat) : Int) ≤ 122) : 0 ≤ vwF T p m ∧ vwF T p m < ((27 ^ m : Nat) : Int) := by
  induction m with
  | zero => simp [vwF]
  | succ m ih =>
    have := ih (fun i hi => h i (by omega))
    have hm := h m (by omega)
    rw [vwF, Nat.pow_succ]
    omega
theorem vn_bd {m : Nat} (h : ∀ i : Nat, i < m → 48 ≤ T ((p + i : Nat) : Int) ∧ T ((p + i : Nat) : Int) ≤ 57) : 0 ≤ vnF T p m ∧ vnF T p m < ((10 ^ m : Nat) : Int) := by
  induction m with
  | zero => simp [vnF]
  | succ m ih =>
    have := ih (fun i hi => h i (by omega))
    have hm := h m (by omega)
    rw [vnF, Nat.pow_succ]
    omega
theorem nx_en (h : kdF T N p = 1 ∨ kdF T N p = 2) : nxF T N p = enF T N (kdF T N p) (N - p) p := by
  unfold nxF
  rw [if_neg (by omega), if_neg (by omega)]
/-- the run of letters, or digits, from p on -/
theorem nx_all (h : kdF T N p = 1 ∨ kdF T N p = 2) : (∀ i : Nat, p ≤ i → i < nxF T N p → i < N ∧ kdB (T i) = kdF T N p) ∧ ¬ (nxF T N p < N ∧ kdB (T (nxF T N p)) = kdF T N p) := by
  rw [nx_en h]
  exact enF_all (N - p) p rfl
theorem l_sc102 (X : TX T N φ0 α) (hp : p ≤ N) (he : x2 = 0 ∧ e ≠ p ∨ x2 = 1 ∧ (e = p ↔ (p : Int) = x1)) (hk : kdF T N p = 1 ∨ kdF T N p = 2) (h : ∀ φ', f8 φ0 φ' → TOK T N φ' p e → Q 0 φ' α) : ∀ (r m : Nat), p + m + r = nxF T N p → ∀ (φ : aF), f8 φ0 φ → φ 8 2 186 = kdF T N p → φ 8 5 186 = p → φ 8 6 186 = ((p + m : Nat) : Int) → φ 8 4 186 = (if kdF T N p = 1 then vwF T p (min 6 m) else vnF T p (min 4 m)) → jX8_scan_102 (d + 1) x1 x2 φ α Q
  | 0, m, hm, φ, f, h2, h5, h6, h4 => by
    obtain ⟨a1, a2⟩ := nx_all hk
    have Xp := TX_8 f X
    have hs := Xp.2.1
    have hN := X.1
    have nb := nx_bd (T := T) hp
    have h4' : φ 8 4 186 = vlF T N p := by
      rw [h4]
      unfold vlF
      rw [show nxF T N p - p = m by omega]
      rcases hk with q | q
      · rw [if_pos q, if_pos q]
      · rw [if_neg (by omega), if_neg (by omega), if_pos q]
    have h6' : φ 8 6 186 = nxF T N p := by rw [h6, show p + m = nxF T N p by omega]
    have fin := sc_fin (d := d) (Q := Q) (e := e) (x1 := x1) (x2 := x2) Xp hp h2 h4' h5 h6' he (fun φ' f' t' => h φ' (fun c g o q => (f' c g o q).trans (f c g o q)) t')
    refine vX8_scan_102 ⟨fun q => ⟨fun _ => fin, fun q3 => by omega⟩, fun q => c_at row1 (by omega) (by omega) ?_⟩
    have t := Xp.2.2.1 (nxF T N p) (by omega)
    rw [show α (1 + 1) (φ 8 6 186) = T (nxF T N p) by rw [h6']; exact t.1]
    refine c_kindOf (Or.inr t.2.1) ?_
    rw [if_neg (by omega)]
    exact ⟨fun _ => ⟨fun _ => fin, fun q3 => by omega⟩, fun q2 => absurd ⟨by omega, q2.trans h2⟩ a2⟩
  | r + 1, m, hm, φ, f, h2, h5, h6, h4 => by
    obtain ⟨a1, a2⟩ := nx_all hk
    have Xp := TX_8 f X
    have hs := Xp.2.1
    have hN := X.1
    have nb := nx_bd (T := T) hp
    have k := a1 (p + m) (by omega) (by omega)
    have t := Xp.2.2.1 (p + m) k.1
    have bd := kdB_bd (T ((p + m : Nat) : Int))
    have at_ : ∀ (Q' : Int → aF → aA → Prop), Q' (T ((p + m : Nat) : Int)) φ α → eX6_at d 1 (φ 8 6 186) φ α Q' := fun Q' hq => c_at row1 (by omega) (by omega) (by rw [show α (1 + 1) (φ 8 6 186) = T ((p + m : Nat) : Int) by rw [h6]; exact t.1]; exact hq)
    have nx : ∀ φ', f8 φ0 φ' → φ' 8 2 186 = kdF T N p → φ' 8 5 186 = p → φ' 8 6 186 = ((p + (m + 1) : Nat) : Int) → φ' 8 4 186 = (if kdF T N p = 1 then vwF T p (min 6 (m + 1)) else vnF T p (min 4 (m + 1))) → jX8_scan_102 (d + 1) x1 x2 φ' α Q := fun φ' f' h2' h5' h6' h4' => l_sc102 X hp he hk h r (m + 1) (by omega) φ' f' h2' h5' h6' h4'
    have keep : (kdF T N p = 1 → 6 ≤ m) → (kdF T N p = 2 → 4 ≤ m) → jX8_scan_102 (d + 1) x1 x2 (upf φ 8 6 186 (φ 8 6 186 + 1)) α Q := fun g1 g2 => nx _ (f8_u f) (by rw [upf_o (by omega)]; exact h2) (by rw [upf_o (by omega)]; exact h5) (by rw [upf_s, h6]; omega) (by
      rw [upf_o (by omega), h4]
      rcases hk with q | q
      · have := g1 q
        rw [if_pos q, if_pos q, show min 6 (m + 1) = min 6 m by omega]
      · have := g2 q
        rw [if_neg (by omega), if_neg (by omega), show min 4 (m + 1) = min 4 m by omega])
    refine vX8_scan_102 ⟨fun q => by omega, fun _ => at_ _ (c_kindOf (Or.inr t.2.1) ?_)⟩
    rw [if_neg (by omega), k.2]
    refine ⟨fun q => absurd h2.symm q, fun _ => ⟨fun q => by omega, fun _ => ⟨fun q1 => ⟨fun q2 => by omega, fun q2 => ⟨by unfold inR; omega, fun q3 => ⟨by unfold inR; omega, keep (by omega) (by omega)⟩, fun q3 => ?_⟩⟩, fun q1 => ⟨by unfold inR; omega, fun q3 => ⟨fun q2 => ⟨by unfold inR; omega, keep (by omega) (by omega)⟩, fun q2 => by omega⟩, fun q3 => ?_⟩⟩⟩⟩
    · have e2 : kdF T N p = 2 := by omega
      have vb := vn_bd (T := T) (p := p) (m := m) (fun i hi => by
        have k' := a1 (p + i) (by omega) (by omega)
        have b' := kdB_bd (T ((p + i : Nat) : Int))
        omega)
      have m3 : m ≤ 3 := by omega
      have p4 : (10 : Nat) ^ m ≤ 10 ^ 3 := Nat.pow_le_pow_right (by omega) m3
      have v4 : φ 8 4 186 = vnF T p m := by rw [h4, if_neg (by omega), show min 4 m = m by omega]
      refine ⟨by rw [v4]; unfold inR; omega, at_ _ ⟨by rw [v4]; unfold inR; omega, by rw [v4]; unfold inR; omega, by unfold inR; omega, nx _ (f8_u (f8_u f)) (by rw [upf_o (by omega), upf_o (by omega)]; exact h2) (by rw [upf_o (by omega), upf_o (by omega)]; exact h5) (by rw [upf_s, h6]; omega) ?_⟩⟩
      rw [upf_o (by omega), upf_s, v4, if_neg (by omega), show min 4 (m + 1) = m + 1 by omega, vnF]
    · have e2 : kdF T N p = 1 := by omega
      have vb := vw_bd (T := T) (p := p) (m := m) (fun i hi => by
        have k' := a1 (p + i) (by omega) (by omega)
        have b' := kdB_bd (T ((p + i : Nat) : Int))
        omega)
      have m3 : m ≤ 5 := by omega
      have p4 : (27 : Nat) ^ m ≤ 27 ^ 5 := Nat.pow_le_pow_right (by omega) m3
      have v4 : φ 8 4 186 = vwF T p m := by rw [h4, if_pos e2, show min 6 m = m by omega]
      refine ⟨by rw [v4]; unfold inR; omega, at_ _ ⟨by rw [v4]; unfold inR; omega, by rw [v4]; unfold inR; omega, by rw [v4]; unfold inR; omega, by unfold inR; omega, nx _ (f8_u (f8_u f)) (by rw [upf_o (by omega), upf_o (by omega)]; exact h2) (by rw [upf_o (by omega), upf_o (by omega)]; exact h5) (by rw [upf_s, h6]; omega) ?_⟩⟩
      rw [upf_o (by omega), upf_s, v4, if_pos e2, show min 6 (m + 1) = m + 1 by omega, vwF]
/-- a scan, behind the blanks -/
theorem c_sc102 (X : TX T N φ α) (hp : p ≤ N) (he : x2 = 0 ∧ e ≠ p ∨ x2 = 1 ∧ (e = p ↔ (p : Int) = x1)) (h2 : φ 8 2 186 = kdF T N p) (h5 : φ 8 5 186 = p) (h6 : φ 8 6 186 = p) (h4 : φ 8 4 186 = 0) (h : ∀ φ', f8 φ φ' → TOK T N φ' p e → Q 0 φ' α) : jX8_scan_102 (d + 1) x1 x2 φ α Q := by
  have hs := X.2.1
  have hN := X.1
  have nb := nx_bd (T := T) hp
  rcases @kdF_c T N p with k | k | k | k
  · have hge := kdF_0.mp k
    have vl : vlF T N p = 0 := by unfold vlF; rw [if_neg (by omega), if_neg (by omega), if_neg (by omega)]
    have nx : nxF T N p = p := by unfold nxF; rw [if_neg (by omega), if_pos k]
    have fin := sc_fin (d := d) (Q := Q) (e := e) (x1 := x1) (x2 := x2) X hp h2 (h4.trans vl.symm) h5 (by rw [nx]; exact h6) he h
    exact vX8_scan_102 ⟨fun q => ⟨fun _ => fin, fun q3 => by omega⟩, fun q => by omega⟩
  · exact l_sc102 X hp he (Or.inl k) h (nxF T N p - p) 0 (by omega) φ (fun _ _ _ _ => rfl) h2 h5 h6 (by rw [h4, if_pos k]; rfl)
  · exact l_sc102 X hp he (Or.inr k) h (nxF T N p - p) 0 (by omega) φ (fun _ _ _ _ => rfl) h2 h5 h6 (by rw [h4, if_neg (by omega)]; rfl)
  · have hlt : p < N := by
      have : ¬ N ≤ p := fun w => by rw [kdF_0.mpr w] at k; omega
      omega
    have vl : vlF T N p = T p := by unfold vlF; rw [if_neg (by omega), if_neg (by omega), if_pos k]
    have nx : nxF T N p = p + 1 := by unfold nxF; rw [if_pos k]
    have t := X.2.2.1 p hlt
    have fin := sc_fin (d := d) (Q := Q) (e := e) (x1 := x1) (x2 := x2) (φ := upf (upf φ 8 4 186 (T p)) 8 6 186 (φ 8 6 186 + 1)) (TX_8 (f8_u (f8_u (fun _ _ _ _ => rfl))) X) hp (by rw [upf_o (by omega), upf_o (by omega)]; exact h2) (by rw [upf_o (by omega), upf_s]; exact vl.symm) (by rw [upf_o (by omega), upf_o (by omega)]; exact h5) (by rw [upf_s, h6, nx]; omega) he (fun φ' f' t' => h φ' (fun c g o q => (f' c g o q).trans (f8_u (f8_u (fun _ _ _ _ => rfl)) c g o q)) t')
    refine vX8_scan_102 ⟨fun q => by omega, fun _ => c_at row1 (by omega) (by omega) ?_⟩
    rw [show α (1 + 1) (φ 8 6 186) = T p by rw [h6]; exact t.1]
    refine c_kindOf (Or.inr t.2.1) ?_
    rw [if_neg (by omega), ← kdF_in hlt]
    refine ⟨fun q => absurd h2.symm q, fun _ => ⟨fun _ => c_at row1 (by omega) (by omega) ⟨by unfold inR; omega, ?_⟩, fun q => by omega⟩⟩
    rw [show α (1 + 1) (φ 8 5 186) = T p by rw [h5]; exact t.1]
    exact fin
theorem l_sc27 (X : TX T N φ0 α) (h : ∀ φ', f8 φ0 φ' → TOK T N φ' (sk T N p) e → Q 0 φ' α) (he : x2 = 0 ∧ e ≠ (sk T N p : Int) ∨ x2 = 1 ∧ (e = (sk T N p : Int) ↔ ((sk T N p : Nat) : Int) = x1)) : ∀ (r q : Nat), r = N - q → q ≤ N → sk T N q = sk T N p → ∀ (φ : aF), f8 φ0 φ → φ 8 6 186 = q → jX8_scan_27 (d + 1) x1 x2 φ α Q := by
  intro r
  induction r with
  | zero =>
    intro q hr hq hsk φ f h6
    have Xp := TX_8 f X
    have hs := Xp.2.1
    have hN := X.1
    have e1 : q = sk T N p := by rw [← hsk, sk_n (by omega)]
    rw [← e1] at h he
    have k0 : kdF T N q = 0 := kdF_0.mpr (by omega)
    refine vX8_scan_27 ⟨fun _ => c_at0 row1 (by rw [upf_o (by omega)]; omega) (c_kindOf (Or.inl rfl) ?_), fun w => by omega⟩
    rw [if_pos rfl]
    exact c_sc102 (p := q) (TX_8 (f8_u (f8_u (f8_u f))) X) hq he (by rw [upf_o (by omega), upf_s, k0]) (by rw [upf_o (by omega), upf_o (by omega), upf_s, h6]) (by rw [upf_o (by omega), upf_o (by omega), upf_o (by omega), h6]) upf_s (fun φ' f' t' => h φ' (fun c g o w => (f' c g o w).trans (f8_u (f8_u (f8_u f)) c g o w)) t')
  | succ r ih =>
    intro q hr hq hsk φ f h6
    have Xp := TX_8 f X
    have hs := Xp.2.1
    have hN := X.1
    have t := Xp.2.2.1 q (by omega)
    refine vX8_scan_27 ⟨fun w => by omega, fun _ => c_at row1 (by omega) (by omega) ?_⟩
    rw [show α (1 + 1) (φ 8 6 186) = T q by rw [h6]; exact t.1]
    have go : ¬ (T q = 32 ∨ T q = 10) → eX6_at d 1 (φ 8 6 186) (upf φ 8 5 186 (φ 8 6 186)) α (fun r7 φ7 α7 => (eX8_kindOf d r7 φ7 α7 (fun r8 φ8 α8 => (jX8_scan_102 (d + 1) x1 x2 (upf (upf φ8 8 2 186 r8) 8 4 186 0) α8 Q)))) := fun nb => by
      have e1 : q = sk T N p := by rw [← hsk, sk_n (fun w => nb w.2)]
      rw [← e1] at h he
      refine c_at row1 (by rw [upf_o (by omega)]; omega) (by rw [upf_o (by omega)]; omega) ?_
      rw [show α (1 + 1) (φ 8 6 186) = T q by rw [h6]; exact t.1]
      refine c_kindOf (Or.inr t.2.1) ?_
      rw [if_neg (by omega), ← kdF_in (show q < N by omega)]
      exact c_sc102 (p := q) (TX_8 (f8_u (f8_u (f8_u f))) X) hq he (by rw [upf_o (by omega), upf_s]) (by rw [upf_o (by omega), upf_o (by omega), upf_s, h6]) (by rw [upf_o (by omega), upf_o (by omega), upf_o (by omega), h6]) upf_s (fun φ' f' t' => h φ' (fun c g o w => (f' c g o w).trans (f8_u (f8_u (f8_u f)) c g o w)) t')
    have on : (T q = 32 ∨ T q = 10) → inR (φ 8 6 186 + 1) ∧ jX8_scan_27 (d + 1) x1 x2 (upf φ 8 6 186 (φ 8 6 186 + 1)) α Q := fun yb => ⟨by unfold inR; omega, ih (q + 1) (by omega) (by omega) (by rw [← hsk, sk_y ⟨by omega, yb⟩]) _ (f8_u f) (by rw [upf_s, h6]; omega)⟩
    exact vX8_isBlank_0 ⟨fun w => ⟨fun z => by omega, fun _ => on (Or.inl w)⟩, fun w => ⟨fun w2 => ⟨fun _ => go (by omega), fun z => absurd rfl z⟩, fun w2 => ⟨fun z => by omega, fun _ => on (Or.inr w2)⟩⟩⟩
/-- the next word, number or sign is looked at -/
theorem c_scan (X : TX T N φ α) (hp : p ≤ N) (t : TOK T N φ p e) (hk : kdF T N p ≠ 0) (hg : (kdF T N p = 1 ∨ kdF T N p = 2) → e ≠ p) (he : e ≤ p) (h : ∀ φ', f8 φ φ' → TOK T N φ' (avF T N p) (edF T N p e) → Q 0 φ' α) : eX8_scan (d + 1) φ α Q := by
  obtain ⟨t1, t2, t3, t4, t5⟩ := t
  have nb := nx_bd (T := T) hp
  have ab := av_bd (T := T) hp
  have kc := @kdF_c T N p
  rw [if_neg (fun w => hg w.1 w.2)] at t2
  unfold avF at h ab
  have l := fun x2 hx => l_sc27 (d := d) (Q := Q) (φ0 := φ) (p := nxF T N p) (e := edF T N p e) (x1 := φ 8 6 186) (x2 := x2) X h hx (N - nxF T N p) (nxF T N p) rfl nb.2.1 rfl φ (fun _ _ _ _ => rfl) t5
  have nbp := nb.2.2 hk
  refine vX8_scan_0 ⟨fun q => l 1 (Or.inr ⟨rfl, ?_⟩), fun q => ⟨fun q2 => l 0 (Or.inl ⟨rfl, ?_⟩), fun q2 => l 1 (Or.inr ⟨rfl, ?_⟩)⟩⟩
  · unfold edF; rw [if_neg (by omega), t5]; exact ⟨fun w => w.symm, fun w => w.symm⟩
  · unfold edF; rw [if_pos (by omega)]; omega
  · unfold edF; rw [if_neg (by omega), t5]; exact ⟨fun w => w.symm, fun w => w.symm⟩
theorem c_tbegin (X : TX T N φ α) (h : ∀ φ', f8 φ φ' → TOK T N φ' (sk T N 0) (-1) → Q 0 φ' α) : eX8_begin (d + 2) φ α Q := by
  refine vX8_begin_0 (vX8_scan_0 ⟨fun q => ?_, fun q => ⟨fun q2 => ?_, fun q2 => ?_⟩⟩)
  · rw [upf_o (by omega), upf_s] at q; omega
  · rw [upf_s]
    exact l_sc27 (d := d) (Q := fun r1 φ1 α1 => Q 0 φ1 α1) (φ0 := φ) (p := 0) (e := -1) (x1 := 0) (x2 := 0) X h (Or.inl ⟨rfl, by omega⟩) (N - 0) 0 rfl (by omega) rfl (upf (upf φ 8 2 186 3) 8 6 186 0) (f8_u (f8_u (fun _ _ _ _ => rfl))) upf_s
  · rw [upf_o (by omega), upf_s] at q2; omega
end LX
