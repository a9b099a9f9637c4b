def un (nw : Int → Int) (i v : Int) : Int → Int := fun j => if j = i then v else nw j
theorem un_s {nw : Int → Int} {i v : Int} : un nw i v i = v := by unfold un; rw [if_pos rfl]
theorem un_o {nw : Int → Int} {i v j : Int} (h : j ≠ i) : un nw i v j = nw j := by unfold un; rw [if_neg h]
section C3
variable {d : Nat} {φ : aF} {α : aA} {Q : Int → aF → aA → Prop} {b x y c m k v s p : Int} {n M ns : Nat} {nw rm : Int → Int}
theorem fullF_un_o {i : Int} (h : i < 2 + 5 * c ∨ 5 + 5 * c < i) : fullF (un nw i v) c = fullF nw c := by
  unfold fullF
  rw [un_o (by omega), un_o (by omega), un_o (by omega), un_o (by omega)]
theorem fullF_un {m : Int} (h : 0 ≤ m ∧ m < 4) : fullF (un nw (2 + 5 * c + m) v) c = fullF nw c - nw (2 + 5 * c + m) + v := by
  unfold fullF un
  rcases (show m = 0 ∨ m = 1 ∨ m = 2 ∨ m = 3 by omega) with rfl | rfl | rfl | rfl
  · simp only [Int.add_zero, if_true]
    rw [if_neg (by omega), if_neg (by omega), if_neg (by omega)]; omega
  · rw [show (2 : Int) + 5 * c + 1 = 3 + 5 * c by omega]
    simp only [if_true]
    rw [if_neg (by omega), if_neg (by omega), if_neg (by omega)]; omega
  · rw [show (2 : Int) + 5 * c + 2 = 4 + 5 * c by omega]
    simp only [if_true]
    rw [if_neg (by omega), if_neg (by omega), if_neg (by omega)]; omega
  · rw [show (2 : Int) + 5 * c + 3 = 5 + 5 * c by omega]
    simp only [if_true]
    rw [if_neg (by omega), if_neg (by omega), if_neg (by omega)]; omega
theorem XS_gain (X : XS b φ α n nw) (h1 : 0 ≤ c ∧ c < 7) (h2 : 0 ≤ m ∧ m < 4) : XS b (upf φ 7 9 b 0) (upa (upa α (b + 3) (c * 4 + m) (nw (2 + 5 * c + m) + v)) (b + 4) c (fullF nw c + v)) n (un nw (2 + 5 * c + m) (nw (2 + 5 * c + m) + v)) := by
  obtain ⟨x1, x2, x3, x4, x5, x6⟩ := X
  refine ⟨?_, ?_, ?_, ?_, ?_, ?_⟩
  · rw [upf_o (by omega), un_o (by omega)]; exact x1
  · intro c' q1 q2
    rw [upa_fn (by omega), upa_fn (by omega), un_o (by omega)]; exact x2 c' q1 q2
  · intro s q1 q2
    rw [upa_fn (by omega), upa_fn (by omega), x3 s q1 q2]
    exact (sitF_ext (fun c' _ => un_o (by omega))).symm
  · intro c' m' q1 q2 q3 q4
    rw [upa_fn (by omega)]
    by_cases e : c' = c ∧ m' = m
    · obtain ⟨rfl, rfl⟩ := e
      rw [upa_eq, un_s]
    · rw [upa_ni (by omega), un_o (by omega)]; exact x4 c' m' q1 q2 q3 q4
  · intro c' q1 q2
    by_cases e : c' = c
    · subst e
      rw [upa_eq, fullF_un h2]; omega
    · rw [upa_ni e, upa_fn (by omega), fullF_un_o (by omega)]; exact x5 c' q1 q2
  · intro p' m' q1 q2 q3 q4
    rw [upa_fn (by omega), upa_fn (by omega), un_o (by omega)]; exact x6 p' m' q1 q2 q3 q4
theorem fr_f {b v : Int} {φ : aF} {α : aA} {f : Nat} (hf : f = 0 ∨ f = 9 ∨ f = 10) : fr b φ α (upf φ 7 f b v) α := by
  refine ⟨fun c' f' o' q => upf_o ?_, fun _ _ _ => rfl⟩
  by_cases h1 : c' = 7
  · by_cases h2 : o' = b
    · refine Or.inr (Or.inl fun h3 => q ⟨h1, h2, ?_⟩)
      rw [h3]; exact hf
    · exact Or.inr (Or.inr h2)
  · exact Or.inl h1
theorem fr_a {b a i v : Int} {φ : aF} {α : aA} (ha : (b < a ∧ a < b + 6) ∨ a = 189) : fr b φ α φ (upa α a i v) := ⟨fun _ _ _ _ => rfl, fun a' q1 q2 => upa_fn (by omega)⟩
theorem fr_rg {b a i j : Int} {φ : aF} {α : aA} {f : Int → Int} (ha : (b < a ∧ a < b + 6) ∨ a = 189) : fr b φ α φ (rg α a i j f) := ⟨fun _ _ _ _ => rfl, fun a' q1 q2 => rg_ne (by omega)⟩
theorem c_gain (hb : isSt b) (X : XS b φ α n nw) (h1 : 0 ≤ c ∧ c < 7) (h2 : 0 ≤ m ∧ m < 4) (hr1 : inR (nw (2 + 5 * c + m) + v)) (hr2 : inR (fullF nw c + v)) (h : ∀ φ' α', XS b φ' α' n (un nw (2 + 5 * c + m) (nw (2 + 5 * c + m) + v)) → fr b φ α φ' α' → φ' 7 9 b = 0 → φ' 7 10 b = φ 7 10 b → Q 0 φ' α') : eX7_gain (d + 1) b c m v φ α Q := by
  have e1 := X.2.2.2.1 c m h1.1 h1.2 h2.1 h2.2
  have e2 := X.2.2.2.2.1 c h1.1 h1.2
  refine vX7_gain_0 hb ⟨by unfold inR; omega, by unfold inR; omega, c_add (st3 hb) ⟨by omega, by omega⟩ (by rw [e1]; exact hr1) ?_⟩
  refine c_add (st4 hb) ⟨by omega, by omega⟩ (by rw [upa_fn (by omega), e2]; exact hr2) ?_
  rw [upa_fn (show b + 4 ≠ b + 3 by omega), e1, e2]
  exact h _ _ (XS_gain X h1 h2) (((fr_a (by omega)).tr (fr_a (by omega))).tr (fr_f (Or.inr (Or.inl rfl)))) upf_s (upf_o (by omega))
theorem XS_pool (hn : n ≤ 7) (X : XS b φ α n nw) (h1 : 0 ≤ p ∧ p < 3) (h2 : 0 ≤ m ∧ m < 4) : XS b φ (upa α (b + 5) (p * 4 + m) v) n (un nw (36 + 3 * m + p) v) := by
  obtain ⟨x1, x2, x3, x4, x5, x6⟩ := X
  refine ⟨?_, ?_, ?_, ?_, ?_, ?_⟩
  · rw [un_o (by omega)]; exact x1
  · intro c' q1 q2
    rw [upa_fn (by omega), un_o (by omega)]; exact x2 c' q1 q2
  · intro s q1 q2
    rw [upa_fn (by omega), x3 s q1 q2]
    exact (sitF_ext (fun c' _ => un_o (by omega))).symm
  · intro c' m' q1 q2 q3 q4
    rw [upa_fn (by omega), un_o (by omega)]; exact x4 c' m' q1 q2 q3 q4
  · intro c' q1 q2
    rw [upa_fn (by omega), fullF_un_o (by omega)]; exact x5 c' q1 q2
  · intro p' m' q1 q2 q3 q4
    by_cases e : p' = p ∧ m' = m
    · obtain ⟨rfl, rfl⟩ := e
      rw [upa_eq, un_s]
    · rw [upa_ni (by omega), un_o (by omega)]; exact x6 p' m' q1 q2 q3 q4
theorem c_addToPool (hb : isSt b) (hn : n ≤ 7) (X : XS b φ α n nw) (h1 : 0 ≤ p ∧ p < 3) (h2 : 0 ≤ m ∧ m < 4) (hr : inR (nw (36 + 3 * m + p) + v)) (h : ∀ α', XS b φ α' n (un nw (36 + 3 * m + p) (min 9999 (nw (36 + 3 * m + p) + v))) → fr b φ α φ α' → Q 0 φ α') : eX7_addToPool (d + 2) b p m v φ α Q := by
  refine vX7_addToPool_0 hb (c_poolOf hb X h1 h2 ⟨hr, c_min ⟨by unfold inR; omega, by unfold inR; omega, c_set (st5 hb) ⟨by omega, by omega⟩ ?_⟩⟩)
  exact h _ (XS_pool hn X h1 h2) (fr_a (by omega))
/-- all drops of a clerk go to a pool, the matters below k -/
def emF (nw : Int → Int) (c p : Int) : Nat → (Int → Int)
  | 0 => nw
  | k + 1 => un (un (emF nw c p k) (36 + 3 * (k : Int) + p) (min 9999 (emF nw c p k (36 + 3 * (k : Int) + p) + emF nw c p k (2 + 5 * c + k)))) (2 + 5 * c + k) 0
theorem emF_o {i : Int} (hi : (i < 36 → i < 2 + 5 * c ∨ 5 + 5 * c < i) ∧ (36 ≤ i → ∀ j : Nat, j < 4 → i ≠ 36 + 3 * (j : Int) + p)) (hp : 0 ≤ p ∧ p < 3) (hc : 0 ≤ c ∧ c < 7) : ∀ (k : Nat), k ≤ 4 → emF nw c p k i = nw i
  | 0, _ => rfl
  | k + 1, hk => by
    have h1 : i ≠ 2 + 5 * c + k := by have := hi.1; omega
    have h2 : i ≠ 36 + 3 * (k : Int) + p := by
      by_cases h : i < 36
      · omega
      · exact hi.2 (by omega) k (by omega)
    rw [emF, un_o h1, un_o h2, emF_o hi hp hc k (by omega)]
theorem emF_d (hp : 0 ≤ p ∧ p < 3) (hc : 0 ≤ c ∧ c < 7) : ∀ (k : Nat), k ≤ 4 → ∀ j : Nat, j < 4 → emF nw c p k (2 + 5 * c + j) = if j < k then 0 else nw (2 + 5 * c + j)
  | 0, _, j, hj => by rw [if_neg (by omega)]; rfl
  | k + 1, hk, j, hj => by
    by_cases e : j = k
    · subst e; rw [emF, un_s, if_pos (by omega)]
    · rw [emF, un_o (by omega), un_o (by omega), emF_d hp hc k (by omega) j hj]
      by_cases h : j < k
      · rw [if_pos h, if_pos (by omega)]
      · rw [if_neg h, if_neg (by omega)]
theorem emF_p (hp : 0 ≤ p ∧ p < 3) (hc : 0 ≤ c ∧ c < 7) : ∀ (k : Nat), k ≤ 4 → ∀ j : Nat, j < 4 → emF nw c p k (36 + 3 * (j : Int) + p) = if j < k then min 9999 (nw (36 + 3 * (j : Int) + p) + nw (2 + 5 * c + j)) else nw (36 + 3 * (j : Int) + p)
  | 0, _, j, hj => by rw [if_neg (by omega)]; rfl
  | k + 1, hk, j, hj => by
    by_cases e : j = k
    · subst e
      rw [emF, un_o (by omega), un_s, if_pos (by omega), emF_p hp hc j (by omega) j hj, if_neg (by omega), emF_d hp hc j (by omega) j hj, if_neg (by omega)]
    · rw [emF, un_o (by omega), un_o (by omega), emF_p hp hc k (by omega) j hj]
      by_cases h : j < k
      · rw [if_pos h, if_pos (by omega)]
      · rw [if_neg h, if_neg (by omega)]
theorem emF_full (hp : 0 ≤ p ∧ p < 3) (hc : 0 ≤ c ∧ c < 7) {k : Nat} (hk : k ≤ 4) (hd : ∀ j : Nat, j < 4 → 0 ≤ nw (2 + 5 * c + j) ∧ nw (2 + 5 * c + j) ≤ 99) : 0 ≤ fullF (emF nw c p k) c ∧ fullF (emF nw c p k) c ≤ 396 := by
  have e := fun j hj => emF_d (nw := nw) hp hc k hk j hj
  have e0 := e 0 (by omega); have e1 := e 1 (by omega); have e2 := e 2 (by omega); have e3 := e 3 (by omega)
  have d0 := hd 0 (by omega); have d1 := hd 1 (by omega); have d2 := hd 2 (by omega); have d3 := hd 3 (by omega)
  unfold fullF
  rw [show (2 : Int) + 5 * c = 2 + 5 * c + (0 : Nat) by omega, show (3 : Int) + 5 * c = 2 + 5 * c + (1 : Nat) by omega, show (4 : Int) + 5 * c = 2 + 5 * c + (2 : Nat) by omega, show (5 : Int) + 5 * c = 2 + 5 * c + (3 : Nat) by omega, e0, e1, e2, e3]
  constructor <;> split <;> split <;> split <;> split <;> omega
theorem l_empty (hb : isSt b) (hn : n ≤ 7) (hc : 0 ≤ c ∧ c < 7) (hp : 0 ≤ p ∧ p < 3) (hd : ∀ j : Nat, j < 4 → 0 ≤ nw (2 + 5 * c + j) ∧ nw (2 + 5 * c + j) ≤ 99) (hpl : ∀ j : Nat, j < 4 → 0 ≤ nw (36 + 3 * (j : Int) + p) ∧ nw (36 + 3 * (j : Int) + p) ≤ 9999) : ∀ (r k : Nat), k + r = 4 → ∀ (φ : aF) (α : aA), XS b φ α n (emF nw c p k) → (k = 0 ∨ φ 7 9 b = 0) → (∀ φ' α', XS b φ' α' n (emF nw c p 4) → fr b φ α φ' α' → φ' 7 9 b = 0 → Q x φ' α') → jX7_empty_12 (d + 3) b c p x k φ α Q
  | 0, k, hk, φ, α, X, hs, h => vX7_empty_12 hb ⟨fun q => by
      have e : k = 4 := by omega
      subst e
      exact h φ α X fr.rf (by omega), fun q => by omega⟩
  | r + 1, k, hk, φ, α, X, hs, h => vX7_empty_12 hb ⟨fun q => by omega, fun _ => c_dropsOf hb X hc (by omega) (by
      have e1 := emF_d (nw := nw) hp hc k (by omega) k (by omega)
      have e2 := emF_p (nw := nw) hp hc k (by omega) k (by omega)
      rw [if_neg (by omega)] at e1 e2
      have d1 := hd k (by omega)
      have d2 := hpl k (by omega)
      refine c_addToPool hb hn X hp (by omega) (by rw [e1, e2]; unfold inR; omega) (fun α1 X1 f1 => ?_)
      refine ⟨by rw [e1]; unfold inR; omega, ?_⟩
      have e3 : un (emF nw c p k) (36 + 3 * (k : Int) + p) (min 9999 (emF nw c p k (36 + 3 * (k : Int) + p) + emF nw c p k (2 + 5 * c + k))) (2 + 5 * c + k) = emF nw c p k (2 + 5 * c + k) := un_o (by omega)
      have e4 := emF_full (nw := nw) hp hc (k := k) (by omega) hd
      refine c_gain hb X1 hc (by omega) (by rw [e3]; unfold inR; omega) (by rw [fullF_un_o (by omega), e1]; unfold inR; omega) (fun φ2 α2 X2 f2 s2 _ => ⟨by unfold inR; omega, ?_⟩)
      rw [e3, show emF nw c p k (2 + 5 * c + k) + -emF nw c p k (2 + 5 * c + k) = 0 by omega] at X2
      exact l_empty hb hn hc hp hd hpl r (k + 1) (by omega) φ2 α2 X2 (Or.inr s2) (fun φ' α' X' f' s' => h φ' α' X' ((f1.tr f2).tr f') s'))⟩
/-- a clerk is squeezed or rinsed -/
theorem c_empty (hb : isSt b) (X : XS b φ α n nw) (G : GS n M ns rm nw) (hc : 0 ≤ c ∧ c < 7) (hp : 0 ≤ p ∧ p < 3) (h : ∀ φ' α', XS b φ' α' n (emF nw c p 4) → fr b φ α φ' α' → φ' 7 9 b = 0 → Q (fullF nw c) φ' α') : eX7_empty (d + 3) b c p φ α Q := by
  refine vX7_empty_0 hb (c_pick (st4 hb) ⟨hc.1, by omega⟩ ?_)
  rw [X.2.2.2.2.1 c hc.1 hc.2]
  exact l_empty hb G.2.2.2.2.2.2.1 hc hp (fun j hj => G.drop hc.1 hc.2 (by omega) (by omega)) (fun j hj => ⟨(G.2.2.2.2.2.1 j p (by omega) (by omega) hp.1 hp.2).1, (G.2.2.2.2.2.1 j p (by omega) (by omega) hp.1 hp.2).2.1⟩) 4 0 rfl φ α X (Or.inl rfl) h
end C3
