/-! an image is read -/
def twF (T : Int → Int) (k : Int) : Int := T k * 256 + T (k + 1)
/-- what is read of an image: clerks below k, of clerk k the cells up to m; pools pl; the rest as in A -/
def iwF (T A : Int → Int) (M : Nat) (pl : Int → Int → Int) (k m : Int) : Int → Int := fun i =>
  if i = 0 then twF T 0
  else if 1 ≤ i ∧ i < 36 then (if (i - 1) % 5 ≤ M ∧ ((i - 1) / 5 < k ∨ ((i - 1) / 5 = k ∧ (i - 1) % 5 ≤ m)) then T (2 + (i - 1) / 5 * (1 + (M : Int)) + (i - 1) % 5) else if (i - 1) % 5 = 0 then A i else 0)
  else if 36 ≤ i ∧ i < 48 then pl ((i - 36) % 3) ((i - 36) / 3)
  else if i = 48 then 0 else A i
def fsR (T : Int → Int) (M : Nat) (c : Int) : Nat → Int
  | 0 => 0
  | r + 1 => fsR T M c r + T (2 + c * (1 + (M : Int)) + ((r : Int) + 1))
def okC (T : Int → Int) (M ns : Nat) (rm : Int → Int) (c : Nat) : Prop := T (2 + (c : Int) * (1 + (M : Int))) < ns ∧ fsR T M c M ≤ rm c ∧ ∀ c' : Nat, c' < c → T (2 + (c' : Int) * (1 + (M : Int))) ≠ T (2 + (c : Int) * (1 + (M : Int)))
def okI (T : Int → Int) (n M ns : Nat) (rm : Int → Int) (N : Int) : Prop :=
  N = 2 + (n : Int) * (1 + (M : Int)) + 6 * (M : Int) + 1 ∧ chF T (N - 1).toNat = T (N - 1) ∧ twF T 0 ≤ 999 ∧ (∀ c : Nat, c < n → okC T M ns rm c) ∧ ∀ q : Int, 0 ≤ q → q < 3 * (M : Int) → twF T (2 + (n : Int) * (1 + (M : Int)) + 2 * q) ≤ 9999
theorem nm_bd {M : Nat} (hM : M ≤ 4) {c : Int} (hc : 0 ≤ c ∧ c ≤ 7) : 0 ≤ c * (1 + (M : Int)) ∧ c * (1 + (M : Int)) ≤ 35 := by
  rcases (show M = 0 ∨ M = 1 ∨ M = 2 ∨ M = 3 ∨ M = 4 by omega) with rfl | rfl | rfl | rfl | rfl <;> omega
theorem nm_lt {M : Nat} (hM : M ≤ 4) {c n : Int} (h : c < n) : c * (1 + (M : Int)) + (1 + (M : Int)) ≤ n * (1 + (M : Int)) := by
  rcases (show M = 0 ∨ M = 1 ∨ M = 2 ∨ M = 3 ∨ M = 4 by omega) with rfl | rfl | rfl | rfl | rfl <;> omega
section ON
variable {d j j' : Nat} {φ φ' φ0 φ1 φ2 : aF} {α α' α0 α1 α2 : aA} {Q : Int → aF → aA → Prop} {x y z v s k x1 x2 x3 x4 x5 t c o m : Int} {n M ns : Nat} {rm nw nw' nw0 sr T A : Int → Int} {cs ct : List Int} {pl : Int → Int → Int}
theorem iw_0 : iwF T A M pl k m 0 = twF T 0 := by unfold iwF; rw [if_pos rfl]
theorem iw_s (hc : 0 ≤ c ∧ c < 7) : iwF T A M pl k m (1 + 5 * c) = if c < k ∨ (c = k ∧ 0 ≤ m) then T (2 + c * (1 + (M : Int))) else A (1 + 5 * c) := by
  unfold iwF
  rw [if_neg (by omega), if_pos (by omega), show (1 + 5 * c - 1) % 5 = 0 by omega, show (1 + 5 * c - 1) / 5 = c by omega]
  by_cases e : c < k ∨ (c = k ∧ 0 ≤ m)
  · rw [if_pos ⟨by omega, e⟩, if_pos e, Int.add_zero]
  · rw [if_neg (fun w => e w.2), if_pos rfl, if_neg e]
theorem iw_d {r : Int} (hc : 0 ≤ c ∧ c < 7) (hr : 0 ≤ r ∧ r < 4) : iwF T A M pl k m (2 + 5 * c + r) = if r < M ∧ (c < k ∨ (c = k ∧ r + 1 ≤ m)) then T (2 + c * (1 + (M : Int)) + (r + 1)) else 0 := by
  unfold iwF
  rw [if_neg (by omega), if_pos (by omega), show (2 + 5 * c + r - 1) % 5 = r + 1 by omega, show (2 + 5 * c + r - 1) / 5 = c by omega]
  by_cases e : r < M ∧ (c < k ∨ (c = k ∧ r + 1 ≤ m))
  · rw [if_pos ⟨by omega, e.2⟩, if_pos e]
  · rw [if_neg (fun w => e ⟨by omega, w.2⟩), if_neg (by omega), if_neg e]
theorem iw_p {p r : Int} (hp : 0 ≤ p ∧ p < 3) (hr : 0 ≤ r ∧ r < 4) : iwF T A M pl k m (36 + 3 * r + p) = pl p r := by
  unfold iwF
  rw [if_neg (by omega), if_neg (by omega), if_pos (by omega), show (36 + 3 * r + p - 36) % 3 = p by omega, show (36 + 3 * r + p - 36) / 3 = r by omega]
theorem iw_full (hM : M ≤ 4) (hc : 0 ≤ c ∧ c < 7) (h : c < k ∨ (c = k ∧ (M : Int) ≤ m)) : fullF (iwF T A M pl k m) c = fsR T M c M := by
  have e := fun (r : Int) hr => iw_d (T := T) (A := A) (M := M) (pl := pl) (k := k) (m := m) (r := r) hc hr
  have e0 := e 0 (by omega); have e1 := e 1 (by omega); have e2 := e 2 (by omega); have e3 := e 3 (by omega)
  unfold fullF
  rw [show (2 : Int) + 5 * c = 2 + 5 * c + 0 by omega, show (3 : Int) + 5 * c = 2 + 5 * c + 1 by omega, show (4 : Int) + 5 * c = 2 + 5 * c + 2 by omega, show (5 : Int) + 5 * c = 2 + 5 * c + 3 by omega, e0, e1, e2, e3]
  rcases (show M = 0 ∨ M = 1 ∨ M = 2 ∨ M = 3 ∨ M = 4 by omega) with rfl | rfl | rfl | rfl | rfl
  · rw [if_neg (by omega), if_neg (by omega), if_neg (by omega), if_neg (by omega)]; rfl
  · rw [if_pos (by omega), if_neg (by omega), if_neg (by omega), if_neg (by omega)]; simp [fsR]
  · rw [if_pos (by omega), if_pos (by omega), if_neg (by omega), if_neg (by omega)]; simp [fsR]
  · rw [if_pos (by omega), if_pos (by omega), if_pos (by omega), if_neg (by omega)]; simp [fsR]
  · rw [if_pos (by omega), if_pos (by omega), if_pos (by omega), if_pos (by omega)]; simp [fsR]
theorem iw_ext {i : Int} {m' k' : Int} (h : 1 ≤ i → i < 36 → (i - 1) % 5 ≤ M → (((i - 1) / 5 < k ∨ ((i - 1) / 5 = k ∧ (i - 1) % 5 ≤ m)) ↔ ((i - 1) / 5 < k' ∨ ((i - 1) / 5 = k' ∧ (i - 1) % 5 ≤ m')))) : iwF T A M pl k m i = iwF T A M pl k' m' i := by
  unfold iwF
  by_cases e0 : i = 0
  · rw [if_pos e0, if_pos e0]
  · rw [if_neg e0, if_neg e0]
    by_cases e1 : 1 ≤ i ∧ i < 36
    · have key : ((i - 1) % 5 ≤ (M : Int) ∧ ((i - 1) / 5 < k ∨ ((i - 1) / 5 = k ∧ (i - 1) % 5 ≤ m))) = ((i - 1) % 5 ≤ (M : Int) ∧ ((i - 1) / 5 < k' ∨ ((i - 1) / 5 = k' ∧ (i - 1) % 5 ≤ m'))) := propext ⟨fun z => ⟨z.1, (h e1.1 e1.2 z.1).mp z.2⟩, fun z => ⟨z.1, (h e1.1 e1.2 z.1).mpr z.2⟩⟩
      rw [if_pos e1, if_pos e1]
      simp only [key]
    · rw [if_neg e1, if_neg e1]
/-- the class reads clerk k -/
theorem c_readClerk {k : Nat} {N : Int} (hn : n ≤ 7 ∧ M ≤ 4 ∧ ns ≤ 9) (hk : k < n) (hT : ∀ i : Int, 0 ≤ i → i < N → α 2 i = T i ∧ 0 ≤ T i ∧ T i ≤ 255) (hs : φ 6 1 1 = N) (hN : N = 2 + (n : Int) * (1 + (M : Int)) + 6 * (M : Int) + 1) (X : XS 36 φ α k (iwF T A M pl k (-1))) (O : XO φ α n M ns rm) (h1 : okC T M ns rm k → ∀ φ' α', XS 36 φ' α' (k + 1) (iwF T A M pl ((k : Int) + 1) (-1)) → fr 36 φ α φ' α' → (φ 7 9 36 = 0 → φ' 7 9 36 = 0) → Q 1 φ' α') (h0 : ¬ okC T M ns rm k → ∀ φ' α', fr 36 φ α φ' α' → Q 0 φ' α') : eX7_readClerk (d + 2) 36 k 1 (2 + (k : Int) * (1 + (M : Int))) 9 φ α Q := by
  have b1 := nm_bd hn.2.1 (c := (k : Int)) (by omega)
  have b2 := nm_bd hn.2.1 (c := (n : Int)) (by omega)
  have b3 := nm_lt hn.2.1 (c := (k : Int)) (n := (n : Int)) (by omega)
  have t0 := hT (2 + (k : Int) * (1 + (M : Int))) (by omega) (by omega)
  refine vX7_readClerk_0 st36 row1 of9 (c_at row1 (by omega) (by omega) ?_)
  rw [show α (1 + 1) (2 + (k : Int) * (1 + (M : Int))) = T (2 + (k : Int) * (1 + (M : Int))) from t0.1]
  refine c_isSeat O.1 ?_
  by_cases e1 : 0 ≤ T (2 + (k : Int) * (1 + (M : Int))) ∧ T (2 + (k : Int) * (1 + (M : Int))) < ns
  · rw [if_pos e1]
    refine ⟨fun q => by omega, fun _ => c_sitterAt st36 X (by omega) ?_⟩
    have sv : ∀ c' : Nat, c' < k → iwF T A M pl k (-1) (1 + 5 * (c' : Int)) = T (2 + (c' : Int) * (1 + (M : Int))) := fun c' hc' => by rw [iw_s (by omega), if_pos (by omega)]
    rcases sitF_cases (iwF T A M pl k (-1)) (T (2 + (k : Int) * (1 + (M : Int)))) k with ⟨a1, a2⟩ | ⟨v, a1, a2, a3⟩
    · rw [a1]
      refine ⟨fun _ => c_set (st1 st36) ⟨by omega, by omega⟩ (c_set (st2 st36) ⟨by omega, by omega⟩ ?_), fun q => by omega⟩
      have hu : ∀ c' : Nat, c' < k → T (2 + (c' : Int) * (1 + (M : Int))) ≠ T (2 + (k : Int) * (1 + (M : Int))) := fun c' hc' q => a2 c' hc' (by rw [sv c' hc']; exact q)
      have XA : XS 36 φ (upa (upa α 37 k (T (2 + (k : Int) * (1 + (M : Int))))) 38 (T (2 + (k : Int) * (1 + (M : Int)))) k) (k + 1) (iwF T A M pl k 0) := by
        obtain ⟨x1, x2, x3, x4, x5, x6⟩ := X
        have se : ∀ c' : Nat, c' < k → iwF T A M pl k 0 (1 + 5 * (c' : Int)) = iwF T A M pl k (-1) (1 + 5 * (c' : Int)) := fun c' hc' => by rw [sv c' hc', iw_s (by omega), if_pos (by omega)]
        have sk : iwF T A M pl k 0 (1 + 5 * (k : Int)) = T (2 + (k : Int) * (1 + (M : Int))) := by rw [iw_s (by omega), if_pos (by omega)]
        refine ⟨by rw [iw_0]; rw [iw_0] at x1; exact x1, fun c q1 q2 => ?_, fun s q1 q2 => ?_, fun c r q1 q2 q3 q4 => ?_, fun c q1 q2 => ?_, fun p r q1 q2 q3 q4 => ?_⟩
        · show upa (upa α 37 k _) 38 _ k 37 c = _
          rw [upa_fn (by omega)]
          by_cases z : c = k
          · subst z; rw [upa_eq, sk]
          · rw [upa_ni z]
            have := se c.toNat (by omega)
            rw [Int.toNat_of_nonneg q1] at this
            rw [this]
            exact x2 c q1 (by omega)
        · show upa (upa α 37 k _) 38 _ k 38 s = _
          rw [sitF, sitF_ext se, sk]
          by_cases z : s = T (2 + (k : Int) * (1 + (M : Int)))
          · subst z; rw [upa_eq, a1, if_neg (by omega), if_pos rfl]
          · rw [upa_ni z, upa_fn (by omega)]
            have w := x3 s q1 q2
            rw [show α 38 s = α (36 + 2) s from rfl, w]
            by_cases z2 : 0 ≤ sitF (iwF T A M pl k (-1)) s k
            · rw [if_pos z2]
            · rw [if_neg z2, if_neg (fun q => z q.symm)]
              rcases sitF_cases (iwF T A M pl k (-1)) s k with ⟨b1, -⟩ | ⟨v, b1, b2, b3⟩ <;> omega
        · show upa (upa α 37 k _) 38 _ k (36 + 3) _ = _
          rw [upa_fn (by omega), upa_fn (by omega), x4 c r q1 q2 q3 q4]
          exact iw_ext (fun z1 z2 z3 => by omega)
        · show upa (upa α 37 k _) 38 _ k (36 + 4) _ = _
          rw [upa_fn (by omega), upa_fn (by omega), x5 c q1 q2]
          exact (fullF_nw (fun i q1 q2 => iw_ext (fun z1 z2 z3 => by omega))).symm
        · show upa (upa α 37 k _) 38 _ k (36 + 5) _ = _
          rw [upa_fn (by omega), upa_fn (by omega), x6 p r q1 q2 q3 q4]
          exact iw_ext (fun z1 z2 z3 => by omega)
      have fA : fr 36 φ α φ (upa (upa α 37 k (T (2 + (k : Int) * (1 + (M : Int))))) 38 (T (2 + (k : Int) * (1 + (M : Int)))) k) := (fr_a (by omega)).tr (fr_a (by omega))
      have loop : ∀ (r m : Nat), m + r = M → ∀ (φ1 : aF) (α1 : aA), XS 36 φ1 α1 (k + 1) (iwF T A M pl k m) → fr 36 φ α φ1 α1 → (φ 7 9 36 = 0 → φ1 7 9 36 = 0) → jX7_readClerk_51 (d + 2) 36 k 1 (2 + (k : Int) * (1 + (M : Int))) 9 m φ1 α1 Q := by
        intro r
        induction r with
        | zero =>
          intro m hm φ1 α1 X1 f1 s1
          have z : m = M := by omega
          subst z
          have O1 : φ1 2 3 9 = m := (f1.1 _ _ _ (by omega)).trans O.2.1
          have r1 : α1 11 k = rm k := by rw [f1.2 _ (by omega) (by omega)]; exact O.2.2.2 k (by omega) (by omega)
          have fu : α1 (36 + 4) k = fsR T m k m := by rw [X1.2.2.2.2.1 k (by omega) (by omega), iw_full hn.2.1 (by omega) (Or.inr ⟨rfl, Int.le_refl _⟩)]
          refine vX7_readClerk_51 st36 row1 of9 ⟨fun _ => c_pick (st4 st36) ⟨by omega, by omega⟩ (c_pick (of_a2 of9) ⟨by omega, by omega⟩ ?_), fun q => by omega⟩
          rw [fu, show α1 (9 + 2) k = rm k from r1]
          refine ⟨fun q => h0 (fun w => by have := w.2.1; omega) φ1 α1 f1, fun q => h1 ⟨e1.2, by omega, hu⟩ φ1 α1 (XS_nw (by omega) (fun i q1 q2 => iw_ext (fun z1 z2 z3 => by omega)) X1) f1 s1⟩
        | succ r ih =>
          intro m hm φ1 α1 X1 f1 s1
          have O1 : φ1 2 3 9 = M := (f1.1 _ _ _ (by omega)).trans O.2.1
          have s2 : φ1 6 1 1 = N := (f1.1 _ _ _ (by omega)).trans hs
          have t1 := hT (2 + (k : Int) * (1 + (M : Int)) + 1 + m) (by omega) (by omega)
          have zz : iwF T A M pl k m (2 + 5 * (k : Int) + m) = 0 := by rw [iw_d (by omega) (by omega), if_neg (by omega)]
          have fb : 0 ≤ fullF (iwF T A M pl k m) k ∧ fullF (iwF T A M pl k m) k ≤ 1020 := by
            have e := fun (r : Int) hr => iw_d (T := T) (A := A) (M := M) (pl := pl) (k := k) (m := m) (r := r) (c := k) (by omega) hr
            have bd : ∀ r : Int, 0 ≤ r ∧ r < 4 → 0 ≤ iwF T A M pl k m (2 + 5 * (k : Int) + r) ∧ iwF T A M pl k m (2 + 5 * (k : Int) + r) ≤ 255 := fun r hr => by
              rw [e r hr]
              split
              · rename_i w
                exact (hT _ (by omega) (by omega)).2
              · omega
            have e0 := bd 0 (by omega); have e1 := bd 1 (by omega); have e2 := bd 2 (by omega); have e3 := bd 3 (by omega)
            unfold fullF
            rw [show (2 : Int) + 5 * k = 2 + 5 * k + 0 by omega, show (3 : Int) + 5 * k = 2 + 5 * k + 1 by omega, show (4 : Int) + 5 * k = 2 + 5 * k + 2 by omega, show (5 : Int) + 5 * k = 2 + 5 * k + 3 by omega]
            omega
          refine vX7_readClerk_51 st36 row1 of9 ⟨fun q => by omega, fun _ => ⟨by unfold inR; omega, by unfold inR; omega, c_at row1 (by omega) (by omega) ?_⟩⟩
          rw [show α1 (1 + 1) (2 + (k : Int) * (1 + (M : Int)) + 1 + m) = T (2 + (k : Int) * (1 + (M : Int)) + 1 + m) by rw [show (1 + 1 : Int) = 2 by omega, f1.2 2 (by omega) (by omega)]; exact t1.1]
          refine c_gain st36 X1 (by omega) (by omega) (by rw [zz]; unfold inR; omega) (by unfold inR; omega) (fun φ2 α2 X2 f2 s2 _ => ⟨by unfold inR; omega, ?_⟩)
          have := ih (m + 1) (by omega) φ2 α2 (XS_nw (by omega) (fun i q1 q2 => ?_) X2) (f1.tr f2) (fun _ => s2)
          · rw [show ((m + 1 : Nat) : Int) = (m : Int) + 1 by omega] at this
            exact this
          · by_cases z : i = 2 + 5 * (k : Int) + m
            · subst z
              rw [un_s, zz, Int.zero_add, iw_d (by omega) (by omega), if_pos (by omega)]
              congr 1
              omega
            · rw [un_o z]
              exact iw_ext (fun z1 z2 z3 => by omega)
      have := loop M 0 (by omega) _ _ XA fA (fun q => q)
      simpa using this
    · rw [a2]
      refine ⟨fun q => by omega, fun _ => h0 (fun w => w.2.2 v a1 (by rw [← sv v a1]; exact a3)) φ α fr.rf⟩
  · rw [if_neg e1]
    exact ⟨fun _ => h0 (fun w => e1 ⟨t0.2.1, w.1⟩) φ α fr.rf, fun q => absurd rfl q⟩
/-- pools read: all of matters below k, of k those below p -/
def plF2 (T : Int → Int) (n M : Nat) (k p : Int) : Int → Int → Int := fun p' m' => if m' < k ∨ (m' = k ∧ p' < p) then twF T (2 + (n : Int) * (1 + (M : Int)) + 6 * m' + 2 * p') else 0
theorem c_pairAt {N : Int} {i : Int} (hT : ∀ i : Int, 0 ≤ i → i < N → α 2 i = T i ∧ 0 ≤ T i ∧ T i ≤ 255) (hs : φ 6 1 1 = N) (hN : N ≤ 1600) (hi : 0 ≤ i ∧ i + 1 < N) (h : 0 ≤ twF T i ∧ twF T i ≤ 65535 → Q (twF T i) φ α) : eX6_pairAt (d + 1) 1 i φ α Q := by
  have t0 := hT i (by omega) (by omega)
  have t1 := hT (i + 1) (by omega) (by omega)
  refine vX6_pairAt_0 row1 (c_at row1 (by omega) (by omega) ?_)
  rw [show α (1 + 1) i = T i from t0.1]
  refine ⟨by unfold inR; omega, by unfold inR; omega, c_at row1 (by omega) (by omega) ?_⟩
  rw [show α (1 + 1) (i + 1) = T (i + 1) from t1.1]
  exact ⟨by unfold inR; omega, h (by unfold twF; omega)⟩
theorem XS_pl (hn : n ≤ 7) {pl pl' : Int → Int → Int} (h : ∀ p r : Int, 0 ≤ p → p < 3 → 0 ≤ r → r < 4 → α' (36 + 5) (p * 4 + r) = pl' p r) (ha : ∀ i : Int, 1 ≤ i → i ≤ 4 → α' (36 + i) = α (36 + i)) (X : XS 36 φ α n (iwF T A M pl k m)) : XS 36 φ α' n (iwF T A M pl' k m) := by
  obtain ⟨x1, x2, x3, x4, x5, x6⟩ := X
  have e : ∀ i : Int, i < 36 → iwF T A M pl' k m i = iwF T A M pl k m i := fun i hi => by
    unfold iwF
    by_cases e0 : i = 0
    · rw [if_pos e0, if_pos e0]
    · rw [if_neg e0, if_neg e0]
      by_cases e1 : 1 ≤ i ∧ i < 36
      · rw [if_pos e1, if_pos e1]
      · rw [if_neg e1, if_neg e1, if_neg (by omega), if_neg (by omega), if_neg (by omega)]
  refine ⟨by rw [e _ (by omega)]; exact x1, fun c q1 q2 => by rw [ha 1 (by omega) (by omega), e _ (by omega)]; exact x2 c q1 q2, fun s q1 q2 => by rw [ha 2 (by omega) (by omega), x3 s q1 q2]; exact (sitF_ext (fun c hc => e _ (by omega))).symm, fun c r q1 q2 q3 q4 => by rw [ha 3 (by omega) (by omega), e _ (by omega)]; exact x4 c r q1 q2 q3 q4, fun c q1 q2 => by rw [ha 4 (by omega) (by omega), fullF_nw (fun i z1 z2 => e i (by omega))]; exact x5 c q1 q2, fun p r q1 q2 q3 q4 => by rw [iw_p ⟨q1, q2⟩ ⟨q3, q4⟩]; exact h p r q1 q2 q3 q4⟩
theorem c_readPools {N : Int} (hn : n ≤ 7 ∧ M ≤ 4 ∧ ns ≤ 9) (hT : ∀ i : Int, 0 ≤ i → i < N → α 2 i = T i ∧ 0 ≤ T i ∧ T i ≤ 255) (hs : φ 6 1 1 = N) (hN : N = 2 + (n : Int) * (1 + (M : Int)) + 6 * (M : Int) + 1) (X : XS 36 φ α n (iwF T A M pl n (-1))) (h1 : (∀ q : Int, 0 ≤ q → q < 3 * (M : Int) → twF T (2 + (n : Int) * (1 + (M : Int)) + 2 * q) ≤ 9999) → ∀ α', XS 36 φ α' n (iwF T A M (plF2 T n M M 0) n (-1)) → fr 36 φ α φ α' → Q 1 φ α') (h0 : (¬ ∀ q : Int, 0 ≤ q → q < 3 * (M : Int) → twF T (2 + (n : Int) * (1 + (M : Int)) + 2 * q) ≤ 9999) → ∀ α', fr 36 φ α φ α' → Q 0 φ α') : eX7_readPools (d + 2) 36 1 (2 + (n : Int) * (1 + (M : Int))) M φ α Q := by
  have b2 := nm_bd hn.2.1 (c := (n : Int)) (by omega)
  have outer : ∀ (r k : Nat), k + r = M → ∀ (α1 : aA), XS 36 φ α1 n (iwF T A M (plF2 T n M k 0) n (-1)) → fr 36 φ α φ α1 → (∀ q : Int, 0 ≤ q → q < 3 * (k : Int) → twF T (2 + (n : Int) * (1 + (M : Int)) + 2 * q) ≤ 9999) → jX7_readPools_11 (d + 2) 36 1 (2 + (n : Int) * (1 + (M : Int))) M k φ α1 Q := by
    intro r
    induction r with
    | zero =>
      intro k hk α1 X1 f1 hp
      have z : k = M := by omega
      subst z
      exact vX7_readPools_11 st36 row1 ⟨fun _ => h1 hp α1 X1 f1, fun q => by omega⟩
    | succ r ih =>
      intro k hk α1 X1 f1 hp
      refine vX7_readPools_11 st36 row1 ⟨fun q => by omega, fun _ => ?_⟩
      have inner : ∀ (w p : Nat), p + w = 3 → ∀ (α2 : aA), XS 36 φ α2 n (iwF T A M (plF2 T n M k p) n (-1)) → fr 36 φ α φ α2 → (∀ q : Int, 0 ≤ q → q < 3 * (k : Int) + p → twF T (2 + (n : Int) * (1 + (M : Int)) + 2 * q) ≤ 9999) → jX7_readPools_20 (d + 2) 36 1 (2 + (n : Int) * (1 + (M : Int))) M k p φ α2 Q := by
        intro w
        induction w with
        | zero =>
          intro p hp3 α2 X2 f2 hp2
          have z : p = 3 := by omega
          subst z
          refine vX7_readPools_20 st36 row1 ⟨fun _ => ⟨by unfold inR; omega, ?_⟩, fun q => by omega⟩
          have := ih (k + 1) (by omega) α2 (XS_pl hn.1 (fun p r q1 q2 q3 q4 => by
            have := X2.2.2.2.2.2 p r q1 q2 q3 q4
            rw [iw_p ⟨q1, q2⟩ ⟨q3, q4⟩] at this
            rw [this]
            unfold plF2
            by_cases e : r < k ∨ (r = k ∧ p < (3 : Nat))
            · rw [if_pos e, if_pos (by omega)]
            · rw [if_neg e, if_neg (by omega)]) (fun _ _ _ => rfl) X2) f2 (fun q q1 q2 => hp2 q q1 (by omega))
          rw [show ((k + 1 : Nat) : Int) = (k : Int) + 1 by omega] at this
          exact this
        | succ w ih2 =>
          intro p hp3 α2 X2 f2 hp2
          refine vX7_readPools_20 st36 row1 ⟨fun q => by omega, fun _ => ⟨by unfold inR; omega, by unfold inR; omega, by unfold inR; omega, by unfold inR; omega, c_pairAt (T := T) (N := N) (fun i q1 q2 => by rw [f2.2 2 (by omega) (by omega)]; exact hT i q1 q2) hs (by omega) (by omega) (fun bd => ⟨fun q => ⟨by unfold inR; omega, by unfold inR; omega, c_set (st5 st36) ⟨by omega, by omega⟩ ⟨by unfold inR; omega, ?_⟩⟩, fun q => h0 (fun hall => q ?_) α2 f2⟩)⟩⟩
          · have := ih2 (p + 1) (by omega) (upa α2 (36 + 5) ((p : Int) * 4 + k) (twF T (2 + (n : Int) * (1 + (M : Int)) + 6 * (k : Int) + 2 * (p : Int)))) (XS_pl hn.1 (fun p' r q1 q2 q3 q4 => by
              have w2 := X2.2.2.2.2.2 p' r q1 q2 q3 q4
              rw [iw_p ⟨q1, q2⟩ ⟨q3, q4⟩] at w2
              by_cases e : p' = p ∧ r = k
              · obtain ⟨rfl, rfl⟩ := e
                rw [upa_eq]
                unfold plF2
                rw [if_pos (by omega)]
              · rw [upa_ni (by omega), w2]
                unfold plF2
                by_cases e2 : r < k ∨ (r = k ∧ p' < p)
                · rw [if_pos e2, if_pos (by omega)]
                · rw [if_neg e2, if_neg (by omega)]) (fun i q1 q2 => upa_fn (by omega)) X2) (f2.tr (fr_a (by omega))) (fun q' q1 q2 => by
              by_cases e : q' = 3 * (k : Int) + p
              · subst e
                rw [show 2 + (n : Int) * (1 + (M : Int)) + 2 * (3 * (k : Int) + p) = 2 + (n : Int) * (1 + (M : Int)) + 6 * k + 2 * p by omega]
                exact q
              · exact hp2 q' q1 (by omega))
            rw [show ((p + 1 : Nat) : Int) = (p : Int) + 1 by omega] at this
            exact this
          · have := hall (3 * (k : Int) + p) (by omega) (by omega)
            rw [show 2 + (n : Int) * (1 + (M : Int)) + 2 * (3 * (k : Int) + p) = 2 + (n : Int) * (1 + (M : Int)) + 6 * k + 2 * p by omega] at this
            exact this
      have := inner 3 0 rfl α1 X1 f1 (fun q q1 q2 => hp q q1 (by omega))
      simpa using this
  refine vX7_readPools_0 st36 row1 (c_fill (st5 st36) ?_)
  have := outer M 0 (by omega) (rg α (36 + 5) 0 (12 : Nat) (fun _ => 0)) (XS_pl hn.1 (fun p r q1 q2 q3 q4 => by
    rw [rg_in (by omega)]
    unfold plF2
    rw [if_neg (by omega)]) (fun i q1 q2 => rg_ne (by omega)) X) (fr_rg (by omega)) (fun q q1 q2 => by omega)
  simpa using this
end ON
