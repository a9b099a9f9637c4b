/-! contracts, in continuation form: the JDK's, the static helpers, rows -/
theorem inRk {x : Int} (h1 : -2147483648 ≤ x) (h2 : x < 2147483648) : inR x := ⟨h1, h2⟩
def rg (α : aA) (a k n : Int) (f : Int → Int) : aA := fun a' i => if a' = a ∧ k ≤ i ∧ i < n then f i else α a' i
theorem rg_step {α : aA} {a k n : Int} {f : Int → Int} (h : k < n) : rg (upa α a k (f k)) a (k + 1) n f = rg α a k n f := by
  funext a' i
  unfold rg upa
  by_cases h1 : a' = a
  · subst h1
    by_cases h2 : i = k
    · subst h2
      rw [if_neg (by omega), if_pos ⟨rfl, rfl⟩, if_pos ⟨rfl, by omega, by omega⟩]
    · by_cases h3 : k ≤ i ∧ i < n
      · rw [if_pos ⟨rfl, by omega, by omega⟩, if_pos ⟨rfl, h3.1, h3.2⟩]
      · rw [if_neg (by omega), if_neg (by omega), if_neg (by omega)]
  · rw [if_neg (fun q => h1 q.1), if_neg (fun q => h1 q.1), if_neg (fun q => h1 q.1)]
theorem rg_end {α : aA} {a k n : Int} {f : Int → Int} (h : n ≤ k) : rg α a k n f = α := by
  funext a' i
  unfold rg
  rw [if_neg (by omega)]
theorem rg_ne {α : aA} {a k n a' : Int} {f : Int → Int} (h : a' ≠ a) : rg α a k n f a' = α a' := by
  funext i
  unfold rg
  rw [if_neg (fun q => h q.1)]
theorem rg_in {α : aA} {a k n i : Int} {f : Int → Int} (h : k ≤ i ∧ i < n) : rg α a k n f a i = f i := by
  unfold rg
  rw [if_pos ⟨rfl, h⟩]
theorem rg_out {α : aA} {a k n i : Int} {f : Int → Int} (h : ¬ (k ≤ i ∧ i < n)) : rg α a k n f a i = α a i := by
  unfold rg
  rw [if_neg (fun q => h q.2)]
theorem upa_fn {α : aA} {a i v a' : Int} (h : a' ≠ a) : upa α a i v a' = α a' := by
  funext j
  exact upa_ne h
theorem cpA_rg {α : aA} {a t n : Int} : cpA α a t n = rg α t 0 n (α a) := rfl
theorem isIA.lt {a : Int} {n : Nat} (h : isIA a n) : n < 2147483648 := by
  have h1 := h 0
  unfold K0 at h1
  dsimp only at h1
  split at h1
  · cases h1
  · split at h1
    · rw [List.getD_eq_getElem?_getD] at h1
      cases h2 : shp[a.toNat]? with
      | none => rw [h2] at h1; cases h1
      | some q =>
        rw [h2] at h1
        have hq := List.mem_of_getElem? h2
        have hall : shp.all (fun q => decide (q.2 < 2147483648)) = true := by decide +kernel
        have := List.all_eq_true.mp hall q hq
        have e : q = (20, n) := h1
        subst e
        simpa using this
    · cases h1
section C1
variable {d : Nat} {φ : aF} {α : aA} {Q : Int → aF → aA → Prop} {x y a t k v : Int} {n n2 : Nat}
theorem c_min (h : Q (min x y) φ α) : eJ9_min_7cf53 d x y φ α Q :=
  vJ9_min_7cf53_0 ⟨fun c => by rwa [show min x y = y by omega] at h, fun c => by rwa [show min x y = x by omega] at h⟩
theorem c_max (h : Q (max x y) φ α) : eJ9_max_7cf53 d x y φ α Q :=
  vJ9_max_7cf53_0 ⟨fun c => by rwa [show max x y = y by omega] at h, fun c => by rwa [show max x y = x by omega] at h⟩
theorem j3_pos {x y : Int} : 0 < j3 x y ↔ y < x := by
  unfold j3
  split
  · simp_all
  · split <;> simp_all <;> omega
theorem j3_neg {x y : Int} : j3 x y < 0 ↔ x < y := by
  unfold j3
  split
  · simp; omega
  · split <;> simp_all <;> omega
theorem j3_zero {x y : Int} : j3 x y = 0 ↔ x = y := by
  unfold j3
  split
  · simp; omega
  · split <;> simp_all
theorem j3_le {x y : Int} : j3 x y ≤ 0 ↔ x ≤ y := by have := @j3_pos x y; omega
theorem j3_ge {x y : Int} : 0 ≤ j3 x y ↔ y ≤ x := by have := @j3_neg x y; omega
theorem c_minL (h : Q (min x y) φ α) : eJ9_min_f86c9 d x y φ α Q :=
  vJ9_min_f86c9_0 ⟨fun c => by rw [j3_pos] at c; rwa [show min x y = y by omega] at h, fun c => by rw [j3_pos] at c; rwa [show min x y = x by omega] at h⟩
theorem c_maxL (h : Q (max x y) φ α) : eJ9_max_f86c9 d x y φ α Q :=
  vJ9_max_f86c9_0 ⟨fun c => by rw [j3_neg] at c; rwa [show max x y = y by omega] at h, fun c => by rw [j3_neg] at c; rwa [show max x y = x by omega] at h⟩
theorem c_pick (ha : isIA a n) (hk : 0 ≤ k ∧ k < n) (h : Q (α a k) φ α) : eX10_pick d a k φ α Q :=
  vX10_pick_0 ha ⟨fun c => by omega, fun c => ⟨fun c2 => by omega, fun c2 => ⟨hk, h⟩⟩⟩
theorem c_pick0 (ha : isIA a n) (hk : ¬ (0 ≤ k ∧ k < n)) (h : Q 0 φ α) : eX10_pick d a k φ α Q :=
  vX10_pick_0 ha ⟨fun c => h, fun c => ⟨fun c2 => h, fun c2 => by omega⟩⟩
theorem c_set (ha : isIA a n) (hk : 0 ≤ k ∧ k < n) (h : Q 0 φ (upa α a k v)) : eX10_set d a k v φ α Q :=
  vX10_set_0 ha ⟨fun c => by omega, fun c => ⟨fun c2 => by omega, fun c2 => ⟨hk, h⟩⟩⟩
theorem c_set0 (ha : isIA a n) (hk : ¬ (0 ≤ k ∧ k < n)) (h : Q 0 φ α) : eX10_set d a k v φ α Q :=
  vX10_set_0 ha ⟨fun c => h, fun c => ⟨fun c2 => h, fun c2 => by omega⟩⟩
theorem c_add (ha : isIA a n) (hk : 0 ≤ k ∧ k < n) (hr : inR (α a k + v)) (h : Q 0 φ (upa α a k (α a k + v))) : eX10_add d a k v φ α Q :=
  vX10_add_0 ha ⟨fun c => by omega, fun c => ⟨fun c2 => by omega, fun c2 => ⟨hk, hr, h⟩⟩⟩
theorem l_fill (ha : isIA a n) : ∀ (m : Nat) (k : Int) (α : aA), 0 ≤ k → k + m = n → Q 0 φ (rg α a k n (fun _ => v)) → jX10_fill_2 d a v k φ α Q
  | 0, k, α, h0, hk, h => vX10_fill_2 ha ⟨fun c => by rwa [rg_end (by omega)] at h, fun c => by omega⟩
  | m + 1, k, α, h0, hk, h => vX10_fill_2 ha ⟨fun c => by omega, fun c => ⟨⟨h0, by omega⟩, by have := ha.lt; unfold inR; omega, l_fill ha m (k + 1) _ (by omega) (by omega) (by rw [rg_step (f := fun _ => v) (by omega)]; exact h)⟩⟩
theorem c_fill (ha : isIA a n) (h : Q 0 φ (rg α a 0 n (fun _ => v))) : eX10_fill d a v φ α Q := vX10_fill_0 ha (l_fill ha n 0 α (by omega) (by omega) h)
theorem c_copy (ha : isIA a n) (ht : isIA t n) (h : Q 0 φ (rg α t 0 n (α a))) : eX10_copy (d + 1) a t φ α Q :=
  vX10_copy_0 ha ht (c_min ⟨⟨by omega, by omega, by omega⟩, by rw [cpA_rg, show min (n : Int) (n : Int) = n by omega]; exact h⟩)
theorem c_within (h : Q (if y ≤ x ∧ x ≤ v then 1 else 0) φ α) : eX10_within d x y v φ α Q :=
  vX10_within_0 ⟨fun c => by rwa [if_neg (by omega)] at h, fun c => ⟨fun c2 => by rwa [if_neg (by omega)] at h, fun c2 => by rwa [if_pos (by omega)] at h⟩⟩
/-- the sum of the first m of a row, from k on -/
def sumF (f : Int → Int) : Nat → Int
  | 0 => 0
  | m + 1 => sumF f m + f m
theorem l_total (ha : isIA a n) {B : Int} (hB : ∀ i, 0 ≤ i → i < n → 0 ≤ α a i ∧ α a i ≤ 10000) (hn : n ≤ 200) : ∀ (m k : Nat), k + m = n → Q (sumF (α a) n) φ α → 0 ≤ sumF (α a) k ∧ sumF (α a) k ≤ 10000 * k → jX10_total_4 d a (sumF (α a) k) k φ α Q
  | 0, k, hk, h, hs => vX10_total_4 ha ⟨fun c => by rw [show k = n by omega]; exact h, fun c => by omega⟩
  | m + 1, k, hk, h, hs => vX10_total_4 ha ⟨fun c => by omega, fun c => by
      have h1 := hB k (by omega) (by omega)
      refine ⟨⟨by omega, by omega⟩, by unfold inR; omega, by unfold inR; omega, ?_⟩
      exact l_total ha (B := B) hB hn m (k + 1) (by omega) h ⟨by show 0 ≤ sumF (α a) k + α a k; omega, by show sumF (α a) k + α a k ≤ _; omega⟩⟩
theorem c_total (ha : isIA a n) (hB : ∀ i, 0 ≤ i → i < n → 0 ≤ α a i ∧ α a i ≤ 10000) (hn : n ≤ 200) (h : Q (sumF (α a) n) φ α) : eX10_total d a φ α Q := vX10_total_0 ha (l_total ha (B := 0) hB hn n 0 (by omega) h ⟨by simp [sumF], by simp [sumF]⟩)
-- rows
theorem c_at {o : Int} (ho : isRow o n) (hk : 0 ≤ k ∧ k < φ 6 1 o) (hn : φ 6 1 o ≤ n) (h : Q (α (o + 1) k) φ α) : eX6_at d o k φ α Q :=
  vX6_at_0 ho ⟨fun c => by omega, fun c => ⟨fun c2 => by omega, fun c2 => ⟨fun c3 => by omega, fun c3 => ⟨⟨by omega, by omega⟩, h⟩⟩⟩⟩
theorem c_at0 {o : Int} (ho : isRow o n) (hk : ¬ (0 ≤ k ∧ k < φ 6 1 o)) (h : Q (-1) φ α) : eX6_at d o k φ α Q :=
  vX6_at_0 ho ⟨fun c => h, fun c => ⟨fun c2 => h, fun c2 => by omega⟩⟩
theorem c_put {o : Int} (ho : isRow o n) (hk : 0 ≤ φ 6 1 o ∧ φ 6 1 o < n) (h : Q 0 (upf φ 6 1 o (φ 6 1 o + 1)) (upa α (o + 1) (φ 6 1 o) v)) : eX6_put d o v φ α Q :=
  vX6_put_0 ho ⟨fun c => by omega, fun c => ⟨fun c2 => by omega, fun c2 => ⟨hk, by have := ho.2.1.lt; unfold inR; omega, h⟩⟩⟩
theorem c_clear {o : Int} (ho : isRow o n) (h : Q 0 (upf φ 6 1 o 0) α) : eX6_clear d o φ α Q := vX6_clear_0 ho h
theorem upf_o {φ : aF} {c f c' f' : Nat} {o v o' : Int} (h : c' ≠ c ∨ f' ≠ f ∨ o' ≠ o) : upf φ c f o v c' f' o' = φ c' f' o' := by
  unfold upf
  rw [if_neg (by rintro ⟨h1, h2, h3⟩; rcases h with h | h | h <;> contradiction)]
theorem l_copyFrom {o r : Int} {no nr : Nat} (ho : isRow o no) (hr : isRow r nr) (hne : o ≠ r) (h1 : φ 6 1 o ≤ no) (h2 : φ 6 1 o ≤ φ 6 1 r) (h3 : φ 6 1 r ≤ nr) (hd1 : r + 1 ≠ o + 1) : ∀ (m : Nat) (k : Int) (α : aA), 0 ≤ k → k + m = φ 6 1 o → Q 0 φ (rg α (o + 1) k (φ 6 1 o) (α (r + 1))) → jX6_copyFrom_18 (d + 1) o r k φ α Q
  | 0, k, α, h0, hk, h => vX6_copyFrom_18 ho hr ⟨fun c => by rwa [rg_end (by omega)] at h, fun c => by omega⟩
  | m + 1, k, α, h0, hk, h => vX6_copyFrom_18 ho hr ⟨fun c => by omega, fun c => c_at hr ⟨h0, by omega⟩ h3 (c_set ho.2.1 ⟨h0, by omega⟩ ⟨by have := ho.2.1.lt; unfold inR; omega, l_copyFrom ho hr hne h1 h2 h3 hd1 m (k + 1) _ (by omega) (by omega) (by
      rw [upa_fn hd1, rg_step (by omega)]; exact h)⟩)⟩
/-- a row is copied: as many cells as there are, if there is room -/
theorem c_copyFrom {o r : Int} {no nr : Nat} (ho : isRow o no) (hr : isRow r nr) (hne : o ≠ r) (h0 : 0 ≤ φ 6 1 r) (h1 : φ 6 1 r ≤ no) (h3 : φ 6 1 r ≤ nr) (h : Q 0 (upf φ 6 1 o (φ 6 1 r)) (rg α (o + 1) 0 (φ 6 1 r) (α (r + 1)))) : eX6_copyFrom (d + 1) o r φ α Q := by
  refine vX6_copyFrom_0 ho hr (c_min ?_)
  rw [show min (φ 6 1 r) (no : Int) = φ 6 1 r by omega]
  have e1 : upf φ 6 1 o (φ 6 1 r) 6 1 o = φ 6 1 r := upf_s
  have e2 : upf φ 6 1 o (φ 6 1 r) 6 1 r = φ 6 1 r := upf_o (Or.inr (Or.inr (fun q => hne q.symm)))
  refine l_copyFrom ho hr hne (by rw [e1]; exact h1) (by rw [e1, e2]; exact Int.le_refl _) (by rw [e2]; exact h3) (by omega) (φ 6 1 r).toNat 0 α (by omega) (by rw [e1]; omega) ?_
  rw [e1]
  exact h
end C1
