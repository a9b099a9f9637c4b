/-! the state as the reference lays it (nw): 0 day, 1+5c seat, 2+5c+m drops, 36+3m+p pools, 48 how many are kept, 49+3k+w kept -/
def fullF (nw : Int → Int) (c : Int) : Int := nw (2 + 5 * c) + nw (3 + 5 * c) + nw (4 + 5 * c) + nw (5 + 5 * c)
def sitF (nw : Int → Int) (s : Int) : Nat → Int
  | 0 => -1
  | n + 1 => if 0 ≤ sitF nw s n then sitF nw s n else if nw (1 + 5 * (n : Int)) = s then (n : Int) else -1
theorem sitF_none {nw : Int → Int} {s : Int} : ∀ {n : Nat}, (∀ c : Nat, c < n → nw (1 + 5 * (c : Int)) ≠ s) → sitF nw s n = -1
  | 0, _ => rfl
  | n + 1, h => by
    rw [sitF, sitF_none (fun c hc => h c (by omega)), if_neg (by omega), if_neg (h n (by omega))]
theorem sitF_some {nw : Int → Int} {s : Int} : ∀ {n : Nat} {v : Nat}, v < n → nw (1 + 5 * (v : Int)) = s → (∀ c : Nat, c < n → nw (1 + 5 * (c : Int)) = s → c = v) → sitF nw s n = v
  | n + 1, v, hv, hs, hu => by
    by_cases e : v = n
    · subst e
      rw [sitF, sitF_none (fun c hc q => by have := hu c (by omega) q; omega), if_neg (by omega), if_pos hs]
    · rw [sitF, sitF_some (n := n) (by omega) hs (fun c hc q => hu c (by omega) q), if_pos (by omega)]
theorem sitF_cases (nw : Int → Int) (s : Int) : ∀ (n : Nat), (sitF nw s n = -1 ∧ ∀ c : Nat, c < n → nw (1 + 5 * (c : Int)) ≠ s) ∨ ∃ v : Nat, v < n ∧ sitF nw s n = v ∧ nw (1 + 5 * (v : Int)) = s
  | 0 => Or.inl ⟨rfl, fun c h => by omega⟩
  | n + 1 => by
    rcases sitF_cases nw s n with ⟨h1, h2⟩ | ⟨v, h1, h2, h3⟩
    · rw [sitF, h1, if_neg (by omega)]
      by_cases e : nw (1 + 5 * (n : Int)) = s
      · exact Or.inr ⟨n, by omega, by rw [if_pos e], e⟩
      · refine Or.inl ⟨by rw [if_neg e], fun c hc => ?_⟩
        by_cases e2 : c = n
        · subst e2; exact e
        · exact h2 c (by omega)
    · exact Or.inr ⟨v, by omega, by rw [sitF, if_pos (by omega)]; exact h2, h3⟩
theorem sitF_ext {nw nw' : Int → Int} {s : Int} : ∀ {n : Nat}, (∀ c : Nat, c < n → nw' (1 + 5 * (c : Int)) = nw (1 + 5 * (c : Int))) → sitF nw' s n = sitF nw s n
  | 0, _ => rfl
  | n + 1, h => by
    rw [sitF, sitF, sitF_ext (fun c hc => h c (by omega)), h n (by omega)]
/-- a State of the class holds nw; n: how many clerks there are -/
def XS (b : Int) (φ : aF) (α : aA) (n : Nat) (nw : Int → Int) : Prop :=
  φ 7 0 b = nw 0 ∧ (∀ c : Int, 0 ≤ c → c < n → α (b + 1) c = nw (1 + 5 * c)) ∧ (∀ s : Int, 0 ≤ s → s < 9 → α (b + 2) s = sitF nw s n) ∧ (∀ c m : Int, 0 ≤ c → c < 7 → 0 ≤ m → m < 4 → α (b + 3) (c * 4 + m) = nw (2 + 5 * c + m)) ∧ (∀ c : Int, 0 ≤ c → c < 7 → α (b + 4) c = fullF nw c) ∧ (∀ p m : Int, 0 ≤ p → p < 3 → 0 ≤ m → m < 4 → α (b + 5) (p * 4 + m) = nw (36 + 3 * m + p))
/-- nw is as it can be: n clerks, M matters, ns seats, rooms rm -/
def GS (n M ns : Nat) (rm : Int → Int) (nw : Int → Int) : Prop :=
  (0 ≤ nw 0 ∧ nw 0 ≤ 2000) ∧ (∀ c : Nat, c < n → 0 ≤ nw (1 + 5 * (c : Int)) ∧ nw (1 + 5 * (c : Int)) < ns) ∧ (∀ c c' : Nat, c < n → c' < n → nw (1 + 5 * (c : Int)) = nw (1 + 5 * (c' : Int)) → c = c') ∧ (∀ c m : Int, 0 ≤ c → c < 7 → 0 ≤ m → m < 4 → 0 ≤ nw (2 + 5 * c + m) ∧ ((n : Int) ≤ c ∨ (M : Int) ≤ m → nw (2 + 5 * c + m) = 0)) ∧ (∀ c : Int, 0 ≤ c → c < n → fullF nw c ≤ rm c ∧ rm c ≤ 99) ∧ (∀ m p : Int, 0 ≤ m → m < 4 → 0 ≤ p → p < 3 → 0 ≤ nw (36 + 3 * m + p) ∧ nw (36 + 3 * m + p) ≤ 9999 ∧ ((M : Int) ≤ m → nw (36 + 3 * m + p) = 0)) ∧ (n ≤ 7 ∧ M ≤ 4 ∧ ns ≤ 9)
theorem GS.drop {n M ns : Nat} {rm nw : Int → Int} (h : GS n M ns rm nw) {c m : Int} (h1 : 0 ≤ c) (h2 : c < 7) (h3 : 0 ≤ m) (h4 : m < 4) : 0 ≤ nw (2 + 5 * c + m) ∧ nw (2 + 5 * c + m) ≤ 99 := by
  have d0 := h.2.2.2.1 c 0 h1 h2 (by omega) (by omega)
  have d1 := h.2.2.2.1 c 1 h1 h2 (by omega) (by omega)
  have d2 := h.2.2.2.1 c 2 h1 h2 (by omega) (by omega)
  have d3 := h.2.2.2.1 c 3 h1 h2 (by omega) (by omega)
  have e1 : (2 : Int) + 5 * c + 1 = 3 + 5 * c := by omega
  have e2 : (2 : Int) + 5 * c + 2 = 4 + 5 * c := by omega
  have e3 : (2 : Int) + 5 * c + 3 = 5 + 5 * c := by omega
  rw [e1] at d1; rw [e2] at d2; rw [e3] at d3
  rw [Int.add_zero] at d0
  by_cases hc : c < n
  · have hf := h.2.2.2.2.1 c h1 hc
    unfold fullF at hf
    rcases (show m = 0 ∨ m = 1 ∨ m = 2 ∨ m = 3 by omega) with rfl | rfl | rfl | rfl
    · rw [Int.add_zero]; omega
    · rw [e1]; omega
    · rw [e2]; omega
    · rw [e3]; omega
  · have := h.2.2.2.1 c m h1 h2 h3 h4
    have h0 := this.2 (Or.inl (by omega))
    omega
theorem GS.full {n M ns : Nat} {rm nw : Int → Int} (h : GS n M ns rm nw) {c : Int} (h1 : 0 ≤ c) (h2 : c < 7) : 0 ≤ fullF nw c ∧ fullF nw c ≤ 396 := by
  have d0 := h.drop h1 h2 (m := 0) (by omega) (by omega)
  have d1 := h.drop h1 h2 (m := 1) (by omega) (by omega)
  have d2 := h.drop h1 h2 (m := 2) (by omega) (by omega)
  have d3 := h.drop h1 h2 (m := 3) (by omega) (by omega)
  rw [show (2 : Int) + 5 * c + 1 = 3 + 5 * c by omega] at d1
  rw [show (2 : Int) + 5 * c + 2 = 4 + 5 * c by omega] at d2
  rw [show (2 : Int) + 5 * c + 3 = 5 + 5 * c by omega] at d3
  rw [Int.add_zero] at d0
  unfold fullF
  omega
theorem GS.sit {n M ns : Nat} {rm nw : Int → Int} (h : GS n M ns rm nw) (s : Int) : sitF nw s n = -1 ∨ (0 ≤ sitF nw s n ∧ sitF nw s n < n ∧ nw (1 + 5 * sitF nw s n) = s) := by
  rcases sitF_cases nw s n with ⟨h1, -⟩ | ⟨v, h1, h2, h3⟩
  · exact Or.inl h1
  · exact Or.inr (by rw [h2]; exact ⟨by omega, by omega, h3⟩)
/-- what working on a State leaves as it was: all but its day, its two marks, its five rows, and what is written and forgotten (the mill's stack) -/
def fr (b : Int) (φ : aF) (α : aA) (φ' : aF) (α' : aA) : Prop :=
  (∀ c f o, ¬ (c = 7 ∧ o = b ∧ (f = 0 ∨ f = 9 ∨ f = 10)) → φ' c f o = φ c f o) ∧ ∀ a : Int, ¬ (b < a ∧ a < b + 6) → a ≠ 189 → α' a = α a
theorem fr.rf {b : Int} {φ : aF} {α : aA} : fr b φ α φ α := ⟨fun _ _ _ _ => rfl, fun _ _ _ => rfl⟩
theorem fr.tr {b : Int} {φ φ1 φ2 : aF} {α α1 α2 : aA} (h : fr b φ α φ1 α1) (h' : fr b φ1 α1 φ2 α2) : fr b φ α φ2 α2 := ⟨fun c f o q => (h'.1 c f o q).trans (h.1 c f o q), fun a q1 q2 => (h'.2 a q1 q2).trans (h.2 a q1 q2)⟩
/-- a loop that counts: its pure form -/
def itF (f : Int → Nat → Int) (a : Int) : Nat → Int
  | 0 => a
  | n + 1 => f (itF f a n) n
def knF (nw : Int → Int) (m : Int) : Nat → Int := itF (fun x c => if 0 < nw (2 + 5 * (c : Int) + m) then iOr x (iShl 1 c) else x) 0
def hdF (nw : Int → Int) (m : Int) : Nat → Int := itF (fun x c => x + nw (2 + 5 * (c : Int) + m)) 0
section C2
variable {d : Nat} {φ : aF} {α : aA} {Q : Int → aF → aA → Prop} {b x y c m k v s p : Int} {n M ns : Nat} {nw rm : Int → Int}
theorem c_dropsOf (hb : isSt b) (X : XS b φ α n nw) (h1 : 0 ≤ c ∧ c < 7) (h2 : 0 ≤ m ∧ m < 4) (h : Q (nw (2 + 5 * c + m)) φ α) : eX7_dropsOf d b c m φ α Q :=
  vX7_dropsOf_0 hb ⟨fun c => by omega, fun _ => ⟨fun c => by omega, fun _ => ⟨fun c => by omega, fun _ => ⟨fun c => by omega, fun _ => ⟨by unfold inR; omega, by unfold inR; omega, ⟨by omega, by omega⟩, by rw [X.2.2.2.1 c m h1.1 h1.2 h2.1 h2.2]; exact h⟩⟩⟩⟩⟩
theorem c_sitterAt (hb : isSt b) (X : XS b φ α n nw) (h1 : 0 ≤ s ∧ s < 9) (h : Q (sitF nw s n) φ α) : eX7_sitterAt d b s φ α Q :=
  vX7_sitterAt_0 hb ⟨fun c => by omega, fun _ => ⟨fun c => by omega, fun _ => ⟨⟨h1.1, by omega⟩, by rw [X.2.2.1 s h1.1 h1.2]; exact h⟩⟩⟩
theorem c_sitterAt0 (hb : isSt b) (h1 : ¬ (0 ≤ s ∧ s < 9)) (h : Q (-1) φ α) : eX7_sitterAt d b s φ α Q :=
  vX7_sitterAt_0 hb ⟨fun c => h, fun _ => ⟨fun c => h, fun _ => by omega⟩⟩
/-- who sits on a seat, wherever it is -/
theorem c_sitterAtA (hb : isSt b) (X : XS b φ α n nw) (G : GS n M ns rm nw) (h : Q (sitF nw s n) φ α) : eX7_sitterAt d b s φ α Q := by
  by_cases h1 : 0 ≤ s ∧ s < 9
  · exact c_sitterAt hb X h1 h
  · refine c_sitterAt0 hb h1 ?_
    have h9 := G.2.2.2.2.2.2
    rw [sitF_none (fun c hc q => by have := G.2.1 c hc; omega)] at h
    exact h
def absI (x : Int) : Int := if x < 0 then -x else x
theorem c_farOff (hb : isSt b) (X : XS b φ α n nw) (G : GS n M ns rm nw) (h1 : 0 ≤ c ∧ c < n) (h2 : 0 ≤ k ∧ k < n) (h : Q (absI (nw (1 + 5 * c) - nw (1 + 5 * k))) φ α) : eX7_farOff d b c k φ α Q := by
  have hn := G.2.2.2.2.2.2
  have e1 := X.2.1 c h1.1 h1.2
  have e2 := X.2.1 k h2.1 h2.2
  have g1 := G.2.1 c.toNat (by omega)
  have g2 := G.2.1 k.toNat (by omega)
  rw [Int.toNat_of_nonneg h1.1] at g1
  rw [Int.toNat_of_nonneg h2.1] at g2
  unfold absI at h
  refine vX7_farOff_0 hb ⟨fun c => by omega, fun _ => ⟨fun c => by omega, fun _ => ⟨fun c => by omega, fun _ => ⟨fun c => by omega, fun _ => ?_⟩⟩⟩⟩
  rw [e1, e2]
  refine ⟨⟨by omega, by omega⟩, ⟨by omega, by omega⟩, by unfold inR; omega, fun q => ?_, fun q => ⟨by unfold inR; omega, ?_⟩⟩
  · rwa [if_neg (by omega)] at h
  · rwa [if_pos (by omega)] at h
theorem c_poolOf (hb : isSt b) (X : XS b φ α n nw) (h1 : 0 ≤ p ∧ p < 3) (h2 : 0 ≤ m ∧ m < 4) (h : Q (nw (36 + 3 * m + p)) φ α) : eX7_poolOf (d + 1) b p m φ α Q :=
  vX7_poolOf_0 hb ⟨by unfold inR; omega, by unfold inR; omega, c_pick (st5 hb) ⟨by omega, by omega⟩ (by rw [X.2.2.2.2.2 p m h1.1 h1.2 h2.1 h2.2]; exact h)⟩
theorem itF_bd {f : Int → Nat → Int} {lo hi B : Int} (hB : 0 ≤ B) : ∀ (k N : Nat), k ≤ N → (∀ x (j : Nat), j < N → x ≤ f x j ∧ f x j ≤ x + B) → 0 ≤ itF f 0 k ∧ itF f 0 k ≤ B * k
  | 0, N, _, _ => ⟨by simp [itF], by simp [itF]⟩
  | k + 1, N, hk, h => by
    have ih := itF_bd (lo := lo) (hi := hi) hB k N (by omega) h
    have := h (itF f 0 k) k (by omega)
    rw [itF]
    refine ⟨by omega, ?_⟩
    rw [show B * ((k + 1 : Nat) : Int) = B * k + B by rw [Int.natCast_add, Int.mul_add]; simp]
    omega
def plF (nw : Int → Int) (p : Int) : Nat → Int := itF (fun x m => x + nw (36 + 3 * (m : Int) + p)) 0
theorem GS.pl (G : GS n M ns rm nw) (h1 : 0 ≤ p ∧ p < 3) {k : Nat} (hk : k ≤ 4) : 0 ≤ plF nw p k ∧ plF nw p k ≤ 9999 * k :=
  itF_bd (lo := 0) (hi := 0) (by omega) k 4 hk (fun x j hj => by have := G.2.2.2.2.2.1 j p (by omega) (by omega) h1.1 h1.2; omega)
theorem l_pooled (hb : isSt b) (X : XS b φ α n nw) (G : GS n M ns rm nw) (h1 : 0 ≤ p ∧ p < 3) (h : Q (plF nw p 4) φ α) : ∀ (r k : Nat), k + r = 4 → jX7_pooled_4 (d + 2) b p (plF nw p k) k φ α Q
  | 0, k, hk => vX7_pooled_4 hb ⟨fun c => by rw [show k = 4 by omega]; exact h, fun c => by omega⟩
  | r + 1, k, hk => vX7_pooled_4 hb ⟨fun c => by omega, fun _ => c_poolOf hb X h1 (by omega) (by
      have b1 := G.pl h1 (k := k) (by omega)
      have b2 := G.2.2.2.2.2.1 k p (by omega) (by omega) h1.1 h1.2
      exact ⟨by unfold inR; omega, by unfold inR; omega, l_pooled hb X G h1 h r (k + 1) (by omega)⟩)⟩
theorem c_pooled (hb : isSt b) (X : XS b φ α n nw) (G : GS n M ns rm nw) (h1 : 0 ≤ p ∧ p < 3) (h : Q (plF nw p 4) φ α) : eX7_pooled (d + 2) b p φ α Q := vX7_pooled_0 hb (l_pooled hb X G h1 h 4 0 rfl)
theorem GS.hd (G : GS n M ns rm nw) (h1 : 0 ≤ m ∧ m < 4) {k : Nat} (hk : k ≤ 7) : 0 ≤ hdF nw m k ∧ hdF nw m k ≤ 99 * k :=
  itF_bd (lo := 0) (hi := 0) (by omega) k 7 hk (fun x j hj => by have := G.drop (c := j) (by omega) (by omega) h1.1 h1.2; omega)
theorem l_heldOf (hb : isSt b) (X : XS b φ α n nw) (G : GS n M ns rm nw) (h1 : 0 ≤ m ∧ m < 4) (h : Q (hdF nw m 7) φ α) : ∀ (r k : Nat), k + r = 7 → jX7_heldOf_4 (d + 1) b m (hdF nw m k) k φ α Q
  | 0, k, hk => vX7_heldOf_4 hb ⟨fun c => by rw [show k = 7 by omega]; exact h, fun c => by omega⟩
  | r + 1, k, hk => vX7_heldOf_4 hb ⟨fun c => by omega, fun _ => c_dropsOf hb X (by omega) h1 (by
      have b1 := G.hd h1 (k := k) (by omega)
      have b2 := G.drop (c := k) (by omega) (by omega) h1.1 h1.2
      exact ⟨by unfold inR; omega, by unfold inR; omega, l_heldOf hb X G h1 h r (k + 1) (by omega)⟩)⟩
theorem c_heldOf (hb : isSt b) (X : XS b φ α n nw) (G : GS n M ns rm nw) (h1 : 0 ≤ m ∧ m < 4) (h : Q (hdF nw m 7) φ α) : eX7_heldOf (d + 1) b m φ α Q := vX7_heldOf_0 hb (l_heldOf hb X G h1 h 7 0 rfl)
theorem l_knowing (hb : isSt b) (X : XS b φ α n nw) (h1 : 0 ≤ m ∧ m < 4) (h : Q (knF nw m 7) φ α) : ∀ (r k : Nat), k + r = 7 → jX7_knowing_4 (d + 1) b m (knF nw m k) k φ α Q
  | 0, k, hk => vX7_knowing_4 hb ⟨fun c => by rw [show k = 7 by omega]; exact h, fun c => by omega⟩
  | r + 1, k, hk => vX7_knowing_4 hb ⟨fun c => by omega, fun _ => c_dropsOf hb X (by omega) h1 (by
      have ih := l_knowing hb X h1 h r (k + 1) (by omega)
      rw [show knF nw m (k + 1) = if 0 < nw (2 + 5 * (k : Int) + m) then iOr (knF nw m k) (iShl 1 k) else knF nw m k from rfl] at ih
      refine ⟨fun q => ⟨by unfold inR; omega, ?_⟩, fun q => ⟨by unfold inR; omega, ?_⟩⟩
      · rw [if_neg (by omega)] at ih; exact ih
      · rw [if_pos (by omega)] at ih; exact ih)⟩
theorem c_knowing (hb : isSt b) (X : XS b φ α n nw) (h1 : 0 ≤ m ∧ m < 4) (h : Q (knF nw m 7) φ α) : eX7_knowing (d + 1) b m φ α Q := vX7_knowing_0 hb (l_knowing hb X h1 h 7 0 rfl)
/-- the matter of which a clerk has most, and how much of it -/
def mdF (nw : Int → Int) (c : Int) : Nat → Int × Int
  | 0 => (-1, 0)
  | k + 1 => if (mdF nw c k).2 < nw (2 + 5 * c + k) then ((k : Int), nw (2 + 5 * c + k)) else mdF nw c k
theorem l_mindOf (hb : isSt b) (X : XS b φ α n nw) (h1 : 0 ≤ c ∧ c < 7) (h : Q (mdF nw c 4).1 φ α) : ∀ (r k : Nat), k + r = 4 → jX7_mindOf_7 (d + 1) b c (mdF nw c k).1 (mdF nw c k).2 k φ α Q
  | 0, k, hk => vX7_mindOf_7 hb ⟨fun c => by rw [show k = 4 by omega]; exact h, fun c => by omega⟩
  | r + 1, k, hk => vX7_mindOf_7 hb ⟨fun c => by omega, fun _ => c_dropsOf hb X h1 (by omega) (by
      have ih := l_mindOf hb X h1 h r (k + 1) (by omega)
      rw [mdF] at ih
      refine ⟨fun q => ⟨by unfold inR; omega, ?_⟩, fun q => c_dropsOf hb X h1 (by omega) ⟨by unfold inR; omega, ?_⟩⟩
      · rw [if_neg (by omega)] at ih; exact ih
      · rw [if_pos (by omega)] at ih; exact ih)⟩
theorem c_mindOf (hb : isSt b) (X : XS b φ α n nw) (h1 : 0 ≤ c ∧ c < 7) (h : Q (mdF nw c 4).1 φ α) : eX7_mindOf (d + 1) b c φ α Q := vX7_mindOf_0 hb (l_mindOf hb X h1 h 4 0 rfl)
end C2
