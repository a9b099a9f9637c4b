theorem st_apart {b b2 : Int} (h : isSt b) (h2 : isSt b2) (hne : b ≠ b2) : b + 7 ≤ b2 ∨ b2 + 7 ≤ b := by
  rcases h with rfl | rfl | ⟨j, hj, rfl⟩ <;> rcases h2 with rfl | rfl | ⟨j2, hj2, rfl⟩ <;> omega
theorem st_rng {b : Int} (h : isSt b) : 29 ≤ b ∧ b ≤ 178 := by
  rcases h with rfl | rfl | ⟨j, hj, rfl⟩ <;> omega
section C4
variable {d : Nat} {φ φ' : aF} {α α' : aA} {Q : Int → aF → aA → Prop} {b b2 x y c m k v s p : Int} {n M ns : Nat} {nw rm : Int → Int}
theorem XS_of (h0 : φ' 7 0 b = φ 7 0 b) (ha : ∀ j : Int, 1 ≤ j → j ≤ 5 → α' (b + j) = α (b + j)) (X : XS b φ α n nw) : XS b φ' α' n nw := by
  obtain ⟨x1, x2, x3, x4, x5, x6⟩ := X
  refine ⟨by rw [h0]; exact x1, ?_, ?_, ?_, ?_, ?_⟩
  · rw [ha 1 (by omega) (by omega)]; exact x2
  · rw [ha 2 (by omega) (by omega)]; exact x3
  · rw [ha 3 (by omega) (by omega)]; exact x4
  · rw [ha 4 (by omega) (by omega)]; exact x5
  · rw [ha 5 (by omega) (by omega)]; exact x6
theorem XS_fr (hb : isSt b) (hb2 : isSt b2) (hne : b ≠ b2) (hf : fr b φ α φ' α') (X : XS b2 φ α n nw) : XS b2 φ' α' n nw := by
  have h := st_apart hb hb2 hne
  have h2 := st_rng hb2
  exact XS_of (hf.1 _ _ _ (by omega)) (fun j h1 h2 => hf.2 _ (by omega) (by omega)) X
/-- another nw that is alike where it counts -/
theorem XS_nw {nw' : Int → Int} (hn : n ≤ 7) (h : ∀ i, 0 ≤ i → i < 48 → nw' i = nw i) (X : XS b φ α n nw) : XS b φ α n nw' := by
  obtain ⟨x1, x2, x3, x4, x5, x6⟩ := X
  refine ⟨by rw [h 0 (by omega) (by omega)]; exact x1, fun c q1 q2 => by rw [h _ (by omega) (by omega)]; exact x2 c q1 q2, fun s q1 q2 => by rw [x3 s q1 q2]; exact (sitF_ext (fun c hc => h _ (by omega) (by omega))).symm, fun c m q1 q2 q3 q4 => by rw [h _ (by omega) (by omega)]; exact x4 c m q1 q2 q3 q4, fun c q1 q2 => ?_, fun p m q1 q2 q3 q4 => by rw [h _ (by omega) (by omega)]; exact x6 p m q1 q2 q3 q4⟩
  unfold fullF
  rw [h _ (by omega) (by omega), h _ (by omega) (by omega), h _ (by omega) (by omega), h _ (by omega) (by omega)]
  exact x5 c q1 q2
theorem c_copyRoom (hb : isSt b) (hb2 : isSt b2) (hne : b ≠ b2) (hn : n ≤ 7) (X : XS b2 φ α n nw) (hz : φ 7 9 b2 = 0 ∨ φ 7 9 b2 = 1) (h : ∀ φ' α', XS b φ' α' n nw → fr b φ α φ' α' → φ' 7 9 b = φ 7 9 b2 → φ' 7 10 b = φ 7 10 b2 → Q 0 φ' α') : eX7_copyRoom (d + 2) b b2 φ α Q := by
  have hap := st_apart hb hb2 hne
  refine vX7_copyRoom_0 hb hb2 (c_copy (st1 hb2) (st1 hb) (c_copy (st2 hb2) (st2 hb) (c_copy (st3 hb2) (st3 hb) (c_copy (st4 hb2) (st4 hb) (c_copy (st5 hb2) (st5 hb) ?_)))))
  have e0 : upf φ 7 0 b (φ 7 0 b2) 7 9 b2 = φ 7 9 b2 := upf_o (by omega)
  have e1 : upf φ 7 0 b (φ 7 0 b2) 7 10 b2 = φ 7 10 b2 := upf_o (by omega)
  rw [e0, e1]
  refine ⟨hz, ?_⟩
  simp (disch := omega) only [rg_ne]
  refine h _ _ ?_ ((((((fr_f (Or.inl rfl)).tr (fr_rg (by omega))).tr (fr_rg (by omega))).tr (fr_rg (by omega))).tr (fr_rg (by omega))).tr ((fr_rg (by omega)).tr ((fr_f (Or.inr (Or.inl rfl))).tr (fr_f (Or.inr (Or.inr rfl)))))) (by rw [upf_o (by omega), upf_s]) upf_s
  obtain ⟨x1, x2, x3, x4, x5, x6⟩ := X
  refine ⟨by rw [upf_o (by omega), upf_o (by omega), upf_s]; exact x1, fun c q1 q2 => ?_, fun s q1 q2 => ?_, fun c m q1 q2 q3 q4 => ?_, fun c q1 q2 => ?_, fun p m q1 q2 q3 q4 => ?_⟩
  · rw [rg_ne (by omega), rg_ne (by omega), rg_ne (by omega), rg_ne (by omega), rg_in (by omega)]; exact x2 c q1 q2
  · rw [rg_ne (by omega), rg_ne (by omega), rg_ne (by omega), rg_in (by omega)]; exact x3 s q1 q2
  · rw [rg_ne (by omega), rg_ne (by omega), rg_in (by omega)]; exact x4 c m q1 q2 q3 q4
  · rw [rg_ne (by omega), rg_in (by omega)]; exact x5 c q1 q2
  · rw [rg_in (by omega)]; exact x6 p m q1 q2 q3 q4
/-- two seats change: what nw becomes -/
def swF (nw : Int → Int) (n : Nat) (s t : Int) : Int → Int :=
  let one := sitF nw s n
  let other := sitF nw t n
  let n1 := if 0 ≤ one then un nw (1 + 5 * one) t else nw
  if 0 ≤ other then un n1 (1 + 5 * other) s else n1
theorem swF_o {i : Int} (G : GS n M ns rm nw) (hi : ∀ c : Nat, c < n → i ≠ 1 + 5 * (c : Int)) : swF nw n s x i = nw i := by
  unfold swF
  have g1 := G.sit s
  have g2 := G.sit x
  have k : ∀ z : Int, 0 ≤ z → z < n → i ≠ 1 + 5 * z := fun z h1 h2 => by have := hi z.toNat (by omega); omega
  by_cases h1 : 0 ≤ sitF nw s n <;> by_cases h2 : 0 ≤ sitF nw x n
  · rw [if_pos h1, if_pos h2, un_o (k _ h2 (by omega)), un_o (k _ h1 (by omega))]
  · rw [if_pos h1, if_neg h2, un_o (k _ h1 (by omega))]
  · rw [if_neg h1, if_pos h2, un_o (k _ h2 (by omega))]
  · rw [if_neg h1, if_neg h2]
theorem swF_seat (G : GS n M ns rm nw) (hst : s ≠ x) {c : Nat} (hc : c < n) : swF nw n s x (1 + 5 * (c : Int)) = if nw (1 + 5 * (c : Int)) = s then x else if nw (1 + 5 * (c : Int)) = x then s else nw (1 + 5 * (c : Int)) := by
  unfold swF
  have hu := G.2.2.1
  have g1 := sitF_cases nw s n
  have g2 := sitF_cases nw x n
  rcases g1 with ⟨a1, a2⟩ | ⟨v, a1, a2, a3⟩ <;> rcases g2 with ⟨b1, b2⟩ | ⟨w, b1, b2, b3⟩
  · rw [a1, b1, if_neg (by omega), if_neg (by omega), if_neg (a2 c hc), if_neg (b2 c hc)]
  · rw [a1, b2, if_pos (by omega), if_neg (by omega)]
    by_cases e : c = w
    · subst e; rw [un_s, if_neg (a2 c hc), if_pos b3]
    · rw [un_o (by omega), if_neg (a2 c hc), if_neg (fun q => e (hu c w hc b1 (q.trans b3.symm)))]
  · rw [a2, b1, if_neg (by omega), if_pos (by omega)]
    by_cases e : c = v
    · subst e; rw [un_s, if_pos a3]
    · rw [un_o (by omega), if_neg (fun q => e (hu c v hc a1 (q.trans a3.symm))), if_neg (b2 c hc)]
  · rw [a2, b2, if_pos (by omega), if_pos (by omega)]
    by_cases e : c = w
    · subst e
      rw [un_s, if_neg (by rw [b3]; exact fun q => hst q.symm), if_pos b3]
    · rw [un_o (by omega)]
      by_cases e2 : c = v
      · subst e2; rw [un_s, if_pos a3]
      · rw [un_o (by omega), if_neg (fun q => e2 (hu c v hc a1 (q.trans a3.symm))), if_neg (fun q => e (hu c w hc b1 (q.trans b3.symm)))]
theorem swF_inj (G : GS n M ns rm nw) (hst : s ≠ x) : ∀ c c' : Nat, c < n → c' < n → swF nw n s x (1 + 5 * (c : Int)) = swF nw n s x (1 + 5 * (c' : Int)) → c = c' := by
  intro c c' h1 h2 h
  rw [swF_seat G hst h1, swF_seat G hst h2] at h
  have hu := G.2.2.1 c c' h1 h2
  by_cases e1 : nw (1 + 5 * (c : Int)) = s <;> by_cases e2 : nw (1 + 5 * (c' : Int)) = s <;> by_cases e3 : nw (1 + 5 * (c : Int)) = x <;> by_cases e4 : nw (1 + 5 * (c' : Int)) = x <;> simp only [e1, e2, e3, e4, if_true, if_false] at h <;> first | exact hu (by omega) | (exfalso; omega)
/-- who sits where behind the change -/
theorem swF_sit (G : GS n M ns rm nw) (hst : s ≠ x) (t : Int) : sitF (swF nw n s x) t n = if t = s then sitF nw x n else if t = x then sitF nw s n else sitF nw t n := by
  have hu := G.2.2.1
  have hi := swF_inj G hst
  have key : ∀ (t t' : Int), (∀ c : Nat, c < n → (swF nw n s x (1 + 5 * (c : Int)) = t ↔ nw (1 + 5 * (c : Int)) = t')) → sitF (swF nw n s x) t n = sitF nw t' n := by
    intro t t' h
    rcases sitF_cases nw t' n with ⟨a1, a2⟩ | ⟨v, a1, a2, a3⟩
    · rw [a1]; exact sitF_none (fun c hc q => a2 c hc ((h c hc).mp q))
    · rw [a2]
      exact sitF_some a1 ((h v a1).mpr a3) (fun c hc q => hi c v hc a1 (q.trans ((h v a1).mpr a3).symm))
  by_cases e1 : t = s
  · rw [if_pos e1]
    refine key t x (fun c hc => ?_)
    rw [swF_seat G hst hc, e1]
    by_cases z1 : nw (1 + 5 * (c : Int)) = s
    · rw [if_pos z1]; constructor <;> intro q <;> omega
    · rw [if_neg z1]
      by_cases z2 : nw (1 + 5 * (c : Int)) = x
      · rw [if_pos z2]; constructor <;> intro q <;> omega
      · rw [if_neg z2]; constructor <;> intro q <;> omega
  · rw [if_neg e1]
    by_cases e2 : t = x
    · rw [if_pos e2]
      refine key t s (fun c hc => ?_)
      rw [swF_seat G hst hc, e2]
      by_cases z1 : nw (1 + 5 * (c : Int)) = s
      · rw [if_pos z1]; constructor <;> intro q <;> omega
      · rw [if_neg z1]
        by_cases z2 : nw (1 + 5 * (c : Int)) = x
        · rw [if_pos z2]; constructor <;> intro q <;> omega
        · rw [if_neg z2]; constructor <;> intro q <;> omega
    · rw [if_neg e2]
      refine key t t (fun c hc => ?_)
      rw [swF_seat G hst hc]
      by_cases z1 : nw (1 + 5 * (c : Int)) = s
      · rw [if_pos z1]; constructor <;> intro q <;> omega
      · rw [if_neg z1]
        by_cases z2 : nw (1 + 5 * (c : Int)) = x
        · rw [if_pos z2]; constructor <;> intro q <;> omega
        · rw [if_neg z2]
theorem fullF_nw {nw' : Int → Int} (h : ∀ i, 2 + 5 * c ≤ i → i ≤ 5 + 5 * c → nw' i = nw i) : fullF nw' c = fullF nw c := by
  unfold fullF
  rw [h _ (by omega) (by omega), h _ (by omega) (by omega), h _ (by omega) (by omega), h _ (by omega) (by omega)]
theorem c_swap (hb : isSt b) (X : XS b φ α n nw) (G : GS n M ns rm nw) (hs : 0 ≤ s ∧ s < 9) (hx : 0 ≤ x ∧ x < 9) (hne : s ≠ x) (h : ∀ φ' α', XS b φ' α' n (swF nw n s x) → fr b φ α φ' α' → φ' 7 9 b = 0 → Q 0 φ' α') : eX7_swap (d + 1) b s x φ α Q := by
  have hn := G.2.2.2.2.2.2
  have g1 := G.sit s
  have g2 := G.sit x
  refine vX7_swap_0 hb (c_sitterAt hb X hs (c_sitterAt hb X hx (c_set (st2 hb) ⟨hs.1, by omega⟩ (c_set (st2 hb) ⟨hx.1, by omega⟩ ?_))))
  have base : ∀ α', (∀ j : Int, 3 ≤ j → j ≤ 5 → α' (b + j) = α (b + j)) → (∀ t : Int, 0 ≤ t → t < 9 → α' (b + 2) t = upa (upa α (b + 2) s (sitF nw x n)) (b + 2) x (sitF nw s n) (b + 2) t) → (∀ c : Int, 0 ≤ c → c < n → α' (b + 1) c = swF nw n s x (1 + 5 * c)) → XS b (upf φ 7 9 b 0) α' n (swF nw n s x) := by
    intro α' h3 h2 h1
    obtain ⟨x1, x2, x3, x4, x5, x6⟩ := X
    refine ⟨by rw [upf_o (by omega), swF_o G (fun c _ => by omega)]; exact x1, h1, fun t q1 q2 => ?_, fun c m q1 q2 q3 q4 => ?_, fun c q1 q2 => ?_, fun p m q1 q2 q3 q4 => ?_⟩
    · rw [h2 t q1 q2, swF_sit G hne t]
      by_cases e1 : t = x
      · subst e1; rw [upa_eq, if_neg (fun q => hne q.symm), if_pos rfl]
      · rw [upa_ni e1]
        by_cases e2 : t = s
        · subst e2; rw [upa_eq, if_pos rfl]
        · rw [upa_ni e2, if_neg e2, if_neg e1]; exact x3 t q1 q2
    · rw [h3 3 (by omega) (by omega), swF_o G (fun c _ => by omega)]; exact x4 c m q1 q2 q3 q4
    · rw [h3 4 (by omega) (by omega), fullF_nw (fun i _ _ => swF_o G (fun c _ => by omega))]; exact x5 c q1 q2
    · rw [h3 5 (by omega) (by omega), swF_o G (fun c _ => by omega)]; exact x6 p m q1 q2 q3 q4
  have sw : ∀ c : Int, 0 ≤ c → c < n → swF nw n s x (1 + 5 * c) = if nw (1 + 5 * c) = s then x else if nw (1 + 5 * c) = x then s else nw (1 + 5 * c) := by
    intro c q1 q2
    have := swF_seat G hne (c := c.toNat) (by omega)
    rwa [Int.toNat_of_nonneg q1] at this
  have uq : ∀ c c' : Int, 0 ≤ c → c < n → 0 ≤ c' → c' < n → nw (1 + 5 * c) = nw (1 + 5 * c') → c = c' := by
    intro c c' q1 q2 q3 q4 q
    have := G.2.2.1 c.toNat c'.toNat (by omega) (by omega) (by rw [Int.toNat_of_nonneg q1, Int.toNat_of_nonneg q3]; exact q)
    omega
  have none_of : ∀ t : Int, sitF nw t n = -1 → ∀ c : Int, 0 ≤ c → c < n → nw (1 + 5 * c) ≠ t := by
    intro t ht c q1 q2 q
    rcases sitF_cases nw t n with ⟨a1, a2⟩ | ⟨v, a1, a2, a3⟩
    · exact a2 c.toNat (by omega) (by rw [Int.toNat_of_nonneg q1]; exact q)
    · omega
  have fin : ∀ α', fr b φ α φ α' → XS b (upf φ 7 9 b 0) α' n (swF nw n s x) → Q 0 (upf φ 7 9 b 0) α' := fun α' hf hX => h _ _ hX (hf.tr (fr_f (Or.inr (Or.inl rfl)))) upf_s
  rcases g1 with g1 | ⟨g1, g1', g1s⟩ <;> rcases g2 with g2 | ⟨g2, g2', g2s⟩
  · refine c_set0 (st1 hb) (by omega) (c_set0 (st1 hb) (by omega) (fin _ ((fr_a (by omega)).tr (fr_a (by omega))) (base _ (fun j _ _ => by rw [upa_fn (by omega), upa_fn (by omega)]) (fun t _ _ => rfl) (fun c q1 q2 => ?_))))
    rw [upa_fn (by omega), upa_fn (by omega), sw c q1 q2, if_neg (none_of s g1 c q1 q2), if_neg (none_of x g2 c q1 q2)]
    exact X.2.1 c q1 q2
  · refine c_set0 (st1 hb) (by omega) (c_set (st1 hb) ⟨g2, by omega⟩ (fin _ ((fr_a (by omega)).tr ((fr_a (by omega)).tr (fr_a (by omega)))) (base _ (fun j _ _ => by rw [upa_fn (by omega), upa_fn (by omega), upa_fn (by omega)]) (fun t _ _ => by rw [upa_fn (by omega)]) (fun c q1 q2 => ?_))))
    rw [sw c q1 q2, if_neg (none_of s g1 c q1 q2)]
    by_cases e : c = sitF nw x n
    · subst e; rw [upa_eq, if_pos g2s]
    · rw [upa_ni e, upa_fn (by omega), upa_fn (by omega), if_neg (fun q => e (uq c _ q1 q2 g2 g2' (q.trans g2s.symm)))]
      exact X.2.1 c q1 q2
  · refine c_set (st1 hb) ⟨g1, by omega⟩ (c_set0 (st1 hb) (by omega) (fin _ ((fr_a (by omega)).tr ((fr_a (by omega)).tr (fr_a (by omega)))) (base _ (fun j _ _ => by rw [upa_fn (by omega), upa_fn (by omega), upa_fn (by omega)]) (fun t _ _ => by rw [upa_fn (by omega)]) (fun c q1 q2 => ?_))))
    rw [sw c q1 q2]
    by_cases e : c = sitF nw s n
    · subst e; rw [upa_eq, if_pos g1s]
    · rw [upa_ni e, upa_fn (by omega), upa_fn (by omega), if_neg (fun q => e (uq c _ q1 q2 g1 g1' (q.trans g1s.symm))), if_neg (none_of x g2 c q1 q2)]
      exact X.2.1 c q1 q2
  · refine c_set (st1 hb) ⟨g1, by omega⟩ (c_set (st1 hb) ⟨g2, by omega⟩ (fin _ ((fr_a (by omega)).tr ((fr_a (by omega)).tr ((fr_a (by omega)).tr (fr_a (by omega))))) (base _ (fun j _ _ => by rw [upa_fn (by omega), upa_fn (by omega), upa_fn (by omega), upa_fn (by omega)]) (fun t _ _ => by rw [upa_fn (by omega), upa_fn (by omega)]) (fun c q1 q2 => ?_))))
    rw [sw c q1 q2]
    have hd2 : sitF nw s n ≠ sitF nw x n := fun q => hne (by rw [← g1s, ← g2s, q])
    by_cases e : c = sitF nw x n
    · subst e; rw [upa_eq, if_neg (by rw [g2s]; exact fun q => hne q.symm), if_pos g2s]
    · rw [upa_ni e]
      by_cases e2 : c = sitF nw s n
      · subst e2; rw [upa_eq, if_pos g1s]
      · rw [upa_ni e2, upa_fn (by omega), upa_fn (by omega), if_neg (fun q => e2 (uq c _ q1 q2 g1 g1' (q.trans g1s.symm))), if_neg (fun q => e (uq c _ q1 q2 g2 g2' (q.trans g2s.symm)))]
        exact X.2.1 c q1 q2
end C4
