/-! from whom: the class -/
def spF (rm nw : Int → Int) (c v : Int) : Int := max 0 (v - (rm c - fullF nw c))
/-- v drops of m are told to c -/
def tlF (rm nw : Int → Int) (c m v : Int) : Int → Int := un (un nw (2 + 5 * c + m) (nw (2 + 5 * c + m) + (v - spF rm nw c v))) (36 + 3 * m) (nw (36 + 3 * m) + spF rm nw c v)
/-- what is seen on day t holds of nw -/
def AS (rw : Int → Int) (R : Int) (nw : Int → Int) (t : Int) : Prop := ∀ k : Int, 0 ≤ k → k < R → rw (4 * k) = t → nw (2 + 5 * rw (4 * k + 1) + rw (4 * k + 2)) = rw (4 * k + 3)
/-- c can have been told: the floor holds what is spilt, and all is as seen -/
def RS (n M ns : Nat) (rm : Int → Int) (cs : List Int) (rw : Int → Int) (R : Int) (nw : Int → Int) (m v : Int) (c : Int) : Prop :=
  nw (36 + 3 * m) + spF rm nw c v ≤ 9999 ∧ ∀ t : Nat, t ≤ 30 → ∀ k : Int, 0 ≤ k → k < R → rw (4 * k) = t → nw 0 + t ≤ 999 ∧ dN n M ns rm cs (tlF rm nw c m v) t (2 + 5 * rw (4 * k + 1) + rw (4 * k + 2)) = rw (4 * k + 3)
def isSet (n : Nat) (P : Int → Prop) (r : Int) : Prop := (0 ≤ r ∧ r < 128) ∧ ∀ k : Nat, k < 7 → (bt r k = 1 ↔ (k < n ∧ P k))
theorem isSet_u {n : Nat} {P : Int → Prop} {r r' : Int} (h : isSet n P r) (h' : isSet n P r') : r = r' := by
  have a1 := h.1
  have a2 := h'.1
  have e : r.toNat = r'.toNat := by
    refine Nat.eq_of_testBit_eq (fun k => ?_)
    by_cases hk : k < 7
    · have b1 := h.2 k hk
      have b2 := h'.2 k hk
      rw [← Int.toNat_of_nonneg a1.1, btn (by omega) hk] at b1
      rw [← Int.toNat_of_nonneg a2.1, btn (by omega) hk] at b2
      have b3 := b1.trans b2.symm
      cases e1 : Nat.testBit r.toNat k <;> cases e2 : Nat.testBit r'.toNat k <;> simp_all
    · have h7 : 2 ^ 7 ≤ 2 ^ k := Nat.pow_le_pow_right (by decide) (by omega)
      have h8 : r.toNat < 2 ^ k := Nat.lt_of_lt_of_le (by show r.toNat < 128; omega) h7
      have h9 : r'.toNat < 2 ^ k := Nat.lt_of_lt_of_le (by show r'.toNat < 128; omega) h7
      rw [Nat.testBit_lt_two_pow h8, Nat.testBit_lt_two_pow h9]
  omega
section HU
variable {d j : Nat} {φ φ' φ0 : aF} {α α' α0 : aA} {Q : Int → aF → aA → Prop} {b c o m x y z v s k ce side t m' p : Int} {n M ns : Nat} {rm nw nw' nw0 sr : Int → Int} {cs ct : List Int}
theorem sp_room (G : GS n M ns rm nw) (hc : 0 ≤ c ∧ c < n) : 0 ≤ rm c - fullF nw c ∧ rm c - fullF nw c ≤ 99 := by
  have hn := G.2.2.2.2.2.2
  have a1 := G.full hc.1 (show c < 7 by omega)
  have a3 := G.2.2.2.2.1 c hc.1 hc.2
  omega
theorem tlF_G (G : GS n M ns rm nw) (hc : 0 ≤ c ∧ c < n) (hm : 0 ≤ m ∧ m < M) (hv : 0 ≤ v ∧ v ≤ 99) (hf : nw (36 + 3 * m) + spF rm nw c v ≤ 9999) : GS n M ns rm (tlF rm nw c m v) := by
  have hs := sp_room G hc
  have s1 : spF rm nw c v = max 0 (v - (rm c - fullF nw c)) := rfl
  obtain ⟨g1, g2, g3, g4, g5, g6, g7⟩ := G
  have o : ∀ i : Int, i ≠ 2 + 5 * c + m → i ≠ 36 + 3 * m → tlF rm nw c m v i = nw i := fun i h1 h2 => by unfold tlF; rw [un_o h2, un_o h1]
  have dd : tlF rm nw c m v (2 + 5 * c + m) = nw (2 + 5 * c + m) + (v - spF rm nw c v) := by unfold tlF; rw [un_o (by omega), un_s]
  have pp : tlF rm nw c m v (36 + 3 * m) = nw (36 + 3 * m) + spF rm nw c v := by unfold tlF; rw [un_s]
  refine ⟨by rw [o 0 (by omega) (by omega)]; exact g1, fun c' h => by rw [o _ (by omega) (by omega)]; exact g2 c' h, fun c1 c2 h1 h2 h => g3 c1 c2 h1 h2 (by rw [o _ (by omega) (by omega), o _ (by omega) (by omega)] at h; exact h), fun c' m' q1 q2 q3 q4 => ?_, fun c' q1 q2 => ?_, fun m' p' q1 q2 q3 q4 => ?_, g7⟩
  · have w := g4 c' m' q1 q2 q3 q4
    by_cases e : c' = c ∧ m' = m
    · obtain ⟨rfl, rfl⟩ := e
      rw [dd]
      exact ⟨by omega, fun z => by omega⟩
    · rw [o _ (by omega) (by omega)]; exact w
  · have w := g5 c' q1 q2
    unfold tlF
    rw [fullF_un_o (by omega)]
    by_cases e : c' = c
    · subst e
      rw [fullF_un (by omega)]
      omega
    · rw [fullF_un_o (by omega)]; exact w
  · have w := g6 m' p' q1 q2 q3 q4
    by_cases e : m' = m ∧ p' = 0
    · obtain ⟨rfl, rfl⟩ := e
      rw [Int.add_zero] at w ⊢
      rw [pp]
      exact ⟨by omega, by omega, fun z => by omega⟩
    · rw [o _ (by omega) (by omega)]; exact w
theorem tlF_0 (hc : 0 ≤ c) (hm : 0 ≤ m) : tlF rm nw c m v 0 = nw 0 := by unfold tlF; rw [un_o (by omega), un_o (by omega)]
theorem c_canPour (hb : isSt b) (X : XS b φ α n nw) (G : GS n M ns rm nw) (O : XO φ α n M ns rm) (hrm : ∀ c : Int, 0 ≤ c → c < n → 0 ≤ rm c) (hc : 0 ≤ c ∧ c < n) (hm : 0 ≤ m ∧ m < 4) (hv : 0 ≤ v ∧ v ≤ 99) (h : Q (if nw (36 + 3 * m) + spF rm nw c v ≤ 9999 then 1 else 0) φ α) : eX9_canPour (d + 2) b c m v φ α Q := by
  have hs := sp_room G hc
  have w := G.2.2.2.2.2.1 m 0 hm.1 hm.2 (by omega) (by omega)
  rw [Int.add_zero] at w
  unfold spF at h
  refine vX9_canPour_0 hb (c_space hb X G O hrm hc ⟨by unfold inR; omega, c_max (c_poolOf hb X (by omega) hm ?_)⟩)
  rw [Int.add_zero]
  exact ⟨by unfold inR; omega, fun q => by rwa [if_neg (by omega)] at h, fun q => by rwa [if_pos (by omega)] at h⟩
theorem c_pour (hb : isSt b) (X : XS b φ α n nw) (G : GS n M ns rm nw) (O : XO φ α n M ns rm) (hrm : ∀ c : Int, 0 ≤ c → c < n → 0 ≤ rm c) (hc : 0 ≤ c ∧ c < n) (hm : 0 ≤ m ∧ m < M) (hv : 0 ≤ v ∧ v ≤ 99) (hf : nw (36 + 3 * m) + spF rm nw c v ≤ 9999) (h : ∀ φ' α', XS b φ' α' n (tlF rm nw c m v) → fr b φ α φ' α' → φ' 7 9 b = 0 → Q (spF rm nw c v) φ' α') : eX9_pour (d + 3) b c m v φ α Q := by
  have hn := G.2.2.2.2.2.2
  have hs := sp_room G hc
  have hbr := st_rng hb
  have w := G.2.2.2.2.2.1 m 0 hm.1 (by omega) (by omega) (by omega)
  rw [Int.add_zero] at w
  have a1 := G.drop hc.1 (show c < 7 by omega) hm.1 (show m < 4 by omega)
  have a2 := G.full hc.1 (show c < 7 by omega)
  have s1 : spF rm nw c v = max 0 (v - (rm c - fullF nw c)) := rfl
  have e1 : min v (rm c - fullF nw c) = v - spF rm nw c v := by omega
  refine vX9_pour_0 hb (c_space hb X G O hrm hc (c_min ?_))
  rw [e1]
  refine c_gain hb X (by omega) (by omega) (by unfold inR; omega) (by unfold inR; omega) (fun φ1 α1 X1 f1 s1 _ => ⟨by unfold inR; omega, ?_⟩)
  rw [show v - (v - spF rm nw c v) = spF rm nw c v by omega]
  refine c_addToPool hb hn.1 X1 (by omega) (by omega) (by rw [un_o (by omega), Int.add_zero]; unfold inR; omega) (fun α2 X2 f2 => ?_)
  rw [un_o (by omega), Int.add_zero, show min 9999 (nw (36 + 3 * m) + spF rm nw c v) = nw (36 + 3 * m) + spF rm nw c v by omega] at X2
  exact h φ1 α2 X2 (f1.tr f2) s1
/-- the class's row of what is seen -/
theorem Iv.seen (I : Iv n M ns rm cs ct sr j φ α) : iS n M φ α := I.2.2.2.2.2.2.2.2.2.1
theorem l_isAsSeenC {t : Int} (S : iS n M φ α0) (h6 : α 6 = α0 6) (hM : M ≤ 4) (hn : n ≤ 7) (X : XS 36 φ α n nw) (h : ∀ w : Int, (w = 1 ∧ AS (α0 236) (φ 11 55 198) nw t) ∨ (w = 0 ∧ ¬ AS (α0 236) (φ 11 55 198) nw t) → Q w φ α) : ∀ (r : Nat) (k : Int), 0 ≤ k → k + r = φ 11 55 198 → (∀ i : Int, 0 ≤ i → i < k → α0 236 (4 * i) = t → nw (2 + 5 * α0 236 (4 * i + 1) + α0 236 (4 * i + 2)) = α0 236 (4 * i + 3)) → jX0_isAsSeen_2 (d + 1) t (4 * k) φ α Q
  | 0, k, h0, hk, hp => by
    refine vX0_isAsSeen_2 ⟨fun _ => h 1 (Or.inl ⟨rfl, fun i q1 q2 q3 => hp i q1 (by omega) q3⟩), fun q => by have := S.1; omega⟩
  | r + 1, k, h0, hk, hp => by
    obtain ⟨s1, s2, s3, s4, s5⟩ := S
    have w := s5 k h0 (by omega)
    have at_ : ∀ (i : Int) (Q' : Int → aF → aA → Prop), 0 ≤ i → i < 4 → Q' (α0 236 (4 * k + i)) φ α → eX6_at d 5 (4 * k + i) φ α Q' := fun i Q' i1 i2 hq => c_at row5 (by omega) (by omega) (by show Q' (α 6 (4 * k + i)) φ α; rw [h6, s4 _ (by omega) (by omega)]; exact hq)
    have nx : (α0 236 (4 * k) = t → nw (2 + 5 * α0 236 (4 * k + 1) + α0 236 (4 * k + 2)) = α0 236 (4 * k + 3)) → jX0_isAsSeen_2 (d + 1) t (4 * k + 4) φ α Q := fun hq => by
      have := l_isAsSeenC ⟨s1, s2, s3, s4, s5⟩ h6 hM hn X h r (k + 1) (by omega) (by omega) (fun i q1 q2 q3 => by
        by_cases e : i = k
        · subst e; exact hq q3
        · exact hp i q1 (by omega) q3)
      rw [show 4 * (k + 1) = 4 * k + 4 by omega] at this
      exact this
    have a0 := at_ 0
    rw [Int.add_zero] at a0
    refine vX0_isAsSeen_2 ⟨fun q => by omega, fun _ => a0 _ (by omega) (by omega) ⟨fun q => ⟨by unfold inR; omega, nx (fun e => absurd e q)⟩, fun q => ⟨by unfold inR; omega, at_ 1 _ (by omega) (by omega) ⟨by unfold inR; omega, at_ 2 _ (by omega) (by omega) (c_dropsOf st36 X (by omega) (by omega) ⟨by unfold inR; omega, at_ 3 _ (by omega) (by omega) ⟨fun q2 => ⟨by unfold inR; omega, nx (fun _ => q2)⟩, fun q2 => h 0 (Or.inr ⟨rfl, fun hA => q2 (hA k h0 (by omega) q)⟩)⟩⟩)⟩⟩⟩⟩
theorem c_isAsSeen {t : Int} (S : iS n M φ α0) (h6 : α 6 = α0 6) (hM : M ≤ 4) (hn : n ≤ 7) (X : XS 36 φ α n nw) (h : ∀ w : Int, (w = 1 ∧ AS (α0 236) (φ 11 55 198) nw t) ∨ (w = 0 ∧ ¬ AS (α0 236) (φ 11 55 198) nw t) → Q w φ α) : eX0_isAsSeen (d + 1) t φ α Q := by
  have s2 := S.2.1
  refine vX0_isAsSeen_0 ?_
  have := l_isAsSeenC (d := d) (Q := Q) S h6 hM hn X h (φ 11 55 198).toNat 0 (by omega) (by omega) (fun i q1 q2 => by omega)
  simpa using this
/-- the last day of which something is seen -/
def isLast (rw : Int → Int) (R L : Int) : Prop := 0 ≤ L ∧ L ≤ 30 ∧ (∀ k : Int, 0 ≤ k → k < R → rw (4 * k) ≤ L) ∧ (L = 0 ∨ ∃ k : Int, 0 ≤ k ∧ k < R ∧ rw (4 * k) = L)
theorem l_lastSeen (S : iS n M φ α) (h : ∀ L, isLast (α 236) (φ 11 55 198) L → Q L φ α) : ∀ (r : Nat) (k L : Int), 0 ≤ k → k + r = φ 11 55 198 → isLast (α 236) k L → jX0_lastSeen_4 (d + 1) L (4 * k) φ α Q
  | 0, k, L, h0, hk, hL => vX0_lastSeen_4 ⟨fun _ => h L (by rw [show φ 11 55 198 = k by omega]; exact hL), fun q => by have := S.1; omega⟩
  | r + 1, k, L, h0, hk, hL => by
    obtain ⟨s1, s2, s3, s4, s5⟩ := S
    have w := s5 k h0 (by omega)
    have e : α 6 (4 * k) = α 236 (4 * k) := s4 _ (by omega) (by omega)
    refine vX0_lastSeen_4 ⟨fun q => by omega, fun _ => c_at row5 (by omega) (by omega) (c_max ⟨by unfold inR; omega, ?_⟩)⟩
    rw [show α (5 + 1) (4 * k) = α 236 (4 * k) from e]
    have := l_lastSeen ⟨s1, s2, s3, s4, s5⟩ h r (k + 1) (max L (α 236 (4 * k))) (by omega) (by omega) (by
      obtain ⟨l1, l2, l3, l4⟩ := hL
      refine ⟨by omega, by omega, fun i q1 q2 => ?_, ?_⟩
      · by_cases z : i = k
        · subst z; omega
        · have := l3 i q1 (by omega); omega
      · by_cases z : α 236 (4 * k) ≤ L
        · rw [show max L (α 236 (4 * k)) = L by omega]
          rcases l4 with l4 | ⟨i, i1, i2, i3⟩
          · exact Or.inl l4
          · exact Or.inr ⟨i, i1, by omega, i3⟩
        · rw [show max L (α 236 (4 * k)) = α 236 (4 * k) by omega]
          exact Or.inr ⟨k, h0, by omega, rfl⟩)
    rw [show 4 * (k + 1) = 4 * k + 4 by omega] at this
    exact this
theorem c_lastSeen (S : iS n M φ α) (h : ∀ L, isLast (α 236) (φ 11 55 198) L → Q L φ α) : eX0_lastSeen (d + 1) φ α Q := by
  have s2 := S.2.1
  refine vX0_lastSeen_0 ?_
  have := l_lastSeen (d := d) (Q := Q) S h (φ 11 55 198).toNat 0 0 (by omega) (by omega) ⟨by omega, by omega, fun k q1 q2 => by omega, Or.inl rfl⟩
  simpa using this
/-- the class's test of a clerk -/
def CSr (n M ns : Nat) (rm : Int → Int) (cs : List Int) (rw : Int → Int) (R : Int) (nw : Int → Int) (m v : Int) (L : Nat) (c : Int) : Prop :=
  nw (36 + 3 * m) + spF rm nw c v ≤ 9999 ∧ ∀ t : Nat, t ≤ L → AS rw R (dN n M ns rm cs (tlF rm nw c m v) t) t
theorem CS_RS {L : Nat} {rw : Int → Int} {R : Int} (hL : isLast rw R L) (hd : nw 0 + (L : Int) ≤ 999) : CSr n M ns rm cs rw R nw m v L c ↔ RS n M ns rm cs rw R nw m v c := by
  obtain ⟨l1, l2, l3, l4⟩ := hL
  constructor
  · rintro ⟨h1, h2⟩
    refine ⟨h1, fun t ht k q1 q2 q3 => ?_⟩
    have := l3 k q1 q2
    exact ⟨by omega, h2 t (by omega) k q1 q2 q3⟩
  · rintro ⟨h1, h2⟩
    exact ⟨h1, fun t ht k q1 q2 q3 => (h2 t (by omega) k q1 q2 q3).2⟩
theorem RS_no {L : Nat} {rw : Int → Int} {R : Int} (hL : isLast rw R L) (hd0 : nw 0 ≤ 999) (hd : ¬ (nw 0 + (L : Int) ≤ 999)) : ¬ RS n M ns rm cs rw R nw m v c := by
  obtain ⟨l1, l2, l3, l4⟩ := hL
  rintro ⟨h1, h2⟩
  rcases l4 with l4 | ⟨k, k1, k2, k3⟩
  · omega
  · exact hd (h2 L (by omega) k k1 k2 k3).1
theorem l_isSource48 {L : Nat} (S : iS n M φ0 α0) (hM : M ≤ 4) (hn : n ≤ 7) (hL30 : L ≤ 30) (G : GS n M ns rm nw) (hd : nw 0 + 100 ≤ 1999) (h : ∀ φ' α' w, frd 36 φ0 α0 φ' α' → (w = 1 ∧ (∀ t : Nat, t ≤ L → AS (α0 236) (φ0 11 55 198) (dN n M ns rm cs nw t) t) ∨ w = 0 ∧ ¬ (∀ t : Nat, t ≤ L → AS (α0 236) (φ0 11 55 198) (dN n M ns rm cs nw t) t)) → Q w φ' α') : ∀ (r k : Nat), k + r = L + 1 → (∀ t : Nat, t < k → AS (α0 236) (φ0 11 55 198) (dN n M ns rm cs nw t) t) → ∀ (φ : aF) (α : aA), TR n M ns rm cs φ α (dN n M ns rm cs nw (k - 1)) → frd 36 φ0 α0 φ α → jX0_isSource_48 (d + 5) L k φ α Q
  | 0, k, hk, hp, φ, α, T, f => vX0_isSource_48 ⟨fun _ => h φ α 1 f (Or.inl ⟨rfl, fun t ht => hp t (by omega)⟩), fun q => by omega⟩
  | r + 1, k, hk, hp, φ, α, T, f => by
    have go : ∀ φ1 α1, TR n M ns rm cs φ1 α1 (dN n M ns rm cs nw k) → frd 36 φ0 α0 φ1 α1 → eX0_isAsSeen (d + 4) k φ1 α1 (fun r3 φ3 α3 => ((¬ r3 = 0 → inR ((k : Int) + 1) ∧ (jX0_isSource_48 (d + 5) L ((k : Int) + 1) φ3 α3 Q)) ∧ (r3 = 0 → (Q 0 φ3 α3)))) := by
      intro φ1 α1 T1 f1
      have e55 : φ1 11 55 198 = φ0 11 55 198 := f1.1 _ _ _ (by omega)
      have S1 : iS n M φ1 α0 := by
        unfold iS at S ⊢
        rw [f1.1 6 1 5 (by omega), e55]
        exact S
      refine c_isAsSeen S1 (f1.2 6 (by omega) (by omega) (by omega)) hM hn T1.1 (fun w hw => ?_)
      rw [e55] at hw
      rcases hw with ⟨rfl, hA⟩ | ⟨rfl, hA⟩
      · refine ⟨fun _ => ⟨by unfold inR; omega, ?_⟩, fun q => by omega⟩
        have := l_isSource48 S hM hn hL30 G hd h r (k + 1) (by omega) (fun t ht => by
          by_cases e : t = k
          · subst e; exact hA
          · exact hp t (by omega)) φ1 α1 T1 f1
        simpa using this
      · exact ⟨fun q => absurd rfl q, fun _ => h φ1 α1 0 f1 (Or.inr ⟨rfl, fun hall => hA (hall k (by omega))⟩)⟩
    refine vX0_isSource_48 ⟨fun q => by omega, fun _ => ⟨fun q => ?_, fun q => ?_⟩⟩
    · have e : k = 0 := by omega
      subst e
      exact go φ α T f
    · have g := dN_o (cs := cs) (k := 100) G hd (k - 1) (by omega)
      refine c_dayTR T (by omega) (fun φ1 α1 T1 f1 => go φ1 α1 ?_ (f.tr f1))
      have e : k = (k - 1) + 1 := by omega
      rw [e]
      exact T1
theorem c_isSource {L : Nat} (I : Iv n M ns rm cs ct sr j φ α) (E : XE φ α n M ns rm cs) (hL30 : L ≤ 30) (hc : 0 ≤ c ∧ c < n) (hm : 0 ≤ m ∧ m < M) (hv : 0 ≤ v ∧ v ≤ 99) (h : ∀ φ' α' w, frd 36 φ α φ' α' → (w = 1 ∧ CSr n M ns rm cs (α 236) (φ 11 55 198) (α 233) m v L c ∨ w = 0 ∧ ¬ CSr n M ns rm cs (α 236) (φ 11 55 198) (α 233) m v L c) → Q w φ' α') : eX0_isSource (d + 5) c m v L φ α Q := by
  have hn := I.G.2.2.2.2.2.2
  have D := I.D
  refine vX0_isSource_0 (c_canPour st29 I.X I.G I.XO I.rm0 hc (by omega) hv ?_)
  by_cases e : α 233 (36 + 3 * m) + spF rm (α 233) c v ≤ 9999
  · rw [if_pos e]
    refine ⟨fun _ => c_copyTR I E (fun φ1 α1 T1 f1 => c_pour st36 T1.1 T1.2.1 T1.2.2.1.1 I.rm0 hc hm hv e (fun φ2 α2 X2 f2 s2 => ?_)), fun q => by omega⟩
    have G2 := tlF_G I.G hc hm hv e
    have T2 : TR n M ns rm cs φ2 α2 (tlF rm (α 233) c m v) := ⟨X2, G2, XE_frd st36 f2.d T1.2.2.1, Or.inl s2⟩
    have := l_isSource48 (d := d) (Q := Q) (φ0 := φ) (α0 := α) (L := L) (cs := cs) I.seen hn.2.1 hn.1 hL30 G2 (by rw [tlF_0 hc.1 hm.1]; omega) (fun φ' α' w f' hw => h φ' α' w f' (by
      rcases hw with ⟨w1, w2⟩ | ⟨w1, w2⟩
      · exact Or.inl ⟨w1, e, w2⟩
      · exact Or.inr ⟨w1, fun q => w2 q.2⟩)) (L + 1) 0 (by omega) (fun t ht => by omega) φ2 α2 T2 (f1.tr f2.d)
    simpa using this
  · rw [if_neg e]
    exact ⟨fun q => absurd rfl q, fun _ => h φ α 0 frd.rf (Or.inr ⟨rfl, fun q => e q.1⟩)⟩
theorem Iv_55 (f : frd 36 φ α φ' α') : φ' 11 55 198 = φ 11 55 198 ∧ α' 236 = α 236 ∧ α' 233 = α 233 := ⟨f.1 _ _ _ (by omega), f.2 _ (by omega) (by omega) (by omega), f.2 _ (by omega) (by omega) (by omega)⟩
theorem l_findSources {L : Nat} {rw : Int → Int} {R : Int} (hL30 : L ≤ 30) (hm : 0 ≤ m ∧ m < M) (hv : 0 ≤ v ∧ v ≤ 99) (h : ∀ φ' α' r, Iv n M ns rm cs ct sr j φ' α' → α' 233 = nw → α' 236 = rw → φ' 11 55 198 = R → isSet n (CSr n M ns rm cs rw R nw m v L) r → Q r φ' α') : ∀ (r k : Nat), k + r = n → ∀ (i : Int) (φ : aF) (α : aA), Iv n M ns rm cs ct sr j φ α → α 233 = nw → α 236 = rw → φ 11 55 198 = R → isSet k (CSr n M ns rm cs rw R nw m v L) i → jX0_findSources_28 (d + 6) m v L i k φ α Q
  | 0, k, hk, i, φ, α, I, e1, e2, e3, hi => by
    have z : k = n := by omega
    subst z
    exact vX0_findSources_28 ⟨fun _ => h φ α i I e1 e2 e3 hi, fun q => by have := I.XO.2.2.1; omega⟩
  | r + 1, k, hk, i, φ, α, I, e1, e2, e3, hi => by
    have hn := I.G.2.2.2.2.2.2
    obtain ⟨op, E, ME, SH⟩ := I.open_ (by omega)
    refine vX0_findSources_28 ⟨fun q => by have := I.XO.2.2.1; omega, fun _ => c_isSource I E hL30 (by omega) hm hv (fun φ1 α1 w f1 hw => ?_)⟩
    rw [e1, e2, e3] at hw
    have I1 := Iv_frd f1 I
    obtain ⟨g1, g2, g3⟩ := Iv_55 f1
    have nx : ∀ i', isSet (k + 1) (CSr n M ns rm cs rw R nw m v L) i' → jX0_findSources_28 (d + 6) m v L i' ((k : Int) + 1) φ1 α1 Q := fun i' hi' => by
      have := l_findSources hL30 hm hv h r (k + 1) (by omega) i' φ1 α1 I1 (g3.trans e1) (g2.trans e2) (g1.trans e3) hi'
      simpa using this
    rcases hw with ⟨rfl, hw⟩ | ⟨rfl, hw⟩
    · refine ⟨fun q => by omega, fun _ => ⟨by unfold inR; omega, nx _ ?_⟩⟩
      obtain ⟨b1, b2⟩ := @bto i k hi.1 (by omega)
      refine ⟨b1, fun t ht => ?_⟩
      rw [b2 t ht]
      by_cases z : t = k
      · subst z; rw [if_pos rfl]; exact ⟨fun _ => ⟨by omega, hw⟩, fun _ => rfl⟩
      · rw [if_neg z, hi.2 t ht]
        exact ⟨fun q => ⟨by omega, q.2⟩, fun q => ⟨by omega, q.2⟩⟩
    · refine ⟨fun _ => ⟨by unfold inR; omega, nx _ ⟨hi.1, fun t ht => ?_⟩⟩, fun q => absurd rfl q⟩
      rw [hi.2 t ht]
      refine ⟨fun q => ⟨by omega, q.2⟩, fun q => ⟨?_, q.2⟩⟩
      by_cases z : t = k
      · subst z; exact absurd q.2 hw
      · omega
theorem bt0_all : (List.range 7).all (fun c => decide (bt 0 (c : Int) = 0)) = true := by decide +kernel
theorem bt0 {k : Nat} (hk : k < 7) : bt 0 (k : Int) = 0 := of_decide_eq_true (List.all_eq_true.mp bt0_all k (List.mem_range.mpr hk))
theorem isSet_0 {P : Int → Prop} (h : ∀ k : Nat, k < n → ¬ P k) : isSet n P 0 := ⟨by omega, fun k hk => by rw [bt0 hk]; exact ⟨fun q => by omega, fun q => absurd q.2 (h k q.1)⟩⟩
theorem isSet_ext {P P' : Int → Prop} {r : Int} (h : ∀ k : Nat, k < n → (P k ↔ P' k)) (hs : isSet n P r) : isSet n P' r := ⟨hs.1, fun k hk => by rw [hs.2 k hk]; exact ⟨fun q => ⟨q.1, (h k q.1).mp q.2⟩, fun q => ⟨q.1, (h k q.1).mpr q.2⟩⟩⟩
theorem c_findSources (I : Iv n M ns rm cs ct sr j φ α) (hm : 0 ≤ m ∧ m < M) (hv : 0 ≤ v ∧ v ≤ 99) (h : ∀ φ' α' r, Iv n M ns rm cs ct sr j φ' α' → α' 233 = α 233 → α' 236 = α 236 → φ' 11 55 198 = φ 11 55 198 → isSet n (RS n M ns rm cs (α 236) (φ 11 55 198) (α 233) m v) r → Q r φ' α') : eX0_findSources (d + 6) m v φ α Q := by
  have D := I.D
  have g0 := I.G.1
  refine vX0_findSources_0 (c_lastSeen I.seen (fun L hL => ?_))
  obtain ⟨L, rfl⟩ : ∃ L' : Nat, L = L' := ⟨L.toNat, by have := hL.1; omega⟩
  rw [I.X.1]
  have l2 := hL.2.1
  refine ⟨by unfold inR; omega, fun q => ?_, fun q => ?_⟩
  · have := l_findSources (d := d) (Q := Q) (L := L) (rw := α 236) (R := φ 11 55 198) (nw := α 233) (by omega) hm hv (fun φ' α' r I' z1 z2 z3 hs => h φ' α' r I' z1 z2 z3 (isSet_ext (fun k _ => CS_RS hL q) hs)) n 0 (by omega) 0 φ α I rfl rfl rfl (isSet_0 (fun k hk => by omega))
    simpa using this
  · exact h φ α 0 I rfl rfl rfl (isSet_0 (fun k _ => RS_no hL D q))
end HU
