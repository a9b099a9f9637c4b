/-! sets of clerks as bits; clerk, mops -/
def bc (s : Int) : Int := bt s 0 + bt s 1 + bt s 2 + bt s 3 + bt s 4 + bt s 5 + bt s 6
def ba1 (x : Int) : Int := x - (iAnd (iUshr x 1) 1431655765)
def ba2 (x : Int) : Int := (iAnd (ba1 x) 858993459) + (iAnd (iUshr (ba1 x) 2) 858993459)
def ba3 (x : Int) : Int := ba2 x + iUshr (ba2 x) 4
def ba4 (x : Int) : Int := iAnd (ba3 x) 252645135
def ba5 (x : Int) : Int := ba4 x + iUshr (ba4 x) 8
def ba6 (x : Int) : Int := ba5 x + iUshr (ba5 x) 16
def inRb (x : Int) : Bool := decide (-2147483648 ≤ x) && decide (x < 2147483648)
theorem inRb_t {x : Int} (h : inRb x = true) : inR x := by
  unfold inRb at h
  simp only [Bool.and_eq_true, decide_eq_true_eq] at h
  exact h
theorem ba_all : (List.range 128).all (fun s => inRb (ba1 (s : Int)) && inRb (ba2 (s : Int)) && inRb (ba3 (s : Int)) && inRb (ba5 (s : Int)) && inRb (ba6 (s : Int)) && decide (iAnd (ba6 (s : Int)) 63 = bc (s : Int))) = true := by decide +kernel
theorem bl_all : (List.range 128).all (fun s => (s == 0) || (decide (0 ≤ iAnd (s : Int) ((s : Int) - 1)) && decide (iAnd (s : Int) ((s : Int) - 1) < 128) && decide (bc (iAnd (s : Int) ((s : Int) - 1)) = bc (s : Int) - 1))) = true := by decide +kernel
theorem bc_bd {s : Int} (h : 0 ≤ s ∧ s < 128) : 0 ≤ bc s ∧ bc s ≤ 7 := by
  have := @bt01 s 0 h (by omega); have := @bt01 s 1 h (by omega); have := @bt01 s 2 h (by omega); have := @bt01 s 3 h (by omega); have := @bt01 s 4 h (by omega); have := @bt01 s 5 h (by omega); have := @bt01 s 6 h (by omega)
  unfold bc
  omega
theorem bcz_all : (List.range 128).all (fun s => (s == 0) || decide (1 ≤ bc (s : Int))) = true := by decide +kernel
/-- the least of the sets for which P holds: fewest first, then the smallest -/
def isMin (P : Nat → Prop) (N : Nat) (r : Int) : Prop := (r = -1 ∧ ∀ s, s < N → ¬ P s) ∨ ∃ s : Nat, s < N ∧ r = s ∧ P s ∧ ∀ t : Nat, t < N → P t → bc s < bc t ∨ (bc s = bc t ∧ s ≤ t)
theorem isMin_u {P : Nat → Prop} {N : Nat} {r r' : Int} (h : isMin P N r) (h' : isMin P N r') : r = r' := by
  rcases h with ⟨h1, h2⟩ | ⟨s, h1, h2, h3, h4⟩ <;> rcases h' with ⟨g1, g2⟩ | ⟨t, g1, g2, g3, g4⟩
  · rw [h1, g1]
  · exact absurd g3 (h2 t g1)
  · exact absurd h3 (g2 s h1)
  · have a := h4 t g1 g3
    have b := g4 s h1 h3
    omega
section BI
variable {d j : Nat} {φ φ' φ0 : aF} {α α' α0 : aA} {Q : Int → aF → aA → Prop} {b c o m x y z v s k ce side : Int} {n M ns : Nat} {rm nw nw' nw0 sr : Int → Int} {cs ct : List Int}
theorem c_bitCount (hs : 0 ≤ s ∧ s < 128) (h : Q (bc s) φ α) : eJ6_bitCount_0f7a4 d s φ α Q := by
  have e := List.all_eq_true.mp ba_all s.toNat (List.mem_range.mpr (by omega))
  simp only [Bool.and_eq_true, decide_eq_true_eq] at e
  rw [Int.toNat_of_nonneg hs.1] at e
  obtain ⟨⟨⟨⟨⟨e1, e2⟩, e3⟩, e5⟩, e6⟩, e7⟩ := e
  rw [← e7] at h
  exact vJ6_bitCount_0f7a4_0 ⟨inRb_t e1, inRb_t e2, inRb_t e3, inRb_t e5, inRb_t e6, h⟩
theorem l_bits : ∀ (r : Nat) (x s : Int), 0 ≤ s ∧ s < 128 → bc s = r → 0 ≤ x → x ≤ 100 - r → Q (x + bc s) φ α → jX11_bits_4 d x s φ α Q
  | 0, x, s, hs, hr, h0, h1, h => by
    have e := List.all_eq_true.mp bcz_all s.toNat (List.mem_range.mpr (by omega))
    have z : s = 0 := by
      simp only [Bool.or_eq_true, beq_iff_eq, decide_eq_true_eq] at e
      rw [Int.toNat_of_nonneg hs.1] at e
      rcases e with e | e
      · omega
      · omega
    subst z
    refine vX11_bits_4 ⟨fun _ => ?_, fun q => absurd rfl q⟩
    rw [hr] at h
    simpa using h
  | r + 1, x, s, hs, hr, h0, h1, h => by
    have z : s ≠ 0 := by
      intro z
      subst z
      have : bc 0 = 0 := by decide +kernel
      omega
    have e := List.all_eq_true.mp bl_all s.toNat (List.mem_range.mpr (by omega))
    simp only [Bool.or_eq_true, beq_iff_eq, decide_eq_true_eq, Bool.and_eq_true] at e
    rw [Int.toNat_of_nonneg hs.1] at e
    rcases e with e | ⟨⟨e1, e2⟩, e3⟩
    · omega
    · refine vX11_bits_4 ⟨fun q => absurd q z, fun _ => ⟨by unfold inR; omega, by unfold inR; omega, l_bits r (x + 1) _ ⟨e1, e2⟩ (by omega) (by omega) (by omega) ?_⟩⟩
      rw [e3, show x + 1 + (bc s - 1) = x + bc s by omega]
      exact h
theorem r_bits (hs : 0 ≤ s ∧ s < 128) (h : Q (bc s) φ α) : eX11_bits d s φ α Q := by
  have b := bc_bd hs
  refine vX11_bits_0 (l_bits (bc s).toNat 0 s hs (by omega) (by omega) (by omega) ?_)
  rw [Int.zero_add]
  exact h
-- power
theorem rm_bd (I : Iv n M ns rm cs ct sr j φ α) : ∀ c : Int, 0 ≤ c → c < n → 0 ≤ rm c ∧ rm c ≤ 99 := fun c h1 h2 => ⟨I.rm0 c h1 h2, (I.G.2.2.2.2.1 c h1 h2).2⟩
theorem sp_bd (I : Iv n M ns rm cs ct sr j φ α) : ∀ c : Int, 0 ≤ c → c < n → 0 ≤ rm c - fullF (α 233) c ∧ rm c - fullF (α 233) c ≤ 99 := fun c h1 h2 => by
  have := rm_bd I c h1 h2
  have := I.G.2.2.2.2.1 c h1 h2
  have := I.G.full h1 (show c < 7 by have := I.G.2.2.2.2.2.2; omega)
  omega
theorem sbF_s {f : Int → Int} {k : Nat} : sbF f s (k + 1) = if bt s k = 0 then sbF f s k else sbF f s k + f k := rfl
theorem l_roomOf (hn : n ≤ 7) (O : XO φ α n M ns rm) (hr : ∀ c : Int, 0 ≤ c → c < n → 0 ≤ rm c ∧ rm c ≤ 99) (h : Q (sbF rm s n) φ α) : ∀ (r k : Nat), k + r = n → jX4_roomOf_4 (d + 1) s (sbF rm s k) k φ α Q
  | 0, k, hk => vX4_roomOf_4 ⟨fun _ => by rw [show k = n by omega]; exact h, fun q => by rw [O.2.2.1] at q; omega⟩
  | r + 1, k, hk => by
    have ih := l_roomOf hn O hr h r (k + 1) (by omega)
    rw [sbF_s] at ih
    have b := sbF_bd (s := s) hr (k := k) (by omega)
    have b2 := hr k (by omega) (by omega)
    refine vX4_roomOf_4 ⟨fun q => by rw [O.2.2.1] at q; omega, fun _ => ⟨fun q => ⟨by unfold inR; omega, ?_⟩, fun q => c_pick (n := 7) (fun _ => rfl) ⟨by omega, by omega⟩ ?_⟩⟩
    · have q : bt s k = 0 := q
      rw [if_pos q] at ih; exact ih
    · have q : ¬ bt s k = 0 := q
      rw [O.2.2.2 k (by omega) (by omega)]
      rw [if_neg q] at ih
      exact ⟨by unfold inR; omega, by unfold inR; omega, ih⟩
theorem c_roomOf (hn : n ≤ 7) (O : XO φ α n M ns rm) (hr : ∀ c : Int, 0 ≤ c → c < n → 0 ≤ rm c ∧ rm c ≤ 99) (h : Q (sbF rm s n) φ α) : eX4_roomOf (d + 1) s φ α Q := vX4_roomOf_0 (l_roomOf hn O hr h n 0 (by omega))
theorem pwF_s {al : Int} {k : Nat} : pwF rm n c al (k + 1) = if bt k c = 0 ∧ 2 * sbF rm k n ≤ al ∧ al < 2 * (sbF rm k n + rm c) then pwF rm n c al k + 1 else pwF rm n c al k := rfl
theorem l_power {al : Int} (hn : n ≤ 7) (O : XO φ α n M ns rm) (hr : ∀ c : Int, 0 ≤ c → c < n → 0 ≤ rm c ∧ rm c ≤ 99) (hc : 0 ≤ c ∧ c < n) (h : Q (pwF rm n c al (2 ^ n)) φ α) : ∀ (r k : Nat), k + r = 2 ^ n → jX4_powerOf_21 (d + 2) c al (pwF rm n c al k) k φ α Q
  | 0, k, hk => vX4_powerOf_21 (by
      rw [O.2.2.1, p2 hn]
      exact ⟨fun _ => by rw [show k = 2 ^ n by omega]; exact h, fun q => by omega⟩)
  | r + 1, k, hk => by
    have ih := l_power hn O hr hc h r (k + 1) (by omega)
    rw [pwF_s] at ih
    have p := p2_bd hn
    have b := sbF_bd (s := k) hr (k := n) (by omega)
    have b2 := hr c hc.1 hc.2
    have b3 := pwF_bd (rm := rm) (n := n) (c := c) (al := al) k
    refine vX4_powerOf_21 ?_
    rw [O.2.2.1, p2 hn]
    refine ⟨fun q => by omega, fun _ => ⟨fun q => ⟨by unfold inR; omega, ?_⟩, fun q => c_roomOf hn O hr ⟨by unfold inR; omega, fun q2 => ⟨by unfold inR; omega, ?_⟩, fun q2 => c_pick (n := 7) (fun _ => rfl) ⟨by omega, by omega⟩ ?_⟩⟩⟩
    · rw [if_neg (fun w => q w.1)] at ih; exact ih
    · rw [if_neg (by omega)] at ih; exact ih
    · rw [O.2.2.2 c hc.1 hc.2]
      refine ⟨by unfold inR; omega, by unfold inR; omega, fun q3 => ⟨by unfold inR; omega, ?_⟩, fun q3 => ⟨by unfold inR; omega, by unfold inR; omega, ?_⟩⟩
      · rw [if_neg (by omega)] at ih; exact ih
      · rw [if_pos ⟨q, by omega, by omega⟩] at ih; exact ih
def alF (rm : Int → Int) : Nat → Int := itF (fun x c => x + rm c) 0
theorem al_n (hn : n ≤ 7) : sbF rm (((2 ^ n : Nat) : Int) - 1) n = alF rm n := by
  refine itF_ext n (fun x c q => ?_)
  rw [btf hn q, if_neg (by omega)]
theorem c_powerOf (hn : n ≤ 7) (O : XO φ α n M ns rm) (hr : ∀ c : Int, 0 ≤ c → c < n → 0 ≤ rm c ∧ rm c ≤ 99) (hc : 0 ≤ c ∧ c < n) (h : Q (pwF rm n c (alF rm n) (2 ^ n)) φ α) : eX4_powerOf (d + 2) c φ α Q := by
  have p := p2_bd hn
  refine vX4_powerOf_0 ?_
  rw [O.2.2.1, p2 hn]
  refine ⟨by unfold inR; omega, c_roomOf hn O hr ?_⟩
  rw [al_n hn]
  have := l_power (d := d) (Q := Q) hn O hr hc h (2 ^ n) 0 (by omega)
  exact this
theorem l_rAll (hn : n ≤ 7) (O : MO α n M ns rm) (hr : ∀ c : Int, 0 ≤ c → c < n → 0 ≤ rm c ∧ rm c ≤ 99) (h : jX11_powerOf_31 (d + 1) c (alF rm n) 0 0 φ α Q) : ∀ (r k : Nat), k + r = n → jX11_powerOf_4 (d + 1) c (alF rm k) k φ α Q
  | 0, k, hk => vX11_powerOf_4 (r_cMany O.2.1 ⟨fun _ => by rw [show k = n by omega]; exact h, fun q => by omega⟩)
  | r + 1, k, hk => vX11_powerOf_4 (r_cMany O.2.1 ⟨fun q => by omega, fun _ => r_roomOf O hn (by omega) (by
      have b := itF_bd (lo := 0) (hi := 0) (f := fun x c => x + rm c) (B := 99) (by omega) k n (by omega) (fun x j hj => by have := hr j (by omega) (by omega); omega)
      have b2 := hr k (by omega) (by omega)
      have ih := l_rAll hn O hr h r (k + 1) (by omega)
      rw [show alF rm (k + 1) = alF rm k + rm k from rfl] at ih
      have b' : 0 ≤ alF rm k ∧ alF rm k ≤ 99 * k := b
      exact ⟨by unfold inR; omega, by unfold inR; omega, ih⟩)⟩)
theorem l_r61 {al x3 : Int} {S : Nat} (hn : n ≤ 7) (hS : S < 128) (O : MO α n M ns rm) (hr : ∀ c : Int, 0 ≤ c → c < n → 0 ≤ rm c ∧ rm c ≤ 99) (hc : 0 ≤ c ∧ c < n) (hx : 0 ≤ x3 ∧ x3 ≤ 1000) (h : jX11_powerOf_31 (d + 1) c al (if 2 * sbF rm S n ≤ al ∧ al < 2 * (sbF rm S n + rm c) then x3 + 1 else x3) ((S : Int) + 1) φ α Q) : ∀ (r k : Nat), k + r = n → jX11_powerOf_61 (d + 1) c al x3 S (sbF rm S k) k φ α Q
  | 0, k, hk => by
    have b := sbF_bd (s := S) hr (k := n) (by omega)
    have b2 := hr c hc.1 hc.2
    have e : k = n := by omega
    subst e
    refine vX11_powerOf_61 (r_cMany O.2.1 ⟨fun _ => ⟨by unfold inR; omega, fun q => ⟨by unfold inR; omega, ?_⟩, fun q => r_roomOf O hn hc ⟨by unfold inR; omega, by unfold inR; omega, fun q2 => ⟨by unfold inR; omega, ?_⟩, fun q2 => ⟨by unfold inR; omega, by unfold inR; omega, ?_⟩⟩⟩, fun q => by omega⟩)
    · rw [if_neg (by omega)] at h; exact h
    · rw [if_neg (by omega)] at h; exact h
    · rw [if_pos (by omega)] at h; exact h
  | r + 1, k, hk => by
    have ih := l_r61 hn hS O hr hc hx h r (k + 1) (by omega)
    rw [sbF_s] at ih
    have b := sbF_bd (s := S) hr (k := k) (by omega)
    have b2 := hr k (by omega) (by omega)
    have b3 := @bt01 S k (by omega) (by omega)
    refine vX11_powerOf_61 (r_cMany O.2.1 ⟨fun q => by omega, fun _ => ⟨fun q => ⟨by unfold inR; omega, ?_⟩, fun q => r_roomOf O hn (by omega) ⟨by unfold inR; omega, by unfold inR; omega, ?_⟩⟩⟩)
    · have q : ¬ bt S k = 1 := q
      rw [if_pos (by omega)] at ih; exact ih
    · have q : bt S k = 1 := q
      rw [if_neg (by omega)] at ih; exact ih
theorem l_r31 {al : Int} (hn : n ≤ 7) (O : MO α n M ns rm) (hr : ∀ c : Int, 0 ≤ c → c < n → 0 ≤ rm c ∧ rm c ≤ 99) (hc : 0 ≤ c ∧ c < n) (h : Q (pwF rm n c al (2 ^ n)) φ α) : ∀ (r k : Nat), k + r = 2 ^ n → jX11_powerOf_31 (d + 1) c al (pwF rm n c al k) k φ α Q
  | 0, k, hk => vX11_powerOf_31 (r_cMany O.2.1 (by
      rw [p2 hn]
      exact ⟨fun _ => by rw [show k = 2 ^ n by omega]; exact h, fun q => by omega⟩))
  | r + 1, k, hk => by
    have ih := l_r31 hn O hr hc h r (k + 1) (by omega)
    rw [pwF_s] at ih
    have p := p2_bd hn
    have b3 := pwF_bd (rm := rm) (n := n) (c := c) (al := al) k
    have b4 := @bt01 k c (by omega) (by omega)
    refine vX11_powerOf_31 (r_cMany O.2.1 ?_)
    rw [p2 hn]
    refine ⟨fun q => by omega, fun _ => ⟨fun q => ?_, fun q => ⟨by unfold inR; omega, ?_⟩⟩⟩
    · have q : ¬ bt k c = 1 := q
      refine l_r61 (S := k) hn (by omega) O hr hc (by omega) ?_ n 0 (by omega)
      have z : bt k c = 0 := by omega
      simpa [z] using ih
    · have q : bt k c = 1 := q
      rw [if_neg (fun w => by omega)] at ih; exact ih
theorem r_powerOf (hn : n ≤ 7) (O : MO α n M ns rm) (hr : ∀ c : Int, 0 ≤ c → c < n → 0 ≤ rm c ∧ rm c ≤ 99) (hc : 0 ≤ c ∧ c < n) (h : Q (pwF rm n c (alF rm n) (2 ^ n)) φ α) : eX11_powerOf (d + 1) c φ α Q := by
  refine vX11_powerOf_0 (l_rAll hn O hr ?_ n 0 (by omega))
  have := l_r31 (d := d) (Q := Q) hn O hr hc h (2 ^ n) 0 (by omega)
  exact this
theorem p_clerk (I : Inv sr j φ α) : eX10_clerk (d + 20) x y φ α (fun r φ1 α1 => eX11_clerk (d + 20) x y φ1 α1 (pq sr j r)) := by
  obtain ⟨n, M, ns, rm, cs, ct, I⟩ := I
  have hn := I.G.2.2.2.2.2.2
  have G := I.G
  have X := I.X
  refine vX10_clerk_0 (c_isClerk I.XO.2.2.1 ?_)
  by_cases e : 0 ≤ x ∧ x < n
  · rw [if_pos e]
    have key : ∀ r : Int, (y = 0 → r = α 233 (1 + 5 * x)) → (y = 1 → r = rm x) → (y = 2 → r = fullF (α 233) x) → (y = 3 → r = (mdF (α 233) x M).1) → (y = 4 → r = pwF rm n x (alF rm n) (2 ^ n)) → (y < 0 ∨ 4 < y → r = -1) → eX11_clerk (d + 20) x y φ α (pq sr j r) := by
      intro r h0 h1 h2 h3 h4 h5
      refine vX11_clerk_0 (r_isClerk I.MO.2.1 hn.1 ?_)
      rw [if_pos e]
      exact ⟨fun _ => ⟨fun q => r_seatOf (by omega) ⟨h0 q, I.nx⟩, fun q => r_roomOf I.MO hn.1 e ⟨h1 q, I.nx⟩, fun q => r_fullOf G (by omega) ⟨h2 q, I.nx⟩, fun q => r_mMind I.MO.1 hn.2.1 (by omega) ⟨h3 q, I.nx⟩, fun q => r_powerOf hn.1 I.MO (rm_bd I) e ⟨h4 q, I.nx⟩, fun q => ⟨h5 (by omega), I.nx⟩⟩, fun q => by omega⟩
    refine ⟨fun _ => ⟨fun q => c_pick (st1 st29) ⟨by omega, by omega⟩ (key _ (fun _ => X.2.1 x e.1 e.2) (fun _ => by omega) (fun _ => by omega) (fun _ => by omega) (fun _ => by omega) (fun _ => by omega)),
      fun q => c_pick (n := 7) (fun _ => rfl) ⟨by omega, by omega⟩ (key _ (fun _ => by omega) (fun _ => I.XO.2.2.2 x e.1 e.2) (fun _ => by omega) (fun _ => by omega) (fun _ => by omega) (fun _ => by omega)),
      fun q => c_pick (st4 st29) ⟨by omega, by omega⟩ (key _ (fun _ => by omega) (fun _ => by omega) (fun _ => X.2.2.2.2.1 x e.1 (by omega)) (fun _ => by omega) (fun _ => by omega) (fun _ => by omega)),
      fun q => c_mindOf st29 X (by omega) (key _ (fun _ => by omega) (fun _ => by omega) (fun _ => by omega) (fun _ => by rw [md_n G (by omega) 4 hn.2.1 (by omega)]) (fun _ => by omega) (fun _ => by omega)),
      fun q => c_powerOf hn.1 I.XO (rm_bd I) e (key _ (fun _ => by omega) (fun _ => by omega) (fun _ => by omega) (fun _ => by omega) (fun _ => rfl) (fun _ => by omega)),
      fun q => key _ (fun _ => by omega) (fun _ => by omega) (fun _ => by omega) (fun _ => by omega) (fun _ => by omega) (fun _ => rfl)⟩, fun q => by omega⟩
  · rw [if_neg e]
    refine ⟨fun q => absurd rfl q, fun _ => vX11_clerk_0 (r_isClerk I.MO.2.1 hn.1 ?_)⟩
    rw [if_neg e]
    exact ⟨fun q => absurd rfl q, fun _ => ⟨rfl, I.nx⟩⟩
-- mops
theorem l_spaceOf (I : Iv n M ns rm cs ct sr j φ α) (h : Q (sbF (fun c => rm c - fullF (α 233) c) s n) φ α) : ∀ (r k : Nat), k + r = n → jX4_spaceOf_4 (d + 2) s (sbF (fun c => rm c - fullF (α 233) c) s k) k φ α Q
  | 0, k, hk => vX4_spaceOf_4 ⟨fun _ => by rw [show k = n by omega]; exact h, fun q => by rw [I.XO.2.2.1] at q; omega⟩
  | r + 1, k, hk => by
    have ih := l_spaceOf I h r (k + 1) (by omega)
    rw [sbF_s] at ih
    have b := sbF_bd (s := s) (sp_bd I) (k := k) (by omega)
    have b2 := sp_bd I k (by omega) (by omega)
    have hn := I.G.2.2.2.2.2.2
    refine vX4_spaceOf_4 ⟨fun q => by rw [I.XO.2.2.1] at q; omega, fun _ => ⟨fun q => ⟨by unfold inR; omega, ?_⟩, fun q => c_space st29 I.X I.G I.XO I.rm0 (by omega) ?_⟩⟩
    · have q : bt s k = 0 := q
      rw [if_pos q] at ih; exact ih
    · have q : ¬ bt s k = 0 := q
      rw [if_neg q] at ih
      exact ⟨by unfold inR; omega, by unfold inR; omega, ih⟩
theorem c_spaceOf (I : Iv n M ns rm cs ct sr j φ α) (h : Q (sbF (fun c => rm c - fullF (α 233) c) s n) φ α) : eX4_spaceOf (d + 2) s φ α Q := vX4_spaceOf_0 (l_spaceOf I h n 0 (by omega))
/-- what the class's search over sets has seen: all with fewer than w clerks, and those with w below k -/
def noB (P : Nat → Prop) (N w k : Nat) : Prop := ∀ t : Nat, t < N → P t → (w : Int) < bc t ∨ (bc t = w ∧ k ≤ t)
theorem noB_min {P : Nat → Prop} {N w k : Nat} (h : noB P N w k) (hk : k < N) (hb : bc k = w) (hP : P k) : isMin P N k := Or.inr ⟨k, hk, rfl, hP, fun t h1 h2 => by have := h t h1 h2; omega⟩
theorem noB_k {P : Nat → Prop} {N w k : Nat} (h : noB P N w k) (hk : ¬ (bc k = w ∧ P k)) : noB P N w (k + 1) := fun t h1 h2 => by
  rcases h t h1 h2 with q | q
  · exact Or.inl q
  · by_cases e : t = k
    · subst e; exact absurd ⟨q.1, h2⟩ hk
    · exact Or.inr ⟨q.1, by omega⟩
theorem noB_w {P : Nat → Prop} {N w : Nat} (h : noB P N w N) : noB P N (w + 1) 0 := fun t h1 h2 => by
  have := h t h1 h2
  omega
theorem noB_0 {P : Nat → Prop} {N : Nat} (hN : N ≤ 128) : noB P N 0 0 := fun t h1 h2 => by
  have := @bc_bd t (by omega)
  omega
theorem l_mopsC (I : Iv n M ns rm cs ct sr j φ α) (h : ∀ r, isMin (fun s => x ≤ sbF (fun c => rm c - fullF (α 233) c) s n) (2 ^ n) r → Q r φ α) (hbn : ∀ t : Nat, t < 2 ^ n → bc t ≤ n) : ∀ (r w : Nat), w + r = n + 1 → noB (fun s => x ≤ sbF (fun c => rm c - fullF (α 233) c) s n) (2 ^ n) w 0 → jX4_findMops_11 (d + 3) x w φ α Q
  | 0, w, hw, hB => vX4_findMops_11 ⟨fun _ => h (-1) (Or.inl ⟨rfl, fun s h1 h2 => by have := hB s h1 h2; have := hbn s h1; omega⟩), fun q => by rw [I.XO.2.2.1] at q; omega⟩
  | r + 1, w, hw, hB => by
    refine vX4_findMops_11 ⟨fun q => by rw [I.XO.2.2.1] at q; omega, fun _ => ?_⟩
    have hn := I.G.2.2.2.2.2.2
    have p := p2_bd hn.1
    have inner : ∀ (r' k : Nat), k + r' = 2 ^ n → noB (fun s => x ≤ sbF (fun c => rm c - fullF (α 233) c) s n) (2 ^ n) w k → jX4_findMops_24 (d + 3) x w k φ α Q := by
      intro r'
      induction r' with
      | zero =>
        intro k hk hB
        refine vX4_findMops_24 ?_
        rw [I.XO.2.2.1, p2 hn.1]
        refine ⟨fun _ => ⟨by unfold inR; omega, ?_⟩, fun q => by omega⟩
        have e : k = 2 ^ n := by omega
        subst e
        have := l_mopsC I h hbn r (w + 1) (by omega) (noB_w hB)
        simpa using this
      | succ r' ih =>
        intro k hk hB
        refine vX4_findMops_24 ?_
        rw [I.XO.2.2.1, p2 hn.1]
        have nx : ¬ (bc k = w ∧ x ≤ sbF (fun c => rm c - fullF (α 233) c) k n) → jX4_findMops_24 (d + 3) x w ((k : Int) + 1) φ α Q := fun q => by
          have := ih (k + 1) (by omega) (noB_k hB q)
          simpa using this
        refine ⟨fun q => by omega, fun _ => c_bitCount (by omega) ⟨fun q => ⟨by unfold inR; omega, nx (fun z => q z.1)⟩, fun q => c_spaceOf I ⟨fun q2 => ⟨by unfold inR; omega, nx (fun z => by omega)⟩, fun q2 => h _ (noB_min hB (by omega) q (by omega))⟩⟩⟩
    have := inner (2 ^ n) 0 (by omega) hB
    simpa using this
/-- what the reference's search over sets has seen: those below k -/
def seenB (P : Nat → Prop) (k : Nat) (r : Int) : Prop := isMin P k r
theorem seenB_s {P : Nat → Prop} {k : Nat} {r : Int} (h : isMin P k r) (hk : k < 128) : (P k → (r = -1 ∨ bc k < bc r) → isMin P (k + 1) k) ∧ ((¬ P k ∨ (r ≠ -1 ∧ bc r ≤ bc k)) → isMin P (k + 1) r) := by
  refine ⟨fun hP hr => Or.inr ⟨k, by omega, rfl, hP, fun t h1 h2 => ?_⟩, fun hr => ?_⟩
  · by_cases e : t = k
    · subst e; exact Or.inr ⟨rfl, Nat.le_refl _⟩
    · rcases h with ⟨g1, g2⟩ | ⟨s, g1, g2, g3, g4⟩
      · exact absurd h2 (g2 t (by omega))
      · have := g4 t (by omega) h2
        rw [g2] at hr
        omega
  · rcases h with ⟨g1, g2⟩ | ⟨s, g1, g2, g3, g4⟩
    · refine Or.inl ⟨g1, fun s h1 h2 => ?_⟩
      by_cases e : s = k
      · subst e
        rcases hr with hr | hr
        · exact hr h2
        · exact hr.1 g1
      · exact g2 s (by omega) h2
    · refine Or.inr ⟨s, by omega, g2, g3, fun t h1 h2 => ?_⟩
      by_cases e : t = k
      · subst e
        rcases hr with hr | hr
        · exact absurd h2 hr
        · rw [g2] at hr; omega
      · exact g4 t (by omega) h2
theorem seenB_b {P : Nat → Prop} {k : Nat} {r : Int} (h : isMin P k r) : r = -1 ∨ (0 ≤ r ∧ r < k) := by
  rcases h with ⟨g1, g2⟩ | ⟨s, g1, g2, g3, g4⟩
  · exact Or.inl g1
  · exact Or.inr (by omega)
theorem l_m53 {S : Nat} {x2 : Int} (I : Iv n M ns rm cs ct sr j φ α) (hS : S < 128) (h1 : sbF (fun c => rm c - fullF (α 233) c) S n < x → jX11_mops_18 (d + 4) x x2 ((S : Int) + 1) φ α Q) (h2 : ¬ (sbF (fun c => rm c - fullF (α 233) c) S n < x) → jX11_mops_18 (d + 4) x S ((S : Int) + 1) φ α Q) : ∀ (r k : Nat), k + r = n → jX11_mops_53 (d + 4) x x2 S (sbF (fun c => rm c - fullF (α 233) c) S k) k φ α Q
  | 0, k, hk => by
    have e : k = n := by omega
    subst e
    exact vX11_mops_53 (r_cMany I.MO.2.1 ⟨fun _ => ⟨fun q => ⟨by unfold inR; omega, h1 q⟩, fun q => ⟨by unfold inR; omega, h2 q⟩⟩, fun q => by omega⟩)
  | r + 1, k, hk => by
    have ih := l_m53 I hS h1 h2 r (k + 1) (by omega)
    rw [sbF_s] at ih
    have hn := I.G.2.2.2.2.2.2
    have b := sbF_bd (s := S) (sp_bd I) (k := k) (by omega)
    have b2 := sp_bd I k (by omega) (by omega)
    have b3 := @bt01 S k (by omega) (by omega)
    refine vX11_mops_53 (r_cMany I.MO.2.1 ⟨fun q => by omega, fun _ => ⟨fun q => ⟨by unfold inR; omega, ?_⟩, fun q => r_spaceOf I.MO I.G I.rm0 (by omega) ⟨by unfold inR; omega, by unfold inR; omega, ?_⟩⟩⟩)
    · have q : ¬ bt S k = 1 := q
      rw [if_pos (by omega)] at ih; exact ih
    · have q : bt S k = 1 := q
      rw [if_neg (by omega)] at ih; exact ih
theorem l_mopsM (I : Iv n M ns rm cs ct sr j φ α) (h : ∀ r, isMin (fun s => x ≤ sbF (fun c => rm c - fullF (α 233) c) s n) (2 ^ n) r → Q r φ α) : ∀ (r k : Nat) (b : Int), k + r = 2 ^ n → isMin (fun s => x ≤ sbF (fun c => rm c - fullF (α 233) c) s n) k b → jX11_mops_18 (d + 4) x b k φ α Q
  | 0, k, b, hk, hB => vX11_mops_18 (r_cMany I.MO.2.1 (by
      have hn := I.G.2.2.2.2.2.2
      rw [p2 hn.1]
      exact ⟨fun _ => h b (by rw [← show k = 2 ^ n by omega]; exact hB), fun q => by omega⟩))
  | r + 1, k, b, hk, hB => by
    have hn := I.G.2.2.2.2.2.2
    have p := p2_bd hn.1
    have st := seenB_s hB (by omega)
    have sb := seenB_b hB
    have n1 : ∀ b', isMin (fun s => x ≤ sbF (fun c => rm c - fullF (α 233) c) s n) (k + 1) b' → jX11_mops_18 (d + 4) x b' ((k : Int) + 1) φ α Q := fun b' hb' => by
      have := l_mopsM I h r (k + 1) b' (by omega) hb'
      simpa using this
    have go : (b = -1 ∨ bc k < bc b) → jX11_mops_53 (d + 4) x b k 0 0 φ α Q := fun hb => by
      have := l_m53 (d := d) (Q := Q) (S := k) (x := x) (x2 := b) I (by omega) (fun q => n1 b (st.2 (Or.inl (by omega)))) (fun q => n1 k (st.1 (by omega) hb)) n 0 (by omega)
      exact this
    refine vX11_mops_18 (r_cMany I.MO.2.1 ?_)
    rw [p2 hn.1]
    refine ⟨fun q => by omega, fun _ => ⟨fun q => go (Or.inl q), fun q => r_bits (by omega) (r_bits (by omega) ⟨fun q2 => go (Or.inr q2), fun q2 => ⟨by unfold inR; omega, n1 b (st.2 (Or.inr ⟨q, by omega⟩))⟩⟩)⟩⟩
theorem bcn_all : (List.range 8).all (fun n => (List.range (2 ^ n)).all (fun s => decide (bc (s : Int) ≤ n))) = true := by decide +kernel
theorem bcn {n t : Nat} (hn : n ≤ 7) (ht : t < 2 ^ n) : bc t ≤ n := of_decide_eq_true (List.all_eq_true.mp (List.all_eq_true.mp bcn_all n (List.mem_range.mpr (by omega))) t (List.mem_range.mpr ht))
theorem isMin_0 {P : Nat → Prop} : isMin P 0 (-1) := Or.inl ⟨rfl, fun s h => by omega⟩
theorem p_mops (I : Inv sr j φ α) : eX10_mops (d + 20) φ α (fun r φ1 α1 => eX11_mops (d + 20) φ1 α1 (pq sr j r)) := by
  obtain ⟨n, M, ns, rm, cs, ct, I⟩ := I
  have hn := I.G.2.2.2.2.2.2
  have G := I.G
  have eo := I.O.2.2.2.2.2.1
  refine vX10_mops_0 ⟨fun q => vX11_mops_0 ⟨fun q2 => by omega, fun _ => ⟨rfl, I.nx⟩⟩, fun q => vX4_findMops_0 (c_pooled st29 I.X G (by omega) ?_)⟩
  rw [pl_n G (by omega)]
  have := l_mopsC (d := d + 16) (x := plF (α 233) 0 M) (Q := fun r φ1 α1 => eX11_mops (d + 20) φ1 α1 (pq sr j r)) I (fun r hr => ?_) (fun t ht => bcn hn.1 ht) (n + 1) 0 (by omega) (noB_0 (p2_bd hn.1).2)
  · simpa using this
  · refine vX11_mops_0 ⟨fun _ => r_floorAll I.MO.1 G ?_, fun q2 => by omega⟩
    have := l_mopsM (d := d + 16) (x := plF (α 233) 0 M) (Q := pq sr j r) I (fun r' hr' => ⟨isMin_u hr hr', I.nx⟩) (2 ^ n) 0 (-1) (by omega) isMin_0
    simpa using this
end BI
