section P3
variable {d j : Nat} {φ φ' φ0 : aF} {α α' α0 : aA} {Q : Int → aF → aA → Prop} {b c o m x y z v s k ce side t m' p : Int} {n M ns : Nat} {rm nw nw' nw0 sr : Int → Int} {cs ct : List Int}
/-- the reference's test of a set -/
def PPr (n M ns : Nat) (rm : Int → Int) (cs : List Int) (nw : Int → Int) (c m : Int) (N : Nat) (s : Nat) : Prop := bt s c = 0 ∧ unF n M ns rm cs (zq nw s n) c m N
/-- the class's: none of it is idle -/
def PCl (n M ns : Nat) (rm : Int → Int) (cs : List Int) (nw : Int → Int) (c m : Int) (N : Nat) (idle : Int) (s : Nat) : Prop := iAnd s idle = 0 ∧ unF n M ns rm cs (zq nw s n) c m N
theorem bt_hi {s c : Nat} (hn : n ≤ 7) (hs : s < 2 ^ n) (hc : c < 7) (h : n ≤ c) : bt (s : Int) (c : Int) = 0 := by
  have h1 := List.all_eq_true.mp (List.all_eq_true.mp (List.all_eq_true.mp bth_all n (List.mem_range.mpr (by omega))) s (List.mem_range.mpr hs)) c (List.mem_range.mpr hc)
  simp only [Bool.or_eq_true, decide_eq_true_eq] at h1
  rcases h1 with h1 | h1
  · omega
  · exact h1
/-- to squeeze the dry changes nothing -/
theorem zq_dry {S k : Nat} (G : GS n M ns rm nw) (hS : S < 128) (hk : k < n) (hf : fullF nw k = 0) (hb : bt S k ≠ 0) : zq nw ((S - 2 ^ k : Nat) : Int) n = zq nw S n := by
  have hn := G.2.2.2.2.2.2
  obtain ⟨r1, r2, r3⟩ := rmb hS (show k < 7 by omega) hb
  funext i
  by_cases e2 : i < 2 ∨ 37 ≤ i ∨ (i - 2) % 5 = 4
  · rw [zq_o e2, zq_o e2]
  · obtain ⟨c', m', hc', hm', rfl⟩ := drop_i e2
    rw [zq_d hc' hm', zq_d hc' hm']
    have r4 := r3 c'.toNat (by omega)
    rw [Int.toNat_of_nonneg hc'.1] at r4
    rw [r4]
    by_cases y : c'.toNat = k
    · have yk : c' = k := by omega
      subst yk
      rw [if_pos y, if_neg (by omega), if_pos ⟨by omega, hb⟩]
      have d0 := G.drop hc'.1 hc'.2 (m := 0) (by omega) (by omega)
      have d1 := G.drop hc'.1 hc'.2 (m := 1) (by omega) (by omega)
      have d2 := G.drop hc'.1 hc'.2 (m := 2) (by omega) (by omega)
      have d3 := G.drop hc'.1 hc'.2 (m := 3) (by omega) (by omega)
      unfold fullF at hf
      rw [Int.add_zero] at d0
      rw [show (2 : Int) + 5 * k + 1 = 3 + 5 * k by omega] at d1
      rw [show (2 : Int) + 5 * k + 2 = 4 + 5 * k by omega] at d2
      rw [show (2 : Int) + 5 * k + 3 = 5 + 5 * k by omega] at d3
      rcases (show m' = 0 ∨ m' = 1 ∨ m' = 2 ∨ m' = 3 by omega) with rfl | rfl | rfl | rfl
      · rw [Int.add_zero]; omega
      · rw [show (2 : Int) + 5 * k + 1 = 3 + 5 * k by omega]; omega
      · rw [show (2 : Int) + 5 * k + 2 = 4 + 5 * k by omega]; omega
      · rw [show (2 : Int) + 5 * k + 3 = 5 + 5 * k by omega]; omega
    · rw [if_neg y]
/-- what idle says -/
def idl (n : Nat) (nw : Int → Int) (c : Int) (i : Int) : Prop := (0 ≤ i ∧ i < 128) ∧ ∀ k : Nat, k < 7 → (bt i k = 1 ↔ ((k : Int) = c ∨ (k < n ∧ fullF nw k = 0)))
theorem isMin_CP {N : Nat} {i r : Int} (G : GS n M ns rm nw) (hc : 0 ≤ c ∧ c < n) (hi : idl n nw c i) (h : isMin (PCl n M ns rm cs nw c m N i) (2 ^ n) r) : isMin (PPr n M ns rm cs nw c m N) (2 ^ n) r := by
  have hn := G.2.2.2.2.2.2
  have p := p2_bd hn.1
  have ei : ((i.toNat : Nat) : Int) = i := Int.toNat_of_nonneg hi.1.1
  have hi1 := hi.1
  have c2p : ∀ s : Nat, s < 2 ^ n → PCl n M ns rm cs nw c m N i s → PPr n M ns rm cs nw c m N s := by
    intro s hs hP
    refine ⟨?_, hP.2⟩
    have h1 := hP.1
    rw [← ei, and0 (by omega) (by omega)] at h1
    have h2 := h1 c.toNat (by omega)
    have h3 := (hi.2 c.toNat (by omega)).mpr (Or.inl (by omega))
    rw [ei] at h2
    have := @bt01 s c (by omega) (by omega)
    rw [Int.toNat_of_nonneg hc.1] at h2 h3
    omega
  have p2c : ∀ (b t : Nat), t ≤ b → t < 2 ^ n → PPr n M ns rm cs nw c m N t → ∃ t' : Nat, t' < 2 ^ n ∧ PCl n M ns rm cs nw c m N i t' ∧ (bc t' < bc t ∨ t' = t) := by
    intro b
    induction b with
    | zero =>
      intro t hb ht hP
      have e : t = 0 := by omega
      subst e
      refine ⟨0, ht, ⟨?_, hP.2⟩, Or.inr rfl⟩
      rw [← ei, and0 (by omega) (by omega)]
      intro k hk q
      rw [btn (by omega) hk] at q
      simp at q
    | succ b ih =>
      intro t hb ht hP
      by_cases hd : ∃ k : Nat, k < n ∧ fullF nw k = 0 ∧ bt t k ≠ 0
      · obtain ⟨k, k1, k2, k3⟩ := hd
        obtain ⟨r1, r2, r3⟩ := rmb (show t < 128 by omega) (show k < 7 by omega) k3
        have pk := Nat.one_le_two_pow (n := k)
        obtain ⟨t', a1, a2, a3⟩ := ih (t - 2 ^ k) (by omega) (by omega) ⟨by
          have := r3 c.toNat (by omega)
          rw [Int.toNat_of_nonneg hc.1] at this
          rw [this]
          split
          · rfl
          · exact hP.1, by rw [zq_dry G (by omega) k1 k2 k3]; exact hP.2⟩
        refine ⟨t', a1, a2, Or.inl ?_⟩
        rcases a3 with a3 | a3
        · omega
        · rw [a3]; omega
      · refine ⟨t, ht, ⟨?_, hP.2⟩, Or.inr rfl⟩
        rw [← ei, and0 (by omega) (by omega)]
        intro k hk q
        rw [ei] at q
        rcases (hi.2 k hk).mp q.2 with w | w
        · have := hP.1
          rw [← w] at this
          omega
        · exact hd ⟨k, w.1, w.2, by omega⟩
  rcases h with ⟨h1, h2⟩ | ⟨s, h1, h2, h3, h4⟩
  · refine Or.inl ⟨h1, fun t ht hP => ?_⟩
    obtain ⟨t', a1, a2, -⟩ := p2c t t (Nat.le_refl t) ht hP
    exact h2 t' a1 a2
  · refine Or.inr ⟨s, h1, h2, c2p s h1 h3, fun t ht hP => ?_⟩
    obtain ⟨t', a1, a2, a3⟩ := p2c t t (Nat.le_refl t) ht hP
    have := h4 t' a1 a2
    rcases a3 with a3 | a3
    · omega
    · subst a3; exact this
theorem l_prC8 (I : Iv n M ns rm cs ct sr j φ α) (hc : 0 ≤ c ∧ c < n) {x3 : Int} (h : ∀ i, idl n (α 233) c i → jX4_findPressed_53 (d + 1) c m x3 i 0 φ α Q) : ∀ (r k : Nat), k + r = n → ∀ i : Int, (0 ≤ i ∧ i < 128) → (∀ t : Nat, t < 7 → (bt i t = 1 ↔ ((t : Int) = c ∨ (t < k ∧ fullF (α 233) t = 0)))) → jX4_findPressed_8 (d + 1) c m x3 i k φ α Q
  | 0, k, hk, i, hi, hb => by
    have e : k = n := by omega
    subst e
    exact vX4_findPressed_8 ⟨fun _ => h i ⟨hi, hb⟩, fun q => by have := I.XO.2.2.1; omega⟩
  | r + 1, k, hk, i, hi, hb => by
    have hn := I.G.2.2.2.2.2.2
    refine vX4_findPressed_8 ⟨fun q => by have := I.XO.2.2.1; omega, fun _ => c_pick (st4 st29) ⟨by omega, by omega⟩ ?_⟩
    have e : α (29 + 4) (k : Int) = fullF (α 233) k := I.X.2.2.2.2.1 k (by omega) (by omega)
    rw [show (33 : Int) = 29 + 4 by rfl, e]
    refine ⟨fun q => ⟨by unfold inR; omega, ?_⟩, fun q => ⟨by unfold inR; omega, ?_⟩⟩
    · have := l_prC8 I hc h r (k + 1) (by omega) i hi (fun t ht => by
        rw [hb t ht]
        constructor
        · rintro (w | w)
          · exact Or.inl w
          · exact Or.inr ⟨by omega, w.2⟩
        · rintro (w | w)
          · exact Or.inl w
          · refine Or.inr ⟨?_, w.2⟩
            by_cases z : t = k
            · subst z; exact absurd w.2 q
            · omega)
      simpa using this
    · obtain ⟨b1, b2⟩ := @bto i k hi (by omega)
      have := l_prC8 I hc h r (k + 1) (by omega) _ b1 (fun t ht => by
        rw [b2 t ht]
        by_cases z : t = k
        · subst z
          rw [if_pos rfl]
          exact ⟨fun _ => Or.inr ⟨by omega, q⟩, fun _ => rfl⟩
        · rw [if_neg z, hb t ht]
          constructor
          · rintro (w | w)
            · exact Or.inl w
            · exact Or.inr ⟨by omega, w.2⟩
          · rintro (w | w)
            · exact Or.inl w
            · exact Or.inr ⟨by omega, w.2⟩)
      simpa using this
theorem l_prC {N : Nat} {i : Int} (G : GS n M ns rm nw) (hN : nw 0 + (N : Int) ≤ 1999) (hc : 0 ≤ c ∧ c < n) (hm : 0 ≤ m ∧ m < M) (hi : idl n nw c i) (h : ∀ φ' α' r, Iv n M ns rm cs ct sr j φ' α' → α' 233 = nw → isMin (PCl n M ns rm cs nw c m N i) (2 ^ n) r → Q r φ' α') : ∀ (r w : Nat), w + r = n → noB (PCl n M ns rm cs nw c m N i) (2 ^ n) w 0 → ∀ (φ : aF) (α : aA), Iv n M ns rm cs ct sr j φ α → α 233 = nw → jX4_findPressed_53 (d + 6) c m (N : Int) i w φ α Q
  | 0, w, hw, hB, φ, α, I, e => by
    have hn := G.2.2.2.2.2.2
    have p := p2_bd hn.1
    refine vX4_findPressed_53 ⟨fun _ => h φ α (-1) I e (Or.inl ⟨rfl, fun s h1 h2 => ?_⟩), fun q => by have := I.XO.2.2.1; omega⟩
    have a := hB s h1 h2
    have hP := h2.1
    have ei : ((i.toNat : Nat) : Int) = i := Int.toNat_of_nonneg hi.1.1
    rw [← ei, and0 (by omega) (by have := hi.1; omega)] at hP
    have h3 := hP c.toNat (by omega)
    have h4 := (hi.2 c.toNat (by omega)).mpr (Or.inl (by omega))
    rw [ei] at h3
    have b1 := @bt01 s c (by omega) (by omega)
    have h5 := List.all_eq_true.mp (List.all_eq_true.mp (List.all_eq_true.mp bcc_all n (List.mem_range.mpr (by omega))) c.toNat (List.mem_range.mpr (by omega))) s (List.mem_range.mpr h1)
    simp only [Bool.or_eq_true, decide_eq_true_eq] at h5
    rw [Int.toNat_of_nonneg hc.1] at h3 h4 h5
    omega
  | r + 1, w, hw, hB, φ, α, I, e => by
    have hn := G.2.2.2.2.2.2
    have p := p2_bd hn.1
    refine vX4_findPressed_53 ⟨fun q => by have := I.XO.2.2.1; omega, fun _ => ?_⟩
    have inner : ∀ (r' k : Nat), k + r' = 2 ^ n → noB (PCl n M ns rm cs nw c m N i) (2 ^ n) w k → ∀ (φ : aF) (α : aA), Iv n M ns rm cs ct sr j φ α → α 233 = nw → jX4_findPressed_68 (d + 6) c m (N : Int) i w k φ α Q := by
      intro r'
      induction r' with
      | zero =>
        intro k hk hB φ α I e
        refine vX4_findPressed_68 ?_
        rw [I.XO.2.2.1, p2 hn.1]
        refine ⟨fun _ => ⟨by unfold inR; omega, ?_⟩, fun q => by omega⟩
        have z : k = 2 ^ n := by omega
        subst z
        have := l_prC G hN hc hm hi h r (w + 1) (by omega) (noB_w hB) φ α I e
        simpa using this
      | succ r' ih =>
        intro k hk hB φ α I e
        refine vX4_findPressed_68 ?_
        rw [I.XO.2.2.1, p2 hn.1]
        have nx : ¬ (bc k = w ∧ PCl n M ns rm cs nw c m N i k) → ∀ φ1 α1, Iv n M ns rm cs ct sr j φ1 α1 → α1 233 = nw → jX4_findPressed_68 (d + 6) c m (N : Int) i w ((k : Int) + 1) φ1 α1 Q := fun q φ1 α1 I1 e1 => by
          have := ih (k + 1) (by omega) (noB_k hB q) φ1 α1 I1 e1
          simpa using this
        obtain ⟨op, E, ME, S⟩ := I.open_ (by omega)
        refine ⟨fun q => by omega, fun _ => ⟨fun q => ⟨by unfold inR; omega, nx (fun z => q z.2.1) φ α I e⟩, fun q => c_bitCount (by omega) ⟨fun q2 => ⟨by unfold inR; omega, nx (fun z => q2 z.1) φ α I e⟩, fun q2 => c_staysUnaware (S := k) I E (by omega) (by rw [e]; exact hN) hc hm (fun φ1 α1 v f1 hv => ?_)⟩⟩⟩
        rw [e] at hv
        have I1 := Iv_frd f1 I
        have e1 : α1 233 = nw := (f1.2 _ (by omega) (by omega) (by omega)).trans e
        rcases hv with ⟨rfl, hu⟩ | ⟨rfl, hu⟩
        · exact ⟨fun z => by omega, fun _ => h φ1 α1 k I1 e1 (noB_min hB (by omega) q2 ⟨q, hu⟩)⟩
        · exact ⟨fun _ => ⟨by unfold inR; omega, nx (fun z => hu z.2.2) φ1 α1 I1 e1⟩, fun z => absurd rfl z⟩
    have := inner (2 ^ n) 0 (by omega) hB φ α I e
    simpa using this
theorem ctB_s {k : Nat} : ctB c (k + 1) = if bt k c = 0 then ctB c k + 1 else ctB c k := rfl
theorem l_prM {N : Nat} {c : Nat} (I : Iv n M ns rm cs ct sr j φ0 α0) (hv : 0 ≤ φ0 11 53 198 ∧ φ0 11 53 198 ≤ 2044000000) (hN30 : N ≤ 30) (hN : α0 233 0 + (N : Int) ≤ 1999) (hc : c < n) (hm : 0 ≤ m ∧ m < M) (h : ∀ φ' α' r, Inv sr (j + 1) φ' α' → isMin (PPr n M ns rm cs (α0 233) c m N) (2 ^ n) r → Q r φ' α') : ∀ (r k : Nat) (b : Int), k + r = 2 ^ n → isMin (PPr n M ns rm cs (α0 233) c m N) k b → ∀ (φ : aF) (α : aA), RT n M ns rm cs (α0 233) φ α → ft φ0 α0 φ α → α 233 = α0 233 → 0 ≤ φ 11 53 198 ∧ φ 11 53 198 ≤ φ0 11 53 198 + 53460 * ctB c k → jX11_pressed_32 (d + 8) c m (N : Int) b k φ α Q
  | 0, k, b, hk, hB, φ, α, R, f, e, v => by
    have hn := I.G.2.2.2.2.2.2
    have p := p2_bd hn.1
    have cb := ctB_bd (c := c) (k := k) (by omega) (by omega)
    refine vX11_pressed_32 (r_cMany R.2.1.1.2.1 ?_)
    rw [p2 hn.1]
    refine ⟨fun _ => r_backT I f R (by omega) (fun φ4 α4 I4 f4 => h φ4 α4 b I4 ?_), fun q => by omega⟩
    rw [← show k = 2 ^ n by omega]
    exact hB
  | r + 1, k, b, hk, hB, φ, α, R, f, e, v => by
    have hn := I.G.2.2.2.2.2.2
    have p := p2_bd hn.1
    have cb := ctB_bd (c := c) (k := k) (by omega) (by omega)
    have st := seenB_s hB (by omega)
    have sb := seenB_b hB
    have nx : ∀ b', isMin (PPr n M ns rm cs (α0 233) c m N) (k + 1) b' → ∀ φ1 α1, RT n M ns rm cs (α0 233) φ1 α1 → ft φ0 α0 φ1 α1 → α1 233 = α0 233 → 0 ≤ φ1 11 53 198 ∧ φ1 11 53 198 ≤ φ0 11 53 198 + 53460 * ctB c (k + 1) → jX11_pressed_32 (d + 8) c m (N : Int) b' ((k : Int) + 1) φ1 α1 Q := fun b' hb' φ1 α1 R1 f1 e1 v1 => by
      have := l_prM I hv hN30 hN hc hm h r (k + 1) b' (by omega) hb' φ1 α1 R1 f1 e1 v1
      simpa using this
    have hs : 0 ≤ ctB c (k + 1) - ctB c k ∧ (bt k c = 0 → ctB c (k + 1) = ctB c k + 1) := by
      rw [ctB_s]
      by_cases z : bt k c = 0
      · rw [if_pos z]; exact ⟨by omega, fun _ => rfl⟩
      · rw [if_neg z]; exact ⟨by omega, fun w => absurd w z⟩
    have go : bt k c = 0 → (b = -1 ∨ bc k < bc b) → eX11_isPressed (d + 7) k c m (N : Int) φ α (fun r7 φ7 α7 => ((r7 = 0 → inR ((k : Int) + 1) ∧ (jX11_pressed_32 (d + 8) c m (N : Int) b ((k : Int) + 1) φ7 α7 Q)) ∧ (¬ (r7 = 0) → inR ((k : Int) + 1) ∧ (jX11_pressed_32 (d + 8) c m (N : Int) k ((k : Int) + 1) φ7 α7 Q)))) := by
      intro hb0 hb
      refine r_isPressed (S := k) I.G (by omega) hN hN30 (by omega) hm (by omega) R e (fun φ1 α1 v1 f1 R1 e1 o1 h1 => ?_)
      have ov : 0 ≤ φ1 11 53 198 ∧ φ1 11 53 198 ≤ φ0 11 53 198 + 53460 * ctB c (k + 1) := by rw [hs.2 hb0]; omega
      rcases h1 with ⟨rfl, hu⟩ | ⟨rfl, hu⟩
      · exact ⟨fun z => by omega, fun _ => ⟨by unfold inR; omega, nx k (st.1 ⟨hb0, hu⟩ hb) φ1 α1 R1 (f.tr f1) e1 ov⟩⟩
      · exact ⟨fun _ => ⟨by unfold inR; omega, nx b (st.2 (Or.inl (fun w => hu w.2))) φ1 α1 R1 (f.tr f1) e1 ov⟩, fun z => absurd rfl z⟩
    refine vX11_pressed_32 (r_cMany R.2.1.1.2.1 ?_)
    rw [p2 hn.1]
    refine ⟨fun q => by omega, fun _ => ⟨fun q => ⟨by unfold inR; omega, nx b (st.2 (Or.inl (fun w => q w.1))) φ α R f e (by omega)⟩, fun q => ⟨fun q2 => go q (Or.inl q2), fun q2 => r_bits (by omega) (r_bits (by omega) ⟨fun q3 => ⟨by unfold inR; omega, nx b (st.2 (Or.inr ⟨q2, q3⟩)) φ α R f e (by omega)⟩, fun q3 => go q (Or.inr (by omega))⟩)⟩⟩⟩
theorem p_pressed (hj : j < 512) (I : Inv sr j φ α) : eX10_pressed (d + 20) x y z φ α (fun r φ1 α1 => eX11_pressed (d + 20) x y z φ1 α1 (pq sr j r)) := by
  obtain ⟨n, M, ns, rm, cs, ct, I⟩ := I
  have hn := I.G.2.2.2.2.2.2
  refine vX10_pressed_0 (c_areThere I.XO ?_)
  by_cases e : (0 ≤ x ∧ x < n) ∧ (0 ≤ y ∧ y < M)
  · rw [if_pos e]
    refine ⟨fun q => by omega, fun _ => c_canPass I (by omega) (by omega) ?_⟩
    by_cases e2 : φ 11 46 198 = 1 ∧ (1 ≤ z ∧ z ≤ 30) ∧ α 233 0 + z ≤ 999
    · rw [if_pos e2]
      obtain ⟨N, rfl⟩ : ∃ N : Nat, z = N := ⟨z.toNat, by omega⟩
      obtain ⟨c, rfl⟩ : ∃ c : Nat, x = c := ⟨x.toNat, by omega⟩
      have hN : α 233 0 + (N : Int) ≤ 1999 := by omega
      refine ⟨fun _ => vX4_findPressed_0 ?_, fun q => by omega⟩
      have sh := List.all_eq_true.mp shl_all c (List.mem_range.mpr (by omega))
      simp only [Bool.and_eq_true, decide_eq_true_eq] at sh
      have := l_prC8 (d := d + 18) (m := y) (Q := fun r φ1 α1 => eX11_pressed (d + 20) c y N φ1 α1 (pq sr j r)) (x3 := (N : Int)) I e.1 (fun i hi => ?_) n 0 (by omega) (iShl 1 (c : Int)) sh.1 (fun t ht => by
        have := of_decide_eq_true (List.all_eq_true.mp sh.2 t (List.mem_range.mpr ht))
        rw [this]
        by_cases w : t = c
        · rw [if_pos w]; exact ⟨fun _ => Or.inl (by omega), fun _ => rfl⟩
        · rw [if_neg w]
          constructor
          · intro q; omega
          · rintro (q | q) <;> omega)
      · simpa using this
      · have := l_prC (d := d + 13) (m := y) (N := N) (cs := cs) (ct := ct) (sr := sr) (j := j) (Q := fun r φ1 α1 => eX11_pressed (d + 20) c y N φ1 α1 (pq sr j r)) I.G hN e.1 e.2 hi (fun φ1 α1 r I1 e1 hr => ?_) n 0 (by omega) (noB_0 (p2_bd hn.1).2) φ α I rfl
        · simpa using this
        · have v1 := I1.ov hj
          obtain ⟨op1, E1, ME1, S1⟩ := I1.open_ (by omega)
          have hr := isMin_CP I.G e.1 hi hr
          refine vX11_pressed_0 (r_areBoth I1.MO.1 I1.MO.2.1 hn.2.1 hn.1 ?_)
          rw [if_pos e]
          refine ⟨fun q => by omega, fun _ => r_isAhead I1 (by omega) (by omega) ?_⟩
          rw [e1, if_pos ⟨op1, e2.2⟩]
          refine ⟨fun _ => r_putsT ME1 (fun φ2 α2 R2 a2 f2 v2 => ?_), fun q => by omega⟩
          have := l_prM (d := d + 12) (m := y) (N := N) (c := c) (Q := pq sr j r) I1 v1 (by omega) (by rw [e1]; exact hN) (by omega) e.2 (fun φ' α' r' I' hr' => ⟨by rw [e1] at hr'; exact isMin_u hr hr', I'⟩) (2 ^ n) 0 (-1) (by omega) isMin_0 φ2 α2 R2 f2 a2 (by rw [show ctB (c : Int) 0 = 0 from rfl]; omega)
          simpa using this
    · rw [if_neg e2]
      refine ⟨fun q => absurd rfl q, fun _ => vX11_pressed_0 (r_areBoth I.MO.1 I.MO.2.1 hn.2.1 hn.1 ?_)⟩
      rw [if_pos e]
      refine ⟨fun q => by omega, fun _ => r_isAhead I (by omega) (by omega) ?_⟩
      rw [if_neg e2]
      exact ⟨fun q => absurd rfl q, fun _ => ⟨rfl, I.nx⟩⟩
  · rw [if_neg e]
    refine ⟨fun _ => vX11_pressed_0 (r_areBoth I.MO.1 I.MO.2.1 hn.2.1 hn.1 ?_), fun q => absurd rfl q⟩
    rw [if_neg e]
    exact ⟨fun _ => ⟨rfl, I.nx⟩, fun q => absurd rfl q⟩
end P3
