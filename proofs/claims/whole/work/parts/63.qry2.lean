/-! more calls that only ask: knows, hears, leak, letter, clerk -/
def bt (s c : Int) : Int := iAnd (iShr s c) 1
theorem bt_all : (List.range 128).all (fun s => (List.range 7).all (fun c => decide (bt (s : Int) (c : Int) = 0 ∨ bt (s : Int) (c : Int) = 1))) = true := by decide +kernel
theorem bt01 {s c : Int} (hs : 0 ≤ s ∧ s < 128) (hc : 0 ≤ c ∧ c < 7) : bt s c = 0 ∨ bt s c = 1 := by
  have h := List.all_eq_true.mp bt_all s.toNat (List.mem_range.mpr (by omega))
  have h2 := List.all_eq_true.mp h c.toNat (List.mem_range.mpr (by omega))
  have h3 := of_decide_eq_true h2
  rwa [Int.toNat_of_nonneg hs.1, Int.toNat_of_nonneg hc.1] at h3
theorem p2_all : (List.range 8).all (fun n => decide (iShl 1 (n : Int) = ((2 ^ n : Nat) : Int))) = true := by decide +kernel
theorem p2 {n : Nat} (h : n ≤ 7) : iShl 1 (n : Int) = ((2 ^ n : Nat) : Int) := of_decide_eq_true (List.all_eq_true.mp p2_all n (List.mem_range.mpr (by omega)))
theorem p2_bd {n : Nat} (h : n ≤ 7) : 1 ≤ 2 ^ n ∧ 2 ^ n ≤ 128 := by
  have : 2 ^ n ≤ 2 ^ 7 := Nat.pow_le_pow_right (by omega) h
  have := Nat.one_le_two_pow (n := n)
  omega
theorem btf_all : (List.range 8).all (fun n => (List.range n).all (fun c => decide (bt (((2 ^ n : Nat) : Int) - 1) (c : Int) = 1))) = true := by decide +kernel
theorem btf {n c : Nat} (h : n ≤ 7) (hc : c < n) : bt (((2 ^ n : Nat) : Int) - 1) (c : Int) = 1 := of_decide_eq_true (List.all_eq_true.mp (List.all_eq_true.mp btf_all n (List.mem_range.mpr (by omega))) c (List.mem_range.mpr hc))
/-- a sum over the clerks of a set -/
def sbF (f : Int → Int) (s : Int) : Nat → Int := itF (fun x c => if bt s c = 0 then x else x + f c) 0
theorem sbF_bd {f : Int → Int} {s : Int} {n : Nat} (hf : ∀ c : Int, 0 ≤ c → c < n → 0 ≤ f c ∧ f c ≤ 99) {k : Nat} (hk : k ≤ n) : 0 ≤ sbF f s k ∧ sbF f s k ≤ 99 * k :=
  itF_bd (lo := 0) (hi := 0) (by omega) k n hk (fun x j hj => by have := hf j (by omega) (by omega); split <;> omega)
def pwF (rm : Int → Int) (n : Nat) (c al : Int) : Nat → Int := itF (fun x s => if bt s c = 0 ∧ 2 * sbF rm s n ≤ al ∧ al < 2 * (sbF rm s n + rm c) then x + 1 else x) 0
theorem pwF_bd {rm : Int → Int} {n : Nat} {c al : Int} (k : Nat) : 0 ≤ pwF rm n c al k ∧ pwF rm n c al k ≤ 1 * k := itF_bd (lo := 0) (hi := 0) (by omega) k k (Nat.le_refl k) (fun x j hj => by split <;> omega)
def nlF : Nat → Int → Int
  | 0, _ => 0
  | f + 1, z => if z ≤ 0 then 0 else 1 + nlF f (Int.tdiv z 27)
def dvF : Nat → Int → Int
  | 0, v => v
  | t + 1, v => dvF t (Int.tdiv v 27)
theorem nlF_bd : ∀ (f : Nat) (z : Int), 0 ≤ nlF f z ∧ nlF f z ≤ f
  | 0, _ => ⟨Int.le_refl _, Int.le_refl _⟩
  | f + 1, z => by
    have := nlF_bd f (Int.tdiv z 27)
    rw [nlF]
    split <;> omega
section Q2
variable {d j : Nat} {φ φ' φ0 : aF} {α α' α0 : aA} {Q : Int → aF → aA → Prop} {b c o m x y z v s k ce side : Int} {n M ns : Nat} {rm nw nw' nw0 sr : Int → Int} {cs ct : List Int}
theorem p_knows (hj : j < 512) (I : Inv sr j φ α) : eX10_knows (d + 20) x z φ α (fun r φ1 α1 => eX11_knows (d + 20) x z φ1 α1 (pq sr j r)) := by
  obtain ⟨n, M, ns, rm, cs, ct, I⟩ := I
  have hn := I.G.2.2.2.2.2.2
  refine vX10_knows_0 (c_isMatter I.XO.2.1 ?_)
  by_cases e : 0 ≤ x ∧ x < M
  · rw [if_pos e]
    refine ⟨fun q => by omega, fun _ => c_canPass I (by omega) (by omega) ?_⟩
    by_cases e2 : φ 11 46 198 = 1 ∧ (0 ≤ z ∧ z ≤ 60) ∧ α 233 0 + z ≤ 999
    · rw [if_pos e2]
      obtain ⟨op, E, ME, S⟩ := I.open_ (by omega)
      obtain ⟨N, rfl⟩ : ∃ N : Nat, z = N := ⟨z.toNat, by omega⟩
      refine ⟨fun _ => c_lookAhead I E (by omega) (fun φ1 α1 T1 f1 => c_knowing st36 T1.1 (by omega) ?_), fun q => by omega⟩
      have I1 := Iv_frd f1 I
      have e233 : α1 233 = α 233 := f1.2 _ (by omega) (by omega) (by omega)
      have e46 : φ1 11 46 198 = φ 11 46 198 := f1.1 _ _ _ (by omega)
      obtain ⟨op1, E1, ME1, S1⟩ := I1.open_ (by omega)
      have v1 := I1.ov hj
      refine vX11_knows_0 (r_isMatter I1.MO.1 hn.2.1 ?_)
      rw [if_pos e]
      refine ⟨fun q => by omega, fun _ => r_isAhead I1 (by omega) (by omega) ?_⟩
      rw [e233, e46, if_pos e2]
      refine ⟨fun _ => r_putsT ME1 (fun φ2 α2 R2 a2 f2 v2 => r_daysGo (by rw [a2, e233]; omega) (by rw [a2]; exact I1.G) R2 (by omega) (fun φ3 α3 f3 R3 a3 v3 => r_knowersOf R3.2.1.1.2.1 hn.1 (by omega) (r_backT I1 (f2.tr f3.t) R3 (by omega) (fun φ4 α4 I4 f4 => ⟨?_, I4⟩)))), fun q => by omega⟩
      rw [a3, a2, e233]
      exact kn_n T1.2.1 (by omega)
    · rw [if_neg e2]
      refine ⟨fun q => absurd rfl q, fun _ => vX11_knows_0 (r_isMatter I.MO.1 hn.2.1 ?_)⟩
      rw [if_pos e]
      refine ⟨fun q => by omega, fun _ => r_isAhead I (by omega) (by omega) ?_⟩
      rw [if_neg e2]
      exact ⟨fun q => absurd rfl q, fun _ => ⟨rfl, I.nx⟩⟩
  · rw [if_neg e]
    refine ⟨fun _ => vX11_knows_0 (r_isMatter I.MO.1 hn.2.1 ?_), fun q => absurd rfl q⟩
    rw [if_neg e]
    exact ⟨fun _ => ⟨rfl, I.nx⟩, fun q => absurd rfl q⟩
-- hears
theorem l_hearsC {L : Nat} (G : GS n M ns rm nw) (hL : nw 0 + (L : Int) ≤ 1999) (hc : 0 ≤ c ∧ c < n) (hm : 0 ≤ m ∧ m < M) : ∀ (r k : Nat), k + r = L + 1 → ∀ (φ : aF) (α : aA), TR n M ns rm cs φ α (dN n M ns rm cs nw (k - 1)) → (∀ φ' α', frd 36 φ α φ' α' → Q (fsF (fun t => 0 < dN n M ns rm cs nw t (2 + 5 * c + m)) r k) φ' α') → jX10_hears_45 (d + 5) c m (L : Int) k φ α Q
  | 0, k, hk, φ, α, T, h => vX10_hears_45 ⟨fun _ => h φ α frd.rf, fun q => by omega⟩
  | r + 1, k, hk, φ, α, T, h => by
    have hn := G.2.2.2.2.2.2
    have g := dN_o (cs := cs) (k := (L : Int)) G hL (k - 1) (by omega)
    have hd0 := G.1
    have step : ∀ φ1 α1, TR n M ns rm cs φ1 α1 (dN n M ns rm cs nw k) → frd 36 φ α φ1 α1 → ((dN n M ns rm cs nw k (2 + 5 * c + m) ≤ 0 → inR ((k : Int) + 1) ∧ jX10_hears_45 (d + 5) c m (L : Int) ((k : Int) + 1) φ1 α1 Q) ∧ (¬ (dN n M ns rm cs nw k (2 + 5 * c + m) ≤ 0) → Q k φ1 α1)) := by
      intro φ1 α1 T1 f1
      refine ⟨fun q => ⟨by unfold inR; omega, ?_⟩, fun q => ?_⟩
      · have := l_hearsC G hL hc hm r (k + 1) (by omega) φ1 α1 T1 (fun φ' α' f' => by
          have := h φ' α' (f1.tr f')
          rw [fsF, if_neg (by omega)] at this
          exact this)
        simpa using this
      · have := h φ1 α1 f1
        rw [fsF, if_pos (by omega)] at this
        exact this
    refine vX10_hears_45 ⟨fun q => by omega, fun _ => ⟨fun q => ?_, fun q => ?_⟩⟩
    · have e : k = 0 := by omega
      subst e
      exact c_dropsOf st36 T.1 (by omega) (by omega) (step φ α T frd.rf)
    · refine c_dayTR T (by omega) (fun φ1 α1 T1 f1 => ?_)
      have T1 : TR n M ns rm cs φ1 α1 (dN n M ns rm cs nw k) := by
        have e : k = (k - 1) + 1 := by omega
        rw [e]
        exact T1
      exact c_dropsOf st36 T1.1 (by omega) (by omega) (step φ1 α1 T1 f1)
theorem l_hearsM {L : Nat} (I : Iv n M ns rm cs ct sr j φ0 α0) (hv : 0 ≤ φ0 11 53 198 ∧ φ0 11 53 198 ≤ 2044000000) (hL : (L : Int) = min 60 (999 - α0 233 0)) (hc : 0 ≤ c ∧ c < n) (hm : 0 ≤ m ∧ m < M) (h : ∀ φ' α', Inv sr (j + 1) φ' α' → Q (fsF (fun t => 0 < dN n M ns rm cs (α0 233) t (2 + 5 * c + m)) (L + 1) 0) φ' α') : ∀ (r k : Nat), k + r = L + 1 → 0 < r → fsF (fun t => 0 < dN n M ns rm cs (α0 233) t (2 + 5 * c + m)) (L + 1) 0 = fsF (fun t => 0 < dN n M ns rm cs (α0 233) t (2 + 5 * c + m)) r k → ∀ (φ : aF) (α : aA), RT n M ns rm cs (α0 233) φ α → ft φ0 α0 φ α → α 233 = dN n M ns rm cs (α0 233) k → 0 ≤ φ 11 53 198 ∧ φ 11 53 198 ≤ φ0 11 53 198 + 1782 * (k : Int) → jX11_hears_17 (d + 10) c m k φ α Q
  | 0, k, hk, hr, hs, φ, α, R, f, e, v => by omega
  | r + 1, k, hk, hr, hs, φ, α, R, f, e, v => by
    have G := I.G
    have D := I.D
    have hn := G.2.2.2.2.2.2
    have hd0 := G.1
    have g := dN_o (cs := cs) (k := (L : Int)) G (by omega) k (by omega)
    have gd := g.1.drop hc.1 (show c < 7 by omega) hm.1 (show m < 4 by omega)
    rw [hs, fsF] at h
    have noK : dN n M ns rm cs (α0 233) k (2 + 5 * c + m) = 0 → k = L → eX11_dropsOf (d + 9) c m φ α (fun r8 φ8 α8 => ((r8 ≤ 0 → (eX11_takesBack (d + 9) φ8 α8 (fun r10 φ10 α10 => (Q (-1) φ10 α10)))) ∧ (¬ (r8 ≤ 0) → (eX11_takesBack (d + 9) φ8 α8 (fun r11 φ11 α11 => (Q k φ11 α11)))))) := by
      intro q hkL
      refine r_dropsOf (by omega) (by omega) ?_
      rw [e, q]
      refine ⟨fun _ => r_backT I f R (by omega) (fun φ4 α4 I4 f4 => ?_), fun q2 => by omega⟩
      have := h φ4 α4 I4
      rw [if_neg (by omega)] at this
      have e0 : r = 0 := by omega
      subst e0
      exact this
    refine vX11_hears_17 (r_dropsOf (by omega) (by omega) ?_)
    rw [e]
    refine ⟨fun q => r_dropsOf (by omega) (by omega) ?_, fun q => ⟨fun q2 => noK q (by omega), fun q2 => ⟨fun q3 => noK q (by rw [g.2.1] at q3; omega), fun q3 => ?_⟩⟩⟩
    · rw [e]
      refine ⟨fun q2 => by omega, fun q2 => r_backT I f R (by omega) (fun φ4 α4 I4 f4 => ?_)⟩
      have := h φ4 α4 I4
      rw [if_pos (by omega)] at this
      exact this
    · rw [g.2.1] at q3
      refine r_dayT (by omega) R (by rw [e]; exact g.1) (by omega) (fun φ1 α1 f1 R1 e1 v1 => ⟨by unfold inR; omega, ?_⟩)
      have := l_hearsM I hv hL hc hm (by rw [hs, fsF]; exact h) r (k + 1) (by omega) (by omega) (by rw [hs, fsF, if_neg (by omega)]) φ1 α1 R1 (f.tr f1.t) (by rw [e1, e]; rfl) (by omega)
      simpa using this
theorem p_hears (hj : j < 512) (I : Inv sr j φ α) : eX10_hears (d + 20) x y φ α (fun r φ1 α1 => eX11_hears (d + 20) x y φ1 α1 (pq sr j r)) := by
  obtain ⟨n, M, ns, rm, cs, ct, I⟩ := I
  have hn := I.G.2.2.2.2.2.2
  have D := I.D
  have hd0 := I.G.1
  refine vX10_hears_0 (c_areThere I.XO ?_)
  by_cases e : (0 ≤ x ∧ x < n) ∧ (0 ≤ y ∧ y < M)
  · rw [if_pos e]
    obtain ⟨op, E, ME, S⟩ := I.open_ (by omega)
    refine ⟨fun _ => c_copyTR I E (fun φ1 α1 T1 f1 => ?_), fun q => by omega⟩
    have e0 : φ1 7 0 29 = α 233 0 := by rw [f1.1 _ _ _ (by omega)]; exact I.X.1
    rw [e0]
    refine ⟨by unfold inR; omega, c_min ?_⟩
    obtain ⟨L, hL⟩ : ∃ L : Nat, (L : Int) = min 60 (999 - α 233 0) := ⟨(min 60 (999 - α 233 0)).toNat, by omega⟩
    rw [← hL]
    refine l_hearsC (nw := α 233) (cs := cs) I.G (by omega) e.1 e.2 (L + 1) 0 (by omega) φ1 α1 T1 (fun φ2 α2 f2 => ?_)
    have I2 := Iv_frd (f1.tr f2) I
    have e233 : α2 233 = α 233 := (f1.tr f2).2 _ (by omega) (by omega) (by omega)
    obtain ⟨op2, E2, ME2, S2⟩ := I2.open_ (by omega)
    have v2 := I2.ov hj
    refine vX11_hears_0 (r_areBoth I2.MO.1 I2.MO.2.1 hn.2.1 hn.1 ?_)
    rw [if_pos e]
    refine ⟨fun _ => r_putsT ME2 (fun φ3 α3 R3 a3 f3 v3 => ?_), fun q => by omega⟩
    refine l_hearsM (L := L) I2 v2 (by rw [e233]; exact hL) e.1 e.2 (fun φ' α' I' => ⟨?_, I'⟩) (L + 1) 0 (by omega) (by omega) rfl φ3 α3 R3 f3 a3 (by omega)
    rw [e233]
  · rw [if_neg e]
    refine ⟨fun q => absurd rfl q, fun _ => vX11_hears_0 (r_areBoth I.MO.1 I.MO.2.1 hn.2.1 hn.1 ?_)⟩
    rw [if_neg e]
    exact ⟨fun q => absurd rfl q, fun _ => ⟨rfl, I.nx⟩⟩
theorem fm_fq (f : fm φ α φ' α') (h : α' 233 = α 233) : fq φ α φ' α' := ⟨fun c g o q => f.1 c g o (by omega), fun a _ _ _ _ _ _ _ _ _ q10 => by
  by_cases e : a = 233
  · rw [e]; exact h
  · exact f.2 a e q10⟩
theorem sc_fq (ha : ∀ a, a ≠ 189 → α' a = α a) : fq φ α φ α' := ⟨fun _ _ _ _ => rfl, fun a _ q _ _ _ _ _ _ _ _ => ha a q⟩
theorem p_leak (I : Inv sr j φ α) : eX10_leak (d + 20) x y z φ α (fun r φ1 α1 => eX11_leak (d + 20) x y z φ1 α1 (pq sr j r)) := by
  obtain ⟨n, M, ns, rm, cs, ct, I⟩ := I
  have hn := I.G.2.2.2.2.2.2
  have G := I.G
  refine vX10_leak_0 (c_areThere I.XO ?_)
  by_cases e : (0 ≤ x ∧ x < n) ∧ (0 ≤ z ∧ z < M)
  · rw [if_pos e]
    obtain ⟨op, E, ME, S⟩ := I.open_ (by omega)
    have gs := G.seat e.1
    refine ⟨fun q => by omega, fun _ => c_within ?_⟩
    by_cases e2 : 0 ≤ y ∧ y ≤ 1
    · rw [if_pos e2]
      refine ⟨fun _ => c_pick (st1 st29) ⟨by omega, by omega⟩ ?_, fun q => by omega⟩
      have ex : α (29 + 1) x = α 233 (1 + 5 * x) := I.X.2.1 x e.1.1 e.1.2
      rw [show (30 : Int) = 29 + 1 by rfl, ex]
      -- the reference, once the class has answered r
      have key : ∀ r φ1 α1, Iv n M ns rm cs ct sr j φ1 α1 → α1 233 = α 233 → (∀ t, (y = 0 → t = α 233 (1 + 5 * x) + -1) → (¬ y = 0 → t = α 233 (1 + 5 * x) + 1) → (sitF (α 233) t n = -1 → r = -1) ∧ (sitF (α 233) t n ≠ -1 → r = flF n M rm cs (α 233) x (sitF (α 233) t n) z)) → eX11_leak (d + 20) x y z φ1 α1 (pq sr j r) := by
        intro r φ1 α1 I1 e233 hr
        obtain ⟨op1, E1, ME1, S1⟩ := I1.open_ (by omega)
        refine vX11_leak_0 (r_areBoth I1.MO.1 I1.MO.2.1 hn.2.1 hn.1 ?_)
        rw [if_pos e]
        refine ⟨fun q => by omega, fun _ => r_isIn ?_⟩
        rw [if_pos e2]
        refine ⟨fun _ => r_seatOf (by omega) ?_, fun q => by omega⟩
        rw [e233]
        have fin : ∀ t, (y = 0 → t = α 233 (1 + 5 * x) + -1) → (¬ y = 0 → t = α 233 (1 + 5 * x) + 1) → eX11_sitterOf (d + 19) t φ1 α1 (fun r8 φ8 α8 => ((¬ r8 = (-1) → (eX11_leaksFrom (d + 19) x r8 z φ8 α8 (fun r10 φ10 α10 => (pq sr j r r10 φ10 α10)))) ∧ (r8 = (-1) → (pq sr j r (-1) φ8 α8)))) := by
          intro t t0 t1
          refine r_sitterOf I1.MO.2.1 hn.1 ?_
          rw [e233]
          have gt := G.sit t
          refine ⟨fun q => r_leaksFrom ME1 (by rw [e233]; exact G) e.1 (by omega) e.2 (fun φ2 α2 f2 v2 a2 => ⟨?_, ?_⟩), fun q => ⟨(hr t t0 t1).1 q, I1.nx⟩⟩
          · rw [e233]; exact (hr t t0 t1).2 q
          · have i5 := I1.2.2.2.2.2.1.2
            exact (Iv_fq (Nat.le_succ j) (fm_fq f2 a2) (by rw [v2]; omega) I1).inv
        exact ⟨fun q => ⟨by unfold inR; omega, fin _ (fun z => absurd z q) (fun _ => rfl)⟩, fun q => ⟨by unfold inR; omega, fin _ (fun _ => rfl) (fun z => absurd q z)⟩⟩
      have fin : ∀ t, (y = 0 → t = α 233 (1 + 5 * x) + -1) → (¬ y = 0 → t = α 233 (1 + 5 * x) + 1) → eX7_sitterAt (d + 19) 29 t φ α (fun r8 φ8 α8 => ((0 ≤ r8 → (eX9_flow (d + 19) 29 x r8 z φ8 α8 (fun r10 φ10 α10 => eX11_leak (d + 20) x y z φ10 α10 (pq sr j r10)))) ∧ (¬ (0 ≤ r8) → eX11_leak (d + 20) x y z φ8 α8 (pq sr j (-1))))) := by
        intro t t0 t1
        have gt := G.sit t
        have ut : ∀ t', (y = 0 → t' = α 233 (1 + 5 * x) + -1) → (¬ y = 0 → t' = α 233 (1 + 5 * x) + 1) → t' = t := fun t' h0 h1 => by
          by_cases q : y = 0
          · rw [h0 q, t0 q]
          · rw [h1 q, t1 q]
        refine c_sitterAtA st29 I.X G ⟨fun q => c_flow st29 I.X G E e.1 (by omega) e.2 (fun α2 ha => ?_), fun q => key _ φ α I rfl (fun t' h0 h1 => ?_)⟩
        · refine key _ φ α2 (Iv_fq (Nat.le_refl j) (sc_fq ha) I.2.2.2.2.2.1.2 I) (ha _ (by omega)) (fun t' h0 h1 => ?_)
          rw [ut t' h0 h1]
          exact ⟨fun w => by omega, fun _ => rfl⟩
        · rw [ut t' h0 h1]
          exact ⟨fun _ => rfl, fun w => by omega⟩
      exact ⟨fun q => ⟨by unfold inR; omega, fin _ (fun z => absurd z q) (fun _ => rfl)⟩, fun q => ⟨by unfold inR; omega, fin _ (fun _ => rfl) (fun z => absurd q z)⟩⟩
    · rw [if_neg e2]
      refine ⟨fun q => absurd rfl q, fun _ => vX11_leak_0 (r_areBoth I.MO.1 I.MO.2.1 hn.2.1 hn.1 ?_)⟩
      rw [if_pos e]
      refine ⟨fun q => by omega, fun _ => r_isIn ?_⟩
      rw [if_neg e2]
      exact ⟨fun q => absurd rfl q, fun _ => ⟨rfl, I.nx⟩⟩
  · rw [if_neg e]
    refine ⟨fun _ => vX11_leak_0 (r_areBoth I.MO.1 I.MO.2.1 hn.2.1 hn.1 ?_), fun q => absurd rfl q⟩
    rw [if_neg e]
    exact ⟨fun _ => ⟨rfl, I.nx⟩, fun q => absurd rfl q⟩
-- letter
theorem td27 {z : Int} {f : Nat} (h0 : 0 ≤ z) (h : z < ((27 ^ (f + 1) : Nat) : Int)) : 0 ≤ Int.tdiv z 27 ∧ Int.tdiv z 27 < ((27 ^ f : Nat) : Int) ∧ Int.tdiv z 27 ≤ z := by
  rw [Int.tdiv_eq_ediv_of_nonneg h0]
  rw [Nat.pow_succ] at h
  omega
theorem l_lo4 {x0 x1 : Int} : ∀ (f : Nat) (z x2 : Int), 0 ≤ z → z < 1000000000 → z < ((27 ^ f : Nat) : Int) → 0 ≤ x2 → x2 + f ≤ 100 → jX10_letterOf_35 d x1 (if x2 + nlF f z ≤ x1 then 0 else x0) (x2 + nlF f z - 1) φ α Q → jX10_letterOf_4 d x0 x1 x2 z φ α Q
  | 0, z, x2, h0, hz, h1, h2, h3, h => by
    have e : z = 0 := by simp at h1; omega
    subst e
    rw [show nlF 0 0 = 0 from rfl, Int.add_zero] at h
    refine vX10_letterOf_4 ⟨fun _ => ⟨fun q => ⟨by unfold inR; omega, by rwa [if_pos q] at h⟩, fun q => ⟨by unfold inR; omega, by rwa [if_neg q] at h⟩⟩, fun q => by omega⟩
  | f + 1, z, x2, h0, hz, h1, h2, h3, h => by
    have t := td27 h0 h1
    refine vX10_letterOf_4 ⟨fun q => ?_, fun q => ⟨by unfold inR; omega, by unfold inR; omega, l_lo4 f _ (x2 + 1) t.1 (by omega) t.2.1 (by omega) (by omega) ?_⟩⟩
    · rw [nlF, if_pos q, Int.add_zero] at h
      exact ⟨fun q => ⟨by unfold inR; omega, by rwa [if_pos q] at h⟩, fun q => ⟨by unfold inR; omega, by rwa [if_neg q] at h⟩⟩
    · rw [nlF, if_neg q] at h
      rw [show x2 + 1 + nlF f (Int.tdiv z 27) = x2 + (1 + nlF f (Int.tdiv z 27)) by omega]
      exact h
theorem tm27 {v : Int} (h : 0 ≤ v) : 0 ≤ Int.tmod v 27 ∧ Int.tmod v 27 < 27 := by rw [Int.tmod_eq_emod_of_nonneg h]; omega
theorem l_lo35 {x1 : Int} (hx : 0 ≤ x1) : ∀ (t : Nat) (v x4 : Int), 0 ≤ v → v < 1000000000 → -10 ≤ x4 → x4 ≤ 100 → t = (x4 - x1).toNat → Q (Int.tmod (dvF t v) 27) φ α → jX10_letterOf_35 d x1 v x4 φ α Q
  | 0, v, x4, h0, h1, h2, h3, ht, h => vX10_letterOf_35 ⟨fun _ => ⟨by have := tm27 h0; unfold inR; omega, h⟩, fun q => by omega⟩
  | t + 1, v, x4, h0, h1, h2, h3, ht, h => by
    have e : 0 ≤ Int.tdiv v 27 ∧ Int.tdiv v 27 ≤ v := by rw [Int.tdiv_eq_ediv_of_nonneg h0]; omega
    exact vX10_letterOf_35 ⟨fun q => by omega, fun q => ⟨by unfold inR; omega, by unfold inR; omega, l_lo35 hx t _ _ e.1 (by omega) (by omega) (by omega) (by omega) h⟩⟩
theorem l_le102 {x1 : Int} (hx : 0 ≤ x1) : ∀ (t : Nat) (v x4 : Int), 0 ≤ v → v < 1000000000 → -10 ≤ x4 → x4 ≤ 100 → t = (x4 - x1).toNat → Q (Int.tmod (dvF t v) 27) φ α → jX11_letter_102 (d + 1) x1 v x4 φ α Q
  | 0, v, x4, h0, h1, h2, h3, ht, h => vX11_letter_102 ⟨fun _ => ⟨by have := tm27 h0; unfold inJ; omega, by have := tm27 h0; unfold inR; omega, h⟩, fun q => by omega⟩
  | t + 1, v, x4, h0, h1, h2, h3, ht, h => by
    have e : 0 ≤ Int.tdiv v 27 ∧ Int.tdiv v 27 ≤ v := by rw [Int.tdiv_eq_ediv_of_nonneg h0]; omega
    exact vX11_letter_102 ⟨fun q => by omega, fun q => ⟨by unfold inJ; omega, by unfold inR; omega, l_le102 hx t _ _ e.1 (by omega) (by omega) (by omega) (by omega) h⟩⟩
theorem l_le67 {x0 x1 : Int} : ∀ (f : Nat) (z x2 : Int), 0 ≤ z → z < 1000000000 → z < ((27 ^ f : Nat) : Int) → 0 ≤ x2 → x2 + f ≤ 100 → (x2 + nlF f z ≤ x1 → Q 0 φ α) → (¬ (x2 + nlF f z ≤ x1) → jX11_letter_102 (d + 1) x1 x0 (x2 + nlF f z - 1) φ α Q) → jX11_letter_67 (d + 1) x1 x0 x2 z φ α Q
  | 0, z, x2, h0, hz, h1, h2, h3, ha, hb => by
    have e : z = 0 := by simp at h1; omega
    subst e
    rw [show nlF 0 0 = 0 from rfl, Int.add_zero] at ha hb
    exact vX11_letter_67 ⟨fun _ => ⟨fun q => ⟨by unfold inR; omega, hb (by omega)⟩, fun q => ha (by omega)⟩, fun q => by rw [j3_le] at q; omega⟩
  | f + 1, z, x2, h0, hz, h1, h2, h3, ha, hb => by
    have t := td27 h0 h1
    refine vX11_letter_67 ⟨fun q => ?_, fun q => ⟨by unfold inR; omega, by unfold inJ; omega, l_le67 f _ (x2 + 1) t.1 (by omega) t.2.1 (by omega) (by omega) ?_ ?_⟩⟩
    · rw [j3_le] at q
      rw [nlF, if_pos q, Int.add_zero] at ha hb
      exact ⟨fun q => ⟨by unfold inR; omega, hb (by omega)⟩, fun q => ha (by omega)⟩
    · rw [j3_le] at q
      rw [nlF, if_neg q] at ha
      rw [show x2 + 1 + nlF f (Int.tdiv z 27) = x2 + (1 + nlF f (Int.tdiv z 27)) by omega]
      exact ha
    · rw [j3_le] at q
      rw [nlF, if_neg q] at hb
      rw [show x2 + 1 + nlF f (Int.tdiv z 27) = x2 + (1 + nlF f (Int.tdiv z 27)) by omega]
      exact hb
def ltF (v k : Int) : Int := if nlF 6 v ≤ k then 0 else Int.tmod (dvF (nlF 6 v - 1 - k).toNat v) 27
theorem c_letterOf (h0 : 0 ≤ v) (h1 : v < 387420489) (hk : 0 ≤ k ∧ k ≤ 5) (h : Q (ltF v k) φ α) : eX10_letterOf d v k φ α Q := by
  have b := nlF_bd 6 v
  refine vX10_letterOf_0 (l_lo4 6 v 0 h0 (by omega) (by simpa using h1) (by omega) (by omega) ?_)
  rw [Int.zero_add]
  unfold ltF at h
  by_cases e : nlF 6 v ≤ k
  · rw [if_pos e] at h; rw [if_pos e]
    exact l_lo35 hk.1 0 0 _ (by omega) (by omega) (by omega) (by omega) (by omega) h
  · rw [if_neg e] at h; rw [if_neg e]
    exact l_lo35 hk.1 _ v _ h0 (by omega) (by omega) (by omega) rfl h
theorem p_letter (I : Inv sr j φ α) : eX10_letter (d + 20) x y z φ α (fun r φ1 α1 => eX11_letter (d + 20) x y z φ1 α1 (pq sr j r)) := by
  obtain ⟨n, M, ns, rm, cs, ct, I⟩ := I
  have hn := I.G.2.2.2.2.2.2
  obtain ⟨nm, nc⟩ := I.O.2.2.2.2.1
  have m1 := I.MO.1
  have m2 := I.MO.2.1
  have many : ∀ r, (¬ (x = 0 ∨ x = 1) → r = -1) → (x = 0 → ¬ ((0 ≤ y ∧ y < M) ∧ (0 ≤ z ∧ z ≤ 5)) → r = -1) → (x = 1 → ¬ ((0 ≤ y ∧ y < n) ∧ (0 ≤ z ∧ z ≤ 5)) → r = -1) → (x = 0 → (0 ≤ y ∧ y < M) → (0 ≤ z ∧ z ≤ 5) → r = ltF (α 227 (16 + y)) z) → (x = 1 → (0 ≤ y ∧ y < n) → (0 ≤ z ∧ z ≤ 5) → r = ltF (α 227 (24 + y)) z) → eX11_letter (d + 20) x y z φ α (pq sr j r) := by
    intro r h0 h1 h2 h3 h4
    refine vX11_letter_0 (r_isIn ?_)
    by_cases e : 0 ≤ x ∧ x ≤ 1
    · rw [if_pos e]
      obtain ⟨N, hN, hN7, ha, hb⟩ : ∃ N : Nat, α 226 (2 + x) = N ∧ N ≤ 7 ∧ (¬ ((0 ≤ y ∧ y < N) ∧ (0 ≤ z ∧ z ≤ 5)) → r = -1) ∧ ((0 ≤ y ∧ y < N) → (0 ≤ z ∧ z ≤ 5) → r = ltF (α 227 (16 + 8 * x + y)) z ∧ 0 ≤ α 227 (16 + 8 * x + y) ∧ α 227 (16 + 8 * x + y) < 387420489) := by
        rcases (show x = 0 ∨ x = 1 by omega) with rfl | rfl
        · refine ⟨M, by simpa using m1, by omega, h1 rfl, fun q1 q2 => ?_⟩
          rw [show (16 : Int) + 8 * 0 + y = 16 + y by omega]
          exact ⟨h3 rfl q1 q2, (nm y q1.1 q1.2).2⟩
        · refine ⟨n, by simpa using m2, by omega, h2 rfl, fun q1 q2 => ?_⟩
          rw [show (16 : Int) + 8 * 1 + y = 24 + y by omega]
          exact ⟨h4 rfl q1 q2, (nc y q1.1 q1.2).2⟩
      refine ⟨fun q => by omega, fun _ => ⟨by unfold inR; omega, ⟨by omega, by omega⟩, by rw [hN]; unfold inR; omega, r_isIn ?_⟩⟩
      rw [hN]
      by_cases e2 : 0 ≤ y ∧ y < N
      · rw [if_pos (by omega)]
        refine ⟨fun q => by omega, fun _ => r_isIn ?_⟩
        by_cases e3 : 0 ≤ z ∧ z ≤ 5
        · rw [if_pos e3]
          have hb := hb e2 e3
          have b := nlF_bd 6 (α 227 (16 + 8 * x + y))
          have hr := hb.1
          unfold ltF at hr
          refine ⟨fun _ => ⟨by unfold inR; omega, by unfold inR; omega, by unfold inR; omega, ⟨by omega, by omega⟩, l_le67 6 _ 0 hb.2.1 (by omega) (by simpa using hb.2.2) (by omega) (by omega) (fun q => ⟨?_, I.nx⟩) (fun q => l_le102 e3.1 _ _ _ hb.2.1 (by omega) (by omega) (by omega) rfl ⟨?_, I.nx⟩)⟩, fun q => by omega⟩
          · rw [hr, if_pos (by omega)]
          · rw [hr, if_neg (by omega), Int.zero_add]
        · rw [if_neg e3]
          exact ⟨fun q => absurd rfl q, fun _ => ⟨ha (fun w => e3 w.2), I.nx⟩⟩
      · rw [if_neg (by omega)]
        exact ⟨fun _ => ⟨ha (fun w => e2 w.1), I.nx⟩, fun q => absurd rfl q⟩
    · rw [if_neg e]
      exact ⟨fun _ => ⟨h0 (by omega), I.nx⟩, fun q => absurd rfl q⟩
  have a10 : isIA 10 11 := fun _ => rfl
  refine vX10_letter_0 ⟨fun q => ⟨fun q2 => many _ (fun _ => rfl) (fun w => absurd w q) (fun w => absurd w q2) (fun w => absurd w q) (fun w => absurd w q2), fun q2 => c_isClerk I.XO.2.2.1 ?_⟩, fun q => c_isMatter I.XO.2.1 ?_⟩
  · by_cases e2 : 0 ≤ y ∧ y < n
    · rw [if_pos e2]
      refine ⟨fun q => by omega, fun _ => c_within ?_⟩
      by_cases e3 : 0 ≤ z ∧ z ≤ 5
      · rw [if_pos e3]
        refine ⟨fun _ => ⟨by unfold inR; omega, c_pick a10 ⟨by omega, by omega⟩ ?_⟩, fun q => by omega⟩
        have w := nc y e2.1 e2.2
        rw [w.1]
        exact c_letterOf w.2.1 w.2.2 e3 (many _ (fun w => absurd (Or.inr q2) w) (fun w => absurd w q) (fun _ w => absurd ⟨e2, e3⟩ w) (fun w => absurd w q) (fun _ _ _ => rfl))
      · rw [if_neg e3]
        exact ⟨fun q => absurd rfl q, fun _ => many _ (fun _ => rfl) (fun w => absurd w q) (fun _ _ => rfl) (fun w => absurd w q) (fun _ _ w => absurd w e3)⟩
    · rw [if_neg e2]
      exact ⟨fun _ => many _ (fun _ => rfl) (fun w => absurd w q) (fun _ _ => rfl) (fun w => absurd w q) (fun _ w => absurd w e2), fun q => absurd rfl q⟩
  · have q2 : ¬ x = 1 := by omega
    by_cases e2 : 0 ≤ y ∧ y < M
    · rw [if_pos e2]
      refine ⟨fun q => by omega, fun _ => c_within ?_⟩
      by_cases e3 : 0 ≤ z ∧ z ≤ 5
      · rw [if_pos e3]
        refine ⟨fun _ => c_pick a10 ⟨by omega, by omega⟩ ?_, fun q => by omega⟩
        have w := nm y e2.1 e2.2
        rw [w.1]
        exact c_letterOf w.2.1 w.2.2 e3 (many _ (fun w => absurd (Or.inl q) w) (fun _ w => absurd ⟨e2, e3⟩ w) (fun w => absurd w q2) (fun _ _ _ => rfl) (fun w => absurd w q2))
      · rw [if_neg e3]
        exact ⟨fun q => absurd rfl q, fun _ => many _ (fun _ => rfl) (fun _ _ => rfl) (fun w => absurd w q2) (fun _ _ w => absurd w e3) (fun w => absurd w q2)⟩
    · rw [if_neg e2]
      exact ⟨fun _ => many _ (fun _ => rfl) (fun _ _ => rfl) (fun w => absurd w q2) (fun _ w => absurd w e2) (fun w => absurd w q2), fun q => absurd rfl q⟩
end Q2
