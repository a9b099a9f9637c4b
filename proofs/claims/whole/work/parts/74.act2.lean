/-! acts -/
section AC2
variable {d j : Nat} {φ φ' φ0 φ1 φ2 : aF} {α α' α0 α1 α2 : aA} {Q : Int → aF → aA → Prop} {b b2 c o m x y z v s k ce side t m' p : Int} {n M ns : Nat} {rm nw nw' nw0 sr : Int → Int} {cs ct : List Int}
theorem Iv.p2 (I : Iv n M ns rm cs ct sr j φ α) : (0 ≤ φ 3 1 43 ∧ φ 3 1 43 < 20) ∧ (0 ≤ φ 3 2 43 ∧ φ 3 2 43 ≤ 20) ∧ (0 ≤ φ 11 61 198 ∧ φ 11 61 198 < 20) ∧ (0 ≤ φ 11 60 198 ∧ φ 11 60 198 ≤ 20) := by
  obtain ⟨p1, p2, p3, p4, p5, p6, p7⟩ := I.P
  omega
theorem iV_nx (hv : 0 ≤ φ' 11 53 198 ∧ φ' 11 53 198 ≤ φ 11 53 198 + 3999999) (I : Iv n M ns rm cs ct sr j φ α) : 0 ≤ φ' 11 53 198 ∧ φ' 11 53 198 ≤ 4000000 * ((j + 1 : Nat) : Int) := by
  have := I.2.2.2.2.2.1.2
  omega
/-- the class keeps, works on its state; then the reference keeps, works on its row: both begin where both stood -/
theorem Iv_A (I : Iv n M ns rm cs ct sr j φ α) (A : AC n M ns rm cs φ α φ1 α1) : α1 233 = α 233 ∧ MO α1 n M ns rm ∧ GS n M ns rm (α1 233) ∧ φ1 11 61 198 = φ 11 61 198 ∧ φ1 11 60 198 = φ 11 60 198 ∧ φ1 11 53 198 = φ 11 53 198 ∧ φ1 11 62 198 = φ 11 62 198 ∧ φ1 11 46 198 = φ 11 46 198 ∧ φ1 11 52 198 = φ 11 52 198 := by
  have P := I.p2
  obtain ⟨a1, a2, -⟩ := A
  have e : α1 233 = α 233 := a2 _ (by omega) (by omega) (by omega) (by omega)
  exact ⟨e, MO_a (fun a _ _ => a2 a (by omega) (by omega) (by omega) (by omega)) I.MO, by rw [e]; exact I.G, a1 _ _ _ (by omega) (by omega) (by omega), a1 _ _ _ (by omega) (by omega) (by omega), a1 _ _ _ (by omega) (by omega) (by omega), a1 _ _ _ (by omega) (by omega) (by omega), a1 _ _ _ (by omega) (by omega) (by omega), a1 _ _ _ (by omega) (by omega) (by omega)⟩
/-- a state of the class on which the reference has not worked -/
theorem SN_RK (K : RK φ1 α1 φ2 α2) (S : SN 29 φ1 α1 n M ns rm cs nw) (e : α2 233 = nw) : SN 29 φ2 α2 n M ns rm cs (α2 233) :=
  SN_of (fun f _ => K.1 _ _ _ (by omega)) (fun i q1 q2 => K.2.1 _ (by omega) (by omega) (by omega)) (fun i _ _ => by rw [e]) S
/-- another row, the same kept days, a state that isn't settled -/
theorem SN_w (S : SN 29 φ α n M ns rm cs nw) (f : fr 29 φ α φ' α') (X : XS 29 φ' α' n nw') (G : GS n M ns rm nw') (s : φ' 7 9 29 = 0) (h48 : ∀ i, 48 ≤ i → i < 169 → nw' i = nw i) (h0 : nw' 0 = nw 0) : SN 29 φ' α' n M ns rm cs nw' :=
  ⟨X, G, XK_of (f.1 _ _ _ (by omega)) (f.1 _ _ _ (by omega)) (f.2 _ (by omega) (by omega)) h48 S.2.2.1, by rw [h0]; exact S.2.2.2.1, Or.inl s⟩
theorem p_tell (hj : j < 512) (I : Inv sr j φ α) : eX10_tell (d + 20) x y z φ α (fun r φ1 α1 => eX11_tell (d + 20) x y z φ1 α1 (pq sr j r)) := by
  obtain ⟨n, M, ns, rm, cs, ct, I⟩ := I
  have hn := I.G.2.2.2.2.2.2
  have P := I.p2
  refine vX10_tell_0 (c_areThere I.XO ?_)
  by_cases e : (0 ≤ x ∧ x < n) ∧ (0 ≤ y ∧ y < M)
  · rw [if_pos e]
    refine ⟨fun q => by omega, fun _ => c_within ?_⟩
    by_cases e2 : 1 ≤ z ∧ z ≤ 99
    · rw [if_pos e2]
      refine ⟨fun q => by omega, fun _ => c_canPour st29 I.X I.G I.XO I.rm0 e.1 (by omega) (by omega) ?_⟩
      have hs := sp_room I.G e.1
      have s1 : spF rm (α 233) x z = max 0 (z - (rm x - fullF (α 233) x)) := rfl
      have w := I.G.2.2.2.2.2.1 y 0 e.2.1 (by omega) (by omega) (by omega)
      rw [Int.add_zero] at w
      by_cases e3 : α 233 (36 + 3 * y) + spF rm (α 233) x z ≤ 9999
      · rw [if_pos e3]
        refine ⟨fun _ => c_keep P.1 P.2.1 I.N (fun φ1 α1 A1 S1 _ => ?_), fun q => by omega⟩
        obtain ⟨e233, O1, G1, -⟩ := Iv_A I A1
        have O : XO φ1 α1 n M ns rm := XO_of (fun f o => A1.1 _ _ _ (by omega) (by omega) (by omega)) (A1.2.1 _ (by omega) (by omega) (by omega) (by omega)) I.XO
        refine c_pour st29 S1.1 S1.2.1 O I.rm0 e.1 e.2 (by omega) e3 (fun φ2 α2 X2 f2 s2 => ?_)
        have S2 := SN_w S1 f2 X2 (tlF_G I.G e.1 e.2 (by omega) e3) s2 (fun i q1 q2 => by unfold tlF; rw [un_o (by omega), un_o (by omega)]) (tlF_0 e.1.1 e.2.1)
        have A2 := AC_l P.1 A1 (fl_d f2.d)
        obtain ⟨a233, O2, G2, m61, m60, m53, m62, -⟩ := Iv_A I A2
        refine vX11_tell_0 (r_areBoth O2.1 O2.2.1 hn.2.1 hn.1 ?_)
        rw [if_pos e]
        refine ⟨fun q => by omega, fun _ => r_isIn ?_⟩
        rw [if_pos e2]
        refine ⟨fun q => by omega, fun _ => r_floorOf (by omega) (r_spillOf O2 G2 I.rm0 e.1 (by omega) ?_)⟩
        rw [a233]
        refine ⟨by unfold inR; omega, fun _ => r_keeps (by omega) (by omega) (fun φ3 α3 K3 b3 v3 d3 => ?_), fun q => absurd e3 q⟩
        refine r_isTold (MO_a (fun a _ _ => K3.2.1 a (by omega) (by omega) (by omega)) O2) (by rw [b3]; exact G2) I.rm0 e.1 e.2 (by omega) (by rw [b3, a233]; exact e3) (fun α4 o4 a4 => ?_)
        rw [b3, a233] at a4 ⊢
        have K4 := RK_n K3 (fn_a (φ := φ3) o4)
        refine ⟨rfl, act_close I A2 K4 (SN_RK K4 S2 a4) (iD_nx ?_ (d3.trans m62) I) (iV_nx (by rw [v3, m53]; have := I.ov hj; omega) I)⟩
        rw [K4.1 _ _ _ (by omega), f2.1 _ _ _ (by omega)]
        assumption
      · rw [if_neg e3]
        refine ⟨fun q => absurd rfl q, fun _ => c_refuse hj I (by omega) (vX11_tell_0 (r_areBoth (MO_r I.MO).1 (MO_r I.MO).2.1 hn.2.1 hn.1 ?_))⟩
        rw [if_pos e]
        refine ⟨fun q => by omega, fun _ => r_isIn ?_⟩
        rw [if_pos e2]
        refine ⟨fun q => by omega, fun _ => r_floorOf (by omega) (r_spillOf (MO_r I.MO) (GS_r I.G) I.rm0 e.1 (by omega) ?_)⟩
        rw [rf_o (by omega)]
        exact ⟨by unfold inR; omega, fun q => absurd q e3, fun _ => r_refuses hj I (by omega)⟩
    · rw [if_neg e2]
      refine ⟨fun _ => c_refuse hj I (by omega) (vX11_tell_0 (r_areBoth (MO_r I.MO).1 (MO_r I.MO).2.1 hn.2.1 hn.1 ?_)), fun q => absurd rfl q⟩
      rw [if_pos e]
      refine ⟨fun q => by omega, fun _ => r_isIn ?_⟩
      rw [if_neg e2]
      exact ⟨fun _ => r_refuses hj I (by omega), fun q => absurd rfl q⟩
  · rw [if_neg e]
    refine ⟨fun _ => c_refuse hj I (by omega) (vX11_tell_0 (r_areBoth (MO_r I.MO).1 (MO_r I.MO).2.1 hn.2.1 hn.1 ?_)), fun q => absurd rfl q⟩
    rw [if_neg e]
    exact ⟨fun _ => r_refuses hj I (by omega), fun q => absurd rfl q⟩
theorem emF_M (G : GS n M ns rm nw) (hc : 0 ≤ c ∧ c < 7) (hp : 0 ≤ p ∧ p < 3) : ∀ N : Nat, M ≤ N → N ≤ 4 → emF nw c p N = emF nw c p M
  | 0, h, _ => by rw [show M = 0 by omega]
  | N + 1, h, h4 => by
    by_cases e : M = N + 1
    · rw [e]
    · have ih := emF_M G hc hp N (by omega) (by omega)
      have e1 := emF_d (nw := nw) hp hc N (by omega) N (by omega)
      have e2 := emF_p (nw := nw) hp hc N (by omega) N (by omega)
      rw [if_neg (by omega)] at e1 e2
      have z1 := (G.2.2.2.1 c N hc.1 hc.2 (by omega) (by omega)).2 (Or.inr (by omega))
      have z2 := (G.2.2.2.2.2.1 N p (by omega) (by omega) hp.1 hp.2).2.2 (by omega)
      rw [emF, e1, e2, z1, z2, ← ih]
      funext i
      unfold un
      by_cases q1 : i = 2 + 5 * c + N
      · rw [if_pos q1, q1, e1, z1]
      · rw [if_neg q1]
        by_cases q2 : i = 36 + 3 * (N : Int) + p
        · rw [if_pos q2, q2, e2, z2]; decide
        · rw [if_neg q2]
theorem emF_s {N : Nat} : emF nw c p (N + 1) = un (un (emF nw c p N) (36 + 3 * (N : Int) + p) (min 9999 (emF nw c p N (36 + 3 * (N : Int) + p) + emF nw c p N (2 + 5 * c + N)))) (2 + 5 * c + N) 0 := rfl
theorem l_goesOut {x3 : Int} (G : GS n M ns rm nw) (hc : 0 ≤ c ∧ c < 7) (hp : 0 ≤ p ∧ p < 3) (h : ∀ α', (∀ a : Int, a ≠ 233 → α' a = α0 a) → α' 233 = emF nw c p M → Q x3 φ α') : ∀ (r k : Nat) (α : aA), k + r = M → (∀ a : Int, a ≠ 233 → α a = α0 a) → α 226 2 = M → α 233 = emF nw c p k → jX11_goesOut_36 (d + 1) c p x3 k φ α Q
  | 0, k, α, hk, o, O, e => by
    have z : k = M := by omega
    subst z
    exact vX11_goesOut_36 (r_mMany O ⟨fun _ => h α o e, fun q => by omega⟩)
  | r + 1, k, α, hk, o, O, e => by
    have hn := G.2.2.2.2.2.2
    have e1 := emF_d (nw := nw) hp hc k (by omega) k (by omega)
    have e2 := emF_p (nw := nw) hp hc k (by omega) k (by omega)
    rw [if_neg (by omega)] at e1 e2
    have d1 := G.drop (m := (k : Int)) hc.1 hc.2 (by omega) (by omega)
    have d2 := G.2.2.2.2.2.1 k p (by omega) (by omega) hp.1 hp.2
    have nx : ∀ α', (∀ a : Int, a ≠ 233 → α' a = α a) → α' 233 = emF nw c p (k + 1) → jX11_goesOut_36 (d + 1) c p x3 ((k : Int) + 1) φ α' Q := fun α' o' e' => by
      have := l_goesOut G hc hp h r (k + 1) α' (by omega) (fun a q => (o' a q).trans (o a q)) (by rw [o' 226 (by omega)]; exact O) e'
      rw [show ((k + 1 : Nat) : Int) = (k : Int) + 1 by omega] at this
      exact this
    refine vX11_goesOut_36 (r_mMany O ⟨fun q => by omega, fun _ => ⟨by unfold inR; omega, by unfold inR; omega, by unfold inR; omega, ⟨by omega, by omega⟩, r_dropsOf hc (by omega) ?_⟩⟩)
    have v1 : α 233 (2 + 5 * c + k) = nw (2 + 5 * c + k) := by rw [e]; exact e1
    have v2 : α 233 (36 + 3 * (k : Int) + p) = nw (36 + 3 * (k : Int) + p) := by rw [e]; exact e2
    refine ⟨by rw [v1, v2]; unfold inR; omega, fun q => r_dropsOf hc (by omega) ⟨by rw [v1, v2]; unfold inR; omega, by unfold inR; omega, by unfold inR; omega, by unfold inR; omega, ⟨by omega, by omega⟩, by unfold inR; omega, nx _ (fun a q => by rw [upa_fn q, upa_fn q]) ?_⟩, fun q => ⟨by unfold inR; omega, by unfold inR; omega, by unfold inR; omega, ⟨by omega, by omega⟩, by unfold inR; omega, nx _ (fun a q => by rw [upa_fn q, upa_fn q]) ?_⟩⟩
    · rw [v1, v2] at q
      rw [emF_s, e1, e2, show min 9999 (nw (36 + 3 * (k : Int) + p) + nw (2 + 5 * c + k)) = nw (36 + 3 * (k : Int) + p) + nw (2 + 5 * c + k) by omega]
      simp only [upa_un]
      rw [v1, v2, e]
    · rw [v1, v2] at q
      rw [emF_s, e1, e2, show min 9999 (nw (36 + 3 * (k : Int) + p) + nw (2 + 5 * c + k)) = 9999 by omega]
      simp only [upa_un]
      rw [e]
theorem emF_48 (hc : 0 ≤ c ∧ c < 7) (hp : 0 ≤ p ∧ p < 3) : ∀ i, 48 ≤ i → emF nw c p 4 i = nw i := fun i h => emF_o ⟨fun q => by omega, fun _ j hj => by omega⟩ hp hc 4 (Nat.le_refl 4)
theorem emF_0 (hc : 0 ≤ c ∧ c < 7) (hp : 0 ≤ p ∧ p < 3) : emF nw c p 4 0 = nw 0 := emF_o ⟨fun q => by omega, fun q j hj => by omega⟩ hp hc 4 (Nat.le_refl 4)
theorem p_out (hj : j < 512) (hp : 0 ≤ p ∧ p < 3) (I : Inv sr j φ α) : eX10_dry (d + 19) x p φ α (fun r φ1 α1 => eX11_goesOut (d + 19) x p φ1 α1 (pq sr j r)) := by
  obtain ⟨n, M, ns, rm, cs, ct, I⟩ := I
  have hn := I.G.2.2.2.2.2.2
  have P := I.p2
  refine vX10_dry_0 (c_isClerk I.XO.2.2.1 ?_)
  by_cases e : 0 ≤ x ∧ x < n
  · rw [if_pos e]
    refine ⟨fun q => by omega, fun _ => c_pick (st4 st29) ⟨e.1, by omega⟩ ?_⟩
    rw [show α 33 x = fullF (α 233) x from I.X.2.2.2.2.1 x e.1 (by omega)]
    refine ⟨fun q0 => c_keep P.1 P.2.1 I.N (fun φ1 α1 A1 S1 _ => ?_), fun q0 => ?_⟩
    · refine c_empty st29 S1.1 S1.2.1 (by omega) hp (fun φ2 α2 X2 f2 s2 => ?_)
      have S2 := SN_w S1 f2 X2 (emF_G I.G e hp) s2 (fun i q1 q2 => emF_48 (by omega) hp i q1) (emF_0 (by omega) hp)
      have A2 := AC_l P.1 A1 (fl_d f2.d)
      obtain ⟨a233, O2, G2, m61, m60, m53, m62, -⟩ := Iv_A I A2
      refine vX11_goesOut_0 (r_isClerk O2.2.1 hn.1 ?_)
      rw [if_pos e]
      refine ⟨fun q => by omega, fun _ => r_fullOf G2 (by omega) ?_⟩
      rw [a233]
      refine ⟨fun _ => r_keeps (by omega) (by omega) (fun φ3 α3 K3 b3 v3 d3 => r_fullOf (by rw [b3]; exact G2) (by omega) ?_), fun q => absurd q q0⟩
      rw [b3, a233]
      have := l_goesOut (d := d + 18) (φ := φ3) (α0 := α3) (x3 := fullF (α 233) x) (Q := pq sr j (fullF (α 233) x)) (nw := α 233) I.G (c := x) (p := p) (by omega) hp (fun α4 o4 a4 => by
        have K4 := RK_n K3 (fn_a (φ := φ3) o4)
        refine ⟨rfl, act_close I A2 K4 (SN_RK K4 S2 (by rw [a4]; exact (emF_M I.G (by omega) hp 4 hn.2.1 (Nat.le_refl 4)).symm)) (iD_nx ?_ (d3.trans m62) I) (iV_nx (by rw [v3, m53]; have := I.ov hj; omega) I)⟩
        rw [K4.1 _ _ _ (by omega), f2.1 _ _ _ (by omega)]
        assumption) M 0 α3 (by omega) (fun _ _ => rfl) (by rw [K3.2.1 _ (by omega) (by omega) (by omega)]; exact O2.1) (by rw [b3, a233]; rfl)
      exact this
    · refine c_refuse hj I (by omega) (vX11_goesOut_0 (r_isClerk (MO_r I.MO).2.1 hn.1 ?_))
      rw [if_pos e]
      refine ⟨fun q => by omega, fun _ => r_fullOf (GS_r I.G) (by omega) ?_⟩
      rw [rf_o (by omega)]
      exact ⟨fun q => absurd q0 q, fun _ => r_refuses hj I (by omega)⟩
  · rw [if_neg e]
    refine ⟨fun _ => c_refuse hj I (by omega) (vX11_goesOut_0 (r_isClerk (MO_r I.MO).2.1 hn.1 ?_)), fun q => absurd rfl q⟩
    rw [if_neg e]
    exact ⟨fun _ => r_refuses hj I (by omega), fun q => absurd rfl q⟩
theorem p_squeeze (hj : j < 512) (I : Inv sr j φ α) : eX10_squeeze (d + 20) x φ α (fun r φ1 α1 => eX11_squeeze (d + 20) x φ1 α1 (pq sr j r)) :=
  vX10_squeeze_0 (R0.mono (p_out (d := d) (x := x) hj (p := 1) (by omega) I) (fun r φ1 α1 h => vX11_squeeze_0 h))
theorem p_rinse (hj : j < 512) (I : Inv sr j φ α) : eX10_rinse (d + 20) x φ α (fun r φ1 α1 => eX11_rinse (d + 20) x φ1 α1 (pq sr j r)) :=
  vX10_rinse_0 (R0.mono (p_out (d := d) (x := x) hj (p := 2) (by omega) I) (fun r φ1 α1 h => vX11_rinse_0 h))
/-- v drops of m go from the floor to c -/
def tkF (nw : Int → Int) (c m v : Int) : Int → Int := un (un nw (36 + 3 * m) (nw (36 + 3 * m) + -v)) (2 + 5 * c + m) (nw (2 + 5 * c + m) + v)
def tfF (rm nw : Int → Int) (c : Int) : Nat → (Int → Int) × Int
  | 0 => (nw, 0)
  | k + 1 => (tkF (tfF rm nw c k).1 c k (min ((tfF rm nw c k).1 (36 + 3 * (k : Int))) (rm c - fullF (tfF rm nw c k).1 c)), (tfF rm nw c k).2 + min ((tfF rm nw c k).1 (36 + 3 * (k : Int))) (rm c - fullF (tfF rm nw c k).1 c))
theorem tk_G (G : GS n M ns rm nw) (hc : 0 ≤ c ∧ c < n) (hm : 0 ≤ m ∧ m < M) (hv : 0 ≤ v) (h1 : v ≤ nw (36 + 3 * m)) (h2 : v ≤ rm c - fullF nw c) : GS n M ns rm (tkF nw c m v) := by
  have w0 := G.2.2.2.2.2.1 m 0 hm.1 (by have := G.2.2.2.2.2.2; omega) (by omega) (by omega)
  rw [Int.add_zero] at w0
  obtain ⟨g1, g2, g3, g4, g5, g6, g7⟩ := G
  have o : ∀ i : Int, i ≠ 2 + 5 * c + m → i ≠ 36 + 3 * m → tkF nw c m v i = nw i := fun i h1 h2 => by unfold tkF; rw [un_o h1, un_o h2]
  have dd : tkF nw c m v (2 + 5 * c + m) = nw (2 + 5 * c + m) + v := by unfold tkF; rw [un_s]
  have pp : tkF nw c m v (36 + 3 * m) = nw (36 + 3 * m) + -v := by unfold tkF; rw [un_o (by omega), un_s]
  refine ⟨by rw [o 0 (by omega) (by omega)]; exact g1, fun c' h => by rw [o _ (by omega) (by omega)]; exact g2 c' h, fun c1 c2 h1 h2 h => g3 c1 c2 h1 h2 (by rw [o _ (by omega) (by omega), o _ (by omega) (by omega)] at h; exact h), fun c' m' q1 q2 q3 q4 => ?_, fun c' q1 q2 => ?_, fun m' p' q1 q2 q3 q4 => ?_, g7⟩
  · have w := g4 c' m' q1 q2 q3 q4
    by_cases e : c' = c ∧ m' = m
    · obtain ⟨rfl, rfl⟩ := e
      rw [dd]
      exact ⟨by omega, fun z => by omega⟩
    · rw [o _ (by omega) (by omega)]; exact w
  · have w := g5 c' q1 q2
    unfold tkF
    by_cases e : c' = c
    · subst e
      rw [show nw (2 + 5 * c' + m) = un nw (36 + 3 * m) (nw (36 + 3 * m) + -v) (2 + 5 * c' + m) from (un_o (by omega)).symm, fullF_un (by omega), fullF_un_o (by omega)]
      omega
    · rw [fullF_un_o (by omega), fullF_un_o (by omega)]; exact w
  · have w := g6 m' p' q1 q2 q3 q4
    by_cases e : m' = m ∧ p' = 0
    · obtain ⟨rfl, rfl⟩ := e
      rw [Int.add_zero] at w ⊢
      rw [pp]
      exact ⟨by omega, by omega, fun z => by omega⟩
    · rw [o _ (by omega) (by omega)]; exact w
theorem tf_inv (G : GS n M ns rm nw) (hc : 0 ≤ c ∧ c < n) : ∀ k : Nat, k ≤ M → GS n M ns rm (tfF rm nw c k).1 ∧ 0 ≤ (tfF rm nw c k).2 ∧ (tfF rm nw c k).2 ≤ 99 * (k : Int) ∧ (∀ i, i = 0 ∨ 48 ≤ i → (tfF rm nw c k).1 i = nw i)
  | 0, _ => ⟨G, Int.le_refl _, by show (0 : Int) ≤ _; omega, fun _ _ => rfl⟩
  | k + 1, h => by
    have hn := G.2.2.2.2.2.2
    obtain ⟨i1, i2, i3, i4⟩ := tf_inv G hc k (by omega)
    have hs := sp_room i1 hc
    have w0 := i1.2.2.2.2.2.1 k 0 (by omega) (by omega) (by omega) (by omega)
    rw [Int.add_zero] at w0
    refine ⟨tk_G i1 hc (by omega) (by omega) (by omega) (by omega), ?_, ?_, fun i hi => ?_⟩
    · show 0 ≤ (tfF rm nw c k).2 + _; omega
    · show (tfF rm nw c k).2 + _ ≤ _; omega
    · show tkF _ _ _ _ i = _
      unfold tkF
      rw [un_o (by omega), un_o (by omega)]
      exact i4 i hi
theorem l_take (hb : isSt b) (G : GS n M ns rm nw) (hc : 0 ≤ c ∧ c < n) (hrm : ∀ c : Int, 0 ≤ c → c < n → 0 ≤ rm c) : ∀ (r k : Nat), k + r = M → ∀ (φ : aF) (α : aA), XS b φ α n (tfF rm nw c k).1 → XO φ α n M ns rm → (0 < k → φ 7 9 b = 0) → (∀ φ' α', XS b φ' α' n (tfF rm nw c M).1 → fr b φ α φ' α' → (0 < M → φ' 7 9 b = 0) → Q (tfF rm nw c M).2 φ' α') → jX9_takeFromFloor_5 (d + 3) b c (tfF rm nw c k).2 k φ α Q
  | 0, k, hk, φ, α, X, O, hs, h => by
    have z : k = M := by omega
    subst z
    exact vX9_takeFromFloor_5 hb ⟨fun _ => h φ α X fr.rf hs, fun q => by have := O.2.1; omega⟩
  | r + 1, k, hk, φ, α, X, O, hs, h => by
    have hn := G.2.2.2.2.2.2
    have hr := st_rng hb
    obtain ⟨i1, i2, i3, i4⟩ := tf_inv G hc k (by omega)
    have hsp := sp_room i1 hc
    have w0 := i1.2.2.2.2.2.1 k 0 (by omega) (by omega) (by omega) (by omega)
    rw [Int.add_zero] at w0
    have d1 := i1.drop hc.1 (show c < 7 by omega) (m := (k : Int)) (by omega) (by omega)
    have d2 := i1.full hc.1 (show c < 7 by omega)
    refine vX9_takeFromFloor_5 hb ⟨fun q => by have := O.2.1; omega, fun _ => c_poolOf hb X (by omega) (by omega) (c_space hb X i1 O hrm hc ?_)⟩
    rw [Int.add_zero]
    refine c_min ⟨by unfold inR; omega, c_addToPool hb hn.1 X (by omega) (by omega) (by rw [Int.add_zero]; unfold inR; omega) (fun α1 X1 f1 => ?_)⟩
    rw [Int.add_zero, show min 9999 ((tfF rm nw c k).1 (36 + 3 * (k : Int)) + -min ((tfF rm nw c k).1 (36 + 3 * (k : Int))) (rm c - fullF (tfF rm nw c k).1 c)) = (tfF rm nw c k).1 (36 + 3 * (k : Int)) + -min ((tfF rm nw c k).1 (36 + 3 * (k : Int))) (rm c - fullF (tfF rm nw c k).1 c) by omega] at X1
    refine c_gain hb X1 (by omega) (by omega) (by rw [un_o (by omega)]; unfold inR; omega) (by rw [fullF_un_o (by omega)]; unfold inR; omega) (fun φ2 α2 X2 f2 s2 _ => ⟨by unfold inR; omega, by unfold inR; omega, ?_⟩)
    rw [un_o (by omega)] at X2
    have := l_take hb G hc hrm r (k + 1) (by omega) φ2 α2 X2 (XO_of (fun f o => (f2.1 _ _ _ (by omega)).trans (f1.1 _ _ _ (by omega))) ((f2.2 _ (by omega) (by omega)).trans (f1.2 _ (by omega) (by omega))) O) (fun _ => s2) (fun φ' α' X' f' s' => h φ' α' X' ((f1.tr f2).tr f') s')
    rw [show ((k + 1 : Nat) : Int) = (k : Int) + 1 by omega] at this
    exact this
theorem l_mopM (G : GS n M ns rm nw) (hc : 0 ≤ c ∧ c < n) (hrm : ∀ c : Int, 0 ≤ c → c < n → 0 ≤ rm c) (h : ∀ α', (∀ a : Int, a ≠ 233 → α' a = α0 a) → α' 233 = (tfF rm nw c M).1 → Q (tfF rm nw c M).2 φ α') : ∀ (r k : Nat) (α : aA), k + r = M → (∀ a : Int, a ≠ 233 → α a = α0 a) → MO α n M ns rm → α 233 = (tfF rm nw c k).1 → jX11_mop_38 (d + 3) c (tfF rm nw c k).2 k φ α Q
  | 0, k, α, hk, o, O, e => by
    have z : k = M := by omega
    subst z
    exact vX11_mop_38 (r_mMany O.1 ⟨fun _ => h α o e, fun q => by omega⟩)
  | r + 1, k, α, hk, o, O, e => by
    have hn := G.2.2.2.2.2.2
    obtain ⟨i1, i2, i3, i4⟩ := tf_inv G hc k (by omega)
    have hsp := sp_room i1 hc
    have w0 := i1.2.2.2.2.2.1 k 0 (by omega) (by omega) (by omega) (by omega)
    rw [Int.add_zero] at w0
    have d1 := i1.drop hc.1 (show c < 7 by omega) (m := (k : Int)) (by omega) (by omega)
    have Ge : GS n M ns rm (α 233) := by rw [e]; exact i1
    have nx : ∀ α' v, v = min ((tfF rm nw c k).1 (36 + 3 * (k : Int))) (rm c - fullF (tfF rm nw c k).1 c) → (∀ a : Int, a ≠ 233 → α' a = α a) → α' 233 = tkF (tfF rm nw c k).1 c k v → jX11_mop_38 (d + 3) c ((tfF rm nw c k).2 + v) ((k : Int) + 1) φ α' Q := fun α' v hv o' e' => by
      subst hv
      have := l_mopM G hc hrm h r (k + 1) α' (by omega) (fun a q => (o' a q).trans (o a q)) (MO_a (fun a _ _ => o' a (by omega)) O) e'
      rw [show ((k + 1 : Nat) : Int) = (k : Int) + 1 by omega] at this
      exact this
    refine vX11_mop_38 (r_mMany O.1 ⟨fun q => by omega, fun _ => r_floorOf (by omega) (r_spaceOf O Ge hrm hc ?_)⟩)
    refine ⟨fun q => r_spaceOf O Ge hrm hc ?_, fun q => r_floorOf (by omega) ?_⟩
    · rw [e] at q ⊢
      refine ⟨by unfold inR; omega, by unfold inR; omega, ⟨by omega, by omega⟩, by unfold inR; omega, by unfold inR; omega, by unfold inR; omega, by unfold inR; omega, ⟨by omega, by omega⟩, by rw [upa_ni (by omega), e]; unfold inR; omega, by unfold inR; omega, by unfold inR; omega, nx _ _ (by omega) (fun a q => by rw [upa_fn q, upa_fn q]) ?_⟩
      simp only [upa_un]
      rw [un_o (by omega), e]
      rfl
    · rw [e] at q ⊢
      refine ⟨by unfold inR; omega, by unfold inR; omega, ⟨by omega, by omega⟩, by unfold inR; omega, by unfold inR; omega, by unfold inR; omega, by unfold inR; omega, ⟨by omega, by omega⟩, by rw [upa_ni (by omega), e]; unfold inR; omega, by unfold inR; omega, by unfold inR; omega, nx _ _ (by omega) (fun a q => by rw [upa_fn q, upa_fn q]) ?_⟩
      simp only [upa_un]
      rw [un_o (by omega), e]
      rfl
theorem p_mop (hj : j < 512) (I : Inv sr j φ α) : eX10_mop (d + 20) x φ α (fun r φ1 α1 => eX11_mop (d + 20) x φ1 α1 (pq sr j r)) := by
  obtain ⟨n, M, ns, rm, cs, ct, I⟩ := I
  have hn := I.G.2.2.2.2.2.2
  have P := I.p2
  refine vX10_mop_0 (c_isClerk I.XO.2.2.1 ?_)
  by_cases e : 0 ≤ x ∧ x < n
  · rw [if_pos e]
    refine ⟨fun q => by omega, fun _ => c_space st29 I.X I.G I.XO I.rm0 e ⟨fun q0 => ?_, fun q0 => c_pooled st29 I.X I.G (by omega) ?_⟩⟩
    · refine c_refuse hj I (by omega) (vX11_mop_0 (r_isClerk (MO_r I.MO).2.1 hn.1 ?_))
      rw [if_pos e]
      refine ⟨fun q => by omega, fun _ => r_spaceOf (MO_r I.MO) (GS_r I.G) I.rm0 e ?_⟩
      rw [rf_o (by omega)]
      exact ⟨fun _ => r_refuses hj I (by omega), fun q => absurd q0 q⟩
    · rw [pl_n I.G (by omega)]
      refine ⟨fun q1 => c_keep P.1 P.2.1 I.N (fun φ1 α1 A1 S1 z1 => ?_), fun q1 => ?_⟩
      · have O : XO φ1 α1 n M ns rm := XO_of (fun f o => A1.1 _ _ _ (by omega) (by omega) (by omega)) (A1.2.1 _ (by omega) (by omega) (by omega) (by omega)) I.XO
        have hM : 0 < M := by
          rcases Nat.eq_zero_or_pos M with z | z
          · subst z; exact absurd rfl q1
          · exact z
        obtain ⟨t1, t2, t3, t4⟩ := tf_inv I.G e M (Nat.le_refl M)
        have := l_take (d := d + 16) (Q := fun r φ1 α1 => eX11_mop (d + 20) x φ1 α1 (pq sr j r)) (rm := rm) (nw := α 233) st29 I.G e I.rm0 M 0 (by omega) φ1 α1 S1.1 O (fun q => by omega) (fun φ2 α2 X2 f2 s2 => by
          have S2 := SN_w S1 f2 X2 t1 (s2 hM) (fun i q1 q2 => t4 i (by omega)) (t4 0 (by omega))
          have A2 := AC_l P.1 A1 (fl_d f2.d)
          obtain ⟨a233, O2, G2, m61, m60, m53, m62, -⟩ := Iv_A I A2
          refine vX11_mop_0 (r_isClerk O2.2.1 hn.1 ?_)
          rw [if_pos e]
          refine ⟨fun q => by omega, fun _ => r_spaceOf O2 G2 I.rm0 e ?_⟩
          rw [a233]
          refine ⟨fun q => absurd q q0, fun _ => r_floorAll O2.1 G2 ?_⟩
          rw [a233]
          refine ⟨fun _ => r_keeps (by omega) (by omega) (fun φ3 α3 K3 b3 v3 d3 => ?_), fun q => absurd q q1⟩
          have := l_mopM (d := d + 17) (φ := φ3) (α0 := α3) (Q := pq sr j (tfF rm (α 233) x M).2) (nw := α 233) I.G e I.rm0 (fun α4 o4 a4 => by
            have K4 := RK_n K3 (fn_a (φ := φ3) o4)
            refine ⟨rfl, act_close I A2 K4 (SN_RK K4 S2 a4) (iD_nx ?_ (d3.trans m62) I) (iV_nx (by rw [v3, m53]; have := I.ov hj; omega) I)⟩
            rw [K4.1 _ _ _ (by omega), f2.1 _ _ _ (by omega)]
            exact z1) M 0 α3 (by omega) (fun _ _ => rfl) (MO_a (fun a _ _ => K3.2.1 a (by omega) (by omega) (by omega)) O2) (by rw [b3, a233]; rfl)
          exact this)
        exact vX9_takeFromFloor_0 st29 this
      · refine c_refuse hj I (by omega) (vX11_mop_0 (r_isClerk (MO_r I.MO).2.1 hn.1 ?_))
        rw [if_pos e]
        refine ⟨fun q => by omega, fun _ => r_spaceOf (MO_r I.MO) (GS_r I.G) I.rm0 e ?_⟩
        rw [rf_o (by omega)]
        refine ⟨fun q => absurd q q0, fun _ => r_floorAll (MO_r I.MO).1 (GS_r I.G) ?_⟩
        rw [rf_o (by omega)]
        exact ⟨fun q => absurd q1 q, fun _ => r_refuses hj I (by omega)⟩
  · rw [if_neg e]
    refine ⟨fun _ => c_refuse hj I (by omega) (vX11_mop_0 (r_isClerk (MO_r I.MO).2.1 hn.1 ?_)), fun q => absurd rfl q⟩
    rw [if_neg e]
    exact ⟨fun _ => r_refuses hj I (by omega), fun q => absurd rfl q⟩
end AC2
