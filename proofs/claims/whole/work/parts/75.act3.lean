section AC3
variable {d j : Nat} {φ φ' φ0 φ1 φ2 : aF} {α α' α0 α1 α2 : aA} {Q : Int → aF → aA → Prop} {b b2 c o m x y z v s k ce side t m' p : Int} {n M ns : Nat} {rm nw nw' nw0 sr : Int → Int} {cs ct : List Int}
theorem rd0 (hj : j < 512) (I : Iv n M ns rm cs ct sr j φ α) (hk : 0 ≤ k ∧ k < 6) : inR (rf1 α k 200 k + 1) ∧ pq sr j 0 0 φ (upa (rf1 α k) 200 k (rf1 α k 200 k + 1)) := ⟨rfR hj I hk, rfl, Iv_r I hk⟩
theorem p_seed (hj : j < 512) (I : Inv sr j φ α) (hx : inR x) : eX10_seed (d + 20) x φ α (fun r φ1 α1 => eX11_seed (d + 20) x φ1 α1 (pq sr j r)) := by
  obtain ⟨n, M, ns, rm, cs, ct, I⟩ := I
  refine vX10_seed_0 ⟨fun q => vX11_seed_0 ⟨fun _ => ⟨rfl, n, M, ns, rm, cs, ct, ?_⟩, fun w => absurd q w⟩, fun q => c_deny hj I (by omega) ⟨Or.inl rfl, vX11_seed_0 ⟨fun w => absurd w q, fun _ => rd0 hj I (by omega)⟩⟩⟩
  obtain ⟨i0, i1, i2, i3, i4, i5, i6, i7, i8, i9, i10, i11⟩ := I
  have ff : ∀ c f o, ¬ (c = 10 ∧ f = 15) → ¬ (c = 11 ∧ f = 62) → upf (upf φ 10 15 0 x) 11 62 198 x c f o = φ c f o := fun c f o q1 q2 => by rw [upf_o (by omega), upf_o (by omega)]
  refine ⟨i0, iT_of (ff _ _ _ (by omega) (by omega)) (ff _ _ _ (by omega) (by omega)) rfl rfl i1, iF_of (ff _ _ _ (by omega) (by omega)) (ff _ _ _ (by omega) (by omega)) (ff _ _ _ (by omega) (by omega)) (ff _ _ _ (by omega) (by omega)) i2, iR_of (Nat.le_succ j) rfl rfl i3, ⟨by rw [upf_o (by omega), upf_s, upf_s], by rw [upf_s]; exact q, by rw [upf_s]; exact hx.2⟩, ⟨by rw [ff _ _ _ (by omega) (by omega)]; exact i5.1, by rw [ff _ _ _ (by omega) (by omega)]; exact i5.2.1, by rw [ff _ _ _ (by omega) (by omega)]; have := i5.2.2; omega⟩, iO_of (fun _ => ff _ _ _ (by omega) (by omega)) (ff _ _ _ (by omega) (by omega)) (ff _ _ _ (by omega) (by omega)) (ff _ _ _ (by omega) (by omega)) (fun _ _ _ => rfl) (fun _ _ _ => rfl) i6, iN_of (fun _ _ => ff _ _ _ (by omega) (by omega)) (fun _ _ _ => rfl) rfl i7, iP_of (ff _ _ _ (by omega) (by omega)) (ff _ _ _ (by omega) (by omega)) (ff _ _ _ (by omega) (by omega)) (ff _ _ _ (by omega) (by omega)) (fun _ _ _ _ => ff _ _ _ (by omega) (by omega)) (fun _ _ _ => rfl) rfl i8, iS_of (ff _ _ _ (by omega) (by omega)) (ff _ _ _ (by omega) (by omega)) rfl rfl i9, iC_of (ff _ _ _ (by omega) (by omega)) (ff _ _ _ (by omega) (by omega)) rfl rfl i10, iW_of rfl (fun _ _ _ => rfl) (fun _ _ _ => rfl) i11⟩
theorem Iv.op01 (I : Iv n M ns rm cs ct sr j φ α) : (φ 11 46 198 = 0 ∧ n = 0 ∧ M = 0 ∧ ns = 0) ∨ φ 11 46 198 = 1 := by
  rcases I.O.2.2.2.2.2.2 with q | q
  · exact Or.inl q
  · exact Or.inr q.1
theorem r_changeH (O : MO α n M ns rm) (hn : n ≤ 7 ∧ M ≤ 4 ∧ ns ≤ 9) (h46 : (φ 11 46 198 = 0 ∧ n = 0 ∧ M = 0 ∧ ns = 0) ∨ φ 11 46 198 = 1)
    (h1 : (0 ≤ x ∧ x < ns) → (0 ≤ y ∧ y < ns) → x ≠ y → ¬ (sitF (α 233) x n = -1 ∧ sitF (α 233) y n = -1) → eX11_keeps (d + 2) φ α (fun r15 φ15 α15 => eX11_changes (d + 2) x y φ15 α15 (fun r16 φ16 α16 => Q 1 φ16 α16)))
    (h0 : ¬ ((0 ≤ x ∧ x < ns) ∧ (0 ≤ y ∧ y < ns) ∧ x ≠ y ∧ ¬ (sitF (α 233) x n = -1 ∧ sitF (α 233) y n = -1)) → inR (α 200 2 + 1) ∧ Q 0 φ (upa α 200 2 (α 200 2 + 1))) : eX11_change (d + 3) x y φ α Q := by
  have es := O.2.2.1
  refine vX11_change_0 ⟨fun q => h0 (by rcases h46 with w | w <;> omega), fun _ => ⟨by unfold inR; omega, r_isIn ?_⟩⟩
  by_cases e : 0 ≤ x ∧ x < ns
  · rw [if_pos (by omega)]
    refine ⟨fun q => by omega, fun _ => ⟨by unfold inR; omega, r_isIn ?_⟩⟩
    by_cases e2 : 0 ≤ y ∧ y < ns
    · rw [if_pos (by omega)]
      refine ⟨fun q => by omega, fun _ => ⟨fun q => h0 (fun w => w.2.2.1 q), fun q => r_sitterOf O.2.1 hn.1 ⟨fun q1 => h1 e e2 q (fun w => q1 w.1), fun q1 => r_sitterOf O.2.1 hn.1 ⟨fun q2 => h1 e e2 q (fun w => q2 w.2), fun q2 => h0 (fun w => w.2.2.2 ⟨q1, q2⟩)⟩⟩⟩⟩
    · rw [if_neg (by omega)]
      exact ⟨fun _ => h0 (fun w => e2 w.2.1), fun q => absurd rfl q⟩
  · rw [if_neg (by omega)]
    exact ⟨fun _ => h0 (fun w => e w.1), fun q => absurd rfl q⟩
theorem p_change (hj : j < 512) (I : Inv sr j φ α) : eX10_change (d + 20) x y φ α (fun r φ1 α1 => eX11_change (d + 20) x y φ1 α1 (pq sr j r)) := by
  obtain ⟨n, M, ns, rm, cs, ct, I⟩ := I
  have hn := I.G.2.2.2.2.2.2
  have P := I.p2
  have no : ¬ ((0 ≤ x ∧ x < ns) ∧ (0 ≤ y ∧ y < ns) ∧ x ≠ y ∧ ¬ (sitF (α 233) x n = -1 ∧ sitF (α 233) y n = -1)) → eX10_deny (d + 19) 2 φ α (fun r3 φ3 α3 => (r3 = 0 ∨ r3 = 1) ∧ eX11_change (d + 20) x y φ3 α3 (pq sr j r3)) := fun hno => c_deny hj I (by omega) ⟨Or.inl rfl, r_changeH (d := d + 17) (MO_r I.MO) hn I.op01 (fun w1 w2 w3 w4 => absurd (by rw [rf_o (by omega)] at w4; exact ⟨w1, w2, w3, w4⟩) hno) (fun _ => rd0 hj I (by omega))⟩
  have go : (0 ≤ x ∧ x < ns) → (0 ≤ y ∧ y < ns) → x ≠ y → ¬ (sitF (α 233) x n = -1 ∧ sitF (α 233) y n = -1) → eX3_keep (d + 19) 29 φ α (fun r14 φ14 α14 => eX7_swap (d + 19) 29 x y φ14 α14 (fun r15 φ15 α15 => eX11_change (d + 20) x y φ15 α15 (pq sr j 1))) := by
    intro w1 w2 w3 w4
    refine c_keep P.1 P.2.1 I.N (fun φ1 α1 A1 S1 z1 => c_swap st29 S1.1 S1.2.1 (by omega) (by omega) w3 (fun φ2 α2 X2 f2 s2 => ?_))
    have S2 := SN_w S1 f2 X2 (swF_G I.G w1 w2 w3) s2 (fun i q1 q2 => swF_o I.G (fun c hc => by omega)) (swF_o I.G (fun c hc => by omega))
    have A2 := AC_l P.1 A1 (fl_d f2.d)
    obtain ⟨a233, O2, G2, m61, m60, m53, m62, m46, -⟩ := Iv_A I A2
    refine r_changeH (d := d + 17) O2 hn (by rw [m46]; exact I.op01) (fun _ _ _ _ => r_keeps (by omega) (by omega) (fun φ3 α3 K3 b3 v3 d3 => ?_)) (fun hno => absurd ⟨w1, w2, w3, by rw [a233]; exact w4⟩ hno)
    refine r_changes (n := n) (rm := rm) (M := M) (ns := ns) (by rw [K3.2.1 _ (by omega) (by omega) (by omega)]; exact O2.2.1) (by rw [b3]; exact G2) (fun α4 o4 a4 => ?_)
    rw [b3, a233] at a4
    have K4 := RK_n K3 (fn_a (φ := φ3) o4)
    refine ⟨rfl, act_close I A2 K4 (SN_RK K4 S2 a4) (iD_nx ?_ (d3.trans m62) I) (iV_nx (by rw [v3, m53]; have := I.ov hj; omega) I)⟩
    rw [K4.1 _ _ _ (by omega), f2.1 _ _ _ (by omega)]
    exact z1
  have sx := I.G.sit x
  have sy := I.G.sit y
  refine vX10_change_0 (c_isSeat I.XO.1 ?_)
  by_cases e : 0 ≤ x ∧ x < ns
  · rw [if_pos e]
    refine ⟨fun q => by omega, fun _ => c_isSeat I.XO.1 ?_⟩
    by_cases e2 : 0 ≤ y ∧ y < ns
    · rw [if_pos e2]
      refine ⟨fun q => by omega, fun _ => ⟨fun q => no (fun w => w.2.2.1 q), fun q => c_sitterAt st29 I.X (by omega) ⟨fun q1 => go e e2 q (by omega), fun q1 => c_sitterAt st29 I.X (by omega) ⟨fun q2 => go e e2 q (by omega), fun q2 => no (fun w => w.2.2.2 (by omega))⟩⟩⟩⟩
    · rw [if_neg e2]
      exact ⟨fun _ => no (fun w => e2 w.2.1), fun q => absurd rfl q⟩
  · rw [if_neg e]
    exact ⟨fun _ => no (fun w => e w.1), fun q => absurd rfl q⟩
theorem l_undo {q0 : Int} (hq : 0 ≤ q0 ∧ q0 < 20) (e61 : φ 11 61 198 = q0) (e60 : 0 < φ 11 60 198 ∧ φ 11 60 198 ≤ 20) : ∀ (r : Nat) (k : Int) (α : aA), 0 ≤ k → k + r = 169 → Q 1 (upf (upf φ 11 61 198 ((q0 + 19) % 20)) 11 60 198 (φ 11 60 198 - 1)) (rg α 233 k 169 (fun i => α 238 (169 * q0 + i))) → jX11_undo_21 d k φ α Q
  | 0, k, α, h0, hk, h => by
    have z : k = 169 := by omega
    subst z
    rw [rg_end (by omega)] at h
    refine vX11_undo_21 ⟨fun _ => ?_, fun q => by omega⟩
    rw [e61, Int.tmod_eq_emod_of_nonneg (by omega), show q0 + 20 - 1 = q0 + 19 by omega]
    exact ⟨by unfold inR; omega, by unfold inR; omega, by unfold inR; omega, by unfold inR; omega, h⟩
  | r + 1, k, α, h0, hk, h => by
    refine vX11_undo_21 ⟨fun q => by omega, fun _ => ?_⟩
    rw [e61]
    have e := @rg_step α 233 k 169 (fun i => α 238 (169 * q0 + i)) (by omega)
    try dsimp only at e
    refine ⟨by unfold inR; omega, by unfold inR; omega, ⟨by omega, by omega⟩, ⟨by omega, by omega⟩, by unfold inR; omega, l_undo hq e61 e60 r (k + 1) _ (by omega) (by omega) ?_⟩
    rw [upa_fn (show (238 : Int) ≠ 233 by omega), e]
    exact h
theorem p_undo (hj : j < 512) (I : Inv sr j φ α) : eX10_undo (d + 20) φ α (fun r φ1 α1 => eX11_undo (d + 20) φ1 α1 (pq sr j r)) := by
  obtain ⟨n, M, ns, rm, cs, ct, I⟩ := I
  have hn := I.G.2.2.2.2.2.2
  have P := I.p2
  obtain ⟨p1, p2, p3, p4, p5, p6, p7⟩ := I.P
  refine vX10_undo_0 (vX3_goBack_0 st29 ?_)
  rw [Int.tmod_eq_emod_of_nonneg (by omega)]
  refine ⟨by unfold inR; omega, by unfold inR; omega, by unfold inR; omega, fun q => ⟨fun w => absurd rfl w, fun _ => c_deny hj I (by omega) ⟨fun _ => vX11_undo_0 ⟨fun w => absurd (p4.symm.trans q) w, fun _ => rd0 hj I (by omega)⟩, fun w => absurd rfl w⟩⟩, fun q => ⟨fun q1 => by omega, fun _ => ⟨fun q1 => by omega, fun _ => ⟨by omega, ?_⟩⟩⟩⟩
  have S := p7 0 (by omega) (by omega)
  rw [show φ 3 1 43 + 19 - 0 = φ 3 1 43 + 19 by omega, show (φ 3 1 43 + 20 - 0) % 20 = φ 3 1 43 by omega] at S
  rw [show φ 3 1 43 + 20 - 1 = φ 3 1 43 + 19 by omega]
  refine c_copyAll st29 (pst (by omega)) (by omega) S (fun φ1 α1 S1 f1 g1 => ?_)
  rw [f1 3 2 43 (by omega)]
  refine ⟨by unfold inR; omega, fun _ => vX11_undo_0 ⟨fun _ => ?_, fun w => ?_⟩, fun w => by omega⟩
  · have e61 : upf (upf φ1 3 1 43 ((φ 3 1 43 + 19) % 20)) 3 2 43 (φ 3 2 43 - 1) 11 61 198 = φ 3 1 43 := by rw [upf_o (by omega), upf_o (by omega), f1 _ _ _ (by omega)]; exact p3
    have e60 : upf (upf φ1 3 1 43 ((φ 3 1 43 + 19) % 20)) 3 2 43 (φ 3 2 43 - 1) 11 60 198 = φ 11 60 198 := by rw [upf_o (by omega), upf_o (by omega), f1 _ _ _ (by omega)]
    refine l_undo (q0 := φ 3 1 43) (by omega) e61 (by rw [e60]; omega) 169 0 α1 (by omega) rfl ⟨rfl, n, M, ns, rm, cs, ct, ?_⟩
    rw [e60]
    obtain ⟨i0, i1, i2, i3, i4, i5, i6, i7, i8, i9, i10, i11⟩ := I
    have ff : ∀ c f o, ¬ (c = 7 ∧ o = 29) → ¬ (c = 3 ∧ (f = 1 ∨ f = 2)) → ¬ (c = 11 ∧ (f = 60 ∨ f = 61)) → upf (upf (upf (upf φ1 3 1 43 ((φ 3 1 43 + 19) % 20)) 3 2 43 (φ 3 2 43 - 1)) 11 61 198 ((φ 3 1 43 + 19) % 20)) 11 60 198 (φ 11 60 198 - 1) c f o = φ c f o := fun c f o q1 q2 q3 => by rw [upf_o (by omega), upf_o (by omega), upf_o (by omega), upf_o (by omega)]; exact f1 c f o (by omega)
    have fa : ∀ a : Int, ¬ (29 < a ∧ a < 36) → a ≠ 189 → a ≠ 233 → rg α1 233 0 169 (fun i => α1 238 (169 * φ 3 1 43 + i)) a = α a := fun a q1 q2 q3 => by rw [rg_ne q3]; exact g1 a (by omega) q2
    refine ⟨by rw [fa _ (by omega) (by omega) (by omega)]; exact i0, iT_of (ff _ _ _ (by omega) (by omega) (by omega)) (ff _ _ _ (by omega) (by omega) (by omega)) (fa _ (by omega) (by omega) (by omega)) (fa _ (by omega) (by omega) (by omega)) i1, iF_of (ff _ _ _ (by omega) (by omega) (by omega)) (ff _ _ _ (by omega) (by omega) (by omega)) (ff _ _ _ (by omega) (by omega) (by omega)) (ff _ _ _ (by omega) (by omega) (by omega)) i2, iR_of (Nat.le_succ j) (fa _ (by omega) (by omega) (by omega)) (fa _ (by omega) (by omega) (by omega)) i3, iD_of (ff _ _ _ (by omega) (by omega) (by omega)) (ff _ _ _ (by omega) (by omega) (by omega)) i4, ⟨by rw [ff _ _ _ (by omega) (by omega) (by omega)]; exact i5.1, by rw [ff _ _ _ (by omega) (by omega) (by omega)]; exact i5.2.1, by rw [ff _ _ _ (by omega) (by omega) (by omega)]; have := i5.2.2; omega⟩, iO_of (fun _ => ff _ _ _ (by omega) (by omega) (by omega)) (ff _ _ _ (by omega) (by omega) (by omega)) (ff _ _ _ (by omega) (by omega) (by omega)) (ff _ _ _ (by omega) (by omega) (by omega)) (fun _ _ _ => fa _ (by omega) (by omega) (by omega)) (fun _ _ _ => fa _ (by omega) (by omega) (by omega)) i6, ?_, ?_, iS_of (ff _ _ _ (by omega) (by omega) (by omega)) (ff _ _ _ (by omega) (by omega) (by omega)) (fa _ (by omega) (by omega) (by omega)) (fa _ (by omega) (by omega) (by omega)) i9, iC_of (ff _ _ _ (by omega) (by omega) (by omega)) (ff _ _ _ (by omega) (by omega) (by omega)) (fa _ (by omega) (by omega) (by omega)) (fa _ (by omega) (by omega) (by omega)) i10, iW_of (fa _ (by omega) (by omega) (by omega)) (fun _ _ _ => fa _ (by omega) (by omega) (by omega)) (fun _ _ _ => fa _ (by omega) (by omega) (by omega)) i11⟩
    · refine SN_of (fun f _ => by rw [upf_o (by omega), upf_o (by omega), upf_o (by omega), upf_o (by omega)]) (fun i q1 q2 => rg_ne (by omega)) (fun i q1 q2 => ?_) S1
      rw [rg_in (by omega), g1 238 (by omega) (by omega)]
    · refine ⟨by rw [upf_o (by omega), upf_o (by omega), upf_o (by omega), upf_s]; omega, by rw [upf_o (by omega), upf_o (by omega), upf_o (by omega), upf_s]; omega, by rw [upf_o (by omega), upf_s, upf_o (by omega), upf_o (by omega), upf_o (by omega), upf_s], by rw [upf_o (by omega), upf_o (by omega), upf_s, upf_s, p4], by rw [upf_s]; omega, by rw [upf_s]; omega, fun i q1 q2 => ?_⟩
      rw [upf_s] at q2
      rw [show (upf (upf (upf (upf φ1 3 1 43 ((φ 3 1 43 + 19) % 20)) 3 2 43 (φ 3 2 43 - 1)) 11 61 198 ((φ 3 1 43 + 19) % 20)) 11 60 198 (φ 11 60 198 - 1)) 3 1 43 = (φ 3 1 43 + 19) % 20 by rw [upf_o (by omega), upf_o (by omega), upf_o (by omega), upf_s]]
      have T := p7 (i + 1) (by omega) (by omega)
      rw [show (φ 3 1 43 + 19 - (i + 1)) % 20 = ((φ 3 1 43 + 19) % 20 + 19 - i) % 20 by omega, show (φ 3 1 43 + 20 - (i + 1)) % 20 = ((φ 3 1 43 + 19) % 20 + 20 - i) % 20 by omega] at T
      exact SN_of (fun f _ => ff _ _ _ (by omega) (by omega) (by omega)) (fun z q1 q2 => fa _ (by omega) (by omega) (by omega)) (fun z q1 q2 => by rw [fa 238 (by omega) (by omega) (by omega)]) T
  · have : upf (upf φ1 3 1 43 ((φ 3 1 43 + 19) % 20)) 3 2 43 (φ 3 2 43 - 1) 11 60 198 = φ 11 60 198 := by rw [upf_o (by omega), upf_o (by omega), f1 _ _ _ (by omega)]
    rw [this] at w
    omega
end AC3
