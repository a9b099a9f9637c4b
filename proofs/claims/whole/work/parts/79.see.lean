/-! what is seen; images -/
section SE
variable {d j j' : Nat} {φ φ' φ0 φ1 φ2 : aF} {α α' α0 α1 α2 : aA} {Q : Int → aF → aA → Prop} {x y z v s k x1 x2 x3 x4 x5 t : Int} {n M ns : Nat} {rm nw nw' nw0 sr : Int → Int} {cs ct : List Int}
/-- the tape, what is seen and written, the fault: all that such calls change -/
theorem Iv_Z (hj : j ≤ j') (I : Iv n M ns rm cs ct sr j φ α) (hf : ∀ c f o, ¬ (c = 6 ∧ (o = 1 ∨ o = 3 ∨ o = 5)) → ¬ (c = 11 ∧ (f = 1 ∨ f = 55 ∨ f = 98)) → φ' c f o = φ c f o) (ha : ∀ a : Int, a ≠ 2 → a ≠ 199 → a ≠ 4 → a ≠ 266 → a ≠ 6 → a ≠ 236 → α' a = α a) (hT : iT φ' α') (hS : iS n M φ' α') (hC : iC φ' α') : Iv n M ns rm cs ct sr j' φ' α' := by
  obtain ⟨i0, i1, i2, i3, i4, i5, i6, i7, i8, i9, i10, i11⟩ := I
  exact ⟨by rw [ha _ (by omega) (by omega) (by omega) (by omega) (by omega) (by omega)]; exact i0, hT, iF_of (hf _ _ _ (by omega) (by omega)) (hf _ _ _ (by omega) (by omega)) (hf _ _ _ (by omega) (by omega)) (hf _ _ _ (by omega) (by omega)) i2, iR_of hj (ha _ (by omega) (by omega) (by omega) (by omega) (by omega) (by omega)) (ha _ (by omega) (by omega) (by omega) (by omega) (by omega) (by omega)) i3, iD_of (hf _ _ _ (by omega) (by omega)) (hf _ _ _ (by omega) (by omega)) i4, ⟨by rw [hf _ _ _ (by omega) (by omega)]; exact i5.1, by rw [hf _ _ _ (by omega) (by omega)]; exact i5.2.1, by rw [hf _ _ _ (by omega) (by omega)]; have := i5.2.2; omega⟩, iO_of (fun _ => hf _ _ _ (by omega) (by omega)) (hf _ _ _ (by omega) (by omega)) (hf _ _ _ (by omega) (by omega)) (hf _ _ _ (by omega) (by omega)) (fun x _ _ => ha _ (by omega) (by omega) (by omega) (by omega) (by omega) (by omega)) (fun x _ _ => ha _ (by omega) (by omega) (by omega) (by omega) (by omega) (by omega)) i6, iN_of (fun _ _ => hf _ _ _ (by omega) (by omega)) (fun x _ _ => ha _ (by omega) (by omega) (by omega) (by omega) (by omega) (by omega)) (ha _ (by omega) (by omega) (by omega) (by omega) (by omega) (by omega)) i7, iP_of (hf _ _ _ (by omega) (by omega)) (hf _ _ _ (by omega) (by omega)) (hf _ _ _ (by omega) (by omega)) (hf _ _ _ (by omega) (by omega)) (fun _ _ _ _ => hf _ _ _ (by omega) (by omega)) (fun x _ _ => ha _ (by omega) (by omega) (by omega) (by omega) (by omega) (by omega)) (ha _ (by omega) (by omega) (by omega) (by omega) (by omega) (by omega)) i8, hS, hC, iW_of (ha _ (by omega) (by omega) (by omega) (by omega) (by omega) (by omega)) (fun x _ _ => ha _ (by omega) (by omega) (by omega) (by omega) (by omega) (by omega)) (fun x _ _ => ha _ (by omega) (by omega) (by omega) (by omega) (by omega) (by omega)) i11⟩
/-- both tapes have gone -/
theorem Iv_tc (I : Iv n M ns rm cs ct sr j φ α) : Iv n M ns rm cs ct sr j (upf (upf φ 6 1 1 0) 11 1 198 0) α :=
  Iv_Z (Nat.le_refl j) I (fun c f o q1 q2 => by rw [upf_o (by omega), upf_o (by omega)]) (fun _ _ _ _ _ _ _ => rfl) ⟨by rw [upf_o (by omega), upf_s, upf_s], by rw [upf_s]; omega, by rw [upf_s]; omega, fun i q1 q2 => by rw [upf_s] at q2; omega⟩ (iS_of (by rw [upf_o (by omega), upf_o (by omega)]) (by rw [upf_o (by omega), upf_o (by omega)]) rfl rfl I.seen) (iC_of (by rw [upf_o (by omega), upf_o (by omega)]) (by rw [upf_o (by omega), upf_o (by omega)]) rfl rfl I.2.2.2.2.2.2.2.2.2.2.1)
theorem c_refuseR (hj : j < 512) (R : iR j α) (hk : 0 ≤ k ∧ k < 6) (h : Q (-1) φ (rf1 α k)) : eX10_refuse (d + 1) k φ α Q := by
  have w := R k hk.1 hk.2
  exact vX10_refuse_0 (c_add ia197 hk (by unfold inR; omega) h)
theorem c_denyR (hj : j < 512) (R : iR j α) (hk : 0 ≤ k ∧ k < 6) (h : Q 0 φ (rf1 α k)) : eX10_deny (d + 2) k φ α Q := vX10_deny_0 (c_refuseR hj R hk h)
def RW (T : Int → Int) (n M : Nat) (k : Int) : Prop := T (4 * k) ≤ 30 ∧ ((0 ≤ T (4 * k + 1) ∧ T (4 * k + 1) < n) ∧ (0 ≤ T (4 * k + 2) ∧ T (4 * k + 2) < M)) ∧ T (4 * k + 3) ≤ 99
def Prw (T : Int → Int) (n M : Nat) (N : Int) : Prop := 0 < N ∧ N % 4 = 0 ∧ N ≤ 64 ∧ ∀ k : Int, 0 ≤ k → 4 * k < N → RW T n M k
theorem l_areRows {T : Int → Int} {N : Nat} (O : XO φ α n M ns rm) (hT : ∀ i : Int, 0 ≤ i → i < 4 * (N : Int) → α 2 i = T i) (hs : φ 6 1 1 = 4 * (N : Int)) (hN : N ≤ 16) (h : ∀ w : Int, (w = 1 ∧ ∀ k : Int, 0 ≤ k → 4 * k < 4 * (N : Int) → RW T n M k) ∨ (w = 0 ∧ ¬ ∀ k : Int, 0 ≤ k → 4 * k < 4 * (N : Int) → RW T n M k) → Q w φ α) : ∀ (r k : Nat), k + r = N → (∀ i : Int, 0 ≤ i → i < k → RW T n M i) → jX0_areRows_29 (d + 2) 1 (4 * (k : Int)) φ α Q
  | 0, k, hk, hp => by
    have z : k = N := by omega
    subst z
    exact vX0_areRows_29 row1 ⟨fun _ => h 1 (Or.inl ⟨rfl, fun i q1 q2 => hp i q1 (by omega)⟩), fun q => by omega⟩
  | r + 1, k, hk, hp => by
    have at_ : ∀ (i : Int) (Q' : Int → aF → aA → Prop), 0 ≤ i → i < 4 → Q' (T (4 * (k : Int) + i)) φ α → eX6_at (d + 1) 1 (4 * (k : Int) + i) φ α Q' := fun i Q' i1 i2 hq => c_at row1 (by omega) (by omega) (by show Q' (α 2 (4 * (k : Int) + i)) φ α; rw [hT _ (by omega) (by omega)]; exact hq)
    have no : ¬ RW T n M k → Q 0 φ α := fun hr => h 0 (Or.inr ⟨rfl, fun hall => hr (hall k (by omega) (by omega))⟩)
    have a0 := at_ 0
    rw [Int.add_zero] at a0
    refine vX0_areRows_29 row1 ⟨fun q => by omega, fun _ => a0 _ (by omega) (by omega) ⟨fun q => no (fun w => by have := w.1; omega), fun q => ⟨by unfold inR; omega, at_ 1 _ (by omega) (by omega) ⟨by unfold inR; omega, at_ 2 _ (by omega) (by omega) (c_areThere O ?_)⟩⟩⟩⟩
    by_cases e : (0 ≤ T (4 * (k : Int) + 1) ∧ T (4 * (k : Int) + 1) < n) ∧ (0 ≤ T (4 * (k : Int) + 2) ∧ T (4 * (k : Int) + 2) < M)
    · rw [if_pos e]
      refine ⟨fun q => by omega, fun _ => ⟨by unfold inR; omega, at_ 3 _ (by omega) (by omega) ⟨fun q2 => no (fun w => by have := w.2.2; omega), fun q2 => ⟨by unfold inR; omega, ?_⟩⟩⟩⟩
      have := l_areRows O hT hs hN h r (k + 1) (by omega) (fun i q1 q2 => by
        by_cases z : i = k
        · subst z; exact ⟨by omega, e, by omega⟩
        · exact hp i q1 (by omega))
      rw [show 4 * ((k + 1 : Nat) : Int) = 4 * (k : Int) + 4 by omega] at this
      exact this
    · rw [if_neg e]
      exact ⟨fun _ => no (fun w => e w.2.1), fun q => absurd rfl q⟩
theorem c_areRows {T : Int → Int} {N : Int} (O : XO φ α n M ns rm) (hT : ∀ i : Int, 0 ≤ i → i < N → α 2 i = T i) (hs : φ 6 1 1 = N) (hN : 0 ≤ N ∧ N ≤ 1600) (h : ∀ w : Int, (w = 1 ∧ Prw T n M N) ∨ (w = 0 ∧ ¬ Prw T n M N) → Q w φ α) : eX0_areRows (d + 2) 1 φ α Q := by
  refine vX0_areRows_0 row1 ?_
  rw [hs, Int.tmod_eq_emod_of_nonneg hN.1]
  refine ⟨fun q => h 0 (Or.inr ⟨rfl, fun w => by have := w.1; omega⟩), fun q => ⟨by unfold inR; omega, fun q1 => h 0 (Or.inr ⟨rfl, fun w => by have := w.2.1; omega⟩), fun q1 => ⟨fun q2 => ?_, fun q2 => h 0 (Or.inr ⟨rfl, fun w => by have := w.2.2.1; omega⟩)⟩⟩⟩
  obtain ⟨k, rfl⟩ : ∃ k : Nat, N = 4 * (k : Int) := ⟨(N / 4).toNat, by omega⟩
  have := l_areRows (d := d) (Q := Q) (N := k) O hT hs (by omega) (fun w hw => h w (by
    rcases hw with ⟨w1, w2⟩ | ⟨w1, w2⟩
    · exact Or.inl ⟨w1, by omega, by omega, by omega, w2⟩
    · exact Or.inr ⟨w1, fun w => w2 w.2.2.2⟩)) k 0 (by omega) (fun i q1 q2 => by omega)
  simpa using this
theorem l_see43 {T : Int → Int} {N : Nat} (O : MO α n M ns rm) (hn : n ≤ 7 ∧ M ≤ 4) (hT : ∀ i : Int, 0 ≤ i → i < 4 * (N : Int) → α 199 i = T i) (hN : 0 < N ∧ N ≤ 16) (h1 : (∀ k : Int, 0 ≤ k → 4 * k < 4 * (N : Int) → RW T n M k) → jX11_see_123 (d + 3) (4 * (N : Int)) 0 φ α Q) (h0 : (¬ ∀ k : Int, 0 ≤ k → 4 * k < 4 * (N : Int) → RW T n M k) → eX11_refuses (d + 2) 1 φ α Q) : ∀ (r k : Nat), k + r = N → (∀ i : Int, 0 ≤ i → i < k → RW T n M i) → jX11_see_43 (d + 3) (4 * (N : Int)) 1 (4 * (k : Int)) φ α Q
  | 0, k, hk, hp => by
    have z : k = N := by omega
    subst z
    exact vX11_see_43 ⟨fun _ => ⟨fun _ => h1 (fun i q1 q2 => hp i q1 (by omega)), fun q => by omega⟩, fun q => by omega⟩
  | r + 1, k, hk, hp => by
    have no : ¬ RW T n M k → ∀ z : Int, jX11_see_43 (d + 3) (4 * (N : Int)) 0 z φ α Q := fun hr z => vX11_see_43 ⟨fun _ => ⟨fun q => absurd rfl q, fun _ => h0 (fun hall => hr (hall k (by omega) (by omega)))⟩, fun _ => ⟨fun _ => h0 (fun hall => hr (hall k (by omega) (by omega))), fun q => absurd rfl q⟩⟩
    have t0 : α 199 (4 * (k : Int)) = T (4 * (k : Int)) := hT _ (by omega) (by omega)
    have t1 : α 199 (4 * (k : Int) + 1) = T (4 * (k : Int) + 1) := hT _ (by omega) (by omega)
    have t2 : α 199 (4 * (k : Int) + 2) = T (4 * (k : Int) + 2) := hT _ (by omega) (by omega)
    have t3 : α 199 (4 * (k : Int) + 3) = T (4 * (k : Int) + 3) := hT _ (by omega) (by omega)
    refine vX11_see_43 ⟨fun q => by omega, fun _ => ⟨fun q => by omega, fun _ => ⟨by omega, ?_⟩⟩⟩
    rw [t0, t1, t2]
    refine ⟨fun q => ⟨by unfold inR; omega, no (fun w => by have := w.1; omega) _⟩, fun q => ⟨by unfold inR; omega, by omega, by unfold inR; omega, by omega, r_areBoth O.1 O.2.1 hn.2 hn.1 ?_⟩⟩
    by_cases e : (0 ≤ T (4 * (k : Int) + 1) ∧ T (4 * (k : Int) + 1) < n) ∧ (0 ≤ T (4 * (k : Int) + 2) ∧ T (4 * (k : Int) + 2) < M)
    · rw [if_pos e, t3]
      refine ⟨fun q => by omega, fun _ => ⟨by unfold inR; omega, by omega, fun q2 => ⟨by unfold inR; omega, no (fun w => by have := w.2.2; omega) _⟩, fun q2 => ⟨by unfold inR; omega, ?_⟩⟩⟩
      have := l_see43 O hn hT hN h1 h0 r (k + 1) (by omega) (fun i q1 q2 => by
        by_cases z : i = k
        · subst z; exact ⟨by omega, e, by omega⟩
        · exact hp i q1 (by omega))
      rw [show 4 * ((k + 1 : Nat) : Int) = 4 * (k : Int) + 4 by omega] at this
      exact this
    · rw [if_neg e]
      exact ⟨fun _ => ⟨by unfold inR; omega, no (fun w => e w.2.1) _⟩, fun q => absurd rfl q⟩
theorem l_see123 {N : Nat} (hN : N ≤ 16) : ∀ (r : Nat) (k : Int) (α : aA), 0 ≤ k → k + r = 4 * (N : Int) → Q (N : Int) (upf φ 11 55 198 N) (rg α 236 k (4 * (N : Int)) (α 199)) → jX11_see_123 (d + 1) (4 * (N : Int)) k φ α Q
  | 0, k, α, h0, hk, h => by
    have z : k = 4 * (N : Int) := by omega
    subst z
    rw [rg_end (by omega)] at h
    refine vX11_see_123 ⟨fun _ => ?_, fun q => by omega⟩
    rw [Int.tdiv_eq_ediv_of_nonneg (by omega), show 4 * (N : Int) / 4 = N by omega]
    exact ⟨by unfold inR; omega, h⟩
  | r + 1, k, α, h0, hk, h => by
    refine vX11_see_123 ⟨fun q => by omega, fun _ => ⟨by omega, by omega, by unfold inR; omega, l_see123 hN r (k + 1) _ (by omega) (by omega) ?_⟩⟩
    rw [upa_fn (show (199 : Int) ≠ 236 by omega), rg_step (by omega)]
    exact h
theorem p_see (hj : j < 512) (I : Inv sr j φ α) : eX10_see (d + 20) φ α (fun r φ1 α1 => eX11_see (d + 20) φ1 α1 (pq sr j r)) := by
  obtain ⟨n, M, ns, rm, cs, ct, I⟩ := I
  have hn := I.G.2.2.2.2.2.2
  obtain ⟨t1, t2, t3, t4⟩ := I.2.1
  refine vX10_see_0 (c_areRows (T := α 199) (N := φ 11 1 198) I.XO (fun i q1 q2 => (t4 i q1 q2).1) t1 (by omega) (fun w hw => ?_))
  have I0 := Iv_tc I
  rcases hw with ⟨rfl, hP⟩ | ⟨rfl, hP⟩
  · obtain ⟨p1, p2, p3, p4⟩ := hP
    obtain ⟨N, hN⟩ : ∃ N : Nat, φ 11 1 198 = 4 * (N : Int) := ⟨(φ 11 1 198 / 4).toNat, by omega⟩
    refine ⟨fun q => by omega, fun _ => c_copyFrom row5 row1 (by omega) (by omega) (by omega) (by omega) (c_clear row1 ?_)⟩
    rw [upf_o (show (6 : Nat) ≠ 6 ∨ (1 : Nat) ≠ 1 ∨ (5 : Int) ≠ 1 by omega), upf_s, t1, hN, Int.tdiv_eq_ediv_of_nonneg (by omega), show 4 * (N : Int) / 4 = N by omega]
    refine ⟨by unfold inR; omega, ?_⟩
    obtain ⟨op, -⟩ : φ 11 46 198 = 1 ∧ True := ⟨by have := I.op01; have w := p4 0 (by omega) (by omega); have := w.2.1.1; omega, trivial⟩
    have e1 : upf (upf φ 6 1 5 (4 * (N : Int))) 6 1 1 0 11 1 198 = 4 * (N : Int) := by rw [upf_o (by omega), upf_o (by omega), hN]
    have e46 : upf (upf φ 6 1 5 (4 * (N : Int))) 6 1 1 0 11 46 198 = 1 := by rw [upf_o (by omega), upf_o (by omega), op]
    have a199 : ∀ f : Int → Int, rg α (5 + 1) 0 (4 * (N : Int)) f 199 = α 199 := fun f => rg_ne (by omega)
    refine vX11_see_0 ?_
    rw [e1, e46, Int.tmod_eq_emod_of_nonneg (by omega), Int.tdiv_eq_ediv_of_nonneg (by omega)]
    refine ⟨fun q => by omega, fun _ => ⟨fun q => by omega, fun _ => ⟨by unfold inR; omega, fun q => by omega, fun _ => ⟨by unfold inR; omega, fun q => by omega, fun _ => ?_⟩⟩⟩⟩
    have := l_see43 (d := d + 17) (T := α 199) (N := N) (n := n) (M := M) (ns := ns) (rm := rm) (φ := upf (upf (upf φ 6 1 5 (4 * (N : Int))) 6 1 1 0) 11 1 198 0) (α := rg α (5 + 1) 0 (4 * (N : Int)) (α (1 + 1))) (Q := pq sr j N) (MO_a (fun a _ _ => rg_ne (by omega)) I.MO) ⟨hn.1, hn.2.1⟩ (fun i _ _ => by rw [a199]) (by omega) (fun _ => l_see123 (by omega) (4 * N) 0 _ (by omega) (by omega) ⟨rfl, n, M, ns, rm, cs, ct, ?_⟩) (fun hno => absurd (fun k q1 q2 => p4 k q1 (by omega)) hno) N 0 (by omega) (fun i q1 q2 => by omega)
    · simpa using this
    · refine Iv_Z (Nat.le_succ j) I (fun c f o q1 q2 => by rw [upf_o (by omega), upf_o (by omega), upf_o (by omega), upf_o (by omega)]) (fun a _ _ _ _ q5 q6 => by rw [rg_ne q6, rg_ne (by omega)]) ⟨by rw [upf_o (by omega), upf_o (by omega), upf_s, upf_o (by omega), upf_s], by rw [upf_o (by omega), upf_s]; omega, by rw [upf_o (by omega), upf_s]; omega, fun i q1 q2 => by rw [upf_o (by omega), upf_s] at q2; omega⟩ ?_ (iC_of (by rw [upf_o (by omega), upf_o (by omega), upf_o (by omega), upf_o (by omega)]) (by rw [upf_o (by omega), upf_o (by omega), upf_o (by omega), upf_o (by omega)]) (by rw [rg_ne (by omega), rg_ne (by omega)]) (by rw [rg_ne (by omega), rg_ne (by omega)]) I.2.2.2.2.2.2.2.2.2.2.1)
      have in236 : ∀ i : Int, 0 ≤ i → i < 4 * (N : Int) → rg (rg α (5 + 1) 0 (4 * (N : Int)) (α (1 + 1))) 236 0 (4 * (N : Int)) (rg α (5 + 1) 0 (4 * (N : Int)) (α (1 + 1)) 199) 236 i = α 199 i := fun i q1 q2 => by rw [rg_in ⟨q1, q2⟩, a199]
      refine ⟨by rw [upf_s, upf_o (by omega), upf_o (by omega), upf_o (by omega), upf_s], by rw [upf_s]; omega, by rw [upf_s]; omega, fun i q1 q2 => ?_, fun k q1 q2 => ?_⟩
      · rw [upf_s] at q2
        rw [in236 i q1 q2, rg_ne (by omega)]
        show rg α 6 0 (4 * (N : Int)) (α (1 + 1)) 6 i = _
        rw [rg_in ⟨q1, q2⟩]
        exact (t4 i q1 (by omega)).1
      · rw [upf_s] at q2
        have w := p4 k q1 (by omega)
        rw [in236 _ (by omega) (by omega), in236 _ (by omega) (by omega), in236 _ (by omega) (by omega), in236 _ (by omega) (by omega)]
        have b0 := t4 (4 * k) (by omega) (by omega)
        have b3 := t4 (4 * k + 3) (by omega) (by omega)
        exact ⟨⟨b0.2.1, w.1⟩, w.2.1.1, w.2.1.2, b3.2.1, w.2.2⟩
  · refine ⟨fun _ => c_clear row1 (c_refuseR hj I.R (by omega) ?_), fun q => absurd rfl q⟩
    have e1 : upf φ 6 1 1 0 11 1 198 = φ 11 1 198 := upf_o (by omega)
    have e46 : upf φ 6 1 1 0 11 46 198 = φ 11 46 198 := upf_o (by omega)
    have zero : jX11_see_43 (d + 20) (φ 11 1 198) 0 0 (upf (upf φ 6 1 1 0) 11 1 198 0) (rf1 α 1) (pq sr j (-1)) := vX11_see_43 ⟨fun _ => ⟨fun q => absurd rfl q, fun _ => r_refuses hj I0 (by omega)⟩, fun _ => ⟨fun _ => r_refuses hj I0 (by omega), fun q => absurd rfl q⟩⟩
    refine vX11_see_0 ?_
    rw [e1, e46, Int.tmod_eq_emod_of_nonneg t2, Int.tdiv_eq_ediv_of_nonneg t2]
    refine ⟨fun _ => zero, fun _ => ⟨fun _ => zero, fun q1 => ⟨by unfold inR; omega, fun _ => zero, fun q2 => ⟨by unfold inR; omega, fun _ => zero, fun q3 => ?_⟩⟩⟩⟩
    obtain ⟨N, hN⟩ : ∃ N : Nat, φ 11 1 198 = 4 * (N : Int) := ⟨(φ 11 1 198 / 4).toNat, by omega⟩
    have := l_see43 (d := d + 17) (T := α 199) (N := N) (n := n) (M := M) (ns := ns) (rm := rm) (φ := upf (upf φ 6 1 1 0) 11 1 198 0) (α := rf1 α 1) (Q := pq sr j (-1)) (MO_r I.MO) ⟨hn.1, hn.2.1⟩ (fun i _ _ => by rw [rf_o (by omega)]) (by omega) (fun hall => absurd ⟨by omega, by omega, by omega, fun k q1 q2 => hall k q1 (by omega)⟩ hP) (fun _ => r_refuses hj I0 (by omega)) N 0 (by omega) (fun i q1 q2 => by omega)
    rw [hN]
    simpa using this
end SE
