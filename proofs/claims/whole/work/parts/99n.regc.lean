/-! the registry: both answer alike -/
section RM2
variable {d j n M ns N f : Nat} {φ φ' φ0 φ1 φ2 : aF} {α α' α0 α1 α2 : aA} {Q : Int → aF → aA → Prop} {a : Int} {rm sr T G : Int → Int} {cs ct lc kc : List Int} {X : Except (Int × Int) (Nat × dS)}
theorem fK_a (h : fK φ α φ' α') (ha : a < 225 ∨ (232 < a ∧ a < 263) ∨ 264 < a) : α' a = α a := funext fun i => h.2 a i (by unfold lmP; omega)
/-- what is written below the rows that stand changes nothing -/
theorem iO_lm (h1 : ∀ g, φ' 2 g 9 = φ 2 g 9) (h2 : φ' 11 46 198 = φ 11 46 198) (h3 : φ' 6 1 15 = φ 6 1 15) (h4 : φ' 6 1 17 = φ 6 1 17) (h5 : ∀ a : Int, 9 ≤ a → a ≤ 18 → α' a = α a) (h6 : ∀ a i : Int, 225 ≤ a → a ≤ 232 → lmP a i → α' a i = α a i) (h : iO n M ns rm cs ct φ α) : iO n M ns rm cs ct φ' α' := by
  obtain ⟨x1, x2, x3, x4, x5, x6, x7⟩ := h
  have mo : MO α' n M ns rm := ⟨by rw [h6 _ _ (by omega) (by omega) (by unfold lmP; omega)]; exact x2.1, by rw [h6 _ _ (by omega) (by omega) (by unfold lmP; omega)]; exact x2.2.1, by rw [h6 _ _ (by omega) (by omega) (by unfold lmP; omega)]; exact x2.2.2.1, fun c q1 q2 => by rw [h6 _ _ (by omega) (by omega) (by unfold lmP; omega)]; exact x2.2.2.2 c q1 q2⟩
  have rc : ∀ (w g : Int) (l : List Int), (w = 0 ∨ w = 1) → RC α w g l → RC α' w g l := by
    intro w g l hw r
    obtain ⟨r1, r2, r3, r4, r5⟩ := r
    exact ⟨by rw [h6 _ _ (by omega) (by omega) (by unfold lmP; omega)]; exact r1, by rw [h6 _ _ (by omega) (by omega) (by unfold lmP; omega)]; exact r2, r3, r4, fun i hi => by rw [h6 _ _ (by omega) (by omega) (by unfold lmP; omega)]; exact r5 i hi⟩
  refine ⟨⟨by rw [h1]; exact x1.1, by rw [h1]; exact x1.2.1, by rw [h1]; exact x1.2.2.1, by rw [h5 11 (by omega) (by omega)]; exact x1.2.2.2⟩, mo, x3, ⟨by rw [h1, h6 _ _ (by omega) (by omega) (by unfold lmP; omega)]; exact x4.1, by rw [h6 _ _ (by omega) (by omega) (by unfold lmP; omega)]; exact x4.2.1, by rw [h6 _ _ (by omega) (by omega) (by unfold lmP; omega)]; exact x4.2.2⟩, ⟨fun m q1 q2 => by rw [h5 10 (by omega) (by omega), h6 _ _ (by omega) (by omega) (by unfold lmP; omega)]; exact x5.1 m q1 q2, fun c q1 q2 => by rw [h5 10 (by omega) (by omega), h6 _ _ (by omega) (by omega) (by unfold lmP; omega)]; exact x5.2 c q1 q2⟩, by rw [h1, h2]; exact x6, ?_⟩
  rcases x7 with y | ⟨y1, y2, y3, y4⟩
  · exact Or.inl (by rw [h2]; exact y)
  · refine Or.inr ⟨by rw [h2]; exact y1, ?_, ?_, ?_⟩
    · unfold XE XO at y2 ⊢
      rw [h1 2, h1 3, h1 4, h1 8, h3, h5 11 (by omega) (by omega), h5 16 (by omega) (by omega)]
      exact y2
    · obtain ⟨z1, z2, z3, z4, z5⟩ := y3
      refine ⟨mo, z2, z3, z4, ?_⟩
      rcases z5 with ⟨w1, w2⟩ | ⟨g, w⟩
      · exact Or.inl ⟨by rw [h6 _ _ (by omega) (by omega) (by unfold lmP; omega)]; exact w1, w2⟩
      · exact Or.inr ⟨g, rc 0 g cs (Or.inl rfl) w⟩
    · obtain ⟨z1, z2, z3, z4, z5, z6⟩ := y4
      refine ⟨by rw [h4]; exact z1, by rw [h5 18 (by omega) (by omega)]; exact z2, z3, z4, z5, ?_⟩
      rcases z6 with ⟨w1, w2⟩ | ⟨g, w⟩
      · exact Or.inl ⟨by rw [h6 _ _ (by omega) (by omega) (by unfold lmP; omega)]; exact w1, w2⟩
      · exact Or.inr ⟨g, rc 1 g ct (Or.inr rfl) w⟩
/-- a registry that has a fault changes nothing but the tape, the fault and what was refused -/
theorem reg_bad (I : Iv n M ns rm cs ct sr j φ α) (f1 : fg φ α φ1 α1) {kd pl : Int} (b5 : φ1 5 5 185 = kd) (b6 : φ1 5 6 185 = pl) (f2 : fK (upf φ1 6 1 1 0) (rf1 α1 1) φ2 α2) (g1 : φ2 11 1 198 = 0) : Inv sr (j + 1) (upf (upf φ2 11 7 198 kd) 11 8 198 pl) (upa α2 200 1 (α2 200 1 + 1)) := by
  obtain ⟨i0, i1, i2, i3, i4, i5, i6, i7, i8, i9, i10, i11⟩ := I
  have A : ∀ a : Int, (a < 197 ∧ ¬ (20 ≤ a ∧ a ≤ 28)) ∨ (197 < a ∧ a < 200) ∨ (200 < a ∧ a < 225) ∨ (232 < a ∧ a < 263) ∨ 264 < a → upa α2 200 1 (α2 200 1 + 1) a = α a := fun a q => by
    rw [upa_fn (by omega), fK_a f2 (by omega)]
    exact (rf_o (by omega)).trans (f1.2 a (by omega))
  have P : ∀ c g o, (c ≠ 8 ∧ c ≠ 5 ∧ ¬ (c = 2 ∧ o = 19) ∧ (c = 6 → o ≠ 1 ∧ o ≠ 25 ∧ o ≠ 27) ∧ (c = 11 → g = 46 ∨ (49 < g ∧ g < 88) ∨ g = 98)) → upf (upf φ2 11 7 198 kd) 11 8 198 pl c g o = φ c g o := fun c g o q => by
    have e : c = 11 → g ≠ 7 ∧ g ≠ 8 := fun z => by have := q.2.2.2.2 z; omega
    have e6 : ¬ (c = 6 ∧ o = 1) := fun z => by have := q.2.2.2.1 z.1; omega
    rw [upf_o (by by_cases z : c = 11 <;> omega), upf_o (by by_cases z : c = 11 <;> omega), f2.1 c g o (fun z => by have := q.2.2.2.2 z.1; omega), upf_o (by omega)]
    exact f1.1 c g o q.1 (fun z => q.2.1 z.1) q.2.2.1 (fun z => by have := q.2.2.2.1 z.1; omega)
  have L : ∀ a i : Int, 225 ≤ a → a ≤ 232 → lmP a i → upa α2 200 1 (α2 200 1 + 1) a i = α a i := fun a i q1 q2 q => by
    rw [upa_fn (by omega), f2.2 a i q, rf_o (by omega), f1.2 a (by omega)]
  have C : ∀ g, upf (upf φ2 11 7 198 kd) 11 8 198 pl 5 g 185 = φ1 5 g 185 := fun g => by rw [upf_o (by omega), upf_o (by omega), f2.1 _ _ _ (by omega), upf_o (by omega)]
  refine ⟨n, M, ns, rm, cs, ct, by rw [A _ (by omega)]; exact i0, ⟨?_, ?_, ?_, fun i q1 q2 => ?_⟩, ⟨by rw [C, b5, upf_o (by omega), upf_s], by rw [C, b6, upf_s]⟩, ?_, iD_of (P _ _ _ (by omega)) (P _ _ _ (by omega)) i4, ⟨by rw [P _ _ _ (by omega)]; exact i5.1, by rw [P _ _ _ (by omega)]; exact i5.2.1, by rw [P _ _ _ (by omega)]; have := i5.2.2; omega⟩, ?_, iN_of (fun _ _ => P _ _ _ (by omega)) (fun x _ _ => A _ (by omega)) (A _ (by omega)) i7, iP_of (P _ _ _ (by omega)) (P _ _ _ (by omega)) (P _ _ _ (by omega)) (P _ _ _ (by omega)) (fun _ _ _ _ => P _ _ _ (by omega)) (fun x _ _ => A _ (by omega)) (A _ (by omega)) i8, iS_of (P _ _ _ (by omega)) (P _ _ _ (by omega)) (A _ (by omega)) (A _ (by omega)) i9, iC_of (P _ _ _ (by omega)) (P _ _ _ (by omega)) (A _ (by omega)) (A _ (by omega)) i10, iW_of (A _ (by omega)) (fun x _ _ => A _ (by omega)) (fun x _ _ => A _ (by omega)) i11⟩
  · rw [upf_o (by omega), upf_o (by omega), f2.1 _ _ _ (by omega), upf_s, upf_o (by omega), upf_o (by omega)]; exact g1.symm
  · rw [upf_o (by omega), upf_o (by omega), g1]; omega
  · rw [upf_o (by omega), upf_o (by omega), g1]; omega
  · rw [upf_o (by omega), upf_o (by omega), g1] at q2; omega
  · intro i q1 q2
    have w := i3 i q1 q2
    have e197 : α2 197 = rf1 α1 1 197 := fK_a f2 (by omega)
    have e200 : α2 200 = α 200 := by rw [fK_a f2 (by omega), rf_o (by omega), f1.2 _ (by omega)]
    have a197 : α1 197 = α 197 := f1.2 _ (by omega)
    rw [upa_fn (show (197 : Int) ≠ 200 by omega), e197, e200]
    unfold rf1
    rw [a197]
    by_cases e : i = 1
    · rw [e] at w ⊢
      rw [upa_eq, upa_eq]
      omega
    · rw [upa_ni e, upa_ni e, a197, e200]
      omega
  · exact iO_lm (fun _ => P _ _ _ (by omega)) (P _ _ _ (by omega)) (P _ _ _ (by omega)) (P _ _ _ (by omega)) (fun x _ _ => A _ (by omega)) (fun a i q1 q2 q => L a i q1 q2 q) i6
/-- a registry that stands -/
theorem reg_good (I : Iv n M ns rm cs ct sr j φ α) {M' n' ns' : Nat} {φ3 φ4 φ7 φ8 : aF} {α3 α4 α7 α8 : aA} (D : DI M' n' G lc kc) (hns : G 0 = ns') (f1 : fg φ α φ1 α1) (b5 : φ1 5 5 185 = 0) (b6 : φ1 5 6 185 = -1) (f3 : ∀ c g o, ¬ (c = 2 ∧ o = 9) → ¬ (c = 6 ∧ (o = 15 ∨ o = 17)) → φ3 c g o = upf φ1 6 1 1 0 c g o) (g3 : ∀ a : Int, ¬ (10 ≤ a ∧ a ≤ 18) → α3 a = α1 a) (O : OFc φ3 α3 M' n' G lc kc) (f4 : ∀ c g o, ¬ (c = 7 ∧ o = 29) → φ4 c g o = φ3 c g o) (g4 : ∀ a : Int, ¬ (30 ≤ a ∧ a ≤ 34) → α4 a = α3 a) (S : SN 29 φ4 α4 n' M' ns' (fun c => G (30 + c)) lc (nwF G n')) (f7 : fK (upf (upf φ4 3 2 43 0) 6 1 5 0) α4 φ7 α7) (h1 : φ7 11 1 198 = 0) (f8 : ∀ c g o, ¬ (c = 11 ∧ (g = 46 ∨ g = 55 ∨ g = 60)) → φ8 c g o = upf (upf φ7 11 7 198 0) 11 8 198 (-1) c g o) (h8 : φ8 11 46 198 = 1 ∧ φ8 11 60 198 = 0 ∧ φ8 11 55 198 = 0) (g8 : ∀ a : Int, ¬ (225 ≤ a ∧ a ≤ 233) → α8 a = α7 a) (R : RSr α8 M' n' G lc kc) : Inv sr (j + 1) φ8 α8 := by
  obtain ⟨i0, i1, i2, i3, i4, i5, i6, i7, i8, i9, i10, i11⟩ := I
  have A4 : ∀ a : Int, a < 225 ∨ (233 < a ∧ a < 263) ∨ 264 < a → α8 a = α4 a := fun a q => by rw [g8 a (by omega), fK_a f7 (by omega)]
  have A : ∀ a : Int, (a < 225 ∧ ¬ (10 ≤ a ∧ a ≤ 34)) ∨ (233 < a ∧ a < 263) ∨ 264 < a → α8 a = α a := fun a q => by rw [A4 a (by omega), g4 a (by omega), g3 a (by omega), f1.2 a (by omega)]
  have A3 : ∀ a : Int, (10 ≤ a ∧ a ≤ 18) → α8 a = α3 a := fun a q => by rw [A4 a (by omega), g4 a (by omega)]
  have P7 : ∀ c g o, c ≠ 11 → φ8 c g o = upf (upf φ4 3 2 43 0) 6 1 5 0 c g o := fun c g o q => by rw [f8 c g o (by omega), upf_o (by omega), upf_o (by omega), f7.1 c g o (by omega)]
  have P : ∀ c g o, c ≠ 8 → c ≠ 5 → c ≠ 2 → ¬ (c = 3 ∧ g = 2) → ¬ (c = 6 ∧ (o = 1 ∨ o = 5 ∨ o = 15 ∨ o = 17 ∨ o = 25 ∨ o = 27)) → ¬ (c = 7 ∧ o = 29) → (c = 11 → (49 < g ∧ g < 55) ∨ (60 < g ∧ g < 88) ∨ g = 98) → φ8 c g o = φ c g o := fun c g o q1 q2 q3 q4 q5 q6 q7 => by
    have e : ¬ (c = 11 ∧ (g = 46 ∨ g = 55 ∨ g = 60)) := fun z => by have := q7 z.1; omega
    have e2 : c ≠ 11 ∨ g ≠ 8 ∨ o ≠ 198 := by
      by_cases z : c = 11
      · have := q7 z; omega
      · exact Or.inl z
    have e3 : c ≠ 11 ∨ g ≠ 7 ∨ o ≠ 198 := by
      by_cases z : c = 11
      · have := q7 z; omega
      · exact Or.inl z
    rw [f8 c g o e, upf_o e2, upf_o e3, f7.1 c g o (fun z => by have := q7 z.1; omega), upf_o (by omega), upf_o (by omega), f4 c g o q6, f3 c g o (by omega) (by omega), upf_o (by omega)]
    exact f1.1 c g o q1 (by omega) (by omega) (by omega)
  have P3 : ∀ c g o, c = 2 ∨ (c = 6 ∧ (o = 15 ∨ o = 17)) → φ8 c g o = φ3 c g o := fun c g o q => by rw [P7 c g o (by omega), upf_o (by omega), upf_o (by omega), f4 c g o (by omega)]
  have P1 : ∀ g, φ8 5 g 185 = φ1 5 g 185 := fun g => by rw [P7 _ _ _ (by omega), upf_o (by omega), upf_o (by omega), f4 _ _ _ (by omega), f3 _ _ _ (by omega) (by omega), upf_o (by omega)]
  have P11 : ∀ g, g = 1 ∨ g = 7 ∨ g = 8 → φ8 11 g 198 = upf (upf φ7 11 7 198 0) 11 8 198 (-1) 11 g 198 := fun g q => f8 _ _ _ (by omega)
  have e1 : φ8 11 1 198 = 0 := by rw [P11 1 (by omega), upf_o (by omega), upf_o (by omega)]; exact h1
  have e6 : φ8 6 1 1 = 0 := by rw [P7 _ _ _ (by omega), upf_o (by omega), upf_o (by omega), f4 _ _ _ (by omega), f3 _ _ _ (by omega) (by omega), upf_s]
  obtain ⟨⟨o0, o1, o2, o3, o4⟩, ⟨o5, o6⟩, ⟨a1, a2, a3⟩, ⟨l1, l2⟩, k1, k2⟩ := O
  obtain ⟨⟨r1, r2, r3, r4⟩, ⟨r5, r6⟩, r7, r8, r9, r10⟩ := R
  have d1 := D.1
  have d2 := D.2.1
  have d3 := D.2.2.1.2
  have d4 := D.2.2.2.1
  obtain ⟨y1, y2, y3, y4⟩ := D.2.2.2.2.2.2.2.1
  obtain ⟨z1, z2, z3, z4⟩ := D.2.2.2.2.2.2.2.2
  have xo : XO φ8 α8 n' M' ns' (fun c => G (30 + c)) := ⟨by rw [P3 _ _ _ (by omega), o1]; exact hns, by rw [P3 _ _ _ (by omega)]; exact o2, by rw [P3 _ _ _ (by omega)]; exact o3, fun c q1 q2 => by rw [A3 _ (by omega)]; exact (a2 c q1 (by omega)).1⟩
  have mo : MO α8 n' M' ns' (fun c => G (30 + c)) := ⟨r3, r4, by rw [r1]; exact hns, fun c q1 q2 => by have := r7 c.toNat (by omega); rw [show ((c.toNat : Nat) : Int) = c by omega] at this; exact this⟩
  have rm0 : ∀ c : Int, 0 ≤ c → c < n' → 0 ≤ (fun c => G (30 + c)) c := fun c q1 q2 => by
    have := (d4 c.toNat (by omega)).1
    rw [show ((c.toNat : Nat) : Int) = c by omega] at this
    show 0 ≤ G (30 + c)
    omega
  refine ⟨n', M', ns', (fun c => G (30 + c)), lc, kc, by rw [A _ (by omega)]; exact i0, ⟨by rw [e6, e1], by omega, by omega, fun i q1 q2 => by omega⟩, ⟨by rw [P1, b5, P11 7 (by omega), upf_o (by omega), upf_s], by rw [P1, b6, P11 8 (by omega), upf_s]⟩, iR_of (Nat.le_succ j) (A _ (by omega)) (A _ (by omega)) i3, iD_of (P _ _ _ (by omega) (by omega) (by omega) (by omega) (by omega) (by omega) (by omega)) (P _ _ _ (by omega) (by omega) (by omega) (by omega) (by omega) (by omega) (by omega)) i4, ⟨?_, ?_, ?_⟩, ⟨xo, mo, rm0, ⟨?_, ?_, ?_⟩, ⟨fun m q1 q2 => ?_, fun c q1 q2 => ?_⟩, ?_, Or.inr ⟨h8.1, ⟨xo, ?_, ?_, y1, y2, rm0, ?_, ?_⟩, ⟨mo, rm0, y2, fun ce hce => ?_, ?_⟩, ⟨?_, ?_, z1, z2, fun ce hce => ?_, ?_⟩⟩⟩, ?_, ⟨?_, ?_, ?_, ?_, ?_, ?_, fun i q1 q2 => ?_⟩, ⟨?_, ?_, ?_, fun i q1 q2 => ?_, fun k q1 q2 => ?_⟩, iC_of (P _ _ _ (by omega) (by omega) (by omega) (by omega) (by omega) (by omega) (by omega)) (P _ _ _ (by omega) (by omega) (by omega) (by omega) (by omega) (by omega) (by omega)) (A _ (by omega)) (A _ (by omega)) i10, iW_of (A _ (by omega)) (fun x _ _ => A _ (by omega)) (fun x _ _ => A _ (by omega)) i11⟩
  · rw [P _ _ _ (by omega) (by omega) (by omega) (by omega) (by omega) (by omega) (by omega)]; exact i5.1
  · rw [P _ _ _ (by omega) (by omega) (by omega) (by omega) (by omega) (by omega) (by omega)]; exact i5.2.1
  · rw [P _ _ _ (by omega) (by omega) (by omega) (by omega) (by omega) (by omega) (by omega)]; have := i5.2.2; omega
  · rw [P3 _ _ _ (by omega), o4, r2]
  · rw [r2]; exact d2.2.1
  · rw [r2]; exact d2.2.2
  · have w := r5 m.toNat (by omega)
    rw [show ((m.toNat : Nat) : Int) = m by omega] at w
    rw [A3 _ (by omega), w]
    exact ⟨a1 m q1 (by omega), d3 m q1 (by omega)⟩
  · have w := r6 c.toNat (by omega)
    rw [show ((c.toNat : Nat) : Int) = c by omega] at w
    have w2 := a1 (4 + c) (by omega) (by omega)
    have w3 := d3 (4 + c) (by omega) (by omega)
    rw [show 10 + (4 + c) = 14 + c by omega] at w2 w3
    rw [A3 _ (by omega), w]
    exact ⟨w2, w3⟩
  · rw [P3 _ _ _ (by omega), o0, h8.1]
  · rw [P3 _ _ _ (by omega)]; exact l1
  · rw [A3 _ (by omega)]; exact l2
  · rw [P3 _ _ _ (by omega)]; exact o5
  · rw [P3 _ _ _ (by omega)]; exact o6
  · have := y3 ce hce
    unfold okc at this
    omega
  · rcases r8 with ⟨w1, w2⟩ | w
    · refine Or.inl ⟨w2, ?_⟩
      rcases y4 with w3 | w3
      · exact w3.2
      · omega
    · exact Or.inr w
  · rw [P3 _ _ _ (by omega)]; exact k1
  · rw [A3 _ (by omega)]; exact k2
  · have := z3 ce hce
    unfold okc at this
    omega
  · rcases r9 with ⟨w1, w2⟩ | w
    · refine Or.inl ⟨w2, ?_⟩
      rcases z4 with w3 | w3
      · exact w3.2
      · omega
    · exact Or.inr w
  · exact SN_of (fun f _ => by rw [P7 _ _ _ (by omega), upf_o (by omega), upf_o (by omega)]) (fun i q1 q2 => A4 _ (by omega)) (fun i q1 q2 => r10 i q1 q2) S
  · rw [P _ _ _ (by omega) (by omega) (by omega) (by omega) (by omega) (by omega) (by omega)]; exact i8.1
  · rw [P _ _ _ (by omega) (by omega) (by omega) (by omega) (by omega) (by omega) (by omega)]; exact i8.2.1
  · rw [P _ _ _ (by omega) (by omega) (by omega) (by omega) (by omega) (by omega) (by omega), P _ _ _ (by omega) (by omega) (by omega) (by omega) (by omega) (by omega) (by omega)]; exact i8.2.2.1
  · rw [P7 _ _ _ (by omega), upf_o (by omega), upf_s]; exact h8.2.1.symm
  · rw [h8.2.1]; omega
  · rw [h8.2.1]; omega
  · rw [h8.2.1] at q2; omega
  · rw [P7 _ _ _ (by omega), upf_s, h8.2.2]; rfl
  · rw [h8.2.2]; omega
  · rw [h8.2.2]; omega
  · rw [h8.2.2] at q2; omega
  · rw [h8.2.2] at q2; omega
theorem p_registry (hj : j < 512) (I : Inv sr j φ α) : eX10_registry (d + 100) φ α (fun r φ1 α1 => eX11_registry (d + 100) φ1 α1 (pq sr j r)) := by
  obtain ⟨n, M, ns, rm, cs, ct, I⟩ := I
  obtain ⟨t1, t2, t3, t4⟩ := I.2.1
  have iw := I.2.2.2.2.2.2.2.2.2.2.2
  have ir := I.2.2.2.1
  obtain ⟨N, hN⟩ : ∃ N : Nat, φ 11 1 198 = (N : Int) := ⟨(φ 11 1 198).toNat, by omega⟩
  have Y : TX (α 199) N φ α := ⟨by omega, by rw [t1, hN], fun i hi => t4 i (by omega) (by omega), iw.1⟩
  generalize hX : rgF (α 199) N (12 * N + 11) 81 0 ((0, 0), G0, ([13, 1004, 47], [21])) (sk (α 199) N 0) (-1) = X
  have step : ∀ (Q' : Int → aF → aA → Prop) (φ6 : aF) (α4 : aA), φ6 11 1 198 = φ 11 1 198 → (∀ a : Int, 199 ≤ a → a ≠ 200 → a ≤ 262 → α4 a = α a) → ER X φ6 α4 Q' → OR (d + 99) X φ6 α4 Q' → eX11_registry (d + 100) φ6 α4 Q' := fun Q' φ6 α4 e1 ea hE hO => r_registry (d := d + 88) (N := N) (T := α 199) (f := 12 * N + 11) ⟨by omega, by rw [e1]; exact hN, fun i hi => by rw [ea 199 (by omega) (by omega) (by omega)]; exact ⟨rfl, (t4 i (by omega) (by omega)).2⟩⟩ ⟨fun k i q1 q2 => by rw [ea _ (by omega) (by omega) (by omega)]; exact iw.2.1 k i q1 q2, fun k i q1 q2 => by rw [ea _ (by omega) (by omega) (by omega)]; exact iw.2.2 k i q1 q2⟩ (Nat.le_refl _) hX.symm hE hO
  refine vX10_registry_0 (z_readRegistry (d := d + 17) (Nat.le_refl _) Y hX.symm (fun kd pl w φ1 α1 f1 b5 b6 => c_clear row1 ⟨fun z => absurd rfl z, fun _ => ?_⟩) (fun k' M' n' G' lc' kc' w φ1 α1 f1 C D b1 b5 b6 => c_clear row1 ⟨fun _ => ?_, fun z => by omega⟩))
  · have ir1 : iR j α1 := iR_of (Nat.le_refl j) (f1.2 _ (by omega)) (f1.2 _ (by omega)) ir
    refine c_refuseR (d := d + 98) hj ir1 (by omega) (step _ _ _ (by rw [upf_o (by omega), f1.1 _ _ _ (by omega) (by omega) (by omega) (by omega)]) (fun a q1 q2 q3 => by rw [rf_o (by omega), f1.2 _ (by omega)]) (fun kd' pl' w' φ2 α2 f2 g1 => ?_) (fun k'' M'' n'' G'' lc'' kc'' w' => by rw [w] at w'; cases w'))
    rw [w] at w'
    cases w'
    have e200 : α2 200 1 = α 200 1 := by rw [fK_a f2 (by omega), rf_o (by omega), f1.2 _ (by omega)]
    have w2 := ir 1 (by omega) (by omega)
    exact ⟨by rw [e200]; unfold inR; omega, rfl, reg_bad I f1 b5 b6 f2 g1⟩
  · have g0 := D.2.1.1
    obtain ⟨ns', hns⟩ : ∃ ns' : Nat, G' 0 = (ns' : Int) := ⟨(G' 0).toNat, by omega⟩
    have C2 : CDr (upf φ1 6 1 1 0) α1 M' n' G' lc' kc' := CD_f (fun _ => upf_o (by omega)) (upf_o (by omega)) (upf_o (by omega)) C
    refine c_office (d := d + 96) C2 D (fun φ3 α3 f3 g3 h3 O => c_first (d := d + 96) O D hns (fun φ4 α4 f4 g4 S => vX3_clear_0 (c_clear row5 ?_)))
    have e1 : upf (upf φ4 3 2 43 0) 6 1 5 0 2 1 9 = k' := by rw [upf_o (by omega), upf_o (by omega), f4 _ _ _ (by omega), h3, upf_o (by omega)]; exact b1
    rw [e1]
    refine step _ _ _ (by rw [upf_o (by omega), upf_o (by omega), f4 _ _ _ (by omega), f3 _ _ _ (by omega) (by omega), upf_o (by omega), f1.1 _ _ _ (by omega) (by omega) (by omega) (by omega)]) (fun a q1 q2 q3 => by rw [g4 a (by omega), g3 a (by omega), f1.2 a (by omega)]) (fun kd' pl' w' => by rw [w] at w'; cases w') (fun k'' M'' n'' G'' lc'' kc'' w' D2 φ7 α7 p' f7 h1 R7 hp h45 => ?_)
    rw [w] at w'
    cases w'
    refine r_stands (RD_f (by rw [upf_o (by omega), upf_o (by omega)]) R7) hp (fun φ8 α8 f8 h8 g8 R8 => ⟨?_, reg_good I D hns f1 b5 b6 f3 g3 O f4 g4 S f7 h1 f8 h8 g8 R8⟩)
    rw [f8 _ _ _ (by omega), upf_o (by omega), upf_o (by omega)]
    exact h45.symm
end RM2
