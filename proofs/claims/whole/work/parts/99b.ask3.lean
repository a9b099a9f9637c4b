/-! a question: both answer alike -/
section AP
variable {d j n M ns N p f : Nat} {φ φ' φ0 φ1 φ2 : aF} {α α' α0 α1 α2 : aA} {Q : Int → aF → aA → Prop} {k x1 e : Int} {rm nw sr T : Int → Int} {cs ct : List Int} {wv : Nat → Int}
theorem Iv_Q (I : Iv n M ns rm cs ct sr j φ α) (hf : ∀ c g o, c ≠ 8 → ¬ (c = 5 ∧ (g = 3 ∨ g = 4 ∨ g = 5 ∨ g = 6)) → ¬ (c = 6 ∧ (o = 1 ∨ o = 7)) → ¬ (c = 11 ∧ (g = 1 ∨ g = 2 ∨ g = 3 ∨ g = 4 ∨ g = 5 ∨ g = 6 ∨ g = 7 ∨ g = 8 ∨ g = 10 ∨ g = 35 ∨ g = 47 ∨ g = 88 ∨ g = 90 ∨ g = 91 ∨ g = 92 ∨ g = 94 ∨ g = 95 ∨ g = 96)) → φ' c g o = φ c g o) (ha : ∀ a : Int, a ≠ 8 → a ≠ 189 → a ≠ 263 → a ≠ 264 → a ≠ 265 → α' a = α a) (hT : φ' 6 1 1 = 0 ∧ φ' 11 1 198 = 0) (hF : iF φ') : Inv sr (j + 1) φ' α' := by
  obtain ⟨i0, i1, i2, i3, i4, i5, i6, i7, i8, i9, i10, i11⟩ := I
  have A : ∀ a : Int, ((a ≠ 8 ∧ a ≠ 189) ∧ a ≠ 263 ∧ a ≠ 264 ∧ a ≠ 265) → α' a = α a := fun a q => ha a q.1.1 q.1.2 q.2.1 q.2.2.1 q.2.2.2
  have P : ∀ c g o, (c ≠ 8 ∧ c ≠ 5 ∧ (c = 6 → o ≠ 1 ∧ o ≠ 7) ∧ (c = 11 → g = 46 ∨ (49 < g ∧ g < 88) ∨ g = 98)) → φ' c g o = φ c g o := fun c g o q => hf c g o q.1 (fun z => q.2.1 z.1) (fun z => by have := q.2.2.1 z.1; omega) (fun z => by have := q.2.2.2 z.1; omega)
  exact ⟨n, M, ns, rm, cs, ct, by rw [A _ (by omega)]; exact i0, ⟨by rw [hT.1, hT.2], by omega, by omega, fun i q1 q2 => by omega⟩, hF, iR_of (Nat.le_succ j) (A _ (by omega)) (A _ (by omega)) i3, iD_of (P _ _ _ (by omega)) (P _ _ _ (by omega)) i4, ⟨by rw [P _ _ _ (by omega)]; exact i5.1, by rw [P _ _ _ (by omega)]; exact i5.2.1, by rw [P _ _ _ (by omega)]; have := i5.2.2; omega⟩, iO_of (fun _ => P _ _ _ (by omega)) (P _ _ _ (by omega)) (P _ _ _ (by omega)) (P _ _ _ (by omega)) (fun x _ _ => A _ (by omega)) (fun x _ _ => A _ (by omega)) i6, iN_of (fun _ _ => P _ _ _ (by omega)) (fun x _ _ => A _ (by omega)) (A _ (by omega)) i7, iP_of (P _ _ _ (by omega)) (P _ _ _ (by omega)) (P _ _ _ (by omega)) (P _ _ _ (by omega)) (fun _ _ _ _ => P _ _ _ (by omega)) (fun x _ _ => A _ (by omega)) (A _ (by omega)) i8, iS_of (P _ _ _ (by omega)) (P _ _ _ (by omega)) (A _ (by omega)) (A _ (by omega)) i9, iC_of (P _ _ _ (by omega)) (P _ _ _ (by omega)) (A _ (by omega)) (A _ (by omega)) i10, iW_of (A _ (by omega)) (fun x _ _ => A _ (by omega)) (fun x _ _ => A _ (by omega)) i11⟩
theorem p_ask (hj : j < 512) (I : Inv sr j φ α) : eX10_ask (d + 100) φ α (fun r φ1 α1 => eX11_ask (d + 100) φ1 α1 (pq sr j r)) := by
  obtain ⟨n, M, ns, rm, cs, ct, I⟩ := I
  have hn := I.G.2.2.2.2.2.2
  obtain ⟨t1, t2, t3, t4⟩ := I.2.1
  have iw := I.2.2.2.2.2.2.2.2.2.2.2
  have op := I.O.2.2.2.2.2.1
  obtain ⟨N, hN⟩ : ∃ N : Nat, φ 11 1 198 = (N : Int) := ⟨(φ 11 1 198).toNat, by omega⟩
  have X : TX (α 199) N φ α := ⟨by omega, by rw [t1, hN], fun i hi => t4 i (by omega) (by omega), iw.1⟩
  refine vX10_ask_0 ⟨fun ho => ?_, fun hc => c_clear row1 (vX11_ask_0 ⟨fun w => ?_, fun _ => ⟨rfl, (Iv_tc I).nx⟩⟩)⟩
  · have h46 : φ 11 46 198 ≠ 0 := by rw [← op]; exact ho
    have step : ∀ (Q' : Int → aF → aA → Prop) (φ1 : aF) (α1 : aA), fqz φ α φ1 α1 → ∀ α2 : aA, (∀ a, a ≠ 189 → α2 a = α1 a) → (∀ k pl, qsR (α 199) N (12 * N + 11) = .error (k, pl) → EA Q' (upf φ1 6 1 1 0) α2 k pl) → (∀ w c, qsR (α 199) N (12 * N + 11) = .ok (w, c) → ∀ φ' α', fy (upf φ1 6 1 1 0) α2 φ' α' → φ' 11 1 198 = 0 → φ' 11 7 198 = 0 → φ' 11 8 198 = -1 → φ' 11 88 198 = c.length → (∀ i : Nat, i < c.length → α' 263 (i : Int) = tauF (c.getD i 0)) → φ' 11 95 198 = (if w - 24 < 2 then -1 else 0) → φ' 11 96 198 = 1 → jX11_ask_188 (d + 88 + 12) (w - 24) 0 φ' α' Q') → eX11_ask (d + 100) (upf φ1 6 1 1 0) α2 Q' := by
      intro Q' φ1 α1 F1 α2 f2 hE hO
      have A : ∀ a : Int, a ≠ 8 → a ≠ 189 → α2 a = α a := fun a q1 q2 => (f2 a q2).trans (F1.2 a q1)
      refine r_askP (d := d + 88) (N := N) (T := α 199) (f := 12 * N + 11) (by rw [upf_o (by omega), F1.1 _ _ _ (by omega) (by omega) (by omega)]; exact h46) ⟨by omega, by rw [upf_o (by omega), F1.1 _ _ _ (by omega) (by omega) (by omega)]; exact hN, fun i hi => by rw [A 199 (by omega) (by omega)]; exact ⟨rfl, (t4 i (by omega) (by omega)).2⟩⟩ ⟨fun k i q1 q2 => by rw [A _ (by omega) (by omega)]; exact iw.2.1 k i q1 q2, fun k i q1 q2 => by rw [A _ (by omega) (by omega)]; exact iw.2.2 k i q1 q2⟩ (Nat.le_refl _) hE hO
    have close : ∀ (φ1 : aF) (α1 : aA), fqz φ α φ1 α1 → ∀ α2 : aA, (∀ a, a ≠ 189 → α2 a = α1 a) → ∀ φ3 α3, fy (upf φ1 6 1 1 0) α2 φ3 α3 → ∀ φ4 α4, fqa φ3 α3 φ4 α4 → φ4 11 1 198 = 0 → φ1 5 5 185 = φ4 11 7 198 → φ1 5 6 185 = φ4 11 8 198 → Inv sr (j + 1) φ4 α4 := by
      intro φ1 α1 F1 α2 f2 φ3 α3 F3 φ4 α4 F4 g1 g7 g8
      have C : ∀ c g o, c ≠ 11 → ¬ (c = 6 ∧ o = 1) → φ4 c g o = φ1 c g o := fun c g o q1 q2 => by rw [F4.1 c g o (by omega), F3.1 c g o (by omega), upf_o (by omega)]
      refine Iv_Q I (fun c g o q1 q2 q3 q4 => ?_) (fun a q1 q2 q3 q4 q5 => by rw [F4.2 a q5, F3.2 a q3 q4, f2 a q2, F1.2 a q1]) ⟨?_, g1⟩ ⟨?_, ?_⟩
      · rw [F4.1 c g o (by omega), F3.1 c g o (by omega), upf_o (by omega)]
        exact F1.1 c g o q1 q2 (by omega)
      · rw [F4.1 _ _ _ (by omega), F3.1 _ _ _ (by omega), upf_s]
      · rw [C _ _ _ (by omega) (by omega)]; exact g7
      · rw [C _ _ _ (by omega) (by omega)]; exact g8
    have rfa : ∀ (φ3 : aF) (α3 : aA), fqa φ3 α3 φ3 α3 := fun _ _ => ⟨fun _ _ _ _ => rfl, fun _ _ => rfl⟩
    refine c_readQuestion (f := 12 * N + 11) X (Nat.le_refl _) (fun k pl w φ1 α1 F1 b5 b6 => c_clear row1 ⟨fun z => by omega, fun _ => ?_⟩) (fun w c hw φ1 α1 F1 b5 b6 hl hc => c_clear row1 ?_)
    · refine step _ φ1 α1 F1 α1 (fun _ _ => rfl) (fun k' pl' w' φ3 α3 F3 g1 g7 g8 => ⟨rfl, ?_⟩) (fun w' c' hw' => by rw [w] at hw'; cases hw')
      rw [w] at w'
      cases w'
      exact close φ1 α1 F1 α1 (fun _ _ => rfl) φ3 α3 F3 φ3 α3 (rfa _ _) g1 (by rw [b5, g7]) (by rw [b6, g8])
    · obtain ⟨hw2, hcl, hty, hok⟩ := qs_ok hw
      have X29 : XS 29 (upf φ1 6 1 1 0) α1 n (α 233) := XS_of (by rw [upf_o (by omega), F1.1 _ _ _ (by omega) (by omega) (by omega)]) (fun i q1 q2 => F1.2 _ (by omega)) I.X
      have XO1 : XO (upf φ1 6 1 1 0) α1 n M ns rm := XO_of (fun g o => by rw [upf_o (by omega), F1.1 _ _ _ (by omega) (by omega) (by omega)]) (F1.2 _ (by omega)) I.XO
      have l7 : upf φ1 6 1 1 0 6 1 7 = c.length := by rw [upf_o (by omega)]; exact hl
      have main : ∀ α2 : aA, (∀ a, a ≠ 189 → α2 a = α1 a) → eX11_ask (d + 100) (upf φ1 6 1 1 0) α2 (pq sr j (agF (w - 24) (wvF n M rm (α 233) c) n)) := by
        intro α2 f2
        refine step _ φ1 α1 F1 α2 f2 (fun k' pl' w' => by rw [hw] at w'; cases w') (fun w' c' hw' φ3 α3 F3 g1 g7 g8 g88 gc g95 g96 => ?_)
        rw [hw] at hw'
        cases hw'
        have A3 : ∀ a : Int, a ≠ 8 → a ≠ 189 → a ≠ 263 → a ≠ 264 → α3 a = α a := fun a q1 q2 q3 q4 => by rw [F3.2 a q3 q4, f2 a q2, F1.2 a q1]
        have a233 : α3 233 = α 233 := A3 _ (by omega) (by omega) (by omega) (by omega)
        have := l_ask (d := d + 95) (φ0 := φ3) (α0 := α3) (n := n) (M := M) (ns := ns) (rm := rm) (cs := c) (k := w - 24) (tf := decide (w < 27)) (Q := pq sr j (agF (w - 24) (wvF n M rm (α 233) c) n)) (by omega) (fun q => decide_eq_true (by omega)) hn.1 hn.2.1 I.rm0 (by omega) g88 gc hok hty (MO_a (fun a _ _ => A3 _ (by omega) (by omega) (by omega) (by omega)) I.MO) (by rw [a233]; exact I.G) (fun φ4 α4 F4 => ⟨by rw [a233], close φ1 α1 F1 α2 f2 φ3 α3 F3 φ4 α4 F4 (by rw [F4.1 _ _ _ (by omega)]; exact g1) (by rw [b5, F4.1 _ _ _ (by omega)]; exact g7.symm) (by rw [b6, F4.1 _ _ _ (by omega)]; exact g8.symm)⟩) n 0 (by omega) φ3 α3 (rfa _ _) g95 g96
        exact this
      have cnt : (w = 24 ∨ w = 25 ∨ w = 26) → eX10_countHolding (d + 99) w (upf φ1 6 1 1 0) α1 (fun r φ1 α1 => eX11_ask (d + 100) φ1 α1 (pq sr j r)) := fun h3 => by
        refine vX10_countHolding_0 ?_
        have tt : tyL2 [] c = some [true] := by rw [hty, decide_eq_true (by omega)]
        exact l_count (d := d + 95) (nw := α 233) (cs := c) (x1 := w) h3 hn.1 X29 I.G XO1 I.rm0 hc l7 (by omega) tt (fun α2 f2 => main α2 f2) n 0 (by omega) α1 (fun _ _ => rfl)
      refine ⟨fun _ => ⟨fun z => cnt (by omega), fun z => ⟨fun z2 => cnt (by omega), fun z2 => ⟨fun z3 => ?_, fun z3 => cnt (by omega)⟩⟩⟩, fun z => by omega⟩
      refine vX10_gatherSums_0 ?_
      have tt : tyL2 [] c = some [false] := by rw [hty, decide_eq_false (by omega)]
      have := l_gather (d := d + 95) (nw := α 233) (cs := c) (x1 := w) (Q := fun r φ1 α1 => eX11_ask (d + 100) φ1 α1 (pq sr j r)) (by omega) hn.1 X29 I.G XO1 I.rm0 hc l7 (by omega) tt (fun α2 f2 => main α2 f2) n 0 (by omega) α1 (fun _ _ => rfl)
      rw [show agF (w - 24) (wvF n M rm (α 233) c) 0 = 0 by rw [agF, if_neg (by omega)]] at this
      exact this
  · have : upf φ 6 1 1 0 11 46 198 = φ 11 46 198 := upf_o (by omega)
    rw [this, ← op] at w
    exact absurd hc w
end AP
