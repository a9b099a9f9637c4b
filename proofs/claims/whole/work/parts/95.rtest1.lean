/-! the reference reads a whole SUM -/
section QW2
variable {d N p o f : Nat} {φ φ' φ0 φ1 φ2 : aF} {α α' α0 α1 α2 : aA} {Q Q' : Int → aF → aA → Prop} {tk tg e v x x1 s w b : Int} {T : Int → Int} {U V W X Y C c : List Int}
theorem RQ_base (R : RQ T N tk b φ α p e W o C) (b' : Int) : RQ T N tk b' (upf φ 11 92 198 b') α p e W o C := by
  obtain ⟨r1, r2, r3, r4, r5, r6⟩ := R
  exact ⟨RLx_z r1 (upf_o (by omega)) (upf_o (by omega)) (upf_o (by omega)) (upf_o (by omega)) (fun _ _ _ => rfl), by rw [upf_o (by omega)]; exact r2, by rw [upf_o (by omega)]; exact r3, by rw [upf_o (by omega)]; exact r4, upf_s, by rw [upf_o (by omega)]; exact r6⟩
theorem l_s53 : ∀ (X : List Int) (φ : aF) (α : aA) (C : List Int), RQ T N tk V.length φ α p e (X.map tauF ++ V) o C → C.length + (X.length + V.length) ≤ 1640 → (∀ φ' α', fz φ α φ' α' → RQ T N tk b φ' α' p e V o (C ++ X) → Q 0 φ' α') → jX11_qSums_53 (d + 2) b φ α Q
  | [], φ, α, C, R, hl, h => by
    refine vX11_qSums_53 ⟨fun z => absurd R.1.2.1 z, fun _ => ⟨fun _ => h _ _ (fz_u (by omega)) (by rw [List.append_nil]; exact RQ_base R b), fun z => ?_⟩⟩
    have r3 := R.2.2.1.1
    have r5 := R.2.2.2.2.1
    exfalso; apply z; rw [r3, r5]; exact Int.le_refl _
  | y :: X, φ, α, C, R, hl, h => by
    have hl : C.length + (X.length + 1 + V.length) ≤ 1640 := hl
    have ll : (X.map tauF ++ V).length = X.length + V.length := by rw [List.length_append, List.length_map]
    have t1 := (RQ_top (W := X.map tauF ++ V) R).1
    refine vX11_qSums_53 ⟨fun z => absurd R.1.2.1 z, fun _ => ⟨fun z => ?_, fun _ => r_qDrops (W := X.map tauF ++ V) R (by omega) (fun φ1 α1 f1 R1 => ?_)⟩⟩
    · have r5 := R.2.2.2.2.1
      exfalso; rw [t1, r5, ll] at z; omega
    · refine l_s53 X φ1 α1 (C ++ [y]) R1 (by rw [List.length_append]; simp only [List.length_cons, List.length_nil]; omega) (fun φ2 α2 f2 R2 => h φ2 α2 (f1.tr f2) ?_)
      rw [List.append_assoc] at R2
      exact R2
theorem br_nil : ∀ (Y : List Int), (∀ y ∈ Y, arA y) → brF (Y.map tauF ++ []) = -1 := fun Y hY => by rw [br_ar Y hY]; rfl
theorem r_qSums (ht : tk = 0 ∧ tg = 7 ∨ tk = 1 ∧ tg = 8 ∨ tk = 2 ∧ tg = 26) (R : RQ T N tk b φ α p e V o C) (ho : o ≤ 6) (hV : hdA V) (hl : C.length + V.length ≤ p) (hf : 12 * (N - p) + 7 ≤ f) (hE : ∀ k pl, rd T N tg f 3 o p e = .error (k, pl) → ∀ φ' α', fz φ α φ' α' → RFz φ' k pl → Q 0 φ' α') (hO : ∀ p' e' c, rd T N tg f 3 o p e = .ok (p', e', c) → ∀ φ' α', fz φ α φ' α' → RQ T N tk b φ' α' p' e' V o (C ++ c) → Q 0 φ' α') : eX11_qSums (d + 7) φ α Q := by
  have hN := R.1.1.1
  have hp := R.1.2.2.2.2.2.2
  have he := R.1.2.2.2.2.2.1
  have r3 := R.2.2.1.1
  have r5 := R.2.2.2.2.1
  refine vX11_qSums_0 ?_
  rw [r3, r5]
  have R0 := RQ_base R (V.length : Int)
  refine kp_1 R0.1.2.1 ?_
  refine (s_all (d := d) (x1 := b) (Q := Q) (φ0 := φ) (α0 := α) (V := V) ht f).2.2.1 _ α p e [] o C (fz_u (by omega)) R0 ho hV (fun u hu => by cases hu) hl hf (fun k pl w φ' α' z F => ?_) (fun p' e' c w hn X C' hX hc φ' α' z R1 => ?_)
  · refine vX11_qSums_15 ⟨fun _ => vX11_qSums_53 ⟨fun _ => hE k pl w _ α' (z.tr (fz_u (by omega))) (RFz_u (by omega) F), fun z => absurd z (RFz_5 F)⟩, fun z => absurd rfl z⟩
  · have g := rd_PG f 3 o _ _ _ he hp w
    have k1 := g.1
    have k2 := g.2.2.1
    dsimp only at k1 k2
    have lc := congrArg List.length hc
    rw [List.length_append, List.length_append] at lc
    have bn := br_nil X hX
    have en : ([] : List Int) ++ V = V := rfl
    rw [en] at R1
    refine kg_tail (U := X.map tauF ++ []) (V := V) (by rw [List.append_nil]; exact R1) (by rw [List.append_nil, List.length_map]; omega) (fun _ => by rw [bn]; omega) (fun φ2 f2 R2 => ?_)
    refine tl_none (X := X) (U := []) (V := V) (by rw [List.append_nil]; exact RQ_w R1 f2 R2) hX (by rw [en]; omega) hn (fun _ φ3 f3 R3 => ⟨fun _ => ?_, fun z => absurd rfl z⟩) (fun _ _ w => by cases w) (fun _ _ w => by cases w) (fun _ _ w => by cases w) (Or.inl rfl)
    refine vX11_qSums_15 ⟨fun _ => ?_, fun z => absurd rfl z⟩
    refine l_s53 X φ3 α' C' (RQ_w R1 (f2.tr f3) R3) (by omega) (fun φ4 α4 f4 R4 => hO p' e' c w φ4 α4 ((z.tr (fz_w (f2.tr f3))).tr f4) ?_)
    rw [← hc]; exact R4
end QW2
/-! the reference reads TESTs: what waits -/
def QG (d : Nat) (Q : Int → aF → aA → Prop) : Int → aF → aA → Prop := fun r10 φ10 α10 => ((r10 = 0 → (jX11_qTest_2 (d + 9) 0 φ10 α10 Q)) ∧ (¬ (r10 = 0) → (jX11_qTest_2 (d + 9) 1 φ10 α10 Q)))
def KT (d : Nat) (Q : Int → aF → aA → Prop) (φ : aF) (α : aA) : Prop := jX11_qTest_2 (d + 9) 1 φ α Q
def KH (d : Nat) (Q : Int → aF → aA → Prop) (φ : aF) (α : aA) : Prop := eX11_qGoesOnTest (d + 8) φ α (QG d Q)
def KN (d : Nat) (Q : Int → aF → aA → Prop) (φ : aF) (α : aA) : Prop := ∀ m : Nat, eX11_qDropsNots (m + 2) φ α (fun _ φ8 α8 => φ8 11 5 198 = 0 ∧ KH d Q φ8 α8)
def TLt (d : Nat) (φ10 : aF) (α10 : aA) (Q : Int → aF → aA → Prop) : Prop := (eX11_takes d 246 φ10 α10 (fun r12 φ12 α12 => ((r12 = 0 → (eX11_takes d 247 φ12 α12 (fun r14 φ14 α14 => ((r14 = 0 → ((¬ (φ14 11 5 198) = 0 → (Q 0 φ14 α14)) ∧ ((φ14 11 5 198) = 0 → (eX11_qHasSquare d φ14 α14 (fun r17 φ17 α17 => ((r17 = 0 → (Q 0 φ17 α17)) ∧ (¬ (r17 = 0) → (eX11_fail d 1 (φ17 11 2 198) φ17 α17 (fun r19 φ19 α19 => (Q 0 φ19 α19)))))))))) ∧ (¬ (r14 = 0) → (jX11_qGoesOnTest_137 (d + 1) φ14 α14 Q)))))) ∧ (¬ (r12 = 0) → (jX11_qGoesOnTest_87 (d + 1) φ12 α12 Q)))))
def arN (x : Int) : Prop := x = 19
def arO (x : Int) : Prop := x = 19 ∨ x = 18
def RFy (φ : aF) (k pl : Int) : Prop := (φ 11 5 198 = k ∧ k ≠ 0) ∧ φ 11 6 198 = pl
section QX
variable {d N p o f : Nat} {φ φ' φ0 φ1 φ2 : aF} {α α' α0 α1 α2 : aA} {Q Q' : Int → aF → aA → Prop} {tk tg e v x x1 s w b : Int} {T : Int → Int} {U V W X Y C c : List Int}
theorem RFy_5 {k pl : Int} (F : RFy φ k pl) : φ 11 5 198 ≠ 0 := by rw [F.1.1]; exact F.1.2
theorem kn_not (R : RQ T N tk b φ α p e (12 :: W) (o + 1) C) (ho : o ≤ 6) (hl : C.length + (W.length + 1) ≤ 1650) (h : ∀ φ' α', fz φ α φ' α' → RQ T N tk b φ' α' p e W o (C ++ [20]) → KN d Q φ' α') : KN d Q φ α := by
  intro m
  have r4 := R.2.2.2.1
  refine vX11_qDropsNots_0 ⟨fun z => absurd R.1.2.1 z, fun _ => r_qIsOn R (by simp only [List.length_cons]; omega) ?_⟩
  rw [if_pos (by rfl), r4]
  refine ⟨fun z => by omega, fun _ => ⟨by unfold inR; omega, ?_⟩⟩
  rw [show ((o + 1 : Nat) : Int) - 1 = (o : Nat) by omega]
  exact r_qDrops (x := 20) (RQ_op R o) hl (fun φ1 α1 f1 R1 => h φ1 α1 ((fz_u (by omega)).tr f1) R1 m)
theorem kn_kh (R : RQ T N tk b φ α p e W o C) (hl : W.length ≤ 1650) (hW : W.head? ≠ some 12) (h : KH d Q φ α) : KN d Q φ α := by
  intro m
  refine vX11_qDropsNots_0 ⟨fun z => absurd R.1.2.1 z, fun _ => r_qIsOn R hl ?_⟩
  rw [if_neg hW]
  exact ⟨fun _ => ⟨R.1.2.1, h⟩, fun z => absurd rfl z⟩
theorem kt_bad (h5 : φ 11 5 198 ≠ 0) (h : Q 0 φ α) : jX11_qTest_2 (d + 9) v φ α Q := by
  have h' : jX11_qTest_110 (d + 9) φ α Q := vX11_qTest_110 ⟨fun _ => h, fun z => absurd z h5⟩
  exact vX11_qTest_2 ⟨fun _ => h', fun _ => ⟨fun _ => h', fun z => absurd z h5⟩⟩
theorem fc_ok (h : KN d Q φ α) : eX11_qDropsNots (d + 8) φ α (fun _ φ8 α8 => ((¬ (φ8 11 5 198) = 0 → (jX11_qTest_2 (d + 9) 0 φ8 α8 Q)) ∧ ((φ8 11 5 198) = 0 → (eX11_qGoesOnTest (d + 8) φ8 α8 (fun r10 φ10 α10 => ((r10 = 0 → (jX11_qTest_2 (d + 9) 0 φ10 α10 Q)) ∧ (¬ (r10 = 0) → (jX11_qTest_2 (d + 9) 1 φ10 α10 Q)))))))) := R0.mono (h (d + 6)) (fun r φ8 α8 w => ⟨fun z => absurd w.1 z, fun _ => w.2⟩)
theorem fc_bad (h5 : φ 11 5 198 ≠ 0) (h : Q 0 φ α) : eX11_qDropsNots (d + 8) φ α (fun _ φ8 α8 => ((¬ (φ8 11 5 198) = 0 → (jX11_qTest_2 (d + 9) 0 φ8 α8 Q)) ∧ ((φ8 11 5 198) = 0 → (eX11_qGoesOnTest (d + 8) φ8 α8 (fun r10 φ10 α10 => ((r10 = 0 → (jX11_qTest_2 (d + 9) 0 φ10 α10 Q)) ∧ (¬ (r10 = 0) → (jX11_qTest_2 (d + 9) 1 φ10 α10 Q)))))))) := vX11_qDropsNots_0 ⟨fun _ => ⟨fun _ => kt_bad h5 h, fun z => absurd z h5⟩, fun z => absurd z h5⟩
theorem st_mem : ∀ {W : List Int}, stW α W → ∀ i : Nat, i < W.length → α 264 (i : Int) ∈ W
  | [], _, i, hi => by cases hi
  | v :: t, h, i, hi => by
    by_cases q : i = t.length
    · rw [q, h.1]; exact List.mem_cons_self ..
    · exact List.mem_cons_of_mem _ (st_mem h.2 i (by simp only [List.length_cons] at hi; omega))
theorem mem_st : ∀ {W : List Int}, stW α W → v ∈ W → ∃ i : Nat, i < W.length ∧ α 264 (i : Int) = v
  | [], _, hv => by cases hv
  | u :: t, h, hv => by
    rcases List.mem_cons.mp hv with q | q
    · exact ⟨t.length, by simp only [List.length_cons]; omega, by rw [q]; exact h.1⟩
    · obtain ⟨i, h1, h2⟩ := mem_st h.2 q
      exact ⟨i, by simp only [List.length_cons]; omega, h2⟩
theorem l_hs (R : RQ T N tk b φ α p e W o C) (hl : W.length ≤ 1650) (h1 : 25 ∈ W → Q' 1 φ α) (h0 : 25 ∉ W → Q' 0 φ α) : ∀ (r x : Nat), r = W.length - x → x ≤ W.length → (∀ i : Nat, i < x → α 264 (i : Int) ≠ 25) → jX11_qHasSquare_2 d x φ α Q' := by
  intro r
  have r3 := R.2.2.1.1
  induction r with
  | zero =>
    intro x hr hx hn
    refine vX11_qHasSquare_2 ⟨fun _ => h0 (fun w => ?_), fun z => by rw [r3] at z; omega⟩
    obtain ⟨i, hi, hv⟩ := mem_st R.2.2.1.2 w
    exact hn i (by omega) hv
  | succ r ih =>
    intro x hr hx hn
    refine vX11_qHasSquare_2 ⟨fun z => by rw [r3] at z; omega, fun _ => ⟨by omega, fun z => ⟨by unfold inR; omega, ?_⟩, fun z => h1 ?_⟩⟩
    · refine ih (x + 1) (by omega) (by omega) (fun i hi => ?_)
      by_cases q : i = x
      · rw [q]; exact z
      · exact hn i (by omega)
    · rw [← z]; exact st_mem R.2.2.1.2 x (by omega)
theorem r_qHasSquare (R : RQ T N tk b φ α p e W o C) (hl : W.length ≤ 1650) (h1 : 25 ∈ W → Q' 1 φ α) (h0 : 25 ∉ W → Q' 0 φ α) : eX11_qHasSquare d φ α Q' := vX11_qHasSquare_0 (l_hs R hl h1 h0 _ 0 rfl (by omega) (fun i hi => by omega))
theorem tau_arO (h : arO x) : tauF x = 10 ∨ tauF x = 11 := by rcases h with rfl | rfl; (· exact Or.inl rfl); (· exact Or.inr rfl)
theorem l_87 (h : ∀ φ' α' C', RQ T N tk b φ' α' p e (10 :: W) o C' → fz φ0 α0 φ' α' → C' = C ++ X → Q' 1 φ' α') (hW : W.head? ≠ some 10) : ∀ (Y : List Int), (∀ y ∈ Y, arN y) → ∀ (φ : aF) (α : aA) (C1 : List Int), RQ T N tk b φ α p e (Y.map tauF ++ W) o C1 → C1.length + (Y.length + W.length) ≤ 1640 → C1 ++ Y = C ++ X → fz φ0 α0 φ α → jX11_qGoesOnTest_87 (d + 2) φ α Q'
  | [], hY, φ, α, C1, R, hl, hc, f => by
    have hl : C1.length + (0 + W.length) ≤ 1640 := hl
    have R : RQ T N tk b φ α p e W o C1 := R
    have r3 := R.2.2.1.1
    refine vX11_qGoesOnTest_87 (r_qIsOn R (by omega) ?_)
    rw [if_neg hW, r3]
    rw [List.append_nil] at hc
    exact ⟨fun _ => ⟨by omega, by unfold inR; omega, h _ _ C1 (RQ_push R) (f.tr ((fz_u (by omega)).tr (fz_a (by omega)))) hc⟩, fun z => absurd rfl z⟩
  | y :: Y, hY, φ, α, C1, R, hl, hc, f => by
    have hl : C1.length + (Y.length + 1 + W.length) ≤ 1640 := hl
    have ty : tauF y = 10 := by rw [show y = 19 from hY y (by simp)]; rfl
    refine vX11_qGoesOnTest_87 (r_qIsOn R (by rw [List.length_append, List.length_map]; simp only [List.length_cons]; omega) ?_)
    rw [if_pos (by rw [List.map_cons, ty]; rfl)]
    refine ⟨fun z => by omega, fun _ => r_qDrops (W := Y.map tauF ++ W) R (by rw [List.length_append, List.length_map]; omega) (fun φ1 α1 f1 R1 => l_87 h hW Y (fun z hz => hY z (by simp [hz])) φ1 α1 (C1 ++ [y]) R1 (by rw [List.length_append]; simp only [List.length_cons, List.length_nil]; omega) (by rw [← hc]; simp) (f.tr f1))⟩
theorem l_137 (h : ∀ φ' α' C', RQ T N tk b φ' α' p e (11 :: W) o C' → fz φ0 α0 φ' α' → C' = C ++ X → Q' 1 φ' α') (hW : W.head? ≠ some 10) (hW2 : W.head? ≠ some 11) : ∀ (Y : List Int), (∀ y ∈ Y, arO y) → ∀ (φ : aF) (α : aA) (C1 : List Int), RQ T N tk b φ α p e (Y.map tauF ++ W) o C1 → C1.length + (Y.length + W.length) ≤ 1640 → C1 ++ Y = C ++ X → fz φ0 α0 φ α → jX11_qGoesOnTest_137 (d + 2) φ α Q'
  | [], hY, φ, α, C1, R, hl, hc, f => by
    have hl : C1.length + (0 + W.length) ≤ 1640 := hl
    have R : RQ T N tk b φ α p e W o C1 := R
    have r3 := R.2.2.1.1
    refine vX11_qGoesOnTest_137 (r_qIsOn R (by omega) ?_)
    rw [if_neg hW]
    refine ⟨fun z => absurd rfl z, fun _ => r_qIsOn R (by omega) ?_⟩
    rw [if_neg hW2, r3]
    rw [List.append_nil] at hc
    exact ⟨fun _ => ⟨by omega, by unfold inR; omega, h _ _ C1 (RQ_push R) (f.tr ((fz_u (by omega)).tr (fz_a (by omega)))) hc⟩, fun z => absurd rfl z⟩
  | y :: Y, hY, φ, α, C1, R, hl, hc, f => by
    have hl : C1.length + (Y.length + 1 + W.length) ≤ 1640 := hl
    have lw : ((y :: Y).map tauF ++ W).length ≤ 1650 := by rw [List.length_append, List.length_map]; simp only [List.length_cons]; omega
    have dr : eX11_qDrops (d + 1) φ α (fun r3 φ3 α3 => jX11_qGoesOnTest_137 (d + 2) φ3 α3 Q') := r_qDrops (W := Y.map tauF ++ W) R (by rw [List.length_append, List.length_map]; omega) (fun φ1 α1 f1 R1 => l_137 h hW hW2 Y (fun z hz => hY z (by simp [hz])) φ1 α1 (C1 ++ [y]) R1 (by rw [List.length_append]; simp only [List.length_cons, List.length_nil]; omega) (by rw [← hc]; simp) (f.tr f1))
    have hd : ((y :: Y).map tauF ++ W).head? = some (tauF y) := rfl
    refine vX11_qGoesOnTest_137 (r_qIsOn R lw ?_)
    rcases tau_arO (hY y (by simp)) with w | w
    · rw [hd, w, if_pos rfl]
      exact ⟨fun _ => dr, fun z => by omega⟩
    · rw [hd, w, if_neg (by decide)]
      refine ⟨fun z => absurd rfl z, fun _ => r_qIsOn R lw ?_⟩
      rw [hd, w, if_pos rfl]
      exact ⟨fun z => by omega, fun _ => dr⟩
theorem l_33 (ho : o ≤ 6) (h : ∀ φ' α' C', RQ T N tk b φ' α' p e W o C' → fz φ0 α0 φ' α' → C' = C ++ X → KN d Q φ' α') : ∀ (Y : List Int), (∀ y ∈ Y, arO y) → ∀ (φ : aF) (α : aA) (C1 : List Int), RQ T N tk b φ α p e (Y.map tauF ++ (25 :: W)) (o + 1) C1 → C1.length + (Y.length + (W.length + 1)) ≤ 1640 → C1 ++ Y = C ++ X → fz φ0 α0 φ α → jX11_qGoesOnTest_33 (d + 8) φ α (QG d Q)
  | [], hY, φ, α, C1, R, hl, hc, f => by
    have hl : C1.length + (0 + (W.length + 1)) ≤ 1640 := hl
    have R : RQ T N tk b φ α p e (25 :: W) (o + 1) C1 := R
    obtain ⟨t1, _⟩ := RQ_top R
    have r4 := R.2.2.2.1
    refine vX11_qGoesOnTest_33 (r_qIsOn R (by simp only [List.length_cons]; omega) ?_)
    rw [if_pos (by rfl), t1, r4, show (W.length : Int) + 1 - 1 = W.length by omega, show ((o + 1 : Nat) : Int) - 1 = (o : Nat) by omega]
    rw [List.append_nil] at hc
    exact ⟨fun _ => ⟨by unfold inR; omega, by unfold inR; omega, R0.mono (h _ _ C1 (RQ_op (RQ_pop R) o) (f.tr ((fz_u (by omega)).tr (fz_u (by omega)))) hc (d + 5)) (fun _ _ _ w => w.2)⟩, fun z => by omega⟩
  | y :: Y, hY, φ, α, C1, R, hl, hc, f => by
    have hl : C1.length + (Y.length + 1 + (W.length + 1)) ≤ 1640 := hl
    have ll : (Y.map tauF ++ (25 :: W)).length = Y.length + (W.length + 1) := by rw [List.length_append, List.length_map]; rfl
    have ty := tau_arO (hY y (by simp))
    have hd : ((y :: Y).map tauF ++ (25 :: W)).head? = some (tauF y) := rfl
    refine vX11_qGoesOnTest_33 (r_qIsOn R (by show (Y.map tauF ++ (25 :: W)).length + 1 ≤ 1650; omega) ?_)
    rw [hd, if_neg (by intro z; have : tauF y = 25 := by simpa using z
                       omega)]
    exact ⟨fun z => absurd rfl z, fun _ => r_qDrops (W := Y.map tauF ++ (25 :: W)) R (by omega) (fun φ1 α1 f1 R1 => l_33 ho h Y (fun z hz => hY z (by simp [hz])) φ1 α1 (C1 ++ [y]) R1 (by rw [List.length_append]; simp only [List.length_cons, List.length_nil]; omega) (by rw [← hc]; simp) (f.tr f1))⟩
theorem kb93 : kdB 93 = 3 ∧ (0 : Int) ≤ 93 := by decide
theorem kb91 : kdB 91 = 3 ∧ (0 : Int) ≤ 91 := by decide
theorem kh_tail (R : RQ T N tk b φ α p e W o C) (hl : W.length ≤ 1650) (hb : isS T N p 93 → 25 ∉ W) (h : ∀ φ', fw φ φ' → RLx T N φ' α p e → TLt (d + 7) φ' α (QG d Q)) : KH d Q φ α := by
  refine vX11_qGoesOnTest_0 ⟨fun z => absurd R.1.2.1 z, fun _ => r_look R.1 (fun φ1 f1 R1 g1 => ⟨fun _ => h φ1 f1 R1, fun z => ?_⟩)⟩
  have w := hb ((cF_s kb93).mp z)
  exact r_qHasSquare (RQ_w R f1 R1) hl (fun w' => absurd w' w) (fun _ => ⟨fun _ => h φ1 f1 R1, fun z => absurd rfl z⟩)
theorem kh_close (R : RQ T N tk b φ α p e (X.map tauF ++ (25 :: W)) (o + 1) C) (ho : o ≤ 6) (hX : ∀ y ∈ X, arO y) (hl : C.length + (X.length + (W.length + 1)) ≤ 1600) (hs : isS T N p 93) (h : ∀ φ' α', fz φ α φ' α' → RQ T N tk b φ' α' (avF T N p) (edF T N p e) W o (C ++ X) → KN d Q φ' α') : KH d Q φ α := by
  have hN := R.1.1.1
  have hp := R.1.2.2.2.2.2.2
  have nx : nxF T N p = p + 1 := by unfold nxF; rw [if_pos hs.1]
  refine vX11_qGoesOnTest_0 ⟨fun z => absurd R.1.2.1 z, fun _ => r_look R.1 (fun φ1 f1 R1 g1 => ⟨fun z => absurd ((cF_s kb93).mpr hs) z, fun _ => r_qHasSquare (RQ_w R f1 R1) (by rw [List.length_append, List.length_map]; simp only [List.length_cons]; omega) (fun _ => ⟨fun z => by omega, fun _ => ⟨by unfold inR; omega, ?_⟩⟩) (fun z => absurd (by simp) z)⟩)⟩
  have R2 : RQ T N tk b (upf φ1 11 2 198 ((φ1 11 2 198) + 1)) α (avF T N p) (edF T N p e) (X.map tauF ++ (25 :: W)) (o + 1) C := RQ_w (RQ_w R f1 R1) (fw_u (by omega) fw.rf) (RLx_adv R1 (by rw [hs.1]; omega) (fw_u (by omega) fw.rf) (by rw [upf_s, g1, nx]; omega) (by rw [upf_o (by omega), R1.2.2.1]; unfold edF; rw [if_pos hs.1]) (by rw [upf_o (by omega)]; exact R1.2.1))
  exact l_33 (φ0 := φ) (α0 := α) (C := C) (X := X) ho (fun φ' α' C' R' f' hc => h φ' α' f' (by rw [← hc]; exact R')) X hX _ α C R2 (by omega) rfl ((fz_w f1).tr (fz_w (fw_u (by omega) fw.rf)))
theorem kh_and (R : RQ T N tk b φ α p e (X.map tauF ++ W) o C) (hX : ∀ y ∈ X, arN y) (hW : W.head? ≠ some 10) (hl : C.length + (X.length + W.length) ≤ 1600) (hw : isW T N p e 19) (h : ∀ φ' α', fz φ α φ' α' → RQ T N tk b φ' α' (avF T N p) (edF T N p e) (10 :: W) o (C ++ X) → KT d Q φ' α') : KH d Q φ α := by
  refine kh_tail R (by rw [List.length_append, List.length_map]; omega) (fun z => by have := z.1; rw [hw.1] at this; omega) (fun φ1 f1 R1 => r_takesQ 7 (by omega) (by omega) R1 (fun _ φ2 f2 R2 => ⟨fun z => by omega, fun _ => ?_⟩) (fun z => absurd hw z))
  exact l_87 (φ0 := φ) (α0 := α) (C := C) (X := X) (fun φ' α' C' R' f' hc => ⟨fun z => by omega, fun _ => h φ' α' f' (by rw [← hc]; exact R')⟩) hW X hX φ2 α C (RQ_w R (f1.tr f2) R2) (by omega) rfl (fz_w (f1.tr f2))
theorem kh_or (R : RQ T N tk b φ α p e (X.map tauF ++ W) o C) (hX : ∀ y ∈ X, arO y) (hW : W.head? ≠ some 10) (hW2 : W.head? ≠ some 11) (hl : C.length + (X.length + W.length) ≤ 1600) (hw : isW T N p e 18) (h : ∀ φ' α', fz φ α φ' α' → RQ T N tk b φ' α' (avF T N p) (edF T N p e) (11 :: W) o (C ++ X) → KT d Q φ' α') : KH d Q φ α := by
  refine kh_tail R (by rw [List.length_append, List.length_map]; omega) (fun z => by have := z.1; rw [hw.1] at this; omega) (fun φ1 f1 R1 => r_takesQ 7 (by omega) (by omega) R1 (fun z => ?_) (fun _ φ2 f2 R2 g2 => ⟨fun _ => r_takesQ 8 (by omega) (by omega) R2 (fun _ φ3 f3 R3 => ⟨fun z => by omega, fun _ => ?_⟩) (fun z => absurd hw z), fun z => absurd rfl z⟩))
  · have a1 : wdF T N p = ((19 : Nat) : Int) := z.2.2
    have a2 := hw.2.2
    omega
  · exact l_137 (φ0 := φ) (α0 := α) (C := C) (X := X) (fun φ' α' C' R' f' hc => ⟨fun z => by omega, fun _ => h φ' α' f' (by rw [← hc]; exact R')⟩) hW hW2 X hX φ3 α C (RQ_w R ((f1.tr f2).tr f3) R3) (by omega) rfl (fz_w ((f1.tr f2).tr f3))
/-- no and, no or, nothing closed -/
theorem kh_end (R : RQ T N tk b φ α p e W o C) (hl : C.length + W.length ≤ 1600) (hn : ¬ isW T N p e 19 ∧ ¬ isW T N p e 18) (hb : isS T N p 93 → 25 ∉ W) (h0 : 25 ∉ W → ∀ φ', fw φ φ' → RLx T N φ' α p e → jX11_qTest_2 (d + 9) 0 φ' α Q) (h1 : 25 ∈ W → ∀ φ', fw φ φ' → RFy φ' 1 p → Q 0 φ' α) : KH d Q φ α := by
  refine kh_tail R (by omega) hb (fun φ1 f1 R1 => r_takesQ 7 (by omega) (by omega) R1 (fun z => absurd z hn.1) (fun _ φ2 f2 R2 g2 => ⟨fun _ => r_takesQ 8 (by omega) (by omega) R2 (fun z => absurd z hn.2) (fun _ φ3 f3 R3 g3 => ⟨fun _ => ⟨fun z => absurd R3.2.1 z, fun _ => ?_⟩, fun z => absurd rfl z⟩), fun z => absurd rfl z⟩))
  have F3 := (f1.tr f2).tr f3
  refine r_qHasSquare (RQ_w R F3 R3) (by omega) (fun w => ⟨fun z => by omega, fun _ => ?_⟩) (fun w => ⟨fun _ => ⟨fun _ => h0 w φ3 F3 R3, fun z => absurd rfl z⟩, fun z => absurd rfl z⟩)
  rw [g3]
  refine r_fail R3.2.1 (fun φ4 f4 F4 => ⟨fun _ => ?_, fun z => absurd rfl z⟩)
  have F : RFy φ4 1 p := ⟨⟨F4.1, by omega⟩, F4.2⟩
  exact kt_bad (RFy_5 F) (h1 w φ4 (F3.tr f4) F)
end QX
