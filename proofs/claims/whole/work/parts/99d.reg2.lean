/-! the registry: names, read by the reference -/
section RN
variable {d N p f k : Nat} {φ φ' φ0 φ1 φ2 : aF} {α α' α0 α1 α2 : aA} {Q : Int → aF → aA → Prop} {x1 x2 e w s v a : Int} {T nm : Int → Int}
theorem hO1 (k : Nat) (hk : k < 24) (ha : a = 201 + (k : Int)) {X Y : aF → aA → Prop} (R : RLx T N φ α p e) (h1 : isW T N p e k → ∀ φ', fw φ φ' → RLx T N φ' α p e → φ' 11 2 198 = p → Y φ' α) (h0 : ¬ isW T N p e k → ∀ φ', fw φ φ' → RLx T N φ' α p e → φ' 11 2 198 = p → X φ' α) : eX11_isHere (d + 1) a φ α (fun r φ' α' => ((¬ r = 0 → Y φ' α') ∧ (r = 0 → X φ' α'))) := by
  refine r_own hk ha R (fun φ1 f1 R1 g1 => ?_)
  by_cases q : isW T N p e k
  · rw [if_pos q]; exact ⟨fun _ => h1 q φ1 f1 R1 g1, fun z => by omega⟩
  · rw [if_neg q]; exact ⟨fun z => absurd rfl z, fun _ => h0 q φ1 f1 R1 g1⟩
theorem hO2 (k : Nat) (hk : k < 24) (ha : a = 201 + (k : Int)) {X Y : aF → aA → Prop} (R : RLx T N φ α p e) (h1 : isW T N p e k → ∀ φ', fw φ φ' → RLx T N φ' α p e → φ' 11 2 198 = p → Y φ' α) (h0 : ¬ isW T N p e k → ∀ φ', fw φ φ' → RLx T N φ' α p e → φ' 11 2 198 = p → X φ' α) : eX11_isHere (d + 1) a φ α (fun r φ' α' => ((r = 0 → X φ' α') ∧ (¬ (r = 0) → Y φ' α'))) := by
  refine r_own hk ha R (fun φ1 f1 R1 g1 => ?_)
  by_cases q : isW T N p e k
  · rw [if_pos q]; exact ⟨fun z => by omega, fun _ => h1 q φ1 f1 R1 g1⟩
  · rw [if_neg q]; exact ⟨fun _ => h0 q φ1 f1 R1 g1, fun z => absurd rfl z⟩
theorem r_isOwnHere (R : RLx T N φ α p e) (k1 : kdF T N p = 1 ∧ e ≠ p) (h1 : (0 ≤ wdF T N p ∧ wdF T N p ≤ 23) → ∀ φ', fw φ φ' → RLx T N φ' α p e → φ' 11 2 198 = p → Q 1 φ' α) (h0 : ¬ (0 ≤ wdF T N p ∧ wdF T N p ≤ 23) → ∀ φ', fw φ φ' → RLx T N φ' α p e → φ' 11 2 198 = p → Q 0 φ' α) : eX11_isOwnHere (d + 2) φ α Q := by
  have yes : ∀ (i : Nat) (φ' : aF), i < 24 → isW T N p e i → fw φ φ' → RLx T N φ' α p e → φ' 11 2 198 = p → Q 1 φ' α := fun i φ' hi w f' R' g' => h1 (by have := w.2.2; rw [this]; omega) φ' f' R' g'
  refine vX11_isOwnHere_0 ?_
  have F0 : fw φ φ := fw.rf
  have R0 := R
  refine hO1 0 (by omega) (by omega) R0 (fun w φ' f' R' g' => yes 0 φ' (by omega) w (F0.tr f') R' g') (fun n0 φ1 f1 R1 g1 => ?_)
  have F1 : fw φ φ1 := F0.tr f1
  refine hO1 1 (by omega) (by omega) R1 (fun w φ' f' R' g' => yes 1 φ' (by omega) w (F1.tr f') R' g') (fun n1 φ2 f2 R2 g2 => ?_)
  have F2 : fw φ φ2 := F1.tr f2
  refine hO1 2 (by omega) (by omega) R2 (fun w φ' f' R' g' => yes 2 φ' (by omega) w (F2.tr f') R' g') (fun n2 φ3 f3 R3 g3 => ?_)
  have F3 : fw φ φ3 := F2.tr f3
  refine hO1 3 (by omega) (by omega) R3 (fun w φ' f' R' g' => yes 3 φ' (by omega) w (F3.tr f') R' g') (fun n3 φ4 f4 R4 g4 => ?_)
  have F4 : fw φ φ4 := F3.tr f4
  refine hO1 4 (by omega) (by omega) R4 (fun w φ' f' R' g' => yes 4 φ' (by omega) w (F4.tr f') R' g') (fun n4 φ5 f5 R5 g5 => ?_)
  have F5 : fw φ φ5 := F4.tr f5
  refine hO2 5 (by omega) (by omega) R5 (fun w φ' f' R' g' => yes 5 φ' (by omega) w (F5.tr f') R' g') (fun n5 φ6 f6 R6 g6 => ?_)
  have F6 : fw φ φ6 := F5.tr f6
  refine hO1 6 (by omega) (by omega) R6 (fun w φ' f' R' g' => yes 6 φ' (by omega) w (F6.tr f') R' g') (fun n6 φ7 f7 R7 g7 => ?_)
  have F7 : fw φ φ7 := F6.tr f7
  refine hO1 7 (by omega) (by omega) R7 (fun w φ' f' R' g' => yes 7 φ' (by omega) w (F7.tr f') R' g') (fun n7 φ8 f8 R8 g8 => ?_)
  have F8 : fw φ φ8 := F7.tr f8
  refine hO1 8 (by omega) (by omega) R8 (fun w φ' f' R' g' => yes 8 φ' (by omega) w (F8.tr f') R' g') (fun n8 φ9 f9 R9 g9 => ?_)
  have F9 : fw φ φ9 := F8.tr f9
  refine hO1 9 (by omega) (by omega) R9 (fun w φ' f' R' g' => yes 9 φ' (by omega) w (F9.tr f') R' g') (fun n9 φ10 f10 R10 g10 => ?_)
  have F10 : fw φ φ10 := F9.tr f10
  refine hO1 10 (by omega) (by omega) R10 (fun w φ' f' R' g' => yes 10 φ' (by omega) w (F10.tr f') R' g') (fun n10 φ11 f11 R11 g11 => ?_)
  have F11 : fw φ φ11 := F10.tr f11
  refine hO2 11 (by omega) (by omega) R11 (fun w φ' f' R' g' => yes 11 φ' (by omega) w (F11.tr f') R' g') (fun n11 φ12 f12 R12 g12 => ?_)
  have F12 : fw φ φ12 := F11.tr f12
  refine hO1 12 (by omega) (by omega) R12 (fun w φ' f' R' g' => yes 12 φ' (by omega) w (F12.tr f') R' g') (fun n12 φ13 f13 R13 g13 => ?_)
  have F13 : fw φ φ13 := F12.tr f13
  refine hO1 13 (by omega) (by omega) R13 (fun w φ' f' R' g' => yes 13 φ' (by omega) w (F13.tr f') R' g') (fun n13 φ14 f14 R14 g14 => ?_)
  have F14 : fw φ φ14 := F13.tr f14
  refine hO1 14 (by omega) (by omega) R14 (fun w φ' f' R' g' => yes 14 φ' (by omega) w (F14.tr f') R' g') (fun n14 φ15 f15 R15 g15 => ?_)
  have F15 : fw φ φ15 := F14.tr f15
  refine hO1 15 (by omega) (by omega) R15 (fun w φ' f' R' g' => yes 15 φ' (by omega) w (F15.tr f') R' g') (fun n15 φ16 f16 R16 g16 => ?_)
  have F16 : fw φ φ16 := F15.tr f16
  refine hO1 16 (by omega) (by omega) R16 (fun w φ' f' R' g' => yes 16 φ' (by omega) w (F16.tr f') R' g') (fun n16 φ17 f17 R17 g17 => ?_)
  have F17 : fw φ φ17 := F16.tr f17
  refine hO2 17 (by omega) (by omega) R17 (fun w φ' f' R' g' => yes 17 φ' (by omega) w (F17.tr f') R' g') (fun n17 φ18 f18 R18 g18 => ?_)
  have F18 : fw φ φ18 := F17.tr f18
  refine hO1 18 (by omega) (by omega) R18 (fun w φ' f' R' g' => yes 18 φ' (by omega) w (F18.tr f') R' g') (fun n18 φ19 f19 R19 g19 => ?_)
  have F19 : fw φ φ19 := F18.tr f19
  refine hO1 19 (by omega) (by omega) R19 (fun w φ' f' R' g' => yes 19 φ' (by omega) w (F19.tr f') R' g') (fun n19 φ20 f20 R20 g20 => ?_)
  have F20 : fw φ φ20 := F19.tr f20
  refine hO1 20 (by omega) (by omega) R20 (fun w φ' f' R' g' => yes 20 φ' (by omega) w (F20.tr f') R' g') (fun n20 φ21 f21 R21 g21 => ?_)
  have F21 : fw φ φ21 := F20.tr f21
  refine hO1 21 (by omega) (by omega) R21 (fun w φ' f' R' g' => yes 21 φ' (by omega) w (F21.tr f') R' g') (fun n21 φ22 f22 R22 g22 => ?_)
  have F22 : fw φ φ22 := F21.tr f22
  refine hO1 22 (by omega) (by omega) R22 (fun w φ' f' R' g' => yes 22 φ' (by omega) w (F22.tr f') R' g') (fun n22 φ23 f23 R23 g23 => ?_)
  have F23 : fw φ φ23 := F22.tr f23
  refine hO2 23 (by omega) (by omega) R23 (fun w φ' f' R' g' => yes 23 φ' (by omega) w (F23.tr f') R' g') (fun n23 φ24 f24 R24 g24 => ?_)
  have F24 : fw φ φ24 := F23.tr f24
  refine h0 (fun w => ?_) φ24 F24 R24 g24
  obtain ⟨i, hi⟩ : ∃ i : Nat, wdF T N p = (i : Int) := ⟨(wdF T N p).toNat, by omega⟩
  have i24 : i < 24 := by have := w.2; rw [hi] at this; omega
  have all : ∀ i : Nat, i < 24 → ¬ isW T N p e i := by
    intro i hi
    rcases (show i = 0 ∨ i = 1 ∨ i = 2 ∨ i = 3 ∨ i = 4 ∨ i = 5 ∨ i = 6 ∨ i = 7 ∨ i = 8 ∨ i = 9 ∨ i = 10 ∨ i = 11 ∨ i = 12 ∨ i = 13 ∨ i = 14 ∨ i = 15 ∨ i = 16 ∨ i = 17 ∨ i = 18 ∨ i = 19 ∨ i = 20 ∨ i = 21 ∨ i = 22 ∨ i = 23 by omega) with rfl | rfl | rfl | rfl | rfl | rfl | rfl | rfl | rfl | rfl | rfl | rfl | rfl | rfl | rfl | rfl | rfl | rfl | rfl | rfl | rfl | rfl | rfl | rfl
    · exact n0
    · exact n1
    · exact n2
    · exact n3
    · exact n4
    · exact n5
    · exact n6
    · exact n7
    · exact n8
    · exact n9
    · exact n10
    · exact n11
    · exact n12
    · exact n13
    · exact n14
    · exact n15
    · exact n16
    · exact n17
    · exact n18
    · exact n19
    · exact n20
    · exact n21
    · exact n22
    · exact n23
  exact all i i24 ⟨k1.1, k1.2, hi⟩
theorem l_name58 (hp : p ≤ N) (hk : kdF T N p = 1) (R0 : RLx T N φ0 α p e) (h1 : nxF T N p - p ≤ 6 → ∀ φ', fw φ0 φ' → RLx T N φ' α (avF T N p) (edF T N p e) → φ' 11 35 198 = p → Q (vlF T N p) φ' α) (h3 : ¬ nxF T N p - p ≤ 6 → ∀ φ', fw φ0 φ' → RF φ' 1 ((p : Int) + 6) → Q 0 φ' α) : ∀ (r m : Nat), p + m + r = nxF T N p → m ≤ 6 → ∀ (φ : aF), fw φ0 φ → φ 11 2 198 = ((p + m : Nat) : Int) → φ 11 5 198 = 0 → φ 11 6 198 = φ0 11 6 198 → φ 11 35 198 = p → jX11_name_58 (d + 1) (vwF T p m) φ α Q := by
  obtain ⟨a1, a2⟩ := nx_all (Or.inl hk)
  have nb := nx_bd (T := T) hp
  have hN := R0.1.1
  intro r
  induction r with
  | zero =>
    intro m hm hm4 φ f g2 g5 g6 g35
    have g3 : φ 11 3 198 = N := (f _ _ _ (by omega)).trans R0.1.2.1
    have v : vlF T N p = vwF T p m := by unfold vlF; rw [if_pos hk, show min 6 (nxF T N p - p) = m by omega]
    rw [v] at h1
    have ff := fw_u (f := 4) (v := φ 11 2 198) (by omega) f
    have fin : Q (vwF T p m) (upf φ 11 4 198 (φ 11 2 198)) α := h1 (by omega) _ ff (RLx_adv R0 (by omega) ff (by rw [upf_o (by omega), g2]; omega) (by rw [upf_s, g2]; unfold edF; rw [if_neg (by omega)]; omega) (by rw [upf_o (by omega)]; exact g5) (by rw [upf_o (by omega)]; exact g6)) (by rw [upf_o (by omega)]; exact g35)
    refine vX11_name_58 ⟨fun _ => fin, fun q => ⟨by omega, r_isLetter ?_⟩⟩
    rw [show α 199 (φ 11 2 198) = T (nxF T N p) by rw [g2, show ((p + m : Nat) : Int) = (nxF T N p : Nat) by omega]; exact (R0.1.2.2 _ (by omega)).1, if_neg (by
      intro w
      have b := kdB_bd (T (nxF T N p))
      exact a2 ⟨by omega, by omega⟩)]
    exact ⟨fun _ => fin, fun z => absurd rfl z⟩
  | succ r ih =>
    intro m hm hm4 φ f g2 g5 g6 g35
    have g3 : φ 11 3 198 = N := (f _ _ _ (by omega)).trans R0.1.2.1
    have k' := a1 (p + m) (by omega) (by omega)
    have b := kdB_bd (T ((p + m : Nat) : Int))
    have vb := vw_bd (T := T) (p := p) (m := m) (fun i hi => by
      have k' := a1 (p + i) (by omega) (by omega)
      have b' := kdB_bd (T ((p + i : Nat) : Int))
      omega)
    have p4 : (27 : Nat) ^ m ≤ 27 ^ 6 := Nat.pow_le_pow_right (by omega) hm4
    have t := R0.1.2.2 (p + m) k'.1
    have te : α 199 (φ 11 2 198) = T ((p + m : Nat) : Int) := by rw [g2]; exact t.1
    refine vX11_name_58 ⟨fun q => by omega, fun _ => ⟨by omega, r_isLetter ?_⟩⟩
    rw [te, if_pos (by omega)]
    refine ⟨fun z => by omega, fun _ => ⟨by unfold inR; omega, fun q => ⟨by unfold inJ; omega, by omega, by unfold inJ; omega, by unfold inJ; omega, by unfold inJ; omega, by unfold inR; omega, ih (m + 1) (by omega) (by omega) _ (fw_u (by omega) f) (by rw [upf_s, g2]; omega) (by rw [upf_o (by omega)]; exact g5) (by rw [upf_o (by omega)]; exact g6) (by rw [upf_o (by omega)]; exact g35)⟩, fun q => ?_⟩⟩
    rw [show φ 11 2 198 = (p : Int) + 6 by omega]
    exact r_fail g5 (fun φ2 f2 F2 => h3 (by omega) φ2 (f.tr f2) F2)
theorem r_name (R : RLx T N φ α p e) (h1 : okN T N p e → nxF T N p - p ≤ 6 → ∀ φ', fw φ φ' → RLx T N φ' α (avF T N p) (edF T N p e) → φ' 11 35 198 = p → Q (vlF T N p) φ' α) (h0 : ∀ k pl, rNam T N p e = .error (k, pl) → k ≠ 0 → ∀ φ', fw φ φ' → RF φ' k pl → Q 0 φ' α) : eX11_name (d + 3) φ α Q := by
  unfold rNam at h0
  refine vX11_name_0 ⟨fun _ => r_look R (fun φ1 f1 R1 g2 => r_isLetter ?_), fun z => absurd R.2.1 z⟩
  have k1 := cF_k1 R1
  have hp := R1.2.2.2.2.2.2
  have nb := nx_bd (T := T) hp
  by_cases q1 : kdF T N p = 1
  · rw [if_pos (k1.mpr q1)]
    refine ⟨fun z => by omega, fun _ => ?_⟩
    rw [g2, R1.2.2.1]
    refine ⟨fun q2 => r_fail R1.2.1 (fun φ2 f2 F2 => h0 1 p (by rw [if_neg (fun z => z.1.2 q2.symm)]) (by omega) φ2 (f1.tr f2) F2), fun q2 => ?_⟩
    have ne : e ≠ p := fun z => q2 z.symm
    refine r_isOwnHere R1 ⟨q1, ne⟩ (fun w φ2 f2 R2 g3 => ⟨fun z => by omega, fun _ => ?_⟩) (fun w φ2 f2 R2 g3 => ⟨fun _ => ?_, fun z => absurd rfl z⟩)
    · rw [g3]
      exact r_fail R2.2.1 (fun φ3 f3 F3 => h0 1 p (by rw [if_neg (fun z => z.2 w)]) (by omega) φ3 ((f1.tr f2).tr f3) F3)
    · have hok : okN T N p e := ⟨⟨q1, ne⟩, w⟩
      rw [if_pos hok] at h0
      have F2 := f1.tr f2
      have := l_name58 (d := d + 2) (Q := Q) hp q1 R2 (fun w1 φ3 f3 R3 g35 => h1 hok w1 φ3 (F2.tr f3) R3 g35) (fun w1 φ3 f3 F3 => h0 1 _ (by rw [if_neg w1]) (by omega) φ3 (F2.tr f3) F3) (nxF T N p - p) 0 (by omega) (by omega) (upf φ2 11 35 198 (φ2 11 2 198)) (fw_u (by omega) fw.rf) (by rw [upf_o (by omega), g3]; rfl) (by rw [upf_o (by omega)]; exact R2.2.1) (upf_o (by omega)) (by rw [upf_s, g3])
      exact this
  · rw [if_neg (fun z => q1 (k1.mp z)), g2]
    exact ⟨fun _ => r_fail R1.2.1 (fun φ2 f2 F2 => h0 1 p (by rw [if_neg (fun z => q1 z.1.1)]) (by omega) φ2 (f1.tr f2) F2), fun z => absurd rfl z⟩
/-- behind a fault nothing is asked for -/
theorem r_nameF (h5 : φ 11 5 198 ≠ 0) (h : Q 0 φ α) : eX11_name (d + 1) φ α Q := vX11_name_0 ⟨fun z => absurd z h5, fun _ => h⟩
theorem r_numberF (h5 : φ 11 5 198 ≠ 0) (h : Q 0 φ α) : eX11_number (d + 1) x1 x2 φ α Q := vX11_number_0 ⟨fun z => absurd z h5, fun _ => h⟩
end RN
