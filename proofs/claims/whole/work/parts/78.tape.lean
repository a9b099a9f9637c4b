/-! the tape -/
theorem b255 : ∀ i : Nat, i < 32 → 8 ≤ i → (255#32).getLsbD i = false := by decide
theorem and255 {X Y : Int32} (h : ∀ i : Nat, i < 8 → X.toBitVec.getLsbD i = Y.toBitVec.getLsbD i) : X &&& Int32.ofInt 255 = Y &&& Int32.ofInt 255 := by
  apply Int32.toBitVec_inj.mp
  rw [Int32.toBitVec_and, Int32.toBitVec_and]
  apply BitVec.eq_of_getLsbD_eq
  intro i hi
  rw [BitVec.getLsbD_and, BitVec.getLsbD_and]
  by_cases h8 : i < 8
  · rw [h i h8]
  · have : (Int32.ofInt 255).toBitVec.getLsbD i = false := b255 i hi (by omega)
    rw [this, Bool.and_false, Bool.and_false]
theorem sh24 (X : Int32) : ∀ i : Nat, i < 8 → ((X.toUInt32 >>> ((Int32.ofInt 24).toUInt32 &&& Int32.toUInt32 31)).toInt32).toBitVec.getLsbD i = (X >>> (Int32.ofInt 24 &&& 31)).toBitVec.getLsbD i := by
  intro i hi
  have e1 : ((X.toUInt32 >>> ((Int32.ofInt 24).toUInt32 &&& Int32.toUInt32 31)).toInt32).toBitVec = X.toBitVec >>> (24 : Nat) := rfl
  have e2 : (X >>> (Int32.ofInt 24 &&& 31)).toBitVec = X.toBitVec.sshiftRight 24 := rfl
  have e3 : decide (32 ≤ i) = false := by simp; omega
  rw [e1, e2, BitVec.getLsbD_ushiftRight, BitVec.getLsbD_sshiftRight, if_pos (by omega), e3, Bool.not_false, Bool.true_and]
theorem sh16 (X : Int32) : ∀ i : Nat, i < 8 → ((X.toUInt32 >>> ((Int32.ofInt 16).toUInt32 &&& Int32.toUInt32 31)).toInt32).toBitVec.getLsbD i = (X >>> (Int32.ofInt 16 &&& 31)).toBitVec.getLsbD i := by
  intro i hi
  have e1 : ((X.toUInt32 >>> ((Int32.ofInt 16).toUInt32 &&& Int32.toUInt32 31)).toInt32).toBitVec = X.toBitVec >>> (16 : Nat) := rfl
  have e2 : (X >>> (Int32.ofInt 16 &&& 31)).toBitVec = X.toBitVec.sshiftRight 16 := rfl
  have e3 : decide (32 ≤ i) = false := by simp; omega
  rw [e1, e2, BitVec.getLsbD_ushiftRight, BitVec.getLsbD_sshiftRight, if_pos (by omega), e3, Bool.not_false, Bool.true_and]
theorem sh8 (X : Int32) : ∀ i : Nat, i < 8 → ((X.toUInt32 >>> ((Int32.ofInt 8).toUInt32 &&& Int32.toUInt32 31)).toInt32).toBitVec.getLsbD i = (X >>> (Int32.ofInt 8 &&& 31)).toBitVec.getLsbD i := by
  intro i hi
  have e1 : ((X.toUInt32 >>> ((Int32.ofInt 8).toUInt32 &&& Int32.toUInt32 31)).toInt32).toBitVec = X.toBitVec >>> (8 : Nat) := rfl
  have e2 : (X >>> (Int32.ofInt 8 &&& 31)).toBitVec = X.toBitVec.sshiftRight 8 := rfl
  have e3 : decide (32 ≤ i) = false := by simp; omega
  rw [e1, e2, BitVec.getLsbD_ushiftRight, BitVec.getLsbD_sshiftRight, if_pos (by omega), e3, Bool.not_false, Bool.true_and]
theorem sh0 (X : Int32) : X >>> (Int32.ofInt 0 &&& 31) = X := by
  apply Int32.toBitVec_inj.mp
  have e2 : (X >>> (Int32.ofInt 0 &&& 31)).toBitVec = X.toBitVec.sshiftRight 0 := rfl
  rw [e2, BitVec.sshiftRight_zero]
/-- byte r (0 the highest) of a number -/
def byt (x r : Int) : Int := iAnd (iShr x (8 * (3 - r))) 255
theorem iAnd255 (x : Int) : 0 ≤ iAnd x 255 ∧ iAnd x 255 ≤ 255 := by
  unfold iAnd
  have e : (Int32.ofInt x &&& Int32.ofInt 255).toInt = ((Int32.ofInt x).toBitVec &&& 255#32).toInt := rfl
  have h1 : ((Int32.ofInt x).toBitVec &&& 255#32).toNat ≤ 255 := by
    rw [BitVec.toNat_and]
    exact Nat.and_le_right
  rw [e, BitVec.toInt_eq_toNat_of_lt (by omega)]
  omega
theorem byt24 (x : Int) : iAnd (iUshr x 24) 255 = byt x 0 := by
  unfold byt iAnd iUshr iShr
  rw [ofInt_toInt, ofInt_toInt, show (8 : Int) * (3 - 0) = 24 by omega, and255 (sh24 (Int32.ofInt x))]
theorem byt16 (x : Int) : iAnd (iUshr x 16) 255 = byt x 1 := by
  unfold byt iAnd iUshr iShr
  rw [ofInt_toInt, ofInt_toInt, show (8 : Int) * (3 - 1) = 16 by omega, and255 (sh16 (Int32.ofInt x))]
theorem byt8 (x : Int) : iAnd (iUshr x 8) 255 = byt x 2 := by
  unfold byt iAnd iUshr iShr
  rw [ofInt_toInt, ofInt_toInt, show (8 : Int) * (3 - 2) = 8 by omega, and255 (sh8 (Int32.ofInt x))]
theorem byt0 (x : Int) : iAnd x 255 = byt x 3 := by
  unfold byt iAnd iShr
  rw [ofInt_toInt, show (8 : Int) * (3 - 3) = 0 by omega, sh0]
theorem byt_bd (x r : Int) : 0 ≤ byt x r ∧ byt x r ≤ 255 := iAnd255 _
def fdF (x1 x2 x3 x4 x5 j : Int) : Int := byt (if j < 4 then x1 else if j < 8 then x2 else if j < 12 then x3 else if j < 16 then x4 else x5) (j % 4)
section TP0
variable {j : Nat} {φ φ' : aF} {α α' : aA} {n M ns : Nat} {rm sr : Int → Int} {cs ct : List Int}
/-- calls change: tape and refusals alone -/
theorem Iv_T (I : Iv n M ns rm cs ct sr j φ α) (hf : ∀ c f o, ¬ (c = 6 ∧ o = 1) → ¬ (c = 11 ∧ f = 1) → φ' c f o = φ c f o) (ha : ∀ a : Int, a ≠ 2 → a ≠ 199 → α' a = α a) (hT : iT φ' α') : Inv sr (j + 1) φ' α' := by
  obtain ⟨i0, i1, i2, i3, i4, i5, i6, i7, i8, i9, i10, i11⟩ := I
  refine ⟨n, M, ns, rm, cs, ct, by rw [ha _ (by omega) (by omega)]; exact i0, hT, iF_of (hf _ _ _ (by omega) (by omega)) (hf _ _ _ (by omega) (by omega)) (hf _ _ _ (by omega) (by omega)) (hf _ _ _ (by omega) (by omega)) i2, iR_of (Nat.le_succ j) (ha _ (by omega) (by omega)) (ha _ (by omega) (by omega)) i3, iD_of (hf _ _ _ (by omega) (by omega)) (hf _ _ _ (by omega) (by omega)) i4, ⟨by rw [hf _ _ _ (by omega) (by omega)]; exact i5.1, by rw [hf _ _ _ (by omega) (by omega)]; exact i5.2.1, by rw [hf _ _ _ (by omega) (by omega)]; have := i5.2.2; omega⟩, iO_of (fun _ => hf _ _ _ (by omega) (by omega)) (hf _ _ _ (by omega) (by omega)) (hf _ _ _ (by omega) (by omega)) (hf _ _ _ (by omega) (by omega)) (fun x _ _ => ha _ (by omega) (by omega)) (fun x _ _ => ha _ (by omega) (by omega)) i6, iN_of (fun _ _ => hf _ _ _ (by omega) (by omega)) (fun x _ _ => ha _ (by omega) (by omega)) (ha _ (by omega) (by omega)) i7, iP_of (hf _ _ _ (by omega) (by omega)) (hf _ _ _ (by omega) (by omega)) (hf _ _ _ (by omega) (by omega)) (hf _ _ _ (by omega) (by omega)) (fun _ _ _ _ => hf _ _ _ (by omega) (by omega)) (fun x _ _ => ha _ (by omega) (by omega)) (ha _ (by omega) (by omega)) i8, iS_of (hf _ _ _ (by omega) (by omega)) (hf _ _ _ (by omega) (by omega)) (ha _ (by omega) (by omega)) (ha _ (by omega) (by omega)) i9, iC_of (hf _ _ _ (by omega) (by omega)) (hf _ _ _ (by omega) (by omega)) (ha _ (by omega) (by omega)) (ha _ (by omega) (by omega)) i10, iW_of (ha _ (by omega) (by omega)) (fun x _ _ => ha _ (by omega) (by omega)) (fun x _ _ => ha _ (by omega) (by omega)) i11⟩
end TP0
section TP
variable {d j : Nat} {φ φ' φ0 φ1 φ2 : aF} {α α' α0 α1 α2 : aA} {Q : Int → aF → aA → Prop} {x y z v s k x1 x2 x3 x4 x5 t : Int} {n M ns : Nat} {rm nw nw' nw0 sr : Int → Int} {cs ct : List Int}
theorem c_feedNumber (hs : 0 ≤ φ 6 1 1 ∧ φ 6 1 1 + 4 ≤ 1600) (h : ∀ φ' α', (∀ c f o, ¬ (c = 6 ∧ o = 1) → φ' c f o = φ c f o) → φ' 6 1 1 = φ 6 1 1 + 4 → (∀ a : Int, a ≠ 2 → α' a = α a) → (∀ i : Int, α' 2 i = if φ 6 1 1 ≤ i ∧ i < φ 6 1 1 + 4 then byt x (i - φ 6 1 1) else α 2 i) → Q 0 φ' α') : eX10_feedNumber (d + 1) x φ α Q := by
  have o : ∀ (φ : aF) (v : Int) (c f : Nat) (o : Int), ¬ (c = 6 ∧ o = 1) → upf φ 6 1 1 v c f o = φ c f o := fun φ v c f o q => upf_o (by omega)
  refine vX10_feedNumber_0 (c_put row1 (by omega) (c_put row1 (by rw [upf_s]; omega) (c_put row1 (by rw [upf_s, upf_s]; omega) (c_put row1 (by rw [upf_s, upf_s, upf_s]; omega) ?_))))
  simp only [upf_s]
  rw [byt24, byt16, byt8, byt0]
  refine h _ _ (fun c f o' q => by rw [o _ _ _ _ _ q, o _ _ _ _ _ q, o _ _ _ _ _ q, o _ _ _ _ _ q]) (by rw [upf_s]; omega) (fun a q => by rw [upa_fn (by omega), upa_fn (by omega), upa_fn (by omega), upa_fn (by omega)]) (fun i => ?_)
  show upa (upa (upa (upa α 2 _ _) 2 _ _) 2 _ _) 2 _ _ 2 i = _
  by_cases e3 : i = φ 6 1 1 + 1 + 1 + 1
  · subst e3; rw [upa_eq, if_pos (by omega), show φ 6 1 1 + 1 + 1 + 1 - φ 6 1 1 = 3 by omega]
  · rw [upa_ni e3]
    by_cases e2 : i = φ 6 1 1 + 1 + 1
    · subst e2; rw [upa_eq, if_pos (by omega), show φ 6 1 1 + 1 + 1 - φ 6 1 1 = 2 by omega]
    · rw [upa_ni e2]
      by_cases e1 : i = φ 6 1 1 + 1
      · subst e1; rw [upa_eq, if_pos (by omega), show φ 6 1 1 + 1 - φ 6 1 1 = 1 by omega]
      · rw [upa_ni e1]
        by_cases e0 : i = φ 6 1 1
        · subst e0; rw [upa_eq, if_pos (by omega), show φ 6 1 1 - φ 6 1 1 = 0 by omega]
        · rw [upa_ni e0, if_neg (by omega)]
theorem l_feed28 (h0 : 0 ≤ t ∧ t + 20 ≤ 1600) (h : ∀ φ' α', (∀ c f o, ¬ (c = 11 ∧ f = 1) → φ' c f o = φ0 c f o) → φ' 11 1 198 = t + 20 → (∀ a : Int, a ≠ 199 → α' a = α0 a) → (∀ i : Int, α' 199 i = if t ≤ i ∧ i < t + 20 then fdF x1 x2 x3 x4 x5 (i - t) else α0 199 i) → Q (t + 20) φ' α') : ∀ (r k : Nat), k + r = 20 → ∀ (φ : aF) (α : aA), (∀ c f o, ¬ (c = 11 ∧ f = 1) → φ c f o = φ0 c f o) → φ 11 1 198 = t + k → (∀ a : Int, a ≠ 199 → α a = α0 a) → (∀ i : Int, α 199 i = if t ≤ i ∧ i < t + k then fdF x1 x2 x3 x4 x5 (i - t) else α0 199 i) → jX11_feed_28 d x1 x2 x3 x4 x5 k φ α Q
  | 0, k, hk, φ, α, f, e, o, w => by
    have z : k = 20 := by omega
    subst z
    refine vX11_feed_28 ⟨fun _ => ?_, fun q => by omega⟩
    have := h φ α f e o w
    rw [e]
    exact this
  | r + 1, k, hk, φ, α, f, e, o, w => by
    have nx : ∀ z, z = fdF x1 x2 x3 x4 x5 k → inR (Int.tmod (k : Int) 4) ∧ inR (3 - (Int.tmod (k : Int) 4)) ∧ inR (8 * (3 - (Int.tmod (k : Int) 4))) ∧ (0 ≤ (φ 11 1 198) ∧ (φ 11 1 198) < (1600 : Nat)) ∧ inR ((φ 11 1 198) + 1) ∧ inR ((k : Int) + 1) ∧ (jX11_feed_28 d x1 x2 x3 x4 x5 ((k : Int) + 1) (upf φ 11 1 198 ((φ 11 1 198) + 1)) (upa α 199 (φ 11 1 198) z) Q) := by
      intro z hz
      rw [Int.tmod_eq_emod_of_nonneg (by omega)]
      refine ⟨by unfold inR; omega, by unfold inR; omega, by unfold inR; omega, by omega, by unfold inR; omega, by unfold inR; omega, ?_⟩
      have := l_feed28 h0 h r (k + 1) (by omega) (upf φ 11 1 198 ((φ 11 1 198) + 1)) (upa α 199 (φ 11 1 198) z) (fun c f' o' q => by rw [upf_o (by omega)]; exact f c f' o' q) (by rw [upf_s, e]; omega) (fun a q => by rw [upa_fn q]; exact o a q) (fun i => by
        rw [e]
        by_cases q : i = t + k
        · subst q; rw [upa_eq, if_pos (by omega), hz, show t + (k : Int) - t = k by omega]
        · rw [upa_ni q, w i]
          by_cases q2 : t ≤ i ∧ i < t + k
          · rw [if_pos q2, if_pos (by omega)]
          · rw [if_neg q2, if_neg (by omega)])
      rw [show ((k + 1 : Nat) : Int) = (k : Int) + 1 by omega] at this
      exact this
    have hb : ∀ y, y = (if (k : Int) < 4 then x1 else if (k : Int) < 8 then x2 else if (k : Int) < 12 then x3 else if (k : Int) < 16 then x4 else x5) → iAnd (iShr y (8 * (3 - (Int.tmod (k : Int) 4)))) 255 = fdF x1 x2 x3 x4 x5 k := fun y hy => by
      rw [Int.tmod_eq_emod_of_nonneg (by omega)]
      unfold fdF byt
      rw [← hy]
    refine vX11_feed_28 ⟨fun q => by omega, fun _ => ⟨fun q1 => ⟨fun q2 => ⟨fun q3 => ⟨fun q4 => nx _ (hb _ ?_), fun q4 => nx _ (hb _ ?_)⟩, fun q3 => nx _ (hb _ ?_)⟩, fun q2 => nx _ (hb _ ?_)⟩, fun q1 => nx _ (hb _ ?_)⟩⟩
    · rw [if_neg (by omega), if_neg (by omega), if_neg (by omega), if_neg (by omega)]
    · rw [if_neg (by omega), if_neg (by omega), if_neg (by omega), if_pos (by omega)]
    · rw [if_neg (by omega), if_neg (by omega), if_pos (by omega)]
    · rw [if_neg (by omega), if_pos (by omega)]
    · rw [if_pos (by omega)]
theorem p_feed (hj : j < 512) (I : Inv sr j φ α) : eX10_feed (d + 20) x1 x2 x3 x4 x5 φ α (fun r φ1 α1 => eX11_feed (d + 20) x1 x2 x3 x4 x5 φ1 α1 (pq sr j r)) := by
  obtain ⟨n, M, ns, rm, cs, ct, I⟩ := I
  obtain ⟨t1, t2, t3, t4⟩ := I.2.1
  refine vX10_feed_0 ⟨by unfold inR; omega, fun q => ?_, fun q => c_refuse hj I (by omega) (vX11_feed_0 ⟨by unfold inR; omega, fun w => by omega, fun _ => ⟨rfR hj I (by omega), rfl, Iv_r I (by omega)⟩⟩)⟩
  refine c_feedNumber (by omega) (fun φ1 α1 f1 s1 o1 w1 => c_feedNumber (by omega) (fun φ2 α2 f2 s2 o2 w2 => c_feedNumber (by omega) (fun φ3 α3 f3 s3 o3 w3 => c_feedNumber (by omega) (fun φ4 α4 f4 s4 o4 w4 => c_feedNumber (by omega) (fun φ5 α5 f5 s5 o5 w5 => ?_)))))
  have ff : ∀ c f o, ¬ (c = 6 ∧ o = 1) → φ5 c f o = φ c f o := fun c f o q => by rw [f5 c f o q, f4 c f o q, f3 c f o q, f2 c f o q, f1 c f o q]
  have fa : ∀ a : Int, a ≠ 2 → α5 a = α a := fun a q => by rw [o5 a q, o4 a q, o3 a q, o2 a q, o1 a q]
  have e1 : φ5 11 1 198 = φ 11 1 198 := ff _ _ _ (by omega)
  have sz : φ5 6 1 1 = φ 11 1 198 + 20 := by omega
  have cl : ∀ i : Int, α5 2 i = if φ 11 1 198 ≤ i ∧ i < φ 11 1 198 + 20 then fdF x1 x2 x3 x4 x5 (i - φ 11 1 198) else α 2 i := by
    intro i
    rw [w5 i, w4 i, w3 i, w2 i, w1 i]
    have q0 : φ 6 1 1 = φ 11 1 198 := t1
    have q1 : φ1 6 1 1 = φ 11 1 198 + 4 := by omega
    have q2 : φ2 6 1 1 = φ 11 1 198 + 8 := by omega
    have q3 : φ3 6 1 1 = φ 11 1 198 + 12 := by omega
    have q4 : φ4 6 1 1 = φ 11 1 198 + 16 := by omega
    rw [q4, q3, q2, q1, q0]
    unfold fdF
    by_cases h5 : φ 11 1 198 + 16 ≤ i ∧ i < φ 11 1 198 + 16 + 4
    · rw [if_pos h5, if_pos (by omega), if_neg (by omega), if_neg (by omega), if_neg (by omega), if_neg (by omega), show (i - φ 11 1 198) % 4 = i - (φ 11 1 198 + 16) by omega]
    · rw [if_neg h5]
      by_cases h4 : φ 11 1 198 + 12 ≤ i ∧ i < φ 11 1 198 + 12 + 4
      · rw [if_pos h4, if_pos (by omega), if_neg (by omega), if_neg (by omega), if_neg (by omega), if_pos (by omega), show (i - φ 11 1 198) % 4 = i - (φ 11 1 198 + 12) by omega]
      · rw [if_neg h4]
        by_cases h3 : φ 11 1 198 + 8 ≤ i ∧ i < φ 11 1 198 + 8 + 4
        · rw [if_pos h3, if_pos (by omega), if_neg (by omega), if_neg (by omega), if_pos (by omega), show (i - φ 11 1 198) % 4 = i - (φ 11 1 198 + 8) by omega]
        · rw [if_neg h3]
          by_cases h2 : φ 11 1 198 + 4 ≤ i ∧ i < φ 11 1 198 + 4 + 4
          · rw [if_pos h2, if_pos (by omega), if_neg (by omega), if_pos (by omega), show (i - φ 11 1 198) % 4 = i - (φ 11 1 198 + 4) by omega]
          · rw [if_neg h2]
            by_cases h1 : φ 11 1 198 ≤ i ∧ i < φ 11 1 198 + 4
            · rw [if_pos h1, if_pos (by omega), if_pos (by omega), show (i - φ 11 1 198) % 4 = i - φ 11 1 198 by omega]
            · rw [if_neg h1, if_neg (by omega)]
  rw [sz]
  refine vX11_feed_0 ⟨by rw [e1]; unfold inR; omega, fun _ => ?_, fun w => by omega⟩
  have := l_feed28 (d := d + 20) (x1 := x1) (x2 := x2) (x3 := x3) (x4 := x4) (x5 := x5) (t := φ 11 1 198) (φ0 := φ5) (α0 := α5) (Q := pq sr j (φ 11 1 198 + 20)) (by omega) (fun φ6 α6 f6 s6 o6 w6 => ⟨rfl, Iv_T I (fun c f o q1 q2 => by rw [f6 c f o q2]; exact ff c f o q1) (fun a q1 q2 => by rw [o6 a q2]; exact fa a q1) ⟨by rw [f6 _ _ _ (by omega), sz, s6], by omega, by omega, fun i q1 q2 => ?_⟩⟩) 20 0 rfl φ5 α5 (fun _ _ _ _ => rfl) (by rw [e1]; omega) (fun _ _ => rfl) (fun i => by rw [if_neg (by omega)])
  · exact this
  · rw [o6 2 (by omega), w6 i, cl i, fa 199 (by omega)]
    by_cases h : φ 11 1 198 ≤ i ∧ i < φ 11 1 198 + 20
    · rw [if_pos h, if_pos h]
      exact ⟨rfl, byt_bd _ _⟩
    · rw [if_neg h, if_neg h]
      exact t4 i q1 (by omega)
theorem p_end (hj : j < 512) (I : Inv sr j φ α) : eX10_end (d + 20) x φ α (fun r φ1 α1 => eX11_end (d + 20) x φ1 α1 (pq sr j r)) := by
  obtain ⟨n, M, ns, rm, cs, ct, I⟩ := I
  obtain ⟨t1, t2, t3, t4⟩ := I.2.1
  refine vX10_end_0 ⟨fun q => c_deny hj I (by omega) ⟨Or.inl rfl, vX11_end_0 ⟨fun _ => rd0 hj I (by omega), fun w => absurd q w⟩⟩, fun q => ⟨fun q2 => vX11_end_0 ⟨fun w => absurd w q, fun _ => ⟨fun _ => ⟨rfl, Iv_T I (fun c f o q1 q2 => by rw [upf_o (by omega), upf_o (by omega)]) (fun _ _ _ => rfl) ⟨by rw [upf_o (by omega), upf_s, upf_s], by rw [upf_s]; omega, by rw [upf_s]; omega, fun i q1 q2 => t4 i q1 (by rw [upf_s] at q2; omega)⟩⟩, fun w => ?_⟩⟩, fun q2 => c_deny hj I (by omega) ⟨Or.inl rfl, vX11_end_0 ⟨fun w => absurd w q, fun _ => ⟨fun w => by omega, fun _ => rd0 hj I (by omega)⟩⟩⟩⟩⟩
  rw [upf_o (by omega)] at w
  omega
end TP
