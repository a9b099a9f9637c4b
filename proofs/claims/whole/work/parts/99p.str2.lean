/-! the words' text, read where the words are made -/
def chv (i : Nat) : Int := (wordsB.getD i 0).toInt
theorem chv_all : (List.range 152).all (fun i => decide (Int32.ofInt (chv i) &&& Int32.ofInt 255 = Int32.ofInt (chv i)) && (decide (((Int32.ofInt (chv i)).toUInt32 % 65536).toInt32 = Int32.ofInt (chv i)) && decide (0 ≤ chv i ∧ chv i < 128))) = true := by decide +kernel
theorem chv_k {i : Nat} (hi : i < 152) : Int32.ofInt (chv i) &&& Int32.ofInt 255 = Int32.ofInt (chv i) ∧ ((Int32.ofInt (chv i)).toUInt32 % 65536).toInt32 = Int32.ofInt (chv i) ∧ (0 ≤ chv i ∧ chv i < 128) := by
  have := List.all_eq_true.mp chv_all i (List.mem_range.mpr hi)
  simp only [Bool.and_eq_true, decide_eq_true_eq] at this
  exact this
section ST2
variable {d : Nat} {K : bK} {φ : aF} {α : aA} {i : Nat} {L S : List aV} {k : Nat × Nat} {Q : bQ} {pc pc' : Nat}
theorem q_coder : Sn d mJ0_coder_7d493 0 [(7, 0)] [] K φ α (some (0, 0)) := by
  refine s1_compact (pc' := 3) rfl (kJ0_coder_7d493_0 0 rfl) rfl ?_
  refine s1_if_eq (tg := 13) (pc' := 6) (by unfold inR; omega) (kJ0_coder_7d493_0 1 rfl) rfl rfl (fun z => absurd z (by decide)) (fun _ => ?_)
  refine s1_aload7 (x := 0) (pc' := 7) (kJ0_coder_7d493_0 2 rfl) rfl (fun _ _ _ => rfl) ?_
  refine s1_coder (pc' := 10) rfl (kJ0_coder_7d493_0 3 rfl) rfl ?_
  refine s1_goto (pc' := 14) (kJ0_coder_7d493_0 4 rfl) rfl ?_
  exact s1_ret inR0 (kJ0_coder_7d493_0 6 rfl) rfl rfl
theorem q_latin : Sn d mJ0_isLatin1_aae02 0 [(7, 0)] [] K φ α (some (0, 1)) := by
  refine s1_compact (pc' := 3) rfl (kJ0_isLatin1_aae02_0 0 rfl) rfl ?_
  refine s1_if_eq (tg := 17) (pc' := 6) (by unfold inR; omega) (kJ0_isLatin1_aae02_0 1 rfl) rfl rfl (fun z => absurd z (by decide)) (fun _ => ?_)
  refine s1_aload7 (x := 0) (pc' := 7) (kJ0_isLatin1_aae02_0 2 rfl) rfl (fun _ _ _ => rfl) ?_
  refine s1_coder (pc' := 10) rfl (kJ0_isLatin1_aae02_0 3 rfl) rfl ?_
  refine s1_if_ne (tg := 17) (pc' := 13) inR0 (kJ0_isLatin1_aae02_0 4 rfl) rfl rfl (fun z => absurd rfl z) (fun _ => ?_)
  refine s1_iconst (pc' := 14) 1 (kJ0_isLatin1_aae02_0 5 rfl) rfl ?_
  refine s1_goto (pc' := 18) (kJ0_isLatin1_aae02_0 6 rfl) rfl ?_
  exact s1_ret (by unfold inR; omega) (kJ0_isLatin1_aae02_0 8 rfl) rfl rfl
theorem q_length : Sn (d + 1) mJ0_length_8abf5 0 [(7, 0)] [] K φ α (some (0, 152)) := by
  refine s1_aload7 (x := 0) (pc' := 1) (kJ0_length_8abf5_0 0 rfl) rfl (fun _ _ _ => rfl) ?_
  refine s1_value (pc' := 4) rfl (kJ0_length_8abf5_0 1 rfl) rfl ?_
  refine s1_len (pc' := 5) (kJ0_length_8abf5_0 2 rfl) rfl ?_
  refine s1_aload7 (x := 0) (pc' := 6) (kJ0_length_8abf5_0 3 rfl) rfl (fun _ _ _ => rfl) ?_
  refine s1_callV (As := []) (S := [(0, 152)]) (pc' := 9) (kJ0_length_8abf5_0 4 rfl) rfl rfl nkJ0_coder_7d493 wm335 imJ0_coder_7d493 slJ0_coder_7d493 rfl (fun _ _ _ => Nat.le_of_ble_eq_true rfl) (fun _ _ _ => Nat.le_refl _) (fun v hv => by cases hv; rfl) q_coder ?_
  refine s1_ishr (v := 152) (pc' := 10) (S := []) rfl (kJ0_length_8abf5_0 5 rfl) rfl ?_
  exact s1_ret (by unfold inR; omega) (kJ0_length_8abf5_0 6 rfl) rfl rfl
theorem q_chk3 (hi : i < 152) : Sn d mJ3_checkIndex_8e157 0 [(0, (i : Int)), (0, 152), (9, 0)] [] K φ α (some (0, (i : Int))) := by
  have hr : inR (i : Int) := by unfold inR; omega
  refine s1_iload (x := i) (pc' := 1) (kJ3_checkIndex_8e157_0 0 rfl) rfl (fun _ _ _ => rfl) ?_
  refine s1_if_lt (tg := 9) (pc' := 4) hr (kJ3_checkIndex_8e157_0 1 rfl) rfl rfl (fun z => by omega) (fun _ => ?_)
  refine s1_iload (x := i) (pc' := 5) (kJ3_checkIndex_8e157_0 2 rfl) rfl (fun _ _ _ => rfl) ?_
  refine s1_iload (x := 152) (pc' := 6) (kJ3_checkIndex_8e157_0 3 rfl) rfl (fun _ _ _ => rfl) ?_
  refine s1_icmp_lt (tg := 16) (pc' := 9) hr (by unfold inR; omega) (kJ3_checkIndex_8e157_0 4 rfl) rfl rfl (fun _ => ?_) (fun z => by omega)
  refine s1_iload (x := i) (pc' := 17) (kJ3_checkIndex_8e157_0 10 rfl) rfl (fun _ _ _ => rfl) ?_
  exact s1_ret hr (kJ3_checkIndex_8e157_0 11 rfl) rfl rfl
theorem q_chk0 (hi : i < 152) : Sn (d + 1) mJ0_checkIndex_df160 0 [(0, (i : Int)), (0, 152)] [] K φ α none := by
  refine s1_iload (x := i) (pc' := 1) (kJ0_checkIndex_df160_0 0 rfl) rfl (fun _ _ _ => rfl) ?_
  refine s1_iload (x := 152) (pc' := 2) (kJ0_checkIndex_df160_0 1 rfl) rfl (fun _ _ _ => rfl) ?_
  refine s1_form (x := 0) (pc' := 5) rfl (kJ0_checkIndex_df160_0 2 rfl) rfl ?_
  refine s1_callS (As := [(0, (i : Int)), (0, 152), (9, 0)]) (S := []) (pc' := 8) (kJ0_checkIndex_df160_0 3 rfl) rfl rfl nkJ3_checkIndex_8e157 wm1059 scJ3_checkIndex_8e157 rfl (fun _ _ _ => Nat.le_of_ble_eq_true rfl) (fun _ _ t => by cases t <;> exact Nat.le_refl _) (fun v hv => by cases hv; rfl) (q_chk3 hi) ?_
  refine s1_pop (pc' := 9) (S := []) (kJ0_checkIndex_df160_0 4 rfl) rfl ?_
  exact s1_vret (kJ0_checkIndex_df160_0 5 rfl) rfl
theorem q_c1 (hi : i < 152) : Sn (d + 2) mJ1_charAt_3b067 0 [(8, 0), (0, (i : Int))] [] K φ α (some (0, chv i)) := by
  obtain ⟨c1, c2, c3⟩ := chv_k hi
  refine s1_iload (x := i) (pc' := 1) (kJ1_charAt_3b067_0 0 rfl) rfl (fun _ _ _ => rfl) ?_
  refine s1_aload8 (x := 0) (pc' := 2) (kJ1_charAt_3b067_0 1 rfl) rfl (fun _ _ _ => rfl) ?_
  refine s1_len (pc' := 3) (kJ1_charAt_3b067_0 2 rfl) rfl ?_
  refine s1_callS (As := [(0, (i : Int)), (0, 152)]) (S := []) (pc' := 6) (kJ1_charAt_3b067_0 3 rfl) rfl rfl nkJ0_checkIndex_df160 wm9 scJ0_checkIndex_df160 rfl (fun _ _ _ => Nat.le_of_ble_eq_true rfl) (fun _ _ _ => Nat.le_refl _) (fun v hv => by cases hv) (q_chk0 hi) ?_
  refine s1_aload8 (x := 0) (pc' := 7) (S := []) (kJ1_charAt_3b067_0 4 rfl) rfl (fun _ _ _ => rfl) ?_
  refine s1_iload (x := i) (pc' := 8) (kJ1_charAt_3b067_0 5 rfl) rfl (fun _ _ _ => rfl) ?_
  refine s1_bald (v := chv i) (pc' := 9) hi (Int32.ofInt_toInt _).symm (kJ1_charAt_3b067_0 6 rfl) rfl ?_
  refine s1_sipush (pc' := 12) 255 rfl (kJ1_charAt_3b067_0 7 rfl) rfl ?_
  refine s1_iand (v := chv i) (pc' := 13) c1 (kJ1_charAt_3b067_0 8 rfl) rfl ?_
  refine s1_i2c (pc' := 14) c2 (kJ1_charAt_3b067_0 9 rfl) rfl ?_
  refine s1_ret (by unfold inR; omega) (kJ1_charAt_3b067_0 10 rfl) rfl ?_
  show Value.int (((Int32.ofInt (chv i)).toUInt32 % 65536).toInt32) = _
  rw [c2]
theorem q_charAt (hi : i < 152) : Sn (d + 3) mJ0_charAt_5068e 0 [(7, 0), (0, (i : Int))] [] K φ α (some (0, chv i)) := by
  obtain ⟨c1, c2, c3⟩ := chv_k hi
  refine s1_aload7 (x := 0) (pc' := 1) (kJ0_charAt_5068e_0 0 rfl) rfl (fun _ _ _ => rfl) ?_
  refine s1_callV (As := []) (S := []) (pc' := 4) (kJ0_charAt_5068e_0 1 rfl) rfl rfl nkJ0_isLatin1_aae02 wm492 imJ0_isLatin1_aae02 slJ0_isLatin1_aae02 rfl (fun _ _ _ => Nat.le_of_ble_eq_true rfl) (fun _ _ _ => Nat.le_refl _) (fun v hv => by cases hv; rfl) q_latin ?_
  refine s1_if_eq (S := []) (x := 1) (tg := 16) (pc' := 7) (by unfold inR; omega) (kJ0_charAt_5068e_0 2 rfl) rfl rfl (fun z => absurd z (by decide)) (fun _ => ?_)
  refine s1_aload7 (x := 0) (pc' := 8) (kJ0_charAt_5068e_0 3 rfl) rfl (fun _ _ _ => rfl) ?_
  refine s1_value (pc' := 11) rfl (kJ0_charAt_5068e_0 4 rfl) rfl ?_
  refine s1_iload (x := i) (pc' := 12) (kJ0_charAt_5068e_0 5 rfl) rfl (fun _ _ _ => rfl) ?_
  refine s1_callS (As := [(8, 0), (0, (i : Int))]) (S := []) (pc' := 15) (kJ0_charAt_5068e_0 6 rfl) rfl rfl nkJ1_charAt_3b067 wm495 scJ1_charAt_3b067 rfl (fun _ _ _ => Nat.le_of_ble_eq_true rfl) (fun _ _ _ => Nat.le_refl _) (fun v hv => by cases hv; rfl) (q_c1 hi) ?_
  refine s1_ret (by unfold inR; omega) (kJ0_charAt_5068e_0 7 rfl) rfl ?_
  show Value.int (((Int32.ofInt (chv i)).toUInt32 % 65536).toInt32) = _
  rw [c2]
theorem wx21 : Cond.methodLink mX8_init.1.cls 21 mJ0_length_8abf5.1 ∈ lw_tbl := tb1 (List.mem_of_getElem? (i := 238) rfl)
theorem wx27 : Cond.methodLink mX8_init.1.cls 27 mJ0_charAt_5068e.1 ∈ lw_tbl := tb2 (List.mem_of_getElem? (i := 8) rfl)
theorem r_wlen (hd1 : decode mX8_init.2.1 pc = .ok (.ldc 19, 2)) (hd2 : decode mX8_init.2.1 (pc + 2) = .ok (.invokevirtual 21, 3)) (hp : pc + 5 = pc') (hc : catS S ≤ 8) (h : Rn (d + 5) mX8_init pc' L ((0, 152) :: S) K φ α k Q) : Rn (d + 5) mX8_init pc L S K φ α (0 + k.1, 0 + k.2) Q := by
  intro p l e R s m args below meth c D cA ad b base Ln xs H locs cells slots ls C Wo hS hL vL vS
  obtain ⟨g1, ⟨sa, sv, g2, g3⟩, g4, t, g5⟩ := C.2.2.2.2.2.2.2.2.2
  have hc1 := C.2.2.2.2.1.2.2.1
  have hc2 := C.2.2.2.2.1.2.2.2
  dsimp only at hc1 hc2
  refine va_ldcS C.1.1 C.1.2.1 (show s.vm.findClass "SpongeClerks$Tokens" = some m.cls from C.1.2.2.2.2) g2 hd1 ?_
  have hM := met_str (d := d + 4) nkJ0_length_8abf5 sa sv t (Nat.le_refl _) (q_length (d := d + 3) (K := K) (φ := φ) (α := α)) l D cA ad b base Ln xs
  exact r_back (d := d + 4) (k1 := (0, 0)) (k2 := k) (Q1 := eqQ (some (0, 152)) K φ α) C hS hL vL vS (show pc + 2 + 3 = pc' by omega) (va_runV (As := []) (C := "java/lang/String") ⟨C.1.1, C.1.2.1, C.1.2.2.2.1, C.1.2.2.2.2, C.2.1⟩ hM ⟨callB_s (k1 := (0, 0)) C nkJ0_length_8abf5 wx21, C.2.1 _ (hw imJ0_length_8abf5 rfl), C.2.1 _ (hw slJ0_length_8abf5 rfl)⟩ ⟨sPs.blind, vk_recv g3 (by omega) hS, fun U hU hW => ⟨rfl, sPs_of C g3 g5 Wo hS U hU hW⟩⟩ rfl rfl hL.1 rfl (by rw [catS_of]; simpa using hc) hd2 ⟨by omega, by omega⟩) (fun r K' φ' α' ⟨e1, e2, e3, e4⟩ => by subst e1 e2 e3 e4; exact h)
theorem r_wchr (hi : i < 152) (hl : L[4]? = some (0, (i : Int))) (hd1 : decode mX8_init.2.1 pc = .ok (.ldc 19, 2)) (hd3 : decode mX8_init.2.1 (pc + 2) = .ok (.iload 4, 2)) (hd2 : decode mX8_init.2.1 (pc + 2 + 2) = .ok (.invokevirtual 27, 3)) (hp : pc + 7 = pc') (hc : catS S ≤ 8) (h : Rn (d + 5) mX8_init pc' L ((0, chv i) :: S) K φ α k Q) : Rn (d + 5) mX8_init pc L S K φ α (0 + k.1, 0 + k.2) Q := by
  intro p l e R s m args below meth c D cA ad b base Ln xs H locs cells slots ls C Wo hS hL vL vS
  obtain ⟨g1, ⟨sa, sv, g2, g3⟩, g4, t, g5⟩ := C.2.2.2.2.2.2.2.2.2
  have hc1 := C.2.2.2.2.1.2.2.1
  have hc2 := C.2.2.2.2.1.2.2.2
  dsimp only at hc1 hc2
  refine va_ldcS C.1.1 C.1.2.1 (show s.vm.findClass "SpongeClerks$Tokens" = some m.cls from C.1.2.2.2.2) g2 hd1 ?_
  refine lv_iload (x := Int32.ofInt (i : Int)) C.1.1 C.1.2.1 hd3 (hL.2.2.2 4 _ hl (by omega)) ?_
  have hM := met_str (d := d + 4) nkJ0_charAt_5068e sa sv t (Nat.le_refl _) (q_charAt (d := d + 1) (K := K) (φ := φ) (α := α) hi) l D cA ad b base Ln xs
  exact r_back (d := d + 4) (k1 := (0, 0)) (k2 := k) (Q1 := eqQ (some (0, chv i)) K φ α) C hS hL vL vS (show pc + 2 + 2 + 3 = pc' by omega) (va_runV (As := [.int (Int32.ofInt (i : Int))]) (C := "java/lang/String") ⟨C.1.1, C.1.2.1, C.1.2.2.2.1, C.1.2.2.2.2, C.2.1⟩ hM ⟨callB_s (k1 := (0, 0)) C nkJ0_charAt_5068e wx27, C.2.1 _ (hw imJ0_charAt_5068e rfl), C.2.1 _ (hw slJ0_charAt_5068e rfl)⟩ ⟨sPs.blind, vk_recv g3 (by omega) hS, fun U hU hW => ⟨rfl, sPs_of C g3 g5 Wo hS U hU hW⟩⟩ rfl rfl hL.1 rfl (by rw [catS_of]; simpa using hc) hd2 ⟨by omega, by omega⟩) (fun r K' φ' α' ⟨e1, e2, e3, e4⟩ => by subst e1 e2 e3 e4; exact h)
-- small static methods, over any shape
theorem k_max {x y z : Int} (hz : max x y = z) : Rn d mJ9_max_7cf53 0 [(0, x), (0, y)] [] K φ α (0, 0) (eqQ (some (0, z)) K φ α) := by
  refine r_iload_n (pc' := 1) (kJ9_max_7cf53_0 0 rfl) rfl rfl ?_
  refine r_iload_n (pc' := 2) (kJ9_max_7cf53_0 1 rfl) rfl rfl ?_
  refine r_icmp_lt (t := 9) (pc' := 5) (kJ9_max_7cf53_0 2 rfl) rfl rfl (fun q => ?_) (fun q => ?_)
  · refine r_iload_n (pc' := 10) (kJ9_max_7cf53_0 5 rfl) rfl rfl ?_
    exact r_iret (kJ9_max_7cf53_0 6 rfl) rfl ⟨by rw [show y = z by omega], rfl, rfl, rfl⟩
  · refine r_iload_n (pc' := 6) (kJ9_max_7cf53_0 3 rfl) rfl rfl ?_
    refine r_goto (pc' := 10) (kJ9_max_7cf53_0 4 rfl) rfl ?_
    exact r_iret (kJ9_max_7cf53_0 6 rfl) rfl ⟨by rw [show x = z by omega], rfl, rfl, rfl⟩
theorem k_set {a x v : Int} (g : (K.2 a).1 = 20) (g2 : 0 ≤ x ∧ x < (K.2 a).2) : Rn d mX10_set 0 [(2, a), (0, x), (0, v)] [] K φ α (0, 0) (eqQ none K φ (upa α a x v)) := by
  refine r_iload_n (pc' := 1) (kX10_set_0 0 rfl) rfl rfl ?_
  refine r_if_lt (t := 14) (pc' := 4) (kX10_set_0 1 rfl) rfl rfl (fun q => by omega) (fun _ => ?_)
  refine r_iload_n (pc' := 5) (kX10_set_0 2 rfl) rfl rfl ?_
  refine r_aload_n (pc' := 6) (kX10_set_0 3 rfl) rfl rfl ?_
  refine r_alen (pc' := 7) (kX10_set_0 4 rfl) rfl (by omega) ?_
  refine r_icmp_ge (t := 14) (pc' := 10) (kX10_set_0 5 rfl) rfl rfl (fun q => by omega) (fun _ => ?_)
  refine r_aload_n (pc' := 11) (kX10_set_0 6 rfl) rfl rfl ?_
  refine r_iload_n (pc' := 12) (kX10_set_0 7 rfl) rfl rfl ?_
  refine r_iload_n (pc' := 13) (kX10_set_0 8 rfl) rfl rfl ?_
  refine r_iast (pc' := 14) (kX10_set_0 9 rfl) rfl g g2 ?_
  exact r_vret (x := 0) (kX10_set_0 10 rfl) rfl ⟨rfl, rfl, rfl, rfl⟩
theorem k_fill2 {a v : Int} {n : Nat} (g : K.2 a = (20, n)) (hn : n < 2147483647) : ∀ (r x : Nat) (α : aA), x + r = n → Rn d mX10_fill 2 [(2, a), (0, v), (0, (x : Int))] [] K φ α (0, 0) (eqQ none K φ (rg α a x n (fun _ => v)))
  | 0, x, α, hx => by
    rw [rg_end (by omega)]
    refine r_iload_n (pc' := 3) (kX10_fill_0 2 rfl) rfl rfl ?_
    refine r_aload_n (pc' := 4) (kX10_fill_0 3 rfl) rfl rfl ?_
    refine r_alen (pc' := 5) (kX10_fill_0 4 rfl) rfl (by rw [g]; exact ⟨by omega, by omega⟩) ?_
    refine r_icmp_ge (t := 18) (pc' := 8) (kX10_fill_0 5 rfl) rfl rfl (fun _ => ?_) (fun q => by rw [g] at q; dsimp only at q; omega)
    exact r_vret (x := 0) (kX10_fill_0 12 rfl) rfl ⟨rfl, rfl, rfl, rfl⟩
  | r + 1, x, α, hx => by
    refine r_iload_n (pc' := 3) (kX10_fill_0 2 rfl) rfl rfl ?_
    refine r_aload_n (pc' := 4) (kX10_fill_0 3 rfl) rfl rfl ?_
    refine r_alen (pc' := 5) (kX10_fill_0 4 rfl) rfl (by rw [g]; exact ⟨by omega, by omega⟩) ?_
    refine r_icmp_ge (t := 18) (pc' := 8) (kX10_fill_0 5 rfl) rfl rfl (fun q => by rw [g] at q; dsimp only at q; omega) (fun _ => ?_)
    refine r_aload_n (pc' := 9) (kX10_fill_0 6 rfl) rfl rfl ?_
    refine r_iload_n (pc' := 10) (kX10_fill_0 7 rfl) rfl rfl ?_
    refine r_iload_n (pc' := 11) (kX10_fill_0 8 rfl) rfl rfl ?_
    refine r_iast (pc' := 12) (kX10_fill_0 9 rfl) rfl (by rw [g]) (by rw [g]; dsimp only; omega) ?_
    refine r_iinc (L' := [(2, a), (0, v), (0, (x : Int) + 1)]) (pc' := 15) (kX10_fill_0 10 rfl) rfl (by decide) rfl (by unfold inR; omega) rfl ?_
    refine r_goto (pc' := 2) (kX10_fill_0 11 rfl) rfl ?_
    have := k_fill2 (v := v) g hn r (x + 1) (upa α a x v) (by omega)
    rw [show ((x + 1 : Nat) : Int) = (x : Int) + 1 by omega, rg_step (f := fun _ => v) (by omega)] at this
    exact this
theorem k_fill {a v : Int} {n : Nat} (g : K.2 a = (20, n)) (hn : n < 2147483647) : Rn d mX10_fill 0 [(2, a), (0, v), (9, 0)] [] K φ α (0, 0) (eqQ none K φ (rg α a 0 n (fun _ => v))) := by
  refine r_iconst 0 (pc' := 1) (kX10_fill_0 0 rfl) rfl inR0 ?_
  refine r_istore_n (L' := [(2, a), (0, v), (0, 0)]) (pc' := 2) (kX10_fill_0 1 rfl) rfl (by decide) rfl ?_
  exact k_fill2 g hn n 0 α (by omega)
end ST2
