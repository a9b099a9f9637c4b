/-! the reference reads a PART -/
section QV
variable {d N p o f : Nat} {φ φ' φ0 φ1 φ2 : aF} {α α' α0 α1 α2 : aA} {Q Q' : Int → aF → aA → Prop} {tk tg e v x x1 s w : Int} {T : Int → Int} {U V X Y C c : List Int}
theorem RFz_u {k pl : Int} {g : Nat} (hg : g ≠ 5 ∧ g ≠ 6 ∧ g ≠ 88 ∧ g ≠ 90) (F : RFz φ k pl) : RFz (upf φ 11 g 198 v) k pl := ⟨by rw [upf_o (by omega)]; exact F.1, by rw [upf_o (by omega)]; exact F.2.1, by rw [upf_o (by omega)]; exact F.2.2.1, by rw [upf_o (by omega)]; exact F.2.2.2⟩
theorem RFz_5 {k pl : Int} (F : RFz φ k pl) : φ 11 5 198 ≠ 0 := by rw [F.1.1]; exact F.1.2
theorem r_asksSignF (h5 : φ 11 5 198 ≠ 0) (h : Q' 0 φ α) : eX11_asksSign (d + 1) s φ α Q' := vX11_asksSign_0 ⟨fun _ => h, fun z => absurd z h5⟩
theorem r_asksF {n : Nat} (hc : isCA x n) (h5 : φ 11 5 198 ≠ 0) (h : Q' 0 φ α) : eX11_asks (d + 1) x φ α Q' := vX11_asks_0 hc ⟨fun _ => h, fun z => absurd z h5⟩
theorem r_qAsksWordF {k : Nat} (hk : k < 12) (hx : x = k) (h5 : φ 11 5 198 ≠ 0) (h : Q' 0 φ α) : eX11_qAsksWord (d + 4) x φ α Q' := by
  subst hx
  have go : ∀ (j : Nat) (a : Int), j < 12 → a = 239 + ((12 + j : Nat) : Int) → eX11_asks (d + 3) a φ α (fun r3 φ3 α3 => Q' 0 φ3 α3) := fun j a hj ha => r_asksF (caq (12 + j) (by omega) ha) h5 h
  exact vX11_qAsksWord_0 ⟨fun z => go 0 251 (by omega) (by omega), fun z => go 1 252 (by omega) (by omega), fun z => go 2 253 (by omega) (by omega), fun z => go 3 254 (by omega) (by omega), fun z => go 4 255 (by omega) (by omega), fun z => go 5 256 (by omega) (by omega), fun z => go 6 257 (by omega) (by omega), fun z => go 7 258 (by omega) (by omega), fun z => go 8 259 (by omega) (by omega), fun z => go 9 260 (by omega) (by omega), fun z => go 10 261 (by omega) (by omega), fun z => go 11 262 (by omega) (by omega)⟩
theorem ke_F {k pl : Int} (F : RFz φ k pl) (h : KF (d + 6) x1 Q φ α) : eX11_qEndsPart (d + 5) φ α (fun _ φ8 α8 => QPa (d + 6) x1 Q 0 φ8 α8) := vX11_qEndsPart_0 ⟨fun _ => ⟨fun _ => h, fun z => absurd z (RFz_5 F)⟩, fun z => absurd z (RFz_5 F)⟩
/-- min, max -/
theorem pr_go {G : aF → aA → Prop} {code : Int} (hw : w = 22 ∧ code = 21 ∨ w = 23 ∧ code = 22) (h3 : S3 d x1 Q φ0 α0 T N tk tg V f) (z : fz φ0 α0 φ α) (R : RQ T N tk V.length φ α p e (U ++ V) o C) (ho : o ≤ 6) (hl : C.length + (U ++ V).length ≤ p) (hf : 12 * (N - p) + 7 ≤ f) (hE : Er d x1 Q φ0 α0 (rPair T N (rd T N tg f) w o p e)) (hO : Ok5 d x1 Q φ0 α0 T N tk V U o C (rPair T N (rd T N tg f) w o p e))
    (hG : ∀ φ α, eX11_qOpens (d + 5) code (φ 11 2 198) φ α (fun _ φ' α' => eX11_asksSign (d + 5) 40 φ' α' (fun _ φ'' α'' => jX11_qPartTold_2 (d + 6) 1 φ'' α'' (QPa (d + 6) x1 Q))) → G φ α) : eX11_look (d + 5) φ α (fun r32 φ32 α32 => ((¬ r32 = 40 → (eX11_asksSign (d + 5) 40 φ32 α32 (fun r34 φ34 α34 => (jX11_qPartTold_2 (d + 6) 1 φ34 α34 (QPa (d + 6) x1 Q))))) ∧ (r32 = 40 → (((φ32 11 2 198) = (-1) → (eX11_asksSign (d + 5) 40 φ32 α32 (fun r36 φ36 α36 => (jX11_qPartTold_2 (d + 6) 1 φ36 α36 (QPa (d + 6) x1 Q))))) ∧ (¬ ((φ32 11 2 198) = (-1)) → G φ32 α32))))) := by
  obtain ⟨b1, b2, b3, b4, b5, b6, b7, b8, b9⟩ := kb
  have hN := R.1.1.1
  have hp := R.1.2.2.2.2.2.2
  have he := R.1.2.2.2.2.2.1
  refine r_look R.1 (fun φ1 f1 R1 g1 => ⟨fun q => ?_, fun q => ⟨fun q2 => by omega, fun _ => hG φ1 α ?_⟩⟩)
  · have ns : ¬ isS T N p 40 := fun w => q ((cF_s ⟨b1, by omega⟩).mpr w)
    refine r_asksSign ⟨b1, by omega⟩ R1 (fun w => absurd w ns) (fun _ φ2 f2 F2 => ?_)
    have F := RF_z R (by omega) (by omega) (f1.tr f2) F2
    exact kp_bad (RFz_5 F) (hE 1 p (by unfold rPair; rw [if_neg ns]) φ2 α (z.tr (fz_w (f1.tr f2))) F)
  · have hs : isS T N p 40 := (cF_s ⟨b1, by omega⟩).mp q
    rw [g1]
    refine r_qOpens (RQ_w R f1 R1) ho (by omega) (fun o6 φ2 α2 f2 R2 g2 => ?_) (fun o6 φ2 f2 F2 _ => ?_)
    · have a := av_bd (T := T) hp
      have ap := a.2.2 (by rw [hs.1]; omega)
      have u1 : rPair T N (rd T N tg f) w o p e = bnd (rd T N tg f 3 (o + 1) (avF T N p) (edF T N p e)) fun p1 e1 c1 => if isS T N p1 44 then bnd (rd T N tg f 3 (o + 1) (avF T N p1) (edF T N p1 e1)) (fun p2 e2 c2 => rEnd T N p2 e2 41 ((c1 ++ c2) ++ [w])) else .error (1, (p1 : Int)) := by unfold rPair; rw [if_pos hs, if_neg (by omega)]
      rw [u1] at hE hO
      refine r_asksSign ⟨b1, by omega⟩ R2.1 (fun _ φ3 f3 R3 => ?_) (fun w => absurd hs w)
      have l1 : (code :: U ++ V).length = (U ++ V).length + 1 := rfl
      have z3 : fz φ0 α0 φ3 α2 := ((z.tr (fz_w f1)).tr f2).tr (fz_w f3)
      refine h3 φ3 α2 _ _ (code :: U) (o + 1) C z3 (RQ_w R2 f3 R3) (by omega) (fun u hu => by cases hu; omega) (fun u hu => by cases hu; omega) (by rw [l1]; omega) (by omega) (er_b hE) (fun p1 e1 c1 w1 hn1 X1 C1 hX1 hc1 φ4 α4 z4 R4 => ?_)
      have g := rd_PG f 3 (o + 1) _ _ _ (ed_le hp he) a.2.1 w1
      have k1 := g.1
      have k2 := g.2.2.1
      have k3 := g.2.2.2 (by omega)
      have k4 := g.2.1
      dsimp only at k1 k2 k3 k4
      have lc := congrArg List.length hc1
      rw [List.length_append, List.length_append] at lc
      have hE1 := er_k hE w1
      refine kg_pair (U := U) R4 hX1 (by omega) (by rw [l1]; omega) hn1 (fun hs1 φ5 f5 F5 => hE1 1 p1 (by rw [if_neg hs1]) φ5 α4 (z4.tr (fz_w f5)) F5) (fun hs1 φ5 α5 f5 R5 => ?_)
      rw [if_pos hs1] at hE1
      have a1 := av_bd (T := T) k1
      have ap1 := a1.2.2 (by rw [hs1.1]; omega)
      have l2 : ((code + 2) :: U ++ V).length = (U ++ V).length + 1 := rfl
      refine h3 φ5 α5 _ _ ((code + 2) :: U) (o + 1) (C1 ++ X1) (z4.tr f5) R5 (by omega) (fun u hu => by cases hu; omega) (fun u hu => by cases hu; omega) (by rw [List.length_append, l2]; omega) (by omega) (er_b hE1) (fun p2 e2 c2 w2 hn2 X2 C2 hX2 hc2 φ6 α6 z6 R6 => ?_)
      have g' := rd_PG f 3 (o + 1) _ _ _ (ed_le k1 k4) a1.2.1 w2
      have m1 := g'.1
      have m2 := g'.2.2.1
      have m3 := g'.2.2.2 (by omega)
      dsimp only at m1 m2 m3
      have lc2 := congrArg List.length hc2
      rw [List.length_append, List.length_append, List.length_append] at lc2
      by_cases hs2 : isS T N p2 41
      · refine kg_close (U := U) R6 hX2 (by omega) (by omega) (by omega) hs2 (fun φ7 α7 f7 R7 => ?_)
        rw [if_neg (by omega)] at R7
        refine hO (avF T N p2) (edF T N p2 e2) (c1 ++ c2 ++ [w]) ?_ φ7 α7 (z6.tr f7) ?_
        · rw [bnd_ok w1, if_pos hs1, bnd_ok w2, rEnd, if_pos hs2]
        · have : C2 ++ X2 ++ [code + 2 - 1] = C ++ (c1 ++ c2 ++ [w]) := by
            rw [hc2, hc1, show code + 2 - 1 = w by omega]; simp
          rw [this] at R7
          exact R7
      · exact kg_open (U := U) R6 hX2 (by omega) (by rw [l2]; omega) hn2 hs2 (fun φ7 f7 F7 => er_k hE1 w2 1 p2 (by rw [rEnd, if_neg hs2]) φ7 α6 (z6.tr (fz_w f7)) F7)
    · exact r_asksSignF (RFz_5 F2) (kp_bad (RFz_5 F2) (hE 4 p (by unfold rPair; rw [if_pos hs, if_pos o6]) φ2 α (z.tr (fz_w (f1.tr f2))) F2))
theorem qh_hi (h2 : 10 ≤ qhF T N tk p e) : tk ≥ 2 ∧ (qhF T N tk p e = 10 ∧ isW T N p e 13 ∨ qhF T N tk p e = 11 ∧ isW T N p e 15) := by
  unfold qhF at h2 ⊢
  by_cases k1 : kdF T N p = 1 ∧ e ≠ p
  · rw [if_pos k1] at h2 ⊢
    by_cases q1 : wdF T N p = 13
    · rw [q1] at h2 ⊢
      by_cases q2 : tk < 2
      · simp [q2] at h2
      · refine ⟨by omega, Or.inl ⟨by simp [q2], k1.1, k1.2, q1⟩⟩
    · by_cases q3 : wdF T N p = 15
      · rw [q3] at h2 ⊢
        by_cases q2 : tk < 2
        · simp [q2] at h2
        · refine ⟨by omega, Or.inr ⟨by simp [q2], k1.1, k1.2, q3⟩⟩
      · exfalso
        rw [if_neg q1, if_neg q3] at h2
        repeat' (first | omega | split at h2)
  · rw [if_neg k1] at h2; omega
theorem qh_tau (h0 : 0 ≤ qhF T N tk p e) (h1 : qhF T N tk p e < 10) : kdF T N p = 1 ∧ e ≠ p ∧ tauF (wdF T N p) = 40 + qhF T N tk p e ∧ wdF T N p = (wqF (12 + (qhF T N tk p e).toNat) : Int) ∧ ((tk = 0 ∧ qhF T N tk p e < 7 ∨ tk = 1 ∧ (qhF T N tk p e < 4 ∨ qhF T N tk p e = 7) ∨ tk = 2 ∧ (qhF T N tk p e < 4 ∨ 7 < qhF T N tk p e)) → (tk = 0 ∧ tg = 7 ∨ tk = 1 ∧ tg = 8 ∨ tk = 2 ∧ tg = 26) → spk tg (wdF T N p)) := by
  by_cases k1 : kdF T N p = 1 ∧ e ≠ p
  · refine ⟨k1.1, k1.2, ?_⟩
    unfold qhF at h0 h1 ⊢
    rw [if_pos k1] at h0 h1 ⊢
    generalize wdF T N p = w at h0 h1 ⊢
    by_cases q1 : w = 10
    · subst q1; simp [tauF, wqF]; omega
    by_cases q2 : w = 4
    · subst q2; simp [tauF, wqF]; omega
    by_cases q3 : w = 11
    · subst q3; simp [tauF, wqF]; omega
    by_cases q4 : w = 12
    · subst q4; simp [tauF, wqF]; omega
    by_cases q5 : w = 13
    · subst q5
      by_cases q : tk < 2
      · simp [q, tauF, wqF]; omega
      · simp [q] at h1
    by_cases q6 : w = 14
    · subst q6; simp [tauF, wqF]; omega
    by_cases q7 : w = 1
    · subst q7; simp [tauF, wqF]; omega
    by_cases q8 : w = 15
    · subst q8
      by_cases q : tk < 2
      · simp [q, tauF, wqF]; omega
      · simp [q] at h1
    by_cases q9 : w = 16
    · subst q9; simp [tauF, wqF]; omega
    by_cases q10 : w = 17
    · subst q10; simp [tauF, wqF]; omega
    exfalso
    rw [if_neg q1, if_neg q2, if_neg q3, if_neg q4, if_neg q5, if_neg q6, if_neg q7, if_neg q8, if_neg q9, if_neg q10] at h0
    omega
  · unfold qhF at h0; rw [if_neg k1] at h0; omega
theorem spk_qh (ht : tk = 0 ∧ tg = 7 ∨ tk = 1 ∧ tg = 8 ∨ tk = 2 ∧ tg = 26) (k1 : kdF T N p = 1 ∧ e ≠ p) (h : spk tg (wdF T N p)) : 0 ≤ qhF T N tk p e ∧ qhF T N tk p e < 10 ∧ (tk = 0 ∧ qhF T N tk p e < 7 ∨ tk = 1 ∧ (qhF T N tk p e < 4 ∨ qhF T N tk p e = 7) ∨ tk = 2 ∧ (qhF T N tk p e < 4 ∨ 7 < qhF T N tk p e)) := by
  unfold qhF
  rw [if_pos k1]
  unfold spk at h
  rcases (show wdF T N p = 4 ∨ wdF T N p = 10 ∨ wdF T N p = 11 ∨ wdF T N p = 12 ∨ (tk = 0 ∧ (wdF T N p = 1 ∨ wdF T N p = 13 ∨ wdF T N p = 14)) ∨ (tk = 1 ∧ wdF T N p = 15) ∨ (tk = 2 ∧ (wdF T N p = 16 ∨ wdF T N p = 17)) by omega) with q | q | q | q | ⟨t, q | q | q⟩ | ⟨t, q⟩ | ⟨t, q | q⟩ <;> rw [q] <;> simp <;> omega
theorem hi_qh (k1 : kdF T N p = 1 ∧ e ≠ p) (ht : tk = 2) (h : wdF T N p = 13 ∨ wdF T N p = 15) : 10 ≤ qhF T N tk p e ∧ qhF T N tk p e < 12 := by
  unfold qhF
  rw [if_pos k1, ht]
  rcases h with q | q <;> rw [q] <;> simp
theorem s5_word (ht : tk = 0 ∧ tg = 7 ∨ tk = 1 ∧ tg = 8 ∨ tk = 2 ∧ tg = 26) (z : fz φ0 α0 φ α) (R : RQ T N tk V.length φ α p e (U ++ V) o C) (hl : C.length + (U ++ V).length ≤ p) (n40 : ¬ isS T N p 40) (W22 : ¬ isW T N p e 22) (W23 : ¬ isW T N p e 23) (nof : kdF T N p = 1 ∧ e ≠ p → ¬ (tg = 26 ∧ (wdF T N p = 13 ∨ wdF T N p = 15))) (hE : Er d x1 Q φ0 α0 (rPart T N tg (rd T N tg f) o p e)) (hO : Ok5 d x1 Q φ0 α0 T N tk V U o C (rPart T N tg (rd T N tg f) o p e)) : jX11_qPartTold_2 (d + 6) 0 φ α (QPa (d + 6) x1 Q) := by
  have hN := R.1.1.1
  have hp := R.1.2.2.2.2.2.2
  have hC : C.length ≤ 1600 := by omega
  refine vX11_qPartTold_2 ⟨fun _ => ⟨fun _ => r_qWordOf ht R.1 R.2.1 (fun w3 φ5 f5 R5 g5 hw3 hw3' => ⟨fun w4 => ?_, fun w4 => ?_⟩) (Int.le_refl _), fun w => absurd R.1.2.1 w⟩, fun w => absurd rfl w⟩
  · have z5 : fz φ0 α0 φ5 α := z.tr (fz_w f5)
    have RQ5 := RQ_w R f5 R5
    have ns := fun (k1 : kdF T N p = 1 ∧ e ≠ p) (w5 : spk tg (wdF T N p)) => hw3' w4 (spk_qh ht k1 w5)
    clear hw3 hw3'
    have bad : ∀ (k pl : Int) (φ6 : aF) (v : Int), k ≠ 0 → fw φ5 φ6 → RF φ6 k pl → rPart T N tg (rd T N tg f) o p e = .error (k, pl) → eX11_qCode (d + 5) v φ6 α (fun r7 φ7 α7 => (eX11_qEndsPart (d + 5) φ7 α7 (fun r8 φ8 α8 => (QPa (d + 6) x1 Q 0 φ8 α8)))) := fun k pl φ6 v hk f6 F6 he => by
      have F := RF_z RQ5 hC hk f6 F6
      have l88 : φ6 11 88 198 = C.length := by rw [f6 _ _ _ (by omega)]; exact RQ5.2.2.2.2.2.1
      exact r_qCodeF F (by omega) (fun φ7 α7 f7 F7 _ => ke_F F7 (hE k pl he φ7 α7 ((z5.tr (fz_w f6)).tr f7) F7))
    refine r_number R5 (fun hk hn hv φ6 f6 R6 _ => ?_) (fun hk hn hv => ?_) (fun hk hn φ6 f6 F6 => ⟨by unfold inR; omega, bad 1 _ φ6 _ (by omega) f6 F6 (by unfold rPart; rw [if_pos hk, if_neg hn])⟩) (fun hk φ6 f6 F6 => ⟨by unfold inR; omega, bad 1 _ φ6 _ (by omega) f6 F6 ?_⟩)
    · refine ⟨by unfold inR; omega, r_qCode (RQ_w RQ5 f6 R6) (by omega) (x := 1000 + vlF T N p) (by rw [tauF, if_pos (by omega)]) (fun φ7 α7 f7 R7 => ke_p (hO (avF T N p) (edF T N p e) [1000 + vlF T N p] (by unfold rPart; rw [if_pos hk, if_pos hn]) φ7 α7 ((z5.tr (fz_w f6)).tr f7) R7))⟩
    · exact absurd (vl_num hp hk.1) hv
    · unfold rPart
      rw [if_neg hk, if_neg n40]
      by_cases k1 : kdF T N p = 1 ∧ e ≠ p
      · rw [if_neg (by intro w; exact w k1), if_neg (by intro w; rcases w with w | w; (· exact W22 ⟨k1.1, k1.2, w⟩); (· exact W23 ⟨k1.1, k1.2, w⟩)), if_neg (nof k1), if_neg (ns k1)]
      · rw [if_pos k1]
  · obtain ⟨c1, c2, c3, c4⟩ := (show 0 ≤ w3 ∧ w3 < 10 ∧ w3 = qhF T N tk p e ∧ (tk = 0 ∧ qhF T N tk p e < 7 ∨ tk = 1 ∧ (qhF T N tk p e < 4 ∨ qhF T N tk p e = 7) ∨ tk = 2 ∧ (qhF T N tk p e < 4 ∨ 7 < qhF T N tk p e)) by
      rcases hw3 with w | ⟨wa, wb, wc, wd⟩
      · exact absurd w w4
      · exact ⟨wa, wb, wc, by rw [← wc]; exact wd⟩)
    clear hw3 hw3'
    obtain ⟨t1, t2, t3, t4, t5⟩ := qh_tau (tg := tg) (show 0 ≤ qhF T N tk p e by rw [← c3]; exact c1) (by rw [← c3]; exact c2)
    have sp := t5 c4 ht
    clear t5 c4
    have z5 : fz φ0 α0 φ5 α := z.tr (fz_w f5)
    have RQ5 := RQ_w R f5 R5
    refine r_qAsksWord (k := w3.toNat) (by omega) (by omega) R5 ⟨t1, t2, by rw [c3]; exact t4⟩ (fun φ6 f6 R6 => ⟨by unfold inR; omega, r_qCode (RQ_w RQ5 f6 R6) (by omega) (x := wdF T N p) (by rw [t3, c3]) (fun φ7 α7 f7 R7 => ke_p (hO (avF T N p) (edF T N p e) [wdF T N p] ?_ φ7 α7 ((z5.tr (fz_w f6)).tr f7) R7))⟩)
    unfold rPart
    rw [if_neg (by intro w; rw [t1] at w; exact absurd w.1 (by decide)), if_neg n40, if_neg (by intro w; exact w ⟨t1, t2⟩), if_neg (by intro w; rcases w with w | w; (· exact W22 ⟨t1, t2, w⟩); (· exact W23 ⟨t1, t2, w⟩)), if_neg (nof ⟨t1, t2⟩), if_pos sp]
theorem s5_of {wd : Int} (h5 : S5 d x1 Q φ0 α0 T N tk tg V f) (z : fz φ0 α0 φ α) (R : RQ T N tk V.length φ α p e (U ++ V) o C) (g : φ 11 2 198 = p) (ho : o ≤ 6) (hl : C.length + (U ++ V).length ≤ p) (hf : 12 * (N - p) ≤ f) (n40 : ¬ isS T N p 40) (h26 : tg = 26) (hW : isW T N p e wd) (hwd : wd = 13 ∧ x = 30 ∧ w = 10 ∨ wd = 15 ∧ x = 31 ∧ w = 11) (hE : Er d x1 Q φ0 α0 (rPart T N tg (rd T N tg f) o p e)) (hO : Ok5 d x1 Q φ0 α0 T N tk V U o C (rPart T N tg (rd T N tg f) o p e)) : inR (60 + w) ∧ inR ((60 + w) - 10) ∧ (eX11_qOpens (d + 5) ((60 + w) - 10) (φ 11 2 198) φ α (fun r55 φ55 α55 => (eX11_qAsksWord (d + 5) w φ55 α55 (fun r56 φ56 α56 => (jX11_qPartTold_2 (d + 6) 1 φ56 α56 (QPa (d + 6) x1 Q)))))) := by
  have hN := R.1.1.1
  have hp := R.1.2.2.2.2.2.2
  have he := R.1.2.2.2.2.2.1
  have a := av_bd (T := T) hp
  have ap := a.2.2 (by rw [hW.1]; omega)
  have hxw : tauF x = 60 + w - 10 := by rcases hwd with ⟨_, h, h'⟩ | ⟨_, h, h'⟩ <;> rw [h, h'] <;> rfl
  have u1 : rPart T N tg (rd T N tg f) o p e = if 6 ≤ o then .error (4, (p : Int)) else bnd (rd T N tg f 5 (o + 1) (avF T N p) (edF T N p e)) fun p1 e1 c1 => .ok (p1, e1, c1 ++ [x]) := by
    have hwx : (if wd = 13 then 30 else 31) = x := by rcases hwd with ⟨h, h', _⟩ | ⟨h, h', _⟩ <;> rw [h, h'] <;> rfl
    unfold rPart
    rw [if_neg (by rw [hW.1]; omega), if_neg n40, if_neg (by intro w; exact w ⟨hW.1, hW.2.1⟩), if_neg (by rw [hW.2.2]; omega), if_pos ⟨h26, by rw [hW.2.2]; omega⟩, hW.2.2, hwx]
  rw [u1] at hE hO
  rw [g]
  have wk : w.toNat < 12 ∧ w = (w.toNat : Int) := by omega
  have wq : (wqF (12 + w.toNat) : Int) = wd := by
    rcases hwd with ⟨h, _, h'⟩ | ⟨h, _, h'⟩
    · rw [show w.toNat = 10 by omega, h]; rfl
    · rw [show w.toNat = 11 by omega, h]; rfl
  refine ⟨by unfold inR; omega, by unfold inR; omega, r_qOpens R ho (by omega) (fun o6 φ5 α5 f5 R5 g5 => ?_) (fun o6 φ5 f5 F5 _ => ?_)⟩
  · rw [if_neg (by omega)] at hE hO
    refine r_qAsksWord wk.1 wk.2 R5.1 (by rw [wq]; exact hW) (fun φ6 f6 R6 => ?_)
    have l1 : (tauF x :: U ++ V).length = (U ++ V).length + 1 := rfl
    refine h5 φ6 α5 _ _ (tauF x :: U) (o + 1) C ((z.tr f5).tr (fz_w f6)) (by rw [hxw]; exact RQ_w R5 f6 R6) (by omega) (by rw [l1]; omega) (by omega) (er_b hE) (fun p1 e1 c1 q1 φ7 α7 z7 R7 => ?_)
    have g := rd_PG f 5 (o + 1) _ _ _ (ed_le hp he) a.2.1 q1
    have k1 := g.1
    have k2 := g.2.2.1
    dsimp only at k1 k2
    refine ke_of (U := U) R7 (by omega) ho (by rw [List.length_append]; omega) (fun φ8 α8 f8 R8 => hO p1 e1 (c1 ++ [x]) (by rw [bnd_ok q1]) φ8 α8 (z7.tr f8) (by rw [← List.append_assoc]; exact R8))
  · rw [if_pos o6] at hE
    exact r_qAsksWordF wk.1 wk.2 (RFz_5 F5) (kp_bad (RFz_5 F5) (hE 4 p rfl φ5 α (z.tr (fz_w f5)) F5))
theorem s5_par (h3 : S3 d x1 Q φ0 α0 T N tk tg V f) (z : fz φ0 α0 φ α) (R : RQ T N tk V.length φ α p e (U ++ V) o C) (g : φ 11 2 198 = p) (ho : o ≤ 6) (hl : C.length + (U ++ V).length ≤ p) (hf : 12 * (N - p) ≤ f) (hs : isS T N p 40) (hE : Er d x1 Q φ0 α0 (rPart T N tg (rd T N tg f) o p e)) (hO : Ok5 d x1 Q φ0 α0 T N tk V U o C (rPart T N tg (rd T N tg f) o p e)) : eX11_qOpens (d + 5) 20 (φ 11 2 198) φ α (fun r77 φ77 α77 => inR ((φ77 11 2 198) + 1) ∧ (jX11_qPartTold_2 (d + 6) 1 (upf φ77 11 2 198 ((φ77 11 2 198) + 1)) α77 (QPa (d + 6) x1 Q))) := by
  have hN := R.1.1.1
  have hp := R.1.2.2.2.2.2.2
  have he := R.1.2.2.2.2.2.1
  have a := av_bd (T := T) hp
  have ap := a.2.2 (by rw [hs.1]; omega)
  have u1 : rPart T N tg (rd T N tg f) o p e = if 6 ≤ o then .error (4, (p : Int)) else bnd (rd T N tg f 3 (o + 1) (avF T N p) (edF T N p e)) fun p1 e1 c1 => rEnd T N p1 e1 41 c1 := by
    unfold rPart
    rw [if_neg (by rw [hs.1]; omega), if_pos hs]
  rw [u1] at hE hO
  rw [g]
  have nx : nxF T N p = p + 1 := by unfold nxF; rw [if_pos hs.1]
  refine r_qOpens R ho (by omega) (fun o6 φ3 α3 f3 R3 g3 => ?_) (fun o6 φ3 f3 F3 g3 => ?_)
  · rw [if_neg (by omega)] at hE hO
    rw [g3, g]
    refine ⟨by unfold inR; omega, ?_⟩
    have R4 : RQ T N tk V.length (upf φ3 11 2 198 ((p : Int) + 1)) α3 (avF T N p) (edF T N p e) (20 :: U ++ V) (o + 1) C := RQ_w R3 (fw_u (by omega) fw.rf) (RLx_adv R3.1 (by rw [hs.1]; omega) (fw_u (by omega) fw.rf) (by rw [upf_s, nx]; omega) (by rw [upf_o (by omega), R3.1.2.2.1]; unfold edF; rw [if_pos hs.1]) (by rw [upf_o (by omega)]; exact R3.1.2.1))
    have l1 : (20 :: U ++ V).length = (U ++ V).length + 1 := rfl
    refine h3 _ α3 _ _ (20 :: U) (o + 1) C ((z.tr f3).tr (fz_u (by omega))) R4 (by omega) (fun u hu => by cases hu; omega) (fun u hu => by cases hu; omega) (by rw [l1]; omega) (by omega) (er_b hE) (fun p1 e1 c1 q1 hn1 X1 C1 hX1 hc1 φ7 α7 z7 R7 => ?_)
    have g := rd_PG f 3 (o + 1) _ _ _ (ed_le hp he) a.2.1 q1
    have k1 := g.1
    have k2 := g.2.2.1
    dsimp only at k1 k2
    have lc := congrArg List.length hc1
    rw [List.length_append, List.length_append] at lc
    by_cases hs2 : isS T N p1 41
    · refine kg_close (U := U) R7 hX1 (by omega) (by omega) (by omega) hs2 (fun φ8 α8 f8 R8 => ?_)
      rw [if_pos rfl, List.append_nil, hc1] at R8
      exact hO (avF T N p1) (edF T N p1 e1) c1 (by rw [bnd_ok q1, rEnd, if_pos hs2]) φ8 α8 (z7.tr f8) R8
    · exact kg_open (U := U) R7 hX1 (by omega) (by rw [l1]; omega) hn1 hs2 (fun φ8 f8 F8 => er_k hE q1 1 p1 (by rw [rEnd, if_neg hs2]) φ8 α7 (z7.tr (fz_w f8)) F8)
  · rw [if_pos o6] at hE
    rw [g3, g]
    have F4 : RFz (upf φ3 11 2 198 ((p : Int) + 1)) 4 p := RFz_u (by omega) F3
    exact ⟨by unfold inR; omega, kp_bad (RFz_5 F4) (hE 4 p rfl _ α ((z.tr (fz_w f3)).tr (fz_u (by omega))) F4)⟩
theorem s5 (ht : tk = 0 ∧ tg = 7 ∨ tk = 1 ∧ tg = 8 ∨ tk = 2 ∧ tg = 26) (h3 : S3 d x1 Q φ0 α0 T N tk tg V f) (h5 : S5 d x1 Q φ0 α0 T N tk tg V f) : S5 d x1 Q φ0 α0 T N tk tg V (f + 1) := by
  intro φ α p e U o C z R ho hl hf hE hO
  have b1 : kdB 40 = 3 ∧ (0 : Int) ≤ 40 := by decide
  have hN := R.1.1.1
  have hp := R.1.2.2.2.2.2.2
  have he := R.1.2.2.2.2.2.1
  have h47 := R.2.1
  rw [rd_5] at hE hO
  have a := av_bd (T := T) hp
  have hff : 12 * (N - p) ≤ f := by omega
  have hav : p < avF T N p → C.length + (U ++ V).length ≤ avF T N p ∧ 12 * (N - avF T N p) + 7 ≤ f := fun _ => by omega
  have t26 : tg = 26 → tk = 2 := by omega
  have t62 : 2 ≤ tk → tg = 26 := by omega
  refine vX11_qPartTold_2 ⟨fun w => by omega, fun _ => ⟨fun w => absurd R.1.2.1 w, fun _ => r_look R.1 (fun φ1 f1 R1 g1 => r_qWordOf ht R1 ((f1 _ _ _ (by omega)).trans h47) (fun w φ2 f2 R2 g2 hw hw' => ?_) (by decide))⟩⟩
  have hof : w = -1 → kdF T N p = 1 ∧ e ≠ p → ¬ (tg = 26 ∧ (wdF T N p = 13 ∨ wdF T N p = 15)) := fun w1 k1 w5 => by
    have t2 := t26 w5.1
    have := hi_qh (tk := tk) k1 t2 w5.2
    exact hw' w1 ⟨this.1, this.2, Or.inr (Or.inr ⟨t2, Or.inr (Int.lt_of_lt_of_le (by decide) this.1)⟩)⟩
  have hon : w ≠ -1 → tg = 26 ∧ ∃ wd x : Int, isW T N p e wd ∧ (wd = 13 ∧ x = 30 ∧ w = 10 ∨ wd = 15 ∧ x = 31 ∧ w = 11) := fun w1 => by
    rcases hw with wa | ⟨wa, wb, wc, _⟩
    · exact absurd wa w1
    · obtain ⟨t2, hh⟩ := qh_hi (T := T) (N := N) (tk := tk) (p := p) (e := e) (by rw [← wc]; exact wa)
      refine ⟨t62 t2, ?_⟩
      rcases hh with ⟨h1, h2⟩ | ⟨h1, h2⟩
      · exact ⟨13, 30, h2, Or.inl ⟨rfl, rfl, wc.trans h1⟩⟩
      · exact ⟨15, 31, h2, Or.inr ⟨rfl, rfl, wc.trans h1⟩⟩
  clear hw hw'
  have F2 : fw φ φ2 := f1.tr f2
  have RQ2 := RQ_w R F2 R2
  have z2 : fz φ0 α0 φ2 α := z.tr (fz_w F2)
  refine ⟨fun q => ?_, fun q => s5_par h3 z2 RQ2 g2 ho hl hff ((cF_s b1).mp q) hE hO⟩
  have n40 : ¬ isS T N p 40 := fun w => q ((cF_s b1).mpr w)
  have word : ∀ (wd : Int), isW T N p e wd → wd = 22 ∨ wd = 23 → rPart T N tg (rd T N tg f) o p e = rPair T N (rd T N tg f) wd o (avF T N p) (edF T N p e) := fun wd hW hd => by
    unfold rPart
    rw [if_neg (by rw [hW.1]; omega), if_neg n40, if_neg (by intro w; exact w ⟨hW.1, hW.2.1⟩), if_pos (by rw [hW.2.2]; exact hd), hW.2.2]
  refine r_ask 10 (by omega) (by omega) R2 (fun φ3 f3 R3 g3 => ?_)
  have z3 : fz φ0 α0 φ3 α := z2.tr (fz_w f3)
  have RQ3 := RQ_w RQ2 f3 R3
  by_cases W22 : isW T N p e 22
  · rw [if_pos (show isW T N p e (wqF 10) from W22)]
    refine ⟨fun _ => r_takesQ 10 (by omega) (by omega) R3 (fun _ φ4 f4 R4 => ⟨fun _ => ?_, fun w => by omega⟩) (fun w => absurd W22 w), fun w => by omega⟩
    have ap := a.2.2 (by rw [W22.1]; omega)
    rw [word 22 W22 (Or.inl rfl)] at hE hO
    exact pr_go (f := f) (tg := tg) (U := U) (G := fun φ32 α32 => _) (Or.inl ⟨rfl, rfl⟩) h3 (z3.tr (fz_w f4)) (RQ_w RQ3 f4 R4) ho (hav ap).1 (hav ap).2 hE hO (fun φ5 α5 w => ⟨fun w => by omega, fun _ => w⟩)
  · rw [if_neg (show ¬ isW T N p e (wqF 10) from W22)]
    refine ⟨fun w => absurd rfl w, fun _ => r_ask 11 (by omega) (by omega) R3 (fun φ4 f4 R4 g4 => ?_)⟩
    have z4 : fz φ0 α0 φ4 α := z3.tr (fz_w f4)
    have RQ4 := RQ_w RQ3 f4 R4
    by_cases W23 : isW T N p e 23
    · rw [if_pos (show isW T N p e (wqF 11) from W23)]
      refine ⟨fun w => by omega, fun _ => r_takesQ 10 (by omega) (by omega) R4 (fun w => absurd w W22) (fun _ φ5 f5 R5 g5 => ⟨fun w => absurd rfl w, fun _ => r_asksQ 11 (by omega) (by omega) R5 (fun _ φ6 f6 R6 => ?_) (fun w => absurd W23 w)⟩)⟩
      have ap := a.2.2 (by rw [W23.1]; omega)
      rw [word 23 W23 (Or.inr rfl)] at hE hO
      exact pr_go (f := f) (tg := tg) (U := U) (G := fun φ32 α32 => _) (Or.inr ⟨rfl, rfl⟩) h3 ((z4.tr (fz_w f5)).tr (fz_w f6)) (RQ_w RQ4 (f5.tr f6) R6) ho (hav ap).1 (hav ap).2 hE hO (fun φ5 α5 w => w)
    · rw [if_neg (show ¬ isW T N p e (wqF 11) from W23)]
      refine ⟨fun _ => ⟨fun w1 => s5_word ht z4 RQ4 hl n40 W22 W23 (hof w1) hE hO, fun w1 => ?_⟩, fun w => absurd rfl w⟩
      obtain ⟨h26, wd, x, hW, hh⟩ := hon w1
      exact s5_of h5 z4 RQ4 g4 ho hl hff n40 h26 hW hh hE hO
theorem s_all (ht : tk = 0 ∧ tg = 7 ∨ tk = 1 ∧ tg = 8 ∨ tk = 2 ∧ tg = 26) : ∀ f : Nat, S5 d x1 Q φ0 α0 T N tk tg V f ∧ S4 d x1 Q φ0 α0 T N tk tg V f ∧ S3 d x1 Q φ0 α0 T N tk tg V f ∧ S9 d x1 Q φ0 α0 T N tk tg V f ∧ S8 d x1 Q φ0 α0 T N tk tg V f
  | 0 => ⟨fun _ _ _ _ _ _ _ _ _ _ _ h => by omega, fun _ _ _ _ _ _ _ _ _ _ _ _ _ h => by omega, fun _ _ _ _ _ _ _ _ _ _ _ _ _ h => by omega, fun _ _ _ _ _ _ _ _ _ _ _ _ _ _ _ h => by omega, fun _ _ _ _ _ _ _ _ _ _ _ _ _ _ _ _ h => by omega⟩
  | f + 1 => by
    obtain ⟨h5, h4, h3, h9, h8⟩ := s_all ht f
    exact ⟨s5 ht h3 h5, s4 h5 h9, s3 h4 h8, s9 h5 h9, s8 h4 h8⟩
end QV
