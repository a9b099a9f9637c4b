section QT
variable {d N p o : Nat} {φ φ' φ0 φ1 φ2 : aF} {α α' α0 α1 α2 : aA} {Q Q' : Int → aF → aA → Prop} {tk tg e v x x1 s : Int} {T : Int → Int} {U V X Y C : List Int}
/-- the tail of qGoesOn: * or / -/
theorem tl_mul (R : RQ T N tk V.length φ α p e (X.map tauF ++ (U ++ V)) o C) (hX : ∀ y ∈ X, arM y) (hU : ∀ u ∈ (U ++ V).head?, u ≠ 3 ∧ u ≠ 4) (hl : C.length + (X.length + (U ++ V).length) ≤ 1600) (hs : isS T N p 42 ∨ isS T N p 47) (h : ∀ φ' α', RQ T N tk V.length φ' α' (avF T N p) (edF T N p e) (tauF (T p) :: (U ++ V)) o (C ++ X) → fz φ α φ' α' → Q' 1 φ' α') : TLq (d + 5) φ α Q' := by
  obtain ⟨b1, b2, b3, b4, b5, b6, b7, b8, b9⟩ := kb
  have fin : ∀ (φ1 : aF) (op : Int), fw φ φ1 → RLx T N φ1 α (avF T N p) (edF T N p e) → op = tauF (T p) → jX11_qGoesOn_162 (d + 6) op φ1 α Q' := fun φ1 op f1 R1 ho => by
    subst ho
    exact l_162 (d := d) (φ0 := φ) (α0 := α) (C := C) (X := X) (fun φ' α' C' R' f' hc => h φ' α' (by rw [← hc]; exact R') f') hU X hX φ1 α C (RQ_w R f1 R1) (by omega) rfl (fz_w f1)
  by_cases s1 : isS T N p 42
  · refine r_takesSign ⟨b3, by omega⟩ R.1 (fun _ φ1 f1 R1 g1 => ⟨fun _ => ?_, fun z => by omega⟩) (fun z => absurd s1 z)
    obtain ⟨c1, c2, c3⟩ := at_1 R1 s1 g1
    rw [c3]
    exact ⟨c1, c2, fun z => absurd rfl z, fun _ => fin φ1 3 f1 R1 (by rw [s1.2]; rfl)⟩
  · have s2 : isS T N p 47 := by rcases hs with w | w; (· exact absurd w s1); (· exact w)
    refine r_takesSign ⟨b3, by omega⟩ R.1 (fun z => absurd z s1) (fun _ φ1 f1 R1 g1 => ⟨fun z => absurd rfl z, fun _ => r_takesSign ⟨b7, by omega⟩ R1 (fun _ φ2 f2 R2 g2 => ⟨fun z => by omega, fun _ => ?_⟩) (fun z => absurd s2 z)⟩)
    obtain ⟨c1, c2, c3⟩ := at_1 R2 s2 g2
    rw [c3]
    exact ⟨c1, c2, fun _ => fin φ2 4 (f1.tr f2) R2 (by rw [s2.2]; rfl), fun z => by omega⟩
theorem tl_add (R : RQ T N tk V.length φ α p e (X.map tauF ++ (U ++ V)) o C) (hX : ∀ y ∈ X, arA y) (hU : ∀ u ∈ (U ++ V).head?, u ≠ 1 ∧ u ≠ 2 ∧ u ≠ 3 ∧ u ≠ 4) (hl : C.length + (X.length + (U ++ V).length) ≤ 1600) (hs : isS T N p 43 ∨ isS T N p 45) (h : ∀ φ' α', RQ T N tk V.length φ' α' (avF T N p) (edF T N p e) (tauF (T p) :: (U ++ V)) o (C ++ X) → fz φ α φ' α' → Q' 1 φ' α') : TLq (d + 5) φ α Q' := by
  obtain ⟨b1, b2, b3, b4, b5, b6, b7, b8, b9⟩ := kb
  have n1 : ¬ isS T N p 42 := fun z => by have := z.2; rcases hs with w | w <;> have := w.2 <;> omega
  have n2 : ¬ isS T N p 47 := fun z => by have := z.2; rcases hs with w | w <;> have := w.2 <;> omega
  have fin : ∀ (φ1 : aF) (op : Int), fw φ φ1 → RLx T N φ1 α (avF T N p) (edF T N p e) → op = tauF (T p) → jX11_qGoesOn_247 (d + 6) op φ1 α Q' := fun φ1 op f1 R1 ho => by
    subst ho
    exact l_247 (d := d) (φ0 := φ) (α0 := α) (C := C) (X := X) (fun φ' α' C' R' f' hc => h φ' α' (by rw [← hc]; exact R') f') hU X hX φ1 α C (RQ_w R f1 R1) (by omega) rfl (fz_w f1)
  refine r_takesSign ⟨b3, by omega⟩ R.1 (fun z => absurd z n1) (fun _ φ1 f1 R1 g1 => ⟨fun z => absurd rfl z, fun _ => r_takesSign ⟨b7, by omega⟩ R1 (fun z => absurd z n2) (fun _ φ2 f2 R2 g2 => ⟨fun _ => ?_, fun z => absurd rfl z⟩)⟩)
  by_cases s1 : isS T N p 43
  · refine r_takesSign ⟨b4, by omega⟩ R2 (fun _ φ3 f3 R3 g3 => ⟨fun _ => ?_, fun z => by omega⟩) (fun z => absurd s1 z)
    obtain ⟨c1, c2, c3⟩ := at_1 R3 s1 g3
    rw [c3]
    exact ⟨c1, c2, fun z => absurd rfl z, fun _ => fin φ3 1 ((f1.tr f2).tr f3) R3 (by rw [s1.2]; rfl)⟩
  · have s2 : isS T N p 45 := by rcases hs with w | w; (· exact absurd w s1); (· exact w)
    refine r_takesSign ⟨b4, by omega⟩ R2 (fun z => absurd z s1) (fun _ φ3 f3 R3 g3 => ⟨fun z => absurd rfl z, fun _ => r_takesSign ⟨b6, by omega⟩ R3 (fun _ φ4 f4 R4 g4 => ⟨fun z => by omega, fun _ => ?_⟩) (fun z => absurd s2 z)⟩)
    obtain ⟨c1, c2, c3⟩ := at_1 R4 s2 g4
    rw [c3]
    exact ⟨c1, c2, fun _ => fin φ4 2 (((f1.tr f2).tr f3).tr f4) R4 (by rw [s2.2]; rfl), fun z => by omega⟩
theorem RQ_set (R : RQ T N tk x φ α p e (v :: X) o C) {w : Int} : RQ T N tk x φ (upa α 264 X.length w) p e (w :: X) o C := by
  obtain ⟨r1, r2, r3, r4, r5, r6⟩ := R
  exact ⟨RLx_z r1 rfl rfl rfl rfl (fun a _ q => upa_fn q), r2, ⟨r3.1, by rw [upa_eq], stW_up (Int.le_refl _) r3.2.2⟩, r4, r5, by rw [upa_fn (by omega)]; exact r6⟩
/-- the tail: no operator goes on -/
theorem tl_none (R : RQ T N tk V.length φ α p e ((X.map tauF ++ U) ++ V) o C) (hX : ∀ y ∈ X, arA y) (hl : C.length + (X.length + (U ++ V).length) ≤ 1600) (hn : ¬ isS T N p 42 ∧ ¬ isS T N p 47 ∧ ¬ isS T N p 43 ∧ ¬ isS T N p 45)
    (h0 : U = [] → ∀ φ', fw φ φ' → RLx T N φ' α p e → Q' 0 φ' α)
    (h1 : ∀ br U', U = br :: U' → (br = 21 ∨ br = 22) → isS T N p 44 → ∀ φ' α', fz φ α φ' α' → RQ T N tk V.length φ' α' (avF T N p) (edF T N p e) ((br + 2) :: (U' ++ V)) o (C ++ X) → Q' 1 φ' α')
    (h2 : ∀ br U', U = br :: U' → (br = 21 ∨ br = 22) → ¬ isS T N p 44 → ∀ φ', fw φ φ' → RFz φ' 1 p → Q' 0 φ' α)
    (h3 : ∀ br U', U = br :: U' → (br = 20 ∨ br = 23 ∨ br = 24) → ∀ φ', fw φ φ' → RFz φ' 1 p → Q' 0 φ' α)
    (hU : U = [] ∨ ∃ br U', U = br :: U' ∧ 20 ≤ br ∧ br ≤ 24) : TLq (d + 5) φ α Q' := by
  obtain ⟨b1, b2, b3, b4, b5, b6, b7, b8, b9⟩ := kb
  refine r_takesSign ⟨b3, by omega⟩ R.1 (fun z => absurd z hn.1) (fun _ φ1 f1 R1 g1 => ⟨fun z => absurd rfl z, fun _ => r_takesSign ⟨b7, by omega⟩ R1 (fun z => absurd z hn.2.1) (fun _ φ2 f2 R2 g2 => ⟨fun _ => r_takesSign ⟨b4, by omega⟩ R2 (fun z => absurd z hn.2.2.1) (fun _ φ3 f3 R3 g3 => ⟨fun z => absurd rfl z, fun _ => r_takesSign ⟨b6, by omega⟩ R3 (fun z => absurd z hn.2.2.2) (fun _ φ4 f4 R4 g4 => ⟨fun _ => ?_, fun z => absurd rfl z⟩)⟩), fun z => absurd rfl z⟩)⟩)
  have F4 : fw φ φ4 := ((f1.tr f2).tr f3).tr f4
  have RR := RQ_w R F4 R4
  have lw : (X.map tauF ++ U).length + V.length ≤ 1650 := by rw [List.length_append, List.length_map]; rw [List.length_append] at hl; omega
  have bb : ∀ Q'' : Int → aF → aA → Prop, Q'' (brF U) φ4 α → eX11_qBracket (d + 5) φ4 α Q'' := fun Q'' w => r_qBracket RR lw (by rw [br_ar X hX]; exact w)
  rcases hU with rfl | ⟨br, U', rfl, hb⟩
  · refine bb _ ⟨fun z => by simp [brF] at z, fun _ => bb _ ⟨fun _ => bb _ ⟨fun _ => h0 rfl φ4 F4 R4, fun z => absurd rfl z⟩, fun z => by simp [brF] at z⟩⟩
  · have bv : brF (br :: U') = br := by rw [brF, if_pos hb]
    have RS : RQ T N tk V.length φ4 α p e (X.map tauF ++ (br :: (U' ++ V))) o C := by
      have := RR
      rw [List.append_assoc] at this
      exact this
    have ll : C.length + (X.length + (1 + (U' ++ V).length)) ≤ 1600 := by
      have : (br :: U' ++ V).length = 1 + (U' ++ V).length := by rw [List.cons_append, List.length_cons]; omega
      omega
    have comma : (br = 21 ∨ br = 22) → eX11_asksSign (d + 5) 44 φ4 α (fun r18 φ18 α18 => (((φ18 11 5 198) = 0 → (eX11_qDropsToBracket (d + 5) φ18 α18 (fun r20 φ20 α20 => inR ((φ20 11 90 198) - 1) ∧ (0 ≤ ((φ20 11 90 198) - 1) ∧ ((φ20 11 90 198) - 1) < (1700 : Nat)) ∧ inR ((α20 264 ((φ20 11 90 198) - 1)) + 2) ∧ (Q' 1 φ20 (upa α20 264 ((φ20 11 90 198) - 1) ((α20 264 ((φ20 11 90 198) - 1)) + 2)))))) ∧ (¬ ((φ18 11 5 198) = 0) → (Q' 0 φ18 α18)))) := by
      intro hbr
      refine r_asksSign ⟨b5, by omega⟩ R4 (fun hs φ5 f5 R5 => ⟨fun _ => ?_, fun z => absurd R5.2.1 z⟩) (fun hs φ5 f5 F5 => ⟨fun z => ?_, fun _ => h2 br U' rfl hbr hs φ5 (F4.tr f5) (RF_z R (by omega) (by omega) (F4.tr f5) F5)⟩)
      · refine l_dtb (U := U') hb X hX φ5 α C (RQ_w RS f5 R5) (by omega) (fun φ6 α6 f6 R6 => ?_)
        obtain ⟨t1, t2⟩ := RQ_top R6
        rw [t1, show ((U' ++ V).length : Int) + 1 - 1 = (U' ++ V).length by omega, t2]
        exact ⟨by unfold inR; omega, by omega, by unfold inR; omega, h1 br U' rfl hbr hs φ6 _ (((fz_w (F4.tr f5)).tr f6).tr (fz_a (by omega))) (RQ_set R6)⟩
      · rw [F5.1] at z; omega
    have bad : (br = 20 ∨ br = 23 ∨ br = 24) → eX11_fail (d + 5) 1 (φ4 11 2 198) φ4 α (fun r29 φ29 α29 => (Q' 0 φ29 α29)) := by
      intro hbr
      rw [g4]
      exact r_fail R4.2.1 (fun φ5 f5 F5 => h3 br U' rfl hbr φ5 (F4.tr f5) (RF_z R (by omega) (by omega) (F4.tr f5) F5))
    refine bb _ ?_
    rw [bv]
    refine ⟨fun z => comma (Or.inl z), fun z => bb _ ?_⟩
    rw [bv]
    refine ⟨fun z2 => bb _ ?_, fun z2 => comma (Or.inr z2)⟩
    rw [bv]
    exact ⟨fun z3 => by omega, fun _ => ⟨fun z4 => absurd R4.2.1 z4, fun _ => bad (by omega)⟩⟩
/-- no bracket is closed here: the tail -/
theorem kg_tail (R : RQ T N tk V.length φ α p e (U ++ V) o C) (hl : U.length + V.length ≤ 1650) (hb : isS T N p 41 → brF U ≠ 20 ∧ brF U ≠ 23 ∧ brF U ≠ 24) (h : ∀ φ', fw φ φ' → RLx T N φ' α p e → TLq (d + 5) φ' α (QGo (d + 6) x1 Q)) : KG (d + 6) x1 Q φ α := by
  obtain ⟨b1, b2, b3⟩ := kb
  refine vX11_qGoesOn_0 ⟨fun z => absurd R.1.2.1 z, fun _ => r_look R.1 (fun φ1 f1 R1 g1 => ⟨fun _ => h φ1 f1 R1, fun z => ?_⟩)⟩
  have w := hb ((cF_s ⟨b2, by omega⟩).mp z)
  have RR := RQ_w R f1 R1
  have bb : ∀ Q'' : Int → aF → aA → Prop, Q'' (brF U) φ1 α → eX11_qBracket (d + 5) φ1 α Q'' := fun Q'' w => r_qBracket RR hl w
  exact bb _ ⟨fun z => absurd z w.1, fun _ => bb _ ⟨fun z => absurd z w.2.1, fun _ => bb _ ⟨fun _ => h φ1 f1 R1, fun z => absurd z w.2.2⟩⟩⟩
/-- a bracket is closed -/
theorem kg_close {br : Int} (R : RQ T N tk V.length φ α p e (X.map tauF ++ (br :: (U ++ V))) (o + 1) C) (hX : ∀ y ∈ X, arA y) (hbr : br = 20 ∨ br = 23 ∨ br = 24) (ho : o ≤ 6) (hl : C.length + (X.length + (1 + (U ++ V).length)) ≤ 1600) (hs : isS T N p 41) (h : ∀ φ' α', fz φ α φ' α' → RQ T N tk V.length φ' α' (avF T N p) (edF T N p e) (U ++ V) o (C ++ X ++ (if br = 20 then [] else [br - 1])) → KE (d + 6) x1 Q φ' α') : KG (d + 6) x1 Q φ α := by
  obtain ⟨b1, b2, b3⟩ := kb
  have bv : brF (X.map tauF ++ (br :: U)) = br := by rw [br_ar X hX, brF, if_pos (by omega)]
  have ll : (X.map tauF ++ (br :: U)).length + V.length ≤ 1650 := by rw [List.length_append, List.length_map]; simp only [List.length_cons]; rw [List.length_append] at hl; omega
  refine vX11_qGoesOn_0 ⟨fun z => absurd R.1.2.1 z, fun _ => r_look R.1 (fun φ1 f1 R1 g1 => ⟨fun z => absurd ((cF_s ⟨b2, by omega⟩).mpr hs) z, fun _ => ?_⟩)⟩
  have RR := RQ_w R f1 R1
  have bb : ∀ Q'' : Int → aF → aA → Prop, Q'' br φ1 α → eX11_qBracket (d + 5) φ1 α Q'' := fun Q'' w => r_qBracket (U := X.map tauF ++ (br :: U)) (V := V) (by rw [List.append_assoc]; exact RR) ll (by rw [bv]; exact w)
  have hN := R1.1.1
  have hp := R1.2.2.2.2.2.2
  have nx : nxF T N p = p + 1 := by unfold nxF; rw [if_pos hs.1]
  have go : inR ((φ1 11 2 198) + 1) ∧ (eX11_qDropsToBracket (d + 5) (upf φ1 11 2 198 ((φ1 11 2 198) + 1)) α (fun r87 φ87 α87 => inR ((φ87 11 90 198) - 1) ∧ inR ((φ87 11 91 198) - 1) ∧ (0 ≤ ((φ87 11 90 198) - 1) ∧ ((φ87 11 90 198) - 1) < (1700 : Nat)) ∧ (((α87 264 ((φ87 11 90 198) - 1)) = 20 → (eX11_qEndsPart (d + 5) (upf (upf φ87 11 90 198 ((φ87 11 90 198) - 1)) 11 91 198 ((φ87 11 91 198) - 1)) α87 (fun r92 φ92 α92 => (jX11_qGoesOn_0 (d + 6) φ92 α92 (QGo (d + 6) x1 Q))))) ∧ (¬ ((α87 264 ((φ87 11 90 198) - 1)) = 20) → ((¬ (α87 264 ((φ87 11 90 198) - 1)) = 23 → (eX11_qCode (d + 5) 6 (upf (upf φ87 11 90 198 ((φ87 11 90 198) - 1)) 11 91 198 ((φ87 11 91 198) - 1)) α87 (fun r94 φ94 α94 => (eX11_qEndsPart (d + 5) φ94 α94 (fun r95 φ95 α95 => (jX11_qGoesOn_0 (d + 6) φ95 α95 (QGo (d + 6) x1 Q))))))) ∧ ((α87 264 ((φ87 11 90 198) - 1)) = 23 → (eX11_qCode (d + 5) 5 (upf (upf φ87 11 90 198 ((φ87 11 90 198) - 1)) 11 91 198 ((φ87 11 91 198) - 1)) α87 (fun r96 φ96 α96 => (eX11_qEndsPart (d + 5) φ96 α96 (fun r97 φ97 α97 => (jX11_qGoesOn_0 (d + 6) φ97 α97 (QGo (d + 6) x1 Q)))))))))))) := by
    refine ⟨by unfold inR; omega, ?_⟩
    have R2 : RQ T N tk V.length (upf φ1 11 2 198 ((φ1 11 2 198) + 1)) α (avF T N p) (edF T N p e) (X.map tauF ++ (br :: (U ++ V))) (o + 1) C := RQ_w RR (fw_u (by omega) fw.rf) (RLx_adv R1 (by rw [hs.1]; omega) (fw_u (by omega) fw.rf) (by rw [upf_s, g1, nx]; omega) (by rw [upf_o (by omega), R1.2.2.1]; unfold edF; rw [if_pos hs.1]) (by rw [upf_o (by omega)]; exact R1.2.1))
    refine l_dtb (U := U) (by omega) X hX _ α C R2 (by omega) (fun φ3 α3 f3 R3 => ?_)
    obtain ⟨t1, t2⟩ := RQ_top R3
    have r4 := R3.2.2.2.1
    rw [t1, show ((U ++ V).length : Int) + 1 - 1 = (U ++ V).length by omega, t2, r4, show ((o + 1 : Nat) : Int) - 1 = (o : Nat) by omega]
    have RP := RQ_op (RQ_pop R3) o
    have F3 : fz φ α (upf (upf φ3 11 90 198 ((U ++ V).length : Int)) 11 91 198 (o : Int)) α3 := ((((fz_w f1).tr (fz_w (fw_u (by omega) fw.rf))).tr f3).tr (fz_u (by omega))).tr (fz_u (by omega))
    have lc : (C ++ X).length ≤ 1650 := by rw [List.length_append]; omega
    refine ⟨by unfold inR; omega, by unfold inR; omega, by omega, fun z => ?_, fun z => ⟨fun z2 => ?_, fun z2 => ?_⟩⟩
    · rw [if_pos z] at h
      exact ke_g (h _ _ F3 (by rw [List.append_nil]; exact RP))
    · rw [if_neg z] at h
      exact r_qCode RP lc (x := br - 1) (by rw [show br = 24 by omega]; rfl) (fun φ4 α4 f4 R4 => ke_g (h φ4 α4 (F3.tr f4) R4))
    · rw [if_neg z] at h
      exact r_qCode RP lc (x := br - 1) (by rw [z2]; rfl) (fun φ4 α4 f4 R4 => ke_g (h φ4 α4 (F3.tr f4) R4))
  refine bb _ ⟨fun z => go, fun z => bb _ ⟨fun z2 => go, fun z2 => bb _ ⟨fun z3 => by omega, fun z3 => go⟩⟩⟩
end QT
