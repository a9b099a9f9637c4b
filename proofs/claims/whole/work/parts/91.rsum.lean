/-! the reference reads a SUM -/
def TLq (d : Nat) (φ : aF) (α : aA) (Q : Int → aF → aA → Prop) : Prop := (eX11_takesSign d 42 φ α (fun r2 φ2 α2 => ((¬ r2 = 0 → inR ((φ2 11 2 198) - 1) ∧ (0 ≤ ((φ2 11 2 198) - 1) ∧ ((φ2 11 2 198) - 1) < (1600 : Nat)) ∧ ((¬ (α2 199 ((φ2 11 2 198) - 1)) = 42 → (jX11_qGoesOn_162 (d + 1) 4 φ2 α2 Q)) ∧ ((α2 199 ((φ2 11 2 198) - 1)) = 42 → (jX11_qGoesOn_162 (d + 1) 3 φ2 α2 Q)))) ∧ (r2 = 0 → (eX11_takesSign d 47 φ2 α2 (fun r7 φ7 α7 => ((r7 = 0 → (eX11_takesSign d 43 φ7 α7 (fun r9 φ9 α9 => ((¬ r9 = 0 → inR ((φ9 11 2 198) - 1) ∧ (0 ≤ ((φ9 11 2 198) - 1) ∧ ((φ9 11 2 198) - 1) < (1600 : Nat)) ∧ ((¬ (α9 199 ((φ9 11 2 198) - 1)) = 43 → (jX11_qGoesOn_247 (d + 1) 2 φ9 α9 Q)) ∧ ((α9 199 ((φ9 11 2 198) - 1)) = 43 → (jX11_qGoesOn_247 (d + 1) 1 φ9 α9 Q)))) ∧ (r9 = 0 → (eX11_takesSign d 45 φ9 α9 (fun r14 φ14 α14 => ((r14 = 0 → (eX11_qBracket d φ14 α14 (fun r16 φ16 α16 => ((r16 = 21 → (eX11_asksSign d 44 φ16 α16 (fun r18 φ18 α18 => (((φ18 11 5 198) = 0 → (eX11_qDropsToBracket d φ18 α18 (fun r20 φ20 α20 => inR ((φ20 11 90 198) - 1) ∧ (0 ≤ ((φ20 11 90 198) - 1) ∧ ((φ20 11 90 198) - 1) < (1700 : Nat)) ∧ inR ((α20 264 ((φ20 11 90 198) - 1)) + 2) ∧ (Q 1 φ20 (upa α20 264 ((φ20 11 90 198) - 1) ((α20 264 ((φ20 11 90 198) - 1)) + 2)))))) ∧ (¬ ((φ18 11 5 198) = 0) → (Q 0 φ18 α18)))))) ∧ (¬ (r16 = 21) → (eX11_qBracket d φ16 α16 (fun r24 φ24 α24 => ((¬ r24 = 22 → (eX11_qBracket d φ24 α24 (fun r26 φ26 α26 => ((r26 = (-1) → (Q 0 φ26 α26)) ∧ (¬ (r26 = (-1)) → ((¬ (φ26 11 5 198) = 0 → (Q 0 φ26 α26)) ∧ ((φ26 11 5 198) = 0 → (eX11_fail d 1 (φ26 11 2 198) φ26 α26 (fun r29 φ29 α29 => (Q 0 φ29 α29)))))))))) ∧ (r24 = 22 → (eX11_asksSign d 44 φ24 α24 (fun r30 φ30 α30 => (((φ30 11 5 198) = 0 → (eX11_qDropsToBracket d φ30 α30 (fun r32 φ32 α32 => inR ((φ32 11 90 198) - 1) ∧ (0 ≤ ((φ32 11 90 198) - 1) ∧ ((φ32 11 90 198) - 1) < (1700 : Nat)) ∧ inR ((α32 264 ((φ32 11 90 198) - 1)) + 2) ∧ (Q 1 φ32 (upa α32 264 ((φ32 11 90 198) - 1) ((α32 264 ((φ32 11 90 198) - 1)) + 2)))))) ∧ (¬ ((φ30 11 5 198) = 0) → (Q 0 φ30 α30)))))))))))))) ∧ (¬ (r14 = 0) → inR ((φ14 11 2 198) - 1) ∧ (0 ≤ ((φ14 11 2 198) - 1) ∧ ((φ14 11 2 198) - 1) < (1600 : Nat)) ∧ ((¬ (α14 199 ((φ14 11 2 198) - 1)) = 43 → (jX11_qGoesOn_247 (d + 1) 2 φ14 α14 Q)) ∧ ((α14 199 ((φ14 11 2 198) - 1)) = 43 → (jX11_qGoesOn_247 (d + 1) 1 φ14 α14 Q)))))))))))) ∧ (¬ (r7 = 0) → inR ((φ7 11 2 198) - 1) ∧ (0 ≤ ((φ7 11 2 198) - 1) ∧ ((φ7 11 2 198) - 1) < (1600 : Nat)) ∧ ((¬ (α7 199 ((φ7 11 2 198) - 1)) = 42 → (jX11_qGoesOn_162 (d + 1) 4 φ7 α7 Q)) ∧ ((α7 199 ((φ7 11 2 198) - 1)) = 42 → (jX11_qGoesOn_162 (d + 1) 3 φ7 α7 Q)))))))))))
def QGo (D : Nat) (x1 : Int) (Q : Int → aF → aA → Prop) : Int → aF → aA → Prop := fun r5 φ5 α5 => ((r5 = 0 → (jX11_qSums_15 (D + 1) x1 0 φ5 α5 Q)) ∧ (¬ (r5 = 0) → (jX11_qSums_15 (D + 1) x1 1 φ5 α5 Q)))
def QPa (D : Nat) (x1 : Int) (Q : Int → aF → aA → Prop) : Int → aF → aA → Prop := fun _ φ3 α3 => ((¬ (φ3 11 5 198) = 0 → (jX11_qSums_15 (D + 1) x1 0 φ3 α3 Q)) ∧ ((φ3 11 5 198) = 0 → (eX11_qGoesOn D φ3 α3 (QGo D x1 Q))))
def KP (D : Nat) (x1 : Int) (Q : Int → aF → aA → Prop) (φ : aF) (α : aA) : Prop := jX11_qPartTold_2 D 1 φ α (QPa D x1 Q)
def KG (D : Nat) (x1 : Int) (Q : Int → aF → aA → Prop) (φ : aF) (α : aA) : Prop := eX11_qGoesOn D φ α (QGo D x1 Q)
def KF (D : Nat) (x1 : Int) (Q : Int → aF → aA → Prop) (φ : aF) (α : aA) : Prop := jX11_qSums_15 (D + 1) x1 0 φ α Q
def KE (D : Nat) (x1 : Int) (Q : Int → aF → aA → Prop) (φ : aF) (α : aA) : Prop := eX11_qEndsPart (D - 1) φ α (fun _ φ8 α8 => φ8 11 5 198 = 0 ∧ KG D x1 Q φ8 α8)
def arM (x : Int) : Prop := x = 42 ∨ x = 47
def arA (x : Int) : Prop := x = 42 ∨ x = 47 ∨ x = 43 ∨ x = 45
theorem tau_arA {x : Int} (h : arA x) : tauF x = 1 ∨ tauF x = 2 ∨ tauF x = 3 ∨ tauF x = 4 := by
  rcases h with rfl | rfl | rfl | rfl
  · exact Or.inr (Or.inr (Or.inl rfl))
  · exact Or.inr (Or.inr (Or.inr rfl))
  · exact Or.inl rfl
  · exact Or.inr (Or.inl rfl)
theorem tau_arM {x : Int} (h : arM x) : tauF x = 3 ∨ tauF x = 4 := by
  rcases h with rfl | rfl
  · exact Or.inl rfl
  · exact Or.inr rfl
section QS
variable {d N p o : Nat} {φ φ' φ0 φ1 φ2 : aF} {α α' α0 α1 α2 : aA} {Q Q' : Int → aF → aA → Prop} {tk tg e v x x1 s : Int} {T : Int → Int} {U V X Y C : List Int}
theorem kg_of (h : KG (d + 6) x1 Q φ α) : eX11_qGoesOn (d + 6) φ α (QGo (d + 6) x1 Q) := h
theorem ke_p (h : KE (d + 6) x1 Q φ α) : eX11_qEndsPart (d + 5) φ α (fun _ φ8 α8 => QPa (d + 6) x1 Q 0 φ8 α8) := R0.mono h (fun r φ8 α8 w => ⟨fun z => absurd w.1 z, fun _ => w.2⟩)
theorem ke_g (h : KE (d + 6) x1 Q φ α) : eX11_qEndsPart (d + 5) φ α (fun _ φ8 α8 => jX11_qGoesOn_0 (d + 6) φ8 α8 (QGo (d + 6) x1 Q)) := R0.mono h (fun r φ8 α8 w => w.2)
theorem ke_kg (R : RQ T N tk V.length φ α p e (U ++ V) o C) (hl : C.length + (U ++ V).length ≤ 1650) (hU : ∀ u ∈ U.head?, u < 60) (h : KG (d + 6) x1 Q φ α) : KE (d + 6) x1 Q φ α := by
  have r3 := R.2.2.1
  have rb := R.2.2.2.2.1
  match U, R, hl, hU, r3 with
  | [], R, hl, hU, r3 =>
    exact vX11_qEndsPart_0 ⟨fun z => absurd R.1.2.1 z, fun _ => ⟨fun _ => ⟨R.1.2.1, h⟩, fun z => by exfalso; apply z; rw [r3.1, rb]; simp⟩⟩
  | u :: U, R, hl, hU, r3 =>
    obtain ⟨t1, t2⟩ := RQ_top (W := U ++ V) R
    have hu := hU u (by simp)
    have hl : C.length + ((U ++ V).length + 1) ≤ 1650 := hl
    refine vX11_qEndsPart_0 ⟨fun z => absurd R.1.2.1 z, fun _ => ⟨fun _ => ⟨R.1.2.1, h⟩, fun z => ?_⟩⟩
    rw [t1, show ((U ++ V).length : Int) + 1 - 1 = (U ++ V).length by omega, t2]
    exact ⟨by unfold inR; omega, by omega, fun _ => ⟨R.1.2.1, h⟩, fun z2 => absurd hu z2⟩
/-- drops, off: told when its PART has ended -/
theorem ke_of (R : RQ T N tk V.length φ α p e (tauF x :: (U ++ V)) (o + 1) C) (hx : x = 30 ∨ x = 31) (ho : o ≤ 6) (hl : C.length + ((U ++ V).length + 1) ≤ 1650) (h : ∀ φ' α', fz φ α φ' α' → RQ T N tk V.length φ' α' p e (U ++ V) o (C ++ [x]) → KE (d + 6) x1 Q φ' α') : KE (d + 6) x1 Q φ α := by
  have r3 := R.2.2.1
  have r4 := R.2.2.2.1
  have rb := R.2.2.2.2.1
  obtain ⟨t1, t2⟩ := RQ_top (W := U ++ V) R
  have tx : 60 ≤ tauF x := by rcases hx with rfl | rfl <;> decide
  refine vX11_qEndsPart_0 ⟨fun z => absurd R.1.2.1 z, fun _ => ⟨fun z => by exfalso; rw [t1, rb, List.length_append] at z; omega, fun _ => ?_⟩⟩
  rw [t1, show ((U ++ V).length : Int) + 1 - 1 = (U ++ V).length by omega, t2, r4]
  refine ⟨by unfold inR; omega, by omega, fun z => by omega, fun _ => ⟨by unfold inR; omega, ?_⟩⟩
  rw [show ((o + 1 : Nat) : Int) - 1 = (o : Nat) by omega]
  exact r_qDrops (RQ_op R o) hl (fun φ1 α1 f1 R1 => h φ1 α1 ((fz_u (by omega)).tr f1) R1)
theorem kp_1 (h5 : φ 11 5 198 = 0) (h : KP (d + 6) x1 Q φ α) : jX11_qSums_15 (d + 6 + 1) x1 1 φ α Q := vX11_qSums_15 ⟨fun z => by omega, fun _ => ⟨fun z => absurd h5 z, fun _ => vX11_qPartTold_0 h⟩⟩
theorem kp_bad (h5 : φ 11 5 198 ≠ 0) (h : KF (d + 6) x1 Q φ α) : KP (d + 6) x1 Q φ α := vX11_qPartTold_2 ⟨fun z => by omega, fun _ => ⟨fun _ => ⟨fun z => absurd z h5, fun _ => ⟨fun _ => h, fun z => absurd z h5⟩⟩, fun z => absurd z h5⟩⟩
theorem kb : kdB 40 = 3 ∧ kdB 41 = 3 ∧ kdB 42 = 3 ∧ kdB 43 = 3 ∧ kdB 44 = 3 ∧ kdB 45 = 3 ∧ kdB 47 = 3 ∧ kdB 59 = 3 ∧ kdB 60 = 3 ∧ kdB 61 = 3 ∧ kdB 62 = 3 ∧ kdB 91 = 3 ∧ kdB 93 = 3 := by decide
theorem cF_s (hs : kdB s = 3 ∧ 0 ≤ s) : cF T N p = s ↔ isS T N p s := by
  unfold cF
  constructor
  · intro w
    split at w
    · rename_i q; exact ⟨by rw [kdF_in q, w]; exact hs.1, w⟩
    · omega
  · intro w
    have : ¬ N ≤ p := fun z => by have := w.1; rw [kdF_0.mpr z] at this; omega
    rw [if_pos (by omega)]; exact w.2
/-- behind a sign just taken -/
theorem at_1 (R : RLx T N φ α p e) {p' : Nat} (hs : isS T N p' s) (h2 : φ 11 2 198 = (p' : Int) + 1) : inR (φ 11 2 198 - 1) ∧ (0 ≤ φ 11 2 198 - 1 ∧ φ 11 2 198 - 1 < (1600 : Nat)) ∧ α 199 (φ 11 2 198 - 1) = s := by
  have hlt : p' < N := by
    have : ¬ N ≤ p' := fun z => by have := hs.1; rw [kdF_0.mpr z] at this; omega
    omega
  have hN := R.1.1
  have t := R.1.2.2 p' hlt
  rw [h2, show (p' : Int) + 1 - 1 = p' by omega]
  exact ⟨by unfold inR; omega, by omega, t.1.trans hs.2⟩
theorem l_162 {op : Int} (h : ∀ φ' α' C', RQ T N tk V.length φ' α' p e (op :: (U ++ V)) o C' → fz φ0 α0 φ' α' → C' = C ++ X → Q' 1 φ' α') (hU : ∀ u ∈ (U ++ V).head?, u ≠ 3 ∧ u ≠ 4) : ∀ (Y : List Int), (∀ y ∈ Y, arM y) → ∀ (φ : aF) (α : aA) (C1 : List Int), RQ T N tk V.length φ α p e (Y.map tauF ++ (U ++ V)) o C1 → C1.length + (Y.length + (U ++ V).length) ≤ 1640 → C1 ++ Y = C ++ X → fz φ0 α0 φ α → jX11_qGoesOn_162 (d + 6) op φ α Q'
  | [], hY, φ, α, C1, R, hl, hc, f => by
    have hh : ∀ w, (w = 3 ∨ w = 4) → ¬ (U ++ V).head? = some w := fun w hw z => by have := hU w (by rw [z]; rfl); omega
    have r3 := R.2.2.1.1
    refine vX11_qGoesOn_162 (r_qIsOn R (by simp at hl ⊢; omega) ?_)
    rw [show (List.map tauF [] ++ (U ++ V)) = U ++ V from rfl, if_neg (hh 3 (Or.inl rfl))]
    refine ⟨fun z => absurd rfl z, fun _ => r_qIsOn R (by simp at hl ⊢; omega) ?_⟩
    rw [show (List.map tauF [] ++ (U ++ V)) = U ++ V from rfl, if_neg (hh 4 (Or.inr rfl))]
    refine ⟨fun _ => ?_, fun z => absurd rfl z⟩
    rw [show φ 11 90 198 = ((U ++ V).length : Int) from r3]
    rw [List.append_nil] at hc
    refine ⟨by simp at hl ⊢; omega, by unfold inR; simp at hl ⊢; omega, h _ _ C1 (RQ_push R) (f.tr ((fz_u (by omega)).tr (fz_a (by omega)))) hc⟩
  | y :: Y, hY, φ, α, C1, R, hl, hc, f => by
    have hl : C1.length + (Y.length + 1 + (U ++ V).length) ≤ 1640 := hl
    have dr : eX11_qDrops (d + 5) φ α (fun r3 φ3 α3 => jX11_qGoesOn_162 (d + 6) op φ3 α3 Q') := r_qDrops (W := Y.map tauF ++ (U ++ V)) R (by rw [List.length_append, List.length_map]; omega) (fun φ1 α1 f1 R1 => l_162 h hU Y (fun z hz => hY z (by simp [hz])) φ1 α1 (C1 ++ [y]) R1 (by rw [List.length_append]; simp only [List.length_cons, List.length_nil]; omega) (by rw [← hc]; simp) (f.tr f1))
    have lw : ((y :: Y).map tauF ++ (U ++ V)).length ≤ 1650 := by rw [List.length_append, List.length_map]; simp only [List.length_cons]; omega
    have hd : ((y :: Y).map tauF ++ (U ++ V)).head? = some (tauF y) := rfl
    rcases tau_arM (hY y (by simp)) with w | w
    · refine vX11_qGoesOn_162 (r_qIsOn R lw ?_)
      rw [hd, w, if_pos rfl]
      exact ⟨fun _ => dr, fun z => by omega⟩
    · refine vX11_qGoesOn_162 (r_qIsOn R lw ?_)
      rw [hd, w, if_neg (by decide)]
      refine ⟨fun z => absurd rfl z, fun _ => r_qIsOn R lw ?_⟩
      rw [hd, w, if_pos rfl]
      exact ⟨fun z => by omega, fun _ => dr⟩
theorem l_247 {op : Int} (h : ∀ φ' α' C', RQ T N tk V.length φ' α' p e (op :: (U ++ V)) o C' → fz φ0 α0 φ' α' → C' = C ++ X → Q' 1 φ' α') (hU : ∀ u ∈ (U ++ V).head?, u ≠ 1 ∧ u ≠ 2 ∧ u ≠ 3 ∧ u ≠ 4) : ∀ (Y : List Int), (∀ y ∈ Y, arA y) → ∀ (φ : aF) (α : aA) (C1 : List Int), RQ T N tk V.length φ α p e (Y.map tauF ++ (U ++ V)) o C1 → C1.length + (Y.length + (U ++ V).length) ≤ 1640 → C1 ++ Y = C ++ X → fz φ0 α0 φ α → jX11_qGoesOn_247 (d + 6) op φ α Q'
  | [], hY, φ, α, C1, R, hl, hc, f => by
    have hh : ∀ w, (w = 1 ∨ w = 2 ∨ w = 3 ∨ w = 4) → ¬ (U ++ V).head? = some w := fun w hw z => by have := hU w (by rw [z]; rfl); omega
    have r3 := R.2.2.1.1
    have lw : (List.map tauF [] ++ (U ++ V)).length ≤ 1650 := by simp at hl ⊢; omega
    have en : (List.map tauF [] ++ (U ++ V)) = U ++ V := rfl
    refine vX11_qGoesOn_247 (r_qIsOn R lw ?_)
    rw [en, if_neg (hh 3 (by omega))]
    refine ⟨fun z => absurd rfl z, fun _ => r_qIsOn R lw ?_⟩
    rw [en, if_neg (hh 4 (by omega))]
    refine ⟨fun z => absurd rfl z, fun _ => r_qIsOn R lw ?_⟩
    rw [en, if_neg (hh 1 (by omega))]
    refine ⟨fun z => absurd rfl z, fun _ => r_qIsOn R lw ?_⟩
    rw [en, if_neg (hh 2 (by omega))]
    refine ⟨fun _ => ?_, fun z => absurd rfl z⟩
    rw [show φ 11 90 198 = ((U ++ V).length : Int) from r3]
    rw [List.append_nil] at hc
    refine ⟨by simp at hl ⊢; omega, by unfold inR; simp at hl ⊢; omega, h _ _ C1 (RQ_push R) (f.tr ((fz_u (by omega)).tr (fz_a (by omega)))) hc⟩
  | y :: Y, hY, φ, α, C1, R, hl, hc, f => by
    have hl : C1.length + (Y.length + 1 + (U ++ V).length) ≤ 1640 := hl
    have dr : eX11_qDrops (d + 5) φ α (fun r3 φ3 α3 => jX11_qGoesOn_247 (d + 6) op φ3 α3 Q') := r_qDrops (W := Y.map tauF ++ (U ++ V)) R (by rw [List.length_append, List.length_map]; omega) (fun φ1 α1 f1 R1 => l_247 h hU Y (fun z hz => hY z (by simp [hz])) φ1 α1 (C1 ++ [y]) R1 (by rw [List.length_append]; simp only [List.length_cons, List.length_nil]; omega) (by rw [← hc]; simp) (f.tr f1))
    have lw : ((y :: Y).map tauF ++ (U ++ V)).length ≤ 1650 := by rw [List.length_append, List.length_map]; simp only [List.length_cons]; omega
    have hd : ((y :: Y).map tauF ++ (U ++ V)).head? = some (tauF y) := rfl
    refine vX11_qGoesOn_247 (r_qIsOn R lw ?_)
    rw [hd]
    by_cases w3 : tauF y = 3
    · rw [w3, if_pos rfl]; exact ⟨fun _ => dr, fun z => by omega⟩
    · rw [if_neg (by simpa using w3)]
      refine ⟨fun z => absurd rfl z, fun _ => r_qIsOn R lw ?_⟩
      rw [hd]
      by_cases w4 : tauF y = 4
      · rw [w4, if_pos rfl]; exact ⟨fun _ => dr, fun z => by omega⟩
      · rw [if_neg (by simpa using w4)]
        refine ⟨fun z => absurd rfl z, fun _ => r_qIsOn R lw ?_⟩
        rw [hd]
        by_cases w1 : tauF y = 1
        · rw [w1, if_pos rfl]; exact ⟨fun _ => dr, fun z => by omega⟩
        · rw [if_neg (by simpa using w1)]
          refine ⟨fun z => absurd rfl z, fun _ => r_qIsOn R lw ?_⟩
          have w2 : tauF y = 2 := by have := tau_arA (hY y (by simp)); omega
          rw [hd, w2, if_pos rfl]
          exact ⟨fun z => by omega, fun _ => dr⟩
theorem l_dtb {br : Int} (hb : 20 ≤ br ∧ br ≤ 24) : ∀ (Y : List Int), (∀ y ∈ Y, arA y) → ∀ (φ : aF) (α : aA) (C : List Int), RQ T N tk V.length φ α p e (Y.map tauF ++ (br :: (U ++ V))) o C → C.length + (Y.length + (1 + (U ++ V).length)) ≤ 1640 → (∀ φ' α', fz φ α φ' α' → RQ T N tk V.length φ' α' p e (br :: (U ++ V)) o (C ++ Y) → Q' 0 φ' α') → eX11_qDropsToBracket (d + 5) φ α Q'
  | [], hY, φ, α, C, R, hl, h => by
    obtain ⟨t1, t2⟩ := RQ_top (W := U ++ V) R
    have rb := R.2.2.2.2.1
    refine vX11_qDropsToBracket_0 ⟨fun z => by exfalso; rw [t1, rb, List.length_append] at z; omega, fun _ => ?_⟩
    rw [t1, show ((U ++ V).length : Int) + 1 - 1 = (U ++ V).length by omega, t2]
    refine ⟨by unfold inR; simp at hl ⊢; omega, by simp at hl ⊢; omega, r_qIsBracket ?_⟩
    rw [if_pos hb]
    exact ⟨fun _ => h φ α fz.rf (by rw [List.append_nil]; exact R), fun z => by omega⟩
  | y :: Y, hY, φ, α, C, R, hl, h => by
    have hl : C.length + (Y.length + 1 + (1 + (U ++ V).length)) ≤ 1640 := hl
    obtain ⟨t1, t2⟩ := RQ_top (W := Y.map tauF ++ (br :: (U ++ V))) R
    have rb := R.2.2.2.2.1
    have ll : (Y.map tauF ++ (br :: (U ++ V))).length = Y.length + (1 + (U ++ V).length) := by rw [List.length_append, List.length_map]; simp only [List.length_cons]; omega
    have ty := tau_arA (hY y (by simp))
    refine vX11_qDropsToBracket_0 ⟨fun z => by exfalso; rw [t1, rb, ll, List.length_append] at z; omega, fun _ => ?_⟩
    rw [t1, show ((Y.map tauF ++ (br :: (U ++ V))).length : Int) + 1 - 1 = (Y.map tauF ++ (br :: (U ++ V))).length by omega, t2]
    refine ⟨by unfold inR; omega, by omega, r_qIsBracket ?_⟩
    rw [if_neg (by omega)]
    refine ⟨fun z => absurd rfl z, fun _ => r_qDrops (W := Y.map tauF ++ (br :: (U ++ V))) R (by omega) (fun φ1 α1 f1 R1 => ?_)⟩
    refine l_dtb hb Y (fun z hz => hY z (by simp [hz])) φ1 α1 (C ++ [y]) R1 (by rw [List.length_append]; simp only [List.length_cons, List.length_nil]; omega) (fun φ2 α2 f2 R2 => h φ2 α2 (f1.tr f2) ?_)
    rw [List.append_assoc] at R2
    exact R2
theorem br_ar : ∀ (Y : List Int), (∀ y ∈ Y, arA y) → brF (Y.map tauF ++ U) = brF U
  | [], _ => rfl
  | y :: Y, hY => by
    have ty := tau_arA (hY y (by simp))
    rw [List.map_cons, List.cons_append, brF, if_neg (by omega)]
    exact br_ar Y (fun z hz => hY z (by simp [hz]))
end QS
