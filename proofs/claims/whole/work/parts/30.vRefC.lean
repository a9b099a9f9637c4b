theorem vX11_qIsOn_0 {d : Nat} {φ : aF} {α : aA} {Q : Int → aF → aA → Prop} {x1 : Int} (h : (((φ 11 90 198) ≤ 0 →
   (Q 0 φ α)) ∧
   (¬ ((φ 11 90 198) ≤ 0) →
   inR ((φ 11 90 198) - 1) ∧ (0 ≤ ((φ 11 90 198) - 1) ∧ ((φ 11 90 198) - 1) < (1700 : Nat)) ∧ ((¬ (α 264 ((φ 11 90 198) - 1)) = x1 →
     (Q 0 φ α)) ∧
     ((α 264 ((φ 11 90 198) - 1)) = x1 →
     (Q 1 φ α)))))) : eX11_qIsOn d x1 φ α Q := by
  intro Ln
  refine r_aload_n (pc' := 1) (kX11_qIsOn_0 0 rfl) rfl rfl ?_
  refine s_get (x := (φ 11 90 198)) (pc' := 4) (kX11_qIsOn_0 1 rfl) rfl fkX11_318 rfl rfl rfl (kz198 Ln) rfl ?_
  refine r_if_le (t := 26) (pc' := 7) (kX11_qIsOn_0 2 rfl) rfl rfl (fun c1 => ?_) (fun c1 => ?_)
  · have h := h.1 c1
    refine r_iconst 0 (pc' := 27) (kX11_qIsOn_0 14 rfl) rfl (by unfold inR; omega) ?_
    exact s_zret (kX11_qIsOn_0 15 rfl) rfl (Or.inl rfl) h
  · have h := h.2 c1
    refine r_aload_n (pc' := 8) (kX11_qIsOn_0 3 rfl) rfl rfl ?_
    refine s_getr (v := 264) (pc' := 11) (kX11_qIsOn_0 4 rfl) rfl fkX11_215 rfl rfl (kz198 Ln) rfl (by decide) ?_
    refine r_aload_n (pc' := 12) (kX11_qIsOn_0 5 rfl) rfl rfl ?_
    refine s_get (x := (φ 11 90 198)) (pc' := 15) (kX11_qIsOn_0 6 rfl) rfl fkX11_318 rfl rfl rfl (kz198 Ln) rfl ?_
    refine r_iconst 1 (pc' := 16) (kX11_qIsOn_0 7 rfl) rfl (by unfold inR; omega) ?_
    have g2 := h.1
    have h := h.2
    refine r_isub (pc' := 17) (kX11_qIsOn_0 8 rfl) rfl g2 ?_
    have g3 := h.1
    have h := h.2
    refine s_iald (x := (α 264 ((φ 11 90 198) - 1))) (pc' := 18) (kX11_qIsOn_0 9 rfl) rfl (kz264 Ln) g3 rfl ?_
    refine r_iload_n (pc' := 19) (kX11_qIsOn_0 10 rfl) rfl rfl ?_
    refine r_icmp_ne (t := 26) (pc' := 22) (kX11_qIsOn_0 11 rfl) rfl rfl (fun c4 => ?_) (fun c4 => ?_)
    · have h := h.1 c4
      refine r_iconst 0 (pc' := 27) (kX11_qIsOn_0 14 rfl) rfl (by unfold inR; omega) ?_
      exact s_zret (kX11_qIsOn_0 15 rfl) rfl (Or.inl rfl) h
    · have h := h.2 c4
      refine r_iconst 1 (pc' := 23) (kX11_qIsOn_0 12 rfl) rfl (by unfold inR; omega) ?_
      refine r_goto (pc' := 27) (kX11_qIsOn_0 13 rfl) rfl ?_
      exact s_zret (kX11_qIsOn_0 15 rfl) rfl (Or.inr rfl) h
theorem vX11_qDrops_0 {d : Nat} {φ : aF} {α : aA} {Q : Int → aF → aA → Prop} (h : inR ((φ 11 90 198) - 1) ∧ (0 ≤ ((φ 11 90 198) - 1) ∧ ((φ 11 90 198) - 1) < (1700 : Nat)) ∧ (eX11_qCode d (α 264 ((φ 11 90 198) - 1)) (upf φ 11 90 198 ((φ 11 90 198) - 1)) α (fun r3 φ3 α3 =>
   (Q 0 φ3 α3)))) : eX11_qDrops (d + 1)  φ α Q := by
  intro Ln
  refine r_aload_n (pc' := 1) (kX11_qDrops_0 0 rfl) rfl rfl ?_
  refine r_dup (pc' := 2) (kX11_qDrops_0 1 rfl) rfl rfl ?_
  refine s_get (x := (φ 11 90 198)) (pc' := 5) (kX11_qDrops_0 2 rfl) rfl fkX11_318 rfl rfl rfl (kz198 Ln) rfl ?_
  refine r_iconst 1 (pc' := 6) (kX11_qDrops_0 3 rfl) rfl (by unfold inR; omega) ?_
  have g1 := h.1
  have h := h.2
  refine r_isub (pc' := 7) (kX11_qDrops_0 4 rfl) rfl g1 ?_
  refine s_put (pc' := 10) (kX11_qDrops_0 5 rfl) rfl fkX11_318 fnX11_90 rfl pk_int (kz198 Ln) ?_
  refine r_aload_n (pc' := 11) (kX11_qDrops_0 6 rfl) rfl rfl ?_
  refine r_aload_n (pc' := 12) (kX11_qDrops_0 7 rfl) rfl rfl ?_
  refine s_getr (v := 264) (pc' := 15) (kX11_qDrops_0 8 rfl) rfl fkX11_215 rfl rfl (kz198 Ln) rfl (by decide) ?_
  refine r_aload_n (pc' := 16) (kX11_qDrops_0 9 rfl) rfl rfl ?_
  refine s_get (x := ((φ 11 90 198) - 1)) (pc' := 19) (kX11_qDrops_0 10 rfl) rfl fkX11_318 rfl rfl rfl (kz198 Ln) (by simp [upf]) ?_
  have g2 := h.1
  have h := h.2
  refine s_iald (x := (α 264 ((φ 11 90 198) - 1))) (pc' := 20) (kX11_qDrops_0 11 rfl) rfl (kz264 Ln) g2 rfl ?_
  refine s_callV (As := [(0, (α 264 ((φ 11 90 198) - 1)))]) (o := 198) (S := []) (S2 := fun z => []) (pc' := 23) (kX11_qDrops_0 12 rfl) rfl rfl nkX11_qCode mlX11_564 imX11_qCode rfl slX11_qCode rfl (Nat.le_of_ble_eq_true rfl) (Nat.le_of_ble_eq_true rfl) (kz198 Ln) h (fun z => rfl) (fun r3 φ3 α3 h => ?_)
  exact s_vret (kX11_qDrops_0 13 rfl) rfl h
theorem vX11_qIsBracket_0 {d : Nat} {φ : aF} {α : aA} {Q : Int → aF → aA → Prop} {x0 : Int} (h : ((x0 < 20 →
   (Q 0 φ α)) ∧
   (¬ (x0 < 20) →
   ((24 < x0 →
     (Q 0 φ α)) ∧
     (¬ (24 < x0) →
     (Q 1 φ α)))))) : eX11_qIsBracket d x0 φ α Q := by
  intro Ln
  refine r_iload_n (pc' := 1) (kX11_qIsBracket_0 0 rfl) rfl rfl ?_
  refine r_bipush 20 (pc' := 3) (kX11_qIsBracket_0 1 rfl) rfl ⟨by unfold inR; omega, rfl⟩ ?_
  refine r_icmp_lt (t := 16) (pc' := 6) (kX11_qIsBracket_0 2 rfl) rfl rfl (fun c1 => ?_) (fun c1 => ?_)
  · have h := h.1 c1
    refine r_iconst 0 (pc' := 17) (kX11_qIsBracket_0 8 rfl) rfl (by unfold inR; omega) ?_
    exact s_zret (kX11_qIsBracket_0 9 rfl) rfl (Or.inl rfl) h
  · have h := h.2 c1
    refine r_iload_n (pc' := 7) (kX11_qIsBracket_0 3 rfl) rfl rfl ?_
    refine r_bipush 24 (pc' := 9) (kX11_qIsBracket_0 4 rfl) rfl ⟨by unfold inR; omega, rfl⟩ ?_
    refine r_icmp_gt (t := 16) (pc' := 12) (kX11_qIsBracket_0 5 rfl) rfl rfl (fun c2 => ?_) (fun c2 => ?_)
    · have h := h.1 c2
      refine r_iconst 0 (pc' := 17) (kX11_qIsBracket_0 8 rfl) rfl (by unfold inR; omega) ?_
      exact s_zret (kX11_qIsBracket_0 9 rfl) rfl (Or.inl rfl) h
    · have h := h.2 c2
      refine r_iconst 1 (pc' := 13) (kX11_qIsBracket_0 6 rfl) rfl (by unfold inR; omega) ?_
      refine r_goto (pc' := 17) (kX11_qIsBracket_0 7 rfl) rfl ?_
      exact s_zret (kX11_qIsBracket_0 9 rfl) rfl (Or.inr rfl) h
abbrev jX11_qBracket_7 (d : Nat) (x1 : Int) (φ : aF) (α : aA) (Q : Int → aF → aA → Prop) : Prop := R0 d mX11_qBracket 7 [(2, 198), (0, x1)] [] φ α Q
theorem vX11_qBracket_0 {d : Nat} {φ : aF} {α : aA} {Q : Int → aF → aA → Prop} (h : inR ((φ 11 90 198) - 1) ∧ (jX11_qBracket_7 (d + 1) ((φ 11 90 198) - 1) φ α Q)) : eX11_qBracket (d + 1)  φ α Q := by
  intro Ln
  refine r_aload_n (pc' := 1) (kX11_qBracket_0 0 rfl) rfl rfl ?_
  refine s_get (x := (φ 11 90 198)) (pc' := 4) (kX11_qBracket_0 1 rfl) rfl fkX11_318 rfl rfl rfl (kz198 Ln) rfl ?_
  refine r_iconst 1 (pc' := 5) (kX11_qBracket_0 2 rfl) rfl (by unfold inR; omega) ?_
  have g1 := h.1
  have h := h.2
  refine r_isub (pc' := 6) (kX11_qBracket_0 3 rfl) rfl g1 ?_
  refine r_istore_n (L' := [(2, 198), (0, ((φ 11 90 198) - 1))]) (pc' := 7) (kX11_qBracket_0 4 rfl) rfl (Nat.le_of_ble_eq_true rfl) rfl ?_
  exact r_weak (L' := [(2, 198), (0, ((φ 11 90 198) - 1))]) ⟨Or.inl rfl, Or.inl rfl, trivial⟩ (h Ln)
theorem vX11_qBracket_7 {d : Nat} {φ : aF} {α : aA} {Q : Int → aF → aA → Prop} {x1 : Int} (h : ((x1 < (φ 11 92 198) →
   (Q (-1) φ α)) ∧
   (¬ (x1 < (φ 11 92 198)) →
   (0 ≤ x1 ∧ x1 < (1700 : Nat)) ∧ (eX11_qIsBracket d (α 264 x1) φ α (fun r3 φ3 α3 =>
     ((¬ r3 = 0 →
     ((x1 < (φ3 11 92 198) →
       (Q (-1) φ3 α3)) ∧
       (¬ (x1 < (φ3 11 92 198)) →
       (Q (α3 264 x1) φ3 α3)))) ∧
     (r3 = 0 →
     inR (x1 + (-1)) ∧ (jX11_qBracket_7 (d + 1) (x1 + (-1)) φ3 α3 Q)))))))) : jX11_qBracket_7 (d + 1) x1 φ α Q := by
  intro Ln
  refine r_iload_n (pc' := 8) (kX11_qBracket_0 5 rfl) rfl rfl ?_
  refine r_aload_n (pc' := 9) (kX11_qBracket_0 6 rfl) rfl rfl ?_
  refine s_get (x := (φ 11 92 198)) (pc' := 12) (kX11_qBracket_0 7 rfl) rfl fkX11_324 rfl rfl rfl (kz198 Ln) rfl ?_
  refine r_icmp_lt (t := 33) (pc' := 15) (kX11_qBracket_0 8 rfl) rfl rfl (fun c1 => ?_) (fun c1 => ?_)
  · have h := h.1 c1
    refine r_iload_n (pc' := 34) (kX11_qBracket_0 17 rfl) rfl rfl ?_
    refine r_aload_n (pc' := 35) (kX11_qBracket_0 18 rfl) rfl rfl ?_
    refine s_get (x := (φ 11 92 198)) (pc' := 38) (kX11_qBracket_0 19 rfl) rfl fkX11_324 rfl rfl rfl (kz198 Ln) rfl ?_
    refine r_icmp_lt (t := 50) (pc' := 41) (kX11_qBracket_0 20 rfl) rfl rfl (fun _ => ?_) (fun cz => absurd c1 cz)
    refine r_iconst (-1) (pc' := 51) (kX11_qBracket_0 26 rfl) rfl (by unfold inR; omega) ?_
    exact s_iret (kX11_qBracket_0 27 rfl) rfl h
  · have h := h.2 c1
    refine r_aload_n (pc' := 16) (kX11_qBracket_0 9 rfl) rfl rfl ?_
    refine s_getr (v := 264) (pc' := 19) (kX11_qBracket_0 10 rfl) rfl fkX11_215 rfl rfl (kz198 Ln) rfl (by decide) ?_
    refine r_iload_n (pc' := 20) (kX11_qBracket_0 11 rfl) rfl rfl ?_
    have g2 := h.1
    have h := h.2
    refine s_iald (x := (α 264 x1)) (pc' := 21) (kX11_qBracket_0 12 rfl) rfl (kz264 Ln) g2 rfl ?_
    refine s_callS (As := [(0, (α 264 x1))]) (S := []) (S2 := fun z => [(0, z)]) (pc' := 24) (kX11_qBracket_0 13 rfl) rfl rfl nkX11_qIsBracket mlX11_567 scX11_qIsBracket rfl (Nat.le_of_ble_eq_true rfl) (Nat.le_of_ble_eq_true rfl) h (fun z => rfl) (fun r3 φ3 α3 h => ?_)
    refine r_if_ne (t := 33) (pc' := 27) (kX11_qBracket_0 14 rfl) rfl rfl (fun c4 => ?_) (fun c4 => ?_)
    · have h := h.1 c4
      refine r_iload_n (pc' := 34) (kX11_qBracket_0 17 rfl) rfl rfl ?_
      refine r_aload_n (pc' := 35) (kX11_qBracket_0 18 rfl) rfl rfl ?_
      refine s_get (x := (φ3 11 92 198)) (pc' := 38) (kX11_qBracket_0 19 rfl) rfl fkX11_324 rfl rfl rfl (kz198 Ln) rfl ?_
      refine r_icmp_lt (t := 50) (pc' := 41) (kX11_qBracket_0 20 rfl) rfl rfl (fun c5 => ?_) (fun c5 => ?_)
      · have h := h.1 c5
        refine r_iconst (-1) (pc' := 51) (kX11_qBracket_0 26 rfl) rfl (by unfold inR; omega) ?_
        exact s_iret (kX11_qBracket_0 27 rfl) rfl h
      · have h := h.2 c5
        refine r_aload_n (pc' := 42) (kX11_qBracket_0 21 rfl) rfl rfl ?_
        refine s_getr (v := 264) (pc' := 45) (kX11_qBracket_0 22 rfl) rfl fkX11_215 rfl rfl (kz198 Ln) rfl (by decide) ?_
        refine r_iload_n (pc' := 46) (kX11_qBracket_0 23 rfl) rfl rfl ?_
        refine s_iald (x := (α3 264 x1)) (pc' := 47) (kX11_qBracket_0 24 rfl) rfl (kz264 Ln) g2 rfl ?_
        refine r_goto (pc' := 51) (kX11_qBracket_0 25 rfl) rfl ?_
        exact s_iret (kX11_qBracket_0 27 rfl) rfl h
    · have h := h.2 c4
      have g6 := h.1
      have h := h.2
      refine r_iinc (L' := [(2, 198), (0, (x1 + (-1)))]) (pc' := 30) (kX11_qBracket_0 15 rfl) rfl (Nat.le_of_ble_eq_true rfl) rfl g6 rfl ?_
      refine r_goto (pc' := 7) (kX11_qBracket_0 16 rfl) rfl ?_
      exact r_weak (L' := [(2, 198), (0, (x1 + (-1)))]) ⟨Or.inl rfl, Or.inl rfl, trivial⟩ (h Ln)
abbrev jX11_qDropsToBracket_0 (d : Nat) (φ : aF) (α : aA) (Q : Int → aF → aA → Prop) : Prop := R0 d mX11_qDropsToBracket 0 [(2, 198)] [] φ α Q
theorem vX11_qDropsToBracket_0 {d : Nat} {φ : aF} {α : aA} {Q : Int → aF → aA → Prop} (h : (((φ 11 90 198) ≤ (φ 11 92 198) →
   (Q 0 φ α)) ∧
   (¬ ((φ 11 90 198) ≤ (φ 11 92 198)) →
   inR ((φ 11 90 198) - 1) ∧ (0 ≤ ((φ 11 90 198) - 1) ∧ ((φ 11 90 198) - 1) < (1700 : Nat)) ∧ (eX11_qIsBracket d (α 264 ((φ 11 90 198) - 1)) φ α (fun r4 φ4 α4 =>
     ((¬ r4 = 0 →
     (Q 0 φ4 α4)) ∧
     (r4 = 0 →
     (eX11_qDrops d  φ4 α4 (fun r6 φ6 α6 =>
       (jX11_qDropsToBracket_0 (d + 1)  φ6 α6 Q)))))))))) : eX11_qDropsToBracket (d + 1)  φ α Q := by
  intro Ln
  refine r_aload_n (pc' := 1) (kX11_qDropsToBracket_0 0 rfl) rfl rfl ?_
  refine s_get (x := (φ 11 90 198)) (pc' := 4) (kX11_qDropsToBracket_0 1 rfl) rfl fkX11_318 rfl rfl rfl (kz198 Ln) rfl ?_
  refine r_aload_n (pc' := 5) (kX11_qDropsToBracket_0 2 rfl) rfl rfl ?_
  refine s_get (x := (φ 11 92 198)) (pc' := 8) (kX11_qDropsToBracket_0 3 rfl) rfl fkX11_324 rfl rfl rfl (kz198 Ln) rfl ?_
  refine r_icmp_le (t := 35) (pc' := 11) (kX11_qDropsToBracket_0 4 rfl) rfl rfl (fun c1 => ?_) (fun c1 => ?_)
  · have h := h.1 c1
    exact s_vret (kX11_qDropsToBracket_0 17 rfl) rfl h
  · have h := h.2 c1
    refine r_aload_n (pc' := 12) (kX11_qDropsToBracket_0 5 rfl) rfl rfl ?_
    refine s_getr (v := 264) (pc' := 15) (kX11_qDropsToBracket_0 6 rfl) rfl fkX11_215 rfl rfl (kz198 Ln) rfl (by decide) ?_
    refine r_aload_n (pc' := 16) (kX11_qDropsToBracket_0 7 rfl) rfl rfl ?_
    refine s_get (x := (φ 11 90 198)) (pc' := 19) (kX11_qDropsToBracket_0 8 rfl) rfl fkX11_318 rfl rfl rfl (kz198 Ln) rfl ?_
    refine r_iconst 1 (pc' := 20) (kX11_qDropsToBracket_0 9 rfl) rfl (by unfold inR; omega) ?_
    have g2 := h.1
    have h := h.2
    refine r_isub (pc' := 21) (kX11_qDropsToBracket_0 10 rfl) rfl g2 ?_
    have g3 := h.1
    have h := h.2
    refine s_iald (x := (α 264 ((φ 11 90 198) - 1))) (pc' := 22) (kX11_qDropsToBracket_0 11 rfl) rfl (kz264 Ln) g3 rfl ?_
    refine s_callS (As := [(0, (α 264 ((φ 11 90 198) - 1)))]) (S := []) (S2 := fun z => [(0, z)]) (pc' := 25) (kX11_qDropsToBracket_0 12 rfl) rfl rfl nkX11_qIsBracket mlX11_567 scX11_qIsBracket rfl (Nat.le_of_ble_eq_true rfl) (Nat.le_of_ble_eq_true rfl) h (fun z => rfl) (fun r4 φ4 α4 h => ?_)
    refine r_if_ne (t := 35) (pc' := 28) (kX11_qDropsToBracket_0 13 rfl) rfl rfl (fun c5 => ?_) (fun c5 => ?_)
    · have h := h.1 c5
      exact s_vret (kX11_qDropsToBracket_0 17 rfl) rfl h
    · have h := h.2 c5
      refine r_aload_n (pc' := 29) (kX11_qDropsToBracket_0 14 rfl) rfl rfl ?_
      refine s_callV (As := []) (o := 198) (S := []) (S2 := fun z => []) (pc' := 32) (kX11_qDropsToBracket_0 15 rfl) rfl rfl nkX11_qDrops mlX11_570 imX11_qDrops rfl slX11_qDrops rfl (Nat.le_of_ble_eq_true rfl) (Nat.le_of_ble_eq_true rfl) (kz198 Ln) h (fun z => rfl) (fun r6 φ6 α6 h => ?_)
      refine r_goto (pc' := 0) (kX11_qDropsToBracket_0 16 rfl) rfl ?_
      exact r_weak (L' := [(2, 198)]) ⟨Or.inl rfl, trivial⟩ (h Ln)
theorem vX11_qWordHere_0 {d : Nat} {φ : aF} {α : aA} {Q : Int → aF → aA → Prop} (h : (eX11_isHere d 251 φ α (fun r1 φ1 α1 =>
   ((r1 = 0 →
   (eX11_isHere d 252 φ1 α1 (fun r3 φ3 α3 =>
     ((r3 = 0 →
     (eX11_isHere d 253 φ3 α3 (fun r5 φ5 α5 =>
       ((r5 = 0 →
       (eX11_isHere d 254 φ5 α5 (fun r7 φ7 α7 =>
         ((r7 = 0 →
         ((2 ≤ (φ7 11 47 198) →
           (eX11_isHere d 256 φ7 α7 (fun r10 φ10 α10 =>
             ((r10 = 0 →
             (eX11_isHere d 257 φ10 α10 (fun r12 φ12 α12 =>
               ((r12 = 0 →
               ((2 ≤ (φ12 11 47 198) →
                 (eX11_isHere d 259 φ12 α12 (fun r15 φ15 α15 =>
                   ((r15 = 0 →
                   (eX11_isHere d 260 φ15 α15 (fun r17 φ17 α17 =>
                     ((r17 = 0 →
                     (eX11_isHere d 261 φ17 α17 (fun r19 φ19 α19 =>
                       ((r19 = 0 →
                       (eX11_isHere d 262 φ19 α19 (fun r21 φ21 α21 =>
                         ((r21 = 0 →
                         (Q (-1) φ21 α21)) ∧
                         (¬ (r21 = 0) →
                         (Q 11 φ21 α21)))))) ∧
                       (¬ (r19 = 0) →
                       (Q 10 φ19 α19)))))) ∧
                     (¬ (r17 = 0) →
                     (Q 9 φ17 α17)))))) ∧
                   (¬ (r15 = 0) →
                   (Q 8 φ15 α15)))))) ∧
                 (¬ (2 ≤ (φ12 11 47 198)) →
                 (eX11_isHere d 258 φ12 α12 (fun r23 φ23 α23 =>
                   ((r23 = 0 →
                   (eX11_isHere d 259 φ23 α23 (fun r25 φ25 α25 =>
                     ((r25 = 0 →
                     (eX11_isHere d 260 φ25 α25 (fun r27 φ27 α27 =>
                       ((r27 = 0 →
                       (eX11_isHere d 261 φ27 α27 (fun r29 φ29 α29 =>
                         ((r29 = 0 →
                         (eX11_isHere d 262 φ29 α29 (fun r31 φ31 α31 =>
                           ((r31 = 0 →
                           (Q (-1) φ31 α31)) ∧
                           (¬ (r31 = 0) →
                           (Q 11 φ31 α31)))))) ∧
                         (¬ (r29 = 0) →
                         (Q 10 φ29 α29)))))) ∧
                       (¬ (r27 = 0) →
                       (Q 9 φ27 α27)))))) ∧
                     (¬ (r25 = 0) →
                     (Q 8 φ25 α25)))))) ∧
                   (¬ (r23 = 0) →
                   (Q 7 φ23 α23)))))))) ∧
               (¬ (r12 = 0) →
               (Q 6 φ12 α12)))))) ∧
             (¬ (r10 = 0) →
             (Q 5 φ10 α10)))))) ∧
           (¬ (2 ≤ (φ7 11 47 198)) →
           (eX11_isHere d 255 φ7 α7 (fun r33 φ33 α33 =>
             ((r33 = 0 →
             (eX11_isHere d 256 φ33 α33 (fun r35 φ35 α35 =>
               ((r35 = 0 →
               (eX11_isHere d 257 φ35 α35 (fun r37 φ37 α37 =>
                 ((r37 = 0 →
                 ((2 ≤ (φ37 11 47 198) →
                   (eX11_isHere d 259 φ37 α37 (fun r40 φ40 α40 =>
                     ((r40 = 0 →
                     (eX11_isHere d 260 φ40 α40 (fun r42 φ42 α42 =>
                       ((r42 = 0 →
                       (eX11_isHere d 261 φ42 α42 (fun r44 φ44 α44 =>
                         ((r44 = 0 →
                         (eX11_isHere d 262 φ44 α44 (fun r46 φ46 α46 =>
                           ((r46 = 0 →
                           (Q (-1) φ46 α46)) ∧
                           (¬ (r46 = 0) →
                           (Q 11 φ46 α46)))))) ∧
                         (¬ (r44 = 0) →
                         (Q 10 φ44 α44)))))) ∧
                       (¬ (r42 = 0) →
                       (Q 9 φ42 α42)))))) ∧
                     (¬ (r40 = 0) →
                     (Q 8 φ40 α40)))))) ∧
                   (¬ (2 ≤ (φ37 11 47 198)) →
                   (eX11_isHere d 258 φ37 α37 (fun r48 φ48 α48 =>
                     ((r48 = 0 →
                     (eX11_isHere d 259 φ48 α48 (fun r50 φ50 α50 =>
                       ((r50 = 0 →
                       (eX11_isHere d 260 φ50 α50 (fun r52 φ52 α52 =>
                         ((r52 = 0 →
                         (eX11_isHere d 261 φ52 α52 (fun r54 φ54 α54 =>
                           ((r54 = 0 →
                           (eX11_isHere d 262 φ54 α54 (fun r56 φ56 α56 =>
                             ((r56 = 0 →
                             (Q (-1) φ56 α56)) ∧
                             (¬ (r56 = 0) →
                             (Q 11 φ56 α56)))))) ∧
                           (¬ (r54 = 0) →
                           (Q 10 φ54 α54)))))) ∧
                         (¬ (r52 = 0) →
                         (Q 9 φ52 α52)))))) ∧
                       (¬ (r50 = 0) →
                       (Q 8 φ50 α50)))))) ∧
                     (¬ (r48 = 0) →
                     (Q 7 φ48 α48)))))))) ∧
                 (¬ (r37 = 0) →
                 (Q 6 φ37 α37)))))) ∧
               (¬ (r35 = 0) →
               (Q 5 φ35 α35)))))) ∧
             (¬ (r33 = 0) →
             (Q 4 φ33 α33)))))))) ∧
         (¬ (r7 = 0) →
         (Q 3 φ7 α7)))))) ∧
       (¬ (r5 = 0) →
       (Q 2 φ5 α5)))))) ∧
     (¬ (r3 = 0) →
     (Q 1 φ3 α3)))))) ∧
   (¬ (r1 = 0) →
   (Q 0 φ1 α1)))))) : eX11_qWordHere (d + 1)  φ α Q := by
  intro Ln
  refine r_aload_n (pc' := 1) (kX11_qWordHere_0 0 rfl) rfl rfl ?_
  refine r_aload_n (pc' := 2) (kX11_qWordHere_0 1 rfl) rfl rfl ?_
  refine s_getr (v := 251) (pc' := 5) (kX11_qWordHere_0 2 rfl) rfl fkX11_176 rfl rfl (kz198 Ln) rfl (by decide) ?_
  refine s_callV (As := [(2, 251)]) (o := 198) (S := []) (S2 := fun z => [(0, z)]) (pc' := 8) (kX11_qWordHere_0 3 rfl) rfl rfl nkX11_isHere mlX11_250 imX11_isHere rfl slX11_isHere rfl (Nat.le_of_ble_eq_true rfl) (Nat.le_of_ble_eq_true rfl) (kz198 Ln) h (fun z => rfl) (fun r1 φ1 α1 h => ?_)
  refine r_if_eq (t := 13) (pc' := 11) (kX11_qWordHere_0 4 rfl) rfl rfl (fun c2 => ?_) (fun c2 => ?_)
  · have h := h.1 c2
    refine r_aload_n (pc' := 14) (kX11_qWordHere_0 7 rfl) rfl rfl ?_
    refine r_aload_n (pc' := 15) (kX11_qWordHere_0 8 rfl) rfl rfl ?_
    refine s_getr (v := 252) (pc' := 18) (kX11_qWordHere_0 9 rfl) rfl fkX11_179 rfl rfl (kz198 Ln) rfl (by decide) ?_
    refine s_callV (As := [(2, 252)]) (o := 198) (S := []) (S2 := fun z => [(0, z)]) (pc' := 21) (kX11_qWordHere_0 10 rfl) rfl rfl nkX11_isHere mlX11_250 imX11_isHere rfl slX11_isHere rfl (Nat.le_of_ble_eq_true rfl) (Nat.le_of_ble_eq_true rfl) (kz198 Ln) h (fun z => rfl) (fun r3 φ3 α3 h => ?_)
    refine r_if_eq (t := 26) (pc' := 24) (kX11_qWordHere_0 11 rfl) rfl rfl (fun c4 => ?_) (fun c4 => ?_)
    · have h := h.1 c4
      refine r_aload_n (pc' := 27) (kX11_qWordHere_0 14 rfl) rfl rfl ?_
      refine r_aload_n (pc' := 28) (kX11_qWordHere_0 15 rfl) rfl rfl ?_
      refine s_getr (v := 253) (pc' := 31) (kX11_qWordHere_0 16 rfl) rfl fkX11_182 rfl rfl (kz198 Ln) rfl (by decide) ?_
      refine s_callV (As := [(2, 253)]) (o := 198) (S := []) (S2 := fun z => [(0, z)]) (pc' := 34) (kX11_qWordHere_0 17 rfl) rfl rfl nkX11_isHere mlX11_250 imX11_isHere rfl slX11_isHere rfl (Nat.le_of_ble_eq_true rfl) (Nat.le_of_ble_eq_true rfl) (kz198 Ln) h (fun z => rfl) (fun r5 φ5 α5 h => ?_)
      refine r_if_eq (t := 39) (pc' := 37) (kX11_qWordHere_0 18 rfl) rfl rfl (fun c6 => ?_) (fun c6 => ?_)
      · have h := h.1 c6
        refine r_aload_n (pc' := 40) (kX11_qWordHere_0 21 rfl) rfl rfl ?_
        refine r_aload_n (pc' := 41) (kX11_qWordHere_0 22 rfl) rfl rfl ?_
        refine s_getr (v := 254) (pc' := 44) (kX11_qWordHere_0 23 rfl) rfl fkX11_185 rfl rfl (kz198 Ln) rfl (by decide) ?_
        refine s_callV (As := [(2, 254)]) (o := 198) (S := []) (S2 := fun z => [(0, z)]) (pc' := 47) (kX11_qWordHere_0 24 rfl) rfl rfl nkX11_isHere mlX11_250 imX11_isHere rfl slX11_isHere rfl (Nat.le_of_ble_eq_true rfl) (Nat.le_of_ble_eq_true rfl) (kz198 Ln) h (fun z => rfl) (fun r7 φ7 α7 h => ?_)
        refine r_if_eq (t := 52) (pc' := 50) (kX11_qWordHere_0 25 rfl) rfl rfl (fun c8 => ?_) (fun c8 => ?_)
        · have h := h.1 c8
          refine r_aload_n (pc' := 53) (kX11_qWordHere_0 28 rfl) rfl rfl ?_
          refine s_get (x := (φ7 11 47 198)) (pc' := 56) (kX11_qWordHere_0 29 rfl) rfl fkX11_285 rfl rfl rfl (kz198 Ln) rfl ?_
          refine r_iconst 2 (pc' := 57) (kX11_qWordHere_0 30 rfl) rfl (by unfold inR; omega) ?_
          refine r_icmp_ge (t := 73) (pc' := 60) (kX11_qWordHere_0 31 rfl) rfl rfl (fun c9 => ?_) (fun c9 => ?_)
          · have h := h.1 c9
            refine r_aload_n (pc' := 74) (kX11_qWordHere_0 39 rfl) rfl rfl ?_
            refine r_aload_n (pc' := 75) (kX11_qWordHere_0 40 rfl) rfl rfl ?_
            refine s_getr (v := 256) (pc' := 78) (kX11_qWordHere_0 41 rfl) rfl fkX11_191 rfl rfl (kz198 Ln) rfl (by decide) ?_
            refine s_callV (As := [(2, 256)]) (o := 198) (S := []) (S2 := fun z => [(0, z)]) (pc' := 81) (kX11_qWordHere_0 42 rfl) rfl rfl nkX11_isHere mlX11_250 imX11_isHere rfl slX11_isHere rfl (Nat.le_of_ble_eq_true rfl) (Nat.le_of_ble_eq_true rfl) (kz198 Ln) h (fun z => rfl) (fun r10 φ10 α10 h => ?_)
            refine r_if_eq (t := 86) (pc' := 84) (kX11_qWordHere_0 43 rfl) rfl rfl (fun c11 => ?_) (fun c11 => ?_)
            · have h := h.1 c11
              refine r_aload_n (pc' := 87) (kX11_qWordHere_0 46 rfl) rfl rfl ?_
              refine r_aload_n (pc' := 88) (kX11_qWordHere_0 47 rfl) rfl rfl ?_
              refine s_getr (v := 257) (pc' := 91) (kX11_qWordHere_0 48 rfl) rfl fkX11_194 rfl rfl (kz198 Ln) rfl (by decide) ?_
              refine s_callV (As := [(2, 257)]) (o := 198) (S := []) (S2 := fun z => [(0, z)]) (pc' := 94) (kX11_qWordHere_0 49 rfl) rfl rfl nkX11_isHere mlX11_250 imX11_isHere rfl slX11_isHere rfl (Nat.le_of_ble_eq_true rfl) (Nat.le_of_ble_eq_true rfl) (kz198 Ln) h (fun z => rfl) (fun r12 φ12 α12 h => ?_)
              refine r_if_eq (t := 100) (pc' := 97) (kX11_qWordHere_0 50 rfl) rfl rfl (fun c13 => ?_) (fun c13 => ?_)
              · have h := h.1 c13
                refine r_aload_n (pc' := 101) (kX11_qWordHere_0 53 rfl) rfl rfl ?_
                refine s_get (x := (φ12 11 47 198)) (pc' := 104) (kX11_qWordHere_0 54 rfl) rfl fkX11_285 rfl rfl rfl (kz198 Ln) rfl ?_
                refine r_iconst 2 (pc' := 105) (kX11_qWordHere_0 55 rfl) rfl (by unfold inR; omega) ?_
                refine r_icmp_ge (t := 122) (pc' := 108) (kX11_qWordHere_0 56 rfl) rfl rfl (fun c14 => ?_) (fun c14 => ?_)
                · have h := h.1 c14
                  refine r_aload_n (pc' := 123) (kX11_qWordHere_1 4 rfl) rfl rfl ?_
                  refine r_aload_n (pc' := 124) (kX11_qWordHere_1 5 rfl) rfl rfl ?_
                  refine s_getr (v := 259) (pc' := 127) (kX11_qWordHere_1 6 rfl) rfl fkX11_200 rfl rfl (kz198 Ln) rfl (by decide) ?_
                  refine s_callV (As := [(2, 259)]) (o := 198) (S := []) (S2 := fun z => [(0, z)]) (pc' := 130) (kX11_qWordHere_1 7 rfl) rfl rfl nkX11_isHere mlX11_250 imX11_isHere rfl slX11_isHere rfl (Nat.le_of_ble_eq_true rfl) (Nat.le_of_ble_eq_true rfl) (kz198 Ln) h (fun z => rfl) (fun r15 φ15 α15 h => ?_)
                  refine r_if_eq (t := 136) (pc' := 133) (kX11_qWordHere_1 8 rfl) rfl rfl (fun c16 => ?_) (fun c16 => ?_)
                  · have h := h.1 c16
                    refine r_aload_n (pc' := 137) (kX11_qWordHere_1 11 rfl) rfl rfl ?_
                    refine r_aload_n (pc' := 138) (kX11_qWordHere_1 12 rfl) rfl rfl ?_
                    refine s_getr (v := 260) (pc' := 141) (kX11_qWordHere_1 13 rfl) rfl fkX11_203 rfl rfl (kz198 Ln) rfl (by decide) ?_
                    refine s_callV (As := [(2, 260)]) (o := 198) (S := []) (S2 := fun z => [(0, z)]) (pc' := 144) (kX11_qWordHere_1 14 rfl) rfl rfl nkX11_isHere mlX11_250 imX11_isHere rfl slX11_isHere rfl (Nat.le_of_ble_eq_true rfl) (Nat.le_of_ble_eq_true rfl) (kz198 Ln) h (fun z => rfl) (fun r17 φ17 α17 h => ?_)
                    refine r_if_eq (t := 150) (pc' := 147) (kX11_qWordHere_1 15 rfl) rfl rfl (fun c18 => ?_) (fun c18 => ?_)
                    · have h := h.1 c18
                      refine r_aload_n (pc' := 151) (kX11_qWordHere_1 18 rfl) rfl rfl ?_
                      refine r_aload_n (pc' := 152) (kX11_qWordHere_1 19 rfl) rfl rfl ?_
                      refine s_getr (v := 261) (pc' := 155) (kX11_qWordHere_1 20 rfl) rfl fkX11_206 rfl rfl (kz198 Ln) rfl (by decide) ?_
                      refine s_callV (As := [(2, 261)]) (o := 198) (S := []) (S2 := fun z => [(0, z)]) (pc' := 158) (kX11_qWordHere_1 21 rfl) rfl rfl nkX11_isHere mlX11_250 imX11_isHere rfl slX11_isHere rfl (Nat.le_of_ble_eq_true rfl) (Nat.le_of_ble_eq_true rfl) (kz198 Ln) h (fun z => rfl) (fun r19 φ19 α19 h => ?_)
                      refine r_if_eq (t := 164) (pc' := 161) (kX11_qWordHere_1 22 rfl) rfl rfl (fun c20 => ?_) (fun c20 => ?_)
                      · have h := h.1 c20
                        refine r_aload_n (pc' := 165) (kX11_qWordHere_1 25 rfl) rfl rfl ?_
                        refine r_aload_n (pc' := 166) (kX11_qWordHere_1 26 rfl) rfl rfl ?_
                        refine s_getr (v := 262) (pc' := 169) (kX11_qWordHere_1 27 rfl) rfl fkX11_209 rfl rfl (kz198 Ln) rfl (by decide) ?_
                        refine s_callV (As := [(2, 262)]) (o := 198) (S := []) (S2 := fun z => [(0, z)]) (pc' := 172) (kX11_qWordHere_1 28 rfl) rfl rfl nkX11_isHere mlX11_250 imX11_isHere rfl slX11_isHere rfl (Nat.le_of_ble_eq_true rfl) (Nat.le_of_ble_eq_true rfl) (kz198 Ln) h (fun z => rfl) (fun r21 φ21 α21 h => ?_)
                        refine r_if_eq (t := 178) (pc' := 175) (kX11_qWordHere_1 29 rfl) rfl rfl (fun c22 => ?_) (fun c22 => ?_)
                        · have h := h.1 c22
                          refine r_iconst (-1) (pc' := 179) (kX11_qWordHere_1 32 rfl) rfl (by unfold inR; omega) ?_
                          exact s_iret (kX11_qWordHere_1 33 rfl) rfl h
                        · have h := h.2 c22
                          refine r_bipush 11 (pc' := 177) (kX11_qWordHere_1 30 rfl) rfl ⟨by unfold inR; omega, rfl⟩ ?_
                          exact s_iret (kX11_qWordHere_1 31 rfl) rfl h
                      · have h := h.2 c20
                        refine r_bipush 10 (pc' := 163) (kX11_qWordHere_1 23 rfl) rfl ⟨by unfold inR; omega, rfl⟩ ?_
                        exact s_iret (kX11_qWordHere_1 24 rfl) rfl h
                    · have h := h.2 c18
                      refine r_bipush 9 (pc' := 149) (kX11_qWordHere_1 16 rfl) rfl ⟨by unfold inR; omega, rfl⟩ ?_
                      exact s_iret (kX11_qWordHere_1 17 rfl) rfl h
                  · have h := h.2 c16
                    refine r_bipush 8 (pc' := 135) (kX11_qWordHere_1 9 rfl) rfl ⟨by unfold inR; omega, rfl⟩ ?_
                    exact s_iret (kX11_qWordHere_1 10 rfl) rfl h
                · have h := h.2 c14
                  refine r_aload_n (pc' := 109) (kX11_qWordHere_0 57 rfl) rfl rfl ?_
                  refine r_aload_n (pc' := 110) (kX11_qWordHere_0 58 rfl) rfl rfl ?_
                  refine s_getr (v := 258) (pc' := 113) (kX11_qWordHere_0 59 rfl) rfl fkX11_197 rfl rfl (kz198 Ln) rfl (by decide) ?_
                  refine s_callV (As := [(2, 258)]) (o := 198) (S := []) (S2 := fun z => [(0, z)]) (pc' := 116) (kX11_qWordHere_1 0 rfl) rfl rfl nkX11_isHere mlX11_250 imX11_isHere rfl slX11_isHere rfl (Nat.le_of_ble_eq_true rfl) (Nat.le_of_ble_eq_true rfl) (kz198 Ln) h (fun z => rfl) (fun r23 φ23 α23 h => ?_)
                  refine r_if_eq (t := 122) (pc' := 119) (kX11_qWordHere_1 1 rfl) rfl rfl (fun c24 => ?_) (fun c24 => ?_)
                  · have h := h.1 c24
                    refine r_aload_n (pc' := 123) (kX11_qWordHere_1 4 rfl) rfl rfl ?_
                    refine r_aload_n (pc' := 124) (kX11_qWordHere_1 5 rfl) rfl rfl ?_
                    refine s_getr (v := 259) (pc' := 127) (kX11_qWordHere_1 6 rfl) rfl fkX11_200 rfl rfl (kz198 Ln) rfl (by decide) ?_
                    refine s_callV (As := [(2, 259)]) (o := 198) (S := []) (S2 := fun z => [(0, z)]) (pc' := 130) (kX11_qWordHere_1 7 rfl) rfl rfl nkX11_isHere mlX11_250 imX11_isHere rfl slX11_isHere rfl (Nat.le_of_ble_eq_true rfl) (Nat.le_of_ble_eq_true rfl) (kz198 Ln) h (fun z => rfl) (fun r25 φ25 α25 h => ?_)
                    refine r_if_eq (t := 136) (pc' := 133) (kX11_qWordHere_1 8 rfl) rfl rfl (fun c26 => ?_) (fun c26 => ?_)
                    · have h := h.1 c26
                      refine r_aload_n (pc' := 137) (kX11_qWordHere_1 11 rfl) rfl rfl ?_
                      refine r_aload_n (pc' := 138) (kX11_qWordHere_1 12 rfl) rfl rfl ?_
                      refine s_getr (v := 260) (pc' := 141) (kX11_qWordHere_1 13 rfl) rfl fkX11_203 rfl rfl (kz198 Ln) rfl (by decide) ?_
                      refine s_callV (As := [(2, 260)]) (o := 198) (S := []) (S2 := fun z => [(0, z)]) (pc' := 144) (kX11_qWordHere_1 14 rfl) rfl rfl nkX11_isHere mlX11_250 imX11_isHere rfl slX11_isHere rfl (Nat.le_of_ble_eq_true rfl) (Nat.le_of_ble_eq_true rfl) (kz198 Ln) h (fun z => rfl) (fun r27 φ27 α27 h => ?_)
                      refine r_if_eq (t := 150) (pc' := 147) (kX11_qWordHere_1 15 rfl) rfl rfl (fun c28 => ?_) (fun c28 => ?_)
                      · have h := h.1 c28
                        refine r_aload_n (pc' := 151) (kX11_qWordHere_1 18 rfl) rfl rfl ?_
                        refine r_aload_n (pc' := 152) (kX11_qWordHere_1 19 rfl) rfl rfl ?_
                        refine s_getr (v := 261) (pc' := 155) (kX11_qWordHere_1 20 rfl) rfl fkX11_206 rfl rfl (kz198 Ln) rfl (by decide) ?_
                        refine s_callV (As := [(2, 261)]) (o := 198) (S := []) (S2 := fun z => [(0, z)]) (pc' := 158) (kX11_qWordHere_1 21 rfl) rfl rfl nkX11_isHere mlX11_250 imX11_isHere rfl slX11_isHere rfl (Nat.le_of_ble_eq_true rfl) (Nat.le_of_ble_eq_true rfl) (kz198 Ln) h (fun z => rfl) (fun r29 φ29 α29 h => ?_)
                        refine r_if_eq (t := 164) (pc' := 161) (kX11_qWordHere_1 22 rfl) rfl rfl (fun c30 => ?_) (fun c30 => ?_)
                        · have h := h.1 c30
                          refine r_aload_n (pc' := 165) (kX11_qWordHere_1 25 rfl) rfl rfl ?_
                          refine r_aload_n (pc' := 166) (kX11_qWordHere_1 26 rfl) rfl rfl ?_
                          refine s_getr (v := 262) (pc' := 169) (kX11_qWordHere_1 27 rfl) rfl fkX11_209 rfl rfl (kz198 Ln) rfl (by decide) ?_
                          refine s_callV (As := [(2, 262)]) (o := 198) (S := []) (S2 := fun z => [(0, z)]) (pc' := 172) (kX11_qWordHere_1 28 rfl) rfl rfl nkX11_isHere mlX11_250 imX11_isHere rfl slX11_isHere rfl (Nat.le_of_ble_eq_true rfl) (Nat.le_of_ble_eq_true rfl) (kz198 Ln) h (fun z => rfl) (fun r31 φ31 α31 h => ?_)
                          refine r_if_eq (t := 178) (pc' := 175) (kX11_qWordHere_1 29 rfl) rfl rfl (fun c32 => ?_) (fun c32 => ?_)
                          · have h := h.1 c32
                            refine r_iconst (-1) (pc' := 179) (kX11_qWordHere_1 32 rfl) rfl (by unfold inR; omega) ?_
                            exact s_iret (kX11_qWordHere_1 33 rfl) rfl h
                          · have h := h.2 c32
                            refine r_bipush 11 (pc' := 177) (kX11_qWordHere_1 30 rfl) rfl ⟨by unfold inR; omega, rfl⟩ ?_
                            exact s_iret (kX11_qWordHere_1 31 rfl) rfl h
                        · have h := h.2 c30
                          refine r_bipush 10 (pc' := 163) (kX11_qWordHere_1 23 rfl) rfl ⟨by unfold inR; omega, rfl⟩ ?_
                          exact s_iret (kX11_qWordHere_1 24 rfl) rfl h
                      · have h := h.2 c28
                        refine r_bipush 9 (pc' := 149) (kX11_qWordHere_1 16 rfl) rfl ⟨by unfold inR; omega, rfl⟩ ?_
                        exact s_iret (kX11_qWordHere_1 17 rfl) rfl h
                    · have h := h.2 c26
                      refine r_bipush 8 (pc' := 135) (kX11_qWordHere_1 9 rfl) rfl ⟨by unfold inR; omega, rfl⟩ ?_
                      exact s_iret (kX11_qWordHere_1 10 rfl) rfl h
                  · have h := h.2 c24
                    refine r_bipush 7 (pc' := 121) (kX11_qWordHere_1 2 rfl) rfl ⟨by unfold inR; omega, rfl⟩ ?_
                    exact s_iret (kX11_qWordHere_1 3 rfl) rfl h
              · have h := h.2 c13
                refine r_bipush 6 (pc' := 99) (kX11_qWordHere_0 51 rfl) rfl ⟨by unfold inR; omega, rfl⟩ ?_
                exact s_iret (kX11_qWordHere_0 52 rfl) rfl h
            · have h := h.2 c11
              refine r_iconst 5 (pc' := 85) (kX11_qWordHere_0 44 rfl) rfl (by unfold inR; omega) ?_
              exact s_iret (kX11_qWordHere_0 45 rfl) rfl h
          · have h := h.2 c9
            refine r_aload_n (pc' := 61) (kX11_qWordHere_0 32 rfl) rfl rfl ?_
            refine r_aload_n (pc' := 62) (kX11_qWordHere_0 33 rfl) rfl rfl ?_
            refine s_getr (v := 255) (pc' := 65) (kX11_qWordHere_0 34 rfl) rfl fkX11_188 rfl rfl (kz198 Ln) rfl (by decide) ?_
            refine s_callV (As := [(2, 255)]) (o := 198) (S := []) (S2 := fun z => [(0, z)]) (pc' := 68) (kX11_qWordHere_0 35 rfl) rfl rfl nkX11_isHere mlX11_250 imX11_isHere rfl slX11_isHere rfl (Nat.le_of_ble_eq_true rfl) (Nat.le_of_ble_eq_true rfl) (kz198 Ln) h (fun z => rfl) (fun r33 φ33 α33 h => ?_)
            refine r_if_eq (t := 73) (pc' := 71) (kX11_qWordHere_0 36 rfl) rfl rfl (fun c34 => ?_) (fun c34 => ?_)
            · have h := h.1 c34
              refine r_aload_n (pc' := 74) (kX11_qWordHere_0 39 rfl) rfl rfl ?_
              refine r_aload_n (pc' := 75) (kX11_qWordHere_0 40 rfl) rfl rfl ?_
              refine s_getr (v := 256) (pc' := 78) (kX11_qWordHere_0 41 rfl) rfl fkX11_191 rfl rfl (kz198 Ln) rfl (by decide) ?_
              refine s_callV (As := [(2, 256)]) (o := 198) (S := []) (S2 := fun z => [(0, z)]) (pc' := 81) (kX11_qWordHere_0 42 rfl) rfl rfl nkX11_isHere mlX11_250 imX11_isHere rfl slX11_isHere rfl (Nat.le_of_ble_eq_true rfl) (Nat.le_of_ble_eq_true rfl) (kz198 Ln) h (fun z => rfl) (fun r35 φ35 α35 h => ?_)
              refine r_if_eq (t := 86) (pc' := 84) (kX11_qWordHere_0 43 rfl) rfl rfl (fun c36 => ?_) (fun c36 => ?_)
              · have h := h.1 c36
                refine r_aload_n (pc' := 87) (kX11_qWordHere_0 46 rfl) rfl rfl ?_
                refine r_aload_n (pc' := 88) (kX11_qWordHere_0 47 rfl) rfl rfl ?_
                refine s_getr (v := 257) (pc' := 91) (kX11_qWordHere_0 48 rfl) rfl fkX11_194 rfl rfl (kz198 Ln) rfl (by decide) ?_
                refine s_callV (As := [(2, 257)]) (o := 198) (S := []) (S2 := fun z => [(0, z)]) (pc' := 94) (kX11_qWordHere_0 49 rfl) rfl rfl nkX11_isHere mlX11_250 imX11_isHere rfl slX11_isHere rfl (Nat.le_of_ble_eq_true rfl) (Nat.le_of_ble_eq_true rfl) (kz198 Ln) h (fun z => rfl) (fun r37 φ37 α37 h => ?_)
                refine r_if_eq (t := 100) (pc' := 97) (kX11_qWordHere_0 50 rfl) rfl rfl (fun c38 => ?_) (fun c38 => ?_)
                · have h := h.1 c38
                  refine r_aload_n (pc' := 101) (kX11_qWordHere_0 53 rfl) rfl rfl ?_
                  refine s_get (x := (φ37 11 47 198)) (pc' := 104) (kX11_qWordHere_0 54 rfl) rfl fkX11_285 rfl rfl rfl (kz198 Ln) rfl ?_
                  refine r_iconst 2 (pc' := 105) (kX11_qWordHere_0 55 rfl) rfl (by unfold inR; omega) ?_
                  refine r_icmp_ge (t := 122) (pc' := 108) (kX11_qWordHere_0 56 rfl) rfl rfl (fun c39 => ?_) (fun c39 => ?_)
                  · have h := h.1 c39
                    refine r_aload_n (pc' := 123) (kX11_qWordHere_1 4 rfl) rfl rfl ?_
                    refine r_aload_n (pc' := 124) (kX11_qWordHere_1 5 rfl) rfl rfl ?_
                    refine s_getr (v := 259) (pc' := 127) (kX11_qWordHere_1 6 rfl) rfl fkX11_200 rfl rfl (kz198 Ln) rfl (by decide) ?_
                    refine s_callV (As := [(2, 259)]) (o := 198) (S := []) (S2 := fun z => [(0, z)]) (pc' := 130) (kX11_qWordHere_1 7 rfl) rfl rfl nkX11_isHere mlX11_250 imX11_isHere rfl slX11_isHere rfl (Nat.le_of_ble_eq_true rfl) (Nat.le_of_ble_eq_true rfl) (kz198 Ln) h (fun z => rfl) (fun r40 φ40 α40 h => ?_)
                    refine r_if_eq (t := 136) (pc' := 133) (kX11_qWordHere_1 8 rfl) rfl rfl (fun c41 => ?_) (fun c41 => ?_)
                    · have h := h.1 c41
                      refine r_aload_n (pc' := 137) (kX11_qWordHere_1 11 rfl) rfl rfl ?_
                      refine r_aload_n (pc' := 138) (kX11_qWordHere_1 12 rfl) rfl rfl ?_
                      refine s_getr (v := 260) (pc' := 141) (kX11_qWordHere_1 13 rfl) rfl fkX11_203 rfl rfl (kz198 Ln) rfl (by decide) ?_
                      refine s_callV (As := [(2, 260)]) (o := 198) (S := []) (S2 := fun z => [(0, z)]) (pc' := 144) (kX11_qWordHere_1 14 rfl) rfl rfl nkX11_isHere mlX11_250 imX11_isHere rfl slX11_isHere rfl (Nat.le_of_ble_eq_true rfl) (Nat.le_of_ble_eq_true rfl) (kz198 Ln) h (fun z => rfl) (fun r42 φ42 α42 h => ?_)
                      refine r_if_eq (t := 150) (pc' := 147) (kX11_qWordHere_1 15 rfl) rfl rfl (fun c43 => ?_) (fun c43 => ?_)
                      · have h := h.1 c43
                        refine r_aload_n (pc' := 151) (kX11_qWordHere_1 18 rfl) rfl rfl ?_
                        refine r_aload_n (pc' := 152) (kX11_qWordHere_1 19 rfl) rfl rfl ?_
                        refine s_getr (v := 261) (pc' := 155) (kX11_qWordHere_1 20 rfl) rfl fkX11_206 rfl rfl (kz198 Ln) rfl (by decide) ?_
                        refine s_callV (As := [(2, 261)]) (o := 198) (S := []) (S2 := fun z => [(0, z)]) (pc' := 158) (kX11_qWordHere_1 21 rfl) rfl rfl nkX11_isHere mlX11_250 imX11_isHere rfl slX11_isHere rfl (Nat.le_of_ble_eq_true rfl) (Nat.le_of_ble_eq_true rfl) (kz198 Ln) h (fun z => rfl) (fun r44 φ44 α44 h => ?_)
                        refine r_if_eq (t := 164) (pc' := 161) (kX11_qWordHere_1 22 rfl) rfl rfl (fun c45 => ?_) (fun c45 => ?_)
                        · have h := h.1 c45
                          refine r_aload_n (pc' := 165) (kX11_qWordHere_1 25 rfl) rfl rfl ?_
                          refine r_aload_n (pc' := 166) (kX11_qWordHere_1 26 rfl) rfl rfl ?_
                          refine s_getr (v := 262) (pc' := 169) (kX11_qWordHere_1 27 rfl) rfl fkX11_209 rfl rfl (kz198 Ln) rfl (by decide) ?_
                          refine s_callV (As := [(2, 262)]) (o := 198) (S := []) (S2 := fun z => [(0, z)]) (pc' := 172) (kX11_qWordHere_1 28 rfl) rfl rfl nkX11_isHere mlX11_250 imX11_isHere rfl slX11_isHere rfl (Nat.le_of_ble_eq_true rfl) (Nat.le_of_ble_eq_true rfl) (kz198 Ln) h (fun z => rfl) (fun r46 φ46 α46 h => ?_)
                          refine r_if_eq (t := 178) (pc' := 175) (kX11_qWordHere_1 29 rfl) rfl rfl (fun c47 => ?_) (fun c47 => ?_)
                          · have h := h.1 c47
                            refine r_iconst (-1) (pc' := 179) (kX11_qWordHere_1 32 rfl) rfl (by unfold inR; omega) ?_
                            exact s_iret (kX11_qWordHere_1 33 rfl) rfl h
                          · have h := h.2 c47
                            refine r_bipush 11 (pc' := 177) (kX11_qWordHere_1 30 rfl) rfl ⟨by unfold inR; omega, rfl⟩ ?_
                            exact s_iret (kX11_qWordHere_1 31 rfl) rfl h
                        · have h := h.2 c45
                          refine r_bipush 10 (pc' := 163) (kX11_qWordHere_1 23 rfl) rfl ⟨by unfold inR; omega, rfl⟩ ?_
                          exact s_iret (kX11_qWordHere_1 24 rfl) rfl h
                      · have h := h.2 c43
                        refine r_bipush 9 (pc' := 149) (kX11_qWordHere_1 16 rfl) rfl ⟨by unfold inR; omega, rfl⟩ ?_
                        exact s_iret (kX11_qWordHere_1 17 rfl) rfl h
                    · have h := h.2 c41
                      refine r_bipush 8 (pc' := 135) (kX11_qWordHere_1 9 rfl) rfl ⟨by unfold inR; omega, rfl⟩ ?_
                      exact s_iret (kX11_qWordHere_1 10 rfl) rfl h
                  · have h := h.2 c39
                    refine r_aload_n (pc' := 109) (kX11_qWordHere_0 57 rfl) rfl rfl ?_
                    refine r_aload_n (pc' := 110) (kX11_qWordHere_0 58 rfl) rfl rfl ?_
                    refine s_getr (v := 258) (pc' := 113) (kX11_qWordHere_0 59 rfl) rfl fkX11_197 rfl rfl (kz198 Ln) rfl (by decide) ?_
                    refine s_callV (As := [(2, 258)]) (o := 198) (S := []) (S2 := fun z => [(0, z)]) (pc' := 116) (kX11_qWordHere_1 0 rfl) rfl rfl nkX11_isHere mlX11_250 imX11_isHere rfl slX11_isHere rfl (Nat.le_of_ble_eq_true rfl) (Nat.le_of_ble_eq_true rfl) (kz198 Ln) h (fun z => rfl) (fun r48 φ48 α48 h => ?_)
                    refine r_if_eq (t := 122) (pc' := 119) (kX11_qWordHere_1 1 rfl) rfl rfl (fun c49 => ?_) (fun c49 => ?_)
                    · have h := h.1 c49
                      refine r_aload_n (pc' := 123) (kX11_qWordHere_1 4 rfl) rfl rfl ?_
                      refine r_aload_n (pc' := 124) (kX11_qWordHere_1 5 rfl) rfl rfl ?_
                      refine s_getr (v := 259) (pc' := 127) (kX11_qWordHere_1 6 rfl) rfl fkX11_200 rfl rfl (kz198 Ln) rfl (by decide) ?_
                      refine s_callV (As := [(2, 259)]) (o := 198) (S := []) (S2 := fun z => [(0, z)]) (pc' := 130) (kX11_qWordHere_1 7 rfl) rfl rfl nkX11_isHere mlX11_250 imX11_isHere rfl slX11_isHere rfl (Nat.le_of_ble_eq_true rfl) (Nat.le_of_ble_eq_true rfl) (kz198 Ln) h (fun z => rfl) (fun r50 φ50 α50 h => ?_)
                      refine r_if_eq (t := 136) (pc' := 133) (kX11_qWordHere_1 8 rfl) rfl rfl (fun c51 => ?_) (fun c51 => ?_)
                      · have h := h.1 c51
                        refine r_aload_n (pc' := 137) (kX11_qWordHere_1 11 rfl) rfl rfl ?_
                        refine r_aload_n (pc' := 138) (kX11_qWordHere_1 12 rfl) rfl rfl ?_
                        refine s_getr (v := 260) (pc' := 141) (kX11_qWordHere_1 13 rfl) rfl fkX11_203 rfl rfl (kz198 Ln) rfl (by decide) ?_
                        refine s_callV (As := [(2, 260)]) (o := 198) (S := []) (S2 := fun z => [(0, z)]) (pc' := 144) (kX11_qWordHere_1 14 rfl) rfl rfl nkX11_isHere mlX11_250 imX11_isHere rfl slX11_isHere rfl (Nat.le_of_ble_eq_true rfl) (Nat.le_of_ble_eq_true rfl) (kz198 Ln) h (fun z => rfl) (fun r52 φ52 α52 h => ?_)
                        refine r_if_eq (t := 150) (pc' := 147) (kX11_qWordHere_1 15 rfl) rfl rfl (fun c53 => ?_) (fun c53 => ?_)
                        · have h := h.1 c53
                          refine r_aload_n (pc' := 151) (kX11_qWordHere_1 18 rfl) rfl rfl ?_
                          refine r_aload_n (pc' := 152) (kX11_qWordHere_1 19 rfl) rfl rfl ?_
                          refine s_getr (v := 261) (pc' := 155) (kX11_qWordHere_1 20 rfl) rfl fkX11_206 rfl rfl (kz198 Ln) rfl (by decide) ?_
                          refine s_callV (As := [(2, 261)]) (o := 198) (S := []) (S2 := fun z => [(0, z)]) (pc' := 158) (kX11_qWordHere_1 21 rfl) rfl rfl nkX11_isHere mlX11_250 imX11_isHere rfl slX11_isHere rfl (Nat.le_of_ble_eq_true rfl) (Nat.le_of_ble_eq_true rfl) (kz198 Ln) h (fun z => rfl) (fun r54 φ54 α54 h => ?_)
                          refine r_if_eq (t := 164) (pc' := 161) (kX11_qWordHere_1 22 rfl) rfl rfl (fun c55 => ?_) (fun c55 => ?_)
                          · have h := h.1 c55
                            refine r_aload_n (pc' := 165) (kX11_qWordHere_1 25 rfl) rfl rfl ?_
                            refine r_aload_n (pc' := 166) (kX11_qWordHere_1 26 rfl) rfl rfl ?_
                            refine s_getr (v := 262) (pc' := 169) (kX11_qWordHere_1 27 rfl) rfl fkX11_209 rfl rfl (kz198 Ln) rfl (by decide) ?_
                            refine s_callV (As := [(2, 262)]) (o := 198) (S := []) (S2 := fun z => [(0, z)]) (pc' := 172) (kX11_qWordHere_1 28 rfl) rfl rfl nkX11_isHere mlX11_250 imX11_isHere rfl slX11_isHere rfl (Nat.le_of_ble_eq_true rfl) (Nat.le_of_ble_eq_true rfl) (kz198 Ln) h (fun z => rfl) (fun r56 φ56 α56 h => ?_)
                            refine r_if_eq (t := 178) (pc' := 175) (kX11_qWordHere_1 29 rfl) rfl rfl (fun c57 => ?_) (fun c57 => ?_)
                            · have h := h.1 c57
                              refine r_iconst (-1) (pc' := 179) (kX11_qWordHere_1 32 rfl) rfl (by unfold inR; omega) ?_
                              exact s_iret (kX11_qWordHere_1 33 rfl) rfl h
                            · have h := h.2 c57
                              refine r_bipush 11 (pc' := 177) (kX11_qWordHere_1 30 rfl) rfl ⟨by unfold inR; omega, rfl⟩ ?_
                              exact s_iret (kX11_qWordHere_1 31 rfl) rfl h
                          · have h := h.2 c55
                            refine r_bipush 10 (pc' := 163) (kX11_qWordHere_1 23 rfl) rfl ⟨by unfold inR; omega, rfl⟩ ?_
                            exact s_iret (kX11_qWordHere_1 24 rfl) rfl h
                        · have h := h.2 c53
                          refine r_bipush 9 (pc' := 149) (kX11_qWordHere_1 16 rfl) rfl ⟨by unfold inR; omega, rfl⟩ ?_
                          exact s_iret (kX11_qWordHere_1 17 rfl) rfl h
                      · have h := h.2 c51
                        refine r_bipush 8 (pc' := 135) (kX11_qWordHere_1 9 rfl) rfl ⟨by unfold inR; omega, rfl⟩ ?_
                        exact s_iret (kX11_qWordHere_1 10 rfl) rfl h
                    · have h := h.2 c49
                      refine r_bipush 7 (pc' := 121) (kX11_qWordHere_1 2 rfl) rfl ⟨by unfold inR; omega, rfl⟩ ?_
                      exact s_iret (kX11_qWordHere_1 3 rfl) rfl h
                · have h := h.2 c38
                  refine r_bipush 6 (pc' := 99) (kX11_qWordHere_0 51 rfl) rfl ⟨by unfold inR; omega, rfl⟩ ?_
                  exact s_iret (kX11_qWordHere_0 52 rfl) rfl h
              · have h := h.2 c36
                refine r_iconst 5 (pc' := 85) (kX11_qWordHere_0 44 rfl) rfl (by unfold inR; omega) ?_
                exact s_iret (kX11_qWordHere_0 45 rfl) rfl h
            · have h := h.2 c34
              refine r_iconst 4 (pc' := 72) (kX11_qWordHere_0 37 rfl) rfl (by unfold inR; omega) ?_
              exact s_iret (kX11_qWordHere_0 38 rfl) rfl h
        · have h := h.2 c8
          refine r_iconst 3 (pc' := 51) (kX11_qWordHere_0 26 rfl) rfl (by unfold inR; omega) ?_
          exact s_iret (kX11_qWordHere_0 27 rfl) rfl h
      · have h := h.2 c6
        refine r_iconst 2 (pc' := 38) (kX11_qWordHere_0 19 rfl) rfl (by unfold inR; omega) ?_
        exact s_iret (kX11_qWordHere_0 20 rfl) rfl h
    · have h := h.2 c4
      refine r_iconst 1 (pc' := 25) (kX11_qWordHere_0 12 rfl) rfl (by unfold inR; omega) ?_
      exact s_iret (kX11_qWordHere_0 13 rfl) rfl h
  · have h := h.2 c2
    refine r_iconst 0 (pc' := 12) (kX11_qWordHere_0 5 rfl) rfl (by unfold inR; omega) ?_
    exact s_iret (kX11_qWordHere_0 6 rfl) rfl h
theorem vX11_qWordOf_0 {d : Nat} {φ : aF} {α : aA} {Q : Int → aF → aA → Prop} {x1 : Int} {x2 : Int} (h : (eX11_qWordHere d  φ α (fun r1 φ1 α1 =>
   ((r1 < x1 →
   (Q (-1) φ1 α1)) ∧
   (¬ (r1 < x1) →
   ((x2 ≤ r1 →
     (Q (-1) φ1 α1)) ∧
     (¬ (x2 ≤ r1) →
     (eX11_isAllowed d r1 φ1 α1 (fun r4 φ4 α4 =>
       ((r4 = 0 →
       (Q (-1) φ4 α4)) ∧
       (¬ (r4 = 0) →
       (Q r1 φ4 α4)))))))))))) : eX11_qWordOf (d + 1) x1 x2 φ α Q := by
  intro Ln
  refine r_aload_n (pc' := 1) (kX11_qWordOf_0 0 rfl) rfl rfl ?_
  refine s_callV (As := []) (o := 198) (S := []) (S2 := fun z => [(0, z)]) (pc' := 4) (kX11_qWordOf_0 1 rfl) rfl rfl nkX11_qWordHere mlX11_573 imX11_qWordHere rfl slX11_qWordHere rfl (Nat.le_of_ble_eq_true rfl) (Nat.le_of_ble_eq_true rfl) (kz198 Ln) h (fun z => rfl) (fun r1 φ1 α1 h => ?_)
  refine r_istore_n (L' := [(2, 198), (0, x1), (0, x2), (0, r1)]) (pc' := 5) (kX11_qWordOf_0 2 rfl) rfl (Nat.le_of_ble_eq_true rfl) rfl ?_
  refine r_iload_n (pc' := 6) (kX11_qWordOf_0 3 rfl) rfl rfl ?_
  refine r_iload_n (pc' := 7) (kX11_qWordOf_0 4 rfl) rfl rfl ?_
  refine r_icmp_lt (t := 27) (pc' := 10) (kX11_qWordOf_0 5 rfl) rfl rfl (fun c2 => ?_) (fun c2 => ?_)
  · have h := h.1 c2
    refine r_iconst (-1) (pc' := 28) (kX11_qWordOf_0 15 rfl) rfl (by unfold inR; omega) ?_
    exact s_iret (kX11_qWordOf_0 16 rfl) rfl h
  · have h := h.2 c2
    refine r_iload_n (pc' := 11) (kX11_qWordOf_0 6 rfl) rfl rfl ?_
    refine r_iload_n (pc' := 12) (kX11_qWordOf_0 7 rfl) rfl rfl ?_
    refine r_icmp_ge (t := 27) (pc' := 15) (kX11_qWordOf_0 8 rfl) rfl rfl (fun c3 => ?_) (fun c3 => ?_)
    · have h := h.1 c3
      refine r_iconst (-1) (pc' := 28) (kX11_qWordOf_0 15 rfl) rfl (by unfold inR; omega) ?_
      exact s_iret (kX11_qWordOf_0 16 rfl) rfl h
    · have h := h.2 c3
      refine r_aload_n (pc' := 16) (kX11_qWordOf_0 9 rfl) rfl rfl ?_
      refine r_iload_n (pc' := 17) (kX11_qWordOf_0 10 rfl) rfl rfl ?_
      refine s_callV (As := [(0, r1)]) (o := 198) (S := []) (S2 := fun z => [(0, z)]) (pc' := 20) (kX11_qWordOf_0 11 rfl) rfl rfl nkX11_isAllowed mlX11_576 imX11_isAllowed rfl slX11_isAllowed rfl (Nat.le_of_ble_eq_true rfl) (Nat.le_of_ble_eq_true rfl) (kz198 Ln) h (fun z => rfl) (fun r4 φ4 α4 h => ?_)
      refine r_if_eq (t := 27) (pc' := 23) (kX11_qWordOf_0 12 rfl) rfl rfl (fun c5 => ?_) (fun c5 => ?_)
      · have h := h.1 c5
        refine r_iconst (-1) (pc' := 28) (kX11_qWordOf_0 15 rfl) rfl (by unfold inR; omega) ?_
        exact s_iret (kX11_qWordOf_0 16 rfl) rfl h
      · have h := h.2 c5
        refine r_iload_n (pc' := 24) (kX11_qWordOf_0 13 rfl) rfl rfl ?_
        refine r_goto (pc' := 28) (kX11_qWordOf_0 14 rfl) rfl ?_
        exact s_iret (kX11_qWordOf_0 16 rfl) rfl h
theorem vX11_qAsksWord_0 {d : Nat} {φ : aF} {α : aA} {Q : Int → aF → aA → Prop} {x1 : Int} (h : ((x1 = 0 →
   (eX11_asks d 251 φ α (fun r3 φ3 α3 =>
     (Q 0 φ3 α3)))) ∧
   ((x1 = 1 →
   (eX11_asks d 252 φ α (fun r4 φ4 α4 =>
     (Q 0 φ4 α4)))) ∧
   ((x1 = 2 →
   (eX11_asks d 253 φ α (fun r5 φ5 α5 =>
     (Q 0 φ5 α5)))) ∧
   ((x1 = 3 →
   (eX11_asks d 254 φ α (fun r6 φ6 α6 =>
     (Q 0 φ6 α6)))) ∧
   ((x1 = 4 →
   (eX11_asks d 255 φ α (fun r7 φ7 α7 =>
     (Q 0 φ7 α7)))) ∧
   ((x1 = 5 →
   (eX11_asks d 256 φ α (fun r8 φ8 α8 =>
     (Q 0 φ8 α8)))) ∧
   ((x1 = 6 →
   (eX11_asks d 257 φ α (fun r9 φ9 α9 =>
     (Q 0 φ9 α9)))) ∧
   ((x1 = 7 →
   (eX11_asks d 258 φ α (fun r10 φ10 α10 =>
     (Q 0 φ10 α10)))) ∧
   ((x1 = 8 →
   (eX11_asks d 259 φ α (fun r11 φ11 α11 =>
     (Q 0 φ11 α11)))) ∧
   ((x1 = 9 →
   (eX11_asks d 260 φ α (fun r12 φ12 α12 =>
     (Q 0 φ12 α12)))) ∧
   ((x1 = 10 →
   (eX11_asks d 261 φ α (fun r13 φ13 α13 =>
     (Q 0 φ13 α13)))) ∧
   ((¬ x1 = 0 ∧ ¬ x1 = 1 ∧ ¬ x1 = 2 ∧ ¬ x1 = 3 ∧ ¬ x1 = 4 ∧ ¬ x1 = 5 ∧ ¬ x1 = 6 ∧ ¬ x1 = 7 ∧ ¬ x1 = 8 ∧ ¬ x1 = 9 ∧ ¬ x1 = 10) →
   (eX11_asks d 262 φ α (fun r2 φ2 α2 =>
     (Q 0 φ2 α2)))))))))))))))) : eX11_qAsksWord (d + 1) x1 φ α Q := by
  intro Ln
  refine r_iload_n (pc' := 1) (kX11_qAsksWord_0 0 rfl) rfl rfl ?_
  have hD : (¬ x1 = 0 ∧ ¬ x1 = 1 ∧ ¬ x1 = 2 ∧ ¬ x1 = 3 ∧ ¬ x1 = 4 ∧ ¬ x1 = 5 ∧ ¬ x1 = 6 ∧ ¬ x1 = 7 ∧ ¬ x1 = 8 ∧ ¬ x1 = 9 ∧ ¬ x1 = 10) → Rn (d + 1) mX11_qAsksWord 181 [(2, 198), (0, x1)] [] (K0 Ln) (mix φ) (mixA α) (0, 0) (Q0 mX11_qAsksWord Ln Q) := by
    intro c0
    have h := h.2.2.2.2.2.2.2.2.2.2.2 c0
    refine r_aload_n (pc' := 182) (kX11_qAsksWord_0 57 rfl) rfl rfl ?_
    refine r_aload_n (pc' := 183) (kX11_qAsksWord_0 58 rfl) rfl rfl ?_
    refine s_getr (v := 262) (pc' := 186) (kX11_qAsksWord_0 59 rfl) rfl fkX11_209 rfl rfl (kz198 Ln) rfl (by decide) ?_
    refine s_callV (As := [(2, 262)]) (o := 198) (S := []) (S2 := fun z => []) (pc' := 189) (kX11_qAsksWord_1 0 rfl) rfl rfl nkX11_asks mlX11_292 imX11_asks rfl slX11_asks rfl (Nat.le_of_ble_eq_true rfl) (Nat.le_of_ble_eq_true rfl) (kz198 Ln) h (fun z => rfl) (fun r2 φ2 α2 h => ?_)
    exact s_vret (kX11_qAsksWord_1 1 rfl) rfl h
  by_cases c1_0 : x1 = 0
  · have h := h.1 c1_0
    refine r_tabIn (pc' := 60) 0 c1_0 (kX11_qAsksWord_0 1 rfl) (by decide) (by decide) rfl rfl ?_
    refine r_aload_n (pc' := 61) (kX11_qAsksWord_0 2 rfl) rfl rfl ?_
    refine r_aload_n (pc' := 62) (kX11_qAsksWord_0 3 rfl) rfl rfl ?_
    refine s_getr (v := 251) (pc' := 65) (kX11_qAsksWord_0 4 rfl) rfl fkX11_176 rfl rfl (kz198 Ln) rfl (by decide) ?_
    refine s_callV (As := [(2, 251)]) (o := 198) (S := []) (S2 := fun z => []) (pc' := 68) (kX11_qAsksWord_0 5 rfl) rfl rfl nkX11_asks mlX11_292 imX11_asks rfl slX11_asks rfl (Nat.le_of_ble_eq_true rfl) (Nat.le_of_ble_eq_true rfl) (kz198 Ln) h (fun z => rfl) (fun r3 φ3 α3 h => ?_)
    refine r_goto (pc' := 189) (kX11_qAsksWord_0 6 rfl) rfl ?_
    exact s_vret (kX11_qAsksWord_1 1 rfl) rfl h
  by_cases c1_1 : x1 = 1
  · have h := h.2.1 c1_1
    refine r_tabIn (pc' := 71) 1 c1_1 (kX11_qAsksWord_0 1 rfl) (by decide) (by decide) rfl rfl ?_
    refine r_aload_n (pc' := 72) (kX11_qAsksWord_0 7 rfl) rfl rfl ?_
    refine r_aload_n (pc' := 73) (kX11_qAsksWord_0 8 rfl) rfl rfl ?_
    refine s_getr (v := 252) (pc' := 76) (kX11_qAsksWord_0 9 rfl) rfl fkX11_179 rfl rfl (kz198 Ln) rfl (by decide) ?_
    refine s_callV (As := [(2, 252)]) (o := 198) (S := []) (S2 := fun z => []) (pc' := 79) (kX11_qAsksWord_0 10 rfl) rfl rfl nkX11_asks mlX11_292 imX11_asks rfl slX11_asks rfl (Nat.le_of_ble_eq_true rfl) (Nat.le_of_ble_eq_true rfl) (kz198 Ln) h (fun z => rfl) (fun r4 φ4 α4 h => ?_)
    refine r_goto (pc' := 189) (kX11_qAsksWord_0 11 rfl) rfl ?_
    exact s_vret (kX11_qAsksWord_1 1 rfl) rfl h
  by_cases c1_2 : x1 = 2
  · have h := h.2.2.1 c1_2
    refine r_tabIn (pc' := 82) 2 c1_2 (kX11_qAsksWord_0 1 rfl) (by decide) (by decide) rfl rfl ?_
    refine r_aload_n (pc' := 83) (kX11_qAsksWord_0 12 rfl) rfl rfl ?_
    refine r_aload_n (pc' := 84) (kX11_qAsksWord_0 13 rfl) rfl rfl ?_
    refine s_getr (v := 253) (pc' := 87) (kX11_qAsksWord_0 14 rfl) rfl fkX11_182 rfl rfl (kz198 Ln) rfl (by decide) ?_
    refine s_callV (As := [(2, 253)]) (o := 198) (S := []) (S2 := fun z => []) (pc' := 90) (kX11_qAsksWord_0 15 rfl) rfl rfl nkX11_asks mlX11_292 imX11_asks rfl slX11_asks rfl (Nat.le_of_ble_eq_true rfl) (Nat.le_of_ble_eq_true rfl) (kz198 Ln) h (fun z => rfl) (fun r5 φ5 α5 h => ?_)
    refine r_goto (pc' := 189) (kX11_qAsksWord_0 16 rfl) rfl ?_
    exact s_vret (kX11_qAsksWord_1 1 rfl) rfl h
  by_cases c1_3 : x1 = 3
  · have h := h.2.2.2.1 c1_3
    refine r_tabIn (pc' := 93) 3 c1_3 (kX11_qAsksWord_0 1 rfl) (by decide) (by decide) rfl rfl ?_
    refine r_aload_n (pc' := 94) (kX11_qAsksWord_0 17 rfl) rfl rfl ?_
    refine r_aload_n (pc' := 95) (kX11_qAsksWord_0 18 rfl) rfl rfl ?_
    refine s_getr (v := 254) (pc' := 98) (kX11_qAsksWord_0 19 rfl) rfl fkX11_185 rfl rfl (kz198 Ln) rfl (by decide) ?_
    refine s_callV (As := [(2, 254)]) (o := 198) (S := []) (S2 := fun z => []) (pc' := 101) (kX11_qAsksWord_0 20 rfl) rfl rfl nkX11_asks mlX11_292 imX11_asks rfl slX11_asks rfl (Nat.le_of_ble_eq_true rfl) (Nat.le_of_ble_eq_true rfl) (kz198 Ln) h (fun z => rfl) (fun r6 φ6 α6 h => ?_)
    refine r_goto (pc' := 189) (kX11_qAsksWord_0 21 rfl) rfl ?_
    exact s_vret (kX11_qAsksWord_1 1 rfl) rfl h
  by_cases c1_4 : x1 = 4
  · have h := h.2.2.2.2.1 c1_4
    refine r_tabIn (pc' := 104) 4 c1_4 (kX11_qAsksWord_0 1 rfl) (by decide) (by decide) rfl rfl ?_
    refine r_aload_n (pc' := 105) (kX11_qAsksWord_0 22 rfl) rfl rfl ?_
    refine r_aload_n (pc' := 106) (kX11_qAsksWord_0 23 rfl) rfl rfl ?_
    refine s_getr (v := 255) (pc' := 109) (kX11_qAsksWord_0 24 rfl) rfl fkX11_188 rfl rfl (kz198 Ln) rfl (by decide) ?_
    refine s_callV (As := [(2, 255)]) (o := 198) (S := []) (S2 := fun z => []) (pc' := 112) (kX11_qAsksWord_0 25 rfl) rfl rfl nkX11_asks mlX11_292 imX11_asks rfl slX11_asks rfl (Nat.le_of_ble_eq_true rfl) (Nat.le_of_ble_eq_true rfl) (kz198 Ln) h (fun z => rfl) (fun r7 φ7 α7 h => ?_)
    refine r_goto (pc' := 189) (kX11_qAsksWord_0 26 rfl) rfl ?_
    exact s_vret (kX11_qAsksWord_1 1 rfl) rfl h
  by_cases c1_5 : x1 = 5
  · have h := h.2.2.2.2.2.1 c1_5
    refine r_tabIn (pc' := 115) 5 c1_5 (kX11_qAsksWord_0 1 rfl) (by decide) (by decide) rfl rfl ?_
    refine r_aload_n (pc' := 116) (kX11_qAsksWord_0 27 rfl) rfl rfl ?_
    refine r_aload_n (pc' := 117) (kX11_qAsksWord_0 28 rfl) rfl rfl ?_
    refine s_getr (v := 256) (pc' := 120) (kX11_qAsksWord_0 29 rfl) rfl fkX11_191 rfl rfl (kz198 Ln) rfl (by decide) ?_
    refine s_callV (As := [(2, 256)]) (o := 198) (S := []) (S2 := fun z => []) (pc' := 123) (kX11_qAsksWord_0 30 rfl) rfl rfl nkX11_asks mlX11_292 imX11_asks rfl slX11_asks rfl (Nat.le_of_ble_eq_true rfl) (Nat.le_of_ble_eq_true rfl) (kz198 Ln) h (fun z => rfl) (fun r8 φ8 α8 h => ?_)
    refine r_goto (pc' := 189) (kX11_qAsksWord_0 31 rfl) rfl ?_
    exact s_vret (kX11_qAsksWord_1 1 rfl) rfl h
  by_cases c1_6 : x1 = 6
  · have h := h.2.2.2.2.2.2.1 c1_6
    refine r_tabIn (pc' := 126) 6 c1_6 (kX11_qAsksWord_0 1 rfl) (by decide) (by decide) rfl rfl ?_
    refine r_aload_n (pc' := 127) (kX11_qAsksWord_0 32 rfl) rfl rfl ?_
    refine r_aload_n (pc' := 128) (kX11_qAsksWord_0 33 rfl) rfl rfl ?_
    refine s_getr (v := 257) (pc' := 131) (kX11_qAsksWord_0 34 rfl) rfl fkX11_194 rfl rfl (kz198 Ln) rfl (by decide) ?_
    refine s_callV (As := [(2, 257)]) (o := 198) (S := []) (S2 := fun z => []) (pc' := 134) (kX11_qAsksWord_0 35 rfl) rfl rfl nkX11_asks mlX11_292 imX11_asks rfl slX11_asks rfl (Nat.le_of_ble_eq_true rfl) (Nat.le_of_ble_eq_true rfl) (kz198 Ln) h (fun z => rfl) (fun r9 φ9 α9 h => ?_)
    refine r_goto (pc' := 189) (kX11_qAsksWord_0 36 rfl) rfl ?_
    exact s_vret (kX11_qAsksWord_1 1 rfl) rfl h
  by_cases c1_7 : x1 = 7
  · have h := h.2.2.2.2.2.2.2.1 c1_7
    refine r_tabIn (pc' := 137) 7 c1_7 (kX11_qAsksWord_0 1 rfl) (by decide) (by decide) rfl rfl ?_
    refine r_aload_n (pc' := 138) (kX11_qAsksWord_0 37 rfl) rfl rfl ?_
    refine r_aload_n (pc' := 139) (kX11_qAsksWord_0 38 rfl) rfl rfl ?_
    refine s_getr (v := 258) (pc' := 142) (kX11_qAsksWord_0 39 rfl) rfl fkX11_197 rfl rfl (kz198 Ln) rfl (by decide) ?_
    refine s_callV (As := [(2, 258)]) (o := 198) (S := []) (S2 := fun z => []) (pc' := 145) (kX11_qAsksWord_0 40 rfl) rfl rfl nkX11_asks mlX11_292 imX11_asks rfl slX11_asks rfl (Nat.le_of_ble_eq_true rfl) (Nat.le_of_ble_eq_true rfl) (kz198 Ln) h (fun z => rfl) (fun r10 φ10 α10 h => ?_)
    refine r_goto (pc' := 189) (kX11_qAsksWord_0 41 rfl) rfl ?_
    exact s_vret (kX11_qAsksWord_1 1 rfl) rfl h
  by_cases c1_8 : x1 = 8
  · have h := h.2.2.2.2.2.2.2.2.1 c1_8
    refine r_tabIn (pc' := 148) 8 c1_8 (kX11_qAsksWord_0 1 rfl) (by decide) (by decide) rfl rfl ?_
    refine r_aload_n (pc' := 149) (kX11_qAsksWord_0 42 rfl) rfl rfl ?_
    refine r_aload_n (pc' := 150) (kX11_qAsksWord_0 43 rfl) rfl rfl ?_
    refine s_getr (v := 259) (pc' := 153) (kX11_qAsksWord_0 44 rfl) rfl fkX11_200 rfl rfl (kz198 Ln) rfl (by decide) ?_
    refine s_callV (As := [(2, 259)]) (o := 198) (S := []) (S2 := fun z => []) (pc' := 156) (kX11_qAsksWord_0 45 rfl) rfl rfl nkX11_asks mlX11_292 imX11_asks rfl slX11_asks rfl (Nat.le_of_ble_eq_true rfl) (Nat.le_of_ble_eq_true rfl) (kz198 Ln) h (fun z => rfl) (fun r11 φ11 α11 h => ?_)
    refine r_goto (pc' := 189) (kX11_qAsksWord_0 46 rfl) rfl ?_
    exact s_vret (kX11_qAsksWord_1 1 rfl) rfl h
  by_cases c1_9 : x1 = 9
  · have h := h.2.2.2.2.2.2.2.2.2.1 c1_9
    refine r_tabIn (pc' := 159) 9 c1_9 (kX11_qAsksWord_0 1 rfl) (by decide) (by decide) rfl rfl ?_
    refine r_aload_n (pc' := 160) (kX11_qAsksWord_0 47 rfl) rfl rfl ?_
    refine r_aload_n (pc' := 161) (kX11_qAsksWord_0 48 rfl) rfl rfl ?_
    refine s_getr (v := 260) (pc' := 164) (kX11_qAsksWord_0 49 rfl) rfl fkX11_203 rfl rfl (kz198 Ln) rfl (by decide) ?_
    refine s_callV (As := [(2, 260)]) (o := 198) (S := []) (S2 := fun z => []) (pc' := 167) (kX11_qAsksWord_0 50 rfl) rfl rfl nkX11_asks mlX11_292 imX11_asks rfl slX11_asks rfl (Nat.le_of_ble_eq_true rfl) (Nat.le_of_ble_eq_true rfl) (kz198 Ln) h (fun z => rfl) (fun r12 φ12 α12 h => ?_)
    refine r_goto (pc' := 189) (kX11_qAsksWord_0 51 rfl) rfl ?_
    exact s_vret (kX11_qAsksWord_1 1 rfl) rfl h
  by_cases c1_10 : x1 = 10
  · have h := h.2.2.2.2.2.2.2.2.2.2.1 c1_10
    refine r_tabIn (pc' := 170) 10 c1_10 (kX11_qAsksWord_0 1 rfl) (by decide) (by decide) rfl rfl ?_
    refine r_aload_n (pc' := 171) (kX11_qAsksWord_0 52 rfl) rfl rfl ?_
    refine r_aload_n (pc' := 172) (kX11_qAsksWord_0 53 rfl) rfl rfl ?_
    refine s_getr (v := 261) (pc' := 175) (kX11_qAsksWord_0 54 rfl) rfl fkX11_206 rfl rfl (kz198 Ln) rfl (by decide) ?_
    refine s_callV (As := [(2, 261)]) (o := 198) (S := []) (S2 := fun z => []) (pc' := 178) (kX11_qAsksWord_0 55 rfl) rfl rfl nkX11_asks mlX11_292 imX11_asks rfl slX11_asks rfl (Nat.le_of_ble_eq_true rfl) (Nat.le_of_ble_eq_true rfl) (kz198 Ln) h (fun z => rfl) (fun r13 φ13 α13 h => ?_)
    refine r_goto (pc' := 189) (kX11_qAsksWord_0 56 rfl) rfl ?_
    exact s_vret (kX11_qAsksWord_1 1 rfl) rfl h
  have hD := hD ⟨c1_0, c1_1, c1_2, c1_3, c1_4, c1_5, c1_6, c1_7, c1_8, c1_9, c1_10⟩
  exact r_tabOut (pc' := 181) (kX11_qAsksWord_0 1 rfl) (by omega) rfl hD
abbrev jX11_qEndsPart_0 (d : Nat) (φ : aF) (α : aA) (Q : Int → aF → aA → Prop) : Prop := R0 d mX11_qEndsPart 0 [(2, 198)] [] φ α Q
theorem vX11_qEndsPart_0 {d : Nat} {φ : aF} {α : aA} {Q : Int → aF → aA → Prop} (h : ((¬ (φ 11 5 198) = 0 →
   (Q 0 φ α)) ∧
   ((φ 11 5 198) = 0 →
   (((φ 11 90 198) ≤ (φ 11 92 198) →
     (Q 0 φ α)) ∧
     (¬ ((φ 11 90 198) ≤ (φ 11 92 198)) →
     inR ((φ 11 90 198) - 1) ∧ (0 ≤ ((φ 11 90 198) - 1) ∧ ((φ 11 90 198) - 1) < (1700 : Nat)) ∧ (((α 264 ((φ 11 90 198) - 1)) < 60 →
       (Q 0 φ α)) ∧
       (¬ ((α 264 ((φ 11 90 198) - 1)) < 60) →
       inR ((φ 11 91 198) - 1) ∧ (eX11_qDrops d  (upf φ 11 91 198 ((φ 11 91 198) - 1)) α (fun r7 φ7 α7 =>
         (jX11_qEndsPart_0 (d + 1)  φ7 α7 Q)))))))))) : eX11_qEndsPart (d + 1)  φ α Q := by
  intro Ln
  refine r_aload_n (pc' := 1) (kX11_qEndsPart_0 0 rfl) rfl rfl ?_
  refine s_get (x := (φ 11 5 198)) (pc' := 4) (kX11_qEndsPart_0 1 rfl) rfl fkX11_227 rfl rfl rfl (kz198 Ln) rfl ?_
  refine r_if_ne (t := 51) (pc' := 7) (kX11_qEndsPart_0 2 rfl) rfl rfl (fun c1 => ?_) (fun c1 => ?_)
  · have h := h.1 c1
    exact s_vret (kX11_qEndsPart_0 26 rfl) rfl h
  · have h := h.2 c1
    refine r_aload_n (pc' := 8) (kX11_qEndsPart_0 3 rfl) rfl rfl ?_
    refine s_get (x := (φ 11 90 198)) (pc' := 11) (kX11_qEndsPart_0 4 rfl) rfl fkX11_318 rfl rfl rfl (kz198 Ln) rfl ?_
    refine r_aload_n (pc' := 12) (kX11_qEndsPart_0 5 rfl) rfl rfl ?_
    refine s_get (x := (φ 11 92 198)) (pc' := 15) (kX11_qEndsPart_0 6 rfl) rfl fkX11_324 rfl rfl rfl (kz198 Ln) rfl ?_
    refine r_icmp_le (t := 51) (pc' := 18) (kX11_qEndsPart_0 7 rfl) rfl rfl (fun c2 => ?_) (fun c2 => ?_)
    · have h := h.1 c2
      exact s_vret (kX11_qEndsPart_0 26 rfl) rfl h
    · have h := h.2 c2
      refine r_aload_n (pc' := 19) (kX11_qEndsPart_0 8 rfl) rfl rfl ?_
      refine s_getr (v := 264) (pc' := 22) (kX11_qEndsPart_0 9 rfl) rfl fkX11_215 rfl rfl (kz198 Ln) rfl (by decide) ?_
      refine r_aload_n (pc' := 23) (kX11_qEndsPart_0 10 rfl) rfl rfl ?_
      refine s_get (x := (φ 11 90 198)) (pc' := 26) (kX11_qEndsPart_0 11 rfl) rfl fkX11_318 rfl rfl rfl (kz198 Ln) rfl ?_
      refine r_iconst 1 (pc' := 27) (kX11_qEndsPart_0 12 rfl) rfl (by unfold inR; omega) ?_
      have g3 := h.1
      have h := h.2
      refine r_isub (pc' := 28) (kX11_qEndsPart_0 13 rfl) rfl g3 ?_
      have g4 := h.1
      have h := h.2
      refine s_iald (x := (α 264 ((φ 11 90 198) - 1))) (pc' := 29) (kX11_qEndsPart_0 14 rfl) rfl (kz264 Ln) g4 rfl ?_
      refine r_bipush 60 (pc' := 31) (kX11_qEndsPart_0 15 rfl) rfl ⟨by unfold inR; omega, rfl⟩ ?_
      refine r_icmp_lt (t := 51) (pc' := 34) (kX11_qEndsPart_0 16 rfl) rfl rfl (fun c5 => ?_) (fun c5 => ?_)
      · have h := h.1 c5
        exact s_vret (kX11_qEndsPart_0 26 rfl) rfl h
      · have h := h.2 c5
        refine r_aload_n (pc' := 35) (kX11_qEndsPart_0 17 rfl) rfl rfl ?_
        refine r_dup (pc' := 36) (kX11_qEndsPart_0 18 rfl) rfl rfl ?_
        refine s_get (x := (φ 11 91 198)) (pc' := 39) (kX11_qEndsPart_0 19 rfl) rfl fkX11_321 rfl rfl rfl (kz198 Ln) rfl ?_
        refine r_iconst 1 (pc' := 40) (kX11_qEndsPart_0 20 rfl) rfl (by unfold inR; omega) ?_
        have g6 := h.1
        have h := h.2
        refine r_isub (pc' := 41) (kX11_qEndsPart_0 21 rfl) rfl g6 ?_
        refine s_put (pc' := 44) (kX11_qEndsPart_0 22 rfl) rfl fkX11_321 fnX11_91 rfl pk_int (kz198 Ln) ?_
        refine r_aload_n (pc' := 45) (kX11_qEndsPart_0 23 rfl) rfl rfl ?_
        refine s_callV (As := []) (o := 198) (S := []) (S2 := fun z => []) (pc' := 48) (kX11_qEndsPart_0 24 rfl) rfl rfl nkX11_qDrops mlX11_570 imX11_qDrops rfl slX11_qDrops rfl (Nat.le_of_ble_eq_true rfl) (Nat.le_of_ble_eq_true rfl) (kz198 Ln) h (fun z => rfl) (fun r7 φ7 α7 h => ?_)
        refine r_goto (pc' := 0) (kX11_qEndsPart_0 25 rfl) rfl ?_
        exact r_weak (L' := [(2, 198)]) ⟨Or.inl rfl, trivial⟩ (h Ln)
abbrev jX11_qPartTold_2 (d : Nat) (x1 : Int) (φ : aF) (α : aA) (Q : Int → aF → aA → Prop) : Prop := R0 d mX11_qPartTold 2 [(2, 198), (0, x1), (9, 0), (9, 0), (9, 0), (9, 0)] [] φ α Q
theorem vX11_qPartTold_0 {d : Nat} {φ : aF} {α : aA} {Q : Int → aF → aA → Prop} (h : (jX11_qPartTold_2 (d + 1) 1 φ α Q)) : eX11_qPartTold (d + 1)  φ α Q := by
  intro Ln
  refine r_iconst 1 (pc' := 1) (kX11_qPartTold_0 0 rfl) rfl (by unfold inR; omega) ?_
  refine r_istore_n (L' := [(2, 198), (0, 1), (9, 0), (9, 0), (9, 0), (9, 0)]) (pc' := 2) (kX11_qPartTold_0 1 rfl) rfl (Nat.le_of_ble_eq_true rfl) rfl ?_
  exact r_weak (L' := [(2, 198), (0, 1), (9, 0), (9, 0), (9, 0), (9, 0)]) ⟨Or.inl rfl, Or.inl rfl, Or.inr (by decide), Or.inr (by decide), Or.inr (by decide), Or.inr (by decide), trivial⟩ (h Ln)
theorem vX11_qPartTold_2 {d : Nat} {φ : aF} {α : aA} {Q : Int → aF → aA → Prop} {x1 : Int} (h : ((x1 = 0 →
   (((φ 11 5 198) = 0 →
     (eX11_qWordOf d 0 10 φ α (fun r3 φ3 α3 =>
       ((r3 = (-1) →
       (eX11_number d 0 9999 φ3 α3 (fun r5 φ5 α5 =>
         inR (1000 + r5) ∧ (eX11_qCode d (1000 + r5) φ5 α5 (fun r7 φ7 α7 =>
         (eX11_qEndsPart d  φ7 α7 (fun r8 φ8 α8 =>
         (Q 0 φ8 α8)))))))) ∧
       (¬ (r3 = (-1)) →
       (eX11_qAsksWord d r3 φ3 α3 (fun r9 φ9 α9 =>
         inR (40 + r3) ∧ (eX11_qCode d (40 + r3) φ9 α9 (fun r11 φ11 α11 =>
         (eX11_qEndsPart d  φ11 α11 (fun r12 φ12 α12 =>
         (Q 0 φ12 α12)))))))))))) ∧
     (¬ ((φ 11 5 198) = 0) →
     (Q 0 φ α)))) ∧
   (¬ (x1 = 0) →
   ((¬ (φ 11 5 198) = 0 →
     (((φ 11 5 198) = 0 →
       (eX11_qWordOf d 0 10 φ α (fun r15 φ15 α15 =>
         ((r15 = (-1) →
         (eX11_number d 0 9999 φ15 α15 (fun r17 φ17 α17 =>
           inR (1000 + r17) ∧ (eX11_qCode d (1000 + r17) φ17 α17 (fun r19 φ19 α19 =>
           (eX11_qEndsPart d  φ19 α19 (fun r20 φ20 α20 =>
           (Q 0 φ20 α20)))))))) ∧
         (¬ (r15 = (-1)) →
         (eX11_qAsksWord d r15 φ15 α15 (fun r21 φ21 α21 =>
           inR (40 + r15) ∧ (eX11_qCode d (40 + r15) φ21 α21 (fun r23 φ23 α23 =>
           (eX11_qEndsPart d  φ23 α23 (fun r24 φ24 α24 =>
           (Q 0 φ24 α24)))))))))))) ∧
       (¬ ((φ 11 5 198) = 0) →
       (Q 0 φ α)))) ∧
     ((φ 11 5 198) = 0 →
     (eX11_look d  φ α (fun r25 φ25 α25 =>
       (eX11_qWordOf d 10 12 φ25 α25 (fun r26 φ26 α26 =>
       ((¬ r25 = 40 →
       (eX11_isHere d 249 φ26 α26 (fun r28 φ28 α28 =>
         ((¬ r28 = 0 →
         (eX11_takes d 249 φ28 α28 (fun r30 φ30 α30 =>
           ((¬ r30 = 0 →
           (eX11_look d  φ30 α30 (fun r32 φ32 α32 =>
             ((¬ r32 = 40 →
             (eX11_asksSign d 40 φ32 α32 (fun r34 φ34 α34 =>
               (jX11_qPartTold_2 (d + 1) x1 φ34 α34 Q)))) ∧
             (r32 = 40 →
             (((φ32 11 2 198) = (-1) →
               (eX11_asksSign d 40 φ32 α32 (fun r36 φ36 α36 =>
                 (jX11_qPartTold_2 (d + 1) x1 φ36 α36 Q)))) ∧
               (¬ ((φ32 11 2 198) = (-1)) →
               ((r30 = 0 →
                 (eX11_qOpens d 22 (φ32 11 2 198) φ32 α32 (fun r38 φ38 α38 =>
                   (eX11_asksSign d 40 φ38 α38 (fun r39 φ39 α39 =>
                   (jX11_qPartTold_2 (d + 1) x1 φ39 α39 Q)))))) ∧
                 (¬ (r30 = 0) →
                 (eX11_qOpens d 21 (φ32 11 2 198) φ32 α32 (fun r40 φ40 α40 =>
                   (eX11_asksSign d 40 φ40 α40 (fun r41 φ41 α41 =>
                   (jX11_qPartTold_2 (d + 1) x1 φ41 α41 Q)))))))))))))) ∧
           (r30 = 0 →
           (eX11_asks d 250 φ30 α30 (fun r42 φ42 α42 =>
             (eX11_look d  φ42 α42 (fun r43 φ43 α43 =>
             ((¬ r43 = 40 →
             (eX11_asksSign d 40 φ43 α43 (fun r45 φ45 α45 =>
               (jX11_qPartTold_2 (d + 1) x1 φ45 α45 Q)))) ∧
             (r43 = 40 →
             (((φ43 11 2 198) = (-1) →
               (eX11_asksSign d 40 φ43 α43 (fun r47 φ47 α47 =>
                 (jX11_qPartTold_2 (d + 1) x1 φ47 α47 Q)))) ∧
               (¬ ((φ43 11 2 198) = (-1)) →
               (eX11_qOpens d 22 (φ43 11 2 198) φ43 α43 (fun r48 φ48 α48 =>
                 (eX11_asksSign d 40 φ48 α48 (fun r49 φ49 α49 =>
                 (jX11_qPartTold_2 (d + 1) x1 φ49 α49 Q)))))))))))))))))) ∧
         (r28 = 0 →
         (eX11_isHere d 250 φ28 α28 (fun r50 φ50 α50 =>
           ((r50 = 0 →
           ((r26 = (-1) →
             (jX11_qPartTold_2 (d + 1) 0 φ50 α50 Q)) ∧
             (¬ (r26 = (-1)) →
             inR (60 + r26) ∧ inR ((60 + r26) - 10) ∧ (eX11_qOpens d ((60 + r26) - 10) (φ50 11 2 198) φ50 α50 (fun r55 φ55 α55 =>
               (eX11_qAsksWord d r26 φ55 α55 (fun r56 φ56 α56 =>
               (jX11_qPartTold_2 (d + 1) x1 φ56 α56 Q)))))))) ∧
           (¬ (r50 = 0) →
           (eX11_takes d 249 φ50 α50 (fun r57 φ57 α57 =>
             ((¬ r57 = 0 →
             (eX11_look d  φ57 α57 (fun r59 φ59 α59 =>
               ((¬ r59 = 40 →
               (eX11_asksSign d 40 φ59 α59 (fun r61 φ61 α61 =>
                 (jX11_qPartTold_2 (d + 1) x1 φ61 α61 Q)))) ∧
               (r59 = 40 →
               (((φ59 11 2 198) = (-1) →
                 (eX11_asksSign d 40 φ59 α59 (fun r63 φ63 α63 =>
                   (jX11_qPartTold_2 (d + 1) x1 φ63 α63 Q)))) ∧
                 (¬ ((φ59 11 2 198) = (-1)) →
                 ((r57 = 0 →
                   (eX11_qOpens d 22 (φ59 11 2 198) φ59 α59 (fun r65 φ65 α65 =>
                     (eX11_asksSign d 40 φ65 α65 (fun r66 φ66 α66 =>
                     (jX11_qPartTold_2 (d + 1) x1 φ66 α66 Q)))))) ∧
                   (¬ (r57 = 0) →
                   (eX11_qOpens d 21 (φ59 11 2 198) φ59 α59 (fun r67 φ67 α67 =>
                     (eX11_asksSign d 40 φ67 α67 (fun r68 φ68 α68 =>
                     (jX11_qPartTold_2 (d + 1) x1 φ68 α68 Q)))))))))))))) ∧
             (r57 = 0 →
             (eX11_asks d 250 φ57 α57 (fun r69 φ69 α69 =>
               (eX11_look d  φ69 α69 (fun r70 φ70 α70 =>
               ((¬ r70 = 40 →
               (eX11_asksSign d 40 φ70 α70 (fun r72 φ72 α72 =>
                 (jX11_qPartTold_2 (d + 1) x1 φ72 α72 Q)))) ∧
               (r70 = 40 →
               (((φ70 11 2 198) = (-1) →
                 (eX11_asksSign d 40 φ70 α70 (fun r74 φ74 α74 =>
                   (jX11_qPartTold_2 (d + 1) x1 φ74 α74 Q)))) ∧
                 (¬ ((φ70 11 2 198) = (-1)) →
                 (eX11_qOpens d 22 (φ70 11 2 198) φ70 α70 (fun r75 φ75 α75 =>
                   (eX11_asksSign d 40 φ75 α75 (fun r76 φ76 α76 =>
                   (jX11_qPartTold_2 (d + 1) x1 φ76 α76 Q)))))))))))))))))))))))))) ∧
       (r25 = 40 →
       (eX11_qOpens d 20 (φ26 11 2 198) φ26 α26 (fun r77 φ77 α77 =>
         inR ((φ77 11 2 198) + 1) ∧ (jX11_qPartTold_2 (d + 1) x1 (upf φ77 11 2 198 ((φ77 11 2 198) + 1)) α77 Q)))))))))))))) : jX11_qPartTold_2 (d + 1) x1 φ α Q := by
  intro Ln
  refine r_iload_n (pc' := 3) (kX11_qPartTold_0 2 rfl) rfl rfl ?_
  refine r_if_eq (t := 186) (pc' := 6) (kX11_qPartTold_0 3 rfl) rfl rfl (fun c1 => ?_) (fun c1 => ?_)
  · have h := h.1 c1
    refine r_aload_n (pc' := 187) (kX11_qPartTold_1 34 rfl) rfl rfl ?_
    refine s_get (x := (φ 11 5 198)) (pc' := 190) (kX11_qPartTold_1 35 rfl) rfl fkX11_227 rfl rfl rfl (kz198 Ln) rfl ?_
    refine r_if_eq (t := 194) (pc' := 193) (kX11_qPartTold_1 36 rfl) rfl rfl (fun c2 => ?_) (fun c2 => ?_)
    · have h := h.1 c2
      refine r_aload_n (pc' := 195) (kX11_qPartTold_1 38 rfl) rfl rfl ?_
      refine r_iconst 0 (pc' := 196) (kX11_qPartTold_1 39 rfl) rfl (by unfold inR; omega) ?_
      refine r_bipush 10 (pc' := 198) (kX11_qPartTold_1 40 rfl) rfl ⟨by unfold inR; omega, rfl⟩ ?_
      refine s_callV (As := [(0, 0), (0, 10)]) (o := 198) (S := []) (S2 := fun z => [(0, z)]) (pc' := 201) (kX11_qPartTold_1 41 rfl) rfl rfl nkX11_qWordOf mlX11_579 imX11_qWordOf rfl slX11_qWordOf rfl (Nat.le_of_ble_eq_true rfl) (Nat.le_of_ble_eq_true rfl) (kz198 Ln) h (fun z => rfl) (fun r3 φ3 α3 h => ?_)
      refine r_istore_n (L' := [(2, 198), (0, x1), (0, r3), (9, 0), (9, 0), (9, 0)]) (pc' := 202) (kX11_qPartTold_1 42 rfl) rfl (Nat.le_of_ble_eq_true rfl) rfl ?_
      refine r_iload_n (pc' := 203) (kX11_qPartTold_1 43 rfl) rfl rfl ?_
      refine r_iconst (-1) (pc' := 204) (kX11_qPartTold_1 44 rfl) rfl (by unfold inR; omega) ?_
      refine r_icmp_eq (t := 212) (pc' := 207) (kX11_qPartTold_1 45 rfl) rfl rfl (fun c4 => ?_) (fun c4 => ?_)
      · have h := h.1 c4
        refine r_aload_n (pc' := 213) (kX11_qPartTold_1 49 rfl) rfl rfl ?_
        refine r_iload_n (pc' := 214) (kX11_qPartTold_1 50 rfl) rfl rfl ?_
        refine r_iconst (-1) (pc' := 215) (kX11_qPartTold_1 51 rfl) rfl (by unfold inR; omega) ?_
        refine r_icmp_eq (t := 225) (pc' := 218) (kX11_qPartTold_1 52 rfl) rfl rfl (fun _ => ?_) (fun cz => absurd c4 cz)
        refine r_sipush 1000 (pc' := 228) (kX11_qPartTold_1 57 rfl) rfl ⟨by unfold inR; omega, rfl⟩ ?_
        refine r_aload_n (pc' := 229) (kX11_qPartTold_1 58 rfl) rfl rfl ?_
        refine r_iconst 0 (pc' := 230) (kX11_qPartTold_1 59 rfl) rfl (by unfold inR; omega) ?_
        refine r_sipush 9999 (pc' := 233) (kX11_qPartTold_2 0 rfl) rfl ⟨by unfold inR; omega, rfl⟩ ?_
        refine s_callV (As := [(0, 0), (0, 9999)]) (o := 198) (S := [(0, 1000), (2, 198)]) (S2 := fun z => [(0, z), (0, 1000), (2, 198)]) (pc' := 236) (kX11_qPartTold_2 1 rfl) rfl rfl nkX11_number mlX11_296 imX11_number rfl slX11_number rfl (Nat.le_of_ble_eq_true rfl) (Nat.le_of_ble_eq_true rfl) (kz198 Ln) h (fun z => rfl) (fun r5 φ5 α5 h => ?_)
        have g6 := h.1
        have h := h.2
        refine r_iadd (pc' := 237) (kX11_qPartTold_2 2 rfl) rfl g6 ?_
        refine s_callV (As := [(0, (1000 + r5))]) (o := 198) (S := []) (S2 := fun z => []) (pc' := 240) (kX11_qPartTold_2 3 rfl) rfl rfl nkX11_qCode mlX11_564 imX11_qCode rfl slX11_qCode rfl (Nat.le_of_ble_eq_true rfl) (Nat.le_of_ble_eq_true rfl) (kz198 Ln) h (fun z => rfl) (fun r7 φ7 α7 h => ?_)
        refine r_aload_n (pc' := 241) (kX11_qPartTold_2 4 rfl) rfl rfl ?_
        refine s_callV (As := []) (o := 198) (S := []) (S2 := fun z => []) (pc' := 244) (kX11_qPartTold_2 5 rfl) rfl rfl nkX11_qEndsPart mlX11_588 imX11_qEndsPart rfl slX11_qEndsPart rfl (Nat.le_of_ble_eq_true rfl) (Nat.le_of_ble_eq_true rfl) (kz198 Ln) h (fun z => rfl) (fun r8 φ8 α8 h => ?_)
        exact s_vret (kX11_qPartTold_2 6 rfl) rfl h
      · have h := h.2 c4
        refine r_aload_n (pc' := 208) (kX11_qPartTold_1 46 rfl) rfl rfl ?_
        refine r_iload_n (pc' := 209) (kX11_qPartTold_1 47 rfl) rfl rfl ?_
        refine s_callV (As := [(0, r3)]) (o := 198) (S := []) (S2 := fun z => []) (pc' := 212) (kX11_qPartTold_1 48 rfl) rfl rfl nkX11_qAsksWord mlX11_585 imX11_qAsksWord rfl slX11_qAsksWord rfl (Nat.le_of_ble_eq_true rfl) (Nat.le_of_ble_eq_true rfl) (kz198 Ln) h (fun z => rfl) (fun r9 φ9 α9 h => ?_)
        refine r_aload_n (pc' := 213) (kX11_qPartTold_1 49 rfl) rfl rfl ?_
        refine r_iload_n (pc' := 214) (kX11_qPartTold_1 50 rfl) rfl rfl ?_
        refine r_iconst (-1) (pc' := 215) (kX11_qPartTold_1 51 rfl) rfl (by unfold inR; omega) ?_
        refine r_icmp_eq (t := 225) (pc' := 218) (kX11_qPartTold_1 52 rfl) rfl rfl (fun cz => absurd cz c4) (fun _ => ?_)
        refine r_bipush 40 (pc' := 220) (kX11_qPartTold_1 53 rfl) rfl ⟨by unfold inR; omega, rfl⟩ ?_
        refine r_iload_n (pc' := 221) (kX11_qPartTold_1 54 rfl) rfl rfl ?_
        have g10 := h.1
        have h := h.2
        refine r_iadd (pc' := 222) (kX11_qPartTold_1 55 rfl) rfl g10 ?_
        refine r_goto (pc' := 237) (kX11_qPartTold_1 56 rfl) rfl ?_
        refine s_callV (As := [(0, (40 + r3))]) (o := 198) (S := []) (S2 := fun z => []) (pc' := 240) (kX11_qPartTold_2 3 rfl) rfl rfl nkX11_qCode mlX11_564 imX11_qCode rfl slX11_qCode rfl (Nat.le_of_ble_eq_true rfl) (Nat.le_of_ble_eq_true rfl) (kz198 Ln) h (fun z => rfl) (fun r11 φ11 α11 h => ?_)
        refine r_aload_n (pc' := 241) (kX11_qPartTold_2 4 rfl) rfl rfl ?_
        refine s_callV (As := []) (o := 198) (S := []) (S2 := fun z => []) (pc' := 244) (kX11_qPartTold_2 5 rfl) rfl rfl nkX11_qEndsPart mlX11_588 imX11_qEndsPart rfl slX11_qEndsPart rfl (Nat.le_of_ble_eq_true rfl) (Nat.le_of_ble_eq_true rfl) (kz198 Ln) h (fun z => rfl) (fun r12 φ12 α12 h => ?_)
        exact s_vret (kX11_qPartTold_2 6 rfl) rfl h
    · have h := h.2 c2
      exact s_vret (kX11_qPartTold_1 37 rfl) rfl h
  · have h := h.2 c1
    refine r_aload_n (pc' := 7) (kX11_qPartTold_0 4 rfl) rfl rfl ?_
    refine s_get (x := (φ 11 5 198)) (pc' := 10) (kX11_qPartTold_0 5 rfl) rfl fkX11_227 rfl rfl rfl (kz198 Ln) rfl ?_
    refine r_if_ne (t := 186) (pc' := 13) (kX11_qPartTold_0 6 rfl) rfl rfl (fun c13 => ?_) (fun c13 => ?_)
    · have h := h.1 c13
      refine r_aload_n (pc' := 187) (kX11_qPartTold_1 34 rfl) rfl rfl ?_
      refine s_get (x := (φ 11 5 198)) (pc' := 190) (kX11_qPartTold_1 35 rfl) rfl fkX11_227 rfl rfl rfl (kz198 Ln) rfl ?_
      refine r_if_eq (t := 194) (pc' := 193) (kX11_qPartTold_1 36 rfl) rfl rfl (fun c14 => ?_) (fun c14 => ?_)
      · have h := h.1 c14
        refine r_aload_n (pc' := 195) (kX11_qPartTold_1 38 rfl) rfl rfl ?_
        refine r_iconst 0 (pc' := 196) (kX11_qPartTold_1 39 rfl) rfl (by unfold inR; omega) ?_
        refine r_bipush 10 (pc' := 198) (kX11_qPartTold_1 40 rfl) rfl ⟨by unfold inR; omega, rfl⟩ ?_
        refine s_callV (As := [(0, 0), (0, 10)]) (o := 198) (S := []) (S2 := fun z => [(0, z)]) (pc' := 201) (kX11_qPartTold_1 41 rfl) rfl rfl nkX11_qWordOf mlX11_579 imX11_qWordOf rfl slX11_qWordOf rfl (Nat.le_of_ble_eq_true rfl) (Nat.le_of_ble_eq_true rfl) (kz198 Ln) h (fun z => rfl) (fun r15 φ15 α15 h => ?_)
        refine r_istore_n (L' := [(2, 198), (0, x1), (0, r15), (9, 0), (9, 0), (9, 0)]) (pc' := 202) (kX11_qPartTold_1 42 rfl) rfl (Nat.le_of_ble_eq_true rfl) rfl ?_
        refine r_iload_n (pc' := 203) (kX11_qPartTold_1 43 rfl) rfl rfl ?_
        refine r_iconst (-1) (pc' := 204) (kX11_qPartTold_1 44 rfl) rfl (by unfold inR; omega) ?_
        refine r_icmp_eq (t := 212) (pc' := 207) (kX11_qPartTold_1 45 rfl) rfl rfl (fun c16 => ?_) (fun c16 => ?_)
        · have h := h.1 c16
          refine r_aload_n (pc' := 213) (kX11_qPartTold_1 49 rfl) rfl rfl ?_
          refine r_iload_n (pc' := 214) (kX11_qPartTold_1 50 rfl) rfl rfl ?_
          refine r_iconst (-1) (pc' := 215) (kX11_qPartTold_1 51 rfl) rfl (by unfold inR; omega) ?_
          refine r_icmp_eq (t := 225) (pc' := 218) (kX11_qPartTold_1 52 rfl) rfl rfl (fun _ => ?_) (fun cz => absurd c16 cz)
          refine r_sipush 1000 (pc' := 228) (kX11_qPartTold_1 57 rfl) rfl ⟨by unfold inR; omega, rfl⟩ ?_
          refine r_aload_n (pc' := 229) (kX11_qPartTold_1 58 rfl) rfl rfl ?_
          refine r_iconst 0 (pc' := 230) (kX11_qPartTold_1 59 rfl) rfl (by unfold inR; omega) ?_
          refine r_sipush 9999 (pc' := 233) (kX11_qPartTold_2 0 rfl) rfl ⟨by unfold inR; omega, rfl⟩ ?_
          refine s_callV (As := [(0, 0), (0, 9999)]) (o := 198) (S := [(0, 1000), (2, 198)]) (S2 := fun z => [(0, z), (0, 1000), (2, 198)]) (pc' := 236) (kX11_qPartTold_2 1 rfl) rfl rfl nkX11_number mlX11_296 imX11_number rfl slX11_number rfl (Nat.le_of_ble_eq_true rfl) (Nat.le_of_ble_eq_true rfl) (kz198 Ln) h (fun z => rfl) (fun r17 φ17 α17 h => ?_)
          have g18 := h.1
          have h := h.2
          refine r_iadd (pc' := 237) (kX11_qPartTold_2 2 rfl) rfl g18 ?_
          refine s_callV (As := [(0, (1000 + r17))]) (o := 198) (S := []) (S2 := fun z => []) (pc' := 240) (kX11_qPartTold_2 3 rfl) rfl rfl nkX11_qCode mlX11_564 imX11_qCode rfl slX11_qCode rfl (Nat.le_of_ble_eq_true rfl) (Nat.le_of_ble_eq_true rfl) (kz198 Ln) h (fun z => rfl) (fun r19 φ19 α19 h => ?_)
          refine r_aload_n (pc' := 241) (kX11_qPartTold_2 4 rfl) rfl rfl ?_
          refine s_callV (As := []) (o := 198) (S := []) (S2 := fun z => []) (pc' := 244) (kX11_qPartTold_2 5 rfl) rfl rfl nkX11_qEndsPart mlX11_588 imX11_qEndsPart rfl slX11_qEndsPart rfl (Nat.le_of_ble_eq_true rfl) (Nat.le_of_ble_eq_true rfl) (kz198 Ln) h (fun z => rfl) (fun r20 φ20 α20 h => ?_)
          exact s_vret (kX11_qPartTold_2 6 rfl) rfl h
        · have h := h.2 c16
          refine r_aload_n (pc' := 208) (kX11_qPartTold_1 46 rfl) rfl rfl ?_
          refine r_iload_n (pc' := 209) (kX11_qPartTold_1 47 rfl) rfl rfl ?_
          refine s_callV (As := [(0, r15)]) (o := 198) (S := []) (S2 := fun z => []) (pc' := 212) (kX11_qPartTold_1 48 rfl) rfl rfl nkX11_qAsksWord mlX11_585 imX11_qAsksWord rfl slX11_qAsksWord rfl (Nat.le_of_ble_eq_true rfl) (Nat.le_of_ble_eq_true rfl) (kz198 Ln) h (fun z => rfl) (fun r21 φ21 α21 h => ?_)
          refine r_aload_n (pc' := 213) (kX11_qPartTold_1 49 rfl) rfl rfl ?_
          refine r_iload_n (pc' := 214) (kX11_qPartTold_1 50 rfl) rfl rfl ?_
          refine r_iconst (-1) (pc' := 215) (kX11_qPartTold_1 51 rfl) rfl (by unfold inR; omega) ?_
          refine r_icmp_eq (t := 225) (pc' := 218) (kX11_qPartTold_1 52 rfl) rfl rfl (fun cz => absurd cz c16) (fun _ => ?_)
          refine r_bipush 40 (pc' := 220) (kX11_qPartTold_1 53 rfl) rfl ⟨by unfold inR; omega, rfl⟩ ?_
          refine r_iload_n (pc' := 221) (kX11_qPartTold_1 54 rfl) rfl rfl ?_
          have g22 := h.1
          have h := h.2
          refine r_iadd (pc' := 222) (kX11_qPartTold_1 55 rfl) rfl g22 ?_
          refine r_goto (pc' := 237) (kX11_qPartTold_1 56 rfl) rfl ?_
          refine s_callV (As := [(0, (40 + r15))]) (o := 198) (S := []) (S2 := fun z => []) (pc' := 240) (kX11_qPartTold_2 3 rfl) rfl rfl nkX11_qCode mlX11_564 imX11_qCode rfl slX11_qCode rfl (Nat.le_of_ble_eq_true rfl) (Nat.le_of_ble_eq_true rfl) (kz198 Ln) h (fun z => rfl) (fun r23 φ23 α23 h => ?_)
          refine r_aload_n (pc' := 241) (kX11_qPartTold_2 4 rfl) rfl rfl ?_
          refine s_callV (As := []) (o := 198) (S := []) (S2 := fun z => []) (pc' := 244) (kX11_qPartTold_2 5 rfl) rfl rfl nkX11_qEndsPart mlX11_588 imX11_qEndsPart rfl slX11_qEndsPart rfl (Nat.le_of_ble_eq_true rfl) (Nat.le_of_ble_eq_true rfl) (kz198 Ln) h (fun z => rfl) (fun r24 φ24 α24 h => ?_)
          exact s_vret (kX11_qPartTold_2 6 rfl) rfl h
      · have h := h.2 c14
        exact s_vret (kX11_qPartTold_1 37 rfl) rfl h
    · have h := h.2 c13
      refine r_aload_n (pc' := 14) (kX11_qPartTold_0 7 rfl) rfl rfl ?_
      refine s_callV (As := []) (o := 198) (S := []) (S2 := fun z => [(0, z)]) (pc' := 17) (kX11_qPartTold_0 8 rfl) rfl rfl nkX11_look mlX11_239 imX11_look rfl slX11_look rfl (Nat.le_of_ble_eq_true rfl) (Nat.le_of_ble_eq_true rfl) (kz198 Ln) h (fun z => rfl) (fun r25 φ25 α25 h => ?_)
      refine r_istore_n (L' := [(2, 198), (0, x1), (0, r25), (9, 0), (9, 0), (9, 0)]) (pc' := 18) (kX11_qPartTold_0 9 rfl) rfl (Nat.le_of_ble_eq_true rfl) rfl ?_
      refine r_aload_n (pc' := 19) (kX11_qPartTold_0 10 rfl) rfl rfl ?_
      refine r_bipush 10 (pc' := 21) (kX11_qPartTold_0 11 rfl) rfl ⟨by unfold inR; omega, rfl⟩ ?_
      refine r_bipush 12 (pc' := 23) (kX11_qPartTold_0 12 rfl) rfl ⟨by unfold inR; omega, rfl⟩ ?_
      refine s_callV (As := [(0, 10), (0, 12)]) (o := 198) (S := []) (S2 := fun z => [(0, z)]) (pc' := 26) (kX11_qPartTold_0 13 rfl) rfl rfl nkX11_qWordOf mlX11_579 imX11_qWordOf rfl slX11_qWordOf rfl (Nat.le_of_ble_eq_true rfl) (Nat.le_of_ble_eq_true rfl) (kz198 Ln) h (fun z => rfl) (fun r26 φ26 α26 h => ?_)
      refine r_istore_n (L' := [(2, 198), (0, x1), (0, r25), (0, r26), (9, 0), (9, 0)]) (pc' := 27) (kX11_qPartTold_0 14 rfl) rfl (Nat.le_of_ble_eq_true rfl) rfl ?_
      refine r_iload_n (pc' := 28) (kX11_qPartTold_0 15 rfl) rfl rfl ?_
      refine r_bipush 40 (pc' := 30) (kX11_qPartTold_0 16 rfl) rfl ⟨by unfold inR; omega, rfl⟩ ?_
      refine r_icmp_ne (t := 56) (pc' := 33) (kX11_qPartTold_0 17 rfl) rfl rfl (fun c27 => ?_) (fun c27 => ?_)
      · have h := h.1 c27
        refine r_aload_n (pc' := 57) (kX11_qPartTold_0 30 rfl) rfl rfl ?_
        refine r_aload_n (pc' := 58) (kX11_qPartTold_0 31 rfl) rfl rfl ?_
        refine s_getr (v := 249) (pc' := 61) (kX11_qPartTold_0 32 rfl) rfl fkX11_170 rfl rfl (kz198 Ln) rfl (by decide) ?_
        refine s_callV (As := [(2, 249)]) (o := 198) (S := []) (S2 := fun z => [(0, z)]) (pc' := 64) (kX11_qPartTold_0 33 rfl) rfl rfl nkX11_isHere mlX11_250 imX11_isHere rfl slX11_isHere rfl (Nat.le_of_ble_eq_true rfl) (Nat.le_of_ble_eq_true rfl) (kz198 Ln) h (fun z => rfl) (fun r28 φ28 α28 h => ?_)
        refine r_if_ne (t := 78) (pc' := 67) (kX11_qPartTold_0 34 rfl) rfl rfl (fun c29 => ?_) (fun c29 => ?_)
        · have h := h.1 c29
          refine r_aload_n (pc' := 79) (kX11_qPartTold_0 40 rfl) rfl rfl ?_
          refine r_aload_n (pc' := 80) (kX11_qPartTold_0 41 rfl) rfl rfl ?_
          refine s_getr (v := 249) (pc' := 83) (kX11_qPartTold_0 42 rfl) rfl fkX11_170 rfl rfl (kz198 Ln) rfl (by decide) ?_
          refine s_callV (As := [(2, 249)]) (o := 198) (S := []) (S2 := fun z => [(0, z)]) (pc' := 86) (kX11_qPartTold_0 43 rfl) rfl rfl nkX11_takes mlX11_254 imX11_takes rfl slX11_takes rfl (Nat.le_of_ble_eq_true rfl) (Nat.le_of_ble_eq_true rfl) (kz198 Ln) h (fun z => rfl) (fun r30 φ30 α30 h => ?_)
          refine r_istore (L' := [(2, 198), (0, x1), (0, r25), (0, r26), (0, r30), (9, 0)]) (pc' := 88) (kX11_qPartTold_0 44 rfl) rfl (Nat.le_of_ble_eq_true rfl) rfl ?_
          refine r_iload (pc' := 90) (kX11_qPartTold_0 45 rfl) rfl rfl ?_
          refine r_if_ne (t := 101) (pc' := 93) (kX11_qPartTold_0 46 rfl) rfl rfl (fun c31 => ?_) (fun c31 => ?_)
          · have h := h.1 c31
            refine r_aload_n (pc' := 102) (kX11_qPartTold_0 51 rfl) rfl rfl ?_
            refine s_callV (As := []) (o := 198) (S := []) (S2 := fun z => [(0, z)]) (pc' := 105) (kX11_qPartTold_0 52 rfl) rfl rfl nkX11_look mlX11_239 imX11_look rfl slX11_look rfl (Nat.le_of_ble_eq_true rfl) (Nat.le_of_ble_eq_true rfl) (kz198 Ln) h (fun z => rfl) (fun r32 φ32 α32 h => ?_)
            refine r_bipush 40 (pc' := 107) (kX11_qPartTold_0 53 rfl) rfl ⟨by unfold inR; omega, rfl⟩ ?_
            refine r_icmp_ne (t := 117) (pc' := 110) (kX11_qPartTold_0 54 rfl) rfl rfl (fun c33 => ?_) (fun c33 => ?_)
            · have h := h.1 c33
              refine r_iconst (-1) (pc' := 118) (kX11_qPartTold_0 58 rfl) rfl (by unfold inR; omega) ?_
              refine r_istore (L' := [(2, 198), (0, x1), (0, r25), (0, r26), (0, r30), (0, (-1))]) (pc' := 120) (kX11_qPartTold_0 59 rfl) rfl (Nat.le_of_ble_eq_true rfl) rfl ?_
              refine r_iload (pc' := 122) (kX11_qPartTold_1 0 rfl) rfl rfl ?_
              refine r_iconst (-1) (pc' := 123) (kX11_qPartTold_1 1 rfl) rfl (by unfold inR; omega) ?_
              refine r_icmp_eq (t := 144) (pc' := 126) (kX11_qPartTold_1 2 rfl) rfl rfl (fun _ => ?_) (fun cz => absurd cz (by decide))
              refine r_aload_n (pc' := 145) (kX11_qPartTold_1 11 rfl) rfl rfl ?_
              refine r_bipush 40 (pc' := 147) (kX11_qPartTold_1 12 rfl) rfl ⟨by unfold inR; omega, rfl⟩ ?_
              refine s_callV (As := [(0, 40)]) (o := 198) (S := []) (S2 := fun z => []) (pc' := 150) (kX11_qPartTold_1 13 rfl) rfl rfl nkX11_asksSign mlX11_300 imX11_asksSign rfl slX11_asksSign rfl (Nat.le_of_ble_eq_true rfl) (Nat.le_of_ble_eq_true rfl) (kz198 Ln) h (fun z => rfl) (fun r34 φ34 α34 h => ?_)
              refine r_goto (pc' := 183) (kX11_qPartTold_1 14 rfl) rfl ?_
              refine r_goto (pc' := 2) (kX11_qPartTold_1 33 rfl) rfl ?_
              exact r_weak (L' := [(2, 198), (0, x1), (9, 0), (9, 0), (9, 0), (9, 0)]) ⟨Or.inl rfl, Or.inl rfl, Or.inr (by decide), Or.inr (by decide), Or.inr (by decide), Or.inr (by decide), trivial⟩ (h Ln)
            · have h := h.2 c33
              refine r_aload_n (pc' := 111) (kX11_qPartTold_0 55 rfl) rfl rfl ?_
              refine s_get (x := (φ32 11 2 198)) (pc' := 114) (kX11_qPartTold_0 56 rfl) rfl fkX11_233 rfl rfl rfl (kz198 Ln) rfl ?_
              refine r_goto (pc' := 118) (kX11_qPartTold_0 57 rfl) rfl ?_
              refine r_istore (L' := [(2, 198), (0, x1), (0, r25), (0, r26), (0, r30), (0, (φ32 11 2 198))]) (pc' := 120) (kX11_qPartTold_0 59 rfl) rfl (Nat.le_of_ble_eq_true rfl) rfl ?_
              refine r_iload (pc' := 122) (kX11_qPartTold_1 0 rfl) rfl rfl ?_
              refine r_iconst (-1) (pc' := 123) (kX11_qPartTold_1 1 rfl) rfl (by unfold inR; omega) ?_
              refine r_icmp_eq (t := 144) (pc' := 126) (kX11_qPartTold_1 2 rfl) rfl rfl (fun c35 => ?_) (fun c35 => ?_)
              · have h := h.1 c35
                refine r_aload_n (pc' := 145) (kX11_qPartTold_1 11 rfl) rfl rfl ?_
                refine r_bipush 40 (pc' := 147) (kX11_qPartTold_1 12 rfl) rfl ⟨by unfold inR; omega, rfl⟩ ?_
                refine s_callV (As := [(0, 40)]) (o := 198) (S := []) (S2 := fun z => []) (pc' := 150) (kX11_qPartTold_1 13 rfl) rfl rfl nkX11_asksSign mlX11_300 imX11_asksSign rfl slX11_asksSign rfl (Nat.le_of_ble_eq_true rfl) (Nat.le_of_ble_eq_true rfl) (kz198 Ln) h (fun z => rfl) (fun r36 φ36 α36 h => ?_)
                refine r_goto (pc' := 183) (kX11_qPartTold_1 14 rfl) rfl ?_
                refine r_goto (pc' := 2) (kX11_qPartTold_1 33 rfl) rfl ?_
                exact r_weak (L' := [(2, 198), (0, x1), (9, 0), (9, 0), (9, 0), (9, 0)]) ⟨Or.inl rfl, Or.inl rfl, Or.inr (by decide), Or.inr (by decide), Or.inr (by decide), Or.inr (by decide), trivial⟩ (h Ln)
              · have h := h.2 c35
                refine r_aload_n (pc' := 127) (kX11_qPartTold_1 3 rfl) rfl rfl ?_
                refine r_iload (pc' := 129) (kX11_qPartTold_1 4 rfl) rfl rfl ?_
                refine r_if_eq (t := 137) (pc' := 132) (kX11_qPartTold_1 5 rfl) rfl rfl (fun c37 => ?_) (fun c37 => ?_)
                · have h := h.1 c37
                  refine r_bipush 22 (pc' := 139) (kX11_qPartTold_1 8 rfl) rfl ⟨by unfold inR; omega, rfl⟩ ?_
                  refine r_iload (pc' := 141) (kX11_qPartTold_1 9 rfl) rfl rfl ?_
                  refine s_callV (As := [(0, 22), (0, (φ32 11 2 198))]) (o := 198) (S := []) (S2 := fun z => []) (pc' := 144) (kX11_qPartTold_1 10 rfl) rfl rfl nkX11_qOpens mlX11_582 imX11_qOpens rfl slX11_qOpens rfl (Nat.le_of_ble_eq_true rfl) (Nat.le_of_ble_eq_true rfl) (kz198 Ln) h (fun z => rfl) (fun r38 φ38 α38 h => ?_)
                  refine r_aload_n (pc' := 145) (kX11_qPartTold_1 11 rfl) rfl rfl ?_
                  refine r_bipush 40 (pc' := 147) (kX11_qPartTold_1 12 rfl) rfl ⟨by unfold inR; omega, rfl⟩ ?_
                  refine s_callV (As := [(0, 40)]) (o := 198) (S := []) (S2 := fun z => []) (pc' := 150) (kX11_qPartTold_1 13 rfl) rfl rfl nkX11_asksSign mlX11_300 imX11_asksSign rfl slX11_asksSign rfl (Nat.le_of_ble_eq_true rfl) (Nat.le_of_ble_eq_true rfl) (kz198 Ln) h (fun z => rfl) (fun r39 φ39 α39 h => ?_)
                  refine r_goto (pc' := 183) (kX11_qPartTold_1 14 rfl) rfl ?_
                  refine r_goto (pc' := 2) (kX11_qPartTold_1 33 rfl) rfl ?_
                  exact r_weak (L' := [(2, 198), (0, x1), (9, 0), (9, 0), (9, 0), (9, 0)]) ⟨Or.inl rfl, Or.inl rfl, Or.inr (by decide), Or.inr (by decide), Or.inr (by decide), Or.inr (by decide), trivial⟩ (h Ln)
                · have h := h.2 c37
                  refine r_bipush 21 (pc' := 134) (kX11_qPartTold_1 6 rfl) rfl ⟨by unfold inR; omega, rfl⟩ ?_
                  refine r_goto (pc' := 139) (kX11_qPartTold_1 7 rfl) rfl ?_
                  refine r_iload (pc' := 141) (kX11_qPartTold_1 9 rfl) rfl rfl ?_
                  refine s_callV (As := [(0, 21), (0, (φ32 11 2 198))]) (o := 198) (S := []) (S2 := fun z => []) (pc' := 144) (kX11_qPartTold_1 10 rfl) rfl rfl nkX11_qOpens mlX11_582 imX11_qOpens rfl slX11_qOpens rfl (Nat.le_of_ble_eq_true rfl) (Nat.le_of_ble_eq_true rfl) (kz198 Ln) h (fun z => rfl) (fun r40 φ40 α40 h => ?_)
                  refine r_aload_n (pc' := 145) (kX11_qPartTold_1 11 rfl) rfl rfl ?_
                  refine r_bipush 40 (pc' := 147) (kX11_qPartTold_1 12 rfl) rfl ⟨by unfold inR; omega, rfl⟩ ?_
                  refine s_callV (As := [(0, 40)]) (o := 198) (S := []) (S2 := fun z => []) (pc' := 150) (kX11_qPartTold_1 13 rfl) rfl rfl nkX11_asksSign mlX11_300 imX11_asksSign rfl slX11_asksSign rfl (Nat.le_of_ble_eq_true rfl) (Nat.le_of_ble_eq_true rfl) (kz198 Ln) h (fun z => rfl) (fun r41 φ41 α41 h => ?_)
                  refine r_goto (pc' := 183) (kX11_qPartTold_1 14 rfl) rfl ?_
                  refine r_goto (pc' := 2) (kX11_qPartTold_1 33 rfl) rfl ?_
                  exact r_weak (L' := [(2, 198), (0, x1), (9, 0), (9, 0), (9, 0), (9, 0)]) ⟨Or.inl rfl, Or.inl rfl, Or.inr (by decide), Or.inr (by decide), Or.inr (by decide), Or.inr (by decide), trivial⟩ (h Ln)
          · have h := h.2 c31
            refine r_aload_n (pc' := 94) (kX11_qPartTold_0 47 rfl) rfl rfl ?_
            refine r_aload_n (pc' := 95) (kX11_qPartTold_0 48 rfl) rfl rfl ?_
            refine s_getr (v := 250) (pc' := 98) (kX11_qPartTold_0 49 rfl) rfl fkX11_173 rfl rfl (kz198 Ln) rfl (by decide) ?_
            refine s_callV (As := [(2, 250)]) (o := 198) (S := []) (S2 := fun z => []) (pc' := 101) (kX11_qPartTold_0 50 rfl) rfl rfl nkX11_asks mlX11_292 imX11_asks rfl slX11_asks rfl (Nat.le_of_ble_eq_true rfl) (Nat.le_of_ble_eq_true rfl) (kz198 Ln) h (fun z => rfl) (fun r42 φ42 α42 h => ?_)
            refine r_aload_n (pc' := 102) (kX11_qPartTold_0 51 rfl) rfl rfl ?_
            refine s_callV (As := []) (o := 198) (S := []) (S2 := fun z => [(0, z)]) (pc' := 105) (kX11_qPartTold_0 52 rfl) rfl rfl nkX11_look mlX11_239 imX11_look rfl slX11_look rfl (Nat.le_of_ble_eq_true rfl) (Nat.le_of_ble_eq_true rfl) (kz198 Ln) h (fun z => rfl) (fun r43 φ43 α43 h => ?_)
            refine r_bipush 40 (pc' := 107) (kX11_qPartTold_0 53 rfl) rfl ⟨by unfold inR; omega, rfl⟩ ?_
            refine r_icmp_ne (t := 117) (pc' := 110) (kX11_qPartTold_0 54 rfl) rfl rfl (fun c44 => ?_) (fun c44 => ?_)
            · have h := h.1 c44
              refine r_iconst (-1) (pc' := 118) (kX11_qPartTold_0 58 rfl) rfl (by unfold inR; omega) ?_
              refine r_istore (L' := [(2, 198), (0, x1), (0, r25), (0, r26), (0, r30), (0, (-1))]) (pc' := 120) (kX11_qPartTold_0 59 rfl) rfl (Nat.le_of_ble_eq_true rfl) rfl ?_
              refine r_iload (pc' := 122) (kX11_qPartTold_1 0 rfl) rfl rfl ?_
              refine r_iconst (-1) (pc' := 123) (kX11_qPartTold_1 1 rfl) rfl (by unfold inR; omega) ?_
              refine r_icmp_eq (t := 144) (pc' := 126) (kX11_qPartTold_1 2 rfl) rfl rfl (fun _ => ?_) (fun cz => absurd cz (by decide))
              refine r_aload_n (pc' := 145) (kX11_qPartTold_1 11 rfl) rfl rfl ?_
              refine r_bipush 40 (pc' := 147) (kX11_qPartTold_1 12 rfl) rfl ⟨by unfold inR; omega, rfl⟩ ?_
              refine s_callV (As := [(0, 40)]) (o := 198) (S := []) (S2 := fun z => []) (pc' := 150) (kX11_qPartTold_1 13 rfl) rfl rfl nkX11_asksSign mlX11_300 imX11_asksSign rfl slX11_asksSign rfl (Nat.le_of_ble_eq_true rfl) (Nat.le_of_ble_eq_true rfl) (kz198 Ln) h (fun z => rfl) (fun r45 φ45 α45 h => ?_)
              refine r_goto (pc' := 183) (kX11_qPartTold_1 14 rfl) rfl ?_
              refine r_goto (pc' := 2) (kX11_qPartTold_1 33 rfl) rfl ?_
              exact r_weak (L' := [(2, 198), (0, x1), (9, 0), (9, 0), (9, 0), (9, 0)]) ⟨Or.inl rfl, Or.inl rfl, Or.inr (by decide), Or.inr (by decide), Or.inr (by decide), Or.inr (by decide), trivial⟩ (h Ln)
            · have h := h.2 c44
              refine r_aload_n (pc' := 111) (kX11_qPartTold_0 55 rfl) rfl rfl ?_
              refine s_get (x := (φ43 11 2 198)) (pc' := 114) (kX11_qPartTold_0 56 rfl) rfl fkX11_233 rfl rfl rfl (kz198 Ln) rfl ?_
              refine r_goto (pc' := 118) (kX11_qPartTold_0 57 rfl) rfl ?_
              refine r_istore (L' := [(2, 198), (0, x1), (0, r25), (0, r26), (0, r30), (0, (φ43 11 2 198))]) (pc' := 120) (kX11_qPartTold_0 59 rfl) rfl (Nat.le_of_ble_eq_true rfl) rfl ?_
              refine r_iload (pc' := 122) (kX11_qPartTold_1 0 rfl) rfl rfl ?_
              refine r_iconst (-1) (pc' := 123) (kX11_qPartTold_1 1 rfl) rfl (by unfold inR; omega) ?_
              refine r_icmp_eq (t := 144) (pc' := 126) (kX11_qPartTold_1 2 rfl) rfl rfl (fun c46 => ?_) (fun c46 => ?_)
              · have h := h.1 c46
                refine r_aload_n (pc' := 145) (kX11_qPartTold_1 11 rfl) rfl rfl ?_
                refine r_bipush 40 (pc' := 147) (kX11_qPartTold_1 12 rfl) rfl ⟨by unfold inR; omega, rfl⟩ ?_
                refine s_callV (As := [(0, 40)]) (o := 198) (S := []) (S2 := fun z => []) (pc' := 150) (kX11_qPartTold_1 13 rfl) rfl rfl nkX11_asksSign mlX11_300 imX11_asksSign rfl slX11_asksSign rfl (Nat.le_of_ble_eq_true rfl) (Nat.le_of_ble_eq_true rfl) (kz198 Ln) h (fun z => rfl) (fun r47 φ47 α47 h => ?_)
                refine r_goto (pc' := 183) (kX11_qPartTold_1 14 rfl) rfl ?_
                refine r_goto (pc' := 2) (kX11_qPartTold_1 33 rfl) rfl ?_
                exact r_weak (L' := [(2, 198), (0, x1), (9, 0), (9, 0), (9, 0), (9, 0)]) ⟨Or.inl rfl, Or.inl rfl, Or.inr (by decide), Or.inr (by decide), Or.inr (by decide), Or.inr (by decide), trivial⟩ (h Ln)
              · have h := h.2 c46
                refine r_aload_n (pc' := 127) (kX11_qPartTold_1 3 rfl) rfl rfl ?_
                refine r_iload (pc' := 129) (kX11_qPartTold_1 4 rfl) rfl rfl ?_
                refine r_if_eq (t := 137) (pc' := 132) (kX11_qPartTold_1 5 rfl) rfl rfl (fun _ => ?_) (fun cz => absurd c31 cz)
                refine r_bipush 22 (pc' := 139) (kX11_qPartTold_1 8 rfl) rfl ⟨by unfold inR; omega, rfl⟩ ?_
                refine r_iload (pc' := 141) (kX11_qPartTold_1 9 rfl) rfl rfl ?_
                refine s_callV (As := [(0, 22), (0, (φ43 11 2 198))]) (o := 198) (S := []) (S2 := fun z => []) (pc' := 144) (kX11_qPartTold_1 10 rfl) rfl rfl nkX11_qOpens mlX11_582 imX11_qOpens rfl slX11_qOpens rfl (Nat.le_of_ble_eq_true rfl) (Nat.le_of_ble_eq_true rfl) (kz198 Ln) h (fun z => rfl) (fun r48 φ48 α48 h => ?_)
                refine r_aload_n (pc' := 145) (kX11_qPartTold_1 11 rfl) rfl rfl ?_
                refine r_bipush 40 (pc' := 147) (kX11_qPartTold_1 12 rfl) rfl ⟨by unfold inR; omega, rfl⟩ ?_
                refine s_callV (As := [(0, 40)]) (o := 198) (S := []) (S2 := fun z => []) (pc' := 150) (kX11_qPartTold_1 13 rfl) rfl rfl nkX11_asksSign mlX11_300 imX11_asksSign rfl slX11_asksSign rfl (Nat.le_of_ble_eq_true rfl) (Nat.le_of_ble_eq_true rfl) (kz198 Ln) h (fun z => rfl) (fun r49 φ49 α49 h => ?_)
                refine r_goto (pc' := 183) (kX11_qPartTold_1 14 rfl) rfl ?_
                refine r_goto (pc' := 2) (kX11_qPartTold_1 33 rfl) rfl ?_
                exact r_weak (L' := [(2, 198), (0, x1), (9, 0), (9, 0), (9, 0), (9, 0)]) ⟨Or.inl rfl, Or.inl rfl, Or.inr (by decide), Or.inr (by decide), Or.inr (by decide), Or.inr (by decide), trivial⟩ (h Ln)
        · have h := h.2 c29
          refine r_aload_n (pc' := 68) (kX11_qPartTold_0 35 rfl) rfl rfl ?_
          refine r_aload_n (pc' := 69) (kX11_qPartTold_0 36 rfl) rfl rfl ?_
          refine s_getr (v := 250) (pc' := 72) (kX11_qPartTold_0 37 rfl) rfl fkX11_173 rfl rfl (kz198 Ln) rfl (by decide) ?_
          refine s_callV (As := [(2, 250)]) (o := 198) (S := []) (S2 := fun z => [(0, z)]) (pc' := 75) (kX11_qPartTold_0 38 rfl) rfl rfl nkX11_isHere mlX11_250 imX11_isHere rfl slX11_isHere rfl (Nat.le_of_ble_eq_true rfl) (Nat.le_of_ble_eq_true rfl) (kz198 Ln) h (fun z => rfl) (fun r50 φ50 α50 h => ?_)
          refine r_if_eq (t := 153) (pc' := 78) (kX11_qPartTold_0 39 rfl) rfl rfl (fun c51 => ?_) (fun c51 => ?_)
          · have h := h.1 c51
            refine r_iload_n (pc' := 154) (kX11_qPartTold_1 15 rfl) rfl rfl ?_
            refine r_iconst (-1) (pc' := 155) (kX11_qPartTold_1 16 rfl) rfl (by unfold inR; omega) ?_
            refine r_icmp_eq (t := 181) (pc' := 158) (kX11_qPartTold_1 17 rfl) rfl rfl (fun c52 => ?_) (fun c52 => ?_)
            · have h := h.1 c52
              refine r_iconst 0 (pc' := 182) (kX11_qPartTold_1 31 rfl) rfl (by unfold inR; omega) ?_
              refine r_istore_n (L' := [(2, 198), (0, 0), (0, r25), (0, r26), (9, 0), (9, 0)]) (pc' := 183) (kX11_qPartTold_1 32 rfl) rfl (Nat.le_of_ble_eq_true rfl) rfl ?_
              refine r_goto (pc' := 2) (kX11_qPartTold_1 33 rfl) rfl ?_
              exact r_weak (L' := [(2, 198), (0, 0), (9, 0), (9, 0), (9, 0), (9, 0)]) ⟨Or.inl rfl, Or.inl rfl, Or.inr (by decide), Or.inr (by decide), Or.inr (by decide), Or.inr (by decide), trivial⟩ (h Ln)
            · have h := h.2 c52
              refine r_aload_n (pc' := 159) (kX11_qPartTold_1 18 rfl) rfl rfl ?_
              refine r_bipush 60 (pc' := 161) (kX11_qPartTold_1 19 rfl) rfl ⟨by unfold inR; omega, rfl⟩ ?_
              refine r_iload_n (pc' := 162) (kX11_qPartTold_1 20 rfl) rfl rfl ?_
              have g53 := h.1
              have h := h.2
              refine r_iadd (pc' := 163) (kX11_qPartTold_1 21 rfl) rfl g53 ?_
              refine r_bipush 10 (pc' := 165) (kX11_qPartTold_1 22 rfl) rfl ⟨by unfold inR; omega, rfl⟩ ?_
              have g54 := h.1
              have h := h.2
              refine r_isub (pc' := 166) (kX11_qPartTold_1 23 rfl) rfl g54 ?_
              refine r_aload_n (pc' := 167) (kX11_qPartTold_1 24 rfl) rfl rfl ?_
              refine s_get (x := (φ50 11 2 198)) (pc' := 170) (kX11_qPartTold_1 25 rfl) rfl fkX11_233 rfl rfl rfl (kz198 Ln) rfl ?_
              refine s_callV (As := [(0, ((60 + r26) - 10)), (0, (φ50 11 2 198))]) (o := 198) (S := []) (S2 := fun z => []) (pc' := 173) (kX11_qPartTold_1 26 rfl) rfl rfl nkX11_qOpens mlX11_582 imX11_qOpens rfl slX11_qOpens rfl (Nat.le_of_ble_eq_true rfl) (Nat.le_of_ble_eq_true rfl) (kz198 Ln) h (fun z => rfl) (fun r55 φ55 α55 h => ?_)
              refine r_aload_n (pc' := 174) (kX11_qPartTold_1 27 rfl) rfl rfl ?_
              refine r_iload_n (pc' := 175) (kX11_qPartTold_1 28 rfl) rfl rfl ?_
              refine s_callV (As := [(0, r26)]) (o := 198) (S := []) (S2 := fun z => []) (pc' := 178) (kX11_qPartTold_1 29 rfl) rfl rfl nkX11_qAsksWord mlX11_585 imX11_qAsksWord rfl slX11_qAsksWord rfl (Nat.le_of_ble_eq_true rfl) (Nat.le_of_ble_eq_true rfl) (kz198 Ln) h (fun z => rfl) (fun r56 φ56 α56 h => ?_)
              refine r_goto (pc' := 183) (kX11_qPartTold_1 30 rfl) rfl ?_
              refine r_goto (pc' := 2) (kX11_qPartTold_1 33 rfl) rfl ?_
              exact r_weak (L' := [(2, 198), (0, x1), (9, 0), (9, 0), (9, 0), (9, 0)]) ⟨Or.inl rfl, Or.inl rfl, Or.inr (by decide), Or.inr (by decide), Or.inr (by decide), Or.inr (by decide), trivial⟩ (h Ln)
          · have h := h.2 c51
            refine r_aload_n (pc' := 79) (kX11_qPartTold_0 40 rfl) rfl rfl ?_
            refine r_aload_n (pc' := 80) (kX11_qPartTold_0 41 rfl) rfl rfl ?_
            refine s_getr (v := 249) (pc' := 83) (kX11_qPartTold_0 42 rfl) rfl fkX11_170 rfl rfl (kz198 Ln) rfl (by decide) ?_
            refine s_callV (As := [(2, 249)]) (o := 198) (S := []) (S2 := fun z => [(0, z)]) (pc' := 86) (kX11_qPartTold_0 43 rfl) rfl rfl nkX11_takes mlX11_254 imX11_takes rfl slX11_takes rfl (Nat.le_of_ble_eq_true rfl) (Nat.le_of_ble_eq_true rfl) (kz198 Ln) h (fun z => rfl) (fun r57 φ57 α57 h => ?_)
            refine r_istore (L' := [(2, 198), (0, x1), (0, r25), (0, r26), (0, r57), (9, 0)]) (pc' := 88) (kX11_qPartTold_0 44 rfl) rfl (Nat.le_of_ble_eq_true rfl) rfl ?_
            refine r_iload (pc' := 90) (kX11_qPartTold_0 45 rfl) rfl rfl ?_
            refine r_if_ne (t := 101) (pc' := 93) (kX11_qPartTold_0 46 rfl) rfl rfl (fun c58 => ?_) (fun c58 => ?_)
            · have h := h.1 c58
              refine r_aload_n (pc' := 102) (kX11_qPartTold_0 51 rfl) rfl rfl ?_
              refine s_callV (As := []) (o := 198) (S := []) (S2 := fun z => [(0, z)]) (pc' := 105) (kX11_qPartTold_0 52 rfl) rfl rfl nkX11_look mlX11_239 imX11_look rfl slX11_look rfl (Nat.le_of_ble_eq_true rfl) (Nat.le_of_ble_eq_true rfl) (kz198 Ln) h (fun z => rfl) (fun r59 φ59 α59 h => ?_)
              refine r_bipush 40 (pc' := 107) (kX11_qPartTold_0 53 rfl) rfl ⟨by unfold inR; omega, rfl⟩ ?_
              refine r_icmp_ne (t := 117) (pc' := 110) (kX11_qPartTold_0 54 rfl) rfl rfl (fun c60 => ?_) (fun c60 => ?_)
              · have h := h.1 c60
                refine r_iconst (-1) (pc' := 118) (kX11_qPartTold_0 58 rfl) rfl (by unfold inR; omega) ?_
                refine r_istore (L' := [(2, 198), (0, x1), (0, r25), (0, r26), (0, r57), (0, (-1))]) (pc' := 120) (kX11_qPartTold_0 59 rfl) rfl (Nat.le_of_ble_eq_true rfl) rfl ?_
                refine r_iload (pc' := 122) (kX11_qPartTold_1 0 rfl) rfl rfl ?_
                refine r_iconst (-1) (pc' := 123) (kX11_qPartTold_1 1 rfl) rfl (by unfold inR; omega) ?_
                refine r_icmp_eq (t := 144) (pc' := 126) (kX11_qPartTold_1 2 rfl) rfl rfl (fun _ => ?_) (fun cz => absurd cz (by decide))
                refine r_aload_n (pc' := 145) (kX11_qPartTold_1 11 rfl) rfl rfl ?_
                refine r_bipush 40 (pc' := 147) (kX11_qPartTold_1 12 rfl) rfl ⟨by unfold inR; omega, rfl⟩ ?_
                refine s_callV (As := [(0, 40)]) (o := 198) (S := []) (S2 := fun z => []) (pc' := 150) (kX11_qPartTold_1 13 rfl) rfl rfl nkX11_asksSign mlX11_300 imX11_asksSign rfl slX11_asksSign rfl (Nat.le_of_ble_eq_true rfl) (Nat.le_of_ble_eq_true rfl) (kz198 Ln) h (fun z => rfl) (fun r61 φ61 α61 h => ?_)
                refine r_goto (pc' := 183) (kX11_qPartTold_1 14 rfl) rfl ?_
                refine r_goto (pc' := 2) (kX11_qPartTold_1 33 rfl) rfl ?_
                exact r_weak (L' := [(2, 198), (0, x1), (9, 0), (9, 0), (9, 0), (9, 0)]) ⟨Or.inl rfl, Or.inl rfl, Or.inr (by decide), Or.inr (by decide), Or.inr (by decide), Or.inr (by decide), trivial⟩ (h Ln)
              · have h := h.2 c60
                refine r_aload_n (pc' := 111) (kX11_qPartTold_0 55 rfl) rfl rfl ?_
                refine s_get (x := (φ59 11 2 198)) (pc' := 114) (kX11_qPartTold_0 56 rfl) rfl fkX11_233 rfl rfl rfl (kz198 Ln) rfl ?_
                refine r_goto (pc' := 118) (kX11_qPartTold_0 57 rfl) rfl ?_
                refine r_istore (L' := [(2, 198), (0, x1), (0, r25), (0, r26), (0, r57), (0, (φ59 11 2 198))]) (pc' := 120) (kX11_qPartTold_0 59 rfl) rfl (Nat.le_of_ble_eq_true rfl) rfl ?_
                refine r_iload (pc' := 122) (kX11_qPartTold_1 0 rfl) rfl rfl ?_
                refine r_iconst (-1) (pc' := 123) (kX11_qPartTold_1 1 rfl) rfl (by unfold inR; omega) ?_
                refine r_icmp_eq (t := 144) (pc' := 126) (kX11_qPartTold_1 2 rfl) rfl rfl (fun c62 => ?_) (fun c62 => ?_)
                · have h := h.1 c62
                  refine r_aload_n (pc' := 145) (kX11_qPartTold_1 11 rfl) rfl rfl ?_
                  refine r_bipush 40 (pc' := 147) (kX11_qPartTold_1 12 rfl) rfl ⟨by unfold inR; omega, rfl⟩ ?_
                  refine s_callV (As := [(0, 40)]) (o := 198) (S := []) (S2 := fun z => []) (pc' := 150) (kX11_qPartTold_1 13 rfl) rfl rfl nkX11_asksSign mlX11_300 imX11_asksSign rfl slX11_asksSign rfl (Nat.le_of_ble_eq_true rfl) (Nat.le_of_ble_eq_true rfl) (kz198 Ln) h (fun z => rfl) (fun r63 φ63 α63 h => ?_)
                  refine r_goto (pc' := 183) (kX11_qPartTold_1 14 rfl) rfl ?_
                  refine r_goto (pc' := 2) (kX11_qPartTold_1 33 rfl) rfl ?_
                  exact r_weak (L' := [(2, 198), (0, x1), (9, 0), (9, 0), (9, 0), (9, 0)]) ⟨Or.inl rfl, Or.inl rfl, Or.inr (by decide), Or.inr (by decide), Or.inr (by decide), Or.inr (by decide), trivial⟩ (h Ln)
                · have h := h.2 c62
                  refine r_aload_n (pc' := 127) (kX11_qPartTold_1 3 rfl) rfl rfl ?_
                  refine r_iload (pc' := 129) (kX11_qPartTold_1 4 rfl) rfl rfl ?_
                  refine r_if_eq (t := 137) (pc' := 132) (kX11_qPartTold_1 5 rfl) rfl rfl (fun c64 => ?_) (fun c64 => ?_)
                  · have h := h.1 c64
                    refine r_bipush 22 (pc' := 139) (kX11_qPartTold_1 8 rfl) rfl ⟨by unfold inR; omega, rfl⟩ ?_
                    refine r_iload (pc' := 141) (kX11_qPartTold_1 9 rfl) rfl rfl ?_
                    refine s_callV (As := [(0, 22), (0, (φ59 11 2 198))]) (o := 198) (S := []) (S2 := fun z => []) (pc' := 144) (kX11_qPartTold_1 10 rfl) rfl rfl nkX11_qOpens mlX11_582 imX11_qOpens rfl slX11_qOpens rfl (Nat.le_of_ble_eq_true rfl) (Nat.le_of_ble_eq_true rfl) (kz198 Ln) h (fun z => rfl) (fun r65 φ65 α65 h => ?_)
                    refine r_aload_n (pc' := 145) (kX11_qPartTold_1 11 rfl) rfl rfl ?_
                    refine r_bipush 40 (pc' := 147) (kX11_qPartTold_1 12 rfl) rfl ⟨by unfold inR; omega, rfl⟩ ?_
                    refine s_callV (As := [(0, 40)]) (o := 198) (S := []) (S2 := fun z => []) (pc' := 150) (kX11_qPartTold_1 13 rfl) rfl rfl nkX11_asksSign mlX11_300 imX11_asksSign rfl slX11_asksSign rfl (Nat.le_of_ble_eq_true rfl) (Nat.le_of_ble_eq_true rfl) (kz198 Ln) h (fun z => rfl) (fun r66 φ66 α66 h => ?_)
                    refine r_goto (pc' := 183) (kX11_qPartTold_1 14 rfl) rfl ?_
                    refine r_goto (pc' := 2) (kX11_qPartTold_1 33 rfl) rfl ?_
                    exact r_weak (L' := [(2, 198), (0, x1), (9, 0), (9, 0), (9, 0), (9, 0)]) ⟨Or.inl rfl, Or.inl rfl, Or.inr (by decide), Or.inr (by decide), Or.inr (by decide), Or.inr (by decide), trivial⟩ (h Ln)
                  · have h := h.2 c64
                    refine r_bipush 21 (pc' := 134) (kX11_qPartTold_1 6 rfl) rfl ⟨by unfold inR; omega, rfl⟩ ?_
                    refine r_goto (pc' := 139) (kX11_qPartTold_1 7 rfl) rfl ?_
                    refine r_iload (pc' := 141) (kX11_qPartTold_1 9 rfl) rfl rfl ?_
                    refine s_callV (As := [(0, 21), (0, (φ59 11 2 198))]) (o := 198) (S := []) (S2 := fun z => []) (pc' := 144) (kX11_qPartTold_1 10 rfl) rfl rfl nkX11_qOpens mlX11_582 imX11_qOpens rfl slX11_qOpens rfl (Nat.le_of_ble_eq_true rfl) (Nat.le_of_ble_eq_true rfl) (kz198 Ln) h (fun z => rfl) (fun r67 φ67 α67 h => ?_)
                    refine r_aload_n (pc' := 145) (kX11_qPartTold_1 11 rfl) rfl rfl ?_
                    refine r_bipush 40 (pc' := 147) (kX11_qPartTold_1 12 rfl) rfl ⟨by unfold inR; omega, rfl⟩ ?_
                    refine s_callV (As := [(0, 40)]) (o := 198) (S := []) (S2 := fun z => []) (pc' := 150) (kX11_qPartTold_1 13 rfl) rfl rfl nkX11_asksSign mlX11_300 imX11_asksSign rfl slX11_asksSign rfl (Nat.le_of_ble_eq_true rfl) (Nat.le_of_ble_eq_true rfl) (kz198 Ln) h (fun z => rfl) (fun r68 φ68 α68 h => ?_)
                    refine r_goto (pc' := 183) (kX11_qPartTold_1 14 rfl) rfl ?_
                    refine r_goto (pc' := 2) (kX11_qPartTold_1 33 rfl) rfl ?_
                    exact r_weak (L' := [(2, 198), (0, x1), (9, 0), (9, 0), (9, 0), (9, 0)]) ⟨Or.inl rfl, Or.inl rfl, Or.inr (by decide), Or.inr (by decide), Or.inr (by decide), Or.inr (by decide), trivial⟩ (h Ln)
            · have h := h.2 c58
              refine r_aload_n (pc' := 94) (kX11_qPartTold_0 47 rfl) rfl rfl ?_
              refine r_aload_n (pc' := 95) (kX11_qPartTold_0 48 rfl) rfl rfl ?_
              refine s_getr (v := 250) (pc' := 98) (kX11_qPartTold_0 49 rfl) rfl fkX11_173 rfl rfl (kz198 Ln) rfl (by decide) ?_
              refine s_callV (As := [(2, 250)]) (o := 198) (S := []) (S2 := fun z => []) (pc' := 101) (kX11_qPartTold_0 50 rfl) rfl rfl nkX11_asks mlX11_292 imX11_asks rfl slX11_asks rfl (Nat.le_of_ble_eq_true rfl) (Nat.le_of_ble_eq_true rfl) (kz198 Ln) h (fun z => rfl) (fun r69 φ69 α69 h => ?_)
              refine r_aload_n (pc' := 102) (kX11_qPartTold_0 51 rfl) rfl rfl ?_
              refine s_callV (As := []) (o := 198) (S := []) (S2 := fun z => [(0, z)]) (pc' := 105) (kX11_qPartTold_0 52 rfl) rfl rfl nkX11_look mlX11_239 imX11_look rfl slX11_look rfl (Nat.le_of_ble_eq_true rfl) (Nat.le_of_ble_eq_true rfl) (kz198 Ln) h (fun z => rfl) (fun r70 φ70 α70 h => ?_)
              refine r_bipush 40 (pc' := 107) (kX11_qPartTold_0 53 rfl) rfl ⟨by unfold inR; omega, rfl⟩ ?_
              refine r_icmp_ne (t := 117) (pc' := 110) (kX11_qPartTold_0 54 rfl) rfl rfl (fun c71 => ?_) (fun c71 => ?_)
              · have h := h.1 c71
                refine r_iconst (-1) (pc' := 118) (kX11_qPartTold_0 58 rfl) rfl (by unfold inR; omega) ?_
                refine r_istore (L' := [(2, 198), (0, x1), (0, r25), (0, r26), (0, r57), (0, (-1))]) (pc' := 120) (kX11_qPartTold_0 59 rfl) rfl (Nat.le_of_ble_eq_true rfl) rfl ?_
                refine r_iload (pc' := 122) (kX11_qPartTold_1 0 rfl) rfl rfl ?_
                refine r_iconst (-1) (pc' := 123) (kX11_qPartTold_1 1 rfl) rfl (by unfold inR; omega) ?_
                refine r_icmp_eq (t := 144) (pc' := 126) (kX11_qPartTold_1 2 rfl) rfl rfl (fun _ => ?_) (fun cz => absurd cz (by decide))
                refine r_aload_n (pc' := 145) (kX11_qPartTold_1 11 rfl) rfl rfl ?_
                refine r_bipush 40 (pc' := 147) (kX11_qPartTold_1 12 rfl) rfl ⟨by unfold inR; omega, rfl⟩ ?_
                refine s_callV (As := [(0, 40)]) (o := 198) (S := []) (S2 := fun z => []) (pc' := 150) (kX11_qPartTold_1 13 rfl) rfl rfl nkX11_asksSign mlX11_300 imX11_asksSign rfl slX11_asksSign rfl (Nat.le_of_ble_eq_true rfl) (Nat.le_of_ble_eq_true rfl) (kz198 Ln) h (fun z => rfl) (fun r72 φ72 α72 h => ?_)
                refine r_goto (pc' := 183) (kX11_qPartTold_1 14 rfl) rfl ?_
                refine r_goto (pc' := 2) (kX11_qPartTold_1 33 rfl) rfl ?_
                exact r_weak (L' := [(2, 198), (0, x1), (9, 0), (9, 0), (9, 0), (9, 0)]) ⟨Or.inl rfl, Or.inl rfl, Or.inr (by decide), Or.inr (by decide), Or.inr (by decide), Or.inr (by decide), trivial⟩ (h Ln)
              · have h := h.2 c71
                refine r_aload_n (pc' := 111) (kX11_qPartTold_0 55 rfl) rfl rfl ?_
                refine s_get (x := (φ70 11 2 198)) (pc' := 114) (kX11_qPartTold_0 56 rfl) rfl fkX11_233 rfl rfl rfl (kz198 Ln) rfl ?_
                refine r_goto (pc' := 118) (kX11_qPartTold_0 57 rfl) rfl ?_
                refine r_istore (L' := [(2, 198), (0, x1), (0, r25), (0, r26), (0, r57), (0, (φ70 11 2 198))]) (pc' := 120) (kX11_qPartTold_0 59 rfl) rfl (Nat.le_of_ble_eq_true rfl) rfl ?_
                refine r_iload (pc' := 122) (kX11_qPartTold_1 0 rfl) rfl rfl ?_
                refine r_iconst (-1) (pc' := 123) (kX11_qPartTold_1 1 rfl) rfl (by unfold inR; omega) ?_
                refine r_icmp_eq (t := 144) (pc' := 126) (kX11_qPartTold_1 2 rfl) rfl rfl (fun c73 => ?_) (fun c73 => ?_)
                · have h := h.1 c73
                  refine r_aload_n (pc' := 145) (kX11_qPartTold_1 11 rfl) rfl rfl ?_
                  refine r_bipush 40 (pc' := 147) (kX11_qPartTold_1 12 rfl) rfl ⟨by unfold inR; omega, rfl⟩ ?_
                  refine s_callV (As := [(0, 40)]) (o := 198) (S := []) (S2 := fun z => []) (pc' := 150) (kX11_qPartTold_1 13 rfl) rfl rfl nkX11_asksSign mlX11_300 imX11_asksSign rfl slX11_asksSign rfl (Nat.le_of_ble_eq_true rfl) (Nat.le_of_ble_eq_true rfl) (kz198 Ln) h (fun z => rfl) (fun r74 φ74 α74 h => ?_)
                  refine r_goto (pc' := 183) (kX11_qPartTold_1 14 rfl) rfl ?_
                  refine r_goto (pc' := 2) (kX11_qPartTold_1 33 rfl) rfl ?_
                  exact r_weak (L' := [(2, 198), (0, x1), (9, 0), (9, 0), (9, 0), (9, 0)]) ⟨Or.inl rfl, Or.inl rfl, Or.inr (by decide), Or.inr (by decide), Or.inr (by decide), Or.inr (by decide), trivial⟩ (h Ln)
                · have h := h.2 c73
                  refine r_aload_n (pc' := 127) (kX11_qPartTold_1 3 rfl) rfl rfl ?_
                  refine r_iload (pc' := 129) (kX11_qPartTold_1 4 rfl) rfl rfl ?_
                  refine r_if_eq (t := 137) (pc' := 132) (kX11_qPartTold_1 5 rfl) rfl rfl (fun _ => ?_) (fun cz => absurd c58 cz)
                  refine r_bipush 22 (pc' := 139) (kX11_qPartTold_1 8 rfl) rfl ⟨by unfold inR; omega, rfl⟩ ?_
                  refine r_iload (pc' := 141) (kX11_qPartTold_1 9 rfl) rfl rfl ?_
                  refine s_callV (As := [(0, 22), (0, (φ70 11 2 198))]) (o := 198) (S := []) (S2 := fun z => []) (pc' := 144) (kX11_qPartTold_1 10 rfl) rfl rfl nkX11_qOpens mlX11_582 imX11_qOpens rfl slX11_qOpens rfl (Nat.le_of_ble_eq_true rfl) (Nat.le_of_ble_eq_true rfl) (kz198 Ln) h (fun z => rfl) (fun r75 φ75 α75 h => ?_)
                  refine r_aload_n (pc' := 145) (kX11_qPartTold_1 11 rfl) rfl rfl ?_
                  refine r_bipush 40 (pc' := 147) (kX11_qPartTold_1 12 rfl) rfl ⟨by unfold inR; omega, rfl⟩ ?_
                  refine s_callV (As := [(0, 40)]) (o := 198) (S := []) (S2 := fun z => []) (pc' := 150) (kX11_qPartTold_1 13 rfl) rfl rfl nkX11_asksSign mlX11_300 imX11_asksSign rfl slX11_asksSign rfl (Nat.le_of_ble_eq_true rfl) (Nat.le_of_ble_eq_true rfl) (kz198 Ln) h (fun z => rfl) (fun r76 φ76 α76 h => ?_)
                  refine r_goto (pc' := 183) (kX11_qPartTold_1 14 rfl) rfl ?_
                  refine r_goto (pc' := 2) (kX11_qPartTold_1 33 rfl) rfl ?_
                  exact r_weak (L' := [(2, 198), (0, x1), (9, 0), (9, 0), (9, 0), (9, 0)]) ⟨Or.inl rfl, Or.inl rfl, Or.inr (by decide), Or.inr (by decide), Or.inr (by decide), Or.inr (by decide), trivial⟩ (h Ln)
      · have h := h.2 c27
        refine r_aload_n (pc' := 34) (kX11_qPartTold_0 18 rfl) rfl rfl ?_
        refine r_bipush 20 (pc' := 36) (kX11_qPartTold_0 19 rfl) rfl ⟨by unfold inR; omega, rfl⟩ ?_
        refine r_aload_n (pc' := 37) (kX11_qPartTold_0 20 rfl) rfl rfl ?_
        refine s_get (x := (φ26 11 2 198)) (pc' := 40) (kX11_qPartTold_0 21 rfl) rfl fkX11_233 rfl rfl rfl (kz198 Ln) rfl ?_
        refine s_callV (As := [(0, 20), (0, (φ26 11 2 198))]) (o := 198) (S := []) (S2 := fun z => []) (pc' := 43) (kX11_qPartTold_0 22 rfl) rfl rfl nkX11_qOpens mlX11_582 imX11_qOpens rfl slX11_qOpens rfl (Nat.le_of_ble_eq_true rfl) (Nat.le_of_ble_eq_true rfl) (kz198 Ln) h (fun z => rfl) (fun r77 φ77 α77 h => ?_)
        refine r_aload_n (pc' := 44) (kX11_qPartTold_0 23 rfl) rfl rfl ?_
        refine r_dup (pc' := 45) (kX11_qPartTold_0 24 rfl) rfl rfl ?_
        refine s_get (x := (φ77 11 2 198)) (pc' := 48) (kX11_qPartTold_0 25 rfl) rfl fkX11_233 rfl rfl rfl (kz198 Ln) rfl ?_
        refine r_iconst 1 (pc' := 49) (kX11_qPartTold_0 26 rfl) rfl (by unfold inR; omega) ?_
        have g78 := h.1
        have h := h.2
        refine r_iadd (pc' := 50) (kX11_qPartTold_0 27 rfl) rfl g78 ?_
        refine s_put (pc' := 53) (kX11_qPartTold_0 28 rfl) rfl fkX11_233 fnX11_2 rfl pk_int (kz198 Ln) ?_
        refine r_goto (pc' := 183) (kX11_qPartTold_0 29 rfl) rfl ?_
        refine r_goto (pc' := 2) (kX11_qPartTold_1 33 rfl) rfl ?_
        exact r_weak (L' := [(2, 198), (0, x1), (9, 0), (9, 0), (9, 0), (9, 0)]) ⟨Or.inl rfl, Or.inl rfl, Or.inr (by decide), Or.inr (by decide), Or.inr (by decide), Or.inr (by decide), trivial⟩ (h Ln)
abbrev jX11_qGoesOn_162 (d : Nat) (x1 : Int) (φ : aF) (α : aA) (Q : Int → aF → aA → Prop) : Prop := R0 d mX11_qGoesOn 162 [(2, 198), (0, x1)] [] φ α Q
abbrev jX11_qGoesOn_247 (d : Nat) (x1 : Int) (φ : aF) (α : aA) (Q : Int → aF → aA → Prop) : Prop := R0 d mX11_qGoesOn 247 [(2, 198), (0, x1)] [] φ α Q
abbrev jX11_qGoesOn_0 (d : Nat) (φ : aF) (α : aA) (Q : Int → aF → aA → Prop) : Prop := R0 d mX11_qGoesOn 0 [(2, 198), (9, 0)] [] φ α Q
theorem vX11_qGoesOn_0 {d : Nat} {φ : aF} {α : aA} {Q : Int → aF → aA → Prop} (h : ((¬ (φ 11 5 198) = 0 →
   (eX11_takesSign d 42 φ α (fun r2 φ2 α2 =>
     ((¬ r2 = 0 →
     inR ((φ2 11 2 198) - 1) ∧ (0 ≤ ((φ2 11 2 198) - 1) ∧ ((φ2 11 2 198) - 1) < (1600 : Nat)) ∧ ((¬ (α2 199 ((φ2 11 2 198) - 1)) = 42 →
       (jX11_qGoesOn_162 (d + 1) 4 φ2 α2 Q)) ∧
       ((α2 199 ((φ2 11 2 198) - 1)) = 42 →
       (jX11_qGoesOn_162 (d + 1) 3 φ2 α2 Q)))) ∧
     (r2 = 0 →
     (eX11_takesSign d 47 φ2 α2 (fun r7 φ7 α7 =>
       ((r7 = 0 →
       (eX11_takesSign d 43 φ7 α7 (fun r9 φ9 α9 =>
         ((¬ r9 = 0 →
         inR ((φ9 11 2 198) - 1) ∧ (0 ≤ ((φ9 11 2 198) - 1) ∧ ((φ9 11 2 198) - 1) < (1600 : Nat)) ∧ ((¬ (α9 199 ((φ9 11 2 198) - 1)) = 43 →
           (jX11_qGoesOn_247 (d + 1) 2 φ9 α9 Q)) ∧
           ((α9 199 ((φ9 11 2 198) - 1)) = 43 →
           (jX11_qGoesOn_247 (d + 1) 1 φ9 α9 Q)))) ∧
         (r9 = 0 →
         (eX11_takesSign d 45 φ9 α9 (fun r14 φ14 α14 =>
           ((r14 = 0 →
           (eX11_qBracket d  φ14 α14 (fun r16 φ16 α16 =>
             ((r16 = 21 →
             (eX11_asksSign d 44 φ16 α16 (fun r18 φ18 α18 =>
               (((φ18 11 5 198) = 0 →
               (eX11_qDropsToBracket d  φ18 α18 (fun r20 φ20 α20 =>
                 inR ((φ20 11 90 198) - 1) ∧ (0 ≤ ((φ20 11 90 198) - 1) ∧ ((φ20 11 90 198) - 1) < (1700 : Nat)) ∧ inR ((α20 264 ((φ20 11 90 198) - 1)) + 2) ∧ (Q 1 φ20 (upa α20 264 ((φ20 11 90 198) - 1) ((α20 264 ((φ20 11 90 198) - 1)) + 2)))))) ∧
               (¬ ((φ18 11 5 198) = 0) →
               (Q 0 φ18 α18)))))) ∧
             (¬ (r16 = 21) →
             (eX11_qBracket d  φ16 α16 (fun r24 φ24 α24 =>
               ((¬ r24 = 22 →
               (eX11_qBracket d  φ24 α24 (fun r26 φ26 α26 =>
                 ((r26 = (-1) →
                 (Q 0 φ26 α26)) ∧
                 (¬ (r26 = (-1)) →
                 ((¬ (φ26 11 5 198) = 0 →
                   (Q 0 φ26 α26)) ∧
                   ((φ26 11 5 198) = 0 →
                   (eX11_fail d 1 (φ26 11 2 198) φ26 α26 (fun r29 φ29 α29 =>
                     (Q 0 φ29 α29)))))))))) ∧
               (r24 = 22 →
               (eX11_asksSign d 44 φ24 α24 (fun r30 φ30 α30 =>
                 (((φ30 11 5 198) = 0 →
                 (eX11_qDropsToBracket d  φ30 α30 (fun r32 φ32 α32 =>
                   inR ((φ32 11 90 198) - 1) ∧ (0 ≤ ((φ32 11 90 198) - 1) ∧ ((φ32 11 90 198) - 1) < (1700 : Nat)) ∧ inR ((α32 264 ((φ32 11 90 198) - 1)) + 2) ∧ (Q 1 φ32 (upa α32 264 ((φ32 11 90 198) - 1) ((α32 264 ((φ32 11 90 198) - 1)) + 2)))))) ∧
                 (¬ ((φ30 11 5 198) = 0) →
                 (Q 0 φ30 α30)))))))))))))) ∧
           (¬ (r14 = 0) →
           inR ((φ14 11 2 198) - 1) ∧ (0 ≤ ((φ14 11 2 198) - 1) ∧ ((φ14 11 2 198) - 1) < (1600 : Nat)) ∧ ((¬ (α14 199 ((φ14 11 2 198) - 1)) = 43 →
             (jX11_qGoesOn_247 (d + 1) 2 φ14 α14 Q)) ∧
             ((α14 199 ((φ14 11 2 198) - 1)) = 43 →
             (jX11_qGoesOn_247 (d + 1) 1 φ14 α14 Q)))))))))))) ∧
       (¬ (r7 = 0) →
       inR ((φ7 11 2 198) - 1) ∧ (0 ≤ ((φ7 11 2 198) - 1) ∧ ((φ7 11 2 198) - 1) < (1600 : Nat)) ∧ ((¬ (α7 199 ((φ7 11 2 198) - 1)) = 42 →
         (jX11_qGoesOn_162 (d + 1) 4 φ7 α7 Q)) ∧
         ((α7 199 ((φ7 11 2 198) - 1)) = 42 →
         (jX11_qGoesOn_162 (d + 1) 3 φ7 α7 Q)))))))))))) ∧
   ((φ 11 5 198) = 0 →
   (eX11_look d  φ α (fun r42 φ42 α42 =>
     ((¬ r42 = 41 →
     (eX11_takesSign d 42 φ42 α42 (fun r44 φ44 α44 =>
       ((¬ r44 = 0 →
       inR ((φ44 11 2 198) - 1) ∧ (0 ≤ ((φ44 11 2 198) - 1) ∧ ((φ44 11 2 198) - 1) < (1600 : Nat)) ∧ ((¬ (α44 199 ((φ44 11 2 198) - 1)) = 42 →
         (jX11_qGoesOn_162 (d + 1) 4 φ44 α44 Q)) ∧
         ((α44 199 ((φ44 11 2 198) - 1)) = 42 →
         (jX11_qGoesOn_162 (d + 1) 3 φ44 α44 Q)))) ∧
       (r44 = 0 →
       (eX11_takesSign d 47 φ44 α44 (fun r49 φ49 α49 =>
         ((r49 = 0 →
         (eX11_takesSign d 43 φ49 α49 (fun r51 φ51 α51 =>
           ((¬ r51 = 0 →
           inR ((φ51 11 2 198) - 1) ∧ (0 ≤ ((φ51 11 2 198) - 1) ∧ ((φ51 11 2 198) - 1) < (1600 : Nat)) ∧ ((¬ (α51 199 ((φ51 11 2 198) - 1)) = 43 →
             (jX11_qGoesOn_247 (d + 1) 2 φ51 α51 Q)) ∧
             ((α51 199 ((φ51 11 2 198) - 1)) = 43 →
             (jX11_qGoesOn_247 (d + 1) 1 φ51 α51 Q)))) ∧
           (r51 = 0 →
           (eX11_takesSign d 45 φ51 α51 (fun r56 φ56 α56 =>
             ((r56 = 0 →
             (eX11_qBracket d  φ56 α56 (fun r58 φ58 α58 =>
               ((r58 = 21 →
               (eX11_asksSign d 44 φ58 α58 (fun r60 φ60 α60 =>
                 (((φ60 11 5 198) = 0 →
                 (eX11_qDropsToBracket d  φ60 α60 (fun r62 φ62 α62 =>
                   inR ((φ62 11 90 198) - 1) ∧ (0 ≤ ((φ62 11 90 198) - 1) ∧ ((φ62 11 90 198) - 1) < (1700 : Nat)) ∧ inR ((α62 264 ((φ62 11 90 198) - 1)) + 2) ∧ (Q 1 φ62 (upa α62 264 ((φ62 11 90 198) - 1) ((α62 264 ((φ62 11 90 198) - 1)) + 2)))))) ∧
                 (¬ ((φ60 11 5 198) = 0) →
                 (Q 0 φ60 α60)))))) ∧
               (¬ (r58 = 21) →
               (eX11_qBracket d  φ58 α58 (fun r66 φ66 α66 =>
                 ((¬ r66 = 22 →
                 (eX11_qBracket d  φ66 α66 (fun r68 φ68 α68 =>
                   ((r68 = (-1) →
                   (Q 0 φ68 α68)) ∧
                   (¬ (r68 = (-1)) →
                   ((¬ (φ68 11 5 198) = 0 →
                     (Q 0 φ68 α68)) ∧
                     ((φ68 11 5 198) = 0 →
                     (eX11_fail d 1 (φ68 11 2 198) φ68 α68 (fun r71 φ71 α71 =>
                       (Q 0 φ71 α71)))))))))) ∧
                 (r66 = 22 →
                 (eX11_asksSign d 44 φ66 α66 (fun r72 φ72 α72 =>
                   (((φ72 11 5 198) = 0 →
                   (eX11_qDropsToBracket d  φ72 α72 (fun r74 φ74 α74 =>
                     inR ((φ74 11 90 198) - 1) ∧ (0 ≤ ((φ74 11 90 198) - 1) ∧ ((φ74 11 90 198) - 1) < (1700 : Nat)) ∧ inR ((α74 264 ((φ74 11 90 198) - 1)) + 2) ∧ (Q 1 φ74 (upa α74 264 ((φ74 11 90 198) - 1) ((α74 264 ((φ74 11 90 198) - 1)) + 2)))))) ∧
                   (¬ ((φ72 11 5 198) = 0) →
                   (Q 0 φ72 α72)))))))))))))) ∧
             (¬ (r56 = 0) →
             inR ((φ56 11 2 198) - 1) ∧ (0 ≤ ((φ56 11 2 198) - 1) ∧ ((φ56 11 2 198) - 1) < (1600 : Nat)) ∧ ((¬ (α56 199 ((φ56 11 2 198) - 1)) = 43 →
               (jX11_qGoesOn_247 (d + 1) 2 φ56 α56 Q)) ∧
               ((α56 199 ((φ56 11 2 198) - 1)) = 43 →
               (jX11_qGoesOn_247 (d + 1) 1 φ56 α56 Q)))))))))))) ∧
         (¬ (r49 = 0) →
         inR ((φ49 11 2 198) - 1) ∧ (0 ≤ ((φ49 11 2 198) - 1) ∧ ((φ49 11 2 198) - 1) < (1600 : Nat)) ∧ ((¬ (α49 199 ((φ49 11 2 198) - 1)) = 42 →
           (jX11_qGoesOn_162 (d + 1) 4 φ49 α49 Q)) ∧
           ((α49 199 ((φ49 11 2 198) - 1)) = 42 →
           (jX11_qGoesOn_162 (d + 1) 3 φ49 α49 Q)))))))))))) ∧
     (r42 = 41 →
     (eX11_qBracket d  φ42 α42 (fun r84 φ84 α84 =>
       ((r84 = 20 →
       inR ((φ84 11 2 198) + 1) ∧ (eX11_qDropsToBracket d  (upf φ84 11 2 198 ((φ84 11 2 198) + 1)) α84 (fun r87 φ87 α87 =>
         inR ((φ87 11 90 198) - 1) ∧ inR ((φ87 11 91 198) - 1) ∧ (0 ≤ ((φ87 11 90 198) - 1) ∧ ((φ87 11 90 198) - 1) < (1700 : Nat)) ∧ (((α87 264 ((φ87 11 90 198) - 1)) = 20 →
         (eX11_qEndsPart d  (upf (upf φ87 11 90 198 ((φ87 11 90 198) - 1)) 11 91 198 ((φ87 11 91 198) - 1)) α87 (fun r92 φ92 α92 =>
           (jX11_qGoesOn_0 (d + 1)  φ92 α92 Q)))) ∧
         (¬ ((α87 264 ((φ87 11 90 198) - 1)) = 20) →
         ((¬ (α87 264 ((φ87 11 90 198) - 1)) = 23 →
           (eX11_qCode d 6 (upf (upf φ87 11 90 198 ((φ87 11 90 198) - 1)) 11 91 198 ((φ87 11 91 198) - 1)) α87 (fun r94 φ94 α94 =>
             (eX11_qEndsPart d  φ94 α94 (fun r95 φ95 α95 =>
             (jX11_qGoesOn_0 (d + 1)  φ95 α95 Q)))))) ∧
           ((α87 264 ((φ87 11 90 198) - 1)) = 23 →
           (eX11_qCode d 5 (upf (upf φ87 11 90 198 ((φ87 11 90 198) - 1)) 11 91 198 ((φ87 11 91 198) - 1)) α87 (fun r96 φ96 α96 =>
             (eX11_qEndsPart d  φ96 α96 (fun r97 φ97 α97 =>
             (jX11_qGoesOn_0 (d + 1)  φ97 α97 Q)))))))))))) ∧
       (¬ (r84 = 20) →
       (eX11_qBracket d  φ84 α84 (fun r98 φ98 α98 =>
         ((r98 = 23 →
         inR ((φ98 11 2 198) + 1) ∧ (eX11_qDropsToBracket d  (upf φ98 11 2 198 ((φ98 11 2 198) + 1)) α98 (fun r101 φ101 α101 =>
           inR ((φ101 11 90 198) - 1) ∧ inR ((φ101 11 91 198) - 1) ∧ (0 ≤ ((φ101 11 90 198) - 1) ∧ ((φ101 11 90 198) - 1) < (1700 : Nat)) ∧ (((α101 264 ((φ101 11 90 198) - 1)) = 20 →
           (eX11_qEndsPart d  (upf (upf φ101 11 90 198 ((φ101 11 90 198) - 1)) 11 91 198 ((φ101 11 91 198) - 1)) α101 (fun r106 φ106 α106 =>
             (jX11_qGoesOn_0 (d + 1)  φ106 α106 Q)))) ∧
           (¬ ((α101 264 ((φ101 11 90 198) - 1)) = 20) →
           ((¬ (α101 264 ((φ101 11 90 198) - 1)) = 23 →
             (eX11_qCode d 6 (upf (upf φ101 11 90 198 ((φ101 11 90 198) - 1)) 11 91 198 ((φ101 11 91 198) - 1)) α101 (fun r108 φ108 α108 =>
               (eX11_qEndsPart d  φ108 α108 (fun r109 φ109 α109 =>
               (jX11_qGoesOn_0 (d + 1)  φ109 α109 Q)))))) ∧
             ((α101 264 ((φ101 11 90 198) - 1)) = 23 →
             (eX11_qCode d 5 (upf (upf φ101 11 90 198 ((φ101 11 90 198) - 1)) 11 91 198 ((φ101 11 91 198) - 1)) α101 (fun r110 φ110 α110 =>
               (eX11_qEndsPart d  φ110 α110 (fun r111 φ111 α111 =>
               (jX11_qGoesOn_0 (d + 1)  φ111 α111 Q)))))))))))) ∧
         (¬ (r98 = 23) →
         (eX11_qBracket d  φ98 α98 (fun r112 φ112 α112 =>
           ((¬ r112 = 24 →
           (eX11_takesSign d 42 φ112 α112 (fun r114 φ114 α114 =>
             ((¬ r114 = 0 →
             inR ((φ114 11 2 198) - 1) ∧ (0 ≤ ((φ114 11 2 198) - 1) ∧ ((φ114 11 2 198) - 1) < (1600 : Nat)) ∧ ((¬ (α114 199 ((φ114 11 2 198) - 1)) = 42 →
               (jX11_qGoesOn_162 (d + 1) 4 φ114 α114 Q)) ∧
               ((α114 199 ((φ114 11 2 198) - 1)) = 42 →
               (jX11_qGoesOn_162 (d + 1) 3 φ114 α114 Q)))) ∧
             (r114 = 0 →
             (eX11_takesSign d 47 φ114 α114 (fun r119 φ119 α119 =>
               ((r119 = 0 →
               (eX11_takesSign d 43 φ119 α119 (fun r121 φ121 α121 =>
                 ((¬ r121 = 0 →
                 inR ((φ121 11 2 198) - 1) ∧ (0 ≤ ((φ121 11 2 198) - 1) ∧ ((φ121 11 2 198) - 1) < (1600 : Nat)) ∧ ((¬ (α121 199 ((φ121 11 2 198) - 1)) = 43 →
                   (jX11_qGoesOn_247 (d + 1) 2 φ121 α121 Q)) ∧
                   ((α121 199 ((φ121 11 2 198) - 1)) = 43 →
                   (jX11_qGoesOn_247 (d + 1) 1 φ121 α121 Q)))) ∧
                 (r121 = 0 →
                 (eX11_takesSign d 45 φ121 α121 (fun r126 φ126 α126 =>
                   ((r126 = 0 →
                   (eX11_qBracket d  φ126 α126 (fun r128 φ128 α128 =>
                     ((r128 = 21 →
                     (eX11_asksSign d 44 φ128 α128 (fun r130 φ130 α130 =>
                       (((φ130 11 5 198) = 0 →
                       (eX11_qDropsToBracket d  φ130 α130 (fun r132 φ132 α132 =>
                         inR ((φ132 11 90 198) - 1) ∧ (0 ≤ ((φ132 11 90 198) - 1) ∧ ((φ132 11 90 198) - 1) < (1700 : Nat)) ∧ inR ((α132 264 ((φ132 11 90 198) - 1)) + 2) ∧ (Q 1 φ132 (upa α132 264 ((φ132 11 90 198) - 1) ((α132 264 ((φ132 11 90 198) - 1)) + 2)))))) ∧
                       (¬ ((φ130 11 5 198) = 0) →
                       (Q 0 φ130 α130)))))) ∧
                     (¬ (r128 = 21) →
                     (eX11_qBracket d  φ128 α128 (fun r136 φ136 α136 =>
                       ((¬ r136 = 22 →
                       (eX11_qBracket d  φ136 α136 (fun r138 φ138 α138 =>
                         ((r138 = (-1) →
                         (Q 0 φ138 α138)) ∧
                         (¬ (r138 = (-1)) →
                         ((¬ (φ138 11 5 198) = 0 →
                           (Q 0 φ138 α138)) ∧
                           ((φ138 11 5 198) = 0 →
                           (eX11_fail d 1 (φ138 11 2 198) φ138 α138 (fun r141 φ141 α141 =>
                             (Q 0 φ141 α141)))))))))) ∧
                       (r136 = 22 →
                       (eX11_asksSign d 44 φ136 α136 (fun r142 φ142 α142 =>
                         (((φ142 11 5 198) = 0 →
                         (eX11_qDropsToBracket d  φ142 α142 (fun r144 φ144 α144 =>
                           inR ((φ144 11 90 198) - 1) ∧ (0 ≤ ((φ144 11 90 198) - 1) ∧ ((φ144 11 90 198) - 1) < (1700 : Nat)) ∧ inR ((α144 264 ((φ144 11 90 198) - 1)) + 2) ∧ (Q 1 φ144 (upa α144 264 ((φ144 11 90 198) - 1) ((α144 264 ((φ144 11 90 198) - 1)) + 2)))))) ∧
                         (¬ ((φ142 11 5 198) = 0) →
                         (Q 0 φ142 α142)))))))))))))) ∧
                   (¬ (r126 = 0) →
                   inR ((φ126 11 2 198) - 1) ∧ (0 ≤ ((φ126 11 2 198) - 1) ∧ ((φ126 11 2 198) - 1) < (1600 : Nat)) ∧ ((¬ (α126 199 ((φ126 11 2 198) - 1)) = 43 →
                     (jX11_qGoesOn_247 (d + 1) 2 φ126 α126 Q)) ∧
                     ((α126 199 ((φ126 11 2 198) - 1)) = 43 →
                     (jX11_qGoesOn_247 (d + 1) 1 φ126 α126 Q)))))))))))) ∧
               (¬ (r119 = 0) →
               inR ((φ119 11 2 198) - 1) ∧ (0 ≤ ((φ119 11 2 198) - 1) ∧ ((φ119 11 2 198) - 1) < (1600 : Nat)) ∧ ((¬ (α119 199 ((φ119 11 2 198) - 1)) = 42 →
                 (jX11_qGoesOn_162 (d + 1) 4 φ119 α119 Q)) ∧
                 ((α119 199 ((φ119 11 2 198) - 1)) = 42 →
                 (jX11_qGoesOn_162 (d + 1) 3 φ119 α119 Q)))))))))))) ∧
           (r112 = 24 →
           inR ((φ112 11 2 198) + 1) ∧ (eX11_qDropsToBracket d  (upf φ112 11 2 198 ((φ112 11 2 198) + 1)) α112 (fun r155 φ155 α155 =>
             inR ((φ155 11 90 198) - 1) ∧ inR ((φ155 11 91 198) - 1) ∧ (0 ≤ ((φ155 11 90 198) - 1) ∧ ((φ155 11 90 198) - 1) < (1700 : Nat)) ∧ (((α155 264 ((φ155 11 90 198) - 1)) = 20 →
             (eX11_qEndsPart d  (upf (upf φ155 11 90 198 ((φ155 11 90 198) - 1)) 11 91 198 ((φ155 11 91 198) - 1)) α155 (fun r160 φ160 α160 =>
               (jX11_qGoesOn_0 (d + 1)  φ160 α160 Q)))) ∧
             (¬ ((α155 264 ((φ155 11 90 198) - 1)) = 20) →
             ((¬ (α155 264 ((φ155 11 90 198) - 1)) = 23 →
               (eX11_qCode d 6 (upf (upf φ155 11 90 198 ((φ155 11 90 198) - 1)) 11 91 198 ((φ155 11 91 198) - 1)) α155 (fun r162 φ162 α162 =>
                 (eX11_qEndsPart d  φ162 α162 (fun r163 φ163 α163 =>
                 (jX11_qGoesOn_0 (d + 1)  φ163 α163 Q)))))) ∧
               ((α155 264 ((φ155 11 90 198) - 1)) = 23 →
               (eX11_qCode d 5 (upf (upf φ155 11 90 198 ((φ155 11 90 198) - 1)) 11 91 198 ((φ155 11 91 198) - 1)) α155 (fun r164 φ164 α164 =>
                 (eX11_qEndsPart d  φ164 α164 (fun r165 φ165 α165 =>
                 (jX11_qGoesOn_0 (d + 1)  φ165 α165 Q)))))))))))))))))))))))))))))) : eX11_qGoesOn (d + 1)  φ α Q := by
  intro Ln
  refine r_aload_n (pc' := 1) (kX11_qGoesOn_0 0 rfl) rfl rfl ?_
  refine s_get (x := (φ 11 5 198)) (pc' := 4) (kX11_qGoesOn_0 1 rfl) rfl fkX11_227 rfl rfl rfl (kz198 Ln) rfl ?_
  refine r_if_ne (t := 122) (pc' := 7) (kX11_qGoesOn_0 2 rfl) rfl rfl (fun c1 => ?_) (fun c1 => ?_)
  · have h := h.1 c1
    refine r_aload_n (pc' := 123) (kX11_qGoesOn_1 1 rfl) rfl rfl ?_
    refine r_bipush 42 (pc' := 125) (kX11_qGoesOn_1 2 rfl) rfl ⟨by unfold inR; omega, rfl⟩ ?_
    refine s_callV (As := [(0, 42)]) (o := 198) (S := []) (S2 := fun z => [(0, z)]) (pc' := 128) (kX11_qGoesOn_1 3 rfl) rfl rfl nkX11_takesSign mlX11_261 imX11_takesSign rfl slX11_takesSign rfl (Nat.le_of_ble_eq_true rfl) (Nat.le_of_ble_eq_true rfl) (kz198 Ln) h (fun z => rfl) (fun r2 φ2 α2 h => ?_)
    refine r_if_ne (t := 140) (pc' := 131) (kX11_qGoesOn_1 4 rfl) rfl rfl (fun c3 => ?_) (fun c3 => ?_)
    · have h := h.1 c3
      refine r_aload_n (pc' := 141) (kX11_qGoesOn_1 9 rfl) rfl rfl ?_
      refine s_getr (v := 199) (pc' := 144) (kX11_qGoesOn_1 10 rfl) rfl fkX11_7 rfl rfl (kz198 Ln) rfl (by decide) ?_
      refine r_aload_n (pc' := 145) (kX11_qGoesOn_1 11 rfl) rfl rfl ?_
      refine s_get (x := (φ2 11 2 198)) (pc' := 148) (kX11_qGoesOn_1 12 rfl) rfl fkX11_233 rfl rfl rfl (kz198 Ln) rfl ?_
      refine r_iconst 1 (pc' := 149) (kX11_qGoesOn_1 13 rfl) rfl (by unfold inR; omega) ?_
      have g4 := h.1
      have h := h.2
      refine r_isub (pc' := 150) (kX11_qGoesOn_1 14 rfl) rfl g4 ?_
      have g5 := h.1
      have h := h.2
      refine s_iald (x := (α2 199 ((φ2 11 2 198) - 1))) (pc' := 151) (kX11_qGoesOn_1 15 rfl) rfl (kz199 Ln) g5 rfl ?_
      refine r_bipush 42 (pc' := 153) (kX11_qGoesOn_1 16 rfl) rfl ⟨by unfold inR; omega, rfl⟩ ?_
      refine r_icmp_ne (t := 160) (pc' := 156) (kX11_qGoesOn_1 17 rfl) rfl rfl (fun c6 => ?_) (fun c6 => ?_)
      · have h := h.1 c6
        refine r_iconst 4 (pc' := 161) (kX11_qGoesOn_1 20 rfl) rfl (by unfold inR; omega) ?_
        refine r_istore_n (L' := [(2, 198), (0, 4)]) (pc' := 162) (kX11_qGoesOn_1 21 rfl) rfl (Nat.le_of_ble_eq_true rfl) rfl ?_
        exact r_weak (L' := [(2, 198), (0, 4)]) ⟨Or.inl rfl, Or.inl rfl, trivial⟩ (h Ln)
      · have h := h.2 c6
        refine r_iconst 3 (pc' := 157) (kX11_qGoesOn_1 18 rfl) rfl (by unfold inR; omega) ?_
        refine r_goto (pc' := 161) (kX11_qGoesOn_1 19 rfl) rfl ?_
        refine r_istore_n (L' := [(2, 198), (0, 3)]) (pc' := 162) (kX11_qGoesOn_1 21 rfl) rfl (Nat.le_of_ble_eq_true rfl) rfl ?_
        exact r_weak (L' := [(2, 198), (0, 3)]) ⟨Or.inl rfl, Or.inl rfl, trivial⟩ (h Ln)
    · have h := h.2 c3
      refine r_aload_n (pc' := 132) (kX11_qGoesOn_1 5 rfl) rfl rfl ?_
      refine r_bipush 47 (pc' := 134) (kX11_qGoesOn_1 6 rfl) rfl ⟨by unfold inR; omega, rfl⟩ ?_
      refine s_callV (As := [(0, 47)]) (o := 198) (S := []) (S2 := fun z => [(0, z)]) (pc' := 137) (kX11_qGoesOn_1 7 rfl) rfl rfl nkX11_takesSign mlX11_261 imX11_takesSign rfl slX11_takesSign rfl (Nat.le_of_ble_eq_true rfl) (Nat.le_of_ble_eq_true rfl) (kz198 Ln) h (fun z => rfl) (fun r7 φ7 α7 h => ?_)
      refine r_if_eq (t := 207) (pc' := 140) (kX11_qGoesOn_1 8 rfl) rfl rfl (fun c8 => ?_) (fun c8 => ?_)
      · have h := h.1 c8
        refine r_aload_n (pc' := 208) (kX11_qGoesOn_1 47 rfl) rfl rfl ?_
        refine r_bipush 43 (pc' := 210) (kX11_qGoesOn_1 48 rfl) rfl ⟨by unfold inR; omega, rfl⟩ ?_
        refine s_callV (As := [(0, 43)]) (o := 198) (S := []) (S2 := fun z => [(0, z)]) (pc' := 213) (kX11_qGoesOn_1 49 rfl) rfl rfl nkX11_takesSign mlX11_261 imX11_takesSign rfl slX11_takesSign rfl (Nat.le_of_ble_eq_true rfl) (Nat.le_of_ble_eq_true rfl) (kz198 Ln) h (fun z => rfl) (fun r9 φ9 α9 h => ?_)
        refine r_if_ne (t := 225) (pc' := 216) (kX11_qGoesOn_1 50 rfl) rfl rfl (fun c10 => ?_) (fun c10 => ?_)
        · have h := h.1 c10
          refine r_aload_n (pc' := 226) (kX11_qGoesOn_1 55 rfl) rfl rfl ?_
          refine s_getr (v := 199) (pc' := 229) (kX11_qGoesOn_1 56 rfl) rfl fkX11_7 rfl rfl (kz198 Ln) rfl (by decide) ?_
          refine r_aload_n (pc' := 230) (kX11_qGoesOn_1 57 rfl) rfl rfl ?_
          refine s_get (x := (φ9 11 2 198)) (pc' := 233) (kX11_qGoesOn_1 58 rfl) rfl fkX11_233 rfl rfl rfl (kz198 Ln) rfl ?_
          refine r_iconst 1 (pc' := 234) (kX11_qGoesOn_1 59 rfl) rfl (by unfold inR; omega) ?_
          have g11 := h.1
          have h := h.2
          refine r_isub (pc' := 235) (kX11_qGoesOn_2 0 rfl) rfl g11 ?_
          have g12 := h.1
          have h := h.2
          refine s_iald (x := (α9 199 ((φ9 11 2 198) - 1))) (pc' := 236) (kX11_qGoesOn_2 1 rfl) rfl (kz199 Ln) g12 rfl ?_
          refine r_bipush 43 (pc' := 238) (kX11_qGoesOn_2 2 rfl) rfl ⟨by unfold inR; omega, rfl⟩ ?_
          refine r_icmp_ne (t := 245) (pc' := 241) (kX11_qGoesOn_2 3 rfl) rfl rfl (fun c13 => ?_) (fun c13 => ?_)
          · have h := h.1 c13
            refine r_iconst 2 (pc' := 246) (kX11_qGoesOn_2 6 rfl) rfl (by unfold inR; omega) ?_
            refine r_istore_n (L' := [(2, 198), (0, 2)]) (pc' := 247) (kX11_qGoesOn_2 7 rfl) rfl (Nat.le_of_ble_eq_true rfl) rfl ?_
            exact r_weak (L' := [(2, 198), (0, 2)]) ⟨Or.inl rfl, Or.inl rfl, trivial⟩ (h Ln)
          · have h := h.2 c13
            refine r_iconst 1 (pc' := 242) (kX11_qGoesOn_2 4 rfl) rfl (by unfold inR; omega) ?_
            refine r_goto (pc' := 246) (kX11_qGoesOn_2 5 rfl) rfl ?_
            refine r_istore_n (L' := [(2, 198), (0, 1)]) (pc' := 247) (kX11_qGoesOn_2 7 rfl) rfl (Nat.le_of_ble_eq_true rfl) rfl ?_
            exact r_weak (L' := [(2, 198), (0, 1)]) ⟨Or.inl rfl, Or.inl rfl, trivial⟩ (h Ln)
        · have h := h.2 c10
          refine r_aload_n (pc' := 217) (kX11_qGoesOn_1 51 rfl) rfl rfl ?_
          refine r_bipush 45 (pc' := 219) (kX11_qGoesOn_1 52 rfl) rfl ⟨by unfold inR; omega, rfl⟩ ?_
          refine s_callV (As := [(0, 45)]) (o := 198) (S := []) (S2 := fun z => [(0, z)]) (pc' := 222) (kX11_qGoesOn_1 53 rfl) rfl rfl nkX11_takesSign mlX11_261 imX11_takesSign rfl slX11_takesSign rfl (Nat.le_of_ble_eq_true rfl) (Nat.le_of_ble_eq_true rfl) (kz198 Ln) h (fun z => rfl) (fun r14 φ14 α14 h => ?_)
          refine r_if_eq (t := 308) (pc' := 225) (kX11_qGoesOn_1 54 rfl) rfl rfl (fun c15 => ?_) (fun c15 => ?_)
          · have h := h.1 c15
            refine r_aload_n (pc' := 309) (kX11_qGoesOn_2 41 rfl) rfl rfl ?_
            refine s_callV (As := []) (o := 198) (S := []) (S2 := fun z => [(0, z)]) (pc' := 312) (kX11_qGoesOn_2 42 rfl) rfl rfl nkX11_qBracket mlX11_591 imX11_qBracket rfl slX11_qBracket rfl (Nat.le_of_ble_eq_true rfl) (Nat.le_of_ble_eq_true rfl) (kz198 Ln) h (fun z => rfl) (fun r16 φ16 α16 h => ?_)
            refine r_bipush 21 (pc' := 314) (kX11_qGoesOn_2 43 rfl) rfl ⟨by unfold inR; omega, rfl⟩ ?_
            refine r_icmp_eq (t := 326) (pc' := 317) (kX11_qGoesOn_2 44 rfl) rfl rfl (fun c17 => ?_) (fun c17 => ?_)
            · have h := h.1 c17
              refine r_aload_n (pc' := 327) (kX11_qGoesOn_2 49 rfl) rfl rfl ?_
              refine r_bipush 44 (pc' := 329) (kX11_qGoesOn_2 50 rfl) rfl ⟨by unfold inR; omega, rfl⟩ ?_
              refine s_callV (As := [(0, 44)]) (o := 198) (S := []) (S2 := fun z => []) (pc' := 332) (kX11_qGoesOn_2 51 rfl) rfl rfl nkX11_asksSign mlX11_300 imX11_asksSign rfl slX11_asksSign rfl (Nat.le_of_ble_eq_true rfl) (Nat.le_of_ble_eq_true rfl) (kz198 Ln) h (fun z => rfl) (fun r18 φ18 α18 h => ?_)
              refine r_aload_n (pc' := 333) (kX11_qGoesOn_2 52 rfl) rfl rfl ?_
              refine s_get (x := (φ18 11 5 198)) (pc' := 336) (kX11_qGoesOn_2 53 rfl) rfl fkX11_227 rfl rfl rfl (kz198 Ln) rfl ?_
              refine r_if_eq (t := 341) (pc' := 339) (kX11_qGoesOn_2 54 rfl) rfl rfl (fun c19 => ?_) (fun c19 => ?_)
              · have h := h.1 c19
                refine r_aload_n (pc' := 342) (kX11_qGoesOn_2 57 rfl) rfl rfl ?_
                refine s_callV (As := []) (o := 198) (S := []) (S2 := fun z => []) (pc' := 345) (kX11_qGoesOn_2 58 rfl) rfl rfl nkX11_qDropsToBracket mlX11_594 imX11_qDropsToBracket rfl slX11_qDropsToBracket rfl (Nat.le_of_ble_eq_true rfl) (Nat.le_of_ble_eq_true rfl) (kz198 Ln) h (fun z => rfl) (fun r20 φ20 α20 h => ?_)
                refine r_aload_n (pc' := 346) (kX11_qGoesOn_2 59 rfl) rfl rfl ?_
                refine s_getr (v := 264) (pc' := 349) (kX11_qGoesOn_3 0 rfl) rfl fkX11_215 rfl rfl (kz198 Ln) rfl (by decide) ?_
                refine r_aload_n (pc' := 350) (kX11_qGoesOn_3 1 rfl) rfl rfl ?_
                refine s_get (x := (φ20 11 90 198)) (pc' := 353) (kX11_qGoesOn_3 2 rfl) rfl fkX11_318 rfl rfl rfl (kz198 Ln) rfl ?_
                refine r_iconst 1 (pc' := 354) (kX11_qGoesOn_3 3 rfl) rfl (by unfold inR; omega) ?_
                have g21 := h.1
                have h := h.2
                refine r_isub (pc' := 355) (kX11_qGoesOn_3 4 rfl) rfl g21 ?_
                refine r_dup2 (pc' := 356) (kX11_qGoesOn_3 5 rfl) rfl rfl rfl ?_
                have g22 := h.1
                have h := h.2
                refine s_iald (x := (α20 264 ((φ20 11 90 198) - 1))) (pc' := 357) (kX11_qGoesOn_3 6 rfl) rfl (kz264 Ln) g22 rfl ?_
                refine r_iconst 2 (pc' := 358) (kX11_qGoesOn_3 7 rfl) rfl (by unfold inR; omega) ?_
                have g23 := h.1
                have h := h.2
                refine r_iadd (pc' := 359) (kX11_qGoesOn_3 8 rfl) rfl g23 ?_
                refine s_iast (pc' := 360) (kX11_qGoesOn_3 9 rfl) rfl (kz264 Ln) g22 ?_
                refine r_iconst 1 (pc' := 361) (kX11_qGoesOn_3 10 rfl) rfl (by unfold inR; omega) ?_
                exact s_zret (kX11_qGoesOn_3 11 rfl) rfl (Or.inr rfl) h
              · have h := h.2 c19
                refine r_iconst 0 (pc' := 340) (kX11_qGoesOn_2 55 rfl) rfl (by unfold inR; omega) ?_
                exact s_zret (kX11_qGoesOn_2 56 rfl) rfl (Or.inl rfl) h
            · have h := h.2 c17
              refine r_aload_n (pc' := 318) (kX11_qGoesOn_2 45 rfl) rfl rfl ?_
              refine s_callV (As := []) (o := 198) (S := []) (S2 := fun z => [(0, z)]) (pc' := 321) (kX11_qGoesOn_2 46 rfl) rfl rfl nkX11_qBracket mlX11_591 imX11_qBracket rfl slX11_qBracket rfl (Nat.le_of_ble_eq_true rfl) (Nat.le_of_ble_eq_true rfl) (kz198 Ln) h (fun z => rfl) (fun r24 φ24 α24 h => ?_)
              refine r_bipush 22 (pc' := 323) (kX11_qGoesOn_2 47 rfl) rfl ⟨by unfold inR; omega, rfl⟩ ?_
              refine r_icmp_ne (t := 362) (pc' := 326) (kX11_qGoesOn_2 48 rfl) rfl rfl (fun c25 => ?_) (fun c25 => ?_)
              · have h := h.1 c25
                refine r_aload_n (pc' := 363) (kX11_qGoesOn_3 12 rfl) rfl rfl ?_
                refine s_callV (As := []) (o := 198) (S := []) (S2 := fun z => [(0, z)]) (pc' := 366) (kX11_qGoesOn_3 13 rfl) rfl rfl nkX11_qBracket mlX11_591 imX11_qBracket rfl slX11_qBracket rfl (Nat.le_of_ble_eq_true rfl) (Nat.le_of_ble_eq_true rfl) (kz198 Ln) h (fun z => rfl) (fun r26 φ26 α26 h => ?_)
                refine r_iconst (-1) (pc' := 367) (kX11_qGoesOn_3 14 rfl) rfl (by unfold inR; omega) ?_
                refine r_icmp_eq (t := 386) (pc' := 370) (kX11_qGoesOn_3 15 rfl) rfl rfl (fun c27 => ?_) (fun c27 => ?_)
                · have h := h.1 c27
                  refine r_iconst 0 (pc' := 387) (kX11_qGoesOn_3 24 rfl) rfl (by unfold inR; omega) ?_
                  exact s_zret (kX11_qGoesOn_3 25 rfl) rfl (Or.inl rfl) h
                · have h := h.2 c27
                  refine r_aload_n (pc' := 371) (kX11_qGoesOn_3 16 rfl) rfl rfl ?_
                  refine s_get (x := (φ26 11 5 198)) (pc' := 374) (kX11_qGoesOn_3 17 rfl) rfl fkX11_227 rfl rfl rfl (kz198 Ln) rfl ?_
                  refine r_if_ne (t := 386) (pc' := 377) (kX11_qGoesOn_3 18 rfl) rfl rfl (fun c28 => ?_) (fun c28 => ?_)
                  · have h := h.1 c28
                    refine r_iconst 0 (pc' := 387) (kX11_qGoesOn_3 24 rfl) rfl (by unfold inR; omega) ?_
                    exact s_zret (kX11_qGoesOn_3 25 rfl) rfl (Or.inl rfl) h
                  · have h := h.2 c28
                    refine r_aload_n (pc' := 378) (kX11_qGoesOn_3 19 rfl) rfl rfl ?_
                    refine r_iconst 1 (pc' := 379) (kX11_qGoesOn_3 20 rfl) rfl (by unfold inR; omega) ?_
                    refine r_aload_n (pc' := 380) (kX11_qGoesOn_3 21 rfl) rfl rfl ?_
                    refine s_get (x := (φ26 11 2 198)) (pc' := 383) (kX11_qGoesOn_3 22 rfl) rfl fkX11_233 rfl rfl rfl (kz198 Ln) rfl ?_
                    refine s_callV (As := [(0, 1), (0, (φ26 11 2 198))]) (o := 198) (S := []) (S2 := fun z => []) (pc' := 386) (kX11_qGoesOn_3 23 rfl) rfl rfl nkX11_fail mlX11_257 imX11_fail rfl slX11_fail rfl (Nat.le_of_ble_eq_true rfl) (Nat.le_of_ble_eq_true rfl) (kz198 Ln) h (fun z => rfl) (fun r29 φ29 α29 h => ?_)
                    refine r_iconst 0 (pc' := 387) (kX11_qGoesOn_3 24 rfl) rfl (by unfold inR; omega) ?_
                    exact s_zret (kX11_qGoesOn_3 25 rfl) rfl (Or.inl rfl) h
              · have h := h.2 c25
                refine r_aload_n (pc' := 327) (kX11_qGoesOn_2 49 rfl) rfl rfl ?_
                refine r_bipush 44 (pc' := 329) (kX11_qGoesOn_2 50 rfl) rfl ⟨by unfold inR; omega, rfl⟩ ?_
                refine s_callV (As := [(0, 44)]) (o := 198) (S := []) (S2 := fun z => []) (pc' := 332) (kX11_qGoesOn_2 51 rfl) rfl rfl nkX11_asksSign mlX11_300 imX11_asksSign rfl slX11_asksSign rfl (Nat.le_of_ble_eq_true rfl) (Nat.le_of_ble_eq_true rfl) (kz198 Ln) h (fun z => rfl) (fun r30 φ30 α30 h => ?_)
                refine r_aload_n (pc' := 333) (kX11_qGoesOn_2 52 rfl) rfl rfl ?_
                refine s_get (x := (φ30 11 5 198)) (pc' := 336) (kX11_qGoesOn_2 53 rfl) rfl fkX11_227 rfl rfl rfl (kz198 Ln) rfl ?_
                refine r_if_eq (t := 341) (pc' := 339) (kX11_qGoesOn_2 54 rfl) rfl rfl (fun c31 => ?_) (fun c31 => ?_)
                · have h := h.1 c31
                  refine r_aload_n (pc' := 342) (kX11_qGoesOn_2 57 rfl) rfl rfl ?_
                  refine s_callV (As := []) (o := 198) (S := []) (S2 := fun z => []) (pc' := 345) (kX11_qGoesOn_2 58 rfl) rfl rfl nkX11_qDropsToBracket mlX11_594 imX11_qDropsToBracket rfl slX11_qDropsToBracket rfl (Nat.le_of_ble_eq_true rfl) (Nat.le_of_ble_eq_true rfl) (kz198 Ln) h (fun z => rfl) (fun r32 φ32 α32 h => ?_)
                  refine r_aload_n (pc' := 346) (kX11_qGoesOn_2 59 rfl) rfl rfl ?_
                  refine s_getr (v := 264) (pc' := 349) (kX11_qGoesOn_3 0 rfl) rfl fkX11_215 rfl rfl (kz198 Ln) rfl (by decide) ?_
                  refine r_aload_n (pc' := 350) (kX11_qGoesOn_3 1 rfl) rfl rfl ?_
                  refine s_get (x := (φ32 11 90 198)) (pc' := 353) (kX11_qGoesOn_3 2 rfl) rfl fkX11_318 rfl rfl rfl (kz198 Ln) rfl ?_
                  refine r_iconst 1 (pc' := 354) (kX11_qGoesOn_3 3 rfl) rfl (by unfold inR; omega) ?_
                  have g33 := h.1
                  have h := h.2
                  refine r_isub (pc' := 355) (kX11_qGoesOn_3 4 rfl) rfl g33 ?_
                  refine r_dup2 (pc' := 356) (kX11_qGoesOn_3 5 rfl) rfl rfl rfl ?_
                  have g34 := h.1
                  have h := h.2
                  refine s_iald (x := (α32 264 ((φ32 11 90 198) - 1))) (pc' := 357) (kX11_qGoesOn_3 6 rfl) rfl (kz264 Ln) g34 rfl ?_
                  refine r_iconst 2 (pc' := 358) (kX11_qGoesOn_3 7 rfl) rfl (by unfold inR; omega) ?_
                  have g35 := h.1
                  have h := h.2
                  refine r_iadd (pc' := 359) (kX11_qGoesOn_3 8 rfl) rfl g35 ?_
                  refine s_iast (pc' := 360) (kX11_qGoesOn_3 9 rfl) rfl (kz264 Ln) g34 ?_
                  refine r_iconst 1 (pc' := 361) (kX11_qGoesOn_3 10 rfl) rfl (by unfold inR; omega) ?_
                  exact s_zret (kX11_qGoesOn_3 11 rfl) rfl (Or.inr rfl) h
                · have h := h.2 c31
                  refine r_iconst 0 (pc' := 340) (kX11_qGoesOn_2 55 rfl) rfl (by unfold inR; omega) ?_
                  exact s_zret (kX11_qGoesOn_2 56 rfl) rfl (Or.inl rfl) h
          · have h := h.2 c15
            refine r_aload_n (pc' := 226) (kX11_qGoesOn_1 55 rfl) rfl rfl ?_
            refine s_getr (v := 199) (pc' := 229) (kX11_qGoesOn_1 56 rfl) rfl fkX11_7 rfl rfl (kz198 Ln) rfl (by decide) ?_
            refine r_aload_n (pc' := 230) (kX11_qGoesOn_1 57 rfl) rfl rfl ?_
            refine s_get (x := (φ14 11 2 198)) (pc' := 233) (kX11_qGoesOn_1 58 rfl) rfl fkX11_233 rfl rfl rfl (kz198 Ln) rfl ?_
            refine r_iconst 1 (pc' := 234) (kX11_qGoesOn_1 59 rfl) rfl (by unfold inR; omega) ?_
            have g36 := h.1
            have h := h.2
            refine r_isub (pc' := 235) (kX11_qGoesOn_2 0 rfl) rfl g36 ?_
            have g37 := h.1
            have h := h.2
            refine s_iald (x := (α14 199 ((φ14 11 2 198) - 1))) (pc' := 236) (kX11_qGoesOn_2 1 rfl) rfl (kz199 Ln) g37 rfl ?_
            refine r_bipush 43 (pc' := 238) (kX11_qGoesOn_2 2 rfl) rfl ⟨by unfold inR; omega, rfl⟩ ?_
            refine r_icmp_ne (t := 245) (pc' := 241) (kX11_qGoesOn_2 3 rfl) rfl rfl (fun c38 => ?_) (fun c38 => ?_)
            · have h := h.1 c38
              refine r_iconst 2 (pc' := 246) (kX11_qGoesOn_2 6 rfl) rfl (by unfold inR; omega) ?_
              refine r_istore_n (L' := [(2, 198), (0, 2)]) (pc' := 247) (kX11_qGoesOn_2 7 rfl) rfl (Nat.le_of_ble_eq_true rfl) rfl ?_
              exact r_weak (L' := [(2, 198), (0, 2)]) ⟨Or.inl rfl, Or.inl rfl, trivial⟩ (h Ln)
            · have h := h.2 c38
              refine r_iconst 1 (pc' := 242) (kX11_qGoesOn_2 4 rfl) rfl (by unfold inR; omega) ?_
              refine r_goto (pc' := 246) (kX11_qGoesOn_2 5 rfl) rfl ?_
              refine r_istore_n (L' := [(2, 198), (0, 1)]) (pc' := 247) (kX11_qGoesOn_2 7 rfl) rfl (Nat.le_of_ble_eq_true rfl) rfl ?_
              exact r_weak (L' := [(2, 198), (0, 1)]) ⟨Or.inl rfl, Or.inl rfl, trivial⟩ (h Ln)
      · have h := h.2 c8
        refine r_aload_n (pc' := 141) (kX11_qGoesOn_1 9 rfl) rfl rfl ?_
        refine s_getr (v := 199) (pc' := 144) (kX11_qGoesOn_1 10 rfl) rfl fkX11_7 rfl rfl (kz198 Ln) rfl (by decide) ?_
        refine r_aload_n (pc' := 145) (kX11_qGoesOn_1 11 rfl) rfl rfl ?_
        refine s_get (x := (φ7 11 2 198)) (pc' := 148) (kX11_qGoesOn_1 12 rfl) rfl fkX11_233 rfl rfl rfl (kz198 Ln) rfl ?_
        refine r_iconst 1 (pc' := 149) (kX11_qGoesOn_1 13 rfl) rfl (by unfold inR; omega) ?_
        have g39 := h.1
        have h := h.2
        refine r_isub (pc' := 150) (kX11_qGoesOn_1 14 rfl) rfl g39 ?_
        have g40 := h.1
        have h := h.2
        refine s_iald (x := (α7 199 ((φ7 11 2 198) - 1))) (pc' := 151) (kX11_qGoesOn_1 15 rfl) rfl (kz199 Ln) g40 rfl ?_
        refine r_bipush 42 (pc' := 153) (kX11_qGoesOn_1 16 rfl) rfl ⟨by unfold inR; omega, rfl⟩ ?_
        refine r_icmp_ne (t := 160) (pc' := 156) (kX11_qGoesOn_1 17 rfl) rfl rfl (fun c41 => ?_) (fun c41 => ?_)
        · have h := h.1 c41
          refine r_iconst 4 (pc' := 161) (kX11_qGoesOn_1 20 rfl) rfl (by unfold inR; omega) ?_
          refine r_istore_n (L' := [(2, 198), (0, 4)]) (pc' := 162) (kX11_qGoesOn_1 21 rfl) rfl (Nat.le_of_ble_eq_true rfl) rfl ?_
          exact r_weak (L' := [(2, 198), (0, 4)]) ⟨Or.inl rfl, Or.inl rfl, trivial⟩ (h Ln)
        · have h := h.2 c41
          refine r_iconst 3 (pc' := 157) (kX11_qGoesOn_1 18 rfl) rfl (by unfold inR; omega) ?_
          refine r_goto (pc' := 161) (kX11_qGoesOn_1 19 rfl) rfl ?_
          refine r_istore_n (L' := [(2, 198), (0, 3)]) (pc' := 162) (kX11_qGoesOn_1 21 rfl) rfl (Nat.le_of_ble_eq_true rfl) rfl ?_
          exact r_weak (L' := [(2, 198), (0, 3)]) ⟨Or.inl rfl, Or.inl rfl, trivial⟩ (h Ln)
  · have h := h.2 c1
    refine r_aload_n (pc' := 8) (kX11_qGoesOn_0 3 rfl) rfl rfl ?_
    refine s_callV (As := []) (o := 198) (S := []) (S2 := fun z => [(0, z)]) (pc' := 11) (kX11_qGoesOn_0 4 rfl) rfl rfl nkX11_look mlX11_239 imX11_look rfl slX11_look rfl (Nat.le_of_ble_eq_true rfl) (Nat.le_of_ble_eq_true rfl) (kz198 Ln) h (fun z => rfl) (fun r42 φ42 α42 h => ?_)
    refine r_bipush 41 (pc' := 13) (kX11_qGoesOn_0 5 rfl) rfl ⟨by unfold inR; omega, rfl⟩ ?_
    refine r_icmp_ne (t := 122) (pc' := 16) (kX11_qGoesOn_0 6 rfl) rfl rfl (fun c43 => ?_) (fun c43 => ?_)
    · have h := h.1 c43
      refine r_aload_n (pc' := 123) (kX11_qGoesOn_1 1 rfl) rfl rfl ?_
      refine r_bipush 42 (pc' := 125) (kX11_qGoesOn_1 2 rfl) rfl ⟨by unfold inR; omega, rfl⟩ ?_
      refine s_callV (As := [(0, 42)]) (o := 198) (S := []) (S2 := fun z => [(0, z)]) (pc' := 128) (kX11_qGoesOn_1 3 rfl) rfl rfl nkX11_takesSign mlX11_261 imX11_takesSign rfl slX11_takesSign rfl (Nat.le_of_ble_eq_true rfl) (Nat.le_of_ble_eq_true rfl) (kz198 Ln) h (fun z => rfl) (fun r44 φ44 α44 h => ?_)
      refine r_if_ne (t := 140) (pc' := 131) (kX11_qGoesOn_1 4 rfl) rfl rfl (fun c45 => ?_) (fun c45 => ?_)
      · have h := h.1 c45
        refine r_aload_n (pc' := 141) (kX11_qGoesOn_1 9 rfl) rfl rfl ?_
        refine s_getr (v := 199) (pc' := 144) (kX11_qGoesOn_1 10 rfl) rfl fkX11_7 rfl rfl (kz198 Ln) rfl (by decide) ?_
        refine r_aload_n (pc' := 145) (kX11_qGoesOn_1 11 rfl) rfl rfl ?_
        refine s_get (x := (φ44 11 2 198)) (pc' := 148) (kX11_qGoesOn_1 12 rfl) rfl fkX11_233 rfl rfl rfl (kz198 Ln) rfl ?_
        refine r_iconst 1 (pc' := 149) (kX11_qGoesOn_1 13 rfl) rfl (by unfold inR; omega) ?_
        have g46 := h.1
        have h := h.2
        refine r_isub (pc' := 150) (kX11_qGoesOn_1 14 rfl) rfl g46 ?_
        have g47 := h.1
        have h := h.2
        refine s_iald (x := (α44 199 ((φ44 11 2 198) - 1))) (pc' := 151) (kX11_qGoesOn_1 15 rfl) rfl (kz199 Ln) g47 rfl ?_
        refine r_bipush 42 (pc' := 153) (kX11_qGoesOn_1 16 rfl) rfl ⟨by unfold inR; omega, rfl⟩ ?_
        refine r_icmp_ne (t := 160) (pc' := 156) (kX11_qGoesOn_1 17 rfl) rfl rfl (fun c48 => ?_) (fun c48 => ?_)
        · have h := h.1 c48
          refine r_iconst 4 (pc' := 161) (kX11_qGoesOn_1 20 rfl) rfl (by unfold inR; omega) ?_
          refine r_istore_n (L' := [(2, 198), (0, 4)]) (pc' := 162) (kX11_qGoesOn_1 21 rfl) rfl (Nat.le_of_ble_eq_true rfl) rfl ?_
          exact r_weak (L' := [(2, 198), (0, 4)]) ⟨Or.inl rfl, Or.inl rfl, trivial⟩ (h Ln)
        · have h := h.2 c48
          refine r_iconst 3 (pc' := 157) (kX11_qGoesOn_1 18 rfl) rfl (by unfold inR; omega) ?_
          refine r_goto (pc' := 161) (kX11_qGoesOn_1 19 rfl) rfl ?_
          refine r_istore_n (L' := [(2, 198), (0, 3)]) (pc' := 162) (kX11_qGoesOn_1 21 rfl) rfl (Nat.le_of_ble_eq_true rfl) rfl ?_
          exact r_weak (L' := [(2, 198), (0, 3)]) ⟨Or.inl rfl, Or.inl rfl, trivial⟩ (h Ln)
      · have h := h.2 c45
        refine r_aload_n (pc' := 132) (kX11_qGoesOn_1 5 rfl) rfl rfl ?_
        refine r_bipush 47 (pc' := 134) (kX11_qGoesOn_1 6 rfl) rfl ⟨by unfold inR; omega, rfl⟩ ?_
        refine s_callV (As := [(0, 47)]) (o := 198) (S := []) (S2 := fun z => [(0, z)]) (pc' := 137) (kX11_qGoesOn_1 7 rfl) rfl rfl nkX11_takesSign mlX11_261 imX11_takesSign rfl slX11_takesSign rfl (Nat.le_of_ble_eq_true rfl) (Nat.le_of_ble_eq_true rfl) (kz198 Ln) h (fun z => rfl) (fun r49 φ49 α49 h => ?_)
        refine r_if_eq (t := 207) (pc' := 140) (kX11_qGoesOn_1 8 rfl) rfl rfl (fun c50 => ?_) (fun c50 => ?_)
        · have h := h.1 c50
          refine r_aload_n (pc' := 208) (kX11_qGoesOn_1 47 rfl) rfl rfl ?_
          refine r_bipush 43 (pc' := 210) (kX11_qGoesOn_1 48 rfl) rfl ⟨by unfold inR; omega, rfl⟩ ?_
          refine s_callV (As := [(0, 43)]) (o := 198) (S := []) (S2 := fun z => [(0, z)]) (pc' := 213) (kX11_qGoesOn_1 49 rfl) rfl rfl nkX11_takesSign mlX11_261 imX11_takesSign rfl slX11_takesSign rfl (Nat.le_of_ble_eq_true rfl) (Nat.le_of_ble_eq_true rfl) (kz198 Ln) h (fun z => rfl) (fun r51 φ51 α51 h => ?_)
          refine r_if_ne (t := 225) (pc' := 216) (kX11_qGoesOn_1 50 rfl) rfl rfl (fun c52 => ?_) (fun c52 => ?_)
          · have h := h.1 c52
            refine r_aload_n (pc' := 226) (kX11_qGoesOn_1 55 rfl) rfl rfl ?_
            refine s_getr (v := 199) (pc' := 229) (kX11_qGoesOn_1 56 rfl) rfl fkX11_7 rfl rfl (kz198 Ln) rfl (by decide) ?_
            refine r_aload_n (pc' := 230) (kX11_qGoesOn_1 57 rfl) rfl rfl ?_
            refine s_get (x := (φ51 11 2 198)) (pc' := 233) (kX11_qGoesOn_1 58 rfl) rfl fkX11_233 rfl rfl rfl (kz198 Ln) rfl ?_
            refine r_iconst 1 (pc' := 234) (kX11_qGoesOn_1 59 rfl) rfl (by unfold inR; omega) ?_
            have g53 := h.1
            have h := h.2
            refine r_isub (pc' := 235) (kX11_qGoesOn_2 0 rfl) rfl g53 ?_
            have g54 := h.1
            have h := h.2
            refine s_iald (x := (α51 199 ((φ51 11 2 198) - 1))) (pc' := 236) (kX11_qGoesOn_2 1 rfl) rfl (kz199 Ln) g54 rfl ?_
            refine r_bipush 43 (pc' := 238) (kX11_qGoesOn_2 2 rfl) rfl ⟨by unfold inR; omega, rfl⟩ ?_
            refine r_icmp_ne (t := 245) (pc' := 241) (kX11_qGoesOn_2 3 rfl) rfl rfl (fun c55 => ?_) (fun c55 => ?_)
            · have h := h.1 c55
              refine r_iconst 2 (pc' := 246) (kX11_qGoesOn_2 6 rfl) rfl (by unfold inR; omega) ?_
              refine r_istore_n (L' := [(2, 198), (0, 2)]) (pc' := 247) (kX11_qGoesOn_2 7 rfl) rfl (Nat.le_of_ble_eq_true rfl) rfl ?_
              exact r_weak (L' := [(2, 198), (0, 2)]) ⟨Or.inl rfl, Or.inl rfl, trivial⟩ (h Ln)
            · have h := h.2 c55
              refine r_iconst 1 (pc' := 242) (kX11_qGoesOn_2 4 rfl) rfl (by unfold inR; omega) ?_
              refine r_goto (pc' := 246) (kX11_qGoesOn_2 5 rfl) rfl ?_
              refine r_istore_n (L' := [(2, 198), (0, 1)]) (pc' := 247) (kX11_qGoesOn_2 7 rfl) rfl (Nat.le_of_ble_eq_true rfl) rfl ?_
              exact r_weak (L' := [(2, 198), (0, 1)]) ⟨Or.inl rfl, Or.inl rfl, trivial⟩ (h Ln)
          · have h := h.2 c52
            refine r_aload_n (pc' := 217) (kX11_qGoesOn_1 51 rfl) rfl rfl ?_
            refine r_bipush 45 (pc' := 219) (kX11_qGoesOn_1 52 rfl) rfl ⟨by unfold inR; omega, rfl⟩ ?_
            refine s_callV (As := [(0, 45)]) (o := 198) (S := []) (S2 := fun z => [(0, z)]) (pc' := 222) (kX11_qGoesOn_1 53 rfl) rfl rfl nkX11_takesSign mlX11_261 imX11_takesSign rfl slX11_takesSign rfl (Nat.le_of_ble_eq_true rfl) (Nat.le_of_ble_eq_true rfl) (kz198 Ln) h (fun z => rfl) (fun r56 φ56 α56 h => ?_)
            refine r_if_eq (t := 308) (pc' := 225) (kX11_qGoesOn_1 54 rfl) rfl rfl (fun c57 => ?_) (fun c57 => ?_)
            · have h := h.1 c57
              refine r_aload_n (pc' := 309) (kX11_qGoesOn_2 41 rfl) rfl rfl ?_
              refine s_callV (As := []) (o := 198) (S := []) (S2 := fun z => [(0, z)]) (pc' := 312) (kX11_qGoesOn_2 42 rfl) rfl rfl nkX11_qBracket mlX11_591 imX11_qBracket rfl slX11_qBracket rfl (Nat.le_of_ble_eq_true rfl) (Nat.le_of_ble_eq_true rfl) (kz198 Ln) h (fun z => rfl) (fun r58 φ58 α58 h => ?_)
              refine r_bipush 21 (pc' := 314) (kX11_qGoesOn_2 43 rfl) rfl ⟨by unfold inR; omega, rfl⟩ ?_
              refine r_icmp_eq (t := 326) (pc' := 317) (kX11_qGoesOn_2 44 rfl) rfl rfl (fun c59 => ?_) (fun c59 => ?_)
              · have h := h.1 c59
                refine r_aload_n (pc' := 327) (kX11_qGoesOn_2 49 rfl) rfl rfl ?_
                refine r_bipush 44 (pc' := 329) (kX11_qGoesOn_2 50 rfl) rfl ⟨by unfold inR; omega, rfl⟩ ?_
                refine s_callV (As := [(0, 44)]) (o := 198) (S := []) (S2 := fun z => []) (pc' := 332) (kX11_qGoesOn_2 51 rfl) rfl rfl nkX11_asksSign mlX11_300 imX11_asksSign rfl slX11_asksSign rfl (Nat.le_of_ble_eq_true rfl) (Nat.le_of_ble_eq_true rfl) (kz198 Ln) h (fun z => rfl) (fun r60 φ60 α60 h => ?_)
                refine r_aload_n (pc' := 333) (kX11_qGoesOn_2 52 rfl) rfl rfl ?_
                refine s_get (x := (φ60 11 5 198)) (pc' := 336) (kX11_qGoesOn_2 53 rfl) rfl fkX11_227 rfl rfl rfl (kz198 Ln) rfl ?_
                refine r_if_eq (t := 341) (pc' := 339) (kX11_qGoesOn_2 54 rfl) rfl rfl (fun c61 => ?_) (fun c61 => ?_)
                · have h := h.1 c61
                  refine r_aload_n (pc' := 342) (kX11_qGoesOn_2 57 rfl) rfl rfl ?_
                  refine s_callV (As := []) (o := 198) (S := []) (S2 := fun z => []) (pc' := 345) (kX11_qGoesOn_2 58 rfl) rfl rfl nkX11_qDropsToBracket mlX11_594 imX11_qDropsToBracket rfl slX11_qDropsToBracket rfl (Nat.le_of_ble_eq_true rfl) (Nat.le_of_ble_eq_true rfl) (kz198 Ln) h (fun z => rfl) (fun r62 φ62 α62 h => ?_)
                  refine r_aload_n (pc' := 346) (kX11_qGoesOn_2 59 rfl) rfl rfl ?_
                  refine s_getr (v := 264) (pc' := 349) (kX11_qGoesOn_3 0 rfl) rfl fkX11_215 rfl rfl (kz198 Ln) rfl (by decide) ?_
                  refine r_aload_n (pc' := 350) (kX11_qGoesOn_3 1 rfl) rfl rfl ?_
                  refine s_get (x := (φ62 11 90 198)) (pc' := 353) (kX11_qGoesOn_3 2 rfl) rfl fkX11_318 rfl rfl rfl (kz198 Ln) rfl ?_
                  refine r_iconst 1 (pc' := 354) (kX11_qGoesOn_3 3 rfl) rfl (by unfold inR; omega) ?_
                  have g63 := h.1
                  have h := h.2
                  refine r_isub (pc' := 355) (kX11_qGoesOn_3 4 rfl) rfl g63 ?_
                  refine r_dup2 (pc' := 356) (kX11_qGoesOn_3 5 rfl) rfl rfl rfl ?_
                  have g64 := h.1
                  have h := h.2
                  refine s_iald (x := (α62 264 ((φ62 11 90 198) - 1))) (pc' := 357) (kX11_qGoesOn_3 6 rfl) rfl (kz264 Ln) g64 rfl ?_
                  refine r_iconst 2 (pc' := 358) (kX11_qGoesOn_3 7 rfl) rfl (by unfold inR; omega) ?_
                  have g65 := h.1
                  have h := h.2
                  refine r_iadd (pc' := 359) (kX11_qGoesOn_3 8 rfl) rfl g65 ?_
                  refine s_iast (pc' := 360) (kX11_qGoesOn_3 9 rfl) rfl (kz264 Ln) g64 ?_
                  refine r_iconst 1 (pc' := 361) (kX11_qGoesOn_3 10 rfl) rfl (by unfold inR; omega) ?_
                  exact s_zret (kX11_qGoesOn_3 11 rfl) rfl (Or.inr rfl) h
                · have h := h.2 c61
                  refine r_iconst 0 (pc' := 340) (kX11_qGoesOn_2 55 rfl) rfl (by unfold inR; omega) ?_
                  exact s_zret (kX11_qGoesOn_2 56 rfl) rfl (Or.inl rfl) h
              · have h := h.2 c59
                refine r_aload_n (pc' := 318) (kX11_qGoesOn_2 45 rfl) rfl rfl ?_
                refine s_callV (As := []) (o := 198) (S := []) (S2 := fun z => [(0, z)]) (pc' := 321) (kX11_qGoesOn_2 46 rfl) rfl rfl nkX11_qBracket mlX11_591 imX11_qBracket rfl slX11_qBracket rfl (Nat.le_of_ble_eq_true rfl) (Nat.le_of_ble_eq_true rfl) (kz198 Ln) h (fun z => rfl) (fun r66 φ66 α66 h => ?_)
                refine r_bipush 22 (pc' := 323) (kX11_qGoesOn_2 47 rfl) rfl ⟨by unfold inR; omega, rfl⟩ ?_
                refine r_icmp_ne (t := 362) (pc' := 326) (kX11_qGoesOn_2 48 rfl) rfl rfl (fun c67 => ?_) (fun c67 => ?_)
                · have h := h.1 c67
                  refine r_aload_n (pc' := 363) (kX11_qGoesOn_3 12 rfl) rfl rfl ?_
                  refine s_callV (As := []) (o := 198) (S := []) (S2 := fun z => [(0, z)]) (pc' := 366) (kX11_qGoesOn_3 13 rfl) rfl rfl nkX11_qBracket mlX11_591 imX11_qBracket rfl slX11_qBracket rfl (Nat.le_of_ble_eq_true rfl) (Nat.le_of_ble_eq_true rfl) (kz198 Ln) h (fun z => rfl) (fun r68 φ68 α68 h => ?_)
                  refine r_iconst (-1) (pc' := 367) (kX11_qGoesOn_3 14 rfl) rfl (by unfold inR; omega) ?_
                  refine r_icmp_eq (t := 386) (pc' := 370) (kX11_qGoesOn_3 15 rfl) rfl rfl (fun c69 => ?_) (fun c69 => ?_)
                  · have h := h.1 c69
                    refine r_iconst 0 (pc' := 387) (kX11_qGoesOn_3 24 rfl) rfl (by unfold inR; omega) ?_
                    exact s_zret (kX11_qGoesOn_3 25 rfl) rfl (Or.inl rfl) h
                  · have h := h.2 c69
                    refine r_aload_n (pc' := 371) (kX11_qGoesOn_3 16 rfl) rfl rfl ?_
                    refine s_get (x := (φ68 11 5 198)) (pc' := 374) (kX11_qGoesOn_3 17 rfl) rfl fkX11_227 rfl rfl rfl (kz198 Ln) rfl ?_
                    refine r_if_ne (t := 386) (pc' := 377) (kX11_qGoesOn_3 18 rfl) rfl rfl (fun c70 => ?_) (fun c70 => ?_)
                    · have h := h.1 c70
                      refine r_iconst 0 (pc' := 387) (kX11_qGoesOn_3 24 rfl) rfl (by unfold inR; omega) ?_
                      exact s_zret (kX11_qGoesOn_3 25 rfl) rfl (Or.inl rfl) h
                    · have h := h.2 c70
                      refine r_aload_n (pc' := 378) (kX11_qGoesOn_3 19 rfl) rfl rfl ?_
                      refine r_iconst 1 (pc' := 379) (kX11_qGoesOn_3 20 rfl) rfl (by unfold inR; omega) ?_
                      refine r_aload_n (pc' := 380) (kX11_qGoesOn_3 21 rfl) rfl rfl ?_
                      refine s_get (x := (φ68 11 2 198)) (pc' := 383) (kX11_qGoesOn_3 22 rfl) rfl fkX11_233 rfl rfl rfl (kz198 Ln) rfl ?_
                      refine s_callV (As := [(0, 1), (0, (φ68 11 2 198))]) (o := 198) (S := []) (S2 := fun z => []) (pc' := 386) (kX11_qGoesOn_3 23 rfl) rfl rfl nkX11_fail mlX11_257 imX11_fail rfl slX11_fail rfl (Nat.le_of_ble_eq_true rfl) (Nat.le_of_ble_eq_true rfl) (kz198 Ln) h (fun z => rfl) (fun r71 φ71 α71 h => ?_)
                      refine r_iconst 0 (pc' := 387) (kX11_qGoesOn_3 24 rfl) rfl (by unfold inR; omega) ?_
                      exact s_zret (kX11_qGoesOn_3 25 rfl) rfl (Or.inl rfl) h
                · have h := h.2 c67
                  refine r_aload_n (pc' := 327) (kX11_qGoesOn_2 49 rfl) rfl rfl ?_
                  refine r_bipush 44 (pc' := 329) (kX11_qGoesOn_2 50 rfl) rfl ⟨by unfold inR; omega, rfl⟩ ?_
                  refine s_callV (As := [(0, 44)]) (o := 198) (S := []) (S2 := fun z => []) (pc' := 332) (kX11_qGoesOn_2 51 rfl) rfl rfl nkX11_asksSign mlX11_300 imX11_asksSign rfl slX11_asksSign rfl (Nat.le_of_ble_eq_true rfl) (Nat.le_of_ble_eq_true rfl) (kz198 Ln) h (fun z => rfl) (fun r72 φ72 α72 h => ?_)
                  refine r_aload_n (pc' := 333) (kX11_qGoesOn_2 52 rfl) rfl rfl ?_
                  refine s_get (x := (φ72 11 5 198)) (pc' := 336) (kX11_qGoesOn_2 53 rfl) rfl fkX11_227 rfl rfl rfl (kz198 Ln) rfl ?_
                  refine r_if_eq (t := 341) (pc' := 339) (kX11_qGoesOn_2 54 rfl) rfl rfl (fun c73 => ?_) (fun c73 => ?_)
                  · have h := h.1 c73
                    refine r_aload_n (pc' := 342) (kX11_qGoesOn_2 57 rfl) rfl rfl ?_
                    refine s_callV (As := []) (o := 198) (S := []) (S2 := fun z => []) (pc' := 345) (kX11_qGoesOn_2 58 rfl) rfl rfl nkX11_qDropsToBracket mlX11_594 imX11_qDropsToBracket rfl slX11_qDropsToBracket rfl (Nat.le_of_ble_eq_true rfl) (Nat.le_of_ble_eq_true rfl) (kz198 Ln) h (fun z => rfl) (fun r74 φ74 α74 h => ?_)
                    refine r_aload_n (pc' := 346) (kX11_qGoesOn_2 59 rfl) rfl rfl ?_
                    refine s_getr (v := 264) (pc' := 349) (kX11_qGoesOn_3 0 rfl) rfl fkX11_215 rfl rfl (kz198 Ln) rfl (by decide) ?_
                    refine r_aload_n (pc' := 350) (kX11_qGoesOn_3 1 rfl) rfl rfl ?_
                    refine s_get (x := (φ74 11 90 198)) (pc' := 353) (kX11_qGoesOn_3 2 rfl) rfl fkX11_318 rfl rfl rfl (kz198 Ln) rfl ?_
                    refine r_iconst 1 (pc' := 354) (kX11_qGoesOn_3 3 rfl) rfl (by unfold inR; omega) ?_
                    have g75 := h.1
                    have h := h.2
                    refine r_isub (pc' := 355) (kX11_qGoesOn_3 4 rfl) rfl g75 ?_
                    refine r_dup2 (pc' := 356) (kX11_qGoesOn_3 5 rfl) rfl rfl rfl ?_
                    have g76 := h.1
                    have h := h.2
                    refine s_iald (x := (α74 264 ((φ74 11 90 198) - 1))) (pc' := 357) (kX11_qGoesOn_3 6 rfl) rfl (kz264 Ln) g76 rfl ?_
                    refine r_iconst 2 (pc' := 358) (kX11_qGoesOn_3 7 rfl) rfl (by unfold inR; omega) ?_
                    have g77 := h.1
                    have h := h.2
                    refine r_iadd (pc' := 359) (kX11_qGoesOn_3 8 rfl) rfl g77 ?_
                    refine s_iast (pc' := 360) (kX11_qGoesOn_3 9 rfl) rfl (kz264 Ln) g76 ?_
                    refine r_iconst 1 (pc' := 361) (kX11_qGoesOn_3 10 rfl) rfl (by unfold inR; omega) ?_
                    exact s_zret (kX11_qGoesOn_3 11 rfl) rfl (Or.inr rfl) h
                  · have h := h.2 c73
                    refine r_iconst 0 (pc' := 340) (kX11_qGoesOn_2 55 rfl) rfl (by unfold inR; omega) ?_
                    exact s_zret (kX11_qGoesOn_2 56 rfl) rfl (Or.inl rfl) h
            · have h := h.2 c57
              refine r_aload_n (pc' := 226) (kX11_qGoesOn_1 55 rfl) rfl rfl ?_
              refine s_getr (v := 199) (pc' := 229) (kX11_qGoesOn_1 56 rfl) rfl fkX11_7 rfl rfl (kz198 Ln) rfl (by decide) ?_
              refine r_aload_n (pc' := 230) (kX11_qGoesOn_1 57 rfl) rfl rfl ?_
              refine s_get (x := (φ56 11 2 198)) (pc' := 233) (kX11_qGoesOn_1 58 rfl) rfl fkX11_233 rfl rfl rfl (kz198 Ln) rfl ?_
              refine r_iconst 1 (pc' := 234) (kX11_qGoesOn_1 59 rfl) rfl (by unfold inR; omega) ?_
              have g78 := h.1
              have h := h.2
              refine r_isub (pc' := 235) (kX11_qGoesOn_2 0 rfl) rfl g78 ?_
              have g79 := h.1
              have h := h.2
              refine s_iald (x := (α56 199 ((φ56 11 2 198) - 1))) (pc' := 236) (kX11_qGoesOn_2 1 rfl) rfl (kz199 Ln) g79 rfl ?_
              refine r_bipush 43 (pc' := 238) (kX11_qGoesOn_2 2 rfl) rfl ⟨by unfold inR; omega, rfl⟩ ?_
              refine r_icmp_ne (t := 245) (pc' := 241) (kX11_qGoesOn_2 3 rfl) rfl rfl (fun c80 => ?_) (fun c80 => ?_)
              · have h := h.1 c80
                refine r_iconst 2 (pc' := 246) (kX11_qGoesOn_2 6 rfl) rfl (by unfold inR; omega) ?_
                refine r_istore_n (L' := [(2, 198), (0, 2)]) (pc' := 247) (kX11_qGoesOn_2 7 rfl) rfl (Nat.le_of_ble_eq_true rfl) rfl ?_
                exact r_weak (L' := [(2, 198), (0, 2)]) ⟨Or.inl rfl, Or.inl rfl, trivial⟩ (h Ln)
              · have h := h.2 c80
                refine r_iconst 1 (pc' := 242) (kX11_qGoesOn_2 4 rfl) rfl (by unfold inR; omega) ?_
                refine r_goto (pc' := 246) (kX11_qGoesOn_2 5 rfl) rfl ?_
                refine r_istore_n (L' := [(2, 198), (0, 1)]) (pc' := 247) (kX11_qGoesOn_2 7 rfl) rfl (Nat.le_of_ble_eq_true rfl) rfl ?_
                exact r_weak (L' := [(2, 198), (0, 1)]) ⟨Or.inl rfl, Or.inl rfl, trivial⟩ (h Ln)
        · have h := h.2 c50
          refine r_aload_n (pc' := 141) (kX11_qGoesOn_1 9 rfl) rfl rfl ?_
          refine s_getr (v := 199) (pc' := 144) (kX11_qGoesOn_1 10 rfl) rfl fkX11_7 rfl rfl (kz198 Ln) rfl (by decide) ?_
          refine r_aload_n (pc' := 145) (kX11_qGoesOn_1 11 rfl) rfl rfl ?_
          refine s_get (x := (φ49 11 2 198)) (pc' := 148) (kX11_qGoesOn_1 12 rfl) rfl fkX11_233 rfl rfl rfl (kz198 Ln) rfl ?_
          refine r_iconst 1 (pc' := 149) (kX11_qGoesOn_1 13 rfl) rfl (by unfold inR; omega) ?_
          have g81 := h.1
          have h := h.2
          refine r_isub (pc' := 150) (kX11_qGoesOn_1 14 rfl) rfl g81 ?_
          have g82 := h.1
          have h := h.2
          refine s_iald (x := (α49 199 ((φ49 11 2 198) - 1))) (pc' := 151) (kX11_qGoesOn_1 15 rfl) rfl (kz199 Ln) g82 rfl ?_
          refine r_bipush 42 (pc' := 153) (kX11_qGoesOn_1 16 rfl) rfl ⟨by unfold inR; omega, rfl⟩ ?_
          refine r_icmp_ne (t := 160) (pc' := 156) (kX11_qGoesOn_1 17 rfl) rfl rfl (fun c83 => ?_) (fun c83 => ?_)
          · have h := h.1 c83
            refine r_iconst 4 (pc' := 161) (kX11_qGoesOn_1 20 rfl) rfl (by unfold inR; omega) ?_
            refine r_istore_n (L' := [(2, 198), (0, 4)]) (pc' := 162) (kX11_qGoesOn_1 21 rfl) rfl (Nat.le_of_ble_eq_true rfl) rfl ?_
            exact r_weak (L' := [(2, 198), (0, 4)]) ⟨Or.inl rfl, Or.inl rfl, trivial⟩ (h Ln)
          · have h := h.2 c83
            refine r_iconst 3 (pc' := 157) (kX11_qGoesOn_1 18 rfl) rfl (by unfold inR; omega) ?_
            refine r_goto (pc' := 161) (kX11_qGoesOn_1 19 rfl) rfl ?_
            refine r_istore_n (L' := [(2, 198), (0, 3)]) (pc' := 162) (kX11_qGoesOn_1 21 rfl) rfl (Nat.le_of_ble_eq_true rfl) rfl ?_
            exact r_weak (L' := [(2, 198), (0, 3)]) ⟨Or.inl rfl, Or.inl rfl, trivial⟩ (h Ln)
    · have h := h.2 c43
      refine r_aload_n (pc' := 17) (kX11_qGoesOn_0 7 rfl) rfl rfl ?_
      refine s_callV (As := []) (o := 198) (S := []) (S2 := fun z => [(0, z)]) (pc' := 20) (kX11_qGoesOn_0 8 rfl) rfl rfl nkX11_qBracket mlX11_591 imX11_qBracket rfl slX11_qBracket rfl (Nat.le_of_ble_eq_true rfl) (Nat.le_of_ble_eq_true rfl) (kz198 Ln) h (fun z => rfl) (fun r84 φ84 α84 h => ?_)
      refine r_bipush 20 (pc' := 22) (kX11_qGoesOn_0 9 rfl) rfl ⟨by unfold inR; omega, rfl⟩ ?_
      refine r_icmp_eq (t := 43) (pc' := 25) (kX11_qGoesOn_0 10 rfl) rfl rfl (fun c85 => ?_) (fun c85 => ?_)
      · have h := h.1 c85
        refine r_aload_n (pc' := 44) (kX11_qGoesOn_0 19 rfl) rfl rfl ?_
        refine r_dup (pc' := 45) (kX11_qGoesOn_0 20 rfl) rfl rfl ?_
        refine s_get (x := (φ84 11 2 198)) (pc' := 48) (kX11_qGoesOn_0 21 rfl) rfl fkX11_233 rfl rfl rfl (kz198 Ln) rfl ?_
        refine r_iconst 1 (pc' := 49) (kX11_qGoesOn_0 22 rfl) rfl (by unfold inR; omega) ?_
        have g86 := h.1
        have h := h.2
        refine r_iadd (pc' := 50) (kX11_qGoesOn_0 23 rfl) rfl g86 ?_
        refine s_put (pc' := 53) (kX11_qGoesOn_0 24 rfl) rfl fkX11_233 fnX11_2 rfl pk_int (kz198 Ln) ?_
        refine r_aload_n (pc' := 54) (kX11_qGoesOn_0 25 rfl) rfl rfl ?_
        refine s_callV (As := []) (o := 198) (S := []) (S2 := fun z => []) (pc' := 57) (kX11_qGoesOn_0 26 rfl) rfl rfl nkX11_qDropsToBracket mlX11_594 imX11_qDropsToBracket rfl slX11_qDropsToBracket rfl (Nat.le_of_ble_eq_true rfl) (Nat.le_of_ble_eq_true rfl) (kz198 Ln) h (fun z => rfl) (fun r87 φ87 α87 h => ?_)
        refine r_aload_n (pc' := 58) (kX11_qGoesOn_0 27 rfl) rfl rfl ?_
        refine r_dup (pc' := 59) (kX11_qGoesOn_0 28 rfl) rfl rfl ?_
        refine s_get (x := (φ87 11 90 198)) (pc' := 62) (kX11_qGoesOn_0 29 rfl) rfl fkX11_318 rfl rfl rfl (kz198 Ln) rfl ?_
        refine r_iconst 1 (pc' := 63) (kX11_qGoesOn_0 30 rfl) rfl (by unfold inR; omega) ?_
        have g88 := h.1
        have h := h.2
        refine r_isub (pc' := 64) (kX11_qGoesOn_0 31 rfl) rfl g88 ?_
        refine s_put (pc' := 67) (kX11_qGoesOn_0 32 rfl) rfl fkX11_318 fnX11_90 rfl pk_int (kz198 Ln) ?_
        refine r_aload_n (pc' := 68) (kX11_qGoesOn_0 33 rfl) rfl rfl ?_
        refine r_dup (pc' := 69) (kX11_qGoesOn_0 34 rfl) rfl rfl ?_
        refine s_get (x := (φ87 11 91 198)) (pc' := 72) (kX11_qGoesOn_0 35 rfl) rfl fkX11_321 rfl rfl rfl (kz198 Ln) rfl ?_
        refine r_iconst 1 (pc' := 73) (kX11_qGoesOn_0 36 rfl) rfl (by unfold inR; omega) ?_
        have g89 := h.1
        have h := h.2
        refine r_isub (pc' := 74) (kX11_qGoesOn_0 37 rfl) rfl g89 ?_
        refine s_put (pc' := 77) (kX11_qGoesOn_0 38 rfl) rfl fkX11_321 fnX11_91 rfl pk_int (kz198 Ln) ?_
        refine r_aload_n (pc' := 78) (kX11_qGoesOn_0 39 rfl) rfl rfl ?_
        refine s_getr (v := 264) (pc' := 81) (kX11_qGoesOn_0 40 rfl) rfl fkX11_215 rfl rfl (kz198 Ln) rfl (by decide) ?_
        refine r_aload_n (pc' := 82) (kX11_qGoesOn_0 41 rfl) rfl rfl ?_
        refine s_get (x := ((φ87 11 90 198) - 1)) (pc' := 85) (kX11_qGoesOn_0 42 rfl) rfl fkX11_318 rfl rfl rfl (kz198 Ln) (by simp [upf]) ?_
        have g90 := h.1
        have h := h.2
        refine s_iald (x := (α87 264 ((φ87 11 90 198) - 1))) (pc' := 86) (kX11_qGoesOn_0 43 rfl) rfl (kz264 Ln) g90 rfl ?_
        refine r_bipush 20 (pc' := 88) (kX11_qGoesOn_0 44 rfl) rfl ⟨by unfold inR; omega, rfl⟩ ?_
        refine r_icmp_eq (t := 115) (pc' := 91) (kX11_qGoesOn_0 45 rfl) rfl rfl (fun c91 => ?_) (fun c91 => ?_)
        · have h := h.1 c91
          refine r_aload_n (pc' := 116) (kX11_qGoesOn_0 58 rfl) rfl rfl ?_
          refine s_callV (As := []) (o := 198) (S := []) (S2 := fun z => []) (pc' := 119) (kX11_qGoesOn_0 59 rfl) rfl rfl nkX11_qEndsPart mlX11_588 imX11_qEndsPart rfl slX11_qEndsPart rfl (Nat.le_of_ble_eq_true rfl) (Nat.le_of_ble_eq_true rfl) (kz198 Ln) h (fun z => rfl) (fun r92 φ92 α92 h => ?_)
          refine r_goto (pc' := 0) (kX11_qGoesOn_1 0 rfl) rfl ?_
          exact r_weak (L' := [(2, 198), (9, 0)]) ⟨Or.inl rfl, Or.inr (by decide), trivial⟩ (h Ln)
        · have h := h.2 c91
          refine r_aload_n (pc' := 92) (kX11_qGoesOn_0 46 rfl) rfl rfl ?_
          refine r_aload_n (pc' := 93) (kX11_qGoesOn_0 47 rfl) rfl rfl ?_
          refine s_getr (v := 264) (pc' := 96) (kX11_qGoesOn_0 48 rfl) rfl fkX11_215 rfl rfl (kz198 Ln) rfl (by decide) ?_
          refine r_aload_n (pc' := 97) (kX11_qGoesOn_0 49 rfl) rfl rfl ?_
          refine s_get (x := ((φ87 11 90 198) - 1)) (pc' := 100) (kX11_qGoesOn_0 50 rfl) rfl fkX11_318 rfl rfl rfl (kz198 Ln) (by simp [upf]) ?_
          refine s_iald (x := (α87 264 ((φ87 11 90 198) - 1))) (pc' := 101) (kX11_qGoesOn_0 51 rfl) rfl (kz264 Ln) g90 rfl ?_
          refine r_bipush 23 (pc' := 103) (kX11_qGoesOn_0 52 rfl) rfl ⟨by unfold inR; omega, rfl⟩ ?_
          refine r_icmp_ne (t := 110) (pc' := 106) (kX11_qGoesOn_0 53 rfl) rfl rfl (fun c93 => ?_) (fun c93 => ?_)
          · have h := h.1 c93
            refine r_bipush 6 (pc' := 112) (kX11_qGoesOn_0 56 rfl) rfl ⟨by unfold inR; omega, rfl⟩ ?_
            refine s_callV (As := [(0, 6)]) (o := 198) (S := []) (S2 := fun z => []) (pc' := 115) (kX11_qGoesOn_0 57 rfl) rfl rfl nkX11_qCode mlX11_564 imX11_qCode rfl slX11_qCode rfl (Nat.le_of_ble_eq_true rfl) (Nat.le_of_ble_eq_true rfl) (kz198 Ln) h (fun z => rfl) (fun r94 φ94 α94 h => ?_)
            refine r_aload_n (pc' := 116) (kX11_qGoesOn_0 58 rfl) rfl rfl ?_
            refine s_callV (As := []) (o := 198) (S := []) (S2 := fun z => []) (pc' := 119) (kX11_qGoesOn_0 59 rfl) rfl rfl nkX11_qEndsPart mlX11_588 imX11_qEndsPart rfl slX11_qEndsPart rfl (Nat.le_of_ble_eq_true rfl) (Nat.le_of_ble_eq_true rfl) (kz198 Ln) h (fun z => rfl) (fun r95 φ95 α95 h => ?_)
            refine r_goto (pc' := 0) (kX11_qGoesOn_1 0 rfl) rfl ?_
            exact r_weak (L' := [(2, 198), (9, 0)]) ⟨Or.inl rfl, Or.inr (by decide), trivial⟩ (h Ln)
          · have h := h.2 c93
            refine r_iconst 5 (pc' := 107) (kX11_qGoesOn_0 54 rfl) rfl (by unfold inR; omega) ?_
            refine r_goto (pc' := 112) (kX11_qGoesOn_0 55 rfl) rfl ?_
            refine s_callV (As := [(0, 5)]) (o := 198) (S := []) (S2 := fun z => []) (pc' := 115) (kX11_qGoesOn_0 57 rfl) rfl rfl nkX11_qCode mlX11_564 imX11_qCode rfl slX11_qCode rfl (Nat.le_of_ble_eq_true rfl) (Nat.le_of_ble_eq_true rfl) (kz198 Ln) h (fun z => rfl) (fun r96 φ96 α96 h => ?_)
            refine r_aload_n (pc' := 116) (kX11_qGoesOn_0 58 rfl) rfl rfl ?_
            refine s_callV (As := []) (o := 198) (S := []) (S2 := fun z => []) (pc' := 119) (kX11_qGoesOn_0 59 rfl) rfl rfl nkX11_qEndsPart mlX11_588 imX11_qEndsPart rfl slX11_qEndsPart rfl (Nat.le_of_ble_eq_true rfl) (Nat.le_of_ble_eq_true rfl) (kz198 Ln) h (fun z => rfl) (fun r97 φ97 α97 h => ?_)
            refine r_goto (pc' := 0) (kX11_qGoesOn_1 0 rfl) rfl ?_
            exact r_weak (L' := [(2, 198), (9, 0)]) ⟨Or.inl rfl, Or.inr (by decide), trivial⟩ (h Ln)
      · have h := h.2 c85
        refine r_aload_n (pc' := 26) (kX11_qGoesOn_0 11 rfl) rfl rfl ?_
        refine s_callV (As := []) (o := 198) (S := []) (S2 := fun z => [(0, z)]) (pc' := 29) (kX11_qGoesOn_0 12 rfl) rfl rfl nkX11_qBracket mlX11_591 imX11_qBracket rfl slX11_qBracket rfl (Nat.le_of_ble_eq_true rfl) (Nat.le_of_ble_eq_true rfl) (kz198 Ln) h (fun z => rfl) (fun r98 φ98 α98 h => ?_)
        refine r_bipush 23 (pc' := 31) (kX11_qGoesOn_0 13 rfl) rfl ⟨by unfold inR; omega, rfl⟩ ?_
        refine r_icmp_eq (t := 43) (pc' := 34) (kX11_qGoesOn_0 14 rfl) rfl rfl (fun c99 => ?_) (fun c99 => ?_)
        · have h := h.1 c99
          refine r_aload_n (pc' := 44) (kX11_qGoesOn_0 19 rfl) rfl rfl ?_
          refine r_dup (pc' := 45) (kX11_qGoesOn_0 20 rfl) rfl rfl ?_
          refine s_get (x := (φ98 11 2 198)) (pc' := 48) (kX11_qGoesOn_0 21 rfl) rfl fkX11_233 rfl rfl rfl (kz198 Ln) rfl ?_
          refine r_iconst 1 (pc' := 49) (kX11_qGoesOn_0 22 rfl) rfl (by unfold inR; omega) ?_
          have g100 := h.1
          have h := h.2
          refine r_iadd (pc' := 50) (kX11_qGoesOn_0 23 rfl) rfl g100 ?_
          refine s_put (pc' := 53) (kX11_qGoesOn_0 24 rfl) rfl fkX11_233 fnX11_2 rfl pk_int (kz198 Ln) ?_
          refine r_aload_n (pc' := 54) (kX11_qGoesOn_0 25 rfl) rfl rfl ?_
          refine s_callV (As := []) (o := 198) (S := []) (S2 := fun z => []) (pc' := 57) (kX11_qGoesOn_0 26 rfl) rfl rfl nkX11_qDropsToBracket mlX11_594 imX11_qDropsToBracket rfl slX11_qDropsToBracket rfl (Nat.le_of_ble_eq_true rfl) (Nat.le_of_ble_eq_true rfl) (kz198 Ln) h (fun z => rfl) (fun r101 φ101 α101 h => ?_)
          refine r_aload_n (pc' := 58) (kX11_qGoesOn_0 27 rfl) rfl rfl ?_
          refine r_dup (pc' := 59) (kX11_qGoesOn_0 28 rfl) rfl rfl ?_
          refine s_get (x := (φ101 11 90 198)) (pc' := 62) (kX11_qGoesOn_0 29 rfl) rfl fkX11_318 rfl rfl rfl (kz198 Ln) rfl ?_
          refine r_iconst 1 (pc' := 63) (kX11_qGoesOn_0 30 rfl) rfl (by unfold inR; omega) ?_
          have g102 := h.1
          have h := h.2
          refine r_isub (pc' := 64) (kX11_qGoesOn_0 31 rfl) rfl g102 ?_
          refine s_put (pc' := 67) (kX11_qGoesOn_0 32 rfl) rfl fkX11_318 fnX11_90 rfl pk_int (kz198 Ln) ?_
          refine r_aload_n (pc' := 68) (kX11_qGoesOn_0 33 rfl) rfl rfl ?_
          refine r_dup (pc' := 69) (kX11_qGoesOn_0 34 rfl) rfl rfl ?_
          refine s_get (x := (φ101 11 91 198)) (pc' := 72) (kX11_qGoesOn_0 35 rfl) rfl fkX11_321 rfl rfl rfl (kz198 Ln) rfl ?_
          refine r_iconst 1 (pc' := 73) (kX11_qGoesOn_0 36 rfl) rfl (by unfold inR; omega) ?_
          have g103 := h.1
          have h := h.2
          refine r_isub (pc' := 74) (kX11_qGoesOn_0 37 rfl) rfl g103 ?_
          refine s_put (pc' := 77) (kX11_qGoesOn_0 38 rfl) rfl fkX11_321 fnX11_91 rfl pk_int (kz198 Ln) ?_
          refine r_aload_n (pc' := 78) (kX11_qGoesOn_0 39 rfl) rfl rfl ?_
          refine s_getr (v := 264) (pc' := 81) (kX11_qGoesOn_0 40 rfl) rfl fkX11_215 rfl rfl (kz198 Ln) rfl (by decide) ?_
          refine r_aload_n (pc' := 82) (kX11_qGoesOn_0 41 rfl) rfl rfl ?_
          refine s_get (x := ((φ101 11 90 198) - 1)) (pc' := 85) (kX11_qGoesOn_0 42 rfl) rfl fkX11_318 rfl rfl rfl (kz198 Ln) (by simp [upf]) ?_
          have g104 := h.1
          have h := h.2
          refine s_iald (x := (α101 264 ((φ101 11 90 198) - 1))) (pc' := 86) (kX11_qGoesOn_0 43 rfl) rfl (kz264 Ln) g104 rfl ?_
          refine r_bipush 20 (pc' := 88) (kX11_qGoesOn_0 44 rfl) rfl ⟨by unfold inR; omega, rfl⟩ ?_
          refine r_icmp_eq (t := 115) (pc' := 91) (kX11_qGoesOn_0 45 rfl) rfl rfl (fun c105 => ?_) (fun c105 => ?_)
          · have h := h.1 c105
            refine r_aload_n (pc' := 116) (kX11_qGoesOn_0 58 rfl) rfl rfl ?_
            refine s_callV (As := []) (o := 198) (S := []) (S2 := fun z => []) (pc' := 119) (kX11_qGoesOn_0 59 rfl) rfl rfl nkX11_qEndsPart mlX11_588 imX11_qEndsPart rfl slX11_qEndsPart rfl (Nat.le_of_ble_eq_true rfl) (Nat.le_of_ble_eq_true rfl) (kz198 Ln) h (fun z => rfl) (fun r106 φ106 α106 h => ?_)
            refine r_goto (pc' := 0) (kX11_qGoesOn_1 0 rfl) rfl ?_
            exact r_weak (L' := [(2, 198), (9, 0)]) ⟨Or.inl rfl, Or.inr (by decide), trivial⟩ (h Ln)
          · have h := h.2 c105
            refine r_aload_n (pc' := 92) (kX11_qGoesOn_0 46 rfl) rfl rfl ?_
            refine r_aload_n (pc' := 93) (kX11_qGoesOn_0 47 rfl) rfl rfl ?_
            refine s_getr (v := 264) (pc' := 96) (kX11_qGoesOn_0 48 rfl) rfl fkX11_215 rfl rfl (kz198 Ln) rfl (by decide) ?_
            refine r_aload_n (pc' := 97) (kX11_qGoesOn_0 49 rfl) rfl rfl ?_
            refine s_get (x := ((φ101 11 90 198) - 1)) (pc' := 100) (kX11_qGoesOn_0 50 rfl) rfl fkX11_318 rfl rfl rfl (kz198 Ln) (by simp [upf]) ?_
            refine s_iald (x := (α101 264 ((φ101 11 90 198) - 1))) (pc' := 101) (kX11_qGoesOn_0 51 rfl) rfl (kz264 Ln) g104 rfl ?_
            refine r_bipush 23 (pc' := 103) (kX11_qGoesOn_0 52 rfl) rfl ⟨by unfold inR; omega, rfl⟩ ?_
            refine r_icmp_ne (t := 110) (pc' := 106) (kX11_qGoesOn_0 53 rfl) rfl rfl (fun c107 => ?_) (fun c107 => ?_)
            · have h := h.1 c107
              refine r_bipush 6 (pc' := 112) (kX11_qGoesOn_0 56 rfl) rfl ⟨by unfold inR; omega, rfl⟩ ?_
              refine s_callV (As := [(0, 6)]) (o := 198) (S := []) (S2 := fun z => []) (pc' := 115) (kX11_qGoesOn_0 57 rfl) rfl rfl nkX11_qCode mlX11_564 imX11_qCode rfl slX11_qCode rfl (Nat.le_of_ble_eq_true rfl) (Nat.le_of_ble_eq_true rfl) (kz198 Ln) h (fun z => rfl) (fun r108 φ108 α108 h => ?_)
              refine r_aload_n (pc' := 116) (kX11_qGoesOn_0 58 rfl) rfl rfl ?_
              refine s_callV (As := []) (o := 198) (S := []) (S2 := fun z => []) (pc' := 119) (kX11_qGoesOn_0 59 rfl) rfl rfl nkX11_qEndsPart mlX11_588 imX11_qEndsPart rfl slX11_qEndsPart rfl (Nat.le_of_ble_eq_true rfl) (Nat.le_of_ble_eq_true rfl) (kz198 Ln) h (fun z => rfl) (fun r109 φ109 α109 h => ?_)
              refine r_goto (pc' := 0) (kX11_qGoesOn_1 0 rfl) rfl ?_
              exact r_weak (L' := [(2, 198), (9, 0)]) ⟨Or.inl rfl, Or.inr (by decide), trivial⟩ (h Ln)
            · have h := h.2 c107
              refine r_iconst 5 (pc' := 107) (kX11_qGoesOn_0 54 rfl) rfl (by unfold inR; omega) ?_
              refine r_goto (pc' := 112) (kX11_qGoesOn_0 55 rfl) rfl ?_
              refine s_callV (As := [(0, 5)]) (o := 198) (S := []) (S2 := fun z => []) (pc' := 115) (kX11_qGoesOn_0 57 rfl) rfl rfl nkX11_qCode mlX11_564 imX11_qCode rfl slX11_qCode rfl (Nat.le_of_ble_eq_true rfl) (Nat.le_of_ble_eq_true rfl) (kz198 Ln) h (fun z => rfl) (fun r110 φ110 α110 h => ?_)
              refine r_aload_n (pc' := 116) (kX11_qGoesOn_0 58 rfl) rfl rfl ?_
              refine s_callV (As := []) (o := 198) (S := []) (S2 := fun z => []) (pc' := 119) (kX11_qGoesOn_0 59 rfl) rfl rfl nkX11_qEndsPart mlX11_588 imX11_qEndsPart rfl slX11_qEndsPart rfl (Nat.le_of_ble_eq_true rfl) (Nat.le_of_ble_eq_true rfl) (kz198 Ln) h (fun z => rfl) (fun r111 φ111 α111 h => ?_)
              refine r_goto (pc' := 0) (kX11_qGoesOn_1 0 rfl) rfl ?_
              exact r_weak (L' := [(2, 198), (9, 0)]) ⟨Or.inl rfl, Or.inr (by decide), trivial⟩ (h Ln)
        · have h := h.2 c99
          refine r_aload_n (pc' := 35) (kX11_qGoesOn_0 15 rfl) rfl rfl ?_
          refine s_callV (As := []) (o := 198) (S := []) (S2 := fun z => [(0, z)]) (pc' := 38) (kX11_qGoesOn_0 16 rfl) rfl rfl nkX11_qBracket mlX11_591 imX11_qBracket rfl slX11_qBracket rfl (Nat.le_of_ble_eq_true rfl) (Nat.le_of_ble_eq_true rfl) (kz198 Ln) h (fun z => rfl) (fun r112 φ112 α112 h => ?_)
          refine r_bipush 24 (pc' := 40) (kX11_qGoesOn_0 17 rfl) rfl ⟨by unfold inR; omega, rfl⟩ ?_
          refine r_icmp_ne (t := 122) (pc' := 43) (kX11_qGoesOn_0 18 rfl) rfl rfl (fun c113 => ?_) (fun c113 => ?_)
          · have h := h.1 c113
            refine r_aload_n (pc' := 123) (kX11_qGoesOn_1 1 rfl) rfl rfl ?_
            refine r_bipush 42 (pc' := 125) (kX11_qGoesOn_1 2 rfl) rfl ⟨by unfold inR; omega, rfl⟩ ?_
            refine s_callV (As := [(0, 42)]) (o := 198) (S := []) (S2 := fun z => [(0, z)]) (pc' := 128) (kX11_qGoesOn_1 3 rfl) rfl rfl nkX11_takesSign mlX11_261 imX11_takesSign rfl slX11_takesSign rfl (Nat.le_of_ble_eq_true rfl) (Nat.le_of_ble_eq_true rfl) (kz198 Ln) h (fun z => rfl) (fun r114 φ114 α114 h => ?_)
            refine r_if_ne (t := 140) (pc' := 131) (kX11_qGoesOn_1 4 rfl) rfl rfl (fun c115 => ?_) (fun c115 => ?_)
            · have h := h.1 c115
              refine r_aload_n (pc' := 141) (kX11_qGoesOn_1 9 rfl) rfl rfl ?_
              refine s_getr (v := 199) (pc' := 144) (kX11_qGoesOn_1 10 rfl) rfl fkX11_7 rfl rfl (kz198 Ln) rfl (by decide) ?_
              refine r_aload_n (pc' := 145) (kX11_qGoesOn_1 11 rfl) rfl rfl ?_
              refine s_get (x := (φ114 11 2 198)) (pc' := 148) (kX11_qGoesOn_1 12 rfl) rfl fkX11_233 rfl rfl rfl (kz198 Ln) rfl ?_
              refine r_iconst 1 (pc' := 149) (kX11_qGoesOn_1 13 rfl) rfl (by unfold inR; omega) ?_
              have g116 := h.1
              have h := h.2
              refine r_isub (pc' := 150) (kX11_qGoesOn_1 14 rfl) rfl g116 ?_
              have g117 := h.1
              have h := h.2
              refine s_iald (x := (α114 199 ((φ114 11 2 198) - 1))) (pc' := 151) (kX11_qGoesOn_1 15 rfl) rfl (kz199 Ln) g117 rfl ?_
              refine r_bipush 42 (pc' := 153) (kX11_qGoesOn_1 16 rfl) rfl ⟨by unfold inR; omega, rfl⟩ ?_
              refine r_icmp_ne (t := 160) (pc' := 156) (kX11_qGoesOn_1 17 rfl) rfl rfl (fun c118 => ?_) (fun c118 => ?_)
              · have h := h.1 c118
                refine r_iconst 4 (pc' := 161) (kX11_qGoesOn_1 20 rfl) rfl (by unfold inR; omega) ?_
                refine r_istore_n (L' := [(2, 198), (0, 4)]) (pc' := 162) (kX11_qGoesOn_1 21 rfl) rfl (Nat.le_of_ble_eq_true rfl) rfl ?_
                exact r_weak (L' := [(2, 198), (0, 4)]) ⟨Or.inl rfl, Or.inl rfl, trivial⟩ (h Ln)
              · have h := h.2 c118
                refine r_iconst 3 (pc' := 157) (kX11_qGoesOn_1 18 rfl) rfl (by unfold inR; omega) ?_
                refine r_goto (pc' := 161) (kX11_qGoesOn_1 19 rfl) rfl ?_
                refine r_istore_n (L' := [(2, 198), (0, 3)]) (pc' := 162) (kX11_qGoesOn_1 21 rfl) rfl (Nat.le_of_ble_eq_true rfl) rfl ?_
                exact r_weak (L' := [(2, 198), (0, 3)]) ⟨Or.inl rfl, Or.inl rfl, trivial⟩ (h Ln)
            · have h := h.2 c115
              refine r_aload_n (pc' := 132) (kX11_qGoesOn_1 5 rfl) rfl rfl ?_
              refine r_bipush 47 (pc' := 134) (kX11_qGoesOn_1 6 rfl) rfl ⟨by unfold inR; omega, rfl⟩ ?_
              refine s_callV (As := [(0, 47)]) (o := 198) (S := []) (S2 := fun z => [(0, z)]) (pc' := 137) (kX11_qGoesOn_1 7 rfl) rfl rfl nkX11_takesSign mlX11_261 imX11_takesSign rfl slX11_takesSign rfl (Nat.le_of_ble_eq_true rfl) (Nat.le_of_ble_eq_true rfl) (kz198 Ln) h (fun z => rfl) (fun r119 φ119 α119 h => ?_)
              refine r_if_eq (t := 207) (pc' := 140) (kX11_qGoesOn_1 8 rfl) rfl rfl (fun c120 => ?_) (fun c120 => ?_)
              · have h := h.1 c120
                refine r_aload_n (pc' := 208) (kX11_qGoesOn_1 47 rfl) rfl rfl ?_
                refine r_bipush 43 (pc' := 210) (kX11_qGoesOn_1 48 rfl) rfl ⟨by unfold inR; omega, rfl⟩ ?_
                refine s_callV (As := [(0, 43)]) (o := 198) (S := []) (S2 := fun z => [(0, z)]) (pc' := 213) (kX11_qGoesOn_1 49 rfl) rfl rfl nkX11_takesSign mlX11_261 imX11_takesSign rfl slX11_takesSign rfl (Nat.le_of_ble_eq_true rfl) (Nat.le_of_ble_eq_true rfl) (kz198 Ln) h (fun z => rfl) (fun r121 φ121 α121 h => ?_)
                refine r_if_ne (t := 225) (pc' := 216) (kX11_qGoesOn_1 50 rfl) rfl rfl (fun c122 => ?_) (fun c122 => ?_)
                · have h := h.1 c122
                  refine r_aload_n (pc' := 226) (kX11_qGoesOn_1 55 rfl) rfl rfl ?_
                  refine s_getr (v := 199) (pc' := 229) (kX11_qGoesOn_1 56 rfl) rfl fkX11_7 rfl rfl (kz198 Ln) rfl (by decide) ?_
                  refine r_aload_n (pc' := 230) (kX11_qGoesOn_1 57 rfl) rfl rfl ?_
                  refine s_get (x := (φ121 11 2 198)) (pc' := 233) (kX11_qGoesOn_1 58 rfl) rfl fkX11_233 rfl rfl rfl (kz198 Ln) rfl ?_
                  refine r_iconst 1 (pc' := 234) (kX11_qGoesOn_1 59 rfl) rfl (by unfold inR; omega) ?_
                  have g123 := h.1
                  have h := h.2
                  refine r_isub (pc' := 235) (kX11_qGoesOn_2 0 rfl) rfl g123 ?_
                  have g124 := h.1
                  have h := h.2
                  refine s_iald (x := (α121 199 ((φ121 11 2 198) - 1))) (pc' := 236) (kX11_qGoesOn_2 1 rfl) rfl (kz199 Ln) g124 rfl ?_
                  refine r_bipush 43 (pc' := 238) (kX11_qGoesOn_2 2 rfl) rfl ⟨by unfold inR; omega, rfl⟩ ?_
                  refine r_icmp_ne (t := 245) (pc' := 241) (kX11_qGoesOn_2 3 rfl) rfl rfl (fun c125 => ?_) (fun c125 => ?_)
                  · have h := h.1 c125
                    refine r_iconst 2 (pc' := 246) (kX11_qGoesOn_2 6 rfl) rfl (by unfold inR; omega) ?_
                    refine r_istore_n (L' := [(2, 198), (0, 2)]) (pc' := 247) (kX11_qGoesOn_2 7 rfl) rfl (Nat.le_of_ble_eq_true rfl) rfl ?_
                    exact r_weak (L' := [(2, 198), (0, 2)]) ⟨Or.inl rfl, Or.inl rfl, trivial⟩ (h Ln)
                  · have h := h.2 c125
                    refine r_iconst 1 (pc' := 242) (kX11_qGoesOn_2 4 rfl) rfl (by unfold inR; omega) ?_
                    refine r_goto (pc' := 246) (kX11_qGoesOn_2 5 rfl) rfl ?_
                    refine r_istore_n (L' := [(2, 198), (0, 1)]) (pc' := 247) (kX11_qGoesOn_2 7 rfl) rfl (Nat.le_of_ble_eq_true rfl) rfl ?_
                    exact r_weak (L' := [(2, 198), (0, 1)]) ⟨Or.inl rfl, Or.inl rfl, trivial⟩ (h Ln)
                · have h := h.2 c122
                  refine r_aload_n (pc' := 217) (kX11_qGoesOn_1 51 rfl) rfl rfl ?_
                  refine r_bipush 45 (pc' := 219) (kX11_qGoesOn_1 52 rfl) rfl ⟨by unfold inR; omega, rfl⟩ ?_
                  refine s_callV (As := [(0, 45)]) (o := 198) (S := []) (S2 := fun z => [(0, z)]) (pc' := 222) (kX11_qGoesOn_1 53 rfl) rfl rfl nkX11_takesSign mlX11_261 imX11_takesSign rfl slX11_takesSign rfl (Nat.le_of_ble_eq_true rfl) (Nat.le_of_ble_eq_true rfl) (kz198 Ln) h (fun z => rfl) (fun r126 φ126 α126 h => ?_)
                  refine r_if_eq (t := 308) (pc' := 225) (kX11_qGoesOn_1 54 rfl) rfl rfl (fun c127 => ?_) (fun c127 => ?_)
                  · have h := h.1 c127
                    refine r_aload_n (pc' := 309) (kX11_qGoesOn_2 41 rfl) rfl rfl ?_
                    refine s_callV (As := []) (o := 198) (S := []) (S2 := fun z => [(0, z)]) (pc' := 312) (kX11_qGoesOn_2 42 rfl) rfl rfl nkX11_qBracket mlX11_591 imX11_qBracket rfl slX11_qBracket rfl (Nat.le_of_ble_eq_true rfl) (Nat.le_of_ble_eq_true rfl) (kz198 Ln) h (fun z => rfl) (fun r128 φ128 α128 h => ?_)
                    refine r_bipush 21 (pc' := 314) (kX11_qGoesOn_2 43 rfl) rfl ⟨by unfold inR; omega, rfl⟩ ?_
                    refine r_icmp_eq (t := 326) (pc' := 317) (kX11_qGoesOn_2 44 rfl) rfl rfl (fun c129 => ?_) (fun c129 => ?_)
                    · have h := h.1 c129
                      refine r_aload_n (pc' := 327) (kX11_qGoesOn_2 49 rfl) rfl rfl ?_
                      refine r_bipush 44 (pc' := 329) (kX11_qGoesOn_2 50 rfl) rfl ⟨by unfold inR; omega, rfl⟩ ?_
                      refine s_callV (As := [(0, 44)]) (o := 198) (S := []) (S2 := fun z => []) (pc' := 332) (kX11_qGoesOn_2 51 rfl) rfl rfl nkX11_asksSign mlX11_300 imX11_asksSign rfl slX11_asksSign rfl (Nat.le_of_ble_eq_true rfl) (Nat.le_of_ble_eq_true rfl) (kz198 Ln) h (fun z => rfl) (fun r130 φ130 α130 h => ?_)
                      refine r_aload_n (pc' := 333) (kX11_qGoesOn_2 52 rfl) rfl rfl ?_
                      refine s_get (x := (φ130 11 5 198)) (pc' := 336) (kX11_qGoesOn_2 53 rfl) rfl fkX11_227 rfl rfl rfl (kz198 Ln) rfl ?_
                      refine r_if_eq (t := 341) (pc' := 339) (kX11_qGoesOn_2 54 rfl) rfl rfl (fun c131 => ?_) (fun c131 => ?_)
                      · have h := h.1 c131
                        refine r_aload_n (pc' := 342) (kX11_qGoesOn_2 57 rfl) rfl rfl ?_
                        refine s_callV (As := []) (o := 198) (S := []) (S2 := fun z => []) (pc' := 345) (kX11_qGoesOn_2 58 rfl) rfl rfl nkX11_qDropsToBracket mlX11_594 imX11_qDropsToBracket rfl slX11_qDropsToBracket rfl (Nat.le_of_ble_eq_true rfl) (Nat.le_of_ble_eq_true rfl) (kz198 Ln) h (fun z => rfl) (fun r132 φ132 α132 h => ?_)
                        refine r_aload_n (pc' := 346) (kX11_qGoesOn_2 59 rfl) rfl rfl ?_
                        refine s_getr (v := 264) (pc' := 349) (kX11_qGoesOn_3 0 rfl) rfl fkX11_215 rfl rfl (kz198 Ln) rfl (by decide) ?_
                        refine r_aload_n (pc' := 350) (kX11_qGoesOn_3 1 rfl) rfl rfl ?_
                        refine s_get (x := (φ132 11 90 198)) (pc' := 353) (kX11_qGoesOn_3 2 rfl) rfl fkX11_318 rfl rfl rfl (kz198 Ln) rfl ?_
                        refine r_iconst 1 (pc' := 354) (kX11_qGoesOn_3 3 rfl) rfl (by unfold inR; omega) ?_
                        have g133 := h.1
                        have h := h.2
                        refine r_isub (pc' := 355) (kX11_qGoesOn_3 4 rfl) rfl g133 ?_
                        refine r_dup2 (pc' := 356) (kX11_qGoesOn_3 5 rfl) rfl rfl rfl ?_
                        have g134 := h.1
                        have h := h.2
                        refine s_iald (x := (α132 264 ((φ132 11 90 198) - 1))) (pc' := 357) (kX11_qGoesOn_3 6 rfl) rfl (kz264 Ln) g134 rfl ?_
                        refine r_iconst 2 (pc' := 358) (kX11_qGoesOn_3 7 rfl) rfl (by unfold inR; omega) ?_
                        have g135 := h.1
                        have h := h.2
                        refine r_iadd (pc' := 359) (kX11_qGoesOn_3 8 rfl) rfl g135 ?_
                        refine s_iast (pc' := 360) (kX11_qGoesOn_3 9 rfl) rfl (kz264 Ln) g134 ?_
                        refine r_iconst 1 (pc' := 361) (kX11_qGoesOn_3 10 rfl) rfl (by unfold inR; omega) ?_
                        exact s_zret (kX11_qGoesOn_3 11 rfl) rfl (Or.inr rfl) h
                      · have h := h.2 c131
                        refine r_iconst 0 (pc' := 340) (kX11_qGoesOn_2 55 rfl) rfl (by unfold inR; omega) ?_
                        exact s_zret (kX11_qGoesOn_2 56 rfl) rfl (Or.inl rfl) h
                    · have h := h.2 c129
                      refine r_aload_n (pc' := 318) (kX11_qGoesOn_2 45 rfl) rfl rfl ?_
                      refine s_callV (As := []) (o := 198) (S := []) (S2 := fun z => [(0, z)]) (pc' := 321) (kX11_qGoesOn_2 46 rfl) rfl rfl nkX11_qBracket mlX11_591 imX11_qBracket rfl slX11_qBracket rfl (Nat.le_of_ble_eq_true rfl) (Nat.le_of_ble_eq_true rfl) (kz198 Ln) h (fun z => rfl) (fun r136 φ136 α136 h => ?_)
                      refine r_bipush 22 (pc' := 323) (kX11_qGoesOn_2 47 rfl) rfl ⟨by unfold inR; omega, rfl⟩ ?_
                      refine r_icmp_ne (t := 362) (pc' := 326) (kX11_qGoesOn_2 48 rfl) rfl rfl (fun c137 => ?_) (fun c137 => ?_)
                      · have h := h.1 c137
                        refine r_aload_n (pc' := 363) (kX11_qGoesOn_3 12 rfl) rfl rfl ?_
                        refine s_callV (As := []) (o := 198) (S := []) (S2 := fun z => [(0, z)]) (pc' := 366) (kX11_qGoesOn_3 13 rfl) rfl rfl nkX11_qBracket mlX11_591 imX11_qBracket rfl slX11_qBracket rfl (Nat.le_of_ble_eq_true rfl) (Nat.le_of_ble_eq_true rfl) (kz198 Ln) h (fun z => rfl) (fun r138 φ138 α138 h => ?_)
                        refine r_iconst (-1) (pc' := 367) (kX11_qGoesOn_3 14 rfl) rfl (by unfold inR; omega) ?_
                        refine r_icmp_eq (t := 386) (pc' := 370) (kX11_qGoesOn_3 15 rfl) rfl rfl (fun c139 => ?_) (fun c139 => ?_)
                        · have h := h.1 c139
                          refine r_iconst 0 (pc' := 387) (kX11_qGoesOn_3 24 rfl) rfl (by unfold inR; omega) ?_
                          exact s_zret (kX11_qGoesOn_3 25 rfl) rfl (Or.inl rfl) h
                        · have h := h.2 c139
                          refine r_aload_n (pc' := 371) (kX11_qGoesOn_3 16 rfl) rfl rfl ?_
                          refine s_get (x := (φ138 11 5 198)) (pc' := 374) (kX11_qGoesOn_3 17 rfl) rfl fkX11_227 rfl rfl rfl (kz198 Ln) rfl ?_
                          refine r_if_ne (t := 386) (pc' := 377) (kX11_qGoesOn_3 18 rfl) rfl rfl (fun c140 => ?_) (fun c140 => ?_)
                          · have h := h.1 c140
                            refine r_iconst 0 (pc' := 387) (kX11_qGoesOn_3 24 rfl) rfl (by unfold inR; omega) ?_
                            exact s_zret (kX11_qGoesOn_3 25 rfl) rfl (Or.inl rfl) h
                          · have h := h.2 c140
                            refine r_aload_n (pc' := 378) (kX11_qGoesOn_3 19 rfl) rfl rfl ?_
                            refine r_iconst 1 (pc' := 379) (kX11_qGoesOn_3 20 rfl) rfl (by unfold inR; omega) ?_
                            refine r_aload_n (pc' := 380) (kX11_qGoesOn_3 21 rfl) rfl rfl ?_
                            refine s_get (x := (φ138 11 2 198)) (pc' := 383) (kX11_qGoesOn_3 22 rfl) rfl fkX11_233 rfl rfl rfl (kz198 Ln) rfl ?_
                            refine s_callV (As := [(0, 1), (0, (φ138 11 2 198))]) (o := 198) (S := []) (S2 := fun z => []) (pc' := 386) (kX11_qGoesOn_3 23 rfl) rfl rfl nkX11_fail mlX11_257 imX11_fail rfl slX11_fail rfl (Nat.le_of_ble_eq_true rfl) (Nat.le_of_ble_eq_true rfl) (kz198 Ln) h (fun z => rfl) (fun r141 φ141 α141 h => ?_)
                            refine r_iconst 0 (pc' := 387) (kX11_qGoesOn_3 24 rfl) rfl (by unfold inR; omega) ?_
                            exact s_zret (kX11_qGoesOn_3 25 rfl) rfl (Or.inl rfl) h
                      · have h := h.2 c137
                        refine r_aload_n (pc' := 327) (kX11_qGoesOn_2 49 rfl) rfl rfl ?_
                        refine r_bipush 44 (pc' := 329) (kX11_qGoesOn_2 50 rfl) rfl ⟨by unfold inR; omega, rfl⟩ ?_
                        refine s_callV (As := [(0, 44)]) (o := 198) (S := []) (S2 := fun z => []) (pc' := 332) (kX11_qGoesOn_2 51 rfl) rfl rfl nkX11_asksSign mlX11_300 imX11_asksSign rfl slX11_asksSign rfl (Nat.le_of_ble_eq_true rfl) (Nat.le_of_ble_eq_true rfl) (kz198 Ln) h (fun z => rfl) (fun r142 φ142 α142 h => ?_)
                        refine r_aload_n (pc' := 333) (kX11_qGoesOn_2 52 rfl) rfl rfl ?_
                        refine s_get (x := (φ142 11 5 198)) (pc' := 336) (kX11_qGoesOn_2 53 rfl) rfl fkX11_227 rfl rfl rfl (kz198 Ln) rfl ?_
                        refine r_if_eq (t := 341) (pc' := 339) (kX11_qGoesOn_2 54 rfl) rfl rfl (fun c143 => ?_) (fun c143 => ?_)
                        · have h := h.1 c143
                          refine r_aload_n (pc' := 342) (kX11_qGoesOn_2 57 rfl) rfl rfl ?_
                          refine s_callV (As := []) (o := 198) (S := []) (S2 := fun z => []) (pc' := 345) (kX11_qGoesOn_2 58 rfl) rfl rfl nkX11_qDropsToBracket mlX11_594 imX11_qDropsToBracket rfl slX11_qDropsToBracket rfl (Nat.le_of_ble_eq_true rfl) (Nat.le_of_ble_eq_true rfl) (kz198 Ln) h (fun z => rfl) (fun r144 φ144 α144 h => ?_)
                          refine r_aload_n (pc' := 346) (kX11_qGoesOn_2 59 rfl) rfl rfl ?_
                          refine s_getr (v := 264) (pc' := 349) (kX11_qGoesOn_3 0 rfl) rfl fkX11_215 rfl rfl (kz198 Ln) rfl (by decide) ?_
                          refine r_aload_n (pc' := 350) (kX11_qGoesOn_3 1 rfl) rfl rfl ?_
                          refine s_get (x := (φ144 11 90 198)) (pc' := 353) (kX11_qGoesOn_3 2 rfl) rfl fkX11_318 rfl rfl rfl (kz198 Ln) rfl ?_
                          refine r_iconst 1 (pc' := 354) (kX11_qGoesOn_3 3 rfl) rfl (by unfold inR; omega) ?_
                          have g145 := h.1
                          have h := h.2
                          refine r_isub (pc' := 355) (kX11_qGoesOn_3 4 rfl) rfl g145 ?_
                          refine r_dup2 (pc' := 356) (kX11_qGoesOn_3 5 rfl) rfl rfl rfl ?_
                          have g146 := h.1
                          have h := h.2
                          refine s_iald (x := (α144 264 ((φ144 11 90 198) - 1))) (pc' := 357) (kX11_qGoesOn_3 6 rfl) rfl (kz264 Ln) g146 rfl ?_
                          refine r_iconst 2 (pc' := 358) (kX11_qGoesOn_3 7 rfl) rfl (by unfold inR; omega) ?_
                          have g147 := h.1
                          have h := h.2
                          refine r_iadd (pc' := 359) (kX11_qGoesOn_3 8 rfl) rfl g147 ?_
                          refine s_iast (pc' := 360) (kX11_qGoesOn_3 9 rfl) rfl (kz264 Ln) g146 ?_
                          refine r_iconst 1 (pc' := 361) (kX11_qGoesOn_3 10 rfl) rfl (by unfold inR; omega) ?_
                          exact s_zret (kX11_qGoesOn_3 11 rfl) rfl (Or.inr rfl) h
                        · have h := h.2 c143
                          refine r_iconst 0 (pc' := 340) (kX11_qGoesOn_2 55 rfl) rfl (by unfold inR; omega) ?_
                          exact s_zret (kX11_qGoesOn_2 56 rfl) rfl (Or.inl rfl) h
                  · have h := h.2 c127
                    refine r_aload_n (pc' := 226) (kX11_qGoesOn_1 55 rfl) rfl rfl ?_
                    refine s_getr (v := 199) (pc' := 229) (kX11_qGoesOn_1 56 rfl) rfl fkX11_7 rfl rfl (kz198 Ln) rfl (by decide) ?_
                    refine r_aload_n (pc' := 230) (kX11_qGoesOn_1 57 rfl) rfl rfl ?_
                    refine s_get (x := (φ126 11 2 198)) (pc' := 233) (kX11_qGoesOn_1 58 rfl) rfl fkX11_233 rfl rfl rfl (kz198 Ln) rfl ?_
                    refine r_iconst 1 (pc' := 234) (kX11_qGoesOn_1 59 rfl) rfl (by unfold inR; omega) ?_
                    have g148 := h.1
                    have h := h.2
                    refine r_isub (pc' := 235) (kX11_qGoesOn_2 0 rfl) rfl g148 ?_
                    have g149 := h.1
                    have h := h.2
                    refine s_iald (x := (α126 199 ((φ126 11 2 198) - 1))) (pc' := 236) (kX11_qGoesOn_2 1 rfl) rfl (kz199 Ln) g149 rfl ?_
                    refine r_bipush 43 (pc' := 238) (kX11_qGoesOn_2 2 rfl) rfl ⟨by unfold inR; omega, rfl⟩ ?_
                    refine r_icmp_ne (t := 245) (pc' := 241) (kX11_qGoesOn_2 3 rfl) rfl rfl (fun c150 => ?_) (fun c150 => ?_)
                    · have h := h.1 c150
                      refine r_iconst 2 (pc' := 246) (kX11_qGoesOn_2 6 rfl) rfl (by unfold inR; omega) ?_
                      refine r_istore_n (L' := [(2, 198), (0, 2)]) (pc' := 247) (kX11_qGoesOn_2 7 rfl) rfl (Nat.le_of_ble_eq_true rfl) rfl ?_
                      exact r_weak (L' := [(2, 198), (0, 2)]) ⟨Or.inl rfl, Or.inl rfl, trivial⟩ (h Ln)
                    · have h := h.2 c150
                      refine r_iconst 1 (pc' := 242) (kX11_qGoesOn_2 4 rfl) rfl (by unfold inR; omega) ?_
                      refine r_goto (pc' := 246) (kX11_qGoesOn_2 5 rfl) rfl ?_
                      refine r_istore_n (L' := [(2, 198), (0, 1)]) (pc' := 247) (kX11_qGoesOn_2 7 rfl) rfl (Nat.le_of_ble_eq_true rfl) rfl ?_
                      exact r_weak (L' := [(2, 198), (0, 1)]) ⟨Or.inl rfl, Or.inl rfl, trivial⟩ (h Ln)
              · have h := h.2 c120
                refine r_aload_n (pc' := 141) (kX11_qGoesOn_1 9 rfl) rfl rfl ?_
                refine s_getr (v := 199) (pc' := 144) (kX11_qGoesOn_1 10 rfl) rfl fkX11_7 rfl rfl (kz198 Ln) rfl (by decide) ?_
                refine r_aload_n (pc' := 145) (kX11_qGoesOn_1 11 rfl) rfl rfl ?_
                refine s_get (x := (φ119 11 2 198)) (pc' := 148) (kX11_qGoesOn_1 12 rfl) rfl fkX11_233 rfl rfl rfl (kz198 Ln) rfl ?_
                refine r_iconst 1 (pc' := 149) (kX11_qGoesOn_1 13 rfl) rfl (by unfold inR; omega) ?_
                have g151 := h.1
                have h := h.2
                refine r_isub (pc' := 150) (kX11_qGoesOn_1 14 rfl) rfl g151 ?_
                have g152 := h.1
                have h := h.2
                refine s_iald (x := (α119 199 ((φ119 11 2 198) - 1))) (pc' := 151) (kX11_qGoesOn_1 15 rfl) rfl (kz199 Ln) g152 rfl ?_
                refine r_bipush 42 (pc' := 153) (kX11_qGoesOn_1 16 rfl) rfl ⟨by unfold inR; omega, rfl⟩ ?_
                refine r_icmp_ne (t := 160) (pc' := 156) (kX11_qGoesOn_1 17 rfl) rfl rfl (fun c153 => ?_) (fun c153 => ?_)
                · have h := h.1 c153
                  refine r_iconst 4 (pc' := 161) (kX11_qGoesOn_1 20 rfl) rfl (by unfold inR; omega) ?_
                  refine r_istore_n (L' := [(2, 198), (0, 4)]) (pc' := 162) (kX11_qGoesOn_1 21 rfl) rfl (Nat.le_of_ble_eq_true rfl) rfl ?_
                  exact r_weak (L' := [(2, 198), (0, 4)]) ⟨Or.inl rfl, Or.inl rfl, trivial⟩ (h Ln)
                · have h := h.2 c153
                  refine r_iconst 3 (pc' := 157) (kX11_qGoesOn_1 18 rfl) rfl (by unfold inR; omega) ?_
                  refine r_goto (pc' := 161) (kX11_qGoesOn_1 19 rfl) rfl ?_
                  refine r_istore_n (L' := [(2, 198), (0, 3)]) (pc' := 162) (kX11_qGoesOn_1 21 rfl) rfl (Nat.le_of_ble_eq_true rfl) rfl ?_
                  exact r_weak (L' := [(2, 198), (0, 3)]) ⟨Or.inl rfl, Or.inl rfl, trivial⟩ (h Ln)
          · have h := h.2 c113
            refine r_aload_n (pc' := 44) (kX11_qGoesOn_0 19 rfl) rfl rfl ?_
            refine r_dup (pc' := 45) (kX11_qGoesOn_0 20 rfl) rfl rfl ?_
            refine s_get (x := (φ112 11 2 198)) (pc' := 48) (kX11_qGoesOn_0 21 rfl) rfl fkX11_233 rfl rfl rfl (kz198 Ln) rfl ?_
            refine r_iconst 1 (pc' := 49) (kX11_qGoesOn_0 22 rfl) rfl (by unfold inR; omega) ?_
            have g154 := h.1
            have h := h.2
            refine r_iadd (pc' := 50) (kX11_qGoesOn_0 23 rfl) rfl g154 ?_
            refine s_put (pc' := 53) (kX11_qGoesOn_0 24 rfl) rfl fkX11_233 fnX11_2 rfl pk_int (kz198 Ln) ?_
            refine r_aload_n (pc' := 54) (kX11_qGoesOn_0 25 rfl) rfl rfl ?_
            refine s_callV (As := []) (o := 198) (S := []) (S2 := fun z => []) (pc' := 57) (kX11_qGoesOn_0 26 rfl) rfl rfl nkX11_qDropsToBracket mlX11_594 imX11_qDropsToBracket rfl slX11_qDropsToBracket rfl (Nat.le_of_ble_eq_true rfl) (Nat.le_of_ble_eq_true rfl) (kz198 Ln) h (fun z => rfl) (fun r155 φ155 α155 h => ?_)
            refine r_aload_n (pc' := 58) (kX11_qGoesOn_0 27 rfl) rfl rfl ?_
            refine r_dup (pc' := 59) (kX11_qGoesOn_0 28 rfl) rfl rfl ?_
            refine s_get (x := (φ155 11 90 198)) (pc' := 62) (kX11_qGoesOn_0 29 rfl) rfl fkX11_318 rfl rfl rfl (kz198 Ln) rfl ?_
            refine r_iconst 1 (pc' := 63) (kX11_qGoesOn_0 30 rfl) rfl (by unfold inR; omega) ?_
            have g156 := h.1
            have h := h.2
            refine r_isub (pc' := 64) (kX11_qGoesOn_0 31 rfl) rfl g156 ?_
            refine s_put (pc' := 67) (kX11_qGoesOn_0 32 rfl) rfl fkX11_318 fnX11_90 rfl pk_int (kz198 Ln) ?_
            refine r_aload_n (pc' := 68) (kX11_qGoesOn_0 33 rfl) rfl rfl ?_
            refine r_dup (pc' := 69) (kX11_qGoesOn_0 34 rfl) rfl rfl ?_
            refine s_get (x := (φ155 11 91 198)) (pc' := 72) (kX11_qGoesOn_0 35 rfl) rfl fkX11_321 rfl rfl rfl (kz198 Ln) rfl ?_
            refine r_iconst 1 (pc' := 73) (kX11_qGoesOn_0 36 rfl) rfl (by unfold inR; omega) ?_
            have g157 := h.1
            have h := h.2
            refine r_isub (pc' := 74) (kX11_qGoesOn_0 37 rfl) rfl g157 ?_
            refine s_put (pc' := 77) (kX11_qGoesOn_0 38 rfl) rfl fkX11_321 fnX11_91 rfl pk_int (kz198 Ln) ?_
            refine r_aload_n (pc' := 78) (kX11_qGoesOn_0 39 rfl) rfl rfl ?_
            refine s_getr (v := 264) (pc' := 81) (kX11_qGoesOn_0 40 rfl) rfl fkX11_215 rfl rfl (kz198 Ln) rfl (by decide) ?_
            refine r_aload_n (pc' := 82) (kX11_qGoesOn_0 41 rfl) rfl rfl ?_
            refine s_get (x := ((φ155 11 90 198) - 1)) (pc' := 85) (kX11_qGoesOn_0 42 rfl) rfl fkX11_318 rfl rfl rfl (kz198 Ln) (by simp [upf]) ?_
            have g158 := h.1
            have h := h.2
            refine s_iald (x := (α155 264 ((φ155 11 90 198) - 1))) (pc' := 86) (kX11_qGoesOn_0 43 rfl) rfl (kz264 Ln) g158 rfl ?_
            refine r_bipush 20 (pc' := 88) (kX11_qGoesOn_0 44 rfl) rfl ⟨by unfold inR; omega, rfl⟩ ?_
            refine r_icmp_eq (t := 115) (pc' := 91) (kX11_qGoesOn_0 45 rfl) rfl rfl (fun c159 => ?_) (fun c159 => ?_)
            · have h := h.1 c159
              refine r_aload_n (pc' := 116) (kX11_qGoesOn_0 58 rfl) rfl rfl ?_
              refine s_callV (As := []) (o := 198) (S := []) (S2 := fun z => []) (pc' := 119) (kX11_qGoesOn_0 59 rfl) rfl rfl nkX11_qEndsPart mlX11_588 imX11_qEndsPart rfl slX11_qEndsPart rfl (Nat.le_of_ble_eq_true rfl) (Nat.le_of_ble_eq_true rfl) (kz198 Ln) h (fun z => rfl) (fun r160 φ160 α160 h => ?_)
              refine r_goto (pc' := 0) (kX11_qGoesOn_1 0 rfl) rfl ?_
              exact r_weak (L' := [(2, 198), (9, 0)]) ⟨Or.inl rfl, Or.inr (by decide), trivial⟩ (h Ln)
            · have h := h.2 c159
              refine r_aload_n (pc' := 92) (kX11_qGoesOn_0 46 rfl) rfl rfl ?_
              refine r_aload_n (pc' := 93) (kX11_qGoesOn_0 47 rfl) rfl rfl ?_
              refine s_getr (v := 264) (pc' := 96) (kX11_qGoesOn_0 48 rfl) rfl fkX11_215 rfl rfl (kz198 Ln) rfl (by decide) ?_
              refine r_aload_n (pc' := 97) (kX11_qGoesOn_0 49 rfl) rfl rfl ?_
              refine s_get (x := ((φ155 11 90 198) - 1)) (pc' := 100) (kX11_qGoesOn_0 50 rfl) rfl fkX11_318 rfl rfl rfl (kz198 Ln) (by simp [upf]) ?_
              refine s_iald (x := (α155 264 ((φ155 11 90 198) - 1))) (pc' := 101) (kX11_qGoesOn_0 51 rfl) rfl (kz264 Ln) g158 rfl ?_
              refine r_bipush 23 (pc' := 103) (kX11_qGoesOn_0 52 rfl) rfl ⟨by unfold inR; omega, rfl⟩ ?_
              refine r_icmp_ne (t := 110) (pc' := 106) (kX11_qGoesOn_0 53 rfl) rfl rfl (fun c161 => ?_) (fun c161 => ?_)
              · have h := h.1 c161
                refine r_bipush 6 (pc' := 112) (kX11_qGoesOn_0 56 rfl) rfl ⟨by unfold inR; omega, rfl⟩ ?_
                refine s_callV (As := [(0, 6)]) (o := 198) (S := []) (S2 := fun z => []) (pc' := 115) (kX11_qGoesOn_0 57 rfl) rfl rfl nkX11_qCode mlX11_564 imX11_qCode rfl slX11_qCode rfl (Nat.le_of_ble_eq_true rfl) (Nat.le_of_ble_eq_true rfl) (kz198 Ln) h (fun z => rfl) (fun r162 φ162 α162 h => ?_)
                refine r_aload_n (pc' := 116) (kX11_qGoesOn_0 58 rfl) rfl rfl ?_
                refine s_callV (As := []) (o := 198) (S := []) (S2 := fun z => []) (pc' := 119) (kX11_qGoesOn_0 59 rfl) rfl rfl nkX11_qEndsPart mlX11_588 imX11_qEndsPart rfl slX11_qEndsPart rfl (Nat.le_of_ble_eq_true rfl) (Nat.le_of_ble_eq_true rfl) (kz198 Ln) h (fun z => rfl) (fun r163 φ163 α163 h => ?_)
                refine r_goto (pc' := 0) (kX11_qGoesOn_1 0 rfl) rfl ?_
                exact r_weak (L' := [(2, 198), (9, 0)]) ⟨Or.inl rfl, Or.inr (by decide), trivial⟩ (h Ln)
              · have h := h.2 c161
                refine r_iconst 5 (pc' := 107) (kX11_qGoesOn_0 54 rfl) rfl (by unfold inR; omega) ?_
                refine r_goto (pc' := 112) (kX11_qGoesOn_0 55 rfl) rfl ?_
                refine s_callV (As := [(0, 5)]) (o := 198) (S := []) (S2 := fun z => []) (pc' := 115) (kX11_qGoesOn_0 57 rfl) rfl rfl nkX11_qCode mlX11_564 imX11_qCode rfl slX11_qCode rfl (Nat.le_of_ble_eq_true rfl) (Nat.le_of_ble_eq_true rfl) (kz198 Ln) h (fun z => rfl) (fun r164 φ164 α164 h => ?_)
                refine r_aload_n (pc' := 116) (kX11_qGoesOn_0 58 rfl) rfl rfl ?_
                refine s_callV (As := []) (o := 198) (S := []) (S2 := fun z => []) (pc' := 119) (kX11_qGoesOn_0 59 rfl) rfl rfl nkX11_qEndsPart mlX11_588 imX11_qEndsPart rfl slX11_qEndsPart rfl (Nat.le_of_ble_eq_true rfl) (Nat.le_of_ble_eq_true rfl) (kz198 Ln) h (fun z => rfl) (fun r165 φ165 α165 h => ?_)
                refine r_goto (pc' := 0) (kX11_qGoesOn_1 0 rfl) rfl ?_
                exact r_weak (L' := [(2, 198), (9, 0)]) ⟨Or.inl rfl, Or.inr (by decide), trivial⟩ (h Ln)
theorem vX11_qGoesOn_162 {d : Nat} {φ : aF} {α : aA} {Q : Int → aF → aA → Prop} {x1 : Int} (h : (eX11_qIsOn d 3 φ α (fun r1 φ1 α1 =>
   ((¬ r1 = 0 →
   (eX11_qDrops d  φ1 α1 (fun r3 φ3 α3 =>
     (jX11_qGoesOn_162 (d + 1) x1 φ3 α3 Q)))) ∧
   (r1 = 0 →
   (eX11_qIsOn d 4 φ1 α1 (fun r4 φ4 α4 =>
     ((r4 = 0 →
     (0 ≤ (φ4 11 90 198) ∧ (φ4 11 90 198) < (1700 : Nat)) ∧ inR ((φ4 11 90 198) + 1) ∧ (Q 1 (upf φ4 11 90 198 ((φ4 11 90 198) + 1)) (upa α4 264 (φ4 11 90 198) x1))) ∧
     (¬ (r4 = 0) →
     (eX11_qDrops d  φ4 α4 (fun r8 φ8 α8 =>
       (jX11_qGoesOn_162 (d + 1) x1 φ8 α8 Q)))))))))))) : jX11_qGoesOn_162 (d + 1) x1 φ α Q := by
  intro Ln
  refine r_aload_n (pc' := 163) (kX11_qGoesOn_1 22 rfl) rfl rfl ?_
  refine r_iconst 3 (pc' := 164) (kX11_qGoesOn_1 23 rfl) rfl (by unfold inR; omega) ?_
  refine s_callV (As := [(0, 3)]) (o := 198) (S := []) (S2 := fun z => [(0, z)]) (pc' := 167) (kX11_qGoesOn_1 24 rfl) rfl rfl nkX11_qIsOn mlX11_597 imX11_qIsOn rfl slX11_qIsOn rfl (Nat.le_of_ble_eq_true rfl) (Nat.le_of_ble_eq_true rfl) (kz198 Ln) h (fun z => rfl) (fun r1 φ1 α1 h => ?_)
  refine r_if_ne (t := 178) (pc' := 170) (kX11_qGoesOn_1 25 rfl) rfl rfl (fun c2 => ?_) (fun c2 => ?_)
  · have h := h.1 c2
    refine r_aload_n (pc' := 179) (kX11_qGoesOn_1 30 rfl) rfl rfl ?_
    refine s_callV (As := []) (o := 198) (S := []) (S2 := fun z => []) (pc' := 182) (kX11_qGoesOn_1 31 rfl) rfl rfl nkX11_qDrops mlX11_570 imX11_qDrops rfl slX11_qDrops rfl (Nat.le_of_ble_eq_true rfl) (Nat.le_of_ble_eq_true rfl) (kz198 Ln) h (fun z => rfl) (fun r3 φ3 α3 h => ?_)
    refine r_goto (pc' := 162) (kX11_qGoesOn_1 32 rfl) rfl ?_
    exact r_weak (L' := [(2, 198), (0, x1)]) ⟨Or.inl rfl, Or.inl rfl, trivial⟩ (h Ln)
  · have h := h.2 c2
    refine r_aload_n (pc' := 171) (kX11_qGoesOn_1 26 rfl) rfl rfl ?_
    refine r_iconst 4 (pc' := 172) (kX11_qGoesOn_1 27 rfl) rfl (by unfold inR; omega) ?_
    refine s_callV (As := [(0, 4)]) (o := 198) (S := []) (S2 := fun z => [(0, z)]) (pc' := 175) (kX11_qGoesOn_1 28 rfl) rfl rfl nkX11_qIsOn mlX11_597 imX11_qIsOn rfl slX11_qIsOn rfl (Nat.le_of_ble_eq_true rfl) (Nat.le_of_ble_eq_true rfl) (kz198 Ln) h (fun z => rfl) (fun r4 φ4 α4 h => ?_)
    refine r_if_eq (t := 185) (pc' := 178) (kX11_qGoesOn_1 29 rfl) rfl rfl (fun c5 => ?_) (fun c5 => ?_)
    · have h := h.1 c5
      refine r_aload_n (pc' := 186) (kX11_qGoesOn_1 33 rfl) rfl rfl ?_
      refine s_getr (v := 264) (pc' := 189) (kX11_qGoesOn_1 34 rfl) rfl fkX11_215 rfl rfl (kz198 Ln) rfl (by decide) ?_
      refine r_aload_n (pc' := 190) (kX11_qGoesOn_1 35 rfl) rfl rfl ?_
      refine s_get (x := (φ4 11 90 198)) (pc' := 193) (kX11_qGoesOn_1 36 rfl) rfl fkX11_318 rfl rfl rfl (kz198 Ln) rfl ?_
      refine r_iload_n (pc' := 194) (kX11_qGoesOn_1 37 rfl) rfl rfl ?_
      have g6 := h.1
      have h := h.2
      refine s_iast (pc' := 195) (kX11_qGoesOn_1 38 rfl) rfl (kz264 Ln) g6 ?_
      refine r_aload_n (pc' := 196) (kX11_qGoesOn_1 39 rfl) rfl rfl ?_
      refine r_dup (pc' := 197) (kX11_qGoesOn_1 40 rfl) rfl rfl ?_
      refine s_get (x := (φ4 11 90 198)) (pc' := 200) (kX11_qGoesOn_1 41 rfl) rfl fkX11_318 rfl rfl rfl (kz198 Ln) rfl ?_
      refine r_iconst 1 (pc' := 201) (kX11_qGoesOn_1 42 rfl) rfl (by unfold inR; omega) ?_
      have g7 := h.1
      have h := h.2
      refine r_iadd (pc' := 202) (kX11_qGoesOn_1 43 rfl) rfl g7 ?_
      refine s_put (pc' := 205) (kX11_qGoesOn_1 44 rfl) rfl fkX11_318 fnX11_90 rfl pk_int (kz198 Ln) ?_
      refine r_iconst 1 (pc' := 206) (kX11_qGoesOn_1 45 rfl) rfl (by unfold inR; omega) ?_
      exact s_zret (kX11_qGoesOn_1 46 rfl) rfl (Or.inr rfl) h
    · have h := h.2 c5
      refine r_aload_n (pc' := 179) (kX11_qGoesOn_1 30 rfl) rfl rfl ?_
      refine s_callV (As := []) (o := 198) (S := []) (S2 := fun z => []) (pc' := 182) (kX11_qGoesOn_1 31 rfl) rfl rfl nkX11_qDrops mlX11_570 imX11_qDrops rfl slX11_qDrops rfl (Nat.le_of_ble_eq_true rfl) (Nat.le_of_ble_eq_true rfl) (kz198 Ln) h (fun z => rfl) (fun r8 φ8 α8 h => ?_)
      refine r_goto (pc' := 162) (kX11_qGoesOn_1 32 rfl) rfl ?_
      exact r_weak (L' := [(2, 198), (0, x1)]) ⟨Or.inl rfl, Or.inl rfl, trivial⟩ (h Ln)
theorem vX11_qGoesOn_247 {d : Nat} {φ : aF} {α : aA} {Q : Int → aF → aA → Prop} {x1 : Int} (h : (eX11_qIsOn d 3 φ α (fun r1 φ1 α1 =>
   ((¬ r1 = 0 →
   (eX11_qDrops d  φ1 α1 (fun r3 φ3 α3 =>
     (jX11_qGoesOn_247 (d + 1) x1 φ3 α3 Q)))) ∧
   (r1 = 0 →
   (eX11_qIsOn d 4 φ1 α1 (fun r4 φ4 α4 =>
     ((¬ r4 = 0 →
     (eX11_qDrops d  φ4 α4 (fun r6 φ6 α6 =>
       (jX11_qGoesOn_247 (d + 1) x1 φ6 α6 Q)))) ∧
     (r4 = 0 →
     (eX11_qIsOn d 1 φ4 α4 (fun r7 φ7 α7 =>
       ((¬ r7 = 0 →
       (eX11_qDrops d  φ7 α7 (fun r9 φ9 α9 =>
         (jX11_qGoesOn_247 (d + 1) x1 φ9 α9 Q)))) ∧
       (r7 = 0 →
       (eX11_qIsOn d 2 φ7 α7 (fun r10 φ10 α10 =>
         ((r10 = 0 →
         (0 ≤ (φ10 11 90 198) ∧ (φ10 11 90 198) < (1700 : Nat)) ∧ inR ((φ10 11 90 198) + 1) ∧ (Q 1 (upf φ10 11 90 198 ((φ10 11 90 198) + 1)) (upa α10 264 (φ10 11 90 198) x1))) ∧
         (¬ (r10 = 0) →
         (eX11_qDrops d  φ10 α10 (fun r14 φ14 α14 =>
           (jX11_qGoesOn_247 (d + 1) x1 φ14 α14 Q)))))))))))))))))))) : jX11_qGoesOn_247 (d + 1) x1 φ α Q := by
  intro Ln
  refine r_aload_n (pc' := 248) (kX11_qGoesOn_2 8 rfl) rfl rfl ?_
  refine r_iconst 3 (pc' := 249) (kX11_qGoesOn_2 9 rfl) rfl (by unfold inR; omega) ?_
  refine s_callV (As := [(0, 3)]) (o := 198) (S := []) (S2 := fun z => [(0, z)]) (pc' := 252) (kX11_qGoesOn_2 10 rfl) rfl rfl nkX11_qIsOn mlX11_597 imX11_qIsOn rfl slX11_qIsOn rfl (Nat.le_of_ble_eq_true rfl) (Nat.le_of_ble_eq_true rfl) (kz198 Ln) h (fun z => rfl) (fun r1 φ1 α1 h => ?_)
  refine r_if_ne (t := 279) (pc' := 255) (kX11_qGoesOn_2 11 rfl) rfl rfl (fun c2 => ?_) (fun c2 => ?_)
  · have h := h.1 c2
    refine r_aload_n (pc' := 280) (kX11_qGoesOn_2 24 rfl) rfl rfl ?_
    refine s_callV (As := []) (o := 198) (S := []) (S2 := fun z => []) (pc' := 283) (kX11_qGoesOn_2 25 rfl) rfl rfl nkX11_qDrops mlX11_570 imX11_qDrops rfl slX11_qDrops rfl (Nat.le_of_ble_eq_true rfl) (Nat.le_of_ble_eq_true rfl) (kz198 Ln) h (fun z => rfl) (fun r3 φ3 α3 h => ?_)
    refine r_goto (pc' := 247) (kX11_qGoesOn_2 26 rfl) rfl ?_
    exact r_weak (L' := [(2, 198), (0, x1)]) ⟨Or.inl rfl, Or.inl rfl, trivial⟩ (h Ln)
  · have h := h.2 c2
    refine r_aload_n (pc' := 256) (kX11_qGoesOn_2 12 rfl) rfl rfl ?_
    refine r_iconst 4 (pc' := 257) (kX11_qGoesOn_2 13 rfl) rfl (by unfold inR; omega) ?_
    refine s_callV (As := [(0, 4)]) (o := 198) (S := []) (S2 := fun z => [(0, z)]) (pc' := 260) (kX11_qGoesOn_2 14 rfl) rfl rfl nkX11_qIsOn mlX11_597 imX11_qIsOn rfl slX11_qIsOn rfl (Nat.le_of_ble_eq_true rfl) (Nat.le_of_ble_eq_true rfl) (kz198 Ln) h (fun z => rfl) (fun r4 φ4 α4 h => ?_)
    refine r_if_ne (t := 279) (pc' := 263) (kX11_qGoesOn_2 15 rfl) rfl rfl (fun c5 => ?_) (fun c5 => ?_)
    · have h := h.1 c5
      refine r_aload_n (pc' := 280) (kX11_qGoesOn_2 24 rfl) rfl rfl ?_
      refine s_callV (As := []) (o := 198) (S := []) (S2 := fun z => []) (pc' := 283) (kX11_qGoesOn_2 25 rfl) rfl rfl nkX11_qDrops mlX11_570 imX11_qDrops rfl slX11_qDrops rfl (Nat.le_of_ble_eq_true rfl) (Nat.le_of_ble_eq_true rfl) (kz198 Ln) h (fun z => rfl) (fun r6 φ6 α6 h => ?_)
      refine r_goto (pc' := 247) (kX11_qGoesOn_2 26 rfl) rfl ?_
      exact r_weak (L' := [(2, 198), (0, x1)]) ⟨Or.inl rfl, Or.inl rfl, trivial⟩ (h Ln)
    · have h := h.2 c5
      refine r_aload_n (pc' := 264) (kX11_qGoesOn_2 16 rfl) rfl rfl ?_
      refine r_iconst 1 (pc' := 265) (kX11_qGoesOn_2 17 rfl) rfl (by unfold inR; omega) ?_
      refine s_callV (As := [(0, 1)]) (o := 198) (S := []) (S2 := fun z => [(0, z)]) (pc' := 268) (kX11_qGoesOn_2 18 rfl) rfl rfl nkX11_qIsOn mlX11_597 imX11_qIsOn rfl slX11_qIsOn rfl (Nat.le_of_ble_eq_true rfl) (Nat.le_of_ble_eq_true rfl) (kz198 Ln) h (fun z => rfl) (fun r7 φ7 α7 h => ?_)
      refine r_if_ne (t := 279) (pc' := 271) (kX11_qGoesOn_2 19 rfl) rfl rfl (fun c8 => ?_) (fun c8 => ?_)
      · have h := h.1 c8
        refine r_aload_n (pc' := 280) (kX11_qGoesOn_2 24 rfl) rfl rfl ?_
        refine s_callV (As := []) (o := 198) (S := []) (S2 := fun z => []) (pc' := 283) (kX11_qGoesOn_2 25 rfl) rfl rfl nkX11_qDrops mlX11_570 imX11_qDrops rfl slX11_qDrops rfl (Nat.le_of_ble_eq_true rfl) (Nat.le_of_ble_eq_true rfl) (kz198 Ln) h (fun z => rfl) (fun r9 φ9 α9 h => ?_)
        refine r_goto (pc' := 247) (kX11_qGoesOn_2 26 rfl) rfl ?_
        exact r_weak (L' := [(2, 198), (0, x1)]) ⟨Or.inl rfl, Or.inl rfl, trivial⟩ (h Ln)
      · have h := h.2 c8
        refine r_aload_n (pc' := 272) (kX11_qGoesOn_2 20 rfl) rfl rfl ?_
        refine r_iconst 2 (pc' := 273) (kX11_qGoesOn_2 21 rfl) rfl (by unfold inR; omega) ?_
        refine s_callV (As := [(0, 2)]) (o := 198) (S := []) (S2 := fun z => [(0, z)]) (pc' := 276) (kX11_qGoesOn_2 22 rfl) rfl rfl nkX11_qIsOn mlX11_597 imX11_qIsOn rfl slX11_qIsOn rfl (Nat.le_of_ble_eq_true rfl) (Nat.le_of_ble_eq_true rfl) (kz198 Ln) h (fun z => rfl) (fun r10 φ10 α10 h => ?_)
        refine r_if_eq (t := 286) (pc' := 279) (kX11_qGoesOn_2 23 rfl) rfl rfl (fun c11 => ?_) (fun c11 => ?_)
        · have h := h.1 c11
          refine r_aload_n (pc' := 287) (kX11_qGoesOn_2 27 rfl) rfl rfl ?_
          refine s_getr (v := 264) (pc' := 290) (kX11_qGoesOn_2 28 rfl) rfl fkX11_215 rfl rfl (kz198 Ln) rfl (by decide) ?_
          refine r_aload_n (pc' := 291) (kX11_qGoesOn_2 29 rfl) rfl rfl ?_
          refine s_get (x := (φ10 11 90 198)) (pc' := 294) (kX11_qGoesOn_2 30 rfl) rfl fkX11_318 rfl rfl rfl (kz198 Ln) rfl ?_
          refine r_iload_n (pc' := 295) (kX11_qGoesOn_2 31 rfl) rfl rfl ?_
          have g12 := h.1
          have h := h.2
          refine s_iast (pc' := 296) (kX11_qGoesOn_2 32 rfl) rfl (kz264 Ln) g12 ?_
          refine r_aload_n (pc' := 297) (kX11_qGoesOn_2 33 rfl) rfl rfl ?_
          refine r_dup (pc' := 298) (kX11_qGoesOn_2 34 rfl) rfl rfl ?_
          refine s_get (x := (φ10 11 90 198)) (pc' := 301) (kX11_qGoesOn_2 35 rfl) rfl fkX11_318 rfl rfl rfl (kz198 Ln) rfl ?_
          refine r_iconst 1 (pc' := 302) (kX11_qGoesOn_2 36 rfl) rfl (by unfold inR; omega) ?_
          have g13 := h.1
          have h := h.2
          refine r_iadd (pc' := 303) (kX11_qGoesOn_2 37 rfl) rfl g13 ?_
          refine s_put (pc' := 306) (kX11_qGoesOn_2 38 rfl) rfl fkX11_318 fnX11_90 rfl pk_int (kz198 Ln) ?_
          refine r_iconst 1 (pc' := 307) (kX11_qGoesOn_2 39 rfl) rfl (by unfold inR; omega) ?_
          exact s_zret (kX11_qGoesOn_2 40 rfl) rfl (Or.inr rfl) h
        · have h := h.2 c11
          refine r_aload_n (pc' := 280) (kX11_qGoesOn_2 24 rfl) rfl rfl ?_
          refine s_callV (As := []) (o := 198) (S := []) (S2 := fun z => []) (pc' := 283) (kX11_qGoesOn_2 25 rfl) rfl rfl nkX11_qDrops mlX11_570 imX11_qDrops rfl slX11_qDrops rfl (Nat.le_of_ble_eq_true rfl) (Nat.le_of_ble_eq_true rfl) (kz198 Ln) h (fun z => rfl) (fun r14 φ14 α14 h => ?_)
          refine r_goto (pc' := 247) (kX11_qGoesOn_2 26 rfl) rfl ?_
          exact r_weak (L' := [(2, 198), (0, x1)]) ⟨Or.inl rfl, Or.inl rfl, trivial⟩ (h Ln)
abbrev jX11_qSums_15 (d : Nat) (x1 x2 : Int) (φ : aF) (α : aA) (Q : Int → aF → aA → Prop) : Prop := R0 d mX11_qSums 15 [(2, 198), (0, x1), (0, x2)] [] φ α Q
theorem vX11_qSums_0 {d : Nat} {φ : aF} {α : aA} {Q : Int → aF → aA → Prop} (h : (jX11_qSums_15 (d + 1) (φ 11 92 198) 1 (upf φ 11 92 198 (φ 11 90 198)) α Q)) : eX11_qSums (d + 1)  φ α Q := by
  intro Ln
  refine r_aload_n (pc' := 1) (kX11_qSums_0 0 rfl) rfl rfl ?_
  refine s_get (x := (φ 11 92 198)) (pc' := 4) (kX11_qSums_0 1 rfl) rfl fkX11_324 rfl rfl rfl (kz198 Ln) rfl ?_
  refine r_istore_n (L' := [(2, 198), (0, (φ 11 92 198)), (9, 0)]) (pc' := 5) (kX11_qSums_0 2 rfl) rfl (Nat.le_of_ble_eq_true rfl) rfl ?_
  refine r_aload_n (pc' := 6) (kX11_qSums_0 3 rfl) rfl rfl ?_
  refine r_aload_n (pc' := 7) (kX11_qSums_0 4 rfl) rfl rfl ?_
  refine s_get (x := (φ 11 90 198)) (pc' := 10) (kX11_qSums_0 5 rfl) rfl fkX11_318 rfl rfl rfl (kz198 Ln) rfl ?_
  refine s_put (pc' := 13) (kX11_qSums_0 6 rfl) rfl fkX11_324 fnX11_92 rfl pk_int (kz198 Ln) ?_
  refine r_iconst 1 (pc' := 14) (kX11_qSums_0 7 rfl) rfl (by unfold inR; omega) ?_
  refine r_istore_n (L' := [(2, 198), (0, (φ 11 92 198)), (0, 1)]) (pc' := 15) (kX11_qSums_0 8 rfl) rfl (Nat.le_of_ble_eq_true rfl) rfl ?_
  exact r_weak (L' := [(2, 198), (0, (φ 11 92 198)), (0, 1)]) ⟨Or.inl rfl, Or.inl rfl, Or.inl rfl, trivial⟩ (h Ln)
abbrev jX11_qSums_53 (d : Nat) (x1 : Int) (φ : aF) (α : aA) (Q : Int → aF → aA → Prop) : Prop := R0 d mX11_qSums 53 [(2, 198), (0, x1), (9, 0)] [] φ α Q
theorem vX11_qSums_15 {d : Nat} {φ : aF} {α : aA} {Q : Int → aF → aA → Prop} {x1 : Int} {x2 : Int} (h : ((x2 = 0 →
   (jX11_qSums_53 (d + 1) x1 φ α Q)) ∧
   (¬ (x2 = 0) →
   ((¬ (φ 11 5 198) = 0 →
     (jX11_qSums_53 (d + 1) x1 φ α Q)) ∧
     ((φ 11 5 198) = 0 →
     (eX11_qPartTold d  φ α (fun r3 φ3 α3 =>
       ((¬ (φ3 11 5 198) = 0 →
       (jX11_qSums_15 (d + 1) x1 0 φ3 α3 Q)) ∧
       ((φ3 11 5 198) = 0 →
       (eX11_qGoesOn d  φ3 α3 (fun r5 φ5 α5 =>
         ((r5 = 0 →
         (jX11_qSums_15 (d + 1) x1 0 φ5 α5 Q)) ∧
         (¬ (r5 = 0) →
         (jX11_qSums_15 (d + 1) x1 1 φ5 α5 Q)))))))))))))) : jX11_qSums_15 (d + 1) x1 x2 φ α Q := by
  intro Ln
  refine r_iload_n (pc' := 16) (kX11_qSums_0 9 rfl) rfl rfl ?_
  refine r_if_eq (t := 53) (pc' := 19) (kX11_qSums_0 10 rfl) rfl rfl (fun c1 => ?_) (fun c1 => ?_)
  · have h := h.1 c1
    exact r_weak (L' := [(2, 198), (0, x1), (9, 0)]) ⟨Or.inl rfl, Or.inl rfl, Or.inr (by decide), trivial⟩ (h Ln)
  · have h := h.2 c1
    refine r_aload_n (pc' := 20) (kX11_qSums_0 11 rfl) rfl rfl ?_
    refine s_get (x := (φ 11 5 198)) (pc' := 23) (kX11_qSums_0 12 rfl) rfl fkX11_227 rfl rfl rfl (kz198 Ln) rfl ?_
    refine r_if_ne (t := 53) (pc' := 26) (kX11_qSums_0 13 rfl) rfl rfl (fun c2 => ?_) (fun c2 => ?_)
    · have h := h.1 c2
      exact r_weak (L' := [(2, 198), (0, x1), (9, 0)]) ⟨Or.inl rfl, Or.inl rfl, Or.inr (by decide), trivial⟩ (h Ln)
    · have h := h.2 c2
      refine r_aload_n (pc' := 27) (kX11_qSums_0 14 rfl) rfl rfl ?_
      refine s_callV (As := []) (o := 198) (S := []) (S2 := fun z => []) (pc' := 30) (kX11_qSums_0 15 rfl) rfl rfl nkX11_qPartTold mlX11_600 imX11_qPartTold rfl slX11_qPartTold rfl (Nat.le_of_ble_eq_true rfl) (Nat.le_of_ble_eq_true rfl) (kz198 Ln) h (fun z => rfl) (fun r3 φ3 α3 h => ?_)
      refine r_aload_n (pc' := 31) (kX11_qSums_0 16 rfl) rfl rfl ?_
      refine s_get (x := (φ3 11 5 198)) (pc' := 34) (kX11_qSums_0 17 rfl) rfl fkX11_227 rfl rfl rfl (kz198 Ln) rfl ?_
      refine r_if_ne (t := 48) (pc' := 37) (kX11_qSums_0 18 rfl) rfl rfl (fun c4 => ?_) (fun c4 => ?_)
      · have h := h.1 c4
        refine r_iconst 0 (pc' := 49) (kX11_qSums_0 24 rfl) rfl (by unfold inR; omega) ?_
        refine r_istore_n (L' := [(2, 198), (0, x1), (0, 0)]) (pc' := 50) (kX11_qSums_0 25 rfl) rfl (Nat.le_of_ble_eq_true rfl) rfl ?_
        refine r_goto (pc' := 15) (kX11_qSums_0 26 rfl) rfl ?_
        exact r_weak (L' := [(2, 198), (0, x1), (0, 0)]) ⟨Or.inl rfl, Or.inl rfl, Or.inl rfl, trivial⟩ (h Ln)
      · have h := h.2 c4
        refine r_aload_n (pc' := 38) (kX11_qSums_0 19 rfl) rfl rfl ?_
        refine s_callV (As := []) (o := 198) (S := []) (S2 := fun z => [(0, z)]) (pc' := 41) (kX11_qSums_0 20 rfl) rfl rfl nkX11_qGoesOn mlX11_603 imX11_qGoesOn rfl slX11_qGoesOn rfl (Nat.le_of_ble_eq_true rfl) (Nat.le_of_ble_eq_true rfl) (kz198 Ln) h (fun z => rfl) (fun r5 φ5 α5 h => ?_)
        refine r_if_eq (t := 48) (pc' := 44) (kX11_qSums_0 21 rfl) rfl rfl (fun c6 => ?_) (fun c6 => ?_)
        · have h := h.1 c6
          refine r_iconst 0 (pc' := 49) (kX11_qSums_0 24 rfl) rfl (by unfold inR; omega) ?_
          refine r_istore_n (L' := [(2, 198), (0, x1), (0, 0)]) (pc' := 50) (kX11_qSums_0 25 rfl) rfl (Nat.le_of_ble_eq_true rfl) rfl ?_
          refine r_goto (pc' := 15) (kX11_qSums_0 26 rfl) rfl ?_
          exact r_weak (L' := [(2, 198), (0, x1), (0, 0)]) ⟨Or.inl rfl, Or.inl rfl, Or.inl rfl, trivial⟩ (h Ln)
        · have h := h.2 c6
          refine r_iconst 1 (pc' := 45) (kX11_qSums_0 22 rfl) rfl (by unfold inR; omega) ?_
          refine r_goto (pc' := 49) (kX11_qSums_0 23 rfl) rfl ?_
          refine r_istore_n (L' := [(2, 198), (0, x1), (0, 1)]) (pc' := 50) (kX11_qSums_0 25 rfl) rfl (Nat.le_of_ble_eq_true rfl) rfl ?_
          refine r_goto (pc' := 15) (kX11_qSums_0 26 rfl) rfl ?_
          exact r_weak (L' := [(2, 198), (0, x1), (0, 1)]) ⟨Or.inl rfl, Or.inl rfl, Or.inl rfl, trivial⟩ (h Ln)
theorem vX11_qSums_53 {d : Nat} {φ : aF} {α : aA} {Q : Int → aF → aA → Prop} {x1 : Int} (h : ((¬ (φ 11 5 198) = 0 →
   (Q 0 (upf φ 11 92 198 x1) α)) ∧
   ((φ 11 5 198) = 0 →
   (((φ 11 90 198) ≤ (φ 11 92 198) →
     (Q 0 (upf φ 11 92 198 x1) α)) ∧
     (¬ ((φ 11 90 198) ≤ (φ 11 92 198)) →
     (eX11_qDrops d  φ α (fun r3 φ3 α3 =>
       (jX11_qSums_53 (d + 1) x1 φ3 α3 Q)))))))) : jX11_qSums_53 (d + 1) x1 φ α Q := by
  intro Ln
  refine r_aload_n (pc' := 54) (kX11_qSums_0 27 rfl) rfl rfl ?_
  refine s_get (x := (φ 11 5 198)) (pc' := 57) (kX11_qSums_0 28 rfl) rfl fkX11_227 rfl rfl rfl (kz198 Ln) rfl ?_
  refine r_if_ne (t := 78) (pc' := 60) (kX11_qSums_0 29 rfl) rfl rfl (fun c1 => ?_) (fun c1 => ?_)
  · have h := h.1 c1
    refine r_aload_n (pc' := 79) (kX11_qSums_0 38 rfl) rfl rfl ?_
    refine r_iload_n (pc' := 80) (kX11_qSums_0 39 rfl) rfl rfl ?_
    refine s_put (pc' := 83) (kX11_qSums_0 40 rfl) rfl fkX11_324 fnX11_92 rfl pk_int (kz198 Ln) ?_
    exact s_vret (kX11_qSums_0 41 rfl) rfl h
  · have h := h.2 c1
    refine r_aload_n (pc' := 61) (kX11_qSums_0 30 rfl) rfl rfl ?_
    refine s_get (x := (φ 11 90 198)) (pc' := 64) (kX11_qSums_0 31 rfl) rfl fkX11_318 rfl rfl rfl (kz198 Ln) rfl ?_
    refine r_aload_n (pc' := 65) (kX11_qSums_0 32 rfl) rfl rfl ?_
    refine s_get (x := (φ 11 92 198)) (pc' := 68) (kX11_qSums_0 33 rfl) rfl fkX11_324 rfl rfl rfl (kz198 Ln) rfl ?_
    refine r_icmp_le (t := 78) (pc' := 71) (kX11_qSums_0 34 rfl) rfl rfl (fun c2 => ?_) (fun c2 => ?_)
    · have h := h.1 c2
      refine r_aload_n (pc' := 79) (kX11_qSums_0 38 rfl) rfl rfl ?_
      refine r_iload_n (pc' := 80) (kX11_qSums_0 39 rfl) rfl rfl ?_
      refine s_put (pc' := 83) (kX11_qSums_0 40 rfl) rfl fkX11_324 fnX11_92 rfl pk_int (kz198 Ln) ?_
      exact s_vret (kX11_qSums_0 41 rfl) rfl h
    · have h := h.2 c2
      refine r_aload_n (pc' := 72) (kX11_qSums_0 35 rfl) rfl rfl ?_
      refine s_callV (As := []) (o := 198) (S := []) (S2 := fun z => []) (pc' := 75) (kX11_qSums_0 36 rfl) rfl rfl nkX11_qDrops mlX11_570 imX11_qDrops rfl slX11_qDrops rfl (Nat.le_of_ble_eq_true rfl) (Nat.le_of_ble_eq_true rfl) (kz198 Ln) h (fun z => rfl) (fun r3 φ3 α3 h => ?_)
      refine r_goto (pc' := 53) (kX11_qSums_0 37 rfl) rfl ?_
      exact r_weak (L' := [(2, 198), (0, x1), (9, 0)]) ⟨Or.inl rfl, Or.inl rfl, Or.inr (by decide), trivial⟩ (h Ln)
theorem vX11_qFact_0 {d : Nat} {φ : aF} {α : aA} {Q : Int → aF → aA → Prop} (h : (eX11_takes d 248 φ α (fun r1 φ1 α1 =>
   ((r1 = 0 →
   (eX11_qSums d  φ1 α1 (fun r3 φ3 α3 =>
     (((φ3 11 5 198) = 0 →
     (eX11_look d  φ3 α3 (fun r5 φ5 α5 =>
       ((r5 = 60 →
       inR ((φ5 11 2 198) + 1) ∧ (eX11_qSums d  (upf φ5 11 2 198 ((φ5 11 2 198) + 1)) α5 (fun r8 φ8 α8 =>
         (eX11_qCode d 7 φ8 α8 (fun r9 φ9 α9 =>
         (Q 0 φ9 α9)))))) ∧
       (¬ (r5 = 60) →
       ((r5 = 62 →
         inR ((φ5 11 2 198) + 1) ∧ (eX11_qSums d  (upf φ5 11 2 198 ((φ5 11 2 198) + 1)) α5 (fun r12 φ12 α12 =>
           ((¬ r5 = 60 →
           (eX11_qCode d 8 φ12 α12 (fun r14 φ14 α14 =>
             (Q 0 φ14 α14)))) ∧
           (r5 = 60 →
           (eX11_qCode d 7 φ12 α12 (fun r15 φ15 α15 =>
             (Q 0 φ15 α15)))))))) ∧
         (¬ (r5 = 62) →
         ((r5 = 61 →
           inR ((φ5 11 2 198) + 1) ∧ (eX11_qSums d  (upf φ5 11 2 198 ((φ5 11 2 198) + 1)) α5 (fun r18 φ18 α18 =>
             ((¬ r5 = 60 →
             ((¬ r5 = 62 →
               (eX11_qCode d 9 φ18 α18 (fun r21 φ21 α21 =>
                 (Q 0 φ21 α21)))) ∧
               (r5 = 62 →
               (eX11_qCode d 8 φ18 α18 (fun r22 φ22 α22 =>
                 (Q 0 φ22 α22)))))) ∧
             (r5 = 60 →
             (eX11_qCode d 7 φ18 α18 (fun r23 φ23 α23 =>
               (Q 0 φ23 α23)))))))) ∧
           (¬ (r5 = 61) →
           (eX11_fail d 1 (φ5 11 2 198) φ5 α5 (fun r24 φ24 α24 =>
             (Q 0 φ24 α24)))))))))))) ∧
     (¬ ((φ3 11 5 198) = 0) →
     (Q 0 φ3 α3)))))) ∧
   (¬ (r1 = 0) →
   (eX11_qCode d 13 φ1 α1 (fun r25 φ25 α25 =>
     (Q 0 φ25 α25)))))))) : eX11_qFact (d + 1)  φ α Q := by
  intro Ln
  refine r_aload_n (pc' := 1) (kX11_qFact_0 0 rfl) rfl rfl ?_
  refine r_aload_n (pc' := 2) (kX11_qFact_0 1 rfl) rfl rfl ?_
  refine s_getr (v := 248) (pc' := 5) (kX11_qFact_0 2 rfl) rfl fkX11_167 rfl rfl (kz198 Ln) rfl (by decide) ?_
  refine s_callV (As := [(2, 248)]) (o := 198) (S := []) (S2 := fun z => [(0, z)]) (pc' := 8) (kX11_qFact_0 3 rfl) rfl rfl nkX11_takes mlX11_254 imX11_takes rfl slX11_takes rfl (Nat.le_of_ble_eq_true rfl) (Nat.le_of_ble_eq_true rfl) (kz198 Ln) h (fun z => rfl) (fun r1 φ1 α1 h => ?_)
  refine r_if_eq (t := 18) (pc' := 11) (kX11_qFact_0 4 rfl) rfl rfl (fun c2 => ?_) (fun c2 => ?_)
  · have h := h.1 c2
    refine r_aload_n (pc' := 19) (kX11_qFact_0 9 rfl) rfl rfl ?_
    refine s_callV (As := []) (o := 198) (S := []) (S2 := fun z => []) (pc' := 22) (kX11_qFact_0 10 rfl) rfl rfl nkX11_qSums mlX11_330 imX11_qSums rfl slX11_qSums rfl (Nat.le_of_ble_eq_true rfl) (Nat.le_of_ble_eq_true rfl) (kz198 Ln) h (fun z => rfl) (fun r3 φ3 α3 h => ?_)
    refine r_aload_n (pc' := 23) (kX11_qFact_0 11 rfl) rfl rfl ?_
    refine s_get (x := (φ3 11 5 198)) (pc' := 26) (kX11_qFact_0 12 rfl) rfl fkX11_227 rfl rfl rfl (kz198 Ln) rfl ?_
    refine r_if_eq (t := 30) (pc' := 29) (kX11_qFact_0 13 rfl) rfl rfl (fun c4 => ?_) (fun c4 => ?_)
    · have h := h.1 c4
      refine r_aload_n (pc' := 31) (kX11_qFact_0 15 rfl) rfl rfl ?_
      refine s_callV (As := []) (o := 198) (S := []) (S2 := fun z => [(0, z)]) (pc' := 34) (kX11_qFact_0 16 rfl) rfl rfl nkX11_look mlX11_239 imX11_look rfl slX11_look rfl (Nat.le_of_ble_eq_true rfl) (Nat.le_of_ble_eq_true rfl) (kz198 Ln) h (fun z => rfl) (fun r5 φ5 α5 h => ?_)
      refine r_istore_n (L' := [(2, 198), (0, r5)]) (pc' := 35) (kX11_qFact_0 17 rfl) rfl (Nat.le_of_ble_eq_true rfl) rfl ?_
      refine r_iload_n (pc' := 36) (kX11_qFact_0 18 rfl) rfl rfl ?_
      refine r_bipush 60 (pc' := 38) (kX11_qFact_0 19 rfl) rfl ⟨by unfold inR; omega, rfl⟩ ?_
      refine r_icmp_eq (t := 63) (pc' := 41) (kX11_qFact_0 20 rfl) rfl rfl (fun c6 => ?_) (fun c6 => ?_)
      · have h := h.1 c6
        refine r_aload_n (pc' := 64) (kX11_qFact_0 33 rfl) rfl rfl ?_
        refine r_dup (pc' := 65) (kX11_qFact_0 34 rfl) rfl rfl ?_
        refine s_get (x := (φ5 11 2 198)) (pc' := 68) (kX11_qFact_0 35 rfl) rfl fkX11_233 rfl rfl rfl (kz198 Ln) rfl ?_
        refine r_iconst 1 (pc' := 69) (kX11_qFact_0 36 rfl) rfl (by unfold inR; omega) ?_
        have g7 := h.1
        have h := h.2
        refine r_iadd (pc' := 70) (kX11_qFact_0 37 rfl) rfl g7 ?_
        refine s_put (pc' := 73) (kX11_qFact_0 38 rfl) rfl fkX11_233 fnX11_2 rfl pk_int (kz198 Ln) ?_
        refine r_aload_n (pc' := 74) (kX11_qFact_0 39 rfl) rfl rfl ?_
        refine s_callV (As := []) (o := 198) (S := []) (S2 := fun z => []) (pc' := 77) (kX11_qFact_0 40 rfl) rfl rfl nkX11_qSums mlX11_330 imX11_qSums rfl slX11_qSums rfl (Nat.le_of_ble_eq_true rfl) (Nat.le_of_ble_eq_true rfl) (kz198 Ln) h (fun z => rfl) (fun r8 φ8 α8 h => ?_)
        refine r_aload_n (pc' := 78) (kX11_qFact_0 41 rfl) rfl rfl ?_
        refine r_iload_n (pc' := 79) (kX11_qFact_0 42 rfl) rfl rfl ?_
        refine r_bipush 60 (pc' := 81) (kX11_qFact_0 43 rfl) rfl ⟨by unfold inR; omega, rfl⟩ ?_
        refine r_icmp_ne (t := 89) (pc' := 84) (kX11_qFact_0 44 rfl) rfl rfl (fun cz => absurd c6 cz) (fun _ => ?_)
        refine r_bipush 7 (pc' := 86) (kX11_qFact_0 45 rfl) rfl ⟨by unfold inR; omega, rfl⟩ ?_
        refine r_goto (pc' := 102) (kX11_qFact_0 46 rfl) rfl ?_
        refine s_callV (As := [(0, 7)]) (o := 198) (S := []) (S2 := fun z => []) (pc' := 105) (kX11_qFact_0 53 rfl) rfl rfl nkX11_qCode mlX11_564 imX11_qCode rfl slX11_qCode rfl (Nat.le_of_ble_eq_true rfl) (Nat.le_of_ble_eq_true rfl) (kz198 Ln) h (fun z => rfl) (fun r9 φ9 α9 h => ?_)
        exact s_vret (kX11_qFact_0 54 rfl) rfl h
      · have h := h.2 c6
        refine r_iload_n (pc' := 42) (kX11_qFact_0 21 rfl) rfl rfl ?_
        refine r_bipush 62 (pc' := 44) (kX11_qFact_0 22 rfl) rfl ⟨by unfold inR; omega, rfl⟩ ?_
        refine r_icmp_eq (t := 63) (pc' := 47) (kX11_qFact_0 23 rfl) rfl rfl (fun c10 => ?_) (fun c10 => ?_)
        · have h := h.1 c10
          refine r_aload_n (pc' := 64) (kX11_qFact_0 33 rfl) rfl rfl ?_
          refine r_dup (pc' := 65) (kX11_qFact_0 34 rfl) rfl rfl ?_
          refine s_get (x := (φ5 11 2 198)) (pc' := 68) (kX11_qFact_0 35 rfl) rfl fkX11_233 rfl rfl rfl (kz198 Ln) rfl ?_
          refine r_iconst 1 (pc' := 69) (kX11_qFact_0 36 rfl) rfl (by unfold inR; omega) ?_
          have g11 := h.1
          have h := h.2
          refine r_iadd (pc' := 70) (kX11_qFact_0 37 rfl) rfl g11 ?_
          refine s_put (pc' := 73) (kX11_qFact_0 38 rfl) rfl fkX11_233 fnX11_2 rfl pk_int (kz198 Ln) ?_
          refine r_aload_n (pc' := 74) (kX11_qFact_0 39 rfl) rfl rfl ?_
          refine s_callV (As := []) (o := 198) (S := []) (S2 := fun z => []) (pc' := 77) (kX11_qFact_0 40 rfl) rfl rfl nkX11_qSums mlX11_330 imX11_qSums rfl slX11_qSums rfl (Nat.le_of_ble_eq_true rfl) (Nat.le_of_ble_eq_true rfl) (kz198 Ln) h (fun z => rfl) (fun r12 φ12 α12 h => ?_)
          refine r_aload_n (pc' := 78) (kX11_qFact_0 41 rfl) rfl rfl ?_
          refine r_iload_n (pc' := 79) (kX11_qFact_0 42 rfl) rfl rfl ?_
          refine r_bipush 60 (pc' := 81) (kX11_qFact_0 43 rfl) rfl ⟨by unfold inR; omega, rfl⟩ ?_
          refine r_icmp_ne (t := 89) (pc' := 84) (kX11_qFact_0 44 rfl) rfl rfl (fun c13 => ?_) (fun c13 => ?_)
          · have h := h.1 c13
            refine r_iload_n (pc' := 90) (kX11_qFact_0 47 rfl) rfl rfl ?_
            refine r_bipush 62 (pc' := 92) (kX11_qFact_0 48 rfl) rfl ⟨by unfold inR; omega, rfl⟩ ?_
            refine r_icmp_ne (t := 100) (pc' := 95) (kX11_qFact_0 49 rfl) rfl rfl (fun cz => absurd c10 cz) (fun _ => ?_)
            refine r_bipush 8 (pc' := 97) (kX11_qFact_0 50 rfl) rfl ⟨by unfold inR; omega, rfl⟩ ?_
            refine r_goto (pc' := 102) (kX11_qFact_0 51 rfl) rfl ?_
            refine s_callV (As := [(0, 8)]) (o := 198) (S := []) (S2 := fun z => []) (pc' := 105) (kX11_qFact_0 53 rfl) rfl rfl nkX11_qCode mlX11_564 imX11_qCode rfl slX11_qCode rfl (Nat.le_of_ble_eq_true rfl) (Nat.le_of_ble_eq_true rfl) (kz198 Ln) h (fun z => rfl) (fun r14 φ14 α14 h => ?_)
            exact s_vret (kX11_qFact_0 54 rfl) rfl h
          · have h := h.2 c13
            refine r_bipush 7 (pc' := 86) (kX11_qFact_0 45 rfl) rfl ⟨by unfold inR; omega, rfl⟩ ?_
            refine r_goto (pc' := 102) (kX11_qFact_0 46 rfl) rfl ?_
            refine s_callV (As := [(0, 7)]) (o := 198) (S := []) (S2 := fun z => []) (pc' := 105) (kX11_qFact_0 53 rfl) rfl rfl nkX11_qCode mlX11_564 imX11_qCode rfl slX11_qCode rfl (Nat.le_of_ble_eq_true rfl) (Nat.le_of_ble_eq_true rfl) (kz198 Ln) h (fun z => rfl) (fun r15 φ15 α15 h => ?_)
            exact s_vret (kX11_qFact_0 54 rfl) rfl h
        · have h := h.2 c10
          refine r_iload_n (pc' := 48) (kX11_qFact_0 24 rfl) rfl rfl ?_
          refine r_bipush 61 (pc' := 50) (kX11_qFact_0 25 rfl) rfl ⟨by unfold inR; omega, rfl⟩ ?_
          refine r_icmp_eq (t := 63) (pc' := 53) (kX11_qFact_0 26 rfl) rfl rfl (fun c16 => ?_) (fun c16 => ?_)
          · have h := h.1 c16
            refine r_aload_n (pc' := 64) (kX11_qFact_0 33 rfl) rfl rfl ?_
            refine r_dup (pc' := 65) (kX11_qFact_0 34 rfl) rfl rfl ?_
            refine s_get (x := (φ5 11 2 198)) (pc' := 68) (kX11_qFact_0 35 rfl) rfl fkX11_233 rfl rfl rfl (kz198 Ln) rfl ?_
            refine r_iconst 1 (pc' := 69) (kX11_qFact_0 36 rfl) rfl (by unfold inR; omega) ?_
            have g17 := h.1
            have h := h.2
            refine r_iadd (pc' := 70) (kX11_qFact_0 37 rfl) rfl g17 ?_
            refine s_put (pc' := 73) (kX11_qFact_0 38 rfl) rfl fkX11_233 fnX11_2 rfl pk_int (kz198 Ln) ?_
            refine r_aload_n (pc' := 74) (kX11_qFact_0 39 rfl) rfl rfl ?_
            refine s_callV (As := []) (o := 198) (S := []) (S2 := fun z => []) (pc' := 77) (kX11_qFact_0 40 rfl) rfl rfl nkX11_qSums mlX11_330 imX11_qSums rfl slX11_qSums rfl (Nat.le_of_ble_eq_true rfl) (Nat.le_of_ble_eq_true rfl) (kz198 Ln) h (fun z => rfl) (fun r18 φ18 α18 h => ?_)
            refine r_aload_n (pc' := 78) (kX11_qFact_0 41 rfl) rfl rfl ?_
            refine r_iload_n (pc' := 79) (kX11_qFact_0 42 rfl) rfl rfl ?_
            refine r_bipush 60 (pc' := 81) (kX11_qFact_0 43 rfl) rfl ⟨by unfold inR; omega, rfl⟩ ?_
            refine r_icmp_ne (t := 89) (pc' := 84) (kX11_qFact_0 44 rfl) rfl rfl (fun c19 => ?_) (fun c19 => ?_)
            · have h := h.1 c19
              refine r_iload_n (pc' := 90) (kX11_qFact_0 47 rfl) rfl rfl ?_
              refine r_bipush 62 (pc' := 92) (kX11_qFact_0 48 rfl) rfl ⟨by unfold inR; omega, rfl⟩ ?_
              refine r_icmp_ne (t := 100) (pc' := 95) (kX11_qFact_0 49 rfl) rfl rfl (fun c20 => ?_) (fun c20 => ?_)
              · have h := h.1 c20
                refine r_bipush 9 (pc' := 102) (kX11_qFact_0 52 rfl) rfl ⟨by unfold inR; omega, rfl⟩ ?_
                refine s_callV (As := [(0, 9)]) (o := 198) (S := []) (S2 := fun z => []) (pc' := 105) (kX11_qFact_0 53 rfl) rfl rfl nkX11_qCode mlX11_564 imX11_qCode rfl slX11_qCode rfl (Nat.le_of_ble_eq_true rfl) (Nat.le_of_ble_eq_true rfl) (kz198 Ln) h (fun z => rfl) (fun r21 φ21 α21 h => ?_)
                exact s_vret (kX11_qFact_0 54 rfl) rfl h
              · have h := h.2 c20
                refine r_bipush 8 (pc' := 97) (kX11_qFact_0 50 rfl) rfl ⟨by unfold inR; omega, rfl⟩ ?_
                refine r_goto (pc' := 102) (kX11_qFact_0 51 rfl) rfl ?_
                refine s_callV (As := [(0, 8)]) (o := 198) (S := []) (S2 := fun z => []) (pc' := 105) (kX11_qFact_0 53 rfl) rfl rfl nkX11_qCode mlX11_564 imX11_qCode rfl slX11_qCode rfl (Nat.le_of_ble_eq_true rfl) (Nat.le_of_ble_eq_true rfl) (kz198 Ln) h (fun z => rfl) (fun r22 φ22 α22 h => ?_)
                exact s_vret (kX11_qFact_0 54 rfl) rfl h
            · have h := h.2 c19
              refine r_bipush 7 (pc' := 86) (kX11_qFact_0 45 rfl) rfl ⟨by unfold inR; omega, rfl⟩ ?_
              refine r_goto (pc' := 102) (kX11_qFact_0 46 rfl) rfl ?_
              refine s_callV (As := [(0, 7)]) (o := 198) (S := []) (S2 := fun z => []) (pc' := 105) (kX11_qFact_0 53 rfl) rfl rfl nkX11_qCode mlX11_564 imX11_qCode rfl slX11_qCode rfl (Nat.le_of_ble_eq_true rfl) (Nat.le_of_ble_eq_true rfl) (kz198 Ln) h (fun z => rfl) (fun r23 φ23 α23 h => ?_)
              exact s_vret (kX11_qFact_0 54 rfl) rfl h
          · have h := h.2 c16
            refine r_aload_n (pc' := 54) (kX11_qFact_0 27 rfl) rfl rfl ?_
            refine r_iconst 1 (pc' := 55) (kX11_qFact_0 28 rfl) rfl (by unfold inR; omega) ?_
            refine r_aload_n (pc' := 56) (kX11_qFact_0 29 rfl) rfl rfl ?_
            refine s_get (x := (φ5 11 2 198)) (pc' := 59) (kX11_qFact_0 30 rfl) rfl fkX11_233 rfl rfl rfl (kz198 Ln) rfl ?_
            refine s_callV (As := [(0, 1), (0, (φ5 11 2 198))]) (o := 198) (S := []) (S2 := fun z => []) (pc' := 62) (kX11_qFact_0 31 rfl) rfl rfl nkX11_fail mlX11_257 imX11_fail rfl slX11_fail rfl (Nat.le_of_ble_eq_true rfl) (Nat.le_of_ble_eq_true rfl) (kz198 Ln) h (fun z => rfl) (fun r24 φ24 α24 h => ?_)
            exact s_vret (kX11_qFact_0 32 rfl) rfl h
    · have h := h.2 c4
      exact s_vret (kX11_qFact_0 14 rfl) rfl h
  · have h := h.2 c2
    refine r_aload_n (pc' := 12) (kX11_qFact_0 5 rfl) rfl rfl ?_
    refine r_bipush 13 (pc' := 14) (kX11_qFact_0 6 rfl) rfl ⟨by unfold inR; omega, rfl⟩ ?_
    refine s_callV (As := [(0, 13)]) (o := 198) (S := []) (S2 := fun z => []) (pc' := 17) (kX11_qFact_0 7 rfl) rfl rfl nkX11_qCode mlX11_564 imX11_qCode rfl slX11_qCode rfl (Nat.le_of_ble_eq_true rfl) (Nat.le_of_ble_eq_true rfl) (kz198 Ln) h (fun z => rfl) (fun r25 φ25 α25 h => ?_)
    exact s_vret (kX11_qFact_0 8 rfl) rfl h
abbrev jX11_qHasSquare_2 (d : Nat) (x1 : Int) (φ : aF) (α : aA) (Q : Int → aF → aA → Prop) : Prop := R0 d mX11_qHasSquare 2 [(2, 198), (0, x1)] [] φ α Q
theorem vX11_qHasSquare_0 {d : Nat} {φ : aF} {α : aA} {Q : Int → aF → aA → Prop} (h : (jX11_qHasSquare_2 d 0 φ α Q)) : eX11_qHasSquare d  φ α Q := by
  intro Ln
  refine r_iconst 0 (pc' := 1) (kX11_qHasSquare_0 0 rfl) rfl (by unfold inR; omega) ?_
  refine r_istore_n (L' := [(2, 198), (0, 0)]) (pc' := 2) (kX11_qHasSquare_0 1 rfl) rfl (Nat.le_of_ble_eq_true rfl) rfl ?_
  exact r_weak (L' := [(2, 198), (0, 0)]) ⟨Or.inl rfl, Or.inl rfl, trivial⟩ (h Ln)
theorem vX11_qHasSquare_2 {d : Nat} {φ : aF} {α : aA} {Q : Int → aF → aA → Prop} {x1 : Int} (h : (((φ 11 90 198) ≤ x1 →
   (Q 0 φ α)) ∧
   (¬ ((φ 11 90 198) ≤ x1) →
   (0 ≤ x1 ∧ x1 < (1700 : Nat)) ∧ ((¬ (α 264 x1) = 25 →
     inR (x1 + 1) ∧ (jX11_qHasSquare_2 d (x1 + 1) φ α Q)) ∧
     ((α 264 x1) = 25 →
     (Q 1 φ α)))))) : jX11_qHasSquare_2 d x1 φ α Q := by
  intro Ln
  refine r_iload_n (pc' := 3) (kX11_qHasSquare_0 2 rfl) rfl rfl ?_
  refine r_aload_n (pc' := 4) (kX11_qHasSquare_0 3 rfl) rfl rfl ?_
  refine s_get (x := (φ 11 90 198)) (pc' := 7) (kX11_qHasSquare_0 4 rfl) rfl fkX11_318 rfl rfl rfl (kz198 Ln) rfl ?_
  refine r_icmp_ge (t := 29) (pc' := 10) (kX11_qHasSquare_0 5 rfl) rfl rfl (fun c1 => ?_) (fun c1 => ?_)
  · have h := h.1 c1
    refine r_iconst 0 (pc' := 30) (kX11_qHasSquare_0 16 rfl) rfl (by unfold inR; omega) ?_
    exact s_zret (kX11_qHasSquare_0 17 rfl) rfl (Or.inl rfl) h
  · have h := h.2 c1
    refine r_aload_n (pc' := 11) (kX11_qHasSquare_0 6 rfl) rfl rfl ?_
    refine s_getr (v := 264) (pc' := 14) (kX11_qHasSquare_0 7 rfl) rfl fkX11_215 rfl rfl (kz198 Ln) rfl (by decide) ?_
    refine r_iload_n (pc' := 15) (kX11_qHasSquare_0 8 rfl) rfl rfl ?_
    have g2 := h.1
    have h := h.2
    refine s_iald (x := (α 264 x1)) (pc' := 16) (kX11_qHasSquare_0 9 rfl) rfl (kz264 Ln) g2 rfl ?_
    refine r_bipush 25 (pc' := 18) (kX11_qHasSquare_0 10 rfl) rfl ⟨by unfold inR; omega, rfl⟩ ?_
    refine r_icmp_ne (t := 23) (pc' := 21) (kX11_qHasSquare_0 11 rfl) rfl rfl (fun c3 => ?_) (fun c3 => ?_)
    · have h := h.1 c3
      have g4 := h.1
      have h := h.2
      refine r_iinc (L' := [(2, 198), (0, (x1 + 1))]) (pc' := 26) (kX11_qHasSquare_0 14 rfl) rfl (Nat.le_of_ble_eq_true rfl) rfl g4 rfl ?_
      refine r_goto (pc' := 2) (kX11_qHasSquare_0 15 rfl) rfl ?_
      exact r_weak (L' := [(2, 198), (0, (x1 + 1))]) ⟨Or.inl rfl, Or.inl rfl, trivial⟩ (h Ln)
    · have h := h.2 c3
      refine r_iconst 1 (pc' := 22) (kX11_qHasSquare_0 12 rfl) rfl (by unfold inR; omega) ?_
      exact s_zret (kX11_qHasSquare_0 13 rfl) rfl (Or.inr rfl) h
abbrev jX11_qDropsNots_0 (d : Nat) (φ : aF) (α : aA) (Q : Int → aF → aA → Prop) : Prop := R0 d mX11_qDropsNots 0 [(2, 198)] [] φ α Q
theorem vX11_qDropsNots_0 {d : Nat} {φ : aF} {α : aA} {Q : Int → aF → aA → Prop} (h : ((¬ (φ 11 5 198) = 0 →
   (Q 0 φ α)) ∧
   ((φ 11 5 198) = 0 →
   (eX11_qIsOn d 12 φ α (fun r2 φ2 α2 =>
     ((r2 = 0 →
     (Q 0 φ2 α2)) ∧
     (¬ (r2 = 0) →
     inR ((φ2 11 91 198) - 1) ∧ (eX11_qDrops d  (upf φ2 11 91 198 ((φ2 11 91 198) - 1)) α2 (fun r5 φ5 α5 =>
       (jX11_qDropsNots_0 (d + 1)  φ5 α5 Q)))))))))) : eX11_qDropsNots (d + 1)  φ α Q := by
  intro Ln
  refine r_aload_n (pc' := 1) (kX11_qDropsNots_0 0 rfl) rfl rfl ?_
  refine s_get (x := (φ 11 5 198)) (pc' := 4) (kX11_qDropsNots_0 1 rfl) rfl fkX11_227 rfl rfl rfl (kz198 Ln) rfl ?_
  refine r_if_ne (t := 33) (pc' := 7) (kX11_qDropsNots_0 2 rfl) rfl rfl (fun c1 => ?_) (fun c1 => ?_)
  · have h := h.1 c1
    exact s_vret (kX11_qDropsNots_0 16 rfl) rfl h
  · have h := h.2 c1
    refine r_aload_n (pc' := 8) (kX11_qDropsNots_0 3 rfl) rfl rfl ?_
    refine r_bipush 12 (pc' := 10) (kX11_qDropsNots_0 4 rfl) rfl ⟨by unfold inR; omega, rfl⟩ ?_
    refine s_callV (As := [(0, 12)]) (o := 198) (S := []) (S2 := fun z => [(0, z)]) (pc' := 13) (kX11_qDropsNots_0 5 rfl) rfl rfl nkX11_qIsOn mlX11_597 imX11_qIsOn rfl slX11_qIsOn rfl (Nat.le_of_ble_eq_true rfl) (Nat.le_of_ble_eq_true rfl) (kz198 Ln) h (fun z => rfl) (fun r2 φ2 α2 h => ?_)
    refine r_if_eq (t := 33) (pc' := 16) (kX11_qDropsNots_0 6 rfl) rfl rfl (fun c3 => ?_) (fun c3 => ?_)
    · have h := h.1 c3
      exact s_vret (kX11_qDropsNots_0 16 rfl) rfl h
    · have h := h.2 c3
      refine r_aload_n (pc' := 17) (kX11_qDropsNots_0 7 rfl) rfl rfl ?_
      refine r_dup (pc' := 18) (kX11_qDropsNots_0 8 rfl) rfl rfl ?_
      refine s_get (x := (φ2 11 91 198)) (pc' := 21) (kX11_qDropsNots_0 9 rfl) rfl fkX11_321 rfl rfl rfl (kz198 Ln) rfl ?_
      refine r_iconst 1 (pc' := 22) (kX11_qDropsNots_0 10 rfl) rfl (by unfold inR; omega) ?_
      have g4 := h.1
      have h := h.2
      refine r_isub (pc' := 23) (kX11_qDropsNots_0 11 rfl) rfl g4 ?_
      refine s_put (pc' := 26) (kX11_qDropsNots_0 12 rfl) rfl fkX11_321 fnX11_91 rfl pk_int (kz198 Ln) ?_
      refine r_aload_n (pc' := 27) (kX11_qDropsNots_0 13 rfl) rfl rfl ?_
      refine s_callV (As := []) (o := 198) (S := []) (S2 := fun z => []) (pc' := 30) (kX11_qDropsNots_0 14 rfl) rfl rfl nkX11_qDrops mlX11_570 imX11_qDrops rfl slX11_qDrops rfl (Nat.le_of_ble_eq_true rfl) (Nat.le_of_ble_eq_true rfl) (kz198 Ln) h (fun z => rfl) (fun r5 φ5 α5 h => ?_)
      refine r_goto (pc' := 0) (kX11_qDropsNots_0 15 rfl) rfl ?_
      exact r_weak (L' := [(2, 198)]) ⟨Or.inl rfl, trivial⟩ (h Ln)
abbrev jX11_qTest_2 (d : Nat) (x1 : Int) (φ : aF) (α : aA) (Q : Int → aF → aA → Prop) : Prop := R0 d mX11_qTest 2 [(2, 198), (0, x1), (9, 0)] [] φ α Q
theorem vX11_qTest_0 {d : Nat} {φ : aF} {α : aA} {Q : Int → aF → aA → Prop} (h : (jX11_qTest_2 (d + 1) 1 φ α Q)) : eX11_qTest (d + 1)  φ α Q := by
  intro Ln
  refine r_iconst 1 (pc' := 1) (kX11_qTest_0 0 rfl) rfl (by unfold inR; omega) ?_
  refine r_istore_n (L' := [(2, 198), (0, 1), (9, 0)]) (pc' := 2) (kX11_qTest_0 1 rfl) rfl (Nat.le_of_ble_eq_true rfl) rfl ?_
  exact r_weak (L' := [(2, 198), (0, 1), (9, 0)]) ⟨Or.inl rfl, Or.inl rfl, Or.inr (by decide), trivial⟩ (h Ln)
abbrev jX11_qTest_110 (d : Nat) (φ : aF) (α : aA) (Q : Int → aF → aA → Prop) : Prop := R0 d mX11_qTest 110 [(2, 198), (9, 0), (9, 0)] [] φ α Q
theorem vX11_qTest_2 {d : Nat} {φ : aF} {α : aA} {Q : Int → aF → aA → Prop} {x1 : Int} (h : ((x1 = 0 →
   (jX11_qTest_110 (d + 1)  φ α Q)) ∧
   (¬ (x1 = 0) →
   ((¬ (φ 11 5 198) = 0 →
     (jX11_qTest_110 (d + 1)  φ α Q)) ∧
     ((φ 11 5 198) = 0 →
     (eX11_look d  φ α (fun r3 φ3 α3 =>
       ((¬ r3 = 91 →
       (eX11_isHere d 245 φ3 α3 (fun r5 φ5 α5 =>
         ((r5 = 0 →
         (eX11_qFact d  φ5 α5 (fun r7 φ7 α7 =>
           (eX11_qDropsNots d  φ7 α7 (fun r8 φ8 α8 =>
           ((¬ (φ8 11 5 198) = 0 →
           (jX11_qTest_2 (d + 1) 0 φ8 α8 Q)) ∧
           ((φ8 11 5 198) = 0 →
           (eX11_qGoesOnTest d  φ8 α8 (fun r10 φ10 α10 =>
             ((r10 = 0 →
             (jX11_qTest_2 (d + 1) 0 φ10 α10 Q)) ∧
             (¬ (r10 = 0) →
             (jX11_qTest_2 (d + 1) 1 φ10 α10 Q)))))))))))) ∧
         (¬ (r5 = 0) →
         (eX11_qOpens d 12 (φ5 11 2 198) φ5 α5 (fun r12 φ12 α12 =>
           (eX11_asks d 245 φ12 α12 (fun r13 φ13 α13 =>
           (jX11_qTest_2 (d + 1) x1 φ13 α13 Q)))))))))) ∧
       (r3 = 91 →
       (eX11_qOpens d 25 (φ3 11 2 198) φ3 α3 (fun r14 φ14 α14 =>
         inR ((φ14 11 2 198) + 1) ∧ (jX11_qTest_2 (d + 1) x1 (upf φ14 11 2 198 ((φ14 11 2 198) + 1)) α14 Q)))))))))))) : jX11_qTest_2 (d + 1) x1 φ α Q := by
  intro Ln
  refine r_iload_n (pc' := 3) (kX11_qTest_0 2 rfl) rfl rfl ?_
  refine r_if_eq (t := 110) (pc' := 6) (kX11_qTest_0 3 rfl) rfl rfl (fun c1 => ?_) (fun c1 => ?_)
  · have h := h.1 c1
    exact r_weak (L' := [(2, 198), (9, 0), (9, 0)]) ⟨Or.inl rfl, Or.inr (by decide), Or.inr (by decide), trivial⟩ (h Ln)
  · have h := h.2 c1
    refine r_aload_n (pc' := 7) (kX11_qTest_0 4 rfl) rfl rfl ?_
    refine s_get (x := (φ 11 5 198)) (pc' := 10) (kX11_qTest_0 5 rfl) rfl fkX11_227 rfl rfl rfl (kz198 Ln) rfl ?_
    refine r_if_ne (t := 110) (pc' := 13) (kX11_qTest_0 6 rfl) rfl rfl (fun c2 => ?_) (fun c2 => ?_)
    · have h := h.1 c2
      exact r_weak (L' := [(2, 198), (9, 0), (9, 0)]) ⟨Or.inl rfl, Or.inr (by decide), Or.inr (by decide), trivial⟩ (h Ln)
    · have h := h.2 c2
      refine r_aload_n (pc' := 14) (kX11_qTest_0 7 rfl) rfl rfl ?_
      refine s_callV (As := []) (o := 198) (S := []) (S2 := fun z => [(0, z)]) (pc' := 17) (kX11_qTest_0 8 rfl) rfl rfl nkX11_look mlX11_239 imX11_look rfl slX11_look rfl (Nat.le_of_ble_eq_true rfl) (Nat.le_of_ble_eq_true rfl) (kz198 Ln) h (fun z => rfl) (fun r3 φ3 α3 h => ?_)
      refine r_istore_n (L' := [(2, 198), (0, x1), (0, r3)]) (pc' := 18) (kX11_qTest_0 9 rfl) rfl (Nat.le_of_ble_eq_true rfl) rfl ?_
      refine r_iload_n (pc' := 19) (kX11_qTest_0 10 rfl) rfl rfl ?_
      refine r_bipush 91 (pc' := 21) (kX11_qTest_0 11 rfl) rfl ⟨by unfold inR; omega, rfl⟩ ?_
      refine r_icmp_ne (t := 47) (pc' := 24) (kX11_qTest_0 12 rfl) rfl rfl (fun c4 => ?_) (fun c4 => ?_)
      · have h := h.1 c4
        refine r_aload_n (pc' := 48) (kX11_qTest_0 25 rfl) rfl rfl ?_
        refine r_aload_n (pc' := 49) (kX11_qTest_0 26 rfl) rfl rfl ?_
        refine s_getr (v := 245) (pc' := 52) (kX11_qTest_0 27 rfl) rfl fkX11_158 rfl rfl (kz198 Ln) rfl (by decide) ?_
        refine s_callV (As := [(2, 245)]) (o := 198) (S := []) (S2 := fun z => [(0, z)]) (pc' := 55) (kX11_qTest_0 28 rfl) rfl rfl nkX11_isHere mlX11_250 imX11_isHere rfl slX11_isHere rfl (Nat.le_of_ble_eq_true rfl) (Nat.le_of_ble_eq_true rfl) (kz198 Ln) h (fun z => rfl) (fun r5 φ5 α5 h => ?_)
        refine r_if_eq (t := 79) (pc' := 58) (kX11_qTest_0 29 rfl) rfl rfl (fun c6 => ?_) (fun c6 => ?_)
        · have h := h.1 c6
          refine r_aload_n (pc' := 80) (kX11_qTest_0 40 rfl) rfl rfl ?_
          refine s_callV (As := []) (o := 198) (S := []) (S2 := fun z => []) (pc' := 83) (kX11_qTest_0 41 rfl) rfl rfl nkX11_qFact mlX11_606 imX11_qFact rfl slX11_qFact rfl (Nat.le_of_ble_eq_true rfl) (Nat.le_of_ble_eq_true rfl) (kz198 Ln) h (fun z => rfl) (fun r7 φ7 α7 h => ?_)
          refine r_aload_n (pc' := 84) (kX11_qTest_0 42 rfl) rfl rfl ?_
          refine s_callV (As := []) (o := 198) (S := []) (S2 := fun z => []) (pc' := 87) (kX11_qTest_0 43 rfl) rfl rfl nkX11_qDropsNots mlX11_609 imX11_qDropsNots rfl slX11_qDropsNots rfl (Nat.le_of_ble_eq_true rfl) (Nat.le_of_ble_eq_true rfl) (kz198 Ln) h (fun z => rfl) (fun r8 φ8 α8 h => ?_)
          refine r_aload_n (pc' := 88) (kX11_qTest_0 44 rfl) rfl rfl ?_
          refine s_get (x := (φ8 11 5 198)) (pc' := 91) (kX11_qTest_0 45 rfl) rfl fkX11_227 rfl rfl rfl (kz198 Ln) rfl ?_
          refine r_if_ne (t := 105) (pc' := 94) (kX11_qTest_0 46 rfl) rfl rfl (fun c9 => ?_) (fun c9 => ?_)
          · have h := h.1 c9
            refine r_iconst 0 (pc' := 106) (kX11_qTest_0 52 rfl) rfl (by unfold inR; omega) ?_
            refine r_istore_n (L' := [(2, 198), (0, 0), (0, r3)]) (pc' := 107) (kX11_qTest_0 53 rfl) rfl (Nat.le_of_ble_eq_true rfl) rfl ?_
            refine r_goto (pc' := 2) (kX11_qTest_0 54 rfl) rfl ?_
            exact r_weak (L' := [(2, 198), (0, 0), (9, 0)]) ⟨Or.inl rfl, Or.inl rfl, Or.inr (by decide), trivial⟩ (h Ln)
          · have h := h.2 c9
            refine r_aload_n (pc' := 95) (kX11_qTest_0 47 rfl) rfl rfl ?_
            refine s_callV (As := []) (o := 198) (S := []) (S2 := fun z => [(0, z)]) (pc' := 98) (kX11_qTest_0 48 rfl) rfl rfl nkX11_qGoesOnTest mlX11_612 imX11_qGoesOnTest rfl slX11_qGoesOnTest rfl (Nat.le_of_ble_eq_true rfl) (Nat.le_of_ble_eq_true rfl) (kz198 Ln) h (fun z => rfl) (fun r10 φ10 α10 h => ?_)
            refine r_if_eq (t := 105) (pc' := 101) (kX11_qTest_0 49 rfl) rfl rfl (fun c11 => ?_) (fun c11 => ?_)
            · have h := h.1 c11
              refine r_iconst 0 (pc' := 106) (kX11_qTest_0 52 rfl) rfl (by unfold inR; omega) ?_
              refine r_istore_n (L' := [(2, 198), (0, 0), (0, r3)]) (pc' := 107) (kX11_qTest_0 53 rfl) rfl (Nat.le_of_ble_eq_true rfl) rfl ?_
              refine r_goto (pc' := 2) (kX11_qTest_0 54 rfl) rfl ?_
              exact r_weak (L' := [(2, 198), (0, 0), (9, 0)]) ⟨Or.inl rfl, Or.inl rfl, Or.inr (by decide), trivial⟩ (h Ln)
            · have h := h.2 c11
              refine r_iconst 1 (pc' := 102) (kX11_qTest_0 50 rfl) rfl (by unfold inR; omega) ?_
              refine r_goto (pc' := 106) (kX11_qTest_0 51 rfl) rfl ?_
              refine r_istore_n (L' := [(2, 198), (0, 1), (0, r3)]) (pc' := 107) (kX11_qTest_0 53 rfl) rfl (Nat.le_of_ble_eq_true rfl) rfl ?_
              refine r_goto (pc' := 2) (kX11_qTest_0 54 rfl) rfl ?_
              exact r_weak (L' := [(2, 198), (0, 1), (9, 0)]) ⟨Or.inl rfl, Or.inl rfl, Or.inr (by decide), trivial⟩ (h Ln)
        · have h := h.2 c6
          refine r_aload_n (pc' := 59) (kX11_qTest_0 30 rfl) rfl rfl ?_
          refine r_bipush 12 (pc' := 61) (kX11_qTest_0 31 rfl) rfl ⟨by unfold inR; omega, rfl⟩ ?_
          refine r_aload_n (pc' := 62) (kX11_qTest_0 32 rfl) rfl rfl ?_
          refine s_get (x := (φ5 11 2 198)) (pc' := 65) (kX11_qTest_0 33 rfl) rfl fkX11_233 rfl rfl rfl (kz198 Ln) rfl ?_
          refine s_callV (As := [(0, 12), (0, (φ5 11 2 198))]) (o := 198) (S := []) (S2 := fun z => []) (pc' := 68) (kX11_qTest_0 34 rfl) rfl rfl nkX11_qOpens mlX11_582 imX11_qOpens rfl slX11_qOpens rfl (Nat.le_of_ble_eq_true rfl) (Nat.le_of_ble_eq_true rfl) (kz198 Ln) h (fun z => rfl) (fun r12 φ12 α12 h => ?_)
          refine r_aload_n (pc' := 69) (kX11_qTest_0 35 rfl) rfl rfl ?_
          refine r_aload_n (pc' := 70) (kX11_qTest_0 36 rfl) rfl rfl ?_
          refine s_getr (v := 245) (pc' := 73) (kX11_qTest_0 37 rfl) rfl fkX11_158 rfl rfl (kz198 Ln) rfl (by decide) ?_
          refine s_callV (As := [(2, 245)]) (o := 198) (S := []) (S2 := fun z => []) (pc' := 76) (kX11_qTest_0 38 rfl) rfl rfl nkX11_asks mlX11_292 imX11_asks rfl slX11_asks rfl (Nat.le_of_ble_eq_true rfl) (Nat.le_of_ble_eq_true rfl) (kz198 Ln) h (fun z => rfl) (fun r13 φ13 α13 h => ?_)
          refine r_goto (pc' := 2) (kX11_qTest_0 39 rfl) rfl ?_
          exact r_weak (L' := [(2, 198), (0, x1), (9, 0)]) ⟨Or.inl rfl, Or.inl rfl, Or.inr (by decide), trivial⟩ (h Ln)
      · have h := h.2 c4
        refine r_aload_n (pc' := 25) (kX11_qTest_0 13 rfl) rfl rfl ?_
        refine r_bipush 25 (pc' := 27) (kX11_qTest_0 14 rfl) rfl ⟨by unfold inR; omega, rfl⟩ ?_
        refine r_aload_n (pc' := 28) (kX11_qTest_0 15 rfl) rfl rfl ?_
        refine s_get (x := (φ3 11 2 198)) (pc' := 31) (kX11_qTest_0 16 rfl) rfl fkX11_233 rfl rfl rfl (kz198 Ln) rfl ?_
        refine s_callV (As := [(0, 25), (0, (φ3 11 2 198))]) (o := 198) (S := []) (S2 := fun z => []) (pc' := 34) (kX11_qTest_0 17 rfl) rfl rfl nkX11_qOpens mlX11_582 imX11_qOpens rfl slX11_qOpens rfl (Nat.le_of_ble_eq_true rfl) (Nat.le_of_ble_eq_true rfl) (kz198 Ln) h (fun z => rfl) (fun r14 φ14 α14 h => ?_)
        refine r_aload_n (pc' := 35) (kX11_qTest_0 18 rfl) rfl rfl ?_
        refine r_dup (pc' := 36) (kX11_qTest_0 19 rfl) rfl rfl ?_
        refine s_get (x := (φ14 11 2 198)) (pc' := 39) (kX11_qTest_0 20 rfl) rfl fkX11_233 rfl rfl rfl (kz198 Ln) rfl ?_
        refine r_iconst 1 (pc' := 40) (kX11_qTest_0 21 rfl) rfl (by unfold inR; omega) ?_
        have g15 := h.1
        have h := h.2
        refine r_iadd (pc' := 41) (kX11_qTest_0 22 rfl) rfl g15 ?_
        refine s_put (pc' := 44) (kX11_qTest_0 23 rfl) rfl fkX11_233 fnX11_2 rfl pk_int (kz198 Ln) ?_
        refine r_goto (pc' := 2) (kX11_qTest_0 24 rfl) rfl ?_
        exact r_weak (L' := [(2, 198), (0, x1), (9, 0)]) ⟨Or.inl rfl, Or.inl rfl, Or.inr (by decide), trivial⟩ (h Ln)
theorem vX11_qTest_110 {d : Nat} {φ : aF} {α : aA} {Q : Int → aF → aA → Prop} (h : ((¬ (φ 11 5 198) = 0 →
   (Q 0 φ α)) ∧
   ((φ 11 5 198) = 0 →
   (((φ 11 90 198) ≤ 0 →
     (Q 0 φ α)) ∧
     (¬ ((φ 11 90 198) ≤ 0) →
     (eX11_qDrops d  φ α (fun r3 φ3 α3 =>
       (jX11_qTest_110 (d + 1)  φ3 α3 Q)))))))) : jX11_qTest_110 (d + 1)  φ α Q := by
  intro Ln
  refine r_aload_n (pc' := 111) (kX11_qTest_0 55 rfl) rfl rfl ?_
  refine s_get (x := (φ 11 5 198)) (pc' := 114) (kX11_qTest_0 56 rfl) rfl fkX11_227 rfl rfl rfl (kz198 Ln) rfl ?_
  refine r_if_ne (t := 131) (pc' := 117) (kX11_qTest_0 57 rfl) rfl rfl (fun c1 => ?_) (fun c1 => ?_)
  · have h := h.1 c1
    exact s_vret (kX11_qTest_1 4 rfl) rfl h
  · have h := h.2 c1
    refine r_aload_n (pc' := 118) (kX11_qTest_0 58 rfl) rfl rfl ?_
    refine s_get (x := (φ 11 90 198)) (pc' := 121) (kX11_qTest_0 59 rfl) rfl fkX11_318 rfl rfl rfl (kz198 Ln) rfl ?_
    refine r_if_le (t := 131) (pc' := 124) (kX11_qTest_1 0 rfl) rfl rfl (fun c2 => ?_) (fun c2 => ?_)
    · have h := h.1 c2
      exact s_vret (kX11_qTest_1 4 rfl) rfl h
    · have h := h.2 c2
      refine r_aload_n (pc' := 125) (kX11_qTest_1 1 rfl) rfl rfl ?_
      refine s_callV (As := []) (o := 198) (S := []) (S2 := fun z => []) (pc' := 128) (kX11_qTest_1 2 rfl) rfl rfl nkX11_qDrops mlX11_570 imX11_qDrops rfl slX11_qDrops rfl (Nat.le_of_ble_eq_true rfl) (Nat.le_of_ble_eq_true rfl) (kz198 Ln) h (fun z => rfl) (fun r3 φ3 α3 h => ?_)
      refine r_goto (pc' := 110) (kX11_qTest_1 3 rfl) rfl ?_
      exact r_weak (L' := [(2, 198), (9, 0), (9, 0)]) ⟨Or.inl rfl, Or.inr (by decide), Or.inr (by decide), trivial⟩ (h Ln)
abbrev jX11_qGoesOnTest_137 (d : Nat) (φ : aF) (α : aA) (Q : Int → aF → aA → Prop) : Prop := R0 d mX11_qGoesOnTest 137 [(2, 198)] [] φ α Q
abbrev jX11_qGoesOnTest_87 (d : Nat) (φ : aF) (α : aA) (Q : Int → aF → aA → Prop) : Prop := R0 d mX11_qGoesOnTest 87 [(2, 198)] [] φ α Q
abbrev jX11_qGoesOnTest_33 (d : Nat) (φ : aF) (α : aA) (Q : Int → aF → aA → Prop) : Prop := R0 d mX11_qGoesOnTest 33 [(2, 198)] [] φ α Q
theorem vX11_qGoesOnTest_0 {d : Nat} {φ : aF} {α : aA} {Q : Int → aF → aA → Prop} (h : ((¬ (φ 11 5 198) = 0 →
   (eX11_takes d 246 φ α (fun r2 φ2 α2 =>
     ((r2 = 0 →
     (eX11_takes d 247 φ2 α2 (fun r4 φ4 α4 =>
       ((r4 = 0 →
       ((¬ (φ4 11 5 198) = 0 →
         (Q 0 φ4 α4)) ∧
         ((φ4 11 5 198) = 0 →
         (eX11_qHasSquare d  φ4 α4 (fun r7 φ7 α7 =>
           ((r7 = 0 →
           (Q 0 φ7 α7)) ∧
           (¬ (r7 = 0) →
           (eX11_fail d 1 (φ7 11 2 198) φ7 α7 (fun r9 φ9 α9 =>
             (Q 0 φ9 α9)))))))))) ∧
       (¬ (r4 = 0) →
       (jX11_qGoesOnTest_137 (d + 1)  φ4 α4 Q)))))) ∧
     (¬ (r2 = 0) →
     (jX11_qGoesOnTest_87 (d + 1)  φ2 α2 Q)))))) ∧
   ((φ 11 5 198) = 0 →
   (eX11_look d  φ α (fun r10 φ10 α10 =>
     ((¬ r10 = 93 →
     (eX11_takes d 246 φ10 α10 (fun r12 φ12 α12 =>
       ((r12 = 0 →
       (eX11_takes d 247 φ12 α12 (fun r14 φ14 α14 =>
         ((r14 = 0 →
         ((¬ (φ14 11 5 198) = 0 →
           (Q 0 φ14 α14)) ∧
           ((φ14 11 5 198) = 0 →
           (eX11_qHasSquare d  φ14 α14 (fun r17 φ17 α17 =>
             ((r17 = 0 →
             (Q 0 φ17 α17)) ∧
             (¬ (r17 = 0) →
             (eX11_fail d 1 (φ17 11 2 198) φ17 α17 (fun r19 φ19 α19 =>
               (Q 0 φ19 α19)))))))))) ∧
         (¬ (r14 = 0) →
         (jX11_qGoesOnTest_137 (d + 1)  φ14 α14 Q)))))) ∧
       (¬ (r12 = 0) →
       (jX11_qGoesOnTest_87 (d + 1)  φ12 α12 Q)))))) ∧
     (r10 = 93 →
     (eX11_qHasSquare d  φ10 α10 (fun r20 φ20 α20 =>
       ((r20 = 0 →
       (eX11_takes d 246 φ20 α20 (fun r22 φ22 α22 =>
         ((r22 = 0 →
         (eX11_takes d 247 φ22 α22 (fun r24 φ24 α24 =>
           ((r24 = 0 →
           ((¬ (φ24 11 5 198) = 0 →
             (Q 0 φ24 α24)) ∧
             ((φ24 11 5 198) = 0 →
             (eX11_qHasSquare d  φ24 α24 (fun r27 φ27 α27 =>
               ((r27 = 0 →
               (Q 0 φ27 α27)) ∧
               (¬ (r27 = 0) →
               (eX11_fail d 1 (φ27 11 2 198) φ27 α27 (fun r29 φ29 α29 =>
                 (Q 0 φ29 α29)))))))))) ∧
           (¬ (r24 = 0) →
           (jX11_qGoesOnTest_137 (d + 1)  φ24 α24 Q)))))) ∧
         (¬ (r22 = 0) →
         (jX11_qGoesOnTest_87 (d + 1)  φ22 α22 Q)))))) ∧
       (¬ (r20 = 0) →
       inR ((φ20 11 2 198) + 1) ∧ (jX11_qGoesOnTest_33 (d + 1)  (upf φ20 11 2 198 ((φ20 11 2 198) + 1)) α20 Q)))))))))))) : eX11_qGoesOnTest (d + 1)  φ α Q := by
  intro Ln
  refine r_aload_n (pc' := 1) (kX11_qGoesOnTest_0 0 rfl) rfl rfl ?_
  refine s_get (x := (φ 11 5 198)) (pc' := 4) (kX11_qGoesOnTest_0 1 rfl) rfl fkX11_227 rfl rfl rfl (kz198 Ln) rfl ?_
  refine r_if_ne (t := 76) (pc' := 7) (kX11_qGoesOnTest_0 2 rfl) rfl rfl (fun c1 => ?_) (fun c1 => ?_)
  · have h := h.1 c1
    refine r_aload_n (pc' := 77) (kX11_qGoesOnTest_0 38 rfl) rfl rfl ?_
    refine r_aload_n (pc' := 78) (kX11_qGoesOnTest_0 39 rfl) rfl rfl ?_
    refine s_getr (v := 246) (pc' := 81) (kX11_qGoesOnTest_0 40 rfl) rfl fkX11_161 rfl rfl (kz198 Ln) rfl (by decide) ?_
    refine s_callV (As := [(2, 246)]) (o := 198) (S := []) (S2 := fun z => [(0, z)]) (pc' := 84) (kX11_qGoesOnTest_0 41 rfl) rfl rfl nkX11_takes mlX11_254 imX11_takes rfl slX11_takes rfl (Nat.le_of_ble_eq_true rfl) (Nat.le_of_ble_eq_true rfl) (kz198 Ln) h (fun z => rfl) (fun r2 φ2 α2 h => ?_)
    refine r_if_eq (t := 126) (pc' := 87) (kX11_qGoesOnTest_0 42 rfl) rfl rfl (fun c3 => ?_) (fun c3 => ?_)
    · have h := h.1 c3
      refine r_aload_n (pc' := 127) (kX11_qGoesOnTest_1 4 rfl) rfl rfl ?_
      refine r_aload_n (pc' := 128) (kX11_qGoesOnTest_1 5 rfl) rfl rfl ?_
      refine s_getr (v := 247) (pc' := 131) (kX11_qGoesOnTest_1 6 rfl) rfl fkX11_164 rfl rfl (kz198 Ln) rfl (by decide) ?_
      refine s_callV (As := [(2, 247)]) (o := 198) (S := []) (S2 := fun z => [(0, z)]) (pc' := 134) (kX11_qGoesOnTest_1 7 rfl) rfl rfl nkX11_takes mlX11_254 imX11_takes rfl slX11_takes rfl (Nat.le_of_ble_eq_true rfl) (Nat.le_of_ble_eq_true rfl) (kz198 Ln) h (fun z => rfl) (fun r4 φ4 α4 h => ?_)
      refine r_if_eq (t := 185) (pc' := 137) (kX11_qGoesOnTest_1 8 rfl) rfl rfl (fun c5 => ?_) (fun c5 => ?_)
      · have h := h.1 c5
        refine r_aload_n (pc' := 186) (kX11_qGoesOnTest_1 34 rfl) rfl rfl ?_
        refine s_get (x := (φ4 11 5 198)) (pc' := 189) (kX11_qGoesOnTest_1 35 rfl) rfl fkX11_227 rfl rfl rfl (kz198 Ln) rfl ?_
        refine r_if_ne (t := 208) (pc' := 192) (kX11_qGoesOnTest_1 36 rfl) rfl rfl (fun c6 => ?_) (fun c6 => ?_)
        · have h := h.1 c6
          refine r_iconst 0 (pc' := 209) (kX11_qGoesOnTest_1 45 rfl) rfl (by unfold inR; omega) ?_
          exact s_zret (kX11_qGoesOnTest_1 46 rfl) rfl (Or.inl rfl) h
        · have h := h.2 c6
          refine r_aload_n (pc' := 193) (kX11_qGoesOnTest_1 37 rfl) rfl rfl ?_
          refine s_callV (As := []) (o := 198) (S := []) (S2 := fun z => [(0, z)]) (pc' := 196) (kX11_qGoesOnTest_1 38 rfl) rfl rfl nkX11_qHasSquare mlX11_615 imX11_qHasSquare rfl slX11_qHasSquare rfl (Nat.le_of_ble_eq_true rfl) (Nat.le_of_ble_eq_true rfl) (kz198 Ln) h (fun z => rfl) (fun r7 φ7 α7 h => ?_)
          refine r_if_eq (t := 208) (pc' := 199) (kX11_qGoesOnTest_1 39 rfl) rfl rfl (fun c8 => ?_) (fun c8 => ?_)
          · have h := h.1 c8
            refine r_iconst 0 (pc' := 209) (kX11_qGoesOnTest_1 45 rfl) rfl (by unfold inR; omega) ?_
            exact s_zret (kX11_qGoesOnTest_1 46 rfl) rfl (Or.inl rfl) h
          · have h := h.2 c8
            refine r_aload_n (pc' := 200) (kX11_qGoesOnTest_1 40 rfl) rfl rfl ?_
            refine r_iconst 1 (pc' := 201) (kX11_qGoesOnTest_1 41 rfl) rfl (by unfold inR; omega) ?_
            refine r_aload_n (pc' := 202) (kX11_qGoesOnTest_1 42 rfl) rfl rfl ?_
            refine s_get (x := (φ7 11 2 198)) (pc' := 205) (kX11_qGoesOnTest_1 43 rfl) rfl fkX11_233 rfl rfl rfl (kz198 Ln) rfl ?_
            refine s_callV (As := [(0, 1), (0, (φ7 11 2 198))]) (o := 198) (S := []) (S2 := fun z => []) (pc' := 208) (kX11_qGoesOnTest_1 44 rfl) rfl rfl nkX11_fail mlX11_257 imX11_fail rfl slX11_fail rfl (Nat.le_of_ble_eq_true rfl) (Nat.le_of_ble_eq_true rfl) (kz198 Ln) h (fun z => rfl) (fun r9 φ9 α9 h => ?_)
            refine r_iconst 0 (pc' := 209) (kX11_qGoesOnTest_1 45 rfl) rfl (by unfold inR; omega) ?_
            exact s_zret (kX11_qGoesOnTest_1 46 rfl) rfl (Or.inl rfl) h
      · have h := h.2 c5
        exact r_weak (L' := [(2, 198)]) ⟨Or.inl rfl, trivial⟩ (h Ln)
    · have h := h.2 c3
      exact r_weak (L' := [(2, 198)]) ⟨Or.inl rfl, trivial⟩ (h Ln)
  · have h := h.2 c1
    refine r_aload_n (pc' := 8) (kX11_qGoesOnTest_0 3 rfl) rfl rfl ?_
    refine s_callV (As := []) (o := 198) (S := []) (S2 := fun z => [(0, z)]) (pc' := 11) (kX11_qGoesOnTest_0 4 rfl) rfl rfl nkX11_look mlX11_239 imX11_look rfl slX11_look rfl (Nat.le_of_ble_eq_true rfl) (Nat.le_of_ble_eq_true rfl) (kz198 Ln) h (fun z => rfl) (fun r10 φ10 α10 h => ?_)
    refine r_bipush 93 (pc' := 13) (kX11_qGoesOnTest_0 5 rfl) rfl ⟨by unfold inR; omega, rfl⟩ ?_
    refine r_icmp_ne (t := 76) (pc' := 16) (kX11_qGoesOnTest_0 6 rfl) rfl rfl (fun c11 => ?_) (fun c11 => ?_)
    · have h := h.1 c11
      refine r_aload_n (pc' := 77) (kX11_qGoesOnTest_0 38 rfl) rfl rfl ?_
      refine r_aload_n (pc' := 78) (kX11_qGoesOnTest_0 39 rfl) rfl rfl ?_
      refine s_getr (v := 246) (pc' := 81) (kX11_qGoesOnTest_0 40 rfl) rfl fkX11_161 rfl rfl (kz198 Ln) rfl (by decide) ?_
      refine s_callV (As := [(2, 246)]) (o := 198) (S := []) (S2 := fun z => [(0, z)]) (pc' := 84) (kX11_qGoesOnTest_0 41 rfl) rfl rfl nkX11_takes mlX11_254 imX11_takes rfl slX11_takes rfl (Nat.le_of_ble_eq_true rfl) (Nat.le_of_ble_eq_true rfl) (kz198 Ln) h (fun z => rfl) (fun r12 φ12 α12 h => ?_)
      refine r_if_eq (t := 126) (pc' := 87) (kX11_qGoesOnTest_0 42 rfl) rfl rfl (fun c13 => ?_) (fun c13 => ?_)
      · have h := h.1 c13
        refine r_aload_n (pc' := 127) (kX11_qGoesOnTest_1 4 rfl) rfl rfl ?_
        refine r_aload_n (pc' := 128) (kX11_qGoesOnTest_1 5 rfl) rfl rfl ?_
        refine s_getr (v := 247) (pc' := 131) (kX11_qGoesOnTest_1 6 rfl) rfl fkX11_164 rfl rfl (kz198 Ln) rfl (by decide) ?_
        refine s_callV (As := [(2, 247)]) (o := 198) (S := []) (S2 := fun z => [(0, z)]) (pc' := 134) (kX11_qGoesOnTest_1 7 rfl) rfl rfl nkX11_takes mlX11_254 imX11_takes rfl slX11_takes rfl (Nat.le_of_ble_eq_true rfl) (Nat.le_of_ble_eq_true rfl) (kz198 Ln) h (fun z => rfl) (fun r14 φ14 α14 h => ?_)
        refine r_if_eq (t := 185) (pc' := 137) (kX11_qGoesOnTest_1 8 rfl) rfl rfl (fun c15 => ?_) (fun c15 => ?_)
        · have h := h.1 c15
          refine r_aload_n (pc' := 186) (kX11_qGoesOnTest_1 34 rfl) rfl rfl ?_
          refine s_get (x := (φ14 11 5 198)) (pc' := 189) (kX11_qGoesOnTest_1 35 rfl) rfl fkX11_227 rfl rfl rfl (kz198 Ln) rfl ?_
          refine r_if_ne (t := 208) (pc' := 192) (kX11_qGoesOnTest_1 36 rfl) rfl rfl (fun c16 => ?_) (fun c16 => ?_)
          · have h := h.1 c16
            refine r_iconst 0 (pc' := 209) (kX11_qGoesOnTest_1 45 rfl) rfl (by unfold inR; omega) ?_
            exact s_zret (kX11_qGoesOnTest_1 46 rfl) rfl (Or.inl rfl) h
          · have h := h.2 c16
            refine r_aload_n (pc' := 193) (kX11_qGoesOnTest_1 37 rfl) rfl rfl ?_
            refine s_callV (As := []) (o := 198) (S := []) (S2 := fun z => [(0, z)]) (pc' := 196) (kX11_qGoesOnTest_1 38 rfl) rfl rfl nkX11_qHasSquare mlX11_615 imX11_qHasSquare rfl slX11_qHasSquare rfl (Nat.le_of_ble_eq_true rfl) (Nat.le_of_ble_eq_true rfl) (kz198 Ln) h (fun z => rfl) (fun r17 φ17 α17 h => ?_)
            refine r_if_eq (t := 208) (pc' := 199) (kX11_qGoesOnTest_1 39 rfl) rfl rfl (fun c18 => ?_) (fun c18 => ?_)
            · have h := h.1 c18
              refine r_iconst 0 (pc' := 209) (kX11_qGoesOnTest_1 45 rfl) rfl (by unfold inR; omega) ?_
              exact s_zret (kX11_qGoesOnTest_1 46 rfl) rfl (Or.inl rfl) h
            · have h := h.2 c18
              refine r_aload_n (pc' := 200) (kX11_qGoesOnTest_1 40 rfl) rfl rfl ?_
              refine r_iconst 1 (pc' := 201) (kX11_qGoesOnTest_1 41 rfl) rfl (by unfold inR; omega) ?_
              refine r_aload_n (pc' := 202) (kX11_qGoesOnTest_1 42 rfl) rfl rfl ?_
              refine s_get (x := (φ17 11 2 198)) (pc' := 205) (kX11_qGoesOnTest_1 43 rfl) rfl fkX11_233 rfl rfl rfl (kz198 Ln) rfl ?_
              refine s_callV (As := [(0, 1), (0, (φ17 11 2 198))]) (o := 198) (S := []) (S2 := fun z => []) (pc' := 208) (kX11_qGoesOnTest_1 44 rfl) rfl rfl nkX11_fail mlX11_257 imX11_fail rfl slX11_fail rfl (Nat.le_of_ble_eq_true rfl) (Nat.le_of_ble_eq_true rfl) (kz198 Ln) h (fun z => rfl) (fun r19 φ19 α19 h => ?_)
              refine r_iconst 0 (pc' := 209) (kX11_qGoesOnTest_1 45 rfl) rfl (by unfold inR; omega) ?_
              exact s_zret (kX11_qGoesOnTest_1 46 rfl) rfl (Or.inl rfl) h
        · have h := h.2 c15
          exact r_weak (L' := [(2, 198)]) ⟨Or.inl rfl, trivial⟩ (h Ln)
      · have h := h.2 c13
        exact r_weak (L' := [(2, 198)]) ⟨Or.inl rfl, trivial⟩ (h Ln)
    · have h := h.2 c11
      refine r_aload_n (pc' := 17) (kX11_qGoesOnTest_0 7 rfl) rfl rfl ?_
      refine s_callV (As := []) (o := 198) (S := []) (S2 := fun z => [(0, z)]) (pc' := 20) (kX11_qGoesOnTest_0 8 rfl) rfl rfl nkX11_qHasSquare mlX11_615 imX11_qHasSquare rfl slX11_qHasSquare rfl (Nat.le_of_ble_eq_true rfl) (Nat.le_of_ble_eq_true rfl) (kz198 Ln) h (fun z => rfl) (fun r20 φ20 α20 h => ?_)
      refine r_if_eq (t := 76) (pc' := 23) (kX11_qGoesOnTest_0 9 rfl) rfl rfl (fun c21 => ?_) (fun c21 => ?_)
      · have h := h.1 c21
        refine r_aload_n (pc' := 77) (kX11_qGoesOnTest_0 38 rfl) rfl rfl ?_
        refine r_aload_n (pc' := 78) (kX11_qGoesOnTest_0 39 rfl) rfl rfl ?_
        refine s_getr (v := 246) (pc' := 81) (kX11_qGoesOnTest_0 40 rfl) rfl fkX11_161 rfl rfl (kz198 Ln) rfl (by decide) ?_
        refine s_callV (As := [(2, 246)]) (o := 198) (S := []) (S2 := fun z => [(0, z)]) (pc' := 84) (kX11_qGoesOnTest_0 41 rfl) rfl rfl nkX11_takes mlX11_254 imX11_takes rfl slX11_takes rfl (Nat.le_of_ble_eq_true rfl) (Nat.le_of_ble_eq_true rfl) (kz198 Ln) h (fun z => rfl) (fun r22 φ22 α22 h => ?_)
        refine r_if_eq (t := 126) (pc' := 87) (kX11_qGoesOnTest_0 42 rfl) rfl rfl (fun c23 => ?_) (fun c23 => ?_)
        · have h := h.1 c23
          refine r_aload_n (pc' := 127) (kX11_qGoesOnTest_1 4 rfl) rfl rfl ?_
          refine r_aload_n (pc' := 128) (kX11_qGoesOnTest_1 5 rfl) rfl rfl ?_
          refine s_getr (v := 247) (pc' := 131) (kX11_qGoesOnTest_1 6 rfl) rfl fkX11_164 rfl rfl (kz198 Ln) rfl (by decide) ?_
          refine s_callV (As := [(2, 247)]) (o := 198) (S := []) (S2 := fun z => [(0, z)]) (pc' := 134) (kX11_qGoesOnTest_1 7 rfl) rfl rfl nkX11_takes mlX11_254 imX11_takes rfl slX11_takes rfl (Nat.le_of_ble_eq_true rfl) (Nat.le_of_ble_eq_true rfl) (kz198 Ln) h (fun z => rfl) (fun r24 φ24 α24 h => ?_)
          refine r_if_eq (t := 185) (pc' := 137) (kX11_qGoesOnTest_1 8 rfl) rfl rfl (fun c25 => ?_) (fun c25 => ?_)
          · have h := h.1 c25
            refine r_aload_n (pc' := 186) (kX11_qGoesOnTest_1 34 rfl) rfl rfl ?_
            refine s_get (x := (φ24 11 5 198)) (pc' := 189) (kX11_qGoesOnTest_1 35 rfl) rfl fkX11_227 rfl rfl rfl (kz198 Ln) rfl ?_
            refine r_if_ne (t := 208) (pc' := 192) (kX11_qGoesOnTest_1 36 rfl) rfl rfl (fun c26 => ?_) (fun c26 => ?_)
            · have h := h.1 c26
              refine r_iconst 0 (pc' := 209) (kX11_qGoesOnTest_1 45 rfl) rfl (by unfold inR; omega) ?_
              exact s_zret (kX11_qGoesOnTest_1 46 rfl) rfl (Or.inl rfl) h
            · have h := h.2 c26
              refine r_aload_n (pc' := 193) (kX11_qGoesOnTest_1 37 rfl) rfl rfl ?_
              refine s_callV (As := []) (o := 198) (S := []) (S2 := fun z => [(0, z)]) (pc' := 196) (kX11_qGoesOnTest_1 38 rfl) rfl rfl nkX11_qHasSquare mlX11_615 imX11_qHasSquare rfl slX11_qHasSquare rfl (Nat.le_of_ble_eq_true rfl) (Nat.le_of_ble_eq_true rfl) (kz198 Ln) h (fun z => rfl) (fun r27 φ27 α27 h => ?_)
              refine r_if_eq (t := 208) (pc' := 199) (kX11_qGoesOnTest_1 39 rfl) rfl rfl (fun c28 => ?_) (fun c28 => ?_)
              · have h := h.1 c28
                refine r_iconst 0 (pc' := 209) (kX11_qGoesOnTest_1 45 rfl) rfl (by unfold inR; omega) ?_
                exact s_zret (kX11_qGoesOnTest_1 46 rfl) rfl (Or.inl rfl) h
              · have h := h.2 c28
                refine r_aload_n (pc' := 200) (kX11_qGoesOnTest_1 40 rfl) rfl rfl ?_
                refine r_iconst 1 (pc' := 201) (kX11_qGoesOnTest_1 41 rfl) rfl (by unfold inR; omega) ?_
                refine r_aload_n (pc' := 202) (kX11_qGoesOnTest_1 42 rfl) rfl rfl ?_
                refine s_get (x := (φ27 11 2 198)) (pc' := 205) (kX11_qGoesOnTest_1 43 rfl) rfl fkX11_233 rfl rfl rfl (kz198 Ln) rfl ?_
                refine s_callV (As := [(0, 1), (0, (φ27 11 2 198))]) (o := 198) (S := []) (S2 := fun z => []) (pc' := 208) (kX11_qGoesOnTest_1 44 rfl) rfl rfl nkX11_fail mlX11_257 imX11_fail rfl slX11_fail rfl (Nat.le_of_ble_eq_true rfl) (Nat.le_of_ble_eq_true rfl) (kz198 Ln) h (fun z => rfl) (fun r29 φ29 α29 h => ?_)
                refine r_iconst 0 (pc' := 209) (kX11_qGoesOnTest_1 45 rfl) rfl (by unfold inR; omega) ?_
                exact s_zret (kX11_qGoesOnTest_1 46 rfl) rfl (Or.inl rfl) h
          · have h := h.2 c25
            exact r_weak (L' := [(2, 198)]) ⟨Or.inl rfl, trivial⟩ (h Ln)
        · have h := h.2 c23
          exact r_weak (L' := [(2, 198)]) ⟨Or.inl rfl, trivial⟩ (h Ln)
      · have h := h.2 c21
        refine r_aload_n (pc' := 24) (kX11_qGoesOnTest_0 10 rfl) rfl rfl ?_
        refine r_dup (pc' := 25) (kX11_qGoesOnTest_0 11 rfl) rfl rfl ?_
        refine s_get (x := (φ20 11 2 198)) (pc' := 28) (kX11_qGoesOnTest_0 12 rfl) rfl fkX11_233 rfl rfl rfl (kz198 Ln) rfl ?_
        refine r_iconst 1 (pc' := 29) (kX11_qGoesOnTest_0 13 rfl) rfl (by unfold inR; omega) ?_
        have g30 := h.1
        have h := h.2
        refine r_iadd (pc' := 30) (kX11_qGoesOnTest_0 14 rfl) rfl g30 ?_
        refine s_put (pc' := 33) (kX11_qGoesOnTest_0 15 rfl) rfl fkX11_233 fnX11_2 rfl pk_int (kz198 Ln) ?_
        exact r_weak (L' := [(2, 198)]) ⟨Or.inl rfl, trivial⟩ (h Ln)
theorem vX11_qGoesOnTest_137 {d : Nat} {φ : aF} {α : aA} {Q : Int → aF → aA → Prop} (h : (eX11_qIsOn d 10 φ α (fun r1 φ1 α1 =>
   ((¬ r1 = 0 →
   (eX11_qDrops d  φ1 α1 (fun r3 φ3 α3 =>
     (jX11_qGoesOnTest_137 (d + 1)  φ3 α3 Q)))) ∧
   (r1 = 0 →
   (eX11_qIsOn d 11 φ1 α1 (fun r4 φ4 α4 =>
     ((r4 = 0 →
     (0 ≤ (φ4 11 90 198) ∧ (φ4 11 90 198) < (1700 : Nat)) ∧ inR ((φ4 11 90 198) + 1) ∧ (Q 1 (upf φ4 11 90 198 ((φ4 11 90 198) + 1)) (upa α4 264 (φ4 11 90 198) 11))) ∧
     (¬ (r4 = 0) →
     (eX11_qDrops d  φ4 α4 (fun r8 φ8 α8 =>
       (jX11_qGoesOnTest_137 (d + 1)  φ8 α8 Q)))))))))))) : jX11_qGoesOnTest_137 (d + 1)  φ α Q := by
  intro Ln
  refine r_aload_n (pc' := 138) (kX11_qGoesOnTest_1 9 rfl) rfl rfl ?_
  refine r_bipush 10 (pc' := 140) (kX11_qGoesOnTest_1 10 rfl) rfl ⟨by unfold inR; omega, rfl⟩ ?_
  refine s_callV (As := [(0, 10)]) (o := 198) (S := []) (S2 := fun z => [(0, z)]) (pc' := 143) (kX11_qGoesOnTest_1 11 rfl) rfl rfl nkX11_qIsOn mlX11_597 imX11_qIsOn rfl slX11_qIsOn rfl (Nat.le_of_ble_eq_true rfl) (Nat.le_of_ble_eq_true rfl) (kz198 Ln) h (fun z => rfl) (fun r1 φ1 α1 h => ?_)
  refine r_if_ne (t := 155) (pc' := 146) (kX11_qGoesOnTest_1 12 rfl) rfl rfl (fun c2 => ?_) (fun c2 => ?_)
  · have h := h.1 c2
    refine r_aload_n (pc' := 156) (kX11_qGoesOnTest_1 17 rfl) rfl rfl ?_
    refine s_callV (As := []) (o := 198) (S := []) (S2 := fun z => []) (pc' := 159) (kX11_qGoesOnTest_1 18 rfl) rfl rfl nkX11_qDrops mlX11_570 imX11_qDrops rfl slX11_qDrops rfl (Nat.le_of_ble_eq_true rfl) (Nat.le_of_ble_eq_true rfl) (kz198 Ln) h (fun z => rfl) (fun r3 φ3 α3 h => ?_)
    refine r_goto (pc' := 137) (kX11_qGoesOnTest_1 19 rfl) rfl ?_
    exact r_weak (L' := [(2, 198)]) ⟨Or.inl rfl, trivial⟩ (h Ln)
  · have h := h.2 c2
    refine r_aload_n (pc' := 147) (kX11_qGoesOnTest_1 13 rfl) rfl rfl ?_
    refine r_bipush 11 (pc' := 149) (kX11_qGoesOnTest_1 14 rfl) rfl ⟨by unfold inR; omega, rfl⟩ ?_
    refine s_callV (As := [(0, 11)]) (o := 198) (S := []) (S2 := fun z => [(0, z)]) (pc' := 152) (kX11_qGoesOnTest_1 15 rfl) rfl rfl nkX11_qIsOn mlX11_597 imX11_qIsOn rfl slX11_qIsOn rfl (Nat.le_of_ble_eq_true rfl) (Nat.le_of_ble_eq_true rfl) (kz198 Ln) h (fun z => rfl) (fun r4 φ4 α4 h => ?_)
    refine r_if_eq (t := 162) (pc' := 155) (kX11_qGoesOnTest_1 16 rfl) rfl rfl (fun c5 => ?_) (fun c5 => ?_)
    · have h := h.1 c5
      refine r_aload_n (pc' := 163) (kX11_qGoesOnTest_1 20 rfl) rfl rfl ?_
      refine s_getr (v := 264) (pc' := 166) (kX11_qGoesOnTest_1 21 rfl) rfl fkX11_215 rfl rfl (kz198 Ln) rfl (by decide) ?_
      refine r_aload_n (pc' := 167) (kX11_qGoesOnTest_1 22 rfl) rfl rfl ?_
      refine s_get (x := (φ4 11 90 198)) (pc' := 170) (kX11_qGoesOnTest_1 23 rfl) rfl fkX11_318 rfl rfl rfl (kz198 Ln) rfl ?_
      refine r_bipush 11 (pc' := 172) (kX11_qGoesOnTest_1 24 rfl) rfl ⟨by unfold inR; omega, rfl⟩ ?_
      have g6 := h.1
      have h := h.2
      refine s_iast (pc' := 173) (kX11_qGoesOnTest_1 25 rfl) rfl (kz264 Ln) g6 ?_
      refine r_aload_n (pc' := 174) (kX11_qGoesOnTest_1 26 rfl) rfl rfl ?_
      refine r_dup (pc' := 175) (kX11_qGoesOnTest_1 27 rfl) rfl rfl ?_
      refine s_get (x := (φ4 11 90 198)) (pc' := 178) (kX11_qGoesOnTest_1 28 rfl) rfl fkX11_318 rfl rfl rfl (kz198 Ln) rfl ?_
      refine r_iconst 1 (pc' := 179) (kX11_qGoesOnTest_1 29 rfl) rfl (by unfold inR; omega) ?_
      have g7 := h.1
      have h := h.2
      refine r_iadd (pc' := 180) (kX11_qGoesOnTest_1 30 rfl) rfl g7 ?_
      refine s_put (pc' := 183) (kX11_qGoesOnTest_1 31 rfl) rfl fkX11_318 fnX11_90 rfl pk_int (kz198 Ln) ?_
      refine r_iconst 1 (pc' := 184) (kX11_qGoesOnTest_1 32 rfl) rfl (by unfold inR; omega) ?_
      exact s_zret (kX11_qGoesOnTest_1 33 rfl) rfl (Or.inr rfl) h
    · have h := h.2 c5
      refine r_aload_n (pc' := 156) (kX11_qGoesOnTest_1 17 rfl) rfl rfl ?_
      refine s_callV (As := []) (o := 198) (S := []) (S2 := fun z => []) (pc' := 159) (kX11_qGoesOnTest_1 18 rfl) rfl rfl nkX11_qDrops mlX11_570 imX11_qDrops rfl slX11_qDrops rfl (Nat.le_of_ble_eq_true rfl) (Nat.le_of_ble_eq_true rfl) (kz198 Ln) h (fun z => rfl) (fun r8 φ8 α8 h => ?_)
      refine r_goto (pc' := 137) (kX11_qGoesOnTest_1 19 rfl) rfl ?_
      exact r_weak (L' := [(2, 198)]) ⟨Or.inl rfl, trivial⟩ (h Ln)
theorem vX11_qGoesOnTest_87 {d : Nat} {φ : aF} {α : aA} {Q : Int → aF → aA → Prop} (h : (eX11_qIsOn d 10 φ α (fun r1 φ1 α1 =>
   ((r1 = 0 →
   (0 ≤ (φ1 11 90 198) ∧ (φ1 11 90 198) < (1700 : Nat)) ∧ inR ((φ1 11 90 198) + 1) ∧ (Q 1 (upf φ1 11 90 198 ((φ1 11 90 198) + 1)) (upa α1 264 (φ1 11 90 198) 10))) ∧
   (¬ (r1 = 0) →
   (eX11_qDrops d  φ1 α1 (fun r5 φ5 α5 =>
     (jX11_qGoesOnTest_87 (d + 1)  φ5 α5 Q)))))))) : jX11_qGoesOnTest_87 (d + 1)  φ α Q := by
  intro Ln
  refine r_aload_n (pc' := 88) (kX11_qGoesOnTest_0 43 rfl) rfl rfl ?_
  refine r_bipush 10 (pc' := 90) (kX11_qGoesOnTest_0 44 rfl) rfl ⟨by unfold inR; omega, rfl⟩ ?_
  refine s_callV (As := [(0, 10)]) (o := 198) (S := []) (S2 := fun z => [(0, z)]) (pc' := 93) (kX11_qGoesOnTest_0 45 rfl) rfl rfl nkX11_qIsOn mlX11_597 imX11_qIsOn rfl slX11_qIsOn rfl (Nat.le_of_ble_eq_true rfl) (Nat.le_of_ble_eq_true rfl) (kz198 Ln) h (fun z => rfl) (fun r1 φ1 α1 h => ?_)
  refine r_if_eq (t := 103) (pc' := 96) (kX11_qGoesOnTest_0 46 rfl) rfl rfl (fun c2 => ?_) (fun c2 => ?_)
  · have h := h.1 c2
    refine r_aload_n (pc' := 104) (kX11_qGoesOnTest_0 50 rfl) rfl rfl ?_
    refine s_getr (v := 264) (pc' := 107) (kX11_qGoesOnTest_0 51 rfl) rfl fkX11_215 rfl rfl (kz198 Ln) rfl (by decide) ?_
    refine r_aload_n (pc' := 108) (kX11_qGoesOnTest_0 52 rfl) rfl rfl ?_
    refine s_get (x := (φ1 11 90 198)) (pc' := 111) (kX11_qGoesOnTest_0 53 rfl) rfl fkX11_318 rfl rfl rfl (kz198 Ln) rfl ?_
    refine r_bipush 10 (pc' := 113) (kX11_qGoesOnTest_0 54 rfl) rfl ⟨by unfold inR; omega, rfl⟩ ?_
    have g3 := h.1
    have h := h.2
    refine s_iast (pc' := 114) (kX11_qGoesOnTest_0 55 rfl) rfl (kz264 Ln) g3 ?_
    refine r_aload_n (pc' := 115) (kX11_qGoesOnTest_0 56 rfl) rfl rfl ?_
    refine r_dup (pc' := 116) (kX11_qGoesOnTest_0 57 rfl) rfl rfl ?_
    refine s_get (x := (φ1 11 90 198)) (pc' := 119) (kX11_qGoesOnTest_0 58 rfl) rfl fkX11_318 rfl rfl rfl (kz198 Ln) rfl ?_
    refine r_iconst 1 (pc' := 120) (kX11_qGoesOnTest_0 59 rfl) rfl (by unfold inR; omega) ?_
    have g4 := h.1
    have h := h.2
    refine r_iadd (pc' := 121) (kX11_qGoesOnTest_1 0 rfl) rfl g4 ?_
    refine s_put (pc' := 124) (kX11_qGoesOnTest_1 1 rfl) rfl fkX11_318 fnX11_90 rfl pk_int (kz198 Ln) ?_
    refine r_iconst 1 (pc' := 125) (kX11_qGoesOnTest_1 2 rfl) rfl (by unfold inR; omega) ?_
    exact s_zret (kX11_qGoesOnTest_1 3 rfl) rfl (Or.inr rfl) h
  · have h := h.2 c2
    refine r_aload_n (pc' := 97) (kX11_qGoesOnTest_0 47 rfl) rfl rfl ?_
    refine s_callV (As := []) (o := 198) (S := []) (S2 := fun z => []) (pc' := 100) (kX11_qGoesOnTest_0 48 rfl) rfl rfl nkX11_qDrops mlX11_570 imX11_qDrops rfl slX11_qDrops rfl (Nat.le_of_ble_eq_true rfl) (Nat.le_of_ble_eq_true rfl) (kz198 Ln) h (fun z => rfl) (fun r5 φ5 α5 h => ?_)
    refine r_goto (pc' := 87) (kX11_qGoesOnTest_0 49 rfl) rfl ?_
    exact r_weak (L' := [(2, 198)]) ⟨Or.inl rfl, trivial⟩ (h Ln)
abbrev jX11_qGoesOnTest_0 (d : Nat) (φ : aF) (α : aA) (Q : Int → aF → aA → Prop) : Prop := R0 d mX11_qGoesOnTest 0 [(2, 198)] [] φ α Q
theorem vX11_qGoesOnTest_33 {d : Nat} {φ : aF} {α : aA} {Q : Int → aF → aA → Prop} (h : (eX11_qIsOn d 25 φ α (fun r1 φ1 α1 =>
   ((¬ r1 = 0 →
   inR ((φ1 11 90 198) - 1) ∧ inR ((φ1 11 91 198) - 1) ∧ (eX11_qDropsNots d  (upf (upf φ1 11 90 198 ((φ1 11 90 198) - 1)) 11 91 198 ((φ1 11 91 198) - 1)) α1 (fun r5 φ5 α5 =>
     (jX11_qGoesOnTest_0 (d + 1)  φ5 α5 Q)))) ∧
   (r1 = 0 →
   (eX11_qDrops d  φ1 α1 (fun r6 φ6 α6 =>
     (jX11_qGoesOnTest_33 (d + 1)  φ6 α6 Q)))))))) : jX11_qGoesOnTest_33 (d + 1)  φ α Q := by
  intro Ln
  refine r_aload_n (pc' := 34) (kX11_qGoesOnTest_0 16 rfl) rfl rfl ?_
  refine r_bipush 25 (pc' := 36) (kX11_qGoesOnTest_0 17 rfl) rfl ⟨by unfold inR; omega, rfl⟩ ?_
  refine s_callV (As := [(0, 25)]) (o := 198) (S := []) (S2 := fun z => [(0, z)]) (pc' := 39) (kX11_qGoesOnTest_0 18 rfl) rfl rfl nkX11_qIsOn mlX11_597 imX11_qIsOn rfl slX11_qIsOn rfl (Nat.le_of_ble_eq_true rfl) (Nat.le_of_ble_eq_true rfl) (kz198 Ln) h (fun z => rfl) (fun r1 φ1 α1 h => ?_)
  refine r_if_ne (t := 49) (pc' := 42) (kX11_qGoesOnTest_0 19 rfl) rfl rfl (fun c2 => ?_) (fun c2 => ?_)
  · have h := h.1 c2
    refine r_aload_n (pc' := 50) (kX11_qGoesOnTest_0 23 rfl) rfl rfl ?_
    refine r_dup (pc' := 51) (kX11_qGoesOnTest_0 24 rfl) rfl rfl ?_
    refine s_get (x := (φ1 11 90 198)) (pc' := 54) (kX11_qGoesOnTest_0 25 rfl) rfl fkX11_318 rfl rfl rfl (kz198 Ln) rfl ?_
    refine r_iconst 1 (pc' := 55) (kX11_qGoesOnTest_0 26 rfl) rfl (by unfold inR; omega) ?_
    have g3 := h.1
    have h := h.2
    refine r_isub (pc' := 56) (kX11_qGoesOnTest_0 27 rfl) rfl g3 ?_
    refine s_put (pc' := 59) (kX11_qGoesOnTest_0 28 rfl) rfl fkX11_318 fnX11_90 rfl pk_int (kz198 Ln) ?_
    refine r_aload_n (pc' := 60) (kX11_qGoesOnTest_0 29 rfl) rfl rfl ?_
    refine r_dup (pc' := 61) (kX11_qGoesOnTest_0 30 rfl) rfl rfl ?_
    refine s_get (x := (φ1 11 91 198)) (pc' := 64) (kX11_qGoesOnTest_0 31 rfl) rfl fkX11_321 rfl rfl rfl (kz198 Ln) rfl ?_
    refine r_iconst 1 (pc' := 65) (kX11_qGoesOnTest_0 32 rfl) rfl (by unfold inR; omega) ?_
    have g4 := h.1
    have h := h.2
    refine r_isub (pc' := 66) (kX11_qGoesOnTest_0 33 rfl) rfl g4 ?_
    refine s_put (pc' := 69) (kX11_qGoesOnTest_0 34 rfl) rfl fkX11_321 fnX11_91 rfl pk_int (kz198 Ln) ?_
    refine r_aload_n (pc' := 70) (kX11_qGoesOnTest_0 35 rfl) rfl rfl ?_
    refine s_callV (As := []) (o := 198) (S := []) (S2 := fun z => []) (pc' := 73) (kX11_qGoesOnTest_0 36 rfl) rfl rfl nkX11_qDropsNots mlX11_609 imX11_qDropsNots rfl slX11_qDropsNots rfl (Nat.le_of_ble_eq_true rfl) (Nat.le_of_ble_eq_true rfl) (kz198 Ln) h (fun z => rfl) (fun r5 φ5 α5 h => ?_)
    refine r_goto (pc' := 0) (kX11_qGoesOnTest_0 37 rfl) rfl ?_
    exact r_weak (L' := [(2, 198)]) ⟨Or.inl rfl, trivial⟩ (h Ln)
  · have h := h.2 c2
    refine r_aload_n (pc' := 43) (kX11_qGoesOnTest_0 20 rfl) rfl rfl ?_
    refine s_callV (As := []) (o := 198) (S := []) (S2 := fun z => []) (pc' := 46) (kX11_qGoesOnTest_0 21 rfl) rfl rfl nkX11_qDrops mlX11_570 imX11_qDrops rfl slX11_qDrops rfl (Nat.le_of_ble_eq_true rfl) (Nat.le_of_ble_eq_true rfl) (kz198 Ln) h (fun z => rfl) (fun r6 φ6 α6 h => ?_)
    refine r_goto (pc' := 33) (kX11_qGoesOnTest_0 22 rfl) rfl ?_
    exact r_weak (L' := [(2, 198)]) ⟨Or.inl rfl, trivial⟩ (h Ln)
theorem vX11_qClip_0 {d : Nat} {φ : aF} {α : aA} {Q : Int → aF → aA → Prop} {x0 : Int} (h : (((j3 x0 1000000) ≤ 0 →
   ((0 ≤ (j3 x0 (-1000000)) →
     (Q x0 φ α)) ∧
     (¬ (0 ≤ (j3 x0 (-1000000))) →
     (Q (-1000000) φ α)))) ∧
   (¬ ((j3 x0 1000000) ≤ 0) →
   (Q 1000000 φ α)))) : eX11_qClip d x0 φ α Q := by
  intro Ln
  refine r_lload_n (pc' := 1) (kX11_qClip_0 0 rfl) rfl rfl ?_
  refine r_ldc2 1000000 (pc' := 4) (kX11_qClip_0 1 rfl) rfl kcX11_618 (by unfold inJ; omega) ?_
  refine r_lcmp (pc' := 5) (kX11_qClip_0 2 rfl) rfl ?_
  refine r_if_le (t := 14) (pc' := 8) (kX11_qClip_0 3 rfl) rfl rfl (fun c1 => ?_) (fun c1 => ?_)
  · have h := h.1 c1
    refine r_lload_n (pc' := 15) (kX11_qClip_0 6 rfl) rfl rfl ?_
    refine r_ldc2 (-1000000) (pc' := 18) (kX11_qClip_0 7 rfl) rfl kcX11_620 (by unfold inJ; omega) ?_
    refine r_lcmp (pc' := 19) (kX11_qClip_0 8 rfl) rfl ?_
    refine r_if_ge (t := 28) (pc' := 22) (kX11_qClip_0 9 rfl) rfl rfl (fun c2 => ?_) (fun c2 => ?_)
    · have h := h.1 c2
      refine r_lload_n (pc' := 29) (kX11_qClip_0 12 rfl) rfl rfl ?_
      exact s_lret (kX11_qClip_0 13 rfl) rfl h
    · have h := h.2 c2
      refine r_ldc2 (-1000000) (pc' := 25) (kX11_qClip_0 10 rfl) rfl kcX11_620 (by unfold inJ; omega) ?_
      refine r_goto (pc' := 29) (kX11_qClip_0 11 rfl) rfl ?_
      exact s_lret (kX11_qClip_0 13 rfl) rfl h
  · have h := h.2 c1
    refine r_ldc2 1000000 (pc' := 11) (kX11_qClip_0 4 rfl) rfl kcX11_618 (by unfold inJ; omega) ?_
    refine r_goto (pc' := 29) (kX11_qClip_0 5 rfl) rfl ?_
    exact s_lret (kX11_qClip_0 13 rfl) rfl h
theorem vX11_qFloor_0 {d : Nat} {φ : aF} {α : aA} {Q : Int → aF → aA → Prop} {x0 : Int} {x2 : Int} (h : ((¬ (j3 x2 0) = 0 →
   (x2 ≠ 0 ∧ inJ (Int.tdiv x0 x2)) ∧ (x2 ≠ 0 ∧ inJ (Int.tmod x0 x2)) ∧ (((j3 (Int.tmod x0 x2) 0) = 0 →
     (Q (Int.tdiv x0 x2) φ α)) ∧
     (¬ ((j3 (Int.tmod x0 x2) 0) = 0) →
     ((0 ≤ (j3 x0 0) →
       ((0 ≤ (j3 x2 0) →
         (Q (Int.tdiv x0 x2) φ α)) ∧
         (¬ (0 ≤ (j3 x2 0)) →
         inJ ((Int.tdiv x0 x2) - 1) ∧ (Q ((Int.tdiv x0 x2) - 1) φ α)))) ∧
       (¬ (0 ≤ (j3 x0 0)) →
       ((0 ≤ (j3 x2 0) →
         inJ ((Int.tdiv x0 x2) - 1) ∧ (Q ((Int.tdiv x0 x2) - 1) φ α)) ∧
         (¬ (0 ≤ (j3 x2 0)) →
         (Q (Int.tdiv x0 x2) φ α)))))))) ∧
   ((j3 x2 0) = 0 →
   (Q 0 φ α)))) : eX11_qFloor d x0 x2 φ α Q := by
  intro Ln
  refine r_lload_n (pc' := 1) (kX11_qFloor_0 0 rfl) rfl rfl ?_
  refine r_lconst 0 (pc' := 2) (kX11_qFloor_0 1 rfl) rfl ⟨by unfold inJ; omega, rfl⟩ ?_
  refine r_lcmp (pc' := 3) (kX11_qFloor_0 2 rfl) rfl ?_
  refine r_if_ne (t := 8) (pc' := 6) (kX11_qFloor_0 3 rfl) rfl rfl (fun c1 => ?_) (fun c1 => ?_)
  · have h := h.1 c1
    refine r_lload_n (pc' := 9) (kX11_qFloor_0 6 rfl) rfl rfl ?_
    refine r_lload_n (pc' := 10) (kX11_qFloor_0 7 rfl) rfl rfl ?_
    have g2 := h.1
    have h := h.2
    refine r_ldiv (pc' := 11) (kX11_qFloor_0 8 rfl) rfl g2 ?_
    refine r_lstore (L' := [(1, x0), (8, 0), (1, x2), (8, 0), (1, (Int.tdiv x0 x2)), (8, 0)]) (pc' := 13) (kX11_qFloor_0 9 rfl) rfl (Nat.le_of_ble_eq_true rfl) rfl ?_
    refine r_lload_n (pc' := 14) (kX11_qFloor_0 10 rfl) rfl rfl ?_
    refine r_lload_n (pc' := 15) (kX11_qFloor_0 11 rfl) rfl rfl ?_
    have g3 := h.1
    have h := h.2
    refine r_lrem (pc' := 16) (kX11_qFloor_0 12 rfl) rfl g3 ?_
    refine r_lconst 0 (pc' := 17) (kX11_qFloor_0 13 rfl) rfl ⟨by unfold inJ; omega, rfl⟩ ?_
    refine r_lcmp (pc' := 18) (kX11_qFloor_0 14 rfl) rfl ?_
    refine r_if_eq (t := 53) (pc' := 21) (kX11_qFloor_0 15 rfl) rfl rfl (fun c4 => ?_) (fun c4 => ?_)
    · have h := h.1 c4
      refine r_lload (pc' := 55) (kX11_qFloor_0 35 rfl) rfl rfl ?_
      exact s_lret (kX11_qFloor_0 36 rfl) rfl h
    · have h := h.2 c4
      refine r_lload_n (pc' := 22) (kX11_qFloor_0 16 rfl) rfl rfl ?_
      refine r_lconst 0 (pc' := 23) (kX11_qFloor_0 17 rfl) rfl ⟨by unfold inJ; omega, rfl⟩ ?_
      refine r_lcmp (pc' := 24) (kX11_qFloor_0 18 rfl) rfl ?_
      refine r_if_ge (t := 31) (pc' := 27) (kX11_qFloor_0 19 rfl) rfl rfl (fun c5 => ?_) (fun c5 => ?_)
      · have h := h.1 c5
        refine r_iconst 0 (pc' := 32) (kX11_qFloor_0 22 rfl) rfl (by unfold inR; omega) ?_
        refine r_lload_n (pc' := 33) (kX11_qFloor_0 23 rfl) rfl rfl ?_
        refine r_lconst 0 (pc' := 34) (kX11_qFloor_0 24 rfl) rfl ⟨by unfold inJ; omega, rfl⟩ ?_
        refine r_lcmp (pc' := 35) (kX11_qFloor_0 25 rfl) rfl ?_
        refine r_if_ge (t := 42) (pc' := 38) (kX11_qFloor_0 26 rfl) rfl rfl (fun c6 => ?_) (fun c6 => ?_)
        · have h := h.1 c6
          refine r_iconst 0 (pc' := 43) (kX11_qFloor_0 29 rfl) rfl (by unfold inR; omega) ?_
          refine r_icmp_eq (t := 53) (pc' := 46) (kX11_qFloor_0 30 rfl) rfl rfl (fun _ => ?_) (fun cz => absurd cz (by decide))
          refine r_lload (pc' := 55) (kX11_qFloor_0 35 rfl) rfl rfl ?_
          exact s_lret (kX11_qFloor_0 36 rfl) rfl h
        · have h := h.2 c6
          refine r_iconst 1 (pc' := 39) (kX11_qFloor_0 27 rfl) rfl (by unfold inR; omega) ?_
          refine r_goto (pc' := 43) (kX11_qFloor_0 28 rfl) rfl ?_
          refine r_icmp_eq (t := 53) (pc' := 46) (kX11_qFloor_0 30 rfl) rfl rfl (fun cz => absurd cz (by decide)) (fun _ => ?_)
          refine r_lload (pc' := 48) (kX11_qFloor_0 31 rfl) rfl rfl ?_
          refine r_lconst 1 (pc' := 49) (kX11_qFloor_0 32 rfl) rfl ⟨by unfold inJ; omega, rfl⟩ ?_
          have g7 := h.1
          have h := h.2
          refine r_lsub (pc' := 50) (kX11_qFloor_0 33 rfl) rfl g7 ?_
          refine r_goto (pc' := 55) (kX11_qFloor_0 34 rfl) rfl ?_
          exact s_lret (kX11_qFloor_0 36 rfl) rfl h
      · have h := h.2 c5
        refine r_iconst 1 (pc' := 28) (kX11_qFloor_0 20 rfl) rfl (by unfold inR; omega) ?_
        refine r_goto (pc' := 32) (kX11_qFloor_0 21 rfl) rfl ?_
        refine r_lload_n (pc' := 33) (kX11_qFloor_0 23 rfl) rfl rfl ?_
        refine r_lconst 0 (pc' := 34) (kX11_qFloor_0 24 rfl) rfl ⟨by unfold inJ; omega, rfl⟩ ?_
        refine r_lcmp (pc' := 35) (kX11_qFloor_0 25 rfl) rfl ?_
        refine r_if_ge (t := 42) (pc' := 38) (kX11_qFloor_0 26 rfl) rfl rfl (fun c8 => ?_) (fun c8 => ?_)
        · have h := h.1 c8
          refine r_iconst 0 (pc' := 43) (kX11_qFloor_0 29 rfl) rfl (by unfold inR; omega) ?_
          refine r_icmp_eq (t := 53) (pc' := 46) (kX11_qFloor_0 30 rfl) rfl rfl (fun cz => absurd cz (by decide)) (fun _ => ?_)
          refine r_lload (pc' := 48) (kX11_qFloor_0 31 rfl) rfl rfl ?_
          refine r_lconst 1 (pc' := 49) (kX11_qFloor_0 32 rfl) rfl ⟨by unfold inJ; omega, rfl⟩ ?_
          have g9 := h.1
          have h := h.2
          refine r_lsub (pc' := 50) (kX11_qFloor_0 33 rfl) rfl g9 ?_
          refine r_goto (pc' := 55) (kX11_qFloor_0 34 rfl) rfl ?_
          exact s_lret (kX11_qFloor_0 36 rfl) rfl h
        · have h := h.2 c8
          refine r_iconst 1 (pc' := 39) (kX11_qFloor_0 27 rfl) rfl (by unfold inR; omega) ?_
          refine r_goto (pc' := 43) (kX11_qFloor_0 28 rfl) rfl ?_
          refine r_icmp_eq (t := 53) (pc' := 46) (kX11_qFloor_0 30 rfl) rfl rfl (fun _ => ?_) (fun cz => absurd cz (by decide))
          refine r_lload (pc' := 55) (kX11_qFloor_0 35 rfl) rfl rfl ?_
          exact s_lret (kX11_qFloor_0 36 rfl) rfl h
  · have h := h.2 c1
    refine r_lconst 0 (pc' := 7) (kX11_qFloor_0 4 rfl) rfl ⟨by unfold inJ; omega, rfl⟩ ?_
    exact s_lret (kX11_qFloor_0 5 rfl) rfl h
theorem vX11_qPuts_0 {d : Nat} {φ : aF} {α : aA} {Q : Int → aF → aA → Prop} {x1 : Int} (h : (0 ≤ (φ 11 94 198) ∧ (φ 11 94 198) < (1700 : Nat)) ∧ inR ((φ 11 94 198) + 1) ∧ (Q 0 (upf φ 11 94 198 ((φ 11 94 198) + 1)) (upa α 265 (φ 11 94 198) x1))) : eX11_qPuts d x1 φ α Q := by
  intro Ln
  refine r_aload_n (pc' := 1) (kX11_qPuts_0 0 rfl) rfl rfl ?_
  refine s_getr (v := 265) (pc' := 4) (kX11_qPuts_0 1 rfl) rfl fkX11_218 rfl rfl (kz198 Ln) rfl (by decide) ?_
  refine r_aload_n (pc' := 5) (kX11_qPuts_0 2 rfl) rfl rfl ?_
  refine s_get (x := (φ 11 94 198)) (pc' := 8) (kX11_qPuts_0 3 rfl) rfl fkX11_401 rfl rfl rfl (kz198 Ln) rfl ?_
  refine r_lload_n (pc' := 9) (kX11_qPuts_0 4 rfl) rfl rfl ?_
  have g1 := h.1
  have h := h.2
  refine s_last (pc' := 10) (kX11_qPuts_0 5 rfl) rfl (kz265 Ln) g1 ?_
  refine r_aload_n (pc' := 11) (kX11_qPuts_0 6 rfl) rfl rfl ?_
  refine r_dup (pc' := 12) (kX11_qPuts_0 7 rfl) rfl rfl ?_
  refine s_get (x := (φ 11 94 198)) (pc' := 15) (kX11_qPuts_0 8 rfl) rfl fkX11_401 rfl rfl rfl (kz198 Ln) rfl ?_
  refine r_iconst 1 (pc' := 16) (kX11_qPuts_0 9 rfl) rfl (by unfold inR; omega) ?_
  have g2 := h.1
  have h := h.2
  refine r_iadd (pc' := 17) (kX11_qPuts_0 10 rfl) rfl g2 ?_
  refine s_put (pc' := 20) (kX11_qPuts_0 11 rfl) rfl fkX11_401 fnX11_94 rfl pk_int (kz198 Ln) ?_
  exact s_vret (kX11_qPuts_0 12 rfl) rfl h
theorem vX11_qJoins_0 {d : Nat} {φ : aF} {α : aA} {Q : Int → aF → aA → Prop} {x1 : Int} (h : inR ((φ 11 94 198) - 1) ∧ (0 ≤ ((φ 11 94 198) - 1) ∧ ((φ 11 94 198) - 1) < (1700 : Nat)) ∧ inR ((φ 11 94 198) - 2) ∧ (0 ≤ ((φ 11 94 198) - 2) ∧ ((φ 11 94 198) - 2) < (1700 : Nat)) ∧ ((x1 = 1 →
   inJ ((α 265 ((φ 11 94 198) - 2)) + (α 265 ((φ 11 94 198) - 1))) ∧ (eX11_qClip d ((α 265 ((φ 11 94 198) - 2)) + (α 265 ((φ 11 94 198) - 1))) (upf φ 11 94 198 ((φ 11 94 198) - 2)) α (fun r11 φ11 α11 =>
     (eX11_qPuts d r11 φ11 α11 (fun r12 φ12 α12 =>
     (Q 0 φ12 α12)))))) ∧
   ((x1 = 2 →
   inJ ((α 265 ((φ 11 94 198) - 2)) - (α 265 ((φ 11 94 198) - 1))) ∧ (eX11_qClip d ((α 265 ((φ 11 94 198) - 2)) - (α 265 ((φ 11 94 198) - 1))) (upf φ 11 94 198 ((φ 11 94 198) - 2)) α (fun r14 φ14 α14 =>
     (eX11_qPuts d r14 φ14 α14 (fun r15 φ15 α15 =>
     (Q 0 φ15 α15)))))) ∧
   ((x1 = 3 →
   inJ ((α 265 ((φ 11 94 198) - 2)) * (α 265 ((φ 11 94 198) - 1))) ∧ (eX11_qClip d ((α 265 ((φ 11 94 198) - 2)) * (α 265 ((φ 11 94 198) - 1))) (upf φ 11 94 198 ((φ 11 94 198) - 2)) α (fun r17 φ17 α17 =>
     (eX11_qPuts d r17 φ17 α17 (fun r18 φ18 α18 =>
     (Q 0 φ18 α18)))))) ∧
   ((x1 = 4 →
   (eX11_qFloor d (α 265 ((φ 11 94 198) - 2)) (α 265 ((φ 11 94 198) - 1)) (upf φ 11 94 198 ((φ 11 94 198) - 2)) α (fun r19 φ19 α19 =>
     (eX11_qPuts d r19 φ19 α19 (fun r20 φ20 α20 =>
     (Q 0 φ20 α20)))))) ∧
   ((x1 = 5 →
   ((0 ≤ (j3 (α 265 ((φ 11 94 198) - 2)) (α 265 ((φ 11 94 198) - 1))) →
     (eX11_qPuts d (α 265 ((φ 11 94 198) - 1)) (upf φ 11 94 198 ((φ 11 94 198) - 2)) α (fun r22 φ22 α22 =>
       (Q 0 φ22 α22)))) ∧
     (¬ (0 ≤ (j3 (α 265 ((φ 11 94 198) - 2)) (α 265 ((φ 11 94 198) - 1)))) →
     (eX11_qPuts d (α 265 ((φ 11 94 198) - 2)) (upf φ 11 94 198 ((φ 11 94 198) - 2)) α (fun r23 φ23 α23 =>
       (Q 0 φ23 α23)))))) ∧
   ((x1 = 6 →
   (((j3 (α 265 ((φ 11 94 198) - 2)) (α 265 ((φ 11 94 198) - 1))) ≤ 0 →
     (eX11_qPuts d (α 265 ((φ 11 94 198) - 1)) (upf φ 11 94 198 ((φ 11 94 198) - 2)) α (fun r25 φ25 α25 =>
       (Q 0 φ25 α25)))) ∧
     (¬ ((j3 (α 265 ((φ 11 94 198) - 2)) (α 265 ((φ 11 94 198) - 1))) ≤ 0) →
     (eX11_qPuts d (α 265 ((φ 11 94 198) - 2)) (upf φ 11 94 198 ((φ 11 94 198) - 2)) α (fun r26 φ26 α26 =>
       (Q 0 φ26 α26)))))) ∧
   ((x1 = 7 →
   ((0 ≤ (j3 (α 265 ((φ 11 94 198) - 2)) (α 265 ((φ 11 94 198) - 1))) →
     (eX11_qPuts d 0 (upf φ 11 94 198 ((φ 11 94 198) - 2)) α (fun r28 φ28 α28 =>
       (Q 0 φ28 α28)))) ∧
     (¬ (0 ≤ (j3 (α 265 ((φ 11 94 198) - 2)) (α 265 ((φ 11 94 198) - 1)))) →
     (eX11_qPuts d 1 (upf φ 11 94 198 ((φ 11 94 198) - 2)) α (fun r29 φ29 α29 =>
       (Q 0 φ29 α29)))))) ∧
   ((x1 = 8 →
   (((j3 (α 265 ((φ 11 94 198) - 2)) (α 265 ((φ 11 94 198) - 1))) ≤ 0 →
     (eX11_qPuts d 0 (upf φ 11 94 198 ((φ 11 94 198) - 2)) α (fun r31 φ31 α31 =>
       (Q 0 φ31 α31)))) ∧
     (¬ ((j3 (α 265 ((φ 11 94 198) - 2)) (α 265 ((φ 11 94 198) - 1))) ≤ 0) →
     (eX11_qPuts d 1 (upf φ 11 94 198 ((φ 11 94 198) - 2)) α (fun r32 φ32 α32 =>
       (Q 0 φ32 α32)))))) ∧
   ((x1 = 9 →
   ((¬ (j3 (α 265 ((φ 11 94 198) - 2)) (α 265 ((φ 11 94 198) - 1))) = 0 →
     (eX11_qPuts d 0 (upf φ 11 94 198 ((φ 11 94 198) - 2)) α (fun r34 φ34 α34 =>
       (Q 0 φ34 α34)))) ∧
     ((j3 (α 265 ((φ 11 94 198) - 2)) (α 265 ((φ 11 94 198) - 1))) = 0 →
     (eX11_qPuts d 1 (upf φ 11 94 198 ((φ 11 94 198) - 2)) α (fun r35 φ35 α35 =>
       (Q 0 φ35 α35)))))) ∧
   ((x1 = 10 →
   inJ ((α 265 ((φ 11 94 198) - 2)) * (α 265 ((φ 11 94 198) - 1))) ∧ (eX11_qPuts d ((α 265 ((φ 11 94 198) - 2)) * (α 265 ((φ 11 94 198) - 1))) (upf φ 11 94 198 ((φ 11 94 198) - 2)) α (fun r37 φ37 α37 =>
     (Q 0 φ37 α37)))) ∧
   ((¬ x1 = 1 ∧ ¬ x1 = 2 ∧ ¬ x1 = 3 ∧ ¬ x1 = 4 ∧ ¬ x1 = 5 ∧ ¬ x1 = 6 ∧ ¬ x1 = 7 ∧ ¬ x1 = 8 ∧ ¬ x1 = 9 ∧ ¬ x1 = 10) →
   inJ ((α 265 ((φ 11 94 198) - 2)) + (α 265 ((φ 11 94 198) - 1))) ∧ (((j3 ((α 265 ((φ 11 94 198) - 2)) + (α 265 ((φ 11 94 198) - 1))) 0) ≤ 0 →
     (eX11_qPuts d 0 (upf φ 11 94 198 ((φ 11 94 198) - 2)) α (fun r8 φ8 α8 =>
       (Q 0 φ8 α8)))) ∧
     (¬ ((j3 ((α 265 ((φ 11 94 198) - 2)) + (α 265 ((φ 11 94 198) - 1))) 0) ≤ 0) →
     (eX11_qPuts d 1 (upf φ 11 94 198 ((φ 11 94 198) - 2)) α (fun r9 φ9 α9 =>
       (Q 0 φ9 α9))))))))))))))))) : eX11_qJoins (d + 1) x1 φ α Q := by
  intro Ln
  refine r_aload_n (pc' := 1) (kX11_qJoins_0 0 rfl) rfl rfl ?_
  refine s_getr (v := 265) (pc' := 4) (kX11_qJoins_0 1 rfl) rfl fkX11_218 rfl rfl (kz198 Ln) rfl (by decide) ?_
  refine r_aload_n (pc' := 5) (kX11_qJoins_0 2 rfl) rfl rfl ?_
  refine s_get (x := (φ 11 94 198)) (pc' := 8) (kX11_qJoins_0 3 rfl) rfl fkX11_401 rfl rfl rfl (kz198 Ln) rfl ?_
  refine r_iconst 1 (pc' := 9) (kX11_qJoins_0 4 rfl) rfl (by unfold inR; omega) ?_
  have g1 := h.1
  have h := h.2
  refine r_isub (pc' := 10) (kX11_qJoins_0 5 rfl) rfl g1 ?_
  have g2 := h.1
  have h := h.2
  refine s_lald (x := (α 265 ((φ 11 94 198) - 1))) (pc' := 11) (kX11_qJoins_0 6 rfl) rfl (kz265 Ln) g2 rfl ?_
  refine r_lstore_n (L' := [(2, 198), (0, x1), (1, (α 265 ((φ 11 94 198) - 1))), (8, 0), (9, 0), (9, 0)]) (pc' := 12) (kX11_qJoins_0 7 rfl) rfl (Nat.le_of_ble_eq_true rfl) rfl ?_
  refine r_aload_n (pc' := 13) (kX11_qJoins_0 8 rfl) rfl rfl ?_
  refine s_getr (v := 265) (pc' := 16) (kX11_qJoins_0 9 rfl) rfl fkX11_218 rfl rfl (kz198 Ln) rfl (by decide) ?_
  refine r_aload_n (pc' := 17) (kX11_qJoins_0 10 rfl) rfl rfl ?_
  refine s_get (x := (φ 11 94 198)) (pc' := 20) (kX11_qJoins_0 11 rfl) rfl fkX11_401 rfl rfl rfl (kz198 Ln) rfl ?_
  refine r_iconst 2 (pc' := 21) (kX11_qJoins_0 12 rfl) rfl (by unfold inR; omega) ?_
  have g3 := h.1
  have h := h.2
  refine r_isub (pc' := 22) (kX11_qJoins_0 13 rfl) rfl g3 ?_
  have g4 := h.1
  have h := h.2
  refine s_lald (x := (α 265 ((φ 11 94 198) - 2))) (pc' := 23) (kX11_qJoins_0 14 rfl) rfl (kz265 Ln) g4 rfl ?_
  refine r_lstore (L' := [(2, 198), (0, x1), (1, (α 265 ((φ 11 94 198) - 1))), (8, 0), (1, (α 265 ((φ 11 94 198) - 2))), (8, 0)]) (pc' := 25) (kX11_qJoins_0 15 rfl) rfl (Nat.le_of_ble_eq_true rfl) rfl ?_
  refine r_aload_n (pc' := 26) (kX11_qJoins_0 16 rfl) rfl rfl ?_
  refine r_dup (pc' := 27) (kX11_qJoins_0 17 rfl) rfl rfl ?_
  refine s_get (x := (φ 11 94 198)) (pc' := 30) (kX11_qJoins_0 18 rfl) rfl fkX11_401 rfl rfl rfl (kz198 Ln) rfl ?_
  refine r_iconst 2 (pc' := 31) (kX11_qJoins_0 19 rfl) rfl (by unfold inR; omega) ?_
  refine r_isub (pc' := 32) (kX11_qJoins_0 20 rfl) rfl g3 ?_
  refine s_put (pc' := 35) (kX11_qJoins_0 21 rfl) rfl fkX11_401 fnX11_94 rfl pk_int (kz198 Ln) ?_
  refine r_iload_n (pc' := 36) (kX11_qJoins_0 22 rfl) rfl rfl ?_
  have hD : (¬ x1 = 1 ∧ ¬ x1 = 2 ∧ ¬ x1 = 3 ∧ ¬ x1 = 4 ∧ ¬ x1 = 5 ∧ ¬ x1 = 6 ∧ ¬ x1 = 7 ∧ ¬ x1 = 8 ∧ ¬ x1 = 9 ∧ ¬ x1 = 10) → Rn (d + 1) mX11_qJoins 255 [(2, 198), (0, x1), (1, (α 265 ((φ 11 94 198) - 1))), (8, 0), (1, (α 265 ((φ 11 94 198) - 2))), (8, 0)] [] (K0 Ln) (mix (upf φ 11 94 198 ((φ 11 94 198) - 2))) (mixA α) (0, 0) (Q0 mX11_qJoins Ln Q) := by
    intro c0
    have h := h.2.2.2.2.2.2.2.2.2.2 c0
    refine r_aload_n (pc' := 256) (kX11_qJoins_1 47 rfl) rfl rfl ?_
    refine r_lload (pc' := 258) (kX11_qJoins_1 48 rfl) rfl rfl ?_
    refine r_lload_n (pc' := 259) (kX11_qJoins_1 49 rfl) rfl rfl ?_
    have g6 := h.1
    have h := h.2
    refine r_ladd (pc' := 260) (kX11_qJoins_1 50 rfl) rfl g6 ?_
    refine r_lconst 0 (pc' := 261) (kX11_qJoins_1 51 rfl) rfl ⟨by unfold inJ; omega, rfl⟩ ?_
    refine r_lcmp (pc' := 262) (kX11_qJoins_1 52 rfl) rfl ?_
    refine r_if_le (t := 269) (pc' := 265) (kX11_qJoins_1 53 rfl) rfl rfl (fun c7 => ?_) (fun c7 => ?_)
    · have h := h.1 c7
      refine r_lconst 0 (pc' := 270) (kX11_qJoins_1 56 rfl) rfl ⟨by unfold inJ; omega, rfl⟩ ?_
      refine s_callV (As := [(1, 0)]) (o := 198) (S := []) (S2 := fun z => []) (pc' := 273) (kX11_qJoins_1 57 rfl) rfl rfl nkX11_qPuts mlX11_404 imX11_qPuts rfl slX11_qPuts rfl (Nat.le_of_ble_eq_true rfl) (Nat.le_of_ble_eq_true rfl) (kz198 Ln) h (fun z => rfl) (fun r8 φ8 α8 h => ?_)
      exact s_vret (kX11_qJoins_1 58 rfl) rfl h
    · have h := h.2 c7
      refine r_lconst 1 (pc' := 266) (kX11_qJoins_1 54 rfl) rfl ⟨by unfold inJ; omega, rfl⟩ ?_
      refine r_goto (pc' := 270) (kX11_qJoins_1 55 rfl) rfl ?_
      refine s_callV (As := [(1, 1)]) (o := 198) (S := []) (S2 := fun z => []) (pc' := 273) (kX11_qJoins_1 57 rfl) rfl rfl nkX11_qPuts mlX11_404 imX11_qPuts rfl slX11_qPuts rfl (Nat.le_of_ble_eq_true rfl) (Nat.le_of_ble_eq_true rfl) (kz198 Ln) h (fun z => rfl) (fun r9 φ9 α9 h => ?_)
      exact s_vret (kX11_qJoins_1 58 rfl) rfl h
  by_cases c5_0 : x1 = 1
  · have h := h.1 c5_0
    refine r_tabIn (pc' := 92) 1 c5_0 (kX11_qJoins_0 23 rfl) (by decide) (by decide) rfl rfl ?_
    refine r_aload_n (pc' := 93) (kX11_qJoins_0 24 rfl) rfl rfl ?_
    refine r_lload (pc' := 95) (kX11_qJoins_0 25 rfl) rfl rfl ?_
    refine r_lload_n (pc' := 96) (kX11_qJoins_0 26 rfl) rfl rfl ?_
    have g10 := h.1
    have h := h.2
    refine r_ladd (pc' := 97) (kX11_qJoins_0 27 rfl) rfl g10 ?_
    refine s_callS (As := [(1, ((α 265 ((φ 11 94 198) - 2)) + (α 265 ((φ 11 94 198) - 1))))]) (S := [(2, 198)]) (S2 := fun z => [(1, z), (2, 198)]) (pc' := 100) (kX11_qJoins_0 28 rfl) rfl rfl nkX11_qClip mlX11_622 scX11_qClip rfl (Nat.le_of_ble_eq_true rfl) (Nat.le_of_ble_eq_true rfl) h (fun z => rfl) (fun r11 φ11 α11 h => ?_)
    refine s_callV (As := [(1, r11)]) (o := 198) (S := []) (S2 := fun z => []) (pc' := 103) (kX11_qJoins_0 29 rfl) rfl rfl nkX11_qPuts mlX11_404 imX11_qPuts rfl slX11_qPuts rfl (Nat.le_of_ble_eq_true rfl) (Nat.le_of_ble_eq_true rfl) (kz198 Ln) h (fun z => rfl) (fun r12 φ12 α12 h => ?_)
    refine r_goto (pc' := 273) (kX11_qJoins_0 30 rfl) rfl ?_
    exact s_vret (kX11_qJoins_1 58 rfl) rfl h
  by_cases c5_1 : x1 = 2
  · have h := h.2.1 c5_1
    refine r_tabIn (pc' := 106) 2 c5_1 (kX11_qJoins_0 23 rfl) (by decide) (by decide) rfl rfl ?_
    refine r_aload_n (pc' := 107) (kX11_qJoins_0 31 rfl) rfl rfl ?_
    refine r_lload (pc' := 109) (kX11_qJoins_0 32 rfl) rfl rfl ?_
    refine r_lload_n (pc' := 110) (kX11_qJoins_0 33 rfl) rfl rfl ?_
    have g13 := h.1
    have h := h.2
    refine r_lsub (pc' := 111) (kX11_qJoins_0 34 rfl) rfl g13 ?_
    refine s_callS (As := [(1, ((α 265 ((φ 11 94 198) - 2)) - (α 265 ((φ 11 94 198) - 1))))]) (S := [(2, 198)]) (S2 := fun z => [(1, z), (2, 198)]) (pc' := 114) (kX11_qJoins_0 35 rfl) rfl rfl nkX11_qClip mlX11_622 scX11_qClip rfl (Nat.le_of_ble_eq_true rfl) (Nat.le_of_ble_eq_true rfl) h (fun z => rfl) (fun r14 φ14 α14 h => ?_)
    refine s_callV (As := [(1, r14)]) (o := 198) (S := []) (S2 := fun z => []) (pc' := 117) (kX11_qJoins_0 36 rfl) rfl rfl nkX11_qPuts mlX11_404 imX11_qPuts rfl slX11_qPuts rfl (Nat.le_of_ble_eq_true rfl) (Nat.le_of_ble_eq_true rfl) (kz198 Ln) h (fun z => rfl) (fun r15 φ15 α15 h => ?_)
    refine r_goto (pc' := 273) (kX11_qJoins_0 37 rfl) rfl ?_
    exact s_vret (kX11_qJoins_1 58 rfl) rfl h
  by_cases c5_2 : x1 = 3
  · have h := h.2.2.1 c5_2
    refine r_tabIn (pc' := 120) 3 c5_2 (kX11_qJoins_0 23 rfl) (by decide) (by decide) rfl rfl ?_
    refine r_aload_n (pc' := 121) (kX11_qJoins_0 38 rfl) rfl rfl ?_
    refine r_lload (pc' := 123) (kX11_qJoins_0 39 rfl) rfl rfl ?_
    refine r_lload_n (pc' := 124) (kX11_qJoins_0 40 rfl) rfl rfl ?_
    have g16 := h.1
    have h := h.2
    refine r_lmul (pc' := 125) (kX11_qJoins_0 41 rfl) rfl g16 ?_
    refine s_callS (As := [(1, ((α 265 ((φ 11 94 198) - 2)) * (α 265 ((φ 11 94 198) - 1))))]) (S := [(2, 198)]) (S2 := fun z => [(1, z), (2, 198)]) (pc' := 128) (kX11_qJoins_0 42 rfl) rfl rfl nkX11_qClip mlX11_622 scX11_qClip rfl (Nat.le_of_ble_eq_true rfl) (Nat.le_of_ble_eq_true rfl) h (fun z => rfl) (fun r17 φ17 α17 h => ?_)
    refine s_callV (As := [(1, r17)]) (o := 198) (S := []) (S2 := fun z => []) (pc' := 131) (kX11_qJoins_0 43 rfl) rfl rfl nkX11_qPuts mlX11_404 imX11_qPuts rfl slX11_qPuts rfl (Nat.le_of_ble_eq_true rfl) (Nat.le_of_ble_eq_true rfl) (kz198 Ln) h (fun z => rfl) (fun r18 φ18 α18 h => ?_)
    refine r_goto (pc' := 273) (kX11_qJoins_0 44 rfl) rfl ?_
    exact s_vret (kX11_qJoins_1 58 rfl) rfl h
  by_cases c5_3 : x1 = 4
  · have h := h.2.2.2.1 c5_3
    refine r_tabIn (pc' := 134) 4 c5_3 (kX11_qJoins_0 23 rfl) (by decide) (by decide) rfl rfl ?_
    refine r_aload_n (pc' := 135) (kX11_qJoins_0 45 rfl) rfl rfl ?_
    refine r_lload (pc' := 137) (kX11_qJoins_0 46 rfl) rfl rfl ?_
    refine r_lload_n (pc' := 138) (kX11_qJoins_0 47 rfl) rfl rfl ?_
    refine s_callS (As := [(1, (α 265 ((φ 11 94 198) - 2))), (1, (α 265 ((φ 11 94 198) - 1)))]) (S := [(2, 198)]) (S2 := fun z => [(1, z), (2, 198)]) (pc' := 141) (kX11_qJoins_0 48 rfl) rfl rfl nkX11_qFloor mlX11_626 scX11_qFloor rfl (Nat.le_of_ble_eq_true rfl) (Nat.le_of_ble_eq_true rfl) h (fun z => rfl) (fun r19 φ19 α19 h => ?_)
    refine s_callV (As := [(1, r19)]) (o := 198) (S := []) (S2 := fun z => []) (pc' := 144) (kX11_qJoins_0 49 rfl) rfl rfl nkX11_qPuts mlX11_404 imX11_qPuts rfl slX11_qPuts rfl (Nat.le_of_ble_eq_true rfl) (Nat.le_of_ble_eq_true rfl) (kz198 Ln) h (fun z => rfl) (fun r20 φ20 α20 h => ?_)
    refine r_goto (pc' := 273) (kX11_qJoins_0 50 rfl) rfl ?_
    exact s_vret (kX11_qJoins_1 58 rfl) rfl h
  by_cases c5_4 : x1 = 5
  · have h := h.2.2.2.2.1 c5_4
    refine r_tabIn (pc' := 147) 5 c5_4 (kX11_qJoins_0 23 rfl) (by decide) (by decide) rfl rfl ?_
    refine r_aload_n (pc' := 148) (kX11_qJoins_0 51 rfl) rfl rfl ?_
    refine r_lload (pc' := 150) (kX11_qJoins_0 52 rfl) rfl rfl ?_
    refine r_lload_n (pc' := 151) (kX11_qJoins_0 53 rfl) rfl rfl ?_
    refine r_lcmp (pc' := 152) (kX11_qJoins_0 54 rfl) rfl ?_
    refine r_if_ge (t := 160) (pc' := 155) (kX11_qJoins_0 55 rfl) rfl rfl (fun c21 => ?_) (fun c21 => ?_)
    · have h := h.1 c21
      refine r_lload_n (pc' := 161) (kX11_qJoins_0 58 rfl) rfl rfl ?_
      refine s_callV (As := [(1, (α 265 ((φ 11 94 198) - 1)))]) (o := 198) (S := []) (S2 := fun z => []) (pc' := 164) (kX11_qJoins_0 59 rfl) rfl rfl nkX11_qPuts mlX11_404 imX11_qPuts rfl slX11_qPuts rfl (Nat.le_of_ble_eq_true rfl) (Nat.le_of_ble_eq_true rfl) (kz198 Ln) h (fun z => rfl) (fun r22 φ22 α22 h => ?_)
      refine r_goto (pc' := 273) (kX11_qJoins_1 0 rfl) rfl ?_
      exact s_vret (kX11_qJoins_1 58 rfl) rfl h
    · have h := h.2 c21
      refine r_lload (pc' := 157) (kX11_qJoins_0 56 rfl) rfl rfl ?_
      refine r_goto (pc' := 161) (kX11_qJoins_0 57 rfl) rfl ?_
      refine s_callV (As := [(1, (α 265 ((φ 11 94 198) - 2)))]) (o := 198) (S := []) (S2 := fun z => []) (pc' := 164) (kX11_qJoins_0 59 rfl) rfl rfl nkX11_qPuts mlX11_404 imX11_qPuts rfl slX11_qPuts rfl (Nat.le_of_ble_eq_true rfl) (Nat.le_of_ble_eq_true rfl) (kz198 Ln) h (fun z => rfl) (fun r23 φ23 α23 h => ?_)
      refine r_goto (pc' := 273) (kX11_qJoins_1 0 rfl) rfl ?_
      exact s_vret (kX11_qJoins_1 58 rfl) rfl h
  by_cases c5_5 : x1 = 6
  · have h := h.2.2.2.2.2.1 c5_5
    refine r_tabIn (pc' := 167) 6 c5_5 (kX11_qJoins_0 23 rfl) (by decide) (by decide) rfl rfl ?_
    refine r_aload_n (pc' := 168) (kX11_qJoins_1 1 rfl) rfl rfl ?_
    refine r_lload (pc' := 170) (kX11_qJoins_1 2 rfl) rfl rfl ?_
    refine r_lload_n (pc' := 171) (kX11_qJoins_1 3 rfl) rfl rfl ?_
    refine r_lcmp (pc' := 172) (kX11_qJoins_1 4 rfl) rfl ?_
    refine r_if_le (t := 180) (pc' := 175) (kX11_qJoins_1 5 rfl) rfl rfl (fun c24 => ?_) (fun c24 => ?_)
    · have h := h.1 c24
      refine r_lload_n (pc' := 181) (kX11_qJoins_1 8 rfl) rfl rfl ?_
      refine s_callV (As := [(1, (α 265 ((φ 11 94 198) - 1)))]) (o := 198) (S := []) (S2 := fun z => []) (pc' := 184) (kX11_qJoins_1 9 rfl) rfl rfl nkX11_qPuts mlX11_404 imX11_qPuts rfl slX11_qPuts rfl (Nat.le_of_ble_eq_true rfl) (Nat.le_of_ble_eq_true rfl) (kz198 Ln) h (fun z => rfl) (fun r25 φ25 α25 h => ?_)
      refine r_goto (pc' := 273) (kX11_qJoins_1 10 rfl) rfl ?_
      exact s_vret (kX11_qJoins_1 58 rfl) rfl h
    · have h := h.2 c24
      refine r_lload (pc' := 177) (kX11_qJoins_1 6 rfl) rfl rfl ?_
      refine r_goto (pc' := 181) (kX11_qJoins_1 7 rfl) rfl ?_
      refine s_callV (As := [(1, (α 265 ((φ 11 94 198) - 2)))]) (o := 198) (S := []) (S2 := fun z => []) (pc' := 184) (kX11_qJoins_1 9 rfl) rfl rfl nkX11_qPuts mlX11_404 imX11_qPuts rfl slX11_qPuts rfl (Nat.le_of_ble_eq_true rfl) (Nat.le_of_ble_eq_true rfl) (kz198 Ln) h (fun z => rfl) (fun r26 φ26 α26 h => ?_)
      refine r_goto (pc' := 273) (kX11_qJoins_1 10 rfl) rfl ?_
      exact s_vret (kX11_qJoins_1 58 rfl) rfl h
  by_cases c5_6 : x1 = 7
  · have h := h.2.2.2.2.2.2.1 c5_6
    refine r_tabIn (pc' := 187) 7 c5_6 (kX11_qJoins_0 23 rfl) (by decide) (by decide) rfl rfl ?_
    refine r_aload_n (pc' := 188) (kX11_qJoins_1 11 rfl) rfl rfl ?_
    refine r_lload (pc' := 190) (kX11_qJoins_1 12 rfl) rfl rfl ?_
    refine r_lload_n (pc' := 191) (kX11_qJoins_1 13 rfl) rfl rfl ?_
    refine r_lcmp (pc' := 192) (kX11_qJoins_1 14 rfl) rfl ?_
    refine r_if_ge (t := 199) (pc' := 195) (kX11_qJoins_1 15 rfl) rfl rfl (fun c27 => ?_) (fun c27 => ?_)
    · have h := h.1 c27
      refine r_lconst 0 (pc' := 200) (kX11_qJoins_1 18 rfl) rfl ⟨by unfold inJ; omega, rfl⟩ ?_
      refine s_callV (As := [(1, 0)]) (o := 198) (S := []) (S2 := fun z => []) (pc' := 203) (kX11_qJoins_1 19 rfl) rfl rfl nkX11_qPuts mlX11_404 imX11_qPuts rfl slX11_qPuts rfl (Nat.le_of_ble_eq_true rfl) (Nat.le_of_ble_eq_true rfl) (kz198 Ln) h (fun z => rfl) (fun r28 φ28 α28 h => ?_)
      refine r_goto (pc' := 273) (kX11_qJoins_1 20 rfl) rfl ?_
      exact s_vret (kX11_qJoins_1 58 rfl) rfl h
    · have h := h.2 c27
      refine r_lconst 1 (pc' := 196) (kX11_qJoins_1 16 rfl) rfl ⟨by unfold inJ; omega, rfl⟩ ?_
      refine r_goto (pc' := 200) (kX11_qJoins_1 17 rfl) rfl ?_
      refine s_callV (As := [(1, 1)]) (o := 198) (S := []) (S2 := fun z => []) (pc' := 203) (kX11_qJoins_1 19 rfl) rfl rfl nkX11_qPuts mlX11_404 imX11_qPuts rfl slX11_qPuts rfl (Nat.le_of_ble_eq_true rfl) (Nat.le_of_ble_eq_true rfl) (kz198 Ln) h (fun z => rfl) (fun r29 φ29 α29 h => ?_)
      refine r_goto (pc' := 273) (kX11_qJoins_1 20 rfl) rfl ?_
      exact s_vret (kX11_qJoins_1 58 rfl) rfl h
  by_cases c5_7 : x1 = 8
  · have h := h.2.2.2.2.2.2.2.1 c5_7
    refine r_tabIn (pc' := 206) 8 c5_7 (kX11_qJoins_0 23 rfl) (by decide) (by decide) rfl rfl ?_
    refine r_aload_n (pc' := 207) (kX11_qJoins_1 21 rfl) rfl rfl ?_
    refine r_lload (pc' := 209) (kX11_qJoins_1 22 rfl) rfl rfl ?_
    refine r_lload_n (pc' := 210) (kX11_qJoins_1 23 rfl) rfl rfl ?_
    refine r_lcmp (pc' := 211) (kX11_qJoins_1 24 rfl) rfl ?_
    refine r_if_le (t := 218) (pc' := 214) (kX11_qJoins_1 25 rfl) rfl rfl (fun c30 => ?_) (fun c30 => ?_)
    · have h := h.1 c30
      refine r_lconst 0 (pc' := 219) (kX11_qJoins_1 28 rfl) rfl ⟨by unfold inJ; omega, rfl⟩ ?_
      refine s_callV (As := [(1, 0)]) (o := 198) (S := []) (S2 := fun z => []) (pc' := 222) (kX11_qJoins_1 29 rfl) rfl rfl nkX11_qPuts mlX11_404 imX11_qPuts rfl slX11_qPuts rfl (Nat.le_of_ble_eq_true rfl) (Nat.le_of_ble_eq_true rfl) (kz198 Ln) h (fun z => rfl) (fun r31 φ31 α31 h => ?_)
      refine r_goto (pc' := 273) (kX11_qJoins_1 30 rfl) rfl ?_
      exact s_vret (kX11_qJoins_1 58 rfl) rfl h
    · have h := h.2 c30
      refine r_lconst 1 (pc' := 215) (kX11_qJoins_1 26 rfl) rfl ⟨by unfold inJ; omega, rfl⟩ ?_
      refine r_goto (pc' := 219) (kX11_qJoins_1 27 rfl) rfl ?_
      refine s_callV (As := [(1, 1)]) (o := 198) (S := []) (S2 := fun z => []) (pc' := 222) (kX11_qJoins_1 29 rfl) rfl rfl nkX11_qPuts mlX11_404 imX11_qPuts rfl slX11_qPuts rfl (Nat.le_of_ble_eq_true rfl) (Nat.le_of_ble_eq_true rfl) (kz198 Ln) h (fun z => rfl) (fun r32 φ32 α32 h => ?_)
      refine r_goto (pc' := 273) (kX11_qJoins_1 30 rfl) rfl ?_
      exact s_vret (kX11_qJoins_1 58 rfl) rfl h
  by_cases c5_8 : x1 = 9
  · have h := h.2.2.2.2.2.2.2.2.1 c5_8
    refine r_tabIn (pc' := 225) 9 c5_8 (kX11_qJoins_0 23 rfl) (by decide) (by decide) rfl rfl ?_
    refine r_aload_n (pc' := 226) (kX11_qJoins_1 31 rfl) rfl rfl ?_
    refine r_lload (pc' := 228) (kX11_qJoins_1 32 rfl) rfl rfl ?_
    refine r_lload_n (pc' := 229) (kX11_qJoins_1 33 rfl) rfl rfl ?_
    refine r_lcmp (pc' := 230) (kX11_qJoins_1 34 rfl) rfl ?_
    refine r_if_ne (t := 237) (pc' := 233) (kX11_qJoins_1 35 rfl) rfl rfl (fun c33 => ?_) (fun c33 => ?_)
    · have h := h.1 c33
      refine r_lconst 0 (pc' := 238) (kX11_qJoins_1 38 rfl) rfl ⟨by unfold inJ; omega, rfl⟩ ?_
      refine s_callV (As := [(1, 0)]) (o := 198) (S := []) (S2 := fun z => []) (pc' := 241) (kX11_qJoins_1 39 rfl) rfl rfl nkX11_qPuts mlX11_404 imX11_qPuts rfl slX11_qPuts rfl (Nat.le_of_ble_eq_true rfl) (Nat.le_of_ble_eq_true rfl) (kz198 Ln) h (fun z => rfl) (fun r34 φ34 α34 h => ?_)
      refine r_goto (pc' := 273) (kX11_qJoins_1 40 rfl) rfl ?_
      exact s_vret (kX11_qJoins_1 58 rfl) rfl h
    · have h := h.2 c33
      refine r_lconst 1 (pc' := 234) (kX11_qJoins_1 36 rfl) rfl ⟨by unfold inJ; omega, rfl⟩ ?_
      refine r_goto (pc' := 238) (kX11_qJoins_1 37 rfl) rfl ?_
      refine s_callV (As := [(1, 1)]) (o := 198) (S := []) (S2 := fun z => []) (pc' := 241) (kX11_qJoins_1 39 rfl) rfl rfl nkX11_qPuts mlX11_404 imX11_qPuts rfl slX11_qPuts rfl (Nat.le_of_ble_eq_true rfl) (Nat.le_of_ble_eq_true rfl) (kz198 Ln) h (fun z => rfl) (fun r35 φ35 α35 h => ?_)
      refine r_goto (pc' := 273) (kX11_qJoins_1 40 rfl) rfl ?_
      exact s_vret (kX11_qJoins_1 58 rfl) rfl h
  by_cases c5_9 : x1 = 10
  · have h := h.2.2.2.2.2.2.2.2.2.1 c5_9
    refine r_tabIn (pc' := 244) 10 c5_9 (kX11_qJoins_0 23 rfl) (by decide) (by decide) rfl rfl ?_
    refine r_aload_n (pc' := 245) (kX11_qJoins_1 41 rfl) rfl rfl ?_
    refine r_lload (pc' := 247) (kX11_qJoins_1 42 rfl) rfl rfl ?_
    refine r_lload_n (pc' := 248) (kX11_qJoins_1 43 rfl) rfl rfl ?_
    have g36 := h.1
    have h := h.2
    refine r_lmul (pc' := 249) (kX11_qJoins_1 44 rfl) rfl g36 ?_
    refine s_callV (As := [(1, ((α 265 ((φ 11 94 198) - 2)) * (α 265 ((φ 11 94 198) - 1))))]) (o := 198) (S := []) (S2 := fun z => []) (pc' := 252) (kX11_qJoins_1 45 rfl) rfl rfl nkX11_qPuts mlX11_404 imX11_qPuts rfl slX11_qPuts rfl (Nat.le_of_ble_eq_true rfl) (Nat.le_of_ble_eq_true rfl) (kz198 Ln) h (fun z => rfl) (fun r37 φ37 α37 h => ?_)
    refine r_goto (pc' := 273) (kX11_qJoins_1 46 rfl) rfl ?_
    exact s_vret (kX11_qJoins_1 58 rfl) rfl h
  have hD := hD ⟨c5_0, c5_1, c5_2, c5_3, c5_4, c5_5, c5_6, c5_7, c5_8, c5_9⟩
  exact r_tabOut (pc' := 255) (kX11_qJoins_0 23 rfl) (by omega) rfl hD
theorem vX11_qPartOf_0 {d : Nat} {φ : aF} {α : aA} {Q : Int → aF → aA → Prop} {x1 : Int} {x2 : Int} (h : ((x1 = 0 →
   (eX11_fullOf d x2 φ α (fun r3 φ3 α3 =>
     (Q r3 φ3 α3)))) ∧
   ((x1 = 1 →
   (eX11_roomOf d x2 φ α (fun r4 φ4 α4 =>
     (Q r4 φ4 α4)))) ∧
   ((x1 = 2 →
   (eX11_seatOf d x2 φ α (fun r5 φ5 α5 =>
     (Q r5 φ5 α5)))) ∧
   ((x1 = 3 →
   (Q (α 233 0) φ α)) ∧
   ((x1 = 4 →
   (eX11_dropsOf d x2 (φ 11 50 198) φ α (fun r6 φ6 α6 =>
     (Q r6 φ6 α6)))) ∧
   ((x1 = 5 →
   (eX11_spaceOf d (φ 11 51 198) φ α (fun r7 φ7 α7 =>
     (Q r7 φ7 α7)))) ∧
   ((x1 = 6 →
   (Q (φ 11 50 198) φ α)) ∧
   ((x1 = 7 →
   (eX11_apart d x2 (φ 11 51 198) φ α (fun r8 φ8 α8 =>
     (Q r8 φ8 α8)))) ∧
   ((x1 = 8 →
   (Q x2 φ α)) ∧
   ((¬ x1 = 0 ∧ ¬ x1 = 1 ∧ ¬ x1 = 2 ∧ ¬ x1 = 3 ∧ ¬ x1 = 4 ∧ ¬ x1 = 5 ∧ ¬ x1 = 6 ∧ ¬ x1 = 7 ∧ ¬ x1 = 8) →
   (eX11_mindOf d x2 φ α (fun r2 φ2 α2 =>
     (Q r2 φ2 α2)))))))))))))) : eX11_qPartOf (d + 1) x1 x2 φ α Q := by
  intro Ln
  refine r_iload_n (pc' := 1) (kX11_qPartOf_0 0 rfl) rfl rfl ?_
  have hD : (¬ x1 = 0 ∧ ¬ x1 = 1 ∧ ¬ x1 = 2 ∧ ¬ x1 = 3 ∧ ¬ x1 = 4 ∧ ¬ x1 = 5 ∧ ¬ x1 = 6 ∧ ¬ x1 = 7 ∧ ¬ x1 = 8) → Rn (d + 1) mX11_qPartOf 122 [(2, 198), (0, x1), (0, x2)] [] (K0 Ln) (mix φ) (mixA α) (0, 0) (Q0 mX11_qPartOf Ln Q) := by
    intro c0
    have h := h.2.2.2.2.2.2.2.2.2 c0
    refine r_aload_n (pc' := 123) (kX11_qPartOf_0 50 rfl) rfl rfl ?_
    refine r_iload_n (pc' := 124) (kX11_qPartOf_0 51 rfl) rfl rfl ?_
    refine s_callV (As := [(0, x2)]) (o := 198) (S := []) (S2 := fun z => [(0, z)]) (pc' := 127) (kX11_qPartOf_0 52 rfl) rfl rfl nkX11_mindOf mlX11_464 imX11_mindOf rfl slX11_mindOf rfl (Nat.le_of_ble_eq_true rfl) (Nat.le_of_ble_eq_true rfl) (kz198 Ln) h (fun z => rfl) (fun r2 φ2 α2 h => ?_)
    refine r_i2l (pc' := 128) (kX11_qPartOf_0 53 rfl) rfl ?_
    exact s_lret (kX11_qPartOf_0 54 rfl) rfl h
  by_cases c1_0 : x1 = 0
  · have h := h.1 c1_0
    refine r_tabIn (pc' := 52) 0 c1_0 (kX11_qPartOf_0 1 rfl) (by decide) (by decide) rfl rfl ?_
    refine r_aload_n (pc' := 53) (kX11_qPartOf_0 2 rfl) rfl rfl ?_
    refine r_iload_n (pc' := 54) (kX11_qPartOf_0 3 rfl) rfl rfl ?_
    refine s_callV (As := [(0, x2)]) (o := 198) (S := []) (S2 := fun z => [(0, z)]) (pc' := 57) (kX11_qPartOf_0 4 rfl) rfl rfl nkX11_fullOf mlX11_392 imX11_fullOf rfl slX11_fullOf rfl (Nat.le_of_ble_eq_true rfl) (Nat.le_of_ble_eq_true rfl) (kz198 Ln) h (fun z => rfl) (fun r3 φ3 α3 h => ?_)
    refine r_i2l (pc' := 58) (kX11_qPartOf_0 5 rfl) rfl ?_
    exact s_lret (kX11_qPartOf_0 6 rfl) rfl h
  by_cases c1_1 : x1 = 1
  · have h := h.2.1 c1_1
    refine r_tabIn (pc' := 59) 1 c1_1 (kX11_qPartOf_0 1 rfl) (by decide) (by decide) rfl rfl ?_
    refine r_aload_n (pc' := 60) (kX11_qPartOf_0 7 rfl) rfl rfl ?_
    refine r_iload_n (pc' := 61) (kX11_qPartOf_0 8 rfl) rfl rfl ?_
    refine s_callV (As := [(0, x2)]) (o := 198) (S := []) (S2 := fun z => [(0, z)]) (pc' := 64) (kX11_qPartOf_0 9 rfl) rfl rfl nkX11_roomOf mlX11_389 imX11_roomOf rfl slX11_roomOf rfl (Nat.le_of_ble_eq_true rfl) (Nat.le_of_ble_eq_true rfl) (kz198 Ln) h (fun z => rfl) (fun r4 φ4 α4 h => ?_)
    refine r_i2l (pc' := 65) (kX11_qPartOf_0 10 rfl) rfl ?_
    exact s_lret (kX11_qPartOf_0 11 rfl) rfl h
  by_cases c1_2 : x1 = 2
  · have h := h.2.2.1 c1_2
    refine r_tabIn (pc' := 66) 2 c1_2 (kX11_qPartOf_0 1 rfl) (by decide) (by decide) rfl rfl ?_
    refine r_aload_n (pc' := 67) (kX11_qPartOf_0 12 rfl) rfl rfl ?_
    refine r_iload_n (pc' := 68) (kX11_qPartOf_0 13 rfl) rfl rfl ?_
    refine s_callV (As := [(0, x2)]) (o := 198) (S := []) (S2 := fun z => [(0, z)]) (pc' := 71) (kX11_qPartOf_0 14 rfl) rfl rfl nkX11_seatOf mlX11_395 imX11_seatOf rfl slX11_seatOf rfl (Nat.le_of_ble_eq_true rfl) (Nat.le_of_ble_eq_true rfl) (kz198 Ln) h (fun z => rfl) (fun r5 φ5 α5 h => ?_)
    refine r_i2l (pc' := 72) (kX11_qPartOf_0 15 rfl) rfl ?_
    exact s_lret (kX11_qPartOf_0 16 rfl) rfl h
  by_cases c1_3 : x1 = 3
  · have h := h.2.2.2.1 c1_3
    refine r_tabIn (pc' := 73) 3 c1_3 (kX11_qPartOf_0 1 rfl) (by decide) (by decide) rfl rfl ?_
    refine r_aload_n (pc' := 74) (kX11_qPartOf_0 17 rfl) rfl rfl ?_
    refine s_getr (v := 233) (pc' := 77) (kX11_qPartOf_0 18 rfl) rfl fkX11_118 rfl rfl (kz198 Ln) rfl (by decide) ?_
    refine r_iconst 0 (pc' := 78) (kX11_qPartOf_0 19 rfl) rfl (by unfold inR; omega) ?_
    refine s_iald (x := (α 233 0)) (pc' := 79) (kX11_qPartOf_0 20 rfl) rfl (kz233 Ln) ⟨by decide, by decide⟩ rfl ?_
    refine r_i2l (pc' := 80) (kX11_qPartOf_0 21 rfl) rfl ?_
    exact s_lret (kX11_qPartOf_0 22 rfl) rfl h
  by_cases c1_4 : x1 = 4
  · have h := h.2.2.2.2.1 c1_4
    refine r_tabIn (pc' := 81) 4 c1_4 (kX11_qPartOf_0 1 rfl) (by decide) (by decide) rfl rfl ?_
    refine r_aload_n (pc' := 82) (kX11_qPartOf_0 23 rfl) rfl rfl ?_
    refine r_iload_n (pc' := 83) (kX11_qPartOf_0 24 rfl) rfl rfl ?_
    refine r_aload_n (pc' := 84) (kX11_qPartOf_0 25 rfl) rfl rfl ?_
    refine s_get (x := (φ 11 50 198)) (pc' := 87) (kX11_qPartOf_0 26 rfl) rfl fkX11_418 rfl rfl rfl (kz198 Ln) rfl ?_
    refine s_callV (As := [(0, x2), (0, (φ 11 50 198))]) (o := 198) (S := []) (S2 := fun z => [(0, z)]) (pc' := 90) (kX11_qPartOf_0 27 rfl) rfl rfl nkX11_dropsOf mlX11_386 imX11_dropsOf rfl slX11_dropsOf rfl (Nat.le_of_ble_eq_true rfl) (Nat.le_of_ble_eq_true rfl) (kz198 Ln) h (fun z => rfl) (fun r6 φ6 α6 h => ?_)
    refine r_i2l (pc' := 91) (kX11_qPartOf_0 28 rfl) rfl ?_
    exact s_lret (kX11_qPartOf_0 29 rfl) rfl h
  by_cases c1_5 : x1 = 5
  · have h := h.2.2.2.2.2.1 c1_5
    refine r_tabIn (pc' := 92) 5 c1_5 (kX11_qPartOf_0 1 rfl) (by decide) (by decide) rfl rfl ?_
    refine r_aload_n (pc' := 93) (kX11_qPartOf_0 30 rfl) rfl rfl ?_
    refine r_aload_n (pc' := 94) (kX11_qPartOf_0 31 rfl) rfl rfl ?_
    refine s_get (x := (φ 11 51 198)) (pc' := 97) (kX11_qPartOf_0 32 rfl) rfl fkX11_421 rfl rfl rfl (kz198 Ln) rfl ?_
    refine s_callV (As := [(0, (φ 11 51 198))]) (o := 198) (S := []) (S2 := fun z => [(0, z)]) (pc' := 100) (kX11_qPartOf_0 33 rfl) rfl rfl nkX11_spaceOf mlX11_415 imX11_spaceOf rfl slX11_spaceOf rfl (Nat.le_of_ble_eq_true rfl) (Nat.le_of_ble_eq_true rfl) (kz198 Ln) h (fun z => rfl) (fun r7 φ7 α7 h => ?_)
    refine r_i2l (pc' := 101) (kX11_qPartOf_0 34 rfl) rfl ?_
    exact s_lret (kX11_qPartOf_0 35 rfl) rfl h
  by_cases c1_6 : x1 = 6
  · have h := h.2.2.2.2.2.2.1 c1_6
    refine r_tabIn (pc' := 102) 6 c1_6 (kX11_qPartOf_0 1 rfl) (by decide) (by decide) rfl rfl ?_
    refine r_aload_n (pc' := 103) (kX11_qPartOf_0 36 rfl) rfl rfl ?_
    refine s_get (x := (φ 11 50 198)) (pc' := 106) (kX11_qPartOf_0 37 rfl) rfl fkX11_418 rfl rfl rfl (kz198 Ln) rfl ?_
    refine r_i2l (pc' := 107) (kX11_qPartOf_0 38 rfl) rfl ?_
    exact s_lret (kX11_qPartOf_0 39 rfl) rfl h
  by_cases c1_7 : x1 = 7
  · have h := h.2.2.2.2.2.2.2.1 c1_7
    refine r_tabIn (pc' := 108) 7 c1_7 (kX11_qPartOf_0 1 rfl) (by decide) (by decide) rfl rfl ?_
    refine r_aload_n (pc' := 109) (kX11_qPartOf_0 40 rfl) rfl rfl ?_
    refine r_iload_n (pc' := 110) (kX11_qPartOf_0 41 rfl) rfl rfl ?_
    refine r_aload_n (pc' := 111) (kX11_qPartOf_0 42 rfl) rfl rfl ?_
    refine s_get (x := (φ 11 51 198)) (pc' := 114) (kX11_qPartOf_0 43 rfl) rfl fkX11_421 rfl rfl rfl (kz198 Ln) rfl ?_
    refine s_callV (As := [(0, x2), (0, (φ 11 51 198))]) (o := 198) (S := []) (S2 := fun z => [(0, z)]) (pc' := 117) (kX11_qPartOf_0 44 rfl) rfl rfl nkX11_apart mlX11_630 imX11_apart rfl slX11_apart rfl (Nat.le_of_ble_eq_true rfl) (Nat.le_of_ble_eq_true rfl) (kz198 Ln) h (fun z => rfl) (fun r8 φ8 α8 h => ?_)
    refine r_i2l (pc' := 118) (kX11_qPartOf_0 45 rfl) rfl ?_
    exact s_lret (kX11_qPartOf_0 46 rfl) rfl h
  by_cases c1_8 : x1 = 8
  · have h := h.2.2.2.2.2.2.2.2.1 c1_8
    refine r_tabIn (pc' := 119) 8 c1_8 (kX11_qPartOf_0 1 rfl) (by decide) (by decide) rfl rfl ?_
    refine r_iload_n (pc' := 120) (kX11_qPartOf_0 47 rfl) rfl rfl ?_
    refine r_i2l (pc' := 121) (kX11_qPartOf_0 48 rfl) rfl ?_
    exact s_lret (kX11_qPartOf_0 49 rfl) rfl h
  have hD := hD ⟨c1_0, c1_1, c1_2, c1_3, c1_4, c1_5, c1_6, c1_7, c1_8⟩
  exact r_tabOut (pc' := 122) (kX11_qPartOf_0 1 rfl) (by omega) rfl hD
theorem vX11_qOf_0 {d : Nat} {φ : aF} {α : aA} {Q : Int → aF → aA → Prop} {x1 : Int} {x2 : Int} {x4 : Int} (h : ((x1 = 0 →
   (eX11_isMatter d x2 φ α (fun r6 φ6 α6 =>
     ((r6 = 0 →
     (Q 0 φ6 α6)) ∧
     (¬ (r6 = 0) →
     inR x2 ∧ (eX11_dropsOf d x4 x2 φ6 α6 (fun r9 φ9 α9 =>
       (Q r9 φ9 α9)))))))) ∧
   ((¬ x1 = 0) →
   (eX11_isClerk d x2 φ α (fun r2 φ2 α2 =>
     ((r2 = 0 →
     (Q 0 φ2 α2)) ∧
     (¬ (r2 = 0) →
     inR x2 ∧ (eX11_apart d x4 x2 φ2 α2 (fun r5 φ5 α5 =>
       (Q r5 φ5 α5)))))))))) : eX11_qOf (d + 1) x1 x2 x4 φ α Q := by
  intro Ln
  refine r_iload_n (pc' := 1) (kX11_qOf_0 0 rfl) rfl rfl ?_
  have hD : (¬ x1 = 0) → Rn (d + 1) mX11_qOf 42 [(2, 198), (0, x1), (1, x2), (8, 0), (0, x4)] [] (K0 Ln) (mix φ) (mixA α) (0, 0) (Q0 mX11_qOf Ln Q) := by
    intro c0
    have h := h.2 c0
    refine r_aload_n (pc' := 43) (kX11_qOf_0 15 rfl) rfl rfl ?_
    refine r_lload_n (pc' := 44) (kX11_qOf_0 16 rfl) rfl rfl ?_
    refine s_callV (As := [(1, x2)]) (o := 198) (S := []) (S2 := fun z => [(0, z)]) (pc' := 47) (kX11_qOf_0 17 rfl) rfl rfl nkX11_isClerk mlX11_379 imX11_isClerk rfl slX11_isClerk rfl (Nat.le_of_ble_eq_true rfl) (Nat.le_of_ble_eq_true rfl) (kz198 Ln) h (fun z => rfl) (fun r2 φ2 α2 h => ?_)
    refine r_if_eq (t := 62) (pc' := 50) (kX11_qOf_0 18 rfl) rfl rfl (fun c3 => ?_) (fun c3 => ?_)
    · have h := h.1 c3
      refine r_lconst 0 (pc' := 63) (kX11_qOf_0 26 rfl) rfl ⟨by unfold inJ; omega, rfl⟩ ?_
      exact s_lret (kX11_qOf_0 27 rfl) rfl h
    · have h := h.2 c3
      refine r_aload_n (pc' := 51) (kX11_qOf_0 19 rfl) rfl rfl ?_
      refine r_iload (pc' := 53) (kX11_qOf_0 20 rfl) rfl rfl ?_
      refine r_lload_n (pc' := 54) (kX11_qOf_0 21 rfl) rfl rfl ?_
      have g4 := h.1
      have h := h.2
      refine r_l2i (pc' := 55) (kX11_qOf_0 22 rfl) rfl g4 ?_
      refine s_callV (As := [(0, x4), (0, x2)]) (o := 198) (S := []) (S2 := fun z => [(0, z)]) (pc' := 58) (kX11_qOf_0 23 rfl) rfl rfl nkX11_apart mlX11_630 imX11_apart rfl slX11_apart rfl (Nat.le_of_ble_eq_true rfl) (Nat.le_of_ble_eq_true rfl) (kz198 Ln) h (fun z => rfl) (fun r5 φ5 α5 h => ?_)
      refine r_i2l (pc' := 59) (kX11_qOf_0 24 rfl) rfl ?_
      refine r_goto (pc' := 63) (kX11_qOf_0 25 rfl) rfl ?_
      exact s_lret (kX11_qOf_0 27 rfl) rfl h
  by_cases c1_0 : x1 = 0
  · have h := h.1 c1_0
    refine r_lookup (pc' := 20) (kX11_qOf_0 1 rfl) rfl (by rw [c1_0]; try rfl) rfl ?_
    refine r_aload_n (pc' := 21) (kX11_qOf_0 2 rfl) rfl rfl ?_
    refine r_lload_n (pc' := 22) (kX11_qOf_0 3 rfl) rfl rfl ?_
    refine s_callV (As := [(1, x2)]) (o := 198) (S := []) (S2 := fun z => [(0, z)]) (pc' := 25) (kX11_qOf_0 4 rfl) rfl rfl nkX11_isMatter mlX11_383 imX11_isMatter rfl slX11_isMatter rfl (Nat.le_of_ble_eq_true rfl) (Nat.le_of_ble_eq_true rfl) (kz198 Ln) h (fun z => rfl) (fun r6 φ6 α6 h => ?_)
    refine r_if_eq (t := 40) (pc' := 28) (kX11_qOf_0 5 rfl) rfl rfl (fun c7 => ?_) (fun c7 => ?_)
    · have h := h.1 c7
      refine r_lconst 0 (pc' := 41) (kX11_qOf_0 13 rfl) rfl ⟨by unfold inJ; omega, rfl⟩ ?_
      exact s_lret (kX11_qOf_0 14 rfl) rfl h
    · have h := h.2 c7
      refine r_aload_n (pc' := 29) (kX11_qOf_0 6 rfl) rfl rfl ?_
      refine r_iload (pc' := 31) (kX11_qOf_0 7 rfl) rfl rfl ?_
      refine r_lload_n (pc' := 32) (kX11_qOf_0 8 rfl) rfl rfl ?_
      have g8 := h.1
      have h := h.2
      refine r_l2i (pc' := 33) (kX11_qOf_0 9 rfl) rfl g8 ?_
      refine s_callV (As := [(0, x4), (0, x2)]) (o := 198) (S := []) (S2 := fun z => [(0, z)]) (pc' := 36) (kX11_qOf_0 10 rfl) rfl rfl nkX11_dropsOf mlX11_386 imX11_dropsOf rfl slX11_dropsOf rfl (Nat.le_of_ble_eq_true rfl) (Nat.le_of_ble_eq_true rfl) (kz198 Ln) h (fun z => rfl) (fun r9 φ9 α9 h => ?_)
      refine r_i2l (pc' := 37) (kX11_qOf_0 11 rfl) rfl ?_
      refine r_goto (pc' := 41) (kX11_qOf_0 12 rfl) rfl ?_
      exact s_lret (kX11_qOf_0 14 rfl) rfl h
  have hD := hD c1_0
  exact r_lookup (pc' := 42) (kX11_qOf_0 1 rfl) rfl ((off_ne c1_0).trans rfl) rfl hD
abbrev jX11_qTold_7 (d : Nat) (x1 x2 : Int) (φ : aF) (α : aA) (Q : Int → aF → aA → Prop) : Prop := R0 d mX11_qTold 7 [(2, 198), (0, x1), (0, x2), (9, 0)] [] φ α Q
theorem vX11_qTold_0 {d : Nat} {φ : aF} {α : aA} {Q : Int → aF → aA → Prop} {x1 : Int} (h : (jX11_qTold_7 (d + 1) x1 0 (upf φ 11 94 198 0) α Q)) : eX11_qTold (d + 1) x1 φ α Q := by
  intro Ln
  refine r_aload_n (pc' := 1) (kX11_qTold_0 0 rfl) rfl rfl ?_
  refine r_iconst 0 (pc' := 2) (kX11_qTold_0 1 rfl) rfl (by unfold inR; omega) ?_
  refine s_put (pc' := 5) (kX11_qTold_0 2 rfl) rfl fkX11_401 fnX11_94 rfl pk_int (kz198 Ln) ?_
  refine r_iconst 0 (pc' := 6) (kX11_qTold_0 3 rfl) rfl (by unfold inR; omega) ?_
  refine r_istore_n (L' := [(2, 198), (0, x1), (0, 0), (9, 0)]) (pc' := 7) (kX11_qTold_0 4 rfl) rfl (Nat.le_of_ble_eq_true rfl) rfl ?_
  exact r_weak (L' := [(2, 198), (0, x1), (0, 0), (9, 0)]) ⟨Or.inl rfl, Or.inl rfl, Or.inl rfl, Or.inr (by decide), trivial⟩ (h Ln)
theorem vX11_qTold_7 {d : Nat} {φ : aF} {α : aA} {Q : Int → aF → aA → Prop} {x1 : Int} {x2 : Int} (h : (((φ 11 88 198) ≤ x2 →
   (Q (α 265 0) φ α)) ∧
   (¬ ((φ 11 88 198) ≤ x2) →
   (0 ≤ x2 ∧ x2 < (1700 : Nat)) ∧ (((α 263 x2) < 1000 →
     (((α 263 x2) < 60 →
       (((α 263 x2) < 40 →
         ((¬ (α 263 x2) = 13 →
           ((¬ (α 263 x2) = 12 →
             (eX11_qJoins d (α 263 x2) φ α (fun r8 φ8 α8 =>
               inR (x2 + 1) ∧ (jX11_qTold_7 (d + 1) x1 (x2 + 1) φ8 α8 Q)))) ∧
             ((α 263 x2) = 12 →
             inR ((φ 11 94 198) - 1) ∧ (0 ≤ ((φ 11 94 198) - 1) ∧ ((φ 11 94 198) - 1) < (1700 : Nat)) ∧ inJ (1 - (α 265 ((φ 11 94 198) - 1))) ∧ inR (x2 + 1) ∧ (jX11_qTold_7 (d + 1) x1 (x2 + 1) φ (upa α 265 ((φ 11 94 198) - 1) (1 - (α 265 ((φ 11 94 198) - 1)))) Q)))) ∧
           ((α 263 x2) = 13 →
           (eX11_qPuts d 1 φ α (fun r14 φ14 α14 =>
             inR (x2 + 1) ∧ (jX11_qTold_7 (d + 1) x1 (x2 + 1) φ14 α14 Q)))))) ∧
         (¬ ((α 263 x2) < 40) →
         inR ((α 263 x2) - 40) ∧ (eX11_qPartOf d ((α 263 x2) - 40) x1 φ α (fun r17 φ17 α17 =>
           (eX11_qClip d r17 φ17 α17 (fun r18 φ18 α18 =>
           (eX11_qPuts d r18 φ18 α18 (fun r19 φ19 α19 =>
           inR (x2 + 1) ∧ (jX11_qTold_7 (d + 1) x1 (x2 + 1) φ19 α19 Q)))))))))) ∧
       (¬ ((α 263 x2) < 60) →
       inR ((φ 11 94 198) - 1) ∧ inR ((α 263 x2) - 60) ∧ (0 ≤ ((φ 11 94 198) - 1) ∧ ((φ 11 94 198) - 1) < (1700 : Nat)) ∧ (eX11_qOf d ((α 263 x2) - 60) (α 265 ((φ 11 94 198) - 1)) x1 φ α (fun r24 φ24 α24 =>
         (eX11_qClip d r24 φ24 α24 (fun r25 φ25 α25 =>
         (0 ≤ ((φ 11 94 198) - 1) ∧ ((φ 11 94 198) - 1) < (1700 : Nat)) ∧ inR (x2 + 1) ∧ (jX11_qTold_7 (d + 1) x1 (x2 + 1) φ25 (upa α25 265 ((φ 11 94 198) - 1) r25) Q)))))))) ∧
     (¬ ((α 263 x2) < 1000) →
     inR ((α 263 x2) - 1000) ∧ (eX11_qPuts d ((α 263 x2) - 1000) φ α (fun r29 φ29 α29 =>
       inR (x2 + 1) ∧ (jX11_qTold_7 (d + 1) x1 (x2 + 1) φ29 α29 Q)))))))) : jX11_qTold_7 (d + 1) x1 x2 φ α Q := by
  intro Ln
  refine r_iload_n (pc' := 8) (kX11_qTold_0 5 rfl) rfl rfl ?_
  refine r_aload_n (pc' := 9) (kX11_qTold_0 6 rfl) rfl rfl ?_
  refine s_get (x := (φ 11 88 198)) (pc' := 12) (kX11_qTold_0 7 rfl) rfl fkX11_315 rfl rfl rfl (kz198 Ln) rfl ?_
  refine r_icmp_ge (t := 168) (pc' := 15) (kX11_qTold_0 8 rfl) rfl rfl (fun c1 => ?_) (fun c1 => ?_)
  · have h := h.1 c1
    refine r_aload_n (pc' := 169) (kX11_qTold_1 34 rfl) rfl rfl ?_
    refine s_getr (v := 265) (pc' := 172) (kX11_qTold_1 35 rfl) rfl fkX11_218 rfl rfl (kz198 Ln) rfl (by decide) ?_
    refine r_iconst 0 (pc' := 173) (kX11_qTold_1 36 rfl) rfl (by unfold inR; omega) ?_
    refine s_lald (x := (α 265 0)) (pc' := 174) (kX11_qTold_1 37 rfl) rfl (kz265 Ln) ⟨by decide, by decide⟩ rfl ?_
    exact s_lret (kX11_qTold_1 38 rfl) rfl h
  · have h := h.2 c1
    refine r_aload_n (pc' := 16) (kX11_qTold_0 9 rfl) rfl rfl ?_
    refine s_getr (v := 263) (pc' := 19) (kX11_qTold_0 10 rfl) rfl fkX11_212 rfl rfl (kz198 Ln) rfl (by decide) ?_
    refine r_iload_n (pc' := 20) (kX11_qTold_0 11 rfl) rfl rfl ?_
    have g2 := h.1
    have h := h.2
    refine s_iald (x := (α 263 x2)) (pc' := 21) (kX11_qTold_0 12 rfl) rfl (kz263 Ln) g2 rfl ?_
    refine r_istore_n (L' := [(2, 198), (0, x1), (0, x2), (0, (α 263 x2))]) (pc' := 22) (kX11_qTold_0 13 rfl) rfl (Nat.le_of_ble_eq_true rfl) rfl ?_
    refine r_iload_n (pc' := 23) (kX11_qTold_0 14 rfl) rfl rfl ?_
    refine r_sipush 1000 (pc' := 26) (kX11_qTold_0 15 rfl) rfl ⟨by unfold inR; omega, rfl⟩ ?_
    refine r_icmp_lt (t := 42) (pc' := 29) (kX11_qTold_0 16 rfl) rfl rfl (fun c3 => ?_) (fun c3 => ?_)
    · have h := h.1 c3
      refine r_iload_n (pc' := 43) (kX11_qTold_0 24 rfl) rfl rfl ?_
      refine r_bipush 60 (pc' := 45) (kX11_qTold_0 25 rfl) rfl ⟨by unfold inR; omega, rfl⟩ ?_
      refine r_icmp_lt (t := 85) (pc' := 48) (kX11_qTold_0 26 rfl) rfl rfl (fun c4 => ?_) (fun c4 => ?_)
      · have h := h.1 c4
        refine r_iload_n (pc' := 86) (kX11_qTold_0 49 rfl) rfl rfl ?_
        refine r_bipush 40 (pc' := 88) (kX11_qTold_0 50 rfl) rfl ⟨by unfold inR; omega, rfl⟩ ?_
        refine r_icmp_lt (t := 110) (pc' := 91) (kX11_qTold_0 51 rfl) rfl rfl (fun c5 => ?_) (fun c5 => ?_)
        · have h := h.1 c5
          refine r_iload_n (pc' := 111) (kX11_qTold_1 2 rfl) rfl rfl ?_
          refine r_bipush 13 (pc' := 113) (kX11_qTold_1 3 rfl) rfl ⟨by unfold inR; omega, rfl⟩ ?_
          refine r_icmp_ne (t := 124) (pc' := 116) (kX11_qTold_1 4 rfl) rfl rfl (fun c6 => ?_) (fun c6 => ?_)
          · have h := h.1 c6
            refine r_iload_n (pc' := 125) (kX11_qTold_1 9 rfl) rfl rfl ?_
            refine r_bipush 12 (pc' := 127) (kX11_qTold_1 10 rfl) rfl ⟨by unfold inR; omega, rfl⟩ ?_
            refine r_icmp_ne (t := 157) (pc' := 130) (kX11_qTold_1 11 rfl) rfl rfl (fun c7 => ?_) (fun c7 => ?_)
            · have h := h.1 c7
              refine r_aload_n (pc' := 158) (kX11_qTold_1 29 rfl) rfl rfl ?_
              refine r_iload_n (pc' := 159) (kX11_qTold_1 30 rfl) rfl rfl ?_
              refine s_callV (As := [(0, (α 263 x2))]) (o := 198) (S := []) (S2 := fun z => []) (pc' := 162) (kX11_qTold_1 31 rfl) rfl rfl nkX11_qJoins mlX11_412 imX11_qJoins rfl slX11_qJoins rfl (Nat.le_of_ble_eq_true rfl) (Nat.le_of_ble_eq_true rfl) (kz198 Ln) h (fun z => rfl) (fun r8 φ8 α8 h => ?_)
              have g9 := h.1
              have h := h.2
              refine r_iinc (L' := [(2, 198), (0, x1), (0, (x2 + 1)), (0, (α 263 x2))]) (pc' := 165) (kX11_qTold_1 32 rfl) rfl (Nat.le_of_ble_eq_true rfl) rfl g9 rfl ?_
              refine r_goto (pc' := 7) (kX11_qTold_1 33 rfl) rfl ?_
              exact r_weak (L' := [(2, 198), (0, x1), (0, (x2 + 1)), (9, 0)]) ⟨Or.inl rfl, Or.inl rfl, Or.inl rfl, Or.inr (by decide), trivial⟩ (h Ln)
            · have h := h.2 c7
              refine r_aload_n (pc' := 131) (kX11_qTold_1 12 rfl) rfl rfl ?_
              refine s_getr (v := 265) (pc' := 134) (kX11_qTold_1 13 rfl) rfl fkX11_218 rfl rfl (kz198 Ln) rfl (by decide) ?_
              refine r_aload_n (pc' := 135) (kX11_qTold_1 14 rfl) rfl rfl ?_
              refine s_get (x := (φ 11 94 198)) (pc' := 138) (kX11_qTold_1 15 rfl) rfl fkX11_401 rfl rfl rfl (kz198 Ln) rfl ?_
              refine r_iconst 1 (pc' := 139) (kX11_qTold_1 16 rfl) rfl (by unfold inR; omega) ?_
              have g10 := h.1
              have h := h.2
              refine r_isub (pc' := 140) (kX11_qTold_1 17 rfl) rfl g10 ?_
              refine r_lconst 1 (pc' := 141) (kX11_qTold_1 18 rfl) rfl ⟨by unfold inJ; omega, rfl⟩ ?_
              refine r_aload_n (pc' := 142) (kX11_qTold_1 19 rfl) rfl rfl ?_
              refine s_getr (v := 265) (pc' := 145) (kX11_qTold_1 20 rfl) rfl fkX11_218 rfl rfl (kz198 Ln) rfl (by decide) ?_
              refine r_aload_n (pc' := 146) (kX11_qTold_1 21 rfl) rfl rfl ?_
              refine s_get (x := (φ 11 94 198)) (pc' := 149) (kX11_qTold_1 22 rfl) rfl fkX11_401 rfl rfl rfl (kz198 Ln) rfl ?_
              refine r_iconst 1 (pc' := 150) (kX11_qTold_1 23 rfl) rfl (by unfold inR; omega) ?_
              refine r_isub (pc' := 151) (kX11_qTold_1 24 rfl) rfl g10 ?_
              have g11 := h.1
              have h := h.2
              refine s_lald (x := (α 265 ((φ 11 94 198) - 1))) (pc' := 152) (kX11_qTold_1 25 rfl) rfl (kz265 Ln) g11 rfl ?_
              have g12 := h.1
              have h := h.2
              refine r_lsub (pc' := 153) (kX11_qTold_1 26 rfl) rfl g12 ?_
              refine s_last (pc' := 154) (kX11_qTold_1 27 rfl) rfl (kz265 Ln) g11 ?_
              refine r_goto (pc' := 162) (kX11_qTold_1 28 rfl) rfl ?_
              have g13 := h.1
              have h := h.2
              refine r_iinc (L' := [(2, 198), (0, x1), (0, (x2 + 1)), (0, (α 263 x2))]) (pc' := 165) (kX11_qTold_1 32 rfl) rfl (Nat.le_of_ble_eq_true rfl) rfl g13 rfl ?_
              refine r_goto (pc' := 7) (kX11_qTold_1 33 rfl) rfl ?_
              exact r_weak (L' := [(2, 198), (0, x1), (0, (x2 + 1)), (9, 0)]) ⟨Or.inl rfl, Or.inl rfl, Or.inl rfl, Or.inr (by decide), trivial⟩ (h Ln)
          · have h := h.2 c6
            refine r_aload_n (pc' := 117) (kX11_qTold_1 5 rfl) rfl rfl ?_
            refine r_lconst 1 (pc' := 118) (kX11_qTold_1 6 rfl) rfl ⟨by unfold inJ; omega, rfl⟩ ?_
            refine s_callV (As := [(1, 1)]) (o := 198) (S := []) (S2 := fun z => []) (pc' := 121) (kX11_qTold_1 7 rfl) rfl rfl nkX11_qPuts mlX11_404 imX11_qPuts rfl slX11_qPuts rfl (Nat.le_of_ble_eq_true rfl) (Nat.le_of_ble_eq_true rfl) (kz198 Ln) h (fun z => rfl) (fun r14 φ14 α14 h => ?_)
            refine r_goto (pc' := 162) (kX11_qTold_1 8 rfl) rfl ?_
            have g15 := h.1
            have h := h.2
            refine r_iinc (L' := [(2, 198), (0, x1), (0, (x2 + 1)), (0, (α 263 x2))]) (pc' := 165) (kX11_qTold_1 32 rfl) rfl (Nat.le_of_ble_eq_true rfl) rfl g15 rfl ?_
            refine r_goto (pc' := 7) (kX11_qTold_1 33 rfl) rfl ?_
            exact r_weak (L' := [(2, 198), (0, x1), (0, (x2 + 1)), (9, 0)]) ⟨Or.inl rfl, Or.inl rfl, Or.inl rfl, Or.inr (by decide), trivial⟩ (h Ln)
        · have h := h.2 c5
          refine r_aload_n (pc' := 92) (kX11_qTold_0 52 rfl) rfl rfl ?_
          refine r_aload_n (pc' := 93) (kX11_qTold_0 53 rfl) rfl rfl ?_
          refine r_iload_n (pc' := 94) (kX11_qTold_0 54 rfl) rfl rfl ?_
          refine r_bipush 40 (pc' := 96) (kX11_qTold_0 55 rfl) rfl ⟨by unfold inR; omega, rfl⟩ ?_
          have g16 := h.1
          have h := h.2
          refine r_isub (pc' := 97) (kX11_qTold_0 56 rfl) rfl g16 ?_
          refine r_iload_n (pc' := 98) (kX11_qTold_0 57 rfl) rfl rfl ?_
          refine s_callV (As := [(0, ((α 263 x2) - 40)), (0, x1)]) (o := 198) (S := [(2, 198)]) (S2 := fun z => [(1, z), (2, 198)]) (pc' := 101) (kX11_qTold_0 58 rfl) rfl rfl nkX11_qPartOf mlX11_408 imX11_qPartOf rfl slX11_qPartOf rfl (Nat.le_of_ble_eq_true rfl) (Nat.le_of_ble_eq_true rfl) (kz198 Ln) h (fun z => rfl) (fun r17 φ17 α17 h => ?_)
          refine s_callS (As := [(1, r17)]) (S := [(2, 198)]) (S2 := fun z => [(1, z), (2, 198)]) (pc' := 104) (kX11_qTold_0 59 rfl) rfl rfl nkX11_qClip mlX11_622 scX11_qClip rfl (Nat.le_of_ble_eq_true rfl) (Nat.le_of_ble_eq_true rfl) h (fun z => rfl) (fun r18 φ18 α18 h => ?_)
          refine s_callV (As := [(1, r18)]) (o := 198) (S := []) (S2 := fun z => []) (pc' := 107) (kX11_qTold_1 0 rfl) rfl rfl nkX11_qPuts mlX11_404 imX11_qPuts rfl slX11_qPuts rfl (Nat.le_of_ble_eq_true rfl) (Nat.le_of_ble_eq_true rfl) (kz198 Ln) h (fun z => rfl) (fun r19 φ19 α19 h => ?_)
          refine r_goto (pc' := 162) (kX11_qTold_1 1 rfl) rfl ?_
          have g20 := h.1
          have h := h.2
          refine r_iinc (L' := [(2, 198), (0, x1), (0, (x2 + 1)), (0, (α 263 x2))]) (pc' := 165) (kX11_qTold_1 32 rfl) rfl (Nat.le_of_ble_eq_true rfl) rfl g20 rfl ?_
          refine r_goto (pc' := 7) (kX11_qTold_1 33 rfl) rfl ?_
          exact r_weak (L' := [(2, 198), (0, x1), (0, (x2 + 1)), (9, 0)]) ⟨Or.inl rfl, Or.inl rfl, Or.inl rfl, Or.inr (by decide), trivial⟩ (h Ln)
      · have h := h.2 c4
        refine r_aload_n (pc' := 49) (kX11_qTold_0 27 rfl) rfl rfl ?_
        refine s_getr (v := 265) (pc' := 52) (kX11_qTold_0 28 rfl) rfl fkX11_218 rfl rfl (kz198 Ln) rfl (by decide) ?_
        refine r_aload_n (pc' := 53) (kX11_qTold_0 29 rfl) rfl rfl ?_
        refine s_get (x := (φ 11 94 198)) (pc' := 56) (kX11_qTold_0 30 rfl) rfl fkX11_401 rfl rfl rfl (kz198 Ln) rfl ?_
        refine r_iconst 1 (pc' := 57) (kX11_qTold_0 31 rfl) rfl (by unfold inR; omega) ?_
        have g21 := h.1
        have h := h.2
        refine r_isub (pc' := 58) (kX11_qTold_0 32 rfl) rfl g21 ?_
        refine r_aload_n (pc' := 59) (kX11_qTold_0 33 rfl) rfl rfl ?_
        refine r_iload_n (pc' := 60) (kX11_qTold_0 34 rfl) rfl rfl ?_
        refine r_bipush 60 (pc' := 62) (kX11_qTold_0 35 rfl) rfl ⟨by unfold inR; omega, rfl⟩ ?_
        have g22 := h.1
        have h := h.2
        refine r_isub (pc' := 63) (kX11_qTold_0 36 rfl) rfl g22 ?_
        refine r_aload_n (pc' := 64) (kX11_qTold_0 37 rfl) rfl rfl ?_
        refine s_getr (v := 265) (pc' := 67) (kX11_qTold_0 38 rfl) rfl fkX11_218 rfl rfl (kz198 Ln) rfl (by decide) ?_
        refine r_aload_n (pc' := 68) (kX11_qTold_0 39 rfl) rfl rfl ?_
        refine s_get (x := (φ 11 94 198)) (pc' := 71) (kX11_qTold_0 40 rfl) rfl fkX11_401 rfl rfl rfl (kz198 Ln) rfl ?_
        refine r_iconst 1 (pc' := 72) (kX11_qTold_0 41 rfl) rfl (by unfold inR; omega) ?_
        refine r_isub (pc' := 73) (kX11_qTold_0 42 rfl) rfl g21 ?_
        have g23 := h.1
        have h := h.2
        refine s_lald (x := (α 265 ((φ 11 94 198) - 1))) (pc' := 74) (kX11_qTold_0 43 rfl) rfl (kz265 Ln) g23 rfl ?_
        refine r_iload_n (pc' := 75) (kX11_qTold_0 44 rfl) rfl rfl ?_
        refine s_callV (As := [(0, ((α 263 x2) - 60)), (1, (α 265 ((φ 11 94 198) - 1))), (0, x1)]) (o := 198) (S := [(0, ((φ 11 94 198) - 1)), (2, 265)]) (S2 := fun z => [(1, z), (0, ((φ 11 94 198) - 1)), (2, 265)]) (pc' := 78) (kX11_qTold_0 45 rfl) rfl rfl nkX11_qOf mlX11_633 imX11_qOf rfl slX11_qOf rfl (Nat.le_of_ble_eq_true rfl) (Nat.le_of_ble_eq_true rfl) (kz198 Ln) h (fun z => rfl) (fun r24 φ24 α24 h => ?_)
        refine s_callS (As := [(1, r24)]) (S := [(0, ((φ 11 94 198) - 1)), (2, 265)]) (S2 := fun z => [(1, z), (0, ((φ 11 94 198) - 1)), (2, 265)]) (pc' := 81) (kX11_qTold_0 46 rfl) rfl rfl nkX11_qClip mlX11_622 scX11_qClip rfl (Nat.le_of_ble_eq_true rfl) (Nat.le_of_ble_eq_true rfl) h (fun z => rfl) (fun r25 φ25 α25 h => ?_)
        have g26 := h.1
        have h := h.2
        refine s_last (pc' := 82) (kX11_qTold_0 47 rfl) rfl (kz265 Ln) g26 ?_
        refine r_goto (pc' := 162) (kX11_qTold_0 48 rfl) rfl ?_
        have g27 := h.1
        have h := h.2
        refine r_iinc (L' := [(2, 198), (0, x1), (0, (x2 + 1)), (0, (α 263 x2))]) (pc' := 165) (kX11_qTold_1 32 rfl) rfl (Nat.le_of_ble_eq_true rfl) rfl g27 rfl ?_
        refine r_goto (pc' := 7) (kX11_qTold_1 33 rfl) rfl ?_
        exact r_weak (L' := [(2, 198), (0, x1), (0, (x2 + 1)), (9, 0)]) ⟨Or.inl rfl, Or.inl rfl, Or.inl rfl, Or.inr (by decide), trivial⟩ (h Ln)
    · have h := h.2 c3
      refine r_aload_n (pc' := 30) (kX11_qTold_0 17 rfl) rfl rfl ?_
      refine r_iload_n (pc' := 31) (kX11_qTold_0 18 rfl) rfl rfl ?_
      refine r_sipush 1000 (pc' := 34) (kX11_qTold_0 19 rfl) rfl ⟨by unfold inR; omega, rfl⟩ ?_
      have g28 := h.1
      have h := h.2
      refine r_isub (pc' := 35) (kX11_qTold_0 20 rfl) rfl g28 ?_
      refine r_i2l (pc' := 36) (kX11_qTold_0 21 rfl) rfl ?_
      refine s_callV (As := [(1, ((α 263 x2) - 1000))]) (o := 198) (S := []) (S2 := fun z => []) (pc' := 39) (kX11_qTold_0 22 rfl) rfl rfl nkX11_qPuts mlX11_404 imX11_qPuts rfl slX11_qPuts rfl (Nat.le_of_ble_eq_true rfl) (Nat.le_of_ble_eq_true rfl) (kz198 Ln) h (fun z => rfl) (fun r29 φ29 α29 h => ?_)
      refine r_goto (pc' := 162) (kX11_qTold_0 23 rfl) rfl ?_
      have g30 := h.1
      have h := h.2
      refine r_iinc (L' := [(2, 198), (0, x1), (0, (x2 + 1)), (0, (α 263 x2))]) (pc' := 165) (kX11_qTold_1 32 rfl) rfl (Nat.le_of_ble_eq_true rfl) rfl g30 rfl ?_
      refine r_goto (pc' := 7) (kX11_qTold_1 33 rfl) rfl ?_
      exact r_weak (L' := [(2, 198), (0, x1), (0, (x2 + 1)), (9, 0)]) ⟨Or.inl rfl, Or.inl rfl, Or.inl rfl, Or.inr (by decide), trivial⟩ (h Ln)
theorem vX11_qKind_0 {d : Nat} {φ : aF} {α : aA} {Q : Int → aF → aA → Prop} (h : (eX11_takes d 239 φ α (fun r1 φ1 α1 =>
   ((r1 = 0 →
   (eX11_takes d 240 φ1 α1 (fun r3 φ3 α3 =>
     ((r3 = 0 →
     (eX11_takes d 241 φ3 α3 (fun r5 φ5 α5 =>
       ((r5 = 0 →
       (eX11_takes d 242 φ5 α5 (fun r7 φ7 α7 =>
         ((r7 = 0 →
         (eX11_takes d 243 φ7 α7 (fun r9 φ9 α9 =>
           ((r9 = 0 →
           (eX11_asks d 244 φ9 α9 (fun r11 φ11 α11 =>
             (Q 5 φ11 α11)))) ∧
           (¬ (r9 = 0) →
           (Q 4 φ9 α9)))))) ∧
         (¬ (r7 = 0) →
         (Q 3 φ7 α7)))))) ∧
       (¬ (r5 = 0) →
       (Q 2 φ5 α5)))))) ∧
     (¬ (r3 = 0) →
     (Q 1 φ3 α3)))))) ∧
   (¬ (r1 = 0) →
   (Q 0 φ1 α1)))))) : eX11_qKind (d + 1)  φ α Q := by
  intro Ln
  refine r_aload_n (pc' := 1) (kX11_qKind_0 0 rfl) rfl rfl ?_
  refine r_aload_n (pc' := 2) (kX11_qKind_0 1 rfl) rfl rfl ?_
  refine s_getr (v := 239) (pc' := 5) (kX11_qKind_0 2 rfl) rfl fkX11_140 rfl rfl (kz198 Ln) rfl (by decide) ?_
  refine s_callV (As := [(2, 239)]) (o := 198) (S := []) (S2 := fun z => [(0, z)]) (pc' := 8) (kX11_qKind_0 3 rfl) rfl rfl nkX11_takes mlX11_254 imX11_takes rfl slX11_takes rfl (Nat.le_of_ble_eq_true rfl) (Nat.le_of_ble_eq_true rfl) (kz198 Ln) h (fun z => rfl) (fun r1 φ1 α1 h => ?_)
  refine r_if_eq (t := 15) (pc' := 11) (kX11_qKind_0 4 rfl) rfl rfl (fun c2 => ?_) (fun c2 => ?_)
  · have h := h.1 c2
    refine r_aload_n (pc' := 16) (kX11_qKind_0 7 rfl) rfl rfl ?_
    refine r_aload_n (pc' := 17) (kX11_qKind_0 8 rfl) rfl rfl ?_
    refine s_getr (v := 240) (pc' := 20) (kX11_qKind_0 9 rfl) rfl fkX11_143 rfl rfl (kz198 Ln) rfl (by decide) ?_
    refine s_callV (As := [(2, 240)]) (o := 198) (S := []) (S2 := fun z => [(0, z)]) (pc' := 23) (kX11_qKind_0 10 rfl) rfl rfl nkX11_takes mlX11_254 imX11_takes rfl slX11_takes rfl (Nat.le_of_ble_eq_true rfl) (Nat.le_of_ble_eq_true rfl) (kz198 Ln) h (fun z => rfl) (fun r3 φ3 α3 h => ?_)
    refine r_if_eq (t := 30) (pc' := 26) (kX11_qKind_0 11 rfl) rfl rfl (fun c4 => ?_) (fun c4 => ?_)
    · have h := h.1 c4
      refine r_aload_n (pc' := 31) (kX11_qKind_0 14 rfl) rfl rfl ?_
      refine r_aload_n (pc' := 32) (kX11_qKind_0 15 rfl) rfl rfl ?_
      refine s_getr (v := 241) (pc' := 35) (kX11_qKind_0 16 rfl) rfl fkX11_146 rfl rfl (kz198 Ln) rfl (by decide) ?_
      refine s_callV (As := [(2, 241)]) (o := 198) (S := []) (S2 := fun z => [(0, z)]) (pc' := 38) (kX11_qKind_0 17 rfl) rfl rfl nkX11_takes mlX11_254 imX11_takes rfl slX11_takes rfl (Nat.le_of_ble_eq_true rfl) (Nat.le_of_ble_eq_true rfl) (kz198 Ln) h (fun z => rfl) (fun r5 φ5 α5 h => ?_)
      refine r_if_eq (t := 45) (pc' := 41) (kX11_qKind_0 18 rfl) rfl rfl (fun c6 => ?_) (fun c6 => ?_)
      · have h := h.1 c6
        refine r_aload_n (pc' := 46) (kX11_qKind_0 21 rfl) rfl rfl ?_
        refine r_aload_n (pc' := 47) (kX11_qKind_0 22 rfl) rfl rfl ?_
        refine s_getr (v := 242) (pc' := 50) (kX11_qKind_0 23 rfl) rfl fkX11_149 rfl rfl (kz198 Ln) rfl (by decide) ?_
        refine s_callV (As := [(2, 242)]) (o := 198) (S := []) (S2 := fun z => [(0, z)]) (pc' := 53) (kX11_qKind_0 24 rfl) rfl rfl nkX11_takes mlX11_254 imX11_takes rfl slX11_takes rfl (Nat.le_of_ble_eq_true rfl) (Nat.le_of_ble_eq_true rfl) (kz198 Ln) h (fun z => rfl) (fun r7 φ7 α7 h => ?_)
        refine r_if_eq (t := 60) (pc' := 56) (kX11_qKind_0 25 rfl) rfl rfl (fun c8 => ?_) (fun c8 => ?_)
        · have h := h.1 c8
          refine r_aload_n (pc' := 61) (kX11_qKind_0 28 rfl) rfl rfl ?_
          refine r_aload_n (pc' := 62) (kX11_qKind_0 29 rfl) rfl rfl ?_
          refine s_getr (v := 243) (pc' := 65) (kX11_qKind_0 30 rfl) rfl fkX11_152 rfl rfl (kz198 Ln) rfl (by decide) ?_
          refine s_callV (As := [(2, 243)]) (o := 198) (S := []) (S2 := fun z => [(0, z)]) (pc' := 68) (kX11_qKind_0 31 rfl) rfl rfl nkX11_takes mlX11_254 imX11_takes rfl slX11_takes rfl (Nat.le_of_ble_eq_true rfl) (Nat.le_of_ble_eq_true rfl) (kz198 Ln) h (fun z => rfl) (fun r9 φ9 α9 h => ?_)
          refine r_if_eq (t := 75) (pc' := 71) (kX11_qKind_0 32 rfl) rfl rfl (fun c10 => ?_) (fun c10 => ?_)
          · have h := h.1 c10
            refine r_iconst 5 (pc' := 76) (kX11_qKind_0 35 rfl) rfl (by unfold inR; omega) ?_
            refine r_istore_n (L' := [(2, 198), (0, 5)]) (pc' := 77) (kX11_qKind_0 36 rfl) rfl (Nat.le_of_ble_eq_true rfl) rfl ?_
            refine r_iload_n (pc' := 78) (kX11_qKind_0 37 rfl) rfl rfl ?_
            refine r_iconst 5 (pc' := 79) (kX11_qKind_0 38 rfl) rfl (by unfold inR; omega) ?_
            refine r_icmp_ne (t := 90) (pc' := 82) (kX11_qKind_0 39 rfl) rfl rfl (fun cz => absurd cz (by decide)) (fun _ => ?_)
            refine r_aload_n (pc' := 83) (kX11_qKind_0 40 rfl) rfl rfl ?_
            refine r_aload_n (pc' := 84) (kX11_qKind_0 41 rfl) rfl rfl ?_
            refine s_getr (v := 244) (pc' := 87) (kX11_qKind_0 42 rfl) rfl fkX11_155 rfl rfl (kz198 Ln) rfl (by decide) ?_
            refine s_callV (As := [(2, 244)]) (o := 198) (S := []) (S2 := fun z => []) (pc' := 90) (kX11_qKind_0 43 rfl) rfl rfl nkX11_asks mlX11_292 imX11_asks rfl slX11_asks rfl (Nat.le_of_ble_eq_true rfl) (Nat.le_of_ble_eq_true rfl) (kz198 Ln) h (fun z => rfl) (fun r11 φ11 α11 h => ?_)
            refine r_iload_n (pc' := 91) (kX11_qKind_0 44 rfl) rfl rfl ?_
            exact s_iret (kX11_qKind_0 45 rfl) rfl h
          · have h := h.2 c10
            refine r_iconst 4 (pc' := 72) (kX11_qKind_0 33 rfl) rfl (by unfold inR; omega) ?_
            refine r_goto (pc' := 76) (kX11_qKind_0 34 rfl) rfl ?_
            refine r_istore_n (L' := [(2, 198), (0, 4)]) (pc' := 77) (kX11_qKind_0 36 rfl) rfl (Nat.le_of_ble_eq_true rfl) rfl ?_
            refine r_iload_n (pc' := 78) (kX11_qKind_0 37 rfl) rfl rfl ?_
            refine r_iconst 5 (pc' := 79) (kX11_qKind_0 38 rfl) rfl (by unfold inR; omega) ?_
            refine r_icmp_ne (t := 90) (pc' := 82) (kX11_qKind_0 39 rfl) rfl rfl (fun _ => ?_) (fun cz => absurd cz (by decide))
            refine r_iload_n (pc' := 91) (kX11_qKind_0 44 rfl) rfl rfl ?_
            exact s_iret (kX11_qKind_0 45 rfl) rfl h
        · have h := h.2 c8
          refine r_iconst 3 (pc' := 57) (kX11_qKind_0 26 rfl) rfl (by unfold inR; omega) ?_
          refine r_goto (pc' := 76) (kX11_qKind_0 27 rfl) rfl ?_
          refine r_istore_n (L' := [(2, 198), (0, 3)]) (pc' := 77) (kX11_qKind_0 36 rfl) rfl (Nat.le_of_ble_eq_true rfl) rfl ?_
          refine r_iload_n (pc' := 78) (kX11_qKind_0 37 rfl) rfl rfl ?_
          refine r_iconst 5 (pc' := 79) (kX11_qKind_0 38 rfl) rfl (by unfold inR; omega) ?_
          refine r_icmp_ne (t := 90) (pc' := 82) (kX11_qKind_0 39 rfl) rfl rfl (fun _ => ?_) (fun cz => absurd cz (by decide))
          refine r_iload_n (pc' := 91) (kX11_qKind_0 44 rfl) rfl rfl ?_
          exact s_iret (kX11_qKind_0 45 rfl) rfl h
      · have h := h.2 c6
        refine r_iconst 2 (pc' := 42) (kX11_qKind_0 19 rfl) rfl (by unfold inR; omega) ?_
        refine r_goto (pc' := 76) (kX11_qKind_0 20 rfl) rfl ?_
        refine r_istore_n (L' := [(2, 198), (0, 2)]) (pc' := 77) (kX11_qKind_0 36 rfl) rfl (Nat.le_of_ble_eq_true rfl) rfl ?_
        refine r_iload_n (pc' := 78) (kX11_qKind_0 37 rfl) rfl rfl ?_
        refine r_iconst 5 (pc' := 79) (kX11_qKind_0 38 rfl) rfl (by unfold inR; omega) ?_
        refine r_icmp_ne (t := 90) (pc' := 82) (kX11_qKind_0 39 rfl) rfl rfl (fun _ => ?_) (fun cz => absurd cz (by decide))
        refine r_iload_n (pc' := 91) (kX11_qKind_0 44 rfl) rfl rfl ?_
        exact s_iret (kX11_qKind_0 45 rfl) rfl h
    · have h := h.2 c4
      refine r_iconst 1 (pc' := 27) (kX11_qKind_0 12 rfl) rfl (by unfold inR; omega) ?_
      refine r_goto (pc' := 76) (kX11_qKind_0 13 rfl) rfl ?_
      refine r_istore_n (L' := [(2, 198), (0, 1)]) (pc' := 77) (kX11_qKind_0 36 rfl) rfl (Nat.le_of_ble_eq_true rfl) rfl ?_
      refine r_iload_n (pc' := 78) (kX11_qKind_0 37 rfl) rfl rfl ?_
      refine r_iconst 5 (pc' := 79) (kX11_qKind_0 38 rfl) rfl (by unfold inR; omega) ?_
      refine r_icmp_ne (t := 90) (pc' := 82) (kX11_qKind_0 39 rfl) rfl rfl (fun _ => ?_) (fun cz => absurd cz (by decide))
      refine r_iload_n (pc' := 91) (kX11_qKind_0 44 rfl) rfl rfl ?_
      exact s_iret (kX11_qKind_0 45 rfl) rfl h
  · have h := h.2 c2
    refine r_iconst 0 (pc' := 12) (kX11_qKind_0 5 rfl) rfl (by unfold inR; omega) ?_
    refine r_goto (pc' := 76) (kX11_qKind_0 6 rfl) rfl ?_
    refine r_istore_n (L' := [(2, 198), (0, 0)]) (pc' := 77) (kX11_qKind_0 36 rfl) rfl (Nat.le_of_ble_eq_true rfl) rfl ?_
    refine r_iload_n (pc' := 78) (kX11_qKind_0 37 rfl) rfl rfl ?_
    refine r_iconst 5 (pc' := 79) (kX11_qKind_0 38 rfl) rfl (by unfold inR; omega) ?_
    refine r_icmp_ne (t := 90) (pc' := 82) (kX11_qKind_0 39 rfl) rfl rfl (fun _ => ?_) (fun cz => absurd cz (by decide))
    refine r_iload_n (pc' := 91) (kX11_qKind_0 44 rfl) rfl rfl ?_
    exact s_iret (kX11_qKind_0 45 rfl) rfl h
abbrev jX11_qTakes_55 (d : Nat) (x1 x2 x5 : Int) (φ : aF) (α : aA) (Q : Int → aF → aA → Prop) : Prop := R0 d mX11_qTakes 55 [(2, 198), (0, x1), (1, x2), (8, 0), (9, 0), (0, x5)] [] φ α Q
theorem vX11_qTakes_0 {d : Nat} {φ : aF} {α : aA} {Q : Int → aF → aA → Prop} {x1 : Int} {x2 : Int} {x4 : Int} (h : ((3 ≤ x1 →
   ((¬ x1 = 0 →
     ((¬ x1 = 1 →
       (jX11_qTakes_55 d x1 x2 0 φ α Q)) ∧
       (x1 = 1 →
       (jX11_qTakes_55 d x1 x2 0 φ α Q)))) ∧
     (x1 = 0 →
     ((¬ x1 = 1 →
       (jX11_qTakes_55 d x1 x2 0 φ α Q)) ∧
       (x1 = 1 →
       (jX11_qTakes_55 d x1 x2 0 φ α Q)))))) ∧
   (¬ (3 ≤ x1) →
   ((¬ (j3 x2 1) = 0 →
     ((¬ x1 = 0 →
       ((¬ x1 = 1 →
         (jX11_qTakes_55 d x1 x2 0 φ α Q)) ∧
         (x1 = 1 →
         (jX11_qTakes_55 d x1 x2 0 φ α Q)))) ∧
       (x1 = 0 →
       ((¬ x1 = 1 →
         (jX11_qTakes_55 d x1 x2 0 φ α Q)) ∧
         (x1 = 1 →
         (jX11_qTakes_55 d x1 x2 0 φ α Q)))))) ∧
     ((j3 x2 1) = 0 →
     ((¬ x1 = 0 →
       ((¬ x1 = 1 →
         (jX11_qTakes_55 d x1 x2 1 φ α Q)) ∧
         (x1 = 1 →
         (jX11_qTakes_55 d x1 x2 1 (upf φ 11 95 198 x4) α Q)))) ∧
       (x1 = 0 →
       (((j3 (φ 11 95 198) (-1)) = 0 →
         (jX11_qTakes_55 d x1 x2 1 (upf φ 11 95 198 x4) α Q)) ∧
         (¬ ((j3 (φ 11 95 198) (-1)) = 0) →
         ((¬ x1 = 1 →
           (jX11_qTakes_55 d x1 x2 1 φ α Q)) ∧
           (x1 = 1 →
           (jX11_qTakes_55 d x1 x2 1 (upf φ 11 95 198 x4) α Q)))))))))))) : eX11_qTakes d x1 x2 x4 φ α Q := by
  intro Ln
  refine r_iload_n (pc' := 1) (kX11_qTakes_0 0 rfl) rfl rfl ?_
  refine r_iconst 3 (pc' := 2) (kX11_qTakes_0 1 rfl) rfl (by unfold inR; omega) ?_
  refine r_icmp_ge (t := 15) (pc' := 5) (kX11_qTakes_0 2 rfl) rfl rfl (fun c1 => ?_) (fun c1 => ?_)
  · have h := h.1 c1
    refine r_iconst 0 (pc' := 16) (kX11_qTakes_0 9 rfl) rfl (by unfold inR; omega) ?_
    refine r_istore (L' := [(2, 198), (0, x1), (1, x2), (8, 0), (0, x4), (0, 0)]) (pc' := 18) (kX11_qTakes_0 10 rfl) rfl (Nat.le_of_ble_eq_true rfl) rfl ?_
    refine r_iload_n (pc' := 19) (kX11_qTakes_0 11 rfl) rfl rfl ?_
    refine r_if_ne (t := 38) (pc' := 22) (kX11_qTakes_0 12 rfl) rfl rfl (fun c2 => ?_) (fun c2 => ?_)
    · have h := h.1 c2
      refine r_iload_n (pc' := 39) (kX11_qTakes_0 20 rfl) rfl rfl ?_
      refine r_iconst 1 (pc' := 40) (kX11_qTakes_0 21 rfl) rfl (by unfold inR; omega) ?_
      refine r_icmp_ne (t := 55) (pc' := 43) (kX11_qTakes_0 22 rfl) rfl rfl (fun c3 => ?_) (fun c3 => ?_)
      · have h := h.1 c3
        exact r_weak (L' := [(2, 198), (0, x1), (1, x2), (8, 0), (9, 0), (0, 0)]) ⟨Or.inl rfl, Or.inl rfl, Or.inl rfl, Or.inr (by decide), Or.inr (by decide), Or.inl rfl, trivial⟩ (h Ln)
      · have h := h.2 c3
        refine r_iload (pc' := 45) (kX11_qTakes_0 23 rfl) rfl rfl ?_
        refine r_if_eq (t := 55) (pc' := 48) (kX11_qTakes_0 24 rfl) rfl rfl (fun _ => ?_) (fun cz => absurd cz (by decide))
        exact r_weak (L' := [(2, 198), (0, x1), (1, x2), (8, 0), (9, 0), (0, 0)]) ⟨Or.inl rfl, Or.inl rfl, Or.inl rfl, Or.inr (by decide), Or.inr (by decide), Or.inl rfl, trivial⟩ (h Ln)
    · have h := h.2 c2
      refine r_iload (pc' := 24) (kX11_qTakes_0 13 rfl) rfl rfl ?_
      refine r_if_eq (t := 38) (pc' := 27) (kX11_qTakes_0 14 rfl) rfl rfl (fun _ => ?_) (fun cz => absurd cz (by decide))
      refine r_iload_n (pc' := 39) (kX11_qTakes_0 20 rfl) rfl rfl ?_
      refine r_iconst 1 (pc' := 40) (kX11_qTakes_0 21 rfl) rfl (by unfold inR; omega) ?_
      refine r_icmp_ne (t := 55) (pc' := 43) (kX11_qTakes_0 22 rfl) rfl rfl (fun c4 => ?_) (fun c4 => ?_)
      · have h := h.1 c4
        exact r_weak (L' := [(2, 198), (0, x1), (1, x2), (8, 0), (9, 0), (0, 0)]) ⟨Or.inl rfl, Or.inl rfl, Or.inl rfl, Or.inr (by decide), Or.inr (by decide), Or.inl rfl, trivial⟩ (h Ln)
      · have h := h.2 c4
        refine r_iload (pc' := 45) (kX11_qTakes_0 23 rfl) rfl rfl ?_
        refine r_if_eq (t := 55) (pc' := 48) (kX11_qTakes_0 24 rfl) rfl rfl (fun _ => ?_) (fun cz => absurd cz (by decide))
        exact r_weak (L' := [(2, 198), (0, x1), (1, x2), (8, 0), (9, 0), (0, 0)]) ⟨Or.inl rfl, Or.inl rfl, Or.inl rfl, Or.inr (by decide), Or.inr (by decide), Or.inl rfl, trivial⟩ (h Ln)
  · have h := h.2 c1
    refine r_lload_n (pc' := 6) (kX11_qTakes_0 3 rfl) rfl rfl ?_
    refine r_lconst 1 (pc' := 7) (kX11_qTakes_0 4 rfl) rfl ⟨by unfold inJ; omega, rfl⟩ ?_
    refine r_lcmp (pc' := 8) (kX11_qTakes_0 5 rfl) rfl ?_
    refine r_if_ne (t := 15) (pc' := 11) (kX11_qTakes_0 6 rfl) rfl rfl (fun c5 => ?_) (fun c5 => ?_)
    · have h := h.1 c5
      refine r_iconst 0 (pc' := 16) (kX11_qTakes_0 9 rfl) rfl (by unfold inR; omega) ?_
      refine r_istore (L' := [(2, 198), (0, x1), (1, x2), (8, 0), (0, x4), (0, 0)]) (pc' := 18) (kX11_qTakes_0 10 rfl) rfl (Nat.le_of_ble_eq_true rfl) rfl ?_
      refine r_iload_n (pc' := 19) (kX11_qTakes_0 11 rfl) rfl rfl ?_
      refine r_if_ne (t := 38) (pc' := 22) (kX11_qTakes_0 12 rfl) rfl rfl (fun c6 => ?_) (fun c6 => ?_)
      · have h := h.1 c6
        refine r_iload_n (pc' := 39) (kX11_qTakes_0 20 rfl) rfl rfl ?_
        refine r_iconst 1 (pc' := 40) (kX11_qTakes_0 21 rfl) rfl (by unfold inR; omega) ?_
        refine r_icmp_ne (t := 55) (pc' := 43) (kX11_qTakes_0 22 rfl) rfl rfl (fun c7 => ?_) (fun c7 => ?_)
        · have h := h.1 c7
          exact r_weak (L' := [(2, 198), (0, x1), (1, x2), (8, 0), (9, 0), (0, 0)]) ⟨Or.inl rfl, Or.inl rfl, Or.inl rfl, Or.inr (by decide), Or.inr (by decide), Or.inl rfl, trivial⟩ (h Ln)
        · have h := h.2 c7
          refine r_iload (pc' := 45) (kX11_qTakes_0 23 rfl) rfl rfl ?_
          refine r_if_eq (t := 55) (pc' := 48) (kX11_qTakes_0 24 rfl) rfl rfl (fun _ => ?_) (fun cz => absurd cz (by decide))
          exact r_weak (L' := [(2, 198), (0, x1), (1, x2), (8, 0), (9, 0), (0, 0)]) ⟨Or.inl rfl, Or.inl rfl, Or.inl rfl, Or.inr (by decide), Or.inr (by decide), Or.inl rfl, trivial⟩ (h Ln)
      · have h := h.2 c6
        refine r_iload (pc' := 24) (kX11_qTakes_0 13 rfl) rfl rfl ?_
        refine r_if_eq (t := 38) (pc' := 27) (kX11_qTakes_0 14 rfl) rfl rfl (fun _ => ?_) (fun cz => absurd cz (by decide))
        refine r_iload_n (pc' := 39) (kX11_qTakes_0 20 rfl) rfl rfl ?_
        refine r_iconst 1 (pc' := 40) (kX11_qTakes_0 21 rfl) rfl (by unfold inR; omega) ?_
        refine r_icmp_ne (t := 55) (pc' := 43) (kX11_qTakes_0 22 rfl) rfl rfl (fun c8 => ?_) (fun c8 => ?_)
        · have h := h.1 c8
          exact r_weak (L' := [(2, 198), (0, x1), (1, x2), (8, 0), (9, 0), (0, 0)]) ⟨Or.inl rfl, Or.inl rfl, Or.inl rfl, Or.inr (by decide), Or.inr (by decide), Or.inl rfl, trivial⟩ (h Ln)
        · have h := h.2 c8
          refine r_iload (pc' := 45) (kX11_qTakes_0 23 rfl) rfl rfl ?_
          refine r_if_eq (t := 55) (pc' := 48) (kX11_qTakes_0 24 rfl) rfl rfl (fun _ => ?_) (fun cz => absurd cz (by decide))
          exact r_weak (L' := [(2, 198), (0, x1), (1, x2), (8, 0), (9, 0), (0, 0)]) ⟨Or.inl rfl, Or.inl rfl, Or.inl rfl, Or.inr (by decide), Or.inr (by decide), Or.inl rfl, trivial⟩ (h Ln)
    · have h := h.2 c5
      refine r_iconst 1 (pc' := 12) (kX11_qTakes_0 7 rfl) rfl (by unfold inR; omega) ?_
      refine r_goto (pc' := 16) (kX11_qTakes_0 8 rfl) rfl ?_
      refine r_istore (L' := [(2, 198), (0, x1), (1, x2), (8, 0), (0, x4), (0, 1)]) (pc' := 18) (kX11_qTakes_0 10 rfl) rfl (Nat.le_of_ble_eq_true rfl) rfl ?_
      refine r_iload_n (pc' := 19) (kX11_qTakes_0 11 rfl) rfl rfl ?_
      refine r_if_ne (t := 38) (pc' := 22) (kX11_qTakes_0 12 rfl) rfl rfl (fun c9 => ?_) (fun c9 => ?_)
      · have h := h.1 c9
        refine r_iload_n (pc' := 39) (kX11_qTakes_0 20 rfl) rfl rfl ?_
        refine r_iconst 1 (pc' := 40) (kX11_qTakes_0 21 rfl) rfl (by unfold inR; omega) ?_
        refine r_icmp_ne (t := 55) (pc' := 43) (kX11_qTakes_0 22 rfl) rfl rfl (fun c10 => ?_) (fun c10 => ?_)
        · have h := h.1 c10
          exact r_weak (L' := [(2, 198), (0, x1), (1, x2), (8, 0), (9, 0), (0, 1)]) ⟨Or.inl rfl, Or.inl rfl, Or.inl rfl, Or.inr (by decide), Or.inr (by decide), Or.inl rfl, trivial⟩ (h Ln)
        · have h := h.2 c10
          refine r_iload (pc' := 45) (kX11_qTakes_0 23 rfl) rfl rfl ?_
          refine r_if_eq (t := 55) (pc' := 48) (kX11_qTakes_0 24 rfl) rfl rfl (fun cz => absurd cz (by decide)) (fun _ => ?_)
          refine r_aload_n (pc' := 49) (kX11_qTakes_0 25 rfl) rfl rfl ?_
          refine r_iload (pc' := 51) (kX11_qTakes_0 26 rfl) rfl rfl ?_
          refine r_i2l (pc' := 52) (kX11_qTakes_0 27 rfl) rfl ?_
          refine s_put (pc' := 55) (kX11_qTakes_0 28 rfl) rfl fkX11_637 fnX11_95 rfl pk_long (kz198 Ln) ?_
          exact r_weak (L' := [(2, 198), (0, x1), (1, x2), (8, 0), (9, 0), (0, 1)]) ⟨Or.inl rfl, Or.inl rfl, Or.inl rfl, Or.inr (by decide), Or.inr (by decide), Or.inl rfl, trivial⟩ (h Ln)
      · have h := h.2 c9
        refine r_iload (pc' := 24) (kX11_qTakes_0 13 rfl) rfl rfl ?_
        refine r_if_eq (t := 38) (pc' := 27) (kX11_qTakes_0 14 rfl) rfl rfl (fun cz => absurd cz (by decide)) (fun _ => ?_)
        refine r_aload_n (pc' := 28) (kX11_qTakes_0 15 rfl) rfl rfl ?_
        refine s_get (x := (φ 11 95 198)) (pc' := 31) (kX11_qTakes_0 16 rfl) rfl fkX11_637 rfl rfl rfl (kz198 Ln) rfl ?_
        refine r_ldc2 (-1) (pc' := 34) (kX11_qTakes_0 17 rfl) rfl kcX11_640 (by unfold inJ; omega) ?_
        refine r_lcmp (pc' := 35) (kX11_qTakes_0 18 rfl) rfl ?_
        refine r_if_eq (t := 48) (pc' := 38) (kX11_qTakes_0 19 rfl) rfl rfl (fun c11 => ?_) (fun c11 => ?_)
        · have h := h.1 c11
          refine r_aload_n (pc' := 49) (kX11_qTakes_0 25 rfl) rfl rfl ?_
          refine r_iload (pc' := 51) (kX11_qTakes_0 26 rfl) rfl rfl ?_
          refine r_i2l (pc' := 52) (kX11_qTakes_0 27 rfl) rfl ?_
          refine s_put (pc' := 55) (kX11_qTakes_0 28 rfl) rfl fkX11_637 fnX11_95 rfl pk_long (kz198 Ln) ?_
          exact r_weak (L' := [(2, 198), (0, x1), (1, x2), (8, 0), (9, 0), (0, 1)]) ⟨Or.inl rfl, Or.inl rfl, Or.inl rfl, Or.inr (by decide), Or.inr (by decide), Or.inl rfl, trivial⟩ (h Ln)
        · have h := h.2 c11
          refine r_iload_n (pc' := 39) (kX11_qTakes_0 20 rfl) rfl rfl ?_
          refine r_iconst 1 (pc' := 40) (kX11_qTakes_0 21 rfl) rfl (by unfold inR; omega) ?_
          refine r_icmp_ne (t := 55) (pc' := 43) (kX11_qTakes_0 22 rfl) rfl rfl (fun c12 => ?_) (fun c12 => ?_)
          · have h := h.1 c12
            exact r_weak (L' := [(2, 198), (0, x1), (1, x2), (8, 0), (9, 0), (0, 1)]) ⟨Or.inl rfl, Or.inl rfl, Or.inl rfl, Or.inr (by decide), Or.inr (by decide), Or.inl rfl, trivial⟩ (h Ln)
          · have h := h.2 c12
            refine r_iload (pc' := 45) (kX11_qTakes_0 23 rfl) rfl rfl ?_
            refine r_if_eq (t := 55) (pc' := 48) (kX11_qTakes_0 24 rfl) rfl rfl (fun cz => absurd cz (by decide)) (fun _ => ?_)
            refine r_aload_n (pc' := 49) (kX11_qTakes_0 25 rfl) rfl rfl ?_
            refine r_iload (pc' := 51) (kX11_qTakes_0 26 rfl) rfl rfl ?_
            refine r_i2l (pc' := 52) (kX11_qTakes_0 27 rfl) rfl ?_
            refine s_put (pc' := 55) (kX11_qTakes_0 28 rfl) rfl fkX11_637 fnX11_95 rfl pk_long (kz198 Ln) ?_
            exact r_weak (L' := [(2, 198), (0, x1), (1, x2), (8, 0), (9, 0), (0, 1)]) ⟨Or.inl rfl, Or.inl rfl, Or.inl rfl, Or.inr (by decide), Or.inr (by decide), Or.inl rfl, trivial⟩ (h Ln)
abbrev jX11_qTakes_75 (d : Nat) (x1 x2 : Int) (φ : aF) (α : aA) (Q : Int → aF → aA → Prop) : Prop := R0 d mX11_qTakes 75 [(2, 198), (0, x1), (1, x2), (8, 0), (9, 0), (9, 0)] [] φ α Q
theorem vX11_qTakes_55 {d : Nat} {φ : aF} {α : aA} {Q : Int → aF → aA → Prop} {x1 : Int} {x2 : Int} {x5 : Int} (h : ((¬ x1 = 2 →
   (jX11_qTakes_75 d x1 x2 φ α Q)) ∧
   (x1 = 2 →
   ((x5 = 0 →
     (jX11_qTakes_75 d x1 x2 φ α Q)) ∧
     (¬ (x5 = 0) →
     inJ ((φ 11 95 198) + 1) ∧ (jX11_qTakes_75 d x1 x2 (upf φ 11 95 198 ((φ 11 95 198) + 1)) α Q)))))) : jX11_qTakes_55 d x1 x2 x5 φ α Q := by
  intro Ln
  refine r_iload_n (pc' := 56) (kX11_qTakes_0 29 rfl) rfl rfl ?_
  refine r_iconst 2 (pc' := 57) (kX11_qTakes_0 30 rfl) rfl (by unfold inR; omega) ?_
  refine r_icmp_ne (t := 75) (pc' := 60) (kX11_qTakes_0 31 rfl) rfl rfl (fun c1 => ?_) (fun c1 => ?_)
  · have h := h.1 c1
    exact r_weak (L' := [(2, 198), (0, x1), (1, x2), (8, 0), (9, 0), (9, 0)]) ⟨Or.inl rfl, Or.inl rfl, Or.inl rfl, Or.inr (by decide), Or.inr (by decide), Or.inr (by decide), trivial⟩ (h Ln)
  · have h := h.2 c1
    refine r_iload (pc' := 62) (kX11_qTakes_0 32 rfl) rfl rfl ?_
    refine r_if_eq (t := 75) (pc' := 65) (kX11_qTakes_0 33 rfl) rfl rfl (fun c2 => ?_) (fun c2 => ?_)
    · have h := h.1 c2
      exact r_weak (L' := [(2, 198), (0, x1), (1, x2), (8, 0), (9, 0), (9, 0)]) ⟨Or.inl rfl, Or.inl rfl, Or.inl rfl, Or.inr (by decide), Or.inr (by decide), Or.inr (by decide), trivial⟩ (h Ln)
    · have h := h.2 c2
      refine r_aload_n (pc' := 66) (kX11_qTakes_0 34 rfl) rfl rfl ?_
      refine r_dup (pc' := 67) (kX11_qTakes_0 35 rfl) rfl rfl ?_
      refine s_get (x := (φ 11 95 198)) (pc' := 70) (kX11_qTakes_0 36 rfl) rfl fkX11_637 rfl rfl rfl (kz198 Ln) rfl ?_
      refine r_lconst 1 (pc' := 71) (kX11_qTakes_0 37 rfl) rfl ⟨by unfold inJ; omega, rfl⟩ ?_
      have g3 := h.1
      have h := h.2
      refine r_ladd (pc' := 72) (kX11_qTakes_0 38 rfl) rfl g3 ?_
      refine s_put (pc' := 75) (kX11_qTakes_0 39 rfl) rfl fkX11_637 fnX11_95 rfl pk_long (kz198 Ln) ?_
      exact r_weak (L' := [(2, 198), (0, x1), (1, x2), (8, 0), (9, 0), (9, 0)]) ⟨Or.inl rfl, Or.inl rfl, Or.inl rfl, Or.inr (by decide), Or.inr (by decide), Or.inr (by decide), trivial⟩ (h Ln)
abbrev jX11_qTakes_90 (d : Nat) (x1 x2 : Int) (φ : aF) (α : aA) (Q : Int → aF → aA → Prop) : Prop := R0 d mX11_qTakes 90 [(2, 198), (0, x1), (1, x2), (8, 0), (9, 0), (9, 0)] [] φ α Q
theorem vX11_qTakes_75 {d : Nat} {φ : aF} {α : aA} {Q : Int → aF → aA → Prop} {x1 : Int} {x2 : Int} (h : ((¬ x1 = 3 →
   (jX11_qTakes_90 d x1 x2 φ α Q)) ∧
   (x1 = 3 →
   inJ ((φ 11 95 198) + x2) ∧ (jX11_qTakes_90 d x1 x2 (upf φ 11 95 198 ((φ 11 95 198) + x2)) α Q)))) : jX11_qTakes_75 d x1 x2 φ α Q := by
  intro Ln
  refine r_iload_n (pc' := 76) (kX11_qTakes_0 40 rfl) rfl rfl ?_
  refine r_iconst 3 (pc' := 77) (kX11_qTakes_0 41 rfl) rfl (by unfold inR; omega) ?_
  refine r_icmp_ne (t := 90) (pc' := 80) (kX11_qTakes_0 42 rfl) rfl rfl (fun c1 => ?_) (fun c1 => ?_)
  · have h := h.1 c1
    exact r_weak (L' := [(2, 198), (0, x1), (1, x2), (8, 0), (9, 0), (9, 0)]) ⟨Or.inl rfl, Or.inl rfl, Or.inl rfl, Or.inr (by decide), Or.inr (by decide), Or.inr (by decide), trivial⟩ (h Ln)
  · have h := h.2 c1
    refine r_aload_n (pc' := 81) (kX11_qTakes_0 43 rfl) rfl rfl ?_
    refine r_dup (pc' := 82) (kX11_qTakes_0 44 rfl) rfl rfl ?_
    refine s_get (x := (φ 11 95 198)) (pc' := 85) (kX11_qTakes_0 45 rfl) rfl fkX11_637 rfl rfl rfl (kz198 Ln) rfl ?_
    refine r_lload_n (pc' := 86) (kX11_qTakes_0 46 rfl) rfl rfl ?_
    have g2 := h.1
    have h := h.2
    refine r_ladd (pc' := 87) (kX11_qTakes_0 47 rfl) rfl g2 ?_
    refine s_put (pc' := 90) (kX11_qTakes_0 48 rfl) rfl fkX11_637 fnX11_95 rfl pk_long (kz198 Ln) ?_
    exact r_weak (L' := [(2, 198), (0, x1), (1, x2), (8, 0), (9, 0), (9, 0)]) ⟨Or.inl rfl, Or.inl rfl, Or.inl rfl, Or.inr (by decide), Or.inr (by decide), Or.inr (by decide), trivial⟩ (h Ln)
abbrev jX11_qTakes_133 (d : Nat) (φ : aF) (α : aA) (Q : Int → aF → aA → Prop) : Prop := R0 d mX11_qTakes 133 [(2, 198), (9, 0), (9, 0), (9, 0), (9, 0), (9, 0)] [] φ α Q
theorem vX11_qTakes_90 {d : Nat} {φ : aF} {α : aA} {Q : Int → aF → aA → Prop} {x1 : Int} {x2 : Int} (h : ((x1 ≤ 3 →
   (jX11_qTakes_133 d  φ α Q)) ∧
   (¬ (x1 ≤ 3) →
   ((¬ (φ 11 96 198) = 0 →
     (jX11_qTakes_133 d  (upf φ 11 95 198 x2) α Q)) ∧
     ((φ 11 96 198) = 0 →
     ((¬ x1 = 4 →
       ((0 ≤ (j3 x2 (φ 11 95 198)) →
         (jX11_qTakes_133 d  φ α Q)) ∧
         (¬ (0 ≤ (j3 x2 (φ 11 95 198))) →
         (jX11_qTakes_133 d  (upf φ 11 95 198 x2) α Q)))) ∧
       (x1 = 4 →
       (((j3 x2 (φ 11 95 198)) ≤ 0 →
         (jX11_qTakes_133 d  φ α Q)) ∧
         (¬ ((j3 x2 (φ 11 95 198)) ≤ 0) →
         (jX11_qTakes_133 d  (upf φ 11 95 198 x2) α Q)))))))))) : jX11_qTakes_90 d x1 x2 φ α Q := by
  intro Ln
  refine r_iload_n (pc' := 91) (kX11_qTakes_0 49 rfl) rfl rfl ?_
  refine r_iconst 3 (pc' := 92) (kX11_qTakes_0 50 rfl) rfl (by unfold inR; omega) ?_
  refine r_icmp_le (t := 133) (pc' := 95) (kX11_qTakes_0 51 rfl) rfl rfl (fun c1 => ?_) (fun c1 => ?_)
  · have h := h.1 c1
    exact r_weak (L' := [(2, 198), (9, 0), (9, 0), (9, 0), (9, 0), (9, 0)]) ⟨Or.inl rfl, Or.inr (by decide), Or.inr (by decide), Or.inr (by decide), Or.inr (by decide), Or.inr (by decide), trivial⟩ (h Ln)
  · have h := h.2 c1
    refine r_aload_n (pc' := 96) (kX11_qTakes_0 52 rfl) rfl rfl ?_
    refine s_get (x := (φ 11 96 198)) (pc' := 99) (kX11_qTakes_0 53 rfl) rfl fkX11_642 rfl rfl rfl (kz198 Ln) rfl ?_
    refine r_if_ne (t := 128) (pc' := 102) (kX11_qTakes_0 54 rfl) rfl rfl (fun c2 => ?_) (fun c2 => ?_)
    · have h := h.1 c2
      refine r_aload_n (pc' := 129) (kX11_qTakes_1 9 rfl) rfl rfl ?_
      refine r_lload_n (pc' := 130) (kX11_qTakes_1 10 rfl) rfl rfl ?_
      refine s_put (pc' := 133) (kX11_qTakes_1 11 rfl) rfl fkX11_637 fnX11_95 rfl pk_long (kz198 Ln) ?_
      exact r_weak (L' := [(2, 198), (9, 0), (9, 0), (9, 0), (9, 0), (9, 0)]) ⟨Or.inl rfl, Or.inr (by decide), Or.inr (by decide), Or.inr (by decide), Or.inr (by decide), Or.inr (by decide), trivial⟩ (h Ln)
    · have h := h.2 c2
      refine r_iload_n (pc' := 103) (kX11_qTakes_0 55 rfl) rfl rfl ?_
      refine r_iconst 4 (pc' := 104) (kX11_qTakes_0 56 rfl) rfl (by unfold inR; omega) ?_
      refine r_icmp_ne (t := 119) (pc' := 107) (kX11_qTakes_0 57 rfl) rfl rfl (fun c3 => ?_) (fun c3 => ?_)
      · have h := h.1 c3
        refine r_lload_n (pc' := 120) (kX11_qTakes_1 4 rfl) rfl rfl ?_
        refine r_aload_n (pc' := 121) (kX11_qTakes_1 5 rfl) rfl rfl ?_
        refine s_get (x := (φ 11 95 198)) (pc' := 124) (kX11_qTakes_1 6 rfl) rfl fkX11_637 rfl rfl rfl (kz198 Ln) rfl ?_
        refine r_lcmp (pc' := 125) (kX11_qTakes_1 7 rfl) rfl ?_
        refine r_if_ge (t := 133) (pc' := 128) (kX11_qTakes_1 8 rfl) rfl rfl (fun c4 => ?_) (fun c4 => ?_)
        · have h := h.1 c4
          exact r_weak (L' := [(2, 198), (9, 0), (9, 0), (9, 0), (9, 0), (9, 0)]) ⟨Or.inl rfl, Or.inr (by decide), Or.inr (by decide), Or.inr (by decide), Or.inr (by decide), Or.inr (by decide), trivial⟩ (h Ln)
        · have h := h.2 c4
          refine r_aload_n (pc' := 129) (kX11_qTakes_1 9 rfl) rfl rfl ?_
          refine r_lload_n (pc' := 130) (kX11_qTakes_1 10 rfl) rfl rfl ?_
          refine s_put (pc' := 133) (kX11_qTakes_1 11 rfl) rfl fkX11_637 fnX11_95 rfl pk_long (kz198 Ln) ?_
          exact r_weak (L' := [(2, 198), (9, 0), (9, 0), (9, 0), (9, 0), (9, 0)]) ⟨Or.inl rfl, Or.inr (by decide), Or.inr (by decide), Or.inr (by decide), Or.inr (by decide), Or.inr (by decide), trivial⟩ (h Ln)
      · have h := h.2 c3
        refine r_lload_n (pc' := 108) (kX11_qTakes_0 58 rfl) rfl rfl ?_
        refine r_aload_n (pc' := 109) (kX11_qTakes_0 59 rfl) rfl rfl ?_
        refine s_get (x := (φ 11 95 198)) (pc' := 112) (kX11_qTakes_1 0 rfl) rfl fkX11_637 rfl rfl rfl (kz198 Ln) rfl ?_
        refine r_lcmp (pc' := 113) (kX11_qTakes_1 1 rfl) rfl ?_
        refine r_if_le (t := 133) (pc' := 116) (kX11_qTakes_1 2 rfl) rfl rfl (fun c5 => ?_) (fun c5 => ?_)
        · have h := h.1 c5
          exact r_weak (L' := [(2, 198), (9, 0), (9, 0), (9, 0), (9, 0), (9, 0)]) ⟨Or.inl rfl, Or.inr (by decide), Or.inr (by decide), Or.inr (by decide), Or.inr (by decide), Or.inr (by decide), trivial⟩ (h Ln)
        · have h := h.2 c5
          refine r_goto (pc' := 128) (kX11_qTakes_1 3 rfl) rfl ?_
          refine r_aload_n (pc' := 129) (kX11_qTakes_1 9 rfl) rfl rfl ?_
          refine r_lload_n (pc' := 130) (kX11_qTakes_1 10 rfl) rfl rfl ?_
          refine s_put (pc' := 133) (kX11_qTakes_1 11 rfl) rfl fkX11_637 fnX11_95 rfl pk_long (kz198 Ln) ?_
          exact r_weak (L' := [(2, 198), (9, 0), (9, 0), (9, 0), (9, 0), (9, 0)]) ⟨Or.inl rfl, Or.inr (by decide), Or.inr (by decide), Or.inr (by decide), Or.inr (by decide), Or.inr (by decide), trivial⟩ (h Ln)
theorem vX11_qTakes_133 {d : Nat} {φ : aF} {α : aA} {Q : Int → aF → aA → Prop} (h : (Q 0 (upf φ 11 96 198 0) α)) : jX11_qTakes_133 d  φ α Q := by
  intro Ln
  refine r_aload_n (pc' := 134) (kX11_qTakes_1 12 rfl) rfl rfl ?_
  refine r_iconst 0 (pc' := 135) (kX11_qTakes_1 13 rfl) rfl (by unfold inR; omega) ?_
  refine s_put (pc' := 138) (kX11_qTakes_1 14 rfl) rfl fkX11_642 fnX11_96 rfl (pk_bool (Or.inl rfl)) (kz198 Ln) ?_
  exact s_vret (kX11_qTakes_1 15 rfl) rfl h
abbrev jX11_ask_188 (d : Nat) (x1 x2 : Int) (φ : aF) (α : aA) (Q : Int → aF → aA → Prop) : Prop := R0 d mX11_ask 188 [(2, 198), (0, x1), (0, x2)] [] φ α Q
theorem vX11_ask_0 {d : Nat} {φ : aF} {α : aA} {Q : Int → aF → aA → Prop} (h : ((¬ (φ 11 46 198) = 0 →
   (eX11_qKind d  (upf (upf (upf (upf (upf (upf (upf (upf (upf (upf (upf φ 11 3 198 (φ 11 1 198)) 11 1 198 0) 11 2 198 0) 11 4 198 (-1)) 11 5 198 0) 11 6 198 (-1)) 11 47 198 2) 11 88 198 0) 11 90 198 0) 11 91 198 0) 11 92 198 0) α (fun r2 φ2 α2 =>
     ((¬ (φ2 11 5 198) = 0 →
     (((φ2 11 5 198) = 0 →
       ((2 ≤ r2 →
         (jX11_ask_188 (d + 1) r2 0 (upf (upf (upf (upf (upf φ2 11 7 198 (φ2 11 5 198)) 11 8 198 (φ2 11 6 198)) 11 95 198 0) 11 96 198 1) 11 47 198 2) α2 Q)) ∧
         (¬ (2 ≤ r2) →
         (jX11_ask_188 (d + 1) r2 0 (upf (upf (upf (upf (upf φ2 11 7 198 (φ2 11 5 198)) 11 8 198 (φ2 11 6 198)) 11 95 198 (-1)) 11 96 198 1) 11 47 198 2) α2 Q)))) ∧
       (¬ ((φ2 11 5 198) = 0) →
       (Q (-1000000000000000) (upf (upf φ2 11 7 198 (φ2 11 5 198)) 11 8 198 (φ2 11 6 198)) α2)))) ∧
     ((φ2 11 5 198) = 0 →
     ((3 ≤ r2 →
       (eX11_qSums d  φ2 α2 (fun r7 φ7 α7 =>
         ((¬ (φ7 11 5 198) = 0 →
         (((φ7 11 5 198) = 0 →
           ((2 ≤ r2 →
             (jX11_ask_188 (d + 1) r2 0 (upf (upf (upf (upf (upf φ7 11 7 198 (φ7 11 5 198)) 11 8 198 (φ7 11 6 198)) 11 95 198 0) 11 96 198 1) 11 47 198 2) α7 Q)) ∧
             (¬ (2 ≤ r2) →
             (jX11_ask_188 (d + 1) r2 0 (upf (upf (upf (upf (upf φ7 11 7 198 (φ7 11 5 198)) 11 8 198 (φ7 11 6 198)) 11 95 198 (-1)) 11 96 198 1) 11 47 198 2) α7 Q)))) ∧
           (¬ ((φ7 11 5 198) = 0) →
           (Q (-1000000000000000) (upf (upf φ7 11 7 198 (φ7 11 5 198)) 11 8 198 (φ7 11 6 198)) α7)))) ∧
         ((φ7 11 5 198) = 0 →
         (eX11_look d  φ7 α7 (fun r11 φ11 α11 =>
           ((r11 = (-1) →
           (((φ11 11 5 198) = 0 →
             ((2 ≤ r2 →
               (jX11_ask_188 (d + 1) r2 0 (upf (upf (upf (upf (upf φ11 11 7 198 (φ11 11 5 198)) 11 8 198 (φ11 11 6 198)) 11 95 198 0) 11 96 198 1) 11 47 198 2) α11 Q)) ∧
               (¬ (2 ≤ r2) →
               (jX11_ask_188 (d + 1) r2 0 (upf (upf (upf (upf (upf φ11 11 7 198 (φ11 11 5 198)) 11 8 198 (φ11 11 6 198)) 11 95 198 (-1)) 11 96 198 1) 11 47 198 2) α11 Q)))) ∧
             (¬ ((φ11 11 5 198) = 0) →
             (Q (-1000000000000000) (upf (upf φ11 11 7 198 (φ11 11 5 198)) 11 8 198 (φ11 11 6 198)) α11)))) ∧
           (¬ (r11 = (-1)) →
           (eX11_fail d 1 (φ11 11 2 198) φ11 α11 (fun r15 φ15 α15 =>
             (((φ15 11 5 198) = 0 →
             ((2 ≤ r2 →
               (jX11_ask_188 (d + 1) r2 0 (upf (upf (upf (upf (upf φ15 11 7 198 (φ15 11 5 198)) 11 8 198 (φ15 11 6 198)) 11 95 198 0) 11 96 198 1) 11 47 198 2) α15 Q)) ∧
               (¬ (2 ≤ r2) →
               (jX11_ask_188 (d + 1) r2 0 (upf (upf (upf (upf (upf φ15 11 7 198 (φ15 11 5 198)) 11 8 198 (φ15 11 6 198)) 11 95 198 (-1)) 11 96 198 1) 11 47 198 2) α15 Q)))) ∧
             (¬ ((φ15 11 5 198) = 0) →
             (Q (-1000000000000000) (upf (upf φ15 11 7 198 (φ15 11 5 198)) 11 8 198 (φ15 11 6 198)) α15)))))))))))))) ∧
       (¬ (3 ≤ r2) →
       (eX11_qTest d  φ2 α2 (fun r18 φ18 α18 =>
         ((¬ (φ18 11 5 198) = 0 →
         (((φ18 11 5 198) = 0 →
           ((2 ≤ r2 →
             (jX11_ask_188 (d + 1) r2 0 (upf (upf (upf (upf (upf φ18 11 7 198 (φ18 11 5 198)) 11 8 198 (φ18 11 6 198)) 11 95 198 0) 11 96 198 1) 11 47 198 2) α18 Q)) ∧
             (¬ (2 ≤ r2) →
             (jX11_ask_188 (d + 1) r2 0 (upf (upf (upf (upf (upf φ18 11 7 198 (φ18 11 5 198)) 11 8 198 (φ18 11 6 198)) 11 95 198 (-1)) 11 96 198 1) 11 47 198 2) α18 Q)))) ∧
           (¬ ((φ18 11 5 198) = 0) →
           (Q (-1000000000000000) (upf (upf φ18 11 7 198 (φ18 11 5 198)) 11 8 198 (φ18 11 6 198)) α18)))) ∧
         ((φ18 11 5 198) = 0 →
         (eX11_look d  φ18 α18 (fun r22 φ22 α22 =>
           ((r22 = (-1) →
           (((φ22 11 5 198) = 0 →
             ((2 ≤ r2 →
               (jX11_ask_188 (d + 1) r2 0 (upf (upf (upf (upf (upf φ22 11 7 198 (φ22 11 5 198)) 11 8 198 (φ22 11 6 198)) 11 95 198 0) 11 96 198 1) 11 47 198 2) α22 Q)) ∧
               (¬ (2 ≤ r2) →
               (jX11_ask_188 (d + 1) r2 0 (upf (upf (upf (upf (upf φ22 11 7 198 (φ22 11 5 198)) 11 8 198 (φ22 11 6 198)) 11 95 198 (-1)) 11 96 198 1) 11 47 198 2) α22 Q)))) ∧
             (¬ ((φ22 11 5 198) = 0) →
             (Q (-1000000000000000) (upf (upf φ22 11 7 198 (φ22 11 5 198)) 11 8 198 (φ22 11 6 198)) α22)))) ∧
           (¬ (r22 = (-1)) →
           (eX11_fail d 1 (φ22 11 2 198) φ22 α22 (fun r26 φ26 α26 =>
             (((φ26 11 5 198) = 0 →
             ((2 ≤ r2 →
               (jX11_ask_188 (d + 1) r2 0 (upf (upf (upf (upf (upf φ26 11 7 198 (φ26 11 5 198)) 11 8 198 (φ26 11 6 198)) 11 95 198 0) 11 96 198 1) 11 47 198 2) α26 Q)) ∧
               (¬ (2 ≤ r2) →
               (jX11_ask_188 (d + 1) r2 0 (upf (upf (upf (upf (upf φ26 11 7 198 (φ26 11 5 198)) 11 8 198 (φ26 11 6 198)) 11 95 198 (-1)) 11 96 198 1) 11 47 198 2) α26 Q)))) ∧
             (¬ ((φ26 11 5 198) = 0) →
             (Q (-1000000000000000) (upf (upf φ26 11 7 198 (φ26 11 5 198)) 11 8 198 (φ26 11 6 198)) α26)))))))))))))))))))) ∧
   ((φ 11 46 198) = 0 →
   (Q (-1000000000000000) (upf φ 11 1 198 0) α)))) : eX11_ask (d + 1)  φ α Q := by
  intro Ln
  refine r_aload_n (pc' := 1) (kX11_ask_0 0 rfl) rfl rfl ?_
  refine s_get (x := (φ 11 46 198)) (pc' := 4) (kX11_ask_0 1 rfl) rfl fkX11_363 rfl rfl rfl (kz198 Ln) rfl ?_
  refine r_if_ne (t := 16) (pc' := 7) (kX11_ask_0 2 rfl) rfl rfl (fun c1 => ?_) (fun c1 => ?_)
  · have h := h.1 c1
    refine r_aload_n (pc' := 17) (kX11_ask_0 8 rfl) rfl rfl ?_
    refine r_aload_n (pc' := 18) (kX11_ask_0 9 rfl) rfl rfl ?_
    refine s_get (x := (φ 11 1 198)) (pc' := 21) (kX11_ask_0 10 rfl) rfl fkX11_224 rfl rfl rfl (kz198 Ln) rfl ?_
    refine s_put (pc' := 24) (kX11_ask_0 11 rfl) rfl fkX11_236 fnX11_3 rfl pk_int (kz198 Ln) ?_
    refine r_aload_n (pc' := 25) (kX11_ask_0 12 rfl) rfl rfl ?_
    refine r_iconst 0 (pc' := 26) (kX11_ask_0 13 rfl) rfl (by unfold inR; omega) ?_
    refine s_put (pc' := 29) (kX11_ask_0 14 rfl) rfl fkX11_224 fnX11_1 rfl pk_int (kz198 Ln) ?_
    refine r_aload_n (pc' := 30) (kX11_ask_0 15 rfl) rfl rfl ?_
    refine r_iconst 0 (pc' := 31) (kX11_ask_0 16 rfl) rfl (by unfold inR; omega) ?_
    refine s_put (pc' := 34) (kX11_ask_0 17 rfl) rfl fkX11_233 fnX11_2 rfl pk_int (kz198 Ln) ?_
    refine r_aload_n (pc' := 35) (kX11_ask_0 18 rfl) rfl rfl ?_
    refine r_iconst (-1) (pc' := 36) (kX11_ask_0 19 rfl) rfl (by unfold inR; omega) ?_
    refine s_put (pc' := 39) (kX11_ask_0 20 rfl) rfl fkX11_247 fnX11_4 rfl pk_int (kz198 Ln) ?_
    refine r_aload_n (pc' := 40) (kX11_ask_0 21 rfl) rfl rfl ?_
    refine r_iconst 0 (pc' := 41) (kX11_ask_0 22 rfl) rfl (by unfold inR; omega) ?_
    refine s_put (pc' := 44) (kX11_ask_0 23 rfl) rfl fkX11_227 fnX11_5 rfl pk_int (kz198 Ln) ?_
    refine r_aload_n (pc' := 45) (kX11_ask_0 24 rfl) rfl rfl ?_
    refine r_iconst (-1) (pc' := 46) (kX11_ask_0 25 rfl) rfl (by unfold inR; omega) ?_
    refine s_put (pc' := 49) (kX11_ask_0 26 rfl) rfl fkX11_230 fnX11_6 rfl pk_int (kz198 Ln) ?_
    refine r_aload_n (pc' := 50) (kX11_ask_0 27 rfl) rfl rfl ?_
    refine r_iconst 2 (pc' := 51) (kX11_ask_0 28 rfl) rfl (by unfold inR; omega) ?_
    refine s_put (pc' := 54) (kX11_ask_0 29 rfl) rfl fkX11_285 fnX11_47 rfl pk_int (kz198 Ln) ?_
    refine r_aload_n (pc' := 55) (kX11_ask_0 30 rfl) rfl rfl ?_
    refine r_iconst 0 (pc' := 56) (kX11_ask_0 31 rfl) rfl (by unfold inR; omega) ?_
    refine s_put (pc' := 59) (kX11_ask_0 32 rfl) rfl fkX11_315 fnX11_88 rfl pk_int (kz198 Ln) ?_
    refine r_aload_n (pc' := 60) (kX11_ask_0 33 rfl) rfl rfl ?_
    refine r_iconst 0 (pc' := 61) (kX11_ask_0 34 rfl) rfl (by unfold inR; omega) ?_
    refine s_put (pc' := 64) (kX11_ask_0 35 rfl) rfl fkX11_318 fnX11_90 rfl pk_int (kz198 Ln) ?_
    refine r_aload_n (pc' := 65) (kX11_ask_0 36 rfl) rfl rfl ?_
    refine r_iconst 0 (pc' := 66) (kX11_ask_0 37 rfl) rfl (by unfold inR; omega) ?_
    refine s_put (pc' := 69) (kX11_ask_0 38 rfl) rfl fkX11_321 fnX11_91 rfl pk_int (kz198 Ln) ?_
    refine r_aload_n (pc' := 70) (kX11_ask_0 39 rfl) rfl rfl ?_
    refine r_iconst 0 (pc' := 71) (kX11_ask_0 40 rfl) rfl (by unfold inR; omega) ?_
    refine s_put (pc' := 74) (kX11_ask_0 41 rfl) rfl fkX11_324 fnX11_92 rfl pk_int (kz198 Ln) ?_
    refine r_aload_n (pc' := 75) (kX11_ask_0 42 rfl) rfl rfl ?_
    refine s_callV (As := []) (o := 198) (S := []) (S2 := fun z => [(0, z)]) (pc' := 78) (kX11_ask_0 43 rfl) rfl rfl nkX11_qKind mlX11_647 imX11_qKind rfl slX11_qKind rfl (Nat.le_of_ble_eq_true rfl) (Nat.le_of_ble_eq_true rfl) (kz198 Ln) h (fun z => rfl) (fun r2 φ2 α2 h => ?_)
    refine r_istore_n (L' := [(2, 198), (0, r2), (9, 0)]) (pc' := 79) (kX11_ask_0 44 rfl) rfl (Nat.le_of_ble_eq_true rfl) rfl ?_
    refine r_aload_n (pc' := 80) (kX11_ask_0 45 rfl) rfl rfl ?_
    refine s_get (x := (φ2 11 5 198)) (pc' := 83) (kX11_ask_0 46 rfl) rfl fkX11_227 rfl rfl rfl (kz198 Ln) rfl ?_
    refine r_if_ne (t := 98) (pc' := 86) (kX11_ask_0 47 rfl) rfl rfl (fun c3 => ?_) (fun c3 => ?_)
    · have h := h.1 c3
      refine r_aload_n (pc' := 99) (kX11_ask_0 54 rfl) rfl rfl ?_
      refine s_get (x := (φ2 11 5 198)) (pc' := 102) (kX11_ask_0 55 rfl) rfl fkX11_227 rfl rfl rfl (kz198 Ln) rfl ?_
      refine r_if_ne (t := 109) (pc' := 105) (kX11_ask_0 56 rfl) rfl rfl (fun _ => ?_) (fun cz => absurd cz c3)
      refine r_aload_n (pc' := 110) (kX11_ask_0 59 rfl) rfl rfl ?_
      refine s_get (x := (φ2 11 5 198)) (pc' := 113) (kX11_ask_1 0 rfl) rfl fkX11_227 rfl rfl rfl (kz198 Ln) rfl ?_
      refine r_if_ne (t := 133) (pc' := 116) (kX11_ask_1 1 rfl) rfl rfl (fun _ => ?_) (fun cz => absurd cz c3)
      refine r_aload_n (pc' := 134) (kX11_ask_1 11 rfl) rfl rfl ?_
      refine r_aload_n (pc' := 135) (kX11_ask_1 12 rfl) rfl rfl ?_
      refine s_get (x := (φ2 11 5 198)) (pc' := 138) (kX11_ask_1 13 rfl) rfl fkX11_227 rfl rfl rfl (kz198 Ln) rfl ?_
      refine s_put (pc' := 141) (kX11_ask_1 14 rfl) rfl fkX11_357 fnX11_7 rfl pk_int (kz198 Ln) ?_
      refine r_aload_n (pc' := 142) (kX11_ask_1 15 rfl) rfl rfl ?_
      refine r_aload_n (pc' := 143) (kX11_ask_1 16 rfl) rfl rfl ?_
      refine s_get (x := (φ2 11 6 198)) (pc' := 146) (kX11_ask_1 17 rfl) rfl fkX11_230 rfl rfl rfl (kz198 Ln) rfl ?_
      refine s_put (pc' := 149) (kX11_ask_1 18 rfl) rfl fkX11_13 fnX11_8 rfl pk_int (kz198 Ln) ?_
      refine r_aload_n (pc' := 150) (kX11_ask_1 19 rfl) rfl rfl ?_
      refine s_get (x := (φ2 11 5 198)) (pc' := 153) (kX11_ask_1 20 rfl) rfl fkX11_227 rfl rfl rfl (kz198 Ln) rfl ?_
      refine r_if_eq (t := 160) (pc' := 156) (kX11_ask_1 21 rfl) rfl rfl (fun c4 => ?_) (fun c4 => ?_)
      · have h := h.1 c4
        refine r_aload_n (pc' := 161) (kX11_ask_1 24 rfl) rfl rfl ?_
        refine r_iload_n (pc' := 162) (kX11_ask_1 25 rfl) rfl rfl ?_
        refine r_iconst 2 (pc' := 163) (kX11_ask_1 26 rfl) rfl (by unfold inR; omega) ?_
        refine r_icmp_ge (t := 172) (pc' := 166) (kX11_ask_1 27 rfl) rfl rfl (fun c5 => ?_) (fun c5 => ?_)
        · have h := h.1 c5
          refine r_lconst 0 (pc' := 173) (kX11_ask_1 30 rfl) rfl ⟨by unfold inJ; omega, rfl⟩ ?_
          refine s_put (pc' := 176) (kX11_ask_1 31 rfl) rfl fkX11_637 fnX11_95 rfl pk_long (kz198 Ln) ?_
          refine r_aload_n (pc' := 177) (kX11_ask_1 32 rfl) rfl rfl ?_
          refine r_iconst 1 (pc' := 178) (kX11_ask_1 33 rfl) rfl (by unfold inR; omega) ?_
          refine s_put (pc' := 181) (kX11_ask_1 34 rfl) rfl fkX11_642 fnX11_96 rfl (pk_bool (Or.inr rfl)) (kz198 Ln) ?_
          refine r_aload_n (pc' := 182) (kX11_ask_1 35 rfl) rfl rfl ?_
          refine r_iconst 2 (pc' := 183) (kX11_ask_1 36 rfl) rfl (by unfold inR; omega) ?_
          refine s_put (pc' := 186) (kX11_ask_1 37 rfl) rfl fkX11_285 fnX11_47 rfl pk_int (kz198 Ln) ?_
          refine r_iconst 0 (pc' := 187) (kX11_ask_1 38 rfl) rfl (by unfold inR; omega) ?_
          refine r_istore_n (L' := [(2, 198), (0, r2), (0, 0)]) (pc' := 188) (kX11_ask_1 39 rfl) rfl (Nat.le_of_ble_eq_true rfl) rfl ?_
          exact r_weak (L' := [(2, 198), (0, r2), (0, 0)]) ⟨Or.inl rfl, Or.inl rfl, Or.inl rfl, trivial⟩ (h Ln)
        · have h := h.2 c5
          refine r_ldc2 (-1) (pc' := 169) (kX11_ask_1 28 rfl) rfl kcX11_640 (by unfold inJ; omega) ?_
          refine r_goto (pc' := 173) (kX11_ask_1 29 rfl) rfl ?_
          refine s_put (pc' := 176) (kX11_ask_1 31 rfl) rfl fkX11_637 fnX11_95 rfl pk_long (kz198 Ln) ?_
          refine r_aload_n (pc' := 177) (kX11_ask_1 32 rfl) rfl rfl ?_
          refine r_iconst 1 (pc' := 178) (kX11_ask_1 33 rfl) rfl (by unfold inR; omega) ?_
          refine s_put (pc' := 181) (kX11_ask_1 34 rfl) rfl fkX11_642 fnX11_96 rfl (pk_bool (Or.inr rfl)) (kz198 Ln) ?_
          refine r_aload_n (pc' := 182) (kX11_ask_1 35 rfl) rfl rfl ?_
          refine r_iconst 2 (pc' := 183) (kX11_ask_1 36 rfl) rfl (by unfold inR; omega) ?_
          refine s_put (pc' := 186) (kX11_ask_1 37 rfl) rfl fkX11_285 fnX11_47 rfl pk_int (kz198 Ln) ?_
          refine r_iconst 0 (pc' := 187) (kX11_ask_1 38 rfl) rfl (by unfold inR; omega) ?_
          refine r_istore_n (L' := [(2, 198), (0, r2), (0, 0)]) (pc' := 188) (kX11_ask_1 39 rfl) rfl (Nat.le_of_ble_eq_true rfl) rfl ?_
          exact r_weak (L' := [(2, 198), (0, r2), (0, 0)]) ⟨Or.inl rfl, Or.inl rfl, Or.inl rfl, trivial⟩ (h Ln)
      · have h := h.2 c4
        refine r_ldc2 (-1000000000000000) (pc' := 159) (kX11_ask_1 22 rfl) rfl kcX11_645 (by unfold inJ; omega) ?_
        exact s_lret (kX11_ask_1 23 rfl) rfl h
    · have h := h.2 c3
      refine r_iload_n (pc' := 87) (kX11_ask_0 48 rfl) rfl rfl ?_
      refine r_iconst 3 (pc' := 88) (kX11_ask_0 49 rfl) rfl (by unfold inR; omega) ?_
      refine r_icmp_ge (t := 98) (pc' := 91) (kX11_ask_0 50 rfl) rfl rfl (fun c6 => ?_) (fun c6 => ?_)
      · have h := h.1 c6
        refine r_aload_n (pc' := 99) (kX11_ask_0 54 rfl) rfl rfl ?_
        refine s_get (x := (φ2 11 5 198)) (pc' := 102) (kX11_ask_0 55 rfl) rfl fkX11_227 rfl rfl rfl (kz198 Ln) rfl ?_
        refine r_if_ne (t := 109) (pc' := 105) (kX11_ask_0 56 rfl) rfl rfl (fun cz => absurd c3 cz) (fun _ => ?_)
        refine r_aload_n (pc' := 106) (kX11_ask_0 57 rfl) rfl rfl ?_
        refine s_callV (As := []) (o := 198) (S := []) (S2 := fun z => []) (pc' := 109) (kX11_ask_0 58 rfl) rfl rfl nkX11_qSums mlX11_330 imX11_qSums rfl slX11_qSums rfl (Nat.le_of_ble_eq_true rfl) (Nat.le_of_ble_eq_true rfl) (kz198 Ln) h (fun z => rfl) (fun r7 φ7 α7 h => ?_)
        refine r_aload_n (pc' := 110) (kX11_ask_0 59 rfl) rfl rfl ?_
        refine s_get (x := (φ7 11 5 198)) (pc' := 113) (kX11_ask_1 0 rfl) rfl fkX11_227 rfl rfl rfl (kz198 Ln) rfl ?_
        refine r_if_ne (t := 133) (pc' := 116) (kX11_ask_1 1 rfl) rfl rfl (fun c8 => ?_) (fun c8 => ?_)
        · have h := h.1 c8
          refine r_aload_n (pc' := 134) (kX11_ask_1 11 rfl) rfl rfl ?_
          refine r_aload_n (pc' := 135) (kX11_ask_1 12 rfl) rfl rfl ?_
          refine s_get (x := (φ7 11 5 198)) (pc' := 138) (kX11_ask_1 13 rfl) rfl fkX11_227 rfl rfl rfl (kz198 Ln) rfl ?_
          refine s_put (pc' := 141) (kX11_ask_1 14 rfl) rfl fkX11_357 fnX11_7 rfl pk_int (kz198 Ln) ?_
          refine r_aload_n (pc' := 142) (kX11_ask_1 15 rfl) rfl rfl ?_
          refine r_aload_n (pc' := 143) (kX11_ask_1 16 rfl) rfl rfl ?_
          refine s_get (x := (φ7 11 6 198)) (pc' := 146) (kX11_ask_1 17 rfl) rfl fkX11_230 rfl rfl rfl (kz198 Ln) rfl ?_
          refine s_put (pc' := 149) (kX11_ask_1 18 rfl) rfl fkX11_13 fnX11_8 rfl pk_int (kz198 Ln) ?_
          refine r_aload_n (pc' := 150) (kX11_ask_1 19 rfl) rfl rfl ?_
          refine s_get (x := (φ7 11 5 198)) (pc' := 153) (kX11_ask_1 20 rfl) rfl fkX11_227 rfl rfl rfl (kz198 Ln) rfl ?_
          refine r_if_eq (t := 160) (pc' := 156) (kX11_ask_1 21 rfl) rfl rfl (fun c9 => ?_) (fun c9 => ?_)
          · have h := h.1 c9
            refine r_aload_n (pc' := 161) (kX11_ask_1 24 rfl) rfl rfl ?_
            refine r_iload_n (pc' := 162) (kX11_ask_1 25 rfl) rfl rfl ?_
            refine r_iconst 2 (pc' := 163) (kX11_ask_1 26 rfl) rfl (by unfold inR; omega) ?_
            refine r_icmp_ge (t := 172) (pc' := 166) (kX11_ask_1 27 rfl) rfl rfl (fun c10 => ?_) (fun c10 => ?_)
            · have h := h.1 c10
              refine r_lconst 0 (pc' := 173) (kX11_ask_1 30 rfl) rfl ⟨by unfold inJ; omega, rfl⟩ ?_
              refine s_put (pc' := 176) (kX11_ask_1 31 rfl) rfl fkX11_637 fnX11_95 rfl pk_long (kz198 Ln) ?_
              refine r_aload_n (pc' := 177) (kX11_ask_1 32 rfl) rfl rfl ?_
              refine r_iconst 1 (pc' := 178) (kX11_ask_1 33 rfl) rfl (by unfold inR; omega) ?_
              refine s_put (pc' := 181) (kX11_ask_1 34 rfl) rfl fkX11_642 fnX11_96 rfl (pk_bool (Or.inr rfl)) (kz198 Ln) ?_
              refine r_aload_n (pc' := 182) (kX11_ask_1 35 rfl) rfl rfl ?_
              refine r_iconst 2 (pc' := 183) (kX11_ask_1 36 rfl) rfl (by unfold inR; omega) ?_
              refine s_put (pc' := 186) (kX11_ask_1 37 rfl) rfl fkX11_285 fnX11_47 rfl pk_int (kz198 Ln) ?_
              refine r_iconst 0 (pc' := 187) (kX11_ask_1 38 rfl) rfl (by unfold inR; omega) ?_
              refine r_istore_n (L' := [(2, 198), (0, r2), (0, 0)]) (pc' := 188) (kX11_ask_1 39 rfl) rfl (Nat.le_of_ble_eq_true rfl) rfl ?_
              exact r_weak (L' := [(2, 198), (0, r2), (0, 0)]) ⟨Or.inl rfl, Or.inl rfl, Or.inl rfl, trivial⟩ (h Ln)
            · have h := h.2 c10
              refine r_ldc2 (-1) (pc' := 169) (kX11_ask_1 28 rfl) rfl kcX11_640 (by unfold inJ; omega) ?_
              refine r_goto (pc' := 173) (kX11_ask_1 29 rfl) rfl ?_
              refine s_put (pc' := 176) (kX11_ask_1 31 rfl) rfl fkX11_637 fnX11_95 rfl pk_long (kz198 Ln) ?_
              refine r_aload_n (pc' := 177) (kX11_ask_1 32 rfl) rfl rfl ?_
              refine r_iconst 1 (pc' := 178) (kX11_ask_1 33 rfl) rfl (by unfold inR; omega) ?_
              refine s_put (pc' := 181) (kX11_ask_1 34 rfl) rfl fkX11_642 fnX11_96 rfl (pk_bool (Or.inr rfl)) (kz198 Ln) ?_
              refine r_aload_n (pc' := 182) (kX11_ask_1 35 rfl) rfl rfl ?_
              refine r_iconst 2 (pc' := 183) (kX11_ask_1 36 rfl) rfl (by unfold inR; omega) ?_
              refine s_put (pc' := 186) (kX11_ask_1 37 rfl) rfl fkX11_285 fnX11_47 rfl pk_int (kz198 Ln) ?_
              refine r_iconst 0 (pc' := 187) (kX11_ask_1 38 rfl) rfl (by unfold inR; omega) ?_
              refine r_istore_n (L' := [(2, 198), (0, r2), (0, 0)]) (pc' := 188) (kX11_ask_1 39 rfl) rfl (Nat.le_of_ble_eq_true rfl) rfl ?_
              exact r_weak (L' := [(2, 198), (0, r2), (0, 0)]) ⟨Or.inl rfl, Or.inl rfl, Or.inl rfl, trivial⟩ (h Ln)
          · have h := h.2 c9
            refine r_ldc2 (-1000000000000000) (pc' := 159) (kX11_ask_1 22 rfl) rfl kcX11_645 (by unfold inJ; omega) ?_
            exact s_lret (kX11_ask_1 23 rfl) rfl h
        · have h := h.2 c8
          refine r_aload_n (pc' := 117) (kX11_ask_1 2 rfl) rfl rfl ?_
          refine s_callV (As := []) (o := 198) (S := []) (S2 := fun z => [(0, z)]) (pc' := 120) (kX11_ask_1 3 rfl) rfl rfl nkX11_look mlX11_239 imX11_look rfl slX11_look rfl (Nat.le_of_ble_eq_true rfl) (Nat.le_of_ble_eq_true rfl) (kz198 Ln) h (fun z => rfl) (fun r11 φ11 α11 h => ?_)
          refine r_iconst (-1) (pc' := 121) (kX11_ask_1 4 rfl) rfl (by unfold inR; omega) ?_
          refine r_icmp_eq (t := 133) (pc' := 124) (kX11_ask_1 5 rfl) rfl rfl (fun c12 => ?_) (fun c12 => ?_)
          · have h := h.1 c12
            refine r_aload_n (pc' := 134) (kX11_ask_1 11 rfl) rfl rfl ?_
            refine r_aload_n (pc' := 135) (kX11_ask_1 12 rfl) rfl rfl ?_
            refine s_get (x := (φ11 11 5 198)) (pc' := 138) (kX11_ask_1 13 rfl) rfl fkX11_227 rfl rfl rfl (kz198 Ln) rfl ?_
            refine s_put (pc' := 141) (kX11_ask_1 14 rfl) rfl fkX11_357 fnX11_7 rfl pk_int (kz198 Ln) ?_
            refine r_aload_n (pc' := 142) (kX11_ask_1 15 rfl) rfl rfl ?_
            refine r_aload_n (pc' := 143) (kX11_ask_1 16 rfl) rfl rfl ?_
            refine s_get (x := (φ11 11 6 198)) (pc' := 146) (kX11_ask_1 17 rfl) rfl fkX11_230 rfl rfl rfl (kz198 Ln) rfl ?_
            refine s_put (pc' := 149) (kX11_ask_1 18 rfl) rfl fkX11_13 fnX11_8 rfl pk_int (kz198 Ln) ?_
            refine r_aload_n (pc' := 150) (kX11_ask_1 19 rfl) rfl rfl ?_
            refine s_get (x := (φ11 11 5 198)) (pc' := 153) (kX11_ask_1 20 rfl) rfl fkX11_227 rfl rfl rfl (kz198 Ln) rfl ?_
            refine r_if_eq (t := 160) (pc' := 156) (kX11_ask_1 21 rfl) rfl rfl (fun c13 => ?_) (fun c13 => ?_)
            · have h := h.1 c13
              refine r_aload_n (pc' := 161) (kX11_ask_1 24 rfl) rfl rfl ?_
              refine r_iload_n (pc' := 162) (kX11_ask_1 25 rfl) rfl rfl ?_
              refine r_iconst 2 (pc' := 163) (kX11_ask_1 26 rfl) rfl (by unfold inR; omega) ?_
              refine r_icmp_ge (t := 172) (pc' := 166) (kX11_ask_1 27 rfl) rfl rfl (fun c14 => ?_) (fun c14 => ?_)
              · have h := h.1 c14
                refine r_lconst 0 (pc' := 173) (kX11_ask_1 30 rfl) rfl ⟨by unfold inJ; omega, rfl⟩ ?_
                refine s_put (pc' := 176) (kX11_ask_1 31 rfl) rfl fkX11_637 fnX11_95 rfl pk_long (kz198 Ln) ?_
                refine r_aload_n (pc' := 177) (kX11_ask_1 32 rfl) rfl rfl ?_
                refine r_iconst 1 (pc' := 178) (kX11_ask_1 33 rfl) rfl (by unfold inR; omega) ?_
                refine s_put (pc' := 181) (kX11_ask_1 34 rfl) rfl fkX11_642 fnX11_96 rfl (pk_bool (Or.inr rfl)) (kz198 Ln) ?_
                refine r_aload_n (pc' := 182) (kX11_ask_1 35 rfl) rfl rfl ?_
                refine r_iconst 2 (pc' := 183) (kX11_ask_1 36 rfl) rfl (by unfold inR; omega) ?_
                refine s_put (pc' := 186) (kX11_ask_1 37 rfl) rfl fkX11_285 fnX11_47 rfl pk_int (kz198 Ln) ?_
                refine r_iconst 0 (pc' := 187) (kX11_ask_1 38 rfl) rfl (by unfold inR; omega) ?_
                refine r_istore_n (L' := [(2, 198), (0, r2), (0, 0)]) (pc' := 188) (kX11_ask_1 39 rfl) rfl (Nat.le_of_ble_eq_true rfl) rfl ?_
                exact r_weak (L' := [(2, 198), (0, r2), (0, 0)]) ⟨Or.inl rfl, Or.inl rfl, Or.inl rfl, trivial⟩ (h Ln)
              · have h := h.2 c14
                refine r_ldc2 (-1) (pc' := 169) (kX11_ask_1 28 rfl) rfl kcX11_640 (by unfold inJ; omega) ?_
                refine r_goto (pc' := 173) (kX11_ask_1 29 rfl) rfl ?_
                refine s_put (pc' := 176) (kX11_ask_1 31 rfl) rfl fkX11_637 fnX11_95 rfl pk_long (kz198 Ln) ?_
                refine r_aload_n (pc' := 177) (kX11_ask_1 32 rfl) rfl rfl ?_
                refine r_iconst 1 (pc' := 178) (kX11_ask_1 33 rfl) rfl (by unfold inR; omega) ?_
                refine s_put (pc' := 181) (kX11_ask_1 34 rfl) rfl fkX11_642 fnX11_96 rfl (pk_bool (Or.inr rfl)) (kz198 Ln) ?_
                refine r_aload_n (pc' := 182) (kX11_ask_1 35 rfl) rfl rfl ?_
                refine r_iconst 2 (pc' := 183) (kX11_ask_1 36 rfl) rfl (by unfold inR; omega) ?_
                refine s_put (pc' := 186) (kX11_ask_1 37 rfl) rfl fkX11_285 fnX11_47 rfl pk_int (kz198 Ln) ?_
                refine r_iconst 0 (pc' := 187) (kX11_ask_1 38 rfl) rfl (by unfold inR; omega) ?_
                refine r_istore_n (L' := [(2, 198), (0, r2), (0, 0)]) (pc' := 188) (kX11_ask_1 39 rfl) rfl (Nat.le_of_ble_eq_true rfl) rfl ?_
                exact r_weak (L' := [(2, 198), (0, r2), (0, 0)]) ⟨Or.inl rfl, Or.inl rfl, Or.inl rfl, trivial⟩ (h Ln)
            · have h := h.2 c13
              refine r_ldc2 (-1000000000000000) (pc' := 159) (kX11_ask_1 22 rfl) rfl kcX11_645 (by unfold inJ; omega) ?_
              exact s_lret (kX11_ask_1 23 rfl) rfl h
          · have h := h.2 c12
            refine r_aload_n (pc' := 125) (kX11_ask_1 6 rfl) rfl rfl ?_
            refine r_iconst 1 (pc' := 126) (kX11_ask_1 7 rfl) rfl (by unfold inR; omega) ?_
            refine r_aload_n (pc' := 127) (kX11_ask_1 8 rfl) rfl rfl ?_
            refine s_get (x := (φ11 11 2 198)) (pc' := 130) (kX11_ask_1 9 rfl) rfl fkX11_233 rfl rfl rfl (kz198 Ln) rfl ?_
            refine s_callV (As := [(0, 1), (0, (φ11 11 2 198))]) (o := 198) (S := []) (S2 := fun z => []) (pc' := 133) (kX11_ask_1 10 rfl) rfl rfl nkX11_fail mlX11_257 imX11_fail rfl slX11_fail rfl (Nat.le_of_ble_eq_true rfl) (Nat.le_of_ble_eq_true rfl) (kz198 Ln) h (fun z => rfl) (fun r15 φ15 α15 h => ?_)
            refine r_aload_n (pc' := 134) (kX11_ask_1 11 rfl) rfl rfl ?_
            refine r_aload_n (pc' := 135) (kX11_ask_1 12 rfl) rfl rfl ?_
            refine s_get (x := (φ15 11 5 198)) (pc' := 138) (kX11_ask_1 13 rfl) rfl fkX11_227 rfl rfl rfl (kz198 Ln) rfl ?_
            refine s_put (pc' := 141) (kX11_ask_1 14 rfl) rfl fkX11_357 fnX11_7 rfl pk_int (kz198 Ln) ?_
            refine r_aload_n (pc' := 142) (kX11_ask_1 15 rfl) rfl rfl ?_
            refine r_aload_n (pc' := 143) (kX11_ask_1 16 rfl) rfl rfl ?_
            refine s_get (x := (φ15 11 6 198)) (pc' := 146) (kX11_ask_1 17 rfl) rfl fkX11_230 rfl rfl rfl (kz198 Ln) rfl ?_
            refine s_put (pc' := 149) (kX11_ask_1 18 rfl) rfl fkX11_13 fnX11_8 rfl pk_int (kz198 Ln) ?_
            refine r_aload_n (pc' := 150) (kX11_ask_1 19 rfl) rfl rfl ?_
            refine s_get (x := (φ15 11 5 198)) (pc' := 153) (kX11_ask_1 20 rfl) rfl fkX11_227 rfl rfl rfl (kz198 Ln) rfl ?_
            refine r_if_eq (t := 160) (pc' := 156) (kX11_ask_1 21 rfl) rfl rfl (fun c16 => ?_) (fun c16 => ?_)
            · have h := h.1 c16
              refine r_aload_n (pc' := 161) (kX11_ask_1 24 rfl) rfl rfl ?_
              refine r_iload_n (pc' := 162) (kX11_ask_1 25 rfl) rfl rfl ?_
              refine r_iconst 2 (pc' := 163) (kX11_ask_1 26 rfl) rfl (by unfold inR; omega) ?_
              refine r_icmp_ge (t := 172) (pc' := 166) (kX11_ask_1 27 rfl) rfl rfl (fun c17 => ?_) (fun c17 => ?_)
              · have h := h.1 c17
                refine r_lconst 0 (pc' := 173) (kX11_ask_1 30 rfl) rfl ⟨by unfold inJ; omega, rfl⟩ ?_
                refine s_put (pc' := 176) (kX11_ask_1 31 rfl) rfl fkX11_637 fnX11_95 rfl pk_long (kz198 Ln) ?_
                refine r_aload_n (pc' := 177) (kX11_ask_1 32 rfl) rfl rfl ?_
                refine r_iconst 1 (pc' := 178) (kX11_ask_1 33 rfl) rfl (by unfold inR; omega) ?_
                refine s_put (pc' := 181) (kX11_ask_1 34 rfl) rfl fkX11_642 fnX11_96 rfl (pk_bool (Or.inr rfl)) (kz198 Ln) ?_
                refine r_aload_n (pc' := 182) (kX11_ask_1 35 rfl) rfl rfl ?_
                refine r_iconst 2 (pc' := 183) (kX11_ask_1 36 rfl) rfl (by unfold inR; omega) ?_
                refine s_put (pc' := 186) (kX11_ask_1 37 rfl) rfl fkX11_285 fnX11_47 rfl pk_int (kz198 Ln) ?_
                refine r_iconst 0 (pc' := 187) (kX11_ask_1 38 rfl) rfl (by unfold inR; omega) ?_
                refine r_istore_n (L' := [(2, 198), (0, r2), (0, 0)]) (pc' := 188) (kX11_ask_1 39 rfl) rfl (Nat.le_of_ble_eq_true rfl) rfl ?_
                exact r_weak (L' := [(2, 198), (0, r2), (0, 0)]) ⟨Or.inl rfl, Or.inl rfl, Or.inl rfl, trivial⟩ (h Ln)
              · have h := h.2 c17
                refine r_ldc2 (-1) (pc' := 169) (kX11_ask_1 28 rfl) rfl kcX11_640 (by unfold inJ; omega) ?_
                refine r_goto (pc' := 173) (kX11_ask_1 29 rfl) rfl ?_
                refine s_put (pc' := 176) (kX11_ask_1 31 rfl) rfl fkX11_637 fnX11_95 rfl pk_long (kz198 Ln) ?_
                refine r_aload_n (pc' := 177) (kX11_ask_1 32 rfl) rfl rfl ?_
                refine r_iconst 1 (pc' := 178) (kX11_ask_1 33 rfl) rfl (by unfold inR; omega) ?_
                refine s_put (pc' := 181) (kX11_ask_1 34 rfl) rfl fkX11_642 fnX11_96 rfl (pk_bool (Or.inr rfl)) (kz198 Ln) ?_
                refine r_aload_n (pc' := 182) (kX11_ask_1 35 rfl) rfl rfl ?_
                refine r_iconst 2 (pc' := 183) (kX11_ask_1 36 rfl) rfl (by unfold inR; omega) ?_
                refine s_put (pc' := 186) (kX11_ask_1 37 rfl) rfl fkX11_285 fnX11_47 rfl pk_int (kz198 Ln) ?_
                refine r_iconst 0 (pc' := 187) (kX11_ask_1 38 rfl) rfl (by unfold inR; omega) ?_
                refine r_istore_n (L' := [(2, 198), (0, r2), (0, 0)]) (pc' := 188) (kX11_ask_1 39 rfl) rfl (Nat.le_of_ble_eq_true rfl) rfl ?_
                exact r_weak (L' := [(2, 198), (0, r2), (0, 0)]) ⟨Or.inl rfl, Or.inl rfl, Or.inl rfl, trivial⟩ (h Ln)
            · have h := h.2 c16
              refine r_ldc2 (-1000000000000000) (pc' := 159) (kX11_ask_1 22 rfl) rfl kcX11_645 (by unfold inJ; omega) ?_
              exact s_lret (kX11_ask_1 23 rfl) rfl h
      · have h := h.2 c6
        refine r_aload_n (pc' := 92) (kX11_ask_0 51 rfl) rfl rfl ?_
        refine s_callV (As := []) (o := 198) (S := []) (S2 := fun z => []) (pc' := 95) (kX11_ask_0 52 rfl) rfl rfl nkX11_qTest mlX11_327 imX11_qTest rfl slX11_qTest rfl (Nat.le_of_ble_eq_true rfl) (Nat.le_of_ble_eq_true rfl) (kz198 Ln) h (fun z => rfl) (fun r18 φ18 α18 h => ?_)
        refine r_goto (pc' := 109) (kX11_ask_0 53 rfl) rfl ?_
        refine r_aload_n (pc' := 110) (kX11_ask_0 59 rfl) rfl rfl ?_
        refine s_get (x := (φ18 11 5 198)) (pc' := 113) (kX11_ask_1 0 rfl) rfl fkX11_227 rfl rfl rfl (kz198 Ln) rfl ?_
        refine r_if_ne (t := 133) (pc' := 116) (kX11_ask_1 1 rfl) rfl rfl (fun c19 => ?_) (fun c19 => ?_)
        · have h := h.1 c19
          refine r_aload_n (pc' := 134) (kX11_ask_1 11 rfl) rfl rfl ?_
          refine r_aload_n (pc' := 135) (kX11_ask_1 12 rfl) rfl rfl ?_
          refine s_get (x := (φ18 11 5 198)) (pc' := 138) (kX11_ask_1 13 rfl) rfl fkX11_227 rfl rfl rfl (kz198 Ln) rfl ?_
          refine s_put (pc' := 141) (kX11_ask_1 14 rfl) rfl fkX11_357 fnX11_7 rfl pk_int (kz198 Ln) ?_
          refine r_aload_n (pc' := 142) (kX11_ask_1 15 rfl) rfl rfl ?_
          refine r_aload_n (pc' := 143) (kX11_ask_1 16 rfl) rfl rfl ?_
          refine s_get (x := (φ18 11 6 198)) (pc' := 146) (kX11_ask_1 17 rfl) rfl fkX11_230 rfl rfl rfl (kz198 Ln) rfl ?_
          refine s_put (pc' := 149) (kX11_ask_1 18 rfl) rfl fkX11_13 fnX11_8 rfl pk_int (kz198 Ln) ?_
          refine r_aload_n (pc' := 150) (kX11_ask_1 19 rfl) rfl rfl ?_
          refine s_get (x := (φ18 11 5 198)) (pc' := 153) (kX11_ask_1 20 rfl) rfl fkX11_227 rfl rfl rfl (kz198 Ln) rfl ?_
          refine r_if_eq (t := 160) (pc' := 156) (kX11_ask_1 21 rfl) rfl rfl (fun c20 => ?_) (fun c20 => ?_)
          · have h := h.1 c20
            refine r_aload_n (pc' := 161) (kX11_ask_1 24 rfl) rfl rfl ?_
            refine r_iload_n (pc' := 162) (kX11_ask_1 25 rfl) rfl rfl ?_
            refine r_iconst 2 (pc' := 163) (kX11_ask_1 26 rfl) rfl (by unfold inR; omega) ?_
            refine r_icmp_ge (t := 172) (pc' := 166) (kX11_ask_1 27 rfl) rfl rfl (fun c21 => ?_) (fun c21 => ?_)
            · have h := h.1 c21
              refine r_lconst 0 (pc' := 173) (kX11_ask_1 30 rfl) rfl ⟨by unfold inJ; omega, rfl⟩ ?_
              refine s_put (pc' := 176) (kX11_ask_1 31 rfl) rfl fkX11_637 fnX11_95 rfl pk_long (kz198 Ln) ?_
              refine r_aload_n (pc' := 177) (kX11_ask_1 32 rfl) rfl rfl ?_
              refine r_iconst 1 (pc' := 178) (kX11_ask_1 33 rfl) rfl (by unfold inR; omega) ?_
              refine s_put (pc' := 181) (kX11_ask_1 34 rfl) rfl fkX11_642 fnX11_96 rfl (pk_bool (Or.inr rfl)) (kz198 Ln) ?_
              refine r_aload_n (pc' := 182) (kX11_ask_1 35 rfl) rfl rfl ?_
              refine r_iconst 2 (pc' := 183) (kX11_ask_1 36 rfl) rfl (by unfold inR; omega) ?_
              refine s_put (pc' := 186) (kX11_ask_1 37 rfl) rfl fkX11_285 fnX11_47 rfl pk_int (kz198 Ln) ?_
              refine r_iconst 0 (pc' := 187) (kX11_ask_1 38 rfl) rfl (by unfold inR; omega) ?_
              refine r_istore_n (L' := [(2, 198), (0, r2), (0, 0)]) (pc' := 188) (kX11_ask_1 39 rfl) rfl (Nat.le_of_ble_eq_true rfl) rfl ?_
              exact r_weak (L' := [(2, 198), (0, r2), (0, 0)]) ⟨Or.inl rfl, Or.inl rfl, Or.inl rfl, trivial⟩ (h Ln)
            · have h := h.2 c21
              refine r_ldc2 (-1) (pc' := 169) (kX11_ask_1 28 rfl) rfl kcX11_640 (by unfold inJ; omega) ?_
              refine r_goto (pc' := 173) (kX11_ask_1 29 rfl) rfl ?_
              refine s_put (pc' := 176) (kX11_ask_1 31 rfl) rfl fkX11_637 fnX11_95 rfl pk_long (kz198 Ln) ?_
              refine r_aload_n (pc' := 177) (kX11_ask_1 32 rfl) rfl rfl ?_
              refine r_iconst 1 (pc' := 178) (kX11_ask_1 33 rfl) rfl (by unfold inR; omega) ?_
              refine s_put (pc' := 181) (kX11_ask_1 34 rfl) rfl fkX11_642 fnX11_96 rfl (pk_bool (Or.inr rfl)) (kz198 Ln) ?_
              refine r_aload_n (pc' := 182) (kX11_ask_1 35 rfl) rfl rfl ?_
              refine r_iconst 2 (pc' := 183) (kX11_ask_1 36 rfl) rfl (by unfold inR; omega) ?_
              refine s_put (pc' := 186) (kX11_ask_1 37 rfl) rfl fkX11_285 fnX11_47 rfl pk_int (kz198 Ln) ?_
              refine r_iconst 0 (pc' := 187) (kX11_ask_1 38 rfl) rfl (by unfold inR; omega) ?_
              refine r_istore_n (L' := [(2, 198), (0, r2), (0, 0)]) (pc' := 188) (kX11_ask_1 39 rfl) rfl (Nat.le_of_ble_eq_true rfl) rfl ?_
              exact r_weak (L' := [(2, 198), (0, r2), (0, 0)]) ⟨Or.inl rfl, Or.inl rfl, Or.inl rfl, trivial⟩ (h Ln)
          · have h := h.2 c20
            refine r_ldc2 (-1000000000000000) (pc' := 159) (kX11_ask_1 22 rfl) rfl kcX11_645 (by unfold inJ; omega) ?_
            exact s_lret (kX11_ask_1 23 rfl) rfl h
        · have h := h.2 c19
          refine r_aload_n (pc' := 117) (kX11_ask_1 2 rfl) rfl rfl ?_
          refine s_callV (As := []) (o := 198) (S := []) (S2 := fun z => [(0, z)]) (pc' := 120) (kX11_ask_1 3 rfl) rfl rfl nkX11_look mlX11_239 imX11_look rfl slX11_look rfl (Nat.le_of_ble_eq_true rfl) (Nat.le_of_ble_eq_true rfl) (kz198 Ln) h (fun z => rfl) (fun r22 φ22 α22 h => ?_)
          refine r_iconst (-1) (pc' := 121) (kX11_ask_1 4 rfl) rfl (by unfold inR; omega) ?_
          refine r_icmp_eq (t := 133) (pc' := 124) (kX11_ask_1 5 rfl) rfl rfl (fun c23 => ?_) (fun c23 => ?_)
          · have h := h.1 c23
            refine r_aload_n (pc' := 134) (kX11_ask_1 11 rfl) rfl rfl ?_
            refine r_aload_n (pc' := 135) (kX11_ask_1 12 rfl) rfl rfl ?_
            refine s_get (x := (φ22 11 5 198)) (pc' := 138) (kX11_ask_1 13 rfl) rfl fkX11_227 rfl rfl rfl (kz198 Ln) rfl ?_
            refine s_put (pc' := 141) (kX11_ask_1 14 rfl) rfl fkX11_357 fnX11_7 rfl pk_int (kz198 Ln) ?_
            refine r_aload_n (pc' := 142) (kX11_ask_1 15 rfl) rfl rfl ?_
            refine r_aload_n (pc' := 143) (kX11_ask_1 16 rfl) rfl rfl ?_
            refine s_get (x := (φ22 11 6 198)) (pc' := 146) (kX11_ask_1 17 rfl) rfl fkX11_230 rfl rfl rfl (kz198 Ln) rfl ?_
            refine s_put (pc' := 149) (kX11_ask_1 18 rfl) rfl fkX11_13 fnX11_8 rfl pk_int (kz198 Ln) ?_
            refine r_aload_n (pc' := 150) (kX11_ask_1 19 rfl) rfl rfl ?_
            refine s_get (x := (φ22 11 5 198)) (pc' := 153) (kX11_ask_1 20 rfl) rfl fkX11_227 rfl rfl rfl (kz198 Ln) rfl ?_
            refine r_if_eq (t := 160) (pc' := 156) (kX11_ask_1 21 rfl) rfl rfl (fun c24 => ?_) (fun c24 => ?_)
            · have h := h.1 c24
              refine r_aload_n (pc' := 161) (kX11_ask_1 24 rfl) rfl rfl ?_
              refine r_iload_n (pc' := 162) (kX11_ask_1 25 rfl) rfl rfl ?_
              refine r_iconst 2 (pc' := 163) (kX11_ask_1 26 rfl) rfl (by unfold inR; omega) ?_
              refine r_icmp_ge (t := 172) (pc' := 166) (kX11_ask_1 27 rfl) rfl rfl (fun c25 => ?_) (fun c25 => ?_)
              · have h := h.1 c25
                refine r_lconst 0 (pc' := 173) (kX11_ask_1 30 rfl) rfl ⟨by unfold inJ; omega, rfl⟩ ?_
                refine s_put (pc' := 176) (kX11_ask_1 31 rfl) rfl fkX11_637 fnX11_95 rfl pk_long (kz198 Ln) ?_
                refine r_aload_n (pc' := 177) (kX11_ask_1 32 rfl) rfl rfl ?_
                refine r_iconst 1 (pc' := 178) (kX11_ask_1 33 rfl) rfl (by unfold inR; omega) ?_
                refine s_put (pc' := 181) (kX11_ask_1 34 rfl) rfl fkX11_642 fnX11_96 rfl (pk_bool (Or.inr rfl)) (kz198 Ln) ?_
                refine r_aload_n (pc' := 182) (kX11_ask_1 35 rfl) rfl rfl ?_
                refine r_iconst 2 (pc' := 183) (kX11_ask_1 36 rfl) rfl (by unfold inR; omega) ?_
                refine s_put (pc' := 186) (kX11_ask_1 37 rfl) rfl fkX11_285 fnX11_47 rfl pk_int (kz198 Ln) ?_
                refine r_iconst 0 (pc' := 187) (kX11_ask_1 38 rfl) rfl (by unfold inR; omega) ?_
                refine r_istore_n (L' := [(2, 198), (0, r2), (0, 0)]) (pc' := 188) (kX11_ask_1 39 rfl) rfl (Nat.le_of_ble_eq_true rfl) rfl ?_
                exact r_weak (L' := [(2, 198), (0, r2), (0, 0)]) ⟨Or.inl rfl, Or.inl rfl, Or.inl rfl, trivial⟩ (h Ln)
              · have h := h.2 c25
                refine r_ldc2 (-1) (pc' := 169) (kX11_ask_1 28 rfl) rfl kcX11_640 (by unfold inJ; omega) ?_
                refine r_goto (pc' := 173) (kX11_ask_1 29 rfl) rfl ?_
                refine s_put (pc' := 176) (kX11_ask_1 31 rfl) rfl fkX11_637 fnX11_95 rfl pk_long (kz198 Ln) ?_
                refine r_aload_n (pc' := 177) (kX11_ask_1 32 rfl) rfl rfl ?_
                refine r_iconst 1 (pc' := 178) (kX11_ask_1 33 rfl) rfl (by unfold inR; omega) ?_
                refine s_put (pc' := 181) (kX11_ask_1 34 rfl) rfl fkX11_642 fnX11_96 rfl (pk_bool (Or.inr rfl)) (kz198 Ln) ?_
                refine r_aload_n (pc' := 182) (kX11_ask_1 35 rfl) rfl rfl ?_
                refine r_iconst 2 (pc' := 183) (kX11_ask_1 36 rfl) rfl (by unfold inR; omega) ?_
                refine s_put (pc' := 186) (kX11_ask_1 37 rfl) rfl fkX11_285 fnX11_47 rfl pk_int (kz198 Ln) ?_
                refine r_iconst 0 (pc' := 187) (kX11_ask_1 38 rfl) rfl (by unfold inR; omega) ?_
                refine r_istore_n (L' := [(2, 198), (0, r2), (0, 0)]) (pc' := 188) (kX11_ask_1 39 rfl) rfl (Nat.le_of_ble_eq_true rfl) rfl ?_
                exact r_weak (L' := [(2, 198), (0, r2), (0, 0)]) ⟨Or.inl rfl, Or.inl rfl, Or.inl rfl, trivial⟩ (h Ln)
            · have h := h.2 c24
              refine r_ldc2 (-1000000000000000) (pc' := 159) (kX11_ask_1 22 rfl) rfl kcX11_645 (by unfold inJ; omega) ?_
              exact s_lret (kX11_ask_1 23 rfl) rfl h
          · have h := h.2 c23
            refine r_aload_n (pc' := 125) (kX11_ask_1 6 rfl) rfl rfl ?_
            refine r_iconst 1 (pc' := 126) (kX11_ask_1 7 rfl) rfl (by unfold inR; omega) ?_
            refine r_aload_n (pc' := 127) (kX11_ask_1 8 rfl) rfl rfl ?_
            refine s_get (x := (φ22 11 2 198)) (pc' := 130) (kX11_ask_1 9 rfl) rfl fkX11_233 rfl rfl rfl (kz198 Ln) rfl ?_
            refine s_callV (As := [(0, 1), (0, (φ22 11 2 198))]) (o := 198) (S := []) (S2 := fun z => []) (pc' := 133) (kX11_ask_1 10 rfl) rfl rfl nkX11_fail mlX11_257 imX11_fail rfl slX11_fail rfl (Nat.le_of_ble_eq_true rfl) (Nat.le_of_ble_eq_true rfl) (kz198 Ln) h (fun z => rfl) (fun r26 φ26 α26 h => ?_)
            refine r_aload_n (pc' := 134) (kX11_ask_1 11 rfl) rfl rfl ?_
            refine r_aload_n (pc' := 135) (kX11_ask_1 12 rfl) rfl rfl ?_
            refine s_get (x := (φ26 11 5 198)) (pc' := 138) (kX11_ask_1 13 rfl) rfl fkX11_227 rfl rfl rfl (kz198 Ln) rfl ?_
            refine s_put (pc' := 141) (kX11_ask_1 14 rfl) rfl fkX11_357 fnX11_7 rfl pk_int (kz198 Ln) ?_
            refine r_aload_n (pc' := 142) (kX11_ask_1 15 rfl) rfl rfl ?_
            refine r_aload_n (pc' := 143) (kX11_ask_1 16 rfl) rfl rfl ?_
            refine s_get (x := (φ26 11 6 198)) (pc' := 146) (kX11_ask_1 17 rfl) rfl fkX11_230 rfl rfl rfl (kz198 Ln) rfl ?_
            refine s_put (pc' := 149) (kX11_ask_1 18 rfl) rfl fkX11_13 fnX11_8 rfl pk_int (kz198 Ln) ?_
            refine r_aload_n (pc' := 150) (kX11_ask_1 19 rfl) rfl rfl ?_
            refine s_get (x := (φ26 11 5 198)) (pc' := 153) (kX11_ask_1 20 rfl) rfl fkX11_227 rfl rfl rfl (kz198 Ln) rfl ?_
            refine r_if_eq (t := 160) (pc' := 156) (kX11_ask_1 21 rfl) rfl rfl (fun c27 => ?_) (fun c27 => ?_)
            · have h := h.1 c27
              refine r_aload_n (pc' := 161) (kX11_ask_1 24 rfl) rfl rfl ?_
              refine r_iload_n (pc' := 162) (kX11_ask_1 25 rfl) rfl rfl ?_
              refine r_iconst 2 (pc' := 163) (kX11_ask_1 26 rfl) rfl (by unfold inR; omega) ?_
              refine r_icmp_ge (t := 172) (pc' := 166) (kX11_ask_1 27 rfl) rfl rfl (fun c28 => ?_) (fun c28 => ?_)
              · have h := h.1 c28
                refine r_lconst 0 (pc' := 173) (kX11_ask_1 30 rfl) rfl ⟨by unfold inJ; omega, rfl⟩ ?_
                refine s_put (pc' := 176) (kX11_ask_1 31 rfl) rfl fkX11_637 fnX11_95 rfl pk_long (kz198 Ln) ?_
                refine r_aload_n (pc' := 177) (kX11_ask_1 32 rfl) rfl rfl ?_
                refine r_iconst 1 (pc' := 178) (kX11_ask_1 33 rfl) rfl (by unfold inR; omega) ?_
                refine s_put (pc' := 181) (kX11_ask_1 34 rfl) rfl fkX11_642 fnX11_96 rfl (pk_bool (Or.inr rfl)) (kz198 Ln) ?_
                refine r_aload_n (pc' := 182) (kX11_ask_1 35 rfl) rfl rfl ?_
                refine r_iconst 2 (pc' := 183) (kX11_ask_1 36 rfl) rfl (by unfold inR; omega) ?_
                refine s_put (pc' := 186) (kX11_ask_1 37 rfl) rfl fkX11_285 fnX11_47 rfl pk_int (kz198 Ln) ?_
                refine r_iconst 0 (pc' := 187) (kX11_ask_1 38 rfl) rfl (by unfold inR; omega) ?_
                refine r_istore_n (L' := [(2, 198), (0, r2), (0, 0)]) (pc' := 188) (kX11_ask_1 39 rfl) rfl (Nat.le_of_ble_eq_true rfl) rfl ?_
                exact r_weak (L' := [(2, 198), (0, r2), (0, 0)]) ⟨Or.inl rfl, Or.inl rfl, Or.inl rfl, trivial⟩ (h Ln)
              · have h := h.2 c28
                refine r_ldc2 (-1) (pc' := 169) (kX11_ask_1 28 rfl) rfl kcX11_640 (by unfold inJ; omega) ?_
                refine r_goto (pc' := 173) (kX11_ask_1 29 rfl) rfl ?_
                refine s_put (pc' := 176) (kX11_ask_1 31 rfl) rfl fkX11_637 fnX11_95 rfl pk_long (kz198 Ln) ?_
                refine r_aload_n (pc' := 177) (kX11_ask_1 32 rfl) rfl rfl ?_
                refine r_iconst 1 (pc' := 178) (kX11_ask_1 33 rfl) rfl (by unfold inR; omega) ?_
                refine s_put (pc' := 181) (kX11_ask_1 34 rfl) rfl fkX11_642 fnX11_96 rfl (pk_bool (Or.inr rfl)) (kz198 Ln) ?_
                refine r_aload_n (pc' := 182) (kX11_ask_1 35 rfl) rfl rfl ?_
                refine r_iconst 2 (pc' := 183) (kX11_ask_1 36 rfl) rfl (by unfold inR; omega) ?_
                refine s_put (pc' := 186) (kX11_ask_1 37 rfl) rfl fkX11_285 fnX11_47 rfl pk_int (kz198 Ln) ?_
                refine r_iconst 0 (pc' := 187) (kX11_ask_1 38 rfl) rfl (by unfold inR; omega) ?_
                refine r_istore_n (L' := [(2, 198), (0, r2), (0, 0)]) (pc' := 188) (kX11_ask_1 39 rfl) rfl (Nat.le_of_ble_eq_true rfl) rfl ?_
                exact r_weak (L' := [(2, 198), (0, r2), (0, 0)]) ⟨Or.inl rfl, Or.inl rfl, Or.inl rfl, trivial⟩ (h Ln)
            · have h := h.2 c27
              refine r_ldc2 (-1000000000000000) (pc' := 159) (kX11_ask_1 22 rfl) rfl kcX11_645 (by unfold inJ; omega) ?_
              exact s_lret (kX11_ask_1 23 rfl) rfl h
  · have h := h.2 c1
    refine r_aload_n (pc' := 8) (kX11_ask_0 3 rfl) rfl rfl ?_
    refine r_iconst 0 (pc' := 9) (kX11_ask_0 4 rfl) rfl (by unfold inR; omega) ?_
    refine s_put (pc' := 12) (kX11_ask_0 5 rfl) rfl fkX11_224 fnX11_1 rfl pk_int (kz198 Ln) ?_
    refine r_ldc2 (-1000000000000000) (pc' := 15) (kX11_ask_0 6 rfl) rfl kcX11_645 (by unfold inJ; omega) ?_
    exact s_lret (kX11_ask_0 7 rfl) rfl h
theorem vX11_ask_188 {d : Nat} {φ : aF} {α : aA} {Q : Int → aF → aA → Prop} {x1 : Int} {x2 : Int} (h : (eX11_clerkMany d  φ α (fun r1 φ1 α1 =>
   ((r1 ≤ x2 →
   (Q (φ1 11 95 198) φ1 α1)) ∧
   (¬ (r1 ≤ x2) →
   (eX11_qTold d x2 φ1 α1 (fun r3 φ3 α3 =>
     (eX11_qTakes d x1 r3 x2 φ3 α3 (fun r4 φ4 α4 =>
     inR (x2 + 1) ∧ (jX11_ask_188 (d + 1) x1 (x2 + 1) φ4 α4 Q)))))))))) : jX11_ask_188 (d + 1) x1 x2 φ α Q := by
  intro Ln
  refine r_iload_n (pc' := 189) (kX11_ask_1 40 rfl) rfl rfl ?_
  refine r_aload_n (pc' := 190) (kX11_ask_1 41 rfl) rfl rfl ?_
  refine s_callV (As := []) (o := 198) (S := [(0, x2)]) (S2 := fun z => [(0, z), (0, x2)]) (pc' := 193) (kX11_ask_1 42 rfl) rfl rfl nkX11_clerkMany mlX11_376 imX11_clerkMany rfl slX11_clerkMany rfl (Nat.le_of_ble_eq_true rfl) (Nat.le_of_ble_eq_true rfl) (kz198 Ln) h (fun z => rfl) (fun r1 φ1 α1 h => ?_)
  refine r_icmp_ge (t := 213) (pc' := 196) (kX11_ask_1 43 rfl) rfl rfl (fun c2 => ?_) (fun c2 => ?_)
  · have h := h.1 c2
    refine r_aload_n (pc' := 214) (kX11_ask_1 53 rfl) rfl rfl ?_
    refine s_get (x := (φ1 11 95 198)) (pc' := 217) (kX11_ask_1 54 rfl) rfl fkX11_637 rfl rfl rfl (kz198 Ln) rfl ?_
    exact s_lret (kX11_ask_1 55 rfl) rfl h
  · have h := h.2 c2
    refine r_aload_n (pc' := 197) (kX11_ask_1 44 rfl) rfl rfl ?_
    refine r_iload_n (pc' := 198) (kX11_ask_1 45 rfl) rfl rfl ?_
    refine r_aload_n (pc' := 199) (kX11_ask_1 46 rfl) rfl rfl ?_
    refine r_iload_n (pc' := 200) (kX11_ask_1 47 rfl) rfl rfl ?_
    refine s_callV (As := [(0, x2)]) (o := 198) (S := [(0, x1), (2, 198)]) (S2 := fun z => [(1, z), (0, x1), (2, 198)]) (pc' := 203) (kX11_ask_1 48 rfl) rfl rfl nkX11_qTold mlX11_650 imX11_qTold rfl slX11_qTold rfl (Nat.le_of_ble_eq_true rfl) (Nat.le_of_ble_eq_true rfl) (kz198 Ln) h (fun z => rfl) (fun r3 φ3 α3 h => ?_)
    refine r_iload_n (pc' := 204) (kX11_ask_1 49 rfl) rfl rfl ?_
    refine s_callV (As := [(0, x1), (1, r3), (0, x2)]) (o := 198) (S := []) (S2 := fun z => []) (pc' := 207) (kX11_ask_1 50 rfl) rfl rfl nkX11_qTakes mlX11_654 imX11_qTakes rfl slX11_qTakes rfl (Nat.le_of_ble_eq_true rfl) (Nat.le_of_ble_eq_true rfl) (kz198 Ln) h (fun z => rfl) (fun r4 φ4 α4 h => ?_)
    have g5 := h.1
    have h := h.2
    refine r_iinc (L' := [(2, 198), (0, x1), (0, (x2 + 1))]) (pc' := 210) (kX11_ask_1 51 rfl) rfl (Nat.le_of_ble_eq_true rfl) rfl g5 rfl ?_
    refine r_goto (pc' := 188) (kX11_ask_1 52 rfl) rfl ?_
    exact r_weak (L' := [(2, 198), (0, x1), (0, (x2 + 1))]) ⟨Or.inl rfl, Or.inl rfl, Or.inl rfl, trivial⟩ (h Ln)
abbrev jX11_checked_6 (d : Nat) (x0 x1 x2 x3 : Int) (φ : aF) (α : aA) (Q : Int → aF → aA → Prop) : Prop := R0 d mX11_checked 6 [(2, x0), (0, x1), (0, x2), (0, x3)] [] φ α Q
theorem vX11_checked_0 {d : Nat} {φ : aF} {α : aA} {Q : Int → aF → aA → Prop} {x0 : Int} {nx0 : Nat} {x1 : Int} (hx0 : isIA x0 nx0) (h : (jX11_checked_6 d x0 x1 191 0 φ α Q)) : eX11_checked d x0 x1 φ α Q := by
  intro Ln
  refine r_sipush 191 (pc' := 3) (kX11_checked_0 0 rfl) rfl ⟨by unfold inR; omega, rfl⟩ ?_
  refine r_istore_n (L' := [(2, x0), (0, x1), (0, 191), (9, 0)]) (pc' := 4) (kX11_checked_0 1 rfl) rfl (Nat.le_of_ble_eq_true rfl) rfl ?_
  refine r_iconst 0 (pc' := 5) (kX11_checked_0 2 rfl) rfl (by unfold inR; omega) ?_
  refine r_istore_n (L' := [(2, x0), (0, x1), (0, 191), (0, 0)]) (pc' := 6) (kX11_checked_0 3 rfl) rfl (Nat.le_of_ble_eq_true rfl) rfl ?_
  exact r_weak (L' := [(2, x0), (0, x1), (0, 191), (0, 0)]) ⟨Or.inl rfl, Or.inl rfl, Or.inl rfl, Or.inl rfl, trivial⟩ (h Ln)
theorem vX11_checked_6 {d : Nat} {φ : aF} {α : aA} {Q : Int → aF → aA → Prop} {x0 : Int} {nx0 : Nat} {x1 : Int} {x2 : Int} {x3 : Int} (hx0 : isIA x0 nx0) (h : ((x1 ≤ x3 →
   (Q x2 φ α)) ∧
   (¬ (x1 ≤ x3) →
   inR (3 * x2) ∧ (0 ≤ x3 ∧ x3 < (nx0 : Nat)) ∧ inR ((3 * x2) + (α x0 x3)) ∧ inR (Int.tmod ((3 * x2) + (α x0 x3)) 251) ∧ inR (x3 + 1) ∧ (jX11_checked_6 d x0 x1 (Int.tmod ((3 * x2) + (α x0 x3)) 251) (x3 + 1) φ α Q)))) : jX11_checked_6 d x0 x1 x2 x3 φ α Q := by
  intro Ln
  refine r_iload_n (pc' := 7) (kX11_checked_0 4 rfl) rfl rfl ?_
  refine r_iload_n (pc' := 8) (kX11_checked_0 5 rfl) rfl rfl ?_
  refine r_icmp_ge (t := 29) (pc' := 11) (kX11_checked_0 6 rfl) rfl rfl (fun c1 => ?_) (fun c1 => ?_)
  · have h := h.1 c1
    refine r_iload_n (pc' := 30) (kX11_checked_0 19 rfl) rfl rfl ?_
    exact s_iret (kX11_checked_0 20 rfl) rfl h
  · have h := h.2 c1
    refine r_iconst 3 (pc' := 12) (kX11_checked_0 7 rfl) rfl (by unfold inR; omega) ?_
    refine r_iload_n (pc' := 13) (kX11_checked_0 8 rfl) rfl rfl ?_
    have g2 := h.1
    have h := h.2
    refine r_imul (pc' := 14) (kX11_checked_0 9 rfl) rfl g2 ?_
    refine r_aload_n (pc' := 15) (kX11_checked_0 10 rfl) rfl rfl ?_
    refine r_iload_n (pc' := 16) (kX11_checked_0 11 rfl) rfl rfl ?_
    have g3 := h.1
    have h := h.2
    refine s_iald (x := (α x0 x3)) (pc' := 17) (kX11_checked_0 12 rfl) rfl (hx0 Ln) g3 rfl ?_
    have g4 := h.1
    have h := h.2
    refine r_iadd (pc' := 18) (kX11_checked_0 13 rfl) rfl g4 ?_
    refine r_sipush 251 (pc' := 21) (kX11_checked_0 14 rfl) rfl ⟨by unfold inR; omega, rfl⟩ ?_
    have g5 := h.1
    have h := h.2
    refine r_irem (pc' := 22) (kX11_checked_0 15 rfl) rfl ⟨by decide, g5⟩ ?_
    refine r_istore_n (L' := [(2, x0), (0, x1), (0, (Int.tmod ((3 * x2) + (α x0 x3)) 251)), (0, x3)]) (pc' := 23) (kX11_checked_0 16 rfl) rfl (Nat.le_of_ble_eq_true rfl) rfl ?_
    have g6 := h.1
    have h := h.2
    refine r_iinc (L' := [(2, x0), (0, x1), (0, (Int.tmod ((3 * x2) + (α x0 x3)) 251)), (0, (x3 + 1))]) (pc' := 26) (kX11_checked_0 17 rfl) rfl (Nat.le_of_ble_eq_true rfl) rfl g6 rfl ?_
    refine r_goto (pc' := 6) (kX11_checked_0 18 rfl) rfl ?_
    exact r_weak (L' := [(2, x0), (0, x1), (0, (Int.tmod ((3 * x2) + (α x0 x3)) 251)), (0, (x3 + 1))]) ⟨Or.inl rfl, Or.inl rfl, Or.inl rfl, Or.inl rfl, trivial⟩ (h Ln)
theorem vX11_writes_0 {d : Nat} {φ : aF} {α : aA} {Q : Int → aF → aA → Prop} {x1 : Int} (h : (0 ≤ (φ 11 98 198) ∧ (φ 11 98 198) < (62 : Nat)) ∧ inR ((φ 11 98 198) + 1) ∧ (Q 0 (upf φ 11 98 198 ((φ 11 98 198) + 1)) (upa α 266 (φ 11 98 198) x1))) : eX11_writes d x1 φ α Q := by
  intro Ln
  refine r_aload_n (pc' := 1) (kX11_writes_0 0 rfl) rfl rfl ?_
  refine s_getr (v := 266) (pc' := 4) (kX11_writes_0 1 rfl) rfl fkX11_221 rfl rfl (kz198 Ln) rfl (by decide) ?_
  refine r_aload_n (pc' := 5) (kX11_writes_0 2 rfl) rfl rfl ?_
  refine s_get (x := (φ 11 98 198)) (pc' := 8) (kX11_writes_0 3 rfl) rfl fkX11_658 rfl rfl rfl (kz198 Ln) rfl ?_
  refine r_iload_n (pc' := 9) (kX11_writes_0 4 rfl) rfl rfl ?_
  have g1 := h.1
  have h := h.2
  refine s_iast (pc' := 10) (kX11_writes_0 5 rfl) rfl (kz266 Ln) g1 ?_
  refine r_aload_n (pc' := 11) (kX11_writes_0 6 rfl) rfl rfl ?_
  refine r_dup (pc' := 12) (kX11_writes_0 7 rfl) rfl rfl ?_
  refine s_get (x := (φ 11 98 198)) (pc' := 15) (kX11_writes_0 8 rfl) rfl fkX11_658 rfl rfl rfl (kz198 Ln) rfl ?_
  refine r_iconst 1 (pc' := 16) (kX11_writes_0 9 rfl) rfl (by unfold inR; omega) ?_
  have g2 := h.1
  have h := h.2
  refine r_iadd (pc' := 17) (kX11_writes_0 10 rfl) rfl g2 ?_
  refine s_put (pc' := 20) (kX11_writes_0 11 rfl) rfl fkX11_658 fnX11_98 rfl pk_int (kz198 Ln) ?_
  exact s_vret (kX11_writes_0 12 rfl) rfl h
theorem vX11_writesTwo_0 {d : Nat} {φ : aF} {α : aA} {Q : Int → aF → aA → Prop} {x1 : Int} (h : inR (Int.tdiv x1 256) ∧ (eX11_writes d (Int.tdiv x1 256) φ α (fun r2 φ2 α2 =>
   inR (Int.tmod x1 256) ∧ (eX11_writes d (Int.tmod x1 256) φ2 α2 (fun r4 φ4 α4 =>
   (Q 0 φ4 α4)))))) : eX11_writesTwo (d + 1) x1 φ α Q := by
  intro Ln
  refine r_aload_n (pc' := 1) (kX11_writesTwo_0 0 rfl) rfl rfl ?_
  refine r_iload_n (pc' := 2) (kX11_writesTwo_0 1 rfl) rfl rfl ?_
  refine r_sipush 256 (pc' := 5) (kX11_writesTwo_0 2 rfl) rfl ⟨by unfold inR; omega, rfl⟩ ?_
  have g1 := h.1
  have h := h.2
  refine r_idiv (pc' := 6) (kX11_writesTwo_0 3 rfl) rfl ⟨by decide, g1⟩ ?_
  refine s_callV (As := [(0, (Int.tdiv x1 256))]) (o := 198) (S := []) (S2 := fun z => []) (pc' := 9) (kX11_writesTwo_0 4 rfl) rfl rfl nkX11_writes mlX11_661 imX11_writes rfl slX11_writes rfl (Nat.le_of_ble_eq_true rfl) (Nat.le_of_ble_eq_true rfl) (kz198 Ln) h (fun z => rfl) (fun r2 φ2 α2 h => ?_)
  refine r_aload_n (pc' := 10) (kX11_writesTwo_0 5 rfl) rfl rfl ?_
  refine r_iload_n (pc' := 11) (kX11_writesTwo_0 6 rfl) rfl rfl ?_
  refine r_sipush 256 (pc' := 14) (kX11_writesTwo_0 7 rfl) rfl ⟨by unfold inR; omega, rfl⟩ ?_
  have g3 := h.1
  have h := h.2
  refine r_irem (pc' := 15) (kX11_writesTwo_0 8 rfl) rfl ⟨by decide, g3⟩ ?_
  refine s_callV (As := [(0, (Int.tmod x1 256))]) (o := 198) (S := []) (S2 := fun z => []) (pc' := 18) (kX11_writesTwo_0 9 rfl) rfl rfl nkX11_writes mlX11_661 imX11_writes rfl slX11_writes rfl (Nat.le_of_ble_eq_true rfl) (Nat.le_of_ble_eq_true rfl) (kz198 Ln) h (fun z => rfl) (fun r4 φ4 α4 h => ?_)
  exact s_vret (kX11_writesTwo_0 10 rfl) rfl h
abbrev jX11_image_17 (d : Nat) (x1 : Int) (φ : aF) (α : aA) (Q : Int → aF → aA → Prop) : Prop := R0 d mX11_image 17 [(2, 198), (0, x1), (9, 0)] [] φ α Q
theorem vX11_image_0 {d : Nat} {φ : aF} {α : aA} {Q : Int → aF → aA → Prop} (h : (eX11_writesTwo d (α 233 0) (upf φ 11 98 198 0) α (fun r1 φ1 α1 =>
   (jX11_image_17 (d + 1) 0 φ1 α1 Q)))) : eX11_image (d + 1)  φ α Q := by
  intro Ln
  refine r_aload_n (pc' := 1) (kX11_image_0 0 rfl) rfl rfl ?_
  refine r_iconst 0 (pc' := 2) (kX11_image_0 1 rfl) rfl (by unfold inR; omega) ?_
  refine s_put (pc' := 5) (kX11_image_0 2 rfl) rfl fkX11_658 fnX11_98 rfl pk_int (kz198 Ln) ?_
  refine r_aload_n (pc' := 6) (kX11_image_0 3 rfl) rfl rfl ?_
  refine r_aload_n (pc' := 7) (kX11_image_0 4 rfl) rfl rfl ?_
  refine s_getr (v := 233) (pc' := 10) (kX11_image_0 5 rfl) rfl fkX11_118 rfl rfl (kz198 Ln) rfl (by decide) ?_
  refine r_iconst 0 (pc' := 11) (kX11_image_0 6 rfl) rfl (by unfold inR; omega) ?_
  refine s_iald (x := (α 233 0)) (pc' := 12) (kX11_image_0 7 rfl) rfl (kz233 Ln) ⟨by decide, by decide⟩ rfl ?_
  refine s_callV (As := [(0, (α 233 0))]) (o := 198) (S := []) (S2 := fun z => []) (pc' := 15) (kX11_image_0 8 rfl) rfl rfl nkX11_writesTwo mlX11_664 imX11_writesTwo rfl slX11_writesTwo rfl (Nat.le_of_ble_eq_true rfl) (Nat.le_of_ble_eq_true rfl) (kz198 Ln) h (fun z => rfl) (fun r1 φ1 α1 h => ?_)
  refine r_iconst 0 (pc' := 16) (kX11_image_0 9 rfl) rfl (by unfold inR; omega) ?_
  refine r_istore_n (L' := [(2, 198), (0, 0), (9, 0)]) (pc' := 17) (kX11_image_0 10 rfl) rfl (Nat.le_of_ble_eq_true rfl) rfl ?_
  exact r_weak (L' := [(2, 198), (0, 0), (9, 0)]) ⟨Or.inl rfl, Or.inl rfl, Or.inr (by decide), trivial⟩ (h Ln)
abbrev jX11_image_65 (d : Nat) (x1 : Int) (φ : aF) (α : aA) (Q : Int → aF → aA → Prop) : Prop := R0 d mX11_image 65 [(2, 198), (0, x1), (9, 0)] [] φ α Q
abbrev jX11_image_27 (d : Nat) (x1 x2 : Int) (φ : aF) (α : aA) (Q : Int → aF → aA → Prop) : Prop := R0 d mX11_image 27 [(2, 198), (0, x1), (0, x2)] [] φ α Q
theorem vX11_image_17 {d : Nat} {φ : aF} {α : aA} {Q : Int → aF → aA → Prop} {x1 : Int} (h : (eX11_clerkMany d  φ α (fun r1 φ1 α1 =>
   ((r1 ≤ x1 →
   (jX11_image_65 (d + 1) 0 φ1 α1 Q)) ∧
   (¬ (r1 ≤ x1) →
   (jX11_image_27 (d + 1) x1 0 φ1 α1 Q)))))) : jX11_image_17 (d + 1) x1 φ α Q := by
  intro Ln
  refine r_iload_n (pc' := 18) (kX11_image_0 11 rfl) rfl rfl ?_
  refine r_aload_n (pc' := 19) (kX11_image_0 12 rfl) rfl rfl ?_
  refine s_callV (As := []) (o := 198) (S := [(0, x1)]) (S2 := fun z => [(0, z), (0, x1)]) (pc' := 22) (kX11_image_0 13 rfl) rfl rfl nkX11_clerkMany mlX11_376 imX11_clerkMany rfl slX11_clerkMany rfl (Nat.le_of_ble_eq_true rfl) (Nat.le_of_ble_eq_true rfl) (kz198 Ln) h (fun z => rfl) (fun r1 φ1 α1 h => ?_)
  refine r_icmp_ge (t := 63) (pc' := 25) (kX11_image_0 14 rfl) rfl rfl (fun c2 => ?_) (fun c2 => ?_)
  · have h := h.1 c2
    refine r_iconst 0 (pc' := 64) (kX11_image_0 37 rfl) rfl (by unfold inR; omega) ?_
    refine r_istore_n (L' := [(2, 198), (0, 0), (9, 0)]) (pc' := 65) (kX11_image_0 38 rfl) rfl (Nat.le_of_ble_eq_true rfl) rfl ?_
    exact r_weak (L' := [(2, 198), (0, 0), (9, 0)]) ⟨Or.inl rfl, Or.inl rfl, Or.inr (by decide), trivial⟩ (h Ln)
  · have h := h.2 c2
    refine r_iconst 0 (pc' := 26) (kX11_image_0 15 rfl) rfl (by unfold inR; omega) ?_
    refine r_istore_n (L' := [(2, 198), (0, x1), (0, 0)]) (pc' := 27) (kX11_image_0 16 rfl) rfl (Nat.le_of_ble_eq_true rfl) rfl ?_
    exact r_weak (L' := [(2, 198), (0, x1), (0, 0)]) ⟨Or.inl rfl, Or.inl rfl, Or.inl rfl, trivial⟩ (h Ln)
theorem vX11_image_65 {d : Nat} {φ : aF} {α : aA} {Q : Int → aF → aA → Prop} {x1 : Int} (h : (eX11_matterMany d  φ α (fun r1 φ1 α1 =>
   inR (3 * r1) ∧ (((3 * r1) ≤ x1 →
   (eX11_checked d 266 (φ1 11 98 198) φ1 α1 (fun r4 φ4 α4 =>
     (eX11_writes d r4 φ4 α4 (fun r5 φ5 α5 =>
     (Q (φ5 11 98 198) φ5 α5)))))) ∧
   (¬ ((3 * r1) ≤ x1) →
   inR (36 + x1) ∧ (0 ≤ (36 + x1) ∧ (36 + x1) < (169 : Nat)) ∧ (eX11_writesTwo d (α1 233 (36 + x1)) φ1 α1 (fun r8 φ8 α8 =>
     inR (x1 + 1) ∧ (jX11_image_65 (d + 1) (x1 + 1) φ8 α8 Q)))))))) : jX11_image_65 (d + 1) x1 φ α Q := by
  intro Ln
  refine r_iload_n (pc' := 66) (kX11_image_0 39 rfl) rfl rfl ?_
  refine r_iconst 3 (pc' := 67) (kX11_image_0 40 rfl) rfl (by unfold inR; omega) ?_
  refine r_aload_n (pc' := 68) (kX11_image_0 41 rfl) rfl rfl ?_
  refine s_callV (As := []) (o := 198) (S := [(0, 3), (0, x1)]) (S2 := fun z => [(0, z), (0, 3), (0, x1)]) (pc' := 71) (kX11_image_0 42 rfl) rfl rfl nkX11_matterMany mlX11_373 imX11_matterMany rfl slX11_matterMany rfl (Nat.le_of_ble_eq_true rfl) (Nat.le_of_ble_eq_true rfl) (kz198 Ln) h (fun z => rfl) (fun r1 φ1 α1 h => ?_)
  have g2 := h.1
  have h := h.2
  refine r_imul (pc' := 72) (kX11_image_0 43 rfl) rfl g2 ?_
  refine r_icmp_ge (t := 94) (pc' := 75) (kX11_image_0 44 rfl) rfl rfl (fun c3 => ?_) (fun c3 => ?_)
  · have h := h.1 c3
    refine r_aload_n (pc' := 95) (kX11_image_0 55 rfl) rfl rfl ?_
    refine r_aload_n (pc' := 96) (kX11_image_0 56 rfl) rfl rfl ?_
    refine s_getr (v := 266) (pc' := 99) (kX11_image_0 57 rfl) rfl fkX11_221 rfl rfl (kz198 Ln) rfl (by decide) ?_
    refine r_aload_n (pc' := 100) (kX11_image_0 58 rfl) rfl rfl ?_
    refine s_get (x := (φ1 11 98 198)) (pc' := 103) (kX11_image_0 59 rfl) rfl fkX11_658 rfl rfl rfl (kz198 Ln) rfl ?_
    refine s_callS (As := [(2, 266), (0, (φ1 11 98 198))]) (S := [(2, 198)]) (S2 := fun z => [(0, z), (2, 198)]) (pc' := 106) (kX11_image_1 0 rfl) rfl rfl nkX11_checked mlX11_667 scX11_checked rfl (Nat.le_of_ble_eq_true rfl) (Nat.le_of_ble_eq_true rfl) h (fun z => rfl) (fun r4 φ4 α4 h => ?_)
    refine s_callV (As := [(0, r4)]) (o := 198) (S := []) (S2 := fun z => []) (pc' := 109) (kX11_image_1 1 rfl) rfl rfl nkX11_writes mlX11_661 imX11_writes rfl slX11_writes rfl (Nat.le_of_ble_eq_true rfl) (Nat.le_of_ble_eq_true rfl) (kz198 Ln) h (fun z => rfl) (fun r5 φ5 α5 h => ?_)
    refine r_aload_n (pc' := 110) (kX11_image_1 2 rfl) rfl rfl ?_
    refine s_get (x := (φ5 11 98 198)) (pc' := 113) (kX11_image_1 3 rfl) rfl fkX11_658 rfl rfl rfl (kz198 Ln) rfl ?_
    exact s_iret (kX11_image_1 4 rfl) rfl h
  · have h := h.2 c3
    refine r_aload_n (pc' := 76) (kX11_image_0 45 rfl) rfl rfl ?_
    refine r_aload_n (pc' := 77) (kX11_image_0 46 rfl) rfl rfl ?_
    refine s_getr (v := 233) (pc' := 80) (kX11_image_0 47 rfl) rfl fkX11_118 rfl rfl (kz198 Ln) rfl (by decide) ?_
    refine r_bipush 36 (pc' := 82) (kX11_image_0 48 rfl) rfl ⟨by unfold inR; omega, rfl⟩ ?_
    refine r_iload_n (pc' := 83) (kX11_image_0 49 rfl) rfl rfl ?_
    have g6 := h.1
    have h := h.2
    refine r_iadd (pc' := 84) (kX11_image_0 50 rfl) rfl g6 ?_
    have g7 := h.1
    have h := h.2
    refine s_iald (x := (α1 233 (36 + x1))) (pc' := 85) (kX11_image_0 51 rfl) rfl (kz233 Ln) g7 rfl ?_
    refine s_callV (As := [(0, (α1 233 (36 + x1)))]) (o := 198) (S := []) (S2 := fun z => []) (pc' := 88) (kX11_image_0 52 rfl) rfl rfl nkX11_writesTwo mlX11_664 imX11_writesTwo rfl slX11_writesTwo rfl (Nat.le_of_ble_eq_true rfl) (Nat.le_of_ble_eq_true rfl) (kz198 Ln) h (fun z => rfl) (fun r8 φ8 α8 h => ?_)
    have g9 := h.1
    have h := h.2
    refine r_iinc (L' := [(2, 198), (0, (x1 + 1)), (9, 0)]) (pc' := 91) (kX11_image_0 53 rfl) rfl (Nat.le_of_ble_eq_true rfl) rfl g9 rfl ?_
    refine r_goto (pc' := 65) (kX11_image_0 54 rfl) rfl ?_
    exact r_weak (L' := [(2, 198), (0, (x1 + 1)), (9, 0)]) ⟨Or.inl rfl, Or.inl rfl, Or.inr (by decide), trivial⟩ (h Ln)
theorem vX11_image_27 {d : Nat} {φ : aF} {α : aA} {Q : Int → aF → aA → Prop} {x1 : Int} {x2 : Int} (h : (eX11_matterMany d  φ α (fun r1 φ1 α1 =>
   ((r1 < x2 →
   inR (x1 + 1) ∧ (jX11_image_17 (d + 1) (x1 + 1) φ1 α1 Q)) ∧
   (¬ (r1 < x2) →
   inR (5 * x1) ∧ inR (1 + (5 * x1)) ∧ inR ((1 + (5 * x1)) + x2) ∧ (0 ≤ ((1 + (5 * x1)) + x2) ∧ ((1 + (5 * x1)) + x2) < (169 : Nat)) ∧ (eX11_writes d (α1 233 ((1 + (5 * x1)) + x2)) φ1 α1 (fun r8 φ8 α8 =>
     inR (x2 + 1) ∧ (jX11_image_27 (d + 1) x1 (x2 + 1) φ8 α8 Q)))))))) : jX11_image_27 (d + 1) x1 x2 φ α Q := by
  intro Ln
  refine r_iload_n (pc' := 28) (kX11_image_0 17 rfl) rfl rfl ?_
  refine r_aload_n (pc' := 29) (kX11_image_0 18 rfl) rfl rfl ?_
  refine s_callV (As := []) (o := 198) (S := [(0, x2)]) (S2 := fun z => [(0, z), (0, x2)]) (pc' := 32) (kX11_image_0 19 rfl) rfl rfl nkX11_matterMany mlX11_373 imX11_matterMany rfl slX11_matterMany rfl (Nat.le_of_ble_eq_true rfl) (Nat.le_of_ble_eq_true rfl) (kz198 Ln) h (fun z => rfl) (fun r1 φ1 α1 h => ?_)
  refine r_icmp_gt (t := 57) (pc' := 35) (kX11_image_0 20 rfl) rfl rfl (fun c2 => ?_) (fun c2 => ?_)
  · have h := h.1 c2
    have g3 := h.1
    have h := h.2
    refine r_iinc (L' := [(2, 198), (0, (x1 + 1)), (0, x2)]) (pc' := 60) (kX11_image_0 35 rfl) rfl (Nat.le_of_ble_eq_true rfl) rfl g3 rfl ?_
    refine r_goto (pc' := 17) (kX11_image_0 36 rfl) rfl ?_
    exact r_weak (L' := [(2, 198), (0, (x1 + 1)), (9, 0)]) ⟨Or.inl rfl, Or.inl rfl, Or.inr (by decide), trivial⟩ (h Ln)
  · have h := h.2 c2
    refine r_aload_n (pc' := 36) (kX11_image_0 21 rfl) rfl rfl ?_
    refine r_aload_n (pc' := 37) (kX11_image_0 22 rfl) rfl rfl ?_
    refine s_getr (v := 233) (pc' := 40) (kX11_image_0 23 rfl) rfl fkX11_118 rfl rfl (kz198 Ln) rfl (by decide) ?_
    refine r_iconst 1 (pc' := 41) (kX11_image_0 24 rfl) rfl (by unfold inR; omega) ?_
    refine r_iconst 5 (pc' := 42) (kX11_image_0 25 rfl) rfl (by unfold inR; omega) ?_
    refine r_iload_n (pc' := 43) (kX11_image_0 26 rfl) rfl rfl ?_
    have g4 := h.1
    have h := h.2
    refine r_imul (pc' := 44) (kX11_image_0 27 rfl) rfl g4 ?_
    have g5 := h.1
    have h := h.2
    refine r_iadd (pc' := 45) (kX11_image_0 28 rfl) rfl g5 ?_
    refine r_iload_n (pc' := 46) (kX11_image_0 29 rfl) rfl rfl ?_
    have g6 := h.1
    have h := h.2
    refine r_iadd (pc' := 47) (kX11_image_0 30 rfl) rfl g6 ?_
    have g7 := h.1
    have h := h.2
    refine s_iald (x := (α1 233 ((1 + (5 * x1)) + x2))) (pc' := 48) (kX11_image_0 31 rfl) rfl (kz233 Ln) g7 rfl ?_
    refine s_callV (As := [(0, (α1 233 ((1 + (5 * x1)) + x2)))]) (o := 198) (S := []) (S2 := fun z => []) (pc' := 51) (kX11_image_0 32 rfl) rfl rfl nkX11_writes mlX11_661 imX11_writes rfl slX11_writes rfl (Nat.le_of_ble_eq_true rfl) (Nat.le_of_ble_eq_true rfl) (kz198 Ln) h (fun z => rfl) (fun r8 φ8 α8 h => ?_)
    have g9 := h.1
    have h := h.2
    refine r_iinc (L' := [(2, 198), (0, x1), (0, (x2 + 1))]) (pc' := 54) (kX11_image_0 33 rfl) rfl (Nat.le_of_ble_eq_true rfl) rfl g9 rfl ?_
    refine r_goto (pc' := 27) (kX11_image_0 34 rfl) rfl ?_
    exact r_weak (L' := [(2, 198), (0, x1), (0, (x2 + 1))]) ⟨Or.inl rfl, Or.inl rfl, Or.inl rfl, trivial⟩ (h Ln)
theorem vX11_octet_0 {d : Nat} {φ : aF} {α : aA} {Q : Int → aF → aA → Prop} {x1 : Int} (h : ((x1 < 0 →
   (Q (-1) φ α)) ∧
   (¬ (x1 < 0) →
   (((φ 11 98 198) ≤ x1 →
     (Q (-1) φ α)) ∧
     (¬ ((φ 11 98 198) ≤ x1) →
     (0 ≤ x1 ∧ x1 < (62 : Nat)) ∧ (Q (α 266 x1) φ α)))))) : eX11_octet d x1 φ α Q := by
  intro Ln
  refine r_iload_n (pc' := 1) (kX11_octet_0 0 rfl) rfl rfl ?_
  refine r_if_lt (t := 21) (pc' := 4) (kX11_octet_0 1 rfl) rfl rfl (fun c1 => ?_) (fun c1 => ?_)
  · have h := h.1 c1
    refine r_iconst (-1) (pc' := 22) (kX11_octet_0 11 rfl) rfl (by unfold inR; omega) ?_
    exact s_iret (kX11_octet_0 12 rfl) rfl h
  · have h := h.2 c1
    refine r_iload_n (pc' := 5) (kX11_octet_0 2 rfl) rfl rfl ?_
    refine r_aload_n (pc' := 6) (kX11_octet_0 3 rfl) rfl rfl ?_
    refine s_get (x := (φ 11 98 198)) (pc' := 9) (kX11_octet_0 4 rfl) rfl fkX11_658 rfl rfl rfl (kz198 Ln) rfl ?_
    refine r_icmp_ge (t := 21) (pc' := 12) (kX11_octet_0 5 rfl) rfl rfl (fun c2 => ?_) (fun c2 => ?_)
    · have h := h.1 c2
      refine r_iconst (-1) (pc' := 22) (kX11_octet_0 11 rfl) rfl (by unfold inR; omega) ?_
      exact s_iret (kX11_octet_0 12 rfl) rfl h
    · have h := h.2 c2
      refine r_aload_n (pc' := 13) (kX11_octet_0 6 rfl) rfl rfl ?_
      refine s_getr (v := 266) (pc' := 16) (kX11_octet_0 7 rfl) rfl fkX11_221 rfl rfl (kz198 Ln) rfl (by decide) ?_
      refine r_iload_n (pc' := 17) (kX11_octet_0 8 rfl) rfl rfl ?_
      have g3 := h.1
      have h := h.2
      refine s_iald (x := (α 266 x1)) (pc' := 18) (kX11_octet_0 9 rfl) rfl (kz266 Ln) g3 rfl ?_
      refine r_goto (pc' := 22) (kX11_octet_0 10 rfl) rfl ?_
      exact s_iret (kX11_octet_0 12 rfl) rfl h
theorem vX11_twoAt_0 {d : Nat} {φ : aF} {α : aA} {Q : Int → aF → aA → Prop} {x1 : Int} (h : (0 ≤ x1 ∧ x1 < (1600 : Nat)) ∧ inR (256 * (α 199 x1)) ∧ inR (x1 + 1) ∧ (0 ≤ (x1 + 1) ∧ (x1 + 1) < (1600 : Nat)) ∧ inR ((256 * (α 199 x1)) + (α 199 (x1 + 1))) ∧ (Q ((256 * (α 199 x1)) + (α 199 (x1 + 1))) φ α)) : eX11_twoAt d x1 φ α Q := by
  intro Ln
  refine r_sipush 256 (pc' := 3) (kX11_twoAt_0 0 rfl) rfl ⟨by unfold inR; omega, rfl⟩ ?_
  refine r_aload_n (pc' := 4) (kX11_twoAt_0 1 rfl) rfl rfl ?_
  refine s_getr (v := 199) (pc' := 7) (kX11_twoAt_0 2 rfl) rfl fkX11_7 rfl rfl (kz198 Ln) rfl (by decide) ?_
  refine r_iload_n (pc' := 8) (kX11_twoAt_0 3 rfl) rfl rfl ?_
  have g1 := h.1
  have h := h.2
  refine s_iald (x := (α 199 x1)) (pc' := 9) (kX11_twoAt_0 4 rfl) rfl (kz199 Ln) g1 rfl ?_
  have g2 := h.1
  have h := h.2
  refine r_imul (pc' := 10) (kX11_twoAt_0 5 rfl) rfl g2 ?_
  refine r_aload_n (pc' := 11) (kX11_twoAt_0 6 rfl) rfl rfl ?_
  refine s_getr (v := 199) (pc' := 14) (kX11_twoAt_0 7 rfl) rfl fkX11_7 rfl rfl (kz198 Ln) rfl (by decide) ?_
  refine r_iload_n (pc' := 15) (kX11_twoAt_0 8 rfl) rfl rfl ?_
  refine r_iconst 1 (pc' := 16) (kX11_twoAt_0 9 rfl) rfl (by unfold inR; omega) ?_
  have g3 := h.1
  have h := h.2
  refine r_iadd (pc' := 17) (kX11_twoAt_0 10 rfl) rfl g3 ?_
  have g4 := h.1
  have h := h.2
  refine s_iald (x := (α 199 (x1 + 1))) (pc' := 18) (kX11_twoAt_0 11 rfl) rfl (kz199 Ln) g4 rfl ?_
  have g5 := h.1
  have h := h.2
  refine r_iadd (pc' := 19) (kX11_twoAt_0 12 rfl) rfl g5 ?_
  exact s_iret (kX11_twoAt_0 13 rfl) rfl h
abbrev jX11_isClerkTold_19 (d : Nat) (x1 x2 x3 x4 x5 : Int) (φ : aF) (α : aA) (Q : Int → aF → aA → Prop) : Prop := R0 d mX11_isClerkTold 19 [(2, 198), (0, x1), (0, x2), (0, x3), (0, x4), (0, x5)] [] φ α Q
theorem vX11_isClerkTold_0 {d : Nat} {φ : aF} {α : aA} {Q : Int → aF → aA → Prop} {x1 : Int} (h : (eX11_matterMany d  φ α (fun r1 φ1 α1 =>
   inR (1 + r1) ∧ inR ((1 + r1) * x1) ∧ inR (2 + ((1 + r1) * x1)) ∧ (jX11_isClerkTold_19 (d + 1) x1 (1 + r1) (2 + ((1 + r1) * x1)) 0 1 φ1 α1 Q)))) : eX11_isClerkTold (d + 1) x1 φ α Q := by
  intro Ln
  refine r_iconst 1 (pc' := 1) (kX11_isClerkTold_0 0 rfl) rfl (by unfold inR; omega) ?_
  refine r_aload_n (pc' := 2) (kX11_isClerkTold_0 1 rfl) rfl rfl ?_
  refine s_callV (As := []) (o := 198) (S := [(0, 1)]) (S2 := fun z => [(0, z), (0, 1)]) (pc' := 5) (kX11_isClerkTold_0 2 rfl) rfl rfl nkX11_matterMany mlX11_373 imX11_matterMany rfl slX11_matterMany rfl (Nat.le_of_ble_eq_true rfl) (Nat.le_of_ble_eq_true rfl) (kz198 Ln) h (fun z => rfl) (fun r1 φ1 α1 h => ?_)
  have g2 := h.1
  have h := h.2
  refine r_iadd (pc' := 6) (kX11_isClerkTold_0 3 rfl) rfl g2 ?_
  refine r_istore_n (L' := [(2, 198), (0, x1), (0, (1 + r1)), (9, 0), (9, 0), (9, 0)]) (pc' := 7) (kX11_isClerkTold_0 4 rfl) rfl (Nat.le_of_ble_eq_true rfl) rfl ?_
  refine r_iconst 2 (pc' := 8) (kX11_isClerkTold_0 5 rfl) rfl (by unfold inR; omega) ?_
  refine r_iload_n (pc' := 9) (kX11_isClerkTold_0 6 rfl) rfl rfl ?_
  refine r_iload_n (pc' := 10) (kX11_isClerkTold_0 7 rfl) rfl rfl ?_
  have g3 := h.1
  have h := h.2
  refine r_imul (pc' := 11) (kX11_isClerkTold_0 8 rfl) rfl g3 ?_
  have g4 := h.1
  have h := h.2
  refine r_iadd (pc' := 12) (kX11_isClerkTold_0 9 rfl) rfl g4 ?_
  refine r_istore_n (L' := [(2, 198), (0, x1), (0, (1 + r1)), (0, (2 + ((1 + r1) * x1))), (9, 0), (9, 0)]) (pc' := 13) (kX11_isClerkTold_0 10 rfl) rfl (Nat.le_of_ble_eq_true rfl) rfl ?_
  refine r_iconst 0 (pc' := 14) (kX11_isClerkTold_0 11 rfl) rfl (by unfold inR; omega) ?_
  refine r_istore (L' := [(2, 198), (0, x1), (0, (1 + r1)), (0, (2 + ((1 + r1) * x1))), (0, 0), (9, 0)]) (pc' := 16) (kX11_isClerkTold_0 12 rfl) rfl (Nat.le_of_ble_eq_true rfl) rfl ?_
  refine r_iconst 1 (pc' := 17) (kX11_isClerkTold_0 13 rfl) rfl (by unfold inR; omega) ?_
  refine r_istore (L' := [(2, 198), (0, x1), (0, (1 + r1)), (0, (2 + ((1 + r1) * x1))), (0, 0), (0, 1)]) (pc' := 19) (kX11_isClerkTold_0 14 rfl) rfl (Nat.le_of_ble_eq_true rfl) rfl ?_
  exact r_weak (L' := [(2, 198), (0, x1), (0, (1 + r1)), (0, (2 + ((1 + r1) * x1))), (0, 0), (0, 1)]) ⟨Or.inl rfl, Or.inl rfl, Or.inl rfl, Or.inl rfl, Or.inl rfl, Or.inl rfl, trivial⟩ (h Ln)
abbrev jX11_isClerkTold_75 (d : Nat) (x2 x3 x5 : Int) (φ : aF) (α : aA) (Q : Int → aF → aA → Prop) : Prop := R0 d mX11_isClerkTold 75 [(2, 198), (9, 0), (0, x2), (0, x3), (9, 0), (0, x5)] [] φ α Q
theorem vX11_isClerkTold_19 {d : Nat} {φ : aF} {α : aA} {Q : Int → aF → aA → Prop} {x1 : Int} {x2 : Int} {x3 : Int} {x4 : Int} {x5 : Int} (h : ((x2 ≤ x5 →
   (0 ≤ x3 ∧ x3 < (1600 : Nat)) ∧ (((α 225 2) ≤ (α 199 x3) →
     (Q 0 φ α)) ∧
     (¬ ((α 225 2) ≤ (α 199 x3)) →
     (eX11_roomOf d x1 φ α (fun r4 φ4 α4 =>
       ((x4 ≤ r4 →
       (jX11_isClerkTold_75 (d + 1) x2 x3 2 φ4 α4 Q)) ∧
       (¬ (x4 ≤ r4) →
       (Q 0 φ4 α4)))))))) ∧
   (¬ (x2 ≤ x5) →
   inR (x3 + x5) ∧ (0 ≤ (x3 + x5) ∧ (x3 + x5) < (1600 : Nat)) ∧ inR (x4 + (α 199 (x3 + x5))) ∧ inR (x5 + 1) ∧ (jX11_isClerkTold_19 (d + 1) x1 x2 x3 (x4 + (α 199 (x3 + x5))) (x5 + 1) φ α Q)))) : jX11_isClerkTold_19 (d + 1) x1 x2 x3 x4 x5 φ α Q := by
  intro Ln
  refine r_iload (pc' := 21) (kX11_isClerkTold_0 15 rfl) rfl rfl ?_
  refine r_iload_n (pc' := 22) (kX11_isClerkTold_0 16 rfl) rfl rfl ?_
  refine r_icmp_ge (t := 45) (pc' := 25) (kX11_isClerkTold_0 17 rfl) rfl rfl (fun c1 => ?_) (fun c1 => ?_)
  · have h := h.1 c1
    refine r_aload_n (pc' := 46) (kX11_isClerkTold_0 29 rfl) rfl rfl ?_
    refine s_getr (v := 199) (pc' := 49) (kX11_isClerkTold_0 30 rfl) rfl fkX11_7 rfl rfl (kz198 Ln) rfl (by decide) ?_
    refine r_iload_n (pc' := 50) (kX11_isClerkTold_0 31 rfl) rfl rfl ?_
    have g2 := h.1
    have h := h.2
    refine s_iald (x := (α 199 x3)) (pc' := 51) (kX11_isClerkTold_0 32 rfl) rfl (kz199 Ln) g2 rfl ?_
    refine r_aload_n (pc' := 52) (kX11_isClerkTold_0 33 rfl) rfl rfl ?_
    refine s_getr (v := 225) (pc' := 55) (kX11_isClerkTold_0 34 rfl) rfl fkX11_93 rfl rfl (kz198 Ln) rfl (by decide) ?_
    refine r_iconst 2 (pc' := 56) (kX11_isClerkTold_0 35 rfl) rfl (by unfold inR; omega) ?_
    refine s_iald (x := (α 225 2)) (pc' := 57) (kX11_isClerkTold_0 36 rfl) rfl (kz225 Ln) ⟨by decide, by decide⟩ rfl ?_
    refine r_icmp_ge (t := 70) (pc' := 60) (kX11_isClerkTold_0 37 rfl) rfl rfl (fun c3 => ?_) (fun c3 => ?_)
    · have h := h.1 c3
      refine r_iconst 0 (pc' := 71) (kX11_isClerkTold_0 43 rfl) rfl (by unfold inR; omega) ?_
      exact s_zret (kX11_isClerkTold_0 44 rfl) rfl (Or.inl rfl) h
    · have h := h.2 c3
      refine r_iload (pc' := 62) (kX11_isClerkTold_0 38 rfl) rfl rfl ?_
      refine r_aload_n (pc' := 63) (kX11_isClerkTold_0 39 rfl) rfl rfl ?_
      refine r_iload_n (pc' := 64) (kX11_isClerkTold_0 40 rfl) rfl rfl ?_
      refine s_callV (As := [(0, x1)]) (o := 198) (S := [(0, x4)]) (S2 := fun z => [(0, z), (0, x4)]) (pc' := 67) (kX11_isClerkTold_0 41 rfl) rfl rfl nkX11_roomOf mlX11_389 imX11_roomOf rfl slX11_roomOf rfl (Nat.le_of_ble_eq_true rfl) (Nat.le_of_ble_eq_true rfl) (kz198 Ln) h (fun z => rfl) (fun r4 φ4 α4 h => ?_)
      refine r_icmp_le (t := 72) (pc' := 70) (kX11_isClerkTold_0 42 rfl) rfl rfl (fun c5 => ?_) (fun c5 => ?_)
      · have h := h.1 c5
        refine r_iconst 2 (pc' := 73) (kX11_isClerkTold_0 45 rfl) rfl (by unfold inR; omega) ?_
        refine r_istore (L' := [(2, 198), (0, x1), (0, x2), (0, x3), (0, x4), (0, 2)]) (pc' := 75) (kX11_isClerkTold_0 46 rfl) rfl (Nat.le_of_ble_eq_true rfl) rfl ?_
        exact r_weak (L' := [(2, 198), (9, 0), (0, x2), (0, x3), (9, 0), (0, 2)]) ⟨Or.inl rfl, Or.inr (by decide), Or.inl rfl, Or.inl rfl, Or.inr (by decide), Or.inl rfl, trivial⟩ (h Ln)
      · have h := h.2 c5
        refine r_iconst 0 (pc' := 71) (kX11_isClerkTold_0 43 rfl) rfl (by unfold inR; omega) ?_
        exact s_zret (kX11_isClerkTold_0 44 rfl) rfl (Or.inl rfl) h
  · have h := h.2 c1
    refine r_iload (pc' := 27) (kX11_isClerkTold_0 18 rfl) rfl rfl ?_
    refine r_aload_n (pc' := 28) (kX11_isClerkTold_0 19 rfl) rfl rfl ?_
    refine s_getr (v := 199) (pc' := 31) (kX11_isClerkTold_0 20 rfl) rfl fkX11_7 rfl rfl (kz198 Ln) rfl (by decide) ?_
    refine r_iload_n (pc' := 32) (kX11_isClerkTold_0 21 rfl) rfl rfl ?_
    refine r_iload (pc' := 34) (kX11_isClerkTold_0 22 rfl) rfl rfl ?_
    have g6 := h.1
    have h := h.2
    refine r_iadd (pc' := 35) (kX11_isClerkTold_0 23 rfl) rfl g6 ?_
    have g7 := h.1
    have h := h.2
    refine s_iald (x := (α 199 (x3 + x5))) (pc' := 36) (kX11_isClerkTold_0 24 rfl) rfl (kz199 Ln) g7 rfl ?_
    have g8 := h.1
    have h := h.2
    refine r_iadd (pc' := 37) (kX11_isClerkTold_0 25 rfl) rfl g8 ?_
    refine r_istore (L' := [(2, 198), (0, x1), (0, x2), (0, x3), (0, (x4 + (α 199 (x3 + x5)))), (0, x5)]) (pc' := 39) (kX11_isClerkTold_0 26 rfl) rfl (Nat.le_of_ble_eq_true rfl) rfl ?_
    have g9 := h.1
    have h := h.2
    refine r_iinc (L' := [(2, 198), (0, x1), (0, x2), (0, x3), (0, (x4 + (α 199 (x3 + x5)))), (0, (x5 + 1))]) (pc' := 42) (kX11_isClerkTold_0 27 rfl) rfl (Nat.le_of_ble_eq_true rfl) rfl g9 rfl ?_
    refine r_goto (pc' := 19) (kX11_isClerkTold_0 28 rfl) rfl ?_
    exact r_weak (L' := [(2, 198), (0, x1), (0, x2), (0, x3), (0, (x4 + (α 199 (x3 + x5)))), (0, (x5 + 1))]) ⟨Or.inl rfl, Or.inl rfl, Or.inl rfl, Or.inl rfl, Or.inl rfl, Or.inl rfl, trivial⟩ (h Ln)
theorem vX11_isClerkTold_75 {d : Nat} {φ : aF} {α : aA} {Q : Int → aF → aA → Prop} {x2 : Int} {x3 : Int} {x5 : Int} (h : ((x3 ≤ x5 →
   (Q 1 φ α)) ∧
   (¬ (x3 ≤ x5) →
   (0 ≤ x5 ∧ x5 < (1600 : Nat)) ∧ (0 ≤ x3 ∧ x3 < (1600 : Nat)) ∧ ((¬ (α 199 x5) = (α 199 x3) →
     inR (x5 + x2) ∧ (jX11_isClerkTold_75 (d + 1) x2 x3 (x5 + x2) φ α Q)) ∧
     ((α 199 x5) = (α 199 x3) →
     (Q 0 φ α)))))) : jX11_isClerkTold_75 (d + 1) x2 x3 x5 φ α Q := by
  intro Ln
  refine r_iload (pc' := 77) (kX11_isClerkTold_0 47 rfl) rfl rfl ?_
  refine r_iload_n (pc' := 78) (kX11_isClerkTold_0 48 rfl) rfl rfl ?_
  refine r_icmp_ge (t := 108) (pc' := 81) (kX11_isClerkTold_0 49 rfl) rfl rfl (fun c1 => ?_) (fun c1 => ?_)
  · have h := h.1 c1
    refine r_iconst 1 (pc' := 109) (kX11_isClerkTold_1 6 rfl) rfl (by unfold inR; omega) ?_
    exact s_zret (kX11_isClerkTold_1 7 rfl) rfl (Or.inr rfl) h
  · have h := h.2 c1
    refine r_aload_n (pc' := 82) (kX11_isClerkTold_0 50 rfl) rfl rfl ?_
    refine s_getr (v := 199) (pc' := 85) (kX11_isClerkTold_0 51 rfl) rfl fkX11_7 rfl rfl (kz198 Ln) rfl (by decide) ?_
    refine r_iload (pc' := 87) (kX11_isClerkTold_0 52 rfl) rfl rfl ?_
    have g2 := h.1
    have h := h.2
    refine s_iald (x := (α 199 x5)) (pc' := 88) (kX11_isClerkTold_0 53 rfl) rfl (kz199 Ln) g2 rfl ?_
    refine r_aload_n (pc' := 89) (kX11_isClerkTold_0 54 rfl) rfl rfl ?_
    refine s_getr (v := 199) (pc' := 92) (kX11_isClerkTold_0 55 rfl) rfl fkX11_7 rfl rfl (kz198 Ln) rfl (by decide) ?_
    refine r_iload_n (pc' := 93) (kX11_isClerkTold_0 56 rfl) rfl rfl ?_
    have g3 := h.1
    have h := h.2
    refine s_iald (x := (α 199 x3)) (pc' := 94) (kX11_isClerkTold_0 57 rfl) rfl (kz199 Ln) g3 rfl ?_
    refine r_icmp_ne (t := 99) (pc' := 97) (kX11_isClerkTold_0 58 rfl) rfl rfl (fun c4 => ?_) (fun c4 => ?_)
    · have h := h.1 c4
      refine r_iload (pc' := 101) (kX11_isClerkTold_1 1 rfl) rfl rfl ?_
      refine r_iload_n (pc' := 102) (kX11_isClerkTold_1 2 rfl) rfl rfl ?_
      have g5 := h.1
      have h := h.2
      refine r_iadd (pc' := 103) (kX11_isClerkTold_1 3 rfl) rfl g5 ?_
      refine r_istore (L' := [(2, 198), (9, 0), (0, x2), (0, x3), (9, 0), (0, (x5 + x2))]) (pc' := 105) (kX11_isClerkTold_1 4 rfl) rfl (Nat.le_of_ble_eq_true rfl) rfl ?_
      refine r_goto (pc' := 75) (kX11_isClerkTold_1 5 rfl) rfl ?_
      exact r_weak (L' := [(2, 198), (9, 0), (0, x2), (0, x3), (9, 0), (0, (x5 + x2))]) ⟨Or.inl rfl, Or.inr (by decide), Or.inl rfl, Or.inl rfl, Or.inr (by decide), Or.inl rfl, trivial⟩ (h Ln)
    · have h := h.2 c4
      refine r_iconst 0 (pc' := 98) (kX11_isClerkTold_0 59 rfl) rfl (by unfold inR; omega) ?_
      exact s_zret (kX11_isClerkTold_1 0 rfl) rfl (Or.inl rfl) h
abbrev jX11_isImage_72 (d : Nat) (x1 x2 x3 : Int) (φ : aF) (α : aA) (Q : Int → aF → aA → Prop) : Prop := R0 d mX11_isImage 72 [(2, 198), (0, x1), (0, x2), (0, x3)] [] φ α Q
theorem vX11_isImage_0 {d : Nat} {φ : aF} {α : aA} {Q : Int → aF → aA → Prop} {x1 : Int} (h : (eX11_matterMany d  φ α (fun r1 φ1 α1 =>
   inR (1 + r1) ∧ (eX11_clerkMany d  φ1 α1 (fun r3 φ3 α3 =>
   inR ((1 + r1) * r3) ∧ inR (2 + ((1 + r1) * r3)) ∧ (((φ3 11 46 198) = 0 →
   (Q 0 φ3 α3)) ∧
   (¬ ((φ3 11 46 198) = 0) →
   (eX11_matterMany d  φ3 α3 (fun r7 φ7 α7 =>
     inR (6 * r7) ∧ inR ((2 + ((1 + r1) * r3)) + (6 * r7)) ∧ inR (((2 + ((1 + r1) * r3)) + (6 * r7)) + 1) ∧ ((¬ x1 = (((2 + ((1 + r1) * r3)) + (6 * r7)) + 1) →
     (Q 0 φ7 α7)) ∧
     (x1 = (((2 + ((1 + r1) * r3)) + (6 * r7)) + 1) →
     inR (x1 - 1) ∧ (0 ≤ (x1 - 1) ∧ (x1 - 1) < (1600 : Nat)) ∧ (eX11_checked d 199 (x1 - 1) φ7 α7 (fun r14 φ14 α14 =>
       ((¬ (α7 199 (x1 - 1)) = r14 →
       (Q 0 φ14 α14)) ∧
       ((α7 199 (x1 - 1)) = r14 →
       (eX11_twoAt d 0 φ14 α14 (fun r16 φ16 α16 =>
         ((r16 ≤ 999 →
         (jX11_isImage_72 (d + 1) x1 (2 + ((1 + r1) * r3)) 0 φ16 α16 Q)) ∧
         (¬ (r16 ≤ 999) →
         (Q 0 φ16 α16)))))))))))))))))))) : eX11_isImage (d + 1) x1 φ α Q := by
  intro Ln
  refine r_iconst 2 (pc' := 1) (kX11_isImage_0 0 rfl) rfl (by unfold inR; omega) ?_
  refine r_iconst 1 (pc' := 2) (kX11_isImage_0 1 rfl) rfl (by unfold inR; omega) ?_
  refine r_aload_n (pc' := 3) (kX11_isImage_0 2 rfl) rfl rfl ?_
  refine s_callV (As := []) (o := 198) (S := [(0, 1), (0, 2)]) (S2 := fun z => [(0, z), (0, 1), (0, 2)]) (pc' := 6) (kX11_isImage_0 3 rfl) rfl rfl nkX11_matterMany mlX11_373 imX11_matterMany rfl slX11_matterMany rfl (Nat.le_of_ble_eq_true rfl) (Nat.le_of_ble_eq_true rfl) (kz198 Ln) h (fun z => rfl) (fun r1 φ1 α1 h => ?_)
  have g2 := h.1
  have h := h.2
  refine r_iadd (pc' := 7) (kX11_isImage_0 4 rfl) rfl g2 ?_
  refine r_aload_n (pc' := 8) (kX11_isImage_0 5 rfl) rfl rfl ?_
  refine s_callV (As := []) (o := 198) (S := [(0, (1 + r1)), (0, 2)]) (S2 := fun z => [(0, z), (0, (1 + r1)), (0, 2)]) (pc' := 11) (kX11_isImage_0 6 rfl) rfl rfl nkX11_clerkMany mlX11_376 imX11_clerkMany rfl slX11_clerkMany rfl (Nat.le_of_ble_eq_true rfl) (Nat.le_of_ble_eq_true rfl) (kz198 Ln) h (fun z => rfl) (fun r3 φ3 α3 h => ?_)
  have g4 := h.1
  have h := h.2
  refine r_imul (pc' := 12) (kX11_isImage_0 7 rfl) rfl g4 ?_
  have g5 := h.1
  have h := h.2
  refine r_iadd (pc' := 13) (kX11_isImage_0 8 rfl) rfl g5 ?_
  refine r_istore_n (L' := [(2, 198), (0, x1), (0, (2 + ((1 + r1) * r3))), (9, 0)]) (pc' := 14) (kX11_isImage_0 9 rfl) rfl (Nat.le_of_ble_eq_true rfl) rfl ?_
  refine r_aload_n (pc' := 15) (kX11_isImage_0 10 rfl) rfl rfl ?_
  refine s_get (x := (φ3 11 46 198)) (pc' := 18) (kX11_isImage_0 11 rfl) rfl fkX11_363 rfl rfl rfl (kz198 Ln) rfl ?_
  refine r_if_eq (t := 68) (pc' := 21) (kX11_isImage_0 12 rfl) rfl rfl (fun c6 => ?_) (fun c6 => ?_)
  · have h := h.1 c6
    refine r_iconst 0 (pc' := 69) (kX11_isImage_0 41 rfl) rfl (by unfold inR; omega) ?_
    exact s_zret (kX11_isImage_0 42 rfl) rfl (Or.inl rfl) h
  · have h := h.2 c6
    refine r_iload_n (pc' := 22) (kX11_isImage_0 13 rfl) rfl rfl ?_
    refine r_iload_n (pc' := 23) (kX11_isImage_0 14 rfl) rfl rfl ?_
    refine r_bipush 6 (pc' := 25) (kX11_isImage_0 15 rfl) rfl ⟨by unfold inR; omega, rfl⟩ ?_
    refine r_aload_n (pc' := 26) (kX11_isImage_0 16 rfl) rfl rfl ?_
    refine s_callV (As := []) (o := 198) (S := [(0, 6), (0, (2 + ((1 + r1) * r3))), (0, x1)]) (S2 := fun z => [(0, z), (0, 6), (0, (2 + ((1 + r1) * r3))), (0, x1)]) (pc' := 29) (kX11_isImage_0 17 rfl) rfl rfl nkX11_matterMany mlX11_373 imX11_matterMany rfl slX11_matterMany rfl (Nat.le_of_ble_eq_true rfl) (Nat.le_of_ble_eq_true rfl) (kz198 Ln) h (fun z => rfl) (fun r7 φ7 α7 h => ?_)
    have g8 := h.1
    have h := h.2
    refine r_imul (pc' := 30) (kX11_isImage_0 18 rfl) rfl g8 ?_
    have g9 := h.1
    have h := h.2
    refine r_iadd (pc' := 31) (kX11_isImage_0 19 rfl) rfl g9 ?_
    refine r_iconst 1 (pc' := 32) (kX11_isImage_0 20 rfl) rfl (by unfold inR; omega) ?_
    have g10 := h.1
    have h := h.2
    refine r_iadd (pc' := 33) (kX11_isImage_0 21 rfl) rfl g10 ?_
    refine r_icmp_ne (t := 68) (pc' := 36) (kX11_isImage_0 22 rfl) rfl rfl (fun c11 => ?_) (fun c11 => ?_)
    · have h := h.1 c11
      refine r_iconst 0 (pc' := 69) (kX11_isImage_0 41 rfl) rfl (by unfold inR; omega) ?_
      exact s_zret (kX11_isImage_0 42 rfl) rfl (Or.inl rfl) h
    · have h := h.2 c11
      refine r_aload_n (pc' := 37) (kX11_isImage_0 23 rfl) rfl rfl ?_
      refine s_getr (v := 199) (pc' := 40) (kX11_isImage_0 24 rfl) rfl fkX11_7 rfl rfl (kz198 Ln) rfl (by decide) ?_
      refine r_iload_n (pc' := 41) (kX11_isImage_0 25 rfl) rfl rfl ?_
      refine r_iconst 1 (pc' := 42) (kX11_isImage_0 26 rfl) rfl (by unfold inR; omega) ?_
      have g12 := h.1
      have h := h.2
      refine r_isub (pc' := 43) (kX11_isImage_0 27 rfl) rfl g12 ?_
      have g13 := h.1
      have h := h.2
      refine s_iald (x := (α7 199 (x1 - 1))) (pc' := 44) (kX11_isImage_0 28 rfl) rfl (kz199 Ln) g13 rfl ?_
      refine r_aload_n (pc' := 45) (kX11_isImage_0 29 rfl) rfl rfl ?_
      refine s_getr (v := 199) (pc' := 48) (kX11_isImage_0 30 rfl) rfl fkX11_7 rfl rfl (kz198 Ln) rfl (by decide) ?_
      refine r_iload_n (pc' := 49) (kX11_isImage_0 31 rfl) rfl rfl ?_
      refine r_iconst 1 (pc' := 50) (kX11_isImage_0 32 rfl) rfl (by unfold inR; omega) ?_
      refine r_isub (pc' := 51) (kX11_isImage_0 33 rfl) rfl g12 ?_
      refine s_callS (As := [(2, 199), (0, (x1 - 1))]) (S := [(0, (α7 199 (x1 - 1)))]) (S2 := fun z => [(0, z), (0, (α7 199 (x1 - 1)))]) (pc' := 54) (kX11_isImage_0 34 rfl) rfl rfl nkX11_checked mlX11_667 scX11_checked rfl (Nat.le_of_ble_eq_true rfl) (Nat.le_of_ble_eq_true rfl) h (fun z => rfl) (fun r14 φ14 α14 h => ?_)
      refine r_icmp_ne (t := 68) (pc' := 57) (kX11_isImage_0 35 rfl) rfl rfl (fun c15 => ?_) (fun c15 => ?_)
      · have h := h.1 c15
        refine r_iconst 0 (pc' := 69) (kX11_isImage_0 41 rfl) rfl (by unfold inR; omega) ?_
        exact s_zret (kX11_isImage_0 42 rfl) rfl (Or.inl rfl) h
      · have h := h.2 c15
        refine r_aload_n (pc' := 58) (kX11_isImage_0 36 rfl) rfl rfl ?_
        refine r_iconst 0 (pc' := 59) (kX11_isImage_0 37 rfl) rfl (by unfold inR; omega) ?_
        refine s_callV (As := [(0, 0)]) (o := 198) (S := []) (S2 := fun z => [(0, z)]) (pc' := 62) (kX11_isImage_0 38 rfl) rfl rfl nkX11_twoAt mlX11_671 imX11_twoAt rfl slX11_twoAt rfl (Nat.le_of_ble_eq_true rfl) (Nat.le_of_ble_eq_true rfl) (kz198 Ln) h (fun z => rfl) (fun r16 φ16 α16 h => ?_)
        refine r_sipush 999 (pc' := 65) (kX11_isImage_0 39 rfl) rfl ⟨by unfold inR; omega, rfl⟩ ?_
        refine r_icmp_le (t := 70) (pc' := 68) (kX11_isImage_0 40 rfl) rfl rfl (fun c17 => ?_) (fun c17 => ?_)
        · have h := h.1 c17
          refine r_iconst 0 (pc' := 71) (kX11_isImage_0 43 rfl) rfl (by unfold inR; omega) ?_
          refine r_istore_n (L' := [(2, 198), (0, x1), (0, (2 + ((1 + r1) * r3))), (0, 0)]) (pc' := 72) (kX11_isImage_0 44 rfl) rfl (Nat.le_of_ble_eq_true rfl) rfl ?_
          exact r_weak (L' := [(2, 198), (0, x1), (0, (2 + ((1 + r1) * r3))), (0, 0)]) ⟨Or.inl rfl, Or.inl rfl, Or.inl rfl, Or.inl rfl, trivial⟩ (h Ln)
        · have h := h.2 c17
          refine r_iconst 0 (pc' := 69) (kX11_isImage_0 41 rfl) rfl (by unfold inR; omega) ?_
          exact s_zret (kX11_isImage_0 42 rfl) rfl (Or.inl rfl) h
abbrev jX11_isImage_98 (d : Nat) (x1 x3 : Int) (φ : aF) (α : aA) (Q : Int → aF → aA → Prop) : Prop := R0 d mX11_isImage 98 [(2, 198), (0, x1), (9, 0), (0, x3)] [] φ α Q
theorem vX11_isImage_72 {d : Nat} {φ : aF} {α : aA} {Q : Int → aF → aA → Prop} {x1 : Int} {x2 : Int} {x3 : Int} (h : (eX11_clerkMany d  φ α (fun r1 φ1 α1 =>
   ((r1 ≤ x3 →
   (jX11_isImage_98 (d + 1) x1 x2 φ1 α1 Q)) ∧
   (¬ (r1 ≤ x3) →
   (eX11_isClerkTold d x3 φ1 α1 (fun r3 φ3 α3 =>
     ((¬ r3 = 0 →
     inR (x3 + 1) ∧ (jX11_isImage_72 (d + 1) x1 x2 (x3 + 1) φ3 α3 Q)) ∧
     (r3 = 0 →
     (Q 0 φ3 α3)))))))))) : jX11_isImage_72 (d + 1) x1 x2 x3 φ α Q := by
  intro Ln
  refine r_iload_n (pc' := 73) (kX11_isImage_0 45 rfl) rfl rfl ?_
  refine r_aload_n (pc' := 74) (kX11_isImage_0 46 rfl) rfl rfl ?_
  refine s_callV (As := []) (o := 198) (S := [(0, x3)]) (S2 := fun z => [(0, z), (0, x3)]) (pc' := 77) (kX11_isImage_0 47 rfl) rfl rfl nkX11_clerkMany mlX11_376 imX11_clerkMany rfl slX11_clerkMany rfl (Nat.le_of_ble_eq_true rfl) (Nat.le_of_ble_eq_true rfl) (kz198 Ln) h (fun z => rfl) (fun r1 φ1 α1 h => ?_)
  refine r_icmp_ge (t := 96) (pc' := 80) (kX11_isImage_0 48 rfl) rfl rfl (fun c2 => ?_) (fun c2 => ?_)
  · have h := h.1 c2
    refine r_iload_n (pc' := 97) (kX11_isImage_0 57 rfl) rfl rfl ?_
    refine r_istore_n (L' := [(2, 198), (0, x1), (0, x2), (0, x2)]) (pc' := 98) (kX11_isImage_0 58 rfl) rfl (Nat.le_of_ble_eq_true rfl) rfl ?_
    exact r_weak (L' := [(2, 198), (0, x1), (9, 0), (0, x2)]) ⟨Or.inl rfl, Or.inl rfl, Or.inr (by decide), Or.inl rfl, trivial⟩ (h Ln)
  · have h := h.2 c2
    refine r_aload_n (pc' := 81) (kX11_isImage_0 49 rfl) rfl rfl ?_
    refine r_iload_n (pc' := 82) (kX11_isImage_0 50 rfl) rfl rfl ?_
    refine s_callV (As := [(0, x3)]) (o := 198) (S := []) (S2 := fun z => [(0, z)]) (pc' := 85) (kX11_isImage_0 51 rfl) rfl rfl nkX11_isClerkTold mlX11_674 imX11_isClerkTold rfl slX11_isClerkTold rfl (Nat.le_of_ble_eq_true rfl) (Nat.le_of_ble_eq_true rfl) (kz198 Ln) h (fun z => rfl) (fun r3 φ3 α3 h => ?_)
    refine r_if_ne (t := 90) (pc' := 88) (kX11_isImage_0 52 rfl) rfl rfl (fun c4 => ?_) (fun c4 => ?_)
    · have h := h.1 c4
      have g5 := h.1
      have h := h.2
      refine r_iinc (L' := [(2, 198), (0, x1), (0, x2), (0, (x3 + 1))]) (pc' := 93) (kX11_isImage_0 55 rfl) rfl (Nat.le_of_ble_eq_true rfl) rfl g5 rfl ?_
      refine r_goto (pc' := 72) (kX11_isImage_0 56 rfl) rfl ?_
      exact r_weak (L' := [(2, 198), (0, x1), (0, x2), (0, (x3 + 1))]) ⟨Or.inl rfl, Or.inl rfl, Or.inl rfl, Or.inl rfl, trivial⟩ (h Ln)
    · have h := h.2 c4
      refine r_iconst 0 (pc' := 89) (kX11_isImage_0 53 rfl) rfl (by unfold inR; omega) ?_
      exact s_zret (kX11_isImage_0 54 rfl) rfl (Or.inl rfl) h
theorem vX11_isImage_98 {d : Nat} {φ : aF} {α : aA} {Q : Int → aF → aA → Prop} {x1 : Int} {x3 : Int} (h : inR (x1 - 1) ∧ (((x1 - 1) ≤ x3 →
   (Q 1 φ α)) ∧
   (¬ ((x1 - 1) ≤ x3) →
   (eX11_twoAt d x3 φ α (fun r3 φ3 α3 =>
     ((r3 ≤ 9999 →
     inR (x3 + 2) ∧ (jX11_isImage_98 (d + 1) x1 (x3 + 2) φ3 α3 Q)) ∧
     (¬ (r3 ≤ 9999) →
     (Q 0 φ3 α3)))))))) : jX11_isImage_98 (d + 1) x1 x3 φ α Q := by
  intro Ln
  refine r_iload_n (pc' := 99) (kX11_isImage_0 59 rfl) rfl rfl ?_
  refine r_iload_n (pc' := 100) (kX11_isImage_1 0 rfl) rfl rfl ?_
  refine r_iconst 1 (pc' := 101) (kX11_isImage_1 1 rfl) rfl (by unfold inR; omega) ?_
  have g1 := h.1
  have h := h.2
  refine r_isub (pc' := 102) (kX11_isImage_1 2 rfl) rfl g1 ?_
  refine r_icmp_ge (t := 124) (pc' := 105) (kX11_isImage_1 3 rfl) rfl rfl (fun c2 => ?_) (fun c2 => ?_)
  · have h := h.1 c2
    refine r_iconst 1 (pc' := 125) (kX11_isImage_1 13 rfl) rfl (by unfold inR; omega) ?_
    exact s_zret (kX11_isImage_1 14 rfl) rfl (Or.inr rfl) h
  · have h := h.2 c2
    refine r_aload_n (pc' := 106) (kX11_isImage_1 4 rfl) rfl rfl ?_
    refine r_iload_n (pc' := 107) (kX11_isImage_1 5 rfl) rfl rfl ?_
    refine s_callV (As := [(0, x3)]) (o := 198) (S := []) (S2 := fun z => [(0, z)]) (pc' := 110) (kX11_isImage_1 6 rfl) rfl rfl nkX11_twoAt mlX11_671 imX11_twoAt rfl slX11_twoAt rfl (Nat.le_of_ble_eq_true rfl) (Nat.le_of_ble_eq_true rfl) (kz198 Ln) h (fun z => rfl) (fun r3 φ3 α3 h => ?_)
    refine r_sipush 9999 (pc' := 113) (kX11_isImage_1 7 rfl) rfl ⟨by unfold inR; omega, rfl⟩ ?_
    refine r_icmp_le (t := 118) (pc' := 116) (kX11_isImage_1 8 rfl) rfl rfl (fun c4 => ?_) (fun c4 => ?_)
    · have h := h.1 c4
      have g5 := h.1
      have h := h.2
      refine r_iinc (L' := [(2, 198), (0, x1), (9, 0), (0, (x3 + 2))]) (pc' := 121) (kX11_isImage_1 11 rfl) rfl (Nat.le_of_ble_eq_true rfl) rfl g5 rfl ?_
      refine r_goto (pc' := 98) (kX11_isImage_1 12 rfl) rfl ?_
      exact r_weak (L' := [(2, 198), (0, x1), (9, 0), (0, (x3 + 2))]) ⟨Or.inl rfl, Or.inl rfl, Or.inr (by decide), Or.inl rfl, trivial⟩ (h Ln)
    · have h := h.2 c4
      refine r_iconst 0 (pc' := 117) (kX11_isImage_1 9 rfl) rfl (by unfold inR; omega) ?_
      exact s_zret (kX11_isImage_1 10 rfl) rfl (Or.inl rfl) h
abbrev jX11_on_50 (d : Nat) (x2 x3 : Int) (φ : aF) (α : aA) (Q : Int → aF → aA → Prop) : Prop := R0 d mX11_on 50 [(2, 198), (9, 0), (0, x2), (0, x3), (9, 0)] [] φ α Q
theorem vX11_on_0 {d : Nat} {φ : aF} {α : aA} {Q : Int → aF → aA → Prop} (h : (eX11_isImage d (φ 11 1 198) (upf φ 11 1 198 0) α (fun r1 φ1 α1 =>
   ((¬ r1 = 0 →
   (eX11_matterMany d  φ1 α1 (fun r3 φ3 α3 =>
     inR (1 + r3) ∧ (eX11_twoAt d 0 φ3 α3 (fun r5 φ5 α5 =>
     (jX11_on_50 (d + 1) (1 + r3) 0 φ5 (upa α5 233 0 r5) Q)))))) ∧
   (r1 = 0 →
   inR ((α1 200 5) + 1) ∧ (Q 0 φ1 (upa α1 200 5 ((α1 200 5) + 1)))))))) : eX11_on (d + 1)  φ α Q := by
  intro Ln
  refine r_aload_n (pc' := 1) (kX11_on_0 0 rfl) rfl rfl ?_
  refine s_get (x := (φ 11 1 198)) (pc' := 4) (kX11_on_0 1 rfl) rfl fkX11_224 rfl rfl rfl (kz198 Ln) rfl ?_
  refine r_istore_n (L' := [(2, 198), (0, (φ 11 1 198)), (9, 0), (9, 0), (9, 0)]) (pc' := 5) (kX11_on_0 2 rfl) rfl (Nat.le_of_ble_eq_true rfl) rfl ?_
  refine r_aload_n (pc' := 6) (kX11_on_0 3 rfl) rfl rfl ?_
  refine r_iconst 0 (pc' := 7) (kX11_on_0 4 rfl) rfl (by unfold inR; omega) ?_
  refine s_put (pc' := 10) (kX11_on_0 5 rfl) rfl fkX11_224 fnX11_1 rfl pk_int (kz198 Ln) ?_
  refine r_aload_n (pc' := 11) (kX11_on_0 6 rfl) rfl rfl ?_
  refine r_iload_n (pc' := 12) (kX11_on_0 7 rfl) rfl rfl ?_
  refine s_callV (As := [(0, (φ 11 1 198))]) (o := 198) (S := []) (S2 := fun z => [(0, z)]) (pc' := 15) (kX11_on_0 8 rfl) rfl rfl nkX11_isImage mlX11_677 imX11_isImage rfl slX11_isImage rfl (Nat.le_of_ble_eq_true rfl) (Nat.le_of_ble_eq_true rfl) (kz198 Ln) h (fun z => rfl) (fun r1 φ1 α1 h => ?_)
  refine r_if_ne (t := 30) (pc' := 18) (kX11_on_0 9 rfl) rfl rfl (fun c2 => ?_) (fun c2 => ?_)
  · have h := h.1 c2
    refine r_iconst 1 (pc' := 31) (kX11_on_0 20 rfl) rfl (by unfold inR; omega) ?_
    refine r_aload_n (pc' := 32) (kX11_on_0 21 rfl) rfl rfl ?_
    refine s_callV (As := []) (o := 198) (S := [(0, 1)]) (S2 := fun z => [(0, z), (0, 1)]) (pc' := 35) (kX11_on_0 22 rfl) rfl rfl nkX11_matterMany mlX11_373 imX11_matterMany rfl slX11_matterMany rfl (Nat.le_of_ble_eq_true rfl) (Nat.le_of_ble_eq_true rfl) (kz198 Ln) h (fun z => rfl) (fun r3 φ3 α3 h => ?_)
    have g4 := h.1
    have h := h.2
    refine r_iadd (pc' := 36) (kX11_on_0 23 rfl) rfl g4 ?_
    refine r_istore_n (L' := [(2, 198), (0, (φ 11 1 198)), (0, (1 + r3)), (9, 0), (9, 0)]) (pc' := 37) (kX11_on_0 24 rfl) rfl (Nat.le_of_ble_eq_true rfl) rfl ?_
    refine r_aload_n (pc' := 38) (kX11_on_0 25 rfl) rfl rfl ?_
    refine s_getr (v := 233) (pc' := 41) (kX11_on_0 26 rfl) rfl fkX11_118 rfl rfl (kz198 Ln) rfl (by decide) ?_
    refine r_iconst 0 (pc' := 42) (kX11_on_0 27 rfl) rfl (by unfold inR; omega) ?_
    refine r_aload_n (pc' := 43) (kX11_on_0 28 rfl) rfl rfl ?_
    refine r_iconst 0 (pc' := 44) (kX11_on_0 29 rfl) rfl (by unfold inR; omega) ?_
    refine s_callV (As := [(0, 0)]) (o := 198) (S := [(0, 0), (2, 233)]) (S2 := fun z => [(0, z), (0, 0), (2, 233)]) (pc' := 47) (kX11_on_0 30 rfl) rfl rfl nkX11_twoAt mlX11_671 imX11_twoAt rfl slX11_twoAt rfl (Nat.le_of_ble_eq_true rfl) (Nat.le_of_ble_eq_true rfl) (kz198 Ln) h (fun z => rfl) (fun r5 φ5 α5 h => ?_)
    refine s_iast (pc' := 48) (kX11_on_0 31 rfl) rfl (kz233 Ln) ⟨by decide, by decide⟩ ?_
    refine r_iconst 0 (pc' := 49) (kX11_on_0 32 rfl) rfl (by unfold inR; omega) ?_
    refine r_istore_n (L' := [(2, 198), (0, (φ 11 1 198)), (0, (1 + r3)), (0, 0), (9, 0)]) (pc' := 50) (kX11_on_0 33 rfl) rfl (Nat.le_of_ble_eq_true rfl) rfl ?_
    exact r_weak (L' := [(2, 198), (9, 0), (0, (1 + r3)), (0, 0), (9, 0)]) ⟨Or.inl rfl, Or.inr (by decide), Or.inl rfl, Or.inl rfl, Or.inr (by decide), trivial⟩ (h Ln)
  · have h := h.2 c2
    refine r_aload_n (pc' := 19) (kX11_on_0 10 rfl) rfl rfl ?_
    refine s_getr (v := 200) (pc' := 22) (kX11_on_0 11 rfl) rfl fkX11_17 rfl rfl (kz198 Ln) rfl (by decide) ?_
    refine r_iconst 5 (pc' := 23) (kX11_on_0 12 rfl) rfl (by unfold inR; omega) ?_
    refine r_dup2 (pc' := 24) (kX11_on_0 13 rfl) rfl rfl rfl ?_
    refine s_iald (x := (α1 200 5)) (pc' := 25) (kX11_on_0 14 rfl) rfl (kz200 Ln) ⟨by decide, by decide⟩ rfl ?_
    refine r_iconst 1 (pc' := 26) (kX11_on_0 15 rfl) rfl (by unfold inR; omega) ?_
    have g6 := h.1
    have h := h.2
    refine r_iadd (pc' := 27) (kX11_on_0 16 rfl) rfl g6 ?_
    refine s_iast (pc' := 28) (kX11_on_0 17 rfl) rfl (kz200 Ln) ⟨by decide, by decide⟩ ?_
    refine r_iconst 0 (pc' := 29) (kX11_on_0 18 rfl) rfl (by unfold inR; omega) ?_
    exact s_zret (kX11_on_0 19 rfl) rfl (Or.inl rfl) h
abbrev jX11_on_107 (d : Nat) (x2 x3 : Int) (φ : aF) (α : aA) (Q : Int → aF → aA → Prop) : Prop := R0 d mX11_on 107 [(2, 198), (9, 0), (0, x2), (0, x3), (9, 0)] [] φ α Q
abbrev jX11_on_61 (d : Nat) (x2 x3 x4 : Int) (φ : aF) (α : aA) (Q : Int → aF → aA → Prop) : Prop := R0 d mX11_on 61 [(2, 198), (9, 0), (0, x2), (0, x3), (0, x4)] [] φ α Q
theorem vX11_on_50 {d : Nat} {φ : aF} {α : aA} {Q : Int → aF → aA → Prop} {x2 : Int} {x3 : Int} (h : (eX11_clerkMany d  φ α (fun r1 φ1 α1 =>
   ((r1 ≤ x3 →
   (jX11_on_107 (d + 1) x2 0 φ1 α1 Q)) ∧
   (¬ (r1 ≤ x3) →
   (jX11_on_61 (d + 1) x2 x3 0 φ1 α1 Q)))))) : jX11_on_50 (d + 1) x2 x3 φ α Q := by
  intro Ln
  refine r_iload_n (pc' := 51) (kX11_on_0 34 rfl) rfl rfl ?_
  refine r_aload_n (pc' := 52) (kX11_on_0 35 rfl) rfl rfl ?_
  refine s_callV (As := []) (o := 198) (S := [(0, x3)]) (S2 := fun z => [(0, z), (0, x3)]) (pc' := 55) (kX11_on_0 36 rfl) rfl rfl nkX11_clerkMany mlX11_376 imX11_clerkMany rfl slX11_clerkMany rfl (Nat.le_of_ble_eq_true rfl) (Nat.le_of_ble_eq_true rfl) (kz198 Ln) h (fun z => rfl) (fun r1 φ1 α1 h => ?_)
  refine r_icmp_ge (t := 105) (pc' := 58) (kX11_on_0 37 rfl) rfl rfl (fun c2 => ?_) (fun c2 => ?_)
  · have h := h.1 c2
    refine r_iconst 0 (pc' := 106) (kX11_on_1 7 rfl) rfl (by unfold inR; omega) ?_
    refine r_istore_n (L' := [(2, 198), (9, 0), (0, x2), (0, 0), (9, 0)]) (pc' := 107) (kX11_on_1 8 rfl) rfl (Nat.le_of_ble_eq_true rfl) rfl ?_
    exact r_weak (L' := [(2, 198), (9, 0), (0, x2), (0, 0), (9, 0)]) ⟨Or.inl rfl, Or.inr (by decide), Or.inl rfl, Or.inl rfl, Or.inr (by decide), trivial⟩ (h Ln)
  · have h := h.2 c2
    refine r_iconst 0 (pc' := 59) (kX11_on_0 38 rfl) rfl (by unfold inR; omega) ?_
    refine r_istore (L' := [(2, 198), (9, 0), (0, x2), (0, x3), (0, 0)]) (pc' := 61) (kX11_on_0 39 rfl) rfl (Nat.le_of_ble_eq_true rfl) rfl ?_
    exact r_weak (L' := [(2, 198), (9, 0), (0, x2), (0, x3), (0, 0)]) ⟨Or.inl rfl, Or.inr (by decide), Or.inl rfl, Or.inl rfl, Or.inl rfl, trivial⟩ (h Ln)
theorem vX11_on_107 {d : Nat} {φ : aF} {α : aA} {Q : Int → aF → aA → Prop} {x2 : Int} {x3 : Int} (h : (eX11_matterMany d  φ α (fun r1 φ1 α1 =>
   inR (3 * r1) ∧ (((3 * r1) ≤ x3 →
   (Q 1 (upf φ1 11 60 198 0) (upa α1 233 48 0))) ∧
   (¬ ((3 * r1) ≤ x3) →
   inR (36 + x3) ∧ (eX11_clerkMany d  φ1 α1 (fun r5 φ5 α5 =>
     inR (x2 * r5) ∧ inR (2 + (x2 * r5)) ∧ inR (2 * x3) ∧ inR ((2 + (x2 * r5)) + (2 * x3)) ∧ (eX11_twoAt d ((2 + (x2 * r5)) + (2 * x3)) φ5 α5 (fun r10 φ10 α10 =>
     (0 ≤ (36 + x3) ∧ (36 + x3) < (169 : Nat)) ∧ inR (x3 + 1) ∧ (jX11_on_107 (d + 1) x2 (x3 + 1) φ10 (upa α10 233 (36 + x3) r10) Q)))))))))) : jX11_on_107 (d + 1) x2 x3 φ α Q := by
  intro Ln
  refine r_iload_n (pc' := 108) (kX11_on_1 9 rfl) rfl rfl ?_
  refine r_iconst 3 (pc' := 109) (kX11_on_1 10 rfl) rfl (by unfold inR; omega) ?_
  refine r_aload_n (pc' := 110) (kX11_on_1 11 rfl) rfl rfl ?_
  refine s_callV (As := []) (o := 198) (S := [(0, 3), (0, x3)]) (S2 := fun z => [(0, z), (0, 3), (0, x3)]) (pc' := 113) (kX11_on_1 12 rfl) rfl rfl nkX11_matterMany mlX11_373 imX11_matterMany rfl slX11_matterMany rfl (Nat.le_of_ble_eq_true rfl) (Nat.le_of_ble_eq_true rfl) (kz198 Ln) h (fun z => rfl) (fun r1 φ1 α1 h => ?_)
  have g2 := h.1
  have h := h.2
  refine r_imul (pc' := 114) (kX11_on_1 13 rfl) rfl g2 ?_
  refine r_icmp_ge (t := 148) (pc' := 117) (kX11_on_1 14 rfl) rfl rfl (fun c3 => ?_) (fun c3 => ?_)
  · have h := h.1 c3
    refine r_aload_n (pc' := 149) (kX11_on_1 35 rfl) rfl rfl ?_
    refine s_getr (v := 233) (pc' := 152) (kX11_on_1 36 rfl) rfl fkX11_118 rfl rfl (kz198 Ln) rfl (by decide) ?_
    refine r_bipush 48 (pc' := 154) (kX11_on_1 37 rfl) rfl ⟨by unfold inR; omega, rfl⟩ ?_
    refine r_iconst 0 (pc' := 155) (kX11_on_1 38 rfl) rfl (by unfold inR; omega) ?_
    refine s_iast (pc' := 156) (kX11_on_1 39 rfl) rfl (kz233 Ln) ⟨by decide, by decide⟩ ?_
    refine r_aload_n (pc' := 157) (kX11_on_1 40 rfl) rfl rfl ?_
    refine r_iconst 0 (pc' := 158) (kX11_on_1 41 rfl) rfl (by unfold inR; omega) ?_
    refine s_put (pc' := 161) (kX11_on_1 42 rfl) rfl fkX11_367 fnX11_60 rfl pk_int (kz198 Ln) ?_
    refine r_iconst 1 (pc' := 162) (kX11_on_1 43 rfl) rfl (by unfold inR; omega) ?_
    exact s_zret (kX11_on_1 44 rfl) rfl (Or.inr rfl) h
  · have h := h.2 c3
    refine r_aload_n (pc' := 118) (kX11_on_1 15 rfl) rfl rfl ?_
    refine s_getr (v := 233) (pc' := 121) (kX11_on_1 16 rfl) rfl fkX11_118 rfl rfl (kz198 Ln) rfl (by decide) ?_
    refine r_bipush 36 (pc' := 123) (kX11_on_1 17 rfl) rfl ⟨by unfold inR; omega, rfl⟩ ?_
    refine r_iload_n (pc' := 124) (kX11_on_1 18 rfl) rfl rfl ?_
    have g4 := h.1
    have h := h.2
    refine r_iadd (pc' := 125) (kX11_on_1 19 rfl) rfl g4 ?_
    refine r_aload_n (pc' := 126) (kX11_on_1 20 rfl) rfl rfl ?_
    refine r_iconst 2 (pc' := 127) (kX11_on_1 21 rfl) rfl (by unfold inR; omega) ?_
    refine r_iload_n (pc' := 128) (kX11_on_1 22 rfl) rfl rfl ?_
    refine r_aload_n (pc' := 129) (kX11_on_1 23 rfl) rfl rfl ?_
    refine s_callV (As := []) (o := 198) (S := [(0, x2), (0, 2), (2, 198), (0, (36 + x3)), (2, 233)]) (S2 := fun z => [(0, z), (0, x2), (0, 2), (2, 198), (0, (36 + x3)), (2, 233)]) (pc' := 132) (kX11_on_1 24 rfl) rfl rfl nkX11_clerkMany mlX11_376 imX11_clerkMany rfl slX11_clerkMany rfl (Nat.le_of_ble_eq_true rfl) (Nat.le_of_ble_eq_true rfl) (kz198 Ln) h (fun z => rfl) (fun r5 φ5 α5 h => ?_)
    have g6 := h.1
    have h := h.2
    refine r_imul (pc' := 133) (kX11_on_1 25 rfl) rfl g6 ?_
    have g7 := h.1
    have h := h.2
    refine r_iadd (pc' := 134) (kX11_on_1 26 rfl) rfl g7 ?_
    refine r_iconst 2 (pc' := 135) (kX11_on_1 27 rfl) rfl (by unfold inR; omega) ?_
    refine r_iload_n (pc' := 136) (kX11_on_1 28 rfl) rfl rfl ?_
    have g8 := h.1
    have h := h.2
    refine r_imul (pc' := 137) (kX11_on_1 29 rfl) rfl g8 ?_
    have g9 := h.1
    have h := h.2
    refine r_iadd (pc' := 138) (kX11_on_1 30 rfl) rfl g9 ?_
    refine s_callV (As := [(0, ((2 + (x2 * r5)) + (2 * x3)))]) (o := 198) (S := [(0, (36 + x3)), (2, 233)]) (S2 := fun z => [(0, z), (0, (36 + x3)), (2, 233)]) (pc' := 141) (kX11_on_1 31 rfl) rfl rfl nkX11_twoAt mlX11_671 imX11_twoAt rfl slX11_twoAt rfl (Nat.le_of_ble_eq_true rfl) (Nat.le_of_ble_eq_true rfl) (kz198 Ln) h (fun z => rfl) (fun r10 φ10 α10 h => ?_)
    have g11 := h.1
    have h := h.2
    refine s_iast (pc' := 142) (kX11_on_1 32 rfl) rfl (kz233 Ln) g11 ?_
    have g12 := h.1
    have h := h.2
    refine r_iinc (L' := [(2, 198), (9, 0), (0, x2), (0, (x3 + 1)), (9, 0)]) (pc' := 145) (kX11_on_1 33 rfl) rfl (Nat.le_of_ble_eq_true rfl) rfl g12 rfl ?_
    refine r_goto (pc' := 107) (kX11_on_1 34 rfl) rfl ?_
    exact r_weak (L' := [(2, 198), (9, 0), (0, x2), (0, (x3 + 1)), (9, 0)]) ⟨Or.inl rfl, Or.inr (by decide), Or.inl rfl, Or.inl rfl, Or.inr (by decide), trivial⟩ (h Ln)
theorem vX11_on_61 {d : Nat} {φ : aF} {α : aA} {Q : Int → aF → aA → Prop} {x2 : Int} {x3 : Int} {x4 : Int} (h : ((x2 ≤ x4 →
   inR (x3 + 1) ∧ (jX11_on_50 (d + 1) x2 (x3 + 1) φ α Q)) ∧
   (¬ (x2 ≤ x4) →
   inR (5 * x3) ∧ inR (1 + (5 * x3)) ∧ inR ((1 + (5 * x3)) + x4) ∧ inR (x2 * x3) ∧ inR (2 + (x2 * x3)) ∧ inR ((2 + (x2 * x3)) + x4) ∧ (0 ≤ ((2 + (x2 * x3)) + x4) ∧ ((2 + (x2 * x3)) + x4) < (1600 : Nat)) ∧ (0 ≤ ((1 + (5 * x3)) + x4) ∧ ((1 + (5 * x3)) + x4) < (169 : Nat)) ∧ inR (x4 + 1) ∧ (jX11_on_61 (d + 1) x2 x3 (x4 + 1) φ (upa α 233 ((1 + (5 * x3)) + x4) (α 199 ((2 + (x2 * x3)) + x4))) Q)))) : jX11_on_61 (d + 1) x2 x3 x4 φ α Q := by
  intro Ln
  refine r_iload (pc' := 63) (kX11_on_0 40 rfl) rfl rfl ?_
  refine r_iload_n (pc' := 64) (kX11_on_0 41 rfl) rfl rfl ?_
  refine r_icmp_ge (t := 99) (pc' := 67) (kX11_on_0 42 rfl) rfl rfl (fun c1 => ?_) (fun c1 => ?_)
  · have h := h.1 c1
    have g2 := h.1
    have h := h.2
    refine r_iinc (L' := [(2, 198), (9, 0), (0, x2), (0, (x3 + 1)), (0, x4)]) (pc' := 102) (kX11_on_1 5 rfl) rfl (Nat.le_of_ble_eq_true rfl) rfl g2 rfl ?_
    refine r_goto (pc' := 50) (kX11_on_1 6 rfl) rfl ?_
    exact r_weak (L' := [(2, 198), (9, 0), (0, x2), (0, (x3 + 1)), (9, 0)]) ⟨Or.inl rfl, Or.inr (by decide), Or.inl rfl, Or.inl rfl, Or.inr (by decide), trivial⟩ (h Ln)
  · have h := h.2 c1
    refine r_aload_n (pc' := 68) (kX11_on_0 43 rfl) rfl rfl ?_
    refine s_getr (v := 233) (pc' := 71) (kX11_on_0 44 rfl) rfl fkX11_118 rfl rfl (kz198 Ln) rfl (by decide) ?_
    refine r_iconst 1 (pc' := 72) (kX11_on_0 45 rfl) rfl (by unfold inR; omega) ?_
    refine r_iconst 5 (pc' := 73) (kX11_on_0 46 rfl) rfl (by unfold inR; omega) ?_
    refine r_iload_n (pc' := 74) (kX11_on_0 47 rfl) rfl rfl ?_
    have g3 := h.1
    have h := h.2
    refine r_imul (pc' := 75) (kX11_on_0 48 rfl) rfl g3 ?_
    have g4 := h.1
    have h := h.2
    refine r_iadd (pc' := 76) (kX11_on_0 49 rfl) rfl g4 ?_
    refine r_iload (pc' := 78) (kX11_on_0 50 rfl) rfl rfl ?_
    have g5 := h.1
    have h := h.2
    refine r_iadd (pc' := 79) (kX11_on_0 51 rfl) rfl g5 ?_
    refine r_aload_n (pc' := 80) (kX11_on_0 52 rfl) rfl rfl ?_
    refine s_getr (v := 199) (pc' := 83) (kX11_on_0 53 rfl) rfl fkX11_7 rfl rfl (kz198 Ln) rfl (by decide) ?_
    refine r_iconst 2 (pc' := 84) (kX11_on_0 54 rfl) rfl (by unfold inR; omega) ?_
    refine r_iload_n (pc' := 85) (kX11_on_0 55 rfl) rfl rfl ?_
    refine r_iload_n (pc' := 86) (kX11_on_0 56 rfl) rfl rfl ?_
    have g6 := h.1
    have h := h.2
    refine r_imul (pc' := 87) (kX11_on_0 57 rfl) rfl g6 ?_
    have g7 := h.1
    have h := h.2
    refine r_iadd (pc' := 88) (kX11_on_0 58 rfl) rfl g7 ?_
    refine r_iload (pc' := 90) (kX11_on_0 59 rfl) rfl rfl ?_
    have g8 := h.1
    have h := h.2
    refine r_iadd (pc' := 91) (kX11_on_1 0 rfl) rfl g8 ?_
    have g9 := h.1
    have h := h.2
    refine s_iald (x := (α 199 ((2 + (x2 * x3)) + x4))) (pc' := 92) (kX11_on_1 1 rfl) rfl (kz199 Ln) g9 rfl ?_
    have g10 := h.1
    have h := h.2
    refine s_iast (pc' := 93) (kX11_on_1 2 rfl) rfl (kz233 Ln) g10 ?_
    have g11 := h.1
    have h := h.2
    refine r_iinc (L' := [(2, 198), (9, 0), (0, x2), (0, x3), (0, (x4 + 1))]) (pc' := 96) (kX11_on_1 3 rfl) rfl (Nat.le_of_ble_eq_true rfl) rfl g11 rfl ?_
    refine r_goto (pc' := 61) (kX11_on_1 4 rfl) rfl ?_
    exact r_weak (L' := [(2, 198), (9, 0), (0, x2), (0, x3), (0, (x4 + 1))]) ⟨Or.inl rfl, Or.inr (by decide), Or.inl rfl, Or.inl rfl, Or.inl rfl, trivial⟩ (h Ln)
theorem vX11_status_0 {d : Nat} {φ : aF} {α : aA} {Q : Int → aF → aA → Prop} {x1 : Int} (h : (eX11_isIn d x1 0 5 φ α (fun r1 φ1 α1 =>
   ((r1 = 0 →
   (Q (-1) φ1 α1)) ∧
   (¬ (r1 = 0) →
   (0 ≤ x1 ∧ x1 < (6 : Nat)) ∧ (Q (α1 200 x1) φ1 α1)))))) : eX11_status (d + 1) x1 φ α Q := by
  intro Ln
  refine r_iload_n (pc' := 1) (kX11_status_0 0 rfl) rfl rfl ?_
  refine r_i2l (pc' := 2) (kX11_status_0 1 rfl) rfl ?_
  refine r_lconst 0 (pc' := 3) (kX11_status_0 2 rfl) rfl ⟨by unfold inJ; omega, rfl⟩ ?_
  refine r_ldc2 5 (pc' := 6) (kX11_status_0 3 rfl) rfl kcX11_462 (by unfold inJ; omega) ?_
  refine s_callS (As := [(1, x1), (1, 0), (1, 5)]) (S := []) (S2 := fun z => [(0, z)]) (pc' := 9) (kX11_status_0 4 rfl) rfl rfl nkX11_isIn mlX11_270 scX11_isIn rfl (Nat.le_of_ble_eq_true rfl) (Nat.le_of_ble_eq_true rfl) h (fun z => rfl) (fun r1 φ1 α1 h => ?_)
  refine r_if_eq (t := 21) (pc' := 12) (kX11_status_0 5 rfl) rfl rfl (fun c2 => ?_) (fun c2 => ?_)
  · have h := h.1 c2
    refine r_iconst (-1) (pc' := 22) (kX11_status_0 11 rfl) rfl (by unfold inR; omega) ?_
    exact s_iret (kX11_status_0 12 rfl) rfl h
  · have h := h.2 c2
    refine r_aload_n (pc' := 13) (kX11_status_0 6 rfl) rfl rfl ?_
    refine s_getr (v := 200) (pc' := 16) (kX11_status_0 7 rfl) rfl fkX11_17 rfl rfl (kz198 Ln) rfl (by decide) ?_
    refine r_iload_n (pc' := 17) (kX11_status_0 8 rfl) rfl rfl ?_
    have g3 := h.1
    have h := h.2
    refine s_iald (x := (α1 200 x1)) (pc' := 18) (kX11_status_0 9 rfl) rfl (kz200 Ln) g3 rfl ?_
    refine r_goto (pc' := 22) (kX11_status_0 10 rfl) rfl ?_
    exact s_iret (kX11_status_0 12 rfl) rfl h
