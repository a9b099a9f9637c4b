abbrev jX1_worth_6 (d : Nat) (x1 x2 x3 x4 x5 x6 x7 : Int) (φ : aF) (α : aA) (Q : Int → aF → aA → Prop) : Prop := R0 d mX1_worth 6 [(2, 188), (2, x1), (2, x2), (0, x3), (0, x4), (0, x5), (0, x6), (0, x7), (9, 0), (9, 0)] [] φ α Q
theorem vX1_worth_0 {d : Nat} {φ : aF} {α : aA} {Q : Int → aF → aA → Prop} {x1 : Int} {nx1 : Nat} {x2 : Int} {x3 : Int} {x4 : Int} {x5 : Int} (hx1 : isRow x1 nx1) (hx2 : isSt x2) (h : (jX1_worth_6 (d + 1) x1 x2 x3 x4 x5 0 0 φ α Q)) : eX1_worth (d + 1) x1 x2 x3 x4 x5 φ α Q := by
  intro Ln
  refine r_iconst 0 (pc' := 1) (kX1_worth_0 0 rfl) rfl (by unfold inR; omega) ?_
  refine r_istore (L' := [(2, 188), (2, x1), (2, x2), (0, x3), (0, x4), (0, x5), (0, 0), (9, 0), (9, 0), (9, 0)]) (pc' := 3) (kX1_worth_0 1 rfl) rfl (Nat.le_of_ble_eq_true rfl) rfl ?_
  refine r_iconst 0 (pc' := 4) (kX1_worth_0 2 rfl) rfl (by unfold inR; omega) ?_
  refine r_istore (L' := [(2, 188), (2, x1), (2, x2), (0, x3), (0, x4), (0, x5), (0, 0), (0, 0), (9, 0), (9, 0)]) (pc' := 6) (kX1_worth_0 3 rfl) rfl (Nat.le_of_ble_eq_true rfl) rfl ?_
  exact r_weak (L' := [(2, 188), (2, x1), (2, x2), (0, x3), (0, x4), (0, x5), (0, 0), (0, 0), (9, 0), (9, 0)]) ⟨Or.inl rfl, Or.inl rfl, Or.inl rfl, Or.inl rfl, Or.inl rfl, Or.inl rfl, Or.inl rfl, Or.inl rfl, Or.inr (by decide), Or.inr (by decide), trivial⟩ (h Ln)
theorem vX1_worth_6 {d : Nat} {φ : aF} {α : aA} {Q : Int → aF → aA → Prop} {x1 : Int} {nx1 : Nat} {x2 : Int} {x3 : Int} {x4 : Int} {x5 : Int} {x6 : Int} {x7 : Int} (hx1 : isRow x1 nx1) (hx2 : isSt x2) (h : (((φ 6 1 x1) ≤ x7 →
   (Q (α 189 0) φ α)) ∧
   (¬ ((φ 6 1 x1) ≤ x7) →
   (eX6_at d x1 x7 φ α (fun r2 φ2 α2 =>
     (eX1_needsOf d r2 φ2 α2 (fun r3 φ3 α3 =>
     inR (x6 - r3) ∧ (((x6 - r3) < 0 →
     (Q 0 φ3 α3)) ∧
     (¬ ((x6 - r3) < 0) →
     inR ((x6 - r3) + 1) ∧ ((((x6 - r3) + 1) < 64 →
       ((¬ r3 = 0 →
         ((¬ r3 = 1 →
           (0 ≤ (x6 - r3) ∧ (x6 - r3) < (64 : Nat)) ∧ (0 ≤ ((x6 - r3) + 1) ∧ ((x6 - r3) + 1) < (64 : Nat)) ∧ (eX1_join d r2 (α3 189 (x6 - r3)) (α3 189 ((x6 - r3) + 1)) φ3 α3 (fun r12 φ12 α12 =>
             inR (x7 + 1) ∧ (jX1_worth_6 (d + 1) x1 x2 x3 x4 x5 ((x6 - r3) + 1) (x7 + 1) φ12 (upa α12 189 (x6 - r3) r12) Q)))) ∧
           (r3 = 1 →
           (0 ≤ (x6 - r3) ∧ (x6 - r3) < (64 : Nat)) ∧ (eX1_turn d r2 (α3 189 (x6 - r3)) x2 x3 φ3 α3 (fun r15 φ15 α15 =>
             inR (x7 + 1) ∧ (jX1_worth_6 (d + 1) x1 x2 x3 x4 x5 ((x6 - r3) + 1) (x7 + 1) φ15 (upa α15 189 (x6 - r3) r15) Q)))))) ∧
         (r3 = 0 →
         (eX1_look d r2 x2 x3 x4 x5 φ3 α3 (fun r17 φ17 α17 =>
           (0 ≤ (x6 - r3) ∧ (x6 - r3) < (64 : Nat)) ∧ inR (x7 + 1) ∧ (jX1_worth_6 (d + 1) x1 x2 x3 x4 x5 ((x6 - r3) + 1) (x7 + 1) φ17 (upa α17 189 (x6 - r3) r17) Q)))))) ∧
       (¬ (((x6 - r3) + 1) < 64) →
       (Q 0 φ3 α3)))))))))))) : jX1_worth_6 (d + 1) x1 x2 x3 x4 x5 x6 x7 φ α Q := by
  intro Ln
  refine r_iload (pc' := 8) (kX1_worth_0 4 rfl) rfl rfl ?_
  refine r_aload_n (pc' := 9) (kX1_worth_0 5 rfl) rfl rfl ?_
  refine s_get (x := (φ 6 1 x1)) (pc' := 12) (kX1_worth_0 6 rfl) rfl fkX1_19 rfl rfl rfl (hx1.1 Ln) rfl ?_
  refine r_icmp_ge (t := 151) (pc' := 15) (kX1_worth_0 7 rfl) rfl rfl (fun c1 => ?_) (fun c1 => ?_)
  · have h := h.1 c1
    refine r_aload_n (pc' := 152) (kX1_worth_1 20 rfl) rfl rfl ?_
    refine s_getr (v := 189) (pc' := 155) (kX1_worth_1 21 rfl) rfl fkX1_9 rfl rfl (kz188 Ln) rfl (by decide) ?_
    refine r_iconst 0 (pc' := 156) (kX1_worth_1 22 rfl) rfl (by unfold inR; omega) ?_
    refine s_iald (x := (α 189 0)) (pc' := 157) (kX1_worth_1 23 rfl) rfl (kz189 Ln) ⟨by decide, by decide⟩ rfl ?_
    exact s_iret (kX1_worth_1 24 rfl) rfl h
  · have h := h.2 c1
    refine r_aload_n (pc' := 16) (kX1_worth_0 8 rfl) rfl rfl ?_
    refine r_iload (pc' := 18) (kX1_worth_0 9 rfl) rfl rfl ?_
    refine s_callV (As := [(0, x7)]) (o := x1) (S := []) (S2 := fun z => [(0, z)]) (pc' := 21) (kX1_worth_0 10 rfl) rfl rfl nkX6_at mlX1_25 imX6_at rfl slX6_at rfl (Nat.le_of_ble_eq_true rfl) (Nat.le_of_ble_eq_true rfl) (hx1.1 Ln) h (fun z => rfl) (fun r2 φ2 α2 h => ?_)
    refine r_istore (L' := [(2, 188), (2, x1), (2, x2), (0, x3), (0, x4), (0, x5), (0, x6), (0, x7), (0, r2), (9, 0)]) (pc' := 23) (kX1_worth_0 11 rfl) rfl (Nat.le_of_ble_eq_true rfl) rfl ?_
    refine r_iload (pc' := 25) (kX1_worth_0 12 rfl) rfl rfl ?_
    refine s_callS (As := [(0, r2)]) (S := []) (S2 := fun z => [(0, z)]) (pc' := 28) (kX1_worth_0 13 rfl) rfl rfl nkX1_needsOf mlX1_29 scX1_needsOf rfl (Nat.le_of_ble_eq_true rfl) (Nat.le_of_ble_eq_true rfl) h (fun z => rfl) (fun r3 φ3 α3 h => ?_)
    refine r_istore (L' := [(2, 188), (2, x1), (2, x2), (0, x3), (0, x4), (0, x5), (0, x6), (0, x7), (0, r2), (0, r3)]) (pc' := 30) (kX1_worth_0 14 rfl) rfl (Nat.le_of_ble_eq_true rfl) rfl ?_
    refine r_iload (pc' := 32) (kX1_worth_0 15 rfl) rfl rfl ?_
    refine r_iload (pc' := 34) (kX1_worth_0 16 rfl) rfl rfl ?_
    have g4 := h.1
    have h := h.2
    refine r_isub (pc' := 35) (kX1_worth_0 17 rfl) rfl g4 ?_
    refine r_istore (L' := [(2, 188), (2, x1), (2, x2), (0, x3), (0, x4), (0, x5), (0, (x6 - r3)), (0, x7), (0, r2), (0, r3)]) (pc' := 37) (kX1_worth_0 18 rfl) rfl (Nat.le_of_ble_eq_true rfl) rfl ?_
    refine r_iload (pc' := 39) (kX1_worth_0 19 rfl) rfl rfl ?_
    refine r_if_lt (t := 54) (pc' := 42) (kX1_worth_0 20 rfl) rfl rfl (fun c5 => ?_) (fun c5 => ?_)
    · have h := h.1 c5
      refine r_iconst 0 (pc' := 55) (kX1_worth_0 28 rfl) rfl (by unfold inR; omega) ?_
      exact s_iret (kX1_worth_0 29 rfl) rfl h
    · have h := h.2 c5
      refine r_iload (pc' := 44) (kX1_worth_0 21 rfl) rfl rfl ?_
      refine r_iconst 1 (pc' := 45) (kX1_worth_0 22 rfl) rfl (by unfold inR; omega) ?_
      have g6 := h.1
      have h := h.2
      refine r_iadd (pc' := 46) (kX1_worth_0 23 rfl) rfl g6 ?_
      refine r_aload_n (pc' := 47) (kX1_worth_0 24 rfl) rfl rfl ?_
      refine s_getr (v := 189) (pc' := 50) (kX1_worth_0 25 rfl) rfl fkX1_9 rfl rfl (kz188 Ln) rfl (by decide) ?_
      refine s_alen (pc' := 51) (kX1_worth_0 26 rfl) rfl (kz189 Ln) ⟨by decide, by decide⟩ ?_
      refine r_icmp_lt (t := 56) (pc' := 54) (kX1_worth_0 27 rfl) rfl rfl (fun c7 => ?_) (fun c7 => ?_)
      · have h := h.1 c7
        refine r_iload (pc' := 58) (kX1_worth_0 30 rfl) rfl rfl ?_
        refine r_if_ne (t := 83) (pc' := 61) (kX1_worth_0 31 rfl) rfl rfl (fun c8 => ?_) (fun c8 => ?_)
        · have h := h.1 c8
          refine r_iload (pc' := 85) (kX1_worth_0 44 rfl) rfl rfl ?_
          refine r_iconst 1 (pc' := 86) (kX1_worth_0 45 rfl) rfl (by unfold inR; omega) ?_
          refine r_icmp_ne (t := 114) (pc' := 89) (kX1_worth_0 46 rfl) rfl rfl (fun c9 => ?_) (fun c9 => ?_)
          · have h := h.1 c9
            refine r_aload_n (pc' := 115) (kX1_worth_1 1 rfl) rfl rfl ?_
            refine s_getr (v := 189) (pc' := 118) (kX1_worth_1 2 rfl) rfl fkX1_9 rfl rfl (kz188 Ln) rfl (by decide) ?_
            refine r_iload (pc' := 120) (kX1_worth_1 3 rfl) rfl rfl ?_
            refine r_iload (pc' := 122) (kX1_worth_1 4 rfl) rfl rfl ?_
            refine r_aload_n (pc' := 123) (kX1_worth_1 5 rfl) rfl rfl ?_
            refine s_getr (v := 189) (pc' := 126) (kX1_worth_1 6 rfl) rfl fkX1_9 rfl rfl (kz188 Ln) rfl (by decide) ?_
            refine r_iload (pc' := 128) (kX1_worth_1 7 rfl) rfl rfl ?_
            have g10 := h.1
            have h := h.2
            refine s_iald (x := (α3 189 (x6 - r3))) (pc' := 129) (kX1_worth_1 8 rfl) rfl (kz189 Ln) g10 rfl ?_
            refine r_aload_n (pc' := 130) (kX1_worth_1 9 rfl) rfl rfl ?_
            refine s_getr (v := 189) (pc' := 133) (kX1_worth_1 10 rfl) rfl fkX1_9 rfl rfl (kz188 Ln) rfl (by decide) ?_
            refine r_iload (pc' := 135) (kX1_worth_1 11 rfl) rfl rfl ?_
            refine r_iconst 1 (pc' := 136) (kX1_worth_1 12 rfl) rfl (by unfold inR; omega) ?_
            refine r_iadd (pc' := 137) (kX1_worth_1 13 rfl) rfl g6 ?_
            have g11 := h.1
            have h := h.2
            refine s_iald (x := (α3 189 ((x6 - r3) + 1))) (pc' := 138) (kX1_worth_1 14 rfl) rfl (kz189 Ln) g11 rfl ?_
            refine s_callS (As := [(0, r2), (0, (α3 189 (x6 - r3))), (0, (α3 189 ((x6 - r3) + 1)))]) (S := [(0, (x6 - r3)), (2, 189)]) (S2 := fun z => [(0, z), (0, (x6 - r3)), (2, 189)]) (pc' := 141) (kX1_worth_1 15 rfl) rfl rfl nkX1_join mlX1_40 scX1_join rfl (Nat.le_of_ble_eq_true rfl) (Nat.le_of_ble_eq_true rfl) h (fun z => rfl) (fun r12 φ12 α12 h => ?_)
            refine s_iast (pc' := 142) (kX1_worth_1 16 rfl) rfl (kz189 Ln) g10 ?_
            refine r_iinc (L' := [(2, 188), (2, x1), (2, x2), (0, x3), (0, x4), (0, x5), (0, ((x6 - r3) + 1)), (0, x7), (0, r2), (0, r3)]) (pc' := 145) (kX1_worth_1 17 rfl) rfl (Nat.le_of_ble_eq_true rfl) rfl g6 rfl ?_
            have g13 := h.1
            have h := h.2
            refine r_iinc (L' := [(2, 188), (2, x1), (2, x2), (0, x3), (0, x4), (0, x5), (0, ((x6 - r3) + 1)), (0, (x7 + 1)), (0, r2), (0, r3)]) (pc' := 148) (kX1_worth_1 18 rfl) rfl (Nat.le_of_ble_eq_true rfl) rfl g13 rfl ?_
            refine r_goto (pc' := 6) (kX1_worth_1 19 rfl) rfl ?_
            exact r_weak (L' := [(2, 188), (2, x1), (2, x2), (0, x3), (0, x4), (0, x5), (0, ((x6 - r3) + 1)), (0, (x7 + 1)), (9, 0), (9, 0)]) ⟨Or.inl rfl, Or.inl rfl, Or.inl rfl, Or.inl rfl, Or.inl rfl, Or.inl rfl, Or.inl rfl, Or.inl rfl, Or.inr (by decide), Or.inr (by decide), trivial⟩ (h Ln)
          · have h := h.2 c9
            refine r_aload_n (pc' := 90) (kX1_worth_0 47 rfl) rfl rfl ?_
            refine s_getr (v := 189) (pc' := 93) (kX1_worth_0 48 rfl) rfl fkX1_9 rfl rfl (kz188 Ln) rfl (by decide) ?_
            refine r_iload (pc' := 95) (kX1_worth_0 49 rfl) rfl rfl ?_
            refine r_aload_n (pc' := 96) (kX1_worth_0 50 rfl) rfl rfl ?_
            refine r_iload (pc' := 98) (kX1_worth_0 51 rfl) rfl rfl ?_
            refine r_aload_n (pc' := 99) (kX1_worth_0 52 rfl) rfl rfl ?_
            refine s_getr (v := 189) (pc' := 102) (kX1_worth_0 53 rfl) rfl fkX1_9 rfl rfl (kz188 Ln) rfl (by decide) ?_
            refine r_iload (pc' := 104) (kX1_worth_0 54 rfl) rfl rfl ?_
            have g14 := h.1
            have h := h.2
            refine s_iald (x := (α3 189 (x6 - r3))) (pc' := 105) (kX1_worth_0 55 rfl) rfl (kz189 Ln) g14 rfl ?_
            refine r_aload_n (pc' := 106) (kX1_worth_0 56 rfl) rfl rfl ?_
            refine r_iload_n (pc' := 107) (kX1_worth_0 57 rfl) rfl rfl ?_
            refine s_callV (As := [(0, r2), (0, (α3 189 (x6 - r3))), (2, x2), (0, x3)]) (o := 188) (S := [(0, (x6 - r3)), (2, 189)]) (S2 := fun z => [(0, z), (0, (x6 - r3)), (2, 189)]) (pc' := 110) (kX1_worth_0 58 rfl) rfl rfl nkX1_turn mlX1_36 imX1_turn rfl slX1_turn rfl (Nat.le_of_ble_eq_true rfl) (Nat.le_of_ble_eq_true rfl) (kz188 Ln) h (fun z => rfl) (fun r15 φ15 α15 h => ?_)
            refine s_iast (pc' := 111) (kX1_worth_0 59 rfl) rfl (kz189 Ln) g14 ?_
            refine r_goto (pc' := 142) (kX1_worth_1 0 rfl) rfl ?_
            refine r_iinc (L' := [(2, 188), (2, x1), (2, x2), (0, x3), (0, x4), (0, x5), (0, ((x6 - r3) + 1)), (0, x7), (0, r2), (0, r3)]) (pc' := 145) (kX1_worth_1 17 rfl) rfl (Nat.le_of_ble_eq_true rfl) rfl g6 rfl ?_
            have g16 := h.1
            have h := h.2
            refine r_iinc (L' := [(2, 188), (2, x1), (2, x2), (0, x3), (0, x4), (0, x5), (0, ((x6 - r3) + 1)), (0, (x7 + 1)), (0, r2), (0, r3)]) (pc' := 148) (kX1_worth_1 18 rfl) rfl (Nat.le_of_ble_eq_true rfl) rfl g16 rfl ?_
            refine r_goto (pc' := 6) (kX1_worth_1 19 rfl) rfl ?_
            exact r_weak (L' := [(2, 188), (2, x1), (2, x2), (0, x3), (0, x4), (0, x5), (0, ((x6 - r3) + 1)), (0, (x7 + 1)), (9, 0), (9, 0)]) ⟨Or.inl rfl, Or.inl rfl, Or.inl rfl, Or.inl rfl, Or.inl rfl, Or.inl rfl, Or.inl rfl, Or.inl rfl, Or.inr (by decide), Or.inr (by decide), trivial⟩ (h Ln)
        · have h := h.2 c8
          refine r_aload_n (pc' := 62) (kX1_worth_0 32 rfl) rfl rfl ?_
          refine s_getr (v := 189) (pc' := 65) (kX1_worth_0 33 rfl) rfl fkX1_9 rfl rfl (kz188 Ln) rfl (by decide) ?_
          refine r_iload (pc' := 67) (kX1_worth_0 34 rfl) rfl rfl ?_
          refine r_aload_n (pc' := 68) (kX1_worth_0 35 rfl) rfl rfl ?_
          refine r_iload (pc' := 70) (kX1_worth_0 36 rfl) rfl rfl ?_
          refine r_aload_n (pc' := 71) (kX1_worth_0 37 rfl) rfl rfl ?_
          refine r_iload_n (pc' := 72) (kX1_worth_0 38 rfl) rfl rfl ?_
          refine r_iload (pc' := 74) (kX1_worth_0 39 rfl) rfl rfl ?_
          refine r_iload (pc' := 76) (kX1_worth_0 40 rfl) rfl rfl ?_
          refine s_callV (As := [(0, r2), (2, x2), (0, x3), (0, x4), (0, x5)]) (o := 188) (S := [(0, (x6 - r3)), (2, 189)]) (S2 := fun z => [(0, z), (0, (x6 - r3)), (2, 189)]) (pc' := 79) (kX1_worth_0 41 rfl) rfl rfl nkX1_look mlX1_32 imX1_look rfl slX1_look rfl (Nat.le_of_ble_eq_true rfl) (Nat.le_of_ble_eq_true rfl) (kz188 Ln) h (fun z => rfl) (fun r17 φ17 α17 h => ?_)
          have g18 := h.1
          have h := h.2
          refine s_iast (pc' := 80) (kX1_worth_0 42 rfl) rfl (kz189 Ln) g18 ?_
          refine r_goto (pc' := 142) (kX1_worth_0 43 rfl) rfl ?_
          refine r_iinc (L' := [(2, 188), (2, x1), (2, x2), (0, x3), (0, x4), (0, x5), (0, ((x6 - r3) + 1)), (0, x7), (0, r2), (0, r3)]) (pc' := 145) (kX1_worth_1 17 rfl) rfl (Nat.le_of_ble_eq_true rfl) rfl g6 rfl ?_
          have g19 := h.1
          have h := h.2
          refine r_iinc (L' := [(2, 188), (2, x1), (2, x2), (0, x3), (0, x4), (0, x5), (0, ((x6 - r3) + 1)), (0, (x7 + 1)), (0, r2), (0, r3)]) (pc' := 148) (kX1_worth_1 18 rfl) rfl (Nat.le_of_ble_eq_true rfl) rfl g19 rfl ?_
          refine r_goto (pc' := 6) (kX1_worth_1 19 rfl) rfl ?_
          exact r_weak (L' := [(2, 188), (2, x1), (2, x2), (0, x3), (0, x4), (0, x5), (0, ((x6 - r3) + 1)), (0, (x7 + 1)), (9, 0), (9, 0)]) ⟨Or.inl rfl, Or.inl rfl, Or.inl rfl, Or.inl rfl, Or.inl rfl, Or.inl rfl, Or.inl rfl, Or.inl rfl, Or.inr (by decide), Or.inr (by decide), trivial⟩ (h Ln)
      · have h := h.2 c7
        refine r_iconst 0 (pc' := 55) (kX1_worth_0 28 rfl) rfl (by unfold inR; omega) ?_
        exact s_iret (kX1_worth_0 29 rfl) rfl h
theorem vX1_needsOf_0 {d : Nat} {φ : aF} {α : aA} {Q : Int → aF → aA → Prop} {x0 : Int} (h : ((x0 = 18 →
   (Q 2 φ α)) ∧
   ((x0 = 19 →
   (Q 2 φ α)) ∧
   ((x0 = 20 →
   (Q 1 φ α)) ∧
   ((x0 = 22 →
   (Q 2 φ α)) ∧
   ((x0 = 23 →
   (Q 2 φ α)) ∧
   ((x0 = 30 →
   (Q 1 φ α)) ∧
   ((x0 = 31 →
   (Q 1 φ α)) ∧
   ((x0 = 42 →
   (Q 2 φ α)) ∧
   ((x0 = 43 →
   (Q 2 φ α)) ∧
   ((x0 = 45 →
   (Q 2 φ α)) ∧
   ((x0 = 47 →
   (Q 2 φ α)) ∧
   ((x0 = 60 →
   (Q 2 φ α)) ∧
   ((x0 = 61 →
   (Q 2 φ α)) ∧
   ((x0 = 62 →
   (Q 2 φ α)) ∧
   ((¬ x0 = 18 ∧ ¬ x0 = 19 ∧ ¬ x0 = 20 ∧ ¬ x0 = 22 ∧ ¬ x0 = 23 ∧ ¬ x0 = 30 ∧ ¬ x0 = 31 ∧ ¬ x0 = 42 ∧ ¬ x0 = 43 ∧ ¬ x0 = 45 ∧ ¬ x0 = 47 ∧ ¬ x0 = 60 ∧ ¬ x0 = 61 ∧ ¬ x0 = 62) →
   (Q 0 φ α))))))))))))))))) : eX1_needsOf d x0 φ α Q := by
  intro Ln
  refine r_iload_n (pc' := 1) (kX1_needsOf_0 0 rfl) rfl rfl ?_
  have hD : (¬ x0 = 18 ∧ ¬ x0 = 19 ∧ ¬ x0 = 20 ∧ ¬ x0 = 22 ∧ ¬ x0 = 23 ∧ ¬ x0 = 30 ∧ ¬ x0 = 31 ∧ ¬ x0 = 42 ∧ ¬ x0 = 43 ∧ ¬ x0 = 45 ∧ ¬ x0 = 47 ∧ ¬ x0 = 60 ∧ ¬ x0 = 61 ∧ ¬ x0 = 62) → Rn d mX1_needsOf 200 [(0, x0)] [] (K0 Ln) (mix φ) (mixA α) (0, 0) (Q0 mX1_needsOf Ln Q) := by
    intro c0
    have h := h.2.2.2.2.2.2.2.2.2.2.2.2.2.2 c0
    refine r_iconst 0 (pc' := 201) (kX1_needsOf_0 6 rfl) rfl (by unfold inR; omega) ?_
    exact s_iret (kX1_needsOf_0 7 rfl) rfl h
  by_cases c1_0 : x0 = 18
  · have h := h.1 c1_0
    refine r_tabIn (pc' := 198) 18 c1_0 (kX1_needsOf_0 1 rfl) (by decide) (by decide) rfl rfl ?_
    refine r_iconst 2 (pc' := 199) (kX1_needsOf_0 4 rfl) rfl (by unfold inR; omega) ?_
    exact s_iret (kX1_needsOf_0 5 rfl) rfl h
  by_cases c1_1 : x0 = 19
  · have h := h.2.1 c1_1
    refine r_tabIn (pc' := 198) 19 c1_1 (kX1_needsOf_0 1 rfl) (by decide) (by decide) rfl rfl ?_
    refine r_iconst 2 (pc' := 199) (kX1_needsOf_0 4 rfl) rfl (by unfold inR; omega) ?_
    exact s_iret (kX1_needsOf_0 5 rfl) rfl h
  by_cases c1_2 : x0 = 20
  · have h := h.2.2.1 c1_2
    refine r_tabIn (pc' := 196) 20 c1_2 (kX1_needsOf_0 1 rfl) (by decide) (by decide) rfl rfl ?_
    refine r_iconst 1 (pc' := 197) (kX1_needsOf_0 2 rfl) rfl (by unfold inR; omega) ?_
    exact s_iret (kX1_needsOf_0 3 rfl) rfl h
  by_cases c1_3 : x0 = 22
  · have h := h.2.2.2.1 c1_3
    refine r_tabIn (pc' := 198) 22 c1_3 (kX1_needsOf_0 1 rfl) (by decide) (by decide) rfl rfl ?_
    refine r_iconst 2 (pc' := 199) (kX1_needsOf_0 4 rfl) rfl (by unfold inR; omega) ?_
    exact s_iret (kX1_needsOf_0 5 rfl) rfl h
  by_cases c1_4 : x0 = 23
  · have h := h.2.2.2.2.1 c1_4
    refine r_tabIn (pc' := 198) 23 c1_4 (kX1_needsOf_0 1 rfl) (by decide) (by decide) rfl rfl ?_
    refine r_iconst 2 (pc' := 199) (kX1_needsOf_0 4 rfl) rfl (by unfold inR; omega) ?_
    exact s_iret (kX1_needsOf_0 5 rfl) rfl h
  by_cases c1_5 : x0 = 30
  · have h := h.2.2.2.2.2.1 c1_5
    refine r_tabIn (pc' := 196) 30 c1_5 (kX1_needsOf_0 1 rfl) (by decide) (by decide) rfl rfl ?_
    refine r_iconst 1 (pc' := 197) (kX1_needsOf_0 2 rfl) rfl (by unfold inR; omega) ?_
    exact s_iret (kX1_needsOf_0 3 rfl) rfl h
  by_cases c1_6 : x0 = 31
  · have h := h.2.2.2.2.2.2.1 c1_6
    refine r_tabIn (pc' := 196) 31 c1_6 (kX1_needsOf_0 1 rfl) (by decide) (by decide) rfl rfl ?_
    refine r_iconst 1 (pc' := 197) (kX1_needsOf_0 2 rfl) rfl (by unfold inR; omega) ?_
    exact s_iret (kX1_needsOf_0 3 rfl) rfl h
  by_cases c1_7 : x0 = 42
  · have h := h.2.2.2.2.2.2.2.1 c1_7
    refine r_tabIn (pc' := 198) 42 c1_7 (kX1_needsOf_0 1 rfl) (by decide) (by decide) rfl rfl ?_
    refine r_iconst 2 (pc' := 199) (kX1_needsOf_0 4 rfl) rfl (by unfold inR; omega) ?_
    exact s_iret (kX1_needsOf_0 5 rfl) rfl h
  by_cases c1_8 : x0 = 43
  · have h := h.2.2.2.2.2.2.2.2.1 c1_8
    refine r_tabIn (pc' := 198) 43 c1_8 (kX1_needsOf_0 1 rfl) (by decide) (by decide) rfl rfl ?_
    refine r_iconst 2 (pc' := 199) (kX1_needsOf_0 4 rfl) rfl (by unfold inR; omega) ?_
    exact s_iret (kX1_needsOf_0 5 rfl) rfl h
  by_cases c1_9 : x0 = 45
  · have h := h.2.2.2.2.2.2.2.2.2.1 c1_9
    refine r_tabIn (pc' := 198) 45 c1_9 (kX1_needsOf_0 1 rfl) (by decide) (by decide) rfl rfl ?_
    refine r_iconst 2 (pc' := 199) (kX1_needsOf_0 4 rfl) rfl (by unfold inR; omega) ?_
    exact s_iret (kX1_needsOf_0 5 rfl) rfl h
  by_cases c1_10 : x0 = 47
  · have h := h.2.2.2.2.2.2.2.2.2.2.1 c1_10
    refine r_tabIn (pc' := 198) 47 c1_10 (kX1_needsOf_0 1 rfl) (by decide) (by decide) rfl rfl ?_
    refine r_iconst 2 (pc' := 199) (kX1_needsOf_0 4 rfl) rfl (by unfold inR; omega) ?_
    exact s_iret (kX1_needsOf_0 5 rfl) rfl h
  by_cases c1_11 : x0 = 60
  · have h := h.2.2.2.2.2.2.2.2.2.2.2.1 c1_11
    refine r_tabIn (pc' := 198) 60 c1_11 (kX1_needsOf_0 1 rfl) (by decide) (by decide) rfl rfl ?_
    refine r_iconst 2 (pc' := 199) (kX1_needsOf_0 4 rfl) rfl (by unfold inR; omega) ?_
    exact s_iret (kX1_needsOf_0 5 rfl) rfl h
  by_cases c1_12 : x0 = 61
  · have h := h.2.2.2.2.2.2.2.2.2.2.2.2.1 c1_12
    refine r_tabIn (pc' := 198) 61 c1_12 (kX1_needsOf_0 1 rfl) (by decide) (by decide) rfl rfl ?_
    refine r_iconst 2 (pc' := 199) (kX1_needsOf_0 4 rfl) rfl (by unfold inR; omega) ?_
    exact s_iret (kX1_needsOf_0 5 rfl) rfl h
  by_cases c1_13 : x0 = 62
  · have h := h.2.2.2.2.2.2.2.2.2.2.2.2.2.1 c1_13
    refine r_tabIn (pc' := 198) 62 c1_13 (kX1_needsOf_0 1 rfl) (by decide) (by decide) rfl rfl ?_
    refine r_iconst 2 (pc' := 199) (kX1_needsOf_0 4 rfl) rfl (by unfold inR; omega) ?_
    exact s_iret (kX1_needsOf_0 5 rfl) rfl h
  have hD := hD ⟨c1_0, c1_1, c1_2, c1_3, c1_4, c1_5, c1_6, c1_7, c1_8, c1_9, c1_10, c1_11, c1_12, c1_13⟩
  by_cases cd21 : x0 = 21
  · exact r_tabIn 21 cd21 (kX1_needsOf_0 1 rfl) (by decide) (by decide) rfl rfl hD
  by_cases cd24 : x0 = 24
  · exact r_tabIn 24 cd24 (kX1_needsOf_0 1 rfl) (by decide) (by decide) rfl rfl hD
  by_cases cd25 : x0 = 25
  · exact r_tabIn 25 cd25 (kX1_needsOf_0 1 rfl) (by decide) (by decide) rfl rfl hD
  by_cases cd26 : x0 = 26
  · exact r_tabIn 26 cd26 (kX1_needsOf_0 1 rfl) (by decide) (by decide) rfl rfl hD
  by_cases cd27 : x0 = 27
  · exact r_tabIn 27 cd27 (kX1_needsOf_0 1 rfl) (by decide) (by decide) rfl rfl hD
  by_cases cd28 : x0 = 28
  · exact r_tabIn 28 cd28 (kX1_needsOf_0 1 rfl) (by decide) (by decide) rfl rfl hD
  by_cases cd29 : x0 = 29
  · exact r_tabIn 29 cd29 (kX1_needsOf_0 1 rfl) (by decide) (by decide) rfl rfl hD
  by_cases cd32 : x0 = 32
  · exact r_tabIn 32 cd32 (kX1_needsOf_0 1 rfl) (by decide) (by decide) rfl rfl hD
  by_cases cd33 : x0 = 33
  · exact r_tabIn 33 cd33 (kX1_needsOf_0 1 rfl) (by decide) (by decide) rfl rfl hD
  by_cases cd34 : x0 = 34
  · exact r_tabIn 34 cd34 (kX1_needsOf_0 1 rfl) (by decide) (by decide) rfl rfl hD
  by_cases cd35 : x0 = 35
  · exact r_tabIn 35 cd35 (kX1_needsOf_0 1 rfl) (by decide) (by decide) rfl rfl hD
  by_cases cd36 : x0 = 36
  · exact r_tabIn 36 cd36 (kX1_needsOf_0 1 rfl) (by decide) (by decide) rfl rfl hD
  by_cases cd37 : x0 = 37
  · exact r_tabIn 37 cd37 (kX1_needsOf_0 1 rfl) (by decide) (by decide) rfl rfl hD
  by_cases cd38 : x0 = 38
  · exact r_tabIn 38 cd38 (kX1_needsOf_0 1 rfl) (by decide) (by decide) rfl rfl hD
  by_cases cd39 : x0 = 39
  · exact r_tabIn 39 cd39 (kX1_needsOf_0 1 rfl) (by decide) (by decide) rfl rfl hD
  by_cases cd40 : x0 = 40
  · exact r_tabIn 40 cd40 (kX1_needsOf_0 1 rfl) (by decide) (by decide) rfl rfl hD
  by_cases cd41 : x0 = 41
  · exact r_tabIn 41 cd41 (kX1_needsOf_0 1 rfl) (by decide) (by decide) rfl rfl hD
  by_cases cd44 : x0 = 44
  · exact r_tabIn 44 cd44 (kX1_needsOf_0 1 rfl) (by decide) (by decide) rfl rfl hD
  by_cases cd46 : x0 = 46
  · exact r_tabIn 46 cd46 (kX1_needsOf_0 1 rfl) (by decide) (by decide) rfl rfl hD
  by_cases cd48 : x0 = 48
  · exact r_tabIn 48 cd48 (kX1_needsOf_0 1 rfl) (by decide) (by decide) rfl rfl hD
  by_cases cd49 : x0 = 49
  · exact r_tabIn 49 cd49 (kX1_needsOf_0 1 rfl) (by decide) (by decide) rfl rfl hD
  by_cases cd50 : x0 = 50
  · exact r_tabIn 50 cd50 (kX1_needsOf_0 1 rfl) (by decide) (by decide) rfl rfl hD
  by_cases cd51 : x0 = 51
  · exact r_tabIn 51 cd51 (kX1_needsOf_0 1 rfl) (by decide) (by decide) rfl rfl hD
  by_cases cd52 : x0 = 52
  · exact r_tabIn 52 cd52 (kX1_needsOf_0 1 rfl) (by decide) (by decide) rfl rfl hD
  by_cases cd53 : x0 = 53
  · exact r_tabIn 53 cd53 (kX1_needsOf_0 1 rfl) (by decide) (by decide) rfl rfl hD
  by_cases cd54 : x0 = 54
  · exact r_tabIn 54 cd54 (kX1_needsOf_0 1 rfl) (by decide) (by decide) rfl rfl hD
  by_cases cd55 : x0 = 55
  · exact r_tabIn 55 cd55 (kX1_needsOf_0 1 rfl) (by decide) (by decide) rfl rfl hD
  by_cases cd56 : x0 = 56
  · exact r_tabIn 56 cd56 (kX1_needsOf_0 1 rfl) (by decide) (by decide) rfl rfl hD
  by_cases cd57 : x0 = 57
  · exact r_tabIn 57 cd57 (kX1_needsOf_0 1 rfl) (by decide) (by decide) rfl rfl hD
  by_cases cd58 : x0 = 58
  · exact r_tabIn 58 cd58 (kX1_needsOf_0 1 rfl) (by decide) (by decide) rfl rfl hD
  by_cases cd59 : x0 = 59
  · exact r_tabIn 59 cd59 (kX1_needsOf_0 1 rfl) (by decide) (by decide) rfl rfl hD
  exact r_tabOut (pc' := 200) (kX1_needsOf_0 1 rfl) (by omega) rfl hD
theorem vX1_look_0 {d : Nat} {φ : aF} {α : aA} {Q : Int → aF → aA → Prop} {x1 : Int} {x2 : Int} {x3 : Int} {x4 : Int} {x5 : Int} (hx2 : isSt x2) (h : ((x1 < 1000 →
   ((x3 < 0 →
     (Q 0 φ α)) ∧
     (¬ (x3 < 0) →
     ((7 ≤ x3 →
       (Q 0 φ α)) ∧
       (¬ (7 ≤ x3) →
       ((x4 < 0 →
         (Q 0 φ α)) ∧
         (¬ (x4 < 0) →
         ((x4 < 7 →
           ((x1 = 1 →
             (Q x5 φ α)) ∧
             ((x1 = 4 →
             (0 ≤ x3 ∧ x3 < (7 : Nat)) ∧ (Q (α 11 x3) φ α)) ∧
             ((x1 = 10 →
             (0 ≤ x3 ∧ x3 < (7 : Nat)) ∧ (Q (α (x2 + 4) x3) φ α)) ∧
             ((x1 = 11 →
             (0 ≤ x3 ∧ x3 < (7 : Nat)) ∧ (Q (α (x2 + 1) x3) φ α)) ∧
             ((x1 = 12 →
             (Q (φ 7 0 x2) φ α)) ∧
             ((x1 = 13 →
             (eX7_dropsOf d x2 x3 x5 φ α (fun r10 φ10 α10 =>
               (Q r10 φ10 α10)))) ∧
             ((x1 = 14 →
             (0 ≤ x4 ∧ x4 < (7 : Nat)) ∧ inR ((α 11 x4) - (α (x2 + 4) x4)) ∧ (Q ((α 11 x4) - (α (x2 + 4) x4)) φ α)) ∧
             ((x1 = 15 →
             (eX7_farOff d x2 x3 x4 φ α (fun r13 φ13 α13 =>
               (Q r13 φ13 α13)))) ∧
             ((x1 = 16 →
             (Q x3 φ α)) ∧
             ((x1 = 17 →
             (Q x5 φ α)) ∧
             ((¬ x1 = 1 ∧ ¬ x1 = 4 ∧ ¬ x1 = 10 ∧ ¬ x1 = 11 ∧ ¬ x1 = 12 ∧ ¬ x1 = 13 ∧ ¬ x1 = 14 ∧ ¬ x1 = 15 ∧ ¬ x1 = 16 ∧ ¬ x1 = 17) →
             (Q 1 φ α))))))))))))) ∧
           (¬ (x4 < 7) →
           (Q 0 φ α)))))))))) ∧
   (¬ (x1 < 1000) →
   inR (x1 - 1000) ∧ (Q (x1 - 1000) φ α)))) : eX1_look (d + 1) x1 x2 x3 x4 x5 φ α Q := by
  intro Ln
  refine r_iload_n (pc' := 1) (kX1_look_0 0 rfl) rfl rfl ?_
  refine r_sipush 1000 (pc' := 4) (kX1_look_0 1 rfl) rfl ⟨by unfold inR; omega, rfl⟩ ?_
  refine r_icmp_lt (t := 13) (pc' := 7) (kX1_look_0 2 rfl) rfl rfl (fun c1 => ?_) (fun c1 => ?_)
  · have h := h.1 c1
    refine r_iload_n (pc' := 14) (kX1_look_0 7 rfl) rfl rfl ?_
    refine r_if_lt (t := 35) (pc' := 17) (kX1_look_0 8 rfl) rfl rfl (fun c2 => ?_) (fun c2 => ?_)
    · have h := h.1 c2
      refine r_iconst 0 (pc' := 36) (kX1_look_0 17 rfl) rfl (by unfold inR; omega) ?_
      exact s_iret (kX1_look_0 18 rfl) rfl h
    · have h := h.2 c2
      refine r_iload_n (pc' := 18) (kX1_look_0 9 rfl) rfl rfl ?_
      refine r_bipush 7 (pc' := 20) (kX1_look_0 10 rfl) rfl ⟨by unfold inR; omega, rfl⟩ ?_
      refine r_icmp_ge (t := 35) (pc' := 23) (kX1_look_0 11 rfl) rfl rfl (fun c3 => ?_) (fun c3 => ?_)
      · have h := h.1 c3
        refine r_iconst 0 (pc' := 36) (kX1_look_0 17 rfl) rfl (by unfold inR; omega) ?_
        exact s_iret (kX1_look_0 18 rfl) rfl h
      · have h := h.2 c3
        refine r_iload (pc' := 25) (kX1_look_0 12 rfl) rfl rfl ?_
        refine r_if_lt (t := 35) (pc' := 28) (kX1_look_0 13 rfl) rfl rfl (fun c4 => ?_) (fun c4 => ?_)
        · have h := h.1 c4
          refine r_iconst 0 (pc' := 36) (kX1_look_0 17 rfl) rfl (by unfold inR; omega) ?_
          exact s_iret (kX1_look_0 18 rfl) rfl h
        · have h := h.2 c4
          refine r_iload (pc' := 30) (kX1_look_0 14 rfl) rfl rfl ?_
          refine r_bipush 7 (pc' := 32) (kX1_look_0 15 rfl) rfl ⟨by unfold inR; omega, rfl⟩ ?_
          refine r_icmp_lt (t := 37) (pc' := 35) (kX1_look_0 16 rfl) rfl rfl (fun c5 => ?_) (fun c5 => ?_)
          · have h := h.1 c5
            refine r_iload_n (pc' := 38) (kX1_look_0 19 rfl) rfl rfl ?_
            have hD : (¬ x1 = 1 ∧ ¬ x1 = 4 ∧ ¬ x1 = 10 ∧ ¬ x1 = 11 ∧ ¬ x1 = 12 ∧ ¬ x1 = 13 ∧ ¬ x1 = 14 ∧ ¬ x1 = 15 ∧ ¬ x1 = 16 ∧ ¬ x1 = 17) → Rn (d + 1) mX1_look 189 [(2, 188), (0, x1), (2, x2), (0, x3), (0, x4), (0, x5)] [] (K0 Ln) (mix φ) (mixA α) (0, 0) (Q0 mX1_look Ln Q) := by
              intro c0
              have h := h.2.2.2.2.2.2.2.2.2.2 c0
              refine r_iconst 1 (pc' := 190) (kX1_look_1 5 rfl) rfl (by unfold inR; omega) ?_
              exact s_iret (kX1_look_1 6 rfl) rfl h
            by_cases c6_0 : x1 = 1
            · have h := h.1 c6_0
              refine r_tabIn (pc' := 176) 1 c6_0 (kX1_look_0 20 rfl) (by decide) (by decide) rfl rfl ?_
              refine r_iload (pc' := 178) (kX1_look_0 56 rfl) rfl rfl ?_
              exact s_iret (kX1_look_0 57 rfl) rfl h
            by_cases c6_1 : x1 = 4
            · have h := h.2.1 c6_1
              refine r_tabIn (pc' := 127) 4 c6_1 (kX1_look_0 20 rfl) (by decide) (by decide) rfl rfl ?_
              refine r_aload_n (pc' := 128) (kX1_look_0 26 rfl) rfl rfl ?_
              refine s_getr (v := 9) (pc' := 131) (kX1_look_0 27 rfl) rfl fkX1_15 rfl rfl (kz188 Ln) rfl (by decide) ?_
              refine s_getr (v := 11) (pc' := 134) (kX1_look_0 28 rfl) rfl fkX1_49 rfl rfl (kz9 Ln) rfl (by decide) ?_
              refine r_iload_n (pc' := 135) (kX1_look_0 29 rfl) rfl rfl ?_
              have g7 := h.1
              have h := h.2
              refine s_iald (x := (α 11 x3)) (pc' := 136) (kX1_look_0 30 rfl) rfl (kz11 Ln) g7 rfl ?_
              exact s_iret (kX1_look_0 31 rfl) rfl h
            by_cases c6_2 : x1 = 10
            · have h := h.2.2.1 c6_2
              refine r_tabIn (pc' := 120) 10 c6_2 (kX1_look_0 20 rfl) (by decide) (by decide) rfl rfl ?_
              refine r_aload_n (pc' := 121) (kX1_look_0 21 rfl) rfl rfl ?_
              refine s_getr (v := (x2 + 4)) (pc' := 124) (kX1_look_0 22 rfl) rfl fkX1_44 rfl rfl (st0 hx2 Ln) rfl (by have := st_pos hx2; omega) ?_
              refine r_iload_n (pc' := 125) (kX1_look_0 23 rfl) rfl rfl ?_
              have g8 := h.1
              have h := h.2
              refine s_iald (x := (α (x2 + 4) x3)) (pc' := 126) (kX1_look_0 24 rfl) rfl ((st4 hx2) Ln) g8 rfl ?_
              exact s_iret (kX1_look_0 25 rfl) rfl h
            by_cases c6_3 : x1 = 11
            · have h := h.2.2.2.1 c6_3
              refine r_tabIn (pc' := 137) 11 c6_3 (kX1_look_0 20 rfl) (by decide) (by decide) rfl rfl ?_
              refine r_aload_n (pc' := 138) (kX1_look_0 32 rfl) rfl rfl ?_
              refine s_getr (v := (x2 + 1)) (pc' := 141) (kX1_look_0 33 rfl) rfl fkX1_54 rfl rfl (st0 hx2 Ln) rfl (by have := st_pos hx2; omega) ?_
              refine r_iload_n (pc' := 142) (kX1_look_0 34 rfl) rfl rfl ?_
              have g9 := h.1
              have h := h.2
              refine s_iald (x := (α (x2 + 1) x3)) (pc' := 143) (kX1_look_0 35 rfl) rfl ((st1 hx2) Ln) g9 rfl ?_
              exact s_iret (kX1_look_0 36 rfl) rfl h
            by_cases c6_4 : x1 = 12
            · have h := h.2.2.2.2.1 c6_4
              refine r_tabIn (pc' := 144) 12 c6_4 (kX1_look_0 20 rfl) (by decide) (by decide) rfl rfl ?_
              refine r_aload_n (pc' := 145) (kX1_look_0 37 rfl) rfl rfl ?_
              refine s_get (x := (φ 7 0 x2)) (pc' := 148) (kX1_look_0 38 rfl) rfl fkX1_57 rfl rfl rfl (st0 hx2 Ln) rfl ?_
              exact s_iret (kX1_look_0 39 rfl) rfl h
            by_cases c6_5 : x1 = 13
            · have h := h.2.2.2.2.2.1 c6_5
              refine r_tabIn (pc' := 149) 13 c6_5 (kX1_look_0 20 rfl) (by decide) (by decide) rfl rfl ?_
              refine r_aload_n (pc' := 150) (kX1_look_0 40 rfl) rfl rfl ?_
              refine r_iload_n (pc' := 151) (kX1_look_0 41 rfl) rfl rfl ?_
              refine r_iload (pc' := 153) (kX1_look_0 42 rfl) rfl rfl ?_
              refine s_callV (As := [(0, x3), (0, x5)]) (o := x2) (S := []) (S2 := fun z => [(0, z)]) (pc' := 156) (kX1_look_0 43 rfl) rfl rfl nkX7_dropsOf mlX1_60 imX7_dropsOf rfl slX7_dropsOf rfl (Nat.le_of_ble_eq_true rfl) (Nat.le_of_ble_eq_true rfl) (st0 hx2 Ln) h (fun z => rfl) (fun r10 φ10 α10 h => ?_)
              exact s_iret (kX1_look_0 44 rfl) rfl h
            by_cases c6_6 : x1 = 14
            · have h := h.2.2.2.2.2.2.1 c6_6
              refine r_tabIn (pc' := 157) 14 c6_6 (kX1_look_0 20 rfl) (by decide) (by decide) rfl rfl ?_
              refine r_aload_n (pc' := 158) (kX1_look_0 45 rfl) rfl rfl ?_
              refine s_getr (v := 9) (pc' := 161) (kX1_look_0 46 rfl) rfl fkX1_15 rfl rfl (kz188 Ln) rfl (by decide) ?_
              refine s_getr (v := 11) (pc' := 164) (kX1_look_0 47 rfl) rfl fkX1_49 rfl rfl (kz9 Ln) rfl (by decide) ?_
              refine r_iload (pc' := 166) (kX1_look_0 48 rfl) rfl rfl ?_
              have g11 := h.1
              have h := h.2
              refine s_iald (x := (α 11 x4)) (pc' := 167) (kX1_look_0 49 rfl) rfl (kz11 Ln) g11 rfl ?_
              refine r_aload_n (pc' := 168) (kX1_look_0 50 rfl) rfl rfl ?_
              refine s_getr (v := (x2 + 4)) (pc' := 171) (kX1_look_0 51 rfl) rfl fkX1_44 rfl rfl (st0 hx2 Ln) rfl (by have := st_pos hx2; omega) ?_
              refine r_iload (pc' := 173) (kX1_look_0 52 rfl) rfl rfl ?_
              refine s_iald (x := (α (x2 + 4) x4)) (pc' := 174) (kX1_look_0 53 rfl) rfl ((st4 hx2) Ln) g11 rfl ?_
              have g12 := h.1
              have h := h.2
              refine r_isub (pc' := 175) (kX1_look_0 54 rfl) rfl g12 ?_
              exact s_iret (kX1_look_0 55 rfl) rfl h
            by_cases c6_7 : x1 = 15
            · have h := h.2.2.2.2.2.2.2.1 c6_7
              refine r_tabIn (pc' := 179) 15 c6_7 (kX1_look_0 20 rfl) (by decide) (by decide) rfl rfl ?_
              refine r_aload_n (pc' := 180) (kX1_look_0 58 rfl) rfl rfl ?_
              refine r_iload_n (pc' := 181) (kX1_look_0 59 rfl) rfl rfl ?_
              refine r_iload (pc' := 183) (kX1_look_1 0 rfl) rfl rfl ?_
              refine s_callV (As := [(0, x3), (0, x4)]) (o := x2) (S := []) (S2 := fun z => [(0, z)]) (pc' := 186) (kX1_look_1 1 rfl) rfl rfl nkX7_farOff mlX1_64 imX7_farOff rfl slX7_farOff rfl (Nat.le_of_ble_eq_true rfl) (Nat.le_of_ble_eq_true rfl) (st0 hx2 Ln) h (fun z => rfl) (fun r13 φ13 α13 h => ?_)
              exact s_iret (kX1_look_1 2 rfl) rfl h
            by_cases c6_8 : x1 = 16
            · have h := h.2.2.2.2.2.2.2.2.1 c6_8
              refine r_tabIn (pc' := 187) 16 c6_8 (kX1_look_0 20 rfl) (by decide) (by decide) rfl rfl ?_
              refine r_iload_n (pc' := 188) (kX1_look_1 3 rfl) rfl rfl ?_
              exact s_iret (kX1_look_1 4 rfl) rfl h
            by_cases c6_9 : x1 = 17
            · have h := h.2.2.2.2.2.2.2.2.2.1 c6_9
              refine r_tabIn (pc' := 176) 17 c6_9 (kX1_look_0 20 rfl) (by decide) (by decide) rfl rfl ?_
              refine r_iload (pc' := 178) (kX1_look_0 56 rfl) rfl rfl ?_
              exact s_iret (kX1_look_0 57 rfl) rfl h
            have hD := hD ⟨c6_0, c6_1, c6_2, c6_3, c6_4, c6_5, c6_6, c6_7, c6_8, c6_9⟩
            by_cases cd2 : x1 = 2
            · exact r_tabIn 2 cd2 (kX1_look_0 20 rfl) (by decide) (by decide) rfl rfl hD
            by_cases cd3 : x1 = 3
            · exact r_tabIn 3 cd3 (kX1_look_0 20 rfl) (by decide) (by decide) rfl rfl hD
            by_cases cd5 : x1 = 5
            · exact r_tabIn 5 cd5 (kX1_look_0 20 rfl) (by decide) (by decide) rfl rfl hD
            by_cases cd6 : x1 = 6
            · exact r_tabIn 6 cd6 (kX1_look_0 20 rfl) (by decide) (by decide) rfl rfl hD
            by_cases cd7 : x1 = 7
            · exact r_tabIn 7 cd7 (kX1_look_0 20 rfl) (by decide) (by decide) rfl rfl hD
            by_cases cd8 : x1 = 8
            · exact r_tabIn 8 cd8 (kX1_look_0 20 rfl) (by decide) (by decide) rfl rfl hD
            by_cases cd9 : x1 = 9
            · exact r_tabIn 9 cd9 (kX1_look_0 20 rfl) (by decide) (by decide) rfl rfl hD
            exact r_tabOut (pc' := 189) (kX1_look_0 20 rfl) (by omega) rfl hD
          · have h := h.2 c5
            refine r_iconst 0 (pc' := 36) (kX1_look_0 17 rfl) rfl (by unfold inR; omega) ?_
            exact s_iret (kX1_look_0 18 rfl) rfl h
  · have h := h.2 c1
    refine r_iload_n (pc' := 8) (kX1_look_0 3 rfl) rfl rfl ?_
    refine r_sipush 1000 (pc' := 11) (kX1_look_0 4 rfl) rfl ⟨by unfold inR; omega, rfl⟩ ?_
    have g14 := h.1
    have h := h.2
    refine r_isub (pc' := 12) (kX1_look_0 5 rfl) rfl g14 ?_
    exact s_iret (kX1_look_0 6 rfl) rfl h
theorem vX1_turn_0 {d : Nat} {φ : aF} {α : aA} {Q : Int → aF → aA → Prop} {x1 : Int} {x2 : Int} {x3 : Int} {x4 : Int} (hx3 : isSt x3) (h : ((x1 = 30 →
   (eX2_isMatter d 9 x2 φ α (fun r3 φ3 α3 =>
     ((r3 = 0 →
     (Q 0 φ3 α3)) ∧
     (¬ (r3 = 0) →
     (eX7_dropsOf d x3 x4 x2 φ3 α3 (fun r5 φ5 α5 =>
       (Q r5 φ5 α5)))))))) ∧
   ((x1 = 31 →
   (eX2_isClerk d 9 x2 φ α (fun r6 φ6 α6 =>
     ((r6 = 0 →
     (Q 0 φ6 α6)) ∧
     (¬ (r6 = 0) →
     (eX7_farOff d x3 x4 x2 φ6 α6 (fun r8 φ8 α8 =>
       (Q r8 φ8 α8)))))))) ∧
   ((¬ x1 = 30 ∧ ¬ x1 = 31) →
   inR (1 - x2) ∧ (Q (1 - x2) φ α))))) : eX1_turn (d + 1) x1 x2 x3 x4 φ α Q := by
  intro Ln
  refine r_iload_n (pc' := 1) (kX1_turn_0 0 rfl) rfl rfl ?_
  have hD : (¬ x1 = 30 ∧ ¬ x1 = 31) → Rn (d + 1) mX1_turn 74 [(2, 188), (0, x1), (0, x2), (2, x3), (0, x4)] [] (K0 Ln) (mix φ) (mixA α) (0, 0) (Q0 mX1_turn Ln Q) := by
    intro c0
    have h := h.2.2 c0
    refine r_iconst 1 (pc' := 75) (kX1_turn_0 26 rfl) rfl (by unfold inR; omega) ?_
    refine r_iload_n (pc' := 76) (kX1_turn_0 27 rfl) rfl rfl ?_
    have g2 := h.1
    have h := h.2
    refine r_isub (pc' := 77) (kX1_turn_0 28 rfl) rfl g2 ?_
    exact s_iret (kX1_turn_0 29 rfl) rfl h
  by_cases c1_0 : x1 = 30
  · have h := h.1 c1_0
    refine r_lookup (pc' := 28) (kX1_turn_0 1 rfl) rfl (by rw [c1_0]; try rfl) rfl ?_
    refine r_aload_n (pc' := 29) (kX1_turn_0 2 rfl) rfl rfl ?_
    refine s_getr (v := 9) (pc' := 32) (kX1_turn_0 3 rfl) rfl fkX1_15 rfl rfl (kz188 Ln) rfl (by decide) ?_
    refine r_iload_n (pc' := 33) (kX1_turn_0 4 rfl) rfl rfl ?_
    refine s_callV (As := [(0, x2)]) (o := 9) (S := []) (S2 := fun z => [(0, z)]) (pc' := 36) (kX1_turn_0 5 rfl) rfl rfl nkX2_isMatter mlX1_67 imX2_isMatter rfl slX2_isMatter rfl (Nat.le_of_ble_eq_true rfl) (Nat.le_of_ble_eq_true rfl) (kz9 Ln) h (fun z => rfl) (fun r3 φ3 α3 h => ?_)
    refine r_if_eq (t := 49) (pc' := 39) (kX1_turn_0 6 rfl) rfl rfl (fun c4 => ?_) (fun c4 => ?_)
    · have h := h.1 c4
      refine r_iconst 0 (pc' := 50) (kX1_turn_0 12 rfl) rfl (by unfold inR; omega) ?_
      exact s_iret (kX1_turn_0 13 rfl) rfl h
    · have h := h.2 c4
      refine r_aload_n (pc' := 40) (kX1_turn_0 7 rfl) rfl rfl ?_
      refine r_iload (pc' := 42) (kX1_turn_0 8 rfl) rfl rfl ?_
      refine r_iload_n (pc' := 43) (kX1_turn_0 9 rfl) rfl rfl ?_
      refine s_callV (As := [(0, x4), (0, x2)]) (o := x3) (S := []) (S2 := fun z => [(0, z)]) (pc' := 46) (kX1_turn_0 10 rfl) rfl rfl nkX7_dropsOf mlX1_60 imX7_dropsOf rfl slX7_dropsOf rfl (Nat.le_of_ble_eq_true rfl) (Nat.le_of_ble_eq_true rfl) (st0 hx3 Ln) h (fun z => rfl) (fun r5 φ5 α5 h => ?_)
      refine r_goto (pc' := 50) (kX1_turn_0 11 rfl) rfl ?_
      exact s_iret (kX1_turn_0 13 rfl) rfl h
  by_cases c1_1 : x1 = 31
  · have h := h.2.1 c1_1
    refine r_lookup (pc' := 51) (kX1_turn_0 1 rfl) rfl (by rw [c1_1]; try rfl) rfl ?_
    refine r_aload_n (pc' := 52) (kX1_turn_0 14 rfl) rfl rfl ?_
    refine s_getr (v := 9) (pc' := 55) (kX1_turn_0 15 rfl) rfl fkX1_15 rfl rfl (kz188 Ln) rfl (by decide) ?_
    refine r_iload_n (pc' := 56) (kX1_turn_0 16 rfl) rfl rfl ?_
    refine s_callV (As := [(0, x2)]) (o := 9) (S := []) (S2 := fun z => [(0, z)]) (pc' := 59) (kX1_turn_0 17 rfl) rfl rfl nkX2_isClerk mlX1_71 imX2_isClerk rfl slX2_isClerk rfl (Nat.le_of_ble_eq_true rfl) (Nat.le_of_ble_eq_true rfl) (kz9 Ln) h (fun z => rfl) (fun r6 φ6 α6 h => ?_)
    refine r_if_eq (t := 72) (pc' := 62) (kX1_turn_0 18 rfl) rfl rfl (fun c7 => ?_) (fun c7 => ?_)
    · have h := h.1 c7
      refine r_iconst 0 (pc' := 73) (kX1_turn_0 24 rfl) rfl (by unfold inR; omega) ?_
      exact s_iret (kX1_turn_0 25 rfl) rfl h
    · have h := h.2 c7
      refine r_aload_n (pc' := 63) (kX1_turn_0 19 rfl) rfl rfl ?_
      refine r_iload (pc' := 65) (kX1_turn_0 20 rfl) rfl rfl ?_
      refine r_iload_n (pc' := 66) (kX1_turn_0 21 rfl) rfl rfl ?_
      refine s_callV (As := [(0, x4), (0, x2)]) (o := x3) (S := []) (S2 := fun z => [(0, z)]) (pc' := 69) (kX1_turn_0 22 rfl) rfl rfl nkX7_farOff mlX1_64 imX7_farOff rfl slX7_farOff rfl (Nat.le_of_ble_eq_true rfl) (Nat.le_of_ble_eq_true rfl) (st0 hx3 Ln) h (fun z => rfl) (fun r8 φ8 α8 h => ?_)
      refine r_goto (pc' := 73) (kX1_turn_0 23 rfl) rfl ?_
      exact s_iret (kX1_turn_0 25 rfl) rfl h
  have hD := hD ⟨c1_0, c1_1⟩
  exact r_lookup (pc' := 74) (kX1_turn_0 1 rfl) rfl ((off_ne c1_0).trans ((off_ne c1_1).trans rfl)) rfl hD
theorem vX1_join_0 {d : Nat} {φ : aF} {α : aA} {Q : Int → aF → aA → Prop} {x0 : Int} {x1 : Int} {x2 : Int} (h : ((x0 = 18 →
   (Q (iOr x1 x2) φ α)) ∧
   ((x0 = 19 →
   (Q (iAnd x1 x2) φ α)) ∧
   ((x0 = 22 →
   (eJ9_min_7cf53 d x1 x2 φ α (fun r3 φ3 α3 =>
     (Q r3 φ3 α3)))) ∧
   ((x0 = 42 →
   inJ (x1 * x2) ∧ (eJ9_min_f86c9 d 1000000 (x1 * x2) φ α (fun r5 φ5 α5 =>
     (eJ9_max_f86c9 d (-1000000) r5 φ5 α5 (fun r6 φ6 α6 =>
     inR r6 ∧ (Q r6 φ6 α6)))))) ∧
   ((x0 = 43 →
   inR (x1 + x2) ∧ (eJ9_min_7cf53 d 1000000 (x1 + x2) φ α (fun r9 φ9 α9 =>
     (eJ9_max_7cf53 d (-1000000) r9 φ9 α9 (fun r10 φ10 α10 =>
     (Q r10 φ10 α10)))))) ∧
   ((x0 = 45 →
   inR (x1 - x2) ∧ (eJ9_min_7cf53 d 1000000 (x1 - x2) φ α (fun r12 φ12 α12 =>
     (eJ9_max_7cf53 d (-1000000) r12 φ12 α12 (fun r13 φ13 α13 =>
     (Q r13 φ13 α13)))))) ∧
   ((x0 = 47 →
   ((¬ x2 = 0 →
     (eJ9_floorDiv_7cf53 d x1 x2 φ α (fun r15 φ15 α15 =>
       (Q r15 φ15 α15)))) ∧
     (x2 = 0 →
     (Q 0 φ α)))) ∧
   ((x0 = 60 →
   ((x2 ≤ x1 →
     (Q 0 φ α)) ∧
     (¬ (x2 ≤ x1) →
     (Q 1 φ α)))) ∧
   ((x0 = 61 →
   ((¬ x1 = x2 →
     (Q 0 φ α)) ∧
     (x1 = x2 →
     (Q 1 φ α)))) ∧
   ((x0 = 62 →
   ((x1 ≤ x2 →
     (Q 0 φ α)) ∧
     (¬ (x1 ≤ x2) →
     (Q 1 φ α)))) ∧
   ((¬ x0 = 18 ∧ ¬ x0 = 19 ∧ ¬ x0 = 22 ∧ ¬ x0 = 42 ∧ ¬ x0 = 43 ∧ ¬ x0 = 45 ∧ ¬ x0 = 47 ∧ ¬ x0 = 60 ∧ ¬ x0 = 61 ∧ ¬ x0 = 62) →
   (eJ9_max_7cf53 d x1 x2 φ α (fun r2 φ2 α2 =>
     (Q r2 φ2 α2))))))))))))))) : eX1_join (d + 1) x0 x1 x2 φ α Q := by
  intro Ln
  refine r_iload_n (pc' := 1) (kX1_join_0 0 rfl) rfl rfl ?_
  have hD : (¬ x0 = 18 ∧ ¬ x0 = 19 ∧ ¬ x0 = 22 ∧ ¬ x0 = 42 ∧ ¬ x0 = 43 ∧ ¬ x0 = 45 ∧ ¬ x0 = 47 ∧ ¬ x0 = 60 ∧ ¬ x0 = 61 ∧ ¬ x0 = 62) → Rn (d + 1) mX1_join 200 [(0, x0), (0, x1), (0, x2)] [] (K0 Ln) (mix φ) (mixA α) (0, 0) (Q0 mX1_join Ln Q) := by
    intro c0
    have h := h.2.2.2.2.2.2.2.2.2.2 c0
    refine r_iload_n (pc' := 201) (kX1_join_1 10 rfl) rfl rfl ?_
    refine r_iload_n (pc' := 202) (kX1_join_1 11 rfl) rfl rfl ?_
    refine s_callS (As := [(0, x1), (0, x2)]) (S := []) (S2 := fun z => [(0, z)]) (pc' := 205) (kX1_join_1 12 rfl) rfl rfl nkJ9_max_7cf53 mlX1_81 scJ9_max_7cf53 rfl (Nat.le_of_ble_eq_true rfl) (Nat.le_of_ble_eq_true rfl) h (fun z => rfl) (fun r2 φ2 α2 h => ?_)
    exact s_iret (kX1_join_1 13 rfl) rfl h
  by_cases c1_0 : x0 = 18
  · have h := h.1 c1_0
    refine r_lookup (pc' := 190) (kX1_join_0 1 rfl) rfl (by rw [c1_0]; try rfl) rfl ?_
    refine r_iload_n (pc' := 191) (kX1_join_1 2 rfl) rfl rfl ?_
    refine r_iload_n (pc' := 192) (kX1_join_1 3 rfl) rfl rfl ?_
    refine r_ior (pc' := 193) (kX1_join_1 4 rfl) rfl ?_
    exact s_iret (kX1_join_1 5 rfl) rfl h
  by_cases c1_1 : x0 = 19
  · have h := h.2.1 c1_1
    refine r_lookup (pc' := 186) (kX1_join_0 1 rfl) rfl (by rw [c1_1]; try rfl) rfl ?_
    refine r_iload_n (pc' := 187) (kX1_join_0 58 rfl) rfl rfl ?_
    refine r_iload_n (pc' := 188) (kX1_join_0 59 rfl) rfl rfl ?_
    refine r_iand (pc' := 189) (kX1_join_1 0 rfl) rfl ?_
    exact s_iret (kX1_join_1 1 rfl) rfl h
  by_cases c1_2 : x0 = 22
  · have h := h.2.2.1 c1_2
    refine r_lookup (pc' := 194) (kX1_join_0 1 rfl) rfl (by rw [c1_2]; try rfl) rfl ?_
    refine r_iload_n (pc' := 195) (kX1_join_1 6 rfl) rfl rfl ?_
    refine r_iload_n (pc' := 196) (kX1_join_1 7 rfl) rfl rfl ?_
    refine s_callS (As := [(0, x1), (0, x2)]) (S := []) (S2 := fun z => [(0, z)]) (pc' := 199) (kX1_join_1 8 rfl) rfl rfl nkJ9_min_7cf53 mlX1_76 scJ9_min_7cf53 rfl (Nat.le_of_ble_eq_true rfl) (Nat.le_of_ble_eq_true rfl) h (fun z => rfl) (fun r3 φ3 α3 h => ?_)
    exact s_iret (kX1_join_1 9 rfl) rfl h
  by_cases c1_3 : x0 = 42
  · have h := h.2.2.2.1 c1_3
    refine r_lookup (pc' := 120) (kX1_join_0 1 rfl) rfl (by rw [c1_3]; try rfl) rfl ?_
    refine r_ldc2 (-1000000) (pc' := 123) (kX1_join_0 18 rfl) rfl kcX1_84 (by unfold inJ; omega) ?_
    refine r_ldc2 1000000 (pc' := 126) (kX1_join_0 19 rfl) rfl kcX1_86 (by unfold inJ; omega) ?_
    refine r_iload_n (pc' := 127) (kX1_join_0 20 rfl) rfl rfl ?_
    refine r_i2l (pc' := 128) (kX1_join_0 21 rfl) rfl ?_
    refine r_iload_n (pc' := 129) (kX1_join_0 22 rfl) rfl rfl ?_
    refine r_i2l (pc' := 130) (kX1_join_0 23 rfl) rfl ?_
    have g4 := h.1
    have h := h.2
    refine r_lmul (pc' := 131) (kX1_join_0 24 rfl) rfl g4 ?_
    refine s_callS (As := [(1, 1000000), (1, (x1 * x2))]) (S := [(1, (-1000000))]) (S2 := fun z => [(1, z), (1, (-1000000))]) (pc' := 134) (kX1_join_0 25 rfl) rfl rfl nkJ9_min_f86c9 mlX1_88 scJ9_min_f86c9 rfl (Nat.le_of_ble_eq_true rfl) (Nat.le_of_ble_eq_true rfl) h (fun z => rfl) (fun r5 φ5 α5 h => ?_)
    refine s_callS (As := [(1, (-1000000)), (1, r5)]) (S := []) (S2 := fun z => [(1, z)]) (pc' := 137) (kX1_join_0 26 rfl) rfl rfl nkJ9_max_f86c9 mlX1_91 scJ9_max_f86c9 rfl (Nat.le_of_ble_eq_true rfl) (Nat.le_of_ble_eq_true rfl) h (fun z => rfl) (fun r6 φ6 α6 h => ?_)
    have g7 := h.1
    have h := h.2
    refine r_l2i (pc' := 138) (kX1_join_0 27 rfl) rfl g7 ?_
    exact s_iret (kX1_join_0 28 rfl) rfl h
  by_cases c1_4 : x0 = 43
  · have h := h.2.2.2.2.1 c1_4
    refine r_lookup (pc' := 92) (kX1_join_0 1 rfl) rfl (by rw [c1_4]; try rfl) rfl ?_
    refine r_ldc (-1000000) (pc' := 94) (kX1_join_0 2 rfl) rfl kcX1_74 (by unfold inR; omega) ?_
    refine r_ldc 1000000 (pc' := 96) (kX1_join_0 3 rfl) rfl kcX1_75 (by unfold inR; omega) ?_
    refine r_iload_n (pc' := 97) (kX1_join_0 4 rfl) rfl rfl ?_
    refine r_iload_n (pc' := 98) (kX1_join_0 5 rfl) rfl rfl ?_
    have g8 := h.1
    have h := h.2
    refine r_iadd (pc' := 99) (kX1_join_0 6 rfl) rfl g8 ?_
    refine s_callS (As := [(0, 1000000), (0, (x1 + x2))]) (S := [(0, (-1000000))]) (S2 := fun z => [(0, z), (0, (-1000000))]) (pc' := 102) (kX1_join_0 7 rfl) rfl rfl nkJ9_min_7cf53 mlX1_76 scJ9_min_7cf53 rfl (Nat.le_of_ble_eq_true rfl) (Nat.le_of_ble_eq_true rfl) h (fun z => rfl) (fun r9 φ9 α9 h => ?_)
    refine s_callS (As := [(0, (-1000000)), (0, r9)]) (S := []) (S2 := fun z => [(0, z)]) (pc' := 105) (kX1_join_0 8 rfl) rfl rfl nkJ9_max_7cf53 mlX1_81 scJ9_max_7cf53 rfl (Nat.le_of_ble_eq_true rfl) (Nat.le_of_ble_eq_true rfl) h (fun z => rfl) (fun r10 φ10 α10 h => ?_)
    exact s_iret (kX1_join_0 9 rfl) rfl h
  by_cases c1_5 : x0 = 45
  · have h := h.2.2.2.2.2.1 c1_5
    refine r_lookup (pc' := 106) (kX1_join_0 1 rfl) rfl (by rw [c1_5]; try rfl) rfl ?_
    refine r_ldc (-1000000) (pc' := 108) (kX1_join_0 10 rfl) rfl kcX1_74 (by unfold inR; omega) ?_
    refine r_ldc 1000000 (pc' := 110) (kX1_join_0 11 rfl) rfl kcX1_75 (by unfold inR; omega) ?_
    refine r_iload_n (pc' := 111) (kX1_join_0 12 rfl) rfl rfl ?_
    refine r_iload_n (pc' := 112) (kX1_join_0 13 rfl) rfl rfl ?_
    have g11 := h.1
    have h := h.2
    refine r_isub (pc' := 113) (kX1_join_0 14 rfl) rfl g11 ?_
    refine s_callS (As := [(0, 1000000), (0, (x1 - x2))]) (S := [(0, (-1000000))]) (S2 := fun z => [(0, z), (0, (-1000000))]) (pc' := 116) (kX1_join_0 15 rfl) rfl rfl nkJ9_min_7cf53 mlX1_76 scJ9_min_7cf53 rfl (Nat.le_of_ble_eq_true rfl) (Nat.le_of_ble_eq_true rfl) h (fun z => rfl) (fun r12 φ12 α12 h => ?_)
    refine s_callS (As := [(0, (-1000000)), (0, r12)]) (S := []) (S2 := fun z => [(0, z)]) (pc' := 119) (kX1_join_0 16 rfl) rfl rfl nkJ9_max_7cf53 mlX1_81 scJ9_max_7cf53 rfl (Nat.le_of_ble_eq_true rfl) (Nat.le_of_ble_eq_true rfl) h (fun z => rfl) (fun r13 φ13 α13 h => ?_)
    exact s_iret (kX1_join_0 17 rfl) rfl h
  by_cases c1_6 : x0 = 47
  · have h := h.2.2.2.2.2.2.1 c1_6
    refine r_lookup (pc' := 139) (kX1_join_0 1 rfl) rfl (by rw [c1_6]; try rfl) rfl ?_
    refine r_iload_n (pc' := 140) (kX1_join_0 29 rfl) rfl rfl ?_
    refine r_if_ne (t := 147) (pc' := 143) (kX1_join_0 30 rfl) rfl rfl (fun c14 => ?_) (fun c14 => ?_)
    · have h := h.1 c14
      refine r_iload_n (pc' := 148) (kX1_join_0 33 rfl) rfl rfl ?_
      refine r_iload_n (pc' := 149) (kX1_join_0 34 rfl) rfl rfl ?_
      refine s_callS (As := [(0, x1), (0, x2)]) (S := []) (S2 := fun z => [(0, z)]) (pc' := 152) (kX1_join_0 35 rfl) rfl rfl nkJ9_floorDiv_7cf53 mlX1_93 scJ9_floorDiv_7cf53 rfl (Nat.le_of_ble_eq_true rfl) (Nat.le_of_ble_eq_true rfl) h (fun z => rfl) (fun r15 φ15 α15 h => ?_)
      exact s_iret (kX1_join_0 36 rfl) rfl h
    · have h := h.2 c14
      refine r_iconst 0 (pc' := 144) (kX1_join_0 31 rfl) rfl (by unfold inR; omega) ?_
      refine r_goto (pc' := 152) (kX1_join_0 32 rfl) rfl ?_
      exact s_iret (kX1_join_0 36 rfl) rfl h
  by_cases c1_7 : x0 = 60
  · have h := h.2.2.2.2.2.2.2.1 c1_7
    refine r_lookup (pc' := 153) (kX1_join_0 1 rfl) rfl (by rw [c1_7]; try rfl) rfl ?_
    refine r_iload_n (pc' := 154) (kX1_join_0 37 rfl) rfl rfl ?_
    refine r_iload_n (pc' := 155) (kX1_join_0 38 rfl) rfl rfl ?_
    refine r_icmp_ge (t := 162) (pc' := 158) (kX1_join_0 39 rfl) rfl rfl (fun c16 => ?_) (fun c16 => ?_)
    · have h := h.1 c16
      refine r_iconst 0 (pc' := 163) (kX1_join_0 42 rfl) rfl (by unfold inR; omega) ?_
      exact s_iret (kX1_join_0 43 rfl) rfl h
    · have h := h.2 c16
      refine r_iconst 1 (pc' := 159) (kX1_join_0 40 rfl) rfl (by unfold inR; omega) ?_
      refine r_goto (pc' := 163) (kX1_join_0 41 rfl) rfl ?_
      exact s_iret (kX1_join_0 43 rfl) rfl h
  by_cases c1_8 : x0 = 61
  · have h := h.2.2.2.2.2.2.2.2.1 c1_8
    refine r_lookup (pc' := 175) (kX1_join_0 1 rfl) rfl (by rw [c1_8]; try rfl) rfl ?_
    refine r_iload_n (pc' := 176) (kX1_join_0 51 rfl) rfl rfl ?_
    refine r_iload_n (pc' := 177) (kX1_join_0 52 rfl) rfl rfl ?_
    refine r_icmp_ne (t := 184) (pc' := 180) (kX1_join_0 53 rfl) rfl rfl (fun c17 => ?_) (fun c17 => ?_)
    · have h := h.1 c17
      refine r_iconst 0 (pc' := 185) (kX1_join_0 56 rfl) rfl (by unfold inR; omega) ?_
      exact s_iret (kX1_join_0 57 rfl) rfl h
    · have h := h.2 c17
      refine r_iconst 1 (pc' := 181) (kX1_join_0 54 rfl) rfl (by unfold inR; omega) ?_
      refine r_goto (pc' := 185) (kX1_join_0 55 rfl) rfl ?_
      exact s_iret (kX1_join_0 57 rfl) rfl h
  by_cases c1_9 : x0 = 62
  · have h := h.2.2.2.2.2.2.2.2.2.1 c1_9
    refine r_lookup (pc' := 164) (kX1_join_0 1 rfl) rfl (by rw [c1_9]; try rfl) rfl ?_
    refine r_iload_n (pc' := 165) (kX1_join_0 44 rfl) rfl rfl ?_
    refine r_iload_n (pc' := 166) (kX1_join_0 45 rfl) rfl rfl ?_
    refine r_icmp_le (t := 173) (pc' := 169) (kX1_join_0 46 rfl) rfl rfl (fun c18 => ?_) (fun c18 => ?_)
    · have h := h.1 c18
      refine r_iconst 0 (pc' := 174) (kX1_join_0 49 rfl) rfl (by unfold inR; omega) ?_
      exact s_iret (kX1_join_0 50 rfl) rfl h
    · have h := h.2 c18
      refine r_iconst 1 (pc' := 170) (kX1_join_0 47 rfl) rfl (by unfold inR; omega) ?_
      refine r_goto (pc' := 174) (kX1_join_0 48 rfl) rfl ?_
      exact s_iret (kX1_join_0 50 rfl) rfl h
  have hD := hD ⟨c1_0, c1_1, c1_2, c1_3, c1_4, c1_5, c1_6, c1_7, c1_8, c1_9⟩
  exact r_lookup (pc' := 200) (kX1_join_0 1 rfl) rfl ((off_ne c1_0).trans ((off_ne c1_1).trans ((off_ne c1_2).trans ((off_ne c1_3).trans ((off_ne c1_4).trans ((off_ne c1_5).trans ((off_ne c1_6).trans ((off_ne c1_7).trans ((off_ne c1_8).trans ((off_ne c1_9).trans rfl)))))))))) rfl hD
theorem vX9_space_0 {d : Nat} {φ : aF} {α : aA} {Q : Int → aF → aA → Prop} {x1 : Int} {x2 : Int} (hx1 : isSt x1) (h : (eX10_pick d 11 x2 φ α (fun r1 φ1 α1 =>
   (eX10_pick d (x1 + 4) x2 φ1 α1 (fun r2 φ2 α2 =>
   inR (r1 - r2) ∧ (Q (r1 - r2) φ2 α2)))))) : eX9_space (d + 1) x1 x2 φ α Q := by
  intro Ln
  refine r_aload_n (pc' := 1) (kX9_space_0 0 rfl) rfl rfl ?_
  refine s_getr (v := 9) (pc' := 4) (kX9_space_0 1 rfl) rfl fkX9_15 rfl rfl (kz190 Ln) rfl (by decide) ?_
  refine s_getr (v := 11) (pc' := 7) (kX9_space_0 2 rfl) rfl fkX9_23 rfl rfl (kz9 Ln) rfl (by decide) ?_
  refine r_iload_n (pc' := 8) (kX9_space_0 3 rfl) rfl rfl ?_
  refine s_callS (As := [(2, 11), (0, x2)]) (S := []) (S2 := fun z => [(0, z)]) (pc' := 11) (kX9_space_0 4 rfl) rfl rfl nkX10_pick mlX9_28 scX10_pick rfl (Nat.le_of_ble_eq_true rfl) (Nat.le_of_ble_eq_true rfl) h (fun z => rfl) (fun r1 φ1 α1 h => ?_)
  refine r_aload_n (pc' := 12) (kX9_space_0 5 rfl) rfl rfl ?_
  refine s_getr (v := (x1 + 4)) (pc' := 15) (kX9_space_0 6 rfl) rfl fkX9_32 rfl rfl (st0 hx1 Ln) rfl (by have := st_pos hx1; omega) ?_
  refine r_iload_n (pc' := 16) (kX9_space_0 7 rfl) rfl rfl ?_
  refine s_callS (As := [(2, (x1 + 4)), (0, x2)]) (S := [(0, r1)]) (S2 := fun z => [(0, z), (0, r1)]) (pc' := 19) (kX9_space_0 8 rfl) rfl rfl nkX10_pick mlX9_28 scX10_pick rfl (Nat.le_of_ble_eq_true rfl) (Nat.le_of_ble_eq_true rfl) h (fun z => rfl) (fun r2 φ2 α2 h => ?_)
  have g3 := h.1
  have h := h.2
  refine r_isub (pc' := 20) (kX9_space_0 9 rfl) rfl g3 ?_
  exact s_iret (kX9_space_0 10 rfl) rfl h
abbrev jX9_countFull_4 (d : Nat) (x1 x2 x3 : Int) (φ : aF) (α : aA) (Q : Int → aF → aA → Prop) : Prop := R0 d mX9_countFull 4 [(2, 190), (2, x1), (0, x2), (0, x3)] [] φ α Q
theorem vX9_countFull_0 {d : Nat} {φ : aF} {α : aA} {Q : Int → aF → aA → Prop} {x1 : Int} (hx1 : isSt x1) (h : (jX9_countFull_4 (d + 1) x1 0 0 φ α Q)) : eX9_countFull (d + 1) x1 φ α Q := by
  intro Ln
  refine r_iconst 0 (pc' := 1) (kX9_countFull_0 0 rfl) rfl (by unfold inR; omega) ?_
  refine r_istore_n (L' := [(2, 190), (2, x1), (0, 0), (9, 0)]) (pc' := 2) (kX9_countFull_0 1 rfl) rfl (Nat.le_of_ble_eq_true rfl) rfl ?_
  refine r_iconst 0 (pc' := 3) (kX9_countFull_0 2 rfl) rfl (by unfold inR; omega) ?_
  refine r_istore_n (L' := [(2, 190), (2, x1), (0, 0), (0, 0)]) (pc' := 4) (kX9_countFull_0 3 rfl) rfl (Nat.le_of_ble_eq_true rfl) rfl ?_
  exact r_weak (L' := [(2, 190), (2, x1), (0, 0), (0, 0)]) ⟨Or.inl rfl, Or.inl rfl, Or.inl rfl, Or.inl rfl, trivial⟩ (h Ln)
theorem vX9_countFull_4 {d : Nat} {φ : aF} {α : aA} {Q : Int → aF → aA → Prop} {x1 : Int} {x2 : Int} {x3 : Int} (hx1 : isSt x1) (h : (((φ 2 4 9) ≤ x3 →
   (Q x2 φ α)) ∧
   (¬ ((φ 2 4 9) ≤ x3) →
   (eX9_space d x1 x3 φ α (fun r2 φ2 α2 =>
     ((¬ r2 = 0 →
     inR (x3 + 1) ∧ (jX9_countFull_4 (d + 1) x1 x2 (x3 + 1) φ2 α2 Q)) ∧
     (r2 = 0 →
     inR (x2 + 1) ∧ inR (x3 + 1) ∧ (jX9_countFull_4 (d + 1) x1 (x2 + 1) (x3 + 1) φ2 α2 Q)))))))) : jX9_countFull_4 (d + 1) x1 x2 x3 φ α Q := by
  intro Ln
  refine r_iload_n (pc' := 5) (kX9_countFull_0 4 rfl) rfl rfl ?_
  refine r_aload_n (pc' := 6) (kX9_countFull_0 5 rfl) rfl rfl ?_
  refine s_getr (v := 9) (pc' := 9) (kX9_countFull_0 6 rfl) rfl fkX9_15 rfl rfl (kz190 Ln) rfl (by decide) ?_
  refine s_get (x := (φ 2 4 9)) (pc' := 12) (kX9_countFull_0 7 rfl) rfl fkX9_37 rfl rfl rfl (kz9 Ln) rfl ?_
  refine r_icmp_ge (t := 33) (pc' := 15) (kX9_countFull_0 8 rfl) rfl rfl (fun c1 => ?_) (fun c1 => ?_)
  · have h := h.1 c1
    refine r_iload_n (pc' := 34) (kX9_countFull_0 17 rfl) rfl rfl ?_
    exact s_iret (kX9_countFull_0 18 rfl) rfl h
  · have h := h.2 c1
    refine r_aload_n (pc' := 16) (kX9_countFull_0 9 rfl) rfl rfl ?_
    refine r_aload_n (pc' := 17) (kX9_countFull_0 10 rfl) rfl rfl ?_
    refine r_iload_n (pc' := 18) (kX9_countFull_0 11 rfl) rfl rfl ?_
    refine s_callV (As := [(2, x1), (0, x3)]) (o := 190) (S := []) (S2 := fun z => [(0, z)]) (pc' := 21) (kX9_countFull_0 12 rfl) rfl rfl nkX9_space mlX9_41 imX9_space rfl slX9_space rfl (Nat.le_of_ble_eq_true rfl) (Nat.le_of_ble_eq_true rfl) (kz190 Ln) h (fun z => rfl) (fun r2 φ2 α2 h => ?_)
    refine r_if_ne (t := 27) (pc' := 24) (kX9_countFull_0 13 rfl) rfl rfl (fun c3 => ?_) (fun c3 => ?_)
    · have h := h.1 c3
      have g4 := h.1
      have h := h.2
      refine r_iinc (L' := [(2, 190), (2, x1), (0, x2), (0, (x3 + 1))]) (pc' := 30) (kX9_countFull_0 15 rfl) rfl (Nat.le_of_ble_eq_true rfl) rfl g4 rfl ?_
      refine r_goto (pc' := 4) (kX9_countFull_0 16 rfl) rfl ?_
      exact r_weak (L' := [(2, 190), (2, x1), (0, x2), (0, (x3 + 1))]) ⟨Or.inl rfl, Or.inl rfl, Or.inl rfl, Or.inl rfl, trivial⟩ (h Ln)
    · have h := h.2 c3
      have g5 := h.1
      have h := h.2
      refine r_iinc (L' := [(2, 190), (2, x1), (0, (x2 + 1)), (0, x3)]) (pc' := 27) (kX9_countFull_0 14 rfl) rfl (Nat.le_of_ble_eq_true rfl) rfl g5 rfl ?_
      have g6 := h.1
      have h := h.2
      refine r_iinc (L' := [(2, 190), (2, x1), (0, (x2 + 1)), (0, (x3 + 1))]) (pc' := 30) (kX9_countFull_0 15 rfl) rfl (Nat.le_of_ble_eq_true rfl) rfl g6 rfl ?_
      refine r_goto (pc' := 4) (kX9_countFull_0 16 rfl) rfl ?_
      exact r_weak (L' := [(2, 190), (2, x1), (0, (x2 + 1)), (0, (x3 + 1))]) ⟨Or.inl rfl, Or.inl rfl, Or.inl rfl, Or.inl rfl, trivial⟩ (h Ln)
theorem vX9_flow_0 {d : Nat} {φ : aF} {α : aA} {Q : Int → aF → aA → Prop} {x1 : Int} {x2 : Int} {x3 : Int} {x4 : Int} (hx1 : isSt x1) (h : (eX7_dropsOf d x1 x2 x4 φ α (fun r1 φ1 α1 =>
   (eX9_space d x1 x3 φ1 α1 (fun r2 φ2 α2 =>
   (eJ9_min_7cf53 d r1 r2 φ2 α2 (fun r3 φ3 α3 =>
   ((0 < r3 →
   (eX1_worth d 15 x1 x2 x3 x4 φ3 α3 (fun r5 φ5 α5 =>
     (eJ9_min_7cf53 d r3 r5 φ5 α5 (fun r6 φ6 α6 =>
     (eJ9_max_7cf53 d 0 r6 φ6 α6 (fun r7 φ7 α7 =>
     (Q r7 φ7 α7)))))))) ∧
   (¬ (0 < r3) →
   (Q 0 φ3 α3)))))))))) : eX9_flow (d + 1) x1 x2 x3 x4 φ α Q := by
  intro Ln
  refine r_aload_n (pc' := 1) (kX9_flow_0 0 rfl) rfl rfl ?_
  refine r_iload_n (pc' := 2) (kX9_flow_0 1 rfl) rfl rfl ?_
  refine r_iload (pc' := 4) (kX9_flow_0 2 rfl) rfl rfl ?_
  refine s_callV (As := [(0, x2), (0, x4)]) (o := x1) (S := []) (S2 := fun z => [(0, z)]) (pc' := 7) (kX9_flow_0 3 rfl) rfl rfl nkX7_dropsOf mlX9_45 imX7_dropsOf rfl slX7_dropsOf rfl (Nat.le_of_ble_eq_true rfl) (Nat.le_of_ble_eq_true rfl) (st0 hx1 Ln) h (fun z => rfl) (fun r1 φ1 α1 h => ?_)
  refine r_aload_n (pc' := 8) (kX9_flow_0 4 rfl) rfl rfl ?_
  refine r_aload_n (pc' := 9) (kX9_flow_0 5 rfl) rfl rfl ?_
  refine r_iload_n (pc' := 10) (kX9_flow_0 6 rfl) rfl rfl ?_
  refine s_callV (As := [(2, x1), (0, x3)]) (o := 190) (S := [(0, r1)]) (S2 := fun z => [(0, z), (0, r1)]) (pc' := 13) (kX9_flow_0 7 rfl) rfl rfl nkX9_space mlX9_41 imX9_space rfl slX9_space rfl (Nat.le_of_ble_eq_true rfl) (Nat.le_of_ble_eq_true rfl) (kz190 Ln) h (fun z => rfl) (fun r2 φ2 α2 h => ?_)
  refine s_callS (As := [(0, r1), (0, r2)]) (S := []) (S2 := fun z => [(0, z)]) (pc' := 16) (kX9_flow_0 8 rfl) rfl rfl nkJ9_min_7cf53 mlX9_49 scJ9_min_7cf53 rfl (Nat.le_of_ble_eq_true rfl) (Nat.le_of_ble_eq_true rfl) h (fun z => rfl) (fun r3 φ3 α3 h => ?_)
  refine r_istore (L' := [(2, 190), (2, x1), (0, x2), (0, x3), (0, x4), (0, r3)]) (pc' := 18) (kX9_flow_0 9 rfl) rfl (Nat.le_of_ble_eq_true rfl) rfl ?_
  refine r_iload (pc' := 20) (kX9_flow_0 10 rfl) rfl rfl ?_
  refine r_if_gt (t := 25) (pc' := 23) (kX9_flow_0 11 rfl) rfl rfl (fun c4 => ?_) (fun c4 => ?_)
  · have h := h.1 c4
    refine r_iconst 0 (pc' := 26) (kX9_flow_0 14 rfl) rfl (by unfold inR; omega) ?_
    refine r_iload (pc' := 28) (kX9_flow_0 15 rfl) rfl rfl ?_
    refine r_aload_n (pc' := 29) (kX9_flow_0 16 rfl) rfl rfl ?_
    refine s_getr (v := 188) (pc' := 32) (kX9_flow_0 17 rfl) rfl fkX9_19 rfl rfl (kz190 Ln) rfl (by decide) ?_
    refine r_aload_n (pc' := 33) (kX9_flow_0 18 rfl) rfl rfl ?_
    refine s_getr (v := 9) (pc' := 36) (kX9_flow_0 19 rfl) rfl fkX9_15 rfl rfl (kz190 Ln) rfl (by decide) ?_
    refine s_getr (v := 15) (pc' := 39) (kX9_flow_0 20 rfl) rfl fkX9_54 rfl rfl (kz9 Ln) rfl (by decide) ?_
    refine r_aload_n (pc' := 40) (kX9_flow_0 21 rfl) rfl rfl ?_
    refine r_iload_n (pc' := 41) (kX9_flow_0 22 rfl) rfl rfl ?_
    refine r_iload_n (pc' := 42) (kX9_flow_0 23 rfl) rfl rfl ?_
    refine r_iload (pc' := 44) (kX9_flow_0 24 rfl) rfl rfl ?_
    refine s_callV (As := [(2, 15), (2, x1), (0, x2), (0, x3), (0, x4)]) (o := 188) (S := [(0, r3), (0, 0)]) (S2 := fun z => [(0, z), (0, r3), (0, 0)]) (pc' := 47) (kX9_flow_0 25 rfl) rfl rfl nkX1_worth mlX9_58 imX1_worth rfl slX1_worth rfl (Nat.le_of_ble_eq_true rfl) (Nat.le_of_ble_eq_true rfl) (kz188 Ln) h (fun z => rfl) (fun r5 φ5 α5 h => ?_)
    refine s_callS (As := [(0, r3), (0, r5)]) (S := [(0, 0)]) (S2 := fun z => [(0, z), (0, 0)]) (pc' := 50) (kX9_flow_0 26 rfl) rfl rfl nkJ9_min_7cf53 mlX9_49 scJ9_min_7cf53 rfl (Nat.le_of_ble_eq_true rfl) (Nat.le_of_ble_eq_true rfl) h (fun z => rfl) (fun r6 φ6 α6 h => ?_)
    refine s_callS (As := [(0, 0), (0, r6)]) (S := []) (S2 := fun z => [(0, z)]) (pc' := 53) (kX9_flow_0 27 rfl) rfl rfl nkJ9_max_7cf53 mlX9_64 scJ9_max_7cf53 rfl (Nat.le_of_ble_eq_true rfl) (Nat.le_of_ble_eq_true rfl) h (fun z => rfl) (fun r7 φ7 α7 h => ?_)
    exact s_iret (kX9_flow_0 28 rfl) rfl h
  · have h := h.2 c4
    refine r_iconst 0 (pc' := 24) (kX9_flow_0 12 rfl) rfl (by unfold inR; omega) ?_
    exact s_iret (kX9_flow_0 13 rfl) rfl h
abbrev jX9_passDay_37 (d : Nat) (x1 x2 x3 : Int) (φ : aF) (α : aA) (Q : Int → aF → aA → Prop) : Prop := R0 d mX9_passDay 37 [(2, 190), (2, x1), (0, x2), (0, x3), (9, 0), (9, 0), (9, 0), (9, 0), (9, 0)] [] φ α Q
theorem vX9_passDay_0 {d : Nat} {φ : aF} {α : aA} {Q : Int → aF → aA → Prop} {x1 : Int} (hx1 : isSt x1) (h : (((φ 7 9 x1) = 0 →
   (eX10_copy d (x1 + 3) 191 φ α (fun r2 φ2 α2 =>
     (jX9_passDay_37 (d + 1) x1 0 0 φ2 α2 Q)))) ∧
   (¬ ((φ 7 9 x1) = 0) →
   inR ((φ 7 0 x1) + 1) ∧ (Q (φ 7 10 x1) (upf φ 7 0 x1 ((φ 7 0 x1) + 1)) α)))) : eX9_passDay (d + 1) x1 φ α Q := by
  intro Ln
  refine r_aload_n (pc' := 1) (kX9_passDay_0 0 rfl) rfl rfl ?_
  refine s_get (x := (φ 7 9 x1)) (pc' := 4) (kX9_passDay_0 1 rfl) rfl fkX9_67 rfl rfl rfl (st0 hx1 Ln) rfl ?_
  refine r_if_eq (t := 22) (pc' := 7) (kX9_passDay_0 2 rfl) rfl rfl (fun c1 => ?_) (fun c1 => ?_)
  · have h := h.1 c1
    refine r_aload_n (pc' := 23) (kX9_passDay_0 12 rfl) rfl rfl ?_
    refine s_getr (v := (x1 + 3)) (pc' := 26) (kX9_passDay_0 13 rfl) rfl fkX9_77 rfl rfl (st0 hx1 Ln) rfl (by have := st_pos hx1; omega) ?_
    refine r_aload_n (pc' := 27) (kX9_passDay_0 14 rfl) rfl rfl ?_
    refine s_getr (v := 191) (pc' := 30) (kX9_passDay_0 15 rfl) rfl fkX9_9 rfl rfl (kz190 Ln) rfl (by decide) ?_
    refine s_callS (As := [(2, (x1 + 3)), (2, 191)]) (S := []) (S2 := fun z => []) (pc' := 33) (kX9_passDay_0 16 rfl) rfl rfl nkX10_copy mlX9_80 scX10_copy rfl (Nat.le_of_ble_eq_true rfl) (Nat.le_of_ble_eq_true rfl) h (fun z => rfl) (fun r2 φ2 α2 h => ?_)
    refine r_iconst 0 (pc' := 34) (kX9_passDay_0 17 rfl) rfl (by unfold inR; omega) ?_
    refine r_istore_n (L' := [(2, 190), (2, x1), (0, 0), (9, 0), (9, 0), (9, 0), (9, 0), (9, 0), (9, 0)]) (pc' := 35) (kX9_passDay_0 18 rfl) rfl (Nat.le_of_ble_eq_true rfl) rfl ?_
    refine r_iconst 0 (pc' := 36) (kX9_passDay_0 19 rfl) rfl (by unfold inR; omega) ?_
    refine r_istore_n (L' := [(2, 190), (2, x1), (0, 0), (0, 0), (9, 0), (9, 0), (9, 0), (9, 0), (9, 0)]) (pc' := 37) (kX9_passDay_0 20 rfl) rfl (Nat.le_of_ble_eq_true rfl) rfl ?_
    exact r_weak (L' := [(2, 190), (2, x1), (0, 0), (0, 0), (9, 0), (9, 0), (9, 0), (9, 0), (9, 0)]) ⟨Or.inl rfl, Or.inl rfl, Or.inl rfl, Or.inl rfl, Or.inr (by decide), Or.inr (by decide), Or.inr (by decide), Or.inr (by decide), Or.inr (by decide), trivial⟩ (h Ln)
  · have h := h.2 c1
    refine r_aload_n (pc' := 8) (kX9_passDay_0 3 rfl) rfl rfl ?_
    refine r_dup (pc' := 9) (kX9_passDay_0 4 rfl) rfl rfl ?_
    refine s_get (x := (φ 7 0 x1)) (pc' := 12) (kX9_passDay_0 5 rfl) rfl fkX9_71 rfl rfl rfl (st0 hx1 Ln) rfl ?_
    refine r_iconst 1 (pc' := 13) (kX9_passDay_0 6 rfl) rfl (by unfold inR; omega) ?_
    have g3 := h.1
    have h := h.2
    refine r_iadd (pc' := 14) (kX9_passDay_0 7 rfl) rfl g3 ?_
    refine s_put (pc' := 17) (kX9_passDay_0 8 rfl) rfl fkX9_71 fnX7_0 rfl pk_int (st0 hx1 Ln) ?_
    refine r_aload_n (pc' := 18) (kX9_passDay_0 9 rfl) rfl rfl ?_
    refine s_get (x := (φ 7 10 x1)) (pc' := 21) (kX9_passDay_0 10 rfl) rfl fkX9_74 rfl rfl rfl (st0 hx1 Ln) rfl ?_
    exact s_iret (kX9_passDay_0 11 rfl) rfl h
abbrev jX9_passDay_58 (d : Nat) (x1 x2 x3 x4 x5 : Int) (φ : aF) (α : aA) (Q : Int → aF → aA → Prop) : Prop := R0 d mX9_passDay 58 [(2, 190), (2, x1), (0, x2), (0, x3), (0, x4), (0, x5), (9, 0), (9, 0), (9, 0)] [] φ α Q
theorem vX9_passDay_37 {d : Nat} {φ : aF} {α : aA} {Q : Int → aF → aA → Prop} {x1 : Int} {x2 : Int} {x3 : Int} (hx1 : isSt x1) (h : (((φ 2 2 9) ≤ x3 →
   inR ((φ 7 0 x1) + 1) ∧ ((¬ (φ 2 8 9) = 0 →
     (Q x2 (upf (upf (upf φ 7 0 x1 ((φ 7 0 x1) + 1)) 7 10 x1 x2) 7 9 x1 0) α)) ∧
     ((φ 2 8 9) = 0 →
     (eX9_isAsAhead d x1 (upf (upf φ 7 0 x1 ((φ 7 0 x1) + 1)) 7 10 x1 x2) α (fun r4 φ4 α4 =>
       ((r4 = 0 →
       (Q x2 (upf φ4 7 9 x1 0) α4)) ∧
       (¬ (r4 = 0) →
       (Q x2 (upf φ4 7 9 x1 1) α4)))))))) ∧
   (¬ ((φ 2 2 9) ≤ x3) →
   (eX7_sitterAt d x1 x3 φ α (fun r6 φ6 α6 =>
     (jX9_passDay_58 (d + 1) x1 x2 x3 r6 (-1) φ6 α6 Q)))))) : jX9_passDay_37 (d + 1) x1 x2 x3 φ α Q := by
  intro Ln
  refine r_iload_n (pc' := 38) (kX9_passDay_0 21 rfl) rfl rfl ?_
  refine r_aload_n (pc' := 39) (kX9_passDay_0 22 rfl) rfl rfl ?_
  refine s_getr (v := 9) (pc' := 42) (kX9_passDay_0 23 rfl) rfl fkX9_15 rfl rfl (kz190 Ln) rfl (by decide) ?_
  refine s_get (x := (φ 2 2 9)) (pc' := 45) (kX9_passDay_0 24 rfl) rfl fkX9_84 rfl rfl rfl (kz9 Ln) rfl ?_
  refine r_icmp_ge (t := 148) (pc' := 48) (kX9_passDay_0 25 rfl) rfl rfl (fun c1 => ?_) (fun c1 => ?_)
  · have h := h.1 c1
    refine r_aload_n (pc' := 149) (kX9_passDay_1 16 rfl) rfl rfl ?_
    refine r_dup (pc' := 150) (kX9_passDay_1 17 rfl) rfl rfl ?_
    refine s_get (x := (φ 7 0 x1)) (pc' := 153) (kX9_passDay_1 18 rfl) rfl fkX9_71 rfl rfl rfl (st0 hx1 Ln) rfl ?_
    refine r_iconst 1 (pc' := 154) (kX9_passDay_1 19 rfl) rfl (by unfold inR; omega) ?_
    have g2 := h.1
    have h := h.2
    refine r_iadd (pc' := 155) (kX9_passDay_1 20 rfl) rfl g2 ?_
    refine s_put (pc' := 158) (kX9_passDay_1 21 rfl) rfl fkX9_71 fnX7_0 rfl pk_int (st0 hx1 Ln) ?_
    refine r_aload_n (pc' := 159) (kX9_passDay_1 22 rfl) rfl rfl ?_
    refine r_iload_n (pc' := 160) (kX9_passDay_1 23 rfl) rfl rfl ?_
    refine s_put (pc' := 163) (kX9_passDay_1 24 rfl) rfl fkX9_74 fnX7_10 rfl pk_int (st0 hx1 Ln) ?_
    refine r_aload_n (pc' := 164) (kX9_passDay_1 25 rfl) rfl rfl ?_
    refine r_aload_n (pc' := 165) (kX9_passDay_1 26 rfl) rfl rfl ?_
    refine s_getr (v := 9) (pc' := 168) (kX9_passDay_1 27 rfl) rfl fkX9_15 rfl rfl (kz190 Ln) rfl (by decide) ?_
    refine s_get (x := (φ 2 8 9)) (pc' := 171) (kX9_passDay_1 28 rfl) rfl fkX9_102 rfl rfl rfl (kz9 Ln) rfl ?_
    refine r_if_ne (t := 186) (pc' := 174) (kX9_passDay_1 29 rfl) rfl rfl (fun c3 => ?_) (fun c3 => ?_)
    · have h := h.1 c3
      refine r_iconst 0 (pc' := 187) (kX9_passDay_1 36 rfl) rfl (by unfold inR; omega) ?_
      refine s_put (pc' := 190) (kX9_passDay_1 37 rfl) rfl fkX9_67 fnX7_9 rfl (pk_bool (Or.inl rfl)) (st0 hx1 Ln) ?_
      refine r_iload_n (pc' := 191) (kX9_passDay_1 38 rfl) rfl rfl ?_
      exact s_iret (kX9_passDay_1 39 rfl) rfl h
    · have h := h.2 c3
      refine r_aload_n (pc' := 175) (kX9_passDay_1 30 rfl) rfl rfl ?_
      refine r_aload_n (pc' := 176) (kX9_passDay_1 31 rfl) rfl rfl ?_
      refine s_callV (As := [(2, x1)]) (o := 190) (S := [(2, x1)]) (S2 := fun z => [(0, z), (2, x1)]) (pc' := 179) (kX9_passDay_1 32 rfl) rfl rfl nkX9_isAsAhead mlX9_105 imX9_isAsAhead rfl slX9_isAsAhead rfl (Nat.le_of_ble_eq_true rfl) (Nat.le_of_ble_eq_true rfl) (kz190 Ln) h (fun z => rfl) (fun r4 φ4 α4 h => ?_)
      refine r_if_eq (t := 186) (pc' := 182) (kX9_passDay_1 33 rfl) rfl rfl (fun c5 => ?_) (fun c5 => ?_)
      · have h := h.1 c5
        refine r_iconst 0 (pc' := 187) (kX9_passDay_1 36 rfl) rfl (by unfold inR; omega) ?_
        refine s_put (pc' := 190) (kX9_passDay_1 37 rfl) rfl fkX9_67 fnX7_9 rfl (pk_bool (Or.inl rfl)) (st0 hx1 Ln) ?_
        refine r_iload_n (pc' := 191) (kX9_passDay_1 38 rfl) rfl rfl ?_
        exact s_iret (kX9_passDay_1 39 rfl) rfl h
      · have h := h.2 c5
        refine r_iconst 1 (pc' := 183) (kX9_passDay_1 34 rfl) rfl (by unfold inR; omega) ?_
        refine r_goto (pc' := 187) (kX9_passDay_1 35 rfl) rfl ?_
        refine s_put (pc' := 190) (kX9_passDay_1 37 rfl) rfl fkX9_67 fnX7_9 rfl (pk_bool (Or.inr rfl)) (st0 hx1 Ln) ?_
        refine r_iload_n (pc' := 191) (kX9_passDay_1 38 rfl) rfl rfl ?_
        exact s_iret (kX9_passDay_1 39 rfl) rfl h
  · have h := h.2 c1
    refine r_aload_n (pc' := 49) (kX9_passDay_0 26 rfl) rfl rfl ?_
    refine r_iload_n (pc' := 50) (kX9_passDay_0 27 rfl) rfl rfl ?_
    refine s_callV (As := [(0, x3)]) (o := x1) (S := []) (S2 := fun z => [(0, z)]) (pc' := 53) (kX9_passDay_0 28 rfl) rfl rfl nkX7_sitterAt mlX9_87 imX7_sitterAt rfl slX7_sitterAt rfl (Nat.le_of_ble_eq_true rfl) (Nat.le_of_ble_eq_true rfl) (st0 hx1 Ln) h (fun z => rfl) (fun r6 φ6 α6 h => ?_)
    refine r_istore (L' := [(2, 190), (2, x1), (0, x2), (0, x3), (0, r6), (9, 0), (9, 0), (9, 0), (9, 0)]) (pc' := 55) (kX9_passDay_0 29 rfl) rfl (Nat.le_of_ble_eq_true rfl) rfl ?_
    refine r_iconst (-1) (pc' := 56) (kX9_passDay_0 30 rfl) rfl (by unfold inR; omega) ?_
    refine r_istore (L' := [(2, 190), (2, x1), (0, x2), (0, x3), (0, r6), (0, (-1)), (9, 0), (9, 0), (9, 0)]) (pc' := 58) (kX9_passDay_0 31 rfl) rfl (Nat.le_of_ble_eq_true rfl) rfl ?_
    exact r_weak (L' := [(2, 190), (2, x1), (0, x2), (0, x3), (0, r6), (0, (-1)), (9, 0), (9, 0), (9, 0)]) ⟨Or.inl rfl, Or.inl rfl, Or.inl rfl, Or.inl rfl, Or.inl rfl, Or.inl rfl, Or.inr (by decide), Or.inr (by decide), Or.inr (by decide), trivial⟩ (h Ln)
abbrev jX9_passDay_82 (d : Nat) (x1 x2 x3 x4 x5 x6 x7 : Int) (φ : aF) (α : aA) (Q : Int → aF → aA → Prop) : Prop := R0 d mX9_passDay 82 [(2, 190), (2, x1), (0, x2), (0, x3), (0, x4), (0, x5), (0, x6), (0, x7), (9, 0)] [] φ α Q
theorem vX9_passDay_58 {d : Nat} {φ : aF} {α : aA} {Q : Int → aF → aA → Prop} {x1 : Int} {x2 : Int} {x3 : Int} {x4 : Int} {x5 : Int} (hx1 : isSt x1) (h : ((1 < x5 →
   inR (x3 + 1) ∧ (jX9_passDay_37 (d + 1) x1 x2 (x3 + 1) φ α Q)) ∧
   (¬ (1 < x5) →
   ((x4 < 0 →
     inR (x3 + 1) ∧ (jX9_passDay_37 (d + 1) x1 x2 (x3 + 1) φ α Q)) ∧
     (¬ (x4 < 0) →
     inR (x3 + x5) ∧ (eX7_sitterAt d x1 (x3 + x5) φ α (fun r6 φ6 α6 =>
       (jX9_passDay_82 (d + 1) x1 x2 x3 x4 x5 r6 0 φ6 α6 Q)))))))) : jX9_passDay_58 (d + 1) x1 x2 x3 x4 x5 φ α Q := by
  intro Ln
  refine r_iload (pc' := 60) (kX9_passDay_0 32 rfl) rfl rfl ?_
  refine r_iconst 1 (pc' := 61) (kX9_passDay_0 33 rfl) rfl (by unfold inR; omega) ?_
  refine r_icmp_gt (t := 142) (pc' := 64) (kX9_passDay_0 34 rfl) rfl rfl (fun c1 => ?_) (fun c1 => ?_)
  · have h := h.1 c1
    have g2 := h.1
    have h := h.2
    refine r_iinc (L' := [(2, 190), (2, x1), (0, x2), (0, (x3 + 1)), (0, x4), (0, x5), (9, 0), (9, 0), (9, 0)]) (pc' := 145) (kX9_passDay_1 14 rfl) rfl (Nat.le_of_ble_eq_true rfl) rfl g2 rfl ?_
    refine r_goto (pc' := 37) (kX9_passDay_1 15 rfl) rfl ?_
    exact r_weak (L' := [(2, 190), (2, x1), (0, x2), (0, (x3 + 1)), (9, 0), (9, 0), (9, 0), (9, 0), (9, 0)]) ⟨Or.inl rfl, Or.inl rfl, Or.inl rfl, Or.inl rfl, Or.inr (by decide), Or.inr (by decide), Or.inr (by decide), Or.inr (by decide), Or.inr (by decide), trivial⟩ (h Ln)
  · have h := h.2 c1
    refine r_iload (pc' := 66) (kX9_passDay_0 35 rfl) rfl rfl ?_
    refine r_if_lt (t := 142) (pc' := 69) (kX9_passDay_0 36 rfl) rfl rfl (fun c3 => ?_) (fun c3 => ?_)
    · have h := h.1 c3
      have g4 := h.1
      have h := h.2
      refine r_iinc (L' := [(2, 190), (2, x1), (0, x2), (0, (x3 + 1)), (0, x4), (0, x5), (9, 0), (9, 0), (9, 0)]) (pc' := 145) (kX9_passDay_1 14 rfl) rfl (Nat.le_of_ble_eq_true rfl) rfl g4 rfl ?_
      refine r_goto (pc' := 37) (kX9_passDay_1 15 rfl) rfl ?_
      exact r_weak (L' := [(2, 190), (2, x1), (0, x2), (0, (x3 + 1)), (9, 0), (9, 0), (9, 0), (9, 0), (9, 0)]) ⟨Or.inl rfl, Or.inl rfl, Or.inl rfl, Or.inl rfl, Or.inr (by decide), Or.inr (by decide), Or.inr (by decide), Or.inr (by decide), Or.inr (by decide), trivial⟩ (h Ln)
    · have h := h.2 c3
      refine r_aload_n (pc' := 70) (kX9_passDay_0 37 rfl) rfl rfl ?_
      refine r_iload_n (pc' := 71) (kX9_passDay_0 38 rfl) rfl rfl ?_
      refine r_iload (pc' := 73) (kX9_passDay_0 39 rfl) rfl rfl ?_
      have g5 := h.1
      have h := h.2
      refine r_iadd (pc' := 74) (kX9_passDay_0 40 rfl) rfl g5 ?_
      refine s_callV (As := [(0, (x3 + x5))]) (o := x1) (S := []) (S2 := fun z => [(0, z)]) (pc' := 77) (kX9_passDay_0 41 rfl) rfl rfl nkX7_sitterAt mlX9_87 imX7_sitterAt rfl slX7_sitterAt rfl (Nat.le_of_ble_eq_true rfl) (Nat.le_of_ble_eq_true rfl) (st0 hx1 Ln) h (fun z => rfl) (fun r6 φ6 α6 h => ?_)
      refine r_istore (L' := [(2, 190), (2, x1), (0, x2), (0, x3), (0, x4), (0, x5), (0, r6), (9, 0), (9, 0)]) (pc' := 79) (kX9_passDay_0 42 rfl) rfl (Nat.le_of_ble_eq_true rfl) rfl ?_
      refine r_iconst 0 (pc' := 80) (kX9_passDay_0 43 rfl) rfl (by unfold inR; omega) ?_
      refine r_istore (L' := [(2, 190), (2, x1), (0, x2), (0, x3), (0, x4), (0, x5), (0, r6), (0, 0), (9, 0)]) (pc' := 82) (kX9_passDay_0 44 rfl) rfl (Nat.le_of_ble_eq_true rfl) rfl ?_
      exact r_weak (L' := [(2, 190), (2, x1), (0, x2), (0, x3), (0, x4), (0, x5), (0, r6), (0, 0), (9, 0)]) ⟨Or.inl rfl, Or.inl rfl, Or.inl rfl, Or.inl rfl, Or.inl rfl, Or.inl rfl, Or.inl rfl, Or.inl rfl, Or.inr (by decide), trivial⟩ (h Ln)
theorem vX9_passDay_82 {d : Nat} {φ : aF} {α : aA} {Q : Int → aF → aA → Prop} {x1 : Int} {x2 : Int} {x3 : Int} {x4 : Int} {x5 : Int} {x6 : Int} {x7 : Int} (hx1 : isSt x1) (h : (((φ 2 3 9) ≤ x7 →
   inR (x5 + 2) ∧ (jX9_passDay_58 (d + 1) x1 x2 x3 x4 (x5 + 2) φ α Q)) ∧
   (¬ ((φ 2 3 9) ≤ x7) →
   ((x6 < 0 →
     inR (x5 + 2) ∧ (jX9_passDay_58 (d + 1) x1 x2 x3 x4 (x5 + 2) φ α Q)) ∧
     (¬ (x6 < 0) →
     (eX9_flow d x1 x4 x6 x7 φ α (fun r5 φ5 α5 =>
       (eX9_hand d x1 x4 x6 x7 r5 φ5 α5 (fun r6 φ6 α6 =>
       inR (x2 + r5) ∧ inR (x7 + 1) ∧ (jX9_passDay_82 (d + 1) x1 (x2 + r5) x3 x4 x5 x6 (x7 + 1) φ6 α6 Q)))))))))) : jX9_passDay_82 (d + 1) x1 x2 x3 x4 x5 x6 x7 φ α Q := by
  intro Ln
  refine r_iload (pc' := 84) (kX9_passDay_0 45 rfl) rfl rfl ?_
  refine r_aload_n (pc' := 85) (kX9_passDay_0 46 rfl) rfl rfl ?_
  refine s_getr (v := 9) (pc' := 88) (kX9_passDay_0 47 rfl) rfl fkX9_15 rfl rfl (kz190 Ln) rfl (by decide) ?_
  refine s_get (x := (φ 2 3 9)) (pc' := 91) (kX9_passDay_0 48 rfl) rfl fkX9_91 rfl rfl rfl (kz9 Ln) rfl ?_
  refine r_icmp_ge (t := 136) (pc' := 94) (kX9_passDay_0 49 rfl) rfl rfl (fun c1 => ?_) (fun c1 => ?_)
  · have h := h.1 c1
    have g2 := h.1
    have h := h.2
    refine r_iinc (L' := [(2, 190), (2, x1), (0, x2), (0, x3), (0, x4), (0, (x5 + 2)), (0, x6), (0, x7), (9, 0)]) (pc' := 139) (kX9_passDay_1 12 rfl) rfl (Nat.le_of_ble_eq_true rfl) rfl g2 rfl ?_
    refine r_goto (pc' := 58) (kX9_passDay_1 13 rfl) rfl ?_
    exact r_weak (L' := [(2, 190), (2, x1), (0, x2), (0, x3), (0, x4), (0, (x5 + 2)), (9, 0), (9, 0), (9, 0)]) ⟨Or.inl rfl, Or.inl rfl, Or.inl rfl, Or.inl rfl, Or.inl rfl, Or.inl rfl, Or.inr (by decide), Or.inr (by decide), Or.inr (by decide), trivial⟩ (h Ln)
  · have h := h.2 c1
    refine r_iload (pc' := 96) (kX9_passDay_0 50 rfl) rfl rfl ?_
    refine r_if_lt (t := 136) (pc' := 99) (kX9_passDay_0 51 rfl) rfl rfl (fun c3 => ?_) (fun c3 => ?_)
    · have h := h.1 c3
      have g4 := h.1
      have h := h.2
      refine r_iinc (L' := [(2, 190), (2, x1), (0, x2), (0, x3), (0, x4), (0, (x5 + 2)), (0, x6), (0, x7), (9, 0)]) (pc' := 139) (kX9_passDay_1 12 rfl) rfl (Nat.le_of_ble_eq_true rfl) rfl g4 rfl ?_
      refine r_goto (pc' := 58) (kX9_passDay_1 13 rfl) rfl ?_
      exact r_weak (L' := [(2, 190), (2, x1), (0, x2), (0, x3), (0, x4), (0, (x5 + 2)), (9, 0), (9, 0), (9, 0)]) ⟨Or.inl rfl, Or.inl rfl, Or.inl rfl, Or.inl rfl, Or.inl rfl, Or.inl rfl, Or.inr (by decide), Or.inr (by decide), Or.inr (by decide), trivial⟩ (h Ln)
    · have h := h.2 c3
      refine r_aload_n (pc' := 100) (kX9_passDay_0 52 rfl) rfl rfl ?_
      refine r_aload_n (pc' := 101) (kX9_passDay_0 53 rfl) rfl rfl ?_
      refine r_iload (pc' := 103) (kX9_passDay_0 54 rfl) rfl rfl ?_
      refine r_iload (pc' := 105) (kX9_passDay_0 55 rfl) rfl rfl ?_
      refine r_iload (pc' := 107) (kX9_passDay_0 56 rfl) rfl rfl ?_
      refine s_callV (As := [(2, x1), (0, x4), (0, x6), (0, x7)]) (o := 190) (S := []) (S2 := fun z => [(0, z)]) (pc' := 110) (kX9_passDay_0 57 rfl) rfl rfl nkX9_flow mlX9_94 imX9_flow rfl slX9_flow rfl (Nat.le_of_ble_eq_true rfl) (Nat.le_of_ble_eq_true rfl) (kz190 Ln) h (fun z => rfl) (fun r5 φ5 α5 h => ?_)
      refine r_istore (L' := [(2, 190), (2, x1), (0, x2), (0, x3), (0, x4), (0, x5), (0, x6), (0, x7), (0, r5)]) (pc' := 112) (kX9_passDay_0 58 rfl) rfl (Nat.le_of_ble_eq_true rfl) rfl ?_
      refine r_aload_n (pc' := 113) (kX9_passDay_0 59 rfl) rfl rfl ?_
      refine r_aload_n (pc' := 114) (kX9_passDay_1 0 rfl) rfl rfl ?_
      refine r_iload (pc' := 116) (kX9_passDay_1 1 rfl) rfl rfl ?_
      refine r_iload (pc' := 118) (kX9_passDay_1 2 rfl) rfl rfl ?_
      refine r_iload (pc' := 120) (kX9_passDay_1 3 rfl) rfl rfl ?_
      refine r_iload (pc' := 122) (kX9_passDay_1 4 rfl) rfl rfl ?_
      refine s_callV (As := [(2, x1), (0, x4), (0, x6), (0, x7), (0, r5)]) (o := 190) (S := []) (S2 := fun z => []) (pc' := 125) (kX9_passDay_1 5 rfl) rfl rfl nkX9_hand mlX9_98 imX9_hand rfl slX9_hand rfl (Nat.le_of_ble_eq_true rfl) (Nat.le_of_ble_eq_true rfl) (kz190 Ln) h (fun z => rfl) (fun r6 φ6 α6 h => ?_)
      refine r_iload_n (pc' := 126) (kX9_passDay_1 6 rfl) rfl rfl ?_
      refine r_iload (pc' := 128) (kX9_passDay_1 7 rfl) rfl rfl ?_
      have g7 := h.1
      have h := h.2
      refine r_iadd (pc' := 129) (kX9_passDay_1 8 rfl) rfl g7 ?_
      refine r_istore_n (L' := [(2, 190), (2, x1), (0, (x2 + r5)), (0, x3), (0, x4), (0, x5), (0, x6), (0, x7), (0, r5)]) (pc' := 130) (kX9_passDay_1 9 rfl) rfl (Nat.le_of_ble_eq_true rfl) rfl ?_
      have g8 := h.1
      have h := h.2
      refine r_iinc (L' := [(2, 190), (2, x1), (0, (x2 + r5)), (0, x3), (0, x4), (0, x5), (0, x6), (0, (x7 + 1)), (0, r5)]) (pc' := 133) (kX9_passDay_1 10 rfl) rfl (Nat.le_of_ble_eq_true rfl) rfl g8 rfl ?_
      refine r_goto (pc' := 82) (kX9_passDay_1 11 rfl) rfl ?_
      exact r_weak (L' := [(2, 190), (2, x1), (0, (x2 + r5)), (0, x3), (0, x4), (0, x5), (0, x6), (0, (x7 + 1)), (9, 0)]) ⟨Or.inl rfl, Or.inl rfl, Or.inl rfl, Or.inl rfl, Or.inl rfl, Or.inl rfl, Or.inl rfl, Or.inl rfl, Or.inr (by decide), trivial⟩ (h Ln)
abbrev jX9_isAsAhead_2 (d : Nat) (x1 x2 : Int) (φ : aF) (α : aA) (Q : Int → aF → aA → Prop) : Prop := R0 d mX9_isAsAhead 2 [(2, 190), (2, x1), (0, x2)] [] φ α Q
theorem vX9_isAsAhead_0 {d : Nat} {φ : aF} {α : aA} {Q : Int → aF → aA → Prop} {x1 : Int} (hx1 : isSt x1) (h : (jX9_isAsAhead_2 (d + 1) x1 0 φ α Q)) : eX9_isAsAhead (d + 1) x1 φ α Q := by
  intro Ln
  refine r_iconst 0 (pc' := 1) (kX9_isAsAhead_0 0 rfl) rfl (by unfold inR; omega) ?_
  refine r_istore_n (L' := [(2, 190), (2, x1), (0, 0)]) (pc' := 2) (kX9_isAsAhead_0 1 rfl) rfl (Nat.le_of_ble_eq_true rfl) rfl ?_
  exact r_weak (L' := [(2, 190), (2, x1), (0, 0)]) ⟨Or.inl rfl, Or.inl rfl, Or.inl rfl, trivial⟩ (h Ln)
theorem vX9_isAsAhead_2 {d : Nat} {φ : aF} {α : aA} {Q : Int → aF → aA → Prop} {x1 : Int} {x2 : Int} (hx1 : isSt x1) (h : ((28 ≤ x2 →
   (Q 1 φ α)) ∧
   (¬ (28 ≤ x2) →
   (0 ≤ x2 ∧ x2 < (28 : Nat)) ∧ (eX10_pick d (x1 + 3) x2 φ α (fun r3 φ3 α3 =>
     (((α 191 x2) = r3 →
     inR (x2 + 1) ∧ (jX9_isAsAhead_2 (d + 1) x1 (x2 + 1) φ3 α3 Q)) ∧
     (¬ ((α 191 x2) = r3) →
     (Q 0 φ3 α3)))))))) : jX9_isAsAhead_2 (d + 1) x1 x2 φ α Q := by
  intro Ln
  refine r_iload_n (pc' := 3) (kX9_isAsAhead_0 2 rfl) rfl rfl ?_
  refine r_aload_n (pc' := 4) (kX9_isAsAhead_0 3 rfl) rfl rfl ?_
  refine s_getr (v := 191) (pc' := 7) (kX9_isAsAhead_0 4 rfl) rfl fkX9_9 rfl rfl (kz190 Ln) rfl (by decide) ?_
  refine s_alen (pc' := 8) (kX9_isAsAhead_0 5 rfl) rfl (kz191 Ln) ⟨by decide, by decide⟩ ?_
  refine r_icmp_ge (t := 36) (pc' := 11) (kX9_isAsAhead_0 6 rfl) rfl rfl (fun c1 => ?_) (fun c1 => ?_)
  · have h := h.1 c1
    refine r_iconst 1 (pc' := 37) (kX9_isAsAhead_0 20 rfl) rfl (by unfold inR; omega) ?_
    exact s_zret (kX9_isAsAhead_0 21 rfl) rfl (Or.inr rfl) h
  · have h := h.2 c1
    refine r_aload_n (pc' := 12) (kX9_isAsAhead_0 7 rfl) rfl rfl ?_
    refine s_getr (v := 191) (pc' := 15) (kX9_isAsAhead_0 8 rfl) rfl fkX9_9 rfl rfl (kz190 Ln) rfl (by decide) ?_
    refine r_iload_n (pc' := 16) (kX9_isAsAhead_0 9 rfl) rfl rfl ?_
    have g2 := h.1
    have h := h.2
    refine s_iald (x := (α 191 x2)) (pc' := 17) (kX9_isAsAhead_0 10 rfl) rfl (kz191 Ln) g2 rfl ?_
    refine r_aload_n (pc' := 18) (kX9_isAsAhead_0 11 rfl) rfl rfl ?_
    refine s_getr (v := (x1 + 3)) (pc' := 21) (kX9_isAsAhead_0 12 rfl) rfl fkX9_77 rfl rfl (st0 hx1 Ln) rfl (by have := st_pos hx1; omega) ?_
    refine r_iload_n (pc' := 22) (kX9_isAsAhead_0 13 rfl) rfl rfl ?_
    refine s_callS (As := [(2, (x1 + 3)), (0, x2)]) (S := [(0, (α 191 x2))]) (S2 := fun z => [(0, z), (0, (α 191 x2))]) (pc' := 25) (kX9_isAsAhead_0 14 rfl) rfl rfl nkX10_pick mlX9_28 scX10_pick rfl (Nat.le_of_ble_eq_true rfl) (Nat.le_of_ble_eq_true rfl) h (fun z => rfl) (fun r3 φ3 α3 h => ?_)
    refine r_icmp_eq (t := 30) (pc' := 28) (kX9_isAsAhead_0 15 rfl) rfl rfl (fun c4 => ?_) (fun c4 => ?_)
    · have h := h.1 c4
      have g5 := h.1
      have h := h.2
      refine r_iinc (L' := [(2, 190), (2, x1), (0, (x2 + 1))]) (pc' := 33) (kX9_isAsAhead_0 18 rfl) rfl (Nat.le_of_ble_eq_true rfl) rfl g5 rfl ?_
      refine r_goto (pc' := 2) (kX9_isAsAhead_0 19 rfl) rfl ?_
      exact r_weak (L' := [(2, 190), (2, x1), (0, (x2 + 1))]) ⟨Or.inl rfl, Or.inl rfl, Or.inl rfl, trivial⟩ (h Ln)
    · have h := h.2 c4
      refine r_iconst 0 (pc' := 29) (kX9_isAsAhead_0 16 rfl) rfl (by unfold inR; omega) ?_
      exact s_zret (kX9_isAsAhead_0 17 rfl) rfl (Or.inl rfl) h
theorem vX9_hand_0 {d : Nat} {φ : aF} {α : aA} {Q : Int → aF → aA → Prop} {x1 : Int} {x2 : Int} {x3 : Int} {x4 : Int} {x5 : Int} (hx1 : isSt x1) (h : inR (-x5) ∧ (eX7_gain d x1 x2 x4 (-x5) φ α (fun r2 φ2 α2 =>
   (eX7_gain d x1 x3 x4 x5 φ2 α2 (fun r3 φ3 α3 =>
   (Q 0 φ3 α3)))))) : eX9_hand (d + 1) x1 x2 x3 x4 x5 φ α Q := by
  intro Ln
  refine r_aload_n (pc' := 1) (kX9_hand_0 0 rfl) rfl rfl ?_
  refine r_iload_n (pc' := 2) (kX9_hand_0 1 rfl) rfl rfl ?_
  refine r_iload (pc' := 4) (kX9_hand_0 2 rfl) rfl rfl ?_
  refine r_iload (pc' := 6) (kX9_hand_0 3 rfl) rfl rfl ?_
  have g1 := h.1
  have h := h.2
  refine r_ineg (pc' := 7) (kX9_hand_0 4 rfl) rfl g1 ?_
  refine s_callV (As := [(0, x2), (0, x4), (0, (-x5))]) (o := x1) (S := []) (S2 := fun z => []) (pc' := 10) (kX9_hand_0 5 rfl) rfl rfl nkX7_gain mlX9_109 imX7_gain rfl slX7_gain rfl (Nat.le_of_ble_eq_true rfl) (Nat.le_of_ble_eq_true rfl) (st0 hx1 Ln) h (fun z => rfl) (fun r2 φ2 α2 h => ?_)
  refine r_aload_n (pc' := 11) (kX9_hand_0 6 rfl) rfl rfl ?_
  refine r_iload_n (pc' := 12) (kX9_hand_0 7 rfl) rfl rfl ?_
  refine r_iload (pc' := 14) (kX9_hand_0 8 rfl) rfl rfl ?_
  refine r_iload (pc' := 16) (kX9_hand_0 9 rfl) rfl rfl ?_
  refine s_callV (As := [(0, x3), (0, x4), (0, x5)]) (o := x1) (S := []) (S2 := fun z => []) (pc' := 19) (kX9_hand_0 10 rfl) rfl rfl nkX7_gain mlX9_109 imX7_gain rfl slX7_gain rfl (Nat.le_of_ble_eq_true rfl) (Nat.le_of_ble_eq_true rfl) (st0 hx1 Ln) h (fun z => rfl) (fun r3 φ3 α3 h => ?_)
  exact s_vret (kX9_hand_0 11 rfl) rfl h
abbrev jX9_shake_29 (d : Nat) (x1 x2 x3 x4 x5 : Int) (φ : aF) (α : aA) (Q : Int → aF → aA → Prop) : Prop := R0 d mX9_shake 29 [(2, 190), (2, x1), (0, x2), (0, x3), (0, x4), (0, x5), (9, 0)] [] φ α Q
theorem vX9_shake_0 {d : Nat} {φ : aF} {α : aA} {Q : Int → aF → aA → Prop} {x1 : Int} {x2 : Int} {x3 : Int} (hx1 : isSt x1) (h : (eX1_worth d 17 x1 x2 x3 0 φ α (fun r1 φ1 α1 =>
   ((¬ r1 = 0 →
   (jX9_shake_29 (d + 1) x1 x2 x3 0 0 φ1 α1 Q)) ∧
   (r1 = 0 →
   (Q (-1) φ1 α1)))))) : eX9_shake (d + 1) x1 x2 x3 φ α Q := by
  intro Ln
  refine r_aload_n (pc' := 1) (kX9_shake_0 0 rfl) rfl rfl ?_
  refine s_getr (v := 188) (pc' := 4) (kX9_shake_0 1 rfl) rfl fkX9_19 rfl rfl (kz190 Ln) rfl (by decide) ?_
  refine r_aload_n (pc' := 5) (kX9_shake_0 2 rfl) rfl rfl ?_
  refine s_getr (v := 9) (pc' := 8) (kX9_shake_0 3 rfl) rfl fkX9_15 rfl rfl (kz190 Ln) rfl (by decide) ?_
  refine s_getr (v := 17) (pc' := 11) (kX9_shake_0 4 rfl) rfl fkX9_113 rfl rfl (kz9 Ln) rfl (by decide) ?_
  refine r_aload_n (pc' := 12) (kX9_shake_0 5 rfl) rfl rfl ?_
  refine r_iload_n (pc' := 13) (kX9_shake_0 6 rfl) rfl rfl ?_
  refine r_iload_n (pc' := 14) (kX9_shake_0 7 rfl) rfl rfl ?_
  refine r_iconst 0 (pc' := 15) (kX9_shake_0 8 rfl) rfl (by unfold inR; omega) ?_
  refine s_callV (As := [(2, 17), (2, x1), (0, x2), (0, x3), (0, 0)]) (o := 188) (S := []) (S2 := fun z => [(0, z)]) (pc' := 18) (kX9_shake_0 9 rfl) rfl rfl nkX1_worth mlX9_58 imX1_worth rfl slX1_worth rfl (Nat.le_of_ble_eq_true rfl) (Nat.le_of_ble_eq_true rfl) (kz188 Ln) h (fun z => rfl) (fun r1 φ1 α1 h => ?_)
  refine r_if_ne (t := 23) (pc' := 21) (kX9_shake_0 10 rfl) rfl rfl (fun c2 => ?_) (fun c2 => ?_)
  · have h := h.1 c2
    refine r_iconst 0 (pc' := 24) (kX9_shake_0 13 rfl) rfl (by unfold inR; omega) ?_
    refine r_istore (L' := [(2, 190), (2, x1), (0, x2), (0, x3), (0, 0), (9, 0), (9, 0)]) (pc' := 26) (kX9_shake_0 14 rfl) rfl (Nat.le_of_ble_eq_true rfl) rfl ?_
    refine r_iconst 0 (pc' := 27) (kX9_shake_0 15 rfl) rfl (by unfold inR; omega) ?_
    refine r_istore (L' := [(2, 190), (2, x1), (0, x2), (0, x3), (0, 0), (0, 0), (9, 0)]) (pc' := 29) (kX9_shake_0 16 rfl) rfl (Nat.le_of_ble_eq_true rfl) rfl ?_
    exact r_weak (L' := [(2, 190), (2, x1), (0, x2), (0, x3), (0, 0), (0, 0), (9, 0)]) ⟨Or.inl rfl, Or.inl rfl, Or.inl rfl, Or.inl rfl, Or.inl rfl, Or.inl rfl, Or.inr (by decide), trivial⟩ (h Ln)
  · have h := h.2 c2
    refine r_iconst (-1) (pc' := 22) (kX9_shake_0 11 rfl) rfl (by unfold inR; omega) ?_
    exact s_iret (kX9_shake_0 12 rfl) rfl h
theorem vX9_shake_29 {d : Nat} {φ : aF} {α : aA} {Q : Int → aF → aA → Prop} {x1 : Int} {x2 : Int} {x3 : Int} {x4 : Int} {x5 : Int} (hx1 : isSt x1) (h : (((φ 2 3 9) ≤ x5 →
   (Q x4 φ α)) ∧
   (¬ ((φ 2 3 9) ≤ x5) →
   (eX7_dropsOf d x1 x2 x5 φ α (fun r2 φ2 α2 =>
     inR (Int.tdiv r2 2) ∧ (eX9_space d x1 x3 φ2 α2 (fun r4 φ4 α4 =>
     (eJ9_min_7cf53 d (Int.tdiv r2 2) r4 φ4 α4 (fun r5 φ5 α5 =>
     (eX9_hand d x1 x2 x3 x5 r5 φ5 α5 (fun r6 φ6 α6 =>
     inR (x4 + r5) ∧ inR (x5 + 1) ∧ (jX9_shake_29 (d + 1) x1 x2 x3 (x4 + r5) (x5 + 1) φ6 α6 Q)))))))))))) : jX9_shake_29 (d + 1) x1 x2 x3 x4 x5 φ α Q := by
  intro Ln
  refine r_iload (pc' := 31) (kX9_shake_0 17 rfl) rfl rfl ?_
  refine r_aload_n (pc' := 32) (kX9_shake_0 18 rfl) rfl rfl ?_
  refine s_getr (v := 9) (pc' := 35) (kX9_shake_0 19 rfl) rfl fkX9_15 rfl rfl (kz190 Ln) rfl (by decide) ?_
  refine s_get (x := (φ 2 3 9)) (pc' := 38) (kX9_shake_0 20 rfl) rfl fkX9_91 rfl rfl rfl (kz9 Ln) rfl ?_
  refine r_icmp_ge (t := 85) (pc' := 41) (kX9_shake_0 21 rfl) rfl rfl (fun c1 => ?_) (fun c1 => ?_)
  · have h := h.1 c1
    refine r_iload (pc' := 87) (kX9_shake_0 47 rfl) rfl rfl ?_
    exact s_iret (kX9_shake_0 48 rfl) rfl h
  · have h := h.2 c1
    refine r_aload_n (pc' := 42) (kX9_shake_0 22 rfl) rfl rfl ?_
    refine r_iload_n (pc' := 43) (kX9_shake_0 23 rfl) rfl rfl ?_
    refine r_iload (pc' := 45) (kX9_shake_0 24 rfl) rfl rfl ?_
    refine s_callV (As := [(0, x2), (0, x5)]) (o := x1) (S := []) (S2 := fun z => [(0, z)]) (pc' := 48) (kX9_shake_0 25 rfl) rfl rfl nkX7_dropsOf mlX9_45 imX7_dropsOf rfl slX7_dropsOf rfl (Nat.le_of_ble_eq_true rfl) (Nat.le_of_ble_eq_true rfl) (st0 hx1 Ln) h (fun z => rfl) (fun r2 φ2 α2 h => ?_)
    refine r_iconst 2 (pc' := 49) (kX9_shake_0 26 rfl) rfl (by unfold inR; omega) ?_
    have g3 := h.1
    have h := h.2
    refine r_idiv (pc' := 50) (kX9_shake_0 27 rfl) rfl ⟨by decide, g3⟩ ?_
    refine r_aload_n (pc' := 51) (kX9_shake_0 28 rfl) rfl rfl ?_
    refine r_aload_n (pc' := 52) (kX9_shake_0 29 rfl) rfl rfl ?_
    refine r_iload_n (pc' := 53) (kX9_shake_0 30 rfl) rfl rfl ?_
    refine s_callV (As := [(2, x1), (0, x3)]) (o := 190) (S := [(0, (Int.tdiv r2 2))]) (S2 := fun z => [(0, z), (0, (Int.tdiv r2 2))]) (pc' := 56) (kX9_shake_0 31 rfl) rfl rfl nkX9_space mlX9_41 imX9_space rfl slX9_space rfl (Nat.le_of_ble_eq_true rfl) (Nat.le_of_ble_eq_true rfl) (kz190 Ln) h (fun z => rfl) (fun r4 φ4 α4 h => ?_)
    refine s_callS (As := [(0, (Int.tdiv r2 2)), (0, r4)]) (S := []) (S2 := fun z => [(0, z)]) (pc' := 59) (kX9_shake_0 32 rfl) rfl rfl nkJ9_min_7cf53 mlX9_49 scJ9_min_7cf53 rfl (Nat.le_of_ble_eq_true rfl) (Nat.le_of_ble_eq_true rfl) h (fun z => rfl) (fun r5 φ5 α5 h => ?_)
    refine r_istore (L' := [(2, 190), (2, x1), (0, x2), (0, x3), (0, x4), (0, x5), (0, r5)]) (pc' := 61) (kX9_shake_0 33 rfl) rfl (Nat.le_of_ble_eq_true rfl) rfl ?_
    refine r_aload_n (pc' := 62) (kX9_shake_0 34 rfl) rfl rfl ?_
    refine r_aload_n (pc' := 63) (kX9_shake_0 35 rfl) rfl rfl ?_
    refine r_iload_n (pc' := 64) (kX9_shake_0 36 rfl) rfl rfl ?_
    refine r_iload_n (pc' := 65) (kX9_shake_0 37 rfl) rfl rfl ?_
    refine r_iload (pc' := 67) (kX9_shake_0 38 rfl) rfl rfl ?_
    refine r_iload (pc' := 69) (kX9_shake_0 39 rfl) rfl rfl ?_
    refine s_callV (As := [(2, x1), (0, x2), (0, x3), (0, x5), (0, r5)]) (o := 190) (S := []) (S2 := fun z => []) (pc' := 72) (kX9_shake_0 40 rfl) rfl rfl nkX9_hand mlX9_98 imX9_hand rfl slX9_hand rfl (Nat.le_of_ble_eq_true rfl) (Nat.le_of_ble_eq_true rfl) (kz190 Ln) h (fun z => rfl) (fun r6 φ6 α6 h => ?_)
    refine r_iload (pc' := 74) (kX9_shake_0 41 rfl) rfl rfl ?_
    refine r_iload (pc' := 76) (kX9_shake_0 42 rfl) rfl rfl ?_
    have g7 := h.1
    have h := h.2
    refine r_iadd (pc' := 77) (kX9_shake_0 43 rfl) rfl g7 ?_
    refine r_istore (L' := [(2, 190), (2, x1), (0, x2), (0, x3), (0, (x4 + r5)), (0, x5), (0, r5)]) (pc' := 79) (kX9_shake_0 44 rfl) rfl (Nat.le_of_ble_eq_true rfl) rfl ?_
    have g8 := h.1
    have h := h.2
    refine r_iinc (L' := [(2, 190), (2, x1), (0, x2), (0, x3), (0, (x4 + r5)), (0, (x5 + 1)), (0, r5)]) (pc' := 82) (kX9_shake_0 45 rfl) rfl (Nat.le_of_ble_eq_true rfl) rfl g8 rfl ?_
    refine r_goto (pc' := 29) (kX9_shake_0 46 rfl) rfl ?_
    exact r_weak (L' := [(2, 190), (2, x1), (0, x2), (0, x3), (0, (x4 + r5)), (0, (x5 + 1)), (9, 0)]) ⟨Or.inl rfl, Or.inl rfl, Or.inl rfl, Or.inl rfl, Or.inl rfl, Or.inl rfl, Or.inr (by decide), trivial⟩ (h Ln)
theorem vX9_canPour_0 {d : Nat} {φ : aF} {α : aA} {Q : Int → aF → aA → Prop} {x1 : Int} {x2 : Int} {x3 : Int} {x4 : Int} (hx1 : isSt x1) (h : (eX9_space d x1 x2 φ α (fun r1 φ1 α1 =>
   inR (x4 - r1) ∧ (eJ9_max_7cf53 d 0 (x4 - r1) φ1 α1 (fun r3 φ3 α3 =>
   (eX7_poolOf d x1 0 x3 φ3 α3 (fun r4 φ4 α4 =>
   inR (r4 + r3) ∧ ((9999 < (r4 + r3) →
   (Q 0 φ4 α4)) ∧
   (¬ (9999 < (r4 + r3)) →
   (Q 1 φ4 α4)))))))))) : eX9_canPour (d + 1) x1 x2 x3 x4 φ α Q := by
  intro Ln
  refine r_iconst 0 (pc' := 1) (kX9_canPour_0 0 rfl) rfl (by unfold inR; omega) ?_
  refine r_iload (pc' := 3) (kX9_canPour_0 1 rfl) rfl rfl ?_
  refine r_aload_n (pc' := 4) (kX9_canPour_0 2 rfl) rfl rfl ?_
  refine r_aload_n (pc' := 5) (kX9_canPour_0 3 rfl) rfl rfl ?_
  refine r_iload_n (pc' := 6) (kX9_canPour_0 4 rfl) rfl rfl ?_
  refine s_callV (As := [(2, x1), (0, x2)]) (o := 190) (S := [(0, x4), (0, 0)]) (S2 := fun z => [(0, z), (0, x4), (0, 0)]) (pc' := 9) (kX9_canPour_0 5 rfl) rfl rfl nkX9_space mlX9_41 imX9_space rfl slX9_space rfl (Nat.le_of_ble_eq_true rfl) (Nat.le_of_ble_eq_true rfl) (kz190 Ln) h (fun z => rfl) (fun r1 φ1 α1 h => ?_)
  have g2 := h.1
  have h := h.2
  refine r_isub (pc' := 10) (kX9_canPour_0 6 rfl) rfl g2 ?_
  refine s_callS (As := [(0, 0), (0, (x4 - r1))]) (S := []) (S2 := fun z => [(0, z)]) (pc' := 13) (kX9_canPour_0 7 rfl) rfl rfl nkJ9_max_7cf53 mlX9_64 scJ9_max_7cf53 rfl (Nat.le_of_ble_eq_true rfl) (Nat.le_of_ble_eq_true rfl) h (fun z => rfl) (fun r3 φ3 α3 h => ?_)
  refine r_istore (L' := [(2, 190), (2, x1), (0, x2), (0, x3), (0, x4), (0, r3)]) (pc' := 15) (kX9_canPour_0 8 rfl) rfl (Nat.le_of_ble_eq_true rfl) rfl ?_
  refine r_aload_n (pc' := 16) (kX9_canPour_0 9 rfl) rfl rfl ?_
  refine r_iconst 0 (pc' := 17) (kX9_canPour_0 10 rfl) rfl (by unfold inR; omega) ?_
  refine r_iload_n (pc' := 18) (kX9_canPour_0 11 rfl) rfl rfl ?_
  refine s_callV (As := [(0, 0), (0, x3)]) (o := x1) (S := []) (S2 := fun z => [(0, z)]) (pc' := 21) (kX9_canPour_0 12 rfl) rfl rfl nkX7_poolOf mlX9_116 imX7_poolOf rfl slX7_poolOf rfl (Nat.le_of_ble_eq_true rfl) (Nat.le_of_ble_eq_true rfl) (st0 hx1 Ln) h (fun z => rfl) (fun r4 φ4 α4 h => ?_)
  refine r_iload (pc' := 23) (kX9_canPour_0 13 rfl) rfl rfl ?_
  have g5 := h.1
  have h := h.2
  refine r_iadd (pc' := 24) (kX9_canPour_0 14 rfl) rfl g5 ?_
  refine r_sipush 9999 (pc' := 27) (kX9_canPour_0 15 rfl) rfl ⟨by unfold inR; omega, rfl⟩ ?_
  refine r_icmp_gt (t := 34) (pc' := 30) (kX9_canPour_0 16 rfl) rfl rfl (fun c6 => ?_) (fun c6 => ?_)
  · have h := h.1 c6
    refine r_iconst 0 (pc' := 35) (kX9_canPour_0 19 rfl) rfl (by unfold inR; omega) ?_
    exact s_zret (kX9_canPour_0 20 rfl) rfl (Or.inl rfl) h
  · have h := h.2 c6
    refine r_iconst 1 (pc' := 31) (kX9_canPour_0 17 rfl) rfl (by unfold inR; omega) ?_
    refine r_goto (pc' := 35) (kX9_canPour_0 18 rfl) rfl ?_
    exact s_zret (kX9_canPour_0 20 rfl) rfl (Or.inr rfl) h
theorem vX9_pour_0 {d : Nat} {φ : aF} {α : aA} {Q : Int → aF → aA → Prop} {x1 : Int} {x2 : Int} {x3 : Int} {x4 : Int} (hx1 : isSt x1) (h : (eX9_space d x1 x2 φ α (fun r1 φ1 α1 =>
   (eJ9_min_7cf53 d x4 r1 φ1 α1 (fun r2 φ2 α2 =>
   (eX7_gain d x1 x2 x3 r2 φ2 α2 (fun r3 φ3 α3 =>
   inR (x4 - r2) ∧ (eX7_addToPool d x1 0 x3 (x4 - r2) φ3 α3 (fun r5 φ5 α5 =>
   (Q (x4 - r2) φ5 α5)))))))))) : eX9_pour (d + 1) x1 x2 x3 x4 φ α Q := by
  intro Ln
  refine r_iload (pc' := 2) (kX9_pour_0 0 rfl) rfl rfl ?_
  refine r_aload_n (pc' := 3) (kX9_pour_0 1 rfl) rfl rfl ?_
  refine r_aload_n (pc' := 4) (kX9_pour_0 2 rfl) rfl rfl ?_
  refine r_iload_n (pc' := 5) (kX9_pour_0 3 rfl) rfl rfl ?_
  refine s_callV (As := [(2, x1), (0, x2)]) (o := 190) (S := [(0, x4)]) (S2 := fun z => [(0, z), (0, x4)]) (pc' := 8) (kX9_pour_0 4 rfl) rfl rfl nkX9_space mlX9_41 imX9_space rfl slX9_space rfl (Nat.le_of_ble_eq_true rfl) (Nat.le_of_ble_eq_true rfl) (kz190 Ln) h (fun z => rfl) (fun r1 φ1 α1 h => ?_)
  refine s_callS (As := [(0, x4), (0, r1)]) (S := []) (S2 := fun z => [(0, z)]) (pc' := 11) (kX9_pour_0 5 rfl) rfl rfl nkJ9_min_7cf53 mlX9_49 scJ9_min_7cf53 rfl (Nat.le_of_ble_eq_true rfl) (Nat.le_of_ble_eq_true rfl) h (fun z => rfl) (fun r2 φ2 α2 h => ?_)
  refine r_istore (L' := [(2, 190), (2, x1), (0, x2), (0, x3), (0, x4), (0, r2)]) (pc' := 13) (kX9_pour_0 6 rfl) rfl (Nat.le_of_ble_eq_true rfl) rfl ?_
  refine r_aload_n (pc' := 14) (kX9_pour_0 7 rfl) rfl rfl ?_
  refine r_iload_n (pc' := 15) (kX9_pour_0 8 rfl) rfl rfl ?_
  refine r_iload_n (pc' := 16) (kX9_pour_0 9 rfl) rfl rfl ?_
  refine r_iload (pc' := 18) (kX9_pour_0 10 rfl) rfl rfl ?_
  refine s_callV (As := [(0, x2), (0, x3), (0, r2)]) (o := x1) (S := []) (S2 := fun z => []) (pc' := 21) (kX9_pour_0 11 rfl) rfl rfl nkX7_gain mlX9_109 imX7_gain rfl slX7_gain rfl (Nat.le_of_ble_eq_true rfl) (Nat.le_of_ble_eq_true rfl) (st0 hx1 Ln) h (fun z => rfl) (fun r3 φ3 α3 h => ?_)
  refine r_aload_n (pc' := 22) (kX9_pour_0 12 rfl) rfl rfl ?_
  refine r_iconst 0 (pc' := 23) (kX9_pour_0 13 rfl) rfl (by unfold inR; omega) ?_
  refine r_iload_n (pc' := 24) (kX9_pour_0 14 rfl) rfl rfl ?_
  refine r_iload (pc' := 26) (kX9_pour_0 15 rfl) rfl rfl ?_
  refine r_iload (pc' := 28) (kX9_pour_0 16 rfl) rfl rfl ?_
  have g4 := h.1
  have h := h.2
  refine r_isub (pc' := 29) (kX9_pour_0 17 rfl) rfl g4 ?_
  refine s_callV (As := [(0, 0), (0, x3), (0, (x4 - r2))]) (o := x1) (S := []) (S2 := fun z => []) (pc' := 32) (kX9_pour_0 18 rfl) rfl rfl nkX7_addToPool mlX9_119 imX7_addToPool rfl slX7_addToPool rfl (Nat.le_of_ble_eq_true rfl) (Nat.le_of_ble_eq_true rfl) (st0 hx1 Ln) h (fun z => rfl) (fun r5 φ5 α5 h => ?_)
  refine r_iload (pc' := 34) (kX9_pour_0 19 rfl) rfl rfl ?_
  refine r_iload (pc' := 36) (kX9_pour_0 20 rfl) rfl rfl ?_
  refine r_isub (pc' := 37) (kX9_pour_0 21 rfl) rfl g4 ?_
  exact s_iret (kX9_pour_0 22 rfl) rfl h
abbrev jX9_takeFromFloor_5 (d : Nat) (x1 x2 x3 x4 : Int) (φ : aF) (α : aA) (Q : Int → aF → aA → Prop) : Prop := R0 d mX9_takeFromFloor 5 [(2, 190), (2, x1), (0, x2), (0, x3), (0, x4), (9, 0)] [] φ α Q
theorem vX9_takeFromFloor_0 {d : Nat} {φ : aF} {α : aA} {Q : Int → aF → aA → Prop} {x1 : Int} {x2 : Int} (hx1 : isSt x1) (h : (jX9_takeFromFloor_5 (d + 1) x1 x2 0 0 φ α Q)) : eX9_takeFromFloor (d + 1) x1 x2 φ α Q := by
  intro Ln
  refine r_iconst 0 (pc' := 1) (kX9_takeFromFloor_0 0 rfl) rfl (by unfold inR; omega) ?_
  refine r_istore_n (L' := [(2, 190), (2, x1), (0, x2), (0, 0), (9, 0), (9, 0)]) (pc' := 2) (kX9_takeFromFloor_0 1 rfl) rfl (Nat.le_of_ble_eq_true rfl) rfl ?_
  refine r_iconst 0 (pc' := 3) (kX9_takeFromFloor_0 2 rfl) rfl (by unfold inR; omega) ?_
  refine r_istore (L' := [(2, 190), (2, x1), (0, x2), (0, 0), (0, 0), (9, 0)]) (pc' := 5) (kX9_takeFromFloor_0 3 rfl) rfl (Nat.le_of_ble_eq_true rfl) rfl ?_
  exact r_weak (L' := [(2, 190), (2, x1), (0, x2), (0, 0), (0, 0), (9, 0)]) ⟨Or.inl rfl, Or.inl rfl, Or.inl rfl, Or.inl rfl, Or.inl rfl, Or.inr (by decide), trivial⟩ (h Ln)
theorem vX9_takeFromFloor_5 {d : Nat} {φ : aF} {α : aA} {Q : Int → aF → aA → Prop} {x1 : Int} {x2 : Int} {x3 : Int} {x4 : Int} (hx1 : isSt x1) (h : (((φ 2 3 9) ≤ x4 →
   (Q x3 φ α)) ∧
   (¬ ((φ 2 3 9) ≤ x4) →
   (eX7_poolOf d x1 0 x4 φ α (fun r2 φ2 α2 =>
     (eX9_space d x1 x2 φ2 α2 (fun r3 φ3 α3 =>
     (eJ9_min_7cf53 d r2 r3 φ3 α3 (fun r4 φ4 α4 =>
     inR (-r4) ∧ (eX7_addToPool d x1 0 x4 (-r4) φ4 α4 (fun r6 φ6 α6 =>
     (eX7_gain d x1 x2 x4 r4 φ6 α6 (fun r7 φ7 α7 =>
     inR (x3 + r4) ∧ inR (x4 + 1) ∧ (jX9_takeFromFloor_5 (d + 1) x1 x2 (x3 + r4) (x4 + 1) φ7 α7 Q)))))))))))))) : jX9_takeFromFloor_5 (d + 1) x1 x2 x3 x4 φ α Q := by
  intro Ln
  refine r_iload (pc' := 7) (kX9_takeFromFloor_0 4 rfl) rfl rfl ?_
  refine r_aload_n (pc' := 8) (kX9_takeFromFloor_0 5 rfl) rfl rfl ?_
  refine s_getr (v := 9) (pc' := 11) (kX9_takeFromFloor_0 6 rfl) rfl fkX9_15 rfl rfl (kz190 Ln) rfl (by decide) ?_
  refine s_get (x := (φ 2 3 9)) (pc' := 14) (kX9_takeFromFloor_0 7 rfl) rfl fkX9_91 rfl rfl rfl (kz9 Ln) rfl ?_
  refine r_icmp_ge (t := 65) (pc' := 17) (kX9_takeFromFloor_0 8 rfl) rfl rfl (fun c1 => ?_) (fun c1 => ?_)
  · have h := h.1 c1
    refine r_iload_n (pc' := 66) (kX9_takeFromFloor_0 36 rfl) rfl rfl ?_
    exact s_iret (kX9_takeFromFloor_0 37 rfl) rfl h
  · have h := h.2 c1
    refine r_aload_n (pc' := 18) (kX9_takeFromFloor_0 9 rfl) rfl rfl ?_
    refine r_iconst 0 (pc' := 19) (kX9_takeFromFloor_0 10 rfl) rfl (by unfold inR; omega) ?_
    refine r_iload (pc' := 21) (kX9_takeFromFloor_0 11 rfl) rfl rfl ?_
    refine s_callV (As := [(0, 0), (0, x4)]) (o := x1) (S := []) (S2 := fun z => [(0, z)]) (pc' := 24) (kX9_takeFromFloor_0 12 rfl) rfl rfl nkX7_poolOf mlX9_116 imX7_poolOf rfl slX7_poolOf rfl (Nat.le_of_ble_eq_true rfl) (Nat.le_of_ble_eq_true rfl) (st0 hx1 Ln) h (fun z => rfl) (fun r2 φ2 α2 h => ?_)
    refine r_aload_n (pc' := 25) (kX9_takeFromFloor_0 13 rfl) rfl rfl ?_
    refine r_aload_n (pc' := 26) (kX9_takeFromFloor_0 14 rfl) rfl rfl ?_
    refine r_iload_n (pc' := 27) (kX9_takeFromFloor_0 15 rfl) rfl rfl ?_
    refine s_callV (As := [(2, x1), (0, x2)]) (o := 190) (S := [(0, r2)]) (S2 := fun z => [(0, z), (0, r2)]) (pc' := 30) (kX9_takeFromFloor_0 16 rfl) rfl rfl nkX9_space mlX9_41 imX9_space rfl slX9_space rfl (Nat.le_of_ble_eq_true rfl) (Nat.le_of_ble_eq_true rfl) (kz190 Ln) h (fun z => rfl) (fun r3 φ3 α3 h => ?_)
    refine s_callS (As := [(0, r2), (0, r3)]) (S := []) (S2 := fun z => [(0, z)]) (pc' := 33) (kX9_takeFromFloor_0 17 rfl) rfl rfl nkJ9_min_7cf53 mlX9_49 scJ9_min_7cf53 rfl (Nat.le_of_ble_eq_true rfl) (Nat.le_of_ble_eq_true rfl) h (fun z => rfl) (fun r4 φ4 α4 h => ?_)
    refine r_istore (L' := [(2, 190), (2, x1), (0, x2), (0, x3), (0, x4), (0, r4)]) (pc' := 35) (kX9_takeFromFloor_0 18 rfl) rfl (Nat.le_of_ble_eq_true rfl) rfl ?_
    refine r_aload_n (pc' := 36) (kX9_takeFromFloor_0 19 rfl) rfl rfl ?_
    refine r_iconst 0 (pc' := 37) (kX9_takeFromFloor_0 20 rfl) rfl (by unfold inR; omega) ?_
    refine r_iload (pc' := 39) (kX9_takeFromFloor_0 21 rfl) rfl rfl ?_
    refine r_iload (pc' := 41) (kX9_takeFromFloor_0 22 rfl) rfl rfl ?_
    have g5 := h.1
    have h := h.2
    refine r_ineg (pc' := 42) (kX9_takeFromFloor_0 23 rfl) rfl g5 ?_
    refine s_callV (As := [(0, 0), (0, x4), (0, (-r4))]) (o := x1) (S := []) (S2 := fun z => []) (pc' := 45) (kX9_takeFromFloor_0 24 rfl) rfl rfl nkX7_addToPool mlX9_119 imX7_addToPool rfl slX7_addToPool rfl (Nat.le_of_ble_eq_true rfl) (Nat.le_of_ble_eq_true rfl) (st0 hx1 Ln) h (fun z => rfl) (fun r6 φ6 α6 h => ?_)
    refine r_aload_n (pc' := 46) (kX9_takeFromFloor_0 25 rfl) rfl rfl ?_
    refine r_iload_n (pc' := 47) (kX9_takeFromFloor_0 26 rfl) rfl rfl ?_
    refine r_iload (pc' := 49) (kX9_takeFromFloor_0 27 rfl) rfl rfl ?_
    refine r_iload (pc' := 51) (kX9_takeFromFloor_0 28 rfl) rfl rfl ?_
    refine s_callV (As := [(0, x2), (0, x4), (0, r4)]) (o := x1) (S := []) (S2 := fun z => []) (pc' := 54) (kX9_takeFromFloor_0 29 rfl) rfl rfl nkX7_gain mlX9_109 imX7_gain rfl slX7_gain rfl (Nat.le_of_ble_eq_true rfl) (Nat.le_of_ble_eq_true rfl) (st0 hx1 Ln) h (fun z => rfl) (fun r7 φ7 α7 h => ?_)
    refine r_iload_n (pc' := 55) (kX9_takeFromFloor_0 30 rfl) rfl rfl ?_
    refine r_iload (pc' := 57) (kX9_takeFromFloor_0 31 rfl) rfl rfl ?_
    have g8 := h.1
    have h := h.2
    refine r_iadd (pc' := 58) (kX9_takeFromFloor_0 32 rfl) rfl g8 ?_
    refine r_istore_n (L' := [(2, 190), (2, x1), (0, x2), (0, (x3 + r4)), (0, x4), (0, r4)]) (pc' := 59) (kX9_takeFromFloor_0 33 rfl) rfl (Nat.le_of_ble_eq_true rfl) rfl ?_
    have g9 := h.1
    have h := h.2
    refine r_iinc (L' := [(2, 190), (2, x1), (0, x2), (0, (x3 + r4)), (0, (x4 + 1)), (0, r4)]) (pc' := 62) (kX9_takeFromFloor_0 34 rfl) rfl (Nat.le_of_ble_eq_true rfl) rfl g9 rfl ?_
    refine r_goto (pc' := 5) (kX9_takeFromFloor_0 35 rfl) rfl ?_
    exact r_weak (L' := [(2, 190), (2, x1), (0, x2), (0, (x3 + r4)), (0, (x4 + 1)), (9, 0)]) ⟨Or.inl rfl, Or.inl rfl, Or.inl rfl, Or.inl rfl, Or.inl rfl, Or.inr (by decide), trivial⟩ (h Ln)
