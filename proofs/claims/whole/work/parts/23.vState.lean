theorem vX7_begin_0 {d : Nat} {φ : aF} {α : aA} {Q : Int → aF → aA → Prop} {o : Int} {x1 : Int} (ho : isSt o) (hx1 : isOf x1) (h : (eX10_copy d (x1 + 3) (o + 1) (upf φ 7 0 o 0) α (fun r1 φ1 α1 =>
   (eX7_seatAll d o (φ1 2 4 x1) φ1 α1 (fun r2 φ2 α2 =>
   (eX10_copy d (x1 + 4) (o + 3) φ2 α2 (fun r3 φ3 α3 =>
   (eX10_copy d (x1 + 5) (o + 4) φ3 α3 (fun r4 φ4 α4 =>
   (eX10_fill d (o + 5) 0 φ4 α4 (fun r5 φ5 α5 =>
   (eX7_forgetKept d o φ5 α5 (fun r6 φ6 α6 =>
   (Q 0 (upf φ6 7 9 o 0) α6)))))))))))))) : eX7_begin (d + 1) o x1 φ α Q := by
  intro Ln
  refine r_aload_n (pc' := 1) (kX7_begin_0 0 rfl) rfl rfl ?_
  refine r_iconst 0 (pc' := 2) (kX7_begin_0 1 rfl) rfl (by unfold inR; omega) ?_
  refine s_put (pc' := 5) (kX7_begin_0 2 rfl) rfl fkX7_34 fnX7_0 rfl pk_int (st0 ho Ln) ?_
  refine r_aload_n (pc' := 6) (kX7_begin_0 3 rfl) rfl rfl ?_
  refine s_getr (v := (x1 + 3)) (pc' := 9) (kX7_begin_0 4 rfl) rfl fkX7_38 rfl rfl (of0 hx1 Ln) rfl (by have := of_pos hx1; omega) ?_
  refine r_aload_n (pc' := 10) (kX7_begin_0 5 rfl) rfl rfl ?_
  refine s_getr (v := (o + 1)) (pc' := 13) (kX7_begin_0 6 rfl) rfl fkX7_9 rfl rfl (st0 ho Ln) rfl (by have := st_pos ho; omega) ?_
  refine s_callS (As := [(2, (x1 + 3)), (2, (o + 1))]) (S := []) (S2 := fun z => []) (pc' := 16) (kX7_begin_0 7 rfl) rfl rfl nkX10_copy mlX7_43 scX10_copy rfl (Nat.le_of_ble_eq_true rfl) (Nat.le_of_ble_eq_true rfl) h (fun z => rfl) (fun r1 φ1 α1 h => ?_)
  refine r_aload_n (pc' := 17) (kX7_begin_0 8 rfl) rfl rfl ?_
  refine r_aload_n (pc' := 18) (kX7_begin_0 9 rfl) rfl rfl ?_
  refine s_get (x := (φ1 2 4 x1)) (pc' := 21) (kX7_begin_0 10 rfl) rfl fkX7_47 rfl rfl rfl (of0 hx1 Ln) rfl ?_
  refine s_callV (As := [(0, (φ1 2 4 x1))]) (o := o) (S := []) (S2 := fun z => []) (pc' := 24) (kX7_begin_0 11 rfl) rfl rfl nkX7_seatAll mlX7_50 imX7_seatAll rfl slX7_seatAll rfl (Nat.le_of_ble_eq_true rfl) (Nat.le_of_ble_eq_true rfl) (st0 ho Ln) h (fun z => rfl) (fun r2 φ2 α2 h => ?_)
  refine r_aload_n (pc' := 25) (kX7_begin_0 12 rfl) rfl rfl ?_
  refine s_getr (v := (x1 + 4)) (pc' := 28) (kX7_begin_0 13 rfl) rfl fkX7_54 rfl rfl (of0 hx1 Ln) rfl (by have := of_pos hx1; omega) ?_
  refine r_aload_n (pc' := 29) (kX7_begin_0 14 rfl) rfl rfl ?_
  refine s_getr (v := (o + 3)) (pc' := 32) (kX7_begin_0 15 rfl) rfl fkX7_18 rfl rfl (st0 ho Ln) rfl (by have := st_pos ho; omega) ?_
  refine s_callS (As := [(2, (x1 + 4)), (2, (o + 3))]) (S := []) (S2 := fun z => []) (pc' := 35) (kX7_begin_0 16 rfl) rfl rfl nkX10_copy mlX7_43 scX10_copy rfl (Nat.le_of_ble_eq_true rfl) (Nat.le_of_ble_eq_true rfl) h (fun z => rfl) (fun r3 φ3 α3 h => ?_)
  refine r_aload_n (pc' := 36) (kX7_begin_0 17 rfl) rfl rfl ?_
  refine s_getr (v := (x1 + 5)) (pc' := 39) (kX7_begin_0 18 rfl) rfl fkX7_57 rfl rfl (of0 hx1 Ln) rfl (by have := of_pos hx1; omega) ?_
  refine r_aload_n (pc' := 40) (kX7_begin_0 19 rfl) rfl rfl ?_
  refine s_getr (v := (o + 4)) (pc' := 43) (kX7_begin_0 20 rfl) rfl fkX7_21 rfl rfl (st0 ho Ln) rfl (by have := st_pos ho; omega) ?_
  refine s_callS (As := [(2, (x1 + 5)), (2, (o + 4))]) (S := []) (S2 := fun z => []) (pc' := 46) (kX7_begin_0 21 rfl) rfl rfl nkX10_copy mlX7_43 scX10_copy rfl (Nat.le_of_ble_eq_true rfl) (Nat.le_of_ble_eq_true rfl) h (fun z => rfl) (fun r4 φ4 α4 h => ?_)
  refine r_aload_n (pc' := 47) (kX7_begin_0 22 rfl) rfl rfl ?_
  refine s_getr (v := (o + 5)) (pc' := 50) (kX7_begin_0 23 rfl) rfl fkX7_24 rfl rfl (st0 ho Ln) rfl (by have := st_pos ho; omega) ?_
  refine r_iconst 0 (pc' := 51) (kX7_begin_0 24 rfl) rfl (by unfold inR; omega) ?_
  refine s_callS (As := [(2, (o + 5)), (0, 0)]) (S := []) (S2 := fun z => []) (pc' := 54) (kX7_begin_0 25 rfl) rfl rfl nkX10_fill mlX7_30 scX10_fill rfl (Nat.le_of_ble_eq_true rfl) (Nat.le_of_ble_eq_true rfl) h (fun z => rfl) (fun r5 φ5 α5 h => ?_)
  refine r_aload_n (pc' := 55) (kX7_begin_0 26 rfl) rfl rfl ?_
  refine s_callV (As := []) (o := o) (S := []) (S2 := fun z => []) (pc' := 58) (kX7_begin_0 27 rfl) rfl rfl nkX7_forgetKept mlX7_60 imX7_forgetKept rfl slX7_forgetKept rfl (Nat.le_of_ble_eq_true rfl) (Nat.le_of_ble_eq_true rfl) (st0 ho Ln) h (fun z => rfl) (fun r6 φ6 α6 h => ?_)
  refine r_aload_n (pc' := 59) (kX7_begin_0 28 rfl) rfl rfl ?_
  refine r_iconst 0 (pc' := 60) (kX7_begin_0 29 rfl) rfl (by unfold inR; omega) ?_
  refine s_put (pc' := 63) (kX7_begin_0 30 rfl) rfl fkX7_63 fnX7_9 rfl (pk_bool (Or.inl rfl)) (st0 ho Ln) ?_
  exact s_vret (kX7_begin_0 31 rfl) rfl h
abbrev jX7_seatAll_10 (d : Nat) (o x1 x2 : Int) (φ : aF) (α : aA) (Q : Int → aF → aA → Prop) : Prop := R0 d mX7_seatAll 10 [(2, o), (0, x1), (0, x2)] [] φ α Q
theorem vX7_seatAll_0 {d : Nat} {φ : aF} {α : aA} {Q : Int → aF → aA → Prop} {o : Int} {x1 : Int} (ho : isSt o) (h : (eX10_fill d (o + 2) (-1) φ α (fun r1 φ1 α1 =>
   (jX7_seatAll_10 (d + 1) o x1 0 φ1 α1 Q)))) : eX7_seatAll (d + 1) o x1 φ α Q := by
  intro Ln
  refine r_aload_n (pc' := 1) (kX7_seatAll_0 0 rfl) rfl rfl ?_
  refine s_getr (v := (o + 2)) (pc' := 4) (kX7_seatAll_0 1 rfl) rfl fkX7_15 rfl rfl (st0 ho Ln) rfl (by have := st_pos ho; omega) ?_
  refine r_iconst (-1) (pc' := 5) (kX7_seatAll_0 2 rfl) rfl (by unfold inR; omega) ?_
  refine s_callS (As := [(2, (o + 2)), (0, (-1))]) (S := []) (S2 := fun z => []) (pc' := 8) (kX7_seatAll_0 3 rfl) rfl rfl nkX10_fill mlX7_30 scX10_fill rfl (Nat.le_of_ble_eq_true rfl) (Nat.le_of_ble_eq_true rfl) h (fun z => rfl) (fun r1 φ1 α1 h => ?_)
  refine r_iconst 0 (pc' := 9) (kX7_seatAll_0 4 rfl) rfl (by unfold inR; omega) ?_
  refine r_istore_n (L' := [(2, o), (0, x1), (0, 0)]) (pc' := 10) (kX7_seatAll_0 5 rfl) rfl (Nat.le_of_ble_eq_true rfl) rfl ?_
  exact r_weak (L' := [(2, o), (0, x1), (0, 0)]) ⟨Or.inl rfl, Or.inl rfl, Or.inl rfl, trivial⟩ (h Ln)
theorem vX7_seatAll_10 {d : Nat} {φ : aF} {α : aA} {Q : Int → aF → aA → Prop} {o : Int} {x1 : Int} {x2 : Int} (ho : isSt o) (h : ((x1 ≤ x2 →
   (Q 0 φ α)) ∧
   (¬ (x1 ≤ x2) →
   (eX10_pick d (o + 1) x2 φ α (fun r2 φ2 α2 =>
     (eX10_set d (o + 2) r2 x2 φ2 α2 (fun r3 φ3 α3 =>
     inR (x2 + 1) ∧ (jX7_seatAll_10 (d + 1) o x1 (x2 + 1) φ3 α3 Q)))))))) : jX7_seatAll_10 (d + 1) o x1 x2 φ α Q := by
  intro Ln
  refine r_iload_n (pc' := 11) (kX7_seatAll_0 6 rfl) rfl rfl ?_
  refine r_iload_n (pc' := 12) (kX7_seatAll_0 7 rfl) rfl rfl ?_
  refine r_icmp_ge (t := 37) (pc' := 15) (kX7_seatAll_0 8 rfl) rfl rfl (fun c1 => ?_) (fun c1 => ?_)
  · have h := h.1 c1
    exact s_vret (kX7_seatAll_0 19 rfl) rfl h
  · have h := h.2 c1
    refine r_aload_n (pc' := 16) (kX7_seatAll_0 9 rfl) rfl rfl ?_
    refine s_getr (v := (o + 2)) (pc' := 19) (kX7_seatAll_0 10 rfl) rfl fkX7_15 rfl rfl (st0 ho Ln) rfl (by have := st_pos ho; omega) ?_
    refine r_aload_n (pc' := 20) (kX7_seatAll_0 11 rfl) rfl rfl ?_
    refine s_getr (v := (o + 1)) (pc' := 23) (kX7_seatAll_0 12 rfl) rfl fkX7_9 rfl rfl (st0 ho Ln) rfl (by have := st_pos ho; omega) ?_
    refine r_iload_n (pc' := 24) (kX7_seatAll_0 13 rfl) rfl rfl ?_
    refine s_callS (As := [(2, (o + 1)), (0, x2)]) (S := [(2, (o + 2))]) (S2 := fun z => [(0, z), (2, (o + 2))]) (pc' := 27) (kX7_seatAll_0 14 rfl) rfl rfl nkX10_pick mlX7_67 scX10_pick rfl (Nat.le_of_ble_eq_true rfl) (Nat.le_of_ble_eq_true rfl) h (fun z => rfl) (fun r2 φ2 α2 h => ?_)
    refine r_iload_n (pc' := 28) (kX7_seatAll_0 15 rfl) rfl rfl ?_
    refine s_callS (As := [(2, (o + 2)), (0, r2), (0, x2)]) (S := []) (S2 := fun z => []) (pc' := 31) (kX7_seatAll_0 16 rfl) rfl rfl nkX10_set mlX7_71 scX10_set rfl (Nat.le_of_ble_eq_true rfl) (Nat.le_of_ble_eq_true rfl) h (fun z => rfl) (fun r3 φ3 α3 h => ?_)
    have g4 := h.1
    have h := h.2
    refine r_iinc (L' := [(2, o), (0, x1), (0, (x2 + 1))]) (pc' := 34) (kX7_seatAll_0 17 rfl) rfl (Nat.le_of_ble_eq_true rfl) rfl g4 rfl ?_
    refine r_goto (pc' := 10) (kX7_seatAll_0 18 rfl) rfl ?_
    exact r_weak (L' := [(2, o), (0, x1), (0, (x2 + 1))]) ⟨Or.inl rfl, Or.inl rfl, Or.inl rfl, trivial⟩ (h Ln)
theorem vX7_copyRoom_0 {d : Nat} {φ : aF} {α : aA} {Q : Int → aF → aA → Prop} {o : Int} {x1 : Int} (ho : isSt o) (hx1 : isSt x1) (h : (eX10_copy d (x1 + 1) (o + 1) (upf φ 7 0 o (φ 7 0 x1)) α (fun r1 φ1 α1 =>
   (eX10_copy d (x1 + 2) (o + 2) φ1 α1 (fun r2 φ2 α2 =>
   (eX10_copy d (x1 + 3) (o + 3) φ2 α2 (fun r3 φ3 α3 =>
   (eX10_copy d (x1 + 4) (o + 4) φ3 α3 (fun r4 φ4 α4 =>
   (eX10_copy d (x1 + 5) (o + 5) φ4 α4 (fun r5 φ5 α5 =>
   ((φ5 7 9 x1) = 0 ∨ (φ5 7 9 x1) = 1) ∧ (Q 0 (upf (upf φ5 7 9 o (φ5 7 9 x1)) 7 10 o (φ5 7 10 x1)) α5)))))))))))) : eX7_copyRoom (d + 1) o x1 φ α Q := by
  intro Ln
  refine r_aload_n (pc' := 1) (kX7_copyRoom_0 0 rfl) rfl rfl ?_
  refine r_aload_n (pc' := 2) (kX7_copyRoom_0 1 rfl) rfl rfl ?_
  refine s_get (x := (φ 7 0 x1)) (pc' := 5) (kX7_copyRoom_0 2 rfl) rfl fkX7_34 rfl rfl rfl (st0 hx1 Ln) rfl ?_
  refine s_put (pc' := 8) (kX7_copyRoom_0 3 rfl) rfl fkX7_34 fnX7_0 rfl pk_int (st0 ho Ln) ?_
  refine r_aload_n (pc' := 9) (kX7_copyRoom_0 4 rfl) rfl rfl ?_
  refine s_getr (v := (x1 + 1)) (pc' := 12) (kX7_copyRoom_0 5 rfl) rfl fkX7_9 rfl rfl (st0 hx1 Ln) rfl (by have := st_pos hx1; omega) ?_
  refine r_aload_n (pc' := 13) (kX7_copyRoom_0 6 rfl) rfl rfl ?_
  refine s_getr (v := (o + 1)) (pc' := 16) (kX7_copyRoom_0 7 rfl) rfl fkX7_9 rfl rfl (st0 ho Ln) rfl (by have := st_pos ho; omega) ?_
  refine s_callS (As := [(2, (x1 + 1)), (2, (o + 1))]) (S := []) (S2 := fun z => []) (pc' := 19) (kX7_copyRoom_0 8 rfl) rfl rfl nkX10_copy mlX7_43 scX10_copy rfl (Nat.le_of_ble_eq_true rfl) (Nat.le_of_ble_eq_true rfl) h (fun z => rfl) (fun r1 φ1 α1 h => ?_)
  refine r_aload_n (pc' := 20) (kX7_copyRoom_0 9 rfl) rfl rfl ?_
  refine s_getr (v := (x1 + 2)) (pc' := 23) (kX7_copyRoom_0 10 rfl) rfl fkX7_15 rfl rfl (st0 hx1 Ln) rfl (by have := st_pos hx1; omega) ?_
  refine r_aload_n (pc' := 24) (kX7_copyRoom_0 11 rfl) rfl rfl ?_
  refine s_getr (v := (o + 2)) (pc' := 27) (kX7_copyRoom_0 12 rfl) rfl fkX7_15 rfl rfl (st0 ho Ln) rfl (by have := st_pos ho; omega) ?_
  refine s_callS (As := [(2, (x1 + 2)), (2, (o + 2))]) (S := []) (S2 := fun z => []) (pc' := 30) (kX7_copyRoom_0 13 rfl) rfl rfl nkX10_copy mlX7_43 scX10_copy rfl (Nat.le_of_ble_eq_true rfl) (Nat.le_of_ble_eq_true rfl) h (fun z => rfl) (fun r2 φ2 α2 h => ?_)
  refine r_aload_n (pc' := 31) (kX7_copyRoom_0 14 rfl) rfl rfl ?_
  refine s_getr (v := (x1 + 3)) (pc' := 34) (kX7_copyRoom_0 15 rfl) rfl fkX7_18 rfl rfl (st0 hx1 Ln) rfl (by have := st_pos hx1; omega) ?_
  refine r_aload_n (pc' := 35) (kX7_copyRoom_0 16 rfl) rfl rfl ?_
  refine s_getr (v := (o + 3)) (pc' := 38) (kX7_copyRoom_0 17 rfl) rfl fkX7_18 rfl rfl (st0 ho Ln) rfl (by have := st_pos ho; omega) ?_
  refine s_callS (As := [(2, (x1 + 3)), (2, (o + 3))]) (S := []) (S2 := fun z => []) (pc' := 41) (kX7_copyRoom_0 18 rfl) rfl rfl nkX10_copy mlX7_43 scX10_copy rfl (Nat.le_of_ble_eq_true rfl) (Nat.le_of_ble_eq_true rfl) h (fun z => rfl) (fun r3 φ3 α3 h => ?_)
  refine r_aload_n (pc' := 42) (kX7_copyRoom_0 19 rfl) rfl rfl ?_
  refine s_getr (v := (x1 + 4)) (pc' := 45) (kX7_copyRoom_0 20 rfl) rfl fkX7_21 rfl rfl (st0 hx1 Ln) rfl (by have := st_pos hx1; omega) ?_
  refine r_aload_n (pc' := 46) (kX7_copyRoom_0 21 rfl) rfl rfl ?_
  refine s_getr (v := (o + 4)) (pc' := 49) (kX7_copyRoom_0 22 rfl) rfl fkX7_21 rfl rfl (st0 ho Ln) rfl (by have := st_pos ho; omega) ?_
  refine s_callS (As := [(2, (x1 + 4)), (2, (o + 4))]) (S := []) (S2 := fun z => []) (pc' := 52) (kX7_copyRoom_0 23 rfl) rfl rfl nkX10_copy mlX7_43 scX10_copy rfl (Nat.le_of_ble_eq_true rfl) (Nat.le_of_ble_eq_true rfl) h (fun z => rfl) (fun r4 φ4 α4 h => ?_)
  refine r_aload_n (pc' := 53) (kX7_copyRoom_0 24 rfl) rfl rfl ?_
  refine s_getr (v := (x1 + 5)) (pc' := 56) (kX7_copyRoom_0 25 rfl) rfl fkX7_24 rfl rfl (st0 hx1 Ln) rfl (by have := st_pos hx1; omega) ?_
  refine r_aload_n (pc' := 57) (kX7_copyRoom_0 26 rfl) rfl rfl ?_
  refine s_getr (v := (o + 5)) (pc' := 60) (kX7_copyRoom_0 27 rfl) rfl fkX7_24 rfl rfl (st0 ho Ln) rfl (by have := st_pos ho; omega) ?_
  refine s_callS (As := [(2, (x1 + 5)), (2, (o + 5))]) (S := []) (S2 := fun z => []) (pc' := 63) (kX7_copyRoom_0 28 rfl) rfl rfl nkX10_copy mlX7_43 scX10_copy rfl (Nat.le_of_ble_eq_true rfl) (Nat.le_of_ble_eq_true rfl) h (fun z => rfl) (fun r5 φ5 α5 h => ?_)
  refine r_aload_n (pc' := 64) (kX7_copyRoom_0 29 rfl) rfl rfl ?_
  refine r_aload_n (pc' := 65) (kX7_copyRoom_0 30 rfl) rfl rfl ?_
  refine s_get (x := (φ5 7 9 x1)) (pc' := 68) (kX7_copyRoom_0 31 rfl) rfl fkX7_63 rfl rfl rfl (st0 hx1 Ln) rfl ?_
  have g6 := h.1
  have h := h.2
  refine s_put (pc' := 71) (kX7_copyRoom_0 32 rfl) rfl fkX7_63 fnX7_9 rfl (pk_bool g6) (st0 ho Ln) ?_
  refine r_aload_n (pc' := 72) (kX7_copyRoom_0 33 rfl) rfl rfl ?_
  refine r_aload_n (pc' := 73) (kX7_copyRoom_0 34 rfl) rfl rfl ?_
  refine s_get (x := (φ5 7 10 x1)) (pc' := 76) (kX7_copyRoom_0 35 rfl) rfl fkX7_75 rfl rfl rfl (st0 hx1 Ln) rfl ?_
  refine s_put (pc' := 79) (kX7_copyRoom_0 36 rfl) rfl fkX7_75 fnX7_10 rfl pk_int (st0 ho Ln) ?_
  exact s_vret (kX7_copyRoom_0 37 rfl) rfl h
theorem vX7_copyAll_0 {d : Nat} {φ : aF} {α : aA} {Q : Int → aF → aA → Prop} {o : Int} {x1 : Int} (ho : isSt o) (hx1 : isSt x1) (h : (eX7_copyRoom d o x1 φ α (fun r1 φ1 α1 =>
   (eX10_copy d (x1 + 6) (o + 6) φ1 α1 (fun r2 φ2 α2 =>
   (Q 0 (upf (upf φ2 7 7 o (φ2 7 7 x1)) 7 8 o (φ2 7 8 x1)) α2)))))) : eX7_copyAll (d + 1) o x1 φ α Q := by
  intro Ln
  refine r_aload_n (pc' := 1) (kX7_copyAll_0 0 rfl) rfl rfl ?_
  refine r_aload_n (pc' := 2) (kX7_copyAll_0 1 rfl) rfl rfl ?_
  refine s_callV (As := [(2, x1)]) (o := o) (S := []) (S2 := fun z => []) (pc' := 5) (kX7_copyAll_0 2 rfl) rfl rfl nkX7_copyRoom mlX7_78 imX7_copyRoom rfl slX7_copyRoom rfl (Nat.le_of_ble_eq_true rfl) (Nat.le_of_ble_eq_true rfl) (st0 ho Ln) h (fun z => rfl) (fun r1 φ1 α1 h => ?_)
  refine r_aload_n (pc' := 6) (kX7_copyAll_0 3 rfl) rfl rfl ?_
  refine s_getr (v := (x1 + 6)) (pc' := 9) (kX7_copyAll_0 4 rfl) rfl fkX7_27 rfl rfl (st0 hx1 Ln) rfl (by have := st_pos hx1; omega) ?_
  refine r_aload_n (pc' := 10) (kX7_copyAll_0 5 rfl) rfl rfl ?_
  refine s_getr (v := (o + 6)) (pc' := 13) (kX7_copyAll_0 6 rfl) rfl fkX7_27 rfl rfl (st0 ho Ln) rfl (by have := st_pos ho; omega) ?_
  refine s_callS (As := [(2, (x1 + 6)), (2, (o + 6))]) (S := []) (S2 := fun z => []) (pc' := 16) (kX7_copyAll_0 7 rfl) rfl rfl nkX10_copy mlX7_43 scX10_copy rfl (Nat.le_of_ble_eq_true rfl) (Nat.le_of_ble_eq_true rfl) h (fun z => rfl) (fun r2 φ2 α2 h => ?_)
  refine r_aload_n (pc' := 17) (kX7_copyAll_0 8 rfl) rfl rfl ?_
  refine r_aload_n (pc' := 18) (kX7_copyAll_0 9 rfl) rfl rfl ?_
  refine s_get (x := (φ2 7 7 x1)) (pc' := 21) (kX7_copyAll_0 10 rfl) rfl fkX7_82 rfl rfl rfl (st0 hx1 Ln) rfl ?_
  refine s_put (pc' := 24) (kX7_copyAll_0 11 rfl) rfl fkX7_82 fnX7_7 rfl pk_int (st0 ho Ln) ?_
  refine r_aload_n (pc' := 25) (kX7_copyAll_0 12 rfl) rfl rfl ?_
  refine r_aload_n (pc' := 26) (kX7_copyAll_0 13 rfl) rfl rfl ?_
  refine s_get (x := (φ2 7 8 x1)) (pc' := 29) (kX7_copyAll_0 14 rfl) rfl fkX7_85 rfl rfl rfl (st0 hx1 Ln) rfl ?_
  refine s_put (pc' := 32) (kX7_copyAll_0 15 rfl) rfl fkX7_85 fnX7_8 rfl pk_int (st0 ho Ln) ?_
  exact s_vret (kX7_copyAll_0 16 rfl) rfl h
theorem vX7_sitterAt_0 {d : Nat} {φ : aF} {α : aA} {Q : Int → aF → aA → Prop} {o : Int} {x1 : Int} (ho : isSt o) (h : ((x1 < 0 →
   (Q (-1) φ α)) ∧
   (¬ (x1 < 0) →
   ((9 ≤ x1 →
     (Q (-1) φ α)) ∧
     (¬ (9 ≤ x1) →
     (0 ≤ x1 ∧ x1 < (9 : Nat)) ∧ (Q (α (o + 2) x1) φ α)))))) : eX7_sitterAt d o x1 φ α Q := by
  intro Ln
  refine r_iload_n (pc' := 1) (kX7_sitterAt_0 0 rfl) rfl rfl ?_
  refine r_if_lt (t := 22) (pc' := 4) (kX7_sitterAt_0 1 rfl) rfl rfl (fun c1 => ?_) (fun c1 => ?_)
  · have h := h.1 c1
    refine r_iconst (-1) (pc' := 23) (kX7_sitterAt_0 12 rfl) rfl (by unfold inR; omega) ?_
    exact s_iret (kX7_sitterAt_0 13 rfl) rfl h
  · have h := h.2 c1
    refine r_iload_n (pc' := 5) (kX7_sitterAt_0 2 rfl) rfl rfl ?_
    refine r_aload_n (pc' := 6) (kX7_sitterAt_0 3 rfl) rfl rfl ?_
    refine s_getr (v := (o + 2)) (pc' := 9) (kX7_sitterAt_0 4 rfl) rfl fkX7_15 rfl rfl (st0 ho Ln) rfl (by have := st_pos ho; omega) ?_
    refine s_alen (pc' := 10) (kX7_sitterAt_0 5 rfl) rfl ((st2 ho) Ln) ⟨by decide, by decide⟩ ?_
    refine r_icmp_ge (t := 22) (pc' := 13) (kX7_sitterAt_0 6 rfl) rfl rfl (fun c2 => ?_) (fun c2 => ?_)
    · have h := h.1 c2
      refine r_iconst (-1) (pc' := 23) (kX7_sitterAt_0 12 rfl) rfl (by unfold inR; omega) ?_
      exact s_iret (kX7_sitterAt_0 13 rfl) rfl h
    · have h := h.2 c2
      refine r_aload_n (pc' := 14) (kX7_sitterAt_0 7 rfl) rfl rfl ?_
      refine s_getr (v := (o + 2)) (pc' := 17) (kX7_sitterAt_0 8 rfl) rfl fkX7_15 rfl rfl (st0 ho Ln) rfl (by have := st_pos ho; omega) ?_
      refine r_iload_n (pc' := 18) (kX7_sitterAt_0 9 rfl) rfl rfl ?_
      have g3 := h.1
      have h := h.2
      refine s_iald (x := (α (o + 2) x1)) (pc' := 19) (kX7_sitterAt_0 10 rfl) rfl ((st2 ho) Ln) g3 rfl ?_
      refine r_goto (pc' := 23) (kX7_sitterAt_0 11 rfl) rfl ?_
      exact s_iret (kX7_sitterAt_0 13 rfl) rfl h
theorem vX7_dropsOf_0 {d : Nat} {φ : aF} {α : aA} {Q : Int → aF → aA → Prop} {o : Int} {x1 : Int} {x2 : Int} (ho : isSt o) (h : ((x1 < 0 →
   (Q 0 φ α)) ∧
   (¬ (x1 < 0) →
   ((7 ≤ x1 →
     (Q 0 φ α)) ∧
     (¬ (7 ≤ x1) →
     ((x2 < 0 →
       (Q 0 φ α)) ∧
       (¬ (x2 < 0) →
       ((4 ≤ x2 →
         (Q 0 φ α)) ∧
         (¬ (4 ≤ x2) →
         inR (x1 * 4) ∧ inR ((x1 * 4) + x2) ∧ (0 ≤ ((x1 * 4) + x2) ∧ ((x1 * 4) + x2) < (28 : Nat)) ∧ (Q (α (o + 3) ((x1 * 4) + x2)) φ α)))))))))) : eX7_dropsOf d o x1 x2 φ α Q := by
  intro Ln
  refine r_iload_n (pc' := 1) (kX7_dropsOf_0 0 rfl) rfl rfl ?_
  refine r_if_lt (t := 23) (pc' := 4) (kX7_dropsOf_0 1 rfl) rfl rfl (fun c1 => ?_) (fun c1 => ?_)
  · have h := h.1 c1
    refine r_iconst 0 (pc' := 24) (kX7_dropsOf_0 12 rfl) rfl (by unfold inR; omega) ?_
    refine r_istore_n (L' := [(2, o), (0, x1), (0, x2), (0, 0)]) (pc' := 25) (kX7_dropsOf_0 13 rfl) rfl (Nat.le_of_ble_eq_true rfl) rfl ?_
    refine r_iload_n (pc' := 26) (kX7_dropsOf_0 14 rfl) rfl rfl ?_
    refine r_if_eq (t := 42) (pc' := 29) (kX7_dropsOf_0 15 rfl) rfl rfl (fun _ => ?_) (fun cz => absurd cz (by decide))
    refine r_iconst 0 (pc' := 43) (kX7_dropsOf_0 25 rfl) rfl (by unfold inR; omega) ?_
    exact s_iret (kX7_dropsOf_0 26 rfl) rfl h
  · have h := h.2 c1
    refine r_iload_n (pc' := 5) (kX7_dropsOf_0 2 rfl) rfl rfl ?_
    refine r_bipush 7 (pc' := 7) (kX7_dropsOf_0 3 rfl) rfl ⟨by unfold inR; omega, rfl⟩ ?_
    refine r_icmp_ge (t := 23) (pc' := 10) (kX7_dropsOf_0 4 rfl) rfl rfl (fun c2 => ?_) (fun c2 => ?_)
    · have h := h.1 c2
      refine r_iconst 0 (pc' := 24) (kX7_dropsOf_0 12 rfl) rfl (by unfold inR; omega) ?_
      refine r_istore_n (L' := [(2, o), (0, x1), (0, x2), (0, 0)]) (pc' := 25) (kX7_dropsOf_0 13 rfl) rfl (Nat.le_of_ble_eq_true rfl) rfl ?_
      refine r_iload_n (pc' := 26) (kX7_dropsOf_0 14 rfl) rfl rfl ?_
      refine r_if_eq (t := 42) (pc' := 29) (kX7_dropsOf_0 15 rfl) rfl rfl (fun _ => ?_) (fun cz => absurd cz (by decide))
      refine r_iconst 0 (pc' := 43) (kX7_dropsOf_0 25 rfl) rfl (by unfold inR; omega) ?_
      exact s_iret (kX7_dropsOf_0 26 rfl) rfl h
    · have h := h.2 c2
      refine r_iload_n (pc' := 11) (kX7_dropsOf_0 5 rfl) rfl rfl ?_
      refine r_if_lt (t := 23) (pc' := 14) (kX7_dropsOf_0 6 rfl) rfl rfl (fun c3 => ?_) (fun c3 => ?_)
      · have h := h.1 c3
        refine r_iconst 0 (pc' := 24) (kX7_dropsOf_0 12 rfl) rfl (by unfold inR; omega) ?_
        refine r_istore_n (L' := [(2, o), (0, x1), (0, x2), (0, 0)]) (pc' := 25) (kX7_dropsOf_0 13 rfl) rfl (Nat.le_of_ble_eq_true rfl) rfl ?_
        refine r_iload_n (pc' := 26) (kX7_dropsOf_0 14 rfl) rfl rfl ?_
        refine r_if_eq (t := 42) (pc' := 29) (kX7_dropsOf_0 15 rfl) rfl rfl (fun _ => ?_) (fun cz => absurd cz (by decide))
        refine r_iconst 0 (pc' := 43) (kX7_dropsOf_0 25 rfl) rfl (by unfold inR; omega) ?_
        exact s_iret (kX7_dropsOf_0 26 rfl) rfl h
      · have h := h.2 c3
        refine r_iload_n (pc' := 15) (kX7_dropsOf_0 7 rfl) rfl rfl ?_
        refine r_iconst 4 (pc' := 16) (kX7_dropsOf_0 8 rfl) rfl (by unfold inR; omega) ?_
        refine r_icmp_ge (t := 23) (pc' := 19) (kX7_dropsOf_0 9 rfl) rfl rfl (fun c4 => ?_) (fun c4 => ?_)
        · have h := h.1 c4
          refine r_iconst 0 (pc' := 24) (kX7_dropsOf_0 12 rfl) rfl (by unfold inR; omega) ?_
          refine r_istore_n (L' := [(2, o), (0, x1), (0, x2), (0, 0)]) (pc' := 25) (kX7_dropsOf_0 13 rfl) rfl (Nat.le_of_ble_eq_true rfl) rfl ?_
          refine r_iload_n (pc' := 26) (kX7_dropsOf_0 14 rfl) rfl rfl ?_
          refine r_if_eq (t := 42) (pc' := 29) (kX7_dropsOf_0 15 rfl) rfl rfl (fun _ => ?_) (fun cz => absurd cz (by decide))
          refine r_iconst 0 (pc' := 43) (kX7_dropsOf_0 25 rfl) rfl (by unfold inR; omega) ?_
          exact s_iret (kX7_dropsOf_0 26 rfl) rfl h
        · have h := h.2 c4
          refine r_iconst 1 (pc' := 20) (kX7_dropsOf_0 10 rfl) rfl (by unfold inR; omega) ?_
          refine r_goto (pc' := 24) (kX7_dropsOf_0 11 rfl) rfl ?_
          refine r_istore_n (L' := [(2, o), (0, x1), (0, x2), (0, 1)]) (pc' := 25) (kX7_dropsOf_0 13 rfl) rfl (Nat.le_of_ble_eq_true rfl) rfl ?_
          refine r_iload_n (pc' := 26) (kX7_dropsOf_0 14 rfl) rfl rfl ?_
          refine r_if_eq (t := 42) (pc' := 29) (kX7_dropsOf_0 15 rfl) rfl rfl (fun cz => absurd cz (by decide)) (fun _ => ?_)
          refine r_aload_n (pc' := 30) (kX7_dropsOf_0 16 rfl) rfl rfl ?_
          refine s_getr (v := (o + 3)) (pc' := 33) (kX7_dropsOf_0 17 rfl) rfl fkX7_18 rfl rfl (st0 ho Ln) rfl (by have := st_pos ho; omega) ?_
          refine r_iload_n (pc' := 34) (kX7_dropsOf_0 18 rfl) rfl rfl ?_
          refine r_iconst 4 (pc' := 35) (kX7_dropsOf_0 19 rfl) rfl (by unfold inR; omega) ?_
          have g5 := h.1
          have h := h.2
          refine r_imul (pc' := 36) (kX7_dropsOf_0 20 rfl) rfl g5 ?_
          refine r_iload_n (pc' := 37) (kX7_dropsOf_0 21 rfl) rfl rfl ?_
          have g6 := h.1
          have h := h.2
          refine r_iadd (pc' := 38) (kX7_dropsOf_0 22 rfl) rfl g6 ?_
          have g7 := h.1
          have h := h.2
          refine s_iald (x := (α (o + 3) ((x1 * 4) + x2))) (pc' := 39) (kX7_dropsOf_0 23 rfl) rfl ((st3 ho) Ln) g7 rfl ?_
          refine r_goto (pc' := 43) (kX7_dropsOf_0 24 rfl) rfl ?_
          exact s_iret (kX7_dropsOf_0 26 rfl) rfl h
theorem vX7_farOff_0 {d : Nat} {φ : aF} {α : aA} {Q : Int → aF → aA → Prop} {o : Int} {x1 : Int} {x2 : Int} (ho : isSt o) (h : ((x1 < 0 →
   (Q 0 φ α)) ∧
   (¬ (x1 < 0) →
   ((7 ≤ x1 →
     (Q 0 φ α)) ∧
     (¬ (7 ≤ x1) →
     ((x2 < 0 →
       (Q 0 φ α)) ∧
       (¬ (x2 < 0) →
       ((7 ≤ x2 →
         (Q 0 φ α)) ∧
         (¬ (7 ≤ x2) →
         (0 ≤ x1 ∧ x1 < (7 : Nat)) ∧ (0 ≤ x2 ∧ x2 < (7 : Nat)) ∧ inR ((α (o + 1) x1) - (α (o + 1) x2)) ∧ ((0 ≤ ((α (o + 1) x1) - (α (o + 1) x2)) →
           (Q ((α (o + 1) x1) - (α (o + 1) x2)) φ α)) ∧
           (¬ (0 ≤ ((α (o + 1) x1) - (α (o + 1) x2))) →
           inR (-((α (o + 1) x1) - (α (o + 1) x2))) ∧ (Q (-((α (o + 1) x1) - (α (o + 1) x2))) φ α)))))))))))) : eX7_farOff d o x1 x2 φ α Q := by
  intro Ln
  refine r_iload_n (pc' := 1) (kX7_farOff_0 0 rfl) rfl rfl ?_
  refine r_if_lt (t := 24) (pc' := 4) (kX7_farOff_0 1 rfl) rfl rfl (fun c1 => ?_) (fun c1 => ?_)
  · have h := h.1 c1
    refine r_iconst 0 (pc' := 25) (kX7_farOff_0 12 rfl) rfl (by unfold inR; omega) ?_
    refine r_istore_n (L' := [(2, o), (0, x1), (0, x2), (0, 0), (9, 0)]) (pc' := 26) (kX7_farOff_0 13 rfl) rfl (Nat.le_of_ble_eq_true rfl) rfl ?_
    refine r_iload_n (pc' := 27) (kX7_farOff_0 14 rfl) rfl rfl ?_
    refine r_if_eq (t := 46) (pc' := 30) (kX7_farOff_0 15 rfl) rfl rfl (fun _ => ?_) (fun cz => absurd cz (by decide))
    refine r_iconst 0 (pc' := 47) (kX7_farOff_0 26 rfl) rfl (by unfold inR; omega) ?_
    refine r_istore (L' := [(2, o), (0, x1), (0, x2), (0, 0), (0, 0)]) (pc' := 49) (kX7_farOff_0 27 rfl) rfl (Nat.le_of_ble_eq_true rfl) rfl ?_
    refine r_iload (pc' := 51) (kX7_farOff_0 28 rfl) rfl rfl ?_
    refine r_if_ge (t := 60) (pc' := 54) (kX7_farOff_0 29 rfl) rfl rfl (fun _ => ?_) (fun cz => absurd cz (by decide))
    refine r_iload (pc' := 62) (kX7_farOff_0 33 rfl) rfl rfl ?_
    exact s_iret (kX7_farOff_0 34 rfl) rfl h
  · have h := h.2 c1
    refine r_iload_n (pc' := 5) (kX7_farOff_0 2 rfl) rfl rfl ?_
    refine r_bipush 7 (pc' := 7) (kX7_farOff_0 3 rfl) rfl ⟨by unfold inR; omega, rfl⟩ ?_
    refine r_icmp_ge (t := 24) (pc' := 10) (kX7_farOff_0 4 rfl) rfl rfl (fun c2 => ?_) (fun c2 => ?_)
    · have h := h.1 c2
      refine r_iconst 0 (pc' := 25) (kX7_farOff_0 12 rfl) rfl (by unfold inR; omega) ?_
      refine r_istore_n (L' := [(2, o), (0, x1), (0, x2), (0, 0), (9, 0)]) (pc' := 26) (kX7_farOff_0 13 rfl) rfl (Nat.le_of_ble_eq_true rfl) rfl ?_
      refine r_iload_n (pc' := 27) (kX7_farOff_0 14 rfl) rfl rfl ?_
      refine r_if_eq (t := 46) (pc' := 30) (kX7_farOff_0 15 rfl) rfl rfl (fun _ => ?_) (fun cz => absurd cz (by decide))
      refine r_iconst 0 (pc' := 47) (kX7_farOff_0 26 rfl) rfl (by unfold inR; omega) ?_
      refine r_istore (L' := [(2, o), (0, x1), (0, x2), (0, 0), (0, 0)]) (pc' := 49) (kX7_farOff_0 27 rfl) rfl (Nat.le_of_ble_eq_true rfl) rfl ?_
      refine r_iload (pc' := 51) (kX7_farOff_0 28 rfl) rfl rfl ?_
      refine r_if_ge (t := 60) (pc' := 54) (kX7_farOff_0 29 rfl) rfl rfl (fun _ => ?_) (fun cz => absurd cz (by decide))
      refine r_iload (pc' := 62) (kX7_farOff_0 33 rfl) rfl rfl ?_
      exact s_iret (kX7_farOff_0 34 rfl) rfl h
    · have h := h.2 c2
      refine r_iload_n (pc' := 11) (kX7_farOff_0 5 rfl) rfl rfl ?_
      refine r_if_lt (t := 24) (pc' := 14) (kX7_farOff_0 6 rfl) rfl rfl (fun c3 => ?_) (fun c3 => ?_)
      · have h := h.1 c3
        refine r_iconst 0 (pc' := 25) (kX7_farOff_0 12 rfl) rfl (by unfold inR; omega) ?_
        refine r_istore_n (L' := [(2, o), (0, x1), (0, x2), (0, 0), (9, 0)]) (pc' := 26) (kX7_farOff_0 13 rfl) rfl (Nat.le_of_ble_eq_true rfl) rfl ?_
        refine r_iload_n (pc' := 27) (kX7_farOff_0 14 rfl) rfl rfl ?_
        refine r_if_eq (t := 46) (pc' := 30) (kX7_farOff_0 15 rfl) rfl rfl (fun _ => ?_) (fun cz => absurd cz (by decide))
        refine r_iconst 0 (pc' := 47) (kX7_farOff_0 26 rfl) rfl (by unfold inR; omega) ?_
        refine r_istore (L' := [(2, o), (0, x1), (0, x2), (0, 0), (0, 0)]) (pc' := 49) (kX7_farOff_0 27 rfl) rfl (Nat.le_of_ble_eq_true rfl) rfl ?_
        refine r_iload (pc' := 51) (kX7_farOff_0 28 rfl) rfl rfl ?_
        refine r_if_ge (t := 60) (pc' := 54) (kX7_farOff_0 29 rfl) rfl rfl (fun _ => ?_) (fun cz => absurd cz (by decide))
        refine r_iload (pc' := 62) (kX7_farOff_0 33 rfl) rfl rfl ?_
        exact s_iret (kX7_farOff_0 34 rfl) rfl h
      · have h := h.2 c3
        refine r_iload_n (pc' := 15) (kX7_farOff_0 7 rfl) rfl rfl ?_
        refine r_bipush 7 (pc' := 17) (kX7_farOff_0 8 rfl) rfl ⟨by unfold inR; omega, rfl⟩ ?_
        refine r_icmp_ge (t := 24) (pc' := 20) (kX7_farOff_0 9 rfl) rfl rfl (fun c4 => ?_) (fun c4 => ?_)
        · have h := h.1 c4
          refine r_iconst 0 (pc' := 25) (kX7_farOff_0 12 rfl) rfl (by unfold inR; omega) ?_
          refine r_istore_n (L' := [(2, o), (0, x1), (0, x2), (0, 0), (9, 0)]) (pc' := 26) (kX7_farOff_0 13 rfl) rfl (Nat.le_of_ble_eq_true rfl) rfl ?_
          refine r_iload_n (pc' := 27) (kX7_farOff_0 14 rfl) rfl rfl ?_
          refine r_if_eq (t := 46) (pc' := 30) (kX7_farOff_0 15 rfl) rfl rfl (fun _ => ?_) (fun cz => absurd cz (by decide))
          refine r_iconst 0 (pc' := 47) (kX7_farOff_0 26 rfl) rfl (by unfold inR; omega) ?_
          refine r_istore (L' := [(2, o), (0, x1), (0, x2), (0, 0), (0, 0)]) (pc' := 49) (kX7_farOff_0 27 rfl) rfl (Nat.le_of_ble_eq_true rfl) rfl ?_
          refine r_iload (pc' := 51) (kX7_farOff_0 28 rfl) rfl rfl ?_
          refine r_if_ge (t := 60) (pc' := 54) (kX7_farOff_0 29 rfl) rfl rfl (fun _ => ?_) (fun cz => absurd cz (by decide))
          refine r_iload (pc' := 62) (kX7_farOff_0 33 rfl) rfl rfl ?_
          exact s_iret (kX7_farOff_0 34 rfl) rfl h
        · have h := h.2 c4
          refine r_iconst 1 (pc' := 21) (kX7_farOff_0 10 rfl) rfl (by unfold inR; omega) ?_
          refine r_goto (pc' := 25) (kX7_farOff_0 11 rfl) rfl ?_
          refine r_istore_n (L' := [(2, o), (0, x1), (0, x2), (0, 1), (9, 0)]) (pc' := 26) (kX7_farOff_0 13 rfl) rfl (Nat.le_of_ble_eq_true rfl) rfl ?_
          refine r_iload_n (pc' := 27) (kX7_farOff_0 14 rfl) rfl rfl ?_
          refine r_if_eq (t := 46) (pc' := 30) (kX7_farOff_0 15 rfl) rfl rfl (fun cz => absurd cz (by decide)) (fun _ => ?_)
          refine r_aload_n (pc' := 31) (kX7_farOff_0 16 rfl) rfl rfl ?_
          refine s_getr (v := (o + 1)) (pc' := 34) (kX7_farOff_0 17 rfl) rfl fkX7_9 rfl rfl (st0 ho Ln) rfl (by have := st_pos ho; omega) ?_
          refine r_iload_n (pc' := 35) (kX7_farOff_0 18 rfl) rfl rfl ?_
          have g5 := h.1
          have h := h.2
          refine s_iald (x := (α (o + 1) x1)) (pc' := 36) (kX7_farOff_0 19 rfl) rfl ((st1 ho) Ln) g5 rfl ?_
          refine r_aload_n (pc' := 37) (kX7_farOff_0 20 rfl) rfl rfl ?_
          refine s_getr (v := (o + 1)) (pc' := 40) (kX7_farOff_0 21 rfl) rfl fkX7_9 rfl rfl (st0 ho Ln) rfl (by have := st_pos ho; omega) ?_
          refine r_iload_n (pc' := 41) (kX7_farOff_0 22 rfl) rfl rfl ?_
          have g6 := h.1
          have h := h.2
          refine s_iald (x := (α (o + 1) x2)) (pc' := 42) (kX7_farOff_0 23 rfl) rfl ((st1 ho) Ln) g6 rfl ?_
          have g7 := h.1
          have h := h.2
          refine r_isub (pc' := 43) (kX7_farOff_0 24 rfl) rfl g7 ?_
          refine r_goto (pc' := 47) (kX7_farOff_0 25 rfl) rfl ?_
          refine r_istore (L' := [(2, o), (0, x1), (0, x2), (0, 1), (0, ((α (o + 1) x1) - (α (o + 1) x2)))]) (pc' := 49) (kX7_farOff_0 27 rfl) rfl (Nat.le_of_ble_eq_true rfl) rfl ?_
          refine r_iload (pc' := 51) (kX7_farOff_0 28 rfl) rfl rfl ?_
          refine r_if_ge (t := 60) (pc' := 54) (kX7_farOff_0 29 rfl) rfl rfl (fun c8 => ?_) (fun c8 => ?_)
          · have h := h.1 c8
            refine r_iload (pc' := 62) (kX7_farOff_0 33 rfl) rfl rfl ?_
            exact s_iret (kX7_farOff_0 34 rfl) rfl h
          · have h := h.2 c8
            refine r_iload (pc' := 56) (kX7_farOff_0 30 rfl) rfl rfl ?_
            have g9 := h.1
            have h := h.2
            refine r_ineg (pc' := 57) (kX7_farOff_0 31 rfl) rfl g9 ?_
            refine r_goto (pc' := 62) (kX7_farOff_0 32 rfl) rfl ?_
            exact s_iret (kX7_farOff_0 34 rfl) rfl h
theorem vX7_gain_0 {d : Nat} {φ : aF} {α : aA} {Q : Int → aF → aA → Prop} {o : Int} {x1 : Int} {x2 : Int} {x3 : Int} (ho : isSt o) (h : inR (x1 * 4) ∧ inR ((x1 * 4) + x2) ∧ (eX10_add d (o + 3) ((x1 * 4) + x2) x3 φ α (fun r3 φ3 α3 =>
   (eX10_add d (o + 4) x1 x3 φ3 α3 (fun r4 φ4 α4 =>
   (Q 0 (upf φ4 7 9 o 0) α4)))))) : eX7_gain (d + 1) o x1 x2 x3 φ α Q := by
  intro Ln
  refine r_aload_n (pc' := 1) (kX7_gain_0 0 rfl) rfl rfl ?_
  refine s_getr (v := (o + 3)) (pc' := 4) (kX7_gain_0 1 rfl) rfl fkX7_18 rfl rfl (st0 ho Ln) rfl (by have := st_pos ho; omega) ?_
  refine r_iload_n (pc' := 5) (kX7_gain_0 2 rfl) rfl rfl ?_
  refine r_iconst 4 (pc' := 6) (kX7_gain_0 3 rfl) rfl (by unfold inR; omega) ?_
  have g1 := h.1
  have h := h.2
  refine r_imul (pc' := 7) (kX7_gain_0 4 rfl) rfl g1 ?_
  refine r_iload_n (pc' := 8) (kX7_gain_0 5 rfl) rfl rfl ?_
  have g2 := h.1
  have h := h.2
  refine r_iadd (pc' := 9) (kX7_gain_0 6 rfl) rfl g2 ?_
  refine r_iload_n (pc' := 10) (kX7_gain_0 7 rfl) rfl rfl ?_
  refine s_callS (As := [(2, (o + 3)), (0, ((x1 * 4) + x2)), (0, x3)]) (S := []) (S2 := fun z => []) (pc' := 13) (kX7_gain_0 8 rfl) rfl rfl nkX10_add mlX7_88 scX10_add rfl (Nat.le_of_ble_eq_true rfl) (Nat.le_of_ble_eq_true rfl) h (fun z => rfl) (fun r3 φ3 α3 h => ?_)
  refine r_aload_n (pc' := 14) (kX7_gain_0 9 rfl) rfl rfl ?_
  refine s_getr (v := (o + 4)) (pc' := 17) (kX7_gain_0 10 rfl) rfl fkX7_21 rfl rfl (st0 ho Ln) rfl (by have := st_pos ho; omega) ?_
  refine r_iload_n (pc' := 18) (kX7_gain_0 11 rfl) rfl rfl ?_
  refine r_iload_n (pc' := 19) (kX7_gain_0 12 rfl) rfl rfl ?_
  refine s_callS (As := [(2, (o + 4)), (0, x1), (0, x3)]) (S := []) (S2 := fun z => []) (pc' := 22) (kX7_gain_0 13 rfl) rfl rfl nkX10_add mlX7_88 scX10_add rfl (Nat.le_of_ble_eq_true rfl) (Nat.le_of_ble_eq_true rfl) h (fun z => rfl) (fun r4 φ4 α4 h => ?_)
  refine r_aload_n (pc' := 23) (kX7_gain_0 14 rfl) rfl rfl ?_
  refine r_iconst 0 (pc' := 24) (kX7_gain_0 15 rfl) rfl (by unfold inR; omega) ?_
  refine s_put (pc' := 27) (kX7_gain_0 16 rfl) rfl fkX7_63 fnX7_9 rfl (pk_bool (Or.inl rfl)) (st0 ho Ln) ?_
  exact s_vret (kX7_gain_0 17 rfl) rfl h
theorem vX7_poolOf_0 {d : Nat} {φ : aF} {α : aA} {Q : Int → aF → aA → Prop} {o : Int} {x1 : Int} {x2 : Int} (ho : isSt o) (h : inR (x1 * 4) ∧ inR ((x1 * 4) + x2) ∧ (eX10_pick d (o + 5) ((x1 * 4) + x2) φ α (fun r3 φ3 α3 =>
   (Q r3 φ3 α3)))) : eX7_poolOf (d + 1) o x1 x2 φ α Q := by
  intro Ln
  refine r_aload_n (pc' := 1) (kX7_poolOf_0 0 rfl) rfl rfl ?_
  refine s_getr (v := (o + 5)) (pc' := 4) (kX7_poolOf_0 1 rfl) rfl fkX7_24 rfl rfl (st0 ho Ln) rfl (by have := st_pos ho; omega) ?_
  refine r_iload_n (pc' := 5) (kX7_poolOf_0 2 rfl) rfl rfl ?_
  refine r_iconst 4 (pc' := 6) (kX7_poolOf_0 3 rfl) rfl (by unfold inR; omega) ?_
  have g1 := h.1
  have h := h.2
  refine r_imul (pc' := 7) (kX7_poolOf_0 4 rfl) rfl g1 ?_
  refine r_iload_n (pc' := 8) (kX7_poolOf_0 5 rfl) rfl rfl ?_
  have g2 := h.1
  have h := h.2
  refine r_iadd (pc' := 9) (kX7_poolOf_0 6 rfl) rfl g2 ?_
  refine s_callS (As := [(2, (o + 5)), (0, ((x1 * 4) + x2))]) (S := []) (S2 := fun z => [(0, z)]) (pc' := 12) (kX7_poolOf_0 7 rfl) rfl rfl nkX10_pick mlX7_67 scX10_pick rfl (Nat.le_of_ble_eq_true rfl) (Nat.le_of_ble_eq_true rfl) h (fun z => rfl) (fun r3 φ3 α3 h => ?_)
  exact s_iret (kX7_poolOf_0 8 rfl) rfl h
theorem vX7_addToPool_0 {d : Nat} {φ : aF} {α : aA} {Q : Int → aF → aA → Prop} {o : Int} {x1 : Int} {x2 : Int} {x3 : Int} (ho : isSt o) (h : (eX7_poolOf d o x1 x2 φ α (fun r1 φ1 α1 =>
   inR (r1 + x3) ∧ (eJ9_min_7cf53 d 9999 (r1 + x3) φ1 α1 (fun r3 φ3 α3 =>
   inR (x1 * 4) ∧ inR ((x1 * 4) + x2) ∧ (eX10_set d (o + 5) ((x1 * 4) + x2) r3 φ3 α3 (fun r6 φ6 α6 =>
   (Q 0 φ6 α6)))))))) : eX7_addToPool (d + 1) o x1 x2 x3 φ α Q := by
  intro Ln
  refine r_sipush 9999 (pc' := 3) (kX7_addToPool_0 0 rfl) rfl ⟨by unfold inR; omega, rfl⟩ ?_
  refine r_aload_n (pc' := 4) (kX7_addToPool_0 1 rfl) rfl rfl ?_
  refine r_iload_n (pc' := 5) (kX7_addToPool_0 2 rfl) rfl rfl ?_
  refine r_iload_n (pc' := 6) (kX7_addToPool_0 3 rfl) rfl rfl ?_
  refine s_callV (As := [(0, x1), (0, x2)]) (o := o) (S := [(0, 9999)]) (S2 := fun z => [(0, z), (0, 9999)]) (pc' := 9) (kX7_addToPool_0 4 rfl) rfl rfl nkX7_poolOf mlX7_91 imX7_poolOf rfl slX7_poolOf rfl (Nat.le_of_ble_eq_true rfl) (Nat.le_of_ble_eq_true rfl) (st0 ho Ln) h (fun z => rfl) (fun r1 φ1 α1 h => ?_)
  refine r_iload_n (pc' := 10) (kX7_addToPool_0 5 rfl) rfl rfl ?_
  have g2 := h.1
  have h := h.2
  refine r_iadd (pc' := 11) (kX7_addToPool_0 6 rfl) rfl g2 ?_
  refine s_callS (As := [(0, 9999), (0, (r1 + x3))]) (S := []) (S2 := fun z => [(0, z)]) (pc' := 14) (kX7_addToPool_0 7 rfl) rfl rfl nkJ9_min_7cf53 mlX7_95 scJ9_min_7cf53 rfl (Nat.le_of_ble_eq_true rfl) (Nat.le_of_ble_eq_true rfl) h (fun z => rfl) (fun r3 φ3 α3 h => ?_)
  refine r_istore (L' := [(2, o), (0, x1), (0, x2), (0, x3), (0, r3)]) (pc' := 16) (kX7_addToPool_0 8 rfl) rfl (Nat.le_of_ble_eq_true rfl) rfl ?_
  refine r_aload_n (pc' := 17) (kX7_addToPool_0 9 rfl) rfl rfl ?_
  refine s_getr (v := (o + 5)) (pc' := 20) (kX7_addToPool_0 10 rfl) rfl fkX7_24 rfl rfl (st0 ho Ln) rfl (by have := st_pos ho; omega) ?_
  refine r_iload_n (pc' := 21) (kX7_addToPool_0 11 rfl) rfl rfl ?_
  refine r_iconst 4 (pc' := 22) (kX7_addToPool_0 12 rfl) rfl (by unfold inR; omega) ?_
  have g4 := h.1
  have h := h.2
  refine r_imul (pc' := 23) (kX7_addToPool_0 13 rfl) rfl g4 ?_
  refine r_iload_n (pc' := 24) (kX7_addToPool_0 14 rfl) rfl rfl ?_
  have g5 := h.1
  have h := h.2
  refine r_iadd (pc' := 25) (kX7_addToPool_0 15 rfl) rfl g5 ?_
  refine r_iload (pc' := 27) (kX7_addToPool_0 16 rfl) rfl rfl ?_
  refine s_callS (As := [(2, (o + 5)), (0, ((x1 * 4) + x2)), (0, r3)]) (S := []) (S2 := fun z => []) (pc' := 30) (kX7_addToPool_0 17 rfl) rfl rfl nkX10_set mlX7_71 scX10_set rfl (Nat.le_of_ble_eq_true rfl) (Nat.le_of_ble_eq_true rfl) h (fun z => rfl) (fun r6 φ6 α6 h => ?_)
  exact s_vret (kX7_addToPool_0 18 rfl) rfl h
abbrev jX7_pooled_4 (d : Nat) (o x1 x2 x3 : Int) (φ : aF) (α : aA) (Q : Int → aF → aA → Prop) : Prop := R0 d mX7_pooled 4 [(2, o), (0, x1), (0, x2), (0, x3)] [] φ α Q
theorem vX7_pooled_0 {d : Nat} {φ : aF} {α : aA} {Q : Int → aF → aA → Prop} {o : Int} {x1 : Int} (ho : isSt o) (h : (jX7_pooled_4 (d + 1) o x1 0 0 φ α Q)) : eX7_pooled (d + 1) o x1 φ α Q := by
  intro Ln
  refine r_iconst 0 (pc' := 1) (kX7_pooled_0 0 rfl) rfl (by unfold inR; omega) ?_
  refine r_istore_n (L' := [(2, o), (0, x1), (0, 0), (9, 0)]) (pc' := 2) (kX7_pooled_0 1 rfl) rfl (Nat.le_of_ble_eq_true rfl) rfl ?_
  refine r_iconst 0 (pc' := 3) (kX7_pooled_0 2 rfl) rfl (by unfold inR; omega) ?_
  refine r_istore_n (L' := [(2, o), (0, x1), (0, 0), (0, 0)]) (pc' := 4) (kX7_pooled_0 3 rfl) rfl (Nat.le_of_ble_eq_true rfl) rfl ?_
  exact r_weak (L' := [(2, o), (0, x1), (0, 0), (0, 0)]) ⟨Or.inl rfl, Or.inl rfl, Or.inl rfl, Or.inl rfl, trivial⟩ (h Ln)
theorem vX7_pooled_4 {d : Nat} {φ : aF} {α : aA} {Q : Int → aF → aA → Prop} {o : Int} {x1 : Int} {x2 : Int} {x3 : Int} (ho : isSt o) (h : ((4 ≤ x3 →
   (Q x2 φ α)) ∧
   (¬ (4 ≤ x3) →
   (eX7_poolOf d o x1 x3 φ α (fun r2 φ2 α2 =>
     inR (x2 + r2) ∧ inR (x3 + 1) ∧ (jX7_pooled_4 (d + 1) o x1 (x2 + r2) (x3 + 1) φ2 α2 Q)))))) : jX7_pooled_4 (d + 1) o x1 x2 x3 φ α Q := by
  intro Ln
  refine r_iload_n (pc' := 5) (kX7_pooled_0 4 rfl) rfl rfl ?_
  refine r_iconst 4 (pc' := 6) (kX7_pooled_0 5 rfl) rfl (by unfold inR; omega) ?_
  refine r_icmp_ge (t := 24) (pc' := 9) (kX7_pooled_0 6 rfl) rfl rfl (fun c1 => ?_) (fun c1 => ?_)
  · have h := h.1 c1
    refine r_iload_n (pc' := 25) (kX7_pooled_0 16 rfl) rfl rfl ?_
    exact s_iret (kX7_pooled_0 17 rfl) rfl h
  · have h := h.2 c1
    refine r_iload_n (pc' := 10) (kX7_pooled_0 7 rfl) rfl rfl ?_
    refine r_aload_n (pc' := 11) (kX7_pooled_0 8 rfl) rfl rfl ?_
    refine r_iload_n (pc' := 12) (kX7_pooled_0 9 rfl) rfl rfl ?_
    refine r_iload_n (pc' := 13) (kX7_pooled_0 10 rfl) rfl rfl ?_
    refine s_callV (As := [(0, x1), (0, x3)]) (o := o) (S := [(0, x2)]) (S2 := fun z => [(0, z), (0, x2)]) (pc' := 16) (kX7_pooled_0 11 rfl) rfl rfl nkX7_poolOf mlX7_91 imX7_poolOf rfl slX7_poolOf rfl (Nat.le_of_ble_eq_true rfl) (Nat.le_of_ble_eq_true rfl) (st0 ho Ln) h (fun z => rfl) (fun r2 φ2 α2 h => ?_)
    have g3 := h.1
    have h := h.2
    refine r_iadd (pc' := 17) (kX7_pooled_0 12 rfl) rfl g3 ?_
    refine r_istore_n (L' := [(2, o), (0, x1), (0, (x2 + r2)), (0, x3)]) (pc' := 18) (kX7_pooled_0 13 rfl) rfl (Nat.le_of_ble_eq_true rfl) rfl ?_
    have g4 := h.1
    have h := h.2
    refine r_iinc (L' := [(2, o), (0, x1), (0, (x2 + r2)), (0, (x3 + 1))]) (pc' := 21) (kX7_pooled_0 14 rfl) rfl (Nat.le_of_ble_eq_true rfl) rfl g4 rfl ?_
    refine r_goto (pc' := 4) (kX7_pooled_0 15 rfl) rfl ?_
    exact r_weak (L' := [(2, o), (0, x1), (0, (x2 + r2)), (0, (x3 + 1))]) ⟨Or.inl rfl, Or.inl rfl, Or.inl rfl, Or.inl rfl, trivial⟩ (h Ln)
abbrev jX7_heldOf_4 (d : Nat) (o x1 x2 x3 : Int) (φ : aF) (α : aA) (Q : Int → aF → aA → Prop) : Prop := R0 d mX7_heldOf 4 [(2, o), (0, x1), (0, x2), (0, x3)] [] φ α Q
theorem vX7_heldOf_0 {d : Nat} {φ : aF} {α : aA} {Q : Int → aF → aA → Prop} {o : Int} {x1 : Int} (ho : isSt o) (h : (jX7_heldOf_4 (d + 1) o x1 0 0 φ α Q)) : eX7_heldOf (d + 1) o x1 φ α Q := by
  intro Ln
  refine r_iconst 0 (pc' := 1) (kX7_heldOf_0 0 rfl) rfl (by unfold inR; omega) ?_
  refine r_istore_n (L' := [(2, o), (0, x1), (0, 0), (9, 0)]) (pc' := 2) (kX7_heldOf_0 1 rfl) rfl (Nat.le_of_ble_eq_true rfl) rfl ?_
  refine r_iconst 0 (pc' := 3) (kX7_heldOf_0 2 rfl) rfl (by unfold inR; omega) ?_
  refine r_istore_n (L' := [(2, o), (0, x1), (0, 0), (0, 0)]) (pc' := 4) (kX7_heldOf_0 3 rfl) rfl (Nat.le_of_ble_eq_true rfl) rfl ?_
  exact r_weak (L' := [(2, o), (0, x1), (0, 0), (0, 0)]) ⟨Or.inl rfl, Or.inl rfl, Or.inl rfl, Or.inl rfl, trivial⟩ (h Ln)
theorem vX7_heldOf_4 {d : Nat} {φ : aF} {α : aA} {Q : Int → aF → aA → Prop} {o : Int} {x1 : Int} {x2 : Int} {x3 : Int} (ho : isSt o) (h : ((7 ≤ x3 →
   (Q x2 φ α)) ∧
   (¬ (7 ≤ x3) →
   (eX7_dropsOf d o x3 x1 φ α (fun r2 φ2 α2 =>
     inR (x2 + r2) ∧ inR (x3 + 1) ∧ (jX7_heldOf_4 (d + 1) o x1 (x2 + r2) (x3 + 1) φ2 α2 Q)))))) : jX7_heldOf_4 (d + 1) o x1 x2 x3 φ α Q := by
  intro Ln
  refine r_iload_n (pc' := 5) (kX7_heldOf_0 4 rfl) rfl rfl ?_
  refine r_bipush 7 (pc' := 7) (kX7_heldOf_0 5 rfl) rfl ⟨by unfold inR; omega, rfl⟩ ?_
  refine r_icmp_ge (t := 25) (pc' := 10) (kX7_heldOf_0 6 rfl) rfl rfl (fun c1 => ?_) (fun c1 => ?_)
  · have h := h.1 c1
    refine r_iload_n (pc' := 26) (kX7_heldOf_0 16 rfl) rfl rfl ?_
    exact s_iret (kX7_heldOf_0 17 rfl) rfl h
  · have h := h.2 c1
    refine r_iload_n (pc' := 11) (kX7_heldOf_0 7 rfl) rfl rfl ?_
    refine r_aload_n (pc' := 12) (kX7_heldOf_0 8 rfl) rfl rfl ?_
    refine r_iload_n (pc' := 13) (kX7_heldOf_0 9 rfl) rfl rfl ?_
    refine r_iload_n (pc' := 14) (kX7_heldOf_0 10 rfl) rfl rfl ?_
    refine s_callV (As := [(0, x3), (0, x1)]) (o := o) (S := [(0, x2)]) (S2 := fun z => [(0, z), (0, x2)]) (pc' := 17) (kX7_heldOf_0 11 rfl) rfl rfl nkX7_dropsOf mlX7_100 imX7_dropsOf rfl slX7_dropsOf rfl (Nat.le_of_ble_eq_true rfl) (Nat.le_of_ble_eq_true rfl) (st0 ho Ln) h (fun z => rfl) (fun r2 φ2 α2 h => ?_)
    have g3 := h.1
    have h := h.2
    refine r_iadd (pc' := 18) (kX7_heldOf_0 12 rfl) rfl g3 ?_
    refine r_istore_n (L' := [(2, o), (0, x1), (0, (x2 + r2)), (0, x3)]) (pc' := 19) (kX7_heldOf_0 13 rfl) rfl (Nat.le_of_ble_eq_true rfl) rfl ?_
    have g4 := h.1
    have h := h.2
    refine r_iinc (L' := [(2, o), (0, x1), (0, (x2 + r2)), (0, (x3 + 1))]) (pc' := 22) (kX7_heldOf_0 14 rfl) rfl (Nat.le_of_ble_eq_true rfl) rfl g4 rfl ?_
    refine r_goto (pc' := 4) (kX7_heldOf_0 15 rfl) rfl ?_
    exact r_weak (L' := [(2, o), (0, x1), (0, (x2 + r2)), (0, (x3 + 1))]) ⟨Or.inl rfl, Or.inl rfl, Or.inl rfl, Or.inl rfl, trivial⟩ (h Ln)
abbrev jX7_knowing_4 (d : Nat) (o x1 x2 x3 : Int) (φ : aF) (α : aA) (Q : Int → aF → aA → Prop) : Prop := R0 d mX7_knowing 4 [(2, o), (0, x1), (0, x2), (0, x3)] [] φ α Q
theorem vX7_knowing_0 {d : Nat} {φ : aF} {α : aA} {Q : Int → aF → aA → Prop} {o : Int} {x1 : Int} (ho : isSt o) (h : (jX7_knowing_4 (d + 1) o x1 0 0 φ α Q)) : eX7_knowing (d + 1) o x1 φ α Q := by
  intro Ln
  refine r_iconst 0 (pc' := 1) (kX7_knowing_0 0 rfl) rfl (by unfold inR; omega) ?_
  refine r_istore_n (L' := [(2, o), (0, x1), (0, 0), (9, 0)]) (pc' := 2) (kX7_knowing_0 1 rfl) rfl (Nat.le_of_ble_eq_true rfl) rfl ?_
  refine r_iconst 0 (pc' := 3) (kX7_knowing_0 2 rfl) rfl (by unfold inR; omega) ?_
  refine r_istore_n (L' := [(2, o), (0, x1), (0, 0), (0, 0)]) (pc' := 4) (kX7_knowing_0 3 rfl) rfl (Nat.le_of_ble_eq_true rfl) rfl ?_
  exact r_weak (L' := [(2, o), (0, x1), (0, 0), (0, 0)]) ⟨Or.inl rfl, Or.inl rfl, Or.inl rfl, Or.inl rfl, trivial⟩ (h Ln)
theorem vX7_knowing_4 {d : Nat} {φ : aF} {α : aA} {Q : Int → aF → aA → Prop} {o : Int} {x1 : Int} {x2 : Int} {x3 : Int} (ho : isSt o) (h : ((7 ≤ x3 →
   (Q x2 φ α)) ∧
   (¬ (7 ≤ x3) →
   (eX7_dropsOf d o x3 x1 φ α (fun r2 φ2 α2 =>
     ((r2 ≤ 0 →
     inR (x3 + 1) ∧ (jX7_knowing_4 (d + 1) o x1 x2 (x3 + 1) φ2 α2 Q)) ∧
     (¬ (r2 ≤ 0) →
     inR (x3 + 1) ∧ (jX7_knowing_4 (d + 1) o x1 (iOr x2 (iShl 1 x3)) (x3 + 1) φ2 α2 Q)))))))) : jX7_knowing_4 (d + 1) o x1 x2 x3 φ α Q := by
  intro Ln
  refine r_iload_n (pc' := 5) (kX7_knowing_0 4 rfl) rfl rfl ?_
  refine r_bipush 7 (pc' := 7) (kX7_knowing_0 5 rfl) rfl ⟨by unfold inR; omega, rfl⟩ ?_
  refine r_icmp_ge (t := 31) (pc' := 10) (kX7_knowing_0 6 rfl) rfl rfl (fun c1 => ?_) (fun c1 => ?_)
  · have h := h.1 c1
    refine r_iload_n (pc' := 32) (kX7_knowing_0 20 rfl) rfl rfl ?_
    exact s_iret (kX7_knowing_0 21 rfl) rfl h
  · have h := h.2 c1
    refine r_aload_n (pc' := 11) (kX7_knowing_0 7 rfl) rfl rfl ?_
    refine r_iload_n (pc' := 12) (kX7_knowing_0 8 rfl) rfl rfl ?_
    refine r_iload_n (pc' := 13) (kX7_knowing_0 9 rfl) rfl rfl ?_
    refine s_callV (As := [(0, x3), (0, x1)]) (o := o) (S := []) (S2 := fun z => [(0, z)]) (pc' := 16) (kX7_knowing_0 10 rfl) rfl rfl nkX7_dropsOf mlX7_100 imX7_dropsOf rfl slX7_dropsOf rfl (Nat.le_of_ble_eq_true rfl) (Nat.le_of_ble_eq_true rfl) (st0 ho Ln) h (fun z => rfl) (fun r2 φ2 α2 h => ?_)
    refine r_if_le (t := 25) (pc' := 19) (kX7_knowing_0 11 rfl) rfl rfl (fun c3 => ?_) (fun c3 => ?_)
    · have h := h.1 c3
      have g4 := h.1
      have h := h.2
      refine r_iinc (L' := [(2, o), (0, x1), (0, x2), (0, (x3 + 1))]) (pc' := 28) (kX7_knowing_0 18 rfl) rfl (Nat.le_of_ble_eq_true rfl) rfl g4 rfl ?_
      refine r_goto (pc' := 4) (kX7_knowing_0 19 rfl) rfl ?_
      exact r_weak (L' := [(2, o), (0, x1), (0, x2), (0, (x3 + 1))]) ⟨Or.inl rfl, Or.inl rfl, Or.inl rfl, Or.inl rfl, trivial⟩ (h Ln)
    · have h := h.2 c3
      refine r_iload_n (pc' := 20) (kX7_knowing_0 12 rfl) rfl rfl ?_
      refine r_iconst 1 (pc' := 21) (kX7_knowing_0 13 rfl) rfl (by unfold inR; omega) ?_
      refine r_iload_n (pc' := 22) (kX7_knowing_0 14 rfl) rfl rfl ?_
      refine r_ishl (pc' := 23) (kX7_knowing_0 15 rfl) rfl ?_
      refine r_ior (pc' := 24) (kX7_knowing_0 16 rfl) rfl ?_
      refine r_istore_n (L' := [(2, o), (0, x1), (0, (iOr x2 (iShl 1 x3))), (0, x3)]) (pc' := 25) (kX7_knowing_0 17 rfl) rfl (Nat.le_of_ble_eq_true rfl) rfl ?_
      have g5 := h.1
      have h := h.2
      refine r_iinc (L' := [(2, o), (0, x1), (0, (iOr x2 (iShl 1 x3))), (0, (x3 + 1))]) (pc' := 28) (kX7_knowing_0 18 rfl) rfl (Nat.le_of_ble_eq_true rfl) rfl g5 rfl ?_
      refine r_goto (pc' := 4) (kX7_knowing_0 19 rfl) rfl ?_
      exact r_weak (L' := [(2, o), (0, x1), (0, (iOr x2 (iShl 1 x3))), (0, (x3 + 1))]) ⟨Or.inl rfl, Or.inl rfl, Or.inl rfl, Or.inl rfl, trivial⟩ (h Ln)
abbrev jX7_mindOf_7 (d : Nat) (o x1 x2 x3 x4 : Int) (φ : aF) (α : aA) (Q : Int → aF → aA → Prop) : Prop := R0 d mX7_mindOf 7 [(2, o), (0, x1), (0, x2), (0, x3), (0, x4)] [] φ α Q
theorem vX7_mindOf_0 {d : Nat} {φ : aF} {α : aA} {Q : Int → aF → aA → Prop} {o : Int} {x1 : Int} (ho : isSt o) (h : (jX7_mindOf_7 (d + 1) o x1 (-1) 0 0 φ α Q)) : eX7_mindOf (d + 1) o x1 φ α Q := by
  intro Ln
  refine r_iconst (-1) (pc' := 1) (kX7_mindOf_0 0 rfl) rfl (by unfold inR; omega) ?_
  refine r_istore_n (L' := [(2, o), (0, x1), (0, (-1)), (9, 0), (9, 0)]) (pc' := 2) (kX7_mindOf_0 1 rfl) rfl (Nat.le_of_ble_eq_true rfl) rfl ?_
  refine r_iconst 0 (pc' := 3) (kX7_mindOf_0 2 rfl) rfl (by unfold inR; omega) ?_
  refine r_istore_n (L' := [(2, o), (0, x1), (0, (-1)), (0, 0), (9, 0)]) (pc' := 4) (kX7_mindOf_0 3 rfl) rfl (Nat.le_of_ble_eq_true rfl) rfl ?_
  refine r_iconst 0 (pc' := 5) (kX7_mindOf_0 4 rfl) rfl (by unfold inR; omega) ?_
  refine r_istore (L' := [(2, o), (0, x1), (0, (-1)), (0, 0), (0, 0)]) (pc' := 7) (kX7_mindOf_0 5 rfl) rfl (Nat.le_of_ble_eq_true rfl) rfl ?_
  exact r_weak (L' := [(2, o), (0, x1), (0, (-1)), (0, 0), (0, 0)]) ⟨Or.inl rfl, Or.inl rfl, Or.inl rfl, Or.inl rfl, Or.inl rfl, trivial⟩ (h Ln)
theorem vX7_mindOf_7 {d : Nat} {φ : aF} {α : aA} {Q : Int → aF → aA → Prop} {o : Int} {x1 : Int} {x2 : Int} {x3 : Int} {x4 : Int} (ho : isSt o) (h : ((4 ≤ x4 →
   (Q x2 φ α)) ∧
   (¬ (4 ≤ x4) →
   (eX7_dropsOf d o x1 x4 φ α (fun r2 φ2 α2 =>
     ((r2 ≤ x3 →
     inR (x4 + 1) ∧ (jX7_mindOf_7 (d + 1) o x1 x2 x3 (x4 + 1) φ2 α2 Q)) ∧
     (¬ (r2 ≤ x3) →
     (eX7_dropsOf d o x1 x4 φ2 α2 (fun r5 φ5 α5 =>
       inR (x4 + 1) ∧ (jX7_mindOf_7 (d + 1) o x1 x4 r5 (x4 + 1) φ5 α5 Q)))))))))) : jX7_mindOf_7 (d + 1) o x1 x2 x3 x4 φ α Q := by
  intro Ln
  refine r_iload (pc' := 9) (kX7_mindOf_0 6 rfl) rfl rfl ?_
  refine r_iconst 4 (pc' := 10) (kX7_mindOf_0 7 rfl) rfl (by unfold inR; omega) ?_
  refine r_icmp_ge (t := 41) (pc' := 13) (kX7_mindOf_0 8 rfl) rfl rfl (fun c1 => ?_) (fun c1 => ?_)
  · have h := h.1 c1
    refine r_iload_n (pc' := 42) (kX7_mindOf_0 24 rfl) rfl rfl ?_
    exact s_iret (kX7_mindOf_0 25 rfl) rfl h
  · have h := h.2 c1
    refine r_aload_n (pc' := 14) (kX7_mindOf_0 9 rfl) rfl rfl ?_
    refine r_iload_n (pc' := 15) (kX7_mindOf_0 10 rfl) rfl rfl ?_
    refine r_iload (pc' := 17) (kX7_mindOf_0 11 rfl) rfl rfl ?_
    refine s_callV (As := [(0, x1), (0, x4)]) (o := o) (S := []) (S2 := fun z => [(0, z)]) (pc' := 20) (kX7_mindOf_0 12 rfl) rfl rfl nkX7_dropsOf mlX7_100 imX7_dropsOf rfl slX7_dropsOf rfl (Nat.le_of_ble_eq_true rfl) (Nat.le_of_ble_eq_true rfl) (st0 ho Ln) h (fun z => rfl) (fun r2 φ2 α2 h => ?_)
    refine r_iload_n (pc' := 21) (kX7_mindOf_0 13 rfl) rfl rfl ?_
    refine r_icmp_le (t := 35) (pc' := 24) (kX7_mindOf_0 14 rfl) rfl rfl (fun c3 => ?_) (fun c3 => ?_)
    · have h := h.1 c3
      have g4 := h.1
      have h := h.2
      refine r_iinc (L' := [(2, o), (0, x1), (0, x2), (0, x3), (0, (x4 + 1))]) (pc' := 38) (kX7_mindOf_0 22 rfl) rfl (Nat.le_of_ble_eq_true rfl) rfl g4 rfl ?_
      refine r_goto (pc' := 7) (kX7_mindOf_0 23 rfl) rfl ?_
      exact r_weak (L' := [(2, o), (0, x1), (0, x2), (0, x3), (0, (x4 + 1))]) ⟨Or.inl rfl, Or.inl rfl, Or.inl rfl, Or.inl rfl, Or.inl rfl, trivial⟩ (h Ln)
    · have h := h.2 c3
      refine r_aload_n (pc' := 25) (kX7_mindOf_0 15 rfl) rfl rfl ?_
      refine r_iload_n (pc' := 26) (kX7_mindOf_0 16 rfl) rfl rfl ?_
      refine r_iload (pc' := 28) (kX7_mindOf_0 17 rfl) rfl rfl ?_
      refine s_callV (As := [(0, x1), (0, x4)]) (o := o) (S := []) (S2 := fun z => [(0, z)]) (pc' := 31) (kX7_mindOf_0 18 rfl) rfl rfl nkX7_dropsOf mlX7_100 imX7_dropsOf rfl slX7_dropsOf rfl (Nat.le_of_ble_eq_true rfl) (Nat.le_of_ble_eq_true rfl) (st0 ho Ln) h (fun z => rfl) (fun r5 φ5 α5 h => ?_)
      refine r_istore_n (L' := [(2, o), (0, x1), (0, x2), (0, r5), (0, x4)]) (pc' := 32) (kX7_mindOf_0 19 rfl) rfl (Nat.le_of_ble_eq_true rfl) rfl ?_
      refine r_iload (pc' := 34) (kX7_mindOf_0 20 rfl) rfl rfl ?_
      refine r_istore_n (L' := [(2, o), (0, x1), (0, x4), (0, r5), (0, x4)]) (pc' := 35) (kX7_mindOf_0 21 rfl) rfl (Nat.le_of_ble_eq_true rfl) rfl ?_
      have g6 := h.1
      have h := h.2
      refine r_iinc (L' := [(2, o), (0, x1), (0, x4), (0, r5), (0, (x4 + 1))]) (pc' := 38) (kX7_mindOf_0 22 rfl) rfl (Nat.le_of_ble_eq_true rfl) rfl g6 rfl ?_
      refine r_goto (pc' := 7) (kX7_mindOf_0 23 rfl) rfl ?_
      exact r_weak (L' := [(2, o), (0, x1), (0, x4), (0, r5), (0, (x4 + 1))]) ⟨Or.inl rfl, Or.inl rfl, Or.inl rfl, Or.inl rfl, Or.inl rfl, trivial⟩ (h Ln)
abbrev jX7_empty_12 (d : Nat) (o x1 x2 x3 x4 : Int) (φ : aF) (α : aA) (Q : Int → aF → aA → Prop) : Prop := R0 d mX7_empty 12 [(2, o), (0, x1), (0, x2), (0, x3), (0, x4), (9, 0)] [] φ α Q
theorem vX7_empty_0 {d : Nat} {φ : aF} {α : aA} {Q : Int → aF → aA → Prop} {o : Int} {x1 : Int} {x2 : Int} (ho : isSt o) (h : (eX10_pick d (o + 4) x1 φ α (fun r1 φ1 α1 =>
   (jX7_empty_12 (d + 1) o x1 x2 r1 0 φ1 α1 Q)))) : eX7_empty (d + 1) o x1 x2 φ α Q := by
  intro Ln
  refine r_aload_n (pc' := 1) (kX7_empty_0 0 rfl) rfl rfl ?_
  refine s_getr (v := (o + 4)) (pc' := 4) (kX7_empty_0 1 rfl) rfl fkX7_21 rfl rfl (st0 ho Ln) rfl (by have := st_pos ho; omega) ?_
  refine r_iload_n (pc' := 5) (kX7_empty_0 2 rfl) rfl rfl ?_
  refine s_callS (As := [(2, (o + 4)), (0, x1)]) (S := []) (S2 := fun z => [(0, z)]) (pc' := 8) (kX7_empty_0 3 rfl) rfl rfl nkX10_pick mlX7_67 scX10_pick rfl (Nat.le_of_ble_eq_true rfl) (Nat.le_of_ble_eq_true rfl) h (fun z => rfl) (fun r1 φ1 α1 h => ?_)
  refine r_istore_n (L' := [(2, o), (0, x1), (0, x2), (0, r1), (9, 0), (9, 0)]) (pc' := 9) (kX7_empty_0 4 rfl) rfl (Nat.le_of_ble_eq_true rfl) rfl ?_
  refine r_iconst 0 (pc' := 10) (kX7_empty_0 5 rfl) rfl (by unfold inR; omega) ?_
  refine r_istore (L' := [(2, o), (0, x1), (0, x2), (0, r1), (0, 0), (9, 0)]) (pc' := 12) (kX7_empty_0 6 rfl) rfl (Nat.le_of_ble_eq_true rfl) rfl ?_
  exact r_weak (L' := [(2, o), (0, x1), (0, x2), (0, r1), (0, 0), (9, 0)]) ⟨Or.inl rfl, Or.inl rfl, Or.inl rfl, Or.inl rfl, Or.inl rfl, Or.inr (by decide), trivial⟩ (h Ln)
theorem vX7_empty_12 {d : Nat} {φ : aF} {α : aA} {Q : Int → aF → aA → Prop} {o : Int} {x1 : Int} {x2 : Int} {x3 : Int} {x4 : Int} (ho : isSt o) (h : ((4 ≤ x4 →
   (Q x3 φ α)) ∧
   (¬ (4 ≤ x4) →
   (eX7_dropsOf d o x1 x4 φ α (fun r2 φ2 α2 =>
     (eX7_addToPool d o x2 x4 r2 φ2 α2 (fun r3 φ3 α3 =>
     inR (-r2) ∧ (eX7_gain d o x1 x4 (-r2) φ3 α3 (fun r5 φ5 α5 =>
     inR (x4 + 1) ∧ (jX7_empty_12 (d + 1) o x1 x2 x3 (x4 + 1) φ5 α5 Q)))))))))) : jX7_empty_12 (d + 1) o x1 x2 x3 x4 φ α Q := by
  intro Ln
  refine r_iload (pc' := 14) (kX7_empty_0 7 rfl) rfl rfl ?_
  refine r_iconst 4 (pc' := 15) (kX7_empty_0 8 rfl) rfl (by unfold inR; omega) ?_
  refine r_icmp_ge (t := 52) (pc' := 18) (kX7_empty_0 9 rfl) rfl rfl (fun c1 => ?_) (fun c1 => ?_)
  · have h := h.1 c1
    refine r_iload_n (pc' := 53) (kX7_empty_0 28 rfl) rfl rfl ?_
    exact s_iret (kX7_empty_0 29 rfl) rfl h
  · have h := h.2 c1
    refine r_aload_n (pc' := 19) (kX7_empty_0 10 rfl) rfl rfl ?_
    refine r_iload_n (pc' := 20) (kX7_empty_0 11 rfl) rfl rfl ?_
    refine r_iload (pc' := 22) (kX7_empty_0 12 rfl) rfl rfl ?_
    refine s_callV (As := [(0, x1), (0, x4)]) (o := o) (S := []) (S2 := fun z => [(0, z)]) (pc' := 25) (kX7_empty_0 13 rfl) rfl rfl nkX7_dropsOf mlX7_100 imX7_dropsOf rfl slX7_dropsOf rfl (Nat.le_of_ble_eq_true rfl) (Nat.le_of_ble_eq_true rfl) (st0 ho Ln) h (fun z => rfl) (fun r2 φ2 α2 h => ?_)
    refine r_istore (L' := [(2, o), (0, x1), (0, x2), (0, x3), (0, x4), (0, r2)]) (pc' := 27) (kX7_empty_0 14 rfl) rfl (Nat.le_of_ble_eq_true rfl) rfl ?_
    refine r_aload_n (pc' := 28) (kX7_empty_0 15 rfl) rfl rfl ?_
    refine r_iload_n (pc' := 29) (kX7_empty_0 16 rfl) rfl rfl ?_
    refine r_iload (pc' := 31) (kX7_empty_0 17 rfl) rfl rfl ?_
    refine r_iload (pc' := 33) (kX7_empty_0 18 rfl) rfl rfl ?_
    refine s_callV (As := [(0, x2), (0, x4), (0, r2)]) (o := o) (S := []) (S2 := fun z => []) (pc' := 36) (kX7_empty_0 19 rfl) rfl rfl nkX7_addToPool mlX7_103 imX7_addToPool rfl slX7_addToPool rfl (Nat.le_of_ble_eq_true rfl) (Nat.le_of_ble_eq_true rfl) (st0 ho Ln) h (fun z => rfl) (fun r3 φ3 α3 h => ?_)
    refine r_aload_n (pc' := 37) (kX7_empty_0 20 rfl) rfl rfl ?_
    refine r_iload_n (pc' := 38) (kX7_empty_0 21 rfl) rfl rfl ?_
    refine r_iload (pc' := 40) (kX7_empty_0 22 rfl) rfl rfl ?_
    refine r_iload (pc' := 42) (kX7_empty_0 23 rfl) rfl rfl ?_
    have g4 := h.1
    have h := h.2
    refine r_ineg (pc' := 43) (kX7_empty_0 24 rfl) rfl g4 ?_
    refine s_callV (As := [(0, x1), (0, x4), (0, (-r2))]) (o := o) (S := []) (S2 := fun z => []) (pc' := 46) (kX7_empty_0 25 rfl) rfl rfl nkX7_gain mlX7_107 imX7_gain rfl slX7_gain rfl (Nat.le_of_ble_eq_true rfl) (Nat.le_of_ble_eq_true rfl) (st0 ho Ln) h (fun z => rfl) (fun r5 φ5 α5 h => ?_)
    have g6 := h.1
    have h := h.2
    refine r_iinc (L' := [(2, o), (0, x1), (0, x2), (0, x3), (0, (x4 + 1)), (0, r2)]) (pc' := 49) (kX7_empty_0 26 rfl) rfl (Nat.le_of_ble_eq_true rfl) rfl g6 rfl ?_
    refine r_goto (pc' := 12) (kX7_empty_0 27 rfl) rfl ?_
    exact r_weak (L' := [(2, o), (0, x1), (0, x2), (0, x3), (0, (x4 + 1)), (9, 0)]) ⟨Or.inl rfl, Or.inl rfl, Or.inl rfl, Or.inl rfl, Or.inl rfl, Or.inr (by decide), trivial⟩ (h Ln)
theorem vX7_swap_0 {d : Nat} {φ : aF} {α : aA} {Q : Int → aF → aA → Prop} {o : Int} {x1 : Int} {x2 : Int} (ho : isSt o) (h : (eX7_sitterAt d o x1 φ α (fun r1 φ1 α1 =>
   (eX7_sitterAt d o x2 φ1 α1 (fun r2 φ2 α2 =>
   (eX10_set d (o + 2) x1 r2 φ2 α2 (fun r3 φ3 α3 =>
   (eX10_set d (o + 2) x2 r1 φ3 α3 (fun r4 φ4 α4 =>
   (eX10_set d (o + 1) r1 x2 φ4 α4 (fun r5 φ5 α5 =>
   (eX10_set d (o + 1) r2 x1 φ5 α5 (fun r6 φ6 α6 =>
   (Q 0 (upf φ6 7 9 o 0) α6)))))))))))))) : eX7_swap (d + 1) o x1 x2 φ α Q := by
  intro Ln
  refine r_aload_n (pc' := 1) (kX7_swap_0 0 rfl) rfl rfl ?_
  refine r_iload_n (pc' := 2) (kX7_swap_0 1 rfl) rfl rfl ?_
  refine s_callV (As := [(0, x1)]) (o := o) (S := []) (S2 := fun z => [(0, z)]) (pc' := 5) (kX7_swap_0 2 rfl) rfl rfl nkX7_sitterAt mlX7_110 imX7_sitterAt rfl slX7_sitterAt rfl (Nat.le_of_ble_eq_true rfl) (Nat.le_of_ble_eq_true rfl) (st0 ho Ln) h (fun z => rfl) (fun r1 φ1 α1 h => ?_)
  refine r_istore_n (L' := [(2, o), (0, x1), (0, x2), (0, r1), (9, 0)]) (pc' := 6) (kX7_swap_0 3 rfl) rfl (Nat.le_of_ble_eq_true rfl) rfl ?_
  refine r_aload_n (pc' := 7) (kX7_swap_0 4 rfl) rfl rfl ?_
  refine r_iload_n (pc' := 8) (kX7_swap_0 5 rfl) rfl rfl ?_
  refine s_callV (As := [(0, x2)]) (o := o) (S := []) (S2 := fun z => [(0, z)]) (pc' := 11) (kX7_swap_0 6 rfl) rfl rfl nkX7_sitterAt mlX7_110 imX7_sitterAt rfl slX7_sitterAt rfl (Nat.le_of_ble_eq_true rfl) (Nat.le_of_ble_eq_true rfl) (st0 ho Ln) h (fun z => rfl) (fun r2 φ2 α2 h => ?_)
  refine r_istore (L' := [(2, o), (0, x1), (0, x2), (0, r1), (0, r2)]) (pc' := 13) (kX7_swap_0 7 rfl) rfl (Nat.le_of_ble_eq_true rfl) rfl ?_
  refine r_aload_n (pc' := 14) (kX7_swap_0 8 rfl) rfl rfl ?_
  refine s_getr (v := (o + 2)) (pc' := 17) (kX7_swap_0 9 rfl) rfl fkX7_15 rfl rfl (st0 ho Ln) rfl (by have := st_pos ho; omega) ?_
  refine r_iload_n (pc' := 18) (kX7_swap_0 10 rfl) rfl rfl ?_
  refine r_iload (pc' := 20) (kX7_swap_0 11 rfl) rfl rfl ?_
  refine s_callS (As := [(2, (o + 2)), (0, x1), (0, r2)]) (S := []) (S2 := fun z => []) (pc' := 23) (kX7_swap_0 12 rfl) rfl rfl nkX10_set mlX7_71 scX10_set rfl (Nat.le_of_ble_eq_true rfl) (Nat.le_of_ble_eq_true rfl) h (fun z => rfl) (fun r3 φ3 α3 h => ?_)
  refine r_aload_n (pc' := 24) (kX7_swap_0 13 rfl) rfl rfl ?_
  refine s_getr (v := (o + 2)) (pc' := 27) (kX7_swap_0 14 rfl) rfl fkX7_15 rfl rfl (st0 ho Ln) rfl (by have := st_pos ho; omega) ?_
  refine r_iload_n (pc' := 28) (kX7_swap_0 15 rfl) rfl rfl ?_
  refine r_iload_n (pc' := 29) (kX7_swap_0 16 rfl) rfl rfl ?_
  refine s_callS (As := [(2, (o + 2)), (0, x2), (0, r1)]) (S := []) (S2 := fun z => []) (pc' := 32) (kX7_swap_0 17 rfl) rfl rfl nkX10_set mlX7_71 scX10_set rfl (Nat.le_of_ble_eq_true rfl) (Nat.le_of_ble_eq_true rfl) h (fun z => rfl) (fun r4 φ4 α4 h => ?_)
  refine r_aload_n (pc' := 33) (kX7_swap_0 18 rfl) rfl rfl ?_
  refine s_getr (v := (o + 1)) (pc' := 36) (kX7_swap_0 19 rfl) rfl fkX7_9 rfl rfl (st0 ho Ln) rfl (by have := st_pos ho; omega) ?_
  refine r_iload_n (pc' := 37) (kX7_swap_0 20 rfl) rfl rfl ?_
  refine r_iload_n (pc' := 38) (kX7_swap_0 21 rfl) rfl rfl ?_
  refine s_callS (As := [(2, (o + 1)), (0, r1), (0, x2)]) (S := []) (S2 := fun z => []) (pc' := 41) (kX7_swap_0 22 rfl) rfl rfl nkX10_set mlX7_71 scX10_set rfl (Nat.le_of_ble_eq_true rfl) (Nat.le_of_ble_eq_true rfl) h (fun z => rfl) (fun r5 φ5 α5 h => ?_)
  refine r_aload_n (pc' := 42) (kX7_swap_0 23 rfl) rfl rfl ?_
  refine s_getr (v := (o + 1)) (pc' := 45) (kX7_swap_0 24 rfl) rfl fkX7_9 rfl rfl (st0 ho Ln) rfl (by have := st_pos ho; omega) ?_
  refine r_iload (pc' := 47) (kX7_swap_0 25 rfl) rfl rfl ?_
  refine r_iload_n (pc' := 48) (kX7_swap_0 26 rfl) rfl rfl ?_
  refine s_callS (As := [(2, (o + 1)), (0, r2), (0, x1)]) (S := []) (S2 := fun z => []) (pc' := 51) (kX7_swap_0 27 rfl) rfl rfl nkX10_set mlX7_71 scX10_set rfl (Nat.le_of_ble_eq_true rfl) (Nat.le_of_ble_eq_true rfl) h (fun z => rfl) (fun r6 φ6 α6 h => ?_)
  refine r_aload_n (pc' := 52) (kX7_swap_0 28 rfl) rfl rfl ?_
  refine r_iconst 0 (pc' := 53) (kX7_swap_0 29 rfl) rfl (by unfold inR; omega) ?_
  refine s_put (pc' := 56) (kX7_swap_0 30 rfl) rfl fkX7_63 fnX7_9 rfl (pk_bool (Or.inl rfl)) (st0 ho Ln) ?_
  exact s_vret (kX7_swap_0 31 rfl) rfl h
theorem vX7_forgetKept_0 {d : Nat} {φ : aF} {α : aA} {Q : Int → aF → aA → Prop} {o : Int} (ho : isSt o) (h : (Q 0 (upf (upf φ 7 7 o 0) 7 8 o 0) α)) : eX7_forgetKept d o φ α Q := by
  intro Ln
  refine r_aload_n (pc' := 1) (kX7_forgetKept_0 0 rfl) rfl rfl ?_
  refine r_iconst 0 (pc' := 2) (kX7_forgetKept_0 1 rfl) rfl (by unfold inR; omega) ?_
  refine s_put (pc' := 5) (kX7_forgetKept_0 2 rfl) rfl fkX7_82 fnX7_7 rfl pk_int (st0 ho Ln) ?_
  refine r_aload_n (pc' := 6) (kX7_forgetKept_0 3 rfl) rfl rfl ?_
  refine r_iconst 0 (pc' := 7) (kX7_forgetKept_0 4 rfl) rfl (by unfold inR; omega) ?_
  refine s_put (pc' := 10) (kX7_forgetKept_0 5 rfl) rfl fkX7_85 fnX7_8 rfl pk_int (st0 ho Ln) ?_
  exact s_vret (kX7_forgetKept_0 6 rfl) rfl h
theorem vX7_keepDay_0 {d : Nat} {φ : aF} {α : aA} {Q : Int → aF → aA → Prop} {o : Int} {x1 : Int} {x2 : Int} {x3 : Int} (ho : isSt o) (h : inR ((φ 7 7 o) + (φ 7 8 o)) ∧ inR (Int.tmod ((φ 7 7 o) + (φ 7 8 o)) 40) ∧ inR (3 * (Int.tmod ((φ 7 7 o) + (φ 7 8 o)) 40)) ∧ (eX10_set d (o + 6) (3 * (Int.tmod ((φ 7 7 o) + (φ 7 8 o)) 40)) x1 φ α (fun r4 φ4 α4 =>
   inR (3 * (Int.tmod ((φ 7 7 o) + (φ 7 8 o)) 40)) ∧ inR ((3 * (Int.tmod ((φ 7 7 o) + (φ 7 8 o)) 40)) + 1) ∧ (eX10_set d (o + 6) ((3 * (Int.tmod ((φ 7 7 o) + (φ 7 8 o)) 40)) + 1) x2 φ4 α4 (fun r7 φ7 α7 =>
   inR (3 * (Int.tmod ((φ 7 7 o) + (φ 7 8 o)) 40)) ∧ inR ((3 * (Int.tmod ((φ 7 7 o) + (φ 7 8 o)) 40)) + 2) ∧ (eX10_set d (o + 6) ((3 * (Int.tmod ((φ 7 7 o) + (φ 7 8 o)) 40)) + 2) x3 φ7 α7 (fun r10 φ10 α10 =>
   ((40 ≤ (φ10 7 8 o) →
   inR ((φ10 7 7 o) + 1) ∧ inR (Int.tmod ((φ10 7 7 o) + 1) 40) ∧ (Q 0 (upf φ10 7 7 o (Int.tmod ((φ10 7 7 o) + 1) 40)) α10)) ∧
   (¬ (40 ≤ (φ10 7 8 o)) →
   inR ((φ10 7 8 o) + 1) ∧ (Q 0 (upf φ10 7 8 o ((φ10 7 8 o) + 1)) α10)))))))))) : eX7_keepDay (d + 1) o x1 x2 x3 φ α Q := by
  intro Ln
  refine r_aload_n (pc' := 1) (kX7_keepDay_0 0 rfl) rfl rfl ?_
  refine s_get (x := (φ 7 7 o)) (pc' := 4) (kX7_keepDay_0 1 rfl) rfl fkX7_82 rfl rfl rfl (st0 ho Ln) rfl ?_
  refine r_aload_n (pc' := 5) (kX7_keepDay_0 2 rfl) rfl rfl ?_
  refine s_get (x := (φ 7 8 o)) (pc' := 8) (kX7_keepDay_0 3 rfl) rfl fkX7_85 rfl rfl rfl (st0 ho Ln) rfl ?_
  have g1 := h.1
  have h := h.2
  refine r_iadd (pc' := 9) (kX7_keepDay_0 4 rfl) rfl g1 ?_
  refine r_bipush 40 (pc' := 11) (kX7_keepDay_0 5 rfl) rfl ⟨by unfold inR; omega, rfl⟩ ?_
  have g2 := h.1
  have h := h.2
  refine r_irem (pc' := 12) (kX7_keepDay_0 6 rfl) rfl ⟨by decide, g2⟩ ?_
  refine r_istore (L' := [(2, o), (0, x1), (0, x2), (0, x3), (0, (Int.tmod ((φ 7 7 o) + (φ 7 8 o)) 40))]) (pc' := 14) (kX7_keepDay_0 7 rfl) rfl (Nat.le_of_ble_eq_true rfl) rfl ?_
  refine r_aload_n (pc' := 15) (kX7_keepDay_0 8 rfl) rfl rfl ?_
  refine s_getr (v := (o + 6)) (pc' := 18) (kX7_keepDay_0 9 rfl) rfl fkX7_27 rfl rfl (st0 ho Ln) rfl (by have := st_pos ho; omega) ?_
  refine r_iconst 3 (pc' := 19) (kX7_keepDay_0 10 rfl) rfl (by unfold inR; omega) ?_
  refine r_iload (pc' := 21) (kX7_keepDay_0 11 rfl) rfl rfl ?_
  have g3 := h.1
  have h := h.2
  refine r_imul (pc' := 22) (kX7_keepDay_0 12 rfl) rfl g3 ?_
  refine r_iload_n (pc' := 23) (kX7_keepDay_0 13 rfl) rfl rfl ?_
  refine s_callS (As := [(2, (o + 6)), (0, (3 * (Int.tmod ((φ 7 7 o) + (φ 7 8 o)) 40))), (0, x1)]) (S := []) (S2 := fun z => []) (pc' := 26) (kX7_keepDay_0 14 rfl) rfl rfl nkX10_set mlX7_71 scX10_set rfl (Nat.le_of_ble_eq_true rfl) (Nat.le_of_ble_eq_true rfl) h (fun z => rfl) (fun r4 φ4 α4 h => ?_)
  refine r_aload_n (pc' := 27) (kX7_keepDay_0 15 rfl) rfl rfl ?_
  refine s_getr (v := (o + 6)) (pc' := 30) (kX7_keepDay_0 16 rfl) rfl fkX7_27 rfl rfl (st0 ho Ln) rfl (by have := st_pos ho; omega) ?_
  refine r_iconst 3 (pc' := 31) (kX7_keepDay_0 17 rfl) rfl (by unfold inR; omega) ?_
  refine r_iload (pc' := 33) (kX7_keepDay_0 18 rfl) rfl rfl ?_
  have g5 := h.1
  have h := h.2
  refine r_imul (pc' := 34) (kX7_keepDay_0 19 rfl) rfl g5 ?_
  refine r_iconst 1 (pc' := 35) (kX7_keepDay_0 20 rfl) rfl (by unfold inR; omega) ?_
  have g6 := h.1
  have h := h.2
  refine r_iadd (pc' := 36) (kX7_keepDay_0 21 rfl) rfl g6 ?_
  refine r_iload_n (pc' := 37) (kX7_keepDay_0 22 rfl) rfl rfl ?_
  refine s_callS (As := [(2, (o + 6)), (0, ((3 * (Int.tmod ((φ 7 7 o) + (φ 7 8 o)) 40)) + 1)), (0, x2)]) (S := []) (S2 := fun z => []) (pc' := 40) (kX7_keepDay_0 23 rfl) rfl rfl nkX10_set mlX7_71 scX10_set rfl (Nat.le_of_ble_eq_true rfl) (Nat.le_of_ble_eq_true rfl) h (fun z => rfl) (fun r7 φ7 α7 h => ?_)
  refine r_aload_n (pc' := 41) (kX7_keepDay_0 24 rfl) rfl rfl ?_
  refine s_getr (v := (o + 6)) (pc' := 44) (kX7_keepDay_0 25 rfl) rfl fkX7_27 rfl rfl (st0 ho Ln) rfl (by have := st_pos ho; omega) ?_
  refine r_iconst 3 (pc' := 45) (kX7_keepDay_0 26 rfl) rfl (by unfold inR; omega) ?_
  refine r_iload (pc' := 47) (kX7_keepDay_0 27 rfl) rfl rfl ?_
  have g8 := h.1
  have h := h.2
  refine r_imul (pc' := 48) (kX7_keepDay_0 28 rfl) rfl g8 ?_
  refine r_iconst 2 (pc' := 49) (kX7_keepDay_0 29 rfl) rfl (by unfold inR; omega) ?_
  have g9 := h.1
  have h := h.2
  refine r_iadd (pc' := 50) (kX7_keepDay_0 30 rfl) rfl g9 ?_
  refine r_iload_n (pc' := 51) (kX7_keepDay_0 31 rfl) rfl rfl ?_
  refine s_callS (As := [(2, (o + 6)), (0, ((3 * (Int.tmod ((φ 7 7 o) + (φ 7 8 o)) 40)) + 2)), (0, x3)]) (S := []) (S2 := fun z => []) (pc' := 54) (kX7_keepDay_0 32 rfl) rfl rfl nkX10_set mlX7_71 scX10_set rfl (Nat.le_of_ble_eq_true rfl) (Nat.le_of_ble_eq_true rfl) h (fun z => rfl) (fun r10 φ10 α10 h => ?_)
  refine r_aload_n (pc' := 55) (kX7_keepDay_0 33 rfl) rfl rfl ?_
  refine s_get (x := (φ10 7 8 o)) (pc' := 58) (kX7_keepDay_0 34 rfl) rfl fkX7_85 rfl rfl rfl (st0 ho Ln) rfl ?_
  refine r_bipush 40 (pc' := 60) (kX7_keepDay_0 35 rfl) rfl ⟨by unfold inR; omega, rfl⟩ ?_
  refine r_icmp_ge (t := 76) (pc' := 63) (kX7_keepDay_0 36 rfl) rfl rfl (fun c11 => ?_) (fun c11 => ?_)
  · have h := h.1 c11
    refine r_aload_n (pc' := 77) (kX7_keepDay_0 44 rfl) rfl rfl ?_
    refine r_aload_n (pc' := 78) (kX7_keepDay_0 45 rfl) rfl rfl ?_
    refine s_get (x := (φ10 7 7 o)) (pc' := 81) (kX7_keepDay_0 46 rfl) rfl fkX7_82 rfl rfl rfl (st0 ho Ln) rfl ?_
    refine r_iconst 1 (pc' := 82) (kX7_keepDay_0 47 rfl) rfl (by unfold inR; omega) ?_
    have g12 := h.1
    have h := h.2
    refine r_iadd (pc' := 83) (kX7_keepDay_0 48 rfl) rfl g12 ?_
    refine r_bipush 40 (pc' := 85) (kX7_keepDay_0 49 rfl) rfl ⟨by unfold inR; omega, rfl⟩ ?_
    have g13 := h.1
    have h := h.2
    refine r_irem (pc' := 86) (kX7_keepDay_0 50 rfl) rfl ⟨by decide, g13⟩ ?_
    refine s_put (pc' := 89) (kX7_keepDay_0 51 rfl) rfl fkX7_82 fnX7_7 rfl pk_int (st0 ho Ln) ?_
    exact s_vret (kX7_keepDay_0 52 rfl) rfl h
  · have h := h.2 c11
    refine r_aload_n (pc' := 64) (kX7_keepDay_0 37 rfl) rfl rfl ?_
    refine r_dup (pc' := 65) (kX7_keepDay_0 38 rfl) rfl rfl ?_
    refine s_get (x := (φ10 7 8 o)) (pc' := 68) (kX7_keepDay_0 39 rfl) rfl fkX7_85 rfl rfl rfl (st0 ho Ln) rfl ?_
    refine r_iconst 1 (pc' := 69) (kX7_keepDay_0 40 rfl) rfl (by unfold inR; omega) ?_
    have g14 := h.1
    have h := h.2
    refine r_iadd (pc' := 70) (kX7_keepDay_0 41 rfl) rfl g14 ?_
    refine s_put (pc' := 73) (kX7_keepDay_0 42 rfl) rfl fkX7_85 fnX7_8 rfl pk_int (st0 ho Ln) ?_
    refine r_goto (pc' := 89) (kX7_keepDay_0 43 rfl) rfl ?_
    exact s_vret (kX7_keepDay_0 52 rfl) rfl h
theorem vX7_keptAt_0 {d : Nat} {φ : aF} {α : aA} {Q : Int → aF → aA → Prop} {o : Int} {x1 : Int} {x2 : Int} (ho : isSt o) (h : ((x1 < 0 →
   (Q (-1) φ α)) ∧
   (¬ (x1 < 0) →
   ((x1 < (φ 7 8 o) →
     inR ((φ 7 7 o) + x1) ∧ inR (Int.tmod ((φ 7 7 o) + x1) 40) ∧ inR (3 * (Int.tmod ((φ 7 7 o) + x1) 40)) ∧ inR ((3 * (Int.tmod ((φ 7 7 o) + x1) 40)) + x2) ∧ (eX10_pick d (o + 6) ((3 * (Int.tmod ((φ 7 7 o) + x1) 40)) + x2) φ α (fun r7 φ7 α7 =>
       (Q r7 φ7 α7)))) ∧
     (¬ (x1 < (φ 7 8 o)) →
     (Q (-1) φ α)))))) : eX7_keptAt (d + 1) o x1 x2 φ α Q := by
  intro Ln
  refine r_iload_n (pc' := 1) (kX7_keptAt_0 0 rfl) rfl rfl ?_
  refine r_if_lt (t := 12) (pc' := 4) (kX7_keptAt_0 1 rfl) rfl rfl (fun c1 => ?_) (fun c1 => ?_)
  · have h := h.1 c1
    refine r_iconst (-1) (pc' := 13) (kX7_keptAt_0 6 rfl) rfl (by unfold inR; omega) ?_
    exact s_iret (kX7_keptAt_0 7 rfl) rfl h
  · have h := h.2 c1
    refine r_iload_n (pc' := 5) (kX7_keptAt_0 2 rfl) rfl rfl ?_
    refine r_aload_n (pc' := 6) (kX7_keptAt_0 3 rfl) rfl rfl ?_
    refine s_get (x := (φ 7 8 o)) (pc' := 9) (kX7_keptAt_0 4 rfl) rfl fkX7_85 rfl rfl rfl (st0 ho Ln) rfl ?_
    refine r_icmp_lt (t := 14) (pc' := 12) (kX7_keptAt_0 5 rfl) rfl rfl (fun c2 => ?_) (fun c2 => ?_)
    · have h := h.1 c2
      refine r_aload_n (pc' := 15) (kX7_keptAt_0 8 rfl) rfl rfl ?_
      refine s_getr (v := (o + 6)) (pc' := 18) (kX7_keptAt_0 9 rfl) rfl fkX7_27 rfl rfl (st0 ho Ln) rfl (by have := st_pos ho; omega) ?_
      refine r_iconst 3 (pc' := 19) (kX7_keptAt_0 10 rfl) rfl (by unfold inR; omega) ?_
      refine r_aload_n (pc' := 20) (kX7_keptAt_0 11 rfl) rfl rfl ?_
      refine s_get (x := (φ 7 7 o)) (pc' := 23) (kX7_keptAt_0 12 rfl) rfl fkX7_82 rfl rfl rfl (st0 ho Ln) rfl ?_
      refine r_iload_n (pc' := 24) (kX7_keptAt_0 13 rfl) rfl rfl ?_
      have g3 := h.1
      have h := h.2
      refine r_iadd (pc' := 25) (kX7_keptAt_0 14 rfl) rfl g3 ?_
      refine r_bipush 40 (pc' := 27) (kX7_keptAt_0 15 rfl) rfl ⟨by unfold inR; omega, rfl⟩ ?_
      have g4 := h.1
      have h := h.2
      refine r_irem (pc' := 28) (kX7_keptAt_0 16 rfl) rfl ⟨by decide, g4⟩ ?_
      have g5 := h.1
      have h := h.2
      refine r_imul (pc' := 29) (kX7_keptAt_0 17 rfl) rfl g5 ?_
      refine r_iload_n (pc' := 30) (kX7_keptAt_0 18 rfl) rfl rfl ?_
      have g6 := h.1
      have h := h.2
      refine r_iadd (pc' := 31) (kX7_keptAt_0 19 rfl) rfl g6 ?_
      refine s_callS (As := [(2, (o + 6)), (0, ((3 * (Int.tmod ((φ 7 7 o) + x1) 40)) + x2))]) (S := []) (S2 := fun z => [(0, z)]) (pc' := 34) (kX7_keptAt_0 20 rfl) rfl rfl nkX10_pick mlX7_67 scX10_pick rfl (Nat.le_of_ble_eq_true rfl) (Nat.le_of_ble_eq_true rfl) h (fun z => rfl) (fun r7 φ7 α7 h => ?_)
      exact s_iret (kX7_keptAt_0 21 rfl) rfl h
    · have h := h.2 c2
      refine r_iconst (-1) (pc' := 13) (kX7_keptAt_0 6 rfl) rfl (by unfold inR; omega) ?_
      exact s_iret (kX7_keptAt_0 7 rfl) rfl h
abbrev jX7_readPicture_98 (d : Nat) (o x1 x2 x3 x5 : Int) (φ : aF) (α : aA) (Q : Int → aF → aA → Prop) : Prop := R0 d mX7_readPicture 98 [(2, o), (2, x1), (2, x2), (0, x3), (9, 0), (0, x5)] [] φ α Q
theorem vX7_readPicture_0 {d : Nat} {φ : aF} {α : aA} {Q : Int → aF → aA → Prop} {o : Int} {x1 : Int} {nx1 : Nat} {x2 : Int} (ho : isSt o) (hx1 : isRow x1 nx1) (hx2 : isOf x2) (h : inR (1 + (φ 2 3 x2)) ∧ inR ((φ 2 4 x2) * (1 + (φ 2 3 x2))) ∧ inR (2 + ((φ 2 4 x2) * (1 + (φ 2 3 x2)))) ∧ inR (6 * (φ 2 3 x2)) ∧ inR ((2 + ((φ 2 4 x2) * (1 + (φ 2 3 x2)))) + (6 * (φ 2 3 x2))) ∧ inR (((2 + ((φ 2 4 x2) * (1 + (φ 2 3 x2)))) + (6 * (φ 2 3 x2))) + 1) ∧ ((¬ (φ 6 1 x1) = (((2 + ((φ 2 4 x2) * (1 + (φ 2 3 x2)))) + (6 * (φ 2 3 x2))) + 1) →
   (Q 0 φ α)) ∧
   ((φ 6 1 x1) = (((2 + ((φ 2 4 x2) * (1 + (φ 2 3 x2)))) + (6 * (φ 2 3 x2))) + 1) →
   inR ((((2 + ((φ 2 4 x2) * (1 + (φ 2 3 x2)))) + (6 * (φ 2 3 x2))) + 1) - 1) ∧ (eX6_checkOf d x1 ((((2 + ((φ 2 4 x2) * (1 + (φ 2 3 x2)))) + (6 * (φ 2 3 x2))) + 1) - 1) φ α (fun r9 φ9 α9 =>
     inR ((((2 + ((φ 2 4 x2) * (1 + (φ 2 3 x2)))) + (6 * (φ 2 3 x2))) + 1) - 1) ∧ (eX6_at d x1 ((((2 + ((φ 2 4 x2) * (1 + (φ 2 3 x2)))) + (6 * (φ 2 3 x2))) + 1) - 1) φ9 α9 (fun r11 φ11 α11 =>
     ((r9 = r11 →
     (eX6_pairAt d x1 0 φ11 α11 (fun r13 φ13 α13 =>
       (eX10_fill d (o + 2) (-1) (upf φ13 7 0 o r13) α13 (fun r14 φ14 α14 =>
       (eX10_fill d (o + 3) 0 φ14 α14 (fun r15 φ15 α15 =>
       (eX10_fill d (o + 4) 0 φ15 α15 (fun r16 φ16 α16 =>
       (jX7_readPicture_98 (d + 1) o x1 x2 (1 + (φ 2 3 x2)) 0 (upf φ16 7 9 o 0) α16 Q)))))))))) ∧
     (¬ (r9 = r11) →
     (Q 0 φ11 α11)))))))))) : eX7_readPicture (d + 1) o x1 x2 φ α Q := by
  intro Ln
  refine r_iconst 1 (pc' := 1) (kX7_readPicture_0 0 rfl) rfl (by unfold inR; omega) ?_
  refine r_aload_n (pc' := 2) (kX7_readPicture_0 1 rfl) rfl rfl ?_
  refine s_get (x := (φ 2 3 x2)) (pc' := 5) (kX7_readPicture_0 2 rfl) rfl fkX7_114 rfl rfl rfl (of0 hx2 Ln) rfl ?_
  have g1 := h.1
  have h := h.2
  refine r_iadd (pc' := 6) (kX7_readPicture_0 3 rfl) rfl g1 ?_
  refine r_istore_n (L' := [(2, o), (2, x1), (2, x2), (0, (1 + (φ 2 3 x2))), (9, 0), (9, 0)]) (pc' := 7) (kX7_readPicture_0 4 rfl) rfl (Nat.le_of_ble_eq_true rfl) rfl ?_
  refine r_iconst 2 (pc' := 8) (kX7_readPicture_0 5 rfl) rfl (by unfold inR; omega) ?_
  refine r_aload_n (pc' := 9) (kX7_readPicture_0 6 rfl) rfl rfl ?_
  refine s_get (x := (φ 2 4 x2)) (pc' := 12) (kX7_readPicture_0 7 rfl) rfl fkX7_47 rfl rfl rfl (of0 hx2 Ln) rfl ?_
  refine r_iload_n (pc' := 13) (kX7_readPicture_0 8 rfl) rfl rfl ?_
  have g2 := h.1
  have h := h.2
  refine r_imul (pc' := 14) (kX7_readPicture_0 9 rfl) rfl g2 ?_
  have g3 := h.1
  have h := h.2
  refine r_iadd (pc' := 15) (kX7_readPicture_0 10 rfl) rfl g3 ?_
  refine r_bipush 6 (pc' := 17) (kX7_readPicture_0 11 rfl) rfl ⟨by unfold inR; omega, rfl⟩ ?_
  refine r_aload_n (pc' := 18) (kX7_readPicture_0 12 rfl) rfl rfl ?_
  refine s_get (x := (φ 2 3 x2)) (pc' := 21) (kX7_readPicture_0 13 rfl) rfl fkX7_114 rfl rfl rfl (of0 hx2 Ln) rfl ?_
  have g4 := h.1
  have h := h.2
  refine r_imul (pc' := 22) (kX7_readPicture_0 14 rfl) rfl g4 ?_
  have g5 := h.1
  have h := h.2
  refine r_iadd (pc' := 23) (kX7_readPicture_0 15 rfl) rfl g5 ?_
  refine r_iconst 1 (pc' := 24) (kX7_readPicture_0 16 rfl) rfl (by unfold inR; omega) ?_
  have g6 := h.1
  have h := h.2
  refine r_iadd (pc' := 25) (kX7_readPicture_0 17 rfl) rfl g6 ?_
  refine r_istore (L' := [(2, o), (2, x1), (2, x2), (0, (1 + (φ 2 3 x2))), (0, (((2 + ((φ 2 4 x2) * (1 + (φ 2 3 x2)))) + (6 * (φ 2 3 x2))) + 1)), (9, 0)]) (pc' := 27) (kX7_readPicture_0 18 rfl) rfl (Nat.le_of_ble_eq_true rfl) rfl ?_
  refine r_aload_n (pc' := 28) (kX7_readPicture_0 19 rfl) rfl rfl ?_
  refine s_get (x := (φ 6 1 x1)) (pc' := 31) (kX7_readPicture_0 20 rfl) rfl fkX7_117 rfl rfl rfl (hx1.1 Ln) rfl ?_
  refine r_iload (pc' := 33) (kX7_readPicture_0 21 rfl) rfl rfl ?_
  refine r_icmp_ne (t := 55) (pc' := 36) (kX7_readPicture_0 22 rfl) rfl rfl (fun c7 => ?_) (fun c7 => ?_)
  · have h := h.1 c7
    refine r_iconst 0 (pc' := 56) (kX7_readPicture_0 34 rfl) rfl (by unfold inR; omega) ?_
    exact s_zret (kX7_readPicture_0 35 rfl) rfl (Or.inl rfl) h
  · have h := h.2 c7
    refine r_aload_n (pc' := 37) (kX7_readPicture_0 23 rfl) rfl rfl ?_
    refine r_iload (pc' := 39) (kX7_readPicture_0 24 rfl) rfl rfl ?_
    refine r_iconst 1 (pc' := 40) (kX7_readPicture_0 25 rfl) rfl (by unfold inR; omega) ?_
    have g8 := h.1
    have h := h.2
    refine r_isub (pc' := 41) (kX7_readPicture_0 26 rfl) rfl g8 ?_
    refine s_callV (As := [(0, ((((2 + ((φ 2 4 x2) * (1 + (φ 2 3 x2)))) + (6 * (φ 2 3 x2))) + 1) - 1))]) (o := x1) (S := []) (S2 := fun z => [(0, z)]) (pc' := 44) (kX7_readPicture_0 27 rfl) rfl rfl nkX6_checkOf mlX7_122 imX6_checkOf rfl slX6_checkOf rfl (Nat.le_of_ble_eq_true rfl) (Nat.le_of_ble_eq_true rfl) (hx1.1 Ln) h (fun z => rfl) (fun r9 φ9 α9 h => ?_)
    refine r_aload_n (pc' := 45) (kX7_readPicture_0 28 rfl) rfl rfl ?_
    refine r_iload (pc' := 47) (kX7_readPicture_0 29 rfl) rfl rfl ?_
    refine r_iconst 1 (pc' := 48) (kX7_readPicture_0 30 rfl) rfl (by unfold inR; omega) ?_
    have g10 := h.1
    have h := h.2
    refine r_isub (pc' := 49) (kX7_readPicture_0 31 rfl) rfl g10 ?_
    refine s_callV (As := [(0, ((((2 + ((φ 2 4 x2) * (1 + (φ 2 3 x2)))) + (6 * (φ 2 3 x2))) + 1) - 1))]) (o := x1) (S := [(0, r9)]) (S2 := fun z => [(0, z), (0, r9)]) (pc' := 52) (kX7_readPicture_0 32 rfl) rfl rfl nkX6_at mlX7_125 imX6_at rfl slX6_at rfl (Nat.le_of_ble_eq_true rfl) (Nat.le_of_ble_eq_true rfl) (hx1.1 Ln) h (fun z => rfl) (fun r11 φ11 α11 h => ?_)
    refine r_icmp_eq (t := 57) (pc' := 55) (kX7_readPicture_0 33 rfl) rfl rfl (fun c12 => ?_) (fun c12 => ?_)
    · have h := h.1 c12
      refine r_aload_n (pc' := 58) (kX7_readPicture_0 36 rfl) rfl rfl ?_
      refine r_aload_n (pc' := 59) (kX7_readPicture_0 37 rfl) rfl rfl ?_
      refine r_iconst 0 (pc' := 60) (kX7_readPicture_0 38 rfl) rfl (by unfold inR; omega) ?_
      refine s_callV (As := [(0, 0)]) (o := x1) (S := [(2, o)]) (S2 := fun z => [(0, z), (2, o)]) (pc' := 63) (kX7_readPicture_0 39 rfl) rfl rfl nkX6_pairAt mlX7_128 imX6_pairAt rfl slX6_pairAt rfl (Nat.le_of_ble_eq_true rfl) (Nat.le_of_ble_eq_true rfl) (hx1.1 Ln) h (fun z => rfl) (fun r13 φ13 α13 h => ?_)
      refine s_put (pc' := 66) (kX7_readPicture_0 40 rfl) rfl fkX7_34 fnX7_0 rfl pk_int (st0 ho Ln) ?_
      refine r_aload_n (pc' := 67) (kX7_readPicture_0 41 rfl) rfl rfl ?_
      refine s_getr (v := (o + 2)) (pc' := 70) (kX7_readPicture_0 42 rfl) rfl fkX7_15 rfl rfl (st0 ho Ln) rfl (by have := st_pos ho; omega) ?_
      refine r_iconst (-1) (pc' := 71) (kX7_readPicture_0 43 rfl) rfl (by unfold inR; omega) ?_
      refine s_callS (As := [(2, (o + 2)), (0, (-1))]) (S := []) (S2 := fun z => []) (pc' := 74) (kX7_readPicture_0 44 rfl) rfl rfl nkX10_fill mlX7_30 scX10_fill rfl (Nat.le_of_ble_eq_true rfl) (Nat.le_of_ble_eq_true rfl) h (fun z => rfl) (fun r14 φ14 α14 h => ?_)
      refine r_aload_n (pc' := 75) (kX7_readPicture_0 45 rfl) rfl rfl ?_
      refine s_getr (v := (o + 3)) (pc' := 78) (kX7_readPicture_0 46 rfl) rfl fkX7_18 rfl rfl (st0 ho Ln) rfl (by have := st_pos ho; omega) ?_
      refine r_iconst 0 (pc' := 79) (kX7_readPicture_0 47 rfl) rfl (by unfold inR; omega) ?_
      refine s_callS (As := [(2, (o + 3)), (0, 0)]) (S := []) (S2 := fun z => []) (pc' := 82) (kX7_readPicture_0 48 rfl) rfl rfl nkX10_fill mlX7_30 scX10_fill rfl (Nat.le_of_ble_eq_true rfl) (Nat.le_of_ble_eq_true rfl) h (fun z => rfl) (fun r15 φ15 α15 h => ?_)
      refine r_aload_n (pc' := 83) (kX7_readPicture_0 49 rfl) rfl rfl ?_
      refine s_getr (v := (o + 4)) (pc' := 86) (kX7_readPicture_0 50 rfl) rfl fkX7_21 rfl rfl (st0 ho Ln) rfl (by have := st_pos ho; omega) ?_
      refine r_iconst 0 (pc' := 87) (kX7_readPicture_0 51 rfl) rfl (by unfold inR; omega) ?_
      refine s_callS (As := [(2, (o + 4)), (0, 0)]) (S := []) (S2 := fun z => []) (pc' := 90) (kX7_readPicture_0 52 rfl) rfl rfl nkX10_fill mlX7_30 scX10_fill rfl (Nat.le_of_ble_eq_true rfl) (Nat.le_of_ble_eq_true rfl) h (fun z => rfl) (fun r16 φ16 α16 h => ?_)
      refine r_aload_n (pc' := 91) (kX7_readPicture_0 53 rfl) rfl rfl ?_
      refine r_iconst 0 (pc' := 92) (kX7_readPicture_0 54 rfl) rfl (by unfold inR; omega) ?_
      refine s_put (pc' := 95) (kX7_readPicture_0 55 rfl) rfl fkX7_63 fnX7_9 rfl (pk_bool (Or.inl rfl)) (st0 ho Ln) ?_
      refine r_iconst 0 (pc' := 96) (kX7_readPicture_0 56 rfl) rfl (by unfold inR; omega) ?_
      refine r_istore (L' := [(2, o), (2, x1), (2, x2), (0, (1 + (φ 2 3 x2))), (0, (((2 + ((φ 2 4 x2) * (1 + (φ 2 3 x2)))) + (6 * (φ 2 3 x2))) + 1)), (0, 0)]) (pc' := 98) (kX7_readPicture_0 57 rfl) rfl (Nat.le_of_ble_eq_true rfl) rfl ?_
      exact r_weak (L' := [(2, o), (2, x1), (2, x2), (0, (1 + (φ 2 3 x2))), (9, 0), (0, 0)]) ⟨Or.inl rfl, Or.inl rfl, Or.inl rfl, Or.inl rfl, Or.inr (by decide), Or.inl rfl, trivial⟩ (h Ln)
    · have h := h.2 c12
      refine r_iconst 0 (pc' := 56) (kX7_readPicture_0 34 rfl) rfl (by unfold inR; omega) ?_
      exact s_zret (kX7_readPicture_0 35 rfl) rfl (Or.inl rfl) h
theorem vX7_readPicture_98 {d : Nat} {φ : aF} {α : aA} {Q : Int → aF → aA → Prop} {o : Int} {x1 : Int} {nx1 : Nat} {x2 : Int} {x3 : Int} {x5 : Int} (ho : isSt o) (hx1 : isRow x1 nx1) (hx2 : isOf x2) (h : (((φ 2 4 x2) ≤ x5 →
   ((999 < (φ 7 0 o) →
     (Q 0 φ α)) ∧
     (¬ (999 < (φ 7 0 o)) →
     inR ((φ 2 4 x2) * x3) ∧ inR (2 + ((φ 2 4 x2) * x3)) ∧ (eX7_readPools d o x1 (2 + ((φ 2 4 x2) * x3)) (φ 2 3 x2) φ α (fun r5 φ5 α5 =>
       ((r5 = 0 →
       (Q 0 φ5 α5)) ∧
       (¬ (r5 = 0) →
       (Q 1 φ5 α5)))))))) ∧
   (¬ ((φ 2 4 x2) ≤ x5) →
   inR (x5 * x3) ∧ inR (2 + (x5 * x3)) ∧ (eX7_readClerk d o x5 x1 (2 + (x5 * x3)) x2 φ α (fun r9 φ9 α9 =>
     ((¬ r9 = 0 →
     inR (x5 + 1) ∧ (jX7_readPicture_98 (d + 1) o x1 x2 x3 (x5 + 1) φ9 α9 Q)) ∧
     (r9 = 0 →
     (Q 0 φ9 α9)))))))) : jX7_readPicture_98 (d + 1) o x1 x2 x3 x5 φ α Q := by
  intro Ln
  refine r_iload (pc' := 100) (kX7_readPicture_0 58 rfl) rfl rfl ?_
  refine r_aload_n (pc' := 101) (kX7_readPicture_0 59 rfl) rfl rfl ?_
  refine s_get (x := (φ 2 4 x2)) (pc' := 104) (kX7_readPicture_1 0 rfl) rfl fkX7_47 rfl rfl rfl (of0 hx2 Ln) rfl ?_
  refine r_icmp_ge (t := 132) (pc' := 107) (kX7_readPicture_1 1 rfl) rfl rfl (fun c1 => ?_) (fun c1 => ?_)
  · have h := h.1 c1
    refine r_aload_n (pc' := 133) (kX7_readPicture_1 17 rfl) rfl rfl ?_
    refine s_get (x := (φ 7 0 o)) (pc' := 136) (kX7_readPicture_1 18 rfl) rfl fkX7_34 rfl rfl rfl (st0 ho Ln) rfl ?_
    refine r_sipush 999 (pc' := 139) (kX7_readPicture_1 19 rfl) rfl ⟨by unfold inR; omega, rfl⟩ ?_
    refine r_icmp_gt (t := 166) (pc' := 142) (kX7_readPicture_1 20 rfl) rfl rfl (fun c2 => ?_) (fun c2 => ?_)
    · have h := h.1 c2
      refine r_iconst 0 (pc' := 167) (kX7_readPicture_1 35 rfl) rfl (by unfold inR; omega) ?_
      exact s_zret (kX7_readPicture_1 36 rfl) rfl (Or.inl rfl) h
    · have h := h.2 c2
      refine r_aload_n (pc' := 143) (kX7_readPicture_1 21 rfl) rfl rfl ?_
      refine r_aload_n (pc' := 144) (kX7_readPicture_1 22 rfl) rfl rfl ?_
      refine r_iconst 2 (pc' := 145) (kX7_readPicture_1 23 rfl) rfl (by unfold inR; omega) ?_
      refine r_aload_n (pc' := 146) (kX7_readPicture_1 24 rfl) rfl rfl ?_
      refine s_get (x := (φ 2 4 x2)) (pc' := 149) (kX7_readPicture_1 25 rfl) rfl fkX7_47 rfl rfl rfl (of0 hx2 Ln) rfl ?_
      refine r_iload_n (pc' := 150) (kX7_readPicture_1 26 rfl) rfl rfl ?_
      have g3 := h.1
      have h := h.2
      refine r_imul (pc' := 151) (kX7_readPicture_1 27 rfl) rfl g3 ?_
      have g4 := h.1
      have h := h.2
      refine r_iadd (pc' := 152) (kX7_readPicture_1 28 rfl) rfl g4 ?_
      refine r_aload_n (pc' := 153) (kX7_readPicture_1 29 rfl) rfl rfl ?_
      refine s_get (x := (φ 2 3 x2)) (pc' := 156) (kX7_readPicture_1 30 rfl) rfl fkX7_114 rfl rfl rfl (of0 hx2 Ln) rfl ?_
      refine s_callV (As := [(2, x1), (0, (2 + ((φ 2 4 x2) * x3))), (0, (φ 2 3 x2))]) (o := o) (S := []) (S2 := fun z => [(0, z)]) (pc' := 159) (kX7_readPicture_1 31 rfl) rfl rfl nkX7_readPools mlX7_135 imX7_readPools rfl slX7_readPools rfl (Nat.le_of_ble_eq_true rfl) (Nat.le_of_ble_eq_true rfl) (st0 ho Ln) h (fun z => rfl) (fun r5 φ5 α5 h => ?_)
      refine r_if_eq (t := 166) (pc' := 162) (kX7_readPicture_1 32 rfl) rfl rfl (fun c6 => ?_) (fun c6 => ?_)
      · have h := h.1 c6
        refine r_iconst 0 (pc' := 167) (kX7_readPicture_1 35 rfl) rfl (by unfold inR; omega) ?_
        exact s_zret (kX7_readPicture_1 36 rfl) rfl (Or.inl rfl) h
      · have h := h.2 c6
        refine r_iconst 1 (pc' := 163) (kX7_readPicture_1 33 rfl) rfl (by unfold inR; omega) ?_
        refine r_goto (pc' := 167) (kX7_readPicture_1 34 rfl) rfl ?_
        exact s_zret (kX7_readPicture_1 36 rfl) rfl (Or.inr rfl) h
  · have h := h.2 c1
    refine r_aload_n (pc' := 108) (kX7_readPicture_1 2 rfl) rfl rfl ?_
    refine r_iload (pc' := 110) (kX7_readPicture_1 3 rfl) rfl rfl ?_
    refine r_aload_n (pc' := 111) (kX7_readPicture_1 4 rfl) rfl rfl ?_
    refine r_iconst 2 (pc' := 112) (kX7_readPicture_1 5 rfl) rfl (by unfold inR; omega) ?_
    refine r_iload (pc' := 114) (kX7_readPicture_1 6 rfl) rfl rfl ?_
    refine r_iload_n (pc' := 115) (kX7_readPicture_1 7 rfl) rfl rfl ?_
    have g7 := h.1
    have h := h.2
    refine r_imul (pc' := 116) (kX7_readPicture_1 8 rfl) rfl g7 ?_
    have g8 := h.1
    have h := h.2
    refine r_iadd (pc' := 117) (kX7_readPicture_1 9 rfl) rfl g8 ?_
    refine r_aload_n (pc' := 118) (kX7_readPicture_1 10 rfl) rfl rfl ?_
    refine s_callV (As := [(0, x5), (2, x1), (0, (2 + (x5 * x3))), (2, x2)]) (o := o) (S := []) (S2 := fun z => [(0, z)]) (pc' := 121) (kX7_readPicture_1 11 rfl) rfl rfl nkX7_readClerk mlX7_131 imX7_readClerk rfl slX7_readClerk rfl (Nat.le_of_ble_eq_true rfl) (Nat.le_of_ble_eq_true rfl) (st0 ho Ln) h (fun z => rfl) (fun r9 φ9 α9 h => ?_)
    refine r_if_ne (t := 126) (pc' := 124) (kX7_readPicture_1 12 rfl) rfl rfl (fun c10 => ?_) (fun c10 => ?_)
    · have h := h.1 c10
      have g11 := h.1
      have h := h.2
      refine r_iinc (L' := [(2, o), (2, x1), (2, x2), (0, x3), (9, 0), (0, (x5 + 1))]) (pc' := 129) (kX7_readPicture_1 15 rfl) rfl (Nat.le_of_ble_eq_true rfl) rfl g11 rfl ?_
      refine r_goto (pc' := 98) (kX7_readPicture_1 16 rfl) rfl ?_
      exact r_weak (L' := [(2, o), (2, x1), (2, x2), (0, x3), (9, 0), (0, (x5 + 1))]) ⟨Or.inl rfl, Or.inl rfl, Or.inl rfl, Or.inl rfl, Or.inr (by decide), Or.inl rfl, trivial⟩ (h Ln)
    · have h := h.2 c10
      refine r_iconst 0 (pc' := 125) (kX7_readPicture_1 13 rfl) rfl (by unfold inR; omega) ?_
      exact s_zret (kX7_readPicture_1 14 rfl) rfl (Or.inl rfl) h
abbrev jX7_readClerk_51 (d : Nat) (o x1 x2 x3 x4 x6 : Int) (φ : aF) (α : aA) (Q : Int → aF → aA → Prop) : Prop := R0 d mX7_readClerk 51 [(2, o), (0, x1), (2, x2), (0, x3), (2, x4), (9, 0), (0, x6)] [] φ α Q
theorem vX7_readClerk_0 {d : Nat} {φ : aF} {α : aA} {Q : Int → aF → aA → Prop} {o : Int} {x1 : Int} {x2 : Int} {nx2 : Nat} {x3 : Int} {x4 : Int} (ho : isSt o) (hx2 : isRow x2 nx2) (hx4 : isOf x4) (h : (eX6_at d x2 x3 φ α (fun r1 φ1 α1 =>
   (eX2_isSeat d x4 r1 φ1 α1 (fun r2 φ2 α2 =>
   ((r2 = 0 →
   (Q 0 φ2 α2)) ∧
   (¬ (r2 = 0) →
   (eX7_sitterAt d o r1 φ2 α2 (fun r4 φ4 α4 =>
     ((r4 < 0 →
     (eX10_set d (o + 1) x1 r1 φ4 α4 (fun r6 φ6 α6 =>
       (eX10_set d (o + 2) r1 x1 φ6 α6 (fun r7 φ7 α7 =>
       (jX7_readClerk_51 (d + 1) o x1 x2 x3 x4 0 φ7 α7 Q)))))) ∧
     (¬ (r4 < 0) →
     (Q 0 φ4 α4)))))))))))) : eX7_readClerk (d + 1) o x1 x2 x3 x4 φ α Q := by
  intro Ln
  refine r_aload_n (pc' := 1) (kX7_readClerk_0 0 rfl) rfl rfl ?_
  refine r_iload_n (pc' := 2) (kX7_readClerk_0 1 rfl) rfl rfl ?_
  refine s_callV (As := [(0, x3)]) (o := x2) (S := []) (S2 := fun z => [(0, z)]) (pc' := 5) (kX7_readClerk_0 2 rfl) rfl rfl nkX6_at mlX7_125 imX6_at rfl slX6_at rfl (Nat.le_of_ble_eq_true rfl) (Nat.le_of_ble_eq_true rfl) (hx2.1 Ln) h (fun z => rfl) (fun r1 φ1 α1 h => ?_)
  refine r_istore (L' := [(2, o), (0, x1), (2, x2), (0, x3), (2, x4), (0, r1), (9, 0)]) (pc' := 7) (kX7_readClerk_0 3 rfl) rfl (Nat.le_of_ble_eq_true rfl) rfl ?_
  refine r_aload (pc' := 9) (kX7_readClerk_0 4 rfl) rfl rfl ?_
  refine r_iload (pc' := 11) (kX7_readClerk_0 5 rfl) rfl rfl ?_
  refine s_callV (As := [(0, r1)]) (o := x4) (S := []) (S2 := fun z => [(0, z)]) (pc' := 14) (kX7_readClerk_0 6 rfl) rfl rfl nkX2_isSeat mlX7_139 imX2_isSeat rfl slX2_isSeat rfl (Nat.le_of_ble_eq_true rfl) (Nat.le_of_ble_eq_true rfl) (of0 hx4 Ln) h (fun z => rfl) (fun r2 φ2 α2 h => ?_)
  refine r_if_eq (t := 26) (pc' := 17) (kX7_readClerk_0 7 rfl) rfl rfl (fun c3 => ?_) (fun c3 => ?_)
  · have h := h.1 c3
    refine r_iconst 0 (pc' := 27) (kX7_readClerk_0 12 rfl) rfl (by unfold inR; omega) ?_
    exact s_zret (kX7_readClerk_0 13 rfl) rfl (Or.inl rfl) h
  · have h := h.2 c3
    refine r_aload_n (pc' := 18) (kX7_readClerk_0 8 rfl) rfl rfl ?_
    refine r_iload (pc' := 20) (kX7_readClerk_0 9 rfl) rfl rfl ?_
    refine s_callV (As := [(0, r1)]) (o := o) (S := []) (S2 := fun z => [(0, z)]) (pc' := 23) (kX7_readClerk_0 10 rfl) rfl rfl nkX7_sitterAt mlX7_110 imX7_sitterAt rfl slX7_sitterAt rfl (Nat.le_of_ble_eq_true rfl) (Nat.le_of_ble_eq_true rfl) (st0 ho Ln) h (fun z => rfl) (fun r4 φ4 α4 h => ?_)
    refine r_if_lt (t := 28) (pc' := 26) (kX7_readClerk_0 11 rfl) rfl rfl (fun c5 => ?_) (fun c5 => ?_)
    · have h := h.1 c5
      refine r_aload_n (pc' := 29) (kX7_readClerk_0 14 rfl) rfl rfl ?_
      refine s_getr (v := (o + 1)) (pc' := 32) (kX7_readClerk_0 15 rfl) rfl fkX7_9 rfl rfl (st0 ho Ln) rfl (by have := st_pos ho; omega) ?_
      refine r_iload_n (pc' := 33) (kX7_readClerk_0 16 rfl) rfl rfl ?_
      refine r_iload (pc' := 35) (kX7_readClerk_0 17 rfl) rfl rfl ?_
      refine s_callS (As := [(2, (o + 1)), (0, x1), (0, r1)]) (S := []) (S2 := fun z => []) (pc' := 38) (kX7_readClerk_0 18 rfl) rfl rfl nkX10_set mlX7_71 scX10_set rfl (Nat.le_of_ble_eq_true rfl) (Nat.le_of_ble_eq_true rfl) h (fun z => rfl) (fun r6 φ6 α6 h => ?_)
      refine r_aload_n (pc' := 39) (kX7_readClerk_0 19 rfl) rfl rfl ?_
      refine s_getr (v := (o + 2)) (pc' := 42) (kX7_readClerk_0 20 rfl) rfl fkX7_15 rfl rfl (st0 ho Ln) rfl (by have := st_pos ho; omega) ?_
      refine r_iload (pc' := 44) (kX7_readClerk_0 21 rfl) rfl rfl ?_
      refine r_iload_n (pc' := 45) (kX7_readClerk_0 22 rfl) rfl rfl ?_
      refine s_callS (As := [(2, (o + 2)), (0, r1), (0, x1)]) (S := []) (S2 := fun z => []) (pc' := 48) (kX7_readClerk_0 23 rfl) rfl rfl nkX10_set mlX7_71 scX10_set rfl (Nat.le_of_ble_eq_true rfl) (Nat.le_of_ble_eq_true rfl) h (fun z => rfl) (fun r7 φ7 α7 h => ?_)
      refine r_iconst 0 (pc' := 49) (kX7_readClerk_0 24 rfl) rfl (by unfold inR; omega) ?_
      refine r_istore (L' := [(2, o), (0, x1), (2, x2), (0, x3), (2, x4), (0, r1), (0, 0)]) (pc' := 51) (kX7_readClerk_0 25 rfl) rfl (Nat.le_of_ble_eq_true rfl) rfl ?_
      exact r_weak (L' := [(2, o), (0, x1), (2, x2), (0, x3), (2, x4), (9, 0), (0, 0)]) ⟨Or.inl rfl, Or.inl rfl, Or.inl rfl, Or.inl rfl, Or.inl rfl, Or.inr (by decide), Or.inl rfl, trivial⟩ (h Ln)
    · have h := h.2 c5
      refine r_iconst 0 (pc' := 27) (kX7_readClerk_0 12 rfl) rfl (by unfold inR; omega) ?_
      exact s_zret (kX7_readClerk_0 13 rfl) rfl (Or.inl rfl) h
theorem vX7_readClerk_51 {d : Nat} {φ : aF} {α : aA} {Q : Int → aF → aA → Prop} {o : Int} {x1 : Int} {x2 : Int} {nx2 : Nat} {x3 : Int} {x4 : Int} {x6 : Int} (ho : isSt o) (hx2 : isRow x2 nx2) (hx4 : isOf x4) (h : (((φ 2 3 x4) ≤ x6 →
   (eX10_pick d (o + 4) x1 φ α (fun r2 φ2 α2 =>
     (eX10_pick d (x4 + 2) x1 φ2 α2 (fun r3 φ3 α3 =>
     ((r3 < r2 →
     (Q 0 φ3 α3)) ∧
     (¬ (r3 < r2) →
     (Q 1 φ3 α3)))))))) ∧
   (¬ ((φ 2 3 x4) ≤ x6) →
   inR (x3 + 1) ∧ inR ((x3 + 1) + x6) ∧ (eX6_at d x2 ((x3 + 1) + x6) φ α (fun r7 φ7 α7 =>
     (eX7_gain d o x1 x6 r7 φ7 α7 (fun r8 φ8 α8 =>
     inR (x6 + 1) ∧ (jX7_readClerk_51 (d + 1) o x1 x2 x3 x4 (x6 + 1) φ8 α8 Q)))))))) : jX7_readClerk_51 (d + 1) o x1 x2 x3 x4 x6 φ α Q := by
  intro Ln
  refine r_iload (pc' := 53) (kX7_readClerk_0 26 rfl) rfl rfl ?_
  refine r_aload (pc' := 55) (kX7_readClerk_0 27 rfl) rfl rfl ?_
  refine s_get (x := (φ 2 3 x4)) (pc' := 58) (kX7_readClerk_0 28 rfl) rfl fkX7_114 rfl rfl rfl (of0 hx4 Ln) rfl ?_
  refine r_icmp_ge (t := 84) (pc' := 61) (kX7_readClerk_0 29 rfl) rfl rfl (fun c1 => ?_) (fun c1 => ?_)
  · have h := h.1 c1
    refine r_aload_n (pc' := 85) (kX7_readClerk_0 43 rfl) rfl rfl ?_
    refine s_getr (v := (o + 4)) (pc' := 88) (kX7_readClerk_0 44 rfl) rfl fkX7_21 rfl rfl (st0 ho Ln) rfl (by have := st_pos ho; omega) ?_
    refine r_iload_n (pc' := 89) (kX7_readClerk_0 45 rfl) rfl rfl ?_
    refine s_callS (As := [(2, (o + 4)), (0, x1)]) (S := []) (S2 := fun z => [(0, z)]) (pc' := 92) (kX7_readClerk_0 46 rfl) rfl rfl nkX10_pick mlX7_67 scX10_pick rfl (Nat.le_of_ble_eq_true rfl) (Nat.le_of_ble_eq_true rfl) h (fun z => rfl) (fun r2 φ2 α2 h => ?_)
    refine r_aload (pc' := 94) (kX7_readClerk_0 47 rfl) rfl rfl ?_
    refine s_getr (v := (x4 + 2)) (pc' := 97) (kX7_readClerk_0 48 rfl) rfl fkX7_143 rfl rfl (of0 hx4 Ln) rfl (by have := of_pos hx4; omega) ?_
    refine r_iload_n (pc' := 98) (kX7_readClerk_0 49 rfl) rfl rfl ?_
    refine s_callS (As := [(2, (x4 + 2)), (0, x1)]) (S := [(0, r2)]) (S2 := fun z => [(0, z), (0, r2)]) (pc' := 101) (kX7_readClerk_0 50 rfl) rfl rfl nkX10_pick mlX7_67 scX10_pick rfl (Nat.le_of_ble_eq_true rfl) (Nat.le_of_ble_eq_true rfl) h (fun z => rfl) (fun r3 φ3 α3 h => ?_)
    refine r_icmp_gt (t := 108) (pc' := 104) (kX7_readClerk_0 51 rfl) rfl rfl (fun c4 => ?_) (fun c4 => ?_)
    · have h := h.1 c4
      refine r_iconst 0 (pc' := 109) (kX7_readClerk_0 54 rfl) rfl (by unfold inR; omega) ?_
      exact s_zret (kX7_readClerk_0 55 rfl) rfl (Or.inl rfl) h
    · have h := h.2 c4
      refine r_iconst 1 (pc' := 105) (kX7_readClerk_0 52 rfl) rfl (by unfold inR; omega) ?_
      refine r_goto (pc' := 109) (kX7_readClerk_0 53 rfl) rfl ?_
      exact s_zret (kX7_readClerk_0 55 rfl) rfl (Or.inr rfl) h
  · have h := h.2 c1
    refine r_aload_n (pc' := 62) (kX7_readClerk_0 30 rfl) rfl rfl ?_
    refine r_iload_n (pc' := 63) (kX7_readClerk_0 31 rfl) rfl rfl ?_
    refine r_iload (pc' := 65) (kX7_readClerk_0 32 rfl) rfl rfl ?_
    refine r_aload_n (pc' := 66) (kX7_readClerk_0 33 rfl) rfl rfl ?_
    refine r_iload_n (pc' := 67) (kX7_readClerk_0 34 rfl) rfl rfl ?_
    refine r_iconst 1 (pc' := 68) (kX7_readClerk_0 35 rfl) rfl (by unfold inR; omega) ?_
    have g5 := h.1
    have h := h.2
    refine r_iadd (pc' := 69) (kX7_readClerk_0 36 rfl) rfl g5 ?_
    refine r_iload (pc' := 71) (kX7_readClerk_0 37 rfl) rfl rfl ?_
    have g6 := h.1
    have h := h.2
    refine r_iadd (pc' := 72) (kX7_readClerk_0 38 rfl) rfl g6 ?_
    refine s_callV (As := [(0, ((x3 + 1) + x6))]) (o := x2) (S := [(0, x6), (0, x1), (2, o)]) (S2 := fun z => [(0, z), (0, x6), (0, x1), (2, o)]) (pc' := 75) (kX7_readClerk_0 39 rfl) rfl rfl nkX6_at mlX7_125 imX6_at rfl slX6_at rfl (Nat.le_of_ble_eq_true rfl) (Nat.le_of_ble_eq_true rfl) (hx2.1 Ln) h (fun z => rfl) (fun r7 φ7 α7 h => ?_)
    refine s_callV (As := [(0, x1), (0, x6), (0, r7)]) (o := o) (S := []) (S2 := fun z => []) (pc' := 78) (kX7_readClerk_0 40 rfl) rfl rfl nkX7_gain mlX7_107 imX7_gain rfl slX7_gain rfl (Nat.le_of_ble_eq_true rfl) (Nat.le_of_ble_eq_true rfl) (st0 ho Ln) h (fun z => rfl) (fun r8 φ8 α8 h => ?_)
    have g9 := h.1
    have h := h.2
    refine r_iinc (L' := [(2, o), (0, x1), (2, x2), (0, x3), (2, x4), (9, 0), (0, (x6 + 1))]) (pc' := 81) (kX7_readClerk_0 41 rfl) rfl (Nat.le_of_ble_eq_true rfl) rfl g9 rfl ?_
    refine r_goto (pc' := 51) (kX7_readClerk_0 42 rfl) rfl ?_
    exact r_weak (L' := [(2, o), (0, x1), (2, x2), (0, x3), (2, x4), (9, 0), (0, (x6 + 1))]) ⟨Or.inl rfl, Or.inl rfl, Or.inl rfl, Or.inl rfl, Or.inl rfl, Or.inr (by decide), Or.inl rfl, trivial⟩ (h Ln)
abbrev jX7_readPools_11 (d : Nat) (o x1 x2 x3 x4 : Int) (φ : aF) (α : aA) (Q : Int → aF → aA → Prop) : Prop := R0 d mX7_readPools 11 [(2, o), (2, x1), (0, x2), (0, x3), (0, x4), (9, 0), (9, 0)] [] φ α Q
theorem vX7_readPools_0 {d : Nat} {φ : aF} {α : aA} {Q : Int → aF → aA → Prop} {o : Int} {x1 : Int} {nx1 : Nat} {x2 : Int} {x3 : Int} (ho : isSt o) (hx1 : isRow x1 nx1) (h : (eX10_fill d (o + 5) 0 φ α (fun r1 φ1 α1 =>
   (jX7_readPools_11 (d + 1) o x1 x2 x3 0 φ1 α1 Q)))) : eX7_readPools (d + 1) o x1 x2 x3 φ α Q := by
  intro Ln
  refine r_aload_n (pc' := 1) (kX7_readPools_0 0 rfl) rfl rfl ?_
  refine s_getr (v := (o + 5)) (pc' := 4) (kX7_readPools_0 1 rfl) rfl fkX7_24 rfl rfl (st0 ho Ln) rfl (by have := st_pos ho; omega) ?_
  refine r_iconst 0 (pc' := 5) (kX7_readPools_0 2 rfl) rfl (by unfold inR; omega) ?_
  refine s_callS (As := [(2, (o + 5)), (0, 0)]) (S := []) (S2 := fun z => []) (pc' := 8) (kX7_readPools_0 3 rfl) rfl rfl nkX10_fill mlX7_30 scX10_fill rfl (Nat.le_of_ble_eq_true rfl) (Nat.le_of_ble_eq_true rfl) h (fun z => rfl) (fun r1 φ1 α1 h => ?_)
  refine r_iconst 0 (pc' := 9) (kX7_readPools_0 4 rfl) rfl (by unfold inR; omega) ?_
  refine r_istore (L' := [(2, o), (2, x1), (0, x2), (0, x3), (0, 0), (9, 0), (9, 0)]) (pc' := 11) (kX7_readPools_0 5 rfl) rfl (Nat.le_of_ble_eq_true rfl) rfl ?_
  exact r_weak (L' := [(2, o), (2, x1), (0, x2), (0, x3), (0, 0), (9, 0), (9, 0)]) ⟨Or.inl rfl, Or.inl rfl, Or.inl rfl, Or.inl rfl, Or.inl rfl, Or.inr (by decide), Or.inr (by decide), trivial⟩ (h Ln)
abbrev jX7_readPools_20 (d : Nat) (o x1 x2 x3 x4 x5 : Int) (φ : aF) (α : aA) (Q : Int → aF → aA → Prop) : Prop := R0 d mX7_readPools 20 [(2, o), (2, x1), (0, x2), (0, x3), (0, x4), (0, x5), (9, 0)] [] φ α Q
theorem vX7_readPools_11 {d : Nat} {φ : aF} {α : aA} {Q : Int → aF → aA → Prop} {o : Int} {x1 : Int} {nx1 : Nat} {x2 : Int} {x3 : Int} {x4 : Int} (ho : isSt o) (hx1 : isRow x1 nx1) (h : ((x3 ≤ x4 →
   (Q 1 φ α)) ∧
   (¬ (x3 ≤ x4) →
   (jX7_readPools_20 (d + 1) o x1 x2 x3 x4 0 φ α Q)))) : jX7_readPools_11 (d + 1) o x1 x2 x3 x4 φ α Q := by
  intro Ln
  refine r_iload (pc' := 13) (kX7_readPools_0 6 rfl) rfl rfl ?_
  refine r_iload_n (pc' := 14) (kX7_readPools_0 7 rfl) rfl rfl ?_
  refine r_icmp_ge (t := 82) (pc' := 17) (kX7_readPools_0 8 rfl) rfl rfl (fun c1 => ?_) (fun c1 => ?_)
  · have h := h.1 c1
    refine r_iconst 1 (pc' := 83) (kX7_readPools_0 44 rfl) rfl (by unfold inR; omega) ?_
    exact s_zret (kX7_readPools_0 45 rfl) rfl (Or.inr rfl) h
  · have h := h.2 c1
    refine r_iconst 0 (pc' := 18) (kX7_readPools_0 9 rfl) rfl (by unfold inR; omega) ?_
    refine r_istore (L' := [(2, o), (2, x1), (0, x2), (0, x3), (0, x4), (0, 0), (9, 0)]) (pc' := 20) (kX7_readPools_0 10 rfl) rfl (Nat.le_of_ble_eq_true rfl) rfl ?_
    exact r_weak (L' := [(2, o), (2, x1), (0, x2), (0, x3), (0, x4), (0, 0), (9, 0)]) ⟨Or.inl rfl, Or.inl rfl, Or.inl rfl, Or.inl rfl, Or.inl rfl, Or.inl rfl, Or.inr (by decide), trivial⟩ (h Ln)
theorem vX7_readPools_20 {d : Nat} {φ : aF} {α : aA} {Q : Int → aF → aA → Prop} {o : Int} {x1 : Int} {nx1 : Nat} {x2 : Int} {x3 : Int} {x4 : Int} {x5 : Int} (ho : isSt o) (hx1 : isRow x1 nx1) (h : ((2 < x5 →
   inR (x4 + 1) ∧ (jX7_readPools_11 (d + 1) o x1 x2 x3 (x4 + 1) φ α Q)) ∧
   (¬ (2 < x5) →
   inR (6 * x4) ∧ inR (x2 + (6 * x4)) ∧ inR (2 * x5) ∧ inR ((x2 + (6 * x4)) + (2 * x5)) ∧ (eX6_pairAt d x1 ((x2 + (6 * x4)) + (2 * x5)) φ α (fun r7 φ7 α7 =>
     ((r7 ≤ 9999 →
     inR (x5 * 4) ∧ inR ((x5 * 4) + x4) ∧ (eX10_set d (o + 5) ((x5 * 4) + x4) r7 φ7 α7 (fun r11 φ11 α11 =>
       inR (x5 + 1) ∧ (jX7_readPools_20 (d + 1) o x1 x2 x3 x4 (x5 + 1) φ11 α11 Q)))) ∧
     (¬ (r7 ≤ 9999) →
     (Q 0 φ7 α7)))))))) : jX7_readPools_20 (d + 1) o x1 x2 x3 x4 x5 φ α Q := by
  intro Ln
  refine r_iload (pc' := 22) (kX7_readPools_0 11 rfl) rfl rfl ?_
  refine r_iconst 2 (pc' := 23) (kX7_readPools_0 12 rfl) rfl (by unfold inR; omega) ?_
  refine r_icmp_gt (t := 76) (pc' := 26) (kX7_readPools_0 13 rfl) rfl rfl (fun c1 => ?_) (fun c1 => ?_)
  · have h := h.1 c1
    have g2 := h.1
    have h := h.2
    refine r_iinc (L' := [(2, o), (2, x1), (0, x2), (0, x3), (0, (x4 + 1)), (0, x5), (9, 0)]) (pc' := 79) (kX7_readPools_0 42 rfl) rfl (Nat.le_of_ble_eq_true rfl) rfl g2 rfl ?_
    refine r_goto (pc' := 11) (kX7_readPools_0 43 rfl) rfl ?_
    exact r_weak (L' := [(2, o), (2, x1), (0, x2), (0, x3), (0, (x4 + 1)), (9, 0), (9, 0)]) ⟨Or.inl rfl, Or.inl rfl, Or.inl rfl, Or.inl rfl, Or.inl rfl, Or.inr (by decide), Or.inr (by decide), trivial⟩ (h Ln)
  · have h := h.2 c1
    refine r_aload_n (pc' := 27) (kX7_readPools_0 14 rfl) rfl rfl ?_
    refine r_iload_n (pc' := 28) (kX7_readPools_0 15 rfl) rfl rfl ?_
    refine r_bipush 6 (pc' := 30) (kX7_readPools_0 16 rfl) rfl ⟨by unfold inR; omega, rfl⟩ ?_
    refine r_iload (pc' := 32) (kX7_readPools_0 17 rfl) rfl rfl ?_
    have g3 := h.1
    have h := h.2
    refine r_imul (pc' := 33) (kX7_readPools_0 18 rfl) rfl g3 ?_
    have g4 := h.1
    have h := h.2
    refine r_iadd (pc' := 34) (kX7_readPools_0 19 rfl) rfl g4 ?_
    refine r_iconst 2 (pc' := 35) (kX7_readPools_0 20 rfl) rfl (by unfold inR; omega) ?_
    refine r_iload (pc' := 37) (kX7_readPools_0 21 rfl) rfl rfl ?_
    have g5 := h.1
    have h := h.2
    refine r_imul (pc' := 38) (kX7_readPools_0 22 rfl) rfl g5 ?_
    have g6 := h.1
    have h := h.2
    refine r_iadd (pc' := 39) (kX7_readPools_0 23 rfl) rfl g6 ?_
    refine s_callV (As := [(0, ((x2 + (6 * x4)) + (2 * x5)))]) (o := x1) (S := []) (S2 := fun z => [(0, z)]) (pc' := 42) (kX7_readPools_0 24 rfl) rfl rfl nkX6_pairAt mlX7_128 imX6_pairAt rfl slX6_pairAt rfl (Nat.le_of_ble_eq_true rfl) (Nat.le_of_ble_eq_true rfl) (hx1.1 Ln) h (fun z => rfl) (fun r7 φ7 α7 h => ?_)
    refine r_istore (L' := [(2, o), (2, x1), (0, x2), (0, x3), (0, x4), (0, x5), (0, r7)]) (pc' := 44) (kX7_readPools_0 25 rfl) rfl (Nat.le_of_ble_eq_true rfl) rfl ?_
    refine r_iload (pc' := 46) (kX7_readPools_0 26 rfl) rfl rfl ?_
    refine r_sipush 9999 (pc' := 49) (kX7_readPools_0 27 rfl) rfl ⟨by unfold inR; omega, rfl⟩ ?_
    refine r_icmp_le (t := 54) (pc' := 52) (kX7_readPools_0 28 rfl) rfl rfl (fun c8 => ?_) (fun c8 => ?_)
    · have h := h.1 c8
      refine r_aload_n (pc' := 55) (kX7_readPools_0 31 rfl) rfl rfl ?_
      refine s_getr (v := (o + 5)) (pc' := 58) (kX7_readPools_0 32 rfl) rfl fkX7_24 rfl rfl (st0 ho Ln) rfl (by have := st_pos ho; omega) ?_
      refine r_iload (pc' := 60) (kX7_readPools_0 33 rfl) rfl rfl ?_
      refine r_iconst 4 (pc' := 61) (kX7_readPools_0 34 rfl) rfl (by unfold inR; omega) ?_
      have g9 := h.1
      have h := h.2
      refine r_imul (pc' := 62) (kX7_readPools_0 35 rfl) rfl g9 ?_
      refine r_iload (pc' := 64) (kX7_readPools_0 36 rfl) rfl rfl ?_
      have g10 := h.1
      have h := h.2
      refine r_iadd (pc' := 65) (kX7_readPools_0 37 rfl) rfl g10 ?_
      refine r_iload (pc' := 67) (kX7_readPools_0 38 rfl) rfl rfl ?_
      refine s_callS (As := [(2, (o + 5)), (0, ((x5 * 4) + x4)), (0, r7)]) (S := []) (S2 := fun z => []) (pc' := 70) (kX7_readPools_0 39 rfl) rfl rfl nkX10_set mlX7_71 scX10_set rfl (Nat.le_of_ble_eq_true rfl) (Nat.le_of_ble_eq_true rfl) h (fun z => rfl) (fun r11 φ11 α11 h => ?_)
      have g12 := h.1
      have h := h.2
      refine r_iinc (L' := [(2, o), (2, x1), (0, x2), (0, x3), (0, x4), (0, (x5 + 1)), (0, r7)]) (pc' := 73) (kX7_readPools_0 40 rfl) rfl (Nat.le_of_ble_eq_true rfl) rfl g12 rfl ?_
      refine r_goto (pc' := 20) (kX7_readPools_0 41 rfl) rfl ?_
      exact r_weak (L' := [(2, o), (2, x1), (0, x2), (0, x3), (0, x4), (0, (x5 + 1)), (9, 0)]) ⟨Or.inl rfl, Or.inl rfl, Or.inl rfl, Or.inl rfl, Or.inl rfl, Or.inl rfl, Or.inr (by decide), trivial⟩ (h Ln)
    · have h := h.2 c8
      refine r_iconst 0 (pc' := 53) (kX7_readPools_0 29 rfl) rfl (by unfold inR; omega) ?_
      exact s_zret (kX7_readPools_0 30 rfl) rfl (Or.inl rfl) h
theorem vX3_clear_0 {d : Nat} {φ : aF} {α : aA} {Q : Int → aF → aA → Prop} (h : (Q 0 (upf φ 3 2 43 0) α)) : eX3_clear d  φ α Q := by
  intro Ln
  refine r_aload_n (pc' := 1) (kX3_clear_0 0 rfl) rfl rfl ?_
  refine r_iconst 0 (pc' := 2) (kX3_clear_0 1 rfl) rfl (by unfold inR; omega) ?_
  refine s_put (pc' := 5) (kX3_clear_0 2 rfl) rfl fkX3_18 fnX3_2 rfl pk_int (kz43 Ln) ?_
  exact s_vret (kX3_clear_0 3 rfl) rfl h
theorem vX3_keep_0 {d : Nat} {φ : aF} {α : aA} {Q : Int → aF → aA → Prop} {x1 : Int} (hx1 : isSt x1) (h : (((φ 3 1 43) < 0 →
   (Q 0 φ α)) ∧
   (¬ ((φ 3 1 43) < 0) →
   ((20 ≤ (φ 3 1 43) →
     (Q 0 φ α)) ∧
     (¬ (20 ≤ (φ 3 1 43)) →
     (0 ≤ (φ 3 1 43) ∧ (φ 3 1 43) < 20) ∧ (eX7_copyAll d (45 + 7 * (φ 3 1 43)) x1 φ α (fun r4 φ4 α4 =>
       inR ((φ4 3 1 43) + 1) ∧ inR (Int.tmod ((φ4 3 1 43) + 1) 20) ∧ inR ((φ4 3 2 43) + 1) ∧ (eJ9_min_7cf53 d ((φ4 3 2 43) + 1) 20 (upf φ4 3 1 43 (Int.tmod ((φ4 3 1 43) + 1) 20)) α4 (fun r8 φ8 α8 =>
       (Q 0 (upf φ8 3 2 43 r8) α8)))))))))) : eX3_keep (d + 1) x1 φ α Q := by
  intro Ln
  refine r_aload_n (pc' := 1) (kX3_keep_0 0 rfl) rfl rfl ?_
  refine s_get (x := (φ 3 1 43)) (pc' := 4) (kX3_keep_0 1 rfl) rfl fkX3_22 rfl rfl rfl (kz43 Ln) rfl ?_
  refine r_if_lt (t := 31) (pc' := 7) (kX3_keep_0 2 rfl) rfl rfl (fun c1 => ?_) (fun c1 => ?_)
  · have h := h.1 c1
    exact s_vret (kX3_keep_0 15 rfl) rfl h
  · have h := h.2 c1
    refine r_aload_n (pc' := 8) (kX3_keep_0 3 rfl) rfl rfl ?_
    refine s_get (x := (φ 3 1 43)) (pc' := 11) (kX3_keep_0 4 rfl) rfl fkX3_22 rfl rfl rfl (kz43 Ln) rfl ?_
    refine r_aload_n (pc' := 12) (kX3_keep_0 5 rfl) rfl rfl ?_
    refine s_getr (v := 44) (pc' := 15) (kX3_keep_0 6 rfl) rfl fkX3_11 rfl rfl (kz43 Ln) rfl (by decide) ?_
    refine s_alen (pc' := 16) (kX3_keep_0 7 rfl) rfl (kz44 Ln) ⟨by decide, by decide⟩ ?_
    refine r_icmp_ge (t := 31) (pc' := 19) (kX3_keep_0 8 rfl) rfl rfl (fun c2 => ?_) (fun c2 => ?_)
    · have h := h.1 c2
      exact s_vret (kX3_keep_0 15 rfl) rfl h
    · have h := h.2 c2
      refine r_aload_n (pc' := 20) (kX3_keep_0 9 rfl) rfl rfl ?_
      refine s_getr (v := 44) (pc' := 23) (kX3_keep_0 10 rfl) rfl fkX3_11 rfl rfl (kz43 Ln) rfl (by decide) ?_
      refine r_aload_n (pc' := 24) (kX3_keep_0 11 rfl) rfl rfl ?_
      refine s_get (x := (φ 3 1 43)) (pc' := 27) (kX3_keep_0 12 rfl) rfl fkX3_22 rfl rfl rfl (kz43 Ln) rfl ?_
      have g3 := h.1
      have h := h.2
      refine s_aald (pc' := 28) (kX3_keep_0 13 rfl) rfl g3 ?_
      refine r_ifnonnull (pc' := 32) (kX3_keep_0 14 rfl) rfl ?_
      refine r_aload_n (pc' := 33) (kX3_keep_0 16 rfl) rfl rfl ?_
      refine s_getr (v := 44) (pc' := 36) (kX3_keep_0 17 rfl) rfl fkX3_11 rfl rfl (kz43 Ln) rfl (by decide) ?_
      refine r_aload_n (pc' := 37) (kX3_keep_0 18 rfl) rfl rfl ?_
      refine s_get (x := (φ 3 1 43)) (pc' := 40) (kX3_keep_0 19 rfl) rfl fkX3_22 rfl rfl rfl (kz43 Ln) rfl ?_
      refine s_aald (pc' := 41) (kX3_keep_0 20 rfl) rfl g3 ?_
      refine r_aload_n (pc' := 42) (kX3_keep_0 21 rfl) rfl rfl ?_
      refine s_callV (As := [(2, x1)]) (o := (45 + 7 * (φ 3 1 43))) (S := []) (S2 := fun z => []) (pc' := 45) (kX3_keep_0 22 rfl) rfl rfl nkX7_copyAll mlX3_25 imX7_copyAll rfl slX7_copyAll rfl (Nat.le_of_ble_eq_true rfl) (Nat.le_of_ble_eq_true rfl) (st0 (pst g3) Ln) h (fun z => rfl) (fun r4 φ4 α4 h => ?_)
      refine r_aload_n (pc' := 46) (kX3_keep_0 23 rfl) rfl rfl ?_
      refine r_aload_n (pc' := 47) (kX3_keep_0 24 rfl) rfl rfl ?_
      refine s_get (x := (φ4 3 1 43)) (pc' := 50) (kX3_keep_0 25 rfl) rfl fkX3_22 rfl rfl rfl (kz43 Ln) rfl ?_
      refine r_iconst 1 (pc' := 51) (kX3_keep_0 26 rfl) rfl (by unfold inR; omega) ?_
      have g5 := h.1
      have h := h.2
      refine r_iadd (pc' := 52) (kX3_keep_0 27 rfl) rfl g5 ?_
      refine r_bipush 20 (pc' := 54) (kX3_keep_0 28 rfl) rfl ⟨by unfold inR; omega, rfl⟩ ?_
      have g6 := h.1
      have h := h.2
      refine r_irem (pc' := 55) (kX3_keep_0 29 rfl) rfl ⟨by decide, g6⟩ ?_
      refine s_put (pc' := 58) (kX3_keep_0 30 rfl) rfl fkX3_22 fnX3_1 rfl pk_int (kz43 Ln) ?_
      refine r_aload_n (pc' := 59) (kX3_keep_0 31 rfl) rfl rfl ?_
      refine r_aload_n (pc' := 60) (kX3_keep_0 32 rfl) rfl rfl ?_
      refine s_get (x := (φ4 3 2 43)) (pc' := 63) (kX3_keep_0 33 rfl) rfl fkX3_18 rfl rfl rfl (kz43 Ln) rfl ?_
      refine r_iconst 1 (pc' := 64) (kX3_keep_0 34 rfl) rfl (by unfold inR; omega) ?_
      have g7 := h.1
      have h := h.2
      refine r_iadd (pc' := 65) (kX3_keep_0 35 rfl) rfl g7 ?_
      refine r_bipush 20 (pc' := 67) (kX3_keep_0 36 rfl) rfl ⟨by unfold inR; omega, rfl⟩ ?_
      refine s_callS (As := [(0, ((φ4 3 2 43) + 1)), (0, 20)]) (S := [(2, 43)]) (S2 := fun z => [(0, z), (2, 43)]) (pc' := 70) (kX3_keep_0 37 rfl) rfl rfl nkJ9_min_7cf53 mlX3_29 scJ9_min_7cf53 rfl (Nat.le_of_ble_eq_true rfl) (Nat.le_of_ble_eq_true rfl) h (fun z => rfl) (fun r8 φ8 α8 h => ?_)
      refine s_put (pc' := 73) (kX3_keep_0 38 rfl) rfl fkX3_18 fnX3_2 rfl pk_int (kz43 Ln) ?_
      exact s_vret (kX3_keep_0 39 rfl) rfl h
theorem vX3_goBack_0 {d : Nat} {φ : aF} {α : aA} {Q : Int → aF → aA → Prop} {x1 : Int} (hx1 : isSt x1) (h : inR ((φ 3 1 43) + 20) ∧ inR (((φ 3 1 43) + 20) - 1) ∧ inR (Int.tmod (((φ 3 1 43) + 20) - 1) 20) ∧ (((φ 3 2 43) = 0 →
   (Q 0 φ α)) ∧
   (¬ ((φ 3 2 43) = 0) →
   (((Int.tmod (((φ 3 1 43) + 20) - 1) 20) < 0 →
     (Q 0 φ α)) ∧
     (¬ ((Int.tmod (((φ 3 1 43) + 20) - 1) 20) < 0) →
     ((20 ≤ (Int.tmod (((φ 3 1 43) + 20) - 1) 20) →
       (Q 0 φ α)) ∧
       (¬ (20 ≤ (Int.tmod (((φ 3 1 43) + 20) - 1) 20)) →
       (0 ≤ (Int.tmod (((φ 3 1 43) + 20) - 1) 20) ∧ (Int.tmod (((φ 3 1 43) + 20) - 1) 20) < 20) ∧ (eX7_copyAll d x1 (45 + 7 * (Int.tmod (((φ 3 1 43) + 20) - 1) 20)) φ α (fun r8 φ8 α8 =>
         inR ((φ8 3 2 43) - 1) ∧ (Q 1 (upf (upf φ8 3 1 43 (Int.tmod (((φ 3 1 43) + 20) - 1) 20)) 3 2 43 ((φ8 3 2 43) - 1)) α8)))))))))) : eX3_goBack (d + 1) x1 φ α Q := by
  intro Ln
  refine r_aload_n (pc' := 1) (kX3_goBack_0 0 rfl) rfl rfl ?_
  refine s_get (x := (φ 3 1 43)) (pc' := 4) (kX3_goBack_0 1 rfl) rfl fkX3_22 rfl rfl rfl (kz43 Ln) rfl ?_
  refine r_bipush 20 (pc' := 6) (kX3_goBack_0 2 rfl) rfl ⟨by unfold inR; omega, rfl⟩ ?_
  have g1 := h.1
  have h := h.2
  refine r_iadd (pc' := 7) (kX3_goBack_0 3 rfl) rfl g1 ?_
  refine r_iconst 1 (pc' := 8) (kX3_goBack_0 4 rfl) rfl (by unfold inR; omega) ?_
  have g2 := h.1
  have h := h.2
  refine r_isub (pc' := 9) (kX3_goBack_0 5 rfl) rfl g2 ?_
  refine r_bipush 20 (pc' := 11) (kX3_goBack_0 6 rfl) rfl ⟨by unfold inR; omega, rfl⟩ ?_
  have g3 := h.1
  have h := h.2
  refine r_irem (pc' := 12) (kX3_goBack_0 7 rfl) rfl ⟨by decide, g3⟩ ?_
  refine r_istore_n (L' := [(2, 43), (2, x1), (0, (Int.tmod (((φ 3 1 43) + 20) - 1) 20))]) (pc' := 13) (kX3_goBack_0 8 rfl) rfl (Nat.le_of_ble_eq_true rfl) rfl ?_
  refine r_aload_n (pc' := 14) (kX3_goBack_0 9 rfl) rfl rfl ?_
  refine s_get (x := (φ 3 2 43)) (pc' := 17) (kX3_goBack_0 10 rfl) rfl fkX3_18 rfl rfl rfl (kz43 Ln) rfl ?_
  refine r_if_eq (t := 42) (pc' := 20) (kX3_goBack_0 11 rfl) rfl rfl (fun c4 => ?_) (fun c4 => ?_)
  · have h := h.1 c4
    refine r_iconst 0 (pc' := 43) (kX3_goBack_0 24 rfl) rfl (by unfold inR; omega) ?_
    exact s_zret (kX3_goBack_0 25 rfl) rfl (Or.inl rfl) h
  · have h := h.2 c4
    refine r_iload_n (pc' := 21) (kX3_goBack_0 12 rfl) rfl rfl ?_
    refine r_if_lt (t := 42) (pc' := 24) (kX3_goBack_0 13 rfl) rfl rfl (fun c5 => ?_) (fun c5 => ?_)
    · have h := h.1 c5
      refine r_iconst 0 (pc' := 43) (kX3_goBack_0 24 rfl) rfl (by unfold inR; omega) ?_
      exact s_zret (kX3_goBack_0 25 rfl) rfl (Or.inl rfl) h
    · have h := h.2 c5
      refine r_iload_n (pc' := 25) (kX3_goBack_0 14 rfl) rfl rfl ?_
      refine r_aload_n (pc' := 26) (kX3_goBack_0 15 rfl) rfl rfl ?_
      refine s_getr (v := 44) (pc' := 29) (kX3_goBack_0 16 rfl) rfl fkX3_11 rfl rfl (kz43 Ln) rfl (by decide) ?_
      refine s_alen (pc' := 30) (kX3_goBack_0 17 rfl) rfl (kz44 Ln) ⟨by decide, by decide⟩ ?_
      refine r_icmp_ge (t := 42) (pc' := 33) (kX3_goBack_0 18 rfl) rfl rfl (fun c6 => ?_) (fun c6 => ?_)
      · have h := h.1 c6
        refine r_iconst 0 (pc' := 43) (kX3_goBack_0 24 rfl) rfl (by unfold inR; omega) ?_
        exact s_zret (kX3_goBack_0 25 rfl) rfl (Or.inl rfl) h
      · have h := h.2 c6
        refine r_aload_n (pc' := 34) (kX3_goBack_0 19 rfl) rfl rfl ?_
        refine s_getr (v := 44) (pc' := 37) (kX3_goBack_0 20 rfl) rfl fkX3_11 rfl rfl (kz43 Ln) rfl (by decide) ?_
        refine r_iload_n (pc' := 38) (kX3_goBack_0 21 rfl) rfl rfl ?_
        have g7 := h.1
        have h := h.2
        refine s_aald (pc' := 39) (kX3_goBack_0 22 rfl) rfl g7 ?_
        refine r_ifnonnull (pc' := 44) (kX3_goBack_0 23 rfl) rfl ?_
        refine r_aload_n (pc' := 45) (kX3_goBack_0 26 rfl) rfl rfl ?_
        refine r_aload_n (pc' := 46) (kX3_goBack_0 27 rfl) rfl rfl ?_
        refine s_getr (v := 44) (pc' := 49) (kX3_goBack_0 28 rfl) rfl fkX3_11 rfl rfl (kz43 Ln) rfl (by decide) ?_
        refine r_iload_n (pc' := 50) (kX3_goBack_0 29 rfl) rfl rfl ?_
        refine s_aald (pc' := 51) (kX3_goBack_0 30 rfl) rfl g7 ?_
        refine s_callV (As := [(2, (45 + 7 * (Int.tmod (((φ 3 1 43) + 20) - 1) 20)))]) (o := x1) (S := []) (S2 := fun z => []) (pc' := 54) (kX3_goBack_0 31 rfl) rfl rfl nkX7_copyAll mlX3_25 imX7_copyAll rfl slX7_copyAll rfl (Nat.le_of_ble_eq_true rfl) (Nat.le_of_ble_eq_true rfl) (st0 hx1 Ln) h (fun z => rfl) (fun r8 φ8 α8 h => ?_)
        refine r_aload_n (pc' := 55) (kX3_goBack_0 32 rfl) rfl rfl ?_
        refine r_iload_n (pc' := 56) (kX3_goBack_0 33 rfl) rfl rfl ?_
        refine s_put (pc' := 59) (kX3_goBack_0 34 rfl) rfl fkX3_22 fnX3_1 rfl pk_int (kz43 Ln) ?_
        refine r_aload_n (pc' := 60) (kX3_goBack_0 35 rfl) rfl rfl ?_
        refine r_dup (pc' := 61) (kX3_goBack_0 36 rfl) rfl rfl ?_
        refine s_get (x := (φ8 3 2 43)) (pc' := 64) (kX3_goBack_0 37 rfl) rfl fkX3_18 rfl rfl rfl (kz43 Ln) rfl ?_
        refine r_iconst 1 (pc' := 65) (kX3_goBack_0 38 rfl) rfl (by unfold inR; omega) ?_
        have g9 := h.1
        have h := h.2
        refine r_isub (pc' := 66) (kX3_goBack_0 39 rfl) rfl g9 ?_
        refine s_put (pc' := 69) (kX3_goBack_0 40 rfl) rfl fkX3_18 fnX3_2 rfl pk_int (kz43 Ln) ?_
        refine r_iconst 1 (pc' := 70) (kX3_goBack_0 41 rfl) rfl (by unfold inR; omega) ?_
        exact s_zret (kX3_goBack_0 42 rfl) rfl (Or.inr rfl) h
