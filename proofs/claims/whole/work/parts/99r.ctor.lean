/-! the constructors of the class (printed by wip/whole/gen_ctor.py) -/
theorem oiX10_1 : Cond.methodLink RX10 1 Lib.objectInit ∈ lw_tbl := tb1 (List.mem_of_getElem? (i := 25) rfl)
theorem nlX10_7 : ∃ (C : String) (T : u_T), CK 6 C T 2 ∧ Cond.classLink RX10 7 C ∈ lw_h ∧ Cond.instantiable C 2 ∈ lw_h ∧ Cond.initialized C ∈ lw_h := ⟨RX6, TX6, ckX6, hw (tb1 (List.mem_of_getElem? (i := 28) rfl)) rfl, hw (tb1 (List.mem_of_getElem? (i := 29) rfl)) rfl, hw (tb1 (List.mem_of_getElem? (i := 2) rfl)) rfl⟩
theorem nlX10_27 : ∃ (C : String) (T : u_T), CK 2 C T 16 ∧ Cond.classLink RX10 27 C ∈ lw_h ∧ Cond.instantiable C 16 ∈ lw_h ∧ Cond.initialized C ∈ lw_h := ⟨RX2, TX2, ckX2, hw (tb1 (List.mem_of_getElem? (i := 50) rfl)) rfl, hw (tb1 (List.mem_of_getElem? (i := 51) rfl)) rfl, hw (tb1 (List.mem_of_getElem? (i := 4) rfl)) rfl⟩
theorem oiX2_3 : Cond.methodLink RX2 3 Lib.objectInit ∈ lw_tbl := tb1 (List.mem_of_getElem? (i := 55) rfl)
theorem nlX2_27 : ∃ (C : String) (T : u_T), CK 6 C T 2 ∧ Cond.classLink RX2 27 C ∈ lw_h ∧ Cond.instantiable C 2 ∈ lw_h ∧ Cond.initialized C ∈ lw_h := ⟨RX6, TX6, ckX6, hw (tb1 (List.mem_of_getElem? (i := 56) rfl)) rfl, hw (tb1 (List.mem_of_getElem? (i := 29) rfl)) rfl, hw (tb1 (List.mem_of_getElem? (i := 2) rfl)) rfl⟩
def fX2_init_9 (φ : aF) : aF := (upf (fRow 17 (nF 17 (upf (fRow 15 (nF 15 (upf (upf (upf (upf (upf φ 2 9 9 10) 2 10 9 11) 2 11 9 12) 2 12 9 13) 2 13 9 14))) 2 14 9 15))) 2 15 9 17)
def aX2_init_9 (α : aA) : aA := (aRow 17 (aRow 15 (nAz 14 (nAz 13 (nAz 12 (nAz 11 (nAz 10 α 0) 0) 0) 0) 0)))
theorem kc_X2_init_9 {d Ln : Nat} {φ : aF} {α : aA} : Rn (d + 2) mX2_init 0 [(2, 9)] [] (KPz Ln 10) φ α (9, 3264) (eqQ none (KPz Ln 19) (fX2_init_9 φ) (aX2_init_9 α)) := by
  refine r_aload_n (pc' := 1) (kX2_init_0 0 rfl) rfl rfl ?_
  refine r_obj0 (pc' := 4) (kX2_init_0 1 rfl) rfl oiX2_3 oiI oiC (by omega) (Nat.le_of_ble_eq_true rfl) ?_
  refine r_aload_n (pc' := 5) (kX2_init_0 2 rfl) rfl rfl ?_
  refine r_bipush 11 (pc' := 7) (kX2_init_0 3 rfl) rfl ⟨by unfold inR; omega, rfl⟩ ?_
  refine k_newai (n := 10) (cnt := 11) (pc' := 9) (k := (8, 3253)) (kX2_init_0 4 rfl) rfl kai (by omega) rfl ?_
  refine r_putF (pc' := 12) (kX2_init_0 5 rfl) rfl fkX2_9 ffX2_9 rfl pk_arr rfl ?_
  refine r_aload_n (pc' := 13) (kX2_init_0 6 rfl) rfl rfl ?_
  refine r_bipush 7 (pc' := 15) (kX2_init_0 7 rfl) rfl ⟨by unfold inR; omega, rfl⟩ ?_
  refine k_newai (n := 11) (cnt := 7) (pc' := 17) (k := (7, 3246)) (kX2_init_0 8 rfl) rfl kai (by omega) rfl ?_
  refine r_putF (pc' := 20) (kX2_init_0 9 rfl) rfl fkX2_15 ffX2_10 rfl pk_arr rfl ?_
  refine r_aload_n (pc' := 21) (kX2_init_0 10 rfl) rfl rfl ?_
  refine r_bipush 7 (pc' := 23) (kX2_init_0 11 rfl) rfl ⟨by unfold inR; omega, rfl⟩ ?_
  refine k_newai (n := 12) (cnt := 7) (pc' := 25) (k := (6, 3239)) (kX2_init_0 12 rfl) rfl kai (by omega) rfl ?_
  refine r_putF (pc' := 28) (kX2_init_0 13 rfl) rfl fkX2_18 ffX2_11 rfl pk_arr rfl ?_
  refine r_aload_n (pc' := 29) (kX2_init_0 14 rfl) rfl rfl ?_
  refine r_bipush 28 (pc' := 31) (kX2_init_0 15 rfl) rfl ⟨by unfold inR; omega, rfl⟩ ?_
  refine k_newai (n := 13) (cnt := 28) (pc' := 33) (k := (5, 3211)) (kX2_init_0 16 rfl) rfl kai (by omega) rfl ?_
  refine r_putF (pc' := 36) (kX2_init_0 17 rfl) rfl fkX2_21 ffX2_12 rfl pk_arr rfl ?_
  refine r_aload_n (pc' := 37) (kX2_init_0 18 rfl) rfl rfl ?_
  refine r_bipush 7 (pc' := 39) (kX2_init_0 19 rfl) rfl ⟨by unfold inR; omega, rfl⟩ ?_
  refine k_newai (n := 14) (cnt := 7) (pc' := 41) (k := (4, 3204)) (kX2_init_0 20 rfl) rfl kai (by omega) rfl ?_
  refine r_putF (pc' := 44) (kX2_init_0 21 rfl) rfl fkX2_24 ffX2_13 rfl pk_arr rfl ?_
  refine r_aload_n (pc' := 45) (kX2_init_0 22 rfl) rfl rfl ?_
  refine k_new (n := 15) (pc' := 48) (k := (3, 3202)) (kX2_init_0 23 rfl) rfl nlX2_27 (by decide) rfl ?_
  refine r_dup (pc' := 49) (kX2_init_0 24 rfl) rfl rfl ?_
  refine r_sipush 1600 (pc' := 52) (kX2_init_0 25 rfl) rfl ⟨by unfold inR; omega, rfl⟩ ?_
  refine r_callI (d := d + 1) (N := mX6_init) (As := [(0, 1600)]) (S := [(2, 15), (2, 9)]) (pc' := 55) (k1 := (1, 1600)) (k2 := (2, 1602)) (kX2_init_0 26 rfl) rfl rfl nkX6_init mlX2_29 imX6_init rfl rfl rfl (Nat.le_of_ble_eq_true rfl) (Nat.le_of_ble_eq_true rfl) (k_Row (o := 15) (m := 1600) (d := d + 0) rfl rfl (by omega)) (fun r K' φ' α' e => ?_)
  obtain ⟨rfl, rfl, rfl, rfl⟩ := e
  show Rn _ _ _ _ [(2, 15), (2, 9)] _ _ _ _ _
  refine r_putF (pc' := 58) (kX2_init_0 27 rfl) rfl fkX2_32 ffX2_14 rfl pk_obj rfl ?_
  refine r_aload_n (pc' := 59) (kX2_init_0 28 rfl) rfl rfl ?_
  refine k_new (n := 17) (pc' := 62) (k := (1, 1600)) (kX2_init_0 29 rfl) rfl nlX2_27 (by decide) rfl ?_
  refine r_dup (pc' := 63) (kX2_init_0 30 rfl) rfl rfl ?_
  refine r_sipush 1600 (pc' := 66) (kX2_init_0 31 rfl) rfl ⟨by unfold inR; omega, rfl⟩ ?_
  refine r_callI (d := d + 1) (N := mX6_init) (As := [(0, 1600)]) (S := [(2, 17), (2, 9)]) (pc' := 69) (k1 := (1, 1600)) (k2 := (0, 0)) (kX2_init_0 32 rfl) rfl rfl nkX6_init mlX2_29 imX6_init rfl rfl rfl (Nat.le_of_ble_eq_true rfl) (Nat.le_of_ble_eq_true rfl) (k_Row (o := 17) (m := 1600) (d := d + 0) rfl rfl (by omega)) (fun r K' φ' α' e => ?_)
  obtain ⟨rfl, rfl, rfl, rfl⟩ := e
  show Rn _ _ _ _ [(2, 17), (2, 9)] _ _ _ _ _
  refine r_putF (pc' := 72) (kX2_init_0 33 rfl) rfl fkX2_36 ffX2_15 rfl pk_obj rfl ?_
  exact r_vret (x := 0) (kX2_init_0 34 rfl) rfl ⟨rfl, rfl, rfl, rfl⟩
def fX2_init_19 (φ : aF) : aF := (upf (fRow 27 (nF 27 (upf (fRow 25 (nF 25 (upf (upf (upf (upf (upf φ 2 9 19 20) 2 10 19 21) 2 11 19 22) 2 12 19 23) 2 13 19 24))) 2 14 19 25))) 2 15 19 27)
def aX2_init_19 (α : aA) : aA := (aRow 27 (aRow 25 (nAz 24 (nAz 23 (nAz 22 (nAz 21 (nAz 20 α 0) 0) 0) 0) 0)))
theorem kc_X2_init_19 {d Ln : Nat} {φ : aF} {α : aA} : Rn (d + 2) mX2_init 0 [(2, 19)] [] (KPz Ln 20) φ α (9, 3264) (eqQ none (KPz Ln 29) (fX2_init_19 φ) (aX2_init_19 α)) := by
  refine r_aload_n (pc' := 1) (kX2_init_0 0 rfl) rfl rfl ?_
  refine r_obj0 (pc' := 4) (kX2_init_0 1 rfl) rfl oiX2_3 oiI oiC (by omega) (Nat.le_of_ble_eq_true rfl) ?_
  refine r_aload_n (pc' := 5) (kX2_init_0 2 rfl) rfl rfl ?_
  refine r_bipush 11 (pc' := 7) (kX2_init_0 3 rfl) rfl ⟨by unfold inR; omega, rfl⟩ ?_
  refine k_newai (n := 20) (cnt := 11) (pc' := 9) (k := (8, 3253)) (kX2_init_0 4 rfl) rfl kai (by omega) rfl ?_
  refine r_putF (pc' := 12) (kX2_init_0 5 rfl) rfl fkX2_9 ffX2_9 rfl pk_arr rfl ?_
  refine r_aload_n (pc' := 13) (kX2_init_0 6 rfl) rfl rfl ?_
  refine r_bipush 7 (pc' := 15) (kX2_init_0 7 rfl) rfl ⟨by unfold inR; omega, rfl⟩ ?_
  refine k_newai (n := 21) (cnt := 7) (pc' := 17) (k := (7, 3246)) (kX2_init_0 8 rfl) rfl kai (by omega) rfl ?_
  refine r_putF (pc' := 20) (kX2_init_0 9 rfl) rfl fkX2_15 ffX2_10 rfl pk_arr rfl ?_
  refine r_aload_n (pc' := 21) (kX2_init_0 10 rfl) rfl rfl ?_
  refine r_bipush 7 (pc' := 23) (kX2_init_0 11 rfl) rfl ⟨by unfold inR; omega, rfl⟩ ?_
  refine k_newai (n := 22) (cnt := 7) (pc' := 25) (k := (6, 3239)) (kX2_init_0 12 rfl) rfl kai (by omega) rfl ?_
  refine r_putF (pc' := 28) (kX2_init_0 13 rfl) rfl fkX2_18 ffX2_11 rfl pk_arr rfl ?_
  refine r_aload_n (pc' := 29) (kX2_init_0 14 rfl) rfl rfl ?_
  refine r_bipush 28 (pc' := 31) (kX2_init_0 15 rfl) rfl ⟨by unfold inR; omega, rfl⟩ ?_
  refine k_newai (n := 23) (cnt := 28) (pc' := 33) (k := (5, 3211)) (kX2_init_0 16 rfl) rfl kai (by omega) rfl ?_
  refine r_putF (pc' := 36) (kX2_init_0 17 rfl) rfl fkX2_21 ffX2_12 rfl pk_arr rfl ?_
  refine r_aload_n (pc' := 37) (kX2_init_0 18 rfl) rfl rfl ?_
  refine r_bipush 7 (pc' := 39) (kX2_init_0 19 rfl) rfl ⟨by unfold inR; omega, rfl⟩ ?_
  refine k_newai (n := 24) (cnt := 7) (pc' := 41) (k := (4, 3204)) (kX2_init_0 20 rfl) rfl kai (by omega) rfl ?_
  refine r_putF (pc' := 44) (kX2_init_0 21 rfl) rfl fkX2_24 ffX2_13 rfl pk_arr rfl ?_
  refine r_aload_n (pc' := 45) (kX2_init_0 22 rfl) rfl rfl ?_
  refine k_new (n := 25) (pc' := 48) (k := (3, 3202)) (kX2_init_0 23 rfl) rfl nlX2_27 (by decide) rfl ?_
  refine r_dup (pc' := 49) (kX2_init_0 24 rfl) rfl rfl ?_
  refine r_sipush 1600 (pc' := 52) (kX2_init_0 25 rfl) rfl ⟨by unfold inR; omega, rfl⟩ ?_
  refine r_callI (d := d + 1) (N := mX6_init) (As := [(0, 1600)]) (S := [(2, 25), (2, 19)]) (pc' := 55) (k1 := (1, 1600)) (k2 := (2, 1602)) (kX2_init_0 26 rfl) rfl rfl nkX6_init mlX2_29 imX6_init rfl rfl rfl (Nat.le_of_ble_eq_true rfl) (Nat.le_of_ble_eq_true rfl) (k_Row (o := 25) (m := 1600) (d := d + 0) rfl rfl (by omega)) (fun r K' φ' α' e => ?_)
  obtain ⟨rfl, rfl, rfl, rfl⟩ := e
  show Rn _ _ _ _ [(2, 25), (2, 19)] _ _ _ _ _
  refine r_putF (pc' := 58) (kX2_init_0 27 rfl) rfl fkX2_32 ffX2_14 rfl pk_obj rfl ?_
  refine r_aload_n (pc' := 59) (kX2_init_0 28 rfl) rfl rfl ?_
  refine k_new (n := 27) (pc' := 62) (k := (1, 1600)) (kX2_init_0 29 rfl) rfl nlX2_27 (by decide) rfl ?_
  refine r_dup (pc' := 63) (kX2_init_0 30 rfl) rfl rfl ?_
  refine r_sipush 1600 (pc' := 66) (kX2_init_0 31 rfl) rfl ⟨by unfold inR; omega, rfl⟩ ?_
  refine r_callI (d := d + 1) (N := mX6_init) (As := [(0, 1600)]) (S := [(2, 27), (2, 19)]) (pc' := 69) (k1 := (1, 1600)) (k2 := (0, 0)) (kX2_init_0 32 rfl) rfl rfl nkX6_init mlX2_29 imX6_init rfl rfl rfl (Nat.le_of_ble_eq_true rfl) (Nat.le_of_ble_eq_true rfl) (k_Row (o := 27) (m := 1600) (d := d + 0) rfl rfl (by omega)) (fun r K' φ' α' e => ?_)
  obtain ⟨rfl, rfl, rfl, rfl⟩ := e
  show Rn _ _ _ _ [(2, 27), (2, 19)] _ _ _ _ _
  refine r_putF (pc' := 72) (kX2_init_0 33 rfl) rfl fkX2_36 ffX2_15 rfl pk_obj rfl ?_
  exact r_vret (x := 0) (kX2_init_0 34 rfl) rfl ⟨rfl, rfl, rfl, rfl⟩
theorem nlX10_37 : ∃ (C : String) (T : u_T), CK 7 C T 11 ∧ Cond.classLink RX10 37 C ∈ lw_h ∧ Cond.instantiable C 11 ∈ lw_h ∧ Cond.initialized C ∈ lw_h := ⟨RX7, TX7, ckX7, hw (tb1 (List.mem_of_getElem? (i := 148) rfl)) rfl, hw (tb1 (List.mem_of_getElem? (i := 149) rfl)) rfl, hw (tb1 (List.mem_of_getElem? (i := 5) rfl)) rfl⟩
theorem nlX10_47 : ∃ (C : String) (T : u_T), CK 3 C T 3 ∧ Cond.classLink RX10 47 C ∈ lw_h ∧ Cond.instantiable C 3 ∈ lw_h ∧ Cond.initialized C ∈ lw_h := ⟨RX3, TX3, ckX3, hw (tb1 (List.mem_of_getElem? (i := 205) rfl)) rfl, hw (tb1 (List.mem_of_getElem? (i := 206) rfl)) rfl, hw (tb1 (List.mem_of_getElem? (i := 6) rfl)) rfl⟩
theorem oiX3_3 : Cond.methodLink RX3 3 Lib.objectInit ∈ lw_tbl := tb1 (List.mem_of_getElem? (i := 210) rfl)
theorem nlX3_9 : ∃ (C : String) (T : u_T), CK 7 C T 11 ∧ Cond.classLink RX3 9 C ∈ lw_h ∧ Cond.instantiable C 11 ∈ lw_h ∧ Cond.initialized C ∈ lw_h := ⟨RX7, TX7, ckX7, hw (tb1 (List.mem_of_getElem? (i := 211) rfl)) rfl, hw (tb1 (List.mem_of_getElem? (i := 149) rfl)) rfl, hw (tb1 (List.mem_of_getElem? (i := 5) rfl)) rfl⟩
def fX3_init_43 (φ : aF) : aF := (fSta 178 (nF 178 (fSta 171 (nF 171 (fSta 164 (nF 164 (fSta 157 (nF 157 (fSta 150 (nF 150 (fSta 143 (nF 143 (fSta 136 (nF 136 (fSta 129 (nF 129 (fSta 122 (nF 122 (fSta 115 (nF 115 (fSta 108 (nF 108 (fSta 101 (nF 101 (fSta 94 (nF 94 (fSta 87 (nF 87 (fSta 80 (nF 80 (fSta 73 (nF 73 (fSta 66 (nF 66 (fSta 59 (nF 59 (fSta 52 (nF 52 (fSta 45 (nF 45 (upf φ 3 0 43 44)))))))))))))))))))))))))))))))))))))))))
def aX3_init_43 (α : aA) : aA := (upa (aSta 178 (upa (aSta 171 (upa (aSta 164 (upa (aSta 157 (upa (aSta 150 (upa (aSta 143 (upa (aSta 136 (upa (aSta 129 (upa (aSta 122 (upa (aSta 115 (upa (aSta 108 (upa (aSta 101 (upa (aSta 94 (upa (aSta 87 (upa (aSta 80 (upa (aSta 73 (upa (aSta 66 (upa (aSta 59 (upa (aSta 52 (upa (aSta 45 (nAz 44 α (-1))) 44 0 45)) 44 1 52)) 44 2 59)) 44 3 66)) 44 4 73)) 44 5 80)) 44 6 87)) 44 7 94)) 44 8 101)) 44 9 108)) 44 10 115)) 44 11 122)) 44 12 129)) 44 13 136)) 44 14 143)) 44 15 150)) 44 16 157)) 44 17 164)) 44 18 171)) 44 19 178)
theorem kc_X3_init_43 {d Ln : Nat} {φ : aF} {α : aA} : Rn (d + 2) mX3_init 0 [(2, 43), (9, 0)] [] (KPz Ln 44) φ α (141, 3900) (eqQ none (KPz Ln 185) (fX3_init_43 φ) (aX3_init_43 α)) := by
  refine r_aload_n (pc' := 1) (kX3_init_0 0 rfl) rfl rfl ?_
  refine r_obj0 (pc' := 4) (kX3_init_0 1 rfl) rfl oiX3_3 oiI oiC (by omega) (Nat.le_of_ble_eq_true rfl) ?_
  refine r_aload_n (pc' := 5) (kX3_init_0 2 rfl) rfl rfl ?_
  refine r_bipush 20 (pc' := 7) (kX3_init_0 3 rfl) rfl ⟨by unfold inR; omega, rfl⟩ ?_
  refine k_newq (n := 44) (cnt := 20) (pc' := 10) (k := (140, 3880)) (kX3_init_0 4 rfl) rfl (hw (tb1 (List.mem_of_getElem? (i := 211) rfl)) rfl) (by omega) rfl ?_
  refine r_putF (pc' := 13) (kX3_init_0 5 rfl) rfl fkX3_11 ffX3_0 rfl pk_arr rfl ?_
  refine r_iconst 0 (pc' := 14) (kX3_init_0 6 rfl) rfl (by unfold inR; omega) ?_
  refine r_istore_n (L' := [(2, 43), (0, 0)]) (pc' := 15) (kX3_init_0 7 rfl) rfl (Nat.le_of_ble_eq_true rfl) rfl ?_
  refine r_iload_n (pc' := 16) (kX3_init_0 8 rfl) rfl rfl ?_
  refine r_aload_n (pc' := 17) (kX3_init_0 9 rfl) rfl rfl ?_
  refine r_getv (v := 44) (t := 2) (pc' := 20) (kX3_init_0 10 rfl) rfl fkX3_11 rfl rfl rfl (fun _ => by omega) ?_
  refine r_alen (pc' := 21) (kX3_init_0 11 rfl) rfl ⟨show (20 : Nat) ≤ 23 from by decide, show (23 : Nat) ≤ 23 from by decide⟩ ?_
  show Rn _ _ _ _ [(0, 20), (0, 0)] _ _ _ _ _
  refine r_icmp_ge (t := 43) (pc' := 24) (kX3_init_0 12 rfl) rfl rfl (fun cz => absurd cz (by decide)) (fun _ => ?_)
  refine r_aload_n (pc' := 25) (kX3_init_0 13 rfl) rfl rfl ?_
  refine r_getv (v := 44) (t := 2) (pc' := 28) (kX3_init_0 14 rfl) rfl fkX3_11 rfl rfl rfl (fun _ => by omega) ?_
  refine r_iload_n (pc' := 29) (kX3_init_0 15 rfl) rfl rfl ?_
  refine k_new (n := 45) (pc' := 32) (k := (139, 3869)) (kX3_init_0 16 rfl) rfl nlX3_9 (by decide) rfl ?_
  refine r_dup (pc' := 33) (kX3_init_0 17 rfl) rfl rfl ?_
  refine r_callI (d := d + 1) (N := mX7_init) (As := []) (S := [(2, 45), (0, 0), (2, 44)]) (pc' := 36) (k1 := (6, 183)) (k2 := (133, 3686)) (kX3_init_0 18 rfl) rfl rfl nkX7_init mlX3_17 imX7_init rfl rfl rfl (Nat.le_of_ble_eq_true rfl) (Nat.le_of_ble_eq_true rfl) (k_Sta (o := 45) (d := d + 0) rfl rfl rfl rfl rfl rfl rfl) (fun r K' φ' α' e => ?_)
  obtain ⟨rfl, rfl, rfl, rfl⟩ := e
  show Rn _ _ _ _ [(2, 45), (0, 0), (2, 44)] _ _ _ _ _
  refine r_aast (pc' := 37) (kX3_init_0 19 rfl) rfl rfl ⟨by decide, show (0 : Int) < ((20 : Nat) : Int) from by decide⟩ rfl ?_
  refine r_iinc (L' := [(2, 43), (0, 1)]) (pc' := 40) (kX3_init_0 20 rfl) rfl (Nat.le_of_ble_eq_true rfl) rfl (by unfold inR; omega) rfl ?_
  refine r_goto (pc' := 15) (kX3_init_0 21 rfl) rfl ?_
  refine r_iload_n (pc' := 16) (kX3_init_0 8 rfl) rfl rfl ?_
  refine r_aload_n (pc' := 17) (kX3_init_0 9 rfl) rfl rfl ?_
  refine r_getv (v := 44) (t := 2) (pc' := 20) (kX3_init_0 10 rfl) rfl fkX3_11 rfl rfl rfl (fun _ => by omega) ?_
  refine r_alen (pc' := 21) (kX3_init_0 11 rfl) rfl ⟨show (20 : Nat) ≤ 23 from by decide, show (23 : Nat) ≤ 23 from by decide⟩ ?_
  show Rn _ _ _ _ [(0, 20), (0, 1)] _ _ _ _ _
  refine r_icmp_ge (t := 43) (pc' := 24) (kX3_init_0 12 rfl) rfl rfl (fun cz => absurd cz (by decide)) (fun _ => ?_)
  refine r_aload_n (pc' := 25) (kX3_init_0 13 rfl) rfl rfl ?_
  refine r_getv (v := 44) (t := 2) (pc' := 28) (kX3_init_0 14 rfl) rfl fkX3_11 rfl rfl rfl (fun _ => by omega) ?_
  refine r_iload_n (pc' := 29) (kX3_init_0 15 rfl) rfl rfl ?_
  refine k_new (n := 52) (pc' := 32) (k := (132, 3675)) (kX3_init_0 16 rfl) rfl nlX3_9 (by decide) rfl ?_
  refine r_dup (pc' := 33) (kX3_init_0 17 rfl) rfl rfl ?_
  refine r_callI (d := d + 1) (N := mX7_init) (As := []) (S := [(2, 52), (0, 1), (2, 44)]) (pc' := 36) (k1 := (6, 183)) (k2 := (126, 3492)) (kX3_init_0 18 rfl) rfl rfl nkX7_init mlX3_17 imX7_init rfl rfl rfl (Nat.le_of_ble_eq_true rfl) (Nat.le_of_ble_eq_true rfl) (k_Sta (o := 52) (d := d + 0) rfl rfl rfl rfl rfl rfl rfl) (fun r K' φ' α' e => ?_)
  obtain ⟨rfl, rfl, rfl, rfl⟩ := e
  show Rn _ _ _ _ [(2, 52), (0, 1), (2, 44)] _ _ _ _ _
  refine r_aast (pc' := 37) (kX3_init_0 19 rfl) rfl rfl ⟨by decide, show (1 : Int) < ((20 : Nat) : Int) from by decide⟩ rfl ?_
  refine r_iinc (L' := [(2, 43), (0, 2)]) (pc' := 40) (kX3_init_0 20 rfl) rfl (Nat.le_of_ble_eq_true rfl) rfl (by unfold inR; omega) rfl ?_
  refine r_goto (pc' := 15) (kX3_init_0 21 rfl) rfl ?_
  refine r_iload_n (pc' := 16) (kX3_init_0 8 rfl) rfl rfl ?_
  refine r_aload_n (pc' := 17) (kX3_init_0 9 rfl) rfl rfl ?_
  refine r_getv (v := 44) (t := 2) (pc' := 20) (kX3_init_0 10 rfl) rfl fkX3_11 rfl rfl rfl (fun _ => by omega) ?_
  refine r_alen (pc' := 21) (kX3_init_0 11 rfl) rfl ⟨show (20 : Nat) ≤ 23 from by decide, show (23 : Nat) ≤ 23 from by decide⟩ ?_
  show Rn _ _ _ _ [(0, 20), (0, 2)] _ _ _ _ _
  refine r_icmp_ge (t := 43) (pc' := 24) (kX3_init_0 12 rfl) rfl rfl (fun cz => absurd cz (by decide)) (fun _ => ?_)
  refine r_aload_n (pc' := 25) (kX3_init_0 13 rfl) rfl rfl ?_
  refine r_getv (v := 44) (t := 2) (pc' := 28) (kX3_init_0 14 rfl) rfl fkX3_11 rfl rfl rfl (fun _ => by omega) ?_
  refine r_iload_n (pc' := 29) (kX3_init_0 15 rfl) rfl rfl ?_
  refine k_new (n := 59) (pc' := 32) (k := (125, 3481)) (kX3_init_0 16 rfl) rfl nlX3_9 (by decide) rfl ?_
  refine r_dup (pc' := 33) (kX3_init_0 17 rfl) rfl rfl ?_
  refine r_callI (d := d + 1) (N := mX7_init) (As := []) (S := [(2, 59), (0, 2), (2, 44)]) (pc' := 36) (k1 := (6, 183)) (k2 := (119, 3298)) (kX3_init_0 18 rfl) rfl rfl nkX7_init mlX3_17 imX7_init rfl rfl rfl (Nat.le_of_ble_eq_true rfl) (Nat.le_of_ble_eq_true rfl) (k_Sta (o := 59) (d := d + 0) rfl rfl rfl rfl rfl rfl rfl) (fun r K' φ' α' e => ?_)
  obtain ⟨rfl, rfl, rfl, rfl⟩ := e
  show Rn _ _ _ _ [(2, 59), (0, 2), (2, 44)] _ _ _ _ _
  refine r_aast (pc' := 37) (kX3_init_0 19 rfl) rfl rfl ⟨by decide, show (2 : Int) < ((20 : Nat) : Int) from by decide⟩ rfl ?_
  refine r_iinc (L' := [(2, 43), (0, 3)]) (pc' := 40) (kX3_init_0 20 rfl) rfl (Nat.le_of_ble_eq_true rfl) rfl (by unfold inR; omega) rfl ?_
  refine r_goto (pc' := 15) (kX3_init_0 21 rfl) rfl ?_
  refine r_iload_n (pc' := 16) (kX3_init_0 8 rfl) rfl rfl ?_
  refine r_aload_n (pc' := 17) (kX3_init_0 9 rfl) rfl rfl ?_
  refine r_getv (v := 44) (t := 2) (pc' := 20) (kX3_init_0 10 rfl) rfl fkX3_11 rfl rfl rfl (fun _ => by omega) ?_
  refine r_alen (pc' := 21) (kX3_init_0 11 rfl) rfl ⟨show (20 : Nat) ≤ 23 from by decide, show (23 : Nat) ≤ 23 from by decide⟩ ?_
  show Rn _ _ _ _ [(0, 20), (0, 3)] _ _ _ _ _
  refine r_icmp_ge (t := 43) (pc' := 24) (kX3_init_0 12 rfl) rfl rfl (fun cz => absurd cz (by decide)) (fun _ => ?_)
  refine r_aload_n (pc' := 25) (kX3_init_0 13 rfl) rfl rfl ?_
  refine r_getv (v := 44) (t := 2) (pc' := 28) (kX3_init_0 14 rfl) rfl fkX3_11 rfl rfl rfl (fun _ => by omega) ?_
  refine r_iload_n (pc' := 29) (kX3_init_0 15 rfl) rfl rfl ?_
  refine k_new (n := 66) (pc' := 32) (k := (118, 3287)) (kX3_init_0 16 rfl) rfl nlX3_9 (by decide) rfl ?_
  refine r_dup (pc' := 33) (kX3_init_0 17 rfl) rfl rfl ?_
  refine r_callI (d := d + 1) (N := mX7_init) (As := []) (S := [(2, 66), (0, 3), (2, 44)]) (pc' := 36) (k1 := (6, 183)) (k2 := (112, 3104)) (kX3_init_0 18 rfl) rfl rfl nkX7_init mlX3_17 imX7_init rfl rfl rfl (Nat.le_of_ble_eq_true rfl) (Nat.le_of_ble_eq_true rfl) (k_Sta (o := 66) (d := d + 0) rfl rfl rfl rfl rfl rfl rfl) (fun r K' φ' α' e => ?_)
  obtain ⟨rfl, rfl, rfl, rfl⟩ := e
  show Rn _ _ _ _ [(2, 66), (0, 3), (2, 44)] _ _ _ _ _
  refine r_aast (pc' := 37) (kX3_init_0 19 rfl) rfl rfl ⟨by decide, show (3 : Int) < ((20 : Nat) : Int) from by decide⟩ rfl ?_
  refine r_iinc (L' := [(2, 43), (0, 4)]) (pc' := 40) (kX3_init_0 20 rfl) rfl (Nat.le_of_ble_eq_true rfl) rfl (by unfold inR; omega) rfl ?_
  refine r_goto (pc' := 15) (kX3_init_0 21 rfl) rfl ?_
  refine r_iload_n (pc' := 16) (kX3_init_0 8 rfl) rfl rfl ?_
  refine r_aload_n (pc' := 17) (kX3_init_0 9 rfl) rfl rfl ?_
  refine r_getv (v := 44) (t := 2) (pc' := 20) (kX3_init_0 10 rfl) rfl fkX3_11 rfl rfl rfl (fun _ => by omega) ?_
  refine r_alen (pc' := 21) (kX3_init_0 11 rfl) rfl ⟨show (20 : Nat) ≤ 23 from by decide, show (23 : Nat) ≤ 23 from by decide⟩ ?_
  show Rn _ _ _ _ [(0, 20), (0, 4)] _ _ _ _ _
  refine r_icmp_ge (t := 43) (pc' := 24) (kX3_init_0 12 rfl) rfl rfl (fun cz => absurd cz (by decide)) (fun _ => ?_)
  refine r_aload_n (pc' := 25) (kX3_init_0 13 rfl) rfl rfl ?_
  refine r_getv (v := 44) (t := 2) (pc' := 28) (kX3_init_0 14 rfl) rfl fkX3_11 rfl rfl rfl (fun _ => by omega) ?_
  refine r_iload_n (pc' := 29) (kX3_init_0 15 rfl) rfl rfl ?_
  refine k_new (n := 73) (pc' := 32) (k := (111, 3093)) (kX3_init_0 16 rfl) rfl nlX3_9 (by decide) rfl ?_
  refine r_dup (pc' := 33) (kX3_init_0 17 rfl) rfl rfl ?_
  refine r_callI (d := d + 1) (N := mX7_init) (As := []) (S := [(2, 73), (0, 4), (2, 44)]) (pc' := 36) (k1 := (6, 183)) (k2 := (105, 2910)) (kX3_init_0 18 rfl) rfl rfl nkX7_init mlX3_17 imX7_init rfl rfl rfl (Nat.le_of_ble_eq_true rfl) (Nat.le_of_ble_eq_true rfl) (k_Sta (o := 73) (d := d + 0) rfl rfl rfl rfl rfl rfl rfl) (fun r K' φ' α' e => ?_)
  obtain ⟨rfl, rfl, rfl, rfl⟩ := e
  show Rn _ _ _ _ [(2, 73), (0, 4), (2, 44)] _ _ _ _ _
  refine r_aast (pc' := 37) (kX3_init_0 19 rfl) rfl rfl ⟨by decide, show (4 : Int) < ((20 : Nat) : Int) from by decide⟩ rfl ?_
  refine r_iinc (L' := [(2, 43), (0, 5)]) (pc' := 40) (kX3_init_0 20 rfl) rfl (Nat.le_of_ble_eq_true rfl) rfl (by unfold inR; omega) rfl ?_
  refine r_goto (pc' := 15) (kX3_init_0 21 rfl) rfl ?_
  refine r_iload_n (pc' := 16) (kX3_init_0 8 rfl) rfl rfl ?_
  refine r_aload_n (pc' := 17) (kX3_init_0 9 rfl) rfl rfl ?_
  refine r_getv (v := 44) (t := 2) (pc' := 20) (kX3_init_0 10 rfl) rfl fkX3_11 rfl rfl rfl (fun _ => by omega) ?_
  refine r_alen (pc' := 21) (kX3_init_0 11 rfl) rfl ⟨show (20 : Nat) ≤ 23 from by decide, show (23 : Nat) ≤ 23 from by decide⟩ ?_
  show Rn _ _ _ _ [(0, 20), (0, 5)] _ _ _ _ _
  refine r_icmp_ge (t := 43) (pc' := 24) (kX3_init_0 12 rfl) rfl rfl (fun cz => absurd cz (by decide)) (fun _ => ?_)
  refine r_aload_n (pc' := 25) (kX3_init_0 13 rfl) rfl rfl ?_
  refine r_getv (v := 44) (t := 2) (pc' := 28) (kX3_init_0 14 rfl) rfl fkX3_11 rfl rfl rfl (fun _ => by omega) ?_
  refine r_iload_n (pc' := 29) (kX3_init_0 15 rfl) rfl rfl ?_
  refine k_new (n := 80) (pc' := 32) (k := (104, 2899)) (kX3_init_0 16 rfl) rfl nlX3_9 (by decide) rfl ?_
  refine r_dup (pc' := 33) (kX3_init_0 17 rfl) rfl rfl ?_
  refine r_callI (d := d + 1) (N := mX7_init) (As := []) (S := [(2, 80), (0, 5), (2, 44)]) (pc' := 36) (k1 := (6, 183)) (k2 := (98, 2716)) (kX3_init_0 18 rfl) rfl rfl nkX7_init mlX3_17 imX7_init rfl rfl rfl (Nat.le_of_ble_eq_true rfl) (Nat.le_of_ble_eq_true rfl) (k_Sta (o := 80) (d := d + 0) rfl rfl rfl rfl rfl rfl rfl) (fun r K' φ' α' e => ?_)
  obtain ⟨rfl, rfl, rfl, rfl⟩ := e
  show Rn _ _ _ _ [(2, 80), (0, 5), (2, 44)] _ _ _ _ _
  refine r_aast (pc' := 37) (kX3_init_0 19 rfl) rfl rfl ⟨by decide, show (5 : Int) < ((20 : Nat) : Int) from by decide⟩ rfl ?_
  refine r_iinc (L' := [(2, 43), (0, 6)]) (pc' := 40) (kX3_init_0 20 rfl) rfl (Nat.le_of_ble_eq_true rfl) rfl (by unfold inR; omega) rfl ?_
  refine r_goto (pc' := 15) (kX3_init_0 21 rfl) rfl ?_
  refine r_iload_n (pc' := 16) (kX3_init_0 8 rfl) rfl rfl ?_
  refine r_aload_n (pc' := 17) (kX3_init_0 9 rfl) rfl rfl ?_
  refine r_getv (v := 44) (t := 2) (pc' := 20) (kX3_init_0 10 rfl) rfl fkX3_11 rfl rfl rfl (fun _ => by omega) ?_
  refine r_alen (pc' := 21) (kX3_init_0 11 rfl) rfl ⟨show (20 : Nat) ≤ 23 from by decide, show (23 : Nat) ≤ 23 from by decide⟩ ?_
  show Rn _ _ _ _ [(0, 20), (0, 6)] _ _ _ _ _
  refine r_icmp_ge (t := 43) (pc' := 24) (kX3_init_0 12 rfl) rfl rfl (fun cz => absurd cz (by decide)) (fun _ => ?_)
  refine r_aload_n (pc' := 25) (kX3_init_0 13 rfl) rfl rfl ?_
  refine r_getv (v := 44) (t := 2) (pc' := 28) (kX3_init_0 14 rfl) rfl fkX3_11 rfl rfl rfl (fun _ => by omega) ?_
  refine r_iload_n (pc' := 29) (kX3_init_0 15 rfl) rfl rfl ?_
  refine k_new (n := 87) (pc' := 32) (k := (97, 2705)) (kX3_init_0 16 rfl) rfl nlX3_9 (by decide) rfl ?_
  refine r_dup (pc' := 33) (kX3_init_0 17 rfl) rfl rfl ?_
  refine r_callI (d := d + 1) (N := mX7_init) (As := []) (S := [(2, 87), (0, 6), (2, 44)]) (pc' := 36) (k1 := (6, 183)) (k2 := (91, 2522)) (kX3_init_0 18 rfl) rfl rfl nkX7_init mlX3_17 imX7_init rfl rfl rfl (Nat.le_of_ble_eq_true rfl) (Nat.le_of_ble_eq_true rfl) (k_Sta (o := 87) (d := d + 0) rfl rfl rfl rfl rfl rfl rfl) (fun r K' φ' α' e => ?_)
  obtain ⟨rfl, rfl, rfl, rfl⟩ := e
  show Rn _ _ _ _ [(2, 87), (0, 6), (2, 44)] _ _ _ _ _
  refine r_aast (pc' := 37) (kX3_init_0 19 rfl) rfl rfl ⟨by decide, show (6 : Int) < ((20 : Nat) : Int) from by decide⟩ rfl ?_
  refine r_iinc (L' := [(2, 43), (0, 7)]) (pc' := 40) (kX3_init_0 20 rfl) rfl (Nat.le_of_ble_eq_true rfl) rfl (by unfold inR; omega) rfl ?_
  refine r_goto (pc' := 15) (kX3_init_0 21 rfl) rfl ?_
  refine r_iload_n (pc' := 16) (kX3_init_0 8 rfl) rfl rfl ?_
  refine r_aload_n (pc' := 17) (kX3_init_0 9 rfl) rfl rfl ?_
  refine r_getv (v := 44) (t := 2) (pc' := 20) (kX3_init_0 10 rfl) rfl fkX3_11 rfl rfl rfl (fun _ => by omega) ?_
  refine r_alen (pc' := 21) (kX3_init_0 11 rfl) rfl ⟨show (20 : Nat) ≤ 23 from by decide, show (23 : Nat) ≤ 23 from by decide⟩ ?_
  show Rn _ _ _ _ [(0, 20), (0, 7)] _ _ _ _ _
  refine r_icmp_ge (t := 43) (pc' := 24) (kX3_init_0 12 rfl) rfl rfl (fun cz => absurd cz (by decide)) (fun _ => ?_)
  refine r_aload_n (pc' := 25) (kX3_init_0 13 rfl) rfl rfl ?_
  refine r_getv (v := 44) (t := 2) (pc' := 28) (kX3_init_0 14 rfl) rfl fkX3_11 rfl rfl rfl (fun _ => by omega) ?_
  refine r_iload_n (pc' := 29) (kX3_init_0 15 rfl) rfl rfl ?_
  refine k_new (n := 94) (pc' := 32) (k := (90, 2511)) (kX3_init_0 16 rfl) rfl nlX3_9 (by decide) rfl ?_
  refine r_dup (pc' := 33) (kX3_init_0 17 rfl) rfl rfl ?_
  refine r_callI (d := d + 1) (N := mX7_init) (As := []) (S := [(2, 94), (0, 7), (2, 44)]) (pc' := 36) (k1 := (6, 183)) (k2 := (84, 2328)) (kX3_init_0 18 rfl) rfl rfl nkX7_init mlX3_17 imX7_init rfl rfl rfl (Nat.le_of_ble_eq_true rfl) (Nat.le_of_ble_eq_true rfl) (k_Sta (o := 94) (d := d + 0) rfl rfl rfl rfl rfl rfl rfl) (fun r K' φ' α' e => ?_)
  obtain ⟨rfl, rfl, rfl, rfl⟩ := e
  show Rn _ _ _ _ [(2, 94), (0, 7), (2, 44)] _ _ _ _ _
  refine r_aast (pc' := 37) (kX3_init_0 19 rfl) rfl rfl ⟨by decide, show (7 : Int) < ((20 : Nat) : Int) from by decide⟩ rfl ?_
  refine r_iinc (L' := [(2, 43), (0, 8)]) (pc' := 40) (kX3_init_0 20 rfl) rfl (Nat.le_of_ble_eq_true rfl) rfl (by unfold inR; omega) rfl ?_
  refine r_goto (pc' := 15) (kX3_init_0 21 rfl) rfl ?_
  refine r_iload_n (pc' := 16) (kX3_init_0 8 rfl) rfl rfl ?_
  refine r_aload_n (pc' := 17) (kX3_init_0 9 rfl) rfl rfl ?_
  refine r_getv (v := 44) (t := 2) (pc' := 20) (kX3_init_0 10 rfl) rfl fkX3_11 rfl rfl rfl (fun _ => by omega) ?_
  refine r_alen (pc' := 21) (kX3_init_0 11 rfl) rfl ⟨show (20 : Nat) ≤ 23 from by decide, show (23 : Nat) ≤ 23 from by decide⟩ ?_
  show Rn _ _ _ _ [(0, 20), (0, 8)] _ _ _ _ _
  refine r_icmp_ge (t := 43) (pc' := 24) (kX3_init_0 12 rfl) rfl rfl (fun cz => absurd cz (by decide)) (fun _ => ?_)
  refine r_aload_n (pc' := 25) (kX3_init_0 13 rfl) rfl rfl ?_
  refine r_getv (v := 44) (t := 2) (pc' := 28) (kX3_init_0 14 rfl) rfl fkX3_11 rfl rfl rfl (fun _ => by omega) ?_
  refine r_iload_n (pc' := 29) (kX3_init_0 15 rfl) rfl rfl ?_
  refine k_new (n := 101) (pc' := 32) (k := (83, 2317)) (kX3_init_0 16 rfl) rfl nlX3_9 (by decide) rfl ?_
  refine r_dup (pc' := 33) (kX3_init_0 17 rfl) rfl rfl ?_
  refine r_callI (d := d + 1) (N := mX7_init) (As := []) (S := [(2, 101), (0, 8), (2, 44)]) (pc' := 36) (k1 := (6, 183)) (k2 := (77, 2134)) (kX3_init_0 18 rfl) rfl rfl nkX7_init mlX3_17 imX7_init rfl rfl rfl (Nat.le_of_ble_eq_true rfl) (Nat.le_of_ble_eq_true rfl) (k_Sta (o := 101) (d := d + 0) rfl rfl rfl rfl rfl rfl rfl) (fun r K' φ' α' e => ?_)
  obtain ⟨rfl, rfl, rfl, rfl⟩ := e
  show Rn _ _ _ _ [(2, 101), (0, 8), (2, 44)] _ _ _ _ _
  refine r_aast (pc' := 37) (kX3_init_0 19 rfl) rfl rfl ⟨by decide, show (8 : Int) < ((20 : Nat) : Int) from by decide⟩ rfl ?_
  refine r_iinc (L' := [(2, 43), (0, 9)]) (pc' := 40) (kX3_init_0 20 rfl) rfl (Nat.le_of_ble_eq_true rfl) rfl (by unfold inR; omega) rfl ?_
  refine r_goto (pc' := 15) (kX3_init_0 21 rfl) rfl ?_
  refine r_iload_n (pc' := 16) (kX3_init_0 8 rfl) rfl rfl ?_
  refine r_aload_n (pc' := 17) (kX3_init_0 9 rfl) rfl rfl ?_
  refine r_getv (v := 44) (t := 2) (pc' := 20) (kX3_init_0 10 rfl) rfl fkX3_11 rfl rfl rfl (fun _ => by omega) ?_
  refine r_alen (pc' := 21) (kX3_init_0 11 rfl) rfl ⟨show (20 : Nat) ≤ 23 from by decide, show (23 : Nat) ≤ 23 from by decide⟩ ?_
  show Rn _ _ _ _ [(0, 20), (0, 9)] _ _ _ _ _
  refine r_icmp_ge (t := 43) (pc' := 24) (kX3_init_0 12 rfl) rfl rfl (fun cz => absurd cz (by decide)) (fun _ => ?_)
  refine r_aload_n (pc' := 25) (kX3_init_0 13 rfl) rfl rfl ?_
  refine r_getv (v := 44) (t := 2) (pc' := 28) (kX3_init_0 14 rfl) rfl fkX3_11 rfl rfl rfl (fun _ => by omega) ?_
  refine r_iload_n (pc' := 29) (kX3_init_0 15 rfl) rfl rfl ?_
  refine k_new (n := 108) (pc' := 32) (k := (76, 2123)) (kX3_init_0 16 rfl) rfl nlX3_9 (by decide) rfl ?_
  refine r_dup (pc' := 33) (kX3_init_0 17 rfl) rfl rfl ?_
  refine r_callI (d := d + 1) (N := mX7_init) (As := []) (S := [(2, 108), (0, 9), (2, 44)]) (pc' := 36) (k1 := (6, 183)) (k2 := (70, 1940)) (kX3_init_0 18 rfl) rfl rfl nkX7_init mlX3_17 imX7_init rfl rfl rfl (Nat.le_of_ble_eq_true rfl) (Nat.le_of_ble_eq_true rfl) (k_Sta (o := 108) (d := d + 0) rfl rfl rfl rfl rfl rfl rfl) (fun r K' φ' α' e => ?_)
  obtain ⟨rfl, rfl, rfl, rfl⟩ := e
  show Rn _ _ _ _ [(2, 108), (0, 9), (2, 44)] _ _ _ _ _
  refine r_aast (pc' := 37) (kX3_init_0 19 rfl) rfl rfl ⟨by decide, show (9 : Int) < ((20 : Nat) : Int) from by decide⟩ rfl ?_
  refine r_iinc (L' := [(2, 43), (0, 10)]) (pc' := 40) (kX3_init_0 20 rfl) rfl (Nat.le_of_ble_eq_true rfl) rfl (by unfold inR; omega) rfl ?_
  refine r_goto (pc' := 15) (kX3_init_0 21 rfl) rfl ?_
  refine r_iload_n (pc' := 16) (kX3_init_0 8 rfl) rfl rfl ?_
  refine r_aload_n (pc' := 17) (kX3_init_0 9 rfl) rfl rfl ?_
  refine r_getv (v := 44) (t := 2) (pc' := 20) (kX3_init_0 10 rfl) rfl fkX3_11 rfl rfl rfl (fun _ => by omega) ?_
  refine r_alen (pc' := 21) (kX3_init_0 11 rfl) rfl ⟨show (20 : Nat) ≤ 23 from by decide, show (23 : Nat) ≤ 23 from by decide⟩ ?_
  show Rn _ _ _ _ [(0, 20), (0, 10)] _ _ _ _ _
  refine r_icmp_ge (t := 43) (pc' := 24) (kX3_init_0 12 rfl) rfl rfl (fun cz => absurd cz (by decide)) (fun _ => ?_)
  refine r_aload_n (pc' := 25) (kX3_init_0 13 rfl) rfl rfl ?_
  refine r_getv (v := 44) (t := 2) (pc' := 28) (kX3_init_0 14 rfl) rfl fkX3_11 rfl rfl rfl (fun _ => by omega) ?_
  refine r_iload_n (pc' := 29) (kX3_init_0 15 rfl) rfl rfl ?_
  refine k_new (n := 115) (pc' := 32) (k := (69, 1929)) (kX3_init_0 16 rfl) rfl nlX3_9 (by decide) rfl ?_
  refine r_dup (pc' := 33) (kX3_init_0 17 rfl) rfl rfl ?_
  refine r_callI (d := d + 1) (N := mX7_init) (As := []) (S := [(2, 115), (0, 10), (2, 44)]) (pc' := 36) (k1 := (6, 183)) (k2 := (63, 1746)) (kX3_init_0 18 rfl) rfl rfl nkX7_init mlX3_17 imX7_init rfl rfl rfl (Nat.le_of_ble_eq_true rfl) (Nat.le_of_ble_eq_true rfl) (k_Sta (o := 115) (d := d + 0) rfl rfl rfl rfl rfl rfl rfl) (fun r K' φ' α' e => ?_)
  obtain ⟨rfl, rfl, rfl, rfl⟩ := e
  show Rn _ _ _ _ [(2, 115), (0, 10), (2, 44)] _ _ _ _ _
  refine r_aast (pc' := 37) (kX3_init_0 19 rfl) rfl rfl ⟨by decide, show (10 : Int) < ((20 : Nat) : Int) from by decide⟩ rfl ?_
  refine r_iinc (L' := [(2, 43), (0, 11)]) (pc' := 40) (kX3_init_0 20 rfl) rfl (Nat.le_of_ble_eq_true rfl) rfl (by unfold inR; omega) rfl ?_
  refine r_goto (pc' := 15) (kX3_init_0 21 rfl) rfl ?_
  refine r_iload_n (pc' := 16) (kX3_init_0 8 rfl) rfl rfl ?_
  refine r_aload_n (pc' := 17) (kX3_init_0 9 rfl) rfl rfl ?_
  refine r_getv (v := 44) (t := 2) (pc' := 20) (kX3_init_0 10 rfl) rfl fkX3_11 rfl rfl rfl (fun _ => by omega) ?_
  refine r_alen (pc' := 21) (kX3_init_0 11 rfl) rfl ⟨show (20 : Nat) ≤ 23 from by decide, show (23 : Nat) ≤ 23 from by decide⟩ ?_
  show Rn _ _ _ _ [(0, 20), (0, 11)] _ _ _ _ _
  refine r_icmp_ge (t := 43) (pc' := 24) (kX3_init_0 12 rfl) rfl rfl (fun cz => absurd cz (by decide)) (fun _ => ?_)
  refine r_aload_n (pc' := 25) (kX3_init_0 13 rfl) rfl rfl ?_
  refine r_getv (v := 44) (t := 2) (pc' := 28) (kX3_init_0 14 rfl) rfl fkX3_11 rfl rfl rfl (fun _ => by omega) ?_
  refine r_iload_n (pc' := 29) (kX3_init_0 15 rfl) rfl rfl ?_
  refine k_new (n := 122) (pc' := 32) (k := (62, 1735)) (kX3_init_0 16 rfl) rfl nlX3_9 (by decide) rfl ?_
  refine r_dup (pc' := 33) (kX3_init_0 17 rfl) rfl rfl ?_
  refine r_callI (d := d + 1) (N := mX7_init) (As := []) (S := [(2, 122), (0, 11), (2, 44)]) (pc' := 36) (k1 := (6, 183)) (k2 := (56, 1552)) (kX3_init_0 18 rfl) rfl rfl nkX7_init mlX3_17 imX7_init rfl rfl rfl (Nat.le_of_ble_eq_true rfl) (Nat.le_of_ble_eq_true rfl) (k_Sta (o := 122) (d := d + 0) rfl rfl rfl rfl rfl rfl rfl) (fun r K' φ' α' e => ?_)
  obtain ⟨rfl, rfl, rfl, rfl⟩ := e
  show Rn _ _ _ _ [(2, 122), (0, 11), (2, 44)] _ _ _ _ _
  refine r_aast (pc' := 37) (kX3_init_0 19 rfl) rfl rfl ⟨by decide, show (11 : Int) < ((20 : Nat) : Int) from by decide⟩ rfl ?_
  refine r_iinc (L' := [(2, 43), (0, 12)]) (pc' := 40) (kX3_init_0 20 rfl) rfl (Nat.le_of_ble_eq_true rfl) rfl (by unfold inR; omega) rfl ?_
  refine r_goto (pc' := 15) (kX3_init_0 21 rfl) rfl ?_
  refine r_iload_n (pc' := 16) (kX3_init_0 8 rfl) rfl rfl ?_
  refine r_aload_n (pc' := 17) (kX3_init_0 9 rfl) rfl rfl ?_
  refine r_getv (v := 44) (t := 2) (pc' := 20) (kX3_init_0 10 rfl) rfl fkX3_11 rfl rfl rfl (fun _ => by omega) ?_
  refine r_alen (pc' := 21) (kX3_init_0 11 rfl) rfl ⟨show (20 : Nat) ≤ 23 from by decide, show (23 : Nat) ≤ 23 from by decide⟩ ?_
  show Rn _ _ _ _ [(0, 20), (0, 12)] _ _ _ _ _
  refine r_icmp_ge (t := 43) (pc' := 24) (kX3_init_0 12 rfl) rfl rfl (fun cz => absurd cz (by decide)) (fun _ => ?_)
  refine r_aload_n (pc' := 25) (kX3_init_0 13 rfl) rfl rfl ?_
  refine r_getv (v := 44) (t := 2) (pc' := 28) (kX3_init_0 14 rfl) rfl fkX3_11 rfl rfl rfl (fun _ => by omega) ?_
  refine r_iload_n (pc' := 29) (kX3_init_0 15 rfl) rfl rfl ?_
  refine k_new (n := 129) (pc' := 32) (k := (55, 1541)) (kX3_init_0 16 rfl) rfl nlX3_9 (by decide) rfl ?_
  refine r_dup (pc' := 33) (kX3_init_0 17 rfl) rfl rfl ?_
  refine r_callI (d := d + 1) (N := mX7_init) (As := []) (S := [(2, 129), (0, 12), (2, 44)]) (pc' := 36) (k1 := (6, 183)) (k2 := (49, 1358)) (kX3_init_0 18 rfl) rfl rfl nkX7_init mlX3_17 imX7_init rfl rfl rfl (Nat.le_of_ble_eq_true rfl) (Nat.le_of_ble_eq_true rfl) (k_Sta (o := 129) (d := d + 0) rfl rfl rfl rfl rfl rfl rfl) (fun r K' φ' α' e => ?_)
  obtain ⟨rfl, rfl, rfl, rfl⟩ := e
  show Rn _ _ _ _ [(2, 129), (0, 12), (2, 44)] _ _ _ _ _
  refine r_aast (pc' := 37) (kX3_init_0 19 rfl) rfl rfl ⟨by decide, show (12 : Int) < ((20 : Nat) : Int) from by decide⟩ rfl ?_
  refine r_iinc (L' := [(2, 43), (0, 13)]) (pc' := 40) (kX3_init_0 20 rfl) rfl (Nat.le_of_ble_eq_true rfl) rfl (by unfold inR; omega) rfl ?_
  refine r_goto (pc' := 15) (kX3_init_0 21 rfl) rfl ?_
  refine r_iload_n (pc' := 16) (kX3_init_0 8 rfl) rfl rfl ?_
  refine r_aload_n (pc' := 17) (kX3_init_0 9 rfl) rfl rfl ?_
  refine r_getv (v := 44) (t := 2) (pc' := 20) (kX3_init_0 10 rfl) rfl fkX3_11 rfl rfl rfl (fun _ => by omega) ?_
  refine r_alen (pc' := 21) (kX3_init_0 11 rfl) rfl ⟨show (20 : Nat) ≤ 23 from by decide, show (23 : Nat) ≤ 23 from by decide⟩ ?_
  show Rn _ _ _ _ [(0, 20), (0, 13)] _ _ _ _ _
  refine r_icmp_ge (t := 43) (pc' := 24) (kX3_init_0 12 rfl) rfl rfl (fun cz => absurd cz (by decide)) (fun _ => ?_)
  refine r_aload_n (pc' := 25) (kX3_init_0 13 rfl) rfl rfl ?_
  refine r_getv (v := 44) (t := 2) (pc' := 28) (kX3_init_0 14 rfl) rfl fkX3_11 rfl rfl rfl (fun _ => by omega) ?_
  refine r_iload_n (pc' := 29) (kX3_init_0 15 rfl) rfl rfl ?_
  refine k_new (n := 136) (pc' := 32) (k := (48, 1347)) (kX3_init_0 16 rfl) rfl nlX3_9 (by decide) rfl ?_
  refine r_dup (pc' := 33) (kX3_init_0 17 rfl) rfl rfl ?_
  refine r_callI (d := d + 1) (N := mX7_init) (As := []) (S := [(2, 136), (0, 13), (2, 44)]) (pc' := 36) (k1 := (6, 183)) (k2 := (42, 1164)) (kX3_init_0 18 rfl) rfl rfl nkX7_init mlX3_17 imX7_init rfl rfl rfl (Nat.le_of_ble_eq_true rfl) (Nat.le_of_ble_eq_true rfl) (k_Sta (o := 136) (d := d + 0) rfl rfl rfl rfl rfl rfl rfl) (fun r K' φ' α' e => ?_)
  obtain ⟨rfl, rfl, rfl, rfl⟩ := e
  show Rn _ _ _ _ [(2, 136), (0, 13), (2, 44)] _ _ _ _ _
  refine r_aast (pc' := 37) (kX3_init_0 19 rfl) rfl rfl ⟨by decide, show (13 : Int) < ((20 : Nat) : Int) from by decide⟩ rfl ?_
  refine r_iinc (L' := [(2, 43), (0, 14)]) (pc' := 40) (kX3_init_0 20 rfl) rfl (Nat.le_of_ble_eq_true rfl) rfl (by unfold inR; omega) rfl ?_
  refine r_goto (pc' := 15) (kX3_init_0 21 rfl) rfl ?_
  refine r_iload_n (pc' := 16) (kX3_init_0 8 rfl) rfl rfl ?_
  refine r_aload_n (pc' := 17) (kX3_init_0 9 rfl) rfl rfl ?_
  refine r_getv (v := 44) (t := 2) (pc' := 20) (kX3_init_0 10 rfl) rfl fkX3_11 rfl rfl rfl (fun _ => by omega) ?_
  refine r_alen (pc' := 21) (kX3_init_0 11 rfl) rfl ⟨show (20 : Nat) ≤ 23 from by decide, show (23 : Nat) ≤ 23 from by decide⟩ ?_
  show Rn _ _ _ _ [(0, 20), (0, 14)] _ _ _ _ _
  refine r_icmp_ge (t := 43) (pc' := 24) (kX3_init_0 12 rfl) rfl rfl (fun cz => absurd cz (by decide)) (fun _ => ?_)
  refine r_aload_n (pc' := 25) (kX3_init_0 13 rfl) rfl rfl ?_
  refine r_getv (v := 44) (t := 2) (pc' := 28) (kX3_init_0 14 rfl) rfl fkX3_11 rfl rfl rfl (fun _ => by omega) ?_
  refine r_iload_n (pc' := 29) (kX3_init_0 15 rfl) rfl rfl ?_
  refine k_new (n := 143) (pc' := 32) (k := (41, 1153)) (kX3_init_0 16 rfl) rfl nlX3_9 (by decide) rfl ?_
  refine r_dup (pc' := 33) (kX3_init_0 17 rfl) rfl rfl ?_
  refine r_callI (d := d + 1) (N := mX7_init) (As := []) (S := [(2, 143), (0, 14), (2, 44)]) (pc' := 36) (k1 := (6, 183)) (k2 := (35, 970)) (kX3_init_0 18 rfl) rfl rfl nkX7_init mlX3_17 imX7_init rfl rfl rfl (Nat.le_of_ble_eq_true rfl) (Nat.le_of_ble_eq_true rfl) (k_Sta (o := 143) (d := d + 0) rfl rfl rfl rfl rfl rfl rfl) (fun r K' φ' α' e => ?_)
  obtain ⟨rfl, rfl, rfl, rfl⟩ := e
  show Rn _ _ _ _ [(2, 143), (0, 14), (2, 44)] _ _ _ _ _
  refine r_aast (pc' := 37) (kX3_init_0 19 rfl) rfl rfl ⟨by decide, show (14 : Int) < ((20 : Nat) : Int) from by decide⟩ rfl ?_
  refine r_iinc (L' := [(2, 43), (0, 15)]) (pc' := 40) (kX3_init_0 20 rfl) rfl (Nat.le_of_ble_eq_true rfl) rfl (by unfold inR; omega) rfl ?_
  refine r_goto (pc' := 15) (kX3_init_0 21 rfl) rfl ?_
  refine r_iload_n (pc' := 16) (kX3_init_0 8 rfl) rfl rfl ?_
  refine r_aload_n (pc' := 17) (kX3_init_0 9 rfl) rfl rfl ?_
  refine r_getv (v := 44) (t := 2) (pc' := 20) (kX3_init_0 10 rfl) rfl fkX3_11 rfl rfl rfl (fun _ => by omega) ?_
  refine r_alen (pc' := 21) (kX3_init_0 11 rfl) rfl ⟨show (20 : Nat) ≤ 23 from by decide, show (23 : Nat) ≤ 23 from by decide⟩ ?_
  show Rn _ _ _ _ [(0, 20), (0, 15)] _ _ _ _ _
  refine r_icmp_ge (t := 43) (pc' := 24) (kX3_init_0 12 rfl) rfl rfl (fun cz => absurd cz (by decide)) (fun _ => ?_)
  refine r_aload_n (pc' := 25) (kX3_init_0 13 rfl) rfl rfl ?_
  refine r_getv (v := 44) (t := 2) (pc' := 28) (kX3_init_0 14 rfl) rfl fkX3_11 rfl rfl rfl (fun _ => by omega) ?_
  refine r_iload_n (pc' := 29) (kX3_init_0 15 rfl) rfl rfl ?_
  refine k_new (n := 150) (pc' := 32) (k := (34, 959)) (kX3_init_0 16 rfl) rfl nlX3_9 (by decide) rfl ?_
  refine r_dup (pc' := 33) (kX3_init_0 17 rfl) rfl rfl ?_
  refine r_callI (d := d + 1) (N := mX7_init) (As := []) (S := [(2, 150), (0, 15), (2, 44)]) (pc' := 36) (k1 := (6, 183)) (k2 := (28, 776)) (kX3_init_0 18 rfl) rfl rfl nkX7_init mlX3_17 imX7_init rfl rfl rfl (Nat.le_of_ble_eq_true rfl) (Nat.le_of_ble_eq_true rfl) (k_Sta (o := 150) (d := d + 0) rfl rfl rfl rfl rfl rfl rfl) (fun r K' φ' α' e => ?_)
  obtain ⟨rfl, rfl, rfl, rfl⟩ := e
  show Rn _ _ _ _ [(2, 150), (0, 15), (2, 44)] _ _ _ _ _
  refine r_aast (pc' := 37) (kX3_init_0 19 rfl) rfl rfl ⟨by decide, show (15 : Int) < ((20 : Nat) : Int) from by decide⟩ rfl ?_
  refine r_iinc (L' := [(2, 43), (0, 16)]) (pc' := 40) (kX3_init_0 20 rfl) rfl (Nat.le_of_ble_eq_true rfl) rfl (by unfold inR; omega) rfl ?_
  refine r_goto (pc' := 15) (kX3_init_0 21 rfl) rfl ?_
  refine r_iload_n (pc' := 16) (kX3_init_0 8 rfl) rfl rfl ?_
  refine r_aload_n (pc' := 17) (kX3_init_0 9 rfl) rfl rfl ?_
  refine r_getv (v := 44) (t := 2) (pc' := 20) (kX3_init_0 10 rfl) rfl fkX3_11 rfl rfl rfl (fun _ => by omega) ?_
  refine r_alen (pc' := 21) (kX3_init_0 11 rfl) rfl ⟨show (20 : Nat) ≤ 23 from by decide, show (23 : Nat) ≤ 23 from by decide⟩ ?_
  show Rn _ _ _ _ [(0, 20), (0, 16)] _ _ _ _ _
  refine r_icmp_ge (t := 43) (pc' := 24) (kX3_init_0 12 rfl) rfl rfl (fun cz => absurd cz (by decide)) (fun _ => ?_)
  refine r_aload_n (pc' := 25) (kX3_init_0 13 rfl) rfl rfl ?_
  refine r_getv (v := 44) (t := 2) (pc' := 28) (kX3_init_0 14 rfl) rfl fkX3_11 rfl rfl rfl (fun _ => by omega) ?_
  refine r_iload_n (pc' := 29) (kX3_init_0 15 rfl) rfl rfl ?_
  refine k_new (n := 157) (pc' := 32) (k := (27, 765)) (kX3_init_0 16 rfl) rfl nlX3_9 (by decide) rfl ?_
  refine r_dup (pc' := 33) (kX3_init_0 17 rfl) rfl rfl ?_
  refine r_callI (d := d + 1) (N := mX7_init) (As := []) (S := [(2, 157), (0, 16), (2, 44)]) (pc' := 36) (k1 := (6, 183)) (k2 := (21, 582)) (kX3_init_0 18 rfl) rfl rfl nkX7_init mlX3_17 imX7_init rfl rfl rfl (Nat.le_of_ble_eq_true rfl) (Nat.le_of_ble_eq_true rfl) (k_Sta (o := 157) (d := d + 0) rfl rfl rfl rfl rfl rfl rfl) (fun r K' φ' α' e => ?_)
  obtain ⟨rfl, rfl, rfl, rfl⟩ := e
  show Rn _ _ _ _ [(2, 157), (0, 16), (2, 44)] _ _ _ _ _
  refine r_aast (pc' := 37) (kX3_init_0 19 rfl) rfl rfl ⟨by decide, show (16 : Int) < ((20 : Nat) : Int) from by decide⟩ rfl ?_
  refine r_iinc (L' := [(2, 43), (0, 17)]) (pc' := 40) (kX3_init_0 20 rfl) rfl (Nat.le_of_ble_eq_true rfl) rfl (by unfold inR; omega) rfl ?_
  refine r_goto (pc' := 15) (kX3_init_0 21 rfl) rfl ?_
  refine r_iload_n (pc' := 16) (kX3_init_0 8 rfl) rfl rfl ?_
  refine r_aload_n (pc' := 17) (kX3_init_0 9 rfl) rfl rfl ?_
  refine r_getv (v := 44) (t := 2) (pc' := 20) (kX3_init_0 10 rfl) rfl fkX3_11 rfl rfl rfl (fun _ => by omega) ?_
  refine r_alen (pc' := 21) (kX3_init_0 11 rfl) rfl ⟨show (20 : Nat) ≤ 23 from by decide, show (23 : Nat) ≤ 23 from by decide⟩ ?_
  show Rn _ _ _ _ [(0, 20), (0, 17)] _ _ _ _ _
  refine r_icmp_ge (t := 43) (pc' := 24) (kX3_init_0 12 rfl) rfl rfl (fun cz => absurd cz (by decide)) (fun _ => ?_)
  refine r_aload_n (pc' := 25) (kX3_init_0 13 rfl) rfl rfl ?_
  refine r_getv (v := 44) (t := 2) (pc' := 28) (kX3_init_0 14 rfl) rfl fkX3_11 rfl rfl rfl (fun _ => by omega) ?_
  refine r_iload_n (pc' := 29) (kX3_init_0 15 rfl) rfl rfl ?_
  refine k_new (n := 164) (pc' := 32) (k := (20, 571)) (kX3_init_0 16 rfl) rfl nlX3_9 (by decide) rfl ?_
  refine r_dup (pc' := 33) (kX3_init_0 17 rfl) rfl rfl ?_
  refine r_callI (d := d + 1) (N := mX7_init) (As := []) (S := [(2, 164), (0, 17), (2, 44)]) (pc' := 36) (k1 := (6, 183)) (k2 := (14, 388)) (kX3_init_0 18 rfl) rfl rfl nkX7_init mlX3_17 imX7_init rfl rfl rfl (Nat.le_of_ble_eq_true rfl) (Nat.le_of_ble_eq_true rfl) (k_Sta (o := 164) (d := d + 0) rfl rfl rfl rfl rfl rfl rfl) (fun r K' φ' α' e => ?_)
  obtain ⟨rfl, rfl, rfl, rfl⟩ := e
  show Rn _ _ _ _ [(2, 164), (0, 17), (2, 44)] _ _ _ _ _
  refine r_aast (pc' := 37) (kX3_init_0 19 rfl) rfl rfl ⟨by decide, show (17 : Int) < ((20 : Nat) : Int) from by decide⟩ rfl ?_
  refine r_iinc (L' := [(2, 43), (0, 18)]) (pc' := 40) (kX3_init_0 20 rfl) rfl (Nat.le_of_ble_eq_true rfl) rfl (by unfold inR; omega) rfl ?_
  refine r_goto (pc' := 15) (kX3_init_0 21 rfl) rfl ?_
  refine r_iload_n (pc' := 16) (kX3_init_0 8 rfl) rfl rfl ?_
  refine r_aload_n (pc' := 17) (kX3_init_0 9 rfl) rfl rfl ?_
  refine r_getv (v := 44) (t := 2) (pc' := 20) (kX3_init_0 10 rfl) rfl fkX3_11 rfl rfl rfl (fun _ => by omega) ?_
  refine r_alen (pc' := 21) (kX3_init_0 11 rfl) rfl ⟨show (20 : Nat) ≤ 23 from by decide, show (23 : Nat) ≤ 23 from by decide⟩ ?_
  show Rn _ _ _ _ [(0, 20), (0, 18)] _ _ _ _ _
  refine r_icmp_ge (t := 43) (pc' := 24) (kX3_init_0 12 rfl) rfl rfl (fun cz => absurd cz (by decide)) (fun _ => ?_)
  refine r_aload_n (pc' := 25) (kX3_init_0 13 rfl) rfl rfl ?_
  refine r_getv (v := 44) (t := 2) (pc' := 28) (kX3_init_0 14 rfl) rfl fkX3_11 rfl rfl rfl (fun _ => by omega) ?_
  refine r_iload_n (pc' := 29) (kX3_init_0 15 rfl) rfl rfl ?_
  refine k_new (n := 171) (pc' := 32) (k := (13, 377)) (kX3_init_0 16 rfl) rfl nlX3_9 (by decide) rfl ?_
  refine r_dup (pc' := 33) (kX3_init_0 17 rfl) rfl rfl ?_
  refine r_callI (d := d + 1) (N := mX7_init) (As := []) (S := [(2, 171), (0, 18), (2, 44)]) (pc' := 36) (k1 := (6, 183)) (k2 := (7, 194)) (kX3_init_0 18 rfl) rfl rfl nkX7_init mlX3_17 imX7_init rfl rfl rfl (Nat.le_of_ble_eq_true rfl) (Nat.le_of_ble_eq_true rfl) (k_Sta (o := 171) (d := d + 0) rfl rfl rfl rfl rfl rfl rfl) (fun r K' φ' α' e => ?_)
  obtain ⟨rfl, rfl, rfl, rfl⟩ := e
  show Rn _ _ _ _ [(2, 171), (0, 18), (2, 44)] _ _ _ _ _
  refine r_aast (pc' := 37) (kX3_init_0 19 rfl) rfl rfl ⟨by decide, show (18 : Int) < ((20 : Nat) : Int) from by decide⟩ rfl ?_
  refine r_iinc (L' := [(2, 43), (0, 19)]) (pc' := 40) (kX3_init_0 20 rfl) rfl (Nat.le_of_ble_eq_true rfl) rfl (by unfold inR; omega) rfl ?_
  refine r_goto (pc' := 15) (kX3_init_0 21 rfl) rfl ?_
  refine r_iload_n (pc' := 16) (kX3_init_0 8 rfl) rfl rfl ?_
  refine r_aload_n (pc' := 17) (kX3_init_0 9 rfl) rfl rfl ?_
  refine r_getv (v := 44) (t := 2) (pc' := 20) (kX3_init_0 10 rfl) rfl fkX3_11 rfl rfl rfl (fun _ => by omega) ?_
  refine r_alen (pc' := 21) (kX3_init_0 11 rfl) rfl ⟨show (20 : Nat) ≤ 23 from by decide, show (23 : Nat) ≤ 23 from by decide⟩ ?_
  show Rn _ _ _ _ [(0, 20), (0, 19)] _ _ _ _ _
  refine r_icmp_ge (t := 43) (pc' := 24) (kX3_init_0 12 rfl) rfl rfl (fun cz => absurd cz (by decide)) (fun _ => ?_)
  refine r_aload_n (pc' := 25) (kX3_init_0 13 rfl) rfl rfl ?_
  refine r_getv (v := 44) (t := 2) (pc' := 28) (kX3_init_0 14 rfl) rfl fkX3_11 rfl rfl rfl (fun _ => by omega) ?_
  refine r_iload_n (pc' := 29) (kX3_init_0 15 rfl) rfl rfl ?_
  refine k_new (n := 178) (pc' := 32) (k := (6, 183)) (kX3_init_0 16 rfl) rfl nlX3_9 (by decide) rfl ?_
  refine r_dup (pc' := 33) (kX3_init_0 17 rfl) rfl rfl ?_
  refine r_callI (d := d + 1) (N := mX7_init) (As := []) (S := [(2, 178), (0, 19), (2, 44)]) (pc' := 36) (k1 := (6, 183)) (k2 := (0, 0)) (kX3_init_0 18 rfl) rfl rfl nkX7_init mlX3_17 imX7_init rfl rfl rfl (Nat.le_of_ble_eq_true rfl) (Nat.le_of_ble_eq_true rfl) (k_Sta (o := 178) (d := d + 0) rfl rfl rfl rfl rfl rfl rfl) (fun r K' φ' α' e => ?_)
  obtain ⟨rfl, rfl, rfl, rfl⟩ := e
  show Rn _ _ _ _ [(2, 178), (0, 19), (2, 44)] _ _ _ _ _
  refine r_aast (pc' := 37) (kX3_init_0 19 rfl) rfl rfl ⟨by decide, show (19 : Int) < ((20 : Nat) : Int) from by decide⟩ rfl ?_
  refine r_iinc (L' := [(2, 43), (0, 20)]) (pc' := 40) (kX3_init_0 20 rfl) rfl (Nat.le_of_ble_eq_true rfl) rfl (by unfold inR; omega) rfl ?_
  refine r_goto (pc' := 15) (kX3_init_0 21 rfl) rfl ?_
  refine r_iload_n (pc' := 16) (kX3_init_0 8 rfl) rfl rfl ?_
  refine r_aload_n (pc' := 17) (kX3_init_0 9 rfl) rfl rfl ?_
  refine r_getv (v := 44) (t := 2) (pc' := 20) (kX3_init_0 10 rfl) rfl fkX3_11 rfl rfl rfl (fun _ => by omega) ?_
  refine r_alen (pc' := 21) (kX3_init_0 11 rfl) rfl ⟨show (20 : Nat) ≤ 23 from by decide, show (23 : Nat) ≤ 23 from by decide⟩ ?_
  show Rn _ _ _ _ [(0, 20), (0, 20)] _ _ _ _ _
  refine r_icmp_ge (t := 43) (pc' := 24) (kX3_init_0 12 rfl) rfl rfl (fun _ => ?_) (fun cz => absurd cz (by decide))
  exact r_vret (x := 0) (kX3_init_0 22 rfl) rfl ⟨rfl, rfl, rfl, rfl⟩
theorem nlX10_54 : ∃ (C : String) (T : u_T), CK 5 C T 7 ∧ Cond.classLink RX10 54 C ∈ lw_h ∧ Cond.instantiable C 7 ∈ lw_h ∧ Cond.initialized C ∈ lw_h := ⟨RX5, TX5, ckX5, hw (tb1 (List.mem_of_getElem? (i := 225) rfl)) rfl, hw (tb1 (List.mem_of_getElem? (i := 226) rfl)) rfl, hw (tb1 (List.mem_of_getElem? (i := 7) rfl)) rfl⟩
theorem oiX5_3 : Cond.methodLink RX5 3 Lib.objectInit ∈ lw_tbl := tb1 (List.mem_of_getElem? (i := 230) rfl)
theorem nlX5_15 : ∃ (C : String) (T : u_T), CK 8 C T 7 ∧ Cond.classLink RX5 15 C ∈ lw_h ∧ Cond.instantiable C 7 ∈ lw_h ∧ Cond.initialized C ∈ lw_h := ⟨RX8, TX8, ckX8, hw (tb1 (List.mem_of_getElem? (i := 231) rfl)) rfl, hw (tb1 (List.mem_of_getElem? (i := 232) rfl)) rfl, hw (tb1 (List.mem_of_getElem? (i := 8) rfl)) rfl⟩
def fX5_init_185 (φ : aF) : aF := (upf (upf (upf (upf (fTok (nF 186 (upf φ 5 6 185 (-1)))) 5 0 185 186) 5 1 185 19) 5 2 185 7) 5 3 185 7)
def aX5_init_185 (α : aA) : aA := (aTok α)
theorem kc_X5_init_185 {d Ln : Nat} {φ : aF} {α : aA} : Rn (d + 6) mX5_init 0 [(2, 185), (2, 1), (2, 19), (2, 7)] [] (KPz Ln 186) φ α (2, 37) (eqQ none (KPz Ln 188) (fX5_init_185 φ) (aX5_init_185 α)) := by
  refine r_aload_n (pc' := 1) (kX5_init_0 0 rfl) rfl rfl ?_
  refine r_obj0 (pc' := 4) (kX5_init_0 1 rfl) rfl oiX5_3 oiI oiC (by omega) (Nat.le_of_ble_eq_true rfl) ?_
  refine r_aload_n (pc' := 5) (kX5_init_0 2 rfl) rfl rfl ?_
  refine r_iconst (-1) (pc' := 6) (kX5_init_0 3 rfl) rfl (by unfold inR; omega) ?_
  refine r_put (pc' := 9) (kX5_init_0 4 rfl) rfl fkX5_9 fnX5_6 pk_int rfl ?_
  refine r_aload_n (pc' := 10) (kX5_init_0 5 rfl) rfl rfl ?_
  refine k_new (n := 186) (pc' := 13) (k := (1, 30)) (kX5_init_0 6 rfl) rfl nlX5_15 (by decide) rfl ?_
  refine r_dup (pc' := 14) (kX5_init_0 7 rfl) rfl rfl ?_
  refine r_aload_n (pc' := 15) (kX5_init_0 8 rfl) rfl rfl ?_
  refine r_callI (d := d + 5) (N := mX8_init) (As := [(2, 1)]) (S := [(2, 186), (2, 185)]) (pc' := 18) (k1 := (1, 30)) (k2 := (0, 0)) (kX5_init_0 9 rfl) rfl rfl nkX8_init mlX5_17 imX8_init rfl rfl rfl (Nat.le_of_ble_eq_true rfl) (Nat.le_of_ble_eq_true rfl) (k_Tok (d := d + 0)) (fun r K' φ' α' e => ?_)
  obtain ⟨rfl, rfl, rfl, rfl⟩ := e
  show Rn _ _ _ _ [(2, 186), (2, 185)] _ _ _ _ _
  refine r_putF (pc' := 21) (kX5_init_0 10 rfl) rfl fkX5_20 ffX5_0 rfl pk_obj rfl ?_
  refine r_aload_n (pc' := 22) (kX5_init_0 11 rfl) rfl rfl ?_
  refine r_aload_n (pc' := 23) (kX5_init_0 12 rfl) rfl rfl ?_
  refine r_putF (pc' := 26) (kX5_init_0 13 rfl) rfl fkX5_24 ffX5_1 rfl pk_obj rfl ?_
  refine r_aload_n (pc' := 27) (kX5_init_0 14 rfl) rfl rfl ?_
  refine r_aload_n (pc' := 28) (kX5_init_0 15 rfl) rfl rfl ?_
  refine r_putF (pc' := 31) (kX5_init_0 16 rfl) rfl fkX5_28 ffX5_2 rfl pk_obj rfl ?_
  refine r_aload_n (pc' := 32) (kX5_init_0 17 rfl) rfl rfl ?_
  refine r_aload_n (pc' := 33) (kX5_init_0 18 rfl) rfl rfl ?_
  refine r_put (pc' := 36) (kX5_init_0 19 rfl) rfl fkX5_32 fnX5_3 pk_obj rfl ?_
  exact r_vret (x := 0) (kX5_init_0 20 rfl) rfl ⟨rfl, rfl, rfl, rfl⟩
theorem nlX10_63 : ∃ (C : String) (T : u_T), CK 1 C T 2 ∧ Cond.classLink RX10 63 C ∈ lw_h ∧ Cond.instantiable C 2 ∈ lw_h ∧ Cond.initialized C ∈ lw_h := ⟨RX1, TX1, ckX1, hw (tb2 (List.mem_of_getElem? (i := 100) rfl)) rfl, hw (tb2 (List.mem_of_getElem? (i := 101) rfl)) rfl, hw (tb1 (List.mem_of_getElem? (i := 13) rfl)) rfl⟩
theorem oiX1_3 : Cond.methodLink RX1 3 Lib.objectInit ∈ lw_tbl := tb2 (List.mem_of_getElem? (i := 105) rfl)
def fX1_init_188 (φ : aF) : aF := (upf (upf φ 1 1 188 189) 1 0 188 9)
def aX1_init_188 (α : aA) : aA := (nAz 189 α 0)
theorem kc_X1_init_188 {d Ln : Nat} {φ : aF} {α : aA} : Rn (d + 1) mX1_init 0 [(2, 188), (2, 9)] [] (KPz Ln 189) φ α (1, 64) (eqQ none (KPz Ln 190) (fX1_init_188 φ) (aX1_init_188 α)) := by
  refine r_aload_n (pc' := 1) (kX1_init_0 0 rfl) rfl rfl ?_
  refine r_obj0 (pc' := 4) (kX1_init_0 1 rfl) rfl oiX1_3 oiI oiC (by omega) (Nat.le_of_ble_eq_true rfl) ?_
  refine r_aload_n (pc' := 5) (kX1_init_0 2 rfl) rfl rfl ?_
  refine r_bipush 64 (pc' := 7) (kX1_init_0 3 rfl) rfl ⟨by unfold inR; omega, rfl⟩ ?_
  refine k_newai (n := 189) (cnt := 64) (pc' := 9) (k := (0, 0)) (kX1_init_0 4 rfl) rfl kai (by omega) rfl ?_
  refine r_putF (pc' := 12) (kX1_init_0 5 rfl) rfl fkX1_9 ffX1_1 rfl pk_arr rfl ?_
  refine r_aload_n (pc' := 13) (kX1_init_0 6 rfl) rfl rfl ?_
  refine r_aload_n (pc' := 14) (kX1_init_0 7 rfl) rfl rfl ?_
  refine r_putF (pc' := 17) (kX1_init_0 8 rfl) rfl fkX1_15 ffX1_0 rfl pk_obj rfl ?_
  exact r_vret (x := 0) (kX1_init_0 9 rfl) rfl ⟨rfl, rfl, rfl, rfl⟩
theorem nlX10_72 : ∃ (C : String) (T : u_T), CK 9 C T 3 ∧ Cond.classLink RX10 72 C ∈ lw_h ∧ Cond.instantiable C 3 ∈ lw_h ∧ Cond.initialized C ∈ lw_h := ⟨RX9, TX9, ckX9, hw (tb2 (List.mem_of_getElem? (i := 113) rfl)) rfl, hw (tb2 (List.mem_of_getElem? (i := 114) rfl)) rfl, hw (tb1 (List.mem_of_getElem? (i := 14) rfl)) rfl⟩
theorem oiX9_3 : Cond.methodLink RX9 3 Lib.objectInit ∈ lw_tbl := tb2 (List.mem_of_getElem? (i := 118) rfl)
def fX9_init_190 (φ : aF) : aF := (upf (upf (upf φ 9 2 190 191) 9 0 190 9) 9 1 190 188)
def aX9_init_190 (α : aA) : aA := (nAz 191 α 0)
theorem kc_X9_init_190 {d Ln : Nat} {φ : aF} {α : aA} : Rn (d + 1) mX9_init 0 [(2, 190), (2, 9), (2, 188)] [] (KPz Ln 191) φ α (1, 28) (eqQ none (KPz Ln 192) (fX9_init_190 φ) (aX9_init_190 α)) := by
  refine r_aload_n (pc' := 1) (kX9_init_0 0 rfl) rfl rfl ?_
  refine r_obj0 (pc' := 4) (kX9_init_0 1 rfl) rfl oiX9_3 oiI oiC (by omega) (Nat.le_of_ble_eq_true rfl) ?_
  refine r_aload_n (pc' := 5) (kX9_init_0 2 rfl) rfl rfl ?_
  refine r_bipush 28 (pc' := 7) (kX9_init_0 3 rfl) rfl ⟨by unfold inR; omega, rfl⟩ ?_
  refine k_newai (n := 191) (cnt := 28) (pc' := 9) (k := (0, 0)) (kX9_init_0 4 rfl) rfl kai (by omega) rfl ?_
  refine r_putF (pc' := 12) (kX9_init_0 5 rfl) rfl fkX9_9 ffX9_2 rfl pk_arr rfl ?_
  refine r_aload_n (pc' := 13) (kX9_init_0 6 rfl) rfl rfl ?_
  refine r_aload_n (pc' := 14) (kX9_init_0 7 rfl) rfl rfl ?_
  refine r_putF (pc' := 17) (kX9_init_0 8 rfl) rfl fkX9_15 ffX9_0 rfl pk_obj rfl ?_
  refine r_aload_n (pc' := 18) (kX9_init_0 9 rfl) rfl rfl ?_
  refine r_aload_n (pc' := 19) (kX9_init_0 10 rfl) rfl rfl ?_
  refine r_putF (pc' := 22) (kX9_init_0 11 rfl) rfl fkX9_19 ffX9_1 rfl pk_obj rfl ?_
  exact r_vret (x := 0) (kX9_init_0 12 rfl) rfl ⟨rfl, rfl, rfl, rfl⟩
theorem nlX10_81 : ∃ (C : String) (T : u_T), CK 4 C T 9 ∧ Cond.classLink RX10 81 C ∈ lw_h ∧ Cond.instantiable C 9 ∈ lw_h ∧ Cond.initialized C ∈ lw_h := ⟨RX4, TX4, ckX4, hw (tb2 (List.mem_of_getElem? (i := 129) rfl)) rfl, hw (tb2 (List.mem_of_getElem? (i := 130) rfl)) rfl, hw (tb1 (List.mem_of_getElem? (i := 15) rfl)) rfl⟩
theorem oiX4_3 : Cond.methodLink RX4 3 Lib.objectInit ∈ lw_tbl := tb2 (List.mem_of_getElem? (i := 134) rfl)
def fX4_init_192 (φ : aF) : aF := (upf (upf (upf (upf (upf (upf φ 4 4 192 193) 4 5 192 194) 4 0 192 9) 4 1 192 190) 4 2 192 29) 4 3 192 36)
def aX4_init_192 (α : aA) : aA := (nAz 194 (nAz 193 α 0) 0)
theorem kc_X4_init_192 {d Ln : Nat} {φ : aF} {α : aA} : Rn (d + 1) mX4_init 0 [(2, 192), (2, 9), (2, 190), (2, 29), (2, 36)] [] (KPz Ln 193) φ α (2, 8) (eqQ none (KPz Ln 195) (fX4_init_192 φ) (aX4_init_192 α)) := by
  refine r_aload_n (pc' := 1) (kX4_init_0 0 rfl) rfl rfl ?_
  refine r_obj0 (pc' := 4) (kX4_init_0 1 rfl) rfl oiX4_3 oiI oiC (by omega) (Nat.le_of_ble_eq_true rfl) ?_
  refine r_aload_n (pc' := 5) (kX4_init_0 2 rfl) rfl rfl ?_
  refine r_iconst 4 (pc' := 6) (kX4_init_0 3 rfl) rfl (by unfold inR; omega) ?_
  refine k_newai (n := 193) (cnt := 4) (pc' := 8) (k := (1, 4)) (kX4_init_0 4 rfl) rfl kai (by omega) rfl ?_
  refine r_putF (pc' := 11) (kX4_init_0 5 rfl) rfl fkX4_9 ffX4_4 rfl pk_arr rfl ?_
  refine r_aload_n (pc' := 12) (kX4_init_0 6 rfl) rfl rfl ?_
  refine r_iconst 4 (pc' := 13) (kX4_init_0 7 rfl) rfl (by unfold inR; omega) ?_
  refine k_newai (n := 194) (cnt := 4) (pc' := 15) (k := (0, 0)) (kX4_init_0 8 rfl) rfl kai (by omega) rfl ?_
  refine r_putF (pc' := 18) (kX4_init_0 9 rfl) rfl fkX4_15 ffX4_5 rfl pk_arr rfl ?_
  refine r_aload_n (pc' := 19) (kX4_init_0 10 rfl) rfl rfl ?_
  refine r_aload_n (pc' := 20) (kX4_init_0 11 rfl) rfl rfl ?_
  refine r_putF (pc' := 23) (kX4_init_0 12 rfl) rfl fkX4_18 ffX4_0 rfl pk_obj rfl ?_
  refine r_aload_n (pc' := 24) (kX4_init_0 13 rfl) rfl rfl ?_
  refine r_aload_n (pc' := 25) (kX4_init_0 14 rfl) rfl rfl ?_
  refine r_putF (pc' := 28) (kX4_init_0 15 rfl) rfl fkX4_22 ffX4_1 rfl pk_obj rfl ?_
  refine r_aload_n (pc' := 29) (kX4_init_0 16 rfl) rfl rfl ?_
  refine r_aload_n (pc' := 30) (kX4_init_0 17 rfl) rfl rfl ?_
  refine r_putF (pc' := 33) (kX4_init_0 18 rfl) rfl fkX4_26 ffX4_2 rfl pk_obj rfl ?_
  refine r_aload_n (pc' := 34) (kX4_init_0 19 rfl) rfl rfl ?_
  refine r_aload (pc' := 36) (kX4_init_0 20 rfl) rfl rfl ?_
  refine r_putF (pc' := 39) (kX4_init_0 21 rfl) rfl fkX4_30 ffX4_3 rfl pk_obj rfl ?_
  exact r_vret (x := 0) (kX4_init_0 22 rfl) rfl ⟨rfl, rfl, rfl, rfl⟩
theorem nlX10_90 : ∃ (C : String) (T : u_T), CK 0 C T 9 ∧ Cond.classLink RX10 90 C ∈ lw_h ∧ Cond.instantiable C 9 ∈ lw_h ∧ Cond.initialized C ∈ lw_h := ⟨RX0, TX0, ckX0, hw (tb2 (List.mem_of_getElem? (i := 166) rfl)) rfl, hw (tb2 (List.mem_of_getElem? (i := 167) rfl)) rfl, hw (tb1 (List.mem_of_getElem? (i := 16) rfl)) rfl⟩
theorem oiX0_3 : Cond.methodLink RX0 3 Lib.objectInit ∈ lw_tbl := tb2 (List.mem_of_getElem? (i := 171) rfl)
def fX0_init_195 (φ : aF) : aF := (upf (upf (upf (upf (upf (upf φ 0 5 195 196) 0 0 195 9) 0 1 195 190) 0 2 195 29) 0 3 195 36) 0 4 195 5)
def aX0_init_195 (α : aA) : aA := (nAz 196 α 0)
theorem kc_X0_init_195 {d Ln : Nat} {φ : aF} {α : aA} : Rn (d + 1) mX0_init 0 [(2, 195), (2, 9), (2, 190), (2, 29), (2, 36), (2, 5)] [] (KPz Ln 196) φ α (1, 1519) (eqQ none (KPz Ln 197) (fX0_init_195 φ) (aX0_init_195 α)) := by
  refine r_aload_n (pc' := 1) (kX0_init_0 0 rfl) rfl rfl ?_
  refine r_obj0 (pc' := 4) (kX0_init_0 1 rfl) rfl oiX0_3 oiI oiC (by omega) (Nat.le_of_ble_eq_true rfl) ?_
  refine r_aload_n (pc' := 5) (kX0_init_0 2 rfl) rfl rfl ?_
  refine r_sipush 1519 (pc' := 8) (kX0_init_0 3 rfl) rfl ⟨by unfold inR; omega, rfl⟩ ?_
  refine k_newai (n := 196) (cnt := 1519) (pc' := 10) (k := (0, 0)) (kX0_init_0 4 rfl) rfl kai (by omega) rfl ?_
  refine r_putF (pc' := 13) (kX0_init_0 5 rfl) rfl fkX0_9 ffX0_5 rfl pk_arr rfl ?_
  refine r_aload_n (pc' := 14) (kX0_init_0 6 rfl) rfl rfl ?_
  refine r_aload_n (pc' := 15) (kX0_init_0 7 rfl) rfl rfl ?_
  refine r_putF (pc' := 18) (kX0_init_0 8 rfl) rfl fkX0_15 ffX0_0 rfl pk_obj rfl ?_
  refine r_aload_n (pc' := 19) (kX0_init_0 9 rfl) rfl rfl ?_
  refine r_aload_n (pc' := 20) (kX0_init_0 10 rfl) rfl rfl ?_
  refine r_putF (pc' := 23) (kX0_init_0 11 rfl) rfl fkX0_19 ffX0_1 rfl pk_obj rfl ?_
  refine r_aload_n (pc' := 24) (kX0_init_0 12 rfl) rfl rfl ?_
  refine r_aload_n (pc' := 25) (kX0_init_0 13 rfl) rfl rfl ?_
  refine r_putF (pc' := 28) (kX0_init_0 14 rfl) rfl fkX0_23 ffX0_2 rfl pk_obj rfl ?_
  refine r_aload_n (pc' := 29) (kX0_init_0 15 rfl) rfl rfl ?_
  refine r_aload (pc' := 31) (kX0_init_0 16 rfl) rfl rfl ?_
  refine r_putF (pc' := 34) (kX0_init_0 17 rfl) rfl fkX0_27 ffX0_3 rfl pk_obj rfl ?_
  refine r_aload_n (pc' := 35) (kX0_init_0 18 rfl) rfl rfl ?_
  refine r_aload (pc' := 37) (kX0_init_0 19 rfl) rfl rfl ?_
  refine r_putF (pc' := 40) (kX0_init_0 20 rfl) rfl fkX0_30 ffX0_4 rfl pk_obj rfl ?_
  exact r_vret (x := 0) (kX0_init_0 21 rfl) rfl ⟨rfl, rfl, rfl, rfl⟩
def fX10_init_0 (φ : aF) : aF := (upf (upf (upf (fX0_init_195 (nF 195 (upf (fX4_init_192 (nF 192 (upf (fX9_init_190 (nF 190 (upf (fX1_init_188 (nF 188 (upf (fX5_init_185 (nF 185 (upf (fX3_init_43 (nF 43 (upf (fSta 36 (nF 36 (upf (fSta 29 (nF 29 (upf (fX2_init_19 (nF 19 (upf (fX2_init_9 (nF 9 (upf (fRow 7 (nF 7 (upf (fRow 5 (nF 5 (upf (fRow 3 (nF 3 (upf (fRow 1 (nF 1 φ)) 10 0 0 1))) 10 1 0 3))) 10 2 0 5))) 10 3 0 7))) 10 4 0 9))) 10 5 0 19))) 10 6 0 29))) 10 7 0 36))) 10 8 0 43))) 10 9 0 185))) 10 10 0 188))) 10 11 0 190))) 10 12 0 192))) 10 13 0 195) 10 14 0 197) 10 15 0 1)
def aX10_init_0 (α : aA) : aA := (nAz 197 (aX0_init_195 (aX4_init_192 (aX9_init_190 (aX1_init_188 (aX5_init_185 (aX3_init_43 (aSta 36 (aSta 29 (aX2_init_19 (aX2_init_9 (aRow 7 (aRow 5 (aRow 3 (aRow 1 α)))))))))))))) 0)
set_option maxRecDepth 100000 in
theorem kc_X10_init_0 {d Ln : Nat} {φ : aF} {α : aA} : Rn (d + 7) mX10_init 0 [(2, 0)] [] (KPz Ln 1) φ α (197, 15879) (eqQ none (KPz Ln 198) (fX10_init_0 φ) (aX10_init_0 α)) := by
  refine r_aload_n (pc' := 1) (kX10_init_0 0 rfl) rfl rfl ?_
  refine r_obj0 (pc' := 4) (kX10_init_0 1 rfl) rfl oiX10_1 oiI oiC (by omega) (Nat.le_of_ble_eq_true rfl) ?_
  refine r_aload_n (pc' := 5) (kX10_init_0 2 rfl) rfl rfl ?_
  refine k_new (n := 1) (pc' := 8) (k := (196, 15877)) (kX10_init_0 3 rfl) rfl nlX10_7 (by decide) rfl ?_
  refine r_dup (pc' := 9) (kX10_init_0 4 rfl) rfl rfl ?_
  refine r_sipush 1600 (pc' := 12) (kX10_init_0 5 rfl) rfl ⟨by unfold inR; omega, rfl⟩ ?_
  refine r_callI (d := d + 6) (N := mX6_init) (As := [(0, 1600)]) (S := [(2, 1), (2, 0)]) (pc' := 15) (k1 := (1, 1600)) (k2 := (195, 14277)) (kX10_init_0 6 rfl) rfl rfl nkX6_init mlX10_11 imX6_init rfl rfl rfl (Nat.le_of_ble_eq_true rfl) (Nat.le_of_ble_eq_true rfl) (k_Row (o := 1) (m := 1600) (d := d + 5) rfl rfl (by omega)) (fun r K' φ' α' e => ?_)
  obtain ⟨rfl, rfl, rfl, rfl⟩ := e
  show Rn _ _ _ _ [(2, 1), (2, 0)] _ _ _ _ _
  refine r_putF (pc' := 18) (kX10_init_0 7 rfl) rfl fkX10_14 ffX10_0 rfl pk_obj rfl ?_
  refine r_aload_n (pc' := 19) (kX10_init_0 8 rfl) rfl rfl ?_
  refine k_new (n := 3) (pc' := 22) (k := (194, 14275)) (kX10_init_0 9 rfl) rfl nlX10_7 (by decide) rfl ?_
  refine r_dup (pc' := 23) (kX10_init_0 10 rfl) rfl rfl ?_
  refine r_bipush 64 (pc' := 25) (kX10_init_0 11 rfl) rfl ⟨by unfold inR; omega, rfl⟩ ?_
  refine r_callI (d := d + 6) (N := mX6_init) (As := [(0, 64)]) (S := [(2, 3), (2, 0)]) (pc' := 28) (k1 := (1, 64)) (k2 := (193, 14211)) (kX10_init_0 12 rfl) rfl rfl nkX6_init mlX10_11 imX6_init rfl rfl rfl (Nat.le_of_ble_eq_true rfl) (Nat.le_of_ble_eq_true rfl) (k_Row (o := 3) (m := 64) (d := d + 5) rfl rfl (by omega)) (fun r K' φ' α' e => ?_)
  obtain ⟨rfl, rfl, rfl, rfl⟩ := e
  show Rn _ _ _ _ [(2, 3), (2, 0)] _ _ _ _ _
  refine r_putF (pc' := 31) (kX10_init_0 13 rfl) rfl fkX10_18 ffX10_1 rfl pk_obj rfl ?_
  refine r_aload_n (pc' := 32) (kX10_init_0 14 rfl) rfl rfl ?_
  refine k_new (n := 5) (pc' := 35) (k := (192, 14209)) (kX10_init_0 15 rfl) rfl nlX10_7 (by decide) rfl ?_
  refine r_dup (pc' := 36) (kX10_init_0 16 rfl) rfl rfl ?_
  refine r_bipush 64 (pc' := 38) (kX10_init_0 17 rfl) rfl ⟨by unfold inR; omega, rfl⟩ ?_
  refine r_callI (d := d + 6) (N := mX6_init) (As := [(0, 64)]) (S := [(2, 5), (2, 0)]) (pc' := 41) (k1 := (1, 64)) (k2 := (191, 14145)) (kX10_init_0 18 rfl) rfl rfl nkX6_init mlX10_11 imX6_init rfl rfl rfl (Nat.le_of_ble_eq_true rfl) (Nat.le_of_ble_eq_true rfl) (k_Row (o := 5) (m := 64) (d := d + 5) rfl rfl (by omega)) (fun r K' φ' α' e => ?_)
  obtain ⟨rfl, rfl, rfl, rfl⟩ := e
  show Rn _ _ _ _ [(2, 5), (2, 0)] _ _ _ _ _
  refine r_putF (pc' := 44) (kX10_init_0 19 rfl) rfl fkX10_21 ffX10_2 rfl pk_obj rfl ?_
  refine r_aload_n (pc' := 45) (kX10_init_0 20 rfl) rfl rfl ?_
  refine k_new (n := 7) (pc' := 48) (k := (190, 14143)) (kX10_init_0 21 rfl) rfl nlX10_7 (by decide) rfl ?_
  refine r_dup (pc' := 49) (kX10_init_0 22 rfl) rfl rfl ?_
  refine r_sipush 1600 (pc' := 52) (kX10_init_0 23 rfl) rfl ⟨by unfold inR; omega, rfl⟩ ?_
  refine r_callI (d := d + 6) (N := mX6_init) (As := [(0, 1600)]) (S := [(2, 7), (2, 0)]) (pc' := 55) (k1 := (1, 1600)) (k2 := (189, 12543)) (kX10_init_0 24 rfl) rfl rfl nkX6_init mlX10_11 imX6_init rfl rfl rfl (Nat.le_of_ble_eq_true rfl) (Nat.le_of_ble_eq_true rfl) (k_Row (o := 7) (m := 1600) (d := d + 5) rfl rfl (by omega)) (fun r K' φ' α' e => ?_)
  obtain ⟨rfl, rfl, rfl, rfl⟩ := e
  show Rn _ _ _ _ [(2, 7), (2, 0)] _ _ _ _ _
  refine r_putF (pc' := 58) (kX10_init_0 25 rfl) rfl fkX10_24 ffX10_3 rfl pk_obj rfl ?_
  refine r_aload_n (pc' := 59) (kX10_init_0 26 rfl) rfl rfl ?_
  refine k_new (n := 9) (pc' := 62) (k := (188, 12527)) (kX10_init_0 27 rfl) rfl nlX10_27 (by decide) rfl ?_
  refine r_dup (pc' := 63) (kX10_init_0 28 rfl) rfl rfl ?_
  refine r_callI (d := d + 6) (N := mX2_init) (As := []) (S := [(2, 9), (2, 0)]) (pc' := 66) (k1 := (9, 3264)) (k2 := (179, 9263)) (kX10_init_0 29 rfl) rfl rfl nkX2_init mlX10_29 imX2_init rfl rfl rfl (Nat.le_of_ble_eq_true rfl) (Nat.le_of_ble_eq_true rfl) (kc_X2_init_9 (d := d + 4)) (fun r K' φ' α' e => ?_)
  obtain ⟨rfl, rfl, rfl, rfl⟩ := e
  show Rn _ _ _ _ [(2, 9), (2, 0)] _ _ _ _ _
  refine r_putF (pc' := 69) (kX10_init_0 30 rfl) rfl fkX10_30 ffX10_4 rfl pk_obj rfl ?_
  refine r_aload_n (pc' := 70) (kX10_init_0 31 rfl) rfl rfl ?_
  refine k_new (n := 19) (pc' := 73) (k := (178, 9247)) (kX10_init_0 32 rfl) rfl nlX10_27 (by decide) rfl ?_
  refine r_dup (pc' := 74) (kX10_init_0 33 rfl) rfl rfl ?_
  refine r_callI (d := d + 6) (N := mX2_init) (As := []) (S := [(2, 19), (2, 0)]) (pc' := 77) (k1 := (9, 3264)) (k2 := (169, 5983)) (kX10_init_0 34 rfl) rfl rfl nkX2_init mlX10_29 imX2_init rfl rfl rfl (Nat.le_of_ble_eq_true rfl) (Nat.le_of_ble_eq_true rfl) (kc_X2_init_19 (d := d + 4)) (fun r K' φ' α' e => ?_)
  obtain ⟨rfl, rfl, rfl, rfl⟩ := e
  show Rn _ _ _ _ [(2, 19), (2, 0)] _ _ _ _ _
  refine r_putF (pc' := 80) (kX10_init_0 35 rfl) rfl fkX10_34 ffX10_5 rfl pk_obj rfl ?_
  refine r_aload_n (pc' := 81) (kX10_init_0 36 rfl) rfl rfl ?_
  refine k_new (n := 29) (pc' := 84) (k := (168, 5972)) (kX10_init_0 37 rfl) rfl nlX10_37 (by decide) rfl ?_
  refine r_dup (pc' := 85) (kX10_init_0 38 rfl) rfl rfl ?_
  refine r_callI (d := d + 6) (N := mX7_init) (As := []) (S := [(2, 29), (2, 0)]) (pc' := 88) (k1 := (6, 183)) (k2 := (162, 5789)) (kX10_init_0 39 rfl) rfl rfl nkX7_init mlX10_39 imX7_init rfl rfl rfl (Nat.le_of_ble_eq_true rfl) (Nat.le_of_ble_eq_true rfl) (k_Sta (o := 29) (d := d + 5) rfl rfl rfl rfl rfl rfl rfl) (fun r K' φ' α' e => ?_)
  obtain ⟨rfl, rfl, rfl, rfl⟩ := e
  show Rn _ _ _ _ [(2, 29), (2, 0)] _ _ _ _ _
  refine r_putF (pc' := 91) (kX10_init_0 40 rfl) rfl fkX10_40 ffX10_6 rfl pk_obj rfl ?_
  refine r_aload_n (pc' := 92) (kX10_init_0 41 rfl) rfl rfl ?_
  refine k_new (n := 36) (pc' := 95) (k := (161, 5778)) (kX10_init_0 42 rfl) rfl nlX10_37 (by decide) rfl ?_
  refine r_dup (pc' := 96) (kX10_init_0 43 rfl) rfl rfl ?_
  refine r_callI (d := d + 6) (N := mX7_init) (As := []) (S := [(2, 36), (2, 0)]) (pc' := 99) (k1 := (6, 183)) (k2 := (155, 5595)) (kX10_init_0 44 rfl) rfl rfl nkX7_init mlX10_39 imX7_init rfl rfl rfl (Nat.le_of_ble_eq_true rfl) (Nat.le_of_ble_eq_true rfl) (k_Sta (o := 36) (d := d + 5) rfl rfl rfl rfl rfl rfl rfl) (fun r K' φ' α' e => ?_)
  obtain ⟨rfl, rfl, rfl, rfl⟩ := e
  show Rn _ _ _ _ [(2, 36), (2, 0)] _ _ _ _ _
  refine r_putF (pc' := 102) (kX10_init_0 45 rfl) rfl fkX10_44 ffX10_7 rfl pk_obj rfl ?_
  refine r_aload_n (pc' := 103) (kX10_init_0 46 rfl) rfl rfl ?_
  refine k_new (n := 43) (pc' := 106) (k := (154, 5592)) (kX10_init_0 47 rfl) rfl nlX10_47 (by decide) rfl ?_
  refine r_dup (pc' := 107) (kX10_init_0 48 rfl) rfl rfl ?_
  refine r_callI (d := d + 6) (N := mX3_init) (As := []) (S := [(2, 43), (2, 0)]) (pc' := 110) (k1 := (141, 3900)) (k2 := (13, 1692)) (kX10_init_0 49 rfl) rfl rfl nkX3_init mlX10_49 imX3_init rfl rfl rfl (Nat.le_of_ble_eq_true rfl) (Nat.le_of_ble_eq_true rfl) (kc_X3_init_43 (d := d + 4)) (fun r K' φ' α' e => ?_)
  obtain ⟨rfl, rfl, rfl, rfl⟩ := e
  show Rn _ _ _ _ [(2, 43), (2, 0)] _ _ _ _ _
  refine r_putF (pc' := 113) (kX10_init_0 50 rfl) rfl fkX10_50 ffX10_8 rfl pk_obj rfl ?_
  refine r_aload_n (pc' := 114) (kX10_init_0 51 rfl) rfl rfl ?_
  refine k_new (n := 185) (pc' := 117) (k := (12, 1685)) (kX10_init_0 52 rfl) rfl nlX10_54 (by decide) rfl ?_
  refine r_dup (pc' := 118) (kX10_init_0 53 rfl) rfl rfl ?_
  refine r_aload_n (pc' := 119) (kX10_init_0 54 rfl) rfl rfl ?_
  refine r_getv (v := 1) (t := 2) (pc' := 122) (kX10_init_0 55 rfl) rfl fkX10_14 rfl rfl rfl (fun _ => by omega) ?_
  refine r_aload_n (pc' := 123) (kX10_init_0 56 rfl) rfl rfl ?_
  refine r_getv (v := 19) (t := 2) (pc' := 126) (kX10_init_0 57 rfl) rfl fkX10_34 rfl rfl rfl (fun _ => by omega) ?_
  refine r_aload_n (pc' := 127) (kX10_init_0 58 rfl) rfl rfl ?_
  refine r_getv (v := 7) (t := 2) (pc' := 130) (kX10_init_0 59 rfl) rfl fkX10_24 rfl rfl rfl (fun _ => by omega) ?_
  refine r_callI (d := d + 6) (N := mX5_init) (As := [(2, 1), (2, 19), (2, 7)]) (S := [(2, 185), (2, 0)]) (pc' := 133) (k1 := (2, 37)) (k2 := (10, 1648)) (kX10_init_1 0 rfl) rfl rfl nkX5_init mlX10_56 imX5_init rfl rfl rfl (Nat.le_of_ble_eq_true rfl) (Nat.le_of_ble_eq_true rfl) (kc_X5_init_185 (d := d + 0)) (fun r K' φ' α' e => ?_)
  obtain ⟨rfl, rfl, rfl, rfl⟩ := e
  show Rn _ _ _ _ [(2, 185), (2, 0)] _ _ _ _ _
  refine r_putF (pc' := 136) (kX10_init_1 1 rfl) rfl fkX10_59 ffX10_9 rfl pk_obj rfl ?_
  refine r_aload_n (pc' := 137) (kX10_init_1 2 rfl) rfl rfl ?_
  refine k_new (n := 188) (pc' := 140) (k := (9, 1646)) (kX10_init_1 3 rfl) rfl nlX10_63 (by decide) rfl ?_
  refine r_dup (pc' := 141) (kX10_init_1 4 rfl) rfl rfl ?_
  refine r_aload_n (pc' := 142) (kX10_init_1 5 rfl) rfl rfl ?_
  refine r_getv (v := 9) (t := 2) (pc' := 145) (kX10_init_1 6 rfl) rfl fkX10_30 rfl rfl rfl (fun _ => by omega) ?_
  refine r_callI (d := d + 6) (N := mX1_init) (As := [(2, 9)]) (S := [(2, 188), (2, 0)]) (pc' := 148) (k1 := (1, 64)) (k2 := (8, 1582)) (kX10_init_1 7 rfl) rfl rfl nkX1_init mlX10_65 imX1_init rfl rfl rfl (Nat.le_of_ble_eq_true rfl) (Nat.le_of_ble_eq_true rfl) (kc_X1_init_188 (d := d + 5)) (fun r K' φ' α' e => ?_)
  obtain ⟨rfl, rfl, rfl, rfl⟩ := e
  show Rn _ _ _ _ [(2, 188), (2, 0)] _ _ _ _ _
  refine r_putF (pc' := 151) (kX10_init_1 8 rfl) rfl fkX10_68 ffX10_10 rfl pk_obj rfl ?_
  refine r_aload_n (pc' := 152) (kX10_init_1 9 rfl) rfl rfl ?_
  refine k_new (n := 190) (pc' := 155) (k := (7, 1579)) (kX10_init_1 10 rfl) rfl nlX10_72 (by decide) rfl ?_
  refine r_dup (pc' := 156) (kX10_init_1 11 rfl) rfl rfl ?_
  refine r_aload_n (pc' := 157) (kX10_init_1 12 rfl) rfl rfl ?_
  refine r_getv (v := 9) (t := 2) (pc' := 160) (kX10_init_1 13 rfl) rfl fkX10_30 rfl rfl rfl (fun _ => by omega) ?_
  refine r_aload_n (pc' := 161) (kX10_init_1 14 rfl) rfl rfl ?_
  refine r_getv (v := 188) (t := 2) (pc' := 164) (kX10_init_1 15 rfl) rfl fkX10_68 rfl rfl rfl (fun _ => by omega) ?_
  refine r_callI (d := d + 6) (N := mX9_init) (As := [(2, 9), (2, 188)]) (S := [(2, 190), (2, 0)]) (pc' := 167) (k1 := (1, 28)) (k2 := (6, 1551)) (kX10_init_1 16 rfl) rfl rfl nkX9_init mlX10_74 imX9_init rfl rfl rfl (Nat.le_of_ble_eq_true rfl) (Nat.le_of_ble_eq_true rfl) (kc_X9_init_190 (d := d + 5)) (fun r K' φ' α' e => ?_)
  obtain ⟨rfl, rfl, rfl, rfl⟩ := e
  show Rn _ _ _ _ [(2, 190), (2, 0)] _ _ _ _ _
  refine r_putF (pc' := 170) (kX10_init_1 17 rfl) rfl fkX10_77 ffX10_11 rfl pk_obj rfl ?_
  refine r_aload_n (pc' := 171) (kX10_init_1 18 rfl) rfl rfl ?_
  refine k_new (n := 192) (pc' := 174) (k := (5, 1542)) (kX10_init_1 19 rfl) rfl nlX10_81 (by decide) rfl ?_
  refine r_dup (pc' := 175) (kX10_init_1 20 rfl) rfl rfl ?_
  refine r_aload_n (pc' := 176) (kX10_init_1 21 rfl) rfl rfl ?_
  refine r_getv (v := 9) (t := 2) (pc' := 179) (kX10_init_1 22 rfl) rfl fkX10_30 rfl rfl rfl (fun _ => by omega) ?_
  refine r_aload_n (pc' := 180) (kX10_init_1 23 rfl) rfl rfl ?_
  refine r_getv (v := 190) (t := 2) (pc' := 183) (kX10_init_1 24 rfl) rfl fkX10_77 rfl rfl rfl (fun _ => by omega) ?_
  refine r_aload_n (pc' := 184) (kX10_init_1 25 rfl) rfl rfl ?_
  refine r_getv (v := 29) (t := 2) (pc' := 187) (kX10_init_1 26 rfl) rfl fkX10_40 rfl rfl rfl (fun _ => by omega) ?_
  refine r_aload_n (pc' := 188) (kX10_init_1 27 rfl) rfl rfl ?_
  refine r_getv (v := 36) (t := 2) (pc' := 191) (kX10_init_1 28 rfl) rfl fkX10_44 rfl rfl rfl (fun _ => by omega) ?_
  refine r_callI (d := d + 6) (N := mX4_init) (As := [(2, 9), (2, 190), (2, 29), (2, 36)]) (S := [(2, 192), (2, 0)]) (pc' := 194) (k1 := (2, 8)) (k2 := (3, 1534)) (kX10_init_1 29 rfl) rfl rfl nkX4_init mlX10_83 imX4_init rfl rfl rfl (Nat.le_of_ble_eq_true rfl) (Nat.le_of_ble_eq_true rfl) (kc_X4_init_192 (d := d + 5)) (fun r K' φ' α' e => ?_)
  obtain ⟨rfl, rfl, rfl, rfl⟩ := e
  show Rn _ _ _ _ [(2, 192), (2, 0)] _ _ _ _ _
  refine r_putF (pc' := 197) (kX10_init_1 30 rfl) rfl fkX10_86 ffX10_12 rfl pk_obj rfl ?_
  refine r_aload_n (pc' := 198) (kX10_init_1 31 rfl) rfl rfl ?_
  refine k_new (n := 195) (pc' := 201) (k := (2, 1525)) (kX10_init_1 32 rfl) rfl nlX10_90 (by decide) rfl ?_
  refine r_dup (pc' := 202) (kX10_init_1 33 rfl) rfl rfl ?_
  refine r_aload_n (pc' := 203) (kX10_init_1 34 rfl) rfl rfl ?_
  refine r_getv (v := 9) (t := 2) (pc' := 206) (kX10_init_1 35 rfl) rfl fkX10_30 rfl rfl rfl (fun _ => by omega) ?_
  refine r_aload_n (pc' := 207) (kX10_init_1 36 rfl) rfl rfl ?_
  refine r_getv (v := 190) (t := 2) (pc' := 210) (kX10_init_1 37 rfl) rfl fkX10_77 rfl rfl rfl (fun _ => by omega) ?_
  refine r_aload_n (pc' := 211) (kX10_init_1 38 rfl) rfl rfl ?_
  refine r_getv (v := 29) (t := 2) (pc' := 214) (kX10_init_1 39 rfl) rfl fkX10_40 rfl rfl rfl (fun _ => by omega) ?_
  refine r_aload_n (pc' := 215) (kX10_init_1 40 rfl) rfl rfl ?_
  refine r_getv (v := 36) (t := 2) (pc' := 218) (kX10_init_1 41 rfl) rfl fkX10_44 rfl rfl rfl (fun _ => by omega) ?_
  refine r_aload_n (pc' := 219) (kX10_init_1 42 rfl) rfl rfl ?_
  refine r_getv (v := 5) (t := 2) (pc' := 222) (kX10_init_1 43 rfl) rfl fkX10_21 rfl rfl rfl (fun _ => by omega) ?_
  refine r_callI (d := d + 6) (N := mX0_init) (As := [(2, 9), (2, 190), (2, 29), (2, 36), (2, 5)]) (S := [(2, 195), (2, 0)]) (pc' := 225) (k1 := (1, 1519)) (k2 := (1, 6)) (kX10_init_1 44 rfl) rfl rfl nkX0_init mlX10_92 imX0_init rfl rfl rfl (Nat.le_of_ble_eq_true rfl) (Nat.le_of_ble_eq_true rfl) (kc_X0_init_195 (d := d + 5)) (fun r K' φ' α' e => ?_)
  obtain ⟨rfl, rfl, rfl, rfl⟩ := e
  show Rn _ _ _ _ [(2, 195), (2, 0)] _ _ _ _ _
  refine r_putF (pc' := 228) (kX10_init_1 45 rfl) rfl fkX10_95 ffX10_13 rfl pk_obj rfl ?_
  refine r_aload_n (pc' := 229) (kX10_init_1 46 rfl) rfl rfl ?_
  refine r_bipush 6 (pc' := 231) (kX10_init_1 47 rfl) rfl ⟨by unfold inR; omega, rfl⟩ ?_
  refine k_newai (n := 197) (cnt := 6) (pc' := 233) (k := (0, 0)) (kX10_init_1 48 rfl) rfl kai (by omega) rfl ?_
  refine r_putF (pc' := 236) (kX10_init_1 49 rfl) rfl fkX10_99 ffX10_14 rfl pk_arr rfl ?_
  refine r_aload_n (pc' := 237) (kX10_init_1 50 rfl) rfl rfl ?_
  refine r_iconst 1 (pc' := 238) (kX10_init_1 51 rfl) rfl (by unfold inR; omega) ?_
  refine r_put (pc' := 241) (kX10_init_1 52 rfl) rfl fkX10_103 fnX10_15 pk_int rfl ?_
  exact r_vret (x := 0) (kX10_init_1 53 rfl) rfl ⟨rfl, rfl, rfl, rfl⟩
