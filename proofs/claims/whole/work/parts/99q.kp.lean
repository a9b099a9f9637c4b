/-! the constructors: the heap's shape grows; rows, states, words -/
/-- the first n objects of the shape that the constructors lay -/
def KPz (Ln n : Nat) : bK := (n, fun j => if j < (n : Int) then (K0 Ln).2 j else (99, 0))
def nF (n : Int) (φ : aF) : aF := fun c f o => if o = n then (if fT c f = 2 then -1 else 0) else φ c f o
def nAz (n : Int) (α : aA) (v : Int) : aA := fun a i => if a = n then v else α a i
theorem KP_at {Ln n : Nat} {o : Int} (h : o < (n : Int)) : (KPz Ln n).2 o = (K0 Ln).2 o := if_pos h
theorem KP_new {Ln n : Nat} {q : Nat × Nat} (h : (K0 Ln).2 (n : Int) = q) : newK (KPz Ln n) q = KPz Ln (n + 1) := by
  unfold newK KPz
  congr 1
  funext j
  dsimp only
  by_cases e : j = (n : Int)
  · rw [if_pos e, if_pos (by omega), e, h]
  · rw [if_neg e]
    by_cases e2 : j < (n : Int)
    · rw [if_pos e2, if_pos (by omega)]
    · rw [if_neg e2, if_neg (by omega)]
theorem kai : Cond.arrayClass (newarray.typeOf .int) ∈ lw_h := hw (tb1 (List.mem_of_getElem? (i := 49) rfl)) rfl
theorem kac : Cond.arrayClass (newarray.typeOf .char) ∈ lw_h := hw (tb7 (List.mem_of_getElem? (i := 118) rfl)) rfl
theorem kal : Cond.arrayClass (newarray.typeOf .long) ∈ lw_h := hw (tb7 (List.mem_of_getElem? (i := 119) rfl)) rfl
theorem oiI : Cond.instanceMethod Lib.objectInit ∈ lw_tbl := tb1 (List.mem_of_getElem? (i := 26) rfl)
theorem oiC : Cond.code Lib.objectInit ⟨#[0xb1]⟩ 1 none ∈ lw_tbl := tb1 (List.mem_of_getElem? (i := 27) rfl)
theorem oiX6_3 : Cond.methodLink RX6 3 Lib.objectInit ∈ lw_tbl := tb1 (List.mem_of_getElem? (i := 33) rfl)
theorem oiX7_3 : Cond.methodLink RX7 3 Lib.objectInit ∈ lw_tbl := tb1 (List.mem_of_getElem? (i := 153) rfl)
theorem pk_arr {t : FieldType} {v : Int} : putOk (.array t) 2 v := rfl
section KPs
variable {d Ln n : Nat} {M : aM} {pc pc' : Nat} {L S : List aV} {K : bK} {φ : aF} {α : aA} {k : Nat × Nat} {Q : bQ}
theorem k_new {ix ci N : Nat} (hd : decode M.2.1 pc = .ok (.new ix, 3)) (hp : pc + 3 = pc') (hk : ∃ (C : String) (T : u_T), CK ci C T N ∧ Cond.classLink M.1.cls ix C ∈ lw_h ∧ Cond.instantiable C N ∈ lw_h ∧ Cond.initialized C ∈ lw_h) (hty : ∀ j, j < N → okTy (fTy ci j) = true) (hs : (K0 Ln).2 (n : Int) = (ci, 0)) (h : Rn d M pc' L ((2, (n : Int)) :: S) (KPz Ln (n + 1)) (nF n φ) α k Q) : Rn d M pc L S (KPz Ln n) φ α (1 + k.1, N + k.2) Q := by
  refine r_new hd hp hk hty ?_
  rw [KP_new hs]
  exact h
theorem k_newai {cnt : Nat} (hd : decode M.2.1 pc = .ok (.newarray .int, 2)) (hp : pc + 2 = pc') (hk : Cond.arrayClass (newarray.typeOf .int) ∈ lw_h) (g : cnt < 60000000) (hs : (K0 Ln).2 (n : Int) = (20, cnt)) (h : Rn d M pc' L ((2, (n : Int)) :: S) (KPz Ln (n + 1)) φ (nAz n α 0) k Q) : Rn d M pc L ((0, (cnt : Int)) :: S) (KPz Ln n) φ α (1 + k.1, cnt + k.2) Q := by
  refine r_newai hd hp hk g ?_
  rw [KP_new hs]
  exact h
theorem k_newac {cnt : Nat} (hd : decode M.2.1 pc = .ok (.newarray .char, 2)) (hp : pc + 2 = pc') (hk : Cond.arrayClass (newarray.typeOf .char) ∈ lw_h) (g : cnt < 60000000) (hs : (K0 Ln).2 (n : Int) = (21, cnt)) (h : Rn d M pc' L ((2, (n : Int)) :: S) (KPz Ln (n + 1)) φ (nAz n α 0) k Q) : Rn d M pc L ((0, (cnt : Int)) :: S) (KPz Ln n) φ α (1 + k.1, cnt + k.2) Q := by
  refine r_newac hd hp hk g ?_
  rw [KP_new hs]
  exact h
theorem k_newal {cnt : Nat} (hd : decode M.2.1 pc = .ok (.newarray .long, 2)) (hp : pc + 2 = pc') (hk : Cond.arrayClass (newarray.typeOf .long) ∈ lw_h) (g : cnt < 60000000) (hs : (K0 Ln).2 (n : Int) = (22, cnt)) (h : Rn d M pc' L ((2, (n : Int)) :: S) (KPz Ln (n + 1)) φ (nAz n α 0) k Q) : Rn d M pc L ((0, (cnt : Int)) :: S) (KPz Ln n) φ α (1 + k.1, cnt + k.2) Q := by
  refine r_newal hd hp hk g ?_
  rw [KP_new hs]
  exact h
theorem k_newq {ix cnt : Nat} (hd : decode M.2.1 pc = .ok (.anewarray ix, 3)) (hp : pc + 3 = pc') (hk : Cond.classLink M.1.cls ix "SpongeClerks$State" ∈ lw_h) (g : cnt < 60000000) (hs : (K0 Ln).2 (n : Int) = (23, cnt)) (h : Rn d M pc' L ((2, (n : Int)) :: S) (KPz Ln (n + 1)) φ (nAz n α (-1)) k Q) : Rn d M pc L ((0, (cnt : Int)) :: S) (KPz Ln n) φ α (1 + k.1, cnt + k.2) Q := by
  refine r_newq hd hp hk g ?_
  rw [KP_new hs]
  exact h
theorem r_getv {ix ci f t : Nat} {o v : Int} (hd : decode M.2.1 pc = .ok (.getfield ix, 3)) (hp : pc + 3 = pc') (hk : FK M.1.cls ix ci f) (ht : fT ci f = t) (g : (K.2 o).1 = ci) (hv : φ ci f o = v) (g2 : t = 2 → 0 ≤ v) (h : Rn d M pc' L ((t, v) :: S) K φ α k Q) : Rn d M pc L ((2, o) :: S) K φ α k Q := by
  subst hv
  exact r_get hd hp hk ht g g2 h
/-- a row of m cells -/
def fRow (o : Nat) (φ : aF) : aF := upf φ 6 0 (o : Int) ((o + 1 : Nat) : Int)
def aRow (o : Nat) (α : aA) : aA := nAz ((o + 1 : Nat) : Int) α 0
theorem k_Row {o m : Nat} (h0 : (K0 Ln).2 (o : Int) = (6, 0)) (h1 : (K0 Ln).2 ((o + 1 : Nat) : Int) = (20, m)) (hm : m < 60000000) : Rn (d + 1) mX6_init 0 [(2, (o : Int)), (0, (m : Int))] [] (KPz Ln (o + 1)) φ α (0 + (1 + 0), 0 + (m + 0)) (eqQ none (KPz Ln (o + 2)) (fRow o φ) (aRow o α)) := by
  refine r_aload_n (pc' := 1) (kX6_init_0 0 rfl) rfl rfl ?_
  refine r_obj0 (pc' := 4) (kX6_init_0 1 rfl) rfl oiX6_3 oiI oiC (by omega) (Nat.le_of_ble_eq_true rfl) ?_
  refine r_aload_n (pc' := 5) (kX6_init_0 2 rfl) rfl rfl ?_
  refine r_iconst 0 (pc' := 6) (kX6_init_0 3 rfl) rfl inR0 ?_
  refine r_iload_n (pc' := 7) (kX6_init_0 4 rfl) rfl rfl ?_
  refine r_callS (d := d) (N := mJ9_max_7cf53) (As := [(0, 0), (0, (m : Int))]) (S := [(2, (o : Int))]) (pc' := 10) (k1 := (0, 0)) (k2 := (1 + 0, m + 0)) (kX6_init_0 5 rfl) rfl rfl nkJ9_max_7cf53 mlX6_9 scJ9_max_7cf53 rfl (Nat.le_of_ble_eq_true rfl) (Nat.le_of_ble_eq_true rfl) (k_max (z := (m : Int)) (by omega)) (fun r K' φ' α' e => ?_)
  obtain ⟨rfl, rfl, rfl, rfl⟩ := e
  show Rn _ _ _ _ [(0, (m : Int)), (2, (o : Int))] _ _ _ _ _
  refine k_newai (n := o + 1) (cnt := m) (pc' := 12) (k := (0, 0)) (kX6_init_0 6 rfl) rfl kai hm h1 ?_
  refine r_putF (pc' := 15) (kX6_init_0 7 rfl) rfl fkX6_15 ffX6_0 rfl pk_arr (by rw [KP_at (by omega), h0]) ?_
  exact r_vret (x := 0) (kX6_init_0 8 rfl) rfl ⟨rfl, rfl, rfl, rfl⟩
/-- a state -/
def fSta (o : Nat) (φ : aF) : aF := upf (upf (upf (upf (upf (upf φ 7 1 (o : Int) ((o + 1 : Nat) : Int)) 7 2 (o : Int) ((o + 2 : Nat) : Int)) 7 3 (o : Int) ((o + 3 : Nat) : Int)) 7 4 (o : Int) ((o + 4 : Nat) : Int)) 7 5 (o : Int) ((o + 5 : Nat) : Int)) 7 6 (o : Int) ((o + 6 : Nat) : Int)
def aSta (o : Nat) (α : aA) : aA := rg (nAz ((o + 6 : Nat) : Int) (nAz ((o + 5 : Nat) : Int) (nAz ((o + 4 : Nat) : Int) (nAz ((o + 3 : Nat) : Int) (nAz ((o + 2 : Nat) : Int) (nAz ((o + 1 : Nat) : Int) α 0) 0) 0) 0) 0) 0) ((o + 2 : Nat) : Int) 0 (9 : Nat) (fun _ => -1)
theorem k_Sta {o : Nat} (h0 : (K0 Ln).2 (o : Int) = (7, 0)) (h1 : (K0 Ln).2 ((o + 1 : Nat) : Int) = (20, 7)) (h2 : (K0 Ln).2 ((o + 2 : Nat) : Int) = (20, 9)) (h3 : (K0 Ln).2 ((o + 3 : Nat) : Int) = (20, 28)) (h4 : (K0 Ln).2 ((o + 4 : Nat) : Int) = (20, 7)) (h5 : (K0 Ln).2 ((o + 5 : Nat) : Int) = (20, 12)) (h6 : (K0 Ln).2 ((o + 6 : Nat) : Int) = (20, 120)) : Rn (d + 1) mX7_init 0 [(2, (o : Int))] [] (KPz Ln (o + 1)) φ α (6, 183) (eqQ none (KPz Ln (o + 7)) (fSta o φ) (aSta o α)) := by
  refine r_aload_n (pc' := 1) (kX7_init_0 0 rfl) rfl rfl ?_
  refine r_obj0 (pc' := 4) (kX7_init_0 1 rfl) rfl oiX7_3 oiI oiC (by omega) (Nat.le_of_ble_eq_true rfl) ?_
  refine r_aload_n (pc' := 5) (kX7_init_0 2 rfl) rfl rfl ?_
  refine r_bipush 7 (pc' := 7) (kX7_init_0 3 rfl) rfl ⟨by unfold inR; omega, rfl⟩ ?_
  refine k_newai (n := o + 1) (cnt := 7) (pc' := 9) (k := (5, 176)) (kX7_init_0 4 rfl) rfl kai (by omega) h1 ?_
  refine r_putF (pc' := 12) (kX7_init_0 5 rfl) rfl fkX7_9 ffX7_1 rfl pk_arr (by rw [KP_at (by omega), h0]) ?_
  refine r_aload_n (pc' := 13) (kX7_init_0 6 rfl) rfl rfl ?_
  refine r_bipush 9 (pc' := 15) (kX7_init_0 7 rfl) rfl ⟨by unfold inR; omega, rfl⟩ ?_
  refine k_newai (n := o + 2) (cnt := 9) (pc' := 17) (k := (4, 167)) (kX7_init_0 8 rfl) rfl kai (by omega) h2 ?_
  refine r_putF (pc' := 20) (kX7_init_0 9 rfl) rfl fkX7_15 ffX7_2 rfl pk_arr (by rw [KP_at (by omega), h0]) ?_
  refine r_aload_n (pc' := 21) (kX7_init_0 10 rfl) rfl rfl ?_
  refine r_bipush 28 (pc' := 23) (kX7_init_0 11 rfl) rfl ⟨by unfold inR; omega, rfl⟩ ?_
  refine k_newai (n := o + 3) (cnt := 28) (pc' := 25) (k := (3, 139)) (kX7_init_0 12 rfl) rfl kai (by omega) h3 ?_
  refine r_putF (pc' := 28) (kX7_init_0 13 rfl) rfl fkX7_18 ffX7_3 rfl pk_arr (by rw [KP_at (by omega), h0]) ?_
  refine r_aload_n (pc' := 29) (kX7_init_0 14 rfl) rfl rfl ?_
  refine r_bipush 7 (pc' := 31) (kX7_init_0 15 rfl) rfl ⟨by unfold inR; omega, rfl⟩ ?_
  refine k_newai (n := o + 4) (cnt := 7) (pc' := 33) (k := (2, 132)) (kX7_init_0 16 rfl) rfl kai (by omega) h4 ?_
  refine r_putF (pc' := 36) (kX7_init_0 17 rfl) rfl fkX7_21 ffX7_4 rfl pk_arr (by rw [KP_at (by omega), h0]) ?_
  refine r_aload_n (pc' := 37) (kX7_init_0 18 rfl) rfl rfl ?_
  refine r_bipush 12 (pc' := 39) (kX7_init_0 19 rfl) rfl ⟨by unfold inR; omega, rfl⟩ ?_
  refine k_newai (n := o + 5) (cnt := 12) (pc' := 41) (k := (1, 120)) (kX7_init_0 20 rfl) rfl kai (by omega) h5 ?_
  refine r_putF (pc' := 44) (kX7_init_0 21 rfl) rfl fkX7_24 ffX7_5 rfl pk_arr (by rw [KP_at (by omega), h0]) ?_
  refine r_aload_n (pc' := 45) (kX7_init_0 22 rfl) rfl rfl ?_
  refine r_bipush 120 (pc' := 47) (kX7_init_0 23 rfl) rfl ⟨by unfold inR; omega, rfl⟩ ?_
  refine k_newai (n := o + 6) (cnt := 120) (pc' := 49) (k := (0, 0)) (kX7_init_0 24 rfl) rfl kai (by omega) h6 ?_
  refine r_putF (pc' := 52) (kX7_init_0 25 rfl) rfl fkX7_27 ffX7_6 rfl pk_arr (by rw [KP_at (by omega), h0]) ?_
  refine r_aload_n (pc' := 53) (kX7_init_0 26 rfl) rfl rfl ?_
  refine r_getv (v := ((o + 2 : Nat) : Int)) (t := 2) (pc' := 56) (kX7_init_0 27 rfl) rfl fkX7_15 rfl (by rw [KP_at (by omega), h0]) (by simp [upf]) (fun _ => by omega) ?_
  refine r_iconst (-1) (pc' := 57) (kX7_init_0 28 rfl) rfl (by unfold inR; omega) ?_
  refine r_callS (d := d) (N := mX10_fill) (As := [(2, ((o + 2 : Nat) : Int)), (0, (-1))]) (S := []) (pc' := 60) (k1 := (0, 0)) (k2 := (0, 0)) (kX7_init_0 29 rfl) rfl rfl nkX10_fill mlX7_30 scX10_fill rfl (Nat.le_of_ble_eq_true rfl) (Nat.le_of_ble_eq_true rfl) (k_fill (n := 9) (by rw [KP_at (by omega), h2]) (by omega)) (fun r K' φ' α' e => ?_)
  obtain ⟨rfl, rfl, rfl, rfl⟩ := e
  exact r_vret (x := 0) (kX7_init_0 30 rfl) rfl ⟨rfl, rfl, rfl, rfl⟩
-- the words
def tstep (c : Int) (q : Int × Int) : Int × Int := if c = 32 then (q.1 + 1, 0) else (q.1, 27 * q.2 + c - 97 + 1)
def tw : Nat → Int × Int
  | 0 => (0, 0)
  | i + 1 => tstep (chv i) (tw i)
def ta (α : aA) : Nat → aA
  | 0 => nAz 187 α 0
  | i + 1 => if chv i = 32 then upa (ta α i) 187 (tw i).1 (tw i).2 else ta α i
theorem tw_all : (List.range 152).all (fun i => decide (0 ≤ (tw i).1 ∧ (tw i).1 < 31) && (decide (0 ≤ (tw i).2 ∧ (tw i).2 < 400000000) && (decide (chv i = 32 ∧ (tw i).1 < 30) || decide (chv i ≠ 32 ∧ (tw i).2 < 15000000)))) = true := by decide +kernel
theorem tw_k {i : Nat} (hi : i < 152) : (0 ≤ (tw i).1 ∧ (tw i).1 < 31) ∧ (0 ≤ (tw i).2 ∧ (tw i).2 < 400000000) ∧ ((chv i = 32 ∧ (tw i).1 < 30) ∨ (chv i ≠ 32 ∧ (tw i).2 < 15000000)) := by
  have := List.all_eq_true.mp tw_all i (List.mem_range.mpr hi)
  simp only [Bool.and_eq_true, Bool.or_eq_true, decide_eq_true_eq] at this
  exact this
theorem tw_y {i : Nat} (h : chv i = 32) : tw (i + 1) = ((tw i).1 + 1, 0) := by rw [tw, tstep, if_pos h]
theorem tw_n {i : Nat} (h : ¬ chv i = 32) : tw (i + 1) = ((tw i).1, 27 * (tw i).2 + chv i - 97 + 1) := by rw [tw, tstep, if_neg h]
theorem oiX8_3 : Cond.methodLink RX8 3 Lib.objectInit ∈ lw_tbl := tb1 (List.mem_of_getElem? (i := 236) rfl)
theorem l_tok (hw1 : φ 8 1 186 = 187) : ∀ (r i : Nat), i + r = 152 → Rn (d + 5) mX8_init 24 [(2, 186), (2, 1), (0, (tw i).1), (0, (tw i).2), (0, (i : Int))] [] (KPz Ln 188) φ (ta α i) (0, 0) (eqQ none (KPz Ln 188) φ (ta α 152)) := by
  intro r
  induction r with
  | zero =>
    intro i hi
    have : i = 152 := by omega
    subst this
    refine r_iload (pc' := 26) (kX8_init_0 15 rfl) rfl rfl ?_
    refine r_wlen (k := (0, 0)) (pc' := 31) (kX8_init_0 16 rfl) (kX8_init_0 17 rfl) rfl (Nat.le_of_ble_eq_true rfl) ?_
    refine r_icmp_ge (t := 87) (pc' := 34) (kX8_init_0 18 rfl) rfl rfl (fun _ => ?_) (fun q => by omega)
    exact r_vret (x := 0) (kX8_init_0 47 rfl) rfl ⟨rfl, rfl, rfl, rfl⟩
  | succ r ih =>
    intro i hi
    obtain ⟨b1, b2, b3⟩ := tw_k (i := i) (by omega)
    obtain ⟨-, -, b4⟩ := chv_k (i := i) (by omega)
    have next := ih (i + 1) (by omega)
    refine r_iload (pc' := 26) (kX8_init_0 15 rfl) rfl rfl ?_
    refine r_wlen (k := (0, 0)) (pc' := 31) (kX8_init_0 16 rfl) (kX8_init_0 17 rfl) rfl (Nat.le_of_ble_eq_true rfl) ?_
    refine r_icmp_ge (t := 87) (pc' := 34) (kX8_init_0 18 rfl) rfl rfl (fun q => by omega) (fun _ => ?_)
    refine r_wchr (i := i) (k := (0, 0)) (pc' := 41) (by omega) rfl (kX8_init_0 19 rfl) (kX8_init_0 20 rfl) (kX8_init_0 21 rfl) rfl (Nat.le_of_ble_eq_true rfl) ?_
    refine r_bipush 32 (pc' := 43) (kX8_init_0 22 rfl) rfl ⟨by unfold inR; omega, rfl⟩ ?_
    refine r_icmp_ne (t := 63) (pc' := 46) (kX8_init_0 23 rfl) rfl rfl (fun q => ?_) (fun q => ?_)
    · refine r_bipush 27 (pc' := 65) (kX8_init_0 33 rfl) rfl ⟨by unfold inR; omega, rfl⟩ ?_
      refine r_iload_n (pc' := 66) (kX8_init_0 34 rfl) rfl rfl ?_
      refine r_imul (pc' := 67) (kX8_init_0 35 rfl) rfl (by unfold inR; omega) ?_
      refine r_wchr (i := i) (k := (0, 0)) (pc' := 74) (by omega) rfl (kX8_init_0 36 rfl) (kX8_init_0 37 rfl) (kX8_init_0 38 rfl) rfl (Nat.le_of_ble_eq_true rfl) ?_
      refine r_iadd (pc' := 75) (kX8_init_0 39 rfl) rfl (by unfold inR; omega) ?_
      refine r_bipush 97 (pc' := 77) (kX8_init_0 40 rfl) rfl ⟨by unfold inR; omega, rfl⟩ ?_
      refine r_isub (pc' := 78) (kX8_init_0 41 rfl) rfl (by unfold inR; omega) ?_
      refine r_iconst 1 (pc' := 79) (kX8_init_0 42 rfl) rfl (by unfold inR; omega) ?_
      refine r_iadd (pc' := 80) (kX8_init_0 43 rfl) rfl (by unfold inR; omega) ?_
      refine r_istore_n (L' := [(2, 186), (2, 1), (0, (tw i).1), (0, 27 * (tw i).2 + chv i - 97 + 1), (0, (i : Int))]) (pc' := 81) (kX8_init_0 44 rfl) rfl (Nat.le_of_ble_eq_true rfl) rfl ?_
      refine r_iinc (L' := [(2, 186), (2, 1), (0, (tw i).1), (0, 27 * (tw i).2 + chv i - 97 + 1), (0, (i : Int) + 1)]) (pc' := 84) (kX8_init_0 45 rfl) rfl (Nat.le_of_ble_eq_true rfl) rfl (by unfold inR; omega) rfl ?_
      refine r_goto (pc' := 24) (kX8_init_0 46 rfl) rfl ?_
      rw [tw_n q, ta, if_neg q] at next
      exact next
    · refine r_aload_n (pc' := 47) (kX8_init_0 24 rfl) rfl rfl ?_
      refine r_getv (v := 187) (t := 2) (pc' := 50) (kX8_init_0 25 rfl) rfl fkX8_9 rfl rfl hw1 (fun _ => by omega) ?_
      refine r_iload_n (pc' := 51) (kX8_init_0 26 rfl) rfl rfl ?_
      refine r_iload_n (pc' := 52) (kX8_init_0 27 rfl) rfl rfl ?_
      refine r_callS (d := d + 4) (N := mX10_set) (As := [(2, 187), (0, (tw i).1), (0, (tw i).2)]) (S := []) (pc' := 55) (k1 := (0, 0)) (k2 := (0, 0)) (kX8_init_0 28 rfl) rfl rfl nkX10_set mlX8_31 scX10_set rfl (Nat.le_of_ble_eq_true rfl) (Nat.le_of_ble_eq_true rfl) (k_set rfl (show 0 ≤ (tw i).1 ∧ (tw i).1 < (30 : Nat) by omega)) (fun r K' φ' α' e => ?_)
      obtain ⟨rfl, rfl, rfl, rfl⟩ := e
      show Rn _ _ _ _ [] _ _ _ _ _
      refine r_iinc (L' := [(2, 186), (2, 1), (0, (tw i).1 + 1), (0, (tw i).2), (0, (i : Int))]) (pc' := 58) (kX8_init_0 29 rfl) rfl (Nat.le_of_ble_eq_true rfl) rfl (by unfold inR; omega) rfl ?_
      refine r_iconst 0 (pc' := 59) (kX8_init_0 30 rfl) rfl inR0 ?_
      refine r_istore_n (L' := [(2, 186), (2, 1), (0, (tw i).1 + 1), (0, 0), (0, (i : Int))]) (pc' := 60) (kX8_init_0 31 rfl) rfl (Nat.le_of_ble_eq_true rfl) rfl ?_
      refine r_goto (pc' := 81) (kX8_init_0 32 rfl) rfl ?_
      refine r_iinc (L' := [(2, 186), (2, 1), (0, (tw i).1 + 1), (0, 0), (0, (i : Int) + 1)]) (pc' := 84) (kX8_init_0 45 rfl) rfl (Nat.le_of_ble_eq_true rfl) rfl (by unfold inR; omega) rfl ?_
      refine r_goto (pc' := 24) (kX8_init_0 46 rfl) rfl ?_
      rw [tw_y q, ta, if_pos q] at next
      exact next
def fTok (φ : aF) : aF := upf (upf φ 8 1 186 187) 8 0 186 1
def aTok (α : aA) : aA := ta α 152
theorem k_Tok : Rn (d + 5) mX8_init 0 [(2, 186), (2, 1), (9, 0), (9, 0), (9, 0)] [] (KPz Ln 187) φ α (1, 30) (eqQ none (KPz Ln 188) (fTok φ) (aTok α)) := by
  refine r_aload_n (pc' := 1) (kX8_init_0 0 rfl) rfl rfl ?_
  refine r_obj0 (pc' := 4) (kX8_init_0 1 rfl) rfl oiX8_3 oiI oiC (by omega) (Nat.le_of_ble_eq_true rfl) ?_
  refine r_aload_n (pc' := 5) (kX8_init_0 2 rfl) rfl rfl ?_
  refine r_bipush 30 (pc' := 7) (kX8_init_0 3 rfl) rfl ⟨by unfold inR; omega, rfl⟩ ?_
  refine k_newai (n := 187) (cnt := 30) (pc' := 9) (k := (0, 0)) (kX8_init_0 4 rfl) rfl kai (by omega) rfl ?_
  refine r_putF (pc' := 12) (kX8_init_0 5 rfl) rfl fkX8_9 ffX8_1 rfl pk_arr rfl ?_
  refine r_aload_n (pc' := 13) (kX8_init_0 6 rfl) rfl rfl ?_
  refine r_aload_n (pc' := 14) (kX8_init_0 7 rfl) rfl rfl ?_
  refine r_putF (pc' := 17) (kX8_init_0 8 rfl) rfl fkX8_15 ffX8_0 rfl pk_obj rfl ?_
  refine r_iconst 0 (pc' := 18) (kX8_init_0 9 rfl) rfl inR0 ?_
  refine r_istore_n (L' := [(2, 186), (2, 1), (0, 0), (9, 0), (9, 0)]) (pc' := 19) (kX8_init_0 10 rfl) rfl (Nat.le_of_ble_eq_true rfl) rfl ?_
  refine r_iconst 0 (pc' := 20) (kX8_init_0 11 rfl) rfl inR0 ?_
  refine r_istore_n (L' := [(2, 186), (2, 1), (0, 0), (0, 0), (9, 0)]) (pc' := 21) (kX8_init_0 12 rfl) rfl (Nat.le_of_ble_eq_true rfl) rfl ?_
  refine r_iconst 0 (pc' := 22) (kX8_init_0 13 rfl) rfl inR0 ?_
  refine r_istore (L' := [(2, 186), (2, 1), (0, 0), (0, 0), (0, 0)]) (pc' := 24) (kX8_init_0 14 rfl) rfl (Nat.le_of_ble_eq_true rfl) rfl ?_
  exact l_tok (φ := fTok φ) (by unfold fTok; simp [upf]) 152 0 (by omega)
end KPs
