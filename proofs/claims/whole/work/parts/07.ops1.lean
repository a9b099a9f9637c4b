section OPS
variable {d : Nat} {M : aM} {pc pc' : Nat} {L S : List aV} {K : bK} {φ : aF} {α : aA} {k : Nat × Nat} {Q : bQ}
theorem r_iconst (v : Int) (hd : decode M.2.1 pc = .ok (.iconst v, 1)) (hp : pc + 1 = pc') (g : inR v) (h : Rn d M pc' L ((0, v) :: S) K φ α k Q) : Rn d M pc L S K φ α k Q := by
  intro p l e R s m args below meth c D cA ad b base Ln xs H locs cells slots ls C Wo hS hL vL vS
  subst hp
  exact lv_iconst C.1.1 C.1.2.1 hd rfl (h p l e R s m args below meth c D cA ad b base Ln xs H locs cells slots ls C Wo hS hL vL (vCons g vS))
theorem r_bipush (v : Int) (hd : decode M.2.1 pc = .ok (.bipush v, 2)) (hp : pc + 2 = pc') (g : inR v ∧ (Int8.ofInt v).toInt32 = Int32.ofInt v) (h : Rn d M pc' L ((0, v) :: S) K φ α k Q) : Rn d M pc L S K φ α k Q := by
  intro p l e R s m args below meth c D cA ad b base Ln xs H locs cells slots ls C Wo hS hL vL vS
  subst hp
  exact lv_bipush C.1.1 C.1.2.1 hd g.2 (h p l e R s m args below meth c D cA ad b base Ln xs H locs cells slots ls C Wo hS hL vL (vCons g.1 vS))
theorem r_sipush (v : Int) (hd : decode M.2.1 pc = .ok (.sipush v, 3)) (hp : pc + 3 = pc') (g : inR v ∧ (Int16.ofInt v).toInt32 = Int32.ofInt v) (h : Rn d M pc' L ((0, v) :: S) K φ α k Q) : Rn d M pc L S K φ α k Q := by
  intro p l e R s m args below meth c D cA ad b base Ln xs H locs cells slots ls C Wo hS hL vL vS
  subst hp
  exact lv_sipush C.1.1 C.1.2.1 hd g.2 (h p l e R s m args below meth c D cA ad b base Ln xs H locs cells slots ls C Wo hS hL vL (vCons g.1 vS))
theorem r_lconst {n : Fin 2} (v : Int) (hd : decode M.2.1 pc = .ok (.lconst n, 1)) (hp : pc + 1 = pc') (g : inJ v ∧ Int64.ofNat (n : Nat) = Int64.ofInt v) (h : Rn d M pc' L ((1, v) :: S) K φ α k Q) : Rn d M pc L S K φ α k Q := by
  intro p l e R s m args below meth c D cA ad b base Ln xs H locs cells slots ls C Wo hS hL vL vS
  subst hp
  exact lv_lconst C.1.1 C.1.2.1 hd g.2 (h p l e R s m args below meth c D cA ad b base Ln xs H locs cells slots ls C Wo hS hL vL (vCons g.1 vS))
theorem r_ldc {ix : Nat} (v : Int) (hd : decode M.2.1 pc = .ok (.ldc ix, 2)) (hp : pc + 2 = pc') (hw : Cond.constant M.1.cls ix (Int32.ofInt v) ∈ lw_h) (g : inR v) (h : Rn d M pc' L ((0, v) :: S) K φ α k Q) : Rn d M pc L S K φ α k Q := by
  intro p l e R s m args below meth c D cA ad b base Ln xs H locs cells slots ls C Wo hS hL vL vS
  subst hp
  exact lv_ldc C.1.1 C.1.2.1 C.1.2.2.2.2 (C.2.1 _ hw) hd (h p l e R s m args below meth c D cA ad b base Ln xs H locs cells slots ls C Wo hS hL vL (vCons g vS))
theorem r_ldc2 {ix : Nat} (v : Int) (hd : decode M.2.1 pc = .ok (.ldc2_w ix, 3)) (hp : pc + 3 = pc') (hw : Cond.constantLong M.1.cls ix (Int64.ofInt v) ∈ lw_h) (g : inJ v) (h : Rn d M pc' L ((1, v) :: S) K φ α k Q) : Rn d M pc L S K φ α k Q := by
  intro p l e R s m args below meth c D cA ad b base Ln xs H locs cells slots ls C Wo hS hL vL vS
  subst hp
  exact lv_ldc2 C.1.1 C.1.2.1 C.1.2.2.2.2 (C.2.1 _ hw) hd (h p l e R s m args below meth c D cA ad b base Ln xs H locs cells slots ls C Wo hS hL vL (vCons g vS))
theorem aLs_at {ad : Nat → Nat} {b : Nat} {ls : Array Slot} {nL : Nat} {L : List aV} (h : aLs ad b ls nL L) {i : Nat} {v : aV} (hv : L[i]? = some v) (ht : v.1 ≤ 4) : ls[i]? = some (.val (cv ad b v)) := h.2.2.2 i v hv ht
theorem vAt {n : Nat} {L : List aV} (h : ∀ u ∈ L, vOk n u) {i : Nat} {v : aV} (hv : L[i]? = some v) : vOk n v := h v (List.mem_of_getElem? hv)
theorem r_iload_n {n : Fin 4} {x : Int} (hd : decode M.2.1 pc = .ok (.iload_n n, 1)) (hp : pc + 1 = pc') (hl : L[(n : Nat)]? = some (0, x)) (h : Rn d M pc' L ((0, x) :: S) K φ α k Q) : Rn d M pc L S K φ α k Q := by
  intro p l e R s m args below meth c D cA ad b base Ln xs H locs cells slots ls C Wo hS hL vL vS
  subst hp
  exact lv_iload_n C.1.1 C.1.2.1 hd rfl (aLs_at hL hl (Nat.le_of_ble_eq_true rfl)) (h p l e R s m args below meth c D cA ad b base Ln xs H locs cells slots ls C Wo hS hL vL (vCons (vAt vL hl) vS))
theorem r_iload {n : Nat} {x : Int} (hd : decode M.2.1 pc = .ok (.iload n, 2)) (hp : pc + 2 = pc') (hl : L[n]? = some (0, x)) (h : Rn d M pc' L ((0, x) :: S) K φ α k Q) : Rn d M pc L S K φ α k Q := by
  intro p l e R s m args below meth c D cA ad b base Ln xs H locs cells slots ls C Wo hS hL vL vS
  subst hp
  exact lv_iload C.1.1 C.1.2.1 hd (aLs_at hL hl (Nat.le_of_ble_eq_true rfl)) (h p l e R s m args below meth c D cA ad b base Ln xs H locs cells slots ls C Wo hS hL vL (vCons (vAt vL hl) vS))
theorem r_lload_n {n : Fin 4} {x : Int} (hd : decode M.2.1 pc = .ok (.lload_n n, 1)) (hp : pc + 1 = pc') (hl : L[(n : Nat)]? = some (1, x)) (h : Rn d M pc' L ((1, x) :: S) K φ α k Q) : Rn d M pc L S K φ α k Q := by
  intro p l e R s m args below meth c D cA ad b base Ln xs H locs cells slots ls C Wo hS hL vL vS
  subst hp
  exact lv_lload_n C.1.1 C.1.2.1 hd rfl (aLs_at hL hl (Nat.le_of_ble_eq_true rfl)) (h p l e R s m args below meth c D cA ad b base Ln xs H locs cells slots ls C Wo hS hL vL (vCons (vAt vL hl) vS))
theorem r_lload {n : Nat} {x : Int} (hd : decode M.2.1 pc = .ok (.lload n, 2)) (hp : pc + 2 = pc') (hl : L[n]? = some (1, x)) (h : Rn d M pc' L ((1, x) :: S) K φ α k Q) : Rn d M pc L S K φ α k Q := by
  intro p l e R s m args below meth c D cA ad b base Ln xs H locs cells slots ls C Wo hS hL vL vS
  subst hp
  exact lv_lload C.1.1 C.1.2.1 hd (aLs_at hL hl (Nat.le_of_ble_eq_true rfl)) (h p l e R s m args below meth c D cA ad b base Ln xs H locs cells slots ls C Wo hS hL vL (vCons (vAt vL hl) vS))
theorem r_aload_n {n : Fin 4} {x : Int} (hd : decode M.2.1 pc = .ok (.aload_n n, 1)) (hp : pc + 1 = pc') (hl : L[(n : Nat)]? = some (2, x)) (h : Rn d M pc' L ((2, x) :: S) K φ α k Q) : Rn d M pc L S K φ α k Q := by
  intro p l e R s m args below meth c D cA ad b base Ln xs H locs cells slots ls C Wo hS hL vL vS
  subst hp
  exact lv_aload_n C.1.1 C.1.2.1 hd rfl (aLs_at hL hl (Nat.le_of_ble_eq_true rfl)) (h p l e R s m args below meth c D cA ad b base Ln xs H locs cells slots ls C Wo hS hL vL (vCons (vAt vL hl) vS))
theorem r_aload {n : Nat} {x : Int} (hd : decode M.2.1 pc = .ok (.aload n, 2)) (hp : pc + 2 = pc') (hl : L[n]? = some (2, x)) (h : Rn d M pc' L ((2, x) :: S) K φ α k Q) : Rn d M pc L S K φ α k Q := by
  intro p l e R s m args below meth c D cA ad b base Ln xs H locs cells slots ls C Wo hS hL vL vS
  subst hp
  exact lv_aload C.1.1 C.1.2.1 hd (aLs_at hL hl (Nat.le_of_ble_eq_true rfl)) (h p l e R s m args below meth c D cA ad b base Ln xs H locs cells slots ls C Wo hS hL vL (vCons (vAt vL hl) vS))
theorem r_sload_n {n : Fin 4} {x : Int} (hd : decode M.2.1 pc = .ok (.aload_n n, 1)) (hp : pc + 1 = pc') (hl : L[(n : Nat)]? = some (4, x)) (h : Rn d M pc' L ((4, x) :: S) K φ α k Q) : Rn d M pc L S K φ α k Q := by
  intro p l e R s m args below meth c D cA ad b base Ln xs H locs cells slots ls C Wo hS hL vL vS
  subst hp
  exact lv_aload_n C.1.1 C.1.2.1 hd rfl (aLs_at hL hl (Nat.le_of_ble_eq_true rfl)) (h p l e R s m args below meth c D cA ad b base Ln xs H locs cells slots ls C Wo hS hL vL (vCons (vAt vL hl) vS))
/-- the listed values of a list of locals -/
def aLv (ad : Nat → Nat) (b : Nat) (L : List aV) : List (Nat × Value) := (List.range L.length).filterMap (fun i => match L[i]? with
  | some v => if v.1 ≤ 4 then some (i, cv ad b v) else none
  | none => none)
theorem aLv_mem {ad : Nat → Nat} {b : Nat} {L : List aV} {i : Nat} {v : aV} (h : L[i]? = some v) (ht : v.1 ≤ 4) : (i, cv ad b v) ∈ aLv ad b L := by
  unfold aLv
  refine List.mem_filterMap.mpr ⟨i, List.mem_range.mpr (List.getElem?_eq_some_iff.mp h).1, ?_⟩
  simp [h, ht]
theorem aLv_has {ad : Nat → Nat} {b : Nat} {ls : Array Slot} {nL : Nat} {L : List aV} (h : aLs ad b ls nL L) : lv_has ls nL (aLv ad b L) := by
  refine ⟨h.1, h.2.1, ?_⟩
  intro q hq
  unfold aLv at hq
  obtain ⟨i, hi, he⟩ := List.mem_filterMap.mp hq
  have hi := List.mem_range.mp hi
  rw [List.getElem?_eq_getElem hi] at he
  simp only at he
  split at he
  · cases he
    exact h.2.2.2 i _ (List.getElem?_eq_getElem hi) (by assumption)
  · cases he
theorem aSt1_len (i : Nat) (v : aV) (L : List aV) : (aSt1 i v L).length = L.length := by
  induction i, v, L using aSt1.induct <;> simp_all [aSt1]
theorem aSt1_at (L : List aV) : ∀ (i : Nat) (v : aV) (j : Nat) (u : aV), (aSt1 i v L)[j]? = some u → u.1 ≤ 4 → (j = i ∧ u = v) ∨ (j ≠ i ∧ L[j]? = some u ∧ ¬ (j + 1 = i ∧ u.1 = 1)) := by
  induction L with
  | nil => intro i v j u h; simp [aSt1] at h
  | cons x t ih =>
    intro i v j u h ht
    match i, j with
    | 0, 0 => simp [aSt1] at h; exact Or.inl ⟨rfl, h.symm⟩
    | 0, j + 1 => simp [aSt1] at h; exact Or.inr ⟨by omega, by simpa using h, by omega⟩
    | 1, 0 =>
      refine Or.inr ⟨by omega, ?_⟩
      simp only [aSt1, List.getElem?_cons_zero, Option.some.injEq] at h ⊢
      by_cases hb : x.1 = 1
      · rw [hb] at h
        have h : ((9, 0) : aV) = u := h
        subst h; exact absurd ht (by decide)
      · have : Nat.beq x.1 1 = false := Bool.eq_false_iff.mpr (fun q => hb (Nat.eq_of_beq_eq_true q))
        rw [this] at h
        have h : x = u := h
        subst h
        exact ⟨rfl, fun q => hb q.2⟩
    | 1, j + 1 =>
      simp only [aSt1, List.getElem?_cons_succ] at h
      rcases ih 0 v j u h ht with ⟨a, b⟩ | ⟨a, b, c⟩
      · exact Or.inl ⟨by omega, b⟩
      · exact Or.inr ⟨by omega, by simpa using b, fun q => c ⟨by omega, q.2⟩⟩
    | i + 2, 0 =>
      simp [aSt1] at h
      exact Or.inr ⟨by omega, by simp [h], by omega⟩
    | i + 2, j + 1 =>
      simp only [aSt1, List.getElem?_cons_succ] at h
      rcases ih (i + 1) v j u h ht with ⟨a, b⟩ | ⟨a, b, c⟩
      · exact Or.inl ⟨by omega, b⟩
      · exact Or.inr ⟨by omega, by simpa using b, fun q => c ⟨by omega, q.2⟩⟩
theorem cv_cat {ad : Nat → Nat} {b : Nat} {v : aV} (h : ¬ v.1 = 1) : (cv ad b v).category = 1 := by
  unfold cv
  split <;> simp_all [Value.category]
theorem aLs_st1 {ad : Nat → Nat} {b : Nat} {ls ls' : Array Slot} {nL i : Nat} {v : aV} {L : List aV} (h : aLs ad b ls nL L) (hi : i < nL) (h' : lv_has ls' nL ((i, cv ad b v) :: (aLv ad b L).filter (fun q => !(q.1 == i) && !(q.1 + 1 == i && q.2.category == 2)))) : aLs ad b ls' nL (aSt1 i v L) := by
  refine ⟨h'.1, h'.2.1, by rw [aSt1_len]; exact h.2.2.1, fun j u hu ht => ?_⟩
  rcases aSt1_at L i v j u hu ht with ⟨rfl, rfl⟩ | ⟨a, b1, c⟩
  · exact h'.2.2 _ List.mem_cons_self
  · refine h'.2.2 (j, cv ad b u) (List.mem_cons_of_mem _ (List.mem_filter.mpr ⟨aLv_mem b1 ht, ?_⟩))
    by_cases e : j + 1 = i
    · have hc : (cv ad b u).category = 1 := cv_cat (fun q => c ⟨e, q⟩)
      simp [a, hc]
    · simp [a, e]
theorem aSt1_ok {n i : Nat} {v : aV} {L : List aV} (hv : vOk n v) (h : ∀ u ∈ L, vOk n u) : ∀ u ∈ aSt1 i v L, vOk n u := by
  intro u hu
  by_cases ht : u.1 ≤ 4
  · obtain ⟨j, hj⟩ := List.getElem?_of_mem hu
    rcases aSt1_at L i v j u hj ht with ⟨-, rfl⟩ | ⟨-, b, -⟩
    · exact hv
    · exact vAt h b
  · unfold vOk
    split <;> first | trivial | omega
theorem aSt2_len (i : Nat) (v : aV) (L : List aV) : (aSt2 i v L).length = L.length := by
  induction i, v, L using aSt2.induct <;> simp_all [aSt2]
theorem aSt2_at (L : List aV) : ∀ (i : Nat) (v : aV), i + 1 < L.length → ∀ (j : Nat) (u : aV), (aSt2 i v L)[j]? = some u → u.1 ≤ 4 → (j = i ∧ u = v) ∨ (j ≠ i ∧ j ≠ i + 1 ∧ L[j]? = some u ∧ ¬ (j + 1 = i ∧ u.1 = 1)) := by
  induction L with
  | nil => intro i v hi; simp at hi
  | cons x t ih =>
    intro i v hi j u h ht
    match t, ih, hi, h with
    | [], _, hi, _ => simp at hi
    | y :: t, ih, hi, h =>
    match i, j with
    | 0, 0 => simp [aSt2] at h; exact Or.inl ⟨rfl, h.symm⟩
    | 0, 1 => simp [aSt2] at h; subst h; exact absurd ht (by decide)
    | 0, j + 2 => simp [aSt2] at h; exact Or.inr ⟨by omega, by omega, by simpa using h, by omega⟩
    | 1, 0 =>
      refine Or.inr ⟨by omega, by omega, ?_⟩
      simp only [aSt2, List.getElem?_cons_zero, Option.some.injEq] at h ⊢
      by_cases hb : x.1 = 1
      · rw [hb] at h
        have h : ((9, 0) : aV) = u := h
        subst h; exact absurd ht (by decide)
      · have : Nat.beq x.1 1 = false := Bool.eq_false_iff.mpr (fun q => hb (Nat.eq_of_beq_eq_true q))
        rw [this] at h
        have h : x = u := h
        subst h
        exact ⟨rfl, fun q => hb q.2⟩
    | 1, j + 1 =>
      simp only [aSt2, List.getElem?_cons_succ] at h
      rcases ih 0 v (by simp at hi ⊢; omega) j u h ht with ⟨a, b⟩ | ⟨a, a2, b, c⟩
      · exact Or.inl ⟨by omega, b⟩
      · exact Or.inr ⟨by omega, by omega, by simpa using b, fun q => c ⟨by omega, q.2⟩⟩
    | i + 2, 0 =>
      simp [aSt2] at h
      exact Or.inr ⟨by omega, by omega, by simp [h], by omega⟩
    | i + 2, j + 1 =>
      simp only [aSt2, List.getElem?_cons_succ] at h
      rcases ih (i + 1) v (by simp at hi ⊢; omega) j u h ht with ⟨a, b⟩ | ⟨a, a2, b, c⟩
      · exact Or.inl ⟨by omega, b⟩
      · exact Or.inr ⟨by omega, by omega, by simpa using b, fun q => c ⟨by omega, q.2⟩⟩
theorem aLs_st2 {ad : Nat → Nat} {b : Nat} {ls ls' : Array Slot} {nL i : Nat} {v : aV} {L : List aV} (h : aLs ad b ls nL L) (hi : i + 1 < nL) (h' : lv_has ls' nL ((i, cv ad b v) :: (aLv ad b L).filter (fun q => !(q.1 == i) && (!(q.1 == i + 1) && !(q.1 + 1 == i && q.2.category == 2))))) : aLs ad b ls' nL (aSt2 i v L) := by
  refine ⟨h'.1, h'.2.1, by rw [aSt2_len]; exact h.2.2.1, fun j u hu ht => ?_⟩
  rcases aSt2_at L i v (by rw [h.2.2.1]; exact hi) j u hu ht with ⟨rfl, rfl⟩ | ⟨a, a2, b1, c⟩
  · exact h'.2.2 _ List.mem_cons_self
  · refine h'.2.2 (j, cv ad b u) (List.mem_cons_of_mem _ (List.mem_filter.mpr ⟨aLv_mem b1 ht, ?_⟩))
    by_cases e : j + 1 = i
    · have hc : (cv ad b u).category = 1 := cv_cat (fun q => c ⟨e, q⟩)
      simp [a, a2, hc]
    · simp [a, a2, e]
theorem aSt2_ok {n i : Nat} {v : aV} {L : List aV} (hi : i + 1 < L.length) (hv : vOk n v) (h : ∀ u ∈ L, vOk n u) : ∀ u ∈ aSt2 i v L, vOk n u := by
  intro u hu
  by_cases ht : u.1 ≤ 4
  · obtain ⟨j, hj⟩ := List.getElem?_of_mem hu
    rcases aSt2_at L i v hi j u hj ht with ⟨-, rfl⟩ | ⟨-, -, b, -⟩
    · exact hv
    · exact vAt h b
  · unfold vOk
    split <;> first | trivial | omega
theorem r_istore_n {n : Fin 4} {x : Int} {L' : List aV} (hd : decode M.2.1 pc = .ok (.istore_n n, 1)) (hp : pc + 1 = pc') (hi : (n : Nat) < M.2.2.1) (hl : aSt1 (n : Nat) (0, x) L = L') (h : Rn d M pc' L' S K φ α k Q) : Rn d M pc L ((0, x) :: S) K φ α k Q := by
  intro p l e R s m args below meth c D cA ad b base Ln xs H locs cells slots ls C Wo hS hL vL vS
  subst hp
  subst hl
  exact lv_istore_n C.1.1 C.1.2.1 hd rfl (aLv_has hL) hi rfl (fun ls' hl' => h p l e R s m args below meth c D cA ad b base Ln xs H locs cells slots ls' C Wo hS (aLs_st1 (v := (0, x)) hL hi hl') (aSt1_ok (vHd vS) vL) (vTl vS))
theorem r_istore {n : Nat} {x : Int} {L' : List aV} (hd : decode M.2.1 pc = .ok (.istore n, 2)) (hp : pc + 2 = pc') (hi : n < M.2.2.1) (hl : aSt1 n (0, x) L = L') (h : Rn d M pc' L' S K φ α k Q) : Rn d M pc L ((0, x) :: S) K φ α k Q := by
  intro p l e R s m args below meth c D cA ad b base Ln xs H locs cells slots ls C Wo hS hL vL vS
  subst hp
  subst hl
  exact lv_istore C.1.1 C.1.2.1 hd (aLv_has hL) hi rfl (fun ls' hl' => h p l e R s m args below meth c D cA ad b base Ln xs H locs cells slots ls' C Wo hS (aLs_st1 (v := (0, x)) hL hi hl') (aSt1_ok (vHd vS) vL) (vTl vS))
theorem r_astore_n {n : Fin 4} {x : Int} {L' : List aV} (hd : decode M.2.1 pc = .ok (.astore_n n, 1)) (hp : pc + 1 = pc') (hi : (n : Nat) < M.2.2.1) (hl : aSt1 (n : Nat) (2, x) L = L') (h : Rn d M pc' L' S K φ α k Q) : Rn d M pc L ((2, x) :: S) K φ α k Q := by
  intro p l e R s m args below meth c D cA ad b base Ln xs H locs cells slots ls C Wo hS hL vL vS
  subst hp
  subst hl
  exact lv_astore_n C.1.1 C.1.2.1 hd rfl (aLv_has hL) hi rfl (fun ls' hl' => h p l e R s m args below meth c D cA ad b base Ln xs H locs cells slots ls' C Wo hS (aLs_st1 (v := (2, x)) hL hi hl') (aSt1_ok (vHd vS) vL) (vTl vS))
theorem r_astore {n : Nat} {x : Int} {L' : List aV} (hd : decode M.2.1 pc = .ok (.astore n, 2)) (hp : pc + 2 = pc') (hi : n < M.2.2.1) (hl : aSt1 n (2, x) L = L') (h : Rn d M pc' L' S K φ α k Q) : Rn d M pc L ((2, x) :: S) K φ α k Q := by
  intro p l e R s m args below meth c D cA ad b base Ln xs H locs cells slots ls C Wo hS hL vL vS
  subst hp
  subst hl
  exact lv_astore C.1.1 C.1.2.1 hd (aLv_has hL) hi rfl (fun ls' hl' => h p l e R s m args below meth c D cA ad b base Ln xs H locs cells slots ls' C Wo hS (aLs_st1 (v := (2, x)) hL hi hl') (aSt1_ok (vHd vS) vL) (vTl vS))
theorem r_lstore_n {n : Fin 4} {x : Int} {L' : List aV} (hd : decode M.2.1 pc = .ok (.lstore_n n, 1)) (hp : pc + 1 = pc') (hi : (n : Nat) + 1 < M.2.2.1) (hl : aSt2 (n : Nat) (1, x) L = L') (h : Rn d M pc' L' S K φ α k Q) : Rn d M pc L ((1, x) :: S) K φ α k Q := by
  intro p l e R s m args below meth c D cA ad b base Ln xs H locs cells slots ls C Wo hS hL vL vS
  subst hp
  subst hl
  exact lv_lstore_n C.1.1 C.1.2.1 hd rfl (aLv_has hL) hi rfl (fun ls' hl' => h p l e R s m args below meth c D cA ad b base Ln xs H locs cells slots ls' C Wo hS (aLs_st2 (v := (1, x)) hL hi hl') (aSt2_ok (by rw [hL.2.2.1]; exact hi) (vHd vS) vL) (vTl vS))
theorem r_lstore {n : Nat} {x : Int} {L' : List aV} (hd : decode M.2.1 pc = .ok (.lstore n, 2)) (hp : pc + 2 = pc') (hi : n + 1 < M.2.2.1) (hl : aSt2 n (1, x) L = L') (h : Rn d M pc' L' S K φ α k Q) : Rn d M pc L ((1, x) :: S) K φ α k Q := by
  intro p l e R s m args below meth c D cA ad b base Ln xs H locs cells slots ls C Wo hS hL vL vS
  subst hp
  subst hl
  exact lv_lstore C.1.1 C.1.2.1 hd (aLv_has hL) hi rfl (fun ls' hl' => h p l e R s m args below meth c D cA ad b base Ln xs H locs cells slots ls' C Wo hS (aLs_st2 (v := (1, x)) hL hi hl') (aSt2_ok (by rw [hL.2.2.1]; exact hi) (vHd vS) vL) (vTl vS))
theorem r_iinc {n : Nat} {w x : Int} {L' : List aV} (hd : decode M.2.1 pc = .ok (.iinc n w, 3)) (hp : pc + 3 = pc') (hi : n < M.2.2.1) (hx : L[n]? = some (0, x)) (g : inR (x + w)) (hl : aSt1 n (0, x + w) L = L') (h : Rn d M pc' L' S K φ α k Q) : Rn d M pc L S K φ α k Q := by
  intro p l e R s m args below meth c D cA ad b base Ln xs H locs cells slots ls C Wo hS hL vL vS
  subst hp
  subst hl
  obtain ⟨j, hj⟩ := List.getElem?_of_mem (aLv_mem (ad := ad) (b := b) hx (Nat.le_of_ble_eq_true rfl))
  exact lv_iinc (k := j) C.1.1 C.1.2.1 hd (aLv_has hL) hj (i32of_add x w) hi rfl (fun ls' hl' => h p l e R s m args below meth c D cA ad b base Ln xs H locs cells slots ls' C Wo hS (aLs_st1 (v := (0, x + w)) hL hi hl') (aSt1_ok g vL) vS)
theorem r_iadd {x y : Int} (hd : decode M.2.1 pc = .ok (.iadd, 1)) (hp : pc + 1 = pc') (g : inR (x + y)) (h : Rn d M pc' L ((0, x + y) :: S) K φ α k Q) : Rn d M pc L ((0, y) :: (0, x) :: S) K φ α k Q := by
  intro p l e R s m args below meth c D cA ad b base Ln xs H locs cells slots ls C Wo hS hL vL vS
  subst hp
  refine lv_iadd C.1.1 C.1.2.1 hd ?_
  rw [i32of_add]
  exact h p l e R s m args below meth c D cA ad b base Ln xs H locs cells slots ls C Wo hS hL vL (vCons g (vTl (vTl vS)))
theorem r_isub {x y : Int} (hd : decode M.2.1 pc = .ok (.isub, 1)) (hp : pc + 1 = pc') (g : inR (x - y)) (h : Rn d M pc' L ((0, x - y) :: S) K φ α k Q) : Rn d M pc L ((0, y) :: (0, x) :: S) K φ α k Q := by
  intro p l e R s m args below meth c D cA ad b base Ln xs H locs cells slots ls C Wo hS hL vL vS
  subst hp
  refine lv_isub C.1.1 C.1.2.1 hd ?_
  rw [i32of_sub]
  exact h p l e R s m args below meth c D cA ad b base Ln xs H locs cells slots ls C Wo hS hL vL (vCons g (vTl (vTl vS)))
theorem r_imul {x y : Int} (hd : decode M.2.1 pc = .ok (.imul, 1)) (hp : pc + 1 = pc') (g : inR (x * y)) (h : Rn d M pc' L ((0, x * y) :: S) K φ α k Q) : Rn d M pc L ((0, y) :: (0, x) :: S) K φ α k Q := by
  intro p l e R s m args below meth c D cA ad b base Ln xs H locs cells slots ls C Wo hS hL vL vS
  subst hp
  refine lv_imul C.1.1 C.1.2.1 hd ?_
  rw [i32of_mul]
  exact h p l e R s m args below meth c D cA ad b base Ln xs H locs cells slots ls C Wo hS hL vL (vCons g (vTl (vTl vS)))
theorem r_ladd {x y : Int} (hd : decode M.2.1 pc = .ok (.ladd, 1)) (hp : pc + 1 = pc') (g : inJ (x + y)) (h : Rn d M pc' L ((1, x + y) :: S) K φ α k Q) : Rn d M pc L ((1, y) :: (1, x) :: S) K φ α k Q := by
  intro p l e R s m args below meth c D cA ad b base Ln xs H locs cells slots ls C Wo hS hL vL vS
  subst hp
  refine lv_ladd C.1.1 C.1.2.1 hd ?_
  rw [i64of_add]
  exact h p l e R s m args below meth c D cA ad b base Ln xs H locs cells slots ls C Wo hS hL vL (vCons g (vTl (vTl vS)))
theorem r_lsub {x y : Int} (hd : decode M.2.1 pc = .ok (.lsub, 1)) (hp : pc + 1 = pc') (g : inJ (x - y)) (h : Rn d M pc' L ((1, x - y) :: S) K φ α k Q) : Rn d M pc L ((1, y) :: (1, x) :: S) K φ α k Q := by
  intro p l e R s m args below meth c D cA ad b base Ln xs H locs cells slots ls C Wo hS hL vL vS
  subst hp
  refine lv_lsub C.1.1 C.1.2.1 hd ?_
  rw [i64of_sub]
  exact h p l e R s m args below meth c D cA ad b base Ln xs H locs cells slots ls C Wo hS hL vL (vCons g (vTl (vTl vS)))
theorem r_lmul {x y : Int} (hd : decode M.2.1 pc = .ok (.lmul, 1)) (hp : pc + 1 = pc') (g : inJ (x * y)) (h : Rn d M pc' L ((1, x * y) :: S) K φ α k Q) : Rn d M pc L ((1, y) :: (1, x) :: S) K φ α k Q := by
  intro p l e R s m args below meth c D cA ad b base Ln xs H locs cells slots ls C Wo hS hL vL vS
  subst hp
  refine lv_lmul C.1.1 C.1.2.1 hd ?_
  rw [i64of_mul]
  exact h p l e R s m args below meth c D cA ad b base Ln xs H locs cells slots ls C Wo hS hL vL (vCons g (vTl (vTl vS)))
theorem r_ineg {x : Int} (hd : decode M.2.1 pc = .ok (.ineg, 1)) (hp : pc + 1 = pc') (g : inR (-x)) (h : Rn d M pc' L ((0, -x) :: S) K φ α k Q) : Rn d M pc L ((0, x) :: S) K φ α k Q := by
  intro p l e R s m args below meth c D cA ad b base Ln xs H locs cells slots ls C Wo hS hL vL vS
  subst hp
  refine lv_ineg C.1.1 C.1.2.1 hd ?_
  rw [i32of_neg]
  exact h p l e R s m args below meth c D cA ad b base Ln xs H locs cells slots ls C Wo hS hL vL (vCons g (vTl vS))
theorem of_ne0_i {y : Int} (hy : inR y) (h : y ≠ 0) : ¬ Int32.ofInt y = 0 := by
  intro q
  have := congrArg Int32.toInt q
  rw [ofInt_toInt32 hy] at this
  exact h (by simpa using this)
theorem r_idiv {x y : Int} (hd : decode M.2.1 pc = .ok (.idiv, 1)) (hp : pc + 1 = pc') (g : y ≠ 0 ∧ inR (x.tdiv y)) (h : Rn d M pc' L ((0, x.tdiv y) :: S) K φ α k Q) : Rn d M pc L ((0, y) :: (0, x) :: S) K φ α k Q := by
  intro p l e R s m args below meth c D cA ad b base Ln xs H locs cells slots ls C Wo hS hL vL vS
  subst hp
  refine lv_idiv C.1.1 C.1.2.1 hd (of_ne0_i (vHd vS) g.1) ?_
  rw [i32of_div (vHd (vTl vS)) (vHd vS)]
  exact h p l e R s m args below meth c D cA ad b base Ln xs H locs cells slots ls C Wo hS hL vL (vCons g.2 (vTl (vTl vS)))
theorem r_irem {x y : Int} (hd : decode M.2.1 pc = .ok (.irem, 1)) (hp : pc + 1 = pc') (g : y ≠ 0 ∧ inR (x.tmod y)) (h : Rn d M pc' L ((0, x.tmod y) :: S) K φ α k Q) : Rn d M pc L ((0, y) :: (0, x) :: S) K φ α k Q := by
  intro p l e R s m args below meth c D cA ad b base Ln xs H locs cells slots ls C Wo hS hL vL vS
  subst hp
  refine lv_irem C.1.1 C.1.2.1 hd (of_ne0_i (vHd vS) g.1) ?_
  rw [i32of_rem (vHd (vTl vS)) (vHd vS)]
  exact h p l e R s m args below meth c D cA ad b base Ln xs H locs cells slots ls C Wo hS hL vL (vCons g.2 (vTl (vTl vS)))
theorem of_ne0_l {y : Int} (hy : inJ y) (h : y ≠ 0) : ¬ Int64.ofInt y = 0 := by
  intro q
  have := congrArg Int64.toInt q
  rw [ofInt_toInt64 hy] at this
  exact h (by simpa using this)
theorem r_ldiv {x y : Int} (hd : decode M.2.1 pc = .ok (.ldiv, 1)) (hp : pc + 1 = pc') (g : y ≠ 0 ∧ inJ (x.tdiv y)) (h : Rn d M pc' L ((1, x.tdiv y) :: S) K φ α k Q) : Rn d M pc L ((1, y) :: (1, x) :: S) K φ α k Q := by
  intro p l e R s m args below meth c D cA ad b base Ln xs H locs cells slots ls C Wo hS hL vL vS
  subst hp
  refine lv_ldiv C.1.1 C.1.2.1 hd (of_ne0_l (vHd vS) g.1) ?_
  rw [i64of_div (vHd (vTl vS)) (vHd vS)]
  exact h p l e R s m args below meth c D cA ad b base Ln xs H locs cells slots ls C Wo hS hL vL (vCons g.2 (vTl (vTl vS)))
theorem r_lrem {x y : Int} (hd : decode M.2.1 pc = .ok (.lrem, 1)) (hp : pc + 1 = pc') (g : y ≠ 0 ∧ inJ (x.tmod y)) (h : Rn d M pc' L ((1, x.tmod y) :: S) K φ α k Q) : Rn d M pc L ((1, y) :: (1, x) :: S) K φ α k Q := by
  intro p l e R s m args below meth c D cA ad b base Ln xs H locs cells slots ls C Wo hS hL vL vS
  subst hp
  refine lv_lrem C.1.1 C.1.2.1 hd (of_ne0_l (vHd vS) g.1) ?_
  rw [i64of_rem (vHd (vTl vS)) (vHd vS)]
  exact h p l e R s m args below meth c D cA ad b base Ln xs H locs cells slots ls C Wo hS hL vL (vCons g.2 (vTl (vTl vS)))
theorem r_iand {x y : Int} (hd : decode M.2.1 pc = .ok (.iand, 1)) (hp : pc + 1 = pc') (h : Rn d M pc' L ((0, iAnd x y) :: S) K φ α k Q) : Rn d M pc L ((0, y) :: (0, x) :: S) K φ α k Q := by
  intro p l e R s m args below meth c D cA ad b base Ln xs H locs cells slots ls C Wo hS hL vL vS
  subst hp
  refine lv_iand C.1.1 C.1.2.1 hd ?_
  rw [← congrArg Value.int (ofInt_toInt _)]
  exact h p l e R s m args below meth c D cA ad b base Ln xs H locs cells slots ls C Wo hS hL vL (vCons (v := (0, iAnd x y)) (toInt_inR _) (vTl (vTl vS)))
theorem r_ior {x y : Int} (hd : decode M.2.1 pc = .ok (.ior, 1)) (hp : pc + 1 = pc') (h : Rn d M pc' L ((0, iOr x y) :: S) K φ α k Q) : Rn d M pc L ((0, y) :: (0, x) :: S) K φ α k Q := by
  intro p l e R s m args below meth c D cA ad b base Ln xs H locs cells slots ls C Wo hS hL vL vS
  subst hp
  refine lv_ior C.1.1 C.1.2.1 hd ?_
  rw [← congrArg Value.int (ofInt_toInt _)]
  exact h p l e R s m args below meth c D cA ad b base Ln xs H locs cells slots ls C Wo hS hL vL (vCons (v := (0, iOr x y)) (toInt_inR _) (vTl (vTl vS)))
theorem r_ixor {x y : Int} (hd : decode M.2.1 pc = .ok (.ixor, 1)) (hp : pc + 1 = pc') (h : Rn d M pc' L ((0, iXor x y) :: S) K φ α k Q) : Rn d M pc L ((0, y) :: (0, x) :: S) K φ α k Q := by
  intro p l e R s m args below meth c D cA ad b base Ln xs H locs cells slots ls C Wo hS hL vL vS
  subst hp
  refine lv_ixor C.1.1 C.1.2.1 hd ?_
  rw [← congrArg Value.int (ofInt_toInt _)]
  exact h p l e R s m args below meth c D cA ad b base Ln xs H locs cells slots ls C Wo hS hL vL (vCons (v := (0, iXor x y)) (toInt_inR _) (vTl (vTl vS)))
theorem r_ishl {x y : Int} (hd : decode M.2.1 pc = .ok (.ishl, 1)) (hp : pc + 1 = pc') (h : Rn d M pc' L ((0, iShl x y) :: S) K φ α k Q) : Rn d M pc L ((0, y) :: (0, x) :: S) K φ α k Q := by
  intro p l e R s m args below meth c D cA ad b base Ln xs H locs cells slots ls C Wo hS hL vL vS
  subst hp
  refine lv_ishl C.1.1 C.1.2.1 hd ?_
  rw [← congrArg Value.int (ofInt_toInt _)]
  exact h p l e R s m args below meth c D cA ad b base Ln xs H locs cells slots ls C Wo hS hL vL (vCons (v := (0, iShl x y)) (toInt_inR _) (vTl (vTl vS)))
theorem r_ishr {x y : Int} (hd : decode M.2.1 pc = .ok (.ishr, 1)) (hp : pc + 1 = pc') (h : Rn d M pc' L ((0, iShr x y) :: S) K φ α k Q) : Rn d M pc L ((0, y) :: (0, x) :: S) K φ α k Q := by
  intro p l e R s m args below meth c D cA ad b base Ln xs H locs cells slots ls C Wo hS hL vL vS
  subst hp
  refine lv_ishr C.1.1 C.1.2.1 hd ?_
  rw [← congrArg Value.int (ofInt_toInt _)]
  exact h p l e R s m args below meth c D cA ad b base Ln xs H locs cells slots ls C Wo hS hL vL (vCons (v := (0, iShr x y)) (toInt_inR _) (vTl (vTl vS)))
theorem r_iushr {x y : Int} (hd : decode M.2.1 pc = .ok (.iushr, 1)) (hp : pc + 1 = pc') (h : Rn d M pc' L ((0, iUshr x y) :: S) K φ α k Q) : Rn d M pc L ((0, y) :: (0, x) :: S) K φ α k Q := by
  intro p l e R s m args below meth c D cA ad b base Ln xs H locs cells slots ls C Wo hS hL vL vS
  subst hp
  refine lv_iushr C.1.1 C.1.2.1 hd (ofInt_toInt _).symm ?_
  exact h p l e R s m args below meth c D cA ad b base Ln xs H locs cells slots ls C Wo hS hL vL (vCons (v := (0, iUshr x y)) (toInt_inR _) (vTl (vTl vS)))
theorem r_land {x y : Int} (hd : decode M.2.1 pc = .ok (.land, 1)) (hp : pc + 1 = pc') (h : Rn d M pc' L ((1, jAnd x y) :: S) K φ α k Q) : Rn d M pc L ((1, y) :: (1, x) :: S) K φ α k Q := by
  intro p l e R s m args below meth c D cA ad b base Ln xs H locs cells slots ls C Wo hS hL vL vS
  subst hp
  refine lv_land C.1.1 C.1.2.1 hd ?_
  rw [← congrArg Value.long (i64ofInt_toInt _)]
  exact h p l e R s m args below meth c D cA ad b base Ln xs H locs cells slots ls C Wo hS hL vL (vCons (v := (1, jAnd x y)) (toInt_inJ _) (vTl (vTl vS)))
theorem inR_inJ {x : Int} (h : inR x) : inJ x := by unfold inR at h; unfold inJ; omega
theorem i2l_of {x : Int} (h : inR x) : (Int32.ofInt x).toInt64 = Int64.ofInt x := by
  apply Int64.toInt_inj.mp
  rw [Int32.toInt_toInt64, ofInt_toInt32 h, ofInt_toInt64 (inR_inJ h)]
theorem l2i_of {x : Int} (h : inJ x) : (Int64.ofInt x).toInt32 = Int32.ofInt x := by
  apply Int32.toInt_inj.mp
  rw [Int64.toInt_toInt32, ofInt_toInt64 h, Int32.toInt_ofInt]
theorem r_i2l {x : Int} (hd : decode M.2.1 pc = .ok (.i2l, 1)) (hp : pc + 1 = pc') (h : Rn d M pc' L ((1, x) :: S) K φ α k Q) : Rn d M pc L ((0, x) :: S) K φ α k Q := by
  intro p l e R s m args below meth c D cA ad b base Ln xs H locs cells slots ls C Wo hS hL vL vS
  subst hp
  exact lv_i2l C.1.1 C.1.2.1 hd (i2l_of (vHd vS)) (h p l e R s m args below meth c D cA ad b base Ln xs H locs cells slots ls C Wo hS hL vL (vCons (v := (1, x)) (inR_inJ (vHd vS)) (vTl vS)))
theorem r_l2i {x : Int} (hd : decode M.2.1 pc = .ok (.l2i, 1)) (hp : pc + 1 = pc') (g : inR x) (h : Rn d M pc' L ((0, x) :: S) K φ α k Q) : Rn d M pc L ((1, x) :: S) K φ α k Q := by
  intro p l e R s m args below meth c D cA ad b base Ln xs H locs cells slots ls C Wo hS hL vL vS
  subst hp
  exact lv_l2i C.1.1 C.1.2.1 hd (l2i_of (vHd vS)) (h p l e R s m args below meth c D cA ad b base Ln xs H locs cells slots ls C Wo hS hL vL (vCons g (vTl vS)))
theorem j3_of {x y : Int} (hx : inJ x) (hy : inJ y) : lg_cmp (Int64.ofInt x) (Int64.ofInt y) = Int32.ofInt (j3 x y) := by
  unfold lg_cmp j3
  by_cases h : y < x
  · rw [if_pos h, if_pos (show Int64.ofInt x > Int64.ofInt y from (i64_lt hy hx).mpr h)]; rfl
  · rw [if_neg h, if_neg (show ¬ Int64.ofInt x > Int64.ofInt y from fun q => h ((i64_lt hy hx).mp q))]
    by_cases h2 : x = y
    · rw [if_pos h2, if_pos (by rw [h2])]; rfl
    · rw [if_neg h2, if_neg (fun q => h2 ((i64_eq hx hy).mp q))]; rfl
theorem j3_inR (x y : Int) : inR (j3 x y) := by
  unfold j3 inR
  split
  · omega
  · split <;> omega
theorem r_lcmp {x y : Int} (hd : decode M.2.1 pc = .ok (.lcmp, 1)) (hp : pc + 1 = pc') (h : Rn d M pc' L ((0, j3 x y) :: S) K φ α k Q) : Rn d M pc L ((1, y) :: (1, x) :: S) K φ α k Q := by
  intro p l e R s m args below meth c D cA ad b base Ln xs H locs cells slots ls C Wo hS hL vL vS
  subst hp
  refine W.lcmp C.1.1 C.1.2.1 hd ?_
  rw [j3_of (vHd (vTl vS)) (vHd vS)]
  exact h p l e R s m args below meth c D cA ad b base Ln xs H locs cells slots ls C Wo hS hL vL (vCons (j3_inR x y) (vTl (vTl vS)))
theorem cv_c1 {ad : Nat → Nat} {b : Nat} {v : aV} (h : (bif Nat.beq v.1 1 then false else true) = true) : (cv ad b v).category = 1 := cv_cat (fun q => by rw [q] at h; simp at h)
theorem cv_c2 {ad : Nat → Nat} {b : Nat} {x : Int} : (cv ad b (1, x)).category = 2 := rfl
theorem r_dup {v : aV} (hd : decode M.2.1 pc = .ok (.dup, 1)) (hp : pc + 1 = pc') (g : (bif Nat.beq v.1 1 then false else true) = true) (h : Rn d M pc' L (v :: v :: S) K φ α k Q) : Rn d M pc L (v :: S) K φ α k Q := by
  intro p l e R s m args below meth c D cA ad b base Ln xs H locs cells slots ls C Wo hS hL vL vS
  subst hp
  exact lv_dup C.1.1 C.1.2.1 hd (cv_c1 g) (h p l e R s m args below meth c D cA ad b base Ln xs H locs cells slots ls C Wo hS hL vL (vCons (vHd vS) vS))
theorem r_pop {v : aV} (hd : decode M.2.1 pc = .ok (.pop, 1)) (hp : pc + 1 = pc') (g : (bif Nat.beq v.1 1 then false else true) = true) (h : Rn d M pc' L S K φ α k Q) : Rn d M pc L (v :: S) K φ α k Q := by
  intro p l e R s m args below meth c D cA ad b base Ln xs H locs cells slots ls C Wo hS hL vL vS
  subst hp
  exact lv_pop C.1.1 C.1.2.1 hd (cv_c1 g) (h p l e R s m args below meth c D cA ad b base Ln xs H locs cells slots ls C Wo hS hL vL (vTl vS))
theorem r_dup_x1 {v w : aV} (hd : decode M.2.1 pc = .ok (.dup_x1, 1)) (hp : pc + 1 = pc') (g : (bif Nat.beq v.1 1 then false else true) = true) (g2 : (bif Nat.beq w.1 1 then false else true) = true) (h : Rn d M pc' L (v :: w :: v :: S) K φ α k Q) : Rn d M pc L (v :: w :: S) K φ α k Q := by
  intro p l e R s m args below meth c D cA ad b base Ln xs H locs cells slots ls C Wo hS hL vL vS
  subst hp
  exact lv_dup_x1 C.1.1 C.1.2.1 hd (cv_c1 g) (cv_c1 g2) (h p l e R s m args below meth c D cA ad b base Ln xs H locs cells slots ls C Wo hS hL vL (vCons (vHd vS) (vCons (vHd (vTl vS)) (vCons (vHd vS) (vTl (vTl vS))))))
theorem r_dup_x2 {v w u : aV} (hd : decode M.2.1 pc = .ok (.dup_x2, 1)) (hp : pc + 1 = pc') (g : (bif Nat.beq v.1 1 then false else true) = true) (g2 : (bif Nat.beq w.1 1 then false else true) = true) (g3 : (bif Nat.beq u.1 1 then false else true) = true) (h : Rn d M pc' L (v :: w :: u :: v :: S) K φ α k Q) : Rn d M pc L (v :: w :: u :: S) K φ α k Q := by
  intro p l e R s m args below meth c D cA ad b base Ln xs H locs cells slots ls C Wo hS hL vL vS
  subst hp
  exact lv_dup_x2 C.1.1 C.1.2.1 hd (cv_c1 g) (cv_c1 g2) (cv_c1 g3) (h p l e R s m args below meth c D cA ad b base Ln xs H locs cells slots ls C Wo hS hL vL (vCons (vHd vS) (vCons (vHd (vTl vS)) (vCons (vHd (vTl (vTl vS))) (vCons (vHd vS) (vTl (vTl (vTl vS))))))))
theorem r_dup2 {v w : aV} (hd : decode M.2.1 pc = .ok (.dup2, 1)) (hp : pc + 1 = pc') (g : (bif Nat.beq v.1 1 then false else true) = true) (g2 : (bif Nat.beq w.1 1 then false else true) = true) (h : Rn d M pc' L (v :: w :: v :: w :: S) K φ α k Q) : Rn d M pc L (v :: w :: S) K φ α k Q := by
  intro p l e R s m args below meth c D cA ad b base Ln xs H locs cells slots ls C Wo hS hL vL vS
  subst hp
  exact lv_dup2_11 C.1.1 C.1.2.1 hd (cv_c1 g) (cv_c1 g2) (h p l e R s m args below meth c D cA ad b base Ln xs H locs cells slots ls C Wo hS hL vL (vCons (vHd vS) (vCons (vHd (vTl vS)) vS)))
theorem r_dup2L {x : Int} (hd : decode M.2.1 pc = .ok (.dup2, 1)) (hp : pc + 1 = pc') (h : Rn d M pc' L ((1, x) :: (1, x) :: S) K φ α k Q) : Rn d M pc L ((1, x) :: S) K φ α k Q := by
  intro p l e R s m args below meth c D cA ad b base Ln xs H locs cells slots ls C Wo hS hL vL vS
  subst hp
  exact lv_dup2_2 C.1.1 C.1.2.1 hd rfl (h p l e R s m args below meth c D cA ad b base Ln xs H locs cells slots ls C Wo hS hL vL (vCons (vHd vS) vS))
theorem r_icmp_ne {x y off : Int} {t : Nat} (hd : decode M.2.1 pc = .ok (.if_icmp .ne off, 3)) (hp : pc + 3 = pc') (ht : (pc : Int) + off = (t : Int)) (h1 : ¬ x = y → Rn d M t L S K φ α k Q) (h2 : x = y → Rn d M pc' L S K φ α k Q) : Rn d M pc L ((0, y) :: (0, x) :: S) K φ α k Q := by
  intro p l e R s m args below meth c D cA ad b base Ln xs H locs cells slots ls C Wo hS hL vL vS
  subst hp
  have ee := i32_eq (vHd (vTl vS)) (vHd vS)
  exact lv_icmp_ne C.1.1 C.1.2.1 hd ht (fun q => h1 (fun z => q (ee.mpr z)) p l e R s m args below meth c D cA ad b base Ln xs H locs cells slots ls C Wo hS hL vL (vTl (vTl vS))) (fun q => h2 (ee.mp q) p l e R s m args below meth c D cA ad b base Ln xs H locs cells slots ls C Wo hS hL vL (vTl (vTl vS)))
theorem r_if_ne {x off : Int} {t : Nat} (hd : decode M.2.1 pc = .ok (.ifCond .ne off, 3)) (hp : pc + 3 = pc') (ht : (pc : Int) + off = (t : Int)) (h1 : ¬ x = 0 → Rn d M t L S K φ α k Q) (h2 : x = 0 → Rn d M pc' L S K φ α k Q) : Rn d M pc L ((0, x) :: S) K φ α k Q := by
  intro p l e R s m args below meth c D cA ad b base Ln xs H locs cells slots ls C Wo hS hL vL vS
  subst hp
  have ee := i32_eq (vHd vS) inR0
  exact lv_if_ne C.1.1 C.1.2.1 hd ht (fun q => h1 (fun z => q (ee.mpr z)) p l e R s m args below meth c D cA ad b base Ln xs H locs cells slots ls C Wo hS hL vL (vTl vS)) (fun q => h2 (ee.mp q) p l e R s m args below meth c D cA ad b base Ln xs H locs cells slots ls C Wo hS hL vL (vTl vS))
theorem r_icmp_eq {x y off : Int} {t : Nat} (hd : decode M.2.1 pc = .ok (.if_icmp .eq off, 3)) (hp : pc + 3 = pc') (ht : (pc : Int) + off = (t : Int)) (h1 : x = y → Rn d M t L S K φ α k Q) (h2 : ¬ (x = y) → Rn d M pc' L S K φ α k Q) : Rn d M pc L ((0, y) :: (0, x) :: S) K φ α k Q := by
  intro p l e R s m args below meth c D cA ad b base Ln xs H locs cells slots ls C Wo hS hL vL vS
  subst hp
  have ee := i32_eq (vHd (vTl vS)) (vHd vS)
  exact lv_icmp_eq C.1.1 C.1.2.1 hd ht (fun q => h1 (ee.mp q) p l e R s m args below meth c D cA ad b base Ln xs H locs cells slots ls C Wo hS hL vL (vTl (vTl vS))) (fun q => h2 (fun z => q (ee.mpr z)) p l e R s m args below meth c D cA ad b base Ln xs H locs cells slots ls C Wo hS hL vL (vTl (vTl vS)))
theorem r_if_eq {x off : Int} {t : Nat} (hd : decode M.2.1 pc = .ok (.ifCond .eq off, 3)) (hp : pc + 3 = pc') (ht : (pc : Int) + off = (t : Int)) (h1 : x = 0 → Rn d M t L S K φ α k Q) (h2 : ¬ (x = 0) → Rn d M pc' L S K φ α k Q) : Rn d M pc L ((0, x) :: S) K φ α k Q := by
  intro p l e R s m args below meth c D cA ad b base Ln xs H locs cells slots ls C Wo hS hL vL vS
  subst hp
  have ee := i32_eq (vHd vS) inR0
  exact lv_if_eq C.1.1 C.1.2.1 hd ht (fun q => h1 (ee.mp q) p l e R s m args below meth c D cA ad b base Ln xs H locs cells slots ls C Wo hS hL vL (vTl vS)) (fun q => h2 (fun z => q (ee.mpr z)) p l e R s m args below meth c D cA ad b base Ln xs H locs cells slots ls C Wo hS hL vL (vTl vS))
theorem r_icmp_lt {x y off : Int} {t : Nat} (hd : decode M.2.1 pc = .ok (.if_icmp .lt off, 3)) (hp : pc + 3 = pc') (ht : (pc : Int) + off = (t : Int)) (h1 : x < y → Rn d M t L S K φ α k Q) (h2 : ¬ (x < y) → Rn d M pc' L S K φ α k Q) : Rn d M pc L ((0, y) :: (0, x) :: S) K φ α k Q := by
  intro p l e R s m args below meth c D cA ad b base Ln xs H locs cells slots ls C Wo hS hL vL vS
  subst hp
  have ee := i32_lt (vHd (vTl vS)) (vHd vS)
  exact lv_icmp_lt C.1.1 C.1.2.1 hd ht (fun q => h1 (ee.mp q) p l e R s m args below meth c D cA ad b base Ln xs H locs cells slots ls C Wo hS hL vL (vTl (vTl vS))) (fun q => h2 (fun z => q (ee.mpr z)) p l e R s m args below meth c D cA ad b base Ln xs H locs cells slots ls C Wo hS hL vL (vTl (vTl vS)))
theorem r_if_lt {x off : Int} {t : Nat} (hd : decode M.2.1 pc = .ok (.ifCond .lt off, 3)) (hp : pc + 3 = pc') (ht : (pc : Int) + off = (t : Int)) (h1 : x < 0 → Rn d M t L S K φ α k Q) (h2 : ¬ (x < 0) → Rn d M pc' L S K φ α k Q) : Rn d M pc L ((0, x) :: S) K φ α k Q := by
  intro p l e R s m args below meth c D cA ad b base Ln xs H locs cells slots ls C Wo hS hL vL vS
  subst hp
  have ee := i32_lt (vHd vS) inR0
  exact lv_if_lt C.1.1 C.1.2.1 hd ht (fun q => h1 (ee.mp q) p l e R s m args below meth c D cA ad b base Ln xs H locs cells slots ls C Wo hS hL vL (vTl vS)) (fun q => h2 (fun z => q (ee.mpr z)) p l e R s m args below meth c D cA ad b base Ln xs H locs cells slots ls C Wo hS hL vL (vTl vS))
theorem r_icmp_ge {x y off : Int} {t : Nat} (hd : decode M.2.1 pc = .ok (.if_icmp .ge off, 3)) (hp : pc + 3 = pc') (ht : (pc : Int) + off = (t : Int)) (h1 : y ≤ x → Rn d M t L S K φ α k Q) (h2 : ¬ (y ≤ x) → Rn d M pc' L S K φ α k Q) : Rn d M pc L ((0, y) :: (0, x) :: S) K φ α k Q := by
  intro p l e R s m args below meth c D cA ad b base Ln xs H locs cells slots ls C Wo hS hL vL vS
  subst hp
  have ee := i32_le (vHd vS) (vHd (vTl vS))
  exact lv_icmp_ge C.1.1 C.1.2.1 hd ht (fun q => h1 (ee.mp q) p l e R s m args below meth c D cA ad b base Ln xs H locs cells slots ls C Wo hS hL vL (vTl (vTl vS))) (fun q => h2 (fun z => q (ee.mpr z)) p l e R s m args below meth c D cA ad b base Ln xs H locs cells slots ls C Wo hS hL vL (vTl (vTl vS)))
theorem r_if_ge {x off : Int} {t : Nat} (hd : decode M.2.1 pc = .ok (.ifCond .ge off, 3)) (hp : pc + 3 = pc') (ht : (pc : Int) + off = (t : Int)) (h1 : 0 ≤ x → Rn d M t L S K φ α k Q) (h2 : ¬ (0 ≤ x) → Rn d M pc' L S K φ α k Q) : Rn d M pc L ((0, x) :: S) K φ α k Q := by
  intro p l e R s m args below meth c D cA ad b base Ln xs H locs cells slots ls C Wo hS hL vL vS
  subst hp
  have ee := i32_le inR0 (vHd vS)
  exact lv_if_ge C.1.1 C.1.2.1 hd ht (fun q => h1 (ee.mp q) p l e R s m args below meth c D cA ad b base Ln xs H locs cells slots ls C Wo hS hL vL (vTl vS)) (fun q => h2 (fun z => q (ee.mpr z)) p l e R s m args below meth c D cA ad b base Ln xs H locs cells slots ls C Wo hS hL vL (vTl vS))
theorem r_icmp_gt {x y off : Int} {t : Nat} (hd : decode M.2.1 pc = .ok (.if_icmp .gt off, 3)) (hp : pc + 3 = pc') (ht : (pc : Int) + off = (t : Int)) (h1 : y < x → Rn d M t L S K φ α k Q) (h2 : ¬ (y < x) → Rn d M pc' L S K φ α k Q) : Rn d M pc L ((0, y) :: (0, x) :: S) K φ α k Q := by
  intro p l e R s m args below meth c D cA ad b base Ln xs H locs cells slots ls C Wo hS hL vL vS
  subst hp
  have ee := i32_lt (vHd vS) (vHd (vTl vS))
  exact lv_icmp_gt C.1.1 C.1.2.1 hd ht (fun q => h1 (ee.mp q) p l e R s m args below meth c D cA ad b base Ln xs H locs cells slots ls C Wo hS hL vL (vTl (vTl vS))) (fun q => h2 (fun z => q (ee.mpr z)) p l e R s m args below meth c D cA ad b base Ln xs H locs cells slots ls C Wo hS hL vL (vTl (vTl vS)))
theorem r_if_gt {x off : Int} {t : Nat} (hd : decode M.2.1 pc = .ok (.ifCond .gt off, 3)) (hp : pc + 3 = pc') (ht : (pc : Int) + off = (t : Int)) (h1 : 0 < x → Rn d M t L S K φ α k Q) (h2 : ¬ (0 < x) → Rn d M pc' L S K φ α k Q) : Rn d M pc L ((0, x) :: S) K φ α k Q := by
  intro p l e R s m args below meth c D cA ad b base Ln xs H locs cells slots ls C Wo hS hL vL vS
  subst hp
  have ee := i32_lt inR0 (vHd vS)
  exact lv_if_gt C.1.1 C.1.2.1 hd ht (fun q => h1 (ee.mp q) p l e R s m args below meth c D cA ad b base Ln xs H locs cells slots ls C Wo hS hL vL (vTl vS)) (fun q => h2 (fun z => q (ee.mpr z)) p l e R s m args below meth c D cA ad b base Ln xs H locs cells slots ls C Wo hS hL vL (vTl vS))
theorem r_icmp_le {x y off : Int} {t : Nat} (hd : decode M.2.1 pc = .ok (.if_icmp .le off, 3)) (hp : pc + 3 = pc') (ht : (pc : Int) + off = (t : Int)) (h1 : x ≤ y → Rn d M t L S K φ α k Q) (h2 : ¬ (x ≤ y) → Rn d M pc' L S K φ α k Q) : Rn d M pc L ((0, y) :: (0, x) :: S) K φ α k Q := by
  intro p l e R s m args below meth c D cA ad b base Ln xs H locs cells slots ls C Wo hS hL vL vS
  subst hp
  have ee := i32_le (vHd (vTl vS)) (vHd vS)
  exact lv_icmp_le C.1.1 C.1.2.1 hd ht (fun q => h1 (ee.mp q) p l e R s m args below meth c D cA ad b base Ln xs H locs cells slots ls C Wo hS hL vL (vTl (vTl vS))) (fun q => h2 (fun z => q (ee.mpr z)) p l e R s m args below meth c D cA ad b base Ln xs H locs cells slots ls C Wo hS hL vL (vTl (vTl vS)))
theorem r_if_le {x off : Int} {t : Nat} (hd : decode M.2.1 pc = .ok (.ifCond .le off, 3)) (hp : pc + 3 = pc') (ht : (pc : Int) + off = (t : Int)) (h1 : x ≤ 0 → Rn d M t L S K φ α k Q) (h2 : ¬ (x ≤ 0) → Rn d M pc' L S K φ α k Q) : Rn d M pc L ((0, x) :: S) K φ α k Q := by
  intro p l e R s m args below meth c D cA ad b base Ln xs H locs cells slots ls C Wo hS hL vL vS
  subst hp
  have ee := i32_le (vHd vS) inR0
  exact lv_if_le C.1.1 C.1.2.1 hd ht (fun q => h1 (ee.mp q) p l e R s m args below meth c D cA ad b base Ln xs H locs cells slots ls C Wo hS hL vL (vTl vS)) (fun q => h2 (fun z => q (ee.mpr z)) p l e R s m args below meth c D cA ad b base Ln xs H locs cells slots ls C Wo hS hL vL (vTl vS))
theorem r_goto {off : Int} (hd : decode M.2.1 pc = .ok (.goto off, 3)) (ht : (pc : Int) + off = (pc' : Int)) (h : Rn d M pc' L S K φ α k Q) : Rn d M pc L S K φ α k Q := by
  intro p l e R s m args below meth c D cA ad b base Ln xs H locs cells slots ls C Wo hS hL vL vS
  exact lv_goto C.1.1 C.1.2.1 hd ht (h p l e R s m args below meth c D cA ad b base Ln xs H locs cells slots ls C Wo hS hL vL vS)
theorem r_ifnonnull {off x : Int} (hd : decode M.2.1 pc = .ok (.ifnonnull off, 3)) (ht : (pc : Int) + off = (pc' : Int)) (h : Rn d M pc' L S K φ α k Q) : Rn d M pc L ((2, x) :: S) K φ α k Q := by
  intro p l e R s m args below meth c D cA ad b base Ln xs H locs cells slots ls C Wo hS hL vL vS
  exact lv_ifnonnull C.1.1 C.1.2.1 hd ht (h p l e R s m args below meth c D cA ad b base Ln xs H locs cells slots ls C Wo hS hL vL (vTl vS))
theorem r_tabIn {dflt lo hi x off : Int} {offs : Array Int} {len : Nat} (v : Int) (hx : x = v) (hd : decode M.2.1 pc = .ok (.tableswitch dflt lo hi offs, len)) (h1 : ¬ v < lo) (h2 : ¬ hi < v) (ho : offs[(v - lo).toNat]? = some off) (ht : (pc : Int) + off = (pc' : Int)) (h : Rn d M pc' L S K φ α k Q) : Rn d M pc L ((0, x) :: S) K φ α k Q := by
  intro p l e R s m args below meth c D cA ad b base Ln xs H locs cells slots ls C Wo hS hL vL vS
  subst hx
  have hr : (Int32.ofInt x).toInt = x := ofInt_toInt32 (vHd vS)
  exact lv_tableIn C.1.1 C.1.2.1 hd (by rw [hr]; exact h1) (by rw [hr]; exact h2) (by rw [hr]; exact ho) ht (h p l e R s m args below meth c D cA ad b base Ln xs H locs cells slots ls C Wo hS hL vL (vTl vS))
theorem r_tabOut {dflt lo hi x : Int} {offs : Array Int} {len : Nat} (hd : decode M.2.1 pc = .ok (.tableswitch dflt lo hi offs, len)) (hx : x < lo ∨ hi < x) (ht : (pc : Int) + dflt = (pc' : Int)) (h : Rn d M pc' L S K φ α k Q) : Rn d M pc L ((0, x) :: S) K φ α k Q := by
  intro p l e R s m args below meth c D cA ad b base Ln xs H locs cells slots ls C Wo hS hL vL vS
  have hr : (Int32.ofInt x).toInt = x := ofInt_toInt32 (vHd vS)
  exact lv_tableOut C.1.1 C.1.2.1 hd (by rw [hr]; exact hx) ht (h p l e R s m args below meth c D cA ad b base Ln xs H locs cells slots ls C Wo hS hL vL (vTl vS))
theorem r_lookup {dflt x off : Int} {ps : Array (Int × Int)} {len : Nat} (hd : decode M.2.1 pc = .ok (.lookupswitch dflt ps, len)) (hq : (ps.toList.zip (ps.toList.drop 1)).all (fun (a, next) => a.1 < next.1) = true) (ho : Op.lookupswitch.offset ps.toList dflt x = off) (ht : (pc : Int) + off = (pc' : Int)) (h : Rn d M pc' L S K φ α k Q) : Rn d M pc L ((0, x) :: S) K φ α k Q := by
  intro p l e R s m args below meth c D cA ad b base Ln xs H locs cells slots ls C Wo hS hL vL vS
  have hr : (Int32.ofInt x).toInt = x := ofInt_toInt32 (vHd vS)
  exact lv_lookup C.1.1 C.1.2.1 hd hq (by rw [hr]; exact ho) ht (h p l e R s m args below meth c D cA ad b base Ln xs H locs cells slots ls C Wo hS hL vL (vTl vS))
theorem r_iret {x : Int} (hd : decode M.2.1 pc = .ok (.ireturn, 1)) (hr : M.2.2.2 = some .int) (h : Q (some (0, x)) K φ α) : Rn d M pc L [(0, x)] K φ α k Q := by
  intro p l e R s m args below meth c D cA ad b base Ln xs H locs cells slots ls C Wo hS hL vL vS
  refine W.widen (k := cells + k.1) (n := slots + k.2) (Nat.le_add_right _ _) (Nat.le_add_right _ _) ?_
  exact W.iret C.1.1 C.1.2.1 (C.1.2.2.1.trans hr) (fun t ht hW => ⟨⟨(some (0, x)), K, φ, α, ad, rfl, h, ⟨Nat.le_refl _, fun _ _ => rfl, fun _ _ => rfl⟩, by rw [ht]; exact Wo, va_K.moved hW.alike C.2.2.2.2.2.1, fun v hv => by cases hv; exact vHd vS⟩, hS.F ht⟩) hS.2.2 hd C.2.2.1
theorem r_zret {x : Int} (hd : decode M.2.1 pc = .ok (.ireturn, 1)) (hr : M.2.2.2 = some .boolean) (g : x = 0 ∨ x = 1) (h : Q (some (0, x)) K φ α) : Rn d M pc L [(0, x)] K φ α k Q := by
  intro p l e R s m args below meth c D cA ad b base Ln xs H locs cells slots ls C Wo hS hL vL vS
  refine W.widen (k := cells + k.1) (n := slots + k.2) (Nat.le_add_right _ _) (Nat.le_add_right _ _) ?_
  exact W.zret C.1.1 C.1.2.1 (C.1.2.2.1.trans hr) (by rcases g with rfl | rfl <;> rfl) (fun t ht hW => ⟨⟨(some (0, x)), K, φ, α, ad, rfl, h, ⟨Nat.le_refl _, fun _ _ => rfl, fun _ _ => rfl⟩, by rw [ht]; exact Wo, va_K.moved hW.alike C.2.2.2.2.2.1, fun v hv => by cases hv; exact vHd vS⟩, hS.F ht⟩) hS.2.2 hd C.2.2.1
theorem r_lret {x : Int} (hd : decode M.2.1 pc = .ok (.lreturn, 1)) (hr : M.2.2.2 = some .long) (h : Q (some (1, x)) K φ α) : Rn d M pc L [(1, x)] K φ α k Q := by
  intro p l e R s m args below meth c D cA ad b base Ln xs H locs cells slots ls C Wo hS hL vL vS
  refine W.widen (k := cells + k.1) (n := slots + k.2) (Nat.le_add_right _ _) (Nat.le_add_right _ _) ?_
  exact W.lret C.1.1 C.1.2.1 (C.1.2.2.1.trans hr) (fun t ht hW => ⟨⟨(some (1, x)), K, φ, α, ad, rfl, h, ⟨Nat.le_refl _, fun _ _ => rfl, fun _ _ => rfl⟩, by rw [ht]; exact Wo, va_K.moved hW.alike C.2.2.2.2.2.1, fun v hv => by cases hv; exact vHd vS⟩, hS.F ht⟩) hS.2.2 hd C.2.2.1
theorem r_vret {x : Int} (hd : decode M.2.1 pc = .ok (.return_, 1)) (hr : M.2.2.2 = none) (h : Q (none) K φ α) : Rn d M pc L [] K φ α k Q := by
  intro p l e R s m args below meth c D cA ad b base Ln xs H locs cells slots ls C Wo hS hL vL vS
  refine W.widen (k := cells + k.1) (n := slots + k.2) (Nat.le_add_right _ _) (Nat.le_add_right _ _) ?_
  exact W.vret C.1.1 C.1.2.1 (C.1.2.2.1.trans hr) (fun t ht hW => ⟨⟨(none), K, φ, α, ad, rfl, h, ⟨Nat.le_refl _, fun _ _ => rfl, fun _ _ => rfl⟩, by rw [ht]; exact Wo, va_K.moved hW.alike C.2.2.2.2.2.1, fun v hv => by cases hv⟩, hS.F ht⟩) hS.2.2 hd C.2.2.1
theorem aWk_at : ∀ (L' L : List aV), aWk L' L → L'.length = L.length ∧ ∀ (i : Nat) (v : aV), L'[i]? = some v → v.1 ≤ 4 → L[i]? = some v
  | [], [], _ => ⟨rfl, fun i v h => by simp at h⟩
  | [], _ :: _, h => h.elim
  | _ :: _, [], h => h.elim
  | x :: t, y :: u, h => by
    obtain ⟨h1, h2⟩ := aWk_at t u h.2
    refine ⟨by simp [h1], fun i v hv ht => ?_⟩
    cases i with
    | zero =>
      simp at hv
      subst hv
      rcases h.1 with e | e
      · simp [e]
      · omega
    | succ i => simpa using h2 i v (by simpa using hv) ht
theorem aWk_ok {n : Nat} {L' L : List aV} (h : aWk L' L) (hv : ∀ v ∈ L, vOk n v) : ∀ v ∈ L', vOk n v := by
  intro v hm
  by_cases ht : v.1 ≤ 4
  · obtain ⟨i, hi⟩ := List.getElem?_of_mem hm
    exact vAt hv ((aWk_at L' L h).2 i v hi ht)
  · unfold vOk
    split <;> first | trivial | omega
theorem r_weak {L' : List aV} (hw : aWk L' L) (h : Rn d M pc L' S K φ α k Q) : Rn d M pc L S K φ α k Q := by
  intro p l e R s m args below meth c D cA ad b base Ln xs H locs cells slots ls C Wo hS hL vL vS
  obtain ⟨h1, h2⟩ := aWk_at L' L hw
  exact h p l e R s m args below meth c D cA ad b base Ln xs H locs cells slots ls C Wo hS ⟨hL.1, hL.2.1, h1.trans hL.2.2.1, fun i v hv ht => hL.2.2.2 i v (h2 i v hv ht) ht⟩ (aWk_ok hw vL) vS
theorem W.mono {p : Program} {l : Launch} {e : Env} {R : Room} {s : State} {m : MethodId} {args : Array Value} {below : List Frame} {meth : Method} {c : Code} {H : Heap} {locs : List Loc} {cells slots : Nat} {Q1 Q2 : State → Prop} {g : JFrame} (hq : ∀ t, Q1 t → Q2 t) (h : W p l e R s m args below meth c H locs cells slots Q1 g) : W p l e R s m args below meth c H locs cells slots Q2 g := fun T hT X => by
  obtain ⟨t, a, b⟩ := h T hT X
  exact ⟨t, a, hq t b⟩
theorem MQ.mono {below : List Frame} {Q1 Q2 : Array Value → State → Outcome → State → Prop} {a : Array Value} {s : State} {mc ms : Nat} {free : Addr → Prop} (hq : ∀ o t, Q1 a s o t → Q2 a s o t) : ∀ t, MQ below Q1 a s mc ms free t → MQ below Q2 a s mc ms free t := fun t ⟨o, h1, h2, h3, h4⟩ => ⟨o, h1, h2, hq o t h3, h4⟩
theorem r_post {Q' : bQ} (hq : ∀ r K' φ' α', Q' r K' φ' α' → Q r K' φ' α') (h : Rn d M pc L S K φ α k Q') : Rn d M pc L S K φ α k Q := by
  intro p l e R s m args below meth c D cA ad b base Ln xs H locs cells slots ls C Wo hS hL vL vS
  refine W.mono (MQ.mono fun o t ⟨⟨r, K', φ', α', ad', h1, h2, h3⟩, h4⟩ => ⟨⟨r, K', φ', α', ad', h1, hq _ _ _ _ h2, h3⟩, h4⟩) (h p l e R s m args below meth c D cA ad b base Ln xs H locs cells slots ls C Wo hS hL vL vS)
end OPS
