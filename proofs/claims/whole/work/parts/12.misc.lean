section MISC
variable {d : Nat} {M : aM} {pc pc' : Nat} {L S : List aV} {K : bK} {φ : aF} {α : aA} {k : Nat × Nat} {Q : bQ} {ix : Nat}
theorem r_obj0 {o : Int} (hd : decode M.2.1 pc = .ok (.invokespecial ix, 3)) (hp : pc + 3 = pc') (hl : Cond.methodLink M.1.cls ix Lib.objectInit ∈ lw_tbl) (hi : Cond.instanceMethod Lib.objectInit ∈ lw_tbl) (hco : Cond.code Lib.objectInit ⟨#[0xb1]⟩ 1 none ∈ lw_tbl) (hd0 : 1 ≤ d) (hc : catS S ≤ 8) (h : Rn d M pc' L S K φ α k Q) : Rn d M pc L ((2, o) :: S) K φ α k Q := by
  intro p l e R s m args below meth c D cA ad b base Ln xs H locs cells slots ls C Wo hS hL vL vS
  subst hp
  obtain ⟨j, hj, rfl⟩ := obj_of (vHd vS)
  have hst : (((2 : Nat), (j : Int)) :: S).map (cv ad b) = .ref (ad j) :: S.map (cv ad b) := by rw [List.map_cons, cv_ref]
  rw [hst]
  have q1 := C.2.2.2.2.1.1
  have q2 := C.2.2.2.2.1.2.1
  exact W.objInit C.1.1 C.1.2.1 C.1.2.2.2.2 (C.2.1 _ (hw hl rfl)) (C.2.1 _ (hw hi rfl)) (C.2.1 _ (hw hco rfl)) rfl (by rw [C.1.2.2.2.1]; exact hL.1) rfl hd (by omega) (by rw [catS_of]; show 2 * 0 + catS S + 12 ≤ _; omega) (h p l e R s m args below meth c D cA ad b base Ln xs H locs cells slots ls C Wo hS hL vL (vTl vS))
/-- System.arraycopy of ints between two rows, from their beginnings -/
def cpA (α : aA) (a t n : Int) : aA := fun a' i => if a' = t ∧ 0 ≤ i ∧ i < n then α a i else α a' i
theorem r_copy {a t n : Int} (hd : decode M.2.1 pc = .ok (.invokestatic ix, 3)) (hp : pc + 3 = pc') (hl : Cond.methodLink M.1.cls ix arraycopyName ∈ lw_tbl) (hna : Cond.native arraycopyName ∈ lw_tbl) (hst0 : Cond.static arraycopyName ∈ lw_tbl) (hini : Cond.initialized "java/lang/System" ∈ lw_tbl) (hd0 : 1 ≤ d) (hc : catS S ≤ 8) (g1 : (K.2 a).1 = 20) (g2 : (K.2 t).1 = 20) (g3 : 0 ≤ n ∧ n ≤ (K.2 a).2 ∧ n ≤ (K.2 t).2) (h : Rn d M pc' L S K φ (cpA α a t n) k Q) : Rn d M pc L ((0, n) :: (0, 0) :: (2, t) :: (0, 0) :: (2, a) :: S) K φ α k Q := by
  intro p l e R s m args below meth c D cA ad b base Ln xs H locs cells slots ls C Wo hS hL vL vS
  subst hp
  obtain ⟨j, hj, rfl⟩ := obj_of (vHd (vTl (vTl (vTl (vTl vS)))))
  obtain ⟨j2, hj2, rfl⟩ := obj_of (vHd (vTl (vTl vS)))
  have hn : inR n := vHd vS
  have hst : (((0 : Nat), n) :: ((0 : Nat), (0 : Int)) :: ((2 : Nat), (j2 : Int)) :: ((0 : Nat), (0 : Int)) :: ((2 : Nat), (j : Int)) :: S).map (cv ad b) = .int (Int32.ofInt n) :: .int (Int32.ofInt 0) :: .ref (ad j2) :: .int (Int32.ofInt 0) :: .ref (ad j) :: S.map (cv ad b) := by rw [List.map_cons, List.map_cons, List.map_cons, List.map_cons, List.map_cons, cv_ref, cv_ref]; rfl
  rw [hst]
  have q1 := C.2.2.2.2.1.1
  have q2 := C.2.2.2.2.1.2.1
  have hw1 := wl_at (cA := cA) (ad := ad) (φ := φ) (α := α) hj
  rw [ent_20 g1] at hw1
  have hw2 := wl_at (cA := cA) (ad := ad) (φ := φ) (α := α) hj2
  rw [ent_20 g2] at hw2
  have z0 : (Int32.ofInt 0).toNatClampNeg = 0 := rfl
  have zn : (Int32.ofInt n).toNatClampNeg = n.toNat := clampI hn
  have nneg : ∀ x : Int, inR x → 0 ≤ x → ¬ Int32.ofInt x < 0 := fun x hx h0 => by rw [show (0 : Int32) = Int32.ofInt 0 from rfl, i32_lt hx inR0]; omega
  refine va_copyi (ty := .int) C.1.1 C.1.2.1 (by rw [C.1.2.2.2.1]; exact hL.1.symm) C.1.2.2.2.2 (C.2.1 _ (hw hl rfl)) (C.2.1 _ (hw hna rfl)) (C.2.1 _ (hw hst0 rfl)) (C.2.1 _ (hw hini rfl)) C.2.2.2.2.2.1 Wo.1 Wo.2.1 hS j j2 0 0 hw1 hw2 rfl rfl rfl (nneg 0 inR0 (by omega)) (nneg 0 inR0 (by omega)) (nneg n hn g3.1) (by rw [z0, zn]; omega) (by rw [z0, zn]; omega) (fun i hi => rfl) (by omega) (by rw [catS_of]; show catS S + (7 + 11) ≤ _; omega) hd (fun H1 locs1 hP hD hS1 => ?_)
  rw [z0, zn] at hP hD
  have h0 := Wo.2.2.1 j2 hj2
  refine h p l e R s m args below meth c D cA ad b base Ln xs H1 locs1 cells slots ls C (Wd_arr Wo hj2 (α' := cpA α j j2 n) ?_ (fun x hx y => by unfold cpA; rw [if_neg (fun q => hx q.1)]) ?_ hP hD) hS1 hL vL (vTl (vTl (vTl (vTl (vTl vS)))))
  · rw [ent_20 g2]
    congr 4
    funext x
    unfold va_cpy cpA
    by_cases e : x < n.toNat
    · rw [if_pos ⟨rfl, by omega, by omega⟩, if_pos ⟨by omega, by omega⟩]
      simp
    · rw [if_neg (by omega), if_neg (by omega)]
  · refine ⟨fun _ x => ?_, fun q => by omega, fun q => by omega, fun q => by omega, fun q => by omega, h0.2.2.2.2.2⟩
    unfold cpA
    split
    · exact (Wo.2.2.1 j hj).1 g1 x
    · exact h0.1 g2 x
theorem r_ldcw (v : Int) (hd : decode M.2.1 pc = .ok (.ldc_w ix, 3)) (hp : pc + 3 = pc') (hw : Cond.constant M.1.cls ix (Int32.ofInt v) ∈ lw_h) (g : inR v) (h : Rn d M pc' L ((0, v) :: S) K φ α k Q) : Rn d M pc L S K φ α k Q := by
  intro p l e R s m args below meth c D cA ad b base Ln xs H locs cells slots ls C Wo hS hL vL vS
  subst hp
  exact lv_ldcw C.1.1 C.1.2.1 C.1.2.2.2.2 (C.2.1 _ hw) hd (h p l e R s m args below meth c D cA ad b base Ln xs H locs cells slots ls C Wo hS hL vL (vCons g vS))
end MISC
