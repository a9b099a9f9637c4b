theorem clampI {i : Int} (h : inR i) : (Int32.ofInt i).toNatClampNeg = i.toNat := by
  have := ofInt_toInt32 h
  unfold Int32.toNatClampNeg
  rw [this]
theorem vpin_of {i : Int} {n : Nat} (h : inR i) (h0 : 0 ≤ i) (h1 : i < n) : vp_in (Int32.ofInt i) n := vp_in_iff.mpr (by rw [ofInt_toInt32 h]; exact ⟨h0, h1⟩)
theorem nar_ch {x : Int} (h0 : 0 ≤ x) (h1 : x < 65536) : vp_nar .char (Int32.ofInt x) = Int32.ofInt x := by
  obtain ⟨n, rfl⟩ : ∃ n : Nat, x = n := ⟨x.toNat, by omega⟩
  have e : Int32.ofInt (n : Int) = nI n := rfl
  have := (pk_charN (q := n) (by omega)).1
  unfold vp_nar
  rw [e, this]
theorem cv_bx {ad ad' : Nat → Nat} {b n : Nat} (ha : ∀ j, j < n → ad' j = ad j) {v : aV} (hv : vOk n v) : cv ad' b v = cv ad b v := by
  unfold cv
  unfold vOk at hv
  split <;> simp_all

theorem fcv_bx {ad ad' : Nat → Nat} {n t : Nat} (ha : ∀ j, j < n → ad' j = ad j) {v : Int} (hv : fOk n t v) : fcv ad' t v = fcv ad t v := by
  unfold fcv
  unfold fOk at hv
  split <;> simp_all
  by_cases h : v < 0
  · simp [h]
  · simp only [h, if_false]
    rw [ha _ (by omega)]
theorem map_bx {ad ad' : Nat → Nat} {b n : Nat} (ha : ∀ j, j < n → ad' j = ad j) {S : List aV} (hv : ∀ v ∈ S, vOk n v) : S.map (cv ad' b) = S.map (cv ad b) := List.map_congr_left fun v h => cv_bx ha (hv v h)
theorem aLs_bx {ad ad' : Nat → Nat} {b n nL : Nat} {ls : Array Slot} {L : List aV} (ha : ∀ j, j < n → ad' j = ad j) (hv : ∀ v ∈ L, vOk n v) (h : aLs ad b ls nL L) : aLs ad' b ls nL L := ⟨h.1, h.2.1, h.2.2.1, fun i v hi ht => by rw [cv_bx ha (vAt hv hi)]; exact h.2.2.2 i v hi ht⟩
theorem vOk_mono {n n' : Nat} (h : n ≤ n') {v : aV} (hv : vOk n v) : vOk n' v := by
  unfold vOk at *
  split <;> simp_all <;> omega
theorem vs_mono {n n' : Nat} (h : n ≤ n') {S : List aV} (hv : ∀ v ∈ S, vOk n v) : ∀ v ∈ S, vOk n' v := fun v hm => vOk_mono h (hv v hm)
theorem bXt.rf {K : bK} {ad : Nat → Nat} : bXt K K ad ad := ⟨Nat.le_refl _, fun _ _ => rfl, fun _ _ => rfl⟩
theorem bXt.tr {K K1 K2 : bK} {ad ad1 ad2 : Nat → Nat} (h : bXt K K1 ad ad1) (h' : bXt K1 K2 ad1 ad2) : bXt K K2 ad ad2 := ⟨Nat.le_trans h.1 h'.1, fun j hj => (h'.2.1 j (Nat.lt_of_lt_of_le hj h.1)).trans (h.2.1 j hj), fun j hj => (h'.2.2 j (by have := h.1; omega)).trans (h.2.2 j hj)⟩
theorem Fq.tr {D : va_G} {cA : Nat → ClassId} {ad ad1 : Nat → Nat} {A : Nat → Prop} {b Ln : Nat} {xs : Nat → Int32} {K K1 : bK} {Q : bQ} (h : bXt K K1 ad ad1) {a : Array Value} {s : State} {o : Outcome} {t : State} (hq : Fq D cA ad1 A b Ln xs K1 Q a s o t) : Fq D cA ad A b Ln xs K Q a s o t := by
  obtain ⟨⟨r, K', φ', α', ad', h1, h2, h3, h4⟩, h5⟩ := hq
  exact ⟨⟨r, K', φ', α', ad', h1, h2, h.tr h3, h4⟩, h5⟩
section ARR
variable {d : Nat} {M : aM} {pc pc' : Nat} {L S : List aV} {K : bK} {φ : aF} {α : aA} {k : Nat × Nat} {Q : bQ}
theorem Wd_arr {D : va_G} {cA : Nat → ClassId} {ad : Nat → Nat} {A : Nat → Prop} {Ln : Nat} {xs : Nat → Int32} {H H1 : Heap} {j : Nat} {α' : aA} {e : va_E} (Wo : Wd D cA ad A Ln xs K φ α H) (hj : j < K.1) (he : ent cA ad K φ α' j = e) (h2 : ∀ (i : Int), i ≠ j → ∀ x, α' i x = α i x) (hok : jOk K φ α' j) (hP : va_P D vCl ((wl cA ad K φ α).set j (ad j, e)) H1) (hD : va_D A ((wl cA ad K φ α).set j (ad j, e))) : Wd D cA ad A Ln xs K φ α' H1 := by
  have h2' : ∀ (i : Nat), i ≠ j → ∀ x, α' i x = α i x := fun i hi => h2 i (by omega)
  have hs := wl_set (cA := cA) (ad := ad) (φ := φ) (φ' := φ) (α := α) hj he (fun _ _ _ _ => rfl) h2'
  rw [hs] at hP hD
  refine ⟨hP, hD, fun i hi => ?_, Wo.2.2.2.1, Wo.2.2.2.2.1, fun i hi => by rw [h2 (-1) (by omega)]; exact Wo.2.2.2.2.2 i hi⟩
  by_cases hij : i = j
  · subst hij; exact hok
  · exact jOk_ext (fun _ _ => rfl) (h2' i hij) (Wo.2.2.1 i hi)
theorem upa_ne {α : aA} {a i v a' i' : Int} (h : a' ≠ a) : upa α a i v a' i' = α a' i' := by unfold upa; rw [if_neg (fun q => h q.1)]
theorem upa_eq {α : aA} {a i v : Int} : upa α a i v a i = v := by unfold upa; rw [if_pos ⟨rfl, rfl⟩]
theorem upa_ni {α : aA} {a i v i' : Int} (h : i' ≠ i) : upa α a i v a i' = α a i' := by unfold upa; rw [if_neg (fun q => h q.2)]
theorem r_iald {a i : Int} (hd : decode M.2.1 pc = .ok (.iaload, 1)) (hp : pc + 1 = pc') (g : (K.2 a).1 = 20) (g2 : 0 ≤ i ∧ i < (K.2 a).2) (h : Rn d M pc' L ((0, α a i) :: S) K φ α k Q) : Rn d M pc L ((0, i) :: (2, a) :: S) K φ α k Q := by
  intro p l e R s m args below meth c D cA ad b base Ln xs H locs cells slots ls C Wo hS hL vL vS
  subst hp
  obtain ⟨j, hj, rfl⟩ := obj_of (vHd (vTl vS))
  have hw := wl_at (cA := cA) (ad := ad) (φ := φ) (α := α) hj
  rw [ent_20 g] at hw
  have hi : inR i := vHd vS
  have hst : (((0 : Nat), i) :: ((2 : Nat), (j : Int)) :: S).map (cv ad b) = .int (Int32.ofInt i) :: .ref (ad j) :: S.map (cv ad b) := by rw [List.map_cons, List.map_cons, cv_ref]; rfl
  rw [hst]
  refine va_iald C.1.1 C.1.2.1 C.2.2.2.2.2.1 Wo.1 j 0 hw rfl (vpin_of hi g2.1 g2.2) hd ?_
  rw [clampI hi, Int.toNat_of_nonneg g2.1]
  exact h p l e R s m args below meth c D cA ad b base Ln xs H locs cells slots ls C Wo hS hL vL (vCons (v := (0, α j i)) ((Wo.2.2.1 j hj).1 g _) (vTl (vTl vS)))
theorem r_cald {a i : Int} (hd : decode M.2.1 pc = .ok (.caload, 1)) (hp : pc + 1 = pc') (g : (K.2 a).1 = 21) (g2 : 0 ≤ i ∧ i < (K.2 a).2) (h : Rn d M pc' L ((0, α a i) :: S) K φ α k Q) : Rn d M pc L ((0, i) :: (2, a) :: S) K φ α k Q := by
  intro p l e R s m args below meth c D cA ad b base Ln xs H locs cells slots ls C Wo hS hL vL vS
  subst hp
  obtain ⟨j, hj, rfl⟩ := obj_of (vHd (vTl vS))
  have hw := wl_at (cA := cA) (ad := ad) (φ := φ) (α := α) hj
  rw [ent_21 g] at hw
  have hi : inR i := vHd vS
  have hst : (((0 : Nat), i) :: ((2 : Nat), (j : Int)) :: S).map (cv ad b) = .int (Int32.ofInt i) :: .ref (ad j) :: S.map (cv ad b) := by rw [List.map_cons, List.map_cons, cv_ref]; rfl
  rw [hst]
  refine va_cald C.1.1 C.1.2.1 C.2.2.2.2.2.1 Wo.1 j 1 hw rfl (vpin_of hi g2.1 g2.2) hd ?_
  rw [clampI hi, Int.toNat_of_nonneg g2.1]
  exact h p l e R s m args below meth c D cA ad b base Ln xs H locs cells slots ls C Wo hS hL vL (vCons (v := (0, α j i)) ((by have q := (Wo.2.2.1 j hj).2.1 g i; show inR _; unfold inR; omega)) (vTl (vTl vS)))
theorem r_lald {a i : Int} (hd : decode M.2.1 pc = .ok (.laload, 1)) (hp : pc + 1 = pc') (g : (K.2 a).1 = 22) (g2 : 0 ≤ i ∧ i < (K.2 a).2) (h : Rn d M pc' L ((1, α a i) :: S) K φ α k Q) : Rn d M pc L ((0, i) :: (2, a) :: S) K φ α k Q := by
  intro p l e R s m args below meth c D cA ad b base Ln xs H locs cells slots ls C Wo hS hL vL vS
  subst hp
  obtain ⟨j, hj, rfl⟩ := obj_of (vHd (vTl vS))
  have hw := wl_at (cA := cA) (ad := ad) (φ := φ) (α := α) hj
  rw [ent_22 g] at hw
  have hi : inR i := vHd vS
  have hst : (((0 : Nat), i) :: ((2 : Nat), (j : Int)) :: S).map (cv ad b) = .int (Int32.ofInt i) :: .ref (ad j) :: S.map (cv ad b) := by rw [List.map_cons, List.map_cons, cv_ref]; rfl
  rw [hst]
  refine va_lald C.1.1 C.1.2.1 C.2.2.2.2.2.1 Wo.1 j 2 hw rfl (vpin_of hi g2.1 g2.2) hd ?_
  rw [clampI hi, Int.toNat_of_nonneg g2.1]
  exact h p l e R s m args below meth c D cA ad b base Ln xs H locs cells slots ls C Wo hS hL vL (vCons (v := (1, α j i)) ((Wo.2.2.1 j hj).2.2.1 g _) (vTl (vTl vS)))
theorem r_aald {a i : Int} (hd : decode M.2.1 pc = .ok (.aaload, 1)) (hp : pc + 1 = pc') (g : (K.2 a).1 = 23) (g2 : 0 ≤ i ∧ i < (K.2 a).2) (g3 : 0 ≤ α a i) (h : Rn d M pc' L ((2, α a i) :: S) K φ α k Q) : Rn d M pc L ((0, i) :: (2, a) :: S) K φ α k Q := by
  intro p l e R s m args below meth c D cA ad b base Ln xs H locs cells slots ls C Wo hS hL vL vS
  subst hp
  obtain ⟨j, hj, rfl⟩ := obj_of (vHd (vTl vS))
  have hw := wl_at (cA := cA) (ad := ad) (φ := φ) (α := α) hj
  rw [ent_23 g] at hw
  have hi : inR i := vHd vS
  have hst : (((0 : Nat), i) :: ((2 : Nat), (j : Int)) :: S).map (cv ad b) = .int (Int32.ofInt i) :: .ref (ad j) :: S.map (cv ad b) := by rw [List.map_cons, List.map_cons, cv_ref]; rfl
  rw [hst]
  refine va_aldq C.1.1 C.1.2.1 C.2.2.2.2.2.1 Wo.1 j 3 hw rfl (vpin_of hi g2.1 g2.2) hd ?_
  rw [clampI hi, Int.toNat_of_nonneg g2.1]
  rw [if_neg (by omega)]
  have hq := (Wo.2.2.1 j hj).2.2.2.1 g i
  exact h p l e R s m args below meth c D cA ad b base Ln xs H locs cells slots ls C Wo hS hL vL (vCons (v := (2, α j i)) ⟨g3, hq.2.1⟩ (vTl (vTl vS)))
theorem r_alen {a : Int} (hd : decode M.2.1 pc = .ok (.arraylength, 1)) (hp : pc + 1 = pc') (g : 20 ≤ (K.2 a).1 ∧ (K.2 a).1 ≤ 23) (h : Rn d M pc' L ((0, ((K.2 a).2 : Int)) :: S) K φ α k Q) : Rn d M pc L ((2, a) :: S) K φ α k Q := by
  intro p l e R s m args below meth c D cA ad b base Ln xs H locs cells slots ls C Wo hS hL vL vS
  subst hp
  obtain ⟨j, hj, rfl⟩ := obj_of (vHd vS)
  have hw := wl_at (cA := cA) (ad := ad) (φ := φ) (α := α) hj
  have hlen : (K.2 (j : Int)).2 < 2147483648 := (Wo.2.2.1 j hj).2.2.2.2.2.2
  have hst : (((2 : Nat), (j : Int)) :: S).map (cv ad b) = .ref (ad j) :: S.map (cv ad b) := by rw [List.map_cons, cv_ref]
  rw [hst]
  have hh := h p l e R s m args below meth c D cA ad b base Ln xs H locs cells slots ls C Wo hS hL vL (vCons (v := (0, ((K.2 (j : Int)).2 : Int))) (by show inR _; unfold inR; omega) (vTl vS))
  obtain ⟨x, c0, hx2, cc, t0, ty, hx4⟩ : ∃ (x : vp_A) (c0 : ClassId), ent cA ad K φ α j = .inl (c0, x) ∧ x.1 = (K.2 (j : Int)).2 ∧ ∃ (t0 : Nat) (ty : FieldType), (tyL cA)[t0]? = some (c0, ty) := by
    rcases (show (K.2 (j : Int)).1 = 20 ∨ (K.2 (j : Int)).1 = 21 ∨ (K.2 (j : Int)).1 = 22 ∨ (K.2 (j : Int)).1 = 23 by omega) with q | q | q | q
    · exact ⟨_, _, ent_20 q, rfl, 0, FieldType.int, rfl⟩
    · exact ⟨_, _, ent_21 q, rfl, 1, FieldType.char, rfl⟩
    · exact ⟨_, _, ent_22 q, rfl, 2, FieldType.long, rfl⟩
    · exact ⟨_, _, ent_23 q, rfl, 3, _, rfl⟩
  rw [hx2] at hw
  refine va_alen C.1.1 C.1.2.1 C.2.2.2.2.2.1 Wo.1 j t0 hw hx4 (v := Int32.ofInt ((K.2 (j : Int)).2 : Int)) (by rw [cc]; rfl) hd hh
theorem r_iast {a i v : Int} (hd : decode M.2.1 pc = .ok (.iastore, 1)) (hp : pc + 1 = pc') (g : (K.2 a).1 = 20) (g2 : 0 ≤ i ∧ i < (K.2 a).2) (h : Rn d M pc' L S K φ (upa α a i v) k Q) : Rn d M pc L ((0, v) :: (0, i) :: (2, a) :: S) K φ α k Q := by
  intro p l e R s m args below meth c D cA ad b base Ln xs H locs cells slots ls C Wo hS hL vL vS
  subst hp
  obtain ⟨j, hj, rfl⟩ := obj_of (vHd (vTl (vTl vS)))
  have hw := wl_at (cA := cA) (ad := ad) (φ := φ) (α := α) hj
  rw [ent_20 g] at hw
  have hi : inR i := vHd (vTl vS)
  have h0 := Wo.2.2.1 j hj
  have hst : ((0, v) :: ((0 : Nat), i) :: ((2 : Nat), (j : Int)) :: S).map (cv ad b) = .int (Int32.ofInt v) :: .int (Int32.ofInt i) :: .ref (ad j) :: S.map (cv ad b) := by rw [List.map_cons, List.map_cons, List.map_cons, cv_ref]; rfl
  rw [hst]
  refine va_iast C.1.1 C.1.2.1 C.2.2.2.2.2.1 Wo.1 Wo.2.1 hS j 0 hw rfl (vpin_of hi g2.1 g2.2) hd (fun H1 locs1 hP hD hS1 => ?_)
  rw [clampI hi] at hP hD
  refine h p l e R s m args below meth c D cA ad b base Ln xs H1 locs1 cells slots ls C (Wd_arr Wo hj (α' := upa α j i v) ?_ (fun x hx y => upa_ne hx) ?_ hP hD) hS1 hL vL (vTl (vTl (vTl vS)))
  · rw [ent_20 g]
    congr 4
    funext x
    unfold upd upa
    by_cases e : x = i.toNat
    · rw [if_pos e, if_pos ⟨rfl, by omega⟩]
    · rw [if_neg e, if_neg (fun q => e (by have := q.2; omega))]
  · exact ⟨fun _ x => by by_cases e : x = i; (· subst e; rw [upa_eq]; exact vHd vS); (· rw [upa_ni e]; exact h0.1 g x), fun q => by omega, fun q => by omega, fun q => by omega, fun q => by omega, h0.2.2.2.2.2⟩
theorem r_cast {a i v : Int} (hd : decode M.2.1 pc = .ok (.castore, 1)) (hp : pc + 1 = pc') (g : (K.2 a).1 = 21) (g2 : 0 ≤ i ∧ i < (K.2 a).2) (g3 : 0 ≤ v ∧ v < 65536) (h : Rn d M pc' L S K φ (upa α a i v) k Q) : Rn d M pc L ((0, v) :: (0, i) :: (2, a) :: S) K φ α k Q := by
  intro p l e R s m args below meth c D cA ad b base Ln xs H locs cells slots ls C Wo hS hL vL vS
  subst hp
  obtain ⟨j, hj, rfl⟩ := obj_of (vHd (vTl (vTl vS)))
  have hw := wl_at (cA := cA) (ad := ad) (φ := φ) (α := α) hj
  rw [ent_21 g] at hw
  have hi : inR i := vHd (vTl vS)
  have h0 := Wo.2.2.1 j hj
  have hst : ((0, v) :: ((0 : Nat), i) :: ((2 : Nat), (j : Int)) :: S).map (cv ad b) = .int (Int32.ofInt v) :: .int (Int32.ofInt i) :: .ref (ad j) :: S.map (cv ad b) := by rw [List.map_cons, List.map_cons, List.map_cons, cv_ref]; rfl
  rw [hst]
  refine va_cast C.1.1 C.1.2.1 C.2.2.2.2.2.1 Wo.1 Wo.2.1 hS j 1 hw rfl (vpin_of hi g2.1 g2.2) hd (fun H1 locs1 hP hD hS1 => ?_)
  rw [nar_ch g3.1 g3.2] at hP hD; rw [clampI hi] at hP hD
  refine h p l e R s m args below meth c D cA ad b base Ln xs H1 locs1 cells slots ls C (Wd_arr Wo hj (α' := upa α j i v) ?_ (fun x hx y => upa_ne hx) ?_ hP hD) hS1 hL vL (vTl (vTl (vTl vS)))
  · rw [ent_21 g]
    congr 4
    funext x
    unfold upd upa
    by_cases e : x = i.toNat
    · rw [if_pos e, if_pos ⟨rfl, by omega⟩]
    · rw [if_neg e, if_neg (fun q => e (by have := q.2; omega))]
  · exact ⟨fun q => by omega, fun _ x => by by_cases e : x = i; (· subst e; rw [upa_eq]; exact g3); (· rw [upa_ni e]; exact h0.2.1 g x), fun q => by omega, fun q => by omega, fun q => by omega, h0.2.2.2.2.2⟩
theorem r_last {a i v : Int} (hd : decode M.2.1 pc = .ok (.lastore, 1)) (hp : pc + 1 = pc') (g : (K.2 a).1 = 22) (g2 : 0 ≤ i ∧ i < (K.2 a).2) (h : Rn d M pc' L S K φ (upa α a i v) k Q) : Rn d M pc L ((1, v) :: (0, i) :: (2, a) :: S) K φ α k Q := by
  intro p l e R s m args below meth c D cA ad b base Ln xs H locs cells slots ls C Wo hS hL vL vS
  subst hp
  obtain ⟨j, hj, rfl⟩ := obj_of (vHd (vTl (vTl vS)))
  have hw := wl_at (cA := cA) (ad := ad) (φ := φ) (α := α) hj
  rw [ent_22 g] at hw
  have hi : inR i := vHd (vTl vS)
  have h0 := Wo.2.2.1 j hj
  have hst : ((1, v) :: ((0 : Nat), i) :: ((2 : Nat), (j : Int)) :: S).map (cv ad b) = .long (Int64.ofInt v) :: .int (Int32.ofInt i) :: .ref (ad j) :: S.map (cv ad b) := by rw [List.map_cons, List.map_cons, List.map_cons, cv_ref]; rfl
  rw [hst]
  refine va_last C.1.1 C.1.2.1 C.2.2.2.2.2.1 Wo.1 Wo.2.1 hS j 2 hw rfl (vpin_of hi g2.1 g2.2) hd (fun H1 locs1 hP hD hS1 => ?_)
  rw [clampI hi] at hP hD
  refine h p l e R s m args below meth c D cA ad b base Ln xs H1 locs1 cells slots ls C (Wd_arr Wo hj (α' := upa α j i v) ?_ (fun x hx y => upa_ne hx) ?_ hP hD) hS1 hL vL (vTl (vTl (vTl vS)))
  · rw [ent_22 g]
    congr 5
    funext x
    unfold vp_updL upa
    by_cases e : x = i.toNat
    · rw [if_pos e, if_pos ⟨rfl, by omega⟩]
    · rw [if_neg e, if_neg (fun q => e (by have := q.2; omega))]
  · exact ⟨fun q => by omega, fun q => by omega, fun _ x => by by_cases e : x = i; (· subst e; rw [upa_eq]; exact vHd vS); (· rw [upa_ni e]; exact h0.2.2.1 g x), fun q => by omega, fun q => by omega, h0.2.2.2.2.2⟩
theorem r_aast {a i v : Int} (hd : decode M.2.1 pc = .ok (.aastore, 1)) (hp : pc + 1 = pc') (g : (K.2 a).1 = 23) (g2 : 0 ≤ i ∧ i < (K.2 a).2) (g3 : (K.2 v).1 = 7) (h : Rn d M pc' L S K φ (upa α a i v) k Q) : Rn d M pc L ((2, v) :: (0, i) :: (2, a) :: S) K φ α k Q := by
  intro p l e R s m args below meth c D cA ad b base Ln xs H locs cells slots ls C Wo hS hL vL vS
  subst hp
  obtain ⟨j, hj, rfl⟩ := obj_of (vHd (vTl (vTl vS)))
  obtain ⟨j2, hj2, rfl⟩ := obj_of (vHd vS)
  have hw := wl_at (cA := cA) (ad := ad) (φ := φ) (α := α) hj
  rw [ent_23 g] at hw
  have hw2 := wl_at (cA := cA) (ad := ad) (φ := φ) (α := α) hj2
  rw [ent_cls g3 (by omega)] at hw2
  have hi : inR i := vHd (vTl vS)
  have h0 := Wo.2.2.1 j hj
  have hst : (((2 : Nat), (j2 : Int)) :: ((0 : Nat), i) :: ((2 : Nat), (j : Int)) :: S).map (cv ad b) = .ref (ad j2) :: .int (Int32.ofInt i) :: .ref (ad j) :: S.map (cv ad b) := by rw [List.map_cons, List.map_cons, List.map_cons, cv_ref, cv_ref]; rfl
  rw [hst]
  refine va_astq (r := (RX7, TX7, 11)) C.1.1 C.1.2.1 C.2.2.2.2.2.1 Wo.1 Wo.2.1 hS j 3 j2 7 hw rfl hw2 rfl (vpin_of hi g2.1 g2.2) hd (fun H1 locs1 hP hD hS1 => ?_)
  rw [clampI hi] at hP hD
  refine h p l e R s m args below meth c D cA ad b base Ln xs H1 locs1 cells slots ls C (Wd_arr Wo hj (α' := upa α j i j2) ?_ (fun x hx y => upa_ne hx) ?_ hP hD) hS1 hL vL (vTl (vTl (vTl vS)))
  · rw [ent_23 g]
    congr 7
    funext x
    unfold va_up
    by_cases e : x = i.toNat
    · have e2 : (x : Int) = i := by omega
      rw [if_pos e, e2, upa_eq, if_neg (by omega)]
      simp
    · rw [if_neg e, upa_ni (by omega)]
  · exact ⟨fun q => by omega, fun q => by omega, fun q => by omega, fun _ x => by by_cases e : x = i; (· subst e; rw [upa_eq]; exact ⟨by omega, by omega, fun _ => g3⟩); (· rw [upa_ni e]; exact h0.2.2.2.1 g x), fun q => by omega, h0.2.2.2.2.2⟩
theorem r_sld {i x : Int} (hd : decode M.2.1 pc = .ok (.iaload, 1)) (hp : pc + 1 = pc') (g2 : 0 ≤ i ∧ i < (K.2 (-1)).2) (h : Rn d M pc' L ((0, α (-1) i) :: S) K φ α k Q) : Rn d M pc L ((0, i) :: (4, x) :: S) K φ α k Q := by
  intro p l e R s m args below meth c D cA ad b base Ln xs H locs cells slots ls C Wo hS hL vL vS
  subst hp
  have hi : inR i := vHd vS
  obtain ⟨-, -, -, w4, w5, w6⟩ := id Wo
  rw [w4] at g2
  have hst : (((0 : Nat), i) :: ((4 : Nat), x) :: S).map (cv ad b) = .int (Int32.ofInt i) :: .ref b :: S.map (cv ad b) := rfl
  rw [hst]
  refine va_sld C.1.1 C.1.2.1 C.2.2.2.2.2.2.2.2.1 (Nat.lt_of_lt_of_le C.2.2.2.2.2.2.2.1 C.2.2.2.2.2.2.1) (Nat.not_le.mpr C.2.2.2.2.2.2.2.1) hS (vpin_of hi g2.1 g2.2) hd ?_
  have ez := w6 i.toNat (by have := g2.2; dsimp only at this; omega)
  rw [Int.toNat_of_nonneg g2.1] at ez
  rw [clampI hi, ← ofInt_toInt (xs i.toNat), ← ez]
  exact h p l e R s m args below meth c D cA ad b base Ln xs H locs cells slots ls C Wo hS hL vL (vCons (v := (0, α (-1) i)) (by show inR _; rw [ez]; exact toInt_inR _) (vTl (vTl vS)))
theorem r_slen {x : Int} (hd : decode M.2.1 pc = .ok (.arraylength, 1)) (hp : pc + 1 = pc') (h : Rn d M pc' L ((0, ((K.2 (-1)).2 : Int)) :: S) K φ α k Q) : Rn d M pc L ((4, x) :: S) K φ α k Q := by
  intro p l e R s m args below meth c D cA ad b base Ln xs H locs cells slots ls C Wo hS hL vL vS
  subst hp
  obtain ⟨-, -, -, w4, w5, w6⟩ := id Wo
  have hh := h p l e R s m args below meth c D cA ad b base Ln xs H locs cells slots ls C Wo hS hL vL (vCons (v := (0, ((K.2 (-1)).2 : Int))) (by show inR _; rw [w4]; unfold inR; dsimp only; omega) (vTl vS))
  refine va_slen C.1.1 C.1.2.1 C.2.2.2.2.2.2.2.2.1 (Nat.lt_of_lt_of_le C.2.2.2.2.2.2.2.1 C.2.2.2.2.2.2.1) (Nat.not_le.mpr C.2.2.2.2.2.2.2.1) hS hd ?_
  rw [w4] at hh
  exact hh
end ARR
