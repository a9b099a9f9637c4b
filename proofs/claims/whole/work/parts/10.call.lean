theorem ent_bx {cA : Nat → ClassId} {ad ad' : Nat → Nat} {K K' : bK} {φ φ' : aF} {α α' : aA} {j : Nat} (ha : ∀ j, j < K.1 → ad' j = ad j) (hK : K'.2 (j : Int) = K.2 (j : Int)) (h1 : ∀ c f, φ' c f j = φ c f j) (h2 : ∀ i, α' j i = α j i) (hok : jOk K φ α j) : ent cA ad' K' φ' α' j = ent cA ad K φ α j := by
  obtain ⟨o1, o2, o3, o4, o5, o6, o7⟩ := hok
  by_cases c20 : (K.2 (j : Int)).1 = 20
  · rw [ent_20 c20, ent_20 (by rw [hK]; exact c20), hK]; simp only [h2]
  by_cases c21 : (K.2 (j : Int)).1 = 21
  · rw [ent_21 c21, ent_21 (by rw [hK]; exact c21), hK]; simp only [h2]
  by_cases c22 : (K.2 (j : Int)).1 = 22
  · rw [ent_22 c22, ent_22 (by rw [hK]; exact c22), hK]; simp only [h2]
  by_cases c23 : (K.2 (j : Int)).1 = 23
  · rw [ent_23 c23, ent_23 (by rw [hK]; exact c23), hK]
    congr 7
    funext i
    rw [h2]
    by_cases h : α j i < 0
    · rw [if_pos h, if_pos h]
    · have := o4 c23 i
      rw [if_neg h, if_neg h, ha _ (by omega)]
  · obtain ⟨q1, q2⟩ := o5 (by omega)
    rw [ent_cls rfl q1, ent_cls (K := K') (by rw [hK]) q1]
    congr 2
    apply List.map_congr_left
    intro f hf
    rw [h1, fcv_bx ha (q2 f (List.mem_range.mp hf))]
theorem wl_push {cA : Nat → ClassId} {ad : Nat → Nat} {K K' : bK} {φ φ' : aF} {α α' : aA} {q : Nat} {e : va_E} (hn : K'.1 = K.1 + 1) (hK : ∀ j : Int, j < K.1 → K'.2 j = K.2 j) (h1 : ∀ (j : Int), j < K.1 → ∀ c f, φ' c f j = φ c f j) (h2 : ∀ (j : Int), j < K.1 → ∀ i, α' j i = α j i) (hok : ∀ j, j < K.1 → jOk K φ α j) (he : ent cA (fun j => if j = K.1 then q else ad j) K' φ' α' K.1 = e) : wl cA ad K φ α ++ [(q, e)] = wl cA (fun j => if j = K.1 then q else ad j) K' φ' α' := by
  apply List.ext_getElem?
  intro i
  by_cases hi : i < K.1
  · rw [List.getElem?_append_left (by rw [wl_len]; exact hi), wl_at hi, wl_at (by omega)]
    rw [if_neg (by omega), ent_bx (ad := ad) (K := K) (φ := φ) (α := α) (fun j hj => by rw [if_neg (by omega)]) (hK i (by omega)) (h1 i (by omega)) (h2 i (by omega)) (hok i hi)]
  · by_cases hi2 : i = K.1
    · subst hi2
      rw [List.getElem?_append_right (by rw [wl_len]; exact Nat.le_refl _), wl_at (by omega), wl_len, Nat.sub_self]
      simp [he]
    · rw [List.getElem?_eq_none (by rw [List.length_append, wl_len]; simp; omega), List.getElem?_eq_none (by rw [wl_len]; omega)]
theorem jOk_bx {K K' : bK} {φ φ' : aF} {α α' : aA} {j : Nat} (hn : K.1 ≤ K'.1) (hj : j < K.1) (hK : ∀ j : Int, j < K.1 → K'.2 j = K.2 j) (h1 : ∀ c f, φ' c f j = φ c f j) (h2 : ∀ i, α' j i = α j i) (h : jOk K φ α j) : jOk K' φ' α' j := by
  obtain ⟨o1, o2, o3, o4, o5, o6, o7⟩ := h
  unfold jOk
  rw [hK j (by omega)]
  simp only [h1, h2]
  refine ⟨o1, o2, o3, fun g i => ?_, fun g => ⟨(o5 g).1, fun f hf => ?_⟩, o6, o7⟩
  · have := o4 g i
    exact ⟨this.1, by omega, fun h0 => by rw [hK _ (by omega)]; exact this.2.2 h0⟩
  · have := (o5 g).2 f hf
    unfold fOk at *
    split <;> simp_all
    omega
theorem Wd_push {D : va_G} {cA : Nat → ClassId} {ad : Nat → Nat} {A : Nat → Prop} {Ln : Nat} {xs : Nat → Int32} {H1 : Heap} {K K' : bK} {φ φ' : aF} {α α' : aA} {q : Nat} {e : va_E} {H : Heap} (Wo : Wd D cA ad A Ln xs K φ α H) (hn : K'.1 = K.1 + 1) (hK : ∀ j : Int, j < K.1 → K'.2 j = K.2 j) (h1 : ∀ (j : Int), j < K.1 → ∀ c f, φ' c f j = φ c f j) (h2 : ∀ (j : Int), j < K.1 → ∀ i, α' j i = α j i) (hok : jOk K' φ' α' K.1) (he : ent cA (fun j => if j = K.1 then q else ad j) K' φ' α' K.1 = e) (hP : va_P D vCl (wl cA ad K φ α ++ [(q, e)]) H1) (hD : va_D A (wl cA ad K φ α ++ [(q, e)])) : Wd D cA (fun j => if j = K.1 then q else ad j) A Ln xs K' φ' α' H1 := by
  rw [wl_push hn hK h1 h2 Wo.2.2.1 he] at hP hD
  refine ⟨hP, hD, fun j hj => ?_, by rw [hK (-1) (by omega)]; exact Wo.2.2.2.1, Wo.2.2.2.2.1, fun i hi => by rw [h2 (-1) (by omega)]; exact Wo.2.2.2.2.2 i hi⟩
  by_cases hj2 : j = K.1
  · rw [hj2]; exact hok
  · exact jOk_bx (by omega) (by omega) hK (h1 j (by omega)) (h2 j (by omega)) (Wo.2.2.1 j (by omega))
def newK (K : bK) (q : Nat × Nat) : bK := (K.1 + 1, fun j => if j = K.1 then q else K.2 j)
def newF (K : bK) (φ : aF) : aF := fun c f o => if o = K.1 then (if fT c f = 2 then -1 else 0) else φ c f o
def newA (K : bK) (α : aA) (v : Int) : aA := fun a i => if a = K.1 then v else α a i
theorem newK_lt {K : bK} {q : Nat × Nat} {j : Int} (h : j < K.1) : (newK K q).2 j = K.2 j := by unfold newK; dsimp only; rw [if_neg (by omega)]
theorem newF_lt {K : bK} {φ : aF} {c f : Nat} {j : Int} (h : j < K.1) : newF K φ c f j = φ c f j := by unfold newF; rw [if_neg (by omega)]
theorem newA_lt {K : bK} {α : aA} {v i : Int} {j : Int} (h : j < K.1) : newA K α v j i = α j i := by unfold newA; rw [if_neg (by omega)]
section NEWS
variable {d : Nat} {M : aM} {pc pc' : Nat} {L S : List aV} {K : bK} {φ : aF} {α : aA} {k : Nat × Nat} {Q : bQ}
/-- what is left to do behind a new cell -/
theorem r_born {p : Program} {l : Launch} {e : Env} {R : Room} {s : State} {m : MethodId} {args : Array Value} {below : List Frame} {meth : Method} {c : Code} {D : va_G} {cA : Nat → ClassId} {ad : Nat → Nat} {b base Ln : Nat} {xs : Nat → Int32} {H : Heap} {locs : List Loc} {cells slots N q : Nat} {ls : Array Slot} {K' : bK} {φ' : aF} {α' : aA} (hn : K'.1 = K.1 + 1) (hK : ∀ j : Int, j < K.1 → K'.2 j = K.2 j)
    (h : Rn d M pc' L ((2, (K.1 : Int)) :: S) K' φ' α' k Q) (C : Cx M d (1 + k.1, N + k.2) p R s m args meth c cells slots D cA b base Ln xs) (Wo : Wd D cA (fun j => if j = K.1 then q else ad j) (fun q => base ≤ q) Ln xs K' φ' α' H) (hS : va_S (fun q => base ≤ q) s.heap H locs) (hL : aLs ad b ls M.2.2.1 L) (vL : ∀ v ∈ L, vOk K.1 v) (vS : ∀ v ∈ S, vOk K.1 v) :
    W p l e R s m args below meth c H locs (cells + 1) (slots + N) (MQ below (Fq D cA ad (fun q => base ≤ q) b Ln xs K Q) args s (cells + (1 + k.1)) (slots + (N + k.2)) (fun q => base ≤ q)) (F0 m pc' ls (.ref q :: S.map (cv ad b))) := by
  have ha : ∀ j, j < K.1 → (fun j => if j = K.1 then q else ad j) j = ad j := fun j hj => by dsimp only; rw [if_neg (by omega)]
  have hx : bXt K K' ad (fun j => if j = K.1 then q else ad j) := ⟨by omega, ha, hK⟩
  have hh := h p l e R s m args below meth c D cA (fun j => if j = K.1 then q else ad j) b base Ln xs H locs (cells + 1) (slots + N) ls ⟨C.1, C.2.1, C.2.2.1, C.2.2.2.1, ⟨C.2.2.2.2.1.1, C.2.2.2.2.1.2.1, by have := C.2.2.2.2.1.2.2.1; dsimp only at this; omega, by have := C.2.2.2.2.1.2.2.2; dsimp only at this; omega⟩, C.2.2.2.2.2⟩ Wo hS (aLs_bx ha vL hL) (vs_mono hx.1 vL) (vCons (v := (2, (K.1 : Int))) ⟨by show (0 : Int) ≤ (K.1 : Int); omega, by show (K.1 : Int) < _; omega⟩ (vs_mono hx.1 vS))
  have e1 : ((2, (K.1 : Int)) :: S).map (cv (fun j => if j = K.1 then q else ad j) b) = .ref q :: S.map (cv ad b) := by
    rw [List.map_cons, cv_ref, map_bx ha vS]
    simp
  rw [e1, Nat.add_assoc, Nat.add_assoc] at hh
  exact W.mono (MQ.mono fun o t hq => Fq.tr hx hq) hh
def okTy : FieldType → Bool
  | .int => true
  | .boolean => true
  | .long => true
  | .object _ => true
  | .array _ => true
  | _ => false
theorem r_new {ix ci N : Nat} (hd : decode M.2.1 pc = .ok (.new ix, 3)) (hp : pc + 3 = pc') (hk : ∃ (C : String) (T : u_T), CK ci C T N ∧ Cond.classLink M.1.cls ix C ∈ lw_h ∧ Cond.instantiable C N ∈ lw_h ∧ Cond.initialized C ∈ lw_h) (hty : ∀ j, j < N → okTy (fTy ci j) = true) (h : Rn d M pc' L ((2, (K.1 : Int)) :: S) (newK K (ci, 0)) (newF K φ) α k Q) : Rn d M pc L S K φ α (1 + k.1, N + k.2) Q := by
  intro p l e R s m args below meth c D cA ad b base Ln xs H locs cells slots ls C Wo hS hL vL vS
  subst hp
  obtain ⟨C0, T0, ⟨c1, c2, c3, c4, c5, c6⟩, f1, f2, f3⟩ := hk
  have hr1 := C.2.2.2.2.1.2.2.1
  have hr2 := C.2.2.2.2.1.2.2.2
  dsimp only at hr1 hr2
  have hdf : ∀ ad' : Nat → Nat, ∀ j, j < N → defaultValue (fTy ci j) = vp_V ((List.range (fNo ci)).map (fun k => fcv ad' (fT ci k) (newF K φ ci k (K.1 : Int)))) j := by
    intro ad' j hj
    unfold vp_V
    rw [List.getD_eq_getElem?_getD, List.getElem?_map, List.getElem?_range (by rw [c5]; exact hj)]
    simp only [Option.map_some, Option.getD_some, newF, if_true]
    unfold fT
    have ho := hty j hj
    generalize fTy ci j = ty at ho
    cases ty <;> first | rfl | cases ho
  refine va_new C.1.1 C.1.2.1 C.2.1 c2 (fTy ci) c3 C.1.2.2.2.2 (C.2.1 _ f1) (C.2.1 _ f2) (C.2.1 _ f3) C.2.2.2.2.2.1 Wo.1 Wo.2.1 hS (fun q hq => Nat.le_trans C.2.2.2.2.2.2.1 hq) c1 (hdf (fun j => ad j)) (by omega) (by omega) hd (fun q H1 hP hD hS1 => ?_)
  have hkk : (newK K (ci, 0)).2 ((K.1 : Nat) : Int) = (ci, 0) := by unfold newK; simp
  refine r_born (K' := newK K (ci, 0)) rfl (fun j hj => newK_lt hj) h C (Wd_push Wo rfl (fun j hj => newK_lt hj) (fun j hj c f => newF_lt hj) (fun _ _ _ => rfl) ?_ ?_ hP hD) hS1 hL vL vS
  · refine ⟨fun g => by rw [hkk] at g; dsimp only at g; omega, fun g => by rw [hkk] at g; dsimp only at g; omega, fun g => by rw [hkk] at g; dsimp only at g; omega, fun g => by rw [hkk] at g; dsimp only at g; omega, fun _ => ⟨by rw [hkk]; exact c6, fun f hf => ?_⟩, by rw [hkk]; dsimp only; omega, by rw [hkk]; dsimp only; omega⟩
    rw [hkk] at hf ⊢
    unfold newF
    rw [if_pos rfl]
    dsimp only
    have h2 := fTag_le (fTy ci f)
    rcases (show fT ci f = 0 ∨ fT ci f = 1 ∨ fT ci f = 2 by unfold fT; omega) with q | q | q <;> rw [q]
    · exact ⟨by simp, by simp⟩
    · exact ⟨by simp, by simp⟩
    · exact ⟨by simp, by simp [newK]; omega⟩
  · rw [ent_cls (ci := ci) (by rw [hkk]) c6]
    congr 2
    apply List.map_congr_left
    intro f hf
    unfold newF
    rw [if_pos rfl]
    rcases (show fT ci f = 0 ∨ fT ci f = 1 ∨ fT ci f = 2 by have := fTag_le (fTy ci f); unfold fT; omega) with q | q | q <;> rw [q] <;> rfl
theorem r_newai {n : Nat} (hd : decode M.2.1 pc = .ok (.newarray .int, 2)) (hp : pc + 2 = pc') (hk : Cond.arrayClass (newarray.typeOf .int) ∈ lw_h) (g : n < 60000000) (h : Rn d M pc' L ((2, (K.1 : Int)) :: S) (newK K (20, n)) φ (newA K α 0) k Q) : Rn d M pc L ((0, (n : Int)) :: S) K φ α (1 + k.1, n + k.2) Q := by
  intro p l e R s m args below meth c D cA ad b base Ln xs H locs cells slots ls C Wo hS hL vL vS
  subst hp
  have hr1 := C.2.2.2.2.1.2.2.1
  have hr2 := C.2.2.2.2.1.2.2.2
  dsimp only at hr1 hr2
  have hi : inR (n : Int) := vHd vS
  refine va_newa (ty := .int) (a0 := (n, .inl (fun _ => Int32.ofInt 0))) C.1.1 C.1.2.1 (C.2.1 _ hk) rfl C.2.2.2.2.2.1 Wo.1 Wo.2.1 hS (fun q hq => Nat.le_trans C.2.2.2.2.2.2.1 hq) (fun cA => by first | rfl | (unfold vp_cell arrV; simp; rfl)) (n := Int32.ofInt (n : Int)) (N' := n) (by rw [show (0 : Int32) = Int32.ofInt 0 from rfl, i32_lt hi inR0]; omega) (by rw [clampI hi]; simp) (by show n * 4 ≤ _; omega) (by omega) (by omega) hd (fun q cA1 H1 hK1 hP hD hS1 => ?_)
  have e1 : cA1 = cA 0 := by
    have a1 := (hK1.2 4 _ rfl).2
    have a2 := (C.2.2.2.2.2.1.2 0 _ rfl).2
    exact Option.some.inj (a1.symm.trans a2)
  subst e1
  have hkk : (newK K (20, n)).2 ((K.1 : Nat) : Int) = (20, n) := by unfold newK; simp
  refine r_born (K' := newK K (20, n)) rfl (fun j hj => newK_lt hj) h C (Wd_push Wo rfl (fun j hj => newK_lt hj) (fun _ _ _ _ => rfl) (fun j hj i => newA_lt hj) ?_ ?_ hP hD) hS1 hL vL (vTl vS)
  · exact ⟨fun _ i => by unfold newA; rw [if_pos rfl]; exact inR0, fun g => by rw [hkk] at g; dsimp only at g; omega, fun g => by rw [hkk] at g; dsimp only at g; omega, fun g => by rw [hkk] at g; dsimp only at g; omega, fun g => by rw [hkk] at g; dsimp only at g; omega, by rw [hkk]; dsimp only; omega, by rw [hkk]; dsimp only; omega⟩
  · rw [ent_20 (by rw [hkk]), hkk]
    simp only [newA, if_true]
theorem r_newac {n : Nat} (hd : decode M.2.1 pc = .ok (.newarray .char, 2)) (hp : pc + 2 = pc') (hk : Cond.arrayClass (newarray.typeOf .char) ∈ lw_h) (g : n < 60000000) (h : Rn d M pc' L ((2, (K.1 : Int)) :: S) (newK K (21, n)) φ (newA K α 0) k Q) : Rn d M pc L ((0, (n : Int)) :: S) K φ α (1 + k.1, n + k.2) Q := by
  intro p l e R s m args below meth c D cA ad b base Ln xs H locs cells slots ls C Wo hS hL vL vS
  subst hp
  have hr1 := C.2.2.2.2.1.2.2.1
  have hr2 := C.2.2.2.2.1.2.2.2
  dsimp only at hr1 hr2
  have hi : inR (n : Int) := vHd vS
  refine va_newa (ty := .char) (a0 := (n, .inl (fun _ => Int32.ofInt 0))) C.1.1 C.1.2.1 (C.2.1 _ hk) rfl C.2.2.2.2.2.1 Wo.1 Wo.2.1 hS (fun q hq => Nat.le_trans C.2.2.2.2.2.2.1 hq) (fun cA => by first | rfl | (unfold vp_cell arrV; simp; rfl)) (n := Int32.ofInt (n : Int)) (N' := n) (by rw [show (0 : Int32) = Int32.ofInt 0 from rfl, i32_lt hi inR0]; omega) (by rw [clampI hi]; simp) (by show n * 2 ≤ _; omega) (by omega) (by omega) hd (fun q cA1 H1 hK1 hP hD hS1 => ?_)
  have e1 : cA1 = cA 1 := by
    have a1 := (hK1.2 4 _ rfl).2
    have a2 := (C.2.2.2.2.2.1.2 1 _ rfl).2
    exact Option.some.inj (a1.symm.trans a2)
  subst e1
  have hkk : (newK K (21, n)).2 ((K.1 : Nat) : Int) = (21, n) := by unfold newK; simp
  refine r_born (K' := newK K (21, n)) rfl (fun j hj => newK_lt hj) h C (Wd_push Wo rfl (fun j hj => newK_lt hj) (fun _ _ _ _ => rfl) (fun j hj i => newA_lt hj) ?_ ?_ hP hD) hS1 hL vL (vTl vS)
  · exact ⟨fun g => by rw [hkk] at g; dsimp only at g; omega, fun _ i => by unfold newA; rw [if_pos rfl]; omega, fun g => by rw [hkk] at g; dsimp only at g; omega, fun g => by rw [hkk] at g; dsimp only at g; omega, fun g => by rw [hkk] at g; dsimp only at g; omega, by rw [hkk]; dsimp only; omega, by rw [hkk]; dsimp only; omega⟩
  · rw [ent_21 (by rw [hkk]), hkk]
    simp only [newA, if_true]
theorem r_newal {n : Nat} (hd : decode M.2.1 pc = .ok (.newarray .long, 2)) (hp : pc + 2 = pc') (hk : Cond.arrayClass (newarray.typeOf .long) ∈ lw_h) (g : n < 60000000) (h : Rn d M pc' L ((2, (K.1 : Int)) :: S) (newK K (22, n)) φ (newA K α 0) k Q) : Rn d M pc L ((0, (n : Int)) :: S) K φ α (1 + k.1, n + k.2) Q := by
  intro p l e R s m args below meth c D cA ad b base Ln xs H locs cells slots ls C Wo hS hL vL vS
  subst hp
  have hr1 := C.2.2.2.2.1.2.2.1
  have hr2 := C.2.2.2.2.1.2.2.2
  dsimp only at hr1 hr2
  have hi : inR (n : Int) := vHd vS
  refine va_newa (ty := .long) (a0 := (n, .inr (.inl (fun _ => Int64.ofInt 0)))) C.1.1 C.1.2.1 (C.2.1 _ hk) rfl C.2.2.2.2.2.1 Wo.1 Wo.2.1 hS (fun q hq => Nat.le_trans C.2.2.2.2.2.2.1 hq) (fun cA => by first | rfl | (unfold vp_cell arrV; simp; rfl)) (n := Int32.ofInt (n : Int)) (N' := n) (by rw [show (0 : Int32) = Int32.ofInt 0 from rfl, i32_lt hi inR0]; omega) (by rw [clampI hi]; simp) (by show n * 8 ≤ _; omega) (by omega) (by omega) hd (fun q cA1 H1 hK1 hP hD hS1 => ?_)
  have e1 : cA1 = cA 2 := by
    have a1 := (hK1.2 4 _ rfl).2
    have a2 := (C.2.2.2.2.2.1.2 2 _ rfl).2
    exact Option.some.inj (a1.symm.trans a2)
  subst e1
  have hkk : (newK K (22, n)).2 ((K.1 : Nat) : Int) = (22, n) := by unfold newK; simp
  refine r_born (K' := newK K (22, n)) rfl (fun j hj => newK_lt hj) h C (Wd_push Wo rfl (fun j hj => newK_lt hj) (fun _ _ _ _ => rfl) (fun j hj i => newA_lt hj) ?_ ?_ hP hD) hS1 hL vL (vTl vS)
  · exact ⟨fun g => by rw [hkk] at g; dsimp only at g; omega, fun g => by rw [hkk] at g; dsimp only at g; omega, fun _ i => by unfold newA; rw [if_pos rfl]; exact inR_inJ inR0, fun g => by rw [hkk] at g; dsimp only at g; omega, fun g => by rw [hkk] at g; dsimp only at g; omega, by rw [hkk]; dsimp only; omega, by rw [hkk]; dsimp only; omega⟩
  · rw [ent_22 (by rw [hkk]), hkk]
    simp only [newA, if_true]
theorem r_newq {ix n : Nat} (hd : decode M.2.1 pc = .ok (.anewarray ix, 3)) (hp : pc + 3 = pc') (hk : Cond.classLink M.1.cls ix "SpongeClerks$State" ∈ lw_h) (g : n < 60000000) (h : Rn d M pc' L ((2, (K.1 : Int)) :: S) (newK K (23, n)) φ (newA K α (-1)) k Q) : Rn d M pc L ((0, (n : Int)) :: S) K φ α (1 + k.1, n + k.2) Q := by
  intro p l e R s m args below meth c D cA ad b base Ln xs H locs cells slots ls C Wo hS hL vL vS
  subst hp
  have hr1 := C.2.2.2.2.1.2.2.1
  have hr2 := C.2.2.2.2.1.2.2.2
  dsimp only at hr1 hr2
  have hi : inR (n : Int) := vHd vS
  refine va_newq C.1.1 C.1.2.1 C.1.2.2.2.2 (C.2.1 _ hk) C.2.2.2.2.2.2.2.2.2.1 C.2.2.2.2.2.1 Wo.1 Wo.2.1 hS (fun q hq => Nat.le_trans C.2.2.2.2.2.2.1 hq) (n := Int32.ofInt (n : Int)) (N' := n) (by rw [show (0 : Int32) = Int32.ofInt 0 from rfl, i32_lt hi inR0]; omega) (by rw [clampI hi]; simp) (by omega) (by omega) (by omega) hd (fun q cA1 H1 hK1 hP hD hS1 => ?_)
  have e1 : cA1 = cA 3 := by
    obtain ⟨_, _, _, _, _, a1⟩ := (hK1.2 4 _ rfl).2
    obtain ⟨_, _, _, _, _, a2⟩ := (C.2.2.2.2.2.1.2 3 _ rfl).2
    exact Option.some.inj (a1.symm.trans a2)
  subst e1
  have hkk : (newK K (23, n)).2 ((K.1 : Nat) : Int) = (23, n) := by unfold newK; simp
  refine r_born (K' := newK K (23, n)) rfl (fun j hj => newK_lt hj) h C (Wd_push Wo rfl (fun j hj => newK_lt hj) (fun _ _ _ _ => rfl) (fun j hj i => newA_lt hj) ?_ ?_ hP hD) hS1 hL vL (vTl vS)
  · exact ⟨fun g => by rw [hkk] at g; dsimp only at g; omega, fun g => by rw [hkk] at g; dsimp only at g; omega, fun g => by rw [hkk] at g; dsimp only at g; omega, fun _ i => by unfold newA; rw [if_pos rfl]; exact ⟨by omega, by unfold newK; dsimp only; omega, fun z => by omega⟩, fun g => by rw [hkk] at g; dsimp only at g; omega, by rw [hkk]; dsimp only; omega, by rw [hkk]; dsimp only; omega⟩
  · rw [ent_23 (by rw [hkk]), hkk]
    simp only [newA, if_true]
    rfl
end NEWS
