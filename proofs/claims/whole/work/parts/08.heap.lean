def upf (φ : aF) (c f : Nat) (o v : Int) : aF := fun c' f' o' => if c' = c ∧ f' = f ∧ o' = o then v else φ c' f' o'
def upa (α : aA) (a i v : Int) : aA := fun a' i' => if a' = a ∧ i' = i then v else α a' i'
def CK (ci : Nat) (C : String) (T : u_T) (N : Nat) : Prop := vCl[ci]? = some (C, T, N) ∧ (∀ w ∈ u_ws C T N, w ∈ lw_h) ∧ (∀ k, k < N → parseFieldDescriptor (T k).2.2.1 = some (fTy ci k)) ∧ (∀ a, a < N → ∀ b, b < N → a ≠ b → (T a).2.1 ≠ (T b).2.1) ∧ fNo ci = N ∧ ci < 12
def FK (own : String) (ix ci f : Nat) : Prop := ∃ (C : String) (T : u_T) (N : Nat), CK ci C T N ∧ f < N ∧ Cond.fieldLink own ix (T f).1 (T f).2.1 (T f).2.2.1 ∈ lw_h
/-- a field that is no final one -/
def FN (ci f : Nat) : Prop := ∀ (C : String) (T : u_T) (N : Nat), vCl[ci]? = some (C, T, N) → (T f).2.2.2 = false
/-- a final field of the class itself -/
def FF (own : String) (ci f : Nat) : Prop := ∀ (C : String) (T : u_T) (N : Nat), vCl[ci]? = some (C, T, N) → (T f).2.2.2 = true ∧ (T f).1 = own
def putOk (ty : FieldType) (t : Nat) (v : Int) : Prop := match ty with
  | .int => t = 0
  | .boolean => t = 0 ∧ (v = 0 ∨ v = 1)
  | .long => t = 1
  | .object _ => t = 2
  | .array _ => t = 2
  | _ => False
theorem wl_at {cA : Nat → ClassId} {ad : Nat → Nat} {K : bK} {φ : aF} {α : aA} {j : Nat} (h : j < K.1) : (wl cA ad K φ α)[j]? = some (ad j, ent cA ad K φ α j) := by simp [wl, h]
theorem wl_len {cA : Nat → ClassId} {ad : Nat → Nat} {K : bK} {φ : aF} {α : aA} : (wl cA ad K φ α).length = K.1 := by simp [wl]
theorem ent_cls {cA : Nat → ClassId} {ad : Nat → Nat} {K : bK} {φ : aF} {α : aA} {j ci : Nat} (g : (K.2 (j : Int)).1 = ci) (hc : ci < 12) : ent cA ad K φ α j = .inr (ci, (List.range (fNo ci)).map (fun k => fcv ad (fT ci k) (φ ci k j))) := by
  unfold ent
  rw [if_neg (by omega), if_neg (by omega), if_neg (by omega), if_neg (by omega), g]
theorem ent_20 {cA : Nat → ClassId} {ad : Nat → Nat} {K : bK} {φ : aF} {α : aA} {j : Nat} (g : (K.2 (j : Int)).1 = 20) : ent cA ad K φ α j = .inl (cA 0, (K.2 j).2, .inl (fun i => Int32.ofInt (α j i))) := by
  unfold ent
  rw [if_pos g]
theorem ent_21 {cA : Nat → ClassId} {ad : Nat → Nat} {K : bK} {φ : aF} {α : aA} {j : Nat} (g : (K.2 (j : Int)).1 = 21) : ent cA ad K φ α j = .inl (cA 1, (K.2 j).2, .inl (fun i => Int32.ofInt (α j i))) := by
  unfold ent
  rw [if_neg (by omega), if_pos g]
theorem ent_22 {cA : Nat → ClassId} {ad : Nat → Nat} {K : bK} {φ : aF} {α : aA} {j : Nat} (g : (K.2 (j : Int)).1 = 22) : ent cA ad K φ α j = .inl (cA 2, (K.2 j).2, .inr (.inl (fun i => Int64.ofInt (α j i)))) := by
  unfold ent
  rw [if_neg (by omega), if_neg (by omega), if_pos g]
theorem ent_23 {cA : Nat → ClassId} {ad : Nat → Nat} {K : bK} {φ : aF} {α : aA} {j : Nat} (g : (K.2 (j : Int)).1 = 23) : ent cA ad K φ α j = .inl (cA 3, (K.2 j).2, .inr (.inr (.inr (.inr (fun i => if α j i < 0 then none else some (ad (α j i).toNat)))))) := by
  unfold ent
  rw [if_neg (by omega), if_neg (by omega), if_neg (by omega), if_pos g]
theorem ent_ext {cA : Nat → ClassId} {ad : Nat → Nat} {K : bK} {φ φ' : aF} {α α' : aA} {j : Nat} (h1 : ∀ c f, φ' c f j = φ c f j) (h2 : ∀ i, α' j i = α j i) : ent cA ad K φ' α' j = ent cA ad K φ α j := by
  unfold ent
  simp only [h1, h2]
theorem wl_set {cA : Nat → ClassId} {ad : Nat → Nat} {K : bK} {φ φ' : aF} {α α' : aA} {j : Nat} {e : va_E} (hj : j < K.1) (he : ent cA ad K φ' α' j = e) (h1 : ∀ (i : Nat), i ≠ j → ∀ c f, φ' c f i = φ c f i) (h2 : ∀ (i : Nat), i ≠ j → ∀ x, α' i x = α i x) : (wl cA ad K φ α).set j (ad j, e) = wl cA ad K φ' α' := by
  apply List.ext_getElem?
  intro i
  by_cases hi : i < K.1
  · rw [wl_at hi]
    by_cases hij : i = j
    · subst hij
      rw [List.getElem?_set_self (by rw [wl_len]; exact hi), he]
    · rw [List.getElem?_set_ne (fun q => hij q.symm), wl_at hi, ent_ext (h1 i hij) (h2 i hij)]
  · rw [List.getElem?_eq_none (by rw [List.length_set, wl_len]; omega), List.getElem?_eq_none (by rw [wl_len]; omega)]
theorem jOk_ext {K : bK} {φ φ' : aF} {α α' : aA} {j : Nat} (h1 : ∀ c f, φ' c f j = φ c f j) (h2 : ∀ i, α' j i = α j i) (h : jOk K φ α j) : jOk K φ' α' j := by
  unfold jOk at *
  simp only [h1, h2]
  exact h
theorem fcv_cv {ad : Nat → Nat} {b t : Nat} {v : Int} (ht : t ≤ 2) (h : t = 2 → 0 ≤ v) : fcv ad t v = cv ad b (t, v) := by
  match t, ht, h with
  | 0, _, _ => rfl
  | 1, _, _ => rfl
  | 2, _, h => unfold fcv cv; simp; exact h rfl
theorem fTag_le (ty : FieldType) : fTag ty ≤ 2 := by unfold fTag; split <;> omega
theorem fOk_vOk {n t : Nat} {v : Int} (ht : t ≤ 2) (h : fOk n t v) (h0 : t = 2 → 0 ≤ v) : vOk n (t, v) := by
  match t, ht, h, h0 with
  | 0, _, h, _ => exact h
  | 1, _, h, _ => exact h
  | 2, _, h, h0 => exact ⟨h0 rfl, h.2⟩
theorem vOk_fOk {n t : Nat} {v : Int} (ht : t ≤ 2) (h : vOk n (t, v)) : fOk n t v := by
  match t, ht, h with
  | 0, _, h => exact h
  | 1, _, h => exact h
  | 2, _, h => exact ⟨by have := h.1; dsimp only at this; omega, h.2⟩
theorem obj_of {n : Nat} {o : Int} (h : vOk n (2, o)) : ∃ j : Nat, j < n ∧ o = j := ⟨o.toNat, by have := h.1; have := h.2; dsimp only at *; omega, by have := h.1; dsimp only at *; omega⟩
theorem cv_ref {ad : Nat → Nat} {b j : Nat} : cv ad b (2, (j : Int)) = .ref (ad j) := by unfold cv; simp
theorem put_nar {ad : Nat → Nat} {b t : Nat} {v : Int} {ty : FieldType} (h : putOk ty t v) : narrow ty (cv ad b (t, v)) = cv ad b (t, v) ∧ fits ty (cv ad b (t, v)) = true ∧ fTag ty = t := by
  unfold putOk at h
  split at h
  · subst h; exact ⟨rfl, rfl, rfl⟩
  · obtain ⟨rfl, rfl | rfl⟩ := h <;> exact ⟨rfl, rfl, rfl⟩
  · subst h; exact ⟨rfl, rfl, rfl⟩
  · subst h; exact ⟨rfl, rfl, rfl⟩
  · subst h; exact ⟨rfl, rfl, rfl⟩
  · exact h.elim
section HEAP
variable {d : Nat} {M : aM} {pc pc' : Nat} {L S : List aV} {K : bK} {φ : aF} {α : aA} {k : Nat × Nat} {Q : bQ}
theorem r_get {ix ci f t : Nat} {o : Int} (hd : decode M.2.1 pc = .ok (.getfield ix, 3)) (hp : pc + 3 = pc') (hk : FK M.1.cls ix ci f) (ht : fT ci f = t) (g : (K.2 o).1 = ci) (g2 : t = 2 → 0 ≤ φ ci f o) (h : Rn d M pc' L ((t, φ ci f o) :: S) K φ α k Q) : Rn d M pc L ((2, o) :: S) K φ α k Q := by
  intro p l e R s m args below meth c D cA ad b base Ln xs H locs cells slots ls C Wo hS hL vL vS
  subst hp
  obtain ⟨j, hj, rfl⟩ := obj_of (vHd vS)
  obtain ⟨C0, T0, N0, ⟨c1, c2, c3, c4, c5, c6⟩, f1, f2⟩ := hk
  have ht2 : t ≤ 2 := by rw [← ht]; exact fTag_le _
  have he := ent_cls (cA := cA) (ad := ad) (φ := φ) (α := α) g c6
  have hw := wl_at (cA := cA) (ad := ad) (φ := φ) (α := α) hj
  rw [he] at hw
  have hok := (Wo.2.2.1 j hj).2.2.2.2.1 (by rw [g]; omega)
  rw [g] at hok
  have hv : ((List.range (fNo ci)).map (fun k => fcv ad (fT ci k) (φ ci k j)))[f]? = some (cv ad b (t, φ ci f j)) := by
    rw [List.getElem?_map, List.getElem?_range (by rw [c5]; exact f1)]
    simp only [Option.map_some]
    rw [ht, fcv_cv ht2 g2]
  have hvk : vOk K.1 (t, φ ci f j) := by
    refine fOk_vOk ht2 ?_ g2
    have := hok.2 f (by rw [c5]; exact f1)
    rwa [ht] at this
  have hst : (((2 : Nat), (j : Int)) :: S).map (cv ad b) = .ref (ad j) :: S.map (cv ad b) := by rw [List.map_cons, cv_ref]
  rw [hst]
  exact va_get C.1.1 C.1.2.1 C.2.1 c2 C.1.2.2.2.2 C.2.2.2.2.2.1 Wo.1 j hw c1 f f1 (C.2.1 _ f2) (fun _ q => q) hv hd (h p l e R s m args below meth c D cA ad b base Ln xs H locs cells slots ls C Wo hS hL vL (vCons hvk (vTl vS)))
theorem Wd_put {D : va_G} {cA : Nat → ClassId} {ad : Nat → Nat} {A : Nat → Prop} {Ln b : Nat} {xs : Nat → Int32} {H H1 : Heap} {ci f t j : Nat} {v : Int} (Wo : Wd D cA ad A Ln xs K φ α H) (hj : j < K.1) (g : (K.2 (j : Int)).1 = ci) (c6 : ci < 12) (ht : fT ci f = t) (ht2 : t ≤ 2) (hv : vOk K.1 (t, v)) {fs : List Value} (hfs : fs = (List.range (fNo ci)).map (fun k => fcv ad (fT ci k) (φ ci k j))) (hP : va_P D vCl ((wl cA ad K φ α).set j (ad j, .inr (ci, fs.set f (cv ad b (t, v))))) H1) (hD : va_D A ((wl cA ad K φ α).set j (ad j, .inr (ci, fs.set f (cv ad b (t, v)))))) : Wd D cA ad A Ln xs K (upf φ ci f j v) α H1 := by
  have e1 : ent cA ad K (upf φ ci f j v) α j = .inr (ci, fs.set f (cv ad b (t, v))) := by
    rw [ent_cls g c6, hfs]
    congr 2
    apply List.ext_getElem?
    intro i
    by_cases hi : i < fNo ci
    · rw [List.getElem?_map, List.getElem?_range hi]
      by_cases hif : i = f
      · subst hif
        rw [List.getElem?_set_self (by simpa using hi)]
        simp only [Option.map_some, upf, and_self, if_true, ht]
        rw [fcv_cv ht2 (fun q => by subst q; exact hv.1)]
      · rw [List.getElem?_set_ne (fun q => hif q.symm), List.getElem?_map, List.getElem?_range hi]
        simp [upf, hif]
    · rw [List.getElem?_eq_none (by simp; omega), List.getElem?_eq_none (by simp; omega)]
  have e2 : ∀ (i : Nat), i ≠ j → ∀ c' f', upf φ ci f j v c' f' i = φ c' f' i := by
    intro i hi c' f'
    unfold upf
    rw [if_neg]
    intro q
    exact hi (by have := q.2.2; omega)
  have hs := wl_set (cA := cA) (ad := ad) (φ := φ) (α := α) (α' := α) hj e1 e2 (fun _ _ _ => rfl)
  rw [hs] at hP hD
  refine ⟨hP, hD, fun i hi => ?_, Wo.2.2.2⟩
  by_cases hij : i = j
  · subst hij
    have h0 := Wo.2.2.1 i hi
    refine ⟨fun q => by omega, fun q => by omega, fun q => by omega, fun q => by omega, fun _ => ⟨by omega, fun f' hf' => ?_⟩, h0.2.2.2.2.2⟩
    rw [g] at hf' ⊢
    unfold upf
    by_cases hff : f' = f
    · subst hff
      simp only [and_self, if_true]
      rw [ht]
      exact vOk_fOk ht2 hv
    · rw [if_neg (fun q => hff q.2.1)]
      have := (h0.2.2.2.2.1 (by rw [g]; omega)).2 f' (by rw [g]; exact hf')
      rwa [g] at this
  · exact jOk_ext (e2 i hij) (fun _ => rfl) (Wo.2.2.1 i hi)
theorem r_put {ix ci f t : Nat} {o v : Int} (hd : decode M.2.1 pc = .ok (.putfield ix, 3)) (hp : pc + 3 = pc') (hk : FK M.1.cls ix ci f) (hn : FN ci f) (hq : putOk (fTy ci f) t v) (g : (K.2 o).1 = ci) (h : Rn d M pc' L S K (upf φ ci f o v) α k Q) : Rn d M pc L ((t, v) :: (2, o) :: S) K φ α k Q := by
  intro p l e R s m args below meth c D cA ad b base Ln xs H locs cells slots ls C Wo hS hL vL vS
  subst hp
  obtain ⟨j, hj, rfl⟩ := obj_of (vHd (vTl vS))
  obtain ⟨C0, T0, N0, ⟨c1, c2, c3, c4, c5, c6⟩, f1, f2⟩ := hk
  obtain ⟨n1, n2, n3⟩ := put_nar (ad := ad) (b := b) hq
  have ht2 : t ≤ 2 := by rw [← n3]; exact fTag_le _
  have hw := wl_at (cA := cA) (ad := ad) (φ := φ) (α := α) hj
  rw [ent_cls (cA := cA) (ad := ad) (φ := φ) (α := α) g c6] at hw
  have hst : ((t, v) :: ((2 : Nat), (j : Int)) :: S).map (cv ad b) = cv ad b (t, v) :: .ref (ad j) :: S.map (cv ad b) := by rw [List.map_cons, List.map_cons, cv_ref]
  rw [hst]
  refine va_put C.1.1 C.1.2.1 C.2.1 c2 (fTy ci) c3 c4 C.1.2.2.2.2 C.2.2.2.2.2.1 Wo.1 Wo.2.1 hS j hw c1 f f1 (C.2.1 _ f2) (fun _ q => q) (hn _ _ _ c1) (c3 f f1) n1 n2 (by simp [c5, f1]) hd (fun H1 locs1 hP hD hS1 => ?_)
  exact h p l e R s m args below meth c D cA ad b base Ln xs H1 locs1 cells slots ls C (Wd_put (b := b) Wo hj g c6 n3 ht2 (vHd vS) rfl hP hD) hS1 hL vL (vTl (vTl vS))
theorem r_putF {ix ci f t : Nat} {o v : Int} (hd : decode M.2.1 pc = .ok (.putfield ix, 3)) (hp : pc + 3 = pc') (hk : FK M.1.cls ix ci f) (hn : FF M.1.cls ci f) (hi : M.1.name = "<init>") (hq : putOk (fTy ci f) t v) (g : (K.2 o).1 = ci) (h : Rn d M pc' L S K (upf φ ci f o v) α k Q) : Rn d M pc L ((t, v) :: (2, o) :: S) K φ α k Q := by
  intro p l e R s m args below meth c D cA ad b base Ln xs H locs cells slots ls C Wo hS hL vL vS
  subst hp
  obtain ⟨j, hj, rfl⟩ := obj_of (vHd (vTl vS))
  obtain ⟨C0, T0, N0, ⟨c1, c2, c3, c4, c5, c6⟩, f1, f2⟩ := hk
  obtain ⟨n1, n2, n3⟩ := put_nar (ad := ad) (b := b) hq
  have ht2 : t ≤ 2 := by rw [← n3]; exact fTag_le _
  have hw := wl_at (cA := cA) (ad := ad) (φ := φ) (α := α) hj
  rw [ent_cls (cA := cA) (ad := ad) (φ := φ) (α := α) g c6] at hw
  have hst : ((t, v) :: ((2 : Nat), (j : Int)) :: S).map (cv ad b) = cv ad b (t, v) :: .ref (ad j) :: S.map (cv ad b) := by rw [List.map_cons, List.map_cons, cv_ref]
  rw [hst]
  refine va_putF C.1.1 C.1.2.1 C.2.1 c2 (fTy ci) c3 c4 C.1.2.2.2.2 C.2.2.2.2.2.1 Wo.1 Wo.2.1 hS j hw c1 f f1 (C.2.1 _ f2) (fun _ q => q) (hn _ _ _ c1).1 (C.2.2.2.1.trans hi) (hn _ _ _ c1).2 (c3 f f1) n1 n2 (by simp [c5, f1]) hd (fun H1 locs1 hP hD hS1 => ?_)
  exact h p l e R s m args below meth c D cA ad b base Ln xs H1 locs1 cells slots ls C (Wd_put (b := b) Wo hj g c6 n3 ht2 (vHd vS) rfl hP hD) hS1 hL vL (vTl (vTl vS))
end HEAP
