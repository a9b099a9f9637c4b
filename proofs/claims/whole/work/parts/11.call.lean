def lw_g : List Cond := lw_tbl.filter goodWord
theorem Gx.same {A : Nat → Prop} {s U : State} (h : Gx A s) (hv : U.vm = s.vm) (hq : U.heap = s.heap) : Gx A U := by
  obtain ⟨h1, ⟨sa, sv, h2, h3⟩, h4, t, h5⟩ := h
  have ha : s.vm.Alike U.vm := by rw [hv]; exact Vm.Alike.refl _
  exact ⟨h1.moved ha, ⟨sa, sv, h2.same hv, by rw [hq]; exact h3.moved ha⟩, by rw [hq]; exact h4.moved ha, t, by rw [hq]; exact h5.moved ha⟩
theorem Met.ofWF {l : Launch} {y : MethodName} {ws ws' : List Cond} {rm : Room} {Pc : Array Value → State → Prop} {Qc : Array Value → State → Outcome → State → Prop} {mc ms : Nat} {free : Addr → Prop} {cc : ByteArray} {maxL : Nat} {ret : Option FieldType}
    (hy : plainFor y = true) (hw : ws = Cond.code y cc maxL ret :: ws')
    (body : ∀ p e s m args below meth c s₁, BodyLoose p l y (headSpec ws rm) cc maxL ret e s m args below meth c s₁ → c.maxLocals = maxL → Pc args s →
      W p l e (headSpec ws rm).room s m args below meth c s.heap [] 0 0 (MQ below Qc args s mc ms free) (entryFrame m args maxL)) : Met l y ws rm Pc Qc mc ms free := by
  refine MetFree.of_bodySF (code := cc) (maxLocals := maxL) (ret := ret) hy ?_ ?_
  · intro args s m h hn
    obtain ⟨meth, c, h1, h2, h3, h4, h5, h6, -, -⟩ := Cond.code_spec hn (atoms_spec (ws := ws) h _ (by rw [hw]; exact List.mem_cons_self))
    exact ⟨meth, c, h1, h2, h3, h4, h5, h6⟩
  · intro p e s m args below meth c s₁ B hml hP _
    have hh0 : s₁.heap = s.heap := by rw [B.state]; rfl
    obtain ⟨t, a1, o, b1, b2, b3⟩ := body p e s m args below meth c s₁ B hml hP s₁ hh0 (Stand.of_body B)
    exact ⟨t, o, a1, b1, b2, ⟨b3.1, b3.2⟩⟩
def NK (N : aM) (n : Nat) : Prop := Cond.code N.1 N.2.1 N.2.2.1 N.2.2.2 ∈ lw_tbl ∧ plainFor N.1 = true ∧ N.2.2.1 ≤ 41 ∧ Cond.initialized N.1.cls ∈ lw_tbl ∧ (N.1.cls ≠ "java/lang/invoke/MethodHandle" ∧ N.1.cls ≠ "java/lang/invoke/VarHandle") ∧ (parseMethodDescriptor N.1.desc).map (fun d => d.parameters.length) = some n
theorem aEn_args {ad : Nat → Nat} {b : Nat} : ∀ (As : List aV) (off i : Nat) (v : aV), (aEn1 As)[i]? = some v → v.1 ≤ 4 → (off + i, cv ad b v) ∈ lv_args off (As.map (cv ad b))
  | [], off, i, v, h, _ => by simp [aEn1] at h
  | a :: t, off, i, v, h, ht => by
    rw [List.map_cons, lv_args]
    by_cases ha : a.1 = 1
    · have hc : (cv ad b a).category = 2 := by
        obtain ⟨a1, a2⟩ := a
        dsimp only at ha
        subst ha
        rfl
      rw [if_pos hc]
      rw [aEn1, if_pos ha] at h
      match i, h with
      | 0, h =>
        simp at h
        subst h
        exact List.mem_cons_self
      | 1, h =>
        simp at h
        subst h
        exact absurd ht (by decide)
      | i + 2, h =>
        simp only [List.getElem?_cons_succ] at h
        have := aEn_args (ad := ad) (b := b) t (off + 2) i v h ht
        exact List.mem_cons_of_mem _ (by rw [show off + (i + 2) = off + 2 + i by omega]; exact this)
    · have hc : (cv ad b a).category = 1 := cv_cat ha
      rw [if_neg (by omega)]
      rw [aEn1, if_neg ha] at h
      match i, h with
      | 0, h =>
        simp at h
        subst h
        exact List.mem_cons_self
      | i + 1, h =>
        simp only [List.getElem?_cons_succ] at h
        have := aEn_args (ad := ad) (b := b) t (off + 1) i v h ht
        exact List.mem_cons_of_mem _ (by rw [show off + (i + 1) = off + 1 + i by omega]; exact this)
theorem aEn_len {ad : Nat → Nat} {b : Nat} : ∀ (As : List aV), (lg_sl (As.map (cv ad b))).length = (aEn1 As).length
  | [] => rfl
  | a :: t => by
    have ih := aEn_len (ad := ad) (b := b) t
    unfold lg_sl at ih ⊢
    rw [List.map_cons, List.flatMap_cons, List.length_append, ih, aEn1]
    by_cases ha : a.1 = 1
    · have hc : (cv ad b a).category = 2 := by
        obtain ⟨a1, a2⟩ := a
        dsimp only at ha
        subst ha
        rfl
      rw [if_pos hc, if_pos ha]
      simp
      omega
    · rw [if_neg (by rw [cv_cat ha]; omega), if_neg ha]
      simp
      omega
theorem aEn_at {n : Nat} {As : List aV} {i : Nat} {v : aV} (h : (aEn n As)[i]? = some v) (ht : v.1 ≤ 4) : (aEn1 As)[i]? = some v := by
  unfold aEn at h
  by_cases hi : i < (aEn1 As).length
  · rwa [List.getElem?_append_left hi] at h
  · rw [List.getElem?_append_right (by omega)] at h
    have := List.mem_of_getElem? h
    rw [List.mem_replicate] at this
    rw [this.2] at ht
    exact absurd ht (by decide)
theorem aEn_ok {n m : Nat} {As : List aV} (h : ∀ v ∈ As, vOk m v) : ∀ v ∈ aEn n As, vOk m v := by
  have h1 : ∀ (As : List aV), (∀ v ∈ As, vOk m v) → ∀ v ∈ aEn1 As, vOk m v := by
    intro As
    induction As with
    | nil => intro _ v hv; simp [aEn1] at hv
    | cons a t ih =>
      intro h v hv
      rw [aEn1] at hv
      split at hv
      · rcases List.mem_cons.mp hv with rfl | hv
        · exact vHd h
        · rcases List.mem_cons.mp hv with rfl | hv
          · exact trivial
          · exact ih (vTl h) v hv
      · rcases List.mem_cons.mp hv with rfl | hv
        · exact vHd h
        · exact ih (vTl h) v hv
  intro v hv
  unfold aEn at hv
  rcases List.mem_append.mp hv with hv | hv
  · exact h1 As h v hv
  · rw [(List.mem_replicate.mp hv).2]; exact trivial
/-- a method's start, as its caller leaves it -/
def sP (D : va_G) (cA : Nat → ClassId) (ad : Nat → Nat) (b base Ln : Nat) (xs : Nat → Int32) (K : bK) (φ : aF) (α : aA) (U : State) : Prop :=
  Wd D cA ad (fun q => base ≤ q) Ln xs K φ α U.heap ∧ va_K D vCl (tyL cA) U ∧ base ≤ U.heap.size ∧ b < base ∧ va_X b Ln xs U U.heap ∧ Gx (fun q => base ≤ q) U ∧ ∀ w ∈ lw_h, isNest w = true → va_Nw w U
theorem isNest_tab {w : Cond} (h : isNest w = true) : w.onTables = true := by
  unfold isNest at h
  split at h
  · rfl
  · cases h
theorem sP.blind {D : va_G} {cA : Nat → ClassId} {ad : Nat → Nat} {b base Ln : Nat} {xs : Nat → Int32} {K : bK} {φ : aF} {α : aA} {av : List Value} : FrameBlind (va_Pc av (sP D cA ad b base Ln xs K φ α)) := by
  intro a U g mk ⟨h0, h1, h2, h3, h4, h5, h6, h7⟩
  exact ⟨h0, h1, va_K.moved (u := U) (U := U.calling g mk a) (Vm.Alike.refl U.vm) h2, h3, h4, va_X.moved (u := U) (U := U.calling g mk a) (Vm.Alike.refl U.vm) h5, h6.same rfl rfl, fun w hw hn => va_Nw.same (u := U) (isNest_tab hn) rfl (h7 w hw hn)⟩
theorem met_of {d : Nat} {N : aM} {n : Nat} {K : bK} {φ : aF} {α : aA} {k : Nat × Nat} {Q : bQ} {As : List aV} (hN : NK N n) (hAs : (aEn1 As).length ≤ N.2.2.1) (h : Rn d N 0 (aEn N.2.2.1 As) [] K φ α k Q) (l : Launch) (D : va_G) (cA : Nat → ClassId) (ad : Nat → Nat) (b base Ln : Nat) (xs : Nat → Int32) (hv : ∀ v ∈ As, vOk K.1 v) :
    Met l N.1 (Cond.code N.1 N.2.1 N.2.2.1 N.2.2.2 :: lw_g) ({ frames := d, cells := k.1, slots := k.2, locals := 60 * d }) (va_Pc (As.map (cv ad b)) (sP D cA ad b base Ln xs K φ α)) (Fq D cA ad (fun q => base ≤ q) b Ln xs K Q) k.1 k.2 (fun q => base ≤ q) := by
  refine Met.ofWF (cc := N.2.1) (maxL := N.2.2.1) (ret := N.2.2.2) hN.2.1 rfl ?_
  intro p e s m args below meth c s₁ B hml hv'
  obtain ⟨rfl, h1, h2, h3, h4, h5, h6, h7⟩ := hv'
  have hts := atoms_spec (ws := Cond.code N.1 N.2.1 N.2.2.1 N.2.2.2 :: lw_g) B.pre
  have hts' : ∀ w ∈ lw_h, w.before (As.map (cv ad b)).toArray s = true := by
    intro w hw
    obtain ⟨a1, a2⟩ := List.mem_filter.mp hw
    by_cases hg : goodWord w = true
    · exact hts w (List.mem_cons_of_mem _ (List.mem_filter.mpr ⟨a1, hg⟩))
    · have hn : isNest w = true := by simpa [hg] using a2
      exact (h7 w hw hn).use (isNest_tab hn)
  have hl := lv_entry (As.map (cv ad b)) (n := N.2.2.1) (by rw [aEn_len]; exact hAs)
  rw [lg_entry_eq]
  generalize (lg_sl (As.map (cv ad b)) ++ List.replicate (N.2.2.1 - (lg_sl (As.map (cv ad b))).length) Slot.unset).toArray = ls at hl ⊢
  have hL : aLs ad b ls N.2.2.1 (aEn N.2.2.1 As) := by
    refine ⟨hl.1, hl.2.1, by unfold aEn; simp; omega, fun i v hi ht => ?_⟩
    have := aEn_args (ad := ad) (b := b) As 0 i v (aEn_at hi ht) ht
    rw [Nat.zero_add] at this
    exact hl.2.2 _ this
  have hh := h p l e { frames := d, cells := k.1, slots := k.2, locals := 60 * d } s m (As.map (cv ad b)).toArray below meth c D cA ad b base Ln xs s.heap [] 0 0 ls ⟨⟨B.exec, B.bytes, B.returns, hml, findClass_of_methodNamed B.named⟩, hts', B.notSynchronized, (name_of_methodNamed B.named B.method).1, ⟨Nat.le_refl _, Nat.le_refl _, by simp, by simp⟩, h2, h3, h4, h5, h6⟩ h1 va_S.rf hL (aEn_ok hv) (fun v hv => by simp at hv)
  rw [Nat.zero_add, Nat.zero_add] at hh
  exact hh
theorem GoodIn_g {N : aM} {n : Nat} (hN : NK N n) : GoodIn lw_h (Cond.code N.1 N.2.1 N.2.2.1 N.2.2.2 :: lw_g) := by
  intro w hw
  have key : ∀ w : Cond, w ∈ lw_tbl → goodWord w = true → w ∈ lw_h ∧ ((w.onTables && w.keeps) = true ∨ ∃ ty, w = .arrayClass ty) := fun w h1 h2 => ⟨List.mem_filter.mpr ⟨h1, by simp [h2]⟩, good_of_word h2⟩
  rcases List.mem_cons.mp hw with rfl | hw
  · exact key _ hN.1 rfl
  · obtain ⟨a1, a2⟩ := List.mem_filter.mp hw
    exact key w a1 a2
def catS (S : List aV) : Nat := (S.map fun v => bif Nat.beq v.1 1 then 2 else 1).sum
theorem catS_of {ad : Nat → Nat} {b : Nat} (S : List aV) : ((S.map (cv ad b)).map fun v => v.category).sum = catS S := by
  induction S with
  | nil => rfl
  | cons a t ih =>
    unfold catS at *
    simp only [List.map_cons, List.sum_cons, ih]
    congr 1
    by_cases ha : a.1 = 1
    · obtain ⟨a1, a2⟩ := a
      dsimp only at ha
      subst ha
      rfl
    · rw [cv_cat ha]
      have : Nat.beq a.1 1 = false := Bool.eq_false_iff.mpr (fun q => ha (Nat.eq_of_beq_eq_true q))
      rw [this]
      rfl
section CALLS
variable {d : Nat} {M N : aM} {pc pc' : Nat} {L S St : List aV} {K : bK} {φ : aF} {α : aA} {k1 k2 : Nat × Nat} {Q Q1 : bQ} {ix n : Nat}
/-- behind a call -/
theorem r_back {p : Program} {l : Launch} {e : Env} {R : Room} {s : State} {m : MethodId} {args : Array Value} {below : List Frame} {meth : Method} {c : Code} {D : va_G} {cA : Nat → ClassId} {ad : Nat → Nat} {b base Ln : Nat} {xs : Nat → Int32} {H : Heap} {locs : List Loc} {cells slots : Nat} {ls : Array Slot} {a : Array Value} {st0 : List Value}
    (C : Cx M (d + 1) (k1.1 + k2.1, k1.2 + k2.2) p R s m args meth c cells slots D cA b base Ln xs) (hS : va_S (fun q => base ≤ q) s.heap H locs) (hL : aLs ad b ls M.2.2.1 L) (vL : ∀ v ∈ L, vOk K.1 v) (vS : ∀ v ∈ S, vOk K.1 v) (hp : pc + 3 = pc')
    (hr : va_Run p l e R s m args below meth c H locs cells slots k1.1 k1.2 (F0 m pc ls st0) (S.map (cv ad b)) (Fq D cA ad (fun q => base ≤ q) b Ln xs K Q1 a) (fun q => base ≤ q))
    (h2 : ∀ r K' φ' α', Q1 r K' φ' α' → Rn (d + 1) M pc' L (r.toList ++ S) K' φ' α' k2 Q) :
    W p l e R s m args below meth c H locs cells slots (MQ below (Fq D cA ad (fun q => base ≤ q) b Ln xs K Q) args s (cells + (k1.1 + k2.1)) (slots + (k1.2 + k2.2)) (fun q => base ≤ q)) (F0 m pc ls st0) := by
  subst hp
  intro T hT X
  obtain ⟨v, st₀, t, T', Lc, h0, X', hLc, e1, e2, ⟨⟨r, K', φ', α', ad', q1, q2, q3, q4, q5, q6⟩, hF⟩, st⟩ := hr T hT X
  have hv : v = r.map (cv ad' b) := by injection q1
  subst hv
  have hz := hF.1
  have hk := hF.2
  rw [h0] at hz hk
  have hS' : va_S (fun q => base ≤ q) s.heap T'.heap (locs ++ Lc) := ⟨Nat.le_trans hS.1 (by rw [e1]; exact hz), fun q h1 h2 => by rw [e1, hk q (Nat.lt_of_lt_of_le h1 hS.1) h2]; exact hS.2.1 q h1 h2, fun q hq => by
    rcases List.mem_append.mp hq with h | h
    · exact hS.2.2 q h
    · exact hLc q h⟩
  have hr1 := C.2.2.2.2.1.2.2.1
  have hr2 := C.2.2.2.2.1.2.2.2
  dsimp only at hr1 hr2
  have hh := h2 r K' φ' α' q2 p l e R s m args below meth c D cA ad' b base Ln xs T'.heap (locs ++ Lc) (cells + k1.1) (slots + k1.2) ls ⟨C.1, C.2.1, C.2.2.1, C.2.2.2.1, ⟨C.2.2.2.2.1.1, C.2.2.2.2.1.2.1, by omega, by omega⟩, C.2.2.2.2.2⟩ (by rw [e1]; exact q4) hS' (aLs_bx q3.2.1 vL hL) (vs_mono q3.1 vL) (by
      intro u hu
      rcases List.mem_append.mp hu with hu | hu
      · cases r with
        | none => simp at hu
        | some w => simp at hu; subst hu; exact q6 _ rfl
      · exact vOk_mono q3.1 (vS u hu))
  have e3 : (r.toList ++ S).map (cv ad' b) = (r.map (cv ad' b)).toList ++ S.map (cv ad b) := by
    rw [List.map_append, map_bx q3.2.1 vS]
    cases r <;> rfl
  rw [e3, Nat.add_assoc, Nat.add_assoc] at hh
  obtain ⟨t2, a1, b1⟩ := hh T' rfl X'
  exact ⟨t2, st t2 a1, MQ.mono (fun o t hq => Fq.tr q3 hq) _ b1⟩
theorem sP_of {p : Program} {R : Room} {s : State} {m : MethodId} {args : Array Value} {meth : Method} {c : Code} {D : va_G} {cA : Nat → ClassId} {ad : Nat → Nat} {b base Ln : Nat} {xs : Nat → Int32} {H : Heap} {locs : List Loc} {cells slots : Nat} {k : Nat × Nat}
    (C : Cx M d k p R s m args meth c cells slots D cA b base Ln xs) (Wo : Wd D cA ad (fun q => base ≤ q) Ln xs K φ α H) (hS : va_S (fun q => base ≤ q) s.heap H locs) : ∀ U : State, U.heap = H → s.WarmedH U.vm → sP D cA ad b base Ln xs K φ α U := by
  intro U hU hW
  have hb : b < s.heap.size := Nat.lt_of_lt_of_le C.2.2.2.2.2.2.2.1 C.2.2.2.2.2.2.1
  refine ⟨by rw [hU]; exact Wo, va_K.moved hW.alike C.2.2.2.2.2.1, by rw [hU]; exact Nat.le_trans C.2.2.2.2.2.2.1 hS.1, C.2.2.2.2.2.2.2.1, ?_, C.2.2.2.2.2.2.2.2.2.moved hW (fun a h1 h2 => by rw [hU]; exact hS.2.1 a h1 h2), fun w hw hn => ?_⟩
  · rw [hU]
    exact va_X.moved hW.alike (C.2.2.2.2.2.2.2.2.1.kept (hS.2.1 b hb (by have := C.2.2.2.2.2.2.2.1; dsimp only; omega)))
  · have h1 := C.2.1 w hw
    unfold isNest at hn
    split at hn
    · exact (va_Nw.of rfl h1).warmM hW
    · cases hn
theorem callB_s {p : Program} {R : Room} {s : State} {m : MethodId} {args : Array Value} {meth : Method} {c : Code} {D : va_G} {cA : Nat → ClassId} {b base Ln : Nat} {xs : Nat → Int32} {cells slots : Nat} {k : Nat × Nat}
    (C : Cx M (d + 1) k p R s m args meth c cells slots D cA b base Ln xs) (hN : NK N n) (hl : Cond.methodLink M.1.cls ix N.1 ∈ lw_tbl) : CallB R s args M.1.cls ix N.1 N.2.1 N.2.2.1 N.2.2.2 (Cond.code N.1 N.2.1 N.2.2.1 N.2.2.2 :: lw_g) ({ frames := d, cells := k1.1, slots := k1.2, locals := 60 * d }) k1.1 k1.2 n :=
  callB_of n C.2.1 (GoodIn_g hN) rfl rfl rfl (C.2.1 _ (hw hN.2.2.2.1 rfl)) (C.2.1 _ (hw hl rfl)) ⟨hN.2.2.2.2.1.1, hN.2.2.2.2.1.2, hN.2.2.2.2.2⟩ ⟨by have := C.2.2.2.2.1.1; dsimp only; omega, by have := C.2.2.2.2.1.2.1; have := hN.2.2.1; dsimp only; omega⟩
theorem callN_s {p : Program} {R : Room} {s : State} {m : MethodId} {args : Array Value} {meth : Method} {c : Code} {D : va_G} {cA : Nat → ClassId} {b base Ln : Nat} {xs : Nat → Int32} {cells slots : Nat} {k : Nat × Nat} {host : String}
    (C : Cx M (d + 1) k p R s m args meth c cells slots D cA b base Ln xs) (hN : NK N n) (hl : Cond.methodLinkNest M.1.cls ix N.1 host ∈ lw_tbl) : va_CN R s args M.1.cls ix N.1 host N.2.1 N.2.2.1 N.2.2.2 (Cond.code N.1 N.2.1 N.2.2.1 N.2.2.2 :: lw_g) ({ frames := d, cells := k1.1, slots := k1.2, locals := 60 * d }) k1.1 k1.2 n :=
  va_cnB n C.2.1 (GoodIn_g hN) rfl rfl rfl (va_Nw.of rfl (C.2.1 _ (hw hl rfl))) (C.2.1 _ (hw hN.2.2.2.1 rfl)) ⟨hN.2.2.2.2.1.1, hN.2.2.2.2.1.2, hN.2.2.2.2.2⟩ ⟨by have := C.2.2.2.2.1.1; dsimp only; omega, by have := C.2.2.2.2.1.2.1; have := hN.2.2.1; dsimp only; omega⟩
/-- a static method -/
theorem r_callS {As : List aV} (hd : decode M.2.1 pc = .ok (.invokestatic ix, 3)) (hp : pc + 3 = pc') (hst : As.reverse ++ S = St) (hN : NK N n) (hl : Cond.methodLink M.1.cls ix N.1 ∈ lw_tbl ∨ ∃ host, Cond.methodLinkNest M.1.cls ix N.1 host ∈ lw_tbl) (hs : Cond.static N.1 ∈ lw_tbl) (hn : As.length = n) (hc : catS S ≤ 8) (hA : (aEn1 As).length ≤ N.2.2.1)
    (h1 : Rn d N 0 (aEn N.2.2.1 As) [] K φ α k1 Q1) (h2 : ∀ r K' φ' α', Q1 r K' φ' α' → Rn (d + 1) M pc' L (r.toList ++ S) K' φ' α' k2 Q) : Rn (d + 1) M pc L St K φ α (k1.1 + k2.1, k1.2 + k2.2) Q := by
  intro p l e R s m args below meth c D cA ad b base Ln xs H locs cells slots ls C Wo hS hL vL vS
  subst hst
  have vA : ∀ v ∈ As, vOk K.1 v := fun v hv => vS v (List.mem_append_left _ (List.mem_reverse.mpr hv))
  have vS' : ∀ v ∈ S, vOk K.1 v := fun v hv => vS v (List.mem_append_right _ hv)
  have hM := met_of hN hA h1 l D cA ad b base Ln xs vA
  have hr1 := C.2.2.2.2.1.2.2.1
  have hr2 := C.2.2.2.2.1.2.2.2
  dsimp only at hr1 hr2
  have hst : (As.reverse ++ S).map (cv ad b) = (As.map (cv ad b)).reverse ++ S.map (cv ad b) := by rw [List.map_append, List.map_reverse]
  rw [hst]
  rcases hl with hl | ⟨host, hl⟩
  · exact r_back C hS hL vL vS' hp (va_runS (As := As.map (cv ad b)) ⟨C.1.1, C.1.2.1, C.1.2.2.2.1, C.1.2.2.2.2, C.2.1⟩ hM ⟨callB_s C hN hl, C.2.1 _ (hw hs rfl)⟩ ⟨sP.blind, fun U hU hW => ⟨rfl, sP_of C Wo hS U hU hW⟩⟩ rfl (by rw [List.length_map]; exact hn) hL.1 rfl (by rw [catS_of]; exact lv_room (m := m) (pc := pc) (ls := ls) (rest := []) (st := []) (Nat.zero_le _) |> fun _ => by simpa using hc) hd ⟨by omega, by omega⟩) h2
  · exact r_back C hS hL vL vS' hp (va_runSN (As := As.map (cv ad b)) ⟨C.1.1, C.1.2.1, C.1.2.2.2.1, C.1.2.2.2.2, C.2.1⟩ hM ⟨callN_s C hN hl, C.2.1 _ (hw hs rfl), trivial⟩ ⟨sP.blind, fun U hU hW => ⟨rfl, sP_of C Wo hS U hU hW⟩⟩ rfl (by rw [List.length_map]; exact hn) hL.1 rfl (by rw [catS_of]; simpa using hc) hd ⟨by omega, by omega⟩) h2
/-- a method of an object -/
theorem r_callV {As : List aV} {o : Int} {ci : Nat} {q : vw_C} (hd : decode M.2.1 pc = .ok (.invokevirtual ix, 3)) (hp : pc + 3 = pc') (hst : As.reverse ++ (2, o) :: S = St) (hN : NK N n) (hl : Cond.methodLink M.1.cls ix N.1 ∈ lw_tbl ∨ ∃ host, Cond.methodLinkNest M.1.cls ix N.1 host ∈ lw_tbl) (hi : Cond.instanceMethod N.1 ∈ lw_tbl) (hq : vCl[ci]? = some q) (hse : Cond.selects q.1 N.1 N.1 ∈ lw_tbl) (hn : As.length = n) (hc : catS S ≤ 8) (hA : (aEn1 ((2, o) :: As)).length ≤ N.2.2.1) (g : (K.2 o).1 = ci)
    (h1 : Rn d N 0 (aEn N.2.2.1 ((2, o) :: As)) [] K φ α k1 Q1) (h2 : ∀ r K' φ' α', Q1 r K' φ' α' → Rn (d + 1) M pc' L (r.toList ++ S) K' φ' α' k2 Q) : Rn (d + 1) M pc L St K φ α (k1.1 + k2.1, k1.2 + k2.2) Q := by
  intro p l e R s m args below meth c D cA ad b base Ln xs H locs cells slots ls C Wo hS hL vL vS
  subst hst
  have vA : ∀ v ∈ As, vOk K.1 v := fun v hv => vS v (List.mem_append_left _ (List.mem_reverse.mpr hv))
  have vO : vOk K.1 (2, o) := vS _ (List.mem_append_right _ List.mem_cons_self)
  have vS' : ∀ v ∈ S, vOk K.1 v := fun v hv => vS v (List.mem_append_right _ (List.mem_cons_of_mem _ hv))
  have hM := met_of hN hA h1 l D cA ad b base Ln xs (vCons vO vA)
  obtain ⟨j, hj, rfl⟩ := obj_of vO
  have hr1 := C.2.2.2.2.1.2.2.1
  have hr2 := C.2.2.2.2.1.2.2.2
  dsimp only at hr1 hr2
  have hst : (As.reverse ++ (2, (j : Int)) :: S).map (cv ad b) = (As.map (cv ad b)).reverse ++ .ref (ad j) :: S.map (cv ad b) := by rw [List.map_append, List.map_reverse, List.map_cons, cv_ref]
  rw [hst]
  have hci : ci < 12 := (List.getElem?_eq_some_iff.mp hq).1
  have hwl := wl_at (cA := cA) (ad := ad) (φ := φ) (α := α) hj
  rw [ent_cls g hci] at hwl
  have hrec := va_recv C.2.2.2.2.2.1 Wo.1 hq hwl
  have hM : Met l N.1 (Cond.code N.1 N.2.1 N.2.2.1 N.2.2.2 :: lw_g) ({ frames := d, cells := k1.1, slots := k1.2, locals := 60 * d }) (va_Pc (.ref (ad j) :: As.map (cv ad b)) (sP D cA ad b base Ln xs K φ α)) (Fq D cA ad (fun q => base ≤ q) b Ln xs K Q1) k1.1 k1.2 (fun q => base ≤ q) := by
    rw [List.map_cons, cv_ref] at hM
    exact hM
  rcases hl with hl | ⟨host, hl⟩
  · exact r_back C hS hL vL vS' hp (va_runV (As := As.map (cv ad b)) (C := q.1) ⟨C.1.1, C.1.2.1, C.1.2.2.2.1, C.1.2.2.2.2, C.2.1⟩ hM ⟨callB_s C hN hl, C.2.1 _ (hw hi rfl), C.2.1 _ (hw hse rfl)⟩ ⟨sP.blind, hrec, fun U hU hW => ⟨rfl, sP_of C Wo hS U hU hW⟩⟩ rfl (by rw [List.length_map]; exact hn) hL.1 rfl (by rw [catS_of]; simpa using hc) hd ⟨by omega, by omega⟩) h2
  · exact r_back C hS hL vL vS' hp (va_runVN (As := As.map (cv ad b)) (C := q.1) ⟨C.1.1, C.1.2.1, C.1.2.2.2.1, C.1.2.2.2.2, C.2.1⟩ hM ⟨callN_s C hN hl, C.2.1 _ (hw hi rfl), C.2.1 _ (hw hse rfl)⟩ ⟨sP.blind, hrec, fun U hU hW => ⟨rfl, sP_of C Wo hS U hU hW⟩⟩ rfl (by rw [List.length_map]; exact hn) hL.1 rfl (by rw [catS_of]; simpa using hc) hd ⟨by omega, by omega⟩) h2
/-- a constructor -/
theorem r_callI {As : List aV} {o : Int} (hd : decode M.2.1 pc = .ok (.invokespecial ix, 3)) (hp : pc + 3 = pc') (hst : As.reverse ++ (2, o) :: S = St) (hN : NK N n) (hl : Cond.methodLink M.1.cls ix N.1 ∈ lw_tbl ∨ ∃ host, Cond.methodLinkNest M.1.cls ix N.1 host ∈ lw_tbl) (hi : Cond.instanceMethod N.1 ∈ lw_tbl) (hy : N.1.name = "<init>") (hv : N.2.2.2 = none) (hn : As.length = n) (hc : catS S ≤ 8) (hA : (aEn1 ((2, o) :: As)).length ≤ N.2.2.1)
    (h1 : Rn d N 0 (aEn N.2.2.1 ((2, o) :: As)) [] K φ α k1 Q1) (h2 : ∀ r K' φ' α', Q1 r K' φ' α' → Rn (d + 1) M pc' L (r.toList ++ S) K' φ' α' k2 Q) : Rn (d + 1) M pc L St K φ α (k1.1 + k2.1, k1.2 + k2.2) Q := by
  intro p l e R s m args below meth c D cA ad b base Ln xs H locs cells slots ls C Wo hS hL vL vS
  subst hst
  have vA : ∀ v ∈ As, vOk K.1 v := fun v hv => vS v (List.mem_append_left _ (List.mem_reverse.mpr hv))
  have vO : vOk K.1 (2, o) := vS _ (List.mem_append_right _ List.mem_cons_self)
  have vS' : ∀ v ∈ S, vOk K.1 v := fun v hv => vS v (List.mem_append_right _ (List.mem_cons_of_mem _ hv))
  have hM := met_of hN hA h1 l D cA ad b base Ln xs (vCons vO vA)
  obtain ⟨j, hj, rfl⟩ := obj_of vO
  have hr1 := C.2.2.2.2.1.2.2.1
  have hr2 := C.2.2.2.2.1.2.2.2
  dsimp only at hr1 hr2
  have hst : (As.reverse ++ (2, (j : Int)) :: S).map (cv ad b) = (As.map (cv ad b)).reverse ++ .ref (ad j) :: S.map (cv ad b) := by rw [List.map_append, List.map_reverse, List.map_cons, cv_ref]
  rw [hst]
  have hM : Met l N.1 (Cond.code N.1 N.2.1 N.2.2.1 N.2.2.2 :: lw_g) ({ frames := d, cells := k1.1, slots := k1.2, locals := 60 * d }) (va_Pc (.ref (ad j) :: As.map (cv ad b)) (sP D cA ad b base Ln xs K φ α)) (Fq D cA ad (fun q => base ≤ q) b Ln xs K Q1) k1.1 k1.2 (fun q => base ≤ q) := by
    rw [List.map_cons, cv_ref] at hM
    exact hM
  rcases hl with hl | ⟨host, hl⟩
  · have cb := callB_s (k1 := k1) C hN hl
    rw [hv] at cb
    exact r_back C hS hL vL vS' hp (va_runI (As := As.map (cv ad b)) ⟨C.1.1, C.1.2.1, C.1.2.2.2.1, C.1.2.2.2.2, C.2.1⟩ (by rw [hv] at hM; exact hM) ⟨cb, hy, C.2.1 _ (hw hi rfl)⟩ ⟨sP.blind, fun U hU hW => ⟨rfl, sP_of C Wo hS U hU hW⟩⟩ rfl (by rw [List.length_map]; exact hn) hL.1 rfl (by rw [catS_of]; simpa using hc) hd ⟨by omega, by omega⟩) h2
  · have cb := callN_s (k1 := k1) C hN hl
    rw [hv] at cb
    exact r_back C hS hL vL vS' hp (va_runIN (As := As.map (cv ad b)) ⟨C.1.1, C.1.2.1, C.1.2.2.2.1, C.1.2.2.2.2, C.2.1⟩ (by rw [hv] at hM; exact hM) ⟨cb, hy, C.2.1 _ (hw hi rfl)⟩ ⟨sP.blind, fun U hU hW => ⟨rfl, sP_of C Wo hS U hU hW⟩⟩ rfl (by rw [List.length_map]; exact hn) hL.1 rfl (by rw [catS_of]; simpa using hc) hd ⟨by omega, by omega⟩) h2
end CALLS
