/-! the words' text: String.length and String.charAt, over the machine  -/
theorem wf38 : Cond.fieldLink "java/lang/String" 38 "java/lang/String" "COMPACT_STRINGS" "Z" ∈ lw_h := hw (tb2 (List.mem_of_getElem? (i := 6) rfl)) rfl
theorem wf1053 : Cond.fieldLink "java/lang/String" 1053 "jdk/internal/util/Preconditions" "SIOOBE_FORMATTER" "Ljava/util/function/BiFunction;" ∈ lw_h := hw (tb2 (List.mem_of_getElem? (i := 22) rfl)) rfl
theorem wf9 : Cond.fieldLink "java/lang/String" 9 "java/lang/String" "value" "[B" ∈ lw_h := hw (tb9 (List.mem_of_getElem? (i := 210) rfl)) rfl
theorem wf15 : Cond.fieldLink "java/lang/String" 15 "java/lang/String" "coder" "B" ∈ lw_h := hw (tb9 (List.mem_of_getElem? (i := 211) rfl)) rfl
theorem wm335 : Cond.methodLink "java/lang/String" 335 mJ0_coder_7d493.1 ∈ lw_tbl := tb2 (List.mem_of_getElem? (i := 2) rfl)
theorem wm492 : Cond.methodLink "java/lang/String" 492 mJ0_isLatin1_aae02.1 ∈ lw_tbl := tb2 (List.mem_of_getElem? (i := 12) rfl)
theorem wm495 : Cond.methodLink "java/lang/String" 495 mJ1_charAt_3b067.1 ∈ lw_tbl := tb2 (List.mem_of_getElem? (i := 16) rfl)
theorem wm9 : Cond.methodLink "java/lang/StringLatin1" 9 mJ0_checkIndex_df160.1 ∈ lw_tbl := tb2 (List.mem_of_getElem? (i := 19) rfl)
theorem wm1059 : Cond.methodLink "java/lang/String" 1059 mJ3_checkIndex_8e157.1 ∈ lw_tbl := tb2 (List.mem_of_getElem? (i := 24) rfl)
/-- values in the text's own methods: 0 a number, 7 the text, 8 its bytes, 9 what makes exceptions -/
def wv (sa sv : Nat) (t : Option Nat) (v : aV) : Value := match v.1 with
  | 0 => .int (Int32.ofInt v.2)
  | 7 => .ref sa
  | 8 => .ref sv
  | _ => zv t
def eqQ (r : Option aV) (K : bK) (φ : aF) (α : aA) : bQ := fun r' K' φ' α' => r' = r ∧ K' = K ∧ φ' = φ ∧ α' = α
def zF (base : Nat) (t : Option Nat) (s : State) : Prop := va_Z "jdk/internal/util/Preconditions" "SIOOBE_FORMATTER" "Ljava/util/function/BiFunction;" (zv t) (fun q => base ≤ q) s s.heap
def zS (base : Nat) (sa sv : Nat → Nat) (s : State) : Prop := vk_S 1 [152] [wordsB] sa sv (fun q => base ≤ q) s s.heap
def Sn (d : Nat) (M : aM) (pc : Nat) (L S : List aV) (K : bK) (φ : aF) (α : aA) (r : Option aV) : Prop :=
  ∀ (p : Program) (l : Launch) (e : Env) (R : Room) (s : State) (m : MethodId) (args : Array Value) (below : List Frame) (meth : Method) (c : Code) (D : va_G) (cA : Nat → ClassId) (ad : Nat → Nat) (b base Ln : Nat) (xs : Nat → Int32) (H : Heap) (locs : List Loc) (cells slots : Nat) (ls : Array Slot) (sa sv : Nat → Nat) (t : Option Nat),
  Cx M d (0, 0) p R s m args meth c cells slots D cA b base Ln xs → zS base sa sv s → zF base t s → Wd D cA ad (fun q => base ≤ q) Ln xs K φ α H → va_S (fun q => base ≤ q) s.heap H locs → lv_has ls M.2.2.1 (lv_args 0 (L.map (wv (sa 0) (sv 0) t))) →
  W p l e R s m args below meth c H locs cells slots (MQ below (Fq D cA ad (fun q => base ≤ q) b Ln xs K (eqQ r K φ α)) args s (cells + 0) (slots + 0) (fun q => base ≤ q)) (F0 m pc ls (S.map (wv (sa 0) (sv 0) t)))
section STR
variable {d : Nat} {M N : aM} {pc pc' n ix : Nat} {L S As : List aV} {K : bK} {φ : aF} {α : aA} {r r1 : Option aV}
theorem s1_iload {k : Fin 4} {x : Int} (hd : decode M.2.1 pc = .ok (.iload_n k, 1)) (hp : pc + 1 = pc') (hl : ∀ sa sv t, (lv_args 0 (L.map (wv sa sv t)))[(k : Nat)]? = some ((k : Nat), .int (Int32.ofInt x))) (h : Sn d M pc' L ((0, x) :: S) K φ α r) : Sn d M pc L S K φ α r := by
  intro p l e R s m args below meth c D cA ad b base Ln xs H locs cells slots ls sa sv t C E Z Wo hS hL
  subst hp
  exact lv_iload_n C.1.1 C.1.2.1 hd rfl (lv_at hL k (hl _ _ _)) (h p l e R s m args below meth c D cA ad b base Ln xs H locs cells slots ls sa sv t C E Z Wo hS hL)
theorem s1_aload7 {k : Fin 4} {x : Int} (hd : decode M.2.1 pc = .ok (.aload_n k, 1)) (hp : pc + 1 = pc') (hl : ∀ sa sv t, (lv_args 0 (L.map (wv sa sv t)))[(k : Nat)]? = some ((k : Nat), .ref sa)) (h : Sn d M pc' L ((7, x) :: S) K φ α r) : Sn d M pc L S K φ α r := by
  intro p l e R s m args below meth c D cA ad b base Ln xs H locs cells slots ls sa sv t C E Z Wo hS hL
  subst hp
  exact lv_aload_n C.1.1 C.1.2.1 hd rfl (lv_at hL k (hl _ _ _)) (h p l e R s m args below meth c D cA ad b base Ln xs H locs cells slots ls sa sv t C E Z Wo hS hL)
theorem s1_aload8 {k : Fin 4} {x : Int} (hd : decode M.2.1 pc = .ok (.aload_n k, 1)) (hp : pc + 1 = pc') (hl : ∀ sa sv t, (lv_args 0 (L.map (wv sa sv t)))[(k : Nat)]? = some ((k : Nat), .ref sv)) (h : Sn d M pc' L ((8, x) :: S) K φ α r) : Sn d M pc L S K φ α r := by
  intro p l e R s m args below meth c D cA ad b base Ln xs H locs cells slots ls sa sv t C E Z Wo hS hL
  subst hp
  exact lv_aload_n C.1.1 C.1.2.1 hd rfl (lv_at hL k (hl _ _ _)) (h p l e R s m args below meth c D cA ad b base Ln xs H locs cells slots ls sa sv t C E Z Wo hS hL)
theorem s1_compact (hc : M.1.cls = "java/lang/String") (hd : decode M.2.1 pc = .ok (.getstatic 38, 3)) (hp : pc + 3 = pc') (h : Sn d M pc' L ((0, 1) :: S) K φ α r) : Sn d M pc L S K φ α r := by
  intro p l e R s m args below meth c D cA ad b base Ln xs H locs cells slots ls sa sv t C E Z Wo hS hL
  subst hp
  have ho := C.1.2.2.2.2
  rw [hc] at ho
  exact va_gets C.1.1 C.1.2.1 C.2.2.2.2.2.2.2.2.2.2.2.1 hS ho (C.2.1 _ wf38) (fun _ q => q) hd (h p l e R s m args below meth c D cA ad b base Ln xs H locs cells slots ls sa sv t C E Z Wo hS hL)
theorem s1_form {x : Int} (hc : M.1.cls = "java/lang/String") (hd : decode M.2.1 pc = .ok (.getstatic 1053, 3)) (hp : pc + 3 = pc') (h : Sn d M pc' L ((9, x) :: S) K φ α r) : Sn d M pc L S K φ α r := by
  intro p l e R s m args below meth c D cA ad b base Ln xs H locs cells slots ls sa sv t C E Z Wo hS hL
  subst hp
  have ho := C.1.2.2.2.2
  rw [hc] at ho
  exact va_gets C.1.1 C.1.2.1 Z hS ho (C.2.1 _ wf1053) (fun _ q => q) hd (h p l e R s m args below meth c D cA ad b base Ln xs H locs cells slots ls sa sv t C E Z Wo hS hL)
theorem s1_coder {x : Int} (hc : M.1.cls = "java/lang/String") (hd : decode M.2.1 pc = .ok (.getfield 15, 3)) (hp : pc + 3 = pc') (h : Sn d M pc' L ((0, 0) :: S) K φ α r) : Sn d M pc L ((7, x) :: S) K φ α r := by
  intro p l e R s m args below meth c D cA ad b base Ln xs H locs cells slots ls sa sv t C E Z Wo hS hL
  subst hp
  have ho := C.1.2.2.2.2
  rw [hc] at ho
  exact vk_getf C.1.1 C.1.2.1 (E.1 0 (by omega)).2.1 hS ho (C.2.1 _ wf15) (fun _ q => q) hd (h p l e R s m args below meth c D cA ad b base Ln xs H locs cells slots ls sa sv t C E Z Wo hS hL)
theorem s1_value {x : Int} (hc : M.1.cls = "java/lang/String") (hd : decode M.2.1 pc = .ok (.getfield 9, 3)) (hp : pc + 3 = pc') (h : Sn d M pc' L ((8, 0) :: S) K φ α r) : Sn d M pc L ((7, x) :: S) K φ α r := by
  intro p l e R s m args below meth c D cA ad b base Ln xs H locs cells slots ls sa sv t C E Z Wo hS hL
  subst hp
  have ho := C.1.2.2.2.2
  rw [hc] at ho
  exact vk_getf C.1.1 C.1.2.1 (E.1 0 (by omega)).2.2.1 hS ho (C.2.1 _ wf9) (fun _ q => q) hd (h p l e R s m args below meth c D cA ad b base Ln xs H locs cells slots ls sa sv t C E Z Wo hS hL)
theorem s1_len {x : Int} (hd : decode M.2.1 pc = .ok (.arraylength, 1)) (hp : pc + 1 = pc') (h : Sn d M pc' L ((0, 152) :: S) K φ α r) : Sn d M pc L ((8, x) :: S) K φ α r := by
  intro p l e R s m args below meth c D cA ad b base Ln xs H locs cells slots ls sa sv t C E Z Wo hS hL
  subst hp
  exact va_tlen C.1.1 C.1.2.1 (E.1 0 (by omega)).2.2.2 hS (v := Int32.ofInt 152) rfl hd (h p l e R s m args below meth c D cA ad b base Ln xs H locs cells slots ls sa sv t C E Z Wo hS hL)
theorem s1_bald {x : Int} {i : Nat} {v : Int} (hi : i < 152) (hv : wordsB.getD i 0 = Int32.ofInt v) (hd : decode M.2.1 pc = .ok (.baload, 1)) (hp : pc + 1 = pc') (h : Sn d M pc' L ((0, v) :: S) K φ α r) : Sn d M pc L ((0, (i : Int)) :: (8, x) :: S) K φ α r := by
  intro p l e R s m args below meth c D cA ad b base Ln xs H locs cells slots ls sa sv t C E Z Wo hS hL
  subst hp
  have hr : inR (i : Int) := by unfold inR; omega
  refine va_tb C.1.1 C.1.2.1 (E.1 0 (by omega)).2.2.2 hS (i := Int32.ofInt (i : Int)) (vpin_of hr (by omega) (by show (i : Int) < (152 : Nat); omega)) (v := .int (Int32.ofInt v)) ?_ hd (h p l e R s m args below meth c D cA ad b base Ln xs H locs cells slots ls sa sv t C E Z Wo hS hL)
  rw [clampI hr]
  show Value.int (wordsB.getD (i : Int).toNat 0) = _
  rw [Int.toNat_natCast, hv]
theorem s1_if_eq {x off : Int} {tg : Nat} (hx : inR x) (hd : decode M.2.1 pc = .ok (.ifCond .eq off, 3)) (hp : pc + 3 = pc') (ht : (pc : Int) + off = (tg : Int)) (h1 : x = 0 → Sn d M tg L S K φ α r) (h2 : ¬ x = 0 → Sn d M pc' L S K φ α r) : Sn d M pc L ((0, x) :: S) K φ α r := by
  intro p l e R s m args below meth c D cA ad b base Ln xs H locs cells slots ls sa sv t C E Z Wo hS hL
  subst hp
  exact lv_if_eq C.1.1 C.1.2.1 hd ht (fun q => h1 ((i32_eq hx inR0).mp q) p l e R s m args below meth c D cA ad b base Ln xs H locs cells slots ls sa sv t C E Z Wo hS hL) (fun q => h2 (fun z => q ((i32_eq hx inR0).mpr z)) p l e R s m args below meth c D cA ad b base Ln xs H locs cells slots ls sa sv t C E Z Wo hS hL)
theorem s1_if_ne {x off : Int} {tg : Nat} (hx : inR x) (hd : decode M.2.1 pc = .ok (.ifCond .ne off, 3)) (hp : pc + 3 = pc') (ht : (pc : Int) + off = (tg : Int)) (h1 : ¬ x = 0 → Sn d M tg L S K φ α r) (h2 : x = 0 → Sn d M pc' L S K φ α r) : Sn d M pc L ((0, x) :: S) K φ α r := by
  intro p l e R s m args below meth c D cA ad b base Ln xs H locs cells slots ls sa sv t C E Z Wo hS hL
  subst hp
  exact lv_if_ne C.1.1 C.1.2.1 hd ht (fun q => h1 (fun z => q ((i32_eq hx inR0).mpr z)) p l e R s m args below meth c D cA ad b base Ln xs H locs cells slots ls sa sv t C E Z Wo hS hL) (fun q => h2 ((i32_eq hx inR0).mp q) p l e R s m args below meth c D cA ad b base Ln xs H locs cells slots ls sa sv t C E Z Wo hS hL)
theorem s1_if_lt {x off : Int} {tg : Nat} (hx : inR x) (hd : decode M.2.1 pc = .ok (.ifCond .lt off, 3)) (hp : pc + 3 = pc') (ht : (pc : Int) + off = (tg : Int)) (h1 : x < 0 → Sn d M tg L S K φ α r) (h2 : ¬ x < 0 → Sn d M pc' L S K φ α r) : Sn d M pc L ((0, x) :: S) K φ α r := by
  intro p l e R s m args below meth c D cA ad b base Ln xs H locs cells slots ls sa sv t C E Z Wo hS hL
  subst hp
  exact lv_if_lt C.1.1 C.1.2.1 hd ht (fun q => h1 ((i32_lt hx inR0).mp q) p l e R s m args below meth c D cA ad b base Ln xs H locs cells slots ls sa sv t C E Z Wo hS hL) (fun q => h2 (fun z => q ((i32_lt hx inR0).mpr z)) p l e R s m args below meth c D cA ad b base Ln xs H locs cells slots ls sa sv t C E Z Wo hS hL)
theorem s1_icmp_lt {x y off : Int} {tg : Nat} (hx : inR x) (hy : inR y) (hd : decode M.2.1 pc = .ok (.if_icmp .lt off, 3)) (hp : pc + 3 = pc') (ht : (pc : Int) + off = (tg : Int)) (h1 : x < y → Sn d M tg L S K φ α r) (h2 : ¬ x < y → Sn d M pc' L S K φ α r) : Sn d M pc L ((0, y) :: (0, x) :: S) K φ α r := by
  intro p l e R s m args below meth c D cA ad b base Ln xs H locs cells slots ls sa sv t C E Z Wo hS hL
  subst hp
  exact lv_icmp_lt C.1.1 C.1.2.1 hd ht (fun q => h1 ((i32_lt hx hy).mp q) p l e R s m args below meth c D cA ad b base Ln xs H locs cells slots ls sa sv t C E Z Wo hS hL) (fun q => h2 (fun z => q ((i32_lt hx hy).mpr z)) p l e R s m args below meth c D cA ad b base Ln xs H locs cells slots ls sa sv t C E Z Wo hS hL)
theorem s1_goto {off : Int} (hd : decode M.2.1 pc = .ok (.goto off, 3)) (ht : (pc : Int) + off = (pc' : Int)) (h : Sn d M pc' L S K φ α r) : Sn d M pc L S K φ α r := by
  intro p l e R s m args below meth c D cA ad b base Ln xs H locs cells slots ls sa sv t C E Z Wo hS hL
  exact lv_goto C.1.1 C.1.2.1 hd ht (h p l e R s m args below meth c D cA ad b base Ln xs H locs cells slots ls sa sv t C E Z Wo hS hL)
theorem s1_iconst (v : Int) (hd : decode M.2.1 pc = .ok (.iconst v, 1)) (hp : pc + 1 = pc') (h : Sn d M pc' L ((0, v) :: S) K φ α r) : Sn d M pc L S K φ α r := by
  intro p l e R s m args below meth c D cA ad b base Ln xs H locs cells slots ls sa sv t C E Z Wo hS hL
  subst hp
  exact lv_iconst C.1.1 C.1.2.1 hd rfl (h p l e R s m args below meth c D cA ad b base Ln xs H locs cells slots ls sa sv t C E Z Wo hS hL)
theorem s1_pop {x : Int} (hd : decode M.2.1 pc = .ok (.pop, 1)) (hp : pc + 1 = pc') (h : Sn d M pc' L S K φ α r) : Sn d M pc L ((0, x) :: S) K φ α r := by
  intro p l e R s m args below meth c D cA ad b base Ln xs H locs cells slots ls sa sv t C E Z Wo hS hL
  subst hp
  exact lv_pop C.1.1 C.1.2.1 hd rfl (h p l e R s m args below meth c D cA ad b base Ln xs H locs cells slots ls sa sv t C E Z Wo hS hL)
theorem s1_sipush (v : Int) (g : (Int16.ofInt v).toInt32 = Int32.ofInt v) (hd : decode M.2.1 pc = .ok (.sipush v, 3)) (hp : pc + 3 = pc') (h : Sn d M pc' L ((0, v) :: S) K φ α r) : Sn d M pc L S K φ α r := by
  intro p l e R s m args below meth c D cA ad b base Ln xs H locs cells slots ls sa sv t C E Z Wo hS hL
  subst hp
  exact lv_sipush C.1.1 C.1.2.1 hd g (h p l e R s m args below meth c D cA ad b base Ln xs H locs cells slots ls sa sv t C E Z Wo hS hL)
theorem s1_iand {x y v : Int} (g : Int32.ofInt x &&& Int32.ofInt y = Int32.ofInt v) (hd : decode M.2.1 pc = .ok (.iand, 1)) (hp : pc + 1 = pc') (h : Sn d M pc' L ((0, v) :: S) K φ α r) : Sn d M pc L ((0, y) :: (0, x) :: S) K φ α r := by
  intro p l e R s m args below meth c D cA ad b base Ln xs H locs cells slots ls sa sv t C E Z Wo hS hL
  subst hp
  have := h p l e R s m args below meth c D cA ad b base Ln xs H locs cells slots ls sa sv t C E Z Wo hS hL
  refine lv_iand C.1.1 C.1.2.1 hd ?_
  rw [g]
  exact this
theorem s1_i2c {x : Int} (g : ((Int32.ofInt x).toUInt32 % 65536).toInt32 = Int32.ofInt x) (hd : decode M.2.1 pc = .ok (.i2c, 1)) (hp : pc + 1 = pc') (h : Sn d M pc' L ((0, x) :: S) K φ α r) : Sn d M pc L ((0, x) :: S) K φ α r := by
  intro p l e R s m args below meth c D cA ad b base Ln xs H locs cells slots ls sa sv t C E Z Wo hS hL
  subst hp
  exact lv_i2c C.1.1 C.1.2.1 hd g (h p l e R s m args below meth c D cA ad b base Ln xs H locs cells slots ls sa sv t C E Z Wo hS hL)
theorem s1_ishr {x y v : Int} (g : Int32.ofInt x >>> (Int32.ofInt y &&& 31) = Int32.ofInt v) (hd : decode M.2.1 pc = .ok (.ishr, 1)) (hp : pc + 1 = pc') (h : Sn d M pc' L ((0, v) :: S) K φ α r) : Sn d M pc L ((0, y) :: (0, x) :: S) K φ α r := by
  intro p l e R s m args below meth c D cA ad b base Ln xs H locs cells slots ls sa sv t C E Z Wo hS hL
  subst hp
  have := h p l e R s m args below meth c D cA ad b base Ln xs H locs cells slots ls sa sv t C E Z Wo hS hL
  refine lv_ishr C.1.1 C.1.2.1 hd ?_
  rw [g]
  exact this
theorem s1_ret {x : Int} {ty : FieldType} (hx : inR x) (hd : decode M.2.1 pc = .ok (.ireturn, 1)) (hr : M.2.2.2 = some ty) (hn : narrow ty (.int (Int32.ofInt x)) = .int (Int32.ofInt x)) : Sn d M pc L [(0, x)] K φ α (some (0, x)) := by
  intro p l e R s m args below meth c D cA ad b base Ln xs H locs cells slots ls sa sv t C E Z Wo hS hL
  exact W.zret C.1.1 C.1.2.1 (C.1.2.2.1.trans hr) hn (fun t ht hW => ⟨⟨(some (0, x)), K, φ, α, ad, rfl, ⟨rfl, rfl, rfl, rfl⟩, ⟨Nat.le_refl _, fun _ _ => rfl, fun _ _ => rfl⟩, by rw [ht]; exact Wo, va_K.moved hW.alike C.2.2.2.2.2.1, fun v hv => by cases hv; exact hx⟩, hS.F ht⟩) hS.2.2 hd C.2.2.1
theorem s1_vret (hd : decode M.2.1 pc = .ok (.return_, 1)) (hr : M.2.2.2 = none) : Sn d M pc L [] K φ α none := by
  intro p l e R s m args below meth c D cA ad b base Ln xs H locs cells slots ls sa sv t C E Z Wo hS hL
  exact W.vret C.1.1 C.1.2.1 (C.1.2.2.1.trans hr) (fun t ht hW => ⟨⟨none, K, φ, α, ad, rfl, ⟨rfl, rfl, rfl, rfl⟩, ⟨Nat.le_refl _, fun _ _ => rfl, fun _ _ => rfl⟩, by rw [ht]; exact Wo, va_K.moved hW.alike C.2.2.2.2.2.1, fun v hv => by cases hv⟩, hS.F ht⟩) hS.2.2 hd C.2.2.1
/-- a start of the text's own methods -/
def sPs (D : va_G) (cA : Nat → ClassId) (ad : Nat → Nat) (b base Ln : Nat) (xs : Nat → Int32) (K : bK) (φ : aF) (α : aA) (sa sv : Nat → Nat) (t : Option Nat) (U : State) : Prop := sP D cA ad b base Ln xs K φ α U ∧ zS base sa sv U ∧ zF base t U
theorem zS_same {base : Nat} {sa sv : Nat → Nat} {s U : State} (h : zS base sa sv s) (hv : U.vm = s.vm) (hq : U.heap = s.heap) : zS base sa sv U := by
  have ha : s.vm.Alike U.vm := by rw [hv]; exact Vm.Alike.refl _
  unfold zS at *
  rw [hq]
  exact h.moved ha
theorem zF_same {base : Nat} {t : Option Nat} {s U : State} (h : zF base t s) (hv : U.vm = s.vm) (hq : U.heap = s.heap) : zF base t U := by
  have ha : s.vm.Alike U.vm := by rw [hv]; exact Vm.Alike.refl _
  unfold zF at *
  rw [hq]
  exact h.moved ha
theorem sPs.blind {D : va_G} {cA : Nat → ClassId} {ad : Nat → Nat} {b base Ln : Nat} {t : Option Nat} {xs : Nat → Int32} {sa sv : Nat → Nat} {av : List Value} : FrameBlind (va_Pc av (sPs D cA ad b base Ln xs K φ α sa sv t)) := by
  intro a U g mk ⟨h0, h1, h2, h3⟩
  have := sP.blind (av := av) a U g mk ⟨h0, h1⟩
  exact ⟨h0, this.2, zS_same h2 rfl rfl, zF_same h3 rfl rfl⟩
theorem met_str (hN : NK N n) (sa sv : Nat → Nat) (t : Option Nat) (hAs : (lg_sl (As.map (wv (sa 0) (sv 0) t))).length ≤ N.2.2.1) (h : Sn d N 0 As [] K φ α r) (l : Launch) (D : va_G) (cA : Nat → ClassId) (ad : Nat → Nat) (b base Ln : Nat) (xs : Nat → Int32) :
    Met l N.1 (Cond.code N.1 N.2.1 N.2.2.1 N.2.2.2 :: lw_g) ({ frames := d, cells := 0, slots := 0, locals := 60 * d }) (va_Pc (As.map (wv (sa 0) (sv 0) t)) (sPs D cA ad b base Ln xs K φ α sa sv t)) (Fq D cA ad (fun q => base ≤ q) b Ln xs K (eqQ r K φ α)) 0 0 (fun q => base ≤ q) := by
  refine Met.ofWF (cc := N.2.1) (maxL := N.2.2.1) (ret := N.2.2.2) hN.2.1 rfl ?_
  intro p e s m args below meth c s₁ B hml hv'
  obtain ⟨rfl, ⟨h1, h2, h3, h4, h5, h6, h7⟩, h8, h9⟩ := hv'
  have hts := atoms_spec (ws := Cond.code N.1 N.2.1 N.2.2.1 N.2.2.2 :: lw_g) B.pre
  have hts' : ∀ w ∈ lw_h, w.before (As.map (wv (sa 0) (sv 0) t)).toArray s = true := by
    intro w hw
    obtain ⟨a1, a2⟩ := List.mem_filter.mp hw
    by_cases hg : goodWord w = true
    · exact hts w (List.mem_cons_of_mem _ (List.mem_filter.mpr ⟨a1, hg⟩))
    · have hn : isNest w = true := by simpa [hg] using a2
      exact (h7 w hw hn).use (isNest_tab hn)
  have hl := lv_entry (As.map (wv (sa 0) (sv 0) t)) (n := N.2.2.1) hAs
  rw [lg_entry_eq]
  generalize (lg_sl (As.map (wv (sa 0) (sv 0) t)) ++ List.replicate (N.2.2.1 - (lg_sl (As.map (wv (sa 0) (sv 0) t))).length) Slot.unset).toArray = ls at hl ⊢
  have hh := h p l e { frames := d, cells := 0, slots := 0, locals := 60 * d } s m (As.map (wv (sa 0) (sv 0) t)).toArray below meth c D cA ad b base Ln xs s.heap [] 0 0 ls sa sv t ⟨⟨B.exec, B.bytes, B.returns, hml, findClass_of_methodNamed B.named⟩, hts', B.notSynchronized, (name_of_methodNamed B.named B.method).1, ⟨Nat.le_refl _, Nat.le_refl _, by simp, by simp⟩, h2, h3, h4, h5, h6⟩ h8 h9 h1 va_S.rf hl
  exact hh
theorem sPs_of {p : Program} {R : Room} {s : State} {m : MethodId} {args : Array Value} {meth : Method} {c : Code} {D : va_G} {cA : Nat → ClassId} {ad : Nat → Nat} {b base Ln : Nat} {t : Option Nat} {xs : Nat → Int32} {H : Heap} {locs : List Loc} {cells slots : Nat} {k : Nat × Nat} {sa sv : Nat → Nat}
    (C : Cx M d k p R s m args meth c cells slots D cA b base Ln xs) (E : zS base sa sv s) (Z : zF base t s) (Wo : Wd D cA ad (fun q => base ≤ q) Ln xs K φ α H) (hS : va_S (fun q => base ≤ q) s.heap H locs) : ∀ U : State, U.heap = H → s.WarmedH U.vm → sPs D cA ad b base Ln xs K φ α sa sv t U := by
  intro U hU hW
  have hq : ∀ a : Nat, a < s.heap.size → ¬ base ≤ a → U.heap[a]? = s.heap[a]? := fun a h1 h2 => by rw [hU]; exact hS.2.1 a h1 h2
  exact ⟨sP_of C Wo hS U hU hW, (E.kept hq).moved hW.alike, (va_Z.kept Z hq).moved hW.alike⟩
theorem s1_back {p : Program} {l : Launch} {e : Env} {R : Room} {s : State} {m : MethodId} {args : Array Value} {below : List Frame} {meth : Method} {c : Code} {D : va_G} {cA : Nat → ClassId} {ad : Nat → Nat} {b base Ln : Nat} {t : Option Nat} {xs : Nat → Int32} {H : Heap} {locs : List Loc} {cells slots : Nat} {ls : Array Slot} {a : Array Value} {st0 : List Value} {sa sv : Nat → Nat}
    (C : Cx M (d + 1) (0, 0) p R s m args meth c cells slots D cA b base Ln xs) (E : zS base sa sv s) (Z : zF base t s) (hS : va_S (fun q => base ≤ q) s.heap H locs) (hL : lv_has ls M.2.2.1 (lv_args 0 (L.map (wv (sa 0) (sv 0) t)))) (hp : pc + 3 = pc') (hr1 : ∀ v, r1 = some v → v.1 = 0)
    (hr : va_Run p l e R s m args below meth c H locs cells slots 0 0 (F0 m pc ls st0) (S.map (wv (sa 0) (sv 0) t)) (Fq D cA ad (fun q => base ≤ q) b Ln xs K (eqQ r1 K φ α) a) (fun q => base ≤ q))
    (h2 : Sn (d + 1) M pc' L (r1.toList ++ S) K φ α r) :
    W p l e R s m args below meth c H locs cells slots (MQ below (Fq D cA ad (fun q => base ≤ q) b Ln xs K (eqQ r K φ α)) args s (cells + 0) (slots + 0) (fun q => base ≤ q)) (F0 m pc ls st0) := by
  subst hp
  intro T hT X
  obtain ⟨v, st₀, t', T', Lc, h0, X', hLc, e1, e2, ⟨⟨r', K', φ', α', ad', q1, ⟨z1, z2, z3, z4⟩, q3, q4, q5, q6⟩, hF⟩, st⟩ := hr T hT X
  subst z1 z2 z3 z4
  have hv : v = r'.map (cv ad' b) := by injection q1
  subst hv
  have hz := hF.1
  have hk := hF.2
  rw [h0] at hz hk
  have hS' : va_S (fun q => base ≤ q) s.heap T'.heap (locs ++ Lc) := ⟨Nat.le_trans hS.1 (by rw [e1]; exact hz), fun q h1 h2 => by rw [e1, hk q (Nat.lt_of_lt_of_le h1 hS.1) h2]; exact hS.2.1 q h1 h2, fun q hq => by
    rcases List.mem_append.mp hq with h | h
    · exact hS.2.2 q h
    · exact hLc q h⟩
  have hh := h2 p l e R s m args below meth c D cA ad' b base Ln xs T'.heap (locs ++ Lc) (cells + 0) (slots + 0) ls sa sv t C E Z (by rw [e1]; exact q4) hS' hL
  have e3 : (r'.toList ++ S).map (wv (sa 0) (sv 0) t) = (r'.map (cv ad' b)).toList ++ S.map (wv (sa 0) (sv 0) t) := by
    rw [List.map_append]
    cases r' with
    | none => rfl
    | some w =>
      obtain ⟨w1, w2⟩ := w
      have := hr1 _ rfl
      dsimp only at this
      subst this
      rfl
  rw [e3] at hh
  obtain ⟨t2, a1, b1⟩ := hh T' rfl X'
  exact ⟨t2, st t2 a1, MQ.mono (fun o t hq => Fq.tr q3 hq) _ b1⟩
theorem s1_callS {St : List aV} (hd : decode M.2.1 pc = .ok (.invokestatic ix, 3)) (hp : pc + 3 = pc') (hst : As.reverse ++ S = St) (hN : NK N n) (hl : Cond.methodLink M.1.cls ix N.1 ∈ lw_tbl) (hs : Cond.static N.1 ∈ lw_tbl) (hn : As.length = n) (hc : ∀ sa sv t, ((S.map (wv sa sv t)).map fun v => v.category).sum ≤ 8) (hA : ∀ sa sv t, (lg_sl (As.map (wv sa sv t))).length ≤ N.2.2.1) (hr1 : ∀ v, r1 = some v → v.1 = 0)
    (h1 : Sn d N 0 As [] K φ α r1) (h2 : Sn (d + 1) M pc' L (r1.toList ++ S) K φ α r) : Sn (d + 1) M pc L St K φ α r := by
  intro p l e R s m args below meth c D cA ad b base Ln xs H locs cells slots ls sa sv t C E Z Wo hS hL
  subst hst
  have hM := met_str hN sa sv t (hA _ _ _) h1 l D cA ad b base Ln xs
  have hc1 := C.2.2.2.2.1.2.2.1
  have hc2 := C.2.2.2.2.1.2.2.2
  dsimp only at hc1 hc2
  rw [List.map_append, List.map_reverse]
  exact s1_back C E Z hS hL hp hr1 (va_runS (As := As.map (wv (sa 0) (sv 0) t)) ⟨C.1.1, C.1.2.1, C.1.2.2.2.1, C.1.2.2.2.2, C.2.1⟩ hM ⟨callB_s (k1 := (0, 0)) C hN hl, C.2.1 _ (hw hs rfl)⟩ ⟨sPs.blind, fun U hU hW => ⟨rfl, sPs_of C E Z Wo hS U hU hW⟩⟩ rfl (by rw [List.length_map]; exact hn) hL.1 rfl (by simpa using hc _ _ _) hd ⟨by omega, by omega⟩) h2
theorem s1_callV {St : List aV} {x : Int} (hd : decode M.2.1 pc = .ok (.invokevirtual ix, 3)) (hp : pc + 3 = pc') (hst : As.reverse ++ (7, x) :: S = St) (hN : NK N n) (hl : Cond.methodLink M.1.cls ix N.1 ∈ lw_tbl) (hi : Cond.instanceMethod N.1 ∈ lw_tbl) (hse : Cond.selects "java/lang/String" N.1 N.1 ∈ lw_tbl) (hn : As.length = n) (hc : ∀ sa sv t, ((S.map (wv sa sv t)).map fun v => v.category).sum ≤ 8) (hA : ∀ sa sv t, (lg_sl (((7, x) :: As).map (wv sa sv t))).length ≤ N.2.2.1) (hr1 : ∀ v, r1 = some v → v.1 = 0)
    (h1 : Sn d N 0 ((7, x) :: As) [] K φ α r1) (h2 : Sn (d + 1) M pc' L (r1.toList ++ S) K φ α r) : Sn (d + 1) M pc L St K φ α r := by
  intro p l e R s m args below meth c D cA ad b base Ln xs H locs cells slots ls sa sv t C E Z Wo hS hL
  subst hst
  have hM := met_str hN sa sv t (hA _ _ _) h1 l D cA ad b base Ln xs
  have hc1 := C.2.2.2.2.1.2.2.1
  have hc2 := C.2.2.2.2.1.2.2.2
  dsimp only at hc1 hc2
  rw [List.map_append, List.map_reverse]
  exact s1_back C E Z hS hL hp hr1 (va_runV (As := As.map (wv (sa 0) (sv 0) t)) (C := "java/lang/String") ⟨C.1.1, C.1.2.1, C.1.2.2.2.1, C.1.2.2.2.2, C.2.1⟩ hM ⟨callB_s (k1 := (0, 0)) C hN hl, C.2.1 _ (hw hi rfl), C.2.1 _ (hw hse rfl)⟩ ⟨sPs.blind, vk_recv E (by omega) hS, fun U hU hW => ⟨rfl, sPs_of C E Z Wo hS U hU hW⟩⟩ rfl (by rw [List.length_map]; exact hn) hL.1 rfl (by simpa using hc _ _ _) hd ⟨by omega, by omega⟩) h2
end STR
