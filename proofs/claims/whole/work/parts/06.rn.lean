abbrev bK : Type := Nat × (Int → Nat × Nat)
abbrev bQ : Type := Option aV → bK → aF → aA → Prop
/-- the cell of object j: kinds below 20 are classes, 20 int[], 21 char[], 22 long[], 23 an array of States -/
def ent (cA : Nat → ClassId) (ad : Nat → Nat) (K : bK) (φ : aF) (α : aA) (j : Nat) : va_E :=
  if (K.2 j).1 = 20 then .inl (cA 0, (K.2 j).2, .inl (fun i => Int32.ofInt (α j i)))
  else if (K.2 j).1 = 21 then .inl (cA 1, (K.2 j).2, .inl (fun i => Int32.ofInt (α j i)))
  else if (K.2 j).1 = 22 then .inl (cA 2, (K.2 j).2, .inr (.inl (fun i => Int64.ofInt (α j i))))
  else if (K.2 j).1 = 23 then .inl (cA 3, (K.2 j).2, .inr (.inr (.inr (.inr (fun i => if α j i < 0 then none else some (ad (α j i).toNat))))))
  else .inr ((K.2 j).1, (List.range (fNo (K.2 j).1)).map (fun k => fcv ad (fT (K.2 j).1 k) (φ (K.2 j).1 k j)))
def wl (cA : Nat → ClassId) (ad : Nat → Nat) (K : bK) (φ : aF) (α : aA) : va_W := (List.range K.1).map (fun j => (ad j, ent cA ad K φ α j))
def jOk (K : bK) (φ : aF) (α : aA) (j : Nat) : Prop :=
  ((K.2 j).1 = 20 → ∀ i, inR (α j i)) ∧ ((K.2 j).1 = 21 → ∀ i, 0 ≤ α j i ∧ α j i < 65536) ∧ ((K.2 j).1 = 22 → ∀ i, inJ (α j i)) ∧ ((K.2 j).1 = 23 → ∀ i, -1 ≤ α j i ∧ α j i < K.1 ∧ (0 ≤ α j i → (K.2 (α j i)).1 = 7)) ∧ ((K.2 j).1 < 20 → (K.2 j).1 < 12 ∧ ∀ k, k < fNo (K.2 j).1 → fOk K.1 (fT (K.2 j).1 k) (φ (K.2 j).1 k j)) ∧ (K.2 j).1 < 24 ∧ (K.2 j).2 < 2147483648
def tyL (cA : Nat → ClassId) : List (ClassId × FieldType) := [(cA 0, .int), (cA 1, .char), (cA 2, .long), (cA 3, .object "SpongeClerks$State")]
def Wd (D : va_G) (cA : Nat → ClassId) (ad : Nat → Nat) (A : Nat → Prop) (Ln : Nat) (xs : Nat → Int32) (K : bK) (φ : aF) (α : aA) (H : Heap) : Prop :=
  va_P D vCl (wl cA ad K φ α) H ∧ va_D A (wl cA ad K φ α) ∧ (∀ j, j < K.1 → jOk K φ α j) ∧ K.2 (-1) = (30, Ln) ∧ Ln < 2147483648 ∧ ∀ i : Nat, i < Ln → α (-1) i = (xs i).toInt
def isNest : Cond → Bool
  | .methodLinkNest _ _ _ _ => true
  | _ => false
/-- the tables' words that hold behind every call -/
def lw_h : List Cond := lw_tbl.filter (fun w => goodWord w || isNest w)
theorem hw {w : Cond} (h : w ∈ lw_tbl) (g : (goodWord w || isNest w) = true) : w ∈ lw_h := List.mem_filter.mpr ⟨h, g⟩
theorem hw_lay {C : String} {T : u_T} {N : Nat} (h : ∀ w ∈ u_ws C T N, w ∈ lw_tbl) : ∀ w ∈ u_ws C T N, w ∈ lw_h := by
  intro w hm
  refine hw (h w hm) ?_
  obtain ⟨k, -, rfl⟩ := List.mem_map.mp hm
  unfold u_lay
  split <;> rfl
def wordsT : String := "seats matter clerk at room told of leaks shakes hand full seat day drops space off number mind or and not all min max first last often total most least "
def wordsB : List Int32 := [115, 101, 97, 116, 115, 32, 109, 97, 116, 116, 101, 114, 32, 99, 108, 101, 114, 107, 32, 97, 116, 32, 114, 111, 111, 109, 32, 116, 111, 108, 100, 32, 111, 102, 32, 108, 101, 97, 107, 115, 32, 115, 104, 97, 107, 101, 115, 32, 104, 97, 110, 100, 32, 102, 117, 108, 108, 32, 115, 101, 97, 116, 32, 100, 97, 121, 32, 100, 114, 111, 112, 115, 32, 115, 112, 97, 99, 101, 32, 111, 102, 102, 32, 110, 117, 109, 98, 101, 114, 32, 109, 105, 110, 100, 32, 111, 114, 32, 97, 110, 100, 32, 110, 111, 116, 32, 97, 108, 108, 32, 109, 105, 110, 32, 109, 97, 120, 32, 102, 105, 114, 115, 116, 32, 108, 97, 115, 116, 32, 111, 102, 116, 101, 110, 32, 116, 111, 116, 97, 108, 32, 109, 111, 115, 116, 32, 108, 101, 97, 115, 116, 32]
def zv : Option Nat → Value
  | none => .null
  | some a => .ref a
/-- what else of the start is asked for: the array class of States, the words' text -/
def Gx (A : Nat → Prop) (s : State) : Prop := va_AO "SpongeClerks$State" s ∧ (∃ (sa sv : Nat → Nat), vk_R "SpongeClerks$Tokens" 19 wordsT (sa 0) s ∧ vk_S 1 [152] [wordsB] sa sv A s s.heap) ∧ va_Z "java/lang/String" "COMPACT_STRINGS" "Z" (.int 1) A s s.heap ∧ ∃ t : Option Nat, va_Z "jdk/internal/util/Preconditions" "SIOOBE_FORMATTER" "Ljava/util/function/BiFunction;" (zv t) A s s.heap
theorem Gx.moved {A : Nat → Prop} {s U : State} (h : Gx A s) (hW : s.WarmedH U.vm) (hq : ∀ a : Nat, a < s.heap.size → ¬ A a → U.heap[a]? = s.heap[a]?) : Gx A U := by
  obtain ⟨h1, ⟨sa, sv, h2, h3⟩, h4, t, h5⟩ := h
  exact ⟨h1.moved hW.alike, ⟨sa, sv, h2.warm hW, (h3.kept hq).moved hW.alike⟩, (h4.kept hq).moved hW.alike, t, (h5.kept hq).moved hW.alike⟩
def Cx (M : aM) (d : Nat) (k : Nat × Nat) (p : Program) (R : Room) (s : State) (m : MethodId) (args : Array Value) (meth : Method) (c : Code) (cells slots : Nat) (D : va_G) (cA : Nat → ClassId) (b base Ln : Nat) (xs : Nat → Int32) : Prop :=
  (p.tables.exec = Jvm.exec ∧ c.code = M.2.1 ∧ meth.sig.returnType = M.2.2.2 ∧ c.maxLocals = M.2.2.1 ∧ s.vm.findClass M.1.cls = some m.cls) ∧ (∀ w ∈ lw_h, w.before args s = true) ∧ meth.locks = false ∧ meth.name = M.1.name ∧ (d ≤ R.frames ∧ 60 * d ≤ R.locals ∧ cells + k.1 ≤ R.cells ∧ slots + k.2 ≤ R.slots) ∧ va_K D vCl (tyL cA) s ∧ base ≤ s.heap.size ∧ b < base ∧ va_X b Ln xs s s.heap ∧ Gx (fun q => base ≤ q) s
def bXt (K K' : bK) (ad ad' : Nat → Nat) : Prop := K.1 ≤ K'.1 ∧ (∀ j, j < K.1 → ad' j = ad j) ∧ ∀ j : Int, j < K.1 → K'.2 j = K.2 j
def Fq (D : va_G) (cA : Nat → ClassId) (ad : Nat → Nat) (A : Nat → Prop) (b Ln : Nat) (xs : Nat → Int32) (K : bK) (Q : bQ) : Array Value → State → Outcome → State → Prop := fun _ st o t =>
  (∃ (r : Option aV) (K' : bK) (φ' : aF) (α' : aA) (ad' : Nat → Nat), o = .returned (r.map (cv ad' b)) ∧ Q r K' φ' α' ∧ bXt K K' ad ad' ∧ Wd D cA ad' A Ln xs K' φ' α' t.heap ∧ va_K D vCl (tyL cA) t ∧ ∀ v, r = some v → vOk K'.1 v) ∧ va_F A st t
/-- from pc, with these locals, this stack, this heap, the method comes to its end with Q, and makes at most k.1 cells of k.2 slots; d calls may stand open -/
def Rn (d : Nat) (M : aM) (pc : Nat) (L S : List aV) (K : bK) (φ : aF) (α : aA) (k : Nat × Nat) (Q : bQ) : Prop :=
  ∀ (p : Program) (l : Launch) (e : Env) (R : Room) (s : State) (m : MethodId) (args : Array Value) (below : List Frame) (meth : Method) (c : Code) (D : va_G) (cA : Nat → ClassId) (ad : Nat → Nat) (b base Ln : Nat) (xs : Nat → Int32) (H : Heap) (locs : List Loc) (cells slots : Nat) (ls : Array Slot),
  Cx M d k p R s m args meth c cells slots D cA b base Ln xs → Wd D cA ad (fun q => base ≤ q) Ln xs K φ α H → va_S (fun q => base ≤ q) s.heap H locs → aLs ad b ls M.2.2.1 L → (∀ v ∈ L, vOk K.1 v) → (∀ v ∈ S, vOk K.1 v) →
  W p l e R s m args below meth c H locs cells slots (MQ below (Fq D cA ad (fun q => base ≤ q) b Ln xs K Q) args s (cells + k.1) (slots + k.2) (fun q => base ≤ q)) (F0 m pc ls (S.map (cv ad b)))
theorem vCons {n : Nat} {v : aV} {S : List aV} (h : vOk n v) (hs : ∀ v ∈ S, vOk n v) : ∀ u ∈ v :: S, vOk n u := List.forall_mem_cons.mpr ⟨h, hs⟩
theorem vHd {n : Nat} {v : aV} {S : List aV} (h : ∀ u ∈ v :: S, vOk n u) : vOk n v := (List.forall_mem_cons.mp h).1
theorem vTl {n : Nat} {v : aV} {S : List aV} (h : ∀ u ∈ v :: S, vOk n u) : ∀ u ∈ S, vOk n u := (List.forall_mem_cons.mp h).2
theorem i32of_add (x y : Int) : Int32.ofInt x + Int32.ofInt y = Int32.ofInt (x + y) := by rw [Int32.ofInt_add]
theorem i32of_sub (x y : Int) : Int32.ofInt x - Int32.ofInt y = Int32.ofInt (x - y) := by rw [Int32.ofInt_sub]
theorem i32of_mul (x y : Int) : Int32.ofInt x * Int32.ofInt y = Int32.ofInt (x * y) := by rw [Int32.ofInt_mul]
theorem i32of_neg (x : Int) : -Int32.ofInt x = Int32.ofInt (-x) := by rw [Int32.ofInt_neg]
theorem i64of_add (x y : Int) : Int64.ofInt x + Int64.ofInt y = Int64.ofInt (x + y) := by rw [Int64.ofInt_add]
theorem i64of_sub (x y : Int) : Int64.ofInt x - Int64.ofInt y = Int64.ofInt (x - y) := by rw [Int64.ofInt_sub]
theorem i64of_mul (x y : Int) : Int64.ofInt x * Int64.ofInt y = Int64.ofInt (x * y) := by rw [Int64.ofInt_mul]
theorem i32of_div {x y : Int} (hx : inR x) (hy : inR y) : Int32.ofInt x / Int32.ofInt y = Int32.ofInt (x.tdiv y) := by
  apply Int32.toInt_inj.mp
  rw [Int32.toInt_div, ofInt_toInt32 hx, ofInt_toInt32 hy, Int32.toInt_ofInt]
theorem i64of_div {x y : Int} (hx : inJ x) (hy : inJ y) : Int64.ofInt x / Int64.ofInt y = Int64.ofInt (x.tdiv y) := by
  apply Int64.toInt_inj.mp
  rw [Int64.toInt_div, ofInt_toInt64 hx, ofInt_toInt64 hy, Int64.toInt_ofInt]
theorem i32of_rem {x y : Int} (hx : inR x) (hy : inR y) : Int32.ofInt x - Int32.ofInt x / Int32.ofInt y * Int32.ofInt y = Int32.ofInt (x.tmod y) := by
  rw [i32of_div hx hy, i32of_mul, i32of_sub, Int.tmod_def, Int.mul_comm]
theorem i64of_rem {x y : Int} (hx : inJ x) (hy : inJ y) : Int64.ofInt x - Int64.ofInt x / Int64.ofInt y * Int64.ofInt y = Int64.ofInt (x.tmod y) := by
  rw [i64of_div hx hy, i64of_mul, i64of_sub, Int.tmod_def, Int.mul_comm]
theorem ofInt_toInt (x : Int32) : Int32.ofInt x.toInt = x := Int32.ofInt_toInt x
theorem i64ofInt_toInt (x : Int64) : Int64.ofInt x.toInt = x := Int64.ofInt_toInt x
