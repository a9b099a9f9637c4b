/-! the abstract machine: values are pairs (tag, number): 0 int, 1 long, 2 a made object (its number), 4 the script; 8, 9 nothing -/
abbrev aV : Type := Nat × Int
abbrev aK : Type := Nat × (Nat → Nat × Nat)
abbrev aF : Type := Nat → Nat → Int → Int
abbrev aA : Type := Int → Int → Int
abbrev aM : Type := MethodName × ByteArray × Nat × Option FieldType
abbrev aQ : Type := Option aV → aK → aF → aA → Prop
def inR (x : Int) : Prop := -2147483648 ≤ x ∧ x < 2147483648
def inJ (x : Int) : Prop := -9223372036854775808 ≤ x ∧ x < 9223372036854775808
def cv (ad : Nat → Nat) (b : Nat) (v : aV) : Value := match v.1 with
  | 0 => .int (Int32.ofInt v.2)
  | 1 => .long (Int64.ofInt v.2)
  | 2 => .ref (ad v.2.toNat)
  | _ => .ref b
def vOk (n : Nat) (v : aV) : Prop := match v.1 with
  | 0 => inR v.2
  | 1 => inJ v.2
  | 2 => 0 ≤ v.2 ∧ v.2 < n
  | _ => True
def fcv (ad : Nat → Nat) (t : Nat) (v : Int) : Value := match t with
  | 0 => .int (Int32.ofInt v)
  | 1 => .long (Int64.ofInt v)
  | _ => if v < 0 then .null else .ref (ad v.toNat)
def fOk (n t : Nat) (v : Int) : Prop := match t with
  | 0 => inR v
  | 1 => inJ v
  | _ => -1 ≤ v ∧ v < n
def fTag (ty : FieldType) : Nat := match ty with
  | .int => 0
  | .boolean => 0
  | .long => 1
  | _ => 2
/-- the locals hold what the list says -/
def aLs (ad : Nat → Nat) (b : Nat) (ls : Array Slot) (nL : Nat) (L : List aV) : Prop := ls.size = nL ∧ lv_wf ls ∧ L.length = nL ∧ ∀ (i : Nat) (v : aV), L[i]? = some v → v.1 ≤ 4 → ls[i]? = some (.val (cv ad b v))
def aSt1 : Nat → aV → List aV → List aV
  | _, _, [] => []
  | 0, v, _ :: t => v :: t
  | 1, v, x :: t => (bif Nat.beq x.1 1 then (9, 0) else x) :: aSt1 0 v t
  | i + 2, v, x :: t => x :: aSt1 (i + 1) v t
def aSt2 : Nat → aV → List aV → List aV
  | _, _, [] => []
  | _, _, [x] => [x]
  | 0, v, _ :: _ :: t => v :: (8, 0) :: t
  | 1, v, x :: y :: t => (bif Nat.beq x.1 1 then (9, 0) else x) :: aSt2 0 v (y :: t)
  | i + 2, v, x :: y :: t => x :: aSt2 (i + 1) v (y :: t)
/-- what a list of locals says is said by another -/
def aWk : List aV → List aV → Prop
  | [], [] => True
  | x :: t, y :: u => (x = y ∨ 4 < x.1) ∧ aWk t u
  | _, _ => False
theorem ofInt_toInt32 {x : Int} (h : inR x) : (Int32.ofInt x).toInt = x := Int32.toInt_ofInt_of_le (by unfold inR at h; omega) (by unfold inR at h; omega)
theorem ofInt_toInt64 {x : Int} (h : inJ x) : (Int64.ofInt x).toInt = x := Int64.toInt_ofInt_of_le (by unfold inJ at h; omega) (by unfold inJ at h; omega)
theorem i32_eq {x y : Int} (hx : inR x) (hy : inR y) : Int32.ofInt x = Int32.ofInt y ↔ x = y := by
  rw [← Int32.toInt_inj, ofInt_toInt32 hx, ofInt_toInt32 hy]
theorem i32_lt {x y : Int} (hx : inR x) (hy : inR y) : Int32.ofInt x < Int32.ofInt y ↔ x < y := by
  rw [Int32.lt_iff_toInt_lt, ofInt_toInt32 hx, ofInt_toInt32 hy]
theorem i32_le {x y : Int} (hx : inR x) (hy : inR y) : Int32.ofInt x ≤ Int32.ofInt y ↔ x ≤ y := by
  rw [Int32.le_iff_toInt_le, ofInt_toInt32 hx, ofInt_toInt32 hy]
theorem i64_eq {x y : Int} (hx : inJ x) (hy : inJ y) : Int64.ofInt x = Int64.ofInt y ↔ x = y := by
  rw [← Int64.toInt_inj, ofInt_toInt64 hx, ofInt_toInt64 hy]
theorem i64_lt {x y : Int} (hx : inJ x) (hy : inJ y) : Int64.ofInt x < Int64.ofInt y ↔ x < y := by
  rw [Int64.lt_iff_toInt_lt, ofInt_toInt64 hx, ofInt_toInt64 hy]
theorem inR0 : inR 0 := by unfold inR; omega
theorem i32_0 : (0 : Int32) = Int32.ofInt 0 := rfl
theorem toInt_inR (x : Int32) : inR x.toInt := ⟨Int32.le_toInt x, Int32.toInt_lt x⟩
theorem toInt_inJ (x : Int64) : inJ x.toInt := ⟨Int64.le_toInt x, Int64.toInt_lt x⟩
def iAnd (x y : Int) : Int := (Int32.ofInt x &&& Int32.ofInt y).toInt
def iOr (x y : Int) : Int := (Int32.ofInt x ||| Int32.ofInt y).toInt
def iXor (x y : Int) : Int := (Int32.ofInt x ^^^ Int32.ofInt y).toInt
def iShl (x y : Int) : Int := (Int32.ofInt x <<< (Int32.ofInt y &&& 31)).toInt
def iShr (x y : Int) : Int := (Int32.ofInt x >>> (Int32.ofInt y &&& 31)).toInt
def iUshr (x y : Int) : Int := ((Int32.ofInt x).toUInt32 >>> ((Int32.ofInt y).toUInt32 &&& Int32.toUInt32 31)).toInt32.toInt
def jAnd (x y : Int) : Int := (Int64.ofInt x &&& Int64.ofInt y).toInt
def j3 (x y : Int) : Int := if y < x then 1 else if x = y then 0 else -1
/-- the entry's locals: the arguments, a long with its second half, then nothing -/
def aEn1 : List aV → List aV
  | [] => []
  | v :: t => if v.1 = 1 then v :: (8, 0) :: aEn1 t else v :: aEn1 t
def aEn (n : Nat) (As : List aV) : List aV := aEn1 As ++ List.replicate (n - (aEn1 As).length) (9, 0)
