/-! what a code is worth: the class's cells, each takes what it needs from the stack -/
def clp (x : Int) : Int := max (-1000000) (min 1000000 x)
def flr (a b : Int) : Int := if b = 0 then 0 else if Int.tmod a b ≠ 0 ∧ ¬ (a < 0 ↔ b < 0) then Int.tdiv a b - 1 else Int.tdiv a b
def ndF (cell : Int) : Nat :=
  if cell = 18 ∨ cell = 19 ∨ cell = 22 ∨ cell = 23 ∨ cell = 42 ∨ cell = 43 ∨ cell = 45 ∨ cell = 47 ∨ cell = 60 ∨ cell = 61 ∨ cell = 62 then 2 else if cell = 20 ∨ cell = 30 ∨ cell = 31 then 1 else 0
def joinF (cell a b : Int) : Int :=
  if cell = 18 then iOr a b else if cell = 19 then iAnd a b else if cell = 22 then min a b else if cell = 42 then clp (a * b) else if cell = 43 then clp (a + b) else if cell = 45 then clp (a - b) else if cell = 47 then flr a b else if cell = 60 then (if a < b then 1 else 0) else if cell = 61 then (if a = b then 1 else 0) else if cell = 62 then (if b < a then 1 else 0) else max a b
/-- n clerks, M matters, rooms rm, the state nw; a clerk c, another o, a matter m -/
def turnF (n M : Nat) (nw : Int → Int) (c cell v : Int) : Int :=
  if cell = 30 then (if 0 ≤ v ∧ v < M then nw (2 + 5 * c + v) else 0) else if cell = 31 then (if 0 ≤ v ∧ v < n then absI (nw (1 + 5 * c) - nw (1 + 5 * v)) else 0) else 1 - v
def lookF (rm nw : Int → Int) (c o m cell : Int) : Int :=
  if 1000 ≤ cell then cell - 1000 else if cell = 1 then m else if cell = 4 then rm c else if cell = 10 then fullF nw c else if cell = 11 then nw (1 + 5 * c) else if cell = 12 then nw 0 else if cell = 13 then (if 0 ≤ m ∧ m < 4 then nw (2 + 5 * c + m) else 0) else if cell = 14 then rm o - fullF nw o else if cell = 15 then absI (nw (1 + 5 * c) - nw (1 + 5 * o)) else if cell = 16 then c else if cell = 17 then m else 1
def evS (n M : Nat) (rm nw : Int → Int) (c o m : Int) (st : List Int) (cell : Int) : List Int :=
  if ndF cell = 0 then lookF rm nw c o m cell :: st
  else if ndF cell = 1 then (match st with | v :: t => turnF n M nw c cell v :: t | [] => [])
  else (match st with | b :: a :: t => joinF cell a b :: t | _ => [])
def evL (n M : Nat) (rm nw : Int → Int) (c o m : Int) (st : List Int) (cs : List Int) : List Int := cs.foldl (evS n M rm nw c o m) st
/-- kinds: false a number, true 0 or 1 -/
def tyS (ts : List Bool) (cell : Int) : Option (List Bool) :=
  if cell = 18 ∨ cell = 19 then (match ts with | true :: true :: t => some (true :: t) | _ => none)
  else if cell = 22 ∨ cell = 23 ∨ cell = 42 ∨ cell = 43 ∨ cell = 45 ∨ cell = 47 then (match ts with | false :: false :: t => some (false :: t) | _ => none)
  else if cell = 60 ∨ cell = 61 ∨ cell = 62 then (match ts with | false :: false :: t => some (true :: t) | _ => none)
  else if cell = 20 then (match ts with | true :: t => some (true :: t) | _ => none)
  else if cell = 30 ∨ cell = 31 then (match ts with | false :: t => some (false :: t) | _ => none)
  else if 60 ≤ ts.length then none
  else if cell = 21 then some (true :: ts)
  else if (1000 ≤ cell ∧ cell ≤ 10999) ∨ cell = 1 ∨ cell = 4 ∨ (10 ≤ cell ∧ cell ≤ 17) then some (false :: ts)
  else none
def tyL2 : List Bool → List Int → Option (List Bool)
  | ts, [] => some ts
  | ts, c :: t => (tyS ts c).bind (fun ts' => tyL2 ts' t)
def vT (t : Bool) (v : Int) : Prop := if t = true then v = 0 ∨ v = 1 else -1000000 ≤ v ∧ v ≤ 1000000
def vsT : List Bool → List Int → Prop
  | [], [] => True
  | t :: ts, v :: vs => vT t v ∧ vsT ts vs
  | _, _ => False
theorem vsT_len : ∀ {ts : List Bool} {vs : List Int}, vsT ts vs → vs.length = ts.length
  | [], [], _ => rfl
  | [], _ :: _, h => h.elim
  | _ :: _, [], h => h.elim
  | t :: ts, v :: vs, h => by rw [List.length_cons, List.length_cons, vsT_len h.2]
theorem clp_bd (x : Int) : -1000000 ≤ clp x ∧ clp x ≤ 1000000 := by unfold clp; omega
theorem tdiv_bd {a b : Int} (ha : -1000000 ≤ a ∧ a ≤ 1000000) : -1000000 ≤ Int.tdiv a b ∧ Int.tdiv a b ≤ 1000000 := by
  have h := Int.natAbs_tdiv_le_natAbs a b
  omega
theorem flr_bd {a b : Int} (ha : -1000000 ≤ a ∧ a ≤ 1000000) (hb : -1000000 ≤ b ∧ b ≤ 1000000) : -1000000 ≤ flr a b ∧ flr a b ≤ 1000000 := by
  unfold flr
  split
  · omega
  · rename_i hb0
    have h := tdiv_bd (b := b) ha
    split
    · rename_i hq
      refine ⟨?_, by omega⟩
      by_cases e : Int.tdiv a b = -1000000
      · exfalso
        have h1 := Int.tmod_add_mul_tdiv a b
        have h2 := Int.natAbs_tdiv a b
        have h3 : (Int.tdiv a b).natAbs = a.natAbs / b.natAbs := h2
        have h4 : b.natAbs = 1 := by
          rw [e] at h3
          have hA : a.natAbs ≤ 1000000 := by omega
          have hB : 0 < b.natAbs := by omega
          have h5 : (1000000 : Nat) = a.natAbs / b.natAbs := h3
          by_cases h6 : b.natAbs = 1
          · exact h6
          · have : a.natAbs / b.natAbs ≤ a.natAbs / 2 := Nat.div_le_div_left (by omega) (by omega)
            omega
        apply hq.1
        rcases (show b = 1 ∨ b = -1 by omega) with rfl | rfl
        · simp
        · simp
      · omega
    · exact h
theorem iAnd01 {a b : Int} (ha : a = 0 ∨ a = 1) (hb : b = 0 ∨ b = 1) : iAnd a b = a * b := by
  rcases ha with rfl | rfl <;> rcases hb with rfl | rfl <;> rfl
theorem iOr01 {a b : Int} (ha : a = 0 ∨ a = 1) (hb : b = 0 ∨ b = 1) : iOr a b = if 0 < a + b then 1 else 0 := by
  rcases ha with rfl | rfl <;> rcases hb with rfl | rfl <;> rfl
theorem mul_bd {a b : Int} (ha : -1000000 ≤ a ∧ a ≤ 1000000) (hb : -1000000 ≤ b ∧ b ≤ 1000000) : -1000000000000 ≤ a * b ∧ a * b ≤ 1000000000000 := by
  have h1 : (a * b).natAbs = a.natAbs * b.natAbs := Int.natAbs_mul a b
  have h2 : a.natAbs * b.natAbs ≤ 1000000 * 1000000 := Nat.mul_le_mul (by omega) (by omega)
  omega
