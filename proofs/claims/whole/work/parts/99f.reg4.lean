/-! the registry: a seat taken, a row that holds a cell -/
theorem ia22 : isIA 22 7 := fun _ => rfl
section RT
variable {d n : Nat} {φ : aF} {α : aA} {Q : Int → aF → aA → Prop} {x1 o : Int} {st : Int → Int}
theorem z_isTaken (hn : φ 2 4 19 = n) (hn7 : n ≤ 7) (hs : ∀ k : Nat, k < n → α 22 (k : Int) = st (k : Int)) (ho : isOf 19) (h : Q (if fsF (fun k => st (k : Int) = x1) n 0 = -1 then 0 else 1) φ α) : eX2_isTaken (d + 1) 19 x1 φ α Q := by
  have go : ∀ (r k : Nat), k + r = n → fsF (fun k => st (k : Int) = x1) n 0 = fsF (fun k => st (k : Int) = x1) r k → jX2_isTaken_2 (d + 1) 19 x1 k φ α Q := by
    intro r
    induction r with
    | zero =>
      intro k hk e
      rw [e, if_pos (show fsF (fun k => st (k : Int) = x1) 0 k = -1 from rfl)] at h
      exact vX2_isTaken_2 ho ⟨fun _ => h, fun z => by omega⟩
    | succ r ih =>
      intro k hk e
      rw [show fsF (fun k => st (k : Int) = x1) (r + 1) k = if st (k : Int) = x1 then (k : Int) else fsF (fun k => st (k : Int) = x1) r (k + 1) from rfl] at e
      refine vX2_isTaken_2 ho ⟨fun z => by omega, fun _ => c_pick (n := 7) (a := 19 + 3) ia22 (by omega) ?_⟩
      rw [show (19 : Int) + 3 = 22 by omega, hs k (by omega)]
      refine ⟨fun z => ⟨by unfold inR; omega, ih (k + 1) (by omega) (by rw [e, if_neg z])⟩, fun z => ?_⟩
      rw [e, if_pos z, if_neg (by omega)] at h
      exact h
  exact vX2_isTaken_0 ho (go n 0 (by omega) rfl)
theorem c_holds {no : Nat} {cs : List Int} (ho : isRow o no) (h1 : φ 6 1 o = cs.length) (h2 : ∀ i : Nat, i < cs.length → α (o + 1) (i : Int) = cs.getD i 0) (h3 : cs.length ≤ no) (hno : no ≤ 1600) (hy : x1 ∈ cs → Q 1 φ α) (hn : x1 ∉ cs → Q 0 φ α) : eX6_holds (d + 1) o x1 φ α Q := by
  have go : ∀ (r k : Nat), k + r = cs.length → (∀ i : Nat, i < k → cs.getD i 0 ≠ x1) → jX6_holds_2 (d + 1) o x1 k φ α Q := by
    intro r
    induction r with
    | zero =>
      intro k hk hp
      refine vX6_holds_2 ho ⟨fun _ => hn (fun w => ?_), fun z => by omega⟩
      obtain ⟨i, hi, e⟩ := List.mem_iff_getElem.mp w
      refine hp i (by omega) ?_
      rw [List.getD_eq_getElem?_getD, List.getElem?_eq_getElem hi]
      exact e
    | succ r ih =>
      intro k hk hp
      have hk2 : k < cs.length := by omega
      refine vX6_holds_2 ho ⟨fun z => by omega, fun _ => c_at ho (by omega) (by omega) ?_⟩
      rw [h2 k hk2]
      refine ⟨fun z => ⟨by unfold inR; omega, ih (k + 1) (by omega) (fun i hi => ?_)⟩, fun z => hy ?_⟩
      · by_cases q : i = k
        · rw [q]; exact z
        · exact hp i (by omega)
      · rw [← z, List.getD_eq_getElem?_getD, List.getElem?_eq_getElem hk2]
        exact List.getElem_mem hk2
  exact vX6_holds_0 ho (go cs.length 0 (by omega) (fun i hi => by omega))
/-- no more of its kind, or a fault -/
theorem r_isFull {w c2 pl : Int} (h5 : φ 11 5 198 = 0) (hw : w = 0 ∨ w = 1) (h1 : α 226 w = c2 → ∀ φ', fw φ φ' → RF φ' 5 pl → Q 1 φ' α) (h0 : α 226 w ≠ c2 → Q 0 φ α) : eX11_isFull (d + 1) w c2 pl φ α Q :=
  vX11_isFull_0 ⟨fun z => absurd h5 z, fun _ => ⟨by omega, fun z => h0 z, fun z => r_fail h5 (fun φ1 f1 F1 => ⟨fun q => by rw [F1.1] at q; omega, fun _ => h1 z φ1 f1 F1⟩)⟩⟩
end RT
