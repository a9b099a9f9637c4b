section ML
variable {d : Nat} {φ : aF} {α : aA} {Q : Int → aF → aA → Prop} {b c o m cell x y v : Int} {n M ns : Nat} {nw rm : Int → Int}
theorem c_needsOf (h : Q (ndF cell) φ α) : eX1_needsOf d cell φ α Q := by
  unfold ndF at h
  refine vX1_needsOf_0 ?_
  refine ⟨fun e => ?_, fun e => ?_, fun e => ?_, fun e => ?_, fun e => ?_, fun e => ?_, fun e => ?_, fun e => ?_, fun e => ?_, fun e => ?_, fun e => ?_, fun e => ?_, fun e => ?_, fun e => ?_, fun e => ?_⟩
  all_goals first | (rw [if_pos (by omega)] at h; exact h) | (rw [if_neg (by omega), if_pos (by omega)] at h; exact h) | (rw [if_neg (by omega), if_neg (by omega)] at h; exact h)
theorem iXor_sign {a b : Int} (ha : inR a) (hb : inR b) : 0 ≤ iXor a b ↔ (a < 0 ↔ b < 0) := by
  have k : ∀ z : Int32, (z.toInt < 0) ↔ z.toBitVec.msb = true := by
    intro z
    rw [BitVec.msb_eq_toInt]
    exact (decide_eq_true_iff (p := z.toInt < 0)).symm
  have h1 := k (Int32.ofInt a ^^^ Int32.ofInt b)
  have h2 := k (Int32.ofInt a)
  have h3 := k (Int32.ofInt b)
  rw [ofInt_toInt32 ha] at h2
  rw [ofInt_toInt32 hb] at h3
  rw [Int32.toBitVec_xor, BitVec.msb_xor] at h1
  unfold iXor
  rw [← Int.not_lt, h1, h2, h3]
  cases (Int32.ofInt a).toBitVec.msb <;> cases (Int32.ofInt b).toBitVec.msb <;> simp
theorem c_floorDiv (hx : -1000000 ≤ x ∧ x ≤ 1000000) (hy : -1000000 ≤ y ∧ y ≤ 1000000) (h0 : y ≠ 0) (h : Q (flr x y) φ α) : eJ9_floorDiv_7cf53 d x y φ α Q := by
  have ht := tdiv_bd (b := y) hx
  have hm := Int.tmod_add_mul_tdiv x y
  have hab : -1000000 ≤ Int.tdiv x y * y ∧ Int.tdiv x y * y ≤ 1000000 := by
    have e : (Int.tdiv x y * y).natAbs ≤ x.natAbs := by
      rw [Int.natAbs_mul, Int.natAbs_tdiv]
      exact Nat.div_mul_le_self _ _
    omega
  unfold flr at h
  rw [if_neg h0] at h
  have hs := iXor_sign (a := x) (b := y) (by unfold inR; omega) (by unfold inR; omega)
  refine vJ9_floorDiv_7cf53_0 ⟨⟨h0, by unfold inR; omega⟩, fun q => ?_, fun q => ⟨by unfold inR; omega, fun e => ?_, fun e => ⟨by unfold inR; omega, ?_⟩⟩⟩
  · rw [hs] at q
    rw [if_neg (fun z => z.2 q)] at h
    exact h
  · rw [if_neg (fun z => z.1 (by rw [Int.mul_comm] at hm; omega))] at h
    exact h
  · rw [hs] at q
    rw [if_pos ⟨fun z => e (by rw [Int.mul_comm] at hm; omega), q⟩] at h
    exact h
/-- what two values of the kinds that a cell asks for make -/
theorem c_join (h2 : ndF cell = 2) (hk : (cell = 18 ∨ cell = 19 → (x = 0 ∨ x = 1) ∧ (y = 0 ∨ y = 1)) ∧ (¬ (cell = 18 ∨ cell = 19) → (-1000000 ≤ x ∧ x ≤ 1000000) ∧ (-1000000 ≤ y ∧ y ≤ 1000000))) (h : Q (joinF cell x y) φ α) : eX1_join (d + 1) cell x y φ α Q := by
  unfold joinF at h
  refine vX1_join_0 ⟨fun e => ?_, fun e => ?_, fun e => c_min ?_, fun e => ?_, fun e => ?_, fun e => ?_, fun e => ?_, fun e => ?_, fun e => ?_, fun e => ?_, fun e => c_max ?_⟩
  · rwa [if_pos e] at h
  · rwa [if_neg (by omega), if_pos e] at h
  · rwa [if_neg (by omega), if_neg (by omega), if_pos e] at h
  · have hb := hk.2 (by omega)
    have hm := mul_bd hb.1 hb.2
    rw [if_neg (by omega), if_neg (by omega), if_neg (by omega), if_pos e] at h
    unfold clp at h
    exact ⟨by unfold inJ; omega, c_minL (c_maxL ⟨by unfold inR; omega, h⟩)⟩
  · have hb := hk.2 (by omega)
    rw [if_neg (by omega), if_neg (by omega), if_neg (by omega), if_neg (by omega), if_pos e] at h
    unfold clp at h
    exact ⟨by unfold inR; omega, c_min (c_max h)⟩
  · have hb := hk.2 (by omega)
    rw [if_neg (by omega), if_neg (by omega), if_neg (by omega), if_neg (by omega), if_neg (by omega), if_pos e] at h
    unfold clp at h
    exact ⟨by unfold inR; omega, c_min (c_max h)⟩
  · have hb := hk.2 (by omega)
    rw [if_neg (by omega), if_neg (by omega), if_neg (by omega), if_neg (by omega), if_neg (by omega), if_neg (by omega), if_pos e] at h
    refine ⟨fun q => c_floorDiv hb.1 hb.2 q h, fun q => ?_⟩
    unfold flr at h
    rwa [if_pos q] at h
  · rw [if_neg (by omega), if_neg (by omega), if_neg (by omega), if_neg (by omega), if_neg (by omega), if_neg (by omega), if_neg (by omega), if_pos e] at h
    exact ⟨fun q => by rwa [if_neg (by omega)] at h, fun q => by rwa [if_pos (by omega)] at h⟩
  · rw [if_neg (by omega), if_neg (by omega), if_neg (by omega), if_neg (by omega), if_neg (by omega), if_neg (by omega), if_neg (by omega), if_neg (by omega), if_pos e] at h
    exact ⟨fun q => by rwa [if_neg q] at h, fun q => by rwa [if_pos q] at h⟩
  · rw [if_neg (by omega), if_neg (by omega), if_neg (by omega), if_neg (by omega), if_neg (by omega), if_neg (by omega), if_neg (by omega), if_neg (by omega), if_neg (by omega), if_pos e] at h
    exact ⟨fun q => by rwa [if_neg (by omega)] at h, fun q => by rwa [if_pos (by omega)] at h⟩
  · rw [if_neg (by omega), if_neg (by omega), if_neg (by omega), if_neg (by omega), if_neg (by omega), if_neg (by omega), if_neg (by omega), if_neg (by omega), if_neg (by omega), if_neg (by omega)] at h
    exact h
/-- the office (of the class) has n clerks, M matters, ns seats, rooms rm -/
def XO (φ : aF) (α : aA) (n M ns : Nat) (rm : Int → Int) : Prop := φ 2 2 9 = ns ∧ φ 2 3 9 = M ∧ φ 2 4 9 = n ∧ (∀ c : Int, 0 ≤ c → c < n → α 11 c = rm c)
theorem of9 : isOf 9 := Or.inl rfl
theorem c_isClerk {w : Int} (O : φ 2 4 9 = n) (h : Q (if 0 ≤ w ∧ w < n then 1 else 0) φ α) : eX2_isClerk d 9 w φ α Q :=
  vX2_isClerk_0 of9 ⟨fun q => by rwa [if_neg (by omega)] at h, fun q => ⟨fun q2 => by rwa [if_neg (by omega)] at h, fun q2 => by rwa [if_pos (by omega)] at h⟩⟩
theorem c_isMatter {w : Int} (O : φ 2 3 9 = M) (h : Q (if 0 ≤ w ∧ w < M then 1 else 0) φ α) : eX2_isMatter d 9 w φ α Q :=
  vX2_isMatter_0 of9 ⟨fun q => by rwa [if_neg (by omega)] at h, fun q => ⟨fun q2 => by rwa [if_neg (by omega)] at h, fun q2 => by rwa [if_pos (by omega)] at h⟩⟩
theorem c_isSeat {w : Int} (O : φ 2 2 9 = ns) (h : Q (if 0 ≤ w ∧ w < ns then 1 else 0) φ α) : eX2_isSeat d 9 w φ α Q :=
  vX2_isSeat_0 of9 ⟨fun q => by rwa [if_neg (by omega)] at h, fun q => ⟨fun q2 => by rwa [if_neg (by omega)] at h, fun q2 => by rwa [if_pos (by omega)] at h⟩⟩
theorem c_turn (hb : isSt b) (X : XS b φ α n nw) (G : GS n M ns rm nw) (O : XO φ α n M ns rm) (h1 : ndF cell = 1) (hc : 0 ≤ c ∧ c < n) (hv : -1000000 ≤ v ∧ v ≤ 1000000) (h : Q (turnF n M nw c cell v) φ α) : eX1_turn (d + 1) cell v b c φ α Q := by
  have hn := G.2.2.2.2.2.2
  unfold turnF at h
  refine vX1_turn_0 hb ⟨fun e => c_isMatter O.2.1 ⟨fun q => ?_, fun q => ?_⟩, fun e => c_isClerk O.2.2.1 ⟨fun q => ?_, fun q => ?_⟩, fun e => ⟨by unfold inR; omega, ?_⟩⟩
  · rw [if_pos e, if_neg (fun z => by rw [if_pos z] at q; omega)] at h; exact h
  · have z : 0 ≤ v ∧ v < M := by
      by_cases z : 0 ≤ v ∧ v < M
      · exact z
      · rw [if_neg z] at q; exact absurd rfl q
    rw [if_pos e, if_pos z] at h
    exact c_dropsOf hb X (by omega) (by omega) h
  · rw [if_neg (by omega), if_pos e, if_neg (fun z => by rw [if_pos z] at q; omega)] at h; exact h
  · have z : 0 ≤ v ∧ v < n := by
      by_cases z : 0 ≤ v ∧ v < n
      · exact z
      · rw [if_neg z] at q; exact absurd rfl q
    rw [if_neg (by omega), if_pos e, if_pos z] at h
    exact c_farOff hb X G hc z h
  · rw [if_neg e.1, if_neg e.2] at h; exact h
theorem c_look (hb : isSt b) (X : XS b φ α n nw) (G : GS n M ns rm nw) (O : XO φ α n M ns rm) (hc : 0 ≤ c ∧ c < n) (ho : 0 ≤ o ∧ o < n) (hcell : cell ≤ 10999) (hrm : ∀ c : Int, 0 ≤ c → c < n → 0 ≤ rm c) (h : Q (lookF rm nw c o m cell) φ α) : eX1_look (d + 1) cell b c o m φ α Q := by
  have hn := G.2.2.2.2.2.2
  unfold lookF at h
  refine vX1_look_0 hb ⟨fun e => ⟨fun q => by omega, fun _ => ⟨fun q => by omega, fun _ => ⟨fun q => by omega, fun _ => ⟨fun _ => ?_, fun q => by omega⟩⟩⟩⟩, fun e => ⟨by unfold inR; omega, by rwa [if_pos (by omega)] at h⟩⟩
  rw [if_neg (by omega)] at h
  have r1 := O.2.2.2 c hc.1 hc.2
  have r2 := O.2.2.2 o ho.1 ho.2
  have f1 := X.2.2.2.2.1 c hc.1 (by omega)
  have f2 := X.2.2.2.2.1 o ho.1 (by omega)
  have gf := G.2.2.2.2.1 o ho.1 ho.2
  have gf0 := G.full ho.1 (show o < 7 by omega)
  refine ⟨fun e => ?_, fun e => ⟨⟨hc.1, by omega⟩, ?_⟩, fun e => ⟨⟨hc.1, by omega⟩, ?_⟩, fun e => ⟨⟨hc.1, by omega⟩, ?_⟩, fun e => ?_, fun e => ?_, fun e => ⟨⟨ho.1, by omega⟩, ?_, ?_⟩, fun e => ?_, fun e => ?_, fun e => ?_, fun e => ?_⟩
  · rwa [if_pos e] at h
  · rw [r1]; rwa [if_neg (by omega), if_pos e] at h
  · rw [f1]; rwa [if_neg (by omega), if_neg (by omega), if_pos e] at h
  · rw [X.2.1 c hc.1 hc.2]; rwa [if_neg (by omega), if_neg (by omega), if_neg (by omega), if_pos e] at h
  · rw [X.1]; rwa [if_neg (by omega), if_neg (by omega), if_neg (by omega), if_neg (by omega), if_pos e] at h
  · rw [if_neg (by omega), if_neg (by omega), if_neg (by omega), if_neg (by omega), if_neg (by omega), if_pos e] at h
    by_cases z : 0 ≤ m ∧ m < 4
    · rw [if_pos z] at h
      exact c_dropsOf hb X (by omega) z h
    · rw [if_neg z] at h
      exact vX7_dropsOf_0 hb ⟨fun _ => h, fun _ => ⟨fun _ => h, fun _ => ⟨fun _ => h, fun _ => ⟨fun _ => h, fun _ => by omega⟩⟩⟩⟩
  · rw [r2, f2]; unfold inR; omega
  · rw [r2, f2]; rwa [if_neg (by omega), if_neg (by omega), if_neg (by omega), if_neg (by omega), if_neg (by omega), if_neg (by omega), if_pos e] at h
  · rw [if_neg (by omega), if_neg (by omega), if_neg (by omega), if_neg (by omega), if_neg (by omega), if_neg (by omega), if_neg (by omega), if_pos e] at h
    exact c_farOff hb X G hc ho h
  · rwa [if_neg (by omega), if_neg (by omega), if_neg (by omega), if_neg (by omega), if_neg (by omega), if_neg (by omega), if_neg (by omega), if_neg (by omega), if_pos e] at h
  · rwa [if_neg (by omega), if_neg (by omega), if_neg (by omega), if_neg (by omega), if_neg (by omega), if_neg (by omega), if_neg (by omega), if_neg (by omega), if_neg (by omega), if_pos e] at h
  · rwa [if_neg (by omega), if_neg (by omega), if_neg (by omega), if_neg (by omega), if_neg (by omega), if_neg (by omega), if_neg (by omega), if_neg (by omega), if_neg (by omega), if_neg (by omega)] at h
end ML
