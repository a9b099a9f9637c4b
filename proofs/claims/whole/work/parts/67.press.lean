/-! pressed -/
theorem land_all : (List.range 128).all (fun t => (List.range 128).all (fun i => decide (iAnd (t : Int) (i : Int) = ((t &&& i : Nat) : Int)))) = true := by decide +kernel
theorem btn_all : (List.range 128).all (fun t => (List.range 7).all (fun k => decide (bt (t : Int) (k : Int) = 1) == Nat.testBit t k)) = true := by decide +kernel
theorem btn {t k : Nat} (ht : t < 128) (hk : k < 7) : bt (t : Int) (k : Int) = 1 ↔ Nat.testBit t k = true := by
  have h := List.all_eq_true.mp (List.all_eq_true.mp btn_all t (List.mem_range.mpr ht)) k (List.mem_range.mpr hk)
  rw [beq_iff_eq] at h
  rw [← h, decide_eq_true_eq]
theorem and0 {t i : Nat} (ht : t < 128) (hi : i < 128) : iAnd (t : Int) (i : Int) = 0 ↔ ∀ k : Nat, k < 7 → ¬ (bt (t : Int) (k : Int) = 1 ∧ bt (i : Int) (k : Int) = 1) := by
  have h := of_decide_eq_true (List.all_eq_true.mp (List.all_eq_true.mp land_all t (List.mem_range.mpr ht)) i (List.mem_range.mpr hi))
  rw [h]
  constructor
  · intro h0 k hk q
    rw [btn ht hk, btn hi hk] at q
    have h1 : t &&& i = 0 := by omega
    have : Nat.testBit (t &&& i) k = true := by rw [Nat.testBit_and, q.1, q.2]; rfl
    rw [h1, Nat.zero_testBit] at this
    cases this
  · intro h0
    have : t &&& i = 0 := by
      refine Nat.eq_of_testBit_eq (fun k => ?_)
      rw [Nat.zero_testBit, Nat.testBit_and]
      by_cases hk : k < 7
      · have := h0 k hk
        rw [btn ht hk, btn hi hk] at this
        cases e1 : Nat.testBit t k <;> cases e2 : Nat.testBit i k <;> simp_all
      · have h7 : 2 ^ 7 ≤ 2 ^ k := Nat.pow_le_pow_right (by decide) (by omega)
        have h8 : t < 2 ^ k := Nat.lt_of_lt_of_le ht h7
        rw [Nat.testBit_lt_two_pow h8]
        rfl
    rw [this]; rfl
theorem rmb_all : (List.range 128).all (fun t => (List.range 7).all (fun k => decide (bt (t : Int) (k : Int) = 0) || (decide (2 ^ k ≤ t) && decide (bc ((t - 2 ^ k : Nat) : Int) = bc (t : Int) - 1) && (List.range 7).all (fun k' => decide (bt ((t - 2 ^ k : Nat) : Int) (k' : Int) = if k' = k then 0 else bt (t : Int) (k' : Int)))))) = true := by decide +kernel
theorem rmb {t k : Nat} (ht : t < 128) (hk : k < 7) (hb : bt (t : Int) (k : Int) ≠ 0) : 2 ^ k ≤ t ∧ bc ((t - 2 ^ k : Nat) : Int) = bc (t : Int) - 1 ∧ ∀ k' : Nat, k' < 7 → bt ((t - 2 ^ k : Nat) : Int) (k' : Int) = if k' = k then 0 else bt (t : Int) (k' : Int) := by
  have h := List.all_eq_true.mp (List.all_eq_true.mp rmb_all t (List.mem_range.mpr ht)) k (List.mem_range.mpr hk)
  simp only [Bool.or_eq_true, Bool.and_eq_true, decide_eq_true_eq] at h
  rcases h with h | ⟨⟨h1, h2⟩, h3⟩
  · exact absurd h hb
  · exact ⟨h1, h2, fun k' hk' => of_decide_eq_true (List.all_eq_true.mp h3 k' (List.mem_range.mpr hk'))⟩
theorem shl_all : (List.range 7).all (fun c => decide (0 ≤ iShl 1 (c : Int)) && decide (iShl 1 (c : Int) < 128) && (List.range 7).all (fun k => decide (bt (iShl 1 (c : Int)) (k : Int) = if k = c then 1 else 0))) = true := by decide +kernel
theorem bcc_all : (List.range 8).all (fun n => (List.range n).all (fun c => (List.range (2 ^ n)).all (fun s => decide (bt (s : Int) (c : Int) ≠ 0) || decide (bc (s : Int) < n)))) = true := by decide +kernel
theorem bth_all : (List.range 8).all (fun n => (List.range (2 ^ n)).all (fun s => (List.range 7).all (fun c => decide (c < n) || decide (bt (s : Int) (c : Int) = 0)))) = true := by decide +kernel
def ctB (c : Int) : Nat → Int := itF (fun x s => if bt s c = 0 then x + 1 else x) 0
theorem ct_all : (List.range 7).all (fun c => decide (ctB (c : Int) 128 = 64)) = true := by decide +kernel
theorem ctB_mono (c : Int) (k : Nat) : ∀ r : Nat, ctB c k ≤ ctB c (k + r)
  | 0 => Int.le_refl _
  | r + 1 => by
    have := ctB_mono c k r
    rw [show ctB c (k + (r + 1)) = if bt ((k + r : Nat) : Int) c = 0 then ctB c (k + r) + 1 else ctB c (k + r) from rfl]
    split <;> omega
theorem ctB_bd {c : Nat} {k : Nat} (hc : c < 7) (hk : k ≤ 128) : 0 ≤ ctB (c : Int) k ∧ ctB (c : Int) k ≤ 64 := by
  have h := of_decide_eq_true (List.all_eq_true.mp ct_all c (List.mem_range.mpr hc))
  have h1 := ctB_mono c k (128 - k)
  have h2 := ctB_mono c 0 k
  rw [show k + (128 - k) = 128 by omega] at h1
  rw [Nat.zero_add, show ctB (c : Int) 0 = 0 from rfl] at h2
  omega
