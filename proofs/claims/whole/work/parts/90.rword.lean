/-! the words of the small language -/
def qhF (T : Int → Int) (N : Nat) (tk : Int) (p : Nat) (e : Int) : Int :=
  if kdF T N p = 1 ∧ e ≠ p then (if wdF T N p = 10 then 0 else if wdF T N p = 4 then 1 else if wdF T N p = 11 then 2 else if wdF T N p = 12 then 3 else if wdF T N p = 13 then (if tk < 2 then 4 else 10) else if wdF T N p = 14 then 5 else if wdF T N p = 1 then 6 else if wdF T N p = 15 then (if tk < 2 then 7 else 11) else if wdF T N p = 16 then 8 else if wdF T N p = 17 then 9 else -1) else -1
section QW
variable {d N p k : Nat} {φ φ' φ0 φ1 : aF} {α : aA} {Q : Int → aF → aA → Prop} {e v tk tg a x : Int} {T : Int → Int}
theorem hsA (k : Nat) (hk : k < 24) (ha : a = 239 + (k : Int)) {X Y : aF → aA → Prop} (R : RLx T N φ α p e) (h1 : isW T N p e (wqF k) → ∀ φ', fw φ φ' → RLx T N φ' α p e → φ' 11 2 198 = p → Y φ' α) (h0 : ¬ isW T N p e (wqF k) → ∀ φ', fw φ φ' → RLx T N φ' α p e → φ' 11 2 198 = p → X φ' α) : eX11_isHere (d + 1) a φ α (fun r φ' α' => ((r = 0 → X φ' α') ∧ (¬ (r = 0) → Y φ' α'))) := by
  refine r_ask k hk ha R (fun φ1 f1 R1 g1 => ?_)
  by_cases q : isW T N p e (wqF k)
  · rw [if_pos q]; exact ⟨fun z => by omega, fun _ => h1 q φ1 f1 R1 g1⟩
  · rw [if_neg q]; exact ⟨fun _ => h0 q φ1 f1 R1 g1, fun z => absurd rfl z⟩
theorem isW_v (h : isW T N p e v) : kdF T N p = 1 ∧ e ≠ p ∧ wdF T N p = v := h
theorem r_qWordHere (ht : tk = 0 ∨ tk = 1 ∨ tk = 2) (R : RLx T N φ α p e) (h47 : φ 11 47 198 = tk) (h : ∀ φ', fw φ φ' → RLx T N φ' α p e → φ' 11 2 198 = p → Q (qhF T N tk p e) φ' α) : eX11_qWordHere (d + 2) φ α Q := by
  have res : ∀ w φ', w = qhF T N tk p e → fw φ φ' → RLx T N φ' α p e → φ' 11 2 198 = p → Q w φ' α := fun w φ' hw f R g => by rw [hw]; exact h φ' f R g
  have val : ∀ w, isW T N p e w → qhF T N tk p e = (if w = 10 then 0 else if w = 4 then 1 else if w = 11 then 2 else if w = 12 then 3 else if w = 13 then (if tk < 2 then 4 else 10) else if w = 14 then 5 else if w = 1 then 6 else if w = 15 then (if tk < 2 then 7 else 11) else if w = 16 then 8 else if w = 17 then 9 else -1) := fun w hw => by
    unfold qhF
    rw [if_pos ⟨hw.1, hw.2.1⟩, hw.2.2]
  rcases (show tk < 2 ∨ tk = 2 by omega) with ht2 | ht2
  · refine vX11_qWordHere_0 (hsA 12 (by omega) (by omega) R (fun q b g1 B gb => res 0 b (by rw [val _ q]; simp [wqF] <;> omega) (g1) B gb) (fun q1 a1 f1 R1 ga1 => ?_))
    have F1 : fw φ a1 := f1
    refine hsA 13 (by omega) (by omega) R1 (fun q b g1 B gb => res 1 b (by rw [val _ q]; simp [wqF] <;> omega) (F1.tr g1) B gb) (fun q2 a2 f2 R2 ga2 => ?_)
    have F2 : fw φ a2 := F1.tr f2
    refine hsA 14 (by omega) (by omega) R2 (fun q b g1 B gb => res 2 b (by rw [val _ q]; simp [wqF] <;> omega) (F2.tr g1) B gb) (fun q3 a3 f3 R3 ga3 => ?_)
    have F3 : fw φ a3 := F2.tr f3
    refine hsA 15 (by omega) (by omega) R3 (fun q b g1 B gb => res 3 b (by rw [val _ q]; simp [wqF] <;> omega) (F3.tr g1) B gb) (fun q4 a4 f4 R4 ga4 => ?_)
    have F4 : fw φ a4 := F3.tr f4
    refine ⟨fun z => absurd z (by rw [(F4 _ _ _ (by omega)), h47]; omega), fun _ => ?_⟩
    refine hsA 16 (by omega) (by omega) R4 (fun q b g1 B gb => res 4 b (by rw [val _ q]; simp [wqF] <;> omega) (F4.tr g1) B gb) (fun q5 a5 f5 R5 ga5 => ?_)
    have F5 : fw φ a5 := F4.tr f5
    refine hsA 17 (by omega) (by omega) R5 (fun q b g1 B gb => res 5 b (by rw [val _ q]; simp [wqF] <;> omega) (F5.tr g1) B gb) (fun q6 a6 f6 R6 ga6 => ?_)
    have F6 : fw φ a6 := F5.tr f6
    refine hsA 18 (by omega) (by omega) R6 (fun q b g1 B gb => res 6 b (by rw [val _ q]; simp [wqF] <;> omega) (F6.tr g1) B gb) (fun q7 a7 f7 R7 ga7 => ?_)
    have F7 : fw φ a7 := F6.tr f7
    refine ⟨fun z => absurd z (by rw [(F7 _ _ _ (by omega)), h47]; omega), fun _ => ?_⟩
    refine hsA 19 (by omega) (by omega) R7 (fun q b g1 B gb => res 7 b (by rw [val _ q]; simp [wqF] <;> omega) (F7.tr g1) B gb) (fun q8 a8 f8 R8 ga8 => ?_)
    have F8 : fw φ a8 := F7.tr f8
    refine hsA 20 (by omega) (by omega) R8 (fun q b g1 B gb => res 8 b (by rw [val _ q]; simp [wqF] <;> omega) (F8.tr g1) B gb) (fun q9 a9 f9 R9 ga9 => ?_)
    have F9 : fw φ a9 := F8.tr f9
    refine hsA 21 (by omega) (by omega) R9 (fun q b g1 B gb => res 9 b (by rw [val _ q]; simp [wqF] <;> omega) (F9.tr g1) B gb) (fun q10 a10 f10 R10 ga10 => ?_)
    have F10 : fw φ a10 := F9.tr f10
    refine hsA 22 (by omega) (by omega) R10 (fun q b g1 B gb => absurd q q5) (fun q11 a11 f11 R11 ga11 => ?_)
    have F11 : fw φ a11 := F10.tr f11
    refine hsA 23 (by omega) (by omega) R11 (fun q b g1 B gb => absurd q q8) (fun q12 a12 f12 R12 ga12 => ?_)
    have F12 : fw φ a12 := F11.tr f12
    refine res (-1) a12 ?_ F12 R12 ga12
    unfold qhF
    by_cases k1 : kdF T N p = 1 ∧ e ≠ p
    · rw [if_pos k1]
      have n1 : wdF T N p ≠ 10 := fun z => q1 ⟨k1.1, k1.2, z⟩
      have n2 : wdF T N p ≠ 4 := fun z => q2 ⟨k1.1, k1.2, z⟩
      have n3 : wdF T N p ≠ 11 := fun z => q3 ⟨k1.1, k1.2, z⟩
      have n4 : wdF T N p ≠ 12 := fun z => q4 ⟨k1.1, k1.2, z⟩
      have n5 : wdF T N p ≠ 13 := fun z => q5 ⟨k1.1, k1.2, z⟩
      have n6 : wdF T N p ≠ 14 := fun z => q6 ⟨k1.1, k1.2, z⟩
      have n7 : wdF T N p ≠ 1 := fun z => q7 ⟨k1.1, k1.2, z⟩
      have n8 : wdF T N p ≠ 15 := fun z => q8 ⟨k1.1, k1.2, z⟩
      have n9 : wdF T N p ≠ 16 := fun z => q9 ⟨k1.1, k1.2, z⟩
      have n10 : wdF T N p ≠ 17 := fun z => q10 ⟨k1.1, k1.2, z⟩
      have n11 : wdF T N p ≠ 13 := fun z => q11 ⟨k1.1, k1.2, z⟩
      have n12 : wdF T N p ≠ 15 := fun z => q12 ⟨k1.1, k1.2, z⟩
      rw [if_neg (by assumption)]
      rw [if_neg (by assumption)]
      rw [if_neg (by assumption)]
      rw [if_neg (by assumption)]
      rw [if_neg (by assumption)]
      rw [if_neg (by assumption)]
      rw [if_neg (by assumption)]
      rw [if_neg (by assumption)]
      rw [if_neg (by assumption)]
      rw [if_neg (by assumption)]
    · rw [if_neg k1]
  · refine vX11_qWordHere_0 (hsA 12 (by omega) (by omega) R (fun q b g1 B gb => res 0 b (by rw [val _ q]; simp [wqF] <;> omega) (g1) B gb) (fun q1 a1 f1 R1 ga1 => ?_))
    have F1 : fw φ a1 := f1
    refine hsA 13 (by omega) (by omega) R1 (fun q b g1 B gb => res 1 b (by rw [val _ q]; simp [wqF] <;> omega) (F1.tr g1) B gb) (fun q2 a2 f2 R2 ga2 => ?_)
    have F2 : fw φ a2 := F1.tr f2
    refine hsA 14 (by omega) (by omega) R2 (fun q b g1 B gb => res 2 b (by rw [val _ q]; simp [wqF] <;> omega) (F2.tr g1) B gb) (fun q3 a3 f3 R3 ga3 => ?_)
    have F3 : fw φ a3 := F2.tr f3
    refine hsA 15 (by omega) (by omega) R3 (fun q b g1 B gb => res 3 b (by rw [val _ q]; simp [wqF] <;> omega) (F3.tr g1) B gb) (fun q4 a4 f4 R4 ga4 => ?_)
    have F4 : fw φ a4 := F3.tr f4
    refine ⟨fun _ => ?_, fun z => absurd (show 2 ≤ a4 11 47 198 by rw [(F4 _ _ _ (by omega)), h47]; omega) z⟩
    refine hsA 17 (by omega) (by omega) R4 (fun q b g1 B gb => res 5 b (by rw [val _ q]; simp [wqF] <;> omega) (F4.tr g1) B gb) (fun q5 a5 f5 R5 ga5 => ?_)
    have F5 : fw φ a5 := F4.tr f5
    refine hsA 18 (by omega) (by omega) R5 (fun q b g1 B gb => res 6 b (by rw [val _ q]; simp [wqF] <;> omega) (F5.tr g1) B gb) (fun q6 a6 f6 R6 ga6 => ?_)
    have F6 : fw φ a6 := F5.tr f6
    refine ⟨fun _ => ?_, fun z => absurd (show 2 ≤ a6 11 47 198 by rw [(F6 _ _ _ (by omega)), h47]; omega) z⟩
    refine hsA 20 (by omega) (by omega) R6 (fun q b g1 B gb => res 8 b (by rw [val _ q]; simp [wqF] <;> omega) (F6.tr g1) B gb) (fun q7 a7 f7 R7 ga7 => ?_)
    have F7 : fw φ a7 := F6.tr f7
    refine hsA 21 (by omega) (by omega) R7 (fun q b g1 B gb => res 9 b (by rw [val _ q]; simp [wqF] <;> omega) (F7.tr g1) B gb) (fun q8 a8 f8 R8 ga8 => ?_)
    have F8 : fw φ a8 := F7.tr f8
    refine hsA 22 (by omega) (by omega) R8 (fun q b g1 B gb => res 10 b (by rw [val _ q]; simp [wqF] <;> omega) (F8.tr g1) B gb) (fun q9 a9 f9 R9 ga9 => ?_)
    have F9 : fw φ a9 := F8.tr f9
    refine hsA 23 (by omega) (by omega) R9 (fun q b g1 B gb => res 11 b (by rw [val _ q]; simp [wqF] <;> omega) (F9.tr g1) B gb) (fun q10 a10 f10 R10 ga10 => ?_)
    have F10 : fw φ a10 := F9.tr f10
    refine res (-1) a10 ?_ F10 R10 ga10
    unfold qhF
    by_cases k1 : kdF T N p = 1 ∧ e ≠ p
    · rw [if_pos k1]
      have n1 : wdF T N p ≠ 10 := fun z => q1 ⟨k1.1, k1.2, z⟩
      have n2 : wdF T N p ≠ 4 := fun z => q2 ⟨k1.1, k1.2, z⟩
      have n3 : wdF T N p ≠ 11 := fun z => q3 ⟨k1.1, k1.2, z⟩
      have n4 : wdF T N p ≠ 12 := fun z => q4 ⟨k1.1, k1.2, z⟩
      have n5 : wdF T N p ≠ 14 := fun z => q5 ⟨k1.1, k1.2, z⟩
      have n6 : wdF T N p ≠ 1 := fun z => q6 ⟨k1.1, k1.2, z⟩
      have n7 : wdF T N p ≠ 16 := fun z => q7 ⟨k1.1, k1.2, z⟩
      have n8 : wdF T N p ≠ 17 := fun z => q8 ⟨k1.1, k1.2, z⟩
      have n9 : wdF T N p ≠ 13 := fun z => q9 ⟨k1.1, k1.2, z⟩
      have n10 : wdF T N p ≠ 15 := fun z => q10 ⟨k1.1, k1.2, z⟩
      rw [if_neg (by assumption)]
      rw [if_neg (by assumption)]
      rw [if_neg (by assumption)]
      rw [if_neg (by assumption)]
      rw [if_neg (by assumption)]
      rw [if_neg (by assumption)]
      rw [if_neg (by assumption)]
      rw [if_neg (by assumption)]
      rw [if_neg (by assumption)]
      rw [if_neg (by assumption)]
    · rw [if_neg k1]
theorem r_qWordOf (ht : tk = 0 ∧ tg = 7 ∨ tk = 1 ∧ tg = 8 ∨ tk = 2 ∧ tg = 26) {lo hi : Int} (R : RLx T N φ α p e) (h47 : φ 11 47 198 = tk) (h : ∀ w φ', fw φ φ' → RLx T N φ' α p e → φ' 11 2 198 = p → (w = -1 ∨ (lo ≤ w ∧ w < hi ∧ w = qhF T N tk p e ∧ (tk = 0 ∧ w < 7 ∨ tk = 1 ∧ (w < 4 ∨ w = 7) ∨ tk = 2 ∧ (w < 4 ∨ 7 < w)))) → (w = -1 → ¬ (lo ≤ qhF T N tk p e ∧ qhF T N tk p e < hi ∧ (tk = 0 ∧ qhF T N tk p e < 7 ∨ tk = 1 ∧ (qhF T N tk p e < 4 ∨ qhF T N tk p e = 7) ∨ tk = 2 ∧ (qhF T N tk p e < 4 ∨ 7 < qhF T N tk p e)))) → Q w φ' α) (hlo : 0 ≤ lo) : eX11_qWordOf (d + 3) lo hi φ α Q := by
  refine vX11_qWordOf_0 (r_qWordHere (by omega) R h47 (fun φ1 f1 R1 g1 => ?_))
  have t47 : φ1 11 47 198 = tk := (f1 _ _ _ (by omega)).trans h47
  refine ⟨fun q => h (-1) φ1 f1 R1 g1 (Or.inl rfl) (fun _ z => by omega), fun q => ⟨fun q2 => h (-1) φ1 f1 R1 g1 (Or.inl rfl) (fun _ z => by omega), fun q2 => vX11_isAllowed_0 ?_⟩⟩
  rw [t47]
  have yes : (tk = 0 ∧ qhF T N tk p e < 7 ∨ tk = 1 ∧ (qhF T N tk p e < 4 ∨ qhF T N tk p e = 7) ∨ tk = 2 ∧ (qhF T N tk p e < 4 ∨ 7 < qhF T N tk p e)) → (((1 : Int) = 0 → Q (-1) φ1 α) ∧ (¬ ((1 : Int) = 0) → Q (qhF T N tk p e) φ1 α)) := fun w => ⟨fun z => by omega, fun _ => h _ φ1 f1 R1 g1 (Or.inr ⟨by omega, by omega, rfl, w⟩) (fun z => by omega)⟩
  have no : ¬ (tk = 0 ∧ qhF T N tk p e < 7 ∨ tk = 1 ∧ (qhF T N tk p e < 4 ∨ qhF T N tk p e = 7) ∨ tk = 2 ∧ (qhF T N tk p e < 4 ∨ 7 < qhF T N tk p e)) → (((0 : Int) = 0 → Q (-1) φ1 α) ∧ (¬ ((0 : Int) = 0) → Q (qhF T N tk p e) φ1 α)) := fun w => ⟨fun _ => h (-1) φ1 f1 R1 g1 (Or.inl rfl) (fun _ z => w z.2.2), fun z => absurd rfl z⟩
  refine ⟨fun z => ⟨fun z2 => ⟨fun z3 => yes (by omega), fun z3 => ⟨fun z4 => no (by omega), fun z4 => yes (by omega)⟩⟩, fun z2 => ⟨fun z3 => yes (by omega), fun z3 => ⟨fun z4 => no (by omega), fun z4 => yes (by omega)⟩⟩⟩, fun z => ⟨fun z2 => no (by omega), fun z2 => yes (by omega)⟩⟩
theorem caq (k : Nat) (hk : k < 24) (ha : a = 239 + (k : Int)) : isCA a (wdl.getD (wqF k) []).length := by
  have w := List.all_eq_true.mp wq_all k (List.mem_range.mpr hk)
  simp only [Bool.and_eq_true, decide_eq_true_eq] at w
  subst ha
  rw [← w.1]
  exact ca_ask hk
theorem wq30 {k : Nat} (hk : k < 24) : wqF k < 30 := by
  have w := List.all_eq_true.mp wq_all k (List.mem_range.mpr hk)
  simp only [Bool.and_eq_true, decide_eq_true_eq] at w
  exact w.2
/-- words of questions: taken, asked for -/
theorem r_takesQ (k : Nat) (hk : k < 24) (ha : a = 239 + (k : Int)) (R : RLx T N φ α p e) (h1 : isW T N p e (wqF k) → ∀ φ', fw φ φ' → RLx T N φ' α (avF T N p) (edF T N p e) → Q 1 φ' α) (h0 : ¬ isW T N p e (wqF k) → ∀ φ', fw φ φ' → RLx T N φ' α p e → φ' 11 2 198 = p → Q 0 φ' α) : eX11_takes (d + 2) a φ α Q :=
  r_takes (wq30 hk) (caq k hk ha) (fun Q' h => r_ask k hk ha R h) h1 h0
theorem r_asksQ (k : Nat) (hk : k < 24) (ha : a = 239 + (k : Int)) (R : RLx T N φ α p e) (h1 : isW T N p e (wqF k) → ∀ φ', fw φ φ' → RLx T N φ' α (avF T N p) (edF T N p e) → Q 0 φ' α) (h0 : ¬ isW T N p e (wqF k) → ∀ φ', fw φ φ' → RF φ' 1 p → Q 0 φ' α) : eX11_asks (d + 3) a φ α Q :=
  r_asks (wq30 hk) (caq k hk ha) R.2.1 (fun Q' h => r_ask k hk ha R h) h1 h0
theorem r_takesO (k : Nat) (hk : k < 24) (ha : a = 201 + (k : Int)) (R : RLx T N φ α p e) (h1 : isW T N p e k → ∀ φ', fw φ φ' → RLx T N φ' α (avF T N p) (edF T N p e) → Q 1 φ' α) (h0 : ¬ isW T N p e k → ∀ φ', fw φ φ' → RLx T N φ' α p e → φ' 11 2 198 = p → Q 0 φ' α) : eX11_takes (d + 2) a φ α Q :=
  r_takes (by omega) (by subst ha; exact ca_own hk) (fun Q' h => r_own hk ha R h) h1 h0
theorem r_asksO (k : Nat) (hk : k < 24) (ha : a = 201 + (k : Int)) (R : RLx T N φ α p e) (h1 : isW T N p e k → ∀ φ', fw φ φ' → RLx T N φ' α (avF T N p) (edF T N p e) → Q 0 φ' α) (h0 : ¬ isW T N p e k → ∀ φ', fw φ φ' → RF φ' 1 p → Q 0 φ' α) : eX11_asks (d + 3) a φ α Q :=
  r_asks (by omega) (by subst ha; exact ca_own hk) R.2.1 (fun Q' h => r_own hk ha R h) h1 h0
theorem r_qAsksWord (hk : k < 12) (hx : x = k) (R : RLx T N φ α p e) (hw : isW T N p e (wqF (12 + k))) (h : ∀ φ', fw φ φ' → RLx T N φ' α (avF T N p) (edF T N p e) → Q 0 φ' α) : eX11_qAsksWord (d + 4) x φ α Q := by
  subst hx
  have go : ∀ (j : Nat) (a : Int), j < 12 → (k : Int) = j → a = 239 + ((12 + j : Nat) : Int) → eX11_asks (d + 3) a φ α (fun r3 φ3 α3 => Q 0 φ3 α3) := by
    intro j a hj hkj ha
    have e : k = j := by omega
    subst e
    exact r_asksQ (12 + k) (by omega) ha R (fun _ φ' f' R' => h φ' f' R') (fun z => absurd hw z)
  exact vX11_qAsksWord_0 ⟨fun z => go 0 251 (by omega) z (by omega), fun z => go 1 252 (by omega) z (by omega), fun z => go 2 253 (by omega) z (by omega), fun z => go 3 254 (by omega) z (by omega), fun z => go 4 255 (by omega) z (by omega), fun z => go 5 256 (by omega) z (by omega), fun z => go 6 257 (by omega) z (by omega), fun z => go 7 258 (by omega) z (by omega), fun z => go 8 259 (by omega) z (by omega), fun z => go 9 260 (by omega) z (by omega), fun z => go 10 261 (by omega) z (by omega), fun z => go 11 262 (by omega) (by omega) (by omega)⟩
end QW
