/-! the registry: the class takes over what was told -/
def OFc (φ : aF) (α : aA) (M n : Nat) (G : Int → Int) (lc kc : List Int) : Prop :=
  (φ 2 0 9 = 1 ∧ φ 2 2 9 = G 0 ∧ φ 2 3 9 = M ∧ φ 2 4 9 = n ∧ φ 2 5 9 = G 3) ∧ ((φ 2 8 9 = 0 ∨ φ 2 8 9 = 1) ∧ (φ 2 8 9 = 0 → (12 : Int) ∉ lc)) ∧ ((∀ i : Int, 0 ≤ i → i < 11 → α 10 i = G (10 + i)) ∧ (∀ i : Int, 0 ≤ i → i < 7 → α 11 i = G (30 + i) ∧ α 12 i = G (40 + i) ∧ α 14 i = G (80 + i)) ∧ (∀ i : Int, 0 ≤ i → i < 28 → α 13 i = G (50 + i))) ∧ (φ 6 1 15 = lc.length ∧ ∀ i : Nat, i < lc.length → α 16 (i : Int) = lc.getD i 0) ∧ (φ 6 1 17 = kc.length ∧ ∀ i : Nat, i < kc.length → α 18 (i : Int) = kc.getD i 0)
theorem ia10 : isIA 10 11 := fun _ => rfl
theorem ia11 : isIA 11 7 := fun _ => rfl
theorem ia12 : isIA 12 7 := fun _ => rfl
theorem ia13 : isIA 13 28 := fun _ => rfl
theorem ia14 : isIA 14 7 := fun _ => rfl
theorem ia30 : isIA 30 7 := fun _ => rfl
theorem ia31 : isIA 31 9 := fun _ => rfl
theorem ia32 : isIA 32 28 := fun _ => rfl
theorem ia33 : isIA 33 7 := fun _ => rfl
theorem ia34 : isIA 34 12 := fun _ => rfl
section RL
variable {d M n : Nat} {φ φ' : aF} {α α' α0 : aA} {Q : Int → aF → aA → Prop} {G nw : Int → Int} {lc kc : List Int}
theorem c_office (C : CDr φ α M n G lc kc) (I : DI M n G lc kc) (h : ∀ φ' α', (∀ c g o, ¬ (c = 2 ∧ o = 9) → ¬ (c = 6 ∧ (o = 15 ∨ o = 17)) → φ' c g o = φ c g o) → (∀ a : Int, ¬ (10 ≤ a ∧ a ≤ 18) → α' a = α a) → φ' 2 1 9 = φ 2 1 19 → OFc φ' α' M n G lc kc → Q 0 φ' α') : eX2_copyFrom (d + 3) 9 19 φ α Q := by
  obtain ⟨⟨c0, c1, c2, c3, c4, c5, c6⟩, ⟨a1, a2, a3⟩, ⟨l1, l2⟩, k1, k2⟩ := C
  have i10 := I.2.2.2.2.2.2.2.1
  have i11 := I.2.2.2.2.2.2.2.2
  refine vX2_copyFrom_0 (Or.inl rfl) (Or.inr rfl) ⟨Or.inr c0, by rw [c5]; omega, by rw [c6]; omega, ?_⟩
  rw [show (19 : Int) + 1 = 20 from rfl, show (19 : Int) + 2 = 21 from rfl, show (19 : Int) + 3 = 22 from rfl, show (19 : Int) + 4 = 23 from rfl, show (19 : Int) + 5 = 24 from rfl, show (19 : Int) + 6 = 25 from rfl, show (19 : Int) + 8 = 27 from rfl, show (9 : Int) + 1 = 10 from rfl, show (9 : Int) + 2 = 11 from rfl, show (9 : Int) + 3 = 12 from rfl, show (9 : Int) + 4 = 13 from rfl, show (9 : Int) + 5 = 14 from rfl, show (9 : Int) + 6 = 15 from rfl, show (9 : Int) + 8 = 17 from rfl]
  generalize hφ : upf (upf (upf (upf (upf (upf (upf (upf φ 2 0 9 (φ 2 0 19)) 2 1 9 (φ 2 1 19)) 2 2 9 (φ 2 2 19)) 2 3 9 (φ 2 3 19)) 2 4 9 (φ 2 4 19)) 2 5 9 (φ 2 5 19)) 2 6 9 (φ 2 6 19)) 2 7 9 (φ 2 7 19) = φ8
  have E8 : ∀ c g o, ¬ (c = 2 ∧ o = 9) → φ8 c g o = φ c g o := fun c g o q => by rw [← hφ, upf_o (by omega), upf_o (by omega), upf_o (by omega), upf_o (by omega), upf_o (by omega), upf_o (by omega), upf_o (by omega), upf_o (by omega)]
  have f0 : φ8 2 0 9 = φ 2 0 19 := by rw [← hφ]; simp [upf]
  have f1 : φ8 2 1 9 = φ 2 1 19 := by rw [← hφ]; simp [upf]
  have f2 : φ8 2 2 9 = φ 2 2 19 := by rw [← hφ]; simp [upf]
  have f3 : φ8 2 3 9 = φ 2 3 19 := by rw [← hφ]; simp [upf]
  have f4 : φ8 2 4 9 = φ 2 4 19 := by rw [← hφ]; simp [upf]
  have f5 : φ8 2 5 9 = φ 2 5 19 := by rw [← hφ]; simp [upf]
  clear hφ
  refine c_copy (n := 11) ia20 ia10 (c_copy (n := 7) ia21 ia11 (c_copy (n := 7) ia22 ia12 (c_copy (n := 28) ia23 ia13 (c_copy (n := 7) ia24 ia14 ?_))))
  generalize hα : rg (rg (rg (rg (rg α 10 0 (11 : Nat) (α 20)) 11 0 (7 : Nat) _) 12 0 (7 : Nat) _) 13 0 (28 : Nat) _) 14 0 (7 : Nat) _ = α5
  have A5 : ∀ a : Int, ¬ (10 ≤ a ∧ a ≤ 14) → α5 a = α a := fun a q => by rw [← hα, rg_ne (by omega), rg_ne (by omega), rg_ne (by omega), rg_ne (by omega), rg_ne (by omega)]
  have b10 : ∀ i : Int, 0 ≤ i → i < 11 → α5 10 i = α 20 i := fun i q1 q2 => by rw [← hα, rg_ne (by omega), rg_ne (by omega), rg_ne (by omega), rg_ne (by omega), rg_in (by omega)]
  have b11 : ∀ i : Int, 0 ≤ i → i < 7 → α5 11 i = α 21 i := fun i q1 q2 => by rw [← hα, rg_ne (by omega), rg_ne (by omega), rg_ne (by omega), rg_in (by omega), rg_ne (by omega)]
  have b12 : ∀ i : Int, 0 ≤ i → i < 7 → α5 12 i = α 22 i := fun i q1 q2 => by rw [← hα, rg_ne (by omega), rg_ne (by omega), rg_in (by omega), rg_ne (by omega), rg_ne (by omega)]
  have b13 : ∀ i : Int, 0 ≤ i → i < 28 → α5 13 i = α 23 i := fun i q1 q2 => by rw [← hα, rg_ne (by omega), rg_in (by omega), rg_ne (by omega), rg_ne (by omega), rg_ne (by omega)]
  have b14 : ∀ i : Int, 0 ≤ i → i < 7 → α5 14 i = α 24 i := fun i q1 q2 => by rw [← hα, rg_in (by omega), rg_ne (by omega), rg_ne (by omega), rg_ne (by omega), rg_ne (by omega)]
  clear hα
  have e25 : φ8 6 1 25 = lc.length := (E8 _ _ _ (by omega)).trans l1
  have e27 : φ8 6 1 27 = kc.length := (E8 _ _ _ (by omega)).trans k1
  have e27' : upf φ8 6 1 15 (φ8 6 1 25) 6 1 27 = kc.length := by rw [upf_o (by omega)]; exact e27
  refine c_copyFrom row15 row25 (by omega) (by omega) (by omega) (by omega) (c_copyFrom row17 row27 (by omega) (by omega) (by omega) (by omega) ?_)
  rw [e27', e25, show (15 : Int) + 1 = 16 from rfl, show (17 : Int) + 1 = 18 from rfl, show (25 : Int) + 1 = 26 from rfl, show (27 : Int) + 1 = 28 from rfl]
  have l16 : ∀ i : Nat, i < lc.length → rg (rg α5 16 0 (lc.length : Int) (α5 26)) 18 0 (kc.length : Int) (rg α5 16 0 (lc.length : Int) (α5 26) 28) 16 (i : Int) = lc.getD i 0 := fun i hi => by rw [rg_ne (by omega), rg_in (by omega), A5 _ (by omega)]; exact l2 i hi
  have fin : ∀ w : Int, (w = 0 ∨ w = 1) → (w = 0 → (12 : Int) ∉ lc) → (w = 0 ∨ w = 1) ∧ Q 0 (upf (upf (upf φ8 6 1 15 (lc.length : Int)) 6 1 17 (kc.length : Int)) 2 8 9 w) (rg (rg α5 16 0 (lc.length : Int) (α5 26)) 18 0 (kc.length : Int) (rg α5 16 0 (lc.length : Int) (α5 26) 28)) := by
    intro w hw hw2
    refine ⟨hw, h _ _ (fun c g o q1 q2 => by rw [upf_o (by omega), upf_o (by omega), upf_o (by omega)]; exact E8 c g o q1) (fun a q => by rw [rg_ne (by omega), rg_ne (by omega)]; exact A5 a (by omega)) (by rw [upf_o (by omega), upf_o (by omega), upf_o (by omega)]; exact f1) ⟨⟨?_, ?_, ?_, ?_, ?_⟩, ⟨by rw [upf_s]; exact hw, by rw [upf_s]; exact hw2⟩, ⟨fun i q1 q2 => ?_, fun i q1 q2 => ⟨?_, ?_, ?_⟩, fun i q1 q2 => ?_⟩, ⟨?_, l16⟩, ?_, fun i hi => ?_⟩⟩
    · rw [upf_o (by omega), upf_o (by omega), upf_o (by omega), f0]; exact c0
    · rw [upf_o (by omega), upf_o (by omega), upf_o (by omega), f2]; exact c1
    · rw [upf_o (by omega), upf_o (by omega), upf_o (by omega), f3]; exact c2
    · rw [upf_o (by omega), upf_o (by omega), upf_o (by omega), f4]; exact c3
    · rw [upf_o (by omega), upf_o (by omega), upf_o (by omega), f5]; exact c4
    · rw [rg_ne (by omega), rg_ne (by omega), b10 i q1 q2]; exact a1 i q1 q2
    · rw [rg_ne (by omega), rg_ne (by omega), b11 i q1 q2]; exact (a2 i q1 q2).1
    · rw [rg_ne (by omega), rg_ne (by omega), b12 i q1 q2]; exact (a2 i q1 q2).2.1
    · rw [rg_ne (by omega), rg_ne (by omega), b14 i q1 q2]; exact (a2 i q1 q2).2.2
    · rw [rg_ne (by omega), rg_ne (by omega), b13 i q1 q2]; exact a3 i q1 q2
    · rw [upf_o (by omega), upf_o (by omega), upf_s]
    · rw [upf_o (by omega), upf_s]
    · rw [rg_in (by omega), rg_ne (by omega), A5 _ (by omega)]; exact k2 i hi
  exact c_holds (d := d + 1) row15 (by rw [upf_o (by omega), upf_s]) l16 i10.1 (by omega) (fun _ => fin 1 (Or.inr rfl) (fun z => by omega)) (fun z => fin 0 (Or.inl rfl) (fun _ => z))
theorem l_seatAll (hn : n ≤ 7) (hs : ∀ k : Nat, k < n → α0 30 (k : Int) = nw (1 + 5 * (k : Int)) ∧ 0 ≤ nw (1 + 5 * (k : Int)) ∧ nw (1 + 5 * (k : Int)) < 9) (hd : ∀ c c' : Nat, c < n → c' < n → nw (1 + 5 * (c : Int)) = nw (1 + 5 * (c' : Int)) → c = c') (h : ∀ α, (∀ a : Int, a ≠ 31 → α a = α0 a) → (∀ s : Int, 0 ≤ s → s < 9 → α 31 s = sitF nw s n) → Q 0 φ α) : ∀ (r k : Nat) (α : aA), k + r = n → (∀ a : Int, a ≠ 31 → α a = α0 a) → (∀ s : Int, 0 ≤ s → s < 9 → α 31 s = sitF nw s k) → jX7_seatAll_10 (d + 1) 29 n k φ α Q := by
  intro r
  induction r with
  | zero =>
    intro k α hk ha hsit
    have : k = n := by omega
    subst this
    exact vX7_seatAll_10 (Or.inl rfl) ⟨fun _ => h α ha hsit, fun z => by omega⟩
  | succ r ih =>
    intro k α hk ha hsit
    have st := hs k (by omega)
    refine vX7_seatAll_10 (Or.inl rfl) ⟨fun z => by omega, fun _ => c_pick (n := 7) (a := 29 + 1) ia30 (by omega) ?_⟩
    rw [show (29 : Int) + 1 = 30 from rfl, show (29 : Int) + 2 = 31 from rfl, ha 30 (by omega), st.1]
    refine c_set (n := 9) ia31 (by omega) ⟨by unfold inR; omega, ?_⟩
    refine ih (k + 1) _ (by omega) (fun a q => by rw [upa_fn q]; exact ha a q) (fun s q1 q2 => ?_)
    rw [sitF]
    by_cases z : s = nw (1 + 5 * (k : Int))
    · rw [z, upa_eq, sitF_none (fun c hc q => by have := hd c k (by omega) (by omega) q; omega), if_neg (by omega), if_pos rfl]
    · rw [upa_ni z, hsit s q1 q2]
      by_cases y : 0 ≤ sitF nw s k
      · rw [if_pos y]
      · rw [if_neg y, if_neg (fun w => z w.symm)]
        rcases sitF_cases nw s k with ⟨w, -⟩ | ⟨v, -, w, -⟩
        · exact w
        · omega
theorem fullF_G (I : DI M n G lc kc) {c : Int} (h1 : 0 ≤ c) (h2 : c < 7) : fullF (nwF G n) c = G (80 + c) := by
  have i8 := I.2.2.2.2.2.1
  have i9 := I.2.2.2.2.2.2.1 c h1 h2
  have dr : ∀ m : Int, 0 ≤ m → m < 4 → nwF G n (2 + 5 * c + m) = G (50 + 4 * c + m) := fun m q1 q2 => by
    by_cases z : c < n
    · exact nwF_d ⟨h1, z⟩ ⟨q1, q2⟩
    · rw [nwF_o (by omega), (i8 c m h1 h2 q1 q2).2 (by omega)]
  unfold fullF
  rw [i9, ← dr 0 (by omega) (by omega), ← dr 1 (by omega) (by omega), ← dr 2 (by omega) (by omega), ← dr 3 (by omega) (by omega), show 2 + 5 * c + 0 = 2 + 5 * c by omega, show 2 + 5 * c + 1 = 3 + 5 * c by omega, show 2 + 5 * c + 2 = 4 + 5 * c by omega, show 2 + 5 * c + 3 = 5 + 5 * c by omega]
theorem GS_nwF {ns : Nat} (I : DI M n G lc kc) (hns : G 0 = ns) : GS n M ns (fun c => G (30 + c)) (nwF G n) := by
  have i8 := I.2.2.2.2.2.1
  have i6 := I.2.2.2.1
  have i1 := I.1
  have g0 := I.2.1.1
  refine ⟨by rw [nwF_o (by omega)]; omega, fun c hc => ?_, fun c c' h1 h2 h => ?_, fun c m q1 q2 q3 q4 => ?_, fun c q1 q2 => ?_, fun m p q1 q2 q3 q4 => ?_, i1.2, i1.1, by omega⟩
  · rw [nwF_s (by omega)]
    have := i6 c hc
    omega
  · rw [nwF_s (by omega), nwF_s (by omega)] at h
    exact I.2.2.2.2.1 c c' h1 h2 h
  · have i := i8 c m q1 q2 q3 q4
    by_cases z : c < n
    · rw [nwF_d ⟨q1, z⟩ ⟨q3, q4⟩]
      exact i
    · rw [nwF_o (by omega)]
      exact ⟨by omega, fun _ => rfl⟩
  · rw [fullF_G I q1 (by omega)]
    have i := i6 c.toNat (by omega)
    rw [show ((c.toNat : Nat) : Int) = c by omega] at i
    exact ⟨i.2.2, i.1.2⟩
  · rw [nwF_o (by omega)]
    exact ⟨by omega, by omega, fun _ => rfl⟩
/-- the first day's state -/
theorem c_first {ns : Nat} (O : OFc φ α M n G lc kc) (I : DI M n G lc kc) (hns : G 0 = ns) (h : ∀ φ' α', (∀ c g o, ¬ (c = 7 ∧ o = 29) → φ' c g o = φ c g o) → (∀ a : Int, ¬ (30 ≤ a ∧ a ≤ 34) → α' a = α a) → SN 29 φ' α' n M ns (fun c => G (30 + c)) lc (nwF G n) → Q 0 φ' α') : eX7_begin (d + 3) 29 9 φ α Q := by
  obtain ⟨⟨o0, o1, o2, o3, o4⟩, -, ⟨a1, a2, a3⟩, -, -⟩ := O
  have i1 := I.1
  have g0 := I.2.1.1
  have i6 := I.2.2.2.1
  have i8 := I.2.2.2.2.2.1
  refine vX7_begin_0 (Or.inl rfl) (Or.inl rfl) ?_
  rw [show (29 : Int) + 1 = 30 from rfl, show (29 : Int) + 3 = 32 from rfl, show (29 : Int) + 4 = 33 from rfl, show (29 : Int) + 5 = 34 from rfl, show (9 : Int) + 3 = 12 from rfl, show (9 : Int) + 4 = 13 from rfl, show (9 : Int) + 5 = 14 from rfl]
  refine c_copy (n := 7) ia12 ia30 ?_
  rw [show upf φ 7 0 29 0 2 4 9 = n by rw [upf_o (by omega)]; exact o3]
  refine vX7_seatAll_0 (Or.inl rfl) (c_fill (n := 9) ia31 ?_)
  rw [show (29 : Int) + 2 = 31 from rfl]
  refine l_seatAll (d := d + 1) (nw := nwF G n) (α0 := rg α 30 0 (7 : Nat) (α 12)) i1.2 (fun k hk => ?_) (fun c c' h1 h2 w => ?_) (fun α1 y1 y2 => ?_) n 0 _ (by omega) (fun a q => rg_ne q) (fun s q1 q2 => by rw [rg_in (by omega)]; rfl)
  · have i := i6 k hk
    rw [rg_in (by omega), nwF_s (by omega), (a2 k (by omega) (by omega)).2.1]
    exact ⟨rfl, by omega⟩
  · rw [nwF_s (by omega), nwF_s (by omega)] at w
    exact I.2.2.2.2.1 c c' h1 h2 w
  · refine c_copy (n := 28) ia13 ia32 (c_copy (n := 7) ia14 ia33 (c_fill (n := 12) ia34 (vX7_forgetKept_0 (Or.inl rfl) ?_)))
    generalize hα : rg (rg (rg α1 32 0 (28 : Nat) (α1 13)) 33 0 (7 : Nat) _) 34 0 (12 : Nat) _ = α5
    have A5 : ∀ a : Int, ¬ (32 ≤ a ∧ a ≤ 34) → α5 a = α1 a := fun a q => by rw [← hα, rg_ne (by omega), rg_ne (by omega), rg_ne (by omega)]
    have b32 : ∀ i : Int, 0 ≤ i → i < 28 → α5 32 i = α 13 i := fun i q1 q2 => by rw [← hα, rg_ne (by omega), rg_ne (by omega), rg_in (by omega), y1 _ (by omega), rg_ne (by omega)]
    have b33 : ∀ i : Int, 0 ≤ i → i < 7 → α5 33 i = α 14 i := fun i q1 q2 => by rw [← hα, rg_ne (by omega), rg_in (by omega), rg_ne (by omega), y1 _ (by omega), rg_ne (by omega)]
    have b34 : ∀ i : Int, 0 ≤ i → i < 12 → α5 34 i = 0 := fun i q1 q2 => by rw [← hα, rg_in (by omega)]
    clear hα
    have A : ∀ a : Int, ¬ (30 ≤ a ∧ a ≤ 34) → α5 a = α a := fun a q => by rw [A5 a (by omega), y1 a (by omega), rg_ne (by omega)]
    refine h _ α5 (fun c g o q => by rw [upf_o (by omega), upf_o (by omega), upf_o (by omega), upf_o (by omega)]) A ⟨⟨?_, fun c q1 q2 => ?_, fun s q1 q2 => ?_, fun c m q1 q2 q3 q4 => ?_, fun c q1 q2 => ?_, fun p m q1 q2 q3 q4 => ?_⟩, GS_nwF I hns, ⟨?_, ?_, ?_, ?_, ?_, fun k w q1 q2 => ?_⟩, ?_, Or.inl upf_s⟩
    · rw [upf_o (by omega), upf_o (by omega), upf_o (by omega), upf_s, nwF_o (by omega)]
    · rw [show (29 : Int) + 1 = 30 from rfl, A5 _ (by omega), y1 _ (by omega), rg_in (by omega), nwF_s ⟨q1, q2⟩]
      exact (a2 c q1 (by omega)).2.1
    · rw [show (29 : Int) + 2 = 31 from rfl, A5 _ (by omega)]
      exact y2 s q1 q2
    · rw [show (29 : Int) + 3 = 32 from rfl, b32 _ (by omega) (by omega), a3 _ (by omega) (by omega), show 50 + (c * 4 + m) = 50 + 4 * c + m by omega]
      by_cases z : c < n
      · rw [nwF_d ⟨q1, z⟩ ⟨q3, q4⟩]
      · rw [nwF_o (by omega), (i8 c m q1 q2 q3 q4).2 (by omega)]
    · rw [show (29 : Int) + 4 = 33 from rfl, b33 _ (by omega) (by omega), fullF_G I q1 q2]
      exact (a2 c q1 q2).2.2
    · rw [show (29 : Int) + 5 = 34 from rfl, b34 _ (by omega) (by omega), nwF_o (by omega)]
    · rw [upf_o (by omega), upf_o (by omega), upf_s]; omega
    · rw [upf_o (by omega), upf_o (by omega), upf_s]; omega
    · rw [upf_o (by omega), upf_s, nwF_o (by omega)]
    · rw [nwF_o (by omega)]; omega
    · rw [nwF_o (by omega)]; omega
    · rw [nwF_o (by omega)] at q2; omega
    · rw [nwF_o (by omega)]; omega
end RL
