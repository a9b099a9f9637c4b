/-! days by the seed -/
def sdF (s : Int) : Int := (1103515245 * s + 12345) % 2147483648
def hfF (rm : Int → Int) (nw : Int → Int) (c o m : Int) : Int := min (Int.tdiv (nw (2 + 5 * c + m)) 2) (rm o - fullF nw o)
def tvF (n M : Nat) (rm : Int → Int) (ct : List Int) (nw : Int → Int) (g t : Int) : Int := (evL n M rm nw g t 0 [] ct).headD 0
def tkr (g t : Int) : Int := if t < g then t else t + 1
/-- hands are shaken, or not: the state, the seed, how many drops went over (-1: none shaken) -/
def thF (n M : Nat) (rm : Int → Int) (ct : List Int) (hd : Int) (nw : Int → Int) (s : Int) : (Int → Int) × Int × Int :=
  if hd ≤ sdF s / 64 % 100 ∨ n < 2 then (nw, sdF s, -1)
  else if tvF n M rm ct nw (sdF (sdF s) / 64 % n) (tkr (sdF (sdF s) / 64 % n) (sdF (sdF (sdF s)) / 64 % (n - 1))) = 0 then (nw, sdF (sdF (sdF s)), -1)
  else ((dmF (hfF rm) (sdF (sdF s) / 64 % n) (tkr (sdF (sdF s) / 64 % n) (sdF (sdF (sdF s)) / 64 % (n - 1))) (nw, 0) M).1, sdF (sdF (sdF s)), (dmF (hfF rm) (sdF (sdF s) / 64 % n) (tkr (sdF (sdF s) / 64 % n) (sdF (sdF (sdF s)) / 64 % (n - 1))) (nw, 0) M).2)
/-- k days by the seed: the state, the seed, how many hands were shaken -/
def chN (n M ns : Nat) (rm : Int → Int) (cs ct : List Int) (hd : Int) (nw : Int → Int) (s : Int) : Nat → (Int → Int) × Int × Int
  | 0 => (nw, s, 0)
  | k + 1 => (lvF n M ns rm cs (thF n M rm ct hd (chN n M ns rm cs ct hd nw s k).1 (chN n M ns rm cs ct hd nw s k).2.1).1 (max 0 (thF n M rm ct hd (chN n M ns rm cs ct hd nw s k).1 (chN n M ns rm cs ct hd nw s k).2.1).2.2), (thF n M rm ct hd (chN n M ns rm cs ct hd nw s k).1 (chN n M ns rm cs ct hd nw s k).2.1).2.1, if (thF n M rm ct hd (chN n M ns rm cs ct hd nw s k).1 (chN n M ns rm cs ct hd nw s k).2.1).2.2 < 0 then (chN n M ns rm cs ct hd nw s k).2.2 else (chN n M ns rm cs ct hd nw s k).2.2 + 1)
theorem jAnd31 {x : Int} (h : 0 ≤ x) (h2 : x < 9223372036854775808) : jAnd x 2147483647 = x % 2147483648 := by
  unfold jAnd
  obtain ⟨k, rfl⟩ : ∃ k : Nat, x = k := ⟨x.toNat, by omega⟩
  have e1 : (Int64.ofInt (k : Int) &&& Int64.ofInt 2147483647).toBitVec = BitVec.ofNat 64 (k &&& 2147483647) := by
    rw [Int64.toBitVec_and]
    apply BitVec.eq_of_toNat_eq
    have a1 : (Int64.ofInt (k : Int)).toBitVec = BitVec.ofNat 64 k := by
      apply BitVec.eq_of_toNat_eq
      simp [Int64.toBitVec_ofInt]
    have a2 : (Int64.ofInt 2147483647).toBitVec = BitVec.ofNat 64 2147483647 := rfl
    rw [a1, a2, BitVec.toNat_and, BitVec.toNat_ofNat, BitVec.toNat_ofNat, BitVec.toNat_ofNat]
    have b1 : k % 2 ^ 64 = k := Nat.mod_eq_of_lt (by omega)
    have b2 : (2147483647 : Nat) % 2 ^ 64 = 2147483647 := rfl
    have b3 : k &&& 2147483647 < 2 ^ 64 := Nat.lt_of_le_of_lt Nat.and_le_right (by decide)
    rw [b1, b2, Nat.mod_eq_of_lt b3]
  have e2 : k &&& 2147483647 = k % 2147483648 := by
    have := Nat.and_two_pow_sub_one_eq_mod k 31
    simpa using this
  have e3 : (Int64.ofInt (k : Int) &&& Int64.ofInt 2147483647).toInt = (BitVec.ofNat 64 (k % 2147483648)).toInt := by
    rw [← e2, ← e1]; rfl
  rw [e3, BitVec.toInt_eq_toNat_of_lt]
  · rw [BitVec.toNat_ofNat, Nat.mod_eq_of_lt (by omega)]
    omega
  · rw [BitVec.toNat_ofNat, Nat.mod_eq_of_lt (by omega)]
    omega
section CH
variable {d j : Nat} {φ φ' φ0 φ1 φ2 : aF} {α α' α0 α1 α2 : aA} {Q : Int → aF → aA → Prop} {b b2 c o m x y z v s k ce side t m' p x1 g hd : Int} {n M ns : Nat} {rm nw nw' nw0 sr : Int → Int} {cs ct : List Int}
theorem sdF_bd (h : 0 ≤ s ∧ s < 2147483648) : 0 ≤ sdF s ∧ sdF s < 2147483648 := by unfold sdF; omega
theorem c_draw (h0 : φ 10 15 0 = s) (hs : 0 ≤ s ∧ s < 2147483648) (hm : 0 < m ∧ m ≤ 1000) (h : Q (sdF s / 64 % m) (upf φ 10 15 0 (sdF s)) α) : eX10_draw d m φ α Q := by
  have b1 := sdF_bd hs
  refine vX10_draw_0 ?_
  rw [h0, jAnd31 (by omega) (by omega), show (1103515245 * s + 12345) % 2147483648 = sdF s from rfl, Int.tdiv_eq_ediv_of_nonneg b1.1, Int.tmod_eq_emod_of_nonneg (by omega)]
  have b2 := Int.emod_nonneg (sdF s / 64) (show m ≠ 0 by omega)
  have b3 := Int.emod_lt_of_pos (sdF s / 64) hm.1
  exact ⟨by unfold inJ; omega, by unfold inJ; omega, by unfold inR; omega, fun q => by omega, fun _ => ⟨by unfold inR; omega, ⟨by omega, by unfold inR; omega⟩, h⟩⟩
theorem r_drawOf (h0 : φ 11 62 198 = s) (hs : 0 ≤ s ∧ s < 2147483648) (hm : 0 < m ∧ m ≤ 1000) (h : Q (sdF s / 64 % m) (upf φ 11 62 198 (sdF s)) α) : eX11_drawOf d m φ α Q := by
  have b1 := sdF_bd hs
  refine vX11_drawOf_0 ?_
  rw [h0, Int.tmod_eq_emod_of_nonneg (show 0 ≤ 1103515245 * s + 12345 by omega), show (1103515245 * s + 12345) % 2147483648 = sdF s from rfl, Int.tdiv_eq_ediv_of_nonneg b1.1, Int.tmod_eq_emod_of_nonneg (by omega)]
  have b2 := Int.emod_nonneg (sdF s / 64) (show m ≠ 0 by omega)
  have b3 := Int.emod_lt_of_pos (sdF s / 64) hm.1
  exact ⟨by unfold inJ; omega, by unfold inJ; omega, by unfold inJ; omega, by unfold inJ; omega, ⟨by omega, by unfold inJ; omega⟩, by unfold inR; omega, h⟩
theorem hf_bd (G : GS n M ns rm nw) (hg : 0 ≤ g ∧ g < n) (ht : 0 ≤ t ∧ t < n) (hm : 0 ≤ m ∧ m < M) : 0 ≤ hfF rm nw g t m ∧ hfF rm nw g t m ≤ nw (2 + 5 * g + m) ∧ hfF rm nw g t m ≤ rm t - fullF nw t ∧ hfF rm nw g t m ≤ 99 ∧ (0 ≤ Int.tdiv (nw (2 + 5 * g + m)) 2 ∧ Int.tdiv (nw (2 + 5 * g + m)) 2 ≤ 99) := by
  have hn := G.2.2.2.2.2.2
  have a1 := G.drop hg.1 (show g < 7 by omega) hm.1 (show m < 4 by omega)
  have hs := sp_room G ht
  unfold hfF
  rw [Int.tdiv_eq_ediv_of_nonneg a1.1]
  omega
theorem dmh_inv (G : GS n M ns rm nw) (hg : 0 ≤ g ∧ g < n) (ht : 0 ≤ t ∧ t < n) (hne : g ≠ t) : ∀ k : Nat, k ≤ M → GS n M ns rm (dmF (hfF rm) g t (nw, 0) k).1 ∧ 0 ≤ (dmF (hfF rm) g t (nw, 0) k).2 ∧ (dmF (hfF rm) g t (nw, 0) k).2 ≤ 99 * (k : Int)
  | 0, _ => ⟨G, Int.le_refl _, by show (0 : Int) ≤ _; omega⟩
  | k + 1, h => by
    obtain ⟨i1, i2, i3⟩ := dmh_inv G hg ht hne k (by omega)
    have hb := hf_bd i1 hg ht (m := (k : Int)) (by omega)
    refine ⟨GS_mv i1 hg ht hne (by omega) hb.1 hb.2.1 hb.2.2.1, ?_, ?_⟩
    · show 0 ≤ (dmF (hfF rm) g t (nw, 0) k).2 + _; omega
    · show (dmF (hfF rm) g t (nw, 0) k).2 + _ ≤ _; omega
theorem l_shakeC (G : GS n M ns rm nw) (hrm : ∀ c : Int, 0 ≤ c → c < n → 0 ≤ rm c) (hg : 0 ≤ g ∧ g < n) (ht : 0 ≤ t ∧ t < n) (hne : g ≠ t) (h : ∀ φ' α', XS 29 φ' α' n (dmF (hfF rm) g t (nw, 0) M).1 → stl 29 φ' n M ns rm cs (dmF (hfF rm) g t (nw, 0) M).1 → fr 29 φ0 α0 φ' α' → Q (dmF (hfF rm) g t (nw, 0) M).2 φ' α') : ∀ (r k : Nat), k + r = M → ∀ (φ : aF) (α : aA), XS 29 φ α n (dmF (hfF rm) g t (nw, 0) k).1 → stl 29 φ n M ns rm cs (dmF (hfF rm) g t (nw, 0) k).1 → XO φ α n M ns rm → fr 29 φ0 α0 φ α → jX9_shake_29 (d + 3) 29 g t (dmF (hfF rm) g t (nw, 0) k).2 k φ α Q
  | 0, k, hk, φ, α, X, T, O, f => by
    have z : k = M := by omega
    subst z
    exact vX9_shake_29 st29 ⟨fun _ => h φ α X T f, fun q => by have := O.2.1; omega⟩
  | r + 1, k, hk, φ, α, X, T, O, f => by
    have hn := G.2.2.2.2.2.2
    obtain ⟨i1, i2, i3⟩ := dmh_inv G hg ht hne k (by omega)
    have hb := hf_bd i1 hg ht (m := (k : Int)) (by omega)
    refine vX9_shake_29 st29 ⟨fun q => by have := O.2.1; omega, fun _ => c_dropsOf st29 X (by omega) (by omega) ⟨by unfold inR; omega, c_space st29 X i1 O hrm ht (c_min ?_)⟩⟩
    rw [show min (Int.tdiv ((dmF (hfF rm) g t (nw, 0) k).1 (2 + 5 * g + k)) 2) (rm t - fullF (dmF (hfF rm) g t (nw, 0) k).1 t) = hfF rm (dmF (hfF rm) g t (nw, 0) k).1 g t k from rfl]
    refine c_hand st29 X i1 hg ht hne (by omega) (by omega) (fun φ1 α1 X1 f1 s1 _ => ⟨by unfold inR; omega, by unfold inR; omega, ?_⟩)
    have := l_shakeC G hrm hg ht hne h r (k + 1) (by omega) φ1 α1 X1 (Or.inl s1) (XO_of (fun f o => f1.1 _ _ _ (by omega)) (f1.2 _ (by omega) (by omega)) O) (f.tr f1)
    rw [show ((k + 1 : Nat) : Int) = (k : Int) + 1 by omega] at this
    exact this
theorem c_shake (X : XS 29 φ α n nw) (T : stl 29 φ n M ns rm cs nw) (G : GS n M ns rm nw) (O : XO φ α n M ns rm) (hrm : ∀ c : Int, 0 ≤ c → c < n → 0 ≤ rm c) (S : SH φ α ct) (hg : 0 ≤ g ∧ g < n) (ht : 0 ≤ t ∧ t < n) (hne : g ≠ t) (h1 : tvF n M rm ct nw g t = 0 → ∀ α', XS 29 φ α' n nw → fr 29 φ α φ α' → Q (-1) φ α') (h2 : tvF n M rm ct nw g t ≠ 0 → ∀ φ' α', XS 29 φ' α' n (dmF (hfF rm) g t (nw, 0) M).1 → stl 29 φ' n M ns rm cs (dmF (hfF rm) g t (nw, 0) M).1 → fr 29 φ α φ' α' → Q (dmF (hfF rm) g t (nw, 0) M).2 φ' α') : eX9_shake (d + 3) 29 g t φ α Q := by
  refine vX9_shake_0 st29 (c_worth row17 (by omega) st29 X G O hrm hg ht (by omega) S.2.1 S.1 S.2.2.1 S.2.2.2.1 (fun α1 w a1 ev vt => ?_))
  have e : tvF n M rm ct nw g t = w := by unfold tvF; rw [ev]; rfl
  rw [e] at h1 h2
  refine ⟨fun q => ?_, fun q => h1 q α1 (XS_sc st29 a1 X) (fr_sc a1)⟩
  have := l_shakeC (d := d) (Q := Q) (φ0 := φ) (α0 := α) (cs := cs) G hrm hg ht hne (h2 q) M 0 (by omega) φ α1 (XS_sc st29 a1 X) T (XO_of (fun _ _ => rfl) (a1 _ (by omega)) O) (fr_sc a1)
  exact this
theorem l_shakeM (G : GS n M ns rm nw) (hrm : ∀ c : Int, 0 ≤ c → c < n → 0 ≤ rm c) (hg : 0 ≤ g ∧ g < n) (ht : 0 ≤ t ∧ t < n) (hne : g ≠ t) (h : ∀ φ' α', fm φ0 α0 φ' α' → α' 233 = (dmF (hfF rm) g t (nw, 0) M).1 → φ' 11 53 198 = (dmF (hfF rm) g t (nw, 0) M).2 → Q 0 φ' α') : ∀ (r k : Nat), k + r = M → ∀ (φ : aF) (α : aA), fm φ0 α0 φ α → MO α n M ns rm → α 233 = (dmF (hfF rm) g t (nw, 0) k).1 → φ 11 53 198 = (dmF (hfF rm) g t (nw, 0) k).2 → jX11_shake_2 (d + 4) g t k φ α Q
  | 0, k, hk, φ, α, f, O, e, v => by
    have z : k = M := by omega
    subst z
    exact vX11_shake_2 (r_mMany O.1 ⟨fun _ => h φ α f e v, fun q => by omega⟩)
  | r + 1, k, hk, φ, α, f, O, e, v => by
    have hn := G.2.2.2.2.2.2
    obtain ⟨i1, i2, i3⟩ := dmh_inv G hg ht hne k (by omega)
    have hb := hf_bd i1 hg ht (m := (k : Int)) (by omega)
    have Ge : GS n M ns rm (α 233) := by rw [e]; exact i1
    have d1 := Ge.drop hg.1 (show g < 7 by omega) (m := (k : Int)) (by omega) (by omega)
    have d2 := Ge.drop ht.1 (show t < 7 by omega) (m := (k : Int)) (by omega) (by omega)
    have nx : ∀ w, w = hfF rm (dmF (hfF rm) g t (nw, 0) k).1 g t k → eX11_goesOver (d + 3) g t k w φ α (fun r8 φ8 α8 => inR ((k : Int) + 1) ∧ jX11_shake_2 (d + 4) g t ((k : Int) + 1) φ8 α8 Q) := by
      intro w hw
      subst hw
      refine r_goesOver (by omega) (by omega) (by omega) hne (by omega) d1 d2 (by omega) (fun φ1 α1 f1 v1 e1 => ⟨by unfold inR; omega, ?_⟩)
      have := l_shakeM G hrm hg ht hne h r (k + 1) (by omega) φ1 α1 (f.tr f1) (MO_a (fun a _ _ => f1.2 a (by omega) (by omega)) O) (by rw [e1, e]; rfl) (by rw [v1, v]; rfl)
      rw [show ((k + 1 : Nat) : Int) = (k : Int) + 1 by omega] at this
      exact this
    have hf : hfF rm (dmF (hfF rm) g t (nw, 0) k).1 g t k = min (Int.tdiv ((dmF (hfF rm) g t (nw, 0) k).1 (2 + 5 * g + k)) 2) (rm t - fullF (dmF (hfF rm) g t (nw, 0) k).1 t) := rfl
    refine vX11_shake_2 (r_mMany O.1 ⟨fun q => by omega, fun _ => r_dropsOf (by omega) (by omega) ⟨by rw [e]; unfold inR; omega, r_spaceOf O Ge hrm ht ?_⟩⟩)
    refine ⟨fun q => r_spaceOf O Ge hrm ht (nx _ ?_), fun q => nx _ ?_⟩
    · rw [e] at q ⊢; omega
    · rw [e] at q ⊢; omega
theorem ev21 : evL n M rm nw g t 0 [] [21] = [1] := rfl
theorem r_canShake (S : SH φ α ct) (O : MO α n M ns rm) (G : GS n M ns rm (α 233)) (hrm : ∀ c : Int, 0 ≤ c → c < n → 0 ≤ rm c) (hg : 0 ≤ g ∧ g < n) (ht : 0 ≤ t ∧ t < n) (h : ∀ φ' α' w, fm φ α φ' α' → α' 233 = α 233 → φ' 11 53 198 = φ 11 53 198 → (w = 0 ∧ tvF n M rm ct (α 233) g t = 0 ∨ w = 1 ∧ tvF n M rm ct (α 233) g t ≠ 0) → Q w φ' α') : eX11_canShake (d + 5) g t φ α Q := by
  have f0 : fm φ α (upf φ 11 51 198 t) α := fm_f (by omega)
  have o0 : upf φ 11 51 198 t 11 53 198 = φ 11 53 198 := upf_o (by omega)
  obtain ⟨s1, s2, s3, s4, s5, s6⟩ := S
  rcases s6 with ⟨s6, rfl⟩ | ⟨f, hC⟩
  · refine vX11_canShake_0 ⟨fun _ => h _ _ 1 f0 rfl o0 (Or.inr ⟨rfl, ?_⟩), fun q => absurd s6 q⟩
    unfold tvF
    rw [ev21]
    decide
  · refine vX11_canShake_0 ⟨fun q => by have h1 := hC.1; have h0 := hC.2.2.1; rw [show (2 + 1 : Int) = 3 by omega] at h1; omega, fun _ => ?_⟩
    refine r_codesTell (f := f) (m := 0) (by omega) hrm hg ht (by omega) hC (fun q => (s5 30 q).2.2.2.1 rfl) (fun q => (s5 31 q).2.2.2.2 rfl) (fun ce hce => ⟨fun q => by have := s5 ce hce; omega, fun _ => upf_s, fun q => absurd q (s5 ce hce).2.2.1⟩) s4 O G (fun φ6 α6 w p1 p2 p3 p4 => ?_)
    have p4 := vT_t.mp p4
    have e : tvF n M rm ct (α 233) g t = w := by unfold tvF; rw [p3]; rfl
    have f6 : fm φ α φ6 α6 := f0.tr ⟨fun c f o q => p1 c f o (by omega), fun a _ q => p2 a q⟩
    have v6 : φ6 11 53 198 = φ 11 53 198 := (p1 _ _ _ (by omega)).trans o0
    refine ⟨fun q => h φ6 α6 0 f6 (p2 233 (by omega)) v6 (Or.inl ⟨rfl, ?_⟩), fun q => h φ6 α6 1 f6 (p2 233 (by omega)) v6 (Or.inr ⟨rfl, ?_⟩)⟩
    · rw [j3_zero] at q; omega
    · rw [j3_zero] at q; omega
theorem th_ok (G : GS n M ns rm nw) (hs : 0 ≤ s ∧ s < 2147483648) : GS n M ns rm (thF n M rm ct hd nw s).1 ∧ (∀ i : Int, i = 0 ∨ 36 ≤ i → (thF n M rm ct hd nw s).1 i = nw i) ∧ (0 ≤ (thF n M rm ct hd nw s).2.1 ∧ (thF n M rm ct hd nw s).2.1 < 2147483648) ∧ (-1 ≤ (thF n M rm ct hd nw s).2.2 ∧ (thF n M rm ct hd nw s).2.2 ≤ 396) := by
  have hn := G.2.2.2.2.2.2
  have b1 := sdF_bd hs
  have b2 := sdF_bd b1
  have b3 := sdF_bd b2
  unfold thF
  split
  · exact ⟨G, fun _ _ => rfl, b1, by dsimp only; omega, by dsimp only; omega⟩
  · rename_i h
    have c1 : 0 ≤ sdF (sdF s) / 64 % (n : Int) ∧ sdF (sdF s) / 64 % (n : Int) < n := ⟨Int.emod_nonneg _ (by omega), Int.emod_lt_of_pos _ (by omega)⟩
    have c2 : 0 ≤ sdF (sdF (sdF s)) / 64 % ((n : Int) - 1) ∧ sdF (sdF (sdF s)) / 64 % ((n : Int) - 1) < (n : Int) - 1 := ⟨Int.emod_nonneg _ (by omega), Int.emod_lt_of_pos _ (by omega)⟩
    split
    · exact ⟨G, fun _ _ => rfl, b3, by dsimp only; omega, by dsimp only; omega⟩
    · have c3 : 0 ≤ tkr (sdF (sdF s) / 64 % (n : Int)) (sdF (sdF (sdF s)) / 64 % ((n : Int) - 1)) ∧ tkr (sdF (sdF s) / 64 % (n : Int)) (sdF (sdF (sdF s)) / 64 % ((n : Int) - 1)) < n ∧ sdF (sdF s) / 64 % (n : Int) ≠ tkr (sdF (sdF s) / 64 % (n : Int)) (sdF (sdF (sdF s)) / 64 % ((n : Int) - 1)) := by
        unfold tkr
        split <;> omega
      obtain ⟨i1, i2, i3⟩ := dmh_inv G c1 ⟨c3.1, c3.2.1⟩ c3.2.2 M (Nat.le_refl M)
      exact ⟨i1, fun i hi => dmF_nd (by omega) (by omega) (by omega) M (by omega), b3, by dsimp only; omega, by dsimp only; omega⟩
theorem c_tryHands (S : SN 29 φ α n M ns rm cs nw) (E : XE φ α n M ns rm cs) (S2 : SH φ α ct) (h15 : φ 10 15 0 = s) (h5 : φ 2 5 9 = hd) (hs : 0 ≤ s ∧ s < 2147483648) (h : ∀ φ' α', SN 29 φ' α' n M ns rm cs (thF n M rm ct hd nw s).1 → fl φ α φ' α' → φ' 10 15 0 = (thF n M rm ct hd nw s).2.1 → Q (thF n M rm ct hd nw s).2.2 φ' α') : eX10_tryHands (d + 4) φ α Q := by
  obtain ⟨X, G, K, D, T⟩ := S
  have hn := G.2.2.2.2.2.2
  have hO := E.1.2.2.1
  have b1 := sdF_bd hs
  have b2 := sdF_bd b1
  have th := th_ok (ct := ct) (hd := hd) G hs
  have SNf : ∀ φ' w, (∀ c f o, ¬ (c = 10 ∧ f = 15) → φ' c f o = φ c f o) → w = nw → SN 29 φ' α n M ns rm cs w := fun φ' w hf hw => by
    subst hw
    exact SN_of (fun f _ => hf _ _ _ (by omega)) (fun _ _ _ => rfl) (fun _ _ _ => rfl) ⟨X, G, K, D, T⟩
  refine vX10_tryHands_0 (c_draw h15 hs (by omega) ?_)
  rw [upf_o (by omega), upf_o (by omega), h5, hO]
  have fin0 : (thF n M rm ct hd nw s) = (nw, sdF s, -1) → Q (-1) (upf φ 10 15 0 (sdF s)) α := fun e => by
    rw [e] at h
    exact h _ _ (SNf _ _ (fun c f o q => upf_o (by omega)) rfl) ⟨fun c f o _ q => upf_o (by omega), fun _ _ _ _ => rfl⟩ upf_s
  refine ⟨fun q => fin0 (by unfold thF; rw [if_pos (Or.inl q)]), fun q => ⟨fun q2 => ?_, fun q2 => fin0 (by unfold thF; rw [if_pos (Or.inr (by omega))])⟩⟩
  refine c_draw upf_s b1 (by omega) ?_
  rw [upf_o (by omega), upf_o (by omega), hO]
  refine ⟨by unfold inR; omega, c_draw upf_s b2 (by omega) ?_⟩
  have e : thF n M rm ct hd nw s = if tvF n M rm ct nw (sdF (sdF s) / 64 % n) (tkr (sdF (sdF s) / 64 % n) (sdF (sdF (sdF s)) / 64 % (n - 1))) = 0 then (nw, sdF (sdF (sdF s)), -1) else ((dmF (hfF rm) (sdF (sdF s) / 64 % n) (tkr (sdF (sdF s) / 64 % n) (sdF (sdF (sdF s)) / 64 % (n - 1))) (nw, 0) M).1, sdF (sdF (sdF s)), (dmF (hfF rm) (sdF (sdF s) / 64 % n) (tkr (sdF (sdF s) / 64 % n) (sdF (sdF (sdF s)) / 64 % (n - 1))) (nw, 0) M).2) := by
    unfold thF; rw [if_neg (by rintro (w | w) <;> omega)]
  have c1 : 0 ≤ sdF (sdF s) / 64 % (n : Int) ∧ sdF (sdF s) / 64 % (n : Int) < n := ⟨Int.emod_nonneg _ (by omega), Int.emod_lt_of_pos _ (by omega)⟩
  have c2 : 0 ≤ sdF (sdF (sdF s)) / 64 % ((n : Int) - 1) ∧ sdF (sdF (sdF s)) / 64 % ((n : Int) - 1) < (n : Int) - 1 := ⟨Int.emod_nonneg _ (by omega), Int.emod_lt_of_pos _ (by omega)⟩
  have fp : ∀ c f o, ¬ (c = 10 ∧ f = 15) → upf (upf (upf φ 10 15 0 (sdF s)) 10 15 0 (sdF (sdF s))) 10 15 0 (sdF (sdF (sdF s))) c f o = φ c f o := fun c f o q => by rw [upf_o (by omega), upf_o (by omega), upf_o (by omega)]
  have z3 : upf (upf (upf φ 10 15 0 (sdF s)) 10 15 0 (sdF (sdF s))) 10 15 0 (sdF (sdF (sdF s))) 10 15 0 = sdF (sdF (sdF s)) := upf_s
  generalize upf (upf (upf φ 10 15 0 (sdF s)) 10 15 0 (sdF (sdF s))) 10 15 0 (sdF (sdF (sdF s))) = φ3 at fp z3 ⊢
  have go : ∀ t, t = tkr (sdF (sdF s) / 64 % n) (sdF (sdF (sdF s)) / 64 % (n - 1)) → eX9_shake (d + 3) 29 (sdF (sdF s) / 64 % n) t φ3 α (fun r φ' α' => Q r φ' α') := by
    intro t ht
    have c3 : 0 ≤ t ∧ t < n ∧ sdF (sdF s) / 64 % (n : Int) ≠ t := by
      subst ht
      unfold tkr
      split <;> omega
    rw [← ht] at e
    have T3 : stl 29 φ3 n M ns rm cs nw := stl_ext G (fun _ _ _ => rfl) (fp _ _ _ (by omega)) (fp _ _ _ (by omega)) T
    refine c_shake (cs := cs) (ct := ct) (XS_of (fp _ _ _ (by omega)) (fun _ _ _ => rfl) X) T3 G (XO_of (fun f o => fp _ _ _ (by omega)) rfl E.1) E.2.2.2.2.2.1 (SH_of (fp _ _ _ (by omega)) rfl (fun _ _ _ => rfl) S2) c1 ⟨c3.1, c3.2.1⟩ c3.2.2 (fun q α' X' f' => ?_) (fun q φ' α' X' T' f' => ?_)
    · rw [if_pos q] at e
      rw [e] at h
      exact h φ3 α' ⟨X', G, XK_of (fp _ _ _ (by omega)) (fp _ _ _ (by omega)) (f'.2 _ (by omega) (by omega)) (fun _ _ _ => rfl) K, D, T3⟩ ⟨fun c f o q1 q2 => (f'.1 c f o (by omega)).trans (fp c f o q2), fun a q1 q2 q3 => f'.2 a (by omega) q2⟩ z3
    · rw [if_neg q] at e
      rw [e] at h th
      exact h φ' α' ⟨X', th.1, XK_of ((f'.1 _ _ _ (by omega)).trans (fp _ _ _ (by omega))) ((f'.1 _ _ _ (by omega)).trans (fp _ _ _ (by omega))) (f'.2 _ (by omega) (by omega)) (fun i q1 q2 => th.2.1 i (by omega)) K, by rw [th.2.1 0 (by omega)]; exact D, T'⟩ ⟨fun c f o q1 q2 => (f'.1 c f o (by omega)).trans (fp c f o q2), fun a q1 q2 q3 => f'.2 a (by omega) q2⟩ ((f'.1 _ _ _ (by omega)).trans z3)
  refine ⟨fun q3 => go _ ?_, fun q3 => ⟨by unfold inR; omega, go _ ?_⟩⟩
  · unfold tkr; rw [if_pos q3]
  · unfold tkr; rw [if_neg q3]
theorem chN_ok (G : GS n M ns rm nw) (h48 : 0 ≤ nw 48 ∧ nw 48 ≤ 40) (hs : 0 ≤ s ∧ s < 2147483648) : ∀ k : Nat, nw 0 + k ≤ 1999 → GS n M ns rm (chN n M ns rm cs ct hd nw s k).1 ∧ (0 ≤ (chN n M ns rm cs ct hd nw s k).1 48 ∧ (chN n M ns rm cs ct hd nw s k).1 48 ≤ 40) ∧ (chN n M ns rm cs ct hd nw s k).1 0 = nw 0 + k ∧ (0 ≤ (chN n M ns rm cs ct hd nw s k).2.1 ∧ (chN n M ns rm cs ct hd nw s k).2.1 < 2147483648) ∧ 0 ≤ (chN n M ns rm cs ct hd nw s k).2.2 ∧ (chN n M ns rm cs ct hd nw s k).2.2 ≤ k
  | 0, _ => ⟨G, h48, by show nw 0 = nw 0 + ((0 : Nat) : Int); omega, hs, Int.le_refl _, by show (0 : Int) ≤ _; omega⟩
  | k + 1, h => by
    obtain ⟨i1, i2, i3, i4, i5, i6⟩ := chN_ok G h48 hs k (by omega)
    obtain ⟨t1, t2, t3, t4⟩ := th_ok (ct := ct) (hd := hd) i1 i4
    obtain ⟨o1, o2, o3⟩ := lv_ok (cs := cs) (x := max 0 (thF n M rm ct hd (chN n M ns rm cs ct hd nw s k).1 (chN n M ns rm cs ct hd nw s k).2.1).2.2) t1 (by rw [t2 48 (by omega)]; exact i2) (by rw [t2 0 (by omega)]; omega)
    refine ⟨o1, o2, ?_, t3, ?_, ?_⟩
    · refine Eq.trans o3 ?_
      rw [t2 0 (by omega)]; omega
    · show 0 ≤ if (thF n M rm ct hd (chN n M ns rm cs ct hd nw s k).1 (chN n M ns rm cs ct hd nw s k).2.1).2.2 < 0 then _ else _
      split <;> omega
    · show (if (thF n M rm ct hd (chN n M ns rm cs ct hd nw s k).1 (chN n M ns rm cs ct hd nw s k).2.1).2.2 < 0 then _ else _) ≤ _
      split <;> omega
theorem l_chanceC {N : Nat} (G : GS n M ns rm nw) (h48 : 0 ≤ nw 48 ∧ nw 48 ≤ 40) (hs : 0 ≤ s ∧ s < 2147483648) (hN : nw 0 + N ≤ 999) (h : ∀ φ' α', SN 29 φ' α' n M ns rm cs (chN n M ns rm cs ct hd nw s N).1 → fl φ0 α0 φ' α' → φ' 10 15 0 = (chN n M ns rm cs ct hd nw s N).2.1 → Q (chN n M ns rm cs ct hd nw s N).2.2 φ' α') : ∀ (r k : Nat), k + r = N → ∀ (φ : aF) (α : aA), SN 29 φ α n M ns rm cs (chN n M ns rm cs ct hd nw s k).1 → XE φ α n M ns rm cs → SH φ α ct → φ 2 5 9 = hd → fl φ0 α0 φ α → φ 10 15 0 = (chN n M ns rm cs ct hd nw s k).2.1 → jX10_chance_32 (d + 6) (N : Int) (chN n M ns rm cs ct hd nw s k).2.2 k φ α Q
  | 0, k, hk, φ, α, S, E, S2, h5, f, z => by
    have e : k = N := by omega
    subst e
    exact vX10_chance_32 ⟨fun _ => h φ α S f z, fun q => by omega⟩
  | r + 1, k, hk, φ, α, S, E, S2, h5, f, z => by
    obtain ⟨i1, i2, i3, i4, i5, i6⟩ := chN_ok (cs := cs) (ct := ct) (hd := hd) G h48 hs k (by omega)
    have g0 := G.1
    obtain ⟨t1, t2, t3, t4⟩ := th_ok (ct := ct) (hd := hd) i1 i4
    refine vX10_chance_32 ⟨fun q => by omega, fun _ => c_tryHands S E S2 z h5 i4 (fun φ1 α1 S1 f1 z1 => ?_)⟩
    have E1 : XE φ1 α1 n M ns rm cs := XE_of (fun f o => f1.1 _ _ _ (by omega) (by omega)) (f1.1 _ _ _ (by omega) (by omega)) (f1.2 _ (by omega) (by omega) (by omega)) (f1.2 _ (by omega) (by omega) (by omega)) E
    have go : ∀ w, w = (chN n M ns rm cs ct hd nw s (k + 1)).2.2 → eX10_liveDay (d + 5) (max 0 (thF n M rm ct hd (chN n M ns rm cs ct hd nw s k).1 (chN n M ns rm cs ct hd nw s k).2.1).2.2) φ1 α1 (fun r5 φ5 α5 => inR ((k : Int) + 1) ∧ jX10_chance_32 (d + 6) (N : Int) w ((k : Int) + 1) φ5 α5 Q) := by
      intro w hw
      subst hw
      refine c_liveDay S1 E1 (by rw [t2 0 (by omega)]; omega) (by omega) (fun φ2 α2 S3 E2 f2 z2 => ⟨by unfold inR; omega, ?_⟩)
      have := l_chanceC G h48 hs hN h r (k + 1) (by omega) φ2 α2 S3 E2 (SH_of ((f2.1 _ _ _ (by omega) (by omega)).trans (f1.1 _ _ _ (by omega) (by omega))) ((f2.2 _ (by omega) (by omega) (by omega)).trans (f1.2 _ (by omega) (by omega) (by omega))) (fun a _ _ => (f2.2 _ (by omega) (by omega) (by omega)).trans (f1.2 _ (by omega) (by omega) (by omega))) S2) (((f2.1 _ _ _ (by omega) (by omega)).trans (f1.1 _ _ _ (by omega) (by omega))).trans h5) ((f.tr f1).tr f2) (z2.trans z1)
      rw [show ((k + 1 : Nat) : Int) = (k : Int) + 1 by omega] at this
      exact this
    have cs' : (chN n M ns rm cs ct hd nw s (k + 1)).2.2 = if (thF n M rm ct hd (chN n M ns rm cs ct hd nw s k).1 (chN n M ns rm cs ct hd nw s k).2.1).2.2 < 0 then (chN n M ns rm cs ct hd nw s k).2.2 else (chN n M ns rm cs ct hd nw s k).2.2 + 1 := rfl
    refine ⟨fun q => c_max (go _ ?_), fun q => ⟨by unfold inR; omega, c_max (go _ ?_)⟩⟩
    · rw [cs', if_pos q]
    · rw [cs', if_neg q]
theorem l_chanceM {N : Nat} {B : Int} (hB : 3000 ≤ B) (hrm : ∀ c : Int, 0 ≤ c → c < n → 0 ≤ rm c) (G : GS n M ns rm nw) (h48 : 0 ≤ nw 48 ∧ nw 48 ≤ 40) (hs : 0 ≤ s ∧ s < 2147483648) (hN : nw 0 + N ≤ 999) (h : ∀ φ' α', fn φ0 α0 φ' α' → α' 233 = (chN n M ns rm cs ct hd nw s N).1 → 0 ≤ φ' 11 53 198 ∧ φ' 11 53 198 ≤ B → φ' 11 62 198 = (chN n M ns rm cs ct hd nw s N).2.1 → Q (chN n M ns rm cs ct hd nw s N).2.2 φ' α') : ∀ (r k : Nat), k + r = N → ∀ (φ : aF) (α : aA), fn φ0 α0 φ α → ME α n M ns rm cs → SH φ α ct → α 225 3 = hd → φ 11 52 198 = 0 → α 233 = (chN n M ns rm cs ct hd nw s k).1 → 0 ≤ φ 11 53 198 ∧ φ 11 53 198 ≤ B → φ 11 62 198 = (chN n M ns rm cs ct hd nw s k).2.1 → jX11_chance_25 (d + 7) (N : Int) (chN n M ns rm cs ct hd nw s k).2.2 k φ α Q
  | 0, k, hk, φ, α, f, E, S2, h3, ht, e, v, z => by
    have q : k = N := by omega
    subst q
    exact vX11_chance_25 ⟨fun _ => h φ α f e v z, fun q => by omega⟩
  | r + 1, k, hk, φ, α, f, E, S2, h3, ht, e, v, z => by
    obtain ⟨i1, i2, i3, i4, i5, i6⟩ := chN_ok (cs := cs) (ct := ct) (hd := hd) G h48 hs k (by omega)
    have hn := G.2.2.2.2.2.2
    have g0 := G.1
    obtain ⟨t1, t2, t3, t4⟩ := th_ok (ct := ct) (hd := hd) i1 i4
    have b1 := sdF_bd i4
    have b2 := sdF_bd b1
    have b3 := sdF_bd b2
    have cs' : (chN n M ns rm cs ct hd nw s (k + 1)).2.2 = if (thF n M rm ct hd (chN n M ns rm cs ct hd nw s k).1 (chN n M ns rm cs ct hd nw s k).2.1).2.2 < 0 then (chN n M ns rm cs ct hd nw s k).2.2 else (chN n M ns rm cs ct hd nw s k).2.2 + 1 := rfl
    have day : ∀ φ' α' w, fn φ α φ' α' → α' 233 = (thF n M rm ct hd (chN n M ns rm cs ct hd nw s k).1 (chN n M ns rm cs ct hd nw s k).2.1).1 → φ' 11 62 198 = (thF n M rm ct hd (chN n M ns rm cs ct hd nw s k).1 (chN n M ns rm cs ct hd nw s k).2.1).2.1 → φ' 11 53 198 = max 0 (thF n M rm ct hd (chN n M ns rm cs ct hd nw s k).1 (chN n M ns rm cs ct hd nw s k).2.1).2.2 → w = (chN n M ns rm cs ct hd nw s (k + 1)).2.2 → eX11_dayGoes (d + 6) (φ' 11 53 198) φ' α' (fun r4 φ4 α4 => inR ((k : Int) + 1) ∧ jX11_chance_25 (d + 7) (N : Int) w ((k : Int) + 1) φ4 α4 Q) := by
      intro φ' α' w f' e' z' v' hw
      subst hw
      have mv := dayF_mv (cs := cs) t1
      refine r_dayLivedX (by omega) (ME_of (fun a _ _ => f'.2 a (by omega) (by omega)) E) (by rw [e']; exact t1) (by omega) (by rw [e', t2 48 (by omega)]; exact i2) ((f'.1 _ _ _ (by omega)).trans ht) (fun φ1 α1 f1 e1 v1 => ⟨by unfold inR; omega, ?_⟩)
      rw [e'] at v1
      have := l_chanceM hB hrm G h48 hs hN h r (k + 1) (by omega) φ1 α1 ((f.tr f').tr (fn_m f1)) (ME_fm f1 (ME_of (fun a _ _ => f'.2 a (by omega) (by omega)) E)) (SH_of ((f1.1 _ _ _ (by omega)).trans (f'.1 _ _ _ (by omega))) ((f1.2 _ (by omega) (by omega)).trans (f'.2 _ (by omega) (by omega))) (fun a _ _ => (f1.2 _ (by omega) (by omega)).trans (f'.2 _ (by omega) (by omega))) S2) (by rw [f1.2 225 (by omega) (by omega), f'.2 225 (by omega) (by omega)]; exact h3) ((f1.1 _ _ _ (by omega)).trans ((f'.1 _ _ _ (by omega)).trans ht)) (by rw [e1, e', v']; rfl) (by omega) ((f1.1 _ _ _ (by omega)).trans z')
      rw [show ((k + 1 : Nat) : Int) = (k : Int) + 1 by omega] at this
      exact this
    refine vX11_chance_25 ⟨fun q => by omega, fun _ => r_drawOf ((upf_o (by omega)).trans z) i4 (by omega) ?_⟩
    have fp1 : fn φ α (upf (upf φ 11 53 198 0) 11 62 198 (sdF (chN n M ns rm cs ct hd nw s k).2.1)) α := ⟨fun c f o q => by rw [upf_o (by omega), upf_o (by omega)], fun _ _ _ => rfl⟩
    have stop : thF n M rm ct hd (chN n M ns rm cs ct hd nw s k).1 (chN n M ns rm cs ct hd nw s k).2.1 = ((chN n M ns rm cs ct hd nw s k).1, sdF (chN n M ns rm cs ct hd nw s k).2.1, -1) → eX11_dayGoes (d + 6) ((upf (upf φ 11 53 198 0) 11 62 198 (sdF (chN n M ns rm cs ct hd nw s k).2.1)) 11 53 198) (upf (upf φ 11 53 198 0) 11 62 198 (sdF (chN n M ns rm cs ct hd nw s k).2.1)) α (fun r4 φ4 α4 => inR ((k : Int) + 1) ∧ jX11_chance_25 (d + 7) (N : Int) (chN n M ns rm cs ct hd nw s k).2.2 ((k : Int) + 1) φ4 α4 Q) := fun et => by
      rw [et] at day cs'
      exact day _ _ _ fp1 e upf_s (by rw [upf_o (by omega), upf_s]; dsimp only; omega) (by rw [cs']; rfl)
    rw [h3]
    refine ⟨fun q => stop (by unfold thF; rw [if_pos (Or.inl q)]), fun q => r_cMany E.1.2.1 ⟨fun q2 => stop (by unfold thF; rw [if_pos (Or.inr (by omega))]), fun q2 => r_cMany E.1.2.1 (r_drawOf upf_s b1 (by omega) (r_cMany E.1.2.1 ⟨by unfold inR; omega, r_drawOf upf_s b2 (by omega) ?_⟩))⟩⟩
    have et : thF n M rm ct hd (chN n M ns rm cs ct hd nw s k).1 (chN n M ns rm cs ct hd nw s k).2.1 = if tvF n M rm ct (chN n M ns rm cs ct hd nw s k).1 (sdF (sdF (chN n M ns rm cs ct hd nw s k).2.1) / 64 % n) (tkr (sdF (sdF (chN n M ns rm cs ct hd nw s k).2.1) / 64 % n) (sdF (sdF (sdF (chN n M ns rm cs ct hd nw s k).2.1)) / 64 % (n - 1))) = 0 then ((chN n M ns rm cs ct hd nw s k).1, sdF (sdF (sdF (chN n M ns rm cs ct hd nw s k).2.1)), -1) else ((dmF (hfF rm) (sdF (sdF (chN n M ns rm cs ct hd nw s k).2.1) / 64 % n) (tkr (sdF (sdF (chN n M ns rm cs ct hd nw s k).2.1) / 64 % n) (sdF (sdF (sdF (chN n M ns rm cs ct hd nw s k).2.1)) / 64 % (n - 1))) ((chN n M ns rm cs ct hd nw s k).1, 0) M).1, sdF (sdF (sdF (chN n M ns rm cs ct hd nw s k).2.1)), (dmF (hfF rm) (sdF (sdF (chN n M ns rm cs ct hd nw s k).2.1) / 64 % n) (tkr (sdF (sdF (chN n M ns rm cs ct hd nw s k).2.1) / 64 % n) (sdF (sdF (sdF (chN n M ns rm cs ct hd nw s k).2.1)) / 64 % (n - 1))) ((chN n M ns rm cs ct hd nw s k).1, 0) M).2) := by
      unfold thF; rw [if_neg (by rintro (w | w) <;> omega)]
    have fp3 : fn φ α (upf (upf (upf (upf φ 11 53 198 0) 11 62 198 (sdF (chN n M ns rm cs ct hd nw s k).2.1)) 11 62 198 (sdF (sdF (chN n M ns rm cs ct hd nw s k).2.1))) 11 62 198 (sdF (sdF (sdF (chN n M ns rm cs ct hd nw s k).2.1)))) α := ⟨fun c f o q => by rw [upf_o (by omega), upf_o (by omega), upf_o (by omega), upf_o (by omega)], fun _ _ _ => rfl⟩
    have z3 : upf (upf (upf (upf φ 11 53 198 0) 11 62 198 (sdF (chN n M ns rm cs ct hd nw s k).2.1)) 11 62 198 (sdF (sdF (chN n M ns rm cs ct hd nw s k).2.1))) 11 62 198 (sdF (sdF (sdF (chN n M ns rm cs ct hd nw s k).2.1))) 11 62 198 = sdF (sdF (sdF (chN n M ns rm cs ct hd nw s k).2.1)) := upf_s
    have v3 : upf (upf (upf (upf φ 11 53 198 0) 11 62 198 (sdF (chN n M ns rm cs ct hd nw s k).2.1)) 11 62 198 (sdF (sdF (chN n M ns rm cs ct hd nw s k).2.1))) 11 62 198 (sdF (sdF (sdF (chN n M ns rm cs ct hd nw s k).2.1))) 11 53 198 = 0 := by rw [upf_o (by omega), upf_o (by omega), upf_o (by omega), upf_s]
    generalize upf (upf (upf (upf φ 11 53 198 0) 11 62 198 (sdF (chN n M ns rm cs ct hd nw s k).2.1)) 11 62 198 (sdF (sdF (chN n M ns rm cs ct hd nw s k).2.1))) 11 62 198 (sdF (sdF (sdF (chN n M ns rm cs ct hd nw s k).2.1))) = φ3 at fp3 z3 v3 ⊢
    have c1 : 0 ≤ sdF (sdF (chN n M ns rm cs ct hd nw s k).2.1) / 64 % (n : Int) ∧ sdF (sdF (chN n M ns rm cs ct hd nw s k).2.1) / 64 % (n : Int) < n := ⟨Int.emod_nonneg _ (by omega), Int.emod_lt_of_pos _ (by omega)⟩
    have c2 : 0 ≤ sdF (sdF (sdF (chN n M ns rm cs ct hd nw s k).2.1)) / 64 % ((n : Int) - 1) ∧ sdF (sdF (sdF (chN n M ns rm cs ct hd nw s k).2.1)) / 64 % ((n : Int) - 1) < (n : Int) - 1 := ⟨Int.emod_nonneg _ (by omega), Int.emod_lt_of_pos _ (by omega)⟩
    generalize sdF (sdF (chN n M ns rm cs ct hd nw s k).2.1) / 64 % (n : Int) = g at *
    generalize sdF (sdF (sdF (chN n M ns rm cs ct hd nw s k).2.1)) / 64 % ((n : Int) - 1) = t0 at *
    have go : ∀ t, t = tkr g t0 → eX11_canShake (d + 6) g t φ3 α (fun r16 φ16 α16 => ((r16 = 0 → (eX11_dayGoes (d + 6) (φ16 11 53 198) φ16 α16 (fun r18 φ18 α18 => inR ((k : Int) + 1) ∧ (jX11_chance_25 (d + 7) (N : Int) (chN n M ns rm cs ct hd nw s k).2.2 ((k : Int) + 1) φ18 α18 Q)))) ∧ (¬ (r16 = 0) → (eX11_shake (d + 6) g t φ16 α16 (fun r20 φ20 α20 => inR ((chN n M ns rm cs ct hd nw s k).2.2 + 1) ∧ (eX11_dayGoes (d + 6) (φ20 11 53 198) φ20 α20 (fun r22 φ22 α22 => inR ((k : Int) + 1) ∧ (jX11_chance_25 (d + 7) (N : Int) ((chN n M ns rm cs ct hd nw s k).2.2 + 1) ((k : Int) + 1) φ22 α22 Q)))))))) := by
      intro t ht'
      have c3 : 0 ≤ t ∧ t < n ∧ g ≠ t := by
        subst ht'
        unfold tkr
        split <;> omega
      rw [← ht'] at et
      refine r_canShake (SH_of (fp3.1 _ _ _ (by omega)) rfl (fun _ _ _ => rfl) S2) E.1 (by rw [e]; exact i1) hrm c1 ⟨c3.1, c3.2.1⟩ (fun φ4 α4 w f4 a4 v4 hw => ?_)
      rw [e] at hw a4
      rcases hw with ⟨rfl, hw⟩ | ⟨rfl, hw⟩
      · rw [if_pos hw] at et
        rw [et] at day cs'
        refine ⟨fun _ => day _ _ _ (fp3.tr (fn_m f4)) a4 ((f4.1 _ _ _ (by omega)).trans z3) (by rw [v4, v3]; dsimp only; omega) (by rw [cs']; rfl), fun q => absurd rfl q⟩
      · rw [if_neg hw] at et
        rw [et] at day cs'
        obtain ⟨j1, j2, j3⟩ := dmh_inv i1 c1 ⟨c3.1, c3.2.1⟩ c3.2.2 M (Nat.le_refl M)
        refine ⟨fun q => by omega, fun _ => vX11_shake_0 ?_⟩
        have := l_shakeM (d := d + 2) (φ0 := φ4) (α0 := α4) (nw := (chN n M ns rm cs ct hd nw s k).1) (Q := fun r20 φ20 α20 => inR ((chN n M ns rm cs ct hd nw s k).2.2 + 1) ∧ (eX11_dayGoes (d + 6) (φ20 11 53 198) φ20 α20 (fun r22 φ22 α22 => inR ((k : Int) + 1) ∧ (jX11_chance_25 (d + 7) (N : Int) ((chN n M ns rm cs ct hd nw s k).2.2 + 1) ((k : Int) + 1) φ22 α22 Q)))) i1 hrm c1 ⟨c3.1, c3.2.1⟩ c3.2.2 (fun φ5 α5 f5 a5 v5 => ⟨by unfold inR; omega, day _ _ _ ((fp3.tr (fn_m f4)).tr (fn_m f5)) a5 ((f5.1 _ _ _ (by omega)).trans ((f4.1 _ _ _ (by omega)).trans z3)) (by rw [v5]; dsimp only; omega) (by rw [cs']; dsimp only; rw [if_neg (by omega)])⟩) M 0 (by omega) φ4 α4 fm.rf (MO_a (fun a _ _ => f4.2 a (by omega) (by omega)) E.1) a4 (by rw [v4, v3]; rfl)
        exact this
    refine ⟨fun q3 => go _ (by unfold tkr; rw [if_pos q3]), fun q3 => ⟨by unfold inR; omega, go _ (by unfold tkr; rw [if_neg q3])⟩⟩
theorem p_chance (hj : j < 512) (I : Inv sr j φ α) : eX10_chance (d + 20) x φ α (fun r φ1 α1 => eX11_chance (d + 20) x φ1 α1 (pq sr j r)) := by
  obtain ⟨n, M, ns, rm, cs, ct, I⟩ := I
  have hn := I.G.2.2.2.2.2.2
  have P := I.p2
  have g0 := I.G.1
  have o01 : φ 11 46 198 = 0 ∨ φ 11 46 198 = 1 := by have := I.op01; omega
  refine vX10_chance_0 (c_canPass I (by omega) (by omega) ?_)
  by_cases e : φ 11 46 198 = 1 ∧ (1 ≤ x ∧ x ≤ 100) ∧ α 233 0 + x ≤ 999
  · rw [if_pos e]
    obtain ⟨op, E, ME0, SH0⟩ := I.open_ (by omega)
    obtain ⟨N, rfl⟩ : ∃ N : Nat, x = N := ⟨x.toNat, by omega⟩
    have h48 : 0 ≤ α 233 48 ∧ α 233 48 ≤ 40 := ⟨I.K.2.2.2.1, I.K.2.2.2.2.1⟩
    have hh := I.O.2.2.2.1
    obtain ⟨dd1, dd2, dd3⟩ := I.2.2.2.2.1
    have ov := I.2.2.2.2.2.1.2
    refine ⟨fun _ => c_keep P.1 P.2.1 I.N (fun φ1 α1 A1 S1 z1 => ?_), fun q => by omega⟩
    have E1 : XE φ1 α1 n M ns rm cs := XE_of (fun f o => A1.1 _ _ _ (by omega) (by omega) (by omega)) (A1.1 _ _ _ (by omega) (by omega) (by omega)) (A1.2.1 _ (by omega) (by omega) (by omega) (by omega)) (A1.2.1 _ (by omega) (by omega) (by omega) (by omega)) E
    have H1 : SH φ1 α1 ct := SH_of (A1.1 _ _ _ (by omega) (by omega) (by omega)) (A1.2.1 _ (by omega) (by omega) (by omega) (by omega)) (fun a _ _ => A1.2.1 _ (by omega) (by omega) (by omega) (by omega)) SH0
    have := l_chanceC (d := d + 14) (φ0 := φ1) (α0 := α1) (N := N) (cs := cs) (ct := ct) (hd := α 225 3) (s := φ 11 62 198) (Q := fun r φ1 α1 => eX11_chance (d + 20) (N : Int) φ1 α1 (pq sr j r)) I.G h48 ⟨dd2, dd3⟩ (by omega) (fun φ2 α2 S2 f2 z2 => by
      have A2 := AC_l P.1 A1 f2
      obtain ⟨a233, O2, G2, m61, m60, m53, m62, m46, m52⟩ := Iv_A I A2
      refine vX11_chance_0 (r_isAheadX (by rw [a233]; exact g0) (by rw [m46]; exact o01) (by omega) (by omega) ?_)
      rw [m46, a233, if_pos e]
      refine ⟨fun _ => r_keeps (by omega) (by omega) (fun φ3 α3 K3 b3 v3 d3 => ?_), fun q => by omega⟩
      have := l_chanceM (d := d + 13) (B := 4000000 * (j : Int) + 3000) (φ0 := φ3) (α0 := α3) (N := N) (cs := cs) (ct := ct) (hd := α 225 3) (s := φ 11 62 198) (Q := pq sr j (chN n M ns rm cs ct (α 225 3) (α 233) (φ 11 62 198) N).2.2) (by omega) I.rm0 I.G h48 ⟨dd2, dd3⟩ (by omega) (fun φ4 α4 f4 a4 v4 d4 => by
        have K4 := RK_n K3 f4
        obtain ⟨i1, i2, i3, i4, i5, i6⟩ := chN_ok (cs := cs) (ct := ct) (hd := α 225 3) I.G h48 (s := φ 11 62 198) ⟨dd2, dd3⟩ N (by omega)
        refine ⟨rfl, act_close I A2 K4 (SN_RK K4 S2 a4) ⟨?_, ?_, ?_⟩ (by omega)⟩
        · rw [K4.1 _ _ _ (by omega), z2, d4]
        · rw [d4]; exact i4.1
        · rw [d4]; exact i4.2) N 0 (by omega) φ3 α3 fn.rf (ME_of (fun a _ _ => K3.2.1 a (by omega) (by omega) (by omega)) (ME_A I A2 ME0)) (SH_of ((K3.1 _ _ _ (by omega)).trans (A2.1 _ _ _ (by omega) (by omega) (by omega))) ((K3.2.1 _ (by omega) (by omega) (by omega)).trans (A2.2.1 _ (by omega) (by omega) (by omega) (by omega))) (fun a _ _ => (K3.2.1 _ (by omega) (by omega) (by omega)).trans (A2.2.1 _ (by omega) (by omega) (by omega) (by omega))) SH0) (by rw [K3.2.1 225 (by omega) (by omega) (by omega), A2.2.1 225 (by omega) (by omega) (by omega) (by omega)]) (by rw [K3.1 _ _ _ (by omega), m52]; exact I.2.2.2.2.2.1.1) (by rw [b3, a233]; rfl) (by rw [v3, m53]; omega) (by rw [d3, m62]; rfl)
      exact this) N 0 (by omega) φ1 α1 S1 E1 H1 ((A1.1 _ _ _ (by omega) (by omega) (by omega)).trans hh.1) fl.rf (z1.trans dd1)
    exact this
  · rw [if_neg e]
    refine ⟨fun q => absurd rfl q, fun _ => c_refuse hj I (by omega) (vX11_chance_0 (r_isAheadX (by rw [rf_o (by omega)]; exact g0) o01 (by omega) (by omega) ?_))⟩
    rw [rf_o (by omega), if_neg e]
    exact ⟨fun q => absurd rfl q, fun _ => r_refuses hj I (by omega)⟩
end CH
