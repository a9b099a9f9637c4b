/-! the registry: what its statements tell -/
abbrev dS : Type := (Nat × Nat) × (Int → Int) × (List Int × List Int)
abbrev xD : Type := Except (Int × Int) (Nat × Int × dS)
def bd {γ : Type} (x : xR) (k : Nat → Int → Int → Except (Int × Int) γ) : Except (Int × Int) γ := match x with
  | .error q => .error q
  | .ok (p, e, v) => k p e v
def bk (x : rR) (k : Nat → Int → List Int → xD) : xD := match x with
  | .error q => .error q
  | .ok (p, e, c) => k p e c
def bD {γ : Type} (x : xD) (k : Nat → Int → dS → Except (Int × Int) γ) : Except (Int × Int) γ := match x with
  | .error q => .error q
  | .ok (p, e, D) => k p e D
section BD
variable {γ : Type} {p : Nat} {e v : Int} {q : Int × Int}
theorem bd_ok {x : xR} {k : Nat → Int → Int → Except (Int × Int) γ} (h : x = .ok (p, e, v)) : bd x k = k p e v := by rw [h]; rfl
theorem bd_er {x : xR} {k : Nat → Int → Int → Except (Int × Int) γ} (h : x = .error q) : bd x k = .error q := by rw [h]; rfl
theorem bd_inv {x : xR} {k : Nat → Int → Int → Except (Int × Int) γ} {r : γ} (h : bd x k = .ok r) : ∃ p e v, x = .ok (p, e, v) ∧ k p e v = .ok r := by
  match x, h with
  | .ok (p, e, v), h => exact ⟨p, e, v, rfl, h⟩
theorem bk_ok {x : rR} {k : Nat → Int → List Int → xD} {c : List Int} (h : x = .ok (p, e, c)) : bk x k = k p e c := by rw [h]; rfl
theorem bk_er {x : rR} {k : Nat → Int → List Int → xD} (h : x = .error q) : bk x k = .error q := by rw [h]; rfl
theorem bk_inv {x : rR} {k : Nat → Int → List Int → xD} {r : Nat × Int × dS} (h : bk x k = .ok r) : ∃ p e c, x = .ok (p, e, c) ∧ k p e c = .ok r := by
  match x, h with
  | .ok (p, e, c), h => exact ⟨p, e, c, rfl, h⟩
theorem bD_ok {x : xD} {k : Nat → Int → dS → Except (Int × Int) γ} {D : dS} (h : x = .ok (p, e, D)) : bD x k = k p e D := by rw [h]; rfl
theorem bD_er {x : xD} {k : Nat → Int → dS → Except (Int × Int) γ} (h : x = .error q) : bD x k = .error q := by rw [h]; rfl
theorem bx_inv {x : xR} {k : Nat → Int → Int → xR} {r : Nat × Int × Int} (h : bx x k = .ok r) : ∃ p e v, x = .ok (p, e, v) ∧ k p e v = .ok r := by
  match x, h with
  | .ok (p, e, v), h => exact ⟨p, e, v, rfl, h⟩
end BD
abbrev nmF (G : Int → Int) : Int → Int := fun i => G (10 + i)
/-- M matters, n clerks; G: 0 seats, 3 hand, 4 leaks told, 5 shakes told, 10 .. names, 30 .. rooms, 40 .. seats, 50 .. drops, 80 .. full; two codes -/
def sSeat (T : Int → Int) (N M n : Nat) (G : Int → Int) (lc kc : List Int) (p : Nat) (e : Int) : xD := bd (rNum T N 2 9 (avF T N p) (edF T N p e)) fun p1 e1 v => .ok (p1, e1, ((M, n), un G 0 v, (lc, kc)))
def sHnd (T : Int → Int) (N M n : Nat) (G : Int → Int) (lc kc : List Int) (p : Nat) (e : Int) : xD := bd (rNum T N 0 100 (avF T N p) (edF T N p e)) fun p1 e1 v => .ok (p1, e1, ((M, n), un G 3 v, (lc, kc)))
def sMat (T : Int → Int) (N M n : Nat) (G : Int → Int) (lc kc : List Int) (p : Nat) (e : Int) : xD := if M < 4 then bd (rGiv T N (nmF G) (avF T N p) (edF T N p e)) (fun p1 e1 v => .ok (p1, e1, ((M + 1, n), un G (10 + (M : Int)) v, (lc, kc)))) else .error (5, (p : Int))
def sClk (T : Int → Int) (N M n : Nat) (G : Int → Int) (lc kc : List Int) (p : Nat) (e : Int) : xD := if n < 7 then bd (rGiv T N (nmF G) (avF T N p) (edF T N p e)) (fun p1 e1 v => bd (rWrd T N 3 p1 e1) fun p2 e2 _ => bd (rNum T N 0 (G 0 - 1) p2 e2) fun p3 e3 s => if fsF (fun k => G (40 + (k : Int)) = s) n 0 = -1 then bd (rWrd T N 4 p3 e3) (fun p4 e4 _ => bd (rNum T N 1 99 p4 e4) fun p5 e5 r => .ok (p5, e5, ((M, n + 1), un (un (un G (14 + (n : Int)) v) (40 + (n : Int)) s) (30 + (n : Int)) r, (lc, kc)))) else .error (2, (p2 : Int))) else .error (5, (p : Int))
def sTld (T : Int → Int) (N M n : Nat) (G : Int → Int) (lc kc : List Int) (p : Nat) (e : Int) : xD := bd (rFnd T N (nmF G) 4 n (avF T N p) (edF T N p e)) fun p1 e1 c => bd (rWrd T N 6 p1 e1) fun p2 e2 _ => bd (rFnd T N (nmF G) 0 M p2 e2) fun p3 e3 m => bd (rNum T N 0 (G (30 + c) - G (80 + c)) p3 e3) fun p4 e4 v => .ok (p4, e4, ((M, n), un (un G (50 + 4 * c + m) (G (50 + 4 * c + m) + v)) (80 + c) (G (80 + c) + v), (lc, kc)))
def sLk (T : Int → Int) (N f M n : Nat) (G : Int → Int) (lc kc : List Int) (p : Nat) (e : Int) : xD := if G 4 = 0 then bk (rd T N 7 f 3 0 (avF T N p) (edF T N p e)) (fun p1 e1 c => .ok (p1, e1, ((M, n), un G 4 1, (c, kc)))) else .error (5, (p : Int))
def sSh (T : Int → Int) (N f M n : Nat) (G : Int → Int) (lc kc : List Int) (p : Nat) (e : Int) : xD := if G 5 = 0 then bk (rd T N 8 f 0 0 (avF T N p) (edF T N p e)) (fun p1 e1 c => .ok (p1, e1, ((M, n), un G 5 1, (lc, c)))) else .error (5, (p : Int))
/-- statement k, but for the sign behind it -/
def stF (T : Int → Int) (N f k M n : Nat) (G : Int → Int) (lc kc : List Int) (p : Nat) (e : Int) : xD :=
  if 80 ≤ k then .error (5, (p : Int)) else if ¬ (kdF T N p = 1 ∧ e ≠ p) then .error (1, (p : Int))
  else if k = 0 then (if wdF T N p = 0 then sSeat T N M n G lc kc p e else .error (1, (p : Int)))
  else if wdF T N p = 1 then sMat T N M n G lc kc p e else if wdF T N p = 2 then sClk T N M n G lc kc p e
  else if wdF T N p = 5 then sTld T N M n G lc kc p e else if wdF T N p = 7 then sLk T N f M n G lc kc p e
  else if wdF T N p = 8 then sSh T N f M n G lc kc p e else if wdF T N p = 9 then sHnd T N M n G lc kc p e
  else .error (1, (p : Int))
def rgF (T : Int → Int) (N f : Nat) : Nat → Nat → dS → Nat → Int → Except (Int × Int) (Nat × dS)
  | 0, _, _, _, _ => .error (0, 0)
  | r + 1, k, D, p, e => if 0 < k ∧ kdF T N p = 0 then .ok (k, D) else bD (stF T N f k D.1.1 D.1.2 D.2.1 D.2.2.1 D.2.2.2 p e) fun p1 e1 D1 => bd (rSgn T N 59 p1 e1) fun p2 e2 _ => rgF T N f r (k + 1) D1 p2 e2
def G0 : Int → Int := fun i => if 40 ≤ i ∧ i ≤ 46 then -1 else 0
/-- what is told is as it can be -/
def DI (M n : Nat) (G : Int → Int) (lc kc : List Int) : Prop :=
  (M ≤ 4 ∧ n ≤ 7) ∧ ((0 ≤ G 0 ∧ G 0 ≤ 9) ∧ (0 ≤ G 3 ∧ G 3 ≤ 100)) ∧ (NZ (nmF G) M n ∧ ∀ k : Int, 0 ≤ k → k < 11 → 0 ≤ G (10 + k) ∧ G (10 + k) < 387420489) ∧ (∀ c : Nat, c < n → (1 ≤ G (30 + (c : Int)) ∧ G (30 + (c : Int)) ≤ 99) ∧ (0 ≤ G (40 + (c : Int)) ∧ G (40 + (c : Int)) < G 0) ∧ G (80 + (c : Int)) ≤ G (30 + (c : Int))) ∧ (∀ c c' : Nat, c < n → c' < n → G (40 + (c : Int)) = G (40 + (c' : Int)) → c = c') ∧ (∀ c m : Int, 0 ≤ c → c < 7 → 0 ≤ m → m < 4 → 0 ≤ G (50 + 4 * c + m) ∧ ((n : Int) ≤ c ∨ (M : Int) ≤ m → G (50 + 4 * c + m) = 0)) ∧ (∀ c : Int, 0 ≤ c → c < 7 → G (80 + c) = G (50 + 4 * c + 0) + G (50 + 4 * c + 1) + G (50 + 4 * c + 2) + G (50 + 4 * c + 3)) ∧ (lc.length ≤ 1600 ∧ tyL2 [] lc = some [false] ∧ (∀ x ∈ lc, okc 7 x) ∧ (G 4 = 0 ∧ lc = [13, 1004, 47] ∨ G 4 = 1)) ∧ (kc.length ≤ 1600 ∧ tyL2 [] kc = some [true] ∧ (∀ x ∈ kc, okc 8 x) ∧ (G 5 = 0 ∧ kc = [21] ∨ G 5 = 1))
section RP
variable {T : Int → Int} {N p f M n k p' many : Nat} {e lo hi w s v e' fr : Int} {G nm : Int → Int} {lc kc : List Int}
theorem rNum_ok (h : rNum T N lo hi p e = .ok (p', e', v)) : (lo ≤ v ∧ v ≤ hi) ∧ kdF T N p = 2 ∧ p' = avF T N p ∧ e' = edF T N p e := by
  unfold rNum at h
  split at h
  · rename_i q
    split at h
    · split at h
      · rename_i q2
        cases h
        exact ⟨q2, q.1, rfl, rfl⟩
      · cases h
    · cases h
  · cases h
theorem rWrd_ok (h : rWrd T N w p e = .ok (p', e', v)) : kdF T N p = 1 ∧ p' = avF T N p ∧ e' = edF T N p e := by
  unfold rWrd at h
  split at h
  · rename_i q
    cases h
    exact ⟨q.1, rfl, rfl⟩
  · cases h
theorem rSgn_ok (h : rSgn T N s p e = .ok (p', e', v)) : kdF T N p = 3 ∧ p' = avF T N p ∧ e' = edF T N p e := by
  unfold rSgn at h
  split at h
  · rename_i q
    cases h
    exact ⟨q.1, rfl, rfl⟩
  · cases h
theorem rNam_inv (h : rNam T N p e = .ok (p', e', v)) : okN T N p e ∧ nxF T N p - p ≤ 6 ∧ p' = avF T N p ∧ e' = edF T N p e ∧ v = vlF T N p := by
  unfold rNam at h
  split at h
  · rename_i q
    split at h
    · rename_i q2
      cases h
      exact ⟨q, q2, rfl, rfl, rfl⟩
    · cases h
  · cases h
theorem fs_nat {P : Nat → Prop} [DecidablePred P] : ∀ (r k : Nat), fsF P r k = -1 ∨ ∃ i : Nat, fsF P r k = (i : Int)
  | 0, k => Or.inl rfl
  | r + 1, k => by
    rw [fsF]
    split
    · exact Or.inr ⟨k, rfl⟩
    · exact fs_nat r (k + 1)
theorem vl_lt (hp : p ≤ N) (hk : kdF T N p = 1) : vlF T N p < 387420489 := by
  obtain ⟨a1, a2⟩ := nx_all (Or.inl hk)
  have b := vw_bd (T := T) (p := p) (m := min 6 (nxF T N p - p)) (fun i hi => by
    have k' := a1 (p + i) (by omega) (by omega)
    have b' := kdB_bd (T ((p + i : Nat) : Int))
    omega)
  have p4 : (27 : Nat) ^ (min 6 (nxF T N p - p)) ≤ 27 ^ 6 := Nat.pow_le_pow_right (by omega) (by omega)
  unfold vlF
  rw [if_pos hk]
  omega
theorem rGiv_ok (hp : p ≤ N) (h : rGiv T N nm p e = .ok (p', e', v)) : (0 < v ∧ v < 387420489) ∧ kdF T N p = 1 ∧ p' = avF T N p ∧ e' = edF T N p e := by
  obtain ⟨p1, e1, v1, h1, h2⟩ := bx_inv h
  obtain ⟨a1, a2, a3, a4, a5⟩ := rNam_inv h1
  split at h2
  · cases h2
    rw [a5]
    exact ⟨⟨vl_pos hp a1.1.1, vl_lt hp a1.1.1⟩, a1.1.1, a3, a4⟩
  · cases h2
theorem rFnd_ok (h : rFnd T N nm fr many p e = .ok (p', e', v)) : (∃ i : Nat, i < many ∧ v = (i : Int)) ∧ kdF T N p = 1 ∧ p' = avF T N p ∧ e' = edF T N p e := by
  obtain ⟨p1, e1, v1, h1, h2⟩ := bx_inv h
  obtain ⟨a1, a2, a3, a4, a5⟩ := rNam_inv h1
  split at h2
  · cases h2
  · rename_i q
    have fl := fs_nat (P := fun k => nm (fr + (k : Int)) = v1) many 0
    rcases fl with z | ⟨i, z⟩
    · exact absurd z q
    · cases h2
      have := fsF_p (P := fun k => nm (fr + (k : Int)) = v1) many 0 i z
      exact ⟨⟨i, by omega, z⟩, a1.1.1, a3, a4⟩
theorem adv (hp : p ≤ N) (he : e ≤ p) (hk : kdF T N p ≠ 0) (h1 : p' = avF T N p) (h2 : e' = edF T N p e) : p < p' ∧ p' ≤ N ∧ e' ≤ p' := by
  have a := av_bd (T := T) hp
  have ap := a.2.2 hk
  have b := ed_le (T := T) hp he
  rw [h1, h2]
  exact ⟨ap, a.2.1, b⟩
theorem DI_0 : DI 0 0 G0 [13, 1004, 47] [21] := by
  refine ⟨⟨by omega, by omega⟩, ⟨⟨by decide, by decide⟩, by decide, by decide⟩, ⟨⟨fun k _ q => ?_, fun k _ q => ?_⟩, fun k q1 q2 => ?_⟩, fun c q => by omega, fun c c' q => by omega, fun c m q1 q2 q3 q4 => ?_, fun c q1 q2 => ?_, ⟨by decide, by decide, fun x hx => ?_, Or.inl ⟨rfl, rfl⟩⟩, ⟨by decide, by decide, fun x hx => ?_, Or.inl ⟨rfl, rfl⟩⟩⟩
  · unfold nmF G0; rw [if_neg (by omega)]
  · unfold nmF G0; rw [if_neg (by omega)]
  · unfold G0; rw [if_neg (by omega)]; omega
  · unfold G0; rw [if_neg (by omega)]; exact ⟨by omega, fun _ => rfl⟩
  · unfold G0; rw [if_neg (by omega), if_neg (by omega), if_neg (by omega), if_neg (by omega), if_neg (by omega)]; rfl
  · simp only [List.mem_cons, List.not_mem_nil, or_false] at hx
    unfold okc
    omega
  · simp only [List.mem_cons, List.not_mem_nil, or_false] at hx
    unfold okc
    omega
theorem DI_seat (I : DI M 0 G lc kc) (h : 2 ≤ v ∧ v ≤ 9) : DI M 0 (un G 0 v) lc kc := by
  obtain ⟨i1, ⟨i2, i3⟩, ⟨i4, i5⟩, i6, i7, i8, i9, i10, i11⟩ := I
  refine ⟨i1, ⟨by rw [un_s]; omega, by rw [un_o (by omega)]; exact i3⟩, ⟨⟨fun k q1 q2 => ?_, fun k q1 q2 => ?_⟩, fun k q1 q2 => ?_⟩, fun c q => by omega, fun c c' q => by omega, fun c m q1 q2 q3 q4 => ?_, fun c q1 q2 => ?_, ?_, ?_⟩
  · unfold nmF; rw [un_o (by omega)]; exact i4.1 k q1 q2
  · unfold nmF; rw [un_o (by omega)]; exact i4.2 k q1 q2
  · rw [un_o (by omega)]; exact i5 k q1 q2
  · rw [un_o (by omega)]; exact i8 c m q1 q2 q3 q4
  · rw [un_o (by omega), un_o (by omega), un_o (by omega), un_o (by omega), un_o (by omega)]; exact i9 c q1 q2
  · rw [un_o (by omega)]; exact i10
  · rw [un_o (by omega)]; exact i11
theorem DI_hand (I : DI M n G lc kc) (h : 0 ≤ v ∧ v ≤ 100) : DI M n (un G 3 v) lc kc := by
  obtain ⟨i1, ⟨i2, i3⟩, ⟨i4, i5⟩, i6, i7, i8, i9, i10, i11⟩ := I
  refine ⟨i1, ⟨by rw [un_o (by omega)]; exact i2, by rw [un_s]; exact h⟩, ⟨⟨fun k q1 q2 => ?_, fun k q1 q2 => ?_⟩, fun k q1 q2 => ?_⟩, fun c q => ?_, fun c c' q1 q2 => ?_, fun c m q1 q2 q3 q4 => ?_, fun c q1 q2 => ?_, ?_, ?_⟩
  · unfold nmF; rw [un_o (by omega)]; exact i4.1 k q1 q2
  · unfold nmF; rw [un_o (by omega)]; exact i4.2 k q1 q2
  · rw [un_o (by omega)]; exact i5 k q1 q2
  · rw [un_o (by omega), un_o (by omega), un_o (by omega), un_o (by omega)]; exact i6 c q
  · rw [un_o (by omega), un_o (by omega)]; exact i7 c c' q1 q2
  · rw [un_o (by omega)]; exact i8 c m q1 q2 q3 q4
  · rw [un_o (by omega), un_o (by omega), un_o (by omega), un_o (by omega), un_o (by omega)]; exact i9 c q1 q2
  · rw [un_o (by omega)]; exact i10
  · rw [un_o (by omega)]; exact i11
theorem DI_mat (I : DI M n G lc kc) (hM : M < 4) (h : 0 < v ∧ v < 387420489) : DI (M + 1) n (un G (10 + (M : Int)) v) lc kc := by
  obtain ⟨i1, ⟨i2, i3⟩, ⟨i4, i5⟩, i6, i7, i8, i9, i10, i11⟩ := I
  refine ⟨⟨by omega, i1.2⟩, ⟨by rw [un_o (by omega)]; exact i2, by rw [un_o (by omega)]; exact i3⟩, ⟨⟨fun k q1 q2 => ?_, fun k q1 q2 => ?_⟩, fun k q1 q2 => ?_⟩, fun c q => ?_, fun c c' q1 q2 => ?_, fun c m q1 q2 q3 q4 => ?_, fun c q1 q2 => ?_, ?_, ?_⟩
  · unfold nmF; rw [un_o (by omega)]; exact i4.1 k (by omega) q2
  · unfold nmF; rw [un_o (by omega)]; exact i4.2 k q1 q2
  · by_cases z : k = M
    · rw [z, un_s]; omega
    · rw [un_o (by omega)]; exact i5 k q1 q2
  · rw [un_o (by omega), un_o (by omega), un_o (by omega), un_o (by omega)]; exact i6 c q
  · rw [un_o (by omega), un_o (by omega)]; exact i7 c c' q1 q2
  · rw [un_o (by omega)]; exact ⟨(i8 c m q1 q2 q3 q4).1, fun z => (i8 c m q1 q2 q3 q4).2 (by omega)⟩
  · rw [un_o (by omega), un_o (by omega), un_o (by omega), un_o (by omega), un_o (by omega)]; exact i9 c q1 q2
  · rw [un_o (by omega)]; exact i10
  · rw [un_o (by omega)]; exact i11
theorem un3_o {a b c x y z j : Int} (h1 : j ≠ a) (h2 : j ≠ b) (h3 : j ≠ c) : un (un (un G a x) b y) c z j = G j := by rw [un_o h3, un_o h2, un_o h1]
theorem DI_clk {r : Int} (I : DI M n G lc kc) (hn : n < 7) (h : 0 < v ∧ v < 387420489) (hs : 0 ≤ s ∧ s ≤ G 0 - 1) (hf : fsF (fun k => G (40 + (k : Int)) = s) n 0 = -1) (hr : 1 ≤ r ∧ r ≤ 99) : DI M (n + 1) (un (un (un G (14 + (n : Int)) v) (40 + (n : Int)) s) (30 + (n : Int)) r) lc kc := by
  have fn := (fs_none (P := fun k => G (40 + (k : Int)) = s) n 0).mp hf
  obtain ⟨i1, ⟨i2, i3⟩, ⟨i4, i5⟩, i6, i7, i8, i9, i10, i11⟩ := I
  have s40 : un (un (un G (14 + (n : Int)) v) (40 + (n : Int)) s) (30 + (n : Int)) r (40 + (n : Int)) = s := by rw [un_o (by omega), un_s]
  refine ⟨⟨i1.1, by omega⟩, ⟨by rw [un3_o (by omega) (by omega) (by omega)]; exact i2, by rw [un3_o (by omega) (by omega) (by omega)]; exact i3⟩, ⟨⟨fun k q1 q2 => ?_, fun k q1 q2 => ?_⟩, fun k q1 q2 => ?_⟩, fun c q => ?_, fun c c' q1 q2 => ?_, fun c m q1 q2 q3 q4 => ?_, fun c q1 q2 => ?_, ?_, ?_⟩
  · unfold nmF; rw [un3_o (by omega) (by omega) (by omega)]; exact i4.1 k q1 q2
  · unfold nmF; rw [un3_o (by omega) (by omega) (by omega)]; exact i4.2 k (by omega) q2
  · by_cases z : k = 4 + n
    · rw [show 10 + k = 14 + (n : Int) by omega, un_o (by omega), un_o (by omega), un_s]; omega
    · rw [un3_o (by omega) (by omega) (by omega)]; exact i5 k q1 q2
  · rw [un3_o (j := 80 + (c : Int)) (by omega) (by omega) (by omega), un3_o (j := 0) (by omega) (by omega) (by omega)]
    by_cases z : c = n
    · have d0 := i8 n 0 (by omega) (by omega) (by omega) (by omega)
      have d1 := i8 n 1 (by omega) (by omega) (by omega) (by omega)
      have d2 := i8 n 2 (by omega) (by omega) (by omega) (by omega)
      have d3 := i8 n 3 (by omega) (by omega) (by omega) (by omega)
      have fl := i9 n (by omega) (by omega)
      rw [d0.2 (by omega), d1.2 (by omega), d2.2 (by omega), d3.2 (by omega)] at fl
      rw [z, un_s, s40, fl]
      omega
    · rw [un3_o (by omega) (by omega) (by omega), un3_o (by omega) (by omega) (by omega)]
      exact i6 c (by omega)
  · by_cases z : c = n
    · by_cases z' : c' = n
      · intro _; omega
      · rw [z, s40, un3_o (by omega) (by omega) (by omega)]
        intro w
        exact absurd w.symm (fn c' (by omega) (by omega))
    · by_cases z' : c' = n
      · rw [z', s40, un3_o (by omega) (by omega) (by omega)]
        intro w
        exact absurd w (fn c (by omega) (by omega))
      · rw [un3_o (by omega) (by omega) (by omega), un3_o (by omega) (by omega) (by omega)]
        exact i7 c c' (by omega) (by omega)
  · rw [un3_o (by omega) (by omega) (by omega)]; exact ⟨(i8 c m q1 q2 q3 q4).1, fun z => (i8 c m q1 q2 q3 q4).2 (by omega)⟩
  · rw [un3_o (by omega) (by omega) (by omega), un3_o (by omega) (by omega) (by omega), un3_o (by omega) (by omega) (by omega), un3_o (by omega) (by omega) (by omega), un3_o (by omega) (by omega) (by omega)]; exact i9 c q1 q2
  · rw [un3_o (by omega) (by omega) (by omega)]; exact i10
  · rw [un3_o (by omega) (by omega) (by omega)]; exact i11
theorem un2_o {a b x y j : Int} (h1 : j ≠ a) (h2 : j ≠ b) : un (un G a x) b y j = G j := by rw [un_o h2, un_o h1]
theorem DI_tld {c m : Nat} (I : DI M n G lc kc) (hc : c < n) (hm : m < M) (h : 0 ≤ v ∧ v ≤ G (30 + (c : Int)) - G (80 + (c : Int))) : DI M n (un (un G (50 + 4 * (c : Int) + (m : Int)) (G (50 + 4 * (c : Int) + (m : Int)) + v)) (80 + (c : Int)) (G (80 + (c : Int)) + v)) lc kc := by
  obtain ⟨i1, ⟨i2, i3⟩, ⟨i4, i5⟩, i6, i7, i8, i9, i10, i11⟩ := I
  refine ⟨i1, ⟨by rw [un2_o (by omega) (by omega)]; exact i2, by rw [un2_o (by omega) (by omega)]; exact i3⟩, ⟨⟨fun k q1 q2 => ?_, fun k q1 q2 => ?_⟩, fun k q1 q2 => ?_⟩, fun x q => ?_, fun x x' q1 q2 => ?_, fun x y q1 q2 q3 q4 => ?_, fun x q1 q2 => ?_, ?_, ?_⟩
  · unfold nmF; rw [un2_o (by omega) (by omega)]; exact i4.1 k q1 q2
  · unfold nmF; rw [un2_o (by omega) (by omega)]; exact i4.2 k q1 q2
  · rw [un2_o (by omega) (by omega)]; exact i5 k q1 q2
  · rw [un2_o (j := 30 + (x : Int)) (by omega) (by omega), un2_o (j := 40 + (x : Int)) (by omega) (by omega), un2_o (j := 0) (by omega) (by omega)]
    have := i6 x q
    by_cases z : x = c
    · rw [z] at this ⊢
      rw [un_s]
      omega
    · rw [un2_o (by omega) (by omega)]; exact this
  · rw [un2_o (by omega) (by omega), un2_o (by omega) (by omega)]; exact i7 x x' q1 q2
  · have := i8 x y q1 q2 q3 q4
    by_cases z : x = c ∧ y = m
    · rw [z.1, z.2] at this ⊢
      rw [un_o (by omega), un_s]
      exact ⟨by omega, fun w => by omega⟩
    · rw [un2_o (by omega) (by omega)]; exact this
  · have := i9 x q1 q2
    by_cases z : x = c
    · rw [z] at this ⊢
      rw [un_s, this]
      rcases (show m = 0 ∨ m = 1 ∨ m = 2 ∨ m = 3 by omega) with rfl | rfl | rfl | rfl
      · rw [un_o (by omega), show (50 + 4 * (c : Int) + 0) = 50 + 4 * (c : Int) + ((0 : Nat) : Int) by omega, un_s, un2_o (by omega) (by omega), un2_o (by omega) (by omega), un2_o (by omega) (by omega)]; omega
      · rw [un2_o (by omega) (by omega), un_o (j := 50 + 4 * (c : Int) + 1) (by omega), show (50 + 4 * (c : Int) + 1) = 50 + 4 * (c : Int) + ((1 : Nat) : Int) by omega, un_s, un2_o (by omega) (by omega), un2_o (by omega) (by omega)]; omega
      · rw [un2_o (by omega) (by omega), un2_o (by omega) (by omega), un_o (j := 50 + 4 * (c : Int) + 2) (by omega), show (50 + 4 * (c : Int) + 2) = 50 + 4 * (c : Int) + ((2 : Nat) : Int) by omega, un_s, un2_o (by omega) (by omega)]; omega
      · rw [un2_o (by omega) (by omega), un2_o (by omega) (by omega), un2_o (by omega) (by omega), un_o (j := 50 + 4 * (c : Int) + 3) (by omega), show (50 + 4 * (c : Int) + 3) = 50 + 4 * (c : Int) + ((3 : Nat) : Int) by omega, un_s]; omega
    · rw [un2_o (by omega) (by omega), un2_o (by omega) (by omega), un2_o (by omega) (by omega), un2_o (by omega) (by omega), un2_o (by omega) (by omega)]; exact this
  · rw [un2_o (by omega) (by omega)]; exact i10
  · rw [un2_o (by omega) (by omega)]; exact i11
theorem DI_lk {c : List Int} (I : DI M n G lc kc) (hN : N ≤ 1600) (hp : p ≤ N) (he : e ≤ p) (h : rd T N 7 f 3 0 p e = .ok (p', e', c)) : DI M n (un G 4 1) c kc := by
  obtain ⟨i1, ⟨i2, i3⟩, ⟨i4, i5⟩, i6, i7, i8, i9, i10, i11⟩ := I
  have pg := rd_PG f 3 0 p e _ he hp h
  have g1 := pg.1
  have g2 := pg.2.2.1
  dsimp only at g1 g2
  have ty := sum_ty hp he h
  refine ⟨i1, ⟨by rw [un_o (by omega)]; exact i2, by rw [un_o (by omega)]; exact i3⟩, ⟨⟨fun k q1 q2 => ?_, fun k q1 q2 => ?_⟩, fun k q1 q2 => ?_⟩, fun c q => ?_, fun c c' q1 q2 => ?_, fun c m q1 q2 q3 q4 => ?_, fun c q1 q2 => ?_, ⟨by omega, ty.1, ty.2, Or.inr un_s⟩, ?_⟩
  · unfold nmF; rw [un_o (by omega)]; exact i4.1 k q1 q2
  · unfold nmF; rw [un_o (by omega)]; exact i4.2 k q1 q2
  · rw [un_o (by omega)]; exact i5 k q1 q2
  · rw [un_o (by omega), un_o (by omega), un_o (by omega), un_o (by omega)]; exact i6 c q
  · rw [un_o (by omega), un_o (by omega)]; exact i7 c c' q1 q2
  · rw [un_o (by omega)]; exact i8 c m q1 q2 q3 q4
  · rw [un_o (by omega), un_o (by omega), un_o (by omega), un_o (by omega), un_o (by omega)]; exact i9 c q1 q2
  · rw [un_o (by omega)]; exact i11
theorem DI_sh {c : List Int} (I : DI M n G lc kc) (hN : N ≤ 1600) (hp : p ≤ N) (he : e ≤ p) (h : rd T N 8 f 0 0 p e = .ok (p', e', c)) : DI M n (un G 5 1) lc c := by
  obtain ⟨i1, ⟨i2, i3⟩, ⟨i4, i5⟩, i6, i7, i8, i9, i10, i11⟩ := I
  have pg := rd_PG f 0 0 p e _ he hp h
  have g1 := pg.1
  have g2 := pg.2.2.1
  dsimp only at g1 g2
  have ty := test_ty hp he h
  refine ⟨i1, ⟨by rw [un_o (by omega)]; exact i2, by rw [un_o (by omega)]; exact i3⟩, ⟨⟨fun k q1 q2 => ?_, fun k q1 q2 => ?_⟩, fun k q1 q2 => ?_⟩, fun c q => ?_, fun c c' q1 q2 => ?_, fun c m q1 q2 q3 q4 => ?_, fun c q1 q2 => ?_, ?_, ⟨by omega, ty.1, ty.2, Or.inr un_s⟩⟩
  · unfold nmF; rw [un_o (by omega)]; exact i4.1 k q1 q2
  · unfold nmF; rw [un_o (by omega)]; exact i4.2 k q1 q2
  · rw [un_o (by omega)]; exact i5 k q1 q2
  · rw [un_o (by omega), un_o (by omega), un_o (by omega), un_o (by omega)]; exact i6 c q
  · rw [un_o (by omega), un_o (by omega)]; exact i7 c c' q1 q2
  · rw [un_o (by omega)]; exact i8 c m q1 q2 q3 q4
  · rw [un_o (by omega), un_o (by omega), un_o (by omega), un_o (by omega), un_o (by omega)]; exact i9 c q1 q2
  · rw [un_o (by omega)]; exact i10
/-- a statement keeps it so -/
theorem stF_DI {M' n' : Nat} {G' : Int → Int} {lc' kc' : List Int} (I : DI M n G lc kc) (hN : N ≤ 1600) (hp : p ≤ N) (he : e ≤ p) (hk : k = 0 → n = 0) (h : stF T N f k M n G lc kc p e = .ok (p', e', ((M', n'), G', (lc', kc')))) : DI M' n' G' lc' kc' ∧ k < 80 := by
  unfold stF at h
  split at h
  · cases h
  rename_i k80
  refine ⟨?_, by omega⟩
  split at h
  · cases h
  rename_i kd
  have kd1 : kdF T N p = 1 := (Decidable.not_not.mp kd).1
  obtain ⟨a1, a2, a3⟩ := adv (T := T) hp he (by omega) rfl rfl
  split at h
  · rename_i k0
    have n0 := hk k0
    subst n0
    split at h
    · obtain ⟨p1, e1, v, h1, h2⟩ := bd_inv h
      cases h2
      exact DI_seat I (rNum_ok h1).1
    · cases h
  split at h
  · unfold sMat at h
    split at h
    · rename_i hM
      obtain ⟨p1, e1, v, h1, h2⟩ := bd_inv h
      cases h2
      exact DI_mat I hM (rGiv_ok a2 h1).1
    · cases h
  split at h
  · unfold sClk at h
    split at h
    · rename_i hn
      obtain ⟨p1, e1, v, h1, h2⟩ := bd_inv h
      obtain ⟨p2, e2, v2, h3, h4⟩ := bd_inv h2
      obtain ⟨p3, e3, s, h5, h6⟩ := bd_inv h4
      split at h6
      · rename_i hf
        obtain ⟨p4, e4, v4, h7, h8⟩ := bd_inv h6
        obtain ⟨p5, e5, r, h9, h10⟩ := bd_inv h8
        cases h10
        exact DI_clk I hn (rGiv_ok a2 h1).1 (rNum_ok h5).1 hf (rNum_ok h9).1
      · cases h6
    · cases h
  split at h
  · unfold sTld at h
    obtain ⟨p1, e1, c, h1, h2⟩ := bd_inv h
    obtain ⟨p2, e2, v2, h3, h4⟩ := bd_inv h2
    obtain ⟨p3, e3, m, h5, h6⟩ := bd_inv h4
    obtain ⟨p4, e4, v, h7, h8⟩ := bd_inv h6
    obtain ⟨⟨ci, c1, c2⟩, -⟩ := rFnd_ok h1
    obtain ⟨⟨mi, m1, m2⟩, -⟩ := rFnd_ok h5
    cases h8
    subst c2
    subst m2
    exact DI_tld I c1 m1 (rNum_ok h7).1
  split at h
  · unfold sLk at h
    split at h
    · obtain ⟨p1, e1, c, h1, h2⟩ := bk_inv h
      cases h2
      exact DI_lk I hN a2 a3 h1
    · cases h
  split at h
  · unfold sSh at h
    split at h
    · obtain ⟨p1, e1, c, h1, h2⟩ := bk_inv h
      cases h2
      exact DI_sh I hN a2 a3 h1
    · cases h
  split at h
  · obtain ⟨p1, e1, v, h1, h2⟩ := bd_inv h
    cases h2
    exact DI_hand I (rNum_ok h1).1
  · cases h
end RP
