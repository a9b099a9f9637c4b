section ON2
variable {d j j' : Nat} {φ φ' φ0 φ1 φ2 : aF} {α α' α0 α1 α2 : aA} {Q : Int → aF → aA → Prop} {x y z v s k x1 x2 x3 x4 x5 t c o m : Int} {n M ns : Nat} {rm nw nw' nw0 sr T A : Int → Int} {cs ct : List Int} {pl : Int → Int → Int}
theorem tw_bd {N i : Int} (hb : ∀ i : Int, 0 ≤ i → i < N → 0 ≤ T i ∧ T i ≤ 255) (hi : 0 ≤ i ∧ i + 1 < N) : 0 ≤ twF T i ∧ twF T i ≤ 65535 := by
  have t0 := hb i (by omega) (by omega)
  have t1 := hb (i + 1) (by omega) (by omega)
  unfold twF
  omega
theorem l_rp98 {N : Int} (hn : n ≤ 7 ∧ M ≤ 4 ∧ ns ≤ 9) (hb : ∀ i : Int, 0 ≤ i → i < N → 0 ≤ T i ∧ T i ≤ 255) (hT : ∀ i : Int, 0 ≤ i → i < N → α0 2 i = T i) (hs : φ0 6 1 1 = N) (hN : N = 2 + (n : Int) * (1 + (M : Int)) + 6 * (M : Int) + 1) (O : XO φ0 α0 n M ns rm) (h1 : (twF T 0 ≤ 999 ∧ (∀ c : Nat, c < n → okC T M ns rm c) ∧ ∀ q : Int, 0 ≤ q → q < 3 * (M : Int) → twF T (2 + (n : Int) * (1 + (M : Int)) + 2 * q) ≤ 9999) → ∀ φ' α', XS 36 φ' α' n (iwF T A M (plF2 T n M M 0) n (-1)) → fr 36 φ0 α0 φ' α' → φ' 7 9 36 = 0 → Q 1 φ' α') (h0 : (¬ (twF T 0 ≤ 999 ∧ (∀ c : Nat, c < n → okC T M ns rm c) ∧ ∀ q : Int, 0 ≤ q → q < 3 * (M : Int) → twF T (2 + (n : Int) * (1 + (M : Int)) + 2 * q) ≤ 9999)) → ∀ φ' α', fr 36 φ0 α0 φ' α' → Q 0 φ' α') : ∀ (r k : Nat), k + r = n → ∀ (φ : aF) (α : aA), XS 36 φ α k (iwF T A M pl k (-1)) → fr 36 φ0 α0 φ α → φ 7 9 36 = 0 → (∀ c : Nat, c < k → okC T M ns rm c) → jX7_readPicture_98 (d + 3) 36 1 9 (1 + (M : Int)) k φ α Q
  | 0, k, hk, φ, α, X, f, s9, hok => by
    have b2 := nm_bd hn.2.1 (c := (n : Int)) (by omega)
    have z : k = n := by omega
    subst z
    have O4 : φ 2 4 9 = k := (f.1 _ _ _ (by omega)).trans O.2.2.1
    have O3 : φ 2 3 9 = M := (f.1 _ _ _ (by omega)).trans O.2.1
    have x1 := X.1
    rw [iw_0] at x1
    refine vX7_readPicture_98 st36 row1 of9 ⟨fun _ => ?_, fun q => by omega⟩
    rw [x1, O4, O3]
    refine ⟨fun q => h0 (fun w => by have := w.1; omega) φ α f, fun q => ⟨by unfold inR; omega, by unfold inR; omega, ?_⟩⟩
    refine c_readPools (ns := ns) (T := T) (A := A) (pl := pl) (N := N) hn (fun i q1 q2 => ⟨by rw [f.2 2 (by omega) (by omega)]; exact hT i q1 q2, hb i q1 q2⟩) ((f.1 _ _ _ (by omega)).trans hs) hN X (fun hp α1 X1 f1 => ⟨fun q => by omega, fun _ => h1 ⟨by omega, hok, hp⟩ φ α1 X1 (f.tr f1) s9⟩) (fun hp α1 f1 => ⟨fun _ => h0 (fun w => hp w.2.2) φ α1 (f.tr f1), fun q => absurd rfl q⟩)
  | r + 1, k, hk, φ, α, X, f, s9, hok => by
    have b1 := nm_bd hn.2.1 (c := (k : Int)) (by omega)
    have O4 : φ 2 4 9 = n := (f.1 _ _ _ (by omega)).trans O.2.2.1
    refine vX7_readPicture_98 st36 row1 of9 ⟨fun q => by omega, fun _ => ⟨by unfold inR; omega, by unfold inR; omega, ?_⟩⟩
    refine c_readClerk (T := T) (A := A) (pl := pl) (N := N) hn (by omega) (fun i q1 q2 => ⟨by rw [f.2 2 (by omega) (by omega)]; exact hT i q1 q2, hb i q1 q2⟩) ((f.1 _ _ _ (by omega)).trans hs) hN X (XO_of (fun _ _ => f.1 _ _ _ (by omega)) (f.2 _ (by omega) (by omega)) O) (fun hc φ1 α1 X1 f1 s1 => ⟨fun _ => ⟨by unfold inR; omega, ?_⟩, fun q => by omega⟩) (fun hc φ1 α1 f1 => ⟨fun q => absurd rfl q, fun _ => h0 (fun w => hc (w.2.1 k (by omega))) φ1 α1 (f.tr f1)⟩)
    have := l_rp98 hn hb hT hs hN O h1 h0 r (k + 1) (by omega) φ1 α1 (by rw [show ((k + 1 : Nat) : Int) = (k : Int) + 1 by omega]; exact X1) (f.tr f1) (s1 s9) (fun c hc' => by
      by_cases z : c = k
      · subst z; exact hc
      · exact hok c (by omega))
    rw [show ((k + 1 : Nat) : Int) = (k : Int) + 1 by omega] at this
    exact this
theorem c_readPicture {N : Int} (hn : n ≤ 7 ∧ M ≤ 4 ∧ ns ≤ 9) (hN0 : 0 ≤ N ∧ N ≤ 1600) (hb : ∀ i : Int, 0 ≤ i → i < N → 0 ≤ T i ∧ T i ≤ 255) (hT : ∀ i : Int, 0 ≤ i → i < N → α 2 i = T i) (hs : φ 6 1 1 = N) (O : XO φ α n M ns rm) (h1 : okI T n M ns rm N → ∀ φ' α', XS 36 φ' α' n (iwF T A M (plF2 T n M M 0) n (-1)) → fr 36 φ α φ' α' → φ' 7 9 36 = 0 → Q 1 φ' α') (h0 : ¬ okI T n M ns rm N → ∀ φ' α', fr 36 φ α φ' α' → Q 0 φ' α') : eX7_readPicture (d + 3) 36 1 9 φ α Q := by
  have b2 := nm_bd hn.2.1 (c := (n : Int)) (by omega)
  refine vX7_readPicture_0 st36 row1 of9 ?_
  rw [O.2.1, O.2.2.1, hs]
  refine ⟨by unfold inR; omega, by unfold inR; omega, by unfold inR; omega, by unfold inR; omega, by unfold inR; omega, by unfold inR; omega, fun q => h0 (fun w => q w.1) φ α fr.rf, fun q => ⟨by unfold inR; omega, ?_⟩⟩
  rw [← q]
  obtain ⟨N', hN'⟩ : ∃ N' : Nat, N - 1 = N' := ⟨(N - 1).toNat, by omega⟩
  have e1 : ∀ i : Nat, i < N' → α (1 + 1) (i : Int) = T i := fun i hi => hT i (by omega) (by omega)
  rw [hN']
  refine c_checkOf row1 (by omega) (by omega) (fun i hi => by rw [e1 i hi]; exact hb i (by omega) (by omega)) ⟨by unfold inR; omega, c_at row1 (by omega) (by omega) ?_⟩
  rw [chF_ext (g := T) N' e1, show α (1 + 1) (N' : Int) = T N' from hT N' (by omega) (by omega)]
  have ck : (chF T (N - 1).toNat = T (N - 1)) ↔ chF T N' = T N' := by rw [hN', Int.toNat_natCast]
  refine ⟨fun q2 => c_pairAt (T := T) (N := N) (fun i q1 q2 => ⟨hT i q1 q2, hb i q1 q2⟩) hs (by omega) (by omega) (fun bd => c_fill (st2 st36) (c_fill (st3 st36) (c_fill (st4 st36) ?_))), fun q2 => h0 (fun w => q2 (ck.mp w.2.1)) φ α fr.rf⟩
  have := l_rp98 (d := d) (Q := Q) (φ0 := φ) (α0 := α) (T := T) (A := A) (pl := fun p r => α 41 (p * 4 + r)) hn hb hT hs q O (fun w φ' α' X' f' s' => h1 ⟨q, ck.mpr q2, w⟩ φ' α' X' f' s') (fun w φ' α' f' => h0 (fun z => w z.2.2) φ' α' f') n 0 (by omega) (upf (upf φ 7 0 36 (twF T 0)) 7 9 36 0) (rg (rg (rg α (36 + 2) 0 (9 : Nat) (fun _ => -1)) (36 + 3) 0 (28 : Nat) (fun _ => 0)) (36 + 4) 0 (7 : Nat) (fun _ => 0)) ?_ ((((fr_f (Or.inl rfl)).tr (fr_rg (by omega))).tr (fr_rg (by omega))).tr ((fr_rg (by omega)).tr (fr_f (Or.inr (Or.inl rfl))))) upf_s (fun c hc => by omega)
  · simpa using this
  · refine ⟨by rw [upf_o (by omega), upf_s, iw_0], fun c q1 q2 => by omega, fun s q1 q2 => ?_, fun c r q1 q2 q3 q4 => ?_, fun c q1 q2 => ?_, fun p r q1 q2 q3 q4 => ?_⟩
    · rw [rg_ne (by omega), rg_ne (by omega), rg_in (by omega)]; rfl
    · rw [rg_ne (by omega), rg_in (by omega), iw_d ⟨q1, q2⟩ ⟨q3, q4⟩, if_neg (by omega)]
    · rw [rg_in (by omega)]
      have e := fun (r : Int) hr => iw_d (T := T) (A := A) (M := M) (pl := fun p r => α 41 (p * 4 + r)) (k := 0) (m := -1) (r := r) (c := c) ⟨q1, q2⟩ hr
      have e0 := e 0 (by omega); have e1 := e 1 (by omega); have e2 := e 2 (by omega); have e3 := e 3 (by omega)
      unfold fullF
      rw [show (2 : Int) + 5 * c = 2 + 5 * c + 0 by omega, show (3 : Int) + 5 * c = 2 + 5 * c + 1 by omega, show (4 : Int) + 5 * c = 2 + 5 * c + 2 by omega, show (5 : Int) + 5 * c = 2 + 5 * c + 3 by omega]
      simp only [Int.natCast_zero, e0, e1, e2, e3]
      rw [if_neg (by omega), if_neg (by omega), if_neg (by omega), if_neg (by omega)]
      rfl
    · rw [rg_ne (by omega), rg_ne (by omega), rg_ne (by omega), iw_p ⟨q1, q2⟩ ⟨q3, q4⟩]
      rfl
theorem r_twoAt {N i : Int} (hb : ∀ i : Int, 0 ≤ i → i < N → 0 ≤ α 199 i ∧ α 199 i ≤ 255) (hN : N ≤ 1600) (hi : 0 ≤ i ∧ i + 1 < N) (h : Q (twF (α 199) i) φ α) : eX11_twoAt d i φ α Q := by
  have t0 := hb i (by omega) (by omega)
  have t1 := hb (i + 1) (by omega) (by omega)
  refine vX11_twoAt_0 ⟨by omega, by unfold inR; omega, by unfold inR; omega, by omega, by unfold inR; omega, ?_⟩
  rw [show 256 * α 199 i + α 199 (i + 1) = twF (α 199) i by unfold twF; omega]
  exact h
theorem fsR_bd {N : Int} {c : Nat} (hb : ∀ i : Int, 0 ≤ i → i < N → 0 ≤ T i ∧ T i ≤ 255) (hM : M ≤ 4) (hc : 0 ≤ (c : Int) * (1 + (M : Int))) (h : 2 + (c : Int) * (1 + (M : Int)) + (M : Int) < N) : ∀ r : Nat, r ≤ M → 0 ≤ fsR T M c r ∧ fsR T M c r ≤ 255 * (r : Int)
  | 0, _ => by simp [fsR]
  | r + 1, hr => by
    have ih := fsR_bd hb hM hc h r (by omega)
    have := hb (2 + (c : Int) * (1 + (M : Int)) + ((r : Int) + 1)) (by omega) (by omega)
    rw [fsR]
    omega
theorem r_isClerkTold {N : Int} {c : Nat} (hn : n ≤ 7 ∧ M ≤ 4 ∧ ns ≤ 9) (hc : c < n) (hb : ∀ i : Int, 0 ≤ i → i < N → 0 ≤ α 199 i ∧ α 199 i ≤ 255) (hN : N = 2 + (n : Int) * (1 + (M : Int)) + 6 * (M : Int) + 1) (O : MO α n M ns rm) (h : ∀ w : Int, (w = 1 ∧ okC (α 199) M ns rm c) ∨ (w = 0 ∧ ¬ okC (α 199) M ns rm c) → Q w φ α) : eX11_isClerkTold (d + 1) c φ α Q := by
  have b1 := nm_bd hn.2.1 (c := (c : Int)) (by omega)
  have b2 := nm_bd hn.2.1 (c := (n : Int)) (by omega)
  have b3 := nm_lt hn.2.1 (c := (c : Int)) (n := (n : Int)) (by omega)
  have loop2 : (α 199 (2 + (c : Int) * (1 + (M : Int))) < ns ∧ fsR (α 199) M c M ≤ rm c) → ∀ (r k : Nat), k + r = c → (∀ c' : Nat, c' < k → α 199 (2 + (c' : Int) * (1 + (M : Int))) ≠ α 199 (2 + (c : Int) * (1 + (M : Int)))) → jX11_isClerkTold_75 (d + 1) (1 + (M : Int)) (2 + (c : Int) * (1 + (M : Int))) (2 + (k : Int) * (1 + (M : Int))) φ α Q := by
    intro w r
    induction r with
    | zero =>
      intro k hk hp
      have z : k = c := by omega
      subst z
      exact vX11_isClerkTold_75 ⟨fun _ => h 1 (Or.inl ⟨rfl, w.1, w.2, hp⟩), fun q => by omega⟩
    | succ r ih =>
      intro k hk hp
      have b4 := nm_bd hn.2.1 (c := (k : Int)) (by omega)
      have b5 := nm_lt hn.2.1 (c := (k : Int)) (n := (c : Int)) (by omega)
      refine vX11_isClerkTold_75 ⟨fun q => by omega, fun _ => ⟨by omega, by omega, fun q => ⟨by unfold inR; omega, ?_⟩, fun q => h 0 (Or.inr ⟨rfl, fun z => z.2.2 k (by omega) q⟩)⟩⟩
      have := ih (k + 1) (by omega) (fun c' hc' => by
        by_cases z : c' = k
        · subst z; exact q
        · exact hp c' (by omega))
      have e : 2 + ((k + 1 : Nat) : Int) * (1 + (M : Int)) = 2 + (k : Int) * (1 + (M : Int)) + (1 + (M : Int)) := by
        rw [show ((k + 1 : Nat) : Int) = (k : Int) + 1 by omega, Int.add_mul, Int.one_mul]; omega
      rw [e] at this
      exact this
  have loop1 : ∀ (r k : Nat), k + r = M → jX11_isClerkTold_19 (d + 1) c (1 + (M : Int)) (2 + (c : Int) * (1 + (M : Int))) (fsR (α 199) M c k) ((k : Int) + 1) φ α Q := by
    intro r
    induction r with
    | zero =>
      intro k hk
      have z : k = M := by omega
      subst z
      refine vX11_isClerkTold_19 ⟨fun _ => ⟨by omega, ?_⟩, fun q => by omega⟩
      rw [O.2.2.1]
      refine ⟨fun q => h 0 (Or.inr ⟨rfl, fun z => by have := z.1; omega⟩), fun q => r_roomOf O hn.1 (by omega) ⟨fun q2 => ?_, fun q2 => h 0 (Or.inr ⟨rfl, fun z => by have := z.2.1; omega⟩)⟩⟩
      have := loop2 ⟨by omega, q2⟩ c 0 (by omega) (fun c' hc' => by omega)
      rw [show 2 + ((0 : Nat) : Int) * (1 + (k : Int)) = 2 by omega] at this
      exact this
    | succ r ih =>
      intro k hk
      have fb := fsR_bd (c := c) hb hn.2.1 b1.1 (by omega) k (by omega)
      have tb := hb (2 + (c : Int) * (1 + (M : Int)) + ((k : Int) + 1)) (by omega) (by omega)
      have := ih (k + 1) (by omega)
      rw [show ((k + 1 : Nat) : Int) = (k : Int) + 1 by omega] at this
      exact vX11_isClerkTold_19 ⟨fun q => by omega, fun _ => ⟨by unfold inR; omega, by omega, by unfold inR; omega, by unfold inR; omega, this⟩⟩
  refine vX11_isClerkTold_0 (r_mMany O.1 ?_)
  rw [Int.mul_comm (1 + (M : Int)) (c : Int)]
  refine ⟨by unfold inR; omega, by unfold inR; omega, by unfold inR; omega, ?_⟩
  have := loop1 M 0 (by omega)
  exact this
theorem ia199 : isIA 199 1600 := fun _ => rfl
theorem r_isImage {N : Int} (hn : n ≤ 7 ∧ M ≤ 4 ∧ ns ≤ 9) (h46 : φ 11 46 198 = 1) (hN0 : 0 ≤ N ∧ N ≤ 1600) (hb : ∀ i : Int, 0 ≤ i → i < N → 0 ≤ α 199 i ∧ α 199 i ≤ 255) (O : MO α n M ns rm) (h : ∀ w : Int, (w = 1 ∧ okI (α 199) n M ns rm N) ∨ (w = 0 ∧ ¬ okI (α 199) n M ns rm N) → Q w φ α) : eX11_isImage (d + 2) N φ α Q := by
  have b2 := nm_bd hn.2.1 (c := (n : Int)) (by omega)
  refine vX11_isImage_0 (r_mMany O.1 ⟨by unfold inR; omega, r_cMany O.2.1 ?_⟩)
  rw [Int.mul_comm (1 + (M : Int)) (n : Int)]
  refine ⟨by unfold inR; omega, by unfold inR; omega, fun q => by omega, fun _ => r_mMany O.1 ⟨by unfold inR; omega, by unfold inR; omega, by unfold inR; omega, fun q => h 0 (Or.inr ⟨rfl, fun w => q w.1⟩), fun q => ⟨by unfold inR; omega, by omega, ?_⟩⟩⟩
  obtain ⟨N', hN'⟩ : ∃ N' : Nat, N - 1 = N' := ⟨(N - 1).toNat, by omega⟩
  have ck : (chF (α 199) (N - 1).toNat = α 199 (N - 1)) ↔ chF (α 199) N' = α 199 N' := by rw [hN', Int.toNat_natCast]
  rw [hN']
  refine r_checked ia199 (by omega) (fun i hi => hb i (by omega) (by omega)) ⟨fun q2 => h 0 (Or.inr ⟨rfl, fun w => q2 (ck.mp w.2.1).symm⟩), fun q2 => r_twoAt hb (by omega) (by omega) ⟨fun q3 => ?_, fun q3 => h 0 (Or.inr ⟨rfl, fun w => q3 w.2.2.1⟩)⟩⟩
  have pools : (∀ c : Nat, c < n → okC (α 199) M ns rm c) → ∀ (r k : Nat), k + r = 3 * M → (∀ q : Int, 0 ≤ q → q < (k : Int) → twF (α 199) (2 + (n : Int) * (1 + (M : Int)) + 2 * q) ≤ 9999) → jX11_isImage_98 (d + 2) N (2 + (n : Int) * (1 + (M : Int)) + 2 * (k : Int)) φ α Q := by
    intro hc r
    induction r with
    | zero =>
      intro k hk hp
      exact vX11_isImage_98 ⟨by unfold inR; omega, fun _ => h 1 (Or.inl ⟨rfl, q, ck.mpr q2.symm, q3, hc, fun q' q1 q2 => hp q' q1 (by omega)⟩), fun q => by omega⟩
    | succ r ih =>
      intro k hk hp
      refine vX11_isImage_98 ⟨by unfold inR; omega, fun q => by omega, fun _ => r_twoAt hb (by omega) (by omega) ⟨fun q4 => ⟨by unfold inR; omega, ?_⟩, fun q4 => h 0 (Or.inr ⟨rfl, fun w => q4 (w.2.2.2.2 k (by omega) (by omega))⟩)⟩⟩
      have := ih (k + 1) (by omega) (fun q' q1 q2 => by
        by_cases z : q' = k
        · subst z; exact q4
        · exact hp q' q1 (by omega))
      rw [show 2 + (n : Int) * (1 + (M : Int)) + 2 * ((k + 1 : Nat) : Int) = 2 + (n : Int) * (1 + (M : Int)) + 2 * (k : Int) + 2 by omega] at this
      exact this
  have clerks : ∀ (r k : Nat), k + r = n → (∀ c : Nat, c < k → okC (α 199) M ns rm c) → jX11_isImage_72 (d + 2) N (2 + (n : Int) * (1 + (M : Int))) k φ α Q := by
    intro r
    induction r with
    | zero =>
      intro k hk hp
      have z : k = n := by omega
      subst z
      have := pools hp (3 * M) 0 (by omega) (fun q q1 q2 => by omega)
      rw [show 2 + (k : Int) * (1 + (M : Int)) + 2 * ((0 : Nat) : Int) = 2 + (k : Int) * (1 + (M : Int)) by omega] at this
      exact vX11_isImage_72 (r_cMany O.2.1 ⟨fun _ => this, fun q => by omega⟩)
    | succ r ih =>
      intro k hk hp
      refine vX11_isImage_72 (r_cMany O.2.1 ⟨fun q => by omega, fun _ => r_isClerkTold hn (by omega) hb q O (fun w hw => ?_)⟩)
      rcases hw with ⟨rfl, hw⟩ | ⟨rfl, hw⟩
      · refine ⟨fun _ => ⟨by unfold inR; omega, ?_⟩, fun q => by omega⟩
        have := ih (k + 1) (by omega) (fun c hc => by
          by_cases z : c = k
          · subst z; exact hw
          · exact hp c (by omega))
        rw [show ((k + 1 : Nat) : Int) = (k : Int) + 1 by omega] at this
        exact this
      · exact ⟨fun q => absurd rfl q, fun _ => h 0 (Or.inr ⟨rfl, fun w => hw (w.2.2.2.1 k (by omega))⟩)⟩
  have := clerks n 0 (by omega) (fun c hc => by omega)
  simpa using this
/-- the reference's row while it reads -/
def orF (T A : Int → Int) (M : Nat) (c k : Int) : Int → Int := fun i => if i = 0 then twF T 0 else if 1 ≤ i ∧ i < 36 ∧ (i - 1) % 5 ≤ M ∧ ((i - 1) / 5 < c ∨ ((i - 1) / 5 = c ∧ (i - 1) % 5 < k)) then T (2 + (i - 1) / 5 * (1 + (M : Int)) + (i - 1) % 5) else A i
theorem l_on61 {c : Nat} (hn : n ≤ 7 ∧ M ≤ 4) (hc : c < n) (hT : T = α0 199) (h : ∀ α', (∀ a : Int, a ≠ 233 → α' a = α0 a) → α' 233 = orF T A M ((c : Int) + 1) 0 → jX11_on_50 (d + 1) (1 + (M : Int)) ((c : Int) + 1) φ α' Q) : ∀ (r k : Nat), k + r = M + 1 → ∀ (α : aA), (∀ a : Int, a ≠ 233 → α a = α0 a) → α 233 = orF T A M c k → jX11_on_61 (d + 1) (1 + (M : Int)) c k φ α Q
  | 0, k, hk, α, o, e => by
    refine vX11_on_61 ⟨fun _ => ⟨by unfold inR; omega, h α o ?_⟩, fun q => by omega⟩
    rw [e]
    funext i
    unfold orF
    have key : (1 ≤ i ∧ i < 36 ∧ (i - 1) % 5 ≤ (M : Int) ∧ ((i - 1) / 5 < (c : Int) ∨ ((i - 1) / 5 = (c : Int) ∧ (i - 1) % 5 < (k : Int)))) = (1 ≤ i ∧ i < 36 ∧ (i - 1) % 5 ≤ (M : Int) ∧ ((i - 1) / 5 < (c : Int) + 1 ∨ ((i - 1) / 5 = (c : Int) + 1 ∧ (i - 1) % 5 < 0))) := propext ⟨fun z => by omega, fun z => by omega⟩
    simp only [key]
  | r + 1, k, hk, α, o, e => by
    have b1 := nm_bd hn.2 (c := (c : Int)) (by omega)
    refine vX11_on_61 ⟨fun q => by omega, fun _ => ?_⟩
    rw [Int.mul_comm (1 + (M : Int)) (c : Int)]
    refine ⟨by unfold inR; omega, by unfold inR; omega, by unfold inR; omega, by unfold inR; omega, by unfold inR; omega, by unfold inR; omega, by omega, by omega, by unfold inR; omega, ?_⟩
    have := l_on61 hn hc hT h r (k + 1) (by omega) (upa α 233 (1 + 5 * (c : Int) + k) (α 199 (2 + (c : Int) * (1 + (M : Int)) + k))) (fun a q => by rw [upa_fn q]; exact o a q) ?_
    · rw [show ((k + 1 : Nat) : Int) = (k : Int) + 1 by omega] at this
      exact this
    · rw [upa_un, e, o 199 (by omega), ← hT]
      funext i
      unfold un orF
      by_cases z : i = 1 + 5 * (c : Int) + k
      · subst z
        rw [if_pos rfl, if_neg (by omega), if_pos (by omega), show (1 + 5 * (c : Int) + k - 1) / 5 = c by omega, show (1 + 5 * (c : Int) + k - 1) % 5 = k by omega]
      · rw [if_neg z]
        have key : (1 ≤ i ∧ i < 36 ∧ (i - 1) % 5 ≤ (M : Int) ∧ ((i - 1) / 5 < (c : Int) ∨ ((i - 1) / 5 = (c : Int) ∧ (i - 1) % 5 < (k : Int)))) = (1 ≤ i ∧ i < 36 ∧ (i - 1) % 5 ≤ (M : Int) ∧ ((i - 1) / 5 < (c : Int) ∨ ((i - 1) / 5 = (c : Int) ∧ (i - 1) % 5 < ((k + 1 : Nat) : Int)))) := propext ⟨fun z => by omega, fun z => by omega⟩
        simp only [key]
theorem l_on50 (hn : n ≤ 7 ∧ M ≤ 4) (hT : T = α0 199) (O : α0 226 3 = n) (h : ∀ α', (∀ a : Int, a ≠ 233 → α' a = α0 a) → α' 233 = orF T A M n 0 → jX11_on_107 (d + 1) (1 + (M : Int)) 0 φ α' Q) : ∀ (r c : Nat), c + r = n → ∀ (α : aA), (∀ a : Int, a ≠ 233 → α a = α0 a) → α 233 = orF T A M c 0 → jX11_on_50 (d + 1) (1 + (M : Int)) c φ α Q
  | 0, c, hk, α, o, e => by
    have z : c = n := by omega
    subst z
    exact vX11_on_50 (r_cMany (by rw [o 226 (by omega)]; exact O) ⟨fun _ => h α o e, fun q => by omega⟩)
  | r + 1, c, hk, α, o, e => by
    refine vX11_on_50 (r_cMany (by rw [o 226 (by omega)]; exact O) ⟨fun q => by omega, fun _ => ?_⟩)
    have := l_on61 (d := d) (φ := φ) (Q := Q) (c := c) (α0 := α0) hn (by omega) hT (fun α1 o1 e1 => by
      have := l_on50 hn hT O h r (c + 1) (by omega) α1 o1 (by rw [show ((c + 1 : Nat) : Int) = (c : Int) + 1 by omega]; exact e1)
      rw [show ((c + 1 : Nat) : Int) = (c : Int) + 1 by omega] at this
      exact this) (M + 1) 0 (by omega) α o e
    simpa using this
def opF (T A : Int → Int) (n M : Nat) (q : Int) : Int → Int := fun i => if 36 ≤ i ∧ i < 36 + q then twF T (2 + (n : Int) * (1 + (M : Int)) + 2 * (i - 36)) else orF T A M n 0 i
theorem l_on107 {N : Int} (hn : n ≤ 7 ∧ M ≤ 4) (hT : T = α0 199) (hb : ∀ i : Int, 0 ≤ i → i < N → 0 ≤ α0 199 i ∧ α0 199 i ≤ 255) (hN : N = 2 + (n : Int) * (1 + (M : Int)) + 6 * (M : Int) + 1) (O : α0 226 3 = n ∧ α0 226 2 = M) (h : ∀ α', (∀ a : Int, a ≠ 233 → α' a = α0 a) → α' 233 = un (opF T A n M (3 * (M : Int))) 48 0 → Q 1 (upf φ 11 60 198 0) α') : ∀ (r k : Nat), k + r = 3 * M → ∀ (α : aA), (∀ a : Int, a ≠ 233 → α a = α0 a) → α 233 = opF T A n M k → jX11_on_107 (d + 1) (1 + (M : Int)) k φ α Q
  | 0, k, hk, α, o, e => by
    refine vX11_on_107 (r_mMany (by rw [o 226 (by omega)]; exact O.2) ⟨by unfold inR; omega, fun _ => h _ (fun a q => by rw [upa_fn q]; exact o a q) ?_, fun q => by omega⟩)
    rw [upa_un, e, show (k : Int) = 3 * (M : Int) by omega]
  | r + 1, k, hk, α, o, e => by
    have b2 := nm_bd hn.2 (c := (n : Int)) (by omega)
    refine vX11_on_107 (r_mMany (by rw [o 226 (by omega)]; exact O.2) ⟨by unfold inR; omega, fun q => by omega, fun _ => ⟨by unfold inR; omega, r_cMany (by rw [o 226 (by omega)]; exact O.1) ?_⟩⟩)
    rw [Int.mul_comm (1 + (M : Int)) (n : Int)]
    refine ⟨by unfold inR; omega, by unfold inR; omega, by unfold inR; omega, by unfold inR; omega, r_twoAt (N := N) (by rw [o 199 (by omega)]; exact hb) (by omega) (by omega) ⟨by omega, by unfold inR; omega, ?_⟩⟩
    have := l_on107 hn hT hb hN O h r (k + 1) (by omega) (upa α 233 (36 + (k : Int)) (twF (α 199) (2 + (n : Int) * (1 + (M : Int)) + 2 * (k : Int)))) (fun a q => by rw [upa_fn q]; exact o a q) ?_
    · rw [show ((k + 1 : Nat) : Int) = (k : Int) + 1 by omega] at this
      exact this
    · rw [upa_un, e, o 199 (by omega), ← hT]
      funext i
      unfold un opF
      by_cases z : i = 36 + (k : Int)
      · subst z
        rw [if_pos rfl, if_pos (by omega), show 36 + (k : Int) - 36 = k by omega]
      · rw [if_neg z]
        by_cases z2 : 36 ≤ i ∧ i < 36 + (k : Int)
        · rw [if_pos z2, if_pos (by omega)]
        · rw [if_neg z2, if_neg (by omega)]
theorem iw_eq (G : GS n M ns rm A) : ∀ i : Int, 0 ≤ i → i < 169 → un (opF T A n M (3 * (M : Int))) 48 0 i = iwF T A M (plF2 T n M M 0) n (-1) i := by
  intro i q1 q2
  have hn := G.2.2.2.2.2.2
  by_cases e48 : i = 48
  · subst e48
    rw [un_s]
    unfold iwF
    rw [if_neg (by omega), if_neg (by omega), if_neg (by omega), if_pos rfl]
  · rw [un_o e48]
    unfold opF
    by_cases e36 : i < 36
    · rw [if_neg (by omega)]
      unfold orF iwF
      by_cases e0 : i = 0
      · rw [if_pos e0, if_pos e0]
      · rw [if_neg e0, if_neg e0, if_pos (show 1 ≤ i ∧ i < 36 by omega)]
        by_cases e1 : (i - 1) % 5 ≤ M ∧ (i - 1) / 5 < n
        · rw [if_pos (by omega), if_pos (by omega)]
        · rw [if_neg (by omega), if_neg (by omega)]
          by_cases e2 : (i - 1) % 5 = 0
          · rw [if_pos e2]
          · rw [if_neg e2]
            have := (G.2.2.2.1 ((i - 1) / 5) ((i - 1) % 5 - 1) (by omega) (by omega) (by omega) (by omega)).2 (by omega)
            rw [show 2 + 5 * ((i - 1) / 5) + ((i - 1) % 5 - 1) = i by omega] at this
            exact this
    · by_cases e47 : i < 48
      · have ip := iw_p (T := T) (A := A) (M := M) (pl := plF2 T n M M 0) (k := n) (m := -1) (p := (i - 36) % 3) (r := (i - 36) / 3) (by omega) (by omega)
        rw [show 36 + 3 * ((i - 36) / 3) + (i - 36) % 3 = i by omega] at ip
        rw [ip]
        unfold plF2
        by_cases e3 : i < 36 + 3 * (M : Int)
        · rw [if_pos (by omega), if_pos (by omega)]
          congr 1
          omega
        · rw [if_neg (by omega), if_neg (by omega)]
          unfold orF
          rw [if_neg (by omega), if_neg (by omega)]
          have := (G.2.2.2.2.2.1 ((i - 36) / 3) ((i - 36) % 3) (by omega) (by omega) (by omega) (by omega)).2.2 (by omega)
          rw [show 36 + 3 * ((i - 36) / 3) + (i - 36) % 3 = i by omega] at this
          exact this
      · rw [if_neg (by omega)]
        unfold orF iwF
        rw [if_neg (by omega), if_neg (by omega), if_neg (by omega), if_neg (by omega), if_neg (by omega), if_neg e48]
theorem iw_G {N : Int} (G : GS n M ns rm A) (hb : ∀ i : Int, 0 ≤ i → i < N → 0 ≤ T i ∧ T i ≤ 255) (w : okI T n M ns rm N) : GS n M ns rm (iwF T A M (plF2 T n M M 0) n (-1)) := by
  have hn := G.2.2.2.2.2.2
  obtain ⟨w1, w2, w3, w4, w5⟩ := w
  have b2 := nm_bd hn.2.1 (c := (n : Int)) (by omega)
  have sv : ∀ c : Nat, c < n → iwF T A M (plF2 T n M M 0) n (-1) (1 + 5 * (c : Int)) = T (2 + (c : Int) * (1 + (M : Int))) := fun c hc => by rw [iw_s (by omega), if_pos (by omega)]
  have cb : ∀ c : Nat, c < n → 0 ≤ (c : Int) * (1 + (M : Int)) ∧ (c : Int) * (1 + (M : Int)) + (1 + (M : Int)) ≤ (n : Int) * (1 + (M : Int)) := fun c hc => ⟨(nm_bd hn.2.1 (c := (c : Int)) (by omega)).1, nm_lt hn.2.1 (by omega)⟩
  refine ⟨by rw [iw_0]; exact ⟨(tw_bd hb (by omega)).1, by omega⟩, fun c hc => ?_, fun c c' h1 h2 h => ?_, fun c r q1 q2 q3 q4 => ?_, fun c q1 q2 => ?_, fun r p q1 q2 q3 q4 => ?_, hn⟩
  · have := cb c hc
    rw [sv c hc]
    exact ⟨(hb _ (by omega) (by omega)).1, (w4 c hc).1⟩
  · rw [sv c h1, sv c' h2] at h
    rcases Nat.lt_trichotomy c c' with z | z | z
    · exact absurd h ((w4 c' h2).2.2 c z)
    · exact z
    · exact absurd h.symm ((w4 c h1).2.2 c' z)
  · rw [iw_d ⟨q1, q2⟩ ⟨q3, q4⟩]
    refine ⟨?_, fun z => by rw [if_neg (by omega)]⟩
    split
    · rename_i z
      have := cb c.toNat (by omega)
      rw [Int.toNat_of_nonneg q1] at this
      exact (hb _ (by omega) (by omega)).1
    · omega
  · rw [iw_full hn.2.1 (by omega) (Or.inl q2)]
    have := (w4 c.toNat (by omega)).2.1
    rw [Int.toNat_of_nonneg q1] at this
    exact ⟨this, (G.2.2.2.2.1 c q1 q2).2⟩
  · rw [iw_p ⟨q3, q4⟩ ⟨q1, q2⟩]
    unfold plF2
    by_cases z : r < M
    · rw [if_pos (by omega)]
      have := w5 (3 * r + p) (by omega) (by omega)
      rw [show 2 + (n : Int) * (1 + (M : Int)) + 2 * (3 * r + p) = 2 + (n : Int) * (1 + (M : Int)) + 6 * r + 2 * p by omega] at this
      exact ⟨(tw_bd hb (by omega)).1, this, fun z2 => by omega⟩
    · rw [if_neg (by omega)]
      exact ⟨by omega, by omega, fun _ => rfl⟩
end ON2
