/-! the registry: its statements, read by the reference -/
abbrev lmP (a i : Int) : Prop := ¬ ((a = 225 ∨ a = 226 ∨ a = 230 ∨ a = 231) ∧ i < 2) ∧ ¬ (a = 227 ∧ i < 16) ∧ ¬ (a = 228 ∧ i < 14) ∧ a ≠ 229 ∧ ¬ (a = 232 ∧ i < 1600) ∧ a ≠ 263 ∧ a ≠ 264
/-- all that a statement changes, but for how many there are -/
def fh (φ : aF) (α : aA) (φ' : aF) (α' : aA) : Prop := (∀ c g o, ¬ (c = 11 ∧ (g = 2 ∨ g = 4 ∨ g = 5 ∨ g = 6 ∨ g = 10 ∨ g = 35 ∨ g = 44 ∨ g = 47 ∨ g = 88 ∨ g = 90 ∨ g = 91 ∨ g = 92)) → φ' c g o = φ c g o) ∧ ∀ a i : Int, lmP a i → α' a i = α a i
def fH (φ : aF) (α : aA) (φ' : aF) (α' : aA) : Prop := (∀ c g o, ¬ (c = 11 ∧ (g = 2 ∨ g = 4 ∨ g = 5 ∨ g = 6 ∨ g = 10 ∨ g = 35 ∨ g = 44 ∨ g = 45 ∨ g = 47 ∨ g = 88 ∨ g = 90 ∨ g = 91 ∨ g = 92)) → φ' c g o = φ c g o) ∧ ∀ a i : Int, lmP a i → α' a i = α a i
/-- a code that was told, or none -/
def RK2 (φ : aF) (α : aA) (w g : Int) (c : List Int) : Prop := (g = 0 ∧ α 230 w = -1) ∨ (g = 1 ∧ ∃ f : Int, α 230 w = f ∧ α 231 w = f + c.length ∧ 0 ≤ f ∧ f + c.length ≤ φ 11 44 198 ∧ ∀ i : Nat, i < c.length → α 232 (f + (i : Int)) = tauF (c.getD i 0))
/-- the reference's rows hold what was told -/
def RD (φ : aF) (α : aA) (M n : Nat) (G : Int → Int) (lc kc : List Int) (p : Nat) : Prop :=
  (α 225 0 = G 0 ∧ α 225 1 = G 3) ∧ RNm α (nmF G) M n ∧ (∀ c : Nat, c < n → α 228 (2 * (c : Int)) = G (40 + (c : Int)) ∧ α 228 (2 * (c : Int) + 1) = G (30 + (c : Int))) ∧ (∀ c m : Nat, c < n → m < 4 → α 229 (4 * (c : Int) + (m : Int)) = G (50 + 4 * (c : Int) + (m : Int))) ∧ (0 ≤ φ 11 44 198 ∧ φ 11 44 198 ≤ p) ∧ RK2 φ α 0 (G 4) lc ∧ RK2 φ α 1 (G 5) kc
def YG (T : Int → Int) (N : Nat) (φ : aF) (α : aA) (r : xD) (Q : Int → aF → aA → Prop) : Prop := (∀ kd pl, r = .error (kd, pl) → kd ≠ 0 → ∀ φ' α', fh φ α φ' α' → RF φ' kd pl → Q 0 φ' α') ∧ ∀ p' e' M' n' G' lc' kc', r = .ok (p', e', ((M', n'), G', (lc', kc'))) → ∀ φ' α', fh φ α φ' α' → RLx T N φ' α' p' e' → RD φ' α' M' n' G' lc' kc' p' → Q 0 φ' α'
def semi (T : Int → Int) (N : Nat) : Nat → Int → dS → xD := fun p1 e1 D1 => bd (rSgn T N 59 p1 e1) fun p2 e2 _ => .ok (p2, e2, D1)
def stS (T : Int → Int) (N f k M n : Nat) (G : Int → Int) (lc kc : List Int) (p : Nat) (e : Int) : xD := bD (stF T N f k M n G lc kc p e) (semi T N)
theorem rgF_s {T : Int → Int} {N f r k p : Nat} {e : Int} {D : dS} (h : ¬ (0 < k ∧ kdF T N p = 0)) : rgF T N f (r + 1) k D p e = bD (stS T N f k D.1.1 D.1.2 D.2.1 D.2.2.1 D.2.2.2 p e) (fun p2 e2 D1 => rgF T N f r (k + 1) D1 p2 e2) := by
  rw [rgF, if_neg h]
  unfold stS
  generalize stF T N f k D.1.1 D.1.2 D.2.1 D.2.2.1 D.2.2.2 p e = x
  match x with
  | .error q => rfl
  | .ok (p1, e1, D1) =>
    show bd (rSgn T N 59 p1 e1) _ = bD (bd (rSgn T N 59 p1 e1) _) _
    generalize rSgn T N 59 p1 e1 = y
    match y with
    | .error q => rfl
    | .ok (p2, e2, v2) => rfl
section RI
variable {d N p f M n k g q : Nat} {φ φ' φ0 φ1 φ2 : aF} {α α' α0 α1 α2 : aA} {Q : Int → aF → aA → Prop} {x1 x2 e w s v a i r pl : Int} {T nm G : Int → Int} {lc kc : List Int}
theorem fh.rf : fh φ α φ α := ⟨fun _ _ _ _ => rfl, fun _ _ _ => rfl⟩
theorem fh.tr (h : fh φ α φ1 α1) (h' : fh φ1 α1 φ2 α2) : fh φ α φ2 α2 := ⟨fun c f o q => (h'.1 c f o q).trans (h.1 c f o q), fun a i q => (h'.2 a i q).trans (h.2 a i q)⟩
theorem fh_w (h : fw φ φ') : fh φ α φ' α := ⟨fun c f o q => h c f o (by omega), fun _ _ _ => rfl⟩
theorem fh_z (h : fz φ α φ' α') : fh φ α φ' α' := ⟨fun c f o q => h.1 c f o (by omega), fun a i q => by rw [h.2 a q.2.2.2.2.2.1 q.2.2.2.2.2.2]⟩
theorem fh_u (hg : g = 44 ∨ g = 47 ∨ g = 88 ∨ g = 90 ∨ g = 91 ∨ g = 92) : fh φ α (upf φ 11 g 198 v) α := ⟨fun c f o q => upf_o (by
    by_cases e : c = 11
    · by_cases e2 : f = g
      · exact absurd ⟨e, by omega⟩ q
      · exact Or.inr (Or.inl e2)
    · exact Or.inl e), fun _ _ _ => rfl⟩
theorem fh_a (ha : ¬ lmP a i) : fh φ α φ (upa α a i v) := ⟨fun _ _ _ _ => rfl, fun a' i' q => by
  unfold upa
  rw [if_neg]
  rintro ⟨rfl, rfl⟩
  exact ha q⟩
theorem fH.rf : fH φ α φ α := ⟨fun _ _ _ _ => rfl, fun _ _ _ => rfl⟩
theorem fH.tr (h : fH φ α φ1 α1) (h' : fH φ1 α1 φ2 α2) : fH φ α φ2 α2 := ⟨fun c f o q => (h'.1 c f o q).trans (h.1 c f o q), fun a i q => (h'.2 a i q).trans (h.2 a i q)⟩
theorem fH_h (h : fh φ α φ' α') : fH φ α φ' α' := ⟨fun c f o q => h.1 c f o (by omega), h.2⟩
theorem fH_u : fH φ α (upf φ 11 45 198 v) α := ⟨fun c f o q => upf_o (by omega), fun _ _ _ => rfl⟩
theorem RLx_h (R : RLx T N φ α p e) (hf : ∀ g, (2 ≤ g ∧ g ≤ 6) → φ' 11 g 198 = φ 11 g 198) (ha : ∀ a : Int, a < 225 ∨ (232 < a ∧ a < 263) → α' a = α a) : RLx T N φ' α' p e := by
  obtain ⟨⟨r1, r2, r3⟩, r5, r4, ⟨r6, r7⟩, ⟨w1, w2⟩, he, hp⟩ := R
  refine ⟨⟨r1, by rw [hf 3 (by omega)]; exact r2, by rw [ha _ (by omega)]; exact r3⟩, by rw [hf 5 (by omega)]; exact r5, by rw [hf 4 (by omega)]; exact r4, ⟨by rw [hf 2 (by omega)]; exact r6, by rw [hf 6 (by omega)]; exact r7⟩, ⟨fun k i q1 q2 => by rw [ha _ (by omega)]; exact w1 k i q1 q2, fun k i q1 q2 => by rw [ha _ (by omega)]; exact w2 k i q1 q2⟩, he, hp⟩
theorem RD_p (h : p ≤ q) (D : RD φ α M n G lc kc p) : RD φ α M n G lc kc q := ⟨D.1, D.2.1, D.2.2.1, D.2.2.2.1, ⟨D.2.2.2.2.1.1, by have := D.2.2.2.2.1.2; omega⟩, D.2.2.2.2.2⟩
theorem RD_f (h : φ' 11 44 198 = φ 11 44 198) (D : RD φ α M n G lc kc p) : RD φ' α M n G lc kc p := by
  unfold RD RK2 at *
  rw [h]
  exact D
theorem RD_w (h : fw φ φ') (D : RD φ α M n G lc kc p) : RD φ' α M n G lc kc p := RD_f (h _ _ _ (by omega)) D
theorem le_av (hp : p ≤ N) : p ≤ avF T N p := by
  have a := av_bd (T := T) hp
  have b := nx_bd (T := T) hp
  omega
theorem rWrd_y (h : isW T N p e w) : rWrd T N w p e = .ok (avF T N p, edF T N p e, 0) := by unfold rWrd; rw [if_pos h]
theorem rWrd_n (h : ¬ isW T N p e w) : rWrd T N w p e = .error (1, (p : Int)) := by unfold rWrd; rw [if_neg h]
theorem rSgn_y (h : isS T N p s) : rSgn T N s p e = .ok (avF T N p, edF T N p e, 0) := by unfold rSgn; rw [if_pos h]
theorem rSgn_n (h : ¬ isS T N p s) : rSgn T N s p e = .error (1, (p : Int)) := by unfold rSgn; rw [if_neg h]
theorem r_num (R : RLx T N φ α p e) (h1 : ∀ p' e' v, rNum T N x1 x2 p e = .ok (p', e', v) → ∀ φ', fw φ φ' → RLx T N φ' α p' e' → φ' 11 10 198 = p → Q v φ' α) (h0 : ∀ k pl, rNum T N x1 x2 p e = .error (k, pl) → k ≠ 0 → ∀ v φ', fw φ φ' → RF φ' k pl → Q v φ' α) : eX11_number (d + 1) x1 x2 φ α Q := by
  unfold rNum at h1 h0
  refine r_number R (fun a b c φ1 f1 R1 g1 => ?_) (fun a b c φ1 f1 F1 => ?_) (fun a b φ1 f1 F1 => ?_) (fun a φ1 f1 F1 => ?_)
  · rw [if_pos a, if_pos b, if_pos c] at h1
    exact h1 _ _ _ rfl φ1 f1 R1 g1
  · rw [if_pos a, if_pos b, if_neg c] at h0
    exact h0 _ _ rfl (by omega) _ φ1 f1 F1
  · rw [if_pos a, if_neg b] at h0
    exact h0 _ _ rfl (by omega) _ φ1 f1 F1
  · rw [if_neg a] at h0
    exact h0 _ _ rfl (by omega) _ φ1 f1 F1
theorem r_semi {x : xD} {K : Int → aF → aA → Prop} (h : YG T N φ α (bD x (semi T N)) K) : YG T N φ α x (fun _ φ1 α1 => eX11_asksSign (d + 2) 59 φ1 α1 K) := by
  refine ⟨fun kd pl w hk φ1 α1 f1 F1 => r_asksSignF (by rw [F1.1]; exact hk) (h.1 kd pl (bD_er w) hk φ1 α1 f1 F1), fun p1 e1 M1 n1 G1 lc1 kc1 w φ1 α1 f1 R1 D1 => ?_⟩
  refine r_asksSign ⟨by decide, by omega⟩ R1 (fun hs φ2 f2 R2 => h.2 (avF T N p1) (edF T N p1 e1) M1 n1 G1 lc1 kc1 ?_ φ2 α1 (f1.tr (fh_w f2)) R2 (RD_w f2 (RD_p (le_av R1.2.2.2.2.2.2) D1))) (fun hs φ2 f2 F2 => h.1 1 p1 ?_ (by omega) φ2 α1 (f1.tr (fh_w f2)) F2)
  · rw [bD_ok w]
    exact bd_ok (rSgn_y hs)
  · rw [bD_ok w]
    exact bd_er (rSgn_n hs)
theorem RD_hand (D : RD φ α M n G lc kc p) : RD φ (upa α 225 1 v) M n (un G 3 v) lc kc p := by
  obtain ⟨⟨d1, d2⟩, ⟨m1, m2, m3, m4⟩, d3, d4, d5, d6, d7⟩ := D
  refine ⟨⟨by rw [upa_ni (by omega), un_o (by omega)]; exact d1, by rw [upa_eq, un_s]⟩, ⟨by rw [upa_fn (by omega)]; exact m1, by rw [upa_fn (by omega)]; exact m2, fun k q => ?_, fun k q => ?_⟩, fun c q => ?_, fun c m q1 q2 => ?_, d5, ?_, ?_⟩
  · unfold nmF; rw [upa_fn (by omega), un_o (by omega)]; exact m3 k q
  · unfold nmF; rw [upa_fn (by omega), un_o (by omega)]; exact m4 k q
  · rw [upa_fn (by omega), un_o (by omega), un_o (by omega)]; exact d3 c q
  · rw [upa_fn (by omega), un_o (by omega)]; exact d4 c m q1 q2
  · unfold RK2; rw [upa_fn (by omega), upa_fn (by omega), upa_fn (by omega), un_o (by omega)]; exact d6
  · unfold RK2; rw [upa_fn (by omega), upa_fn (by omega), upa_fn (by omega), un_o (by omega)]; exact d7
theorem RD_mat (hM : M < 4) (D : RD φ α M n G lc kc p) : RD φ (upa (upa α 227 M v) 226 0 ((M : Int) + 1)) (M + 1) n (un G (10 + (M : Int)) v) lc kc p := by
  obtain ⟨⟨d1, d2⟩, ⟨m1, m2, m3, m4⟩, d3, d4, d5, d6, d7⟩ := D
  refine ⟨⟨by rw [upa_fn (by omega), upa_fn (by omega), un_o (by omega)]; exact d1, by rw [upa_fn (by omega), upa_fn (by omega), un_o (by omega)]; exact d2⟩, ⟨⟨by rw [upa_eq]; omega, by omega⟩, ⟨by rw [upa_ni (by omega), upa_fn (by omega)]; exact m2.1, m2.2⟩, fun k q => ?_, fun k q => ?_⟩, fun c q => ?_, fun c m q1 q2 => ?_, d5, ?_, ?_⟩
  · unfold nmF
    rw [upa_fn (by omega)]
    by_cases z : k = M
    · rw [z, upa_eq, un_s]
    · rw [upa_ni (by omega), un_o (by omega)]; exact m3 k (by omega)
  · unfold nmF; rw [upa_fn (by omega), upa_ni (by omega), un_o (by omega)]; exact m4 k q
  · rw [upa_fn (by omega), upa_fn (by omega), un_o (by omega), un_o (by omega)]; exact d3 c q
  · rw [upa_fn (by omega), upa_fn (by omega), un_o (by omega)]; exact d4 c m q1 q2
  · unfold RK2; rw [upa_fn (by omega), upa_fn (by omega), upa_fn (by omega), upa_fn (by omega), upa_fn (by omega), upa_fn (by omega), un_o (by omega)]; exact d6
  · unfold RK2; rw [upa_fn (by omega), upa_fn (by omega), upa_fn (by omega), upa_fn (by omega), upa_fn (by omega), upa_fn (by omega), un_o (by omega)]; exact d7
theorem r_seats (R : RLx T N φ α p e) (D : ∀ x, RD φ (upa α 225 0 x) M n (un G 0 x) lc kc p) (h : YG T N φ α (stS T N f 0 M n G lc kc p e) Q) : eX11_seatsTold (d + 4) φ α Q := by
  have h : YG T N φ α (bD (stF T N f 0 M n G lc kc p e) (semi T N)) (fun _ φ α => Q 0 φ α) := h
  have hs := r_semi (d := d + 1) h
  unfold stF at hs
  rw [if_neg (by omega)] at hs
  have hp := R.2.2.2.2.2.2
  refine vX11_seatsTold_0 (r_asksO 0 (by omega) (by omega) R (fun w φ1 f1 R1 => ?_) (fun w φ1 f1 F1 => ?_))
  · rw [if_neg (fun z => z ⟨w.1, w.2.1⟩), if_pos rfl, if_pos (show wdF T N p = 0 from w.2.2)] at hs
    unfold sSeat at hs
    refine r_num R1 (fun p' e' v w2 φ2 f2 R2 _ => hs.2 _ _ _ _ _ _ _ (bd_ok w2) φ2 (upa α 225 0 v) ((fh_w (f1.tr f2)).tr (fh_a (by unfold lmP; omega))) (RLx_h R2 (fun _ _ => rfl) (fun a q => upa_fn (by omega))) (RD_w (f1.tr f2) (RD_p ?_ (D v)))) (fun k pl w2 hk v φ2 f2 F2 => hs.1 k pl (bd_er w2) hk φ2 (upa α 225 0 v) ((fh_w (f1.tr f2)).tr (fh_a (by unfold lmP; omega))) F2)
    have := rNum_ok w2
    have a1 := le_av (T := T) hp
    have a2 := le_av (T := T) R1.2.2.2.2.2.2
    rw [this.2.2.1]
    omega
  · have hb : φ1 11 5 198 ≠ 0 := by rw [F1.1]; omega
    refine r_numberF hb (hs.1 1 p ?_ (by omega) φ1 (upa α 225 0 0) ((fh_w f1).tr (fh_a (by unfold lmP; omega))) F1)
    by_cases z : kdF T N p = 1 ∧ e ≠ p
    · rw [if_neg (fun y => y z), if_pos rfl, if_neg (fun y : wdF T N p = 0 => w ⟨z.1, z.2, y⟩)]
    · rw [if_pos z]
theorem r_matterTold (R : RLx T N φ α (avF T N p) (edF T N p e)) (D : RD φ α M n G lc kc (avF T N p)) (I : DI M n G lc kc) (h : YG T N φ α (sMat T N M n G lc kc p e) Q) : eX11_matterTold (d + 5) p φ α Q := by
  unfold sMat at h
  have rn := D.2.1
  have hp := R.2.2.2.2.2.2
  refine vX11_matterTold_0 (r_isFull R.2.1 (Or.inl rfl) (fun z φ1 f1 F1 => ⟨fun y => by omega, fun _ => ?_⟩) (fun z => ⟨fun _ => ?_, fun y => absurd rfl y⟩))
  · rw [rn.1.1] at z
    rw [if_neg (by omega)] at h
    exact h.1 5 p rfl (by omega) φ1 α (fh_w f1) F1
  · rw [rn.1.1] at z
    have m4 := I.1.1
    rw [if_pos (by omega)] at h
    refine r_newName R rn I.2.2.1.1 (fun p' e' v w φ1 f1 R1 => ⟨fun _ => ?_, fun y => absurd R1.2.1 y⟩) (fun k pl w hk x φ1 f1 F1 => ⟨fun y => absurd (F1.1.symm.trans y) hk, fun _ => h.1 k pl (bd_er w) hk φ1 α (fh_w f1) F1⟩)
    rw [rn.1.1]
    refine ⟨⟨by omega, by omega⟩, by unfold inR; omega, h.2 _ _ _ _ _ _ _ (bd_ok w) φ1 _ (((fh_w f1).tr (fh_a (by unfold lmP; omega))).tr (fh_a (by unfold lmP; omega))) (RLx_h R1 (fun _ _ => rfl) (fun a q => by rw [upa_fn (by omega), upa_fn (by omega)])) (RD_mat (by omega) (RD_w f1 (RD_p ?_ D)))⟩
    rw [(rGiv_ok hp w).2.2.1]
    exact le_av hp
theorem l_ct43F (h5 : φ 11 5 198 ≠ 0) (hn : α 226 1 = n) (hn7 : n ≤ 7) (h : Q 0 φ α) : ∀ (r k : Nat), k + r = n → jX11_clerkTold_43 (d + 3) v s k φ α Q := by
  intro r
  induction r with
  | zero => intro k hk; exact vX11_clerkTold_43 ⟨fun _ => r_asksF (ca_own (k := 4) (by omega)) h5 (r_numberF h5 ⟨fun z => absurd z h5, fun _ => h⟩), fun z => by omega⟩
  | succ r ih => intro k hk; exact vX11_clerkTold_43 ⟨fun z => by omega, fun _ => ⟨fun _ => ⟨by unfold inR; omega, ih (k + 1) (by omega)⟩, fun z => absurd z h5⟩⟩
theorem l_ct43 (h5 : φ 11 5 198 = 0) (h10 : φ 11 10 198 = pl) (hn : α 226 1 = n) (hn7 : n ≤ 7) (hs : ∀ c : Nat, c < n → α 228 (2 * (c : Int)) = G (40 + (c : Int))) (h1 : fsF (fun k => G (40 + (k : Int)) = s) n 0 = -1 → jX11_clerkTold_43 (d + 3) v s n φ α Q) (h0 : fsF (fun k => G (40 + (k : Int)) = s) n 0 ≠ -1 → ∀ φ', fw φ φ' → RF φ' 2 pl → Q 0 φ' α) : ∀ (r k : Nat), k + r = n → fsF (fun k => G (40 + (k : Int)) = s) n 0 = fsF (fun k => G (40 + (k : Int)) = s) r k → jX11_clerkTold_43 (d + 3) v s k φ α Q := by
  intro r
  induction r with
  | zero =>
    intro k hk e
    have : k = n := by omega
    subst this
    exact h1 (by rw [e]; rfl)
  | succ r ih =>
    intro k hk e
    rw [show fsF (fun k => G (40 + (k : Int)) = s) (r + 1) k = if G (40 + (k : Int)) = s then (k : Int) else fsF (fun k => G (40 + (k : Int)) = s) r (k + 1) from rfl] at e
    refine vX11_clerkTold_43 ⟨fun z => by omega, fun _ => ⟨fun z => absurd h5 z, fun _ => ⟨by unfold inR; omega, ⟨by omega, by omega⟩, ?_⟩⟩⟩
    rw [hs k (by omega)]
    refine ⟨fun z => ⟨by unfold inR; omega, ih (k + 1) (by omega) (by rw [e, if_neg z])⟩, fun z => ?_⟩
    rw [if_pos z] at e
    rw [h10]
    refine r_fail h5 (fun φ1 f1 F1 => ⟨by unfold inR; omega, ?_⟩)
    exact l_ct43F (by rw [F1.1]; omega) hn hn7 (h0 (by rw [e]; omega) φ1 f1 F1) r (k + 1) (by omega)
theorem l_ct161 (hn : n < 7) : ∀ (r k : Nat) (α : aA), k + r = 4 → α 226 1 = n → Q 0 φ (upa (rg α 229 (4 * (n : Int) + (k : Int)) (4 * (n : Int) + 4) (fun _ => 0)) 226 1 ((n : Int) + 1)) → jX11_clerkTold_161 (d + 1) n k φ α Q
  | 0, k, α, hk, ha, h => by
    rw [rg_end (by omega)] at h
    refine vX11_clerkTold_161 ⟨fun _ => ?_, fun z => by omega⟩
    rw [ha]
    exact ⟨by unfold inR; omega, h⟩
  | r + 1, k, α, hk, ha, h => by
    refine vX11_clerkTold_161 ⟨fun z => by omega, fun _ => ⟨by unfold inR; omega, by unfold inR; omega, ⟨by omega, by omega⟩, by unfold inR; omega, ?_⟩⟩
    have := l_ct161 hn r (k + 1) (upa α 229 (4 * (n : Int) + (k : Int)) 0) (by omega) (by rw [upa_fn (by omega)]; exact ha) (by
      rw [show 4 * (n : Int) + ((k + 1 : Nat) : Int) = 4 * (n : Int) + (k : Int) + 1 by omega, rg_step (f := fun _ => 0) (by omega)]
      exact h)
    exact this
theorem RD_clk (hn : n < 7) (I : DI M n G lc kc) (D : RD φ α M n G lc kc p) : RD φ (upa (rg (upa (upa (upa α 227 (8 + (n : Int)) v) 228 (2 * (n : Int)) s) 228 (2 * (n : Int) + 1) r) 229 (4 * (n : Int) + ((0 : Nat) : Int)) (4 * (n : Int) + 4) (fun _ => 0)) 226 1 ((n : Int) + 1)) M (n + 1) (un (un (un G (14 + (n : Int)) v) (40 + (n : Int)) s) (30 + (n : Int)) r) lc kc p := by
  have i8 := I.2.2.2.2.2.1
  obtain ⟨⟨d1, d2⟩, ⟨m1, m2, m3, m4⟩, d3, d4, d5, d6, d7⟩ := D
  have A : ∀ a : Int, a ≠ 226 → a ≠ 227 → a ≠ 228 → a ≠ 229 → upa (rg (upa (upa (upa α 227 (8 + (n : Int)) v) 228 (2 * (n : Int)) s) 228 (2 * (n : Int) + 1) r) 229 (4 * (n : Int) + ((0 : Nat) : Int)) (4 * (n : Int) + 4) (fun _ => 0)) 226 1 ((n : Int) + 1) a = α a := fun a q1 q2 q3 q4 => by rw [upa_fn q1, rg_ne q4, upa_fn q3, upa_fn q3, upa_fn q2]
  refine ⟨⟨by rw [A _ (by omega) (by omega) (by omega) (by omega), un3_o (by omega) (by omega) (by omega)]; exact d1, by rw [A _ (by omega) (by omega) (by omega) (by omega), un3_o (by omega) (by omega) (by omega)]; exact d2⟩, ⟨⟨by rw [upa_ni (by omega), rg_ne (by omega), upa_fn (by omega), upa_fn (by omega), upa_fn (by omega)]; exact m1.1, m1.2⟩, ⟨by rw [upa_eq]; omega, by omega⟩, fun k q => ?_, fun k q => ?_⟩, fun c q => ?_, fun c m q1 q2 => ?_, d5, ?_, ?_⟩
  · unfold nmF
    rw [upa_fn (by omega), rg_ne (by omega), upa_fn (by omega), upa_fn (by omega), upa_ni (by omega), un3_o (by omega) (by omega) (by omega)]; exact m3 k q
  · unfold nmF
    rw [upa_fn (by omega), rg_ne (by omega), upa_fn (by omega), upa_fn (by omega)]
    by_cases z : k = n
    · rw [z, upa_eq, show 10 + (4 + (n : Int)) = 14 + (n : Int) by omega, un_o (by omega), un_o (by omega), un_s]
    · rw [upa_ni (by omega), un3_o (by omega) (by omega) (by omega)]; exact m4 k (by omega)
  · rw [upa_fn (by omega), rg_ne (by omega)]
    by_cases z : c = n
    · rw [z, upa_ni (by omega), upa_eq, upa_eq, un_s, un_o (by omega), un_s]
      exact ⟨rfl, rfl⟩
    · rw [upa_ni (by omega), upa_ni (by omega), upa_fn (by omega), upa_ni (by omega), upa_ni (by omega), upa_fn (by omega), un3_o (by omega) (by omega) (by omega), un3_o (by omega) (by omega) (by omega)]
      exact d3 c (by omega)
  · rw [upa_fn (by omega), un3_o (by omega) (by omega) (by omega)]
    by_cases z : c = n
    · rw [rg_in (by omega), z, (i8 n m (by omega) (by omega) (by omega) (by omega)).2 (by omega)]
    · rw [rg_out (by omega), upa_fn (by omega), upa_fn (by omega), upa_fn (by omega)]
      exact d4 c m (by omega) q2
  · unfold RK2; rw [A _ (by omega) (by omega) (by omega) (by omega), A _ (by omega) (by omega) (by omega) (by omega), A _ (by omega) (by omega) (by omega) (by omega), un3_o (by omega) (by omega) (by omega)]; exact d6
  · unfold RK2; rw [A _ (by omega) (by omega) (by omega) (by omega), A _ (by omega) (by omega) (by omega) (by omega), A _ (by omega) (by omega) (by omega) (by omega), un3_o (by omega) (by omega) (by omega)]; exact d7
theorem r_clerkTold (R : RLx T N φ α (avF T N p) (edF T N p e)) (D : RD φ α M n G lc kc (avF T N p)) (I : DI M n G lc kc) (h : YG T N φ α (sClk T N M n G lc kc p e) Q) : eX11_clerkTold (d + 5) p φ α Q := by
  unfold sClk at h
  have rn := D.2.1
  have hp := R.2.2.2.2.2.2
  have a225 := D.1.1
  have g0 := I.2.1.1
  have n7 := I.1.2
  have caF : isCA 204 (wdl.getD 3 []).length := ca_own (k := 3) (by omega)
  refine vX11_clerkTold_0 (r_isFull R.2.1 (Or.inr rfl) (fun z φ1 f1 F1 => ⟨fun y => by omega, fun _ => ?_⟩) (fun z => ⟨fun _ => ?_, fun y => absurd rfl y⟩))
  · rw [rn.2.1.1] at z
    rw [if_neg (by omega)] at h
    exact h.1 5 p rfl (by omega) φ1 α (fh_w f1) F1
  rw [rn.2.1.1] at z
  rw [if_pos (by omega)] at h
  have inr : inR (α 225 0 - 1) := by rw [a225]; unfold inR; omega
  have bad : ∀ (x y kd pl : Int) (φ1 : aF), fh φ α φ1 α → RF φ1 kd pl → kd ≠ 0 → Q 0 φ1 α → jX11_clerkTold_43 (d + 5) x y 0 φ1 α Q := fun x y kd pl φ1 _ F1 hk hq => l_ct43F (d := d + 2) (by rw [F1.1]; exact hk) rn.2.1.1 n7 hq n 0 (by omega)
  refine r_newName R rn I.2.2.1.1 (fun p1 e1 v w1 φ1 f1 R1 => ?_) (fun k pl w hk x φ1 f1 F1 => r_asksF caF (by rw [F1.1]; exact hk) ⟨inr, r_numberF (by rw [F1.1]; exact hk) (bad _ _ k pl φ1 (fh_w f1) F1 hk (h.1 k pl (bd_er w) hk φ1 α (fh_w f1) F1))⟩)
  rw [bd_ok w1] at h
  have q1 := rGiv_ok hp w1
  have le1 : avF T N p ≤ p1 := by rw [q1.2.2.1]; exact le_av hp
  refine r_asksO 3 (by omega) (by omega) R1 (fun w2 φ2 f2 R2 => ⟨inr, ?_⟩) (fun w2 φ2 f2 F2 => ⟨inr, r_numberF (by rw [F2.1]; omega) (bad _ _ 1 p1 φ2 (fh_w (f1.tr f2)) F2 (by omega) (h.1 1 p1 (bd_er (rWrd_n (w := 3) w2)) (by omega) φ2 α (fh_w (f1.tr f2)) F2))⟩)
  rw [bd_ok (rWrd_y (w := 3) w2)] at h
  have le2 := le_av (T := T) R1.2.2.2.2.2.2
  rw [a225]
  have f12 := f1.tr f2
  refine r_num R2 (fun p3 e3 s w3 φ3 f3 R3 g10 => ?_) (fun k pl w hk x φ3 f3 F3 => bad _ _ k pl φ3 (fh_w (f12.tr f3)) F3 hk (h.1 k pl (bd_er w) hk φ3 α (fh_w (f12.tr f3)) F3))
  rw [bd_ok w3] at h
  have f13 := f12.tr f3
  have q3 := rNum_ok w3
  have le3 : avF T N p1 ≤ p3 := by rw [q3.2.2.1]; exact le_av R2.2.2.2.2.2.2
  refine l_ct43 (d := d + 2) (G := G) R3.2.1 g10 rn.2.1.1 n7 (fun c hc => (D.2.2.1 c hc).1) (fun hfs => ?_) (fun hfs φ4 f4 F4 => ?_) n 0 (by omega) rfl
  · rw [if_pos hfs] at h
    refine vX11_clerkTold_43 ⟨fun _ => ?_, fun y => by rw [rn.2.1.1] at y; omega⟩
    refine r_asksO 4 (by omega) (by omega) R3 (fun w4 φ4 f4 R4 => ?_) (fun w4 φ4 f4 F4 => r_numberF (by rw [F4.1]; omega) ⟨fun y => by rw [F4.1] at y; omega, fun _ => h.1 1 p3 (bd_er (rWrd_n (w := 4) w4)) (by omega) φ4 α (fh_w (f13.tr f4)) F4⟩)
    rw [bd_ok (rWrd_y (w := 4) w4)] at h
    have f14 := f13.tr f4
    refine r_num R4 (fun p5 e5 r w5 φ5 f5 R5 _ => ⟨fun _ => ?_, fun y => absurd R5.2.1 y⟩) (fun k pl w hk x φ5 f5 F5 => ⟨fun y => absurd (F5.1.symm.trans y) hk, fun _ => h.1 k pl (bd_er w) hk φ5 α (fh_w (f14.tr f5)) F5⟩)
    have f15 := f14.tr f5
    have le5 : p3 ≤ p5 := by
      have a1 := le_av (T := T) R3.2.2.2.2.2.2
      have a2 := le_av (T := T) R4.2.2.2.2.2.2
      rw [(rNum_ok w5).2.2.1]
      omega
    rw [rn.2.1.1]
    refine ⟨by unfold inR; omega, ⟨by omega, by omega⟩, by unfold inR; omega, ⟨by omega, by omega⟩, by unfold inR; omega, ⟨by omega, by omega⟩, ?_⟩
    refine l_ct161 (d := d + 4) (by omega) 4 0 _ (by omega) (by rw [upa_fn (by omega), upa_fn (by omega), upa_fn (by omega)]; exact rn.2.1.1) ?_
    refine h.2 _ _ _ _ _ _ _ (bd_ok w5) φ5 _ ⟨fun c g o q => fh_w (α := α) f15 |>.1 c g o q, fun a i q => ?_⟩ (RLx_h R5 (fun _ _ => rfl) (fun a q => by rw [upa_fn (by omega), rg_ne (by omega), upa_fn (by omega), upa_fn (by omega), upa_fn (by omega)])) (RD_clk (by omega) I (RD_w f15 (RD_p (by omega) D)))
    unfold lmP at q
    have e1 : ¬ (a = 226 ∧ i = 1) := by omega
    have e2 : a ≠ 229 := by omega
    have e3 : ¬ (a = 228 ∧ i = 2 * (n : Int) + 1) := by omega
    have e4 : ¬ (a = 228 ∧ i = 2 * (n : Int)) := by omega
    have e5 : ¬ (a = 227 ∧ i = 8 + (n : Int)) := by omega
    simp only [upa, rg]
    rw [if_neg e1, if_neg (fun y => e2 y.1), if_neg e3, if_neg e4, if_neg e5]
  · rw [if_neg hfs] at h
    exact h.1 2 _ rfl (by omega) φ4 α (fh_w (f13.tr f4)) F4
end RI
