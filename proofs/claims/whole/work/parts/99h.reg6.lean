/-! the registry: its statements, read by the class -/
/-- the draft holds what was told -/
def CDr (φ : aF) (α : aA) (M n : Nat) (G : Int → Int) (lc kc : List Int) : Prop :=
  (φ 2 0 19 = 1 ∧ φ 2 2 19 = G 0 ∧ φ 2 3 19 = M ∧ φ 2 4 19 = n ∧ φ 2 5 19 = G 3 ∧ φ 2 6 19 = G 4 ∧ φ 2 7 19 = G 5) ∧ ((∀ i : Int, 0 ≤ i → i < 11 → α 20 i = G (10 + i)) ∧ (∀ i : Int, 0 ≤ i → i < 7 → α 21 i = G (30 + i) ∧ α 22 i = G (40 + i) ∧ α 24 i = G (80 + i)) ∧ (∀ i : Int, 0 ≤ i → i < 28 → α 23 i = G (50 + i))) ∧ (φ 6 1 25 = lc.length ∧ ∀ i : Nat, i < lc.length → α 26 (i : Int) = lc.getD i 0) ∧ (φ 6 1 27 = kc.length ∧ ∀ i : Nat, i < kc.length → α 28 (i : Int) = kc.getD i 0)
/-- all that the class's reading of a registry changes -/
def fg (φ : aF) (α : aA) (φ' : aF) (α' : aA) : Prop := (∀ c f o, c ≠ 8 → ¬ (c = 5 ∧ (f = 3 ∨ f = 4 ∨ f = 5 ∨ f = 6)) → ¬ (c = 2 ∧ o = 19) → ¬ (c = 6 ∧ (o = 25 ∨ o = 27)) → φ' c f o = φ c f o) ∧ ∀ a : Int, ¬ (20 ≤ a ∧ a ≤ 28) → α' a = α a
def XG (T : Int → Int) (N : Nat) (φ : aF) (α : aA) (r : xD) (Q : Int → aF → aA → Prop) : Prop := (∀ k pl, r = .error (k, pl) → ∀ φ' α', fg φ α φ' α' → φ' 5 5 185 = k → φ' 5 6 185 = pl → Q 0 φ' α') ∧ ∀ p' e' M' n' G' lc' kc', r = .ok (p', e', ((M', n'), G', (lc', kc'))) → ∀ φ' α', fg φ α φ' α' → PZ T N φ' α' p' e' → CDr φ' α' M' n' G' lc' kc' → Q 1 φ' α'
theorem ia21 : isIA 21 7 := fun _ => rfl
theorem ia23 : isIA 23 28 := fun _ => rfl
theorem ia24 : isIA 24 7 := fun _ => rfl
section RG
variable {d N p f M n k g : Nat} {φ φ' φ0 φ1 φ2 : aF} {α α' α0 α1 α2 : aA} {Q : Int → aF → aA → Prop} {x1 x2 e w s v a i r : Int} {T nm G : Int → Int} {lc kc : List Int}
theorem fg.rf : fg φ α φ α := ⟨fun _ _ _ _ _ _ _ => rfl, fun _ _ => rfl⟩
theorem fg.tr (h : fg φ α φ1 α1) (h' : fg φ1 α1 φ2 α2) : fg φ α φ2 α2 := ⟨fun c f o q1 q2 q3 q4 => (h'.1 c f o q1 q2 q3 q4).trans (h.1 c f o q1 q2 q3 q4), fun a q => (h'.2 a q).trans (h.2 a q)⟩
theorem fg_p (h : fp φ φ') : fg φ α φ' α := ⟨fun c f o q1 q2 _ _ => h c f o q1 (by omega), fun _ _ => rfl⟩
theorem fg_8 (h : f8 φ φ') : fg φ α φ' α := ⟨fun c f o q1 _ _ _ => h c f o q1, fun _ _ => rfl⟩
theorem fg_u : fg φ α (upf φ 2 g 19 v) α := ⟨fun c f o _ _ q _ => upf_o (by omega), fun _ _ => rfl⟩
theorem fg_a (ha : 20 ≤ a ∧ a ≤ 28) : fg φ α φ (upa α a i v) := ⟨fun _ _ _ _ _ _ _ => rfl, fun b q => upa_fn (by omega)⟩
theorem PZ_u (P : PZ T N φ α p e) : PZ T N (upf φ 2 g 19 v) α p e := by
  obtain ⟨⟨t1, t2, t3, t4, t5⟩, X, h5, he, hp⟩ := P
  exact ⟨⟨by rw [upf_o (by omega)]; exact t1, by rw [upf_o (by omega)]; exact t2, by rw [upf_o (by omega)]; exact t3, by rw [upf_o (by omega)]; exact t4, by rw [upf_o (by omega)]; exact t5⟩, ⟨X.1, by rw [upf_o (by omega)]; exact X.2.1, X.2.2⟩, ⟨by rw [upf_o (by omega)]; exact h5.1, by rw [upf_o (by omega)]; exact h5.2⟩, he, hp⟩
theorem PZ_a (h1 : a ≠ 2) (h2 : a ≠ 187) (P : PZ T N φ α p e) : PZ T N φ (upa α a i v) p e :=
  ⟨P.1, ⟨P.2.1.1, P.2.1.2.1, by rw [upa_fn (Ne.symm h1)]; exact P.2.1.2.2.1, by rw [upa_fn (Ne.symm h2)]; exact P.2.1.2.2.2⟩, P.2.2⟩
theorem CD_f (hf : ∀ g, φ' 2 g 19 = φ 2 g 19) (h25 : φ' 6 1 25 = φ 6 1 25) (h27 : φ' 6 1 27 = φ 6 1 27) (C : CDr φ α M n G lc kc) : CDr φ' α M n G lc kc := by
  unfold CDr at *
  rw [hf, hf, hf, hf, hf, hf, hf, h25, h27]
  exact C
theorem CD_8 (h : f8 φ φ') (C : CDr φ α M n G lc kc) : CDr φ' α M n G lc kc := CD_f (fun _ => h _ _ _ (by omega)) (h _ _ _ (by omega)) (h _ _ _ (by omega)) C
theorem CD_seat (C : CDr φ α M n G lc kc) : CDr (upf φ 2 2 19 v) α M n (un G 0 v) lc kc := by
  obtain ⟨⟨c0, c1, c2, c3, c4, c5, c6⟩, ⟨a1, a2, a3⟩, ⟨l1, l2⟩, k1, k2⟩ := C
  refine ⟨⟨by rw [upf_o (by omega)]; exact c0, by rw [upf_s, un_s], by rw [upf_o (by omega)]; exact c2, by rw [upf_o (by omega)]; exact c3, by rw [upf_o (by omega), un_o (by omega)]; exact c4, by rw [upf_o (by omega), un_o (by omega)]; exact c5, by rw [upf_o (by omega), un_o (by omega)]; exact c6⟩, ⟨fun i q1 q2 => ?_, fun i q1 q2 => ?_, fun i q1 q2 => ?_⟩, ⟨by rw [upf_o (by omega)]; exact l1, l2⟩, by rw [upf_o (by omega)]; exact k1, k2⟩
  · rw [un_o (by omega)]; exact a1 i q1 q2
  · rw [un_o (by omega), un_o (by omega), un_o (by omega)]; exact a2 i q1 q2
  · rw [un_o (by omega)]; exact a3 i q1 q2
theorem CD_hand (C : CDr φ α M n G lc kc) : CDr (upf φ 2 5 19 v) α M n (un G 3 v) lc kc := by
  obtain ⟨⟨c0, c1, c2, c3, c4, c5, c6⟩, ⟨a1, a2, a3⟩, ⟨l1, l2⟩, k1, k2⟩ := C
  refine ⟨⟨by rw [upf_o (by omega)]; exact c0, by rw [upf_o (by omega), un_o (by omega)]; exact c1, by rw [upf_o (by omega)]; exact c2, by rw [upf_o (by omega)]; exact c3, by rw [upf_s, un_s], by rw [upf_o (by omega), un_o (by omega)]; exact c5, by rw [upf_o (by omega), un_o (by omega)]; exact c6⟩, ⟨fun i q1 q2 => ?_, fun i q1 q2 => ?_, fun i q1 q2 => ?_⟩, ⟨by rw [upf_o (by omega)]; exact l1, l2⟩, by rw [upf_o (by omega)]; exact k1, k2⟩
  · rw [un_o (by omega)]; exact a1 i q1 q2
  · rw [un_o (by omega), un_o (by omega), un_o (by omega)]; exact a2 i q1 q2
  · rw [un_o (by omega)]; exact a3 i q1 q2
theorem CD_mat (hM : M < 4) (C : CDr φ α M n G lc kc) : CDr (upf φ 2 3 19 ((M : Int) + 1)) (upa α 20 M v) (M + 1) n (un G (10 + (M : Int)) v) lc kc := by
  obtain ⟨⟨c0, c1, c2, c3, c4, c5, c6⟩, ⟨a1, a2, a3⟩, ⟨l1, l2⟩, k1, k2⟩ := C
  refine ⟨⟨by rw [upf_o (by omega)]; exact c0, by rw [upf_o (by omega), un_o (by omega)]; exact c1, by rw [upf_s]; omega, by rw [upf_o (by omega)]; exact c3, by rw [upf_o (by omega), un_o (by omega)]; exact c4, by rw [upf_o (by omega), un_o (by omega)]; exact c5, by rw [upf_o (by omega), un_o (by omega)]; exact c6⟩, ⟨fun i q1 q2 => ?_, fun i q1 q2 => ?_, fun i q1 q2 => ?_⟩, ⟨by rw [upf_o (by omega)]; exact l1, by rw [upa_fn (by omega)]; exact l2⟩, by rw [upf_o (by omega)]; exact k1, by rw [upa_fn (by omega)]; exact k2⟩
  · by_cases z : i = M
    · rw [z, upa_eq, un_s]
    · rw [upa_ni z, un_o (by omega)]; exact a1 i q1 q2
  · rw [un_o (by omega), un_o (by omega), un_o (by omega), upa_fn (by omega), upa_fn (by omega), upa_fn (by omega)]; exact a2 i q1 q2
  · rw [un_o (by omega), upa_fn (by omega)]; exact a3 i q1 q2
theorem CD_clk (hn : n < 7) (C : CDr φ α M n G lc kc) : CDr (upf φ 2 4 19 ((n : Int) + 1)) (upa (upa (upa α 20 (4 + (n : Int)) v) 22 n s) 21 n r) M (n + 1) (un (un (un G (14 + (n : Int)) v) (40 + (n : Int)) s) (30 + (n : Int)) r) lc kc := by
  obtain ⟨⟨c0, c1, c2, c3, c4, c5, c6⟩, ⟨a1, a2, a3⟩, ⟨l1, l2⟩, k1, k2⟩ := C
  refine ⟨⟨by rw [upf_o (by omega)]; exact c0, by rw [upf_o (by omega), un3_o (by omega) (by omega) (by omega)]; exact c1, by rw [upf_o (by omega)]; exact c2, by rw [upf_s]; omega, by rw [upf_o (by omega), un3_o (by omega) (by omega) (by omega)]; exact c4, by rw [upf_o (by omega), un3_o (by omega) (by omega) (by omega)]; exact c5, by rw [upf_o (by omega), un3_o (by omega) (by omega) (by omega)]; exact c6⟩, ⟨fun i q1 q2 => ?_, fun i q1 q2 => ⟨?_, ?_, ?_⟩, fun i q1 q2 => ?_⟩, ⟨by rw [upf_o (by omega)]; exact l1, by rw [upa_fn (by omega), upa_fn (by omega), upa_fn (by omega)]; exact l2⟩, by rw [upf_o (by omega)]; exact k1, by rw [upa_fn (by omega), upa_fn (by omega), upa_fn (by omega)]; exact k2⟩
  · rw [upa_fn (by omega), upa_fn (by omega)]
    by_cases z : i = 4 + n
    · rw [z, upa_eq, show 10 + (4 + (n : Int)) = 14 + (n : Int) by omega, un_o (by omega), un_o (by omega), un_s]
    · rw [upa_ni z, un3_o (by omega) (by omega) (by omega)]; exact a1 i q1 q2
  · by_cases z : i = n
    · rw [z, upa_eq, un_s]
    · rw [upa_ni z, upa_fn (by omega), upa_fn (by omega), un3_o (by omega) (by omega) (by omega)]; exact (a2 i q1 q2).1
  · rw [upa_fn (by omega)]
    by_cases z : i = n
    · rw [z, upa_eq, un_o (by omega), un_s]
    · rw [upa_ni z, upa_fn (by omega), un3_o (by omega) (by omega) (by omega)]; exact (a2 i q1 q2).2.1
  · rw [upa_fn (by omega), upa_fn (by omega), upa_fn (by omega), un3_o (by omega) (by omega) (by omega)]; exact (a2 i q1 q2).2.2
  · rw [upa_fn (by omega), upa_fn (by omega), upa_fn (by omega), un3_o (by omega) (by omega) (by omega)]; exact a3 i q1 q2
theorem CD_tld {c m : Nat} (hc : c < 7) (hm : m < 4) (C : CDr φ α M n G lc kc) : CDr φ (upa (upa α 23 ((c : Int) * 4 + (m : Int)) (α 23 ((c : Int) * 4 + (m : Int)) + v)) 24 c (upa α 23 ((c : Int) * 4 + (m : Int)) (α 23 ((c : Int) * 4 + (m : Int)) + v) 24 c + v)) M n (un (un G (50 + 4 * (c : Int) + (m : Int)) (G (50 + 4 * (c : Int) + (m : Int)) + v)) (80 + (c : Int)) (G (80 + (c : Int)) + v)) lc kc := by
  obtain ⟨⟨c0, c1, c2, c3, c4, c5, c6⟩, ⟨a1, a2, a3⟩, ⟨l1, l2⟩, k1, k2⟩ := C
  refine ⟨⟨c0, by rw [un2_o (by omega) (by omega)]; exact c1, c2, c3, by rw [un2_o (by omega) (by omega)]; exact c4, by rw [un2_o (by omega) (by omega)]; exact c5, by rw [un2_o (by omega) (by omega)]; exact c6⟩, ⟨fun i q1 q2 => ?_, fun i q1 q2 => ⟨?_, ?_, ?_⟩, fun i q1 q2 => ?_⟩, ⟨l1, by rw [upa_fn (by omega), upa_fn (by omega)]; exact l2⟩, k1, by rw [upa_fn (by omega), upa_fn (by omega)]; exact k2⟩
  · rw [upa_fn (by omega), upa_fn (by omega), un2_o (by omega) (by omega)]; exact a1 i q1 q2
  · rw [upa_fn (by omega), upa_fn (by omega), un2_o (by omega) (by omega)]; exact (a2 i q1 q2).1
  · rw [upa_fn (by omega), upa_fn (by omega), un2_o (by omega) (by omega)]; exact (a2 i q1 q2).2.1
  · by_cases z : i = c
    · rw [z, upa_eq, un_s, upa_fn (by omega), (a2 c (by omega) (by omega)).2.2]
    · rw [upa_ni z, upa_fn (by omega), un2_o (by omega) (by omega)]; exact (a2 i q1 q2).2.2
  · rw [upa_fn (by omega)]
    by_cases z : i = (c : Int) * 4 + m
    · rw [z, upa_eq, a3 _ (by omega) (by omega), show 50 + ((c : Int) * 4 + (m : Int)) = 50 + 4 * (c : Int) + (m : Int) by omega, un_o (by omega), un_s]
    · rw [upa_ni z, un2_o (by omega) (by omega)]; exact a3 i q1 q2
theorem z_readSeats (P : PZ T N φ α p e) (C : CDr φ α M n G lc kc) (hw : kdF T N p = 1 ∧ e ≠ p) (h : XG T N φ α (sSeat T N M n G lc kc p e) Q) : eX5_readSeats (d + 4) φ α Q := by
  refine vX5_readSeats_0 (PZ_scan P (by rw [hw.1]; omega) (fun _ => hw.2) (fun φ1 f1 P1 => z_readNumber P1 ⟨fun k pl w φ2 f2 a b => ⟨fun _ => h.1 k pl (by unfold sSeat; rw [bd_er w]) _ _ (((fg_8 f1).tr (fg_p f2)).tr fg_u) (by rw [upf_o (by omega)]; exact a) (by rw [upf_o (by omega)]; exact b), fun z => absurd rfl z⟩, fun p' e' v w φ2 f2 P2 => ⟨fun z => ?_, fun _ => ?_⟩⟩))
  · have := (rNum_ok w).1; omega
  · exact h.2 _ _ _ _ _ _ _ (by unfold sSeat; rw [bd_ok w]) _ _ (((fg_8 f1).tr (fg_8 f2)).tr fg_u) (PZ_u P2) (CD_seat (CD_8 f2 (CD_8 f1 C)))
theorem z_readHand (P : PZ T N φ α p e) (C : CDr φ α M n G lc kc) (hw : kdF T N p = 1 ∧ e ≠ p) (h : XG T N φ α (sHnd T N M n G lc kc p e) Q) : eX5_readHand (d + 4) φ α Q := by
  refine vX5_readHand_0 (PZ_scan P (by rw [hw.1]; omega) (fun _ => hw.2) (fun φ1 f1 P1 => z_readNumber P1 ⟨fun k pl w φ2 f2 a b => ⟨fun _ => h.1 k pl (by unfold sHnd; rw [bd_er w]) _ _ (((fg_8 f1).tr (fg_p f2)).tr fg_u) (by rw [upf_o (by omega)]; exact a) (by rw [upf_o (by omega)]; exact b), fun z => absurd rfl z⟩, fun p' e' v w φ2 f2 P2 => ⟨fun z => ?_, fun _ => ?_⟩⟩))
  · have := (rNum_ok w).1; omega
  · exact h.2 _ _ _ _ _ _ _ (by unfold sHnd; rw [bd_ok w]) _ _ (((fg_8 f1).tr (fg_8 f2)).tr fg_u) (PZ_u P2) (CD_hand (CD_8 f2 (CD_8 f1 C)))
theorem z_readMatter (P : PZ T N φ α p e) (C : CDr φ α M n G lc kc) (I : DI M n G lc kc) (hw : kdF T N p = 1 ∧ e ≠ p) (h : XG T N φ α (sMat T N M n G lc kc p e) Q) : eX5_readMatter (d + 4) φ α Q := by
  have cM := C.1.2.2.1
  unfold sMat at h
  refine vX5_readMatter_0 ⟨fun q => ?_, fun q => ?_⟩
  · rw [cM] at q
    rw [if_pos (by omega)] at h
    refine PZ_scan P (by rw [hw.1]; omega) (fun _ => hw.2) (fun φ1 f1 P1 => ?_)
    have C1 := CD_8 f1 C
    rw [C1.1.2.2.1]
    refine z_giveName (d := d + 1) (nm := nmF G) (by omega) P1 (fun k hk => C1.2.1.1 k (by omega) (by omega)) (fun k pl w φ2 f2 a b => ⟨fun z => absurd rfl z, fun _ => h.1 k pl (bd_er w) _ _ ((fg_8 f1).tr (fg_p f2)) a b⟩) (fun p' e' v w φ2 f2 P2 => ⟨fun _ => ?_, fun z => by omega⟩)
    have C2 := CD_8 f2 C1
    rw [C2.1.2.2.1]
    exact ⟨by unfold inR; omega, h.2 _ _ _ _ _ _ _ (bd_ok w) _ _ ((((fg_8 f1).tr (fg_8 f2)).tr (fg_a (by omega))).tr fg_u) (PZ_u P2) (CD_mat (by omega) C2)⟩
  · rw [cM] at q
    rw [if_neg (by omega)] at h
    rw [P.1.1]
    exact z_refuse (fun φ' f' a b => ⟨Or.inl rfl, h.1 5 p rfl φ' α (fg_p f') a b⟩)
theorem z_readClerk (P : PZ T N φ α p e) (C : CDr φ α M n G lc kc) (I : DI M n G lc kc) (hw : kdF T N p = 1 ∧ e ≠ p) (h : XG T N φ α (sClk T N M n G lc kc p e) Q) : eX5_readClerk (d + 4) φ α Q := by
  have cn := C.1.2.2.2.1
  have g0 := I.2.1.1
  unfold sClk at h
  refine vX5_readClerk_0 ⟨fun q => ?_, fun q => ?_⟩
  · rw [cn] at q ⊢
    rw [if_pos (by omega)] at h
    refine PZ_scan P (by rw [hw.1]; omega) (fun _ => hw.2) (fun φ1 f1 P1 => ⟨by unfold inR; omega, ?_⟩)
    have C1 := CD_8 f1 C
    refine z_giveName (d := d + 1) (nm := nmF G) (by omega) P1 (fun k hk => C1.2.1.1 k (by omega) (by omega)) (fun k pl w φ2 f2 a b => ⟨fun _ => h.1 k pl (bd_er w) _ _ ((fg_8 f1).tr (fg_p f2)) a b, fun z => absurd rfl z⟩) (fun p1 e1 v w1 φ2 f2 P2 => ⟨fun z => by omega, fun _ => ?_⟩)
    have C2 := CD_8 f2 C1
    have F2 : fg φ α φ2 (upa α 20 (4 + (n : Int)) v) := ((fg_8 f1).tr (fg_8 f2)).tr (fg_a (by omega))
    rw [bd_ok w1] at h
    refine z_takeWord (d := d + 1) P2 ⟨fun k pl w φ3 f3 a b => ⟨fun z => absurd rfl z, fun _ => h.1 k pl (bd_er w) _ _ (F2.tr (fg_p f3)) a b⟩, fun p2 e2 v2 w2 φ3 f3 P3 => ⟨fun _ => ?_, fun z => by omega⟩⟩
    have C3 := CD_8 f3 C2
    have F3 := F2.tr (fg_8 f3)
    rw [bd_ok w2] at h
    rw [C3.1.2.1, P3.1.1]
    refine ⟨by unfold inR; omega, z_readNumber (d := d) P3 ⟨fun k pl w φ4 f4 a b => ⟨fun _ => h.1 k pl (bd_er w) _ _ (F3.tr (fg_p f4)) a b, fun z => absurd rfl z⟩, fun p3 e3 s w3 φ4 f4 P4 => ⟨fun z => ?_, fun _ => ?_⟩⟩⟩
    · have := (rNum_ok w3).1; omega
    have C4 := CD_8 f4 C3
    have F4 := F3.tr (fg_8 f4)
    rw [bd_ok w3] at h
    refine z_isTaken (d := d + 2) (st := fun i => G (40 + i)) C4.1.2.2.2.1 I.1.2 (fun k hk => by rw [upa_fn (by omega)]; exact (C4.2.1.2.1 k (by omega) (by omega)).2.1) (Or.inr rfl) ?_
    by_cases q2 : fsF (fun k => G (40 + (k : Int)) = s) n 0 = -1
    · rw [if_pos q2]
      rw [if_pos q2] at h
      refine ⟨fun _ => ?_, fun z => absurd rfl z⟩
      refine z_takeWord (d := d + 1) P4 ⟨fun k pl w φ5 f5 a b => ⟨fun z => absurd rfl z, fun _ => h.1 k pl (bd_er w) _ _ (F4.tr (fg_p f5)) a b⟩, fun p4 e4 v4 w4 φ5 f5 P5 => ⟨fun _ => ?_, fun z => by omega⟩⟩
      have C5 := CD_8 f5 C4
      have F5 := F4.tr (fg_8 f5)
      rw [bd_ok w4] at h
      refine z_readNumber (d := d) P5 ⟨fun k pl w φ6 f6 a b => c_set (n := 7) ia22 (by omega) (c_set (n := 7) ia21 (by omega) ?_), fun p5 e5 r w5 φ6 f6 P6 => c_set (n := 7) ia22 (by omega) (c_set (n := 7) ia21 (by omega) ?_)⟩
      · have c6 : φ6 2 4 19 = n := by rw [f6 _ _ _ (by omega) (by omega)]; exact C5.1.2.2.2.1
        rw [c6]
        exact ⟨by unfold inR; omega, fun _ => h.1 k pl (bd_er w) _ _ ((((F5.tr (fg_p f6)).tr (fg_a (by omega))).tr (fg_a (by omega))).tr fg_u) (by rw [upf_o (by omega)]; exact a) (by rw [upf_o (by omega)]; exact b), fun z => absurd rfl z⟩
      · have C6 := CD_8 f6 C5
        rw [C6.1.2.2.2.1]
        refine ⟨by unfold inR; omega, fun z => ?_, fun _ => ?_⟩
        · have := (rNum_ok w5).1; omega
        · exact h.2 _ _ _ _ _ _ _ (bd_ok w5) _ _ ((((F5.tr (fg_8 f6)).tr (fg_a (by omega))).tr (fg_a (by omega))).tr fg_u) (PZ_u (PZ_a (by omega) (by omega) (PZ_a (by omega) (by omega) P6))) (CD_clk (by omega) C6)
    · rw [if_neg q2]
      rw [if_neg q2] at h
      exact ⟨fun z => by omega, fun _ => z_refuse (fun φ' f' a b => ⟨Or.inl rfl, h.1 2 p2 rfl φ' _ (F4.tr (fg_p f')) a b⟩)⟩
  · rw [cn] at q
    rw [if_neg (by omega)] at h
    rw [P.1.1]
    exact z_refuse (fun φ' f' a b => ⟨Or.inl rfl, h.1 5 p rfl φ' α (fg_p f') a b⟩)
theorem z_readTold (P : PZ T N φ α p e) (C : CDr φ α M n G lc kc) (I : DI M n G lc kc) (hw : kdF T N p = 1 ∧ e ≠ p) (h : XG T N φ α (sTld T N M n G lc kc p e) Q) : eX5_readTold (d + 4) φ α Q := by
  unfold sTld at h
  have i1 := I.1
  refine vX5_readTold_0 (PZ_scan P (by rw [hw.1]; omega) (fun _ => hw.2) (fun φ1 f1 P1 => ?_))
  have C1 := CD_8 f1 C
  rw [C1.1.2.2.2.1]
  refine z_findName (d := d + 1) (nm := nmF G) (by omega) P1 (fun k hk => C1.2.1.1 _ (by omega) (by omega)) ⟨fun k pl w φ2 f2 a b => ⟨fun _ => h.1 k pl (bd_er w) _ _ ((fg_8 f1).tr (fg_p f2)) a b, fun z => absurd rfl z⟩, fun p1 e1 c w1 φ2 f2 P2 => ?_⟩
  obtain ⟨⟨ci, c1, c2⟩, -⟩ := rFnd_ok w1
  subst c2
  refine ⟨fun z => by omega, fun _ => ?_⟩
  have C2 := CD_8 f2 C1
  have F2 : fg φ α φ2 α := (fg_8 f1).tr (fg_8 f2)
  rw [bd_ok w1] at h
  refine z_takeWord (d := d + 1) P2 ⟨fun k pl w φ3 f3 a b => ⟨fun z => absurd rfl z, fun _ => h.1 k pl (bd_er w) _ _ (F2.tr (fg_p f3)) a b⟩, fun p2 e2 v2 w2 φ3 f3 P3 => ⟨fun _ => ?_, fun z => by omega⟩⟩
  have C3 := CD_8 f3 C2
  have F3 := F2.tr (fg_8 f3)
  rw [bd_ok w2] at h
  rw [C3.1.2.2.1]
  refine z_findName (d := d + 1) (nm := nmF G) (by omega) P3 (fun k hk => C3.2.1.1 _ (by omega) (by omega)) ⟨fun k pl w φ4 f4 a b => ⟨fun z => absurd rfl z, fun _ => h.1 k pl (bd_er w) _ _ (F3.tr (fg_p f4)) a b⟩, fun p3 e3 m w3 φ4 f4 P4 => ?_⟩
  obtain ⟨⟨mi, m1, m2⟩, -⟩ := rFnd_ok w3
  subst m2
  refine ⟨fun _ => ?_, fun z => by omega⟩
  have C4 := CD_8 f4 C3
  have F4 := F3.tr (fg_8 f4)
  rw [bd_ok w3] at h
  have b4 := C4.2.1.2.1 ci (by omega) (by omega)
  have i6 := I.2.2.2.1 ci c1
  have i9 := I.2.2.2.2.2.2.1 ci (by omega) (by omega)
  have j0 := I.2.2.2.2.2.1 ci 0 (by omega) (by omega) (by omega) (by omega)
  have j1 := I.2.2.2.2.2.1 ci 1 (by omega) (by omega) (by omega) (by omega)
  have j2 := I.2.2.2.2.2.1 ci 2 (by omega) (by omega) (by omega) (by omega)
  have j3' := I.2.2.2.2.2.1 ci 3 (by omega) (by omega) (by omega) (by omega)
  have jm := I.2.2.2.2.2.1 ci mi (by omega) (by omega) (by omega) (by omega)
  have nn : 0 ≤ G (80 + (ci : Int)) := by rw [i9]; omega
  have jle : G (50 + 4 * (ci : Int) + (mi : Int)) ≤ G (80 + (ci : Int)) := by
    rw [i9]
    rcases (show mi = 0 ∨ mi = 1 ∨ mi = 2 ∨ mi = 3 by omega) with rfl | rfl | rfl | rfl
    · rw [show 50 + 4 * (ci : Int) + ((0 : Nat) : Int) = 50 + 4 * (ci : Int) + 0 by omega]; omega
    · rw [show 50 + 4 * (ci : Int) + ((1 : Nat) : Int) = 50 + 4 * (ci : Int) + 1 by omega]; omega
    · rw [show 50 + 4 * (ci : Int) + ((2 : Nat) : Int) = 50 + 4 * (ci : Int) + 2 by omega]; omega
    · rw [show 50 + 4 * (ci : Int) + ((3 : Nat) : Int) = 50 + 4 * (ci : Int) + 3 by omega]; omega
  refine c_pick (n := 7) ia21 (by omega) (c_pick (n := 7) ia24 (by omega) ?_)
  rw [b4.1, b4.2.2]
  refine ⟨by unfold inR; omega, z_readNumber (d := d) P4 ⟨fun k pl w φ5 f5 a b => ⟨fun z => absurd rfl z, fun _ => h.1 k pl (bd_er w) _ _ (F4.tr (fg_p f5)) a b⟩, fun p4 e4 v w4 φ5 f5 P5 => ?_⟩⟩
  have vb := (rNum_ok w4).1
  have C5 := CD_8 f5 C4
  have a23 := C5.2.1.2.2 ((ci : Int) * 4 + mi) (by omega) (by omega)
  rw [show 50 + ((ci : Int) * 4 + (mi : Int)) = 50 + 4 * (ci : Int) + (mi : Int) by omega] at a23
  refine ⟨fun _ => ⟨by unfold inR; omega, by unfold inR; omega, c_add (n := 28) ia23 (by omega) (by rw [a23]; unfold inR; omega) (c_add (n := 7) ia24 (by omega) (by rw [upa_fn (by omega), b4.2.2]; unfold inR; omega) ?_)⟩, fun z => by omega⟩
  exact h.2 _ _ _ _ _ _ _ (bd_ok w4) _ _ (((F4.tr (fg_8 f5)).tr (fg_a (by omega))).tr (fg_a (by omega))) (PZ_a (by omega) (by omega) (PZ_a (by omega) (by omega) P5)) (CD_tld (by omega) (by omega) C5)
end RG
