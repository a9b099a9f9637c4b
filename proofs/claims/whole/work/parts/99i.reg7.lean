/-! the registry: the codes it tells, and all its statements, read by the class -/
def fgr (r : Int) (φ : aF) (α : aA) (φ' : aF) (α' : aA) : Prop := (∀ c f o, c ≠ 8 → ¬ (c = 5 ∧ (f = 3 ∨ f = 4 ∨ f = 5 ∨ f = 6)) → ¬ (c = 6 ∧ o = r) → φ' c f o = φ c f o) ∧ ∀ a : Int, a ≠ r + 1 → α' a = α a
section RH
variable {d N p f M n k g : Nat} {φ φ' φ0 φ1 φ2 : aF} {α α' α0 α1 α2 : aA} {Q : Int → aF → aA → Prop} {x1 x2 e w s v a i r : Int} {T nm G : Int → Int} {lc kc : List Int} {X : Except (Int × Int) (Nat × dS)}
theorem z_rd {lv : Nat} {tg : Int} (hr : r = 25 ∨ r = 27) (hlv : lv ≤ 9) (hf : 12 * N + 11 ≤ f) (P : PZ T N φ α p e) (hE : ∀ k pl, rd T N tg f lv 0 p e = .error (k, pl) → ∀ φ' α', fgr r φ α φ' α' → φ' 5 5 185 = k → φ' 5 6 185 = pl → Q 0 φ' α') (hO : ∀ p' e' c, rd T N tg f lv 0 p e = .ok (p', e', c) → ∀ φ' α', fgr r φ α φ' α' → PZ T N φ' α' p' e' → φ' 6 1 r = c.length → (∀ i : Nat, i < c.length → α' (r + 1) (i : Int) = c.getD i 0) → Q 1 φ' α') : cE lv (d + 80) (0 : Nat) (0 : Nat) (upf (upf (upf φ 6 1 r 0) 5 3 185 r) 5 4 185 tg) α Q := by
  obtain ⟨⟨t1, t2, t3, t4, t5⟩, X, h5, he, hp⟩ := P
  have e5 : ∀ c g o, c ≠ 5 → ¬ (c = 6 ∧ o = r) → upf (upf (upf φ 6 1 r 0) 5 3 185 r) 5 4 185 tg c g o = φ c g o := fun c g o q1 q2 => by rw [upf_o (by omega), upf_o (by omega), upf_o (by omega)]
  have F2 : fgr r φ α (upf (upf (upf φ 6 1 r 0) 5 3 185 r) 5 4 185 tg) α := ⟨fun c g o q1 q2 q3 => by rw [upf_o (by omega), upf_o (by omega), upf_o (by omega)], fun _ _ => rfl⟩
  have PP : PS T N r tg (upf (upf (upf φ 6 1 r 0) 5 3 185 r) 5 4 185 tg) α p e [] := ⟨⟨by rw [e5 _ _ _ (by omega) (by omega)]; exact t1, by rw [e5 _ _ _ (by omega) (by omega)]; exact t2, by rw [e5 _ _ _ (by omega) (by omega)]; exact t3, by rw [e5 _ _ _ (by omega) (by omega)]; exact t4, by rw [e5 _ _ _ (by omega) (by omega)]; exact t5⟩, ⟨X.1, by rw [e5 _ _ _ (by omega) (by omega)]; exact X.2.1, X.2.2⟩, ⟨by rw [upf_o (by omega), upf_s], by rw [upf_o (by omega), upf_o (by omega), upf_o (by omega)]; exact h5.1, by rw [upf_o (by omega), upf_o (by omega), upf_o (by omega)]; exact h5.2⟩, upf_s, ⟨by rw [upf_o (by omega), upf_o (by omega), upf_s]; rfl, fun i hi => by cases hi⟩, he, hp⟩
  generalize upf (upf (upf φ 6 1 r 0) 5 3 185 r) 5 4 185 tg = φ3 at *
  have fr2 : ∀ φ' α', fx r φ3 α φ' α' → fgr r φ α φ' α' := fun φ' α' x => ⟨fun c g o q1 q2 q3 => by rw [x.1 c g o q1 (by omega) q3]; exact F2.1 c g o q1 q2 q3, fun a q => (x.2 a q).trans (F2.2 a q)⟩
  exact c_rd (by omega) f lv hlv (d + 80) 0 p 0 e [] φ3 α (by omega) (by have := (drF_le lv).2; omega) (by have := (rkF_le lv).2; omega) PP (by simp) (by omega) Q (fun k pl φ' α' w x a b => hE k pl w φ' α' (fr2 φ' α' x) a b) (fun p' e' c φ' α' w x P' => hO p' e' c w φ' α' (fr2 φ' α' x) ⟨P'.1, P'.2.1, ⟨P'.2.2.1.2.1, P'.2.2.1.2.2⟩, P'.2.2.2.2.2.1, P'.2.2.2.2.2.2⟩ P'.2.2.2.2.1.1 (fun i hi => P'.2.2.2.2.1.2 i hi))
theorem z_sum {tg : Int} (hr : r = 25 ∨ r = 27) (hf : 12 * N + 11 ≤ f) (P : PZ T N φ α p e) (hE : ∀ k pl, rd T N tg f 3 0 p e = .error (k, pl) → ∀ φ' α', fgr r φ α φ' α' → φ' 5 5 185 = k → φ' 5 6 185 = pl → Q 0 φ' α') (hO : ∀ p' e' c, rd T N tg f 3 0 p e = .ok (p', e', c) → ∀ φ' α', fgr r φ α φ' α' → PZ T N φ' α' p' e' → φ' 6 1 r = c.length → (∀ i : Nat, i < c.length → α' (r + 1) (i : Int) = c.getD i 0) → Q 1 φ' α') : eX5_readSum (d + 80) 0 (upf (upf (upf φ 6 1 r 0) 5 3 185 r) 5 4 185 tg) α Q := z_rd (lv := 3) hr (by omega) hf P hE hO
theorem z_test {tg : Int} (hr : r = 25 ∨ r = 27) (hf : 12 * N + 11 ≤ f) (P : PZ T N φ α p e) (hE : ∀ k pl, rd T N tg f 0 0 p e = .error (k, pl) → ∀ φ' α', fgr r φ α φ' α' → φ' 5 5 185 = k → φ' 5 6 185 = pl → Q 0 φ' α') (hO : ∀ p' e' c, rd T N tg f 0 0 p e = .ok (p', e', c) → ∀ φ' α', fgr r φ α φ' α' → PZ T N φ' α' p' e' → φ' 6 1 r = c.length → (∀ i : Nat, i < c.length → α' (r + 1) (i : Int) = c.getD i 0) → Q 1 φ' α') : eX5_readTest (d + 80) 0 (upf (upf (upf φ 6 1 r 0) 5 3 185 r) 5 4 185 tg) α Q := z_rd (lv := 0) hr (by omega) hf P hE hO
theorem CD_lk {c : List Int} (C : CDr φ α M n G lc kc) (f1 : f8 (upf φ 2 6 19 1) φ1) (x : fgr 25 φ1 α φ' α') (h1 : φ' 6 1 25 = c.length) (h2 : ∀ i : Nat, i < c.length → α' (25 + 1) (i : Int) = c.getD i 0) : CDr φ' α' M n (un G 4 1) c kc := by
  obtain ⟨⟨c0, c1, c2, c3, c4, c5, c6⟩, ⟨a1, a2, a3⟩, ⟨l1, l2⟩, k1, k2⟩ := C
  have E : ∀ c g o, (c = 2 ∧ g ≠ 6) ∨ (c = 6 ∧ o = 27) → φ' c g o = φ c g o := fun c g o q => by rw [x.1 c g o (by omega) (by omega) (by omega), f1 c g o (by omega), upf_o (by omega)]
  have e6 : φ' 2 6 19 = 1 := by rw [x.1 _ _ _ (by omega) (by omega) (by omega), f1 _ _ _ (by omega), upf_s]
  have A : ∀ a, a ≠ 26 → α' a = α a := fun a q => x.2 a (by omega)
  refine ⟨⟨by rw [E _ _ _ (by omega)]; exact c0, by rw [E _ _ _ (by omega), un_o (by omega)]; exact c1, by rw [E _ _ _ (by omega)]; exact c2, by rw [E _ _ _ (by omega)]; exact c3, by rw [E _ _ _ (by omega), un_o (by omega)]; exact c4, by rw [e6, un_s], by rw [E _ _ _ (by omega), un_o (by omega)]; exact c6⟩, ⟨fun i q1 q2 => ?_, fun i q1 q2 => ?_, fun i q1 q2 => ?_⟩, ⟨h1, h2⟩, by rw [E _ _ _ (by omega)]; exact k1, by rw [A _ (by omega)]; exact k2⟩
  · rw [un_o (by omega), A _ (by omega)]; exact a1 i q1 q2
  · rw [un_o (by omega), un_o (by omega), un_o (by omega), A _ (by omega), A _ (by omega), A _ (by omega)]; exact a2 i q1 q2
  · rw [un_o (by omega), A _ (by omega)]; exact a3 i q1 q2
theorem CD_sh {c : List Int} (C : CDr φ α M n G lc kc) (f1 : f8 (upf φ 2 7 19 1) φ1) (x : fgr 27 φ1 α φ' α') (h1 : φ' 6 1 27 = c.length) (h2 : ∀ i : Nat, i < c.length → α' (27 + 1) (i : Int) = c.getD i 0) : CDr φ' α' M n (un G 5 1) lc c := by
  obtain ⟨⟨c0, c1, c2, c3, c4, c5, c6⟩, ⟨a1, a2, a3⟩, ⟨l1, l2⟩, k1, k2⟩ := C
  have E : ∀ c g o, (c = 2 ∧ g ≠ 7) ∨ (c = 6 ∧ o = 25) → φ' c g o = φ c g o := fun c g o q => by rw [x.1 c g o (by omega) (by omega) (by omega), f1 c g o (by omega), upf_o (by omega)]
  have e6 : φ' 2 7 19 = 1 := by rw [x.1 _ _ _ (by omega) (by omega) (by omega), f1 _ _ _ (by omega), upf_s]
  have A : ∀ a, a ≠ 28 → α' a = α a := fun a q => x.2 a (by omega)
  refine ⟨⟨by rw [E _ _ _ (by omega)]; exact c0, by rw [E _ _ _ (by omega), un_o (by omega)]; exact c1, by rw [E _ _ _ (by omega)]; exact c2, by rw [E _ _ _ (by omega)]; exact c3, by rw [E _ _ _ (by omega), un_o (by omega)]; exact c4, by rw [E _ _ _ (by omega), un_o (by omega)]; exact c5, by rw [e6, un_s]⟩, ⟨fun i q1 q2 => ?_, fun i q1 q2 => ?_, fun i q1 q2 => ?_⟩, ⟨by rw [E _ _ _ (by omega)]; exact l1, by rw [A _ (by omega)]; exact l2⟩, h1, h2⟩
  · rw [un_o (by omega), A _ (by omega)]; exact a1 i q1 q2
  · rw [un_o (by omega), un_o (by omega), un_o (by omega), A _ (by omega), A _ (by omega), A _ (by omega)]; exact a2 i q1 q2
  · rw [un_o (by omega), A _ (by omega)]; exact a3 i q1 q2
theorem fgr_g (hr : r = 25 ∨ r = 27) (h : fgr r φ α φ' α') : fg φ α φ' α' := ⟨fun c f o q1 q2 q3 q4 => h.1 c f o q1 q2 (by omega), fun a q => h.2 a (by omega)⟩
theorem z_leaks (P : PZ T N φ α p e) (C : CDr φ α M n G lc kc) (hf : 12 * N + 11 ≤ f) (hw : kdF T N p = 1 ∧ e ≠ p) (h : XG T N φ α (sLk T N f M n G lc kc p e) Q) : eX5_speakLeaks (d + 80) φ α (fun r18 φ18 α18 => ((r18 = 0 → (Q 0 φ18 α18)) ∧ (¬ (r18 = 0) → (eX5_readSum (d + 80) 0 φ18 α18 (fun r20 φ20 α20 => ((r20 = 0 → (Q 0 φ20 α20)) ∧ (¬ (r20 = 0) → (Q 1 φ20 α20)))))))) := by
  have c5 := C.1.2.2.2.2.2.1
  unfold sLk at h
  refine vX5_speakLeaks_0 ⟨fun q => ?_, fun q => ?_⟩
  · rw [c5] at q
    rw [if_pos q] at h
    refine PZ_scan (PZ_u P) (by rw [hw.1]; omega) (fun _ => hw.2) (fun φ1 f1 P1 => vX5_speak_0 row25 (c_clear row25 ⟨fun z => by omega, fun _ => ?_⟩))
    exact z_sum (Or.inl rfl) hf P1 (fun k pl w φ' α' x a b => ⟨fun _ => h.1 k pl (bk_er w) φ' α' ((fg_u.tr (fg_8 f1)).tr (fgr_g (Or.inl rfl) x)) a b, fun z => absurd rfl z⟩) (fun p' e' c w φ' α' x P' l1 l2 => ⟨fun z => by omega, fun _ => h.2 _ _ _ _ _ _ _ (bk_ok w) φ' α' ((fg_u.tr (fg_8 f1)).tr (fgr_g (Or.inl rfl) x)) P' (CD_lk C f1 x l1 l2)⟩)
  · rw [c5] at q
    rw [if_neg q] at h
    rw [P.1.1]
    exact z_refuse (fun φ' f' a b => ⟨Or.inl rfl, fun _ => h.1 5 p rfl φ' α (fg_p f') a b, fun z => absurd rfl z⟩)
theorem z_shakes (P : PZ T N φ α p e) (C : CDr φ α M n G lc kc) (hf : 12 * N + 11 ≤ f) (hw : kdF T N p = 1 ∧ e ≠ p) (h : XG T N φ α (sSh T N f M n G lc kc p e) Q) : eX5_speakShakes (d + 80) φ α (fun r18 φ18 α18 => ((r18 = 0 → (Q 0 φ18 α18)) ∧ (¬ (r18 = 0) → (eX5_readTest (d + 80) 0 φ18 α18 (fun r20 φ20 α20 => ((r20 = 0 → (Q 0 φ20 α20)) ∧ (¬ (r20 = 0) → (Q 1 φ20 α20)))))))) := by
  have c6 := C.1.2.2.2.2.2.2
  unfold sSh at h
  refine vX5_speakShakes_0 ⟨fun q => ?_, fun q => ?_⟩
  · rw [c6] at q
    rw [if_pos q] at h
    refine PZ_scan (PZ_u P) (by rw [hw.1]; omega) (fun _ => hw.2) (fun φ1 f1 P1 => vX5_speak_0 row27 (c_clear row27 ⟨fun z => by omega, fun _ => ?_⟩))
    exact z_test (Or.inr rfl) hf P1 (fun k pl w φ' α' x a b => ⟨fun _ => h.1 k pl (bk_er w) φ' α' ((fg_u.tr (fg_8 f1)).tr (fgr_g (Or.inr rfl) x)) a b, fun z => absurd rfl z⟩) (fun p' e' c w φ' α' x P' l1 l2 => ⟨fun z => by omega, fun _ => h.2 _ _ _ _ _ _ _ (bk_ok w) φ' α' ((fg_u.tr (fg_8 f1)).tr (fgr_g (Or.inr rfl) x)) P' (CD_sh C f1 x l1 l2)⟩)
  · rw [c6] at q
    rw [if_neg q] at h
    rw [P.1.1]
    exact z_refuse (fun φ' f' a b => ⟨Or.inl rfl, fun _ => h.1 5 p rfl φ' α (fg_p f') a b, fun z => absurd rfl z⟩)
theorem XG_w {x : xD} (h : XG T N φ α x Q) : XG T N φ α x (fun r φ α => (r = 0 ∨ r = 1) ∧ Q r φ α) := ⟨fun k pl w φ' α' f' a b => ⟨Or.inl rfl, h.1 k pl w φ' α' f' a b⟩, fun p' e' M' n' G' lc' kc' w φ' α' f' P' C' => ⟨Or.inr rfl, h.2 p' e' M' n' G' lc' kc' w φ' α' f' P' C'⟩⟩
theorem z_statement (P : PZ T N φ α p e) (C : CDr φ α M n G lc kc) (I : DI M n G lc kc) (hf : 12 * N + 11 ≤ f) (h : XG T N φ α (stF T N f k M n G lc kc p e) Q) : eX5_readStatement (d + 81) k φ α Q := by
  have t3 := P.1.2.2.1
  have tk := tok1 P.1
  have unf : stF T N f k M n G lc kc p e = .error (1, (p : Int)) → eX5_unfit (d + 80) φ α (fun r φ α => (r = 0 ∨ r = 1) ∧ Q r φ α) := fun w => z_unfit P (fun φ' f' a b => ⟨Or.inl rfl, h.1 1 p w φ' α (fg_p f') a b⟩)
  refine vX5_readStatement_0 ⟨fun q => ⟨fun q1 => unf ?_, fun q1 => ?_⟩, fun q => ?_⟩
  · unfold stF
    rw [if_neg (by omega), if_pos (fun z => q1 (tk.mpr z))]
  · have hw := tk.mp q1
    have W := XG_w h
    unfold stF at h W unf
    rw [if_neg (show ¬ 80 ≤ k by omega), if_neg (fun z => z hw)] at h W unf
    rw [t3]
    refine ⟨fun q2 => ⟨fun q3 => ?_, fun q3 => ?_⟩, fun q2 => ⟨fun q3 => ?_, fun q3 => ?_⟩⟩
    · have k0 : ¬ k = 0 := by omega
      rw [if_neg k0] at h W unf
      refine ⟨fun z => absurd z q2, fun z => ?_, fun z => ?_, fun z => ?_, fun z => ?_, fun z => ?_, fun z => ?_, fun z => ?_⟩
      · rw [if_pos z] at W
        exact z_readMatter (d := d + 76) P C I hw W
      · rw [if_neg (by omega), if_pos z] at W
        exact z_readClerk (d := d + 76) P C I hw W
      · rw [if_neg (by omega), if_neg (by omega), if_pos z] at W
        exact z_readTold (d := d + 76) P C I hw W
      · rw [if_neg (by omega), if_neg (by omega), if_neg (by omega), if_pos z] at h
        exact z_leaks P C hf hw h
      · rw [if_neg (by omega), if_neg (by omega), if_neg (by omega), if_neg (by omega), if_pos z] at h
        exact z_shakes P C hf hw h
      · rw [if_neg (by omega), if_neg (by omega), if_neg (by omega), if_neg (by omega), if_neg (by omega), if_pos z] at W
        exact z_readHand (d := d + 76) P C hw W
      · refine unf ?_
        rw [if_neg (by omega), if_neg (by omega), if_neg (by omega), if_neg (by omega), if_neg (by omega), if_neg (by omega)]
    · refine unf ?_
      rw [if_pos (by omega), if_neg q2]
    · refine unf ?_
      rw [if_neg (by omega), if_neg (by omega), if_neg (by omega), if_neg (by omega), if_neg (by omega), if_neg (by omega), if_neg (by omega)]
    · refine ⟨fun _ => ?_, fun z => by omega, fun z => by omega, fun z => by omega, fun z => by omega, fun z => by omega, fun z => by omega, fun z => by omega⟩
      rw [if_pos (show k = 0 by omega), if_pos q2] at W
      exact z_readSeats (d := d + 76) P C hw W
  · rw [P.1.1]
    refine z_refuse (fun φ' f' a b => ⟨Or.inl rfl, h.1 5 p ?_ φ' α (fg_p f') a b⟩)
    unfold stF
    rw [if_pos (by omega)]
theorem CD_st (C : CDr φ α M n G lc kc) : CDr (upf φ 2 1 19 v) α M n G lc kc := by
  obtain ⟨⟨c0, c1, c2, c3, c4, c5, c6⟩, a, ⟨l1, l2⟩, k1, k2⟩ := C
  exact ⟨⟨by rw [upf_o (by omega)]; exact c0, by rw [upf_o (by omega)]; exact c1, by rw [upf_o (by omega)]; exact c2, by rw [upf_o (by omega)]; exact c3, by rw [upf_o (by omega)]; exact c4, by rw [upf_o (by omega)]; exact c5, by rw [upf_o (by omega)]; exact c6⟩, a, ⟨by rw [upf_o (by omega)]; exact l1, l2⟩, by rw [upf_o (by omega)]; exact k1, k2⟩
def EC (X : Except (Int × Int) (Nat × dS)) (φ0 : aF) (α0 : aA) (Q : Int → aF → aA → Prop) : Prop := ∀ kd pl, X = .error (kd, pl) → ∀ φ' α', fg φ0 α0 φ' α' → φ' 5 5 185 = kd → φ' 5 6 185 = pl → Q 0 φ' α'
def OC (X : Except (Int × Int) (Nat × dS)) (φ0 : aF) (α0 : aA) (Q : Int → aF → aA → Prop) : Prop := ∀ (k' M' n' : Nat) G' lc' kc', X = .ok (k', ((M', n'), G', (lc', kc'))) → ∀ φ' α', fg φ0 α0 φ' α' → CDr φ' α' M' n' G' lc' kc' → DI M' n' G' lc' kc' → φ' 2 1 19 = k' → φ' 5 5 185 = 0 → φ' 5 6 185 = -1 → Q 1 φ' α'
theorem l_reg (hf : 12 * N + 11 ≤ f) (hE : EC X φ0 α0 Q) (hO : OC X φ0 α0 Q) : ∀ (r k : Nat), k + r = 81 → 1 ≤ r → ∀ (M n : Nat) (G : Int → Int) (lc kc : List Int) (p : Nat) (e : Int) (φ : aF) (α : aA), X = rgF T N f r k ((M, n), G, (lc, kc)) p e → PZ T N φ α p e → CDr φ α M n G lc kc → DI M n G lc kc → (k = 0 → n = 0) → fg φ0 α0 φ α → jX5_readRegistry_13 (d + 82) k φ α Q := by
  intro r
  induction r with
  | zero => intro k _ h; omega
  | succ r ih =>
    intro k hk _ M n G lc kc p e φ α hX P C I h0 F
    rw [rgF] at hX
    dsimp only at hX
    have step : ¬ (0 < k ∧ kdF T N p = 0) → eX5_readStatement (d + 81) k φ α (fun r3 φ3 α3 => ((r3 = 0 → (Q 0 φ3 α3)) ∧ (¬ (r3 = 0) → (eX5_takeSign (d + 81) 59 φ3 α3 (fun r5 φ5 α5 => ((¬ r5 = 0 → inR ((k : Int) + 1) ∧ (jX5_readRegistry_13 (d + 81 + 1) ((k : Int) + 1) φ5 α5 Q)) ∧ (r5 = 0 → (Q 0 φ5 α5)))))))) := by
      intro q
      rw [if_neg q] at hX
      refine z_statement P C I hf ⟨fun kd pl w φ1 α1 f1 a b => ⟨fun _ => hE kd pl (by rw [hX, bD_er w]) φ1 α1 (F.tr f1) a b, fun z => absurd rfl z⟩, fun p1 e1 M1 n1 G1 lc1 kc1 w φ1 α1 f1 P1 C1 => ⟨fun z => by omega, fun _ => ?_⟩⟩
      rw [bD_ok w] at hX
      obtain ⟨I1, k80⟩ := stF_DI I P.2.1.1 P.2.2.2.2 P.2.2.2.1 h0 w
      refine z_takeSign (d := d + 79) P1 ⟨fun kd pl w2 φ2 f2 a b => ⟨fun z => absurd rfl z, fun _ => hE kd pl (by rw [hX, bd_er w2]) φ2 α1 ((F.tr f1).tr (fg_p f2)) a b⟩, fun p2 e2 v2 w2 φ2 f2 P2 => ⟨fun _ => ⟨by unfold inR; omega, ?_⟩, fun z => by omega⟩⟩
      rw [bd_ok w2] at hX
      exact ih (k + 1) (by omega) (by omega) M1 n1 G1 lc1 kc1 p2 e2 φ2 α1 hX P2 (CD_8 f2 C1) I1 (by omega) ((F.tr f1).tr (fg_8 f2))
    refine vX5_readRegistry_13 ⟨fun z => by omega, fun _ => ⟨fun z => step (by omega), fun z => ⟨fun z2 => step (fun w => z2 ((tok0 P.1).mpr w.2)), fun z2 => ?_⟩⟩⟩
    rw [if_pos ⟨by omega, (tok0 P.1).mp z2⟩] at hX
    exact hO k M n G lc kc hX _ α (F.tr fg_u) (CD_st C) I upf_s (by rw [upf_o (by omega)]; exact P.2.2.1.1) (by rw [upf_o (by omega)]; exact P.2.2.1.2)
/-- an empty draft -/
theorem z_draft (h : ∀ φ' α', (∀ c g o, ¬ (c = 2 ∧ o = 19) → ¬ (c = 6 ∧ (o = 25 ∨ o = 27)) → φ' c g o = φ c g o) → (∀ a : Int, ¬ (20 ≤ a ∧ a ≤ 28) → α' a = α a) → CDr φ' α' 0 0 G0 [13, 1004, 47] [21] → Q 0 φ' α') : eX2_begin (d + 1) 19 φ α Q := by
  refine vX2_begin_0 (Or.inr rfl) ?_
  rw [show (19 : Int) + 1 = 20 from rfl, show (19 : Int) + 2 = 21 from rfl, show (19 : Int) + 3 = 22 from rfl, show (19 : Int) + 4 = 23 from rfl, show (19 : Int) + 5 = 24 from rfl, show (19 : Int) + 6 = 25 from rfl, show (19 : Int) + 8 = 27 from rfl]
  refine c_fill (n := 11) ia20 (c_fill (n := 7) ia21 (c_fill (n := 7) ia22 (c_fill (n := 28) ia23 (c_fill (n := 7) ia24 (c_clear row25 (c_put row25 (by rw [upf_s]; omega) ?_))))))
  rw [upf_s]
  refine c_put row25 (by rw [upf_s]; omega) ?_
  rw [upf_s]
  refine c_put row25 (by rw [upf_s]; omega) ?_
  rw [upf_s]
  refine c_clear row27 (c_put row27 (by rw [upf_s]; omega) ?_)
  rw [upf_s]
  rw [show (25 : Int) + 1 = 26 from rfl, show (27 : Int) + 1 = 28 from rfl]
  refine h _ _ (fun c g o q1 q2 => ?_) (fun a q => ?_) ?_
  · repeat rw [upf_o (by omega)]
  · rw [upa_fn (by omega), upa_fn (by omega), upa_fn (by omega), upa_fn (by omega), rg_ne (by omega), rg_ne (by omega), rg_ne (by omega), rg_ne (by omega), rg_ne (by omega)]
  · refine ⟨?_, ⟨fun i q1 q2 => ?_, fun i q1 q2 => ⟨?_, ?_, ?_⟩, fun i q1 q2 => ?_⟩, ⟨?_, fun i hi => ?_⟩, ?_, fun i hi => ?_⟩
    · simp [upf, G0]
    · rw [upa_fn (by omega), upa_fn (by omega), upa_fn (by omega), upa_fn (by omega), rg_ne (by omega), rg_ne (by omega), rg_ne (by omega), rg_ne (by omega), rg_in (by omega)]
      unfold G0; rw [if_neg (by omega)]
    · rw [upa_fn (by omega), upa_fn (by omega), upa_fn (by omega), upa_fn (by omega), rg_ne (by omega), rg_ne (by omega), rg_ne (by omega), rg_in (by omega)]
      unfold G0; rw [if_neg (by omega)]
    · rw [upa_fn (by omega), upa_fn (by omega), upa_fn (by omega), upa_fn (by omega), rg_ne (by omega), rg_ne (by omega), rg_in (by omega)]
      unfold G0; rw [if_pos (by omega)]
    · rw [upa_fn (by omega), upa_fn (by omega), upa_fn (by omega), upa_fn (by omega), rg_in (by omega)]
      unfold G0; rw [if_neg (by omega)]
    · rw [upa_fn (by omega), upa_fn (by omega), upa_fn (by omega), upa_fn (by omega), rg_ne (by omega), rg_in (by omega)]
      unfold G0; rw [if_neg (by omega)]
    · simp [upf]
    · rw [upa_fn (by omega)]
      have hi3 : i < 3 := hi
      rcases (show i = 0 ∨ i = 1 ∨ i = 2 by omega) with rfl | rfl | rfl <;> simp [upa]
    · simp [upf]
    · have hi3 : i < 1 := hi
      rcases (show i = 0 by omega) with rfl
      simp [upa]
theorem z_readRegistry (hf : 12 * N + 11 ≤ f) (Y : TX T N φ α) (hX : X = rgF T N f 81 0 ((0, 0), G0, ([13, 1004, 47], [21])) (sk T N 0) (-1)) (hE : EC X φ α Q) (hO : OC X φ α Q) : eX5_readRegistry (d + 82) φ α Q := by
  have hp : sk T N 0 ≤ N := sk_le N 0 (by omega) (by omega)
  have X0 : TX T N (upf (upf φ 5 5 185 0) 5 6 185 (-1)) α := ⟨Y.1, by rw [upf_o (by omega), upf_o (by omega)]; exact Y.2.1, Y.2.2⟩
  refine vX5_readRegistry_0 (vX5_begin_0 (c_tbegin X0 (fun φ1 f1 t1 => z_draft (fun φ2 α2 f2 g2 C2 => ?_))))
  have E : ∀ c g o, c = 5 ∨ c = 8 ∨ (c = 6 ∧ o = 1) → φ2 c g o = φ1 c g o := fun c g o q => f2 c g o (by omega) (by omega)
  have P : PZ T N φ2 α2 (sk T N 0) (-1) := by
    obtain ⟨s1, s2, s3, s4, s5⟩ := t1
    exact ⟨⟨by rw [E _ _ _ (by omega)]; exact s1, by rw [E _ _ _ (by omega)]; exact s2, by rw [E _ _ _ (by omega)]; exact s3, by rw [E _ _ _ (by omega)]; exact s4, by rw [E _ _ _ (by omega)]; exact s5⟩, ⟨Y.1, by rw [E _ _ _ (by omega), f1 _ _ _ (by omega)]; exact X0.2.1, by rw [g2 _ (by omega)]; exact Y.2.2.1, by rw [g2 _ (by omega)]; exact Y.2.2.2⟩, ⟨by rw [E _ _ _ (by omega), f1 _ _ _ (by omega), upf_o (by omega), upf_s], by rw [E _ _ _ (by omega), f1 _ _ _ (by omega), upf_s]⟩, by omega, hp⟩
  have F : fg φ α φ2 α2 := ⟨fun c g o q1 q2 q3 q4 => by rw [f2 c g o q3 q4, f1 c g o q1, upf_o (by omega), upf_o (by omega)], g2⟩
  exact l_reg hf hE hO 81 0 (by omega) (by omega) 0 0 G0 _ _ (sk T N 0) (-1) φ2 α2 hX P C2 DI_0 (fun _ => rfl) F
end RH
