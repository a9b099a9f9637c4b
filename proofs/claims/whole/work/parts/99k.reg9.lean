/-! the registry: told, codes, and all statements, read by the reference -/
section RJ
variable {d N p f M n k g q p' : Nat} {φ φ' φ0 φ1 φ2 : aF} {α α' α0 α1 α2 : aA} {Q : Int → aF → aA → Prop} {x1 x2 e w s v a i r pl f0 : Int} {T nm G : Int → Int} {lc kc c : List Int} {X : Except (Int × Int) (Nat × dS)}
theorem RD_tld {c m : Nat} (hc : c < n) (hm : m < 4) (D : RD φ α M n G lc kc p) : RD φ (upa α 229 (4 * (c : Int) + (m : Int)) (G (50 + 4 * (c : Int) + (m : Int)) + v)) M n (un (un G (50 + 4 * (c : Int) + (m : Int)) (G (50 + 4 * (c : Int) + (m : Int)) + v)) (80 + (c : Int)) (G (80 + (c : Int)) + v)) lc kc p := by
  obtain ⟨⟨d1, d2⟩, ⟨m1, m2, m3, m4⟩, d3, d4, d5, d6, d7⟩ := D
  have n7 := m2.2
  refine ⟨⟨by rw [upa_fn (by omega), un2_o (by omega) (by omega)]; exact d1, by rw [upa_fn (by omega), un2_o (by omega) (by omega)]; exact d2⟩, ⟨by rw [upa_fn (by omega)]; exact m1, by rw [upa_fn (by omega)]; exact m2, fun k q => ?_, fun k q => ?_⟩, fun x q => ?_, fun x y q1 q2 => ?_, d5, ?_, ?_⟩
  · unfold nmF; rw [upa_fn (by omega), un2_o (by omega) (by omega)]; exact m3 k q
  · unfold nmF; rw [upa_fn (by omega), un2_o (by omega) (by omega)]; exact m4 k q
  · rw [upa_fn (by omega), un2_o (by omega) (by omega), un2_o (by omega) (by omega)]; exact d3 x q
  · by_cases z : x = c ∧ y = m
    · rw [z.1, z.2, upa_eq, un_o (by omega), un_s]
    · rw [upa_ni (by omega), un2_o (by omega) (by omega)]; exact d4 x y q1 q2
  · unfold RK2; rw [upa_fn (by omega), upa_fn (by omega), upa_fn (by omega), un2_o (by omega) (by omega)]; exact d6
  · unfold RK2; rw [upa_fn (by omega), upa_fn (by omega), upa_fn (by omega), un2_o (by omega) (by omega)]; exact d7
theorem r_toldTold (R : RLx T N φ α (avF T N p) (edF T N p e)) (D : RD φ α M n G lc kc (avF T N p)) (I : DI M n G lc kc) (h : YG T N φ α (sTld T N M n G lc kc p e) Q) : eX11_toldTold (d + 5) φ α Q := by
  unfold sTld at h
  have rn := D.2.1
  have i1 := I.1
  have hp := R.2.2.2.2.2.2
  have caF : isCA 207 (wdl.getD 6 []).length := ca_own (k := 6) (by omega)
  have bad2 : ∀ (r1 : Int) (φ1 : aF), φ1 11 5 198 ≠ 0 → Q 0 φ1 α → eX11_named (d + 4) 0 φ1 α (fun r3 φ3 α3 => (eX11_number (d + 4) 0 99 φ3 α3 (fun r4 φ4 α4 => (((φ4 11 5 198) = 0 → (jX11_toldTold_42 (d + 4 + 1) r1 r3 r4 r4 0 φ4 α4 Q)) ∧ (¬ ((φ4 11 5 198) = 0) → (Q 0 φ4 α4)))))) := fun r1 φ1 hb hq => r_namedF hb (Or.inl rfl) rn.1.1 (by omega) (fun i hi => r_numberF hb ⟨fun y => absurd y hb, fun _ => hq⟩)
  refine vX11_toldTold_0 (r_named R (Or.inr rfl) rn.2.1.1 (by omega) (nm := nmF G) (fun k hk => rn.2.2.2 k hk) (fun p1 e1 c w1 φ1 f1 R1 => ?_) (fun k pl w hk i φ1 hi f1 F1 => r_asksF caF (by rw [F1.1]; exact hk) (bad2 _ φ1 (by rw [F1.1]; exact hk) (h.1 k pl (bd_er w) hk φ1 α (fh_w f1) F1))))
  have w1' : rFnd T N (nmF G) 4 n (avF T N p) (edF T N p e) = .ok (p1, e1, c) := w1
  rw [bd_ok w1'] at h
  obtain ⟨⟨ci, c1, c2⟩, -, le1, -⟩ := rFnd_ok w1'
  subst c2
  have le1 : avF T N p ≤ p1 := by rw [le1]; exact le_av hp
  have hp1 := R1.2.2.2.2.2.2
  refine r_asksO 6 (by omega) (by omega) R1 (fun w2 φ2 f2 R2 => ?_) (fun w2 φ2 f2 F2 => bad2 _ φ2 (by rw [F2.1]; omega) (h.1 1 p1 (bd_er (rWrd_n (w := 6) w2)) (by omega) φ2 α (fh_w (f1.tr f2)) F2))
  rw [bd_ok (rWrd_y (w := 6) w2)] at h
  have f12 := f1.tr f2
  have le2 := le_av (T := T) hp1
  have hp2 := R2.2.2.2.2.2.2
  refine r_named R2 (Or.inl rfl) rn.1.1 (by omega) (nm := nmF G) (fun k hk => by have := rn.2.2.1 k hk; rw [show (8 : Int) * 0 + (k : Int) = k by omega, show (4 : Int) * 0 + (k : Int) = k by omega]; exact this) (fun p3 e3 m w3 φ3 f3 R3 => ?_) (fun k pl w hk i φ3 hi f3 F3 => r_numberF (by rw [F3.1]; exact hk) ⟨fun y => absurd (F3.1.symm.trans y) hk, fun _ => h.1 k pl (bd_er w) hk φ3 α (fh_w (f12.tr f3)) F3⟩)
  have w3' : rFnd T N (nmF G) 0 M (avF T N p1) (edF T N p1 e1) = .ok (p3, e3, m) := w3
  rw [bd_ok w3'] at h
  obtain ⟨⟨mi, m1, m2⟩, -, le3, -⟩ := rFnd_ok w3'
  subst m2
  have le3 : avF T N p1 ≤ p3 := by rw [le3]; exact le_av hp2
  have f13 := f12.tr f3
  have i6 := I.2.2.2.1 ci c1
  have i9 := I.2.2.2.2.2.2.1 ci (by omega) (by omega)
  have j0 := (I.2.2.2.2.2.1 ci 0 (by omega) (by omega) (by omega) (by omega)).1
  have j1 := (I.2.2.2.2.2.1 ci 1 (by omega) (by omega) (by omega) (by omega)).1
  have j2 := (I.2.2.2.2.2.1 ci 2 (by omega) (by omega) (by omega) (by omega)).1
  have j3' := (I.2.2.2.2.2.1 ci 3 (by omega) (by omega) (by omega) (by omega)).1
  have jm := (I.2.2.2.2.2.1 ci mi (by omega) (by omega) (by omega) (by omega)).1
  have d0 : α 229 (4 * (ci : Int) + 0) = G (50 + 4 * (ci : Int) + 0) := D.2.2.2.1 ci 0 c1 (by omega)
  have d1 : α 229 (4 * (ci : Int) + 1) = G (50 + 4 * (ci : Int) + 1) := D.2.2.2.1 ci 1 c1 (by omega)
  have d2 : α 229 (4 * (ci : Int) + 2) = G (50 + 4 * (ci : Int) + 2) := D.2.2.2.1 ci 2 c1 (by omega)
  have d3 : α 229 (4 * (ci : Int) + 3) = G (50 + 4 * (ci : Int) + 3) := D.2.2.2.1 ci 3 c1 (by omega)
  have dm : α 229 (4 * (ci : Int) + (mi : Int)) = G (50 + 4 * (ci : Int) + (mi : Int)) := D.2.2.2.1 ci mi c1 (by omega)
  have jle : G (50 + 4 * (ci : Int) + (mi : Int)) ≤ G (80 + (ci : Int)) := by
    rw [i9]
    rcases (show mi = 0 ∨ mi = 1 ∨ mi = 2 ∨ mi = 3 by omega) with rfl | rfl | rfl | rfl
    · rw [show 50 + 4 * (ci : Int) + ((0 : Nat) : Int) = 50 + 4 * (ci : Int) + 0 by omega]; omega
    · rw [show 50 + 4 * (ci : Int) + ((1 : Nat) : Int) = 50 + 4 * (ci : Int) + 1 by omega]; omega
    · rw [show 50 + 4 * (ci : Int) + ((2 : Nat) : Int) = 50 + 4 * (ci : Int) + 2 by omega]; omega
    · rw [show 50 + 4 * (ci : Int) + ((3 : Nat) : Int) = 50 + 4 * (ci : Int) + 3 by omega]; omega
  have fl : 0 ≤ G (80 + (ci : Int)) := by rw [i9]; omega
  generalize hg0 : G (50 + 4 * (ci : Int) + 0) = y0 at *
  generalize hg1 : G (50 + 4 * (ci : Int) + 1) = y1 at *
  generalize hg2 : G (50 + 4 * (ci : Int) + 2) = y2 at *
  generalize hg3 : G (50 + 4 * (ci : Int) + 3) = y3 at *
  refine r_number R3 (fun a b cc φ4 f4 R4 g10 => ⟨fun _ => ?_, fun y => absurd R4.2.1 y⟩) (fun a b cc φ4 f4 F4 => ⟨fun y => by rw [F4.1] at y; omega, fun _ => h.1 2 p3 (bd_er ?_) (by omega) φ4 α (fh_w (f13.tr f4)) F4⟩) (fun a b φ4 f4 F4 => ⟨fun y => by rw [F4.1] at y; omega, fun _ => h.1 1 _ (bd_er ?_) (by omega) φ4 α (fh_w (f13.tr f4)) F4⟩) (fun a φ4 f4 F4 => ⟨fun y => by rw [F4.1] at y; omega, fun _ => h.1 1 p3 (bd_er ?_) (by omega) φ4 α (fh_w (f13.tr f4)) F4⟩)
  · have f14 := f13.tr f4
    generalize hv : vlF T N p3 = v at *
    refine vX11_toldTold_42 ⟨fun z => by omega, fun _ => ⟨by unfold inR; omega, by unfold inR; omega, ⟨by omega, by omega⟩, by rw [d0]; unfold inR; omega, by unfold inR; omega, ?_⟩⟩
    rw [d0, show (0 : Int) + 1 = 1 from rfl]
    refine vX11_toldTold_42 ⟨fun z => by omega, fun _ => ⟨by unfold inR; omega, by unfold inR; omega, ⟨by omega, by omega⟩, by rw [d1]; unfold inR; omega, by unfold inR; omega, ?_⟩⟩
    rw [d1, show (1 : Int) + 1 = 2 from rfl]
    refine vX11_toldTold_42 ⟨fun z => by omega, fun _ => ⟨by unfold inR; omega, by unfold inR; omega, ⟨by omega, by omega⟩, by rw [d2]; unfold inR; omega, by unfold inR; omega, ?_⟩⟩
    rw [d2, show (2 : Int) + 1 = 3 from rfl]
    refine vX11_toldTold_42 ⟨fun z => by omega, fun _ => ⟨by unfold inR; omega, by unfold inR; omega, ⟨by omega, by omega⟩, by rw [d3]; unfold inR; omega, by unfold inR; omega, ?_⟩⟩
    rw [d3, show (3 : Int) + 1 = 4 from rfl]
    refine vX11_toldTold_42 ⟨fun _ => ⟨by unfold inR; omega, by unfold inR; omega, ⟨by omega, by omega⟩, ?_⟩, fun z => by omega⟩
    rw [(D.2.2.1 ci c1).2, dm]
    refine ⟨fun y => ⟨by unfold inR; omega, by unfold inR; omega, ⟨by omega, by omega⟩, by unfold inR; omega, ?_⟩, fun y => ?_⟩
    · have ev : rNum T N 0 (G (30 + (ci : Int)) - G (80 + (ci : Int))) p3 e3 = .ok (avF T N p3, edF T N p3 e3, v) := by
        unfold rNum
        rw [if_pos a, if_pos b, hv, if_pos (by omega)]
      refine h.2 _ _ _ _ _ _ _ (bd_ok ev) φ4 _ ((fh_w f14).tr (fh_a (by unfold lmP; omega))) (RLx_h R4 (fun _ _ => rfl) (fun a q => upa_fn (by omega))) (RD_tld c1 (by omega) (RD_w f14 (RD_p ?_ D)))
      have := le_av (T := T) R3.2.2.2.2.2.2
      omega
    · have ev : rNum T N 0 (G (30 + (ci : Int)) - G (80 + (ci : Int))) p3 e3 = .error (2, (p3 : Int)) := by
        unfold rNum
        rw [if_pos a, if_pos b, hv, if_neg (by omega)]
      rw [g10]
      exact r_fail R4.2.1 (fun φ5 f5 F5 => h.1 2 p3 (bd_er ev) (by omega) φ5 α (fh_w (f14.tr f5)) F5)
  · unfold rNum
    rw [if_pos a, if_pos b, if_neg (by omega)]
  · unfold rNum
    rw [if_pos a, if_neg b]
  · unfold rNum
    rw [if_neg a]
theorem l_ct92 (hx : x1 = 0 ∨ x1 = 1) (hb : 0 ≤ f0 ∧ f0 + c.length ≤ 1600) (h88 : φ0 11 88 198 = c.length) (h : ∀ φ', (∀ z g o, ¬ (z = 11 ∧ g = 44 ∧ o = 198) → φ' z g o = φ0 z g o) → φ' 11 44 198 = f0 + c.length → Q 0 φ' (upa (rg α0 232 f0 (f0 + c.length) (fun i => α0 263 (i - f0))) 231 x1 (f0 + c.length))) : ∀ (r k : Nat) (φ : aF) (α : aA), k + r = c.length → (∀ z g o, ¬ (z = 11 ∧ g = 44 ∧ o = 198) → φ z g o = φ0 z g o) → φ 11 44 198 = f0 + (k : Int) → α 263 = α0 263 → rg α 232 (f0 + (k : Int)) (f0 + c.length) (fun i => α0 263 (i - f0)) = rg α0 232 f0 (f0 + c.length) (fun i => α0 263 (i - f0)) → jX11_codesTold_92 (d + 1) x1 k φ α Q := by
  intro r
  induction r with
  | zero =>
    intro k φ α hk hφ h44 ha hr
    have e88 : φ 11 88 198 = c.length := by rw [hφ _ _ _ (by omega)]; exact h88
    rw [rg_end (by omega)] at hr
    refine vX11_codesTold_92 ⟨fun _ => ⟨⟨by omega, by omega⟩, ?_⟩, fun z => by omega⟩
    have := h φ hφ (by rw [h44]; omega)
    rw [← hr] at this
    rw [h44, show f0 + (k : Int) = f0 + c.length by omega]
    exact this
  | succ r ih =>
    intro k φ α hk hφ h44 ha hr
    have e88 : φ 11 88 198 = c.length := by rw [hφ _ _ _ (by omega)]; exact h88
    refine vX11_codesTold_92 ⟨fun z => by omega, fun _ => ⟨⟨by omega, by omega⟩, ⟨by omega, by omega⟩, by unfold inR; omega, by unfold inR; omega, ?_⟩⟩
    have := ih (k + 1) (upf φ 11 44 198 (φ 11 44 198 + 1)) (upa α 232 (φ 11 44 198) (α 263 (k : Int))) (by omega) (fun z g o q => by rw [upf_o (by omega)]; exact hφ z g o q) (by rw [upf_s, h44]; omega) (by rw [upa_fn (by omega)]; exact ha) (by
      rw [h44, ha, ← hr, show f0 + ((k + 1 : Nat) : Int) = f0 + (k : Int) + 1 by omega]
      have e1 : α0 263 (k : Int) = (fun i => α0 263 (i - f0)) (f0 + (k : Int)) := by
        show α0 263 (k : Int) = α0 263 (f0 + (k : Int) - f0)
        rw [show f0 + (k : Int) - f0 = k by omega]
      rw [e1]
      exact rg_step (f := fun i => α0 263 (i - f0)) (by omega))
    exact this
theorem RD_lk (D : RD φ α M n G lc kc q) (e44 : φ 11 44 198 = f0) (hA : ∀ a : Int, 225 ≤ a → a < 230 → α' a = α a) (h230 : α' 230 0 = f0) (h230' : α' 230 1 = α 230 1) (h231 : α' 231 0 = f0 + c.length) (h231' : α' 231 1 = α 231 1) (h232 : ∀ i : Nat, i < c.length → α' 232 (f0 + (i : Int)) = tauF (c.getD i 0)) (h232' : ∀ i : Int, i < f0 → α' 232 i = α 232 i) (h44 : φ' 11 44 198 = f0 + c.length) (hp : f0 + c.length ≤ p') : RD φ' α' M n (un G 4 1) c kc p' := by
  obtain ⟨⟨d1, d2⟩, ⟨m1, m2, m3, m4⟩, d3, d4, d5, d6, d7⟩ := D
  refine ⟨⟨by rw [hA _ (by omega) (by omega), un_o (by omega)]; exact d1, by rw [hA _ (by omega) (by omega), un_o (by omega)]; exact d2⟩, ⟨by rw [hA _ (by omega) (by omega)]; exact m1, by rw [hA _ (by omega) (by omega)]; exact m2, fun k q => ?_, fun k q => ?_⟩, fun c q => ?_, fun c m q1 q2 => ?_, ⟨by omega, by omega⟩, ?_, ?_⟩
  · unfold nmF; rw [hA _ (by omega) (by omega), un_o (by omega)]; exact m3 k q
  · unfold nmF; rw [hA _ (by omega) (by omega), un_o (by omega)]; exact m4 k q
  · rw [hA _ (by omega) (by omega), un_o (by omega), un_o (by omega)]; exact d3 c q
  · rw [hA _ (by omega) (by omega), un_o (by omega)]; exact d4 c m q1 q2
  · exact Or.inr ⟨un_s, f0, h230, h231, by omega, by omega, h232⟩
  · rw [un_o (by omega)]
    rcases d7 with ⟨z1, z2⟩ | ⟨z1, f1, z2, z3, z4, z5, z6⟩
    · exact Or.inl ⟨z1, by rw [h230']; exact z2⟩
    · exact Or.inr ⟨z1, f1, by rw [h230']; exact z2, by rw [h231']; exact z3, z4, by omega, fun i hi => by rw [h232' _ (by omega)]; exact z6 i hi⟩
theorem RD_sh (D : RD φ α M n G lc kc q) (e44 : φ 11 44 198 = f0) (hA : ∀ a : Int, 225 ≤ a → a < 230 → α' a = α a) (h230 : α' 230 1 = f0) (h230' : α' 230 0 = α 230 0) (h231 : α' 231 1 = f0 + c.length) (h231' : α' 231 0 = α 231 0) (h232 : ∀ i : Nat, i < c.length → α' 232 (f0 + (i : Int)) = tauF (c.getD i 0)) (h232' : ∀ i : Int, i < f0 → α' 232 i = α 232 i) (h44 : φ' 11 44 198 = f0 + c.length) (hp : f0 + c.length ≤ p') : RD φ' α' M n (un G 5 1) lc c p' := by
  obtain ⟨⟨d1, d2⟩, ⟨m1, m2, m3, m4⟩, d3, d4, d5, d6, d7⟩ := D
  refine ⟨⟨by rw [hA _ (by omega) (by omega), un_o (by omega)]; exact d1, by rw [hA _ (by omega) (by omega), un_o (by omega)]; exact d2⟩, ⟨by rw [hA _ (by omega) (by omega)]; exact m1, by rw [hA _ (by omega) (by omega)]; exact m2, fun k q => ?_, fun k q => ?_⟩, fun c q => ?_, fun c m q1 q2 => ?_, ⟨by omega, by omega⟩, ?_, ?_⟩
  · unfold nmF; rw [hA _ (by omega) (by omega), un_o (by omega)]; exact m3 k q
  · unfold nmF; rw [hA _ (by omega) (by omega), un_o (by omega)]; exact m4 k q
  · rw [hA _ (by omega) (by omega), un_o (by omega), un_o (by omega)]; exact d3 c q
  · rw [hA _ (by omega) (by omega), un_o (by omega)]; exact d4 c m q1 q2
  · rw [un_o (by omega)]
    rcases d6 with ⟨z1, z2⟩ | ⟨z1, f1, z2, z3, z4, z5, z6⟩
    · exact Or.inl ⟨z1, by rw [h230']; exact z2⟩
    · exact Or.inr ⟨z1, f1, by rw [h230']; exact z2, by rw [h231']; exact z3, z4, by omega, fun i hi => by rw [h232' _ (by omega)]; exact z6 i hi⟩
  · exact Or.inr ⟨un_s, f0, h230, h231, by omega, by omega, h232⟩
/-- a code begins: nothing waits -/
theorem RQ_0 {tk : Int} (R : RLx T N φ α p e) : RQ T N tk 0 (upf (upf (upf (upf (upf φ 11 47 198 tk) 11 88 198 0) 11 90 198 0) 11 91 198 0) 11 92 198 0) α p e [] 0 [] := by
  refine ⟨RLx_h R (fun g hg => by rw [upf_o (by omega), upf_o (by omega), upf_o (by omega), upf_o (by omega), upf_o (by omega)]) (fun _ _ => rfl), ?_, ⟨?_, trivial⟩, ?_, upf_s, ⟨?_, fun i hi => by cases hi⟩⟩ <;> simp [upf]
theorem fh_5 {tk : Int} : fh φ α (upf (upf (upf (upf (upf φ 11 47 198 tk) 11 88 198 0) 11 90 198 0) 11 91 198 0) 11 92 198 0) α := (((((fh_u (by omega)).tr (fh_u (by omega))).tr (fh_u (by omega))).tr (fh_u (by omega))).tr (fh_u (by omega)))
/-- what was read is laid down -/
theorem r_lay {tk : Int} {p1 : Nat} {e1 : Int} (hx : x1 = 0 ∨ x1 = 1) (D : RD φ α M n G lc kc q) (h1 : fh φ α φ1 α1) (hA : ∀ a : Int, 225 ≤ a → a ≤ 232 → α1 a = α a) (h44 : φ1 11 44 198 = φ 11 44 198) (R : RQ T N tk 0 φ1 α1 p1 e1 [] 0 ([] ++ c)) (hq : q + c.length ≤ p1) (h : ∀ φ' α', fh φ α φ' α' → RLx T N φ' α' p1 e1 → (∀ a : Int, 225 ≤ a → a < 230 → α' a = α a) → α' 230 x1 = φ 11 44 198 → (∀ i : Int, i ≠ x1 → α' 230 i = α 230 i ∧ α' 231 i = α 231 i) → α' 231 x1 = φ 11 44 198 + c.length → (∀ i : Nat, i < c.length → α' 232 (φ 11 44 198 + (i : Int)) = tauF (c.getD i 0)) → (∀ i : Int, i < φ 11 44 198 → α' 232 i = α 232 i) → φ' 11 44 198 = φ 11 44 198 + c.length → Q 0 φ' α') : jX11_codesTold_92 (d + 1) x1 0 φ1 (upa α1 230 x1 (φ1 11 44 198)) Q := by
  rw [List.nil_append] at R
  obtain ⟨RL, -, -, -, -, h88, h263⟩ := R
  have hN := RL.1.1
  have hp1 := RL.2.2.2.2.2.2
  have d5 := D.2.2.2.2.1
  rw [h44]
  generalize hf0 : φ 11 44 198 = f0 at *
  have L := l_ct92 (d := d) (Q := Q) (x1 := x1) (c := c) (f0 := f0) (φ0 := φ1) (α0 := upa α1 230 x1 f0) hx (by omega) h88 (fun φ' hφ e44 => ?_) c.length 0 φ1 (upa α1 230 x1 f0) (by omega) (fun _ _ _ _ => rfl) (by rw [h44]; omega) rfl (by rw [show f0 + ((0 : Nat) : Int) = f0 by omega])
  · exact L
  · have nz : ∀ a : Int, a ≠ 230 → a ≠ 231 → a ≠ 232 → upa (rg (upa α1 230 x1 f0) 232 f0 (f0 + c.length) (fun i => upa α1 230 x1 f0 263 (i - f0))) 231 x1 (f0 + c.length) a = α1 a := fun a q1 q2 q3 => by rw [upa_fn q2, rg_ne q3, upa_fn q1]
    refine h φ' _ ⟨fun z g o q => ?_, fun a i q => ?_⟩ (RLx_h RL (fun g hg => hφ _ _ _ (by omega)) (fun a q => nz a (by omega) (by omega) (by omega))) (fun a q1 q2 => (nz a (by omega) (by omega) (by omega)).trans (hA a q1 (by omega))) ?_ (fun i q => ⟨?_, ?_⟩) ?_ (fun i q => ?_) (fun i q => ?_) e44
    · rw [hφ z g o (by omega)]; exact h1.1 z g o q
    · rw [← h1.2 a i q]
      unfold lmP at q
      have e1 : ¬ (a = 231 ∧ i = x1) := by omega
      have e2 : ¬ (a = 232 ∧ f0 ≤ i ∧ i < f0 + (c.length : Int)) := by omega
      have e3 : ¬ (a = 230 ∧ i = x1) := by omega
      rw [show upa (rg (upa α1 230 x1 f0) 232 f0 (f0 + c.length) (fun i => upa α1 230 x1 f0 263 (i - f0))) 231 x1 (f0 + c.length) a i = rg (upa α1 230 x1 f0) 232 f0 (f0 + c.length) (fun i => upa α1 230 x1 f0 263 (i - f0)) a i from if_neg e1]
      rw [show rg (upa α1 230 x1 f0) 232 f0 (f0 + c.length) (fun i => upa α1 230 x1 f0 263 (i - f0)) a i = upa α1 230 x1 f0 a i from if_neg e2]
      exact if_neg e3
    · rw [upa_fn (by omega), rg_ne (by omega), upa_eq]
    · rw [upa_fn (by omega), rg_ne (by omega), upa_ni q, hA _ (by omega) (by omega)]
    · rw [upa_ni q, rg_ne (by omega), upa_fn (by omega), hA _ (by omega) (by omega)]
    · rw [upa_eq]
    · rw [upa_fn (by omega), rg_in (by omega), upa_fn (by omega), show f0 + (i : Int) - f0 = i by omega]
      exact h263 i q
    · rw [upa_fn (by omega), rg_out (by omega), upa_fn (by omega), hA _ (by omega) (by omega)]
theorem r_leaks (R : RLx T N φ α (avF T N p) (edF T N p e)) (D : RD φ α M n G lc kc (avF T N p)) (hf : 12 * N + 11 ≤ f) (h : YG T N φ α (sLk T N f M n G lc kc p e) Q) : eX11_codesTold (d + 10) 0 p φ α Q := by
  unfold sLk at h
  have d6 := D.2.2.2.2.2.1
  have hp := R.2.2.2.2.2.2
  have he := R.2.2.2.2.2.1
  refine vX11_codesTold_0 ⟨fun z => absurd R.2.1 z, fun _ => ⟨⟨by omega, by omega⟩, fun z => ⟨fun _ => ?_, fun y => by omega⟩, fun z => ?_⟩⟩
  · have g4 : G 4 = 0 := by
      rcases d6 with ⟨z1, z2⟩ | ⟨z1, f1, z2, z3, z4, z5, z6⟩
      · exact z1
      · omega
    rw [if_pos g4] at h
    refine r_qSums (d := d + 2) (f := f) (tg := 7) (Or.inl ⟨rfl, rfl⟩) (RQ_0 R) (by omega) (fun u hu => by cases hu) (by simp) (by omega) (fun k pl w φ1 α1 zz F => ⟨fun y => absurd (F.1.1.symm.trans y) F.1.2, fun _ => h.1 k pl (bk_er w) F.1.2 φ1 α1 (fh_5.tr (fh_z zz)) ⟨F.1.1, F.2.1⟩⟩) (fun p1 e1 c w φ1 α1 zz R1 => ⟨fun _ => ?_, fun y => absurd R1.1.2.1 y⟩)
    have pg := rd_PG f 3 0 _ _ _ he hp w
    have g1 := pg.1
    have g2 := pg.2.2.1
    dsimp only at g1 g2
    have e44 : φ1 11 44 198 = φ 11 44 198 := by rw [zz.1 _ _ _ (by omega), upf_o (by omega), upf_o (by omega), upf_o (by omega), upf_o (by omega), upf_o (by omega)]
    have d5 := D.2.2.2.2.1
    exact r_lay (d := d + 9) (Or.inl rfl) D (fh_5.tr (fh_z zz)) (fun a q1 q2 => zz.2 a (by omega) (by omega)) e44 R1 (by omega) (fun φ2 α2 F2 R2 y1 y2 y3 y4 y5 y6 y7 => h.2 _ _ _ _ _ _ _ (bk_ok w) φ2 α2 F2 R2 (RD_lk D rfl y1 y2 (y3 1 (by omega)).1 y4 (y3 1 (by omega)).2 y5 y6 y7 (by omega)))
  · have g4 : ¬ G 4 = 0 := by
      rcases d6 with ⟨z1, z2⟩ | ⟨z1, f1, z2, z3, z4, z5, z6⟩
      · exact absurd z2 z
      · omega
    rw [if_neg g4] at h
    exact r_fail R.2.1 (fun φ1 f1 F1 => ⟨fun y => by rw [F1.1] at y; omega, fun _ => h.1 5 p rfl (by omega) φ1 α (fh_w f1) F1⟩)
theorem r_shakes (R : RLx T N φ α (avF T N p) (edF T N p e)) (D : RD φ α M n G lc kc (avF T N p)) (hf : 12 * N + 11 ≤ f) (h : YG T N φ α (sSh T N f M n G lc kc p e) Q) : eX11_codesTold (d + 10) 1 p φ α Q := by
  unfold sSh at h
  have d6 := D.2.2.2.2.2.2
  have hp := R.2.2.2.2.2.2
  have he := R.2.2.2.2.2.1
  refine vX11_codesTold_0 ⟨fun z => absurd R.2.1 z, fun _ => ⟨⟨by omega, by omega⟩, fun z => ⟨fun y => by omega, fun _ => ?_⟩, fun z => ?_⟩⟩
  · have g4 : G 5 = 0 := by
      rcases d6 with ⟨z1, z2⟩ | ⟨z1, f1, z2, z3, z4, z5, z6⟩
      · exact z1
      · omega
    rw [if_pos g4] at h
    refine r_qTest (d := d) (f := f) (tg := 8) (Or.inr (Or.inl ⟨rfl, rfl⟩)) (RQ_0 R) (by omega) (by simp) (by omega) (fun k pl w φ1 α1 zz F => ⟨fun y => absurd (F.1.1.symm.trans y) F.1.2, fun _ => h.1 k pl (bk_er w) F.1.2 φ1 α1 (fh_5.tr (fh_z zz)) ⟨F.1.1, F.2⟩⟩) (fun p1 e1 c w φ1 α1 zz R1 => ⟨fun _ => ?_, fun y => absurd R1.1.2.1 y⟩)
    have pg := rd_PG f 0 0 _ _ _ he hp w
    have g1 := pg.1
    have g2 := pg.2.2.1
    dsimp only at g1 g2
    have e44 : φ1 11 44 198 = φ 11 44 198 := by rw [zz.1 _ _ _ (by omega), upf_o (by omega), upf_o (by omega), upf_o (by omega), upf_o (by omega), upf_o (by omega)]
    have d5 := D.2.2.2.2.1
    exact r_lay (d := d + 9) (Or.inr rfl) D (fh_5.tr (fh_z zz)) (fun a q1 q2 => zz.2 a (by omega) (by omega)) e44 R1 (by omega) (fun φ2 α2 F2 R2 y1 y2 y3 y4 y5 y6 y7 => h.2 _ _ _ _ _ _ _ (bk_ok w) φ2 α2 F2 R2 (RD_sh D rfl y1 y2 (y3 0 (by omega)).1 y4 (y3 0 (by omega)).2 y5 y6 y7 (by omega)))
  · have g4 : ¬ G 5 = 0 := by
      rcases d6 with ⟨z1, z2⟩ | ⟨z1, f1, z2, z3, z4, z5, z6⟩
      · exact absurd z2 z
      · omega
    rw [if_neg g4] at h
    exact r_fail R.2.1 (fun φ1 f1 F1 => ⟨fun y => by rw [F1.1] at y; omega, fun _ => h.1 5 p rfl (by omega) φ1 α (fh_w f1) F1⟩)
theorem YG_w {x : xD} (f : fw φ φ1) (h : YG T N φ α x Q) : YG T N φ1 α x Q := ⟨fun kd pl w hk φ' α' f' F' => h.1 kd pl w hk φ' α' ((fh_w f).tr f') F', fun p' e' M' n' G' lc' kc' w φ' α' f' R' D' => h.2 p' e' M' n' G' lc' kc' w φ' α' ((fh_w f).tr f') R' D'⟩
theorem r_statement (R : RLx T N φ α p e) (g2 : φ 11 2 198 = p) (D : RD φ α M n G lc kc p) (I : DI M n G lc kc) (hf : 12 * N + 11 ≤ f) (k1 : 1 ≤ k ∧ k ≤ 80) (h45 : φ 11 45 198 = k) (hE : ∀ kd pl, stS T N f k M n G lc kc p e = .error (kd, pl) → kd ≠ 0 → ∀ φ' α', fH φ α φ' α' → RF φ' kd pl → Q 0 φ' α') (hO : ∀ p' e' M' n' G' lc' kc', stS T N f k M n G lc kc p e = .ok (p', e', ((M', n'), G', (lc', kc'))) → ∀ φ' α', fH φ α φ' α' → RLx T N φ' α' p' e' → RD φ' α' M' n' G' lc' kc' p' → φ' 11 45 198 = k + 1 → Q 0 φ' α') : eX11_statementTold (d + 11) φ α Q := by
  have hs0 : YG T N φ α (bD (stF T N f k M n G lc kc p e) (semi T N)) (fun _ φ' α' => inR (φ' 11 45 198 + 1) ∧ Q 0 (upf φ' 11 45 198 (φ' 11 45 198 + 1)) α') := by
    refine ⟨fun kd pl w hk φ' α' f' F' => ?_, fun p' e' M' n' G' lc' kc' w φ' α' f' R' D' => ?_⟩
    · have e45 : φ' 11 45 198 = k := by rw [f'.1 _ _ _ (by omega)]; exact h45
      dsimp only
      rw [e45]
      exact ⟨by unfold inR; omega, hE kd pl w hk _ α' ((fH_h f').tr fH_u) ⟨by rw [upf_o (by omega)]; exact F'.1, by rw [upf_o (by omega)]; exact F'.2⟩⟩
    · have e45 : φ' 11 45 198 = k := by rw [f'.1 _ _ _ (by omega)]; exact h45
      dsimp only
      rw [e45]
      exact ⟨by unfold inR; omega, hO p' e' M' n' G' lc' kc' w _ α' ((fH_h f').tr fH_u) (RLx_h R' (fun g hg => upf_o (by omega)) (fun _ _ => rfl)) (RD_f (upf_o (by omega)) D') upf_s⟩
  have hs := r_semi (d := d + 8) hs0
  have hp := R.2.2.2.2.2.2
  have D1 := RD_p (le_av (T := T) hp) D
  refine vX11_statementTold_0 ⟨fun z => ?_, fun z => ?_⟩
  · have k80 : ¬ 80 ≤ k := by omega
    have k0 : ¬ k = 0 := by omega
    unfold stF at hs
    rw [if_neg k80] at hs
    rw [g2]
    refine r_takesO 1 (by omega) (by omega) R (fun w φ1 f1 R1 => ⟨fun y => by omega, fun _ => ?_⟩) (fun w1 φ1 f1 R1 _ => ⟨fun _ => ?_, fun y => absurd rfl y⟩)
    · rw [if_neg (fun y => y ⟨w.1, w.2.1⟩), if_neg k0, if_pos (show wdF T N p = 1 from w.2.2)] at hs
      exact r_matterTold (d := d + 5) R1 (RD_w f1 D1) I (YG_w f1 hs)
    refine r_takesO 2 (by omega) (by omega) R1 (fun w φ2 f2 R2 => ⟨fun y => by omega, fun _ => ?_⟩) (fun w2 φ2 f2 R2 _ => ⟨fun _ => ?_, fun y => absurd rfl y⟩)
    · have w3 : wdF T N p = 2 := w.2.2
      rw [if_neg (fun y => y ⟨w.1, w.2.1⟩), if_neg k0, if_neg (by omega), if_pos w3] at hs
      exact r_clerkTold (d := d + 5) R2 (RD_w (f1.tr f2) D1) I (YG_w (f1.tr f2) hs)
    have F2 := f1.tr f2
    refine r_takesO 5 (by omega) (by omega) R2 (fun w φ3 f3 R3 => ⟨fun y => by omega, fun _ => ?_⟩) (fun w5 φ3 f3 R3 _ => ⟨fun _ => ?_, fun y => absurd rfl y⟩)
    · have w3 : wdF T N p = 5 := w.2.2
      rw [if_neg (fun y => y ⟨w.1, w.2.1⟩), if_neg k0, if_neg (by omega), if_neg (by omega), if_pos w3] at hs
      exact r_toldTold (d := d + 5) R3 (RD_w (F2.tr f3) D1) I (YG_w (F2.tr f3) hs)
    have F3 := F2.tr f3
    refine r_takesO 7 (by omega) (by omega) R3 (fun w φ4 f4 R4 => ⟨fun y => by omega, fun _ => ?_⟩) (fun w7 φ4 f4 R4 _ => ⟨fun _ => ?_, fun y => absurd rfl y⟩)
    · have w3 : wdF T N p = 7 := w.2.2
      rw [if_neg (fun y => y ⟨w.1, w.2.1⟩), if_neg k0, if_neg (by omega), if_neg (by omega), if_neg (by omega), if_pos w3] at hs
      exact r_leaks (d := d) R4 (RD_w (F3.tr f4) D1) hf (YG_w (F3.tr f4) hs)
    have F4 := F3.tr f4
    refine r_takesO 8 (by omega) (by omega) R4 (fun w φ5 f5 R5 => ⟨fun y => by omega, fun _ => ?_⟩) (fun w8 φ5 f5 R5 _ => ⟨fun _ => ?_, fun y => absurd rfl y⟩)
    · have w3 : wdF T N p = 8 := w.2.2
      rw [if_neg (fun y => y ⟨w.1, w.2.1⟩), if_neg k0, if_neg (by omega), if_neg (by omega), if_neg (by omega), if_neg (by omega), if_pos w3] at hs
      exact r_shakes (d := d) R5 (RD_w (F4.tr f5) D1) hf (YG_w (F4.tr f5) hs)
    have F5 := F4.tr f5
    refine r_asksO 9 (by omega) (by omega) R5 (fun w φ6 f6 R6 => ?_) (fun w9 φ6 f6 F6 => ?_)
    · have w3 : wdF T N p = 9 := w.2.2
      rw [if_neg (fun y => y ⟨w.1, w.2.1⟩), if_neg k0, if_neg (by omega), if_neg (by omega), if_neg (by omega), if_neg (by omega), if_neg (by omega), if_pos w3] at hs
      unfold sHnd at hs
      have F6 := F5.tr f6
      refine r_num R6 (fun p' e' v w2 φ7 f7 R7 _ => hs.2 _ _ _ _ _ _ _ (bd_ok w2) φ7 (upa α 225 1 v) ((fh_w (F6.tr f7)).tr (fh_a (by unfold lmP; omega))) (RLx_h R7 (fun _ _ => rfl) (fun a q => upa_fn (by omega))) (RD_hand (RD_w (F6.tr f7) (RD_p ?_ D1)))) (fun k pl w2 hk v φ7 f7 F7 => hs.1 k pl (bd_er w2) hk φ7 (upa α 225 1 v) ((fh_w (F6.tr f7)).tr (fh_a (by unfold lmP; omega))) F7)
      rw [(rNum_ok w2).2.2.1]
      exact le_av R6.2.2.2.2.2.2
    · have hb : φ6 11 5 198 ≠ 0 := by rw [F6.1]; omega
      refine r_numberF hb (hs.1 1 p ?_ (by omega) φ6 (upa α 225 1 0) ((fh_w (F5.tr f6)).tr (fh_a (by unfold lmP; omega))) F6)
      by_cases y : kdF T N p = 1 ∧ e ≠ p
      · rw [if_neg (fun x => x y), if_neg k0, if_neg (fun x : wdF T N p = 1 => w1 ⟨y.1, y.2, x⟩), if_neg (fun x : wdF T N p = 2 => w2 ⟨y.1, y.2, x⟩), if_neg (fun x : wdF T N p = 5 => w5 ⟨y.1, y.2, x⟩), if_neg (fun x : wdF T N p = 7 => w7 ⟨y.1, y.2, x⟩), if_neg (fun x : wdF T N p = 8 => w8 ⟨y.1, y.2, x⟩), if_neg (fun x : wdF T N p = 9 => w9 ⟨y.1, y.2, x⟩)]
      · rw [if_pos y]
  · rw [g2]
    refine r_fail R.2.1 (fun φ1 f1 F1 => hE 5 p ?_ (by omega) φ1 α (fH_h (fh_w f1)) F1)
    have : stF T N f k M n G lc kc p e = .error (5, (p : Int)) := by unfold stF; rw [if_pos (by omega)]
    exact bD_er this
end RJ
