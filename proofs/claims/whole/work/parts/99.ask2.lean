/-! questions: read by both -/
def qlv (w : Int) : Nat := if w < 27 then 0 else 3
def qsR (T : Int → Int) (N f : Nat) : Except (Int × Int) (Int × List Int) :=
  if kdF T N (sk T N 0) = 1 ∧ 24 ≤ wdF T N (sk T N 0) then
    match rd T N 26 f (qlv (wdF T N (sk T N 0))) 0 (avF T N (sk T N 0)) (edF T N (sk T N 0) (-1)) with
    | .error q => .error q
    | .ok (p', _, c) => if kdF T N p' = 0 then .ok (wdF T N (sk T N 0), c) else .error (1, (p' : Int))
  else .error (1, (sk T N 0 : Int))
def fqz (φ : aF) (α : aA) (φ' : aF) (α' : aA) : Prop := (∀ c f o, c ≠ 8 → ¬ (c = 5 ∧ (f = 3 ∨ f = 4 ∨ f = 5 ∨ f = 6)) → ¬ (c = 6 ∧ o = 7) → φ' c f o = φ c f o) ∧ ∀ a : Int, a ≠ 8 → α' a = α a
section AQ
variable {d j n M ns N p f : Nat} {φ φ' φ0 φ1 φ2 : aF} {α α' α0 α1 α2 : aA} {Q : Int → aF → aA → Prop} {k x1 e : Int} {rm nw sr T : Int → Int} {cs ct : List Int} {wv : Nat → Int}
theorem fs_lt {P : Nat → Prop} [DecidablePred P] : ∀ (r k : Nat), fsF P r k < ((k + r : Nat) : Int) ∨ fsF P r k = -1
  | 0, k => Or.inr rfl
  | r + 1, k => by
    rw [fsF]
    split
    · exact Or.inl (by omega)
    · have := fs_lt (P := P) r (k + 1)
      omega
theorem wd_lt : wdF T N p < 30 := by
  unfold wdF
  split
  · unfold wiF
    have := fs_lt (P := fun k => pkw (wdl.getD k []) = vlF T N p) 30 0
    omega
  · omega
theorem sk_le : ∀ (r a : Nat), r = N - a → a ≤ N → sk T N a ≤ N := by
  intro r
  induction r with
  | zero => intro a hr ha; rw [sk_n (by omega)]; exact ha
  | succ r ih =>
    intro a hr ha
    by_cases q : a < N ∧ (T a = 32 ∨ T a = 10)
    · rw [sk_y q]; exact ih (a + 1) (by omega) (by omega)
    · rw [sk_n q]; exact ha
theorem c_readQuestion (X : TX T N φ α) (hf : 12 * N + 11 ≤ f) (hE : ∀ k pl, qsR T N f = .error (k, pl) → ∀ φ' α', fqz φ α φ' α' → φ' 5 5 185 = k → φ' 5 6 185 = pl → Q (-1) φ' α') (hO : ∀ w c, qsR T N f = .ok (w, c) → ∀ φ' α', fqz φ α φ' α' → φ' 5 5 185 = 0 → φ' 5 6 185 = -1 → φ' 6 1 7 = c.length → (∀ i : Nat, i < c.length → α' 8 (i : Int) = c.getD i 0) → Q w φ' α') : eX5_readQuestion (d + 81) φ α Q := by
  have hp : sk T N 0 ≤ N := sk_le N 0 (by omega) (by omega)
  have X0 : TX T N (upf (upf φ 5 5 185 0) 5 6 185 (-1)) α := ⟨X.1, by rw [upf_o (by omega), upf_o (by omega)]; exact X.2.1, X.2.2⟩
  refine vX5_readQuestion_0 (vX5_begin_0 (c_tbegin X0 (fun φ1 f1 t1 => ?_)))
  generalize hp0 : sk T N 0 = p at *
  have X1 : TX T N φ1 α := ⟨X.1, by rw [f1 _ _ _ (by omega)]; exact X0.2.1, X.2.2⟩
  have b5 : φ1 5 5 185 = 0 := by rw [f1 _ _ _ (by omega), upf_o (by omega), upf_s]
  have b6 : φ1 5 6 185 = -1 := by rw [f1 _ _ _ (by omega), upf_s]
  have F1 : fqz φ α φ1 α := ⟨fun c f o q1 q2 q3 => by rw [f1 c f o q1, upf_o (by omega), upf_o (by omega)], fun _ _ => rfl⟩
  have tk := tok1 t1
  have w3 := t1.2.2.1
  have t5 := t1.1
  have unf : ¬ (kdF T N p = 1 ∧ 24 ≤ wdF T N p) → eX5_unfit (d + 80) φ1 α (fun r3 φ3 α3 => Q (-1) φ3 α3) := fun q => by
    refine vX5_unfit_0 (hE 1 p (by unfold qsR; rw [hp0, if_neg q]) _ _ ⟨fun c f o q1 q2 q3 => by rw [upf_o (by omega), upf_o (by omega)]; exact F1.1 c f o q1 q2 q3, fun _ _ => rfl⟩ (by rw [upf_o (by omega), upf_s]) (by rw [upf_s, t5]))
  refine ⟨fun q => unf (fun w => q (tk.mpr ⟨w.1, by omega⟩)), fun q => ?_⟩
  have k1 := (tk.mp q).1
  rw [w3]
  refine ⟨fun q2 => ?_, fun q2 => unf (fun w => q2 w.2)⟩
  have wl := wd_lt (T := T) (N := N) (p := p)
  have av := av_bd (T := T) hp
  have ap := av.2.2 (by omega)
  have hed := ed_le (T := T) (e := -1) hp (by omega)
  refine c_scan X1 hp t1 (by omega) (fun _ => by omega) (by omega) (fun φ2 f2 t2 => vX5_speak_0 row7 (c_clear row7 ?_))
  have e5 : ∀ c g o, c ≠ 5 → ¬ (c = 6 ∧ o = 7) → upf (upf (upf φ2 6 1 7 0) 5 3 185 7) 5 4 185 26 c g o = φ2 c g o := fun c g o q1 q2 => by rw [upf_o (by omega), upf_o (by omega), upf_o (by omega)]
  have g5 : upf (upf (upf φ2 6 1 7 0) 5 3 185 7) 5 4 185 26 5 5 185 = 0 := by rw [upf_o (by omega), upf_o (by omega), upf_o (by omega), f2 _ _ _ (by omega)]; exact b5
  have g6 : upf (upf (upf φ2 6 1 7 0) 5 3 185 7) 5 4 185 26 5 6 185 = -1 := by rw [upf_o (by omega), upf_o (by omega), upf_o (by omega), f2 _ _ _ (by omega)]; exact b6
  have F2 : fqz φ α (upf (upf (upf φ2 6 1 7 0) 5 3 185 7) 5 4 185 26) α := ⟨fun c g o q1 q2 q3 => by rw [upf_o (by omega), upf_o (by omega), upf_o (by omega), f2 c g o q1]; exact F1.1 c g o q1 q2 q3, fun _ _ => rfl⟩
  have P : PS T N 7 26 (upf (upf (upf φ2 6 1 7 0) 5 3 185 7) 5 4 185 26) α (avF T N p) (edF T N p (-1)) [] := by
    refine ⟨?_, ⟨X1.1, by rw [e5 _ _ _ (by omega) (by omega), f2 _ _ _ (by omega)]; exact X1.2.1, X1.2.2⟩, ⟨by rw [upf_o (by omega), upf_s], g5, g6⟩, upf_s, ⟨by rw [upf_o (by omega), upf_o (by omega), upf_s]; rfl, fun i hi => by cases hi⟩, hed, av.2.1⟩
    unfold TOK
    rw [e5 _ _ _ (by omega) (by omega), e5 _ _ _ (by omega) (by omega), e5 _ _ _ (by omega) (by omega), e5 _ _ _ (by omega) (by omega), e5 _ _ _ (by omega) (by omega)]
    exact t2
  generalize upf (upf (upf φ2 6 1 7 0) 5 3 185 7) 5 4 185 26 = φ3 at *
  have fin : ∀ lv : Nat, lv = 0 ∨ lv = 3 → qlv (wdF T N p) = lv → cE lv (d + 80) (0 : Nat) (0 : Nat) φ3 α (fun r8 φ8 α8 => ((r8 = 0 → (Q (-1) φ8 α8)) ∧ (¬ (r8 = 0) → (((φ8 8 2 186) = 0 → (Q (wdF T N p) φ8 α8)) ∧ (¬ ((φ8 8 2 186) = 0) → (eX5_unfit (d + 80) φ8 α8 (fun r11 φ11 α11 => ((r11 = 0 → (Q (-1) φ11 α11)) ∧ (¬ (r11 = 0) → (Q (wdF T N p) φ11 α11)))))))))) := by
    intro lv hlv hq
    have un : qsR T N f = match rd T N 26 f lv 0 (avF T N p) (edF T N p (-1)) with
      | .error q => .error q
      | .ok (p', _, c) => if kdF T N p' = 0 then .ok (wdF T N p, c) else .error (1, (p' : Int)) := by
      unfold qsR
      rw [hp0, if_pos ⟨k1, q2⟩, hq]
    have fqx : ∀ φ' α', fx 7 φ3 α φ' α' → fqz φ α φ' α' := fun φ' α' x => ⟨fun c g o q1 q2 q3 => by rw [x.1 c g o q1 (by omega) (by omega)]; exact F2.1 c g o q1 q2 q3, fun a q => (x.2 a (by omega)).trans (F2.2 a q)⟩
    refine c_rd (Or.inl rfl) f lv (by omega) (d + 80) 0 (avF T N p) 0 (edF T N p (-1)) [] φ3 α (by omega) (by have := (drF_le lv).2; omega) (by have := (rkF_le lv).2; omega) P (by simp) (by omega) _ (fun k pl φ' α' w x h5 h6 => ⟨fun _ => hE k pl (by rw [un, w]) φ' α' (fqx _ _ x) h5 h6, fun z => absurd rfl z⟩) (fun p' e' c φ' α' w x P' => ⟨fun z => by omega, fun _ => ⟨fun z => ?_, fun z => ?_⟩⟩)
    · have k0 := (tok0 P'.1).mp z
      refine hO (wdF T N p) c (by rw [un, w]; dsimp only; rw [if_pos k0]) φ' α' (fqx _ _ x) P'.2.2.1.2.1 P'.2.2.1.2.2 P'.2.2.2.2.1.1 (fun i hi => P'.2.2.2.2.1.2 i hi)
    · have k0 : ¬ kdF T N p' = 0 := fun q => z ((tok0 P'.1).mpr q)
      refine vX5_unfit_0 ⟨fun _ => hE 1 p' (by rw [un, w]; dsimp only; rw [if_neg k0]) _ α' ?_ (by rw [upf_o (by omega), upf_s]) (by rw [upf_s]; exact P'.1.1), fun z => absurd rfl z⟩
      exact fqx _ _ (x.tr fx_e)
  have q24 : wdF T N p = 24 ∨ wdF T N p = 25 ∨ wdF T N p = 26 → qlv (wdF T N p) = 0 := fun q => by unfold qlv; rw [if_pos (by omega)]
  refine ⟨fun z => fin 0 (Or.inl rfl) (q24 (by omega)), fun z => ⟨fun z2 => fin 0 (Or.inl rfl) (q24 (by omega)), fun z2 => ⟨fun z3 => fin 3 (Or.inr rfl) (by unfold qlv; rw [if_neg (by omega)]), fun z3 => fin 0 (Or.inl rfl) (q24 (by omega))⟩⟩⟩
theorem r_qKind (R : RLx T N φ α p e) (h1 : ∀ k : Nat, k < 6 → isW T N p e ((24 + k : Nat) : Int) → ∀ φ', fw φ φ' → RLx T N φ' α (avF T N p) (edF T N p e) → Q k φ' α) (h0 : (∀ k : Nat, k < 6 → ¬ isW T N p e ((24 + k : Nat) : Int)) → ∀ φ', fw φ φ' → RF φ' 1 p → Q 5 φ' α) : eX11_qKind (d + 4) φ α Q := by
  refine vX11_qKind_0 (r_takesQ 0 (by omega) (by omega) R (fun w φ1 f1 R1 => ⟨fun z => by omega, fun _ => h1 0 (by omega) w φ1 f1 R1⟩) (fun n0 φ1 f1 R1 _ => ⟨fun _ => ?_, fun z => absurd rfl z⟩))
  refine r_takesQ 1 (by omega) (by omega) R1 (fun w φ2 f2 R2 => ⟨fun z => by omega, fun _ => h1 1 (by omega) w φ2 (f1.tr f2) R2⟩) (fun n1 φ2 f2 R2 _ => ⟨fun _ => ?_, fun z => absurd rfl z⟩)
  refine r_takesQ 2 (by omega) (by omega) R2 (fun w φ3 f3 R3 => ⟨fun z => by omega, fun _ => h1 2 (by omega) w φ3 ((f1.tr f2).tr f3) R3⟩) (fun n2 φ3 f3 R3 _ => ⟨fun _ => ?_, fun z => absurd rfl z⟩)
  refine r_takesQ 3 (by omega) (by omega) R3 (fun w φ4 f4 R4 => ⟨fun z => by omega, fun _ => h1 3 (by omega) w φ4 (((f1.tr f2).tr f3).tr f4) R4⟩) (fun n3 φ4 f4 R4 _ => ⟨fun _ => ?_, fun z => absurd rfl z⟩)
  refine r_takesQ 4 (by omega) (by omega) R4 (fun w φ5 f5 R5 => ⟨fun z => by omega, fun _ => h1 4 (by omega) w φ5 ((((f1.tr f2).tr f3).tr f4).tr f5) R5⟩) (fun n4 φ5 f5 R5 _ => ⟨fun _ => ?_, fun z => absurd rfl z⟩)
  have F5 := (((f1.tr f2).tr f3).tr f4).tr f5
  refine r_asksQ 5 (by omega) (by omega) R5 (fun w φ6 f6 R6 => h1 5 (by omega) w φ6 (F5.tr f6) R6) (fun n5 φ6 f6 F6 => h0 (fun k hk => ?_) φ6 (F5.tr f6) F6)
  rcases (show k = 0 ∨ k = 1 ∨ k = 2 ∨ k = 3 ∨ k = 4 ∨ k = 5 by omega) with rfl | rfl | rfl | rfl | rfl | rfl
  · exact n0
  · exact n1
  · exact n2
  · exact n3
  · exact n4
  · exact n5
def fy (φ : aF) (α : aA) (φ' : aF) (α' : aA) : Prop := (∀ c g o, ¬ (c = 11 ∧ (g = 1 ∨ g = 2 ∨ g = 3 ∨ g = 4 ∨ g = 5 ∨ g = 6 ∨ g = 7 ∨ g = 8 ∨ g = 10 ∨ g = 35 ∨ g = 47 ∨ g = 88 ∨ g = 90 ∨ g = 91 ∨ g = 92 ∨ g = 95 ∨ g = 96)) → φ' c g o = φ c g o) ∧ ∀ a : Int, a ≠ 263 → a ≠ 264 → α' a = α a
theorem fy_u {g : Nat} {v : Int} (hg : g = 1 ∨ g = 2 ∨ g = 3 ∨ g = 4 ∨ g = 5 ∨ g = 6 ∨ g = 7 ∨ g = 8 ∨ g = 47 ∨ g = 88 ∨ g = 90 ∨ g = 91 ∨ g = 92 ∨ g = 95 ∨ g = 96) (h : fy φ α φ' α') : fy φ α (upf φ' 11 g 198 v) α' := ⟨fun c f o q => by
    rw [upf_o (by
      by_cases e : c = 11
      · by_cases e2 : f = g
        · exact absurd ⟨e, by omega⟩ q
        · exact Or.inr (Or.inl e2)
      · exact Or.inl e)]
    exact h.1 c f o q, h.2⟩
theorem fy_z (h : fy φ α φ1 α1) (z : fz φ1 α1 φ2 α2) : fy φ α φ2 α2 := ⟨fun c g o q => (z.1 c g o (by omega)).trans (h.1 c g o q), fun a q1 q2 => (z.2 a q1 q2).trans (h.2 a q1 q2)⟩
def PT (d : Nat) (r2 : Int) (Q : Int → aF → aA → Prop) (φ7 : aF) (α7 : aA) : Prop := ((¬ (φ7 11 5 198) = 0 → (((φ7 11 5 198) = 0 → ((2 ≤ r2 → (jX11_ask_188 (d + 1) r2 0 (upf (upf (upf (upf (upf φ7 11 7 198 (φ7 11 5 198)) 11 8 198 (φ7 11 6 198)) 11 95 198 0) 11 96 198 1) 11 47 198 2) α7 Q)) ∧ (¬ (2 ≤ r2) → (jX11_ask_188 (d + 1) r2 0 (upf (upf (upf (upf (upf φ7 11 7 198 (φ7 11 5 198)) 11 8 198 (φ7 11 6 198)) 11 95 198 (-1)) 11 96 198 1) 11 47 198 2) α7 Q)))) ∧ (¬ ((φ7 11 5 198) = 0) → (Q (-1000000000000000) (upf (upf φ7 11 7 198 (φ7 11 5 198)) 11 8 198 (φ7 11 6 198)) α7)))) ∧ ((φ7 11 5 198) = 0 → (eX11_look d φ7 α7 (fun r11 φ11 α11 => ((r11 = (-1) → (((φ11 11 5 198) = 0 → ((2 ≤ r2 → (jX11_ask_188 (d + 1) r2 0 (upf (upf (upf (upf (upf φ11 11 7 198 (φ11 11 5 198)) 11 8 198 (φ11 11 6 198)) 11 95 198 0) 11 96 198 1) 11 47 198 2) α11 Q)) ∧ (¬ (2 ≤ r2) → (jX11_ask_188 (d + 1) r2 0 (upf (upf (upf (upf (upf φ11 11 7 198 (φ11 11 5 198)) 11 8 198 (φ11 11 6 198)) 11 95 198 (-1)) 11 96 198 1) 11 47 198 2) α11 Q)))) ∧ (¬ ((φ11 11 5 198) = 0) → (Q (-1000000000000000) (upf (upf φ11 11 7 198 (φ11 11 5 198)) 11 8 198 (φ11 11 6 198)) α11)))) ∧ (¬ (r11 = (-1)) → (eX11_fail d 1 (φ11 11 2 198) φ11 α11 (fun r15 φ15 α15 => (((φ15 11 5 198) = 0 → ((2 ≤ r2 → (jX11_ask_188 (d + 1) r2 0 (upf (upf (upf (upf (upf φ15 11 7 198 (φ15 11 5 198)) 11 8 198 (φ15 11 6 198)) 11 95 198 0) 11 96 198 1) 11 47 198 2) α15 Q)) ∧ (¬ (2 ≤ r2) → (jX11_ask_188 (d + 1) r2 0 (upf (upf (upf (upf (upf φ15 11 7 198 (φ15 11 5 198)) 11 8 198 (φ15 11 6 198)) 11 95 198 (-1)) 11 96 198 1) 11 47 198 2) α15 Q)))) ∧ (¬ ((φ15 11 5 198) = 0) → (Q (-1000000000000000) (upf (upf φ15 11 7 198 (φ15 11 5 198)) 11 8 198 (φ15 11 6 198)) α15)))))))))))
def EA (Q : Int → aF → aA → Prop) (φ0 : aF) (α0 : aA) (k pl : Int) : Prop := ∀ φ' α', fy φ0 α0 φ' α' → φ' 11 1 198 = 0 → φ' 11 7 198 = k → φ' 11 8 198 = pl → Q (-1000000000000000) φ' α'
theorem ea_q {pl : Int} (z : fy φ0 α0 φ α) (g1 : φ 11 1 198 = 0) (F : RFy φ k pl) (h : EA Q φ0 α0 k pl) : Q (-1000000000000000) (upf (upf φ 11 7 198 (φ 11 5 198)) 11 8 198 (φ 11 6 198)) α := h _ _ (fy_u (by omega) (fy_u (by omega) z)) (by rw [upf_o (by omega), upf_o (by omega)]; exact g1) (by rw [upf_o (by omega), upf_s]; exact F.1.1) (by rw [upf_s]; exact F.2)
theorem pt_bad {pl : Int} (z : fy φ0 α0 φ α) (g1 : φ 11 1 198 = 0) (F : RFy φ k pl) (h : EA Q φ0 α0 k pl) : PT d x1 Q φ α := ⟨fun _ => ⟨fun w => absurd w (RFy_5 F), fun _ => ea_q z g1 F h⟩, fun w => absurd w (RFy_5 F)⟩
theorem pt_ok {c : List Int} (z : fy φ0 α0 φ α) (g1 : φ 11 1 198 = 0) (R : RQ T N 2 0 φ α p e [] 0 c) (h0 : kdF T N p ≠ 0 → EA Q φ0 α0 1 p) (h1 : kdF T N p = 0 → ∀ φ' α', fy φ0 α0 φ' α' → φ' 11 1 198 = 0 → φ' 11 7 198 = 0 → φ' 11 8 198 = -1 → φ' 11 88 198 = c.length → (∀ i : Nat, i < c.length → α' 263 (i : Int) = tauF (c.getD i 0)) → φ' 11 95 198 = (if x1 < 2 then -1 else 0) → φ' 11 96 198 = 1 → jX11_ask_188 (d + 1) x1 0 φ' α' Q) : PT d x1 Q φ α := by
  refine ⟨fun w => absurd R.1.2.1 w, fun _ => r_look R.1 (fun φ1 f1 R1 g2 => ?_)⟩
  have z1 := fy_z z (fz_w f1)
  have g1' : φ1 11 1 198 = 0 := (f1 _ _ _ (by omega)).trans g1
  have RR := RQ_w R f1 R1
  have cc : cF T N p = -1 ↔ kdF T N p = 0 := by
    unfold cF
    rw [kdF_0]
    constructor
    · intro w
      split at w
      · rename_i q; have := (R.1.1.2.2 p q).2; omega
      · omega
    · intro w; rw [if_neg (by omega)]
  refine ⟨fun w => ⟨fun _ => ⟨fun w2 => ?_, fun w2 => ?_⟩, fun w2 => absurd R1.2.1 w2⟩, fun w => ?_⟩
  · refine h1 (cc.mp w) _ _ (fy_u (by omega) (fy_u (by omega) (fy_u (by omega) (fy_u (by omega) (fy_u (by omega) z1))))) ?_ ?_ ?_ ?_ RR.2.2.2.2.2.2 ?_ ?_
    · rw [upf_o (by omega), upf_o (by omega), upf_o (by omega), upf_o (by omega), upf_o (by omega)]; exact g1'
    · rw [upf_o (by omega), upf_o (by omega), upf_o (by omega), upf_o (by omega), upf_s]; exact R1.2.1
    · rw [upf_o (by omega), upf_o (by omega), upf_o (by omega), upf_s]; exact R1.2.2.2.1.2
    · rw [upf_o (by omega), upf_o (by omega), upf_o (by omega), upf_o (by omega), upf_o (by omega)]; exact RR.2.2.2.2.2.1
    · rw [upf_o (by omega), upf_o (by omega), upf_s, if_neg (by omega)]
    · rw [upf_o (by omega), upf_s]
  · refine h1 (cc.mp w) _ _ (fy_u (by omega) (fy_u (by omega) (fy_u (by omega) (fy_u (by omega) (fy_u (by omega) z1))))) ?_ ?_ ?_ ?_ RR.2.2.2.2.2.2 ?_ ?_
    · rw [upf_o (by omega), upf_o (by omega), upf_o (by omega), upf_o (by omega), upf_o (by omega)]; exact g1'
    · rw [upf_o (by omega), upf_o (by omega), upf_o (by omega), upf_o (by omega), upf_s]; exact R1.2.1
    · rw [upf_o (by omega), upf_o (by omega), upf_o (by omega), upf_s]; exact R1.2.2.2.1.2
    · rw [upf_o (by omega), upf_o (by omega), upf_o (by omega), upf_o (by omega), upf_o (by omega)]; exact RR.2.2.2.2.2.1
    · rw [upf_o (by omega), upf_o (by omega), upf_s, if_pos (by omega)]
    · rw [upf_o (by omega), upf_s]
  · rw [g2]
    refine r_fail R1.2.1 (fun φ2 f2 F2 => ?_)
    have F : RFy φ2 1 p := ⟨⟨F2.1, by omega⟩, F2.2⟩
    exact ⟨fun w2 => absurd w2 (RFy_5 F), fun _ => ea_q (fy_z z1 (fz_w f2)) ((f2 _ _ _ (by omega)).trans g1') F (h0 (fun w2 => w (cc.mpr w2)))⟩
theorem r_askP (h46 : φ 11 46 198 ≠ 0) (hT : N ≤ 1600 ∧ φ 11 1 198 = N ∧ ∀ i : Nat, i < N → α 199 (i : Int) = T i ∧ 0 ≤ T i ∧ T i ≤ 255) (W : WR α) (hf : 12 * N + 11 ≤ f) (hE : ∀ k pl, qsR T N f = .error (k, pl) → EA Q φ α k pl) (hO : ∀ w c, qsR T N f = .ok (w, c) → ∀ φ' α', fy φ α φ' α' → φ' 11 1 198 = 0 → φ' 11 7 198 = 0 → φ' 11 8 198 = -1 → φ' 11 88 198 = c.length → (∀ i : Nat, i < c.length → α' 263 (i : Int) = tauF (c.getD i 0)) → φ' 11 95 198 = (if w - 24 < 2 then -1 else 0) → φ' 11 96 198 = 1 → jX11_ask_188 (d + 12) (w - 24) 0 φ' α' Q) : eX11_ask (d + 12) φ α Q := by
  have hp : sk T N 0 ≤ N := sk_le N 0 (by omega) (by omega)
  refine vX11_ask_0 ⟨fun _ => ?_, fun w => absurd w h46⟩
  rw [hT.2.1]
  have z0 : fy φ α (upf (upf (upf (upf (upf (upf (upf (upf (upf (upf (upf φ 11 3 198 N) 11 1 198 0) 11 2 198 0) 11 4 198 (-1)) 11 5 198 0) 11 6 198 (-1)) 11 47 198 2) 11 88 198 0) 11 90 198 0) 11 91 198 0) 11 92 198 0) α := fy_u (by omega) (fy_u (by omega) (fy_u (by omega) (fy_u (by omega) (fy_u (by omega) (fy_u (by omega) (fy_u (by omega) (fy_u (by omega) (fy_u (by omega) (fy_u (by omega) (fy_u (by omega) ⟨fun _ _ _ _ => rfl, fun _ _ _ => rfl⟩))))))))))
  have R0 : RQ T N 2 0 (upf (upf (upf (upf (upf (upf (upf (upf (upf (upf (upf φ 11 3 198 N) 11 1 198 0) 11 2 198 0) 11 4 198 (-1)) 11 5 198 0) 11 6 198 (-1)) 11 47 198 2) 11 88 198 0) 11 90 198 0) 11 91 198 0) 11 92 198 0) α (sk T N 0) (-1) [] 0 [] := by
    refine ⟨⟨⟨hT.1, ?_, hT.2.2⟩, ?_, ?_, ⟨⟨0, ?_, by omega, rfl⟩, ?_⟩, W, by omega, hp⟩, ?_, ⟨?_, trivial⟩, ?_, upf_s, ⟨?_, fun i hi => by cases hi⟩⟩ <;> simp [upf]
  have g0 : upf (upf (upf (upf (upf (upf (upf (upf (upf (upf (upf φ 11 3 198 N) 11 1 198 0) 11 2 198 0) 11 4 198 (-1)) 11 5 198 0) 11 6 198 (-1)) 11 47 198 2) 11 88 198 0) 11 90 198 0) 11 91 198 0) 11 92 198 0 11 1 198 = 0 := by simp [upf]
  generalize upf (upf (upf (upf (upf (upf (upf (upf (upf (upf (upf φ 11 3 198 N) 11 1 198 0) 11 2 198 0) 11 4 198 (-1)) 11 5 198 0) 11 6 198 (-1)) 11 47 198 2) 11 88 198 0) 11 90 198 0) 11 91 198 0) 11 92 198 0 = φ0 at *
  generalize hp0 : sk T N 0 = p at *
  have av := av_bd (T := T) hp
  refine r_qKind R0.1 (fun k hk hw φ1 f1 R1 => ?_) (fun hn φ1 f1 F1 => ?_)
  · have RR := RQ_w R0 f1 R1
    have z1 := fy_z z0 (fz_w f1)
    have g1 : φ1 11 1 198 = 0 := (f1 _ _ _ (by omega)).trans g0
    have ap := av.2.2 (by rw [hw.1]; omega)
    have wd := hw.2.2
    have un : qsR T N f = match rd T N 26 f (qlv ((24 + k : Nat) : Int)) 0 (avF T N p) (edF T N p (-1)) with
      | .error q => .error q
      | .ok (p', _, c) => if kdF T N p' = 0 then .ok (((24 + k : Nat) : Int), c) else .error (1, (p' : Int)) := by
      unfold qsR
      rw [hp0, if_pos ⟨hw.1, by rw [wd]; omega⟩, wd]
    have e24 : (((24 + k : Nat) : Int)) - 24 = k := by omega
    have okk : ∀ (lv p' : Nat) (e' : Int) (c : List Int), qlv ((24 + k : Nat) : Int) = lv → rd T N 26 f lv 0 (avF T N p) (edF T N p (-1)) = .ok (p', e', c) → ∀ φ' α', fz φ1 α φ' α' → RQ T N 2 0 φ' α' p' e' [] 0 ([] ++ c) → PT (d + 11) k Q φ' α' := by
      intro lv p' e' c hl w φ' α' zz R'
      rw [hl, w] at un
      dsimp only at un
      rw [List.nil_append] at R'
      refine pt_ok (fy_z z1 zz) ((zz.1 _ _ _ (by omega)).trans g1) R' (fun q => hE 1 p' (by rw [un, if_neg q])) (fun q φ2 α2 y1 y2 y3 y4 y5 y6 y7 y8 => ?_)
      rw [if_pos q] at un
      have := hO _ c un φ2 α2 y1 y2 y3 y4 y5 y6 (by rw [e24]; exact y7) y8
      rw [e24] at this
      exact this
    have bdd : ∀ (lv : Nat) (k' pl : Int), qlv ((24 + k : Nat) : Int) = lv → rd T N 26 f lv 0 (avF T N p) (edF T N p (-1)) = .error (k', pl) → ∀ φ' α', fz φ1 α φ' α' → RFy φ' k' pl → PT (d + 11) k Q φ' α' := by
      intro lv k' pl hl w φ' α' zz F
      rw [hl, w] at un
      exact pt_bad (fy_z z1 zz) ((zz.1 _ _ _ (by omega)).trans g1) F (hE k' pl un)
    refine ⟨fun w => absurd R1.2.1 w, fun _ => ⟨fun q => ?_, fun q => ?_⟩⟩
    · have hl : qlv ((24 + k : Nat) : Int) = 3 := by unfold qlv; rw [if_neg (by omega)]
      exact r_qSums (d := d + 4) (f := f) (tg := 26) (Or.inr (Or.inr ⟨rfl, rfl⟩)) RR (by omega) (fun u hu => by cases hu) (by simp) (by omega) (fun k' pl w φ' α' zz F => bdd 3 k' pl hl w φ' α' zz ⟨F.1, F.2.1⟩) (fun p' e' c w φ' α' zz R' => okk 3 p' e' c hl w φ' α' zz R')
    · have hl : qlv ((24 + k : Nat) : Int) = 0 := by unfold qlv; rw [if_pos (by omega)]
      exact r_qTest (d := d + 2) (f := f) (tg := 26) (Or.inr (Or.inr ⟨rfl, rfl⟩)) RR (by omega) (by simp) (by omega) (fun k' pl w φ' α' zz F => bdd 0 k' pl hl w φ' α' zz F) (fun p' e' c w φ' α' zz R' => okk 0 p' e' c hl w φ' α' zz R')
  · have F : RFy φ1 1 p := ⟨⟨F1.1, by omega⟩, F1.2⟩
    refine ⟨fun _ => ⟨fun w => absurd w (RFy_5 F), fun _ => ea_q (fy_z z0 (fz_w f1)) ((f1 _ _ _ (by omega)).trans g0) F (hE 1 p ?_)⟩, fun w => absurd w (RFy_5 F)⟩
    unfold qsR
    rw [hp0, if_neg]
    intro w
    have wl := wd_lt (T := T) (N := N) (p := p)
    exact hn (wdF T N p - 24).toNat (by omega) ⟨w.1, by omega, by omega⟩
theorem qs_ok {c : List Int} {w : Int} (h : qsR T N f = .ok (w, c)) : (24 ≤ w ∧ w ≤ 29) ∧ c.length ≤ N ∧ tyL2 [] c = some [decide (w < 27)] ∧ ∀ x ∈ c, okc 26 x := by
  have hp : sk T N 0 ≤ N := sk_le N 0 (by omega) (by omega)
  unfold qsR at h
  generalize sk T N 0 = p at *
  split at h
  · rename_i q
    have av := av_bd (T := T) hp
    have he := ed_le (T := T) (e := -1) hp (by omega)
    have wl := wd_lt (T := T) (N := N) (p := p)
    split at h
    · cases h
    · rename_i p' e' c' hr
      split at h
      · cases h
        have g := rd_PG f _ 0 _ _ _ he av.2.1 hr
        have g1 := g.1
        have g2 := g.2.2.1
        dsimp only at g1 g2
        refine ⟨by omega, by omega, ?_⟩
        by_cases q2 : wdF T N p < 27
        · rw [show qlv (wdF T N p) = 0 by unfold qlv; rw [if_pos q2]] at hr
          rw [decide_eq_true q2]
          exact test_ty av.2.1 he hr
        · rw [show qlv (wdF T N p) = 3 by unfold qlv; rw [if_neg q2]] at hr
          rw [decide_eq_false q2]
          exact sum_ty av.2.1 he hr
      · cases h
  · cases h
end AQ
