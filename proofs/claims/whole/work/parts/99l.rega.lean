/-! the registry: all statements by the reference; what then stands -/
def fK (φ : aF) (α : aA) (φ' : aF) (α' : aA) : Prop := (∀ c g o, ¬ (c = 11 ∧ (g = 1 ∨ g = 2 ∨ g = 3 ∨ g = 4 ∨ g = 5 ∨ g = 6 ∨ g = 10 ∨ g = 35 ∨ g = 44 ∨ g = 45 ∨ g = 47 ∨ g = 88 ∨ g = 90 ∨ g = 91 ∨ g = 92)) → φ' c g o = φ c g o) ∧ ∀ a i : Int, lmP a i → α' a i = α a i
def ER (X : Except (Int × Int) (Nat × dS)) (φ0 : aF) (α0 : aA) (Q : Int → aF → aA → Prop) : Prop := ∀ kd pl, X = .error (kd, pl) → ∀ φ' α', fK φ0 α0 φ' α' → φ' 11 1 198 = 0 → inR (α' 200 1 + 1) ∧ Q (-1) (upf (upf φ' 11 7 198 kd) 11 8 198 pl) (upa α' 200 1 (α' 200 1 + 1))
def OR (d : Nat) (X : Except (Int × Int) (Nat × dS)) (φ0 : aF) (α0 : aA) (Q : Int → aF → aA → Prop) : Prop := ∀ (k' M' n' : Nat) G' lc' kc', X = .ok (k', ((M', n'), G', (lc', kc'))) → DI M' n' G' lc' kc' → ∀ φ' α' p', fK φ0 α0 φ' α' → φ' 11 1 198 = 0 → RD φ' α' M' n' G' lc' kc' p' → p' ≤ 1600 → φ' 11 45 198 = k' → eX11_stands d (upf (upf φ' 11 7 198 0) 11 8 198 (-1)) α' (fun _ φ α => Q (φ 11 45 198) φ α)
theorem bD_inv {γ : Type} {x : xD} {k : Nat → Int → dS → Except (Int × Int) γ} {r : γ} (h : bD x k = .ok r) : ∃ p e D, x = .ok (p, e, D) ∧ k p e D = .ok r := by
  match x, h with
  | .ok (p, e, D), h => exact ⟨p, e, D, rfl, h⟩
section RK
variable {d N p f M n k g q p' : Nat} {φ φ' φ0 φ1 φ2 : aF} {α α' α0 α1 α2 : aA} {Q : Int → aF → aA → Prop} {x1 x2 e w s v a i r pl f0 : Int} {T nm G B : Int → Int} {lc kc c : List Int} {X : Except (Int × Int) (Nat × dS)}
theorem fK.rf : fK φ α φ α := ⟨fun _ _ _ _ => rfl, fun _ _ _ => rfl⟩
theorem fK_h (h : fK φ α φ1 α1) (h' : fH φ1 α1 φ2 α2) : fK φ α φ2 α2 := ⟨fun c f o q => (h'.1 c f o (by omega)).trans (h.1 c f o q), fun a i q => (h'.2 a i q).trans (h.2 a i q)⟩
theorem stS_ok {M' n' : Nat} {G' : Int → Int} {lc' kc' : List Int} {e' : Int} (I : DI M n G lc kc) (hN : N ≤ 1600) (hp : p ≤ N) (he : e ≤ p) (hk : k = 0 → n = 0) (h : stS T N f k M n G lc kc p e = .ok (p', e', ((M', n'), G', (lc', kc')))) : DI M' n' G' lc' kc' ∧ k < 80 := by
  obtain ⟨p1, e1, D1, h1, h2⟩ := bD_inv h
  obtain ⟨p2, e2, v2, h3, h4⟩ := bd_inv h2
  cases h4
  exact stF_DI I hN hp he hk h1
theorem cF_0 (R : RLx T N φ α p e) : cF T N p = -1 ↔ kdF T N p = 0 := by
  have a := @kdF_0 T N p
  unfold cF
  by_cases z : p < N
  · have t := (R.1.2.2 p z).2
    rw [if_pos z]
    constructor
    · intro y; omega
    · intro y; have := a.mp y; omega
  · rw [if_neg z]
    exact ⟨fun _ => a.mpr (by omega), fun _ => rfl⟩
theorem l_regR (hf : 12 * N + 11 ≤ f) (hE : ER X φ0 α0 Q) (hO : OR (d + 11) X φ0 α0 Q) : ∀ (r k : Nat), k + r = 81 → 1 ≤ k → 1 ≤ r → ∀ (M n : Nat) (G : Int → Int) (lc kc : List Int) (p : Nat) (e : Int) (φ : aF) (α : aA), X = rgF T N f r k ((M, n), G, (lc, kc)) p e → RLx T N φ α p e → RD φ α M n G lc kc p → DI M n G lc kc → φ 11 45 198 = k → φ 11 1 198 = 0 → fK φ0 α0 φ α → jX11_registry_81 (d + 12) φ α Q := by
  intro r
  induction r with
  | zero => intro k _ _ h; omega
  | succ r ih =>
    intro k hk hk1 _ M n G lc kc p e φ α hX R D I h45 h1 F
    refine vX11_registry_81 ⟨fun z => absurd R.2.1 z, fun _ => r_look R (fun φ1 f1 R1 g2 => ?_)⟩
    have e45 : φ1 11 45 198 = k := (f1 _ _ _ (by omega)).trans h45
    have e1 : φ1 11 1 198 = 0 := (f1 _ _ _ (by omega)).trans h1
    have F1 := fK_h F (fH_h (fh_w (α := α) f1))
    have hN := R1.1.1
    have hp := R1.2.2.2.2.2.2
    have he := R1.2.2.2.2.2.1
    refine ⟨fun y => ⟨fun _ => ?_, fun z => absurd R1.2.1 z⟩, fun y => ?_⟩
    · rw [rgF, if_pos ⟨by omega, (cF_0 R1).mp y⟩] at hX
      rw [R1.2.1, R1.2.2.2.1.2]
      exact hO k M n G lc kc hX I φ1 α p F1 e1 (RD_w f1 D) (by omega) e45
    · have nz : ¬ (0 < k ∧ kdF T N p = 0) := fun z => y ((cF_0 R1).mpr z.2)
      rw [rgF_s nz] at hX
      dsimp only at hX
      refine r_statement (d := d) R1 g2 (RD_w f1 D) I hf (by omega) e45 (fun kd pl w hkd φ2 α2 f2 F2 => ?_) (fun p2 e2 M2 n2 G2 lc2 kc2 w φ2 α2 f2 R2 D2 h45' => ?_)
      · rw [bD_er w] at hX
        have hb : ¬ φ2 11 5 198 = 0 := by rw [F2.1]; exact hkd
        refine vX11_registry_81 ⟨fun _ => ⟨fun z => absurd z hb, fun _ => ?_⟩, fun z => absurd z hb⟩
        rw [F2.1, F2.2]
        exact hE kd pl hX φ2 α2 (fK_h F1 f2) ((f2.1 _ _ _ (by omega)).trans e1)
      · rw [bD_ok w] at hX
        obtain ⟨I2, k80⟩ := stS_ok I hN hp he (by omega) w
        exact ih (k + 1) (by omega) (by omega) (by omega) M2 n2 G2 lc2 kc2 p2 e2 φ2 α2 hX R2 D2 I2 (by rw [h45']; omega) ((f2.1 _ _ _ (by omega)).trans e1) (fK_h F1 f2)
theorem r_registry (hT : N ≤ 1600 ∧ φ 11 1 198 = N ∧ ∀ i : Nat, i < N → α 199 (i : Int) = T i ∧ 0 ≤ T i ∧ T i ≤ 255) (W : WR α) (hf : 12 * N + 11 ≤ f) (hX : X = rgF T N f 81 0 ((0, 0), G0, ([13, 1004, 47], [21])) (sk T N 0) (-1)) (hE : ER X φ α Q) (hO : OR (d + 11) X φ α Q) : eX11_registry (d + 12) φ α Q := by
  have hp : sk T N 0 ≤ N := sk_le N 0 (by omega) (by omega)
  refine vX11_registry_0 (vX11_registry_40 ⟨fun z => by omega, fun _ => ⟨⟨by omega, by omega⟩, by unfold inR; omega, ?_⟩⟩)
  rw [show (0 : Int) + 1 = 1 from rfl]
  refine vX11_registry_40 ⟨fun z => by omega, fun _ => ⟨⟨by omega, by omega⟩, by unfold inR; omega, ?_⟩⟩
  rw [show (1 : Int) + 1 = 2 from rfl]
  refine vX11_registry_40 ⟨fun _ => ?_, fun z => by omega⟩
  rw [hT.2.1]
  have F0 : fK φ α (upf (upf (upf (upf (upf (upf (upf φ 11 3 198 N) 11 1 198 0) 11 2 198 0) 11 4 198 (-1)) 11 5 198 0) 11 6 198 (-1)) 11 44 198 0) (upa (upa (upa (upa (upa α 226 0 0) 230 0 (-1)) 226 1 0) 230 1 (-1)) 225 1 0) := by
    refine ⟨fun c g o q => ?_, fun a i q => ?_⟩
    · rw [upf_o (by omega), upf_o (by omega), upf_o (by omega), upf_o (by omega), upf_o (by omega), upf_o (by omega), upf_o (by omega)]
    · unfold lmP at q
      have e1 : ¬ (a = 225 ∧ i = 1) := by omega
      have e2 : ¬ (a = 230 ∧ i = 1) := by omega
      have e3 : ¬ (a = 226 ∧ i = 1) := by omega
      have e4 : ¬ (a = 230 ∧ i = 0) := by omega
      have e5 : ¬ (a = 226 ∧ i = 0) := by omega
      simp only [upa]
      rw [if_neg e1, if_neg e2, if_neg e3, if_neg e4, if_neg e5]
  have A0 : ∀ a : Int, a ≠ 225 → a ≠ 226 → a ≠ 230 → upa (upa (upa (upa (upa α 226 0 0) 230 0 (-1)) 226 1 0) 230 1 (-1)) 225 1 0 a = α a := fun a q1 q2 q3 => by rw [upa_fn q1, upa_fn q3, upa_fn q2, upa_fn q3, upa_fn q2]
  have R0 : RLx T N (upf (upf (upf (upf (upf (upf (upf φ 11 3 198 N) 11 1 198 0) 11 2 198 0) 11 4 198 (-1)) 11 5 198 0) 11 6 198 (-1)) 11 44 198 0) (upa (upa (upa (upa (upa α 226 0 0) 230 0 (-1)) 226 1 0) 230 1 (-1)) 225 1 0) (sk T N 0) (-1) := by
    refine ⟨⟨hT.1, ?_, by rw [A0 _ (by omega) (by omega) (by omega)]; exact hT.2.2⟩, ?_, ?_, ⟨⟨0, ?_, by omega, rfl⟩, ?_⟩, ⟨fun k i q1 q2 => by rw [A0 _ (by omega) (by omega) (by omega)]; exact W.1 k i q1 q2, fun k i q1 q2 => by rw [A0 _ (by omega) (by omega) (by omega)]; exact W.2 k i q1 q2⟩, by omega, hp⟩ <;> simp [upf]
  have h1 : upf (upf (upf (upf (upf (upf (upf φ 11 3 198 N) 11 1 198 0) 11 2 198 0) 11 4 198 (-1)) 11 5 198 0) 11 6 198 (-1)) 11 44 198 0 11 1 198 = 0 := by simp [upf]
  have D0 : ∀ x, RD (upf (upf (upf (upf (upf (upf (upf φ 11 3 198 N) 11 1 198 0) 11 2 198 0) 11 4 198 (-1)) 11 5 198 0) 11 6 198 (-1)) 11 44 198 0) (upa (upa (upa (upa (upa (upa α 226 0 0) 230 0 (-1)) 226 1 0) 230 1 (-1)) 225 1 0) 225 0 x) 0 0 (un G0 0 x) [13, 1004, 47] [21] (sk T N 0) := by
    intro x
    refine ⟨⟨by rw [upa_eq, un_s], ?_⟩, ⟨⟨?_, by omega⟩, ⟨?_, by omega⟩, fun k q => by omega, fun k q => by omega⟩, fun c q => by omega, fun c m q => by omega, ?_, Or.inl ⟨?_, ?_⟩, Or.inl ⟨?_, ?_⟩⟩
    · rw [upa_ni (by omega), upa_eq, un_o (by omega)]; rfl
    · simp [upa]
    · simp [upa]
    · rw [upf_s]; omega
    · rw [un_o (by omega)]; rfl
    · simp [upa]
    · rw [un_o (by omega)]; rfl
    · simp [upa]
  generalize upf (upf (upf (upf (upf (upf (upf φ 11 3 198 N) 11 1 198 0) 11 2 198 0) 11 4 198 (-1)) 11 5 198 0) 11 6 198 (-1)) 11 44 198 0 = φa at *
  generalize upa (upa (upa (upa (upa α 226 0 0) 230 0 (-1)) 226 1 0) 230 1 (-1)) 225 1 0 = αa at *
  rw [rgF_s (fun z => by omega)] at hX
  dsimp only at hX
  refine r_seats (d := d + 7) (f := f) R0 D0 ⟨fun kd pl w hkd φ2 α2 f2 F2 => ?_, fun p2 e2 M2 n2 G2 lc2 kc2 w φ2 α2 f2 R2 D2 => ?_⟩
  · rw [bD_er w] at hX
    have hb : ¬ upf φ2 11 45 198 1 11 5 198 = 0 := by rw [upf_o (by omega), F2.1]; exact hkd
    refine vX11_registry_81 ⟨fun _ => ⟨fun z => absurd z hb, fun _ => ?_⟩, fun z => absurd z hb⟩
    rw [upf_o (by omega), upf_o (by omega), F2.1, F2.2]
    exact hE kd pl hX _ α2 (fK_h F0 ((fH_h f2).tr fH_u)) (by rw [upf_o (by omega), f2.1 _ _ _ (by omega)]; exact h1)
  · rw [bD_ok w] at hX
    obtain ⟨I2, k80⟩ := stS_ok DI_0 hT.1 hp (by omega) (fun _ => rfl) w
    exact l_regR hf hE hO 80 1 (by omega) (by omega) (by omega) M2 n2 G2 lc2 kc2 p2 e2 _ α2 hX (RLx_h R2 (fun g hg => upf_o (by omega)) (fun _ _ => rfl)) (RD_f (upf_o (by omega)) D2) I2 upf_s (by rw [upf_o (by omega), f2.1 _ _ _ (by omega)]; exact h1) (fK_h F0 ((fH_h f2).tr fH_u))
-- what then stands
def nwF (G : Int → Int) (n : Nat) : Int → Int := fun i => if 1 ≤ i ∧ i < 1 + 5 * (n : Int) then (if (i - 1) % 5 = 0 then G (40 + (i - 1) / 5) else G (50 + 4 * ((i - 1) / 5) + ((i - 1) % 5 - 1))) else 0
theorem nwF_s {c : Int} (h : 0 ≤ c ∧ c < n) : nwF G n (1 + 5 * c) = G (40 + c) := by
  unfold nwF
  rw [if_pos (by omega), if_pos (by omega), show (1 + 5 * c - 1) / 5 = c by omega]
theorem nwF_d {c m : Int} (h : 0 ≤ c ∧ c < n) (hm : 0 ≤ m ∧ m < 4) : nwF G n (2 + 5 * c + m) = G (50 + 4 * c + m) := by
  unfold nwF
  rw [if_pos (by omega), if_neg (by omega), show (2 + 5 * c + m - 1) / 5 = c by omega, show (2 + 5 * c + m - 1) % 5 - 1 = m by omega]
theorem nwF_o {i : Int} (h : i < 1 ∨ 1 + 5 * (n : Int) ≤ i) : nwF G n i = 0 := by
  unfold nwF
  rw [if_neg (by omega)]
theorem l_st76 (h : jX11_stands_105 d 0 φ (rg α0 227 16 32 (fun i => α0 227 (i - 16))) Q) : ∀ (r k : Nat) (α : aA), k + r = 16 → (∀ i : Int, i < 16 → α 227 i = α0 227 i) → rg α 227 (16 + (k : Int)) 32 (fun i => α0 227 (i - 16)) = rg α0 227 16 32 (fun i => α0 227 (i - 16)) → jX11_stands_76 d k φ α Q := by
  intro r
  induction r with
  | zero =>
    intro k α hk _ hr
    rw [rg_end (by omega)] at hr
    rw [← hr] at h
    exact vX11_stands_76 ⟨fun _ => h, fun z => by omega⟩
  | succ r ih =>
    intro k α hk ha hr
    refine vX11_stands_76 ⟨fun z => by omega, fun _ => ⟨by unfold inR; omega, ⟨by omega, by omega⟩, ⟨by omega, by omega⟩, by unfold inR; omega, ?_⟩⟩
    have := ih (k + 1) (upa α 227 (16 + (k : Int)) (α 227 (k : Int))) (by omega) (fun i hi => by rw [upa_ni (by omega)]; exact ha i hi) (by
      rw [ha k (by omega), ← hr, show 16 + ((k + 1 : Nat) : Int) = 16 + (k : Int) + 1 by omega]
      have e1 : α0 227 (k : Int) = (fun i => α0 227 (i - 16)) (16 + (k : Int)) := by
        show α0 227 (k : Int) = α0 227 (16 + (k : Int) - 16)
        rw [show 16 + (k : Int) - 16 = k by omega]
      rw [e1]
      exact rg_step (f := fun i => α0 227 (i - 16)) (by omega))
    exact this
theorem l_st105 (h : jX11_stands_134 d 0 φ (rg α0 228 14 28 (fun i => α0 228 (i - 14))) Q) : ∀ (r k : Nat) (α : aA), k + r = 14 → (∀ i : Int, i < 14 → α 228 i = α0 228 i) → rg α 228 (14 + (k : Int)) 28 (fun i => α0 228 (i - 14)) = rg α0 228 14 28 (fun i => α0 228 (i - 14)) → jX11_stands_105 d k φ α Q := by
  intro r
  induction r with
  | zero =>
    intro k α hk _ hr
    rw [rg_end (by omega)] at hr
    rw [← hr] at h
    exact vX11_stands_105 ⟨fun _ => h, fun z => by omega⟩
  | succ r ih =>
    intro k α hk ha hr
    refine vX11_stands_105 ⟨fun z => by omega, fun _ => ⟨by unfold inR; omega, ⟨by omega, by omega⟩, ⟨by omega, by omega⟩, by unfold inR; omega, ?_⟩⟩
    have := ih (k + 1) (upa α 228 (14 + (k : Int)) (α 228 (k : Int))) (by omega) (fun i hi => by rw [upa_ni (by omega)]; exact ha i hi) (by
      rw [ha k (by omega), ← hr, show 14 + ((k + 1 : Nat) : Int) = 14 + (k : Int) + 1 by omega]
      have e1 : α0 228 (k : Int) = (fun i => α0 228 (i - 14)) (14 + (k : Int)) := by
        show α0 228 (k : Int) = α0 228 (14 + (k : Int) - 14)
        rw [show 14 + (k : Int) - 14 = k by omega]
      rw [e1]
      exact rg_step (f := fun i => α0 228 (i - 14)) (by omega))
    exact this
theorem l_st134 {cd : Nat} (hc : φ 11 44 198 = cd) (hc2 : cd ≤ 1600) (h : jX11_stands_166 d 0 φ (rg α0 232 1600 (1600 + (cd : Int)) (fun i => α0 232 (i - 1600))) Q) : ∀ (r k : Nat) (α : aA), k + r = cd → (∀ i : Int, i < 1600 → α 232 i = α0 232 i) → rg α 232 (1600 + (k : Int)) (1600 + (cd : Int)) (fun i => α0 232 (i - 1600)) = rg α0 232 1600 (1600 + (cd : Int)) (fun i => α0 232 (i - 1600)) → jX11_stands_134 d k φ α Q := by
  intro r
  induction r with
  | zero =>
    intro k α hk _ hr
    rw [rg_end (by omega)] at hr
    rw [← hr] at h
    exact vX11_stands_134 ⟨fun _ => h, fun z => by omega⟩
  | succ r ih =>
    intro k α hk ha hr
    refine vX11_stands_134 ⟨fun z => by omega, fun _ => ⟨by unfold inR; omega, ⟨by omega, by omega⟩, ⟨by omega, by omega⟩, by unfold inR; omega, ?_⟩⟩
    have := ih (k + 1) (upa α 232 (1600 + (k : Int)) (α 232 (k : Int))) (by omega) (fun i hi => by rw [upa_ni (by omega)]; exact ha i hi) (by
      rw [ha k (by omega), ← hr, show 1600 + ((k + 1 : Nat) : Int) = 1600 + (k : Int) + 1 by omega]
      have e1 : α0 232 (k : Int) = (fun i => α0 232 (i - 1600)) (1600 + (k : Int)) := by
        show α0 232 (k : Int) = α0 232 (1600 + (k : Int) - 1600)
        rw [show 1600 + (k : Int) - 1600 = k by omega]
      rw [e1]
      exact rg_step (f := fun i => α0 232 (i - 1600)) (by omega))
    exact this
theorem l_st166 : ∀ (r k : Nat) (α : aA), k + r = 169 → jX11_stands_188 d 0 φ (rg α 233 k 169 (fun _ => 0)) Q → jX11_stands_166 d k φ α Q
  | 0, k, α, hk, h => by
    rw [rg_end (by omega)] at h
    exact vX11_stands_166 ⟨fun _ => h, fun z => by omega⟩
  | r + 1, k, α, hk, h => vX11_stands_166 ⟨fun z => by omega, fun _ => ⟨⟨by omega, by omega⟩, by unfold inR; omega, l_st166 r (k + 1) _ (by omega) (by
      rw [show ((k + 1 : Nat) : Int) = (k : Int) + 1 by omega, rg_step (f := fun _ => 0) (by omega)]
      exact h)⟩⟩
/-- the first B cells of the state are laid -/
def WB (α0 α : aA) (G : Int → Int) (n : Nat) (B : Int) : Prop := (∀ a : Int, a ≠ 233 → α a = α0 a) ∧ ∀ i : Int, 0 ≤ i → i < 169 → α 233 i = if i < B then nwF G n i else 0
theorem WB_s (W : WB α0 α G n x1) (hv : v = nwF G n x1) : WB α0 (upa α 233 x1 v) G n (x1 + 1) := by
  refine ⟨fun a q => (upa_fn q).trans (W.1 a q), fun i q1 q2 => ?_⟩
  by_cases z : i = x1
  · rw [z, upa_eq, if_pos (by omega)]; exact hv
  · rw [upa_ni z, W.2 i q1 q2]
    by_cases y : i < x1
    · rw [if_pos y, if_pos (by omega)]
    · rw [if_neg y, if_neg (by omega)]
theorem l_st218 {c : Nat} (hc : c < n) (hn : n ≤ 7) (h9 : ∀ m : Nat, m < 4 → α0 229 (4 * (c : Int) + (m : Int)) = G (50 + 4 * (c : Int) + (m : Int))) (h : ∀ α, WB α0 α G n (1 + 5 * ((c : Int) + 1)) → jX11_stands_188 d ((c : Int) + 1) φ α Q) : ∀ (r m : Nat) (α : aA), m + r = 4 → WB α0 α G n (2 + 5 * (c : Int) + (m : Int)) → jX11_stands_218 d c m φ α Q
  | 0, m, α, hm, W => vX11_stands_218 ⟨fun _ => ⟨by unfold inR; omega, h α (by rw [show 1 + 5 * ((c : Int) + 1) = 2 + 5 * (c : Int) + (m : Int) by omega]; exact W)⟩, fun z => by omega⟩
  | r + 1, m, α, hm, W => by
    refine vX11_stands_218 ⟨fun z => by omega, fun _ => ⟨by unfold inR; omega, by unfold inR; omega, by unfold inR; omega, by unfold inR; omega, by unfold inR; omega, ⟨by omega, by omega⟩, ⟨by omega, by omega⟩, by unfold inR; omega, ?_⟩⟩
    have := l_st218 hc hn h9 h r (m + 1) (upa α 233 (2 + 5 * (c : Int) + (m : Int)) (α 229 (4 * (c : Int) + (m : Int)))) (by omega) (by
      rw [show 2 + 5 * (c : Int) + ((m + 1 : Nat) : Int) = 2 + 5 * (c : Int) + (m : Int) + 1 by omega]
      exact WB_s W (by rw [W.1 229 (by omega), h9 m (by omega), nwF_d (by omega) (by omega)]))
    exact this
theorem l_st188 (hn : n ≤ 7) (h26 : α0 226 1 = n) (h8 : ∀ c : Nat, c < n → α0 228 (2 * (c : Int)) = G (40 + (c : Int))) (h9 : ∀ c m : Nat, c < n → m < 4 → α0 229 (4 * (c : Int) + (m : Int)) = G (50 + 4 * (c : Int) + (m : Int))) (h : ∀ α, (∀ a : Int, a ≠ 233 → α a = α0 a) → (∀ i : Int, 0 ≤ i → i < 169 → α 233 i = nwF G n i) → Q 0 (upf (upf φ 11 60 198 0) 11 55 198 0) α) : ∀ (r c : Nat) (α : aA), c + r = n → WB α0 α G n (1 + 5 * (c : Int)) → jX11_stands_188 d c φ α Q := by
  intro r
  induction r with
  | zero =>
    intro c α hc W
    refine vX11_stands_188 ⟨fun _ => h α W.1 (fun i q1 q2 => ?_), fun z => by rw [W.1 226 (by omega), h26] at z; omega⟩
    rw [W.2 i q1 q2]
    by_cases y : i < 1 + 5 * (c : Int)
    · rw [if_pos y]
    · rw [if_neg y, nwF_o (by omega)]
  | succ r ih =>
    intro c α hc W
    refine vX11_stands_188 ⟨fun z => by rw [W.1 226 (by omega), h26] at z; omega, fun _ => ⟨by unfold inR; omega, by unfold inR; omega, by unfold inR; omega, ⟨by omega, by omega⟩, ⟨by omega, by omega⟩, ?_⟩⟩
    refine l_st218 (α0 := α0) (G := G) (n := n) (by omega) hn (fun m hm => h9 c m (by omega) hm) (fun α' W' => ?_) 4 0 _ (by omega) ?_
    · exact ih (c + 1) α' (by omega) W'
    · rw [show 2 + 5 * (c : Int) + ((0 : Nat) : Int) = 1 + 5 * (c : Int) + 1 by omega]
      exact WB_s W (by rw [W.1 228 (by omega), h8 c (by omega), nwF_s (by omega)])
/-- the reference's rows that stand -/
def RSr (α : aA) (M n : Nat) (G : Int → Int) (lc kc : List Int) : Prop :=
  (α 225 2 = G 0 ∧ α 225 3 = G 3 ∧ α 226 2 = M ∧ α 226 3 = n) ∧ ((∀ m : Nat, m < M → α 227 (16 + (m : Int)) = G (10 + (m : Int))) ∧ (∀ c : Nat, c < n → α 227 (24 + (c : Int)) = G (14 + (c : Int)))) ∧ (∀ c : Nat, c < n → α 228 (15 + 2 * (c : Int)) = G (30 + (c : Int))) ∧ ((G 4 = 0 ∧ α 230 2 = -1) ∨ ∃ f : Int, RC α 0 f lc) ∧ ((G 5 = 0 ∧ α 230 3 = -1) ∨ ∃ f : Int, RC α 1 f kc) ∧ ∀ i : Int, 0 ≤ i → i < 169 → α 233 i = nwF G n i
theorem r_stands (D : RD φ α M n G lc kc p) (hp : p ≤ 1600) (h : ∀ φ' α', (∀ c g o, ¬ (c = 11 ∧ (g = 46 ∨ g = 55 ∨ g = 60)) → φ' c g o = φ c g o) → φ' 11 46 198 = 1 ∧ φ' 11 60 198 = 0 ∧ φ' 11 55 198 = 0 → (∀ a : Int, ¬ (225 ≤ a ∧ a ≤ 233) → α' a = α a) → RSr α' M n G lc kc → Q 0 φ' α') : eX11_stands d φ α Q := by
  obtain ⟨⟨d1, d2⟩, ⟨m1, m2, m3, m4⟩, d3, d4, d5, d6, d7⟩ := D
  obtain ⟨cd, hcd⟩ : ∃ cd : Nat, φ 11 44 198 = (cd : Int) := ⟨(φ 11 44 198).toNat, by omega⟩
  refine vX11_stands_0 (vX11_stands_7 ⟨fun z => by omega, fun _ => ⟨by unfold inR; omega, ⟨by omega, by omega⟩, ⟨by omega, by omega⟩, by unfold inR; omega, ?_⟩⟩)
  rw [show (2 : Int) + 0 = 2 from rfl, show (0 : Int) + 1 = 1 from rfl]
  refine vX11_stands_7 ⟨fun z => by omega, fun _ => ⟨by unfold inR; omega, ⟨by omega, by omega⟩, ⟨by omega, by omega⟩, by unfold inR; omega, ?_⟩⟩
  rw [show (2 : Int) + 1 = 3 from rfl, show (1 : Int) + 1 = 2 from rfl]
  refine vX11_stands_7 ⟨fun _ => ?_, fun z => by omega⟩
  generalize hA : upa (upa (upa (upa (upa (upa (upa (upa α 225 2 (α 225 0)) 226 2 (α 226 0)) 230 2 (α 230 0)) 231 2 (α 231 0)) 225 3 _) 226 3 _) 230 3 _) 231 3 _ = α1
  have a1 : ∀ a : Int, a ≠ 225 → a ≠ 226 → a ≠ 230 → a ≠ 231 → α1 a = α a := fun a q1 q2 q3 q4 => by rw [← hA, upa_fn q4, upa_fn q3, upa_fn q2, upa_fn q1, upa_fn q4, upa_fn q3, upa_fn q2, upa_fn q1]
  have b1 : α1 225 2 = α 225 0 := by rw [← hA]; simp [upa]
  have b2 : α1 225 3 = α 225 1 := by rw [← hA]; simp [upa]
  have b3 : α1 226 2 = α 226 0 := by rw [← hA]; simp [upa]
  have b4 : α1 226 3 = α 226 1 := by rw [← hA]; simp [upa]
  have b4' : α1 226 1 = α 226 1 := by rw [← hA]; simp [upa]
  have b5 : α1 230 2 = α 230 0 := by rw [← hA]; simp [upa]
  have b6 : α1 230 3 = α 230 1 := by rw [← hA]; simp [upa]
  have b7 : α1 231 2 = α 231 0 := by rw [← hA]; simp [upa]
  have b8 : α1 231 3 = α 231 1 := by rw [← hA]; simp [upa]
  clear hA
  have e44 : upf φ 11 46 198 1 11 44 198 = cd := by rw [upf_o (by omega)]; exact hcd
  refine l_st76 (α0 := α1) (l_st105 (l_st134 e44 (by omega) (l_st166 169 0 _ (by omega) (l_st188 (α0 := rg (rg (rg α1 227 16 32 (fun i => α1 227 (i - 16))) 228 14 28 (fun i => rg α1 227 16 32 (fun i => α1 227 (i - 16)) 228 (i - 14))) 232 1600 (1600 + (cd : Int)) (fun i => rg (rg α1 227 16 32 (fun i => α1 227 (i - 16))) 228 14 28 (fun i => rg α1 227 16 32 (fun i => α1 227 (i - 16)) 228 (i - 14)) 232 (i - 1600))) (G := G) m2.2 ?_ (fun c hc => ?_) (fun c m hc hm => ?_) (fun α5 y1 y2 => ?_) n 0 _ (by omega) ⟨fun a q => rg_ne q, fun i q1 q2 => ?_⟩)) cd 0 _ (by omega) (fun _ _ => rfl) rfl) 14 0 _ (by omega) (fun _ _ => rfl) rfl) 16 0 _ (by omega) (fun _ _ => rfl) rfl
  · rw [rg_ne (by omega), rg_ne (by omega), rg_ne (by omega), b4']; exact m2.1
  · rw [rg_ne (by omega), rg_out (by omega), rg_ne (by omega), a1 _ (by omega) (by omega) (by omega) (by omega)]; exact (d3 c hc).1
  · rw [rg_ne (by omega), rg_ne (by omega), rg_ne (by omega), a1 _ (by omega) (by omega) (by omega) (by omega)]; exact d4 c m hc hm
  · have n7 := m2.2
    have M4 := m1.2
    have co : ∀ i : Int, 0 ≤ i → i < cd → α5 232 (1600 + i) = α 232 i := fun i q1 q2 => by rw [y1 _ (by omega), rg_in (by omega), rg_ne (by omega), rg_ne (by omega), a1 _ (by omega) (by omega) (by omega) (by omega), show 1600 + i - 1600 = i by omega]
    have z1 : ∀ a : Int, a ≠ 227 → a ≠ 228 → a ≠ 232 → a ≠ 233 → α5 a = α1 a := fun a q1 q2 q3 q4 => by rw [y1 a q4, rg_ne q3, rg_ne q2, rg_ne q1]
    refine h _ α5 (fun c g o q => by rw [upf_o (by omega), upf_o (by omega), upf_o (by omega)]) ⟨by rw [upf_o (by omega), upf_o (by omega), upf_s], by rw [upf_o (by omega), upf_s], upf_s⟩ (fun a q => by rw [z1 a (by omega) (by omega) (by omega) (by omega)]; exact a1 a (by omega) (by omega) (by omega) (by omega)) ⟨⟨?_, ?_, ?_, ?_⟩, ⟨fun m hm => ?_, fun c hc => ?_⟩, fun c hc => ?_, ?_, ?_, y2⟩
    · rw [z1 _ (by omega) (by omega) (by omega) (by omega), b1]; exact d1
    · rw [z1 _ (by omega) (by omega) (by omega) (by omega), b2]; exact d2
    · rw [z1 _ (by omega) (by omega) (by omega) (by omega), b3]; exact m1.1
    · rw [z1 _ (by omega) (by omega) (by omega) (by omega), b4]; exact m2.1
    · rw [y1 _ (by omega), rg_ne (by omega), rg_ne (by omega), rg_in (by omega), a1 _ (by omega) (by omega) (by omega) (by omega), show 16 + (m : Int) - 16 = m by omega]; exact m3 m hm
    · rw [y1 _ (by omega), rg_ne (by omega), rg_ne (by omega), rg_in (by omega), a1 _ (by omega) (by omega) (by omega) (by omega), show 24 + (c : Int) - 16 = 8 + (c : Int) by omega, m4 c hc]
      show G (10 + (4 + (c : Int))) = _
      rw [show 10 + (4 + (c : Int)) = 14 + (c : Int) by omega]
    · rw [y1 _ (by omega), rg_ne (by omega), rg_in (by omega), rg_ne (by omega), a1 _ (by omega) (by omega) (by omega) (by omega), show 15 + 2 * (c : Int) - 14 = 2 * (c : Int) + 1 by omega]; exact (d3 c hc).2
    · rcases d6 with ⟨q1, q2⟩ | ⟨q1, f1, q2, q3, q4, q5, q6⟩
      · exact Or.inl ⟨q1, by rw [z1 _ (by omega) (by omega) (by omega) (by omega), b5]; exact q2⟩
      · refine Or.inr ⟨f1, ?_, ?_, q4, by omega, fun i hi => ?_⟩
        · rw [show (2 : Int) + 0 = 2 from rfl, z1 _ (by omega) (by omega) (by omega) (by omega), b5]; exact q2
        · rw [show (2 : Int) + 0 = 2 from rfl, z1 _ (by omega) (by omega) (by omega) (by omega), b7]; exact q3
        · rw [show 1600 + f1 + (i : Int) = 1600 + (f1 + (i : Int)) by omega, co _ (by omega) (by omega)]; exact q6 i hi
    · rcases d7 with ⟨q1, q2⟩ | ⟨q1, f1, q2, q3, q4, q5, q6⟩
      · exact Or.inl ⟨q1, by rw [z1 _ (by omega) (by omega) (by omega) (by omega), b6]; exact q2⟩
      · refine Or.inr ⟨f1, ?_, ?_, q4, by omega, fun i hi => ?_⟩
        · rw [show (2 : Int) + 1 = 3 from rfl, z1 _ (by omega) (by omega) (by omega) (by omega), b6]; exact q2
        · rw [show (2 : Int) + 1 = 3 from rfl, z1 _ (by omega) (by omega) (by omega) (by omega), b8]; exact q3
        · rw [show 1600 + f1 + (i : Int) = 1600 + (f1 + (i : Int)) by omega, co _ (by omega) (by omega)]; exact q6 i hi
  · rw [rg_in (by omega)]
    by_cases y : i < 1 + 5 * ((0 : Nat) : Int)
    · rw [if_pos y, nwF_o (by omega)]
    · rw [if_neg y]
end RK
