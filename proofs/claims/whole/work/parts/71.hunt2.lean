/-! from whom: the reference; both -/
def ASR (rw : Int → Int) (R : Int) (nw : Int → Int) (t : Int) : Prop := ∀ k : Int, 0 ≤ k → k < R → rw (4 * k) = t → nw 0 ≤ 999 ∧ nw (2 + 5 * rw (4 * k + 1) + rw (4 * k + 2)) = rw (4 * k + 3)
/-- how many of the sources have what a has; the most of them -/
def akF (s : Int) (V : Nat → Int) (a : Nat) : Nat → Int := itF (fun x b => if bt s b = 1 ∧ V b = V a then x + 1 else x) 0
def moF (n : Nat) (s : Int) (V : Nat → Int) : Nat → Int := itF (fun x a => if bt s a = 1 then max x (akF s V a n) else x) 0
theorem akF_bd {s : Int} {V : Nat → Int} {a : Nat} (k : Nat) : 0 ≤ akF s V a k ∧ akF s V a k ≤ 1 * k := itF_bd (lo := 0) (hi := 0) (by omega) k k (Nat.le_refl k) (fun x j hj => by split <;> omega)
theorem moF_bd {n : Nat} {s : Int} {V : Nat → Int} : ∀ (k : Nat), 0 ≤ moF n s V k ∧ moF n s V k ≤ n
  | 0 => ⟨Int.le_refl _, by show (0 : Int) ≤ n; omega⟩
  | k + 1 => by
    have ih := moF_bd (n := n) (s := s) (V := V) k
    have a1 := akF_bd (s := s) (V := V) (a := k) n
    rw [show moF n s V (k + 1) = if bt s k = 1 then max (moF n s V k) (akF s V k n) else moF n s V k from rfl]
    split <;> omega
/-- the path of a matter, told to a -/
def pth (n M ns : Nat) (rm : Int → Int) (cs : List Int) (nw : Int → Int) (m v : Int) (t q : Nat) (a : Nat) : Int := dN n M ns rm cs (tlF rm nw a m v) t (2 + 5 * (q : Int) + m)
def tsF (n : Nat) (s : Int) (V : Nat → Nat → Nat → Int) (t : Nat) (st : Int × Int × Int) : Nat → Int × Int × Int
  | 0 => st
  | q + 1 => if (tsF n s V t st q).1 = -1 ∨ moF n s (V t q) n < (tsF n s V t st q).2.2 then ((t : Int), (q : Int), moF n s (V t q) n) else tsF n s V t st q
def tdF (n : Nat) (s : Int) (V : Nat → Nat → Nat → Int) : Nat → Int × Int × Int
  | 0 => (-1, -1, 0)
  | t + 1 => tsF n s V t (tdF n s V t) n
section HM
variable {d j : Nat} {φ φ' φ0 : aF} {α α' α0 : aA} {Q : Int → aF → aA → Prop} {b c o m x y z v s k ce side t m' p : Int} {n M ns : Nat} {rm nw nw' nw0 sr : Int → Int} {cs ct : List Int}
theorem r_spillOf (O : MO α n M ns rm) (G : GS n M ns rm (α 233)) (hrm : ∀ c : Int, 0 ≤ c → c < n → 0 ≤ rm c) (hc : 0 ≤ c ∧ c < n) (hv : 0 ≤ v ∧ v ≤ 99) (h : Q (spF rm (α 233) c v) φ α) : eX11_spillOf (d + 3) c v φ α Q := by
  have hs := sp_room G hc
  unfold spF at h
  refine vX11_spillOf_0 (r_spaceOf O G hrm hc ⟨fun q => ?_, fun q => r_spaceOf O G hrm hc ⟨by unfold inR; omega, ?_⟩⟩)
  · rwa [show max 0 (v - (rm c - fullF (α 233) c)) = 0 by omega] at h
  · rwa [show max 0 (v - (rm c - fullF (α 233) c)) = v - (rm c - fullF (α 233) c) by omega] at h
theorem r_isTold (O : MO α n M ns rm) (G : GS n M ns rm (α 233)) (hrm : ∀ c : Int, 0 ≤ c → c < n → 0 ≤ rm c) (hc : 0 ≤ c ∧ c < n) (hm : 0 ≤ m ∧ m < M) (hv : 0 ≤ v ∧ v ≤ 99) (hf : α 233 (36 + 3 * m) + spF rm (α 233) c v ≤ 9999) (h : ∀ α', (∀ a : Int, a ≠ 233 → α' a = α a) → α' 233 = tlF rm (α 233) c m v → Q (spF rm (α 233) c v) φ α') : eX11_isTold (d + 4) c m v φ α Q := by
  have hn := G.2.2.2.2.2.2
  have hs := sp_room G hc
  have w := G.2.2.2.2.2.1 m 0 hm.1 (by omega) (by omega) (by omega)
  rw [Int.add_zero] at w
  have a1 := G.drop hc.1 (show c < 7 by omega) hm.1 (show m < 4 by omega)
  have s1 : spF rm (α 233) c v = max 0 (v - (rm c - fullF (α 233) c)) := rfl
  refine vX11_isTold_0 (r_spillOf O G hrm hc hv ⟨by unfold inR; omega, by unfold inR; omega, by unfold inR; omega, ⟨by omega, by omega⟩, by unfold inR; omega, by unfold inR; omega, by unfold inR; omega, by unfold inR; omega, ⟨by omega, by omega⟩, by rw [upa_ni (by omega)]; unfold inR; omega, h _ (fun a q => by rw [upa_fn q, upa_fn q]) ?_⟩)
  simp only [upa_un]
  rw [un_o (by omega)]
  rfl
theorem l_isAsSeenM {t : Int} (S : iS n M φ α) (hn : n ≤ 7 ∧ M ≤ 4) (h : ∀ w : Int, (w = 1 ∧ ASR (α 236) (φ 11 55 198) (α 233) t) ∨ (w = 0 ∧ ¬ ASR (α 236) (φ 11 55 198) (α 233) t) → Q w φ α) : ∀ (r : Nat) (k : Int), 0 ≤ k → k + r = φ 11 55 198 → (∀ i : Int, 0 ≤ i → i < k → α 236 (4 * i) = t → α 233 0 ≤ 999 ∧ α 233 (2 + 5 * α 236 (4 * i + 1) + α 236 (4 * i + 2)) = α 236 (4 * i + 3)) → jX11_isAsSeen_2 (d + 1) t k φ α Q
  | 0, k, h0, hk, hp => vX11_isAsSeen_2 ⟨fun _ => h 1 (Or.inl ⟨rfl, fun i q1 q2 q3 => hp i q1 (by omega) q3⟩), fun q => by omega⟩
  | r + 1, k, h0, hk, hp => by
    obtain ⟨s1, s2, s3, s4, s5⟩ := id S
    have w := s5 k h0 (by omega)
    have nx : (α 236 (4 * k) = t → α 233 0 ≤ 999 ∧ α 233 (2 + 5 * α 236 (4 * k + 1) + α 236 (4 * k + 2)) = α 236 (4 * k + 3)) → jX11_isAsSeen_2 (d + 1) t (k + 1) φ α Q := fun hq => l_isAsSeenM S hn h r (k + 1) (by omega) (by omega) (fun i q1 q2 q3 => by
        by_cases e : i = k
        · subst e; exact hq q3
        · exact hp i q1 (by omega) q3)
    exact vX11_isAsSeen_2 ⟨fun q => by omega, fun _ => ⟨by unfold inR; omega, ⟨by omega, by omega⟩, fun q => ⟨by unfold inR; omega, nx (fun e => absurd e q)⟩, fun q => ⟨fun q2 => h 0 (Or.inr ⟨rfl, fun hA => by have := (hA k h0 (by omega) q).1; omega⟩), fun q2 => ⟨by unfold inR; omega, ⟨by omega, by omega⟩, by unfold inR; omega, ⟨by omega, by omega⟩, r_dropsOf (by omega) (by omega) ⟨by unfold inR; omega, ⟨by omega, by omega⟩, fun q3 => ⟨by unfold inR; omega, nx (fun _ => ⟨by omega, q3⟩)⟩, fun q3 => h 0 (Or.inr ⟨rfl, fun hA => q3 (hA k h0 (by omega) q).2⟩)⟩⟩⟩⟩⟩
theorem r_isAsSeen {t : Int} (S : iS n M φ α) (hn : n ≤ 7 ∧ M ≤ 4) (h : ∀ w : Int, (w = 1 ∧ ASR (α 236) (φ 11 55 198) (α 233) t) ∨ (w = 0 ∧ ¬ ASR (α 236) (φ 11 55 198) (α 233) t) → Q w φ α) : eX11_isAsSeen (d + 1) t φ α Q := by
  have s2 := S.2.1
  exact vX11_isAsSeen_0 (l_isAsSeenM (d := d) (Q := Q) S hn h (φ 11 55 198).toNat 0 (by omega) (by omega) (fun i q1 q2 => by omega))
theorem l_ls83 {c t : Nat} {w : Int} (hc : c < 7) (hn : n ≤ 7) (hm : 0 ≤ m ∧ m < 4) (ht : t ≤ 30) : ∀ (r k : Nat) (α : aA), k + r = n → α 226 3 = n → eX11_dayGoes d 0 φ (rg α 237 (217 * (c : Int) + 7 * t + k) (217 * (c : Int) + 7 * t + n) (fun i => α 233 (2 + 5 * (i - (217 * (c : Int) + 7 * t)) + m))) (fun r3 φ3 α3 => inR ((t : Int) + 1) ∧ jX11_laysSources_60 (d + 1) m v c w ((t : Int) + 1) φ3 α3 Q) → jX11_laysSources_83 (d + 1) m v c w t k φ α Q
  | 0, k, α, hk, O, h => by
    have z : k = n := by omega
    subst z
    rw [rg_end (by omega)] at h
    exact vX11_laysSources_83 (r_cMany O ⟨fun _ => h, fun q => by omega⟩)
  | r + 1, k, α, hk, O, h => by
    refine vX11_laysSources_83 (r_cMany O ⟨fun q => by omega, fun _ => ⟨by unfold inR; omega, by unfold inR; omega, by unfold inR; omega, by unfold inR; omega, r_dropsOf (by omega) hm ⟨⟨by omega, by omega⟩, by unfold inR; omega, ?_⟩⟩⟩)
    have ih := l_ls83 (w := w) hc hn hm ht r (k + 1) (upa α 237 (217 * (c : Int) + 7 * t + k) (α 233 (2 + 5 * (k : Int) + m))) (by omega) (by rw [upa_fn (by omega)]; exact O)
    rw [show ((k + 1 : Nat) : Int) = (k : Int) + 1 by omega] at ih
    refine ih ?_
    rw [upa_fn (show (233 : Int) ≠ 237 by omega)]
    have e := @rg_step α 237 (217 * (c : Int) + 7 * t + k) (217 * (c : Int) + 7 * t + n) (fun i => α 233 (2 + 5 * (i - (217 * (c : Int) + 7 * t)) + m)) (by omega)
    try dsimp only at e
    rw [show 217 * (c : Int) + 7 * t + k - (217 * (c : Int) + 7 * t) = k by omega] at e
    rw [show 217 * (c : Int) + 7 * (t : Int) + ((k : Int) + 1) = 217 * (c : Int) + 7 * t + k + 1 by omega, e]
    exact h
theorem RT_58 (R : RT n M ns rm cs nw0 φ α) : RT n M ns rm cs nw0 (upf φ 11 58 198 v) α := ⟨by rw [upf_o (by omega)]; exact R.1, R.2⟩
theorem RT_a {a : Int} (ha : a < 225 ∨ 234 < a) (h : ∀ a' : Int, a' ≠ a → α' a' = α a') (R : RT n M ns rm cs nw0 φ α) : RT n M ns rm cs nw0 φ α' :=
  ⟨R.1, ME_of (fun a' _ _ => h a' (by omega)) R.2.1, by rw [h 234 (by omega)]; exact R.2.2.1, by rw [h 233 (by omega)]; exact R.2.2.2⟩
theorem iS_ft (f : ft φ α φ' α') (S : iS n M φ α) : iS n M φ' α' := iS_of (f.1 _ _ _ (by omega)) (f.1 _ _ _ (by omega)) (f.2 _ (by omega) (by omega) (by omega) (by omega) (by omega)) (f.2 _ (by omega) (by omega) (by omega) (by omega) (by omega)) S
theorem l_ls60 {c : Nat} (S : iS n M φ0 α0) (hc : c < n) (hm : 0 ≤ m ∧ m < M) (G : GS n M ns rm nw) (hd : nw 0 ≤ 1900) (hv0 : 0 ≤ φ0 11 53 198 ∧ φ0 11 53 198 ≤ 2100000000)
    (h : ∀ φ' α', ft φ0 α0 φ' α' → RT n M ns rm cs nw0 φ' α' → α' 233 = nw0 → (∀ i : Int, ¬ (217 * (c : Int) ≤ i ∧ i < 217 * (c : Int) + 217) → α' 237 i = α0 237 i) → 0 ≤ φ' 11 53 198 ∧ φ' 11 53 198 ≤ φ0 11 53 198 + 60000 → ((φ' 11 58 198 = iOr (φ0 11 58 198) (iShl 1 (c : Int)) ∧ (∀ t : Nat, t ≤ 30 → ASR (α0 236) (φ0 11 55 198) (dN n M ns rm cs nw t) t) ∧ ∀ t q : Nat, t ≤ 30 → q < n → α' 237 (217 * (c : Int) + 7 * t + q) = dN n M ns rm cs nw t (2 + 5 * (q : Int) + m)) ∨ (φ' 11 58 198 = φ0 11 58 198 ∧ ¬ ∀ t : Nat, t ≤ 30 → ASR (α0 236) (φ0 11 55 198) (dN n M ns rm cs nw t) t)) → jX11_laysSources_11 (d + 7) m v ((c : Int) + 1) φ' α' Q) :
    ∀ (r t : Nat), t + r = 31 → ∀ (φ : aF) (α : aA), (∀ t' : Nat, t' < t → ASR (α0 236) (φ0 11 55 198) (dN n M ns rm cs nw t') t') → (∀ t' q : Nat, t' < t → q < n → α 237 (217 * (c : Int) + 7 * t' + q) = dN n M ns rm cs nw t' (2 + 5 * (q : Int) + m)) → (∀ i : Int, ¬ (217 * (c : Int) ≤ i ∧ i < 217 * (c : Int) + 217) → α 237 i = α0 237 i) → RT n M ns rm cs nw0 φ α → α 233 = dN n M ns rm cs nw t → ft φ0 α0 φ α → φ 11 58 198 = φ0 11 58 198 → 0 ≤ φ 11 53 198 ∧ φ 11 53 198 ≤ φ0 11 53 198 + 1782 * (t : Int) → jX11_laysSources_60 (d + 7) m v c 1 t φ α Q
  | 0, t, ht, φ, α, hA, hW, hO, R, e, f, e58, ov => by
    have hn := G.2.2.2.2.2.2
    have z : t = 31 := by omega
    subst z
    refine vX11_laysSources_60 ⟨fun _ => ⟨fun q => by omega, fun _ => r_triesT (RT_58 R) (fun α1 R1 a1 f1 o1 => ⟨by unfold inR; omega, ?_⟩)⟩, fun q => by omega⟩
    refine h _ _ (f.tr ((ft_f (by omega)).tr f1)) R1 a1 (fun i hi => by rw [o1 237 (by omega)]; exact hO i hi) (by rw [upf_o (by omega)]; omega) (Or.inl ⟨by rw [upf_s, e58], fun t ht => hA t (by omega), fun t q ht hq => by rw [o1 237 (by omega)]; exact hW t q (by omega) hq⟩)
  | r + 1, t, ht, φ, α, hA, hW, hO, R, e, f, e58, ov => by
    have hn := G.2.2.2.2.2.2
    have g := dN_o (cs := cs) (k := 50) G (by omega) t (by omega)
    have e55 : φ 11 55 198 = φ0 11 55 198 := f.1 _ _ _ (by omega)
    have e236 : α 236 = α0 236 := f.2 _ (by omega) (by omega) (by omega) (by omega) (by omega)
    have O3 : α 226 3 = n := R.2.1.1.2.1
    refine vX11_laysSources_60 ⟨fun q => by omega, fun _ => ⟨fun q => by omega, fun _ => r_isAsSeen (iS_ft f S) ⟨hn.1, hn.2.1⟩ (fun w hw => l_ls83 (by omega) hn.1 (by omega) (by omega) n 0 α (by omega) O3 ?_)⟩⟩
    rw [e55, e236, e] at hw
    have oA : ∀ a' : Int, a' ≠ 237 → rg α 237 (217 * (c : Int) + 7 * t + (0 : Nat)) (217 * (c : Int) + 7 * t + n) (fun i => α 233 (2 + 5 * (i - (217 * (c : Int) + 7 * t)) + m)) a' = α a' := fun a' q => rg_ne q
    have R1 := RT_a (a := 237) (by omega) oA R
    refine r_dayT (by omega) R1 (by rw [oA 233 (by omega), e]; exact g.1) (by omega) (fun φ2 α2 f2 R2 a2 v2 => ⟨by unfold inR; omega, ?_⟩)
    rw [oA 233 (by omega), e] at a2
    have f02 : ft φ0 α0 φ2 α2 := f.tr ((ft_a (by omega)).tr f2.t)
    have e58' : φ2 11 58 198 = φ0 11 58 198 := (f2.1 _ _ _ (by omega)).trans e58
    have o2 : α2 237 = rg α 237 (217 * (c : Int) + 7 * t + (0 : Nat)) (217 * (c : Int) + 7 * t + n) (fun i => α 233 (2 + 5 * (i - (217 * (c : Int) + 7 * t)) + m)) 237 := f2.2 237 (by omega) (by omega)
    have hO2 : ∀ i : Int, ¬ (217 * (c : Int) ≤ i ∧ i < 217 * (c : Int) + 217) → α2 237 i = α0 237 i := fun i hi => by
      rw [o2, rg_out (by omega)]; exact hO i hi
    rcases hw with ⟨rfl, hw⟩ | ⟨rfl, hw⟩
    · have := l_ls60 S hc hm G hd hv0 h r (t + 1) (by omega) φ2 α2 (fun t' ht' => by
        by_cases z : t' = t
        · subst z; exact hw
        · exact hA t' (by omega)) (fun t' q ht' hq => by
        by_cases z : t' = t
        · subst z
          rw [o2, rg_in (by omega), e]
          try dsimp only
          rw [show 217 * (c : Int) + 7 * (t' : Int) + q - (217 * (c : Int) + 7 * t') = q by omega]
        · rw [o2, rg_out (by omega)]; exact hW t' q (by omega) hq) hO2 R2 a2 f02 e58' (by omega)
      rw [show ((t + 1 : Nat) : Int) = (t : Int) + 1 by omega] at this
      exact this
    · have fin : ∀ α3, RT n M ns rm cs nw0 φ2 α3 → α3 233 = nw0 → ft φ2 α2 φ2 α3 → (∀ a : Int, a ≠ 233 → α3 a = α2 a) → inR ((c : Int) + 1) ∧ jX11_laysSources_11 (d + 7) m v ((c : Int) + 1) φ2 α3 Q := fun α3 R3 a3 f3 o3 => ⟨by unfold inR; omega, h φ2 α3 (f02.tr f3) R3 a3 (fun i hi => by rw [o3 237 (by omega)]; exact hO2 i hi) (by omega) (Or.inr ⟨e58', fun hall => hw (hall t (by omega))⟩)⟩
      exact vX11_laysSources_60 ⟨fun _ => ⟨fun _ => r_triesT R2 fin, fun q => absurd rfl q⟩, fun _ => ⟨fun _ => r_triesT R2 fin, fun q => absurd rfl q⟩⟩
theorem RS_iff {rw : Int → Int} {R : Int} {c : Nat} (hc : c < n) (hm : 0 ≤ m ∧ m < M) (hv : 0 ≤ v ∧ v ≤ 99) (G : GS n M ns rm nw) (hd : nw 0 ≤ 1900) (hf : nw (36 + 3 * m) + spF rm nw c v ≤ 9999) : RS n M ns rm cs rw R nw m v c ↔ ∀ t : Nat, t ≤ 30 → ASR rw R (dN n M ns rm cs (tlF rm nw c m v) t) t := by
  have G2 := tlF_G G (c := (c : Int)) (by omega) hm hv hf
  have e0 : tlF rm nw c m v 0 = nw 0 := tlF_0 (by omega) hm.1
  have key : ∀ t : Nat, t ≤ 30 → dN n M ns rm cs (tlF rm nw c m v) t 0 = nw 0 + t := fun t ht => by
    have := (dN_o (cs := cs) (k := 50) G2 (by omega) t (by omega)).2.1
    rw [this, e0]
  constructor
  · rintro ⟨h1, h2⟩ t ht k q1 q2 q3
    obtain ⟨z1, z2⟩ := h2 t ht k q1 q2 q3
    exact ⟨by rw [key t ht]; exact z1, z2⟩
  · intro h
    refine ⟨hf, fun t ht k q1 q2 q3 => ?_⟩
    obtain ⟨z1, z2⟩ := h t ht k q1 q2 q3
    rw [key t ht] at z1
    exact ⟨z1, z2⟩
theorem r_backS (I : Iv n M ns rm cs ct sr j φ0 α0) (f : ft φ0 α0 φ α) (R : RT n M ns rm cs (α0 233) φ α) (hov : 0 ≤ φ 11 53 198 ∧ φ 11 53 198 ≤ φ0 11 53 198 + 4000000) (h : ∀ φ' α', Iv n M ns rm cs ct sr (j + 1) φ' α' → fq φ0 α0 φ' α' → φ' 11 58 198 = φ 11 58 198 → (∀ a : Int, a ≠ 233 → α' a = α a) → α' 233 = α0 233 → Q 0 φ' α') : eX11_takesBack (d + 1) φ α Q := by
  refine vX11_takesBack_0 (r_triesT R (fun α1 R1 e1 f1 o1 => ?_))
  have i5 := I.2.2.2.2.2.1
  have F : fq φ0 α0 (upf φ 11 52 198 0) α1 := by
    refine ft_fq ((f.tr f1).tr (ft_f (by omega))) e1 (by rw [upf_s, i5.1])
  refine h _ _ (Iv_fq (Nat.le_succ j) F ?_ I) F (upf_o (by omega)) o1 e1
  rw [upf_o (by omega)]
  have := i5.2.2
  omega
theorem l_ls11 (I : Iv n M ns rm cs ct sr j φ0 α0) (hv0 : 0 ≤ φ0 11 53 198 ∧ φ0 11 53 198 ≤ 2044000000) (hm : 0 ≤ m ∧ m < M) (hv : 0 ≤ v ∧ v ≤ 99)
    (h : ∀ φ' α', Iv n M ns rm cs ct sr (j + 1) φ' α' → fq φ0 α0 φ' α' → α' 233 = α0 233 → isSet n (RS n M ns rm cs (α0 236) (φ0 11 55 198) (α0 233) m v) (φ' 11 58 198) → (∀ c t q : Nat, c < n → RS n M ns rm cs (α0 236) (φ0 11 55 198) (α0 233) m v c → t ≤ 30 → q < n → α' 237 (217 * (c : Int) + 7 * t + q) = pth n M ns rm cs (α0 233) m v t q c) → Q 0 φ' α') :
    ∀ (r k : Nat), k + r = n → ∀ (φ : aF) (α : aA), ft φ0 α0 φ α → RT n M ns rm cs (α0 233) φ α → α 233 = α0 233 → isSet k (RS n M ns rm cs (α0 236) (φ0 11 55 198) (α0 233) m v) (φ 11 58 198) → (∀ c t q : Nat, c < k → RS n M ns rm cs (α0 236) (φ0 11 55 198) (α0 233) m v c → t ≤ 30 → q < n → α 237 (217 * (c : Int) + 7 * t + q) = pth n M ns rm cs (α0 233) m v t q c) → 0 ≤ φ 11 53 198 ∧ φ 11 53 198 ≤ φ0 11 53 198 + 60000 * (k : Int) → jX11_laysSources_11 (d + 7) m v k φ α Q
  | 0, k, hk, φ, α, f, R, e, hs, hp, ov => by
    have hn := I.G.2.2.2.2.2.2
    have z : k = n := by omega
    subst z
    exact vX11_laysSources_11 (r_cMany R.2.1.1.2.1 ⟨fun _ => r_backS I f R (by omega) (fun φ' α' I' F e58 o a => h φ' α' I' F a (by rw [e58]; exact hs) (fun c t q h1 h2 h3 h4 => by rw [o 237 (by omega)]; exact hp c t q h1 h2 h3 h4)), fun q => by omega⟩)
  | r + 1, k, hk, φ, α, f, R, e, hs, hp, ov => by
    have hn := I.G.2.2.2.2.2.2
    have D := I.D
    have G : GS n M ns rm (α 233) := by rw [e]; exact I.G
    have w := I.G.2.2.2.2.2.1 m 0 hm.1 (by omega) (by omega) (by omega)
    rw [Int.add_zero] at w
    have hsr := sp_room I.G (c := (k : Int)) (by omega)
    have s1 : spF rm (α0 233) k v = max 0 (v - (rm k - fullF (α0 233) k)) := rfl
    have nx : ∀ φ' α', ft φ0 α0 φ' α' → RT n M ns rm cs (α0 233) φ' α' → α' 233 = α0 233 → (∀ i : Int, ¬ (217 * (k : Int) ≤ i ∧ i < 217 * (k : Int) + 217) → α' 237 i = α 237 i) → 0 ≤ φ' 11 53 198 ∧ φ' 11 53 198 ≤ φ 11 53 198 + 60000 → ((φ' 11 58 198 = iOr (φ 11 58 198) (iShl 1 (k : Int)) ∧ RS n M ns rm cs (α0 236) (φ0 11 55 198) (α0 233) m v k ∧ ∀ t q : Nat, t ≤ 30 → q < n → α' 237 (217 * (k : Int) + 7 * t + q) = pth n M ns rm cs (α0 233) m v t q k) ∨ (φ' 11 58 198 = φ 11 58 198 ∧ ¬ RS n M ns rm cs (α0 236) (φ0 11 55 198) (α0 233) m v k)) → jX11_laysSources_11 (d + 7) m v ((k : Int) + 1) φ' α' Q := by
      intro φ' α' f' R' a' o' v' hc
      have := l_ls11 I hv0 hm hv h r (k + 1) (by omega) φ' α' f' R' a' (by
        rcases hc with ⟨e58, hR, -⟩ | ⟨e58, hR⟩
        · rw [e58]
          obtain ⟨b1, b2⟩ := @bto (φ 11 58 198) k hs.1 (by omega)
          refine ⟨b1, fun t ht => ?_⟩
          rw [b2 t ht]
          by_cases z : t = k
          · subst z; rw [if_pos rfl]; exact ⟨fun _ => ⟨by omega, hR⟩, fun _ => rfl⟩
          · rw [if_neg z, hs.2 t ht]
            exact ⟨fun q => ⟨by omega, q.2⟩, fun q => ⟨by omega, q.2⟩⟩
        · rw [e58]
          refine ⟨hs.1, fun t ht => ?_⟩
          rw [hs.2 t ht]
          refine ⟨fun q => ⟨by omega, q.2⟩, fun q => ⟨?_, q.2⟩⟩
          by_cases z : t = k
          · subst z; exact absurd q.2 hR
          · omega) (fun c t q h1 h2 h3 h4 => by
        by_cases z : c = k
        · subst z
          rcases hc with ⟨-, -, hP⟩ | ⟨-, hR⟩
          · exact hP t q h3 h4
          · exact absurd h2 hR
        · rw [o' _ (by omega)]; exact hp c t q (by omega) h2 h3 h4) (by omega)
      rw [show ((k + 1 : Nat) : Int) = (k : Int) + 1 by omega] at this
      exact this
    refine vX11_laysSources_11 (r_cMany R.2.1.1.2.1 ⟨fun q => by omega, fun _ => r_floorOf (by omega) (r_spillOf R.2.1.1 G I.rm0 (by omega) hv ?_)⟩)
    rw [e]
    refine ⟨by unfold inR; omega, fun q => ?_, fun q => ?_⟩
    · exact vX11_laysSources_60 ⟨fun q => by omega, fun _ => ⟨fun _ => r_triesT R (fun α1 R1 a1 f1 o1 => ⟨by unfold inR; omega, nx φ α1 (f.tr f1) R1 a1 (fun i _ => by rw [o1 237 (by omega)]) (by omega) (Or.inr ⟨rfl, fun hR => by have := hR.1; omega⟩)⟩), fun q => absurd rfl q⟩⟩
    · have hf : α0 233 (36 + 3 * m) + spF rm (α0 233) k v ≤ 9999 := by omega
      have G2 := tlF_G I.G (c := (k : Int)) (by omega) hm hv hf
      have S : iS n M φ α := iS_ft f I.seen
      have e55 : φ 11 55 198 = φ0 11 55 198 := f.1 _ _ _ (by omega)
      have e236 : α 236 = α0 236 := f.2 _ (by omega) (by omega) (by omega) (by omega) (by omega)
      refine r_isTold R.2.1.1 G I.rm0 (by omega) hm hv (by rw [e]; exact hf) (fun α1 o1 a1 => ?_)
      rw [e] at a1
      have R1 : RT n M ns rm cs (α0 233) φ α1 := ⟨R.1, ME_of (fun a _ _ => o1 a (by omega)) R.2.1, by rw [o1 234 (by omega)]; exact R.2.2.1, fun i hi => by
        rw [a1]
        unfold tlF
        rw [un_o (by omega), un_o (by omega)]⟩
      have iff := RS_iff (cs := cs) (rw := α0 236) (R := φ0 11 55 198) (c := k) (by omega) hm hv I.G (by omega) hf
      have := l_ls60 (d := d) (Q := Q) (v := v) (φ0 := φ) (α0 := α) (nw0 := α0 233) (nw := tlF rm (α0 233) k m v) (cs := cs) (c := k) S (by omega) hm G2 (by rw [tlF_0 (by omega) hm.1]; omega) (by omega) (fun φ' α' f' R' a' o' v' hc => nx φ' α' (f.tr f') R' a' o' v' (by
        rw [e236, e55, ← iff] at hc
        rcases hc with ⟨z1, z2, z3⟩ | ⟨z1, z2⟩
        · exact Or.inl ⟨z1, z2, z3⟩
        · exact Or.inr ⟨z1, z2⟩)) 31 0 (by omega) φ α1 (fun t' ht' => by omega) (fun t' q ht' => by omega) (fun i _ => by rw [o1 237 (by omega)]) R1 a1 ⟨fun _ _ _ _ => rfl, fun a q1 _ _ _ _ => o1 a q1⟩ rfl (by omega)
      simpa using this
theorem r_putsS (E : ME α n M ns rm cs) (h : ∀ α', RT n M ns rm cs (α 233) (upf φ 11 52 198 1) α' → α' 233 = α 233 → ft φ α (upf φ 11 52 198 1) α' → (∀ a : Int, a ≠ 234 → α' a = α a) → Q 0 (upf φ 11 52 198 1) α') : eX11_putsAside d φ α Q :=
  vX11_putsAside_0 (l_putsAside 48 0 α (by omega) rfl (h _ ⟨upf_s, ME_of (fun a _ _ => rg_ne (by omega)) E, fun i q1 q2 => by rw [rg_in ⟨q1, q2⟩], fun i _ => by rw [rg_ne (by omega)]⟩ (rg_ne (by omega)) ((ft_f (by omega)).tr (ft_a (by omega))) (fun a q => rg_ne q)))
theorem r_laysSources (I : Iv n M ns rm cs ct sr j φ α) (hv0 : 0 ≤ φ 11 53 198 ∧ φ 11 53 198 ≤ 2044000000) (hm : 0 ≤ m ∧ m < M) (hv : 0 ≤ v ∧ v ≤ 99)
    (h : ∀ φ' α', Iv n M ns rm cs ct sr (j + 1) φ' α' → fq φ α φ' α' → α' 233 = α 233 → isSet n (RS n M ns rm cs (α 236) (φ 11 55 198) (α 233) m v) (φ' 11 58 198) → (∀ c t q : Nat, c < n → RS n M ns rm cs (α 236) (φ 11 55 198) (α 233) m v c → t ≤ 30 → q < n → α' 237 (217 * (c : Int) + 7 * t + q) = pth n M ns rm cs (α 233) m v t q c) → Q 0 φ' α') : eX11_laysSources (d + 7) m v φ α Q := by
  obtain ⟨op, E, ME, SH⟩ := I.open_ (by omega)
  refine vX11_laysSources_0 (r_putsS (φ := upf φ 11 58 198 0) ME (fun α1 R1 a1 f1 o1 => ?_))
  have := l_ls11 (d := d) (Q := Q) I hv0 hm hv h n 0 (by omega) _ α1 ((ft_f (by omega)).tr f1) R1 a1 (by
    rw [upf_o (by omega), upf_s]
    exact isSet_0 (fun k hk => by omega)) (fun c t q h1 => by omega) (by
    rw [upf_o (by omega), upf_o (by omega)]
    omega)
  simpa using this
-- the class: paths
theorem c_pathCell {a t q : Nat} (ha : a < 7) (ht : t ≤ 30) (hq : q < 7) (h : Q (217 * (a : Int) + 7 * t + q) φ α) : eX0_pathCell d a t q φ α Q := by
  refine vX0_pathCell_0 ⟨by unfold inR; omega, by unfold inR; omega, by unfold inR; omega, by unfold inR; omega, ?_⟩
  rwa [show (((a : Int) * 31 + t) * 7) + (q : Int) = 217 * (a : Int) + 7 * t + q by omega]
theorem ia196 : isIA 196 1519 := fun _ => rfl
theorem l_tp56 {c t : Nat} {x4 : Int} (hc : c < 7) (ht : t ≤ 30) (hm : 0 ≤ m ∧ m < 4) (hn : n ≤ 7) (O : φ 2 4 9 = n) : ∀ (r k : Nat) (α : aA), k + r = n → XS 36 φ α n nw → (inR ((t : Int) + 1) ∧ jX0_tracePath_29 (d + 2) c m x4 ((t : Int) + 1) φ (rg α 196 (217 * (c : Int) + 7 * t + k) (217 * (c : Int) + 7 * t + n) (fun i => nw (2 + 5 * (i - (217 * (c : Int) + 7 * t)) + m))) Q) → jX0_tracePath_56 (d + 2) c m x4 t k φ α Q
  | 0, k, α, hk, X, h => by
    have z : k = n := by omega
    subst z
    rw [rg_end (by omega)] at h
    exact vX0_tracePath_56 ⟨fun _ => h, fun q => by omega⟩
  | r + 1, k, α, hk, X, h => by
    refine vX0_tracePath_56 ⟨fun q => by omega, fun _ => c_pathCell hc ht (by omega) (c_dropsOf st36 X (by omega) hm (c_set ia196 ⟨by omega, by omega⟩ ⟨by unfold inR; omega, ?_⟩))⟩
    have ih := l_tp56 (x4 := x4) hc ht hm hn O r (k + 1) (upa α 196 (217 * (c : Int) + 7 * t + k) (nw (2 + 5 * (k : Int) + m))) (by omega) (XS_of rfl (fun i q1 q2 => upa_fn (by omega)) X)
    rw [show ((k + 1 : Nat) : Int) = (k : Int) + 1 by omega] at ih
    refine ih ?_
    have e := @rg_step α 196 (217 * (c : Int) + 7 * t + k) (217 * (c : Int) + 7 * t + n) (fun i => nw (2 + 5 * (i - (217 * (c : Int) + 7 * t)) + m)) (by omega)
    try dsimp only at e
    rw [show 217 * (c : Int) + 7 * t + k - (217 * (c : Int) + 7 * t) = k by omega] at e
    rw [show 217 * (c : Int) + 7 * (t : Int) + ((k : Int) + 1) = 217 * (c : Int) + 7 * t + k + 1 by omega, e]
    exact h
def f6 (φ : aF) (α : aA) (φ' : aF) (α' : aA) : Prop := (∀ c f o, ¬ (c = 7 ∧ o = 36) → φ' c f o = φ c f o) ∧ ∀ a : Int, ¬ (36 < a ∧ a < 42) → a ≠ 189 → a ≠ 191 → a ≠ 196 → α' a = α a
theorem f6.tr {φ1 φ2 : aF} {α1 α2 : aA} (h : f6 φ α φ1 α1) (h' : f6 φ1 α1 φ2 α2) : f6 φ α φ2 α2 := ⟨fun c f o q => (h'.1 c f o q).trans (h.1 c f o q), fun a q1 q2 q3 q4 => (h'.2 a q1 q2 q3 q4).trans (h.2 a q1 q2 q3 q4)⟩
theorem f6_d (f : frd 36 φ α φ' α') : f6 φ α φ' α' := ⟨fun c g o q => f.1 c g o (by omega), fun a q1 q2 q3 _ => f.2 a (by omega) q2 q3⟩
theorem f6_r {i1 i2 : Int} {f : Int → Int} : f6 φ α φ (rg α 196 i1 i2 f) := ⟨fun _ _ _ _ => rfl, fun a _ _ _ q => rg_ne q⟩
theorem f6_q (f : f6 φ α φ' α') : fq φ α φ' α' := ⟨fun c g o q => f.1 c g o (by omega), fun a q1 q2 q3 _ _ q6 _ _ _ _ => f.2 a (by omega) q2 q3 q6⟩
theorem TR_6 {i1 i2 : Int} {f : Int → Int} (T : TR n M ns rm cs φ α nw) : TR n M ns rm cs φ (rg α 196 i1 i2 f) nw := ⟨XS_of rfl (fun i _ _ => rg_ne (by omega)) T.1, T.2.1, XE_of (fun _ _ => rfl) rfl (rg_ne (by omega)) (rg_ne (by omega)) T.2.2.1, T.2.2.2⟩
theorem l_tp29 {c L : Nat} (hc : c < n) (hL : L ≤ 30) (hm : 0 ≤ m ∧ m < 4) (G : GS n M ns rm nw) (hd : nw 0 ≤ 1900) (h : ∀ φ' α', f6 φ0 α0 φ' α' → (∀ i : Int, ¬ (217 * (c : Int) ≤ i ∧ i < 217 * (c : Int) + 217) → α' 196 i = α0 196 i) → (∀ t q : Nat, t ≤ L → q < n → α' 196 (217 * (c : Int) + 7 * t + q) = dN n M ns rm cs nw t (2 + 5 * (q : Int) + m)) → Q 0 φ' α') : ∀ (r t : Nat), t + r = L + 1 → ∀ (φ : aF) (α : aA), TR n M ns rm cs φ α (dN n M ns rm cs nw (t - 1)) → f6 φ0 α0 φ α → (∀ i : Int, ¬ (217 * (c : Int) ≤ i ∧ i < 217 * (c : Int) + 217) → α 196 i = α0 196 i) → (∀ t' q : Nat, t' < t → q < n → α 196 (217 * (c : Int) + 7 * t' + q) = dN n M ns rm cs nw t' (2 + 5 * (q : Int) + m)) → jX0_tracePath_29 (d + 5) c m L t φ α Q
  | 0, t, ht, φ, α, T, f, hO, hW => vX0_tracePath_29 ⟨fun _ => h φ α f hO (fun t' q h1 h2 => hW t' q (by omega) h2), fun q => by omega⟩
  | r + 1, t, ht, φ, α, T, f, hO, hW => by
    have hn := G.2.2.2.2.2.2
    have go : ∀ φ1 α1, TR n M ns rm cs φ1 α1 (dN n M ns rm cs nw t) → f6 φ0 α0 φ1 α1 → α1 196 = α 196 → jX0_tracePath_56 (d + 5) c m L t 0 φ1 α1 Q := by
      intro φ1 α1 T1 f1 e1
      have := l_tp56 (d := d + 3) (Q := Q) (x4 := (L : Int)) (c := c) (t := t) (by omega) (by omega) hm hn.1 T1.2.2.1.1.2.2.1 n 0 α1 (by omega) T1.1 ⟨by unfold inR; omega, ?_⟩
      · simpa using this
      · have ih := l_tp29 hc hL hm G hd h r (t + 1) (by omega) φ1 (rg α1 196 (217 * (c : Int) + 7 * t + (0 : Nat)) (217 * (c : Int) + 7 * t + n) (fun i => dN n M ns rm cs nw t (2 + 5 * (i - (217 * (c : Int) + 7 * t)) + m))) (TR_6 T1) (f1.tr f6_r) (fun i hi => by rw [rg_out (by omega), e1]; exact hO i hi) (fun t' q h1 h2 => by
          by_cases z : t' = t
          · subst z
            rw [rg_in (by omega)]
            try dsimp only
            rw [show 217 * (c : Int) + 7 * (t' : Int) + q - (217 * (c : Int) + 7 * t') = q by omega]
          · rw [rg_out (by omega), e1]; exact hW t' q (by omega) h2)
        rw [show ((t + 1 : Nat) : Int) = (t : Int) + 1 by omega] at ih
        exact ih
    refine vX0_tracePath_29 ⟨fun q => by omega, fun _ => ⟨fun q => ?_, fun q => ?_⟩⟩
    · have e : t = 0 := by omega
      subst e
      exact go φ α T f rfl
    · have g := dN_o (cs := cs) (k := 50) G (by omega) (t - 1) (by omega)
      refine c_dayTR T (by omega) (fun φ1 α1 T1 f1 => go φ1 α1 ?_ (f.tr (f6_d f1)) (f1.2 196 (by omega) (by omega) (by omega)))
      have e : t = (t - 1) + 1 := by omega
      rw [e]
      exact T1
theorem c_tracePath {c L : Nat} (I : Iv n M ns rm cs ct sr j φ α) (hc : c < n) (hL : L ≤ 30) (hm : 0 ≤ m ∧ m < M) (hv : 0 ≤ v ∧ v ≤ 99) (hf : α 233 (36 + 3 * m) + spF rm (α 233) c v ≤ 9999) (h : ∀ φ' α', f6 φ α φ' α' → (∀ i : Int, ¬ (217 * (c : Int) ≤ i ∧ i < 217 * (c : Int) + 217) → α' 196 i = α 196 i) → (∀ t q : Nat, t ≤ L → q < n → α' 196 (217 * (c : Int) + 7 * t + q) = pth n M ns rm cs (α 233) m v t q c) → Q 0 φ' α') : eX0_tracePath (d + 5) c m v L φ α Q := by
  have hn := I.G.2.2.2.2.2.2
  have D := I.D
  obtain ⟨op, E, ME, SH⟩ := I.open_ (by omega)
  refine vX0_tracePath_0 (c_copyTR I E (fun φ1 α1 T1 f1 => c_pour st36 T1.1 T1.2.1 T1.2.2.1.1 I.rm0 (by omega) hm hv hf (fun φ2 α2 X2 f2 s2 => ?_)))
  have G2 := tlF_G I.G (c := (c : Int)) (by omega) hm hv hf
  have T2 : TR n M ns rm cs φ2 α2 (tlF rm (α 233) c m v) := ⟨X2, G2, XE_frd st36 f2.d T1.2.2.1, Or.inl s2⟩
  have e196 : α2 196 = α 196 := (f1.tr f2.d).2 196 (by omega) (by omega) (by omega)
  have := l_tp29 (d := d) (Q := Q) (φ0 := φ) (α0 := α) (cs := cs) (nw := tlF rm (α 233) c m v) hc hL (by omega) G2 (by rw [tlF_0 (by omega) hm.1]; omega) h (L + 1) 0 (by omega) φ2 α2 T2 (f6_d (f1.tr f2.d)) (fun i _ => by rw [e196]) (fun t' q h1 => by omega)
  simpa using this
theorem Iv_f6 (f : f6 φ α φ' α') (I : Iv n M ns rm cs ct sr j φ α) : Iv n M ns rm cs ct sr j φ' α' := Iv_fq (Nat.le_refl j) (f6_q f) (by rw [f.1 _ _ _ (by omega)]; exact I.2.2.2.2.2.1.2) I
theorem fq_a {a : Int} (f : fq φ α φ' α') (h : (197 ≤ a ∧ a ≤ 233) ∨ a = 236) : α' a = α a := f.2 a (by omega) (by omega) (by omega) (by omega) (by omega) (by omega) (by omega) (by omega) (by omega) (by omega)
theorem l_ft21 {L : Nat} {R : Int} {rw : Int → Int} (hL : L ≤ 30) (hm : 0 ≤ m ∧ m < M) (hv : 0 ≤ v ∧ v ≤ 99) (hs : isSet n (RS n M ns rm cs rw R (α0 233) m v) s) (h : ∀ φ' α', Iv n M ns rm cs ct sr j φ' α' → fq φ0 α0 φ' α' → (∀ c t q : Nat, c < n → bt s c = 1 → t ≤ L → q < n → α' 196 (217 * (c : Int) + 7 * t + q) = pth n M ns rm cs (α0 233) m v t q c) → jX0_findTelling_67 (d + 6) s L 0 (upf φ' 0 8 195 8) α' Q) : ∀ (r k : Nat), k + r = n → ∀ (φ : aF) (α : aA), Iv n M ns rm cs ct sr j φ α → fq φ0 α0 φ α → (∀ c t q : Nat, c < k → bt s c = 1 → t ≤ L → q < n → α 196 (217 * (c : Int) + 7 * t + q) = pth n M ns rm cs (α0 233) m v t q c) → jX0_findTelling_21 (d + 6) s m v L k φ α Q
  | 0, k, hk, φ, α, I, e, hP => by
    have O := I.XO.2.2.1
    have z : k = n := by omega
    subst z
    exact vX0_findTelling_21 ⟨fun _ => h φ α I e hP, fun q => by omega⟩
  | r + 1, k, hk, φ, α, I, e, hP => by
    have O := I.XO.2.2.1
    have hn := I.G.2.2.2.2.2.2
    have e0 := fq_a (a := 233) e (by omega)
    have nx : ∀ φ' α', Iv n M ns rm cs ct sr j φ' α' → fq φ0 α0 φ' α' → (∀ c t q : Nat, c < k + 1 → bt s c = 1 → t ≤ L → q < n → α' 196 (217 * (c : Int) + 7 * t + q) = pth n M ns rm cs (α0 233) m v t q c) → inR ((k : Int) + 1) ∧ jX0_findTelling_21 (d + 6) s m v L ((k : Int) + 1) φ' α' Q := fun φ' α' I' e' hP' => ⟨by unfold inR; omega, by
      have := l_ft21 hL hm hv hs h r (k + 1) (by omega) φ' α' I' e' hP'
      rw [show ((k + 1 : Nat) : Int) = (k : Int) + 1 by omega] at this
      exact this⟩
    have hb := bt01 (s := s) (c := (k : Int)) hs.1 (by omega)
    refine vX0_findTelling_21 ⟨fun q => by omega, fun _ => ⟨fun q => nx φ α I e (fun c t q' h1 h2 h3 h4 => ?_), fun q => ?_⟩⟩
    · by_cases z : c = k
      · subst z; have q : bt s c = 0 := q; omega
      · exact hP c t q' (by omega) h2 h3 h4
    · have hb1 : bt s k = 1 := by have q : ¬ bt s k = 0 := q; omega
      have hR := ((hs.2 k (by omega)).mp hb1).2
      refine c_tracePath I (by omega) hL hm hv (by rw [e0]; exact hR.1) (fun φ1 α1 f1 o1 w1 => nx φ1 α1 (Iv_f6 f1 I) (e.tr (f6_q f1)) (fun c t q' h1 h2 h3 h4 => ?_))
      by_cases z : c = k
      · subst z; rw [e0] at w1; exact w1 t q' h3 h4
      · rw [o1 _ (by omega)]; exact hP c t q' (by omega) h2 h3 h4
theorem akF_s {V : Nat → Int} {a k : Nat} : akF s V a (k + 1) = if bt s k = 1 ∧ V k = V a then akF s V a k + 1 else akF s V a k := rfl
theorem moF_s {V : Nat → Int} {k : Nat} : moF n s V (k + 1) = if bt s k = 1 then max (moF n s V k) (akF s V k n) else moF n s V k := rfl
theorem l_ml24 {t q a : Nat} {V : Nat → Int} (hs : 0 ≤ s ∧ s < 128) (hn : n ≤ 7) (ht : t ≤ 30) (hq : q < n) (ha : a < n) (O : φ 2 4 9 = n) (hV : ∀ c : Nat, c < n → bt s c = 1 → α 196 (217 * (c : Int) + 7 * t + q) = V c) (h : jX0_mostLeft_6 (d + 1) s t q (moF n s V (a + 1)) ((a : Int) + 1) φ α Q) : ∀ (r k : Nat), k + r = n → jX0_mostLeft_24 (d + 1) s t q (moF n s V a) a (if bt s a = 1 then akF s V a k else 0) k φ α Q
  | 0, k, hk => by
    have z : k = n := by omega
    subst z
    have m0 := moF_bd (n := k) (s := s) (V := V) a
    refine vX0_mostLeft_24 ⟨fun _ => c_max ⟨by unfold inR; omega, ?_⟩, fun q => by omega⟩
    rw [moF_s] at h
    by_cases e : bt s a = 1
    · rw [if_pos e] at h ⊢; exact h
    · rw [if_neg e] at h ⊢; rw [show max (moF k s V a) 0 = moF k s V a by omega]; exact h
  | r + 1, k, hk => by
    have ih := l_ml24 hs hn ht hq ha O hV h r (k + 1) (by omega)
    rw [show ((k + 1 : Nat) : Int) = (k : Int) + 1 by omega] at ih
    have b1 := bt01 (s := s) (c := (a : Int)) hs (by omega)
    have b2 := bt01 (s := s) (c := (k : Int)) hs (by omega)
    have bd := akF_bd (s := s) (V := V) (a := a) k
    refine vX0_mostLeft_24 ⟨fun q => by omega, fun _ => ⟨fun q1 => ?_, fun q1 => ⟨fun q2 => ?_, fun q2 => ?_⟩⟩⟩
    · have q1 : bt s a = 0 := q1
      rw [if_neg (by omega)] at ih ⊢
      exact c_pathCell (by omega) ht (by omega) (c_pick ia196 ⟨by omega, by omega⟩ ⟨by unfold inR; omega, ih⟩)
    · have q1 : ¬ bt s a = 0 := q1
      have q2 : bt s k = 0 := q2
      rw [if_pos (by omega), akF_s, if_neg (by omega)] at ih
      rw [if_pos (by omega)]
      exact c_pathCell (by omega) ht (by omega) (c_pick ia196 ⟨by omega, by omega⟩ ⟨by unfold inR; omega, ih⟩)
    · have q1 : ¬ bt s a = 0 := q1
      have q2 : ¬ bt s k = 0 := q2
      rw [if_pos (by omega), akF_s] at ih
      rw [if_pos (by omega)]
      refine c_pathCell (by omega) ht (by omega) (c_pick ia196 ⟨by omega, by omega⟩ (c_pathCell (by omega) ht (by omega) (c_pick ia196 ⟨by omega, by omega⟩ ?_)))
      rw [hV a ha (by omega), hV k (by omega) (by omega)]
      refine ⟨fun q3 => ⟨by unfold inR; omega, ?_⟩, fun q3 => ⟨by unfold inR; omega, by unfold inR; omega, ?_⟩⟩
      · rw [if_neg (fun z => q3 z.2)] at ih; exact ih
      · rw [if_pos ⟨by omega, q3⟩] at ih; exact ih
theorem l_ml6 {t q : Nat} {V : Nat → Int} (hs : 0 ≤ s ∧ s < 128) (hn : n ≤ 7) (ht : t ≤ 30) (hq : q < n) (O : φ 2 4 9 = n) (hV : ∀ c : Nat, c < n → bt s c = 1 → α 196 (217 * (c : Int) + 7 * t + q) = V c) (h : Q (moF n s V n) φ α) : ∀ (r a : Nat), a + r = n → jX0_mostLeft_6 (d + 1) s t q (moF n s V a) a φ α Q
  | 0, a, hk => by
    have z : a = n := by omega
    subst z
    exact vX0_mostLeft_6 ⟨fun _ => h, fun q => by omega⟩
  | r + 1, a, hk => by
    refine vX0_mostLeft_6 ⟨fun q => by omega, fun _ => ?_⟩
    have ih := l_ml6 hs hn ht hq O hV h r (a + 1) (by omega)
    rw [show ((a + 1 : Nat) : Int) = (a : Int) + 1 by omega] at ih
    have := l_ml24 hs hn ht hq (by omega) O hV ih n 0 (by omega)
    rw [show akF s V a 0 = 0 from rfl] at this
    simpa using this
theorem c_mostLeft {t q : Nat} {V : Nat → Int} (hs : 0 ≤ s ∧ s < 128) (hn : n ≤ 7) (ht : t ≤ 30) (hq : q < n) (O : φ 2 4 9 = n) (hV : ∀ c : Nat, c < n → bt s c = 1 → α 196 (217 * (c : Int) + 7 * t + q) = V c) (h : Q (moF n s V n) φ α) : eX0_mostLeft (d + 1) s t q φ α Q := by
  have := l_ml6 (d := d) hs hn ht hq O hV h n 0 (by omega)
  exact vX0_mostLeft_0 this
theorem l_ma43 {t q a : Nat} {V : Nat → Int} (e58 : φ 11 58 198 = s) (hs : 0 ≤ s ∧ s < 128) (hn : n ≤ 7) (ht : t ≤ 30) (hq : q < n) (ha : a < n) (hba : bt s a = 1) (O : α 226 3 = n) (hV : ∀ c : Nat, c < n → bt s c = 1 → α 237 (217 * (c : Int) + 7 * t + q) = V c) (h : jX11_mostAlike_13 (d + 1) (7 * (t : Int) + q) (moF n s V (a + 1)) ((a : Int) + 1) φ α Q) : ∀ (r k : Nat), k + r = n → jX11_mostAlike_43 (d + 1) (7 * (t : Int) + q) (moF n s V a) a (akF s V a k) k φ α Q
  | 0, k, hk => by
    have z : k = n := by omega
    subst z
    rw [moF_s, if_pos hba] at h
    refine vX11_mostAlike_43 (r_cMany O ⟨fun _ => ⟨fun q => ⟨by unfold inR; omega, ?_⟩, fun q => ⟨by unfold inR; omega, ?_⟩⟩, fun q => by omega⟩)
    · rwa [show max (moF k s V a) (akF s V a k) = moF k s V a by omega] at h
    · rwa [show max (moF k s V a) (akF s V a k) = akF s V a k by omega] at h
  | r + 1, k, hk => by
    have ih := l_ma43 e58 hs hn ht hq ha hba O hV h r (k + 1) (by omega)
    rw [show ((k + 1 : Nat) : Int) = (k : Int) + 1 by omega, akF_s] at ih
    have bd := akF_bd (s := s) (V := V) (a := a) k
    refine vX11_mostAlike_43 (r_cMany O ⟨fun q => by omega, fun _ => ?_⟩)
    rw [e58]
    refine ⟨fun q1 => ⟨by unfold inR; omega, ?_⟩, fun q1 => ?_⟩
    · have q1 : ¬ bt s k = 1 := q1
      rw [if_neg (fun z => q1 z.1)] at ih; exact ih
    · have q1 : bt s k = 1 := q1
      refine ⟨by unfold inR; omega, by unfold inR; omega, ⟨by omega, by omega⟩, by unfold inR; omega, by unfold inR; omega, ⟨by omega, by omega⟩, ?_⟩
      rw [show 217 * (a : Int) + (7 * (t : Int) + q) = 217 * (a : Int) + 7 * t + q by omega, show 217 * (k : Int) + (7 * (t : Int) + q) = 217 * (k : Int) + 7 * t + q by omega, hV a ha hba, hV k (by omega) q1]
      refine ⟨fun q2 => ⟨by unfold inR; omega, ?_⟩, fun q2 => ⟨by unfold inR; omega, by unfold inR; omega, ?_⟩⟩
      · rw [if_neg (fun z => q2 z.2.symm)] at ih; exact ih
      · rw [if_pos ⟨q1, q2.symm⟩] at ih; exact ih
theorem l_ma13 {t q : Nat} {V : Nat → Int} (e58 : φ 11 58 198 = s) (hs : 0 ≤ s ∧ s < 128) (hn : n ≤ 7) (ht : t ≤ 30) (hq : q < n) (O : α 226 3 = n) (hV : ∀ c : Nat, c < n → bt s c = 1 → α 237 (217 * (c : Int) + 7 * t + q) = V c) (h : Q (moF n s V n) φ α) : ∀ (r a : Nat), a + r = n → jX11_mostAlike_13 (d + 1) (7 * (t : Int) + q) (moF n s V a) a φ α Q
  | 0, a, hk => by
    have z : a = n := by omega
    subst z
    exact vX11_mostAlike_13 (r_cMany O ⟨fun _ => h, fun q => by omega⟩)
  | r + 1, a, hk => by
    have ih := l_ma13 e58 hs hn ht hq O hV h r (a + 1) (by omega)
    rw [show ((a + 1 : Nat) : Int) = (a : Int) + 1 by omega] at ih
    have b1 := bt01 (s := s) (c := (a : Int)) hs (by omega)
    refine vX11_mostAlike_13 (r_cMany O ⟨fun q => by omega, fun _ => ?_⟩)
    rw [e58]
    refine ⟨fun q1 => ?_, fun q1 => ⟨by unfold inR; omega, ?_⟩⟩
    · have q1 : ¬ bt s a = 0 := q1
      have := l_ma43 e58 hs hn ht hq (by omega) (by omega) O hV ih n 0 (by omega)
      rw [show akF s V a 0 = 0 from rfl] at this
      simpa using this
    · have q1 : bt s a = 0 := q1
      rw [moF_s, if_neg (by omega)] at ih; exact ih
theorem r_mostAlike {t q : Nat} {V : Nat → Int} (e58 : φ 11 58 198 = s) (hs : 0 ≤ s ∧ s < 128) (hn : n ≤ 7) (ht : t ≤ 30) (hq : q < n) (O : α 226 3 = n) (hV : ∀ c : Nat, c < n → bt s c = 1 → α 237 (217 * (c : Int) + 7 * t + q) = V c) (h : Q (moF n s V n) φ α) : eX11_mostAlike (d + 1) t q φ α Q := by
  have := l_ma13 (d := d) e58 hs hn ht hq O hV h n 0 (by omega)
  exact vX11_mostAlike_0 ⟨by unfold inR; omega, by unfold inR; omega, this⟩
end HM
