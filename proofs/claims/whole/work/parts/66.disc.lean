/-! discreet -/
theorem kor_all : (List.range 7).all (fun k => (List.range (2 ^ k)).all (fun x => decide (iOr (x : Int) (iShl 1 (k : Int)) = ((x + 2 ^ k : Nat) : Int)) && decide (bc (iOr (x : Int) (iShl 1 (k : Int))) = bc (x : Int) + 1))) = true := by decide +kernel
theorem kor {k x : Nat} (hk : k < 7) (hx : x < 2 ^ k) : iOr (x : Int) (iShl 1 (k : Int)) = ((x + 2 ^ k : Nat) : Int) ∧ bc (iOr (x : Int) (iShl 1 (k : Int))) = bc (x : Int) + 1 := by
  have h := List.all_eq_true.mp (List.all_eq_true.mp kor_all k (List.mem_range.mpr hk)) x (List.mem_range.mpr hx)
  simp only [Bool.and_eq_true, decide_eq_true_eq] at h
  exact h
/-- how many know of a matter -/
def kcF (nw : Int → Int) (m : Int) : Nat → Int := itF (fun x c => if 0 < nw (2 + 5 * (c : Int) + m) then x + 1 else x) 0
def upD (V : Nat → Nat → Int) (a b : Nat) (st : Int × Int × Int) : Int × Int × Int := if V a b < st.1 then (V a b, (a : Int), (b : Int)) else st
def D72 (V : Nat → Nat → Int) (a : Nat) : Nat → Nat → Int × Int × Int → Int × Int × Int
  | 0, _, st => st
  | r + 1, b, st => D72 V a r (b + 1) (upD V a b st)
def D55 (V : Nat → Nat → Int) (ns : Nat) : Nat → Nat → Int × Int × Int → Int × Int × Int
  | 0, _, st => st
  | r + 1, a, st => D55 V ns r (a + 1) (D72 V a (ns - (a + 1)) (a + 1) st)
theorem D72_stop {V : Nat → Nat → Int} {a ns : Nat} {st : Int × Int × Int} (h : ∀ b, a < b → b < ns → st.1 ≤ V a b) : ∀ (r b : Nat), a < b → b + r ≤ ns → D72 V a r b st = st
  | 0, _, _, _ => rfl
  | r + 1, b, hab, hb => by
    have e : upD V a b st = st := by
      unfold upD
      rw [if_neg (by have := h b hab (by omega); omega)]
    rw [D72, e, D72_stop h r (b + 1) (by omega) (by omega)]
theorem D55_stop {V : Nat → Nat → Int} {ns : Nat} {st : Int × Int × Int} (h : ∀ a b, a < b → b < ns → st.1 ≤ V a b) : ∀ (r a : Nat), a + r ≤ ns → D55 V ns r a st = st
  | 0, _, _ => rfl
  | r + 1, a, ha => by rw [D55, D72_stop (fun b => h a b) _ _ (by omega) (by omega), D55_stop h r (a + 1) (by omega)]
section DC
variable {d j : Nat} {φ φ' φ0 : aF} {α α' α0 : aA} {Q : Int → aF → aA → Prop} {b c o m x y z v s k ce side t m' : Int} {n M ns : Nat} {rm nw nw' nw0 sr : Int → Int} {cs ct : List Int}
theorem kn_bd (hm : 0 ≤ m ∧ m < 4) : ∀ k : Nat, k ≤ 7 → ∃ x : Nat, x < 2 ^ k ∧ knF nw m k = x ∧ bc (knF nw m k) = kcF nw m k
  | 0, _ => ⟨0, by omega, rfl, by show bc 0 = 0; decide +kernel⟩
  | k + 1, hk => by
    obtain ⟨x, h1, h2, h3⟩ := kn_bd hm k (by omega)
    rw [show knF nw m (k + 1) = if 0 < nw (2 + 5 * (k : Int) + m) then iOr (knF nw m k) (iShl 1 k) else knF nw m k from rfl, show kcF nw m (k + 1) = if 0 < nw (2 + 5 * (k : Int) + m) then kcF nw m k + 1 else kcF nw m k from rfl]
    by_cases e : 0 < nw (2 + 5 * (k : Int) + m)
    · rw [if_pos e, if_pos e, h2]
      have w := kor (k := k) (x := x) (by omega) h1
      exact ⟨x + 2 ^ k, by rw [Nat.pow_succ]; omega, w.1, by rw [w.2, ← h2, h3]⟩
    · rw [if_neg e, if_neg e]
      exact ⟨x, by rw [Nat.pow_succ]; omega, h2, h3⟩
theorem kc_bd : ∀ k : Nat, 0 ≤ kcF nw m k ∧ kcF nw m k ≤ k
  | 0 => ⟨Int.le_refl _, Int.le_refl _⟩
  | k + 1 => by
    have := kc_bd k
    rw [show kcF nw m (k + 1) = if 0 < nw (2 + 5 * (k : Int) + m) then kcF nw m k + 1 else kcF nw m k from rfl]
    split <;> omega
/-- none know just where there is no drop -/
theorem kc_hd (hd : ∀ c : Nat, c < n → 0 ≤ nw (2 + 5 * (c : Int) + m)) : ∀ k : Nat, k ≤ n → 0 ≤ hdF nw m k ∧ (kcF nw m k = 0 ↔ hdF nw m k = 0)
  | 0, _ => ⟨Int.le_refl _, by constructor <;> intro _ <;> rfl⟩
  | k + 1, hk => by
    obtain ⟨h1, h2⟩ := kc_hd hd k (by omega)
    have h3 := hd k (by omega)
    have h4 := kc_bd (nw := nw) (m := m) k
    rw [show kcF nw m (k + 1) = if 0 < nw (2 + 5 * (k : Int) + m) then kcF nw m k + 1 else kcF nw m k from rfl, show hdF nw m (k + 1) = hdF nw m k + nw (2 + 5 * (k : Int) + m) from rfl]
    refine ⟨by omega, ?_⟩
    by_cases e : 0 < nw (2 + 5 * (k : Int) + m)
    · rw [if_pos e]; omega
    · rw [if_neg e]; omega
theorem hd_ext : ∀ k : Nat, (∀ c : Nat, c < k → nw' (2 + 5 * (c : Int) + m) = nw (2 + 5 * (c : Int) + m)) → hdF nw' m k = hdF nw m k := fun k h => itF_ext k (fun x c q => by rw [h c q])
theorem hd_un {c : Nat} : ∀ k : Nat, hdF (un nw (2 + 5 * (c : Int) + m) v) m k = if c < k then hdF nw m k - nw (2 + 5 * (c : Int) + m) + v else hdF nw m k
  | 0 => by rw [if_neg (by omega)]; rfl
  | k + 1 => by
    rw [show hdF (un nw (2 + 5 * (c : Int) + m) v) m (k + 1) = hdF (un nw (2 + 5 * (c : Int) + m) v) m k + un nw (2 + 5 * (c : Int) + m) v (2 + 5 * (k : Int) + m) from rfl, show hdF nw m (k + 1) = hdF nw m k + nw (2 + 5 * (k : Int) + m) from rfl, hd_un k]
    by_cases e : c = k
    · subst e; rw [if_neg (by omega), if_pos (by omega), un_s]; omega
    · rw [un_o (by omega)]
      by_cases e2 : c < k
      · rw [if_pos e2, if_pos (by omega)]; omega
      · rw [if_neg e2, if_neg (by omega)]
theorem hd_mv (hc : 0 ≤ c ∧ c < n) (ho : 0 ≤ o ∧ o < n) (hm : 0 ≤ m ∧ m < 4) (hm' : 0 ≤ m' ∧ m' < 4) : hdF (mvF nw c o m' v) m n = hdF nw m n := by
  obtain ⟨c1, rfl⟩ : ∃ c1 : Nat, c = c1 := ⟨c.toNat, by omega⟩
  obtain ⟨o1, rfl⟩ : ∃ o1 : Nat, o = o1 := ⟨o.toNat, by omega⟩
  by_cases e : m' = m
  · subst e
    unfold mvF
    rw [hd_un, if_pos (by omega), hd_un, if_pos (by omega)]
    omega
  · exact hd_ext n (fun c2 _ => mvF_o (by omega) (by omega))
theorem hd_dm {F : (Int → Int) → Int → Int → Int → Int} (hc : 0 ≤ c ∧ c < n) (ho : 0 ≤ o ∧ o < n) (hm : 0 ≤ m ∧ m < 4) {st : (Int → Int) × Int} : ∀ k : Nat, k ≤ 4 → hdF (dmF F c o st k).1 m n = hdF st.1 m n
  | 0, _ => rfl
  | k + 1, hk => by rw [dmF]; dsimp only; rw [hd_mv hc ho hm (by omega), hd_dm hc ho hm k (by omega)]
theorem hd_so {F : (Int → Int) → Int → Int → Int → Int} (hM : M ≤ 4) (hc : 0 ≤ c ∧ c < n) (ho : o < n) (hm : 0 ≤ m ∧ m < 4) {st : (Int → Int) × Int} : hdF (soF F M c o st).1 m n = hdF st.1 m n := by
  unfold soF
  split
  · rfl
  · exact hd_dm hc (by omega) hm M hM
theorem hd_dy (hm : 0 ≤ m ∧ m < 4) {st : (Int → Int) × Int} (G : GS n M ns rm st.1) : ∀ k : Nat, hdF (dyF (flF n M rm cs) n M st k).1 m n = hdF st.1 m n
  | 0 => rfl
  | k + 1 => by
    have Gk := (dyF_inv (cs := cs) G k).1
    have hn := G.2.2.2.2.2.2
    have g0 := Gk.sit k
    have g1 := Gk.sit ((k : Int) - 1)
    have g2 := Gk.sit ((k : Int) + 1)
    rw [dyF]
    unfold dsF
    split
    · exact hd_dy hm G k
    · rw [hd_so hn.2.1 (by omega) (by omega) hm, hd_so hn.2.1 (by omega) (by omega) hm]
      exact hd_dy hm G k
theorem hd_day (hm : 0 ≤ m ∧ m < 4) (G : GS n M ns rm nw) : hdF (dayF (flF n M rm cs) n M ns nw).1 m n = hdF nw m n := by
  unfold dayF
  dsimp only
  rw [hd_ext n (fun c _ => un_o (by omega))]
  exact hd_dy hm G ns
theorem hd_dN (hm : 0 ≤ m ∧ m < 4) (G : GS n M ns rm nw) {N : Nat} (hN : nw 0 + (N : Int) ≤ 1999) : ∀ t : Nat, t ≤ N → hdF (dN n M ns rm cs nw t) m n = hdF nw m n
  | 0, _ => rfl
  | t + 1, ht => by
    have g := dN_o (cs := cs) (k := (N : Int)) G hN t (by omega)
    rw [dN, hd_day hm g.1]
    exact hd_dN hm G hN t (by omega)
theorem swF_G (G : GS n M ns rm nw) (hs : 0 ≤ s ∧ s < ns) (hx : 0 ≤ x ∧ x < ns) (hne : s ≠ x) : GS n M ns rm (swF nw n s x) := by
  obtain ⟨g1, g2, g3, g4, g5, g6, g7⟩ := G
  have G : GS n M ns rm nw := ⟨g1, g2, g3, g4, g5, g6, g7⟩
  refine ⟨by rw [swF_o G (fun c _ => by omega)]; exact g1, fun c hc => ?_, swF_inj G hne, fun c m q1 q2 q3 q4 => by rw [swF_o G (fun c _ => by omega)]; exact g4 c m q1 q2 q3 q4, fun c q1 q2 => by rw [fullF_nw (fun i _ _ => swF_o G (fun c _ => by omega))]; exact g5 c q1 q2, fun m p q1 q2 q3 q4 => by rw [swF_o G (fun c _ => by omega)]; exact g6 m p q1 q2 q3 q4, g7⟩
  have := g2 c hc
  rw [swF_seat G hne hc]
  split
  · exact hx
  · split
    · exact hs
    · exact this
/-- how many know of the matter behind the days, two seats changed -/
def VF (n M ns : Nat) (rm : Int → Int) (cs : List Int) (nw : Int → Int) (m : Int) (N a b : Nat) : Int := kcF (dN n M ns rm cs (if a = b then nw else swF nw n a b) N) m n
theorem VF_lb {N a b : Nat} (hm : 0 ≤ m ∧ m < 4) (G : GS n M ns rm nw) (hN : nw 0 + (N : Int) ≤ 1999) (hab : a ≤ b) (hb : b < ns ∨ a = b) : 0 ≤ VF n M ns rm cs nw m N a b ∧ VF n M ns rm cs nw m N a b ≤ 7 ∧ (VF n M ns rm cs nw m N a b = 0 ↔ hdF nw m n = 0) := by
  have hn := G.2.2.2.2.2.2
  have key : ∀ nw1, GS n M ns rm nw1 → nw1 0 = nw 0 → hdF nw1 m n = hdF nw m n → 0 ≤ kcF (dN n M ns rm cs nw1 N) m n ∧ kcF (dN n M ns rm cs nw1 N) m n ≤ 7 ∧ (kcF (dN n M ns rm cs nw1 N) m n = 0 ↔ hdF nw m n = 0) := by
    intro nw1 G1 e0 e1
    have g := dN_o (cs := cs) (k := (N : Int)) G1 (by omega) N (by omega)
    have kb := kc_bd (nw := dN n M ns rm cs nw1 N) (m := m) n
    have kh := kc_hd (nw := dN n M ns rm cs nw1 N) (m := m) (n := n) (fun c hc => (g.1.drop (c := c) (by omega) (by omega) hm.1 hm.2).1) n (Nat.le_refl n)
    rw [hd_dN hm G1 (by omega) N (Nat.le_refl N), e1] at kh
    exact ⟨kb.1, by omega, kh.2⟩
  unfold VF
  by_cases e : a = b
  · rw [if_pos e]; exact key nw G rfl rfl
  · rw [if_neg e]
    refine key _ (swF_G G (by omega) (by omega) (by omega)) (swF_o G (fun c _ => by omega)) (hd_ext n (fun c _ => swF_o G (fun c _ => by omega)))
theorem l_countK {N : Nat} (hm : 0 ≤ m ∧ m < 4) (G : GS n M ns rm nw) (hN : nw 0 + (N : Int) ≤ 1999) : ∀ (r k : Nat), k + r = N → ∀ (φ : aF) (α : aA), TR n M ns rm cs φ α (dN n M ns rm cs nw k) → (∀ φ' α', frd 36 φ α φ' α' → Q (kcF (dN n M ns rm cs nw N) m n) φ' α') → jX4_countKnowing_28 (d + 5) m (N : Int) k φ α Q
  | 0, k, hk, φ, α, T, h => by
    have z : k = N := by omega
    subst z
    have hn := G.2.2.2.2.2.2
    obtain ⟨x, h1, h2, h3⟩ := kn_bd (nw := dN n M ns rm cs nw k) hm n hn.1
    have p := p2_bd hn.1
    refine vX4_countKnowing_28 ⟨fun _ => c_knowing st36 T.1 hm ?_, fun q => by omega⟩
    rw [kn_n T.2.1 hm]
    refine c_bitCount (by omega) ?_
    rw [h3]
    exact h φ α frd.rf
  | r + 1, k, hk, φ, α, T, h => by
    have g := dN_o (cs := cs) (k := (N : Int)) G hN k (by omega)
    refine vX4_countKnowing_28 ⟨fun q => by omega, fun _ => c_dayTR T (by omega) (fun φ1 α1 T1 f1 => ⟨by have := G.1; unfold inR; omega, ?_⟩)⟩
    have := l_countK hm G hN r (k + 1) (by omega) φ1 α1 T1 (fun φ' α' f' => h φ' α' (f1.tr f'))
    simpa using this
theorem c_countKnowing {N a b : Nat} (I : Iv n M ns rm cs ct sr j φ α) (E : XE φ α n M ns rm cs) (hm : 0 ≤ m ∧ m < 4) (hN : α 233 0 + (N : Int) ≤ 1999) (hab : a ≤ b) (hb : b < ns ∨ a = b) (h : ∀ φ' α', frd 36 φ α φ' α' → Q (VF n M ns rm cs (α 233) m N a b) φ' α') : eX4_countKnowing (d + 5) a b m (N : Int) φ α Q := by
  have hn := I.G.2.2.2.2.2.2
  refine vX4_countKnowing_0 (c_copyTR I E (fun φ1 α1 T1 f1 => ⟨fun q => ?_, fun q => ?_⟩))
  · have e : a = b := by omega
    unfold VF at h
    rw [if_pos e] at h
    have := l_countK (d := d) (Q := Q) (nw := α 233) (cs := cs) hm I.G hN N 0 (by omega) φ1 α1 T1 (fun φ' α' f' => h φ' α' (f1.tr f'))
    simpa using this
  · have e : a ≠ b := by omega
    unfold VF at h
    rw [if_neg e] at h
    refine c_swap st36 T1.1 T1.2.1 (by omega) (by omega) (by omega) (fun φ2 α2 X2 f2 s2 => ?_)
    have G2 := swF_G I.G (s := a) (x := b) (by omega) (by omega) (by omega)
    have := l_countK (d := d) (Q := Q) (nw := swF (α 233) n a b) (cs := cs) hm G2 (by rw [swF_o I.G (fun c _ => by omega)]; exact hN) N 0 (by omega) φ2 α2 ⟨X2, G2, XE_frd st36 f2.d T1.2.2.1, Or.inl s2⟩ (fun φ' α' f' => h φ' α' ((f1.tr f2.d).tr f'))
    simpa using this
/-- the class's marks of what it found, and the pure state -/
def CD (φ : aF) (x3 : Int) (st : Int × Int × Int) : Prop := φ 4 8 192 = st.1 ∧ (x3 = 0 ∧ st.2.1 = -1 ∨ x3 = 1 ∧ st.2.1 = φ 4 6 192 ∧ st.2.2 = φ 4 7 192 ∧ 0 ≤ st.2.1)
theorem fq_4 {f : Nat} : fq φ α (upf φ 4 f 192 v) α := ⟨fun c g o q => upf_o (by omega), fun _ _ _ _ _ _ _ _ _ _ _ => rfl⟩
theorem Iv_4 {f : Nat} (I : Iv n M ns rm cs ct sr j φ α) : Iv n M ns rm cs ct sr j (upf φ 4 f 192 v) α := Iv_fq (Nat.le_refl j) fq_4 (by rw [upf_o (by omega)]; exact I.2.2.2.2.2.1.2) I
theorem l_disC {N : Nat} (hm : 0 ≤ m ∧ m < 4) (G : GS n M ns rm nw) (hN : nw 0 + (N : Int) ≤ 1999) {fin : Int × Int × Int} (h : ∀ φ' α' x3, Iv n M ns rm cs ct sr j φ' α' → α' 233 = nw → CD φ' x3 fin → Q x3 φ' α') : ∀ (r a : Nat) (st : Int × Int × Int) (x3 : Int) (φ : aF) (α : aA), a + r = ns → fin = D55 (VF n M ns rm cs nw m N) ns r a st → 0 ≤ st.1 → st.1 ≤ VF n M ns rm cs nw m N 0 0 → Iv n M ns rm cs ct sr j φ α → α 233 = nw → CD φ x3 st → jX4_findDiscreet_17 (d + 6) m (N : Int) x3 a φ α Q
  | 0, a, st, x3, φ, α, ha, hf, h0, h1, I, e, C => by
    rw [hf] at h
    refine vX4_findDiscreet_17 ⟨fun _ => ⟨by rcases C.2 with q | q; (· exact Or.inl q.1); (· exact Or.inr q.1), h φ α x3 I e C⟩, fun q => by have := I.XO.1; omega⟩
  | r + 1, a, st, x3, φ, α, ha, hf, h0, h1, I, e, C => by
    have hn := G.2.2.2.2.2.2
    have inner : ∀ (r' b : Nat) (st : Int × Int × Int) (x3 : Int) (φ : aF) (α : aA), a < b → b + r' = ns → fin = D55 (VF n M ns rm cs nw m N) ns r (a + 1) (D72 (VF n M ns rm cs nw m N) a r' b st) → 0 ≤ st.1 → st.1 ≤ VF n M ns rm cs nw m N 0 0 → Iv n M ns rm cs ct sr j φ α → α 233 = nw → CD φ x3 st → jX4_findDiscreet_35 (d + 6) m (N : Int) x3 a b φ α Q := by
      intro r'
      induction r' with
      | zero =>
        intro b st x3 φ α hab hb hf h0 h1 I e C
        refine vX4_findDiscreet_35 ⟨fun _ => ⟨by unfold inR; omega, ?_⟩, fun q => by have := I.XO.1; omega⟩
        have := l_disC hm G hN h r (a + 1) st x3 φ α (by omega) hf h0 h1 I e C
        simpa using this
      | succ r' ih =>
        intro b st x3 φ α hab hb hf h0 h1 I e C
        obtain ⟨op, E, ME, S⟩ := I.open_ (by omega)
        have lb : ∀ a b : Nat, a < b → b < ns → st.1 ≤ 1 → st.1 ≤ VF n M ns rm cs nw m N a b := by
          intro a' b' h2 h3 h4
          have v1 := VF_lb (cs := cs) (N := N) (a := a') (b := b') hm G hN (by omega) (by omega)
          have v0 := VF_lb (cs := cs) (N := N) (a := 0) (b := 0) hm G hN (by omega) (by omega)
          by_cases z : hdF nw m n = 0
          · have := v0.2.2.mpr z; omega
          · have : VF n M ns rm cs nw m N a' b' ≠ 0 := fun w => z (v1.2.2.mp w)
            omega
        rw [D72] at hf
        have keep : upD (VF n M ns rm cs nw m N) a b st = st → ∀ φ1 α1, Iv n M ns rm cs ct sr j φ1 α1 → α1 233 = nw → CD φ1 x3 st → jX4_findDiscreet_35 (d + 6) m (N : Int) x3 a ((b : Int) + 1) φ1 α1 Q := fun hu φ1 α1 I1 e1 C1 => by
          rw [hu] at hf
          have := ih (b + 1) st x3 φ1 α1 (by omega) (by omega) hf h0 h1 I1 e1 C1
          simpa using this
        have step : ∀ φ1 α1, frd 36 φ α φ1 α1 → ((φ1 4 8 192 ≤ VF n M ns rm cs (α 233) m N a b → inR ((b : Int) + 1) ∧ jX4_findDiscreet_35 (d + 6) m (N : Int) x3 a ((b : Int) + 1) φ1 α1 Q) ∧ (¬ (φ1 4 8 192 ≤ VF n M ns rm cs (α 233) m N a b) → inR ((b : Int) + 1) ∧ jX4_findDiscreet_35 (d + 6) m (N : Int) 1 a ((b : Int) + 1) (upf (upf (upf φ1 4 8 192 (VF n M ns rm cs (α 233) m N a b)) 4 6 192 a) 4 7 192 b) α1 Q)) := by
          intro φ1 α1 f1
          have e1 : α1 233 = nw := (f1.2 _ (by omega) (by omega) (by omega)).trans e
          have c8 : φ1 4 8 192 = st.1 := (f1.1 _ _ _ (by omega)).trans C.1
          have I1 := Iv_frd f1 I
          have vb := VF_lb (cs := cs) (N := N) (a := a) (b := b) hm G hN (by omega) (by omega)
          rw [e, c8]
          refine ⟨fun q => ⟨by unfold inR; omega, keep (by unfold upD; rw [if_neg (by omega)]) φ1 α1 I1 e1 ?_⟩, fun q => ⟨by unfold inR; omega, ?_⟩⟩
          · unfold CD
            rw [f1.1 _ _ _ (by omega), f1.1 _ _ _ (by omega), f1.1 _ _ _ (by omega)]
            exact C
          · have hu : upD (VF n M ns rm cs nw m N) a b st = (VF n M ns rm cs nw m N a b, (a : Int), (b : Int)) := by unfold upD; rw [if_pos (by omega)]
            rw [hu] at hf
            have := ih (b + 1) _ 1 (upf (upf (upf φ1 4 8 192 (VF n M ns rm cs nw m N a b)) 4 6 192 a) 4 7 192 b) α1 (by omega) (by omega) hf vb.1 (by dsimp only; omega) (Iv_4 (Iv_4 (Iv_4 I1))) e1 ⟨by rw [upf_o (by omega), upf_o (by omega), upf_s], Or.inr ⟨rfl, by rw [upf_o (by omega), upf_s], by rw [upf_s], by dsimp only; omega⟩⟩
            simpa using this
        refine vX4_findDiscreet_35 ⟨fun q => by have := I.XO.1; omega, fun _ => ⟨fun q => ?_, fun q => ?_⟩⟩
        · refine c_sitterAtA st29 I.X I.G ⟨fun q2 => c_countKnowing I E hm (by rw [e]; exact hN) (by omega) (by omega) step, fun q2 => c_sitterAtA st29 I.X I.G ⟨fun q3 => c_countKnowing I E hm (by rw [e]; exact hN) (by omega) (by omega) step, fun q3 => ⟨by unfold inR; omega, keep ?_ φ α I e C⟩⟩⟩
          rw [e] at q2 q3
          have ev : VF n M ns rm cs nw m N a b = VF n M ns rm cs nw m N 0 0 := by
            unfold VF
            rw [if_neg (by omega), if_pos rfl]
            unfold swF
            dsimp only
            rw [if_neg q3, if_neg q2]
          unfold upD
          rw [ev, if_neg (by omega)]
        · have c8 := C.1
          have s1 := lb
          refine ⟨by rcases C.2 with q | q; (· exact Or.inl q.1); (· exact Or.inr q.1), h φ α x3 I e ?_⟩
          have hu : upD (VF n M ns rm cs nw m N) a b st = st := by unfold upD; rw [if_neg (by have := lb a b hab (by omega) (by omega); omega)]
          rw [hf, hu, D72_stop (ns := ns) (fun b' z1 z2 => lb a b' z1 z2 (by omega)) r' (b + 1) (by omega) (by omega), D55_stop (fun a' b' z1 z2 => lb a' b' z1 z2 (by omega)) r (a + 1) (by omega)]
          exact C
    refine vX4_findDiscreet_17 ⟨fun q => by have := I.XO.1; omega, fun _ => ⟨by unfold inR; omega, ?_⟩⟩
    have := inner (ns - (a + 1)) (a + 1) st x3 φ α (by omega) (by omega) hf h0 h1 I e C
    simpa using this
-- the reference
theorem r_changes (O : α 226 3 = n) (G : GS n M ns rm (α 233)) (h : ∀ α', (∀ a : Int, a ≠ 233 → α' a = α a) → α' 233 = swF (α 233) n s x → Q 0 φ α') : eX11_changes (d + 2) s x φ α Q := by
  have hn := G.2.2.2.2.2.2
  have g1 := G.sit s
  have g2 := G.sit x
  refine vX11_changes_0 (r_sitterOf O hn.1 (r_sitterOf O hn.1 ⟨fun q => ⟨fun q2 => ?_, fun q2 => ?_⟩, fun q => ?_⟩))
  · refine h α (fun _ _ => rfl) ?_
    unfold swF
    dsimp only
    rw [if_neg (by omega), if_neg (by omega)]
  · refine ⟨by unfold inR; omega, by unfold inR; omega, ⟨by omega, by omega⟩, h _ (fun a q => upa_fn q) ?_⟩
    unfold swF
    dsimp only
    rw [upa_un, if_pos (by omega), if_neg (by omega)]
  · refine ⟨by unfold inR; omega, by unfold inR; omega, ⟨by omega, by omega⟩, fun q2 => h _ (fun a q => upa_fn q) ?_, fun q2 => ⟨by unfold inR; omega, by unfold inR; omega, ⟨by omega, by omega⟩, h _ (fun a q => by rw [upa_fn q, upa_fn q]) ?_⟩⟩
    · unfold swF
      dsimp only
      rw [upa_un, if_neg (by omega), if_pos (by omega)]
    · unfold swF
      dsimp only
      rw [upa_un, upa_un, if_pos (by omega), if_pos (by omega)]
theorem r_knowMany {N : Nat} (hN : α 233 0 + (N : Int) ≤ 1999) (hm : 0 ≤ m ∧ m < 4) (G : GS n M ns rm (α 233)) (R : RT n M ns rm cs nw0 φ α) (hov : 0 ≤ φ 11 53 198 ∧ φ 11 53 198 ≤ 2146000000 - 1782 * (N : Int)) (h : ∀ φ' α', ft φ α φ' α' → RT n M ns rm cs nw0 φ' α' → α' 233 = nw0 → 0 ≤ φ' 11 53 198 ∧ φ' 11 53 198 ≤ φ 11 53 198 + 1782 * (N : Int) → Q (kcF (dN n M ns rm cs (α 233) N) m n) φ' α') : eX11_knowMany (d + 8) m (N : Int) φ α Q := by
  have hn := G.2.2.2.2.2.2
  refine vX11_knowMany_0 (r_daysGo hN G R hov (fun φ1 α1 f1 R1 e1 v1 => r_knowersOf R1.2.1.1.2.1 hn.1 hm ?_))
  rw [e1]
  obtain ⟨x, h1, h2, h3⟩ := kn_bd (nw := dN n M ns rm cs (α 233) N) hm n hn.1
  have p := p2_bd hn.1
  refine r_bits (by omega) (r_triesT R1 (fun α2 R2 e2 f2 _ => ?_))
  rw [h3]
  exact h φ1 α2 (f1.t.tr f2) R2 e2 v1
theorem l_disM {N : Nat} (I : Iv n M ns rm cs ct sr j φ0 α0) (hv : 0 ≤ φ0 11 53 198 ∧ φ0 11 53 198 ≤ 2044000000) (hm : 0 ≤ m ∧ m < 4) (hN30 : N ≤ 30) (hN : α0 233 0 + (N : Int) ≤ 1999) (hz : 0 ≤ z ∧ z ≤ 2) {fin : Int × Int × Int} (h : ∀ φ' α', Inv sr (j + 1) φ' α' → Q (if fin.2.1 = -1 then -1 else if z = 0 then fin.2.1 else if z = 1 then fin.2.2 else fin.1) φ' α') : ∀ (r a : Nat) (st : Int × Int × Int) (φ : aF) (α : aA), a + r = ns → fin = D55 (VF n M ns rm cs (α0 233) m N) ns r a st → RT n M ns rm cs (α0 233) φ α → ft φ0 α0 φ α → α 233 = α0 233 → 0 ≤ φ 11 53 198 ∧ φ 11 53 198 ≤ φ0 11 53 198 + 53460 * (1 + 8 * (a : Int)) → jX11_discreet_55 (d + 9) m (N : Int) z st.1 st.2.1 st.2.2 a φ α Q
  | 0, a, st, φ, α, ha, hf, R, f, e, v => by
    have hn := I.G.2.2.2.2.2.2
    rw [hf] at h
    refine vX11_discreet_55 ⟨fun _ => r_backT I f R (by omega) (fun φ4 α4 I4 f4 => ?_), fun q => by have := R.2.1.1.2.2.1; omega⟩
    have w := h φ4 α4 I4
    rw [show D55 (VF n M ns rm cs (α0 233) m N) ns 0 a st = st from rfl] at w
    refine ⟨fun q => ⟨fun q2 => ⟨fun q3 => ?_, fun q3 => ?_⟩, fun q2 => ?_⟩, fun q => ?_⟩
    · rwa [if_neg q, if_neg q2, if_neg q3] at w
    · rwa [if_neg q, if_neg q2, if_pos q3] at w
    · rwa [if_neg q, if_pos q2] at w
    · rwa [if_pos q] at w
  | r + 1, a, st, φ, α, ha, hf, R, f, e, v => by
    have G := I.G
    have hn := G.2.2.2.2.2.2
    have inner : ∀ (r' b : Nat) (st : Int × Int × Int) (φ : aF) (α : aA), a < b → b + r' = ns → fin = D55 (VF n M ns rm cs (α0 233) m N) ns r (a + 1) (D72 (VF n M ns rm cs (α0 233) m N) a r' b st) → RT n M ns rm cs (α0 233) φ α → ft φ0 α0 φ α → α 233 = α0 233 → 0 ≤ φ 11 53 198 ∧ φ 11 53 198 ≤ φ0 11 53 198 + 53460 * (8 * (a : Int) + ((b : Int) - a)) → jX11_discreet_72 (d + 9) m (N : Int) z st.1 st.2.1 st.2.2 a b φ α Q := by
      intro r'
      induction r' with
      | zero =>
        intro b st φ α hab hb hf R f e v
        refine vX11_discreet_72 ⟨fun _ => ⟨by unfold inR; omega, ?_⟩, fun q => by have := R.2.1.1.2.2.1; omega⟩
        have := l_disM I hv hm hN30 hN hz h r (a + 1) st φ α (by omega) hf R f e (by omega)
        simpa using this
      | succ r' ih =>
        intro b st φ α hab hb hf R f e v
        rw [D72] at hf
        refine vX11_discreet_72 ⟨fun q => by have := R.2.1.1.2.2.1; omega, fun _ => r_changes R.2.1.1.2.1 (by rw [e]; exact G) (fun α1 a1 e1 => ?_)⟩
        rw [e] at e1
        have G1 := swF_G G (s := a) (x := b) (by omega) (by omega) (by omega)
        have fm1 : fm φ α φ α1 := ⟨fun _ _ _ _ => rfl, fun a q _ => a1 a q⟩
        have R1 : RT n M ns rm cs (α0 233) φ α1 := RT_fm fm1 (fun i hi => by rw [e1, e]; exact swF_o G (fun c hc => by omega)) R
        refine r_knowMany (by rw [e1, swF_o G (fun c _ => by omega)]; exact hN) hm (by rw [e1]; exact G1) R1 (by omega) (fun φ2 α2 f2 R2 e2 v2 => ?_)
        have ev : kcF (dN n M ns rm cs (α1 233) N) m n = VF n M ns rm cs (α0 233) m N a b := by
          unfold VF
          rw [if_neg (by omega), e1]
        rw [ev]
        have nx : ∀ st', upD (VF n M ns rm cs (α0 233) m N) a b st = st' → jX11_discreet_72 (d + 9) m (N : Int) z st'.1 st'.2.1 st'.2.2 a ((b : Int) + 1) φ2 α2 Q := fun st' hs => by
          rw [hs] at hf
          have := ih (b + 1) st' φ2 α2 (by omega) (by omega) hf R2 ((f.tr fm1.t).tr f2) e2 (by omega)
          simpa using this
        refine ⟨fun q => ⟨by unfold inR; omega, nx (VF n M ns rm cs (α0 233) m N a b, (a : Int), (b : Int)) ?_⟩, fun q => ⟨by unfold inR; omega, nx st ?_⟩⟩
        · unfold upD; rw [if_pos q]
        · unfold upD; rw [if_neg q]
    refine vX11_discreet_55 ⟨fun q => by have := R.2.1.1.2.2.1; omega, fun _ => ⟨by unfold inR; omega, ?_⟩⟩
    have := inner (ns - (a + 1)) (a + 1) st φ α (by omega) (by omega) hf R f e (by omega)
    simpa using this
theorem p_discreet (hj : j < 512) (I : Inv sr j φ α) : eX10_discreet (d + 20) x y z φ α (fun r φ1 α1 => eX11_discreet (d + 20) x y z φ1 α1 (pq sr j r)) := by
  obtain ⟨n, M, ns, rm, cs, ct, I⟩ := I
  have G := I.G
  have hn := I.G.2.2.2.2.2.2
  have none : ¬ ((0 ≤ x ∧ x < M) ∧ (φ 11 46 198 = 1 ∧ (1 ≤ y ∧ y ≤ 30) ∧ α 233 0 + y ≤ 999) ∧ (0 ≤ z ∧ z ≤ 2)) → eX11_discreet (d + 20) x y z φ α (pq sr j (-1)) := by
    intro hno
    refine vX11_discreet_0 (r_isMatter I.MO.1 hn.2.1 ?_)
    by_cases e : 0 ≤ x ∧ x < M
    · rw [if_pos e]
      refine ⟨fun q => by omega, fun _ => r_isAhead I (by omega) (by omega) ?_⟩
      by_cases e2 : φ 11 46 198 = 1 ∧ (1 ≤ y ∧ y ≤ 30) ∧ α 233 0 + y ≤ 999
      · rw [if_pos e2]
        refine ⟨fun q => by omega, fun _ => r_isIn ?_⟩
        rw [if_neg (fun w => hno ⟨e, e2, w⟩)]
        exact ⟨fun q => absurd rfl q, fun _ => ⟨rfl, I.nx⟩⟩
      · rw [if_neg e2]
        exact ⟨fun _ => ⟨rfl, I.nx⟩, fun q => absurd rfl q⟩
    · rw [if_neg e]
      exact ⟨fun _ => ⟨rfl, I.nx⟩, fun q => absurd rfl q⟩
  refine vX10_discreet_0 (c_isMatter I.XO.2.1 ?_)
  by_cases e : 0 ≤ x ∧ x < M
  · rw [if_pos e]
    refine ⟨fun q => by omega, fun _ => c_canPass I (by omega) (by omega) ?_⟩
    by_cases e2 : φ 11 46 198 = 1 ∧ (1 ≤ y ∧ y ≤ 30) ∧ α 233 0 + y ≤ 999
    · rw [if_pos e2]
      refine ⟨fun q => by omega, fun _ => c_within ?_⟩
      by_cases e3 : 0 ≤ z ∧ z ≤ 2
      · rw [if_pos e3]
        obtain ⟨op, E, ME, S⟩ := I.open_ (by omega)
        obtain ⟨N, rfl⟩ : ∃ N : Nat, y = N := ⟨y.toNat, by omega⟩
        have hm : 0 ≤ x ∧ x < 4 := by omega
        have hN : α 233 0 + (N : Int) ≤ 1999 := by omega
        refine ⟨fun q => by omega, fun _ => vX4_findDiscreet_0 ?_⟩
        have v0 := VF_lb (cs := cs) (nw := α 233) (N := N) (a := 0) (b := 0) hm G hN (by omega) (by omega)
        refine c_countKnowing (a := 0) (b := 0) I E hm hN (by omega) (by omega) (fun φ1 α1 f1 => ?_)
        have I1 := Iv_frd f1 I
        have e1 : α1 233 = α 233 := f1.2 _ (by omega) (by omega) (by omega)
        have fin := D55 (VF n M ns rm cs (α 233) x N) ns ns 0 (VF n M ns rm cs (α 233) x N 0 0, -1, -1)
        have ref : ∀ (r : Int) (φ2 : aF) (α2 : aA), Iv n M ns rm cs ct sr j φ2 α2 → α2 233 = α 233 → φ2 11 46 198 = 1 → r = (let fin := D55 (VF n M ns rm cs (α 233) x N) ns ns 0 (VF n M ns rm cs (α 233) x N 0 0, -1, -1); if fin.2.1 = -1 then -1 else if z = 0 then fin.2.1 else if z = 1 then fin.2.2 else fin.1) → eX11_discreet (d + 20) x (N : Int) z φ2 α2 (pq sr j r) := by
          intro r φ2 α2 I2 a2 o2 hr
          have v2 := I2.ov hj
          refine vX11_discreet_0 (r_isMatter I2.MO.1 hn.2.1 ?_)
          rw [if_pos e]
          refine ⟨fun q => by omega, fun _ => r_isAhead I2 (by omega) (by omega) ?_⟩
          rw [a2, if_pos ⟨o2, e2.2⟩]
          refine ⟨fun q => by omega, fun _ => r_isIn ?_⟩
          rw [if_pos e3]
          obtain ⟨op2, E2, ME2, S2⟩ := I2.open_ (by omega)
          refine ⟨fun _ => r_putsT ME2 (fun φ3 α3 R3 a3 f3 v3 => r_knowMany (by rw [a3, a2]; exact hN) hm (by rw [a3]; exact I2.G) R3 (by omega) (fun φ4 α4 f4 R4 a4 v4 => ?_)), fun q => by omega⟩
          have ev : kcF (dN n M ns rm cs (α3 233) N) x n = VF n M ns rm cs (α 233) x N 0 0 := by
            unfold VF
            rw [if_pos rfl, a3, a2]
          rw [ev]
          have := l_disM (d := d + 11) (Q := pq sr j r) (N := N) (m := x) (z := z) (fin := D55 (VF n M ns rm cs (α 233) x N) ns ns 0 (VF n M ns rm cs (α 233) x N 0 0, -1, -1)) I2 v2 hm (by omega) (by rw [a2]; exact hN) e3 (fun φ' α' I' => ⟨hr, I'⟩) ns 0 (VF n M ns rm cs (α 233) x N 0 0, -1, -1) φ4 α4 (by omega) (by rw [a2]) R4 (f3.tr f4) a4 (by omega)
          simpa using this
        have cl := l_disC (d := d + 13) (N := N) (m := x) (nw := α 233) (cs := cs) (ct := ct) (sr := sr) (j := j) (rm := rm) (M := M) (n := n) (Q := fun r7 φ7 α7 => ((¬ r7 = 0 → ((¬ z = 2 → ((¬ z = 0 → (eX11_discreet (d + 20) x (N : Int) z φ7 α7 (pq sr j (φ7 4 7 192)))) ∧ (z = 0 → (eX11_discreet (d + 20) x (N : Int) z φ7 α7 (pq sr j (φ7 4 6 192)))))) ∧ (z = 2 → (eX11_discreet (d + 20) x (N : Int) z φ7 α7 (pq sr j (φ7 4 8 192)))))) ∧ (r7 = 0 → (eX11_discreet (d + 20) x (N : Int) z φ7 α7 (pq sr j (-1)))))) (ns := ns) (fin := D55 (VF n M ns rm cs (α 233) x N) ns ns 0 (VF n M ns rm cs (α 233) x N 0 0, -1, -1)) hm G hN (fun φ2 α2 x3 I2 a2 C2 => ?_) ns 0 (VF n M ns rm cs (α 233) x N 0 0, -1, -1) 0 (upf φ1 4 8 192 (VF n M ns rm cs (α 233) x N 0 0)) α1 (by omega) rfl v0.1 (Int.le_refl _) (Iv_4 I1) e1 ⟨upf_s, Or.inl ⟨rfl, rfl⟩⟩
        · simpa using cl
        · have o2 : φ2 11 46 198 = 1 := by
            rcases I2.O.2.2.2.2.2.2 with w | w
            · omega
            · exact w.1
          generalize hfin : D55 (VF n M ns rm cs (α 233) x N) ns ns 0 (VF n M ns rm cs (α 233) x N 0 0, -1, -1) = fin at C2 ref
          rcases C2.2 with ⟨c1, c2⟩ | ⟨c1, c2, c3, c4⟩
          · exact ⟨fun q => absurd c1 q, fun _ => ref _ φ2 α2 I2 a2 o2 (by dsimp only; rw [if_pos c2])⟩
          · refine ⟨fun _ => ⟨fun q2 => ⟨fun q3 => ref _ φ2 α2 I2 a2 o2 ?_, fun q3 => ref _ φ2 α2 I2 a2 o2 ?_⟩, fun q2 => ref _ φ2 α2 I2 a2 o2 ?_⟩, fun q => by omega⟩
            · dsimp only; rw [if_neg (by omega), if_neg q3, if_pos (by omega)]; exact c3.symm
            · dsimp only; rw [if_neg (by omega), if_pos q3]; exact c2.symm
            · dsimp only; rw [if_neg (by omega), if_neg (by omega), if_neg (by omega)]; exact C2.1
      · rw [if_neg e3]
        exact ⟨fun _ => none (fun w => e3 w.2.2), fun q => absurd rfl q⟩
    · rw [if_neg e2]
      exact ⟨fun _ => none (fun w => e2 w.2.1), fun q => absurd rfl q⟩
  · rw [if_neg e]
    exact ⟨fun _ => none (fun w => e w.1), fun q => absurd rfl q⟩
end DC
