/-! the class reads the small language -/
def PS (T : Int → Int) (N : Nat) (r tg : Int) (φ : aF) (α : aA) (p : Nat) (e : Int) (L : List Int) : Prop :=
  TOK T N φ p e ∧ TX T N φ α ∧ (φ 5 3 185 = r ∧ φ 5 5 185 = 0 ∧ φ 5 6 185 = -1) ∧ φ 5 4 185 = tg ∧ (φ 6 1 r = L.length ∧ ∀ i : Nat, i < L.length → α (r + 1) (i : Int) = L.getD i 0) ∧ e ≤ p ∧ p ≤ N
def fx (r : Int) (φ : aF) (α : aA) (φ' : aF) (α' : aA) : Prop :=
  (∀ c f o, c ≠ 8 → ¬ (c = 5 ∧ (f = 5 ∨ f = 6)) → ¬ (c = 6 ∧ o = r) → φ' c f o = φ c f o) ∧ ∀ a : Int, a ≠ r + 1 → α' a = α a
def CO (T : Int → Int) (N : Nat) (r tg : Int) (x : rR) (E : (Int → aF → aA → Prop) → Prop) (φ : aF) (α : aA) (L : List Int) : Prop :=
  ∀ Q : Int → aF → aA → Prop, (∀ k pl φ' α', x = .error (k, pl) → fx r φ α φ' α' → φ' 5 5 185 = k → φ' 5 6 185 = pl → Q 0 φ' α') → (∀ p' e' c φ' α', x = .ok (p', e', c) → fx r φ α φ' α' → PS T N r tg φ' α' p' e' (L ++ c) → Q 1 φ' α') → E Q
def cE (lv d : Nat) (o k : Int) (φ : aF) (α : aA) (Q : Int → aF → aA → Prop) : Prop :=
  if lv = 0 then eX5_readTest d o φ α Q else if lv = 1 then eX5_readBoth d o φ α Q else if lv = 2 then eX5_readFact d o φ α Q else if lv = 3 then eX5_readSum d o φ α Q else if lv = 4 then eX5_readProduct d o φ α Q else if lv = 5 then eX5_readPart d o φ α Q else if lv = 6 then jX5_readTest_12 d o k φ α Q else if lv = 7 then jX5_readBoth_12 d o k φ α Q else if lv = 8 then jX5_readSum_12 d o k φ α Q else jX5_readProduct_12 d o k φ α Q
def rkF (lv : Nat) : Nat := if lv = 0 then 10 else if lv = 1 then 9 else if lv = 2 then 8 else if lv = 3 then 7 else if lv = 4 then 6 else if lv = 5 then 5 else 11
def drF (lv : Nat) : Nat := if lv = 0 ∨ lv = 6 then 6 else if lv = 1 ∨ lv = 7 then 5 else if lv = 2 then 4 else if lv = 3 ∨ lv = 8 then 3 else if lv = 4 ∨ lv = 9 then 2 else 1
def CC (T : Int → Int) (N : Nat) (r tg : Int) (f lv : Nat) : Prop :=
  ∀ (d o p k : Nat) (e : Int) (L : List Int) (φ : aF) (α : aA), o ≤ 6 → 10 * (7 - o) + drF lv ≤ d → 12 * (N - p) + rkF lv ≤ f → PS T N r tg φ α p e L → L.length ≤ p → k ≤ p → CO T N r tg (rd T N tg f lv o p e) (cE lv d o k φ α) φ α L
section CR
variable {d N p f o k : Nat} {φ φ' φ0 φ1 φ2 : aF} {α α' α1 α2 : aA} {Q : Int → aF → aA → Prop} {r tg v e w s : Int} {T : Int → Int} {L c : List Int}
theorem fx.rf : fx r φ α φ α := ⟨fun _ _ _ _ _ _ => rfl, fun _ _ => rfl⟩
theorem fx.tr (h : fx r φ α φ1 α1) (h' : fx r φ1 α1 φ2 α2) : fx r φ α φ2 α2 := ⟨fun c f o q1 q2 q3 => (h'.1 c f o q1 q2 q3).trans (h.1 c f o q1 q2 q3), fun a q => (h'.2 a q).trans (h.2 a q)⟩
theorem fx_8 (h : f8 φ φ') : fx r φ α φ' α := ⟨fun c f o q _ _ => h c f o q, fun _ _ => rfl⟩
theorem fx_e : fx r φ α (upf (upf φ 5 5 185 v) 5 6 185 w) α := ⟨fun c f o _ q _ => by rw [upf_o (by omega), upf_o (by omega)], fun _ _ => rfl⟩
theorem tok1 (t : TOK T N φ p e) : φ 8 2 186 = 1 ↔ (kdF T N p = 1 ∧ e ≠ p) := by
  have := t.2.1
  have kc := @kdF_c T N p
  split at this <;> omega
theorem tok2 (t : TOK T N φ p e) : φ 8 2 186 = 2 ↔ (kdF T N p = 2 ∧ e ≠ p) := by
  have := t.2.1
  have kc := @kdF_c T N p
  split at this <;> omega
theorem tok3 (t : TOK T N φ p e) : φ 8 2 186 = 3 ↔ kdF T N p = 3 := by
  have := t.2.1
  have kc := @kdF_c T N p
  split at this <;> omega
theorem tok0 (t : TOK T N φ p e) : φ 8 2 186 = 0 ↔ kdF T N p = 0 := by
  have := t.2.1
  have kc := @kdF_c T N p
  split at this <;> omega
theorem vl3 (h : kdF T N p = 3) : vlF T N p = T p := by unfold vlF; rw [if_neg (by omega), if_neg (by omega), if_pos h]
theorem c_isWord (t : TOK T N φ p e) (h : Q (if isW T N p e w then 1 else 0) φ α) : eX8_isWord d w φ α Q := by
  have a := tok1 t
  have b := t.2.2.1
  refine vX8_isWord_0 ⟨fun q => ?_, fun q => ⟨fun q2 => ?_, fun q2 => ?_⟩⟩
  · rwa [if_neg (fun z => q (a.mpr ⟨z.1, z.2.1⟩))] at h
  · rwa [if_neg (fun z => q2 (b.trans z.2.2))] at h
  · rwa [if_pos ⟨(a.mp q).1, (a.mp q).2, b.symm.trans q2⟩] at h
theorem c_isSign (t : TOK T N φ p e) (h : Q (if isS T N p s then 1 else 0) φ α) : eX8_isSign d s φ α Q := by
  have a := tok3 t
  have b := t.2.2.2.1
  refine vX8_isSign_0 ⟨fun q => ?_, fun q => ⟨fun q2 => ?_, fun q2 => ?_⟩⟩
  · rwa [if_neg (fun z => q (a.mpr z.1))] at h
  · rwa [if_neg (fun z => q2 (by rw [b, vl3 z.1]; exact z.2))] at h
  · rwa [if_pos ⟨a.mp q, by rw [← vl3 (a.mp q), ← b]; exact q2⟩] at h
theorem PS_8 (h : f8 φ φ') (t : TOK T N φ' p e) {p0 : Nat} {e0 : Int} (P : PS T N r tg φ α p0 e0 L) (he : e ≤ p) (hp : p ≤ N) : PS T N r tg φ' α p e L :=
  ⟨t, TX_8 h P.2.1, ⟨by rw [h _ _ _ (by omega)]; exact P.2.2.1.1, by rw [h _ _ _ (by omega)]; exact P.2.2.1.2.1, by rw [h _ _ _ (by omega)]; exact P.2.2.1.2.2⟩, by rw [h _ _ _ (by omega)]; exact P.2.2.2.1, ⟨by rw [h _ _ _ (by omega)]; exact P.2.2.2.2.1.1, P.2.2.2.2.1.2⟩, he, hp⟩
/-- what is looked at is taken -/
theorem c_scanP (P : PS T N r tg φ α p e L) (hk : kdF T N p ≠ 0) (hg : (kdF T N p = 1 ∨ kdF T N p = 2) → e ≠ p) (h : ∀ φ', f8 φ φ' → PS T N r tg φ' α (avF T N p) (edF T N p e) L → Q 0 φ' α) : eX8_scan (d + 1) φ α Q := by
  obtain ⟨t, X, h3, h4, hc, he, hp⟩ := P
  exact c_scan X hp t hk hg he (fun φ' f' t' => h φ' f' (PS_8 f' t' ⟨t, X, h3, h4, hc, he, hp⟩ (ed_le hp he) (av_bd hp).2.1))
theorem row_r (hr : r = 7 ∨ r = 25 ∨ r = 27) : isRow r 1600 := by
  rcases hr with rfl | rfl | rfl
  · exact row7
  · exact row25
  · exact row27
theorem PS_put (hr : r = 7 ∨ r = 25 ∨ r = 27) (P : PS T N r tg φ α p e L) : PS T N r tg (upf φ 6 1 r (L.length + 1)) (upa α (r + 1) L.length v) p e (L ++ [v]) := by
  obtain ⟨⟨t1, t2, t3, t4, t5⟩, X, h3, h4, hc, he, hp⟩ := P
  refine ⟨⟨by rw [upf_o (by omega)]; exact t1, by rw [upf_o (by omega)]; exact t2, by rw [upf_o (by omega)]; exact t3, by rw [upf_o (by omega)]; exact t4, by rw [upf_o (by omega)]; exact t5⟩, ⟨X.1, by rw [upf_o (by omega)]; exact X.2.1, by rw [upa_fn (by omega)]; exact X.2.2.1, by rw [upa_fn (by omega)]; exact X.2.2.2⟩, ⟨by rw [upf_o (by omega)]; exact h3.1, by rw [upf_o (by omega)]; exact h3.2.1, by rw [upf_o (by omega)]; exact h3.2.2⟩, by rw [upf_o (by omega)]; exact h4, ⟨by rw [upf_s, List.length_append]; simp, fun i hi => ?_⟩, he, hp⟩
  rw [getD_snoc i hi]
  by_cases q : i = L.length
  · rw [if_pos q, q, upa_eq]
  · rw [if_neg q, upa_ni (by omega)]
    exact hc.2 i (by rw [List.length_append] at hi; have hi : i < L.length + 1 := hi; omega)
theorem c_putP (hr : r = 7 ∨ r = 25 ∨ r = 27) (P : PS T N r tg φ α p e L) (hl : L.length < 1600) (h : ∀ φ' α', fx r φ α φ' α' → PS T N r tg φ' α' p e (L ++ [v]) → Q 0 φ' α') : isRow (φ 5 3 185) 1600 ∧ eX6_put d (φ 5 3 185) v φ α Q := by
  have h3 := P.2.2.1.1
  have hc := P.2.2.2.2.1.1
  rw [h3]
  refine ⟨row_r hr, c_put (row_r hr) (by rw [hc]; omega) ?_⟩
  rw [hc]
  exact h _ _ ⟨fun c f o _ _ q => upf_o (by omega), fun a q => upa_fn q⟩ (PS_put hr P)
theorem c_unfit (P : TOK T N φ p e) (h : ∀ φ', fx r φ α φ' α → φ' 5 5 185 = 1 → φ' 5 6 185 = p → Q 0 φ' α) : eX5_unfit d φ α (fun r0 φ0 α0 => (r0 = 0 ∨ r0 = 1) ∧ Q r0 φ0 α0) :=
  vX5_unfit_0 ⟨Or.inl rfl, h _ fx_e (by rw [upf_o (by omega), upf_s]) (by rw [upf_s]; exact P.1)⟩
theorem c_refuseT {kk pl : Int} (h : ∀ φ', fx r φ α φ' α → φ' 5 5 185 = kk → φ' 5 6 185 = pl → Q 0 φ' α) : eX5_refuse d kk pl φ α (fun r0 φ0 α0 => (r0 = 0 ∨ r0 = 1) ∧ Q r0 φ0 α0) :=
  vX5_refuse_0 ⟨Or.inl rfl, h _ fx_e (by rw [upf_o (by omega), upf_s]) upf_s⟩
theorem c_takeSign (P : PS T N r tg φ α p e L) (h1 : isS T N p s → ∀ φ', f8 φ φ' → PS T N r tg φ' α (avF T N p) (edF T N p e) L → Q 1 φ' α) (h0 : ¬ isS T N p s → ∀ φ', fx r φ α φ' α → φ' 5 5 185 = 1 → φ' 5 6 185 = p → Q 0 φ' α) : eX5_takeSign (d + 2) s φ α Q := by
  refine vX5_takeSign_0 (c_isSign P.1 ?_)
  by_cases q : isS T N p s
  · rw [if_pos q]
    exact ⟨fun _ => c_scanP P (by rw [q.1]; omega) (by rw [q.1]; omega) (h1 q), fun z => by omega⟩
  · rw [if_neg q]
    exact ⟨fun z => absurd rfl z, fun _ => c_unfit P.1 (h0 q)⟩
theorem c_takeOpening (P : PS T N r tg φ α p e L) (hk : kdF T N p ≠ 0) (hg : (kdF T N p = 1 ∨ kdF T N p = 2) → e ≠ p) (h1 : o < 6 → ∀ φ', f8 φ φ' → PS T N r tg φ' α (avF T N p) (edF T N p e) L → Q 1 φ' α) (h0 : 6 ≤ o → ∀ φ', fx r φ α φ' α → φ' 5 5 185 = 4 → φ' 5 6 185 = p → Q 0 φ' α) : eX5_takeOpening (d + 2) o φ α Q := by
  refine vX5_takeOpening_0 ⟨fun q => c_scanP P hk hg (h1 (by omega)), fun q => ?_⟩
  rw [P.1.1]
  exact c_refuseT (h0 (by omega))
theorem ok_inj {p p' : Nat} {e e' : Int} {c c' : List Int} (h : (Except.ok (p, e, c) : rR) = .ok (p', e', c')) : p = p' ∧ e = e' ∧ c = c' := by cases h; exact ⟨rfl, rfl, rfl⟩
theorem er_inj {k k' l l' : Int} (h : (Except.error (k, l) : rR) = .error (k', l')) : k = k' ∧ l = l' := by cases h; exact ⟨rfl, rfl⟩
theorem PS_fx (hr : r = 7 ∨ r = 25 ∨ r = 27) (h : fx r φ α φ' α') (P : PS T N r tg φ' α' p e L) : PS T N r tg φ' α' p e L := P
/-- first one, then what goes on behind it -/
theorem cc_two {l1 l2 : Nat} (hl : l1 < 6) (hB : CC T N r tg f l2) (ho : o ≤ 6) (P : PS T N r tg φ α p e L) (hL : L.length ≤ p) (hf : 12 * (N - p) ≤ f + 1) (hd : 10 * (7 - o) + drF l2 ≤ d) (hr2 : rkF l2 = 11) (hQ1 : ∀ k pl φ' α', r2 (rd T N tg f) l1 l2 o p e = .error (k, pl) → fx r φ α φ' α' → φ' 5 5 185 = k → φ' 5 6 185 = pl → Q 0 φ' α') (hQ2 : ∀ p' e' c φ' α', r2 (rd T N tg f) l1 l2 o p e = .ok (p', e', c) → fx r φ α φ' α' → PS T N r tg φ' α' p' e' (L ++ c) → Q 1 φ' α') {E : (Int → aF → aA → Prop) → Prop} (hE : CO T N r tg (rd T N tg f l1 o p e) E φ α L) : E (fun r1 φ1 α1 => ((¬ r1 = 0 → cE l2 d o (0 : Nat) φ1 α1 Q) ∧ (r1 = 0 → Q 0 φ1 α1))) := by
  have he := P.2.2.2.2.2.1
  have hp := P.2.2.2.2.2.2
  refine hE _ (fun k pl φ1 α1 x1 f1 g1 g2 => ⟨fun z => absurd rfl z, fun _ => hQ1 k pl φ1 α1 (by unfold r2; rw [bnd_er x1]) f1 g1 g2⟩) (fun p1 e1 c1 φ1 α1 x1 f1 P1 => ⟨fun _ => ?_, fun z => by omega⟩)
  have pg := rd_PG f l1 o p e _ he hp x1
  have b1 := pg.2.2.1
  have b2 := pg.2.2.2 hl
  have b3 := pg.1
  dsimp only at b1 b2 b3
  refine hB d o p1 0 e1 (L ++ c1) φ1 α1 ho hd (by omega) P1 (by rw [List.length_append]; omega) (by omega) _ (fun k pl φ2 α2 x2 f2 g1 g2 => hQ1 k pl φ2 α2 (by unfold r2; rw [bnd_ok x1, bnd_er x2]) (f1.tr f2) g1 g2) (fun p2 e2 c2 φ2 α2 x2 f2 P2 => hQ2 p2 e2 (c1 ++ c2) φ2 α2 (by unfold r2; rw [bnd_ok x1, bnd_ok x2]) (f1.tr f2) (by rw [← List.append_assoc]; exact P2))
/-- what goes on: an operator, one more, and so on -/
theorem cc_lo {l1 l2 : Nat} {cell : Int} (hr : r = 7 ∨ r = 25 ∨ r = 27) (hl : l1 < 6) (hA : CC T N r tg f l1) (hB : CC T N r tg f l2) (hk0 : kdF T N p ≠ 0) (hg : (kdF T N p = 1 ∨ kdF T N p = 2) → e ≠ p) (ho : o ≤ 6) (P : PS T N r tg φ α p e L) (hL : L.length ≤ p) (hk : k ≤ p) (hf : 12 * (N - p) + 11 ≤ f + 1) (hd : 10 * (7 - o) + drF l2 ≤ d + 1) (hd1 : drF l1 + 1 ≤ drF l2) (hrk : rkF l1 ≤ 11) (hr2 : rkF l2 = 11) (hQ1 : ∀ k pl φ' α', rLo T N (rd T N tg f) l1 l2 o p e cell = .error (k, pl) → fx r φ α φ' α' → φ' 5 5 185 = k → φ' 5 6 185 = pl → Q 0 φ' α') (hQ2 : ∀ p' e' c φ' α', rLo T N (rd T N tg f) l1 l2 o p e cell = .ok (p', e', c) → fx r φ α φ' α' → PS T N r tg φ' α' p' e' (L ++ c) → Q 1 φ' α') : eX8_scan d φ α (fun r4 φ4 α4 => (cE l1 d o (0 : Nat) φ4 α4 (fun r5 φ5 α5 => ((¬ r5 = 0 → isRow (φ5 5 3 185) 1600 ∧ (eX6_put d (φ5 5 3 185) cell φ5 α5 (fun r8 φ8 α8 => inR ((k : Int) + 1) ∧ (cE l2 (d + 1) o ((k : Int) + 1) φ8 α8 Q)))) ∧ (r5 = 0 → (Q 0 φ5 α5)))))) := by
  have he := P.2.2.2.2.2.1
  have hp := P.2.2.2.2.2.2
  have hN := P.2.1.1
  have ab := av_bd (T := T) hp
  have ap := ab.2.2 hk0
  obtain ⟨d, rfl⟩ : ∃ d', d = d' + 1 := ⟨d - 1, by unfold drF at hd; split at hd <;> omega⟩
  refine c_scanP P hk0 hg (fun φ1 f1 P1 => ?_)
  refine hA (d + 1) o (avF T N p) 0 (edF T N p e) L φ1 α ho (by omega) (by omega) P1 (by omega) (by omega) _ (fun kk pl φ2 α2 x2 f2 g1 g2 => ⟨fun z => absurd rfl z, fun _ => hQ1 kk pl φ2 α2 (by unfold rLo; rw [bnd_er x2]) ((fx_8 f1).tr f2) g1 g2⟩) (fun p1 e1 c1 φ2 α2 x2 f2 P2 => ⟨fun _ => ?_, fun z => by omega⟩)
  have pg := rd_PG f l1 o _ _ _ P1.2.2.2.2.2.1 P1.2.2.2.2.2.2 x2
  have b1 := pg.2.2.1
  have b2 := pg.2.2.2 hl
  have b3 := pg.1
  dsimp only at b1 b2 b3
  refine c_putP hr P2 (by rw [List.length_append]; omega) (fun φ3 α3 f3 P3 => ⟨by unfold inR; omega, ?_⟩)
  have := hB (d + 1 + 1) o p1 (k + 1) e1 ((L ++ c1) ++ [cell]) φ3 α3 ho hd (by omega) P3 (by rw [List.length_append, List.length_append]; simp only [List.length_cons, List.length_nil]; omega) (by omega) Q (fun kk pl φ4 α4 x4 f4 g1 g2 => hQ1 kk pl φ4 α4 (by unfold rLo; rw [bnd_ok x2, bnd_er x4]) ((((fx_8 f1).tr f2).tr f3).tr f4) g1 g2) (fun p2 e2 c2 φ4 α4 x4 f4 P4 => hQ2 p2 e2 (c1 ++ cell :: c2) φ4 α4 (by unfold rLo; rw [bnd_ok x2, bnd_ok x4]) ((((fx_8 f1).tr f2).tr f3).tr f4) (by
    rw [show L ++ (c1 ++ cell :: c2) = ((L ++ c1) ++ [cell]) ++ c2 by simp]
    exact P4))
  rw [show ((k + 1 : Nat) : Int) = (k : Int) + 1 by omega] at this
  exact this
theorem drF_le (lv : Nat) : 1 ≤ drF lv ∧ drF lv ≤ 6 := by unfold drF; constructor <;> repeat' (first | omega | split)
theorem rkF_le (lv : Nat) : 5 ≤ rkF lv ∧ rkF lv ≤ 11 := by unfold rkF; constructor <;> repeat' (first | omega | split)
end CR
