/-! the reference reads the small language: what waits, what is told -/
def stW (α : aA) : List Int → Prop
  | [] => True
  | v :: t => α 264 (t.length : Int) = v ∧ stW α t
def RQ (T : Int → Int) (N : Nat) (tk b : Int) (φ : aF) (α : aA) (p : Nat) (e : Int) (W : List Int) (o : Nat) (C : List Int) : Prop :=
  RLx T N φ α p e ∧ φ 11 47 198 = tk ∧ (φ 11 90 198 = W.length ∧ stW α W) ∧ φ 11 91 198 = o ∧ φ 11 92 198 = b ∧ (φ 11 88 198 = C.length ∧ ∀ i : Nat, i < C.length → α 263 (i : Int) = tauF (C.getD i 0))
def fz (φ : aF) (α : aA) (φ' : aF) (α' : aA) : Prop :=
  (∀ c f o, ¬ (c = 11 ∧ (f = 2 ∨ f = 4 ∨ f = 5 ∨ f = 6 ∨ f = 10 ∨ f = 35 ∨ f = 88 ∨ f = 90 ∨ f = 91 ∨ f = 92)) → φ' c f o = φ c f o) ∧ ∀ a : Int, a ≠ 263 → a ≠ 264 → α' a = α a
/-- a fault, with room left -/
def RFz (φ : aF) (k pl : Int) : Prop := (φ 11 5 198 = k ∧ k ≠ 0) ∧ φ 11 6 198 = pl ∧ (0 ≤ φ 11 88 198 ∧ φ 11 88 198 ≤ 1650) ∧ 0 ≤ φ 11 90 198
section RQs
variable {d N p o : Nat} {φ φ' φ0 φ1 φ2 : aF} {α α' α0 α1 α2 : aA} {Q : Int → aF → aA → Prop} {tk b e v x s : Int} {T : Int → Int} {W W' X C : List Int}
theorem fz.rf : fz φ α φ α := ⟨fun _ _ _ _ => rfl, fun _ _ _ => rfl⟩
theorem fz.tr (h : fz φ α φ1 α1) (h' : fz φ1 α1 φ2 α2) : fz φ α φ2 α2 := ⟨fun c f o q => (h'.1 c f o q).trans (h.1 c f o q), fun a q1 q2 => (h'.2 a q1 q2).trans (h.2 a q1 q2)⟩
theorem fz_w (h : fw φ φ') : fz φ α φ' α := ⟨fun c f o q => h c f o (by omega), fun _ _ _ => rfl⟩
theorem fz_u {f : Nat} (hf : f = 2 ∨ f = 4 ∨ f = 5 ∨ f = 6 ∨ f = 10 ∨ f = 35 ∨ f = 88 ∨ f = 90 ∨ f = 91 ∨ f = 92) : fz φ α (upf φ 11 f 198 v) α := ⟨fun c g o q => upf_o (by
    by_cases e : c = 11
    · by_cases e2 : g = f
      · exact absurd ⟨e, e2 ▸ hf⟩ q
      · exact Or.inr (Or.inl e2)
    · exact Or.inl e), fun _ _ _ => rfl⟩
theorem fz_a {a i : Int} (ha : a = 263 ∨ a = 264) : fz φ α φ (upa α a i v) := ⟨fun _ _ _ _ => rfl, fun a' q1 q2 => upa_fn (by omega)⟩
theorem WR_a (h : ∀ a : Int, a ≠ 263 → a ≠ 264 → α' a = α a) (w : WR α) : WR α' := ⟨fun k i q1 q2 => by rw [h _ (by omega) (by omega)]; exact w.1 k i q1 q2, fun k i q1 q2 => by rw [h _ (by omega) (by omega)]; exact w.2 k i q1 q2⟩
theorem RLx_z (R : RLx T N φ α p e) (h2 : φ' 11 2 198 = φ 11 2 198) (h3 : φ' 11 3 198 = φ 11 3 198) (h4 : φ' 11 4 198 = φ 11 4 198) (h5 : φ' 11 5 198 = φ 11 5 198) (ha : ∀ a : Int, a ≠ 263 → a ≠ 264 → α' a = α a) (h6 : φ' 11 6 198 = φ 11 6 198 := by first | rfl | rw [upf_o (by omega)] | rw [upf_o (by omega), upf_o (by omega)]) : RLx T N φ' α' p e := by
  obtain ⟨r1, r2, r3, ⟨⟨a, r4, r5, r6⟩, r66⟩, r7, r8, r9⟩ := R
  exact ⟨⟨r1.1, h3.trans r1.2.1, by rw [ha 199 (by omega) (by omega)]; exact r1.2.2⟩, h5.trans r2, h4.trans r3, ⟨⟨a, h2.trans r4, r5, r6⟩, h6.trans r66⟩, WR_a ha r7, r8, r9⟩
theorem stW_up {j w : Int} : ∀ {W : List Int}, (W.length : Int) ≤ j → stW α W → stW (upa α 264 j w) W
  | [], _, _ => trivial
  | v :: t, hj, h => by
    have hj : (t.length : Int) + 1 ≤ j := by simpa using hj
    exact ⟨by rw [upa_ni (by omega)]; exact h.1, stW_up (by omega) h.2⟩
theorem stW_o (h : α' 264 = α 264) : ∀ {W : List Int}, stW α W → stW α' W
  | [], _ => trivial
  | v :: t, w => ⟨by rw [h]; exact w.1, stW_o h w.2⟩
/-- words have been read: what waits stays -/
theorem RQ_w (R : RQ T N tk b φ α p e W o C) (f : fw φ φ') {p' : Nat} {e' : Int} (R' : RLx T N φ' α p' e') : RQ T N tk b φ' α p' e' W o C := by
  obtain ⟨r1, r2, r3, r4, r5, r6⟩ := R
  exact ⟨R', by rw [f _ _ _ (by omega)]; exact r2, by rw [f _ _ _ (by omega)]; exact r3, by rw [f _ _ _ (by omega)]; exact r4, by rw [f _ _ _ (by omega)]; exact r5, by rw [f _ _ _ (by omega)]; exact r6⟩
theorem RF_z (R : RQ T N tk b φ α p e W o C) (hl : C.length ≤ 1600) {k pl : Int} (hk : k ≠ 0) (f : fw φ φ') (F : RF φ' k pl) : RFz φ' k pl := by
  obtain ⟨r1, r2, r3, r4, r5, r6⟩ := R
  exact ⟨⟨F.1, hk⟩, F.2, by rw [f _ _ _ (by omega), r6.1]; omega, by rw [f _ _ _ (by omega), r3.1]; omega⟩
theorem RQ_code (R : RQ T N tk b φ α p e W o C) : RQ T N tk b (upf φ 11 88 198 (C.length + 1)) (upa α 263 C.length (tauF x)) p e W o (C ++ [x]) := by
  obtain ⟨r1, r2, r3, r4, r5, r6⟩ := R
  refine ⟨RLx_z r1 (upf_o (by omega)) (upf_o (by omega)) (upf_o (by omega)) (upf_o (by omega)) (fun a q1 _ => upa_fn q1), by rw [upf_o (by omega)]; exact r2, ⟨by rw [upf_o (by omega)]; exact r3.1, stW_o (upa_fn (by omega)) r3.2⟩, by rw [upf_o (by omega)]; exact r4, by rw [upf_o (by omega)]; exact r5, ⟨by rw [upf_s, List.length_append]; simp, fun i hi => ?_⟩⟩
  rw [getD_snoc i hi]
  by_cases q : i = C.length
  · rw [if_pos q, q, upa_eq]
  · rw [if_neg q, upa_ni (by omega)]
    exact r6.2 i (by rw [List.length_append] at hi; have hi : i < C.length + 1 := hi; omega)
theorem r_qCode (R : RQ T N tk b φ α p e W o C) (hl : C.length ≤ 1650) (hv : v = tauF x) (h : ∀ φ' α', fz φ α φ' α' → RQ T N tk b φ' α' p e W o (C ++ [x]) → Q 0 φ' α') : eX11_qCode d v φ α Q := by
  have r6 := R.2.2.2.2.2.1
  subst hv
  refine vX11_qCode_0 ?_
  rw [r6]
  exact ⟨by omega, by unfold inR; omega, h _ _ ((fz_u (by omega)).tr (fz_a (by omega))) (RQ_code R)⟩
/-- a code is put behind a fault: nobody reads it -/
theorem r_qCodeF {k pl : Int} (F : RFz φ k pl) (hl : φ 11 88 198 ≤ 1640) (h : ∀ φ' α', fz φ α φ' α' → RFz φ' k pl → φ' 11 88 198 ≤ φ 11 88 198 + 1 → Q 0 φ' α') : eX11_qCode d v φ α Q := by
  obtain ⟨f1, f2, f3, f4⟩ := F
  refine vX11_qCode_0 ⟨by omega, by unfold inR; omega, h _ _ ((fz_u (by omega)).tr (fz_a (by omega))) ⟨by rw [upf_o (by omega)]; exact f1, by rw [upf_o (by omega)]; exact f2, by rw [upf_s]; omega, by rw [upf_o (by omega)]; exact f4⟩ (by rw [upf_s]; omega)⟩
theorem RQ_pop (R : RQ T N tk b φ α p e (v :: W) o C) : RQ T N tk b (upf φ 11 90 198 (W.length : Int)) α p e W o C := by
  obtain ⟨r1, r2, r3, r4, r5, r6⟩ := R
  exact ⟨RLx_z r1 (upf_o (by omega)) (upf_o (by omega)) (upf_o (by omega)) (upf_o (by omega)) (fun _ _ _ => rfl), by rw [upf_o (by omega)]; exact r2, ⟨upf_s, r3.2.2⟩, by rw [upf_o (by omega)]; exact r4, by rw [upf_o (by omega)]; exact r5, by rw [upf_o (by omega)]; exact r6⟩
theorem RQ_top (R : RQ T N tk b φ α p e (v :: W) o C) : φ 11 90 198 = (W.length : Int) + 1 ∧ α 264 (W.length : Int) = v := by
  have := R.2.2.1
  exact ⟨by rw [this.1]; simp, this.2.1⟩
theorem r_qDrops (R : RQ T N tk b φ α p e (tauF x :: W) o C) (hl : C.length + (W.length + 1) ≤ 1650) (h : ∀ φ' α', fz φ α φ' α' → RQ T N tk b φ' α' p e W o (C ++ [x]) → Q 0 φ' α') : eX11_qDrops (d + 1) φ α Q := by
  obtain ⟨t1, t2⟩ := RQ_top R
  refine vX11_qDrops_0 ?_
  rw [t1, show (W.length : Int) + 1 - 1 = W.length by omega, t2]
  exact ⟨by unfold inR; omega, by omega, r_qCode (RQ_pop R) (by omega) rfl (fun φ' α' f' R' => h φ' α' ((fz_u (by omega)).tr f') R')⟩
theorem r_qIsOn (R : RQ T N tk b φ α p e W o C) (hl : W.length ≤ 1650) (h : Q (if W.head? = some v then 1 else 0) φ α) : eX11_qIsOn d v φ α Q := by
  match W, R, hl, h with
  | [], R, hl, h => exact vX11_qIsOn_0 ⟨fun _ => h, fun q => by rw [R.2.2.1.1] at q; exact absurd (Int.le_refl _) q⟩
  | w :: W, R, hl, h =>
    obtain ⟨t1, t2⟩ := RQ_top R
    have hl : W.length + 1 ≤ 1650 := hl
    refine vX11_qIsOn_0 ⟨fun q => by omega, fun _ => ?_⟩
    rw [t1, show (W.length : Int) + 1 - 1 = W.length by omega, t2]
    refine ⟨by unfold inR; omega, by omega, fun q => ?_, fun q => ?_⟩
    · rwa [if_neg (by simpa using q)] at h
    · rwa [if_pos (by simpa using q)] at h
theorem RQ_push (R : RQ T N tk b φ α p e W o C) : RQ T N tk b (upf φ 11 90 198 ((W.length : Int) + 1)) (upa α 264 W.length v) p e (v :: W) o C := by
  obtain ⟨r1, r2, r3, r4, r5, r6⟩ := R
  exact ⟨RLx_z r1 (upf_o (by omega)) (upf_o (by omega)) (upf_o (by omega)) (upf_o (by omega)) (fun a _ q => upa_fn q), by rw [upf_o (by omega)]; exact r2, ⟨by rw [upf_s]; simp, by rw [upa_eq], stW_up (Int.le_refl _) r3.2⟩, by rw [upf_o (by omega)]; exact r4, by rw [upf_o (by omega)]; exact r5, by rw [upf_o (by omega), upa_fn (by omega)]; exact r6⟩
theorem RQ_op (R : RQ T N tk b φ α p e W o C) (o' : Nat) : RQ T N tk b (upf φ 11 91 198 (o' : Int)) α p e W o' C := by
  obtain ⟨r1, r2, r3, r4, r5, r6⟩ := R
  exact ⟨RLx_z r1 (upf_o (by omega)) (upf_o (by omega)) (upf_o (by omega)) (upf_o (by omega)) (fun _ _ _ => rfl), by rw [upf_o (by omega)]; exact r2, by rw [upf_o (by omega)]; exact r3, upf_s, by rw [upf_o (by omega)]; exact r5, by rw [upf_o (by omega)]; exact r6⟩
theorem r_qOpens {pl : Int} (R : RQ T N tk b φ α p e W o C) (ho : o ≤ 6) (hl : C.length + W.length ≤ 1600) (h1 : o < 6 → ∀ φ' α', fz φ α φ' α' → RQ T N tk b φ' α' p e (v :: W) (o + 1) C → φ' 11 2 198 = φ 11 2 198 → Q 0 φ' α') (h0 : 6 ≤ o → ∀ φ', fw φ φ' → RFz φ' 4 pl → φ' 11 2 198 = φ 11 2 198 → Q 0 φ' α) : eX11_qOpens (d + 1) v pl φ α Q := by
  have r4 := R.2.2.2.1
  have r3 := R.2.2.1.1
  refine vX11_qOpens_0 ⟨fun _ => ⟨fun q => ?_, fun q => vX11_fail_0 ⟨fun _ => h0 (by omega) _ (fw_u (by omega) (fw_u (by omega) fw.rf)) (RF_z R (by omega) (by omega) (fw_u (by omega) (fw_u (by omega) fw.rf)) ⟨by rw [upf_o (by omega), upf_s], upf_s⟩) (by rw [upf_o (by omega), upf_o (by omega)]), fun z => absurd R.1.2.1 z⟩⟩, fun z => absurd R.1.2.1 z⟩
  rw [r4, r3]
  refine ⟨by unfold inR; omega, by omega, by unfold inR; omega, h1 (by omega) _ _ (((fz_u (by omega)).tr (fz_u (by omega))).tr (fz_a (by omega))) ?_ (by rw [upf_o (by omega), upf_o (by omega)])⟩
  exact RQ_push (RQ_op R (o + 1))
/-- what waits above is dropped, one by one -/
theorem pop1 {E : aF → aA → Prop} (hE : ∀ φ α x W C, RQ T N tk b φ α p e (tauF x :: W) o C → C.length + (W.length + 1) ≤ 1650 → (∃ x', x' ∈ X ∧ x = x') → (∀ φ' α', fz φ α φ' α' → RQ T N tk b φ' α' p e W o (C ++ [x]) → E φ' α') → E φ α) : ∀ (Y : List Int), (∀ y ∈ Y, y ∈ X) → ∀ (φ : aF) (α : aA) (C : List Int), RQ T N tk b φ α p e (Y.map tauF ++ W) o C → C.length + (Y.length + W.length) ≤ 1650 → (∀ φ' α', fz φ α φ' α' → RQ T N tk b φ' α' p e W o (C ++ Y) → E φ' α') → E φ α
  | [], hX, φ, α, C, R, hl, h => h φ α fz.rf (by rw [List.append_nil]; exact R)
  | y :: Y, hX, φ, α, C, R, hl, h => by
    have hl : C.length + (Y.length + 1 + W.length) ≤ 1650 := hl
    refine hE φ α y (Y.map tauF ++ W) C R (by rw [List.length_append, List.length_map]; omega) ⟨y, hX y (by simp), rfl⟩ (fun φ1 α1 f1 R1 => ?_)
    refine pop1 hE Y (fun z hz => hX z (by simp [hz])) φ1 α1 (C ++ [y]) R1 (by rw [List.length_append]; simp only [List.length_cons, List.length_nil]; omega) (fun φ2 α2 f2 R2 => h φ2 α2 (f1.tr f2) ?_)
    rw [List.append_assoc] at R2
    exact R2
/-- of the brackets above the base the last one: the list from the top on -/
def brF : List Int → Int
  | [] => -1
  | v :: t => if 20 ≤ v ∧ v ≤ 24 then v else brF t
theorem r_qIsBracket (h : Q (if 20 ≤ x ∧ x ≤ 24 then 1 else 0) φ α) : eX11_qIsBracket d x φ α Q := vX11_qIsBracket_0 ⟨fun q => by rwa [if_neg (by omega)] at h, fun q => ⟨fun q2 => by rwa [if_neg (by omega)] at h, fun q2 => by rwa [if_pos (by omega)] at h⟩⟩
theorem l_qBracket {V : List Int} (hb : φ 11 92 198 = V.length) (hl : V.length + 0 ≤ 1650) : ∀ (U : List Int), stW α (U ++ V) → U.length + V.length ≤ 1650 → Q (brF U) φ α → jX11_qBracket_7 (d + 1) ((U.length : Int) + V.length - 1) φ α Q
  | [], hs, hl, h => vX11_qBracket_7 ⟨fun _ => h, fun q => by exfalso; apply q; rw [hb]; simp; omega⟩
  | u :: U, hs, hl, h => by
    have hl : U.length + 1 + V.length ≤ 1650 := hl
    have e1 : (((u :: U).length : Int) + V.length - 1) = (U.length : Int) + V.length := by simp; omega
    have t : α 264 ((U.length : Int) + V.length) = u := by have this : α 264 ((U ++ V).length : Int) = u := hs.1; rw [List.length_append] at this; simpa using this
    rw [e1]
    refine vX11_qBracket_7 ⟨fun q => by omega, fun _ => ⟨by omega, r_qIsBracket ?_⟩⟩
    rw [t]
    rw [brF] at h
    by_cases q : 20 ≤ u ∧ u ≤ 24
    · rw [if_pos q] at h ⊢
      exact ⟨fun _ => ⟨fun z => by omega, fun _ => h⟩, fun z => by omega⟩
    · rw [if_neg q] at h ⊢
      refine ⟨fun z => absurd rfl z, fun _ => ⟨by unfold inR; omega, ?_⟩⟩
      rw [show (U.length : Int) + V.length + -1 = (U.length : Int) + V.length - 1 by omega]
      exact l_qBracket hb (by omega) U hs.2 (by omega) h
theorem r_qBracket {U V : List Int} (R : RQ T N tk V.length φ α p e (U ++ V) o C) (hl : U.length + V.length ≤ 1650) (h : Q (brF U) φ α) : eX11_qBracket (d + 1) φ α Q := by
  have r3 := R.2.2.1
  refine vX11_qBracket_0 ?_
  rw [r3.1, List.length_append]
  refine ⟨by unfold inR; omega, ?_⟩
  have := l_qBracket (d := d) (Q := Q) R.2.2.2.2.1 (by omega) U r3.2 hl h
  rw [show (((U.length + V.length : Nat) : Int) - 1) = (U.length : Int) + V.length - 1 by omega]
  exact this
end RQs
