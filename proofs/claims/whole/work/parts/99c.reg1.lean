/-! the registry: numbers, names and words, read by the class -/
abbrev xR : Type := Except (Int × Int) (Nat × Int × Int)
abbrev okN (T : Int → Int) (N p : Nat) (e : Int) : Prop := (kdF T N p = 1 ∧ e ≠ p) ∧ ¬ (0 ≤ wdF T N p ∧ wdF T N p ≤ 23)
def rNum (T : Int → Int) (N : Nat) (lo hi : Int) (p : Nat) (e : Int) : xR := if kdF T N p = 2 ∧ e ≠ p then (if nxF T N p - p ≤ 4 then (if lo ≤ vlF T N p ∧ vlF T N p ≤ hi then .ok (avF T N p, edF T N p e, vlF T N p) else .error (2, (p : Int))) else .error (1, (p : Int) + 4)) else .error (1, (p : Int))
def rNam (T : Int → Int) (N : Nat) (p : Nat) (e : Int) : xR := if okN T N p e then (if nxF T N p - p ≤ 6 then .ok (avF T N p, edF T N p e, vlF T N p) else .error (1, (p : Int) + 6)) else .error (1, (p : Int))
def rWrd (T : Int → Int) (N : Nat) (w : Int) (p : Nat) (e : Int) : xR := if isW T N p e w then .ok (avF T N p, edF T N p e, 0) else .error (1, (p : Int))
def rSgn (T : Int → Int) (N : Nat) (s : Int) (p : Nat) (e : Int) : xR := if isS T N p s then .ok (avF T N p, edF T N p e, 0) else .error (1, (p : Int))
def bx (x : xR) (k : Nat → Int → Int → xR) : xR := match x with
  | .error q => .error q
  | .ok (p, e, v) => k p e v
theorem bx_ok {x : xR} {k : Nat → Int → Int → xR} {p : Nat} {e v : Int} (h : x = .ok (p, e, v)) : bx x k = k p e v := by rw [h]; rfl
theorem bx_er {x : xR} {k : Nat → Int → Int → xR} {q : Int × Int} (h : x = .error q) : bx x k = .error q := by rw [h]; rfl
/-- a known name: among the many behind fr -/
def rFnd (T : Int → Int) (N : Nat) (nm : Int → Int) (fr : Int) (many : Nat) (p : Nat) (e : Int) : xR := bx (rNam T N p e) fun p' e' v => if fsF (fun k => nm (fr + (k : Int)) = v) many 0 = -1 then .error (3, (p : Int)) else .ok (p', e', fsF (fun k => nm (fr + (k : Int)) = v) many 0)
/-- a new name -/
def rGiv (T : Int → Int) (N : Nat) (nm : Int → Int) (p : Nat) (e : Int) : xR := bx (rNam T N p e) fun p' e' v => if fsF (fun k => nm (k : Int) = v) 11 0 = -1 then .ok (p', e', v) else .error (3, (p : Int))
/-- the class stands before what begins at p, and has found no fault -/
def PZ (T : Int → Int) (N : Nat) (φ : aF) (α : aA) (p : Nat) (e : Int) : Prop := TOK T N φ p e ∧ TX T N φ α ∧ (φ 5 5 185 = 0 ∧ φ 5 6 185 = -1) ∧ e ≤ p ∧ p ≤ N
/-- tokens and faults: all that reading them changes -/
def fp (φ φ' : aF) : Prop := ∀ c f o, c ≠ 8 → ¬ (c = 5 ∧ (f = 5 ∨ f = 6)) → φ' c f o = φ c f o
theorem ia20 : isIA 20 11 := fun _ => rfl
section RZ
variable {d N p f : Nat} {φ φ' φ0 φ1 φ2 : aF} {α α' α0 α1 α2 : aA} {Q : Int → aF → aA → Prop} {x1 x2 e w s v : Int} {T nm : Int → Int}
theorem fp.rf : fp φ φ := fun _ _ _ _ _ => rfl
theorem fp.tr (h : fp φ φ1) (h' : fp φ1 φ2) : fp φ φ2 := fun c f o q1 q2 => (h' c f o q1 q2).trans (h c f o q1 q2)
theorem fp_8 (h : f8 φ φ') : fp φ φ' := fun c f o q _ => h c f o q
theorem fp_e {w : Int} : fp φ (upf (upf φ 5 5 185 v) 5 6 185 w) := fun c f o _ q => by rw [upf_o (by omega), upf_o (by omega)]
theorem PZ_scan (P : PZ T N φ α p e) (hk : kdF T N p ≠ 0) (hg : (kdF T N p = 1 ∨ kdF T N p = 2) → e ≠ p) (h : ∀ φ', f8 φ φ' → PZ T N φ' α (avF T N p) (edF T N p e) → Q 0 φ' α) : eX8_scan (d + 1) φ α Q := by
  obtain ⟨t, X, h5, he, hp⟩ := P
  exact c_scan X hp t hk hg he (fun φ' f' t' => h φ' f' ⟨t', TX_8 f' X, ⟨by rw [f' _ _ _ (by omega)]; exact h5.1, by rw [f' _ _ _ (by omega)]; exact h5.2⟩, ed_le hp he, (av_bd hp).2.1⟩)
/-- what is asked for: taken, or a fault -/
def XC (T : Int → Int) (N : Nat) (φ : aF) (α : aA) (r : xR) (H0 : aF → Prop) (H1 : Int → aF → Prop) : Prop := (∀ k pl, r = .error (k, pl) → ∀ φ', fp φ φ' → φ' 5 5 185 = k → φ' 5 6 185 = pl → H0 φ') ∧ ∀ p' e' v, r = .ok (p', e', v) → ∀ φ', f8 φ φ' → PZ T N φ' α p' e' → H1 v φ'
theorem z_unfit (P : PZ T N φ α p e) (h : ∀ φ', fp φ φ' → φ' 5 5 185 = 1 → φ' 5 6 185 = p → Q 0 φ' α) : eX5_unfit d φ α Q := vX5_unfit_0 (h _ fp_e (by rw [upf_o (by omega), upf_s]) (by rw [upf_s]; exact P.1.1))
theorem z_refuse {kk pl : Int} (h : ∀ φ', fp φ φ' → φ' 5 5 185 = kk → φ' 5 6 185 = pl → Q 0 φ' α) : eX5_refuse d kk pl φ α Q := vX5_refuse_0 (h _ fp_e (by rw [upf_o (by omega), upf_s]) upf_s)
theorem z_takeWord (P : PZ T N φ α p e) (h : XC T N φ α (rWrd T N w p e) (fun φ' => Q 0 φ' α) (fun _ φ' => Q 1 φ' α)) : eX5_takeWord (d + 2) w φ α Q := by
  unfold rWrd at h
  refine vX5_takeWord_0 (c_isWord P.1 ?_)
  by_cases q : isW T N p e w
  · rw [if_pos q] at h ⊢
    exact ⟨fun _ => PZ_scan P (by rw [q.1]; omega) (fun _ => q.2.1) (fun φ' f' P' => h.2 _ _ _ rfl φ' f' P'), fun z => by omega⟩
  · rw [if_neg q] at h ⊢
    exact ⟨fun z => absurd rfl z, fun _ => z_unfit P (fun φ' f' a b => ⟨Or.inl rfl, h.1 _ _ rfl φ' f' a b⟩)⟩
theorem z_takeSign (P : PZ T N φ α p e) (h : XC T N φ α (rSgn T N s p e) (fun φ' => Q 0 φ' α) (fun _ φ' => Q 1 φ' α)) : eX5_takeSign (d + 2) s φ α Q := by
  unfold rSgn at h
  refine vX5_takeSign_0 (c_isSign P.1 ?_)
  by_cases q : isS T N p s
  · rw [if_pos q] at h ⊢
    first
      | exact ⟨fun _ => PZ_scan P (by rw [q.1]; omega) (fun z => by rw [q.1] at z; omega) (fun φ' f' P' => h.2 _ _ _ rfl φ' f' P'), fun z => by omega⟩
      | exact ⟨fun z => by omega, fun _ => PZ_scan P (by rw [q.1]; omega) (fun z => by rw [q.1] at z; omega) (fun φ' f' P' => h.2 _ _ _ rfl φ' f' P')⟩
  · rw [if_neg q] at h ⊢
    first
      | exact ⟨fun z => absurd rfl z, fun _ => z_unfit P (fun φ' f' a b => ⟨Or.inl rfl, h.1 _ _ rfl φ' f' a b⟩)⟩
      | exact ⟨fun _ => z_unfit P (fun φ' f' a b => ⟨Or.inl rfl, h.1 _ _ rfl φ' f' a b⟩), fun z => absurd rfl z⟩
theorem z_readNumber (P : PZ T N φ α p e) (h : XC T N φ α (rNum T N x1 x2 p e) (fun φ' => Q (-1) φ' α) (fun v φ' => Q v φ' α)) : eX5_readNumber (d + 3) x1 x2 φ α Q := by
  unfold rNum at h
  have v4 := P.1.2.2.2.1
  have t5 := P.1.1
  have t6 := P.1.2.2.2.2
  have hp := P.2.2.2.2
  have hN := P.2.1.1
  have nb := nx_bd (T := T) hp
  refine vX5_readNumber_0 (vX5_isNumber_0 ?_)
  by_cases q : kdF T N p = 2 ∧ e ≠ p
  · rw [if_pos q] at h
    have t2 := (tok2 P.1).mpr q
    by_cases q2 : nxF T N p - p ≤ 4
    · rw [if_pos q2] at h
      have go : eX10_within (d + 2) (φ 8 4 186) x1 x2 φ α (fun r3 φ3 α3 => ((¬ r3 = 0 → (eX8_scan (d + 2) φ3 α3 (fun r5 φ5 α5 => (Q (φ 8 4 186) φ5 α5)))) ∧ (r3 = 0 → (eX5_refuse (d + 2) 2 (φ3 8 5 186) φ3 α3 (fun r6 φ6 α6 => (Q (-1) φ6 α6)))))) := by
        refine c_within ?_
        rw [v4]
        by_cases q3 : x1 ≤ vlF T N p ∧ vlF T N p ≤ x2
        · rw [if_pos q3] at h ⊢
          exact ⟨fun _ => PZ_scan P (by rw [q.1]; omega) (fun _ => q.2) (fun φ' f' P' => h.2 _ _ _ rfl φ' f' P'), fun z => by omega⟩
        · rw [if_neg q3] at h ⊢
          refine ⟨fun z => absurd rfl z, fun _ => ?_⟩
          rw [t5]
          exact z_refuse (fun φ' f' a b => h.1 _ _ rfl φ' f' a b)
      refine ⟨fun _ => vX8_length_0 ⟨by rw [t5, t6]; unfold inR; omega, fun _ => ⟨fun _ => go, fun z => by omega⟩, fun z => ?_⟩, fun z => absurd t2 z⟩
      rw [t5, t6] at z
      omega
    · rw [if_neg q2] at h
      refine ⟨fun _ => vX8_length_0 ⟨by rw [t5, t6]; unfold inR; omega, fun z => ?_, fun _ => ⟨by rw [t5]; unfold inR; omega, ?_⟩⟩, fun z => absurd t2 z⟩
      · rw [t5, t6] at z
        omega
      · rw [t5]
        exact z_refuse (fun φ' f' a b => ⟨fun _ => ⟨fun z => absurd rfl z, fun _ => h.1 _ _ rfl φ' f' a b⟩, fun z => absurd rfl z⟩)
  · rw [if_neg q] at h
    exact ⟨fun z => absurd ((tok2 P.1).mp z) q, fun _ => z_unfit P (fun φ' f' a b => ⟨Or.inl rfl, fun z => absurd rfl z, fun _ => h.1 _ _ rfl φ' f' a b⟩)⟩
theorem z_isName (P : PZ T N φ α p e) (h1 : okN T N p e → nxF T N p - p ≤ 6 → Q 1 φ α) (h0 : ∀ k pl, rNam T N p e = .error (k, pl) → ∀ φ', fp φ φ' → φ' 5 5 185 = k → φ' 5 6 185 = pl → Q 0 φ' α) : eX5_isName (d + 1) φ α Q := by
  unfold rNam at h0
  have w3 := P.1.2.2.1
  have t5 := P.1.1
  have t6 := P.1.2.2.2.2
  have hp := P.2.2.2.2
  have hN := P.2.1.1
  have nb := nx_bd (T := T) hp
  have tk := tok1 P.1
  refine vX5_isName_0 ⟨fun q => z_unfit P (fun φ' f' a b => ⟨Or.inl rfl, h0 1 p (by rw [if_neg (fun z => q (tk.mpr z.1))]) φ' f' a b⟩), fun q => c_within ?_⟩
  rw [w3]
  have k1 := tk.mp q
  by_cases q2 : 0 ≤ wdF T N p ∧ wdF T N p ≤ 23
  · rw [if_pos q2]
    exact ⟨fun z => by omega, fun _ => z_unfit P (fun φ' f' a b => ⟨Or.inl rfl, h0 1 p (by rw [if_neg (fun z => z.2 q2)]) φ' f' a b⟩)⟩
  · rw [if_neg q2]
    rw [if_pos ⟨k1, q2⟩] at h0
    refine ⟨fun _ => vX8_length_0 ⟨by rw [t5, t6]; unfold inR; omega, fun z => h1 ⟨k1, q2⟩ (by rw [t5, t6] at z; omega), fun z => ⟨by rw [t5]; unfold inR; omega, ?_⟩⟩, fun z => absurd rfl z⟩
    rw [t5, t6] at z
    rw [if_neg (by omega)] at h0
    rw [t5]
    exact z_refuse (fun φ' f' a b => ⟨fun _ => h0 _ _ rfl φ' f' a b, fun z => absurd rfl z⟩)
theorem rNam_ok (h : okN T N p e) (h2 : nxF T N p - p ≤ 6) : rNam T N p e = .ok (avF T N p, edF T N p e, vlF T N p) := by unfold rNam; rw [if_pos h, if_pos h2]
theorem l_findName {fr : Int} {many : Nat} (hfr : 0 ≤ fr ∧ fr + many ≤ 11) (P : PZ T N φ α p e) (hnm : ∀ k : Nat, k < many → α 20 (fr + (k : Int)) = nm (fr + (k : Int))) (hok : okN T N p e) (h0 : fsF (fun k => nm (fr + (k : Int)) = vlF T N p) many 0 = -1 → ∀ φ', fp φ φ' → φ' 5 5 185 = 3 → φ' 5 6 185 = p → Q (-1) φ' α) (h1 : fsF (fun k => nm (fr + (k : Int)) = vlF T N p) many 0 ≠ -1 → ∀ φ', f8 φ φ' → PZ T N φ' α (avF T N p) (edF T N p e) → Q (fsF (fun k => nm (fr + (k : Int)) = vlF T N p) many 0) φ' α) : ∀ (r k : Nat), k + r = many → fsF (fun k => nm (fr + (k : Int)) = vlF T N p) many 0 = fsF (fun k => nm (fr + (k : Int)) = vlF T N p) r k → jX5_findName_11 (d + 2) fr many k φ α Q := by
  intro r
  have t5 := P.1.1
  have v4 := P.1.2.2.2.1
  induction r with
  | zero =>
    intro k hk hs
    refine vX5_findName_11 ⟨fun _ => ?_, fun z => by omega⟩
    rw [t5]
    exact z_refuse (fun φ' f' a b => h0 (by rw [hs]; rfl) φ' f' a b)
  | succ r ih =>
    intro k hk hs
    refine vX5_findName_11 ⟨fun z => by omega, fun _ => ⟨by unfold inR; omega, c_pick (n := 11) ia20 (by omega) ?_⟩⟩
    rw [hnm k (by omega), v4]
    rw [fsF] at hs
    refine ⟨fun z => ⟨by unfold inR; omega, ih (k + 1) (by omega) (by rw [hs, if_neg z])⟩, fun z => ?_⟩
    rw [if_pos z] at hs
    refine PZ_scan P (by rw [hok.1.1]; omega) (fun _ => hok.1.2) (fun φ' f' P' => ?_)
    have := h1 (by rw [hs]; omega) φ' f' P'
    rw [hs] at this
    exact this
theorem z_findName {fr : Int} {many : Nat} (hfr : 0 ≤ fr ∧ fr + many ≤ 11) (P : PZ T N φ α p e) (hnm : ∀ k : Nat, k < many → α 20 (fr + (k : Int)) = nm (fr + (k : Int))) (h : XC T N φ α (rFnd T N nm fr many p e) (fun φ' => Q (-1) φ' α) (fun v φ' => Q v φ' α)) : eX5_findName (d + 2) fr many φ α Q := by
  unfold rFnd at h
  refine vX5_findName_0 (z_isName P (fun hok h6 => ⟨fun _ => ?_, fun z => by omega⟩) (fun k pl w φ' f' a b => ⟨fun z => absurd rfl z, fun _ => h.1 k pl (bx_er w) φ' f' a b⟩))
  rw [bx_ok (rNam_ok hok h6)] at h
  exact l_findName hfr P hnm hok (fun w φ' f' a b => h.1 3 p (by rw [if_pos w]) φ' f' a b) (fun w φ' f' P' => h.2 _ _ _ (by rw [if_neg w]) φ' f' P') many 0 (by omega) rfl
theorem l_giveName {row : Int} (hrow : 0 ≤ row ∧ row < 11) (P : PZ T N φ α p e) (hnm : ∀ k : Nat, k < 11 → α 20 (k : Int) = nm (k : Int)) (hok : okN T N p e) (h0 : fsF (fun k => nm (k : Int) = vlF T N p) 11 0 ≠ -1 → ∀ φ', fp φ φ' → φ' 5 5 185 = 3 → φ' 5 6 185 = p → Q 0 φ' α) (h1 : fsF (fun k => nm (k : Int) = vlF T N p) 11 0 = -1 → ∀ φ', f8 φ φ' → PZ T N φ' (upa α 20 row (vlF T N p)) (avF T N p) (edF T N p e) → Q 1 φ' (upa α 20 row (vlF T N p))) : ∀ (r k : Nat), k + r = 11 → fsF (fun k => nm (k : Int) = vlF T N p) 11 0 = fsF (fun k => nm (k : Int) = vlF T N p) r k → jX5_giveName_11 (d + 2) row k φ α Q := by
  intro r
  have t5 := P.1.1
  have v4 := P.1.2.2.2.1
  induction r with
  | zero =>
    intro k hk hs
    refine vX5_giveName_11 ⟨fun _ => c_set (n := 11) ia20 hrow ?_, fun z => by omega⟩
    rw [v4]
    have P1 : PZ T N φ (upa α 20 row (vlF T N p)) p e := ⟨P.1, ⟨P.2.1.1, P.2.1.2.1, by rw [upa_fn (by omega)]; exact P.2.1.2.2.1, by rw [upa_fn (by omega)]; exact P.2.1.2.2.2⟩, P.2.2⟩
    exact PZ_scan P1 (by rw [hok.1.1]; omega) (fun _ => hok.1.2) (fun φ' f' P' => h1 (by rw [hs]; rfl) φ' f' P')
  | succ r ih =>
    intro k hk hs
    refine vX5_giveName_11 ⟨fun z => by omega, fun _ => ⟨by omega, ?_⟩⟩
    rw [hnm k (by omega), v4]
    rw [show fsF (fun k => nm (k : Int) = vlF T N p) (r + 1) k = if nm (k : Int) = vlF T N p then (k : Int) else fsF (fun k => nm (k : Int) = vlF T N p) r (k + 1) from rfl] at hs
    refine ⟨fun z => ⟨by unfold inR; omega, ih (k + 1) (by omega) (by rw [hs, if_neg z])⟩, fun z => ?_⟩
    rw [if_pos z] at hs
    rw [t5]
    exact z_refuse (fun φ' f' a b => ⟨Or.inl rfl, h0 (by rw [hs]; omega) φ' f' a b⟩)
theorem z_giveName {row : Int} (hrow : 0 ≤ row ∧ row < 11) (P : PZ T N φ α p e) (hnm : ∀ k : Nat, k < 11 → α 20 (k : Int) = nm (k : Int)) (h0 : ∀ k pl, rGiv T N nm p e = .error (k, pl) → ∀ φ', fp φ φ' → φ' 5 5 185 = k → φ' 5 6 185 = pl → Q 0 φ' α) (h1 : ∀ p' e' v, rGiv T N nm p e = .ok (p', e', v) → ∀ φ', f8 φ φ' → PZ T N φ' (upa α 20 row v) p' e' → Q 1 φ' (upa α 20 row v)) : eX5_giveName (d + 2) row φ α Q := by
  unfold rGiv at h0 h1
  refine vX5_giveName_0 (z_isName P (fun hok h6 => ⟨fun _ => ?_, fun z => by omega⟩) (fun k pl w φ' f' a b => ⟨fun z => absurd rfl z, fun _ => h0 k pl (bx_er w) φ' f' a b⟩))
  rw [bx_ok (rNam_ok hok h6)] at h0 h1
  exact l_giveName hrow P hnm hok (fun w φ' f' a b => h0 3 p (by rw [if_neg w]) φ' f' a b) (fun w φ' f' P' => h1 _ _ _ (by rw [if_pos w]) φ' f' P') 11 0 (by omega) rfl
end RZ
