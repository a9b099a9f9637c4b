/-! the registry: new names and known names, by the reference -/
theorem fs_none {P : Nat → Prop} [DecidablePred P] : ∀ (r k : Nat), fsF P r k = -1 ↔ ∀ i : Nat, k ≤ i → i < k + r → ¬ P i
  | 0, k => ⟨fun _ i q1 q2 => by omega, fun _ => rfl⟩
  | r + 1, k => by
    rw [fsF]
    by_cases q : P k
    · rw [if_pos q]
      exact ⟨fun w => by omega, fun w => absurd q (w k (Nat.le_refl k) (by omega))⟩
    · rw [if_neg q, fs_none r (k + 1)]
      refine ⟨fun w i q1 q2 => ?_, fun w i q1 q2 => w i (by omega) (by omega)⟩
      by_cases z : i = k
      · rw [z]; exact q
      · exact w i (by omega) (by omega)
/-- the names that the reference has: M matters, n clerks -/
def RNm (α : aA) (nm : Int → Int) (M n : Nat) : Prop := (α 226 0 = M ∧ M ≤ 4) ∧ (α 226 1 = n ∧ n ≤ 7) ∧ (∀ k : Nat, k < M → α 227 (k : Int) = nm (k : Int)) ∧ (∀ k : Nat, k < n → α 227 (8 + (k : Int)) = nm (4 + (k : Int)))
/-- rows without a name hold 0 -/
def NZ (nm : Int → Int) (M n : Nat) : Prop := (∀ k : Nat, M ≤ k → k < 4 → nm (k : Int) = 0) ∧ ∀ k : Nat, n ≤ k → k < 7 → nm (4 + (k : Int)) = 0
section RM
variable {d N p f M n cn : Nat} {φ φ' φ0 φ1 φ2 : aF} {α α' α0 α1 α2 : aA} {Q : Int → aF → aA → Prop} {x1 x2 x3 e w s v a pl : Int} {T nm : Int → Int}
theorem l_nn15F (h5 : φ 11 5 198 ≠ 0) (hx : x3 = 0 ∨ x3 = 1) (hc : α 226 x3 = cn) (hn : cn ≤ 8) (h : jX11_newName_7 (d + 1) v (x3 + 1) φ α Q) : ∀ (r k : Nat), k + r = cn → jX11_newName_15 (d + 1) v x3 k φ α Q := by
  intro r
  induction r with
  | zero => intro k hk; exact vX11_newName_15 ⟨by omega, fun _ => ⟨by unfold inR; omega, h⟩, fun z => by omega⟩
  | succ r ih => intro k hk; exact vX11_newName_15 ⟨by omega, fun z => by omega, fun _ => ⟨fun _ => ⟨by unfold inR; omega, ih (k + 1) (by omega)⟩, fun z => absurd z h5⟩⟩
theorem l_nn7F (h5 : φ 11 5 198 ≠ 0) (R : RNm α nm M n) (h : Q v φ α) : jX11_newName_7 (d + 1) v 0 φ α Q := by
  obtain ⟨⟨r1, r2⟩, ⟨r3, r4⟩, r5, r6⟩ := R
  refine vX11_newName_7 ⟨fun z => by omega, fun _ => l_nn15F h5 (Or.inl rfl) r1 (by omega) ?_ M 0 (by omega)⟩
  refine vX11_newName_7 ⟨fun z => by omega, fun _ => l_nn15F h5 (Or.inr rfl) r3 (by omega) ?_ n 0 (by omega)⟩
  exact vX11_newName_7 ⟨fun _ => h, fun z => by omega⟩
theorem l_nn15 (h5 : φ 11 5 198 = 0) (h35 : φ 11 35 198 = pl) (hx : x3 = 0 ∨ x3 = 1) (hc : α 226 x3 = cn) (hn : cn ≤ 8) (h1 : (∀ i : Nat, i < cn → α 227 (8 * x3 + (i : Int)) ≠ v) → jX11_newName_7 (d + 1) v (x3 + 1) φ α Q) (h0 : ∀ i : Nat, i < cn → α 227 (8 * x3 + (i : Int)) = v → ∀ φ', fw φ φ' → RF φ' 3 pl → jX11_newName_7 (d + 1) v (x3 + 1) φ' α Q) : ∀ (r k : Nat), k + r = cn → (∀ i : Nat, i < k → α 227 (8 * x3 + (i : Int)) ≠ v) → jX11_newName_15 (d + 1) v x3 k φ α Q := by
  intro r
  induction r with
  | zero =>
    intro k hk hp
    have : k = cn := by omega
    subst this
    exact vX11_newName_15 ⟨by omega, fun _ => ⟨by unfold inR; omega, h1 hp⟩, fun z => by omega⟩
  | succ r ih =>
    intro k hk hp
    refine vX11_newName_15 ⟨by omega, fun z => by omega, fun _ => ⟨fun z => absurd h5 z, fun _ => ⟨by unfold inR; omega, by unfold inR; omega, by omega, fun z => ⟨by unfold inR; omega, ih (k + 1) (by omega) (fun i hi => ?_)⟩, fun z => ?_⟩⟩⟩
    · rw [j3_zero] at z
      by_cases q : i = k
      · rw [q]; exact z
      · exact hp i (by omega)
    · rw [j3_zero] at z
      rw [h35]
      refine r_fail h5 (fun φ1 f1 F1 => ⟨by unfold inR; omega, ?_⟩)
      have hb : φ1 11 5 198 ≠ 0 := by rw [F1.1]; omega
      exact l_nn15F hb hx hc hn (h0 k (by omega) z φ1 f1 F1) r (k + 1) (by omega)
theorem vw_pos {m : Nat} (hm : 0 < m) (h : ∀ i : Nat, i < m → 97 ≤ T ((p + i : Nat) : Int) ∧ T ((p + i : Nat) : Int) ≤ 122) : 0 < vwF T p m := by
  obtain ⟨m, rfl⟩ : ∃ k, m = k + 1 := ⟨m - 1, by omega⟩
  have b := vw_bd (T := T) (p := p) (m := m) (fun i hi => h i (by omega))
  have t := h m (by omega)
  rw [vwF]
  omega
theorem vl_pos (hp : p ≤ N) (hk : kdF T N p = 1) : 0 < vlF T N p := by
  obtain ⟨a1, a2⟩ := nx_all (Or.inl hk)
  have nb := nx_bd (T := T) hp
  have np := nb.2.2 (by omega)
  unfold vlF
  rw [if_pos hk]
  refine vw_pos (by omega) (fun i hi => ?_)
  have k' := a1 (p + i) (by omega) (by omega)
  have b' := kdB_bd (T ((p + i : Nat) : Int))
  omega
theorem r_newName (R : RLx T N φ α p e) (Rn : RNm α nm M n) (Z : NZ nm M n) (h1 : ∀ p' e' v, rGiv T N nm p e = .ok (p', e', v) → ∀ φ', fw φ φ' → RLx T N φ' α p' e' → Q v φ' α) (h0 : ∀ k pl, rGiv T N nm p e = .error (k, pl) → k ≠ 0 → ∀ x φ', fw φ φ' → RF φ' k pl → Q x φ' α) : eX11_newName (d + 4) φ α Q := by
  unfold rGiv at h0 h1
  have hp := R.2.2.2.2.2.2
  obtain ⟨⟨r1, r2⟩, ⟨r3, r4⟩, r5, r6⟩ := id Rn
  refine vX11_newName_0 (r_name R (fun hok h6 φ1 f1 R1 g35 => ?_) (fun k pl w hk φ1 f1 F1 => ?_))
  · rw [bx_ok (rNam_ok hok h6)] at h0 h1
    have vp := vl_pos hp hok.1.1
    have bad : ∀ (i : Nat) (φ2 : aF), i < 11 → nm (i : Int) = vlF T N p → fw φ φ2 → RF φ2 3 p → Q (vlF T N p) φ2 α := fun i φ2 hi hv f2 F2 => h0 3 p (by rw [if_neg (fun w => (fs_none 11 0).mp w i (by omega) (by omega) hv)]) (by omega) _ φ2 f2 F2
    refine vX11_newName_7 ⟨fun z => by omega, fun _ => l_nn15 R1.2.1 g35 (Or.inl rfl) r1 (by omega) (fun w1 => ?_) (fun i hi hv φ2 f2 F2 => ?_) M 0 (by omega) (fun i hi => by omega)⟩
    · refine vX11_newName_7 ⟨fun z => by omega, fun _ => l_nn15 R1.2.1 g35 (Or.inr rfl) r3 (by omega) (fun w2 => ?_) (fun i hi hv φ2 f2 F2 => ?_) n 0 (by omega) (fun i hi => by omega)⟩
      · refine vX11_newName_7 ⟨fun _ => h1 (avF T N p) (edF T N p e) (vlF T N p) ?_ φ1 f1 R1, fun z => by omega⟩
        rw [if_pos ((fs_none 11 0).mpr (fun i q1 q2 hv => ?_))]
        by_cases q : i < 4
        · by_cases q3 : i < M
          · have := w1 i q3
            rw [show (8 : Int) * 0 + (i : Int) = i by omega, r5 i q3] at this
            exact this hv
          · rw [Z.1 i (by omega) q] at hv; omega
        · obtain ⟨c, rfl⟩ : ∃ c, i = 4 + c := ⟨i - 4, by omega⟩
          rw [show ((4 + c : Nat) : Int) = 4 + (c : Int) by omega] at hv
          by_cases q3 : c < n
          · have := w2 c q3
            rw [show (8 : Int) * 1 + (c : Int) = 8 + c by omega, r6 c q3] at this
            exact this hv
          · rw [Z.2 c (by omega) (by omega)] at hv; omega
      · refine vX11_newName_7 ⟨fun _ => bad (4 + i) φ2 (by omega) ?_ (f1.tr f2) F2, fun z => by omega⟩
        rw [show (8 : Int) * 1 + (i : Int) = 8 + i by omega, r6 i hi] at hv
        rw [show ((4 + i : Nat) : Int) = 4 + (i : Int) by omega]
        exact hv
    · have hb : φ2 11 5 198 ≠ 0 := by rw [F2.1]; omega
      rw [show (8 : Int) * 0 + (i : Int) = i by omega, r5 i hi] at hv
      refine vX11_newName_7 ⟨fun z => by omega, fun _ => l_nn15F hb (Or.inr rfl) r3 (by omega) ?_ n 0 (by omega)⟩
      exact vX11_newName_7 ⟨fun _ => bad i φ2 (by omega) hv (f1.tr f2) F2, fun z => by omega⟩
  · have hb : φ1 11 5 198 ≠ 0 := by rw [F1.1]; exact hk
    exact l_nn7F hb Rn (h0 k pl (bx_er w) hk 0 φ1 f1 F1)
theorem l_nm8 (h5 : φ 11 5 198 = 0) (h35 : φ 11 35 198 = pl) (hx : x3 = 0 ∨ x3 = 1) (hc : α 226 x3 = cn) (hn : cn ≤ 8) (hnm : ∀ k : Nat, k < cn → α 227 (8 * x3 + (k : Int)) = nm (4 * x3 + (k : Int))) (h1 : ∀ i : Nat, i < cn → fsF (fun k => nm (4 * x3 + (k : Int)) = v) cn 0 = (i : Int) → Q i φ α) (h0 : fsF (fun k => nm (4 * x3 + (k : Int)) = v) cn 0 = -1 → ∀ φ', fw φ φ' → RF φ' 3 pl → Q 0 φ' α) : ∀ (r k : Nat), k + r = cn → fsF (fun k => nm (4 * x3 + (k : Int)) = v) cn 0 = fsF (fun k => nm (4 * x3 + (k : Int)) = v) r k → jX11_named_8 (d + 1) x3 v k φ α Q := by
  intro r
  induction r with
  | zero =>
    intro k hk hs
    refine vX11_named_8 ⟨by omega, fun _ => ⟨fun z => absurd h5 z, fun _ => ?_⟩, fun z => by omega⟩
    rw [h35]
    exact r_fail h5 (fun φ1 f1 F1 => h0 (by rw [hs]; rfl) φ1 f1 F1)
  | succ r ih =>
    intro k hk hs
    rw [show fsF (fun k => nm (4 * x3 + (k : Int)) = v) (r + 1) k = if nm (4 * x3 + (k : Int)) = v then (k : Int) else fsF (fun k => nm (4 * x3 + (k : Int)) = v) r (k + 1) from rfl] at hs
    have e1 := hnm k (by omega)
    refine vX11_named_8 ⟨by omega, fun z => by omega, fun _ => ⟨by unfold inR; omega, by unfold inR; omega, by omega, fun z => ⟨by unfold inR; omega, ih (k + 1) (by omega) ?_⟩, fun z => h1 k (by omega) ?_⟩⟩
    · rw [j3_zero, e1] at z
      rw [hs, if_neg z]
    · rw [j3_zero, e1] at z
      rw [hs, if_pos z]
theorem l_nm8F (h5 : φ 11 5 198 ≠ 0) (hx : x3 = 0 ∨ x3 = 1) (hc : α 226 x3 = cn) (hn : cn ≤ 8) (h : ∀ i : Nat, (i = 0 ∨ i < cn) → Q i φ α) : ∀ (r k : Nat), k + r = cn → jX11_named_8 (d + 1) x3 v k φ α Q := by
  intro r
  induction r with
  | zero => intro k hk; exact vX11_named_8 ⟨by omega, fun _ => ⟨fun _ => h 0 (Or.inl rfl), fun z => absurd z h5⟩, fun z => by omega⟩
  | succ r ih => intro k hk; exact vX11_named_8 ⟨by omega, fun z => by omega, fun _ => ⟨by unfold inR; omega, by unfold inR; omega, by omega, fun _ => ⟨by unfold inR; omega, ih (k + 1) (by omega)⟩, fun _ => h k (Or.inr (by omega))⟩⟩
/-- a known name: x3 0 of a matter, 1 of a clerk -/
theorem r_named (R : RLx T N φ α p e) (hx : x3 = 0 ∨ x3 = 1) (hc : α 226 x3 = cn) (hn : cn ≤ 8) (hnm : ∀ k : Nat, k < cn → α 227 (8 * x3 + (k : Int)) = nm (4 * x3 + (k : Int))) (h1 : ∀ p' e' v, rFnd T N nm (4 * x3) cn p e = .ok (p', e', v) → ∀ φ', fw φ φ' → RLx T N φ' α p' e' → Q v φ' α) (h0 : ∀ k pl, rFnd T N nm (4 * x3) cn p e = .error (k, pl) → k ≠ 0 → ∀ (i : Nat) φ', (i = 0 ∨ i < cn) → fw φ φ' → RF φ' k pl → Q i φ' α) : eX11_named (d + 4) x3 φ α Q := by
  unfold rFnd at h0 h1
  refine vX11_named_0 (r_name R (fun hok h6 φ1 f1 R1 g35 => ?_) (fun k pl w hk φ1 f1 F1 => ?_))
  · rw [bx_ok (rNam_ok hok h6)] at h0 h1
    exact l_nm8 (nm := nm) R1.2.1 g35 hx hc hn hnm (fun i hi w => h1 (avF T N p) (edF T N p e) i (by rw [w, if_neg (by omega)]) φ1 f1 R1) (fun w φ2 f2 F2 => h0 3 p (by rw [if_pos w]) (by omega) 0 φ2 (Or.inl rfl) (f1.tr f2) F2) cn 0 (by omega) rfl
  · have hb : φ1 11 5 198 ≠ 0 := by rw [F1.1]; exact hk
    exact l_nm8F hb hx hc hn (fun i hi => h0 k pl (bx_er w) hk i φ1 hi f1 F1) cn 0 (by omega)
/-- behind a fault -/
theorem r_namedF (h5 : φ 11 5 198 ≠ 0) (hx : x3 = 0 ∨ x3 = 1) (hc : α 226 x3 = cn) (hn : cn ≤ 8) (h : ∀ i : Nat, (i = 0 ∨ i < cn) → Q i φ α) : eX11_named (d + 2) x3 φ α Q := vX11_named_0 (r_nameF h5 (l_nm8F h5 hx hc hn h cn 0 (by omega)))
end RM
