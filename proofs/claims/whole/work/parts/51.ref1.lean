/-! the reference: its reads, its codes -/
def MO (α : aA) (n M ns : Nat) (rm : Int → Int) : Prop := α 226 2 = M ∧ α 226 3 = n ∧ α 225 2 = ns ∧ ∀ c : Int, 0 ≤ c → c < n → α 228 (15 + 2 * c) = rm c
/-- nothing but the pile has changed -/
def mp (φ : aF) (α : aA) (φ' : aF) (α' : aA) : Prop := (∀ c f o, ¬ (c = 11 ∧ f = 94) → φ' c f o = φ c f o) ∧ ∀ a : Int, a ≠ 265 → α' a = α a
theorem mp.rf {φ : aF} {α : aA} : mp φ α φ α := ⟨fun _ _ _ _ => rfl, fun _ _ => rfl⟩
theorem mp.tr {φ φ1 φ2 : aF} {α α1 α2 : aA} (h : mp φ α φ1 α1) (h' : mp φ1 α1 φ2 α2) : mp φ α φ2 α2 := ⟨fun c f o q => (h'.1 c f o q).trans (h.1 c f o q), fun a q => (h'.2 a q).trans (h.2 a q)⟩
def stM (α : aA) : List Int → Prop
  | [] => True
  | v :: t => α 265 t.length = v ∧ stM α t
theorem stM_up {α : aA} {j w : Int} : ∀ {st : List Int}, (st.length : Int) ≤ j → stM α st → stM (upa α 265 j w) st
  | [], _, _ => trivial
  | v :: t, hj, h => by
    have hj : (t.length : Int) + 1 ≤ j := by simpa using hj
    exact ⟨by rw [upa_ni (by omega)]; exact h.1, stM_up (by omega) h.2⟩
/-- the reference's number for a cell of the class -/
def tauF (ce : Int) : Int :=
  if 1000 ≤ ce then ce else if ce = 10 then 40 else if ce = 4 then 41 else if ce = 11 then 42 else if ce = 12 then 43 else if ce = 13 then 44 else if ce = 14 then 45 else if ce = 1 then 46 else if ce = 15 then 47 else if ce = 16 then 48 else if ce = 17 then 49 else if ce = 30 then 60 else if ce = 31 then 61 else if ce = 43 then 1 else if ce = 45 then 2 else if ce = 42 then 3 else if ce = 47 then 4 else if ce = 22 then 5 else if ce = 23 then 6 else if ce = 60 then 7 else if ce = 62 then 8 else if ce = 61 then 9 else if ce = 19 then 10 else if ce = 18 then 11 else if ce = 20 then 12 else 13
section R1
variable {d : Nat} {φ φ' : aF} {α α' : aA} {Q : Int → aF → aA → Prop} {b c o m x y v s k ce : Int} {n M ns : Nat} {rm : Int → Int}
theorem r_isIn (h : Q (if y ≤ x ∧ x ≤ v then 1 else 0) φ α) : eX11_isIn d x y v φ α Q :=
  vX11_isIn_0 ⟨fun q => by rw [j3_neg] at q; rwa [if_neg (by omega)] at h, fun q => by
    rw [j3_neg] at q
    exact ⟨fun q2 => by rw [j3_pos] at q2; rwa [if_neg (by omega)] at h, fun q2 => by rw [j3_pos] at q2; rwa [if_pos (by omega)] at h⟩⟩
theorem r_mMany (O : α 226 2 = M) (h : Q M φ α) : eX11_matterMany d φ α Q := vX11_matterMany_0 (by rw [O]; exact h)
theorem r_cMany (O : α 226 3 = n) (h : Q n φ α) : eX11_clerkMany d φ α Q := vX11_clerkMany_0 (by rw [O]; exact h)
theorem r_isMatter (O : α 226 2 = M) (hM : M ≤ 4) (h : Q (if 0 ≤ x ∧ x < M then 1 else 0) φ α) : eX11_isMatter (d + 1) x φ α Q := by
  refine vX11_isMatter_0 (r_mMany O ⟨by unfold inR; omega, r_isIn ?_⟩)
  by_cases e : 0 ≤ x ∧ x < M
  · rw [if_pos e] at h; rw [if_pos (by omega)]; exact ⟨Or.inr rfl, h⟩
  · rw [if_neg e] at h; rw [if_neg (by omega)]; exact ⟨Or.inl rfl, h⟩
theorem r_isClerk (O : α 226 3 = n) (hn : n ≤ 7) (h : Q (if 0 ≤ x ∧ x < n then 1 else 0) φ α) : eX11_isClerk (d + 1) x φ α Q := by
  refine vX11_isClerk_0 (r_cMany O ⟨by unfold inR; omega, r_isIn ?_⟩)
  by_cases e : 0 ≤ x ∧ x < n
  · rw [if_pos e] at h; rw [if_pos (by omega)]; exact ⟨Or.inr rfl, h⟩
  · rw [if_neg e] at h; rw [if_neg (by omega)]; exact ⟨Or.inl rfl, h⟩
theorem r_areBoth (O1 : α 226 2 = M) (O2 : α 226 3 = n) (hM : M ≤ 4) (hn : n ≤ 7) (h : Q (if (0 ≤ x ∧ x < n) ∧ (0 ≤ y ∧ y < M) then 1 else 0) φ α) : eX11_areBoth (d + 2) x y φ α Q := by
  refine vX11_areBoth_0 (r_isClerk O2 hn ?_)
  by_cases e : 0 ≤ x ∧ x < n
  · rw [if_pos e]
    refine ⟨fun q => by omega, fun _ => r_isMatter O1 hM ?_⟩
    by_cases e2 : 0 ≤ y ∧ y < M
    · rw [if_pos ⟨e, e2⟩] at h; rw [if_pos e2]; exact ⟨fun q => by omega, fun _ => h⟩
    · rw [if_neg (fun z => e2 z.2)] at h; rw [if_neg e2]; exact ⟨fun _ => h, fun q => absurd rfl q⟩
  · rw [if_neg (fun z => e z.1)] at h; rw [if_neg e]; exact ⟨fun _ => h, fun q => absurd rfl q⟩
theorem r_seatOf (hc : 0 ≤ c ∧ c < 7) (h : Q (α 233 (1 + 5 * c)) φ α) : eX11_seatOf d c φ α Q := vX11_seatOf_0 ⟨by unfold inR; omega, by unfold inR; omega, ⟨by omega, by omega⟩, h⟩
theorem r_roomOf (O : MO α n M ns rm) (hn : n ≤ 7) (hc : 0 ≤ c ∧ c < n) (h : Q (rm c) φ α) : eX11_roomOf d c φ α Q := vX11_roomOf_0 ⟨by unfold inR; omega, by unfold inR; omega, ⟨by omega, by omega⟩, by rw [O.2.2.2 c hc.1 hc.2]; exact h⟩
theorem r_dropsOf (hc : 0 ≤ c ∧ c < 7) (hm : 0 ≤ m ∧ m < 4) (h : Q (α 233 (2 + 5 * c + m)) φ α) : eX11_dropsOf d c m φ α Q := vX11_dropsOf_0 ⟨by unfold inR; omega, by unfold inR; omega, by unfold inR; omega, ⟨by omega, by omega⟩, h⟩
theorem r_floorOf (hm : 0 ≤ m ∧ m < 4) (h : Q (α 233 (36 + 3 * m)) φ α) : eX11_floorOf d m φ α Q := vX11_floorOf_0 ⟨by unfold inR; omega, by unfold inR; omega, ⟨by omega, by omega⟩, h⟩
theorem r_fullOf (G : GS n M ns rm (α 233)) (hc : 0 ≤ c ∧ c < 7) (h : Q (fullF (α 233) c) φ α) : eX11_fullOf (d + 1) c φ α Q := by
  have d0 := G.drop hc.1 hc.2 (m := 0) (by omega) (by omega)
  have d1 := G.drop hc.1 hc.2 (m := 0 + 1) (by omega) (by omega)
  have d2 := G.drop hc.1 hc.2 (m := 0 + 1 + 1) (by omega) (by omega)
  have d3 := G.drop hc.1 hc.2 (m := 0 + 1 + 1 + 1) (by omega) (by omega)
  refine vX11_fullOf_0 (vX11_fullOf_4 ⟨fun q => by omega, fun _ => r_dropsOf hc (by omega) ⟨by unfold inR; omega, by unfold inR; omega, vX11_fullOf_4 ⟨fun q => by omega, fun _ => r_dropsOf hc (by omega) ⟨by unfold inR; omega, by unfold inR; omega, vX11_fullOf_4 ⟨fun q => by omega, fun _ => r_dropsOf hc (by omega) ⟨by unfold inR; omega, by unfold inR; omega, vX11_fullOf_4 ⟨fun q => by omega, fun _ => r_dropsOf hc (by omega) ⟨by unfold inR; omega, by unfold inR; omega, vX11_fullOf_4 ⟨fun _ => ?_, fun q => by omega⟩⟩⟩⟩⟩⟩⟩⟩⟩)
  unfold fullF at h
  rw [show (2 : Int) + 5 * c + 0 = 2 + 5 * c by omega, show (2 : Int) + 5 * c + (0 + 1) = 3 + 5 * c by omega, show (2 : Int) + 5 * c + (0 + 1 + 1) = 4 + 5 * c by omega, show (2 : Int) + 5 * c + (0 + 1 + 1 + 1) = 5 + 5 * c by omega, Int.zero_add]
  exact h
theorem r_spaceOf (O : MO α n M ns rm) (G : GS n M ns rm (α 233)) (hrm : ∀ c : Int, 0 ≤ c → c < n → 0 ≤ rm c) (hc : 0 ≤ c ∧ c < n) (h : Q (rm c - fullF (α 233) c) φ α) : eX11_spaceOf (d + 2) c φ α Q := by
  have hn := G.2.2.2.2.2.2
  have a1 := G.full hc.1 (show c < 7 by omega)
  have a3 := G.2.2.2.2.1 c hc.1 hc.2
  have a5 := hrm c hc.1 hc.2
  exact vX11_spaceOf_0 (r_roomOf O hn.1 hc (r_fullOf G (by omega) ⟨by unfold inR; omega, h⟩))
theorem r_apart (G : GS n M ns rm (α 233)) (hc : 0 ≤ c ∧ c < n) (ho : 0 ≤ o ∧ o < n) (h : Q (absI (α 233 (1 + 5 * c) - α 233 (1 + 5 * o))) φ α) : eX11_apart (d + 1) c o φ α Q := by
  have hn := G.2.2.2.2.2.2
  have a1 := G.seat hc
  have a2 := G.seat ho
  unfold absI at h
  exact vX11_apart_0 (r_seatOf (by omega) (r_seatOf (by omega) ⟨by unfold inR; omega, fun q => by rwa [if_neg (by omega)] at h, fun q => ⟨by unfold inR; omega, by rwa [if_pos (by omega)] at h⟩⟩))
theorem l_mMind (O : α 226 2 = M) (hM : M ≤ 4) (hc : 0 ≤ c ∧ c < 7) (h : Q (mdF (α 233) c M).1 φ α) : ∀ (r k : Nat), k + r = M → ((mdF (α 233) c k).1 = -1 ∧ (mdF (α 233) c k).2 = 0 ∨ (0 ≤ (mdF (α 233) c k).1 ∧ (mdF (α 233) c k).1 < k ∧ (mdF (α 233) c k).2 = α 233 (2 + 5 * c + (mdF (α 233) c k).1))) → jX11_mindOf_4 (d + 1) c (mdF (α 233) c k).1 k φ α Q
  | 0, k, hk, hi => vX11_mindOf_4 (r_mMany O ⟨fun _ => by rw [show k = M by omega]; exact h, fun q => by omega⟩)
  | r + 1, k, hk, hi => vX11_mindOf_4 (r_mMany O ⟨fun q => by omega, fun _ => r_dropsOf hc (by omega) (by
      have ih := l_mMind O hM hc h r (k + 1) (by omega)
      rw [mdF] at ih
      by_cases e : (mdF (α 233) c k).2 < α 233 (2 + 5 * c + k)
      · rw [if_pos e] at ih
        have ih := ih (Or.inr ⟨by omega, by simp; omega, rfl⟩)
        refine ⟨fun q => r_dropsOf hc (by omega) ⟨fun q2 => by omega, fun q2 => ⟨by unfold inR; omega, by simpa using ih⟩⟩, fun q => ⟨fun q2 => by omega, fun q2 => ⟨by unfold inR; omega, by simpa using ih⟩⟩⟩
      · rw [if_neg e] at ih
        have ih := ih (by rcases hi with hi | hi; (· exact Or.inl hi); (· exact Or.inr ⟨hi.1, by omega, hi.2.2⟩))
        refine ⟨fun q => r_dropsOf hc (by omega) ⟨fun q2 => ⟨by unfold inR; omega, by simpa using ih⟩, fun q2 => by omega⟩, fun q => ⟨fun q2 => ⟨by unfold inR; omega, by simpa using ih⟩, fun q2 => by omega⟩⟩)⟩)
theorem r_mMind (O : α 226 2 = M) (hM : M ≤ 4) (hc : 0 ≤ c ∧ c < 7) (h : Q (mdF (α 233) c M).1 φ α) : eX11_mindOf (d + 1) c φ α Q := vX11_mindOf_0 (l_mMind O hM hc h M 0 (by omega) (Or.inl ⟨rfl, rfl⟩))
theorem l_mSit (O : α 226 3 = n) (hn : n ≤ 7) (h : Q (sitF (α 233) s n) φ α) : ∀ (r k : Nat), k + r = n → sitF (α 233) s k = -1 → jX11_sitterOf_2 (d + 1) s k φ α Q
  | 0, k, hk, hi => vX11_sitterOf_2 (r_cMany O ⟨fun _ => by rw [show n = k by omega, hi] at h; exact h, fun q => by omega⟩)
  | r + 1, k, hk, hi => vX11_sitterOf_2 (r_cMany O ⟨fun q => by omega, fun _ => r_seatOf (by omega) ⟨fun q => ⟨by unfold inR; omega, by
      have := l_mSit O hn h r (k + 1) (by omega) (by rw [sitF, hi, if_neg (by omega), if_neg q])
      simpa using this⟩, fun q => by
      have e : ∀ (j : Nat), k < j → sitF (α 233) s j = k := by
        intro j
        induction j with
        | zero => intro hj; omega
        | succ j ih =>
          intro hj
          by_cases z : j = k
          · subst z; rw [sitF, hi, if_neg (by omega), if_pos q]
          · rw [sitF, ih (by omega), if_pos (by omega)]
      rw [e n (by omega)] at h
      exact h⟩⟩)
theorem r_sitterOf (O : α 226 3 = n) (hn : n ≤ 7) (h : Q (sitF (α 233) s n) φ α) : eX11_sitterOf (d + 1) s φ α Q := vX11_sitterOf_0 (l_mSit O hn h n 0 (by omega) rfl)
theorem r_qClip (h : Q (clp x) φ α) : eX11_qClip d x φ α Q := by
  unfold clp at h
  refine vX11_qClip_0 ⟨fun q => ⟨fun q2 => ?_, fun q2 => ?_⟩, fun q => ?_⟩
  · rw [j3_le] at q; rw [j3_ge] at q2
    rwa [show max (-1000000) (min 1000000 x) = x by omega] at h
  · rw [j3_le] at q; rw [j3_ge] at q2
    rwa [show max (-1000000) (min 1000000 x) = -1000000 by omega] at h
  · rw [j3_le] at q
    rwa [show max (-1000000) (min 1000000 x) = 1000000 by omega] at h
theorem r_qFloor (hx : -1000000 ≤ x ∧ x ≤ 1000000) (hy : -1000000 ≤ y ∧ y ≤ 1000000) (h : Q (flr x y) φ α) : eX11_qFloor d x y φ α Q := by
  have ht := tdiv_bd (b := y) hx
  have hm : -1000000 ≤ Int.tmod x y ∧ Int.tmod x y ≤ 1000000 := by
    have h1 := Int.natAbs_tmod x y
    have h2 : x.natAbs % y.natAbs ≤ x.natAbs := Nat.mod_le _ _
    omega
  unfold flr at h
  refine vX11_qFloor_0 ⟨fun q => ?_, fun q => ?_⟩
  · rw [j3_zero] at q
    rw [if_neg q] at h
    refine ⟨⟨q, by unfold inJ; omega⟩, ⟨q, by unfold inJ; omega⟩, fun e => ?_, fun e => ⟨fun e1 => ⟨fun e2 => ?_, fun e2 => ⟨by unfold inJ; omega, ?_⟩⟩, fun e1 => ⟨fun e2 => ⟨by unfold inJ; omega, ?_⟩, fun e2 => ?_⟩⟩⟩
    · rw [j3_zero] at e; rwa [if_neg (fun z => z.1 e)] at h
    · rw [j3_ge] at e1 e2; rwa [if_neg (fun z => z.2 (by omega))] at h
    · rw [j3_zero] at e; rw [j3_ge] at e1 e2; rwa [if_pos ⟨e, by omega⟩] at h
    · rw [j3_zero] at e; rw [j3_ge] at e1 e2; rwa [if_pos ⟨e, by omega⟩] at h
    · rw [j3_ge] at e1 e2; rwa [if_neg (fun z => z.2 (by omega))] at h
  · rw [j3_zero] at q; rwa [if_pos q] at h
end R1
