/-! the reference: what a code is worth -/
/-- what a cell asks of the place where it is worked out -/
def PK (φ : aF) (α : aA) (M : Nat) (c o m ce : Int) : Prop :=
  (ce = 13 ∨ ce = 1 → φ 11 50 198 = m ∧ 0 ≤ m ∧ m < 4) ∧ (ce = 14 ∨ ce = 15 → φ 11 51 198 = o) ∧ (ce = 17 → (mdF (α 233) c M).1 = m)
theorem tyS_nd0 {ts ts' : List Bool} {ce : Int} (h : tyS ts ce = some ts') (h0 : ndF ce = 0) : ce = 21 ∨ (1000 ≤ ce ∧ ce ≤ 10999) ∨ ce = 1 ∨ ce = 4 ∨ (10 ≤ ce ∧ ce ≤ 17) := by
  unfold ndF at h0
  by_cases z : ce = 18 ∨ ce = 19 ∨ ce = 22 ∨ ce = 23 ∨ ce = 42 ∨ ce = 43 ∨ ce = 45 ∨ ce = 47 ∨ ce = 60 ∨ ce = 61 ∨ ce = 62
  · rw [if_pos z] at h0; omega
  rw [if_neg z] at h0
  by_cases z1 : ce = 20 ∨ ce = 30 ∨ ce = 31
  · rw [if_pos z1] at h0; omega
  unfold tyS at h
  rw [if_neg (by omega), if_neg (by omega), if_neg (by omega), if_neg (by omega), if_neg (by omega)] at h
  split at h
  · cases h
  · split at h
    · omega
    · split at h
      · omega
      · cases h
section R3
variable {d : Nat} {φ φ' : aF} {α α' : aA} {Q : Int → aF → aA → Prop} {b c o m x y v s k ce : Int} {n M ns : Nat} {rm : Int → Int} {st : List Int}
theorem r_qPartOf (O : MO α n M ns rm) (G : GS n M ns rm (α 233)) (hrm : ∀ c : Int, 0 ≤ c → c < n → 0 ≤ rm c) (hc : 0 ≤ c ∧ c < n) (ho : 0 ≤ o ∧ o < n) (hce : ce = 1 ∨ ce = 4 ∨ (10 ≤ ce ∧ ce ≤ 17)) (hp : PK φ α M c o m ce) (h : Q (lookF rm (α 233) c o m ce) φ α) : eX11_qPartOf (d + 3) (tauF ce - 40) c φ α Q := by
  have hn := G.2.2.2.2.2.2
  have hce : ce = 1 ∨ ce = 4 ∨ ce = 10 ∨ ce = 11 ∨ ce = 12 ∨ ce = 13 ∨ ce = 14 ∨ ce = 15 ∨ ce = 16 ∨ ce = 17 := by omega
  rcases hce with rfl | rfl | rfl | rfl | rfl | rfl | rfl | rfl | rfl | rfl
  · have p := hp.1 (Or.inr rfl)
    refine vX11_qPartOf_0 ⟨fun q => ?_, fun q => ?_, fun q => ?_, fun q => ?_, fun q => ?_, fun q => ?_, fun q => ?_, fun q => ?_, fun q => ?_, fun q => ?_⟩ <;> try (exact absurd q (by decide))
    rw [p.1]; exact h
  · refine vX11_qPartOf_0 ⟨fun q => ?_, fun q => ?_, fun q => ?_, fun q => ?_, fun q => ?_, fun q => ?_, fun q => ?_, fun q => ?_, fun q => ?_, fun q => ?_⟩ <;> try (exact absurd q (by decide))
    exact r_roomOf O hn.1 hc h
  · refine vX11_qPartOf_0 ⟨fun q => ?_, fun q => ?_, fun q => ?_, fun q => ?_, fun q => ?_, fun q => ?_, fun q => ?_, fun q => ?_, fun q => ?_, fun q => ?_⟩ <;> try (exact absurd q (by decide))
    exact r_fullOf G (by omega) h
  · refine vX11_qPartOf_0 ⟨fun q => ?_, fun q => ?_, fun q => ?_, fun q => ?_, fun q => ?_, fun q => ?_, fun q => ?_, fun q => ?_, fun q => ?_, fun q => ?_⟩ <;> try (exact absurd q (by decide))
    exact r_seatOf (by omega) h
  · refine vX11_qPartOf_0 ⟨fun q => ?_, fun q => ?_, fun q => ?_, fun q => ?_, fun q => ?_, fun q => ?_, fun q => ?_, fun q => ?_, fun q => ?_, fun q => ?_⟩ <;> try (exact absurd q (by decide))
    exact h
  · have p := hp.1 (Or.inl rfl)
    refine vX11_qPartOf_0 ⟨fun q => ?_, fun q => ?_, fun q => ?_, fun q => ?_, fun q => ?_, fun q => ?_, fun q => ?_, fun q => ?_, fun q => ?_, fun q => ?_⟩ <;> try (exact absurd q (by decide))
    rw [p.1]
    refine r_dropsOf (by omega) p.2 ?_
    have e : lookF rm (α 233) c o m 13 = if 0 ≤ m ∧ m < 4 then α 233 (2 + 5 * c + m) else 0 := rfl
    rw [e, if_pos p.2] at h
    exact h
  · have p := hp.2.1 (Or.inl rfl)
    refine vX11_qPartOf_0 ⟨fun q => ?_, fun q => ?_, fun q => ?_, fun q => ?_, fun q => ?_, fun q => ?_, fun q => ?_, fun q => ?_, fun q => ?_, fun q => ?_⟩ <;> try (exact absurd q (by decide))
    rw [p]
    exact r_spaceOf O G hrm ho h
  · have p := hp.2.1 (Or.inr rfl)
    refine vX11_qPartOf_0 ⟨fun q => ?_, fun q => ?_, fun q => ?_, fun q => ?_, fun q => ?_, fun q => ?_, fun q => ?_, fun q => ?_, fun q => ?_, fun q => ?_⟩ <;> try (exact absurd q (by decide))
    rw [p]
    exact r_apart G hc ho h
  · refine vX11_qPartOf_0 ⟨fun q => ?_, fun q => ?_, fun q => ?_, fun q => ?_, fun q => ?_, fun q => ?_, fun q => ?_, fun q => ?_, fun q => ?_, fun q => ?_⟩ <;> try (exact absurd q (by decide))
    exact h
  · have p := hp.2.2 rfl
    refine vX11_qPartOf_0 ⟨fun q => ?_, fun q => ?_, fun q => ?_, fun q => ?_, fun q => ?_, fun q => ?_, fun q => ?_, fun q => ?_, fun q => ?_, fun q => ?_⟩ <;> try (exact absurd q (by decide))
    exact r_mMind O.1 hn.2.1 (by omega) (by rw [p]; exact h)
theorem r_qOf (O : MO α n M ns rm) (G : GS n M ns rm (α 233)) (hc : 0 ≤ c ∧ c < n) (hce : ce = 30 ∨ ce = 31) (h : Q (turnF n M (α 233) c ce v) φ α) : eX11_qOf (d + 3) (tauF ce - 60) v c φ α Q := by
  have hn := G.2.2.2.2.2.2
  rcases hce with rfl | rfl
  · have e : turnF n M (α 233) c 30 v = if 0 ≤ v ∧ v < M then α 233 (2 + 5 * c + v) else 0 := rfl
    rw [e] at h
    refine vX11_qOf_0 ⟨fun _ => r_isMatter O.1 hn.2.1 ?_, fun q => absurd rfl q⟩
    by_cases z : 0 ≤ v ∧ v < M
    · rw [if_pos z] at h; rw [if_pos z]
      exact ⟨fun q => by omega, fun _ => ⟨by unfold inR; omega, r_dropsOf (by omega) (by omega) h⟩⟩
    · rw [if_neg z] at h; rw [if_neg z]
      exact ⟨fun _ => h, fun q => absurd rfl q⟩
  · have e : turnF n M (α 233) c 31 v = if 0 ≤ v ∧ v < n then absI (α 233 (1 + 5 * c) - α 233 (1 + 5 * v)) else 0 := rfl
    rw [e] at h
    refine vX11_qOf_0 ⟨fun q => absurd q (by decide), fun _ => r_isClerk O.2.1 hn.1 ?_⟩
    by_cases z : 0 ≤ v ∧ v < n
    · rw [if_pos z] at h; rw [if_pos z]
      exact ⟨fun q => by omega, fun _ => ⟨by unfold inR; omega, r_apart G hc z h⟩⟩
    · rw [if_neg z] at h; rw [if_neg z]
      exact ⟨fun _ => h, fun q => absurd rfl q⟩
theorem MO_mp (h : mp φ α φ' α') (O : MO α n M ns rm) : MO α' n M ns rm := by
  unfold MO
  rw [h.2 226 (by omega), h.2 225 (by omega), h.2 228 (by omega)]
  exact O
theorem PK_mp (h : mp φ α φ' α') (p : PK φ α M c o m ce) : PK φ' α' M c o m ce := by
  unfold PK
  rw [h.1 11 50 198 (by omega), h.1 11 51 198 (by omega), h.2 233 (by omega)]
  exact p
/-- the number that stands for a cell with two needs -/
theorem tauF_2 (h : ndF ce = 2) : tauF ce < 12 ∧ 0 < tauF ce := by
  have hce : ce = 18 ∨ ce = 19 ∨ ce = 22 ∨ ce = 23 ∨ ce = 42 ∨ ce = 43 ∨ ce = 45 ∨ ce = 47 ∨ ce = 60 ∨ ce = 61 ∨ ce = 62 := by
    unfold ndF at h
    by_cases e : ce = 18 ∨ ce = 19 ∨ ce = 22 ∨ ce = 23 ∨ ce = 42 ∨ ce = 43 ∨ ce = 45 ∨ ce = 47 ∨ ce = 60 ∨ ce = 61 ∨ ce = 62
    · exact e
    · rw [if_neg e] at h; split at h <;> omega
  rcases hce with rfl | rfl | rfl | rfl | rfl | rfl | rfl | rfl | rfl | rfl | rfl <;> decide
theorem tauF_p (h : ce = 1 ∨ ce = 4 ∨ (10 ≤ ce ∧ ce ≤ 17)) : 40 ≤ tauF ce ∧ tauF ce < 60 := by
  have hce : ce = 1 ∨ ce = 4 ∨ ce = 10 ∨ ce = 11 ∨ ce = 12 ∨ ce = 13 ∨ ce = 14 ∨ ce = 15 ∨ ce = 16 ∨ ce = 17 := by omega
  rcases hce with rfl | rfl | rfl | rfl | rfl | rfl | rfl | rfl | rfl | rfl <;> decide
theorem nd1 (h : ndF ce = 1) : ce = 20 ∨ ce = 30 ∨ ce = 31 := by
  unfold ndF at h
  split at h
  · omega
  · split at h
    · assumption
    · omega
/-- the codes of a law of the registry lie in their row -/
def RC (α : aA) (w f : Int) (cs : List Int) : Prop := α 230 (2 + w) = f ∧ α 231 (2 + w) = f + cs.length ∧ 0 ≤ f ∧ f + cs.length ≤ 1600 ∧ ∀ i : Nat, i < cs.length → α 232 (1600 + f + i) = tauF (cs.getD i 0)
theorem l_codesTell {w : Int} {tf : Bool} (hw : 0 ≤ w ∧ w < 2) (hrm : ∀ c : Int, 0 ≤ c → c < n → 0 ≤ rm c) (hc : 0 ≤ c ∧ c < n) (ho : 0 ≤ o ∧ o < n) (hm : -1 ≤ m ∧ m ≤ 10) : ∀ (cs : List Int) (f : Int) (st : List Int) (ts : List Bool) (φ : aF) (α : aA), α 231 (2 + w) = f + cs.length → 0 ≤ f → f + cs.length ≤ 1600 → (∀ i : Nat, i < cs.length → α 232 (1600 + f + i) = tauF (cs.getD i 0)) → (30 : Int) ∉ cs → (31 : Int) ∉ cs → (∀ ce ∈ cs, PK φ α M c o m ce) → tyL2 ts cs = some [tf] → vsT ts st → ts.length ≤ 60 → φ 11 94 198 = st.length → stM α st → MO α n M ns rm → GS n M ns rm (α 233) → (∀ φ' α' v, mp φ α φ' α' → evL n M rm (α 233) c o m st cs = [v] → vT tf v → Q v φ' α') → jX11_codesTell_19 (d + 4) w c f φ α Q
  | [], f, st, ts, φ, α, h1, h2, h3, h4, n1, n2, hp, ht, hv, hl, hs, hs2, O, G, h => by
    have e : ts = [tf] := by simpa [tyL2] using ht
    subst e
    match st, hv, hs2, h with
    | [], hv, _, _ => exact hv.elim
    | v :: w :: t, hv, _, _ => exact hv.2.elim
    | [v], hv, hs2, h =>
      refine vX11_codesTell_19 ⟨by unfold inR; omega, ⟨by omega, by omega⟩, fun q => ?_, fun q => by simp at h1; omega⟩
      have e : α 265 0 = v := hs2.1
      rw [e]
      exact h φ α v mp.rf rfl hv.1
  | ce :: cs, f, st, ts, φ, α, h1, h2, h3, h4, n1, n2, hp, ht, hv, hl, hs, hs2, O, G, h => by
    have hlen := vsT_len hv
    rw [tyL2] at ht
    cases hty : tyS ts ce with
    | none => rw [hty] at ht; cases ht
    | some ts' =>
    rw [hty] at ht
    have ht : tyL2 ts' cs = some [tf] := ht
    have hcell : α 232 (1600 + f) = tauF ce := by
      have := h4 0 (by simp)
      simpa using this
    have hv' := evS_ty G hrm hc ho hm hty hv
    simp only [List.length_cons] at h1 h3
    have next : ∀ (φ1 : aF) (α1 : aA) (st' : List Int), mp φ α φ1 α1 → evS n M rm (α 233) c o m st ce = st' → φ1 11 94 198 = st'.length → stM α1 st' → ts'.length ≤ 60 → jX11_codesTell_19 (d + 4) w c (f + 1) φ1 α1 Q := by
      intro φ1 α1 st' ha he hl1 hs1 hl2
      have e233 : α1 233 = α 233 := ha.2 233 (by omega)
      refine l_codesTell hw hrm hc ho hm cs (f + 1) st' ts' φ1 α1 (by rw [ha.2 231 (by omega)]; omega) (by omega) (by omega) (fun i hi => by
          rw [ha.2 232 (by omega)]
          have := h4 (i + 1) (by simp; omega)
          rw [show 1600 + (f + 1) + (i : Int) = 1600 + f + ((i + 1 : Nat) : Int) by omega, this]
          simp) (fun q => n1 (List.mem_cons_of_mem _ q)) (fun q => n2 (List.mem_cons_of_mem _ q)) (fun x hx => PK_mp ha (hp x (List.mem_cons_of_mem _ hx))) ht (by rw [← he]; exact hv') hl2 hl1 hs1 (MO_mp ha O) (by rw [e233]; exact G) (fun φ' α' v q1 q2 q3 => h φ' α' v (ha.tr q1) (by rw [e233] at q2; show evL n M rm (α 233) c o m (evS n M rm (α 233) c o m st ce) cs = [v]; rw [he]; exact q2) q3)
    refine vX11_codesTell_19 ⟨by unfold inR; omega, ⟨by omega, by omega⟩, fun q => by omega, fun q => ⟨by unfold inR; omega, ⟨by omega, by omega⟩, ?_⟩⟩
    rw [hcell]
    rcases tyS_cases hty with ⟨h2', t, tl, rfl, k1, u, rfl, k2⟩ | ⟨h1', t, tl, rfl, rfl, k1⟩ | ⟨h0, hl0, hc0, k1⟩
    · match st, hv, hs, hs2, hlen, next with
      | [], hv, _, _, _, _ => exact hv.elim
      | [_], hv, _, _, _, _ => exact hv.2.elim
      | y :: x :: st, hv, hs, hs2, hlen, next =>
        have t2 := tauF_2 h2'
        simp only [List.length_cons] at hlen hl
        refine ⟨fun _ => ⟨fun _ => ⟨fun _ => ⟨fun _ => ?_, fun q => by omega⟩, fun q => by omega⟩, fun q => by omega⟩, fun q => by omega⟩
        refine r_qJoins h2' hs (by omega) hs2 ⟨fun q => ?_, fun q => ?_⟩ (fun φ' α' p1 p2 p3 => ⟨by unfold inR; omega, next φ' α' _ p1 (by unfold evS; rw [if_neg (by omega), if_neg (by omega)]) p2 p3 (by simp; omega)⟩)
        · have e := k1.mp q
          subst e
          exact ⟨vT_t.mp hv.2.1, vT_t.mp hv.1⟩
        · have e : t = false := by
            cases t with
            | false => rfl
            | true => exact absurd (k1.mpr rfl) q
          subst e
          exact ⟨vT_f.mp hv.2.1, vT_f.mp hv.1⟩
    · have hce : ce = 20 := by
        rcases nd1 h1' with e | e | e
        · exact e
        · subst e; exact absurd (List.mem_cons_self) n1
        · subst e; exact absurd (List.mem_cons_self) n2
      subst hce
      match st, hv, hs, hs2, hlen, next with
      | [], hv, _, _, _, _ => exact hv.elim
      | v :: st, hv, hs, hs2, hlen, next =>
        simp only [List.length_cons] at hlen hl
        have hs : φ 11 94 198 = (st.length : Int) + 1 := by rw [hs]; simp
        have ev : α 265 ((st.length : Int) + 1 - 1) = v := by rw [Int.add_sub_cancel]; exact hs2.1
        have hvb : v = 0 ∨ v = 1 := by
          have := k1.mpr rfl
          subst this
          exact vT_t.mp hv.1
        refine ⟨fun _ => ⟨fun _ => ⟨fun _ => ⟨fun q => absurd rfl q, fun _ => ?_⟩, fun q => absurd q (by decide)⟩, fun q => absurd q (by decide)⟩, fun q => absurd q (by decide)⟩
        rw [hs, ev]
        refine ⟨by unfold inR; omega, ⟨by omega, by omega⟩, by unfold inJ; omega, by unfold inR; omega, ?_⟩
        refine next φ _ ((1 - v) :: st) mp_a (by unfold evS; rw [if_neg (by decide), if_pos h1']; rfl) (by rw [hs]; simp) ⟨?_, ?_⟩ (by simpa using hl)
        · rw [Int.add_sub_cancel, upa_eq]
        · exact stM_up (by omega) hs2.2
    · have hl1 : ts'.length ≤ 60 := by rcases k1 with ⟨-, rfl⟩ | ⟨-, rfl⟩ <;> simp <;> omega
      have fin : ∀ {d1 : Nat} (v : Int), v = lookF rm (α 233) c o m ce → eX11_qPuts d1 v φ α (fun r23 φ23 α23 => inR (f + 1) ∧ jX11_codesTell_19 (d + 4) w c (f + 1) φ23 α23 Q) := fun v e => by
        subst e
        exact r_qPuts (st := st) hs (by omega) hs2 (fun φ' α' p1 p2 p3 => ⟨by unfold inR; omega, next φ' α' _ p1 (by unfold evS; rw [if_pos h0]) p2 p3 hl1⟩)
      rcases tyS_nd0 hty h0 with z | z | z
      · subst z
        exact ⟨fun _ => ⟨fun _ => ⟨fun q => absurd rfl q, fun _ => fin 1 rfl⟩, fun q => absurd q (by decide)⟩, fun q => absurd q (by decide)⟩
      · have et : tauF ce = ce := by unfold tauF; rw [if_pos z.1]
        rw [et]
        exact ⟨fun q => by omega, fun _ => ⟨by unfold inR; omega, fin _ (by unfold lookF; rw [if_pos z.1])⟩⟩
      · have tp := tauF_p z
        refine ⟨fun _ => ⟨fun q => by omega, fun _ => ⟨by unfold inR; omega, ?_⟩⟩, fun q => by omega⟩
        exact r_qPartOf O G hrm hc ho z (hp ce List.mem_cons_self) (fin _ rfl)
theorem r_codesTell {w f : Int} {tf : Bool} {cs : List Int} (hw : 0 ≤ w ∧ w < 2) (hrm : ∀ c : Int, 0 ≤ c → c < n → 0 ≤ rm c) (hc : 0 ≤ c ∧ c < n) (ho : 0 ≤ o ∧ o < n) (hm : -1 ≤ m ∧ m ≤ 10) (hC : RC α w f cs) (n1 : (30 : Int) ∉ cs) (n2 : (31 : Int) ∉ cs) (hp : ∀ ce ∈ cs, PK φ α M c o m ce) (ht : tyL2 [] cs = some [tf]) (O : MO α n M ns rm) (G : GS n M ns rm (α 233)) (h : ∀ φ' α' v, (∀ c f o, ¬ (c = 11 ∧ (f = 94 ∨ f = 47)) → φ' c f o = φ c f o) → (∀ a : Int, a ≠ 265 → α' a = α a) → evL n M rm (α 233) c o m [] cs = [v] → vT tf v → Q v φ' α') : eX11_codesTell (d + 4) w c φ α Q := by
  refine vX11_codesTell_0 ⟨by unfold inR; omega, ⟨by omega, by omega⟩, ?_⟩
  have e : ∀ c f o, ¬ (c = 11 ∧ (f = 94 ∨ f = 47)) → upf (upf φ 11 47 198 w) 11 94 198 0 c f o = φ c f o := fun c f o q => by rw [upf_o (by omega), upf_o (by omega)]
  rw [hC.1]
  refine l_codesTell hw hrm hc ho hm cs f [] [] _ α hC.2.1 hC.2.2.1 hC.2.2.2.1 hC.2.2.2.2 n1 n2 (fun ce hce => ?_) ht trivial (by simp) (by rw [upf_s]; rfl) trivial O G (fun φ' α' v q1 q2 q3 => h φ' α' v (fun c f o q => (q1.1 c f o (by omega)).trans (e c f o q)) q1.2 q2 q3)
  have := hp ce hce
  unfold PK at this ⊢
  rw [e _ _ _ (by omega), e _ _ _ (by omega)]
  exact this
theorem l_qTold {tf : Bool} {N : Nat} (hrm : ∀ c : Int, 0 ≤ c → c < n → 0 ≤ rm c) (hc : 0 ≤ c ∧ c < n) (hm : -1 ≤ m ∧ m ≤ 10) (hN : N ≤ 1600) : ∀ (cs : List Int) (k : Nat) (st : List Int) (ts : List Bool) (φ : aF) (α : aA), k + cs.length = N → φ 11 88 198 = N → (∀ i : Nat, i < cs.length → α 263 ((k + i : Nat) : Int) = tauF (cs.getD i 0)) → (∀ ce ∈ cs, PK φ α M c c m ce) → tyL2 ts cs = some [tf] → vsT ts st → ts.length ≤ 60 → φ 11 94 198 = st.length → stM α st → MO α n M ns rm → GS n M ns rm (α 233) → (∀ φ' α' v, mp φ α φ' α' → evL n M rm (α 233) c c m st cs = [v] → vT tf v → Q v φ' α') → jX11_qTold_7 (d + 4) c k φ α Q
  | [], k, st, ts, φ, α, h1, h2, h4, hp, ht, hv, hl, hs, hs2, O, G, h => by
    have e : ts = [tf] := by simpa [tyL2] using ht
    subst e
    match st, hv, hs2, h with
    | [], hv, _, _ => exact hv.elim
    | v :: w :: t, hv, _, _ => exact hv.2.elim
    | [v], hv, hs2, h =>
      refine vX11_qTold_7 ⟨fun q => ?_, fun q => by simp at h1; omega⟩
      have e : α 265 0 = v := hs2.1
      rw [e]
      exact h φ α v mp.rf rfl hv.1
  | ce :: cs, k, st, ts, φ, α, h1, h2, h4, hp, ht, hv, hl, hs, hs2, O, G, h => by
    have hlen := vsT_len hv
    rw [tyL2] at ht
    cases hty : tyS ts ce with
    | none => rw [hty] at ht; cases ht
    | some ts' =>
    rw [hty] at ht
    have ht : tyL2 ts' cs = some [tf] := ht
    have hcell : α 263 (k : Int) = tauF ce := by
      have := h4 0 (by simp)
      simpa using this
    have hv' := evS_ty G hrm hc hc hm hty hv
    simp only [List.length_cons] at h1
    have next : ∀ (φ1 : aF) (α1 : aA) (st' : List Int), mp φ α φ1 α1 → evS n M rm (α 233) c c m st ce = st' → φ1 11 94 198 = st'.length → stM α1 st' → ts'.length ≤ 60 → jX11_qTold_7 (d + 4) c ((k : Int) + 1) φ1 α1 Q := by
      intro φ1 α1 st' ha he hl1 hs1 hl2
      have e233 : α1 233 = α 233 := ha.2 233 (by omega)
      have := l_qTold hrm hc hm hN cs (k + 1) st' ts' φ1 α1 (by omega) (by rw [ha.1 _ _ _ (by omega)]; exact h2) (fun i hi => by
          rw [ha.2 263 (by omega)]
          have := h4 (i + 1) (by simp; omega)
          rw [show k + 1 + i = k + (i + 1) by omega, this]
          simp) (fun x hx => PK_mp ha (hp x (List.mem_cons_of_mem _ hx))) ht (by rw [← he]; exact hv') hl2 hl1 hs1 (MO_mp ha O) (by rw [e233]; exact G) (fun φ' α' v q1 q2 q3 => h φ' α' v (ha.tr q1) (by rw [e233] at q2; show evL n M rm (α 233) c c m (evS n M rm (α 233) c c m st ce) cs = [v]; rw [he]; exact q2) q3)
      simpa using this
    refine vX11_qTold_7 ⟨fun q => by omega, fun q => ⟨⟨by omega, by omega⟩, ?_⟩⟩
    rw [hcell]
    rcases tyS_cases hty with ⟨h2', t, tl, rfl, k1, u, rfl, k2⟩ | ⟨h1', t, tl, rfl, rfl, k1⟩ | ⟨h0, hl0, hc0, k1⟩
    · match st, hv, hs, hs2, hlen, next with
      | [], hv, _, _, _, _ => exact hv.elim
      | [_], hv, _, _, _, _ => exact hv.2.elim
      | y :: x :: st, hv, hs, hs2, hlen, next =>
        have t2 := tauF_2 h2'
        simp only [List.length_cons] at hlen hl
        refine ⟨fun _ => ⟨fun _ => ⟨fun _ => ⟨fun _ => ⟨fun _ => ?_, fun q => by omega⟩, fun q => by omega⟩, fun q => by omega⟩, fun q => by omega⟩, fun q => by omega⟩
        refine r_qJoins h2' hs (by omega) hs2 ⟨fun q => ?_, fun q => ?_⟩ (fun φ' α' p1 p2 p3 => ⟨by unfold inR; omega, next φ' α' _ p1 (by unfold evS; rw [if_neg (by omega), if_neg (by omega)]) p2 p3 (by simp; omega)⟩)
        · have e := k1.mp q
          subst e
          exact ⟨vT_t.mp hv.2.1, vT_t.mp hv.1⟩
        · have e : t = false := by
            cases t with
            | false => rfl
            | true => exact absurd (k1.mpr rfl) q
          subst e
          exact ⟨vT_f.mp hv.2.1, vT_f.mp hv.1⟩
    · match st, hv, hv', hs, hs2, hlen, next with
      | [], hv, _, _, _, _, _ => exact hv.elim
      | v :: st, hv, hv', hs, hs2, hlen, next =>
        simp only [List.length_cons] at hlen hl
        have hs : φ 11 94 198 = (st.length : Int) + 1 := by rw [hs]; simp
        have ev : α 265 ((st.length : Int) + 1 - 1) = v := by rw [Int.add_sub_cancel]; exact hs2.1
        have eS : evS n M rm (α 233) c c m (v :: st) ce = turnF n M (α 233) c ce v :: st := by unfold evS; rw [if_neg (by omega), if_pos h1']
        have go : jX11_qTold_7 (d + 4) c ((k : Int) + 1) φ (upa α 265 ((st.length : Int) + 1 - 1) (turnF n M (α 233) c ce v)) Q := by
          refine next φ _ (turnF n M (α 233) c ce v :: st) mp_a eS (by rw [hs]; simp) ⟨?_, ?_⟩ (by simpa using hl)
          · rw [Int.add_sub_cancel, upa_eq]
          · exact stM_up (by omega) hs2.2
        rcases (show ce = 20 ∨ (ce = 30 ∨ ce = 31) by have := nd1 h1'; omega) with e | e
        · subst e
          have hvb : v = 0 ∨ v = 1 := by
            have := k1.mpr rfl
            subst this
            exact vT_t.mp hv.1
          refine ⟨fun _ => ⟨fun _ => ⟨fun _ => ⟨fun _ => ⟨fun q => absurd rfl q, fun _ => ?_⟩, fun q => absurd q (by decide)⟩, fun q => absurd q (by decide)⟩, fun q => absurd q (by decide)⟩, fun q => absurd q (by decide)⟩
          rw [hs, ev]
          exact ⟨by unfold inR; omega, ⟨by omega, by omega⟩, by unfold inJ; omega, by unfold inR; omega, go⟩
        · have te : 60 ≤ tauF ce ∧ tauF ce < 1000 := by rcases e with rfl | rfl <;> decide
          refine ⟨fun _ => ⟨fun q => by omega, fun _ => ?_⟩, fun q => by omega⟩
          rw [hs, ev]
          refine ⟨by unfold inR; omega, by unfold inR; omega, ⟨by omega, by omega⟩, r_qOf O G hc e (r_qClip ⟨⟨by omega, by omega⟩, by unfold inR; omega, ?_⟩)⟩
          have et : t = false := by
            cases t with
            | false => rfl
            | true => have := k1.mp rfl; omega
          subst et
          rw [eS] at hv'
          have hb := vT_f.mp hv'.1
          have ec : clp (turnF n M (α 233) c ce v) = turnF n M (α 233) c ce v := by unfold clp; omega
          rw [ec]
          exact go
    · have hl1 : ts'.length ≤ 60 := by rcases k1 with ⟨-, rfl⟩ | ⟨-, rfl⟩ <;> simp <;> omega
      have hb := lookF_bd (cell := ce) G hrm hc hc hm hc0
      have fin : ∀ {d1 : Nat} (v : Int), v = lookF rm (α 233) c c m ce → eX11_qPuts d1 v φ α (fun r23 φ23 α23 => inR ((k : Int) + 1) ∧ jX11_qTold_7 (d + 4) c ((k : Int) + 1) φ23 α23 Q) := fun v e => by
        subst e
        exact r_qPuts (st := st) hs (by omega) hs2 (fun φ' α' p1 p2 p3 => ⟨by unfold inR; omega, next φ' α' _ p1 (by unfold evS; rw [if_pos h0]) p2 p3 hl1⟩)
      rcases tyS_nd0 hty h0 with z | z | z
      · subst z
        exact ⟨fun _ => ⟨fun _ => ⟨fun _ => ⟨fun q => absurd rfl q, fun _ => fin 1 rfl⟩, fun q => absurd q (by decide)⟩, fun q => absurd q (by decide)⟩, fun q => absurd q (by decide)⟩
      · have et : tauF ce = ce := by unfold tauF; rw [if_pos z.1]
        rw [et]
        exact ⟨fun q => by omega, fun _ => ⟨by unfold inR; omega, fin _ (by unfold lookF; rw [if_pos z.1])⟩⟩
      · have tp := tauF_p z
        refine ⟨fun _ => ⟨fun _ => ⟨fun q => by omega, fun _ => ⟨by unfold inR; omega, ?_⟩⟩, fun q => by omega⟩, fun q => by omega⟩
        refine r_qPartOf O G hrm hc hc z (hp ce List.mem_cons_self) (r_qClip ?_)
        have ec : clp (lookF rm (α 233) c c m ce) = lookF rm (α 233) c c m ce := by unfold clp; omega
        rw [ec]
        exact fin _ rfl
theorem r_qTold {tf : Bool} {cs : List Int} (hrm : ∀ c : Int, 0 ≤ c → c < n → 0 ≤ rm c) (hc : 0 ≤ c ∧ c < n) (hm : -1 ≤ m ∧ m ≤ 10) (hN : cs.length ≤ 1600) (h1 : φ 11 88 198 = cs.length) (h4 : ∀ i : Nat, i < cs.length → α 263 (i : Int) = tauF (cs.getD i 0)) (hp : ∀ ce ∈ cs, PK φ α M c c m ce) (ht : tyL2 [] cs = some [tf]) (O : MO α n M ns rm) (G : GS n M ns rm (α 233)) (h : ∀ φ' α' v, mp φ α φ' α' → evL n M rm (α 233) c c m [] cs = [v] → vT tf v → Q v φ' α') : eX11_qTold (d + 4) c φ α Q := by
  refine vX11_qTold_0 ?_
  have := l_qTold (d := d) (Q := Q) hrm hc hm hN cs 0 [] [] (upf φ 11 94 198 0) α (by omega) (by rw [upf_o (by omega)]; exact h1) (fun i hi => by rw [Nat.zero_add]; exact h4 i hi) (fun ce hce => PK_mp mp_f (hp ce hce)) ht trivial (by simp) (by rw [upf_s]; rfl) trivial O G (fun φ' α' v q1 q2 q3 => h φ' α' v (mp_f.tr q1) q2 q3)
  simpa using this
end R3
