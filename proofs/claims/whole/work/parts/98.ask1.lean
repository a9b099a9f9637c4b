/-! questions: the answers gathered -/
/-- kind k (0 first, 1 last, 2 often, 3 total, 4 most, 5 least) over the first x clerks -/
def agF (k : Int) (wv : Nat → Int) : Nat → Int
  | 0 => if k < 2 then -1 else 0
  | x + 1 => if k = 0 then (if wv x = 1 ∧ agF k wv x = -1 then (x : Int) else agF k wv x) else if k = 1 then (if wv x = 1 then (x : Int) else agF k wv x) else if k = 2 then (if wv x = 1 then agF k wv x + 1 else agF k wv x) else if k = 3 then agF k wv x + wv x else if x = 0 then wv x else if k = 4 then max (agF k wv x) (wv x) else min (agF k wv x) (wv x)
def wvF (n M : Nat) (rm nw : Int → Int) (cs : List Int) (c : Nat) : Int := (evL n M rm nw c c (mdF nw c 4).1 [] cs).headD 0
section AG
variable {d j n M ns N p : Nat} {φ φ' φ0 φ1 φ2 : aF} {α α' α0 α1 α2 : aA} {Q : Int → aF → aA → Prop} {k x1 e : Int} {rm nw sr T : Int → Int} {cs ct : List Int} {wv : Nat → Int}
theorem ag_bd (hv : ∀ c : Nat, c < n → -1000000 ≤ wv c ∧ wv c ≤ 1000000) (hk : 0 ≤ k ∧ k ≤ 5) : ∀ x : Nat, x ≤ n → -1000000 * ((x : Int) + 1) ≤ agF k wv x ∧ agF k wv x ≤ 1000000 * ((x : Int) + 1) ∧ (k < 2 → -1 ≤ agF k wv x ∧ agF k wv x ≤ x) ∧ (k = 2 → 0 ≤ agF k wv x ∧ agF k wv x ≤ x)
  | 0, _ => by
    unfold agF
    split <;> omega
  | x + 1, hx => by
    have ih := ag_bd hv hk x (by omega)
    have v := hv x (by omega)
    rw [agF]
    generalize agF k wv x = a at ih ⊢
    generalize wv x = w at v ⊢
    repeat' split
    all_goals omega
/-- the reference's step -/
theorem r_qTakes {x : Nat} (hk : 0 ≤ k ∧ k ≤ 5) (hx : x ≤ 7) (ha : φ 11 95 198 = agF k wv x) (hw : φ 11 96 198 = (if x = 0 then 1 else 0)) (hv : -1000000 ≤ wv x ∧ wv x ≤ 1000000) (hb : -8000000 ≤ agF k wv x ∧ agF k wv x ≤ 8000000) (ht : k < 3 → wv x = 0 ∨ wv x = 1) (h : ∀ φ', (∀ c f o, ¬ (c = 11 ∧ (f = 95 ∨ f = 96)) → φ' c f o = φ c f o) → φ' 11 95 198 = agF k wv (x + 1) → φ' 11 96 198 = 0 → Q 0 φ' α) : eX11_qTakes d k (wv x) x φ α Q := by
  have e1 : agF k wv (x + 1) = if k = 0 then (if wv x = 1 ∧ agF k wv x = -1 then (x : Int) else agF k wv x) else if k = 1 then (if wv x = 1 then (x : Int) else agF k wv x) else if k = 2 then (if wv x = 1 then agF k wv x + 1 else agF k wv x) else if k = 3 then agF k wv x + wv x else if x = 0 then wv x else if k = 4 then max (agF k wv x) (wv x) else min (agF k wv x) (wv x) := rfl
  rw [e1] at h
  clear e1
  generalize agF k wv x = a at *
  generalize wv x = v at *
  have keep : ∀ r : Int, r = a → r = (if k = 0 then (if v = 1 ∧ a = -1 then (x : Int) else a) else if k = 1 then (if v = 1 then (x : Int) else a) else if k = 2 then (if v = 1 then a + 1 else a) else if k = 3 then a + v else if x = 0 then v else if k = 4 then max a v else min a v) → Q 0 (upf φ 11 96 198 0) α := fun r hr hr2 => h _ (fun c f o q => upf_o (by omega)) (by rw [upf_o (by omega), ha]; exact hr.symm.trans hr2) upf_s
  have put : ∀ r : Int, r = (if k = 0 then (if v = 1 ∧ a = -1 then (x : Int) else a) else if k = 1 then (if v = 1 then (x : Int) else a) else if k = 2 then (if v = 1 then a + 1 else a) else if k = 3 then a + v else if x = 0 then v else if k = 4 then max a v else min a v) → Q 0 (upf (upf φ 11 95 198 r) 11 96 198 0) α := fun r hr => h _ (fun c f o q => by rw [upf_o (by omega), upf_o (by omega)]) (by rw [upf_o (by omega), upf_s]; exact hr) upf_s
  have up6 : ∀ r : Int, upf φ 11 95 198 r 11 96 198 = φ 11 96 198 := fun r => upf_o (by omega)
  have up5 : ∀ r : Int, upf φ 11 95 198 r 11 95 198 = r := fun r => upf_s
  have e133 : ∀ φ' : aF, Q 0 (upf φ' 11 96 198 0) α → jX11_qTakes_133 d φ' α Q := fun φ' w => vX11_qTakes_133 w
  have e90 : ∀ φ' : aF, k ≤ 3 → Q 0 (upf φ' 11 96 198 0) α → jX11_qTakes_90 d k v φ' α Q := fun φ' q w => vX11_qTakes_90 ⟨fun _ => e133 φ' w, fun z => absurd q z⟩
  have e75 : ∀ φ' : aF, k < 3 → Q 0 (upf φ' 11 96 198 0) α → jX11_qTakes_75 d k v φ' α Q := fun φ' q w => vX11_qTakes_75 ⟨fun _ => e90 φ' (by omega) w, fun z => by omega⟩
  have e55 : ∀ (φ' : aF) (b : Int), k < 2 → Q 0 (upf φ' 11 96 198 0) α → jX11_qTakes_55 d k v b φ' α Q := fun φ' b q w => vX11_qTakes_55 ⟨fun _ => e75 φ' (by omega) w, fun z => by omega⟩
  have f55 : k = 2 → ∀ b : Int, (b = 0 ∧ v = 0 ∨ b = 1 ∧ v = 1) → jX11_qTakes_55 d k v b φ α Q := fun q b hb2 => vX11_qTakes_55 ⟨fun z => absurd q z, fun _ => ⟨fun z => e75 φ (by omega) (keep a rfl (by rw [if_neg (by omega), if_neg (by omega), if_pos q, if_neg (by omega)])), fun z => ⟨by unfold inJ; omega, by
    rw [ha]
    exact e75 _ (by omega) (put _ (by rw [if_neg (by omega), if_neg (by omega), if_pos q, if_pos (by omega)]))⟩⟩⟩
  have g55 : 3 ≤ k → jX11_qTakes_55 d k v 0 φ α Q := fun q => by
    refine vX11_qTakes_55 ⟨fun _ => vX11_qTakes_75 ⟨fun z => ?_, fun z => ⟨by unfold inJ; omega, ?_⟩⟩, fun z => by omega⟩
    · refine vX11_qTakes_90 ⟨fun z2 => by omega, fun _ => ⟨fun z2 => ?_, fun z2 => ?_⟩⟩
      · have hx0 : x = 0 := by rw [hw] at z2; split at z2; (· assumption); (· exact absurd rfl z2)
        exact e133 _ (put v (by rw [if_neg (by omega), if_neg (by omega), if_neg (by omega), if_neg (by omega), if_pos hx0]))
      · have hx0 : x ≠ 0 := fun q => by rw [hw, if_pos q] at z2; omega
        have vv : (if k = 0 then (if v = 1 ∧ a = -1 then (x : Int) else a) else if k = 1 then (if v = 1 then (x : Int) else a) else if k = 2 then (if v = 1 then a + 1 else a) else if k = 3 then a + v else if x = 0 then v else if k = 4 then max a v else min a v) = if k = 4 then max a v else min a v := by rw [if_neg (by omega), if_neg (by omega), if_neg (by omega), if_neg (by omega), if_neg hx0]
        rw [ha]
        refine ⟨fun z4 => ⟨fun z5 => ?_, fun z5 => ?_⟩, fun z4 => ⟨fun z5 => ?_, fun z5 => ?_⟩⟩
        · rw [j3_ge] at z5; exact e133 _ (keep a rfl (by rw [vv, if_neg z4]; omega))
        · rw [j3_ge] at z5; exact e133 _ (put v (by rw [vv, if_neg z4]; omega))
        · rw [j3_le] at z5; exact e133 _ (keep a rfl (by rw [vv, if_pos z4]; omega))
        · rw [j3_le] at z5; exact e133 _ (put v (by rw [vv, if_pos z4]; omega))
    · rw [ha]
      exact e90 _ (by omega) (put _ (by rw [if_neg (by omega), if_neg (by omega), if_neg (by omega), if_pos z]))
  refine vX11_qTakes_0 ⟨fun q => ?_, fun q => ?_⟩
  · exact ⟨fun _ => ⟨fun _ => g55 q, fun z => by omega⟩, fun z => by omega⟩
  · have tv := ht (by omega)
    refine ⟨fun z => ?_, fun z => ?_⟩
    · rw [j3_zero] at z
      have k0 : k < 2 → jX11_qTakes_55 d k v 0 φ α Q := fun q2 => e55 φ 0 q2 (keep a rfl (by
        by_cases q3 : k = 0
        · rw [if_pos q3, if_neg (by omega)]
        · rw [if_neg q3, if_pos (by omega), if_neg z]))
      exact ⟨fun z0 => ⟨fun z1 => f55 (by omega) 0 (by omega), fun z1 => k0 (by omega)⟩, fun z0 => ⟨fun z1 => k0 (by omega), fun z1 => by omega⟩⟩
    · rw [j3_zero] at z
      refine ⟨fun z0 => ⟨fun z1 => f55 (by omega) 1 (by omega), fun z1 => e55 _ 1 (by omega) (put _ (by rw [if_neg z0, if_pos z1, if_pos z]))⟩, fun z0 => ?_⟩
      rw [j3_zero, ha]
      exact ⟨fun z1 => e55 _ 1 (by omega) (put _ (by rw [if_pos z0, if_pos ⟨z, z1⟩])), fun z1 => ⟨fun _ => e55 _ 1 (by omega) (keep a rfl (by rw [if_pos z0, if_neg (by intro w; exact z1 w.2)])), fun z2 => by omega⟩⟩
theorem evL_ty (G : GS n M ns rm nw) (hrm : ∀ c : Int, 0 ≤ c → c < n → 0 ≤ rm c) {c o m : Int} (hc : 0 ≤ c ∧ c < n) (ho : 0 ≤ o ∧ o < n) (hm : -1 ≤ m ∧ m ≤ 10) : ∀ (cs : List Int) (ts ts' : List Bool) (st : List Int), tyL2 ts cs = some ts' → vsT ts st → vsT ts' (evL n M rm nw c o m st cs)
  | [], ts, ts', st, h, hv => by cases h; exact hv
  | x :: cs, ts, ts', st, h, hv => by
    rw [tyL2] at h
    cases q : tyS ts x with
    | none => rw [q] at h; cases h
    | some t =>
      rw [q] at h
      exact evL_ty G hrm hc ho hm cs t ts' _ h (evS_ty G hrm hc ho hm q hv)
theorem wv_ty {tf : Bool} (G : GS n M ns rm nw) (hrm : ∀ c : Int, 0 ≤ c → c < n → 0 ≤ rm c) (ht : tyL2 [] cs = some [tf]) (c : Nat) (hc : c < n) : evL n M rm nw c c (mdF nw c 4).1 [] cs = [wvF n M rm nw cs c] ∧ vT tf (wvF n M rm nw cs c) := by
  have md := md_bd (nw := nw) (c := (c : Int)) 4
  have w := evL_ty G hrm (c := (c : Int)) (o := (c : Int)) (m := (mdF nw c 4).1) (by omega) (by omega) (by omega) cs [] [tf] [] ht trivial
  unfold wvF
  generalize evL n M rm nw c c (mdF nw c 4).1 [] cs = L at w ⊢
  match L, w with
  | [v], w => exact ⟨rfl, w.1⟩
theorem vT_01 {v : Int} (h : vT true v) : v = 0 ∨ v = 1 := by unfold vT at h; rwa [if_pos rfl] at h
theorem vT_mm {v : Int} {tf : Bool} (h : vT tf v) : -1000000 ≤ v ∧ v ≤ 1000000 := by
  unfold vT at h
  split at h <;> omega
theorem l_count (hx : x1 = 24 ∨ x1 = 25 ∨ x1 = 26) (hn : n ≤ 7) (X : XS 29 φ α n nw) (G : GS n M ns rm nw) (O : XO φ α n M ns rm) (hrm : ∀ c : Int, 0 ≤ c → c < n → 0 ≤ rm c) (h1 : ∀ i : Nat, i < cs.length → α 8 (i : Int) = cs.getD i 0) (h2 : φ 6 1 7 = cs.length) (h3 : cs.length ≤ 1600) (ht : tyL2 [] cs = some [true]) (h : ∀ α', (∀ a, a ≠ 189 → α' a = α a) → Q (agF (x1 - 24) (wvF n M rm nw cs) n) φ α') : ∀ (r x : Nat), x + r = n → ∀ α1 : aA, (∀ a, a ≠ 189 → α1 a = α a) → jX10_countHolding_10 (d + 4) x1 (agF 2 (wvF n M rm nw cs) x) (agF 0 (wvF n M rm nw cs) x) (agF 1 (wvF n M rm nw cs) x) x φ α1 Q := by
  intro r
  have O4 := O.2.2.1
  induction r with
  | zero =>
    intro x hx0 α1 ha
    have : x = n := by omega
    subst this
    refine vX10_countHolding_10 ⟨fun _ => ⟨fun q1 => ⟨fun q2 => ?_, fun q2 => ?_⟩, fun q1 => ?_⟩, fun q => by omega⟩
    · have := h α1 ha; rwa [show x1 - 24 = 1 by omega] at this
    · have := h α1 ha; rwa [show x1 - 24 = 0 by omega] at this
    · have := h α1 ha; rwa [show x1 - 24 = 2 by omega] at this
  | succ r ih =>
    intro x hx0 α1 ha
    have md := md_bd (nw := nw) (c := (x : Int)) 4
    refine vX10_countHolding_10 ⟨fun q => by omega, fun _ => c_mindOf st29 (XS_sc st29 ha X) (by omega) (c_worth row7 (by omega) st29 (XS_sc st29 ha X) G (XO_of (fun _ _ => rfl) (ha 11 (by omega)) O) hrm (by omega) (by omega) (by omega) (fun i hi => by rw [show (7 : Int) + 1 = 8 by omega, ha 8 (by omega)]; exact h1 i hi) h2 h3 ht (fun α2 v f2 hev hv => ?_))⟩
    have wt := wv_ty G hrm ht x (by omega)
    rw [wt.1] at hev
    have hv2 : v = wvF n M rm nw cs x := by cases hev; rfl
    have b0 := vT_01 wt.2
    subst hv2
    have f3 : ∀ a, a ≠ 189 → α2 a = α a := fun a q => (f2 a q).trans (ha a q)
    have g := ih (x + 1) (by omega) α2 f3
    have bd := ag_bd (k := 2) (wv := wvF n M rm nw cs) (n := n) (fun c hc => vT_mm (wv_ty G hrm ht c hc).2) (by omega) x (by omega)
    have bd0 := ag_bd (k := 0) (wv := wvF n M rm nw cs) (n := n) (fun c hc => vT_mm (wv_ty G hrm ht c hc).2) (by omega) x (by omega)
    have e2 : agF 2 (wvF n M rm nw cs) (x + 1) = if wvF n M rm nw cs x = 1 then agF 2 (wvF n M rm nw cs) x + 1 else agF 2 (wvF n M rm nw cs) x := rfl
    have e0 : agF 0 (wvF n M rm nw cs) (x + 1) = if wvF n M rm nw cs x = 1 ∧ agF 0 (wvF n M rm nw cs) x = -1 then (x : Int) else agF 0 (wvF n M rm nw cs) x := rfl
    have e1 : agF 1 (wvF n M rm nw cs) (x + 1) = if wvF n M rm nw cs x = 1 then (x : Int) else agF 1 (wvF n M rm nw cs) x := rfl
    rw [e2, e0, e1] at g
    generalize wvF n M rm nw cs x = v at *
    refine ⟨fun q => ⟨by unfold inR; omega, ?_⟩, fun q => ⟨by unfold inR; omega, fun q2 => ⟨by unfold inR; omega, ?_⟩, fun q2 => ⟨by unfold inR; omega, ?_⟩⟩⟩
    · rw [if_neg (by omega), if_neg (by omega), if_neg (by omega)] at g; exact g
    · rw [if_pos (by omega), if_neg (by omega), if_pos (by omega)] at g; exact g
    · rw [if_pos (by omega), if_pos (by omega), if_pos (by omega)] at g; exact g
theorem l_gather (hx : x1 = 27 ∨ x1 = 28 ∨ x1 = 29) (hn : n ≤ 7) (X : XS 29 φ α n nw) (G : GS n M ns rm nw) (O : XO φ α n M ns rm) (hrm : ∀ c : Int, 0 ≤ c → c < n → 0 ≤ rm c) (h1 : ∀ i : Nat, i < cs.length → α 8 (i : Int) = cs.getD i 0) (h2 : φ 6 1 7 = cs.length) (h3 : cs.length ≤ 1600) (ht : tyL2 [] cs = some [false]) (h : ∀ α', (∀ a, a ≠ 189 → α' a = α a) → Q (agF (x1 - 24) (wvF n M rm nw cs) n) φ α') : ∀ (r x : Nat), x + r = n → ∀ α1 : aA, (∀ a, a ≠ 189 → α1 a = α a) → jX10_gatherSums_5 (d + 4) x1 (agF (x1 - 24) (wvF n M rm nw cs) x) x φ α1 Q := by
  intro r
  have O4 := O.2.2.1
  induction r with
  | zero =>
    intro x hx0 α1 ha
    have : x = n := by omega
    subst this
    exact vX10_gatherSums_5 ⟨fun _ => h α1 ha, fun q => by omega⟩
  | succ r ih =>
    intro x hx0 α1 ha
    have md := md_bd (nw := nw) (c := (x : Int)) 4
    refine vX10_gatherSums_5 ⟨fun q => by omega, fun _ => c_mindOf st29 (XS_sc st29 ha X) (by omega) (c_worth row7 (by omega) st29 (XS_sc st29 ha X) G (XO_of (fun _ _ => rfl) (ha 11 (by omega)) O) hrm (by omega) (by omega) (by omega) (fun i hi => by rw [show (7 : Int) + 1 = 8 by omega, ha 8 (by omega)]; exact h1 i hi) h2 h3 ht (fun α2 v f2 hev hv => ?_))⟩
    have wt := wv_ty G hrm ht x (by omega)
    rw [wt.1] at hev
    have hv2 : v = wvF n M rm nw cs x := by cases hev; rfl
    have b0 := vT_mm wt.2
    subst hv2
    have f3 : ∀ a, a ≠ 189 → α2 a = α a := fun a q => (f2 a q).trans (ha a q)
    have g := ih (x + 1) (by omega) α2 f3
    have bd := ag_bd (k := x1 - 24) (wv := wvF n M rm nw cs) (n := n) (fun c hc => vT_mm (wv_ty G hrm ht c hc).2) (by omega) x (by omega)
    have a0 : x = 0 → agF (x1 - 24) (wvF n M rm nw cs) x = 0 := fun q => by rw [q, agF, if_neg (by omega)]
    rw [agF, if_neg (by omega), if_neg (by omega), if_neg (by omega)] at g
    generalize wvF n M rm nw cs x = v at *
    refine ⟨fun q => ⟨fun q2 => ⟨fun q3 => c_minL ⟨by unfold inR; omega, ?_⟩, fun q3 => c_maxL ⟨by unfold inR; omega, ?_⟩⟩, fun q2 => ⟨by unfold inJ; omega, by unfold inR; omega, ?_⟩⟩, fun q => ⟨by unfold inR; omega, ?_⟩⟩
    · rw [if_neg (by omega), if_neg (by omega), if_neg (by omega)] at g; exact g
    · rw [if_neg (by omega), if_neg (by omega), if_pos (by omega)] at g; exact g
    · rw [if_pos (by omega)] at g; exact g
    · by_cases q2 : x1 - 24 = 3
      · rw [if_pos q2, a0 (by omega), Int.zero_add] at g; exact g
      · rw [if_neg q2, if_pos (by omega)] at g; exact g
def fqa (φ : aF) (α : aA) (φ' : aF) (α' : aA) : Prop := (∀ c f o, ¬ (c = 11 ∧ (f = 94 ∨ f = 95 ∨ f = 96)) → φ' c f o = φ c f o) ∧ ∀ a : Int, a ≠ 265 → α' a = α a
theorem l_ask {tf : Bool} (hk : 0 ≤ k ∧ k ≤ 5) (hkt : k < 3 → tf = true) (hn : n ≤ 7) (hM : M ≤ 4) (hrm : ∀ c : Int, 0 ≤ c → c < n → 0 ≤ rm c) (hN : cs.length ≤ 1600) (h1 : φ0 11 88 198 = cs.length) (h4 : ∀ i : Nat, i < cs.length → α0 263 (i : Int) = tauF (cs.getD i 0)) (hcs : ∀ ce ∈ cs, okc 26 ce) (ht : tyL2 [] cs = some [tf]) (O : MO α0 n M ns rm) (G : GS n M ns rm (α0 233)) (h : ∀ φ' α', fqa φ0 α0 φ' α' → Q (agF k (wvF n M rm (α0 233) cs) n) φ' α') : ∀ (r x : Nat), x + r = n → ∀ (φ : aF) (α : aA), fqa φ0 α0 φ α → φ 11 95 198 = agF k (wvF n M rm (α0 233) cs) x → φ 11 96 198 = (if x = 0 then 1 else 0) → jX11_ask_188 (d + 5) k x φ α Q := by
  intro r
  induction r with
  | zero =>
    intro x hx φ α f e5 e6
    have : x = n := by omega
    subst this
    refine vX11_ask_188 (r_cMany (by rw [f.2 226 (by omega)]; exact O.2.1) ⟨fun _ => ?_, fun q => by omega⟩)
    rw [e5]; exact h φ α f
  | succ r ih =>
    intro x hx φ α f e5 e6
    have a233 : α 233 = α0 233 := f.2 233 (by omega)
    have md := md_bd (nw := α0 233) (c := (x : Int)) 4
    have mm := md_n (c := (x : Int)) G (by omega) 4 hM (by omega)
    refine vX11_ask_188 (r_cMany (by rw [f.2 226 (by omega)]; exact O.2.1) ⟨fun q => by omega, fun _ => r_qTold (n := n) (M := M) (ns := ns) (rm := rm) (m := (mdF (α0 233) x 4).1) hrm (by omega) (by omega) hN (by rw [f.1 _ _ _ (by omega)]; exact h1) (fun i hi => by rw [f.2 263 (by omega)]; exact h4 i hi) (fun ce hce => ?_) ht (MO_a (fun a _ _ => f.2 a (by omega)) O) (by rw [a233]; exact G) (fun φ1 α1 v f1 hev hv => ?_)⟩)
    · have w := hcs ce hce
      unfold okc at w
      refine ⟨fun z => by omega, fun z => by omega, fun z => ?_⟩
      rw [a233, mm]
    · rw [a233] at hev
      have wt := wv_ty G hrm ht x (by omega)
      rw [wt.1] at hev
      have hv2 : v = wvF n M rm (α0 233) cs x := by cases hev; rfl
      subst hv2
      have bd := ag_bd (k := k) (wv := wvF n M rm (α0 233) cs) (n := n) (fun c hc => vT_mm (wv_ty G hrm ht c hc).2) hk x (by omega)
      have F1 : fqa φ0 α0 φ1 α1 := ⟨fun c g o q => (f1.1 c g o (by omega)).trans (f.1 c g o q), fun a q => (f1.2 a q).trans (f.2 a q)⟩
      refine r_qTakes (wv := wvF n M rm (α0 233) cs) hk (by omega) (by rw [f1.1 _ _ _ (by omega)]; exact e5) (by rw [f1.1 _ _ _ (by omega)]; exact e6) (vT_mm wt.2) (by omega) (fun q => by have := hkt q; subst this; exact vT_01 wt.2) (fun φ2 f2 g5 g6 => ⟨by unfold inR; omega, ?_⟩)
      exact ih (x + 1) (by omega) φ2 α1 ⟨fun c g o q => (f2 c g o (by omega)).trans (F1.1 c g o q), F1.2⟩ g5 (by rw [g6, if_neg (by omega)])
end AG
