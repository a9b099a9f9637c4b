/-! desks: the first row of clerks, one for each matter -/
def dskF (n : Nat) (ok : Nat → Nat → Prop) [∀ m c, Decidable (ok m c)] : Nat → List Nat → Option (List Nat)
  | 0, pre => some pre
  | r + 1, pre => (List.range' 0 n).findSome? (fun c => if ok pre.length c ∧ c ∉ pre then dskF n ok r (pre ++ [c]) else none)
def dkG (n : Nat) (ok : Nat → Nat → Prop) [∀ m c, Decidable (ok m c)] (r : Nat) (pre : List Nat) (c k : Nat) : Option (List Nat) := (List.range' c k).findSome? (fun c => if ok pre.length c ∧ c ∉ pre then dskF n ok r (pre ++ [c]) else none)
theorem dkG_0 {n : Nat} {ok : Nat → Nat → Prop} [∀ m c, Decidable (ok m c)] {r : Nat} {pre : List Nat} {c : Nat} : dkG n ok r pre c 0 = none := rfl
theorem dkG_s {n : Nat} {ok : Nat → Nat → Prop} [∀ m c, Decidable (ok m c)] {r : Nat} {pre : List Nat} {c k : Nat} : dkG n ok r pre c (k + 1) = if ok pre.length c ∧ c ∉ pre then (match dskF n ok r (pre ++ [c]) with | some L => some L | none => dkG n ok r pre (c + 1) k) else dkG n ok r pre (c + 1) k := by
  unfold dkG
  rw [List.range'_succ, List.findSome?_cons]
  by_cases e : ok pre.length c ∧ c ∉ pre
  · rw [if_pos e, if_pos e]
    cases dskF n ok r (pre ++ [c]) <;> rfl
  · rw [if_neg e, if_neg e]
theorem bto_all : (List.range 128).all (fun t => (List.range 7).all (fun c => decide (0 ≤ iOr (t : Int) (iShl 1 (c : Int))) && decide (iOr (t : Int) (iShl 1 (c : Int)) < 128) && (List.range 7).all (fun c' => decide (bt (iOr (t : Int) (iShl 1 (c : Int))) (c' : Int) = if c' = c then 1 else bt (t : Int) (c' : Int))))) = true := by decide +kernel
theorem bto {t : Int} {c : Nat} (ht : 0 ≤ t ∧ t < 128) (hc : c < 7) : (0 ≤ iOr t (iShl 1 (c : Int)) ∧ iOr t (iShl 1 (c : Int)) < 128) ∧ ∀ c' : Nat, c' < 7 → bt (iOr t (iShl 1 (c : Int))) (c' : Int) = if c' = c then 1 else bt t (c' : Int) := by
  have h := List.all_eq_true.mp (List.all_eq_true.mp bto_all t.toNat (List.mem_range.mpr (by omega))) c (List.mem_range.mpr hc)
  simp only [Bool.and_eq_true, decide_eq_true_eq] at h
  rw [Int.toNat_of_nonneg ht.1] at h
  refine ⟨h.1, fun c' hc' => ?_⟩
  have := List.all_eq_true.mp h.2 c' (List.mem_range.mpr hc')
  exact of_decide_eq_true this
/-- the first cells of a row -/
def pfx (f : Int → Int) (pre : List Nat) : Prop := ∀ i : Nat, i < pre.length → f i = pre.getD i 0
theorem pfx_a {f f' : Int → Int} {pre : List Nat} {c : Nat} (h : pfx f pre) (h1 : ∀ i : Int, i < pre.length → f' i = f i) (h2 : f' pre.length = c) : pfx f' (pre ++ [c]) := by
  intro i hi
  simp only [List.length_append, List.length_cons, List.length_nil] at hi
  by_cases e : i = pre.length
  · subst e
    rw [h2]
    simp
  · rw [h1 i (by omega), h i (by omega)]
    congr 1
    rw [List.getD_eq_getElem?_getD, List.getD_eq_getElem?_getD, List.getElem?_append_left (by omega)]
theorem pfx_o {f f' : Int → Int} {pre : List Nat} (h : pfx f pre) (h1 : ∀ i : Int, i < pre.length → f' i = f i) : pfx f' pre := fun i hi => by rw [h1 i (by omega)]; exact h i hi
theorem dsk_len {n : Nat} {ok : Nat → Nat → Prop} [∀ m c, Decidable (ok m c)] : ∀ (r : Nat) (pre L : List Nat), dskF n ok r pre = some L → L.length = pre.length + r ∧ ∀ i : Nat, i < pre.length → L.getD i 0 = pre.getD i 0
  | 0, pre, L, h => by
    have e : pre = L := by simpa [dskF] using h
    subst e
    exact ⟨by omega, fun _ _ => rfl⟩
  | r + 1, pre, L, h => by
    rw [dskF] at h
    obtain ⟨c, hc, h2⟩ := List.exists_of_findSome?_eq_some h
    split at h2
    · have := dsk_len r _ L h2
      simp only [List.length_append, List.length_cons, List.length_nil] at this
      refine ⟨by omega, fun i hi => ?_⟩
      rw [this.2 i (by omega)]
      rw [List.getD_eq_getElem?_getD, List.getD_eq_getElem?_getD, List.getElem?_append_left (by omega)]
    · cases h2
section DK
variable {d j : Nat} {φ φ' φ0 : aF} {α α' α0 : aA} {Q : Int → aF → aA → Prop} {b c o m x y z v s k ce side : Int} {n M ns : Nat} {rm nw nw' nw0 sr : Int → Int} {cs ct : List Int}
abbrev okD (rm nw : Int → Int) (n : Nat) (m c : Nat) : Prop := hdF nw m n ≤ rm c
theorem c_findDesks (hM : M ≤ 4) (hn : n ≤ 7) : ∀ (r : Nat) (pre : List Nat) (t : Int) (α : aA) (Q : Int → aF → aA → Prop), pre.length + r = M → XO φ α n M ns rm → (∀ k : Nat, k < M → α 193 (k : Int) = hdF nw k n) → 0 ≤ t ∧ t < 128 → (∀ c : Nat, c < 7 → (bt t c = 0 ↔ c ∉ pre)) → pfx (α 194) pre → (∀ v α', (∀ a : Int, a ≠ 194 → α' a = α a) → (v = 0 ∧ dskF n (okD rm nw n) r pre = none ∧ pfx (α' 194) pre ∨ v = 1 ∧ ∃ L, dskF n (okD rm nw n) r pre = some L ∧ pfx (α' 194) L) → Q v φ α') → eX4_findDesks (d + r + 1) pre.length t φ α Q
  | 0, pre, t, α, Q, hl, O, hh, ht, hb, hp, h => vX4_findDesks_0 ⟨fun _ => h 1 α (fun _ _ => rfl) (Or.inr ⟨rfl, pre, rfl, hp⟩), fun q => by rw [O.2.1] at q; omega⟩
  | r + 1, pre, t, α, Q, hl, O, hh, ht, hb, hp, h => by
    have loop : ∀ (k c : Nat) (α1 : aA), c + k = n → (∀ a : Int, a ≠ 194 → α1 a = α a) → pfx (α1 194) pre → dkG n (okD rm nw n) r pre c k = dskF n (okD rm nw n) (r + 1) pre → jX4_findDesks_20 (d + (r + 1) + 1) pre.length t c φ α1 Q := by
      intro k
      induction k with
      | zero =>
        intro c α1 hc ha hp1 he
        have O1 : XO φ α1 n M ns rm := XO_of (fun _ _ => rfl) (ha 11 (by omega)) O
        exact vX4_findDesks_20 ⟨fun _ => h 0 α1 ha (Or.inl ⟨rfl, by rw [← he]; rfl, hp1⟩), fun q => by rw [O1.2.2.1] at q; omega⟩
      | succ k ih =>
        intro c α1 hc ha hp1 he
        have O1 : XO φ α1 n M ns rm := XO_of (fun _ _ => rfl) (ha 11 (by omega)) O
        rw [dkG_s] at he
        have nx : ∀ α2, (∀ a : Int, a ≠ 194 → α2 a = α a) → pfx (α2 194) pre → dkG n (okD rm nw n) r pre (c + 1) k = dskF n (okD rm nw n) (r + 1) pre → jX4_findDesks_20 (d + (r + 1) + 1) pre.length t ((c : Int) + 1) φ α2 Q := fun α2 h1 h2 h3 => by
          have := ih (c + 1) α2 (by omega) h1 h2 h3
          simpa using this
        have b1 := hb c (by omega)
        refine vX4_findDesks_20 ⟨fun q => by rw [O1.2.2.1] at q; omega, fun _ => ⟨fun q => ⟨by unfold inR; omega, nx α1 ha hp1 ?_⟩, fun q => ?_⟩⟩
        · rw [if_neg (fun w => q (b1.mpr w.2))] at he; exact he
        · have q : bt t c = 0 := q
          refine c_pick (n := 7) (fun _ => rfl) ⟨by omega, by omega⟩ (c_pick (n := 4) (fun _ => rfl) ⟨by omega, by omega⟩ ?_)
          rw [O1.2.2.2 c (by omega) (by omega), ha 193 (by omega), hh pre.length (by omega)]
          refine ⟨fun q2 => ⟨by unfold inR; omega, nx α1 ha hp1 ?_⟩, fun q2 => ?_⟩
          · rw [if_neg (fun w => by have : hdF nw (pre.length : Nat) n ≤ rm c := w.1; omega)] at he; exact he
          · rw [if_pos ⟨by show hdF nw (pre.length : Nat) n ≤ rm c; omega, b1.mp q⟩] at he
            refine c_set (n := 4) (fun _ => rfl) ⟨by omega, by omega⟩ ⟨by unfold inR; omega, ?_⟩
            obtain ⟨bo1, bo2⟩ := @bto t c ht (by omega)
            have hlen : ((pre.length : Nat) : Int) + 1 = ((pre ++ [c]).length : Nat) := by simp
            rw [hlen]
            refine c_findDesks hM hn r (pre ++ [c]) _ _ _ (by simp; omega) (XO_of (fun _ _ => rfl) (by rw [upa_fn (by omega)]) O1) (fun k hk => by rw [upa_fn (by omega), ha 193 (by omega)]; exact hh k hk) bo1 (fun c' hc' => ?_) (pfx_a hp1 (fun i hi => upa_ni (by omega)) upa_eq) (fun v α2 h1 h2 => ?_)
            · rw [bo2 c' hc']
              by_cases e : c' = c
              · rw [if_pos e]; simp [e]
              · rw [if_neg e, hb c' hc']; simp [e]
            · have h12 : ∀ a : Int, a ≠ 194 → α2 a = α a := fun a q => (h1 a q).trans ((upa_fn q).trans (ha a q))
              rcases h2 with ⟨rfl, e2, e3⟩ | ⟨rfl, L, e2, e3⟩
              · rw [e2] at he
                refine ⟨fun _ => ⟨by unfold inR; omega, nx α2 h12 (fun i hi => ?_) he⟩, fun q => absurd rfl q⟩
                have := e3 i (by simp; omega)
                rw [this]
                congr 1
                rw [List.getD_eq_getElem?_getD, List.getD_eq_getElem?_getD, List.getElem?_append_left (by omega)]
              · rw [e2] at he
                exact ⟨fun q => by omega, fun _ => h 1 α2 h12 (Or.inr ⟨rfl, L, he.symm, e3⟩)⟩
    refine vX4_findDesks_0 ⟨fun q => by rw [O.2.1] at q; omega, fun _ => ⟨fun _ => ?_, fun q => by omega⟩⟩
    have := loop n 0 α (by omega) (fun _ _ => rfl) hp rfl
    simpa using this
theorem l_canHave {k : Nat} {cc : Nat} (hk : k ≤ 3) : ∀ (r i : Nat) (pre : List Nat), pre.length = k → pfx (α 235) pre → i + r = k → (∀ t : Nat, t < i → pre.getD t 0 ≠ cc) → Q (if cc ∉ pre then 1 else 0) φ α → jX11_canHave_17 (d + 1) k cc i φ α Q
  | 0, i, pre, hl, hp, hi, hno, h => by
    have e : i = k := by omega
    subst e
    refine vX11_canHave_17 ⟨fun _ => ?_, fun q => by omega⟩
    rwa [if_pos (fun hm => by
      obtain ⟨t, ht, he⟩ := List.mem_iff_getElem.mp hm
      refine hno t (by omega) ?_
      rw [List.getD_eq_getElem?_getD, List.getElem?_eq_getElem ht, he]; rfl)] at h
  | r + 1, i, pre, hl, hp, hi, hno, h => by
    have e := hp i (by omega)
    refine vX11_canHave_17 ⟨fun q => by omega, fun _ => ⟨⟨by omega, by omega⟩, fun q => ⟨by unfold inR; omega, ?_⟩, fun q => ?_⟩⟩
    · have := l_canHave hk r (i + 1) pre hl hp (by omega) (fun t ht => by
        by_cases z : t = i
        · subst z; intro w; rw [e, w] at q; exact q rfl
        · exact hno t (by omega)) h
      simpa using this
    · rw [e] at q
      have hm : cc ∈ pre := by
        rw [List.mem_iff_getElem]
        refine ⟨i, by omega, ?_⟩
        have : pre.getD i 0 = cc := by omega
        rw [List.getD_eq_getElem?_getD, List.getElem?_eq_getElem (by omega)] at this
        exact this
      rwa [if_neg (fun w => w hm)] at h
theorem r_canHave {cc : Nat} {pre : List Nat} (O : MO α n M ns rm) (G : GS n M ns rm (α 233)) (hl : pre.length < M) (hc : cc < n) (hp : pfx (α 235) pre) (h : Q (if okD rm (α 233) n pre.length cc ∧ cc ∉ pre then 1 else 0) φ α) : eX11_canHave (d + 2) pre.length cc φ α Q := by
  have hn := G.2.2.2.2.2.2
  refine vX11_canHave_0 (r_roomOf O hn.1 (by omega) (r_inClerks O.2.1 G (by omega) ⟨fun q => ?_, fun q => ?_⟩))
  · have := l_canHave (d := d + 1) (α := α) (φ := φ) (Q := Q) (cc := cc) (k := pre.length) (by omega) pre.length 0 pre rfl hp (by omega) (fun t ht => by omega) (by
      by_cases e : cc ∉ pre
      · rw [if_pos ⟨q, e⟩] at h; rw [if_pos e]; exact h
      · rw [if_neg (fun w => e w.2)] at h; rw [if_neg e]; exact h)
    simpa using this
  · rwa [if_neg (fun w => q w.1)] at h
theorem l_isRow (hM : M ≤ 4) (hn : n ≤ 7) (hnw : α0 233 = nw) (G : GS n M ns rm nw) : ∀ (r : Nat) (pre : List Nat) (c k : Nat) (α : aA), pre.length + r = M → c + k = n → (∀ a : Int, a ≠ 235 → α a = α0 a) → MO α0 n M ns rm → pfx (α 235) pre → (0 < r → α 235 pre.length = (c : Int) - 1) → (∀ α' L, (∀ a : Int, a ≠ 235 → α' a = α0 a) → (0 < r → dkG n (okD rm nw n) (r - 1) pre c k = some L) → (r = 0 → L = pre) → pfx (α' 235) L → Q 1 φ α') → (∀ α', (∀ a : Int, a ≠ 235 → α' a = α0 a) → 0 < r → dkG n (okD rm nw n) (r - 1) pre c k = none → pfx (α' 235) pre → jX11_isRow_9 (d + 3) ((pre.length : Int) + -1) φ α' Q) → jX11_isRow_9 (d + 3) pre.length φ α Q
  | 0, pre, c, k, α, hl, hk, ha, O, hp, hc, h1, h2 => by
    refine vX11_isRow_9 ⟨fun q => by omega, fun _ => r_mMany (by rw [ha 226 (by omega)]; exact O.1) ⟨fun q => by omega, fun _ => h1 α pre ha (fun q => by omega) (fun _ => rfl) hp⟩⟩
  | r + 1, pre, c, k, α, hl, hk, ha, O, hp, hc, h1, h2 => by
    have hcc := hc (by omega)
    rw [show r + 1 - 1 = r by omega] at h1 h2
    have loop : ∀ (k c : Nat) (α1 : aA), c + k = n → (∀ a : Int, a ≠ 235 → α1 a = α0 a) → pfx (α1 235) pre → α1 235 pre.length = c → (∀ α' L, (∀ a : Int, a ≠ 235 → α' a = α0 a) → dkG n (okD rm nw n) r pre c k = some L → pfx (α' 235) L → Q 1 φ α') → (∀ α', (∀ a : Int, a ≠ 235 → α' a = α0 a) → dkG n (okD rm nw n) r pre c k = none → pfx (α' 235) pre → jX11_isRow_9 (d + 3) ((pre.length : Int) + -1) φ α' Q) → jX11_isRow_33 (d + 3) pre.length φ α1 Q := by
      intro k
      induction k with
      | zero =>
        intro c α1 hk1 ha1 hp1 hc1 g1 g2
        have O1 : MO α1 n M ns rm := by unfold MO; rw [ha1 226 (by omega), ha1 225 (by omega), ha1 228 (by omega)]; exact O
        refine vX11_isRow_33 ⟨⟨by omega, by omega⟩, r_cMany O1.2.1 ?_⟩
        rw [hc1]
        refine ⟨fun _ => r_cMany O1.2.1 ?_, fun q => by omega⟩
        exact ⟨fun q => by omega, fun _ => ⟨by unfold inR; omega, g2 α1 ha1 rfl hp1⟩⟩
      | succ k ih =>
        intro c α1 hk1 ha1 hp1 hc1 g1 g2
        have O1 : MO α1 n M ns rm := by unfold MO; rw [ha1 226 (by omega), ha1 225 (by omega), ha1 228 (by omega)]; exact O
        have e233 : α1 233 = nw := (ha1 233 (by omega)).trans hnw
        rw [dkG_s] at g1 g2
        have up1 : ∀ α2 : aA, (∀ a : Int, a ≠ 235 → α2 a = α0 a) → pfx (α2 235) pre → α2 235 (pre.length : Int) = (c : Int) → (∀ a : Int, a ≠ 235 → upa α2 235 pre.length ((c : Int) + 1) a = α0 a) ∧ pfx (upa α2 235 pre.length ((c : Int) + 1) 235) pre ∧ upa α2 235 pre.length ((c : Int) + 1) 235 pre.length = ((c + 1 : Nat) : Int) := fun α2 z1 z2 z3 => ⟨fun a q => (upa_fn q).trans (z1 a q), pfx_o z2 (fun i hi => upa_ni (by omega)), by rw [upa_eq]; simp⟩
        refine vX11_isRow_33 ⟨⟨by omega, by omega⟩, r_cMany O1.2.1 ?_⟩
        rw [hc1]
        refine ⟨fun q => by omega, fun _ => r_canHave O1 (by rw [e233]; exact G) (by omega) (by omega) hp1 ?_⟩
        rw [e233]
        by_cases e : okD rm nw n pre.length c ∧ c ∉ pre
        · rw [if_pos e] at g1 g2
          rw [if_pos e]
          refine ⟨fun _ => r_cMany O1.2.1 ?_, fun q => by omega⟩
          try rw [hc1]
          have hlen : ((pre.length : Nat) : Int) + 1 = ((pre ++ [c]).length : Nat) := by simp
          have deep : ∀ α2, (∀ a : Int, a ≠ 235 → α2 a = α0 a) → pfx (α2 235) (pre ++ [c]) → (0 < r → α2 235 (pre ++ [c]).length = ((0 : Nat) : Int) - 1) → jX11_isRow_9 (d + 3) ((pre.length : Int) + 1) φ α2 Q := by
            intro α2 z1 z2 z3
            rw [hlen]
            refine l_isRow hM hn hnw G r (pre ++ [c]) 0 n α2 (by simp; omega) (by omega) z1 O z2 z3 (fun α' L y1 y2 y3 y4 => g1 α' L y1 ?_ y4) (fun α' y1 y2 y3 y4 => ?_)
            · cases r with
              | zero => rw [y3 rfl]; rfl
              | succ r =>
                have := y2 (by omega)
                rw [show r + 1 - 1 = r by omega] at this
                rw [show dskF n (okD rm nw n) (r + 1) (pre ++ [c]) = some L from this]
            · have e2 : dskF n (okD rm nw n) r (pre ++ [c]) = none := by
                cases r with
                | zero => omega
                | succ r => rw [show r + 1 - 1 = r by omega] at y3; exact y3
              rw [e2] at g1 g2
              have y5 : α' 235 pre.length = c := by
                have := y4 pre.length (by simp)
                rw [this]; simp
              have y6 : pfx (α' 235) pre := fun i hi => by
                rw [y4 i (by simp; omega)]
                congr 1
                rw [List.getD_eq_getElem?_getD, List.getD_eq_getElem?_getD, List.getElem?_append_left (by omega)]
              rw [← hlen, show (pre.length : Int) + 1 + -1 = pre.length by omega]
              refine vX11_isRow_9 ⟨fun q => by omega, fun _ => r_mMany (by rw [y1 226 (by omega)]; exact O.1) ⟨fun q => ⟨⟨by omega, by omega⟩, by rw [y5]; unfold inR; omega, ?_⟩, fun q => by omega⟩⟩
              rw [y5]
              obtain ⟨w1, w2, w3⟩ := up1 α' y1 y6 y5
              exact ih (c + 1) _ (by omega) w1 w2 w3 g1 g2
          have pA : pfx (α1 235) (pre ++ [c]) := pfx_a hp1 (fun _ _ => rfl) hc1
          refine ⟨fun _ => ⟨by unfold inR; omega, fun q => deep α1 ha1 pA (fun z => by omega), fun q => ⟨⟨by omega, by omega⟩, deep _ (fun a q => (upa_fn q).trans (ha1 a q)) (pfx_o pA (fun i hi => upa_ni (by simp at hi; omega))) (fun _ => by rw [← hlen, upa_eq]; rfl)⟩⟩, fun q => by omega⟩
        · rw [if_neg e] at g1 g2
          rw [if_neg e]
          refine ⟨fun q => absurd rfl q, fun _ => ?_⟩
          try rw [hc1]
          obtain ⟨w1, w2, w3⟩ := up1 α1 ha1 hp1 hc1
          exact ⟨by unfold inR; omega, ih (c + 1) _ (by omega) w1 w2 w3 g1 g2⟩
    refine vX11_isRow_9 ⟨fun q => by omega, fun _ => r_mMany (by rw [ha 226 (by omega)]; exact O.1) ⟨fun q => ⟨⟨by omega, by omega⟩, by rw [hcc]; unfold inR; omega, ?_⟩, fun q => by omega⟩⟩
    rw [hcc, show (c : Int) - 1 + 1 = c by omega]
    refine loop k c _ hk (fun a q => (upa_fn q).trans (ha a q)) (pfx_o hp (fun i hi => upa_ni (by omega))) upa_eq (fun α' L z1 z2 z3 => h1 α' L z1 (fun _ => z2) (fun q => by omega) z3) (fun α' z1 z2 z3 => h2 α' z1 (by omega) z2 z3)
theorem r_isRow (O : MO α n M ns rm) (G : GS n M ns rm (α 233)) (hM0 : 0 < M) (h : ∀ v α', (∀ a : Int, a ≠ 235 → α' a = α a) → (v = 0 ∧ dskF n (okD rm (α 233) n) M [] = none ∨ v = 1 ∧ ∃ L, dskF n (okD rm (α 233) n) M [] = some L ∧ pfx (α' 235) L) → Q v φ α') : eX11_isRow (d + 3) φ α Q := by
  have hn := G.2.2.2.2.2.2
  have e : M = (M - 1) + 1 := by omega
  have hD : dskF n (okD rm (α 233) n) M [] = dkG n (okD rm (α 233) n) (M - 1) [] 0 n := by
    rw [e]; rfl
  rw [hD] at h
  refine vX11_isRow_0 ?_
  have := l_isRow (d := d) (φ := φ) (Q := Q) (α0 := α) hn.2.1 hn.1 rfl G M [] 0 n (upa α 235 0 (-1)) (by simp) (by omega) (fun a q => upa_fn q) O (fun i hi => by simp at hi) (fun _ => by simp [upa_eq]) (fun α' L z1 z2 z3 z4 => h 1 α' z1 (Or.inr ⟨rfl, L, z2 hM0, z4⟩)) (fun α' z1 z2 z3 z4 => vX11_isRow_9 ⟨fun _ => h 0 α' z1 (Or.inl ⟨rfl, z3⟩), fun q => by simp at q⟩)
  simpa using this
theorem l_findDesk (I : Iv n M ns rm cs ct sr j φ α0) (h : ∀ α', (∀ a : Int, a ≠ 193 → α' a = α0 a) → (∀ k : Nat, k < M → α' 193 (k : Int) = hdF (α0 233) k n) → eX4_findDesks (d + 3) 0 0 φ α' (fun r2 φ2 α2 => ((r2 = 0 → (Q (-1) φ2 α2)) ∧ (¬ (r2 = 0) → (eX10_pick (d + 3) 194 x φ2 α2 (fun r4 φ4 α4 => (Q r4 φ4 α4))))))) : ∀ (r k : Nat) (α : aA), k + r = M → (∀ a : Int, a ≠ 193 → α a = α0 a) → (∀ i : Nat, i < k → α 193 (i : Int) = hdF (α0 233) i n) → jX4_findDesk_2 (d + 4) x k φ α Q
  | 0, k, α, hk, ha, hh => vX4_findDesk_2 ⟨fun _ => h α ha (fun i hi => hh i (by omega)), fun q => by have e : φ 2 3 9 = M := I.XO.2.1; rw [e] at q; omega⟩
  | r + 1, k, α, hk, ha, hh => by
    have hn := I.G.2.2.2.2.2.2
    have e : φ 2 3 9 = M := I.XO.2.1
    refine vX4_findDesk_2 ⟨fun q => by rw [e] at q; omega, fun _ => c_heldOf st29 (XS_of rfl (fun j _ _ => ha _ (by omega)) I.X) I.G (by omega) (c_set (n := 4) (fun _ => rfl) ⟨by omega, by omega⟩ ⟨by unfold inR; omega, ?_⟩)⟩
    rw [hd_n I.G (by omega)]
    have := l_findDesk I h r (k + 1) _ (by omega) (fun a q => (upa_fn q).trans (ha a q)) (fun i hi => by
      by_cases z : i = k
      · subst z; exact upa_eq
      · rw [upa_ni (by omega)]; exact hh i (by omega))
    simpa using this
theorem p_desks (I : Inv sr j φ α) : eX10_desks (d + 20) x φ α (fun r φ1 α1 => eX11_desks (d + 20) x φ1 α1 (pq sr j r)) := by
  obtain ⟨n, M, ns, rm, cs, ct, I⟩ := I
  have hn := I.G.2.2.2.2.2.2
  have G := I.G
  refine vX10_desks_0 (c_isMatter I.XO.2.1 ?_)
  by_cases e : 0 ≤ x ∧ x < M
  · rw [if_pos e]
    refine ⟨fun q => by omega, fun _ => vX4_findDesk_0 (l_findDesk I (fun α1 h1 h2 => ?_) M 0 α (by omega) (fun _ _ => rfl) (fun i hi => by omega))⟩
    have cf := c_findDesks (d := d + 17 - M) (φ := φ) (nw := α 233) (ns := ns) (rm := rm) hn.2.1 hn.1 M [] 0 α1 (fun r2 φ2 α2 => ((r2 = 0 → (eX11_desks (d + 20) x φ2 α2 (pq sr j (-1)))) ∧ (¬ (r2 = 0) → (eX10_pick (d + 18) 194 x φ2 α2 (fun r4 φ4 α4 => eX11_desks (d + 20) x φ4 α4 (pq sr j r4)))))) (by simp) (XO_of (fun _ _ => rfl) (h1 11 (by omega)) I.XO) h2 (by omega) (fun c hc => by
      simp only [List.not_mem_nil, not_false_eq_true, iff_true]
      have : (List.range 7).all (fun c => decide (bt 0 (c : Int) = 0)) = true := by decide +kernel
      exact of_decide_eq_true (List.all_eq_true.mp this c (List.mem_range.mpr hc))) (fun i hi => by simp at hi) (fun v α2 g1 g2 => ?_)
    · rw [show d + 17 - M + M + 1 = d + 18 by omega] at cf
      exact cf
    · have a2 : ∀ a : Int, a ≠ 193 → a ≠ 194 → α2 a = α a := fun a q1 q2 => (g1 a q2).trans (h1 a q1)
      have F2 : fq φ α φ α2 := ⟨fun _ _ _ _ => rfl, fun a _ _ _ q1 q2 _ _ _ _ _ => a2 a q1 q2⟩
      have I2 := Iv_fq (Nat.le_refl j) F2 I.2.2.2.2.2.1.2 I
      have e233 : α2 233 = α 233 := a2 233 (by omega) (by omega)
      have ref : ∀ v : Int, (dskF n (okD rm (α 233) n) M [] = none → v = -1) → (∀ L, dskF n (okD rm (α 233) n) M [] = some L → v = L.getD x.toNat 0) → eX11_desks (d + 20) x φ α2 (pq sr j v) := by
        intro v hv1 hv2
        refine vX11_desks_0 (r_isMatter I2.MO.1 hn.2.1 ?_)
        rw [if_pos e]
        refine ⟨fun q => by omega, fun _ => r_isRow I2.MO I2.G (by omega) (fun w α3 z1 z2 => ?_)⟩
        rw [e233] at z2
        have I3 : Inv sr (j + 1) φ α3 := (Iv_fq (Nat.le_succ j) (⟨fun _ _ _ _ => rfl, fun a _ _ _ _ _ _ _ q _ _ => z1 a (by omega)⟩ : fq φ α2 φ α3) (by have := I2.2.2.2.2.2.1.2; omega) I2).inv
        rcases z2 with ⟨rfl, z3⟩ | ⟨rfl, L, z3, z4⟩
        · exact ⟨fun _ => ⟨hv1 z3, I3⟩, fun q => absurd rfl q⟩
        · refine ⟨fun q => by omega, fun _ => ⟨⟨by omega, by omega⟩, ?_, I3⟩⟩
          have lL := dsk_len _ _ _ z3
          simp only [List.length_nil] at lL
          have := z4 x.toNat (by omega)
          rw [Int.toNat_of_nonneg e.1] at this
          rw [this]
          exact hv2 L z3
      rcases g2 with ⟨rfl, g3, g4⟩ | ⟨rfl, L, g3, g4⟩
      · exact ⟨fun _ => ref _ (fun _ => rfl) (fun L hL => by rw [g3] at hL; cases hL), fun q => absurd rfl q⟩
      · refine ⟨fun q => by omega, fun _ => c_pick (n := 4) (fun _ => rfl) ⟨by omega, by omega⟩ (ref _ (fun q => by rw [g3] at q; cases q) (fun L' hL' => ?_))⟩
        rw [g3] at hL'
        cases hL'
        have lL := dsk_len _ _ _ g3
        simp only [List.length_nil] at lL
        have := g4 x.toNat (by omega)
        rw [Int.toNat_of_nonneg e.1] at this
        exact this
  · rw [if_neg e]
    refine ⟨fun _ => vX11_desks_0 (r_isMatter I.MO.1 hn.2.1 ?_), fun q => absurd rfl q⟩
    rw [if_neg e]
    exact ⟨fun _ => ⟨rfl, I.nx⟩, fun q => absurd rfl q⟩
end DK
