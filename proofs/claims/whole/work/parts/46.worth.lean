section WO
variable {d : Nat} {φ : aF} {α : aA} {Q : Int → aF → aA → Prop} {b c o m cell x y v : Int} {n M ns : Nat} {nw rm : Int → Int}
theorem GS.seat (G : GS n M ns rm nw) (hc : 0 ≤ c ∧ c < n) : 0 ≤ nw (1 + 5 * c) ∧ nw (1 + 5 * c) < ns := by
  have := G.2.1 c.toNat (by omega)
  rwa [Int.toNat_of_nonneg hc.1] at this
theorem absI_bd {z B : Int} (h : -B ≤ z ∧ z ≤ B) : 0 ≤ absI z ∧ absI z ≤ B := by unfold absI; split <;> omega
theorem lookF_bd (G : GS n M ns rm nw) (hrm : ∀ c : Int, 0 ≤ c → c < n → 0 ≤ rm c) (hc : 0 ≤ c ∧ c < n) (ho : 0 ≤ o ∧ o < n) (hm : -1 ≤ m ∧ m ≤ 10) (hcell : cell ≤ 10999) : -1000000 ≤ lookF rm nw c o m cell ∧ lookF rm nw c o m cell ≤ 1000000 := by
  have hn := G.2.2.2.2.2.2
  have a1 := G.full hc.1 (show c < 7 by omega)
  have a2 := G.full ho.1 (show o < 7 by omega)
  have a3 := G.2.2.2.2.1 c hc.1 hc.2
  have a4 := G.2.2.2.2.1 o ho.1 ho.2
  have a5 := hrm c hc.1 hc.2
  have a6 := hrm o ho.1 ho.2
  have a7 := G.seat hc
  have a8 := G.seat ho
  have a9 := G.1
  have a10 := absI_bd (z := nw (1 + 5 * c) - nw (1 + 5 * o)) (B := 9) (by omega)
  unfold lookF
  by_cases z1 : 1000 ≤ cell
  · rw [if_pos z1]; omega
  rw [if_neg z1]
  by_cases z : cell = 1
  · rw [if_pos z]; omega
  rw [if_neg z]
  by_cases z : cell = 4
  · rw [if_pos z]; omega
  rw [if_neg z]
  by_cases z : cell = 10
  · rw [if_pos z]; omega
  rw [if_neg z]
  by_cases z : cell = 11
  · rw [if_pos z]; omega
  rw [if_neg z]
  by_cases z : cell = 12
  · rw [if_pos z]; omega
  rw [if_neg z]
  by_cases z : cell = 13
  · rw [if_pos z]
    by_cases zm : 0 ≤ m ∧ m < 4
    · rw [if_pos zm]
      have := G.drop hc.1 (show c < 7 by omega) zm.1 zm.2
      omega
    · rw [if_neg zm]; omega
  rw [if_neg z]
  by_cases z : cell = 14
  · rw [if_pos z]; omega
  rw [if_neg z]
  by_cases z : cell = 15
  · rw [if_pos z]; omega
  rw [if_neg z]
  by_cases z : cell = 16
  · rw [if_pos z]; omega
  rw [if_neg z]
  by_cases z : cell = 17
  · rw [if_pos z]; omega
  rw [if_neg z]
  omega
/-- what a typed cell asks of the stack and leaves on it -/
theorem tyS_cases {ts ts' : List Bool} (h : tyS ts cell = some ts') :
    (ndF cell = 2 ∧ ∃ (t : Bool) (tl : List Bool), ts = t :: t :: tl ∧ (cell = 18 ∨ cell = 19 ↔ t = true) ∧ ∃ u : Bool, ts' = u :: tl ∧ (u = true ↔ cell = 18 ∨ cell = 19 ∨ cell = 60 ∨ cell = 61 ∨ cell = 62)) ∨
    (ndF cell = 1 ∧ ∃ (t : Bool) (tl : List Bool), ts = t :: tl ∧ ts' = t :: tl ∧ (t = true ↔ cell = 20)) ∨
    (ndF cell = 0 ∧ ts.length < 60 ∧ cell ≤ 10999 ∧ ((cell = 21 ∧ ts' = true :: ts) ∨ (cell ≠ 21 ∧ ts' = false :: ts))) := by
  unfold tyS at h
  by_cases z : cell = 18 ∨ cell = 19
  · rw [if_pos z] at h
    have hnd : ndF cell = 2 := by unfold ndF; rw [if_pos (by omega)]
    split at h
    · cases h
      exact Or.inl ⟨hnd, true, _, rfl, by simp [z], true, rfl, by constructor <;> intro q; (· omega); (· rfl)⟩
    · cases h
  rw [if_neg z] at h
  by_cases z2 : cell = 22 ∨ cell = 23 ∨ cell = 42 ∨ cell = 43 ∨ cell = 45 ∨ cell = 47
  · rw [if_pos z2] at h
    have hnd : ndF cell = 2 := by unfold ndF; rw [if_pos (by omega)]
    split at h
    · cases h
      exact Or.inl ⟨hnd, false, _, rfl, by simp [z], false, rfl, by constructor <;> intro q; (· cases q); (· omega)⟩
    · cases h
  rw [if_neg z2] at h
  by_cases z3 : cell = 60 ∨ cell = 61 ∨ cell = 62
  · rw [if_pos z3] at h
    have hnd : ndF cell = 2 := by unfold ndF; rw [if_pos (by omega)]
    split at h
    · cases h
      exact Or.inl ⟨hnd, false, _, rfl, by simp [z], true, rfl, by constructor <;> intro q; (· omega); (· rfl)⟩
    · cases h
  rw [if_neg z3] at h
  by_cases z4 : cell = 20
  · rw [if_pos z4] at h
    have hnd : ndF cell = 1 := by unfold ndF; rw [if_neg (by omega), if_pos (by omega)]
    split at h
    · cases h
      exact Or.inr (Or.inl ⟨hnd, true, _, rfl, rfl, by simp [z4]⟩)
    · cases h
  rw [if_neg z4] at h
  by_cases z5 : cell = 30 ∨ cell = 31
  · rw [if_pos z5] at h
    have hnd : ndF cell = 1 := by unfold ndF; rw [if_neg (by omega), if_pos (by omega)]
    split at h
    · cases h
      exact Or.inr (Or.inl ⟨hnd, false, _, rfl, rfl, by simp [z4]⟩)
    · cases h
  rw [if_neg z5] at h
  have hnd : ndF cell = 0 := by unfold ndF; rw [if_neg (by omega), if_neg (by omega)]
  by_cases z6 : 60 ≤ ts.length
  · rw [if_pos z6] at h; cases h
  rw [if_neg z6] at h
  by_cases z7 : cell = 21
  · rw [if_pos z7] at h
    cases h
    exact Or.inr (Or.inr ⟨hnd, by omega, by omega, Or.inl ⟨z7, rfl⟩⟩)
  rw [if_neg z7] at h
  by_cases z8 : (1000 ≤ cell ∧ cell ≤ 10999) ∨ cell = 1 ∨ cell = 4 ∨ (10 ≤ cell ∧ cell ≤ 17)
  · rw [if_pos z8] at h
    cases h
    exact Or.inr (Or.inr ⟨hnd, by omega, by omega, Or.inr ⟨z7, rfl⟩⟩)
  · rw [if_neg z8] at h; cases h
theorem vT_t {v : Int} : vT true v ↔ v = 0 ∨ v = 1 := by unfold vT; simp
theorem vT_f {v : Int} : vT false v ↔ -1000000 ≤ v ∧ v ≤ 1000000 := by unfold vT; simp
theorem joinF_ty {t u : Bool} (h2 : ndF cell = 2) (ht : cell = 18 ∨ cell = 19 ↔ t = true) (hu : u = true ↔ cell = 18 ∨ cell = 19 ∨ cell = 60 ∨ cell = 61 ∨ cell = 62) (hx : vT t x) (hy : vT t y) : vT u (joinF cell x y) := by
  cases t with
  | true =>
    rw [vT_t] at hx hy
    have hc : cell = 18 ∨ cell = 19 := ht.mpr rfl
    rw [show u = true from hu.mpr (by omega), vT_t]
    unfold joinF
    rcases hc with e | e
    · rw [if_pos e, iOr01 hx hy]; split <;> omega
    · rw [if_neg (by omega), if_pos e, iAnd01 hx hy]
      rcases hx with rfl | rfl <;> rcases hy with rfl | rfl <;> omega
  | false =>
    rw [vT_f] at hx hy
    have hc : ¬ (cell = 18 ∨ cell = 19) := fun q => by have := ht.mp q; cases this
    unfold joinF
    rw [if_neg (by omega), if_neg (by omega)]
    by_cases e : cell = 60 ∨ cell = 61 ∨ cell = 62
    · rw [show u = true from hu.mpr (by omega), vT_t]
      rw [if_neg (by omega), if_neg (by omega), if_neg (by omega), if_neg (by omega), if_neg (by omega)]
      by_cases e1 : cell = 60
      · rw [if_pos e1]; split <;> omega
      · rw [if_neg e1]
        by_cases e2 : cell = 61
        · rw [if_pos e2]; split <;> omega
        · rw [if_neg e2, if_pos (by omega)]; split <;> omega
    · have hu0 : u = false := by
        cases u with
        | false => rfl
        | true => have := hu.mp rfl; omega
      rw [hu0, vT_f]
      by_cases e1 : cell = 22
      · rw [if_pos e1]; omega
      rw [if_neg e1]
      by_cases e1 : cell = 42
      · rw [if_pos e1]; exact clp_bd _
      rw [if_neg e1]
      by_cases e1 : cell = 43
      · rw [if_pos e1]; exact clp_bd _
      rw [if_neg e1]
      by_cases e1 : cell = 45
      · rw [if_pos e1]; exact clp_bd _
      rw [if_neg e1]
      by_cases e1 : cell = 47
      · rw [if_pos e1]; exact flr_bd hx hy
      rw [if_neg e1, if_neg (by omega), if_neg (by omega), if_neg (by omega)]
      omega
theorem turnF_ty {t : Bool} (G : GS n M ns rm nw) (hc : 0 ≤ c ∧ c < n) (h1 : ndF cell = 1) (ht : t = true ↔ cell = 20) (hv : vT t v) : vT t (turnF n M nw c cell v) := by
  have hn := G.2.2.2.2.2.2
  have h20 : cell = 20 ∨ cell = 30 ∨ cell = 31 := by
    unfold ndF at h1
    by_cases e : cell = 20 ∨ cell = 30 ∨ cell = 31
    · exact e
    · rw [if_neg e] at h1
      split at h1 <;> omega
  unfold turnF
  cases t with
  | true =>
    have e : cell = 20 := ht.mp rfl
    rw [vT_t] at hv ⊢
    rw [if_neg (by omega), if_neg (by omega)]; omega
  | false =>
    have e : cell ≠ 20 := fun q => by have := ht.mpr q; cases this
    rw [vT_f]
    by_cases e1 : cell = 30
    · rw [if_pos e1]
      split
      · rename_i z
        have := G.drop hc.1 (show c < 7 by omega) z.1 (show v < 4 by omega)
        omega
      · omega
    · rw [if_neg e1, if_pos (by omega)]
      split
      · rename_i z
        have a7 := G.seat hc
        have a8 := G.seat z
        have := absI_bd (z := nw (1 + 5 * c) - nw (1 + 5 * v)) (B := 9) (by omega)
        omega
      · omega
theorem evS_ty {ts ts' : List Bool} {st : List Int} (G : GS n M ns rm nw) (hrm : ∀ c : Int, 0 ≤ c → c < n → 0 ≤ rm c) (hc : 0 ≤ c ∧ c < n) (ho : 0 ≤ o ∧ o < n) (hm : -1 ≤ m ∧ m ≤ 10) (ht : tyS ts cell = some ts') (hv : vsT ts st) : vsT ts' (evS n M rm nw c o m st cell) := by
  rcases tyS_cases ht with ⟨h2, t, tl, rfl, k1, u, rfl, k2⟩ | ⟨h1, t, tl, rfl, rfl, k1⟩ | ⟨h0, hl, hc0, ⟨k1, rfl⟩ | ⟨k1, rfl⟩⟩
  · match st, hv with
    | [], hv => exact hv.elim
    | [_], hv => exact hv.2.elim
    | y :: x :: st, hv =>
      unfold evS
      rw [if_neg (by omega), if_neg (by omega)]
      exact ⟨joinF_ty h2 k1 k2 hv.2.1 hv.1, hv.2.2⟩
  · match st, hv with
    | [], hv => exact hv.elim
    | v :: st, hv =>
      unfold evS
      rw [if_neg (by omega), if_pos h1]
      exact ⟨turnF_ty G hc h1 k1 hv.1, hv.2⟩
  · unfold evS
    rw [if_pos h0]
    refine ⟨?_, hv⟩
    rw [vT_t, k1]
    exact Or.inr rfl
  · unfold evS
    rw [if_pos h0]
    refine ⟨?_, hv⟩
    rw [vT_f]
    exact lookF_bd G hrm hc ho hm hc0
/-- the stack as it lies in the mill's row -/
def stA (α : aA) : List Int → Prop
  | [] => True
  | v :: t => α 189 t.length = v ∧ stA α t
theorem stA_up {α : aA} {j w : Int} : ∀ {st : List Int}, (st.length : Int) ≤ j → stA α st → stA (upa α 189 j w) st
  | [], _, _ => trivial
  | v :: t, hj, h => by
    have hj : (t.length : Int) + 1 ≤ j := by simpa using hj
    exact ⟨by rw [upa_ni (by omega)]; exact h.1, stA_up (by omega) h.2⟩
theorem l_worth {r : Int} {nr : Nat} {tf : Bool} (hr : isRow r nr) (hr2 : r < 100) (hb : isSt b) (G : GS n M ns rm nw) (hrm : ∀ c : Int, 0 ≤ c → c < n → 0 ≤ rm c) (hc : 0 ≤ c ∧ c < n) (ho : 0 ≤ o ∧ o < n) (hm : -1 ≤ m ∧ m ≤ 10) : ∀ (cs : List Int) (k : Nat) (st : List Int) (ts : List Bool) (α : aA), (∀ i : Nat, i < cs.length → α (r + 1) ((k + i : Nat) : Int) = cs.getD i 0) → φ 6 1 r = ((k + cs.length : Nat) : Int) → k + cs.length ≤ nr → tyL2 ts cs = some [tf] → vsT ts st → ts.length ≤ 60 → stA α st → XS b φ α n nw → XO φ α n M ns rm → (∀ α' v, (∀ a, a ≠ 189 → α' a = α a) → evL n M rm nw c o m st cs = [v] → vT tf v → Q v φ α') → jX1_worth_6 (d + 2) r b c o m st.length k φ α Q
  | [], k, st, ts, α, h1, h2, h3, ht, hv, hl, hs, X, O, h => by
    have e : ts = [tf] := by simpa [tyL2] using ht
    subst e
    match st, hv, hs, h with
    | [], hv, _, _ => exact hv.elim
    | v :: w :: t, hv, _, _ => exact hv.2.elim
    | [v], hv, hs, h =>
      refine vX1_worth_6 hr hb ⟨fun q => ?_, fun q => by simp at h2; omega⟩
      have e : α 189 0 = v := hs.1
      rw [e]
      exact h α v (fun _ _ => rfl) rfl hv.1
  | ce :: cs, k, st, ts, α, h1, h2, h3, ht, hv, hl, hs, X, O, h => by
    have hlen := vsT_len hv
    have hbr := st_rng hb
    rw [tyL2] at ht
    cases hty : tyS ts ce with
    | none => rw [hty] at ht; cases ht
    | some ts' =>
    rw [hty] at ht
    have ht : tyL2 ts' cs = some [tf] := ht
    have hcell : α (r + 1) (k : Int) = ce := by
      have := h1 0 (by simp)
      simpa using this
    have hv' := evS_ty G hrm hc ho hm hty hv
    have hk : φ 6 1 r = (k : Int) + 1 + cs.length := by rw [h2]; simp; omega
    simp only [List.length_cons] at h3
    have hr1600 := hr.2.1.lt
    have next : ∀ (α1 : aA) (st' : List Int), (∀ a, a ≠ 189 → α1 a = α a) → evS n M rm nw c o m st ce = st' → stA α1 st' → ts'.length ≤ 60 → jX1_worth_6 (d + 2) r b c o m st'.length ((k : Int) + 1) φ α1 Q := by
      intro α1 st' ha he hs1 hl1
      have := l_worth hr hr2 hb G hrm hc ho hm cs (k + 1) st' ts' α1 (fun i hi => by
          rw [ha _ (by omega)]
          have := h1 (i + 1) (by simp; omega)
          rw [show k + 1 + i = k + (i + 1) by omega, this]
          simp) (by rw [hk]; simp) (by omega) ht (by rw [← he]; exact hv') hl1 hs1 (XS_of rfl (fun j _ _ => ha _ (by omega)) X) ⟨O.1, O.2.1, O.2.2.1, fun c q1 q2 => by rw [ha 11 (by omega)]; exact O.2.2.2 c q1 q2⟩ (fun α' v q1 q2 q3 => h α' v (fun a q => (q1 a q).trans (ha a q)) (by show evL n M rm nw c o m (evS n M rm nw c o m st ce) cs = [v]; rw [he]; exact q2) q3)
      simpa using this
    refine vX1_worth_6 hr hb ⟨fun q => by omega, fun q => c_at hr ⟨by omega, by omega⟩ (by omega) ?_⟩
    rw [hcell]
    refine c_needsOf ?_
    rcases tyS_cases hty with ⟨h2', t, tl, rfl, k1, u, rfl, k2⟩ | ⟨h1', t, tl, rfl, rfl, k1⟩ | ⟨h0, hl0, hc0, k1⟩
    · match st, hv, hs, hlen, next with
      | [], hv, _, _, _ => exact hv.elim
      | [_], hv, _, _, _ => exact hv.2.elim
      | y :: x :: st, hv, hs, hlen, next =>
        simp only [List.length_cons] at hlen hl ⊢
        rw [h2']
        have et : ((st.length + 1 + 1 : Nat) : Int) - ((2 : Nat) : Int) = st.length := by omega
        rw [et]
        have ex : α 189 (st.length : Int) = x := hs.2.1
        have ey : α 189 ((st.length : Int) + 1) = y := by simpa using hs.1
        refine ⟨by unfold inR; omega, fun q => by omega, fun _ => ⟨by unfold inR; omega, fun _ => ⟨fun _ => ⟨fun _ => ⟨⟨by omega, by omega⟩, ⟨by omega, by omega⟩, ?_⟩, fun q => by omega⟩, fun q => by omega⟩, fun q => by omega⟩⟩
        rw [ex, ey]
        refine c_join h2' ⟨fun q => ?_, fun q => ?_⟩ ⟨by unfold inR; omega, ?_⟩
        · have e := k1.mp q
          subst e
          exact ⟨vT_t.mp hv.2.1, vT_t.mp hv.1⟩
        · have e : t = false := by
            cases t with
            | false => rfl
            | true => exact absurd (k1.mpr rfl) q
          subst e
          exact ⟨vT_f.mp hv.2.1, vT_f.mp hv.1⟩
        · have := next (upa α 189 (st.length : Int) (joinF ce x y)) (joinF ce x y :: st) (fun a q => upa_fn q) (by unfold evS; rw [if_neg (by omega), if_neg (by omega)]) ⟨by rw [upa_eq], stA_up (Int.le_refl _) hs.2.2⟩ (by simp; omega)
          simpa using this
    · match st, hv, hs, hlen, next with
      | [], hv, _, _, _ => exact hv.elim
      | v :: st, hv, hs, hlen, next =>
        simp only [List.length_cons] at hlen hl ⊢
        rw [h1']
        have et : ((st.length + 1 : Nat) : Int) - ((1 : Nat) : Int) = st.length := by omega
        rw [et]
        have ex : α 189 (st.length : Int) = v := hs.1
        refine ⟨by unfold inR; omega, fun q => by omega, fun _ => ⟨by unfold inR; omega, fun _ => ⟨fun _ => ⟨fun q => by omega, fun _ => ⟨⟨by omega, by omega⟩, ?_⟩⟩, fun q => by omega⟩, fun q => by omega⟩⟩
        rw [ex]
        have hvb : -1000000 ≤ v ∧ v ≤ 1000000 := by
          cases t with
          | true => have := vT_t.mp hv.1; omega
          | false => exact vT_f.mp hv.1
        refine c_turn hb X G O h1' hc hvb ⟨by unfold inR; omega, ?_⟩
        have := next (upa α 189 (st.length : Int) (turnF n M nw c ce v)) (turnF n M nw c ce v :: st) (fun a q => upa_fn q) (by unfold evS; rw [if_neg (by omega), if_pos h1']) ⟨by rw [upa_eq], stA_up (Int.le_refl _) hs.2⟩ (by simpa using hl)
        simpa using this
    · rw [h0]
      have et : (st.length : Int) - ((0 : Nat) : Int) = st.length := by omega
      rw [et]
      refine ⟨by unfold inR; omega, fun q => by omega, fun _ => ⟨by unfold inR; omega, fun _ => ⟨fun q => absurd rfl q, fun _ => ?_⟩, fun q => by omega⟩⟩
      refine c_look hb X G O hc ho hc0 hrm ⟨⟨by omega, by omega⟩, by unfold inR; omega, ?_⟩
      have hl1 : ts'.length ≤ 60 := by rcases k1 with ⟨-, rfl⟩ | ⟨-, rfl⟩ <;> simp <;> omega
      have := next (upa α 189 (st.length : Int) (lookF rm nw c o m ce)) (lookF rm nw c o m ce :: st) (fun a q => upa_fn q) (by unfold evS; rw [if_pos h0]) ⟨by rw [upa_eq], stA_up (Int.le_refl _) hs⟩ hl1
      simpa using this
/-- the worth of a code that was read -/
theorem c_worth {r : Int} {nr : Nat} {tf : Bool} {cs : List Int} (hr : isRow r nr) (hr2 : r < 100) (hb : isSt b) (X : XS b φ α n nw) (G : GS n M ns rm nw) (O : XO φ α n M ns rm) (hrm : ∀ c : Int, 0 ≤ c → c < n → 0 ≤ rm c) (hc : 0 ≤ c ∧ c < n) (ho : 0 ≤ o ∧ o < n) (hm : -1 ≤ m ∧ m ≤ 10) (h1 : ∀ i : Nat, i < cs.length → α (r + 1) (i : Int) = cs.getD i 0) (h2 : φ 6 1 r = cs.length) (h3 : cs.length ≤ nr) (ht : tyL2 [] cs = some [tf]) (h : ∀ α' v, (∀ a, a ≠ 189 → α' a = α a) → evL n M rm nw c o m [] cs = [v] → vT tf v → Q v φ α') : eX1_worth (d + 2) r b c o m φ α Q := by
  refine vX1_worth_0 hr hb ?_
  have := l_worth (d := d) (φ := φ) (Q := Q) hr hr2 hb G hrm hc ho hm cs 0 [] [] α (fun i hi => by rw [Nat.zero_add]; exact h1 i hi) (by rw [Nat.zero_add]; exact h2) (by omega) ht trivial (by simp) trivial X O h
  simpa using this
end WO
