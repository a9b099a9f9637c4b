/-! lived days -/
def kpF (n : Nat) (rm nw : Int → Int) (over : Int) : Int → Int :=
  if nw 48 = 40 then un (un (un (fun i => if 49 ≤ i ∧ i < 166 then nw (i + 3) else nw i) 166 (nw 0)) 167 over) 168 (ffF rm nw n)
  else un (un (un (un nw 48 (nw 48 + 1)) (49 + 3 * (nw 48 + 1) - 3) (nw 0)) (49 + 3 * (nw 48 + 1) - 3 + 1) over) (49 + 3 * (nw 48 + 1) - 3 + 2) (ffF rm nw n)
def lvF (n M ns : Nat) (rm : Int → Int) (cs : List Int) (nw : Int → Int) (x : Int) : Int → Int :=
  un (kpF n rm (dyF (flF n M rm cs) n M (nw, 0) ns).1 ((dayF (flF n M rm cs) n M ns nw).2 + x)) 0 (kpF n rm (dyF (flF n M rm cs) n M (nw, 0) ns).1 ((dayF (flF n M rm cs) n M ns nw).2 + x) 0 + 1)
section LV
variable {d j : Nat} {φ φ' φ0 φ1 φ2 : aF} {α α' α0 α1 α2 : aA} {Q : Int → aF → aA → Prop} {b b2 c o m x y z v s k ce side t m' p x1 : Int} {n M ns : Nat} {rm nw nw' nw0 sr : Int → Int} {cs ct : List Int}
theorem l_isKeptX : ∀ (r : Nat) (k : Int) (α : aA), k + r = 166 → 49 ≤ k → (∀ α', (∀ a, a ≠ 233 → α' a = α a) → (∀ i, α' 233 i = if k ≤ i ∧ i < 166 then α 233 (i + 3) else α 233 i) → jX11_isKept_23 (d + 1) x1 166 φ α' Q) → jX11_isKept_23 (d + 1) x1 k φ α Q
  | 0, k, α, hk, h0, h => by
    have e : k = 166 := by omega
    subst e
    exact h α (fun _ _ => rfl) (fun i => by rw [if_neg (by omega)])
  | r + 1, k, α, hk, h0, h => by
    refine vX11_isKept_23 ⟨fun q => by omega, fun _ => ⟨by unfold inR; omega, ⟨by omega, by omega⟩, ⟨by omega, by omega⟩, by unfold inR; omega, l_isKeptX r (k + 1) _ (by omega) (by omega) (fun α' h1 h2 => h α' (fun a q => (h1 a q).trans (upa_fn q)) (fun i => ?_))⟩⟩
    rw [h2 i]
    by_cases e : i = k
    · subst e; rw [if_neg (by omega), upa_eq, if_pos (by omega)]
    · by_cases e2 : k ≤ i ∧ i < 166
      · rw [if_pos (by omega), if_pos e2, upa_ni (by omega)]
      · rw [if_neg (by omega), if_neg e2, upa_ni e]
theorem r_isKeptX (O : MO α n M ns rm) (G : GS n M ns rm (α 233)) (hrm : ∀ c : Int, 0 ≤ c → c < n → 0 ≤ rm c) (h48 : 0 ≤ α 233 48 ∧ α 233 48 ≤ 40) (ht : φ 11 52 198 = 0) (h : ∀ α', (∀ a, a ≠ 233 → α' a = α a) → α' 233 = kpF n rm (α 233) x1 → Q 0 φ α') : eX11_isKept (d + 4) x1 φ α Q := by
  refine vX11_isKept_0 ⟨fun _ => ⟨fun q => ?_, fun q => ?_⟩, fun q => absurd ht q⟩
  · refine ⟨by unfold inR; omega, by unfold inR; omega, by unfold inR; omega, by unfold inR; omega, ⟨by omega, by omega⟩, by unfold inR; omega, ⟨by omega, by omega⟩, by unfold inR; omega, ?_⟩
    have e0 : ∀ i, 0 ≤ i → i < 48 → (upa (upa (upa α 233 48 ((α 233 48) + 1)) 233 ((49 + (3 * ((α 233 48) + 1))) - 3) (α 233 0)) 233 (((49 + (3 * ((α 233 48) + 1))) - 3) + 1) x1) 233 i = α 233 i := fun i q1 q2 => by rw [upa_ni (by omega), upa_ni (by omega), upa_ni (by omega)]
    refine r_fullMany (MO_a (fun a _ _ => by rw [upa_fn (by omega), upa_fn (by omega), upa_fn (by omega)]) O) (GS_nw e0 G) hrm ⟨⟨by omega, by omega⟩, h _ (fun a q => by rw [upa_fn q, upa_fn q, upa_fn q, upa_fn q]) ?_⟩
    rw [ffF_ext (fun i q1 q2 => e0 i (by omega) q2) n G.2.2.2.2.2.2.1]
    unfold kpF
    rw [if_neg q]
    simp only [upa_un]
  · refine l_isKeptX 117 49 α rfl (by omega) (fun α1 h1 h2 => ?_)
    have z48 : α1 233 48 = 40 := by rw [h2 48, if_neg (by omega)]; exact q
    have z0 : α1 233 0 = α 233 0 := by rw [h2 0, if_neg (by omega)]
    refine vX11_isKept_23 ⟨fun _ => ?_, fun q => by omega⟩
    rw [z48, z0, show (49 + 3 * 40 - 3 : Int) = 166 by omega]
    refine ⟨by unfold inR; omega, by unfold inR; omega, by unfold inR; omega, ⟨by omega, by omega⟩, by unfold inR; omega, ⟨by omega, by omega⟩, by unfold inR; omega, ?_⟩
    have e0 : ∀ i, 0 ≤ i → i < 48 → (upa (upa α1 233 166 (α 233 0)) 233 (166 + 1) x1) 233 i = α 233 i := fun i q1 q2 => by rw [upa_ni (by omega), upa_ni (by omega), h2 i, if_neg (by omega)]
    refine r_fullMany (MO_a (fun a _ _ => by rw [upa_fn (by omega), upa_fn (by omega)]; exact h1 a (by omega)) O) (GS_nw e0 G) hrm ⟨⟨by omega, by omega⟩, h _ (fun a q => by rw [upa_fn q, upa_fn q, upa_fn q]; exact h1 a q) ?_⟩
    rw [ffF_ext (fun i q1 q2 => e0 i (by omega) q2) n G.2.2.2.2.2.2.1]
    unfold kpF
    rw [if_pos q]
    simp only [upa_un]
    rw [show α1 233 = fun i => if 49 ≤ i ∧ i < 166 then α 233 (i + 3) else α 233 i from funext h2]
    rfl
theorem kpF_R (h48 : 0 ≤ nw 48 ∧ nw 48 ≤ 40) : kpR n rm nw v (kpF n rm nw v) := by
  unfold kpR kpF
  by_cases q : nw 48 = 40
  · simp only [if_pos q]
    have e48 : un (un (un (fun i => if 49 ≤ i ∧ i < 166 then nw (i + 3) else nw i) 166 (nw 0)) 167 v) 168 (ffF rm nw n) 48 = 40 := by
      rw [un_o (by omega), un_o (by omega), un_o (by omega), if_neg (by omega)]; exact q
    refine ⟨fun i q1 q2 => by rw [un_o (by omega), un_o (by omega), un_o (by omega), if_neg (by omega)], by rw [e48]; omega, fun k w q1 q2 q3 q4 => ?_, ?_, ?_, ?_⟩
    · rw [e48] at q2
      rw [un_o (by omega), un_o (by omega), un_o (by omega), if_pos (by omega), show 49 + 3 * k + w + 3 = 49 + 3 * (k + 1) + w by omega]
    · rw [e48, show (49 : Int) + 3 * (40 - 1) = 166 by omega, un_o (by omega), un_o (by omega), un_s]
    · rw [e48, show (49 : Int) + 3 * (40 - 1) + 1 = 167 by omega, un_o (by omega), un_s]
    · rw [e48, show (49 : Int) + 3 * (40 - 1) + 2 = 168 by omega, un_s]
  · simp only [if_neg q]
    have e48 : un (un (un (un nw 48 (nw 48 + 1)) (49 + 3 * (nw 48 + 1) - 3) (nw 0)) (49 + 3 * (nw 48 + 1) - 3 + 1) v) (49 + 3 * (nw 48 + 1) - 3 + 2) (ffF rm nw n) 48 = nw 48 + 1 := by
      rw [un_o (by omega), un_o (by omega), un_o (by omega), un_s]
    refine ⟨fun i q1 q2 => by rw [un_o (by omega), un_o (by omega), un_o (by omega), un_o (by omega)], by rw [e48]; omega, fun k w q1 q2 q3 q4 => ?_, ?_, ?_, ?_⟩
    · rw [e48] at q2
      rw [un_o (by omega), un_o (by omega), un_o (by omega), un_o (by omega), Int.add_zero]
    · rw [e48, show (49 : Int) + 3 * (nw 48 + 1 - 1) = 49 + 3 * (nw 48 + 1) - 3 by omega, un_o (by omega), un_o (by omega), un_s]
    · rw [e48, show (49 : Int) + 3 * (nw 48 + 1 - 1) + 1 = 49 + 3 * (nw 48 + 1) - 3 + 1 by omega, un_o (by omega), un_s]
    · rw [e48, show (49 : Int) + 3 * (nw 48 + 1 - 1) + 2 = 49 + 3 * (nw 48 + 1) - 3 + 2 by omega, un_s]
/-- a lived day, told by what was before -/
theorem lvF_R (G : GS n M ns rm nw) (h48 : 0 ≤ nw 48 ∧ nw 48 ≤ 40) : (∀ i, 0 ≤ i → i < 48 → lvF n M ns rm cs nw x i = (dayF (flF n M rm cs) n M ns nw).1 i) ∧ lvF n M ns rm cs nw x 48 = min 40 (nw 48 + 1) ∧ (∀ k w : Int, 0 ≤ k → k < lvF n M ns rm cs nw x 48 - 1 → 0 ≤ w → w < 3 → lvF n M ns rm cs nw x (49 + 3 * k + w) = nw (49 + 3 * (k + (if nw 48 = 40 then 1 else 0)) + w)) ∧ lvF n M ns rm cs nw x (49 + 3 * (lvF n M ns rm cs nw x 48 - 1)) = nw 0 ∧ lvF n M ns rm cs nw x (49 + 3 * (lvF n M ns rm cs nw x 48 - 1) + 1) = (dayF (flF n M rm cs) n M ns nw).2 + x ∧ lvF n M ns rm cs nw x (49 + 3 * (lvF n M ns rm cs nw x 48 - 1) + 2) = ffF rm (dayF (flF n M rm cs) n M ns nw).1 n := by
  have hn := G.2.2.2.2.2.2
  have nd : ∀ i, i < 2 ∨ 36 ≤ i → (dyF (flF n M rm cs) n M (nw, 0) ns).1 i = nw i := fun i hi => dyF_nd (by omega) (st := (nw, 0)) G ns
  have e48 := nd 48 (by omega)
  have K := kpF_R (n := n) (rm := rm) (nw := (dyF (flF n M rm cs) n M (nw, 0) ns).1) (v := (dayF (flF n M rm cs) n M ns nw).2 + x) (by rw [e48]; exact h48)
  obtain ⟨k1, k2, k3, k4, k5, k6⟩ := K
  have lo : ∀ i : Int, i ≠ 0 → lvF n M ns rm cs nw x i = kpF n rm (dyF (flF n M rm cs) n M (nw, 0) ns).1 ((dayF (flF n M rm cs) n M ns nw).2 + x) i := fun i hi => by unfold lvF; rw [un_o hi]
  have fe : ffF rm (dayF (flF n M rm cs) n M ns nw).1 n = ffF rm (dyF (flF n M rm cs) n M (nw, 0) ns).1 n := ffF_ext (fun i q1 q2 => by unfold dayF; dsimp only; rw [un_o (by omega)]) n hn.1
  rw [e48] at k2 k3
  rw [nd 0 (by omega)] at k4
  have b48 : 1 ≤ kpF n rm (dyF (flF n M rm cs) n M (nw, 0) ns).1 ((dayF (flF n M rm cs) n M ns nw).2 + x) 48 := by rw [k2]; omega
  rw [lo 48 (by omega)]
  refine ⟨fun i q1 q2 => ?_, k2, fun k w q1 q2 q3 q4 => ?_, ?_, ?_, ?_⟩
  · by_cases e : i = 0
    · subst e
      unfold lvF dayF
      dsimp only
      rw [un_s, un_s]
      have := k1 0 (by omega) (by omega)
      unfold dayF at this
      rw [this]
    · rw [lo i e, k1 i q1 q2]
      unfold dayF
      dsimp only
      rw [un_o e]
  · rw [lo _ (by omega), k3 k w q1 q2 q3 q4, nd _ (by split <;> omega)]
  · rw [lo _ (by omega)]; exact k4
  · rw [lo _ (by omega)]; exact k5
  · rw [lo _ (by omega), fe]; exact k6
theorem lv_ok (G : GS n M ns rm nw) (h48 : 0 ≤ nw 48 ∧ nw 48 ≤ 40) (hd : nw 0 ≤ 1999) : GS n M ns rm (lvF n M ns rm cs nw x) ∧ (0 ≤ lvF n M ns rm cs nw x 48 ∧ lvF n M ns rm cs nw x 48 ≤ 40) ∧ lvF n M ns rm cs nw x 0 = nw 0 + 1 := by
  obtain ⟨l1, l2, -⟩ := lvF_R (cs := cs) (x := x) G h48
  refine ⟨GS_nw l1 (dayF_G G hd), by omega, ?_⟩
  rw [l1 0 (by omega) (by omega), dayF_0 G]
theorem r_dayLivedX (hx : 0 ≤ x1 ∧ x1 ≤ 10000) (E : ME α n M ns rm cs) (G : GS n M ns rm (α 233)) (hov : 0 ≤ φ 11 53 198 ∧ φ 11 53 198 ≤ 2146000000) (h48 : 0 ≤ α 233 48 ∧ α 233 48 ≤ 40) (ht : φ 11 52 198 = 0) (h : ∀ φ' α', fm φ α φ' α' → α' 233 = lvF n M ns rm cs (α 233) x1 → φ' 11 53 198 = φ 11 53 198 + (dayF (flF n M rm cs) n M ns (α 233)).2 → Q 0 φ' α') : eX11_dayGoes (d + 6) x1 φ α Q := by
  obtain ⟨G', i2, i3, i4, i5⟩ := dyF_inv (cs := cs) (st := (α 233, 0)) G ns
  have hn := G.2.2.2.2.2.2
  have hd0 := G.1
  dsimp only at i4 i5 i3
  have n48 : (dyF (flF n M rm cs) n M (α 233, 0) ns).1 48 = α 233 48 := dyF_nd (by omega) G ns
  refine vX11_dayGoes_0 (l_day7 (cs := cs) (nw := α 233) G (ov := φ 11 53 198) (by omega) ns 0 (by omega) φ α rfl (by show _ = φ 11 53 198 + 0; omega) E (fun φ1 α1 X1 V1 E1 f1 => ?_))
  refine vX11_dayGoes_7 ⟨fun _ => ⟨by rw [V1]; unfold inR; omega, by rw [V1]; unfold inR; omega, r_isKeptX E1.1 (by rw [X1]; exact G') E1.2.1 (by rw [X1, n48]; exact h48) (by rw [f1.1 _ _ _ (by omega)]; exact ht) (fun α2 h1 hk => ?_)⟩, fun q => by rw [E1.1.2.2.1] at q; omega⟩
  rw [V1, show φ 11 53 198 + (dyF (flF n M rm cs) n M (α 233, 0) ns).2 - φ 11 53 198 + x1 = (dayF (flF n M rm cs) n M ns (α 233)).2 + x1 by show _ = (dyF (flF n M rm cs) n M (α 233, 0) ns).2 + x1; omega, X1] at hk
  have e1 : α2 233 0 = α 233 0 := by
    rw [hk, (kpF_R (by rw [n48]; exact h48)).1 0 (by omega) (by omega)]; exact i3
  refine ⟨by rw [e1]; unfold inR; omega, h _ _ (f1.tr (⟨fun _ _ _ _ => rfl, fun a q _ => h1 a q⟩ : fm φ1 α1 φ1 α2) |>.tr fm_a) ?_ V1⟩
  rw [upa_un, hk]
  rfl
theorem c_keepDay {w1 w2 w3 : Int} (hb : isSt b) (K : XK b φ α nw) (l2 : nw' 48 = min 40 (nw 48 + 1)) (l3 : ∀ k w : Int, 0 ≤ k → k < nw' 48 - 1 → 0 ≤ w → w < 3 → nw' (49 + 3 * k + w) = nw (49 + 3 * (k + (if nw 48 = 40 then 1 else 0)) + w)) (l4 : nw' (49 + 3 * (nw' 48 - 1)) = w1) (l5 : nw' (49 + 3 * (nw' 48 - 1) + 1) = w2) (l6 : nw' (49 + 3 * (nw' 48 - 1) + 2) = w3) (h : ∀ φ' α', XK b φ' α' nw' → (∀ c f o, ¬ (c = 7 ∧ o = b ∧ (f = 7 ∨ f = 8)) → φ' c f o = φ c f o) → (∀ a : Int, a ≠ b + 6 → α' a = α a) → Q 0 φ' α') : eX7_keepDay (d + 1) b w1 w2 w3 φ α Q := by
  obtain ⟨k1, k2, k3, k4, k5, k6⟩ := K
  refine vX7_keepDay_0 hb ?_
  rw [tmod40 (by omega)]
  have new : ∀ w : Int, 0 ≤ w → w < 3 → upa (upa (upa α (b + 6) (3 * ((φ 7 7 b + φ 7 8 b) % 40)) w1) (b + 6) (3 * ((φ 7 7 b + φ 7 8 b) % 40) + 1) w2) (b + 6) (3 * ((φ 7 7 b + φ 7 8 b) % 40) + 2) w3 (b + 6) (3 * ((φ 7 7 b + φ 7 8 b) % 40) + w) = nw' (49 + 3 * (nw' 48 - 1) + w) := by
    intro w q3 q4
    rcases (show w = 0 ∨ w = 1 ∨ w = 2 by omega) with rfl | rfl | rfl
    · rw [Int.add_zero, Int.add_zero, upa_ni (by omega), upa_ni (by omega), upa_eq]; exact l4.symm
    · rw [upa_ni (by omega), upa_eq]; exact l5.symm
    · rw [upa_eq]; exact l6.symm
  have old : ∀ r w : Int, r ≠ (φ 7 7 b + φ 7 8 b) % 40 → 0 ≤ w → w < 3 → upa (upa (upa α (b + 6) (3 * ((φ 7 7 b + φ 7 8 b) % 40)) w1) (b + 6) (3 * ((φ 7 7 b + φ 7 8 b) % 40) + 1) w2) (b + 6) (3 * ((φ 7 7 b + φ 7 8 b) % 40) + 2) w3 (b + 6) (3 * r + w) = α (b + 6) (3 * r + w) := by
    intro r w q q3 q4
    rw [upa_ni (by omega), upa_ni (by omega), upa_ni (by omega)]
  have oA : ∀ a : Int, a ≠ b + 6 → upa (upa (upa α (b + 6) (3 * ((φ 7 7 b + φ 7 8 b) % 40)) w1) (b + 6) (3 * ((φ 7 7 b + φ 7 8 b) % 40) + 1) w2) (b + 6) (3 * ((φ 7 7 b + φ 7 8 b) % 40) + 2) w3 a = α a := fun a q => by rw [upa_fn q, upa_fn q, upa_fn q]
  refine ⟨by unfold inR; omega, by unfold inR; omega, by unfold inR; omega, c_set (st6 hb) ⟨by omega, by omega⟩ ⟨by unfold inR; omega, by unfold inR; omega, c_set (st6 hb) ⟨by omega, by omega⟩ ⟨by unfold inR; omega, by unfold inR; omega, c_set (st6 hb) ⟨by omega, by omega⟩ ⟨fun q => ?_, fun q => ?_⟩⟩⟩⟩
  · rw [tmod40 (by omega)]
    refine ⟨by unfold inR; omega, by unfold inR; omega, h _ _ ?_ (fun c f o z => upf_o (by omega)) oA⟩
    have c40 : nw 48 = 40 := by omega
    unfold XK
    rw [upf_s, upf_o (by omega)]
    refine ⟨by omega, by omega, by omega, by omega, by omega, fun k w q1 q2 q3 q4 => ?_⟩
    by_cases e : k = nw' 48 - 1
    · rw [show ((φ 7 7 b + 1) % 40 + k) % 40 = (φ 7 7 b + φ 7 8 b) % 40 by omega, new w q3 q4, e]
    · rw [old _ w (by omega) q3 q4, show ((φ 7 7 b + 1) % 40 + k) % 40 = (φ 7 7 b + (k + 1)) % 40 by omega, k6 (k + 1) w (by omega) (by omega) q3 q4, l3 k w q1 (by omega) q3 q4, if_pos c40]
  · refine ⟨by unfold inR; omega, h _ _ ?_ (fun c f o z => upf_o (by omega)) oA⟩
    have c40 : ¬ nw 48 = 40 := by omega
    unfold XK
    rw [upf_o (by omega), upf_s]
    refine ⟨k1, k2, by omega, by omega, by omega, fun k w q1 q2 q3 q4 => ?_⟩
    by_cases e : k = nw' 48 - 1
    · rw [show (φ 7 7 b + k) % 40 = (φ 7 7 b + φ 7 8 b) % 40 by rw [show k = φ 7 8 b by omega], new w q3 q4, e]
    · rw [old _ w (by omega) q3 q4, k6 k w (by omega) (by omega) q3 q4, l3 k w q1 (by omega) q3 q4, if_neg c40, Int.add_zero]
theorem c_liveDay (S : SN 29 φ α n M ns rm cs nw) (E : XE φ α n M ns rm cs) (hd : nw 0 ≤ 998) (hx : 0 ≤ x ∧ x ≤ 10000) (h : ∀ φ' α', SN 29 φ' α' n M ns rm cs (lvF n M ns rm cs nw x) → XE φ' α' n M ns rm cs → fl φ α φ' α' → φ' 10 15 0 = φ 10 15 0 → Q (dayF (flF n M rm cs) n M ns nw).2 φ' α') : eX10_liveDay (d + 5) x φ α Q := by
  obtain ⟨X, G, K, D, T⟩ := S
  have mv := dayF_mv (cs := cs) G
  have h48 : 0 ≤ nw 48 ∧ nw 48 ≤ 40 := ⟨K.2.2.2.1, K.2.2.2.2.1⟩
  obtain ⟨l1, l2, l3, l4, l5, l6⟩ := lvF_R (cs := cs) (x := x) G h48
  obtain ⟨o1, o2, o3⟩ := lv_ok (cs := cs) (x := x) G h48 (by omega)
  have G1 := dayF_G (cs := cs) G (by omega)
  refine vX10_liveDay_0 (c_passDay st29 X G E T (fun φ1 α1 X1 f1 T1 => ⟨by unfold inR; omega, ?_⟩))
  have E1 := XE_frd st29 f1 E
  refine c_countFull st29 X1 G1 E1.1 E.2.2.2.2.2.1 ?_
  rw [X.1]
  refine c_keepDay (nw' := lvF n M ns rm cs nw x) st29 (XK_of (f1.1 _ _ _ (by omega)) (f1.1 _ _ _ (by omega)) (f1.2 _ (by omega) (by omega) (by omega)) (fun _ _ _ => rfl) K) l2 l3 l4 (by rw [l5]; omega) l6 (fun φ2 α2 K2 g2 a2 => ?_)
  have e9 : φ2 7 9 29 = φ1 7 9 29 := g2 _ _ _ (by omega)
  have e10 : φ2 7 10 29 = φ1 7 10 29 := g2 _ _ _ (by omega)
  refine h φ2 α2 ⟨?_, o1, K2, by omega, stl_ext G1 (fun i q1 q2 => l1 i (by omega) q2) e9 e10 T1⟩ ?_ ⟨?_, ?_⟩ ?_
  · exact XS_nw G.2.2.2.2.2.2.1 l1 (XS_of (g2 _ _ _ (by omega)) (fun i q1 q2 => a2 _ (by omega)) X1)
  · exact XE_of (fun f o => g2 _ _ _ (by omega)) (g2 _ _ _ (by omega)) (a2 _ (by omega)) (a2 _ (by omega)) E1
  · intro c f o q1 q2
    rw [g2 c f o (by omega)]
    exact f1.1 c f o (by omega)
  · intro a q1 q2 q3
    rw [a2 a (by omega)]
    exact f1.2 a (by omega) q2 q3
  · rw [g2 _ _ _ (by omega)]
    exact f1.1 _ _ _ (by omega)
/-- k lived days -/
def lvN (n M ns : Nat) (rm : Int → Int) (cs : List Int) (nw : Int → Int) : Nat → (Int → Int) × Int
  | 0 => (nw, 0)
  | k + 1 => (lvF n M ns rm cs (lvN n M ns rm cs nw k).1 0, (lvN n M ns rm cs nw k).2 + (dayF (flF n M rm cs) n M ns (lvN n M ns rm cs nw k).1).2)
theorem lvN_ok (G : GS n M ns rm nw) (h48 : 0 ≤ nw 48 ∧ nw 48 ≤ 40) : ∀ k : Nat, nw 0 + k ≤ 1999 → GS n M ns rm (lvN n M ns rm cs nw k).1 ∧ (0 ≤ (lvN n M ns rm cs nw k).1 48 ∧ (lvN n M ns rm cs nw k).1 48 ≤ 40) ∧ (lvN n M ns rm cs nw k).1 0 = nw 0 + k ∧ 0 ≤ (lvN n M ns rm cs nw k).2 ∧ (lvN n M ns rm cs nw k).2 ≤ 1782 * (k : Int)
  | 0, _ => ⟨G, h48, by show nw 0 = nw 0 + ((0 : Nat) : Int); omega, Int.le_refl _, by show (0 : Int) ≤ _; omega⟩
  | k + 1, h => by
    obtain ⟨i1, i2, i3, i4, i5⟩ := lvN_ok G h48 k (by omega)
    obtain ⟨o1, o2, o3⟩ := lv_ok (cs := cs) (x := 0) i1 i2 (by omega)
    have mv := dayF_mv (cs := cs) i1
    refine ⟨o1, o2, by show lvF n M ns rm cs (lvN n M ns rm cs nw k).1 0 0 = _; rw [o3]; omega, ?_, ?_⟩
    · show 0 ≤ (lvN n M ns rm cs nw k).2 + _; omega
    · show (lvN n M ns rm cs nw k).2 + _ ≤ _; omega
theorem l_days {N : Nat} (G : GS n M ns rm nw) (h48 : 0 ≤ nw 48 ∧ nw 48 ≤ 40) (hN : nw 0 + N ≤ 999) (h : ∀ φ' α', SN 29 φ' α' n M ns rm cs (lvN n M ns rm cs nw N).1 → fl φ0 α0 φ' α' → φ' 10 15 0 = φ0 10 15 0 → Q (lvN n M ns rm cs nw N).2 φ' α') : ∀ (r k : Nat), k + r = N → ∀ (φ : aF) (α : aA), SN 29 φ α n M ns rm cs (lvN n M ns rm cs nw k).1 → XE φ α n M ns rm cs → fl φ0 α0 φ α → φ 10 15 0 = φ0 10 15 0 → jX10_days_32 (d + 6) (N : Int) (lvN n M ns rm cs nw k).2 k φ α Q
  | 0, k, hk, φ, α, S, E, f, z => by
    have e : k = N := by omega
    subst e
    exact vX10_days_32 ⟨fun _ => h φ α S f z, fun q => by omega⟩
  | r + 1, k, hk, φ, α, S, E, f, z => by
    obtain ⟨i1, i2, i3, i4, i5⟩ := lvN_ok (cs := cs) G h48 k (by omega)
    have g0 := G.1
    have mv := dayF_mv (cs := cs) i1
    refine vX10_days_32 ⟨fun q => by omega, fun _ => c_liveDay S E (by omega) (by omega) (fun φ1 α1 S1 E1 f1 z1 => ⟨by unfold inR; omega, by unfold inR; omega, ?_⟩)⟩
    have := l_days G h48 hN h r (k + 1) (by omega) φ1 α1 S1 E1 (f.tr f1) (z1.trans z)
    rw [show ((k + 1 : Nat) : Int) = (k : Int) + 1 by omega] at this
    exact this
theorem l_daysM {N : Nat} (G : GS n M ns rm nw) (h48 : 0 ≤ nw 48 ∧ nw 48 ≤ 40) (hN : nw 0 + N ≤ 999) (hN1 : N ≤ 100) (h : ∀ φ' α', fn φ0 α0 φ' α' → α' 233 = (lvN n M ns rm cs nw N).1 → φ' 11 53 198 = (lvN n M ns rm cs nw N).2 → φ' 11 62 198 = φ0 11 62 198 → Q 0 φ' α') : ∀ (r k : Nat), k + r = N → ∀ (φ : aF) (α : aA), fn φ0 α0 φ α → ME α n M ns rm cs → φ 11 52 198 = 0 → α 233 = (lvN n M ns rm cs nw k).1 → φ 11 53 198 = (lvN n M ns rm cs nw k).2 → φ 11 62 198 = φ0 11 62 198 → jX11_daysGo_2 (d + 7) (N : Int) k φ α Q
  | 0, k, hk, φ, α, f, E, ht, e, v, z => by
    have q : k = N := by omega
    subst q
    exact vX11_daysGo_2 ⟨fun _ => h φ α f e v z, fun q => by omega⟩
  | r + 1, k, hk, φ, α, f, E, ht, e, v, z => by
    obtain ⟨i1, i2, i3, i4, i5⟩ := lvN_ok (cs := cs) G h48 k (by omega)
    refine vX11_daysGo_2 ⟨fun q => by omega, fun _ => r_dayLivedX (by omega) E (by rw [e]; exact i1) (by omega) (by rw [e]; exact i2) ht (fun φ1 α1 f1 e1 v1 => ⟨by unfold inR; omega, ?_⟩)⟩
    have := l_daysM G h48 hN hN1 h r (k + 1) (by omega) φ1 α1 (f.tr (fn_m f1)) (ME_fm f1 E) ((f1.1 _ _ _ (by omega)).trans ht) (by rw [e1, e]; rfl) (by rw [v1, v, e]; rfl) ((f1.1 _ _ _ (by omega)).trans z)
    rw [show ((k + 1 : Nat) : Int) = (k : Int) + 1 by omega] at this
    exact this
theorem r_isAheadX (g : 0 ≤ α 233 0 ∧ α 233 0 ≤ 2000) (op : φ 11 46 198 = 0 ∨ φ 11 46 198 = 1) (hy : 0 ≤ y) (hz : z ≤ 1000) (h : Q (if φ 11 46 198 = 1 ∧ (y ≤ x ∧ x ≤ z) ∧ α 233 0 + x ≤ 999 then 1 else 0) φ α) : eX11_isAhead (d + 1) x y z φ α Q := by
  refine vX11_isAhead_0 ⟨fun q => ?_, fun q => r_isIn ?_⟩
  · rwa [if_neg (by omega)] at h
  · by_cases e : y ≤ x ∧ x ≤ z
    · rw [if_pos e]
      exact ⟨fun q => by omega, fun _ => ⟨by unfold inR; omega, fun q2 => by rwa [if_neg (by omega)] at h, fun q2 => by rwa [if_pos (by omega)] at h⟩⟩
    · rw [if_neg e]
      exact ⟨fun _ => by rwa [if_neg (fun w => e w.2.1)] at h, fun q => absurd rfl q⟩
theorem ME_A (I : Iv n M ns rm cs ct sr j φ α) (A : AC n M ns rm cs φ α φ1 α1) (E : ME α n M ns rm cs) : ME α1 n M ns rm cs := ME_of (fun a _ _ => A.2.1 a (by omega) (by have := I.p2; omega) (by omega) (by omega)) E
theorem p_days (hj : j < 512) (I : Inv sr j φ α) : eX10_days (d + 20) x φ α (fun r φ1 α1 => eX11_days (d + 20) x φ1 α1 (pq sr j r)) := by
  obtain ⟨n, M, ns, rm, cs, ct, I⟩ := I
  have hn := I.G.2.2.2.2.2.2
  have P := I.p2
  have g0 := I.G.1
  have o01 : φ 11 46 198 = 0 ∨ φ 11 46 198 = 1 := by have := I.op01; omega
  refine vX10_days_0 (c_canPass I (by omega) (by omega) ?_)
  by_cases e : φ 11 46 198 = 1 ∧ (1 ≤ x ∧ x ≤ 100) ∧ α 233 0 + x ≤ 999
  · rw [if_pos e]
    obtain ⟨op, E, ME0, SH0⟩ := I.open_ (by omega)
    obtain ⟨N, rfl⟩ : ∃ N : Nat, x = N := ⟨x.toNat, by omega⟩
    have h48 : 0 ≤ α 233 48 ∧ α 233 48 ≤ 40 := ⟨I.K.2.2.2.1, I.K.2.2.2.2.1⟩
    refine ⟨fun _ => c_keep P.1 P.2.1 I.N (fun φ1 α1 A1 S1 z1 => ?_), fun q => by omega⟩
    have E1 : XE φ1 α1 n M ns rm cs := XE_of (fun f o => A1.1 _ _ _ (by omega) (by omega) (by omega)) (A1.1 _ _ _ (by omega) (by omega) (by omega)) (A1.2.1 _ (by omega) (by omega) (by omega) (by omega)) (A1.2.1 _ (by omega) (by omega) (by omega) (by omega)) E
    have := l_days (d := d + 14) (φ0 := φ1) (α0 := α1) (N := N) (cs := cs) (Q := fun r φ1 α1 => eX11_days (d + 20) (N : Int) φ1 α1 (pq sr j r)) I.G h48 (by omega) (fun φ2 α2 S2 f2 z2 => by
      have A2 := AC_l P.1 A1 f2
      obtain ⟨a233, O2, G2, m61, m60, m53, m62, m46, m52⟩ := Iv_A I A2
      refine vX11_days_0 (r_isAheadX (by rw [a233]; exact g0) (by rw [m46]; exact o01) (by omega) (by omega) ?_)
      rw [m46, a233, if_pos e]
      refine ⟨fun _ => r_keeps (by omega) (by omega) (fun φ3 α3 K3 b3 v3 d3 => vX11_daysGo_0 ?_), fun q => by omega⟩
      have := l_daysM (d := d + 12) (φ0 := upf φ3 11 53 198 0) (α0 := α3) (N := N) (cs := cs) (Q := fun r4 φ4 α4 => pq sr j (lvN n M ns rm cs (α 233) N).2 (φ4 11 53 198) φ4 α4) I.G h48 (by omega) (by omega) (fun φ4 α4 f4 a4 v4 d4 => by
        have K4 := RK_n K3 (fn.tr (⟨fun c f o q => upf_o (by omega), fun _ _ _ => rfl⟩ : fn φ3 α3 (upf φ3 11 53 198 0) α3) f4)
        obtain ⟨i1, i2, i3, i4, i5⟩ := lvN_ok (cs := cs) I.G h48 N (by omega)
        refine ⟨v4.symm, act_close I A2 K4 (SN_RK K4 S2 a4) (iD_nx ?_ ?_ I) (by rw [v4]; omega)⟩
        · rw [K4.1 _ _ _ (by omega), z2]; exact z1
        · rw [d4, upf_o (by omega), d3]; exact m62) N 0 (by omega) (upf φ3 11 53 198 0) α3 fn.rf (ME_of (fun a _ _ => K3.2.1 a (by omega) (by omega) (by omega)) (ME_A I A2 ME0)) (by rw [upf_o (by omega), K3.1 _ _ _ (by omega), m52]; exact I.2.2.2.2.2.1.1) (by rw [b3, a233]; rfl) upf_s rfl
      exact this) N 0 (by omega) φ1 α1 S1 E1 fl.rf rfl
    exact this
  · rw [if_neg e]
    refine ⟨fun q => absurd rfl q, fun _ => c_refuse hj I (by omega) (vX11_days_0 (r_isAheadX (by rw [rf_o (by omega)]; exact g0) o01 (by omega) (by omega) ?_))⟩
    rw [rf_o (by omega), if_neg e]
    exact ⟨fun q => absurd rfl q, fun _ => r_refuses hj I (by omega)⟩
end LV
