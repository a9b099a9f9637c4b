/-! calls that only ask -/
def pq (sr : Int → Int) (j : Nat) (r : Int) : Int → aF → aA → Prop := fun r2 φ2 α2 => r = r2 ∧ Inv sr (j + 1) φ2 α2
theorem itF_stop {f : Int → Nat → Int} {a : Int} {n : Nat} : ∀ (N : Nat), n ≤ N → (∀ x (c : Nat), n ≤ c → c < N → f x c = x) → itF f a N = itF f a n
  | 0, h, _ => by rw [show n = 0 by omega]
  | N + 1, h, hf => by
    by_cases e : n = N + 1
    · rw [e]
    · rw [itF, hf _ N (by omega) (by omega), itF_stop N (by omega) (fun x c q1 q2 => hf x c q1 (by omega))]
theorem itF_ext {f g : Int → Nat → Int} {a : Int} : ∀ (N : Nat), (∀ x (c : Nat), c < N → f x c = g x c) → itF f a N = itF g a N
  | 0, _ => rfl
  | N + 1, h => by rw [itF, itF, itF_ext N (fun x c q => h x c (by omega)), h _ N (by omega)]
theorem sumF_it {f : Int → Int} : ∀ m : Nat, sumF f m = itF (fun x c => x + f c) 0 m
  | 0 => rfl
  | m + 1 => by rw [sumF, itF, sumF_it m]
section QR
variable {d j : Nat} {φ φ' : aF} {α α' : aA} {Q : Int → aF → aA → Prop} {b c o m x y v s k ce side : Int} {n M ns : Nat} {rm nw nw' sr : Int → Int} {cs ct : List Int}
theorem GS.fl0 (G : GS n M ns rm nw) {c : Nat} (h1 : n ≤ c) (h2 : c < 7) : fullF nw c = 0 := by
  have e := fun (m : Int) h3 h4 => (G.2.2.2.1 c m (by omega) (by omega) h3 h4).2 (Or.inl (by omega))
  have e0 := e 0 (by omega) (by omega); have e1 := e 1 (by omega) (by omega); have e2 := e 2 (by omega) (by omega); have e3 := e 3 (by omega) (by omega)
  rw [Int.add_zero] at e0
  rw [show (2 : Int) + 5 * c + 1 = 3 + 5 * c by omega] at e1
  rw [show (2 : Int) + 5 * c + 2 = 4 + 5 * c by omega] at e2
  rw [show (2 : Int) + 5 * c + 3 = 5 + 5 * c by omega] at e3
  unfold fullF
  omega
theorem kn_n (G : GS n M ns rm nw) (hm : 0 ≤ m ∧ m < 4) : knF nw m 7 = knF nw m n := by
  have hn := G.2.2.2.2.2.2
  refine itF_stop 7 hn.1 (fun x c q1 q2 => ?_)
  rw [(G.2.2.2.1 c m (by omega) (by omega) hm.1 hm.2).2 (Or.inl (by omega)), if_neg (by omega)]
theorem hd_n (G : GS n M ns rm nw) (hm : 0 ≤ m ∧ m < 4) : hdF nw m 7 = hdF nw m n := by
  have hn := G.2.2.2.2.2.2
  refine itF_stop 7 hn.1 (fun x c q1 q2 => ?_)
  rw [(G.2.2.2.1 c m (by omega) (by omega) hm.1 hm.2).2 (Or.inl (by omega)), Int.add_zero]
theorem pl_n (G : GS n M ns rm nw) (hp : 0 ≤ x ∧ x < 3) : plF nw x 4 = plF nw x M := by
  have hn := G.2.2.2.2.2.2
  refine itF_stop 4 hn.2.1 (fun y m q1 q2 => ?_)
  rw [(G.2.2.2.2.2.1 m x (by omega) (by omega) hp.1 hp.2).2.2 (by omega), Int.add_zero]
theorem md_n (G : GS n M ns rm nw) (hc : 0 ≤ c ∧ c < 7) : ∀ N : Nat, M ≤ N → N ≤ 4 → mdF nw c N = mdF nw c M
  | 0, h, _ => by rw [show M = 0 by omega]
  | N + 1, h, h4 => by
    by_cases e : M = N + 1
    · rw [e]
    · have ih := md_n G hc N (by omega) (by omega)
      have z := (G.2.2.2.1 c N hc.1 hc.2 (by omega) (by omega)).2 (Or.inr (by omega))
      rw [mdF, z, if_neg (by have := md_nn (nw := nw) (c := c) N; omega)]
      exact ih
where md_nn {nw : Int → Int} {c : Int} : ∀ N : Nat, 0 ≤ (mdF nw c N).2
  | 0 => Int.le_refl _
  | N + 1 => by
    rw [mdF]
    have := md_nn (nw := nw) (c := c) N
    split
    · dsimp only; omega
    · exact this
theorem md_bd : ∀ N : Nat, -1 ≤ (mdF nw c N).1 ∧ (mdF nw c N).1 < N
  | 0 => ⟨by simp [mdF], by simp [mdF]⟩
  | N + 1 => by
    have := md_bd N
    rw [mdF]
    split
    · dsimp only; omega
    · omega
theorem c_areThere (O : XO φ α n M ns rm) (h : Q (if (0 ≤ x ∧ x < n) ∧ (0 ≤ y ∧ y < M) then 1 else 0) φ α) : eX2_areThere (d + 1) 9 x y φ α Q := by
  refine vX2_areThere_0 of9 (c_isClerk O.2.2.1 ?_)
  by_cases e : 0 ≤ x ∧ x < n
  · rw [if_pos e]
    refine ⟨fun q => by omega, fun _ => c_isMatter O.2.1 ?_⟩
    by_cases e2 : 0 ≤ y ∧ y < M
    · rw [if_pos ⟨e, e2⟩] at h; rw [if_pos e2]; exact ⟨fun q => by omega, fun _ => h⟩
    · rw [if_neg (fun z => e2 z.2)] at h; rw [if_neg e2]; exact ⟨fun _ => h, fun q => absurd rfl q⟩
  · rw [if_neg (fun z => e z.1)] at h; rw [if_neg e]; exact ⟨fun _ => h, fun q => absurd rfl q⟩
theorem l_countFull (hb : isSt b) (X : XS b φ α n nw) (G : GS n M ns rm nw) (O : XO φ α n M ns rm) (hrm : ∀ c : Int, 0 ≤ c → c < n → 0 ≤ rm c) (h : Q (ffF rm nw n) φ α) : ∀ (r k : Nat), k + r = n → jX9_countFull_4 (d + 2) b (ffF rm nw k) k φ α Q
  | 0, k, hk => vX9_countFull_4 hb ⟨fun _ => by rw [show k = n by omega]; exact h, fun q => by rw [O.2.2.1] at q; omega⟩
  | r + 1, k, hk => vX9_countFull_4 hb ⟨fun q => by rw [O.2.2.1] at q; omega, fun _ => c_space hb X G O hrm (by omega) (by
      have ih := l_countFull hb X G O hrm h r (k + 1) (by omega)
      have hn := G.2.2.2.2.2.2
      have hb := ffF_bd rm nw k
      rw [show ffF rm nw (k + 1) = if rm k - fullF nw k = 0 then ffF rm nw k + 1 else ffF rm nw k from rfl] at ih
      refine ⟨fun q => ⟨by unfold inR; omega, ?_⟩, fun q => ⟨by unfold inR; omega, by unfold inR; omega, ?_⟩⟩
      · rw [if_neg q] at ih; exact ih
      · rw [if_pos q] at ih; exact ih)⟩
theorem c_countFull (hb : isSt b) (X : XS b φ α n nw) (G : GS n M ns rm nw) (O : XO φ α n M ns rm) (hrm : ∀ c : Int, 0 ≤ c → c < n → 0 ≤ rm c) (h : Q (ffF rm nw n) φ α) : eX9_countFull (d + 2) b φ α Q := vX9_countFull_0 hb (l_countFull hb X G O hrm h n 0 (by omega))
theorem tmod40 {z : Int} (h : 0 ≤ z) : Int.tmod z 40 = z % 40 := Int.tmod_eq_emod_of_nonneg h
theorem c_keptAt {w : Int} (hb : isSt b) (K : XK b φ α nw) (hw : 0 ≤ w ∧ w < 3) (h : Q (if 0 ≤ k ∧ k < nw 48 then nw (49 + 3 * k + w) else -1) φ α) : eX7_keptAt (d + 1) b k w φ α Q := by
  obtain ⟨k1, k2, k3, k4, k5, k6⟩ := K
  refine vX7_keptAt_0 hb ⟨fun q => ?_, fun q => ⟨fun q2 => ?_, fun q2 => ?_⟩⟩
  · rwa [if_neg (by omega)] at h
  · rw [k3] at q2
    rw [if_pos (by omega)] at h
    rw [tmod40 (by omega)]
    refine ⟨by unfold inR; omega, by unfold inR; omega, by unfold inR; omega, by unfold inR; omega, c_pick (st6 hb) ⟨by omega, by omega⟩ ?_⟩
    rw [k6 k w (by omega) q2 hw.1 hw.2]
    exact h
  · rw [k3] at q2
    rwa [if_neg (by omega)] at h
-- the reference's sums
theorem l_dropAll (O : α 226 3 = n) (G : GS n M ns rm (α 233)) (h : Q (itF (fun x c => x + fullF (α 233) c) 0 n) φ α) : ∀ (r k : Nat), k + r = n → jX11_dropAll_4 (d + 2) (itF (fun x c => x + fullF (α 233) c) 0 k) k φ α Q
  | 0, k, hk => vX11_dropAll_4 (r_cMany O ⟨fun _ => by rw [show k = n by omega]; exact h, fun q => by omega⟩)
  | r + 1, k, hk => vX11_dropAll_4 (r_cMany O ⟨fun q => by omega, fun _ => r_fullOf G (by have := G.2.2.2.2.2.2; omega) (by
      have hn := G.2.2.2.2.2.2
      have b1 := itF_bd (lo := 0) (hi := 0) (f := fun x c => x + fullF (α 233) c) (B := 396) (by omega) k 7 (by omega) (fun x j hj => by have := G.full (c := j) (by omega) (by omega); omega)
      have b2 := G.full (c := k) (by omega) (by omega)
      exact ⟨by unfold inR; omega, by unfold inR; omega, l_dropAll O G h r (k + 1) (by omega)⟩)⟩)
theorem r_dropAll (O : α 226 3 = n) (G : GS n M ns rm (α 233)) (h : Q (itF (fun x c => x + fullF (α 233) c) 0 n) φ α) : eX11_dropAll (d + 2) φ α Q := vX11_dropAll_0 (l_dropAll O G h n 0 (by omega))
theorem l_floorAll (O : α 226 2 = M) (G : GS n M ns rm (α 233)) (h : Q (plF (α 233) 0 M) φ α) : ∀ (r k : Nat), k + r = M → jX11_floorAll_4 (d + 1) (plF (α 233) 0 k) k φ α Q
  | 0, k, hk => vX11_floorAll_4 (r_mMany O ⟨fun _ => by rw [show k = M by omega]; exact h, fun q => by omega⟩)
  | r + 1, k, hk => vX11_floorAll_4 (r_mMany O ⟨fun q => by omega, fun _ => r_floorOf (by have := G.2.2.2.2.2.2; omega) (by
      have hn := G.2.2.2.2.2.2
      have b1 := G.pl (p := 0) (by omega) (k := k) (by omega)
      have b2 := G.2.2.2.2.2.1 k 0 (by omega) (by omega) (by omega) (by omega)
      rw [Int.add_zero] at b2
      have ih := l_floorAll O G h r (k + 1) (by omega)
      rw [show plF (α 233) 0 (k + 1) = plF (α 233) 0 k + α 233 (36 + 3 * (k : Int) + 0) from rfl, Int.add_zero] at ih
      exact ⟨by unfold inR; omega, by unfold inR; omega, ih⟩)⟩)
theorem r_floorAll (O : α 226 2 = M) (G : GS n M ns rm (α 233)) (h : Q (plF (α 233) 0 M) φ α) : eX11_floorAll (d + 1) φ α Q := vX11_floorAll_0 (l_floorAll O G h M 0 (by omega))
theorem l_inClerks (O : α 226 3 = n) (G : GS n M ns rm (α 233)) (hm : 0 ≤ m ∧ m < 4) (h : Q (hdF (α 233) m n) φ α) : ∀ (r k : Nat), k + r = n → jX11_inClerks_4 (d + 1) m (hdF (α 233) m k) k φ α Q
  | 0, k, hk => vX11_inClerks_4 (r_cMany O ⟨fun _ => by rw [show k = n by omega]; exact h, fun q => by omega⟩)
  | r + 1, k, hk => vX11_inClerks_4 (r_cMany O ⟨fun q => by omega, fun _ => r_dropsOf (by have := G.2.2.2.2.2.2; omega) hm (by
      have hn := G.2.2.2.2.2.2
      have b1 := G.hd hm (k := k) (by omega)
      have b2 := G.drop (c := k) (by omega) (by omega) hm.1 hm.2
      exact ⟨by unfold inR; omega, by unfold inR; omega, l_inClerks O G hm h r (k + 1) (by omega)⟩)⟩)
theorem r_inClerks (O : α 226 3 = n) (G : GS n M ns rm (α 233)) (hm : 0 ≤ m ∧ m < 4) (h : Q (hdF (α 233) m n) φ α) : eX11_inClerks (d + 1) m φ α Q := vX11_inClerks_0 (l_inClerks O G hm h n 0 (by omega))
theorem l_knowersOf (O : α 226 3 = n) (hn : n ≤ 7) (hm : 0 ≤ m ∧ m < 4) (h : Q (knF (α 233) m n) φ α) : ∀ (r k : Nat), k + r = n → jX11_knowersOf_4 (d + 1) m (knF (α 233) m k) k φ α Q
  | 0, k, hk => vX11_knowersOf_4 (r_cMany O ⟨fun _ => by rw [show k = n by omega]; exact h, fun q => by omega⟩)
  | r + 1, k, hk => vX11_knowersOf_4 (r_cMany O ⟨fun q => by omega, fun _ => r_dropsOf (by omega) hm (by
      have ih := l_knowersOf O hn hm h r (k + 1) (by omega)
      rw [show knF (α 233) m (k + 1) = if 0 < α 233 (2 + 5 * (k : Int) + m) then iOr (knF (α 233) m k) (iShl 1 k) else knF (α 233) m k from rfl] at ih
      refine ⟨fun q => ⟨by unfold inR; omega, ?_⟩, fun q => ⟨by unfold inR; omega, ?_⟩⟩
      · rw [if_neg (by omega)] at ih; exact ih
      · rw [if_pos (by omega)] at ih; exact ih)⟩)
theorem r_knowersOf (O : α 226 3 = n) (hn : n ≤ 7) (hm : 0 ≤ m ∧ m < 4) (h : Q (knF (α 233) m n) φ α) : eX11_knowersOf (d + 1) m φ α Q := vX11_knowersOf_0 (l_knowersOf O hn hm h n 0 (by omega))
theorem Iv.inv (I : Iv n M ns rm cs ct sr j φ α) : Inv sr j φ α := ⟨n, M, ns, rm, cs, ct, I⟩
theorem Iv.nx (I : Iv n M ns rm cs ct sr j φ α) : Inv sr (j + 1) φ α := (Iv_rf (Nat.le_succ j) I).inv
theorem Iv.G (I : Iv n M ns rm cs ct sr j φ α) : GS n M ns rm (α 233) := I.2.2.2.2.2.2.2.1.2.1
theorem Iv.X (I : Iv n M ns rm cs ct sr j φ α) : XS 29 φ α n (α 233) := I.2.2.2.2.2.2.2.1.1
theorem Iv.K (I : Iv n M ns rm cs ct sr j φ α) : XK 29 φ α (α 233) := I.2.2.2.2.2.2.2.1.2.2.1
theorem Iv.O (I : Iv n M ns rm cs ct sr j φ α) : iO n M ns rm cs ct φ α := I.2.2.2.2.2.2.1
theorem Iv.XO (I : Iv n M ns rm cs ct sr j φ α) : XO φ α n M ns rm := I.O.1
theorem Iv.MO (I : Iv n M ns rm cs ct sr j φ α) : MO α n M ns rm := I.O.2.1
theorem Iv.rm0 (I : Iv n M ns rm cs ct sr j φ α) : ∀ c : Int, 0 ≤ c → c < n → 0 ≤ rm c := I.O.2.2.1
theorem st29 : isSt 29 := Or.inl rfl
theorem st36 : isSt 36 := Or.inr (Or.inl rfl)
theorem p_fault (I : Inv sr j φ α) : eX10_fault d x φ α (fun r φ1 α1 => eX11_fault d x φ1 α1 (pq sr j r)) := by
  obtain ⟨n, M, ns, rm, cs, ct, I⟩ := I
  have f := I.2.2.1
  have key : ∀ r, r = (if x = 0 then φ 11 7 198 else if x = 1 then φ 11 8 198 else -1) → eX11_fault d x φ α (pq sr j r) := by
    intro r hr
    refine vX11_fault_0 ⟨fun q => ⟨fun q2 => ⟨?_, I.nx⟩, fun q2 => ⟨?_, I.nx⟩⟩, fun q => ⟨?_, I.nx⟩⟩
    · rw [hr, if_neg q, if_neg q2]
    · rw [hr, if_neg q, if_pos q2]
    · rw [hr, if_pos q]
  refine vX10_fault_0 ⟨fun q => key _ ?_, fun q => key _ ?_, fun q => key _ ?_⟩
  · rw [if_pos q]; exact f.1
  · rw [if_neg (by omega), if_pos q]; exact f.2
  · rw [if_neg q.1, if_neg q.2]
theorem p_status (I : Inv sr j φ α) : eX10_status (d + 20) x φ α (fun r φ1 α1 => eX11_status (d + 20) x φ1 α1 (pq sr j r)) := by
  obtain ⟨n, M, ns, rm, cs, ct, I⟩ := I
  have f := I.2.2.2.1
  refine vX10_status_0 (c_within ?_)
  by_cases q : 0 ≤ x ∧ x < 6
  · rw [if_pos (by omega)]
    refine ⟨fun q => by omega, fun _ => c_pick (n := 6) (fun _ => rfl) ⟨by omega, by omega⟩ (vX11_status_0 (r_isIn ?_))⟩
    rw [if_pos (by omega)]
    exact ⟨fun q => by omega, fun _ => ⟨⟨by omega, by omega⟩, (f x q.1 q.2).1, I.nx⟩⟩
  · rw [if_neg (by omega)]
    refine ⟨fun _ => vX11_status_0 (r_isIn ?_), fun q => absurd rfl q⟩
    rw [if_neg (by omega)]
    exact ⟨fun _ => ⟨rfl, I.nx⟩, fun q => absurd rfl q⟩
theorem p_octet (I : Inv sr j φ α) : eX10_octet (d + 20) x φ α (fun r φ1 α1 => eX11_octet (d + 20) x φ1 α1 (pq sr j r)) := by
  obtain ⟨n, M, ns, rm, cs, ct, I⟩ := I
  obtain ⟨f1, f2, f3, f4⟩ := I.2.2.2.2.2.2.2.2.2.2.1
  refine vX10_octet_0 ?_
  by_cases q : 0 ≤ x ∧ x < φ 6 1 3
  · refine c_at row3 q (by omega) (vX11_octet_0 ⟨fun z => by omega, fun _ => ⟨fun z => by omega, fun _ => ⟨⟨by omega, by omega⟩, f4 x q.1 (by omega), I.nx⟩⟩⟩)
  · refine c_at0 row3 q (vX11_octet_0 ⟨fun z => ⟨rfl, I.nx⟩, fun _ => ⟨fun z => ⟨rfl, I.nx⟩, fun _ => by omega⟩⟩)
theorem p_kept (I : Inv sr j φ α) : eX10_kept (d + 20) x y φ α (fun r φ1 α1 => eX11_kept (d + 20) x y φ1 α1 (pq sr j r)) := by
  obtain ⟨n, M, ns, rm, cs, ct, I⟩ := I
  have K := I.K
  obtain ⟨k1, k2, k3, k4, k5, k6⟩ := I.K
  have key : ∀ r, r = (if 0 ≤ y ∧ y < 3 then (if 0 ≤ x ∧ x < α 233 48 then α 233 (49 + 3 * x + y) else -1) else -1) → eX11_kept (d + 20) x y φ α (pq sr j r) := by
    intro r hr
    refine vX11_kept_0 ⟨by unfold inR; omega, r_isIn ?_⟩
    by_cases e : 0 ≤ x ∧ x < α 233 48
    · rw [if_pos (by omega)]
      refine ⟨fun q => by omega, fun _ => r_isIn ?_⟩
      by_cases e2 : 0 ≤ y ∧ y < 3
      · rw [if_pos e2, if_pos e] at hr
        rw [if_pos (by omega)]
        exact ⟨fun q => by omega, fun _ => ⟨by unfold inR; omega, by unfold inR; omega, by unfold inR; omega, ⟨by omega, by omega⟩, hr, I.nx⟩⟩
      · rw [if_neg e2] at hr
        rw [if_neg (by omega)]
        exact ⟨fun _ => ⟨hr, I.nx⟩, fun q => absurd rfl q⟩
    · rw [if_neg e] at hr
      rw [if_neg (by omega)]
      refine ⟨fun _ => ⟨by rw [hr]; split <;> rfl, I.nx⟩, fun q => absurd rfl q⟩
  refine vX10_kept_0 (c_within ?_)
  by_cases e2 : 0 ≤ y ∧ y < 3
  · rw [if_pos (by omega)]
    exact ⟨fun q => by omega, fun _ => c_keptAt st29 K e2 (key _ (by rw [if_pos e2]))⟩
  · rw [if_neg (by omega)]
    exact ⟨fun _ => key _ (by rw [if_neg e2]), fun q => absurd rfl q⟩
theorem p_seat (I : Inv sr j φ α) : eX10_seat (d + 20) x φ α (fun r φ1 α1 => eX11_seat (d + 20) x φ1 α1 (pq sr j r)) := by
  obtain ⟨n, M, ns, rm, cs, ct, I⟩ := I
  have G := I.G
  have hn := G.2.2.2.2.2.2
  have hO := I.O.2.2.2.2.2.2
  refine vX10_seat_0 (c_sitterAtA st29 I.X G (vX11_seat_0 ⟨fun q => ⟨?_, I.nx⟩, fun q => ?_⟩))
  · rcases hO with z | z
    · obtain ⟨z1, rfl, z3, z4⟩ := z; rfl
    · omega
  · have hs := I.MO.2.2.1
    refine ⟨by unfold inR; omega, r_isIn ?_⟩
    by_cases e : 0 ≤ x ∧ x < ns
    · rw [if_pos (by omega)]
      exact ⟨fun q => by omega, fun _ => r_sitterOf I.MO.2.1 hn.1 ⟨rfl, I.nx⟩⟩
    · rw [if_neg (by omega)]
      refine ⟨fun _ => ⟨sitF_none (fun c hc q => ?_), I.nx⟩, fun q => absurd rfl q⟩
      have := G.2.1 c hc
      omega
theorem p_drops (I : Inv sr j φ α) : eX10_drops (d + 20) x y φ α (fun r φ1 α1 => eX11_drops (d + 20) x y φ1 α1 (pq sr j r)) := by
  obtain ⟨n, M, ns, rm, cs, ct, I⟩ := I
  have hn := I.G.2.2.2.2.2.2
  refine vX10_drops_0 (c_areThere I.XO ?_)
  by_cases e : (0 ≤ x ∧ x < n) ∧ (0 ≤ y ∧ y < M)
  · rw [if_pos e]
    refine ⟨fun q => by omega, fun _ => c_dropsOf st29 I.X (by omega) (by omega) (vX11_drops_0 (r_areBoth I.MO.1 I.MO.2.1 hn.2.1 hn.1 ?_))⟩
    rw [if_pos e]
    exact ⟨fun q => by omega, fun _ => r_dropsOf (by omega) (by omega) ⟨rfl, I.nx⟩⟩
  · rw [if_neg e]
    refine ⟨fun _ => vX11_drops_0 (r_areBoth I.MO.1 I.MO.2.1 hn.2.1 hn.1 ?_), fun q => absurd rfl q⟩
    rw [if_neg e]
    exact ⟨fun _ => ⟨rfl, I.nx⟩, fun q => absurd rfl q⟩
theorem p_matter (I : Inv sr j φ α) : eX10_matter (d + 20) x y φ α (fun r φ1 α1 => eX11_matter (d + 20) x y φ1 α1 (pq sr j r)) := by
  obtain ⟨n, M, ns, rm, cs, ct, I⟩ := I
  have hn := I.G.2.2.2.2.2.2
  have G := I.G
  refine vX10_matter_0 (c_isMatter I.XO.2.1 ?_)
  by_cases e : 0 ≤ x ∧ x < M
  · rw [if_pos e]
    have hm : 0 ≤ x ∧ x < 4 := by omega
    have key : ∀ r, (y = 0 → r = hdF (α 233) x n) → (1 ≤ y → y ≤ 3 → r = α 233 (36 + 3 * x + y - 1)) → (y = 4 → r = knF (α 233) x n) → (y < 0 ∨ 4 < y → r = -1) → eX11_matter (d + 20) x y φ α (pq sr j r) := by
      intro r h0 h1 h4 h5
      refine vX11_matter_0 (r_isMatter I.MO.1 hn.2.1 ?_)
      rw [if_pos e]
      refine ⟨fun _ => ⟨fun q => r_isIn ?_, fun q => r_inClerks I.MO.2.1 G hm ⟨h0 q, I.nx⟩⟩, fun q => by omega⟩
      by_cases e2 : 1 ≤ y ∧ y ≤ 3
      · rw [if_pos e2]
        exact ⟨fun q => by omega, fun _ => ⟨by unfold inR; omega, by unfold inR; omega, by unfold inR; omega, by unfold inR; omega, ⟨by omega, by omega⟩, h1 e2.1 e2.2, I.nx⟩⟩
      · rw [if_neg e2]
        exact ⟨fun _ => ⟨fun q2 => ⟨h5 (by omega), I.nx⟩, fun q2 => r_knowersOf I.MO.2.1 hn.1 hm ⟨h4 q2, I.nx⟩⟩, fun q => absurd rfl q⟩
    refine ⟨fun _ => ⟨fun q => c_heldOf st29 I.X G hm (key _ (fun _ => hd_n G hm) (fun _ _ => by omega) (fun _ => by omega) (fun _ => by omega)), fun q => c_poolOf st29 I.X (by omega) hm (key _ (fun _ => by omega) (fun _ _ => by rw [q]; congr 1; omega) (fun _ => by omega) (fun _ => by omega)), fun q => c_poolOf st29 I.X (by omega) hm (key _ (fun _ => by omega) (fun _ _ => by rw [q]; congr 1; omega) (fun _ => by omega) (fun _ => by omega)), fun q => c_poolOf st29 I.X (by omega) hm (key _ (fun _ => by omega) (fun _ _ => by rw [q]; congr 1; omega) (fun _ => by omega) (fun _ => by omega)), fun q => c_knowing st29 I.X hm (key _ (fun _ => by omega) (fun _ _ => by omega) (fun _ => kn_n G hm) (fun _ => by omega)), fun q => key _ (fun _ => by omega) (fun _ _ => by omega) (fun _ => by omega) (fun _ => rfl)⟩, fun q => by omega⟩
  · rw [if_neg e]
    refine ⟨fun q => absurd rfl q, fun _ => vX11_matter_0 (r_isMatter I.MO.1 hn.2.1 ?_)⟩
    rw [if_neg e]
    exact ⟨fun q => absurd rfl q, fun _ => ⟨rfl, I.nx⟩⟩
theorem p_has (I : Inv sr j φ α) : eX10_has (d + 20) x φ α (fun r φ1 α1 => eX11_has (d + 20) x φ1 α1 (pq sr j r)) := by
  obtain ⟨n, M, ns, rm, cs, ct, I⟩ := I
  have hn := I.G.2.2.2.2.2.2
  have G := I.G
  have X := I.X
  have O := I.XO
  have MO := I.MO
  have K := I.K
  have P := I.2.2.2.2.2.2.2.2.1
  have S := I.2.2.2.2.2.2.2.2.2.1
  have key : ∀ r : Int, (x = 0 → r = (ns : Int)) → (x = 1 → r = (M : Int)) → (x = 2 → r = (n : Int)) → (x = 3 → r = α 233 0) → (x = 4 → r = itF (fun x c => x + fullF (α 233) c) 0 n) → (x = 5 → r = plF (α 233) 0 M) → (x = 6 → r = ffF rm (α 233) n) → (x = 7 → r = α 233 48) → (x = 8 → r = φ 11 55 198) → (x = 9 → r = φ 11 60 198) → (x < 0 ∨ 9 < x → r = -1) → eX11_has (d + 20) x φ α (pq sr j r) := by
    intro r h0 h1 h2 h3 h4 h5 h6 h7 h8 h9 h10
    refine vX11_has_0 ⟨fun q => ⟨(h0 q).trans MO.2.2.1.symm, I.nx⟩, fun q => ⟨by unfold inR; omega, ⟨by omega, by omega⟩, by rw [q]; exact (h1 q).trans MO.1.symm, I.nx⟩, fun q => ⟨by unfold inR; omega, ⟨by omega, by omega⟩, by rw [q]; exact (h2 q).trans MO.2.1.symm, I.nx⟩, fun q => ⟨h3 q, I.nx⟩, fun q => r_dropAll MO.2.1 G ⟨h4 q, I.nx⟩, fun q => r_floorAll MO.1 G ⟨h5 q, I.nx⟩, fun q => r_fullMany MO G I.rm0 ⟨h6 q, I.nx⟩, fun q => ⟨h7 q, I.nx⟩, fun q => ⟨h8 q, I.nx⟩, fun q => ⟨h9 q, I.nx⟩, fun q => ⟨h10 (by omega), I.nx⟩⟩
  refine vX10_has_0 ⟨fun q => key _ (fun _ => O.1) (fun z => by omega) (fun z => by omega) (fun z => by omega) (fun z => by omega) (fun z => by omega) (fun z => by omega) (fun z => by omega) (fun z => by omega) (fun z => by omega) (fun z => by omega),
    fun q => key _ (fun z => by omega) (fun _ => O.2.1) (fun z => by omega) (fun z => by omega) (fun z => by omega) (fun z => by omega) (fun z => by omega) (fun z => by omega) (fun z => by omega) (fun z => by omega) (fun z => by omega),
    fun q => key _ (fun z => by omega) (fun z => by omega) (fun _ => O.2.2.1) (fun z => by omega) (fun z => by omega) (fun z => by omega) (fun z => by omega) (fun z => by omega) (fun z => by omega) (fun z => by omega) (fun z => by omega),
    fun q => key _ (fun z => by omega) (fun z => by omega) (fun z => by omega) (fun _ => X.1) (fun z => by omega) (fun z => by omega) (fun z => by omega) (fun z => by omega) (fun z => by omega) (fun z => by omega) (fun z => by omega),
    fun q => ?_,
    fun q => c_pooled st29 X G (by omega) (key _ (fun z => by omega) (fun z => by omega) (fun z => by omega) (fun z => by omega) (fun z => by omega) (fun _ => pl_n G (by omega)) (fun z => by omega) (fun z => by omega) (fun z => by omega) (fun z => by omega) (fun z => by omega)),
    fun q => c_countFull st29 X G O I.rm0 (key _ (fun z => by omega) (fun z => by omega) (fun z => by omega) (fun z => by omega) (fun z => by omega) (fun z => by omega) (fun _ => rfl) (fun z => by omega) (fun z => by omega) (fun z => by omega) (fun z => by omega)),
    fun q => key _ (fun z => by omega) (fun z => by omega) (fun z => by omega) (fun z => by omega) (fun z => by omega) (fun z => by omega) (fun z => by omega) (fun _ => K.2.2.1) (fun z => by omega) (fun z => by omega) (fun z => by omega),
    fun q => ?_,
    fun q => key _ (fun z => by omega) (fun z => by omega) (fun z => by omega) (fun z => by omega) (fun z => by omega) (fun z => by omega) (fun z => by omega) (fun z => by omega) (fun z => by omega) (fun _ => P.2.2.2.1) (fun z => by omega),
    fun q => key _ (fun z => by omega) (fun z => by omega) (fun z => by omega) (fun z => by omega) (fun z => by omega) (fun z => by omega) (fun z => by omega) (fun z => by omega) (fun z => by omega) (fun z => by omega) (fun z => rfl)⟩
  · refine c_total (st4 st29) (fun i q1 q2 => ?_) (by omega) (key _ (fun z => by omega) (fun z => by omega) (fun z => by omega) (fun z => by omega) (fun z => ?_) (fun z => by omega) (fun z => by omega) (fun z => by omega) (fun z => by omega) (fun z => by omega) (fun z => by omega))
    · have e : α 33 (i : Int) = fullF (α 233) i := X.2.2.2.2.1 i (by omega) (by omega)
      rw [e]
      have := G.full (c := (i : Int)) (by omega) (by omega)
      omega
    · rw [sumF_it, itF_ext (g := fun x c => x + fullF (α 233) c) 7 (fun x c q => by have e : α 33 (c : Int) = fullF (α 233) c := X.2.2.2.2.1 c (by omega) (by omega); rw [e])]
      exact itF_stop 7 hn.1 (fun x c q1 q2 => by rw [G.fl0 q1 q2, Int.add_zero])
  · rw [S.1]
    have e : Int.tdiv (4 * φ 11 55 198) 4 = φ 11 55 198 := Int.mul_tdiv_cancel_left _ (by omega)
    have s1 := S.2.1; have s2 := S.2.2.1
    rw [e]
    exact ⟨by unfold inR; omega, key _ (fun z => by omega) (fun z => by omega) (fun z => by omega) (fun z => by omega) (fun z => by omega) (fun z => by omega) (fun z => by omega) (fun z => by omega) (fun _ => rfl) (fun z => by omega) (fun z => by omega)⟩
end QR
