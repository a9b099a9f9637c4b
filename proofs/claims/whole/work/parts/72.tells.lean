section TL
variable {d j : Nat} {φ φ' φ0 : aF} {α α' α0 : aA} {Q : Int → aF → aA → Prop} {b c o m x y z v s k ce side t m' p : Int} {n M ns : Nat} {rm nw nw' nw0 sr : Int → Int} {cs ct : List Int}
theorem p_sources (hj : j < 512) (I : Inv sr j φ α) : eX10_sources (d + 20) x y φ α (fun r φ1 α1 => eX11_sources (d + 20) x y φ1 α1 (pq sr j r)) := by
  obtain ⟨n, M, ns, rm, cs, ct, I⟩ := I
  have hn := I.G.2.2.2.2.2.2
  refine vX10_sources_0 (c_isMatter I.XO.2.1 ?_)
  by_cases e : 0 ≤ x ∧ x < M
  · rw [if_pos e]
    refine ⟨fun q => by omega, fun _ => c_within ?_⟩
    by_cases e2 : 0 ≤ y ∧ y ≤ 99
    · rw [if_pos e2]
      refine ⟨fun _ => c_findSources I e e2 (fun φ1 α1 r1 I1 a1 b1 c1 hs => ?_), fun q => by omega⟩
      refine vX11_sources_0 (r_isMatter I1.MO.1 hn.2.1 ?_)
      rw [if_pos e]
      refine ⟨fun q => by omega, fun _ => r_isIn ?_⟩
      rw [if_pos e2]
      refine ⟨fun _ => r_laysSources I1 (I1.ov hj) e e2 (fun φ2 α2 I2 f2 a2 hs2 _ => ⟨?_, I2.inv⟩), fun q => by omega⟩
      rw [a1, b1, c1] at hs2
      exact isSet_u hs hs2
    · rw [if_neg e2]
      refine ⟨fun q => absurd rfl q, fun _ => vX11_sources_0 (r_isMatter I.MO.1 hn.2.1 ?_)⟩
      rw [if_pos e]
      refine ⟨fun q => by omega, fun _ => r_isIn ?_⟩
      rw [if_neg e2]
      exact ⟨fun q => absurd rfl q, fun _ => ⟨rfl, I.nx⟩⟩
  · rw [if_neg e]
    refine ⟨fun _ => vX11_sources_0 (r_isMatter I.MO.1 hn.2.1 ?_), fun q => absurd rfl q⟩
    rw [if_neg e]
    exact ⟨fun _ => ⟨rfl, I.nx⟩, fun q => absurd rfl q⟩
def CT (φ : aF) (st : Int × Int × Int) : Prop := (st.1 = -1 ∧ φ 0 8 195 = 8) ∨ (st.1 ≠ -1 ∧ φ 0 8 195 = st.2.2 ∧ φ 0 6 195 = st.1 ∧ φ 0 7 195 = st.2.1)
theorem tsF_s {V : Nat → Nat → Nat → Int} {t q : Nat} {st : Int × Int × Int} : tsF n s V t st (q + 1) = if (tsF n s V t st q).1 = -1 ∨ moF n s (V t q) n < (tsF n s V t st q).2.2 then ((t : Int), (q : Int), moF n s (V t q) n) else tsF n s V t st q := rfl
theorem tsF_n {V : Nat → Nat → Nat → Int} {t q : Nat} {st : Int × Int × Int} : (tsF n s V t st (q + 1)).1 ≠ -1 := by
  rw [tsF_s]
  split
  · dsimp only; omega
  · rename_i h; exact fun e => h (Or.inl e)
theorem tdF_n {V : Nat → Nat → Nat → Int} {t : Nat} (hn : 0 < n) : (tdF n s V (t + 1)).1 ≠ -1 := by
  obtain ⟨k, rfl⟩ : ∃ k, n = k + 1 := ⟨n - 1, by omega⟩
  exact tsF_n
theorem fq_0 {f : Nat} : fq φ α (upf φ 0 f 195 v) α := ⟨fun c g o q => upf_o (by omega), fun _ _ _ _ _ _ _ _ _ _ _ => rfl⟩
theorem Iv_0 {f : Nat} (I : Iv n M ns rm cs ct sr j φ α) : Iv n M ns rm cs ct sr j (upf φ 0 f 195 v) α := Iv_fq (Nat.le_refl j) fq_0 (by rw [upf_o (by omega)]; exact I.2.2.2.2.2.1.2) I
theorem l_ft77 {L t : Nat} {V : Nat → Nat → Nat → Int} {st : Int × Int × Int} (hs : 0 ≤ s ∧ s < 128) (hL : L ≤ 30) (ht : t ≤ L) (hV : ∀ c t q : Nat, c < n → bt s c = 1 → t ≤ L → q < n → α 196 (217 * (c : Int) + 7 * t + q) = V t q c) (h : ∀ φ', Iv n M ns rm cs ct sr j φ' α → fq φ0 α0 φ' α → CT φ' (tsF n s V t st n) → jX0_findTelling_67 (d + 6) s L ((t : Int) + 1) φ' α Q) : ∀ (r q : Nat), q + r = n → ∀ (φ : aF), Iv n M ns rm cs ct sr j φ α → fq φ0 α0 φ α → CT φ (tsF n s V t st q) → jX0_findTelling_77 (d + 6) s L t q φ α Q
  | 0, q, hk, φ, I, F, C => by
    have O := I.XO.2.2.1
    have z : q = n := by omega
    subst z
    exact vX0_findTelling_77 ⟨fun _ => ⟨by unfold inR; omega, h φ I F C⟩, fun q => by omega⟩
  | r + 1, q, hk, φ, I, F, C => by
    have O := I.XO.2.2.1
    have hn := I.G.2.2.2.2.2.2
    have mb := moF_bd (n := n) (s := s) (V := V t q) n
    refine vX0_findTelling_77 ⟨fun z => by omega, fun _ => c_mostLeft hs hn.1 (by omega) (by omega) O (fun c h1 h2 => hV c t q h1 h2 ht (by omega)) ⟨fun z => ⟨by unfold inR; omega, ?_⟩, fun z => ⟨by unfold inR; omega, ?_⟩⟩⟩
    · have ih := l_ft77 hs hL ht hV h r (q + 1) (by omega) φ I F (by
        rw [tsF_s, if_neg (by
          rcases C with ⟨c1, c2⟩ | ⟨c1, c2, c3, c4⟩
          · omega
          · rintro (w | w) <;> omega)]
        exact C)
      rw [show ((q + 1 : Nat) : Int) = (q : Int) + 1 by omega] at ih
      exact ih
    · have ih := l_ft77 hs hL ht hV h r (q + 1) (by omega) (upf (upf (upf φ 0 8 195 (moF n s (V t q) n)) 0 6 195 t) 0 7 195 q) (Iv_0 (Iv_0 (Iv_0 I))) (((F.tr fq_0).tr fq_0).tr fq_0) (by
        rw [tsF_s, if_pos (by
          rcases C with ⟨c1, c2⟩ | ⟨c1, c2, c3, c4⟩
          · exact Or.inl c1
          · right; omega)]
        exact Or.inr ⟨by dsimp only; omega, by rw [upf_o (by omega), upf_o (by omega), upf_s], by rw [upf_o (by omega), upf_s], upf_s⟩)
      rw [show ((q + 1 : Nat) : Int) = (q : Int) + 1 by omega] at ih
      exact ih
theorem l_ft67 {L : Nat} {V : Nat → Nat → Nat → Int} (hs : 0 ≤ s ∧ s < 128) (hL : L ≤ 30) (hV : ∀ c t q : Nat, c < n → bt s c = 1 → t ≤ L → q < n → α 196 (217 * (c : Int) + 7 * t + q) = V t q c) (h : ∀ φ', Iv n M ns rm cs ct sr j φ' α → fq φ0 α0 φ' α → CT φ' (tdF n s V (L + 1)) → Q 0 φ' α) : ∀ (r t : Nat), t + r = L + 1 → ∀ (φ : aF), Iv n M ns rm cs ct sr j φ α → fq φ0 α0 φ α → CT φ (tdF n s V t) → jX0_findTelling_67 (d + 6) s L t φ α Q
  | 0, t, hk, φ, I, F, C => by
    have z : t = L + 1 := by omega
    subst z
    exact vX0_findTelling_67 ⟨fun _ => h φ I F C, fun q => by omega⟩
  | r + 1, t, hk, φ, I, F, C => by
    refine vX0_findTelling_67 ⟨fun q => by omega, fun _ => ?_⟩
    have := l_ft77 (d := d) (Q := Q) (t := t) (st := tdF n s V t) hs hL (by omega) hV (fun φ' I' F' C' => by
      have ih := l_ft67 hs hL hV h r (t + 1) (by omega) φ' I' F' C'
      rw [show ((t + 1 : Nat) : Int) = (t : Int) + 1 by omega] at ih
      exact ih) n 0 (by omega) φ I F C
    simpa using this
theorem c_findTelling {L : Nat} {R : Int} {rw : Int → Int} (I : Iv n M ns rm cs ct sr j φ α) (hL : (L : Int) = min 30 (999 - α 233 0)) (hm : 0 ≤ m ∧ m < M) (hv : 0 ≤ v ∧ v ≤ 99) (hs : isSet n (RS n M ns rm cs rw R (α 233) m v) s) (h : ∀ φ' α', Iv n M ns rm cs ct sr j φ' α' → fq φ α φ' α' → CT φ' (tdF n s (pth n M ns rm cs (α 233) m v) (L + 1)) → Q 0 φ' α') : eX0_findTelling (d + 6) s m v φ α Q := by
  have D := I.D
  have g0 := I.G.1
  refine vX0_findTelling_0 ?_
  rw [I.X.1]
  refine ⟨by unfold inR; omega, c_min ?_⟩
  rw [← hL]
  have := l_ft21 (d := d) (Q := Q) (φ0 := φ) (α0 := α) (L := L) (j := j) (ct := ct) (sr := sr) (by omega) hm hv hs (fun φ1 α1 I1 F1 hP => by
    have := l_ft67 (d := d) (Q := Q) (L := L) (φ0 := φ) (α0 := α) (α := α1) (V := pth n M ns rm cs (α 233) m v) (ct := ct) (sr := sr) (j := j) (cs := cs) hs.1 (by omega) hP (fun φ2 I2 F2 C2 => h φ2 α1 I2 F2 C2) (L + 1) 0 (by omega) (upf φ1 0 8 195 8) (Iv_0 I1) (F1.tr fq_0) (Or.inl ⟨rfl, upf_s⟩)
    simpa using this) n 0 (by omega) φ α I fq.rf (fun c t q h1 => by omega)
  simpa using this
theorem l_te75 {t : Nat} {x3 : Int} {V : Nat → Nat → Nat → Int} {st : Int × Int × Int} (e58 : φ 11 58 198 = s) (hs : 0 ≤ s ∧ s < 128) (hn : n ≤ 7) (ht : t ≤ 30) (O : α 226 3 = n) (hV : ∀ c q : Nat, c < n → bt s c = 1 → q < n → α 237 (217 * (c : Int) + 7 * t + q) = V t q c) (h : jX11_tells_53 (d + 2) x3 (tsF n s V t st n).1 (tsF n s V t st n).2.1 (tsF n s V t st n).2.2 ((t : Int) + 1) φ α Q) : ∀ (r q : Nat), q + r = n → jX11_tells_75 (d + 2) x3 (tsF n s V t st q).1 (tsF n s V t st q).2.1 (tsF n s V t st q).2.2 t q φ α Q
  | 0, q, hk => by
    have z : q = n := by omega
    subst z
    exact vX11_tells_75 (r_cMany O ⟨fun _ => ⟨by unfold inR; omega, h⟩, fun q => by omega⟩)
  | r + 1, q, hk => by
    have ih := l_te75 e58 hs hn ht O hV h r (q + 1) (by omega)
    rw [show ((q + 1 : Nat) : Int) = (q : Int) + 1 by omega, tsF_s] at ih
    refine vX11_tells_75 (r_cMany O ⟨fun z => by omega, fun _ => r_mostAlike e58 hs hn ht (by omega) O (fun c h1 h2 => hV c q h1 h2 (by omega)) ⟨fun z => ⟨by unfold inR; omega, ?_⟩, fun z => ⟨fun z2 => ⟨by unfold inR; omega, ?_⟩, fun z2 => ⟨by unfold inR; omega, ?_⟩⟩⟩⟩)
    · rw [if_pos (Or.inl z)] at ih; exact ih
    · rw [if_pos (Or.inr z2)] at ih; exact ih
    · rw [if_neg (by rintro (w | w); (· exact z w); (· exact z2 w))] at ih; exact ih
theorem l_te53 {L : Nat} {x3 : Int} {V : Nat → Nat → Nat → Int} (I : Iv n M ns rm cs ct sr j φ α) (op : φ 11 46 198 = 1) (hL : (L : Int) = min 30 (999 - α 233 0)) (hn0 : 0 < n) (hs0 : s ≠ 0) (e58 : φ 11 58 198 = s) (hs : 0 ≤ s ∧ s < 128) (hV : ∀ c t q : Nat, c < n → bt s c = 1 → t ≤ 30 → q < n → α 237 (217 * (c : Int) + 7 * t + q) = V t q c) (h : Q (if x3 = 0 then (tdF n s V (L + 1)).1 else if x3 = 1 then (tdF n s V (L + 1)).2.1 else (tdF n s V (L + 1)).2.2) φ α) : ∀ (r t : Nat), t + r = L + 1 → jX11_tells_53 (d + 2) x3 (tdF n s V t).1 (tdF n s V t).2.1 (tdF n s V t).2.2 t φ α Q
  | 0, t, hk => by
    have D := I.D
    have g0 := I.G.1
    have z : t = L + 1 := by omega
    subst z
    have hne := tdF_n (n := n) (s := s) (V := V) (t := L) hn0
    refine vX11_tells_53 ⟨fun q => absurd (e58.symm.trans q) hs0, fun _ => r_isAhead I (by omega) (by omega) ?_⟩
    rw [if_neg (by omega)]
    refine ⟨fun _ => ⟨fun _ => ⟨fun q => ⟨fun q2 => ?_, fun q2 => ?_⟩, fun q => ?_⟩, fun q => absurd q hne⟩, fun q => absurd rfl q⟩
    · rwa [if_neg q, if_neg q2] at h
    · rwa [if_neg q, if_pos q2] at h
    · rwa [if_pos q] at h
  | r + 1, t, hk => by
    have D := I.D
    have g0 := I.G.1
    have hn := I.G.2.2.2.2.2.2
    refine vX11_tells_53 ⟨fun q => absurd (e58.symm.trans q) hs0, fun _ => r_isAhead I (by omega) (by omega) ?_⟩
    rw [if_pos ⟨op, by omega, by omega⟩]
    refine ⟨fun q => by omega, fun _ => ?_⟩
    have ih := l_te53 I op hL hn0 hs0 e58 hs hV h r (t + 1) (by omega)
    rw [show ((t + 1 : Nat) : Int) = (t : Int) + 1 by omega] at ih
    have := l_te75 (st := tdF n s V t) e58 hs hn.1 (by omega) I.MO.2.1 (fun c q h1 h2 h3 => hV c t q h1 h2 (by omega) h3) ih n 0 (by omega)
    exact this
theorem p_tells (hj : j < 512) (I : Inv sr j φ α) : eX10_tells (d + 20) x y z φ α (fun r φ1 α1 => eX11_tells (d + 20) x y z φ1 α1 (pq sr j r)) := by
  obtain ⟨n, M, ns, rm, cs, ct, I⟩ := I
  have hn := I.G.2.2.2.2.2.2
  refine vX10_tells_0 (c_isMatter I.XO.2.1 ?_)
  by_cases e : 0 ≤ x ∧ x < M
  · rw [if_pos e]
    refine ⟨fun q => by omega, fun _ => c_within ?_⟩
    by_cases e2 : 0 ≤ y ∧ y ≤ 99
    · rw [if_pos e2]
      refine ⟨fun q => by omega, fun _ => c_within ?_⟩
      by_cases e3 : 0 ≤ z ∧ z ≤ 2
      · rw [if_pos e3]
        refine ⟨fun _ => c_findSources I e e2 (fun φ1 α1 r1 I1 a1 b1 c1 hs => ?_), fun q => by omega⟩
        have D := I1.D
        have g0 := I1.G.1
        rw [← a1, ← b1, ← c1] at hs
        have head : ∀ φ2 α2 (Q' : Int → aF → aA → Prop), Iv n M ns rm cs ct sr j φ2 α2 → eX11_laysSources (d + 19) x y φ2 α2 (fun r7 φ7 α7 => jX11_tells_53 (d + 20) z (-1) (-1) 0 0 φ7 α7 Q') → eX11_tells (d + 20) x y z φ2 α2 Q' := by
          intro φ2 α2 Q' I2 h
          refine vX11_tells_0 (r_isMatter I2.MO.1 hn.2.1 ?_)
          rw [if_pos e]
          refine ⟨fun q => by omega, fun _ => r_isIn ?_⟩
          rw [if_pos e2]
          refine ⟨fun q => by omega, fun _ => r_isIn ?_⟩
          rw [if_pos e3]
          exact ⟨fun _ => h, fun q => by omega⟩
        refine ⟨fun q => ?_, fun q => ?_⟩
        · obtain ⟨L, hL⟩ : ∃ L : Nat, (L : Int) = min 30 (999 - α1 233 0) := ⟨(min 30 (999 - α1 233 0)).toNat, by omega⟩
          have hn0 : 0 < n := by
            rcases Nat.eq_zero_or_pos n with z | z
            · subst z; exact absurd (isSet_u hs (isSet_0 (fun k hk => by omega))) q
            · exact z
          refine c_findTelling I1 hL e e2 hs (fun φ2 α2 I2 F2 C2 => ?_)
          have a2 := fq_a (a := 233) F2 (by omega)
          have b2 := fq_a (a := 236) F2 (by omega)
          have e55 : φ2 11 55 198 = φ1 11 55 198 := F2.1 _ _ _ (by omega)
          have hne := tdF_n (n := n) (s := r1) (V := pth n M ns rm cs (α1 233) x y) (t := L) hn0
          obtain ⟨k1, k2, k3, k4⟩ : (tdF n r1 (pth n M ns rm cs (α1 233) x y) (L + 1)).1 ≠ -1 ∧ φ2 0 8 195 = (tdF n r1 (pth n M ns rm cs (α1 233) x y) (L + 1)).2.2 ∧ φ2 0 6 195 = (tdF n r1 (pth n M ns rm cs (α1 233) x y) (L + 1)).1 ∧ φ2 0 7 195 = (tdF n r1 (pth n M ns rm cs (α1 233) x y) (L + 1)).2.1 := by
            rcases C2 with ⟨w, -⟩ | w
            · exact absurd w hne
            · exact w
          have fin : ∀ (rr : Int), rr = (if z = 0 then (tdF n r1 (pth n M ns rm cs (α1 233) x y) (L + 1)).1 else if z = 1 then (tdF n r1 (pth n M ns rm cs (α1 233) x y) (L + 1)).2.1 else (tdF n r1 (pth n M ns rm cs (α1 233) x y) (L + 1)).2.2) → eX11_tells (d + 20) x y z φ2 α2 (pq sr j rr) := by
            intro rr hrr
            refine head φ2 α2 _ I2 (r_laysSources I2 (I2.ov hj) e e2 (fun φ3 α3 I3 f3 a3 hs3 hp3 => ?_))
            rw [a2, b2, e55] at hs3 hp3
            have e58 := isSet_u hs3 hs
            obtain ⟨op, -, -, -⟩ := I3.open_ (Or.inl hn0)
            have := l_te53 (d := d + 18) (Q := pq sr j rr) (x3 := z) (V := pth n M ns rm cs (α1 233) x y) I3 op (by rw [a3, a2]; exact hL) hn0 q e58 hs.1 (fun c t q h1 h2 h3 h4 => hp3 c t q h1 ((hs.2 c (by omega)).mp h2).2 h3 h4) ⟨hrr, I3.inv⟩ (L + 1) 0 (by omega)
            exact this
          refine ⟨fun q2 => ⟨fun q3 => fin _ ?_, fun q3 => fin _ ?_⟩, fun q2 => fin _ ?_⟩
          · rw [if_neg q3, if_pos (by omega)]; exact k4
          · rw [if_pos q3]; exact k3
          · rw [if_neg (by omega), if_neg (by omega)]; exact k2
        · refine head φ1 α1 _ I1 (r_laysSources I1 (I1.ov hj) e e2 (fun φ3 α3 I3 f3 a3 hs3 hp3 => ?_))
          have e58 := (isSet_u hs3 hs).trans q
          exact vX11_tells_53 ⟨fun _ => ⟨fun w => absurd rfl w, fun _ => ⟨rfl, I3.inv⟩⟩, fun w => absurd e58 w⟩
      · rw [if_neg e3]
        refine ⟨fun q => absurd rfl q, fun _ => vX11_tells_0 (r_isMatter I.MO.1 hn.2.1 ?_)⟩
        rw [if_pos e]
        refine ⟨fun q => by omega, fun _ => r_isIn ?_⟩
        rw [if_pos e2]
        refine ⟨fun q => by omega, fun _ => r_isIn ?_⟩
        rw [if_neg e3]
        exact ⟨fun q => absurd rfl q, fun _ => ⟨rfl, I.nx⟩⟩
    · rw [if_neg e2]
      refine ⟨fun _ => vX11_tells_0 (r_isMatter I.MO.1 hn.2.1 ?_), fun q => absurd rfl q⟩
      rw [if_pos e]
      refine ⟨fun q => by omega, fun _ => r_isIn ?_⟩
      rw [if_neg e2]
      exact ⟨fun _ => ⟨rfl, I.nx⟩, fun q => absurd rfl q⟩
  · rw [if_neg e]
    refine ⟨fun _ => vX11_tells_0 (r_isMatter I.MO.1 hn.2.1 ?_), fun q => absurd rfl q⟩
    rw [if_neg e]
    exact ⟨fun _ => ⟨rfl, I.nx⟩, fun q => absurd rfl q⟩
end TL
