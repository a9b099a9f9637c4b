section R2
variable {d : Nat} {φ φ' : aF} {α α' : aA} {Q : Int → aF → aA → Prop} {b c o m x y v s k ce : Int} {n M ns : Nat} {rm : Int → Int} {st : List Int}
theorem mp_f {φ : aF} {α : aA} {v : Int} : mp φ α (upf φ 11 94 198 v) α := ⟨fun c f o q => upf_o (by by_cases e : c = 11; (· by_cases e2 : f = 94; (· exact absurd ⟨e, e2⟩ q); (· exact Or.inr (Or.inl e2))); (· exact Or.inl e)), fun _ _ => rfl⟩
theorem mp_a {φ : aF} {α : aA} {i v : Int} : mp φ α φ (upa α 265 i v) := ⟨fun _ _ _ _ => rfl, fun a q => upa_fn q⟩
theorem r_qPuts (hl : φ 11 94 198 = st.length) (hb : st.length ≤ 1600) (hs : stM α st) (h : ∀ φ' α', mp φ α φ' α' → φ' 11 94 198 = (v :: st).length → stM α' (v :: st) → Q 0 φ' α') : eX11_qPuts d v φ α Q := by
  refine vX11_qPuts_0 ?_
  rw [hl]
  refine ⟨⟨by omega, by omega⟩, by unfold inR; omega, h _ _ (mp_f.tr mp_a) (by rw [upf_s]; simp) ⟨by rw [upa_eq], stM_up (Int.le_refl _) hs⟩⟩
theorem r_qJoins (h2 : ndF ce = 2) (hl : φ 11 94 198 = (y :: x :: st).length) (hb : st.length ≤ 1600) (hs : stM α (y :: x :: st)) (hk : (ce = 18 ∨ ce = 19 → (x = 0 ∨ x = 1) ∧ (y = 0 ∨ y = 1)) ∧ (¬ (ce = 18 ∨ ce = 19) → (-1000000 ≤ x ∧ x ≤ 1000000) ∧ (-1000000 ≤ y ∧ y ≤ 1000000))) (h : ∀ φ' α', mp φ α φ' α' → φ' 11 94 198 = (joinF ce x y :: st).length → stM α' (joinF ce x y :: st) → Q 0 φ' α') : eX11_qJoins (d + 1) (tauF ce) φ α Q := by
  have hl : φ 11 94 198 = (st.length : Int) + 2 := by rw [hl]; simp; omega
  have ey : α 265 ((st.length : Int) + 2 - 1) = y := by have := hs.1; rw [show (st.length : Int) + 2 - 1 = ((x :: st).length : Nat) by simp; omega]; exact this
  have ex : α 265 ((st.length : Int) + 2 - 2) = x := by have := hs.2.1; rw [show (st.length : Int) + 2 - 2 = st.length by omega]; exact this
  have put : ∀ w, w = joinF ce x y → eX11_qPuts d w (upf φ 11 94 198 ((st.length : Int) + 2 - 2)) α (fun _ φ12 α12 => Q 0 φ12 α12) := fun w e => by
    subst e
    exact r_qPuts (st := st) (by rw [upf_s]; omega) hb hs.2.2 (fun φ' α' p1 p2 p3 => h φ' α' (mp_f.tr p1) p2 p3)
  have hce : ce = 18 ∨ ce = 19 ∨ ce = 22 ∨ ce = 23 ∨ ce = 42 ∨ ce = 43 ∨ ce = 45 ∨ ce = 47 ∨ ce = 60 ∨ ce = 61 ∨ ce = 62 := by
    unfold ndF at h2
    by_cases e : ce = 18 ∨ ce = 19 ∨ ce = 22 ∨ ce = 23 ∨ ce = 42 ∨ ce = 43 ∨ ce = 45 ∨ ce = 47 ∨ ce = 60 ∨ ce = 61 ∨ ce = 62
    · exact e
    · rw [if_neg e] at h2; split at h2 <;> omega
  refine vX11_qJoins_0 ?_
  rw [hl, ey, ex]
  refine ⟨by unfold inR; omega, ⟨by omega, by omega⟩, by unfold inR; omega, ⟨by omega, by omega⟩, ?_⟩
  rcases hce with rfl | rfl | rfl | rfl | rfl | rfl | rfl | rfl | rfl | rfl | rfl
  · have b1 := hk.1 (Or.inl rfl)
    refine ⟨fun q => absurd q (by decide), fun q => absurd q (by decide), fun q => absurd q (by decide), fun q => absurd q (by decide), fun q => absurd q (by decide), fun q => absurd q (by decide), fun q => absurd q (by decide), fun q => absurd q (by decide), fun q => absurd q (by decide), fun q => absurd q (by decide), fun _ => ⟨by unfold inJ; omega, fun q => ?_, fun q => ?_⟩⟩
    · rw [j3_le] at q; exact put 0 (by show 0 = iOr x y; rw [iOr01 b1.1 b1.2, if_neg (by omega)])
    · rw [j3_le] at q; exact put 1 (by show 1 = iOr x y; rw [iOr01 b1.1 b1.2, if_pos (by omega)])
  · have b1 := hk.1 (Or.inr rfl)
    refine ⟨fun q => absurd q (by decide), fun q => absurd q (by decide), fun q => absurd q (by decide), fun q => absurd q (by decide), fun q => absurd q (by decide), fun q => absurd q (by decide), fun q => absurd q (by decide), fun q => absurd q (by decide), fun q => absurd q (by decide), fun _ => ⟨?_, put _ ?_⟩, fun q => absurd rfl q.2.2.2.2.2.2.2.2.2⟩
    · unfold inJ; rcases b1.1 with e | e <;> rw [e] <;> omega
    · show x * y = iAnd x y; rw [iAnd01 b1.1 b1.2]
  · refine ⟨fun q => absurd q (by decide), fun q => absurd q (by decide), fun q => absurd q (by decide), fun q => absurd q (by decide), fun _ => ⟨fun q => ?_, fun q => ?_⟩, fun q => absurd q (by decide), fun q => absurd q (by decide), fun q => absurd q (by decide), fun q => absurd q (by decide), fun q => absurd q (by decide), fun q => absurd rfl q.2.2.2.2.1⟩
    · rw [j3_ge] at q; exact put y (by show y = min x y; omega)
    · rw [j3_ge] at q; exact put x (by show x = min x y; omega)
  · refine ⟨fun q => absurd q (by decide), fun q => absurd q (by decide), fun q => absurd q (by decide), fun q => absurd q (by decide), fun q => absurd q (by decide), fun _ => ⟨fun q => ?_, fun q => ?_⟩, fun q => absurd q (by decide), fun q => absurd q (by decide), fun q => absurd q (by decide), fun q => absurd q (by decide), fun q => absurd rfl q.2.2.2.2.2.1⟩
    · rw [j3_le] at q; exact put y (by show y = max x y; omega)
    · rw [j3_le] at q; exact put x (by show x = max x y; omega)
  · have b2 := hk.2 (by omega)
    have hm := mul_bd b2.1 b2.2
    exact ⟨fun q => absurd q (by decide), fun q => absurd q (by decide), fun _ => ⟨by unfold inJ; omega, r_qClip (put _ rfl)⟩, fun q => absurd q (by decide), fun q => absurd q (by decide), fun q => absurd q (by decide), fun q => absurd q (by decide), fun q => absurd q (by decide), fun q => absurd q (by decide), fun q => absurd q (by decide), fun q => absurd rfl q.2.2.1⟩
  · have b2 := hk.2 (by omega)
    exact ⟨fun _ => ⟨by unfold inJ; omega, r_qClip (put _ rfl)⟩, fun q => absurd q (by decide), fun q => absurd q (by decide), fun q => absurd q (by decide), fun q => absurd q (by decide), fun q => absurd q (by decide), fun q => absurd q (by decide), fun q => absurd q (by decide), fun q => absurd q (by decide), fun q => absurd q (by decide), fun q => absurd rfl q.1⟩
  · have b2 := hk.2 (by omega)
    exact ⟨fun q => absurd q (by decide), fun _ => ⟨by unfold inJ; omega, r_qClip (put _ rfl)⟩, fun q => absurd q (by decide), fun q => absurd q (by decide), fun q => absurd q (by decide), fun q => absurd q (by decide), fun q => absurd q (by decide), fun q => absurd q (by decide), fun q => absurd q (by decide), fun q => absurd q (by decide), fun q => absurd rfl q.2.1⟩
  · have b2 := hk.2 (by omega)
    exact ⟨fun q => absurd q (by decide), fun q => absurd q (by decide), fun q => absurd q (by decide), fun _ => r_qFloor b2.1 b2.2 (put _ rfl), fun q => absurd q (by decide), fun q => absurd q (by decide), fun q => absurd q (by decide), fun q => absurd q (by decide), fun q => absurd q (by decide), fun q => absurd q (by decide), fun q => absurd rfl q.2.2.2.1⟩
  · refine ⟨fun q => absurd q (by decide), fun q => absurd q (by decide), fun q => absurd q (by decide), fun q => absurd q (by decide), fun q => absurd q (by decide), fun q => absurd q (by decide), fun _ => ⟨fun q => ?_, fun q => ?_⟩, fun q => absurd q (by decide), fun q => absurd q (by decide), fun q => absurd q (by decide), fun q => absurd rfl q.2.2.2.2.2.2.1⟩
    · rw [j3_ge] at q; exact put 0 (by show 0 = if x < y then 1 else 0; rw [if_neg (by omega)])
    · rw [j3_ge] at q; exact put 1 (by show 1 = if x < y then 1 else 0; rw [if_pos (by omega)])
  · refine ⟨fun q => absurd q (by decide), fun q => absurd q (by decide), fun q => absurd q (by decide), fun q => absurd q (by decide), fun q => absurd q (by decide), fun q => absurd q (by decide), fun q => absurd q (by decide), fun q => absurd q (by decide), fun _ => ⟨fun q => ?_, fun q => ?_⟩, fun q => absurd q (by decide), fun q => absurd rfl q.2.2.2.2.2.2.2.2.1⟩
    · rw [j3_zero] at q; exact put 0 (by show 0 = if x = y then 1 else 0; rw [if_neg q])
    · rw [j3_zero] at q; exact put 1 (by show 1 = if x = y then 1 else 0; rw [if_pos q])
  · refine ⟨fun q => absurd q (by decide), fun q => absurd q (by decide), fun q => absurd q (by decide), fun q => absurd q (by decide), fun q => absurd q (by decide), fun q => absurd q (by decide), fun q => absurd q (by decide), fun _ => ⟨fun q => ?_, fun q => ?_⟩, fun q => absurd q (by decide), fun q => absurd q (by decide), fun q => absurd rfl q.2.2.2.2.2.2.2.1⟩
    · rw [j3_le] at q; exact put 0 (by show 0 = if y < x then 1 else 0; rw [if_neg (by omega)])
    · rw [j3_le] at q; exact put 1 (by show 1 = if y < x then 1 else 0; rw [if_pos (by omega)])
end R2
