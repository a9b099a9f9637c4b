section ON3
variable {d j j' : Nat} {φ φ' φ0 φ1 φ2 : aF} {α α' α0 α1 α2 : aA} {Q : Int → aF → aA → Prop} {n M ns : Nat} {rm nw nw' nw0 sr T A : Int → Int} {cs ct : List Int}
theorem r_onNo {x : Int} (hj : j < 512) (I0 : Iv n M ns rm cs ct sr j φ α) (h1 : φ' 11 1 198 = x) (e : upf φ' 11 1 198 0 = φ) (h : eX11_isImage (d + 2) x φ (rf1 α 5) (fun r1 φ1 α1 => r1 = 0 ∧ φ1 = φ ∧ α1 = rf1 α 5)) : eX11_on (d + 3) φ' (rf1 α 5) (pq sr j 0) := by
  refine vX11_on_0 ?_
  rw [h1, e]
  refine R0.mono h (fun r φ1 α1 w => ?_)
  obtain ⟨rfl, rfl, rfl⟩ := w
  exact ⟨fun q => absurd rfl q, fun _ => rd0 hj I0 (by omega)⟩
theorem p_on (hj : j < 512) (I : Inv sr j φ α) : eX10_on (d + 20) φ α (fun r φ1 α1 => eX11_on (d + 20) φ1 α1 (pq sr j r)) := by
  obtain ⟨n, M, ns, rm, cs, ct, I⟩ := I
  have G := I.G
  have hn := G.2.2.2.2.2.2
  obtain ⟨t1, t2, t3, t4⟩ := I.2.1
  have hb : ∀ i : Int, 0 ≤ i → i < φ 11 1 198 → 0 ≤ α 199 i ∧ α 199 i ≤ 255 := fun i q1 q2 => (t4 i q1 q2).2
  have I0 := Iv_tc I
  have eo := I.O.2.2.2.2.2.1
  have e1 : upf φ 6 1 1 0 11 1 198 = φ 11 1 198 := upf_o (by omega)
  refine vX10_on_0 ⟨fun q => c_clear row1 (c_denyR hj I.R (by omega) ⟨Or.inl rfl, ?_⟩), fun q => ?_⟩
  · have n0 : φ 11 46 198 = 0 ∧ n = 0 ∧ M = 0 ∧ ns = 0 := by have := I.op01; omega
    refine r_onNo (d := d + 17) hj I0 e1 rfl (vX11_isImage_0 (r_mMany (MO_r I.MO).1 ⟨by unfold inR; omega, r_cMany (MO_r I.MO).2.1 ?_⟩))
    rw [n0.2.1, n0.2.2.1]
    refine ⟨by unfold inR; omega, by unfold inR; omega, fun _ => ⟨rfl, rfl, rfl⟩, fun w => absurd ?_ w⟩
    rw [upf_o (by omega), upf_o (by omega)]; exact n0.1
  · have op : φ 11 46 198 = 1 := by have := I.op01; omega
    refine c_readPicture (T := α 199) (A := α 233) (N := φ 11 1 198) hn (by omega) hb (fun i q1 q2 => (t4 i q1 q2).1) t1 I.XO (fun w φ1 α1 X1 f1 s1 => ⟨fun q => by omega, fun _ => c_clear row1 ?_⟩) (fun w φ1 α1 f1 => ⟨fun _ => c_clear row1 ?_, fun q => absurd rfl q⟩)
    · -- an image
      have G1 := iw_G G hb w
      have X1' : XS 36 (upf φ1 6 1 1 0) α1 n (iwF (α 199) (α 233) M (plF2 (α 199) n M M 0) n (-1)) := XS_of (upf_o (by omega)) (fun _ _ _ => rfl) X1
      refine c_copyRoom st29 st36 (by omega) hn.1 X1' (by rw [upf_o (by omega)]; exact Or.inl s1) (fun φ2 α2 X2 f2 e9 e10 => vX7_forgetKept_0 st29 (vX3_clear_0 ?_))
      rw [upf_o (by omega), s1] at e9
      have ff : ∀ c f o, ¬ (c = 7 ∧ (o = 29 ∨ o = 36)) → ¬ (c = 6 ∧ o = 1) → ¬ (c = 3 ∧ f = 2) → upf (upf (upf φ2 7 7 29 0) 7 8 29 0) 3 2 43 0 c f o = φ c f o := fun c f o q1 q2 q3 => by
        rw [upf_o (by omega), upf_o (by omega), upf_o (by omega), f2.1 c f o (by omega), upf_o (by omega)]
        exact f1.1 c f o (by omega)
      have fa : ∀ a : Int, ¬ (29 < a ∧ a < 35) → ¬ (36 < a ∧ a < 42) → a ≠ 189 → α2 a = α a := fun a q1 q2 q3 => by rw [f2.2 a (by omega) q3]; exact f1.2 a (by omega) q3
      have z1 : upf (upf (upf φ2 7 7 29 0) 7 8 29 0) 3 2 43 0 11 1 198 = φ 11 1 198 := ff _ _ _ (by omega) (by omega) (by omega)
      have z46 : upf (upf (upf φ2 7 7 29 0) 7 8 29 0) 3 2 43 0 11 46 198 = 1 := (ff _ _ _ (by omega) (by omega) (by omega)).trans op
      have z9 : upf (upf (upf φ2 7 7 29 0) 7 8 29 0) 3 2 43 0 7 9 29 = 0 := by rw [upf_o (by omega), upf_o (by omega), upf_o (by omega)]; exact e9
      have z0 : upf (upf (upf φ2 7 7 29 0) 7 8 29 0) 3 2 43 0 7 0 29 = φ2 7 0 29 := by rw [upf_o (by omega), upf_o (by omega), upf_o (by omega)]
      have z7 : upf (upf (upf φ2 7 7 29 0) 7 8 29 0) 3 2 43 0 7 7 29 = 0 := by rw [upf_o (by omega), upf_o (by omega), upf_s]
      have z8 : upf (upf (upf φ2 7 7 29 0) 7 8 29 0) 3 2 43 0 7 8 29 = 0 := by rw [upf_o (by omega), upf_s]
      have z3 : upf (upf (upf φ2 7 7 29 0) 7 8 29 0) 3 2 43 0 3 2 43 = 0 := upf_s
      have z61 : upf (upf (upf φ2 7 7 29 0) 7 8 29 0) 3 2 43 0 6 1 1 = 0 := by rw [upf_o (by omega), upf_o (by omega), upf_o (by omega), f2.1 _ _ _ (by omega), upf_s]
      generalize upf (upf (upf φ2 7 7 29 0) 7 8 29 0) 3 2 43 0 = φ3 at *
      have a199 : α2 199 = α 199 := fa _ (by omega) (by omega) (by omega)
      have a233 : α2 233 = α 233 := fa _ (by omega) (by omega) (by omega)
      have O2 := MO_a (fun a _ _ => fa a (by omega) (by omega) (by omega)) I.MO
      refine vX11_on_0 ?_
      rw [z1]
      refine r_isImage (n := n) (M := M) (ns := ns) (rm := rm) hn (by rw [upf_o (by omega)]; exact z46) (by omega) (by rw [a199]; exact hb) O2 (fun w' hw' => ?_)
      rw [a199] at hw'
      rcases hw' with ⟨rfl, -⟩ | ⟨-, hw'⟩
      · refine ⟨fun _ => r_mMany O2.1 ⟨by unfold inR; omega, r_twoAt (N := φ 11 1 198) (by rw [a199]; exact hb) (by omega) (by have := w.1; have := nm_bd hn.2.1 (c := (n : Int)) (by omega); omega) ?_⟩, fun q => by omega⟩
        rw [a199]
        have := l_on50 (d := d + 19) (φ := upf φ3 11 1 198 0) (Q := pq sr j 1) (T := α 199) (A := α 233) (α0 := α2) (n := n) (M := M) ⟨hn.1, hn.2.1⟩ a199.symm O2.2.1 (fun α3 o3 e3 => by
          have := l_on107 (d := d + 19) (φ := upf φ3 11 1 198 0) (Q := pq sr j 1) (T := α 199) (A := α 233) (α0 := α2) (n := n) (M := M) (N := φ 11 1 198) ⟨hn.1, hn.2.1⟩ a199.symm (by rw [a199]; exact hb) w.1 ⟨O2.2.1, O2.1⟩ (fun α4 o4 e4 => by
            have row := iw_eq (T := α 199) G
            have rw4 : ∀ i : Int, 0 ≤ i → i < 169 → α4 233 i = iwF (α 199) (α 233) M (plF2 (α 199) n M M 0) n (-1) i := fun i q1 q2 => by rw [e4]; exact row i q1 q2
            have r48 : α4 233 48 = 0 := by rw [e4, un_s]
            obtain ⟨i0, i1, i2, i3, i4, i5, i6, i7, i8, i9, i10, i11⟩ := I
            have gf : ∀ c f o, ¬ (c = 7 ∧ (o = 29 ∨ o = 36)) → ¬ (c = 6 ∧ o = 1) → ¬ (c = 3 ∧ f = 2) → ¬ (c = 11 ∧ (f = 1 ∨ f = 60)) → upf (upf φ3 11 1 198 0) 11 60 198 0 c f o = φ c f o := fun c f o q1 q2 q3 q4 => by rw [upf_o (by omega), upf_o (by omega)]; exact ff c f o q1 q2 q3
            have ga : ∀ a : Int, ¬ (29 < a ∧ a < 35) → ¬ (36 < a ∧ a < 42) → a ≠ 189 → a ≠ 233 → α4 a = α a := fun a q1 q2 q3 q4 => by rw [o4 a q4]; exact fa a q1 q2 q3
            have a4 : ∀ a : Int, a ≠ 233 → α4 a = α2 a := o4
            refine ⟨rfl, n, M, ns, rm, cs, ct, by rw [ga _ (by omega) (by omega) (by omega) (by omega)]; exact i0, ⟨by rw [upf_o (by omega), upf_o (by omega), z61, upf_o (by omega), upf_s], by rw [upf_o (by omega), upf_s]; omega, by rw [upf_o (by omega), upf_s]; omega, fun i q1 q2 => by rw [upf_o (by omega), upf_s] at q2; omega⟩, iF_of (gf _ _ _ (by omega) (by omega) (by omega) (by omega)) (gf _ _ _ (by omega) (by omega) (by omega) (by omega)) (gf _ _ _ (by omega) (by omega) (by omega) (by omega)) (gf _ _ _ (by omega) (by omega) (by omega) (by omega)) i2, iR_of (Nat.le_succ j) (ga _ (by omega) (by omega) (by omega) (by omega)) (ga _ (by omega) (by omega) (by omega) (by omega)) i3, iD_of (gf _ _ _ (by omega) (by omega) (by omega) (by omega)) (gf _ _ _ (by omega) (by omega) (by omega) (by omega)) i4, ⟨by rw [gf _ _ _ (by omega) (by omega) (by omega) (by omega)]; exact i5.1, by rw [gf _ _ _ (by omega) (by omega) (by omega) (by omega)]; exact i5.2.1, by rw [gf _ _ _ (by omega) (by omega) (by omega) (by omega)]; have := i5.2.2; omega⟩, iO_of (fun _ => gf _ _ _ (by omega) (by omega) (by omega) (by omega)) (gf _ _ _ (by omega) (by omega) (by omega) (by omega)) (gf _ _ _ (by omega) (by omega) (by omega) (by omega)) (gf _ _ _ (by omega) (by omega) (by omega) (by omega)) (fun x _ _ => ga _ (by omega) (by omega) (by omega) (by omega)) (fun x _ _ => ga _ (by omega) (by omega) (by omega) (by omega)) i6, ?_, ?_, iS_of (gf _ _ _ (by omega) (by omega) (by omega) (by omega)) (gf _ _ _ (by omega) (by omega) (by omega) (by omega)) (ga _ (by omega) (by omega) (by omega) (by omega)) (ga _ (by omega) (by omega) (by omega) (by omega)) i9, iC_of (gf _ _ _ (by omega) (by omega) (by omega) (by omega)) (gf _ _ _ (by omega) (by omega) (by omega) (by omega)) (ga _ (by omega) (by omega) (by omega) (by omega)) (ga _ (by omega) (by omega) (by omega) (by omega)) i10, iW_of (ga _ (by omega) (by omega) (by omega) (by omega)) (fun x _ _ => ga _ (by omega) (by omega) (by omega) (by omega)) (fun x _ _ => ga _ (by omega) (by omega) (by omega) (by omega)) i11⟩
            · refine ⟨XS_nw hn.1 (fun i q1 q2 => rw4 i q1 (by omega)) (XS_of (by rw [upf_o (by omega), upf_o (by omega), z0]) (fun i q1 q2 => a4 _ (by omega)) X2), GS_nw (fun i q1 q2 => rw4 i q1 (by omega)) G1, ?_, ?_, Or.inl (by rw [upf_o (by omega), upf_o (by omega), z9])⟩
              · refine ⟨by rw [upf_o (by omega), upf_o (by omega), z7]; omega, by rw [upf_o (by omega), upf_o (by omega), z7]; omega, by rw [upf_o (by omega), upf_o (by omega), z8, r48], by rw [r48]; omega, by rw [r48]; omega, fun k w q1 q2 => by rw [r48] at q2; omega⟩
              · rw [rw4 0 (by omega) (by omega), iw_0]; exact w.2.2.1
            · obtain ⟨p1, p2, p3, p4, p5, p6, p7⟩ := i8
              have y1 : upf (upf φ3 11 1 198 0) 11 60 198 0 3 1 43 = φ 3 1 43 := gf _ _ _ (by omega) (by omega) (by omega) (by omega)
              have y2 : upf (upf φ3 11 1 198 0) 11 60 198 0 11 61 198 = φ 11 61 198 := gf _ _ _ (by omega) (by omega) (by omega) (by omega)
              refine ⟨by rw [y1]; exact p1, by rw [y1]; exact p2, by rw [y1, y2]; exact p3, by rw [upf_o (by omega), upf_o (by omega), z3, upf_s], by rw [upf_s]; omega, by rw [upf_s]; omega, fun i q1 q2 => by rw [upf_s] at q2; omega⟩) (3 * M) 0 (by omega) α3 o3 (by
            rw [e3]
            funext i
            unfold opF
            rw [if_neg (by omega)])
          exact this) n 0 (by omega) (upa α2 233 0 (twF (α 199) 0)) (fun a q => upa_fn q) (by
          rw [upa_un, a233]
          funext i
          unfold un orF
          by_cases e : i = 0
          · rw [if_pos e, if_pos e]
          · rw [if_neg e, if_neg e, if_neg (by omega)])
        exact this
      · exact absurd w hw'
    · -- none
      have R1 : iR j α1 := iR_of (Nat.le_refl j) (f1.2 _ (by omega) (by omega)) (f1.2 _ (by omega) (by omega)) I.R
      refine c_denyR hj R1 (by omega) ⟨Or.inl rfl, ?_⟩
      have I1 : Iv n M ns rm cs ct sr j φ1 α1 := Iv_frd f1.d I
      have a199 : α1 199 = α 199 := f1.2 _ (by omega) (by omega)
      refine r_onNo (d := d + 17) hj (Iv_tc I1) (show upf φ1 6 1 1 0 11 1 198 = φ 11 1 198 by rw [upf_o (by omega)]; exact f1.1 _ _ _ (by omega)) rfl (r_isImage (n := n) (M := M) (ns := ns) (rm := rm) hn (by rw [upf_o (by omega), upf_o (by omega)]; exact (f1.1 _ _ _ (by omega)).trans op) (by omega) (by rw [rf_o (by omega), a199]; exact hb) (MO_r I1.MO) (fun w' hw' => ?_))
      rw [rf_o (by omega), a199] at hw'
      rcases hw' with ⟨-, hw'⟩ | ⟨rfl, -⟩
      · exact absurd hw' w
      · exact ⟨rfl, rfl, rfl⟩
end ON3
