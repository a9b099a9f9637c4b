/-! the law's loop (printed by wip/whole/gen_law2.py) -/
section LAWT
variable {d : Nat} {M N : aM} {pc pc' Ln n ix : Nat} {L S St : List aV} {K : bK} {φ : aF} {α : aA} {k : Nat × Nat} {Q : bQ}
/-- no call changes the script -/
theorem r_scr (h : Rn d M pc L S K φ α k Q) : Rn d M pc L S K φ α k (fun r K' φ' α' => Q r K' φ' α' ∧ ∀ i : Nat, i < (K.2 (-1)).2 → α' (-1) i = α (-1) i) := by
  intro p l e R s m args below meth c D cA ad b base Ln xs H locs cells slots ls C Wo hS hL vL vS
  refine W.mono (MQ.mono fun o t ⟨⟨r, K', φ', α', ad', h1, h2, h3, h4, h5⟩, h6⟩ => ⟨⟨r, K', φ', α', ad', h1, ⟨h2, fun i hi => ?_⟩, h3, h4, h5⟩, h6⟩) (h p l e R s m args below meth c D cA ad b base Ln xs H locs cells slots ls C Wo hS hL vL vS)
  have hi' : i < Ln := by rw [Wo.2.2.2.1] at hi; exact hi
  rw [h4.2.2.2.2.2 i hi', Wo.2.2.2.2.2 i hi']
theorem s_sldv {i x y : Int} (hd : decode M.2.1 pc = .ok (.iaload, 1)) (hp : pc + 1 = pc') (g2 : 0 ≤ i ∧ i < Ln) (hx : α (-1) i = x) (h : Rn d M pc' L ((0, x) :: S) (K0 Ln) (mix φ) (mixA α) k Q) : Rn d M pc L ((0, i) :: (4, y) :: S) (K0 Ln) (mix φ) (mixA α) k Q := by
  subst hx
  exact s_sld hd hp g2 h
theorem s_callVs {As : List aV} {S2 : Int → List aV} {o : Int} {ci nn : Nat} {q : vw_C} {Q1 : Int → aF → aA → Prop} (hd : decode M.2.1 pc = .ok (.invokevirtual ix, 3)) (hp : pc + 3 = pc') (hst : As.reverse ++ (2, o) :: S = St) (hN : NK N n) (hl : Cond.methodLink M.1.cls ix N.1 ∈ lw_tbl ∨ ∃ host, Cond.methodLinkNest M.1.cls ix N.1 host ∈ lw_tbl) (hi : Cond.instanceMethod N.1 ∈ lw_tbl) (hq : vCl[ci]? = some q) (hse : Cond.selects q.1 N.1 N.1 ∈ lw_tbl) (hn : As.length = n) (hc : catS S ≤ 8) (hA : (aEn1 ((2, o) :: As)).length ≤ N.2.2.1) (g : (K0 Ln).2 o = (ci, nn))
    (h1 : R0 d N 0 (aEn N.2.2.1 ((2, o) :: As)) [] φ α Q1) (hS2 : ∀ x, (rOk N.2.2.2 x).toList ++ S = S2 x) (h2 : ∀ x φ' α', Q1 x φ' α' → (∀ i : Int, 0 ≤ i → i < Ln → α' (-1) i = α (-1) i) → Rn (d + 1) M pc' L (S2 x) (K0 Ln) (mix φ') (mixA α') (0, 0) Q) : Rn (d + 1) M pc L St (K0 Ln) (mix φ) (mixA α) (0, 0) Q :=
  r_callV (k1 := (0, 0)) (k2 := (0, 0)) hd hp hst hN hl hi hq hse hn hc hA (by rw [g]) (r_scr (h1 Ln)) (fun r K' φ' α' ⟨⟨x, φ1, α1, e1, e2, e3, e4, hq⟩, hz⟩ => by
    subst e1; subst e2; subst e3; subst e4
    rw [hS2]
    refine h2 x φ1 α1 hq (fun i q1 q2 => ?_)
    have := hz i.toNat (show i.toNat < Ln by omega)
    rw [Int.toNat_of_nonneg q1, mixA_ne (by decide), mixA_ne (by decide)] at this
    exact this)
end LAWT
theorem vL2_law_18 {Ln d : Nat} {φ : aF} {α : aA} {Q : Int → aF → aA → Prop} {x3 : Int} (h : inR ((Ln : Int) - 6) ∧ ((((Ln : Int) - 6) < x3 →
   (Q 1 φ α)) ∧
   (¬ (((Ln : Int) - 6) < x3) →
   (0 ≤ x3 ∧ x3 < (Ln : Nat)) ∧ (((iAnd (α (-1) x3) 63) = 0 →
     inR (x3 + 1) ∧ (0 ≤ (x3 + 1) ∧ (x3 + 1) < (Ln : Nat)) ∧ inR (x3 + 2) ∧ (0 ≤ (x3 + 2) ∧ (x3 + 2) < (Ln : Nat)) ∧ inR (x3 + 3) ∧ (0 ≤ (x3 + 3) ∧ (x3 + 3) < (Ln : Nat)) ∧ inR (x3 + 4) ∧ (0 ≤ (x3 + 4) ∧ (x3 + 4) < (Ln : Nat)) ∧ inR (x3 + 5) ∧ (0 ≤ (x3 + 5) ∧ (x3 + 5) < (Ln : Nat)) ∧ (eX10_feed d (α (-1) (x3 + 1)) (α (-1) (x3 + 2)) (α (-1) (x3 + 3)) (α (-1) (x3 + 4)) (α (-1) (x3 + 5)) φ α (fun r16 φ16 α16 =>
       (eX11_feed d (α (-1) (x3 + 1)) (α (-1) (x3 + 2)) (α (-1) (x3 + 3)) (α (-1) (x3 + 4)) (α (-1) (x3 + 5)) φ16 α16 (fun r17 φ17 α17 =>
       ((r16 = r17 →
       inR (x3 + 6) ∧ (jL Ln (d + 1) (x3 + 6) φ17 α17 Q)) ∧
       (¬ (r16 = r17) →
       (Q 0 φ17 α17)))))))) ∧
     (((iAnd (α (-1) x3) 63) = 1 →
     inR (x3 + 1) ∧ (0 ≤ (x3 + 1) ∧ (x3 + 1) < (Ln : Nat)) ∧ (eX10_end d (α (-1) (x3 + 1)) φ α (fun r22 φ22 α22 =>
       (eX11_end d (α (-1) (x3 + 1)) φ22 α22 (fun r23 φ23 α23 =>
       ((r22 = r23 →
       inR (x3 + 6) ∧ (jL Ln (d + 1) (x3 + 6) φ23 α23 Q)) ∧
       (¬ (r22 = r23) →
       (Q 0 φ23 α23)))))))) ∧
     (((iAnd (α (-1) x3) 63) = 2 →
     (eX10_registry d  φ α (fun r26 φ26 α26 =>
       (eX11_registry d  φ26 α26 (fun r27 φ27 α27 =>
       ((r26 = r27 →
       inR (x3 + 6) ∧ (jL Ln (d + 1) (x3 + 6) φ27 α27 Q)) ∧
       (¬ (r26 = r27) →
       (Q 0 φ27 α27)))))))) ∧
     (((iAnd (α (-1) x3) 63) = 3 →
     inR (x3 + 1) ∧ (0 ≤ (x3 + 1) ∧ (x3 + 1) < (Ln : Nat)) ∧ (eX10_fault d (α (-1) (x3 + 1)) φ α (fun r32 φ32 α32 =>
       (eX11_fault d (α (-1) (x3 + 1)) φ32 α32 (fun r33 φ33 α33 =>
       ((r32 = r33 →
       inR (x3 + 6) ∧ (jL Ln (d + 1) (x3 + 6) φ33 α33 Q)) ∧
       (¬ (r32 = r33) →
       (Q 0 φ33 α33)))))))) ∧
     (((iAnd (α (-1) x3) 63) = 4 →
     inR (x3 + 1) ∧ (0 ≤ (x3 + 1) ∧ (x3 + 1) < (Ln : Nat)) ∧ (eX10_has d (α (-1) (x3 + 1)) φ α (fun r38 φ38 α38 =>
       (eX11_has d (α (-1) (x3 + 1)) φ38 α38 (fun r39 φ39 α39 =>
       ((r38 = r39 →
       inR (x3 + 6) ∧ (jL Ln (d + 1) (x3 + 6) φ39 α39 Q)) ∧
       (¬ (r38 = r39) →
       (Q 0 φ39 α39)))))))) ∧
     (((iAnd (α (-1) x3) 63) = 5 →
     inR (x3 + 1) ∧ (0 ≤ (x3 + 1) ∧ (x3 + 1) < (Ln : Nat)) ∧ inR (x3 + 2) ∧ (0 ≤ (x3 + 2) ∧ (x3 + 2) < (Ln : Nat)) ∧ inR (x3 + 3) ∧ (0 ≤ (x3 + 3) ∧ (x3 + 3) < (Ln : Nat)) ∧ (eX10_letter d (α (-1) (x3 + 1)) (α (-1) (x3 + 2)) (α (-1) (x3 + 3)) φ α (fun r48 φ48 α48 =>
       (eX11_letter d (α (-1) (x3 + 1)) (α (-1) (x3 + 2)) (α (-1) (x3 + 3)) φ48 α48 (fun r49 φ49 α49 =>
       ((r48 = r49 →
       inR (x3 + 6) ∧ (jL Ln (d + 1) (x3 + 6) φ49 α49 Q)) ∧
       (¬ (r48 = r49) →
       (Q 0 φ49 α49)))))))) ∧
     (((iAnd (α (-1) x3) 63) = 6 →
     inR (x3 + 1) ∧ (0 ≤ (x3 + 1) ∧ (x3 + 1) < (Ln : Nat)) ∧ (eX10_seat d (α (-1) (x3 + 1)) φ α (fun r54 φ54 α54 =>
       (eX11_seat d (α (-1) (x3 + 1)) φ54 α54 (fun r55 φ55 α55 =>
       ((r54 = r55 →
       inR (x3 + 6) ∧ (jL Ln (d + 1) (x3 + 6) φ55 α55 Q)) ∧
       (¬ (r54 = r55) →
       (Q 0 φ55 α55)))))))) ∧
     (((iAnd (α (-1) x3) 63) = 7 →
     inR (x3 + 1) ∧ (0 ≤ (x3 + 1) ∧ (x3 + 1) < (Ln : Nat)) ∧ inR (x3 + 2) ∧ (0 ≤ (x3 + 2) ∧ (x3 + 2) < (Ln : Nat)) ∧ (eX10_clerk d (α (-1) (x3 + 1)) (α (-1) (x3 + 2)) φ α (fun r62 φ62 α62 =>
       (eX11_clerk d (α (-1) (x3 + 1)) (α (-1) (x3 + 2)) φ62 α62 (fun r63 φ63 α63 =>
       ((r62 = r63 →
       inR (x3 + 6) ∧ (jL Ln (d + 1) (x3 + 6) φ63 α63 Q)) ∧
       (¬ (r62 = r63) →
       (Q 0 φ63 α63)))))))) ∧
     (((iAnd (α (-1) x3) 63) = 8 →
     inR (x3 + 1) ∧ (0 ≤ (x3 + 1) ∧ (x3 + 1) < (Ln : Nat)) ∧ inR (x3 + 2) ∧ (0 ≤ (x3 + 2) ∧ (x3 + 2) < (Ln : Nat)) ∧ (eX10_drops d (α (-1) (x3 + 1)) (α (-1) (x3 + 2)) φ α (fun r70 φ70 α70 =>
       (eX11_drops d (α (-1) (x3 + 1)) (α (-1) (x3 + 2)) φ70 α70 (fun r71 φ71 α71 =>
       ((r70 = r71 →
       inR (x3 + 6) ∧ (jL Ln (d + 1) (x3 + 6) φ71 α71 Q)) ∧
       (¬ (r70 = r71) →
       (Q 0 φ71 α71)))))))) ∧
     (((iAnd (α (-1) x3) 63) = 9 →
     inR (x3 + 1) ∧ (0 ≤ (x3 + 1) ∧ (x3 + 1) < (Ln : Nat)) ∧ inR (x3 + 2) ∧ (0 ≤ (x3 + 2) ∧ (x3 + 2) < (Ln : Nat)) ∧ (eX10_matter d (α (-1) (x3 + 1)) (α (-1) (x3 + 2)) φ α (fun r78 φ78 α78 =>
       (eX11_matter d (α (-1) (x3 + 1)) (α (-1) (x3 + 2)) φ78 α78 (fun r79 φ79 α79 =>
       ((r78 = r79 →
       inR (x3 + 6) ∧ (jL Ln (d + 1) (x3 + 6) φ79 α79 Q)) ∧
       (¬ (r78 = r79) →
       (Q 0 φ79 α79)))))))) ∧
     (((iAnd (α (-1) x3) 63) = 10 →
     inR (x3 + 1) ∧ (0 ≤ (x3 + 1) ∧ (x3 + 1) < (Ln : Nat)) ∧ inR (x3 + 2) ∧ (0 ≤ (x3 + 2) ∧ (x3 + 2) < (Ln : Nat)) ∧ inR (x3 + 3) ∧ (0 ≤ (x3 + 3) ∧ (x3 + 3) < (Ln : Nat)) ∧ (eX10_leak d (α (-1) (x3 + 1)) (α (-1) (x3 + 2)) (α (-1) (x3 + 3)) φ α (fun r88 φ88 α88 =>
       (eX11_leak d (α (-1) (x3 + 1)) (α (-1) (x3 + 2)) (α (-1) (x3 + 3)) φ88 α88 (fun r89 φ89 α89 =>
       ((r88 = r89 →
       inR (x3 + 6) ∧ (jL Ln (d + 1) (x3 + 6) φ89 α89 Q)) ∧
       (¬ (r88 = r89) →
       (Q 0 φ89 α89)))))))) ∧
     (((iAnd (α (-1) x3) 63) = 11 →
     inR (x3 + 1) ∧ (0 ≤ (x3 + 1) ∧ (x3 + 1) < (Ln : Nat)) ∧ inR (x3 + 2) ∧ (0 ≤ (x3 + 2) ∧ (x3 + 2) < (Ln : Nat)) ∧ (eX10_kept d (α (-1) (x3 + 1)) (α (-1) (x3 + 2)) φ α (fun r96 φ96 α96 =>
       (eX11_kept d (α (-1) (x3 + 1)) (α (-1) (x3 + 2)) φ96 α96 (fun r97 φ97 α97 =>
       ((r96 = r97 →
       inR (x3 + 6) ∧ (jL Ln (d + 1) (x3 + 6) φ97 α97 Q)) ∧
       (¬ (r96 = r97) →
       (Q 0 φ97 α97)))))))) ∧
     (((iAnd (α (-1) x3) 63) = 12 →
     inR (x3 + 1) ∧ (0 ≤ (x3 + 1) ∧ (x3 + 1) < (Ln : Nat)) ∧ inR (x3 + 2) ∧ (0 ≤ (x3 + 2) ∧ (x3 + 2) < (Ln : Nat)) ∧ inR (x3 + 3) ∧ (0 ≤ (x3 + 3) ∧ (x3 + 3) < (Ln : Nat)) ∧ (eX10_later d (α (-1) (x3 + 1)) (α (-1) (x3 + 2)) (α (-1) (x3 + 3)) φ α (fun r106 φ106 α106 =>
       (eX11_later d (α (-1) (x3 + 1)) (α (-1) (x3 + 2)) (α (-1) (x3 + 3)) φ106 α106 (fun r107 φ107 α107 =>
       ((r106 = r107 →
       inR (x3 + 6) ∧ (jL Ln (d + 1) (x3 + 6) φ107 α107 Q)) ∧
       (¬ (r106 = r107) →
       (Q 0 φ107 α107)))))))) ∧
     (((iAnd (α (-1) x3) 63) = 13 →
     inR (x3 + 1) ∧ (0 ≤ (x3 + 1) ∧ (x3 + 1) < (Ln : Nat)) ∧ inR (x3 + 2) ∧ (0 ≤ (x3 + 2) ∧ (x3 + 2) < (Ln : Nat)) ∧ (eX10_knows d (α (-1) (x3 + 1)) (α (-1) (x3 + 2)) φ α (fun r114 φ114 α114 =>
       (eX11_knows d (α (-1) (x3 + 1)) (α (-1) (x3 + 2)) φ114 α114 (fun r115 φ115 α115 =>
       ((r114 = r115 →
       inR (x3 + 6) ∧ (jL Ln (d + 1) (x3 + 6) φ115 α115 Q)) ∧
       (¬ (r114 = r115) →
       (Q 0 φ115 α115)))))))) ∧
     (((iAnd (α (-1) x3) 63) = 14 →
     inR (x3 + 1) ∧ (0 ≤ (x3 + 1) ∧ (x3 + 1) < (Ln : Nat)) ∧ inR (x3 + 2) ∧ (0 ≤ (x3 + 2) ∧ (x3 + 2) < (Ln : Nat)) ∧ (eX10_hears d (α (-1) (x3 + 1)) (α (-1) (x3 + 2)) φ α (fun r122 φ122 α122 =>
       (eX11_hears d (α (-1) (x3 + 1)) (α (-1) (x3 + 2)) φ122 α122 (fun r123 φ123 α123 =>
       ((r122 = r123 →
       inR (x3 + 6) ∧ (jL Ln (d + 1) (x3 + 6) φ123 α123 Q)) ∧
       (¬ (r122 = r123) →
       (Q 0 φ123 α123)))))))) ∧
     (((iAnd (α (-1) x3) 63) = 15 →
     inR (x3 + 1) ∧ (0 ≤ (x3 + 1) ∧ (x3 + 1) < (Ln : Nat)) ∧ inR (x3 + 2) ∧ (0 ≤ (x3 + 2) ∧ (x3 + 2) < (Ln : Nat)) ∧ inR (x3 + 3) ∧ (0 ≤ (x3 + 3) ∧ (x3 + 3) < (Ln : Nat)) ∧ (eX10_discreet d (α (-1) (x3 + 1)) (α (-1) (x3 + 2)) (α (-1) (x3 + 3)) φ α (fun r132 φ132 α132 =>
       (eX11_discreet d (α (-1) (x3 + 1)) (α (-1) (x3 + 2)) (α (-1) (x3 + 3)) φ132 α132 (fun r133 φ133 α133 =>
       ((r132 = r133 →
       inR (x3 + 6) ∧ (jL Ln (d + 1) (x3 + 6) φ133 α133 Q)) ∧
       (¬ (r132 = r133) →
       (Q 0 φ133 α133)))))))) ∧
     (((iAnd (α (-1) x3) 63) = 16 →
     inR (x3 + 1) ∧ (0 ≤ (x3 + 1) ∧ (x3 + 1) < (Ln : Nat)) ∧ inR (x3 + 2) ∧ (0 ≤ (x3 + 2) ∧ (x3 + 2) < (Ln : Nat)) ∧ inR (x3 + 3) ∧ (0 ≤ (x3 + 3) ∧ (x3 + 3) < (Ln : Nat)) ∧ (eX10_pressed d (α (-1) (x3 + 1)) (α (-1) (x3 + 2)) (α (-1) (x3 + 3)) φ α (fun r142 φ142 α142 =>
       (eX11_pressed d (α (-1) (x3 + 1)) (α (-1) (x3 + 2)) (α (-1) (x3 + 3)) φ142 α142 (fun r143 φ143 α143 =>
       ((r142 = r143 →
       inR (x3 + 6) ∧ (jL Ln (d + 1) (x3 + 6) φ143 α143 Q)) ∧
       (¬ (r142 = r143) →
       (Q 0 φ143 α143)))))))) ∧
     (((iAnd (α (-1) x3) 63) = 17 →
     (eX10_mops d  φ α (fun r146 φ146 α146 =>
       (eX11_mops d  φ146 α146 (fun r147 φ147 α147 =>
       ((r146 = r147 →
       inR (x3 + 6) ∧ (jL Ln (d + 1) (x3 + 6) φ147 α147 Q)) ∧
       (¬ (r146 = r147) →
       (Q 0 φ147 α147)))))))) ∧
     (((iAnd (α (-1) x3) 63) = 18 →
     inR (x3 + 1) ∧ (0 ≤ (x3 + 1) ∧ (x3 + 1) < (Ln : Nat)) ∧ (eX10_desks d (α (-1) (x3 + 1)) φ α (fun r152 φ152 α152 =>
       (eX11_desks d (α (-1) (x3 + 1)) φ152 α152 (fun r153 φ153 α153 =>
       ((r152 = r153 →
       inR (x3 + 6) ∧ (jL Ln (d + 1) (x3 + 6) φ153 α153 Q)) ∧
       (¬ (r152 = r153) →
       (Q 0 φ153 α153)))))))) ∧
     (((iAnd (α (-1) x3) 63) = 19 →
     (eX10_see d  φ α (fun r156 φ156 α156 =>
       (eX11_see d  φ156 α156 (fun r157 φ157 α157 =>
       ((r156 = r157 →
       inR (x3 + 6) ∧ (jL Ln (d + 1) (x3 + 6) φ157 α157 Q)) ∧
       (¬ (r156 = r157) →
       (Q 0 φ157 α157)))))))) ∧
     (((iAnd (α (-1) x3) 63) = 20 →
     inR (x3 + 1) ∧ (0 ≤ (x3 + 1) ∧ (x3 + 1) < (Ln : Nat)) ∧ inR (x3 + 2) ∧ (0 ≤ (x3 + 2) ∧ (x3 + 2) < (Ln : Nat)) ∧ (eX10_sources d (α (-1) (x3 + 1)) (α (-1) (x3 + 2)) φ α (fun r164 φ164 α164 =>
       (eX11_sources d (α (-1) (x3 + 1)) (α (-1) (x3 + 2)) φ164 α164 (fun r165 φ165 α165 =>
       ((r164 = r165 →
       inR (x3 + 6) ∧ (jL Ln (d + 1) (x3 + 6) φ165 α165 Q)) ∧
       (¬ (r164 = r165) →
       (Q 0 φ165 α165)))))))) ∧
     (((iAnd (α (-1) x3) 63) = 21 →
     inR (x3 + 1) ∧ (0 ≤ (x3 + 1) ∧ (x3 + 1) < (Ln : Nat)) ∧ inR (x3 + 2) ∧ (0 ≤ (x3 + 2) ∧ (x3 + 2) < (Ln : Nat)) ∧ inR (x3 + 3) ∧ (0 ≤ (x3 + 3) ∧ (x3 + 3) < (Ln : Nat)) ∧ (eX10_tells d (α (-1) (x3 + 1)) (α (-1) (x3 + 2)) (α (-1) (x3 + 3)) φ α (fun r174 φ174 α174 =>
       (eX11_tells d (α (-1) (x3 + 1)) (α (-1) (x3 + 2)) (α (-1) (x3 + 3)) φ174 α174 (fun r175 φ175 α175 =>
       ((r174 = r175 →
       inR (x3 + 6) ∧ (jL Ln (d + 1) (x3 + 6) φ175 α175 Q)) ∧
       (¬ (r174 = r175) →
       (Q 0 φ175 α175)))))))) ∧
     (((iAnd (α (-1) x3) 63) = 22 →
     inR (x3 + 1) ∧ (0 ≤ (x3 + 1) ∧ (x3 + 1) < (Ln : Nat)) ∧ inR (x3 + 2) ∧ (0 ≤ (x3 + 2) ∧ (x3 + 2) < (Ln : Nat)) ∧ inR (x3 + 3) ∧ (0 ≤ (x3 + 3) ∧ (x3 + 3) < (Ln : Nat)) ∧ (eX10_tell d (α (-1) (x3 + 1)) (α (-1) (x3 + 2)) (α (-1) (x3 + 3)) φ α (fun r184 φ184 α184 =>
       (eX11_tell d (α (-1) (x3 + 1)) (α (-1) (x3 + 2)) (α (-1) (x3 + 3)) φ184 α184 (fun r185 φ185 α185 =>
       ((r184 = r185 →
       inR (x3 + 6) ∧ (jL Ln (d + 1) (x3 + 6) φ185 α185 Q)) ∧
       (¬ (r184 = r185) →
       (Q 0 φ185 α185)))))))) ∧
     (((iAnd (α (-1) x3) 63) = 23 →
     inR (x3 + 1) ∧ (0 ≤ (x3 + 1) ∧ (x3 + 1) < (Ln : Nat)) ∧ (eX10_squeeze d (α (-1) (x3 + 1)) φ α (fun r190 φ190 α190 =>
       (eX11_squeeze d (α (-1) (x3 + 1)) φ190 α190 (fun r191 φ191 α191 =>
       ((r190 = r191 →
       inR (x3 + 6) ∧ (jL Ln (d + 1) (x3 + 6) φ191 α191 Q)) ∧
       (¬ (r190 = r191) →
       (Q 0 φ191 α191)))))))) ∧
     (((iAnd (α (-1) x3) 63) = 24 →
     inR (x3 + 1) ∧ (0 ≤ (x3 + 1) ∧ (x3 + 1) < (Ln : Nat)) ∧ (eX10_rinse d (α (-1) (x3 + 1)) φ α (fun r196 φ196 α196 =>
       (eX11_rinse d (α (-1) (x3 + 1)) φ196 α196 (fun r197 φ197 α197 =>
       ((r196 = r197 →
       inR (x3 + 6) ∧ (jL Ln (d + 1) (x3 + 6) φ197 α197 Q)) ∧
       (¬ (r196 = r197) →
       (Q 0 φ197 α197)))))))) ∧
     (((iAnd (α (-1) x3) 63) = 25 →
     inR (x3 + 1) ∧ (0 ≤ (x3 + 1) ∧ (x3 + 1) < (Ln : Nat)) ∧ (eX10_mop d (α (-1) (x3 + 1)) φ α (fun r202 φ202 α202 =>
       (eX11_mop d (α (-1) (x3 + 1)) φ202 α202 (fun r203 φ203 α203 =>
       ((r202 = r203 →
       inR (x3 + 6) ∧ (jL Ln (d + 1) (x3 + 6) φ203 α203 Q)) ∧
       (¬ (r202 = r203) →
       (Q 0 φ203 α203)))))))) ∧
     (((iAnd (α (-1) x3) 63) = 26 →
     inR (x3 + 1) ∧ (0 ≤ (x3 + 1) ∧ (x3 + 1) < (Ln : Nat)) ∧ inR (x3 + 2) ∧ (0 ≤ (x3 + 2) ∧ (x3 + 2) < (Ln : Nat)) ∧ (eX10_change d (α (-1) (x3 + 1)) (α (-1) (x3 + 2)) φ α (fun r210 φ210 α210 =>
       (eX11_change d (α (-1) (x3 + 1)) (α (-1) (x3 + 2)) φ210 α210 (fun r211 φ211 α211 =>
       ((r210 = r211 →
       inR (x3 + 6) ∧ (jL Ln (d + 1) (x3 + 6) φ211 α211 Q)) ∧
       (¬ (r210 = r211) →
       (Q 0 φ211 α211)))))))) ∧
     (((iAnd (α (-1) x3) 63) = 27 →
     inR (x3 + 1) ∧ (0 ≤ (x3 + 1) ∧ (x3 + 1) < (Ln : Nat)) ∧ (eX10_days d (α (-1) (x3 + 1)) φ α (fun r216 φ216 α216 =>
       (eX11_days d (α (-1) (x3 + 1)) φ216 α216 (fun r217 φ217 α217 =>
       ((r216 = r217 →
       inR (x3 + 6) ∧ (jL Ln (d + 1) (x3 + 6) φ217 α217 Q)) ∧
       (¬ (r216 = r217) →
       (Q 0 φ217 α217)))))))) ∧
     (((iAnd (α (-1) x3) 63) = 28 →
     inR (x3 + 1) ∧ (0 ≤ (x3 + 1) ∧ (x3 + 1) < (Ln : Nat)) ∧ (eX10_chance d (α (-1) (x3 + 1)) φ α (fun r222 φ222 α222 =>
       (eX11_chance d (α (-1) (x3 + 1)) φ222 α222 (fun r223 φ223 α223 =>
       ((r222 = r223 →
       inR (x3 + 6) ∧ (jL Ln (d + 1) (x3 + 6) φ223 α223 Q)) ∧
       (¬ (r222 = r223) →
       (Q 0 φ223 α223)))))))) ∧
     (((iAnd (α (-1) x3) 63) = 29 →
     (eX10_undo d  φ α (fun r226 φ226 α226 =>
       (eX11_undo d  φ226 α226 (fun r227 φ227 α227 =>
       ((r226 = r227 →
       inR (x3 + 6) ∧ (jL Ln (d + 1) (x3 + 6) φ227 α227 Q)) ∧
       (¬ (r226 = r227) →
       (Q 0 φ227 α227)))))))) ∧
     (((iAnd (α (-1) x3) 63) = 30 →
     inR (x3 + 1) ∧ (0 ≤ (x3 + 1) ∧ (x3 + 1) < (Ln : Nat)) ∧ (eX10_seed d (α (-1) (x3 + 1)) φ α (fun r232 φ232 α232 =>
       (eX11_seed d (α (-1) (x3 + 1)) φ232 α232 (fun r233 φ233 α233 =>
       ((r232 = r233 →
       inR (x3 + 6) ∧ (jL Ln (d + 1) (x3 + 6) φ233 α233 Q)) ∧
       (¬ (r232 = r233) →
       (Q 0 φ233 α233)))))))) ∧
     (((iAnd (α (-1) x3) 63) = 31 →
     (eX10_ask d  φ α (fun r236 φ236 α236 =>
       (eX11_ask d  φ236 α236 (fun r237 φ237 α237 =>
       (((j3 r236 r237) = 0 →
       inR (x3 + 6) ∧ (jL Ln (d + 1) (x3 + 6) φ237 α237 Q)) ∧
       (¬ ((j3 r236 r237) = 0) →
       (Q 0 φ237 α237)))))))) ∧
     (((iAnd (α (-1) x3) 63) = 32 →
     (eX10_image d  φ α (fun r240 φ240 α240 =>
       (eX11_image d  φ240 α240 (fun r241 φ241 α241 =>
       ((r240 = r241 →
       inR (x3 + 6) ∧ (jL Ln (d + 1) (x3 + 6) φ241 α241 Q)) ∧
       (¬ (r240 = r241) →
       (Q 0 φ241 α241)))))))) ∧
     (((iAnd (α (-1) x3) 63) = 33 →
     inR (x3 + 1) ∧ (0 ≤ (x3 + 1) ∧ (x3 + 1) < (Ln : Nat)) ∧ (eX10_octet d (α (-1) (x3 + 1)) φ α (fun r246 φ246 α246 =>
       (eX11_octet d (α (-1) (x3 + 1)) φ246 α246 (fun r247 φ247 α247 =>
       ((r246 = r247 →
       inR (x3 + 6) ∧ (jL Ln (d + 1) (x3 + 6) φ247 α247 Q)) ∧
       (¬ (r246 = r247) →
       (Q 0 φ247 α247)))))))) ∧
     (((iAnd (α (-1) x3) 63) = 34 →
     (eX10_on d  φ α (fun r250 φ250 α250 =>
       (eX11_on d  φ250 α250 (fun r251 φ251 α251 =>
       ((r250 = r251 →
       inR (x3 + 6) ∧ (jL Ln (d + 1) (x3 + 6) φ251 α251 Q)) ∧
       (¬ (r250 = r251) →
       (Q 0 φ251 α251)))))))) ∧
     (((iAnd (α (-1) x3) 63) = 35 →
     inR (x3 + 1) ∧ (0 ≤ (x3 + 1) ∧ (x3 + 1) < (Ln : Nat)) ∧ (eX10_status d (α (-1) (x3 + 1)) φ α (fun r256 φ256 α256 =>
       (eX11_status d (α (-1) (x3 + 1)) φ256 α256 (fun r257 φ257 α257 =>
       ((r256 = r257 →
       inR (x3 + 6) ∧ (jL Ln (d + 1) (x3 + 6) φ257 α257 Q)) ∧
       (¬ (r256 = r257) →
       (Q 0 φ257 α257)))))))) ∧
     ((¬ (iAnd (α (-1) x3) 63) = 0 ∧ ¬ (iAnd (α (-1) x3) 63) = 1 ∧ ¬ (iAnd (α (-1) x3) 63) = 2 ∧ ¬ (iAnd (α (-1) x3) 63) = 3 ∧ ¬ (iAnd (α (-1) x3) 63) = 4 ∧ ¬ (iAnd (α (-1) x3) 63) = 5 ∧ ¬ (iAnd (α (-1) x3) 63) = 6 ∧ ¬ (iAnd (α (-1) x3) 63) = 7 ∧ ¬ (iAnd (α (-1) x3) 63) = 8 ∧ ¬ (iAnd (α (-1) x3) 63) = 9 ∧ ¬ (iAnd (α (-1) x3) 63) = 10 ∧ ¬ (iAnd (α (-1) x3) 63) = 11 ∧ ¬ (iAnd (α (-1) x3) 63) = 12 ∧ ¬ (iAnd (α (-1) x3) 63) = 13 ∧ ¬ (iAnd (α (-1) x3) 63) = 14 ∧ ¬ (iAnd (α (-1) x3) 63) = 15 ∧ ¬ (iAnd (α (-1) x3) 63) = 16 ∧ ¬ (iAnd (α (-1) x3) 63) = 17 ∧ ¬ (iAnd (α (-1) x3) 63) = 18 ∧ ¬ (iAnd (α (-1) x3) 63) = 19 ∧ ¬ (iAnd (α (-1) x3) 63) = 20 ∧ ¬ (iAnd (α (-1) x3) 63) = 21 ∧ ¬ (iAnd (α (-1) x3) 63) = 22 ∧ ¬ (iAnd (α (-1) x3) 63) = 23 ∧ ¬ (iAnd (α (-1) x3) 63) = 24 ∧ ¬ (iAnd (α (-1) x3) 63) = 25 ∧ ¬ (iAnd (α (-1) x3) 63) = 26 ∧ ¬ (iAnd (α (-1) x3) 63) = 27 ∧ ¬ (iAnd (α (-1) x3) 63) = 28 ∧ ¬ (iAnd (α (-1) x3) 63) = 29 ∧ ¬ (iAnd (α (-1) x3) 63) = 30 ∧ ¬ (iAnd (α (-1) x3) 63) = 31 ∧ ¬ (iAnd (α (-1) x3) 63) = 32 ∧ ¬ (iAnd (α (-1) x3) 63) = 33 ∧ ¬ (iAnd (α (-1) x3) 63) = 34 ∧ ¬ (iAnd (α (-1) x3) 63) = 35) →
     inR (x3 + 6) ∧ (jL Ln (d + 1) (x3 + 6) φ α Q))))))))))))))))))))))))))))))))))))))))) : jL Ln (d + 1) x3 φ α Q := by
  refine r_iload_n (pc' := 19) (kL_law_0 10 rfl) rfl rfl ?_
  refine r_sload_n (pc' := 20) (kL_law_0 11 rfl) rfl rfl ?_
  refine s_slen (pc' := 21) (kL_law_0 12 rfl) rfl ?_
  refine r_bipush 6 (pc' := 23) (kL_law_0 13 rfl) rfl ⟨by unfold inR; omega, rfl⟩ ?_
  have g1 := h.1
  have h := h.2
  refine r_isub (pc' := 24) (kL_law_0 14 rfl) rfl g1 ?_
  refine r_icmp_gt (t := 1217) (pc' := 27) (kL_law_0 15 rfl) rfl rfl (fun c2 => ?_) (fun c2 => ?_)
  · have h := h.1 c2
    refine r_iconst 1 (pc' := 1218) (kL_law_13 47 rfl) rfl (by unfold inR; omega) ?_
    exact s_zret (kL_law_13 48 rfl) rfl (Or.inr rfl) h
  · have h := h.2 c2
    refine r_sload_n (pc' := 28) (kL_law_0 16 rfl) rfl rfl ?_
    refine r_iload_n (pc' := 29) (kL_law_0 17 rfl) rfl rfl ?_
    have g3 := h.1
    have h := h.2
    refine s_sldv (x := (α (-1) x3)) (pc' := 30) (kL_law_0 18 rfl) rfl g3 rfl ?_
    refine r_bipush 63 (pc' := 32) (kL_law_0 19 rfl) rfl ⟨by unfold inR; omega, rfl⟩ ?_
    refine r_iand (pc' := 33) (kL_law_0 20 rfl) rfl ?_
    have hD : (¬ (iAnd (α (-1) x3) 63) = 0 ∧ ¬ (iAnd (α (-1) x3) 63) = 1 ∧ ¬ (iAnd (α (-1) x3) 63) = 2 ∧ ¬ (iAnd (α (-1) x3) 63) = 3 ∧ ¬ (iAnd (α (-1) x3) 63) = 4 ∧ ¬ (iAnd (α (-1) x3) 63) = 5 ∧ ¬ (iAnd (α (-1) x3) 63) = 6 ∧ ¬ (iAnd (α (-1) x3) 63) = 7 ∧ ¬ (iAnd (α (-1) x3) 63) = 8 ∧ ¬ (iAnd (α (-1) x3) 63) = 9 ∧ ¬ (iAnd (α (-1) x3) 63) = 10 ∧ ¬ (iAnd (α (-1) x3) 63) = 11 ∧ ¬ (iAnd (α (-1) x3) 63) = 12 ∧ ¬ (iAnd (α (-1) x3) 63) = 13 ∧ ¬ (iAnd (α (-1) x3) 63) = 14 ∧ ¬ (iAnd (α (-1) x3) 63) = 15 ∧ ¬ (iAnd (α (-1) x3) 63) = 16 ∧ ¬ (iAnd (α (-1) x3) 63) = 17 ∧ ¬ (iAnd (α (-1) x3) 63) = 18 ∧ ¬ (iAnd (α (-1) x3) 63) = 19 ∧ ¬ (iAnd (α (-1) x3) 63) = 20 ∧ ¬ (iAnd (α (-1) x3) 63) = 21 ∧ ¬ (iAnd (α (-1) x3) 63) = 22 ∧ ¬ (iAnd (α (-1) x3) 63) = 23 ∧ ¬ (iAnd (α (-1) x3) 63) = 24 ∧ ¬ (iAnd (α (-1) x3) 63) = 25 ∧ ¬ (iAnd (α (-1) x3) 63) = 26 ∧ ¬ (iAnd (α (-1) x3) 63) = 27 ∧ ¬ (iAnd (α (-1) x3) 63) = 28 ∧ ¬ (iAnd (α (-1) x3) 63) = 29 ∧ ¬ (iAnd (α (-1) x3) 63) = 30 ∧ ¬ (iAnd (α (-1) x3) 63) = 31 ∧ ¬ (iAnd (α (-1) x3) 63) = 32 ∧ ¬ (iAnd (α (-1) x3) 63) = 33 ∧ ¬ (iAnd (α (-1) x3) 63) = 34 ∧ ¬ (iAnd (α (-1) x3) 63) = 35) → Rn (d + 1) mL_law 1211 [(4, 0), (2, 0), (2, 198), (0, x3)] [] (K0 Ln) (mix φ) (mixA α) (0, 0) (Q0 mL_law Ln Q) := by
      intro c0
      have h := h.2.2.2.2.2.2.2.2.2.2.2.2.2.2.2.2.2.2.2.2.2.2.2.2.2.2.2.2.2.2.2.2.2.2.2.2 c0
      have g5 := h.1
      have h := h.2
      refine r_iinc (L' := [(4, 0), (2, 0), (2, 198), (0, (x3 + 6))]) (pc' := 1214) (kL_law_13 45 rfl) rfl (Nat.le_of_ble_eq_true rfl) rfl g5 rfl ?_
      refine r_goto (pc' := 18) (kL_law_13 46 rfl) rfl ?_
      exact r_weak (L' := [(4, 0), (2, 0), (2, 198), (0, (x3 + 6))]) ⟨Or.inl rfl, Or.inl rfl, Or.inl rfl, Or.inl rfl, trivial⟩ h
    by_cases c4_0 : (iAnd (α (-1) x3) 63) = 0
    · have h := h.1 c4_0
      refine r_tabIn (pc' := 192) 0 c4_0 (kL_law_0 21 rfl) (by decide) (by decide) rfl rfl ?_
      refine r_aload_n (pc' := 193) (kL_law_0 22 rfl) rfl rfl ?_
      refine r_sload_n (pc' := 194) (kL_law_0 23 rfl) rfl rfl ?_
      refine r_iload_n (pc' := 195) (kL_law_0 24 rfl) rfl rfl ?_
      refine r_iconst 1 (pc' := 196) (kL_law_0 25 rfl) rfl (by unfold inR; omega) ?_
      have g6 := h.1
      have h := h.2
      refine r_iadd (pc' := 197) (kL_law_0 26 rfl) rfl g6 ?_
      have g7 := h.1
      have h := h.2
      refine s_sldv (x := (α (-1) (x3 + 1))) (pc' := 198) (kL_law_0 27 rfl) rfl g7 rfl ?_
      refine r_sload_n (pc' := 199) (kL_law_0 28 rfl) rfl rfl ?_
      refine r_iload_n (pc' := 200) (kL_law_0 29 rfl) rfl rfl ?_
      refine r_iconst 2 (pc' := 201) (kL_law_0 30 rfl) rfl (by unfold inR; omega) ?_
      have g8 := h.1
      have h := h.2
      refine r_iadd (pc' := 202) (kL_law_0 31 rfl) rfl g8 ?_
      have g9 := h.1
      have h := h.2
      refine s_sldv (x := (α (-1) (x3 + 2))) (pc' := 203) (kL_law_0 32 rfl) rfl g9 rfl ?_
      refine r_sload_n (pc' := 204) (kL_law_0 33 rfl) rfl rfl ?_
      refine r_iload_n (pc' := 205) (kL_law_0 34 rfl) rfl rfl ?_
      refine r_iconst 3 (pc' := 206) (kL_law_0 35 rfl) rfl (by unfold inR; omega) ?_
      have g10 := h.1
      have h := h.2
      refine r_iadd (pc' := 207) (kL_law_0 36 rfl) rfl g10 ?_
      have g11 := h.1
      have h := h.2
      refine s_sldv (x := (α (-1) (x3 + 3))) (pc' := 208) (kL_law_0 37 rfl) rfl g11 rfl ?_
      refine r_sload_n (pc' := 209) (kL_law_0 38 rfl) rfl rfl ?_
      refine r_iload_n (pc' := 210) (kL_law_0 39 rfl) rfl rfl ?_
      refine r_iconst 4 (pc' := 211) (kL_law_0 40 rfl) rfl (by unfold inR; omega) ?_
      have g12 := h.1
      have h := h.2
      refine r_iadd (pc' := 212) (kL_law_0 41 rfl) rfl g12 ?_
      have g13 := h.1
      have h := h.2
      refine s_sldv (x := (α (-1) (x3 + 4))) (pc' := 213) (kL_law_0 42 rfl) rfl g13 rfl ?_
      refine r_sload_n (pc' := 214) (kL_law_0 43 rfl) rfl rfl ?_
      refine r_iload_n (pc' := 215) (kL_law_0 44 rfl) rfl rfl ?_
      refine r_iconst 5 (pc' := 216) (kL_law_0 45 rfl) rfl (by unfold inR; omega) ?_
      have g14 := h.1
      have h := h.2
      refine r_iadd (pc' := 217) (kL_law_0 46 rfl) rfl g14 ?_
      have g15 := h.1
      have h := h.2
      refine s_sldv (x := (α (-1) (x3 + 5))) (pc' := 218) (kL_law_0 47 rfl) rfl g15 rfl ?_
      refine s_callVs (As := [(0, (α (-1) (x3 + 1))), (0, (α (-1) (x3 + 2))), (0, (α (-1) (x3 + 3))), (0, (α (-1) (x3 + 4))), (0, (α (-1) (x3 + 5)))]) (o := 0) (S := []) (S2 := fun z => [(0, z)]) (pc' := 221) (kL_law_0 48 rfl) rfl rfl nkX10_feed mlL_13 imX10_feed rfl slX10_feed rfl (Nat.le_of_ble_eq_true rfl) (Nat.le_of_ble_eq_true rfl) (kz0 Ln) h (fun z => rfl) (fun r16 φ16 α16 h hs16 => ?_)
      refine r_aload_n (pc' := 222) (kL_law_0 49 rfl) rfl rfl ?_
      refine r_sload_n (pc' := 223) (kL_law_0 50 rfl) rfl rfl ?_
      refine r_iload_n (pc' := 224) (kL_law_0 51 rfl) rfl rfl ?_
      refine r_iconst 1 (pc' := 225) (kL_law_0 52 rfl) rfl (by unfold inR; omega) ?_
      refine r_iadd (pc' := 226) (kL_law_0 53 rfl) rfl g6 ?_
      refine s_sldv (x := (α (-1) (x3 + 1))) (pc' := 227) (kL_law_0 54 rfl) rfl g7 (hs16 _ g7.1 g7.2) ?_
      refine r_sload_n (pc' := 228) (kL_law_0 55 rfl) rfl rfl ?_
      refine r_iload_n (pc' := 229) (kL_law_0 56 rfl) rfl rfl ?_
      refine r_iconst 2 (pc' := 230) (kL_law_0 57 rfl) rfl (by unfold inR; omega) ?_
      refine r_iadd (pc' := 231) (kL_law_0 58 rfl) rfl g8 ?_
      refine s_sldv (x := (α (-1) (x3 + 2))) (pc' := 232) (kL_law_0 59 rfl) rfl g9 (hs16 _ g9.1 g9.2) ?_
      refine r_sload_n (pc' := 233) (kL_law_1 0 rfl) rfl rfl ?_
      refine r_iload_n (pc' := 234) (kL_law_1 1 rfl) rfl rfl ?_
      refine r_iconst 3 (pc' := 235) (kL_law_1 2 rfl) rfl (by unfold inR; omega) ?_
      refine r_iadd (pc' := 236) (kL_law_1 3 rfl) rfl g10 ?_
      refine s_sldv (x := (α (-1) (x3 + 3))) (pc' := 237) (kL_law_1 4 rfl) rfl g11 (hs16 _ g11.1 g11.2) ?_
      refine r_sload_n (pc' := 238) (kL_law_1 5 rfl) rfl rfl ?_
      refine r_iload_n (pc' := 239) (kL_law_1 6 rfl) rfl rfl ?_
      refine r_iconst 4 (pc' := 240) (kL_law_1 7 rfl) rfl (by unfold inR; omega) ?_
      refine r_iadd (pc' := 241) (kL_law_1 8 rfl) rfl g12 ?_
      refine s_sldv (x := (α (-1) (x3 + 4))) (pc' := 242) (kL_law_1 9 rfl) rfl g13 (hs16 _ g13.1 g13.2) ?_
      refine r_sload_n (pc' := 243) (kL_law_1 10 rfl) rfl rfl ?_
      refine r_iload_n (pc' := 244) (kL_law_1 11 rfl) rfl rfl ?_
      refine r_iconst 5 (pc' := 245) (kL_law_1 12 rfl) rfl (by unfold inR; omega) ?_
      refine r_iadd (pc' := 246) (kL_law_1 13 rfl) rfl g14 ?_
      refine s_sldv (x := (α (-1) (x3 + 5))) (pc' := 247) (kL_law_1 14 rfl) rfl g15 (hs16 _ g15.1 g15.2) ?_
      refine s_callVs (As := [(0, (α (-1) (x3 + 1))), (0, (α (-1) (x3 + 2))), (0, (α (-1) (x3 + 3))), (0, (α (-1) (x3 + 4))), (0, (α (-1) (x3 + 5)))]) (o := 198) (S := [(0, r16)]) (S2 := fun z => [(0, z), (0, r16)]) (pc' := 250) (kL_law_1 15 rfl) rfl rfl nkX11_feed mlL_17 imX11_feed rfl slX11_feed rfl (Nat.le_of_ble_eq_true rfl) (Nat.le_of_ble_eq_true rfl) (kz198 Ln) h (fun z => rfl) (fun r17 φ17 α17 h hs17 => ?_)
      refine r_icmp_eq (t := 1211) (pc' := 253) (kL_law_1 16 rfl) rfl rfl (fun c18 => ?_) (fun c18 => ?_)
      · have h := h.1 c18
        have g19 := h.1
        have h := h.2
        refine r_iinc (L' := [(4, 0), (2, 0), (2, 198), (0, (x3 + 6))]) (pc' := 1214) (kL_law_13 45 rfl) rfl (Nat.le_of_ble_eq_true rfl) rfl g19 rfl ?_
        refine r_goto (pc' := 18) (kL_law_13 46 rfl) rfl ?_
        exact r_weak (L' := [(4, 0), (2, 0), (2, 198), (0, (x3 + 6))]) ⟨Or.inl rfl, Or.inl rfl, Or.inl rfl, Or.inl rfl, trivial⟩ h
      · have h := h.2 c18
        refine r_iconst 0 (pc' := 254) (kL_law_1 17 rfl) rfl (by unfold inR; omega) ?_
        exact s_zret (kL_law_1 18 rfl) rfl (Or.inl rfl) h
    by_cases c4_1 : (iAnd (α (-1) x3) 63) = 1
    · have h := h.2.1 c4_1
      refine r_tabIn (pc' := 255) 1 c4_1 (kL_law_0 21 rfl) (by decide) (by decide) rfl rfl ?_
      refine r_aload_n (pc' := 256) (kL_law_1 19 rfl) rfl rfl ?_
      refine r_sload_n (pc' := 257) (kL_law_1 20 rfl) rfl rfl ?_
      refine r_iload_n (pc' := 258) (kL_law_1 21 rfl) rfl rfl ?_
      refine r_iconst 1 (pc' := 259) (kL_law_1 22 rfl) rfl (by unfold inR; omega) ?_
      have g20 := h.1
      have h := h.2
      refine r_iadd (pc' := 260) (kL_law_1 23 rfl) rfl g20 ?_
      have g21 := h.1
      have h := h.2
      refine s_sldv (x := (α (-1) (x3 + 1))) (pc' := 261) (kL_law_1 24 rfl) rfl g21 rfl ?_
      refine s_callVs (As := [(0, (α (-1) (x3 + 1)))]) (o := 0) (S := []) (S2 := fun z => [(0, z)]) (pc' := 264) (kL_law_1 25 rfl) rfl rfl nkX10_end mlL_18 imX10_end rfl slX10_end rfl (Nat.le_of_ble_eq_true rfl) (Nat.le_of_ble_eq_true rfl) (kz0 Ln) h (fun z => rfl) (fun r22 φ22 α22 h hs22 => ?_)
      refine r_aload_n (pc' := 265) (kL_law_1 26 rfl) rfl rfl ?_
      refine r_sload_n (pc' := 266) (kL_law_1 27 rfl) rfl rfl ?_
      refine r_iload_n (pc' := 267) (kL_law_1 28 rfl) rfl rfl ?_
      refine r_iconst 1 (pc' := 268) (kL_law_1 29 rfl) rfl (by unfold inR; omega) ?_
      refine r_iadd (pc' := 269) (kL_law_1 30 rfl) rfl g20 ?_
      refine s_sldv (x := (α (-1) (x3 + 1))) (pc' := 270) (kL_law_1 31 rfl) rfl g21 (hs22 _ g21.1 g21.2) ?_
      refine s_callVs (As := [(0, (α (-1) (x3 + 1)))]) (o := 198) (S := [(0, r22)]) (S2 := fun z => [(0, z), (0, r22)]) (pc' := 273) (kL_law_1 32 rfl) rfl rfl nkX11_end mlL_22 imX11_end rfl slX11_end rfl (Nat.le_of_ble_eq_true rfl) (Nat.le_of_ble_eq_true rfl) (kz198 Ln) h (fun z => rfl) (fun r23 φ23 α23 h hs23 => ?_)
      refine r_icmp_eq (t := 1211) (pc' := 276) (kL_law_1 33 rfl) rfl rfl (fun c24 => ?_) (fun c24 => ?_)
      · have h := h.1 c24
        have g25 := h.1
        have h := h.2
        refine r_iinc (L' := [(4, 0), (2, 0), (2, 198), (0, (x3 + 6))]) (pc' := 1214) (kL_law_13 45 rfl) rfl (Nat.le_of_ble_eq_true rfl) rfl g25 rfl ?_
        refine r_goto (pc' := 18) (kL_law_13 46 rfl) rfl ?_
        exact r_weak (L' := [(4, 0), (2, 0), (2, 198), (0, (x3 + 6))]) ⟨Or.inl rfl, Or.inl rfl, Or.inl rfl, Or.inl rfl, trivial⟩ h
      · have h := h.2 c24
        refine r_iconst 0 (pc' := 277) (kL_law_1 34 rfl) rfl (by unfold inR; omega) ?_
        exact s_zret (kL_law_1 35 rfl) rfl (Or.inl rfl) h
    by_cases c4_2 : (iAnd (α (-1) x3) 63) = 2
    · have h := h.2.2.1 c4_2
      refine r_tabIn (pc' := 278) 2 c4_2 (kL_law_0 21 rfl) (by decide) (by decide) rfl rfl ?_
      refine r_aload_n (pc' := 279) (kL_law_1 36 rfl) rfl rfl ?_
      refine s_callVs (As := []) (o := 0) (S := []) (S2 := fun z => [(0, z)]) (pc' := 282) (kL_law_1 37 rfl) rfl rfl nkX10_registry mlL_23 imX10_registry rfl slX10_registry rfl (Nat.le_of_ble_eq_true rfl) (Nat.le_of_ble_eq_true rfl) (kz0 Ln) h (fun z => rfl) (fun r26 φ26 α26 h hs26 => ?_)
      refine r_aload_n (pc' := 283) (kL_law_1 38 rfl) rfl rfl ?_
      refine s_callVs (As := []) (o := 198) (S := [(0, r26)]) (S2 := fun z => [(0, z), (0, r26)]) (pc' := 286) (kL_law_1 39 rfl) rfl rfl nkX11_registry mlL_27 imX11_registry rfl slX11_registry rfl (Nat.le_of_ble_eq_true rfl) (Nat.le_of_ble_eq_true rfl) (kz198 Ln) h (fun z => rfl) (fun r27 φ27 α27 h hs27 => ?_)
      refine r_icmp_eq (t := 1211) (pc' := 289) (kL_law_1 40 rfl) rfl rfl (fun c28 => ?_) (fun c28 => ?_)
      · have h := h.1 c28
        have g29 := h.1
        have h := h.2
        refine r_iinc (L' := [(4, 0), (2, 0), (2, 198), (0, (x3 + 6))]) (pc' := 1214) (kL_law_13 45 rfl) rfl (Nat.le_of_ble_eq_true rfl) rfl g29 rfl ?_
        refine r_goto (pc' := 18) (kL_law_13 46 rfl) rfl ?_
        exact r_weak (L' := [(4, 0), (2, 0), (2, 198), (0, (x3 + 6))]) ⟨Or.inl rfl, Or.inl rfl, Or.inl rfl, Or.inl rfl, trivial⟩ h
      · have h := h.2 c28
        refine r_iconst 0 (pc' := 290) (kL_law_1 41 rfl) rfl (by unfold inR; omega) ?_
        exact s_zret (kL_law_1 42 rfl) rfl (Or.inl rfl) h
    by_cases c4_3 : (iAnd (α (-1) x3) 63) = 3
    · have h := h.2.2.2.1 c4_3
      refine r_tabIn (pc' := 291) 3 c4_3 (kL_law_0 21 rfl) (by decide) (by decide) rfl rfl ?_
      refine r_aload_n (pc' := 292) (kL_law_1 43 rfl) rfl rfl ?_
      refine r_sload_n (pc' := 293) (kL_law_1 44 rfl) rfl rfl ?_
      refine r_iload_n (pc' := 294) (kL_law_1 45 rfl) rfl rfl ?_
      refine r_iconst 1 (pc' := 295) (kL_law_1 46 rfl) rfl (by unfold inR; omega) ?_
      have g30 := h.1
      have h := h.2
      refine r_iadd (pc' := 296) (kL_law_1 47 rfl) rfl g30 ?_
      have g31 := h.1
      have h := h.2
      refine s_sldv (x := (α (-1) (x3 + 1))) (pc' := 297) (kL_law_1 48 rfl) rfl g31 rfl ?_
      refine s_callVs (As := [(0, (α (-1) (x3 + 1)))]) (o := 0) (S := []) (S2 := fun z => [(0, z)]) (pc' := 300) (kL_law_1 49 rfl) rfl rfl nkX10_fault mlL_28 imX10_fault rfl slX10_fault rfl (Nat.le_of_ble_eq_true rfl) (Nat.le_of_ble_eq_true rfl) (kz0 Ln) h (fun z => rfl) (fun r32 φ32 α32 h hs32 => ?_)
      refine r_aload_n (pc' := 301) (kL_law_1 50 rfl) rfl rfl ?_
      refine r_sload_n (pc' := 302) (kL_law_1 51 rfl) rfl rfl ?_
      refine r_iload_n (pc' := 303) (kL_law_1 52 rfl) rfl rfl ?_
      refine r_iconst 1 (pc' := 304) (kL_law_1 53 rfl) rfl (by unfold inR; omega) ?_
      refine r_iadd (pc' := 305) (kL_law_1 54 rfl) rfl g30 ?_
      refine s_sldv (x := (α (-1) (x3 + 1))) (pc' := 306) (kL_law_1 55 rfl) rfl g31 (hs32 _ g31.1 g31.2) ?_
      refine s_callVs (As := [(0, (α (-1) (x3 + 1)))]) (o := 198) (S := [(0, r32)]) (S2 := fun z => [(0, z), (0, r32)]) (pc' := 309) (kL_law_1 56 rfl) rfl rfl nkX11_fault mlL_32 imX11_fault rfl slX11_fault rfl (Nat.le_of_ble_eq_true rfl) (Nat.le_of_ble_eq_true rfl) (kz198 Ln) h (fun z => rfl) (fun r33 φ33 α33 h hs33 => ?_)
      refine r_icmp_eq (t := 1211) (pc' := 312) (kL_law_1 57 rfl) rfl rfl (fun c34 => ?_) (fun c34 => ?_)
      · have h := h.1 c34
        have g35 := h.1
        have h := h.2
        refine r_iinc (L' := [(4, 0), (2, 0), (2, 198), (0, (x3 + 6))]) (pc' := 1214) (kL_law_13 45 rfl) rfl (Nat.le_of_ble_eq_true rfl) rfl g35 rfl ?_
        refine r_goto (pc' := 18) (kL_law_13 46 rfl) rfl ?_
        exact r_weak (L' := [(4, 0), (2, 0), (2, 198), (0, (x3 + 6))]) ⟨Or.inl rfl, Or.inl rfl, Or.inl rfl, Or.inl rfl, trivial⟩ h
      · have h := h.2 c34
        refine r_iconst 0 (pc' := 313) (kL_law_1 58 rfl) rfl (by unfold inR; omega) ?_
        exact s_zret (kL_law_1 59 rfl) rfl (Or.inl rfl) h
    by_cases c4_4 : (iAnd (α (-1) x3) 63) = 4
    · have h := h.2.2.2.2.1 c4_4
      refine r_tabIn (pc' := 314) 4 c4_4 (kL_law_0 21 rfl) (by decide) (by decide) rfl rfl ?_
      refine r_aload_n (pc' := 315) (kL_law_2 0 rfl) rfl rfl ?_
      refine r_sload_n (pc' := 316) (kL_law_2 1 rfl) rfl rfl ?_
      refine r_iload_n (pc' := 317) (kL_law_2 2 rfl) rfl rfl ?_
      refine r_iconst 1 (pc' := 318) (kL_law_2 3 rfl) rfl (by unfold inR; omega) ?_
      have g36 := h.1
      have h := h.2
      refine r_iadd (pc' := 319) (kL_law_2 4 rfl) rfl g36 ?_
      have g37 := h.1
      have h := h.2
      refine s_sldv (x := (α (-1) (x3 + 1))) (pc' := 320) (kL_law_2 5 rfl) rfl g37 rfl ?_
      refine s_callVs (As := [(0, (α (-1) (x3 + 1)))]) (o := 0) (S := []) (S2 := fun z => [(0, z)]) (pc' := 323) (kL_law_2 6 rfl) rfl rfl nkX10_has mlL_33 imX10_has rfl slX10_has rfl (Nat.le_of_ble_eq_true rfl) (Nat.le_of_ble_eq_true rfl) (kz0 Ln) h (fun z => rfl) (fun r38 φ38 α38 h hs38 => ?_)
      refine r_aload_n (pc' := 324) (kL_law_2 7 rfl) rfl rfl ?_
      refine r_sload_n (pc' := 325) (kL_law_2 8 rfl) rfl rfl ?_
      refine r_iload_n (pc' := 326) (kL_law_2 9 rfl) rfl rfl ?_
      refine r_iconst 1 (pc' := 327) (kL_law_2 10 rfl) rfl (by unfold inR; omega) ?_
      refine r_iadd (pc' := 328) (kL_law_2 11 rfl) rfl g36 ?_
      refine s_sldv (x := (α (-1) (x3 + 1))) (pc' := 329) (kL_law_2 12 rfl) rfl g37 (hs38 _ g37.1 g37.2) ?_
      refine s_callVs (As := [(0, (α (-1) (x3 + 1)))]) (o := 198) (S := [(0, r38)]) (S2 := fun z => [(0, z), (0, r38)]) (pc' := 332) (kL_law_2 13 rfl) rfl rfl nkX11_has mlL_36 imX11_has rfl slX11_has rfl (Nat.le_of_ble_eq_true rfl) (Nat.le_of_ble_eq_true rfl) (kz198 Ln) h (fun z => rfl) (fun r39 φ39 α39 h hs39 => ?_)
      refine r_icmp_eq (t := 1211) (pc' := 335) (kL_law_2 14 rfl) rfl rfl (fun c40 => ?_) (fun c40 => ?_)
      · have h := h.1 c40
        have g41 := h.1
        have h := h.2
        refine r_iinc (L' := [(4, 0), (2, 0), (2, 198), (0, (x3 + 6))]) (pc' := 1214) (kL_law_13 45 rfl) rfl (Nat.le_of_ble_eq_true rfl) rfl g41 rfl ?_
        refine r_goto (pc' := 18) (kL_law_13 46 rfl) rfl ?_
        exact r_weak (L' := [(4, 0), (2, 0), (2, 198), (0, (x3 + 6))]) ⟨Or.inl rfl, Or.inl rfl, Or.inl rfl, Or.inl rfl, trivial⟩ h
      · have h := h.2 c40
        refine r_iconst 0 (pc' := 336) (kL_law_2 15 rfl) rfl (by unfold inR; omega) ?_
        exact s_zret (kL_law_2 16 rfl) rfl (Or.inl rfl) h
    by_cases c4_5 : (iAnd (α (-1) x3) 63) = 5
    · have h := h.2.2.2.2.2.1 c4_5
      refine r_tabIn (pc' := 337) 5 c4_5 (kL_law_0 21 rfl) (by decide) (by decide) rfl rfl ?_
      refine r_aload_n (pc' := 338) (kL_law_2 17 rfl) rfl rfl ?_
      refine r_sload_n (pc' := 339) (kL_law_2 18 rfl) rfl rfl ?_
      refine r_iload_n (pc' := 340) (kL_law_2 19 rfl) rfl rfl ?_
      refine r_iconst 1 (pc' := 341) (kL_law_2 20 rfl) rfl (by unfold inR; omega) ?_
      have g42 := h.1
      have h := h.2
      refine r_iadd (pc' := 342) (kL_law_2 21 rfl) rfl g42 ?_
      have g43 := h.1
      have h := h.2
      refine s_sldv (x := (α (-1) (x3 + 1))) (pc' := 343) (kL_law_2 22 rfl) rfl g43 rfl ?_
      refine r_sload_n (pc' := 344) (kL_law_2 23 rfl) rfl rfl ?_
      refine r_iload_n (pc' := 345) (kL_law_2 24 rfl) rfl rfl ?_
      refine r_iconst 2 (pc' := 346) (kL_law_2 25 rfl) rfl (by unfold inR; omega) ?_
      have g44 := h.1
      have h := h.2
      refine r_iadd (pc' := 347) (kL_law_2 26 rfl) rfl g44 ?_
      have g45 := h.1
      have h := h.2
      refine s_sldv (x := (α (-1) (x3 + 2))) (pc' := 348) (kL_law_2 27 rfl) rfl g45 rfl ?_
      refine r_sload_n (pc' := 349) (kL_law_2 28 rfl) rfl rfl ?_
      refine r_iload_n (pc' := 350) (kL_law_2 29 rfl) rfl rfl ?_
      refine r_iconst 3 (pc' := 351) (kL_law_2 30 rfl) rfl (by unfold inR; omega) ?_
      have g46 := h.1
      have h := h.2
      refine r_iadd (pc' := 352) (kL_law_2 31 rfl) rfl g46 ?_
      have g47 := h.1
      have h := h.2
      refine s_sldv (x := (α (-1) (x3 + 3))) (pc' := 353) (kL_law_2 32 rfl) rfl g47 rfl ?_
      refine s_callVs (As := [(0, (α (-1) (x3 + 1))), (0, (α (-1) (x3 + 2))), (0, (α (-1) (x3 + 3)))]) (o := 0) (S := []) (S2 := fun z => [(0, z)]) (pc' := 356) (kL_law_2 33 rfl) rfl rfl nkX10_letter mlL_37 imX10_letter rfl slX10_letter rfl (Nat.le_of_ble_eq_true rfl) (Nat.le_of_ble_eq_true rfl) (kz0 Ln) h (fun z => rfl) (fun r48 φ48 α48 h hs48 => ?_)
      refine r_aload_n (pc' := 357) (kL_law_2 34 rfl) rfl rfl ?_
      refine r_sload_n (pc' := 358) (kL_law_2 35 rfl) rfl rfl ?_
      refine r_iload_n (pc' := 359) (kL_law_2 36 rfl) rfl rfl ?_
      refine r_iconst 1 (pc' := 360) (kL_law_2 37 rfl) rfl (by unfold inR; omega) ?_
      refine r_iadd (pc' := 361) (kL_law_2 38 rfl) rfl g42 ?_
      refine s_sldv (x := (α (-1) (x3 + 1))) (pc' := 362) (kL_law_2 39 rfl) rfl g43 (hs48 _ g43.1 g43.2) ?_
      refine r_sload_n (pc' := 363) (kL_law_2 40 rfl) rfl rfl ?_
      refine r_iload_n (pc' := 364) (kL_law_2 41 rfl) rfl rfl ?_
      refine r_iconst 2 (pc' := 365) (kL_law_2 42 rfl) rfl (by unfold inR; omega) ?_
      refine r_iadd (pc' := 366) (kL_law_2 43 rfl) rfl g44 ?_
      refine s_sldv (x := (α (-1) (x3 + 2))) (pc' := 367) (kL_law_2 44 rfl) rfl g45 (hs48 _ g45.1 g45.2) ?_
      refine r_sload_n (pc' := 368) (kL_law_2 45 rfl) rfl rfl ?_
      refine r_iload_n (pc' := 369) (kL_law_2 46 rfl) rfl rfl ?_
      refine r_iconst 3 (pc' := 370) (kL_law_2 47 rfl) rfl (by unfold inR; omega) ?_
      refine r_iadd (pc' := 371) (kL_law_2 48 rfl) rfl g46 ?_
      refine s_sldv (x := (α (-1) (x3 + 3))) (pc' := 372) (kL_law_2 49 rfl) rfl g47 (hs48 _ g47.1 g47.2) ?_
      refine s_callVs (As := [(0, (α (-1) (x3 + 1))), (0, (α (-1) (x3 + 2))), (0, (α (-1) (x3 + 3)))]) (o := 198) (S := [(0, r48)]) (S2 := fun z => [(0, z), (0, r48)]) (pc' := 375) (kL_law_2 50 rfl) rfl rfl nkX11_letter mlL_41 imX11_letter rfl slX11_letter rfl (Nat.le_of_ble_eq_true rfl) (Nat.le_of_ble_eq_true rfl) (kz198 Ln) h (fun z => rfl) (fun r49 φ49 α49 h hs49 => ?_)
      refine r_icmp_eq (t := 1211) (pc' := 378) (kL_law_2 51 rfl) rfl rfl (fun c50 => ?_) (fun c50 => ?_)
      · have h := h.1 c50
        have g51 := h.1
        have h := h.2
        refine r_iinc (L' := [(4, 0), (2, 0), (2, 198), (0, (x3 + 6))]) (pc' := 1214) (kL_law_13 45 rfl) rfl (Nat.le_of_ble_eq_true rfl) rfl g51 rfl ?_
        refine r_goto (pc' := 18) (kL_law_13 46 rfl) rfl ?_
        exact r_weak (L' := [(4, 0), (2, 0), (2, 198), (0, (x3 + 6))]) ⟨Or.inl rfl, Or.inl rfl, Or.inl rfl, Or.inl rfl, trivial⟩ h
      · have h := h.2 c50
        refine r_iconst 0 (pc' := 379) (kL_law_2 52 rfl) rfl (by unfold inR; omega) ?_
        exact s_zret (kL_law_2 53 rfl) rfl (Or.inl rfl) h
    by_cases c4_6 : (iAnd (α (-1) x3) 63) = 6
    · have h := h.2.2.2.2.2.2.1 c4_6
      refine r_tabIn (pc' := 380) 6 c4_6 (kL_law_0 21 rfl) (by decide) (by decide) rfl rfl ?_
      refine r_aload_n (pc' := 381) (kL_law_2 54 rfl) rfl rfl ?_
      refine r_sload_n (pc' := 382) (kL_law_2 55 rfl) rfl rfl ?_
      refine r_iload_n (pc' := 383) (kL_law_2 56 rfl) rfl rfl ?_
      refine r_iconst 1 (pc' := 384) (kL_law_2 57 rfl) rfl (by unfold inR; omega) ?_
      have g52 := h.1
      have h := h.2
      refine r_iadd (pc' := 385) (kL_law_2 58 rfl) rfl g52 ?_
      have g53 := h.1
      have h := h.2
      refine s_sldv (x := (α (-1) (x3 + 1))) (pc' := 386) (kL_law_2 59 rfl) rfl g53 rfl ?_
      refine s_callVs (As := [(0, (α (-1) (x3 + 1)))]) (o := 0) (S := []) (S2 := fun z => [(0, z)]) (pc' := 389) (kL_law_3 0 rfl) rfl rfl nkX10_seat mlL_42 imX10_seat rfl slX10_seat rfl (Nat.le_of_ble_eq_true rfl) (Nat.le_of_ble_eq_true rfl) (kz0 Ln) h (fun z => rfl) (fun r54 φ54 α54 h hs54 => ?_)
      refine r_aload_n (pc' := 390) (kL_law_3 1 rfl) rfl rfl ?_
      refine r_sload_n (pc' := 391) (kL_law_3 2 rfl) rfl rfl ?_
      refine r_iload_n (pc' := 392) (kL_law_3 3 rfl) rfl rfl ?_
      refine r_iconst 1 (pc' := 393) (kL_law_3 4 rfl) rfl (by unfold inR; omega) ?_
      refine r_iadd (pc' := 394) (kL_law_3 5 rfl) rfl g52 ?_
      refine s_sldv (x := (α (-1) (x3 + 1))) (pc' := 395) (kL_law_3 6 rfl) rfl g53 (hs54 _ g53.1 g53.2) ?_
      refine s_callVs (As := [(0, (α (-1) (x3 + 1)))]) (o := 198) (S := [(0, r54)]) (S2 := fun z => [(0, z), (0, r54)]) (pc' := 398) (kL_law_3 7 rfl) rfl rfl nkX11_seat mlL_45 imX11_seat rfl slX11_seat rfl (Nat.le_of_ble_eq_true rfl) (Nat.le_of_ble_eq_true rfl) (kz198 Ln) h (fun z => rfl) (fun r55 φ55 α55 h hs55 => ?_)
      refine r_icmp_eq (t := 1211) (pc' := 401) (kL_law_3 8 rfl) rfl rfl (fun c56 => ?_) (fun c56 => ?_)
      · have h := h.1 c56
        have g57 := h.1
        have h := h.2
        refine r_iinc (L' := [(4, 0), (2, 0), (2, 198), (0, (x3 + 6))]) (pc' := 1214) (kL_law_13 45 rfl) rfl (Nat.le_of_ble_eq_true rfl) rfl g57 rfl ?_
        refine r_goto (pc' := 18) (kL_law_13 46 rfl) rfl ?_
        exact r_weak (L' := [(4, 0), (2, 0), (2, 198), (0, (x3 + 6))]) ⟨Or.inl rfl, Or.inl rfl, Or.inl rfl, Or.inl rfl, trivial⟩ h
      · have h := h.2 c56
        refine r_iconst 0 (pc' := 402) (kL_law_3 9 rfl) rfl (by unfold inR; omega) ?_
        exact s_zret (kL_law_3 10 rfl) rfl (Or.inl rfl) h
    by_cases c4_7 : (iAnd (α (-1) x3) 63) = 7
    · have h := h.2.2.2.2.2.2.2.1 c4_7
      refine r_tabIn (pc' := 403) 7 c4_7 (kL_law_0 21 rfl) (by decide) (by decide) rfl rfl ?_
      refine r_aload_n (pc' := 404) (kL_law_3 11 rfl) rfl rfl ?_
      refine r_sload_n (pc' := 405) (kL_law_3 12 rfl) rfl rfl ?_
      refine r_iload_n (pc' := 406) (kL_law_3 13 rfl) rfl rfl ?_
      refine r_iconst 1 (pc' := 407) (kL_law_3 14 rfl) rfl (by unfold inR; omega) ?_
      have g58 := h.1
      have h := h.2
      refine r_iadd (pc' := 408) (kL_law_3 15 rfl) rfl g58 ?_
      have g59 := h.1
      have h := h.2
      refine s_sldv (x := (α (-1) (x3 + 1))) (pc' := 409) (kL_law_3 16 rfl) rfl g59 rfl ?_
      refine r_sload_n (pc' := 410) (kL_law_3 17 rfl) rfl rfl ?_
      refine r_iload_n (pc' := 411) (kL_law_3 18 rfl) rfl rfl ?_
      refine r_iconst 2 (pc' := 412) (kL_law_3 19 rfl) rfl (by unfold inR; omega) ?_
      have g60 := h.1
      have h := h.2
      refine r_iadd (pc' := 413) (kL_law_3 20 rfl) rfl g60 ?_
      have g61 := h.1
      have h := h.2
      refine s_sldv (x := (α (-1) (x3 + 2))) (pc' := 414) (kL_law_3 21 rfl) rfl g61 rfl ?_
      refine s_callVs (As := [(0, (α (-1) (x3 + 1))), (0, (α (-1) (x3 + 2)))]) (o := 0) (S := []) (S2 := fun z => [(0, z)]) (pc' := 417) (kL_law_3 22 rfl) rfl rfl nkX10_clerk mlL_46 imX10_clerk rfl slX10_clerk rfl (Nat.le_of_ble_eq_true rfl) (Nat.le_of_ble_eq_true rfl) (kz0 Ln) h (fun z => rfl) (fun r62 φ62 α62 h hs62 => ?_)
      refine r_aload_n (pc' := 418) (kL_law_3 23 rfl) rfl rfl ?_
      refine r_sload_n (pc' := 419) (kL_law_3 24 rfl) rfl rfl ?_
      refine r_iload_n (pc' := 420) (kL_law_3 25 rfl) rfl rfl ?_
      refine r_iconst 1 (pc' := 421) (kL_law_3 26 rfl) rfl (by unfold inR; omega) ?_
      refine r_iadd (pc' := 422) (kL_law_3 27 rfl) rfl g58 ?_
      refine s_sldv (x := (α (-1) (x3 + 1))) (pc' := 423) (kL_law_3 28 rfl) rfl g59 (hs62 _ g59.1 g59.2) ?_
      refine r_sload_n (pc' := 424) (kL_law_3 29 rfl) rfl rfl ?_
      refine r_iload_n (pc' := 425) (kL_law_3 30 rfl) rfl rfl ?_
      refine r_iconst 2 (pc' := 426) (kL_law_3 31 rfl) rfl (by unfold inR; omega) ?_
      refine r_iadd (pc' := 427) (kL_law_3 32 rfl) rfl g60 ?_
      refine s_sldv (x := (α (-1) (x3 + 2))) (pc' := 428) (kL_law_3 33 rfl) rfl g61 (hs62 _ g61.1 g61.2) ?_
      refine s_callVs (As := [(0, (α (-1) (x3 + 1))), (0, (α (-1) (x3 + 2)))]) (o := 198) (S := [(0, r62)]) (S2 := fun z => [(0, z), (0, r62)]) (pc' := 431) (kL_law_3 34 rfl) rfl rfl nkX11_clerk mlL_50 imX11_clerk rfl slX11_clerk rfl (Nat.le_of_ble_eq_true rfl) (Nat.le_of_ble_eq_true rfl) (kz198 Ln) h (fun z => rfl) (fun r63 φ63 α63 h hs63 => ?_)
      refine r_icmp_eq (t := 1211) (pc' := 434) (kL_law_3 35 rfl) rfl rfl (fun c64 => ?_) (fun c64 => ?_)
      · have h := h.1 c64
        have g65 := h.1
        have h := h.2
        refine r_iinc (L' := [(4, 0), (2, 0), (2, 198), (0, (x3 + 6))]) (pc' := 1214) (kL_law_13 45 rfl) rfl (Nat.le_of_ble_eq_true rfl) rfl g65 rfl ?_
        refine r_goto (pc' := 18) (kL_law_13 46 rfl) rfl ?_
        exact r_weak (L' := [(4, 0), (2, 0), (2, 198), (0, (x3 + 6))]) ⟨Or.inl rfl, Or.inl rfl, Or.inl rfl, Or.inl rfl, trivial⟩ h
      · have h := h.2 c64
        refine r_iconst 0 (pc' := 435) (kL_law_3 36 rfl) rfl (by unfold inR; omega) ?_
        exact s_zret (kL_law_3 37 rfl) rfl (Or.inl rfl) h
    by_cases c4_8 : (iAnd (α (-1) x3) 63) = 8
    · have h := h.2.2.2.2.2.2.2.2.1 c4_8
      refine r_tabIn (pc' := 436) 8 c4_8 (kL_law_0 21 rfl) (by decide) (by decide) rfl rfl ?_
      refine r_aload_n (pc' := 437) (kL_law_3 38 rfl) rfl rfl ?_
      refine r_sload_n (pc' := 438) (kL_law_3 39 rfl) rfl rfl ?_
      refine r_iload_n (pc' := 439) (kL_law_3 40 rfl) rfl rfl ?_
      refine r_iconst 1 (pc' := 440) (kL_law_3 41 rfl) rfl (by unfold inR; omega) ?_
      have g66 := h.1
      have h := h.2
      refine r_iadd (pc' := 441) (kL_law_3 42 rfl) rfl g66 ?_
      have g67 := h.1
      have h := h.2
      refine s_sldv (x := (α (-1) (x3 + 1))) (pc' := 442) (kL_law_3 43 rfl) rfl g67 rfl ?_
      refine r_sload_n (pc' := 443) (kL_law_3 44 rfl) rfl rfl ?_
      refine r_iload_n (pc' := 444) (kL_law_3 45 rfl) rfl rfl ?_
      refine r_iconst 2 (pc' := 445) (kL_law_3 46 rfl) rfl (by unfold inR; omega) ?_
      have g68 := h.1
      have h := h.2
      refine r_iadd (pc' := 446) (kL_law_3 47 rfl) rfl g68 ?_
      have g69 := h.1
      have h := h.2
      refine s_sldv (x := (α (-1) (x3 + 2))) (pc' := 447) (kL_law_3 48 rfl) rfl g69 rfl ?_
      refine s_callVs (As := [(0, (α (-1) (x3 + 1))), (0, (α (-1) (x3 + 2)))]) (o := 0) (S := []) (S2 := fun z => [(0, z)]) (pc' := 450) (kL_law_3 49 rfl) rfl rfl nkX10_drops mlL_51 imX10_drops rfl slX10_drops rfl (Nat.le_of_ble_eq_true rfl) (Nat.le_of_ble_eq_true rfl) (kz0 Ln) h (fun z => rfl) (fun r70 φ70 α70 h hs70 => ?_)
      refine r_aload_n (pc' := 451) (kL_law_3 50 rfl) rfl rfl ?_
      refine r_sload_n (pc' := 452) (kL_law_3 51 rfl) rfl rfl ?_
      refine r_iload_n (pc' := 453) (kL_law_3 52 rfl) rfl rfl ?_
      refine r_iconst 1 (pc' := 454) (kL_law_3 53 rfl) rfl (by unfold inR; omega) ?_
      refine r_iadd (pc' := 455) (kL_law_3 54 rfl) rfl g66 ?_
      refine s_sldv (x := (α (-1) (x3 + 1))) (pc' := 456) (kL_law_3 55 rfl) rfl g67 (hs70 _ g67.1 g67.2) ?_
      refine r_sload_n (pc' := 457) (kL_law_3 56 rfl) rfl rfl ?_
      refine r_iload_n (pc' := 458) (kL_law_3 57 rfl) rfl rfl ?_
      refine r_iconst 2 (pc' := 459) (kL_law_3 58 rfl) rfl (by unfold inR; omega) ?_
      refine r_iadd (pc' := 460) (kL_law_3 59 rfl) rfl g68 ?_
      refine s_sldv (x := (α (-1) (x3 + 2))) (pc' := 461) (kL_law_4 0 rfl) rfl g69 (hs70 _ g69.1 g69.2) ?_
      refine s_callVs (As := [(0, (α (-1) (x3 + 1))), (0, (α (-1) (x3 + 2)))]) (o := 198) (S := [(0, r70)]) (S2 := fun z => [(0, z), (0, r70)]) (pc' := 464) (kL_law_4 1 rfl) rfl rfl nkX11_drops mlL_54 imX11_drops rfl slX11_drops rfl (Nat.le_of_ble_eq_true rfl) (Nat.le_of_ble_eq_true rfl) (kz198 Ln) h (fun z => rfl) (fun r71 φ71 α71 h hs71 => ?_)
      refine r_icmp_eq (t := 1211) (pc' := 467) (kL_law_4 2 rfl) rfl rfl (fun c72 => ?_) (fun c72 => ?_)
      · have h := h.1 c72
        have g73 := h.1
        have h := h.2
        refine r_iinc (L' := [(4, 0), (2, 0), (2, 198), (0, (x3 + 6))]) (pc' := 1214) (kL_law_13 45 rfl) rfl (Nat.le_of_ble_eq_true rfl) rfl g73 rfl ?_
        refine r_goto (pc' := 18) (kL_law_13 46 rfl) rfl ?_
        exact r_weak (L' := [(4, 0), (2, 0), (2, 198), (0, (x3 + 6))]) ⟨Or.inl rfl, Or.inl rfl, Or.inl rfl, Or.inl rfl, trivial⟩ h
      · have h := h.2 c72
        refine r_iconst 0 (pc' := 468) (kL_law_4 3 rfl) rfl (by unfold inR; omega) ?_
        exact s_zret (kL_law_4 4 rfl) rfl (Or.inl rfl) h
    by_cases c4_9 : (iAnd (α (-1) x3) 63) = 9
    · have h := h.2.2.2.2.2.2.2.2.2.1 c4_9
      refine r_tabIn (pc' := 469) 9 c4_9 (kL_law_0 21 rfl) (by decide) (by decide) rfl rfl ?_
      refine r_aload_n (pc' := 470) (kL_law_4 5 rfl) rfl rfl ?_
      refine r_sload_n (pc' := 471) (kL_law_4 6 rfl) rfl rfl ?_
      refine r_iload_n (pc' := 472) (kL_law_4 7 rfl) rfl rfl ?_
      refine r_iconst 1 (pc' := 473) (kL_law_4 8 rfl) rfl (by unfold inR; omega) ?_
      have g74 := h.1
      have h := h.2
      refine r_iadd (pc' := 474) (kL_law_4 9 rfl) rfl g74 ?_
      have g75 := h.1
      have h := h.2
      refine s_sldv (x := (α (-1) (x3 + 1))) (pc' := 475) (kL_law_4 10 rfl) rfl g75 rfl ?_
      refine r_sload_n (pc' := 476) (kL_law_4 11 rfl) rfl rfl ?_
      refine r_iload_n (pc' := 477) (kL_law_4 12 rfl) rfl rfl ?_
      refine r_iconst 2 (pc' := 478) (kL_law_4 13 rfl) rfl (by unfold inR; omega) ?_
      have g76 := h.1
      have h := h.2
      refine r_iadd (pc' := 479) (kL_law_4 14 rfl) rfl g76 ?_
      have g77 := h.1
      have h := h.2
      refine s_sldv (x := (α (-1) (x3 + 2))) (pc' := 480) (kL_law_4 15 rfl) rfl g77 rfl ?_
      refine s_callVs (As := [(0, (α (-1) (x3 + 1))), (0, (α (-1) (x3 + 2)))]) (o := 0) (S := []) (S2 := fun z => [(0, z)]) (pc' := 483) (kL_law_4 16 rfl) rfl rfl nkX10_matter mlL_55 imX10_matter rfl slX10_matter rfl (Nat.le_of_ble_eq_true rfl) (Nat.le_of_ble_eq_true rfl) (kz0 Ln) h (fun z => rfl) (fun r78 φ78 α78 h hs78 => ?_)
      refine r_aload_n (pc' := 484) (kL_law_4 17 rfl) rfl rfl ?_
      refine r_sload_n (pc' := 485) (kL_law_4 18 rfl) rfl rfl ?_
      refine r_iload_n (pc' := 486) (kL_law_4 19 rfl) rfl rfl ?_
      refine r_iconst 1 (pc' := 487) (kL_law_4 20 rfl) rfl (by unfold inR; omega) ?_
      refine r_iadd (pc' := 488) (kL_law_4 21 rfl) rfl g74 ?_
      refine s_sldv (x := (α (-1) (x3 + 1))) (pc' := 489) (kL_law_4 22 rfl) rfl g75 (hs78 _ g75.1 g75.2) ?_
      refine r_sload_n (pc' := 490) (kL_law_4 23 rfl) rfl rfl ?_
      refine r_iload_n (pc' := 491) (kL_law_4 24 rfl) rfl rfl ?_
      refine r_iconst 2 (pc' := 492) (kL_law_4 25 rfl) rfl (by unfold inR; omega) ?_
      refine r_iadd (pc' := 493) (kL_law_4 26 rfl) rfl g76 ?_
      refine s_sldv (x := (α (-1) (x3 + 2))) (pc' := 494) (kL_law_4 27 rfl) rfl g77 (hs78 _ g77.1 g77.2) ?_
      refine s_callVs (As := [(0, (α (-1) (x3 + 1))), (0, (α (-1) (x3 + 2)))]) (o := 198) (S := [(0, r78)]) (S2 := fun z => [(0, z), (0, r78)]) (pc' := 497) (kL_law_4 28 rfl) rfl rfl nkX11_matter mlL_58 imX11_matter rfl slX11_matter rfl (Nat.le_of_ble_eq_true rfl) (Nat.le_of_ble_eq_true rfl) (kz198 Ln) h (fun z => rfl) (fun r79 φ79 α79 h hs79 => ?_)
      refine r_icmp_eq (t := 1211) (pc' := 500) (kL_law_4 29 rfl) rfl rfl (fun c80 => ?_) (fun c80 => ?_)
      · have h := h.1 c80
        have g81 := h.1
        have h := h.2
        refine r_iinc (L' := [(4, 0), (2, 0), (2, 198), (0, (x3 + 6))]) (pc' := 1214) (kL_law_13 45 rfl) rfl (Nat.le_of_ble_eq_true rfl) rfl g81 rfl ?_
        refine r_goto (pc' := 18) (kL_law_13 46 rfl) rfl ?_
        exact r_weak (L' := [(4, 0), (2, 0), (2, 198), (0, (x3 + 6))]) ⟨Or.inl rfl, Or.inl rfl, Or.inl rfl, Or.inl rfl, trivial⟩ h
      · have h := h.2 c80
        refine r_iconst 0 (pc' := 501) (kL_law_4 30 rfl) rfl (by unfold inR; omega) ?_
        exact s_zret (kL_law_4 31 rfl) rfl (Or.inl rfl) h
    by_cases c4_10 : (iAnd (α (-1) x3) 63) = 10
    · have h := h.2.2.2.2.2.2.2.2.2.2.1 c4_10
      refine r_tabIn (pc' := 502) 10 c4_10 (kL_law_0 21 rfl) (by decide) (by decide) rfl rfl ?_
      refine r_aload_n (pc' := 503) (kL_law_4 32 rfl) rfl rfl ?_
      refine r_sload_n (pc' := 504) (kL_law_4 33 rfl) rfl rfl ?_
      refine r_iload_n (pc' := 505) (kL_law_4 34 rfl) rfl rfl ?_
      refine r_iconst 1 (pc' := 506) (kL_law_4 35 rfl) rfl (by unfold inR; omega) ?_
      have g82 := h.1
      have h := h.2
      refine r_iadd (pc' := 507) (kL_law_4 36 rfl) rfl g82 ?_
      have g83 := h.1
      have h := h.2
      refine s_sldv (x := (α (-1) (x3 + 1))) (pc' := 508) (kL_law_4 37 rfl) rfl g83 rfl ?_
      refine r_sload_n (pc' := 509) (kL_law_4 38 rfl) rfl rfl ?_
      refine r_iload_n (pc' := 510) (kL_law_4 39 rfl) rfl rfl ?_
      refine r_iconst 2 (pc' := 511) (kL_law_4 40 rfl) rfl (by unfold inR; omega) ?_
      have g84 := h.1
      have h := h.2
      refine r_iadd (pc' := 512) (kL_law_4 41 rfl) rfl g84 ?_
      have g85 := h.1
      have h := h.2
      refine s_sldv (x := (α (-1) (x3 + 2))) (pc' := 513) (kL_law_4 42 rfl) rfl g85 rfl ?_
      refine r_sload_n (pc' := 514) (kL_law_4 43 rfl) rfl rfl ?_
      refine r_iload_n (pc' := 515) (kL_law_4 44 rfl) rfl rfl ?_
      refine r_iconst 3 (pc' := 516) (kL_law_4 45 rfl) rfl (by unfold inR; omega) ?_
      have g86 := h.1
      have h := h.2
      refine r_iadd (pc' := 517) (kL_law_4 46 rfl) rfl g86 ?_
      have g87 := h.1
      have h := h.2
      refine s_sldv (x := (α (-1) (x3 + 3))) (pc' := 518) (kL_law_4 47 rfl) rfl g87 rfl ?_
      refine s_callVs (As := [(0, (α (-1) (x3 + 1))), (0, (α (-1) (x3 + 2))), (0, (α (-1) (x3 + 3)))]) (o := 0) (S := []) (S2 := fun z => [(0, z)]) (pc' := 521) (kL_law_4 48 rfl) rfl rfl nkX10_leak mlL_59 imX10_leak rfl slX10_leak rfl (Nat.le_of_ble_eq_true rfl) (Nat.le_of_ble_eq_true rfl) (kz0 Ln) h (fun z => rfl) (fun r88 φ88 α88 h hs88 => ?_)
      refine r_aload_n (pc' := 522) (kL_law_4 49 rfl) rfl rfl ?_
      refine r_sload_n (pc' := 523) (kL_law_4 50 rfl) rfl rfl ?_
      refine r_iload_n (pc' := 524) (kL_law_4 51 rfl) rfl rfl ?_
      refine r_iconst 1 (pc' := 525) (kL_law_4 52 rfl) rfl (by unfold inR; omega) ?_
      refine r_iadd (pc' := 526) (kL_law_4 53 rfl) rfl g82 ?_
      refine s_sldv (x := (α (-1) (x3 + 1))) (pc' := 527) (kL_law_4 54 rfl) rfl g83 (hs88 _ g83.1 g83.2) ?_
      refine r_sload_n (pc' := 528) (kL_law_4 55 rfl) rfl rfl ?_
      refine r_iload_n (pc' := 529) (kL_law_4 56 rfl) rfl rfl ?_
      refine r_iconst 2 (pc' := 530) (kL_law_4 57 rfl) rfl (by unfold inR; omega) ?_
      refine r_iadd (pc' := 531) (kL_law_4 58 rfl) rfl g84 ?_
      refine s_sldv (x := (α (-1) (x3 + 2))) (pc' := 532) (kL_law_4 59 rfl) rfl g85 (hs88 _ g85.1 g85.2) ?_
      refine r_sload_n (pc' := 533) (kL_law_5 0 rfl) rfl rfl ?_
      refine r_iload_n (pc' := 534) (kL_law_5 1 rfl) rfl rfl ?_
      refine r_iconst 3 (pc' := 535) (kL_law_5 2 rfl) rfl (by unfold inR; omega) ?_
      refine r_iadd (pc' := 536) (kL_law_5 3 rfl) rfl g86 ?_
      refine s_sldv (x := (α (-1) (x3 + 3))) (pc' := 537) (kL_law_5 4 rfl) rfl g87 (hs88 _ g87.1 g87.2) ?_
      refine s_callVs (As := [(0, (α (-1) (x3 + 1))), (0, (α (-1) (x3 + 2))), (0, (α (-1) (x3 + 3)))]) (o := 198) (S := [(0, r88)]) (S2 := fun z => [(0, z), (0, r88)]) (pc' := 540) (kL_law_5 5 rfl) rfl rfl nkX11_leak mlL_62 imX11_leak rfl slX11_leak rfl (Nat.le_of_ble_eq_true rfl) (Nat.le_of_ble_eq_true rfl) (kz198 Ln) h (fun z => rfl) (fun r89 φ89 α89 h hs89 => ?_)
      refine r_icmp_eq (t := 1211) (pc' := 543) (kL_law_5 6 rfl) rfl rfl (fun c90 => ?_) (fun c90 => ?_)
      · have h := h.1 c90
        have g91 := h.1
        have h := h.2
        refine r_iinc (L' := [(4, 0), (2, 0), (2, 198), (0, (x3 + 6))]) (pc' := 1214) (kL_law_13 45 rfl) rfl (Nat.le_of_ble_eq_true rfl) rfl g91 rfl ?_
        refine r_goto (pc' := 18) (kL_law_13 46 rfl) rfl ?_
        exact r_weak (L' := [(4, 0), (2, 0), (2, 198), (0, (x3 + 6))]) ⟨Or.inl rfl, Or.inl rfl, Or.inl rfl, Or.inl rfl, trivial⟩ h
      · have h := h.2 c90
        refine r_iconst 0 (pc' := 544) (kL_law_5 7 rfl) rfl (by unfold inR; omega) ?_
        exact s_zret (kL_law_5 8 rfl) rfl (Or.inl rfl) h
    by_cases c4_11 : (iAnd (α (-1) x3) 63) = 11
    · have h := h.2.2.2.2.2.2.2.2.2.2.2.1 c4_11
      refine r_tabIn (pc' := 545) 11 c4_11 (kL_law_0 21 rfl) (by decide) (by decide) rfl rfl ?_
      refine r_aload_n (pc' := 546) (kL_law_5 9 rfl) rfl rfl ?_
      refine r_sload_n (pc' := 547) (kL_law_5 10 rfl) rfl rfl ?_
      refine r_iload_n (pc' := 548) (kL_law_5 11 rfl) rfl rfl ?_
      refine r_iconst 1 (pc' := 549) (kL_law_5 12 rfl) rfl (by unfold inR; omega) ?_
      have g92 := h.1
      have h := h.2
      refine r_iadd (pc' := 550) (kL_law_5 13 rfl) rfl g92 ?_
      have g93 := h.1
      have h := h.2
      refine s_sldv (x := (α (-1) (x3 + 1))) (pc' := 551) (kL_law_5 14 rfl) rfl g93 rfl ?_
      refine r_sload_n (pc' := 552) (kL_law_5 15 rfl) rfl rfl ?_
      refine r_iload_n (pc' := 553) (kL_law_5 16 rfl) rfl rfl ?_
      refine r_iconst 2 (pc' := 554) (kL_law_5 17 rfl) rfl (by unfold inR; omega) ?_
      have g94 := h.1
      have h := h.2
      refine r_iadd (pc' := 555) (kL_law_5 18 rfl) rfl g94 ?_
      have g95 := h.1
      have h := h.2
      refine s_sldv (x := (α (-1) (x3 + 2))) (pc' := 556) (kL_law_5 19 rfl) rfl g95 rfl ?_
      refine s_callVs (As := [(0, (α (-1) (x3 + 1))), (0, (α (-1) (x3 + 2)))]) (o := 0) (S := []) (S2 := fun z => [(0, z)]) (pc' := 559) (kL_law_5 20 rfl) rfl rfl nkX10_kept mlL_63 imX10_kept rfl slX10_kept rfl (Nat.le_of_ble_eq_true rfl) (Nat.le_of_ble_eq_true rfl) (kz0 Ln) h (fun z => rfl) (fun r96 φ96 α96 h hs96 => ?_)
      refine r_aload_n (pc' := 560) (kL_law_5 21 rfl) rfl rfl ?_
      refine r_sload_n (pc' := 561) (kL_law_5 22 rfl) rfl rfl ?_
      refine r_iload_n (pc' := 562) (kL_law_5 23 rfl) rfl rfl ?_
      refine r_iconst 1 (pc' := 563) (kL_law_5 24 rfl) rfl (by unfold inR; omega) ?_
      refine r_iadd (pc' := 564) (kL_law_5 25 rfl) rfl g92 ?_
      refine s_sldv (x := (α (-1) (x3 + 1))) (pc' := 565) (kL_law_5 26 rfl) rfl g93 (hs96 _ g93.1 g93.2) ?_
      refine r_sload_n (pc' := 566) (kL_law_5 27 rfl) rfl rfl ?_
      refine r_iload_n (pc' := 567) (kL_law_5 28 rfl) rfl rfl ?_
      refine r_iconst 2 (pc' := 568) (kL_law_5 29 rfl) rfl (by unfold inR; omega) ?_
      refine r_iadd (pc' := 569) (kL_law_5 30 rfl) rfl g94 ?_
      refine s_sldv (x := (α (-1) (x3 + 2))) (pc' := 570) (kL_law_5 31 rfl) rfl g95 (hs96 _ g95.1 g95.2) ?_
      refine s_callVs (As := [(0, (α (-1) (x3 + 1))), (0, (α (-1) (x3 + 2)))]) (o := 198) (S := [(0, r96)]) (S2 := fun z => [(0, z), (0, r96)]) (pc' := 573) (kL_law_5 32 rfl) rfl rfl nkX11_kept mlL_66 imX11_kept rfl slX11_kept rfl (Nat.le_of_ble_eq_true rfl) (Nat.le_of_ble_eq_true rfl) (kz198 Ln) h (fun z => rfl) (fun r97 φ97 α97 h hs97 => ?_)
      refine r_icmp_eq (t := 1211) (pc' := 576) (kL_law_5 33 rfl) rfl rfl (fun c98 => ?_) (fun c98 => ?_)
      · have h := h.1 c98
        have g99 := h.1
        have h := h.2
        refine r_iinc (L' := [(4, 0), (2, 0), (2, 198), (0, (x3 + 6))]) (pc' := 1214) (kL_law_13 45 rfl) rfl (Nat.le_of_ble_eq_true rfl) rfl g99 rfl ?_
        refine r_goto (pc' := 18) (kL_law_13 46 rfl) rfl ?_
        exact r_weak (L' := [(4, 0), (2, 0), (2, 198), (0, (x3 + 6))]) ⟨Or.inl rfl, Or.inl rfl, Or.inl rfl, Or.inl rfl, trivial⟩ h
      · have h := h.2 c98
        refine r_iconst 0 (pc' := 577) (kL_law_5 34 rfl) rfl (by unfold inR; omega) ?_
        exact s_zret (kL_law_5 35 rfl) rfl (Or.inl rfl) h
    by_cases c4_12 : (iAnd (α (-1) x3) 63) = 12
    · have h := h.2.2.2.2.2.2.2.2.2.2.2.2.1 c4_12
      refine r_tabIn (pc' := 578) 12 c4_12 (kL_law_0 21 rfl) (by decide) (by decide) rfl rfl ?_
      refine r_aload_n (pc' := 579) (kL_law_5 36 rfl) rfl rfl ?_
      refine r_sload_n (pc' := 580) (kL_law_5 37 rfl) rfl rfl ?_
      refine r_iload_n (pc' := 581) (kL_law_5 38 rfl) rfl rfl ?_
      refine r_iconst 1 (pc' := 582) (kL_law_5 39 rfl) rfl (by unfold inR; omega) ?_
      have g100 := h.1
      have h := h.2
      refine r_iadd (pc' := 583) (kL_law_5 40 rfl) rfl g100 ?_
      have g101 := h.1
      have h := h.2
      refine s_sldv (x := (α (-1) (x3 + 1))) (pc' := 584) (kL_law_5 41 rfl) rfl g101 rfl ?_
      refine r_sload_n (pc' := 585) (kL_law_5 42 rfl) rfl rfl ?_
      refine r_iload_n (pc' := 586) (kL_law_5 43 rfl) rfl rfl ?_
      refine r_iconst 2 (pc' := 587) (kL_law_5 44 rfl) rfl (by unfold inR; omega) ?_
      have g102 := h.1
      have h := h.2
      refine r_iadd (pc' := 588) (kL_law_5 45 rfl) rfl g102 ?_
      have g103 := h.1
      have h := h.2
      refine s_sldv (x := (α (-1) (x3 + 2))) (pc' := 589) (kL_law_5 46 rfl) rfl g103 rfl ?_
      refine r_sload_n (pc' := 590) (kL_law_5 47 rfl) rfl rfl ?_
      refine r_iload_n (pc' := 591) (kL_law_5 48 rfl) rfl rfl ?_
      refine r_iconst 3 (pc' := 592) (kL_law_5 49 rfl) rfl (by unfold inR; omega) ?_
      have g104 := h.1
      have h := h.2
      refine r_iadd (pc' := 593) (kL_law_5 50 rfl) rfl g104 ?_
      have g105 := h.1
      have h := h.2
      refine s_sldv (x := (α (-1) (x3 + 3))) (pc' := 594) (kL_law_5 51 rfl) rfl g105 rfl ?_
      refine s_callVs (As := [(0, (α (-1) (x3 + 1))), (0, (α (-1) (x3 + 2))), (0, (α (-1) (x3 + 3)))]) (o := 0) (S := []) (S2 := fun z => [(0, z)]) (pc' := 597) (kL_law_5 52 rfl) rfl rfl nkX10_later mlL_67 imX10_later rfl slX10_later rfl (Nat.le_of_ble_eq_true rfl) (Nat.le_of_ble_eq_true rfl) (kz0 Ln) h (fun z => rfl) (fun r106 φ106 α106 h hs106 => ?_)
      refine r_aload_n (pc' := 598) (kL_law_5 53 rfl) rfl rfl ?_
      refine r_sload_n (pc' := 599) (kL_law_5 54 rfl) rfl rfl ?_
      refine r_iload_n (pc' := 600) (kL_law_5 55 rfl) rfl rfl ?_
      refine r_iconst 1 (pc' := 601) (kL_law_5 56 rfl) rfl (by unfold inR; omega) ?_
      refine r_iadd (pc' := 602) (kL_law_5 57 rfl) rfl g100 ?_
      refine s_sldv (x := (α (-1) (x3 + 1))) (pc' := 603) (kL_law_5 58 rfl) rfl g101 (hs106 _ g101.1 g101.2) ?_
      refine r_sload_n (pc' := 604) (kL_law_5 59 rfl) rfl rfl ?_
      refine r_iload_n (pc' := 605) (kL_law_6 0 rfl) rfl rfl ?_
      refine r_iconst 2 (pc' := 606) (kL_law_6 1 rfl) rfl (by unfold inR; omega) ?_
      refine r_iadd (pc' := 607) (kL_law_6 2 rfl) rfl g102 ?_
      refine s_sldv (x := (α (-1) (x3 + 2))) (pc' := 608) (kL_law_6 3 rfl) rfl g103 (hs106 _ g103.1 g103.2) ?_
      refine r_sload_n (pc' := 609) (kL_law_6 4 rfl) rfl rfl ?_
      refine r_iload_n (pc' := 610) (kL_law_6 5 rfl) rfl rfl ?_
      refine r_iconst 3 (pc' := 611) (kL_law_6 6 rfl) rfl (by unfold inR; omega) ?_
      refine r_iadd (pc' := 612) (kL_law_6 7 rfl) rfl g104 ?_
      refine s_sldv (x := (α (-1) (x3 + 3))) (pc' := 613) (kL_law_6 8 rfl) rfl g105 (hs106 _ g105.1 g105.2) ?_
      refine s_callVs (As := [(0, (α (-1) (x3 + 1))), (0, (α (-1) (x3 + 2))), (0, (α (-1) (x3 + 3)))]) (o := 198) (S := [(0, r106)]) (S2 := fun z => [(0, z), (0, r106)]) (pc' := 616) (kL_law_6 9 rfl) rfl rfl nkX11_later mlL_70 imX11_later rfl slX11_later rfl (Nat.le_of_ble_eq_true rfl) (Nat.le_of_ble_eq_true rfl) (kz198 Ln) h (fun z => rfl) (fun r107 φ107 α107 h hs107 => ?_)
      refine r_icmp_eq (t := 1211) (pc' := 619) (kL_law_6 10 rfl) rfl rfl (fun c108 => ?_) (fun c108 => ?_)
      · have h := h.1 c108
        have g109 := h.1
        have h := h.2
        refine r_iinc (L' := [(4, 0), (2, 0), (2, 198), (0, (x3 + 6))]) (pc' := 1214) (kL_law_13 45 rfl) rfl (Nat.le_of_ble_eq_true rfl) rfl g109 rfl ?_
        refine r_goto (pc' := 18) (kL_law_13 46 rfl) rfl ?_
        exact r_weak (L' := [(4, 0), (2, 0), (2, 198), (0, (x3 + 6))]) ⟨Or.inl rfl, Or.inl rfl, Or.inl rfl, Or.inl rfl, trivial⟩ h
      · have h := h.2 c108
        refine r_iconst 0 (pc' := 620) (kL_law_6 11 rfl) rfl (by unfold inR; omega) ?_
        exact s_zret (kL_law_6 12 rfl) rfl (Or.inl rfl) h
    by_cases c4_13 : (iAnd (α (-1) x3) 63) = 13
    · have h := h.2.2.2.2.2.2.2.2.2.2.2.2.2.1 c4_13
      refine r_tabIn (pc' := 621) 13 c4_13 (kL_law_0 21 rfl) (by decide) (by decide) rfl rfl ?_
      refine r_aload_n (pc' := 622) (kL_law_6 13 rfl) rfl rfl ?_
      refine r_sload_n (pc' := 623) (kL_law_6 14 rfl) rfl rfl ?_
      refine r_iload_n (pc' := 624) (kL_law_6 15 rfl) rfl rfl ?_
      refine r_iconst 1 (pc' := 625) (kL_law_6 16 rfl) rfl (by unfold inR; omega) ?_
      have g110 := h.1
      have h := h.2
      refine r_iadd (pc' := 626) (kL_law_6 17 rfl) rfl g110 ?_
      have g111 := h.1
      have h := h.2
      refine s_sldv (x := (α (-1) (x3 + 1))) (pc' := 627) (kL_law_6 18 rfl) rfl g111 rfl ?_
      refine r_sload_n (pc' := 628) (kL_law_6 19 rfl) rfl rfl ?_
      refine r_iload_n (pc' := 629) (kL_law_6 20 rfl) rfl rfl ?_
      refine r_iconst 2 (pc' := 630) (kL_law_6 21 rfl) rfl (by unfold inR; omega) ?_
      have g112 := h.1
      have h := h.2
      refine r_iadd (pc' := 631) (kL_law_6 22 rfl) rfl g112 ?_
      have g113 := h.1
      have h := h.2
      refine s_sldv (x := (α (-1) (x3 + 2))) (pc' := 632) (kL_law_6 23 rfl) rfl g113 rfl ?_
      refine s_callVs (As := [(0, (α (-1) (x3 + 1))), (0, (α (-1) (x3 + 2)))]) (o := 0) (S := []) (S2 := fun z => [(0, z)]) (pc' := 635) (kL_law_6 24 rfl) rfl rfl nkX10_knows mlL_71 imX10_knows rfl slX10_knows rfl (Nat.le_of_ble_eq_true rfl) (Nat.le_of_ble_eq_true rfl) (kz0 Ln) h (fun z => rfl) (fun r114 φ114 α114 h hs114 => ?_)
      refine r_aload_n (pc' := 636) (kL_law_6 25 rfl) rfl rfl ?_
      refine r_sload_n (pc' := 637) (kL_law_6 26 rfl) rfl rfl ?_
      refine r_iload_n (pc' := 638) (kL_law_6 27 rfl) rfl rfl ?_
      refine r_iconst 1 (pc' := 639) (kL_law_6 28 rfl) rfl (by unfold inR; omega) ?_
      refine r_iadd (pc' := 640) (kL_law_6 29 rfl) rfl g110 ?_
      refine s_sldv (x := (α (-1) (x3 + 1))) (pc' := 641) (kL_law_6 30 rfl) rfl g111 (hs114 _ g111.1 g111.2) ?_
      refine r_sload_n (pc' := 642) (kL_law_6 31 rfl) rfl rfl ?_
      refine r_iload_n (pc' := 643) (kL_law_6 32 rfl) rfl rfl ?_
      refine r_iconst 2 (pc' := 644) (kL_law_6 33 rfl) rfl (by unfold inR; omega) ?_
      refine r_iadd (pc' := 645) (kL_law_6 34 rfl) rfl g112 ?_
      refine s_sldv (x := (α (-1) (x3 + 2))) (pc' := 646) (kL_law_6 35 rfl) rfl g113 (hs114 _ g113.1 g113.2) ?_
      refine s_callVs (As := [(0, (α (-1) (x3 + 1))), (0, (α (-1) (x3 + 2)))]) (o := 198) (S := [(0, r114)]) (S2 := fun z => [(0, z), (0, r114)]) (pc' := 649) (kL_law_6 36 rfl) rfl rfl nkX11_knows mlL_74 imX11_knows rfl slX11_knows rfl (Nat.le_of_ble_eq_true rfl) (Nat.le_of_ble_eq_true rfl) (kz198 Ln) h (fun z => rfl) (fun r115 φ115 α115 h hs115 => ?_)
      refine r_icmp_eq (t := 1211) (pc' := 652) (kL_law_6 37 rfl) rfl rfl (fun c116 => ?_) (fun c116 => ?_)
      · have h := h.1 c116
        have g117 := h.1
        have h := h.2
        refine r_iinc (L' := [(4, 0), (2, 0), (2, 198), (0, (x3 + 6))]) (pc' := 1214) (kL_law_13 45 rfl) rfl (Nat.le_of_ble_eq_true rfl) rfl g117 rfl ?_
        refine r_goto (pc' := 18) (kL_law_13 46 rfl) rfl ?_
        exact r_weak (L' := [(4, 0), (2, 0), (2, 198), (0, (x3 + 6))]) ⟨Or.inl rfl, Or.inl rfl, Or.inl rfl, Or.inl rfl, trivial⟩ h
      · have h := h.2 c116
        refine r_iconst 0 (pc' := 653) (kL_law_6 38 rfl) rfl (by unfold inR; omega) ?_
        exact s_zret (kL_law_6 39 rfl) rfl (Or.inl rfl) h
    by_cases c4_14 : (iAnd (α (-1) x3) 63) = 14
    · have h := h.2.2.2.2.2.2.2.2.2.2.2.2.2.2.1 c4_14
      refine r_tabIn (pc' := 654) 14 c4_14 (kL_law_0 21 rfl) (by decide) (by decide) rfl rfl ?_
      refine r_aload_n (pc' := 655) (kL_law_6 40 rfl) rfl rfl ?_
      refine r_sload_n (pc' := 656) (kL_law_6 41 rfl) rfl rfl ?_
      refine r_iload_n (pc' := 657) (kL_law_6 42 rfl) rfl rfl ?_
      refine r_iconst 1 (pc' := 658) (kL_law_6 43 rfl) rfl (by unfold inR; omega) ?_
      have g118 := h.1
      have h := h.2
      refine r_iadd (pc' := 659) (kL_law_6 44 rfl) rfl g118 ?_
      have g119 := h.1
      have h := h.2
      refine s_sldv (x := (α (-1) (x3 + 1))) (pc' := 660) (kL_law_6 45 rfl) rfl g119 rfl ?_
      refine r_sload_n (pc' := 661) (kL_law_6 46 rfl) rfl rfl ?_
      refine r_iload_n (pc' := 662) (kL_law_6 47 rfl) rfl rfl ?_
      refine r_iconst 2 (pc' := 663) (kL_law_6 48 rfl) rfl (by unfold inR; omega) ?_
      have g120 := h.1
      have h := h.2
      refine r_iadd (pc' := 664) (kL_law_6 49 rfl) rfl g120 ?_
      have g121 := h.1
      have h := h.2
      refine s_sldv (x := (α (-1) (x3 + 2))) (pc' := 665) (kL_law_6 50 rfl) rfl g121 rfl ?_
      refine s_callVs (As := [(0, (α (-1) (x3 + 1))), (0, (α (-1) (x3 + 2)))]) (o := 0) (S := []) (S2 := fun z => [(0, z)]) (pc' := 668) (kL_law_6 51 rfl) rfl rfl nkX10_hears mlL_75 imX10_hears rfl slX10_hears rfl (Nat.le_of_ble_eq_true rfl) (Nat.le_of_ble_eq_true rfl) (kz0 Ln) h (fun z => rfl) (fun r122 φ122 α122 h hs122 => ?_)
      refine r_aload_n (pc' := 669) (kL_law_6 52 rfl) rfl rfl ?_
      refine r_sload_n (pc' := 670) (kL_law_6 53 rfl) rfl rfl ?_
      refine r_iload_n (pc' := 671) (kL_law_6 54 rfl) rfl rfl ?_
      refine r_iconst 1 (pc' := 672) (kL_law_6 55 rfl) rfl (by unfold inR; omega) ?_
      refine r_iadd (pc' := 673) (kL_law_6 56 rfl) rfl g118 ?_
      refine s_sldv (x := (α (-1) (x3 + 1))) (pc' := 674) (kL_law_6 57 rfl) rfl g119 (hs122 _ g119.1 g119.2) ?_
      refine r_sload_n (pc' := 675) (kL_law_6 58 rfl) rfl rfl ?_
      refine r_iload_n (pc' := 676) (kL_law_6 59 rfl) rfl rfl ?_
      refine r_iconst 2 (pc' := 677) (kL_law_7 0 rfl) rfl (by unfold inR; omega) ?_
      refine r_iadd (pc' := 678) (kL_law_7 1 rfl) rfl g120 ?_
      refine s_sldv (x := (α (-1) (x3 + 2))) (pc' := 679) (kL_law_7 2 rfl) rfl g121 (hs122 _ g121.1 g121.2) ?_
      refine s_callVs (As := [(0, (α (-1) (x3 + 1))), (0, (α (-1) (x3 + 2)))]) (o := 198) (S := [(0, r122)]) (S2 := fun z => [(0, z), (0, r122)]) (pc' := 682) (kL_law_7 3 rfl) rfl rfl nkX11_hears mlL_78 imX11_hears rfl slX11_hears rfl (Nat.le_of_ble_eq_true rfl) (Nat.le_of_ble_eq_true rfl) (kz198 Ln) h (fun z => rfl) (fun r123 φ123 α123 h hs123 => ?_)
      refine r_icmp_eq (t := 1211) (pc' := 685) (kL_law_7 4 rfl) rfl rfl (fun c124 => ?_) (fun c124 => ?_)
      · have h := h.1 c124
        have g125 := h.1
        have h := h.2
        refine r_iinc (L' := [(4, 0), (2, 0), (2, 198), (0, (x3 + 6))]) (pc' := 1214) (kL_law_13 45 rfl) rfl (Nat.le_of_ble_eq_true rfl) rfl g125 rfl ?_
        refine r_goto (pc' := 18) (kL_law_13 46 rfl) rfl ?_
        exact r_weak (L' := [(4, 0), (2, 0), (2, 198), (0, (x3 + 6))]) ⟨Or.inl rfl, Or.inl rfl, Or.inl rfl, Or.inl rfl, trivial⟩ h
      · have h := h.2 c124
        refine r_iconst 0 (pc' := 686) (kL_law_7 5 rfl) rfl (by unfold inR; omega) ?_
        exact s_zret (kL_law_7 6 rfl) rfl (Or.inl rfl) h
    by_cases c4_15 : (iAnd (α (-1) x3) 63) = 15
    · have h := h.2.2.2.2.2.2.2.2.2.2.2.2.2.2.2.1 c4_15
      refine r_tabIn (pc' := 687) 15 c4_15 (kL_law_0 21 rfl) (by decide) (by decide) rfl rfl ?_
      refine r_aload_n (pc' := 688) (kL_law_7 7 rfl) rfl rfl ?_
      refine r_sload_n (pc' := 689) (kL_law_7 8 rfl) rfl rfl ?_
      refine r_iload_n (pc' := 690) (kL_law_7 9 rfl) rfl rfl ?_
      refine r_iconst 1 (pc' := 691) (kL_law_7 10 rfl) rfl (by unfold inR; omega) ?_
      have g126 := h.1
      have h := h.2
      refine r_iadd (pc' := 692) (kL_law_7 11 rfl) rfl g126 ?_
      have g127 := h.1
      have h := h.2
      refine s_sldv (x := (α (-1) (x3 + 1))) (pc' := 693) (kL_law_7 12 rfl) rfl g127 rfl ?_
      refine r_sload_n (pc' := 694) (kL_law_7 13 rfl) rfl rfl ?_
      refine r_iload_n (pc' := 695) (kL_law_7 14 rfl) rfl rfl ?_
      refine r_iconst 2 (pc' := 696) (kL_law_7 15 rfl) rfl (by unfold inR; omega) ?_
      have g128 := h.1
      have h := h.2
      refine r_iadd (pc' := 697) (kL_law_7 16 rfl) rfl g128 ?_
      have g129 := h.1
      have h := h.2
      refine s_sldv (x := (α (-1) (x3 + 2))) (pc' := 698) (kL_law_7 17 rfl) rfl g129 rfl ?_
      refine r_sload_n (pc' := 699) (kL_law_7 18 rfl) rfl rfl ?_
      refine r_iload_n (pc' := 700) (kL_law_7 19 rfl) rfl rfl ?_
      refine r_iconst 3 (pc' := 701) (kL_law_7 20 rfl) rfl (by unfold inR; omega) ?_
      have g130 := h.1
      have h := h.2
      refine r_iadd (pc' := 702) (kL_law_7 21 rfl) rfl g130 ?_
      have g131 := h.1
      have h := h.2
      refine s_sldv (x := (α (-1) (x3 + 3))) (pc' := 703) (kL_law_7 22 rfl) rfl g131 rfl ?_
      refine s_callVs (As := [(0, (α (-1) (x3 + 1))), (0, (α (-1) (x3 + 2))), (0, (α (-1) (x3 + 3)))]) (o := 0) (S := []) (S2 := fun z => [(0, z)]) (pc' := 706) (kL_law_7 23 rfl) rfl rfl nkX10_discreet mlL_79 imX10_discreet rfl slX10_discreet rfl (Nat.le_of_ble_eq_true rfl) (Nat.le_of_ble_eq_true rfl) (kz0 Ln) h (fun z => rfl) (fun r132 φ132 α132 h hs132 => ?_)
      refine r_aload_n (pc' := 707) (kL_law_7 24 rfl) rfl rfl ?_
      refine r_sload_n (pc' := 708) (kL_law_7 25 rfl) rfl rfl ?_
      refine r_iload_n (pc' := 709) (kL_law_7 26 rfl) rfl rfl ?_
      refine r_iconst 1 (pc' := 710) (kL_law_7 27 rfl) rfl (by unfold inR; omega) ?_
      refine r_iadd (pc' := 711) (kL_law_7 28 rfl) rfl g126 ?_
      refine s_sldv (x := (α (-1) (x3 + 1))) (pc' := 712) (kL_law_7 29 rfl) rfl g127 (hs132 _ g127.1 g127.2) ?_
      refine r_sload_n (pc' := 713) (kL_law_7 30 rfl) rfl rfl ?_
      refine r_iload_n (pc' := 714) (kL_law_7 31 rfl) rfl rfl ?_
      refine r_iconst 2 (pc' := 715) (kL_law_7 32 rfl) rfl (by unfold inR; omega) ?_
      refine r_iadd (pc' := 716) (kL_law_7 33 rfl) rfl g128 ?_
      refine s_sldv (x := (α (-1) (x3 + 2))) (pc' := 717) (kL_law_7 34 rfl) rfl g129 (hs132 _ g129.1 g129.2) ?_
      refine r_sload_n (pc' := 718) (kL_law_7 35 rfl) rfl rfl ?_
      refine r_iload_n (pc' := 719) (kL_law_7 36 rfl) rfl rfl ?_
      refine r_iconst 3 (pc' := 720) (kL_law_7 37 rfl) rfl (by unfold inR; omega) ?_
      refine r_iadd (pc' := 721) (kL_law_7 38 rfl) rfl g130 ?_
      refine s_sldv (x := (α (-1) (x3 + 3))) (pc' := 722) (kL_law_7 39 rfl) rfl g131 (hs132 _ g131.1 g131.2) ?_
      refine s_callVs (As := [(0, (α (-1) (x3 + 1))), (0, (α (-1) (x3 + 2))), (0, (α (-1) (x3 + 3)))]) (o := 198) (S := [(0, r132)]) (S2 := fun z => [(0, z), (0, r132)]) (pc' := 725) (kL_law_7 40 rfl) rfl rfl nkX11_discreet mlL_82 imX11_discreet rfl slX11_discreet rfl (Nat.le_of_ble_eq_true rfl) (Nat.le_of_ble_eq_true rfl) (kz198 Ln) h (fun z => rfl) (fun r133 φ133 α133 h hs133 => ?_)
      refine r_icmp_eq (t := 1211) (pc' := 728) (kL_law_7 41 rfl) rfl rfl (fun c134 => ?_) (fun c134 => ?_)
      · have h := h.1 c134
        have g135 := h.1
        have h := h.2
        refine r_iinc (L' := [(4, 0), (2, 0), (2, 198), (0, (x3 + 6))]) (pc' := 1214) (kL_law_13 45 rfl) rfl (Nat.le_of_ble_eq_true rfl) rfl g135 rfl ?_
        refine r_goto (pc' := 18) (kL_law_13 46 rfl) rfl ?_
        exact r_weak (L' := [(4, 0), (2, 0), (2, 198), (0, (x3 + 6))]) ⟨Or.inl rfl, Or.inl rfl, Or.inl rfl, Or.inl rfl, trivial⟩ h
      · have h := h.2 c134
        refine r_iconst 0 (pc' := 729) (kL_law_7 42 rfl) rfl (by unfold inR; omega) ?_
        exact s_zret (kL_law_7 43 rfl) rfl (Or.inl rfl) h
    by_cases c4_16 : (iAnd (α (-1) x3) 63) = 16
    · have h := h.2.2.2.2.2.2.2.2.2.2.2.2.2.2.2.2.1 c4_16
      refine r_tabIn (pc' := 730) 16 c4_16 (kL_law_0 21 rfl) (by decide) (by decide) rfl rfl ?_
      refine r_aload_n (pc' := 731) (kL_law_7 44 rfl) rfl rfl ?_
      refine r_sload_n (pc' := 732) (kL_law_7 45 rfl) rfl rfl ?_
      refine r_iload_n (pc' := 733) (kL_law_7 46 rfl) rfl rfl ?_
      refine r_iconst 1 (pc' := 734) (kL_law_7 47 rfl) rfl (by unfold inR; omega) ?_
      have g136 := h.1
      have h := h.2
      refine r_iadd (pc' := 735) (kL_law_7 48 rfl) rfl g136 ?_
      have g137 := h.1
      have h := h.2
      refine s_sldv (x := (α (-1) (x3 + 1))) (pc' := 736) (kL_law_7 49 rfl) rfl g137 rfl ?_
      refine r_sload_n (pc' := 737) (kL_law_7 50 rfl) rfl rfl ?_
      refine r_iload_n (pc' := 738) (kL_law_7 51 rfl) rfl rfl ?_
      refine r_iconst 2 (pc' := 739) (kL_law_7 52 rfl) rfl (by unfold inR; omega) ?_
      have g138 := h.1
      have h := h.2
      refine r_iadd (pc' := 740) (kL_law_7 53 rfl) rfl g138 ?_
      have g139 := h.1
      have h := h.2
      refine s_sldv (x := (α (-1) (x3 + 2))) (pc' := 741) (kL_law_7 54 rfl) rfl g139 rfl ?_
      refine r_sload_n (pc' := 742) (kL_law_7 55 rfl) rfl rfl ?_
      refine r_iload_n (pc' := 743) (kL_law_7 56 rfl) rfl rfl ?_
      refine r_iconst 3 (pc' := 744) (kL_law_7 57 rfl) rfl (by unfold inR; omega) ?_
      have g140 := h.1
      have h := h.2
      refine r_iadd (pc' := 745) (kL_law_7 58 rfl) rfl g140 ?_
      have g141 := h.1
      have h := h.2
      refine s_sldv (x := (α (-1) (x3 + 3))) (pc' := 746) (kL_law_7 59 rfl) rfl g141 rfl ?_
      refine s_callVs (As := [(0, (α (-1) (x3 + 1))), (0, (α (-1) (x3 + 2))), (0, (α (-1) (x3 + 3)))]) (o := 0) (S := []) (S2 := fun z => [(0, z)]) (pc' := 749) (kL_law_8 0 rfl) rfl rfl nkX10_pressed mlL_83 imX10_pressed rfl slX10_pressed rfl (Nat.le_of_ble_eq_true rfl) (Nat.le_of_ble_eq_true rfl) (kz0 Ln) h (fun z => rfl) (fun r142 φ142 α142 h hs142 => ?_)
      refine r_aload_n (pc' := 750) (kL_law_8 1 rfl) rfl rfl ?_
      refine r_sload_n (pc' := 751) (kL_law_8 2 rfl) rfl rfl ?_
      refine r_iload_n (pc' := 752) (kL_law_8 3 rfl) rfl rfl ?_
      refine r_iconst 1 (pc' := 753) (kL_law_8 4 rfl) rfl (by unfold inR; omega) ?_
      refine r_iadd (pc' := 754) (kL_law_8 5 rfl) rfl g136 ?_
      refine s_sldv (x := (α (-1) (x3 + 1))) (pc' := 755) (kL_law_8 6 rfl) rfl g137 (hs142 _ g137.1 g137.2) ?_
      refine r_sload_n (pc' := 756) (kL_law_8 7 rfl) rfl rfl ?_
      refine r_iload_n (pc' := 757) (kL_law_8 8 rfl) rfl rfl ?_
      refine r_iconst 2 (pc' := 758) (kL_law_8 9 rfl) rfl (by unfold inR; omega) ?_
      refine r_iadd (pc' := 759) (kL_law_8 10 rfl) rfl g138 ?_
      refine s_sldv (x := (α (-1) (x3 + 2))) (pc' := 760) (kL_law_8 11 rfl) rfl g139 (hs142 _ g139.1 g139.2) ?_
      refine r_sload_n (pc' := 761) (kL_law_8 12 rfl) rfl rfl ?_
      refine r_iload_n (pc' := 762) (kL_law_8 13 rfl) rfl rfl ?_
      refine r_iconst 3 (pc' := 763) (kL_law_8 14 rfl) rfl (by unfold inR; omega) ?_
      refine r_iadd (pc' := 764) (kL_law_8 15 rfl) rfl g140 ?_
      refine s_sldv (x := (α (-1) (x3 + 3))) (pc' := 765) (kL_law_8 16 rfl) rfl g141 (hs142 _ g141.1 g141.2) ?_
      refine s_callVs (As := [(0, (α (-1) (x3 + 1))), (0, (α (-1) (x3 + 2))), (0, (α (-1) (x3 + 3)))]) (o := 198) (S := [(0, r142)]) (S2 := fun z => [(0, z), (0, r142)]) (pc' := 768) (kL_law_8 17 rfl) rfl rfl nkX11_pressed mlL_86 imX11_pressed rfl slX11_pressed rfl (Nat.le_of_ble_eq_true rfl) (Nat.le_of_ble_eq_true rfl) (kz198 Ln) h (fun z => rfl) (fun r143 φ143 α143 h hs143 => ?_)
      refine r_icmp_eq (t := 1211) (pc' := 771) (kL_law_8 18 rfl) rfl rfl (fun c144 => ?_) (fun c144 => ?_)
      · have h := h.1 c144
        have g145 := h.1
        have h := h.2
        refine r_iinc (L' := [(4, 0), (2, 0), (2, 198), (0, (x3 + 6))]) (pc' := 1214) (kL_law_13 45 rfl) rfl (Nat.le_of_ble_eq_true rfl) rfl g145 rfl ?_
        refine r_goto (pc' := 18) (kL_law_13 46 rfl) rfl ?_
        exact r_weak (L' := [(4, 0), (2, 0), (2, 198), (0, (x3 + 6))]) ⟨Or.inl rfl, Or.inl rfl, Or.inl rfl, Or.inl rfl, trivial⟩ h
      · have h := h.2 c144
        refine r_iconst 0 (pc' := 772) (kL_law_8 19 rfl) rfl (by unfold inR; omega) ?_
        exact s_zret (kL_law_8 20 rfl) rfl (Or.inl rfl) h
    by_cases c4_17 : (iAnd (α (-1) x3) 63) = 17
    · have h := h.2.2.2.2.2.2.2.2.2.2.2.2.2.2.2.2.2.1 c4_17
      refine r_tabIn (pc' := 773) 17 c4_17 (kL_law_0 21 rfl) (by decide) (by decide) rfl rfl ?_
      refine r_aload_n (pc' := 774) (kL_law_8 21 rfl) rfl rfl ?_
      refine s_callVs (As := []) (o := 0) (S := []) (S2 := fun z => [(0, z)]) (pc' := 777) (kL_law_8 22 rfl) rfl rfl nkX10_mops mlL_87 imX10_mops rfl slX10_mops rfl (Nat.le_of_ble_eq_true rfl) (Nat.le_of_ble_eq_true rfl) (kz0 Ln) h (fun z => rfl) (fun r146 φ146 α146 h hs146 => ?_)
      refine r_aload_n (pc' := 778) (kL_law_8 23 rfl) rfl rfl ?_
      refine s_callVs (As := []) (o := 198) (S := [(0, r146)]) (S2 := fun z => [(0, z), (0, r146)]) (pc' := 781) (kL_law_8 24 rfl) rfl rfl nkX11_mops mlL_90 imX11_mops rfl slX11_mops rfl (Nat.le_of_ble_eq_true rfl) (Nat.le_of_ble_eq_true rfl) (kz198 Ln) h (fun z => rfl) (fun r147 φ147 α147 h hs147 => ?_)
      refine r_icmp_eq (t := 1211) (pc' := 784) (kL_law_8 25 rfl) rfl rfl (fun c148 => ?_) (fun c148 => ?_)
      · have h := h.1 c148
        have g149 := h.1
        have h := h.2
        refine r_iinc (L' := [(4, 0), (2, 0), (2, 198), (0, (x3 + 6))]) (pc' := 1214) (kL_law_13 45 rfl) rfl (Nat.le_of_ble_eq_true rfl) rfl g149 rfl ?_
        refine r_goto (pc' := 18) (kL_law_13 46 rfl) rfl ?_
        exact r_weak (L' := [(4, 0), (2, 0), (2, 198), (0, (x3 + 6))]) ⟨Or.inl rfl, Or.inl rfl, Or.inl rfl, Or.inl rfl, trivial⟩ h
      · have h := h.2 c148
        refine r_iconst 0 (pc' := 785) (kL_law_8 26 rfl) rfl (by unfold inR; omega) ?_
        exact s_zret (kL_law_8 27 rfl) rfl (Or.inl rfl) h
    by_cases c4_18 : (iAnd (α (-1) x3) 63) = 18
    · have h := h.2.2.2.2.2.2.2.2.2.2.2.2.2.2.2.2.2.2.1 c4_18
      refine r_tabIn (pc' := 786) 18 c4_18 (kL_law_0 21 rfl) (by decide) (by decide) rfl rfl ?_
      refine r_aload_n (pc' := 787) (kL_law_8 28 rfl) rfl rfl ?_
      refine r_sload_n (pc' := 788) (kL_law_8 29 rfl) rfl rfl ?_
      refine r_iload_n (pc' := 789) (kL_law_8 30 rfl) rfl rfl ?_
      refine r_iconst 1 (pc' := 790) (kL_law_8 31 rfl) rfl (by unfold inR; omega) ?_
      have g150 := h.1
      have h := h.2
      refine r_iadd (pc' := 791) (kL_law_8 32 rfl) rfl g150 ?_
      have g151 := h.1
      have h := h.2
      refine s_sldv (x := (α (-1) (x3 + 1))) (pc' := 792) (kL_law_8 33 rfl) rfl g151 rfl ?_
      refine s_callVs (As := [(0, (α (-1) (x3 + 1)))]) (o := 0) (S := []) (S2 := fun z => [(0, z)]) (pc' := 795) (kL_law_8 34 rfl) rfl rfl nkX10_desks mlL_91 imX10_desks rfl slX10_desks rfl (Nat.le_of_ble_eq_true rfl) (Nat.le_of_ble_eq_true rfl) (kz0 Ln) h (fun z => rfl) (fun r152 φ152 α152 h hs152 => ?_)
      refine r_aload_n (pc' := 796) (kL_law_8 35 rfl) rfl rfl ?_
      refine r_sload_n (pc' := 797) (kL_law_8 36 rfl) rfl rfl ?_
      refine r_iload_n (pc' := 798) (kL_law_8 37 rfl) rfl rfl ?_
      refine r_iconst 1 (pc' := 799) (kL_law_8 38 rfl) rfl (by unfold inR; omega) ?_
      refine r_iadd (pc' := 800) (kL_law_8 39 rfl) rfl g150 ?_
      refine s_sldv (x := (α (-1) (x3 + 1))) (pc' := 801) (kL_law_8 40 rfl) rfl g151 (hs152 _ g151.1 g151.2) ?_
      refine s_callVs (As := [(0, (α (-1) (x3 + 1)))]) (o := 198) (S := [(0, r152)]) (S2 := fun z => [(0, z), (0, r152)]) (pc' := 804) (kL_law_8 41 rfl) rfl rfl nkX11_desks mlL_94 imX11_desks rfl slX11_desks rfl (Nat.le_of_ble_eq_true rfl) (Nat.le_of_ble_eq_true rfl) (kz198 Ln) h (fun z => rfl) (fun r153 φ153 α153 h hs153 => ?_)
      refine r_icmp_eq (t := 1211) (pc' := 807) (kL_law_8 42 rfl) rfl rfl (fun c154 => ?_) (fun c154 => ?_)
      · have h := h.1 c154
        have g155 := h.1
        have h := h.2
        refine r_iinc (L' := [(4, 0), (2, 0), (2, 198), (0, (x3 + 6))]) (pc' := 1214) (kL_law_13 45 rfl) rfl (Nat.le_of_ble_eq_true rfl) rfl g155 rfl ?_
        refine r_goto (pc' := 18) (kL_law_13 46 rfl) rfl ?_
        exact r_weak (L' := [(4, 0), (2, 0), (2, 198), (0, (x3 + 6))]) ⟨Or.inl rfl, Or.inl rfl, Or.inl rfl, Or.inl rfl, trivial⟩ h
      · have h := h.2 c154
        refine r_iconst 0 (pc' := 808) (kL_law_8 43 rfl) rfl (by unfold inR; omega) ?_
        exact s_zret (kL_law_8 44 rfl) rfl (Or.inl rfl) h
    by_cases c4_19 : (iAnd (α (-1) x3) 63) = 19
    · have h := h.2.2.2.2.2.2.2.2.2.2.2.2.2.2.2.2.2.2.2.1 c4_19
      refine r_tabIn (pc' := 809) 19 c4_19 (kL_law_0 21 rfl) (by decide) (by decide) rfl rfl ?_
      refine r_aload_n (pc' := 810) (kL_law_8 45 rfl) rfl rfl ?_
      refine s_callVs (As := []) (o := 0) (S := []) (S2 := fun z => [(0, z)]) (pc' := 813) (kL_law_8 46 rfl) rfl rfl nkX10_see mlL_95 imX10_see rfl slX10_see rfl (Nat.le_of_ble_eq_true rfl) (Nat.le_of_ble_eq_true rfl) (kz0 Ln) h (fun z => rfl) (fun r156 φ156 α156 h hs156 => ?_)
      refine r_aload_n (pc' := 814) (kL_law_8 47 rfl) rfl rfl ?_
      refine s_callVs (As := []) (o := 198) (S := [(0, r156)]) (S2 := fun z => [(0, z), (0, r156)]) (pc' := 817) (kL_law_8 48 rfl) rfl rfl nkX11_see mlL_98 imX11_see rfl slX11_see rfl (Nat.le_of_ble_eq_true rfl) (Nat.le_of_ble_eq_true rfl) (kz198 Ln) h (fun z => rfl) (fun r157 φ157 α157 h hs157 => ?_)
      refine r_icmp_eq (t := 1211) (pc' := 820) (kL_law_8 49 rfl) rfl rfl (fun c158 => ?_) (fun c158 => ?_)
      · have h := h.1 c158
        have g159 := h.1
        have h := h.2
        refine r_iinc (L' := [(4, 0), (2, 0), (2, 198), (0, (x3 + 6))]) (pc' := 1214) (kL_law_13 45 rfl) rfl (Nat.le_of_ble_eq_true rfl) rfl g159 rfl ?_
        refine r_goto (pc' := 18) (kL_law_13 46 rfl) rfl ?_
        exact r_weak (L' := [(4, 0), (2, 0), (2, 198), (0, (x3 + 6))]) ⟨Or.inl rfl, Or.inl rfl, Or.inl rfl, Or.inl rfl, trivial⟩ h
      · have h := h.2 c158
        refine r_iconst 0 (pc' := 821) (kL_law_8 50 rfl) rfl (by unfold inR; omega) ?_
        exact s_zret (kL_law_8 51 rfl) rfl (Or.inl rfl) h
    by_cases c4_20 : (iAnd (α (-1) x3) 63) = 20
    · have h := h.2.2.2.2.2.2.2.2.2.2.2.2.2.2.2.2.2.2.2.2.1 c4_20
      refine r_tabIn (pc' := 822) 20 c4_20 (kL_law_0 21 rfl) (by decide) (by decide) rfl rfl ?_
      refine r_aload_n (pc' := 823) (kL_law_8 52 rfl) rfl rfl ?_
      refine r_sload_n (pc' := 824) (kL_law_8 53 rfl) rfl rfl ?_
      refine r_iload_n (pc' := 825) (kL_law_8 54 rfl) rfl rfl ?_
      refine r_iconst 1 (pc' := 826) (kL_law_8 55 rfl) rfl (by unfold inR; omega) ?_
      have g160 := h.1
      have h := h.2
      refine r_iadd (pc' := 827) (kL_law_8 56 rfl) rfl g160 ?_
      have g161 := h.1
      have h := h.2
      refine s_sldv (x := (α (-1) (x3 + 1))) (pc' := 828) (kL_law_8 57 rfl) rfl g161 rfl ?_
      refine r_sload_n (pc' := 829) (kL_law_8 58 rfl) rfl rfl ?_
      refine r_iload_n (pc' := 830) (kL_law_8 59 rfl) rfl rfl ?_
      refine r_iconst 2 (pc' := 831) (kL_law_9 0 rfl) rfl (by unfold inR; omega) ?_
      have g162 := h.1
      have h := h.2
      refine r_iadd (pc' := 832) (kL_law_9 1 rfl) rfl g162 ?_
      have g163 := h.1
      have h := h.2
      refine s_sldv (x := (α (-1) (x3 + 2))) (pc' := 833) (kL_law_9 2 rfl) rfl g163 rfl ?_
      refine s_callVs (As := [(0, (α (-1) (x3 + 1))), (0, (α (-1) (x3 + 2)))]) (o := 0) (S := []) (S2 := fun z => [(0, z)]) (pc' := 836) (kL_law_9 3 rfl) rfl rfl nkX10_sources mlL_99 imX10_sources rfl slX10_sources rfl (Nat.le_of_ble_eq_true rfl) (Nat.le_of_ble_eq_true rfl) (kz0 Ln) h (fun z => rfl) (fun r164 φ164 α164 h hs164 => ?_)
      refine r_aload_n (pc' := 837) (kL_law_9 4 rfl) rfl rfl ?_
      refine r_sload_n (pc' := 838) (kL_law_9 5 rfl) rfl rfl ?_
      refine r_iload_n (pc' := 839) (kL_law_9 6 rfl) rfl rfl ?_
      refine r_iconst 1 (pc' := 840) (kL_law_9 7 rfl) rfl (by unfold inR; omega) ?_
      refine r_iadd (pc' := 841) (kL_law_9 8 rfl) rfl g160 ?_
      refine s_sldv (x := (α (-1) (x3 + 1))) (pc' := 842) (kL_law_9 9 rfl) rfl g161 (hs164 _ g161.1 g161.2) ?_
      refine r_sload_n (pc' := 843) (kL_law_9 10 rfl) rfl rfl ?_
      refine r_iload_n (pc' := 844) (kL_law_9 11 rfl) rfl rfl ?_
      refine r_iconst 2 (pc' := 845) (kL_law_9 12 rfl) rfl (by unfold inR; omega) ?_
      refine r_iadd (pc' := 846) (kL_law_9 13 rfl) rfl g162 ?_
      refine s_sldv (x := (α (-1) (x3 + 2))) (pc' := 847) (kL_law_9 14 rfl) rfl g163 (hs164 _ g163.1 g163.2) ?_
      refine s_callVs (As := [(0, (α (-1) (x3 + 1))), (0, (α (-1) (x3 + 2)))]) (o := 198) (S := [(0, r164)]) (S2 := fun z => [(0, z), (0, r164)]) (pc' := 850) (kL_law_9 15 rfl) rfl rfl nkX11_sources mlL_102 imX11_sources rfl slX11_sources rfl (Nat.le_of_ble_eq_true rfl) (Nat.le_of_ble_eq_true rfl) (kz198 Ln) h (fun z => rfl) (fun r165 φ165 α165 h hs165 => ?_)
      refine r_icmp_eq (t := 1211) (pc' := 853) (kL_law_9 16 rfl) rfl rfl (fun c166 => ?_) (fun c166 => ?_)
      · have h := h.1 c166
        have g167 := h.1
        have h := h.2
        refine r_iinc (L' := [(4, 0), (2, 0), (2, 198), (0, (x3 + 6))]) (pc' := 1214) (kL_law_13 45 rfl) rfl (Nat.le_of_ble_eq_true rfl) rfl g167 rfl ?_
        refine r_goto (pc' := 18) (kL_law_13 46 rfl) rfl ?_
        exact r_weak (L' := [(4, 0), (2, 0), (2, 198), (0, (x3 + 6))]) ⟨Or.inl rfl, Or.inl rfl, Or.inl rfl, Or.inl rfl, trivial⟩ h
      · have h := h.2 c166
        refine r_iconst 0 (pc' := 854) (kL_law_9 17 rfl) rfl (by unfold inR; omega) ?_
        exact s_zret (kL_law_9 18 rfl) rfl (Or.inl rfl) h
    by_cases c4_21 : (iAnd (α (-1) x3) 63) = 21
    · have h := h.2.2.2.2.2.2.2.2.2.2.2.2.2.2.2.2.2.2.2.2.2.1 c4_21
      refine r_tabIn (pc' := 855) 21 c4_21 (kL_law_0 21 rfl) (by decide) (by decide) rfl rfl ?_
      refine r_aload_n (pc' := 856) (kL_law_9 19 rfl) rfl rfl ?_
      refine r_sload_n (pc' := 857) (kL_law_9 20 rfl) rfl rfl ?_
      refine r_iload_n (pc' := 858) (kL_law_9 21 rfl) rfl rfl ?_
      refine r_iconst 1 (pc' := 859) (kL_law_9 22 rfl) rfl (by unfold inR; omega) ?_
      have g168 := h.1
      have h := h.2
      refine r_iadd (pc' := 860) (kL_law_9 23 rfl) rfl g168 ?_
      have g169 := h.1
      have h := h.2
      refine s_sldv (x := (α (-1) (x3 + 1))) (pc' := 861) (kL_law_9 24 rfl) rfl g169 rfl ?_
      refine r_sload_n (pc' := 862) (kL_law_9 25 rfl) rfl rfl ?_
      refine r_iload_n (pc' := 863) (kL_law_9 26 rfl) rfl rfl ?_
      refine r_iconst 2 (pc' := 864) (kL_law_9 27 rfl) rfl (by unfold inR; omega) ?_
      have g170 := h.1
      have h := h.2
      refine r_iadd (pc' := 865) (kL_law_9 28 rfl) rfl g170 ?_
      have g171 := h.1
      have h := h.2
      refine s_sldv (x := (α (-1) (x3 + 2))) (pc' := 866) (kL_law_9 29 rfl) rfl g171 rfl ?_
      refine r_sload_n (pc' := 867) (kL_law_9 30 rfl) rfl rfl ?_
      refine r_iload_n (pc' := 868) (kL_law_9 31 rfl) rfl rfl ?_
      refine r_iconst 3 (pc' := 869) (kL_law_9 32 rfl) rfl (by unfold inR; omega) ?_
      have g172 := h.1
      have h := h.2
      refine r_iadd (pc' := 870) (kL_law_9 33 rfl) rfl g172 ?_
      have g173 := h.1
      have h := h.2
      refine s_sldv (x := (α (-1) (x3 + 3))) (pc' := 871) (kL_law_9 34 rfl) rfl g173 rfl ?_
      refine s_callVs (As := [(0, (α (-1) (x3 + 1))), (0, (α (-1) (x3 + 2))), (0, (α (-1) (x3 + 3)))]) (o := 0) (S := []) (S2 := fun z => [(0, z)]) (pc' := 874) (kL_law_9 35 rfl) rfl rfl nkX10_tells mlL_103 imX10_tells rfl slX10_tells rfl (Nat.le_of_ble_eq_true rfl) (Nat.le_of_ble_eq_true rfl) (kz0 Ln) h (fun z => rfl) (fun r174 φ174 α174 h hs174 => ?_)
      refine r_aload_n (pc' := 875) (kL_law_9 36 rfl) rfl rfl ?_
      refine r_sload_n (pc' := 876) (kL_law_9 37 rfl) rfl rfl ?_
      refine r_iload_n (pc' := 877) (kL_law_9 38 rfl) rfl rfl ?_
      refine r_iconst 1 (pc' := 878) (kL_law_9 39 rfl) rfl (by unfold inR; omega) ?_
      refine r_iadd (pc' := 879) (kL_law_9 40 rfl) rfl g168 ?_
      refine s_sldv (x := (α (-1) (x3 + 1))) (pc' := 880) (kL_law_9 41 rfl) rfl g169 (hs174 _ g169.1 g169.2) ?_
      refine r_sload_n (pc' := 881) (kL_law_9 42 rfl) rfl rfl ?_
      refine r_iload_n (pc' := 882) (kL_law_9 43 rfl) rfl rfl ?_
      refine r_iconst 2 (pc' := 883) (kL_law_9 44 rfl) rfl (by unfold inR; omega) ?_
      refine r_iadd (pc' := 884) (kL_law_9 45 rfl) rfl g170 ?_
      refine s_sldv (x := (α (-1) (x3 + 2))) (pc' := 885) (kL_law_9 46 rfl) rfl g171 (hs174 _ g171.1 g171.2) ?_
      refine r_sload_n (pc' := 886) (kL_law_9 47 rfl) rfl rfl ?_
      refine r_iload_n (pc' := 887) (kL_law_9 48 rfl) rfl rfl ?_
      refine r_iconst 3 (pc' := 888) (kL_law_9 49 rfl) rfl (by unfold inR; omega) ?_
      refine r_iadd (pc' := 889) (kL_law_9 50 rfl) rfl g172 ?_
      refine s_sldv (x := (α (-1) (x3 + 3))) (pc' := 890) (kL_law_9 51 rfl) rfl g173 (hs174 _ g173.1 g173.2) ?_
      refine s_callVs (As := [(0, (α (-1) (x3 + 1))), (0, (α (-1) (x3 + 2))), (0, (α (-1) (x3 + 3)))]) (o := 198) (S := [(0, r174)]) (S2 := fun z => [(0, z), (0, r174)]) (pc' := 893) (kL_law_9 52 rfl) rfl rfl nkX11_tells mlL_106 imX11_tells rfl slX11_tells rfl (Nat.le_of_ble_eq_true rfl) (Nat.le_of_ble_eq_true rfl) (kz198 Ln) h (fun z => rfl) (fun r175 φ175 α175 h hs175 => ?_)
      refine r_icmp_eq (t := 1211) (pc' := 896) (kL_law_9 53 rfl) rfl rfl (fun c176 => ?_) (fun c176 => ?_)
      · have h := h.1 c176
        have g177 := h.1
        have h := h.2
        refine r_iinc (L' := [(4, 0), (2, 0), (2, 198), (0, (x3 + 6))]) (pc' := 1214) (kL_law_13 45 rfl) rfl (Nat.le_of_ble_eq_true rfl) rfl g177 rfl ?_
        refine r_goto (pc' := 18) (kL_law_13 46 rfl) rfl ?_
        exact r_weak (L' := [(4, 0), (2, 0), (2, 198), (0, (x3 + 6))]) ⟨Or.inl rfl, Or.inl rfl, Or.inl rfl, Or.inl rfl, trivial⟩ h
      · have h := h.2 c176
        refine r_iconst 0 (pc' := 897) (kL_law_9 54 rfl) rfl (by unfold inR; omega) ?_
        exact s_zret (kL_law_9 55 rfl) rfl (Or.inl rfl) h
    by_cases c4_22 : (iAnd (α (-1) x3) 63) = 22
    · have h := h.2.2.2.2.2.2.2.2.2.2.2.2.2.2.2.2.2.2.2.2.2.2.1 c4_22
      refine r_tabIn (pc' := 898) 22 c4_22 (kL_law_0 21 rfl) (by decide) (by decide) rfl rfl ?_
      refine r_aload_n (pc' := 899) (kL_law_9 56 rfl) rfl rfl ?_
      refine r_sload_n (pc' := 900) (kL_law_9 57 rfl) rfl rfl ?_
      refine r_iload_n (pc' := 901) (kL_law_9 58 rfl) rfl rfl ?_
      refine r_iconst 1 (pc' := 902) (kL_law_9 59 rfl) rfl (by unfold inR; omega) ?_
      have g178 := h.1
      have h := h.2
      refine r_iadd (pc' := 903) (kL_law_10 0 rfl) rfl g178 ?_
      have g179 := h.1
      have h := h.2
      refine s_sldv (x := (α (-1) (x3 + 1))) (pc' := 904) (kL_law_10 1 rfl) rfl g179 rfl ?_
      refine r_sload_n (pc' := 905) (kL_law_10 2 rfl) rfl rfl ?_
      refine r_iload_n (pc' := 906) (kL_law_10 3 rfl) rfl rfl ?_
      refine r_iconst 2 (pc' := 907) (kL_law_10 4 rfl) rfl (by unfold inR; omega) ?_
      have g180 := h.1
      have h := h.2
      refine r_iadd (pc' := 908) (kL_law_10 5 rfl) rfl g180 ?_
      have g181 := h.1
      have h := h.2
      refine s_sldv (x := (α (-1) (x3 + 2))) (pc' := 909) (kL_law_10 6 rfl) rfl g181 rfl ?_
      refine r_sload_n (pc' := 910) (kL_law_10 7 rfl) rfl rfl ?_
      refine r_iload_n (pc' := 911) (kL_law_10 8 rfl) rfl rfl ?_
      refine r_iconst 3 (pc' := 912) (kL_law_10 9 rfl) rfl (by unfold inR; omega) ?_
      have g182 := h.1
      have h := h.2
      refine r_iadd (pc' := 913) (kL_law_10 10 rfl) rfl g182 ?_
      have g183 := h.1
      have h := h.2
      refine s_sldv (x := (α (-1) (x3 + 3))) (pc' := 914) (kL_law_10 11 rfl) rfl g183 rfl ?_
      refine s_callVs (As := [(0, (α (-1) (x3 + 1))), (0, (α (-1) (x3 + 2))), (0, (α (-1) (x3 + 3)))]) (o := 0) (S := []) (S2 := fun z => [(0, z)]) (pc' := 917) (kL_law_10 12 rfl) rfl rfl nkX10_tell mlL_107 imX10_tell rfl slX10_tell rfl (Nat.le_of_ble_eq_true rfl) (Nat.le_of_ble_eq_true rfl) (kz0 Ln) h (fun z => rfl) (fun r184 φ184 α184 h hs184 => ?_)
      refine r_aload_n (pc' := 918) (kL_law_10 13 rfl) rfl rfl ?_
      refine r_sload_n (pc' := 919) (kL_law_10 14 rfl) rfl rfl ?_
      refine r_iload_n (pc' := 920) (kL_law_10 15 rfl) rfl rfl ?_
      refine r_iconst 1 (pc' := 921) (kL_law_10 16 rfl) rfl (by unfold inR; omega) ?_
      refine r_iadd (pc' := 922) (kL_law_10 17 rfl) rfl g178 ?_
      refine s_sldv (x := (α (-1) (x3 + 1))) (pc' := 923) (kL_law_10 18 rfl) rfl g179 (hs184 _ g179.1 g179.2) ?_
      refine r_sload_n (pc' := 924) (kL_law_10 19 rfl) rfl rfl ?_
      refine r_iload_n (pc' := 925) (kL_law_10 20 rfl) rfl rfl ?_
      refine r_iconst 2 (pc' := 926) (kL_law_10 21 rfl) rfl (by unfold inR; omega) ?_
      refine r_iadd (pc' := 927) (kL_law_10 22 rfl) rfl g180 ?_
      refine s_sldv (x := (α (-1) (x3 + 2))) (pc' := 928) (kL_law_10 23 rfl) rfl g181 (hs184 _ g181.1 g181.2) ?_
      refine r_sload_n (pc' := 929) (kL_law_10 24 rfl) rfl rfl ?_
      refine r_iload_n (pc' := 930) (kL_law_10 25 rfl) rfl rfl ?_
      refine r_iconst 3 (pc' := 931) (kL_law_10 26 rfl) rfl (by unfold inR; omega) ?_
      refine r_iadd (pc' := 932) (kL_law_10 27 rfl) rfl g182 ?_
      refine s_sldv (x := (α (-1) (x3 + 3))) (pc' := 933) (kL_law_10 28 rfl) rfl g183 (hs184 _ g183.1 g183.2) ?_
      refine s_callVs (As := [(0, (α (-1) (x3 + 1))), (0, (α (-1) (x3 + 2))), (0, (α (-1) (x3 + 3)))]) (o := 198) (S := [(0, r184)]) (S2 := fun z => [(0, z), (0, r184)]) (pc' := 936) (kL_law_10 29 rfl) rfl rfl nkX11_tell mlL_110 imX11_tell rfl slX11_tell rfl (Nat.le_of_ble_eq_true rfl) (Nat.le_of_ble_eq_true rfl) (kz198 Ln) h (fun z => rfl) (fun r185 φ185 α185 h hs185 => ?_)
      refine r_icmp_eq (t := 1211) (pc' := 939) (kL_law_10 30 rfl) rfl rfl (fun c186 => ?_) (fun c186 => ?_)
      · have h := h.1 c186
        have g187 := h.1
        have h := h.2
        refine r_iinc (L' := [(4, 0), (2, 0), (2, 198), (0, (x3 + 6))]) (pc' := 1214) (kL_law_13 45 rfl) rfl (Nat.le_of_ble_eq_true rfl) rfl g187 rfl ?_
        refine r_goto (pc' := 18) (kL_law_13 46 rfl) rfl ?_
        exact r_weak (L' := [(4, 0), (2, 0), (2, 198), (0, (x3 + 6))]) ⟨Or.inl rfl, Or.inl rfl, Or.inl rfl, Or.inl rfl, trivial⟩ h
      · have h := h.2 c186
        refine r_iconst 0 (pc' := 940) (kL_law_10 31 rfl) rfl (by unfold inR; omega) ?_
        exact s_zret (kL_law_10 32 rfl) rfl (Or.inl rfl) h
    by_cases c4_23 : (iAnd (α (-1) x3) 63) = 23
    · have h := h.2.2.2.2.2.2.2.2.2.2.2.2.2.2.2.2.2.2.2.2.2.2.2.1 c4_23
      refine r_tabIn (pc' := 941) 23 c4_23 (kL_law_0 21 rfl) (by decide) (by decide) rfl rfl ?_
      refine r_aload_n (pc' := 942) (kL_law_10 33 rfl) rfl rfl ?_
      refine r_sload_n (pc' := 943) (kL_law_10 34 rfl) rfl rfl ?_
      refine r_iload_n (pc' := 944) (kL_law_10 35 rfl) rfl rfl ?_
      refine r_iconst 1 (pc' := 945) (kL_law_10 36 rfl) rfl (by unfold inR; omega) ?_
      have g188 := h.1
      have h := h.2
      refine r_iadd (pc' := 946) (kL_law_10 37 rfl) rfl g188 ?_
      have g189 := h.1
      have h := h.2
      refine s_sldv (x := (α (-1) (x3 + 1))) (pc' := 947) (kL_law_10 38 rfl) rfl g189 rfl ?_
      refine s_callVs (As := [(0, (α (-1) (x3 + 1)))]) (o := 0) (S := []) (S2 := fun z => [(0, z)]) (pc' := 950) (kL_law_10 39 rfl) rfl rfl nkX10_squeeze mlL_111 imX10_squeeze rfl slX10_squeeze rfl (Nat.le_of_ble_eq_true rfl) (Nat.le_of_ble_eq_true rfl) (kz0 Ln) h (fun z => rfl) (fun r190 φ190 α190 h hs190 => ?_)
      refine r_aload_n (pc' := 951) (kL_law_10 40 rfl) rfl rfl ?_
      refine r_sload_n (pc' := 952) (kL_law_10 41 rfl) rfl rfl ?_
      refine r_iload_n (pc' := 953) (kL_law_10 42 rfl) rfl rfl ?_
      refine r_iconst 1 (pc' := 954) (kL_law_10 43 rfl) rfl (by unfold inR; omega) ?_
      refine r_iadd (pc' := 955) (kL_law_10 44 rfl) rfl g188 ?_
      refine s_sldv (x := (α (-1) (x3 + 1))) (pc' := 956) (kL_law_10 45 rfl) rfl g189 (hs190 _ g189.1 g189.2) ?_
      refine s_callVs (As := [(0, (α (-1) (x3 + 1)))]) (o := 198) (S := [(0, r190)]) (S2 := fun z => [(0, z), (0, r190)]) (pc' := 959) (kL_law_10 46 rfl) rfl rfl nkX11_squeeze mlL_114 imX11_squeeze rfl slX11_squeeze rfl (Nat.le_of_ble_eq_true rfl) (Nat.le_of_ble_eq_true rfl) (kz198 Ln) h (fun z => rfl) (fun r191 φ191 α191 h hs191 => ?_)
      refine r_icmp_eq (t := 1211) (pc' := 962) (kL_law_10 47 rfl) rfl rfl (fun c192 => ?_) (fun c192 => ?_)
      · have h := h.1 c192
        have g193 := h.1
        have h := h.2
        refine r_iinc (L' := [(4, 0), (2, 0), (2, 198), (0, (x3 + 6))]) (pc' := 1214) (kL_law_13 45 rfl) rfl (Nat.le_of_ble_eq_true rfl) rfl g193 rfl ?_
        refine r_goto (pc' := 18) (kL_law_13 46 rfl) rfl ?_
        exact r_weak (L' := [(4, 0), (2, 0), (2, 198), (0, (x3 + 6))]) ⟨Or.inl rfl, Or.inl rfl, Or.inl rfl, Or.inl rfl, trivial⟩ h
      · have h := h.2 c192
        refine r_iconst 0 (pc' := 963) (kL_law_10 48 rfl) rfl (by unfold inR; omega) ?_
        exact s_zret (kL_law_10 49 rfl) rfl (Or.inl rfl) h
    by_cases c4_24 : (iAnd (α (-1) x3) 63) = 24
    · have h := h.2.2.2.2.2.2.2.2.2.2.2.2.2.2.2.2.2.2.2.2.2.2.2.2.1 c4_24
      refine r_tabIn (pc' := 964) 24 c4_24 (kL_law_0 21 rfl) (by decide) (by decide) rfl rfl ?_
      refine r_aload_n (pc' := 965) (kL_law_10 50 rfl) rfl rfl ?_
      refine r_sload_n (pc' := 966) (kL_law_10 51 rfl) rfl rfl ?_
      refine r_iload_n (pc' := 967) (kL_law_10 52 rfl) rfl rfl ?_
      refine r_iconst 1 (pc' := 968) (kL_law_10 53 rfl) rfl (by unfold inR; omega) ?_
      have g194 := h.1
      have h := h.2
      refine r_iadd (pc' := 969) (kL_law_10 54 rfl) rfl g194 ?_
      have g195 := h.1
      have h := h.2
      refine s_sldv (x := (α (-1) (x3 + 1))) (pc' := 970) (kL_law_10 55 rfl) rfl g195 rfl ?_
      refine s_callVs (As := [(0, (α (-1) (x3 + 1)))]) (o := 0) (S := []) (S2 := fun z => [(0, z)]) (pc' := 973) (kL_law_10 56 rfl) rfl rfl nkX10_rinse mlL_115 imX10_rinse rfl slX10_rinse rfl (Nat.le_of_ble_eq_true rfl) (Nat.le_of_ble_eq_true rfl) (kz0 Ln) h (fun z => rfl) (fun r196 φ196 α196 h hs196 => ?_)
      refine r_aload_n (pc' := 974) (kL_law_10 57 rfl) rfl rfl ?_
      refine r_sload_n (pc' := 975) (kL_law_10 58 rfl) rfl rfl ?_
      refine r_iload_n (pc' := 976) (kL_law_10 59 rfl) rfl rfl ?_
      refine r_iconst 1 (pc' := 977) (kL_law_11 0 rfl) rfl (by unfold inR; omega) ?_
      refine r_iadd (pc' := 978) (kL_law_11 1 rfl) rfl g194 ?_
      refine s_sldv (x := (α (-1) (x3 + 1))) (pc' := 979) (kL_law_11 2 rfl) rfl g195 (hs196 _ g195.1 g195.2) ?_
      refine s_callVs (As := [(0, (α (-1) (x3 + 1)))]) (o := 198) (S := [(0, r196)]) (S2 := fun z => [(0, z), (0, r196)]) (pc' := 982) (kL_law_11 3 rfl) rfl rfl nkX11_rinse mlL_118 imX11_rinse rfl slX11_rinse rfl (Nat.le_of_ble_eq_true rfl) (Nat.le_of_ble_eq_true rfl) (kz198 Ln) h (fun z => rfl) (fun r197 φ197 α197 h hs197 => ?_)
      refine r_icmp_eq (t := 1211) (pc' := 985) (kL_law_11 4 rfl) rfl rfl (fun c198 => ?_) (fun c198 => ?_)
      · have h := h.1 c198
        have g199 := h.1
        have h := h.2
        refine r_iinc (L' := [(4, 0), (2, 0), (2, 198), (0, (x3 + 6))]) (pc' := 1214) (kL_law_13 45 rfl) rfl (Nat.le_of_ble_eq_true rfl) rfl g199 rfl ?_
        refine r_goto (pc' := 18) (kL_law_13 46 rfl) rfl ?_
        exact r_weak (L' := [(4, 0), (2, 0), (2, 198), (0, (x3 + 6))]) ⟨Or.inl rfl, Or.inl rfl, Or.inl rfl, Or.inl rfl, trivial⟩ h
      · have h := h.2 c198
        refine r_iconst 0 (pc' := 986) (kL_law_11 5 rfl) rfl (by unfold inR; omega) ?_
        exact s_zret (kL_law_11 6 rfl) rfl (Or.inl rfl) h
    by_cases c4_25 : (iAnd (α (-1) x3) 63) = 25
    · have h := h.2.2.2.2.2.2.2.2.2.2.2.2.2.2.2.2.2.2.2.2.2.2.2.2.2.1 c4_25
      refine r_tabIn (pc' := 987) 25 c4_25 (kL_law_0 21 rfl) (by decide) (by decide) rfl rfl ?_
      refine r_aload_n (pc' := 988) (kL_law_11 7 rfl) rfl rfl ?_
      refine r_sload_n (pc' := 989) (kL_law_11 8 rfl) rfl rfl ?_
      refine r_iload_n (pc' := 990) (kL_law_11 9 rfl) rfl rfl ?_
      refine r_iconst 1 (pc' := 991) (kL_law_11 10 rfl) rfl (by unfold inR; omega) ?_
      have g200 := h.1
      have h := h.2
      refine r_iadd (pc' := 992) (kL_law_11 11 rfl) rfl g200 ?_
      have g201 := h.1
      have h := h.2
      refine s_sldv (x := (α (-1) (x3 + 1))) (pc' := 993) (kL_law_11 12 rfl) rfl g201 rfl ?_
      refine s_callVs (As := [(0, (α (-1) (x3 + 1)))]) (o := 0) (S := []) (S2 := fun z => [(0, z)]) (pc' := 996) (kL_law_11 13 rfl) rfl rfl nkX10_mop mlL_119 imX10_mop rfl slX10_mop rfl (Nat.le_of_ble_eq_true rfl) (Nat.le_of_ble_eq_true rfl) (kz0 Ln) h (fun z => rfl) (fun r202 φ202 α202 h hs202 => ?_)
      refine r_aload_n (pc' := 997) (kL_law_11 14 rfl) rfl rfl ?_
      refine r_sload_n (pc' := 998) (kL_law_11 15 rfl) rfl rfl ?_
      refine r_iload_n (pc' := 999) (kL_law_11 16 rfl) rfl rfl ?_
      refine r_iconst 1 (pc' := 1000) (kL_law_11 17 rfl) rfl (by unfold inR; omega) ?_
      refine r_iadd (pc' := 1001) (kL_law_11 18 rfl) rfl g200 ?_
      refine s_sldv (x := (α (-1) (x3 + 1))) (pc' := 1002) (kL_law_11 19 rfl) rfl g201 (hs202 _ g201.1 g201.2) ?_
      refine s_callVs (As := [(0, (α (-1) (x3 + 1)))]) (o := 198) (S := [(0, r202)]) (S2 := fun z => [(0, z), (0, r202)]) (pc' := 1005) (kL_law_11 20 rfl) rfl rfl nkX11_mop mlL_122 imX11_mop rfl slX11_mop rfl (Nat.le_of_ble_eq_true rfl) (Nat.le_of_ble_eq_true rfl) (kz198 Ln) h (fun z => rfl) (fun r203 φ203 α203 h hs203 => ?_)
      refine r_icmp_eq (t := 1211) (pc' := 1008) (kL_law_11 21 rfl) rfl rfl (fun c204 => ?_) (fun c204 => ?_)
      · have h := h.1 c204
        have g205 := h.1
        have h := h.2
        refine r_iinc (L' := [(4, 0), (2, 0), (2, 198), (0, (x3 + 6))]) (pc' := 1214) (kL_law_13 45 rfl) rfl (Nat.le_of_ble_eq_true rfl) rfl g205 rfl ?_
        refine r_goto (pc' := 18) (kL_law_13 46 rfl) rfl ?_
        exact r_weak (L' := [(4, 0), (2, 0), (2, 198), (0, (x3 + 6))]) ⟨Or.inl rfl, Or.inl rfl, Or.inl rfl, Or.inl rfl, trivial⟩ h
      · have h := h.2 c204
        refine r_iconst 0 (pc' := 1009) (kL_law_11 22 rfl) rfl (by unfold inR; omega) ?_
        exact s_zret (kL_law_11 23 rfl) rfl (Or.inl rfl) h
    by_cases c4_26 : (iAnd (α (-1) x3) 63) = 26
    · have h := h.2.2.2.2.2.2.2.2.2.2.2.2.2.2.2.2.2.2.2.2.2.2.2.2.2.2.1 c4_26
      refine r_tabIn (pc' := 1010) 26 c4_26 (kL_law_0 21 rfl) (by decide) (by decide) rfl rfl ?_
      refine r_aload_n (pc' := 1011) (kL_law_11 24 rfl) rfl rfl ?_
      refine r_sload_n (pc' := 1012) (kL_law_11 25 rfl) rfl rfl ?_
      refine r_iload_n (pc' := 1013) (kL_law_11 26 rfl) rfl rfl ?_
      refine r_iconst 1 (pc' := 1014) (kL_law_11 27 rfl) rfl (by unfold inR; omega) ?_
      have g206 := h.1
      have h := h.2
      refine r_iadd (pc' := 1015) (kL_law_11 28 rfl) rfl g206 ?_
      have g207 := h.1
      have h := h.2
      refine s_sldv (x := (α (-1) (x3 + 1))) (pc' := 1016) (kL_law_11 29 rfl) rfl g207 rfl ?_
      refine r_sload_n (pc' := 1017) (kL_law_11 30 rfl) rfl rfl ?_
      refine r_iload_n (pc' := 1018) (kL_law_11 31 rfl) rfl rfl ?_
      refine r_iconst 2 (pc' := 1019) (kL_law_11 32 rfl) rfl (by unfold inR; omega) ?_
      have g208 := h.1
      have h := h.2
      refine r_iadd (pc' := 1020) (kL_law_11 33 rfl) rfl g208 ?_
      have g209 := h.1
      have h := h.2
      refine s_sldv (x := (α (-1) (x3 + 2))) (pc' := 1021) (kL_law_11 34 rfl) rfl g209 rfl ?_
      refine s_callVs (As := [(0, (α (-1) (x3 + 1))), (0, (α (-1) (x3 + 2)))]) (o := 0) (S := []) (S2 := fun z => [(0, z)]) (pc' := 1024) (kL_law_11 35 rfl) rfl rfl nkX10_change mlL_123 imX10_change rfl slX10_change rfl (Nat.le_of_ble_eq_true rfl) (Nat.le_of_ble_eq_true rfl) (kz0 Ln) h (fun z => rfl) (fun r210 φ210 α210 h hs210 => ?_)
      refine r_aload_n (pc' := 1025) (kL_law_11 36 rfl) rfl rfl ?_
      refine r_sload_n (pc' := 1026) (kL_law_11 37 rfl) rfl rfl ?_
      refine r_iload_n (pc' := 1027) (kL_law_11 38 rfl) rfl rfl ?_
      refine r_iconst 1 (pc' := 1028) (kL_law_11 39 rfl) rfl (by unfold inR; omega) ?_
      refine r_iadd (pc' := 1029) (kL_law_11 40 rfl) rfl g206 ?_
      refine s_sldv (x := (α (-1) (x3 + 1))) (pc' := 1030) (kL_law_11 41 rfl) rfl g207 (hs210 _ g207.1 g207.2) ?_
      refine r_sload_n (pc' := 1031) (kL_law_11 42 rfl) rfl rfl ?_
      refine r_iload_n (pc' := 1032) (kL_law_11 43 rfl) rfl rfl ?_
      refine r_iconst 2 (pc' := 1033) (kL_law_11 44 rfl) rfl (by unfold inR; omega) ?_
      refine r_iadd (pc' := 1034) (kL_law_11 45 rfl) rfl g208 ?_
      refine s_sldv (x := (α (-1) (x3 + 2))) (pc' := 1035) (kL_law_11 46 rfl) rfl g209 (hs210 _ g209.1 g209.2) ?_
      refine s_callVs (As := [(0, (α (-1) (x3 + 1))), (0, (α (-1) (x3 + 2)))]) (o := 198) (S := [(0, r210)]) (S2 := fun z => [(0, z), (0, r210)]) (pc' := 1038) (kL_law_11 47 rfl) rfl rfl nkX11_change mlL_127 imX11_change rfl slX11_change rfl (Nat.le_of_ble_eq_true rfl) (Nat.le_of_ble_eq_true rfl) (kz198 Ln) h (fun z => rfl) (fun r211 φ211 α211 h hs211 => ?_)
      refine r_icmp_eq (t := 1211) (pc' := 1041) (kL_law_11 48 rfl) rfl rfl (fun c212 => ?_) (fun c212 => ?_)
      · have h := h.1 c212
        have g213 := h.1
        have h := h.2
        refine r_iinc (L' := [(4, 0), (2, 0), (2, 198), (0, (x3 + 6))]) (pc' := 1214) (kL_law_13 45 rfl) rfl (Nat.le_of_ble_eq_true rfl) rfl g213 rfl ?_
        refine r_goto (pc' := 18) (kL_law_13 46 rfl) rfl ?_
        exact r_weak (L' := [(4, 0), (2, 0), (2, 198), (0, (x3 + 6))]) ⟨Or.inl rfl, Or.inl rfl, Or.inl rfl, Or.inl rfl, trivial⟩ h
      · have h := h.2 c212
        refine r_iconst 0 (pc' := 1042) (kL_law_11 49 rfl) rfl (by unfold inR; omega) ?_
        exact s_zret (kL_law_11 50 rfl) rfl (Or.inl rfl) h
    by_cases c4_27 : (iAnd (α (-1) x3) 63) = 27
    · have h := h.2.2.2.2.2.2.2.2.2.2.2.2.2.2.2.2.2.2.2.2.2.2.2.2.2.2.2.1 c4_27
      refine r_tabIn (pc' := 1043) 27 c4_27 (kL_law_0 21 rfl) (by decide) (by decide) rfl rfl ?_
      refine r_aload_n (pc' := 1044) (kL_law_11 51 rfl) rfl rfl ?_
      refine r_sload_n (pc' := 1045) (kL_law_11 52 rfl) rfl rfl ?_
      refine r_iload_n (pc' := 1046) (kL_law_11 53 rfl) rfl rfl ?_
      refine r_iconst 1 (pc' := 1047) (kL_law_11 54 rfl) rfl (by unfold inR; omega) ?_
      have g214 := h.1
      have h := h.2
      refine r_iadd (pc' := 1048) (kL_law_11 55 rfl) rfl g214 ?_
      have g215 := h.1
      have h := h.2
      refine s_sldv (x := (α (-1) (x3 + 1))) (pc' := 1049) (kL_law_11 56 rfl) rfl g215 rfl ?_
      refine s_callVs (As := [(0, (α (-1) (x3 + 1)))]) (o := 0) (S := []) (S2 := fun z => [(0, z)]) (pc' := 1052) (kL_law_11 57 rfl) rfl rfl nkX10_days mlL_128 imX10_days rfl slX10_days rfl (Nat.le_of_ble_eq_true rfl) (Nat.le_of_ble_eq_true rfl) (kz0 Ln) h (fun z => rfl) (fun r216 φ216 α216 h hs216 => ?_)
      refine r_aload_n (pc' := 1053) (kL_law_11 58 rfl) rfl rfl ?_
      refine r_sload_n (pc' := 1054) (kL_law_11 59 rfl) rfl rfl ?_
      refine r_iload_n (pc' := 1055) (kL_law_12 0 rfl) rfl rfl ?_
      refine r_iconst 1 (pc' := 1056) (kL_law_12 1 rfl) rfl (by unfold inR; omega) ?_
      refine r_iadd (pc' := 1057) (kL_law_12 2 rfl) rfl g214 ?_
      refine s_sldv (x := (α (-1) (x3 + 1))) (pc' := 1058) (kL_law_12 3 rfl) rfl g215 (hs216 _ g215.1 g215.2) ?_
      refine s_callVs (As := [(0, (α (-1) (x3 + 1)))]) (o := 198) (S := [(0, r216)]) (S2 := fun z => [(0, z), (0, r216)]) (pc' := 1061) (kL_law_12 4 rfl) rfl rfl nkX11_days mlL_131 imX11_days rfl slX11_days rfl (Nat.le_of_ble_eq_true rfl) (Nat.le_of_ble_eq_true rfl) (kz198 Ln) h (fun z => rfl) (fun r217 φ217 α217 h hs217 => ?_)
      refine r_icmp_eq (t := 1211) (pc' := 1064) (kL_law_12 5 rfl) rfl rfl (fun c218 => ?_) (fun c218 => ?_)
      · have h := h.1 c218
        have g219 := h.1
        have h := h.2
        refine r_iinc (L' := [(4, 0), (2, 0), (2, 198), (0, (x3 + 6))]) (pc' := 1214) (kL_law_13 45 rfl) rfl (Nat.le_of_ble_eq_true rfl) rfl g219 rfl ?_
        refine r_goto (pc' := 18) (kL_law_13 46 rfl) rfl ?_
        exact r_weak (L' := [(4, 0), (2, 0), (2, 198), (0, (x3 + 6))]) ⟨Or.inl rfl, Or.inl rfl, Or.inl rfl, Or.inl rfl, trivial⟩ h
      · have h := h.2 c218
        refine r_iconst 0 (pc' := 1065) (kL_law_12 6 rfl) rfl (by unfold inR; omega) ?_
        exact s_zret (kL_law_12 7 rfl) rfl (Or.inl rfl) h
    by_cases c4_28 : (iAnd (α (-1) x3) 63) = 28
    · have h := h.2.2.2.2.2.2.2.2.2.2.2.2.2.2.2.2.2.2.2.2.2.2.2.2.2.2.2.2.1 c4_28
      refine r_tabIn (pc' := 1066) 28 c4_28 (kL_law_0 21 rfl) (by decide) (by decide) rfl rfl ?_
      refine r_aload_n (pc' := 1067) (kL_law_12 8 rfl) rfl rfl ?_
      refine r_sload_n (pc' := 1068) (kL_law_12 9 rfl) rfl rfl ?_
      refine r_iload_n (pc' := 1069) (kL_law_12 10 rfl) rfl rfl ?_
      refine r_iconst 1 (pc' := 1070) (kL_law_12 11 rfl) rfl (by unfold inR; omega) ?_
      have g220 := h.1
      have h := h.2
      refine r_iadd (pc' := 1071) (kL_law_12 12 rfl) rfl g220 ?_
      have g221 := h.1
      have h := h.2
      refine s_sldv (x := (α (-1) (x3 + 1))) (pc' := 1072) (kL_law_12 13 rfl) rfl g221 rfl ?_
      refine s_callVs (As := [(0, (α (-1) (x3 + 1)))]) (o := 0) (S := []) (S2 := fun z => [(0, z)]) (pc' := 1075) (kL_law_12 14 rfl) rfl rfl nkX10_chance mlL_132 imX10_chance rfl slX10_chance rfl (Nat.le_of_ble_eq_true rfl) (Nat.le_of_ble_eq_true rfl) (kz0 Ln) h (fun z => rfl) (fun r222 φ222 α222 h hs222 => ?_)
      refine r_aload_n (pc' := 1076) (kL_law_12 15 rfl) rfl rfl ?_
      refine r_sload_n (pc' := 1077) (kL_law_12 16 rfl) rfl rfl ?_
      refine r_iload_n (pc' := 1078) (kL_law_12 17 rfl) rfl rfl ?_
      refine r_iconst 1 (pc' := 1079) (kL_law_12 18 rfl) rfl (by unfold inR; omega) ?_
      refine r_iadd (pc' := 1080) (kL_law_12 19 rfl) rfl g220 ?_
      refine s_sldv (x := (α (-1) (x3 + 1))) (pc' := 1081) (kL_law_12 20 rfl) rfl g221 (hs222 _ g221.1 g221.2) ?_
      refine s_callVs (As := [(0, (α (-1) (x3 + 1)))]) (o := 198) (S := [(0, r222)]) (S2 := fun z => [(0, z), (0, r222)]) (pc' := 1084) (kL_law_12 21 rfl) rfl rfl nkX11_chance mlL_135 imX11_chance rfl slX11_chance rfl (Nat.le_of_ble_eq_true rfl) (Nat.le_of_ble_eq_true rfl) (kz198 Ln) h (fun z => rfl) (fun r223 φ223 α223 h hs223 => ?_)
      refine r_icmp_eq (t := 1211) (pc' := 1087) (kL_law_12 22 rfl) rfl rfl (fun c224 => ?_) (fun c224 => ?_)
      · have h := h.1 c224
        have g225 := h.1
        have h := h.2
        refine r_iinc (L' := [(4, 0), (2, 0), (2, 198), (0, (x3 + 6))]) (pc' := 1214) (kL_law_13 45 rfl) rfl (Nat.le_of_ble_eq_true rfl) rfl g225 rfl ?_
        refine r_goto (pc' := 18) (kL_law_13 46 rfl) rfl ?_
        exact r_weak (L' := [(4, 0), (2, 0), (2, 198), (0, (x3 + 6))]) ⟨Or.inl rfl, Or.inl rfl, Or.inl rfl, Or.inl rfl, trivial⟩ h
      · have h := h.2 c224
        refine r_iconst 0 (pc' := 1088) (kL_law_12 23 rfl) rfl (by unfold inR; omega) ?_
        exact s_zret (kL_law_12 24 rfl) rfl (Or.inl rfl) h
    by_cases c4_29 : (iAnd (α (-1) x3) 63) = 29
    · have h := h.2.2.2.2.2.2.2.2.2.2.2.2.2.2.2.2.2.2.2.2.2.2.2.2.2.2.2.2.2.1 c4_29
      refine r_tabIn (pc' := 1089) 29 c4_29 (kL_law_0 21 rfl) (by decide) (by decide) rfl rfl ?_
      refine r_aload_n (pc' := 1090) (kL_law_12 25 rfl) rfl rfl ?_
      refine s_callVs (As := []) (o := 0) (S := []) (S2 := fun z => [(0, z)]) (pc' := 1093) (kL_law_12 26 rfl) rfl rfl nkX10_undo mlL_136 imX10_undo rfl slX10_undo rfl (Nat.le_of_ble_eq_true rfl) (Nat.le_of_ble_eq_true rfl) (kz0 Ln) h (fun z => rfl) (fun r226 φ226 α226 h hs226 => ?_)
      refine r_aload_n (pc' := 1094) (kL_law_12 27 rfl) rfl rfl ?_
      refine s_callVs (As := []) (o := 198) (S := [(0, r226)]) (S2 := fun z => [(0, z), (0, r226)]) (pc' := 1097) (kL_law_12 28 rfl) rfl rfl nkX11_undo mlL_140 imX11_undo rfl slX11_undo rfl (Nat.le_of_ble_eq_true rfl) (Nat.le_of_ble_eq_true rfl) (kz198 Ln) h (fun z => rfl) (fun r227 φ227 α227 h hs227 => ?_)
      refine r_icmp_eq (t := 1211) (pc' := 1100) (kL_law_12 29 rfl) rfl rfl (fun c228 => ?_) (fun c228 => ?_)
      · have h := h.1 c228
        have g229 := h.1
        have h := h.2
        refine r_iinc (L' := [(4, 0), (2, 0), (2, 198), (0, (x3 + 6))]) (pc' := 1214) (kL_law_13 45 rfl) rfl (Nat.le_of_ble_eq_true rfl) rfl g229 rfl ?_
        refine r_goto (pc' := 18) (kL_law_13 46 rfl) rfl ?_
        exact r_weak (L' := [(4, 0), (2, 0), (2, 198), (0, (x3 + 6))]) ⟨Or.inl rfl, Or.inl rfl, Or.inl rfl, Or.inl rfl, trivial⟩ h
      · have h := h.2 c228
        refine r_iconst 0 (pc' := 1101) (kL_law_12 30 rfl) rfl (by unfold inR; omega) ?_
        exact s_zret (kL_law_12 31 rfl) rfl (Or.inl rfl) h
    by_cases c4_30 : (iAnd (α (-1) x3) 63) = 30
    · have h := h.2.2.2.2.2.2.2.2.2.2.2.2.2.2.2.2.2.2.2.2.2.2.2.2.2.2.2.2.2.2.1 c4_30
      refine r_tabIn (pc' := 1102) 30 c4_30 (kL_law_0 21 rfl) (by decide) (by decide) rfl rfl ?_
      refine r_aload_n (pc' := 1103) (kL_law_12 32 rfl) rfl rfl ?_
      refine r_sload_n (pc' := 1104) (kL_law_12 33 rfl) rfl rfl ?_
      refine r_iload_n (pc' := 1105) (kL_law_12 34 rfl) rfl rfl ?_
      refine r_iconst 1 (pc' := 1106) (kL_law_12 35 rfl) rfl (by unfold inR; omega) ?_
      have g230 := h.1
      have h := h.2
      refine r_iadd (pc' := 1107) (kL_law_12 36 rfl) rfl g230 ?_
      have g231 := h.1
      have h := h.2
      refine s_sldv (x := (α (-1) (x3 + 1))) (pc' := 1108) (kL_law_12 37 rfl) rfl g231 rfl ?_
      refine s_callVs (As := [(0, (α (-1) (x3 + 1)))]) (o := 0) (S := []) (S2 := fun z => [(0, z)]) (pc' := 1111) (kL_law_12 38 rfl) rfl rfl nkX10_seed mlL_141 imX10_seed rfl slX10_seed rfl (Nat.le_of_ble_eq_true rfl) (Nat.le_of_ble_eq_true rfl) (kz0 Ln) h (fun z => rfl) (fun r232 φ232 α232 h hs232 => ?_)
      refine r_aload_n (pc' := 1112) (kL_law_12 39 rfl) rfl rfl ?_
      refine r_sload_n (pc' := 1113) (kL_law_12 40 rfl) rfl rfl ?_
      refine r_iload_n (pc' := 1114) (kL_law_12 41 rfl) rfl rfl ?_
      refine r_iconst 1 (pc' := 1115) (kL_law_12 42 rfl) rfl (by unfold inR; omega) ?_
      refine r_iadd (pc' := 1116) (kL_law_12 43 rfl) rfl g230 ?_
      refine s_sldv (x := (α (-1) (x3 + 1))) (pc' := 1117) (kL_law_12 44 rfl) rfl g231 (hs232 _ g231.1 g231.2) ?_
      refine s_callVs (As := [(0, (α (-1) (x3 + 1)))]) (o := 198) (S := [(0, r232)]) (S2 := fun z => [(0, z), (0, r232)]) (pc' := 1120) (kL_law_12 45 rfl) rfl rfl nkX11_seed mlL_144 imX11_seed rfl slX11_seed rfl (Nat.le_of_ble_eq_true rfl) (Nat.le_of_ble_eq_true rfl) (kz198 Ln) h (fun z => rfl) (fun r233 φ233 α233 h hs233 => ?_)
      refine r_icmp_eq (t := 1211) (pc' := 1123) (kL_law_12 46 rfl) rfl rfl (fun c234 => ?_) (fun c234 => ?_)
      · have h := h.1 c234
        have g235 := h.1
        have h := h.2
        refine r_iinc (L' := [(4, 0), (2, 0), (2, 198), (0, (x3 + 6))]) (pc' := 1214) (kL_law_13 45 rfl) rfl (Nat.le_of_ble_eq_true rfl) rfl g235 rfl ?_
        refine r_goto (pc' := 18) (kL_law_13 46 rfl) rfl ?_
        exact r_weak (L' := [(4, 0), (2, 0), (2, 198), (0, (x3 + 6))]) ⟨Or.inl rfl, Or.inl rfl, Or.inl rfl, Or.inl rfl, trivial⟩ h
      · have h := h.2 c234
        refine r_iconst 0 (pc' := 1124) (kL_law_12 47 rfl) rfl (by unfold inR; omega) ?_
        exact s_zret (kL_law_12 48 rfl) rfl (Or.inl rfl) h
    by_cases c4_31 : (iAnd (α (-1) x3) 63) = 31
    · have h := h.2.2.2.2.2.2.2.2.2.2.2.2.2.2.2.2.2.2.2.2.2.2.2.2.2.2.2.2.2.2.2.1 c4_31
      refine r_tabIn (pc' := 1125) 31 c4_31 (kL_law_0 21 rfl) (by decide) (by decide) rfl rfl ?_
      refine r_aload_n (pc' := 1126) (kL_law_12 49 rfl) rfl rfl ?_
      refine s_callVs (As := []) (o := 0) (S := []) (S2 := fun z => [(1, z)]) (pc' := 1129) (kL_law_12 50 rfl) rfl rfl nkX10_ask mlL_145 imX10_ask rfl slX10_ask rfl (Nat.le_of_ble_eq_true rfl) (Nat.le_of_ble_eq_true rfl) (kz0 Ln) h (fun z => rfl) (fun r236 φ236 α236 h hs236 => ?_)
      refine r_aload_n (pc' := 1130) (kL_law_12 51 rfl) rfl rfl ?_
      refine s_callVs (As := []) (o := 198) (S := [(1, r236)]) (S2 := fun z => [(1, z), (1, r236)]) (pc' := 1133) (kL_law_12 52 rfl) rfl rfl nkX11_ask mlL_149 imX11_ask rfl slX11_ask rfl (Nat.le_of_ble_eq_true rfl) (Nat.le_of_ble_eq_true rfl) (kz198 Ln) h (fun z => rfl) (fun r237 φ237 α237 h hs237 => ?_)
      refine r_lcmp (pc' := 1134) (kL_law_12 53 rfl) rfl ?_
      refine r_if_eq (t := 1211) (pc' := 1137) (kL_law_12 54 rfl) rfl rfl (fun c238 => ?_) (fun c238 => ?_)
      · have h := h.1 c238
        have g239 := h.1
        have h := h.2
        refine r_iinc (L' := [(4, 0), (2, 0), (2, 198), (0, (x3 + 6))]) (pc' := 1214) (kL_law_13 45 rfl) rfl (Nat.le_of_ble_eq_true rfl) rfl g239 rfl ?_
        refine r_goto (pc' := 18) (kL_law_13 46 rfl) rfl ?_
        exact r_weak (L' := [(4, 0), (2, 0), (2, 198), (0, (x3 + 6))]) ⟨Or.inl rfl, Or.inl rfl, Or.inl rfl, Or.inl rfl, trivial⟩ h
      · have h := h.2 c238
        refine r_iconst 0 (pc' := 1138) (kL_law_12 55 rfl) rfl (by unfold inR; omega) ?_
        exact s_zret (kL_law_12 56 rfl) rfl (Or.inl rfl) h
    by_cases c4_32 : (iAnd (α (-1) x3) 63) = 32
    · have h := h.2.2.2.2.2.2.2.2.2.2.2.2.2.2.2.2.2.2.2.2.2.2.2.2.2.2.2.2.2.2.2.2.1 c4_32
      refine r_tabIn (pc' := 1139) 32 c4_32 (kL_law_0 21 rfl) (by decide) (by decide) rfl rfl ?_
      refine r_aload_n (pc' := 1140) (kL_law_12 57 rfl) rfl rfl ?_
      refine s_callVs (As := []) (o := 0) (S := []) (S2 := fun z => [(0, z)]) (pc' := 1143) (kL_law_12 58 rfl) rfl rfl nkX10_image mlL_150 imX10_image rfl slX10_image rfl (Nat.le_of_ble_eq_true rfl) (Nat.le_of_ble_eq_true rfl) (kz0 Ln) h (fun z => rfl) (fun r240 φ240 α240 h hs240 => ?_)
      refine r_aload_n (pc' := 1144) (kL_law_12 59 rfl) rfl rfl ?_
      refine s_callVs (As := []) (o := 198) (S := [(0, r240)]) (S2 := fun z => [(0, z), (0, r240)]) (pc' := 1147) (kL_law_13 0 rfl) rfl rfl nkX11_image mlL_153 imX11_image rfl slX11_image rfl (Nat.le_of_ble_eq_true rfl) (Nat.le_of_ble_eq_true rfl) (kz198 Ln) h (fun z => rfl) (fun r241 φ241 α241 h hs241 => ?_)
      refine r_icmp_eq (t := 1211) (pc' := 1150) (kL_law_13 1 rfl) rfl rfl (fun c242 => ?_) (fun c242 => ?_)
      · have h := h.1 c242
        have g243 := h.1
        have h := h.2
        refine r_iinc (L' := [(4, 0), (2, 0), (2, 198), (0, (x3 + 6))]) (pc' := 1214) (kL_law_13 45 rfl) rfl (Nat.le_of_ble_eq_true rfl) rfl g243 rfl ?_
        refine r_goto (pc' := 18) (kL_law_13 46 rfl) rfl ?_
        exact r_weak (L' := [(4, 0), (2, 0), (2, 198), (0, (x3 + 6))]) ⟨Or.inl rfl, Or.inl rfl, Or.inl rfl, Or.inl rfl, trivial⟩ h
      · have h := h.2 c242
        refine r_iconst 0 (pc' := 1151) (kL_law_13 2 rfl) rfl (by unfold inR; omega) ?_
        exact s_zret (kL_law_13 3 rfl) rfl (Or.inl rfl) h
    by_cases c4_33 : (iAnd (α (-1) x3) 63) = 33
    · have h := h.2.2.2.2.2.2.2.2.2.2.2.2.2.2.2.2.2.2.2.2.2.2.2.2.2.2.2.2.2.2.2.2.2.1 c4_33
      refine r_tabIn (pc' := 1152) 33 c4_33 (kL_law_0 21 rfl) (by decide) (by decide) rfl rfl ?_
      refine r_aload_n (pc' := 1153) (kL_law_13 4 rfl) rfl rfl ?_
      refine r_sload_n (pc' := 1154) (kL_law_13 5 rfl) rfl rfl ?_
      refine r_iload_n (pc' := 1155) (kL_law_13 6 rfl) rfl rfl ?_
      refine r_iconst 1 (pc' := 1156) (kL_law_13 7 rfl) rfl (by unfold inR; omega) ?_
      have g244 := h.1
      have h := h.2
      refine r_iadd (pc' := 1157) (kL_law_13 8 rfl) rfl g244 ?_
      have g245 := h.1
      have h := h.2
      refine s_sldv (x := (α (-1) (x3 + 1))) (pc' := 1158) (kL_law_13 9 rfl) rfl g245 rfl ?_
      refine s_callVs (As := [(0, (α (-1) (x3 + 1)))]) (o := 0) (S := []) (S2 := fun z => [(0, z)]) (pc' := 1161) (kL_law_13 10 rfl) rfl rfl nkX10_octet mlL_154 imX10_octet rfl slX10_octet rfl (Nat.le_of_ble_eq_true rfl) (Nat.le_of_ble_eq_true rfl) (kz0 Ln) h (fun z => rfl) (fun r246 φ246 α246 h hs246 => ?_)
      refine r_aload_n (pc' := 1162) (kL_law_13 11 rfl) rfl rfl ?_
      refine r_sload_n (pc' := 1163) (kL_law_13 12 rfl) rfl rfl ?_
      refine r_iload_n (pc' := 1164) (kL_law_13 13 rfl) rfl rfl ?_
      refine r_iconst 1 (pc' := 1165) (kL_law_13 14 rfl) rfl (by unfold inR; omega) ?_
      refine r_iadd (pc' := 1166) (kL_law_13 15 rfl) rfl g244 ?_
      refine s_sldv (x := (α (-1) (x3 + 1))) (pc' := 1167) (kL_law_13 16 rfl) rfl g245 (hs246 _ g245.1 g245.2) ?_
      refine s_callVs (As := [(0, (α (-1) (x3 + 1)))]) (o := 198) (S := [(0, r246)]) (S2 := fun z => [(0, z), (0, r246)]) (pc' := 1170) (kL_law_13 17 rfl) rfl rfl nkX11_octet mlL_157 imX11_octet rfl slX11_octet rfl (Nat.le_of_ble_eq_true rfl) (Nat.le_of_ble_eq_true rfl) (kz198 Ln) h (fun z => rfl) (fun r247 φ247 α247 h hs247 => ?_)
      refine r_icmp_eq (t := 1211) (pc' := 1173) (kL_law_13 18 rfl) rfl rfl (fun c248 => ?_) (fun c248 => ?_)
      · have h := h.1 c248
        have g249 := h.1
        have h := h.2
        refine r_iinc (L' := [(4, 0), (2, 0), (2, 198), (0, (x3 + 6))]) (pc' := 1214) (kL_law_13 45 rfl) rfl (Nat.le_of_ble_eq_true rfl) rfl g249 rfl ?_
        refine r_goto (pc' := 18) (kL_law_13 46 rfl) rfl ?_
        exact r_weak (L' := [(4, 0), (2, 0), (2, 198), (0, (x3 + 6))]) ⟨Or.inl rfl, Or.inl rfl, Or.inl rfl, Or.inl rfl, trivial⟩ h
      · have h := h.2 c248
        refine r_iconst 0 (pc' := 1174) (kL_law_13 19 rfl) rfl (by unfold inR; omega) ?_
        exact s_zret (kL_law_13 20 rfl) rfl (Or.inl rfl) h
    by_cases c4_34 : (iAnd (α (-1) x3) 63) = 34
    · have h := h.2.2.2.2.2.2.2.2.2.2.2.2.2.2.2.2.2.2.2.2.2.2.2.2.2.2.2.2.2.2.2.2.2.2.1 c4_34
      refine r_tabIn (pc' := 1175) 34 c4_34 (kL_law_0 21 rfl) (by decide) (by decide) rfl rfl ?_
      refine r_aload_n (pc' := 1176) (kL_law_13 21 rfl) rfl rfl ?_
      refine s_callVs (As := []) (o := 0) (S := []) (S2 := fun z => [(0, z)]) (pc' := 1179) (kL_law_13 22 rfl) rfl rfl nkX10_on mlL_158 imX10_on rfl slX10_on rfl (Nat.le_of_ble_eq_true rfl) (Nat.le_of_ble_eq_true rfl) (kz0 Ln) h (fun z => rfl) (fun r250 φ250 α250 h hs250 => ?_)
      refine r_aload_n (pc' := 1180) (kL_law_13 23 rfl) rfl rfl ?_
      refine s_callVs (As := []) (o := 198) (S := [(0, r250)]) (S2 := fun z => [(0, z), (0, r250)]) (pc' := 1183) (kL_law_13 24 rfl) rfl rfl nkX11_on mlL_161 imX11_on rfl slX11_on rfl (Nat.le_of_ble_eq_true rfl) (Nat.le_of_ble_eq_true rfl) (kz198 Ln) h (fun z => rfl) (fun r251 φ251 α251 h hs251 => ?_)
      refine r_icmp_eq (t := 1211) (pc' := 1186) (kL_law_13 25 rfl) rfl rfl (fun c252 => ?_) (fun c252 => ?_)
      · have h := h.1 c252
        have g253 := h.1
        have h := h.2
        refine r_iinc (L' := [(4, 0), (2, 0), (2, 198), (0, (x3 + 6))]) (pc' := 1214) (kL_law_13 45 rfl) rfl (Nat.le_of_ble_eq_true rfl) rfl g253 rfl ?_
        refine r_goto (pc' := 18) (kL_law_13 46 rfl) rfl ?_
        exact r_weak (L' := [(4, 0), (2, 0), (2, 198), (0, (x3 + 6))]) ⟨Or.inl rfl, Or.inl rfl, Or.inl rfl, Or.inl rfl, trivial⟩ h
      · have h := h.2 c252
        refine r_iconst 0 (pc' := 1187) (kL_law_13 26 rfl) rfl (by unfold inR; omega) ?_
        exact s_zret (kL_law_13 27 rfl) rfl (Or.inl rfl) h
    by_cases c4_35 : (iAnd (α (-1) x3) 63) = 35
    · have h := h.2.2.2.2.2.2.2.2.2.2.2.2.2.2.2.2.2.2.2.2.2.2.2.2.2.2.2.2.2.2.2.2.2.2.2.1 c4_35
      refine r_tabIn (pc' := 1188) 35 c4_35 (kL_law_0 21 rfl) (by decide) (by decide) rfl rfl ?_
      refine r_aload_n (pc' := 1189) (kL_law_13 28 rfl) rfl rfl ?_
      refine r_sload_n (pc' := 1190) (kL_law_13 29 rfl) rfl rfl ?_
      refine r_iload_n (pc' := 1191) (kL_law_13 30 rfl) rfl rfl ?_
      refine r_iconst 1 (pc' := 1192) (kL_law_13 31 rfl) rfl (by unfold inR; omega) ?_
      have g254 := h.1
      have h := h.2
      refine r_iadd (pc' := 1193) (kL_law_13 32 rfl) rfl g254 ?_
      have g255 := h.1
      have h := h.2
      refine s_sldv (x := (α (-1) (x3 + 1))) (pc' := 1194) (kL_law_13 33 rfl) rfl g255 rfl ?_
      refine s_callVs (As := [(0, (α (-1) (x3 + 1)))]) (o := 0) (S := []) (S2 := fun z => [(0, z)]) (pc' := 1197) (kL_law_13 34 rfl) rfl rfl nkX10_status mlL_162 imX10_status rfl slX10_status rfl (Nat.le_of_ble_eq_true rfl) (Nat.le_of_ble_eq_true rfl) (kz0 Ln) h (fun z => rfl) (fun r256 φ256 α256 h hs256 => ?_)
      refine r_aload_n (pc' := 1198) (kL_law_13 35 rfl) rfl rfl ?_
      refine r_sload_n (pc' := 1199) (kL_law_13 36 rfl) rfl rfl ?_
      refine r_iload_n (pc' := 1200) (kL_law_13 37 rfl) rfl rfl ?_
      refine r_iconst 1 (pc' := 1201) (kL_law_13 38 rfl) rfl (by unfold inR; omega) ?_
      refine r_iadd (pc' := 1202) (kL_law_13 39 rfl) rfl g254 ?_
      refine s_sldv (x := (α (-1) (x3 + 1))) (pc' := 1203) (kL_law_13 40 rfl) rfl g255 (hs256 _ g255.1 g255.2) ?_
      refine s_callVs (As := [(0, (α (-1) (x3 + 1)))]) (o := 198) (S := [(0, r256)]) (S2 := fun z => [(0, z), (0, r256)]) (pc' := 1206) (kL_law_13 41 rfl) rfl rfl nkX11_status mlL_165 imX11_status rfl slX11_status rfl (Nat.le_of_ble_eq_true rfl) (Nat.le_of_ble_eq_true rfl) (kz198 Ln) h (fun z => rfl) (fun r257 φ257 α257 h hs257 => ?_)
      refine r_icmp_eq (t := 1211) (pc' := 1209) (kL_law_13 42 rfl) rfl rfl (fun c258 => ?_) (fun c258 => ?_)
      · have h := h.1 c258
        have g259 := h.1
        have h := h.2
        refine r_iinc (L' := [(4, 0), (2, 0), (2, 198), (0, (x3 + 6))]) (pc' := 1214) (kL_law_13 45 rfl) rfl (Nat.le_of_ble_eq_true rfl) rfl g259 rfl ?_
        refine r_goto (pc' := 18) (kL_law_13 46 rfl) rfl ?_
        exact r_weak (L' := [(4, 0), (2, 0), (2, 198), (0, (x3 + 6))]) ⟨Or.inl rfl, Or.inl rfl, Or.inl rfl, Or.inl rfl, trivial⟩ h
      · have h := h.2 c258
        refine r_iconst 0 (pc' := 1210) (kL_law_13 43 rfl) rfl (by unfold inR; omega) ?_
        exact s_zret (kL_law_13 44 rfl) rfl (Or.inl rfl) h
    have hD := hD ⟨c4_0, c4_1, c4_2, c4_3, c4_4, c4_5, c4_6, c4_7, c4_8, c4_9, c4_10, c4_11, c4_12, c4_13, c4_14, c4_15, c4_16, c4_17, c4_18, c4_19, c4_20, c4_21, c4_22, c4_23, c4_24, c4_25, c4_26, c4_27, c4_28, c4_29, c4_30, c4_31, c4_32, c4_33, c4_34, c4_35⟩
    exact r_tabOut (pc' := 1211) (kL_law_0 21 rfl) (by omega) rfl hD
