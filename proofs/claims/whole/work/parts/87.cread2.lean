section CR2
variable {d N p f o k : Nat} {φ φ' φ0 φ1 φ2 : aF} {α α' α1 α2 : aA} {Q : Int → aF → aA → Prop} {r tg v e w s : Int} {T : Int → Int} {L c : List Int}
theorem c_isNumber (P : PS T N r tg φ α p e L) (h1 : (kdF T N p = 2 ∧ e ≠ p) → nxF T N p - p ≤ 4 → Q 1 φ α) (h0 : ¬ (kdF T N p = 2 ∧ e ≠ p) → ∀ φ', fx r φ α φ' α → φ' 5 5 185 = 1 → φ' 5 6 185 = p → Q 0 φ' α) (h2 : (kdF T N p = 2 ∧ e ≠ p) → ¬ nxF T N p - p ≤ 4 → ∀ φ', fx r φ α φ' α → φ' 5 5 185 = 1 → φ' 5 6 185 = (p : Int) + 4 → Q 0 φ' α) : eX5_isNumber (d + 2) φ α Q := by
  have t := P.1
  have nb := nx_bd (T := T) P.2.2.2.2.2.2
  have hN := P.2.1.1
  refine vX5_isNumber_0 ⟨fun q => vX8_length_0 ?_, fun q => c_unfit P.1 (h0 (fun z => q ((tok2 t).mpr z)))⟩
  rw [t.1, t.2.2.2.2]
  refine ⟨by unfold inR; omega, fun q2 => h1 ((tok2 t).mp q) (by omega), fun q2 => ⟨by unfold inR; omega, ?_⟩⟩
  refine vX5_refuse_0 ⟨fun _ => h2 ((tok2 t).mp q) (by omega) _ fx_e (by rw [upf_o (by omega), upf_s]) upf_s, fun z => absurd rfl z⟩
theorem vl_num (hp : p ≤ N) (hk : kdF T N p = 2) : 0 ≤ vlF T N p ∧ vlF T N p ≤ 9999 := by
  obtain ⟨a1, a2⟩ := nx_all (Or.inr hk)
  have nb := nx_bd (T := T) hp
  unfold vlF
  rw [if_neg (by omega), if_pos hk]
  have vb := vn_bd (T := T) (p := p) (m := min 4 (nxF T N p - p)) (fun i hi => by
    have k' := a1 (p + i) (by omega) (by omega)
    have b' := kdB_bd (T ((p + i : Nat) : Int))
    omega)
  have p4 : (10 : Nat) ^ (min 4 (nxF T N p - p)) ≤ 10 ^ 4 := Nat.pow_le_pow_right (by omega) (by omega)
  omega
theorem c_rd (hr : r = 7 ∨ r = 25 ∨ r = 27) : ∀ (f lv : Nat), lv ≤ 9 → CC T N r tg f lv
  | 0, lv, hlv => fun d o p k e L φ α ho hd hf P hL hk => by have := rkF_le lv; omega
  | f + 1, lv, hlv => by
    intro d o p k e L φ α ho hd hf P hL hk Q hQ1 hQ2
    have IH := fun lv h => c_rd hr f lv h
    have he := P.2.2.2.2.2.1
    have hp := P.2.2.2.2.2.2
    have hN := P.2.1.1
    have t := P.1
    have ab := av_bd (T := T) hp
    have dl := drF_le lv
    obtain ⟨d, rfl⟩ : ∃ d', d = d' + 10 := ⟨d - 10, by omega⟩
    rw [show rd T N tg (f + 1) lv o p e = rs T N tg (rd T N tg f) lv o p e from rfl] at hQ1 hQ2
    rcases (show lv = 0 ∨ lv = 1 ∨ lv = 2 ∨ lv = 3 ∨ lv = 4 ∨ lv = 5 ∨ lv = 6 ∨ lv = 7 ∨ lv = 8 ∨ lv = 9 by omega) with rfl | rfl | rfl | rfl | rfl | rfl | rfl | rfl | rfl | rfl
    · have hd : 10 * (7 - o) + 6 ≤ d + 10 := hd
      have hf : 12 * (N - p) + 10 ≤ f + 1 := hf
      have := cc_two (d := d + 10) (l1 := 1) (l2 := 6) (by omega) (IH 6 (by omega)) ho P hL (by omega) hd rfl hQ1 hQ2 (IH 1 (by omega) (d + 9) o p 0 e L φ α ho (by show 10 * (7 - o) + 5 ≤ d + 9; omega) (by show 12 * (N - p) + 9 ≤ f; omega) P hL (by omega))
      exact vX5_readTest_0 this
    · have hd : 10 * (7 - o) + 5 ≤ d + 10 := hd
      have hf : 12 * (N - p) + 9 ≤ f + 1 := hf
      have := cc_two (d := d + 10) (l1 := 2) (l2 := 7) (by omega) (IH 7 (by omega)) ho P hL (by omega) hd rfl hQ1 hQ2 (IH 2 (by omega) (d + 9) o p 0 e L φ α ho (by show 10 * (7 - o) + 4 ≤ d + 9; omega) (by show 12 * (N - p) + 8 ≤ f; omega) P hL (by omega))
      exact vX5_readBoth_0 this
    · -- FACT
      have hd : 10 * (7 - o) + 4 ≤ d + 10 := hd
      have hf : 12 * (N - p) + 8 ≤ f + 1 := hf
      rw [show rs T N tg (rd T N tg f) 2 o p e = rFact T N (rd T N tg f) o p e from rfl] at hQ1 hQ2
      unfold rFact at hQ1 hQ2
      show eX5_readFact (d + 10) o φ α Q
      refine vX5_readFact_0 (c_isWord t ?_)
      by_cases q1 : isW T N p e 21
      · rw [if_pos q1] at hQ1 hQ2 ⊢
        have ap := ab.2.2 (by rw [q1.1]; omega)
        refine ⟨fun z => by omega, fun _ => c_putP hr P (by omega) (fun φ1 α1 f1 P1 => c_scanP P1 (by rw [q1.1]; omega) (fun _ => q1.2.1) (fun φ2 f2 P2 => hQ2 _ _ [21] φ2 α1 rfl (f1.tr (fx_8 f2)) P2))⟩
      · rw [if_neg q1] at hQ1 hQ2 ⊢
        refine ⟨fun _ => c_isWord t ?_, fun z => absurd rfl z⟩
        by_cases q2 : isW T N p e 20
        · rw [if_pos q2] at hQ1 hQ2 ⊢
          have ap := ab.2.2 (by rw [q2.1]; omega)
          refine ⟨fun z => by omega, fun _ => c_takeOpening P (by rw [q2.1]; omega) (fun _ => q2.2.1) (fun h6 φ1 f1 P1 => ⟨fun z => by omega, fun _ => ⟨by unfold inR; omega, ?_⟩⟩) (fun h6 φ1 f1 g1 g2 => ⟨fun _ => hQ1 4 p φ1 α (by rw [if_pos h6]) f1 g1 g2, fun z => absurd rfl z⟩)⟩
          rw [if_neg (by omega)] at hQ1 hQ2
          have := IH 2 (by omega) (d + 9) (o + 1) (avF T N p) 0 (edF T N p e) L φ1 α (by omega) (by show 10 * (7 - (o + 1)) + 4 ≤ d + 9; omega) (by show 12 * (N - avF T N p) + 8 ≤ f; omega) P1 (by omega) (by omega) (fun r42 φ42 α42 => ((¬ r42 = 0 → isRow (φ42 5 3 185) 1600 ∧ (eX6_put (d + 9) (φ42 5 3 185) 20 φ42 α42 (fun r45 φ45 α45 => (Q 1 φ45 α45)))) ∧ (r42 = 0 → (Q 0 φ42 α42)))) (fun kk pl φ2 α2 x2 f2 g1 g2 => ⟨fun z => absurd rfl z, fun _ => hQ1 kk pl φ2 α2 (by rw [bnd_er x2]) ((fx_8 f1).tr f2) g1 g2⟩) (fun p1 e1 c1 φ2 α2 x2 f2 P2 => ⟨fun _ => by
            have pg := rd_PG f 2 _ _ _ _ P1.2.2.2.2.2.1 P1.2.2.2.2.2.2 x2
            have b1 := pg.2.2.1
            have b3 := pg.1
            dsimp only at b1 b3
            exact c_putP hr P2 (by rw [List.length_append]; omega) (fun φ3 α3 f3 P3 => hQ2 p1 e1 (c1 ++ [20]) φ3 α3 (by rw [bnd_ok x2]) (((fx_8 f1).tr f2).tr f3) (by rw [← List.append_assoc]; exact P3)), fun z => by omega⟩)
          exact this
        · rw [if_neg q2] at hQ1 hQ2 ⊢
          refine ⟨fun _ => c_isSign t ?_, fun z => absurd rfl z⟩
          by_cases q3 : isS T N p 91
          · rw [if_pos q3] at hQ1 hQ2 ⊢
            have ap := ab.2.2 (by rw [q3.1]; omega)
            refine ⟨fun z => by omega, fun _ => c_takeOpening P (by rw [q3.1]; omega) (by rw [q3.1]; omega) (fun h6 φ1 f1 P1 => ⟨fun z => by omega, fun _ => ⟨by unfold inR; omega, ?_⟩⟩) (fun h6 φ1 f1 g1 g2 => ⟨fun _ => hQ1 4 p φ1 α (by rw [if_pos h6]) f1 g1 g2, fun z => absurd rfl z⟩)⟩
            rw [if_neg (by omega)] at hQ1 hQ2
            have := IH 0 (by omega) (d + 9) (o + 1) (avF T N p) 0 (edF T N p e) L φ1 α (by omega) (by show 10 * (7 - (o + 1)) + 6 ≤ d + 9; omega) (by show 12 * (N - avF T N p) + 10 ≤ f; omega) P1 (by omega) (by omega) (fun r35 φ35 α35 => ((r35 = 0 → (Q 0 φ35 α35)) ∧ (¬ (r35 = 0) → (eX5_takeSign (d + 9) 93 φ35 α35 (fun r37 φ37 α37 => ((r37 = 0 → (Q 0 φ37 α37)) ∧ (¬ (r37 = 0) → (Q 1 φ37 α37))))))) ) (fun kk pl φ2 α2 x2 f2 g1 g2 => ⟨fun _ => hQ1 kk pl φ2 α2 (by rw [bnd_er x2]) ((fx_8 f1).tr f2) g1 g2, fun z => absurd rfl z⟩) (fun p1 e1 c1 φ2 α2 x2 f2 P2 => ⟨fun z => by omega, fun _ => c_takeSign P2 (fun hs φ3 f3 P3 => ⟨fun z => by omega, fun _ => hQ2 _ _ c1 φ3 α2 (by rw [bnd_ok x2]; unfold rEnd; rw [if_pos hs]) (((fx_8 f1).tr f2).tr (fx_8 f3)) P3⟩) (fun hs φ3 f3 g1 g2 => ⟨fun _ => hQ1 1 p1 φ3 α2 (by rw [bnd_ok x2]; unfold rEnd; rw [if_neg hs]) (((fx_8 f1).tr f2).tr f3) g1 g2, fun z => absurd rfl z⟩)⟩)
            exact this
          · rw [if_neg q3] at hQ1 hQ2 ⊢
            refine ⟨fun _ => ?_, fun z => absurd rfl z⟩
            have second : ∀ (p1 : Nat) (e1 : Int) (c1 : List Int) (φ2 : aF) (α2 : aA) (s : Int), rd T N tg f 3 o p e = .ok (p1, e1, c1) → fx r φ α φ2 α2 → PS T N r tg φ2 α2 p1 e1 (L ++ c1) → isS T N p1 s → (isS T N p1 60 ∨ isS T N p1 62 ∨ isS T N p1 61) → (eX8_scan (d + 9) φ2 α2 (fun r11 φ11 α11 => (eX5_readSum (d + 9) o φ11 α11 (fun r12 φ12 α12 => ((¬ r12 = 0 → isRow (φ12 5 3 185) 1600 ∧ (eX6_put (d + 9) (φ12 5 3 185) (φ2 8 4 186) φ12 α12 (fun r15 φ15 α15 => (Q 1 φ15 α15)))) ∧ (r12 = 0 → (Q 0 φ12 α12))))))) := by
              intro p1 e1 c1 φ2 α2 s x1 f2 P2 hs hs3
              have pg := rd_PG f 3 _ _ _ _ he hp x1
              have b1 := pg.2.2.1
              have b2 := pg.2.2.2 (by omega)
              have b3 := pg.1
              dsimp only at b1 b2 b3
              have a1 := av_bd (T := T) b3
              have ap1 := a1.2.2 (by rw [hs.1]; omega)
              have v4 : φ2 8 4 186 = T p1 := by rw [P2.1.2.2.2.1, vl3 hs.1]
              rw [v4]
              refine c_scanP P2 (by rw [hs.1]; omega) (by rw [hs.1]; omega) (fun φ3 f3 P3 => ?_)
              have := IH 3 (by omega) (d + 9) o (avF T N p1) 0 (edF T N p1 e1) (L ++ c1) φ3 α2 ho (by show 10 * (7 - o) + 3 ≤ d + 9; omega) (by show 12 * (N - avF T N p1) + 7 ≤ f; omega) P3 (by rw [List.length_append]; omega) (by omega) (fun r12 φ12 α12 => ((¬ r12 = 0 → isRow (φ12 5 3 185) 1600 ∧ (eX6_put (d + 9) (φ12 5 3 185) (T p1) φ12 α12 (fun r15 φ15 α15 => (Q 1 φ15 α15)))) ∧ (r12 = 0 → (Q 0 φ12 α12)))) (fun kk pl φ4 α4 x4 f4 g1 g2 => ⟨fun z => absurd rfl z, fun _ => hQ1 kk pl φ4 α4 (by rw [bnd_ok x1, if_pos hs3, bnd_er x4]) ((f2.tr (fx_8 f3)).tr f4) g1 g2⟩) (fun p2 e2 c2 φ4 α4 x4 f4 P4 => ⟨fun _ => by
                have pg2 := rd_PG f 3 _ _ _ _ P3.2.2.2.2.2.1 P3.2.2.2.2.2.2 x4
                have b4 := pg2.2.2.1
                have b5 := pg2.1
                dsimp only at b4 b5
                refine c_putP hr P4 (by rw [List.length_append, List.length_append]; omega) (fun φ5 α5 f5 P5 => hQ2 p2 e2 ((c1 ++ c2) ++ [T p1]) φ5 α5 (by rw [bnd_ok x1, if_pos hs3, bnd_ok x4]) (((f2.tr (fx_8 f3)).tr f4).tr f5) ?_)
                rw [show L ++ ((c1 ++ c2) ++ [T p1]) = ((L ++ c1) ++ c2) ++ [T p1] by simp]
                exact P5, fun z => by omega⟩)
              exact this
            have := IH 3 (by omega) (d + 9) o p 0 e L φ α ho (by show 10 * (7 - o) + 3 ≤ d + 9; omega) (by show 12 * (N - p) + 7 ≤ f; omega) P hL (by omega)
            refine this _ (fun kk pl φ2 α2 x2 f2 g1 g2 => ⟨fun z => absurd rfl z, fun _ => hQ1 kk pl φ2 α2 (by rw [bnd_er x2]) f2 g1 g2⟩) (fun p1 e1 c1 φ2 α2 x2 f2 P2 => ⟨fun _ => c_isSign P2.1 ?_, fun z => by omega⟩)
            by_cases s1 : isS T N p1 60
            · rw [if_pos s1]
              exact ⟨fun _ => second p1 e1 c1 φ2 α2 60 x2 f2 P2 s1 (Or.inl s1), fun z => by omega⟩
            · rw [if_neg s1]
              refine ⟨fun z => absurd rfl z, fun _ => c_isSign P2.1 ?_⟩
              by_cases s2 : isS T N p1 62
              · rw [if_pos s2]
                exact ⟨fun _ => second p1 e1 c1 φ2 α2 62 x2 f2 P2 s2 (Or.inr (Or.inl s2)), fun z => by omega⟩
              · rw [if_neg s2]
                refine ⟨fun z => absurd rfl z, fun _ => c_isSign P2.1 ?_⟩
                by_cases s3 : isS T N p1 61
                · rw [if_pos s3]
                  exact ⟨fun _ => second p1 e1 c1 φ2 α2 61 x2 f2 P2 s3 (Or.inr (Or.inr s3)), fun z => by omega⟩
                · rw [if_neg s3]
                  exact ⟨fun z => absurd rfl z, fun _ => c_unfit P2.1 (fun φ3 f3 g1 g2 => hQ1 1 p1 φ3 α2 (by rw [bnd_ok x2, if_neg (by rintro (w | w | w) <;> contradiction)]) (f2.tr f3) g1 g2)⟩
    · have hd : 10 * (7 - o) + 3 ≤ d + 10 := hd
      have hf : 12 * (N - p) + 7 ≤ f + 1 := hf
      have := cc_two (d := d + 10) (l1 := 4) (l2 := 8) (by omega) (IH 8 (by omega)) ho P hL (by omega) hd rfl hQ1 hQ2 (IH 4 (by omega) (d + 9) o p 0 e L φ α ho (by show 10 * (7 - o) + 2 ≤ d + 9; omega) (by show 12 * (N - p) + 6 ≤ f; omega) P hL (by omega))
      exact vX5_readSum_0 this
    · have hd : 10 * (7 - o) + 2 ≤ d + 10 := hd
      have hf : 12 * (N - p) + 6 ≤ f + 1 := hf
      have := cc_two (d := d + 10) (l1 := 5) (l2 := 9) (by omega) (IH 9 (by omega)) ho P hL (by omega) hd rfl hQ1 hQ2 (IH 5 (by omega) (d + 9) o p 0 e L φ α ho (by show 10 * (7 - o) + 1 ≤ d + 9; omega) (by show 12 * (N - p) + 5 ≤ f; omega) P hL (by omega))
      exact vX5_readProduct_0 this
    · -- PART
      have hd : 10 * (7 - o) + 1 ≤ d + 10 := hd
      have hf : 12 * (N - p) + 5 ≤ f + 1 := hf
      rw [show rs T N tg (rd T N tg f) 5 o p e = rPart T N tg (rd T N tg f) o p e from rfl] at hQ1 hQ2
      unfold rPart at hQ1 hQ2
      show eX5_readPart (d + 10) o φ α Q
      have t2 := tok2 t
      have t1 := tok1 t
      have w3 := t.2.2.1
      refine vX5_readPart_0 ⟨fun q1 => c_isSign t ?_, fun q1 => vX5_readLiteral_0 (c_isNumber P (fun k1 k2 => ⟨fun _ => ?_, fun z => by omega⟩) (fun k1 => absurd (t2.mp q1) k1) (fun k1 k2 φ1 f1 g1 g2 => ⟨fun z => absurd rfl z, fun _ => ⟨Or.inl rfl, hQ1 1 _ φ1 α (by rw [if_pos k1, if_neg k2]) f1 g1 g2⟩⟩))⟩
      · -- no number
        have nq1 : ¬ (kdF T N p = 2 ∧ e ≠ p) := fun z => q1 (t2.mpr z)
        rw [if_neg nq1] at hQ1 hQ2
        by_cases q2 : isS T N p 40
        · rw [if_pos q2] at hQ1 hQ2 ⊢
          have ap := ab.2.2 (by rw [q2.1]; omega)
          refine ⟨fun z => by omega, fun _ => c_takeOpening P (by rw [q2.1]; omega) (by rw [q2.1]; omega) (fun h6 φ1 f1 P1 => ⟨fun z => by omega, fun _ => ⟨by unfold inR; omega, ?_⟩⟩) (fun h6 φ1 f1 g1 g2 => ⟨fun _ => hQ1 4 p φ1 α (by rw [if_pos h6]) f1 g1 g2, fun z => absurd rfl z⟩)⟩
          rw [if_neg (by omega)] at hQ1 hQ2
          have := IH 3 (by omega) (d + 9) (o + 1) (avF T N p) 0 (edF T N p e) L φ1 α (by omega) (by show 10 * (7 - (o + 1)) + 3 ≤ d + 9; omega) (by show 12 * (N - avF T N p) + 7 ≤ f; omega) P1 (by omega) (by omega) (fun r35 φ35 α35 => ((r35 = 0 → (Q 0 φ35 α35)) ∧ (¬ (r35 = 0) → (eX5_takeSign (d + 9) 41 φ35 α35 (fun r37 φ37 α37 => ((r37 = 0 → (Q 0 φ37 α37)) ∧ (¬ (r37 = 0) → (Q 1 φ37 α37))))))) ) (fun kk pl φ2 α2 x2 f2 g1 g2 => ⟨fun _ => hQ1 kk pl φ2 α2 (by rw [bnd_er x2]) ((fx_8 f1).tr f2) g1 g2, fun z => absurd rfl z⟩) (fun p1 e1 c1 φ2 α2 x2 f2 P2 => ⟨fun z => by omega, fun _ => c_takeSign P2 (fun hs φ3 f3 P3 => ⟨fun z => by omega, fun _ => hQ2 _ _ c1 φ3 α2 (by rw [bnd_ok x2]; unfold rEnd; rw [if_pos hs]) (((fx_8 f1).tr f2).tr (fx_8 f3)) P3⟩) (fun hs φ3 f3 g1 g2 => ⟨fun _ => hQ1 1 p1 φ3 α2 (by rw [bnd_ok x2]; unfold rEnd; rw [if_neg hs]) (((fx_8 f1).tr f2).tr f3) g1 g2, fun z => absurd rfl z⟩)⟩)
          exact this
        · rw [if_neg q2] at hQ1 hQ2 ⊢
          refine ⟨fun _ => ⟨fun q3 => ?_, fun q3 => c_unfit t (fun φ1 f1 g1 g2 => hQ1 1 p φ1 α (by rw [if_pos (fun z => q3 (t1.mpr z))]) f1 g1 g2)⟩, fun z => absurd rfl z⟩
          have k1 := t1.mp q3
          have ap := ab.2.2 (by rw [k1.1]; omega)
          rw [if_neg (fun z => z k1)] at hQ1 hQ2
          rw [w3]
          -- one word: it is its own code
          have word : (¬ (wdF T N p = 22 ∨ wdF T N p = 23)) → (¬ (tg = 26 ∧ (wdF T N p = 13 ∨ wdF T N p = 15))) → eX5_isSpoken (d + 9) (wdF T N p) φ α (fun r10 φ10 α10 => ((¬ r10 = 0 → isRow (φ10 5 3 185) 1600 ∧ (eX6_put (d + 9) (φ10 5 3 185) (wdF T N p) φ10 α10 (fun r13 φ13 α13 => (eX8_scan (d + 9) φ13 α13 (fun r14 φ14 α14 => (Q 1 φ14 α14)))))) ∧ (r10 = 0 → (eX5_unfit (d + 9) φ10 α10 (fun r15 φ15 α15 => (r15 = 0 ∨ r15 = 1) ∧ (Q r15 φ15 α15)))))) := by
            intro n1 n2
            rw [if_neg n1, if_neg n2] at hQ1 hQ2
            have yes : spk tg (wdF T N p) → ((¬ (1 : Int) = 0 → isRow (φ 5 3 185) 1600 ∧ (eX6_put (d + 9) (φ 5 3 185) (wdF T N p) φ α (fun r13 φ13 α13 => (eX8_scan (d + 9) φ13 α13 (fun r14 φ14 α14 => (Q 1 φ14 α14)))))) ∧ ((1 : Int) = 0 → (eX5_unfit (d + 9) φ α (fun r15 φ15 α15 => (r15 = 0 ∨ r15 = 1) ∧ (Q r15 φ15 α15))))) := fun hs => ⟨fun _ => c_putP hr P (by omega) (fun φ1 α1 f1 P1 => c_scanP P1 (by rw [k1.1]; omega) (fun _ => k1.2) (fun φ2 f2 P2 => hQ2 _ _ [wdF T N p] φ2 α1 (by rw [if_pos hs]) (f1.tr (fx_8 f2)) P2)), fun z => by omega⟩
            have no : ¬ spk tg (wdF T N p) → ((¬ (0 : Int) = 0 → isRow (φ 5 3 185) 1600 ∧ (eX6_put (d + 9) (φ 5 3 185) (wdF T N p) φ α (fun r13 φ13 α13 => (eX8_scan (d + 9) φ13 α13 (fun r14 φ14 α14 => (Q 1 φ14 α14)))))) ∧ ((0 : Int) = 0 → (eX5_unfit (d + 9) φ α (fun r15 φ15 α15 => (r15 = 0 ∨ r15 = 1) ∧ (Q r15 φ15 α15))))) := fun hs => ⟨fun z => absurd rfl z, fun _ => c_unfit t (fun φ1 f1 g1 g2 => hQ1 1 p φ1 α (by rw [if_neg hs]) f1 g1 g2)⟩
            have g4 := P.2.2.2.1
            refine vX5_isSpoken_0 ?_
            rw [g4]
            refine ⟨fun z => ⟨fun z2 => no (by omega), fun z2 => yes (by omega)⟩, fun z => yes (by omega), fun z => yes (by omega), fun z => yes (by omega), fun z => yes (by omega), fun z => ⟨fun z2 => no (by omega), fun z2 => yes (by omega)⟩, fun z => ⟨fun z2 => no (by omega), fun z2 => yes (by omega)⟩, fun z => ⟨fun z2 => no (by omega), fun z2 => yes (by omega)⟩, fun z => ⟨fun z2 => no (by omega), fun z2 => yes (by omega)⟩, fun z => ⟨fun z2 => no (by omega), fun z2 => yes (by omega)⟩, fun z => no (by omega)⟩
          -- min, max
          have pair : (wdF T N p = 22 ∨ wdF T N p = 23) → eX5_readPair (d + 9) (wdF T N p) o φ α (fun r6 φ6 α6 => (r6 = 0 ∨ r6 = 1) ∧ (Q r6 φ6 α6)) := by
            intro hw
            rw [if_pos hw] at hQ1 hQ2
            unfold rPair at hQ1 hQ2
            have a1 := av_bd (T := T) ab.2.1
            refine vX5_readPair_0 (c_scanP P (by rw [k1.1]; omega) (fun _ => k1.2) (fun φ1 f1 P1 => c_isSign P1.1 ?_))
            by_cases s1 : isS T N (avF T N p) 40
            · rw [if_pos s1] at hQ1 hQ2 ⊢
              have ap1 := a1.2.2 (by rw [s1.1]; omega)
              refine ⟨fun _ => c_takeOpening P1 (by rw [s1.1]; omega) (by rw [s1.1]; omega) (fun h6 φ2 f2 P2 => ⟨fun z => by omega, fun _ => ⟨by unfold inR; omega, ?_⟩⟩) (fun h6 φ2 f2 g1 g2 => ⟨fun _ => ⟨Or.inl rfl, hQ1 4 _ φ2 α (by rw [if_pos h6]) ((fx_8 f1).tr f2) g1 g2⟩, fun z => absurd rfl z⟩), fun z => by omega⟩
              rw [if_neg (by omega)] at hQ1 hQ2
              refine IH 3 (by omega) (d + 8) (o + 1) (avF T N (avF T N p)) 0 (edF T N (avF T N p) (edF T N p e)) L φ2 α (by omega) (by show 10 * (7 - (o + 1)) + 3 ≤ d + 8; omega) (by show 12 * (N - avF T N (avF T N p)) + 7 ≤ f; omega) P2 (by omega) (by omega) _ (fun kk pl φ3 α3 x3 f3 g1 g2 => ⟨fun _ => ⟨Or.inl rfl, hQ1 kk pl φ3 α3 (by rw [bnd_er x3]) (((fx_8 f1).tr (fx_8 f2)).tr f3) g1 g2⟩, fun z => absurd rfl z⟩) (fun p1 e1 c1 φ3 α3 x3 f3 P3 => ⟨fun z => by omega, fun _ => c_takeSign P3 (fun hs φ4 f4 P4 => ⟨fun z => by omega, fun _ => ?_⟩) (fun hs φ4 f4 g1 g2 => ⟨fun _ => ⟨Or.inl rfl, hQ1 1 p1 φ4 α3 (by rw [bnd_ok x3, if_neg hs]) ((((fx_8 f1).tr (fx_8 f2)).tr f3).tr f4) g1 g2⟩, fun z => absurd rfl z⟩)⟩)
              have pg := rd_PG f 3 _ _ _ _ P2.2.2.2.2.2.1 P2.2.2.2.2.2.2 x3
              have b1 := pg.2.2.1
              have b2 := pg.2.2.2 (by omega)
              have b3 := pg.1
              dsimp only at b1 b2 b3
              have a2 := av_bd (T := T) b3
              have ap2 := a2.2.2 (by rw [hs.1]; omega)
              refine IH 3 (by omega) (d + 8) (o + 1) (avF T N p1) 0 (edF T N p1 e1) (L ++ c1) φ4 α3 (by omega) (by show 10 * (7 - (o + 1)) + 3 ≤ d + 8; omega) (by show 12 * (N - avF T N p1) + 7 ≤ f; omega) P4 (by rw [List.length_append]; omega) (by omega) _ (fun kk pl φ5 α5 x5 f5 g1 g2 => ⟨fun _ => ⟨Or.inl rfl, hQ1 kk pl φ5 α5 (by rw [bnd_ok x3, if_pos hs, bnd_er x5]) (((((fx_8 f1).tr (fx_8 f2)).tr f3).tr (fx_8 f4)).tr f5) g1 g2⟩, fun z => absurd rfl z⟩) (fun p2 e2 c2 φ5 α5 x5 f5 P5 => ⟨fun z => by omega, fun _ => c_takeSign P5 (fun hs2 φ6 f6 P6 => ⟨fun z => by omega, fun _ => ?_⟩) (fun hs2 φ6 f6 g1 g2 => ⟨fun _ => ⟨Or.inl rfl, hQ1 1 p2 φ6 α5 (by rw [bnd_ok x3, if_pos hs, bnd_ok x5]; unfold rEnd; rw [if_neg hs2]) ((((((fx_8 f1).tr (fx_8 f2)).tr f3).tr (fx_8 f4)).tr f5).tr f6) g1 g2⟩, fun z => absurd rfl z⟩)⟩)
              have pg2 := rd_PG f 3 _ _ _ _ P4.2.2.2.2.2.1 P4.2.2.2.2.2.2 x5
              have b4 := pg2.2.2.1
              have b5 := pg2.1
              dsimp only at b4 b5
              refine c_putP hr P6 (by rw [List.length_append, List.length_append]; omega) (fun φ7 α7 f7 P7 => ⟨Or.inr rfl, hQ2 _ _ ((c1 ++ c2) ++ [wdF T N p]) φ7 α7 (by rw [bnd_ok x3, if_pos hs, bnd_ok x5]; unfold rEnd; rw [if_pos hs2]) (((((((fx_8 f1).tr (fx_8 f2)).tr f3).tr (fx_8 f4)).tr f5).tr (fx_8 f6)).tr f7) ?_⟩)
              rw [show L ++ ((c1 ++ c2) ++ [wdF T N p]) = ((L ++ c1) ++ c2) ++ [wdF T N p] by simp]
              exact P7
            · rw [if_neg s1] at hQ1 hQ2 ⊢
              exact ⟨fun z => absurd rfl z, fun _ => c_unfit P1.1 (fun φ2 f2 g1 g2 => ⟨Or.inl rfl, hQ1 1 _ φ2 α rfl ((fx_8 f1).tr f2) g1 g2⟩)⟩
          -- drops, off
          have ofp : ∀ cell : Int, tg = 26 → (¬ (wdF T N p = 22 ∨ wdF T N p = 23)) → (wdF T N p = 13 ∨ wdF T N p = 15) → cell = (if wdF T N p = 13 then 30 else 31) → eX5_readOfPart (d + 9) cell o φ α (fun r18 φ18 α18 => (r18 = 0 ∨ r18 = 1) ∧ (Q r18 φ18 α18)) := by
            intro cell htg n1 hw hc
            rw [if_neg n1, if_pos ⟨htg, hw⟩, ← hc] at hQ1 hQ2
            refine vX5_readOfPart_0 (c_takeOpening P (by rw [k1.1]; omega) (fun _ => k1.2) (fun h6 φ1 f1 P1 => ⟨fun z => by omega, fun _ => ⟨by unfold inR; omega, ?_⟩⟩) (fun h6 φ1 f1 g1 g2 => ⟨fun _ => ⟨Or.inl rfl, hQ1 4 p φ1 α (by rw [if_pos h6]) f1 g1 g2⟩, fun z => absurd rfl z⟩))
            rw [if_neg (by omega)] at hQ1 hQ2
            refine IH 5 (by omega) (d + 8) (o + 1) (avF T N p) 0 (edF T N p e) L φ1 α (by omega) (by show 10 * (7 - (o + 1)) + 1 ≤ d + 8; omega) (by show 12 * (N - avF T N p) + 5 ≤ f; omega) P1 (by omega) (by omega) _ (fun kk pl φ2 α2 x2 f2 g1 g2 => ⟨fun z => absurd rfl z, fun _ => ⟨Or.inl rfl, hQ1 kk pl φ2 α2 (by rw [bnd_er x2]) ((fx_8 f1).tr f2) g1 g2⟩⟩) (fun p1 e1 c1 φ2 α2 x2 f2 P2 => ⟨fun _ => ?_, fun z => by omega⟩)
            have pg := rd_PG f 5 _ _ _ _ P1.2.2.2.2.2.1 P1.2.2.2.2.2.2 x2
            have b1 := pg.2.2.1
            have b3 := pg.1
            dsimp only at b1 b3
            exact c_putP hr P2 (by rw [List.length_append]; omega) (fun φ3 α3 f3 P3 => ⟨Or.inr rfl, hQ2 p1 e1 (c1 ++ [cell]) φ3 α3 (by rw [bnd_ok x2]) (((fx_8 f1).tr f2).tr f3) (by rw [← List.append_assoc]; exact P3)⟩)
          rw [P.2.2.2.1]
          refine ⟨fun z => pair (Or.inl z), fun z => ⟨fun z2 => ⟨fun z3 => word (by omega) (by omega), fun z3 => ⟨fun z4 => ofp 30 z3 (by omega) (Or.inl z4) (by rw [if_pos z4]), fun z4 => ⟨fun z5 => word (by omega) (by omega), fun z5 => ⟨fun z6 => ofp 31 z3 (by omega) (Or.inr z5) (by rw [if_neg z6]), fun z6 => absurd z6 z4⟩⟩⟩⟩, fun z2 => pair (Or.inr z2)⟩⟩
      · -- a number
        have vb := vl_num hp k1.1
        rw [if_pos k1, if_pos k2] at hQ1 hQ2
        have ap := ab.2.2 (by rw [k1.1]; omega)
        rw [t.2.2.2.1]
        have := c_putP (d := d + 8) (v := 1000 + vlF T N p) (Q := fun r5 φ5 α5 => (eX8_scan (d + 8) φ5 α5 (fun r6 φ6 α6 => ((1 : Int) = 0 ∨ (1 : Int) = 1) ∧ (Q 1 φ6 α6)))) hr P (by omega) (fun φ1 α1 f1 P1 => c_scanP P1 (by rw [k1.1]; omega) (fun _ => k1.2) (fun φ2 f2 P2 => ⟨Or.inr rfl, hQ2 _ _ [1000 + vlF T N p] φ2 α1 rfl (f1.tr (fx_8 f2)) P2⟩))
        exact ⟨this.1, by unfold inR; omega, this.2⟩
    · have hd : 10 * (7 - o) + 6 ≤ d + 10 := hd
      have hf : 12 * (N - p) + 11 ≤ f + 1 := hf
      show jX5_readTest_12 (d + 10) o k φ α Q
      rw [show rs T N tg (rd T N tg f) 6 o p e = (if isW T N p e 18 then rLo T N (rd T N tg f) 1 6 o p e 18 else .ok (p, e, [])) from rfl] at hQ1 hQ2
      by_cases q1 : isW T N p e 18
      · rw [if_pos q1] at hQ1 hQ2
        have ap := ab.2.2 (by rw [q1.1]; omega)
        refine vX5_readTest_12 ⟨fun z => by omega, fun _ => c_isWord t ?_⟩
        rw [if_pos q1]
        exact ⟨fun z => by omega, fun _ => cc_lo (d := d + 9) (l1 := 1) (l2 := 6) hr (by omega) (IH 1 (by omega)) (IH 6 (by omega)) (by rw [q1.1]; omega) (fun _ => q1.2.1) ho P hL hk hf hd (by decide) (by decide) rfl hQ1 hQ2⟩
      · rw [if_neg q1] at hQ1 hQ2
        have fin : Q 1 φ α := hQ2 p e [] φ α rfl fx.rf (by rw [List.append_nil]; exact P)
        refine vX5_readTest_12 ⟨fun z => fin, fun _ => c_isWord t ?_⟩
        rw [if_neg q1]
        exact ⟨fun _ => fin, fun z => absurd rfl z⟩
    · have hd : 10 * (7 - o) + 5 ≤ d + 10 := hd
      have hf : 12 * (N - p) + 11 ≤ f + 1 := hf
      show jX5_readBoth_12 (d + 10) o k φ α Q
      rw [show rs T N tg (rd T N tg f) 7 o p e = (if isW T N p e 19 then rLo T N (rd T N tg f) 2 7 o p e 19 else .ok (p, e, [])) from rfl] at hQ1 hQ2
      by_cases q1 : isW T N p e 19
      · rw [if_pos q1] at hQ1 hQ2
        have ap := ab.2.2 (by rw [q1.1]; omega)
        refine vX5_readBoth_12 ⟨fun z => by omega, fun _ => c_isWord t ?_⟩
        rw [if_pos q1]
        exact ⟨fun z => by omega, fun _ => cc_lo (d := d + 9) (l1 := 2) (l2 := 7) hr (by omega) (IH 2 (by omega)) (IH 7 (by omega)) (by rw [q1.1]; omega) (fun _ => q1.2.1) ho P hL hk hf hd (by decide) (by decide) rfl hQ1 hQ2⟩
      · rw [if_neg q1] at hQ1 hQ2
        have fin : Q 1 φ α := hQ2 p e [] φ α rfl fx.rf (by rw [List.append_nil]; exact P)
        refine vX5_readBoth_12 ⟨fun z => fin, fun _ => c_isWord t ?_⟩
        rw [if_neg q1]
        exact ⟨fun _ => fin, fun z => absurd rfl z⟩
    · have hd : 10 * (7 - o) + 3 ≤ d + 10 := hd
      have hf : 12 * (N - p) + 11 ≤ f + 1 := hf
      show jX5_readSum_12 (d + 10) o k φ α Q
      rw [show rs T N tg (rd T N tg f) 8 o p e = (if isS T N p 43 ∨ isS T N p 45 then rLo T N (rd T N tg f) 4 8 o p e (T p) else .ok (p, e, [])) from rfl] at hQ1 hQ2
      have v4 : kdF T N p = 3 → φ 8 4 186 = T p := fun w => by rw [t.2.2.2.1, vl3 w]
      by_cases q1 : isS T N p 43
      · rw [if_pos (Or.inl q1)] at hQ1 hQ2
        have ap := ab.2.2 (by rw [q1.1]; omega)
        refine vX5_readSum_12 ⟨fun z => by omega, fun _ => c_isSign t ?_⟩
        rw [if_pos q1, v4 q1.1]
        exact ⟨fun _ => cc_lo (d := d + 9) (l1 := 4) (l2 := 8) hr (by omega) (IH 4 (by omega)) (IH 8 (by omega)) (by rw [q1.1]; omega) (by rw [q1.1]; omega) ho P hL hk hf hd (by decide) (by decide) rfl hQ1 hQ2, fun z => by omega⟩
      · by_cases q2 : isS T N p 45
        · rw [if_pos (Or.inr q2)] at hQ1 hQ2
          have ap := ab.2.2 (by rw [q2.1]; omega)
          refine vX5_readSum_12 ⟨fun z => by omega, fun _ => c_isSign t ?_⟩
          rw [if_neg q1]
          refine ⟨fun z => absurd rfl z, fun _ => c_isSign t ?_⟩
          rw [if_pos q2, v4 q2.1]
          exact ⟨fun z => by omega, fun _ => cc_lo (d := d + 9) (l1 := 4) (l2 := 8) hr (by omega) (IH 4 (by omega)) (IH 8 (by omega)) (by rw [q2.1]; omega) (by rw [q2.1]; omega) ho P hL hk hf hd (by decide) (by decide) rfl hQ1 hQ2⟩
        · rw [if_neg (by rintro (w | w) <;> contradiction)] at hQ1 hQ2
          have fin : Q 1 φ α := hQ2 p e [] φ α rfl fx.rf (by rw [List.append_nil]; exact P)
          refine vX5_readSum_12 ⟨fun z => fin, fun _ => c_isSign t ?_⟩
          rw [if_neg q1]
          refine ⟨fun z => absurd rfl z, fun _ => c_isSign t ?_⟩
          rw [if_neg q2]
          exact ⟨fun _ => fin, fun z => absurd rfl z⟩
    · have hd : 10 * (7 - o) + 2 ≤ d + 10 := hd
      have hf : 12 * (N - p) + 11 ≤ f + 1 := hf
      show jX5_readProduct_12 (d + 10) o k φ α Q
      rw [show rs T N tg (rd T N tg f) 9 o p e = (if isS T N p 42 ∨ isS T N p 47 then rLo T N (rd T N tg f) 5 9 o p e (T p) else .ok (p, e, [])) from rfl] at hQ1 hQ2
      have v4 : kdF T N p = 3 → φ 8 4 186 = T p := fun w => by rw [t.2.2.2.1, vl3 w]
      by_cases q1 : isS T N p 42
      · rw [if_pos (Or.inl q1)] at hQ1 hQ2
        have ap := ab.2.2 (by rw [q1.1]; omega)
        refine vX5_readProduct_12 ⟨fun z => by omega, fun _ => c_isSign t ?_⟩
        rw [if_pos q1, v4 q1.1]
        exact ⟨fun _ => cc_lo (d := d + 9) (l1 := 5) (l2 := 9) hr (by omega) (IH 5 (by omega)) (IH 9 (by omega)) (by rw [q1.1]; omega) (by rw [q1.1]; omega) ho P hL hk hf hd (by decide) (by decide) rfl hQ1 hQ2, fun z => by omega⟩
      · by_cases q2 : isS T N p 47
        · rw [if_pos (Or.inr q2)] at hQ1 hQ2
          have ap := ab.2.2 (by rw [q2.1]; omega)
          refine vX5_readProduct_12 ⟨fun z => by omega, fun _ => c_isSign t ?_⟩
          rw [if_neg q1]
          refine ⟨fun z => absurd rfl z, fun _ => c_isSign t ?_⟩
          rw [if_pos q2, v4 q2.1]
          exact ⟨fun z => by omega, fun _ => cc_lo (d := d + 9) (l1 := 5) (l2 := 9) hr (by omega) (IH 5 (by omega)) (IH 9 (by omega)) (by rw [q2.1]; omega) (by rw [q2.1]; omega) ho P hL hk hf hd (by decide) (by decide) rfl hQ1 hQ2⟩
        · rw [if_neg (by rintro (w | w) <;> contradiction)] at hQ1 hQ2
          have fin : Q 1 φ α := hQ2 p e [] φ α rfl fx.rf (by rw [List.append_nil]; exact P)
          refine vX5_readProduct_12 ⟨fun z => fin, fun _ => c_isSign t ?_⟩
          rw [if_neg q1]
          refine ⟨fun z => absurd rfl z, fun _ => c_isSign t ?_⟩
          rw [if_neg q2]
          exact ⟨fun _ => fin, fun z => absurd rfl z⟩
end CR2
