/-! the reference reads FACT, BOTH, TEST: by the fuel of the descent -/
def Et (Q : Int → aF → aA → Prop) (φ0 : aF) (α0 : aA) (r : rR) : Prop := ∀ k pl, r = .error (k, pl) → ∀ φ' α', fz φ0 α0 φ' α' → RFy φ' k pl → Q 0 φ' α'
def Ok2 (d : Nat) (Q : Int → aF → aA → Prop) (φ0 : aF) (α0 : aA) (T : Int → Int) (N : Nat) (tk b : Int) (W : List Int) (o : Nat) (C : List Int) (r : rR) : Prop := ∀ p' e' c, r = .ok (p', e', c) → ∀ φ' α', fz φ0 α0 φ' α' → RQ T N tk b φ' α' p' e' W o (C ++ c) → KN d Q φ' α'
def nB (T : Int → Int) (N p : Nat) (e : Int) : Prop := ¬ isW T N p e 19
def nO (T : Int → Int) (N p : Nat) (e : Int) : Prop := ¬ isW T N p e 19 ∧ ¬ isW T N p e 18
def OkH (d : Nat) (Q : Int → aF → aA → Prop) (φ0 : aF) (α0 : aA) (T : Int → Int) (N : Nat) (tk b : Int) (A : Int → Prop) (nx : Nat → Int → Prop) (W : List Int) (o : Nat) (C : List Int) (r : rR) : Prop := ∀ p' e' c, r = .ok (p', e', c) → nx p' e' → ∀ X C', (∀ y ∈ X, A y) → C' ++ X = C ++ c → ∀ φ' α', fz φ0 α0 φ' α' → RQ T N tk b φ' α' p' e' (X.map tauF ++ W) o C' → KH d Q φ' α'
def hdT (W : List Int) : Prop := ∀ u ∈ W.head?, u = 10 ∨ u = 11 ∨ u = 12 ∨ u = 25
def hdB (W : List Int) : Prop := ∀ u ∈ W.head?, u = 11 ∨ u = 25
def hdO (W : List Int) : Prop := ∀ u ∈ W.head?, u = 25
def U2 (d : Nat) (Q : Int → aF → aA → Prop) (φ0 : aF) (α0 : aA) (T : Int → Int) (N : Nat) (tk tg b : Int) (f : Nat) : Prop := ∀ (φ : aF) (α : aA) (p : Nat) (e : Int) (W : List Int) (o : Nat) (C : List Int), fz φ0 α0 φ α → RQ T N tk b φ α p e W o C → o ≤ 6 → hdT W → C.length + W.length ≤ p → 12 * (N - p) + 8 ≤ f → Et Q φ0 α0 (rd T N tg f 2 o p e) → Ok2 d Q φ0 α0 T N tk b W o C (rd T N tg f 2 o p e) → KT d Q φ α
def U1 (d : Nat) (Q : Int → aF → aA → Prop) (φ0 : aF) (α0 : aA) (T : Int → Int) (N : Nat) (tk tg b : Int) (f : Nat) : Prop := ∀ (φ : aF) (α : aA) (p : Nat) (e : Int) (W : List Int) (o : Nat) (C : List Int), fz φ0 α0 φ α → RQ T N tk b φ α p e W o C → o ≤ 6 → hdB W → C.length + W.length ≤ p → 12 * (N - p) + 9 ≤ f → Et Q φ0 α0 (rd T N tg f 1 o p e) → OkH d Q φ0 α0 T N tk b arN (nB T N) W o C (rd T N tg f 1 o p e) → KT d Q φ α
def U0 (d : Nat) (Q : Int → aF → aA → Prop) (φ0 : aF) (α0 : aA) (T : Int → Int) (N : Nat) (tk tg b : Int) (f : Nat) : Prop := ∀ (φ : aF) (α : aA) (p : Nat) (e : Int) (W : List Int) (o : Nat) (C : List Int), fz φ0 α0 φ α → RQ T N tk b φ α p e W o C → o ≤ 6 → hdO W → C.length + W.length ≤ p → 12 * (N - p) + 10 ≤ f → Et Q φ0 α0 (rd T N tg f 0 o p e) → OkH d Q φ0 α0 T N tk b arO (nO T N) W o C (rd T N tg f 0 o p e) → KT d Q φ α
def U7 (d : Nat) (Q : Int → aF → aA → Prop) (φ0 : aF) (α0 : aA) (T : Int → Int) (N : Nat) (tk tg b : Int) (f : Nat) : Prop := ∀ (φ : aF) (α : aA) (p : Nat) (e : Int) (W : List Int) (o : Nat) (C X : List Int), fz φ0 α0 φ α → RQ T N tk b φ α p e (X.map tauF ++ W) o C → o ≤ 6 → (∀ y ∈ X, arN y) → hdB W → C.length + (X.length + W.length) ≤ p → 12 * (N - p) + 11 ≤ f → Et Q φ0 α0 (rd T N tg f 7 o p e) → OkH d Q φ0 α0 T N tk b arN (nB T N) W o (C ++ X) (rd T N tg f 7 o p e) → KH d Q φ α
def U6 (d : Nat) (Q : Int → aF → aA → Prop) (φ0 : aF) (α0 : aA) (T : Int → Int) (N : Nat) (tk tg b : Int) (f : Nat) : Prop := ∀ (φ : aF) (α : aA) (p : Nat) (e : Int) (W : List Int) (o : Nat) (C X : List Int), fz φ0 α0 φ α → RQ T N tk b φ α p e (X.map tauF ++ W) o C → o ≤ 6 → (∀ y ∈ X, arO y) → hdO W → nB T N p e → C.length + (X.length + W.length) ≤ p → 12 * (N - p) + 11 ≤ f → Et Q φ0 α0 (rd T N tg f 6 o p e) → OkH d Q φ0 α0 T N tk b arO (nO T N) W o (C ++ X) (rd T N tg f 6 o p e) → KH d Q φ α
section QY
variable {d N p o f : Nat} {φ φ' φ0 φ1 φ2 : aF} {α α' α0 α1 α2 : aA} {Q Q' : Int → aF → aA → Prop} {tk tg e v x x1 s w b : Int} {T : Int → Int} {U V W X Y C c : List Int}
theorem et_b {r : rR} {k : Nat → Int → List Int → rR} (h : Et Q φ0 α0 (bnd r k)) : Et Q φ0 α0 r := fun a pl w => h a pl (bnd_er w)
theorem et_k {r : rR} {k : Nat → Int → List Int → rR} (h : Et Q φ0 α0 (bnd r k)) {p' : Nat} {e' : Int} (w : r = .ok (p', e', c)) : Et Q φ0 α0 (k p' e' c) := by rw [bnd_ok w] at h; exact h
theorem rd_7 : rd T N tg (f + 1) 7 o p e = if isW T N p e 19 then rLo T N (rd T N tg f) 2 7 o p e 19 else .ok (p, e, []) := rfl
theorem rd_6 : rd T N tg (f + 1) 6 o p e = if isW T N p e 18 then rLo T N (rd T N tg f) 1 6 o p e 18 else .ok (p, e, []) := rfl
theorem rd_2 : rd T N tg (f + 1) 2 o p e = rFact T N (rd T N tg f) o p e := rfl
theorem rd_1 : rd T N tg (f + 1) 1 o p e = r2 (rd T N tg f) 2 7 o p e := rfl
theorem rd_0 : rd T N tg (f + 1) 0 o p e = r2 (rd T N tg f) 1 6 o p e := rfl
theorem hd_ne (h : ∀ u ∈ W.head?, u ≠ v) : W.head? ≠ some v := fun z => h v (by rw [z]; rfl) rfl
theorem u7 (h2 : U2 d Q φ0 α0 T N tk tg b f) (h7 : U7 d Q φ0 α0 T N tk tg b f) : U7 d Q φ0 α0 T N tk tg b (f + 1) := by
  intro φ α p e W o C X z R ho hX hW hl hf hE hO
  have hN := R.1.1.1
  have hp := R.1.2.2.2.2.2.2
  have he := R.1.2.2.2.2.2.1
  rw [rd_7] at hE hO
  by_cases q : isW T N p e 19
  · rw [if_pos q] at hE hO
    have a := av_bd (T := T) hp
    have ap := a.2.2 (by rw [q.1]; omega)
    have hav : C.length + X.length + (W.length + 1) ≤ avF T N p ∧ 12 * (N - avF T N p) + 11 ≤ f ∧ avF T N p ≤ 1600 := by clear q; omega
    refine kh_and R hX (hd_ne (fun u hu => by have := hW u hu; omega)) (by clear q; omega) q (fun φ2 α2 f2 R2 => ?_)
    have l1 : (10 :: W).length = W.length + 1 := rfl
    have le : ∀ c1 : List Int, (C ++ X ++ c1).length = C.length + X.length + c1.length := fun c1 => by rw [List.length_append, List.length_append]
    refine h2 φ2 α2 _ _ (10 :: W) o (C ++ X) (z.tr f2) R2 ho (fun u hu => by cases hu; exact Or.inl rfl) (by rw [List.length_append, l1]; exact hav.1) (by have := hav.2.1; clear q; omega) (et_b hE) (fun p1 e1 c1 w1 φ3 α3 z3 R3 => ?_)
    have g := rd_PG f 2 o _ _ _ (ed_le hp he) a.2.1 w1
    have g1 := g.1
    have g2 := g.2.2.1
    have g3 := g.2.2.2 (by decide)
    dsimp only at g1 g2 g3
    refine kn_kh R3 (by rw [l1]; clear q; omega) (by simp) ?_
    refine h7 φ3 α3 p1 e1 W o (C ++ X ++ c1) [19] z3 R3 ho (fun y hy => by rw [List.mem_singleton] at hy; rw [hy]; rfl) hW (by rw [le]; simp only [List.length_cons, List.length_nil]; clear q; omega) (by clear q; omega) (et_b (et_k hE w1)) (fun p2 e2 c2 w2 hn X' C' hX' hc φ4 α4 z4 R4 => ?_)
    exact hO p2 e2 (c1 ++ 19 :: c2) (by unfold rLo; rw [bnd_ok w1, bnd_ok w2]) hn X' C' hX' (by rw [hc]; simp) φ4 α4 z4 R4
  · rw [if_neg q] at hO
    exact hO p e [] rfl q X C hX (by simp) φ α z R
theorem u1 (h2 : U2 d Q φ0 α0 T N tk tg b f) (h7 : U7 d Q φ0 α0 T N tk tg b f) : U1 d Q φ0 α0 T N tk tg b (f + 1) := by
  intro φ α p e W o C z R ho hW hl hf hE hO
  have hN := R.1.1.1
  have hp := R.1.2.2.2.2.2.2
  have he := R.1.2.2.2.2.2.1
  rw [rd_1] at hE hO
  refine h2 φ α p e W o C z R ho (fun u hu => by have := hW u hu; omega) hl (by omega) (et_b hE) (fun p1 e1 c1 w1 φ3 α3 z3 R3 => ?_)
  have g := rd_PG f 2 o _ _ _ he hp w1
  have g1 := g.1
  have g2 := g.2.2.1
  have g3 := g.2.2.2 (by omega)
  dsimp only at g1 g2 g3
  refine kn_kh R3 (by omega) (hd_ne (fun u hu => by have := hW u hu; omega)) ?_
  refine h7 φ3 α3 p1 e1 W o (C ++ c1) [] z3 R3 ho (fun y hy => by cases hy) hW (by rw [List.length_append]; simp only [List.length_nil]; omega) (by omega) (et_b (et_k hE w1)) (fun p2 e2 c2 w2 hn X' C' hX' hc φ4 α4 z4 R4 => ?_)
  exact hO p2 e2 (c1 ++ c2) (by unfold r2; rw [bnd_ok w1, bnd_ok w2]) hn X' C' hX' (by rw [hc]; simp) φ4 α4 z4 R4
theorem u6 (h1 : U1 d Q φ0 α0 T N tk tg b f) (h6 : U6 d Q φ0 α0 T N tk tg b f) : U6 d Q φ0 α0 T N tk tg b (f + 1) := by
  intro φ α p e W o C X z R ho hX hW hm hl hf hE hO
  have hN := R.1.1.1
  have hp := R.1.2.2.2.2.2.2
  have he := R.1.2.2.2.2.2.1
  rw [rd_6] at hE hO
  by_cases q : isW T N p e 18
  · rw [if_pos q] at hE hO
    have a := av_bd (T := T) hp
    have ap := a.2.2 (by rw [q.1]; omega)
    have hav : C.length + X.length + (W.length + 1) ≤ avF T N p ∧ 12 * (N - avF T N p) + 11 ≤ f ∧ avF T N p ≤ 1600 := by clear q; omega
    refine kh_or R hX (hd_ne (fun u hu => by have := hW u hu; omega)) (hd_ne (fun u hu => by have := hW u hu; omega)) (by clear q; omega) q (fun φ2 α2 f2 R2 => ?_)
    have l1 : (11 :: W).length = W.length + 1 := rfl
    refine h1 φ2 α2 _ _ (11 :: W) o (C ++ X) (z.tr f2) R2 ho (fun u hu => by cases hu; exact Or.inl rfl) (by rw [List.length_append, l1]; exact hav.1) (by have := hav.2.1; clear q; omega) (et_b hE) (fun p1 e1 c1 w1 hm1 X1 C1 hX1 hc1 φ3 α3 z3 R3 => ?_)
    have g := rd_PG f 1 o _ _ _ (ed_le hp he) a.2.1 w1
    have g1 := g.1
    have g2 := g.2.2.1
    have g3 := g.2.2.2 (by decide)
    dsimp only at g1 g2 g3
    have lc := congrArg List.length hc1
    rw [List.length_append, List.length_append, List.length_append] at lc
    refine h6 φ3 α3 p1 e1 W o C1 (X1 ++ [18]) z3 (by rw [List.map_append, List.append_assoc]; exact R3) ho (fun y hy => ?_) hW hm1 (by rw [List.length_append]; simp only [List.length_cons, List.length_nil]; clear q; omega) (by clear q; omega) (et_b (et_k hE w1)) (fun p2 e2 c2 w2 hn X' C' hX' hc φ4 α4 z4 R4 => ?_)
    · rw [List.mem_append, List.mem_singleton] at hy
      rcases hy with hy | hy
      · exact Or.inl (hX1 y hy)
      · exact Or.inr hy
    · exact hO p2 e2 (c1 ++ 18 :: c2) (by unfold rLo; rw [bnd_ok w1, bnd_ok w2]) hn X' C' hX' (by rw [hc, ← List.append_assoc, hc1]; simp) φ4 α4 z4 R4
  · rw [if_neg q] at hO
    exact hO p e [] rfl ⟨hm, q⟩ X C hX (by simp) φ α z R
theorem u0 (h1 : U1 d Q φ0 α0 T N tk tg b f) (h6 : U6 d Q φ0 α0 T N tk tg b f) : U0 d Q φ0 α0 T N tk tg b (f + 1) := by
  intro φ α p e W o C z R ho hW hl hf hE hO
  have hN := R.1.1.1
  have hp := R.1.2.2.2.2.2.2
  have he := R.1.2.2.2.2.2.1
  rw [rd_0] at hE hO
  refine h1 φ α p e W o C z R ho (fun u hu => Or.inr (hW u hu)) hl (by omega) (et_b hE) (fun p1 e1 c1 w1 hm1 X1 C1 hX1 hc1 φ3 α3 z3 R3 => ?_)
  have g := rd_PG f 1 o _ _ _ he hp w1
  have g1 := g.1
  have g2 := g.2.2.1
  have g3 := g.2.2.2 (by omega)
  dsimp only at g1 g2 g3
  have lc := congrArg List.length hc1
  rw [List.length_append, List.length_append] at lc
  refine h6 φ3 α3 p1 e1 W o C1 X1 z3 R3 ho (fun y hy => Or.inl (hX1 y hy)) hW hm1 (by omega) (by omega) (et_b (et_k hE w1)) (fun p2 e2 c2 w2 hn X' C' hX' hc φ4 α4 z4 R4 => ?_)
  exact hO p2 e2 (c1 ++ c2) (by unfold r2; rw [bnd_ok w1, bnd_ok w2]) hn X' C' hX' (by rw [hc, hc1]; simp) φ4 α4 z4 R4
/-- a comparison -/
theorem u2_cmp (ht : tk = 0 ∧ tg = 7 ∨ tk = 1 ∧ tg = 8 ∨ tk = 2 ∧ tg = 26) (z : fz φ0 α0 φ α) (R : RQ T N tk b φ α p e W o C) (ho : o ≤ 6) (hW : hdT W) (hl : C.length + W.length ≤ p) (hf : 12 * (N - p) + 7 ≤ f) (n21 : ¬ isW T N p e 21) (n20 : ¬ isW T N p e 20) (n91 : ¬ isS T N p 91) (hE : Et Q φ0 α0 (rFact T N (rd T N tg f) o p e)) (hO : Ok2 d Q φ0 α0 T N tk b W o C (rFact T N (rd T N tg f) o p e)) : eX11_qFact (d + 8) φ α (fun _ φ7 α7 => eX11_qDropsNots (d + 8) φ7 α7 (fun _ φ8 α8 => ((¬ (φ8 11 5 198) = 0 → (jX11_qTest_2 (d + 9) 0 φ8 α8 Q)) ∧ ((φ8 11 5 198) = 0 → (eX11_qGoesOnTest (d + 8) φ8 α8 (fun r10 φ10 α10 => ((r10 = 0 → (jX11_qTest_2 (d + 9) 0 φ10 α10 Q)) ∧ (¬ (r10 = 0) → (jX11_qTest_2 (d + 9) 1 φ10 α10 Q))))))))) := by
  have hN := R.1.1.1
  have hp := R.1.2.2.2.2.2.2
  have he := R.1.2.2.2.2.2.1
  have hA : hdA W := fun u hu => by have := hW u hu; omega
  have un : rFact T N (rd T N tg f) o p e = bnd (rd T N tg f 3 o p e) fun p1 e1 c1 => if isS T N p1 60 ∨ isS T N p1 62 ∨ isS T N p1 61 then bnd (rd T N tg f 3 o (avF T N p1) (edF T N p1 e1)) (fun p2 e2 c2 => .ok (p2, e2, (c1 ++ c2) ++ [T p1])) else .error (1, (p1 : Int)) := by
    unfold rFact
    rw [if_neg n21, if_neg n20, if_neg n91]
  rw [un] at hE hO
  clear n20 n91 un
  have y_z : ∀ {φ' : aF} {k pl : Int}, RFz φ' k pl → RFy φ' k pl := fun F => ⟨F.1, F.2.1⟩
  refine vX11_qFact_0 (r_takesQ 9 (by omega) (by omega) R.1 (fun w => absurd w n21) (fun _ φ1 f1 R1 _ => ⟨fun _ => ?_, fun w => absurd rfl w⟩))
  refine r_qSums ht (RQ_w R f1 R1) ho hA hl hf (fun k pl w φ2 α2 f2 F2 => ⟨fun z5 => absurd z5 (RFz_5 F2), fun _ => fc_bad (RFz_5 F2) (et_b hE k pl w φ2 α2 ((z.tr (fz_w f1)).tr f2) (y_z F2))⟩) (fun p1 e1 c1 w1 φ2 α2 f2 R2 => ⟨fun _ => ?_, fun z5 => absurd R2.1.2.1 z5⟩)
  clear n21
  have z2 := (z.tr (fz_w f1)).tr f2
  have hE1 := et_k hE w1
  have g := rd_PG f 3 o _ _ _ he hp w1
  have k1 := g.1
  have k2 := g.2.2.1
  have k3 := g.2.2.2 (by omega)
  have k4 := g.2.1
  dsimp only at k1 k2 k3 k4
  refine r_look R2.1 (fun φ3 f3 R3 g3 => ?_)
  have RR3 := RQ_w R2 f3 R3
  have num : p1 < avF T N p1 → avF T N p1 ≤ N → C.length + c1.length + W.length ≤ avF T N p1 ∧ 12 * (N - avF T N p1) + 7 ≤ f ∧ (C ++ c1).length + W.length ≤ avF T N p1 := fun _ _ => by rw [List.length_append]; clear ht hE hO hW hA; omega
  have step : ∀ (s : Int) (Q' : Int → aF → aA → Prop), (s = 60 ∨ s = 62 ∨ s = 61) → isS T N p1 s → (∀ φ5 α5, fz φ0 α0 φ5 α5 → (∀ k pl, RFz φ5 k pl → (∀ v : Int, eX11_qCode (d + 7) v φ5 α5 (fun _ φ9 α9 => eX11_qDropsNots (d + 8) φ9 α9 (fun _ φ8 α8 => ((¬ (φ8 11 5 198) = 0 → (jX11_qTest_2 (d + 9) 0 φ8 α8 Q)) ∧ ((φ8 11 5 198) = 0 → (eX11_qGoesOnTest (d + 8) φ8 α8 (fun r10 φ10 α10 => ((r10 = 0 → (jX11_qTest_2 (d + 9) 0 φ10 α10 Q)) ∧ (¬ (r10 = 0) → (jX11_qTest_2 (d + 9) 1 φ10 α10 Q)))))))))) → Q' 0 φ5 α5) ∧ (eX11_qCode (d + 7) (tauF s) φ5 α5 (fun _ φ9 α9 => eX11_qDropsNots (d + 8) φ9 α9 (fun _ φ8 α8 => ((¬ (φ8 11 5 198) = 0 → (jX11_qTest_2 (d + 9) 0 φ8 α8 Q)) ∧ ((φ8 11 5 198) = 0 → (eX11_qGoesOnTest (d + 8) φ8 α8 (fun r10 φ10 α10 => ((r10 = 0 → (jX11_qTest_2 (d + 9) 0 φ10 α10 Q)) ∧ (¬ (r10 = 0) → (jX11_qTest_2 (d + 9) 1 φ10 α10 Q))))))))) → Q' 0 φ5 α5)) → inR ((φ3 11 2 198) + 1) ∧ (eX11_qSums (d + 7) (upf φ3 11 2 198 ((φ3 11 2 198) + 1)) α2 Q') := by
    intro s Q' hs3 hs hQ
    have nx : nxF T N p1 = p1 + 1 := by unfold nxF; rw [if_pos hs.1]
    have cond : isS T N p1 60 ∨ isS T N p1 62 ∨ isS T N p1 61 := by
      rcases hs3 with rfl | rfl | rfl
      · exact Or.inl hs
      · exact Or.inr (Or.inl hs)
      · exact Or.inr (Or.inr hs)
    have a1 := av_bd (T := T) k1
    have ap1 := a1.2.2 (by rw [hs.1]; omega)
    have R4 : RQ T N tk b (upf φ3 11 2 198 ((φ3 11 2 198) + 1)) α2 (avF T N p1) (edF T N p1 e1) W o (C ++ c1) := RQ_w RR3 (fw_u (by omega) fw.rf) (RLx_adv R3 (by rw [hs.1]; omega) (fw_u (by omega) fw.rf) (by rw [upf_s, g3, nx]; omega) (by rw [upf_o (by omega), R3.2.2.1]; unfold edF; rw [if_pos hs.1]) (by rw [upf_o (by omega)]; exact R3.2.1))
    have z4 : fz φ0 α0 (upf φ3 11 2 198 ((φ3 11 2 198) + 1)) α2 := (z2.tr (fz_w f3)).tr (fz_w (fw_u (by omega) fw.rf))
    rw [if_pos cond] at hE1
    have nn := num ap1 a1.2.1
    have inr : inR ((φ3 11 2 198) + 1) := by rw [g3]; clear hs cond ht hs3 a1 nn; unfold inR; omega
    refine ⟨inr, r_qSums ht R4 ho hA nn.2.2 nn.2.1 (fun k pl w φ5 α5 f5 F5 => (hQ φ5 α5 (z4.tr f5)).1 k pl F5 (fun v => ?_)) (fun p2 e2 c2 w2 φ5 α5 f5 R5 => (hQ φ5 α5 (z4.tr f5)).2 ?_)⟩
    · obtain ⟨F51, F52, F53, F54⟩ := F5
      have i1 : 0 ≤ φ5 11 88 198 ∧ φ5 11 88 198 < (1700 : Nat) := by clear hs cond ht hs3 a1 nn; omega
      have i2 : inR (φ5 11 88 198 + 1) := by clear hs cond ht hs3 a1 nn; unfold inR; omega
      refine vX11_qCode_0 ⟨i1, i2, ?_⟩
      have F6 : RFy (upf φ5 11 88 198 (φ5 11 88 198 + 1)) k pl := ⟨by rw [upf_o (by omega)]; exact F51, by rw [upf_o (by omega)]; exact F52⟩
      exact fc_bad (RFy_5 F6) (et_b hE1 k pl w _ _ ((z4.tr f5).tr ((fz_u (by omega)).tr (fz_a (by omega)))) F6)
    · have g' := rd_PG f 3 o _ _ _ (ed_le k1 k4) a1.2.1 w2
      have m1 := g'.1
      have m2 := g'.2.2.1
      dsimp only at m1 m2
      have lcc : (C ++ c1 ++ c2).length ≤ 1650 := by rw [List.length_append, List.length_append]; have n1 := nn.1; clear hs cond ht hs3 a1 nn; omega
      refine r_qCode R5 lcc (x := s) rfl (fun φ6 α6 f6 R6 => fc_ok (hO p2 e2 (c1 ++ c2 ++ [s]) ?_ φ6 α6 ((z4.tr f5).tr f6) ?_))
      · rw [bnd_ok w1, if_pos cond, bnd_ok w2, hs.2]
      · have : C ++ c1 ++ c2 ++ [s] = C ++ (c1 ++ c2 ++ [s]) := by simp
        rw [this] at R6
        exact R6
  have c60 : cF T N p1 = 60 ↔ isS T N p1 60 := cF_s (by decide)
  have c62 : cF T N p1 = 62 ↔ isS T N p1 62 := cF_s (by decide)
  have c61 : cF T N p1 = 61 ↔ isS T N p1 61 := cF_s (by decide)
  refine ⟨fun q => step 60 _ (Or.inl rfl) (c60.mp q) (fun φ5 α5 _ => ⟨fun k pl F h => h 7, fun h => h⟩), fun q => ⟨fun q2 => step 62 _ (Or.inr (Or.inl rfl)) (c62.mp q2) (fun φ5 α5 _ => ⟨fun k pl F h => ⟨fun _ => h 8, fun _ => h 7⟩, fun h => ⟨fun _ => h, fun z => absurd z q⟩⟩), fun q2 => ⟨fun q3 => step 61 _ (Or.inr (Or.inr rfl)) (c61.mp q3) (fun φ5 α5 _ => ⟨fun k pl F h => ⟨fun _ => ⟨fun _ => h 9, fun _ => h 8⟩, fun _ => h 7⟩, fun h => ⟨fun _ => ⟨fun _ => h, fun z => absurd z q2⟩, fun z => absurd z q⟩⟩), fun q3 => ?_⟩⟩⟩
  rw [g3]
  refine r_fail R3.2.1 (fun φ4 f4 F4 => ?_)
  have F : RFy φ4 1 p1 := ⟨⟨F4.1, by decide⟩, F4.2⟩
  refine fc_bad (RFy_5 F) (hE1 1 p1 ?_ φ4 α2 (z2.tr (fz_w (f3.tr f4))) F)
  rw [if_neg (by
    intro w
    rcases w with w | w | w
    · exact q (c60.mpr w)
    · exact q2 (c62.mpr w)
    · exact q3 (c61.mpr w))]
theorem u2 (ht : tk = 0 ∧ tg = 7 ∨ tk = 1 ∧ tg = 8 ∨ tk = 2 ∧ tg = 26) (h0 : U0 d Q φ0 α0 T N tk tg b f) (h2 : U2 d Q φ0 α0 T N tk tg b f) : U2 d Q φ0 α0 T N tk tg b (f + 1) := by
  intro φ α p e W o C z R ho hW hl hf hE hO
  have hN := R.1.1.1
  have hp := R.1.2.2.2.2.2.2
  have he := R.1.2.2.2.2.2.1
  rw [rd_2] at hE hO
  have a := av_bd (T := T) hp
  have y_z : ∀ {φ' : aF} {k pl : Int}, RFz φ' k pl → RFy φ' k pl := fun F => ⟨F.1, F.2.1⟩
  have hav : p < avF T N p → C.length + (W.length + 1) ≤ avF T N p ∧ 12 * (N - avF T N p) + 11 ≤ f ∧ avF T N p ≤ 1600 := fun _ => by omega
  have hl16 : C.length + W.length ≤ 1600 := by omega
  have hff : 12 * (N - p) + 7 ≤ f := by omega
  refine vX11_qTest_2 ⟨fun w => by omega, fun _ => ⟨fun w => absurd R.1.2.1 w, fun _ => r_look R.1 (fun φ1 f1 R1 g1 => ⟨fun q => ?_, fun q => ?_⟩)⟩⟩
  · have n91 : ¬ isS T N p 91 := fun w => q ((cF_s kb91).mpr w)
    refine r_ask 6 (by omega) (by omega) R1 (fun φ2 f2 R2 g2 => ?_)
    have RR := RQ_w R (f1.tr f2) R2
    have z2 : fz φ0 α0 φ2 α := z.tr (fz_w (f1.tr f2))
    by_cases W20 : isW T N p e 20
    · rw [if_pos (show isW T N p e (wqF 6) from W20)]
      have n21 : ¬ isW T N p e 21 := fun w => by have a1 := w.2.2; have a2 := W20.2.2; rw [a1] at a2; exact absurd a2 (by decide)
      have ap := a.2.2 (by rw [W20.1]; omega)
      have un : rFact T N (rd T N tg f) o p e = if 6 ≤ o then .error (4, (p : Int)) else bnd (rd T N tg f 2 (o + 1) (avF T N p) (edF T N p e)) fun p1 e1 c1 => .ok (p1, e1, c1 ++ [20]) := by
        unfold rFact
        rw [if_neg n21, if_pos W20]
      rw [un] at hE hO
      rw [g2]
      have hav := hav ap
      refine ⟨fun w => by omega, fun _ => r_qOpens RR ho hl16 (fun o6 φ3 α3 f3 R3 g3 => ?_) (fun o6 φ3 f3 F3 g3 => ?_)⟩
      · rw [if_neg (by omega)] at hE hO
        refine r_asksQ 6 (by omega) (by omega) R3.1 (fun _ φ4 f4 R4 => ?_) (fun w => absurd W20 w)
        have l1 : (12 :: W).length = W.length + 1 := rfl
        refine h2 φ4 α3 _ _ (12 :: W) (o + 1) C ((z2.tr f3).tr (fz_w f4)) (RQ_w R3 f4 R4) (by omega) (fun u hu => by cases hu; exact Or.inr (Or.inr (Or.inl rfl))) (by rw [l1]; exact hav.1) (by have := hav.2.1; clear W20 n21; omega) (et_b hE) (fun p1 e1 c1 w1 φ5 α5 z5 R5 => ?_)
        have g := rd_PG f 2 (o + 1) _ _ _ (ed_le hp he) a.2.1 w1
        have k1 := g.1
        have k2 := g.2.2.1
        dsimp only at k1 k2
        refine kn_not R5 ho (by rw [List.length_append]; clear W20 n21; omega) (fun φ6 α6 f6 R6 => hO p1 e1 (c1 ++ [20]) (by rw [bnd_ok w1]) φ6 α6 (z5.tr f6) (by rw [← List.append_assoc]; exact R6))
      · rw [if_pos o6] at hE
        exact r_asksF (caq 6 (by omega) (by omega)) (RFz_5 F3) (kt_bad (RFz_5 F3) (hE 4 p rfl φ3 α (z2.tr (fz_w f3)) (y_z F3)))
    · rw [if_neg (show ¬ isW T N p e (wqF 6) from W20)]
      refine ⟨fun _ => ?_, fun w => absurd rfl w⟩
      by_cases W21 : isW T N p e 21
      · refine vX11_qFact_0 (r_takesQ 9 (by omega) (by omega) R2 (fun _ φ3 f3 R3 => ⟨fun w => by omega, fun _ => ?_⟩) (fun w => absurd W21 w))
        refine r_qCode (RQ_w RR f3 R3) (by clear W21 W20; omega) (x := 21) rfl (fun φ4 α4 f4 R4 => fc_ok (hO (avF T N p) (edF T N p e) [21] (by unfold rFact; rw [if_pos W21]) φ4 α4 ((z2.tr (fz_w f3)).tr f4) R4))
      · exact u2_cmp ht z2 RR ho hW hl hff W21 W20 n91 hE hO
  · have hs : isS T N p 91 := (cF_s kb91).mp q
    have ap := a.2.2 (by rw [hs.1]; omega)
    have un : rFact T N (rd T N tg f) o p e = if 6 ≤ o then .error (4, (p : Int)) else bnd (rd T N tg f 0 (o + 1) (avF T N p) (edF T N p e)) fun p1 e1 c1 => rEnd T N p1 e1 93 c1 := by
      have nw : ∀ v, ¬ isW T N p e v := fun v w => by have := w.1; rw [hs.1] at this; omega
      unfold rFact
      rw [if_neg (nw 21), if_neg (nw 20), if_pos hs]
    rw [un] at hE hO
    rw [g1]
    have nx : nxF T N p = p + 1 := by unfold nxF; rw [if_pos hs.1]
    have hav := hav ap
    refine r_qOpens (RQ_w R f1 R1) ho hl16 (fun o6 φ3 α3 f3 R3 g3 => ?_) (fun o6 φ3 f3 F3 g3 => ?_)
    · rw [if_neg (by omega)] at hE hO
      rw [g3, g1]
      refine ⟨by unfold inR; omega, ?_⟩
      have R4 : RQ T N tk b (upf φ3 11 2 198 ((p : Int) + 1)) α3 (avF T N p) (edF T N p e) (25 :: W) (o + 1) C := RQ_w R3 (fw_u (by omega) fw.rf) (RLx_adv R3.1 (by rw [hs.1]; omega) (fw_u (by omega) fw.rf) (by rw [upf_s, nx]; omega) (by rw [upf_o (by omega), R3.1.2.2.1]; unfold edF; rw [if_pos hs.1]) (by rw [upf_o (by omega)]; exact R3.1.2.1))
      have l1 : (25 :: W).length = W.length + 1 := rfl
      refine h0 _ α3 _ _ (25 :: W) (o + 1) C (((z.tr (fz_w f1)).tr f3).tr (fz_u (by omega))) R4 (by omega) (fun u hu => by cases hu; rfl) (by rw [l1]; exact hav.1) (by have := hav.2.1; clear hs; omega) (et_b hE) (fun p1 e1 c1 w1 hn1 X1 C1 hX1 hc1 φ7 α7 z7 R7 => ?_)
      have g := rd_PG f 0 (o + 1) _ _ _ (ed_le hp he) a.2.1 w1
      have k1 := g.1
      have k2 := g.2.2.1
      dsimp only at k1 k2
      have lc := congrArg List.length hc1
      rw [List.length_append, List.length_append] at lc
      have lb : C1.length + (X1.length + (W.length + 1)) ≤ 1600 := by clear hs; omega
      by_cases hs2 : isS T N p1 93
      · refine kh_close R7 ho hX1 lb hs2 (fun φ8 α8 f8 R8 => ?_)
        rw [hc1] at R8
        exact hO (avF T N p1) (edF T N p1 e1) c1 (by rw [bnd_ok w1, rEnd, if_pos hs2]) φ8 α8 (z7.tr f8) R8
      · refine kh_end R7 (by rw [List.length_append, List.length_map, l1]; exact lb) hn1 (fun w => absurd w hs2) (fun w => absurd (by simp) w) (fun _ φ8 f8 F8 => et_k hE w1 1 p1 (by rw [rEnd, if_neg hs2]) φ8 α7 (z7.tr (fz_w f8)) F8)
    · rw [if_pos o6] at hE
      rw [g3, g1]
      have F4 : RFz (upf φ3 11 2 198 ((p : Int) + 1)) 4 p := RFz_u (by omega) F3
      exact ⟨by unfold inR; omega, kt_bad (RFz_5 F4) (hE 4 p rfl _ α ((z.tr (fz_w (f1.tr f3))).tr (fz_u (by omega))) (y_z F4))⟩
theorem u_all (ht : tk = 0 ∧ tg = 7 ∨ tk = 1 ∧ tg = 8 ∨ tk = 2 ∧ tg = 26) : ∀ f : Nat, U2 d Q φ0 α0 T N tk tg b f ∧ U1 d Q φ0 α0 T N tk tg b f ∧ U0 d Q φ0 α0 T N tk tg b f ∧ U7 d Q φ0 α0 T N tk tg b f ∧ U6 d Q φ0 α0 T N tk tg b f
  | 0 => ⟨fun _ _ _ _ _ _ _ _ _ _ _ _ h => by omega, fun _ _ _ _ _ _ _ _ _ _ _ _ h => by omega, fun _ _ _ _ _ _ _ _ _ _ _ _ h => by omega, fun _ _ _ _ _ _ _ _ _ _ _ _ _ _ h => by omega, fun _ _ _ _ _ _ _ _ _ _ _ _ _ _ _ h => by omega⟩
  | f + 1 => by
    obtain ⟨h2, h1, h0, h7, h6⟩ := u_all ht f
    exact ⟨u2 ht h0 h2, u1 h2 h7, u0 h1 h6, u7 h2 h7, u6 h1 h6⟩
theorem l_110 : ∀ (X : List Int) (φ : aF) (α : aA) (C : List Int), RQ T N tk b φ α p e (X.map tauF) o C → C.length + X.length ≤ 1640 → (∀ φ' α', fz φ α φ' α' → RQ T N tk b φ' α' p e [] o (C ++ X) → Q 0 φ' α') → jX11_qTest_110 (d + 2) φ α Q
  | [], φ, α, C, R, hl, h => by
    have r3 : φ 11 90 198 = 0 := R.2.2.1.1
    exact vX11_qTest_110 ⟨fun z => absurd R.1.2.1 z, fun _ => ⟨fun _ => h _ _ fz.rf (by rw [List.append_nil]; exact R), fun z => by omega⟩⟩
  | y :: X, φ, α, C, R, hl, h => by
    have hl : C.length + (X.length + 1) ≤ 1640 := hl
    have t1 := (RQ_top (W := X.map tauF) R).1
    refine vX11_qTest_110 ⟨fun z => absurd R.1.2.1 z, fun _ => ⟨fun z => by rw [t1] at z; omega, fun _ => r_qDrops (W := X.map tauF) R (by rw [List.length_map]; omega) (fun φ1 α1 f1 R1 => ?_)⟩⟩
    refine l_110 X φ1 α1 (C ++ [y]) R1 (by rw [List.length_append]; simp only [List.length_cons, List.length_nil]; omega) (fun φ2 α2 f2 R2 => h φ2 α2 (f1.tr f2) ?_)
    rw [List.append_assoc] at R2
    exact R2
theorem r_qTest (ht : tk = 0 ∧ tg = 7 ∨ tk = 1 ∧ tg = 8 ∨ tk = 2 ∧ tg = 26) (R : RQ T N tk b φ α p e [] o C) (ho : o ≤ 6) (hl : C.length ≤ p) (hf : 12 * (N - p) + 10 ≤ f) (hE : Et Q φ α (rd T N tg f 0 o p e)) (hO : ∀ p' e' c, rd T N tg f 0 o p e = .ok (p', e', c) → ∀ φ' α', fz φ α φ' α' → RQ T N tk b φ' α' p' e' [] o (C ++ c) → Q 0 φ' α') : eX11_qTest (d + 9) φ α Q := by
  have hN := R.1.1.1
  have hp := R.1.2.2.2.2.2.2
  have he := R.1.2.2.2.2.2.1
  refine vX11_qTest_0 ((u_all (d := d) ht f).2.2.1 φ α p e [] o C fz.rf R ho (fun u hu => by cases hu) hl hf hE (fun p' e' c w hn X C' hX hc φ' α' z R1 => ?_))
  have g := rd_PG f 0 o _ _ _ he hp w
  have k1 := g.1
  have k2 := g.2.2.1
  dsimp only at k1 k2
  have lc := congrArg List.length hc
  rw [List.length_append, List.length_append] at lc
  rw [List.append_nil] at R1
  have n25 : 25 ∉ X.map tauF := fun w => by
    obtain ⟨y, hy, h⟩ := List.mem_map.mp w
    have := tau_arO (hX y hy)
    omega
  refine kh_end R1 (by rw [List.length_map]; omega) hn (fun _ => n25) (fun _ φ2 f2 R2 => ?_) (fun w => absurd w n25)
  refine vX11_qTest_2 ⟨fun _ => l_110 X φ2 α' C' (RQ_w R1 f2 R2) (by omega) (fun φ3 α3 f3 R3 => hO p' e' c w φ3 α3 ((z.tr (fz_w f2)).tr f3) (by rw [← hc]; exact R3)), fun w => absurd rfl w⟩
end QY
