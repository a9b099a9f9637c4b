/-! the reference reads PART, PRODUCT, SUM: by the fuel of the descent -/
def Er (d : Nat) (x1 : Int) (Q : Int → aF → aA → Prop) (φ0 : aF) (α0 : aA) (r : rR) : Prop := ∀ k pl, r = .error (k, pl) → ∀ φ' α', fz φ0 α0 φ' α' → RFz φ' k pl → KF (d + 6) x1 Q φ' α'
def Ok5 (d : Nat) (x1 : Int) (Q : Int → aF → aA → Prop) (φ0 : aF) (α0 : aA) (T : Int → Int) (N : Nat) (tk : Int) (V U : List Int) (o : Nat) (C : List Int) (r : rR) : Prop := ∀ p' e' c, r = .ok (p', e', c) → ∀ φ' α', fz φ0 α0 φ' α' → RQ T N tk V.length φ' α' p' e' (U ++ V) o (C ++ c) → KE (d + 6) x1 Q φ' α'
def nM (T : Int → Int) (N p : Nat) : Prop := ¬ isS T N p 42 ∧ ¬ isS T N p 47
def nA (T : Int → Int) (N p : Nat) : Prop := ¬ isS T N p 42 ∧ ¬ isS T N p 47 ∧ ¬ isS T N p 43 ∧ ¬ isS T N p 45
def OkG (d : Nat) (x1 : Int) (Q : Int → aF → aA → Prop) (φ0 : aF) (α0 : aA) (T : Int → Int) (N : Nat) (tk : Int) (V : List Int) (A : Int → Prop) (nx : Nat → Prop) (U : List Int) (o : Nat) (C : List Int) (r : rR) : Prop := ∀ p' e' c, r = .ok (p', e', c) → nx p' → ∀ X C', (∀ y ∈ X, A y) → C' ++ X = C ++ c → ∀ φ' α', fz φ0 α0 φ' α' → RQ T N tk V.length φ' α' p' e' (X.map tauF ++ (U ++ V)) o C' → KG (d + 6) x1 Q φ' α'
def hdM (W : List Int) : Prop := ∀ u ∈ W.head?, u ≠ 3 ∧ u ≠ 4
def hdA (W : List Int) : Prop := ∀ u ∈ W.head?, u ≠ 1 ∧ u ≠ 2 ∧ u ≠ 3 ∧ u ≠ 4
def hd6 (W : List Int) : Prop := ∀ u ∈ W.head?, u < 60
section QU
variable {d N p o f : Nat} {φ φ' φ0 φ1 φ2 : aF} {α α' α0 α1 α2 : aA} {Q Q' : Int → aF → aA → Prop} {tk tg e v x x1 s : Int} {T : Int → Int} {U V X Y C c : List Int}
def S5 (d : Nat) (x1 : Int) (Q : Int → aF → aA → Prop) (φ0 : aF) (α0 : aA) (T : Int → Int) (N : Nat) (tk tg : Int) (V : List Int) (f : Nat) : Prop := ∀ (φ : aF) (α : aA) (p : Nat) (e : Int) (U : List Int) (o : Nat) (C : List Int), fz φ0 α0 φ α → RQ T N tk V.length φ α p e (U ++ V) o C → o ≤ 6 → C.length + (U ++ V).length ≤ p → 12 * (N - p) + 5 ≤ f → Er d x1 Q φ0 α0 (rd T N tg f 5 o p e) → Ok5 d x1 Q φ0 α0 T N tk V U o C (rd T N tg f 5 o p e) → KP (d + 6) x1 Q φ α
def S4 (d : Nat) (x1 : Int) (Q : Int → aF → aA → Prop) (φ0 : aF) (α0 : aA) (T : Int → Int) (N : Nat) (tk tg : Int) (V : List Int) (f : Nat) : Prop := ∀ (φ : aF) (α : aA) (p : Nat) (e : Int) (U : List Int) (o : Nat) (C : List Int), fz φ0 α0 φ α → RQ T N tk V.length φ α p e (U ++ V) o C → o ≤ 6 → hdM (U ++ V) → hd6 U → C.length + (U ++ V).length ≤ p → 12 * (N - p) + 6 ≤ f → Er d x1 Q φ0 α0 (rd T N tg f 4 o p e) → OkG d x1 Q φ0 α0 T N tk V arM (nM T N) U o C (rd T N tg f 4 o p e) → KP (d + 6) x1 Q φ α
def S3 (d : Nat) (x1 : Int) (Q : Int → aF → aA → Prop) (φ0 : aF) (α0 : aA) (T : Int → Int) (N : Nat) (tk tg : Int) (V : List Int) (f : Nat) : Prop := ∀ (φ : aF) (α : aA) (p : Nat) (e : Int) (U : List Int) (o : Nat) (C : List Int), fz φ0 α0 φ α → RQ T N tk V.length φ α p e (U ++ V) o C → o ≤ 6 → hdA (U ++ V) → hd6 U → C.length + (U ++ V).length ≤ p → 12 * (N - p) + 7 ≤ f → Er d x1 Q φ0 α0 (rd T N tg f 3 o p e) → OkG d x1 Q φ0 α0 T N tk V arA (nA T N) U o C (rd T N tg f 3 o p e) → KP (d + 6) x1 Q φ α
def S9 (d : Nat) (x1 : Int) (Q : Int → aF → aA → Prop) (φ0 : aF) (α0 : aA) (T : Int → Int) (N : Nat) (tk tg : Int) (V : List Int) (f : Nat) : Prop := ∀ (φ : aF) (α : aA) (p : Nat) (e : Int) (U : List Int) (o : Nat) (C X : List Int), fz φ0 α0 φ α → RQ T N tk V.length φ α p e (X.map tauF ++ (U ++ V)) o C → o ≤ 6 → (∀ y ∈ X, arM y) → hdM (U ++ V) → hd6 U → C.length + (X.length + (U ++ V).length) ≤ p → 12 * (N - p) + 11 ≤ f → Er d x1 Q φ0 α0 (rd T N tg f 9 o p e) → OkG d x1 Q φ0 α0 T N tk V arM (nM T N) U o (C ++ X) (rd T N tg f 9 o p e) → KG (d + 6) x1 Q φ α
def S8 (d : Nat) (x1 : Int) (Q : Int → aF → aA → Prop) (φ0 : aF) (α0 : aA) (T : Int → Int) (N : Nat) (tk tg : Int) (V : List Int) (f : Nat) : Prop := ∀ (φ : aF) (α : aA) (p : Nat) (e : Int) (U : List Int) (o : Nat) (C X : List Int), fz φ0 α0 φ α → RQ T N tk V.length φ α p e (X.map tauF ++ (U ++ V)) o C → o ≤ 6 → (∀ y ∈ X, arA y) → hdA (U ++ V) → hd6 U → nM T N p → C.length + (X.length + (U ++ V).length) ≤ p → 12 * (N - p) + 11 ≤ f → Er d x1 Q φ0 α0 (rd T N tg f 8 o p e) → OkG d x1 Q φ0 α0 T N tk V arA (nA T N) U o (C ++ X) (rd T N tg f 8 o p e) → KG (d + 6) x1 Q φ α
theorem er_b {r : rR} {k : Nat → Int → List Int → rR} (h : Er d x1 Q φ0 α0 (bnd r k)) : Er d x1 Q φ0 α0 r := fun a pl w => h a pl (bnd_er w)
theorem er_k {r : rR} {k : Nat → Int → List Int → rR} (h : Er d x1 Q φ0 α0 (bnd r k)) {p' : Nat} {e' : Int} (w : r = .ok (p', e', c)) : Er d x1 Q φ0 α0 (k p' e' c) := by rw [bnd_ok w] at h; exact h
theorem rd_9 : rd T N tg (f + 1) 9 o p e = if isS T N p 42 ∨ isS T N p 47 then rLo T N (rd T N tg f) 5 9 o p e (T p) else .ok (p, e, []) := rfl
theorem rd_8 : rd T N tg (f + 1) 8 o p e = if isS T N p 43 ∨ isS T N p 45 then rLo T N (rd T N tg f) 4 8 o p e (T p) else .ok (p, e, []) := rfl
theorem rd_5 : rd T N tg (f + 1) 5 o p e = rPart T N tg (rd T N tg f) o p e := rfl
theorem rd_4 : rd T N tg (f + 1) 4 o p e = r2 (rd T N tg f) 5 9 o p e := rfl
theorem rd_3 : rd T N tg (f + 1) 3 o p e = r2 (rd T N tg f) 4 8 o p e := rfl
theorem s9 (h5 : S5 d x1 Q φ0 α0 T N tk tg V f) (h9 : S9 d x1 Q φ0 α0 T N tk tg V f) : S9 d x1 Q φ0 α0 T N tk tg V (f + 1) := by
  intro φ α p e U o C X z R ho hX hU h6 hl hf hE hO
  have hN := R.1.1.1
  have hp := R.1.2.2.2.2.2.2
  have he := R.1.2.2.2.2.2.1
  rw [rd_9] at hE hO
  by_cases q : isS T N p 42 ∨ isS T N p 47
  · rw [if_pos q] at hE hO
    have a := av_bd (T := T) hp
    have ap := a.2.2 (by rcases q with q | q <;> rw [q.1] <;> omega)
    have am : arM (T p) := by rcases q with q | q; (· exact Or.inl q.2); (· exact Or.inr q.2)
    have tp := tau_arM am
    refine kg_tail (U := X.map tauF ++ U) (by rw [List.append_assoc]; exact R) (by rw [List.length_append, List.length_map]; rw [List.length_append] at hl; omega) (fun w => by exfalso; have := w.2; rcases q with q | q <;> have := q.2 <;> omega) (fun φ1 f1 R1 => tl_mul (RQ_w R f1 R1) hX hU (by omega) q (fun φ2 α2 R2 f2 => ⟨fun w => by omega, fun _ => kp_1 R2.1.2.1 ?_⟩))
    have le : ∀ c1 : List Int, (C ++ X ++ c1).length = C.length + X.length + c1.length := fun c1 => by rw [List.length_append, List.length_append]
    have l1 : (tauF (T p) :: U ++ V).length = (U ++ V).length + 1 := rfl
    refine h5 φ2 α2 _ _ (tauF (T p) :: U) o (C ++ X) ((z.tr (fz_w f1)).tr f2) R2 ho (by rw [List.length_append, l1]; omega) (by omega) (er_b hE) (fun p1 e1 c1 w1 φ3 α3 z3 R3 => ?_)
    have g := rd_PG f 5 o _ _ _ (ed_le hp he) a.2.1 w1
    have g1 := g.1
    have g2 := g.2.2.1
    have g3 := g.2.2.2 (by omega)
    dsimp only at g1 g2 g3
    refine ke_kg (U := tauF (T p) :: U) R3 (by rw [le, l1]; omega) (fun u hu => by cases hu; omega) ?_
    refine h9 φ3 α3 p1 e1 U o (C ++ X ++ c1) [T p] z3 R3 ho (fun y hy => by rw [List.mem_singleton] at hy; rw [hy]; exact am) hU h6 (by rw [le]; simp only [List.length_cons, List.length_nil]; omega) (by omega) (er_b (er_k hE w1)) (fun p2 e2 c2 w2 hn X' C' hX' hc φ4 α4 z4 R4 => ?_)
    exact hO p2 e2 (c1 ++ T p :: c2) (by unfold rLo; rw [bnd_ok w1, bnd_ok w2]) hn X' C' hX' (by rw [hc]; simp) φ4 α4 z4 R4
  · rw [if_neg q] at hO
    exact hO p e [] rfl ⟨fun w => q (Or.inl w), fun w => q (Or.inr w)⟩ X C hX (by simp) φ α z R
theorem s4 (h5 : S5 d x1 Q φ0 α0 T N tk tg V f) (h9 : S9 d x1 Q φ0 α0 T N tk tg V f) : S4 d x1 Q φ0 α0 T N tk tg V (f + 1) := by
  intro φ α p e U o C z R ho hU h6 hl hf hE hO
  have hN := R.1.1.1
  have hp := R.1.2.2.2.2.2.2
  have he := R.1.2.2.2.2.2.1
  rw [rd_4] at hE hO
  refine h5 φ α p e U o C z R ho hl (by omega) (er_b hE) (fun p1 e1 c1 w1 φ3 α3 z3 R3 => ?_)
  have g := rd_PG f 5 o _ _ _ he hp w1
  have g1 := g.1
  have g2 := g.2.2.1
  have g3 := g.2.2.2 (by omega)
  dsimp only at g1 g2 g3
  refine ke_kg R3 (by rw [List.length_append]; omega) h6 ?_
  refine h9 φ3 α3 p1 e1 U o (C ++ c1) [] z3 R3 ho (fun y hy => by cases hy) hU h6 (by rw [List.length_append]; simp only [List.length_nil]; omega) (by omega) (er_b (er_k hE w1)) (fun p2 e2 c2 w2 hn X' C' hX' hc φ4 α4 z4 R4 => ?_)
  exact hO p2 e2 (c1 ++ c2) (by unfold r2; rw [bnd_ok w1, bnd_ok w2]) hn X' C' hX' (by rw [hc]; simp) φ4 α4 z4 R4
theorem s8 (h4 : S4 d x1 Q φ0 α0 T N tk tg V f) (h8 : S8 d x1 Q φ0 α0 T N tk tg V f) : S8 d x1 Q φ0 α0 T N tk tg V (f + 1) := by
  intro φ α p e U o C X z R ho hX hU h6 hm hl hf hE hO
  have hN := R.1.1.1
  have hp := R.1.2.2.2.2.2.2
  have he := R.1.2.2.2.2.2.1
  rw [rd_8] at hE hO
  by_cases q : isS T N p 43 ∨ isS T N p 45
  · rw [if_pos q] at hE hO
    have a := av_bd (T := T) hp
    have ap := a.2.2 (by rcases q with q | q <;> rw [q.1] <;> omega)
    have am : arA (T p) := by rcases q with q | q; (· exact Or.inr (Or.inr (Or.inl q.2))); (· exact Or.inr (Or.inr (Or.inr q.2)))
    have tp : tauF (T p) = 1 ∨ tauF (T p) = 2 := by rcases q with q | q; (· rw [q.2]; exact Or.inl rfl); (· rw [q.2]; exact Or.inr rfl)
    refine kg_tail (U := X.map tauF ++ U) (by rw [List.append_assoc]; exact R) (by rw [List.length_append, List.length_map]; rw [List.length_append] at hl; omega) (fun w => by exfalso; have := w.2; rcases q with q | q <;> have := q.2 <;> omega) (fun φ1 f1 R1 => tl_add (RQ_w R f1 R1) hX hU (by omega) q (fun φ2 α2 R2 f2 => ⟨fun w => by omega, fun _ => kp_1 R2.1.2.1 ?_⟩))
    have l1 : (tauF (T p) :: U ++ V).length = (U ++ V).length + 1 := rfl
    refine h4 φ2 α2 _ _ (tauF (T p) :: U) o (C ++ X) ((z.tr (fz_w f1)).tr f2) R2 ho (fun u hu => by cases hu; omega) (fun u hu => by cases hu; omega) (by rw [List.length_append, l1]; omega) (by omega) (er_b hE) (fun p1 e1 c1 w1 hm1 X1 C1 hX1 hc1 φ3 α3 z3 R3 => ?_)
    have g := rd_PG f 4 o _ _ _ (ed_le hp he) a.2.1 w1
    have g1 := g.1
    have g2 := g.2.2.1
    have g3 := g.2.2.2 (by omega)
    dsimp only at g1 g2 g3
    have lc := congrArg List.length hc1
    rw [List.length_append, List.length_append, List.length_append] at lc
    refine h8 φ3 α3 p1 e1 U o C1 (X1 ++ [T p]) z3 (by rw [List.map_append, List.append_assoc]; exact R3) ho (fun y hy => ?_) hU h6 hm1 (by rw [List.length_append]; simp only [List.length_cons, List.length_nil]; omega) (by omega) (er_b (er_k hE w1)) (fun p2 e2 c2 w2 hn X' C' hX' hc φ4 α4 z4 R4 => ?_)
    · rw [List.mem_append, List.mem_singleton] at hy
      rcases hy with hy | hy
      · rcases hX1 y hy with w | w; (· exact Or.inl w); (· exact Or.inr (Or.inl w))
      · rw [hy]; exact am
    · exact hO p2 e2 (c1 ++ T p :: c2) (by unfold rLo; rw [bnd_ok w1, bnd_ok w2]) hn X' C' hX' (by rw [hc, ← List.append_assoc, hc1]; simp) φ4 α4 z4 R4
  · rw [if_neg q] at hO
    exact hO p e [] rfl ⟨hm.1, hm.2, fun w => q (Or.inl w), fun w => q (Or.inr w)⟩ X C hX (by simp) φ α z R
theorem s3 (h4 : S4 d x1 Q φ0 α0 T N tk tg V f) (h8 : S8 d x1 Q φ0 α0 T N tk tg V f) : S3 d x1 Q φ0 α0 T N tk tg V (f + 1) := by
  intro φ α p e U o C z R ho hU h6 hl hf hE hO
  have hN := R.1.1.1
  have hp := R.1.2.2.2.2.2.2
  have he := R.1.2.2.2.2.2.1
  rw [rd_3] at hE hO
  refine h4 φ α p e U o C z R ho (fun u hu => (hU u hu).2.2) h6 hl (by omega) (er_b hE) (fun p1 e1 c1 w1 hm1 X1 C1 hX1 hc1 φ3 α3 z3 R3 => ?_)
  have g := rd_PG f 4 o _ _ _ he hp w1
  have g1 := g.1
  have g2 := g.2.2.1
  have g3 := g.2.2.2 (by omega)
  dsimp only at g1 g2 g3
  have lc := congrArg List.length hc1
  rw [List.length_append, List.length_append] at lc
  refine h8 φ3 α3 p1 e1 U o C1 X1 z3 R3 ho (fun y hy => by rcases hX1 y hy with w | w; (· exact Or.inl w); (· exact Or.inr (Or.inl w))) hU h6 hm1 (by omega) (by omega) (er_b (er_k hE w1)) (fun p2 e2 c2 w2 hn X' C' hX' hc φ4 α4 z4 R4 => ?_)
  exact hO p2 e2 (c1 ++ c2) (by unfold r2; rw [bnd_ok w1, bnd_ok w2]) hn X' C' hX' (by rw [hc, hc1]; simp) φ4 α4 z4 R4
/-- behind a SUM in brackets: not closed -/
theorem kg_open {br : Int} (R : RQ T N tk V.length φ α p e (X.map tauF ++ (br :: U ++ V)) o C) (hX : ∀ y ∈ X, arA y) (hbr : br = 20 ∨ br = 23 ∨ br = 24) (hl : C.length + (X.length + (br :: U ++ V).length) ≤ 1600) (hn : nA T N p) (hs : ¬ isS T N p 41) (h : ∀ φ', fw φ φ' → RFz φ' 1 p → KF (d + 6) x1 Q φ' α) : KG (d + 6) x1 Q φ α := by
  refine kg_tail (U := X.map tauF ++ (br :: U)) (by rw [List.append_assoc]; exact R) (by rw [List.length_append, List.length_map]; rw [List.length_append] at hl; omega) (fun w => absurd w hs) (fun φ1 f1 R1 => ?_)
  refine tl_none (X := X) (U := br :: U) (by rw [List.append_assoc]; exact RQ_w R f1 R1) hX hl hn (fun w => by cases w) (fun b U' w hb => by cases w; omega) (fun b U' w hb => by cases w; omega) (fun b U' w hb φ2 f2 F2 => ⟨fun _ => h φ2 (f1.tr f2) F2, fun w => absurd rfl w⟩) (Or.inr ⟨br, U, rfl, by omega⟩)
/-- behind the first SUM of a pair -/
theorem kg_pair {br : Int} (R : RQ T N tk V.length φ α p e (X.map tauF ++ (br :: U ++ V)) o C) (hX : ∀ y ∈ X, arA y) (hbr : br = 21 ∨ br = 22) (hl : C.length + (X.length + (br :: U ++ V).length) ≤ 1600) (hn : nA T N p) (h0 : ¬ isS T N p 44 → ∀ φ', fw φ φ' → RFz φ' 1 p → KF (d + 6) x1 Q φ' α) (h1 : isS T N p 44 → ∀ φ' α', fz φ α φ' α' → RQ T N tk V.length φ' α' (avF T N p) (edF T N p e) ((br + 2) :: U ++ V) o (C ++ X) → KP (d + 6) x1 Q φ' α') : KG (d + 6) x1 Q φ α := by
  have bv : brF (X.map tauF ++ (br :: U)) = br := by rw [br_ar X hX, brF, if_pos (by omega)]
  refine kg_tail (U := X.map tauF ++ (br :: U)) (by rw [List.append_assoc]; exact R) (by rw [List.length_append, List.length_map]; rw [List.length_append] at hl; omega) (fun w => by rw [bv]; omega) (fun φ1 f1 R1 => ?_)
  refine tl_none (X := X) (U := br :: U) (by rw [List.append_assoc]; exact RQ_w R f1 R1) hX hl hn (fun w => by cases w) (fun b U' w hb hs φ2 α2 f2 R2 => ?_) (fun b U' w hb hs φ2 f2 F2 => ⟨fun _ => h0 hs φ2 (f1.tr f2) F2, fun w => absurd rfl w⟩) (fun b U' w hb => by cases w; omega) (Or.inr ⟨br, U, rfl, by omega⟩)
  cases w
  exact ⟨fun w => by omega, fun _ => kp_1 R2.1.2.1 (h1 hs φ2 α2 ((fz_w f1).tr f2) R2)⟩
end QU
