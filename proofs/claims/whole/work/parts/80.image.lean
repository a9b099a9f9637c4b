/-! images -/
def prL (v : Int) : List Int := [v / 256, v % 256]
def blL (nw : Int → Int) (c : Int) : Nat → List Int
  | 0 => [nw (1 + 5 * c)]
  | k + 1 => blL nw c k ++ [nw (2 + 5 * c + k)]
def imC (nw : Int → Int) (M : Nat) : Nat → List Int
  | 0 => prL (nw 0)
  | c + 1 => imC nw M c ++ blL nw c M
def imP (nw : Int → Int) (n M : Nat) : Nat → List Int
  | 0 => imC nw M n
  | m + 1 => ((imP nw n M m ++ prL (nw (36 + 3 * (m : Int)))) ++ prL (nw (36 + 3 * (m : Int) + 1))) ++ prL (nw (36 + 3 * (m : Int) + 2))
def chF (f : Int → Int) : Nat → Int
  | 0 => 191
  | k + 1 => Int.tmod (3 * chF f k + f k) 251
theorem pair_all : (List.range 10000).all (fun v => decide (iAnd (iUshr (v : Int) 8) 255 = (v : Int) / 256) && decide (iAnd (v : Int) 255 = (v : Int) % 256)) = true := by decide +kernel
theorem pair8 {v : Int} (h : 0 ≤ v ∧ v ≤ 9999) : iAnd (iUshr v 8) 255 = v / 256 ∧ iAnd v 255 = v % 256 := by
  have := List.all_eq_true.mp pair_all v.toNat (List.mem_range.mpr (by omega))
  rw [Int.toNat_of_nonneg h.1] at this
  simpa using this
theorem chF_bd {f : Int → Int} : ∀ (k : Nat), (∀ i : Nat, i < k → 0 ≤ f i ∧ f i ≤ 255) → 0 ≤ chF f k ∧ chF f k ≤ 250
  | 0, _ => by simp [chF]
  | k + 1, h => by
    have ih := chF_bd k (fun i hi => h i (by omega))
    have hk := h k (by omega)
    rw [chF, Int.tmod_eq_emod_of_nonneg (by omega)]
    omega
theorem chF_ext {f g : Int → Int} : ∀ (k : Nat), (∀ i : Nat, i < k → f i = g i) → chF f k = chF g k
  | 0, _ => rfl
  | k + 1, h => by rw [chF, chF, chF_ext k (fun i hi => h i (by omega)), h k (by omega)]
section IM
variable {d j j' : Nat} {φ φ' φ0 φ1 φ2 : aF} {α α' α0 α1 α2 : aA} {Q : Int → aF → aA → Prop} {x y z v s k x1 x2 x3 x4 x5 t c o : Int} {n M ns : Nat} {rm nw nw' nw0 sr : Int → Int} {cs ct : List Int} {L : List Int}
theorem blL_len (nw : Int → Int) (c : Int) : ∀ k : Nat, (blL nw c k).length = k + 1
  | 0 => rfl
  | k + 1 => by rw [blL, List.length_append, blL_len nw c k]; rfl
theorem imC_len (nw : Int → Int) (hM : M ≤ 4) : ∀ c : Nat, (imC nw M c).length ≤ 2 + 5 * c
  | 0 => by simp [imC, prL]
  | c + 1 => by have := imC_len nw hM c; rw [imC, List.length_append, blL_len]; omega
theorem imP_len (nw : Int → Int) (hM : M ≤ 4) : ∀ m : Nat, (imP nw n M m).length ≤ 2 + 5 * n + 6 * m
  | 0 => imC_len nw hM n
  | m + 1 => by
    have := imP_len nw hM m
    rw [imP, List.length_append, List.length_append, List.length_append]
    simp only [prL, List.length_cons, List.length_nil]
    omega
def byL (L : List Int) : Prop := ∀ v ∈ L, 0 ≤ v ∧ v ≤ 255
theorem byL_a {L L' : List Int} (h : byL L) (h' : byL L') : byL (L ++ L') := fun v hv => by
  rcases List.mem_append.mp hv with q | q
  · exact h v q
  · exact h' v q
theorem byL_1 (h : 0 ≤ v ∧ v ≤ 255) : byL [v] := fun w hw => by rw [List.mem_singleton.mp hw]; exact h
theorem byL_p (h : 0 ≤ v ∧ v ≤ 9999) : byL (prL v) := fun w hw => by
  simp only [prL, List.mem_cons, List.not_mem_nil, or_false] at hw
  omega
theorem GS.s9 (G : GS n M ns rm nw) {c : Nat} (hc : c < n) : 0 ≤ nw (1 + 5 * (c : Int)) ∧ nw (1 + 5 * (c : Int)) ≤ 255 := by have := G.2.1 c hc; have := G.2.2.2.2.2.2; omega
theorem blL_by (G : GS n M ns rm nw) {c : Nat} (hc : c < n) : ∀ k : Nat, k ≤ M → byL (blL nw c k)
  | 0, _ => byL_1 (G.s9 hc)
  | k + 1, h => byL_a (blL_by G hc k (by omega)) (byL_1 (by have := G.drop (c := (c : Int)) (m := (k : Int)) (by omega) (by have := G.2.2.2.2.2.2; omega) (by omega) (by have := G.2.2.2.2.2.2; omega); omega))
theorem imC_by (G : GS n M ns rm nw) (h0 : nw 0 ≤ 999) : ∀ c : Nat, c ≤ n → byL (imC nw M c)
  | 0, _ => byL_p (by have := G.1; omega)
  | c + 1, h => byL_a (imC_by G h0 c (by omega)) (blL_by G (by omega) M (Nat.le_refl M))
theorem imP_by (G : GS n M ns rm nw) (h0 : nw 0 ≤ 999) : ∀ m : Nat, m ≤ M → byL (imP nw n M m)
  | 0, _ => imC_by G h0 n (Nat.le_refl n)
  | m + 1, h => by
    have hn := G.2.2.2.2.2.2
    have p := fun (p : Int) h1 h2 => G.2.2.2.2.2.1 m p (by omega) (by omega) h1 h2
    have p0 := p 0 (by omega) (by omega)
    rw [Int.add_zero] at p0
    exact byL_a (byL_a (byL_a (imP_by G h0 m (by omega)) (byL_p (by omega))) (byL_p (by have := p 1 (by omega) (by omega); omega))) (byL_p (by have := p 2 (by omega) (by omega); omega))
def PB (φ : aF) (α : aA) (L : List Int) : Prop := φ 6 1 3 = L.length ∧ ∀ i : Nat, i < L.length → α 4 (i : Int) = L.getD i 0
def RB (φ : aF) (α : aA) (L : List Int) : Prop := φ 11 98 198 = L.length ∧ ∀ i : Nat, i < L.length → α 266 (i : Int) = L.getD i 0
def g3 (φ : aF) (α : aA) (φ' : aF) (α' : aA) : Prop := (∀ c f o, ¬ (c = 6 ∧ o = 3) → φ' c f o = φ c f o) ∧ ∀ a : Int, a ≠ 4 → α' a = α a
theorem g3.tr (h : g3 φ α φ1 α1) (h' : g3 φ1 α1 φ2 α2) : g3 φ α φ2 α2 := ⟨fun c f o q => (h'.1 c f o q).trans (h.1 c f o q), fun a q => (h'.2 a q).trans (h.2 a q)⟩
def g6 (φ : aF) (α : aA) (φ' : aF) (α' : aA) : Prop := (∀ c f o, ¬ (c = 11 ∧ f = 98) → φ' c f o = φ c f o) ∧ ∀ a : Int, a ≠ 266 → α' a = α a
theorem g6.tr (h : g6 φ α φ1 α1) (h' : g6 φ1 α1 φ2 α2) : g6 φ α φ2 α2 := ⟨fun c f o q => (h'.1 c f o q).trans (h.1 c f o q), fun a q => (h'.2 a q).trans (h.2 a q)⟩
theorem getD_snoc {L : List Int} {v : Int} : ∀ i : Nat, i < (L ++ [v]).length → (L ++ [v]).getD i 0 = if i = L.length then v else L.getD i 0 := by
  intro i hi
  rw [List.length_append] at hi
  have hi : i < L.length + 1 := hi
  by_cases e : i = L.length
  · subst e; simp
  · rw [if_neg e, List.getD_eq_getElem?_getD, List.getD_eq_getElem?_getD, List.getElem?_append_left (by omega)]
theorem c_putL (B : PB φ α L) (hl : L.length < 64) (h : ∀ φ' α', PB φ' α' (L ++ [v]) → g3 φ α φ' α' → Q 0 φ' α') : eX6_put d 3 v φ α Q := by
  refine c_put row3 (by rw [B.1]; omega) (h _ _ ⟨by rw [upf_s, B.1, List.length_append]; simp, fun i hi => ?_⟩ ⟨fun c f o q => upf_o (by omega), fun a q => upa_fn (by omega)⟩)
  rw [getD_snoc i hi, B.1]
  show upa α 4 (L.length : Int) v 4 (i : Int) = _
  by_cases e : i = L.length
  · rw [if_pos e, e, upa_eq]
  · rw [if_neg e, upa_ni (by omega)]
    exact B.2 i (by rw [List.length_append] at hi; have hi : i < L.length + 1 := hi; omega)
theorem c_putPair (B : PB φ α L) (hl : L.length < 62) (hv : 0 ≤ v ∧ v ≤ 9999) (h : ∀ φ' α', PB φ' α' (L ++ prL v) → g3 φ α φ' α' → Q 0 φ' α') : eX10_putPair (d + 1) v φ α Q := by
  have p := pair8 hv
  refine vX10_putPair_0 ?_
  rw [p.1, p.2]
  refine c_putL B (by omega) (fun φ1 α1 B1 f1 => c_putL B1 (by rw [List.length_append]; simp; omega) (fun φ2 α2 B2 f2 => h φ2 α2 ?_ (f1.tr f2)))
  rw [List.append_assoc] at B2
  exact B2
theorem r_writesL (B : RB φ α L) (hl : L.length < 62) (h : ∀ φ' α', RB φ' α' (L ++ [v]) → g6 φ α φ' α' → Q 0 φ' α') : eX11_writes d v φ α Q := by
  refine vX11_writes_0 ⟨by rw [B.1]; omega, by rw [B.1]; unfold inR; omega, h _ _ ⟨by rw [upf_s, B.1, List.length_append]; simp, fun i hi => ?_⟩ ⟨fun c f o q => upf_o (by omega), fun a q => upa_fn (by omega)⟩⟩
  rw [getD_snoc i hi, B.1]
  by_cases e : i = L.length
  · rw [if_pos e, e, upa_eq]
  · rw [if_neg e, upa_ni (by omega)]
    exact B.2 i (by rw [List.length_append] at hi; have hi : i < L.length + 1 := hi; omega)
theorem r_writesTwo (B : RB φ α L) (hl : L.length < 61) (hv : 0 ≤ v ∧ v ≤ 9999) (h : ∀ φ' α', RB φ' α' (L ++ prL v) → g6 φ α φ' α' → Q 0 φ' α') : eX11_writesTwo (d + 1) v φ α Q := by
  refine vX11_writesTwo_0 ?_
  rw [Int.tdiv_eq_ediv_of_nonneg hv.1, Int.tmod_eq_emod_of_nonneg hv.1]
  refine ⟨by unfold inR; omega, r_writesL B (by omega) (fun φ1 α1 B1 f1 => ⟨by unfold inR; omega, r_writesL B1 (by rw [List.length_append]; simp; omega) (fun φ2 α2 B2 f2 => h φ2 α2 ?_ (f1.tr f2))⟩)⟩
  rw [List.append_assoc] at B2
  exact B2
theorem l_checkOf {o : Int} {no : Nat} (ho : isRow o no) {N : Nat} (hN : (N : Int) ≤ φ 6 1 o) (hn : φ 6 1 o ≤ no) (hb : ∀ i : Nat, i < N → 0 ≤ α (o + 1) (i : Int) ∧ α (o + 1) (i : Int) ≤ 255) (h : Q (chF (α (o + 1)) N) φ α) : ∀ (r k : Nat), k + r = N → jX6_checkOf_6 (d + 1) o N (chF (α (o + 1)) k) k φ α Q
  | 0, k, hk => by
    have z : k = N := by omega
    subst z
    exact vX6_checkOf_6 ho ⟨fun _ => h, fun q => by omega⟩
  | r + 1, k, hk => by
    have b1 := chF_bd (f := α (o + 1)) k (fun i hi => hb i (by omega))
    have b2 := hb k (by omega)
    have b3 := chF_bd (f := α (o + 1)) (k + 1) (fun i hi => hb i (by omega))
    have ih := l_checkOf ho hN hn hb h r (k + 1) (by omega)
    rw [show ((k + 1 : Nat) : Int) = (k : Int) + 1 by omega] at ih
    have lt := ho.2.1.lt
    rw [chF] at b3
    refine vX6_checkOf_6 ho ⟨fun q => by omega, fun _ => ⟨by unfold inR; omega, c_at ho (by omega) hn ⟨by unfold inR; omega, by unfold inR; omega, by unfold inR; omega, ih⟩⟩⟩
theorem c_checkOf {o : Int} {no : Nat} (ho : isRow o no) {N : Nat} (hN : (N : Int) ≤ φ 6 1 o) (hn : φ 6 1 o ≤ no) (hb : ∀ i : Nat, i < N → 0 ≤ α (o + 1) (i : Int) ∧ α (o + 1) (i : Int) ≤ 255) (h : Q (chF (α (o + 1)) N) φ α) : eX6_checkOf (d + 1) o N φ α Q := vX6_checkOf_0 ho (l_checkOf ho hN hn hb h N 0 (by omega))
theorem l_checked {o : Int} {no : Nat} (ho : isIA o no) {N : Nat} (hN : N ≤ no) (hb : ∀ i : Nat, i < N → 0 ≤ α o (i : Int) ∧ α o (i : Int) ≤ 255) (h : Q (chF (α o) N) φ α) : ∀ (r k : Nat), k + r = N → jX11_checked_6 d o N (chF (α o) k) k φ α Q
  | 0, k, hk => by
    have z : k = N := by omega
    subst z
    exact vX11_checked_6 ho ⟨fun _ => h, fun q => by omega⟩
  | r + 1, k, hk => by
    have b1 := chF_bd (f := α o) k (fun i hi => hb i (by omega))
    have b2 := hb k (by omega)
    have b3 := chF_bd (f := α o) (k + 1) (fun i hi => hb i (by omega))
    have ih := l_checked ho hN hb h r (k + 1) (by omega)
    rw [show ((k + 1 : Nat) : Int) = (k : Int) + 1 by omega] at ih
    have lt := ho.lt
    rw [chF] at b3
    refine vX11_checked_6 ho ⟨fun q => by omega, fun _ => ⟨by unfold inR; omega, by omega, by unfold inR; omega, by unfold inR; omega, by unfold inR; omega, ih⟩⟩
theorem r_checked {o : Int} {no : Nat} (ho : isIA o no) {N : Nat} (hN : N ≤ no) (hb : ∀ i : Nat, i < N → 0 ≤ α o (i : Int) ∧ α o (i : Int) ≤ 255) (h : Q (chF (α o) N) φ α) : eX11_checked d o N φ α Q := vX11_checked_0 ho (l_checked ho hN hb h N 0 (by omega))
/-- the class, behind the state's parts -/
def CI (n M ns : Nat) (rm nw : Int → Int) (φ0 : aF) (α0 : aA) (φ : aF) (α : aA) : Prop := XS 29 φ α n nw ∧ XO φ α n M ns rm ∧ g3 φ0 α0 φ α
theorem CI_g (C : CI n M ns rm nw φ0 α0 φ α) (f : g3 φ α φ' α') : CI n M ns rm nw φ0 α0 φ' α' := ⟨XS_of (f.1 _ _ _ (by omega)) (fun i _ _ => f.2 _ (by omega)) C.1, XO_of (fun _ _ => f.1 _ _ _ (by omega)) (f.2 _ (by omega)) C.2.1, C.2.2.tr f⟩
theorem l_im51 {c : Nat} (G : GS n M ns rm nw) (hc : c < n) (h : ∀ φ' α', CI n M ns rm nw φ0 α0 φ' α' → PB φ' α' (L ++ blL nw c M) → jX10_image_20 (d + 2) ((c : Int) + 1) φ' α' Q) (hl : L.length ≤ 2 + 5 * c) : ∀ (r k : Nat), k + r = M → ∀ (φ : aF) (α : aA), CI n M ns rm nw φ0 α0 φ α → PB φ α (L ++ blL nw c k) → jX10_image_51 (d + 2) c k φ α Q
  | 0, k, hk, φ, α, C, B => by
    have z : k = M := by omega
    have O := C.2.1.2.1
    subst z
    exact vX10_image_51 ⟨fun _ => ⟨by have := G.2.2.2.2.2.2; unfold inR; omega, h φ α C B⟩, fun q => by omega⟩
  | r + 1, k, hk, φ, α, C, B => by
    have hn := G.2.2.2.2.2.2
    have O := C.2.1.2.1
    refine vX10_image_51 ⟨fun q => by omega, fun _ => c_dropsOf st29 C.1 (by omega) (by omega) (c_putL B (by rw [List.length_append, blL_len]; omega) (fun φ1 α1 B1 f1 => ⟨by unfold inR; omega, ?_⟩))⟩
    rw [List.append_assoc] at B1
    have := l_im51 G hc h hl r (k + 1) (by omega) φ1 α1 (CI_g C f1) B1
    rw [show ((k + 1 : Nat) : Int) = (k : Int) + 1 by omega] at this
    exact this
theorem l_im20 (G : GS n M ns rm nw) (h : ∀ φ' α', CI n M ns rm nw φ0 α0 φ' α' → PB φ' α' (imC nw M n) → jX10_image_92 (d + 2) 0 φ' α' Q) : ∀ (r c : Nat), c + r = n → ∀ (φ : aF) (α : aA), CI n M ns rm nw φ0 α0 φ α → PB φ α (imC nw M c) → jX10_image_20 (d + 2) c φ α Q
  | 0, c, hk, φ, α, C, B => by
    have z : c = n := by omega
    have O := C.2.1.2.2.1
    subst z
    exact vX10_image_20 ⟨fun _ => h φ α C B, fun q => by omega⟩
  | r + 1, c, hk, φ, α, C, B => by
    have hn := G.2.2.2.2.2.2
    have O := C.2.1.2.2.1
    have hl := imC_len nw hn.2.1 c
    refine vX10_image_20 ⟨fun q => by omega, fun _ => c_pick (st1 st29) ⟨by omega, by omega⟩ ?_⟩
    rw [show α 30 (c : Int) = nw (1 + 5 * (c : Int)) from C.1.2.1 c (by omega) (by omega)]
    refine c_putL B (by omega) (fun φ1 α1 B1 f1 => ?_)
    have := l_im51 (d := d) (Q := Q) (φ0 := φ0) (α0 := α0) (L := imC nw M c) (c := c) G (by omega) (fun φ2 α2 C2 B2 => by
      have := l_im20 G h r (c + 1) (by omega) φ2 α2 C2 B2
      rw [show ((c + 1 : Nat) : Int) = (c : Int) + 1 by omega] at this
      exact this) hl M 0 (by omega) φ1 α1 (CI_g C f1) B1
    simpa using this
theorem l_im92 (G : GS n M ns rm nw) (h0 : nw 0 ≤ 999) (h : ∀ φ' α', CI n M ns rm nw φ0 α0 φ' α' → PB φ' α' (imP nw n M M ++ [chF (fun i => (imP nw n M M).getD i.toNat 0) (imP nw n M M).length]) → Q ((imP nw n M M).length + 1) φ' α') : ∀ (r m : Nat), m + r = M → ∀ (φ : aF) (α : aA), CI n M ns rm nw φ0 α0 φ α → PB φ α (imP nw n M m) → jX10_image_92 (d + 2) m φ α Q
  | 0, m, hk, φ, α, C, B => by
    have hn := G.2.2.2.2.2.2
    have z : m = M := by omega
    have O := C.2.1.2.1
    subst z
    have hl := imP_len (n := n) nw hn.2.1 m
    have hby := imP_by G h0 m (Nat.le_refl m)
    refine vX10_image_92 ⟨fun _ => ?_, fun q => by omega⟩
    rw [B.1]
    have ev : ∀ i : Nat, i < (imP nw n m m).length → α (3 + 1) (i : Int) = (imP nw n m m).getD i 0 := B.2
    refine c_checkOf row3 (by rw [B.1]; omega) (by rw [B.1]; omega) (fun i hi => by
      rw [ev i hi, List.getD_eq_getElem?_getD, List.getElem?_eq_getElem hi]
      exact hby _ (List.getElem_mem hi)) ?_
    rw [chF_ext (g := fun i => (imP nw n m m).getD i.toNat 0) _ (fun i hi => by rw [ev i hi]; rfl)]
    refine c_putL B (by omega) (fun φ1 α1 B1 f1 => ?_)
    have := h φ1 α1 (CI_g C f1) B1
    rw [B1.1, List.length_append]
    simpa using this
  | r + 1, m, hk, φ, α, C, B => by
    have hn := G.2.2.2.2.2.2
    have O := C.2.1.2.1
    have hl := imP_len (n := n) nw hn.2.1 m
    have p := fun (p : Int) h1 h2 => G.2.2.2.2.2.1 m p (by omega) (by omega) h1 h2
    have p0 := p 0 (by omega) (by omega)
    have p1 := p (0 + 1) (by omega) (by omega)
    have p2 := p (0 + 1 + 1) (by omega) (by omega)
    have l1 : ∀ (L : List Int) (v : Int), (L ++ prL v).length = L.length + 2 := fun L v => by rw [List.length_append]; rfl
    refine vX10_image_92 ⟨fun q => by omega, fun _ => vX10_image_105 ⟨fun q => by omega, fun _ => c_poolOf st29 C.1 (by omega) (by omega) (c_putPair B (by omega) (by omega) (fun φ1 α1 B1 f1 => ⟨by unfold inR; omega, ?_⟩))⟩⟩
    have C1 := CI_g C f1
    refine vX10_image_105 ⟨fun q => by omega, fun _ => c_poolOf st29 C1.1 (by omega) (by omega) (c_putPair B1 (by rw [l1]; omega) (by omega) (fun φ2 α2 B2 f2 => ⟨by unfold inR; omega, ?_⟩))⟩
    have C2 := CI_g C1 f2
    refine vX10_image_105 ⟨fun q => by omega, fun _ => c_poolOf st29 C2.1 (by omega) (by omega) (c_putPair B2 (by rw [l1, l1]; omega) (by omega) (fun φ3 α3 B3 f3 => ⟨by unfold inR; omega, ?_⟩))⟩
    have C3 := CI_g C2 f3
    refine vX10_image_105 ⟨fun _ => ⟨by unfold inR; omega, ?_⟩, fun q => by omega⟩
    rw [Int.add_zero, show (0 + 1 + 1 : Int) = 2 by omega, show (0 + 1 : Int) = 1 by omega] at B3
    have := l_im92 G h0 h r (m + 1) (by omega) φ3 α3 C3 B3
    rw [show ((m + 1 : Nat) : Int) = (m : Int) + 1 by omega] at this
    exact this
theorem l_imM27 {c : Nat} (G : GS n M ns rm nw) (hc : c < n) (h : ∀ φ' α', g6 φ0 α0 φ' α' → RB φ' α' (L ++ blL nw c M) → jX11_image_17 (d + 2) ((c : Int) + 1) φ' α' Q) (hl : L.length ≤ 2 + 5 * c) (O0 : MO α0 n M ns rm) (e0 : α0 233 = nw) : ∀ (r k : Nat), k + r = M → ∀ (φ : aF) (α : aA), g6 φ0 α0 φ α → RB φ α (L ++ blL nw c k) → jX11_image_27 (d + 2) c ((k : Int) + 1) φ α Q
  | 0, k, hk, φ, α, f, B => by
    have z : k = M := by omega
    subst z
    have O := MO_a (fun a _ _ => f.2 a (by omega)) O0
    exact vX11_image_27 (r_mMany O.1 ⟨fun _ => ⟨by have := G.2.2.2.2.2.2; unfold inR; omega, h φ α f B⟩, fun q => by omega⟩)
  | r + 1, k, hk, φ, α, f, B => by
    have hn := G.2.2.2.2.2.2
    have O := MO_a (fun a _ _ => f.2 a (by omega)) O0
    refine vX11_image_27 (r_mMany O.1 ⟨fun q => by omega, fun _ => ⟨by unfold inR; omega, by unfold inR; omega, by unfold inR; omega, ⟨by omega, by omega⟩, ?_⟩⟩)
    rw [f.2 233 (by omega), e0, show 1 + 5 * (c : Int) + ((k : Int) + 1) = 2 + 5 * (c : Int) + k by omega]
    refine r_writesL B (by rw [List.length_append, blL_len]; omega) (fun φ1 α1 B1 f1 => ⟨by unfold inR; omega, ?_⟩)
    rw [List.append_assoc] at B1
    have := l_imM27 G hc h hl O0 e0 r (k + 1) (by omega) φ1 α1 (f.tr f1) B1
    rw [show ((k + 1 : Nat) : Int) = (k : Int) + 1 by omega] at this
    exact this
theorem l_imM17 (G : GS n M ns rm nw) (O0 : MO α0 n M ns rm) (e0 : α0 233 = nw) (h : ∀ φ' α', g6 φ0 α0 φ' α' → RB φ' α' (imC nw M n) → jX11_image_65 (d + 2) 0 φ' α' Q) : ∀ (r c : Nat), c + r = n → ∀ (φ : aF) (α : aA), g6 φ0 α0 φ α → RB φ α (imC nw M c) → jX11_image_17 (d + 2) c φ α Q
  | 0, c, hk, φ, α, f, B => by
    have z : c = n := by omega
    subst z
    have O := MO_a (fun a _ _ => f.2 a (by omega)) O0
    exact vX11_image_17 (r_cMany O.2.1 ⟨fun _ => h φ α f B, fun q => by omega⟩)
  | r + 1, c, hk, φ, α, f, B => by
    have hn := G.2.2.2.2.2.2
    have O := MO_a (fun a _ _ => f.2 a (by omega)) O0
    have hl := imC_len nw hn.2.1 c
    refine vX11_image_17 (r_cMany O.2.1 ⟨fun q => by omega, fun _ => vX11_image_27 (r_mMany O.1 ⟨fun q => by omega, fun _ => ⟨by unfold inR; omega, by unfold inR; omega, by unfold inR; omega, ⟨by omega, by omega⟩, ?_⟩⟩)⟩)
    rw [f.2 233 (by omega), e0, Int.add_zero]
    refine r_writesL B (by omega) (fun φ1 α1 B1 f1 => ⟨by unfold inR; omega, ?_⟩)
    have := l_imM27 (d := d) (Q := Q) (φ0 := φ0) (α0 := α0) (L := imC nw M c) (c := c) G (by omega) (fun φ2 α2 f2 B2 => by
      have := l_imM17 G O0 e0 h r (c + 1) (by omega) φ2 α2 f2 B2
      rw [show ((c + 1 : Nat) : Int) = (c : Int) + 1 by omega] at this
      exact this) hl O0 e0 M 0 (by omega) φ1 α1 (f.tr f1) B1
    exact this
theorem ia266 : isIA 266 62 := fun _ => rfl
theorem l_imM65 (G : GS n M ns rm nw) (h0 : nw 0 ≤ 999) (O0 : MO α0 n M ns rm) (e0 : α0 233 = nw) (h : ∀ φ' α', g6 φ0 α0 φ' α' → RB φ' α' (imP nw n M M ++ [chF (fun i => (imP nw n M M).getD i.toNat 0) (imP nw n M M).length]) → Q ((imP nw n M M).length + 1) φ' α') : ∀ (r m : Nat), m + r = M → ∀ (φ : aF) (α : aA), g6 φ0 α0 φ α → RB φ α (imP nw n M m) → jX11_image_65 (d + 2) (3 * (m : Int)) φ α Q
  | 0, m, hk, φ, α, f, B => by
    have hn := G.2.2.2.2.2.2
    have z : m = M := by omega
    subst z
    have O := MO_a (fun a _ _ => f.2 a (by omega)) O0
    have hl := imP_len (n := n) nw hn.2.1 m
    have hby := imP_by G h0 m (Nat.le_refl m)
    refine vX11_image_65 (r_mMany O.1 ⟨by unfold inR; omega, fun _ => ?_, fun q => by omega⟩)
    rw [B.1]
    refine r_checked ia266 (by omega) (fun i hi => by
      rw [B.2 i hi, List.getD_eq_getElem?_getD, List.getElem?_eq_getElem hi]
      exact hby _ (List.getElem_mem hi)) ?_
    rw [chF_ext (g := fun i => (imP nw n m m).getD i.toNat 0) _ (fun i hi => by rw [B.2 i hi]; rfl)]
    refine r_writesL B (by omega) (fun φ1 α1 B1 f1 => ?_)
    have := h φ1 α1 (f.tr f1) B1
    rw [B1.1, List.length_append]
    simpa using this
  | r + 1, m, hk, φ, α, f, B => by
    have hn := G.2.2.2.2.2.2
    have hl := imP_len (n := n) nw hn.2.1 m
    have p := fun (p : Int) h1 h2 => G.2.2.2.2.2.1 m p (by omega) (by omega) h1 h2
    have p0 := p 0 (by omega) (by omega)
    have p1 := p 1 (by omega) (by omega)
    have p2 := p 2 (by omega) (by omega)
    rw [Int.add_zero] at p0
    have l1 : ∀ (L : List Int) (v : Int), (L ++ prL v).length = L.length + 2 := fun L v => by rw [List.length_append]; rfl
    have step : ∀ (φ : aF) (α : aA) (L : List Int) (i : Int), 0 ≤ i → i < 3 * (M : Int) → g6 φ0 α0 φ α → RB φ α L → L.length < 61 → 0 ≤ nw (36 + i) ∧ nw (36 + i) ≤ 9999 → (∀ φ' α', g6 φ0 α0 φ' α' → RB φ' α' (L ++ prL (nw (36 + i))) → jX11_image_65 (d + 2) (i + 1) φ' α' Q) → jX11_image_65 (d + 2) i φ α Q := by
      intro φ α L i i1 i2 f B hL hv hh
      have O := MO_a (fun a _ _ => f.2 a (by omega)) O0
      refine vX11_image_65 (r_mMany O.1 ⟨by unfold inR; omega, fun q => by omega, fun _ => ⟨by unfold inR; omega, ⟨by omega, by omega⟩, ?_⟩⟩)
      rw [f.2 233 (by omega), e0]
      exact r_writesTwo B hL hv (fun φ1 α1 B1 f1 => ⟨by unfold inR; omega, hh φ1 α1 (f.tr f1) B1⟩)
    refine step φ α _ _ (by omega) (by omega) f B (by omega) (by omega) (fun φ1 α1 f1 B1 => step φ1 α1 _ _ (by omega) (by omega) f1 B1 (by rw [l1]; omega) (by rw [show 36 + (3 * (m : Int) + 1) = 36 + 3 * (m : Int) + 1 by omega]; omega) (fun φ2 α2 f2 B2 => step φ2 α2 _ _ (by omega) (by omega) f2 B2 (by rw [l1, l1]; omega) (by rw [show 36 + (3 * (m : Int) + 1 + 1) = 36 + 3 * (m : Int) + 2 by omega]; omega) (fun φ3 α3 f3 B3 => ?_)))
    rw [show 36 + (3 * (m : Int) + 1 + 1) = 36 + 3 * (m : Int) + 2 by omega, show 36 + (3 * (m : Int) + 1) = 36 + 3 * (m : Int) + 1 by omega] at B3
    have := l_imM65 G h0 O0 e0 h r (m + 1) (by omega) φ3 α3 f3 B3
    rw [show 3 * ((m + 1 : Nat) : Int) = 3 * (m : Int) + 1 + 1 + 1 by omega] at this
    exact this
theorem p_image (hj : j < 512) (I : Inv sr j φ α) : eX10_image (d + 20) φ α (fun r φ1 α1 => eX11_image (d + 20) φ1 α1 (pq sr j r)) := by
  obtain ⟨n, M, ns, rm, cs, ct, I⟩ := I
  have G := I.G
  have D := I.D
  have hn := G.2.2.2.2.2.2
  have g0 := G.1
  have hl := imP_len (n := n) (α 233) hn.2.1 M
  refine vX10_image_0 (c_clear row3 ?_)
  rw [upf_o (by omega), I.X.1]
  have C0 : CI n M ns rm (α 233) φ α (upf φ 6 1 3 0) α := CI_g ⟨I.X, I.XO, fun _ _ _ _ => rfl, fun _ _ => rfl⟩ ⟨fun c f o q => upf_o (by omega), fun _ _ => rfl⟩
  refine c_putPair (L := []) ⟨upf_s, fun i hi => absurd hi (Nat.not_lt_zero i)⟩ (by decide) (by omega) (fun φ1 α1 B1 f1 => ?_)
  have := l_im20 (d := d + 18) (Q := fun r φ1 α1 => eX11_image (d + 20) φ1 α1 (pq sr j r)) (φ0 := φ) (α0 := α) (nw := α 233) G (fun φ2 α2 C2 B2 => by
    have := l_im92 (d := d + 18) (Q := fun r φ1 α1 => eX11_image (d + 20) φ1 α1 (pq sr j r)) (φ0 := φ) (α0 := α) (nw := α 233) G D (fun φ3 α3 C3 B3 => by
      have O3 := MO_a (fun a _ _ => C3.2.2.2 a (by omega)) I.MO
      have e3 : α3 233 = α 233 := C3.2.2.2 _ (by omega)
      refine vX11_image_0 ?_
      rw [e3]
      have f0 : g6 φ3 α3 (upf φ3 11 98 198 0) α3 := ⟨fun c f o q => upf_o (by omega), fun _ _ => rfl⟩
      refine r_writesTwo (L := []) ⟨upf_s, fun i hi => absurd hi (Nat.not_lt_zero i)⟩ (by decide) (by omega) (fun φ4 α4 B4 f4 => ?_)
      have := l_imM17 (d := d + 18) (Q := pq sr j ((imP (α 233) n M M).length + 1)) (φ0 := φ3) (α0 := α3) (nw := α 233) G O3 e3 (fun φ5 α5 f5 B5 => by
        have := l_imM65 (d := d + 18) (Q := pq sr j ((imP (α 233) n M M).length + 1)) (φ0 := φ3) (α0 := α3) (nw := α 233) G D O3 e3 (fun φ6 α6 f6 B6 => by
          refine ⟨rfl, n, M, ns, rm, cs, ct, Iv_Z (Nat.le_succ j) I (fun c f o q1 q2 => (f6.1 c f o (by omega)).trans (C3.2.2.1 c f o (by omega))) (fun a q1 q2 q3 q4 q5 q6 => (f6.2 a q4).trans (C3.2.2.2 a q3)) (iT_of ((f6.1 _ _ _ (by omega)).trans (C3.2.2.1 _ _ _ (by omega))) ((f6.1 _ _ _ (by omega)).trans (C3.2.2.1 _ _ _ (by omega))) ((f6.2 _ (by omega)).trans (C3.2.2.2 _ (by omega))) ((f6.2 _ (by omega)).trans (C3.2.2.2 _ (by omega))) I.2.1) (iS_of ((f6.1 _ _ _ (by omega)).trans (C3.2.2.1 _ _ _ (by omega))) ((f6.1 _ _ _ (by omega)).trans (C3.2.2.1 _ _ _ (by omega))) ((f6.2 _ (by omega)).trans (C3.2.2.2 _ (by omega))) ((f6.2 _ (by omega)).trans (C3.2.2.2 _ (by omega))) I.seen) ?_⟩
          have e63 : φ6 6 1 3 = φ3 6 1 3 := f6.1 _ _ _ (by omega)
          have ll : (imP (α 233) n M M ++ [chF (fun i => (imP (α 233) n M M).getD i.toNat 0) (imP (α 233) n M M).length]).length = (imP (α 233) n M M).length + 1 := by rw [List.length_append]; rfl
          refine ⟨by rw [e63, B3.1, B6.1], by rw [B6.1]; omega, by rw [B6.1, ll]; omega, fun i q1 q2 => ?_⟩
          rw [B6.1] at q2
          have z := B3.2 i.toNat (by omega)
          have z' := B6.2 i.toNat (by omega)
          rw [Int.toNat_of_nonneg q1] at z z'
          rw [f6.2 4 (by omega), z, z']) M 0 (by omega) φ5 α5 f5 B5
        simpa using this) n 0 (by omega) φ4 α4 (f0.tr f4) B4
      simpa using this) M 0 (by omega) φ2 α2 C2 B2
    simpa using this) n 0 (by omega) φ1 α1 (CI_g C0 f1) B1
  simpa using this
end IM
