/-! the joint invariant of class and reference -/
def XK (b : Int) (φ : aF) (α : aA) (nw : Int → Int) : Prop :=
  0 ≤ φ 7 7 b ∧ φ 7 7 b < 40 ∧ φ 7 8 b = nw 48 ∧ 0 ≤ nw 48 ∧ nw 48 ≤ 40 ∧ ∀ k w : Int, 0 ≤ k → k < nw 48 → 0 ≤ w → w < 3 → α (b + 6) (3 * ((φ 7 7 b + k) % 40) + w) = nw (49 + 3 * k + w)
/-- a State of the class and a row of the reference tell the same -/
def SN (b : Int) (φ : aF) (α : aA) (n M ns : Nat) (rm : Int → Int) (cs : List Int) (nw : Int → Int) : Prop :=
  XS b φ α n nw ∧ GS n M ns rm nw ∧ XK b φ α nw ∧ nw 0 ≤ 999 ∧ stl b φ n M ns rm cs nw
def iT (φ : aF) (α : aA) : Prop := φ 6 1 1 = φ 11 1 198 ∧ 0 ≤ φ 11 1 198 ∧ φ 11 1 198 ≤ 1600 ∧ ∀ i : Int, 0 ≤ i → i < φ 11 1 198 → α 2 i = α 199 i ∧ 0 ≤ α 199 i ∧ α 199 i ≤ 255
def iF (φ : aF) : Prop := φ 5 5 185 = φ 11 7 198 ∧ φ 5 6 185 = φ 11 8 198
def iR (j : Nat) (α : aA) : Prop := ∀ i : Int, 0 ≤ i → i < 6 → α 197 i = α 200 i ∧ 0 ≤ α 200 i ∧ α 200 i ≤ j
def iD (φ : aF) : Prop := φ 10 15 0 = φ 11 62 198 ∧ 0 ≤ φ 11 62 198 ∧ φ 11 62 198 < 2147483648
def iV (j : Nat) (φ : aF) : Prop := φ 11 52 198 = 0 ∧ 0 ≤ φ 11 53 198 ∧ φ 11 53 198 ≤ 4000000 * (j : Int)
/-- the code of shakes -/
def SH (φ : aF) (α : aA) (ct : List Int) : Prop :=
  φ 6 1 17 = ct.length ∧ (∀ i : Nat, i < ct.length → α 18 (i : Int) = ct.getD i 0) ∧ ct.length ≤ 1600 ∧ tyL2 [] ct = some [true] ∧ (∀ ce ∈ ct, ce ≠ 13 ∧ ce ≠ 1 ∧ ce ≠ 17 ∧ ce ≠ 30 ∧ ce ≠ 31) ∧ ((α 230 3 = -1 ∧ ct = [21]) ∨ ∃ f : Int, RC α 1 f ct)
def iO (n M ns : Nat) (rm : Int → Int) (cs ct : List Int) (φ : aF) (α : aA) : Prop :=
  XO φ α n M ns rm ∧ MO α n M ns rm ∧ (∀ c : Int, 0 ≤ c → c < n → 0 ≤ rm c) ∧ (φ 2 5 9 = α 225 3 ∧ 0 ≤ α 225 3 ∧ α 225 3 ≤ 100) ∧ ((∀ m : Int, 0 ≤ m → m < M → α 10 m = α 227 (16 + m) ∧ 0 ≤ α 227 (16 + m) ∧ α 227 (16 + m) < 387420489) ∧ (∀ c : Int, 0 ≤ c → c < n → α 10 (4 + c) = α 227 (24 + c) ∧ 0 ≤ α 227 (24 + c) ∧ α 227 (24 + c) < 387420489)) ∧ φ 2 0 9 = φ 11 46 198 ∧ ((φ 11 46 198 = 0 ∧ n = 0 ∧ M = 0 ∧ ns = 0) ∨ (φ 11 46 198 = 1 ∧ XE φ α n M ns rm cs ∧ ME α n M ns rm cs ∧ SH φ α ct))
def iN (n M ns : Nat) (rm : Int → Int) (cs : List Int) (φ : aF) (α : aA) : Prop := SN 29 φ α n M ns rm cs (α 233)
def iP (n M ns : Nat) (rm : Int → Int) (cs : List Int) (φ : aF) (α : aA) : Prop :=
  0 ≤ φ 3 1 43 ∧ φ 3 1 43 < 20 ∧ φ 11 61 198 = φ 3 1 43 ∧ φ 3 2 43 = φ 11 60 198 ∧ 0 ≤ φ 11 60 198 ∧ φ 11 60 198 ≤ 20 ∧ ∀ i : Int, 0 ≤ i → i < φ 11 60 198 → SN (45 + 7 * ((φ 3 1 43 + 19 - i) % 20)) φ α n M ns rm cs (fun z => α 238 (169 * ((φ 3 1 43 + 20 - i) % 20) + z))
def iS (n M : Nat) (φ : aF) (α : aA) : Prop :=
  φ 6 1 5 = 4 * φ 11 55 198 ∧ 0 ≤ φ 11 55 198 ∧ φ 11 55 198 ≤ 16 ∧ (∀ i : Int, 0 ≤ i → i < 4 * φ 11 55 198 → α 6 i = α 236 i) ∧ ∀ k : Int, 0 ≤ k → k < φ 11 55 198 → (0 ≤ α 236 (4 * k) ∧ α 236 (4 * k) ≤ 30) ∧ (0 ≤ α 236 (4 * k + 1) ∧ α 236 (4 * k + 1) < n) ∧ (0 ≤ α 236 (4 * k + 2) ∧ α 236 (4 * k + 2) < M) ∧ (0 ≤ α 236 (4 * k + 3) ∧ α 236 (4 * k + 3) ≤ 99)
def iC (φ : aF) (α : aA) : Prop := φ 6 1 3 = φ 11 98 198 ∧ 0 ≤ φ 11 98 198 ∧ φ 11 98 198 ≤ 62 ∧ ∀ i : Int, 0 ≤ i → i < φ 11 98 198 → α 4 i = α 266 i
def cw (s : String) : List Int := s.toList.map (fun c => (c.toNat : Int))
def wdl : List (List Int) := ["seats", "matter", "clerk", "at", "room", "told", "of", "leaks", "shakes", "hand", "full", "seat", "day", "drops", "space", "off", "number", "mind", "or", "and", "not", "all", "min", "max", "first", "last", "often", "total", "most", "least"].map cw
def wdq : List (List Int) := ["first", "last", "often", "total", "most", "least", "not", "and", "or", "all", "min", "max", "full", "room", "seat", "day", "drops", "space", "matter", "off", "number", "mind", "drops", "off"].map cw
def pkw (l : List Int) : Int := l.foldl (fun v c => 27 * v + (c - 96)) 0
def iW (α : aA) : Prop := (∀ k : Nat, k < 30 → α 187 (k : Int) = pkw (wdl.getD k [])) ∧ (∀ k i : Nat, k < 24 → i < (wdl.getD k []).length → α (201 + (k : Int)) (i : Int) = (wdl.getD k []).getD i 0) ∧ (∀ k i : Nat, k < 24 → i < (wdq.getD k []).length → α (239 + (k : Int)) (i : Int) = (wdq.getD k []).getD i 0)
/-- behind j calls of the script sr -/
def Iv (n M ns : Nat) (rm : Int → Int) (cs ct : List Int) (sr : Int → Int) (j : Nat) (φ : aF) (α : aA) : Prop :=
  α (-1) = sr ∧ iT φ α ∧ iF φ ∧ iR j α ∧ iD φ ∧ iV j φ ∧ iO n M ns rm cs ct φ α ∧ iN n M ns rm cs φ α ∧ iP n M ns rm cs φ α ∧ iS n M φ α ∧ iC φ α ∧ iW α
def Inv (sr : Int → Int) (j : Nat) (φ : aF) (α : aA) : Prop := ∃ n M ns rm cs ct, Iv n M ns rm cs ct sr j φ α
section IV
variable {φ φ' : aF} {α α' : aA} {b : Int} {n M ns j j' : Nat} {rm nw nw' sr : Int → Int} {cs ct : List Int}
theorem stl_ext (G : GS n M ns rm nw) (h : nwE nw nw') (h9 : φ' 7 9 b = φ 7 9 b) (h10 : φ' 7 10 b = φ 7 10 b) (S : stl b φ n M ns rm cs nw) : stl b φ' n M ns rm cs nw' := by
  unfold stl
  rw [h9, h10]
  rcases S with S | ⟨s1, s2, s3, s4⟩
  · exact Or.inl S
  · have e := dayF_E s4 G h
    exact Or.inr ⟨s1, fun i q1 q2 => by rw [h i q1 q2, e.1 i q1 q2]; exact s2 i q1 q2, e.2.trans s3, s4⟩
theorem XK_of (h7 : φ' 7 7 b = φ 7 7 b) (h8 : φ' 7 8 b = φ 7 8 b) (ha : α' (b + 6) = α (b + 6)) (hn : ∀ i, 48 ≤ i → i < 169 → nw' i = nw i) (K : XK b φ α nw) : XK b φ' α' nw' := by
  unfold XK at K ⊢
  rw [h7, h8, ha, hn 48 (by omega) (by omega)]
  refine ⟨K.1, K.2.1, K.2.2.1, K.2.2.2.1, K.2.2.2.2.1, fun k w q1 q2 q3 q4 => ?_⟩
  rw [hn _ (by omega) (by omega)]
  exact K.2.2.2.2.2 k w q1 q2 q3 q4
theorem SN_of (hf : ∀ f, f = 0 ∨ f = 7 ∨ f = 8 ∨ f = 9 ∨ f = 10 → φ' 7 f b = φ 7 f b) (ha : ∀ i : Int, 1 ≤ i → i ≤ 6 → α' (b + i) = α (b + i)) (hn : ∀ i, 0 ≤ i → i < 169 → nw' i = nw i) (S : SN b φ α n M ns rm cs nw) : SN b φ' α' n M ns rm cs nw' := by
  obtain ⟨X, G, K, D, T⟩ := S
  exact ⟨XS_nw G.2.2.2.2.2.2.1 (fun i q1 q2 => hn i q1 (by omega)) (XS_of (hf 0 (by omega)) (fun i q1 q2 => ha i q1 (by omega)) X), GS_nw (fun i q1 q2 => hn i q1 (by omega)) G, XK_of (hf 7 (by omega)) (hf 8 (by omega)) (ha 6 (by omega) (by omega)) (fun i q1 q2 => hn i (by omega) q2) K, by rw [hn 0 (by omega) (by omega)]; exact D, stl_ext G (fun i q1 q2 => hn i (by omega) (by omega)) (hf 9 (by omega)) (hf 10 (by omega)) T⟩
theorem iT_of (h1 : φ' 6 1 1 = φ 6 1 1) (h2 : φ' 11 1 198 = φ 11 1 198) (h3 : α' 2 = α 2) (h4 : α' 199 = α 199) (h : iT φ α) : iT φ' α' := by unfold iT at *; rw [h1, h2, h3, h4]; exact h
theorem iF_of (h1 : φ' 5 5 185 = φ 5 5 185) (h2 : φ' 5 6 185 = φ 5 6 185) (h3 : φ' 11 7 198 = φ 11 7 198) (h4 : φ' 11 8 198 = φ 11 8 198) (h : iF φ) : iF φ' := by unfold iF at *; rw [h1, h2, h3, h4]; exact h
theorem iR_of (hj : j ≤ j') (h1 : α' 197 = α 197) (h2 : α' 200 = α 200) (h : iR j α) : iR j' α' := by
  unfold iR at *
  rw [h1, h2]
  exact fun i q1 q2 => ⟨(h i q1 q2).1, (h i q1 q2).2.1, by have := (h i q1 q2).2.2; omega⟩
theorem iD_of (h1 : φ' 10 15 0 = φ 10 15 0) (h2 : φ' 11 62 198 = φ 11 62 198) (h : iD φ) : iD φ' := by unfold iD at *; rw [h1, h2]; exact h
theorem SH_of (h1 : φ' 6 1 17 = φ 6 1 17) (h2 : α' 18 = α 18) (h3 : ∀ a : Int, 225 ≤ a → a ≤ 232 → α' a = α a) (h : SH φ α ct) : SH φ' α' ct := by
  unfold SH RC at *
  rw [h1, h2, h3 230 (by omega) (by omega), h3 231 (by omega) (by omega), h3 232 (by omega) (by omega)]
  exact h
theorem iO_of (h1 : ∀ f, φ' 2 f 9 = φ 2 f 9) (h2 : φ' 11 46 198 = φ 11 46 198) (h3 : φ' 6 1 15 = φ 6 1 15) (h4 : φ' 6 1 17 = φ 6 1 17) (h5 : ∀ a : Int, 9 ≤ a → a ≤ 18 → α' a = α a) (h6 : ∀ a : Int, 225 ≤ a → a ≤ 232 → α' a = α a) (h : iO n M ns rm cs ct φ α) : iO n M ns rm cs ct φ' α' := by
  unfold iO XO MO at *
  rw [h1 2, h1 3, h1 4, h1 5, h1 0, h2, h5 11 (by omega) (by omega), h5 10 (by omega) (by omega), h6 226 (by omega) (by omega), h6 225 (by omega) (by omega), h6 228 (by omega) (by omega), h6 227 (by omega) (by omega)]
  refine ⟨h.1, h.2.1, h.2.2.1, h.2.2.2.1, h.2.2.2.2.1, h.2.2.2.2.2.1, ?_⟩
  rcases h.2.2.2.2.2.2 with q | ⟨q1, q2, q3, q4⟩
  · exact Or.inl q
  · refine Or.inr ⟨q1, ?_, ME_of h6 q3, SH_of h4 (h5 18 (by omega) (by omega)) h6 q4⟩
    unfold XE XO at q2 ⊢
    rw [h1 2, h1 3, h1 4, h1 8, h3, h5 11 (by omega) (by omega), h5 16 (by omega) (by omega)]
    exact q2
theorem iN_of (hf : ∀ f, f = 0 ∨ f = 7 ∨ f = 8 ∨ f = 9 ∨ f = 10 → φ' 7 f 29 = φ 7 f 29) (ha : ∀ i : Int, 30 ≤ i → i ≤ 35 → α' i = α i) (hn : α' 233 = α 233) (h : iN n M ns rm cs φ α) : iN n M ns rm cs φ' α' := by
  unfold iN at *
  exact SN_of hf (fun i q1 q2 => ha _ (by omega) (by omega)) (fun i _ _ => by rw [hn]) h
theorem iP_of (h1 : φ' 3 1 43 = φ 3 1 43) (h2 : φ' 3 2 43 = φ 3 2 43) (h3 : φ' 11 60 198 = φ 11 60 198) (h4 : φ' 11 61 198 = φ 11 61 198) (hf : ∀ f o, 45 ≤ o → o ≤ 184 → φ' 7 f o = φ 7 f o) (ha : ∀ i : Int, 45 ≤ i → i ≤ 184 → α' i = α i) (hn : α' 238 = α 238) (h : iP n M ns rm cs φ α) : iP n M ns rm cs φ' α' := by
  unfold iP at *
  rw [h1, h2, h3, h4, hn]
  refine ⟨h.1, h.2.1, h.2.2.1, h.2.2.2.1, h.2.2.2.2.1, h.2.2.2.2.2.1, fun i q1 q2 => ?_⟩
  exact SN_of (fun f _ => hf f _ (by omega) (by omega)) (fun z z1 z2 => ha _ (by omega) (by omega)) (fun _ _ _ => rfl) (h.2.2.2.2.2.2 i q1 q2)
theorem iS_of (h1 : φ' 6 1 5 = φ 6 1 5) (h2 : φ' 11 55 198 = φ 11 55 198) (h3 : α' 6 = α 6) (h4 : α' 236 = α 236) (h : iS n M φ α) : iS n M φ' α' := by unfold iS at *; rw [h1, h2, h3, h4]; exact h
theorem iC_of (h1 : φ' 6 1 3 = φ 6 1 3) (h2 : φ' 11 98 198 = φ 11 98 198) (h3 : α' 4 = α 4) (h4 : α' 266 = α 266) (h : iC φ α) : iC φ' α' := by unfold iC at *; rw [h1, h2, h3, h4]; exact h
theorem iW_of (h1 : α' 187 = α 187) (h2 : ∀ a : Int, 201 ≤ a → a ≤ 224 → α' a = α a) (h3 : ∀ a : Int, 239 ≤ a → a ≤ 262 → α' a = α a) (h : iW α) : iW α' := by
  unfold iW at *
  rw [h1]
  exact ⟨h.1, fun k i q1 q2 => by rw [h2 _ (by omega) (by omega)]; exact h.2.1 k i q1 q2, fun k i q1 q2 => by rw [h3 _ (by omega) (by omega)]; exact h.2.2 k i q1 q2⟩
/-- what a call that only asks may change: what is written and forgotten -/
def fq (φ : aF) (α : aA) (φ' : aF) (α' : aA) : Prop :=
  (∀ c f o, ¬ ((c = 7 ∧ o = 36) ∨ c = 4 ∨ c = 0 ∨ (c = 11 ∧ (o ≠ 198 ∨ f = 94 ∨ f = 47 ∨ f = 50 ∨ f = 51 ∨ f = 53 ∨ f = 58))) → φ' c f o = φ c f o) ∧ ∀ a : Int, ¬ (37 ≤ a ∧ a ≤ 42) → a ≠ 189 → a ≠ 191 → a ≠ 193 → a ≠ 194 → a ≠ 196 → a ≠ 234 → a ≠ 235 → a ≠ 237 → a ≠ 265 → α' a = α a
theorem fq.rf : fq φ α φ α := ⟨fun _ _ _ _ => rfl, fun _ _ _ _ _ _ _ _ _ _ _ => rfl⟩
theorem fq.tr {φ1 φ2 : aF} {α1 α2 : aA} (h : fq φ α φ1 α1) (h' : fq φ1 α1 φ2 α2) : fq φ α φ2 α2 := ⟨fun c f o q => (h'.1 c f o q).trans (h.1 c f o q), fun a q1 q2 q3 q4 q5 q6 q7 q8 q9 q10 => (h'.2 a q1 q2 q3 q4 q5 q6 q7 q8 q9 q10).trans (h.2 a q1 q2 q3 q4 q5 q6 q7 q8 q9 q10)⟩
theorem Iv_fq (hj : j ≤ j') (h : fq φ α φ' α') (hv : 0 ≤ φ' 11 53 198 ∧ φ' 11 53 198 ≤ 4000000 * (j' : Int)) (I : Iv n M ns rm cs ct sr j φ α) : Iv n M ns rm cs ct sr j' φ' α' := by
  obtain ⟨f, a⟩ := h
  obtain ⟨i0, i1, i2, i3, i4, i5, i6, i7, i8, i9, i10, i11⟩ := I
  have fa : ∀ x : Int, ¬ (37 ≤ x ∧ x ≤ 42) → x < 185 ∨ x = 187 ∨ (197 ≤ x ∧ x ≤ 233) ∨ x = 236 ∨ (238 ≤ x ∧ x ≤ 262) ∨ x = 266 → α' x = α x := fun x q1 q2 => a x q1 (by omega) (by omega) (by omega) (by omega) (by omega) (by omega) (by omega) (by omega) (by omega)
  exact ⟨by rw [fa _ (by omega) (by omega)]; exact i0, iT_of (f _ _ _ (by omega)) (f _ _ _ (by omega)) (fa _ (by omega) (by omega)) (fa _ (by omega) (by omega)) i1, iF_of (f _ _ _ (by omega)) (f _ _ _ (by omega)) (f _ _ _ (by omega)) (f _ _ _ (by omega)) i2, iR_of hj (fa _ (by omega) (by omega)) (fa _ (by omega) (by omega)) i3, iD_of (f _ _ _ (by omega)) (f _ _ _ (by omega)) i4, ⟨by rw [f _ _ _ (by omega)]; exact i5.1, hv⟩, iO_of (fun _ => f _ _ _ (by omega)) (f _ _ _ (by omega)) (f _ _ _ (by omega)) (f _ _ _ (by omega)) (fun x _ _ => fa _ (by omega) (by omega)) (fun x _ _ => fa _ (by omega) (by omega)) i6, iN_of (fun g _ => f _ _ _ (by omega)) (fun x _ _ => fa _ (by omega) (by omega)) (fa _ (by omega) (by omega)) i7, iP_of (f _ _ _ (by omega)) (f _ _ _ (by omega)) (f _ _ _ (by omega)) (f _ _ _ (by omega)) (fun _ _ _ _ => f _ _ _ (by omega)) (fun x _ _ => fa _ (by omega) (by omega)) (fa _ (by omega) (by omega)) i8, iS_of (f _ _ _ (by omega)) (f _ _ _ (by omega)) (fa _ (by omega) (by omega)) (fa _ (by omega) (by omega)) i9, iC_of (f _ _ _ (by omega)) (f _ _ _ (by omega)) (fa _ (by omega) (by omega)) (fa _ (by omega) (by omega)) i10, iW_of (fa _ (by omega) (by omega)) (fun x _ _ => fa _ (by omega) (by omega)) (fun x _ _ => fa _ (by omega) (by omega)) i11⟩
/-- nothing has changed -/
theorem Iv_rf (hj : j ≤ j') (I : Iv n M ns rm cs ct sr j φ α) : Iv n M ns rm cs ct sr j' φ α := by
  refine Iv_fq hj fq.rf ⟨I.2.2.2.2.2.1.2.1, ?_⟩ I
  have := I.2.2.2.2.2.1.2.2
  omega
end IV
