def shp : List (Nat × Nat) := [(10, 0), (6, 0), (20, 1600), (6, 0), (20, 64), (6, 0), (20, 64), (6, 0), (20, 1600), (2, 0), (20, 11), (20, 7), (20, 7), (20, 28), (20, 7), (6, 0), (20, 1600), (6, 0), (20, 1600), (2, 0), (20, 11), (20, 7), (20, 7), (20, 28), (20, 7), (6, 0), (20, 1600), (6, 0), (20, 1600), (7, 0), (20, 7), (20, 9), (20, 28), (20, 7), (20, 12), (20, 120), (7, 0), (20, 7), (20, 9), (20, 28), (20, 7), (20, 12), (20, 120), (3, 0), (23, 20), (7, 0), (20, 7), (20, 9), (20, 28), (20, 7), (20, 12), (20, 120), (7, 0), (20, 7), (20, 9), (20, 28), (20, 7), (20, 12), (20, 120), (7, 0), (20, 7), (20, 9), (20, 28), (20, 7), (20, 12), (20, 120), (7, 0), (20, 7), (20, 9), (20, 28), (20, 7), (20, 12), (20, 120), (7, 0), (20, 7), (20, 9), (20, 28), (20, 7), (20, 12), (20, 120), (7, 0), (20, 7), (20, 9), (20, 28), (20, 7), (20, 12), (20, 120), (7, 0), (20, 7), (20, 9), (20, 28), (20, 7), (20, 12), (20, 120), (7, 0), (20, 7), (20, 9), (20, 28), (20, 7), (20, 12), (20, 120), (7, 0), (20, 7), (20, 9), (20, 28), (20, 7), (20, 12), (20, 120), (7, 0), (20, 7), (20, 9), (20, 28), (20, 7), (20, 12), (20, 120), (7, 0), (20, 7), (20, 9), (20, 28), (20, 7), (20, 12), (20, 120), (7, 0), (20, 7), (20, 9), (20, 28), (20, 7), (20, 12), (20, 120), (7, 0), (20, 7), (20, 9), (20, 28), (20, 7), (20, 12), (20, 120), (7, 0), (20, 7), (20, 9), (20, 28), (20, 7), (20, 12), (20, 120), (7, 0), (20, 7), (20, 9), (20, 28), (20, 7), (20, 12), (20, 120), (7, 0), (20, 7), (20, 9), (20, 28), (20, 7), (20, 12), (20, 120), (7, 0), (20, 7), (20, 9), (20, 28), (20, 7), (20, 12), (20, 120), (7, 0), (20, 7), (20, 9), (20, 28), (20, 7), (20, 12), (20, 120), (7, 0), (20, 7), (20, 9), (20, 28), (20, 7), (20, 12), (20, 120), (7, 0), (20, 7), (20, 9), (20, 28), (20, 7), (20, 12), (20, 120), (5, 0), (8, 0), (20, 30), (1, 0), (20, 64), (9, 0), (20, 28), (4, 0), (20, 4), (20, 4), (0, 0), (20, 1519), (20, 6), (11, 0), (20, 1600), (20, 6), (21, 5), (21, 6), (21, 5), (21, 2), (21, 4), (21, 4), (21, 2), (21, 5), (21, 6), (21, 4), (21, 4), (21, 4), (21, 3), (21, 5), (21, 5), (21, 3), (21, 6), (21, 4), (21, 2), (21, 3), (21, 3), (21, 3), (21, 3), (21, 3), (20, 4), (20, 4), (22, 32), (20, 28), (20, 28), (20, 4), (20, 4), (20, 3200), (20, 169), (20, 48), (20, 4), (20, 64), (20, 1519), (20, 3380), (21, 5), (21, 4), (21, 5), (21, 5), (21, 4), (21, 5), (21, 3), (21, 3), (21, 2), (21, 3), (21, 3), (21, 3), (21, 4), (21, 4), (21, 4), (21, 3), (21, 5), (21, 5), (21, 6), (21, 3), (21, 6), (21, 4), (21, 5), (21, 3), (20, 1700), (20, 1700), (22, 1700), (20, 62)]
/-- the shape of the heap behind the two constructors; -1 is the script -/
def K0 (Ln : Nat) : bK := (267, fun j => if j = -1 then (30, Ln) else if 0 ≤ j then shp.getD j.toNat (99, 0) else (99, 0))
def rF (c f : Nat) : Bool := Nat.beq (fT c f) 2 && !(Nat.beq c 5 && Nat.beq f 3)
/-- the references that the constructors laid -/
def ρ0 (c f : Nat) (o : Int) : Int := match c, f with
  | 0, 0 => 9
  | 0, 1 => 190
  | 0, 2 => 29
  | 0, 3 => 36
  | 0, 4 => 5
  | 0, 5 => 196
  | 1, 0 => 9
  | 1, 1 => 189
  | 2, 9 => o + 1
  | 2, 10 => o + 2
  | 2, 11 => o + 3
  | 2, 12 => o + 4
  | 2, 13 => o + 5
  | 2, 14 => o + 6
  | 2, 15 => o + 8
  | 3, 0 => 44
  | 4, 0 => 9
  | 4, 1 => 190
  | 4, 2 => 29
  | 4, 3 => 36
  | 4, 4 => 193
  | 4, 5 => 194
  | 5, 0 => 186
  | 5, 1 => 19
  | 5, 2 => 7
  | 6, 0 => o + 1
  | 7, 1 => o + 1
  | 7, 2 => o + 2
  | 7, 3 => o + 3
  | 7, 4 => o + 4
  | 7, 5 => o + 5
  | 7, 6 => o + 6
  | 8, 0 => 1
  | 8, 1 => 187
  | 9, 0 => 9
  | 9, 1 => 188
  | 9, 2 => 191
  | 10, 0 => 1
  | 10, 1 => 3
  | 10, 2 => 5
  | 10, 3 => 7
  | 10, 4 => 9
  | 10, 5 => 19
  | 10, 6 => 29
  | 10, 7 => 36
  | 10, 8 => 43
  | 10, 9 => 185
  | 10, 10 => 188
  | 10, 11 => 190
  | 10, 12 => 192
  | 10, 13 => 195
  | 10, 14 => 197
  | 11, 0 => 199
  | 11, 9 => 200
  | 11, 11 => 201
  | 11, 12 => 202
  | 11, 13 => 203
  | 11, 14 => 204
  | 11, 15 => 205
  | 11, 16 => 206
  | 11, 17 => 207
  | 11, 18 => 208
  | 11, 19 => 209
  | 11, 20 => 210
  | 11, 21 => 211
  | 11, 22 => 212
  | 11, 23 => 213
  | 11, 24 => 214
  | 11, 25 => 215
  | 11, 26 => 216
  | 11, 27 => 217
  | 11, 28 => 218
  | 11, 29 => 219
  | 11, 30 => 220
  | 11, 31 => 221
  | 11, 32 => 222
  | 11, 33 => 223
  | 11, 34 => 224
  | 11, 36 => 225
  | 11, 37 => 226
  | 11, 38 => 227
  | 11, 39 => 228
  | 11, 40 => 229
  | 11, 41 => 230
  | 11, 42 => 231
  | 11, 43 => 232
  | 11, 48 => 233
  | 11, 49 => 234
  | 11, 54 => 235
  | 11, 56 => 236
  | 11, 57 => 237
  | 11, 59 => 238
  | 11, 63 => 239
  | 11, 64 => 240
  | 11, 65 => 241
  | 11, 66 => 242
  | 11, 67 => 243
  | 11, 68 => 244
  | 11, 69 => 245
  | 11, 70 => 246
  | 11, 71 => 247
  | 11, 72 => 248
  | 11, 73 => 249
  | 11, 74 => 250
  | 11, 75 => 251
  | 11, 76 => 252
  | 11, 77 => 253
  | 11, 78 => 254
  | 11, 79 => 255
  | 11, 80 => 256
  | 11, 81 => 257
  | 11, 82 => 258
  | 11, 83 => 259
  | 11, 84 => 260
  | 11, 85 => 261
  | 11, 86 => 262
  | 11, 87 => 263
  | 11, 89 => 264
  | 11, 93 => 265
  | 11, 97 => 266
  | _, _ => -1
def mix (φ : aF) : aF := fun c f o => if rF c f = true then ρ0 c f o else φ c f o
def pS (i : Int) : Int := if 0 ≤ i ∧ i < 20 then 45 + 7 * i else -1
def mixA (α : aA) : aA := fun a i => if a = 44 then pS i else α a i
def rOk (t : Option FieldType) (x : Int) : Option aV := match t with
  | none => none
  | some .long => some (1, x)
  | some _ => some (0, x)
def Q0 (M : aM) (Ln : Nat) (Q : Int → aF → aA → Prop) : bQ := fun r K' φ' α' => ∃ (x : Int) (φ1 : aF) (α1 : aA), r = rOk M.2.2.2 x ∧ K' = K0 Ln ∧ φ' = mix φ1 ∧ α' = mixA α1 ∧ Q x φ1 α1
/-- as Rn, behind the constructors: the shape and the references stand, nothing is made -/
def R0 (d : Nat) (M : aM) (pc : Nat) (L S : List aV) (φ : aF) (α : aA) (Q : Int → aF → aA → Prop) : Prop := ∀ Ln : Nat, Rn d M pc L S (K0 Ln) (mix φ) (mixA α) (0, 0) (Q0 M Ln Q)
theorem R0.mono {d : Nat} {M : aM} {pc : Nat} {L S : List aV} {φ : aF} {α : aA} {Q Q' : Int → aF → aA → Prop} (h : R0 d M pc L S φ α Q) (hq : ∀ x φ' α', Q x φ' α' → Q' x φ' α') : R0 d M pc L S φ α Q' := fun Ln => r_post (fun r K' φ' α' ⟨x, φ1, α1, h1, h2, h3, h4, h5⟩ => ⟨x, φ1, α1, h1, h2, h3, h4, hq _ _ _ h5⟩) (h Ln)
theorem mix_int {φ : aF} {c f : Nat} {o : Int} (h : rF c f = false) : mix φ c f o = φ c f o := by unfold mix; rw [if_neg (by rw [h]; decide)]
theorem mix_ref {φ : aF} {c f : Nat} {o : Int} (h : rF c f = true) : mix φ c f o = ρ0 c f o := by unfold mix; rw [if_pos h]
theorem mix_upf {φ : aF} {c f : Nat} {o v : Int} (h : rF c f = false) : upf (mix φ) c f o v = mix (upf φ c f o v) := by
  funext c' f' o'
  unfold upf mix
  by_cases hr : rF c' f' = true
  · rw [if_pos hr, if_neg, if_pos hr]
    rintro ⟨rfl, rfl, -⟩
    rw [h] at hr
    cases hr
  · rw [if_neg hr, if_neg hr]
theorem mixA_ne {α : aA} {a i : Int} (h : a ≠ 44) : mixA α a i = α a i := by unfold mixA; rw [if_neg h]
theorem mixA_upa {α : aA} {a i v : Int} (h : a ≠ 44) : upa (mixA α) a i v = mixA (upa α a i v) := by
  funext a' i'
  unfold upa mixA
  by_cases h1 : a' = 44
  · have hn : ¬ (a' = a ∧ i' = i) := fun q => h (q.1.symm.trans h1)
    rw [if_pos h1, if_neg hn, if_pos h1]
  · rw [if_neg h1, if_neg h1]
theorem mixA_cpA {α : aA} {a t n : Int} (h : t ≠ 44) (h2 : a ≠ 44) : cpA (mixA α) a t n = mixA (cpA α a t n) := by
  funext a' i'
  unfold cpA mixA
  by_cases h1 : a' = 44
  · have hn : ¬ (a' = t ∧ 0 ≤ i' ∧ i' < n) := fun q => h (q.1.symm.trans h1)
    rw [if_neg hn, if_pos h1, if_pos h1]
  · rw [if_neg h1, if_neg h2, if_neg h1]
theorem kz44 (Ln : Nat) : (K0 Ln).2 44 = (23, 20) := rfl
theorem ne44 {Ln c n : Nat} {a : Int} (h : (K0 Ln).2 a = (c, n)) (hc : c ≠ 23) : a ≠ 44 := by
  rintro rfl
  rw [kz44] at h
  cases h
  exact hc rfl
section S0
variable {d : Nat} {M N : aM} {pc pc' Ln : Nat} {L S St : List aV} {φ : aF} {α : aA} {k : Nat × Nat} {Q : bQ} {ix n : Nat}
theorem s_get {ci f t nn : Nat} {o x : Int} (hd : decode M.2.1 pc = .ok (.getfield ix, 3)) (hp : pc + 3 = pc') (hk : FK M.1.cls ix ci f) (hr : rF ci f = false) (ht : fT ci f = t) (ht2 : (bif Nat.beq t 2 then false else true) = true) (g : (K0 Ln).2 o = (ci, nn)) (hx : φ ci f o = x) (h : Rn d M pc' L ((t, x) :: S) (K0 Ln) (mix φ) (mixA α) k Q) : Rn d M pc L ((2, o) :: S) (K0 Ln) (mix φ) (mixA α) k Q := by
  refine r_get hd hp hk ht (by rw [g]) (fun q => by rw [q] at ht2; cases ht2) ?_
  rw [mix_int hr, hx]
  exact h
theorem s_getr {ci f nn : Nat} {o v : Int} (hd : decode M.2.1 pc = .ok (.getfield ix, 3)) (hp : pc + 3 = pc') (hk : FK M.1.cls ix ci f) (hr : rF ci f = true) (ht : fT ci f = 2) (g : (K0 Ln).2 o = (ci, nn)) (hv : ρ0 ci f o = v) (h0 : 0 ≤ v) (h : Rn d M pc' L ((2, v) :: S) (K0 Ln) (mix φ) (mixA α) k Q) : Rn d M pc L ((2, o) :: S) (K0 Ln) (mix φ) (mixA α) k Q := by
  have e : mix φ ci f o = v := (mix_ref hr).trans hv
  refine r_get hd hp hk ht (by rw [g]) (fun q => by rw [e]; exact h0) ?_
  rw [e]
  exact h
theorem s_getc {ci f nn : Nat} {o x : Int} (hd : decode M.2.1 pc = .ok (.getfield ix, 3)) (hp : pc + 3 = pc') (hk : FK M.1.cls ix ci f) (hr : rF ci f = false) (ht : fT ci f = 2) (g : (K0 Ln).2 o = (ci, nn)) (hx : φ ci f o = x) (h0 : 0 ≤ x) (h : Rn d M pc' L ((2, x) :: S) (K0 Ln) (mix φ) (mixA α) k Q) : Rn d M pc L ((2, o) :: S) (K0 Ln) (mix φ) (mixA α) k Q := by
  refine r_get hd hp hk ht (by rw [g]) (fun q => by rw [mix_int hr, hx]; exact h0) ?_
  rw [mix_int hr, hx]
  exact h
theorem s_put {ci f t nn : Nat} {o v : Int} (hd : decode M.2.1 pc = .ok (.putfield ix, 3)) (hp : pc + 3 = pc') (hk : FK M.1.cls ix ci f) (hn : FN ci f) (hr : rF ci f = false) (hq : putOk (fTy ci f) t v) (g : (K0 Ln).2 o = (ci, nn)) (h : Rn d M pc' L S (K0 Ln) (mix (upf φ ci f o v)) (mixA α) k Q) : Rn d M pc L ((t, v) :: (2, o) :: S) (K0 Ln) (mix φ) (mixA α) k Q := by
  refine r_put hd hp hk hn hq (by rw [g]) ?_
  rw [mix_upf hr]
  exact h
theorem s_iald {a i x : Int} (hd : decode M.2.1 pc = .ok (.iaload, 1)) (hp : pc + 1 = pc') (g : (K0 Ln).2 a = (20, n)) (g2 : 0 ≤ i ∧ i < n) (hx : α a i = x) (h : Rn d M pc' L ((0, x) :: S) (K0 Ln) (mix φ) (mixA α) k Q) : Rn d M pc L ((0, i) :: (2, a) :: S) (K0 Ln) (mix φ) (mixA α) k Q := by
  refine r_iald hd hp (by rw [g]) (by rw [g]; exact g2) ?_
  rw [mixA_ne (ne44 g (by decide)), hx]
  exact h
theorem s_cald {a i x : Int} (hd : decode M.2.1 pc = .ok (.caload, 1)) (hp : pc + 1 = pc') (g : (K0 Ln).2 a = (21, n)) (g2 : 0 ≤ i ∧ i < n) (hx : α a i = x) (h : Rn d M pc' L ((0, x) :: S) (K0 Ln) (mix φ) (mixA α) k Q) : Rn d M pc L ((0, i) :: (2, a) :: S) (K0 Ln) (mix φ) (mixA α) k Q := by
  refine r_cald hd hp (by rw [g]) (by rw [g]; exact g2) ?_
  rw [mixA_ne (ne44 g (by decide)), hx]
  exact h
theorem s_lald {a i x : Int} (hd : decode M.2.1 pc = .ok (.laload, 1)) (hp : pc + 1 = pc') (g : (K0 Ln).2 a = (22, n)) (g2 : 0 ≤ i ∧ i < n) (hx : α a i = x) (h : Rn d M pc' L ((1, x) :: S) (K0 Ln) (mix φ) (mixA α) k Q) : Rn d M pc L ((0, i) :: (2, a) :: S) (K0 Ln) (mix φ) (mixA α) k Q := by
  refine r_lald hd hp (by rw [g]) (by rw [g]; exact g2) ?_
  rw [mixA_ne (ne44 g (by decide)), hx]
  exact h
theorem s_aald {i : Int} (hd : decode M.2.1 pc = .ok (.aaload, 1)) (hp : pc + 1 = pc') (g2 : 0 ≤ i ∧ i < 20) (h : Rn d M pc' L ((2, 45 + 7 * i) :: S) (K0 Ln) (mix φ) (mixA α) k Q) : Rn d M pc L ((0, i) :: (2, 44) :: S) (K0 Ln) (mix φ) (mixA α) k Q := by
  have e : mixA α 44 i = 45 + 7 * i := by unfold mixA pS; rw [if_pos rfl, if_pos g2]
  refine r_aald hd hp rfl g2 (by rw [e]; omega) ?_
  rw [e]
  exact h
theorem s_iast {a i v : Int} (hd : decode M.2.1 pc = .ok (.iastore, 1)) (hp : pc + 1 = pc') (g : (K0 Ln).2 a = (20, n)) (g2 : 0 ≤ i ∧ i < n) (h : Rn d M pc' L S (K0 Ln) (mix φ) (mixA (upa α a i v)) k Q) : Rn d M pc L ((0, v) :: (0, i) :: (2, a) :: S) (K0 Ln) (mix φ) (mixA α) k Q := by
  refine r_iast hd hp (by rw [g]) (by rw [g]; exact g2) ?_
  rw [mixA_upa (ne44 g (by decide))]
  exact h
theorem s_last {a i v : Int} (hd : decode M.2.1 pc = .ok (.lastore, 1)) (hp : pc + 1 = pc') (g : (K0 Ln).2 a = (22, n)) (g2 : 0 ≤ i ∧ i < n) (h : Rn d M pc' L S (K0 Ln) (mix φ) (mixA (upa α a i v)) k Q) : Rn d M pc L ((1, v) :: (0, i) :: (2, a) :: S) (K0 Ln) (mix φ) (mixA α) k Q := by
  refine r_last hd hp (by rw [g]) (by rw [g]; exact g2) ?_
  rw [mixA_upa (ne44 g (by decide))]
  exact h
theorem s_alen {c : Nat} {a : Int} (hd : decode M.2.1 pc = .ok (.arraylength, 1)) (hp : pc + 1 = pc') (g : (K0 Ln).2 a = (c, n)) (gc : 20 ≤ c ∧ c ≤ 23) (h : Rn d M pc' L ((0, (n : Int)) :: S) (K0 Ln) (mix φ) (mixA α) k Q) : Rn d M pc L ((2, a) :: S) (K0 Ln) (mix φ) (mixA α) k Q := by
  refine r_alen hd hp (by rw [g]; exact gc) ?_
  rw [g]
  exact h
theorem s_copy {a t v : Int} {n2 : Nat} (hd : decode M.2.1 pc = .ok (.invokestatic ix, 3)) (hp : pc + 3 = pc') (hl : Cond.methodLink M.1.cls ix arraycopyName ∈ lw_tbl) (hna : Cond.native arraycopyName ∈ lw_tbl) (hst0 : Cond.static arraycopyName ∈ lw_tbl) (hini : Cond.initialized "java/lang/System" ∈ lw_tbl) (hd0 : 1 ≤ d) (hc : catS S ≤ 8) (g1 : (K0 Ln).2 a = (20, n)) (g2 : (K0 Ln).2 t = (20, n2)) (g3 : 0 ≤ v ∧ v ≤ n ∧ v ≤ n2) (h : Rn d M pc' L S (K0 Ln) (mix φ) (mixA (cpA α a t v)) k Q) : Rn d M pc L ((0, v) :: (0, 0) :: (2, t) :: (0, 0) :: (2, a) :: S) (K0 Ln) (mix φ) (mixA α) k Q := by
  refine r_copy hd hp hl hna hst0 hini hd0 hc (by rw [g1]) (by rw [g2]) (by rw [g1, g2]; exact g3) ?_
  rw [mixA_cpA (ne44 g2 (by decide)) (ne44 g1 (by decide))]
  exact h
theorem s_iret {x : Int} {Q1 : Int → aF → aA → Prop} (hd : decode M.2.1 pc = .ok (.ireturn, 1)) (hr : M.2.2.2 = some .int) (h : Q1 x φ α) : Rn d M pc L [(0, x)] (K0 Ln) (mix φ) (mixA α) k (Q0 M Ln Q1) := r_iret hd hr ⟨x, φ, α, by rw [hr]; rfl, rfl, rfl, rfl, h⟩
theorem s_zret {x : Int} {Q1 : Int → aF → aA → Prop} (hd : decode M.2.1 pc = .ok (.ireturn, 1)) (hr : M.2.2.2 = some .boolean) (g : x = 0 ∨ x = 1) (h : Q1 x φ α) : Rn d M pc L [(0, x)] (K0 Ln) (mix φ) (mixA α) k (Q0 M Ln Q1) := r_zret hd hr g ⟨x, φ, α, by rw [hr]; rfl, rfl, rfl, rfl, h⟩
theorem s_lret {x : Int} {Q1 : Int → aF → aA → Prop} (hd : decode M.2.1 pc = .ok (.lreturn, 1)) (hr : M.2.2.2 = some .long) (h : Q1 x φ α) : Rn d M pc L [(1, x)] (K0 Ln) (mix φ) (mixA α) k (Q0 M Ln Q1) := r_lret hd hr ⟨x, φ, α, by rw [hr]; rfl, rfl, rfl, rfl, h⟩
theorem s_vret {Q1 : Int → aF → aA → Prop} (hd : decode M.2.1 pc = .ok (.return_, 1)) (hr : M.2.2.2 = none) (h : Q1 0 φ α) : Rn d M pc L [] (K0 Ln) (mix φ) (mixA α) k (Q0 M Ln Q1) := r_vret (x := 0) hd hr ⟨0, φ, α, by rw [hr]; rfl, rfl, rfl, rfl, h⟩
theorem s_callS {As : List aV} {S2 : Int → List aV} {Q1 : Int → aF → aA → Prop} (hd : decode M.2.1 pc = .ok (.invokestatic ix, 3)) (hp : pc + 3 = pc') (hst : As.reverse ++ S = St) (hN : NK N n) (hl : Cond.methodLink M.1.cls ix N.1 ∈ lw_tbl ∨ ∃ host, Cond.methodLinkNest M.1.cls ix N.1 host ∈ lw_tbl) (hs : Cond.static N.1 ∈ lw_tbl) (hn : As.length = n) (hc : catS S ≤ 8) (hA : (aEn1 As).length ≤ N.2.2.1)
    (h1 : R0 d N 0 (aEn N.2.2.1 As) [] φ α Q1) (hS2 : ∀ x, (rOk N.2.2.2 x).toList ++ S = S2 x) (h2 : ∀ x φ' α', Q1 x φ' α' → Rn (d + 1) M pc' L (S2 x) (K0 Ln) (mix φ') (mixA α') (0, 0) Q) : Rn (d + 1) M pc L St (K0 Ln) (mix φ) (mixA α) (0, 0) Q :=
  r_callS (k1 := (0, 0)) (k2 := (0, 0)) hd hp hst hN hl hs hn hc hA (h1 Ln) (fun r K' φ' α' ⟨x, φ1, α1, e1, e2, e3, e4, hq⟩ => by subst e1; subst e2; subst e3; subst e4; rw [hS2]; exact h2 x φ1 α1 hq)
theorem s_callV {As : List aV} {S2 : Int → List aV} {o : Int} {ci nn : Nat} {q : vw_C} {Q1 : Int → aF → aA → Prop} (hd : decode M.2.1 pc = .ok (.invokevirtual ix, 3)) (hp : pc + 3 = pc') (hst : As.reverse ++ (2, o) :: S = St) (hN : NK N n) (hl : Cond.methodLink M.1.cls ix N.1 ∈ lw_tbl ∨ ∃ host, Cond.methodLinkNest M.1.cls ix N.1 host ∈ lw_tbl) (hi : Cond.instanceMethod N.1 ∈ lw_tbl) (hq : vCl[ci]? = some q) (hse : Cond.selects q.1 N.1 N.1 ∈ lw_tbl) (hn : As.length = n) (hc : catS S ≤ 8) (hA : (aEn1 ((2, o) :: As)).length ≤ N.2.2.1) (g : (K0 Ln).2 o = (ci, nn))
    (h1 : R0 d N 0 (aEn N.2.2.1 ((2, o) :: As)) [] φ α Q1) (hS2 : ∀ x, (rOk N.2.2.2 x).toList ++ S = S2 x) (h2 : ∀ x φ' α', Q1 x φ' α' → Rn (d + 1) M pc' L (S2 x) (K0 Ln) (mix φ') (mixA α') (0, 0) Q) : Rn (d + 1) M pc L St (K0 Ln) (mix φ) (mixA α) (0, 0) Q :=
  r_callV (k1 := (0, 0)) (k2 := (0, 0)) hd hp hst hN hl hi hq hse hn hc hA (by rw [g]) (h1 Ln) (fun r K' φ' α' ⟨x, φ1, α1, e1, e2, e3, e4, hq⟩ => by subst e1; subst e2; subst e3; subst e4; rw [hS2]; exact h2 x φ1 α1 hq)
theorem off_ne {a o d x : Int} {r : List (Int × Int)} (h : ¬ x = a) : Op.lookupswitch.offset ((a, o) :: r) d x = Op.lookupswitch.offset r d x := by
  rw [Op.lookupswitch.offset_cons, if_neg]
  intro q
  exact h q.symm
theorem upf_s {φ : aF} {c f : Nat} {o v : Int} : upf φ c f o v c f o = v := by unfold upf; rw [if_pos ⟨rfl, rfl, rfl⟩]
theorem pk_int {v : Int} : putOk .int 0 v := rfl
theorem pk_bool {v : Int} (h : v = 0 ∨ v = 1) : putOk .boolean 0 v := ⟨rfl, h⟩
theorem pk_long {v : Int} : putOk .long 1 v := rfl
theorem pk_obj {s : String} {v : Int} : putOk (.object s) 2 v := rfl
end S0
theorem kz0 (Ln : Nat) : (K0 Ln).2 0 = (10, 0) := rfl
theorem kz1 (Ln : Nat) : (K0 Ln).2 1 = (6, 0) := rfl
theorem kz2 (Ln : Nat) : (K0 Ln).2 2 = (20, 1600) := rfl
theorem kz3 (Ln : Nat) : (K0 Ln).2 3 = (6, 0) := rfl
theorem kz4 (Ln : Nat) : (K0 Ln).2 4 = (20, 64) := rfl
theorem kz5 (Ln : Nat) : (K0 Ln).2 5 = (6, 0) := rfl
theorem kz6 (Ln : Nat) : (K0 Ln).2 6 = (20, 64) := rfl
theorem kz7 (Ln : Nat) : (K0 Ln).2 7 = (6, 0) := rfl
theorem kz8 (Ln : Nat) : (K0 Ln).2 8 = (20, 1600) := rfl
theorem kz9 (Ln : Nat) : (K0 Ln).2 9 = (2, 0) := rfl
theorem kz10 (Ln : Nat) : (K0 Ln).2 10 = (20, 11) := rfl
theorem kz11 (Ln : Nat) : (K0 Ln).2 11 = (20, 7) := rfl
theorem kz12 (Ln : Nat) : (K0 Ln).2 12 = (20, 7) := rfl
theorem kz13 (Ln : Nat) : (K0 Ln).2 13 = (20, 28) := rfl
theorem kz14 (Ln : Nat) : (K0 Ln).2 14 = (20, 7) := rfl
theorem kz15 (Ln : Nat) : (K0 Ln).2 15 = (6, 0) := rfl
theorem kz16 (Ln : Nat) : (K0 Ln).2 16 = (20, 1600) := rfl
theorem kz17 (Ln : Nat) : (K0 Ln).2 17 = (6, 0) := rfl
theorem kz18 (Ln : Nat) : (K0 Ln).2 18 = (20, 1600) := rfl
theorem kz19 (Ln : Nat) : (K0 Ln).2 19 = (2, 0) := rfl
theorem kz20 (Ln : Nat) : (K0 Ln).2 20 = (20, 11) := rfl
theorem kz21 (Ln : Nat) : (K0 Ln).2 21 = (20, 7) := rfl
theorem kz22 (Ln : Nat) : (K0 Ln).2 22 = (20, 7) := rfl
theorem kz23 (Ln : Nat) : (K0 Ln).2 23 = (20, 28) := rfl
theorem kz24 (Ln : Nat) : (K0 Ln).2 24 = (20, 7) := rfl
theorem kz25 (Ln : Nat) : (K0 Ln).2 25 = (6, 0) := rfl
theorem kz26 (Ln : Nat) : (K0 Ln).2 26 = (20, 1600) := rfl
theorem kz27 (Ln : Nat) : (K0 Ln).2 27 = (6, 0) := rfl
theorem kz28 (Ln : Nat) : (K0 Ln).2 28 = (20, 1600) := rfl
theorem kz29 (Ln : Nat) : (K0 Ln).2 29 = (7, 0) := rfl
theorem kz30 (Ln : Nat) : (K0 Ln).2 30 = (20, 7) := rfl
theorem kz31 (Ln : Nat) : (K0 Ln).2 31 = (20, 9) := rfl
theorem kz32 (Ln : Nat) : (K0 Ln).2 32 = (20, 28) := rfl
theorem kz33 (Ln : Nat) : (K0 Ln).2 33 = (20, 7) := rfl
theorem kz34 (Ln : Nat) : (K0 Ln).2 34 = (20, 12) := rfl
theorem kz35 (Ln : Nat) : (K0 Ln).2 35 = (20, 120) := rfl
theorem kz36 (Ln : Nat) : (K0 Ln).2 36 = (7, 0) := rfl
theorem kz37 (Ln : Nat) : (K0 Ln).2 37 = (20, 7) := rfl
theorem kz38 (Ln : Nat) : (K0 Ln).2 38 = (20, 9) := rfl
theorem kz39 (Ln : Nat) : (K0 Ln).2 39 = (20, 28) := rfl
theorem kz40 (Ln : Nat) : (K0 Ln).2 40 = (20, 7) := rfl
theorem kz41 (Ln : Nat) : (K0 Ln).2 41 = (20, 12) := rfl
theorem kz42 (Ln : Nat) : (K0 Ln).2 42 = (20, 120) := rfl
theorem kz43 (Ln : Nat) : (K0 Ln).2 43 = (3, 0) := rfl
theorem kz45 (Ln : Nat) : (K0 Ln).2 45 = (7, 0) := rfl
theorem kz46 (Ln : Nat) : (K0 Ln).2 46 = (20, 7) := rfl
theorem kz47 (Ln : Nat) : (K0 Ln).2 47 = (20, 9) := rfl
theorem kz48 (Ln : Nat) : (K0 Ln).2 48 = (20, 28) := rfl
theorem kz49 (Ln : Nat) : (K0 Ln).2 49 = (20, 7) := rfl
theorem kz50 (Ln : Nat) : (K0 Ln).2 50 = (20, 12) := rfl
theorem kz51 (Ln : Nat) : (K0 Ln).2 51 = (20, 120) := rfl
theorem kz52 (Ln : Nat) : (K0 Ln).2 52 = (7, 0) := rfl
theorem kz53 (Ln : Nat) : (K0 Ln).2 53 = (20, 7) := rfl
theorem kz54 (Ln : Nat) : (K0 Ln).2 54 = (20, 9) := rfl
theorem kz55 (Ln : Nat) : (K0 Ln).2 55 = (20, 28) := rfl
theorem kz56 (Ln : Nat) : (K0 Ln).2 56 = (20, 7) := rfl
theorem kz57 (Ln : Nat) : (K0 Ln).2 57 = (20, 12) := rfl
theorem kz58 (Ln : Nat) : (K0 Ln).2 58 = (20, 120) := rfl
theorem kz59 (Ln : Nat) : (K0 Ln).2 59 = (7, 0) := rfl
theorem kz60 (Ln : Nat) : (K0 Ln).2 60 = (20, 7) := rfl
theorem kz61 (Ln : Nat) : (K0 Ln).2 61 = (20, 9) := rfl
theorem kz62 (Ln : Nat) : (K0 Ln).2 62 = (20, 28) := rfl
theorem kz63 (Ln : Nat) : (K0 Ln).2 63 = (20, 7) := rfl
theorem kz64 (Ln : Nat) : (K0 Ln).2 64 = (20, 12) := rfl
theorem kz65 (Ln : Nat) : (K0 Ln).2 65 = (20, 120) := rfl
theorem kz66 (Ln : Nat) : (K0 Ln).2 66 = (7, 0) := rfl
theorem kz67 (Ln : Nat) : (K0 Ln).2 67 = (20, 7) := rfl
theorem kz68 (Ln : Nat) : (K0 Ln).2 68 = (20, 9) := rfl
theorem kz69 (Ln : Nat) : (K0 Ln).2 69 = (20, 28) := rfl
theorem kz70 (Ln : Nat) : (K0 Ln).2 70 = (20, 7) := rfl
theorem kz71 (Ln : Nat) : (K0 Ln).2 71 = (20, 12) := rfl
theorem kz72 (Ln : Nat) : (K0 Ln).2 72 = (20, 120) := rfl
theorem kz73 (Ln : Nat) : (K0 Ln).2 73 = (7, 0) := rfl
theorem kz74 (Ln : Nat) : (K0 Ln).2 74 = (20, 7) := rfl
theorem kz75 (Ln : Nat) : (K0 Ln).2 75 = (20, 9) := rfl
theorem kz76 (Ln : Nat) : (K0 Ln).2 76 = (20, 28) := rfl
theorem kz77 (Ln : Nat) : (K0 Ln).2 77 = (20, 7) := rfl
theorem kz78 (Ln : Nat) : (K0 Ln).2 78 = (20, 12) := rfl
theorem kz79 (Ln : Nat) : (K0 Ln).2 79 = (20, 120) := rfl
theorem kz80 (Ln : Nat) : (K0 Ln).2 80 = (7, 0) := rfl
theorem kz81 (Ln : Nat) : (K0 Ln).2 81 = (20, 7) := rfl
theorem kz82 (Ln : Nat) : (K0 Ln).2 82 = (20, 9) := rfl
theorem kz83 (Ln : Nat) : (K0 Ln).2 83 = (20, 28) := rfl
theorem kz84 (Ln : Nat) : (K0 Ln).2 84 = (20, 7) := rfl
theorem kz85 (Ln : Nat) : (K0 Ln).2 85 = (20, 12) := rfl
theorem kz86 (Ln : Nat) : (K0 Ln).2 86 = (20, 120) := rfl
theorem kz87 (Ln : Nat) : (K0 Ln).2 87 = (7, 0) := rfl
theorem kz88 (Ln : Nat) : (K0 Ln).2 88 = (20, 7) := rfl
theorem kz89 (Ln : Nat) : (K0 Ln).2 89 = (20, 9) := rfl
theorem kz90 (Ln : Nat) : (K0 Ln).2 90 = (20, 28) := rfl
theorem kz91 (Ln : Nat) : (K0 Ln).2 91 = (20, 7) := rfl
theorem kz92 (Ln : Nat) : (K0 Ln).2 92 = (20, 12) := rfl
theorem kz93 (Ln : Nat) : (K0 Ln).2 93 = (20, 120) := rfl
theorem kz94 (Ln : Nat) : (K0 Ln).2 94 = (7, 0) := rfl
theorem kz95 (Ln : Nat) : (K0 Ln).2 95 = (20, 7) := rfl
theorem kz96 (Ln : Nat) : (K0 Ln).2 96 = (20, 9) := rfl
theorem kz97 (Ln : Nat) : (K0 Ln).2 97 = (20, 28) := rfl
theorem kz98 (Ln : Nat) : (K0 Ln).2 98 = (20, 7) := rfl
theorem kz99 (Ln : Nat) : (K0 Ln).2 99 = (20, 12) := rfl
theorem kz100 (Ln : Nat) : (K0 Ln).2 100 = (20, 120) := rfl
theorem kz101 (Ln : Nat) : (K0 Ln).2 101 = (7, 0) := rfl
theorem kz102 (Ln : Nat) : (K0 Ln).2 102 = (20, 7) := rfl
theorem kz103 (Ln : Nat) : (K0 Ln).2 103 = (20, 9) := rfl
theorem kz104 (Ln : Nat) : (K0 Ln).2 104 = (20, 28) := rfl
theorem kz105 (Ln : Nat) : (K0 Ln).2 105 = (20, 7) := rfl
theorem kz106 (Ln : Nat) : (K0 Ln).2 106 = (20, 12) := rfl
theorem kz107 (Ln : Nat) : (K0 Ln).2 107 = (20, 120) := rfl
theorem kz108 (Ln : Nat) : (K0 Ln).2 108 = (7, 0) := rfl
theorem kz109 (Ln : Nat) : (K0 Ln).2 109 = (20, 7) := rfl
theorem kz110 (Ln : Nat) : (K0 Ln).2 110 = (20, 9) := rfl
theorem kz111 (Ln : Nat) : (K0 Ln).2 111 = (20, 28) := rfl
theorem kz112 (Ln : Nat) : (K0 Ln).2 112 = (20, 7) := rfl
theorem kz113 (Ln : Nat) : (K0 Ln).2 113 = (20, 12) := rfl
theorem kz114 (Ln : Nat) : (K0 Ln).2 114 = (20, 120) := rfl
theorem kz115 (Ln : Nat) : (K0 Ln).2 115 = (7, 0) := rfl
theorem kz116 (Ln : Nat) : (K0 Ln).2 116 = (20, 7) := rfl
theorem kz117 (Ln : Nat) : (K0 Ln).2 117 = (20, 9) := rfl
theorem kz118 (Ln : Nat) : (K0 Ln).2 118 = (20, 28) := rfl
theorem kz119 (Ln : Nat) : (K0 Ln).2 119 = (20, 7) := rfl
theorem kz120 (Ln : Nat) : (K0 Ln).2 120 = (20, 12) := rfl
theorem kz121 (Ln : Nat) : (K0 Ln).2 121 = (20, 120) := rfl
theorem kz122 (Ln : Nat) : (K0 Ln).2 122 = (7, 0) := rfl
theorem kz123 (Ln : Nat) : (K0 Ln).2 123 = (20, 7) := rfl
theorem kz124 (Ln : Nat) : (K0 Ln).2 124 = (20, 9) := rfl
theorem kz125 (Ln : Nat) : (K0 Ln).2 125 = (20, 28) := rfl
theorem kz126 (Ln : Nat) : (K0 Ln).2 126 = (20, 7) := rfl
theorem kz127 (Ln : Nat) : (K0 Ln).2 127 = (20, 12) := rfl
theorem kz128 (Ln : Nat) : (K0 Ln).2 128 = (20, 120) := rfl
theorem kz129 (Ln : Nat) : (K0 Ln).2 129 = (7, 0) := rfl
theorem kz130 (Ln : Nat) : (K0 Ln).2 130 = (20, 7) := rfl
theorem kz131 (Ln : Nat) : (K0 Ln).2 131 = (20, 9) := rfl
theorem kz132 (Ln : Nat) : (K0 Ln).2 132 = (20, 28) := rfl
theorem kz133 (Ln : Nat) : (K0 Ln).2 133 = (20, 7) := rfl
theorem kz134 (Ln : Nat) : (K0 Ln).2 134 = (20, 12) := rfl
theorem kz135 (Ln : Nat) : (K0 Ln).2 135 = (20, 120) := rfl
theorem kz136 (Ln : Nat) : (K0 Ln).2 136 = (7, 0) := rfl
theorem kz137 (Ln : Nat) : (K0 Ln).2 137 = (20, 7) := rfl
theorem kz138 (Ln : Nat) : (K0 Ln).2 138 = (20, 9) := rfl
theorem kz139 (Ln : Nat) : (K0 Ln).2 139 = (20, 28) := rfl
theorem kz140 (Ln : Nat) : (K0 Ln).2 140 = (20, 7) := rfl
theorem kz141 (Ln : Nat) : (K0 Ln).2 141 = (20, 12) := rfl
theorem kz142 (Ln : Nat) : (K0 Ln).2 142 = (20, 120) := rfl
theorem kz143 (Ln : Nat) : (K0 Ln).2 143 = (7, 0) := rfl
theorem kz144 (Ln : Nat) : (K0 Ln).2 144 = (20, 7) := rfl
theorem kz145 (Ln : Nat) : (K0 Ln).2 145 = (20, 9) := rfl
theorem kz146 (Ln : Nat) : (K0 Ln).2 146 = (20, 28) := rfl
theorem kz147 (Ln : Nat) : (K0 Ln).2 147 = (20, 7) := rfl
theorem kz148 (Ln : Nat) : (K0 Ln).2 148 = (20, 12) := rfl
theorem kz149 (Ln : Nat) : (K0 Ln).2 149 = (20, 120) := rfl
theorem kz150 (Ln : Nat) : (K0 Ln).2 150 = (7, 0) := rfl
theorem kz151 (Ln : Nat) : (K0 Ln).2 151 = (20, 7) := rfl
theorem kz152 (Ln : Nat) : (K0 Ln).2 152 = (20, 9) := rfl
theorem kz153 (Ln : Nat) : (K0 Ln).2 153 = (20, 28) := rfl
theorem kz154 (Ln : Nat) : (K0 Ln).2 154 = (20, 7) := rfl
theorem kz155 (Ln : Nat) : (K0 Ln).2 155 = (20, 12) := rfl
theorem kz156 (Ln : Nat) : (K0 Ln).2 156 = (20, 120) := rfl
theorem kz157 (Ln : Nat) : (K0 Ln).2 157 = (7, 0) := rfl
theorem kz158 (Ln : Nat) : (K0 Ln).2 158 = (20, 7) := rfl
theorem kz159 (Ln : Nat) : (K0 Ln).2 159 = (20, 9) := rfl
theorem kz160 (Ln : Nat) : (K0 Ln).2 160 = (20, 28) := rfl
theorem kz161 (Ln : Nat) : (K0 Ln).2 161 = (20, 7) := rfl
theorem kz162 (Ln : Nat) : (K0 Ln).2 162 = (20, 12) := rfl
theorem kz163 (Ln : Nat) : (K0 Ln).2 163 = (20, 120) := rfl
theorem kz164 (Ln : Nat) : (K0 Ln).2 164 = (7, 0) := rfl
theorem kz165 (Ln : Nat) : (K0 Ln).2 165 = (20, 7) := rfl
theorem kz166 (Ln : Nat) : (K0 Ln).2 166 = (20, 9) := rfl
theorem kz167 (Ln : Nat) : (K0 Ln).2 167 = (20, 28) := rfl
theorem kz168 (Ln : Nat) : (K0 Ln).2 168 = (20, 7) := rfl
theorem kz169 (Ln : Nat) : (K0 Ln).2 169 = (20, 12) := rfl
theorem kz170 (Ln : Nat) : (K0 Ln).2 170 = (20, 120) := rfl
theorem kz171 (Ln : Nat) : (K0 Ln).2 171 = (7, 0) := rfl
theorem kz172 (Ln : Nat) : (K0 Ln).2 172 = (20, 7) := rfl
theorem kz173 (Ln : Nat) : (K0 Ln).2 173 = (20, 9) := rfl
theorem kz174 (Ln : Nat) : (K0 Ln).2 174 = (20, 28) := rfl
theorem kz175 (Ln : Nat) : (K0 Ln).2 175 = (20, 7) := rfl
theorem kz176 (Ln : Nat) : (K0 Ln).2 176 = (20, 12) := rfl
theorem kz177 (Ln : Nat) : (K0 Ln).2 177 = (20, 120) := rfl
theorem kz178 (Ln : Nat) : (K0 Ln).2 178 = (7, 0) := rfl
theorem kz179 (Ln : Nat) : (K0 Ln).2 179 = (20, 7) := rfl
theorem kz180 (Ln : Nat) : (K0 Ln).2 180 = (20, 9) := rfl
theorem kz181 (Ln : Nat) : (K0 Ln).2 181 = (20, 28) := rfl
theorem kz182 (Ln : Nat) : (K0 Ln).2 182 = (20, 7) := rfl
theorem kz183 (Ln : Nat) : (K0 Ln).2 183 = (20, 12) := rfl
theorem kz184 (Ln : Nat) : (K0 Ln).2 184 = (20, 120) := rfl
theorem kz185 (Ln : Nat) : (K0 Ln).2 185 = (5, 0) := rfl
theorem kz186 (Ln : Nat) : (K0 Ln).2 186 = (8, 0) := rfl
theorem kz187 (Ln : Nat) : (K0 Ln).2 187 = (20, 30) := rfl
theorem kz188 (Ln : Nat) : (K0 Ln).2 188 = (1, 0) := rfl
theorem kz189 (Ln : Nat) : (K0 Ln).2 189 = (20, 64) := rfl
theorem kz190 (Ln : Nat) : (K0 Ln).2 190 = (9, 0) := rfl
theorem kz191 (Ln : Nat) : (K0 Ln).2 191 = (20, 28) := rfl
theorem kz192 (Ln : Nat) : (K0 Ln).2 192 = (4, 0) := rfl
theorem kz193 (Ln : Nat) : (K0 Ln).2 193 = (20, 4) := rfl
theorem kz194 (Ln : Nat) : (K0 Ln).2 194 = (20, 4) := rfl
theorem kz195 (Ln : Nat) : (K0 Ln).2 195 = (0, 0) := rfl
theorem kz196 (Ln : Nat) : (K0 Ln).2 196 = (20, 1519) := rfl
theorem kz197 (Ln : Nat) : (K0 Ln).2 197 = (20, 6) := rfl
theorem kz198 (Ln : Nat) : (K0 Ln).2 198 = (11, 0) := rfl
theorem kz199 (Ln : Nat) : (K0 Ln).2 199 = (20, 1600) := rfl
theorem kz200 (Ln : Nat) : (K0 Ln).2 200 = (20, 6) := rfl
theorem kz201 (Ln : Nat) : (K0 Ln).2 201 = (21, 5) := rfl
theorem kz202 (Ln : Nat) : (K0 Ln).2 202 = (21, 6) := rfl
theorem kz203 (Ln : Nat) : (K0 Ln).2 203 = (21, 5) := rfl
theorem kz204 (Ln : Nat) : (K0 Ln).2 204 = (21, 2) := rfl
theorem kz205 (Ln : Nat) : (K0 Ln).2 205 = (21, 4) := rfl
theorem kz206 (Ln : Nat) : (K0 Ln).2 206 = (21, 4) := rfl
theorem kz207 (Ln : Nat) : (K0 Ln).2 207 = (21, 2) := rfl
theorem kz208 (Ln : Nat) : (K0 Ln).2 208 = (21, 5) := rfl
theorem kz209 (Ln : Nat) : (K0 Ln).2 209 = (21, 6) := rfl
theorem kz210 (Ln : Nat) : (K0 Ln).2 210 = (21, 4) := rfl
theorem kz211 (Ln : Nat) : (K0 Ln).2 211 = (21, 4) := rfl
theorem kz212 (Ln : Nat) : (K0 Ln).2 212 = (21, 4) := rfl
theorem kz213 (Ln : Nat) : (K0 Ln).2 213 = (21, 3) := rfl
theorem kz214 (Ln : Nat) : (K0 Ln).2 214 = (21, 5) := rfl
theorem kz215 (Ln : Nat) : (K0 Ln).2 215 = (21, 5) := rfl
theorem kz216 (Ln : Nat) : (K0 Ln).2 216 = (21, 3) := rfl
theorem kz217 (Ln : Nat) : (K0 Ln).2 217 = (21, 6) := rfl
theorem kz218 (Ln : Nat) : (K0 Ln).2 218 = (21, 4) := rfl
theorem kz219 (Ln : Nat) : (K0 Ln).2 219 = (21, 2) := rfl
theorem kz220 (Ln : Nat) : (K0 Ln).2 220 = (21, 3) := rfl
theorem kz221 (Ln : Nat) : (K0 Ln).2 221 = (21, 3) := rfl
theorem kz222 (Ln : Nat) : (K0 Ln).2 222 = (21, 3) := rfl
theorem kz223 (Ln : Nat) : (K0 Ln).2 223 = (21, 3) := rfl
theorem kz224 (Ln : Nat) : (K0 Ln).2 224 = (21, 3) := rfl
theorem kz225 (Ln : Nat) : (K0 Ln).2 225 = (20, 4) := rfl
theorem kz226 (Ln : Nat) : (K0 Ln).2 226 = (20, 4) := rfl
theorem kz227 (Ln : Nat) : (K0 Ln).2 227 = (22, 32) := rfl
theorem kz228 (Ln : Nat) : (K0 Ln).2 228 = (20, 28) := rfl
theorem kz229 (Ln : Nat) : (K0 Ln).2 229 = (20, 28) := rfl
theorem kz230 (Ln : Nat) : (K0 Ln).2 230 = (20, 4) := rfl
theorem kz231 (Ln : Nat) : (K0 Ln).2 231 = (20, 4) := rfl
theorem kz232 (Ln : Nat) : (K0 Ln).2 232 = (20, 3200) := rfl
theorem kz233 (Ln : Nat) : (K0 Ln).2 233 = (20, 169) := rfl
theorem kz234 (Ln : Nat) : (K0 Ln).2 234 = (20, 48) := rfl
theorem kz235 (Ln : Nat) : (K0 Ln).2 235 = (20, 4) := rfl
theorem kz236 (Ln : Nat) : (K0 Ln).2 236 = (20, 64) := rfl
theorem kz237 (Ln : Nat) : (K0 Ln).2 237 = (20, 1519) := rfl
theorem kz238 (Ln : Nat) : (K0 Ln).2 238 = (20, 3380) := rfl
theorem kz239 (Ln : Nat) : (K0 Ln).2 239 = (21, 5) := rfl
theorem kz240 (Ln : Nat) : (K0 Ln).2 240 = (21, 4) := rfl
theorem kz241 (Ln : Nat) : (K0 Ln).2 241 = (21, 5) := rfl
theorem kz242 (Ln : Nat) : (K0 Ln).2 242 = (21, 5) := rfl
theorem kz243 (Ln : Nat) : (K0 Ln).2 243 = (21, 4) := rfl
theorem kz244 (Ln : Nat) : (K0 Ln).2 244 = (21, 5) := rfl
theorem kz245 (Ln : Nat) : (K0 Ln).2 245 = (21, 3) := rfl
theorem kz246 (Ln : Nat) : (K0 Ln).2 246 = (21, 3) := rfl
theorem kz247 (Ln : Nat) : (K0 Ln).2 247 = (21, 2) := rfl
theorem kz248 (Ln : Nat) : (K0 Ln).2 248 = (21, 3) := rfl
theorem kz249 (Ln : Nat) : (K0 Ln).2 249 = (21, 3) := rfl
theorem kz250 (Ln : Nat) : (K0 Ln).2 250 = (21, 3) := rfl
theorem kz251 (Ln : Nat) : (K0 Ln).2 251 = (21, 4) := rfl
theorem kz252 (Ln : Nat) : (K0 Ln).2 252 = (21, 4) := rfl
theorem kz253 (Ln : Nat) : (K0 Ln).2 253 = (21, 4) := rfl
theorem kz254 (Ln : Nat) : (K0 Ln).2 254 = (21, 3) := rfl
theorem kz255 (Ln : Nat) : (K0 Ln).2 255 = (21, 5) := rfl
theorem kz256 (Ln : Nat) : (K0 Ln).2 256 = (21, 5) := rfl
theorem kz257 (Ln : Nat) : (K0 Ln).2 257 = (21, 6) := rfl
theorem kz258 (Ln : Nat) : (K0 Ln).2 258 = (21, 3) := rfl
theorem kz259 (Ln : Nat) : (K0 Ln).2 259 = (21, 6) := rfl
theorem kz260 (Ln : Nat) : (K0 Ln).2 260 = (21, 4) := rfl
theorem kz261 (Ln : Nat) : (K0 Ln).2 261 = (21, 5) := rfl
theorem kz262 (Ln : Nat) : (K0 Ln).2 262 = (21, 3) := rfl
theorem kz263 (Ln : Nat) : (K0 Ln).2 263 = (20, 1700) := rfl
theorem kz264 (Ln : Nat) : (K0 Ln).2 264 = (20, 1700) := rfl
theorem kz265 (Ln : Nat) : (K0 Ln).2 265 = (22, 1700) := rfl
theorem kz266 (Ln : Nat) : (K0 Ln).2 266 = (20, 62) := rfl
def isIA (a : Int) (n : Nat) : Prop := ∀ Ln : Nat, (K0 Ln).2 a = (20, n)
def isCA (a : Int) (n : Nat) : Prop := ∀ Ln : Nat, (K0 Ln).2 a = (21, n)
/-- the states: now 29, trial 36, those of the past 45 + 7 k -/
def isSt (o : Int) : Prop := o = 29 ∨ o = 36 ∨ ∃ j : Nat, j < 20 ∧ o = 45 + 7 * j
def isRow (o : Int) (n : Nat) : Prop := (∀ Ln : Nat, (K0 Ln).2 o = (6, 0)) ∧ isIA (o + 1) n ∧ 0 ≤ o
def isOf (o : Int) : Prop := o = 9 ∨ o = 19
theorem pst {i : Int} (h : 0 ≤ i ∧ i < 20) : isSt (45 + 7 * i) := Or.inr (Or.inr ⟨i.toNat, by omega, by omega⟩)
theorem stAll (Ln : Nat) : ∀ j : Nat, j < 20 → (K0 Ln).2 (45 + 7 * (j : Int)) = (7, 0) ∧ (K0 Ln).2 (45 + 7 * (j : Int) + 1) = (20, 7) ∧ (K0 Ln).2 (45 + 7 * (j : Int) + 2) = (20, 9) ∧ (K0 Ln).2 (45 + 7 * (j : Int) + 3) = (20, 28) ∧ (K0 Ln).2 (45 + 7 * (j : Int) + 4) = (20, 7) ∧ (K0 Ln).2 (45 + 7 * (j : Int) + 5) = (20, 12) ∧ (K0 Ln).2 (45 + 7 * (j : Int) + 6) = (20, 120) := by
  intro j hj
  match j, hj with
  | 0, _ => exact ⟨rfl, rfl, rfl, rfl, rfl, rfl, rfl⟩
  | 1, _ => exact ⟨rfl, rfl, rfl, rfl, rfl, rfl, rfl⟩
  | 2, _ => exact ⟨rfl, rfl, rfl, rfl, rfl, rfl, rfl⟩
  | 3, _ => exact ⟨rfl, rfl, rfl, rfl, rfl, rfl, rfl⟩
  | 4, _ => exact ⟨rfl, rfl, rfl, rfl, rfl, rfl, rfl⟩
  | 5, _ => exact ⟨rfl, rfl, rfl, rfl, rfl, rfl, rfl⟩
  | 6, _ => exact ⟨rfl, rfl, rfl, rfl, rfl, rfl, rfl⟩
  | 7, _ => exact ⟨rfl, rfl, rfl, rfl, rfl, rfl, rfl⟩
  | 8, _ => exact ⟨rfl, rfl, rfl, rfl, rfl, rfl, rfl⟩
  | 9, _ => exact ⟨rfl, rfl, rfl, rfl, rfl, rfl, rfl⟩
  | 10, _ => exact ⟨rfl, rfl, rfl, rfl, rfl, rfl, rfl⟩
  | 11, _ => exact ⟨rfl, rfl, rfl, rfl, rfl, rfl, rfl⟩
  | 12, _ => exact ⟨rfl, rfl, rfl, rfl, rfl, rfl, rfl⟩
  | 13, _ => exact ⟨rfl, rfl, rfl, rfl, rfl, rfl, rfl⟩
  | 14, _ => exact ⟨rfl, rfl, rfl, rfl, rfl, rfl, rfl⟩
  | 15, _ => exact ⟨rfl, rfl, rfl, rfl, rfl, rfl, rfl⟩
  | 16, _ => exact ⟨rfl, rfl, rfl, rfl, rfl, rfl, rfl⟩
  | 17, _ => exact ⟨rfl, rfl, rfl, rfl, rfl, rfl, rfl⟩
  | 18, _ => exact ⟨rfl, rfl, rfl, rfl, rfl, rfl, rfl⟩
  | 19, _ => exact ⟨rfl, rfl, rfl, rfl, rfl, rfl, rfl⟩
  | n + 20, h => omega
theorem st0 {o : Int} (h : isSt o) (Ln : Nat) : (K0 Ln).2 o = (7, 0) := by
  rcases h with rfl | rfl | ⟨j, hj, rfl⟩
  · rfl
  · rfl
  · exact (stAll Ln j hj).1
theorem st_pos {o : Int} (h : isSt o) : 0 ≤ o := by
  rcases h with rfl | rfl | ⟨j, hj, rfl⟩ <;> omega
theorem st1 {o : Int} (h : isSt o) : isIA (o + 1) 7 := by
  intro Ln
  rcases h with rfl | rfl | ⟨j, hj, rfl⟩
  · rfl
  · rfl
  · exact (stAll Ln j hj).2.1
theorem st2 {o : Int} (h : isSt o) : isIA (o + 2) 9 := by
  intro Ln
  rcases h with rfl | rfl | ⟨j, hj, rfl⟩
  · rfl
  · rfl
  · exact (stAll Ln j hj).2.2.1
theorem st3 {o : Int} (h : isSt o) : isIA (o + 3) 28 := by
  intro Ln
  rcases h with rfl | rfl | ⟨j, hj, rfl⟩
  · rfl
  · rfl
  · exact (stAll Ln j hj).2.2.2.1
theorem st4 {o : Int} (h : isSt o) : isIA (o + 4) 7 := by
  intro Ln
  rcases h with rfl | rfl | ⟨j, hj, rfl⟩
  · rfl
  · rfl
  · exact (stAll Ln j hj).2.2.2.2.1
theorem st5 {o : Int} (h : isSt o) : isIA (o + 5) 12 := by
  intro Ln
  rcases h with rfl | rfl | ⟨j, hj, rfl⟩
  · rfl
  · rfl
  · exact (stAll Ln j hj).2.2.2.2.2.1
theorem st6 {o : Int} (h : isSt o) : isIA (o + 6) 120 := by
  intro Ln
  rcases h with rfl | rfl | ⟨j, hj, rfl⟩
  · rfl
  · rfl
  · exact (stAll Ln j hj).2.2.2.2.2.2
theorem of0 {o : Int} (h : isOf o) (Ln : Nat) : (K0 Ln).2 o = (2, 0) := by rcases h with rfl | rfl <;> rfl
theorem of_pos {o : Int} (h : isOf o) : 0 ≤ o := by rcases h with rfl | rfl <;> omega
theorem of_a1 {o : Int} (h : isOf o) : isIA (o + 1) 11 := by intro Ln; rcases h with rfl | rfl <;> rfl
theorem of_a2 {o : Int} (h : isOf o) : isIA (o + 2) 7 := by intro Ln; rcases h with rfl | rfl <;> rfl
theorem of_a3 {o : Int} (h : isOf o) : isIA (o + 3) 7 := by intro Ln; rcases h with rfl | rfl <;> rfl
theorem of_a4 {o : Int} (h : isOf o) : isIA (o + 4) 28 := by intro Ln; rcases h with rfl | rfl <;> rfl
theorem of_a5 {o : Int} (h : isOf o) : isIA (o + 5) 7 := by intro Ln; rcases h with rfl | rfl <;> rfl
theorem of_r6 {o : Int} (h : isOf o) : isRow (o + 6) 1600 := by rcases h with rfl | rfl <;> exact ⟨fun _ => rfl, fun _ => rfl, by omega⟩
theorem of_r8 {o : Int} (h : isOf o) : isRow (o + 8) 1600 := by rcases h with rfl | rfl <;> exact ⟨fun _ => rfl, fun _ => rfl, by omega⟩
theorem row1 : isRow 1 1600 := ⟨fun _ => rfl, fun _ => rfl, by omega⟩
theorem row3 : isRow 3 64 := ⟨fun _ => rfl, fun _ => rfl, by omega⟩
theorem row5 : isRow 5 64 := ⟨fun _ => rfl, fun _ => rfl, by omega⟩
theorem row7 : isRow 7 1600 := ⟨fun _ => rfl, fun _ => rfl, by omega⟩
theorem row15 : isRow 15 1600 := ⟨fun _ => rfl, fun _ => rfl, by omega⟩
theorem row17 : isRow 17 1600 := ⟨fun _ => rfl, fun _ => rfl, by omega⟩
theorem row25 : isRow 25 1600 := ⟨fun _ => rfl, fun _ => rfl, by omega⟩
theorem row27 : isRow 27 1600 := ⟨fun _ => rfl, fun _ => rfl, by omega⟩
