/-! from the two constructors to the law's loop (printed by wip/whole/gen_init.py) -/
theorem nlL_7 : ∃ (C : String) (T : u_T), CK 10 C T 16 ∧ Cond.classLink RL 7 C ∈ lw_h ∧ Cond.instantiable C 16 ∈ lw_h ∧ Cond.initialized C ∈ lw_h := ⟨RX10, TX10, ckX10, hw (tb1 (List.mem_of_getElem? (i := 20) rfl)) rfl, hw (tb1 (List.mem_of_getElem? (i := 21) rfl)) rfl, hw (tb1 (List.mem_of_getElem? (i := 1) rfl)) rfl⟩
theorem nlL_10 : ∃ (C : String) (T : u_T), CK 11 C T 99 ∧ Cond.classLink RL 10 C ∈ lw_h ∧ Cond.instantiable C 99 ∈ lw_h ∧ Cond.initialized C ∈ lw_h := ⟨RX11, TX11, ckX11, hw (tb6 (List.mem_of_getElem? (i := 54) rfl)) rfl, hw (tb6 (List.mem_of_getElem? (i := 55) rfl)) rfl, hw (tb1 (List.mem_of_getElem? (i := 17) rfl)) rfl⟩
theorem shp_len : shp.length = 267 := by decide +kernel
theorem KP267 {Ln : Nat} : KPz Ln 267 = K0 Ln := by
  unfold KPz K0
  congr 1
  funext j
  dsimp only
  by_cases h : j < ((267 : Nat) : Int)
  · rw [if_pos h]
  · rw [if_neg h, if_neg (by omega), if_pos (by omega), List.getD, List.getElem?_eq_none (by rw [shp_len]; omega)]
    rfl
section EXT
variable {K : bK} {φ φ' : aF} {α α' : aA}
theorem ent_xt {cA : Nat → ClassId} {ad : Nat → Nat} {j : Nat} (ha : α' (j : Int) = α (j : Int)) (hf : ∀ f, f < fNo (K.2 j).1 → φ' (K.2 j).1 f j = φ (K.2 j).1 f j) : ent cA ad K φ' α' j = ent cA ad K φ α j := by
  have e : (List.range (fNo (K.2 j).1)).map (fun k => fcv ad (fT (K.2 j).1 k) (φ' (K.2 j).1 k j)) = (List.range (fNo (K.2 j).1)).map (fun k => fcv ad (fT (K.2 j).1 k) (φ (K.2 j).1 k j)) := List.map_congr_left (fun f hm => by rw [hf f (List.mem_range.mp hm)])
  unfold ent
  rw [ha, e]
theorem jOk_xt {j : Nat} (ha : α' (j : Int) = α (j : Int)) (hf : ∀ f, f < fNo (K.2 j).1 → φ' (K.2 j).1 f j = φ (K.2 j).1 f j) (h : jOk K φ α j) : jOk K φ' α' j := by
  unfold jOk at *
  rw [ha]
  exact ⟨h.1, h.2.1, h.2.2.1, h.2.2.2.1, fun q => ⟨(h.2.2.2.2.1 q).1, fun k hk => by rw [hf k hk]; exact (h.2.2.2.2.1 q).2 k hk⟩, h.2.2.2.2.2⟩
theorem Rn_ext {d : Nat} {M : aM} {pc : Nat} {L S : List aV} {k : Nat × Nat} {Q : bQ} (hs : α' (-1) = α (-1)) (ha : ∀ j : Nat, j < K.1 → α' (j : Int) = α (j : Int)) (hf : ∀ j : Nat, j < K.1 → ∀ f, f < fNo (K.2 j).1 → φ' (K.2 j).1 f j = φ (K.2 j).1 f j) (h : Rn d M pc L S K φ' α' k Q) : Rn d M pc L S K φ α k Q := by
  intro p l e R s m args below meth c D cA ad b base Ln xs H locs cells slots ls C Wo hS hL vL vS
  have ew : wl cA ad K φ' α' = wl cA ad K φ α := List.map_congr_left (fun j hm => by rw [ent_xt (ha j (List.mem_range.mp hm)) (hf j (List.mem_range.mp hm))])
  refine h p l e R s m args below meth c D cA ad b base Ln xs H locs cells slots ls C ?_ hS hL vL vS
  unfold Wd at *
  rw [ew, hs]
  exact ⟨Wo.1, Wo.2.1, fun j hj => jOk_xt (ha j hj) (hf j hj) (Wo.2.2.1 j hj), Wo.2.2.2⟩
end EXT
def φ00 : aF := fun _ _ _ => 0
def φI : aF := fMod (nF 198 (fX10_init_0 (nF 0 φ00)))
def αI (α : aA) : aA := aMod (aX10_init_0 α)
set_option maxRecDepth 100000 in
theorem φI_mix : (List.range 267).all (fun j => (List.range (fNo ((K0 0).2 (j : Int)).1)).all (fun f => !(rF ((K0 0).2 (j : Int)).1 f) || (φI ((K0 0).2 (j : Int)).1 f (j : Int) == ρ0 ((K0 0).2 (j : Int)).1 f (j : Int)))) = true := by decide +kernel
set_option maxRecDepth 100000 in
theorem φI_num : (φI 6 1 1 = 0 ∧ φI 11 1 198 = 0 ∧ φI 5 5 185 = φI 11 7 198 ∧ φI 5 6 185 = φI 11 8 198 ∧ φI 10 15 0 = φI 11 62 198 ∧ 0 ≤ φI 11 62 198 ∧ φI 11 62 198 < 2147483648 ∧ φI 11 52 198 = 0 ∧ φI 11 53 198 = 0) ∧ (φI 2 5 9 = 0 ∧ φI 2 0 9 = 0 ∧ φI 11 46 198 = 0 ∧ φI 2 2 9 = 0 ∧ φI 2 3 9 = 0 ∧ φI 2 4 9 = 0) ∧ (φI 7 0 29 = 0 ∧ φI 7 7 29 = 0 ∧ φI 7 8 29 = 0 ∧ φI 7 9 29 = 0) ∧ (φI 3 1 43 = 0 ∧ φI 11 61 198 = 0 ∧ φI 3 2 43 = 0 ∧ φI 11 60 198 = 0) ∧ (φI 6 1 5 = 0 ∧ φI 11 55 198 = 0) ∧ φI 6 1 3 = 0 ∧ φI 11 98 198 = 0 := by decide +kernel
section ROWS
variable {α α' : aA} {b : Int}
theorem upa_c {a i v : Int} (h : α' b = α b) : upa α' a i v b = upa α a i v b := by funext z; unfold upa; rw [h]
theorem nAz_c {a v : Int} (h : α' b = α b) : nAz a α' v b = nAz a α v b := by funext z; unfold nAz; rw [h]
theorem rg_c {a k n : Int} {f : Int → Int} (h : α' b = α b) : rg α' a k n f b = rg α a k n f b := by funext z; unfold rg; rw [h]
theorem nAz_n {a v : Int} (h : b ≠ a) : nAz a α v b = α b := by funext z; unfold nAz; rw [if_neg h]
theorem aRow_c {o : Nat} (h : α' b = α b) : aRow o α' b = aRow o α b := nAz_c h
theorem aSta_c {o : Nat} (h : α' b = α b) : aSta o α' b = aSta o α b := rg_c (nAz_c (nAz_c (nAz_c (nAz_c (nAz_c (nAz_c h))))))
theorem aRow_n {o : Nat} (h : b < o) : aRow o α b = α b := nAz_n (by omega)
theorem aSta_n {o : Nat} (h : b < o) : aSta o α b = α b := by
  unfold aSta
  rw [rg_ne (by omega), nAz_n (by omega), nAz_n (by omega), nAz_n (by omega), nAz_n (by omega), nAz_n (by omega), nAz_n (by omega)]
theorem aRow_o {o : Nat} (h : (o : Int) + 1 < b) : aRow o α b = α b := nAz_n (by omega)
theorem aSta_o {o : Nat} (h : (o : Int) + 6 < b) : aSta o α b = α b := by
  unfold aSta
  rw [rg_ne (by omega), nAz_n (by omega), nAz_n (by omega), nAz_n (by omega), nAz_n (by omega), nAz_n (by omega), nAz_n (by omega)]
theorem ta_c (h : α' b = α b) : ∀ i : Nat, ta α' i b = ta α i b
  | 0 => nAz_c h
  | i + 1 => by
    rw [ta, ta]
    by_cases q : chv i = 32
    · rw [if_pos q, if_pos q]
      exact upa_c (ta_c h i)
    · rw [if_neg q, if_neg q]
      exact ta_c h i
theorem ta_n (h : b ≠ 187) : ∀ i : Nat, ta α i b = α b
  | 0 => nAz_n h
  | i + 1 => by
    rw [ta]
    by_cases q : chv i = 32
    · rw [if_pos q, upa_fn h]
      exact ta_n h i
    · rw [if_neg q]
      exact ta_n h i
theorem aX2_init_9_c (h : α' b = α b) : aX2_init_9 α' b = aX2_init_9 α b := by
  unfold aX2_init_9
  repeat (first | apply upa_c | apply nAz_c | apply aRow_c | apply aSta_c | exact h)
theorem aX2_init_9_n (h : b = -1) : aX2_init_9 α b = α b := by
  unfold aX2_init_9
  repeat (first | refine (upa_fn (by omega)).trans ?_ | refine (nAz_n (by omega)).trans ?_ | refine (aRow_n (by omega)).trans ?_ | refine (aSta_n (by omega)).trans ?_ | rfl)
theorem aX2_init_19_c (h : α' b = α b) : aX2_init_19 α' b = aX2_init_19 α b := by
  unfold aX2_init_19
  repeat (first | apply upa_c | apply nAz_c | apply aRow_c | apply aSta_c | exact h)
theorem aX2_init_19_n (h : b = -1) : aX2_init_19 α b = α b := by
  unfold aX2_init_19
  repeat (first | refine (upa_fn (by omega)).trans ?_ | refine (nAz_n (by omega)).trans ?_ | refine (aRow_n (by omega)).trans ?_ | refine (aSta_n (by omega)).trans ?_ | rfl)
theorem aX3_init_43_c (h : α' b = α b) : aX3_init_43 α' b = aX3_init_43 α b := by
  unfold aX3_init_43
  repeat (first | apply upa_c | apply nAz_c | apply aRow_c | apply aSta_c | exact h)
theorem aX3_init_43_n (h : b = -1) : aX3_init_43 α b = α b := by
  unfold aX3_init_43
  repeat (first | refine (upa_fn (by omega)).trans ?_ | refine (nAz_n (by omega)).trans ?_ | refine (aRow_n (by omega)).trans ?_ | refine (aSta_n (by omega)).trans ?_ | rfl)
theorem aX5_init_185_c (h : α' b = α b) : aX5_init_185 α' b = aX5_init_185 α b := by
  unfold aX5_init_185 aTok
  repeat (first | apply upa_c | apply nAz_c | apply aRow_c | apply aSta_c | exact ta_c h 152 | exact h)
theorem aX5_init_185_n (h : b = -1 ∨ b = 44) : aX5_init_185 α b = α b := by
  unfold aX5_init_185 aTok
  repeat (first | refine (upa_fn (by omega)).trans ?_ | refine (nAz_n (by omega)).trans ?_ | refine (aRow_n (by omega)).trans ?_ | refine (aSta_n (by omega)).trans ?_ | exact ta_n (by omega) 152 | rfl)
theorem aX1_init_188_c (h : α' b = α b) : aX1_init_188 α' b = aX1_init_188 α b := by
  unfold aX1_init_188
  repeat (first | apply upa_c | apply nAz_c | apply aRow_c | apply aSta_c | exact h)
theorem aX1_init_188_n (h : b = -1 ∨ b = 44) : aX1_init_188 α b = α b := by
  unfold aX1_init_188
  repeat (first | refine (upa_fn (by omega)).trans ?_ | refine (nAz_n (by omega)).trans ?_ | refine (aRow_n (by omega)).trans ?_ | refine (aSta_n (by omega)).trans ?_ | rfl)
theorem aX9_init_190_c (h : α' b = α b) : aX9_init_190 α' b = aX9_init_190 α b := by
  unfold aX9_init_190
  repeat (first | apply upa_c | apply nAz_c | apply aRow_c | apply aSta_c | exact h)
theorem aX9_init_190_n (h : b = -1 ∨ b = 44) : aX9_init_190 α b = α b := by
  unfold aX9_init_190
  repeat (first | refine (upa_fn (by omega)).trans ?_ | refine (nAz_n (by omega)).trans ?_ | refine (aRow_n (by omega)).trans ?_ | refine (aSta_n (by omega)).trans ?_ | rfl)
theorem aX4_init_192_c (h : α' b = α b) : aX4_init_192 α' b = aX4_init_192 α b := by
  unfold aX4_init_192
  repeat (first | apply upa_c | apply nAz_c | apply aRow_c | apply aSta_c | exact h)
theorem aX4_init_192_n (h : b = -1 ∨ b = 44) : aX4_init_192 α b = α b := by
  unfold aX4_init_192
  repeat (first | refine (upa_fn (by omega)).trans ?_ | refine (nAz_n (by omega)).trans ?_ | refine (aRow_n (by omega)).trans ?_ | refine (aSta_n (by omega)).trans ?_ | rfl)
theorem aX0_init_195_c (h : α' b = α b) : aX0_init_195 α' b = aX0_init_195 α b := by
  unfold aX0_init_195
  repeat (first | apply upa_c | apply nAz_c | apply aRow_c | apply aSta_c | exact h)
theorem aX0_init_195_n (h : b = -1 ∨ b = 44) : aX0_init_195 α b = α b := by
  unfold aX0_init_195
  repeat (first | refine (upa_fn (by omega)).trans ?_ | refine (nAz_n (by omega)).trans ?_ | refine (aRow_n (by omega)).trans ?_ | refine (aSta_n (by omega)).trans ?_ | rfl)
theorem aX10_init_0_c (h : α' b = α b) : aX10_init_0 α' b = aX10_init_0 α b := by
  unfold aX10_init_0
  repeat (first | apply upa_c | apply nAz_c | apply aRow_c | apply aSta_c | apply aX2_init_9_c | apply aX2_init_19_c | apply aX3_init_43_c | apply aX5_init_185_c | apply aX1_init_188_c | apply aX9_init_190_c | apply aX4_init_192_c | apply aX0_init_195_c | exact h)
theorem aX10_init_0_n (h : b = -1) : aX10_init_0 α b = α b := by
  unfold aX10_init_0
  repeat (first | refine (upa_fn (by omega)).trans ?_ | refine (nAz_n (by omega)).trans ?_ | refine (aRow_n (by omega)).trans ?_ | refine (aSta_n (by omega)).trans ?_ | refine (aX2_init_9_n (by omega)).trans ?_ | refine (aX2_init_19_n (by omega)).trans ?_ | refine (aX3_init_43_n (by omega)).trans ?_ | refine (aX5_init_185_n (by omega)).trans ?_ | refine (aX1_init_188_n (by omega)).trans ?_ | refine (aX9_init_190_n (by omega)).trans ?_ | refine (aX4_init_192_n (by omega)).trans ?_ | refine (aX0_init_195_n (by omega)).trans ?_ | rfl)
theorem aM_0_c (h : α' b = α b) : aM_0 α' b = aM_0 α b := by
  unfold aM_0
  repeat (first | apply upa_c | apply nAz_c | apply aRow_c | apply aSta_c | exact h)
theorem aM_0_n (h : b = -1 ∨ b = 44) : aM_0 α b = α b := by
  unfold aM_0
  repeat (first | refine (upa_fn (by omega)).trans ?_ | refine (nAz_n (by omega)).trans ?_ | refine (aRow_n (by omega)).trans ?_ | refine (aSta_n (by omega)).trans ?_ | rfl)
theorem aM_1_c (h : α' b = α b) : aM_1 α' b = aM_1 α b := by
  unfold aM_1
  repeat (first | apply upa_c | apply nAz_c | apply aRow_c | apply aSta_c | exact h)
theorem aM_1_n (h : b = -1 ∨ b = 44) : aM_1 α b = α b := by
  unfold aM_1
  repeat (first | refine (upa_fn (by omega)).trans ?_ | refine (nAz_n (by omega)).trans ?_ | refine (aRow_n (by omega)).trans ?_ | refine (aSta_n (by omega)).trans ?_ | rfl)
theorem aM_2_c (h : α' b = α b) : aM_2 α' b = aM_2 α b := by
  unfold aM_2
  repeat (first | apply upa_c | apply nAz_c | apply aRow_c | apply aSta_c | exact h)
theorem aM_2_n (h : b = -1 ∨ b = 44) : aM_2 α b = α b := by
  unfold aM_2
  repeat (first | refine (upa_fn (by omega)).trans ?_ | refine (nAz_n (by omega)).trans ?_ | refine (aRow_n (by omega)).trans ?_ | refine (aSta_n (by omega)).trans ?_ | rfl)
theorem aM_3_c (h : α' b = α b) : aM_3 α' b = aM_3 α b := by
  unfold aM_3
  repeat (first | apply upa_c | apply nAz_c | apply aRow_c | apply aSta_c | exact h)
theorem aM_3_n (h : b = -1 ∨ b = 44) : aM_3 α b = α b := by
  unfold aM_3
  repeat (first | refine (upa_fn (by omega)).trans ?_ | refine (nAz_n (by omega)).trans ?_ | refine (aRow_n (by omega)).trans ?_ | refine (aSta_n (by omega)).trans ?_ | rfl)
theorem aM_4_c (h : α' b = α b) : aM_4 α' b = aM_4 α b := by
  unfold aM_4
  repeat (first | apply upa_c | apply nAz_c | apply aRow_c | apply aSta_c | exact h)
theorem aM_4_n (h : b = -1 ∨ b = 44) : aM_4 α b = α b := by
  unfold aM_4
  repeat (first | refine (upa_fn (by omega)).trans ?_ | refine (nAz_n (by omega)).trans ?_ | refine (aRow_n (by omega)).trans ?_ | refine (aSta_n (by omega)).trans ?_ | rfl)
theorem aM_5_c (h : α' b = α b) : aM_5 α' b = aM_5 α b := by
  unfold aM_5
  repeat (first | apply upa_c | apply nAz_c | apply aRow_c | apply aSta_c | exact h)
theorem aM_5_n (h : b = -1 ∨ b = 44) : aM_5 α b = α b := by
  unfold aM_5
  repeat (first | refine (upa_fn (by omega)).trans ?_ | refine (nAz_n (by omega)).trans ?_ | refine (aRow_n (by omega)).trans ?_ | refine (aSta_n (by omega)).trans ?_ | rfl)
theorem aM_6_c (h : α' b = α b) : aM_6 α' b = aM_6 α b := by
  unfold aM_6
  repeat (first | apply upa_c | apply nAz_c | apply aRow_c | apply aSta_c | exact h)
theorem aM_6_n (h : b = -1 ∨ b = 44) : aM_6 α b = α b := by
  unfold aM_6
  repeat (first | refine (upa_fn (by omega)).trans ?_ | refine (nAz_n (by omega)).trans ?_ | refine (aRow_n (by omega)).trans ?_ | refine (aSta_n (by omega)).trans ?_ | rfl)
theorem aM_7_c (h : α' b = α b) : aM_7 α' b = aM_7 α b := by
  unfold aM_7
  repeat (first | apply upa_c | apply nAz_c | apply aRow_c | apply aSta_c | exact h)
theorem aM_7_n (h : b = -1 ∨ b = 44) : aM_7 α b = α b := by
  unfold aM_7
  repeat (first | refine (upa_fn (by omega)).trans ?_ | refine (nAz_n (by omega)).trans ?_ | refine (aRow_n (by omega)).trans ?_ | refine (aSta_n (by omega)).trans ?_ | rfl)
theorem aM_8_c (h : α' b = α b) : aM_8 α' b = aM_8 α b := by
  unfold aM_8
  repeat (first | apply upa_c | apply nAz_c | apply aRow_c | apply aSta_c | exact h)
theorem aM_8_n (h : b = -1 ∨ b = 44) : aM_8 α b = α b := by
  unfold aM_8
  repeat (first | refine (upa_fn (by omega)).trans ?_ | refine (nAz_n (by omega)).trans ?_ | refine (aRow_n (by omega)).trans ?_ | refine (aSta_n (by omega)).trans ?_ | rfl)
theorem aM_9_c (h : α' b = α b) : aM_9 α' b = aM_9 α b := by
  unfold aM_9
  repeat (first | apply upa_c | apply nAz_c | apply aRow_c | apply aSta_c | exact h)
theorem aM_9_n (h : b = -1 ∨ b = 44) : aM_9 α b = α b := by
  unfold aM_9
  repeat (first | refine (upa_fn (by omega)).trans ?_ | refine (nAz_n (by omega)).trans ?_ | refine (aRow_n (by omega)).trans ?_ | refine (aSta_n (by omega)).trans ?_ | rfl)
theorem aM_10_c (h : α' b = α b) : aM_10 α' b = aM_10 α b := by
  unfold aM_10
  repeat (first | apply upa_c | apply nAz_c | apply aRow_c | apply aSta_c | exact h)
theorem aM_10_n (h : b = -1 ∨ b = 44) : aM_10 α b = α b := by
  unfold aM_10
  repeat (first | refine (upa_fn (by omega)).trans ?_ | refine (nAz_n (by omega)).trans ?_ | refine (aRow_n (by omega)).trans ?_ | refine (aSta_n (by omega)).trans ?_ | rfl)
theorem aM_11_c (h : α' b = α b) : aM_11 α' b = aM_11 α b := by
  unfold aM_11
  repeat (first | apply upa_c | apply nAz_c | apply aRow_c | apply aSta_c | exact h)
theorem aM_11_n (h : b = -1 ∨ b = 44) : aM_11 α b = α b := by
  unfold aM_11
  repeat (first | refine (upa_fn (by omega)).trans ?_ | refine (nAz_n (by omega)).trans ?_ | refine (aRow_n (by omega)).trans ?_ | refine (aSta_n (by omega)).trans ?_ | rfl)
theorem aM_12_c (h : α' b = α b) : aM_12 α' b = aM_12 α b := by
  unfold aM_12
  repeat (first | apply upa_c | apply nAz_c | apply aRow_c | apply aSta_c | exact h)
theorem aM_12_n (h : b = -1 ∨ b = 44) : aM_12 α b = α b := by
  unfold aM_12
  repeat (first | refine (upa_fn (by omega)).trans ?_ | refine (nAz_n (by omega)).trans ?_ | refine (aRow_n (by omega)).trans ?_ | refine (aSta_n (by omega)).trans ?_ | rfl)
theorem aM_13_c (h : α' b = α b) : aM_13 α' b = aM_13 α b := by
  unfold aM_13
  repeat (first | apply upa_c | apply nAz_c | apply aRow_c | apply aSta_c | exact h)
theorem aM_13_n (h : b = -1 ∨ b = 44) : aM_13 α b = α b := by
  unfold aM_13
  repeat (first | refine (upa_fn (by omega)).trans ?_ | refine (nAz_n (by omega)).trans ?_ | refine (aRow_n (by omega)).trans ?_ | refine (aSta_n (by omega)).trans ?_ | rfl)
theorem aM_14_c (h : α' b = α b) : aM_14 α' b = aM_14 α b := by
  unfold aM_14
  repeat (first | apply upa_c | apply nAz_c | apply aRow_c | apply aSta_c | exact h)
theorem aM_14_n (h : b = -1 ∨ b = 44) : aM_14 α b = α b := by
  unfold aM_14
  repeat (first | refine (upa_fn (by omega)).trans ?_ | refine (nAz_n (by omega)).trans ?_ | refine (aRow_n (by omega)).trans ?_ | refine (aSta_n (by omega)).trans ?_ | rfl)
theorem aM_15_c (h : α' b = α b) : aM_15 α' b = aM_15 α b := by
  unfold aM_15
  repeat (first | apply upa_c | apply nAz_c | apply aRow_c | apply aSta_c | exact h)
theorem aM_15_n (h : b = -1 ∨ b = 44) : aM_15 α b = α b := by
  unfold aM_15
  repeat (first | refine (upa_fn (by omega)).trans ?_ | refine (nAz_n (by omega)).trans ?_ | refine (aRow_n (by omega)).trans ?_ | refine (aSta_n (by omega)).trans ?_ | rfl)
theorem aM_16_c (h : α' b = α b) : aM_16 α' b = aM_16 α b := by
  unfold aM_16
  repeat (first | apply upa_c | apply nAz_c | apply aRow_c | apply aSta_c | exact h)
theorem aM_16_n (h : b = -1 ∨ b = 44) : aM_16 α b = α b := by
  unfold aM_16
  repeat (first | refine (upa_fn (by omega)).trans ?_ | refine (nAz_n (by omega)).trans ?_ | refine (aRow_n (by omega)).trans ?_ | refine (aSta_n (by omega)).trans ?_ | rfl)
theorem aM_17_c (h : α' b = α b) : aM_17 α' b = aM_17 α b := by
  unfold aM_17
  repeat (first | apply upa_c | apply nAz_c | apply aRow_c | apply aSta_c | exact h)
theorem aM_17_n (h : b = -1 ∨ b = 44) : aM_17 α b = α b := by
  unfold aM_17
  repeat (first | refine (upa_fn (by omega)).trans ?_ | refine (nAz_n (by omega)).trans ?_ | refine (aRow_n (by omega)).trans ?_ | refine (aSta_n (by omega)).trans ?_ | rfl)
theorem aM_18_c (h : α' b = α b) : aM_18 α' b = aM_18 α b := by
  unfold aM_18
  repeat (first | apply upa_c | apply nAz_c | apply aRow_c | apply aSta_c | exact h)
theorem aM_18_n (h : b = -1 ∨ b = 44) : aM_18 α b = α b := by
  unfold aM_18
  repeat (first | refine (upa_fn (by omega)).trans ?_ | refine (nAz_n (by omega)).trans ?_ | refine (aRow_n (by omega)).trans ?_ | refine (aSta_n (by omega)).trans ?_ | rfl)
theorem aM_19_c (h : α' b = α b) : aM_19 α' b = aM_19 α b := by
  unfold aM_19
  repeat (first | apply upa_c | apply nAz_c | apply aRow_c | apply aSta_c | exact h)
theorem aM_19_n (h : b = -1 ∨ b = 44) : aM_19 α b = α b := by
  unfold aM_19
  repeat (first | refine (upa_fn (by omega)).trans ?_ | refine (nAz_n (by omega)).trans ?_ | refine (aRow_n (by omega)).trans ?_ | refine (aSta_n (by omega)).trans ?_ | rfl)
theorem aM_20_c (h : α' b = α b) : aM_20 α' b = aM_20 α b := by
  unfold aM_20
  repeat (first | apply upa_c | apply nAz_c | apply aRow_c | apply aSta_c | exact h)
theorem aM_20_n (h : b = -1 ∨ b = 44) : aM_20 α b = α b := by
  unfold aM_20
  repeat (first | refine (upa_fn (by omega)).trans ?_ | refine (nAz_n (by omega)).trans ?_ | refine (aRow_n (by omega)).trans ?_ | refine (aSta_n (by omega)).trans ?_ | rfl)
theorem aM_21_c (h : α' b = α b) : aM_21 α' b = aM_21 α b := by
  unfold aM_21
  repeat (first | apply upa_c | apply nAz_c | apply aRow_c | apply aSta_c | exact h)
theorem aM_21_n (h : b = -1 ∨ b = 44) : aM_21 α b = α b := by
  unfold aM_21
  repeat (first | refine (upa_fn (by omega)).trans ?_ | refine (nAz_n (by omega)).trans ?_ | refine (aRow_n (by omega)).trans ?_ | refine (aSta_n (by omega)).trans ?_ | rfl)
theorem aM_22_c (h : α' b = α b) : aM_22 α' b = aM_22 α b := by
  unfold aM_22
  repeat (first | apply upa_c | apply nAz_c | apply aRow_c | apply aSta_c | exact h)
theorem aM_22_n (h : b = -1 ∨ b = 44) : aM_22 α b = α b := by
  unfold aM_22
  repeat (first | refine (upa_fn (by omega)).trans ?_ | refine (nAz_n (by omega)).trans ?_ | refine (aRow_n (by omega)).trans ?_ | refine (aSta_n (by omega)).trans ?_ | rfl)
theorem aM_23_c (h : α' b = α b) : aM_23 α' b = aM_23 α b := by
  unfold aM_23
  repeat (first | apply upa_c | apply nAz_c | apply aRow_c | apply aSta_c | exact h)
theorem aM_23_n (h : b = -1 ∨ b = 44) : aM_23 α b = α b := by
  unfold aM_23
  repeat (first | refine (upa_fn (by omega)).trans ?_ | refine (nAz_n (by omega)).trans ?_ | refine (aRow_n (by omega)).trans ?_ | refine (aSta_n (by omega)).trans ?_ | rfl)
theorem aM_24_c (h : α' b = α b) : aM_24 α' b = aM_24 α b := by
  unfold aM_24
  repeat (first | apply upa_c | apply nAz_c | apply aRow_c | apply aSta_c | exact h)
theorem aM_24_n (h : b = -1 ∨ b = 44) : aM_24 α b = α b := by
  unfold aM_24
  repeat (first | refine (upa_fn (by omega)).trans ?_ | refine (nAz_n (by omega)).trans ?_ | refine (aRow_n (by omega)).trans ?_ | refine (aSta_n (by omega)).trans ?_ | rfl)
theorem aM_25_c (h : α' b = α b) : aM_25 α' b = aM_25 α b := by
  unfold aM_25
  repeat (first | apply upa_c | apply nAz_c | apply aRow_c | apply aSta_c | exact h)
theorem aM_25_n (h : b = -1 ∨ b = 44) : aM_25 α b = α b := by
  unfold aM_25
  repeat (first | refine (upa_fn (by omega)).trans ?_ | refine (nAz_n (by omega)).trans ?_ | refine (aRow_n (by omega)).trans ?_ | refine (aSta_n (by omega)).trans ?_ | rfl)
theorem aM_26_c (h : α' b = α b) : aM_26 α' b = aM_26 α b := by
  unfold aM_26
  repeat (first | apply upa_c | apply nAz_c | apply aRow_c | apply aSta_c | exact h)
theorem aM_26_n (h : b = -1 ∨ b = 44) : aM_26 α b = α b := by
  unfold aM_26
  repeat (first | refine (upa_fn (by omega)).trans ?_ | refine (nAz_n (by omega)).trans ?_ | refine (aRow_n (by omega)).trans ?_ | refine (aSta_n (by omega)).trans ?_ | rfl)
theorem aMod_c (h : α' b = α b) : aMod α' b = aMod α b := aM_26_c (aM_25_c (aM_24_c (aM_23_c (aM_22_c (aM_21_c (aM_20_c (aM_19_c (aM_18_c (aM_17_c (aM_16_c (aM_15_c (aM_14_c (aM_13_c (aM_12_c (aM_11_c (aM_10_c (aM_9_c (aM_8_c (aM_7_c (aM_6_c (aM_5_c (aM_4_c (aM_3_c (aM_2_c (aM_1_c (aM_0_c h))))))))))))))))))))))))))
theorem aMod_n (h : b = -1 ∨ b = 44) : aMod α b = α b := by
  unfold aMod
  rw [aM_26_n h, aM_25_n h, aM_24_n h, aM_23_n h, aM_22_n h, aM_21_n h, aM_20_n h, aM_19_n h, aM_18_n h, aM_17_n h, aM_16_n h, aM_15_n h, aM_14_n h, aM_13_n h, aM_12_n h, aM_11_n h, aM_10_n h, aM_9_n h, aM_8_n h, aM_7_n h, aM_6_n h, aM_5_n h, aM_4_n h, aM_3_n h, aM_2_n h, aM_1_n h, aM_0_n h]
theorem αI_c (h : α' b = α b) : αI α' b = αI α b := aMod_c (aX10_init_0_c h)
theorem αI_s : αI α (-1) = α (-1) := (aMod_n (Or.inl rfl)).trans (aX10_init_0_n rfl)
end ROWS
def α00 : aA := fun _ _ => 0
theorem r44_o {α : aA} {i : Int} (h : ¬ (0 ≤ i ∧ i < 20)) : aX3_init_43 α 44 i = -1 := by
  unfold aX3_init_43
  rw [upa_ni (by omega), aSta_n (by omega)]
  rw [upa_ni (by omega), aSta_n (by omega)]
  rw [upa_ni (by omega), aSta_n (by omega)]
  rw [upa_ni (by omega), aSta_n (by omega)]
  rw [upa_ni (by omega), aSta_n (by omega)]
  rw [upa_ni (by omega), aSta_n (by omega)]
  rw [upa_ni (by omega), aSta_n (by omega)]
  rw [upa_ni (by omega), aSta_n (by omega)]
  rw [upa_ni (by omega), aSta_n (by omega)]
  rw [upa_ni (by omega), aSta_n (by omega)]
  rw [upa_ni (by omega), aSta_n (by omega)]
  rw [upa_ni (by omega), aSta_n (by omega)]
  rw [upa_ni (by omega), aSta_n (by omega)]
  rw [upa_ni (by omega), aSta_n (by omega)]
  rw [upa_ni (by omega), aSta_n (by omega)]
  rw [upa_ni (by omega), aSta_n (by omega)]
  rw [upa_ni (by omega), aSta_n (by omega)]
  rw [upa_ni (by omega), aSta_n (by omega)]
  rw [upa_ni (by omega), aSta_n (by omega)]
  rw [upa_ni (by omega), aSta_n (by omega)]
  unfold nAz
  rw [if_pos rfl]
theorem r44_m {α : aA} : αI α 44 = aX3_init_43 (aSta 36 (aSta 29 (aX2_init_19 (aX2_init_9 (aRow 7 (aRow 5 (aRow 3 (aRow 1 α)))))))) 44 := by
  refine (aMod_n (Or.inr rfl)).trans ?_
  unfold aX10_init_0
  rw [nAz_n (by omega), aX0_init_195_n (Or.inr rfl), aX4_init_192_n (Or.inr rfl), aX9_init_190_n (Or.inr rfl), aX1_init_188_n (Or.inr rfl), aX5_init_185_n (Or.inr rfl)]
set_option maxRecDepth 100000 in
theorem r44_i : (List.range 20).all (fun i => αI α00 44 (i : Int) == 45 + 7 * (i : Int)) = true := by decide +kernel
theorem r44 {α : aA} (h : α 44 = α00 44) : αI α 44 = pS := by
  funext i
  unfold pS
  by_cases q : 0 ≤ i ∧ i < 20
  · rw [if_pos q, αI_c h]
    have := List.all_eq_true.mp r44_i i.toNat (List.mem_range.mpr (by omega))
    rw [beq_iff_eq, Int.toNat_of_nonneg q.1] at this
    exact this
  · rw [if_neg q]
    rw [r44_m]
    exact r44_o q
def zR (a : Int) (n : Nat) : Bool := (List.range n).all (fun i => αI α00 a (i : Int) == 0)
theorem zR_k {α : aA} {a : Int} {n : Nat} (h : zR a n = true) (ha : α a = α00 a) {i : Int} (h0 : 0 ≤ i) (h1 : i < n) : αI α a i = 0 := by
  rw [αI_c ha]
  have := List.all_eq_true.mp h i.toNat (List.mem_range.mpr (by omega))
  rw [beq_iff_eq, Int.toNat_of_nonneg h0] at this
  exact this
set_option maxRecDepth 100000 in
theorem z_all : zR 197 6 = true ∧ zR 200 6 = true ∧ zR 225 8 = true ∧ zR 226 8 = true ∧ zR 32 28 = true ∧ zR 33 7 = true ∧ zR 34 12 = true ∧ zR 233 50 = true := by decide +kernel
set_option maxRecDepth 100000 in
theorem m_all : (List.range 9).all (fun i => αI α00 31 (i : Int) == -1) = true := by decide +kernel
set_option maxRecDepth 100000 in
theorem w_all : (List.range 30).all (fun k => αI α00 187 (k : Int) == pkw (wdl.getD k [])) = true := by decide +kernel
set_option maxRecDepth 100000 in
theorem w1_all : (List.range 24).all (fun k => (List.range (wdl.getD k []).length).all (fun i => αI α00 (201 + (k : Int)) (i : Int) == (wdl.getD k []).getD i 0)) = true := by decide +kernel
set_option maxRecDepth 100000 in
theorem w2_all : (List.range 24).all (fun k => (List.range (wdq.getD k []).length).all (fun i => αI α00 (239 + (k : Int)) (i : Int) == (wdq.getD k []).getD i 0)) = true := by decide +kernel
theorem Inv_0 {α : aA} (h : ∀ a : Int, a ≠ -1 → α a = α00 a) : Inv (α (-1)) 0 φI (αI α) := by
  obtain ⟨⟨f1, f2, f3, f4, f5, f6, f7, f8, f9⟩, ⟨g1, g2, g3, g4, g5, g6⟩, ⟨k1, k2, k3, k4⟩, ⟨p1, p2, p3, p4⟩, ⟨s1, s2⟩, c1, c2⟩ := φI_num
  obtain ⟨z1, z2, z3, z4, z5, z6, z7, z8⟩ := z_all
  have hh : ∀ {a : Int}, 0 ≤ a → α a = α00 a := fun q => h _ (by omega)
  have a233 : ∀ i : Int, 0 ≤ i → i < (50 : Nat) → αI α 233 i = 0 := fun i q1 q2 => zR_k z8 (hh (by omega)) q1 q2
  refine ⟨0, 0, 0, fun _ => 0, [], [], αI_s, ⟨by omega, by omega, by omega, fun i q1 q2 => by omega⟩, ⟨f3, f4⟩, fun i q1 q2 => ?_, ⟨f5, f6, f7⟩, ⟨f8, by omega, by omega⟩, ?_, ?_, ?_, ?_, ?_, ?_⟩
  · have e1 := zR_k z1 (hh (by omega)) q1 (show i < (6 : Nat) by omega)
    have e2 := zR_k z2 (hh (by omega)) q1 (show i < (6 : Nat) by omega)
    omega
  · have e3 := zR_k z3 (hh (by omega)) (i := 3) (by omega) (by omega)
    have e4 := zR_k z3 (hh (by omega)) (i := 2) (by omega) (by omega)
    have e5 := zR_k z4 (hh (by omega)) (i := 2) (by omega) (by omega)
    have e6 := zR_k z4 (hh (by omega)) (i := 3) (by omega) (by omega)
    exact ⟨⟨by omega, by omega, by omega, fun c q1 q2 => by omega⟩, ⟨by omega, by omega, by omega, fun c q1 q2 => by omega⟩, fun c q1 q2 => by omega, ⟨by omega, by omega, by omega⟩, ⟨fun c q1 q2 => by omega, fun c q1 q2 => by omega⟩, by omega, Or.inl ⟨g3, rfl, rfl, rfl⟩⟩
  · have e0 := a233 0 (by omega) (by omega)
    have e48 := a233 48 (by omega) (by omega)
    refine ⟨⟨by omega, fun c q1 q2 => by omega, fun i q1 q2 => ?_, fun c m q1 q2 q3 q4 => ?_, fun c q1 q2 => ?_, fun p m q1 q2 q3 q4 => ?_⟩, ⟨⟨by omega, by omega⟩, fun c q => by omega, fun c c' q => by omega, fun c m q1 q2 q3 q4 => ?_, fun c q1 q2 => by omega, fun m p q1 q2 q3 q4 => ?_, by omega, by omega, by omega⟩, ⟨by omega, by omega, by omega, by omega, by omega, fun k w q1 q2 => by omega⟩, by omega, Or.inl k4⟩
    · show αI α 31 i = -1
      rw [αI_c (hh (by omega))]
      have := List.all_eq_true.mp m_all i.toNat (List.mem_range.mpr (by omega))
      rw [beq_iff_eq, Int.toNat_of_nonneg q1] at this
      exact this
    · rw [a233 _ (by omega) (by omega)]
      exact zR_k z5 (hh (by omega)) (by omega) (by omega)
    · unfold fullF
      rw [a233 _ (by omega) (by omega), a233 _ (by omega) (by omega), a233 _ (by omega) (by omega), a233 _ (by omega) (by omega)]
      exact zR_k z6 (hh (by omega)) (by omega) (by omega)
    · rw [a233 _ (by omega) (by omega)]
      exact zR_k z7 (hh (by omega)) (by omega) (by omega)
    · rw [a233 _ (by omega) (by omega)]
      exact ⟨by omega, fun _ => rfl⟩
    · rw [a233 _ (by omega) (by omega)]
      exact ⟨by omega, by omega, fun _ => rfl⟩
  · exact ⟨by omega, by omega, by omega, by omega, by omega, by omega, fun i q1 q2 => by omega⟩
  · exact ⟨by omega, by omega, by omega, fun i q1 q2 => by omega, fun k q1 q2 => by omega⟩
  · exact ⟨by omega, by omega, by omega, fun i q1 q2 => by omega⟩
  · refine ⟨fun k hk => ?_, fun k i hk hi => ?_, fun k i hk hi => ?_⟩
    · rw [αI_c (hh (by omega))]
      exact beq_iff_eq.mp (List.all_eq_true.mp w_all k (List.mem_range.mpr hk))
    · rw [αI_c (hh (by omega))]
      exact beq_iff_eq.mp (List.all_eq_true.mp (List.all_eq_true.mp w1_all k (List.mem_range.mpr hk)) i (List.mem_range.mpr hi))
    · rw [αI_c (hh (by omega))]
      exact beq_iff_eq.mp (List.all_eq_true.mp (List.all_eq_true.mp w2_all k (List.mem_range.mpr hk)) i (List.mem_range.mpr hi))
/-- the law, from its entry -/
theorem l_start {d Ln : Nat} {α : aA} (hL : Ln ≤ 3072) (hs : ∀ i, inR (α (-1) i)) (h : ∀ a : Int, a ≠ -1 → α a = α00 a) : Rn (d + 101) mL_law 0 [(4, 0), (9, 0), (9, 0), (9, 0)] [] (KPz Ln 0) φ00 α (267, 31441) (Q0 mL_law Ln (fun x _ _ => x = 1)) := by
  refine k_new (n := 0) (pc' := 3) (k := (266, 31425)) (kL_law_0 0 rfl) rfl nlL_7 (by decide) rfl ?_
  refine r_dup (pc' := 4) (kL_law_0 1 rfl) rfl rfl ?_
  refine r_callI (d := d + 100) (N := mX10_init) (As := []) (S := [(2, 0)]) (pc' := 7) (k1 := (197, 15879)) (k2 := (69, 15546)) (kL_law_0 2 rfl) rfl rfl nkX10_init mlL_9 imX10_init rfl rfl rfl (Nat.le_of_ble_eq_true rfl) (Nat.le_of_ble_eq_true rfl) (kc_X10_init_0 (d := d + 93)) (fun r K' φ' α' e => ?_)
  obtain ⟨rfl, rfl, rfl, rfl⟩ := e
  show Rn _ _ _ _ [(2, 0)] _ _ _ _ _
  refine r_astore_n (L' := [(4, 0), (2, 0), (9, 0), (9, 0)]) (pc' := 8) (kL_law_0 3 rfl) rfl (Nat.le_of_ble_eq_true rfl) rfl ?_
  refine k_new (n := 198) (pc' := 11) (k := (68, 15447)) (kL_law_0 4 rfl) rfl nlL_10 (by decide) rfl ?_
  refine r_dup (pc' := 12) (kL_law_0 5 rfl) rfl rfl ?_
  refine r_callI (d := d + 100) (N := mX11_init) (As := []) (S := [(2, 198)]) (pc' := 15) (k1 := (68, 15447)) (k2 := (0, 0)) (kL_law_0 6 rfl) rfl rfl nkX11_init mlL_12 imX11_init rfl rfl rfl (Nat.le_of_ble_eq_true rfl) (Nat.le_of_ble_eq_true rfl) (kc_X11_init_198 (d := d + 99)) (fun r K' φ' α' e => ?_)
  obtain ⟨rfl, rfl, rfl, rfl⟩ := e
  show Rn _ _ _ _ [(2, 198)] _ φI (αI α) _ _
  rw [KP267]
  refine r_astore_n (L' := [(4, 0), (2, 0), (2, 198), (9, 0)]) (pc' := 16) (kL_law_0 7 rfl) rfl (Nat.le_of_ble_eq_true rfl) rfl ?_
  refine r_iconst 0 (pc' := 17) (kL_law_0 8 rfl) rfl inR0 ?_
  refine r_istore_n (L' := [(4, 0), (2, 0), (2, 198), (0, 0)]) (pc' := 18) (kL_law_0 9 rfl) rfl (Nat.le_of_ble_eq_true rfl) rfl ?_
  refine Rn_ext (φ' := mix φI) (α' := mixA (αI α)) ?_ (fun j hj => ?_) (fun j hj f hf => ?_) (l_law (Ln := Ln) (d := d) (sr := α (-1)) (Q := fun x _ _ => x = 1) hs hL (fun _ _ => rfl) 513 0 φI (αI α) (by omega) (Inv_0 h))
  · funext i
    exact mixA_ne (by decide)
  · by_cases e : (j : Int) = 44
    · rw [e, r44 (h 44 (by decide))]
      rfl
    · funext i
      exact mixA_ne e
  · have eK : ((K0 Ln).2 (j : Int)).1 = ((K0 0).2 (j : Int)).1 := by
      unfold K0
      dsimp only
      rw [if_neg (show ¬ ((j : Int) = -1) by omega), if_neg (show ¬ ((j : Int) = -1) by omega)]
    rw [eK] at hf ⊢
    have := List.all_eq_true.mp (List.all_eq_true.mp φI_mix j (List.mem_range.mpr hj)) f (List.mem_range.mpr hf)
    cases q : rF ((K0 0).2 (j : Int)).1 f with
    | false => exact mix_int q
    | true =>
      rw [q] at this
      rw [mix_ref q]
      exact (beq_iff_eq.mp this).symm
