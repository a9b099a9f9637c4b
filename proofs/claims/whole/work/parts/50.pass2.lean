section PE
variable {d : Nat} {φ φ' : aF} {α α' : aA} {Q : Int → aF → aA → Prop} {b c o m x y v s side i : Int} {n M ns : Nat} {nw nw' rm : Int → Int} {cs : List Int}
theorem dmF_nd {F : (Int → Int) → Int → Int → Int → Int} (hi : i < 2 ∨ 36 ≤ i ∨ i % 5 = 1) (hc : 0 ≤ c ∧ c < 7) (ho : 0 ≤ o ∧ o < 7) {st : (Int → Int) × Int} : ∀ (k : Nat), k ≤ 4 → (dmF F c o st k).1 i = st.1 i
  | 0, _ => rfl
  | k + 1, hk => by
    rw [dmF]
    dsimp only
    rw [mvF_o (by omega) (by omega)]
    exact dmF_nd hi hc ho k (by omega)
theorem soF_nd {F : (Int → Int) → Int → Int → Int → Int} (hM : M ≤ 4) (hi : i < 2 ∨ 36 ≤ i ∨ i % 5 = 1) (hc : 0 ≤ c ∧ c < 7) (ho : o < 7) {st : (Int → Int) × Int} : (soF F M c o st).1 i = st.1 i := by
  unfold soF
  split
  · rfl
  · exact dmF_nd hi hc (by omega) M hM
theorem dyF_nd (hi : i < 2 ∨ 36 ≤ i ∨ i % 5 = 1) {st : (Int → Int) × Int} (G : GS n M ns rm st.1) : ∀ (k : Nat), (dyF (flF n M rm cs) n M st k).1 i = st.1 i
  | 0 => rfl
  | k + 1 => by
    have Gk := (dyF_inv (cs := cs) G k).1
    have hn := G.2.2.2.2.2.2
    rw [dyF]
    unfold dsF
    have g0 := Gk.sit k
    have g1 := Gk.sit ((k : Int) - 1)
    have g2 := Gk.sit ((k : Int) + 1)
    split
    · exact dyF_nd hi G k
    · rw [soF_nd hn.2.1 hi (by omega) (by omega), soF_nd hn.2.1 hi (by omega) (by omega)]
      exact dyF_nd hi G k
theorem c_passDay (hb : isSt b) (X : XS b φ α n nw) (G : GS n M ns rm nw) (E : XE φ α n M ns rm cs) (S : stl b φ n M ns rm cs nw) (h : ∀ φ' α', XS b φ' α' n (dayF (flF n M rm cs) n M ns nw).1 → frd b φ α φ' α' → stl b φ' n M ns rm cs (dayF (flF n M rm cs) n M ns nw).1 → Q (dayF (flF n M rm cs) n M ns nw).2 φ' α') : eX9_passDay (d + 4) b φ α Q := by
  have hbr := st_rng hb
  have hn := G.2.2.2.2.2.2
  have hd0 := G.1
  refine vX9_passDay_0 hb ⟨fun q => ?_, fun q => ?_⟩
  · refine c_copy (st3 hb) (n := 28) (t := 191) (fun _ => rfl) ?_
    have f0 : frd b φ α φ (rg α 191 0 28 (α (b + 3))) := ⟨fun _ _ _ _ => rfl, fun a _ _ z => rg_ne z⟩
    have X0 : XS b φ (rg α 191 0 28 (α (b + 3))) n nw := XS_of rfl (fun j _ _ => rg_ne (by omega)) X
    have E0 : XE φ (rg α 191 0 28 (α (b + 3))) n M ns rm cs := XE_frd hb f0 E
    refine l_pass37 hb G (s := 0) rfl ns 0 (by omega) φ _ X0 E0 (fun φ1 α1 X1 E1 f1 => ?_)
    obtain ⟨G1, i2, i3, i4, i5⟩ := dyF_inv (cs := cs) (st := (nw, 0)) G ns
    dsimp only at i3
    have e0 : φ1 7 0 b = nw 0 := X1.1.trans i3
    have Xn : ∀ φ2 : aF, φ2 7 0 b = nw 0 + 1 → XS b φ2 α1 n (dayF (flF n M rm cs) n M ns nw).1 := by
      intro φ2 h2
      obtain ⟨x1, x2, x3, x4, x5, x6⟩ := X1
      unfold dayF
      dsimp only
      refine ⟨by rw [un_s, i3]; exact h2, fun c q1 q2 => by rw [un_o (by omega)]; exact x2 c q1 q2, fun s q1 q2 => by rw [x3 s q1 q2]; exact (sitF_ext (fun c _ => un_o (by omega))).symm, fun c m q1 q2 q3 q4 => by rw [un_o (by omega)]; exact x4 c m q1 q2 q3 q4, fun c q1 q2 => by rw [fullF_un_o (by omega)]; exact x5 c q1 q2, fun p m q1 q2 q3 q4 => by rw [un_o (by omega)]; exact x6 p m q1 q2 q3 q4⟩
    have fn : ∀ v w : Int, frd b φ α (upf (upf (upf φ1 7 0 b (nw 0 + 1)) 7 10 b v) 7 9 b w) α1 := fun v w => (f0.tr f1.d).tr (((fr_f (Or.inl rfl)).tr (fr_f (Or.inr (Or.inr rfl)))).tr (fr_f (Or.inr (Or.inl rfl)))).d
    refine vX9_passDay_37 hb ⟨fun _ => ⟨by rw [e0]; unfold inR; omega, fun z => ?_, fun z => ?_⟩, fun z => by rw [E1.1.1] at z; omega⟩
    · rw [e0]
      exact h _ _ (Xn _ (by rw [upf_o (by omega), upf_o (by omega), upf_s])) (fn _ _) (Or.inl upf_s)
    · rw [e0]
      refine c_isAsAhead hb (fun v hv => ⟨fun z2 => ?_, fun z2 => ?_⟩)
      · exact h _ _ (Xn _ (by rw [upf_o (by omega), upf_o (by omega), upf_s])) (fn _ _) (Or.inl upf_s)
      · obtain ⟨-, hal⟩ : v = 1 ∧ ∀ i : Int, 0 ≤ i → i < 28 → α1 191 i = α1 (b + 3) i := by
          rcases hv with hv | hv
          · exact hv
          · exact absurd hv z2
        have h12 : (12 : Int) ∉ cs := E1.2.2.2.2.2.2.2 z
        have hE : nwE nw (dayF (flF n M rm cs) n M ns nw).1 := by
          intro i q1 q2
          unfold dayF
          dsimp only
          rw [un_o (by omega)]
          by_cases hi : i < 2 ∨ 36 ≤ i ∨ i % 5 = 1
          · exact dyF_nd hi G ns
          · obtain ⟨c, m, hc, hm, rfl⟩ : ∃ c m : Int, (0 ≤ c ∧ c < 7) ∧ (0 ≤ m ∧ m < 4) ∧ i = 2 + 5 * c + m := ⟨(i - 2) / 5, (i - 2) % 5, by omega, by omega, by omega⟩
            rw [← X1.2.2.2.1 c m hc.1 hc.2 hm.1 hm.2, ← hal _ (by omega) (by omega), f1.2 191 (by omega) (by omega), rg_in (by omega)]
            exact X.2.2.2.1 c m hc.1 hc.2 hm.1 hm.2
        refine h _ _ (Xn _ (by rw [upf_o (by omega), upf_o (by omega), upf_s])) (fn _ _) (Or.inr ⟨upf_s, (dayF_E h12 G hE).1, ?_, h12⟩)
        rw [upf_o (by omega), upf_s]
        exact (dayF_E h12 G hE).2
  · obtain ⟨s1, s2, s3, s4⟩ : φ 7 9 b = 1 ∧ nwE nw (dayF (flF n M rm cs) n M ns nw).1 ∧ (dayF (flF n M rm cs) n M ns nw).2 = φ 7 10 b ∧ (12 : Int) ∉ cs := by
      rcases S with S | S
      · exact absurd S q
      · exact S
    have e0 : φ 7 0 b = nw 0 := X.1
    rw [e0, ← s3]
    refine ⟨by unfold inR; omega, h _ _ ?_ (fr_f (Or.inl rfl)).d (Or.inr ⟨by rw [upf_o (by omega)]; exact s1, (dayF_E s4 G s2).1, ?_, s4⟩)⟩
    · have X1 : XS b (upf φ 7 0 b (nw 0 + 1)) α n (un nw 0 (nw 0 + 1)) := by
        obtain ⟨x1, x2, x3, x4, x5, x6⟩ := X
        refine ⟨by rw [un_s, upf_s], fun c q1 q2 => by rw [un_o (by omega)]; exact x2 c q1 q2, fun s q1 q2 => by rw [x3 s q1 q2]; exact (sitF_ext (fun c _ => un_o (by omega))).symm, fun c m q1 q2 q3 q4 => by rw [un_o (by omega)]; exact x4 c m q1 q2 q3 q4, fun c q1 q2 => by rw [fullF_un_o (by omega)]; exact x5 c q1 q2, fun p m q1 q2 q3 q4 => by rw [un_o (by omega)]; exact x6 p m q1 q2 q3 q4⟩
      refine XS_nw hn.1 (fun i q1 q2 => ?_) X1
      by_cases e : i = 0
      · subst e; rw [un_s]; exact dayF_0 G
      · rw [un_o e]; exact s2 i (by omega) q2
    · rw [(dayF_E s4 G s2).2, upf_o (by omega)]
      exact s3
end PE
