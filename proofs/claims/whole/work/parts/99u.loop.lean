/-! the law's loop: every pair  -/
theorem Inv_nx {sr : Int → Int} {j : Nat} {φ : aF} {α : aA} (I : Inv sr j φ α) : Inv sr (j + 1) φ α := by
  obtain ⟨n, M, ns, rm, cs, ct, I⟩ := I
  exact ⟨n, M, ns, rm, cs, ct, Iv_rf (Nat.le_succ j) I⟩
theorem l_law {Ln d : Nat} {sr : Int → Int} {Q : Int → aF → aA → Prop} (hsr : ∀ i, inR (sr i)) (hL : Ln ≤ 3072) (hQ : ∀ φ α, Q 1 φ α) : ∀ (r j : Nat) (φ : aF) (α : aA), j + r = 513 → Inv sr j φ α → jL Ln (d + 101) (6 * (j : Int)) φ α Q := by
  intro r
  induction r with
  | zero =>
    intro j φ α hr I
    exact vL2_law_18 (d := d + 100) ⟨by unfold inR; omega, fun _ => hQ φ α, fun z => by omega⟩
  | succ r ih =>
    intro j φ α hr I
    have hα : α (-1) = sr := by
      obtain ⟨n, M, ns, rm, cs, ct, I⟩ := id I
      exact I.1
    refine vL2_law_18 (d := d + 100) ⟨by unfold inR; omega, fun _ => hQ φ α, fun z => ?_⟩
    have hj : j < 512 := by omega
    have e6 : 6 * (j : Int) + 6 = 6 * ((j + 1 : Nat) : Int) := by omega
    have fin : ∀ (r r2 : Int) (φ2 : aF) (α2 : aA), pq sr j r r2 φ2 α2 → (r = r2 → inR (6 * (j : Int) + 6) ∧ jL Ln (d + 100 + 1) (6 * (j : Int) + 6) φ2 α2 Q) ∧ (¬ (r = r2) → Q 0 φ2 α2) := fun r r2 φ2 α2 h => ⟨fun _ => ⟨by unfold inR; omega, by rw [e6]; exact ih (j + 1) φ2 α2 (by omega) h.2⟩, fun q => absurd h.1 q⟩
    refine ⟨⟨by omega, by omega⟩, fun _ => ⟨by unfold inR; omega, ⟨by omega, by omega⟩, by unfold inR; omega, ⟨by omega, by omega⟩, by unfold inR; omega, ⟨by omega, by omega⟩, by unfold inR; omega, ⟨by omega, by omega⟩, by unfold inR; omega, ⟨by omega, by omega⟩, R0.mono (p_feed (d := d + 80) hj I) (fun r φ1 α1 h => R0.mono h (fin r))⟩,
      fun _ => ⟨by unfold inR; omega, ⟨by omega, by omega⟩, R0.mono (p_end (d := d + 80) hj I) (fun r φ1 α1 h => R0.mono h (fin r))⟩,
      fun _ => R0.mono (p_registry (d := d) hj I) (fun r φ1 α1 h => R0.mono h (fin r)),
      fun _ => ⟨by unfold inR; omega, ⟨by omega, by omega⟩, R0.mono (p_fault (d := d + 100) I) (fun r φ1 α1 h => R0.mono h (fin r))⟩,
      fun _ => ⟨by unfold inR; omega, ⟨by omega, by omega⟩, R0.mono (p_has (d := d + 80) I) (fun r φ1 α1 h => R0.mono h (fin r))⟩,
      fun _ => ⟨by unfold inR; omega, ⟨by omega, by omega⟩, by unfold inR; omega, ⟨by omega, by omega⟩, by unfold inR; omega, ⟨by omega, by omega⟩, R0.mono (p_letter (d := d + 80) I) (fun r φ1 α1 h => R0.mono h (fin r))⟩,
      fun _ => ⟨by unfold inR; omega, ⟨by omega, by omega⟩, R0.mono (p_seat (d := d + 80) I) (fun r φ1 α1 h => R0.mono h (fin r))⟩,
      fun _ => ⟨by unfold inR; omega, ⟨by omega, by omega⟩, by unfold inR; omega, ⟨by omega, by omega⟩, R0.mono (p_clerk (d := d + 80) I) (fun r φ1 α1 h => R0.mono h (fin r))⟩,
      fun _ => ⟨by unfold inR; omega, ⟨by omega, by omega⟩, by unfold inR; omega, ⟨by omega, by omega⟩, R0.mono (p_drops (d := d + 80) I) (fun r φ1 α1 h => R0.mono h (fin r))⟩,
      fun _ => ⟨by unfold inR; omega, ⟨by omega, by omega⟩, by unfold inR; omega, ⟨by omega, by omega⟩, R0.mono (p_matter (d := d + 80) I) (fun r φ1 α1 h => R0.mono h (fin r))⟩,
      fun _ => ⟨by unfold inR; omega, ⟨by omega, by omega⟩, by unfold inR; omega, ⟨by omega, by omega⟩, by unfold inR; omega, ⟨by omega, by omega⟩, R0.mono (p_leak (d := d + 80) I) (fun r φ1 α1 h => R0.mono h (fin r))⟩,
      fun _ => ⟨by unfold inR; omega, ⟨by omega, by omega⟩, by unfold inR; omega, ⟨by omega, by omega⟩, R0.mono (p_kept (d := d + 80) I) (fun r φ1 α1 h => R0.mono h (fin r))⟩,
      fun _ => ⟨by unfold inR; omega, ⟨by omega, by omega⟩, by unfold inR; omega, ⟨by omega, by omega⟩, by unfold inR; omega, ⟨by omega, by omega⟩, R0.mono (p_later (d := d + 80) hj I) (fun r φ1 α1 h => R0.mono h (fin r))⟩,
      fun _ => ⟨by unfold inR; omega, ⟨by omega, by omega⟩, by unfold inR; omega, ⟨by omega, by omega⟩, R0.mono (p_knows (d := d + 80) hj I) (fun r φ1 α1 h => R0.mono h (fin r))⟩,
      fun _ => ⟨by unfold inR; omega, ⟨by omega, by omega⟩, by unfold inR; omega, ⟨by omega, by omega⟩, R0.mono (p_hears (d := d + 80) hj I) (fun r φ1 α1 h => R0.mono h (fin r))⟩,
      fun _ => ⟨by unfold inR; omega, ⟨by omega, by omega⟩, by unfold inR; omega, ⟨by omega, by omega⟩, by unfold inR; omega, ⟨by omega, by omega⟩, R0.mono (p_discreet (d := d + 80) hj I) (fun r φ1 α1 h => R0.mono h (fin r))⟩,
      fun _ => ⟨by unfold inR; omega, ⟨by omega, by omega⟩, by unfold inR; omega, ⟨by omega, by omega⟩, by unfold inR; omega, ⟨by omega, by omega⟩, R0.mono (p_pressed (d := d + 80) hj I) (fun r φ1 α1 h => R0.mono h (fin r))⟩,
      fun _ => R0.mono (p_mops (d := d + 80) I) (fun r φ1 α1 h => R0.mono h (fin r)),
      fun _ => ⟨by unfold inR; omega, ⟨by omega, by omega⟩, R0.mono (p_desks (d := d + 80) I) (fun r φ1 α1 h => R0.mono h (fin r))⟩,
      fun _ => R0.mono (p_see (d := d + 80) hj I) (fun r φ1 α1 h => R0.mono h (fin r)),
      fun _ => ⟨by unfold inR; omega, ⟨by omega, by omega⟩, by unfold inR; omega, ⟨by omega, by omega⟩, R0.mono (p_sources (d := d + 80) hj I) (fun r φ1 α1 h => R0.mono h (fin r))⟩,
      fun _ => ⟨by unfold inR; omega, ⟨by omega, by omega⟩, by unfold inR; omega, ⟨by omega, by omega⟩, by unfold inR; omega, ⟨by omega, by omega⟩, R0.mono (p_tells (d := d + 80) hj I) (fun r φ1 α1 h => R0.mono h (fin r))⟩,
      fun _ => ⟨by unfold inR; omega, ⟨by omega, by omega⟩, by unfold inR; omega, ⟨by omega, by omega⟩, by unfold inR; omega, ⟨by omega, by omega⟩, R0.mono (p_tell (d := d + 80) hj I) (fun r φ1 α1 h => R0.mono h (fin r))⟩,
      fun _ => ⟨by unfold inR; omega, ⟨by omega, by omega⟩, R0.mono (p_squeeze (d := d + 80) hj I) (fun r φ1 α1 h => R0.mono h (fin r))⟩,
      fun _ => ⟨by unfold inR; omega, ⟨by omega, by omega⟩, R0.mono (p_rinse (d := d + 80) hj I) (fun r φ1 α1 h => R0.mono h (fin r))⟩,
      fun _ => ⟨by unfold inR; omega, ⟨by omega, by omega⟩, R0.mono (p_mop (d := d + 80) hj I) (fun r φ1 α1 h => R0.mono h (fin r))⟩,
      fun _ => ⟨by unfold inR; omega, ⟨by omega, by omega⟩, by unfold inR; omega, ⟨by omega, by omega⟩, R0.mono (p_change (d := d + 80) hj I) (fun r φ1 α1 h => R0.mono h (fin r))⟩,
      fun _ => ⟨by unfold inR; omega, ⟨by omega, by omega⟩, R0.mono (p_days (d := d + 80) hj I) (fun r φ1 α1 h => R0.mono h (fin r))⟩,
      fun _ => ⟨by unfold inR; omega, ⟨by omega, by omega⟩, R0.mono (p_chance (d := d + 80) hj I) (fun r φ1 α1 h => R0.mono h (fin r))⟩,
      fun _ => R0.mono (p_undo (d := d + 80) hj I) (fun r φ1 α1 h => R0.mono h (fin r)),
      fun _ => ⟨by unfold inR; omega, ⟨by omega, by omega⟩, R0.mono (p_seed (d := d + 80) hj I (by rw [hα]; exact hsr _)) (fun r φ1 α1 h => R0.mono h (fin r))⟩,
      fun _ => R0.mono (p_ask (d := d) hj I) (fun r φ1 α1 h => R0.mono h (fun r2 φ2 α2 h => ⟨fun z => (fin r r2 φ2 α2 h).1 (j3_zero.mp z), fun z => (fin r r2 φ2 α2 h).2 (fun e => z (j3_zero.mpr e))⟩)),
      fun _ => R0.mono (p_image (d := d + 80) hj I) (fun r φ1 α1 h => R0.mono h (fin r)),
      fun _ => ⟨by unfold inR; omega, ⟨by omega, by omega⟩, R0.mono (p_octet (d := d + 80) I) (fun r φ1 α1 h => R0.mono h (fin r))⟩,
      fun _ => R0.mono (p_on (d := d + 80) hj I) (fun r φ1 α1 h => R0.mono h (fin r)),
      fun _ => ⟨by unfold inR; omega, ⟨by omega, by omega⟩, R0.mono (p_status (d := d + 80) I) (fun r φ1 α1 h => R0.mono h (fin r))⟩,
      fun _ => ⟨by unfold inR; omega, ?_⟩⟩
    rw [e6]
    exact ih (j + 1) φ α (by omega) (Inv_nx I)
