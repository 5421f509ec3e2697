/-! ===== the first relation, and all of it ===== -/
theorem fz_at {k : Nat} (h : fm_zk k = true) (i : Nat) : fm_m0.1 k i = 0 := by rw [fm_zat h]
theorem m1_at (j : Nat) : fm_m1.1 1 j = if j = 39 then 16 else if j = 37 then 9999 else 0 := by
  unfold fm_m1
  rw [si_at]
  by_cases e : j = 39
  · rw [if_pos ⟨rfl, e⟩, if_pos e]
  · rw [if_neg (fun z => e z.2), if_neg e, si_at]
    by_cases e2 : j = 37
    · rw [if_pos ⟨rfl, e2⟩, if_pos e2]
    · rw [if_neg (fun z => e2 z.2), if_neg e2]
      rfl
theorem m1_row {k : Nat} (h : k ≠ 1) : fm_m1.1 k = fm_m1z.1 k := by
  unfold fm_m1
  rw [si_row h, si_row h]
theorem RR_first : RR 0 fm_m0 fm_m1 := by
  have n0 : gn (fm_m1.1 1) = 0 := by unfold gn; rw [m1_at]; decide
  have s0 : gs (fm_m1.1 1) = 0 := by unfold gs; rw [m1_at]; decide
  refine ⟨⟨?_, ?_⟩, ⟨0, by omega, ?_, ?_, fun i hi => absurd hi (Nat.not_lt_zero _)⟩, ⟨0, by omega, ?_, ?_, fun i hi => absurd hi (Nat.not_lt_zero _)⟩, fun i hi => ⟨?_, fun z => absurd ?_ z⟩, ⟨0, by omega, ?_, ?_, fun i hi => ⟨i, hi, rfl⟩, fun i j hi hj e => ?_, fun i hi => absurd hi (Nat.not_lt_zero _)⟩, ⟨0, by omega, ?_, fun i hi => ?_⟩, ?_⟩
  · rw [gV_iff, n0, s0]
    refine ⟨?_, ?_, fun j hj => ?_, fun m q hm => absurd hm (Nat.not_lt_zero _), fun s hs => absurd hs (Nat.not_lt_zero _)⟩
    · rw [m1_at]; unfold bd; decide
    · rw [m1_at]; unfold bd; decide
    · rw [m1_at]
      match j, hj with
      | 0, _ => unfold bd; decide
      | 1, _ => unfold bd; decide
      | 2, _ => unfold bd; decide
  · refine ⟨?_, ?_, fun j hj => ?_, fun m q hm => ?_, fun s j hs => ?_⟩
    · rw [m1_at, fz_at (by decide)]; rfl
    · rw [m1_at, fz_at (by decide)]; rfl
    · rw [m1_at]
      match j, hj with
      | 0, _ => decide
      | 1, _ => decide
      | 2, _ => decide
    · rw [n0] at hm; exact absurd hm (Nat.not_lt_zero _)
    · rw [s0] at hs; exact absurd hs (Nat.not_lt_zero _)
  · exact fz_at (by decide) _
  · rw [m1_row (by decide)]; rfl
  · exact fz_at (by decide) _
  · rw [m1_row (by decide)]; rfl
  · rw [m1_row (by decide), fz_at (by decide)]; rfl
  · rw [m1_row (by decide)]; rfl
  · exact fz_at (by decide) _
  · rw [m1_row (by decide)]; rfl
  · have e' : 61 + 14 * i = 61 + 14 * j := e
    omega
  · exact fz_at (by decide) _
  · rw [fz_at (by decide)]; decide
  · unfold rMod
    rw [m1_row (by decide)]
    exact ⟨rfl, rfl, rfl⟩
theorem cp_done {N : Nat} (hN : 4000 ≤ N) : cp_all N RR := ⟨x_sign hN, x_end, x_mics hN, x_sources hN, x_sheet hN, x_mic, x_source, x_sample hN, x_turned hN, x_beam hN, x_blocked hN, x_clean hN, x_level hN, x_beams hN, x_weights hN, x_loudest hN, x_pattern hN, x_agree hN, x_from hN, x_doubtful hN, x_tracks hN, x_strongest hN, x_faults hN, x_clipped hN, x_without hN, x_worst hN, x_best hN, x_masks hN, x_nulled hN, x_behind hN, x_later hN, x_settles hN, x_sets hN, x_holds hN, x_moves hN, x_learns hN, x_sorts hN, x_aims hN, x_goes hN, x_day hN, x_undo hN, x_years hN, x_keep hN, x_again hN, x_count hN, x_row⟩
