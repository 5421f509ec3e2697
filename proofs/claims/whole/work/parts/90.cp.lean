theorem cp_holds : ∃ (N : Nat) (R : Nat → fm_M → fm_M → Prop), R 0 fm_m0 fm_m1 ∧ (∀ n M1 M2, R n M1 M2 → R (n + 1) M1 M2) ∧ cp_all N R := by
  sorry
