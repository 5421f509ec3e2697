/-! ===== letters ===== -/
theorem lpS {σ ρ : Type} {step : (σ → Option ρ) → σ → Option ρ} {n : Nat} {s : σ} : fm_lp step (n + 1) s = step (fm_lp step n) s := rfl
theorem ok_equal {α : Type} {c : Option α} {r : α} (h : ok c (fun x => x = r)) : c = some r := by
  obtain ⟨x, e, rfl⟩ := h
  exact e
theorem b255 (x : Int32) : ∃ c : Nat, c < 256 ∧ x &&& 255 = nn c := ⟨x.toBitVec.toNat % 256, Nat.mod_lt _ (by decide), pk_and x 8 (by decide)⟩
theorem b_raw {x : Int32} {c : Nat} (h : bd x (-128) 127) (e : x &&& 255 = nn c) (hc : c < 128) : x = nn c := by
  have e0 : x &&& 255 = nn (x.toBitVec.toNat % 256) := pk_and x 8 (by decide)
  rw [e0] at e
  have e1 := tn_mod x
  have hlt : x.toBitVec.toNat % 256 < 256 := Nat.mod_lt _ (by decide)
  have e2 : x.toBitVec.toNat % 256 = c := (nn_inj nB nB).mp e
  unfold bd at h
  have e3 : x.toInt = c := by split at e1 <;> omega
  rw [← ii_of x, e3, ← nn_ii]
def bb (k : Nat) (c : Nat → Nat) (i : Nat) : Int := if i < k then (c i : Int) else -1
def dg (k : Nat) (c : Nat → Nat) (i : Nat) : Int := if 48 ≤ bb k c i ∧ bb k c i ≤ 57 then bb k c i - 48 else -1
def lC (M : fm_M) (k : Nat) (c : Nat → Nat) : Prop := k ≤ 80 ∧ M.1 173 1 = nn k ∧ ∀ i, i < k → M.1 174 i = nn (c i) ∧ c i < 256
def lM (M : fm_M) (k : Nat) (c : Nat → Nat) : Prop := k ≤ 80 ∧ M.1 0 6 = nn k ∧ ∀ i, i < k → M.1 2 i &&& 255 = nn (c i) ∧ c i < 256 ∧ bd (M.1 2 i) (-128) 127
theorem dg_bd {k : Nat} {c : Nat → Nat} {i : Nat} : -1 ≤ dg k c i ∧ dg k c i ≤ 9 := by
  unfold dg
  split <;> omega
theorem dg_out {k : Nat} {c : Nat → Nat} {i : Nat} (h : k ≤ i) : dg k c i = -1 := by
  unfold dg bb
  rw [if_neg (by omega)]
theorem dg_neg {k : Nat} {c : Nat → Nat} {i : Nat} : dg k c i < 0 ↔ ¬ (48 ≤ bb k c i ∧ bb k c i ≤ 57) := by
  unfold dg
  split <;> omega
theorem dg_val {k : Nat} {c : Nat → Nat} {i : Nat} (h : 0 ≤ dg k c i) : dg k c i = bb k c i - 48 := by
  unfold dg at *
  split at h
  · rename_i h'
    rw [if_pos h']
  · omega
theorem lC.kf {P : Nat → Prop} {M M' : fm_M} {k : Nat} {c : Nat → Nat} (h : lC M k c) (hf : fr P M M') (h1 : ¬ P 173) (h2 : ¬ P 174) : lC M' k c := by
  unfold lC
  rw [hf.1 173 h1, hf.1 174 h2]
  exact h
theorem lM.kp {M M' : fm_M} {k : Nat} {c : Nat → Nat} (h : lM M k c) (e1 : M'.1 0 6 = M.1 0 6) (e2 : M'.1 2 = M.1 2) : lM M' k c := by
  unfold lM
  rw [e1, e2]
  exact h
theorem lC.b {M : fm_M} {k : Nat} {c : Nat → Nat} (h : lC M k c) (i : Nat) : -1 ≤ bb k c i ∧ bb k c i < 256 := by
  unfold bb
  split
  · rename_i hi
    have := (h.2.2 i hi).2
    omega
  · omega
theorem lM.b {M : fm_M} {k : Nat} {c : Nat → Nat} (h : lM M k c) (i : Nat) : -1 ≤ bb k c i ∧ bb k c i < 256 := by
  unfold bb
  split
  · rename_i hi
    have := (h.2.2 i hi).2.1
    omega
  · omega
theorem nrng {b lo hi : Int} (h : ¬ (lo ≤ b ∧ b ≤ hi)) (h2 : (-2147483648 ≤ lo ∧ lo ≤ 2147483647) ∧ (-2147483648 ≤ hi ∧ hi ≤ 2147483647) ∧ -2147483648 ≤ b ∧ b ≤ 2147483647) : ¬ (ii lo ≤ ii b ∧ ii b ≤ ii hi) := by
  rw [ii_le (by omega), ii_le (by omega)]
  exact h
section LET
variable {N : Nat} {M : fm_M} {k : Nat} {c : Nat → Nat} {i : Nat}
theorem cs_lat (h : lC M k c) (hi : i < 200) : pLetters_at M (nn i) = some (ii (bb k c i)) := by
  have hk := h.1
  unfold pLetters_at
  rw [if_neg (by rw [show (0 : Int32) = nn 0 from rfl, nn_lt nB nB]; omega), h.2.1]
  by_cases hc : i < k
  · rw [if_neg (by rw [nn_le nB nB]; omega), ldE (by omega) nL, (h.2.2 i hc).1]
    unfold bb
    rw [if_pos hc, nn_ii]
  · rw [if_pos (by rw [nn_le nB nB]; omega)]
    unfold bb
    rw [if_neg hc]
    rfl
theorem cs_digit (h : lC M k c) (hi : i < 200) : pLetters_digit M (nn i) = some (ii (dg k c i)) := by
  unfold pLetters_digit
  rw [cs_lat h hi]
  show (pMicRow_within M (ii (bb k c i)) 48 57).bind _ = _
  have hb := h.b i
  by_cases hd : 48 ≤ bb k c i ∧ bb k c i ≤ 57
  · rw [show pMicRow_within M (ii (bb k c i)) 48 57 = some 1 from wi_pos (rng_in hd (by decide))]
    show some (ii (bb k c i) - 48) = _
    unfold dg
    rw [if_pos hd, show (48 : Int32) = ii 48 from rfl, ii_sub]
  · rw [show pMicRow_within M (ii (bb k c i)) 48 57 = some 0 from wi_neg (nrng hd (by omega))]
    unfold dg
    rw [if_neg hd]
    rfl
theorem cs_number2 (hN : 4000 ≤ N) (h : lC M k c) (hi : i < 190) : pLetters_number N M (nn i) 2 = some (ii (10 * dg k c i + dg k c (i + 1))) := by
  obtain ⟨n, rfl⟩ : ∃ n, N = n + 3 := ⟨N - 3, by omega⟩
  refine ok_equal ?_
  unfold pLetters_number
  rw [lpS]
  unfold pLetters_number_L5 pLetters_number_L5b
  refine ok_neg (by decide) ?_
  (try dsimp only)
  rw [show nn i + 0 = nn i from Int32.add_zero _]
  refine ok_bindE (cs_digit h (by omega)) ?_
  rw [lpS]
  (try dsimp only)
  refine ok_neg (by decide) ?_
  rw [show nn i + (0 + 1) = nn (i + 1) from nn_succ]
  refine ok_bindE (cs_digit h (by omega)) ?_
  rw [lpS]
  (try dsimp only)
  refine ok_pos (by decide) (ok_some ?_)
  rw [show (10 : Int32) = ii 10 from rfl, show (0 : Int32) = ii 0 from rfl, ii_mul, ii_add, ii_mul, ii_add]
  congr 1
  omega
theorem cs_pm (h : lC M k c) (hi : i < 200) : pLetters_isPlusOrMinus M (nn i) = some (if bb k c i = 43 ∨ bb k c i = 45 then 1 else 0) := by
  have hb := h.b i
  unfold pLetters_isPlusOrMinus
  rw [cs_lat h hi]
  show (if ii (bb k c i) = 43 then _ else (some (ii (bb k c i))).bind _) = _
  by_cases e1 : bb k c i = 43
  · rw [if_pos (by rw [e1]; rfl), if_pos (Or.inl e1)]
  · rw [if_neg (by rw [show (43 : Int32) = ii 43 from rfl, ii_inj (by omega)]; exact e1)]
    show (if ii (bb k c i) = 45 then _ else _) = _
    by_cases e2 : bb k c i = 45
    · rw [if_pos (by rw [e2]; rfl), if_pos (Or.inr e2)]
    · rw [if_neg (by rw [show (45 : Int32) = ii 45 from rfl, ii_inj (by omega)]; exact e2), if_neg (by omega)]
/-! the model's -/
theorem md_fine1 (h : M.1 0 8 = -1) : pModel_fine M = some 1 := if_pos h
theorem md_fine0 (h : M.1 0 8 ≠ -1) : pModel_fine M = some 0 := if_neg h
theorem md_fault1 {v : Int32} (h : M.1 0 8 = -1) : pModel_fault M v = some (fm_si M 0 8 v) := by
  unfold pModel_fault
  rw [md_fine1 h]
  rfl
theorem md_fault0 {v : Int32} (h : M.1 0 8 ≠ -1) : pModel_fault M v = some M := by
  unfold pModel_fault
  rw [md_fine0 h]
  rfl
theorem nn_m1 {e : Nat} (h : e < 1000) : nn e ≠ -1 := by
  rw [nn_ii, show (-1 : Int32) = ii (-1) from rfl]
  intro z
  rw [ii_inj (by omega)] at z
  omega
theorem md_here (h : lM M k c) (e : M.1 0 7 = nn i) (hi : i < 200) : pModel_here M = some (ii (bb k c i)) := by
  have hk := h.1
  unfold pModel_here
  rw [h.2.1, e]
  by_cases hc : i < k
  · rw [if_neg (by rw [nn_le nB nB]; omega), ldE (by omega) nL, (h.2.2 i hc).1]
    unfold bb
    rw [if_pos hc, nn_ii]
  · rw [if_pos (by rw [nn_le nB nB]; omega)]
    unfold bb
    rw [if_neg hc]
    rfl
theorem md_oneOf0 {v1 v2 : Int32} (h : M.1 0 8 ≠ -1) : pModel_oneOf M v1 v2 = some (0, M) := by
  unfold pModel_oneOf
  rw [md_fine0 h]
  rfl
theorem md_oneOf {a b : Nat} (h : lM M k c) (e7 : M.1 0 7 = nn i) (e8 : M.1 0 8 = -1) (hi : i < 190) (hb : 1 ≤ b) (hab : a + b ≤ 128) : pModel_oneOf M (nn a) (nn b) = some (if (a : Int) ≤ bb k c i ∧ bb k c i ≤ (a : Int) + b - 1 then (ii (bb k c i - a), fm_si M 0 7 (nn (i + 1))) else (0, fm_si M 0 8 (nn i))) := by
  have hbb := h.b i
  have hk := h.1
  refine ok_equal ?_
  unfold pModel_oneOf
  refine ok_bindE (md_fine1 e8) (ok_neg (by decide) (ok_bindE (md_here h e7 (by omega)) ?_))
  rw [nn_add, show nn (a + b) - 1 = ii ((a : Int) + b - 1) by rw [nn_ii, show (1 : Int32) = ii 1 from rfl, ii_sub, Int.natCast_add], nn_ii a]
  by_cases hc : (a : Int) ≤ bb k c i ∧ bb k c i ≤ (a : Int) + b - 1
  · refine ok_bindE (in_pos (rng_in hc (by omega))) (ok_neg (by decide) (ok_pt ?_))
    rw [if_pos hc, si_same, e7, nn_succ, show nn (i + 1) - 1 = nn i from nn_sub (i := i + 1) (j := 1) (by omega)]
    have hik : i < k := by
      by_cases z : i < k
      · exact z
      · unfold bb at hc
        rw [if_neg z] at hc
        omega
    have ebb : bb k c i = (c i : Int) := if_pos hik
    obtain ⟨z1, z2, z3⟩ := h.2.2 i hik
    refine ok_ld (by omega) nL (ok_some ?_)
    rw [si_row (by decide), b_raw z3 z1 (by omega), ebb, nn_ii (c i), ii_sub]
  · refine ok_bindE (in_neg (nrng hc (by omega))) (ok_pos rfl (ok_bindE (md_fault1 e8) (ok_some ?_)))
    rw [if_neg hc, e7]
theorem md_passes0 {v1 : Int32} (h : M.1 0 8 ≠ -1) : pModel_passes M v1 = some (0, M) := by
  unfold pModel_passes
  rw [md_fine0 h]
  rfl
theorem md_passes {a : Nat} (h : lM M k c) (e7 : M.1 0 7 = nn i) (e8 : M.1 0 8 = -1) (hi : i < 190) (ha : a < 256) : pModel_passes M (nn a) = some (if bb k c i = a then (1, fm_si M 0 7 (nn (i + 1))) else (0, M)) := by
  have hbb := h.b i
  unfold pModel_passes
  rw [md_fine1 e8, md_here h e7 (by omega)]
  show (if ii (bb k c i) = nn a then _ else _) = _
  by_cases hc : bb k c i = a
  · rw [if_pos (by rw [hc, nn_ii]), if_pos hc, e7, nn_succ]
    rfl
  · rw [if_neg (by rw [nn_ii, ii_inj (by omega)]; exact hc), if_neg hc]
theorem md_digits0 (hN : 4000 ≤ N) (h : M.1 0 8 ≠ -1) : ok (pModel_digits N M 2) (fun x => x.2 = M) := by
  obtain ⟨n, rfl⟩ : ∃ n, N = n + 3 := ⟨N - 3, by omega⟩
  unfold pModel_digits
  rw [lpS]
  unfold pModel_digits_L4 pModel_digits_L4b
  (try dsimp only)
  refine ok_neg (by decide) (ok_bindE (md_oneOf0 h) ?_)
  (try dsimp only)
  rw [lpS]
  (try dsimp only)
  refine ok_neg (by decide) (ok_bindE (md_oneOf0 h) ?_)
  (try dsimp only)
  rw [lpS]
  (try dsimp only)
  exact ok_pos (by decide) (ok_some rfl)
theorem md_digits2 (hN : 4000 ≤ N) (h : lM M k c) (e7 : M.1 0 7 = nn i) (e8 : M.1 0 8 = -1) (hi : i < 150) : ok (pModel_digits N M 2) (fun x => fr (fun a => a = 0) M x.2 ∧ (∀ j, j ≠ 7 → j ≠ 8 → x.2.1 0 j = M.1 0 j) ∧ ((dg k c i < 0 ∧ x.2.1 0 8 = nn i) ∨ (0 ≤ dg k c i ∧ dg k c (i + 1) < 0 ∧ x.2.1 0 8 = nn (i + 1)) ∨ (0 ≤ dg k c i ∧ 0 ≤ dg k c (i + 1) ∧ x.2.1 0 7 = nn (i + 2) ∧ x.2.1 0 8 = -1 ∧ x.1 = ii (10 * dg k c i + dg k c (i + 1))))) := by
  obtain ⟨n, rfl⟩ : ∃ n, N = n + 3 := ⟨N - 3, by omega⟩
  unfold pModel_digits
  rw [lpS]
  unfold pModel_digits_L4 pModel_digits_L4b
  (try dsimp only)
  refine ok_neg (by decide) (ok_bindE (md_oneOf (a := 48) (b := 10) h e7 e8 (by omega) (by decide) (by decide)) ?_)
  by_cases c1 : (48 : Int) ≤ bb k c i ∧ bb k c i ≤ 57
  · have d1 : 0 ≤ dg k c i := by have := dg_neg (k := k) (c := c) (i := i); omega
    rw [if_pos (show ((48 : Nat) : Int) ≤ bb k c i ∧ bb k c i ≤ ((48 : Nat) : Int) + ((10 : Nat) : Int) - 1 by omega)]
    (try dsimp only)
    rw [lpS]
    (try dsimp only)
    have h2 : lM (fm_si M 0 7 (nn (i + 1))) k c := h.kp (si_col (by decide)) (si_row (by decide))
    refine ok_neg (by decide) (ok_bindE (md_oneOf (a := 48) (b := 10) (i := i + 1) h2 si_same (by rw [si_col (by decide)]; exact e8) (by omega) (by decide) (by decide)) ?_)
    by_cases c2 : (48 : Int) ≤ bb k c (i + 1) ∧ bb k c (i + 1) ≤ 57
    · have d2 : 0 ≤ dg k c (i + 1) := by have := dg_neg (k := k) (c := c) (i := i + 1); omega
      rw [if_pos (show ((48 : Nat) : Int) ≤ bb k c (i + 1) ∧ bb k c (i + 1) ≤ ((48 : Nat) : Int) + ((10 : Nat) : Int) - 1 by omega)]
      (try dsimp only)
      rw [lpS]
      (try dsimp only)
      refine ok_pos (by decide) (ok_some ⟨(fr.si (A := fun a => a = 0) rfl).tr (fr.si rfl), fun j z1 z2 => by (try dsimp only); rw [si_col z1, si_col z1], Or.inr (Or.inr ⟨d1, d2, si_same, by (try dsimp only); rw [si_col (by decide), si_col (by decide)]; exact e8, ?_⟩)⟩)
      try dsimp only
      rw [dg_val d1, dg_val d2, show (10 : Int32) = ii 10 from rfl, show (0 : Int32) = ii 0 from rfl, ii_mul, ii_add, ii_mul, ii_add]
      congr 1
      omega
    · have d2 : dg k c (i + 1) < 0 := dg_neg.mpr c2
      rw [if_neg (show ¬ (((48 : Nat) : Int) ≤ bb k c (i + 1) ∧ bb k c (i + 1) ≤ ((48 : Nat) : Int) + ((10 : Nat) : Int) - 1) by omega)]
      (try dsimp only)
      rw [lpS]
      (try dsimp only)
      exact ok_pos (by decide) (ok_some ⟨(fr.si (A := fun a => a = 0) rfl).tr (fr.si rfl), fun j z1 z2 => by (try dsimp only); rw [si_col z2, si_col z1], Or.inr (Or.inl ⟨d1, d2, si_same⟩)⟩)
  · have d1 : dg k c i < 0 := dg_neg.mpr c1
    rw [if_neg (show ¬ (((48 : Nat) : Int) ≤ bb k c i ∧ bb k c i ≤ ((48 : Nat) : Int) + ((10 : Nat) : Int) - 1) by omega)]
    (try dsimp only)
    rw [lpS]
    (try dsimp only)
    refine ok_neg (by decide) (ok_bindE (md_oneOf0 (by rw [si_same]; exact nn_m1 (by omega))) ?_)
    (try dsimp only)
    rw [lpS]
    (try dsimp only)
    exact ok_pos (by decide) (ok_some ⟨fr.si rfl, fun j z1 z2 => by (try dsimp only); rw [si_col z2], Or.inl ⟨d1, si_same⟩⟩)
/-- begin: the text is taken, the place is 0, nothing is wrong -/
theorem md_beg {M : fm_M} {v : Int32} (h : M.1 0 2 = v) : ok (pModel_begin M) (fun M' => fr (fun a => a = 0) M M' ∧ (∀ j, j ≠ 2 → j ≠ 6 → j ≠ 7 → j ≠ 8 → M'.1 0 j = M.1 0 j) ∧ M'.1 0 2 = 0 ∧ M'.1 0 6 = v ∧ M'.1 0 7 = 0 ∧ M'.1 0 8 = -1) := by
  unfold pModel_begin
  refine ok_pt (ok_pt (ok_pt (ok_pt (ok_some ⟨?_, fun j z1 z2 z3 z4 => ?_, si_same, ?_, ?_, ?_⟩))))
  · exact (((fr.si (A := fun a => a = 0) rfl).tr (fr.si rfl)).tr (fr.si rfl)).tr (fr.si rfl)
  · rw [si_col z1, si_col z4, si_col z3, si_col z2]
  · rw [si_col (by decide), si_col (by decide), si_col (by decide), si_same, h]
  · rw [si_col (by decide), si_col (by decide), si_same]
  · rw [si_col (by decide), si_same]
end LET
theorem rText.opn {M1 M2 : fm_M} (h : rText M1 M2) : ∃ k c, lC M1 k c ∧ M2.1 0 2 = nn k ∧ ∀ i, i < k → M2.1 2 i &&& 255 = nn (c i) ∧ c i < 256 ∧ bd (M2.1 2 i) (-128) 127 := by
  obtain ⟨k, k1, k2, k3, k4⟩ := h
  refine ⟨k, fun i => (b255 (M2.1 2 i)).choose, ⟨k1, k2, fun i hi => ⟨?_, (b255 (M2.1 2 i)).choose_spec.1⟩⟩, k3, fun i hi => ⟨(b255 (M2.1 2 i)).choose_spec.2, (b255 (M2.1 2 i)).choose_spec.1, (k4 i hi).2⟩⟩
  rw [(k4 i hi).1]
  exact (b255 (M2.1 2 i)).choose_spec.2
