/-! ===== mics ===== -/
def mcell (p : Nat → Int32) (m q : Nat) : Int32 := if q = 0 then p m else if q = 1 ∨ q = 3 then 100 else 0
def mP (k : Nat) (c : Nat → Nat) : Nat → Nat → Nat → Int → (Nat → Int32) → Nat ⊕ (Nat × (Nat → Int32))
  | 0, _, i, _, _ => .inl (i - 1)
  | r + 1, j, i, last, p => if dg k c i < 0 then .inl i else if dg k c (i + 1) < 0 then .inl (i + 1) else if 40 < 10 * dg k c i + dg k c (i + 1) then .inl (i + 1) else if ¬ last < 10 * dg k c i + dg k c (i + 1) then .inl (i + 1) else if i + 2 = k then .inr (j + 1, upd p j (ii (10 * dg k c i + dg k c (i + 1)))) else if bb k c (i + 2) = 44 then mP k c r (j + 1) (i + 3) (10 * dg k c i + dg k c (i + 1)) (upd p j (ii (10 * dg k c i + dg k c (i + 1)))) else .inl (i + 2)
theorem mP_step {k : Nat} {c : Nat → Nat} {j i : Nat} {last : Int} {p : Nat → Int32} (hj : j < 6) : mP k c (6 - j) j i last p = if dg k c i < 0 then .inl i else if dg k c (i + 1) < 0 then .inl (i + 1) else if 40 < 10 * dg k c i + dg k c (i + 1) then .inl (i + 1) else if ¬ last < 10 * dg k c i + dg k c (i + 1) then .inl (i + 1) else if i + 2 = k then .inr (j + 1, upd p j (ii (10 * dg k c i + dg k c (i + 1)))) else if bb k c (i + 2) = 44 then mP k c (6 - (j + 1)) (j + 1) (i + 3) (10 * dg k c i + dg k c (i + 1)) (upd p j (ii (10 * dg k c i + dg k c (i + 1)))) else .inl (i + 2) := by
  rw [show 6 - j = (6 - (j + 1)) + 1 by omega]
  rfl
def mR (k : Nat) (c : Nat → Nat) : Nat ⊕ (Nat × (Nat → Int32)) := if k = 0 then .inr (0, fun _ => 0) else mP k c 6 0 0 (-1) (fun _ => 0)
theorem er1 {i : Nat} : (-1 : Int32) - nn i = ii (-1 - (i : Int)) := by
  rw [show (-1 : Int32) = ii (-1) from rfl, nn_ii, ii_sub]
theorem er2 {i : Nat} : (-2 : Int32) - nn i = ii (-1 - ((i + 1 : Nat) : Int)) := by
  rw [show (-2 : Int32) = ii (-2) from rfl, nn_ii, ii_sub]
  congr 1
  omega
theorem er3 {i : Nat} : (-3 : Int32) - nn i = ii (-1 - ((i + 2 : Nat) : Int)) := by
  rw [show (-3 : Int32) = ii (-3) from rfl, nn_ii, ii_sub]
  congr 1
  omega
def amR (k : Nat) : Prop := k = 1 ∨ (3 ≤ k ∧ k < 9)
theorem cs_addMic {N : Nat} {M : fm_M} {j : Nat} {v : Int32} (hN : 4000 ≤ N) (e : M.1 1 0 = nn j) (hj : j < 6) : ok (pScene_addMic N M v) (fun x => fr amR M x.2 ∧ x.2.1 1 0 = nn (j + 1) ∧ x.2.1 1 1 = M.1 1 1 ∧ (∀ q m, q < 6 → m ≠ j → x.2.1 (3 + q) m = M.1 (3 + q) m) ∧ ∀ q, q < 6 → x.2.1 (3 + q) j = if q = 0 then v else if q = 1 ∨ q = 3 then 100 else 0) := by
  unfold pScene_addMic
  refine ok_pos (by rw [e, show (6 : Int32) = nn 6 from rfl, nn_lt nB nB]; omega) ?_
  refine ok_for 5 (fun i s => s.1 = nn (i + 1) ∧ fr amR M s.2 ∧ s.2.1 1 = M.1 1 ∧ (∀ q m, q < 6 → m ≠ j → s.2.1 (3 + q) m = M.1 (3 + q) m) ∧ ∀ q, 1 ≤ q → q < i + 1 → s.2.1 (3 + q) j = if q = 1 ∨ q = 3 then 100 else 0) ?_ ?_ ⟨rfl, fr.rf, rfl, fun _ _ _ _ => rfl, fun q z1 z2 => absurd z2 (by omega)⟩ (by omega)
  · rintro i ⟨w, M1⟩ hi ⟨h1, h2, h3, h4, h5⟩ kk hk
    try dsimp only at h1 h2 h3 h4 h5
    subst h1
    unfold pScene_addMic_L13 pScene_addMic_L13b
    try dsimp only
    refine ok_neg (by rw [show (5 : Int32) = nn 5 from rfl, nn_lt nB nB]; omega) (ok_ix (by omega) nL (ok_ix (by omega) nL ?_))
    rw [h3, e]
    refine ok_st (by omega) nL (hk _ ⟨nn_succ, h2.tr (fr.si (by unfold amR; omega)), ?_, fun q m z1 z2 => ?_, fun q z1 z2 => ?_⟩)
    · try dsimp only
      rw [si_row (by omega)]; exact h3
    · try dsimp only
      rw [si_at, if_neg (by omega)]
      exact h4 q m z1 z2
    · try dsimp only
      by_cases ez : q = i + 1
      · subst ez
        rw [si_same]
        exact (by decide : ∀ t : Fin 5, ([0, 100, 0, 100, 0, 0] : List Int32).getD (t.val + 1) 0 = if t.val + 1 = 1 ∨ t.val + 1 = 3 then 100 else 0) ⟨i, hi⟩
      · rw [si_row (by omega)]
        exact h5 q z1 (by omega)
  · rintro ⟨w, M1⟩ ⟨h1, h2, h3, h4, h5⟩ kk
    try dsimp only at h1 h2 h3 h4 h5
    subst h1
    unfold pScene_addMic_L13 pScene_addMic_L13b
    try dsimp only
    refine ok_pos (by decide) ?_
    rw [h3, e]
    refine ok_st (by omega) nL (ok_pt (ok_some ⟨(h2.tr (fr.si (by unfold amR; omega))).tr (fr.si (by unfold amR; omega)), ?_, ?_, fun q m z1 z2 => ?_, fun q z1 => ?_⟩))
    · try dsimp only
      rw [si_same, si_row (by decide), h3, e, nn_succ]
    · try dsimp only
      rw [si_col (by decide), si_row (by decide), h3]
    · try dsimp only
      rw [si_row (by omega), si_at, if_neg (by omega)]
      exact h4 q m z1 z2
    · try dsimp only
      rw [si_row (by omega)]
      by_cases ez : q = 0
      · subst ez
        rw [si_same, if_pos rfl]
      · rw [si_row (by omega), if_neg ez]
        exact h5 q (by omega) (by omega)
def mOut (M : fm_M) (x : Int32 × fm_M) : Nat ⊕ (Nat × (Nat → Int32)) → Prop
  | .inl e => e < 200 ∧ x.1 = ii (-1 - (e : Int))
  | .inr (n, p) => n ≤ 6 ∧ x.1 = nn n ∧ x.2.1 1 0 = nn n ∧ x.2.1 1 1 = M.1 1 1 ∧ ∀ m, m < n → bd (p m) 0 40 ∧ ∀ q, q < 6 → x.2.1 (3 + q) m = mcell p m q
theorem bd_ii {z a b : Int} (h : a ≤ z ∧ z ≤ b) (hz : -2147483648 ≤ z ∧ z ≤ 2147483647) : bd (ii z) a b := by
  unfold bd
  rw [ii_toInt hz]
  exact h
theorem cs_readMics {N : Nat} {M : fm_M} {k : Nat} {c : Nat → Nat} (hN : 4000 ≤ N) (h : lC M k c) : ok (pReader_readMics N M) (fun x => fr amR M x.2 ∧ mOut M x (mR k c)) := by
  have hk80 := h.1
  unfold pReader_readMics
  refine ok_pt ?_
  have h0 : lC (fm_si M 1 0 0) k c := h.kf (P := fun a => a = 1) (fr.si rfl) (by decide) (by decide)
  by_cases k0 : k = 0
  · obtain ⟨n, rfl⟩ : ∃ n, N = n + 1 := ⟨N - 1, by omega⟩
    rw [lpS]
    unfold pReader_readMics_L9 pReader_readMics_L9b
    try dsimp only
    have e0 : (fm_si M 1 0 0).1 173 1 = 0 := by rw [h0.2.1, k0]; rfl
    refine ok_pos (by rw [e0]; decide) (ok_pos e0 (ok_some ⟨fr.si (by unfold amR; omega), ?_⟩))
    unfold mR
    rw [if_pos k0]
    exact ⟨by omega, rfl, si_same, si_col (by decide), fun m hm => absurd hm (Nat.not_lt_zero _)⟩
  · have eR : mR k c = mP k c (6 - 0) 0 0 (-1) (fun _ => 0) := if_neg k0
    refine ok_for 6 (fun j t => j < 6 ∧ ∃ (i : Nat) (last : Int) (p : Nat → Int32), t.1 = ii last ∧ t.2.1 = nn i ∧ i ≤ k ∧ (-1 ≤ last ∧ last ≤ 40) ∧ fr amR M t.2.2 ∧ t.2.2.1 1 0 = nn j ∧ t.2.2.1 1 1 = M.1 1 1 ∧ (∀ m, m < j → bd (p m) 0 40 ∧ ∀ q, q < 6 → t.2.2.1 (3 + q) m = mcell p m q) ∧ mR k c = mP k c (6 - j) j i last p) ?_ ?_ ⟨by decide, 0, -1, fun _ => 0, rfl, rfl, by omega, by decide, fr.si (by unfold amR; omega), si_same, si_col (by decide), fun m hm => absurd hm (Nat.not_lt_zero _), eR⟩ (by omega)
    · rintro j ⟨w2, w3, M1⟩ hj ⟨_, i, last, p, h1, h2, h3, h4, h5, h6, h7, h8, h9⟩ kk hk
      try dsimp only at h1 h2 h5 h6 h7 h8
      subst h1
      subst h2
      rw [mP_step hj] at h9
      have g1 : lC M1 k c := h.kf h5 (by unfold amR; omega) (by unfold amR; omega)
      have d1 := dg_bd (k := k) (c := c) (i := i)
      have d2 := dg_bd (k := k) (c := c) (i := i + 1)
      unfold pReader_readMics_L9 pReader_readMics_L9b
      try dsimp only
      rw [g1.2.1]
      by_cases z0 : k ≤ i
      · refine ok_pos (by rw [nn_le nB nB]; exact z0) (ok_neg (by rw [show (0 : Int32) = nn 0 from rfl, nn_inj nB nB]; exact k0) (ok_some ⟨h5, ?_⟩))
        rw [h9, if_pos (by rw [dg_out z0]; decide)]
        refine ⟨by omega, ?_⟩
        rw [show i = k by omega]
        exact er1
      · refine ok_neg (by rw [nn_le nB nB]; exact z0) (ok_bindE (cs_digit g1 (by omega)) ?_)
        by_cases z1 : dg k c i < 0
        · refine ok_neg (by rw [show (0 : Int32) = ii 0 from rfl, ii_le (by omega)]; omega) (ok_some ⟨h5, ?_⟩)
          rw [h9, if_pos z1]
          exact ⟨by omega, er1⟩
        · rw [if_neg z1] at h9
          refine ok_pos (by rw [show (0 : Int32) = ii 0 from rfl, ii_le (by omega)]; omega) (ok_bindE (cs_number2 hN g1 (by omega)) ?_)
          rw [nn_succ]
          refine ok_bindE (cs_digit g1 (by omega)) ?_
          by_cases z2 : dg k c (i + 1) < 0
          · refine ok_pos (by rw [show (0 : Int32) = ii 0 from rfl, ii_lt (by omega)]; omega) (ok_some ⟨h5, ?_⟩)
            rw [h9, if_pos z2]
            exact ⟨by omega, er2⟩
          · rw [if_neg z2] at h9
            have ik : i + 1 < k := by
              by_cases z : k ≤ i + 1
              · rw [dg_out z] at z2; omega
              · omega
            refine ok_neg (by rw [show (0 : Int32) = ii 0 from rfl, ii_lt (by omega)]; omega) ?_
            generalize hv : 10 * dg k c i + dg k c (i + 1) = v at h9
            by_cases z3 : 40 < v
            · refine ok_pos (by rw [show (40 : Int32) = ii 40 from rfl, ii_lt (by omega)]; omega) (ok_some ⟨h5, ?_⟩)
              rw [h9, if_pos z3]
              exact ⟨by omega, er2⟩
            · rw [if_neg z3] at h9
              refine ok_neg (by rw [show (40 : Int32) = ii 40 from rfl, ii_lt (by omega)]; omega) ?_
              by_cases z4 : last < v
              · rw [if_neg (by omega)] at h9
                refine ok_pos (by rw [ii_lt (by omega)]; exact z4) (ok_bind (cs_addMic hN h6 hj) ?_)
                rintro ⟨x, M2⟩ ⟨a1, a2, a3, a4, a5⟩
                try dsimp only at a1 a2 a3 a4 a5 ⊢
                have f2 := h5.tr a1
                have g2 : lC M2 k c := h.kf f2 (by unfold amR; omega) (by unfold amR; omega)
                have cells : ∀ m, m < j + 1 → bd (upd p j (ii v) m) 0 40 ∧ ∀ q, q < 6 → M2.1 (3 + q) m = mcell (upd p j (ii v)) m q := by
                  intro m hm
                  by_cases ez : m = j
                  · subst ez
                    refine ⟨by rw [upd_eq]; exact bd_ii (by omega) (by omega), fun q hq => ?_⟩
                    rw [a5 q hq]
                    unfold mcell
                    rw [upd_eq]
                  · obtain ⟨y1, y2⟩ := h8 m (by omega)
                    refine ⟨by rw [upd_ne ez]; exact y1, fun q hq => ?_⟩
                    rw [a4 q m hq ez, y2 q hq]
                    unfold mcell
                    rw [upd_ne ez]
                rw [g2.2.1, show nn i + 2 = nn (i + 2) from nn_add]
                by_cases z5 : i + 2 = k
                · rw [if_pos z5] at h9
                  refine ok_pos (by rw [z5]) (ok_some ⟨f2, ?_⟩)
                  rw [h9]
                  exact ⟨by omega, a2, a2, a3.trans h7, cells⟩
                · rw [if_neg z5] at h9
                  have b2 := g2.b (i + 2)
                  refine ok_neg (by rw [nn_inj nB nB]; exact z5) (ok_bindE (cs_lat g2 (by omega)) ?_)
                  by_cases z6 : bb k c (i + 2) = 44
                  · rw [if_pos z6] at h9
                    refine ok_pos (by rw [z6]; rfl) ?_
                    rw [a2]
                    by_cases z7 : j + 1 = 6
                    · refine ok_pos (by rw [z7]; rfl) (ok_some ⟨f2, ?_⟩)
                      rw [h9, z7]
                      exact ⟨by omega, er3⟩
                    · refine ok_neg (by rw [show (6 : Int32) = nn 6 from rfl, nn_inj nB nB]; exact z7) (hk _ ⟨by omega, i + 3, v, _, rfl, nn_add, by omega, by omega, f2, a2, a3.trans h7, cells, h9⟩)
                  · rw [if_neg z6] at h9
                    refine ok_neg (by rw [show (44 : Int32) = ii 44 from rfl, ii_inj (by omega)]; exact z6) (ok_some ⟨f2, ?_⟩)
                    rw [h9]
                    exact ⟨by omega, er3⟩
              · rw [if_pos z4] at h9
                refine ok_neg (by rw [ii_lt (by omega)]; exact z4) (ok_some ⟨h5, ?_⟩)
                rw [h9]
                exact ⟨by omega, er2⟩
    · rintro t ⟨h1, _⟩ kk
      exact absurd h1 (by decide)
