/-! ===== mics ===== -/
def mcell (p : Nat → Int32) (m q : Nat) : Int32 := if q = 0 then p m else if q = 1 ∨ q = 3 then 100 else 0
def mP (k : Nat) (c : Nat → Nat) : Nat → Nat → Nat → Int → (Nat → Int32) → Nat ⊕ (Nat × (Nat → Int32))
  | 0, _, i, _, _ => .inl (i - 1)
  | r + 1, j, i, last, p => if dg k c i < 0 then .inl i else if dg k c (i + 1) < 0 then .inl (i + 1) else if 40 < 10 * dg k c i + dg k c (i + 1) then .inl (i + 1) else if ¬ last < 10 * dg k c i + dg k c (i + 1) then .inl (i + 1) else if i + 2 = k then .inr (j + 1, upd p j (ii (10 * dg k c i + dg k c (i + 1)))) else if bb k c (i + 2) = 44 then mP k c r (j + 1) (i + 3) (10 * dg k c i + dg k c (i + 1)) (upd p j (ii (10 * dg k c i + dg k c (i + 1)))) else .inl (i + 2)
theorem mP_step {k : Nat} {c : Nat → Nat} {j i : Nat} {last : Int} {p : Nat → Int32} (hj : j < 6) : mP k c (6 - j) j i last p = if dg k c i < 0 then .inl i else if dg k c (i + 1) < 0 then .inl (i + 1) else if 40 < 10 * dg k c i + dg k c (i + 1) then .inl (i + 1) else if ¬ last < 10 * dg k c i + dg k c (i + 1) then .inl (i + 1) else if i + 2 = k then .inr (j + 1, upd p j (ii (10 * dg k c i + dg k c (i + 1)))) else if bb k c (i + 2) = 44 then mP k c (6 - (j + 1)) (j + 1) (i + 3) (10 * dg k c i + dg k c (i + 1)) (upd p j (ii (10 * dg k c i + dg k c (i + 1)))) else .inl (i + 2) := by
  rw [show 6 - j = (6 - (j + 1)) + 1 by omega]
  rfl
def mR (k : Nat) (c : Nat → Nat) : Nat ⊕ (Nat × (Nat → Int32)) := if k = 0 then .inr (0, fun _ => 0) else mP k c 6 0 0 (-1) (fun _ => 0)
theorem er1 {i : Nat} : (-1 : Int32) - nn i = ii (-1 - (i : Int)) := by
  rw [show (-1 : Int32) = ii (-1) from rfl, nn_ii, ii_sub]
theorem er2 {i : Nat} : (-2 : Int32) - nn i = ii (-1 - ((i + 1 : Nat) : Int)) := by
  rw [show (-2 : Int32) = ii (-2) from rfl, nn_ii, ii_sub]
  congr 1
  omega
theorem er3 {i : Nat} : (-3 : Int32) - nn i = ii (-1 - ((i + 2 : Nat) : Int)) := by
  rw [show (-3 : Int32) = ii (-3) from rfl, nn_ii, ii_sub]
  congr 1
  omega
def amR (k : Nat) : Prop := k = 1 ∨ (3 ≤ k ∧ k < 9)
theorem cs_addMic {N : Nat} {M : fm_M} {j : Nat} {v : Int32} (hN : 4000 ≤ N) (e : M.1 1 0 = nn j) (hj : j < 6) : ok (pScene_addMic N M v) (fun x => fr amR M x.2 ∧ x.2.1 1 0 = nn (j + 1) ∧ x.2.1 1 1 = M.1 1 1 ∧ (∀ q m, q < 6 → m ≠ j → x.2.1 (3 + q) m = M.1 (3 + q) m) ∧ ∀ q, q < 6 → x.2.1 (3 + q) j = if q = 0 then v else if q = 1 ∨ q = 3 then 100 else 0) := by
  unfold pScene_addMic
  refine ok_pos (by rw [e, show (6 : Int32) = nn 6 from rfl, nn_lt nB nB]; omega) ?_
  refine ok_for 5 (fun i s => s.1 = nn (i + 1) ∧ fr amR M s.2 ∧ s.2.1 1 = M.1 1 ∧ (∀ q m, q < 6 → m ≠ j → s.2.1 (3 + q) m = M.1 (3 + q) m) ∧ ∀ q, 1 ≤ q → q < i + 1 → s.2.1 (3 + q) j = if q = 1 ∨ q = 3 then 100 else 0) ?_ ?_ ⟨rfl, fr.rf, rfl, fun _ _ _ _ => rfl, fun q z1 z2 => absurd z2 (by omega)⟩ (by omega)
  · rintro i ⟨w, M1⟩ hi ⟨h1, h2, h3, h4, h5⟩ kk hk
    try dsimp only at h1 h2 h3 h4 h5
    subst h1
    unfold pScene_addMic_L13 pScene_addMic_L13b
    try dsimp only
    refine ok_neg (by rw [show (5 : Int32) = nn 5 from rfl, nn_lt nB nB]; omega) (ok_ix (by omega) nL (ok_ix (by omega) nL ?_))
    rw [h3, e]
    refine ok_st (by omega) nL (hk _ ⟨nn_succ, h2.tr (fr.si (by unfold amR; omega)), ?_, fun q m z1 z2 => ?_, fun q z1 z2 => ?_⟩)
    · try dsimp only
      rw [si_row (by omega)]; exact h3
    · try dsimp only
      rw [si_at, if_neg (by omega)]
      exact h4 q m z1 z2
    · try dsimp only
      by_cases ez : q = i + 1
      · subst ez
        rw [si_same]
        exact (by decide : ∀ t : Fin 5, ([0, 100, 0, 100, 0, 0] : List Int32).getD (t.val + 1) 0 = if t.val + 1 = 1 ∨ t.val + 1 = 3 then 100 else 0) ⟨i, hi⟩
      · rw [si_row (by omega)]
        exact h5 q z1 (by omega)
  · rintro ⟨w, M1⟩ ⟨h1, h2, h3, h4, h5⟩ kk
    try dsimp only at h1 h2 h3 h4 h5
    subst h1
    unfold pScene_addMic_L13 pScene_addMic_L13b
    try dsimp only
    refine ok_pos (by decide) ?_
    rw [h3, e]
    refine ok_st (by omega) nL (ok_pt (ok_some ⟨(h2.tr (fr.si (by unfold amR; omega))).tr (fr.si (by unfold amR; omega)), ?_, ?_, fun q m z1 z2 => ?_, fun q z1 => ?_⟩))
    · try dsimp only
      rw [si_same, si_row (by decide), h3, e, nn_succ]
    · try dsimp only
      rw [si_col (by decide), si_row (by decide), h3]
    · try dsimp only
      rw [si_row (by omega), si_at, if_neg (by omega)]
      exact h4 q m z1 z2
    · try dsimp only
      rw [si_row (by omega)]
      by_cases ez : q = 0
      · subst ez
        rw [si_same, if_pos rfl]
      · rw [si_row (by omega), if_neg ez]
        exact h5 q (by omega) (by omega)
def mOut (M : fm_M) (x : Int32 × fm_M) : Nat ⊕ (Nat × (Nat → Int32)) → Prop
  | .inl e => e < 200 ∧ x.1 = ii (-1 - (e : Int))
  | .inr (n, p) => n ≤ 6 ∧ x.1 = nn n ∧ x.2.1 1 0 = nn n ∧ x.2.1 1 1 = M.1 1 1 ∧ ∀ m, m < n → bd (p m) 0 40 ∧ ∀ q, q < 6 → x.2.1 (3 + q) m = mcell p m q
theorem bd_iz {z a b : Int} (h : a ≤ z ∧ z ≤ b) (hz : -2147483648 ≤ z ∧ z ≤ 2147483647) : bd (ii z) a b := by
  unfold bd
  rw [ii_toInt hz]
  exact h
theorem cs_readMics {N : Nat} {M : fm_M} {k : Nat} {c : Nat → Nat} (hN : 4000 ≤ N) (h : lC M k c) : ok (pReader_readMics N M) (fun x => fr amR M x.2 ∧ mOut M x (mR k c)) := by
  have hk80 := h.1
  unfold pReader_readMics
  refine ok_pt ?_
  have h0 : lC (fm_si M 1 0 0) k c := h.kf (P := fun a => a = 1) (fr.si rfl) (by decide) (by decide)
  by_cases k0 : k = 0
  · obtain ⟨n, rfl⟩ : ∃ n, N = n + 1 := ⟨N - 1, by omega⟩
    rw [lpS]
    unfold pReader_readMics_L9 pReader_readMics_L9b
    try dsimp only
    have e0 : (fm_si M 1 0 0).1 173 1 = 0 := by rw [h0.2.1, k0]; rfl
    refine ok_pos (by rw [e0]; decide) (ok_pos e0 (ok_some ⟨fr.si (by unfold amR; omega), ?_⟩))
    unfold mR
    rw [if_pos k0]
    exact ⟨by omega, rfl, si_same, si_col (by decide), fun m hm => absurd hm (Nat.not_lt_zero _)⟩
  · have eR : mR k c = mP k c (6 - 0) 0 0 (-1) (fun _ => 0) := if_neg k0
    refine ok_for 6 (fun j t => j < 6 ∧ ∃ (i : Nat) (last : Int) (p : Nat → Int32), t.1 = ii last ∧ t.2.1 = nn i ∧ i ≤ k ∧ (-1 ≤ last ∧ last ≤ 40) ∧ fr amR M t.2.2 ∧ t.2.2.1 1 0 = nn j ∧ t.2.2.1 1 1 = M.1 1 1 ∧ (∀ m, m < j → bd (p m) 0 40 ∧ ∀ q, q < 6 → t.2.2.1 (3 + q) m = mcell p m q) ∧ mR k c = mP k c (6 - j) j i last p) ?_ ?_ ⟨by decide, 0, -1, fun _ => 0, rfl, rfl, by omega, by decide, fr.si (by unfold amR; omega), si_same, si_col (by decide), fun m hm => absurd hm (Nat.not_lt_zero _), eR⟩ (by omega)
    · rintro j ⟨w2, w3, M1⟩ hj ⟨_, i, last, p, h1, h2, h3, h4, h5, h6, h7, h8, h9⟩ kk hk
      try dsimp only at h1 h2 h5 h6 h7 h8
      subst h1
      subst h2
      rw [mP_step hj] at h9
      have g1 : lC M1 k c := h.kf h5 (by unfold amR; omega) (by unfold amR; omega)
      have d1 := dg_bd (k := k) (c := c) (i := i)
      have d2 := dg_bd (k := k) (c := c) (i := i + 1)
      unfold pReader_readMics_L9 pReader_readMics_L9b
      try dsimp only
      rw [g1.2.1]
      by_cases z0 : k ≤ i
      · refine ok_pos (by rw [nn_le nB nB]; exact z0) (ok_neg (by rw [show (0 : Int32) = nn 0 from rfl, nn_inj nB nB]; exact k0) (ok_some ⟨h5, ?_⟩))
        rw [h9, if_pos (by rw [dg_out z0]; decide)]
        refine ⟨by omega, ?_⟩
        rw [show i = k by omega]
        exact er1
      · refine ok_neg (by rw [nn_le nB nB]; exact z0) (ok_bindE (cs_digit g1 (by omega)) ?_)
        by_cases z1 : dg k c i < 0
        · refine ok_neg (by rw [show (0 : Int32) = ii 0 from rfl, ii_le (by omega)]; omega) (ok_some ⟨h5, ?_⟩)
          rw [h9, if_pos z1]
          exact ⟨by omega, er1⟩
        · rw [if_neg z1] at h9
          refine ok_pos (by rw [show (0 : Int32) = ii 0 from rfl, ii_le (by omega)]; omega) (ok_bindE (cs_number2 hN g1 (by omega)) ?_)
          rw [nn_succ]
          refine ok_bindE (cs_digit g1 (by omega)) ?_
          by_cases z2 : dg k c (i + 1) < 0
          · refine ok_pos (by rw [show (0 : Int32) = ii 0 from rfl, ii_lt (by omega)]; omega) (ok_some ⟨h5, ?_⟩)
            rw [h9, if_pos z2]
            exact ⟨by omega, er2⟩
          · rw [if_neg z2] at h9
            have ik : i + 1 < k := by
              by_cases z : k ≤ i + 1
              · rw [dg_out z] at z2; omega
              · omega
            refine ok_neg (by rw [show (0 : Int32) = ii 0 from rfl, ii_lt (by omega)]; omega) ?_
            generalize hv : 10 * dg k c i + dg k c (i + 1) = v at h9
            by_cases z3 : 40 < v
            · refine ok_pos (by rw [show (40 : Int32) = ii 40 from rfl, ii_lt (by omega)]; omega) (ok_some ⟨h5, ?_⟩)
              rw [h9, if_pos z3]
              exact ⟨by omega, er2⟩
            · rw [if_neg z3] at h9
              refine ok_neg (by rw [show (40 : Int32) = ii 40 from rfl, ii_lt (by omega)]; omega) ?_
              by_cases z4 : last < v
              · rw [if_neg (by omega)] at h9
                refine ok_pos (by rw [ii_lt (by omega)]; exact z4) (ok_bind (cs_addMic hN h6 hj) ?_)
                rintro ⟨x, M2⟩ ⟨a1, a2, a3, a4, a5⟩
                try dsimp only at a1 a2 a3 a4 a5 ⊢
                have f2 := h5.tr a1
                have g2 : lC M2 k c := h.kf f2 (by unfold amR; omega) (by unfold amR; omega)
                have cells : ∀ m, m < j + 1 → bd (upd p j (ii v) m) 0 40 ∧ ∀ q, q < 6 → M2.1 (3 + q) m = mcell (upd p j (ii v)) m q := by
                  intro m hm
                  by_cases ez : m = j
                  · subst ez
                    refine ⟨by rw [upd_eq]; exact bd_iz (by omega) (by omega), fun q hq => ?_⟩
                    rw [a5 q hq]
                    unfold mcell
                    rw [upd_eq]
                  · obtain ⟨y1, y2⟩ := h8 m (by omega)
                    refine ⟨by rw [upd_ne ez]; exact y1, fun q hq => ?_⟩
                    rw [a4 q m hq ez, y2 q hq]
                    unfold mcell
                    rw [upd_ne ez]
                rw [g2.2.1, show nn i + 2 = nn (i + 2) from nn_add]
                by_cases z5 : i + 2 = k
                · rw [if_pos z5] at h9
                  refine ok_pos (by rw [z5]) (ok_some ⟨f2, ?_⟩)
                  rw [h9]
                  exact ⟨by omega, a2, a2, a3.trans h7, cells⟩
                · rw [if_neg z5] at h9
                  have b2 := g2.b (i + 2)
                  refine ok_neg (by rw [nn_inj nB nB]; exact z5) (ok_bindE (cs_lat g2 (by omega)) ?_)
                  by_cases z6 : bb k c (i + 2) = 44
                  · rw [if_pos z6] at h9
                    refine ok_pos (by rw [z6]; rfl) ?_
                    rw [a2]
                    by_cases z7 : j + 1 = 6
                    · refine ok_pos (by rw [z7]; rfl) (ok_some ⟨f2, ?_⟩)
                      rw [h9, z7]
                      exact ⟨by omega, er3⟩
                    · refine ok_neg (by rw [show (6 : Int32) = nn 6 from rfl, nn_inj nB nB]; exact z7) (hk _ ⟨by omega, i + 3, v, _, rfl, nn_add, by omega, by omega, f2, a2, a3.trans h7, cells, h9⟩)
                  · rw [if_neg z6] at h9
                    refine ok_neg (by rw [show (44 : Int32) = ii 44 from rfl, ii_inj (by omega)]; exact z6) (ok_some ⟨f2, ?_⟩)
                    rw [h9]
                    exact ⟨by omega, er3⟩
              · rw [if_pos z4] at h9
                refine ok_neg (by rw [ii_lt (by omega)]; exact z4) (ok_some ⟨h5, ?_⟩)
                rw [h9]
                exact ⟨by omega, er2⟩
    · rintro t ⟨h1, _⟩ kk
      exact absurd h1 (by decide)
/-! the model -/
def mG (g : Nat → Int32) (n : Nat) (p : Nat → Int32) : Nat → Int32 := fun k => if k = 0 then nn n else if k < 37 then (if (k - 1) / 6 < n then mcell p ((k - 1) / 6) ((k - 1) % 6) else 0) else g k
theorem mG_at {g : Nat → Int32} {n : Nat} {p : Nat → Int32} {m q : Nat} (hm : m < 6) (hq : q < 6) : mG g n p (1 + 6 * m + q) = if m < n then mcell p m q else 0 := by
  unfold mG
  rw [if_neg (by omega), if_pos (by omega), show (1 + 6 * m + q - 1) / 6 = m by omega, show (1 + 6 * m + q - 1) % 6 = q by omega]
theorem mG_hi {g : Nat → Int32} {n : Nat} {p : Nat → Int32} {k : Nat} (hk : 37 ≤ k) : mG g n p k = g k := by
  unfold mG
  rw [if_neg (by omega), if_neg (by omega)]
def mEnd (M0 : fm_M) (u : Nat → Nat → Int32) (m : Nat) (x : Int32 × fm_M) : Nat ⊕ (Nat × (Nat → Int32)) → Prop
  | .inl e => x.1 = ii (-1 - (e : Int)) ∧ fr (fun a => a = 0 ∨ a = 4) M0 x.2 ∧ (∀ j, j ≠ 7 → j ≠ 8 → x.2.1 0 j = M0.1 0 j)
  | .inr (n, p) => x.1 = nn n ∧ (∀ k, k < 101 → x.2.1 1 k = mG (M0.1 1) n p k) ∧ (∀ k, k = 2 ∨ k = 17 ∨ k = 18 → x.2.1 k = M0.1 k) ∧ x.2.2.1 3 = M0.2.1 3 ∧ (∀ j, j ≠ 7 → j ≠ 8 → j ≠ 25 → x.2.1 0 j = M0.1 0 j) ∧ pM x.2 (nx m) (ux m u (M0.1 1))
theorem md_micsFill {N : Nat} {M : fm_M} {n : Nat} {p : Nat → Int32} (hN : 4000 ≤ N) (hn : n ≤ 6) (hp : ∀ m, m < n → M.1 4 m = p m) : ok (fm_lp (pModel_mics_L139 N (nn n)) N (0, M)) (fun x => x.1 = nn n ∧ fr (fun a => a = 1) M x.2 ∧ (∀ m q, m < 6 → q < 6 → x.2.1 1 (1 + 6 * m + q) = if m < n then mcell p m q else 0) ∧ ∀ k, k = 0 ∨ 37 ≤ k → x.2.1 1 k = M.1 1 k) := by
  refine ok_for 6 (fun i t => t.1 = nn i ∧ fr (fun a => a = 1) M t.2 ∧ (∀ m q, m < i → q < 6 → t.2.1 1 (1 + 6 * m + q) = if m < n then mcell p m q else 0) ∧ ∀ k, k = 0 ∨ 37 ≤ k → t.2.1 1 k = M.1 1 k) ?_ ?_ ⟨rfl, fr.rf, fun m q z => absurd z (Nat.not_lt_zero _), fun _ _ => rfl⟩ (by omega)
  · rintro i ⟨w, M1⟩ hi ⟨h1, h2, h3, h4⟩ kk hk
    try dsimp only at h1 h2 h3 h4
    subst h1
    unfold pModel_mics_L139 pModel_mics_L139b
    try dsimp only
    refine ok_neg (by rw [show (6 : Int32) = nn 6 from rfl, nn_le nB nB]; omega) ?_
    refine ok_for 6 (fun q s => s.1 = nn q ∧ fr (fun a => a = 1) M1 s.2 ∧ (∀ q', q' < q → s.2.1 1 (1 + 6 * i + q') = 0) ∧ ∀ k, k < 1 + 6 * i ∨ 1 + 6 * i + 6 ≤ k → s.2.1 1 k = M1.1 1 k) ?_ ?_ ⟨rfl, fr.rf, fun q z => absurd z (Nat.not_lt_zero _), fun _ _ => rfl⟩ (by omega)
    · rintro q ⟨w, M2⟩ hq ⟨a1, a2, a3, a4⟩ kk' hk'
      try dsimp only at a1 a2 a3 a4
      subst a1
      unfold pModel_mics_L148 pModel_mics_L148b
      try dsimp only
      rw [show (1 + (6 * nn i)) + nn q = nn (1 + 6 * i + q) by rw [show (1 : Int32) = nn 1 from rfl, show (6 : Int32) = nn 6 from rfl, nn_mul, nn_add, nn_add]]
      refine ok_neg (by rw [show (6 : Int32) = nn 6 from rfl, nn_le nB nB]; omega) (ok_st (by omega) nL (hk' _ ⟨nn_succ, a2.tr (fr.si rfl), fun q' hq' => ?_, fun k hk2 => ?_⟩))
      · try dsimp only
        rw [si_at]
        by_cases e : q' = q
        · rw [if_pos ⟨rfl, by omega⟩]
        · rw [if_neg (by omega)]; exact a3 q' (by omega)
      · try dsimp only
        rw [si_col (by omega)]; exact a4 k hk2
    · rintro ⟨w, M2⟩ ⟨a1, a2, a3, a4⟩ kk'
      try dsimp only at a1 a2 a3 a4
      subst a1
      unfold pModel_mics_L148 pModel_mics_L148b
      try dsimp only
      refine ok_pos (by decide) ?_
      have old : ∀ m q, m < i → q < 6 → M2.1 1 (1 + 6 * m + q) = if m < n then mcell p m q else 0 := fun m q z1 z2 => by rw [a4 _ (by omega)]; exact h3 m q z1 z2
      have out : ∀ k, k = 0 ∨ 37 ≤ k → M2.1 1 k = M.1 1 k := fun k hk2 => by rw [a4 _ (by omega)]; exact h4 k hk2
      refine ok_ite (fun z => ?_) (fun z => hk _ ⟨nn_succ, h2.tr a2, fun m q z1 z2 => ?_, out⟩)
      · rw [nn_lt nB nB] at z
        refine ok_ld (by omega) nL ?_
        rw [show (1 + (6 * nn i)) + 0 = nn (1 + 6 * i + 0) by rw [show (1 : Int32) = nn 1 from rfl, show (6 : Int32) = nn 6 from rfl, show (0 : Int32) = nn 0 from rfl, nn_mul, nn_add, nn_add], show (1 + (6 * nn i)) + 1 = nn (1 + 6 * i + 1) by rw [show (1 : Int32) = nn 1 from rfl, show (6 : Int32) = nn 6 from rfl, nn_mul, nn_add, nn_add], show (1 + (6 * nn i)) + 3 = nn (1 + 6 * i + 3) by rw [show (1 : Int32) = nn 1 from rfl, show (6 : Int32) = nn 6 from rfl, show (3 : Int32) = nn 3 from rfl, nn_mul, nn_add, nn_add]]
        refine ok_st (by omega) nL (ok_st (by omega) nL (ok_st (by omega) nL (hk _ ⟨nn_succ, (((h2.tr a2).tr (fr.si rfl)).tr (fr.si rfl)).tr (fr.si rfl), fun m q z1 z2 => ?_, fun k hk2 => ?_⟩)))
        · try dsimp only
          by_cases e : m = i
          · subst e
            rw [if_pos z, si_at, si_at, si_at, (a2.at1 (by decide) : M2.1 4 = M1.1 4), (h2.at1 (by decide) : M1.1 4 = M.1 4), hp m z, a3 q z2]
            unfold mcell
            by_cases q0 : q = 0
            · rw [if_neg (by omega), if_neg (by omega), if_pos ⟨rfl, by omega⟩, if_pos q0]
            · by_cases q1 : q = 1
              · rw [if_neg (by omega), if_pos ⟨rfl, by omega⟩, if_neg q0, if_pos (Or.inl q1)]
              · by_cases q3 : q = 3
                · rw [if_pos ⟨rfl, by omega⟩, if_neg q0, if_pos (Or.inr q3)]
                · rw [if_neg (by omega), if_neg (by omega), if_neg (by omega), if_neg q0, if_neg (by omega)]
          · rw [si_col (by omega), si_col (by omega), si_col (by omega)]
            exact old m q (by omega) z2
        · try dsimp only
          rw [si_col (by omega), si_col (by omega), si_col (by omega)]
          exact out k hk2
      · rw [nn_lt nB nB] at z
        by_cases e : m = i
        · subst e
          try dsimp only
          rw [if_neg z]; exact a3 q z2
        · exact old m q (by omega) z2
  · rintro ⟨w, M1⟩ ⟨h1, h2, h3, h4⟩ kk
    try dsimp only at h1 h2 h3 h4
    subst h1
    unfold pModel_mics_L139 pModel_mics_L139b
    try dsimp only
    exact ok_pos (by decide) (ok_some ⟨rfl, h2, h3, h4⟩)
def mI (M0 : fm_M) (k : Nat) (c : Nat → Nat) (t : Int32 × Int32 × fm_M) : Prop :=
  fr (fun a => a = 0 ∨ a = 4) M0 t.2.2 ∧ (∀ j, j ≠ 7 → j ≠ 8 → t.2.2.1 0 j = M0.1 0 j) ∧
  ((t.2.1 = 1 ∧ ∃ (j i : Nat) (last : Int) (p : Nat → Int32), j ≤ 6 ∧ t.1 = nn j ∧ t.2.2.1 0 7 = nn i ∧ t.2.2.1 0 8 = -1 ∧ (j = 6 → 1 ≤ i) ∧ i ≤ k ∧ (∀ m, m < j → t.2.2.1 4 m = p m) ∧ ((j = 0 ∧ last = -1) ∨ (0 < j ∧ p (j - 1) = ii last ∧ 0 ≤ last ∧ last ≤ 99)) ∧ mR k c = mP k c (6 - j) j i last p) ∨
   (t.2.1 = 0 ∧ ∃ e, e < 200 ∧ t.2.2.1 0 8 = nn e ∧ mR k c = .inl e) ∨
   (t.2.1 = 0 ∧ t.2.2.1 0 8 = -1 ∧ ∃ (n i : Nat) (p : Nat → Int32), n ≤ 6 ∧ i < 200 ∧ t.1 = nn n ∧ t.2.2.1 0 7 = nn i ∧ (∀ m, m < n → t.2.2.1 4 m = p m) ∧ (i < k → mR k c = .inl i) ∧ (k ≤ i → mR k c = .inr (n, p))))
theorem md_micsLoop {N : Nat} {M0 : fm_M} {k : Nat} {c : Nat → Nat} {m : Nat} {u : Nat → Nat → Int32} {s : Int32 × Int32 × fm_M} (hN : 4000 ≤ N) (h : lM M0 k c) (hm : m ≤ 8) (hp : pM M0 m u) (hs : mI M0 k c s) : ok (fm_lp (pModel_mics_L24 N) N s) (fun x => mEnd M0 u m x (mR k c)) := by
  have hk80 := h.1
  refine ok_lp (mI M0 k c) (fun t => if t.2.1 = 0 then 0 else 8 - t.1.toNatClampNeg) ?_ N s hs (by split <;> omega)
  rintro ⟨w1, w2, M1⟩ ⟨f1, z1, hc⟩ kk hk
  try dsimp only at f1 z1 hc
  have g1 : lM M1 k c := h.kp (z1 6 (by decide) (by decide)) (f1.at1 (by decide))
  unfold pModel_mics_L24 pModel_mics_L24b
  try dsimp only
  rcases hc with ⟨e2, j, i, last, p, b1, b2, b3, b4, b5, b6, b7, b8, b9⟩ | ⟨e2, e, b1, b2, b3⟩ | ⟨e2, b1, n, i, p, b2, b3, b4, b5, b6, b7, b8⟩
  · subst e2
    subst b2
    have mu1 : ∀ (M3 : fm_M) (y : Int32), (fun t : Int32 × Int32 × fm_M => if t.2.1 = 0 then 0 else 8 - t.1.toNatClampNeg) (nn (j + 1), y, M3) < (fun t : Int32 × Int32 × fm_M => if t.2.1 = 0 then 0 else 8 - t.1.toNatClampNeg) (nn j, 1, M1) := by
      intro M3 y
      show (if y = 0 then 0 else 8 - (nn (j + 1)).toNatClampNeg) < (if (1 : Int32) = 0 then 0 else 8 - (nn j).toNatClampNeg)
      rw [if_neg (show ¬ (1 : Int32) = 0 by decide), nn_toNat nB, nn_toNat nB]
      split <;> omega
    -- a fault stands
    have bad : ∀ (M3 : fm_M) (v : Int32) (e : Nat), fr (fun a => a = 0 ∨ a = 4) M0 M3 → (∀ j, j ≠ 7 → j ≠ 8 → M3.1 0 j = M0.1 0 j) → e < 200 → M3.1 0 8 = nn e → mR k c = .inl e → ok (pModel_mics_J92 N M3 (nn j) v kk) (fun x => mEnd M0 u m x (mR k c)) := by
      intro M3 v e q1 q2 q3 q4 q5
      unfold pModel_mics_J92
      have q6 : (fm_si M3 4 j v).1 0 8 = nn e := by rw [si_row (by decide)]; exact q4
      refine ok_st (by omega) nL (ok_bindE (md_passes0 (by rw [q6]; exact nn_m1 (by omega))) ?_)
      try dsimp only
      rw [nn_succ]
      exact hk _ ⟨q1.tr (fr.si (Or.inr rfl)), fun j' y1 y2 => by (try dsimp only); rw [si_row (by decide)]; exact q2 j' y1 y2, Or.inr (Or.inl ⟨rfl, e, q3, q6, q5⟩)⟩ (mu1 _ _)
    by_cases j6 : j = 6
    · subst j6
      refine ok_pos rfl ?_ |> fun z => ok_neg (by decide) z
      rw [b3, show nn i - 1 = nn (i - 1) from nn_sub (i := i) (j := 1) (b5 rfl)]
      refine ok_bindE (md_fault1 b4) ?_
      have e8 : (fm_si M1 0 8 (nn (i - 1))).1 0 8 = nn (i - 1) := si_same
      have ne8 : (fm_si M1 0 8 (nn (i - 1))).1 0 8 ≠ -1 := by rw [e8]; exact nn_m1 (by omega)
      unfold pModel_mics_J44
      refine ok_bind (md_digits0 hN ne8) ?_
      rintro ⟨x, M3⟩ e3
      try dsimp only at e3
      subst e3
      refine ok_bindE (md_fine0 ne8) (ok_pos rfl ?_)
      exact bad _ _ (i - 1) (f1.tr (fr.si (Or.inl rfl))) (fun j' y1 y2 => by rw [si_col y2]; exact z1 j' y1 y2) (by omega) e8 b9
    · refine ok_neg (by decide) (ok_neg (by rw [show (6 : Int32) = nn 6 from rfl, nn_inj nB nB]; exact j6) ?_)
      rw [mP_step (by omega)] at b9
      unfold pModel_mics_J44
      refine ok_bind (md_digits2 hN g1 b3 b4 (by omega)) ?_
      rintro ⟨x, M3⟩ ⟨f3, z3, hd⟩
      try dsimp only at f3 z3 hd ⊢
      have f03 : fr (fun a => a = 0 ∨ a = 4) M0 M3 := f1.tr (f3.up (fun k hk => Or.inl hk))
      have z03 : ∀ j, j ≠ 7 → j ≠ 8 → M3.1 0 j = M0.1 0 j := fun j y1 y2 => (z3 j y1 y2).trans (z1 j y1 y2)
      have d1 := dg_bd (k := k) (c := c) (i := i)
      have d2 := dg_bd (k := k) (c := c) (i := i + 1)
      rcases hd with ⟨a1, a2⟩ | ⟨a1, a2, a3⟩ | ⟨a1, a2, a3, a4, a5⟩
      · rw [if_pos a1] at b9
        exact ok_bindE (md_fine0 (by rw [a2]; exact nn_m1 (by omega))) (ok_pos rfl (bad _ _ i f03 z03 (by omega) a2 b9))
      · rw [if_neg (by omega), if_pos a2] at b9
        exact ok_bindE (md_fine0 (by rw [a3]; exact nn_m1 (by omega))) (ok_pos rfl (bad _ _ (i + 1) f03 z03 (by omega) a3 b9))
      · rw [if_neg (by omega), if_neg (by omega)] at b9
        subst a5
        have ik : i + 1 < k := by
          by_cases z : k ≤ i + 1
          · rw [dg_out z] at a2; omega
          · omega
        have hvb : 0 ≤ 10 * dg k c i + dg k c (i + 1) ∧ 10 * dg k c i + dg k c (i + 1) ≤ 99 := by omega
        generalize 10 * dg k c i + dg k c (i + 1) = v at b9 hvb
        have j82 : mR k c = .inl (i + 1) → ok (pModel_mics_J82 N M3 (nn j) (ii v) kk) (fun x => mEnd M0 u m x (mR k c)) := by
          intro e
          unfold pModel_mics_J82
          rw [a3, show nn (i + 2) - 1 = nn (i + 1) from nn_sub (i := i + 2) (j := 1) (by omega)]
          exact ok_bindE (md_fault1 a4) (bad _ _ (i + 1) (f03.tr (fr.si (Or.inl rfl))) (fun j' y1 y2 => by rw [si_col y2]; exact z03 j' y1 y2) (by omega) si_same e)
        refine ok_bindE (md_fine1 a4) (ok_neg (by decide) ?_)
        by_cases c1 : 40 < v
        · rw [if_pos c1] at b9
          exact ok_pos (by rw [show (40 : Int32) = ii 40 from rfl, ii_lt (by omega)]; exact c1) (j82 b9)
        · rw [if_neg c1] at b9
          refine ok_neg (by rw [show (40 : Int32) = ii 40 from rfl, ii_lt (by omega)]; exact c1) ?_
          have j92 : last < v → ok (pModel_mics_J92 N M3 (nn j) (ii v) kk) (fun x => mEnd M0 u m x (mR k c)) := by
            intro c2
            rw [if_neg (by omega)] at b9
            unfold pModel_mics_J92
            refine ok_st (by omega) nL ?_
            have g4 : lM (fm_si M3 4 j (ii v)) k c := h.kp (by rw [si_row (by decide)]; exact z03 6 (by decide) (by decide)) (by rw [si_row (by decide)]; exact f03.at1 (by decide))
            have e47 : (fm_si M3 4 j (ii v)).1 0 7 = nn (i + 2) := by rw [si_row (by decide)]; exact a3
            have e48 : (fm_si M3 4 j (ii v)).1 0 8 = -1 := by rw [si_row (by decide)]; exact a4
            have f4 : fr (fun a => a = 0 ∨ a = 4) M0 (fm_si M3 4 j (ii v)) := f03.tr (fr.si (Or.inr rfl))
            have z4 : ∀ j', j' ≠ 7 → j' ≠ 8 → (fm_si M3 4 j (ii v)).1 0 j' = M0.1 0 j' := fun j' y1 y2 => by rw [si_row (by decide)]; exact z03 j' y1 y2
            have r4 : ∀ m, m < j + 1 → (fm_si M3 4 j (ii v)).1 4 m = upd p j (ii v) m := by
              intro m' hm'
              by_cases e : m' = j
              · subst e; rw [si_same, upd_eq]
              · rw [si_col e, upd_ne e, f3.at1 (by decide)]; exact b7 m' (by omega)
            generalize fm_si M3 4 j (ii v) = M4 at g4 e47 e48 f4 z4 r4
            refine ok_bindE (md_passes (a := 44) g4 e47 e48 (by omega) (by decide)) ?_
            by_cases c3 : bb k c (i + 2) = 44
            · have ik2 : i + 2 < k := by
                by_cases z : i + 2 < k
                · exact z
                · unfold bb at c3
                  rw [if_neg z] at c3
                  omega
              rw [if_neg (by omega), if_pos c3] at b9
              rw [if_pos (show bb k c (i + 2) = ((44 : Nat) : Int) from c3)]
              try dsimp only
              rw [nn_succ]
              exact hk _ ⟨f4.tr (fr.si (Or.inl rfl)), fun j' y1 y2 => by (try dsimp only); rw [si_col y1]; exact z4 j' y1 y2, Or.inl ⟨rfl, j + 1, i + 3, v, _, by omega, rfl, si_same, by (try dsimp only); rw [si_col (by decide)]; exact e48, fun _ => by omega, by omega, fun m' hm' => by (try dsimp only); rw [si_row (by decide)]; exact r4 m' hm', Or.inr ⟨by omega, upd_eq, hvb⟩, b9⟩⟩ (mu1 _ _)
            · rw [if_neg (show ¬ bb k c (i + 2) = ((44 : Nat) : Int) from c3)]
              try dsimp only
              rw [nn_succ]
              refine hk _ ⟨f4, z4, Or.inr (Or.inr ⟨rfl, e48, j + 1, i + 2, _, by omega, by omega, rfl, e47, r4, fun y => ?_, fun y => ?_⟩)⟩ (mu1 _ _)
              · rw [b9, if_neg (by omega), if_neg c3]
              · rw [b9, if_pos (by omega)]
          rcases b8 with ⟨y1, y2⟩ | ⟨y1, y2, y3⟩
          · exact ok_pos (by rw [y1]; decide) (j92 (by omega))
          · refine ok_neg (by rw [show (0 : Int32) = nn 0 from rfl, nn_le nB nB]; omega) ?_
            rw [show nn j - 1 = nn (j - 1) from nn_sub (i := j) (j := 1) (by omega)]
            refine ok_ld (by omega) nL ?_
            rw [f3.at1 (by decide), b7 (j - 1) (by omega), y2]
            by_cases c2 : last < v
            · exact ok_pos (by rw [ii_lt (by omega)]; exact c2) (j92 c2)
            · exact ok_neg (by rw [ii_lt (by omega)]; exact c2) (j82 (by rw [b9, if_pos c2]))
  · subst e2
    have ne8 : M1.1 0 8 ≠ -1 := by rw [b2]; exact nn_m1 (by omega)
    have hw : pModel_wasRight M1 = some (0, M1) := by
      refine ok_equal ?_
      unfold pModel_wasRight
      refine ok_ite (fun _ => ?_) (fun _ => ok_bindE (md_fault0 ne8) ?_)
      all_goals
        unfold pModel_wasRight_J19
        refine ok_bindE (md_fine0 ne8) ?_
        rw [boE (Or.inl rfl)]
        exact ok_some rfl
    refine ok_pos rfl (ok_bindE hw (ok_pos rfl (ok_some ?_)))
    rw [b3]
    refine ⟨?_, f1, z1⟩
    try dsimp only
    rw [b2]
    exact er1
  · subst e2
    refine ok_pos rfl ?_
    by_cases ci : i < k
    · have hw : pModel_wasRight M1 = some (0, fm_si M1 0 8 (nn i)) := by
        refine ok_equal ?_
        unfold pModel_wasRight
        rw [g1.2.1, b5]
        refine ok_neg (by rw [nn_le nB nB]; omega) (ok_bindE (md_fault1 b1) ?_)
        unfold pModel_wasRight_J19
        refine ok_bindE (md_fine0 (by rw [si_same]; exact nn_m1 (by omega))) ?_
        rw [boE (Or.inl rfl)]
        exact ok_some rfl
      refine ok_bindE hw (ok_pos rfl (ok_some ?_))
      rw [b7 ci]
      refine ⟨?_, f1.tr (fr.si (Or.inl rfl)), fun j' y1 y2 => by (try dsimp only); rw [si_col y2]; exact z1 j' y1 y2⟩
      try dsimp only
      rw [si_same]
      exact er1
    · have hw : pModel_wasRight M1 = some (1, M1) := by
        refine ok_equal ?_
        unfold pModel_wasRight
        rw [g1.2.1, b5]
        refine ok_pos (by rw [nn_le nB nB]; omega) ?_
        unfold pModel_wasRight_J19
        refine ok_bindE (md_fine1 b1) ?_
        rw [boE (Or.inr rfl)]
        exact ok_some rfl
      refine ok_bindE hw (ok_neg (show ¬ (1 : Int32) = 0 by decide) ?_)
      have e11 : M1.1 1 = M0.1 1 := f1.at1 (by decide)
      refine ok_bind (md_change hN hm (hp.kf f1 (z1 25 (by decide) (by decide)) (by decide))) ?_
      rintro M5 ⟨f5, z5, p5⟩
      subst b4
      refine ok_pt (ok_mono (md_micsFill (p := p) hN b2 (fun m' hm' => ?_)) ?_)
      · rw [si_row (by decide), f5.1 4 (by unfold chR; omega)]
        exact b6 m' hm'
      · rintro ⟨x, M6⟩ ⟨a1, a2, a3, a4⟩
        try dsimp only at a1 a2 a3 a4
        rw [b8 (by omega)]
        have e51 : M5.1 1 = M0.1 1 := by rw [f5.1 1 (by unfold chR; omega)]; exact e11
        have f6 : fr (fun a => a = 1) M5 M6 := (fr.si (A := fun a => a = 1) rfl).tr a2
        refine ⟨a1, fun k' hk' => ?_, fun k' hk' => ?_, ?_, fun j' y1 y2 y3 => ?_, ?_⟩
        · try dsimp only
          by_cases c0 : k' = 0
          · subst c0
            rw [a4 0 (by omega), si_same]
            rfl
          · by_cases c1 : k' < 37
            · have hh := a3 ((k' - 1) / 6) ((k' - 1) % 6) (by omega) (by omega)
              rw [show 1 + 6 * ((k' - 1) / 6) + (k' - 1) % 6 = k' by omega] at hh
              rw [hh]
              unfold mG
              rw [if_neg c0, if_pos c1]
            · rw [a4 k' (by omega), si_col c0, mG_hi (by omega), e51]
        · try dsimp only
          rw [f6.1 k' (by omega), f5.1 k' (by unfold chR; omega)]
          exact f1.1 k' (by omega)
        · try dsimp only
          rw [f6.2.1 3 (by decide), f5.2.1 3 (by unfold chR; omega)]
          exact f1.2.1 3 (by decide)
        · try dsimp only
          rw [f6.at1 (by decide), z5 j' y3]
          exact z1 j' y1 y2
        · rw [e11] at p5
          exact p5.kf f6 (by rw [f6.at1 (by decide)]) (by decide)
