/-! ===== weights are learnt, on both sides ===== -/
theorem qN_lt {a b : Nat} (ha : a < 4000000000000000 := by omega) (hb : b < 4000000000000000 := by omega) : lN a < lN b ↔ a < b := pk_lLT (by omega) (by omega)
theorem ok_fill2 {ρ : Type} {step : (Int32 × fm_M → Option ρ) → Int32 × fm_M → Option ρ} {Q : ρ → Prop} {M : fm_M} (k n : Nat) (f : Nat → Int32) (hs : ∀ i M1, i < n → fr (fun a => a = k) M M1 → (∀ j, i ≤ j → M1.1 k j = M.1 k j) → ∀ kk, step kk (nn i, M1) = kk (nn (i + 1), fm_si M1 k i (f i))) (he : ∀ M1, fr (fun a => a = k) M M1 → (∀ j, j < n → M1.1 k j = f j) → (∀ j, n ≤ j → M1.1 k j = M.1 k j) → ∀ kk, ok (step kk (nn n, M1)) Q) {N : Nat} (hN : n < N) : ok (fm_lp step N (0, M)) Q := by
  refine ok_for n (fun i s => s.1 = nn i ∧ fr (fun a => a = k) M s.2 ∧ (∀ j, j < i → s.2.1 k j = f j) ∧ ∀ j, i ≤ j → s.2.1 k j = M.1 k j) ?_ ?_ ⟨rfl, fr.rf, fun j h => absurd h (Nat.not_lt_zero _), fun j _ => rfl⟩ hN
  · rintro i ⟨v, M1⟩ hi ⟨h1, h2, h3, h4⟩ kk hk
    dsimp only at h1 h2 h3 h4
    subst h1
    rw [hs i M1 hi h2 h4 kk]
    refine hk _ ⟨rfl, h2.tr (fr.si rfl), ?_, ?_⟩
    · intro j hj
      try dsimp only
      by_cases e : j = i
      · subst e; rw [si_same]
      · rw [si_col e]; exact h3 j (by omega)
    · intro j hj
      try dsimp only
      rw [si_col (by omega)]
      exact h4 j (by omega)
  · rintro ⟨v, M1⟩ ⟨h1, h2, h3, h4⟩ kk
    dsimp only at h1 h2 h3 h4
    subst h1
    exact he M1 h2 h3 h4 kk
theorem cs_fill {N : Nat} {M : fm_M} {v n : Nat} {x : Int32} (hN : 4000 ≤ N) (hv : fm_n shC v = n) (hi : fm_ia shC v = true) (hn : n ≤ 1000) : ok (pArrays_fill N M v x) (fun M' => fr (fun k => k = v) M M' ∧ ∀ i, i < n → M'.1 v i = x) := by
  unfold pArrays_fill
  refine ok_rq hi ?_
  rw [hv]
  refine ok_fill v n (fun _ => x) ?_ ?_ (by omega)
  · intro i M1 hi h2 h3 kk
    unfold pArrays_fill_L5 pArrays_fill_L5b
    try dsimp only
    rw [if_neg (by show ¬ nn n ≤ nn i; rw [nn_le nB nB]; omega), hv, stE hi nL, nn_succ]
  · intro M1 h2 h3 kk
    unfold pArrays_fill_L5 pArrays_fill_L5b
    try dsimp only
    exact ok_pos (by show nn n ≤ nn n; rw [nn_le nB nB]; omega) (ok_some ⟨h2, h3⟩)
theorem md_learn {N : Nat} {M : fm_M} {W j : Nat} {w : Nat → Int32} (hN : 4000 ≤ N) (hg : gV (M.1 1)) (hW : M.1 0 15 = nn W) (hj : j < W) (hB : okB (M.1 7) (fun j i => M.1 8 (48 * j + i)) W (gl (M.1 1))) (hw : bw w) (hwr : ∀ j', j' < W → M.1 6 j' = w j') : ok (pModel_learn N M (nn j)) (fun M' => fr (fun k => k = 6 ∨ k = 9) M M' ∧ ∀ j', j' < W → M'.1 6 j' = lr (M.1 7) (fun j i => M.1 8 (48 * j + i)) W (gl (M.1 1)) w j j') := by
  have hW5 := hB.1
  have hP : ∀ n, n ≤ 32 → cP (M.1 7) (fun j i => M.1 8 (48 * j + i)) W (gl (M.1 1)) (upd w j (bs n)) < 1000000000000000 := fun n hn => hB.lt (bw_upd hw hn)
  unfold lr
  generalize hPP : (fun n => cP (M.1 7) (fun j i => M.1 8 (48 * j + i)) W (gl (M.1 1)) (upd w j (bs n))) = P
  have hPn : ∀ n, cP (M.1 7) (fun j i => M.1 8 (48 * j + i)) W (gl (M.1 1)) (upd w j (bs n)) = P n := fun n => by rw [← hPP]
  unfold pModel_learn
  refine ok_for 33 (fun n s => s.2.2.1 = nn n ∧ fr (fun k => k = 6 ∨ k = 9) M s.2.2.2 ∧ (∀ j', j' < W → j' ≠ j → s.2.2.2.1 6 j' = w j') ∧ ((n = 0 ∧ s.2.1 = -1) ∨ (0 < n ∧ s.1 = bs (am P (n - 1)) ∧ s.2.1 = lN (P (am P (n - 1)))))) ?_ ?_ ⟨rfl, fr.rf, fun j' a b => hwr j' a, Or.inl ⟨rfl, rfl⟩⟩ (by omega)
  · rintro n ⟨v2, v3, v5, M1⟩ hn ⟨h1, h2, h3, h4⟩ k hk
    dsimp only at h1 h2 h3 h4
    subst h1
    unfold pModel_learn_L9 pModel_learn_L9b
    try dsimp only
    refine ok_neg (by rw [show (32 : Int32) = nn 32 from rfl, nn_lt nB nB]; omega) ?_
    refine ok_bindE (md_turn (by omega)) (ok_st (by omega) nL ?_)
    have f2 : fr (fun k => k = 6 ∨ k = 9) M (fm_si M1 6 j (bs n)) := h2.tr (fr.si (Or.inl rfl))
    have e1 : (fm_si M1 6 j (bs n)).1 1 = M.1 1 := f2.at1 (by decide)
    refine ok_bind (md_layClean (W := W) hN (by rw [e1]; exact hg) (by rw [f2.at1 (k := 0) (by decide)]; exact hW) hW5) ?_
    rintro M3 ⟨g1, g2⟩
    have f3 : fr (fun k => k = 6 ∨ k = 9) M M3 := f2.tr (g1.up (fun k hk => Or.inr hk))
    have e3 : M3.1 1 = M.1 1 := f3.at1 (by decide)
    have w6 : ∀ j', j' < W → M3.1 6 j' = upd w j (bs n) j' := by
      intro j' z
      rw [g1.at1 (by decide)]
      unfold upd
      by_cases e : j' = j
      · subst e; rw [si_same, if_pos rfl]
      · rw [si_col e, if_neg e]; exact h3 j' z e
    have hpow : pModel_powerOf N M3 9 = some (lN (P n)) := by
      rw [md_powerOf hN (by rw [e3]; exact hg) 9 (by decide +kernel), e3]
      rw [pw_congr (q := cl (M.1 7) (fun j i => M.1 8 (48 * j + i)) (upd w j (bs n)) W) (fun i hi => by
        rw [g2 i (by rw [e1]; exact hi)]
        refine cl_congr ?_ ?_ ?_
        · rw [f2.at1 (by decide)]
        · intro j' z; rw [f2.at1 (k := 8) (by decide)]
        · intro j' z
          rw [← w6 j' z, g1.at1 (by decide)]), hB.pw (bw_upd hw (by omega)), hPn]
    refine ok_bindE hpow ?_
    have hJ : ∀ c : Int64, pModel_learn_J57 N M3 (nn j) (nn n) c k = k (bs n, c, nn (n + 1), M3) := by
      intro c
      unfold pModel_learn_J57
      rw [ldE (by omega) nL, w6 j hj, nn_succ]
      unfold upd
      rw [if_pos rfl]
    rw [hJ, nn_succ]
    have h3' : ∀ j', j' < W → j' ≠ j → M3.1 6 j' = w j' := by
      intro j' z1 z2
      rw [w6 j' z1]
      unfold upd
      rw [if_neg z2]
    rcases h4 with ⟨n0, c1⟩ | ⟨n0, c0, c1⟩
    · subst n0
      rw [c1]
      exact ok_pos (by decide) (hk _ ⟨rfl, f3, h3', Or.inr ⟨by omega, rfl, rfl⟩⟩)
    · have q1 : P (am P (n - 1)) < 1000000000000000 := by rw [← hPn]; exact hP _ (by have := am_le P (n - 1); omega)
      have q2 : P n < 1000000000000000 := by rw [← hPn]; exact hP _ (by omega)
      have ea : am P n = if P n < P (am P (n - 1)) then n else am P (n - 1) := by
        obtain ⟨n', rfl⟩ : ∃ n', n = n' + 1 := ⟨n - 1, by omega⟩
        rfl
      rw [c1]
      refine ok_neg (by rw [cmp_lt, show (0 : Int64) = lN 0 from rfl, qN_lt]; omega) ?_
      by_cases c : P n < P (am P (n - 1))
      · rw [if_pos c] at ea
        refine ok_pos (by rw [cmp_lt, qN_lt]; exact c) (hk _ ⟨rfl, f3, h3', Or.inr ⟨by omega, ?_, ?_⟩⟩)
        · (try dsimp only); rw [show n + 1 - 1 = n from rfl, ea]
        · (try dsimp only); rw [show n + 1 - 1 = n from rfl, ea]
      · rw [if_neg c] at ea
        refine ok_neg (by rw [cmp_lt, qN_lt]; exact c) (hk _ ⟨rfl, f3, h3', Or.inr ⟨by omega, ?_, ?_⟩⟩)
        · (try dsimp only); rw [show n + 1 - 1 = n from rfl, ea]; exact c0
        · (try dsimp only); rw [show n + 1 - 1 = n from rfl, ea]
  · rintro ⟨v2, v3, v5, M1⟩ ⟨h1, h2, h3, h4⟩ k
    dsimp only at h1 h2 h3 h4
    subst h1
    unfold pModel_learn_L9 pModel_learn_L9b
    try dsimp only
    refine ok_pos (by decide) (ok_st (by omega) nL (ok_some ⟨h2.tr (fr.si (Or.inl rfl)), ?_⟩))
    rcases h4 with ⟨n0, c1⟩ | ⟨n0, c0, c1⟩
    · omega
    · intro j' z
      unfold upd
      by_cases e : j' = j
      · subst e
        rw [si_same, if_pos rfl, c0]
      · rw [si_col e, if_neg e]
        exact h3 j' z e
def BM (g : Nat → Int32) (H : Nat → Int → Int32) (s : Nat) (b : Int) (i : Nat) : Int32 := bm (fun m => tr g H m b ((gb g : Int) + i)) s
def KM (g : Nat → Int32) (H : Nat → Int → Int32) (s : Nat) (b : Int) (j i : Nat) : Int32 := bk (fun m => tr g H m b ((gb g : Int) + i)) s j
def WM (g : Nat → Int32) (H : Nat → Int → Int32) (s : Nat) (b : Int) : Nat → Int32 := wt (BM g H s b) (KM g H s b) (pop s - 1) (gl g) 3
def CM (g : Nat → Int32) (H : Nat → Int → Int32) (s : Nat) (b : Int) (i : Nat) : Int32 := cl (BM g H s b) (KM g H s b) (WM g H s b) (pop s - 1) i
theorem ok_BK {g : Nat → Int32} {H : Nat → Int → Int32} {s : Nat} {b : Int} (hg : gV g) (hs : s < 2 ^ gn g) (hH : ∀ m t, ab (H m t) 9999) : okB (BM g H s b) (KM g H s b) (pop s - 1) (gl g) := by
  have hn6 := hg.n.2
  have h64 := set_64 hs hn6
  have hp := pop_le h64
  have hl := hg.l
  refine ⟨by omega, by omega, by omega, fun i hi => bm_ab h64 (fun m hm => tr_ab hg (set_bit hs hm) hH), fun j i hj hi => bk_ab (tr_ab hg (lva_lt hs hn6 (by omega)) hH) (tr_ab hg (lva_lt hs hn6 (by omega)) hH)⟩
theorem st_jm : ∀ p : Fin 7, jmax 0 (nn p - 1) = nn (p.val - 1) := by decide +kernel
def lwR (k : Nat) : Prop := k = 0 ∨ k = 6 ∨ k = 7 ∨ k = 8 ∨ k = 9
theorem md_layWeights {N : Nat} {M : fm_M} {H : Nat → Int → Int32} {s : Nat} {b : Int} (hN : 4000 ≤ N) (hg : gV (M.1 1)) (hS : sM M H) (hs : s < 2 ^ gn (M.1 1)) (hb : -8 ≤ b ∧ b ≤ 8) (hH : ∀ m t, ab (H m t) 9999) : ok (pModel_layWeights N M (nn s) (ii b)) (fun M' => fr lwR M M' ∧ (∀ j, j ≠ 15 → M'.1 0 j = M.1 0 j) ∧ M'.1 0 15 = nn (pop s - 1) ∧ (∀ i, i < gl (M.1 1) → M'.1 7 i = BM (M.1 1) H s b i) ∧ (∀ j, j < pop s - 1 → M'.1 6 j = WM (M.1 1) H s b j) ∧ ∀ i, i < gl (M.1 1) → M'.1 9 i = CM (M.1 1) H s b i) := by
  have hn6 := hg.n.2
  have h64 := set_64 hs hn6
  have hp := pop_le h64
  obtain ⟨el, hl4, hl48⟩ := hg.l
  have hB200 := hg.b.2
  have hok := ok_BK (b := b) hg hs hH
  unfold pModel_layWeights
  refine ok_bind (md_layBeam hN hg hS hs hb) ?_
  rintro M3 ⟨f3, b3⟩
  refine ok_bindE (bt_countBits (by omega) h64) (ok_pt ?_)
  rw [st_jm ⟨pop s, by omega⟩]
  try dsimp only
  generalize hM4 : fm_si M3 0 15 (nn (pop s - 1)) = M4
  have f4 : fr lwR M M4 := by
    rw [← hM4]
    exact (f3.up (fun k hk => by unfold lwR; omega)).tr (fr.si (by unfold lwR; omega))
  have z4 : ∀ j, j ≠ 15 → M4.1 0 j = M.1 0 j := by
    intro j hj
    rw [← hM4, si_col hj, f3.at1 (by decide)]
  have w4 : M4.1 0 15 = nn (pop s - 1) := by rw [← hM4, si_same]
  have b4 : ∀ i, i < gl (M.1 1) → M4.1 7 i = BM (M.1 1) H s b i := by
    intro i hi
    rw [← hM4, si_row (by decide)]
    exact b3 i hi
  clear hM4 b3 f3
  refine ok_for (pop s - 1) (fun j t => t.1 = nn j ∧ fr (fun k => k = 6 ∨ k = 8) M4 t.2 ∧ (∀ j', j' < j → t.2.1 6 j' = 0) ∧ ∀ j' i, j' < j → i < gl (M.1 1) → t.2.1 8 (48 * j' + i) = KM (M.1 1) H s b j' i) ?_ ?_ ⟨rfl, fr.rf, fun j' z => absurd z (Nat.not_lt_zero _), fun j' i z => absurd z (Nat.not_lt_zero _)⟩ (by omega)
  · rintro j ⟨v, M5⟩ hj ⟨h1, h2, h3, h4⟩ k hk
    dsimp only at h1 h2 h3 h4
    subst h1
    unfold pModel_layWeights_L22 pModel_layWeights_L22b
    try dsimp only
    refine ok_neg (by rw [h2.at1 (k := 0) (by decide), w4, nn_le nB nB]; omega) ?_
    refine ok_st (by omega) nL ?_
    refine ok_for (gl (M.1 1)) (fun i t => t.1 = nn i ∧ fr (fun k => k = 6 ∨ k = 8) M4 t.2 ∧ (∀ j', j' < j + 1 → t.2.1 6 j' = 0) ∧ (∀ j' i, j' < j → i < gl (M.1 1) → t.2.1 8 (48 * j' + i) = KM (M.1 1) H s b j' i) ∧ ∀ i', i' < i → t.2.1 8 (48 * j + i') = KM (M.1 1) H s b j i') ?_ ?_ ⟨rfl, h2.tr (fr.si (Or.inl rfl)), ?_, ?_, fun i z => absurd z (Nat.not_lt_zero _)⟩ (by omega)
    · rintro i ⟨v, M6⟩ hi ⟨i1, i2, i3, i4, i5⟩ k2 hk2
      dsimp only at i1 i2 i3 i4 i5
      subst i1
      have f6 : fr lwR M M6 := f4.tr (i2.up (fun k hk => by unfold lwR; omega))
      have e1 : M6.1 1 = M.1 1 := f6.at1 (by unfold lwR; omega)
      have e5 : M6.1 5 = M.1 5 := f6.at1 (by unfold lwR; omega)
      unfold pModel_layWeights_L40 pModel_layWeights_L40b
      try dsimp only
      refine ok_neg (by rw [e1, el, nn_le nB nB]; omega) ?_
      rw [e1, gb_t hg]
      have hS6 : sM M6 H := by unfold sM; rw [e1, e5]; exact hS
      refine ok_bindE (md_blockedOf hN (by rw [e1]; exact hg) hS6 (by rw [e1]; exact hs) (by omega) hb (by omega)) ?_
      rw [ix_48, e1]
      refine ok_st (by omega) nL (hk2 _ ⟨nn_succ, ?_, ?_, ?_, ?_⟩)
      · exact i2.tr (fr.si (Or.inr rfl))
      · intro j' z
        try dsimp only
        rw [si_row (by decide)]
        exact i3 j' z
      · intro j' i' z1 z2
        try dsimp only
        rw [si_col (by omega)]
        exact i4 j' i' z1 z2
      · intro i' z
        try dsimp only
        by_cases e : i' = i
        · subst e; rw [si_same]; rfl
        · rw [si_col (by omega)]; exact i5 i' (by omega)
    · rintro ⟨v, M6⟩ ⟨i1, i2, i3, i4, i5⟩ k2
      dsimp only at i1 i2 i3 i4 i5
      subst i1
      have f6 : fr lwR M M6 := f4.tr (i2.up (fun k hk => by unfold lwR; omega))
      have e1 : M6.1 1 = M.1 1 := f6.at1 (by unfold lwR; omega)
      unfold pModel_layWeights_L40 pModel_layWeights_L40b
      try dsimp only
      refine ok_pos (by rw [e1, el, nn_le nB nB]; omega) (hk _ ⟨nn_succ, i2, i3, ?_⟩)
      intro j' i' z1 z2
      try dsimp only
      by_cases e : j' = j
      · subst e; exact i5 i' z2
      · exact i4 j' i' (by omega) z2
    · intro j' z
      try dsimp only
      by_cases e : j' = j
      · subst e; rw [si_same]
      · rw [si_col e]; exact h3 j' (by omega)
    · intro j' i z1 z2
      try dsimp only
      rw [si_row (by decide)]
      exact h4 j' i z1 z2
  · rintro ⟨v, M5⟩ ⟨h1, h2, h3, h4⟩ k
    dsimp only at h1 h2 h3 h4
    subst h1
    have f5 : fr lwR M M5 := f4.tr (h2.up (fun k hk => by unfold lwR; omega))
    have w5 : M5.1 0 15 = nn (pop s - 1) := by rw [h2.at1 (k := 0) (by decide)]; exact w4
    have z5 : ∀ j, j ≠ 15 → M5.1 0 j = M.1 0 j := by
      intro j hj
      rw [h2.at1 (k := 0) (by decide)]; exact z4 j hj
    have b5 : ∀ i, i < gl (M.1 1) → M5.1 7 i = BM (M.1 1) H s b i := by
      intro i hi
      rw [h2.at1 (k := 7) (by decide)]; exact b4 i hi
    unfold pModel_layWeights_L22 pModel_layWeights_L22b
    try dsimp only
    refine ok_pos (by rw [w5, nn_le nB nB]; omega) ?_
    -- three rounds
    refine ok_for 3 (fun r t => t.1 = nn r ∧ fr (fun k => k = 6 ∨ k = 9) M5 t.2 ∧ ∀ j, j < pop s - 1 → t.2.1 6 j = wt (BM (M.1 1) H s b) (KM (M.1 1) H s b) (pop s - 1) (gl (M.1 1)) r j) ?_ ?_ ⟨rfl, fr.rf, fun j z => h3 j z⟩ (by omega)
    · rintro r ⟨v, M6⟩ hr ⟨i1, i2, i3⟩ k2 hk2
      dsimp only at i1 i2 i3
      subst i1
      unfold pModel_layWeights_L95 pModel_layWeights_L95b
      try dsimp only
      refine ok_neg (by rw [show (3 : Int32) = nn 3 from rfl, nn_le nB nB]; omega) ?_
      refine ok_for (pop s - 1) (fun j t => t.1 = nn j ∧ fr (fun k => k = 6 ∨ k = 9) M5 t.2 ∧ ∀ j', j' < pop s - 1 → t.2.1 6 j' = rd (BM (M.1 1) H s b) (KM (M.1 1) H s b) (pop s - 1) (gl (M.1 1)) (wt (BM (M.1 1) H s b) (KM (M.1 1) H s b) (pop s - 1) (gl (M.1 1)) r) j j') ?_ ?_ ⟨rfl, i2, i3⟩ (by omega)
      · rintro j ⟨v, M7⟩ hj ⟨j1, j2, j3⟩ k3 hk3
        dsimp only at j1 j2 j3
        subst j1
        have f7 : fr lwR M M7 := f5.tr (j2.up (fun k hk => by unfold lwR; omega))
        have e1 : M7.1 1 = M.1 1 := f7.at1 (by unfold lwR; omega)
        have e0 : M7.1 0 15 = nn (pop s - 1) := by rw [j2.at1 (k := 0) (by decide)]; exact w5
        unfold pModel_layWeights_L103 pModel_layWeights_L103b
        try dsimp only
        refine ok_neg (by rw [e0, nn_le nB nB]; omega) ?_
        have hc7 : ∀ i, i < gl (M.1 1) → M7.1 7 i = BM (M.1 1) H s b i := fun i hi => by rw [j2.at1 (k := 7) (by decide)]; exact b5 i hi
        have hc8 : ∀ j i, j < pop s - 1 → i < gl (M.1 1) → M7.1 8 (48 * j + i) = KM (M.1 1) H s b j i := fun j i z1 z2 => by rw [j2.at1 (k := 8) (by decide)]; exact h4 j i z1 z2
        have hok7 : okB (M7.1 7) (fun j i => M7.1 8 (48 * j + i)) (pop s - 1) (gl (M7.1 1)) := by
          rw [e1]
          refine ⟨hok.1, hok.2.1, hok.2.2.1, fun i hi => by rw [hc7 i hi]; exact hok.2.2.2.1 i hi, fun j i z1 z2 => by (try dsimp only); rw [hc8 j i z1 z2]; exact hok.2.2.2.2 j i z1 z2⟩
        refine ok_bind (md_learn hN (by rw [e1]; exact hg) e0 hj hok7 (bw_rd (bw_wt r) j) j3) ?_
        rintro M8 ⟨g1, g2⟩
        refine hk3 _ ⟨nn_succ, j2.tr g1, ?_⟩
        intro j' z
        try dsimp only
        rw [g2 j' z, e1]
        exact congrFun (lr_congr hc7 hc8) j'
      · rintro ⟨v, M7⟩ ⟨j1, j2, j3⟩ k3
        dsimp only at j1 j2 j3
        subst j1
        have e0 : M7.1 0 15 = nn (pop s - 1) := by rw [j2.at1 (k := 0) (by decide)]; exact w5
        unfold pModel_layWeights_L103 pModel_layWeights_L103b
        try dsimp only
        exact ok_pos (by rw [e0, nn_le nB nB]; omega) (hk2 _ ⟨nn_succ, j2, j3⟩)
    · rintro ⟨v, M6⟩ ⟨i1, i2, i3⟩ k2
      dsimp only at i1 i2 i3
      subst i1
      have f6 : fr lwR M M6 := f5.tr (i2.up (fun k hk => by unfold lwR; omega))
      have e1 : M6.1 1 = M.1 1 := f6.at1 (by unfold lwR; omega)
      have e0 : M6.1 0 = M5.1 0 := i2.at1 (by decide)
      unfold pModel_layWeights_L95 pModel_layWeights_L95b
      try dsimp only
      refine ok_pos (by decide) ?_
      refine ok_bind (md_layClean (W := pop s - 1) hN (by rw [e1]; exact hg) (by rw [e0]; exact w5) (by omega)) ?_
      rintro M7 ⟨g1, g2⟩
      refine ok_some ⟨f6.tr (g1.up (fun k hk => by unfold lwR; omega)), ?_, ?_, ?_, ?_, ?_⟩
      · intro j hj
        rw [g1.at1 (k := 0) (by decide), e0]
        exact z5 j hj
      · rw [g1.at1 (k := 0) (by decide), e0]
        exact w5
      · intro i hi
        rw [g1.at1 (k := 7) (by decide), i2.at1 (k := 7) (by decide)]
        exact b5 i hi
      · intro j hj
        rw [g1.at1 (k := 6) (by decide)]
        exact i3 j hj
      · intro i hi
        rw [g2 i (by rw [e1]; exact hi)]
        unfold CM
        refine cl_congr ?_ ?_ ?_
        · rw [i2.at1 (k := 7) (by decide)]; exact b5 i hi
        · intro j hj
          rw [i2.at1 (k := 8) (by decide)]; exact h4 j i hj hi
        · intro j hj
          exact i3 j hj
/-! the class's side -/
theorem cs_addToTaken {N : Nat} {M : fm_M} {L j : Nat} {x : Int32} (hN : 4000 ≤ N) (hL : M.1 181 10 = nn L) (hL2 : L ≤ 48) (hj : j < 5) : ok (pBench_addToTaken N M (nn j) x) (fun M' => fr (fun k => k = 199) M M' ∧ ∀ i, i < L → M'.1 199 i = M.1 199 i + x * M.1 (192 + j) i) := by
  unfold pBench_addToTaken
  refine ok_fill2 199 L (fun i => M.1 199 i + x * M.1 (192 + j) i) ?_ ?_ (by omega)
  · intro i M1 hi h2 h3 kk
    unfold pBench_addToTaken_L2 pBench_addToTaken_L2b
    try dsimp only
    rw [h2.at1 (k := 181) (by decide), hL, if_neg (by rw [nn_le nB nB]; omega), ldE (by omega) nL, ixE hj nL, ldE (by omega) nL, stE (by omega) nL, nn_succ, h3 i (Nat.le_refl _), h2.at1 (k := 192 + j) (by (try dsimp only); omega)]
  · intro M1 h2 h3 h4 kk
    unfold pBench_addToTaken_L2 pBench_addToTaken_L2b
    try dsimp only
    exact ok_pos (by rw [h2.at1 (k := 181) (by decide), hL, nn_le nB nB]; omega) (ok_some ⟨h2, h3⟩)
theorem cs_squares {N : Nat} {M : fm_M} {L j lim : Nat} {x : Int32} (hN : 4000 ≤ N) (hL : M.1 181 10 = nn L) (hL2 : L ≤ 48) (hj : j < 5) (r : Nat → Int32) (hr : ∀ i, i < L → r i = M.1 190 i - (M.1 199 i + x * M.1 (192 + j) i) / 16) (hs : ns (fun i => sqn (r i)) L < 1000000000000000) (hlim : lim < 4000000000000000) : ok (pBench_squares N M (nn j) x (lN lim)) (fun c => ∃ v, c = lN v ∧ v ≤ ns (fun i => sqn (r i)) L ∧ (v < lim → v = ns (fun i => sqn (r i)) L)) := by
  unfold pBench_squares
  refine ok_for L (fun i s => s = (lN (ns (fun i => sqn (r i)) i), nn i)) ?_ ?_ rfl (by omega)
  · rintro i s hi rfl k hk
    have hm : ns (fun i => sqn (r i)) i ≤ ns (fun i => sqn (r i)) L := ns_mono (by omega)
    unfold pBench_squares_L6 pBench_squares_L6b
    try dsimp only
    refine ok_neg (by rw [hL, nn_le nB nB]; omega) ?_
    refine ok_ite (fun hc => ok_some ⟨_, rfl, hm, ?_⟩) (fun hc => ?_)
    · intro h
      rw [cmp_ge, qN_lt] at hc
      exact absurd h hc
    · refine ok_ld (by omega) nL (ok_ld (by omega) nL (ok_ix hj nL (ok_ld (by omega) nL (hk _ ?_))))
      rw [← hr i hi, sq_lN, lN_plus, nn_succ]
      rfl
  · rintro s rfl k
    unfold pBench_squares_L6 pBench_squares_L6b
    try dsimp only
    exact ok_pos (by rw [hL, nn_le nB nB]; omega) (ok_some ⟨_, rfl, Nat.le_refl _, fun _ => rfl⟩)
theorem cs_bestWeight {N : Nat} {M : fm_M} {L j n0 : Nat} (hN : 4000 ≤ N) (hL : M.1 181 10 = nn L) (hL2 : 1 ≤ L ∧ L ≤ 48) (hj : j < 5) (hn0 : n0 ≤ 32) (r : Nat → Nat → Int32) (hr : ∀ n i, i < L → r n i = M.1 190 i - (M.1 199 i + bs n * M.1 (192 + j) i) / 16) (hs : ∀ n, n ≤ 32 → ns (fun i => sqn (r n i)) L < 1000000000000000) : ok (pBench_bestWeight N M (nn j) (bs n0)) (fun c => c = bs (am (fun n => pwn (r n) L) 32)) := by
  generalize hPP : (fun n => pwn (r n) L) = P
  have hPn : ∀ n, ns (fun i => sqn (r n i)) L / L = P n := fun n => by rw [← hPP]; rfl
  have hPb : ∀ n, n ≤ 32 → P n < 1000000000000000 := fun n hn => by
    rw [← hPn]
    exact Nat.lt_of_le_of_lt (Nat.div_le_self _ _) (hs n hn)
  unfold pBench_bestWeight
  refine ok_bind (cs_squares (lim := 1000000000000000) (x := bs n0) hN hL hL2.2 hj (r n0) (hr n0) (hs n0 hn0) (by decide)) ?_
  rintro c ⟨v, rfl, hv1, hv2⟩
  have hv : v = ns (fun i => sqn (r n0 i)) L := hv2 (Nat.lt_of_le_of_lt hv1 (hs n0 hn0))
  subst hv
  rw [hL]
  refine ok_nzl (nn_ne0l (by omega) (by omega)) ?_
  have hb0 := hs n0 hn0
  have hbp := hPb n0 hn0
  rw [nn_lN (by omega), pk_lDiv (by omega) (by omega) (by omega), hPn, show (1 : Int64) = lN 1 from rfl, lN_plus, lN_times]
  refine ok_for 33 (fun i s => s.2.2 = nn i ∧ ((s.1 = lN ((P n0 + 1) * L) ∧ s.2.1 = bs n0 ∧ ∀ k, k < i → P n0 < P k) ∨ (0 < i ∧ s.1 = lN (P (am P (i - 1)) * L) ∧ s.2.1 = bs (am P (i - 1)) ∧ P (am P (i - 1)) ≤ P n0))) ?_ ?_ ⟨rfl, Or.inl ⟨rfl, rfl, fun k z => absurd z (Nat.not_lt_zero _)⟩⟩ (by omega)
  · rintro i ⟨lm, fd, v⟩ hi ⟨h1, h2⟩ k hk
    dsimp only at h1 h2
    subst h1
    obtain ⟨c, hc1, hc2, hc3⟩ : ∃ c, lm = lN (c * L) ∧ c ≤ P n0 + 1 ∧ ((P i < c → am P i = i) ∧ (¬ P i < c → ((c = P n0 + 1 ∧ fd = bs n0 ∧ ∀ k, k < i + 1 → P n0 < P k) ∨ (am P i = am P (i - 1) ∧ 0 < i ∧ c = P (am P (i - 1)) ∧ fd = bs (am P (i - 1)) ∧ P (am P (i - 1)) ≤ P n0)))) := by
      rcases h2 with ⟨a1, a2, a3⟩ | ⟨a0, a1, a2, a3⟩
      · refine ⟨P n0 + 1, a1, Nat.le_refl _, ?_, ?_⟩
        · intro z
          cases i with
          | zero => rfl
          | succ i =>
            show (if P (i + 1) < P (am P i) then i + 1 else am P i) = i + 1
            rw [if_pos]
            have := a3 (am P i) (by have := am_le P i; omega)
            omega
        · intro z
          refine Or.inl ⟨rfl, a2, ?_⟩
          intro k hk'
          by_cases e : k = i
          · subst e; omega
          · exact a3 k (by omega)
      · refine ⟨P (am P (i - 1)), a1, by omega, ?_, ?_⟩
        · intro z
          obtain ⟨i', rfl⟩ : ∃ i', i = i' + 1 := ⟨i - 1, by omega⟩
          exact if_pos z
        · intro z
          refine Or.inr ⟨?_, a0, rfl, a2, a3⟩
          obtain ⟨i', rfl⟩ : ∃ i', i = i' + 1 := ⟨i - 1, by omega⟩
          exact if_neg z
    have hcL : c * L < 4000000000000000 := by
      have z1 : c * L ≤ (P n0 + 1) * L := Nat.mul_le_mul_right L hc2
      have z2 : P n0 * L ≤ ns (fun i => sqn (r n0 i)) L := by
        rw [← hPn]; exact Nat.div_mul_le_self _ _
      rw [Nat.succ_mul] at z1
      omega
    unfold pBench_bestWeight_L30 pBench_bestWeight_L30b
    try dsimp only
    refine ok_neg (by rw [show (33 : Int32) = nn 33 from rfl, nn_le nB nB]; omega) ?_
    refine ok_bindE (cs_bySize (by omega)) ?_
    rw [hc1]
    refine ok_bind (cs_squares (x := bs i) hN hL hL2.2 hj (r i) (hr i) (hs i (by omega)) hcL) ?_
    rintro y ⟨v, rfl, hv1, hv2⟩
    have hbi := hs i (by omega)
    have hdiv : ns (fun i' => sqn (r i i')) L < c * L ↔ P i < c := by
      rw [← hPn]
      exact (Nat.div_lt_iff_lt_mul (by omega)).symm
    by_cases hlt : v < c * L
    · have hv := hv2 hlt
      have hPi : P i < c := hdiv.mp (by omega)
      refine ok_neg (by rw [cmp_ge, qN_lt]; omega) ?_
      rw [hL]
      refine ok_nzl (nn_ne0l (by omega) (by omega)) ?_
      rw [nn_lN (by omega), pk_lDiv (by omega) (by omega) (by omega), hv, hPn, lN_times, nn_succ]
      have ea := hc3.1 hPi
      refine hk _ ⟨rfl, Or.inr ⟨by omega, ?_, ?_, ?_⟩⟩
      · (try dsimp only); rw [show i + 1 - 1 = i from rfl, ea]
      · (try dsimp only); rw [show i + 1 - 1 = i from rfl, ea]
      · rw [show i + 1 - 1 = i from rfl, ea]; omega
    · have hPi : ¬ P i < c := fun z => hlt (Nat.lt_of_le_of_lt hv1 (hdiv.mpr z))
      refine ok_pos (by rw [cmp_ge, qN_lt]; exact hlt) ?_
      rw [nn_succ, ← hc1]
      rcases hc3.2 hPi with ⟨a1, a2, a3⟩ | ⟨a0, a1, a2, a3, a4⟩
      · exact hk _ ⟨rfl, Or.inl ⟨by (try dsimp only); rw [hc1, a1], a2, a3⟩⟩
      · refine hk _ ⟨rfl, Or.inr ⟨by omega, ?_, ?_, ?_⟩⟩
        · (try dsimp only); rw [hc1, show i + 1 - 1 = i from rfl, a0, a2]
        · (try dsimp only); rw [show i + 1 - 1 = i from rfl, a0]; exact a3
        · rw [show i + 1 - 1 = i from rfl, a0]
          exact a4
  · rintro ⟨lm, fd, v⟩ ⟨h1, h2⟩ k
    dsimp only at h1 h2
    subst h1
    unfold pBench_bestWeight_L30 pBench_bestWeight_L30b
    try dsimp only
    refine ok_pos (by decide) (ok_some ?_)
    rcases h2 with ⟨a1, a2, a3⟩ | ⟨a0, a1, a2, a3⟩
    · have := a3 n0 (by omega)
      omega
    · exact a2
