/-! ===== the class's bench ===== -/
theorem arI {f : Int → Int32} {a b : Int} (h : a = b) : f a = f b := by rw [h]
theorem cs_setLength {M : fm_M} {L : Nat} (h1 : 1 ≤ L) (h2 : L ≤ 48) : pBench_setLength M (nn L) = some (fm_si M 181 10 (nn L)) := by
  unfold pBench_setLength pMicRow_clamp
  refine (bindE rfl).trans ?_
  have e : jmax 1 (jmin 48 (nn L)) = nn L := by
    have e1 : jmin 48 (nn L) = nn L := by
      show (if nn L < nn 48 then nn L else nn 48) = nn L
      by_cases h : L = 48
      · subst h; rfl
      · rw [if_pos (by rw [nn_lt nB nB]; omega)]
    rw [e1]
    show (if nn 1 < nn L then nn L else nn 1) = nn L
    by_cases h : L = 1
    · subst h; rfl
    · rw [if_pos (by rw [nn_lt nB nB]; omega)]
  rw [e]
  rfl
def tnR (k : Nat) : Prop := k = 179 ∨ k = 180 ∨ k = 181 ∨ (183 ≤ k ∧ k < 189)
theorem tnR_n {k : Nat} (h : k ≠ 179 ∧ k ≠ 180 ∧ k ≠ 181 ∧ (k < 183 ∨ 189 ≤ k)) : ¬ tnR k := by unfold tnR; omega
theorem cs_turnTo {N : Nat} {M : fm_M} {g : Nat → Int32} {A : Nat → Bool} {q L : Nat} {b t0 : Int} (hN : 4000 ≤ N) (hE : cE M g A q) (hb : -8 ≤ b ∧ b ≤ 8) (ht : -200 ≤ t0 ∧ t0 ≤ 200) (hL : 1 ≤ L ∧ L ≤ 48) : ok (pBench_turnTo N M (ii b) (ii t0) (nn L)) (fun M' => fr tnR M M' ∧ cE M' g A q ∧ M'.1 181 10 = nn L ∧ M'.1 181 9 = M.1 181 9 ∧ ∀ m i, m < gn g → i < L → M'.1 (183 + m) i = tr g (smp g A) m b (t0 + i)) := by
  have hg := hE.1
  obtain ⟨en, hn6⟩ := hg.n
  unfold pBench_turnTo
  refine ok_bindE (cs_setLength hL.1 hL.2) ?_
  have E0 : cE (fm_si M 181 10 (nn L)) g A q := hE.kept (fun a ha => si_row (by omega))
  refine ok_for (gn g) (fun m s => s.1 = nn m ∧ fr tnR M s.2 ∧ cE s.2 g A q ∧ s.2.1 181 10 = nn L ∧ s.2.1 181 9 = M.1 181 9 ∧ ∀ m' i, m' < m → i < L → s.2.1 (183 + m') i = tr g (smp g A) m' b (t0 + i)) ?_ ?_ ⟨rfl, fr.si (by unfold tnR; omega), E0, si_same, si_col (by decide), fun m' i h => absurd h (Nat.not_lt_zero _)⟩ (by omega)
  · rintro m ⟨v, M1⟩ hm ⟨h1, h2, h3, h4, h5, h6⟩ k hk
    dsimp only at h1 h2 h3 h4 h5 h6
    subst h1
    have hr1 := h3.2.1
    have hp := (hg.mic hm).1
    have hx := mul_bd ⟨hp.1, hp.2⟩ hb
    unfold pBench_turnTo_L8 pBench_turnTo_L8b
    try dsimp only
    refine ok_neg (by rw [hr1.n, en, nn_le nB nB]; omega) ?_
    refine ok_ld (by omega) nL ?_
    rw [show M1.1 3 m = ii (g (1 + 6 * m)).toInt from (hr1.mic 0 hm (by decide)).trans (ii_of _).symm, ii_mul]
    generalize hX : (g (1 + 6 * m)).toInt * b = X at hx ⊢
    rw [nb_shr3 (by omega), nb_and7, ii_add]
    refine ok_bind (cs_at hN h3 hm (by omega)) ?_
    rintro ⟨x0, M2⟩ ⟨a1, a2, a3⟩
    dsimp only at a1 a2 a3 ⊢
    refine ok_for L (fun i s => s.1 = smp g A m (t0 + X / 8 + i) ∧ s.2.1 = nn i ∧ fr tnR M s.2.2 ∧ cE s.2.2 g A q ∧ s.2.2.1 181 10 = nn L ∧ s.2.2.1 181 9 = M.1 181 9 ∧ (∀ m' i, m' < m → i < L → s.2.2.1 (183 + m') i = tr g (smp g A) m' b (t0 + i)) ∧ ∀ i', i' < i → s.2.2.1 (183 + m) i' = tr g (smp g A) m b (t0 + i')) ?_ ?_ ⟨a1.trans (arI (f := smp g A m) (by omega)), rfl, h2.tr (a2.up (fun k hk => by unfold tnR; omega)), a3, by rw [a2.at1 (by decide)]; exact h4, by rw [a2.at1 (by decide)]; exact h5, fun m' i z1 z2 => by rw [a2.at1 (by (try dsimp only); omega)]; exact h6 m' i z1 z2, fun i' z => absurd z (Nat.not_lt_zero _)⟩ (by omega)
    · rintro i ⟨nx, v, M3⟩ hi ⟨i1, i2, i3, i4, i5, i6, i7, i8⟩ k2 hk2
      dsimp only at i1 i2 i3 i4 i5 i6 i7 i8
      subst i1
      subst i2
      unfold pBench_turnTo_L67 pBench_turnTo_L67b
      try dsimp only
      refine ok_neg (by rw [i5, nn_le nB nB]; omega) ?_
      rw [nn_ii i, show (1 : Int32) = ii 1 from rfl, ii_add, ii_add, ← nn_ii i]
      refine ok_bind (cs_at hN i4 hm (by omega)) ?_
      rintro ⟨x1, M4⟩ ⟨b1, b2, b3⟩
      dsimp only at b1 b2 b3 ⊢
      refine ok_ix (by omega) nL (ok_ld (by omega) nL (ok_st (by omega) nL (hk2 _ ⟨?_, ?_, ?_, ?_, ?_, ?_, ?_, ?_⟩)))
      · try dsimp only
        exact b1.trans (arI (f := smp g A m) (by omega))
      · show nn i + nn 1 = _
        exact nn_succ
      · exact (i3.tr (b2.up (fun k hk => by unfold tnR; omega))).tr (fr.si (by unfold tnR; omega))
      · exact b3.kept (fun a ha => si_row (by omega))
      · try dsimp only
        rw [si_row (by omega), b2.at1 (by decide)]
        exact i5
      · try dsimp only
        rw [si_row (by omega), b2.at1 (by decide)]
        exact i6
      · intro m' i' z1 z2
        try dsimp only
        rw [si_row (by omega), b2.at1 (by (try dsimp only); omega)]
        exact i7 m' i' z1 z2
      · intro i' z
        try dsimp only
        by_cases e : i' = i
        · subst e
          rw [si_same, b1, show M4.1 6 m = g (4 + 6 * m) from (b3.2.1.mic 3 hm (by decide)).trans (ar (by omega))]
          unfold tr
          rw [hX, show t0 + X / 8 + (i' : Int) = t0 + (i' : Int) + X / 8 by omega]
        · rw [si_col e, b2.at1 (by (try dsimp only); omega)]
          exact i8 i' (by omega)
    · rintro ⟨nx, v, M3⟩ ⟨i1, i2, i3, i4, i5, i6, i7, i8⟩ k2
      dsimp only at i1 i2 i3 i4 i5 i6 i7 i8
      subst i2
      unfold pBench_turnTo_L67 pBench_turnTo_L67b
      try dsimp only
      refine ok_pos (by rw [i5, nn_le nB nB]; omega) (hk _ ⟨nn_succ, i3, i4, i5, i6, ?_⟩)
      intro m' i' z1 z2
      try dsimp only
      by_cases e : m' = m
      · subst e; exact i8 i' z2
      · exact i7 m' i' (by omega) z2
  · rintro ⟨v, M1⟩ ⟨h1, h2, h3, h4, h5, h6⟩ k
    dsimp only at h1 h2 h3 h4 h5 h6
    subst h1
    unfold pBench_turnTo_L8 pBench_turnTo_L8b
    try dsimp only
    exact ok_pos (by rw [h3.2.1.n, en, nn_le nB nB]; omega) (ok_some ⟨h2, h3, h4, h5, h6⟩)
theorem bm_congr {T U : Nat → Int32} {s : Nat} (e : ∀ m, s.testBit m = true → T m = U m) : bm T s = bm U s := by
  have h : sm (fun m => if s.testBit m then T m else 0) 6 = sm (fun m => if s.testBit m then U m else 0) 6 := by
    refine sm_congr (fun m _ => ?_)
    try dsimp only
    cases h : s.testBit m
    · rfl
    · rw [if_pos rfl, if_pos rfl]; exact e m h
  unfold bm
  rw [h]
theorem cs_mix {N : Nat} {M : fm_M} {L s : Nat} (hN : 4000 ≤ N) (hL : M.1 181 10 = nn L) (hL2 : L ≤ 48) (hs : s < 64) : ok (pBench_mix N M (nn s)) (fun M' => fr (fun k => k = 190) M M' ∧ ∀ i, i < L → M'.1 190 i = bm (fun m => M.1 (183 + m) i) s) := by
  have hp := pop_le hs
  unfold pBench_mix
  refine ok_bindE (bt_count hs) ?_
  refine ok_fill 190 L (fun i => bm (fun m => M.1 (183 + m) i) s) ?_ ?_ (by omega)
  · intro i M1 hi h2 h3 kk
    unfold pBench_mix_L7 pBench_mix_L7b
    try dsimp only
    rw [h2.at1 (k := 181) (by decide), hL, if_neg (by rw [nn_le nB nB]; omega)]
    refine lp_for 6 (fun m => (sm (fun m => if s.testBit m then M.1 (183 + m) i else 0) m, nn m)) _ ?_ ?_ (by omega)
    · intro m hm k
      unfold pBench_mix_L21 pBench_mix_L21b
      try dsimp only
      rw [if_neg (by rw [show (6 : Int32) = nn 6 from rfl, nn_le nB nB]; omega), nn_succ]
      show _ = k (_ + (if s.testBit m = true then M.1 (183 + m) i else 0), _)
      cases h : s.testBit m
      · rw [if_pos ((bt_at hs (by omega)).mpr h), if_neg (by decide), Int32.add_zero]
      · rw [if_neg (fun q => by rw [(bt_at hs (by omega)).mp q] at h; cases h), if_pos rfl, ixE (by omega) nL, ldE (by omega) nL, h2.at1 (k := 183 + m) (by (try dsimp only); omega)]
    · intro k
      unfold pBench_mix_L21 pBench_mix_L21b
      try dsimp only
      rw [if_pos (by decide)]
      have hJ : ∀ x, pBench_mix_J74 N M1 (nn s) (nn (pop s)) (nn i) kk (nn i) x = kk (nn (i + 1), fm_si M1 190 i x) := by
        intro x
        unfold pBench_mix_J74
        rw [stE (by omega) nL, nn_succ]
      unfold bm
      by_cases h0 : s = 0
      · subst h0
        rw [if_pos rfl, if_pos (by decide), hJ]
      · rw [if_neg h0, if_neg (nn_ne0 (pop_pos hs h0) (by omega)), nzE (nn_ne0 (pop_pos hs h0) (by omega)), hJ]
  · intro M1 h2 h3 kk
    unfold pBench_mix_L7 pBench_mix_L7b
    try dsimp only
    exact ok_pos (by rw [h2.at1 (k := 181) (by decide), hL, nn_le nB nB]; omega) (ok_some ⟨h2, h3⟩)
/-! what is blocked -/
def cnt (s m : Nat) : Nat := pop (s % 2 ^ m)
theorem st_cnt : ∀ s : Fin 64, ∀ m : Fin 6, cnt s (m + 1) = cnt s m + (if s.val.testBit m then 1 else 0) ∧ (s.val.testBit m = true → lva s (cnt s m) = m.val) ∧ cnt s m ≤ pop s ∧ cnt s m ≤ 5 := by decide +kernel
theorem st_cnt0 : ∀ s : Fin 64, cnt s 0 = 0 ∧ cnt s 6 = pop s := by decide +kernel
theorem st_lva6 : ∀ s : Fin 64, ∀ j : Fin 6, j.val < pop s → lva s j < 6 := by decide +kernel
theorem cs_blockBetween {N : Nat} {M : fm_M} {L a b c : Nat} (hN : 4000 ≤ N) (hL : M.1 181 10 = nn L) (hL2 : L ≤ 48) (ha : fm_n shC a = 48) (hb : fm_n shC b = 48) (hc : fm_n shC c = 48) (h1 : c ≠ 181) (h2 : c ≠ a) (h3 : c ≠ b) : ok (pBench_blockBetween N M a b c) (fun M' => fr (fun k => k = c) M M' ∧ ∀ i, i < L → M'.1 c i = M.1 a i - M.1 b i) := by
  unfold pBench_blockBetween
  refine ok_fill c L (fun i => M.1 a i - M.1 b i) ?_ ?_ (by omega)
  · intro i M1 hi g2 g3 kk
    unfold pBench_blockBetween_L3 pBench_blockBetween_L3b
    try dsimp only
    rw [g2.at1 (k := 181) (fun e => h1 e.symm), hL, if_neg (by rw [nn_le nB nB]; omega), ha, hb, hc, ldE (by omega) nL, ldE (by omega) nL, stE (by omega) nL, nn_succ, g2.at1 (k := a) (fun e => h2 e.symm), g2.at1 (k := b) (fun e => h3 e.symm)]
  · intro M1 g2 g3 kk
    unfold pBench_blockBetween_L3 pBench_blockBetween_L3b
    try dsimp only
    exact ok_pos (by rw [g2.at1 (k := 181) (fun e => h1 e.symm), hL, nn_le nB nB]; omega) (ok_some ⟨g2, g3⟩)
def bkR (k : Nat) : Prop := k = 181 ∨ (192 ≤ k ∧ k < 197)
theorem cs_block {N : Nat} {M : fm_M} {L s : Nat} (hN : 4000 ≤ N) (hL : M.1 181 10 = nn L) (hL2 : L ≤ 48) (hs : s < 64) : ok (pBench_block N M (nn s)) (fun M' => fr bkR M M' ∧ M'.1 181 10 = nn L ∧ M'.1 181 9 = nn (pop s - 1) ∧ ∀ j i, j + 1 < pop s → i < L → M'.1 (192 + j) i = bk (fun m => M.1 (183 + m) i) s j) := by
  have hp := pop_le hs
  unfold pBench_block
  refine ok_pt ?_
  refine ok_for 6 (fun m t => t.1 = (if cnt s m = 0 then -1 else nn (lva s (cnt s m - 1))) ∧ t.2.1 = nn m ∧ fr bkR M t.2.2 ∧ t.2.2.1 181 10 = nn L ∧ t.2.2.1 181 9 = nn (cnt s m - 1) ∧ ∀ j i, j + 1 < cnt s m → i < L → t.2.2.1 (192 + j) i = bk (fun m => M.1 (183 + m) i) s j) ?_ ?_ ?_ (by omega)
  · rintro m ⟨v, u, M1⟩ hm ⟨h1, h2, h3, h4, h5, h6⟩ k hk
    dsimp only at h1 h2 h3 h4 h5 h6
    subst h2
    obtain ⟨c1, c2, c3, c4⟩ := st_cnt ⟨s, hs⟩ ⟨m, hm⟩
    dsimp only at c1 c2 c3 c4
    unfold pBench_block_L9 pBench_block_L9b
    try dsimp only
    refine ok_neg (by rw [show (6 : Int32) = nn 6 from rfl, nn_le nB nB]; omega) ?_
    rw [nn_succ]
    cases hb : s.testBit m
    · rw [hb] at c1
      simp at c1
      refine ok_pos ((bt_at hs (by omega)).mpr hb) (hk _ ⟨?_, rfl, h3, h4, ?_, ?_⟩)
      · (try dsimp only); rw [c1]; exact h1
      · (try dsimp only); rw [c1]; exact h5
      · (try dsimp only); rw [c1]; exact h6
    · rw [hb] at c1
      simp at c1
      have c5 := c2 hb
      refine ok_neg (fun q => by rw [(bt_at hs (by omega)).mp q] at hb; cases hb) ?_
      by_cases c0 : cnt s m = 0
      · rw [if_pos c0] at h1
        refine ok_pos h1 (hk _ ⟨?_, rfl, h3, h4, ?_, ?_⟩)
        · try dsimp only
          rw [c1, c0, if_neg (by decide)]
          rw [c0] at c5
          rw [show 0 + 1 - 1 = 0 from rfl, c5]
        · try dsimp only
          rw [h5, c1, c0]
        · intro j i z
          omega
      · rw [if_neg c0] at h1
        have hv6 : lva s (cnt s m - 1) < 6 := by
          have hpop : cnt s m ≤ pop s := c3
          exact st_lva6 ⟨s, hs⟩ ⟨cnt s m - 1, by omega⟩ (by (try dsimp only); omega)
        subst h1
        refine ok_neg (by rw [show (-1 : Int32) = ii (-1) from rfl, nn_ii, ii_inj (by omega)]; omega) ?_
        refine ok_ix hv6 nL (ok_ix hm nL ?_)
        rw [h5]
        refine ok_ix (by omega) nL ?_
        refine ok_bind (cs_blockBetween hN h4 hL2 (sh48a ⟨_, hv6⟩) (sh48a ⟨m, hm⟩) (sh48b ⟨cnt s m - 1, by omega⟩) (by omega) (by omega) (by omega)) ?_
        rintro M2 ⟨f2, v2⟩
        refine ok_pt (hk _ ⟨?_, rfl, ?_, ?_, ?_, ?_⟩)
        · try dsimp only
          rw [c1, if_neg (by omega), show cnt s m + 1 - 1 = cnt s m by omega, c5]
        · exact (h3.tr (f2.up (fun k hk => by unfold bkR; omega))).tr (fr.si (by unfold bkR; omega))
        · try dsimp only
          rw [si_col (by decide), f2.at1 (by (try dsimp only); omega)]
          exact h4
        · try dsimp only
          rw [si_same, f2.at1 (by (try dsimp only); omega), h5, c1, nn_succ]
          congr 1
          omega
        · intro j i z1 z2
          try dsimp only
          rw [si_row (by omega)]
          by_cases e : j = cnt s m - 1
          · subst e
            rw [v2 i z2]
            unfold bk
            rw [show cnt s m - 1 + 1 = cnt s m by omega, c5, h3.at1 (by unfold bkR; omega), h3.at1 (by unfold bkR; omega)]
          · rw [f2.at1 (by (try dsimp only); omega)]
            exact h6 j i (by omega) z2
  · rintro ⟨v, u, M1⟩ ⟨h1, h2, h3, h4, h5, h6⟩ k
    dsimp only at h1 h2 h3 h4 h5 h6
    subst h2
    have e6 : cnt s 6 = pop s := (st_cnt0 ⟨s, hs⟩).2
    rw [e6] at h5 h6
    unfold pBench_block_L9 pBench_block_L9b
    try dsimp only
    exact ok_pos (by decide) (ok_some ⟨h3, h4, h5, h6⟩)
  · have e0 : cnt s 0 = 0 := (st_cnt0 ⟨s, hs⟩).1
    refine ⟨?_, rfl, fr.si (by unfold bkR; omega), ?_, ?_, ?_⟩
    · try dsimp only
      rw [e0]
      rfl
    · try dsimp only
      rw [si_col (by decide)]
      exact hL
    · try dsimp only
      rw [si_same, e0]
      rfl
    · intro j i z
      omega
/-! what is heard -/
theorem cs_hear {N : Nat} {M : fm_M} {g : Nat → Int32} {A : Nat → Bool} {q L m : Nat} {t0 : Int} (hN : 4000 ≤ N) (hE : cE M g A q) (hm : m < gn g) (ht : -200 ≤ t0 ∧ t0 ≤ 200) (hL : 1 ≤ L ∧ L ≤ 48) : ok (pBench_hear N M (nn m) (ii t0) (nn L)) (fun M' => fr (fun k => k = 179 ∨ k = 180 ∨ k = 181 ∨ k = 189) M M' ∧ cE M' g A q ∧ M'.1 181 10 = nn L ∧ ∀ i, i < L → M'.1 189 i = smp g A m (t0 + i)) := by
  unfold pBench_hear
  refine ok_bindE (cs_setLength hL.1 hL.2) ?_
  refine ok_for L (fun i s => s.1 = nn i ∧ fr (fun k => k = 179 ∨ k = 180 ∨ k = 181 ∨ k = 189) M s.2 ∧ cE s.2 g A q ∧ s.2.1 181 10 = nn L ∧ ∀ j, j < i → s.2.1 189 j = smp g A m (t0 + j)) ?_ ?_ ⟨rfl, fr.si (by omega), hE.kept (fun a ha => si_row (by omega)), si_same, fun j z => absurd z (Nat.not_lt_zero _)⟩ (by omega)
  · rintro i ⟨v, M1⟩ hi ⟨h1, h2, h3, h4, h5⟩ k hk
    dsimp only at h1 h2 h3 h4 h5
    subst h1
    unfold pBench_hear_L8 pBench_hear_L8b
    try dsimp only
    refine ok_neg (by rw [h4, nn_le nB nB]; omega) ?_
    rw [nn_ii i, ii_add, ← nn_ii i]
    refine ok_bind (cs_at hN h3 hm (by omega)) ?_
    rintro ⟨x, M2⟩ ⟨a1, a2, a3⟩
    dsimp only at a1 a2 a3 ⊢
    refine ok_st (by omega) nL (hk _ ⟨nn_succ, ?_, ?_, ?_, ?_⟩)
    · exact (h2.tr (a2.up (fun k hk => by omega))).tr (fr.si (by omega))
    · exact a3.kept (fun a ha => si_row (by omega))
    · try dsimp only
      rw [si_row (by decide), a2.at1 (by decide)]
      exact h4
    · intro j z
      try dsimp only
      by_cases e : j = i
      · subst e
        rw [si_same, a1]
      · rw [si_col e, a2.at1 (by decide)]
        exact h5 j (by omega)
  · rintro ⟨v, M1⟩ ⟨h1, h2, h3, h4, h5⟩ k
    dsimp only at h1 h2 h3 h4 h5
    subst h1
    unfold pBench_hear_L8 pBench_hear_L8b
    try dsimp only
    exact ok_pos (by rw [h4, nn_le nB nB]; omega) (ok_some ⟨h2, h3, h4, h5⟩)
theorem cs_powerOf {N : Nat} {M : fm_M} {L : Nat} (hN : 4000 ≤ N) (v : Nat) (hv : fm_n shC v = 48) (hi : fm_ia shC v = true) (hL : M.1 181 10 = nn L) (h1 : 1 ≤ L ∧ L ≤ 48) : pBench_powerOf N M v = some (pw (M.1 v) L) := by
  have hJ : ∀ x, pBench_powerOf_J41 N M x = some (x / (nn L).toInt64) := by
    intro x
    unfold pBench_powerOf_J41
    rw [hL, nzlE (nn_ne0l (by omega) (by omega))]
  unfold pBench_powerOf
  refine lp_for L (fun i => (sl (fun i => (M.1 v i).toInt64 * (M.1 v i).toInt64) i, nn i)) _ ?_ ?_ (by omega)
  · intro i hi2 k
    unfold pBench_powerOf_L5 pBench_powerOf_L5b
    try dsimp only
    rw [hL, if_neg (by rw [nn_le nB nB]; omega), rqE hi, hv, if_neg (by show ¬ nn 48 ≤ nn i; rw [nn_le nB nB]; omega), ldE (by omega) nL, ldE (by omega) nL, nn_succ]
    rfl
  · intro k
    unfold pBench_powerOf_L5 pBench_powerOf_L5b
    try dsimp only
    rw [hL, if_pos (by rw [nn_le nB nB]; omega), hJ]
    rfl
theorem cs_levelOf {N : Nat} {M : fm_M} {L : Nat} (hN : 4000 ≤ N) (v : Nat) (hv : fm_n shC v = 48) (hi : fm_ia shC v = true) (hL : M.1 181 10 = nn L) (h1 : 1 ≤ L ∧ L ≤ 48) : pBench_levelOf N M v = some (lvl (M.1 v) L) := by
  have hJ : ∀ x, pBench_levelOf_J33 N M x = some (x / nn L) := by
    intro x
    unfold pBench_levelOf_J33
    rw [hL, nzE (nn_ne0 (by omega) (by omega))]
  unfold pBench_levelOf
  refine lp_for L (fun i => (sm (fun i => jabs (M.1 v i)) i, nn i)) _ ?_ ?_ (by omega)
  · intro i hi2 k
    unfold pBench_levelOf_L4 pBench_levelOf_L4b
    try dsimp only
    rw [hL, if_neg (by rw [nn_le nB nB]; omega), rqE hi, hv, if_neg (by show ¬ nn 48 ≤ nn i; rw [nn_le nB nB]; omega), ldE (by omega) nL, nn_succ]
    rfl
  · intro k
    unfold pBench_levelOf_L4 pBench_levelOf_L4b
    try dsimp only
    rw [hL, if_pos (by rw [nn_le nB nB]; omega), hJ]
    rfl
theorem cs_isLive {M : fm_M} {g : Nat → Int32} (hg : gV g) (hr : rS M 1 g) {m : Nat} (hm : m < gn g) : pScene_isLive M (nn m) = some (if g (6 + 6 * m) = 0 then 1 else 0) := by
  have hn6 := hg.n.2
  unfold pScene_isLive
  refine (bindE (cs_hasMic hg hr hm)).trans ?_
  rw [if_neg (by decide), ldE (by omega) nL, show M.1 8 m = g (6 + 6 * m) from (hr.mic 5 hm (by decide)).trans (ar (by omega))]
  split <;> rfl
theorem cs_live {N : Nat} {M : fm_M} {g : Nat → Int32} (hN : 4000 ≤ N) (hg : gV g) (hr : rS M 1 g) : pScene_liveSet N M = some (nn (lvs g)) := by
  obtain ⟨en, hn6⟩ := hg.n
  unfold pScene_liveSet
  refine lp_for (gn g) (fun i => (nn (bset (fun m => g (6 + 6 * m) == 0) i), nn i)) _ ?_ ?_ (by omega)
  · intro i hi k
    unfold pScene_liveSet_L4 pScene_liveSet_L4b
    try dsimp only
    rw [hr.n, en, if_neg (by rw [nn_le nB nB]; omega)]
    refine (bindE (cs_isLive hg hr hi)).trans ?_
    by_cases h : g (6 + 6 * i) = 0
    · rw [if_pos h, if_neg (by decide), (bset_step (by omega)).1 (by simp [h]), nn_succ]
    · rw [if_neg h, if_pos rfl, (bset_step (by omega)).2 (by simp [h]), nn_succ]
  · intro k
    unfold pScene_liveSet_L4 pScene_liveSet_L4b
    try dsimp only
    rw [hr.n, en, if_pos (by rw [nn_le nB nB]; omega)]
    rfl
theorem cs_liveCount {N : Nat} {M : fm_M} {g : Nat → Int32} (hN : 4000 ≤ N) (hg : gV g) (hr : rS M 1 g) : pScene_liveCount N M = some (nn (pop (lvs g))) := by
  unfold pScene_liveCount
  refine (bindE (cs_live hN hg hr)).trans ?_
  exact (bindE (bt_count (lvs_lt hg))).trans rfl
