/-! ===== the class learns; what is taken off ===== -/
theorem sm_one {f h : Nat → Int32} {j : Nat} (e : ∀ i, i ≠ j → h i = f i) : ∀ {n : Nat}, j < n → sm h n + f j = sm f n + h j
  | 0, hj => absurd hj (Nat.not_lt_zero _)
  | n + 1, hj => by
    show (sm h n + h n) + f j = (sm f n + f n) + h j
    by_cases q : j = n
    · subst q
      rw [sm_congr (fun i hi => e i (by omega)), Int32.add_assoc, Int32.add_comm (h j), ← Int32.add_assoc]
    · have ih := sm_one e (show j < n by omega)
      rw [e n (by omega), Int32.add_assoc, Int32.add_comm (f n), ← Int32.add_assoc, ih, Int32.add_assoc, Int32.add_comm (h j), ← Int32.add_assoc]
theorem i_mv {a b c d : Int32} (h : a + b = c + d) : (c + -b) + d = a := by
  obtain ⟨za, rfl⟩ : ∃ z, a = ii z := ⟨_, (ii_of a).symm⟩
  obtain ⟨zb, rfl⟩ : ∃ z, b = ii z := ⟨_, (ii_of b).symm⟩
  obtain ⟨zc, rfl⟩ : ∃ z, c = ii z := ⟨_, (ii_of c).symm⟩
  obtain ⟨zd, rfl⟩ : ∃ z, d = ii z := ⟨_, (ii_of d).symm⟩
  have e : (ii zc + -ii zb) + ii zd = (ii zc + ii zd) - ii zb := by
    rw [ii_neg, ii_add, ii_add, ii_add, ii_sub]
    congr 1
    omega
  rw [e, ← h, ii_add, ii_sub]
  congr 1
  omega
theorem sm_upd {K : Nat → Int32} {w : Nat → Int32} {j W : Nat} {x : Int32} (hj : j < W) : (sm (fun j' => w j' * K j') W + (-(w j)) * K j) + x * K j = sm (fun j' => upd w j x j' * K j') W := by
  have h := sm_one (f := fun j' => w j' * K j') (h := fun j' => upd w j x j' * K j') (j := j) (fun i hi => by (try dsimp only); unfold upd; rw [if_neg hi]) hj
  try dsimp only at h
  rw [show upd w j x j = x by unfold upd; rw [if_pos rfl]] at h
  rw [Int32.neg_mul]
  exact i_mv h
theorem sm_zero {K : Nat → Int32} : ∀ W, sm (fun j => (0 : Int32) * K j) W = 0
  | 0 => rfl
  | W + 1 => by
    show sm _ W + (0 : Int32) * K W = _
    rw [sm_zero W, Int32.zero_mul]
    rfl
theorem upd_same {w : Nat → Int32} {j : Nat} : upd w j (w j) = w := by
  funext i
  unfold upd
  split
  · rename_i h; rw [h]
  · rfl
theorem wt_fix {B : Nat → Int32} {K : Nat → Nat → Int32} {W L r : Nat} (h : rd B K W L (wt B K W L r) W = wt B K W L r) : ∀ d, wt B K W L (r + d) = wt B K W L r
  | 0 => rfl
  | d + 1 => by
    show rd B K W L (wt B K W L (r + d)) W = _
    rw [wt_fix h d]
    exact h
def lnR (k : Nat) : Prop := k = 198 ∨ k = 199
def lnv (M0 : fm_M) (W L : Nat) (w : Nat → Int32) (M : fm_M) : Prop := fr lnR M0 M ∧ (∀ j, j < W → M.1 198 j = w j) ∧ ∀ i, i < L → M.1 199 i = sm (fun j => w j * M0.1 (192 + j) i) W
theorem cs_learn {N : Nat} {M : fm_M} {L W : Nat} (hN : 4000 ≤ N) (hL : M.1 181 10 = nn L) (hW : M.1 181 9 = nn W) (hB : okB (M.1 190) (fun j i => M.1 (192 + j) i) W L) : ok (pBench_learn N M) (fun M' => fr lnR M M' ∧ ∀ j, j < W → M'.1 198 j = wt (M.1 190) (fun j i => M.1 (192 + j) i) W L 3 j) := by
  have hW5 := hB.1
  have hL1 := hB.2.1
  have hL48 := hB.2.2.1
  unfold pBench_learn
  refine ok_bind (cs_fill (n := 5) hN (by decide +kernel) (by decide +kernel) (by decide)) ?_
  rintro M1 ⟨f1, v1⟩
  refine ok_bind (cs_fill (n := 48) hN (by decide +kernel) (by decide +kernel) (by decide)) ?_
  rintro M2 ⟨f2, v2⟩
  have k0 : lnv M W L (wt (M.1 190) (fun j i => M.1 (192 + j) i) W L 0) M2 := by
    refine ⟨(f1.up (fun k hk => by unfold lnR; omega)).tr (f2.up (fun k hk => by unfold lnR; omega)), ?_, ?_⟩
    · intro j hj
      rw [f2.at1 (by decide)]
      exact v1 j (by omega)
    · intro i hi
      rw [v2 i (by omega)]
      exact (sm_zero W).symm
  refine ok_for 3 (fun r t => t.2.1 = nn r ∧ lnv M W L (wt (M.1 190) (fun j i => M.1 (192 + j) i) W L r) t.2.2 ∧ (t.1 = 1 ∨ (t.1 = 0 ∧ rd (M.1 190) (fun j i => M.1 (192 + j) i) W L (wt (M.1 190) (fun j i => M.1 (192 + j) i) W L r) W = wt (M.1 190) (fun j i => M.1 (192 + j) i) W L r))) ?_ ?_ ⟨rfl, k0, Or.inl rfl⟩ (by omega)
  · rintro r ⟨c, v, M3⟩ hr ⟨h1, h2, h3⟩ k hk
    try dsimp only at h1 h2 h3
    subst h1
    unfold pBench_learn_L20 pBench_learn_L20b
    try dsimp only
    refine ok_neg (by rw [show (3 : Int32) = nn 3 from rfl, nn_le nB nB]; omega) ?_
    rcases h3 with rfl | ⟨rfl, hfix⟩
    · refine ok_neg (by decide) ?_
      generalize hw0 : wt (M.1 190) (fun j i => M.1 (192 + j) i) W L r = w0 at h2
      have hbw0 : bw w0 := by rw [← hw0]; exact bw_wt r
      refine ok_for W (fun j t => t.2.1 = nn j ∧ lnv M W L (rd (M.1 190) (fun j i => M.1 (192 + j) i) W L w0 j) t.2.2 ∧ (t.1 = 1 ∨ (t.1 = 0 ∧ rd (M.1 190) (fun j i => M.1 (192 + j) i) W L w0 j = w0))) ?_ ?_ ⟨rfl, (by exact h2), Or.inr ⟨rfl, rfl⟩⟩ (by omega)
      · rintro j ⟨c, v, M4⟩ hj ⟨i1, i2, i3⟩ k2 hk2
        try dsimp only at i1 i2 i3
        subst i1
        have hwb : bw (rd (M.1 190) (fun j i => M.1 (192 + j) i) W L w0 j) := bw_rd hbw0 j
        have erd : rd (M.1 190) (fun j i => M.1 (192 + j) i) W L w0 (j + 1) = lr (M.1 190) (fun j i => M.1 (192 + j) i) W L (rd (M.1 190) (fun j i => M.1 (192 + j) i) W L w0 j) j := rfl
        generalize hw : rd (M.1 190) (fun j i => M.1 (192 + j) i) W L w0 j = w at i2 i3 hwb erd
        obtain ⟨k1, k2', k3⟩ := i2
        have e181 : M4.1 181 = M.1 181 := k1.at1 (by unfold lnR; omega)
        obtain ⟨n0, hn0, ew⟩ := hwb j
        unfold pBench_learn_L33 pBench_learn_L33b
        try dsimp only
        refine ok_neg (by rw [e181, hW, nn_le nB nB]; omega) ?_
        refine ok_ld (by omega) nL ?_
        rw [k2' j hj]
        refine ok_bind (cs_addToTaken (L := L) hN (by rw [e181]; exact hL) hL48 (by omega)) ?_
        rintro M5 ⟨f5, v5⟩
        have e5 : M5.1 181 = M.1 181 := by rw [f5.at1 (by decide)]; exact e181
        have eK : M5.1 (192 + j) = M.1 (192 + j) := by rw [f5.at1 (by (try dsimp only); omega)]; exact k1.at1 (by unfold lnR; omega)
        have eB : M5.1 190 = M.1 190 := by rw [f5.at1 (by decide)]; exact k1.at1 (by unfold lnR; omega)
        have eT : ∀ i, i < L → M5.1 199 i = sm (fun j => w j * M.1 (192 + j) i) W + (-(w j)) * M.1 (192 + j) i := by
          intro i hi
          rw [v5 i hi, k3 i hi, k1.at1 (by unfold lnR; omega)]
        rw [ew]
        refine ok_bind (cs_bestWeight (L := L) hN (by rw [e5]; exact hL) ⟨hL1, hL48⟩ (by omega) hn0 (fun n i => cl (M.1 190) (fun j i => M.1 (192 + j) i) (upd w j (bs n)) W i) ?_ (fun n hn => hB.ns (bw_upd hwb hn))) ?_
        · intro n i hi
          rw [eT i hi, eK, eB]
          unfold cl
          rw [← sm_upd (K := fun j => M.1 (192 + j) i) hj]
        rintro best hbest
        have hbest2 : best = bs (am (fun n => cP (M.1 190) (fun j i => M.1 (192 + j) i) W L (upd w j (bs n))) 32) := hbest
        clear hbest
        have elr : lr (M.1 190) (fun j i => M.1 (192 + j) i) W L w j = upd w j best := by rw [hbest2]; rfl
        refine ok_st (by omega) nL (ok_ld (by omega) nL ?_)
        rw [si_same]
        refine ok_bind (cs_addToTaken (L := L) hN (by rw [si_row (by decide), e5]; exact hL) hL48 (by omega)) ?_
        rintro M6 ⟨f6, v6⟩
        have k6 : lnv M W L (upd w j best) M6 := by
          refine ⟨((k1.tr (f5.up (fun k hk => by unfold lnR; omega))).tr (fr.si (by unfold lnR; omega))).tr (f6.up (fun k hk => by unfold lnR; omega)), ?_, ?_⟩
          · intro j' z
            rw [f6.at1 (by decide)]
            unfold upd
            by_cases e : j' = j
            · subst e; rw [si_same, if_pos rfl]
            · rw [si_col e, f5.at1 (by decide), if_neg e]; exact k2' j' z
          · intro i hi
            rw [v6 i hi, si_row (by decide), si_row (by omega), eT i hi, eK]
            exact sm_upd (K := fun j => M.1 (192 + j) i) hj
        have e198 : M6.1 198 j = best := by
          rw [k6.2.1 j hj]
          unfold upd
          rw [if_pos rfl]
        rw [← elr, ← erd] at k6
        rw [nn_succ]
        rcases i3 with rfl | ⟨rfl, hsame⟩
        · exact ok_neg (by decide) (hk2 _ ⟨rfl, k6, Or.inl rfl⟩)
        · refine ok_pos rfl (ok_ld (by omega) nL ?_)
          rw [e198]
          refine ok_ite (fun hc => hk2 _ ⟨rfl, k6, Or.inr ⟨rfl, ?_⟩⟩) (fun hc => hk2 _ ⟨rfl, k6, Or.inl rfl⟩)
          rw [erd, elr, hc, ← ew, upd_same]
          exact hsame
      · rintro ⟨c, v, M4⟩ ⟨i1, i2, i3⟩ k2
        try dsimp only at i1 i2 i3
        subst i1
        have e181 : M4.1 181 = M.1 181 := i2.1.at1 (by unfold lnR; omega)
        unfold pBench_learn_L33 pBench_learn_L33b
        try dsimp only
        refine ok_pos (by rw [e181, hW, nn_le nB nB]; omega) (hk _ ⟨nn_succ, ?_, ?_⟩)
        · show lnv M W L (rd _ _ W L (wt _ _ W L r) W) M4
          rw [hw0]
          exact i2
        · rcases i3 with rfl | ⟨rfl, hsame⟩
          · exact Or.inl rfl
          · refine Or.inr ⟨rfl, ?_⟩
            show rd _ _ W L (rd _ _ W L (wt _ _ W L r) W) W = rd _ _ W L (wt _ _ W L r) W
            rw [hw0, hsame, hsame]
    · refine ok_pos rfl (ok_some ⟨h2.1, ?_⟩)
      intro j hj
      rw [h2.2.1 j hj]
      have e := wt_fix hfix (3 - r)
      rw [show r + (3 - r) = 3 by omega] at e
      rw [e]
  · rintro ⟨c, v, M3⟩ ⟨h1, h2, h3⟩ k
    try dsimp only at h1 h2 h3
    subst h1
    unfold pBench_learn_L20 pBench_learn_L20b
    try dsimp only
    exact ok_pos (by decide) (ok_some ⟨h2.1, h2.2.1⟩)
theorem cs_takeOff {N : Nat} {M : fm_M} {L W : Nat} (hN : 4000 ≤ N) (hL : M.1 181 10 = nn L) (hW : M.1 181 9 = nn W) (hW5 : W ≤ 5) (hL2 : L ≤ 48) : ok (pBench_takeOff N M) (fun M' => fr (fun k => k = 197) M M' ∧ ∀ i, i < L → M'.1 197 i = cl (M.1 190) (fun j i => M.1 (192 + j) i) (M.1 198) W i) := by
  unfold pBench_takeOff
  refine ok_fill 197 L (fun i => cl (M.1 190) (fun j i => M.1 (192 + j) i) (M.1 198) W i) ?_ ?_ (by omega)
  · intro i M1 hi h2 h3 kk
    have e181 : M1.1 181 = M.1 181 := h2.at1 (by decide)
    unfold pBench_takeOff_L2 pBench_takeOff_L2b
    try dsimp only
    rw [e181, hL, if_neg (by rw [nn_le nB nB]; omega)]
    refine lp_for W (fun j => (sm (fun j => M.1 198 j * M.1 (192 + j) i) j, nn j)) _ ?_ ?_ (by omega)
    · intro j hj k
      unfold pBench_takeOff_L14 pBench_takeOff_L14b
      try dsimp only
      rw [e181, hW, if_neg (by rw [nn_le nB nB]; omega), ldE (by omega) nL, ixE (by omega) nL, ldE (by omega) nL, nn_succ, h2.at1 (k := 198) (by decide), h2.at1 (k := 192 + j) (by (try dsimp only); omega)]
      rfl
    · intro k
      unfold pBench_takeOff_L14 pBench_takeOff_L14b
      try dsimp only
      rw [e181, hW, if_pos (by rw [nn_le nB nB]; omega), ldE (by omega) nL, stE (by omega) nL, nn_succ, h2.at1 (k := 190) (by decide)]
      rfl
  · intro M1 h2 h3 kk
    unfold pBench_takeOff_L2 pBench_takeOff_L2b
    try dsimp only
    exact ok_pos (by rw [h2.at1 (k := 181) (by decide), hL, nn_le nB nB]; omega) (ok_some ⟨h2, h3⟩)
/-! over the SPAN: what the class's helpers come to -/
theorem cs_turnSpan {N : Nat} {M : fm_M} {g : Nat → Int32} {A : Nat → Bool} {q : Nat} {b : Int} (hN : 4000 ≤ N) (hE : cE M g A q) (hb : -8 ≤ b ∧ b ≤ 8) : ok (pMicRow_turnOverSpan N M (ii b)) (fun M' => fr tnR M M' ∧ cE M' g A q ∧ M'.1 181 10 = nn (gl g) ∧ M'.1 181 9 = M.1 181 9 ∧ ∀ m i, m < gn g → i < gl g → M'.1 (183 + m) i = tr g (smp g A) m b ((gb g : Int) + i)) := by
  have hg := hE.1
  have hl := hg.l
  have hB := hg.b
  unfold pMicRow_turnOverSpan
  refine ok_bindE rfl (ok_bindE rfl ?_)
  rw [show M.1 14 1 = ii (gb g : Int) from ((hE.2.1.held (by decide)).trans hB.1).trans (nn_ii _), show M.1 14 2 = nn (gl g) from (hE.2.1.held (by decide)).trans hl.1]
  refine ok_bind (cs_turnTo hN hE hb (by omega) (by omega)) ?_
  rintro M1 ⟨h1, h2, h3, h4, h5⟩
  exact ok_some ⟨h1, h2, h3, h4, h5⟩
/-- the bench shows beam and blocked ones of a set -/
def bnR (k : Nat) : Prop := tnR k ∨ k = 190 ∨ bkR k
theorem cs_mixblock {N : Nat} {M : fm_M} {g : Nat → Int32} {A : Nat → Bool} {q s L : Nat} {b t0 : Int} (hN : 4000 ≤ N) (hE : cE M g A q) (hL : M.1 181 10 = nn L) (h1 : 1 ≤ L ∧ L ≤ 48) (hs : s < 2 ^ gn g) (hT : ∀ m i, m < gn g → i < L → M.1 (183 + m) i = tr g (smp g A) m b (t0 + i)) {Q : fm_M → Prop} {K : fm_M → Option fm_M} (hk : ∀ M2, fr (fun k => k = 190 ∨ bkR k) M M2 → cE M2 g A q → M2.1 181 10 = nn L → M2.1 181 9 = nn (pop s - 1) → (∀ i, i < L → M2.1 190 i = bm (fun m => tr g (smp g A) m b (t0 + i)) s) → (∀ j i, j < pop s - 1 → i < L → M2.1 (192 + j) i = bk (fun m => tr g (smp g A) m b (t0 + i)) s j) → ok (K M2) Q) : ok ((pBench_mix N M (nn s)).bind (fun M1 => (pBench_block N M1 (nn s)).bind K)) Q := by
  have hg := hE.1
  have hn6 := hg.n.2
  have h64 := set_64 hs hn6
  refine ok_bind (cs_mix hN hL h1.2 h64) ?_
  rintro M1 ⟨f1, v1⟩
  refine ok_bind (cs_block (L := L) hN (by rw [f1.at1 (by decide)]; exact hL) h1.2 h64) ?_
  rintro M2 ⟨f2, l2, w2, v2⟩
  have f12 : fr (fun k => k = 190 ∨ bkR k) M M2 := (f1.up (fun k hk => Or.inl hk)).tr (f2.up (fun k hk => Or.inr hk))
  refine hk M2 f12 (hE.fr f12 (fun a ha => by unfold bkR; omega)) l2 w2 ?_ ?_
  · intro i hi
    rw [f2.at1 (by unfold bkR; omega), v1 i hi]
    exact bm_congr (fun m hm => hT m i (set_bit hs hm) hi)
  · intro j i hj hi
    rw [v2 j i (by omega) hi]
    unfold bk
    (try dsimp only)
    have b1 := lva_lt hs hn6 (j := j) (by omega)
    have b2 := lva_lt hs hn6 (j := j + 1) (by omega)
    rw [f1.at1 (by (try dsimp only); omega), f1.at1 (by (try dsimp only); omega), hT _ i (lva_lt hs hn6 (by omega)) hi, hT _ i (lva_lt hs hn6 (by omega)) hi]
