/-! ===== calls: keep, again, mic, source, count, row, sign, end ===== -/
theorem st_kept : ∀ i : Fin 2, fm_sc (30 + 14 * i.val) = true := by decide
theorem x_keep {N : Nat} (hN : 4000 ≤ N) : cp_keep N RR := by
  intro n M1 M2 v1 hn hR
  obtain ⟨q, l, hg, hr, hS, hq, tC, tM, hl, hm⟩ := hR.opn hn
  rcases rng v1 0 1 (by decide) with ⟨b', rfl, b1, b2⟩ | c
  · obtain ⟨i, rfl⟩ : ∃ t : Nat, b' = (t : Int) := ⟨b'.toNat, by omega⟩
    have hi : i < 2 := by omega
    have ew : pMicRow_within M1 (nn i) 0 1 = some 1 := by rw [nn_ii]; exact wi_pos (rng_in ⟨b1, b2⟩ (by decide))
    have ew2 : pModel_in (fm_si M2 0 5 0) (nn i) 0 1 = some 1 := by rw [nn_ii]; exact in_pos (rng_in ⟨b1, b2⟩ (by decide))
    rw [← nn_ii]
    have hcl : ok (pMicRow_keep N M1 (nn i)) (fun x => x.1 = 1 ∧ fr (fun k => (30 + 14 * i ≤ k ∧ k < 44 + 14 * i) ∨ k = 58) M1 x.2 ∧ rS x.2 (30 + 14 * i) (M2.1 1) ∧ x.2.1 58 i = vp_nar .boolean 1 ∧ ∀ j, j ≠ i → x.2.1 58 j = M1.1 58 j) := by
      unfold pMicRow_keep
      refine ok_bindE ew (ok_neg (by decide) (ok_ix hi nL (ok_bind (cp_copyZ (by omega) (show fm_sc (30 + 14 * i) = true from st_kept ⟨i, hi⟩) (by decide) (by omega) hg hr) ?_)))
      rintro M3 ⟨f3, r3⟩
      have f13 : fr (fun k => (30 + 14 * i ≤ k ∧ k < 44 + 14 * i) ∨ k = 58) M1 (fm_si M3 58 i (vp_nar .boolean 1)) := (f3.up (B := fun k => (30 + 14 * i ≤ k ∧ k < 44 + 14 * i) ∨ k = 58) (fun k hk => Or.inl ⟨hk.1, by have := hk.2; omega⟩)).tr (fr.si (Or.inr rfl))
      refine ok_st hi nL (ok_some ⟨rfl, f13, r3.kept (fun a z1 z2 => si_row (by omega)) hg, si_same, fun j hj => ?_⟩)
      try dsimp only
      rw [si_col hj, f3.at1 (by (try dsimp only); omega)]
    have hmd : ok (pModel_keep N M2 (nn i)) (fun x => x.1 = 1 ∧ fr (fun k => k = 0 ∨ k = 17 ∨ k = 18) M2 x.2 ∧ (∀ j, j ≠ 5 → x.2.1 0 j = M2.1 0 j) ∧ (∀ k, k < 101 → x.2.1 17 (101 * i + k) = M2.1 1 k) ∧ (∀ c, c < 101 * i ∨ 101 * i + 101 ≤ c → x.2.1 17 c = M2.1 17 c) ∧ x.2.1 18 i = vp_nar .boolean 1 ∧ ∀ j, j ≠ i → x.2.1 18 j = M2.1 18 j) := by
      unfold pModel_keep
      refine ok_pt (ok_bindE ew2 (ok_neg (by decide) (ok_st hi nL ?_)))
      have ef : fr (fun k => k = 0 ∨ k = 17 ∨ k = 18) M2 (fm_si (fm_si M2 0 5 0) 18 i (vp_nar .boolean 1)) := (fr.si (A := fun k => k = 0 ∨ k = 17 ∨ k = 18) (by omega)).tr (fr.si (by omega))
      have ez : ∀ j, j ≠ 5 → (fm_si (fm_si M2 0 5 0) 18 i (vp_nar .boolean 1)).1 0 j = M2.1 0 j := fun j hj => by rw [si_row (by decide), si_col hj]
      have e18 : (fm_si (fm_si M2 0 5 0) 18 i (vp_nar .boolean 1)).1 18 i = vp_nar .boolean 1 := si_same
      have e18' : ∀ j, j ≠ i → (fm_si (fm_si M2 0 5 0) 18 i (vp_nar .boolean 1)).1 18 j = M2.1 18 j := fun j hj => by rw [si_col hj, si_row (by decide)]
      have e1 : (fm_si (fm_si M2 0 5 0) 18 i (vp_nar .boolean 1)).1 1 = M2.1 1 := by rw [si_row (by decide), si_row (by decide)]
      have e17 : (fm_si (fm_si M2 0 5 0) 18 i (vp_nar .boolean 1)).1 17 = M2.1 17 := by rw [si_row (by decide), si_row (by decide)]
      generalize fm_si (fm_si M2 0 5 0) 18 i (vp_nar .boolean 1) = M3 at *
      refine ok_for 101 (fun k t => t.1 = nn k ∧ fr (fun k => k = 17) M3 t.2 ∧ (∀ k', k' < k → t.2.1 17 (101 * i + k') = M2.1 1 k') ∧ ∀ c, c < 101 * i ∨ 101 * i + 101 ≤ c → t.2.1 17 c = M2.1 17 c) ?_ ?_ ⟨rfl, fr.rf, fun k z => absurd z (Nat.not_lt_zero _), fun c _ => by (try dsimp only); rw [e17]⟩ (by omega)
      · rintro k ⟨v, M4⟩ hk' ⟨a1, a2, a3, a4⟩ kk hk
        try dsimp only at a1 a2 a3 a4
        subst a1
        unfold pModel_keep_L25 pModel_keep_L25b
        try dsimp only
        refine ok_neg (by rw [show (101 : Int32) = nn 101 from rfl, nn_le nB nB]; omega) (ok_ld hk' nL ?_)
        rw [ix_101]
        refine ok_st (by omega) nL (hk _ ⟨nn_succ, a2.tr (fr.si rfl), ?_, ?_⟩)
        · intro k' z
          try dsimp only
          by_cases e : k' = k
          · subst e; rw [si_same, a2.at1 (by decide), e1]
          · rw [si_col (by omega)]; exact a3 k' (by omega)
        · intro c z
          try dsimp only
          rw [si_col (by omega)]; exact a4 c z
      · rintro ⟨v, M4⟩ ⟨a1, a2, a3, a4⟩ kk
        try dsimp only at a1 a2 a3 a4
        subst a1
        unfold pModel_keep_L25 pModel_keep_L25b
        try dsimp only
        exact ok_pos (by decide) (ok_some ⟨rfl, ef.tr (a2.up (fun k hk => by omega)), fun j hj => by (try dsimp only); rw [a2.at1 (by decide)]; exact ez j hj, a3, a4, by (try dsimp only); rw [a2.at1 (by decide)]; exact e18, fun j hj => by (try dsimp only); rw [a2.at1 (by decide)]; exact e18' j hj⟩)
    obtain ⟨⟨r1, M1'⟩, e1, c1, c2, c3, c4, c5⟩ := hcl
    obtain ⟨⟨r2, M2'⟩, e2, d1, d2, d3, d4, d5, d6, d7⟩ := hmd
    try dsimp only at c1 c2 c3 c4 c5 d1 d2 d3 d4 d5 d6 d7
    subst c1
    subst d1
    refine ⟨_, _, _, e1, e2, ?_⟩
    obtain ⟨⟨a1, a2⟩, a3, a4, a5, a6, a7, a8⟩ := hR
    have f1 : M2'.1 1 = M2.1 1 := d2.at1 (by decide)
    refine ⟨⟨by rw [f1]; exact a1, by rw [f1]; exact a2.kept (fun a z1 z2 => c2.1 a (by omega)) a1⟩, ?_, rTold_of (tC.kf c2 (by omega) (by omega)) (tM.z d2 (d3 4 (by decide)) (by decide)) hl, ?_, rPast_of a6 (fun a z1 z2 => c2.1 a (by omega)) c2.2.2 (d2.at1 (by decide)) (d3 25 (by decide)), rEars_of (hS.kf c2 (by omega) (by omega)) (by omega), ?_⟩
    · obtain ⟨k, k1, k2, k3, k4⟩ := a3
      refine ⟨k, k1, ?_, ?_, ?_⟩
      · rw [c2.1 173 (by omega)]; exact k2
      · rw [d3 2 (by decide)]; exact k3
      · rw [c2.1 174 (by omega), d2.at1 (k := 2) (by decide)]; exact k4
    · intro j hj
      by_cases e : j = i
      · subst e
        refine ⟨by rw [c4, d6], fun _ => ?_⟩
        have ek : ∀ k, k < 101 → gkept M2' j k = M2.1 1 k := fun k hk => d4 k hk
        exact ⟨gV_congr a1 ek, rS_congr a1 c3 ek⟩
      · obtain ⟨b1, b2⟩ := a5 j hj
        rw [c5 j e, d7 j e]
        refine ⟨b1, fun hne => ?_⟩
        obtain ⟨b3, b4⟩ := b2 hne
        have ek : ∀ k, k < 101 → gkept M2' j k = gkept M2 j k := fun k hk => d5 _ (by omega)
        exact ⟨gV_congr b3 ek, rS_congr b3 (b4.kept (fun a z1 z2 => c2.1 a (by omega)) b3) ek⟩
    · unfold rMod
      rw [d3 11 (by decide), d3 12 (by decide), d3 13 (by decide)]
      exact a8
  · refine cpq hR hq hl 0 ?_ ?_
    · unfold pMicRow_keep
      exact ok_bindE (wi_neg c) (ok_pos rfl (ok_some ⟨rfl, qC.same hS tC⟩))
    · unfold pModel_keep
      exact ok_pt (ok_bindE (in_neg c) (ok_pos rfl (ok_some ⟨rfl, qM.same tM⟩)))
theorem x_again {N : Nat} (hN : 4000 ≤ N) : cp_again N RR := by
  intro n M1 M2 v1 hn hR
  obtain ⟨q, l, hg, hr, hS, hq, tC, tM, hl, hm⟩ := hR.opn hn
  have hK := hR.2.2.2.1
  have hP := hR.2.2.2.2.1
  rcases rng v1 0 1 (by decide) with ⟨b', rfl, b1, b2⟩ | c
  · obtain ⟨i, rfl⟩ : ∃ t : Nat, b' = (t : Int) := ⟨b'.toNat, by omega⟩
    have hi : i < 2 := by omega
    obtain ⟨k1, k2⟩ := hK i hi
    have ew : pMicRow_within M1 (nn i) 0 1 = some 1 := by rw [nn_ii]; exact wi_pos (rng_in ⟨b1, b2⟩ (by decide))
    have ew2 : pModel_in (fm_si M2 0 5 0) (nn i) 0 1 = some 1 := by rw [nn_ii]; exact in_pos (rng_in ⟨b1, b2⟩ (by decide))
    rw [← nn_ii]
    by_cases h0 : M2.1 18 i = 0
    · refine cpq hR hq hl 0 ?_ ?_
      · unfold pMicRow_again
        exact ok_bindE ew (ok_neg (by decide) (ok_ld hi nL (ok_pos (by rw [k1]; exact h0) (ok_some ⟨rfl, qC.same hS tC⟩))))
      · unfold pModel_again
        exact ok_pt (ok_bindE ew2 (ok_neg (by decide) (ok_ld hi nL (ok_pos (by rw [si_row (by decide)]; exact h0) (ok_some ⟨rfl, qM.same tM⟩)))))
    · obtain ⟨g1, g2⟩ := k2 h0
      have hcl : ok (pMicRow_again N M1 (nn i)) (fun x => x.1 = 1 ∧ fr (fun k => (1 ≤ k ∧ k < 15) ∨ k = 59) M1 x.2 ∧ rS x.2 1 (gkept M2 i) ∧ x.2.1 59 1 = nn 0) := by
        unfold pMicRow_again
        refine ok_bindE ew (ok_neg (by decide) (ok_ld hi nL (ok_neg (by rw [k1]; exact h0) (ok_ix hi nL (ok_bind (cp_copyZ (by omega) (by decide) (show fm_sc (30 + 14 * i) = true from st_kept ⟨i, hi⟩) (by omega) g1 g2) ?_)))))
        rintro M3 ⟨f3, r3⟩
        unfold pPast_forget
        refine ok_bind (P := fun M => M = fm_si M3 59 1 0) (ok_pt (ok_some rfl)) ?_
        rintro M4 rfl
        exact ok_some ⟨rfl, (f3.up (fun k hk => by omega)).tr (fr.si (by omega)), r3.kept (fun a z1 z2 => si_row (by omega)) g1, si_same⟩
      have hmd : ok (pModel_again N M2 (nn i)) (fun x => x.1 = 1 ∧ fr (fun k => k = 0 ∨ k = 1) M2 x.2 ∧ (∀ j, j ≠ 5 → j ≠ 25 → x.2.1 0 j = M2.1 0 j) ∧ (∀ k, k < 101 → x.2.1 1 k = gkept M2 i k) ∧ x.2.1 0 25 = nn 0) := by
        unfold pModel_again
        refine ok_pt (ok_bindE ew2 (ok_neg (by decide) (ok_ld hi nL (ok_neg (by rw [si_row (by decide)]; exact h0) ?_))))
        refine ok_fill 1 101 (fun k => gkept M2 i k) ?_ ?_ (by omega)
        · intro k M4 hk h2 h3 kk
          unfold pModel_again_L27 pModel_again_L27b
          try dsimp only
          rw [if_neg (by rw [show (101 : Int32) = nn 101 from rfl, nn_le nB nB]; omega), ix_101, ldE (by omega) nL, stE hk nL, nn_succ, h2.at1 (k := 17) (by decide), si_row (by decide)]
          rfl
        · intro M4 h2 h3 kk
          unfold pModel_again_L27 pModel_again_L27b
          try dsimp only
          refine ok_pos (by decide) (ok_pt (ok_some ⟨rfl, ((fr.si (A := fun k => k = 0 ∨ k = 1) (Or.inl rfl)).tr (h2.up (fun k hk => Or.inr hk))).tr (fr.si (Or.inl rfl)), fun j z1 z2 => ?_, fun k hk => ?_, si_same⟩))
          · try dsimp only
            rw [si_col z2, h2.at1 (k := 0) (by decide), si_col z1]
          · try dsimp only
            rw [si_row (by decide)]; exact h3 k hk
      obtain ⟨⟨r1, M1'⟩, e1, c1, c2, c3, c4⟩ := hcl
      obtain ⟨⟨r2, M2'⟩, e2, d1, d2, d3, d4, d5⟩ := hmd
      try dsimp only at c1 c2 c3 c4 d1 d2 d3 d4 d5
      subst c1
      subst d1
      obtain ⟨m, _, _, _, p1, p2, _⟩ := hP
      have hp' : rPast M1' M2' := ⟨0, by decide, c4, d5, by rw [c2.2.2]; exact p1, by rw [c2.2.2]; exact p2, fun i hi => absurd hi (Nat.not_lt_zero _)⟩
      exact ⟨_, _, _, e1, e2, RR_ch hR (fun k hk => c2.1 k (by omega)) (c2.2.1 177 (by decide)) (fun k hk => d2.1 k (by omega)) (fun j hj => d3 j (by omega) (by omega)) (d2.2.1 3 (by decide)) (gV_congr g1 d4) (rS_congr g1 c3 d4) hp' (hS.kf c2 (by decide) (by decide)) (by omega)⟩
  · refine cpq hR hq hl 0 ?_ ?_
    · unfold pMicRow_again
      exact ok_bindE (wi_neg c) (ok_pos rfl (ok_some ⟨rfl, qC.same hS tC⟩))
    · unfold pModel_again
      exact ok_pt (ok_bindE (in_neg c) (ok_pos rfl (ok_some ⟨rfl, qM.same tM⟩)))
/-! what there is -/
theorem RR_0 {n q : Nat} {l : List Int64} {M1 M2 : fm_M} {v : Int32} (hR : RR n M1 M2) (hS : eS M1 q) (hq : q ≤ 100 * n) (tC : tdC M1 l) (tM : tdM M2 l) (hl : l.length ≤ 17) : RR (n + 1) M1 (fm_si M2 0 5 v) := RR_q hR hq hl (qC.same hS tC) (qM.same tM)
theorem RR_1 {n q : Nat} {l : List Int64} {M1 M2 : fm_M} (hR : RR n M1 M2) (hS : eS M1 q) (hq : q ≤ 100 * n) (tC : tdC M1 l) (tM : tdM M2 l) (hl : l.length ≤ 17) : RR (n + 1) M1 (fm_si (fm_si M2 0 5 0) 0 5 1) := RR_q hR hq hl (qC.same hS tC) (qM.lost tM).1
theorem th0 {M : fm_M} : pModel_thrown (fm_si M 0 5 0) = some 0 := congrArg some si_same
theorem th1 {M : fm_M} : pModel_thrown (fm_si (fm_si M 0 5 0) 0 5 1) = some 1 := congrArg some si_same
theorem x_mic {N : Nat} : cp_mic N RR := by
  intro n M1 M2 v1 v2 hn hR
  obtain ⟨q, l, hg, hr, hS, hq, tC, tM, hl, hm⟩ := hR.opn hn
  have e1 : (fm_si M2 0 5 0).1 1 = M2.1 1 := si_row (by decide)
  have hn6 := hg.n.2
  rcases mic_or hg hr v1 with ⟨m, hm1, rfl⟩ | ⟨c1, c2⟩
  · rcases rng v2 0 5 (by decide) with ⟨b', rfl, b1, b2⟩ | c
    · obtain ⟨w, rfl⟩ : ∃ t : Nat, b' = (t : Int) := ⟨b'.toNat, by omega⟩
      refine Or.inl ⟨M2.1 1 (1 + 6 * m + w), fm_si M2 0 5 0, ?_, ?_, th0, RR_0 hR hS hq tC tM hl⟩
      · unfold pMicRow_mic
        refine (bindE (cs_hasMic hg hr hm1)).trans ?_
        rw [if_neg (by decide)]
        refine (bindE (wi_pos (rng_in ⟨b1, b2⟩ (by decide)))).trans ?_
        rw [if_neg (by decide)]
        unfold pMicRow_mic_J25 pScene_ofMic
        refine (bindE dm1).trans ?_
        rw [cs_hasMic hg hr hm1]
        refine (bindE (r := M2.1 1 (1 + 6 * m + w)) ?_).trans rfl
        refine (bindE rfl).trans ?_
        rw [if_neg (by decide)]
        refine (bindE (wi_pos (rng_in ⟨b1, b2⟩ (by decide)))).trans ?_
        rw [if_neg (by decide), ← nn_ii, ixE (by omega) nL, ldE (by omega) nL, hr.mic w hm1 (by omega)]
      · unfold pModel_mic
        refine (bindE (md_isMic (by rw [e1]; exact hg) (by rw [e1]; exact hm1))).trans ?_
        rw [if_neg (by decide)]
        refine (bindE (in_pos (rng_in ⟨b1, b2⟩ (by decide)))).trans ?_
        rw [if_neg (by decide), ← nn_ii]
        refine (bindE (md_of w (by omega) (by omega))).trans ?_
        rw [e1]
    · refine Or.inr ⟨0, M1, fm_si (fm_si M2 0 5 0) 0 5 1, ?_, ?_, th1, RR_1 hR hS hq tC tM hl⟩
      · unfold tMicRow_mic
        refine (bindE (cs_hasMic hg hr hm1)).trans ?_
        rw [if_neg (by decide)]
        refine (bindE (wi_neg c)).trans ?_
        rw [if_pos rfl]
        unfold tMicRow_mic_J24 tMicRow_mic_J25
        rw [if_pos rfl]
      · unfold pModel_mic
        refine (bindE (md_isMic (by rw [e1]; exact hg) (by rw [e1]; exact hm1))).trans ?_
        rw [if_neg (by decide)]
        refine (bindE (in_neg c)).trans ?_
        rw [if_pos rfl]
        rfl
  · refine Or.inr ⟨0, M1, fm_si (fm_si M2 0 5 0) 0 5 1, ?_, ?_, th1, RR_1 hR hS hq tC tM hl⟩
    · unfold tMicRow_mic
      refine (bindE c1).trans ?_
      rw [if_pos rfl]
      unfold tMicRow_mic_J24 tMicRow_mic_J25
      rw [if_pos rfl]
    · unfold pModel_mic
      refine (bindE (c2 _ e1)).trans ?_
      rw [if_pos rfl]
      rfl
theorem cs_hasSource {M : fm_M} {g : Nat → Int32} (hg : gV g) (hr : rS M 1 g) {m : Nat} (hm : m < gs g) : pScene_hasSource M (nn m) = some 1 := by
  obtain ⟨en, hn6⟩ := hg.s
  unfold pScene_hasSource
  rw [if_neg (by rw [show (0 : Int32) = nn 0 from rfl, nn_lt nB nB]; omega), hr.s, en, if_neg (by rw [nn_le nB nB]; omega)]
theorem md_isSrc {M M' : fm_M} (hg : gV (M.1 1)) {m : Nat} (hm : m < gs (M.1 1)) : pModel_in M' (nn m) 0 ((M.1 1 40) - 1) = some 1 := by
  obtain ⟨en, hn6⟩ := hg.s
  refine in_pos ⟨?_, ?_⟩
  · rw [show (0 : Int32) = nn 0 from rfl, nn_le nB nB]; omega
  · rw [en, show (1 : Int32) = nn 1 from rfl, nn_sub (by omega), nn_le nB nB]; omega
theorem src_or {M1 : fm_M} {g : Nat → Int32} (hg : gV g) (hr : rS M1 1 g) (v : Int32) : (∃ m, m < gs g ∧ v = nn m) ∨ (pScene_hasSource M1 v = some 0 ∧ ∀ M' : fm_M, pModel_in M' v 0 (g 40 - 1) = some 0) := by
  obtain ⟨en, hn6⟩ := hg.s
  by_cases c : 0 ≤ v.toInt ∧ v.toInt < gs g
  · exact Or.inl ⟨v.toInt.toNat, by omega, by rw [← ii_nat c.1, ii_of]⟩
  · refine Or.inr ⟨?_, ?_⟩
    · unfold pScene_hasSource
      by_cases c1 : v < 0
      · rw [if_pos c1]
      · rw [if_neg c1, if_pos]
        rw [hr.s, en, Int32.le_iff_toInt_le, nn_toInt nB]
        rw [Int32.lt_iff_toInt_lt] at c1
        have : (0 : Int32).toInt = 0 := rfl
        omega
    · intro M'
      refine in_neg ?_
      rw [en, nn_ii, show (1 : Int32) = ii 1 from rfl, ii_sub, show (0 : Int32) = ii 0 from rfl, Int32.le_iff_toInt_le, Int32.le_iff_toInt_le, ii_toInt (by omega), ii_toInt (by omega)]
      omega
theorem cs_ofSource {M : fm_M} {g : Nat → Int32} (hg : gV g) (hr : rS M 1 g) {s w : Nat} (hs : s < gs g) (hw : w < 3 + gst g s) : pScene_ofSource M (nn s) (nn w) = some (g (41 + 15 * s + w)) := by
  have hs4 := hg.s.2
  have hst := gst_le hg hs
  unfold pScene_ofSource
  refine (bindE (cs_hasSource hg hr hs)).trans ?_
  rw [if_neg (by decide)]
  refine (bindE (wi_pos ⟨by rw [show (0 : Int32) = nn 0 from rfl, nn_le nB nB]; omega, by rw [show (14 : Int32) = nn 14 from rfl, nn_le nB nB]; omega⟩)).trans ?_
  rw [if_neg (by decide), ixE (by omega) nL, ldE (by omega) nL, hr.src hs hw]
theorem x_source {N : Nat} : cp_source N RR := by
  intro n M1 M2 v1 v2 hn hR
  obtain ⟨q, l, hg, hr, hS, hq, tC, tM, hl, hm⟩ := hR.opn hn
  have e1 : (fm_si M2 0 5 0).1 1 = M2.1 1 := si_row (by decide)
  have hs4 := hg.s.2
  rcases src_or hg hr v1 with ⟨s, hs1, rfl⟩ | ⟨c1, c2⟩
  · have hst := gst_le hg hs1
    have hst2 : 2 ≤ gst (M2.1 1) s ∧ M2.1 1 (43 + 15 * s) = nn (gst (M2.1 1) s) := by
      obtain ⟨a1, a2, a3⟩ := bd_nn (hg.src hs1).2.2.1 (by decide)
      exact ⟨by unfold gst; omega, a1⟩
    have e2 : pModel_ofSource (fm_si M2 0 5 0) (nn s) 2 = some (nn (gst (M2.1 1) s)) := by
      refine (md_src 2 (by omega) (by decide)).trans ?_
      rw [e1, show 41 + 15 * s + 2 = 43 + 15 * s by omega, hst2.2]
    have e2c : pScene_ofSource M1 (nn s) 2 = some (nn (gst (M2.1 1) s)) := by
      refine (cs_ofSource (w := 2) hg hr hs1 (by omega)).trans ?_
      rw [show 41 + 15 * s + 2 = 43 + 15 * s by omega, hst2.2]
    have ei : pModel_in (fm_si M2 0 5 0) (nn s) 0 (((fm_si M2 0 5 0).1 1 40) - 1) = some 1 := md_isSrc (by rw [e1]; exact hg) (by rw [e1]; exact hs1)
    by_cases hw : ∃ w : Nat, v2 = nn w ∧ w < 3 + gst (M2.1 1) s
    · obtain ⟨w, rfl, hw⟩ := hw
      refine Or.inl ⟨M2.1 1 (41 + 15 * s + w), fm_si M2 0 5 0, ?_, ?_, th0, RR_0 hR hS hq tC tM hl⟩
      · unfold pMicRow_source
        refine (bindE (cs_hasSource hg hr hs1)).trans ?_
        rw [if_neg (by decide), if_neg (by rw [show (0 : Int32) = nn 0 from rfl, nn_lt nB nB]; omega)]
        unfold pMicRow_source_J20
        refine (bindE dm1).trans ?_
        have h43 : pMicRow_source_J43 M1 (nn s) (nn w) = some (M2.1 1 (41 + 15 * s + w)) := by
          unfold pMicRow_source_J43 pMicRow_source_J48
          refine (bindE dm1).trans ?_
          exact (bindE (cs_ofSource hg hr hs1 hw)).trans rfl
        by_cases w3 : w < 3
        · rw [if_pos (by rw [show (3 : Int32) = nn 3 from rfl, nn_lt nB nB]; exact w3), h43]
        · rw [if_neg (by rw [show (3 : Int32) = nn 3 from rfl, nn_lt nB nB]; exact w3)]
          refine (bindE e2c).trans ?_
          rw [if_neg (by rw [show (3 : Int32) = nn 3 from rfl, nn_sub (by omega), nn_le nB nB]; omega), h43]
      · unfold pModel_source
        refine (bindE ei).trans ?_
        rw [if_neg (by decide)]
        refine (bindE e2).trans ?_
        refine (bindE (in_pos ⟨by rw [show (0 : Int32) = nn 0 from rfl, nn_le nB nB]; omega, by rw [show (2 : Int32) = nn 2 from rfl, nn_add, nn_le nB nB]; omega⟩)).trans ?_
        rw [if_neg (by decide)]
        refine (bindE (md_src w (by omega) (by omega))).trans ?_
        rw [e1]
    · have hw2 : ¬ (0 ≤ v2.toInt ∧ v2.toInt < 3 + gst (M2.1 1) s) := fun z => hw ⟨v2.toInt.toNat, by rw [← ii_nat z.1, ii_of], by omega⟩
      have e0 : (0 : Int32).toInt = 0 := rfl
      refine Or.inr ⟨0, M1, fm_si (fm_si M2 0 5 0) 0 5 1, ?_, ?_, th1, RR_1 hR hS hq tC tM hl⟩
      · unfold tMicRow_source
        refine (bindE (cs_hasSource hg hr hs1)).trans ?_
        rw [if_neg (by decide)]
        by_cases z : v2 < 0
        · rw [if_pos z]
          unfold tMicRow_source_J19 tMicRow_source_J20
          rw [if_pos rfl]
        · rw [if_neg z]
          rw [Int32.lt_iff_toInt_lt, e0] at z
          unfold tMicRow_source_J20
          rw [if_neg (by decide), if_neg (by rw [Int32.lt_iff_toInt_lt, show (3 : Int32).toInt = 3 from rfl]; omega)]
          refine (bindE e2c).trans ?_
          have hlt := Int32.toInt_lt v2
          have ev : v2 - 3 = ii (v2.toInt - 3) := by
            rw [← ii_sub, ii_of]; rfl
          rw [if_pos (by rw [ev, nn_ii, ii_le (by omega)]; omega)]
          unfold tMicRow_source_J48
          rw [if_pos rfl]
      · unfold pModel_source
        refine (bindE ei).trans ?_
        rw [if_neg (by decide)]
        refine (bindE e2).trans ?_
        refine (bindE (in_neg ?_)).trans ?_
        · rw [Int32.le_iff_toInt_le, Int32.le_iff_toInt_le, e0, show (2 : Int32) = nn 2 from rfl, nn_add, nn_toInt nB]
          omega
        · rw [if_pos rfl]
          rfl
  · refine Or.inr ⟨0, M1, fm_si (fm_si M2 0 5 0) 0 5 1, ?_, ?_, th1, RR_1 hR hS hq tC tM hl⟩
    · unfold tMicRow_source
      refine (bindE c1).trans ?_
      rw [if_pos rfl]
      unfold tMicRow_source_J19 tMicRow_source_J20
      rw [if_pos rfl]
    · unfold pModel_source
      refine (bindE (show pModel_in (fm_si M2 0 5 0) v1 0 (((fm_si M2 0 5 0).1 1 40) - 1) = some 0 by rw [e1]; exact c2 _)).trans ?_
      rw [if_pos rfl]
      rfl
theorem x_count {N : Nat} (hN : 4000 ≤ N) : cp_count N RR := by
  intro n M1 M2 v1 hn hR
  obtain ⟨q, l, hg, hr, hS, hq, tC, tM, hl, hm⟩ := hR.opn hn
  obtain ⟨m, u, p1, p2⟩ := hR.past
  obtain ⟨k, k1, k2, k3, k4⟩ := hR.2.1
  have e1 : (fm_si M2 0 5 0).1 1 = M2.1 1 := si_row (by decide)
  have ez : mq M2 (fm_si M2 0 5 0) := mq.rf.pt (by decide)
  have fin : ∀ r, pMicRow_count N M1 v1 = some r → pModel_count N M2 v1 = some (r, fm_si M2 0 5 0) → ∃ (r : Int32) (M2' : fm_M), pMicRow_count N M1 v1 = some r ∧ pModel_count N M2 v1 = some (r, M2') ∧ RR (n + 1) M1 M2' := fun r h1 h2 => ⟨r, _, h1, h2, RR_0 hR hS hq tC tM hl⟩
  by_cases c0 : v1 = 0
  · subst c0
    refine fin (M2.1 1 0) ?_ ?_
    · unfold pMicRow_count; rw [if_pos rfl, hr.n]
    · unfold pModel_count fm_pt; (try dsimp only); rw [if_pos rfl, e1]
  by_cases c1 : v1 = 1
  · subst c1
    refine fin (M2.1 1 40) ?_ ?_
    · unfold pMicRow_count; rw [if_neg c0, if_pos rfl, hr.s]
    · unfold pModel_count fm_pt; (try dsimp only); rw [if_neg c0, if_pos rfl, e1]
  by_cases c2 : v1 = 2
  · subst c2
    refine fin (nn (lvs (M2.1 1))) ?_ ?_
    · unfold pMicRow_count; rw [if_neg c0, if_neg c1, if_pos rfl]; exact (bindE (cs_live hN hg hr)).trans rfl
    · unfold pModel_count fm_pt; (try dsimp only); rw [if_neg c0, if_neg c1, if_pos rfl]; exact (bindE (ez.live hN hg)).trans rfl
  by_cases c3 : v1 = 3
  · subst c3
    refine fin (M2.1 1 37) ?_ ?_
    · unfold pMicRow_count; rw [if_neg c0, if_neg c1, if_neg c2, if_pos rfl, show M1.1 14 0 = M2.1 1 37 from hr.held (by decide)]
    · unfold pModel_count fm_pt; (try dsimp only); rw [if_neg c0, if_neg c1, if_neg c2, if_pos rfl, show ((37 : Int32) + 3) - 3 = nn 37 by decide, ldE (by decide) nL, e1]
  by_cases c4 : v1 = 4
  · subst c4
    refine fin (M2.1 1 38) ?_ ?_
    · unfold pMicRow_count; rw [if_neg c0, if_neg c1, if_neg c2, if_neg c3, if_pos rfl, ← show M1.1 14 1 = M2.1 1 38 from hr.held (by decide)]; rfl
    · unfold pModel_count fm_pt; (try dsimp only); rw [if_neg c0, if_neg c1, if_neg c2, if_neg c3, if_pos rfl, show ((37 : Int32) + 4) - 3 = nn 38 by decide, ldE (by decide) nL, e1]
  by_cases c5 : v1 = 5
  · subst c5
    refine fin (M2.1 1 39) ?_ ?_
    · unfold pMicRow_count; rw [if_neg c0, if_neg c1, if_neg c2, if_neg c3, if_neg c4, if_pos rfl, ← show M1.1 14 2 = M2.1 1 39 from hr.held (by decide)]; rfl
    · unfold pModel_count fm_pt; (try dsimp only); rw [if_neg c0, if_neg c1, if_neg c2, if_neg c3, if_neg c4, if_pos rfl, show ((37 : Int32) + 5) - 3 = nn 39 by decide, ldE (by decide) nL, e1]
  by_cases c6 : v1 = 6
  · subst c6
    refine fin (nn m) ?_ ?_
    · unfold pMicRow_count; rw [if_neg c0, if_neg c1, if_neg c2, if_neg c3, if_neg c4, if_neg c5, if_pos rfl, p1.2.1]
    · unfold pModel_count fm_pt; (try dsimp only); rw [if_neg c0, if_neg c1, if_neg c2, if_neg c3, if_neg c4, if_neg c5, if_pos rfl, si_col (by decide), p2.1]
  by_cases c7 : v1 = 7
  · subst c7
    refine fin (nn l.length) ?_ ?_
    · unfold pMicRow_count; rw [if_neg c0, if_neg c1, if_neg c2, if_neg c3, if_neg c4, if_neg c5, if_neg c6, if_pos rfl, tC.1]
    · unfold pModel_count fm_pt; (try dsimp only); rw [if_neg c0, if_neg c1, if_neg c2, if_neg c3, if_neg c4, if_neg c5, if_neg c6, if_pos rfl, si_col (by decide), tM.1]
  by_cases c8 : v1 = 8
  · subst c8
    refine fin (nn k) ?_ ?_
    · unfold pMicRow_count; rw [if_neg c0, if_neg c1, if_neg c2, if_neg c3, if_neg c4, if_neg c5, if_neg c6, if_neg c7, if_pos rfl, k2]
    · unfold pModel_count fm_pt; (try dsimp only); rw [if_neg c0, if_neg c1, if_neg c2, if_neg c3, if_neg c4, if_neg c5, if_neg c6, if_neg c7, if_pos rfl, si_col (by decide), k3]
  refine fin (-1) ?_ ?_
  · unfold pMicRow_count; rw [if_neg c0, if_neg c1, if_neg c2, if_neg c3, if_neg c4, if_neg c5, if_neg c6, if_neg c7, if_neg c8]
  · unfold pModel_count fm_pt; (try dsimp only); rw [if_neg c0, if_neg c1, if_neg c2, if_neg c3, if_neg c4, if_neg c5, if_neg c6, if_neg c7, if_neg c8]
theorem x_row {N : Nat} : cp_row N RR := by
  intro n M1 M2 v1 hn hR
  obtain ⟨q, l, hg, hr, hS, hq, tC, tM, hl, hm⟩ := hR.opn hn
  by_cases hw : ∃ w : Nat, v1 = nn w ∧ w < l.length
  · obtain ⟨w, rfl, hw⟩ := hw
    refine Or.inl ⟨l.getD w 0, fm_si M2 0 5 0, ?_, ?_, th0, RR_0 hR hS hq tC tM hl⟩
    · unfold pMicRow_row
      rw [if_neg (by rw [show (0 : Int32) = nn 0 from rfl, nn_lt nB nB]; omega), tC.1, if_neg (by rw [nn_le nB nB]; omega)]
      unfold pMicRow_row_J20
      refine (bindE dm1).trans ?_
      rw [ldlE (by omega) nL, tC.2 w hw]
    · unfold pModel_row
      refine (bindE (in_pos ⟨by rw [show (0 : Int32) = nn 0 from rfl, nn_le nB nB]; omega, by rw [si_col (by decide), tM.1, show (1 : Int32) = nn 1 from rfl, nn_sub (by omega), nn_le nB nB]; omega⟩)).trans ?_
      rw [if_neg (by decide), ldlE (by omega) nL]
      show some (M2.2.1 3 w, _) = _
      rw [tM.2 w hw]
  · have hw2 : ¬ (0 ≤ v1.toInt ∧ v1.toInt < l.length) := fun z => hw ⟨v1.toInt.toNat, by rw [← ii_nat z.1, ii_of], by omega⟩
    have e0 : (0 : Int32).toInt = 0 := rfl
    refine Or.inr ⟨(0 : Int32).toInt64, M1, fm_si (fm_si M2 0 5 0) 0 5 1, ?_, ?_, th1, RR_1 hR hS hq tC tM hl⟩
    · have hj : tMicRow_row_J19 M1 v1 = some M1 := by
        unfold tMicRow_row_J19 tMicRow_row_J20
        rw [if_pos rfl]
      unfold tMicRow_row
      by_cases z : v1 < 0
      · rw [if_pos z, hj]
      · rw [if_neg z]
        rw [Int32.lt_iff_toInt_lt, e0] at z
        rw [if_pos (by rw [tC.1, Int32.le_iff_toInt_le, nn_toInt nB]; omega), hj]
    · unfold pModel_row
      refine (bindE (in_neg ?_)).trans ?_
      · rw [Int32.le_iff_toInt_le, Int32.le_iff_toInt_le, e0, si_col (by decide), tM.1, nn_ii, show (1 : Int32) = ii 1 from rfl, ii_sub, ii_toInt (by omega)]
        omega
      · rw [if_pos rfl]
        rfl
