/-! ===== what is noted, undone, kept ===== -/
theorem md_lay {N : Nat} {M : fm_M} (hN : 4000 ≤ N) : ok (pModel_lay N M) (fun M' => fr (fun k => k = 14) M M' ∧ ∀ k, k < 101 → M'.1 14 k = M.1 1 k) := by
  unfold pModel_lay
  refine ok_fill 14 101 (fun k => M.1 1 k) ?_ ?_ (by omega)
  · intro i M3 hi h2 h3 kk
    unfold pModel_lay_L2 pModel_lay_L2b
    try dsimp only
    rw [if_neg (by rw [show (101 : Int32) = nn 101 from rfl, nn_le nB nB]; omega), ldE hi nL, stE hi nL, nn_succ, h2.at1 (k := 1) (by decide)]
  · intro M3 h2 h3 kk
    unfold pModel_lay_L2 pModel_lay_L2b
    try dsimp only
    exact ok_pos (by decide) (ok_some ⟨h2, h3⟩)
theorem ix_101 (j i : Nat) : (101 * nn j) + nn i = nn (101 * j + i) := by
  rw [show (101 : Int32) = nn 101 from rfl, nn_mul, nn_add]
def ntR (k : Nat) : Prop := k = 0 ∨ k = 13
theorem md_noteJ {N : Nat} {M : fm_M} {n : Nat} {u : Nat → Nat → Int32} {g : Nat → Int32} (hN : 4000 ≤ N) (hn : n < 8) (h : pM M n u) (hg : ∀ k, k < 101 → M.1 14 k = g k) : ok (pModel_note_J49 N M) (fun M' => fr ntR M M' ∧ (∀ j, j ≠ 25 → M'.1 0 j = M.1 0 j) ∧ pM M' (n + 1) (fun i => if i = n then g else u i)) := by
  unfold pModel_note_J49
  refine ok_for 101 (fun i t => t.1 = nn i ∧ fr (fun k => k = 13) M t.2 ∧ (∀ k, k < i → t.2.1 13 (101 * n + k) = g k) ∧ ∀ c, c < 101 * n → t.2.1 13 c = M.1 13 c) ?_ ?_ ⟨rfl, fr.rf, fun k z => absurd z (Nat.not_lt_zero _), fun c _ => rfl⟩ (by omega)
  · rintro i ⟨v, M3⟩ hi ⟨a1, a2, a3, a4⟩ k hk
    try dsimp only at a1 a2 a3 a4
    subst a1
    unfold pModel_note_L51 pModel_note_L51b
    try dsimp only
    refine ok_neg (by rw [show (101 : Int32) = nn 101 from rfl, nn_le nB nB]; omega) (ok_ld hi nL ?_)
    rw [a2.at1 (k := 0) (by decide), h.1, ix_101]
    refine ok_st (by omega) nL (hk _ ⟨nn_succ, a2.tr (fr.si rfl), ?_, ?_⟩)
    · intro k z
      try dsimp only
      by_cases e : k = i
      · subst e
        rw [si_same, a2.at1 (k := 14) (by decide)]
        exact hg k hi
      · rw [si_col (by omega)]
        exact a3 k (by omega)
    · intro c z
      try dsimp only
      rw [si_col (by omega)]
      exact a4 c z
  · rintro ⟨v, M3⟩ ⟨a1, a2, a3, a4⟩ k
    try dsimp only at a1 a2 a3 a4
    subst a1
    unfold pModel_note_L51 pModel_note_L51b
    try dsimp only
    refine ok_pos (by decide) (ok_pt (ok_some ⟨(a2.up (fun k hk => Or.inr hk)).tr (fr.si (Or.inl rfl)), fun j hj => by rw [si_col hj, a2.at1 (by decide)], ?_, ?_⟩))
    · rw [si_same, a2.at1 (k := 0) (by decide), h.1, nn_succ]
    · intro i k hi hk
      rw [si_row (by decide)]
      try dsimp only
      by_cases e : i = n
      · subst e
        rw [if_pos rfl]
        exact a3 k hk
      · rw [if_neg e, a4 _ (by omega)]
        exact h.2 i k (by omega) hk
theorem md_note {N : Nat} {M : fm_M} {n : Nat} {u : Nat → Nat → Int32} {g : Nat → Int32} (hN : 4000 ≤ N) (hn : n ≤ 8) (h : pM M n u) (hg : ∀ k, k < 101 → M.1 14 k = g k) : ok (pModel_note N M) (fun M' => fr ntR M M' ∧ (∀ j, j ≠ 25 → M'.1 0 j = M.1 0 j) ∧ pM M' (nx n) (ux n u g)) := by
  unfold pModel_note
  by_cases c : n = 8
  · subst c
    refine ok_pos h.1 ?_
    refine ok_fill2 13 707 (fun k => M.1 13 (k + 101)) ?_ ?_ (by omega)
    · intro i M3 hi h2 h3 kk
      unfold pModel_note_L11 pModel_note_L11b
      try dsimp only
      rw [if_neg (by rw [show (707 : Int32) = nn 707 from rfl, nn_le nB nB]; omega), show nn i + 101 = nn (i + 101) from nn_add (i := i) (j := 101), ldE (by omega) nL, stE (by omega) nL, nn_succ, h3 (i + 101) (by omega)]
    · intro M3 h2 h3 h4 kk
      unfold pModel_note_L11 pModel_note_L11b
      try dsimp only
      refine ok_pos (by decide) (ok_pt ?_)
      have p7 : pM (fm_si M3 0 25 (M3.1 0 25 - 1)) 7 (fun i => u (i + 1)) := by
        refine ⟨?_, ?_⟩
        · rw [si_same, h2.at1 (by decide), h.1]
          exact nn_sub (i := 8) (j := 1) (by decide)
        · intro i k hi hk
          rw [si_row (by decide), h3 _ (by omega), show 101 * i + k + 101 = 101 * (i + 1) + k by omega]
          exact h.2 (i + 1) k (by omega) hk
      refine ok_mono (md_noteJ hN (by decide) p7 (g := g) (fun k hk => by rw [si_row (by decide), h2.at1 (by decide)]; exact hg k hk)) ?_
      rintro M4 ⟨f4, z4, p4⟩
      refine ⟨((h2.up (B := ntR) (fun k hk => Or.inr hk)).tr (fr.si (Or.inl rfl))).tr f4, fun j hj => by rw [z4 j hj, si_col hj, h2.at1 (by decide)], p4⟩
  · refine ok_neg (by rw [h.1, show (8 : Int32) = nn 8 from rfl, nn_inj nB nB]; exact c) ?_
    refine ok_mono (md_noteJ hN (by omega) h hg) ?_
    rintro M4 ⟨f4, z4, p4⟩
    refine ⟨f4, z4, ?_⟩
    have e : ux n u g = (fun i => if i = n then g else u i) := by
      funext i
      show (if n = 8 then _ else _) = _
      rw [if_neg c]
    rw [e, show nx n = n + 1 from if_neg c]
    exact p4
def chR (k : Nat) : Prop := k = 0 ∨ k = 13 ∨ k = 14
theorem md_change {N : Nat} {M : fm_M} {n : Nat} {u : Nat → Nat → Int32} (hN : 4000 ≤ N) (hn : n ≤ 8) (h : pM M n u) : ok (pModel_change N M) (fun M' => fr chR M M' ∧ (∀ j, j ≠ 25 → M'.1 0 j = M.1 0 j) ∧ pM M' (nx n) (ux n u (M.1 1))) := by
  unfold pModel_change
  refine ok_bind (md_lay hN) ?_
  rintro M3 ⟨f3, v3⟩
  have p3 : pM M3 n u := by
    unfold pM
    rw [f3.at1 (k := 0) (by decide), f3.at1 (k := 13) (by decide)]
    exact h
  refine ok_bind (md_note hN hn p3 v3) ?_
  rintro M4 ⟨f4, z4, p4⟩
  exact ok_some ⟨(f3.up (fun k hk => by unfold chR; omega)).tr (f4.up (fun k hk => by unfold ntR at hk; unfold chR; omega)), fun j hj => by rw [z4 j hj, f3.at1 (by decide)], p4⟩
theorem pC.kf {P : Nat → Prop} {M M' : fm_M} {n : Nat} {u : Nat → Nat → Int32} (h : pC M n u) (hf : fr P M M') (hP : ∀ k, 59 ≤ k → k < 173 → ¬ P k) : pC M' n u := by
  obtain ⟨h0, h1, h2, h3, h4⟩ := h
  refine ⟨h0, by rw [hf.1 59 (hP 59 (by omega) (by omega))]; exact h1, by rw [hf.2.2]; exact h2, by rw [hf.2.2]; exact h3, fun i hi => ?_⟩
  obtain ⟨b1, b2⟩ := h4 i hi
  obtain ⟨j, hj, ej⟩ := h2 i (by omega)
  rw [hf.2.2]
  exact ⟨b1, b2.kept (fun a z1 z2 => hf.1 a (hP a (by omega) (by omega))) b1⟩
theorem pM.kf {P : Nat → Prop} {M M' : fm_M} {n : Nat} {u : Nat → Nat → Int32} (h : pM M n u) (hf : fr P M M') (hz : M'.1 0 25 = M.1 0 25) (hP : ¬ P 13) : pM M' n u := by
  unfold pM
  rw [hz, hf.1 13 hP]
  exact h
/-- a change is done, or taken back -/
theorem cs_settleNo {N : Nat} {M : fm_M} {g : Nat → Int32} {r : Int32} (hN : 4000 ≤ N) (hg : gV g) (h : rS M 15 g) (hr : ¬ 0 ≤ r) : ok (pMicRow_settleChange N M r) (fun x => x.1 = r ∧ fr (fun k => 1 ≤ k ∧ k < 15) M x.2 ∧ rS x.2 1 g) := by
  unfold pMicRow_settleChange
  refine ok_neg hr (ok_bind (cp_copyZ (by omega) (by decide) (by decide) (by decide) hg h) ?_)
  rintro M3 ⟨f3, r3⟩
  exact ok_some ⟨rfl, f3.up (fun k hk => by omega), r3⟩
theorem cs_settleYes {N : Nat} {M : fm_M} {n : Nat} {u : Nat → Nat → Int32} {g : Nat → Int32} {r : Int32} (hN : 4000 ≤ N) (hg : gV g) (h : rS M 15 g) (hp : pC M n u) (hr : 0 ≤ r) : ok (pMicRow_settleChange N M r) (fun x => x.1 = r ∧ fz (fun k => 59 ≤ k ∧ k < 173) M x.2 ∧ pC x.2 (nx n) (ux n u g)) := by
  unfold pMicRow_settleChange
  refine ok_pos hr (ok_bind (cs_push hN hp hg h) ?_)
  rintro M3 ⟨f3, p3⟩
  exact ok_some ⟨rfl, f3, p3⟩
theorem cs_before {N : Nat} {M : fm_M} {g : Nat → Int32} (hN : 4000 ≤ N) (hg : gV g) (h : rS M 1 g) : ok (pScene_copyFrom N M 15 1) (fun M' => fr (fun k => 15 ≤ k ∧ k < 29) M M' ∧ rS M' 15 g ∧ rS M' 1 g) := by
  refine ok_mono (cp_copyZ (by omega) (by decide) (by decide) (by decide) hg h) ?_
  rintro M' ⟨f, r⟩
  exact ⟨f.up (fun k hk => by omega), r, h.kept (fun a z1 z2 => f.1 a (by omega)) hg⟩
theorem RR_ch {n q : Nat} {M1 M2 M1' M2' : fm_M} (h : RR n M1 M2) (f1 : ∀ k, (30 ≤ k ∧ k < 59) ∨ (173 ≤ k ∧ k < 178) → M1'.1 k = M1.1 k) (fl : M1'.2.1 177 = M1.2.1 177) (m2 : ∀ k, k = 2 ∨ k = 17 ∨ k = 18 → M2'.1 k = M2.1 k) (mz : ∀ j, j = 2 ∨ j = 4 ∨ j = 11 ∨ j = 12 ∨ j = 13 → M2'.1 0 j = M2.1 0 j) (ml : M2'.2.1 3 = M2.2.1 3) (hg : gV (M2'.1 1)) (hr : rS M1' 1 (M2'.1 1)) (hp : rPast M1' M2') (he : eS M1' q) (hq : q ≤ 100 * (n + 1)) : RR (n + 1) M1' M2' := by
  obtain ⟨⟨a1, a2⟩, a3, a4, a5, a6, a7, a8⟩ := h
  refine ⟨⟨hg, hr⟩, ?_, ?_, rKept_of a5 (fun a b1 b2 => f1 a (by omega)) (m2 17 (by omega)) (m2 18 (by omega)), hp, rEars_of he hq, ?_⟩
  · obtain ⟨k, k1, k2, k3, k4⟩ := a3
    refine ⟨k, k1, ?_, ?_, ?_⟩
    · rw [f1 173 (by omega)]; exact k2
    · rw [mz 2 (by omega)]; exact k3
    · rw [f1 174 (by omega), m2 2 (by omega)]; exact k4
  · obtain ⟨k, k1, k2, k3, k4⟩ := a4
    refine ⟨k, k1, ?_, ?_, ?_⟩
    · rw [f1 176 (by omega)]; exact k2
    · rw [mz 4 (by omega)]; exact k3
    · rw [fl, ml]; exact k4
  · unfold rMod
    rw [mz 11 (by omega), mz 12 (by omega), mz 13 (by omega)]
    exact a8
theorem eS.kf {P : Nat → Prop} {M M' : fm_M} {q : Nat} (h : eS M q) (hf : fr P M M') (h1 : ¬ P 178) (h2 : ¬ P 180) : eS M' q := by
  unfold eS
  rw [hf.1 178 h1, hf.1 180 h2]
  exact h
theorem eS.zf {P : Nat → Prop} {M M' : fm_M} {q : Nat} (h : eS M q) (hf : fz P M M') (h1 : ¬ P 178) (h2 : ¬ P 180) : eS M' q := by
  unfold eS
  rw [hf.1 178 h1, hf.1 180 h2]
  exact h
theorem RR.past {n : Nat} {M1 M2 : fm_M} (h : RR n M1 M2) : ∃ m u, pC M1 m u ∧ pM M2 m u := past_open h.2.2.2.2.1
/-! undo, keep, again -/
theorem x_undo {N : Nat} (hN : 4000 ≤ N) : cp_undo N RR := by
  intro n M1 M2 hn hR
  obtain ⟨q, l, hg, hr, hS, hq, tC, tM, hl, hm⟩ := hR.opn hn
  obtain ⟨m, u, p1, p2⟩ := hR.past
  have hm8 := p1.1
  by_cases h0 : m = 0
  · subst h0
    refine cpq hR hq hl (-1) ?_ ?_
    · unfold pMicRow_undo pPast_pop
      rw [if_pos (show M1.1 59 1 = 0 from p1.2.1)]
      exact ok_bindE rfl (ok_some ⟨rfl, qC.same hS tC⟩)
    · unfold pModel_undo
      exact ok_pt (ok_pos (by rw [si_col (by decide)]; exact p2.1) (ok_some ⟨rfl, qM.same tM⟩))
  · obtain ⟨c, rfl⟩ : ∃ c, m = c + 1 := ⟨m - 1, by omega⟩
    have hcl : ok (pMicRow_undo N M1) (fun x => x.1 = nn c ∧ fr (fun k => (1 ≤ k ∧ k < 15) ∨ k = 59) M1 x.2 ∧ rS x.2 1 (u c) ∧ pC x.2 c u) := by
      obtain ⟨h0, h1, h2, h3, h4⟩ := p1
      obtain ⟨j, hj, ej⟩ := h2 c (by omega)
      obtain ⟨b1, b2⟩ := h4 c (by omega)
      unfold pMicRow_undo pPast_pop
      rw [if_neg (by rw [h1, show (0 : Int32) = nn 0 from rfl, nn_inj nB nB]; omega)]
      refine ok_bind (P := fun x => x.1 = nn c ∧ fr (fun k => (1 ≤ k ∧ k < 15) ∨ k = 59) M1 x.2 ∧ rS x.2 1 (u c) ∧ pC x.2 c u) (ok_pt ?_) (fun x hx => ok_some hx)
      rw [h1, show nn (c + 1) - 1 = nn c from nn_sub (i := c + 1) (j := 1) (by omega)]
      have e59 : (fm_si M1 59 1 (nn c)).1 59 1 = nn c := si_same
      rw [e59]
      refine ok_ix (by omega) nL ?_
      refine ok_bind (cp_copyZ (by omega) (by decide) (by show fm_sc (M1.2.2 c) = true; rw [ej]; exact sc_past ⟨j, hj⟩) (by show 1 ≠ M1.2.2 c; omega) b1 (show rS (fm_si M1 59 1 (nn c)) (M1.2.2 c) (u c) from b2.kept (fun a z1 z2 => si_row (by omega)) b1)) ?_
      rintro M3 ⟨f3, r3⟩
      have f13 : fr (fun k => (1 ≤ k ∧ k < 15) ∨ k = 59) M1 M3 := (fr.si (A := fun k => (1 ≤ k ∧ k < 15) ∨ k = 59) (Or.inr rfl)).tr (f3.up (fun k hk => by omega))
      refine ok_some ⟨?_, f13, r3, by omega, ?_, by rw [f13.2.2]; exact h2, by rw [f13.2.2]; exact h3, fun i hi => ?_⟩
      · try dsimp only
        rw [f3.at1 (by (try dsimp only); omega)]; exact e59
      · rw [f3.at1 (by (try dsimp only); omega)]; exact e59
      · obtain ⟨b3, b4⟩ := h4 i (by omega)
        obtain ⟨j', hj', ej'⟩ := h2 i (by omega)
        rw [f13.2.2]
        exact ⟨b3, b4.kept (fun a z1 z2 => f13.1 a (by omega)) b3⟩
    have hmd : ok (pModel_undo N M2) (fun x => x.1 = nn c ∧ fr (fun k => k = 0 ∨ k = 1) M2 x.2 ∧ (∀ j, j ≠ 5 → j ≠ 25 → x.2.1 0 j = M2.1 0 j) ∧ (∀ k, k < 101 → x.2.1 1 k = u c k) ∧ pM x.2 c u) := by
      unfold pModel_undo
      refine ok_pt (ok_neg (by rw [si_col (by decide), p2.1, show (0 : Int32) = nn 0 from rfl, nn_inj nB nB]; omega) (ok_pt ?_))
      have e25 : (fm_si (fm_si M2 0 5 0) 0 25 ((fm_si M2 0 5 0).1 0 25 - 1)).1 0 25 = nn c := by
        rw [si_same, si_col (by decide), p2.1]
        exact nn_sub (i := c + 1) (j := 1) (by omega)
      have ez : ∀ j, j ≠ 5 → j ≠ 25 → (fm_si (fm_si M2 0 5 0) 0 25 ((fm_si M2 0 5 0).1 0 25 - 1)).1 0 j = M2.1 0 j := fun j a b => by rw [si_col b, si_col a]
      have ef : fr (fun k => k = 0 ∨ k = 1) M2 (fm_si (fm_si M2 0 5 0) 0 25 ((fm_si M2 0 5 0).1 0 25 - 1)) := (fr.si (A := fun k => k = 0 ∨ k = 1) (Or.inl rfl)).tr (fr.si (Or.inl rfl))
      generalize fm_si (fm_si M2 0 5 0) 0 25 ((fm_si M2 0 5 0).1 0 25 - 1) = M3 at e25 ez ef
      refine ok_fill 1 101 (fun k => u c k) ?_ ?_ (by omega)
      · intro i M4 hi h2 h3 kk
        unfold pModel_undo_L26 pModel_undo_L26b
        try dsimp only
        rw [if_neg (by rw [show (101 : Int32) = nn 101 from rfl, nn_le nB nB]; omega), h2.at1 (k := 0) (by decide), e25, ix_101, ldE (by omega) nL, stE hi nL, nn_succ, h2.at1 (k := 13) (by decide), ef.at1 (k := 13) (by decide), p2.2 c i (by omega) hi]
      · intro M4 h2 h3 kk
        unfold pModel_undo_L26 pModel_undo_L26b
        try dsimp only
        have e4 : M4.1 0 = M3.1 0 := h2.at1 (by decide)
        refine ok_pos (by decide) (ok_some ⟨by (try dsimp only); rw [e4]; exact e25, ef.tr (h2.up (fun k hk => Or.inr hk)), fun j a b => by (try dsimp only); rw [e4]; exact ez j a b, h3, ?_, ?_⟩)
        · try dsimp only
          rw [e4]; exact e25
        · intro i k hi hk
          try dsimp only
          rw [h2.at1 (k := 13) (by decide), ef.at1 (k := 13) (by decide)]
          exact p2.2 i k (by omega) hk
    obtain ⟨⟨r1, M1'⟩, e1, c1, c2, c3, c4⟩ := hcl
    obtain ⟨⟨r2, M2'⟩, e2, d1, d2, d3, d4, d5⟩ := hmd
    try dsimp only at c1 c2 c3 c4 d1 d2 d3 d4 d5
    subst c1
    subst d1
    have hgu := (p1.2.2.2.2 c (by omega)).1
    have hg2 : gV (M2'.1 1) := gV_congr hgu d4
    exact ⟨_, _, _, e1, e2, RR_ch hR (fun k hk => c2.1 k (by omega)) (c2.2.1 177 (by decide)) (fun k hk => d2.1 k (by omega)) (fun j hj => d3 j (by omega) (by omega)) (d2.2.1 3 (by decide)) hg2 (rS_congr hgu c3 d4) (past_close c4 d5) (hS.kf c2 (by decide) (by decide)) (by omega)⟩
