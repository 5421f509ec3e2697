/-! ===== sources: one of them, the model's ===== -/
theorem md_readSide0 {M : fm_M} (h : M.1 0 8 ≠ -1) : pModel_readSide M = some (0, M) := by
  refine ok_equal ?_
  unfold pModel_readSide
  exact ok_bindE (md_fine0 h) (ok_pos rfl (ok_some rfl))
theorem md_readSide {M : fm_M} {k : Nat} {c : Nat → Nat} {i : Nat} (h : lM M k c) (e7 : M.1 0 7 = nn i) (e8 : M.1 0 8 = -1) (hi : i < 150) : ok (pModel_readSide M) (fun x => fr (fun a => a = 0) M x.2 ∧ (∀ j, j ≠ 7 → j ≠ 8 → x.2.1 0 j = M.1 0 j) ∧ ((¬ (bb k c i = 43 ∨ bb k c i = 45) ∧ x.2.1 0 8 = nn i) ∨ ((bb k c i = 43 ∨ bb k c i = 45) ∧ ¬ gd8 k c (i + 1) ∧ x.2.1 0 8 = nn (i + 1)) ∨ ((bb k c i = 43 ∨ bb k c i = 45) ∧ gd8 k c (i + 1) ∧ x.2.1 0 7 = nn (i + 2) ∧ x.2.1 0 8 = -1 ∧ x.1 = scell k c i 0 0))) := by
  have hb := h.b i
  have j47 : ∀ s0 : Int32, (s0 = 0 ∧ bb k c i = 43) ∨ (s0 = 1 ∧ bb k c i = 45) → ok (pModel_readSide_J47 M s0) (fun x => fr (fun a => a = 0) M x.2 ∧ (∀ j, j ≠ 7 → j ≠ 8 → x.2.1 0 j = M.1 0 j) ∧ ((¬ (bb k c i = 43 ∨ bb k c i = 45) ∧ x.2.1 0 8 = nn i) ∨ ((bb k c i = 43 ∨ bb k c i = 45) ∧ ¬ gd8 k c (i + 1) ∧ x.2.1 0 8 = nn (i + 1)) ∨ ((bb k c i = 43 ∨ bb k c i = 45) ∧ gd8 k c (i + 1) ∧ x.2.1 0 7 = nn (i + 2) ∧ x.2.1 0 8 = -1 ∧ x.1 = scell k c i 0 0))) := by
    intro s0 hs
    have pm : bb k c i = 43 ∨ bb k c i = 45 := by omega
    unfold pModel_readSide_J47
    rw [e7, nn_succ]
    refine ok_pt ?_
    have h1 : lM (fm_si M 0 7 (nn (i + 1))) k c := h.kp (si_col (by decide)) (si_row (by decide))
    refine ok_bindE (md_oneOf (a := 48) (b := 9) (i := i + 1) h1 si_same (by rw [si_col (by decide)]; exact e8) (by omega) (by decide) (by decide)) ?_
    by_cases g : gd8 k c (i + 1)
    · have g' := gd8_bb.mp g
      have dv : dg k c (i + 1) = bb k c (i + 1) - 48 := dg_val g.1
      rw [if_pos (show ((48 : Nat) : Int) ≤ bb k c (i + 1) ∧ bb k c (i + 1) ≤ ((48 : Nat) : Int) + ((9 : Nat) : Int) - 1 by omega)]
      try dsimp only
      have fin : ∀ y : Int32, y = scell k c i 0 0 → ok (some (y, fm_si (fm_si M 0 7 (nn (i + 1))) 0 7 (nn (i + 1 + 1)))) (fun x => fr (fun a => a = 0) M x.2 ∧ (∀ j, j ≠ 7 → j ≠ 8 → x.2.1 0 j = M.1 0 j) ∧ ((¬ (bb k c i = 43 ∨ bb k c i = 45) ∧ x.2.1 0 8 = nn i) ∨ ((bb k c i = 43 ∨ bb k c i = 45) ∧ ¬ gd8 k c (i + 1) ∧ x.2.1 0 8 = nn (i + 1)) ∨ ((bb k c i = 43 ∨ bb k c i = 45) ∧ gd8 k c (i + 1) ∧ x.2.1 0 7 = nn (i + 2) ∧ x.2.1 0 8 = -1 ∧ x.1 = scell k c i 0 0))) := by
        intro y hy
        refine ok_some ⟨(fr.si (A := fun a => a = 0) rfl).tr (fr.si rfl), fun j z1 z2 => by (try dsimp only); rw [si_col z1, si_col z1], Or.inr (Or.inr ⟨pm, g, si_same, by (try dsimp only); rw [si_col (by decide), si_col (by decide)]; exact e8, hy⟩)⟩
      rcases hs with ⟨rfl, hs⟩ | ⟨rfl, hs⟩
      · refine ok_pos rfl (fin _ ?_)
        unfold scell
        rw [if_pos rfl, if_neg (by omega), dv]
        rfl
      · refine ok_neg (by decide) (fin _ ?_)
        unfold scell
        rw [if_pos rfl, if_pos hs, dv, ii_neg]
        rfl
    · have g' : ¬ (48 ≤ bb k c (i + 1) ∧ bb k c (i + 1) ≤ 56) := fun z => g (gd8_bb.mpr z)
      rw [if_neg (show ¬ (((48 : Nat) : Int) ≤ bb k c (i + 1) ∧ bb k c (i + 1) ≤ ((48 : Nat) : Int) + ((9 : Nat) : Int) - 1) by omega)]
      try dsimp only
      refine ok_ite (fun _ => ok_some ?_) (fun _ => ok_some ?_)
      all_goals exact ⟨(fr.si (A := fun a => a = 0) rfl).tr (fr.si rfl), fun j z1 z2 => by (try dsimp only); rw [si_col z2, si_col z1], Or.inr (Or.inl ⟨pm, g, si_same⟩)⟩
  unfold pModel_readSide
  refine ok_bindE (md_fine1 e8) (ok_neg (by decide) (ok_bindE (md_here h e7 (by omega)) ?_))
  by_cases c1 : bb k c i = 45
  · refine ok_pos (by rw [c1]; rfl) ?_
    unfold pModel_readSide_J23
    exact ok_neg (by decide) (j47 1 (Or.inr ⟨rfl, c1⟩))
  · refine ok_neg (by rw [show (45 : Int32) = ii 45 from rfl, ii_inj (by omega)]; exact c1) ?_
    unfold pModel_readSide_J23
    refine ok_pos rfl (ok_bindE (md_here h e7 (by omega)) ?_)
    by_cases c2 : bb k c i = 43
    · exact ok_pos (by rw [c2]; rfl) (j47 0 (Or.inl ⟨rfl, c2⟩))
    · refine ok_neg (by rw [show (43 : Int32) = ii 43 from rfl, ii_inj (by omega)]; exact c2) ?_
      rw [e7]
      exact ok_bindE (md_fault1 e8) (ok_some ⟨fr.si rfl, fun j z1 z2 => by (try dsimp only); rw [si_col z2], Or.inl ⟨by omega, si_same⟩⟩)
def sEnd1 (k : Nat) (c : Nat → Nat) (i b : Nat) (M : fm_M) : Nat ⊕ Nat → Prop
  | .inl e => M.1 0 8 = nn e ∧ e < 200
  | .inr n => M.1 0 8 = -1 ∧ M.1 0 7 = nn (i + 3 + n) ∧ (2 ≤ n ∧ n ≤ 12) ∧ ∀ j, j < 3 + n → M.1 4 (b + j) = scell k c i n j
def sF (b : Nat) (M M' : fm_M) : Prop := fr (fun a => a = 0 ∨ a = 4) M M' ∧ (∀ j, j ≠ 7 → j ≠ 8 → M'.1 0 j = M.1 0 j) ∧ ∀ a, a < b ∨ b + 15 ≤ a → M'.1 4 a = M.1 4 a
theorem sF.st {b j : Nat} {M M' : fm_M} {v : Int32} (h : sF b M M') (hj : j < 15) : sF b M (fm_si M' 4 (b + j) v) := by
  obtain ⟨h1, h2, h3⟩ := h
  exact ⟨h1.tr (fr.si (Or.inr rfl)), fun j' y1 y2 => by rw [si_row (by decide)]; exact h2 j' y1 y2, fun a ha => by rw [si_col (by omega)]; exact h3 a ha⟩
theorem sF.z {b : Nat} {M M' M'' : fm_M} (h : sF b M M') (hf : fr (fun a => a = 0) M' M'') (hz : ∀ j, j ≠ 7 → j ≠ 8 → M''.1 0 j = M'.1 0 j) : sF b M M'' := by
  obtain ⟨h1, h2, h3⟩ := h
  exact ⟨h1.tr (hf.up (fun k hk => Or.inl hk)), fun j' y1 y2 => by rw [hz j' y1 y2]; exact h2 j' y1 y2, fun a ha => by rw [hf.at1 (by decide)]; exact h3 a ha⟩
theorem sF.l {b k : Nat} {c : Nat → Nat} {M M' : fm_M} (h : sF b M M') (hl : lM M k c) : lM M' k c := hl.kp (h.2.1 6 (by decide) (by decide)) (h.1.at1 (by decide))
theorem md_readSource {N : Nat} {M : fm_M} {k : Nat} {c : Nat → Nat} {i b : Nat} (hN : 4000 ≤ N) (h : lM M k c) (e7 : M.1 0 7 = nn i) (e8 : M.1 0 8 = -1) (hi : i < 100) (hb : b + 15 ≤ 60) : ok (pModel_readSource N M (nn b)) (fun M' => sF b M M' ∧ sEnd1 k c i b M' (sP1 k c i)) := by
  unfold pModel_readSource
  obtain ⟨s1, s2, s3⟩ := sn_spec (k := k) (c := c) 12 (i + 3)
  -- the loop, from either kind of state
  have lp : ∀ s : Int32 × fm_M, sF b M s.2 → ((∃ e, e < 150 ∧ s.2.1 0 8 = nn e ∧ sP1 k c i = .inl e ∧ ∃ j, j ≤ 13 ∧ s.1 = nn j) ∨ (sP1 k c i = (if sn k c (i + 3) 12 < 2 then .inl (i + 3 + sn k c (i + 3) 12) else .inr (sn k c (i + 3) 12)) ∧ s.2.1 0 8 = -1 ∧ s.2.1 4 b = scell k c i 0 0 ∧ s.2.1 4 (b + 1) = ii (dg k c (i + 2)) ∧ ∃ j, j ≤ sn k c (i + 3) 12 ∧ s.1 = nn j ∧ s.2.1 0 7 = nn (i + 3 + j) ∧ ∀ j', j' < j → s.2.1 4 (b + (3 + j')) = ii (dg k c (i + 3 + j') - 4))) → ok (fm_lp (pModel_readSource_L30 N (nn b)) N s) (fun M' => sF b M M' ∧ sEnd1 k c i b M' (sP1 k c i)) := by
    intro s hs1 hs2
    generalize hn : sn k c (i + 3) 12 = n at s1 s2 s3 hs2
    refine ok_lp (fun s : Int32 × fm_M => sF b M s.2 ∧ ((∃ e, e < 150 ∧ s.2.1 0 8 = nn e ∧ sP1 k c i = .inl e ∧ ∃ j, j ≤ 13 ∧ s.1 = nn j) ∨ (sP1 k c i = (if n < 2 then .inl (i + 3 + n) else .inr n) ∧ s.2.1 0 8 = -1 ∧ s.2.1 4 b = scell k c i 0 0 ∧ s.2.1 4 (b + 1) = ii (dg k c (i + 2)) ∧ ∃ j, j ≤ n ∧ s.1 = nn j ∧ s.2.1 0 7 = nn (i + 3 + j) ∧ ∀ j', j' < j → s.2.1 4 (b + (3 + j')) = ii (dg k c (i + 3 + j') - 4)))) (fun s => if s.2.1 0 8 = -1 then 14 - s.1.toNatClampNeg else 0) ?_ N s ⟨hs1, hs2⟩ (by split <;> omega)
    rintro ⟨w, M1⟩ ⟨q1, q2⟩ kk hk
    try dsimp only at q1 q2
    have g1 : lM M1 k c := q1.l h
    unfold pModel_readSource_L30 pModel_readSource_L30b
    try dsimp only
    have j88 : ∀ (j : Nat), ok (pModel_readSource_J88 N M1 (nn b) (nn j)) (fun M' => M' = fm_si M1 4 (b + 2) (nn j)) := by
      intro j
      unfold pModel_readSource_J88
      rw [show nn b + 2 = nn (b + 2) from nn_add]
      exact ok_st (by omega) nL (ok_some rfl)
    rcases q2 with ⟨e, b1, b2, b3, j, b4, b5⟩ | ⟨b1, b2, b3, b4, j, b5, b6, b7, b8⟩
    · subst b5
      refine ok_bindE (md_fine0 (by rw [b2]; exact nn_m1 (by omega))) (ok_pos rfl (ok_mono (j88 j) ?_))
      rintro M' rfl
      rw [b3]
      refine ⟨q1.st (by decide), ?_, by omega⟩
      rw [si_row (by decide)]; exact b2
    · subst b6
      refine ok_bindE (md_fine1 b2) (ok_neg (by decide) ?_)
      have dd := dg_bd (k := k) (c := c) (i := i + 3 + j)
      -- one more step is read
      have j62 : gd8 k c (i + 3 + j) → j < n → ok (pModel_readSource_J62 N M1 (nn b) (nn j) kk) (fun M' => sF b M M' ∧ sEnd1 k c i b M' (sP1 k c i)) := by
        intro g hj
        have g' := gd8_bb.mp g
        have dv : dg k c (i + 3 + j) = bb k c (i + 3 + j) - 48 := dg_val g.1
        unfold pModel_readSource_J62
        refine ok_bindE (md_oneOf (a := 48) (b := 9) g1 b7 b2 (by omega) (by decide) (by decide)) ?_
        rw [if_pos (show ((48 : Nat) : Int) ≤ bb k c (i + 3 + j) ∧ bb k c (i + 3 + j) ≤ ((48 : Nat) : Int) + ((9 : Nat) : Int) - 1 by omega)]
        try dsimp only
        rw [show (nn b + 3) + nn j = nn (b + (3 + j)) by rw [show (3 : Int32) = nn 3 from rfl, nn_add, nn_add]; congr 1; omega, show ii (bb k c (i + 3 + j) - ((48 : Nat) : Int)) - 4 = ii (dg k c (i + 3 + j) - 4) by rw [dv, show (4 : Int32) = ii 4 from rfl, ii_sub]; rfl]
        refine ok_st (by omega) nL (hk _ ⟨(q1.z (fr.si rfl) (fun j' y1 y2 => si_col y1)).st (by omega), Or.inr ⟨b1, ?_, ?_, ?_, j + 1, by omega, nn_succ, ?_, fun j' hj' => ?_⟩⟩ ?_)
        · try dsimp only
          rw [si_row (by decide), si_col (by decide)]; exact b2
        · try dsimp only
          rw [si_col (by omega), si_row (by decide)]; exact b3
        · try dsimp only
          rw [si_col (by omega), si_row (by decide)]; exact b4
        · try dsimp only
          rw [si_row (by decide), si_same]
          rfl
        · try dsimp only
          by_cases e : j' = j
          · subst e; rw [si_same]
          · rw [si_col (by omega), si_row (by decide)]; exact b8 j' (by omega)
        · try dsimp only
          rw [if_pos b2, nn_succ, nn_toNat nB, nn_toNat nB]
          split <;> omega
      -- it ends
      have j88' : 2 ≤ n → j = n → ok (pModel_readSource_J88 N M1 (nn b) (nn j)) (fun M' => sF b M M' ∧ sEnd1 k c i b M' (sP1 k c i)) := by
        intro n2 e
        subst e
        refine ok_mono (j88 j) ?_
        rintro M' rfl
        rw [b1, if_neg (by omega)]
        refine ⟨q1.st (by decide), ?_, ?_, ⟨n2, s1⟩, fun j' hj' => ?_⟩
        · rw [si_row (by decide)]; exact b2
        · rw [si_row (by decide)]; exact b7
        · by_cases y2 : j' = 2
          · subst y2; rw [si_same]; rfl
          · rw [si_col (by omega)]
            by_cases y0 : j' = 0
            · subst y0; exact b3
            · by_cases y1 : j' = 1
              · subst y1; exact b4
              · have := b8 (j' - 3) (by omega)
                rw [show b + (3 + (j' - 3)) = b + j' by omega, show i + 3 + (j' - 3) = i + j' by omega] at this
                rw [this]
                unfold scell
                rw [if_neg y0, if_neg y1, if_neg y2]
      by_cases j2 : j < 2
      · refine ok_pos (by rw [show (2 : Int32) = nn 2 from rfl, nn_lt nB nB]; exact j2) ?_
        by_cases jn : j < n
        · exact j62 (s2 j jn) jn
        · have ejn : j = n := by omega
          subst ejn
          have g := s3 (by omega)
          have g' : ¬ (48 ≤ bb k c (i + 3 + j) ∧ bb k c (i + 3 + j) ≤ 56) := fun z => g (gd8_bb.mpr z)
          unfold pModel_readSource_J62
          refine ok_bindE (md_oneOf (a := 48) (b := 9) g1 b7 b2 (by omega) (by decide) (by decide)) ?_
          rw [if_neg (show ¬ (((48 : Nat) : Int) ≤ bb k c (i + 3 + j) ∧ bb k c (i + 3 + j) ≤ ((48 : Nat) : Int) + ((9 : Nat) : Int) - 1) by omega)]
          try dsimp only
          rw [show (nn b + 3) + nn j = nn (b + (3 + j)) by rw [show (3 : Int32) = nn 3 from rfl, nn_add, nn_add]; congr 1; omega]
          have ew : (fm_si (fm_si M1 0 8 (nn (i + 3 + j))) 4 (b + (3 + j)) (0 - 4)).1 0 8 = nn (i + 3 + j) := by rw [si_row (by decide), si_same]
          refine ok_st (by omega) nL (hk _ ⟨(q1.z (fr.si rfl) (fun j' y1 y2 => si_col y2)).st (by omega), Or.inl ⟨i + 3 + j, by omega, ew, by rw [b1, if_pos j2], j + 1, by omega, nn_succ⟩⟩ ?_)
          try dsimp only
          rw [if_pos b2, ew, if_neg (nn_m1 (by omega)), nn_toNat nB]
          omega
      · refine ok_neg (by rw [show (2 : Int32) = nn 2 from rfl, nn_lt nB nB]; exact j2) (ok_bindE (md_here g1 b7 (by omega)) ?_)
        have hbb := g1.b (i + 3 + j)
        by_cases g : gd8 k c (i + 3 + j)
        · refine ok_bindE (in_pos (rng_in (lo := 48) (hi := 56) (gd8_bb.mp g) (by decide))) (ok_neg (by decide) ?_)
          by_cases j12 : j < 12
          · have jn : j < n := by
              by_cases z : j < n
              · exact z
              · have ejn : j = n := by omega
                subst ejn
                exact absurd g (s3 j12)
            exact ok_neg (by rw [show (12 : Int32) = nn 12 from rfl, nn_le nB nB]; omega) (j62 g jn)
          · exact ok_pos (by rw [show (12 : Int32) = nn 12 from rfl, nn_le nB nB]; omega) (j88' (by omega) (by omega))
        · refine ok_bindE (in_neg (nrng (lo := 48) (hi := 56) (fun z => g (gd8_bb.mpr z)) (by omega))) (ok_pos rfl ?_)
          have ejn : j = n := by
            by_cases z : j < n
            · exact absurd (s2 j z) g
            · omega
          exact j88' (by omega) ejn
  refine ok_bind (md_readSide h e7 e8 (by omega)) ?_
  rintro ⟨x, M1⟩ ⟨f1, z1, hd⟩
  try dsimp only at f1 z1 hd ⊢
  have q1 : sF b M M1 := (show sF b M M from ⟨fr.rf, fun _ _ _ => rfl, fun _ _ => rfl⟩).z f1 z1
  have h0 : sF b M (fm_si M1 4 b x) := q1.st (j := 0) (by decide)
  have h1 : lM (fm_si M1 4 b x) k c := h0.l h
  refine ok_st (by omega) nL ?_
  have bad : ∀ e, e < 150 → M1.1 0 8 = nn e → sP1 k c i = .inl e → ok ((pModel_oneOf (fm_si M1 4 b x) 49 9).bind (fun (y : Int32 × fm_M) => fm_st 320 y.2 4 (nn b + 1) (y.1 + 1) (fun M27 => fm_lp (pModel_readSource_L30 N (nn b)) N (0, M27)))) (fun M' => sF b M M' ∧ sEnd1 k c i b M' (sP1 k c i)) := by
    intro e y1 y2 y3
    have e8' : (fm_si M1 4 b x).1 0 8 = nn e := by rw [si_row (by decide)]; exact y2
    refine ok_bindE (md_oneOf0 (by rw [e8']; exact nn_m1 (by omega))) ?_
    try dsimp only
    rw [nn_succ]
    exact ok_st (by omega) nL (lp _ (h0.st (by decide)) (Or.inl ⟨e, y1, by (try dsimp only); rw [si_row (by decide)]; exact e8', y3, 0, by omega, rfl⟩))
  rcases hd with ⟨a1, a2⟩ | ⟨a1, a2, a3⟩ | ⟨a1, a2, a3, a4, a5⟩
  · exact bad i (by omega) a2 (by unfold sP1; rw [if_pos a1])
  · exact bad (i + 1) (by omega) a3 (by unfold sP1; rw [if_neg (fun z => z a1), if_pos a2])
  · subst a5
    have e7' : (fm_si M1 4 b (scell k c i 0 0)).1 0 7 = nn (i + 2) := by rw [si_row (by decide)]; exact a3
    have e8' : (fm_si M1 4 b (scell k c i 0 0)).1 0 8 = -1 := by rw [si_row (by decide)]; exact a4
    refine ok_bindE (md_oneOf (a := 49) (b := 9) h1 e7' e8' (by omega) (by decide) (by decide)) ?_
    have d2 := dg_bd (k := k) (c := c) (i := i + 2)
    have dn := dg_neg (k := k) (c := c) (i := i + 2)
    by_cases c3 : dg k c (i + 2) < 1
    · have c3' : ¬ ((49 : Int) ≤ bb k c (i + 2) ∧ bb k c (i + 2) ≤ 57) := by
        intro z
        have := dg_val (k := k) (c := c) (i := i + 2) (by omega)
        omega
      rw [if_neg (show ¬ (((49 : Nat) : Int) ≤ bb k c (i + 2) ∧ bb k c (i + 2) ≤ ((49 : Nat) : Int) + ((9 : Nat) : Int) - 1) by omega)]
      try dsimp only
      rw [nn_succ]
      refine ok_st (by omega) nL (lp _ ((h0.z (fr.si rfl) (fun j' y1 y2 => si_col y2)).st (by decide)) (Or.inl ⟨i + 2, by omega, by (try dsimp only); rw [si_row (by decide), si_same], by unfold sP1; rw [if_neg (fun z => z a1), if_neg (fun z => z a2), if_pos c3], 0, by omega, rfl⟩))
    · have dv := dg_val (k := k) (c := c) (i := i + 2) (by omega)
      rw [if_pos (show ((49 : Nat) : Int) ≤ bb k c (i + 2) ∧ bb k c (i + 2) ≤ ((49 : Nat) : Int) + ((9 : Nat) : Int) - 1 by omega)]
      try dsimp only
      rw [nn_succ]
      refine ok_st (by omega) nL (lp _ ((h0.z (fr.si rfl) (fun j' y1 y2 => si_col y1)).st (by decide)) (Or.inr ⟨by unfold sP1; rw [if_neg (fun z => z a1), if_neg (fun z => z a2), if_neg c3], ?_, ?_, ?_, 0, by omega, rfl, ?_, fun j' hj' => absurd hj' (Nat.not_lt_zero _)⟩))
      · try dsimp only
        rw [si_row (by decide), si_col (by decide)]; exact e8'
      · try dsimp only
        rw [si_col (by omega), si_row (by decide), si_same]
      · try dsimp only
        rw [si_same, show (1 : Int32) = ii 1 from rfl, ii_add, dv]
        congr 1
        omega
      · try dsimp only
        rw [si_row (by decide), si_same]
