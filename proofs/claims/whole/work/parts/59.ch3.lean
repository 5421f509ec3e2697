/-! ===== calls: goes, sheet ===== -/
def gd (g : Nat → Int32) (s : Nat) : Nat → Int32 := fun k => if k = 40 then nn (gs g - 1) else if 41 + 15 * s ≤ k ∧ k < 41 + 15 * (gs g - 1) then g (k + 15) else if 41 + 15 * (gs g - 1) ≤ k ∧ k < 41 + 15 * gs g then 0 else g k
theorem gd_lo {g : Nat → Int32} {s k : Nat} (hs : s < gs g) (h : k < 40 ∨ (41 ≤ k ∧ k < 41 + 15 * s)) : gd g s k = g k := by
  unfold gd
  rw [if_neg (by omega), if_neg (by omega), if_neg (by omega)]
theorem gd_mid {g : Nat → Int32} {s k : Nat} (h : 41 + 15 * s ≤ k ∧ k < 41 + 15 * (gs g - 1)) : gd g s k = g (k + 15) := by
  unfold gd
  rw [if_neg (by omega), if_pos h]
theorem gd_40 {g : Nat → Int32} {s : Nat} : gd g s 40 = nn (gs g - 1) := if_pos rfl
theorem gd_gs {g : Nat → Int32} {s : Nat} (hg : gV g) : gs (gd g s) = gs g - 1 := by
  have := hg.s.2
  have e : gs (gd g s) = (nn (gs g - 1)).toNatClampNeg := by unfold gs; rw [gd_40]; rfl
  rw [e, nn_toNat nB]
theorem gd_V {g : Nat → Int32} {s : Nat} (hg : gV g) (hs : s < gs g) : gV (gd g s) := by
  have hn := hg.n.2
  have hs4 := hg.s.2
  have egs := gd_gs (s := s) hg
  have en : gn (gd g s) = gn g := by unfold gn; rw [gd_lo hs (by omega)]
  rw [gV_iff] at hg ⊢
  obtain ⟨h1, h2, h3, h4, h5⟩ := hg
  refine ⟨by rw [gd_lo hs (by omega)]; exact h1, ?_, fun j hj => by rw [gd_lo hs (by omega)]; exact h3 j hj, fun m q hm hq => by rw [en] at hm; rw [gd_lo hs (by omega)]; exact h4 m q hm hq, ?_⟩
  · rw [gd_40]
    unfold bd
    rw [nn_toInt nB]
    omega
  · intro s' hs'
    rw [egs] at hs'
    by_cases c : s' < s
    · obtain ⟨a1, a2, a3, a4⟩ := h5 s' (by omega)
      have hst : gst g s' ≤ 12 := by
        obtain ⟨b1, b2, b3⟩ := bd_nn a3 (by decide)
        unfold gst
        omega
      have est : gst (gd g s) s' = gst g s' := by unfold gst; rw [gd_lo hs (by omega)]
      refine ⟨by rw [gd_lo hs (by omega)]; exact a1, by rw [gd_lo hs (by omega)]; exact a2, by rw [gd_lo hs (by omega)]; exact a3, fun j hj => ?_⟩
      rw [est] at hj
      rw [gd_lo hs (by omega)]; exact a4 j hj
    · obtain ⟨a1, a2, a3, a4⟩ := h5 (s' + 1) (by omega)
      have hst : gst g (s' + 1) ≤ 12 := by
        obtain ⟨b1, b2, b3⟩ := bd_nn a3 (by decide)
        unfold gst
        omega
      have est : gst (gd g s) s' = gst g (s' + 1) := by unfold gst; rw [gd_mid (by omega), show 43 + 15 * s' + 15 = 43 + 15 * (s' + 1) by omega]
      refine ⟨by rw [gd_mid (by omega), show 41 + 15 * s' + 15 = 41 + 15 * (s' + 1) by omega]; exact a1, by rw [gd_mid (by omega), show 42 + 15 * s' + 15 = 42 + 15 * (s' + 1) by omega]; exact a2, by rw [gd_mid (by omega), show 43 + 15 * s' + 15 = 43 + 15 * (s' + 1) by omega]; exact a3, fun j hj => ?_⟩
      rw [est] at hj
      rw [gd_mid (by omega), show 44 + 15 * s' + j + 15 = 44 + 15 * (s' + 1) + j by omega]; exact a4 j hj
theorem cs_drop {N : Nat} {M : fm_M} {g : Nat → Int32} {s : Nat} (hN : 4000 ≤ N) (hg : gV g) (hr : rS M 1 g) (hs : s < gs g) : ok (pScene_drop N M (nn s)) (fun x => x.1 = nn (gs g - 1) ∧ fr (fun k => 1 ≤ k ∧ k < 15) M x.2 ∧ rS x.2 1 (gd g s)) := by
  obtain ⟨es, hs4⟩ := hg.s
  have hn6 := hg.n.2
  have egs := gd_gs (s := s) hg
  have en : gn (gd g s) = gn g := by unfold gn; rw [gd_lo hs (by omega)]
  unfold pScene_drop
  refine ok_bindE (cs_hasSource hg hr hs) (ok_neg (by decide) ?_)
  refine Eq.mp (congrArg (fun z => ok (fm_lp (pScene_drop_L12 N) N (z, M)) _) (show nn (s + 0) = nn s from rfl)) ?_
  refine ok_for (gs g - 1 - s) (fun i t => t.1 = nn (s + i) ∧ fr (fun k => 10 ≤ k ∧ k < 14) M t.2 ∧ (∀ s' j, s ≤ s' → s' < s + i → j < 15 → t.2.1 (10 + s') j = M.1 (10 + (s' + 1)) j) ∧ ∀ s', s' < s ∨ s + i ≤ s' → t.2.1 (10 + s') = M.1 (10 + s')) ?_ ?_ ⟨rfl, fr.rf, fun s' j z1 z2 => by omega, fun s' _ => rfl⟩ (by omega)
  · rintro i ⟨v, M3⟩ hi ⟨a1, a2, a3, a4⟩ k hk
    try dsimp only at a1 a2 a3 a4
    subst a1
    unfold pScene_drop_L12 pScene_drop_L12b
    try dsimp only
    rw [a2.at1 (k := 1) (by decide), hr.s, es, nn_succ]
    refine ok_neg (by rw [nn_le nB nB]; omega) (ok_ix (by omega) nL (ok_ix (by omega) nL (ok_cp (hk _ ⟨rfl, a2.tr (fr.row (by omega)), ?_, ?_⟩))))
    · intro s' j z1 z2 z3
      try dsimp only
      rw [row_at]
      by_cases e : s' = s + i
      · subst e
        rw [if_pos rfl, cpy_in z3]
        show M3.1 (10 + (s + i + 1)) j = _
        rw [a4 _ (by omega)]
      · rw [if_neg (by omega)]
        exact a3 s' j z1 (by omega) z3
    · intro s' z
      try dsimp only
      rw [row_at, if_neg (by omega)]
      exact a4 s' (by omega)
  · rintro ⟨v, M3⟩ ⟨a1, a2, a3, a4⟩ k
    try dsimp only at a1 a2 a3 a4
    subst a1
    unfold pScene_drop_L12 pScene_drop_L12b
    try dsimp only
    have e11 : M3.1 1 1 = nn (gs g) := by rw [a2.at1 (k := 1) (by decide), hr.s, es]
    rw [e11, nn_succ, show nn (gs g) - 1 = nn (gs g - 1) from nn_sub (i := gs g) (j := 1) (by omega)]
    refine ok_pos (by rw [nn_le nB nB]; omega) (ok_pt (ok_some ⟨by (try dsimp only); exact si_same, (a2.up (B := fun k => 1 ≤ k ∧ k < 15) (fun k hk => by omega)).tr (fr.si (by decide)), ?_⟩))
    obtain ⟨h1, h2, h3, h4, h5⟩ := hr
    refine ⟨?_, ?_, ?_, ?_, ?_⟩
    · try dsimp only
      rw [si_col (by decide), a2.at1 (by decide), gd_lo hs (by omega)]; exact h1
    · try dsimp only
      rw [gd_40]; exact si_same
    · intro j hj
      try dsimp only
      rw [si_row (by omega), a2.at1 (by decide), gd_lo hs (by omega)]; exact h3 j hj
    · intro m q hm hq
      rw [en] at hm
      try dsimp only
      rw [si_row (by omega), a2.at1 (by (try dsimp only); omega), gd_lo hs (by omega)]; exact h4 m q hm hq
    · intro s' j hs' hj
      rw [egs] at hs'
      try dsimp only
      rw [si_row (by omega), show 1 + 9 + s' = 10 + s' by omega]
      by_cases c : s' < s
      · have est : gst (gd g s) s' = gst g s' := by unfold gst; rw [gd_lo hs (by omega)]
        have hst := gst_le hg (s := s') (by omega)
        rw [est] at hj
        rw [a4 s' (by omega), gd_lo hs (by omega)]
        have := h5 s' j (by omega) hj
        rwa [show 1 + 9 + s' = 10 + s' by omega] at this
      · have est : gst (gd g s) s' = gst g (s' + 1) := by unfold gst; rw [gd_mid (by omega), show 43 + 15 * s' + 15 = 43 + 15 * (s' + 1) by omega]
        have hst := gst_le hg (s := s' + 1) (by omega)
        rw [est] at hj
        rw [a3 s' j (by omega) (by omega) (by omega), gd_mid (by omega), show 41 + 15 * s' + j + 15 = 41 + 15 * (s' + 1) + j by omega]
        have := h5 (s' + 1) j (by omega) hj
        rwa [show 1 + 9 + (s' + 1) = 10 + (s' + 1) by omega] at this
theorem x_goes {N : Nat} (hN : 4000 ≤ N) : cp_goes N RR := by
  intro n M1 M2 v1 hn hR
  obtain ⟨q, l, hg, hr, hS, hq, tC, tM, hl, hm⟩ := hR.opn hn
  obtain ⟨c, u, p1, p2⟩ := hR.past
  have e1 : (fm_si M2 0 5 0).1 1 = M2.1 1 := si_row (by decide)
  obtain ⟨es, hs4⟩ := hg.s
  rcases src_or hg hr v1 with ⟨s, hs1, rfl⟩ | ⟨c1, c2⟩
  · refine fin_yes (m := c) (u := u) (g' := gd (M2.1 1) s) hR hq (gd_V hg hs1) (nn (gs (M2.1 1) - 1)) ?_ ?_
    · exact cs_yes1 (op := fun M8 => pScene_drop N M8 (nn s)) hN hg hr hS (gd_V hg hs1) p1 (by rw [show (0 : Int32) = nn 0 from rfl, nn_le nB nB]; omega) (fun M8 r1 => cs_drop hN hg r1 hs1)
    · unfold pModel_goes
      have ei : pModel_in (fm_si M2 0 5 0) (nn s) 0 (((fm_si M2 0 5 0).1 1 40) - 1) = some 1 := md_isSrc (by rw [e1]; exact hg) (by rw [e1]; exact hs1)
      refine ok_pt (ok_bindE ei (ok_neg (by decide) (ok_bind (ch_model hN p1.1 p2) ?_)))
      rintro M3 ⟨a1, a2, a3, a4, a5⟩
      refine ok_pt ?_
      rw [a1, es, show nn (gs (M2.1 1)) - 1 = nn (gs (M2.1 1) - 1) from nn_sub (i := gs (M2.1 1)) (j := 1) (by omega)]
      generalize hM4 : fm_si M3 1 40 (nn (gs (M2.1 1) - 1)) = M4
      have b1 : ∀ k, k ≠ 40 → M4.1 1 k = M2.1 1 k := fun k hk => by rw [← hM4, si_col hk, a1]
      have b40 : M4.1 1 40 = nn (gs (M2.1 1) - 1) := by rw [← hM4, si_same]
      have bf : fr (fun k => k = 1) M3 M4 := by rw [← hM4]; exact fr.si rfl
      clear hM4
      rw [show (41 : Int32) + 15 * nn s = nn (41 + 15 * s) by rw [show (41 : Int32) = nn 41 from rfl, show (15 : Int32) = nn 15 from rfl, nn_mul, nn_add]]
      refine Eq.mp (congrArg (fun z => ok (fm_lp (pModel_goes_L47 N) N (z, M4)) _) (show nn (41 + 15 * s + 0) = nn (41 + 15 * s) from rfl)) ?_
      refine ok_for (15 * (gs (M2.1 1) - 1 - s)) (fun i t => t.1 = nn (41 + 15 * s + i) ∧ fr (fun k => k = 1) M3 t.2 ∧ t.2.1 1 40 = nn (gs (M2.1 1) - 1) ∧ (∀ k, 41 + 15 * s ≤ k → k < 41 + 15 * s + i → t.2.1 1 k = M2.1 1 (k + 15)) ∧ ∀ k, k ≠ 40 → (k < 41 + 15 * s ∨ 41 + 15 * s + i ≤ k) → t.2.1 1 k = M2.1 1 k) ?_ ?_ ⟨rfl, bf, b40, fun k z1 z2 => by omega, fun k z1 _ => b1 k z1⟩ (by omega)
      · rintro i ⟨v, M5⟩ hi ⟨d1, d2, d3, d4, d5⟩ k hk
        try dsimp only at d1 d2 d3 d4 d5
        subst d1
        unfold pModel_goes_L47 pModel_goes_L47b
        try dsimp only
        rw [d3, show (41 : Int32) + 15 * nn (gs (M2.1 1) - 1) = nn (41 + 15 * (gs (M2.1 1) - 1)) by rw [show (41 : Int32) = nn 41 from rfl, show (15 : Int32) = nn 15 from rfl, nn_mul, nn_add], show nn (41 + 15 * s + i) + 15 = nn (41 + 15 * s + i + 15) from nn_add (j := 15)]
        refine ok_neg (by rw [nn_le nB nB]; omega) (ok_ld (by omega) nL (ok_st (by omega) nL (hk _ ⟨nn_succ, d2.tr (fr.si rfl), ?_, ?_, ?_⟩)))
        · try dsimp only
          rw [si_col (by omega)]; exact d3
        · intro k z1 z2
          try dsimp only
          by_cases e : k = 41 + 15 * s + i
          · subst e
            rw [si_same, d5 _ (by omega) (by omega)]
          · rw [si_col e]; exact d4 k z1 (by omega)
        · intro k z1 z2
          try dsimp only
          rw [si_col (by omega)]; exact d5 k z1 (by omega)
      · rintro ⟨v, M5⟩ ⟨d1, d2, d3, d4, d5⟩ k
        try dsimp only at d1 d2 d3 d4 d5
        subst d1
        unfold pModel_goes_L47 pModel_goes_L47b
        try dsimp only
        rw [d3, show (41 : Int32) + 15 * nn (gs (M2.1 1) - 1) = nn (41 + 15 * (gs (M2.1 1) - 1)) by rw [show (41 : Int32) = nn 41 from rfl, show (15 : Int32) = nn 15 from rfl, nn_mul, nn_add]]
        refine ok_pos (by rw [nn_le nB nB]; omega) ?_
        refine ok_for 15 (fun i t => t.1 = nn i ∧ fr (fun k => k = 1) M3 t.2 ∧ t.2.1 1 40 = nn (gs (M2.1 1) - 1) ∧ (∀ k, 41 + 15 * (gs (M2.1 1) - 1) ≤ k → k < 41 + 15 * (gs (M2.1 1) - 1) + i → t.2.1 1 k = 0) ∧ ∀ k, (k < 41 + 15 * (gs (M2.1 1) - 1) ∨ 41 + 15 * (gs (M2.1 1) - 1) + i ≤ k) → t.2.1 1 k = M5.1 1 k) ?_ ?_ ⟨rfl, d2, d3, fun k z1 z2 => by omega, fun k _ => rfl⟩ (by omega)
        · rintro i ⟨v, M6⟩ hi ⟨f1, f2, f3, f4, f5⟩ k hk
          try dsimp only at f1 f2 f3 f4 f5
          subst f1
          unfold pModel_goes_L87 pModel_goes_L87b
          try dsimp only
          rw [f3, ix_src]
          refine ok_neg (by rw [show (15 : Int32) = nn 15 from rfl, nn_le nB nB]; omega) (ok_st (by omega) nL (hk _ ⟨nn_succ, f2.tr (fr.si rfl), ?_, ?_, ?_⟩))
          · try dsimp only
            rw [si_col (by omega)]; exact f3
          · intro k z1 z2
            try dsimp only
            by_cases e : k = 41 + 15 * (gs (M2.1 1) - 1) + i
            · subst e; rw [si_same]
            · rw [si_col e]; exact f4 k z1 (by omega)
          · intro k z
            try dsimp only
            rw [si_col (by omega)]; exact f5 k (by omega)
        · rintro ⟨v, M6⟩ ⟨f1, f2, f3, f4, f5⟩ k
          try dsimp only at f1 f2 f3 f4 f5
          subst f1
          unfold pModel_goes_L87 pModel_goes_L87b
          try dsimp only
          refine ok_pos (by decide) (ok_some ⟨f3, fun k hk => (f2.1 k (by omega)).trans (a2 k hk), fun j hj => (congrFun (f2.at1 (by decide)) j).trans (a3 j (by omega) (by omega)), (f2.2.1 3 (by decide)).trans a4, fun k hk => ?_, ?_⟩)
          · try dsimp only
            unfold gd
            by_cases k40 : k = 40
            · rw [if_pos k40, k40]; exact f3
            · rw [if_neg k40]
              by_cases cm : 41 + 15 * s ≤ k ∧ k < 41 + 15 * (gs (M2.1 1) - 1)
              · rw [if_pos cm, f5 k (by omega)]
                exact d4 k cm.1 (by omega)
              · rw [if_neg cm]
                by_cases cz : 41 + 15 * (gs (M2.1 1) - 1) ≤ k ∧ k < 41 + 15 * gs (M2.1 1)
                · rw [if_pos cz]
                  exact f4 k cz.1 (by omega)
                · rw [if_neg cz, f5 k (by omega)]
                  exact d5 k k40 (by omega)
          · exact a5.kf f2 (congrFun (f2.at1 (by decide)) 25) (by decide)
  · refine fin_no hR hq (-1) ?_ ?_
    · refine cs_no1 (op := fun M8 => pScene_drop N M8 v1) hN hg hr hS (by decide) (fun M8 r1 => ?_)
      unfold pScene_drop
      rcases src_or hg r1 v1 with ⟨s, hs1, rfl⟩ | ⟨c3, c4⟩
      · exfalso
        have h := cs_hasSource hg hr hs1
        rw [c1] at h
        exact absurd (Option.some.inj h) (by decide)
      · exact ok_bindE c3 (ok_pos rfl (ok_some ⟨rfl, fr.rf⟩))
    · unfold pModel_goes
      refine ok_pt (ok_bindE (r := 0) (by rw [e1]; exact c2 _) (ok_pos rfl (ok_some ⟨rfl, md_no⟩)))
/-! sheet -/
theorem bd_clamp {x : Int32} {a b : Nat} (hab : a ≤ b) (hb : b ≤ 10000) : bd (jmax (nn a) (jmin (nn b) x)) a b := by
  show bd (if nn a < (if x < nn b then x else nn b) then (if x < nn b then x else nn b) else nn a) a b
  unfold bd
  by_cases h1 : x < nn b
  · rw [if_pos h1]
    rw [Int32.lt_iff_toInt_lt, nn_toInt nB] at h1
    by_cases h2 : nn a < x
    · rw [if_pos h2]
      rw [Int32.lt_iff_toInt_lt, nn_toInt nB] at h2
      omega
    · rw [if_neg h2, nn_toInt nB]
      omega
  · rw [if_neg h1]
    by_cases h2 : nn a < nn b
    · rw [if_pos h2, nn_toInt nB]
      omega
    · rw [if_neg h2, nn_toInt nB]
      omega
def nrw (k v : Int32) : Int32 := if k = 0 then v.toInt8.toInt32 else if k = 1 then v.toInt16.toInt32 else v
def gai (k v : Int32) : Int32 := jmax 1 (jmin 400 (nrw k v))
theorem gai_bd {k v : Int32} : bd (gai k v) (mlo 1) (mhi 1) := bd_clamp (a := 1) (b := 400) (by decide) (by decide)
def ent (f st : Int32) : Nat → Int32
  | 0 => f
  | n + 1 => ent f st n + st
def shG (g : Nat → Int32) (k f st : Int32) : Nat → Nat → Int32
  | 0 => g
  | m + 1 => upd (shG g k f st m) (1 + 6 * m + 1) (gai k (ent f st m))
def shp (g : Nat → Int32) (k f st : Int32) (m : Nat) : Bool := !(g (1 + 6 * m + 1) == gai k (ent f st m))
theorem shG_at {g : Nat → Int32} {k f st : Int32} {i : Nat} : ∀ {m : Nat}, m ≤ i → shG g k f st m (1 + 6 * i + 1) = g (1 + 6 * i + 1)
  | 0, _ => rfl
  | m + 1, h => by
    show upd (shG g k f st m) (1 + 6 * m + 1) _ _ = _
    rw [upd_ne (by omega)]
    exact shG_at (by omega)
theorem shG_V {g : Nat → Int32} {k f st : Int32} (hg : gV g) : ∀ {m : Nat}, m ≤ gn g → gV (shG g k f st m) ∧ gn (shG g k f st m) = gn g
  | 0, _ => ⟨hg, rfl⟩
  | m + 1, h => by
    obtain ⟨a1, a2⟩ := shG_V (k := k) (f := f) (st := st) hg (m := m) (by omega)
    exact ⟨gV_put a1 (by omega) (by decide) gai_bd, (gn_upd (by omega)).trans a2⟩
theorem x_sheet {N : Nat} (hN : 4000 ≤ N) : cp_sheet N RR := by
  intro n M1 M2 v1 v2 v3 v4 hn hR
  obtain ⟨q, l, hg, hr, hS, hq, tC, tM, hl, hm⟩ := hR.opn hn
  obtain ⟨en, hn6⟩ := hg.n
  have e1 : (fm_si M2 0 5 0).1 1 = M2.1 1 := si_row (by decide)
  rcases rng v1 0 3 (by decide) with ⟨b', rfl, b1, b2⟩ | c
  · have ew : pMicRow_within M1 (ii b') 0 3 = some 1 := wi_pos (rng_in ⟨b1, b2⟩ (by decide))
    have ew2 : pModel_in (fm_si M2 0 5 0) (ii b') 0 3 = some 1 := in_pos (rng_in ⟨b1, b2⟩ (by decide))
    by_cases c6 : v2 ≤ 6
    · by_cases c3 : ii b' = 3
      · refine cpq hR hq hl (-3) ?_ ?_
        · unfold pMicRow_sheet
          exact ok_bindE ew (ok_neg (by decide) (ok_pos c6 (ok_pos c3 (ok_some ⟨rfl, qC.same hS tC⟩))))
        · unfold pModel_sheet
          exact ok_pt (ok_bindE ew2 (ok_neg (by decide) (ok_pos c6 (ok_pos c3 (ok_some ⟨rfl, qM.same tM⟩)))))
      · by_cases c0 : 0 ≤ v2
        · obtain ⟨w, rfl, hw⟩ : ∃ w : Nat, v2 = nn w ∧ w ≤ 6 := by
            rw [Int32.le_iff_toInt_le] at c6 c0
            have e0 : (0 : Int32).toInt = 0 := rfl
            have e6 : (6 : Int32).toInt = 6 := rfl
            exact ⟨v2.toInt.toNat, by rw [← ii_nat (by omega), ii_of], by omega⟩
          have hcl : ok (pMicRow_sheet N M1 (ii b') (nn w) v3 v4) (fun x => x.1 = nn (ct (shp (M2.1 1) (ii b') v3 v4) (min w (gn (M2.1 1)))) ∧ fr (fun k => k = 4) M1 x.2 ∧ rS x.2 1 (shG (M2.1 1) (ii b') v3 v4 (min w (gn (M2.1 1))))) := by
            unfold pMicRow_sheet
            refine ok_bindE ew (ok_neg (by decide) (ok_pos c6 (ok_neg c3 (ok_pos c0 ?_))))
            refine ok_for (min w (gn (M2.1 1))) (fun i t => t.1 = nn (ct (shp (M2.1 1) (ii b') v3 v4) i) ∧ t.2.1 = ent v3 v4 i ∧ t.2.2.1 = nn i ∧ fr (fun k => k = 4) M1 t.2.2.2 ∧ rS t.2.2.2 1 (shG (M2.1 1) (ii b') v3 v4 i)) ?_ ?_ ⟨rfl, rfl, rfl, fr.rf, hr⟩ (by omega)
            · rintro i ⟨w5, w6, w7, M3⟩ hi ⟨a1, a2, a3, a4, a5⟩ k hk
              try dsimp only at a1 a2 a3 a4 a5
              subst a1
              subst a2
              subst a3
              obtain ⟨g1, g2⟩ := shG_V (k := ii b') (f := v3) (st := v4) hg (m := i) (by omega)
              have hold := (g1.mic (m := i) (by omega)).2.1
              unfold pMicRow_sheet_L41 pMicRow_sheet_L41b
              try dsimp only
              refine ok_neg (by rw [nn_le nB nB]; omega) (ok_bindE (cs_hasMic g1 a5 (by omega)) (ok_neg (by decide) ?_))
              have hnr : pMicRow_narrowed M3 (ii b') (ent v3 v4 i) = some (nrw (ii b') (ent v3 v4 i)) := by
                unfold pMicRow_narrowed nrw
                split
                · rfl
                · split <;> rfl
              refine ok_bindE hnr (ok_bindE rfl (ok_bindE (cs_put (q := 1) g1 a5 (by omega) (by decide) (by decide) gai_bd) ?_))
              try dsimp only
              rw [nn_succ, shG_at (Nat.le_refl i), show jmax 1 (jmin 400 (nrw (ii b') (ent v3 v4 i))) = gai (ii b') (ent v3 v4 i) from rfl]
              have hf : fr (fun k => k = 4) M1 (fm_si M3 (3 + 1) i (gai (ii b') (ent v3 v4 i))) := a4.tr (fr.si rfl)
              have hr' := rS_put (q := 1) (v := gai (ii b') (ent v3 v4 i)) g1 a5 (m := i) (by omega) (by decide)
              have e3 : ct (shp (M2.1 1) (ii b') v3 v4) (i + 1) = ct (shp (M2.1 1) (ii b') v3 v4) i + if shp (M2.1 1) (ii b') v3 v4 i then 1 else 0 := rfl
              by_cases e : M2.1 1 (1 + 6 * i + 1) = gai (ii b') (ent v3 v4 i)
              · rw [if_pos e]
                refine ok_pos (by decide) (hk _ ⟨?_, rfl, rfl, hf, hr'⟩)
                try dsimp only
                rw [e3, if_neg (by unfold shp; rw [e]; simp)]
                rfl
              · rw [if_neg e]
                rw [show 2 + 6 * i = 1 + 6 * i + 1 by omega, shG_at (Nat.le_refl i)] at hold
                refine ok_neg (Int32.not_lt.mpr (bd_ge hold (by decide))) (hk _ ⟨?_, rfl, rfl, hf, hr'⟩)
                try dsimp only
                rw [e3, if_pos (by unfold shp; rw [beq_eq_false_iff_ne.mpr e]; rfl), nn_succ]
            · rintro ⟨w5, w6, w7, M3⟩ ⟨a1, a2, a3, a4, a5⟩ k
              try dsimp only at a1 a2 a3 a4 a5
              subst a1
              subst a2
              subst a3
              obtain ⟨g1, g2⟩ := shG_V (k := ii b') (f := v3) (st := v4) hg (m := min w (gn (M2.1 1))) (by omega)
              unfold pMicRow_sheet_L41 pMicRow_sheet_L41b
              try dsimp only
              by_cases cw : w ≤ gn (M2.1 1)
              · exact ok_pos (by rw [nn_le nB nB]; omega) (ok_some ⟨rfl, a4, a5⟩)
              · refine ok_neg (by rw [nn_le nB nB]; omega) ?_
                rcases mic_or g1 a5 (nn (min w (gn (M2.1 1)))) with ⟨m, hm1, em⟩ | ⟨c1, c2⟩
                · rw [g2] at hm1
                  rw [nn_inj nB nB] at em
                  omega
                · exact ok_bindE c1 (ok_pos rfl (ok_some ⟨rfl, a4, a5⟩))
          have hmd : ok (pModel_sheet N M2 (ii b') (nn w) v3 v4) (fun x => x.1 = nn (ct (shp (M2.1 1) (ii b') v3 v4) (min w (gn (M2.1 1)))) ∧ fr (fun k => k = 0 ∨ k = 1) M2 x.2 ∧ (∀ j, j ≠ 5 → x.2.1 0 j = M2.1 0 j) ∧ x.2.1 1 = shG (M2.1 1) (ii b') v3 v4 (min w (gn (M2.1 1)))) := by
            unfold pModel_sheet
            refine ok_pt (ok_bindE ew2 (ok_neg (by decide) (ok_pos c6 (ok_neg c3 (ok_pos c0 ?_)))))
            refine ok_for (min w (gn (M2.1 1))) (fun i t => t.1 = nn (ct (shp (M2.1 1) (ii b') v3 v4) i) ∧ t.2.1 = ent v3 v4 i ∧ t.2.2.1 = nn i ∧ fr (fun k => k = 0 ∨ k = 1) M2 t.2.2.2 ∧ (∀ j, j ≠ 5 → t.2.2.2.1 0 j = M2.1 0 j) ∧ t.2.2.2.1 1 = shG (M2.1 1) (ii b') v3 v4 i) ?_ ?_ ⟨rfl, rfl, rfl, fr.si (by decide), fun j hj => si_col hj, e1⟩ (by omega)
            · rintro i ⟨w5, w6, w7, M3⟩ hi ⟨a1, a2, a3, a4, a5, a6⟩ k hk
              try dsimp only at a1 a2 a3 a4 a5 a6
              subst a1
              subst a2
              subst a3
              have e0 : M3.1 1 0 = nn (gn (M2.1 1)) := by
                obtain ⟨g1, g2⟩ := shG_V (k := ii b') (f := v3) (st := v4) hg (m := i) (by omega)
                rw [a6, g1.n.1, g2]
              have e3 : ct (shp (M2.1 1) (ii b') v3 v4) (i + 1) = ct (shp (M2.1 1) (ii b') v3 v4) i + if shp (M2.1 1) (ii b') v3 v4 i then 1 else 0 := rfl
              have hJ86 : ok (pModel_sheet_J86 N M3 (ii b') (nn w) v4 (nn (ct (shp (M2.1 1) (ii b') v3 v4) i)) (ent v3 v4 i) (nn i) k (nrw (ii b') (ent v3 v4 i))) (fun x => x.1 = nn (ct (shp (M2.1 1) (ii b') v3 v4) (min w (gn (M2.1 1)))) ∧ fr (fun k => k = 0 ∨ k = 1) M2 x.2 ∧ (∀ j, j ≠ 5 → x.2.1 0 j = M2.1 0 j) ∧ x.2.1 1 = shG (M2.1 1) (ii b') v3 v4 (min w (gn (M2.1 1)))) := by
                unfold pModel_sheet_J86 pModel_sheet_J123
                refine ok_bindE (md_of 1 (by omega) (by decide)) ?_
                rw [a6, shG_at (Nat.le_refl i), nn_succ, show ((1 + (6 * nn i)) + 1 : Int32) = nn (1 + 6 * i + 1) from ix_of i 1]
                have hb1 : fr (fun k => k = 0 ∨ k = 1) M2 (fm_si M3 1 (1 + 6 * i + 1) (gai (ii b') (ent v3 v4 i))) := a4.tr (fr.si (Or.inr rfl))
                have hb2 : ∀ j, j ≠ 5 → (fm_si M3 1 (1 + 6 * i + 1) (gai (ii b') (ent v3 v4 i))).1 0 j = M2.1 0 j := fun j hj => (congrFun (si_row (by decide)) j).trans (a5 j hj)
                have hb3 : (fm_si M3 1 (1 + 6 * i + 1) (gai (ii b') (ent v3 v4 i))).1 1 = shG (M2.1 1) (ii b') v3 v4 (i + 1) := by rw [si_one, a6]; rfl
                refine ok_ite (fun e => ok_st (by omega) nL (hk _ ⟨?_, rfl, rfl, hb1, hb2, hb3⟩)) (fun e => ok_st (by omega) nL (hk _ ⟨?_, rfl, rfl, hb1, hb2, hb3⟩))
                · try dsimp only
                  rw [e3, if_neg (by unfold shp gai; rw [e]; simp), Int32.add_zero]
                  rfl
                · try dsimp only
                  rw [e3, if_pos (by unfold shp gai; rw [beq_eq_false_iff_ne.mpr e]; rfl), nn_succ]
              unfold pModel_sheet_L46 pModel_sheet_L46b
              try dsimp only
              refine ok_neg (by rw [nn_le nB nB]; omega) (ok_neg (by rw [e0, nn_le nB nB]; omega) ?_)
              unfold nrw at hJ86
              by_cases z0 : ii b' = 0
              · rw [if_pos z0] at hJ86
                exact ok_pos z0 hJ86
              · rw [if_neg z0] at hJ86
                refine ok_neg z0 ?_
                by_cases z1 : ii b' = 1
                · rw [if_pos z1] at hJ86
                  exact ok_pos z1 hJ86
                · rw [if_neg z1] at hJ86
                  exact ok_neg z1 hJ86
            · rintro ⟨w5, w6, w7, M3⟩ ⟨a1, a2, a3, a4, a5, a6⟩ k
              try dsimp only at a1 a2 a3 a4 a5 a6
              subst a1
              subst a2
              subst a3
              have e0 : M3.1 1 0 = nn (gn (M2.1 1)) := by
                obtain ⟨g1, g2⟩ := shG_V (k := ii b') (f := v3) (st := v4) hg (m := min w (gn (M2.1 1))) (by omega)
                rw [a6, g1.n.1, g2]
              unfold pModel_sheet_L46 pModel_sheet_L46b
              try dsimp only
              by_cases cw : w ≤ gn (M2.1 1)
              · exact ok_pos (by rw [nn_le nB nB]; omega) (ok_some ⟨rfl, a4, a5, a6⟩)
              · exact ok_neg (by rw [nn_le nB nB]; omega) (ok_pos (by rw [e0, nn_le nB nB]; omega) (ok_some ⟨rfl, a4, a5, a6⟩))
          obtain ⟨⟨r1, M1'⟩, x1, y1, y2, y3⟩ := hcl
          obtain ⟨⟨r2, M2'⟩, x2, d1, d2, d3, d4⟩ := hmd
          try dsimp only at y1 y2 y3 d1 d2 d3 d4
          subst y1
          subst d1
          refine ⟨_, _, _, x1, x2, RR_ch (q := q) hR (fun k hk => y2.1 k (by omega)) (y2.2.1 177 (by decide)) (fun k hk => d2.1 k (by omega)) (fun j hj => d3 j (by omega)) (d2.2.1 3 (by decide)) ?_ ?_ ?_ (hS.kf y2 (by decide) (by decide)) (by omega)⟩
          · rw [d4]; exact (shG_V hg (by omega)).1
          · rw [d4]; exact y3
          · exact rPast_of hR.2.2.2.2.1 (fun a z1 z2 => y2.1 a (by omega)) y2.2.2 (d2.1 13 (by decide)) (d3 25 (by decide))
        · refine cpq hR hq hl (-2) ?_ ?_
          · unfold pMicRow_sheet
            exact ok_bindE ew (ok_neg (by decide) (ok_pos c6 (ok_neg c3 (ok_neg c0 (ok_some ⟨rfl, qC.same hS tC⟩)))))
          · unfold pModel_sheet
            exact ok_pt (ok_bindE ew2 (ok_neg (by decide) (ok_pos c6 (ok_neg c3 (ok_neg c0 (ok_some ⟨rfl, qM.same tM⟩))))))
    · refine cpq hR hq hl (-1) ?_ ?_
      · unfold pMicRow_sheet
        exact ok_bindE ew (ok_neg (by decide) (ok_neg c6 (ok_some ⟨rfl, qC.same hS tC⟩)))
      · unfold pModel_sheet
        exact ok_pt (ok_bindE ew2 (ok_neg (by decide) (ok_neg c6 (ok_some ⟨rfl, qM.same tM⟩))))
  · refine cpq hR hq hl (-1) ?_ ?_
    · unfold pMicRow_sheet
      exact ok_bindE (wi_neg c) (ok_pos rfl (ok_some ⟨rfl, qC.same hS tC⟩))
    · unfold pModel_sheet
      exact ok_pt (ok_bindE (in_neg c) (ok_pos rfl (ok_some ⟨rfl, qM.same tM⟩)))
