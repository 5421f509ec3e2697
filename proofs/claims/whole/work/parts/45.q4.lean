/-! ===== calls: pattern; quiet, clipped, rough ===== -/
def lvn (r : Nat → Int32) (L : Nat) : Nat := ns (fun i => (r i).toInt.natAbs) L / L
theorem sm_ns {r : Nat → Int32} {c : Nat} (hc : c ≤ 1000000) : ∀ {n : Nat}, (∀ i, i < n → ab (r i) c) → sm (fun i => jabs (r i)) n = nn (ns (fun i => (r i).toInt.natAbs) n)
  | 0, _ => rfl
  | n + 1, h => by
    show sm _ n + jabs (r n) = nn (ns _ n + (r n).toInt.natAbs)
    rw [sm_ns hc (fun i hi => h i (by omega)), jabs_nn (h n (by omega)) (by omega), nn_add]
theorem lvl_nn {r : Nat → Int32} {c L : Nat} (hc : c ≤ 1000000) (hL : 1 ≤ L ∧ L ≤ 48) (h : ∀ i, i < L → ab (r i) c) : lvl r L = nn (lvn r L) ∧ lvn r L ≤ 48000000 := by
  have h1 : ns (fun i => (r i).toInt.natAbs) L ≤ L * c := ns_le h
  have h2 : L * c ≤ 48 * 1000000 := Nat.mul_le_mul hL.2 hc
  have h3 : ns (fun i => (r i).toInt.natAbs) L / L ≤ ns (fun i => (r i).toInt.natAbs) L := Nat.div_le_self _ _
  refine ⟨?_, by unfold lvn; omega⟩
  unfold lvl lvn
  rw [sm_ns hc h]
  exact pk_div (by omega) (by omega) (by omega)
theorem BM_ab {g : Nat → Int32} {A : Nat → Bool} {s : Nat} {b : Int} (hg : gV g) (hs : s < 2 ^ gn g) : ∀ i, i < gl g → ab (BM g (smp g A) s b i) 120000 := (ok_BK hg hs (fun m t => smp_ab hg)).2.2.2.1
theorem CM_ab {g : Nat → Int32} {A : Nat → Bool} {s : Nat} {b : Int} (hg : gV g) (hs : s < 2 ^ gn g) : ∀ i, i < gl g → ab (CM g (smp g A) s b i) 3320000 := by
  intro i hi
  have h := ok_BK (b := b) hg hs (fun m t => smp_ab (A := A) (m := m) (t := t) hg)
  exact cl_ab (h.2.2.2.1 i hi) (fun j hj => h.2.2.2.2 j i hj hi) (bw_wt 3) h.1
theorem x_pattern {N : Nat} (hN : 4000 ≤ N) : cp_pattern N RR := by
  intro n M1 M2 hn hR
  obtain ⟨q, l, hg, hr, hS, hq, tC, tM, hl, hm⟩ := hR.opn hn
  have ez : mq M2 (fm_si M2 0 5 0) := mq.rf.pt (by decide)
  have hL := hg.l
  by_cases h0 : lvs (M2.1 1) = 0
  · refine cpq hR hq hl (-2) ?_ ?_
    · unfold pMicRow_pattern
      exact ok_bindE (cs_live hN hg hr) (ok_pos (by rw [h0]; rfl) (ok_some ⟨rfl, qC.same hS tC⟩))
    · unfold pModel_pattern
      exact ok_pt (ok_bindE (ez.live hN hg) (ok_pos (by rw [h0]; rfl) (ok_some ⟨rfl, qM.same tM⟩)))
  · have hne : nn (lvs (M2.1 1)) ≠ 0 := nn_ne0 (by omega) (by have := lvs_lt hg; omega)
    generalize hP : (fun i : Nat => lvn (BM (M2.1 1) (smp (M2.1 1) All) (lvs (M2.1 1)) (-8 + (i : Int))) (gl (M2.1 1))) = P
    have hPi : ∀ i : Nat, lvl (BM (M2.1 1) (smp (M2.1 1) All) (lvs (M2.1 1)) (-8 + (i : Int))) (gl (M2.1 1)) = nn (P i) ∧ P i ≤ 48000000 := by
      intro i
      rw [← hP]
      exact lvl_nn (c := 120000) (by decide) (by omega) (BM_ab hg lvs_2)
    refine cpq (l := (List.range 17).map (fun i => (nn (P i)).toInt64)) hR hq (by simp) (nn (am P 16)) ?_ ?_
    · unfold pMicRow_pattern
      refine ok_bindE (cs_live hN hg hr) (ok_neg hne (ok_bind (cH.begin hg hr hS (by omega) tC) ?_))
      rintro Ma ⟨ha, fa⟩
      refine ok_bind ha.clear ?_
      rintro Mc ⟨hc, fc⟩
      refine ok_for 17 (fun i s => s.2.2.1 = ii (-8 + (i : Int)) ∧ cH M1 (M2.1 1) All (q + 1) ((List.range i).map (fun i => (nn (P i)).toInt64)) s.2.2.2 ∧ ((i = 0 ∧ s.2.1 = -1) ∨ (0 < i ∧ s.1 = ii (-8 + ((am P (i - 1) : Nat) : Int)) ∧ s.2.1 = nn (P (am P (i - 1)))))) ?_ ?_ ⟨rfl, by exact hc, Or.inl ⟨rfl, rfl⟩⟩ (by omega)
      · rintro i ⟨w1, w2, w3, M3⟩ hi ⟨a1, a2, a3⟩ k hk
        try dsimp only at a1 a2 a3
        subst a1
        unfold pMicRow_pattern_L36 pMicRow_pattern_L36b
        try dsimp only
        refine ok_neg (by rw [show (8 : Int32) = ii 8 from rfl, ii_lt (by omega)]; omega) (ok_bind (cs_spanT hN a2 (by omega)) ?_)
        rintro M4 ⟨h4, f4, l4, t4⟩
        refine ok_bindE (cs_live hN hg h4.2.2.2.1) (ok_bind (cs_mixT hN hg l4 (by omega) lvs_2 t4) ?_)
        rintro M5 ⟨f5, v5⟩
        have h5 := h4.kf f5 (fun k hk => by omega)
        have hlev := cs_levelOf (M := M5) (L := gl (M2.1 1)) hN 190 (by decide +kernel) (by decide +kernel) (by rw [f5.at1 (by decide)]; exact l4) (by omega)
        rw [lvl_congr (q := BM (M2.1 1) (smp (M2.1 1) All) (lvs (M2.1 1)) (-8 + (i : Int))) v5, (hPi i).1] at hlev
        refine ok_bindE hlev (ok_bind (h5.add (by simp; omega)) ?_)
        rintro M6 ⟨h6, f6⟩
        have e8 : ii (-8 + (i : Int)) + 1 = ii (-8 + ((i + 1 : Nat) : Int)) := by
          rw [show (1 : Int32) = ii 1 from rfl, ii_add]
          congr 1
          omega
        rw [e8]
        rw [← rg_succ] at h6
        have hpi := (hPi i).2
        rcases a3 with ⟨b1, b2⟩ | ⟨b0, b1, b2⟩
        · subst b1
          exact ok_pos (by rw [b2]; decide) (hk _ ⟨rfl, h6, Or.inr ⟨by omega, rfl, rfl⟩⟩)
        · have hpa := (hPi (am P (i - 1))).2
          have ea : am P i = if P i < P (am P (i - 1)) then i else am P (i - 1) := by
            obtain ⟨i', rfl⟩ : ∃ i', i = i' + 1 := ⟨i - 1, by omega⟩
            rfl
          refine ok_neg (by rw [b2, show (0 : Int32) = nn 0 from rfl, nn_lt nB nB]; omega) ?_
          rw [b2]
          refine ok_ite (fun z => hk _ ⟨rfl, h6, Or.inr ⟨by omega, ?_, ?_⟩⟩) (fun z => hk _ ⟨rfl, h6, Or.inr ⟨by omega, ?_, ?_⟩⟩)
          · rw [nn_le nB nB] at z
            rw [show i + 1 - 1 = i from rfl, ea, if_neg (by omega)]
            exact b1
          · rw [nn_le nB nB] at z
            rw [show i + 1 - 1 = i from rfl, ea, if_neg (by omega)]
          · rw [nn_le nB nB] at z
            rw [show i + 1 - 1 = i from rfl, ea, if_pos (by omega)]
          · rw [nn_le nB nB] at z
            rw [show i + 1 - 1 = i from rfl, ea, if_pos (by omega)]
      · rintro ⟨w1, w2, w3, M3⟩ ⟨a1, a2, a3⟩ k
        try dsimp only at a1 a2 a3
        subst a1
        unfold pMicRow_pattern_L36 pMicRow_pattern_L36b
        try dsimp only
        refine ok_pos (by decide) (ok_some ⟨?_, a2.q (by omega)⟩)
        rcases a3 with ⟨b1, b2⟩ | ⟨b0, b1, b2⟩
        · omega
        · try dsimp only
          rw [b1, show am P (17 - 1) = am P 16 from rfl, show (8 : Int32) = ii 8 from rfl, ii_add, nn_ii]
          congr 1
          omega
    · unfold pModel_pattern
      refine ok_pt (ok_bindE (ez.live hN hg) (ok_neg hne ?_))
      refine ok_bind (md_begin0 hN hg hm tM) ?_
      rintro Ma ⟨ha, za⟩
      refine ok_pt ?_
      refine ok_for 17 (fun i s => s.2.2.1 = ii (-8 + (i : Int)) ∧ mH M2 All ((List.range i).map (fun i => (nn (P i)).toInt64)) s.2.2.2 ∧ (i = 0 ∨ (0 < i ∧ s.1 = ii (-8 + ((am P (i - 1) : Nat) : Int)) ∧ s.2.1 = nn (P (am P (i - 1)))))) ?_ ?_ ⟨rfl, by exact ha.clear, Or.inl rfl⟩ (by omega)
      · rintro i ⟨w1, w2, w3, M3⟩ hi ⟨a1, a2, a3⟩ k hk
        try dsimp only at a1 a2 a3
        subst a1
        unfold pModel_pattern_L34 pModel_pattern_L34b
        try dsimp only
        refine ok_neg (by rw [show (8 : Int32) = ii 8 from rfl, ii_lt (by omega)]; omega) (ok_bind (md_layBeamT hN hg a2 lvs_2 (by omega)) ?_)
        rintro M4 ⟨h4, f4, v4⟩
        have hlev := h4.lev hN hg 7 (by decide +kernel) v4
        rw [(hPi i).1] at hlev
        refine ok_bindE hlev (ok_bind (h4.tell (by simp; omega)) ?_)
        rintro M6 ⟨h6, f6, z6⟩
        have e8 : ii (-8 + (i : Int)) + 1 = ii (-8 + ((i + 1 : Nat) : Int)) := by
          rw [show (1 : Int32) = ii 1 from rfl, ii_add]
          congr 1
          omega
        rw [e8]
        rw [← rg_succ] at h6
        have hpi := (hPi i).2
        rcases a3 with b1 | ⟨b0, b1, b2⟩
        · subst b1
          exact ok_pos (by decide) (hk _ ⟨rfl, h6, Or.inr ⟨by omega, rfl, rfl⟩⟩)
        · have hpa := (hPi (am P (i - 1))).2
          have ea : am P i = if P i < P (am P (i - 1)) then i else am P (i - 1) := by
            obtain ⟨i', rfl⟩ : ∃ i', i = i' + 1 := ⟨i - 1, by omega⟩
            rfl
          refine ok_neg (by rw [show (-8 : Int32) = ii (-8) from rfl, ii_le (by omega)]; omega) ?_
          rw [b2]
          refine ok_ite (fun z => hk _ ⟨rfl, h6, Or.inr ⟨by omega, ?_, ?_⟩⟩) (fun z => hk _ ⟨rfl, h6, Or.inr ⟨by omega, ?_, ?_⟩⟩)
          · rw [nn_lt nB nB] at z
            rw [show i + 1 - 1 = i from rfl, ea, if_pos (by omega)]
          · rw [nn_lt nB nB] at z
            rw [show i + 1 - 1 = i from rfl, ea, if_pos (by omega)]
          · rw [nn_lt nB nB] at z
            rw [show i + 1 - 1 = i from rfl, ea, if_neg (by omega)]
            exact b1
          · rw [nn_lt nB nB] at z
            rw [show i + 1 - 1 = i from rfl, ea, if_neg (by omega)]
      · rintro ⟨w1, w2, w3, M3⟩ ⟨a1, a2, a3⟩ k
        try dsimp only at a1 a2 a3
        subst a1
        unfold pModel_pattern_L34 pModel_pattern_L34b
        try dsimp only
        refine ok_pos (by decide) (ok_some ⟨?_, a2.q⟩)
        rcases a3 with b1 | ⟨b0, b1, b2⟩
        · omega
        · try dsimp only
          rw [b1, show am P (17 - 1) = am P 16 from rfl, show (8 : Int32) = ii 8 from rfl, ii_add, nn_ii]
          congr 1
          omega
/-! quiet, clipped, rough -/
def qz (r : Nat → Int32) : Nat → Nat → Bool
  | _, 0 => true
  | i, c + 1 => (r i == 0) && qz r (i + 1) c
theorem qz_congr {r p : Nat → Int32} : ∀ {c i : Nat}, (∀ j, i ≤ j → j < i + c → r j = p j) → qz r i c = qz p i c
  | 0, _, _ => rfl
  | c + 1, i, h => by
    show ((r i == 0) && qz r (i + 1) c) = ((p i == 0) && qz p (i + 1) c)
    rw [h i (by omega) (by omega), qz_congr (fun j a b => h j (by omega) (by omega))]
theorem qz_step {r : Nat → Int32} {i L : Nat} (h : i < L) : qz r i (L - i) = ((r i == 0) && qz r (i + 1) (L - (i + 1))) := by
  obtain ⟨c, e⟩ : ∃ c, L - i = c + 1 := ⟨L - i - 1, by omega⟩
  rw [e, show L - (i + 1) = c by omega]
  rfl
def cpl (r : Nat → Int32) (c : Int32) (i : Nat) : Bool := jabs (r i) == c
def rgh (r : Nat → Int32) (i : Nat) : Bool := !(sg (r i) == sg (r (i + 1)))
theorem cs_isQuiet {N : Nat} {M : fm_M} {L : Nat} (hN : 4000 ≤ N) (hL : M.1 181 10 = nn L) (h2 : L ≤ 48) {r : Nat → Int32} (hr : ∀ i, i < L → M.1 189 i = r i) : pBench_isQuiet N M = some (if qz r 0 L then 1 else 0) := by
  unfold pBench_isQuiet
  refine lp_res L (fun i => nn i) (fun i => some (if qz r i (L - i) then 1 else 0)) ?_ ?_ (by omega)
  · intro i hi k hk
    unfold pBench_isQuiet_L2 pBench_isQuiet_L2b
    rw [hL, if_neg (by rw [nn_le nB nB]; omega), ldE (by omega) nL, hr i hi, nn_succ]
    try dsimp only at hk ⊢
    rw [hk, qz_step hi]
    by_cases c : r i = 0
    · rw [if_pos c, c]
      rfl
    · rw [if_neg c, show (r i == 0) = false from beq_eq_false_iff_ne.mpr c]
      rfl
  · intro k
    unfold pBench_isQuiet_L2 pBench_isQuiet_L2b
    rw [hL, if_pos (by rw [nn_le nB nB]; omega), Nat.sub_self]
    rfl
theorem cs_clips {N : Nat} {M : fm_M} {L : Nat} (hN : 4000 ≤ N) (hL : M.1 181 10 = nn L) (h2 : L ≤ 48) {r : Nat → Int32} (hr : ∀ i, i < L → M.1 189 i = r i) : pBench_clips N M = some (nn (ct (cpl r (M.1 14 0)) L)) := by
  unfold pBench_clips
  refine lp_for L (fun i => (nn (ct (cpl r (M.1 14 0)) i), nn i)) _ ?_ ?_ (by omega)
  · intro i hi k
    unfold pBench_clips_L4 pBench_clips_L4b
    try dsimp only
    rw [hL, if_neg (by rw [nn_le nB nB]; omega), ldE (by omega) nL, hr i hi, nn_succ, nn_succ]
    show _ = k (nn (ct (cpl r (M.1 14 0)) i + if cpl r (M.1 14 0) i then 1 else 0), _)
    by_cases c : jabs (r i) = M.1 14 0
    · rw [if_pos c, if_pos (show cpl r (M.1 14 0) i = true from beq_iff_eq.mpr c)]
    · rw [if_neg c, if_neg (show ¬ cpl r (M.1 14 0) i = true from fun z => c (beq_iff_eq.mp z))]
      rfl
  · intro k
    unfold pBench_clips_L4 pBench_clips_L4b
    try dsimp only
    rw [hL, if_pos (by rw [nn_le nB nB]; omega)]
theorem cs_rough {N : Nat} {M : fm_M} {L : Nat} (hN : 4000 ≤ N) (hL : M.1 181 10 = nn L) (h1 : 1 ≤ L) (h2 : L ≤ 48) {r : Nat → Int32} (hr : ∀ i, i < L → M.1 189 i = r i) : pBench_turnsOfSign N M = some (nn (ct (rgh r) (L - 1))) := by
  unfold pBench_turnsOfSign
  refine lp_for (L - 1) (fun i => (nn (ct (rgh r) i), nn (i + 1))) _ ?_ ?_ (by omega)
  · intro i hi k
    unfold pBench_turnsOfSign_L4 pBench_turnsOfSign_L4b
    try dsimp only
    rw [hL, if_neg (by rw [nn_le nB nB]; omega), show nn (i + 1) - 1 = nn i from nn_sub (i := i + 1) (j := 1) (by omega), ldE (by omega) nL, hr i (by omega)]
    refine (bindE cs_sign).trans ?_
    rw [ldE (by omega) nL, hr (i + 1) (by omega)]
    refine (bindE cs_sign).trans ?_
    show _ = k (nn (ct (rgh r) i + if rgh r i then 1 else 0), _)
    by_cases c : sg (r i) = sg (r (i + 1))
    · rw [if_pos c, if_neg (show ¬ rgh r i = true by unfold rgh; rw [c]; simp), nn_succ]
      rfl
    · rw [if_neg c, if_pos (show rgh r i = true by unfold rgh; rw [beq_eq_false_iff_ne.mpr c]; rfl), nn_succ, nn_succ]
  · intro k
    unfold pBench_turnsOfSign_L4 pBench_turnsOfSign_L4b
    try dsimp only
    rw [hL, if_pos (by rw [nn_le nB nB]; omega)]
theorem md_isQuiet {N : Nat} {M : fm_M} {H : Nat → Int → Int32} {m : Nat} (hN : 4000 ≤ N) (hg : gV (M.1 1)) (hS : sM M H) (hm : m < gn (M.1 1)) : pModel_isQuiet N M (nn m) = some (if qz (fun i => H m ((gb (M.1 1) : Int) + i)) 0 (gl (M.1 1)) then 1 else 0) := by
  have hB := hg.b.2
  have hL := hg.l
  unfold pModel_isQuiet
  refine Eq.trans (congrArg _ ?_) (lp_res (gl (M.1 1)) (fun i => M.1 1 38 + nn i) (fun i => some (if qz (fun i => H m ((gb (M.1 1) : Int) + i)) i (gl (M.1 1) - i) then 1 else 0)) ?_ ?_ (by omega))
  · show M.1 1 38 = M.1 1 38 + nn 0
    rw [show nn 0 = (0 : Int32) from rfl, Int32.add_zero]
  · intro i hi k hk
    unfold pModel_isQuiet_L8 pModel_isQuiet_L8b
    try dsimp only at hk ⊢
    rw [if_neg (by rw [gb_L hg i (by omega)]; omega), gb_t hg]
    refine (bindE (md_heard hg hS hm (by omega))).trans ?_
    rw [← gb_t hg, Int32.add_assoc, nn_succ, hk, qz_step hi]
    by_cases c : H m ((gb (M.1 1) : Int) + i) = 0
    · rw [if_pos c, c]
      rfl
    · rw [if_neg c, show (H m ((gb (M.1 1) : Int) + i) == 0) = false from beq_eq_false_iff_ne.mpr c]
      rfl
  · intro k
    unfold pModel_isQuiet_L8 pModel_isQuiet_L8b
    try dsimp only
    rw [if_pos (by rw [gb_L hg _ (by omega)]; exact Nat.le_refl _), Nat.sub_self]
    rfl
theorem md_clippedOf {N : Nat} {M : fm_M} {H : Nat → Int → Int32} {m : Nat} (hN : 4000 ≤ N) (hg : gV (M.1 1)) (hS : sM M H) (hm : m < gn (M.1 1)) : pModel_clippedOf N M (nn m) = some (nn (ct (cpl (fun i => H m ((gb (M.1 1) : Int) + i)) (M.1 1 37)) (gl (M.1 1)))) := by
  have hB := hg.b.2
  have hL := hg.l
  unfold pModel_clippedOf
  refine Eq.trans (congrArg _ ?_) (lp_for (gl (M.1 1)) (fun i => (nn (ct (cpl (fun i => H m ((gb (M.1 1) : Int) + i)) (M.1 1 37)) i), M.1 1 38 + nn i)) _ ?_ ?_ (by omega))
  · show (_, M.1 1 38) = (_, M.1 1 38 + nn 0)
    rw [show nn 0 = (0 : Int32) from rfl, Int32.add_zero]
    rfl
  · intro i hi k
    unfold pModel_clippedOf_L10 pModel_clippedOf_L10b
    try dsimp only
    rw [if_neg (by rw [gb_L hg i (by omega)]; omega), gb_t hg]
    refine (bindE (md_heard hg hS hm (by omega))).trans ?_
    rw [← gb_t hg, Int32.add_assoc]
    show _ = k (nn (ct (cpl (fun i => H m ((gb (M.1 1) : Int) + i)) (M.1 1 37)) i + if cpl (fun i => H m ((gb (M.1 1) : Int) + i)) (M.1 1 37) i then 1 else 0), _)
    by_cases c : jabs (H m ((gb (M.1 1) : Int) + i)) = M.1 1 37
    · rw [if_pos c, if_pos (show cpl (fun i => H m ((gb (M.1 1) : Int) + i)) (M.1 1 37) i = true from beq_iff_eq.mpr c), nn_succ, nn_succ]
    · rw [if_neg c, if_neg (show ¬ cpl (fun i => H m ((gb (M.1 1) : Int) + i)) (M.1 1 37) i = true from fun z => c (beq_iff_eq.mp z)), Int32.add_zero, nn_succ]
      rfl
  · intro k
    unfold pModel_clippedOf_L10 pModel_clippedOf_L10b
    try dsimp only
    rw [if_pos (by rw [gb_L hg _ (by omega)]; exact Nat.le_refl _)]
theorem md_roughOf {N : Nat} {M : fm_M} {H : Nat → Int → Int32} {m : Nat} (hN : 4000 ≤ N) (hg : gV (M.1 1)) (hS : sM M H) (hm : m < gn (M.1 1)) : pModel_roughOf N M (nn m) = some (nn (ct (rgh (fun i => H m ((gb (M.1 1) : Int) + i))) (gl (M.1 1) - 1))) := by
  have hB := hg.b
  have hL := hg.l
  unfold pModel_roughOf
  refine lp_for (gl (M.1 1) - 1) (fun i => (nn (ct (rgh (fun i => H m ((gb (M.1 1) : Int) + i))) i), M.1 1 38 + nn (i + 1))) _ ?_ ?_ (by omega)
  · intro i hi k
    unfold pModel_roughOf_L12 pModel_roughOf_L12b
    try dsimp only
    have em : (M.1 1 38 + nn (i + 1)) - 1 = M.1 1 38 + nn i := by
      rw [hB.1, nn_add, nn_add]
      exact nn_sub (i := gb (M.1 1) + (i + 1)) (j := 1) (by omega)
    rw [if_neg (by rw [gb_L hg _ (by omega)]; omega), em, gb_t hg, gb_t hg]
    refine (bindE (md_heard hg hS hm (by omega))).trans ?_
    refine (bindE md_sign).trans ?_
    refine (bindE (md_heard hg hS hm (by omega))).trans ?_
    refine (bindE md_sign).trans ?_
    rw [← gb_t hg, Int32.add_assoc]
    show _ = k (nn (ct (rgh (fun i => H m ((gb (M.1 1) : Int) + i))) i + if rgh (fun i => H m ((gb (M.1 1) : Int) + i)) i then 1 else 0), _)
    by_cases c : sg (H m ((gb (M.1 1) : Int) + ((i + 1 : Nat) : Int))) = sg (H m ((gb (M.1 1) : Int) + i))
    · rw [if_pos c, if_neg (show ¬ rgh (fun i => H m ((gb (M.1 1) : Int) + i)) i = true by unfold rgh; rw [c]; simp), Int32.add_zero, nn_succ]
      rfl
    · rw [if_neg c, if_pos (show rgh (fun i => H m ((gb (M.1 1) : Int) + i)) i = true by unfold rgh; rw [beq_eq_false_iff_ne.mpr (fun z => c z.symm)]; rfl), nn_succ, nn_succ]
  · intro k
    unfold pModel_roughOf_L12 pModel_roughOf_L12b
    try dsimp only
    rw [if_pos (by rw [gb_L hg _ (by omega)]; omega)]
