/-! ===== calls: beams, weights, agree, loudest, pattern ===== -/
theorem x_beams {N : Nat} (hN : 4000 ≤ N) : cp_beams N RR := by
  intro n M1 M2 v1 hn hR
  obtain ⟨q, l, hg, hr, hS, hq, tC, tM, hl, hm⟩ := hR.opn hn
  have hl4 := hg.l
  rcases rng v1 (-8) 8 (by decide) with ⟨b, rfl, b1, b2⟩ | c
  · refine cpq (l := [pw (BM (M2.1 1) (smp (M2.1 1) All) (lvs (M2.1 1)) b) (gl (M2.1 1)), (lvl (CM (M2.1 1) (smp (M2.1 1) All) (lvs (M2.1 1)) b) (gl (M2.1 1))).toInt64, pw (CM (M2.1 1) (smp (M2.1 1) All) (lvs (M2.1 1)) b) (gl (M2.1 1))]) hR hq (by simp) (lvl (BM (M2.1 1) (smp (M2.1 1) All) (lvs (M2.1 1)) b) (gl (M2.1 1))) ?_ ?_
    · unfold pMicRow_beams
      refine ok_bindE (cs_isDir ⟨b1, b2⟩) (ok_neg (by decide) (ok_bind (cH.begin hg hr hS (by omega) tC) ?_))
      rintro Ma ⟨ha, fa⟩
      refine ok_bind (cs_learnWeights hN ha ⟨b1, b2⟩) ?_
      rintro Mw ⟨hw, sw, vw⟩
      refine ok_bind (cs_takeT hN hg lvs_2 sw vw) ?_
      rintro Mb ⟨fb, sb, vb⟩
      have hb := hw.kf fb (fun k hk => by omega)
      refine ok_bind hb.clear ?_
      rintro Mc ⟨hc, fc⟩
      have sc := sb.kf (lvs_lt hg) fc (fun k hk => by omega)
      refine ok_bindE (cs_powerOf (L := gl (M2.1 1)) hN 190 (by decide +kernel) (by decide +kernel) sc.1 (by omega)) (ok_bind (hc.add (by simp)) ?_)
      rintro Md ⟨hd, fd⟩
      have sd := sc.kf (lvs_lt hg) fd (fun k hk => by omega)
      refine ok_bindE (cs_levelOf (L := gl (M2.1 1)) hN 197 (by decide +kernel) (by decide +kernel) sd.1 (by omega)) (ok_bind (hd.add (by simp)) ?_)
      rintro Me ⟨he, fe⟩
      have se := sd.kf (lvs_lt hg) fe (fun k hk => by omega)
      refine ok_bindE (cs_powerOf (L := gl (M2.1 1)) hN 197 (by decide +kernel) (by decide +kernel) se.1 (by omega)) (ok_bind (he.add (by simp)) ?_)
      rintro Mf ⟨hf, ff⟩
      have sf := se.kf (lvs_lt hg) ff (fun k hk => by omega)
      refine ok_bindE (cs_levelOf (L := gl (M2.1 1)) hN 190 (by decide +kernel) (by decide +kernel) sf.1 (by omega)) (ok_some ⟨lvl_congr sf.2.2.1, ?_⟩)
      have hz := hf.q (q0 := q) (by omega)
      rw [pw_congr sc.2.2.1, fe.at1 (k := 197) (by decide), fd.at1 (k := 197) (by decide), fc.at1 (k := 197) (by decide), lvl_congr vb, pw_congr vb] at hz
      exact hz
    · unfold pModel_beams
      refine ok_pt (ok_bindE (md_isSide ⟨b1, b2⟩) (ok_neg (by decide) ?_))
      refine ok_bind (md_begin0 hN hg hm tM) ?_
      rintro Ma ⟨ha, za⟩
      refine ok_bindE (ha.live hN hg) (ok_bind (md_layWeightsT hN hg ha lvs_2 ⟨b1, b2⟩) ?_)
      rintro Mb ⟨hb, zb, wb, v1, v2, v3⟩
      refine ok_pt ?_
      have hc := hb.clear
      refine ok_bindE (hc.pow hN hg 7 (by decide +kernel) v1) (ok_bind (hc.tell (by simp)) ?_)
      rintro Md ⟨hd, fd, zd⟩
      have d9 : ∀ i, i < gl (M2.1 1) → Md.1 9 i = CM (M2.1 1) (smp (M2.1 1) All) (lvs (M2.1 1)) b i := fun i hi => by rw [fd.at1 (by decide), si_row (by decide)]; exact v3 i hi
      refine ok_bindE (hd.lev hN hg 9 (by decide +kernel) d9) (ok_bind (hd.tell (by simp)) ?_)
      rintro Me ⟨he, fe, ze⟩
      have e9 : ∀ i, i < gl (M2.1 1) → Me.1 9 i = CM (M2.1 1) (smp (M2.1 1) All) (lvs (M2.1 1)) b i := fun i hi => by rw [fe.at1 (by decide)]; exact d9 i hi
      refine ok_bindE (he.pow hN hg 9 (by decide +kernel) e9) (ok_bind (he.tell (by simp)) ?_)
      rintro Mf ⟨hf, ff, zf⟩
      refine ok_bindE (hf.lev hN hg 7 (by decide +kernel) (fun i hi => by rw [ff.at1 (by decide), fe.at1 (by decide), fd.at1 (by decide), si_row (by decide)]; exact v1 i hi)) (ok_some ⟨rfl, hf.q⟩)
  · refine cpq hR hq hl (-1) ?_ ?_
    · unfold pMicRow_beams
      exact ok_bindE (cs_noDir c) (ok_pos rfl (ok_some ⟨rfl, qC.same hS tC⟩))
    · unfold pModel_beams
      exact ok_pt (ok_bindE (md_noSide c) (ok_pos rfl (ok_some ⟨rfl, qM.same tM⟩)))
theorem rg_succ {f : Nat → Int64} {j : Nat} : (List.range (j + 1)).map f = (List.range j).map f ++ [f j] := by
  rw [List.range_succ, List.map_append]
  rfl
theorem x_weights {N : Nat} (hN : 4000 ≤ N) : cp_weights N RR := by
  intro n M1 M2 v1 hn hR
  obtain ⟨q, l, hg, hr, hS, hq, tC, tM, hl, hm⟩ := hR.opn hn
  have hp := pop_le (lvs_lt hg)
  rcases rng v1 (-8) 8 (by decide) with ⟨b, rfl, b1, b2⟩ | c
  · refine cpq (l := (List.range (pop (lvs (M2.1 1)) - 1)).map (fun j => (WM (M2.1 1) (smp (M2.1 1) All) (lvs (M2.1 1)) b j).toInt64)) hR hq (by simp; omega) (nn (pop (lvs (M2.1 1)) - 1)) ?_ ?_
    · unfold pMicRow_weights
      refine ok_bindE (cs_isDir ⟨b1, b2⟩) (ok_neg (by decide) (ok_bind (cH.begin hg hr hS (by omega) tC) ?_))
      rintro Ma ⟨ha, fa⟩
      refine ok_bind (cs_learnWeights hN ha ⟨b1, b2⟩) ?_
      rintro Mw ⟨hw, sw, vw⟩
      refine ok_bind hw.clear ?_
      rintro Mc ⟨hc, fc⟩
      refine ok_for (pop (lvs (M2.1 1)) - 1) (fun j s => s.1 = nn j ∧ cH M1 (M2.1 1) All (q + 1) ((List.range j).map (fun j => (WM (M2.1 1) (smp (M2.1 1) All) (lvs (M2.1 1)) b j).toInt64)) s.2 ∧ fr (fun k => k = 176 ∨ k = 177) Mw s.2) ?_ ?_ ⟨rfl, by exact hc, fc⟩ (by omega)
      · rintro j ⟨v, M3⟩ hj ⟨a1, a2, a3⟩ k hk
        try dsimp only at a1 a2 a3
        subst a1
        unfold pMicRow_weights_L31 pMicRow_weights_L31b
        try dsimp only
        refine ok_neg (by rw [a3.at1 (k := 181) (by decide), sw.2.1, nn_le nB nB]; omega) (ok_ld (by omega) nL ?_)
        rw [a3.at1 (k := 198) (by decide), vw j hj]
        refine ok_bind (a2.add (by simp; omega)) ?_
        rintro M4 ⟨h4, f4⟩
        exact hk _ ⟨nn_succ, by (try dsimp only); rw [rg_succ]; exact h4, a3.tr f4⟩
      · rintro ⟨v, M3⟩ ⟨a1, a2, a3⟩ k
        try dsimp only at a1 a2 a3
        subst a1
        have e : M3.1 181 9 = nn (pop (lvs (M2.1 1)) - 1) := by rw [a3.at1 (k := 181) (by decide)]; exact sw.2.1
        unfold pMicRow_weights_L31 pMicRow_weights_L31b
        try dsimp only
        exact ok_pos (by rw [e, nn_le nB nB]; omega) (ok_some ⟨e, a2.q (by omega)⟩)
    · unfold pModel_weights
      refine ok_pt (ok_bindE (md_isSide ⟨b1, b2⟩) (ok_neg (by decide) ?_))
      refine ok_bind (md_begin0 hN hg hm tM) ?_
      rintro Ma ⟨ha, za⟩
      refine ok_bindE (ha.live hN hg) (ok_bind (md_layWeightsT hN hg ha lvs_2 ⟨b1, b2⟩) ?_)
      rintro Mb ⟨hb, zb, wb, v1, v2, v3⟩
      refine ok_pt ?_
      refine ok_for (pop (lvs (M2.1 1)) - 1) (fun j s => s.1 = nn j ∧ mH M2 All ((List.range j).map (fun j => (WM (M2.1 1) (smp (M2.1 1) All) (lvs (M2.1 1)) b j).toInt64)) s.2 ∧ s.2.1 6 = Mb.1 6 ∧ s.2.1 0 15 = nn (pop (lvs (M2.1 1)) - 1)) ?_ ?_ ⟨rfl, by exact hb.clear, si_row (by decide), by (try dsimp only); rw [si_col (by decide)]; exact wb⟩ (by omega)
      · rintro j ⟨v, M3⟩ hj ⟨a1, a2, a3, a4⟩ k hk
        try dsimp only at a1 a2 a3 a4
        subst a1
        unfold pModel_weights_L34 pModel_weights_L34b
        try dsimp only
        refine ok_neg (by rw [a4, nn_le nB nB]; omega) (ok_ld (by omega) nL ?_)
        rw [a3, v2 j hj]
        refine ok_bind (a2.tell (by simp; omega)) ?_
        rintro M4 ⟨h4, f4, z4⟩
        exact hk _ ⟨nn_succ, by (try dsimp only); rw [rg_succ]; exact h4, by (try dsimp only); rw [f4.at1 (by decide)]; exact a3, by (try dsimp only); rw [z4 15 (by decide)]; exact a4⟩
      · rintro ⟨v, M3⟩ ⟨a1, a2, a3, a4⟩ k
        try dsimp only at a1 a2 a3 a4
        subst a1
        unfold pModel_weights_L34 pModel_weights_L34b
        try dsimp only
        exact ok_pos (by rw [a4, nn_le nB nB]; omega) (ok_some ⟨a4, a2.q⟩)
  · refine cpq hR hq hl (-1) ?_ ?_
    · unfold pMicRow_weights
      exact ok_bindE (cs_noDir c) (ok_pos rfl (ok_some ⟨rfl, qC.same hS tC⟩))
    · unfold pModel_weights
      exact ok_pt (ok_bindE (md_noSide c) (ok_pos rfl (ok_some ⟨rfl, qM.same tM⟩)))
/-! signs -/
def sg (v : Int32) : Int32 := if v ≤ 0 then (if 0 ≤ v then 0 else -1) else 1
theorem md_sign {M : fm_M} {v : Int32} : pModel_signOf M v = some (sg v) := by
  unfold pModel_signOf sg
  split
  · split <;> rfl
  · rfl
theorem cs_sign {M : fm_M} {v : Int32} : pMicRow_signOf M v = some (sg v) := by
  unfold pMicRow_signOf pInteger_compare sg
  by_cases h1 : 0 ≤ v
  · rw [if_pos h1]
    by_cases h2 : v = 0
    · subst h2
      rfl
    · rw [if_neg h2]
      rw [if_neg (fun z => h2 (Int32.le_antisymm z h1))]
      rfl
  · rw [if_neg h1, if_pos (Int32.le_of_lt (Int32.not_le.mp h1)), if_neg h1]
    rfl
def ct (p : Nat → Bool) : Nat → Nat
  | 0 => 0
  | n + 1 => ct p n + if p n then 1 else 0
theorem ct_le {p : Nat → Bool} : ∀ n, ct p n ≤ n
  | 0 => Nat.le_refl _
  | n + 1 => by
    show ct p n + (if p n then 1 else 0) ≤ n + 1
    have := ct_le (p := p) n
    split <;> omega
theorem ct_congr {p p' : Nat → Bool} : ∀ {n : Nat}, (∀ i, i < n → p i = p' i) → ct p n = ct p' n
  | 0, _ => rfl
  | n + 1, h => by
    show ct p n + (if p n then 1 else 0) = ct p' n + (if p' n then 1 else 0)
    rw [ct_congr (fun i hi => h i (by omega)), h n (by omega)]
def agp (g : Nat → Int32) (H : Nat → Int → Int32) (one other : Nat) (b t0 : Int) (i : Nat) : Bool := sg (tr g H one b (t0 + i)) == sg (tr g H other b (t0 + i))
theorem gb_L {g : Nat → Int32} (hg : gV g) (i : Nat) (h : i < 1000000) : (g 38 + g 39 ≤ g 38 + nn i) ↔ gl g ≤ i := by
  have h1 := hg.b
  have h2 := hg.l
  rw [h1.1, h2.1, nn_add, nn_add, nn_le nB nB]
  omega
theorem md_agreeOf {N : Nat} {M : fm_M} {H : Nat → Int → Int32} {one other : Nat} {b : Int} (hN : 4000 ≤ N) (hg : gV (M.1 1)) (hS : sM M H) (h1 : one < gn (M.1 1)) (h2 : other < gn (M.1 1)) (hb : -8 ≤ b ∧ b ≤ 8) : pModel_agreeOf N M (nn one) (nn other) (ii b) = some (nn (ct (agp (M.1 1) H one other b (gb (M.1 1) : Int)) (gl (M.1 1)))) := by
  have hB := hg.b.2
  have hL := hg.l
  unfold pModel_agreeOf
  refine Eq.trans (congrArg _ ?_) (lp_for (gl (M.1 1)) (fun i => (nn (ct (agp (M.1 1) H one other b (gb (M.1 1) : Int)) i), M.1 1 38 + nn i)) _ ?_ ?_ (by omega))
  · show (_, M.1 1 38) = (_, M.1 1 38 + nn 0)
    rw [show nn 0 = (0 : Int32) from rfl, Int32.add_zero]
    rfl
  · intro i hi k
    unfold pModel_agreeOf_L12 pModel_agreeOf_L12b
    try dsimp only
    rw [if_neg (by rw [gb_L hg i (by omega)]; omega), gb_t hg]
    refine (bindE (md_turnedOf hg hS h1 hb (by omega))).trans ?_
    refine (bindE md_sign).trans ?_
    refine (bindE (md_turnedOf hg hS h2 hb (by omega))).trans ?_
    refine (bindE md_sign).trans ?_
    rw [← gb_t hg, Int32.add_assoc, nn_succ]
    show _ = k (nn (ct (agp (M.1 1) H one other b (gb (M.1 1) : Int)) i + if agp (M.1 1) H one other b (gb (M.1 1) : Int) i then 1 else 0), _)
    by_cases c : sg (tr (M.1 1) H one b ((gb (M.1 1) : Int) + i)) = sg (tr (M.1 1) H other b ((gb (M.1 1) : Int) + i))
    · rw [if_pos c, if_pos (show agp (M.1 1) H one other b (gb (M.1 1) : Int) i = true by unfold agp; rw [c]; exact beq_self_eq_true _), nn_succ]
    · rw [if_neg c, if_neg (show ¬ agp (M.1 1) H one other b (gb (M.1 1) : Int) i = true by unfold agp; intro z; exact c (eq_of_beq z)), Int32.add_zero, nn_succ]
      rfl
  · intro k
    unfold pModel_agreeOf_L12 pModel_agreeOf_L12b
    try dsimp only
    rw [if_pos (by rw [gb_L hg _ (by omega)]; exact Nat.le_refl _)]
theorem two_or {M1 : fm_M} {g : Nat → Int32} (hg : gV g) (hr : rS M1 1 g) (v w : Int32) : (∃ a b, a < gn g ∧ b < gn g ∧ a ≠ b ∧ v = nn a ∧ w = nn b ∧ pMicRow_areTwoMics M1 v w = some 1) ∨ (pMicRow_areTwoMics M1 v w = some 0 ∧ ∀ M : fm_M, M.1 1 = g → (pModel_isMic M v = some 0 ∨ (pModel_isMic M v = some 1 ∧ pModel_isMic M w = some 0) ∨ (pModel_isMic M v = some 1 ∧ pModel_isMic M w = some 1 ∧ v = w))) := by
  have hn6 := hg.n.2
  unfold pMicRow_areTwoMics
  rcases mic_or hg hr v with ⟨a, ha, rfl⟩ | ⟨c1, c2⟩
  · rw [cs_hasMic hg hr ha]
    rcases mic_or hg hr w with ⟨b, hb, rfl⟩ | ⟨c1, c2⟩
    · rw [cs_hasMic hg hr hb]
      by_cases e : a = b
      · subst e
        refine Or.inr ⟨?_, fun M e => Or.inr (Or.inr ⟨md_isMic (by rw [e]; exact hg) (by rw [e]; exact ha), md_isMic (by rw [e]; exact hg) (by rw [e]; exact ha), rfl⟩)⟩
        refine (bindE rfl).trans ?_
        rw [if_neg (by decide)]
        refine (bindE rfl).trans ?_
        rw [if_neg (by decide), if_pos rfl]
      · refine Or.inl ⟨a, b, ha, hb, e, rfl, rfl, ?_⟩
        refine (bindE rfl).trans ?_
        rw [if_neg (by decide)]
        refine (bindE rfl).trans ?_
        rw [if_neg (by decide), if_neg (by rw [nn_inj nB nB]; exact e)]
    · refine Or.inr ⟨?_, fun M e => Or.inr (Or.inl ⟨md_isMic (by rw [e]; exact hg) (by rw [e]; exact ha), c2 M e⟩)⟩
      refine (bindE rfl).trans ?_
      rw [if_neg (by decide), c1]
      refine (bindE rfl).trans ?_
      rw [if_pos rfl]
  · refine Or.inr ⟨?_, fun M e => Or.inl (c2 M e)⟩
    rw [c1]
    refine (bindE rfl).trans ?_
    rw [if_pos rfl]
theorem x_agree {N : Nat} (hN : 4000 ≤ N) : cp_agree N RR := by
  intro n M1 M2 v1 v2 v3 hn hR
  obtain ⟨q, l, hg, hr, hS, hq, tC, tM, hl, hm⟩ := hR.opn hn
  have e1 : (fm_si M2 0 5 0).1 1 = M2.1 1 := si_row (by decide)
  have hn6 := hg.n.2
  have hL := hg.l
  rcases two_or hg hr v1 v2 with ⟨a, b', ha, hb', hab, rfl, rfl, ht⟩ | ⟨ct1, ct2⟩
  · rcases rng v3 (-8) 8 (by decide) with ⟨b, rfl, b1, b2⟩ | c
    · refine cpq (l := [(nn (gl (M2.1 1))).toInt64]) hR hq (by simp) (nn (ct (agp (M2.1 1) (smp (M2.1 1) All) a b' b (gb (M2.1 1) : Int)) (gl (M2.1 1)))) ?_ ?_
      · unfold pMicRow_agree
        refine ok_bindE ht (ok_neg (by decide) (ok_bindE (cs_isDir ⟨b1, b2⟩) (ok_neg (by decide) (ok_bind (cH.begin hg hr hS (by omega) tC) ?_))))
        rintro Ma ⟨h0, fa⟩
        refine ok_bind (cs_spanT hN h0 ⟨b1, b2⟩) ?_
        rintro Mb ⟨hb, fb, lb, vb⟩
        have eL := (cs_begl hg hb.2.2.2.1).2
        refine ok_for (gl (M2.1 1)) (fun i s => s = (nn (ct (agp (M2.1 1) (smp (M2.1 1) All) a b' b (gb (M2.1 1) : Int)) i), nn i)) ?_ ?_ rfl (by omega)
        · rintro i s hi rfl k hk
          unfold pMicRow_agree_L37 pMicRow_agree_L37b
          try dsimp only
          refine ok_bindE rfl ?_
          rw [eL]
          refine ok_neg (by rw [nn_le nB nB]; omega) (ok_bindE (cs_turnedRow (by omega)) ?_)
          rw [sh48a ⟨a, by omega⟩]
          refine ok_ld (by omega) nL (ok_bindE cs_sign (ok_bindE (cs_turnedRow (by omega)) ?_))
          rw [sh48a ⟨b', by omega⟩]
          refine ok_ld (by omega) nL (ok_bindE cs_sign ?_)
          rw [vb a i ha hi, vb b' i hb' hi, nn_succ, nn_succ]
          refine ok_ite (fun c => hk _ ?_) (fun c => hk _ ?_)
          · show (_, _) = (nn (ct _ i + if agp (M2.1 1) (smp (M2.1 1) All) a b' b (gb (M2.1 1) : Int) i then 1 else 0), _)
            rw [if_pos (show agp (M2.1 1) (smp (M2.1 1) All) a b' b (gb (M2.1 1) : Int) i = true by unfold agp; rw [c]; exact beq_self_eq_true _)]
          · show (_, _) = (nn (ct _ i + if agp (M2.1 1) (smp (M2.1 1) All) a b' b (gb (M2.1 1) : Int) i then 1 else 0), _)
            rw [if_neg (show ¬ agp (M2.1 1) (smp (M2.1 1) All) a b' b (gb (M2.1 1) : Int) i = true by unfold agp; intro z; exact c (eq_of_beq z))]
            rfl
        · rintro s rfl k
          unfold pMicRow_agree_L37 pMicRow_agree_L37b
          try dsimp only
          refine ok_bindE rfl ?_
          rw [eL]
          refine ok_pos (by rw [nn_le nB nB]; omega) (ok_bind hb.clear ?_)
          rintro Mc ⟨hc, fc⟩
          refine ok_bindE rfl (ok_bind (hc.add (by simp)) ?_)
          rintro Md ⟨hd, fd⟩
          have hz := hd.q (q0 := q) (by omega)
          rw [(cs_begl hg hc.2.2.2.1).2] at hz
          exact ok_some ⟨rfl, hz⟩
      · unfold pModel_agree
        refine ok_pt (ok_bindE (md_isMic (by rw [e1]; exact hg) (by rw [e1]; exact ha)) (ok_neg (by decide) (ok_bindE (md_isMic (by rw [e1]; exact hg) (by rw [e1]; exact hb')) (ok_neg (by decide) (ok_neg (by rw [nn_inj nB nB]; exact hab) (ok_bindE (md_isSide ⟨b1, b2⟩) (ok_neg (by decide) ?_)))))))
        refine ok_bind (md_begin0 hN hg hm tM) ?_
        rintro Ma ⟨h0, za⟩
        refine ok_pt ?_
        refine ok_bind (h0.clear.tell (by simp)) ?_
        rintro Mb ⟨hb, fb, zb⟩
        refine ok_bindE (md_agreeOf hN (by rw [hb.g]; exact hg) hb.2.2 (by rw [hb.g]; exact ha) (by rw [hb.g]; exact hb') ⟨b1, b2⟩) (ok_some ⟨by rw [hb.g], ?_⟩)
        have hz := hb.q
        rw [h0.clear.g, hL.1] at hz
        exact hz
    · refine cpq hR hq hl (-1) ?_ ?_
      · unfold pMicRow_agree
        exact ok_bindE ht (ok_neg (by decide) (ok_bindE (cs_noDir c) (ok_pos rfl (ok_some ⟨rfl, qC.same hS tC⟩))))
      · unfold pModel_agree
        exact ok_pt (ok_bindE (md_isMic (by rw [e1]; exact hg) (by rw [e1]; exact ha)) (ok_neg (by decide) (ok_bindE (md_isMic (by rw [e1]; exact hg) (by rw [e1]; exact hb')) (ok_neg (by decide) (ok_neg (by rw [nn_inj nB nB]; exact hab) (ok_bindE (md_noSide c) (ok_pos rfl (ok_some ⟨rfl, qM.same tM⟩))))))))
  · refine cpq hR hq hl (-1) ?_ ?_
    · unfold pMicRow_agree
      exact ok_bindE ct1 (ok_pos rfl (ok_some ⟨rfl, qC.same hS tC⟩))
    · unfold pModel_agree
      refine ok_pt ?_
      rcases ct2 _ e1 with c | ⟨c, c'⟩ | ⟨c, c', c''⟩
      · exact ok_bindE c (ok_pos rfl (ok_some ⟨rfl, qM.same tM⟩))
      · exact ok_bindE c (ok_neg (by decide) (ok_bindE c' (ok_pos rfl (ok_some ⟨rfl, qM.same tM⟩))))
      · exact ok_bindE c (ok_neg (by decide) (ok_bindE c' (ok_neg (by decide) (ok_pos c'' (ok_some ⟨rfl, qM.same tM⟩)))))
/-! loudest -/
theorem st_bs17 : ∀ n : Fin 17, -8 ≤ (bs n).toInt ∧ (bs n).toInt ≤ 8 := by decide +kernel
theorem bs_dir {n : Nat} (h : n < 17) : bs n = ii (bs n).toInt ∧ -8 ≤ (bs n).toInt ∧ (bs n).toInt ≤ 8 := ⟨(ii_of _).symm, (st_bs17 ⟨n, h⟩).1, (st_bs17 ⟨n, h⟩).2⟩
def ld (p : Nat → Int64) : Nat → Int32 × Int64
  | 0 => (0, -1)
  | n + 1 => if (ld p n).2 < p n then (bs n, p n) else ld p n
def ldp (g : Nat → Int32) (H : Nat → Int → Int32) (v : Int32) (n : Nat) : Int64 := if v = 0 then pw (BM g H (lvs g) (bs n).toInt) (gl g) else pw (CM g H (lvs g) (bs n).toInt) (gl g)
theorem x_loudest {N : Nat} (hN : 4000 ≤ N) : cp_loudest N RR := by
  intro n M1 M2 v1 hn hR
  obtain ⟨q, l, hg, hr, hS, hq, tC, tM, hl, hm⟩ := hR.opn hn
  have ez : mq M2 (fm_si M2 0 5 0) := mq.rf.pt (by decide)
  rcases rng v1 0 1 (by decide) with ⟨b, rfl, b1, b2⟩ | c
  · by_cases h0 : lvs (M2.1 1) = 0
    · refine cpq hR hq hl (-2) ?_ ?_
      · unfold pMicRow_loudest
        refine ok_bindE (wi_pos (rng_in ⟨b1, b2⟩ (by decide))) (ok_neg (by decide) (ok_bindE (cs_live hN hg hr) (ok_pos (by rw [h0]; rfl) (ok_some ⟨rfl, qC.same hS tC⟩))))
      · unfold pModel_loudest
        exact ok_pt (ok_bindE (in_pos (rng_in ⟨b1, b2⟩ (by decide))) (ok_neg (by decide) (ok_bindE (ez.live hN hg) (ok_pos (by rw [h0]; rfl) (ok_some ⟨rfl, qM.same tM⟩)))))
    · have hne : nn (lvs (M2.1 1)) ≠ 0 := nn_ne0 (by omega) (by have := lvs_lt hg; omega)
      refine cpq (l := [(ld (ldp (M2.1 1) (smp (M2.1 1) All) (ii b)) 17).2]) hR hq (by simp) ((ld (ldp (M2.1 1) (smp (M2.1 1) All) (ii b)) 17).1 + 8) ?_ ?_
      · unfold pMicRow_loudest
        refine ok_bindE (wi_pos (rng_in ⟨b1, b2⟩ (by decide))) (ok_neg (by decide) (ok_bindE (cs_live hN hg hr) (ok_neg hne (ok_bind (cH.begin hg hr hS (by omega) tC) ?_))))
        rintro Ma ⟨ha, fa⟩
        refine ok_for 17 (fun i s => s.1 = (ld (ldp (M2.1 1) (smp (M2.1 1) All) (ii b)) i).1 ∧ s.2.1 = (ld (ldp (M2.1 1) (smp (M2.1 1) All) (ii b)) i).2 ∧ s.2.2.1 = nn i ∧ cH M1 (M2.1 1) All (q + 1) l s.2.2.2) ?_ ?_ ⟨rfl, rfl, rfl, ha⟩ (by omega)
        · rintro i ⟨w2, w3, w5, M3⟩ hi ⟨a1, a2, a3, a4⟩ k hk
          try dsimp only at a1 a2 a3 a4
          subst a1
          subst a2
          subst a3
          obtain ⟨d1, d2, d3⟩ := bs_dir hi
          have hJ : ∀ M4, cH M1 (M2.1 1) All (q + 1) l M4 → ∀ c, c = ldp (M2.1 1) (smp (M2.1 1) All) (ii b) i → ok (pMicRow_loudest_J81 N M4 (ii b) (ld (ldp (M2.1 1) (smp (M2.1 1) All) (ii b)) i).1 (ld (ldp (M2.1 1) (smp (M2.1 1) All) (ii b)) i).2 (nn i) (bs i) k c) (fun x => x.1 = (ld (ldp (M2.1 1) (smp (M2.1 1) All) (ii b)) 17).1 + 8 ∧ qC M1 q [(ld (ldp (M2.1 1) (smp (M2.1 1) All) (ii b)) 17).2] x.2) := by
            intro M4 h4 c hc
            subst hc
            have el : ld (ldp (M2.1 1) (smp (M2.1 1) All) (ii b)) (i + 1) = if (ld (ldp (M2.1 1) (smp (M2.1 1) All) (ii b)) i).2 < ldp (M2.1 1) (smp (M2.1 1) All) (ii b) i then (bs i, ldp (M2.1 1) (smp (M2.1 1) All) (ii b) i) else ld (ldp (M2.1 1) (smp (M2.1 1) All) (ii b)) i := rfl
            unfold pMicRow_loudest_J81
            refine ok_ite (fun z => hk _ ?_) (fun z => hk _ ?_)
            · rw [cmp_le] at z
              rw [el, if_neg z]
              exact ⟨rfl, rfl, nn_succ, h4⟩
            · rw [cmp_le, Classical.not_not] at z
              rw [el, if_pos z]
              exact ⟨rfl, rfl, nn_succ, h4⟩
          unfold pMicRow_loudest_L41 pMicRow_loudest_L41b
          try dsimp only
          refine ok_neg (by rw [show (17 : Int32) = nn 17 from rfl, nn_le nB nB]; omega) (ok_bindE (cs_bySize (by omega)) ?_)
          refine ok_ite (fun z => ?_) (fun z => ?_)
          · have hbp := cs_beamPower (b := (bs i).toInt) hN a4 ⟨d2, d3⟩
            rw [← d1] at hbp
            refine ok_bind hbp ?_
            rintro ⟨x, M4⟩ ⟨x1, x2⟩
            refine hJ M4 x2 x ?_
            unfold ldp
            rw [if_pos z]
            exact x1
          · refine ok_bindE (cs_live hN hg a4.2.2.2.1) ?_
            have hbp := cs_cleanPower (b := (bs i).toInt) hN a4 ⟨d2, d3⟩ lvs_2
            rw [← d1] at hbp
            refine ok_bind hbp ?_
            rintro ⟨x, M4⟩ ⟨x1, x2⟩
            refine hJ M4 x2 x ?_
            unfold ldp
            rw [if_neg z]
            exact x1
        · rintro ⟨w2, w3, w5, M3⟩ ⟨a1, a2, a3, a4⟩ k
          try dsimp only at a1 a2 a3 a4
          subst a1
          subst a2
          subst a3
          unfold pMicRow_loudest_L41 pMicRow_loudest_L41b
          try dsimp only
          refine ok_pos (by decide) (ok_bind a4.clear ?_)
          rintro Mc ⟨hc, fc⟩
          refine ok_bind (hc.add (by simp)) ?_
          rintro Md ⟨hd, fd⟩
          exact ok_some ⟨rfl, hd.q (by omega)⟩
      · unfold pModel_loudest
        refine ok_pt (ok_bindE (in_pos (rng_in ⟨b1, b2⟩ (by decide))) (ok_neg (by decide) (ok_bindE (ez.live hN hg) (ok_neg hne ?_))))
        refine ok_bind (md_begin0 hN hg hm tM) ?_
        rintro Ma ⟨ha, za⟩
        refine ok_for 17 (fun i s => s.1 = (ld (ldp (M2.1 1) (smp (M2.1 1) All) (ii b)) i).1 ∧ s.2.1 = (ld (ldp (M2.1 1) (smp (M2.1 1) All) (ii b)) i).2 ∧ s.2.2.1 = nn i ∧ mH M2 All l s.2.2.2) ?_ ?_ ⟨rfl, rfl, rfl, ha⟩ (by omega)
        · rintro i ⟨w2, w3, w5, M3⟩ hi ⟨a1, a2, a3, a4⟩ k hk
          try dsimp only at a1 a2 a3 a4
          subst a1
          subst a2
          subst a3
          obtain ⟨d1, d2, d3⟩ := bs_dir hi
          have hJ : ∀ M4, mH M2 All l M4 → ∀ c, c = ldp (M2.1 1) (smp (M2.1 1) All) (ii b) i → ok (pModel_loudest_J76 N M4 (ii b) (nn (lvs (M2.1 1))) (ld (ldp (M2.1 1) (smp (M2.1 1) All) (ii b)) i).1 (ld (ldp (M2.1 1) (smp (M2.1 1) All) (ii b)) i).2 (nn i) k c) (fun x => x.1 = (ld (ldp (M2.1 1) (smp (M2.1 1) All) (ii b)) 17).1 + 8 ∧ qM M2 [(ld (ldp (M2.1 1) (smp (M2.1 1) All) (ii b)) 17).2] x.2) := by
            intro M4 h4 c hc
            subst hc
            have el : ld (ldp (M2.1 1) (smp (M2.1 1) All) (ii b)) (i + 1) = if (ld (ldp (M2.1 1) (smp (M2.1 1) All) (ii b)) i).2 < ldp (M2.1 1) (smp (M2.1 1) All) (ii b) i then (bs i, ldp (M2.1 1) (smp (M2.1 1) All) (ii b) i) else ld (ldp (M2.1 1) (smp (M2.1 1) All) (ii b)) i := rfl
            unfold pModel_loudest_J76
            refine ok_ite (fun z => ok_bindE (md_turn (by omega)) (hk _ ?_)) (fun z => hk _ ?_)
            · rw [cmp_gt] at z
              rw [el, if_pos z]
              exact ⟨rfl, rfl, nn_succ, h4⟩
            · rw [cmp_gt] at z
              rw [el, if_neg z]
              exact ⟨rfl, rfl, nn_succ, h4⟩
          unfold pModel_loudest_L42 pModel_loudest_L42b
          try dsimp only
          refine ok_neg (by rw [show (16 : Int32) = nn 16 from rfl, nn_lt nB nB]; omega) ?_
          refine ok_ite (fun z => ok_bindE (md_turn (by omega)) ?_) (fun z => ok_bindE (md_turn (by omega)) ?_)
          · have hbp := md_beamPower (b := (bs i).toInt) hN hg a4 lvs_2 ⟨d2, d3⟩
            rw [← d1] at hbp
            refine ok_bind hbp ?_
            rintro ⟨x, M4⟩ ⟨x1, x2, x3⟩
            refine hJ M4 x2 x ?_
            unfold ldp
            rw [if_pos z]
            exact x1
          · have hbp := md_cleanPower (b := (bs i).toInt) hN hg a4 lvs_2 ⟨d2, d3⟩
            rw [← d1] at hbp
            refine ok_bind hbp ?_
            rintro ⟨x, M4⟩ ⟨x1, x2⟩
            refine hJ M4 x2 x ?_
            unfold ldp
            rw [if_neg z]
            exact x1
        · rintro ⟨w2, w3, w5, M3⟩ ⟨a1, a2, a3, a4⟩ k
          try dsimp only at a1 a2 a3 a4
          subst a1
          subst a2
          subst a3
          unfold pModel_loudest_L42 pModel_loudest_L42b
          try dsimp only
          refine ok_pos (by decide) (ok_pt (ok_bind (a4.clear.tell (by simp)) ?_))
          rintro Mc ⟨hc, fc, zc⟩
          exact ok_some ⟨Int32.add_comm _ _, hc.q⟩
  · refine cpq hR hq hl (-1) ?_ ?_
    · unfold pMicRow_loudest
      exact ok_bindE (wi_neg c) (ok_pos rfl (ok_some ⟨rfl, qC.same hS tC⟩))
    · unfold pModel_loudest
      exact ok_pt (ok_bindE (in_neg c) (ok_pos rfl (ok_some ⟨rfl, qM.same tM⟩)))
