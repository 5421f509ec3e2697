/-! ===== calls: worst, best, strongest, masks, behind ===== -/
def wl (p : Nat → Int64) (lv : Nat → Bool) (w : Nat → Int32) : Nat → Int32 × Int64
  | 0 => (-1, 0)
  | m + 1 => if lv m then (if (wl p lv w m).1 = -1 ∨ p m < (wl p lv w m).2 then (w m, p m) else wl p lv w m) else wl p lv w m
theorem wl_no {p : Nat → Int64} {lv : Nat → Bool} {w : Nat → Int32} {m : Nat} (h : lv m = false) : wl p lv w (m + 1) = wl p lv w m := by
  show (if lv m then _ else _) = _
  rw [h]
  rfl
theorem wl_take {p : Nat → Int64} {lv : Nat → Bool} {w : Nat → Int32} {m : Nat} (h : lv m = true) (h2 : (wl p lv w m).1 = -1 ∨ p m < (wl p lv w m).2) : wl p lv w (m + 1) = (w m, p m) := by
  show (if lv m then (if _ then _ else _) else _) = _
  rw [h, if_pos rfl, if_pos h2]
theorem wl_keep {p : Nat → Int64} {lv : Nat → Bool} {w : Nat → Int32} {m : Nat} (h : lv m = true) (h2 : ¬ (wl p lv w m).1 = -1) (h3 : ¬ p m < (wl p lv w m).2) : wl p lv w (m + 1) = wl p lv w m := by
  show (if lv m then (if _ then _ else _) else _) = _
  rw [h, if_pos rfl, if_neg (fun z => z.elim h2 h3)]
theorem x_worst {N : Nat} (hN : 4000 ≤ N) : cp_worst N RR := by
  intro n M1 M2 v1 hn hR
  obtain ⟨q, l, hg, hr, hS, hq, tC, tM, hl, hm⟩ := hR.opn hn
  have ez : mq M2 (fm_si M2 0 5 0) := mq.rf.pt (by decide)
  have h64 := lvs_lt hg
  have hp := pop_le h64
  obtain ⟨en, hn6⟩ := hg.n
  rcases rng v1 (-8) 8 (by decide) with ⟨b, rfl, b1, b2⟩ | c
  · by_cases h2 : 2 ≤ pop (lvs (M2.1 1))
    · have hc2 : (2 : Int32) ≤ nn (pop (lvs (M2.1 1))) := by rw [show (2 : Int32) = nn 2 from rfl, nn_le nB nB]; exact h2
      generalize hpp : (fun m : Nat => pw (CM (M2.1 1) (smp (M2.1 1) All) (wo (lvs (M2.1 1)) m) b) (gl (M2.1 1))) = p
      have hpi : ∀ m, pw (CM (M2.1 1) (smp (M2.1 1) All) (wo (lvs (M2.1 1)) m) b) (gl (M2.1 1)) = p m := fun m => by rw [← hpp]
      have hwo : ∀ {m}, m < gn (M2.1 1) → wo (lvs (M2.1 1)) m < 2 ^ gn (M2.1 1) := fun {m} h => Nat.lt_of_le_of_lt (wo_le h64 (by omega)) lvs_2
      refine cpq (l := [(wl p (fun m => (lvs (M2.1 1)).testBit m) nn (gn (M2.1 1))).2]) hR hq (by simp) (wl p (fun m => (lvs (M2.1 1)).testBit m) nn (gn (M2.1 1))).1 ?_ ?_
      · unfold pMicRow_worst
        refine ok_bindE (cs_isDir ⟨b1, b2⟩) (ok_neg (by decide) (ok_bindE (cs_liveCount hN hg hr) (ok_pos hc2 (ok_bind (cH.begin hg hr hS (by omega) tC) ?_))))
        rintro Ma ⟨ha, fa⟩
        refine ok_for (gn (M2.1 1)) (fun m s => (s.1, s.2.1) = wl p (fun m => (lvs (M2.1 1)).testBit m) nn m ∧ s.2.2.1 = nn m ∧ cH M1 (M2.1 1) All (q + 1) l s.2.2.2) ?_ ?_ ⟨rfl, rfl, ha⟩ (by omega)
        · rintro m ⟨w2, w3, w5, M3⟩ hm1 ⟨a1, a3, a4⟩ k hk
          try dsimp only at a1 a3 a4
          subst a3
          unfold pMicRow_worst_L38 pMicRow_worst_L38b
          try dsimp only
          refine ok_neg (by rw [a4.2.2.2.1.n, en, nn_le nB nB]; omega) (ok_bindE (cs_isLive hg a4.2.2.2.1 hm1) ?_)
          rw [nn_succ]
          by_cases hlv : M2.1 1 (6 + 6 * m) = 0
          · have hb' := (lvs_live hm1).mpr hlv
            rw [if_pos hlv]
            refine ok_neg (by decide) (ok_bindE (cs_live hN hg a4.2.2.2.1) ?_)
            rw [wo_eq h64 (by omega)]
            refine ok_bind (cs_cleanPower hN a4 ⟨b1, b2⟩ (hwo hm1)) ?_
            rintro ⟨x, M4⟩ ⟨x1, x2⟩
            try dsimp only at x1 x2 ⊢
            rw [hpi] at x1
            subst x1
            refine ok_ite (fun z => hk _ ⟨?_, rfl, x2⟩) (fun z => ok_ite (fun z2 => hk _ ⟨?_, rfl, x2⟩) (fun z2 => hk _ ⟨?_, rfl, x2⟩))
            · exact (wl_take hb' (Or.inl (by rw [← a1]; exact z))).symm
            · rw [cmp_ge] at z2
              rw [wl_keep hb' (by rw [← a1]; exact z) (by rw [← a1]; exact z2)]
              exact a1
            · rw [cmp_ge, Classical.not_not] at z2
              exact (wl_take hb' (Or.inr (by rw [← a1]; exact z2))).symm
          · have hb' : (lvs (M2.1 1)).testBit m = false := by
              cases z : (lvs (M2.1 1)).testBit m
              · rfl
              · exact absurd ((lvs_live hm1).mp z) hlv
            rw [if_neg hlv]
            exact ok_pos rfl (hk _ ⟨by rw [wl_no hb']; exact a1, rfl, a4⟩)
        · rintro ⟨w2, w3, w5, M3⟩ ⟨a1, a3, a4⟩ k
          try dsimp only at a1 a3 a4
          subst a3
          unfold pMicRow_worst_L38 pMicRow_worst_L38b
          try dsimp only
          refine ok_pos (by rw [a4.2.2.2.1.n, en, nn_le nB nB]; omega) (ok_bind a4.clear ?_)
          rintro Mc ⟨hc, fc⟩
          refine ok_bind (hc.add (by simp)) ?_
          rintro Md ⟨hd, fd⟩
          rw [← a1]
          exact ok_some ⟨rfl, hd.q (by omega)⟩
      · unfold pModel_worst
        refine ok_pt (ok_bindE (md_isSide ⟨b1, b2⟩) (ok_neg (by decide) (ok_bindE (ez.live hN hg) (ok_bindE (bt_countBits (by omega) h64) (ok_pos hc2 (ok_bind (md_begin0 hN hg hm tM) ?_))))))
        rintro Ma ⟨ha, za⟩
        refine ok_for (gn (M2.1 1)) (fun m s => (s.1, s.2.1) = wl p (fun m => (lvs (M2.1 1)).testBit m) nn m ∧ s.2.2.1 = nn m ∧ mH M2 All l s.2.2.2) ?_ ?_ ⟨rfl, rfl, ha⟩ (by omega)
        · rintro m ⟨w2, w3, w5, M3⟩ hm1 ⟨a1, a3, a4⟩ k hk
          try dsimp only at a1 a3 a4
          subst a3
          unfold pModel_worst_L42 pModel_worst_L42b
          try dsimp only
          refine ok_neg (by rw [a4.g, en, nn_le nB nB]; omega) (ok_bindE (md_has h64 (by omega)) ?_)
          rw [nn_succ]
          cases hb' : (lvs (M2.1 1)).testBit m
          · exact ok_pos rfl (hk _ ⟨by rw [wl_no hb']; exact a1, rfl, a4⟩)
          · refine ok_neg (by decide) ?_
            rw [wo_eq h64 (by omega)]
            refine ok_bind (md_cleanPower hN hg a4 (hwo hm1) ⟨b1, b2⟩) ?_
            rintro ⟨x, M4⟩ ⟨x1, x2⟩
            try dsimp only at x1 x2 ⊢
            rw [hpi] at x1
            subst x1
            refine ok_ite (fun z => hk _ ⟨?_, rfl, x2⟩) (fun z => ok_ite (fun z2 => hk _ ⟨?_, rfl, x2⟩) (fun z2 => hk _ ⟨?_, rfl, x2⟩))
            · exact (wl_take hb' (Or.inl (by rw [← a1]; exact z))).symm
            · rw [cmp_lt] at z2
              exact (wl_take hb' (Or.inr (by rw [← a1]; exact z2))).symm
            · rw [cmp_lt] at z2
              rw [wl_keep hb' (by rw [← a1]; exact z) (by rw [← a1]; exact z2)]
              exact a1
        · rintro ⟨w2, w3, w5, M3⟩ ⟨a1, a3, a4⟩ k
          try dsimp only at a1 a3 a4
          subst a3
          unfold pModel_worst_L42 pModel_worst_L42b
          try dsimp only
          refine ok_pos (by rw [a4.g, en, nn_le nB nB]; omega) (ok_pt (ok_bind (a4.clear.tell (by simp)) ?_))
          rintro Md ⟨hd, fd, zd⟩
          rw [← a1]
          exact ok_some ⟨rfl, hd.q⟩
    · have hc2 : ¬ (2 : Int32) ≤ nn (pop (lvs (M2.1 1))) := by rw [show (2 : Int32) = nn 2 from rfl, nn_le nB nB]; exact h2
      refine cpq hR hq hl (-2) ?_ ?_
      · unfold pMicRow_worst
        exact ok_bindE (cs_isDir ⟨b1, b2⟩) (ok_neg (by decide) (ok_bindE (cs_liveCount hN hg hr) (ok_neg hc2 (ok_some ⟨rfl, qC.same hS tC⟩))))
      · unfold pModel_worst
        exact ok_pt (ok_bindE (md_isSide ⟨b1, b2⟩) (ok_neg (by decide) (ok_bindE (ez.live hN hg) (ok_bindE (bt_countBits (by omega) h64) (ok_neg hc2 (ok_some ⟨rfl, qM.same tM⟩))))))
  · refine cpq hR hq hl (-1) ?_ ?_
    · unfold pMicRow_worst
      exact ok_bindE (cs_noDir c) (ok_pos rfl (ok_some ⟨rfl, qC.same hS tC⟩))
    · unfold pModel_worst
      exact ok_pt (ok_bindE (md_noSide c) (ok_pos rfl (ok_some ⟨rfl, qM.same tM⟩)))
def bsel (w s : Nat) : Bool := pop (s + 1) == w
def nsu (s : Nat) : Int32 := nn (s + 1)
theorem st_shl : ∀ n : Fin 7, jshl 1 (nn n) = nn (2 ^ n.val) := by decide +kernel
theorem x_best {N : Nat} (hN : 4000 ≤ N) : cp_best N RR := by
  intro n M1 M2 v1 v2 hn hR
  obtain ⟨q, l, hg, hr, hS, hq, tC, tM, hl, hm⟩ := hR.opn hn
  have e1 : (fm_si M2 0 5 0).1 1 = M2.1 1 := si_row (by decide)
  obtain ⟨en, hn6⟩ := hg.n
  have hpow : 2 ^ gn (M2.1 1) ≤ 64 := Nat.pow_le_pow_right (n := 2) (by decide) hn6
  have hpos : 0 < 2 ^ gn (M2.1 1) := Nat.two_pow_pos _
  have eS : jshl 1 (nn (gn (M2.1 1))) = nn (2 ^ gn (M2.1 1)) := st_shl ⟨gn (M2.1 1), by omega⟩
  rcases rng v1 1 6 (by decide) with ⟨b', rfl, c1, c2⟩ | c
  · obtain ⟨w, rfl⟩ : ∃ b : Nat, b' = (b : Int) := ⟨b'.toNat, by omega⟩
    have ew : pMicRow_within M1 (nn w) 1 6 = some 1 := by rw [nn_ii]; exact wi_pos (rng_in ⟨c1, c2⟩ (by decide))
    have ew2 : pModel_in (fm_si M2 0 5 0) (nn w) 1 6 = some 1 := by rw [nn_ii]; exact in_pos (rng_in ⟨c1, c2⟩ (by decide))
    rw [← nn_ii]
    rcases rng v2 (-8) 8 (by decide) with ⟨b, rfl, b1, b2⟩ | c
    · by_cases h2 : w ≤ gn (M2.1 1)
      · generalize hpp : (fun s : Nat => pw (BM (M2.1 1) (smp (M2.1 1) All) (s + 1) b) (gl (M2.1 1))) = p
        have hpi : ∀ s, pw (BM (M2.1 1) (smp (M2.1 1) All) (s + 1) b) (gl (M2.1 1)) = p s := fun m => by rw [← hpp]
        refine cpq (l := [(wl p (bsel w) nsu (2 ^ gn (M2.1 1) - 1)).2]) hR hq (by simp) (wl p (bsel w) nsu (2 ^ gn (M2.1 1) - 1)).1 ?_ ?_
        · unfold pMicRow_best
          refine ok_bindE ew (ok_neg (by decide) (ok_bindE (cs_isDir ⟨b1, b2⟩) (ok_neg (by decide) (ok_pos (by rw [hr.n, en, nn_le nB nB]; exact h2) (ok_bind (cH.begin hg hr hS (by omega) tC) ?_)))))
          rintro Ma ⟨ha, fa⟩
          refine ok_bind (cs_spanT hN ha ⟨b1, b2⟩) ?_
          rintro Mb ⟨hb, fb, lb, vb⟩
          refine ok_for (2 ^ gn (M2.1 1) - 1) (fun s t => (t.1, t.2.1) = wl p (bsel w) nsu s ∧ t.2.2.1 = nn (s + 1) ∧ cH M1 (M2.1 1) All (q + 1) l t.2.2.2 ∧ fr (fun k => k = 190) Mb t.2.2.2) ?_ ?_ ⟨rfl, rfl, hb, fr.rf⟩ (by omega)
          · rintro s ⟨w2, w3, w5, M3⟩ hs ⟨a1, a3, a4, a5⟩ k hk
            try dsimp only at a1 a3 a4 a5
            subst a3
            have hpo : pop (s + 1) ≤ 6 := pop_le (by omega)
            unfold pMicRow_best_L54 pMicRow_best_L54b
            try dsimp only
            refine ok_neg (by rw [a4.2.2.2.1.n, en, eS, nn_le nB nB]; omega) (ok_bindE (bt_count (by omega)) ?_)
            rw [nn_succ]
            by_cases z : pop (s + 1) = w
            · refine ok_pos (by rw [z]) (ok_bind (cs_mixedPower (b := b) hN a4 (by omega) (by rw [a5.at1 (by decide)]; exact lb) (fun m i z1 z2 => by rw [a5.at1 (by (try dsimp only); omega)]; exact vb m i z1 z2)) ?_)
              rintro ⟨x, M4⟩ ⟨x1, x2, x3⟩
              try dsimp only at x1 x2 x3 ⊢
              rw [hpi] at x1
              subst x1
              have hb' : bsel w s = true := beq_iff_eq.mpr z
              refine ok_ite (fun z => hk _ ⟨?_, rfl, x2, a5.tr x3⟩) (fun z => ok_ite (fun z2 => hk _ ⟨?_, rfl, x2, a5.tr x3⟩) (fun z2 => hk _ ⟨?_, rfl, x2, a5.tr x3⟩))
              · exact (wl_take hb' (Or.inl (by rw [← a1]; exact z))).symm
              · rw [cmp_ge] at z2
                rw [wl_keep hb' (by rw [← a1]; exact z) (by rw [← a1]; exact z2)]
                exact a1
              · rw [cmp_ge, Classical.not_not] at z2
                exact (wl_take hb' (Or.inr (by rw [← a1]; exact z2))).symm
            · refine ok_neg (by rw [nn_inj nB nB]; exact z) (hk _ ⟨?_, rfl, a4, a5⟩)
              rw [wl_no (show bsel w s = false from beq_eq_false_iff_ne.mpr z)]
              exact a1
          · rintro ⟨w2, w3, w5, M3⟩ ⟨a1, a3, a4, a5⟩ k
            try dsimp only at a1 a3 a4 a5
            subst a3
            unfold pMicRow_best_L54 pMicRow_best_L54b
            try dsimp only
            refine ok_pos (by rw [a4.2.2.2.1.n, en, eS, nn_le nB nB]; omega) (ok_bind a4.clear ?_)
            rintro Mc ⟨hc, fc⟩
            refine ok_bind (hc.add (by simp)) ?_
            rintro Md ⟨hd, fd⟩
            rw [← a1]
            exact ok_some ⟨rfl, hd.q (by omega)⟩
        · unfold pModel_best
          refine ok_pt (ok_bindE ew2 (ok_neg (by decide) (ok_bindE (md_isSide ⟨b1, b2⟩) (ok_neg (by decide) (ok_pos (by rw [e1, en, nn_le nB nB]; exact h2) (ok_bind (md_begin0 hN hg hm tM) ?_))))))
          rintro Ma ⟨ha, za⟩
          refine ok_for (2 ^ gn (M2.1 1) - 1) (fun s t => (t.1, t.2.1) = wl p (bsel w) nsu s ∧ t.2.2.1 = nn (s + 1) ∧ mH M2 All l t.2.2.2) ?_ ?_ ⟨rfl, rfl, ha⟩ (by omega)
          · rintro s ⟨w2, w3, w5, M3⟩ hs ⟨a1, a3, a4⟩ k hk
            try dsimp only at a1 a3 a4
            subst a3
            have hpo : pop (s + 1) ≤ 6 := pop_le (by omega)
            unfold pModel_best_L49 pModel_best_L49b
            try dsimp only
            refine ok_neg (by rw [a4.g, en, eS, nn_le nB nB]; omega) (ok_bindE (bt_countBits (by omega) (by omega)) ?_)
            rw [nn_succ]
            by_cases z : pop (s + 1) = w
            · refine ok_pos (by rw [z]) (ok_bind (md_beamPower hN hg a4 (by omega) ⟨b1, b2⟩) ?_)
              rintro ⟨x, M4⟩ ⟨x1, x2, x3⟩
              try dsimp only at x1 x2 x3 ⊢
              rw [hpi] at x1
              subst x1
              have hb' : bsel w s = true := beq_iff_eq.mpr z
              refine ok_ite (fun z => hk _ ⟨?_, rfl, x2⟩) (fun z => ok_ite (fun z2 => hk _ ⟨?_, rfl, x2⟩) (fun z2 => hk _ ⟨?_, rfl, x2⟩))
              · exact (wl_take hb' (Or.inl (by rw [← a1]; exact z))).symm
              · rw [cmp_lt] at z2
                exact (wl_take hb' (Or.inr (by rw [← a1]; exact z2))).symm
              · rw [cmp_lt] at z2
                rw [wl_keep hb' (by rw [← a1]; exact z) (by rw [← a1]; exact z2)]
                exact a1
            · refine ok_neg (by rw [nn_inj nB nB]; exact z) (hk _ ⟨?_, rfl, a4⟩)
              rw [wl_no (show bsel w s = false from beq_eq_false_iff_ne.mpr z)]
              exact a1
          · rintro ⟨w2, w3, w5, M3⟩ ⟨a1, a3, a4⟩ k
            try dsimp only at a1 a3 a4
            subst a3
            unfold pModel_best_L49 pModel_best_L49b
            try dsimp only
            refine ok_pos (by rw [a4.g, en, eS, nn_le nB nB]; omega) (ok_pt (ok_bind (a4.clear.tell (by simp)) ?_))
            rintro Md ⟨hd, fd, zd⟩
            rw [← a1]
            exact ok_some ⟨rfl, hd.q⟩
      · refine cpq hR hq hl (-2) ?_ ?_
        · unfold pMicRow_best
          exact ok_bindE ew (ok_neg (by decide) (ok_bindE (cs_isDir ⟨b1, b2⟩) (ok_neg (by decide) (ok_neg (by rw [hr.n, en, nn_le nB nB]; exact h2) (ok_some ⟨rfl, qC.same hS tC⟩)))))
        · unfold pModel_best
          exact ok_pt (ok_bindE ew2 (ok_neg (by decide) (ok_bindE (md_isSide ⟨b1, b2⟩) (ok_neg (by decide) (ok_neg (by rw [e1, en, nn_le nB nB]; exact h2) (ok_some ⟨rfl, qM.same tM⟩))))))
    · refine cpq hR hq hl (-1) ?_ ?_
      · unfold pMicRow_best
        exact ok_bindE ew (ok_neg (by decide) (ok_bindE (cs_noDir c) (ok_pos rfl (ok_some ⟨rfl, qC.same hS tC⟩))))
      · unfold pModel_best
        exact ok_pt (ok_bindE ew2 (ok_neg (by decide) (ok_bindE (md_noSide c) (ok_pos rfl (ok_some ⟨rfl, qM.same tM⟩)))))
  · refine cpq hR hq hl (-1) ?_ ?_
    · unfold pMicRow_best
      exact ok_bindE (wi_neg c) (ok_pos rfl (ok_some ⟨rfl, qC.same hS tC⟩))
    · unfold pModel_best
      exact ok_pt (ok_bindE (in_neg c) (ok_pos rfl (ok_some ⟨rfl, qM.same tM⟩)))
