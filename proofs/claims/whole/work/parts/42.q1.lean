/-! ===== calls: what there is ===== -/
theorem dm1 {M : fm_M} : pMicRow_demand M 1 = some () := by
  unfold pMicRow_demand
  rw [if_neg (by decide)]
theorem cpt0 {n q : Nat} {l : List Int64} {M1 M2 : fm_M} {c d : Option (Int32 × fm_M)} {t : Option fm_M} (h : RR n M1 M2) (hq : q ≤ 100 * n) (hl : l.length ≤ 17) (r : Int32) (h1 : ok c (fun x => x.1 = r ∧ qC M1 q l x.2)) (h2 : ok d (fun x => x.1 = r ∧ qM M2 l x.2 ∧ x.2.1 0 5 = 0)) : (∃ (r : Int32) (M1' : fm_M) (M2' : fm_M), c = some (r, M1') ∧ d = some (r, M2') ∧ pModel_thrown M2' = some 0 ∧ RR (n + 1) M1' M2') ∨ (∃ (r : Int32) (M1' M2' : fm_M), t = some M1' ∧ d = some (r, M2') ∧ pModel_thrown M2' = some 1 ∧ RR (n + 1) M1' M2') := by
  obtain ⟨⟨r1, M1'⟩, e1, a1, a2⟩ := h1
  obtain ⟨⟨r2, M2'⟩, e2, b1, b2, b3⟩ := h2
  try dsimp only at a1 a2 b1 b2 b3
  subst a1
  subst b1
  exact Or.inl ⟨_, _, _, e1, e2, congrArg some b3, RR_q h hq hl a2 b2⟩
theorem cpt1 {n q : Nat} {l : List Int64} {M1 M2 : fm_M} {c d : Option (Int32 × fm_M)} {t : Option fm_M} (h : RR n M1 M2) (hq : q ≤ 100 * n) (hl : l.length ≤ 17) (h1 : ok t (fun x => qC M1 q l x)) (h2 : ok d (fun x => qM M2 l x.2 ∧ x.2.1 0 5 = 1)) : (∃ (r : Int32) (M1' : fm_M) (M2' : fm_M), c = some (r, M1') ∧ d = some (r, M2') ∧ pModel_thrown M2' = some 0 ∧ RR (n + 1) M1' M2') ∨ (∃ (r : Int32) (M1' M2' : fm_M), t = some M1' ∧ d = some (r, M2') ∧ pModel_thrown M2' = some 1 ∧ RR (n + 1) M1' M2') := by
  obtain ⟨M1', e1, a2⟩ := h1
  obtain ⟨⟨r2, M2'⟩, e2, b2, b3⟩ := h2
  try dsimp only at b2 b3
  exact Or.inr ⟨_, _, _, e1, e2, congrArg some b3, RR_q h hq hl a2 b2⟩
theorem qM.lost {M2 : fm_M} {l : List Int64} (ht : tdM M2 l) : qM M2 l (fm_si (fm_si M2 0 5 0) 0 5 1) ∧ (fm_si (fm_si M2 0 5 0) 0 5 1).1 0 5 = 1 := ⟨⟨(mq.rf.pt (by decide)).pt (by decide), (ht.pt (by decide)).pt (by decide)⟩, si_same⟩
theorem th_sample {N : Nat} {M : fm_M} {v1 v2 : Int32} : tMicRow_sample_J28 N M v1 v2 = some M := by
  unfold tMicRow_sample_J28 tMicRow_sample_J29
  rw [if_pos rfl]
theorem th_turned {N : Nat} {M : fm_M} {v1 v2 v3 : Int32} : tMicRow_turned_J29 N M v1 v2 v3 = some M := by
  unfold tMicRow_turned_J29 tMicRow_turned_J30
  rw [if_pos rfl]
theorem th_beam {N : Nat} {M : fm_M} {v1 v2 : Int32} : tMicRow_beam_J18 N M v1 v2 = some M := by
  unfold tMicRow_beam_J18 tMicRow_beam_J19
  rw [if_pos rfl]
theorem th_blocked {N : Nat} {M : fm_M} {v1 v2 v3 : Int32} : tMicRow_blocked_J18 N M v1 v2 v3 = some M := by
  unfold tMicRow_blocked_J18 tMicRow_blocked_J19
  rw [if_pos rfl]
theorem th_clean {N : Nat} {M : fm_M} {v1 v2 : Int32} : tMicRow_clean_J18 N M v1 v2 = some M := by
  unfold tMicRow_clean_J18 tMicRow_clean_J19
  rw [if_pos rfl]
theorem th_blocked2 {N : Nat} {M : fm_M} {v2 : Int32} : tMicRow_blocked_J73 N M v2 = some M := by
  unfold tMicRow_blocked_J73 tMicRow_blocked_J74
  rw [if_pos rfl]
theorem x_sample {N : Nat} (hN : 4000 ≤ N) : cp_sample N RR := by
  intro n M1 M2 v1 v2 hn hR
  obtain ⟨q, l, hg, hr, hS, hq, tC, tM, hl, hm⟩ := hR.opn hn
  have e1 : (fm_si M2 0 5 0).1 1 = M2.1 1 := si_row (by decide)
  rcases mic_or hg hr v1 with ⟨m, hm1, rfl⟩ | ⟨c1, c2⟩
  · rcases rng v2 (-300) 300 (by decide) with ⟨t, rfl, t1, t2⟩ | c
    · refine cpt0 hR hq hl (smp (M2.1 1) All m t) ?_ ?_
      · unfold pMicRow_sample
        refine ok_bindE (cs_hasMic hg hr hm1) (ok_neg (by decide) (ok_bindE (wi_pos (rng_in ⟨t1, t2⟩ (by decide))) (ok_neg (by decide) ?_)))
        unfold pMicRow_sample_J29
        refine ok_bindE dm1 (ok_bind (cH.begin hg hr hS (by omega) tC) ?_)
        rintro Ma ⟨ha, fa⟩
        refine ok_bind (cs_at hN ha.2.2 hm1 ⟨t1, t2⟩) ?_
        rintro ⟨x, Mb⟩ ⟨b1, b2, b3⟩
        exact ok_some ⟨b1, (ha.kf2 b2 b3 (fun k hk => by omega)).q (by omega)⟩
      · unfold pModel_sample
        refine ok_pt (ok_bindE (md_isMic (by rw [e1]; exact hg) (by rw [e1]; exact hm1)) (ok_neg (by decide) (ok_bindE (in_pos (rng_in ⟨t1, t2⟩ (by decide))) (ok_neg (by decide) ?_))))
        refine ok_bindE (md_sampleOf (A := All) hN (by rw [e1]; exact hg) (aM_z (aM_all hg hm)) (by rw [e1]; exact hm1) (by omega)) ?_
        exact ok_some ⟨by rw [e1], qM.same tM, si_same⟩
    · refine cpt1 hR hq hl ?_ ?_
      · unfold tMicRow_sample
        refine ok_bindE (cs_hasMic hg hr hm1) (ok_neg (by decide) (ok_bindE (wi_neg c) (ok_pos rfl ?_)))
        exact okE th_sample (qC.same hS tC)
      · unfold pModel_sample
        refine ok_pt (ok_bindE (md_isMic (by rw [e1]; exact hg) (by rw [e1]; exact hm1)) (ok_neg (by decide) (ok_bindE (in_neg c) (ok_pos rfl ?_))))
        exact ok_some (qM.lost tM)
  · refine cpt1 hR hq hl ?_ ?_
    · unfold tMicRow_sample
      refine ok_bindE c1 (ok_pos rfl ?_)
      exact okE th_sample (qC.same hS tC)
    · unfold pModel_sample
      refine ok_pt (ok_bindE (c2 _ e1) (ok_pos rfl ?_))
      exact ok_some (qM.lost tM)
theorem cs_turnedRow {M : fm_M} {m : Nat} (hm : m < 6) : pBench_turnedRow M (nn m) = some (183 + m) := by
  unfold pBench_turnedRow pMicRow_clamp
  refine (bindE rfl).trans ?_
  have e : ∀ m : Fin 6, jmax 0 (jmin 5 (nn m)) = nn m := by decide +kernel
  rw [e ⟨m, hm⟩, ixE hm nL]
theorem x_turned {N : Nat} (hN : 4000 ≤ N) : cp_turned N RR := by
  intro n M1 M2 v1 v2 v3 hn hR
  obtain ⟨q, l, hg, hr, hS, hq, tC, tM, hl, hm⟩ := hR.opn hn
  have e1 : (fm_si M2 0 5 0).1 1 = M2.1 1 := si_row (by decide)
  have hn6 := hg.n.2
  rcases mic_or hg hr v1 with ⟨m, hm1, rfl⟩ | ⟨c1, c2⟩
  · rcases rng v2 (-8) 8 (by decide) with ⟨b, rfl, b1, b2⟩ | c
    · rcases rng v3 (-200) 200 (by decide) with ⟨t, rfl, t1, t2⟩ | c
      · refine cpt0 hR hq hl (tr (M2.1 1) (smp (M2.1 1) All) m b t) ?_ ?_
        · unfold pMicRow_turned
          refine ok_bindE (cs_hasMic hg hr hm1) (ok_neg (by decide) (ok_bindE (cs_isDir ⟨b1, b2⟩) (ok_neg (by decide) (ok_bindE (cs_isT ⟨t1, t2⟩) (ok_neg (by decide) ?_)))))
          unfold pMicRow_turned_J30
          refine ok_bindE dm1 (ok_bind (cH.begin hg hr hS (by omega) tC) ?_)
          rintro Ma ⟨ha, fa⟩
          refine ok_bind (cs_turnTo (L := 1) hN ha.2.2 ⟨b1, b2⟩ ⟨t1, t2⟩ (by decide)) ?_
          rintro Mb ⟨f, e, l1, l2, v⟩
          refine ok_bindE (cs_turnedRow (by omega)) ?_
          rw [sh48a ⟨m, by omega⟩]
          refine ok_ld (i := 0) (by decide) nL (ok_some ⟨?_, (ha.kf2 f e (fun k hk => tnR_n (by omega))).q (by omega)⟩)
          exact (v m 0 hm1 (by decide)).trans (arI (f := fun t => tr (M2.1 1) (smp (M2.1 1) All) m b t) (by omega))
        · unfold pModel_turned
          refine ok_pt (ok_bindE (md_isMic (by rw [e1]; exact hg) (by rw [e1]; exact hm1)) (ok_neg (by decide) (ok_bindE (md_isSide ⟨b1, b2⟩) (ok_neg (by decide) (ok_bindE (md_isNear ⟨t1, t2⟩) (ok_neg (by decide) ?_))))))
          refine ok_bind (md_begin0 hN hg hm tM) ?_
          rintro Ma ⟨ha, za⟩
          refine ok_bindE (md_turnedOf (by rw [ha.g]; exact hg) ha.2.2 (by rw [ha.g]; exact hm1) ⟨b1, b2⟩ (by omega)) ?_
          exact ok_some ⟨by rw [ha.g], ha.q, za⟩
      · refine cpt1 hR hq hl ?_ ?_
        · unfold tMicRow_turned
          refine ok_bindE (cs_hasMic hg hr hm1) (ok_neg (by decide) (ok_bindE (cs_isDir ⟨b1, b2⟩) (ok_neg (by decide) (ok_bindE (cs_noT c) (ok_pos rfl ?_)))))
          exact okE th_turned (qC.same hS tC)
        · unfold pModel_turned
          refine ok_pt (ok_bindE (md_isMic (by rw [e1]; exact hg) (by rw [e1]; exact hm1)) (ok_neg (by decide) (ok_bindE (md_isSide ⟨b1, b2⟩) (ok_neg (by decide) (ok_bindE (md_noNear c) (ok_pos rfl ?_))))))
          exact ok_some (qM.lost tM)
    · refine cpt1 hR hq hl ?_ ?_
      · unfold tMicRow_turned
        refine ok_bindE (cs_hasMic hg hr hm1) (ok_neg (by decide) (ok_bindE (cs_noDir c) (ok_pos rfl ?_)))
        exact okE th_turned (qC.same hS tC)
      · unfold pModel_turned
        refine ok_pt (ok_bindE (md_isMic (by rw [e1]; exact hg) (by rw [e1]; exact hm1)) (ok_neg (by decide) (ok_bindE (md_noSide c) (ok_pos rfl ?_))))
        exact ok_some (qM.lost tM)
  · refine cpt1 hR hq hl ?_ ?_
    · unfold tMicRow_turned
      refine ok_bindE c1 (ok_pos rfl ?_)
      exact okE th_turned (qC.same hS tC)
    · unfold pModel_turned
      refine ok_pt (ok_bindE (c2 _ e1) (ok_pos rfl ?_))
      exact ok_some (qM.lost tM)
theorem bm_t {g : Nat → Int32} {H : Nat → Int → Int32} {s : Nat} {b t t' : Int} (h : t = t') : bm (fun m => tr g H m b t) s = bm (fun m => tr g H m b t') s := by rw [h]
theorem x_beam {N : Nat} (hN : 4000 ≤ N) : cp_beam N RR := by
  intro n M1 M2 v1 v2 hn hR
  obtain ⟨q, l, hg, hr, hS, hq, tC, tM, hl, hm⟩ := hR.opn hn
  rcases rng v1 (-8) 8 (by decide) with ⟨b, rfl, b1, b2⟩ | c
  · rcases rng v2 (-200) 200 (by decide) with ⟨t, rfl, t1, t2⟩ | c
    · refine cpt0 hR hq hl (bm (fun m => tr (M2.1 1) (smp (M2.1 1) All) m b t) (lvs (M2.1 1))) ?_ ?_
      · unfold pMicRow_beam
        refine ok_bindE (cs_isDir ⟨b1, b2⟩) (ok_neg (by decide) (ok_bindE (cs_isT ⟨t1, t2⟩) (ok_neg (by decide) ?_)))
        unfold pMicRow_beam_J19
        refine ok_bindE dm1 (ok_bind (cH.begin hg hr hS (by omega) tC) ?_)
        rintro Ma ⟨ha, fa⟩
        refine ok_bind (cs_turnTo (L := 1) hN ha.2.2 ⟨b1, b2⟩ ⟨t1, t2⟩ (by decide)) ?_
        rintro Mb ⟨f, e, l1, l2, v⟩
        have hb := ha.kf2 f e (fun k hk => tnR_n (by omega))
        refine ok_bindE (cs_live hN hg hb.2.2.2.1) ?_
        refine ok_bind (cs_mixT hN hg l1 (by decide) lvs_2 v) ?_
        rintro Mc ⟨fc, vc⟩
        exact ok_some ⟨(vc 0 (by decide)).trans (bm_t (by omega)), (hb.kf fc (fun k hk => by omega)).q (by omega)⟩
      · unfold pModel_beam
        refine ok_pt (ok_bindE (md_isSide ⟨b1, b2⟩) (ok_neg (by decide) (ok_bindE (md_isNear ⟨t1, t2⟩) (ok_neg (by decide) ?_))))
        refine ok_bind (md_begin0 hN hg hm tM) ?_
        rintro Ma ⟨ha, za⟩
        refine ok_bindE (ha.live hN hg) ?_
        refine ok_bindE (md_beamOf hN (by rw [ha.g]; exact hg) ha.2.2 (by rw [ha.g]; exact lvs_2) ⟨b1, b2⟩ (by omega)) ?_
        exact ok_some ⟨by rw [ha.g], ha.q, za⟩
    · refine cpt1 hR hq hl ?_ ?_
      · unfold tMicRow_beam
        refine ok_bindE (cs_isDir ⟨b1, b2⟩) (ok_neg (by decide) (ok_bindE (cs_noT c) (ok_pos rfl ?_)))
        exact okE th_beam (qC.same hS tC)
      · unfold pModel_beam
        refine ok_pt (ok_bindE (md_isSide ⟨b1, b2⟩) (ok_neg (by decide) (ok_bindE (md_noNear c) (ok_pos rfl ?_))))
        exact ok_some (qM.lost tM)
  · refine cpt1 hR hq hl ?_ ?_
    · unfold tMicRow_beam
      refine ok_bindE (cs_noDir c) (ok_pos rfl ?_)
      exact okE th_beam (qC.same hS tC)
    · unfold pModel_beam
      refine ok_pt (ok_bindE (md_noSide c) (ok_pos rfl ?_))
      exact ok_some (qM.lost tM)
theorem x_blocked {N : Nat} (hN : 4000 ≤ N) : cp_blocked N RR := by
  intro n M1 M2 v1 v2 v3 hn hR
  obtain ⟨q, l, hg, hr, hS, hq, tC, tM, hl, hm⟩ := hR.opn hn
  have h64 := lvs_lt hg
  have hp := pop_le h64
  have ez : mq M2 (fm_si M2 0 5 0) := mq.rf.pt (by decide)
  rcases rng v1 (-8) 8 (by decide) with ⟨b, rfl, b1, b2⟩ | c
  · rcases rng v3 (-200) 200 (by decide) with ⟨t, rfl, t1, t2⟩ | c
    · by_cases hj : ∃ j : Nat, v2 = nn j ∧ j + 1 < pop (lvs (M2.1 1))
      · obtain ⟨j, rfl, hj⟩ := hj
        refine cpt0 hR hq hl (bk (fun m => tr (M2.1 1) (smp (M2.1 1) All) m b t) (lvs (M2.1 1)) j) ?_ ?_
        · unfold pMicRow_blocked
          refine ok_bindE (cs_isDir ⟨b1, b2⟩) (ok_neg (by decide) (ok_bindE (cs_isT ⟨t1, t2⟩) (ok_neg (by decide) ?_)))
          unfold pMicRow_blocked_J19
          refine ok_bindE dm1 (ok_bind (cH.begin hg hr hS (by omega) tC) ?_)
          rintro Ma ⟨ha, fa⟩
          refine ok_bind (cs_turnTo (L := 1) hN ha.2.2 ⟨b1, b2⟩ ⟨t1, t2⟩ (by decide)) ?_
          rintro Mb ⟨f, e, l1, l2, v⟩
          have hb := ha.kf2 f e (fun k hk => tnR_n (by omega))
          refine ok_bindE (cs_live hN hg hb.2.2.2.1) ?_
          refine ok_bind (cs_blockT hN hg l1 (by decide) lvs_2 v) ?_
          rintro Mc ⟨fc, lc, wc, vc⟩
          refine ok_neg (by rw [show (0 : Int32) = nn 0 from rfl, nn_lt nB nB]; omega) (ok_neg (by rw [wc, nn_le nB nB]; omega) ?_)
          unfold pMicRow_blocked_J74
          refine ok_bindE dm1 (ok_ix (by omega) nL (ok_some ⟨?_, (hb.kf fc (fun k hk => by unfold bkR; omega)).q (by omega)⟩))
          refine (vc j 0 (by omega) (by decide)).trans ?_
          rw [show t + ((0 : Nat) : Int) = t by omega]
        · unfold pModel_blocked
          refine ok_pt (ok_bindE (ez.live hN hg) (ok_bindE (md_isSide ⟨b1, b2⟩) (ok_neg (by decide) (ok_bindE (md_isNear ⟨t1, t2⟩) (ok_neg (by decide) (ok_bindE (bt_countBits (by omega) h64) ?_))))))
          refine ok_bindE (in_pos ⟨by rw [show (0 : Int32) = nn 0 from rfl, nn_le nB nB]; omega, by rw [show (2 : Int32) = nn 2 from rfl, nn_sub (by omega), nn_le nB nB]; omega⟩) (ok_neg (by decide) ?_)
          refine ok_bind (md_begin0 hN hg hm tM) ?_
          rintro Ma ⟨ha, za⟩
          refine ok_bindE (md_blockedOf hN (by rw [ha.g]; exact hg) ha.2.2 (by rw [ha.g]; exact lvs_2) hj ⟨b1, b2⟩ (by omega)) ?_
          exact ok_some ⟨by rw [ha.g], ha.q, za⟩
      · have hj2 : ¬ (0 ≤ v2.toInt ∧ v2.toInt + 1 < pop (lvs (M2.1 1))) := fun z => hj ⟨v2.toInt.toNat, by rw [← ii_nat z.1, ii_of], by omega⟩
        have e0 : (0 : Int32).toInt = 0 := rfl
        refine cpt1 hR hq hl ?_ ?_
        · unfold tMicRow_blocked
          refine ok_bindE (cs_isDir ⟨b1, b2⟩) (ok_neg (by decide) (ok_bindE (cs_isT ⟨t1, t2⟩) (ok_neg (by decide) ?_)))
          unfold tMicRow_blocked_J19
          refine ok_neg (by decide) (ok_bind (cH.begin hg hr hS (by omega) tC) ?_)
          rintro Ma ⟨ha, fa⟩
          refine ok_bind (cs_turnTo (L := 1) hN ha.2.2 ⟨b1, b2⟩ ⟨t1, t2⟩ (by decide)) ?_
          rintro Mb ⟨f, e, l1, l2, v⟩
          have hb := ha.kf2 f e (fun k hk => tnR_n (by omega))
          refine ok_bindE (cs_live hN hg hb.2.2.2.1) ?_
          refine ok_bind (cs_blockT hN hg l1 (by decide) lvs_2 v) ?_
          rintro Mc ⟨fc, lc, wc, vc⟩
          have hQ : qC M1 q l Mc := (hb.kf fc (fun k hk => by unfold bkR; omega)).q (by omega)
          refine ok_ite (fun _ => okE th_blocked2 hQ) (fun z1 => ok_ite (fun _ => okE th_blocked2 hQ) (fun z2 => ?_))
          exfalso
          rw [Int32.lt_iff_toInt_lt, e0] at z1
          rw [wc, Int32.le_iff_toInt_le, nn_toInt nB] at z2
          omega
        · unfold pModel_blocked
          refine ok_pt (ok_bindE (ez.live hN hg) (ok_bindE (md_isSide ⟨b1, b2⟩) (ok_neg (by decide) (ok_bindE (md_isNear ⟨t1, t2⟩) (ok_neg (by decide) (ok_bindE (bt_countBits (by omega) h64) ?_))))))
          refine ok_bindE (in_neg ?_) (ok_pos rfl (ok_some (qM.lost tM)))
          rw [Int32.le_iff_toInt_le, Int32.le_iff_toInt_le, e0, nn_ii, show (2 : Int32) = ii 2 from rfl, ii_sub, ii_toInt (by omega)]
          omega
    · refine cpt1 hR hq hl ?_ ?_
      · unfold tMicRow_blocked
        refine ok_bindE (cs_isDir ⟨b1, b2⟩) (ok_neg (by decide) (ok_bindE (cs_noT c) (ok_pos rfl ?_)))
        exact okE th_blocked (qC.same hS tC)
      · unfold pModel_blocked
        refine ok_pt (ok_bindE (ez.live hN hg) (ok_bindE (md_isSide ⟨b1, b2⟩) (ok_neg (by decide) (ok_bindE (md_noNear c) (ok_pos rfl ?_)))))
        exact ok_some (qM.lost tM)
  · refine cpt1 hR hq hl ?_ ?_
    · unfold tMicRow_blocked
      refine ok_bindE (cs_noDir c) (ok_pos rfl ?_)
      exact okE th_blocked (qC.same hS tC)
    · unfold pModel_blocked
      refine ok_pt (ok_bindE (ez.live hN hg) (ok_bindE (md_noSide c) (ok_pos rfl ?_)))
      exact ok_some (qM.lost tM)
theorem x_clean {N : Nat} (hN : 4000 ≤ N) : cp_clean N RR := by
  intro n M1 M2 v1 v2 hn hR
  obtain ⟨q, l, hg, hr, hS, hq, tC, tM, hl, hm⟩ := hR.opn hn
  have h64 := lvs_lt hg
  have hp := pop_le h64
  have hn6 := hg.n.2
  rcases rng v1 (-8) 8 (by decide) with ⟨b, rfl, b1, b2⟩ | c
  · rcases rng v2 (-200) 200 (by decide) with ⟨t, rfl, t1, t2⟩ | c
    · refine cpt0 hR hq hl (bm (fun m => tr (M2.1 1) (smp (M2.1 1) All) m b t) (lvs (M2.1 1)) - sm (fun j => WM (M2.1 1) (smp (M2.1 1) All) (lvs (M2.1 1)) b j * bk (fun m => tr (M2.1 1) (smp (M2.1 1) All) m b t) (lvs (M2.1 1)) j) (pop (lvs (M2.1 1)) - 1) / 16) ?_ ?_
      · unfold pMicRow_clean
        refine ok_bindE (cs_isDir ⟨b1, b2⟩) (ok_neg (by decide) (ok_bindE (cs_isT ⟨t1, t2⟩) (ok_neg (by decide) ?_)))
        unfold pMicRow_clean_J19
        refine ok_bindE dm1 (ok_bind (cH.begin hg hr hS (by omega) tC) ?_)
        rintro Ma ⟨ha, fa⟩
        refine ok_bind (cs_learnWeights hN ha ⟨b1, b2⟩) ?_
        rintro Mw ⟨hw, sw, vw⟩
        refine ok_bind (cs_turnTo (L := 1) hN hw.2.2 ⟨b1, b2⟩ ⟨t1, t2⟩ (by decide)) ?_
        rintro Mb ⟨f, e, l1, l2, v⟩
        have hb := hw.kf2 f e (fun k hk => tnR_n (by omega))
        refine ok_bindE (cs_live hN hg hb.2.2.2.1) ?_
        refine ok_bind (cs_mixT hN hg l1 (by decide) lvs_2 v) ?_
        rintro Mc ⟨fc, vc⟩
        have hc := hb.kf fc (fun k hk => by omega)
        refine ok_bindE (cs_live hN hg hc.2.2.2.1) ?_
        refine ok_bind (cs_blockT (H := smp (M2.1 1) All) (b := b) (t0 := t) (L := 1) hN hg (by rw [fc.at1 (by decide)]; exact l1) (by decide) lvs_2 (fun m i hm hi => by
          rw [fc.at1 (by (try dsimp only); omega)]; exact v m i hm hi)) ?_
        rintro Md ⟨fd, ld, wd, vd⟩
        refine ok_bind (cs_takeOff (L := 1) hN ld wd (by omega) (by decide)) ?_
        rintro Me ⟨fe, ve⟩
        refine ok_some ⟨?_, ((hc.kf fd (fun k hk => by unfold bkR; omega)).kf fe (fun k hk => by omega)).q (by omega)⟩
        refine (ve 0 (by decide)).trans ?_
        unfold cl
        have hsum : sm (fun j => Md.1 198 j * Md.1 (192 + j) 0) (pop (lvs (M2.1 1)) - 1) = sm (fun j => WM (M2.1 1) (smp (M2.1 1) All) (lvs (M2.1 1)) b j * bk (fun m => tr (M2.1 1) (smp (M2.1 1) All) m b t) (lvs (M2.1 1)) j) (pop (lvs (M2.1 1)) - 1) := by
          refine sm_congr (fun j hj => ?_)
          try dsimp only
          rw [vd j 0 hj (by decide), fd.at1 (k := 198) (by unfold bkR; omega), fc.at1 (k := 198) (by decide), f.at1 (k := 198) (tnR_n (by omega)), vw j hj, show t + ((0 : Nat) : Int) = t by omega]
        try dsimp only
        rw [hsum, fd.at1 (k := 190) (by unfold bkR; omega), vc 0 (by decide), show t + ((0 : Nat) : Int) = t by omega]
      · unfold pModel_clean
        refine ok_pt (ok_bindE (md_isSide ⟨b1, b2⟩) (ok_neg (by decide) (ok_bindE (md_isNear ⟨t1, t2⟩) (ok_neg (by decide) ?_))))
        refine ok_bind (md_begin0 hN hg hm tM) ?_
        rintro Ma ⟨ha, za⟩
        refine ok_bindE (ha.live hN hg) ?_
        refine ok_bind (md_layWeightsT hN hg ha lvs_2 ⟨b1, b2⟩) ?_
        rintro Mb ⟨hb, zb, wb, v1, v2, v3⟩
        refine okE (r := (_, Mb)) (lp_for (pop (lvs (M2.1 1)) - 1) (fun j => (sm (fun j => WM (M2.1 1) (smp (M2.1 1) All) (lvs (M2.1 1)) b j * bk (fun m => tr (M2.1 1) (smp (M2.1 1) All) m b t) (lvs (M2.1 1)) j) j, nn j)) _ ?_ ?_ (by omega)) ⟨rfl, hb.q, by rw [zb]; exact za⟩
        · intro j hj k
          unfold pModel_clean_L45 pModel_clean_L45b
          try dsimp only
          rw [wb, if_neg (by rw [nn_le nB nB]; omega), ldE (by omega) nL, v2 j hj]
          refine (bindE (md_blockedOf hN (by rw [hb.g]; exact hg) hb.2.2 (by rw [hb.g]; exact lvs_2) (by omega) ⟨b1, b2⟩ (by omega))).trans ?_
          rw [nn_succ, hb.g]
          rfl
        · intro k
          unfold pModel_clean_L45 pModel_clean_L45b
          try dsimp only
          rw [wb, if_pos (by rw [nn_le nB nB]; omega)]
          refine (bindE (md_beamOf hN (by rw [hb.g]; exact hg) hb.2.2 (by rw [hb.g]; exact lvs_2) ⟨b1, b2⟩ (by omega))).trans ?_
          rw [hb.g]
    · refine cpt1 hR hq hl ?_ ?_
      · unfold tMicRow_clean
        refine ok_bindE (cs_isDir ⟨b1, b2⟩) (ok_neg (by decide) (ok_bindE (cs_noT c) (ok_pos rfl ?_)))
        exact okE th_clean (qC.same hS tC)
      · unfold pModel_clean
        refine ok_pt (ok_bindE (md_isSide ⟨b1, b2⟩) (ok_neg (by decide) (ok_bindE (md_noNear c) (ok_pos rfl ?_))))
        exact ok_some (qM.lost tM)
  · refine cpt1 hR hq hl ?_ ?_
    · unfold tMicRow_clean
      refine ok_bindE (cs_noDir c) (ok_pos rfl ?_)
      exact okE th_clean (qC.same hS tC)
    · unfold pModel_clean
      refine ok_pt (ok_bindE (md_noSide c) (ok_pos rfl ?_))
      exact ok_some (qM.lost tM)
