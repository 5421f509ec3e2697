/-! ===== calls: faults, clipped, without, worst, best, behind ===== -/
theorem x_clipped {N : Nat} (hN : 4000 ≤ N) : cp_clipped N RR := by
  intro n M1 M2 v1 hn hR
  obtain ⟨q, l, hg, hr, hS, hq, tC, tM, hl, hm⟩ := hR.opn hn
  have e1 : (fm_si M2 0 5 0).1 1 = M2.1 1 := si_row (by decide)
  have hL := hg.l
  rcases mic_or hg hr v1 with ⟨m, hm1, rfl⟩ | ⟨c1, c2⟩
  · generalize hrr : (fun i : Nat => smp (M2.1 1) All m ((gb (M2.1 1) : Int) + i)) = r
    refine cpq (l := [(nn (ct (rgh r) (gl (M2.1 1) - 1))).toInt64, if qz r 0 (gl (M2.1 1)) then 1 else 0]) hR hq (by simp) (nn (ct (cpl r (M2.1 1 37)) (gl (M2.1 1)))) ?_ ?_
    · unfold pMicRow_clipped
      refine ok_bindE (cs_hasMic hg hr hm1) (ok_neg (by decide) (ok_bind (cH.begin hg hr hS (by omega) tC) ?_))
      rintro Ma ⟨ha, fa⟩
      refine ok_bindE rfl (ok_bindE rfl (ok_bind (cs_hearT hN ha hm1) ?_))
      rintro Mb ⟨hb, fb, lb, vb⟩
      refine ok_bind hb.clear ?_
      rintro Mc ⟨hc, fc⟩
      have wr : ∀ {M : fm_M}, M.1 189 = Mb.1 189 → ∀ i, i < gl (M2.1 1) → M.1 189 i = r i := by
        intro M e i hi
        rw [e, vb i hi, ← hrr]
      have c189 : Mc.1 189 = Mb.1 189 := fc.at1 (by decide)
      have c181 : Mc.1 181 = Mb.1 181 := fc.at1 (by decide)
      refine ok_bindE (cs_rough hN (by rw [c181]; exact lb) (by omega) (by omega) (wr c189)) (ok_bind (hc.add (by simp)) ?_)
      rintro Md ⟨hd, fd⟩
      have d189 : Md.1 189 = Mb.1 189 := (fd.at1 (by decide)).trans c189
      have d181 : Md.1 181 = Mb.1 181 := (fd.at1 (by decide)).trans c181
      refine ok_bindE (cs_isQuiet hN (by rw [d181]; exact lb) (by omega) (wr d189)) ?_
      have hJ : ∀ v : Int64, v = (if qz r 0 (gl (M2.1 1)) then 1 else 0) → ok (pMicRow_clipped_J84 N Md v) (fun x => x.1 = nn (ct (cpl r (M2.1 1 37)) (gl (M2.1 1))) ∧ qC M1 q [(nn (ct (rgh r) (gl (M2.1 1) - 1))).toInt64, if qz r 0 (gl (M2.1 1)) then 1 else 0] x.2) := by
        intro v hv
        subst hv
        unfold pMicRow_clipped_J84
        refine ok_bind (hd.add (by simp)) ?_
        rintro Me ⟨he, fe⟩
        refine ok_bindE (cs_clips hN (L := gl (M2.1 1)) (by rw [fe.at1 (k := 181) (by decide), d181]; exact lb) (by omega) (wr ((fe.at1 (by decide)).trans d189))) (ok_some ⟨?_, he.q (by omega)⟩)
        rw [show Me.1 14 0 = M2.1 1 37 from he.2.2.2.1.held (by decide)]
      by_cases hz : qz r 0 (gl (M2.1 1)) = true
      · exact ok_neg (by rw [if_pos hz]; decide) (hJ 1 (by rw [if_pos hz]))
      · exact ok_pos (by rw [if_neg hz]) (hJ 0 (by rw [if_neg hz]))
    · unfold pModel_clipped
      refine ok_pt (ok_bindE (md_isMic (by rw [e1]; exact hg) (by rw [e1]; exact hm1)) (ok_neg (by decide) ?_))
      refine ok_bind (md_begin0 hN hg hm tM) ?_
      rintro Ma ⟨ha, za⟩
      refine ok_pt ?_
      have hb := ha.clear
      have eR := md_roughOf hN (by rw [hb.g]; exact hg) hb.2.2 (by rw [hb.g]; exact hm1)
      rw [hb.g, hrr] at eR
      refine ok_bindE eR (ok_bind (hb.tell (by simp)) ?_)
      rintro Mc ⟨hc, fc, zc⟩
      have eQ := md_isQuiet hN (by rw [hc.g]; exact hg) hc.2.2 (by rw [hc.g]; exact hm1)
      rw [hc.g, hrr] at eQ
      refine ok_bindE eQ ?_
      have hJ : ∀ v : Int64, v = (if qz r 0 (gl (M2.1 1)) then 1 else 0) → ok (pModel_clipped_J48 N Mc (nn m) v) (fun x => x.1 = nn (ct (cpl r (M2.1 1 37)) (gl (M2.1 1))) ∧ qM M2 [(nn (ct (rgh r) (gl (M2.1 1) - 1))).toInt64, if qz r 0 (gl (M2.1 1)) then 1 else 0] x.2) := by
        intro v hv
        subst hv
        unfold pModel_clipped_J48
        refine ok_bind (hc.tell (by simp)) ?_
        rintro Md ⟨hd, fd, zd⟩
        have eC := md_clippedOf hN (by rw [hd.g]; exact hg) hd.2.2 (by rw [hd.g]; exact hm1)
        rw [hd.g, hrr] at eC
        exact ok_bindE eC (ok_some ⟨rfl, hd.q⟩)
      by_cases hz : qz r 0 (gl (M2.1 1)) = true
      · exact ok_neg (by rw [if_pos hz]; decide) (hJ 1 (by rw [if_pos hz]))
      · exact ok_pos (by rw [if_neg hz]) (hJ 0 (by rw [if_neg hz]))
  · refine cpq hR hq hl (-1) ?_ ?_
    · unfold pMicRow_clipped
      exact ok_bindE c1 (ok_pos rfl (ok_some ⟨rfl, qC.same hS tC⟩))
    · unfold pModel_clipped
      exact ok_pt (ok_bindE (c2 _ e1) (ok_pos rfl (ok_some ⟨rfl, qM.same tM⟩)))
def fr1 (g : Nat → Int32) (m : Nat) : Nat → Int32 := fun i => smp g All m ((gb g : Int) + i)
def fq (g : Nat → Int32) (m : Nat) : Bool := qz (fr1 g m) 0 (gl g)
def fc (g : Nat → Int32) (b m : Nat) : Bool := decide (b ≤ ct (cpl (fr1 g m) (g 37)) (gl g))
def ff (g : Nat → Int32) (b m : Nat) : Bool := decide (b ≤ ct (rgh (fr1 g m)) (gl g - 1))
theorem x_faults {N : Nat} (hN : 4000 ≤ N) : cp_faults N RR := by
  intro n M1 M2 v1 hn hR
  obtain ⟨q, l, hg, hr, hS, hq, tC, tM, hl, hm⟩ := hR.opn hn
  have hL := hg.l
  obtain ⟨en, hn6⟩ := hg.n
  rcases rng v1 0 48 (by decide) with ⟨b', rfl, b1, b2⟩ | c
  · obtain ⟨b, rfl⟩ : ∃ b : Nat, b' = (b : Int) := ⟨b'.toNat, by omega⟩
    rw [← nn_ii]
    generalize hgg : M2.1 1 = g at *
    have hC : ∀ m, ct (cpl (fr1 g m) (g 37)) (gl g) ≤ 48 := fun m => Nat.le_trans (ct_le _) (by omega)
    have hF : ∀ m, ct (rgh (fr1 g m)) (gl g - 1) ≤ 48 := fun m => Nat.le_trans (ct_le _) (by omega)
    refine cpq (l := [(nn (bset (fc g b) (gn g))).toInt64, (nn (bset (ff g b) (gn g))).toInt64]) hR hq (by simp) (nn (bset (fq g) (gn g))) ?_ ?_
    · unfold pMicRow_faults
      rw [nn_ii b]
      refine ok_bindE (wi_pos (rng_in ⟨b1, b2⟩ (by decide))) (ok_neg (by decide) (ok_bind (cH.begin hg hr hS (by omega) tC) ?_))
      rw [← nn_ii b]
      rintro Ma ⟨ha, fa⟩
      refine ok_for (gn g) (fun m s => s.1 = nn (bset (fq g) m) ∧ s.2.1 = nn (bset (fc g b) m) ∧ s.2.2.1 = nn (bset (ff g b) m) ∧ s.2.2.2.1 = nn m ∧ cH M1 g All (q + 1) l s.2.2.2.2) ?_ ?_ ⟨rfl, rfl, rfl, rfl, ha⟩ (by omega)
      · rintro m ⟨w1, w2, w3, w4, M3⟩ hm1 ⟨a1, a2, a3, a4, a5⟩ k hk
        try dsimp only at a1 a2 a3 a4 a5
        subst a1
        subst a2
        subst a3
        subst a4
        unfold pMicRow_faults_L30 pMicRow_faults_L30b
        try dsimp only
        refine ok_neg (by rw [a5.2.2.2.1.n, en, nn_le nB nB]; omega) (ok_bindE rfl (ok_bindE rfl (ok_bind (cs_hearT hN a5 hm1) ?_)))
        rintro Mb ⟨hb, fb, lb, vb⟩
        refine ok_bindE (cs_isQuiet (r := fr1 g m) hN lb (by omega) vb) ?_
        have bq := bset_step (p := fq g) (m := m) (by omega)
        have bc := bset_step (p := fc g b) (m := m) (by omega)
        have bf := bset_step (p := ff g b) (m := m) (by omega)
        have hJ2 : ∀ w x y : Int32, w = nn (bset (fq g) (m + 1)) → x ||| y = nn (bset (fc g b) (m + 1)) → ok (pMicRow_faults_J106 N Mb (nn b) w (nn (bset (ff g b) m)) (nn m) k x y) (fun x => x.1 = nn (bset (fq g) (gn g)) ∧ qC M1 q [(nn (bset (fc g b) (gn g))).toInt64, (nn (bset (ff g b) (gn g))).toInt64] x.2) := by
          intro w x y hw hxy
          unfold pMicRow_faults_J106
          have hFm := hF m
          refine ok_bindE (cs_rough (r := fr1 g m) hN lb (by omega) (by omega) vb) ?_
          rw [hxy, nn_succ, hw]
          by_cases z : b ≤ ct (rgh (fr1 g m)) (gl g - 1)
          · refine ok_neg (by rw [nn_lt nB nB]; omega) ?_
            rw [bf.1 (by unfold ff; exact decide_eq_true z)]
            exact hk _ ⟨rfl, rfl, rfl, rfl, hb⟩
          · refine ok_pos (by rw [nn_lt nB nB]; omega) ?_
            rw [bf.2 (by unfold ff; exact decide_eq_false z)]
            exact hk _ ⟨rfl, rfl, rfl, rfl, hb⟩
        have hJ1 : ∀ x y : Int32, x ||| y = nn (bset (fq g) (m + 1)) → ok (pMicRow_faults_J84 N Mb (nn b) (nn (bset (fc g b) m)) (nn (bset (ff g b) m)) (nn m) k x y) (fun x => x.1 = nn (bset (fq g) (gn g)) ∧ qC M1 q [(nn (bset (fc g b) (gn g))).toInt64, (nn (bset (ff g b) (gn g))).toInt64] x.2) := by
          intro x y hxy
          unfold pMicRow_faults_J84
          have hCm := hC m
          refine ok_bindE (cs_clips (r := fr1 g m) hN lb (by omega) vb) ?_
          rw [show Mb.1 14 0 = g 37 from hb.2.2.2.1.held (by decide)]
          by_cases z : b ≤ ct (cpl (fr1 g m) (g 37)) (gl g)
          · exact ok_neg (by rw [nn_lt nB nB]; omega) (hJ2 _ _ _ hxy (bc.1 (by unfold fc; exact decide_eq_true z)))
          · exact ok_pos (by rw [nn_lt nB nB]; omega) (hJ2 _ _ _ hxy (bc.2 (by unfold fc; exact decide_eq_false z)))
        cases hz : qz (fr1 g m) 0 (gl g)
        · exact ok_pos rfl (hJ1 _ _ (bq.2 hz))
        · exact ok_neg (by decide) (hJ1 _ _ (bq.1 hz))
      · rintro ⟨w1, w2, w3, w4, M3⟩ ⟨a1, a2, a3, a4, a5⟩ k
        try dsimp only at a1 a2 a3 a4 a5
        subst a1
        subst a2
        subst a3
        subst a4
        unfold pMicRow_faults_L30 pMicRow_faults_L30b
        try dsimp only
        refine ok_pos (by rw [a5.2.2.2.1.n, en, nn_le nB nB]; omega) (ok_bind a5.clear ?_)
        rintro Mc ⟨hc, fc⟩
        refine ok_bind (hc.add (by simp)) ?_
        rintro Md ⟨hd, fd⟩
        refine ok_bind (hd.add (by simp)) ?_
        rintro Me ⟨he, fe⟩
        exact ok_some ⟨rfl, he.q (by omega)⟩
    · unfold pModel_faults
      rw [nn_ii b]
      refine ok_pt (ok_bindE (in_pos (rng_in ⟨b1, b2⟩ (by decide))) (ok_neg (by decide) (ok_bind (md_begin0 hN (by rw [hgg]; exact hg) hm tM) ?_)))
      rw [← nn_ii b]
      rintro Ma ⟨ha, za⟩
      have ea : Ma.1 1 = g := ha.g.trans hgg
      have hSa : sM Ma (smp g All) := by
        have := ha.2.2
        rw [hgg] at this
        exact this
      refine ok_for (gn g) (fun m s => s.1 = nn (bset (fq g) m) ∧ s.2.1 = nn (bset (fc g b) m) ∧ s.2.2.1 = nn (bset (ff g b) m) ∧ s.2.2.2 = nn m) ?_ ?_ ⟨rfl, rfl, rfl, rfl⟩ (by omega)
      · rintro m ⟨w1, w2, w3, w4⟩ hm1 ⟨a1, a2, a3, a4⟩ k hk
        try dsimp only at a1 a2 a3 a4
        subst a1
        subst a2
        subst a3
        subst a4
        unfold pModel_faults_L31 pModel_faults_L31b
        try dsimp only
        refine ok_neg (by rw [ea, en, nn_le nB nB]; omega) ?_
        have eQ := md_isQuiet hN (by rw [ea]; exact hg) hSa (by rw [ea]; exact hm1)
        have eC := md_clippedOf hN (by rw [ea]; exact hg) hSa (by rw [ea]; exact hm1)
        have eR := md_roughOf hN (by rw [ea]; exact hg) hSa (by rw [ea]; exact hm1)
        rw [ea] at eQ eC eR
        have bq := bset_step (p := fq g) (m := m) (by omega)
        have bc := bset_step (p := fc g b) (m := m) (by omega)
        have bf := bset_step (p := ff g b) (m := m) (by omega)
        have hJ2 : ∀ w x y : Int32, w = nn (bset (fq g) (m + 1)) → x ||| y = nn (bset (fc g b) (m + 1)) → ok (pModel_faults_J81 N Ma (nn b) w (nn (bset (ff g b) m)) (nn m) k x y) (fun x => x.1 = nn (bset (fq g) (gn g)) ∧ qM M2 [(nn (bset (fc g b) (gn g))).toInt64, (nn (bset (ff g b) (gn g))).toInt64] x.2) := by
          intro w x y hw hxy
          unfold pModel_faults_J81
          have hFm := hF m
          refine ok_bindE eR ?_
          rw [hxy, nn_succ, hw]
          by_cases z : b ≤ ct (rgh (fr1 g m)) (gl g - 1)
          · refine ok_neg (by unfold fr1 at z hFm; rw [nn_lt nB nB]; omega) ?_
            rw [bf.1 (by unfold ff; exact decide_eq_true z)]
            exact hk _ ⟨rfl, rfl, rfl, rfl⟩
          · refine ok_pos (by unfold fr1 at z hFm; rw [nn_lt nB nB]; omega) ?_
            rw [bf.2 (by unfold ff; exact decide_eq_false z)]
            exact hk _ ⟨rfl, rfl, rfl, rfl⟩
        have hJ1 : ∀ x y : Int32, x ||| y = nn (bset (fq g) (m + 1)) → ok (pModel_faults_J60 N Ma (nn b) (nn (bset (fc g b) m)) (nn (bset (ff g b) m)) (nn m) k x y) (fun x => x.1 = nn (bset (fq g) (gn g)) ∧ qM M2 [(nn (bset (fc g b) (gn g))).toInt64, (nn (bset (ff g b) (gn g))).toInt64] x.2) := by
          intro x y hxy
          unfold pModel_faults_J60
          have hCm := hC m
          refine ok_bindE eC ?_
          by_cases z : b ≤ ct (cpl (fr1 g m) (g 37)) (gl g)
          · exact ok_neg (by unfold fr1 at z hCm; rw [nn_lt nB nB]; omega) (hJ2 _ _ _ hxy (bc.1 (by unfold fc; exact decide_eq_true z)))
          · exact ok_pos (by unfold fr1 at z hCm; rw [nn_lt nB nB]; omega) (hJ2 _ _ _ hxy (bc.2 (by unfold fc; exact decide_eq_false z)))
        refine ok_bindE eQ ?_
        cases hz : qz (fr1 g m) 0 (gl g)
        · exact ok_pos (by unfold fr1 at hz; rw [hz]; rfl) (hJ1 _ _ (bq.2 hz))
        · exact ok_neg (by unfold fr1 at hz; rw [hz]; decide) (hJ1 _ _ (bq.1 hz))
      · rintro ⟨w1, w2, w3, w4⟩ ⟨a1, a2, a3, a4⟩ k
        try dsimp only at a1 a2 a3 a4
        subst a1
        subst a2
        subst a3
        subst a4
        unfold pModel_faults_L31 pModel_faults_L31b
        try dsimp only
        refine ok_pos (by rw [ea, en, nn_le nB nB]; omega) (ok_pt (ok_bind (ha.clear.tell (by simp)) ?_))
        rintro Mc ⟨hc, fc, zc⟩
        refine ok_bind (hc.tell (by simp)) ?_
        rintro Md ⟨hd, fd, zd⟩
        exact ok_some ⟨rfl, hd.q⟩
  · refine cpq hR hq hl (-1) ?_ ?_
    · unfold pMicRow_faults
      exact ok_bindE (wi_neg c) (ok_pos rfl (ok_some ⟨rfl, qC.same hS tC⟩))
    · unfold pModel_faults
      exact ok_pt (ok_bindE (in_neg c) (ok_pos rfl (ok_some ⟨rfl, qM.same tM⟩)))
/-! without one -/
def wo (s m : Nat) : Nat := s &&& (63 - 2 ^ m)
theorem wo_eq {s m : Nat} (hs : s < 64) (hm : m < 6) : (nn s &&& ((jshl 1 (nn m)) ^^^ (-1))) = nn (wo s m) := (st_without ⟨s, hs⟩ ⟨m, hm⟩).1
theorem wo_le {s m : Nat} (hs : s < 64) (hm : m < 6) : wo s m ≤ s := (st_without ⟨s, hs⟩ ⟨m, hm⟩).2.2.1
theorem lvs_live {g : Nat → Int32} {m : Nat} (hm : m < gn g) : (lvs g).testBit m = true ↔ g (6 + 6 * m) = 0 := by
  rw [lvs_bit]
  simp [hm]
theorem x_without {N : Nat} (hN : 4000 ≤ N) : cp_without N RR := by
  intro n M1 M2 v1 v2 hn hR
  obtain ⟨q, l, hg, hr, hS, hq, tC, tM, hl, hm⟩ := hR.opn hn
  have ez : mq M2 (fm_si M2 0 5 0) := mq.rf.pt (by decide)
  have e1 : (fm_si M2 0 5 0).1 1 = M2.1 1 := si_row (by decide)
  have h64 := lvs_lt hg
  have hp := pop_le h64
  have hn6 := hg.n.2
  rcases mic_or hg hr v1 with ⟨m, hm1, rfl⟩ | ⟨c1, c2⟩
  · by_cases hlv : M2.1 1 (6 + 6 * m) = 0
    · have hb' := (lvs_live hm1).mpr hlv
      rcases rng v2 (-8) 8 (by decide) with ⟨b, rfl, b1, b2⟩ | c
      · by_cases h1 : pop (lvs (M2.1 1)) = 1
        · refine cpq hR hq hl (-2) ?_ ?_
          · unfold pMicRow_without
            refine ok_bindE (cs_isLive hg hr hm1) ?_
            rw [if_pos hlv]
            exact ok_neg (by decide) (ok_bindE (cs_isDir ⟨b1, b2⟩) (ok_neg (by decide) (ok_bindE (cs_liveCount hN hg hr) (ok_pos (by rw [h1]; rfl) (ok_some ⟨rfl, qC.same hS tC⟩)))))
          · unfold pModel_without
            refine ok_pt (ok_bindE (ez.live hN hg) (ok_bindE (md_isMic (by rw [e1]; exact hg) (by rw [e1]; exact hm1)) (ok_neg (by decide) (ok_bindE (md_has h64 (by omega)) ?_))))
            rw [hb']
            exact ok_neg (by decide) (ok_bindE (md_isSide ⟨b1, b2⟩) (ok_neg (by decide) (ok_bindE (bt_countBits (by omega) h64) (ok_pos (by rw [h1]; rfl) (ok_some ⟨rfl, qM.same tM⟩)))))
        · have hne1 : nn (pop (lvs (M2.1 1))) ≠ 1 := by
            rw [show (1 : Int32) = nn 1 from rfl]
            intro z
            rw [nn_inj nB nB] at z
            exact h1 z
          have hwo : wo (lvs (M2.1 1)) m < 2 ^ gn (M2.1 1) := Nat.lt_of_le_of_lt (wo_le h64 (by omega)) lvs_2
          refine cpq (l := [pw (BM (M2.1 1) (smp (M2.1 1) All) (lvs (M2.1 1)) b) (gl (M2.1 1))]) hR hq (by simp) (pw (BM (M2.1 1) (smp (M2.1 1) All) (wo (lvs (M2.1 1)) m) b) (gl (M2.1 1))).toInt32 ?_ ?_
          · unfold pMicRow_without
            refine ok_bindE (cs_isLive hg hr hm1) ?_
            rw [if_pos hlv]
            refine ok_neg (by decide) (ok_bindE (cs_isDir ⟨b1, b2⟩) (ok_neg (by decide) (ok_bindE (cs_liveCount hN hg hr) (ok_neg hne1 (ok_bind (cH.begin hg hr hS (by omega) tC) ?_)))))
            rintro Ma ⟨ha, fa⟩
            refine ok_bind (cs_spanT hN ha ⟨b1, b2⟩) ?_
            rintro Mb ⟨hb, fb, lb, vb⟩
            refine ok_bindE (cs_live hN hg hb.2.2.2.1) (ok_bind (cs_mixedPower hN hb lvs_2 lb vb) ?_)
            rintro ⟨x, Mc⟩ ⟨x1, hc, fc⟩
            try dsimp only at x1 hc fc ⊢
            subst x1
            refine ok_bind hc.clear ?_
            rintro Md ⟨hd, fd⟩
            refine ok_bind (hd.add (by simp)) ?_
            rintro Me ⟨he, fe⟩
            refine ok_bindE (cs_live hN hg he.2.2.2.1) ?_
            rw [wo_eq h64 (by omega)]
            have keep : ∀ {k : Nat}, k ≠ 190 → k ≠ 176 → k ≠ 177 → Me.1 k = Mb.1 k := by
              intro k k1 k2 k3
              rw [fe.at1 (by (try dsimp only); omega), fd.at1 (by (try dsimp only); omega), fc.at1 k1]
            refine ok_bind (cs_mixedPower (b := b) hN he hwo (by rw [keep (by decide) (by decide) (by decide)]; exact lb) (fun m i z1 z2 => by rw [keep (by omega) (by omega) (by omega)]; exact vb m i z1 z2)) ?_
            rintro ⟨x, Mf⟩ ⟨x1, hf, ff⟩
            try dsimp only at x1 hf ff ⊢
            subst x1
            exact ok_some ⟨rfl, hf.q (by omega)⟩
          · unfold pModel_without
            refine ok_pt (ok_bindE (ez.live hN hg) (ok_bindE (md_isMic (by rw [e1]; exact hg) (by rw [e1]; exact hm1)) (ok_neg (by decide) (ok_bindE (md_has h64 (by omega)) ?_))))
            rw [hb']
            refine ok_neg (by decide) (ok_bindE (md_isSide ⟨b1, b2⟩) (ok_neg (by decide) (ok_bindE (bt_countBits (by omega) h64) (ok_neg hne1 (ok_bind (md_begin0 hN hg hm tM) ?_)))))
            rintro Ma ⟨ha, za⟩
            refine ok_pt (ok_bind (md_beamPower hN hg ha.clear lvs_2 ⟨b1, b2⟩) ?_)
            rintro ⟨x, Mb⟩ ⟨x1, hb, fb⟩
            try dsimp only at x1 hb fb ⊢
            subst x1
            refine ok_bind (hb.tell (by simp)) ?_
            rintro Mc ⟨hc, fc, zc⟩
            rw [wo_eq h64 (by omega)]
            refine ok_bind (md_beamPower hN hg hc hwo ⟨b1, b2⟩) ?_
            rintro ⟨x, Md⟩ ⟨x1, hd, fd⟩
            try dsimp only at x1 hd fd ⊢
            subst x1
            exact ok_some ⟨rfl, hd.q⟩
      · refine cpq hR hq hl (-1) ?_ ?_
        · unfold pMicRow_without
          refine ok_bindE (cs_isLive hg hr hm1) ?_
          rw [if_pos hlv]
          exact ok_neg (by decide) (ok_bindE (cs_noDir c) (ok_pos rfl (ok_some ⟨rfl, qC.same hS tC⟩)))
        · unfold pModel_without
          refine ok_pt (ok_bindE (ez.live hN hg) (ok_bindE (md_isMic (by rw [e1]; exact hg) (by rw [e1]; exact hm1)) (ok_neg (by decide) (ok_bindE (md_has h64 (by omega)) ?_))))
          rw [hb']
          exact ok_neg (by decide) (ok_bindE (md_noSide c) (ok_pos rfl (ok_some ⟨rfl, qM.same tM⟩)))
    · have hb' : (lvs (M2.1 1)).testBit m = false := by
        cases z : (lvs (M2.1 1)).testBit m
        · rfl
        · exact absurd ((lvs_live hm1).mp z) hlv
      refine cpq hR hq hl (-1) ?_ ?_
      · unfold pMicRow_without
        refine ok_bindE (cs_isLive hg hr hm1) ?_
        rw [if_neg hlv]
        exact ok_pos rfl (ok_some ⟨rfl, qC.same hS tC⟩)
      · unfold pModel_without
        refine ok_pt (ok_bindE (ez.live hN hg) (ok_bindE (md_isMic (by rw [e1]; exact hg) (by rw [e1]; exact hm1)) (ok_neg (by decide) (ok_bindE (md_has h64 (by omega)) ?_))))
        rw [hb']
        exact ok_pos rfl (ok_some ⟨rfl, qM.same tM⟩)
  · refine cpq hR hq hl (-1) ?_ ?_
    · unfold pMicRow_without pScene_isLive
      rw [c1]
      exact ok_bindE rfl (ok_pos rfl (ok_some ⟨rfl, qC.same hS tC⟩))
    · unfold pModel_without
      exact ok_pt (ok_bindE (ez.live hN hg) (ok_bindE (c2 _ e1) (ok_pos rfl (ok_some ⟨rfl, qM.same tM⟩))))
