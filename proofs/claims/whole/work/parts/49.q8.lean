/-! ===== calls: nulled, behind ===== -/
theorem st_por : ∀ m : Fin 6, ∀ s : Fin 64, s.val < 2 ^ m.val → pop (s.val ||| 2 ^ m.val) = pop s + 1 := by decide +kernel
theorem pop_bset {p : Nat → Bool} : ∀ {n : Nat}, n ≤ 6 → pop (bset p n) = ct p n
  | 0, _ => by show pop 0 = 0; decide
  | n + 1, h => by
    have ih := pop_bset (p := p) (n := n) (by omega)
    show pop (bset p n ||| (if p n then 2 ^ n else 0)) = ct p n + (if p n then 1 else 0)
    cases hp : p n
    · simp [ih]
    · rw [if_pos rfl, if_pos rfl, st_por ⟨n, by omega⟩ ⟨bset p n, bset_64 (by omega)⟩ (bset_lt n), ih]
def Ad (g : Nat → Int32) (d : Int) : Nat → Bool := fun s => g (41 + 15 * s) == ii d
theorem cs_sourcesFrom {N : Nat} {M : fm_M} {g : Nat → Int32} {d : Int} (hN : 4000 ≤ N) (hg : gV g) (hr : rS M 1 g) : pScene_sourcesFrom N M (ii d) = some (nn (bset (Ad g d) (gs g))) := by
  obtain ⟨es, hs4⟩ := hg.s
  unfold pScene_sourcesFrom
  refine lp_for (gs g) (fun i => (nn (bset (Ad g d) i), nn i)) _ ?_ ?_ (by omega)
  · intro i hi k
    unfold pScene_sourcesFrom_L4 pScene_sourcesFrom_L4b
    try dsimp only
    have hst := (hg.src hi).2.2.1
    rw [hr.s, es, if_neg (by rw [nn_le nB nB]; omega), ixE (by omega) nL, hr.src hi (by omega), nn_succ]
    by_cases c : g (41 + 15 * i + 0) = ii d
    · rw [if_pos c, (bset_step (by omega)).1 (show Ad g d i = true from beq_iff_eq.mpr c)]
    · rw [if_neg c, (bset_step (by omega)).2 (show Ad g d i = false from beq_eq_false_iff_ne.mpr c)]
  · intro k
    unfold pScene_sourcesFrom_L4 pScene_sourcesFrom_L4b
    try dsimp only
    rw [hr.s, es, if_pos (by rw [nn_le nB nB]; omega)]
def NC (g : Nat → Int32) (d b : Int) (i : Nat) : Int32 := cl (BM g (smp g All) (lvs g) b) (KM g (smp g All) (lvs g) b) (WM g (smp g (Ad g d)) (lvs g) b) (pop (lvs g) - 1) i
theorem x_nulled {N : Nat} (hN : 4000 ≤ N) : cp_nulled N RR := by
  intro n M1 M2 v1 v2 hn hR
  obtain ⟨q, l, hg, hr, hS, hq, tC, tM, hl, hm⟩ := hR.opn hn
  have e1 : (fm_si M2 0 5 0).1 1 = M2.1 1 := si_row (by decide)
  obtain ⟨es, hs4⟩ := hg.s
  obtain ⟨el, hl4, hl48⟩ := hg.l
  have hB200 := hg.b.2
  have h64 := lvs_lt hg
  have hp := pop_le h64
  have hn6 := hg.n.2
  rcases rng v1 (-8) 8 (by decide) with ⟨b, rfl, b1, b2⟩ | c
  · rcases rng v2 (-8) 8 (by decide) with ⟨d, rfl, d1, d2⟩ | c
    · refine cpq (l := [pw (NC (M2.1 1) d b) (gl (M2.1 1)), pw (BM (M2.1 1) (smp (M2.1 1) All) (lvs (M2.1 1)) b) (gl (M2.1 1))]) hR hq (by simp) (nn (ct (Ad (M2.1 1) d) (gs (M2.1 1)))) ?_ ?_
      · unfold pMicRow_nulled
        have hset : bset (Ad (M2.1 1) d) (gs (M2.1 1)) < 64 := bset_64 (by omega)
        refine ok_bindE (cs_isDir ⟨b1, b2⟩) (ok_neg (by decide) (ok_bindE (cs_isDir ⟨d1, d2⟩) (ok_neg (by decide) (ok_bindE (cs_sourcesFrom hN hg hr) ?_))))
        refine ok_bind (cs_listen (A := Ad (M2.1 1) d) hg hr hS (by omega) (fun s hs => by rw [bt_at hset (by omega), bset_bit]; simp [hs])) ?_
        rintro Ma ⟨fa, ea⟩
        have ha : cH M1 (M2.1 1) (Ad (M2.1 1) d) (q + 1) l Ma := ⟨fa.up (fun k hk => by omega), tC.kf fa (by decide) (by decide), ea⟩
        refine ok_bind (cs_learnWeights hN ha ⟨b1, b2⟩) ?_
        rintro Mw ⟨hw, sw, vw⟩
        refine ok_bind (cs_begin hg hw.2.2.2.1 hw.2.2.2.2.2.1 (by omega)) ?_
        rintro Mx ⟨fx, ex⟩
        have hx : cH M1 (M2.1 1) All (q + 1 + 1) l Mx := hw.kf2 fx ex (fun k hk => by omega)
        refine ok_bind (cs_spanT hN hx ⟨b1, b2⟩) ?_
        rintro Mb ⟨hb, fb, lb, vb⟩
        refine ok_bindE (cs_live hN hg hb.2.2.2.1) (ok_bind (cs_mixT hN hg lb (by omega) lvs_2 vb) ?_)
        rintro Mc ⟨fc, vc⟩
        have hc := hb.kf fc (fun k hk => by omega)
        refine ok_bindE (cs_live hN hg hc.2.2.2.1) (ok_bind (cs_blockT (H := smp (M2.1 1) All) (b := b) (t0 := (gb (M2.1 1) : Int)) hN hg (by rw [fc.at1 (by decide)]; exact lb) (by omega) lvs_2 (fun m i hm hi => by
          rw [fc.at1 (by (try dsimp only); omega)]; exact vb m i hm hi)) ?_)
        rintro Md ⟨fd, ld, wd, vd⟩
        have hd := hc.kf fd (fun k hk => by unfold bkR; omega)
        refine ok_bind (cs_takeOff hN ld wd (by omega) (by omega)) ?_
        rintro Me ⟨fe, ve⟩
        have he := hd.kf fe (fun k hk => by omega)
        have v197 : ∀ i, i < gl (M2.1 1) → Me.1 197 i = NC (M2.1 1) d b i := by
          intro i hi
          rw [ve i hi]
          unfold NC
          refine cl_congr ?_ ?_ ?_
          · rw [fd.at1 (by unfold bkR; omega)]; exact vc i hi
          · intro j hj; exact vd j i hj hi
          · intro j hj
            rw [fd.at1 (by unfold bkR; omega), fc.at1 (by decide), fb.at1 (tnR_n (by omega)), fx.at1 (by decide)]
            exact vw j hj
        have v190 : ∀ i, i < gl (M2.1 1) → Me.1 190 i = BM (M2.1 1) (smp (M2.1 1) All) (lvs (M2.1 1)) b i := by
          intro i hi
          rw [fe.at1 (by decide), fd.at1 (by unfold bkR; omega)]
          exact vc i hi
        have l181 : Me.1 181 10 = nn (gl (M2.1 1)) := by rw [fe.at1 (by decide)]; exact ld
        refine ok_bind he.clear ?_
        rintro Mf ⟨hf, ff⟩
        refine ok_bindE (cs_powerOf (L := gl (M2.1 1)) hN 197 (by decide +kernel) (by decide +kernel) (by rw [ff.at1 (by decide)]; exact l181) (by omega)) (ok_bind (hf.add (by simp)) ?_)
        rintro Mg ⟨hgg, fg⟩
        refine ok_bindE (cs_powerOf (L := gl (M2.1 1)) hN 190 (by decide +kernel) (by decide +kernel) (by rw [fg.at1 (by decide), ff.at1 (by decide)]; exact l181) (by omega)) (ok_bind (hgg.add (by simp)) ?_)
        rintro Mh ⟨hh, fh⟩
        refine ok_bindE (bt_count hset) (ok_some ⟨?_, ?_⟩)
        · try dsimp only
          rw [pop_bset (by omega)]
        · have hz := hh.q (q0 := q) (by omega)
          rw [ff.at1 (k := 197) (by decide), pw_congr v197, fg.at1 (k := 190) (by decide), ff.at1 (k := 190) (by decide), pw_congr v190] at hz
          exact hz
      · unfold pModel_nulled
        refine ok_pt (ok_bindE (md_isSide ⟨b1, b2⟩) (ok_neg (by decide) (ok_bindE (md_isSide ⟨d1, d2⟩) (ok_neg (by decide) ?_))))
        refine ok_for (gs (M2.1 1)) (fun s t => t = (nn (ct (Ad (M2.1 1) d) s), nn s)) ?_ ?_ rfl (by omega)
        · rintro s t hs rfl k hk
          unfold pModel_nulled_L26 pModel_nulled_L26b
          try dsimp only
          refine ok_neg (by rw [e1, es, nn_le nB nB]; omega) (ok_bindE (md_src 0 (by omega) (by decide)) ?_)
          rw [e1]
          refine ok_ite (fun z => hk _ ?_) (fun z => hk _ ?_)
          · show (_, _) = (nn (ct (Ad (M2.1 1) d) s + if Ad (M2.1 1) d s then 1 else 0), nn (s + 1))
            rw [if_pos (show Ad (M2.1 1) d s = true from beq_iff_eq.mpr z), nn_succ, nn_succ]
          · show (_, _) = (nn (ct (Ad (M2.1 1) d) s + if Ad (M2.1 1) d s then 1 else 0), nn (s + 1))
            rw [if_neg (show ¬ Ad (M2.1 1) d s = true from fun y => z (beq_iff_eq.mp y)), Int32.add_zero, nn_succ]
            rfl
        · rintro t rfl k
          unfold pModel_nulled_L26 pModel_nulled_L26b
          try dsimp only
          refine ok_pos (by rw [e1, es, nn_le nB nB]; omega) (ok_bindE ((mq.rf.pt (by decide) : mq M2 (fm_si M2 0 5 0)).live hN hg) (ok_pt ?_))
          generalize hM3 : fm_si (fm_si M2 0 5 0) 0 12 (ii d) = M3
          have m3 : mw M2 M3 := by rw [← hM3]; exact (mw.rf.pt (by decide)).pt (by decide)
          have t3 : tdM M3 l := by rw [← hM3]; exact (tM.pt (by decide)).pt (by decide)
          have a12 : M3.1 0 12 = ii d := by rw [← hM3, si_same]
          have a11 : M3.1 0 11 = -1 := by rw [← hM3, si_col (by decide), si_col (by decide)]; exact hm.1
          have a13 : M3.1 0 13 = -1 := by rw [← hM3, si_col (by decide), si_col (by decide)]; exact hm.2.2
          have e3 := m3.one
          have g3 : gV (M3.1 1) := by rw [e3]; exact hg
          have hA : aM M3 (Ad (M2.1 1) d) := by
            intro s' hs'
            rw [e3] at hs' ⊢
            rw [a11, a12, a13]
            unfold Ad
            rw [beq_iff_eq]
            refine ⟨fun z => ⟨?_, Or.inl rfl, Or.inr z⟩, fun z => ?_⟩
            · rw [nn_ii, show (-1 : Int32) = ii (-1) from rfl, ii_inj (by omega)]
              omega
            · rcases z.2.2 with z1 | z1
              · rw [show (300 : Int32) = ii 300 from rfl, ii_inj (by omega)] at z1
                omega
              · exact z1
          refine ok_bind (md_begin (M2 := M3) hN g3 mq.rf hA t3) ?_
          rintro Ma ⟨ha, fa⟩
          have s3 : lvs (M2.1 1) < 2 ^ gn (M3.1 1) := by rw [e3]; exact lvs_2
          refine ok_bind (md_layWeightsT hN g3 ha s3 ⟨b1, b2⟩) ?_
          rintro Mb ⟨hb, zb, wb, v1, v2, v3⟩
          rw [e3] at v2
          refine ok_pt ?_
          generalize hM4 : fm_si Mb 0 12 300 = M4
          have m4 : mq M2 M4 := by
            rw [← hM4]
            refine ((m3.tr (mw.of hb.1)).pt (by decide)).q hm ?_ si_same ?_
            · rw [si_col (by decide), hb.1.2 11 (by omega)]; exact a11
            · rw [si_col (by decide), hb.1.2 13 (by omega)]; exact a13
          have t4 : tdM M4 l := by rw [← hM4]; exact hb.2.1.pt (by decide)
          have w4 : M4.1 0 15 = nn (pop (lvs (M2.1 1)) - 1) := by rw [← hM4, si_col (by decide)]; exact wb
          have v4 : ∀ j, j < pop (lvs (M2.1 1)) - 1 → M4.1 6 j = WM (M2.1 1) (smp (M2.1 1) (Ad (M2.1 1) d)) (lvs (M2.1 1)) b j := by
            intro j hj
            rw [← hM4, si_row (by decide)]
            exact v2 j hj
          clear hM4
          have hm4 : rMod M4 := by
            unfold rMod
            rw [m4.2 11 (by omega), m4.2 12 (by omega), m4.2 13 (by omega)]
            exact hm
          refine ok_bind (md_begin (M2 := M2) hN hg m4 (aM_all (by rw [m4.one]; exact hg) hm4) t4) ?_
          rintro M5 ⟨h5, f5⟩
          refine ok_bind (md_layBeamT hN hg h5 lvs_2 ⟨b1, b2⟩) ?_
          rintro M6 ⟨h6, f6, v6⟩
          have w6 : M6.1 0 15 = nn (pop (lvs (M2.1 1)) - 1) := by rw [f6.at1 (by decide), f5.at1 (by decide)]; exact w4
          refine ok_for (pop (lvs (M2.1 1)) - 1) (fun j t => t.1 = nn j ∧ fr (fun k => k = 8) M6 t.2 ∧ ∀ j' i, j' < j → i < gl (M2.1 1) → t.2.1 8 (48 * j' + i) = KM (M2.1 1) (smp (M2.1 1) All) (lvs (M2.1 1)) b j' i) ?_ ?_ ⟨rfl, fr.rf, fun j' i z => absurd z (Nat.not_lt_zero _)⟩ (by omega)
          · rintro j ⟨v, M7⟩ hj ⟨i1, i2, i3⟩ k hk
            try dsimp only at i1 i2 i3
            subst i1
            unfold pModel_nulled_L106 pModel_nulled_L106b
            try dsimp only
            refine ok_neg (by rw [i2.at1 (k := 0) (by decide), w6, nn_le nB nB]; omega) ?_
            refine ok_for (gl (M2.1 1)) (fun i t => t.1 = nn i ∧ fr (fun k => k = 8) M6 t.2 ∧ (∀ j' i, j' < j → i < gl (M2.1 1) → t.2.1 8 (48 * j' + i) = KM (M2.1 1) (smp (M2.1 1) All) (lvs (M2.1 1)) b j' i) ∧ ∀ i', i' < i → t.2.1 8 (48 * j + i') = KM (M2.1 1) (smp (M2.1 1) All) (lvs (M2.1 1)) b j i') ?_ ?_ ⟨rfl, i2, i3, fun i z => absurd z (Nat.not_lt_zero _)⟩ (by omega)
            · rintro i ⟨v, M8⟩ hi ⟨j1, j2, j3, j4⟩ k2 hk2
              try dsimp only at j1 j2 j3 j4
              subst j1
              have h8 := h6.kf j2 (fun k hk => by omega)
              unfold pModel_nulled_L118 pModel_nulled_L118b
              try dsimp only
              refine ok_neg (by rw [h8.g, el, nn_le nB nB]; omega) ?_
              rw [h8.g, gb_t hg]
              refine ok_bindE (md_blockedOf hN (by rw [h8.g]; exact hg) h8.2.2 (by rw [h8.g]; exact lvs_2) (by omega) ⟨b1, b2⟩ (by omega)) ?_
              rw [ix_48, h8.g]
              refine ok_st (by omega) nL (hk2 _ ⟨nn_succ, j2.tr (fr.si rfl), ?_, ?_⟩)
              · intro j' i' z1 z2
                try dsimp only
                rw [si_col (by omega)]
                exact j3 j' i' z1 z2
              · intro i' z
                try dsimp only
                by_cases e : i' = i
                · subst e; rw [si_same]; rfl
                · rw [si_col (by omega)]; exact j4 i' (by omega)
            · rintro ⟨v, M8⟩ ⟨j1, j2, j3, j4⟩ k2
              try dsimp only at j1 j2 j3 j4
              subst j1
              have h8 := h6.kf j2 (fun k hk => by omega)
              unfold pModel_nulled_L118 pModel_nulled_L118b
              try dsimp only
              refine ok_pos (by rw [h8.g, el, nn_le nB nB]; omega) (hk _ ⟨nn_succ, j2, ?_⟩)
              intro j' i' z1 z2
              try dsimp only
              by_cases e : j' = j
              · subst e; exact j4 i' z2
              · exact j3 j' i' (by omega) z2
          · rintro ⟨v, M7⟩ ⟨i1, i2, i3⟩ k
            try dsimp only at i1 i2 i3
            subst i1
            have h7 := h6.kf i2 (fun k hk => by omega)
            have w7 : M7.1 0 15 = nn (pop (lvs (M2.1 1)) - 1) := by rw [i2.at1 (k := 0) (by decide)]; exact w6
            unfold pModel_nulled_L106 pModel_nulled_L106b
            try dsimp only
            refine ok_pos (by rw [w7, nn_le nB nB]; omega) (ok_bind (md_layClean hN (by rw [h7.g]; exact hg) w7 (by omega)) ?_)
            rintro M8 ⟨g1, g2⟩
            have h8 := h7.kf g1 (fun k hk => by omega)
            rw [h7.g] at g2
            have v9 : ∀ i, i < gl (M2.1 1) → M8.1 9 i = NC (M2.1 1) d b i := by
              intro i hi
              rw [g2 i hi]
              unfold NC
              refine cl_congr ?_ ?_ ?_
              · rw [i2.at1 (k := 7) (by decide)]; exact v6 i hi
              · intro j hj; exact i3 j i hj hi
              · intro j hj
                rw [i2.at1 (k := 6) (by decide), f6.at1 (by decide), f5.at1 (by decide)]
                exact v4 j hj
            refine ok_pt ?_
            refine ok_bindE (h8.clear.pow hN hg 9 (by decide +kernel) v9) (ok_bind (h8.clear.tell (by simp)) ?_)
            rintro M9 ⟨h9, f9, z9⟩
            refine ok_bindE (h9.pow (r := BM (M2.1 1) (smp (M2.1 1) All) (lvs (M2.1 1)) b) hN hg 7 (by decide +kernel) (fun i hi => by rw [f9.at1 (by decide), si_row (by decide), g1.at1 (by decide), i2.at1 (k := 7) (by decide)]; exact v6 i hi)) (ok_bind (h9.tell (by simp)) ?_)
            rintro M10 ⟨h10, f10, z10⟩
            exact ok_some ⟨rfl, h10.q⟩
    · refine cpq hR hq hl (-1) ?_ ?_
      · unfold pMicRow_nulled
        exact ok_bindE (cs_isDir ⟨b1, b2⟩) (ok_neg (by decide) (ok_bindE (cs_noDir c) (ok_pos rfl (ok_some ⟨rfl, qC.same hS tC⟩))))
      · unfold pModel_nulled
        exact ok_pt (ok_bindE (md_isSide ⟨b1, b2⟩) (ok_neg (by decide) (ok_bindE (md_noSide c) (ok_pos rfl (ok_some ⟨rfl, qM.same tM⟩)))))
  · refine cpq hR hq hl (-1) ?_ ?_
    · unfold pMicRow_nulled
      exact ok_bindE (cs_noDir c) (ok_pos rfl (ok_some ⟨rfl, qC.same hS tC⟩))
    · unfold pModel_nulled
      exact ok_pt (ok_bindE (md_noSide c) (ok_pos rfl (ok_some ⟨rfl, qM.same tM⟩)))
/-! behind -/
def bhp (g : Nat → Int32) (a b : Nat) (z : Int) (i : Nat) : Bool := sg (smp g All a ((gb g : Int) + i + z)) == sg (smp g All b ((gb g : Int) + i))
def bh (p : Nat → Int32) : Nat → Int32 × Int32
  | 0 => (0, -1)
  | n + 1 => if (bh p n).2 < p n then (bs n, p n) else bh p n
theorem bh_take {p : Nat → Int32} {n : Nat} (h : (bh p n).2 < p n) : bh p (n + 1) = (bs n, p n) := if_pos h
theorem bh_keep {p : Nat → Int32} {n : Nat} (h : ¬ (bh p n).2 < p n) : bh p (n + 1) = bh p n := if_neg h
theorem cs_alike {N : Nat} {M1 M : fm_M} {g : Nat → Int32} {q a b : Nat} {l : List Int64} {z : Int} (hN : 4000 ≤ N) (h : cH M1 g All q l M) (ha : a < gn g) (hb : b < gn g) (hz : -8 ≤ z ∧ z ≤ 8) : ok (pMicRow_alikeWhenShifted N M (nn a) (nn b) (ii z)) (fun x => x.1 = nn (ct (bhp g a b z) (gl g)) ∧ cH M1 g All q l x.2) := by
  have hg := h.2.2.1
  have hL := hg.l
  have hB := hg.b.2
  unfold pMicRow_alikeWhenShifted
  refine ok_for (gl g) (fun i s => s.1 = nn (ct (bhp g a b z) i) ∧ s.2.1 = nn i ∧ cH M1 g All q l s.2.2) ?_ ?_ ⟨rfl, rfl, h⟩ (by omega)
  · rintro i ⟨w4, w5, M3⟩ hi ⟨a1, a2, a3⟩ k hk
    try dsimp only at a1 a2 a3
    subst a1
    subst a2
    obtain ⟨e1, e2⟩ := cs_begl hg a3.2.2.2.1
    unfold pMicRow_alikeWhenShifted_L6 pMicRow_alikeWhenShifted_L6b
    try dsimp only
    refine ok_bindE rfl ?_
    rw [e2]
    refine ok_neg (by rw [nn_le nB nB]; omega) (ok_bindE rfl ?_)
    rw [e1, nn_ii i, ii_add, ii_add, ← nn_ii i]
    refine ok_bind (cs_at hN a3.2.2 ha (by omega)) ?_
    rintro ⟨x, M4⟩ ⟨x1, x2, x3⟩
    try dsimp only at x1 x2 x3 ⊢
    subst x1
    have h4 := a3.kf2 x2 x3 (fun k hk => by omega)
    refine ok_bindE cs_sign (ok_bind (cs_at hN h4.2.2 hb (by omega)) ?_)
    rintro ⟨y, M5⟩ ⟨y1, y2, y3⟩
    try dsimp only at y1 y2 y3 ⊢
    subst y1
    have h5 := h4.kf2 y2 y3 (fun k hk => by omega)
    refine ok_bindE cs_sign ?_
    rw [nn_succ, nn_succ]
    refine ok_ite (fun c => hk _ ⟨?_, rfl, h5⟩) (fun c => hk _ ⟨?_, rfl, h5⟩)
    · show _ = nn (ct (bhp g a b z) i + if bhp g a b z i then 1 else 0)
      rw [if_pos (show bhp g a b z i = true by unfold bhp; rw [c]; exact beq_self_eq_true _)]
    · show _ = nn (ct (bhp g a b z) i + if bhp g a b z i then 1 else 0)
      rw [if_neg (show ¬ bhp g a b z i = true by unfold bhp; intro y; exact c (eq_of_beq y))]
      rfl
  · rintro ⟨w4, w5, M3⟩ ⟨a1, a2, a3⟩ k
    try dsimp only at a1 a2 a3
    subst a1
    subst a2
    unfold pMicRow_alikeWhenShifted_L6 pMicRow_alikeWhenShifted_L6b
    try dsimp only
    refine ok_bindE rfl ?_
    rw [(cs_begl hg a3.2.2.2.1).2]
    exact ok_pos (by rw [nn_le nB nB]; omega) (ok_some ⟨rfl, a3⟩)
theorem x_behind {N : Nat} (hN : 4000 ≤ N) : cp_behind N RR := by
  intro n M1 M2 v1 v2 hn hR
  obtain ⟨q, l, hg, hr, hS, hq, tC, tM, hl, hm⟩ := hR.opn hn
  have e1 : (fm_si M2 0 5 0).1 1 = M2.1 1 := si_row (by decide)
  have hn6 := hg.n.2
  have hL := hg.l
  have hB := hg.b.2
  rcases two_or hg hr v1 v2 with ⟨a, b', ha, hb', hab, rfl, rfl, ht⟩ | ⟨ct1, ct2⟩
  · generalize hpp : (fun i : Nat => nn (ct (bhp (M2.1 1) a b' (bs i).toInt) (gl (M2.1 1)))) = p
    have hpi : ∀ i, nn (ct (bhp (M2.1 1) a b' (bs i).toInt) (gl (M2.1 1))) = p i := fun i => by rw [← hpp]
    refine cpq (l := [(bh p 17).2.toInt64]) hR hq (by simp) ((bh p 17).1 + 8) ?_ ?_
    · unfold pMicRow_behind
      refine ok_bindE ht (ok_neg (by decide) (ok_bind (cH.begin hg hr hS (by omega) tC) ?_))
      rintro Ma ⟨h0, fa⟩
      refine ok_for 17 (fun i s => (s.1, s.2.1) = bh p i ∧ s.2.2.1 = nn i ∧ cH M1 (M2.1 1) All (q + 1) l s.2.2.2) ?_ ?_ ⟨rfl, rfl, h0⟩ (by omega)
      · rintro i ⟨w2, w3, w5, M3⟩ hi ⟨a1, a2, a3⟩ k hk
        try dsimp only at a1 a2 a3
        subst a2
        obtain ⟨d1, d2, d3⟩ := bs_dir hi
        unfold pMicRow_behind_L27 pMicRow_behind_L27b
        try dsimp only
        refine ok_neg (by rw [show (17 : Int32) = nn 17 from rfl, nn_le nB nB]; omega) (ok_bindE (cs_bySize (by omega)) ?_)
        have hal := cs_alike (z := (bs i).toInt) hN a3 ha hb' ⟨d2, d3⟩
        rw [← d1] at hal
        refine ok_bind hal ?_
        rintro ⟨x, M4⟩ ⟨x1, x2⟩
        try dsimp only at x1 x2 ⊢
        rw [hpi] at x1
        subst x1
        rw [nn_succ]
        refine ok_ite (fun z => hk _ ⟨?_, rfl, x2⟩) (fun z => hk _ ⟨?_, rfl, x2⟩)
        · rw [bh_keep (by rw [← a1]; exact Int32.not_lt.mpr z)]
          exact a1
        · exact (bh_take (by rw [← a1]; exact Int32.not_le.mp z)).symm
      · rintro ⟨w2, w3, w5, M3⟩ ⟨a1, a2, a3⟩ k
        try dsimp only at a1 a2 a3
        subst a2
        unfold pMicRow_behind_L27 pMicRow_behind_L27b
        try dsimp only
        refine ok_pos (by decide) (ok_bind a3.clear ?_)
        rintro Mc ⟨hc, fc⟩
        refine ok_bind (hc.add (by simp)) ?_
        rintro Md ⟨hd, fd⟩
        rw [← a1]
        exact ok_some ⟨rfl, hd.q (by omega)⟩
    · unfold pModel_behind
      refine ok_pt (ok_bindE (md_isMic (by rw [e1]; exact hg) (by rw [e1]; exact ha)) (ok_neg (by decide) (ok_bindE (md_isMic (by rw [e1]; exact hg) (by rw [e1]; exact hb')) (ok_neg (by decide) (ok_neg (by rw [nn_inj nB nB]; exact hab) (ok_bind (md_begin0 hN hg hm tM) ?_))))))
      rintro Ma ⟨h0, za⟩
      have ea := h0.g
      have gva : gV (Ma.1 1) := by rw [ea]; exact hg
      refine ok_for 17 (fun i s => (s.1, s.2.1) = bh p i ∧ s.2.2 = nn i) ?_ ?_ ⟨rfl, rfl⟩ (by omega)
      · rintro i ⟨w2, w3, w5⟩ hi ⟨a1, a2⟩ k hk
        try dsimp only at a1 a2
        subst a2
        obtain ⟨d1, d2, d3⟩ := bs_dir hi
        unfold pModel_behind_L40 pModel_behind_L40b
        try dsimp only
        refine ok_neg (by rw [show (16 : Int32) = nn 16 from rfl, nn_lt nB nB]; omega) ?_
        refine ok_for (gl (M2.1 1)) (fun j s => s = (nn (ct (bhp (M2.1 1) a b' (bs i).toInt) j), M2.1 1 38 + nn j)) ?_ ?_ ?_ (by omega)
        · rintro j s hj rfl k2 hk2
          unfold pModel_behind_L59 pModel_behind_L59b
          try dsimp only
          refine ok_neg (by rw [ea, gb_L hg j (by omega)]; omega) (ok_bindE (md_turn (by omega)) ?_)
          have et : M2.1 1 38 + nn j + bs i = ii ((gb (M2.1 1) : Int) + j + (bs i).toInt) := by
            rw [gb_t hg]
            conv => lhs; rw [d1]
            rw [ii_add]
          rw [et, gb_t hg]
          refine ok_bindE (md_heard gva h0.2.2 (by rw [ea]; exact ha) (by omega)) (ok_bindE md_sign (ok_bindE (md_heard gva h0.2.2 (by rw [ea]; exact hb') (by omega)) (ok_bindE md_sign ?_)))
          rw [← gb_t hg, Int32.add_assoc]
          refine ok_ite (fun c => hk2 _ ?_) (fun c => hk2 _ ?_)
          · show (_, _) = (nn (ct (bhp (M2.1 1) a b' (bs i).toInt) j + if bhp (M2.1 1) a b' (bs i).toInt j then 1 else 0), _)
            rw [if_pos (show bhp (M2.1 1) a b' (bs i).toInt j = true by unfold bhp; rw [c]; exact beq_self_eq_true _), nn_succ, nn_succ]
          · show (_, _) = (nn (ct (bhp (M2.1 1) a b' (bs i).toInt) j + if bhp (M2.1 1) a b' (bs i).toInt j then 1 else 0), _)
            rw [if_neg (show ¬ bhp (M2.1 1) a b' (bs i).toInt j = true by unfold bhp; intro y; exact c (eq_of_beq y)), Int32.add_zero, nn_succ]
            rfl
        · rintro s rfl k2
          unfold pModel_behind_L59 pModel_behind_L59b
          try dsimp only
          refine ok_pos (by rw [ea, gb_L hg _ (by omega)]; exact Nat.le_refl _) ?_
          rw [hpi, nn_succ]
          refine ok_ite (fun z => ok_bindE (md_turn (by omega)) (hk _ ⟨?_, rfl⟩)) (fun z => hk _ ⟨?_, rfl⟩)
          · exact (bh_take (by rw [← a1]; exact z)).symm
          · rw [bh_keep (by rw [← a1]; exact z)]
            exact a1
        · show (_, Ma.1 1 38) = (_, M2.1 1 38 + nn 0)
          rw [ea, show nn 0 = (0 : Int32) from rfl, Int32.add_zero]
          rfl
      · rintro ⟨w2, w3, w5⟩ ⟨a1, a2⟩ k
        try dsimp only at a1 a2
        subst a2
        unfold pModel_behind_L40 pModel_behind_L40b
        try dsimp only
        refine ok_pos (by decide) (ok_pt (ok_bind (h0.clear.tell (by simp)) ?_))
        rintro Mc ⟨hc, fc, zc⟩
        rw [← a1]
        exact ok_some ⟨Int32.add_comm _ _, hc.q⟩
  · refine cpq hR hq hl (-1) ?_ ?_
    · unfold pMicRow_behind
      exact ok_bindE ct1 (ok_pos rfl (ok_some ⟨rfl, qC.same hS tC⟩))
    · unfold pModel_behind
      refine ok_pt ?_
      rcases ct2 _ e1 with c | ⟨c, c'⟩ | ⟨c, c', c''⟩
      · exact ok_bindE c (ok_pos rfl (ok_some ⟨rfl, qM.same tM⟩))
      · exact ok_bindE c (ok_neg (by decide) (ok_bindE c' (ok_pos rfl (ok_some ⟨rfl, qM.same tM⟩))))
      · exact ok_bindE c (ok_neg (by decide) (ok_bindE c' (ok_neg (by decide) (ok_pos c'' (ok_some ⟨rfl, qM.same tM⟩)))))
