/-! ===== calls: over the SPAN ===== -/
theorem am_first (P : Nat → Nat) : ∀ n j, j < am P n → P (am P n) < P j
  | 0, j, h => absurd h (Nat.not_lt_zero _)
  | n + 1, j, h => by
    unfold am at h ⊢
    by_cases c : P (n + 1) < P (am P n)
    · rw [if_pos c] at h ⊢
      exact Nat.lt_of_lt_of_le c (am_min P n j (by omega))
    · rw [if_neg c] at h ⊢
      exact am_first P n j h
theorem am_uniq (P : Nat → Nat) {n k : Nat} (h0 : k ≤ n) (h1 : ∀ j, j ≤ n → P k ≤ P j) (h2 : ∀ j, j < k → P k < P j) : k = am P n := by
  have a1 := am_le P n
  have a2 := am_min P n k h0
  rcases Nat.lt_trichotomy k (am P n) with c | c | c
  · have := am_first P n k c
    have := h1 (am P n) a1
    omega
  · exact c
  · have := h2 (am P n) c
    omega
theorem jabs_nn {x : Int32} {c : Nat} (h : ab x c) (hc : c ≤ 2000000000) : jabs x = nn x.toInt.natAbs := by
  unfold ab at h
  show (if 0 ≤ x then x else 0 - x) = _
  by_cases z : 0 ≤ x
  · rw [if_pos z, nn_ii]
    have z2 : 0 ≤ x.toInt := by
      have := Int32.le_iff_toInt_le.mp z
      exact this
    rw [show ((x.toInt.natAbs : Nat) : Int) = x.toInt by omega, ii_of]
  · rw [if_neg z, nn_ii]
    have z2 : ¬ 0 ≤ x.toInt := fun q => z (Int32.le_iff_toInt_le.mpr q)
    rw [show ((x.toInt.natAbs : Nat) : Int) = 0 - x.toInt by omega, ← ii_sub, ii_of]
    rfl
theorem cs_begl {M : fm_M} {g : Nat → Int32} (hg : gV g) (hr : rS M 1 g) : M.1 14 1 = ii (gb g : Int) ∧ M.1 14 2 = nn (gl g) := ⟨((hr.held (by decide)).trans hg.b.1).trans (nn_ii _), (hr.held (by decide)).trans hg.l.1⟩
theorem cs_hearT {N : Nat} {M1 M : fm_M} {g : Nat → Int32} {A : Nat → Bool} {q m : Nat} {l : List Int64} (hN : 4000 ≤ N) (h : cH M1 g A q l M) (hm : m < gn g) : ok (pBench_hear N M (nn m) (M.1 14 1) (M.1 14 2)) (fun M' => cH M1 g A q l M' ∧ fr (fun k => k = 179 ∨ k = 180 ∨ k = 181 ∨ k = 189) M M' ∧ M'.1 181 10 = nn (gl g) ∧ ∀ i, i < gl g → M'.1 189 i = smp g A m ((gb g : Int) + i)) := by
  have hg := h.2.2.1
  obtain ⟨e1, e2⟩ := cs_begl hg h.2.2.2.1
  have := hg.b.2
  have := hg.l
  rw [e1, e2]
  refine ok_mono (cs_hear hN h.2.2 hm (by omega) (by omega)) ?_
  rintro M' ⟨f, e, l1, v⟩
  exact ⟨h.kf2 f e (fun k hk => by omega), f, l1, v⟩
theorem md_layMic {N : Nat} {M2 M : fm_M} {A : Nat → Bool} {l : List Int64} {m : Nat} (hN : 4000 ≤ N) (hg : gV (M2.1 1)) (h : mH M2 A l M) (hm : m < gn (M2.1 1)) : ok (pModel_layMic N M (nn m)) (fun M' => mH M2 A l M' ∧ fr (fun k => k = 10) M M' ∧ ∀ i, i < gl (M2.1 1) → M'.1 10 i = smp (M2.1 1) A m ((gb (M2.1 1) : Int) + i)) := by
  obtain ⟨el, hl4, hl48⟩ := hg.l
  have hB := hg.b.2
  have e := h.g
  unfold pModel_layMic
  refine ok_fill 10 (gl (M2.1 1)) (fun i => smp (M2.1 1) A m ((gb (M2.1 1) : Int) + i)) ?_ ?_ (by omega)
  · intro i M3 hi f3 h3 kk
    have h4 := h.kf f3 (fun k hk => by omega)
    have e4 := h4.g
    unfold pModel_layMic_L2 pModel_layMic_L2b
    try dsimp only
    rw [e4, el, if_neg (by rw [nn_le nB nB]; omega), gb_t hg]
    refine (bindE (md_heard (by rw [e4]; exact hg) h4.2.2 (by rw [e4]; exact hm) (by omega))).trans ?_
    rw [stE (by omega) nL, nn_succ]
  · intro M3 f3 h3 kk
    have h4 := h.kf f3 (fun k hk => by omega)
    have e4 := h4.g
    unfold pModel_layMic_L2 pModel_layMic_L2b
    try dsimp only
    exact ok_pos (by rw [e4, el, nn_le nB nB]; omega) (ok_some ⟨h4, f3, h3⟩)
theorem x_level {N : Nat} (hN : 4000 ≤ N) : cp_level N RR := by
  intro n M1 M2 v1 hn hR
  obtain ⟨q, l, hg, hr, hS, hq, tC, tM, hl, hm⟩ := hR.opn hn
  have e1 : (fm_si M2 0 5 0).1 1 = M2.1 1 := si_row (by decide)
  have hB := hg.b
  obtain ⟨el, hl4, hl48⟩ := hg.l
  rcases mic_or hg hr v1 with ⟨m, hm1, rfl⟩ | ⟨c1, c2⟩
  · generalize hg0 : M2.1 1 = g at *
    have hab : ∀ i, ab (smp g All m ((gb g : Int) + i)) 9999 := fun i => smp_ab hg
    generalize hP : (fun i : Nat => 20000 - (smp g All m ((gb g : Int) + i)).toInt.natAbs) = P
    have hPi : ∀ i : Nat, P i = 20000 - (smp g All m ((gb g : Int) + i)).toInt.natAbs := fun i => by rw [← hP]
    have hu : ∀ i : Nat, (smp g All m ((gb g : Int) + i)).toInt.natAbs ≤ 9999 := fun i => hab i
    have hK := am_le P (gl g - 1)
    refine cpq (l := [pw (fun i => smp g All m ((gb g : Int) + i)) (gl g), (nn (smp g All m ((gb g : Int) + (am P (gl g - 1) : Nat))).toInt.natAbs).toInt64, (nn (gb g + am P (gl g - 1))).toInt64]) hR hq (by simp) (lvl (fun i => smp g All m ((gb g : Int) + i)) (gl g)) ?_ ?_
    · unfold pMicRow_level
      refine ok_bindE (cs_hasMic hg hr hm1) (ok_neg (by decide) (ok_bind (cH.begin hg hr hS (by omega) tC) ?_))
      rintro Ma ⟨ha, fa⟩
      refine ok_bindE rfl (ok_bindE rfl (ok_bind (cs_hearT hN ha hm1) ?_))
      rintro Mb ⟨hb, fb, lb, vb⟩
      refine ok_for (gl g - 1) (fun i s => s = (nn (am P i), nn (i + 1))) ?_ ?_ rfl (by omega)
      · rintro i s hi rfl k hk
        have hai := am_le P i
        unfold pMicRow_level_L47 pMicRow_level_L47b
        try dsimp only
        refine ok_bindE rfl ?_
        rw [(cs_begl hg hb.2.2.2.1).2]
        refine ok_neg (by rw [nn_le nB nB]; omega) (ok_ld (by omega) nL (ok_ld (by omega) nL ?_))
        rw [vb _ (by omega), vb _ (by omega), jabs_nn (hab _) (by decide), jabs_nn (hab _) (by decide), nn_succ]
        have u1 := hu (i + 1)
        have u2 := hu (am P i)
        have p1 := hPi (i + 1)
        have p2 := hPi (am P i)
        have ea : am P (i + 1) = if P (i + 1) < P (am P i) then i + 1 else am P i := rfl
        refine ok_ite (fun c => hk _ ?_) (fun c => hk _ ?_)
        · rw [nn_le nB nB] at c
          rw [ea, if_neg (by omega)]
        · rw [nn_le nB nB] at c
          rw [ea, if_pos (by omega)]
      · rintro s rfl k
        unfold pMicRow_level_L47 pMicRow_level_L47b
        try dsimp only
        refine ok_bindE rfl ?_
        rw [(cs_begl hg hb.2.2.2.1).2]
        refine ok_pos (by rw [nn_le nB nB]; omega) (ok_bind hb.clear ?_)
        rintro Mc ⟨hc, fc⟩
        refine ok_bindE (cs_powerOf (L := gl g) hN 189 (by decide +kernel) (by decide +kernel) (by rw [fc.at1 (by decide)]; exact lb) (by omega)) (ok_bind (hc.add (by simp)) ?_)
        rintro Md ⟨hd, fd⟩
        refine ok_ld (by omega) nL (ok_bind (hd.add (by simp)) ?_)
        rintro Me ⟨he, fe⟩
        refine ok_bindE rfl (ok_bind (he.add (by simp)) ?_)
        rintro Mf ⟨hf, ff⟩
        have e189 : Md.1 189 = Mb.1 189 := by rw [fd.at1 (by decide), fc.at1 (by decide)]
        have e189f : Mf.1 189 = Mb.1 189 := by rw [ff.at1 (by decide), fe.at1 (by decide)]; exact e189
        have e181 : Mf.1 181 = Mb.1 181 := by rw [ff.at1 (by decide), fe.at1 (by decide), fd.at1 (by decide), fc.at1 (by decide)]
        refine ok_bindE (cs_levelOf (L := gl g) hN 189 (by decide +kernel) (by decide +kernel) (by rw [e181]; exact lb) (by omega)) (ok_some ⟨?_, ?_⟩)
        · rw [e189f]; exact lvl_congr vb
        · have hz := hf.q (q0 := q) (by omega)
          rw [fc.at1 (k := 189) (by decide), pw_congr vb, e189, vb _ (by omega), jabs_nn (hab _) (by decide), show Me.1 14 1 + nn (am P (gl g - 1)) = nn (gb g + am P (gl g - 1)) by rw [(cs_begl hg he.2.2.2.1).1, ← nn_ii, nn_add]] at hz
          exact hz
    · unfold pModel_level
      refine ok_pt (ok_bindE (md_isMic (by rw [e1]; exact hg) (by rw [e1]; exact hm1)) (ok_neg (by decide) ?_))
      refine ok_bind (md_begin0 hN (by rw [hg0]; exact hg) hm tM) ?_
      rintro Ma ⟨ha, za⟩
      refine ok_bind (md_layMic hN (by rw [hg0]; exact hg) ha (by rw [hg0]; exact hm1)) ?_
      rintro Mb ⟨hb, fb, vb⟩
      rw [hg0] at vb
      have eb : Mb.1 1 = g := hb.g.trans hg0
      rw [eb, el, show nn (gl g) - 1 = ii ((gl g : Int) - 1) by rw [nn_ii, show (1 : Int32) = ii 1 from rfl, ii_sub]]
      refine ok_for (gl g) (fun c s => s.2.2 = ii ((gl g : Int) - 1 - c) ∧ ((c = 0 ∧ s.1 = 0) ∨ ∃ k, k < gl g ∧ gl g ≤ k + c ∧ s.1 = nn (smp g All m ((gb g : Int) + (k : Nat))).toInt.natAbs ∧ s.2.1 = nn k ∧ (∀ j, j < gl g → gl g ≤ j + c → P k ≤ P j) ∧ ∀ j, j < k → gl g ≤ j + c → P k < P j)) ?_ ?_ ⟨by (try dsimp only); congr 1; omega, Or.inl ⟨rfl, rfl⟩⟩ (by omega)
      · rintro c ⟨w2, w3, w4⟩ hc ⟨a1, a2⟩ k hk
        try dsimp only at a1 a2
        subst a1
        unfold pModel_level_L39 pModel_level_L39b
        try dsimp only
        refine ok_neg (by rw [show (0 : Int32) = ii 0 from rfl, ii_lt (by omega)]; omega) ?_
        obtain ⟨i, ei, hi⟩ : ∃ i : Nat, (gl g : Int) - 1 - c = (i : Int) ∧ i + c + 1 = gl g := ⟨gl g - 1 - c, by omega, by omega⟩
        rw [ei, ← nn_ii]
        refine ok_ld (by omega) nL ?_
        rw [vb i (by omega), jabs_nn (hab _) (by decide)]
        have en : nn i + -1 = ii ((gl g : Int) - 1 - ((c + 1 : Nat) : Int)) := by
          rw [nn_ii, show (-1 : Int32) = ii (-1) from rfl, ii_add]
          congr 1
          omega
        rw [en]
        have ui := hu i
        have pi := hPi i
        refine ok_ite (fun z => ok_ld (by omega) nL (hk _ ⟨rfl, Or.inr ⟨i, by omega, by omega, ?_, rfl, ?_, ?_⟩⟩)) (fun z => hk _ ⟨rfl, Or.inr ?_⟩)
        · try dsimp only
          rw [vb i (by omega), jabs_nn (hab _) (by decide)]
        · intro j j1 j2
          by_cases e : j = i
          · rw [e]; exact Nat.le_refl _
          · rcases a2 with ⟨b1, b2⟩ | ⟨k', b1, b2, b3, b4, b5, b6⟩
            · omega
            · rw [b3, nn_le (nB (by have := hu k'; omega)) (nB (by omega))] at z
              have := b5 j j1 (by omega)
              have := hPi k'
              have := hu k'
              omega
        · intro j j1 j2
          omega
        · rcases a2 with ⟨b1, b2⟩ | ⟨k', b1, b2, b3, b4, b5, b6⟩
          · exfalso
            apply z
            rw [b2, show (0 : Int32) = nn 0 from rfl, nn_le nB (nB (by omega))]
            omega
          · rw [b3, nn_le (nB (by have := hu k'; omega)) (nB (by omega))] at z
            have hk1 := hPi k'
            have hk2 := hu k'
            refine ⟨k', b1, by omega, b3, b4, ?_, ?_⟩
            · intro j j1 j2
              by_cases e : j = i
              · subst e; omega
              · exact b5 j j1 (by omega)
            · intro j j1 j2
              by_cases e : j = i
              · subst e; omega
              · exact b6 j j1 (by omega)
      · rintro ⟨w2, w3, w4⟩ ⟨a1, a2⟩ k
        try dsimp only at a1 a2
        subst a1
        rcases a2 with ⟨b1, b2⟩ | ⟨k', b1, b2, b3, b4, b5, b6⟩
        · omega
        · have ek : k' = am P (gl g - 1) := am_uniq P (by omega) (fun j hj => b5 j (by omega) (by omega)) (fun j hj => b6 j hj (by omega))
          subst ek
          subst b3
          subst b4
          unfold pModel_level_L39 pModel_level_L39b
          try dsimp only
          refine ok_pos (by rw [show (0 : Int32) = ii 0 from rfl, ii_lt (by omega)]; omega) (ok_pt ?_)
          have hc := hb.clear
          refine ok_bindE (hc.pow (r := fun i => smp g All m ((gb g : Int) + i)) hN (by rw [hg0]; exact hg) 10 (by decide +kernel) (by rw [hg0]; exact vb)) (ok_bind (hc.tell (by simp)) ?_)
          rintro Md ⟨hd, fd, zd⟩
          refine ok_bind (hd.tell (by simp)) ?_
          rintro Me ⟨he, fe, ze⟩
          refine ok_bind (he.tell (by simp)) ?_
          rintro Mf ⟨hf, ff, zf⟩
          have e10 : Mf.1 10 = Mb.1 10 := by rw [ff.at1 (by decide), fe.at1 (by decide), fd.at1 (by decide), si_row (by decide)]
          refine ok_bindE (hf.lev (r := fun i => smp g All m ((gb g : Int) + i)) hN (by rw [hg0]; exact hg) 10 (by decide +kernel) (by rw [hg0, e10]; exact vb)) (ok_some ⟨by rw [hg0], ?_⟩)
          have hz := hf.q
          rw [he.g, hg0, show g 38 + nn (am P (gl g - 1)) = nn (gb g + am P (gl g - 1)) by rw [hB.1, nn_add]] at hz
          exact hz
  · refine cpq hR hq hl (-1) ?_ ?_
    · unfold pMicRow_level
      exact ok_bindE c1 (ok_pos rfl (ok_some ⟨rfl, qC.same hS tC⟩))
    · unfold pModel_level
      exact ok_pt (ok_bindE (c2 _ e1) (ok_pos rfl (ok_some ⟨rfl, qM.same tM⟩)))
