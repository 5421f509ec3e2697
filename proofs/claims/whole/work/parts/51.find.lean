/-! ===== the class's compass ===== -/
theorem ct_ext {p p' : Nat → Bool} (h : ∀ i, p i = p' i) (n : Nat) : ct p n = ct p' n := ct_congr (fun i _ => h i)
theorem pal_congr {s : Nat} {f h : Nat → Int32} (e : ∀ m, s.testBit m = true → f m = h m) : pal s f = pal s h := by
  have k : ∀ c, cn s f c 6 = cn s h c 6 := by
    intro c
    show ct (fun m => s.testBit m && (sg (f m) == c)) 6 = ct (fun m => s.testBit m && (sg (h m) == c)) 6
    refine ct_congr (fun m _ => ?_)
    try dsimp only
    cases z : s.testBit m
    · rw [Bool.false_and, Bool.false_and]
    · rw [e m z]
  unfold pal
  rw [k, k, k]
theorem st_bdx : ∀ n : Fin 17, bs n + 8 = nn ((bs n).toInt + 8).toNat ∧ ((bs n).toInt + 8).toNat < 17 := by decide +kernel
def bdx (n : Nat) : Nat := ((bs n).toInt + 8).toNat
def cmR (k : Nat) : Prop := 181 ≤ k ∨ k = 179 ∨ k = 180
theorem cs_measure {N : Nat} {M1 M : fm_M} {g : Nat → Int32} {A : Nat → Bool} {q s L : Nat} {l : List Int64} {t0 : Int} (hN : 4000 ≤ N) (h : cH M1 g A q l M) (ht : -200 ≤ t0 ∧ t0 ≤ 200) (hL : 1 ≤ L ∧ L ≤ 48) (hs : s < 2 ^ gn g) : ok (pCompass_measure N M (ii t0) (nn L) (nn s)) (fun M' => cH M1 g A q l M' ∧ (∀ d, d < 17 → M'.1 219 d = 0) ∧ ∀ d i, d < 17 → i < L → M'.1 (202 + d) i = nn (pal s (fun m => tr g (smp g A) m (-8 + (d : Int)) (t0 + i)))) := by
  have hg := h.2.2.1
  have hn6 := hg.n.2
  have h64 := set_64 hs hn6
  unfold pCompass_measure
  refine ok_bind (cs_fill (n := 17) hN (by decide +kernel) (by decide +kernel) (by decide)) ?_
  rintro M2 ⟨f2, v2⟩
  have h2 := h.kf f2 (fun k hk => by omega)
  refine ok_for 17 (fun d t => t.1 = ii (-8 + (d : Int)) ∧ cH M1 g A q l t.2 ∧ (∀ e, e < 17 → t.2.1 219 e = 0) ∧ ∀ e i, e < d → i < L → t.2.1 (202 + e) i = nn (pal s (fun m => tr g (smp g A) m (-8 + (e : Int)) (t0 + i)))) ?_ ?_ ⟨rfl, h2, v2, fun e i z => absurd z (Nat.not_lt_zero _)⟩ (by omega)
  · rintro d ⟨v, M3⟩ hd ⟨a1, a2, a3, a4⟩ k hk
    try dsimp only at a1 a2 a3 a4
    subst a1
    unfold pCompass_measure_L12 pCompass_measure_L12b
    try dsimp only
    refine ok_neg (by rw [show (8 : Int32) = ii 8 from rfl, ii_lt (by omega)]; omega) (ok_bind (cs_turnTo hN a2.2.2 (by omega) ht hL) ?_)
    rintro M4 ⟨f4, e4, l4, w4, t4⟩
    have h4 := a2.kf2 f4 e4 (fun k hk => tnR_n (by omega))
    have e8 : ii (-8 + (d : Int)) + 8 = nn d := by
      rw [show (8 : Int32) = ii 8 from rfl, ii_add, nn_ii]
      congr 1
      omega
    refine ok_for L (fun i t => t.1 = nn i ∧ fr (fun k => k = 202 + d) M4 t.2 ∧ ∀ i', i' < i → t.2.1 (202 + d) i' = nn (pal s (fun m => tr g (smp g A) m (-8 + (d : Int)) (t0 + i')))) ?_ ?_ ⟨rfl, fr.rf, fun i z => absurd z (Nat.not_lt_zero _)⟩ (by omega)
    · rintro i ⟨v, M5⟩ hi ⟨b1, b2, b3⟩ k2 hk2
      try dsimp only at b1 b2 b3
      subst b1
      unfold pCompass_measure_L33 pCompass_measure_L33b
      try dsimp only
      refine ok_neg (by rw [nn_le nB nB]; omega) ?_
      rw [e8]
      refine ok_ix hd nL (ok_bindE (cs_pairsAlike hN h64 (by omega)) (ok_st (by omega) nL (hk2 _ ⟨nn_succ, b2.tr (fr.si rfl), ?_⟩)))
      intro i' z
      try dsimp only
      by_cases e : i' = i
      · subst e
        rw [si_same]
        refine congrArg nn (pal_congr (fun m hm => ?_))
        have := set_bit hs hm
        try dsimp only
        rw [b2.at1 (by (try dsimp only); omega)]
        exact t4 m i' this hi
      · rw [si_col e]
        exact b3 i' (by omega)
    · rintro ⟨v, M5⟩ ⟨b1, b2, b3⟩ k2
      try dsimp only at b1 b2 b3
      subst b1
      unfold pCompass_measure_L33 pCompass_measure_L33b
      try dsimp only
      refine ok_pos (by rw [nn_le nB nB]; omega) (hk _ ⟨?_, h4.kf b2 (fun k hk => by omega), ?_, ?_⟩)
      · show ii _ + ii 1 = _
        rw [ii_add]
        congr 1
        omega
      · intro e he
        try dsimp only
        rw [b2.at1 (by (try dsimp only); omega), f4.at1 (tnR_n (by omega))]
        exact a3 e he
      · intro e i z1 z2
        try dsimp only
        by_cases ee : e = d
        · subst ee
          exact b3 i z2
        · rw [b2.at1 (by (try dsimp only); omega), f4.at1 (tnR_n (by omega))]
          exact a4 e i (by omega) z2
  · rintro ⟨v, M3⟩ ⟨a1, a2, a3, a4⟩ k
    try dsimp only at a1 a2 a3 a4
    subst a1
    unfold pCompass_measure_L12 pCompass_measure_L12b
    try dsimp only
    exact ok_pos (by decide) (ok_some ⟨a2, a3, a4⟩)
theorem cs_addToTotals {N : Nat} {M : fm_M} {i : Nat} (hN : 4000 ≤ N) (hi : i < 48) : ok (pCompass_addToTotals N M (nn i)) (fun M' => fr (fun k => k = 219) M M' ∧ ∀ d, d < 17 → M'.1 219 d = M.1 219 d + M.1 (202 + d) i) := by
  unfold pCompass_addToTotals
  refine ok_fill2 219 17 (fun d => M.1 219 d + M.1 (202 + d) i) ?_ ?_ (by omega)
  · intro d M3 hd h2 h3 kk
    unfold pCompass_addToTotals_L2 pCompass_addToTotals_L2b
    try dsimp only
    rw [if_neg (by rw [show (17 : Int32) = nn 17 from rfl, nn_le nB nB]; omega), ldE hd nL, ixE hd nL, ldE hi nL, stE hd nL, nn_succ, h3 d (Nat.le_refl _), h2.at1 (k := 202 + d) (by (try dsimp only); omega)]
  · intro M3 h2 h3 h4 kk
    unfold pCompass_addToTotals_L2 pCompass_addToTotals_L2b
    try dsimp only
    exact ok_pos (by decide) (ok_some ⟨h2, h3⟩)
theorem cs_agreement {M : fm_M} {n : Nat} (hn : n < 17) : pCompass_agreement M (bs n) = some (M.1 219 (bdx n)) := by
  obtain ⟨d1, d2, d3⟩ := bs_dir hn
  obtain ⟨e1, e2⟩ := st_bdx ⟨n, hn⟩
  try dsimp only at e1 e2
  unfold pCompass_agreement
  have hd : pMicRow_isDirection M (bs n) = some 1 := by
    rw [d1]
    exact cs_isDir ⟨d2, d3⟩
  refine (bindE hd).trans ?_
  rw [if_neg (by decide), e1, ldE e2 nL]
  rfl
theorem cs_direction {N : Nat} {M : fm_M} {Q : Nat → Nat} (hN : 4000 ≤ N) (hQ : ∀ n, n < 17 → M.1 219 (bdx n) = nn (Q n) ∧ Q n ≤ 10000) : pCompass_direction N M = some (bs (mx Q 16)) := by
  unfold pCompass_direction
  refine Eq.trans (congrArg _ (show ((0 : Int32), (1 : Int32)) = (bs (mx Q 0), nn (0 + 1)) by
    show _ = (bs 0, nn 1)
    rw [show bs 0 = 0 by decide]
    rfl)) (lp_for 16 (fun i => (bs (mx Q i), nn (i + 1))) _ ?_ ?_ (by omega))
  · intro i hi k
    have hm := mx_le Q i
    obtain ⟨q1, q2⟩ := hQ (i + 1) (by omega)
    obtain ⟨q3, q4⟩ := hQ (mx Q i) (by omega)
    unfold pCompass_direction_L4 pCompass_direction_L4b
    try dsimp only
    rw [if_neg (by rw [show (17 : Int32) = nn 17 from rfl, nn_le nB nB]; omega)]
    refine (bindE (cs_bySize (by omega))).trans ?_
    refine (bindE (cs_agreement (by omega))).trans ?_
    refine (bindE (cs_agreement (by omega))).trans ?_
    rw [q1, q3, nn_succ]
    have ea : mx Q (i + 1) = if Q (mx Q i) < Q (i + 1) then i + 1 else mx Q i := rfl
    by_cases c : Q (mx Q i) < Q (i + 1)
    · rw [if_neg (by rw [nn_le nB nB]; omega), ea, if_pos c]
      exact (bindE (cs_bySize (by omega))).trans rfl
    · rw [if_pos (by rw [nn_le nB nB]; omega), ea, if_neg c]
  · intro k
    unfold pCompass_direction_L4 pCompass_direction_L4b
    try dsimp only
    rw [if_pos (by decide)]
theorem bdx_b {n : Nat} (hn : n < 17) : -8 + ((bdx n : Nat) : Int) = (bs n).toInt ∧ bdx n < 17 := by
  obtain ⟨d1, d2, d3⟩ := bs_dir hn
  unfold bdx
  omega
def totS (M : fm_M) (g : Nat → Int32) (H : Nat → Int → Int32) (s : Nat) (t0 : Int) (L : Nat) : Prop := ∀ d, d < 17 → M.1 219 d = nn (AG g H s (-8 + (d : Int)) t0 L)
theorem totS.dir {N : Nat} {M : fm_M} {g : Nat → Int32} {H : Nat → Int → Int32} {s L : Nat} {t0 : Int} (h : totS M g H s t0 L) (hN : 4000 ≤ N) (hL : L ≤ 48) : pCompass_direction N M = some (bs (FX g H s t0 L)) := by
  refine cs_direction (Q := PP g H s t0 L) hN (fun n hn => ?_)
  obtain ⟨b1, b2⟩ := bdx_b hn
  rw [h _ b2, b1]
  have := AG_le (g := g) (H := H) (s := s) (b := (bs n).toInt) (t0 := t0) hL
  exact ⟨rfl, by unfold PP; omega⟩
theorem totS.ag {M : fm_M} {g : Nat → Int32} {H : Nat → Int → Int32} {s L : Nat} {t0 : Int} (h : totS M g H s t0 L) : pCompass_agreement M (bs (FX g H s t0 L)) = some (nn (PP g H s t0 L (FX g H s t0 L))) := by
  have hm : FX g H s t0 L < 17 := Nat.lt_succ_of_le (mx_le _ 16)
  obtain ⟨b1, b2⟩ := bdx_b hm
  rw [cs_agreement hm, h _ b2, b1]
  rfl
theorem AG_succ {g : Nat → Int32} {H : Nat → Int → Int32} {s L : Nat} {b t0 : Int} : AG g H s b t0 (L + 1) = AG g H s b t0 L + pal s (fun m => tr g H m b (t0 + L)) := rfl
theorem cs_find {N : Nat} {M1 M : fm_M} {g : Nat → Int32} {A : Nat → Bool} {q s L : Nat} {l : List Int64} {t0 : Int} (hN : 4000 ≤ N) (h : cH M1 g A q l M) (ht : -200 ≤ t0 ∧ t0 ≤ 200) (hL : 1 ≤ L ∧ L ≤ 48) (hs : s < 2 ^ gn g) : ok (pCompass_find N M (ii t0) (nn L) (nn s)) (fun x => x.1 = bs (FX g (smp g A) s t0 L) ∧ cH M1 g A q l x.2 ∧ totS x.2 g (smp g A) s t0 L) := by
  unfold pCompass_find pMicRow_clamp
  refine ok_bindE rfl ?_
  have e : jmax 1 (jmin 48 (nn L)) = nn L := by
    have e1 : jmin 48 (nn L) = nn L := by
      show (if nn L < nn 48 then nn L else nn 48) = nn L
      by_cases h : L = 48
      · subst h; rfl
      · rw [if_pos (by rw [nn_lt nB nB]; omega)]
    rw [e1]
    show (if nn 1 < nn L then nn L else nn 1) = nn L
    by_cases h : L = 1
    · subst h; rfl
    · rw [if_pos (by rw [nn_lt nB nB]; omega)]
  rw [e]
  refine ok_bind (cs_measure hN h ht hL hs) ?_
  rintro M2 ⟨h2, z2, v2⟩
  refine ok_for L (fun i t => t.1 = nn i ∧ cH M1 g A q l t.2 ∧ fr (fun k => k = 219) M2 t.2 ∧ totS t.2 g (smp g A) s t0 i) ?_ ?_ ⟨rfl, h2, fr.rf, by intro d hd; exact z2 d hd⟩ (by omega)
  · rintro i ⟨v, M3⟩ hi ⟨a1, a2, a3, a4⟩ k hk
    try dsimp only at a1 a2 a3 a4
    subst a1
    unfold pCompass_find_L20 pCompass_find_L20b
    try dsimp only
    refine ok_neg (by rw [nn_le nB nB]; omega) (ok_bind (cs_addToTotals hN (by omega)) ?_)
    rintro M4 ⟨f4, v4⟩
    refine hk _ ⟨nn_succ, a2.kf f4 (fun k hk => by omega), a3.tr f4, ?_⟩
    intro d hd
    try dsimp only
    rw [v4 d hd, a4 d hd, a3.at1 (by (try dsimp only); omega), v2 d i hd hi, nn_add]
    rfl
  · rintro ⟨v, M3⟩ ⟨a1, a2, a3, a4⟩ k
    try dsimp only at a1 a2 a3 a4
    subst a1
    unfold pCompass_find_L20 pCompass_find_L20b
    try dsimp only
    exact ok_pos (by rw [nn_le nB nB]; omega) (ok_bindE (a4.dir hN hL.2) (ok_some ⟨rfl, a2, a4⟩))
/-! the model's own SPAN, changed for a while -/
theorem si_one {M : fm_M} {k j : Nat} {v : Int32} : (fm_si M k j v).1 k = upd (M.1 k) j v := if_pos rfl
theorem upd_ne {f : Nat → Int32} {k j : Nat} {v : Int32} (h : j ≠ k) : upd f k v j = f j := if_neg h
theorem upd_eq {f : Nat → Int32} {k : Nat} {v : Int32} : upd f k v k = v := if_pos rfl
theorem gV_span {g : Nat → Int32} {g' : Nat → Int32} (hg : gV g) (h : ∀ k, k ≠ 38 → k ≠ 39 → g' k = g k) (h1 : bd (g' 38) 0 200) (h2 : bd (g' 39) 4 48) : gV g' := by
  have e0 : g' 0 = g 0 := h 0 (by decide) (by decide)
  have e40 : g' 40 = g 40 := h 40 (by decide) (by decide)
  have en : gn g' = gn g := by unfold gn; rw [e0]
  have es : gs g' = gs g := by unfold gs; rw [e40]
  refine ⟨by rw [e0]; exact hg.1, by rw [e40]; exact hg.2.1, by rw [h 37 (by decide) (by decide)]; exact hg.2.2.1, h1, h2, ?_, ?_⟩
  · intro m hm
    rw [en] at hm
    have := hg.n.2
    rw [h _ (by omega) (by omega), h _ (by omega) (by omega), h _ (by omega) (by omega), h _ (by omega) (by omega), h _ (by omega) (by omega), h _ (by omega) (by omega)]
    exact hg.mic hm
  · intro s hs
    rw [es] at hs
    have e43 : g' (43 + 15 * s) = g (43 + 15 * s) := h _ (by omega) (by omega)
    have est : gst g' s = gst g s := by unfold gst; rw [e43]
    rw [h _ (by omega) (by omega), h _ (by omega) (by omega), e43]
    refine ⟨(hg.src hs).1, (hg.src hs).2.1, (hg.src hs).2.2.1, fun j hj => ?_⟩
    rw [h _ (by omega) (by omega)]
    rw [est] at hj
    exact (hg.src hs).2.2.2 j hj
theorem tr_span {g g' : Nat → Int32} {H : Nat → Int → Int32} {m : Nat} {b t : Int} (h : ∀ k, k ≠ 38 → k ≠ 39 → g' k = g k) (hm : m < 6) : tr g' H m b t = tr g H m b t := by
  unfold tr
  rw [h _ (by omega) (by omega), h _ (by omega) (by omega)]
theorem AG_span {g g' : Nat → Int32} {H : Nat → Int → Int32} {s n L : Nat} {b t0 : Int} (h : ∀ k, k ≠ 38 → k ≠ 39 → g' k = g k) (hs : s < 2 ^ n) (hn : n ≤ 6) : AG g' H s b t0 L = AG g H s b t0 L := by
  unfold AG
  refine ns_congr (fun i _ => ?_)
  exact pal_congr (fun m hm => tr_span h (by have := set_bit hs hm; omega))
theorem FX_span {g g' : Nat → Int32} {H : Nat → Int → Int32} {s n L : Nat} {t0 : Int} (h : ∀ k, k ≠ 38 → k ≠ 39 → g' k = g k) (hs : s < 2 ^ n) (hn : n ≤ 6) : FX g' H s t0 L = FX g H s t0 L ∧ ∀ k, PP g' H s t0 L k = PP g H s t0 L k := by
  have h1 : ∀ k, PP g' H s t0 L k = PP g H s t0 L k := fun k => AG_span h hs hn
  exact ⟨mx_congr (fun i _ => h1 i), h1⟩
/-- from, with the SPAN that stands in the model's cells -/
theorem md_fromS {N : Nat} {M : fm_M} {g : Nat → Int32} {H : Nat → Int → Int32} {s t L : Nat} (hN : 4000 ≤ N) (hg : gV g) (hS : sM M H) (hs : s < 2 ^ gn g) (h : ∀ k, k ≠ 38 → k ≠ 39 → M.1 1 k = g k) (ht : M.1 1 38 = nn t ∧ t ≤ 200) (hL : M.1 1 39 = nn L ∧ 4 ≤ L ∧ L ≤ 48) : ok (pModel_fromOf N M (nn s)) (fun x => x.1 = bs (FX g H s (t : Int) L) ∧ x.2.1 0 20 = nn (PP g H s (t : Int) L (FX g H s (t : Int) L)) ∧ fr (fun k => k = 0) M x.2 ∧ ∀ j, j ≠ 20 → x.2.1 0 j = M.1 0 j) := by
  have hg' : gV (M.1 1) := gV_span hg h (by rw [ht.1]; unfold bd; rw [nn_toInt nB]; omega) (by rw [hL.1]; unfold bd; rw [nn_toInt nB]; omega)
  have en : gn (M.1 1) = gn g := by unfold gn; rw [h 0 (by decide) (by decide)]
  have eb : gb (M.1 1) = t := by unfold gb; rw [ht.1, nn_toNat nB]
  have el : gl (M.1 1) = L := by unfold gl; rw [hL.1, nn_toNat nB]
  have k := md_fromOf hN hg' hS (by rw [en]; exact hs)
  rw [eb, el] at k
  obtain ⟨f1, f2⟩ := FX_span (H := H) (s := s) (L := L) (t0 := (t : Int)) h hs hg.n.2
  rw [f1, f2] at k
  exact k
theorem x_from {N : Nat} (hN : 4000 ≤ N) : cp_from N RR := by
  intro n M1 M2 hn hR
  obtain ⟨q, l, hg, hr, hS, hq, tC, tM, hl, hm⟩ := hR.opn hn
  have ez : mq M2 (fm_si M2 0 5 0) := mq.rf.pt (by decide)
  have h64 := lvs_lt hg
  have hp := pop_le h64
  have hL := hg.l
  have hB := hg.b
  by_cases h2 : 2 ≤ pop (lvs (M2.1 1))
  · have hc2 : (2 : Int32) ≤ nn (pop (lvs (M2.1 1))) := by rw [show (2 : Int32) = nn 2 from rfl, nn_le nB nB]; exact h2
    refine cpq (l := [(nn (PP (M2.1 1) (smp (M2.1 1) All) (lvs (M2.1 1)) (gb (M2.1 1) : Int) (gl (M2.1 1)) (FX (M2.1 1) (smp (M2.1 1) All) (lvs (M2.1 1)) (gb (M2.1 1) : Int) (gl (M2.1 1))))).toInt64, (nn (tri (pop (lvs (M2.1 1))))).toInt64]) hR hq (by simp) (bs (FX (M2.1 1) (smp (M2.1 1) All) (lvs (M2.1 1)) (gb (M2.1 1) : Int) (gl (M2.1 1))) + 8) ?_ ?_
    · unfold pMicRow_from
      refine ok_bindE (cs_liveCount hN hg hr) (ok_pos hc2 (ok_bind (cH.begin hg hr hS (by omega) tC) ?_))
      rintro Ma ⟨ha, fa⟩
      refine ok_bindE rfl (ok_bindE rfl (ok_bindE (cs_live hN hg ha.2.2.2.1) ?_))
      rw [(cs_begl hg ha.2.2.2.1).1, (cs_begl hg ha.2.2.2.1).2]
      refine ok_bind (cs_find hN ha (by omega) (by omega) lvs_2) ?_
      rintro ⟨x, Mb⟩ ⟨x1, hb, tb⟩
      try dsimp only at x1 hb tb ⊢
      subst x1
      refine ok_bind hb.clear ?_
      rintro Mc ⟨hc, fc⟩
      have tc : totS Mc (M2.1 1) (smp (M2.1 1) All) (lvs (M2.1 1)) (gb (M2.1 1) : Int) (gl (M2.1 1)) := by unfold totS; rw [fc.at1 (by decide)]; exact tb
      refine ok_bindE tc.ag (ok_bind (hc.add (by simp)) ?_)
      rintro Md ⟨hd, fd⟩
      refine ok_bindE (cs_liveCount hN hg hd.2.2.2.1) (ok_bindE (cs_pairsOf hp) (ok_bind (hd.add (by simp)) ?_))
      rintro Me ⟨he, fe⟩
      exact ok_some ⟨rfl, he.q (by omega)⟩
    · unfold pModel_from
      refine ok_pt (ok_bindE (ez.live hN hg) (ok_bindE (bt_countBits (by omega) h64) (ok_pos hc2 (ok_bind (md_begin0 hN hg hm tM) ?_))))
      rintro Ma ⟨ha, za⟩
      refine ok_bind (md_fromS hN hg ha.2.2 lvs_2 (fun k _ _ => by rw [ha.g]) (by rw [ha.g]; exact hB) (by rw [ha.g]; exact hL)) ?_
      rintro ⟨x, Mb⟩ ⟨x1, x2, x3, x4⟩
      try dsimp only at x1 x2 x3 x4 ⊢
      subst x1
      have hb := ha.z x3 x4 (fun k hk => by omega) (by decide)
      refine ok_pt (ok_bind (hb.clear.tell (by simp)) ?_)
      rintro Mc ⟨hc, fc, zc⟩
      have et : (nn (pop (lvs (M2.1 1))) * (nn (pop (lvs (M2.1 1))) - 1)) / 2 = nn (tri (pop (lvs (M2.1 1)))) := Option.some.inj (cs_pairsOf (M := M2) hp)
      rw [et]
      refine ok_bind (hc.tell (by simp)) ?_
      rintro Md ⟨hd, fd, zd⟩
      have hz := hd.q
      rw [si_col (by decide), x2] at hz
      exact ok_some ⟨Int32.add_comm _ _, hz⟩
  · have hc2 : ¬ (2 : Int32) ≤ nn (pop (lvs (M2.1 1))) := by rw [show (2 : Int32) = nn 2 from rfl, nn_le nB nB]; exact h2
    refine cpq hR hq hl (-2) ?_ ?_
    · unfold pMicRow_from
      exact ok_bindE (cs_liveCount hN hg hr) (ok_neg hc2 (ok_some ⟨rfl, qC.same hS tC⟩))
    · unfold pModel_from
      exact ok_pt (ok_bindE (ez.live hN hg) (ok_bindE (bt_countBits (by omega) h64) (ok_neg hc2 (ok_some ⟨rfl, qM.same tM⟩))))
