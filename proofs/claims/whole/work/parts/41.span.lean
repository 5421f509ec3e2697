/-! ===== the class over the SPAN ===== -/
theorem cs_mixT {N : Nat} {M : fm_M} {g : Nat → Int32} {H : Nat → Int → Int32} {s L : Nat} {b t0 : Int} (hN : 4000 ≤ N) (hg : gV g) (hL : M.1 181 10 = nn L) (h1 : L ≤ 48) (hs : s < 2 ^ gn g) (hT : ∀ m i, m < gn g → i < L → M.1 (183 + m) i = tr g H m b (t0 + i)) : ok (pBench_mix N M (nn s)) (fun M' => fr (fun k => k = 190) M M' ∧ ∀ i, i < L → M'.1 190 i = bm (fun m => tr g H m b (t0 + i)) s) := by
  refine ok_mono (cs_mix hN hL h1 (set_64 hs hg.n.2)) ?_
  rintro M' ⟨f, v⟩
  refine ⟨f, fun i hi => ?_⟩
  rw [v i hi]
  exact bm_congr (fun m hm => hT m i (set_bit hs hm) hi)
theorem cs_blockT {N : Nat} {M : fm_M} {g : Nat → Int32} {H : Nat → Int → Int32} {s L : Nat} {b t0 : Int} (hN : 4000 ≤ N) (hg : gV g) (hL : M.1 181 10 = nn L) (h1 : L ≤ 48) (hs : s < 2 ^ gn g) (hT : ∀ m i, m < gn g → i < L → M.1 (183 + m) i = tr g H m b (t0 + i)) : ok (pBench_block N M (nn s)) (fun M' => fr bkR M M' ∧ M'.1 181 10 = nn L ∧ M'.1 181 9 = nn (pop s - 1) ∧ ∀ j i, j < pop s - 1 → i < L → M'.1 (192 + j) i = bk (fun m => tr g H m b (t0 + i)) s j) := by
  refine ok_mono (cs_block hN hL h1 (set_64 hs hg.n.2)) ?_
  rintro M' ⟨f, l, w, v⟩
  refine ⟨f, l, w, fun j i hj hi => ?_⟩
  have hn6 := hg.n.2
  rw [v j i (by omega) hi]
  unfold bk
  (try dsimp only)
  rw [hT _ i (lva_lt hs hn6 (by omega)) hi, hT _ i (lva_lt hs hn6 (by omega)) hi]
def bSh (M : fm_M) (g : Nat → Int32) (H : Nat → Int → Int32) (s : Nat) (b : Int) : Prop := M.1 181 10 = nn (gl g) ∧ M.1 181 9 = nn (pop s - 1) ∧ (∀ i, i < gl g → M.1 190 i = BM g H s b i) ∧ ∀ j i, j < pop s - 1 → i < gl g → M.1 (192 + j) i = KM g H s b j i
theorem bSh.kf {P : Nat → Prop} {M M' : fm_M} {g : Nat → Int32} {H : Nat → Int → Int32} {s : Nat} {b : Int} (h : bSh M g H s b) (hs : s < 64) (hf : fr P M M') (hP : ∀ k, k = 181 ∨ k = 190 ∨ (192 ≤ k ∧ k < 197) → ¬ P k) : bSh M' g H s b := by
  obtain ⟨h1, h2, h3, h4⟩ := h
  have := pop_le hs
  refine ⟨by rw [hf.1 181 (hP _ (by omega))]; exact h1, by rw [hf.1 181 (hP _ (by omega))]; exact h2, by rw [hf.1 190 (hP _ (by omega))]; exact h3, fun j i hj hi => by rw [hf.1 (192 + j) (hP _ (by omega))]; exact h4 j i hj hi⟩
theorem bSh.okB {M : fm_M} {g : Nat → Int32} {A : Nat → Bool} {s : Nat} {b : Int} (h : bSh M g (smp g A) s b) (hg : gV g) (hs : s < 2 ^ gn g) : okB (M.1 190) (fun j i => M.1 (192 + j) i) (pop s - 1) (gl g) := by
  obtain ⟨a1, a2, a3, a4, a5⟩ := ok_BK (H := smp g A) (b := b) hg hs (fun m t => smp_ab hg)
  exact ⟨a1, a2, a3, fun i hi => by rw [h.2.2.1 i hi]; exact a4 i hi, fun j i hj hi => by (try dsimp only); rw [h.2.2.2 j i hj hi]; exact a5 j i hj hi⟩
theorem cs_learnT {N : Nat} {M : fm_M} {g : Nat → Int32} {A : Nat → Bool} {s : Nat} {b : Int} (hN : 4000 ≤ N) (hg : gV g) (hs : s < 2 ^ gn g) (h : bSh M g (smp g A) s b) : ok (pBench_learn N M) (fun M' => fr lnR M M' ∧ bSh M' g (smp g A) s b ∧ ∀ j, j < pop s - 1 → M'.1 198 j = WM g (smp g A) s b j) := by
  refine ok_mono (cs_learn hN h.1 h.2.1 (h.okB hg hs)) ?_
  rintro M' ⟨f, v⟩
  refine ⟨f, h.kf (set_64 hs hg.n.2) f (fun k hk => by unfold lnR; omega), fun j hj => ?_⟩
  rw [v j hj]
  unfold WM
  rw [wt_congr h.2.2.1 h.2.2.2 3]
theorem cs_takeT {N : Nat} {M : fm_M} {g : Nat → Int32} {A : Nat → Bool} {s : Nat} {b : Int} (hN : 4000 ≤ N) (hg : gV g) (hs : s < 2 ^ gn g) (h : bSh M g (smp g A) s b) (hw : ∀ j, j < pop s - 1 → M.1 198 j = WM g (smp g A) s b j) : ok (pBench_takeOff N M) (fun M' => fr (fun k => k = 197) M M' ∧ bSh M' g (smp g A) s b ∧ ∀ i, i < gl g → M'.1 197 i = CM g (smp g A) s b i) := by
  have hl := hg.l
  have h64 := set_64 hs hg.n.2
  have hp := pop_le h64
  refine ok_mono (cs_takeOff hN h.1 h.2.1 (by omega) (by omega)) ?_
  rintro M' ⟨f, v⟩
  refine ⟨f, h.kf h64 f (fun k hk => by omega), fun i hi => ?_⟩
  rw [v i hi]
  unfold CM
  exact cl_congr (h.2.2.1 i hi) (fun j hj => h.2.2.2 j i hj hi) hw
/-- turned over the SPAN, mixed, blocked -/
theorem cs_spanT {N : Nat} {M1 M : fm_M} {g : Nat → Int32} {A : Nat → Bool} {q : Nat} {l : List Int64} {b : Int} (hN : 4000 ≤ N) (h : cH M1 g A q l M) (hb : -8 ≤ b ∧ b ≤ 8) : ok (pMicRow_turnOverSpan N M (ii b)) (fun M' => cH M1 g A q l M' ∧ fr tnR M M' ∧ M'.1 181 10 = nn (gl g) ∧ ∀ m i, m < gn g → i < gl g → M'.1 (183 + m) i = tr g (smp g A) m b ((gb g : Int) + i)) := by
  refine ok_mono (cs_turnSpan hN h.2.2 hb) ?_
  rintro M' ⟨f, e, l1, l2, t⟩
  exact ⟨h.kf2 f e (fun k hk => tnR_n (by omega)), f, l1, t⟩
theorem cs_learnWeights {N : Nat} {M1 M : fm_M} {g : Nat → Int32} {A : Nat → Bool} {q : Nat} {l : List Int64} {b : Int} (hN : 4000 ≤ N) (h : cH M1 g A q l M) (hb : -8 ≤ b ∧ b ≤ 8) : ok (pMicRow_learnWeights N M (ii b)) (fun M' => cH M1 g A q l M' ∧ bSh M' g (smp g A) (lvs g) b ∧ ∀ j, j < pop (lvs g) - 1 → M'.1 198 j = WM g (smp g A) (lvs g) b j) := by
  have hg := h.2.2.1
  have hl := hg.l
  unfold pMicRow_learnWeights
  refine ok_bind (cs_spanT hN h hb) ?_
  rintro M2 ⟨h2, f2, l2, t2⟩
  refine ok_bindE (cs_live hN hg h2.2.2.2.1) ?_
  refine ok_bind (cs_mixT hN hg l2 (by omega) lvs_2 t2) ?_
  rintro M3 ⟨f3, v3⟩
  have h3 := h2.kf f3 (fun k hk => by omega)
  refine ok_bindE (cs_live hN hg h3.2.2.2.1) ?_
  refine ok_bind (cs_blockT (H := smp g A) (b := b) (t0 := (gb g : Int)) hN hg (by rw [f3.at1 (by decide)]; exact l2) (by omega) lvs_2 (fun m i hm hi => by
    have := hg.n.2
    rw [f3.at1 (by (try dsimp only); omega)]; exact t2 m i hm hi)) ?_
  rintro M4 ⟨f4, l4, w4, v4⟩
  have h4 := h3.kf f4 (fun k hk => by unfold bkR; omega)
  have s4 : bSh M4 g (smp g A) (lvs g) b := ⟨l4, w4, fun i hi => by rw [f4.at1 (by unfold bkR; omega)]; exact v3 i hi, v4⟩
  refine ok_bind (cs_learnT hN hg lvs_2 s4) ?_
  rintro M5 ⟨f5, s5, v5⟩
  exact ok_some ⟨h4.kf f5 (fun k hk => by unfold lnR; omega), s5, v5⟩
theorem cs_mixedPower {N : Nat} {M1 M : fm_M} {g : Nat → Int32} {A : Nat → Bool} {q s : Nat} {l : List Int64} {b : Int} (hN : 4000 ≤ N) (h : cH M1 g A q l M) (hs : s < 2 ^ gn g) (hL : M.1 181 10 = nn (gl g)) (hT : ∀ m i, m < gn g → i < gl g → M.1 (183 + m) i = tr g (smp g A) m b ((gb g : Int) + i)) : ok (pMicRow_mixedPower N M (nn s)) (fun x => x.1 = pw (BM g (smp g A) s b) (gl g) ∧ cH M1 g A q l x.2 ∧ fr (fun k => k = 190) M x.2) := by
  have hg := h.2.2.1
  have hl := hg.l
  unfold pMicRow_mixedPower
  refine ok_bind (cs_mixT hN hg hL (by omega) hs hT) ?_
  rintro M3 ⟨f3, v3⟩
  refine ok_bindE (cs_powerOf (L := gl g) hN 190 (by decide +kernel) (by decide +kernel) (by rw [f3.at1 (by decide)]; exact hL) (by omega)) ?_
  exact ok_some ⟨pw_congr v3, h.kf f3 (fun k hk => by omega), f3⟩
theorem cs_beamPower {N : Nat} {M1 M : fm_M} {g : Nat → Int32} {A : Nat → Bool} {q : Nat} {l : List Int64} {b : Int} (hN : 4000 ≤ N) (h : cH M1 g A q l M) (hb : -8 ≤ b ∧ b ≤ 8) : ok (pMicRow_beamPower N M (ii b)) (fun x => x.1 = pw (BM g (smp g A) (lvs g) b) (gl g) ∧ cH M1 g A q l x.2) := by
  have hg := h.2.2.1
  unfold pMicRow_beamPower
  refine ok_bind (cs_spanT hN h hb) ?_
  rintro M2 ⟨h2, f2, l2, t2⟩
  refine ok_bindE (cs_live hN hg h2.2.2.2.1) ?_
  refine ok_bind (cs_mixedPower hN h2 lvs_2 l2 t2) ?_
  rintro ⟨x, M3⟩ ⟨e, h3, f3⟩
  exact ok_some ⟨e, h3⟩
theorem cs_cleanPower {N : Nat} {M1 M : fm_M} {g : Nat → Int32} {A : Nat → Bool} {q s : Nat} {l : List Int64} {b : Int} (hN : 4000 ≤ N) (h : cH M1 g A q l M) (hb : -8 ≤ b ∧ b ≤ 8) (hs : s < 2 ^ gn g) : ok (pMicRow_cleanPower N M (ii b) (nn s)) (fun x => x.1 = pw (CM g (smp g A) s b) (gl g) ∧ cH M1 g A q l x.2) := by
  have hg := h.2.2.1
  have hl := hg.l
  have hn6 := hg.n.2
  unfold pMicRow_cleanPower
  refine ok_bind (cs_spanT hN h hb) ?_
  rintro M2 ⟨h2, f2, l2, t2⟩
  refine ok_bind (cs_mixT hN hg l2 (by omega) hs t2) ?_
  rintro M3 ⟨f3, v3⟩
  have h3 := h2.kf f3 (fun k hk => by omega)
  refine ok_bind (cs_blockT (H := smp g A) (b := b) (t0 := (gb g : Int)) hN hg (by rw [f3.at1 (by decide)]; exact l2) (by omega) hs (fun m i hm hi => by
    rw [f3.at1 (by (try dsimp only); omega)]; exact t2 m i hm hi)) ?_
  rintro M4 ⟨f4, l4, w4, v4⟩
  have h4 := h3.kf f4 (fun k hk => by unfold bkR; omega)
  have s4 : bSh M4 g (smp g A) s b := ⟨l4, w4, fun i hi => by rw [f4.at1 (by unfold bkR; omega)]; exact v3 i hi, v4⟩
  refine ok_bind (cs_learnT hN hg hs s4) ?_
  rintro M5 ⟨f5, s5, v5⟩
  refine ok_bind (cs_takeT hN hg hs s5 v5) ?_
  rintro M6 ⟨f6, s6, v6⟩
  refine ok_bindE (cs_powerOf (L := gl g) hN 197 (by decide +kernel) (by decide +kernel) s6.1 (by omega)) ?_
  exact ok_some ⟨pw_congr v6, (h4.kf f5 (fun k hk => by unfold lnR; omega)).kf f6 (fun k hk => by omega)⟩
/-! the model over the SPAN -/
theorem ii_lit (z : Int) : ii z = ii z := rfl
theorem md_layWeightsT {N : Nat} {M2 M : fm_M} {A : Nat → Bool} {l : List Int64} {s : Nat} {b : Int} (hN : 4000 ≤ N) (hg : gV (M2.1 1)) (h : mH M2 A l M) (hs : s < 2 ^ gn (M2.1 1)) (hb : -8 ≤ b ∧ b ≤ 8) : ok (pModel_layWeights N M (nn s) (ii b)) (fun M' => mH M2 A l M' ∧ M'.1 0 5 = M.1 0 5 ∧ M'.1 0 15 = nn (pop s - 1) ∧ (∀ i, i < gl (M2.1 1) → M'.1 7 i = BM (M2.1 1) (smp (M2.1 1) A) s b i) ∧ (∀ j, j < pop s - 1 → M'.1 6 j = WM (M2.1 1) (smp (M2.1 1) A) s b j) ∧ ∀ i, i < gl (M2.1 1) → M'.1 9 i = CM (M2.1 1) (smp (M2.1 1) A) s b i) := by
  have e := h.g
  have k := md_layWeights (M := M) (H := smp (M2.1 1) A) (s := s) (b := b) hN (by rw [e]; exact hg) h.2.2 (by rw [e]; exact hs) hb (fun m t => smp_ab hg)
  rw [e] at k
  refine ok_mono k ?_
  rintro M' ⟨f, z, w, v1, v2, v3⟩
  exact ⟨h.z f z (fun k hk => by unfold lwR; omega) (by decide), z 5 (by decide), w, v1, v2, v3⟩
theorem md_layBeamT {N : Nat} {M2 M : fm_M} {A : Nat → Bool} {l : List Int64} {s : Nat} {b : Int} (hN : 4000 ≤ N) (hg : gV (M2.1 1)) (h : mH M2 A l M) (hs : s < 2 ^ gn (M2.1 1)) (hb : -8 ≤ b ∧ b ≤ 8) : ok (pModel_layBeam N M (nn s) (ii b)) (fun M' => mH M2 A l M' ∧ fr (fun k => k = 7) M M' ∧ ∀ i, i < gl (M2.1 1) → M'.1 7 i = BM (M2.1 1) (smp (M2.1 1) A) s b i) := by
  have e := h.g
  have k := md_layBeam (M := M) (H := smp (M2.1 1) A) (s := s) (b := b) hN (by rw [e]; exact hg) h.2.2 (by rw [e]; exact hs) hb
  rw [e] at k
  refine ok_mono k ?_
  rintro M' ⟨f, v⟩
  exact ⟨h.kf f (fun k hk => by omega), f, v⟩
theorem mH.pow {N : Nat} {M2 M : fm_M} {A : Nat → Bool} {l : List Int64} (h : mH M2 A l M) (hN : 4000 ≤ N) (hg : gV (M2.1 1)) (v : Nat) (hv : fm_n shM v = 48) {r : Nat → Int32} (hr : ∀ i, i < gl (M2.1 1) → M.1 v i = r i) : pModel_powerOf N M v = some (pw r (gl (M2.1 1))) := by
  have e := h.g
  rw [md_powerOf hN (by rw [e]; exact hg) v hv, e, pw_congr hr]
theorem mH.lev {N : Nat} {M2 M : fm_M} {A : Nat → Bool} {l : List Int64} (h : mH M2 A l M) (hN : 4000 ≤ N) (hg : gV (M2.1 1)) (v : Nat) (hv : fm_n shM v = 48) {r : Nat → Int32} (hr : ∀ i, i < gl (M2.1 1) → M.1 v i = r i) : pModel_levelOf N M v = some (lvl r (gl (M2.1 1))) := by
  have e := h.g
  rw [md_levelOf hN (by rw [e]; exact hg) v hv, e, lvl_congr hr]
theorem md_beamPower {N : Nat} {M2 M : fm_M} {A : Nat → Bool} {l : List Int64} {s : Nat} {b : Int} (hN : 4000 ≤ N) (hg : gV (M2.1 1)) (h : mH M2 A l M) (hs : s < 2 ^ gn (M2.1 1)) (hb : -8 ≤ b ∧ b ≤ 8) : ok (pModel_beamPower N M (nn s) (ii b)) (fun x => x.1 = pw (BM (M2.1 1) (smp (M2.1 1) A) s b) (gl (M2.1 1)) ∧ mH M2 A l x.2 ∧ fr (fun k => k = 7) M x.2) := by
  unfold pModel_beamPower
  refine ok_bind (md_layBeamT hN hg h hs hb) ?_
  rintro M3 ⟨h3, f3, v3⟩
  exact ok_bindE (h3.pow hN hg 7 (by decide +kernel) v3) (ok_some ⟨rfl, h3, f3⟩)
theorem md_cleanPower {N : Nat} {M2 M : fm_M} {A : Nat → Bool} {l : List Int64} {s : Nat} {b : Int} (hN : 4000 ≤ N) (hg : gV (M2.1 1)) (h : mH M2 A l M) (hs : s < 2 ^ gn (M2.1 1)) (hb : -8 ≤ b ∧ b ≤ 8) : ok (pModel_cleanPower N M (nn s) (ii b)) (fun x => x.1 = pw (CM (M2.1 1) (smp (M2.1 1) A) s b) (gl (M2.1 1)) ∧ mH M2 A l x.2) := by
  unfold pModel_cleanPower
  refine ok_bind (md_layWeightsT hN hg h hs hb) ?_
  rintro M3 ⟨h3, z3, w3, v1, v2, v3⟩
  exact ok_bindE (h3.pow hN hg 9 (by decide +kernel) v3) (ok_some ⟨rfl, h3⟩)
theorem mH.live {N : Nat} {M2 M : fm_M} {A : Nat → Bool} {l : List Int64} (h : mH M2 A l M) (hN : 4000 ≤ N) (hg : gV (M2.1 1)) : pModel_liveBits N M = some (nn (lvs (M2.1 1))) := by
  have e := h.g
  rw [md_live hN (by rw [e]; exact hg), e]
theorem mq.live {N : Nat} {M2 M : fm_M} (h : mq M2 M) (hN : 4000 ≤ N) (hg : gV (M2.1 1)) : pModel_liveBits N M = some (nn (lvs (M2.1 1))) := by
  have e := h.one
  rw [md_live hN (by rw [e]; exact hg), e]
