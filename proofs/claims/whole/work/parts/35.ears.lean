/-! ===== the class's side: ears, turned rows ===== -/
theorem rS.n {M : fm_M} {g : Nat → Int32} (h : rS M 1 g) : M.1 1 0 = g 0 := h.1
theorem rS.s {M : fm_M} {g : Nat → Int32} (h : rS M 1 g) : M.1 1 1 = g 40 := h.2.1
theorem rS.held {M : fm_M} {g : Nat → Int32} (h : rS M 1 g) {j : Nat} (hj : j < 3) : M.1 14 j = g (37 + j) := h.2.2.1 j hj
theorem rS.mic {M : fm_M} {g : Nat → Int32} (h : rS M 1 g) {m : Nat} (q : Nat) (hm : m < gn g) (hq : q < 6) : M.1 (3 + q) m = g (1 + 6 * m + q) := by
  have := h.2.2.2.1 m q hm hq
  rwa [show 1 + 2 + q = 3 + q by omega] at this
theorem rS.src {M : fm_M} {g : Nat → Int32} (h : rS M 1 g) {s j : Nat} (hs : s < gs g) (hj : j < 3 + gst g s) : M.1 (10 + s) j = g (41 + 15 * s + j) := by
  have := h.2.2.2.2 s j hs hj
  rwa [show 1 + 9 + s = 10 + s by omega] at this
def aC (M : fm_M) (g : Nat → Int32) (A : Nat → Bool) : Prop := ∀ s, s < gs g → ((jshr (M.1 178 3) (nn s)) &&& 1 = 0 ↔ A s = false)
def eS (M : fm_M) (q : Nat) : Prop := M.1 178 4 = nn q ∧ q < 1000000000 ∧ ∀ i, i < 3606 → (M.1 180 i).toInt ≤ q
def eV (M : fm_M) (H : Nat → Int → Int32) (n : Nat) : Prop := ∀ m t, m < n → -300 ≤ t → t ≤ 300 → M.1 180 (601 * m + (t + 300).toNat) = M.1 178 4 → M.1 179 (601 * m + (t + 300).toNat) = H m t
def cE (M : fm_M) (g : Nat → Int32) (A : Nat → Bool) (q : Nat) : Prop := gV g ∧ rS M 1 g ∧ aC M g A ∧ eS M q ∧ eV M (smp g A) (gn g)
theorem cE.kept {M M' : fm_M} {g : Nat → Int32} {A : Nat → Bool} {q : Nat} (h : cE M g A q) (hk : ∀ a, (1 ≤ a ∧ a < 15) ∨ (178 ≤ a ∧ a < 181) → M'.1 a = M.1 a) : cE M' g A q := by
  obtain ⟨h1, h2, h3, h4, h5⟩ := h
  refine ⟨h1, h2.kept (fun a a1 a2 => hk a (by omega)) h1, ?_, ?_, ?_⟩
  · unfold aC; rw [hk 178 (by omega)]; exact h3
  · unfold eS; rw [hk 178 (by omega), hk 180 (by omega)]; exact h4
  · unfold eV; rw [hk 178 (by omega), hk 180 (by omega), hk 179 (by omega)]; exact h5
theorem cE.fr {P : Nat → Prop} {M M' : fm_M} {g : Nat → Int32} {A : Nat → Bool} {q : Nat} (h : cE M g A q) (hf : fr P M M') (hP : ∀ a, (1 ≤ a ∧ a < 15) ∨ (178 ≤ a ∧ a < 181) → ¬ P a) : cE M' g A q := h.kept (fun a ha => hf.1 a (hP a ha))
theorem sh15 : ∀ s : Fin 4, fm_n shC (10 + s.val) = 15 := by decide +kernel
theorem sh48a : ∀ s : Fin 6, fm_n shC (183 + s.val) = 48 := by decide +kernel
theorem sh48b : ∀ s : Fin 5, fm_n shC (192 + s.val) = 48 := by decide +kernel
theorem cs_waveAt {M : fm_M} {g : Nat → Int32} {s : Nat} {p t : Int} (hg : gV g) (hr : rS M 1 g) (hs : s < gs g) (hp : 0 ≤ p ∧ p ≤ 40) (ht : -1000 ≤ t ∧ t ≤ 1000) : pEars_waveAt M (10 + s) (ii p) (ii t) = some (hd g s p t) := by
  have hs4 : s < 4 := by have := hg.s.2; omega
  have hx := hdx_bd hg hs hp ht
  have hst := (hg.src hs).2.2.1
  obtain ⟨est, h2, h12⟩ := bd_nn hst (by decide)
  have eg : gst g s = (g (43 + 15 * s)).toNatClampNeg := rfl
  rw [← eg] at est h2 h12
  have c0 : M.1 (10 + s) 0 = g (41 + 15 * s) := hr.src hs (by omega)
  have c1 : M.1 (10 + s) 1 = g (42 + 15 * s) := (hr.src hs (by omega)).trans (ar (by omega))
  have c2 : M.1 (10 + s) 2 = nn (gst g s) := ((hr.src hs (by omega)).trans (ar (by omega))).trans est
  have cw : ∀ k : Int, M.1 (10 + s) (3 + (k % (gst g s : Int)).toNat) = hdw g s k ∧ 0 ≤ k % (gst g s : Int) ∧ k % (gst g s : Int) < (gst g s : Int) := by
    intro k
    have k1 := Int.emod_nonneg k (show (gst g s : Int) ≠ 0 by omega)
    have k2 := Int.emod_lt_of_pos k (show 0 < (gst g s : Int) by omega)
    refine ⟨?_, k1, k2⟩
    rw [hr.src hs (by omega)]
    unfold hdw
    rw [est, nn_toInt nB]
    exact ar (by omega)
  have ex : (8 * ii t) - (ii p * g (41 + 15 * s)) = ii (hdx g s p t) := by
    rw [← ii_of (g (41 + 15 * s)), show (8 : Int32) = ii 8 from rfl, ii_mul, ii_mul, ii_sub]
    rfl
  have hJ : ∀ a b : Nat, a < 12 → b < 12 → pEars_waveAt_J61 M (10 + s) (ii (hdx g s p t % 8)) (nn a) (nn b) = some (g (42 + 15 * s) * (((8 - ii (hdx g s p t % 8)) * M.1 (10 + s) (3 + a)) + (ii (hdx g s p t % 8) * M.1 (10 + s) (3 + b)))) := by
    intro a b ha hb
    unfold pEars_waveAt_J61
    rw [sh15 ⟨s, hs4⟩]
    refine (ldE (i := 1) (by decide) nL).trans ?_
    rw [show (3 : Int32) = nn 3 from rfl, nn_add, nn_add, ldE (by omega) nL, ldE (by omega) nL, c1]
  unfold pEars_waveAt
  rw [sh15 ⟨s, hs4⟩]
  refine (ldE (i := 2) (by decide) nL).trans ?_
  rw [c2]
  refine (bindE (wi_pos ⟨by rw [show (1 : Int32) = nn 1 from rfl, nn_le nB nB]; omega, by rw [show (12 : Int32) = nn 12 from rfl, nn_le nB nB]; omega⟩)).trans ?_
  rw [if_neg (by decide)]
  refine (ldE (i := 0) (by decide) nL).trans ?_
  rw [c0, ex, nb_shr3 (by omega), nb_and7, nn_ii]
  refine (bindE (nb_floorMod (by omega) (by omega))).trans ?_
  obtain ⟨w1, w2, w3⟩ := cw (hdx g s p t / 8)
  obtain ⟨w4, w5, w6⟩ := cw (hdx g s p t / 8 + 1)
  have e1 : (hdx g s p t / 8 + 1) % (gst g s : Int) = if hdx g s p t / 8 % (gst g s : Int) + 1 < (gst g s : Int) then hdx g s p t / 8 % (gst g s : Int) + 1 else 0 := by
    rw [Int.add_emod, Int.emod_eq_of_lt (a := 1) (by decide) (by omega)]
    split
    · exact Int.emod_eq_of_lt (by omega) (by assumption)
    · have : hdx g s p t / 8 % (gst g s : Int) + 1 = (gst g s : Int) := by omega
      rw [this, Int.emod_self]
  rw [show (1 : Int32) = ii 1 from rfl, ii_add, ii_nat w2]
  unfold hd
  rw [← w1, ← w4]
  by_cases hc : hdx g s p t / 8 % (gst g s : Int) + 1 < (gst g s : Int)
  · rw [if_neg (by rw [ii_le (by omega)]; omega), ii_nat (z := hdx g s p t / 8 % (gst g s : Int) + 1) (by omega), hJ _ _ (by omega) (by omega), e1, if_pos hc]
  · rw [if_pos (by rw [ii_le (by omega)]; omega)]
    refine (hJ _ 0 (by omega) (by omega)).trans ?_
    rw [e1, if_neg hc]
    rfl
theorem cs_reckon {N : Nat} {M : fm_M} {g : Nat → Int32} {A : Nat → Bool} {m : Nat} {t : Int} (hN : 4000 ≤ N) (hg : gV g) (hr : rS M 1 g) (hA : aC M g A) (hm : m < gn g) (ht : -1000 ≤ t ∧ t ≤ 1000) : pEars_reckon N M (nn m) (ii t) = some (smp g A m t) := by
  have hm6 : m < 6 := by have := hg.n.2; omega
  obtain ⟨es, hs4⟩ := hg.s
  have hmic := hg.mic hm
  have r0 : M.1 3 m = g (1 + 6 * m) := hr.mic 0 hm (by decide)
  have r1 : M.1 4 m = g (2 + 6 * m) := (hr.mic 1 hm (by decide)).trans (ar (by omega))
  have r2 : M.1 5 m = g (3 + 6 * m) := (hr.mic 2 hm (by decide)).trans (ar (by omega))
  have r4 : M.1 7 m = g (5 + 6 * m) := (hr.mic 4 hm (by decide)).trans (ar (by omega))
  unfold pEars_reckon smp
  rw [ldE (by omega) nL, r4]
  by_cases hd1 : g (5 + 6 * m) = 0
  · rw [if_pos hd1, if_pos hd1, ldE (by omega) nL, r2]
    refine (bindE rfl).trans ?_
    refine Eq.trans (congrArg _ ?_) (lp_for (gs g) (fun i => (g (3 + 6 * m) * gu (nn m) (ii t) + sm (sps g A m t) i, nn i)) _ ?_ ?_ (by omega))
    · show (_, (0 : Int32)) = (_ + sm _ 0, nn 0)
      rw [show sm (sps g A m t) 0 = 0 from rfl, Int32.add_zero]
      rfl
    · intro i hi k
      unfold pEars_reckon_L37 pEars_reckon_L37b
      try dsimp only
      rw [hr.s, es, if_neg (by rw [nn_le nB nB]; omega), ← ad_sm, nn_succ]
      have hAi := hA i hi
      cases h : A i
      · rw [if_pos (hAi.mpr h)]
        unfold sps
        rw [h]
        simp
      · rw [if_neg (fun q => by rw [hAi.mp q] at h; cases h), ixE (by omega) nL, ldE (by omega) nL, r0]
        have e := cs_waveAt (M := M) (p := (g (1 + 6 * m)).toInt) hg hr hi ⟨hmic.1.1, hmic.1.2⟩ ht
        rw [ii_of] at e
        refine (bindE e).trans ?_
        unfold sps
        rw [h]
        rfl
    · intro k
      unfold pEars_reckon_L37 pEars_reckon_L37b
      try dsimp only
      rw [hr.s, es, if_pos (by rw [nn_le nB nB]; omega), ldE (by omega) nL, r1, show M.1 14 0 = g 37 from hr.held (by decide)]
      rfl
  · rw [if_neg hd1, if_neg hd1]
theorem cs_hasMic {M : fm_M} {g : Nat → Int32} (hg : gV g) (hr : rS M 1 g) {m : Nat} (hm : m < gn g) : pScene_hasMic M (nn m) = some 1 := by
  obtain ⟨en, hn6⟩ := hg.n
  unfold pScene_hasMic
  rw [if_neg (by rw [show (0 : Int32) = nn 0 from rfl, nn_lt nB nB]; omega), hr.n, en, if_neg (by rw [nn_le nB nB]; omega)]
theorem ix_at {m : Nat} {t : Int} (ht : -300 ≤ t) : ((nn m * 601) + 300) + ii t = nn (601 * m + (t + 300).toNat) := by
  rw [nn_ii m, nn_ii, show (601 : Int32) = ii 601 from rfl, show (300 : Int32) = ii 300 from rfl, ii_mul, ii_add, ii_add]
  congr 1
  omega
theorem cs_at {N : Nat} {M : fm_M} {g : Nat → Int32} {A : Nat → Bool} {q m : Nat} {t : Int} (hN : 4000 ≤ N) (hE : cE M g A q) (hm : m < gn g) (ht : -300 ≤ t ∧ t ≤ 300) : ok (pEars_at N M (nn m) (ii t)) (fun r => r.1 = smp g A m t ∧ fr (fun k => k = 179 ∨ k = 180) M r.2 ∧ cE r.2 g A q) := by
  obtain ⟨hg, hr, hA, hS, hV⟩ := hE
  have hn6 := hg.n.2
  unfold pEars_at
  refine ok_bindE (cs_hasMic hg hr hm) (ok_neg (by decide) ?_)
  refine ok_bindE (wi_pos ⟨by rw [show (-300 : Int32) = ii (-300) from rfl, ii_le (by omega)]; omega, by rw [show (300 : Int32) = ii 300 from rfl, ii_le (by omega)]; omega⟩) (ok_neg (by decide) ?_)
  rw [ix_at ht.1]
  generalize hI : 601 * m + (t + 300).toNat = I
  have hI2 : I < 3606 := by omega
  refine ok_ld hI2 nL ?_
  refine ok_ite (fun hc => ?_) (fun hc => ?_)
  · unfold pEars_at_J73
    refine ok_ld hI2 nL (ok_some ⟨?_, fr.rf, hg, hr, hA, hS, hV⟩)
    have := hV m t hm ht.1 ht.2
    rw [hI] at this
    exact this hc
  · refine ok_st hI2 nL ?_
    have hr1 : rS (fm_si M 180 I (M.1 178 4)) 1 g := hr.kept (fun a a1 a2 => si_row (by omega)) hg
    have hA1 : aC (fm_si M 180 I (M.1 178 4)) g A := by unfold aC; rw [si_row (by decide)]; exact hA
    refine ok_bindE (cs_reckon hN hg hr1 hA1 hm (by omega)) ?_
    refine ok_st hI2 nL ?_
    unfold pEars_at_J73
    refine ok_ld hI2 nL (ok_some ⟨by dsimp only; exact si_same, (fr.si (Or.inr rfl)).tr (fr.si (Or.inl rfl)), hg, ?_, ?_, ?_, ?_⟩)
    · exact hr1.kept (fun a a1 a2 => si_row (by omega)) hg
    · unfold aC; rw [si_row (by decide)]; exact hA1
    · obtain ⟨s1, s2, s3⟩ := hS
      unfold eS
      rw [si_row (by decide), si_row (by decide), si_row (by decide)]
      refine ⟨s1, s2, fun i hi => ?_⟩
      by_cases e : i = I
      · subst e
        rw [si_same, s1, nn_toInt nB]
        omega
      · rw [si_col e]
        exact s3 i hi
    · intro m' t' a1 a2 a3
      rw [si_row (a := 180) (by decide), si_row (a := 178) (by decide), si_row (a := 178) (by decide)]
      by_cases e : 601 * m' + (t' + 300).toNat = I
      · have e1 : m' = m := by omega
        have e2 : t' = t := by omega
        subst e1
        subst e2
        rw [hI]
        intro _
        exact si_same
      · rw [si_col e, si_col e, si_row (by decide)]
        exact hV m' t' a1 a2 a3
theorem cs_listen {M : fm_M} {g : Nat → Int32} {A : Nat → Bool} {q : Nat} {v : Int32} (hg : gV g) (hr : rS M 1 g) (hS : eS M q) (hq : q < 900000000) (hv : ∀ s, s < gs g → ((jshr v (nn s)) &&& 1 = 0 ↔ A s = false)) : ok (pEars_listenTo M v) (fun M' => fr (fun k => k = 178) M M' ∧ cE M' g A (q + 1)) := by
  obtain ⟨s1, s2, s3⟩ := hS
  have hn6 := hg.n.2
  unfold pEars_listenTo
  refine ok_pt (ok_pt (ok_some ?_))
  have f : fr (fun k => k = 178) M (fm_si (fm_si M 178 3 v) 178 4 ((fm_si M 178 3 v).1 178 4 + 1)) := (fr.si (A := fun k => k = 178) rfl).tr (fr.si rfl)
  have e4 : (fm_si (fm_si M 178 3 v) 178 4 ((fm_si M 178 3 v).1 178 4 + 1)).1 178 4 = nn (q + 1) := by
    rw [si_same, si_col (by decide), s1, nn_succ]
  refine ⟨f, hg, hr.kept (fun a a1 a2 => f.1 a (by (try dsimp only); omega)) hg, ?_, ⟨e4, by omega, ?_⟩, ?_⟩
  · intro s hs
    rw [si_col (by decide), si_same]
    exact hv s hs
  · intro i hi
    rw [f.at1 (by decide)]
    have := s3 i hi
    omega
  · intro m t a1 a2 a3 h
    exfalso
    rw [e4, f.at1 (by decide)] at h
    have := s3 (601 * m + (t + 300).toNat) (by omega)
    rw [h, nn_toInt nB] at this
    omega
theorem lis_all : ∀ s, s < 4 → ((jshr (-1) (nn s)) &&& 1 = 0 ↔ (fun _ => true : Nat → Bool) s = false) := by decide +kernel
