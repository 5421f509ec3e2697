/-! ===== years ===== -/
theorem RR_y {n q : Nat} {M1 M2 M1' M2' : fm_M} (h : RR n M1 M2) (f1 : ∀ k, (30 ≤ k ∧ k < 59) → M1'.1 k = M1.1 k) (m2 : ∀ k, k = 17 ∨ k = 18 → M2'.1 k = M2.1 k) (mz : ∀ j, j = 11 ∨ j = 12 ∨ j = 13 → M2'.1 0 j = M2.1 0 j) (htx : rText M1' M2') (htd : rTold M1' M2') (hg : gV (M2'.1 1)) (hr : rS M1' 1 (M2'.1 1)) (hp : rPast M1' M2') (he : eS M1' q) (hq : q ≤ 100 * (n + 1)) : RR (n + 1) M1' M2' := by
  obtain ⟨⟨a1, a2⟩, a3, a4, a5, a6, a7, a8⟩ := h
  refine ⟨⟨hg, hr⟩, htx, htd, rKept_of a5 (fun a b1 b2 => f1 a (by omega)) (m2 17 (by omega)) (m2 18 (by omega)), hp, rEars_of he hq, ?_⟩
  unfold rMod
  rw [mz 11 (by omega), mz 12 (by omega), mz 13 (by omega)]
  exact a8
theorem rText_of {M1 M2 M1' M2' : fm_M} (h : rText M1 M2) (h1 : M1'.1 173 = M1.1 173) (h2 : M1'.1 174 = M1.1 174) (h3 : M2'.1 0 2 = M2.1 0 2) (h4 : M2'.1 2 = M2.1 2) : rText M1' M2' := by
  obtain ⟨k, k1, k2, k3, k4⟩ := h
  refine ⟨k, k1, ?_, ?_, ?_⟩
  · rw [h1]; exact k2
  · rw [h3]; exact k3
  · rw [h2, h4]; exact k4
def pvd (g : Nat → Int32) (v1 : Int32) (q : Nat) (v : Int32) : Prop := (∃ m, m < gn g ∧ v1 = nn m) ∧ bd v (mlo q) (mhi q)
def pt (g : Nat → Int32) (v1 : Int32) (q : Nat) (v : Int32) : Nat → Int32 := if 0 ≤ v1.toInt ∧ v1.toInt < gn g ∧ mlo q ≤ v.toInt ∧ v.toInt ≤ mhi q then upd g (1 + 6 * v1.toInt.toNat + q) v else g
def pok (g : Nat → Int32) (v1 : Int32) (q : Nat) (v : Int32) : Prop := pvd g v1 q v ∧ g (1 + 6 * v1.toInt.toNat + q) ≠ v
theorem pt_yes {g : Nat → Int32} {m q : Nat} {v : Int32} (hn : gn g ≤ 6) (hm : m < gn g) (hv : bd v (mlo q) (mhi q)) : pt g (nn m) q v = upd g (1 + 6 * m + q) v := by
  unfold pt
  rw [nn_toInt nB, if_pos ⟨by omega, by omega, hv.1, hv.2⟩, Int.toNat_natCast]
theorem pt_no {g : Nat → Int32} {v1 : Int32} {q : Nat} {v : Int32} (h : ¬ pvd g v1 q v) : pt g v1 q v = g := by
  unfold pt
  rw [if_neg]
  rintro ⟨a1, a2, a3, a4⟩
  exact h ⟨⟨v1.toInt.toNat, by omega, by rw [← ii_nat a1, ii_of]⟩, a3, a4⟩
theorem pt_V {g : Nat → Int32} {v1 : Int32} {q : Nat} {v : Int32} (hg : gV g) (hq : q < 6) : gV (pt g v1 q v) := by
  by_cases h : pvd g v1 q v
  · obtain ⟨⟨m, hm, rfl⟩, hv⟩ := h
    rw [pt_yes hg.n.2 hm hv]
    exact gV_put hg hm hq hv
  · rw [pt_no h]; exact hg
theorem cs_putP {M : fm_M} {g : Nat → Int32} {v1 : Int32} {q : Nat} {v : Int32} (hg : gV g) (hr : rS M 1 g) (h1 : 1 ≤ q) (hq : q < 6) : ok (pScene_put M v1 (nn q) v) (fun x => fr (fun k => 1 ≤ k ∧ k < 15) M x.2 ∧ rS x.2 1 (pt g v1 q v) ∧ ((pok g v1 q v ∧ 0 ≤ x.1) ∨ (¬ pok g v1 q v ∧ ¬ 0 ≤ x.1))) := by
  by_cases h : pvd g v1 q v
  · obtain ⟨⟨m, hm, rfl⟩, hv⟩ := h
    have hn6 := hg.n.2
    refine okE (cs_put hg hr hm h1 hq hv) ⟨fr.si (by (try dsimp only); omega), by (try dsimp only); rw [pt_yes hn6 hm hv]; exact rS_put hg hr hm hq, ?_⟩
    have em : (nn m).toInt.toNat = m := by rw [nn_toInt nB, Int.toNat_natCast]
    try dsimp only
    by_cases e : g (1 + 6 * m + q) = v
    · rw [if_pos e]
      refine Or.inr ⟨fun z => z.2 (by rw [em]; exact e), by decide⟩
    · rw [if_neg e]
      refine Or.inl ⟨⟨⟨⟨m, hm, rfl⟩, hv⟩, by rw [em]; exact e⟩, ?_⟩
      exact bd_ge ((gV_iff.mp hg).2.2.2.1 m q hm hq) (st_lim ⟨q, hq⟩).2.2.1
  · refine okE (cs_putNo hg hr h1 hq h) ⟨fr.rf, by (try dsimp only); rw [pt_no h]; exact hr, Or.inr ⟨fun z => h z.1, by (try dsimp only); decide⟩⟩
theorem md_puts {M M1 : fm_M} {v1 : Int32} {w : Nat} {v : Int32} (hg : gV (M.1 1)) (hr : rS M1 1 (M.1 1)) (hw : w < 5) : ok (pModel_puts M v1 (nn w) v) (fun x => fr (fun k => k = 1) M x.2 ∧ x.2.1 1 = pt (M.1 1) v1 (w + 1) v ∧ ((pok (M.1 1) v1 (w + 1) v ∧ x.1 = 1) ∨ (¬ pok (M.1 1) v1 (w + 1) v ∧ x.1 = 0))) := by
  unfold pModel_puts
  by_cases h : pvd (M.1 1) v1 (w + 1) v
  · obtain ⟨⟨m, hm, rfl⟩, hv⟩ := h
    have hn6 := hg.n.2
    have em : (nn m).toInt.toNat = m := by rw [nn_toInt nB, Int.toNat_natCast]
    refine ok_bindE (md_refSet hg hm hw hv) ?_
    by_cases e : M.1 1 (1 + 6 * m + (w + 1)) = v
    · rw [if_pos e]
      refine ok_neg (by decide) (ok_some ⟨fr.rf, ?_, Or.inr ⟨fun z => z.2 (by rw [em]; exact e), rfl⟩⟩)
      try dsimp only
      rw [pt_yes hn6 hm hv, ← e, upd_same]
    · rw [if_neg e, show ((1 + (6 * nn m)) + 1) + nn w = nn (1 + 6 * m + (w + 1)) by rw [show (1 : Int32) = nn 1 from rfl, show (6 : Int32) = nn 6 from rfl, nn_mul, nn_add, nn_add, nn_add]; congr 1; omega]
      refine ok_pos (by decide) (ok_st (by omega) nL (ok_some ⟨fr.si rfl, ?_, Or.inl ⟨⟨⟨⟨m, hm, rfl⟩, hv⟩, by rw [em]; exact e⟩, rfl⟩⟩))
      try dsimp only
      rw [pt_yes hn6 hm hv, si_one]
  · refine ok_bindE (md_refNo hg hr hw h) (ok_neg (by decide) (ok_some ⟨fr.rf, by (try dsimp only); rw [pt_no h], Or.inr ⟨fun z => h z.1, rfl⟩⟩))
/-! draws -/
def dr (d : Int32) : Int32 := (d * 1103515245) + 12345
def dv (d n : Int32) : Int32 := jrem (jushr (dr d) 16) n
theorem cs_draw {M : fm_M} {n : Int32} (h : 1 ≤ n) : pDice_draw M n = some (dv (M.1 220 0) n, fm_si M 220 0 (dr (M.1 220 0))) := by
  unfold pDice_draw fm_pt
  (try dsimp only)
  have hn : n ≠ 0 := fun e => by rw [e] at h; exact absurd h (by decide)
  rw [if_pos h, nzE hn, si_same]
  rfl
theorem md_draw {M : fm_M} {n : Int32} (h : 1 ≤ n) : pModel_draw M n = some (dv (M.1 0 27) n, fm_si M 0 27 (dr (M.1 0 27))) := by
  unfold pModel_draw fm_pt
  (try dsimp only)
  have hn : n ≠ 0 := fun e => by rw [e] at h; exact absurd h (by decide)
  rw [nzE hn, si_same]
  rfl
def yS (g : Nat → Int32) (d : Int32) : (Nat → Int32) × Int32 :=
  (if dv d 3 = 0 then pt g (dv (dr d) 6) 2 (dv (dr (dr d)) 10) else if dv d 3 = 1 then pt g (dv (dr d) 6) 5 (dv (dr (dr d)) 2) else pt g (dv (dr d) 6) 1 (dv (dr (dr d)) 300 + 1), dr (dr (dr d)))
def yG (g : Nat → Int32) (d : Int32) : Nat → (Nat → Int32) × Int32
  | 0 => (g, d)
  | n + 1 => yS (yG g d n).1 (yG g d n).2
theorem yG_V {g : Nat → Int32} {d : Int32} (hg : gV g) : ∀ n, gV (yG g d n).1
  | 0 => hg
  | n + 1 => by
    have ih := yG_V (d := d) hg n
    show gV (if _ then _ else if _ then _ else _)
    split
    · exact pt_V ih (by decide)
    · split
      · exact pt_V ih (by decide)
      · exact pt_V ih (by decide)
theorem cs_drawnAct {M : fm_M} {g : Nat → Int32} (hg : gV g) (hr : rS M 1 g) : ok (pMicRow_drawnAct M) (fun M' => fr (fun k => (1 ≤ k ∧ k < 15) ∨ k = 220) M M' ∧ rS M' 1 (yS g (M.1 220 0)).1 ∧ M'.1 220 0 = (yS g (M.1 220 0)).2) := by
  unfold pMicRow_drawnAct
  refine ok_bindE (cs_draw (by decide)) (ok_bindE (cs_draw (by decide)) ?_)
  try dsimp only
  rw [si_same]
  have put : ∀ (M3 : fm_M) (v : Int32) (q : Nat), 1 ≤ q → q < 6 → fr (fun k => (1 ≤ k ∧ k < 15) ∨ k = 220) M M3 → rS M3 1 g → M3.1 220 0 = dr (dr (dr (M.1 220 0))) → pt g (dv (dr (M.1 220 0)) 6) q v = (yS g (M.1 220 0)).1 → ok ((pScene_put M3 (dv (dr (M.1 220 0)) 6) (nn q) v).bind (fun x => some x.2)) (fun M' => fr (fun k => (1 ≤ k ∧ k < 15) ∨ k = 220) M M' ∧ rS M' 1 (yS g (M.1 220 0)).1 ∧ M'.1 220 0 = (yS g (M.1 220 0)).2) := by
    intro M3 v q h1 h2 h3 h4 h5 h6
    refine ok_bind (cs_putP hg h4 h1 h2) ?_
    rintro ⟨x, M4⟩ ⟨a1, a2, a3⟩
    try dsimp only at a1 a2
    refine ok_some ⟨h3.tr (a1.up (fun k hk => Or.inl hk)), by rw [← h6]; exact a2, ?_⟩
    rw [a1.at1 (by decide), h5]
    rfl
  have f2 : fr (fun k => (1 ≤ k ∧ k < 15) ∨ k = 220) M (fm_si (fm_si M 220 0 (dr (M.1 220 0))) 220 0 (dr (dr (M.1 220 0)))) := (fr.si (A := fun k => (1 ≤ k ∧ k < 15) ∨ k = 220) (Or.inr rfl)).tr (fr.si (Or.inr rfl))
  have e2 : (fm_si (fm_si M 220 0 (dr (M.1 220 0))) 220 0 (dr (dr (M.1 220 0)))).1 220 0 = dr (dr (M.1 220 0)) := si_same
  have r2 : rS (fm_si (fm_si M 220 0 (dr (M.1 220 0))) 220 0 (dr (dr (M.1 220 0)))) 1 g := hr.kept (fun a z1 z2 => by rw [si_row (by omega), si_row (by omega)]) hg
  generalize fm_si (fm_si M 220 0 (dr (M.1 220 0))) 220 0 (dr (dr (M.1 220 0))) = M2 at f2 e2 r2
  have r3 : rS (fm_si M2 220 0 (dr (dr (dr (M.1 220 0))))) 1 g := r2.kept (fun a z1 z2 => si_row (by omega)) hg
  have f3 : fr (fun k => (1 ≤ k ∧ k < 15) ∨ k = 220) M (fm_si M2 220 0 (dr (dr (dr (M.1 220 0))))) := f2.tr (fr.si (Or.inr rfl))
  refine ok_ite (fun c => ok_bindE (cs_draw (by decide)) ?_) (fun c => ok_ite (fun c' => ok_bindE (cs_draw (by decide)) ?_) (fun c' => ok_bindE (cs_draw (by decide)) ?_))
  · rw [e2]
    exact put _ _ 2 (by decide) (by decide) f3 r3 si_same (by show _ = (if _ then _ else _); rw [if_pos c])
  · rw [e2]
    exact put _ _ 5 (by decide) (by decide) f3 r3 si_same (by show _ = (if _ then _ else if _ then _ else _); rw [if_neg c, if_pos c'])
  · rw [e2]
    exact put _ _ 1 (by decide) (by decide) f3 r3 si_same (by show _ = (if _ then _ else if _ then _ else _); rw [if_neg c, if_neg c'])
theorem x_years {N : Nat} (hN : 4000 ≤ N) : cp_years N RR := by
  intro n M1 M2 v1 v2 hn hR
  obtain ⟨q, l, hg, hr, hS, hq, tC, tM, hl, hm⟩ := hR.opn hn
  rcases rng v2 1 30 (by decide) with ⟨b', rfl, b1, b2⟩ | cc
  · obtain ⟨b, rfl⟩ : ∃ t : Nat, b' = (t : Int) := ⟨b'.toNat, by omega⟩
    have ew : pMicRow_within M1 (nn b) 1 30 = some 1 := by rw [nn_ii]; exact wi_pos (rng_in ⟨b1, b2⟩ (by decide))
    have ew2 : pModel_in (fm_si M2 0 5 0) (nn b) 1 30 = some 1 := by rw [nn_ii]; exact in_pos (rng_in ⟨b1, b2⟩ (by decide))
    rw [← nn_ii]
    generalize hG : (yG (M2.1 1) v1 b).1 = G
    have hGV : gV G := by rw [← hG]; exact yG_V hg b
    have hGL := hGV.l
    have hcl : ok (pMicRow_years N M1 v1 (nn b)) (fun x => x.1 = nn (lvs G) ∧ fr (fun k => (1 ≤ k ∧ k < 29) ∨ 176 ≤ k) M1 x.2 ∧ rS x.2 1 (M2.1 1) ∧ tdC x.2 [(lvl (BM G (smp G All) (lvs G) 0) (gl G)).toInt64] ∧ eS x.2 (q + 1)) := by
      unfold pMicRow_years
      refine ok_bindE ew (ok_neg (by decide) (ok_bind (cs_before hN hg hr) ?_))
      rintro M8 ⟨f8, r15, r1⟩
      unfold pDice_start
      refine ok_bind (P := fun M => M = fm_si M8 220 0 v1) (ok_pt (ok_some rfl)) ?_
      rintro M9 rfl
      have f9 : fr (fun k => (1 ≤ k ∧ k < 29) ∨ k = 220) M1 (fm_si M8 220 0 v1) := (f8.up (B := fun k => (1 ≤ k ∧ k < 29) ∨ k = 220) (fun k hk => by omega)).tr (fr.si (Or.inr rfl))
      refine ok_for b (fun i t => t.1 = nn i ∧ fr (fun k => (1 ≤ k ∧ k < 29) ∨ k = 220) M1 t.2 ∧ rS t.2 1 (yG (M2.1 1) v1 i).1 ∧ t.2.1 220 0 = (yG (M2.1 1) v1 i).2 ∧ rS t.2 15 (M2.1 1)) ?_ ?_ ⟨rfl, f9, r1.kept (fun a z1 z2 => si_row (by omega)) hg, si_same, r15.kept (fun a z1 z2 => si_row (by omega)) hg⟩ (by omega)
      · rintro i ⟨v, M3⟩ hi ⟨a1, a2, a3, a4, a5⟩ k hk
        try dsimp only at a1 a2 a3 a4 a5
        subst a1
        unfold pMicRow_years_L33 pMicRow_years_L33b
        try dsimp only
        refine ok_neg (by rw [nn_le nB nB]; omega) (ok_bind (cs_drawnAct (yG_V hg i) a3) ?_)
        rintro M4 ⟨c1, c2, c3⟩
        rw [a4] at c2 c3
        exact hk _ ⟨nn_succ, a2.tr (c1.up (fun k hk => by omega)), c2, c3, a5.kept (fun a z1 z2 => c1.1 a (by omega)) hg⟩
      · rintro ⟨v, M3⟩ ⟨a1, a2, a3, a4, a5⟩ k
        try dsimp only at a1 a2 a3 a4 a5
        subst a1
        rw [hG] at a3
        unfold pMicRow_years_L33 pMicRow_years_L33b
        try dsimp only
        refine ok_pos (by rw [nn_le nB nB]; omega) (ok_bindE (cs_live hN hGV a3) ?_)
        refine ok_bind (cH.begin hGV a3 (hS.kf a2 (by decide) (by decide)) (by omega) (tC.kf a2 (by decide) (by decide))) ?_
        rintro M4 ⟨h4, f4⟩
        refine ok_bind (cs_spanT (b := 0) hN h4 (by decide)) ?_
        rintro M5 ⟨h5, f5, l5, t5⟩
        refine ok_bind (cs_mixT hN hGV l5 (by omega) lvs_2 t5) ?_
        rintro M6 ⟨f6, v6⟩
        have h6 := h5.kf f6 (fun k hk => by omega)
        refine ok_bind h6.clear ?_
        rintro M7 ⟨h7, f7⟩
        refine ok_bindE (cs_levelOf (L := gl G) hN 190 (by decide +kernel) (by decide +kernel) (by rw [f7.at1 (by decide), f6.at1 (by decide)]; exact l5) (by omega)) (ok_bind (h7.add (by simp)) ?_)
        rintro M10 ⟨h10, f10⟩
        refine ok_bind (cp_copyZ (by omega) (by decide) (by decide) (by decide) hg (a5.kept (fun a z1 z2 => h10.1.1 a (by omega)) hg)) ?_
        rintro M11 ⟨f11, r11⟩
        refine ok_some ⟨rfl, ?_, r11, ?_, h10.2.2.2.2.2.1.kf f11 (by decide) (by decide)⟩
        · exact ((a2.up (B := fun k => (1 ≤ k ∧ k < 29) ∨ 176 ≤ k) (fun k hk => by omega)).tr (h10.1.up (fun k hk => Or.inr hk))).tr (f11.up (fun k hk => by omega))
        · have ht := h10.2.1.kf f11 (by decide) (by decide)
          rw [f7.at1 (k := 190) (by decide), lvl_congr (q := BM G (smp G All) (lvs G) 0) v6] at ht
          exact ht
    have hmd : ok (pModel_years N M2 v1 (nn b)) (fun x => x.1 = nn (lvs G) ∧ (∀ k, k = 2 ∨ k = 13 ∨ k = 17 ∨ k = 18 → x.2.1 k = M2.1 k) ∧ (∀ j, j = 2 ∨ j = 11 ∨ j = 12 ∨ j = 13 ∨ j = 25 → x.2.1 0 j = M2.1 0 j) ∧ (∀ k, k < 101 → x.2.1 1 k = M2.1 1 k) ∧ tdM x.2 [(lvl (BM G (smp G All) (lvs G) 0) (gl G)).toInt64]) := by
      unfold pModel_years
      refine ok_pt (ok_bindE ew2 (ok_neg (by decide) (ok_pt ?_)))
      have e0 : ∀ j, j ≠ 5 → j ≠ 27 → (fm_si (fm_si M2 0 5 0) 0 27 v1).1 0 j = M2.1 0 j := fun j z1 z2 => by rw [si_col z2, si_col z1]
      have e27 : (fm_si (fm_si M2 0 5 0) 0 27 v1).1 0 27 = v1 := si_same
      have ef : fr (fun k => k = 0) M2 (fm_si (fm_si M2 0 5 0) 0 27 v1) := (fr.si (A := fun k => k = 0) rfl).tr (fr.si rfl)
      generalize fm_si (fm_si M2 0 5 0) 0 27 v1 = M3 at e0 e27 ef
      refine ok_fill 16 101 (fun k => M3.1 1 k) ?_ ?_ (by omega)
      · intro i M4 hi h2 h3 kk
        unfold pModel_years_L24 pModel_years_L24b
        try dsimp only
        rw [if_neg (by rw [show (101 : Int32) = nn 101 from rfl, nn_le nB nB]; omega), ldE hi nL, stE hi nL, nn_succ, h2.at1 (k := 1) (by decide)]
      · intro M4 h2 h3 kk
        rw [ef.at1 (k := 1) (by decide)] at h3
        unfold pModel_years_L24 pModel_years_L24b
        try dsimp only
        refine ok_pos (by decide) ?_
        have z4 : ∀ j, j ≠ 5 → j ≠ 27 → M4.1 0 j = M2.1 0 j := fun j a1 a2 => by rw [h2.at1 (by decide)]; exact e0 j a1 a2
        have f4 : fr (fun k => k = 0 ∨ k = 16) M2 M4 := (ef.up (B := fun k => k = 0 ∨ k = 16) (fun k hk => Or.inl hk)).tr (h2.up (fun k hk => Or.inr hk))
        refine ok_for b (fun i t => (∃ c : Nat, c ≤ i ∧ t.1 = nn c) ∧ t.2.1 = nn i ∧ fr (fun k => k = 0 ∨ k = 1 ∨ k = 16) M2 t.2.2 ∧ (∀ j, j ≠ 5 → j ≠ 27 → t.2.2.1 0 j = M2.1 0 j) ∧ t.2.2.1 1 = (yG (M2.1 1) v1 i).1 ∧ t.2.2.1 0 27 = (yG (M2.1 1) v1 i).2 ∧ ∀ k, k < 101 → t.2.2.1 16 k = M2.1 1 k) ?_ ?_ ⟨⟨0, by omega, rfl⟩, rfl, f4.up (fun k hk => by omega), z4, f4.at1 (by decide), by (try dsimp only); rw [h2.at1 (by decide)]; exact e27, h3⟩ (by omega)
        · rintro i ⟨w3, w4, M5⟩ hi ⟨⟨c, hc, a1⟩, a2, a3, a4, a5, a6, a7⟩ k hk
          try dsimp only at a1 a2 a3 a4 a5 a6 a7
          subst a1
          subst a2
          have gvi := yG_V (d := v1) hg i
          unfold pModel_years_L53 pModel_years_L53b
          try dsimp only
          refine ok_neg (by rw [nn_le nB nB]; omega) (ok_bindE (md_draw (by decide)) (ok_bindE (md_draw (by decide)) ?_))
          try dsimp only
          rw [si_same, a6]
          have hrr : ∃ Mx : fm_M, rS Mx 1 (yG (M2.1 1) v1 i).1 := by
            refine ⟨(fun a j => if a = 1 then (if j = 0 then (yG (M2.1 1) v1 i).1 0 else (yG (M2.1 1) v1 i).1 40) else if a = 14 then (yG (M2.1 1) v1 i).1 (37 + j) else if a < 9 then (yG (M2.1 1) v1 i).1 (1 + 6 * j + (a - 3)) else (yG (M2.1 1) v1 i).1 (41 + 15 * (a - 10) + j), fun _ _ => 0, fun _ => 0), rfl, rfl, fun j _ => rfl, fun m q' _ hq' => ?_, fun s j hs _ => ?_⟩
            · show (if 1 + 2 + q' = 1 then _ else if 1 + 2 + q' = 14 then _ else if 1 + 2 + q' < 9 then _ else _) = _
              rw [if_neg (by omega), if_neg (by omega), if_pos (by omega), show 1 + 2 + q' - 3 = q' by omega]
            · have := gvi.s.2
              show (if 1 + 9 + s = 1 then _ else if 1 + 9 + s = 14 then _ else if 1 + 9 + s < 9 then _ else _) = _
              rw [if_neg (by omega), if_neg (by omega), if_neg (by omega), show 1 + 9 + s - 10 = s by omega]
          obtain ⟨Mx, hrx⟩ := hrr
          generalize hd0 : (yG (M2.1 1) v1 i).2 = d at a6
          have put : ∀ (M6 : fm_M) (v : Int32) (w : Nat), w < 5 → fr (fun k => k = 0) M5 M6 → (∀ j, j ≠ 27 → M6.1 0 j = M5.1 0 j) → M6.1 0 27 = dr (dr (dr d)) → pt (yG (M2.1 1) v1 i).1 (dv (dr d) 6) (w + 1) v = (yG (M2.1 1) v1 (i + 1)).1 → ok (pModel_years_J137 N M6 (nn b) (nn i) v k (nn c) (dv (dr d) 6) (nn w)) (fun x => x.1 = nn (lvs G) ∧ (∀ k, k = 2 ∨ k = 13 ∨ k = 17 ∨ k = 18 → x.2.1 k = M2.1 k) ∧ (∀ j, j = 2 ∨ j = 11 ∨ j = 12 ∨ j = 13 ∨ j = 25 → x.2.1 0 j = M2.1 0 j) ∧ (∀ k, k < 101 → x.2.1 1 k = M2.1 1 k) ∧ tdM x.2 [(lvl (BM G (smp G All) (lvs G) 0) (gl G)).toInt64]) := by
            intro M6 v w hw f6 z6 d6 hp
            have e61 : M6.1 1 = (yG (M2.1 1) v1 i).1 := (f6.at1 (by decide)).trans a5
            unfold pModel_years_J137
            refine ok_bind (md_puts (M1 := Mx) (by rw [e61]; exact gvi) (by rw [e61]; exact hrx) hw) ?_
            rintro ⟨x, M7⟩ ⟨g1, g2, g3⟩
            try dsimp only at g1 g2 g3 ⊢
            rw [e61, hp] at g2
            have g0 : M7.1 0 = M6.1 0 := g1.at1 (by decide)
            have inv : fr (fun k => k = 0 ∨ k = 1 ∨ k = 16) M2 M7 ∧ (∀ j, j ≠ 5 → j ≠ 27 → M7.1 0 j = M2.1 0 j) ∧ M7.1 1 = (yG (M2.1 1) v1 (i + 1)).1 ∧ M7.1 0 27 = (yG (M2.1 1) v1 (i + 1)).2 ∧ ∀ k, k < 101 → M7.1 16 k = M2.1 1 k := by
              refine ⟨(a3.tr (f6.up (fun k hk => by omega))).tr (g1.up (fun k hk => by omega)), fun j y1 y2 => by rw [g0, z6 j y2]; exact a4 j y1 y2, g2, ?_, fun k hk => by rw [g1.at1 (by decide), f6.at1 (by decide)]; exact a7 k hk⟩
              rw [g0, d6]
              show _ = dr (dr (dr (yG (M2.1 1) v1 i).2))
              rw [hd0]
            rw [nn_succ]
            rcases g3 with ⟨_, rfl⟩ | ⟨_, rfl⟩
            · exact ok_neg (by decide) (hk _ ⟨⟨c + 1, by omega, nn_succ⟩, rfl, inv⟩)
            · exact ok_pos rfl (hk _ ⟨⟨c, by omega, Int32.add_zero _⟩, rfl, inv⟩)
          have f52 : fr (fun k => k = 0) M5 (fm_si (fm_si M5 0 27 (dr d)) 0 27 (dr (dr d))) := (fr.si (A := fun k => k = 0) rfl).tr (fr.si rfl)
          have z52 : ∀ j, j ≠ 27 → (fm_si (fm_si M5 0 27 (dr d)) 0 27 (dr (dr d))).1 0 j = M5.1 0 j := fun j hj => by rw [si_col hj, si_col hj]
          have e52 : (fm_si (fm_si M5 0 27 (dr d)) 0 27 (dr (dr d))).1 0 27 = dr (dr d) := si_same
          generalize fm_si (fm_si M5 0 27 (dr d)) 0 27 (dr (dr d)) = M6 at f52 z52 e52
          have f53 : fr (fun k => k = 0) M5 (fm_si M6 0 27 (dr (dr (dr d)))) := f52.tr (fr.si rfl)
          have z53 : ∀ j, j ≠ 27 → (fm_si M6 0 27 (dr (dr (dr d)))).1 0 j = M5.1 0 j := fun j hj => by rw [si_col hj]; exact z52 j hj
          have eyG : (yG (M2.1 1) v1 (i + 1)).1 = if dv d 3 = 0 then pt (yG (M2.1 1) v1 i).1 (dv (dr d) 6) 2 (dv (dr (dr d)) 10) else if dv d 3 = 1 then pt (yG (M2.1 1) v1 i).1 (dv (dr d) 6) 5 (dv (dr (dr d)) 2) else pt (yG (M2.1 1) v1 i).1 (dv (dr d) 6) 1 (dv (dr (dr d)) 300 + 1) := by
            rw [← hd0]
            rfl
          refine ok_ite (fun y => ok_bindE (md_draw (by decide)) ?_) (fun y => ok_ite (fun y' => ok_bindE (md_draw (by decide)) ?_) (fun y' => ok_bindE (md_draw (by decide)) ?_))
          · try dsimp only
            rw [e52]
            unfold pModel_years_J111
            exact ok_pos y (put _ _ 1 (by decide) f53 z53 si_same (by rw [eyG, if_pos y]))
          · try dsimp only
            rw [e52]
            unfold pModel_years_J111
            exact ok_neg y (ok_pos y' (put _ _ 4 (by decide) f53 z53 si_same (by rw [eyG, if_neg y, if_pos y'])))
          · try dsimp only
            rw [e52]
            unfold pModel_years_J111
            exact ok_neg y (ok_neg y' (put _ _ 0 (by decide) f53 z53 si_same (by rw [eyG, if_neg y, if_neg y'])))
        · rintro ⟨w3, w4, M5⟩ ⟨⟨c, hc, a1⟩, a2, a3, a4, a5, a6, a7⟩ k
          try dsimp only at a1 a2 a3 a4 a5 a6 a7
          subst a1
          subst a2
          rw [hG] at a5
          have gv5 : gV (M5.1 1) := by rw [a5]; exact hGV
          unfold pModel_years_L53 pModel_years_L53b
          try dsimp only
          refine ok_pos (by rw [nn_le nB nB]; omega) (ok_bindE (md_live hN gv5) ?_)
          have hA5 : aM M5 All := aM_all gv5 (by unfold rMod; rw [a4 11 (by decide) (by decide), a4 12 (by decide) (by decide), a4 13 (by decide) (by decide)]; exact hm)
          refine ok_bind (md_begin (M2 := M5) hN gv5 mq.rf hA5 (tM.z a3 (a4 4 (by decide) (by decide)) (by decide))) ?_
          rintro M6 ⟨h6, f6⟩
          have hbe := md_layBeamT (b := 0) hN gv5 h6 lvs_2 (by decide)
          refine ok_bind hbe ?_
          rintro M7 ⟨h7, f7, v7⟩
          refine ok_pt (ok_pos (by rw [show (0 : Int32) = nn 0 from rfl, nn_le nB nB]; omega) ?_)
          have hlev := h7.clear.lev (r := BM (M5.1 1) (smp (M5.1 1) All) (lvs (M5.1 1)) 0) hN gv5 7 (by decide +kernel) (fun i hi => by rw [si_row (by decide)]; exact v7 i hi)
          refine ok_bindE hlev ?_
          unfold pModel_years_J198
          refine ok_bind (h7.clear.tell (by simp)) ?_
          rintro M8 ⟨h8, f8, z8⟩
          have e16 : M8.1 16 = M5.1 16 := by rw [f8.at1 (by decide), si_row (by decide), f7.at1 (by decide), f6.at1 (by decide)]
          rw [a5] at h8
          refine ok_fill 1 101 (fun k => M2.1 1 k) ?_ ?_ (by omega)
          · intro i M9 hi g2 g3 kk
            unfold pModel_years_L204 pModel_years_L204b
            try dsimp only
            rw [if_neg (by rw [show (101 : Int32) = nn 101 from rfl, nn_le nB nB]; omega), ldE hi nL, stE hi nL, nn_succ, g2.at1 (k := 16) (by decide), e16, a7 i hi]
          · intro M9 g2 g3 kk
            unfold pModel_years_L204 pModel_years_L204b
            try dsimp only
            rw [a5]
            refine ok_pos (by decide) (ok_some ⟨rfl, fun k hk => ?_, fun j hj => ?_, g3, h8.2.1.kf g2 (by decide) (by decide)⟩)
            · try dsimp only
              rw [g2.1 k (by omega), h8.1.1 k (by omega)]
              exact a3.1 k (by omega)
            · try dsimp only
              rw [g2.at1 (by decide), h8.1.2 j (by omega)]
              exact a4 j (by omega) (by omega)
    obtain ⟨⟨r1, M1'⟩, x1, y1, y2, y3, y4, y5⟩ := hcl
    obtain ⟨⟨r2, M2'⟩, x2, d1, d2, d3, d4, d5⟩ := hmd
    try dsimp only at y1 y2 y3 y4 y5 d1 d2 d3 d4 d5
    subst y1
    subst d1
    exact ⟨_, _, _, x1, x2, RR_y (q := q + 1) hR (fun k hk => y2.1 k (by omega)) (fun k hk => d2 k (by omega)) (fun j hj => d3 j (by omega)) (rText_of hR.2.1 (y2.1 173 (by decide)) (y2.1 174 (by decide)) (d3 2 (by decide)) (d2 2 (by decide))) (rTold_of y4 d5 (by simp)) (gV_congr hg d4) (rS_congr hg y3 d4) (rPast_of hR.2.2.2.2.1 (fun a z1 z2 => y2.1 a (by omega)) y2.2.2 (d2 13 (by decide)) (d3 25 (by decide))) y5 (by omega)⟩
  · refine cpq hR hq hl (-1) ?_ ?_
    · unfold pMicRow_years
      exact ok_bindE (wi_neg cc) (ok_pos rfl (ok_some ⟨rfl, qC.same hS tC⟩))
    · unfold pModel_years
      exact ok_pt (ok_bindE (in_neg cc) (ok_pos rfl (ok_some ⟨rfl, qM.same tM⟩)))
