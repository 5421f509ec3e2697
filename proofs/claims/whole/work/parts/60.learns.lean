/-! ===== learns, sorts: what they do to a scene ===== -/
theorem hd_upd {g : Nat → Int32} {k s : Nat} {v : Int32} {p t : Int} (hk : k < 41) : hd (upd g k v) s p t = hd g s p t := by
  unfold hd hdx hdw
  rw [upd_ne (by omega), upd_ne (by omega), upd_ne (by omega), upd_ne (by omega), upd_ne (by omega)]
theorem smp_put {g : Nat → Int32} {A : Nat → Bool} {m q m' : Nat} {v : Int32} {t : Int} (hm : m < 6) (hq : q = 3 ∨ q = 5) : smp (upd g (1 + 6 * m + q) v) A m' t = smp g A m' t := by
  have e : sps (upd g (1 + 6 * m + q) v) A m' t = sps g A m' t := by
    funext s
    unfold sps
    rw [hd_upd (by omega), upd_ne (by omega)]
  unfold smp
  rw [e, gs_upd (by omega), upd_ne (by omega), upd_ne (by omega), upd_ne (by omega), upd_ne (by omega)]
theorem cE.put {M : fm_M} {g : Nat → Int32} {A : Nat → Bool} {q c m : Nat} {v : Int32} (h : cE M g A c) (hm : m < gn g) (hq : q = 3 ∨ q = 5) (hv : bd v (mlo q) (mhi q)) : cE (fm_si M (3 + q) m v) (upd g (1 + 6 * m + q) v) A c := by
  obtain ⟨h1, h2, h3, h4, h5⟩ := h
  have hn := h1.n.2
  refine ⟨gV_put h1 hm (by omega) hv, rS_put h1 h2 hm (by omega), ?_, ?_, ?_⟩
  · unfold aC
    rw [gs_upd (by omega), si_row (by omega)]
    exact h3
  · unfold eS
    rw [si_row (by omega), si_row (by omega)]
    exact h4
  · unfold eV
    rw [gn_upd (by omega), si_row (by omega), si_row (by omega), si_row (by omega)]
    intro m' t z1 z2 z3 z4
    rw [smp_put (by omega) hq]
    exact h5 m' t z1 z2 z3 z4
def lev (g : Nat → Int32) (m : Nat) : Nat := lvn (fr1 g m) (gl g)
theorem lev_nn {g : Nat → Int32} {m : Nat} (hg : gV g) : lvl (fr1 g m) (gl g) = nn (lev g m) ∧ lev g m ≤ 48000000 := by
  have := hg.l
  exact lvl_nn (c := 9999) (by decide) (by omega) (fun i _ => smp_ab hg)
theorem qz_zero {r : Nat → Int32} : ∀ {c i : Nat}, qz r i c = true → ∀ j, i ≤ j → j < i + c → r j = 0
  | 0, _, _, j, z1, z2 => by omega
  | c + 1, i, h, j, z1, z2 => by
    have h' : ((r i == 0) && qz r (i + 1) c) = true := h
    rw [Bool.and_eq_true] at h'
    by_cases e : j = i
    · rw [e]; exact eq_of_beq h'.1
    · exact qz_zero h'.2 j (by omega) (by omega)
theorem lev_quiet {g : Nat → Int32} {m : Nat} (h : fq g m = true) : lev g m = 0 := by
  unfold lev lvn
  rw [ns_congr (h := fun _ => 0) (fun i hi => by
    try dsimp only
    rw [qz_zero h i (by omega) (by omega)]
    rfl), ns_zero, Nat.zero_div]
def allq (g : Nat → Int32) : Nat → Bool
  | 0 => true
  | m + 1 => allq g m && fq g m
def mxl (g : Nat → Int32) : Nat → Nat
  | 0 => 0
  | m + 1 => max (mxl g m) (lev g m)
theorem mxl_le {g : Nat → Int32} (hg : gV g) : ∀ m, mxl g m ≤ 48000000
  | 0 => by show 0 ≤ _; omega
  | m + 1 => by
    show max (mxl g m) (lev g m) ≤ _
    have := mxl_le hg m
    have := (lev_nn (m := m) hg).2
    omega
theorem mxl_q {g : Nat → Int32} : ∀ {m : Nat}, allq g m = true → mxl g m = 0
  | 0, _ => rfl
  | m + 1, h => by
    have h' : (allq g m && fq g m) = true := h
    rw [Bool.and_eq_true] at h'
    show max (mxl g m) (lev g m) = 0
    rw [mxl_q h'.1, lev_quiet h'.2]
    rfl
def ev (g : Nat → Int32) (m : Nat) : Int32 := if lev g m = 0 then 200 else jmax 1 (jmin 200 ((100 * nn (mxl g (gn g))) / nn (lev g m)))
theorem ev_bd {g : Nat → Int32} {m : Nat} : bd (ev g m) (mlo 3) (mhi 3) := by
  unfold ev
  split
  · exact ⟨by decide, by decide⟩
  · exact bd_clamp (a := 1) (b := 200) (by decide) (by decide)
def lg (g : Nat → Int32) : Nat → Nat → Int32
  | 0 => g
  | m + 1 => if fq g m then lg g m else upd (lg g m) (1 + 6 * m + 3) (ev g m)
def lcp (g : Nat → Int32) (m : Nat) : Bool := !fq g m && !(g (1 + 6 * m + 3) == ev g m)
theorem lg_k {g : Nat → Int32} {k : Nat} : ∀ {m : Nat}, (∀ i, i < m → k ≠ 1 + 6 * i + 3) → lg g m k = g k
  | 0, _ => rfl
  | m + 1, h => by
    show (if fq g m then lg g m else upd (lg g m) (1 + 6 * m + 3) (ev g m)) k = _
    split
    · exact lg_k (fun i hi => h i (by omega))
    · rw [upd_ne (h m (by omega))]
      exact lg_k (fun i hi => h i (by omega))
theorem lg_V {g : Nat → Int32} (hg : gV g) : ∀ {m : Nat}, m ≤ gn g → gV (lg g m)
  | 0, _ => hg
  | m + 1, h => by
    have ih := lg_V hg (m := m) (by omega)
    have en : gn (lg g m) = gn g := by unfold gn; rw [lg_k (fun i _ => by omega)]
    show gV (if fq g m then lg g m else upd (lg g m) (1 + 6 * m + 3) (ev g m))
    split
    · exact ih
    · exact gV_put ih (by omega) (by decide) ev_bd
theorem lg_n {g : Nat → Int32} {m : Nat} : gn (lg g m) = gn g := by unfold gn; rw [lg_k (fun i _ => by omega)]
theorem lg_b {g : Nat → Int32} {m : Nat} : gb (lg g m) = gb g := by unfold gb; rw [lg_k (fun i _ => by omega)]
theorem lg_l {g : Nat → Int32} {m : Nat} : gl (lg g m) = gl g := by unfold gl; rw [lg_k (fun i _ => by omega)]
theorem lg_smp {g : Nat → Int32} {A : Nat → Bool} {j : Nat} {t : Int} (hn : gn g ≤ 6) : ∀ {m : Nat}, m ≤ gn g → smp (lg g m) A j t = smp g A j t
  | 0, _ => rfl
  | m + 1, h => by
    have ih := lg_smp (A := A) (j := j) (t := t) hn (m := m) (by omega)
    show smp (if fq g m then lg g m else upd (lg g m) (1 + 6 * m + 3) (ev g m)) A j t = _
    split
    · exact ih
    · rw [smp_put (by omega) (Or.inl rfl)]
      exact ih
theorem cs_hearE {N : Nat} {M : fm_M} {g : Nat → Int32} {A : Nat → Bool} {q m : Nat} (hN : 4000 ≤ N) (h : cE M g A q) (hm : m < gn g) : ok (pBench_hear N M (nn m) (M.1 14 1) (M.1 14 2)) (fun M' => fr (fun k => k = 179 ∨ k = 180 ∨ k = 181 ∨ k = 189) M M' ∧ cE M' g A q ∧ M'.1 181 10 = nn (gl g) ∧ ∀ i, i < gl g → M'.1 189 i = smp g A m ((gb g : Int) + i)) := by
  have hg := h.1
  obtain ⟨e1, e2⟩ := cs_begl hg h.2.1
  have := hg.b.2
  have := hg.l
  rw [e1, e2]
  exact cs_hear hN h hm (by omega) (by omega)
theorem cs_learnEqual {N : Nat} {M : fm_M} {g : Nat → Int32} {q : Nat} (hN : 4000 ≤ N) (hg : gV g) (hr : rS M 1 g) (hS : eS M q) (hq : q < 900000000) : ok (pMicRow_learnEqual N M) (fun x => fr opR M x.2 ∧ eS x.2 (q + 1) ∧ ((allq g (gn g) = true ∧ x.1 = -2 ∧ rS x.2 1 g) ∨ (allq g (gn g) = false ∧ x.1 = nn (ct (lcp g) (gn g)) ∧ rS x.2 1 (lg g (gn g))))) := by
  obtain ⟨en, hn6⟩ := hg.n
  have hL := hg.l
  unfold pMicRow_learnEqual
  refine ok_bind (cs_begin hg hr hS hq) ?_
  rintro Ma ⟨fa, ea⟩
  refine ok_for (gn g) (fun m t => t.2.1 = nn m ∧ fr opR M t.2.2 ∧ cE t.2.2 g All (q + 1) ∧ ((allq g m = true ∧ t.1 = -1) ∨ (allq g m = false ∧ t.1 = nn (mxl g m)))) ?_ ?_ ⟨rfl, fa.up (fun k hk => by unfold opR; omega), ea, Or.inl ⟨rfl, rfl⟩⟩ (by omega)
  · rintro m ⟨w1, w2, M3⟩ hm ⟨a1, a2, a3, a4⟩ k hk
    try dsimp only at a1 a2 a3 a4
    subst a1
    unfold pMicRow_learnEqual_L12 pMicRow_learnEqual_L12b
    try dsimp only
    refine ok_neg (by rw [a3.2.1.n, en, nn_le nB nB]; omega) (ok_bindE rfl (ok_bindE rfl (ok_bind (cs_hearE hN a3 hm) ?_)))
    rintro M4 ⟨f4, e4, l4, v4⟩
    have f14 : fr opR M M4 := a2.tr (f4.up (fun k hk => by unfold opR; omega))
    refine ok_bindE (cs_isQuiet (r := fr1 g m) hN l4 (by omega) v4) ?_
    obtain ⟨lv1, lv2⟩ := lev_nn (m := m) hg
    have hml := mxl_le hg m
    rw [nn_succ]
    by_cases z : qz (fr1 g m) 0 (gl g) = true
    · refine ok_neg (by rw [if_pos z]; decide) (hk _ ⟨rfl, f14, e4, ?_⟩)
      rcases a4 with ⟨b1, b2⟩ | ⟨b1, b2⟩
      · exact Or.inl ⟨by show (allq g m && fq g m) = true; rw [b1]; exact z, b2⟩
      · refine Or.inr ⟨by show (allq g m && fq g m) = false; rw [b1]; rfl, ?_⟩
        try dsimp only
        rw [b2]
        show _ = nn (max (mxl g m) (lev g m))
        rw [lev_quiet z, Nat.max_zero]
    · refine ok_pos (by rw [if_neg z]) ?_
      have hlv : pBench_levelOf N M4 189 = some (nn (lev g m)) := by
        rw [cs_levelOf (L := gl g) hN 189 (by decide +kernel) (by decide +kernel) l4 (by omega), lvl_congr (q := fr1 g m) v4, lv1]
      refine ok_bindE hlv (hk _ ⟨rfl, f14, e4, Or.inr ⟨?_, ?_⟩⟩)
      · show (allq g m && fq g m) = false
        have : fq g m = false := by
          cases y : fq g m
          · rfl
          · exact absurd y z
        rw [this, Bool.and_false]
      · try dsimp only
        show _ = nn (max (mxl g m) (lev g m))
        rcases a4 with ⟨b1, b2⟩ | ⟨b1, b2⟩
        · rw [b2, mxl_q b1, Nat.zero_max]
          show (if (-1 : Int32) < nn (lev g m) then nn (lev g m) else -1) = _
          rw [if_pos (by rw [show (-1 : Int32) = ii (-1) from rfl, nn_ii, ii_lt (by omega)]; omega)]
        · rw [b2]
          show (if nn (mxl g m) < nn (lev g m) then nn (lev g m) else nn (mxl g m)) = _
          by_cases y : mxl g m < lev g m
          · rw [if_pos ((nn_lt nB nB).mpr y), Nat.max_eq_right (by omega)]
          · rw [if_neg (fun x => y ((nn_lt nB nB).mp x)), Nat.max_eq_left (by omega)]
  · rintro ⟨w1, w2, M3⟩ ⟨a1, a2, a3, a4⟩ k
    try dsimp only at a1 a2 a3 a4
    subst a1
    unfold pMicRow_learnEqual_L12 pMicRow_learnEqual_L12b
    try dsimp only
    refine ok_pos (by rw [a3.2.1.n, en, nn_le nB nB]; omega) ?_
    have hml := mxl_le hg (gn g)
    rcases a4 with ⟨b1, b2⟩ | ⟨b1, b2⟩
    · exact ok_pos b2 (ok_some ⟨a2, a3.2.2.2.1, Or.inl ⟨b1, rfl, a3.2.1⟩⟩)
    · subst b2
      refine ok_neg (by rw [show (-1 : Int32) = ii (-1) from rfl, nn_ii, ii_inj (by omega)]; omega) ?_
      refine ok_for (gn g) (fun m t => t.1 = nn (ct (lcp g) m) ∧ t.2.1 = nn m ∧ fr opR M t.2.2 ∧ cE t.2.2 (lg g m) All (q + 1)) ?_ ?_ ⟨rfl, rfl, a2, a3⟩ (by omega)
      · rintro m ⟨x1, x2, M4⟩ hm ⟨c1, c2, c3, c4⟩ k2 hk2
        try dsimp only at c1 c2 c3 c4
        subst c1
        subst c2
        have enm : (lg g m) 0 = nn (gn g) := by rw [lg_k (fun i _ => by omega), en]
        unfold pMicRow_learnEqual_L92 pMicRow_learnEqual_L92b
        try dsimp only
        refine ok_neg (by rw [c4.2.1.n, enm, nn_le nB nB]; omega) (ok_bindE rfl (ok_bindE rfl (ok_bind (cs_hearE hN c4 (by rw [lg_n]; exact hm)) ?_)))
        rintro M5 ⟨f5, e5, l5, v5⟩
        rw [lg_l] at l5 v5
        have v5' : ∀ i, i < gl g → M5.1 189 i = fr1 g m i := by
          intro i hi
          rw [v5 i hi, lg_b, lg_smp hn6 (by omega)]
          rfl
        have f15 : fr opR M M5 := c3.tr (f5.up (fun k hk => by unfold opR; omega))
        refine ok_bindE (cs_isQuiet (r := fr1 g m) hN l5 (by omega) v5') ?_
        obtain ⟨lv1, lv2⟩ := lev_nn (m := m) hg
        have e3 : ct (lcp g) (m + 1) = ct (lcp g) m + if lcp g m then 1 else 0 := rfl
        have e4 : lg g (m + 1) = if fq g m then lg g m else upd (lg g m) (1 + 6 * m + 3) (ev g m) := rfl
        rw [nn_succ]
        by_cases z : qz (fr1 g m) 0 (gl g) = true
        · refine ok_neg (by rw [if_pos z]; decide) (hk2 _ ⟨?_, rfl, f15, ?_⟩)
          · try dsimp only
            rw [e3, if_neg (by unfold lcp; rw [show fq g m = true from z]; simp)]
            rfl
          · try dsimp only
            rw [e4, if_pos (show fq g m = true from z)]; exact e5
        · have zf : fq g m = false := by
            cases y : fq g m
            · rfl
            · exact absurd y z
          refine ok_pos (by rw [if_neg z]) ?_
          have hev : pMicRow_equalFor N M5 (nn (mxl g (gn g))) = some (ev g m) := by
            unfold pMicRow_equalFor ev
            refine (bindE (r := nn (lev g m)) ?_).trans ?_
            · rw [cs_levelOf (L := gl g) hN 189 (by decide +kernel) (by decide +kernel) l5 (by omega), lvl_congr (q := fr1 g m) v5', lv1]
            · by_cases y : lev g m = 0
              · rw [if_pos (by rw [y]; rfl), if_pos y]
              · rw [if_neg (nn_ne0 (by omega) (by omega)), if_neg y, nzE (nn_ne0 (by omega) (by omega))]
                rfl
          refine ok_bindE hev ?_
          have hput := cs_put (M := M5) (q := 3) (m := m) (v := ev g m) e5.1 e5.2.1 (by rw [lg_n]; exact hm) (by decide) (by decide) ev_bd
          rw [lg_k (k := 1 + 6 * m + 3) (fun i _ => by omega)] at hput
          refine ok_bindE hput ?_
          have c5 : cE (fm_si M5 (3 + 3) m (ev g m)) (lg g (m + 1)) All (q + 1) := by
            rw [e4, zf]
            exact e5.put (by rw [lg_n]; exact hm) (Or.inl rfl) ev_bd
          have f16 : fr opR M (fm_si M5 (3 + 3) m (ev g m)) := f15.tr (fr.si (by unfold opR; omega))
          try dsimp only
          have hold := (gV_iff.mp hg).2.2.2.1 m 3 hm (by decide)
          by_cases y : g (1 + 6 * m + 3) = ev g m
          · rw [if_pos y]
            refine ok_pos (by decide) (hk2 _ ⟨?_, rfl, f16, c5⟩)
            try dsimp only
            rw [e3, if_neg (by unfold lcp; rw [y]; simp)]
            rfl
          · rw [if_neg y]
            refine ok_neg (Int32.not_lt.mpr (bd_ge hold (by decide))) (hk2 _ ⟨?_, rfl, f16, c5⟩)
            try dsimp only
            rw [e3, if_pos (by unfold lcp; rw [zf, beq_eq_false_iff_ne.mpr y]; rfl), nn_succ]
      · rintro ⟨x1, x2, M4⟩ ⟨c1, c2, c3, c4⟩ k2
        try dsimp only at c1 c2 c3 c4
        subst c1
        subst c2
        have enm : (lg g (gn g)) 0 = nn (gn g) := by rw [lg_k (fun i _ => by omega), en]
        unfold pMicRow_learnEqual_L92 pMicRow_learnEqual_L92b
        try dsimp only
        exact ok_pos (by rw [c4.2.1.n, enm, nn_le nB nB]; omega) (ok_some ⟨c3, c4.2.2.2.1, Or.inr ⟨b1, rfl, c4.2.1⟩⟩)
def glR (k : Nat) : Prop := k = 1 ∨ k = 5 ∨ k = 10 ∨ k = 15
theorem md_goLearn {N : Nat} {M : fm_M} {l : List Int64} (hN : 4000 ≤ N) (hg : gV (M.1 1)) (hA : aM M All) (ht : tdM M l) : ok (pModel_goLearn N M) (fun x => fr glR M x.2 ∧ ((allq (M.1 1) (gn (M.1 1)) = true ∧ x.1 = -2 ∧ x.2.1 1 = M.1 1) ∨ (allq (M.1 1) (gn (M.1 1)) = false ∧ x.1 = nn (ct (lcp (M.1 1)) (gn (M.1 1))) ∧ x.2.1 1 = lg (M.1 1) (gn (M.1 1))))) := by
  obtain ⟨en, hn6⟩ := hg.n
  have hL := hg.l
  unfold pModel_goLearn
  refine ok_bind (md_begin (M2 := M) hN hg mq.rf hA ht) ?_
  rintro Ma ⟨ha, fa⟩
  refine ok_for (gn (M.1 1)) (fun m t => t.1 = nn (mxl (M.1 1) m) ∧ t.2.1 = (if allq (M.1 1) m then 0 else 1) ∧ t.2.2.1 = nn m ∧ fr glR M t.2.2.2 ∧ mH M All l t.2.2.2 ∧ ∀ j, j < m → t.2.2.2.1 15 j = nn (lev (M.1 1) j)) ?_ ?_ ⟨rfl, rfl, rfl, fa.up (fun k hk => by unfold glR; omega), ha, fun j z => absurd z (Nat.not_lt_zero _)⟩ (by omega)
  · rintro m ⟨w1, w2, w3, M3⟩ hm ⟨a1, a2, a3, a4, a5, a6⟩ k hk
    try dsimp only at a1 a2 a3 a4 a5 a6
    subst a1
    subst a2
    subst a3
    unfold pModel_goLearn_L10 pModel_goLearn_L10b
    try dsimp only
    refine ok_neg (by rw [a5.g, en, nn_le nB nB]; omega) (ok_bind (md_layMic hN hg a5 hm) ?_)
    rintro M4 ⟨h4, f4, v4⟩
    obtain ⟨lv1, lv2⟩ := lev_nn (m := m) hg
    have hml := mxl_le hg m
    have hlv := h4.lev (r := fr1 (M.1 1) m) hN hg 10 (by decide +kernel) v4
    rw [lv1] at hlv
    refine ok_bindE hlv (ok_st (by omega) nL (ok_ld (by omega) nL ?_))
    rw [si_same]
    have h5 : mH M All l (fm_si M4 15 m (nn (lev (M.1 1) m))) := h4.kf (P := fun k => k = 15) (fr.si rfl) (fun k hk => by omega)
    have f15 : fr glR M (fm_si M4 15 m (nn (lev (M.1 1) m))) := (a4.tr (f4.up (fun k hk => by unfold glR; omega))).tr (fr.si (by unfold glR; omega))
    have r15 : ∀ j, j < m + 1 → (fm_si M4 15 m (nn (lev (M.1 1) m))).1 15 j = nn (lev (M.1 1) j) := by
      intro j hj
      by_cases e : j = m
      · rw [e, si_same]
      · rw [si_col e, f4.at1 (by decide)]; exact a6 j (by omega)
    have emx : jmax (nn (mxl (M.1 1) m)) (nn (lev (M.1 1) m)) = nn (mxl (M.1 1) (m + 1)) := by
      show (if nn (mxl (M.1 1) m) < nn (lev (M.1 1) m) then nn (lev (M.1 1) m) else nn (mxl (M.1 1) m)) = nn (max (mxl (M.1 1) m) (lev (M.1 1) m))
      by_cases y : mxl (M.1 1) m < lev (M.1 1) m
      · rw [if_pos ((nn_lt nB nB).mpr y), Nat.max_eq_right (by omega)]
      · rw [if_neg (fun x => y ((nn_lt nB nB).mp x)), Nat.max_eq_left (by omega)]
    rw [emx, nn_succ]
    have eq1 : allq (M.1 1) (m + 1) = (allq (M.1 1) m && fq (M.1 1) m) := rfl
    by_cases y : allq (M.1 1) m = true
    · refine ok_pos (by rw [if_pos y]) ?_
      have eQ := md_isQuiet hN (by rw [h5.g]; exact hg) h5.2.2 (by rw [h5.g]; exact hm)
      rw [h5.g] at eQ
      have eQ : pModel_isQuiet N (fm_si M4 15 m (nn (lev (M.1 1) m))) (nn m) = some (if fq (M.1 1) m then 1 else 0) := eQ
      refine ok_bindE eQ ?_
      by_cases z : fq (M.1 1) m = true
      · refine ok_neg (by rw [if_pos z]; decide) (hk _ ⟨rfl, ?_, rfl, f15, h5, r15⟩)
        try dsimp only
        rw [eq1, y, z]
        rfl
      · refine ok_pos (by rw [if_neg z]) (hk _ ⟨rfl, ?_, rfl, f15, h5, r15⟩)
        try dsimp only
        rw [eq1, y, show fq (M.1 1) m = false by simpa using z]
        rfl
    · refine ok_neg (by rw [if_neg y]; decide) (hk _ ⟨rfl, ?_, rfl, f15, h5, r15⟩)
      try dsimp only
      rw [eq1, show allq (M.1 1) m = false by simpa using y]
      rfl
  · rintro ⟨w1, w2, w3, M3⟩ ⟨a1, a2, a3, a4, a5, a6⟩ k
    try dsimp only at a1 a2 a3 a4 a5 a6
    subst a1
    subst a2
    subst a3
    unfold pModel_goLearn_L10 pModel_goLearn_L10b
    try dsimp only
    refine ok_pos (by rw [a5.g, en, nn_le nB nB]; omega) ?_
    have hml := mxl_le hg (gn (M.1 1))
    by_cases y : allq (M.1 1) (gn (M.1 1)) = true
    · exact ok_pos (by rw [if_pos y]) (ok_some ⟨a4, Or.inl ⟨y, rfl, a5.g⟩⟩)
    · refine ok_neg (by rw [if_neg y]; decide) ?_
      have yf : allq (M.1 1) (gn (M.1 1)) = false := by simpa using y
      generalize hgg : M.1 1 = g at *
      have hS3 : ∀ m t, m < gn g → -300 ≤ t → t ≤ 300 → M3.1 5 (601 * m + (t + 300).toNat) = smp g All m t := by
        intro m t z1 z2 z3
        have := a5.2.2 m t (by rw [a5.g, hgg]; exact z1) z2 z3
        rw [hgg] at this
        exact this
      refine ok_for (gn g) (fun m t => t.1 = nn (ct (lcp g) m) ∧ t.2.1 = nn m ∧ fr (fun k => k = 1) M3 t.2.2 ∧ t.2.2.1 1 = lg g m) ?_ ?_ ⟨rfl, rfl, fr.rf, by (try dsimp only); rw [a5.g, hgg]; rfl⟩ (by omega)
      · rintro m ⟨x1, x2, M4⟩ hm ⟨c1, c2, c3, c4⟩ k2 hk2
        try dsimp only at c1 c2 c3 c4
        subst c1
        subst c2
        have enm : (lg g m) 0 = nn (gn g) := by rw [lg_k (fun i _ => by omega), en]
        have gvm := lg_V hg (m := m) (by omega)
        have hS4 : sM M4 (smp g All) := by
          intro m' t z1 z2 z3
          rw [c4, lg_n] at z1
          rw [c3.at1 (k := 5) (by decide)]
          exact hS3 m' t z1 z2 z3
        have eQ := md_isQuiet hN (by rw [c4]; exact gvm) hS4 (by rw [c4, lg_n]; exact hm)
        rw [c4, lg_b, lg_l] at eQ
        have eQ : pModel_isQuiet N M4 (nn m) = some (if fq g m then 1 else 0) := eQ
        obtain ⟨lv1, lv2⟩ := lev_nn (m := m) hg
        have e3 : ct (lcp g) (m + 1) = ct (lcp g) m + if lcp g m then 1 else 0 := rfl
        have e4 : lg g (m + 1) = if fq g m then lg g m else upd (lg g m) (1 + 6 * m + 3) (ev g m) := rfl
        unfold pModel_goLearn_L86 pModel_goLearn_L86b
        try dsimp only
        refine ok_neg (by rw [c4, enm, nn_le nB nB]; omega) (ok_bindE eQ ?_)
        rw [nn_succ]
        by_cases z : fq g m = true
        · refine ok_neg (by rw [if_pos z]; decide) (hk2 _ ⟨?_, rfl, c3, ?_⟩)
          · try dsimp only
            rw [e3, if_neg (by unfold lcp; rw [z]; simp)]
            rfl
          · try dsimp only
            rw [e4, if_pos z]; exact c4
        · have zf : fq g m = false := by simpa using z
          refine ok_pos (by rw [if_neg z]) (ok_ld (by omega) nL ?_)
          rw [c3.at1 (k := 15) (by decide), a6 m hm]
          have hJ : ok (pModel_goLearn_J151 N M4 (nn (mxl g (gn g))) (nn (ct (lcp g) m)) (nn m) k2 (ev g m)) (fun x => fr glR M x.2 ∧ ((allq g (gn g) = true ∧ x.1 = -2 ∧ x.2.1 1 = g) ∨ (allq g (gn g) = false ∧ x.1 = nn (ct (lcp g) (gn g)) ∧ x.2.1 1 = lg g (gn g)))) := by
            unfold pModel_goLearn_J151 pModel_goLearn_J171
            refine ok_bindE (md_of 3 (by omega) (by decide)) ?_
            rw [c4, lg_k (k := 1 + 6 * m + 3) (fun i _ => by omega), nn_succ, show ((1 + (6 * nn m)) + 3 : Int32) = nn (1 + 6 * m + 3) from ix_of m 3]
            have hb3 : (fm_si M4 1 (1 + 6 * m + 3) (ev g m)).1 1 = lg g (m + 1) := by rw [si_one, c4, e4, if_neg z]
            refine ok_ite (fun y => ok_st (by omega) nL (hk2 _ ⟨?_, rfl, c3.tr (fr.si rfl), hb3⟩)) (fun y => ok_st (by omega) nL (hk2 _ ⟨?_, rfl, c3.tr (fr.si rfl), hb3⟩))
            · try dsimp only
              rw [e3, if_neg (by unfold lcp; rw [y]; simp), Int32.add_zero]
              rfl
            · try dsimp only
              rw [e3, if_pos (by unfold lcp; rw [zf, beq_eq_false_iff_ne.mpr y]; rfl), nn_succ]
          by_cases y : lev g m = 0
          · have eev : ev g m = 200 := by unfold ev; rw [if_pos y]
            rw [eev] at hJ
            exact ok_pos (by rw [y]; rfl) hJ
          · have eev : ev g m = jmax 1 (jmin 200 ((100 * nn (mxl g (gn g))) / nn (lev g m))) := by unfold ev; rw [if_neg y]
            rw [eev] at hJ
            refine ok_neg (nn_ne0 (by omega) (by omega)) (ok_ld (by omega) nL ?_)
            rw [c3.at1 (k := 15) (by decide), a6 m hm]
            exact ok_nz (nn_ne0 (by omega) (by omega)) hJ
      · rintro ⟨x1, x2, M4⟩ ⟨c1, c2, c3, c4⟩ k2
        try dsimp only at c1 c2 c3 c4
        subst c1
        subst c2
        have enm : (lg g (gn g)) 0 = nn (gn g) := by rw [lg_k (fun i _ => by omega), en]
        unfold pModel_goLearn_L86 pModel_goLearn_L86b
        try dsimp only
        exact ok_pos (by rw [c4, enm, nn_le nB nB]; omega) (ok_some ⟨a4.tr (c3.up (fun k hk => by unfold glR; omega)), Or.inr ⟨yf, rfl, c4⟩⟩)
theorem x_learns {N : Nat} (hN : 4000 ≤ N) : cp_learns N RR := by
  intro n M1 M2 hn hR
  obtain ⟨q, l, hg, hr, hS, hq, tC, tM, hl, hm⟩ := hR.opn hn
  obtain ⟨c, u, p1, p2⟩ := hR.past
  have e1 : (fm_si M2 0 5 0).1 1 = M2.1 1 := si_row (by decide)
  have hct : ct (lcp (M2.1 1)) (gn (M2.1 1)) ≤ 6 := Nat.le_trans (ct_le _) hg.n.2
  have hmd : ok (pModel_lay N (fm_si M2 0 5 0)) (fun M => fr (fun k => k = 0 ∨ k = 14) M2 M ∧ (∀ j, j ≠ 5 → M.1 0 j = M2.1 0 j) ∧ ∀ k, k < 101 → M.1 14 k = M2.1 1 k) := by
    refine ok_mono (md_lay hN) ?_
    rintro M ⟨f, v⟩
    rw [e1] at v
    exact ⟨(fr.si (A := fun k => k = 0 ∨ k = 14) (Or.inl rfl)).tr (f.up (fun k hk => Or.inr hk)), fun j hj => by rw [f.at1 (by decide), si_col hj], v⟩
  cases hall : allq (M2.1 1) (gn (M2.1 1))
  · refine fin_yes (m := c) (u := u) (g' := lg (M2.1 1) (gn (M2.1 1))) hR hq (lg_V hg (Nat.le_refl _)) (nn (ct (lcp (M2.1 1)) (gn (M2.1 1)))) ?_ ?_
    · refine cs_chYes (q := q) (op := fun M8 => pMicRow_learnEqual N M8) hN hg hr (lg_V hg (Nat.le_refl _)) p1 (by rw [show (0 : Int32) = nn 0 from rfl, nn_le nB nB]; omega) (fun M8 f8 r15 r1 => ?_)
      refine ok_mono (cs_learnEqual hN hg r1 (hS.kf f8 (by decide) (by decide)) (by omega)) ?_
      rintro x ⟨a1, a2, a3⟩
      rcases a3 with ⟨b1, _⟩ | ⟨b1, b2, b3⟩
      · rw [hall] at b1; cases b1
      · exact ⟨b2, a1, b3, q + 1, a2, by omega⟩
    · unfold pModel_learns
      refine ok_pt (ok_bind hmd ?_)
      rintro M3 ⟨f3, z3, v3⟩
      have e3 : M3.1 1 = M2.1 1 := f3.at1 (by decide)
      have hA3 : aM M3 All := aM_all (by rw [e3]; exact hg) (by unfold rMod; rw [z3 11 (by decide), z3 12 (by decide), z3 13 (by decide)]; exact hm)
      refine ok_bind (md_goLearn hN (by rw [e3]; exact hg) hA3 (tM.z f3 (z3 4 (by decide)) (by decide))) ?_
      rintro ⟨x, M4⟩ ⟨a1, a3⟩
      try dsimp only at a1 a3 ⊢
      rw [e3] at a3
      rcases a3 with ⟨b1, _⟩ | ⟨b1, b2, b3⟩
      · rw [hall] at b1; cases b1
      · subst b2
        refine ok_pos (by rw [show (0 : Int32) = nn 0 from rfl, nn_le nB nB]; omega) ?_
        have p4 : pM M4 c u := by
          unfold pM
          rw [a1.at1 (k := 0) (by unfold glR; omega), a1.at1 (k := 13) (by unfold glR; omega), f3.at1 (k := 13) (by decide), z3 25 (by decide)]
          exact p2
        refine ok_bind (md_note hN p1.1 p4 (g := M2.1 1) (fun k hk => by rw [a1.at1 (k := 14) (by unfold glR; omega)]; exact v3 k hk)) ?_
        rintro M5 ⟨f5, z5, p5⟩
        refine ok_some ⟨rfl, fun k hk => ?_, fun j hj => ?_, ?_, fun k hk => ?_, p5⟩
        · try dsimp only
          rw [f5.1 k (by unfold ntR; omega), a1.1 k (by unfold glR; omega), f3.1 k (by omega)]
        · try dsimp only
          rw [z5 j (by omega), a1.at1 (by unfold glR; omega), z3 j (by omega)]
        · try dsimp only
          rw [f5.2.1 3 (by unfold ntR; omega), a1.2.1 3 (by unfold glR; omega), f3.2.1 3 (by decide)]
        · try dsimp only
          rw [f5.1 1 (by unfold ntR; omega), b3]
  · refine fin_no hR hq (-2) ?_ ?_
    · refine cs_chNo (q := q) (op := fun M8 => pMicRow_learnEqual N M8) hN hg hr (by decide) (fun M8 f8 r15 r1 => ?_)
      refine ok_mono (cs_learnEqual hN hg r1 (hS.kf f8 (by decide) (by decide)) (by omega)) ?_
      rintro x ⟨a1, a2, a3⟩
      rcases a3 with ⟨b1, b2, _⟩ | ⟨b1, _⟩
      · exact ⟨b2, a1, q + 1, a2, by omega⟩
      · rw [hall] at b1; cases b1
    · unfold pModel_learns
      refine ok_pt (ok_bind hmd ?_)
      rintro M3 ⟨f3, z3, v3⟩
      have e3 : M3.1 1 = M2.1 1 := f3.at1 (by decide)
      have hA3 : aM M3 All := aM_all (by rw [e3]; exact hg) (by unfold rMod; rw [z3 11 (by decide), z3 12 (by decide), z3 13 (by decide)]; exact hm)
      refine ok_bind (md_goLearn hN (by rw [e3]; exact hg) hA3 (tM.z f3 (z3 4 (by decide)) (by decide))) ?_
      rintro ⟨x, M4⟩ ⟨a1, a3⟩
      try dsimp only at a1 a3 ⊢
      rw [e3] at a3
      rcases a3 with ⟨b1, b2, b3⟩ | ⟨b1, _⟩
      · subst b2
        refine ok_neg (by decide) (ok_some ⟨rfl, ⟨fun k hk => ?_, fun j hj => ?_⟩, ?_, ?_⟩)
        · try dsimp only
          by_cases e : k = 1
          · rw [e]; exact b3
          · rw [a1.1 k (by unfold glR; omega), f3.1 k (by omega)]
        · try dsimp only
          rw [a1.at1 (by unfold glR; omega), z3 j (by omega)]
        · try dsimp only
          rw [a1.at1 (by unfold glR; omega), z3 4 (by decide)]
        · try dsimp only
          rw [a1.2.1 3 (by unfold glR; omega), f3.2.1 3 (by decide)]
      · rw [hall] at b1; cases b1
