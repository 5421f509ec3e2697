/-! ===== sorts ===== -/
def sob (g : Nat → Int32) (b m : Nat) : Nat := if fq g m || fc g b m then 1 else 0
theorem sob_le {g : Nat → Int32} {b m : Nat} : sob g b m ≤ 1 := by unfold sob; split <;> omega
theorem sob_bd {g : Nat → Int32} {b m : Nat} : bd (nn (sob g b m)) (mlo 5) (mhi 5) := by
  have := sob_le (g := g) (b := b) (m := m)
  unfold bd
  rw [nn_toInt nB]
  exact ⟨by show (0 : Int) ≤ _; omega, by show _ ≤ (1 : Int); omega⟩
def so (g : Nat → Int32) (b : Nat) : Nat → Nat → Int32
  | 0 => g
  | m + 1 => upd (so g b m) (1 + 6 * m + 5) (nn (sob g b m))
def sop (g : Nat → Int32) (b m : Nat) : Bool := !(g (1 + 6 * m + 5) == nn (sob g b m))
theorem so_k {g : Nat → Int32} {b k : Nat} : ∀ {m : Nat}, (∀ i, i < m → k ≠ 1 + 6 * i + 5) → so g b m k = g k
  | 0, _ => rfl
  | m + 1, h => by
    show upd (so g b m) (1 + 6 * m + 5) _ k = _
    rw [upd_ne (h m (by omega))]
    exact so_k (fun i hi => h i (by omega))
theorem so_at {g : Nat → Int32} {b i : Nat} : ∀ {m : Nat}, i < m → so g b m (1 + 6 * i + 5) = nn (sob g b i)
  | 0, h => absurd h (Nat.not_lt_zero _)
  | m + 1, h => by
    show upd (so g b m) (1 + 6 * m + 5) _ _ = _
    by_cases e : i = m
    · rw [e, upd_eq]
    · rw [upd_ne (by omega)]
      exact so_at (by omega)
theorem so_n {g : Nat → Int32} {b m : Nat} : gn (so g b m) = gn g := by unfold gn; rw [so_k (fun i _ => by omega)]
theorem so_b {g : Nat → Int32} {b m : Nat} : gb (so g b m) = gb g := by unfold gb; rw [so_k (fun i _ => by omega)]
theorem so_l {g : Nat → Int32} {b m : Nat} : gl (so g b m) = gl g := by unfold gl; rw [so_k (fun i _ => by omega)]
theorem so_V {g : Nat → Int32} {b : Nat} (hg : gV g) : ∀ {m : Nat}, m ≤ gn g → gV (so g b m)
  | 0, _ => hg
  | m + 1, h => gV_put (so_V hg (m := m) (by omega)) (by rw [so_n]; omega) (by decide) sob_bd
theorem so_smp {g : Nat → Int32} {A : Nat → Bool} {b j : Nat} {t : Int} (hn : gn g ≤ 6) : ∀ {m : Nat}, m ≤ gn g → smp (so g b m) A j t = smp g A j t
  | 0, _ => rfl
  | m + 1, h => by
    show smp (upd (so g b m) (1 + 6 * m + 5) _) A j t = _
    rw [smp_put (by omega) (Or.inr rfl)]
    exact so_smp hn (by omega)
theorem so_same {g : Nat → Int32} {b : Nat} : ∀ {m : Nat}, ct (sop g b) m = 0 → so g b m = g
  | 0, _ => rfl
  | m + 1, h => by
    have h' : ct (sop g b) m + (if sop g b m then 1 else 0) = 0 := h
    have h1 : ct (sop g b) m = 0 := by omega
    have h2 : sop g b m = false := by
      cases z : sop g b m
      · rfl
      · rw [z] at h'
        simp at h'
    have e : g (1 + 6 * m + 5) = nn (sob g b m) := by
      unfold sop at h2
      simpa using h2
    show upd (so g b m) (1 + 6 * m + 5) (nn (sob g b m)) = g
    rw [so_same h1, ← e, upd_same]
theorem ct_ns {p : Nat → Bool} {f : Nat → Nat} (h : ∀ i, f i = if p i then 0 else 1) : ∀ n, ct p n + ns f n = n
  | 0 => rfl
  | n + 1 => by
    show (ct p n + if p n then 1 else 0) + (ns f n + f n) = n + 1
    have := ct_ns h n
    rw [h n]
    split <;> omega
theorem so_live {g : Nat → Int32} {b : Nat} (hg : gV g) : nn (gn g) - nn (pop (lvs (so g b (gn g)))) = nn (ns (sob g b) (gn g)) := by
  have hn6 := hg.n.2
  have e : pop (lvs (so g b (gn g))) = ct (fun m => sob g b m == 0) (gn g) := by
    unfold lvs
    rw [so_n, pop_bset hn6]
    refine ct_congr (fun m hm => ?_)
    try dsimp only
    rw [show 6 + 6 * m = 1 + 6 * m + 5 by omega, so_at hm]
    have := sob_le (g := g) (b := b) (m := m)
    by_cases z : sob g b m = 0
    · rw [z]; rfl
    · rw [show sob g b m = 1 by omega]; rfl
  have hsum := ct_ns (p := fun m => sob g b m == 0) (f := sob g b) (fun i => by
    have := sob_le (g := g) (b := b) (m := i)
    by_cases z : sob g b i = 0
    · rw [z]; rfl
    · rw [show sob g b i = 1 by omega]; rfl) (gn g)
  rw [e, nn_sub (by omega)]
  congr 1
  omega
def soR (g : Nat → Int32) (b : Nat) : Int32 := if ct (sop g b) (gn g) = 0 then -2 else nn (ns (sob g b) (gn g))
theorem cs_sortOut {N : Nat} {M : fm_M} {g : Nat → Int32} {q b : Nat} (hN : 4000 ≤ N) (hg : gV g) (hr : rS M 1 g) (hS : eS M q) (hq : q < 900000000) (hb : 1 ≤ b ∧ b ≤ 48) : ok (pMicRow_sortOut N M (nn b)) (fun x => fr opR M x.2 ∧ eS x.2 (q + 1) ∧ x.1 = soR g b ∧ rS x.2 1 (so g b (gn g))) := by
  obtain ⟨en, hn6⟩ := hg.n
  have hL := hg.l
  unfold pMicRow_sortOut
  refine ok_bindE (wi_pos ⟨by rw [show (1 : Int32) = nn 1 from rfl, nn_le nB nB]; omega, by rw [show (48 : Int32) = nn 48 from rfl, nn_le nB nB]; omega⟩) (ok_neg (by decide) (ok_bind (cs_begin hg hr hS hq) ?_))
  rintro Ma ⟨fa, ea⟩
  refine ok_for (gn g) (fun m t => t.1 = (if ct (sop g b) m = 0 then 0 else 1) ∧ t.2.1 = nn m ∧ fr opR M t.2.2 ∧ cE t.2.2 (so g b m) All (q + 1)) ?_ ?_ ⟨rfl, rfl, fa.up (fun k hk => by unfold opR; omega), ea⟩ (by omega)
  · rintro m ⟨x1, x2, M4⟩ hm ⟨c1, c2, c3, c4⟩ k2 hk2
    try dsimp only at c1 c2 c3 c4
    subst c1
    subst c2
    have enm : (so g b m) 0 = nn (gn g) := by rw [so_k (fun i _ => by omega), en]
    unfold pMicRow_sortOut_L24 pMicRow_sortOut_L24b
    try dsimp only
    refine ok_neg (by rw [c4.2.1.n, enm, nn_le nB nB]; omega) (ok_bindE rfl (ok_bindE rfl (ok_bind (cs_hearE hN c4 (by rw [so_n]; exact hm)) ?_)))
    rintro M5 ⟨f5, e5, l5, v5⟩
    rw [so_l] at l5 v5
    have v5' : ∀ i, i < gl g → M5.1 189 i = fr1 g m i := by
      intro i hi
      rw [v5 i hi, so_b, so_smp hn6 (by omega)]
      rfl
    have f15 : fr opR M M5 := c3.tr (f5.up (fun k hk => by unfold opR; omega))
    have e3 : ct (sop g b) (m + 1) = ct (sop g b) m + if sop g b m then 1 else 0 := rfl
    have hput := cs_put (M := M5) (q := 5) (m := m) (v := nn (sob g b m)) e5.1 e5.2.1 (by rw [so_n]; exact hm) (by decide) (by decide) sob_bd
    rw [so_k (k := 1 + 6 * m + 5) (fun i _ => by omega)] at hput
    have hJ : ok (pMicRow_sortOut_J101 N M5 (nn b) (if ct (sop g b) m = 0 then 0 else 1) (nn m) k2 (nn m) 5 (nn (sob g b m))) (fun x => fr opR M x.2 ∧ eS x.2 (q + 1) ∧ x.1 = soR g b ∧ rS x.2 1 (so g b (gn g))) := by
      unfold pMicRow_sortOut_J101
      refine ok_bindE hput ?_
      try dsimp only
      rw [nn_succ]
      have c5 : cE (fm_si M5 (3 + 5) m (nn (sob g b m))) (so g b (m + 1)) All (q + 1) := e5.put (by rw [so_n]; exact hm) (Or.inr rfl) sob_bd
      have f16 : fr opR M (fm_si M5 (3 + 5) m (nn (sob g b m))) := f15.tr (fr.si (by unfold opR; omega))
      have hold := (gV_iff.mp hg).2.2.2.1 m 5 hm (by decide)
      by_cases y : g (1 + 6 * m + 5) = nn (sob g b m)
      · rw [if_pos y]
        refine ok_pos (by decide) (hk2 _ ⟨?_, rfl, f16, c5⟩)
        try dsimp only
        rw [e3, if_neg (show ¬ sop g b m = true by unfold sop; rw [y]; simp)]
        rfl
      · rw [if_neg y]
        refine ok_neg (Int32.not_lt.mpr (bd_ge hold (by decide))) (hk2 _ ⟨?_, rfl, f16, c5⟩)
        try dsimp only
        rw [e3, if_pos (show sop g b m = true by unfold sop; rw [beq_eq_false_iff_ne.mpr y]; rfl), if_neg (by omega)]
    have hC : ct (cpl (fr1 g m) (g 37)) (gl g) ≤ 48 := Nat.le_trans (ct_le _) (by omega)
    have h83a : sob g b m = 0 → ok (pMicRow_sortOut_J83 N M5 (nn b) (if ct (sop g b) m = 0 then 0 else 1) (nn m) k2 0) (fun x => fr opR M x.2 ∧ eS x.2 (q + 1) ∧ x.1 = soR g b ∧ rS x.2 1 (so g b (gn g))) := by
      intro z
      unfold pMicRow_sortOut_J83
      rw [z] at hJ
      exact ok_pos rfl hJ
    have h83b : sob g b m = 1 → ok (pMicRow_sortOut_J78 N M5 (nn b) (if ct (sop g b) m = 0 then 0 else 1) (nn m) k2) (fun x => fr opR M x.2 ∧ eS x.2 (q + 1) ∧ x.1 = soR g b ∧ rS x.2 1 (so g b (gn g))) := by
      intro z
      unfold pMicRow_sortOut_J78 pMicRow_sortOut_J83
      rw [z] at hJ
      exact ok_neg (by decide) hJ
    refine ok_bindE (cs_isQuiet (r := fr1 g m) hN l5 (by omega) v5') ?_
    by_cases z : qz (fr1 g m) 0 (gl g) = true
    · exact ok_neg (by rw [if_pos z]; decide) (h83b (by unfold sob; rw [show fq g m = true from z]; rfl))
    · have zf : fq g m = false := by
        cases y : fq g m
        · rfl
        · exact absurd y z
      refine ok_pos (by rw [if_neg z]) (ok_bindE (cs_clips (r := fr1 g m) hN l5 (by omega) v5') ?_)
      rw [show M5.1 14 0 = g 37 from (e5.2.1.held (by decide)).trans (so_k (fun i _ => by omega))]
      by_cases y : b ≤ ct (cpl (fr1 g m) (g 37)) (gl g)
      · exact ok_neg (by rw [nn_lt nB nB]; omega) (h83b (by unfold sob; rw [zf, show fc g b m = true from decide_eq_true y]; rfl))
      · exact ok_pos (by rw [nn_lt nB nB]; omega) (h83a (by unfold sob; rw [zf, show fc g b m = false from decide_eq_false y]; rfl))
  · rintro ⟨x1, x2, M4⟩ ⟨c1, c2, c3, c4⟩ k2
    try dsimp only at c1 c2 c3 c4
    subst c1
    subst c2
    have enm : (so g b (gn g)) 0 = nn (gn g) := by rw [so_k (fun i _ => by omega), en]
    unfold pMicRow_sortOut_L24 pMicRow_sortOut_L24b
    try dsimp only
    refine ok_pos (by rw [c4.2.1.n, enm, nn_le nB nB]; omega) ?_
    unfold soR
    by_cases z : ct (sop g b) (gn g) = 0
    · rw [if_pos z, if_pos z]
      exact ok_pos rfl (ok_some ⟨c3, c4.2.2.2.1, rfl, c4.2.1⟩)
    · rw [if_neg z, if_neg z]
      refine ok_neg (by decide) (ok_bindE (cs_liveCount hN c4.1 c4.2.1) (ok_some ⟨c3, c4.2.2.2.1, ?_, c4.2.1⟩))
      try dsimp only
      rw [c4.2.1.n, enm, so_live hg]
theorem md_goSort {N : Nat} {M : fm_M} {l : List Int64} {b : Nat} (hN : 4000 ≤ N) (hg : gV (M.1 1)) (hA : aM M All) (ht : tdM M l) (hb : 1 ≤ b ∧ b ≤ 48) : ok (pModel_goSort N M (nn b)) (fun x => fr (fun k => k = 1 ∨ k = 5) M x.2 ∧ x.1 = soR (M.1 1) b ∧ x.2.1 1 = so (M.1 1) b (gn (M.1 1))) := by
  obtain ⟨en, hn6⟩ := hg.n
  have hL := hg.l
  unfold pModel_goSort
  refine ok_bind (md_begin (M2 := M) hN hg mq.rf hA ht) ?_
  rintro Ma ⟨ha, fa⟩
  have ea := ha.g
  have hSa := ha.2.2
  generalize hgg : M.1 1 = g at *
  refine ok_for (gn g) (fun m t => t.1 = nn (ct (sop g b) m) ∧ t.2.1 = nn (ns (sob g b) m) ∧ t.2.2.1 = nn m ∧ fr (fun k => k = 1) Ma t.2.2.2 ∧ t.2.2.2.1 1 = so g b m) ?_ ?_ ⟨rfl, rfl, rfl, fr.rf, ea⟩ (by omega)
  · rintro m ⟨x1, x2, x3, M4⟩ hm ⟨c1, c2, c3, c4, c5⟩ k2 hk2
    try dsimp only at c1 c2 c3 c4 c5
    subst c1
    subst c2
    subst c3
    have enm : (so g b m) 0 = nn (gn g) := by rw [so_k (fun i _ => by omega), en]
    have gvm := so_V (b := b) hg (m := m) (by omega)
    have hS4 : sM M4 (smp g All) := by
      intro m' t z1 z2 z3
      rw [c5, so_n] at z1
      rw [c4.at1 (k := 5) (by decide)]
      exact hSa m' t (by rw [ea]; exact z1) z2 z3
    have eQ := md_isQuiet hN (by rw [c5]; exact gvm) hS4 (by rw [c5, so_n]; exact hm)
    have eC := md_clippedOf hN (by rw [c5]; exact gvm) hS4 (by rw [c5, so_n]; exact hm)
    rw [c5, so_b, so_l] at eQ eC
    rw [so_k (k := 37) (fun i _ => by omega)] at eC
    have eQ : pModel_isQuiet N M4 (nn m) = some (if fq g m then 1 else 0) := eQ
    have eC : pModel_clippedOf N M4 (nn m) = some (nn (ct (cpl (fr1 g m) (g 37)) (gl g))) := eC
    have hC : ct (cpl (fr1 g m) (g 37)) (gl g) ≤ 48 := Nat.le_trans (ct_le _) (by omega)
    have e3 : ct (sop g b) (m + 1) = ct (sop g b) m + if sop g b m then 1 else 0 := rfl
    have e4 : ns (sob g b) (m + 1) = ns (sob g b) m + sob g b m := rfl
    have hJ : ok (pModel_goSort_J46 N M4 (nn b) (nn (ct (sop g b) m)) (nn (ns (sob g b) m)) (nn m) k2 (nn (sob g b m))) (fun x => fr (fun k => k = 1 ∨ k = 5) M x.2 ∧ x.1 = soR g b ∧ x.2.1 1 = so g b (gn g)) := by
      unfold pModel_goSort_J46 pModel_goSort_J66
      refine ok_bindE (md_of 5 (by omega) (by decide)) ?_
      rw [c5, so_k (k := 1 + 6 * m + 5) (fun i _ => by omega), nn_succ, nn_add, show ((1 + (6 * nn m)) + 5 : Int32) = nn (1 + 6 * m + 5) from ix_of m 5]
      have hb3 : (fm_si M4 1 (1 + 6 * m + 5) (nn (sob g b m))).1 1 = so g b (m + 1) := by rw [si_one, c5]; rfl
      refine ok_ite (fun y => ok_st (by omega) nL (hk2 _ ⟨?_, rfl, rfl, c4.tr (fr.si rfl), hb3⟩)) (fun y => ok_st (by omega) nL (hk2 _ ⟨?_, rfl, rfl, c4.tr (fr.si rfl), hb3⟩))
      · try dsimp only
        rw [e3, if_neg (show ¬ sop g b m = true by unfold sop; rw [y]; simp), Int32.add_zero]
        rfl
      · try dsimp only
        rw [e3, if_pos (show sop g b m = true by unfold sop; rw [beq_eq_false_iff_ne.mpr y]; rfl), nn_succ]
    unfold pModel_goSort_L11 pModel_goSort_L11b
    try dsimp only
    refine ok_neg (by rw [c5, enm, nn_le nB nB]; omega) (ok_bindE eQ ?_)
    by_cases z : fq g m = true
    · refine ok_neg (by rw [if_pos z]; decide) ?_
      unfold pModel_goSort_J41
      rw [show sob g b m = 1 by unfold sob; rw [z]; rfl] at hJ
      exact hJ
    · have zf : fq g m = false := by simpa using z
      refine ok_pos (by rw [if_neg z]) (ok_bindE eC ?_)
      by_cases y : b ≤ ct (cpl (fr1 g m) (g 37)) (gl g)
      · refine ok_neg (by rw [nn_lt nB nB]; omega) ?_
        unfold pModel_goSort_J41
        rw [show sob g b m = 1 by unfold sob; rw [zf, show fc g b m = true from decide_eq_true y]; rfl] at hJ
        exact hJ
      · refine ok_pos (by rw [nn_lt nB nB]; omega) ?_
        rw [show sob g b m = 0 by unfold sob; rw [zf, show fc g b m = false from decide_eq_false y]; rfl] at hJ
        exact hJ
  · rintro ⟨x1, x2, x3, M4⟩ ⟨c1, c2, c3, c4, c5⟩ k2
    try dsimp only at c1 c2 c3 c4 c5
    subst c1
    subst c2
    subst c3
    have enm : (so g b (gn g)) 0 = nn (gn g) := by rw [so_k (fun i _ => by omega), en]
    have hct : ct (sop g b) (gn g) ≤ 6 := Nat.le_trans (ct_le _) hn6
    have f14 : fr (fun k => k = 1 ∨ k = 5) M M4 := (fa.up (B := fun k => k = 1 ∨ k = 5) (fun k hk => Or.inr hk)).tr (c4.up (fun k hk => Or.inl hk))
    unfold pModel_goSort_L11 pModel_goSort_L11b
    try dsimp only
    refine ok_pos (by rw [c5, enm, nn_le nB nB]; omega) ?_
    unfold soR
    by_cases z : ct (sop g b) (gn g) = 0
    · rw [if_pos z]
      exact ok_pos (by rw [z]; rfl) (ok_some ⟨f14, rfl, c5⟩)
    · rw [if_neg z]
      exact ok_neg (nn_ne0 (by omega) (by omega)) (ok_some ⟨f14, rfl, c5⟩)
theorem x_sorts {N : Nat} (hN : 4000 ≤ N) : cp_sorts N RR := by
  intro n M1 M2 v1 hn hR
  obtain ⟨q, l, hg, hr, hS, hq, tC, tM, hl, hm⟩ := hR.opn hn
  obtain ⟨c, u, p1, p2⟩ := hR.past
  have e1 : (fm_si M2 0 5 0).1 1 = M2.1 1 := si_row (by decide)
  have hn6 := hg.n.2
  rcases rng v1 1 48 (by decide) with ⟨b', rfl, b1, b2⟩ | cc
  · obtain ⟨b, rfl⟩ : ∃ t : Nat, b' = (t : Int) := ⟨b'.toNat, by omega⟩
    have ew2 : pModel_in (fm_si M2 0 5 0) (nn b) 1 48 = some 1 := by rw [nn_ii]; exact in_pos (rng_in ⟨b1, b2⟩ (by decide))
    rw [← nn_ii]
    have hns : ns (sob (M2.1 1) b) (gn (M2.1 1)) ≤ 6 := by
      have := ns_le (f := sob (M2.1 1) b) (c := 1) (n := gn (M2.1 1)) (fun i _ => sob_le)
      omega
    have hmd : ok (pModel_lay N (fm_si M2 0 5 0)) (fun M => fr (fun k => k = 0 ∨ k = 14) M2 M ∧ (∀ j, j ≠ 5 → M.1 0 j = M2.1 0 j) ∧ ∀ k, k < 101 → M.1 14 k = M2.1 1 k) := by
      refine ok_mono (md_lay hN) ?_
      rintro M ⟨f, v⟩
      rw [e1] at v
      exact ⟨(fr.si (A := fun k => k = 0 ∨ k = 14) (Or.inl rfl)).tr (f.up (fun k hk => Or.inr hk)), fun j hj => by rw [f.at1 (by decide), si_col hj], v⟩
    have hop : ∀ M8, fr (fun k => 15 ≤ k ∧ k < 29) M1 M8 → rS M8 1 (M2.1 1) → ok (pMicRow_sortOut N M8 (nn b)) (fun x => fr opR M8 x.2 ∧ eS x.2 (q + 1) ∧ x.1 = soR (M2.1 1) b ∧ rS x.2 1 (so (M2.1 1) b (gn (M2.1 1)))) := fun M8 f8 r1 => cs_sortOut hN hg r1 (hS.kf f8 (by decide) (by decide)) (by omega) (by omega)
    by_cases z : ct (sop (M2.1 1) b) (gn (M2.1 1)) = 0
    · have er : soR (M2.1 1) b = -2 := if_pos z
      refine fin_no hR hq (-2) ?_ ?_
      · refine cs_chNo (q := q) (op := fun M8 => pMicRow_sortOut N M8 (nn b)) hN hg hr (by decide) (fun M8 f8 r15 r1 => ?_)
        refine ok_mono (hop M8 f8 r1) ?_
        rintro x ⟨a1, a2, a3, a4⟩
        rw [er] at a3
        exact ⟨a3, a1, q + 1, a2, by omega⟩
      · unfold pModel_sorts
        refine ok_pt (ok_bindE ew2 (ok_neg (by decide) (ok_bind hmd ?_)))
        rintro M3 ⟨f3, z3, v3⟩
        have e3 : M3.1 1 = M2.1 1 := f3.at1 (by decide)
        have hA3 : aM M3 All := aM_all (by rw [e3]; exact hg) (by unfold rMod; rw [z3 11 (by decide), z3 12 (by decide), z3 13 (by decide)]; exact hm)
        refine ok_bind (md_goSort (b := b) hN (by rw [e3]; exact hg) hA3 (tM.z f3 (z3 4 (by decide)) (by decide)) (by omega)) ?_
        rintro ⟨x, M4⟩ ⟨a1, a2, a3⟩
        try dsimp only at a1 a2 a3 ⊢
        rw [e3] at a2 a3
        rw [so_same z] at a3
        rw [er] at a2
        subst a2
        refine ok_neg (by decide) (ok_some ⟨rfl, ⟨fun k hk => ?_, fun j hj => ?_⟩, ?_, ?_⟩)
        · try dsimp only
          by_cases e : k = 1
          · rw [e]; exact a3
          · rw [a1.1 k (by omega), f3.1 k (by omega)]
        · try dsimp only
          rw [a1.at1 (by decide), z3 j (by omega)]
        · try dsimp only
          rw [a1.at1 (by decide), z3 4 (by decide)]
        · try dsimp only
          rw [a1.2.1 3 (by decide), f3.2.1 3 (by decide)]
    · have er : soR (M2.1 1) b = nn (ns (sob (M2.1 1) b) (gn (M2.1 1))) := if_neg z
      refine fin_yes (m := c) (u := u) (g' := so (M2.1 1) b (gn (M2.1 1))) hR hq (so_V hg (Nat.le_refl _)) (nn (ns (sob (M2.1 1) b) (gn (M2.1 1)))) ?_ ?_
      · refine cs_chYes (q := q) (op := fun M8 => pMicRow_sortOut N M8 (nn b)) hN hg hr (so_V hg (Nat.le_refl _)) p1 (by rw [show (0 : Int32) = nn 0 from rfl, nn_le nB nB]; omega) (fun M8 f8 r15 r1 => ?_)
        refine ok_mono (hop M8 f8 r1) ?_
        rintro x ⟨a1, a2, a3, a4⟩
        rw [er] at a3
        exact ⟨a3, a1, a4, q + 1, a2, by omega⟩
      · unfold pModel_sorts
        refine ok_pt (ok_bindE ew2 (ok_neg (by decide) (ok_bind hmd ?_)))
        rintro M3 ⟨f3, z3, v3⟩
        have e3 : M3.1 1 = M2.1 1 := f3.at1 (by decide)
        have hA3 : aM M3 All := aM_all (by rw [e3]; exact hg) (by unfold rMod; rw [z3 11 (by decide), z3 12 (by decide), z3 13 (by decide)]; exact hm)
        refine ok_bind (md_goSort (b := b) hN (by rw [e3]; exact hg) hA3 (tM.z f3 (z3 4 (by decide)) (by decide)) (by omega)) ?_
        rintro ⟨x, M4⟩ ⟨a1, a2, a3⟩
        try dsimp only at a1 a2 a3 ⊢
        rw [e3] at a2 a3
        rw [er] at a2
        subst a2
        refine ok_pos (by rw [show (0 : Int32) = nn 0 from rfl, nn_le nB nB]; omega) ?_
        have p4 : pM M4 c u := by
          unfold pM
          rw [a1.at1 (k := 0) (by decide), a1.at1 (k := 13) (by decide), f3.at1 (k := 13) (by decide), z3 25 (by decide)]
          exact p2
        refine ok_bind (md_note hN p1.1 p4 (g := M2.1 1) (fun k hk => by rw [a1.at1 (k := 14) (by decide)]; exact v3 k hk)) ?_
        rintro M5 ⟨f5, z5, p5⟩
        refine ok_some ⟨rfl, fun k hk => ?_, fun j hj => ?_, ?_, fun k hk => ?_, p5⟩
        · try dsimp only
          rw [f5.1 k (by unfold ntR; omega), a1.1 k (by omega), f3.1 k (by omega)]
        · try dsimp only
          rw [z5 j (by omega), a1.at1 (by decide), z3 j (by omega)]
        · try dsimp only
          rw [f5.2.1 3 (by unfold ntR; omega), a1.2.1 3 (by decide), f3.2.1 3 (by decide)]
        · try dsimp only
          rw [f5.1 1 (by unfold ntR; omega), a3]
  · refine fin_no hR hq (-1) ?_ ?_
    · refine cs_no1 (op := fun M8 => pMicRow_sortOut N M8 v1) hN hg hr hS (by decide) (fun M8 r1 => ?_)
      unfold pMicRow_sortOut
      exact ok_bindE (wi_neg cc) (ok_pos rfl (ok_some ⟨rfl, fr.rf⟩))
    · unfold pModel_sorts
      exact ok_pt (ok_bindE (in_neg cc) (ok_pos rfl (ok_some ⟨rfl, md_no⟩)))
