/-! ===== changes ===== -/
def opR (k : Nat) : Prop := (1 ≤ k ∧ k < 15) ∨ 178 ≤ k
def noR (k : Nat) : Prop := (1 ≤ k ∧ k < 29) ∨ 178 ≤ k
def stp (N : Nat) (x : Int32 × fm_M) : Option (Int32 × fm_M) := (pMicRow_settleChange N x.2 x.1).bind (fun y => some (y.1, y.2))
theorem cs_chNo {N : Nat} {M1 : fm_M} {g : Nat → Int32} {q : Nat} {r : Int32} {op : fm_M → Option (Int32 × fm_M)} (hN : 4000 ≤ N) (hg : gV g) (hr : rS M1 1 g) (hneg : ¬ 0 ≤ r) (hop : ∀ M8, fr (fun k => 15 ≤ k ∧ k < 29) M1 M8 → rS M8 15 g → rS M8 1 g → ok (op M8) (fun x => x.1 = r ∧ fr opR M8 x.2 ∧ ∃ q', eS x.2 q' ∧ q' ≤ q + 90)) : ok ((pScene_copyFrom N M1 15 1).bind (fun M8 => (op M8).bind (stp N))) (fun x => x.1 = r ∧ fr noR M1 x.2 ∧ rS x.2 1 g ∧ ∃ q', eS x.2 q' ∧ q' ≤ q + 90) := by
  refine ok_bind (cs_before hN hg hr) ?_
  rintro M8 ⟨f8, r15, r1⟩
  refine ok_bind (hop M8 f8 r15 r1) ?_
  rintro ⟨x, M9⟩ ⟨e9, f9, q', s9, hq'⟩
  try dsimp only at e9 f9 s9
  subst e9
  unfold stp
  refine ok_bind (cs_settleNo hN hg (r15.kept (fun a z1 z2 => f9.1 a (by unfold opR; omega)) hg) hneg) ?_
  rintro ⟨y, M10⟩ ⟨e10, f10, r10⟩
  try dsimp only at e10 f10 r10
  subst e10
  refine ok_some ⟨rfl, ((f8.up (B := noR) (fun k hk => by unfold noR; omega)).tr (f9.up (fun k hk => by unfold opR at hk; unfold noR; omega))).tr (f10.up (fun k hk => by unfold noR; omega)), r10, q', s9.kf f10 (by decide) (by decide), hq'⟩
theorem cs_chYes {N : Nat} {M1 : fm_M} {g g' : Nat → Int32} {q m : Nat} {u : Nat → Nat → Int32} {r : Int32} {op : fm_M → Option (Int32 × fm_M)} (hN : 4000 ≤ N) (hg : gV g) (hr : rS M1 1 g) (hg' : gV g') (hp : pC M1 m u) (hpos : 0 ≤ r) (hop : ∀ M8, fr (fun k => 15 ≤ k ∧ k < 29) M1 M8 → rS M8 15 g → rS M8 1 g → ok (op M8) (fun x => x.1 = r ∧ fr opR M8 x.2 ∧ rS x.2 1 g' ∧ ∃ q', eS x.2 q' ∧ q' ≤ q + 90)) : ok ((pScene_copyFrom N M1 15 1).bind (fun M8 => (op M8).bind (stp N))) (fun x => x.1 = r ∧ fz (fun k => (1 ≤ k ∧ k < 29) ∨ (59 ≤ k ∧ k < 173) ∨ 178 ≤ k) M1 x.2 ∧ rS x.2 1 g' ∧ pC x.2 (nx m) (ux m u g) ∧ ∃ q', eS x.2 q' ∧ q' ≤ q + 90) := by
  refine ok_bind (cs_before hN hg hr) ?_
  rintro M8 ⟨f8, r15, r1⟩
  refine ok_bind (hop M8 f8 r15 r1) ?_
  rintro ⟨x, M9⟩ ⟨e9, f9, r9, q', s9, hq'⟩
  try dsimp only at e9 f9 r9 s9
  subst e9
  unfold stp
  have p9 : pC M9 m u := (hp.kf f8 (fun k z1 z2 => by omega)).kf f9 (fun k z1 z2 => by unfold opR; omega)
  refine ok_bind (cs_settleYes hN hg (r15.kept (fun a z1 z2 => f9.1 a (by unfold opR; omega)) hg) p9 hpos) ?_
  rintro ⟨y, M10⟩ ⟨e10, f10, p10⟩
  try dsimp only at e10 f10 p10
  subst e10
  refine ok_some ⟨rfl, ⟨fun k hk => ?_, fun k hk => ?_⟩, r9.kept (fun a z1 z2 => f10.1 a (by omega)) hg', p10, q', s9.zf f10 (by decide) (by decide), hq'⟩
  · rw [f10.1 k (by omega), f9.1 k (by unfold opR; omega), f8.1 k (by omega)]
  · rw [f10.2 k (by omega), f9.2.1 k (by unfold opR; omega), f8.2.1 k (by omega)]
theorem fin_no {n q : Nat} {M1 M2 : fm_M} {c d : Option (Int32 × fm_M)} (hR : RR n M1 M2) (hq : q ≤ 100 * n) (r : Int32) (h1 : ok c (fun x => x.1 = r ∧ fr noR M1 x.2 ∧ rS x.2 1 (M2.1 1) ∧ ∃ q', eS x.2 q' ∧ q' ≤ q + 90)) (h2 : ok d (fun x => x.1 = r ∧ mq M2 x.2 ∧ x.2.1 0 4 = M2.1 0 4 ∧ x.2.2.1 3 = M2.2.1 3)) : ∃ (r : Int32) (M1' : fm_M) (M2' : fm_M), c = some (r, M1') ∧ d = some (r, M2') ∧ RR (n + 1) M1' M2' := by
  obtain ⟨⟨r1, M1'⟩, e1, a1, a2, a3, q', a4, a5⟩ := h1
  obtain ⟨⟨r2, M2'⟩, e2, b1, b2, b3, b4⟩ := h2
  try dsimp only at a1 a2 a3 a4 b1 b2 b3 b4
  subst a1
  subst b1
  refine ⟨_, _, _, e1, e2, RR_ch (q := q') hR (fun k hk => a2.1 k (by unfold noR; omega)) (a2.2.1 177 (by unfold noR; omega)) (fun k hk => b2.1 k (by omega)) (fun j hj => ?_) b4 ?_ ?_ ?_ a4 (by omega)⟩
  · by_cases e : j = 4
    · rw [e]; exact b3
    · exact b2.2 j (by omega)
  · rw [b2.one]; exact hR.1.1
  · rw [b2.one]; exact a3
  · exact rPast_of hR.2.2.2.2.1 (fun a z1 z2 => a2.1 a (by unfold noR; omega)) a2.2.2 (b2.1 13 (by omega)) (b2.2 25 (by omega))
theorem fin_yes {n q m : Nat} {u : Nat → Nat → Int32} {g' : Nat → Int32} {M1 M2 : fm_M} {c d : Option (Int32 × fm_M)} (hR : RR n M1 M2) (hq : q ≤ 100 * n) (hg' : gV g') (r : Int32) (h1 : ok c (fun x => x.1 = r ∧ fz (fun k => (1 ≤ k ∧ k < 29) ∨ (59 ≤ k ∧ k < 173) ∨ 178 ≤ k) M1 x.2 ∧ rS x.2 1 g' ∧ pC x.2 (nx m) (ux m u (M2.1 1)) ∧ ∃ q', eS x.2 q' ∧ q' ≤ q + 90)) (h2 : ok d (fun x => x.1 = r ∧ (∀ k, k = 2 ∨ k = 17 ∨ k = 18 → x.2.1 k = M2.1 k) ∧ (∀ j, j = 2 ∨ j = 4 ∨ j = 11 ∨ j = 12 ∨ j = 13 → x.2.1 0 j = M2.1 0 j) ∧ x.2.2.1 3 = M2.2.1 3 ∧ (∀ k, k < 101 → x.2.1 1 k = g' k) ∧ pM x.2 (nx m) (ux m u (M2.1 1)))) : ∃ (r : Int32) (M1' : fm_M) (M2' : fm_M), c = some (r, M1') ∧ d = some (r, M2') ∧ RR (n + 1) M1' M2' := by
  obtain ⟨⟨r1, M1'⟩, e1, a1, a2, a3, a6, q', a4, a5⟩ := h1
  obtain ⟨⟨r2, M2'⟩, e2, b1, b2, b3, b4, b5, b6⟩ := h2
  try dsimp only at a1 a2 a3 a4 a6 b1 b2 b3 b4 b5 b6
  subst a1
  subst b1
  exact ⟨_, _, _, e1, e2, RR_ch (q := q') hR (fun k hk => a2.1 k (by omega)) (a2.2 177 (by omega)) b2 b3 b4 (gV_congr hg' b5) (rS_congr hg' a3 b5) (past_close a6 b6) a4 (by omega)⟩
/-- the model: nothing is done -/
theorem md_no {M2 : fm_M} : mq M2 (fm_si M2 0 5 0) ∧ (fm_si M2 0 5 0).1 0 4 = M2.1 0 4 ∧ (fm_si M2 0 5 0).2.1 3 = M2.2.1 3 := ⟨mq.rf.pt (by decide), si_col (by decide), rfl⟩
/-! one cell -/
theorem gn_upd {g : Nat → Int32} {k : Nat} {v : Int32} (h : k ≠ 0) : gn (upd g k v) = gn g := by unfold gn; rw [upd_ne (fun e => h e.symm)]
theorem gs_upd {g : Nat → Int32} {k : Nat} {v : Int32} (h : k ≠ 40) : gs (upd g k v) = gs g := by unfold gs; rw [upd_ne (fun e => h e.symm)]
theorem gst_upd {g : Nat → Int32} {k s : Nat} {v : Int32} (h : k ≠ 43 + 15 * s) : gst (upd g k v) s = gst g s := by unfold gst; rw [upd_ne (fun e => h e.symm)]
theorem gV_put {g : Nat → Int32} {m q : Nat} {v : Int32} (hg : gV g) (hm : m < gn g) (hq : q < 6) (hv : bd v (mlo q) (mhi q)) : gV (upd g (1 + 6 * m + q) v) := by
  have hn := hg.n.2
  rw [gV_iff] at hg ⊢
  obtain ⟨h1, h2, h3, h4, h5⟩ := hg
  refine ⟨by rw [upd_ne (by omega)]; exact h1, by rw [upd_ne (by omega)]; exact h2, fun j hj => by rw [upd_ne (by omega)]; exact h3 j hj, ?_, ?_⟩
  · intro m' q' hm' hq'
    rw [gn_upd (by omega)] at hm'
    by_cases e : m' = m ∧ q' = q
    · obtain ⟨rfl, rfl⟩ := e
      rw [upd_eq]; exact hv
    · rw [upd_ne (by omega)]; exact h4 m' q' hm' hq'
  · intro s hs
    rw [gs_upd (by omega)] at hs
    rw [gst_upd (by omega), upd_ne (by omega), upd_ne (by omega), upd_ne (by omega)]
    obtain ⟨a1, a2, a3, a4⟩ := h5 s hs
    exact ⟨a1, a2, a3, fun j hj => by rw [upd_ne (by omega)]; exact a4 j hj⟩
theorem rS_put {M : fm_M} {g : Nat → Int32} {m q : Nat} {v : Int32} (hg : gV g) (h : rS M 1 g) (hm : m < gn g) (hq : q < 6) : rS (fm_si M (3 + q) m v) 1 (upd g (1 + 6 * m + q) v) := by
  have hn := hg.n.2
  have hs4 := hg.s.2
  obtain ⟨h1, h2, h3, h4, h5⟩ := h
  refine ⟨by rw [si_row (by omega), upd_ne (by omega)]; exact h1, by rw [si_row (by omega), upd_ne (by omega)]; exact h2, fun j hj => by rw [si_row (by omega), upd_ne (by omega)]; exact h3 j hj, ?_, ?_⟩
  · intro m' q' hm' hq'
    rw [gn_upd (by omega)] at hm'
    by_cases e : q' = q
    · subst e
      by_cases e2 : m' = m
      · subst e2
        rw [upd_eq, show 1 + 2 + q' = 3 + q' by omega, si_same]
      · rw [upd_ne (by omega), show 1 + 2 + q' = 3 + q' by omega, si_col e2]
        have := h4 m' q' hm' hq'
        rwa [show 1 + 2 + q' = 3 + q' by omega] at this
    · rw [upd_ne (by omega), si_row (by omega)]
      exact h4 m' q' hm' hq'
  · intro s j hs hj
    rw [gs_upd (by omega)] at hs
    rw [gst_upd (by omega)] at hj
    rw [upd_ne (by omega), si_row (by omega)]
    exact h5 s j hs hj
theorem gV_hold {g : Nat → Int32} {q : Nat} {v : Int32} (hg : gV g) (hq : q < 3) (hv : bd v (hlo q) (hhi q)) : gV (upd g (37 + q) v) := by
  have hn := hg.n.2
  rw [gV_iff] at hg ⊢
  obtain ⟨h1, h2, h3, h4, h5⟩ := hg
  refine ⟨by rw [upd_ne (by omega)]; exact h1, by rw [upd_ne (by omega)]; exact h2, ?_, ?_, ?_⟩
  · intro j hj
    by_cases e : j = q
    · subst e; rw [upd_eq]; exact hv
    · rw [upd_ne (by omega)]; exact h3 j hj
  · intro m' q' hm' hq'
    rw [gn_upd (by omega)] at hm'
    rw [upd_ne (by omega)]; exact h4 m' q' hm' hq'
  · intro s hs
    rw [gs_upd (by omega)] at hs
    rw [gst_upd (by omega), upd_ne (by omega), upd_ne (by omega), upd_ne (by omega)]
    obtain ⟨a1, a2, a3, a4⟩ := h5 s hs
    exact ⟨a1, a2, a3, fun j hj => by rw [upd_ne (by omega)]; exact a4 j hj⟩
theorem rS_hold {M : fm_M} {g : Nat → Int32} {q : Nat} {v : Int32} (hg : gV g) (h : rS M 1 g) (hq : q < 3) : rS (fm_si M 14 q v) 1 (upd g (37 + q) v) := by
  have hn := hg.n.2
  have hs4 := hg.s.2
  obtain ⟨h1, h2, h3, h4, h5⟩ := h
  refine ⟨by rw [si_row (by omega), upd_ne (by omega)]; exact h1, by rw [si_row (by omega), upd_ne (by omega)]; exact h2, ?_, ?_, ?_⟩
  · intro j hj
    by_cases e : j = q
    · subst e; rw [upd_eq]; exact si_same
    · rw [upd_ne (by omega)]
      show (fm_si M 14 q v).1 14 j = _
      rw [si_col e]; exact h3 j hj
  · intro m' q' hm' hq'
    rw [gn_upd (by omega)] at hm'
    rw [upd_ne (by omega), si_row (by omega)]
    exact h4 m' q' hm' hq'
  · intro s j hs hj
    rw [gs_upd (by omega)] at hs
    rw [gst_upd (by omega)] at hj
    rw [upd_ne (by omega), si_row (by omega)]
    exact h5 s j hs hj
theorem gV_aim {g : Nat → Int32} {s q : Nat} {v : Int32} (hg : gV g) (hq : q < 2) (hv : if q = 0 then bd v (-8) 8 else bd v 1 9) : gV (upd g (41 + 15 * s + q) v) := by
  have hn := hg.n.2
  rw [gV_iff] at hg ⊢
  obtain ⟨h1, h2, h3, h4, h5⟩ := hg
  refine ⟨by rw [upd_ne (by omega)]; exact h1, by rw [upd_ne (by omega)]; exact h2, fun j hj => by rw [upd_ne (by omega)]; exact h3 j hj, ?_, ?_⟩
  · intro m' q' hm' hq'
    rw [gn_upd (by omega)] at hm'
    rw [upd_ne (by omega)]; exact h4 m' q' hm' hq'
  · intro s' hs
    rw [gs_upd (by omega)] at hs
    rw [gst_upd (by omega), upd_ne (k := 41 + 15 * s + q) (j := 43 + 15 * s') (by omega)]
    obtain ⟨a1, a2, a3, a4⟩ := h5 s' hs
    have hst : gst g s' ≤ 12 := by
      obtain ⟨b1, b2, b3⟩ := bd_nn a3 (by decide)
      unfold gst
      omega
    refine ⟨?_, ?_, a3, fun j hj => by rw [upd_ne (by omega)]; exact a4 j hj⟩
    · by_cases e : s' = s ∧ q = 0
      · obtain ⟨rfl, rfl⟩ := e
        rw [show 41 + 15 * s' + 0 = 41 + 15 * s' from rfl, upd_eq]
        rw [if_pos rfl] at hv
        exact hv
      · rw [upd_ne (by omega)]; exact a1
    · by_cases e : s' = s ∧ q = 1
      · obtain ⟨rfl, rfl⟩ := e
        rw [show 41 + 15 * s' + 1 = 42 + 15 * s' by omega, upd_eq]
        rw [if_neg (by decide)] at hv
        exact hv
      · rw [upd_ne (by omega)]; exact a2
theorem rS_aim {M : fm_M} {g : Nat → Int32} {s q : Nat} {v : Int32} (hg : gV g) (h : rS M 1 g) (hs' : s < gs g) (hq : q < 2) : rS (fm_si M (10 + s) q v) 1 (upd g (41 + 15 * s + q) v) := by
  have hn := hg.n.2
  have hs4 := hg.s.2
  obtain ⟨h1, h2, h3, h4, h5⟩ := h
  refine ⟨by rw [si_row (by omega), upd_ne (by omega)]; exact h1, by rw [si_row (by omega), upd_ne (by omega)]; exact h2, fun j hj => by rw [si_row (by omega), upd_ne (by omega)]; exact h3 j hj, ?_, ?_⟩
  · intro m' q' hm' hq'
    rw [gn_upd (by omega)] at hm'
    rw [upd_ne (by omega), si_row (by omega)]
    exact h4 m' q' hm' hq'
  · intro s' j hs hj
    rw [gs_upd (by omega)] at hs
    rw [gst_upd (by omega)] at hj
    have hst := gst_le hg hs
    by_cases e : s' = s
    · subst e
      by_cases e2 : j = q
      · subst e2
        rw [upd_eq, show 1 + 9 + s' = 10 + s' by omega, si_same]
      · rw [upd_ne (by omega), show 1 + 9 + s' = 10 + s' by omega, si_col e2]
        have := h5 s' j hs hj
        rwa [show 1 + 9 + s' = 10 + s' by omega] at this
    · rw [upd_ne (by omega), si_row (by omega)]
      exact h5 s' j hs hj
/-! put -/
theorem st_lim : ∀ q : Fin 6, ([0, 1, 0, 1, 0, 0] : List Int32).getD q 0 = ii (mlo q) ∧ ([40, 400, 9, 200, 1, 1] : List Int32).getD q 0 = ii (mhi q) ∧ 0 ≤ mlo q ∧ mhi q ≤ 400 ∧ mlo q ≤ mhi q := by decide +kernel
theorem cs_put {M : fm_M} {g : Nat → Int32} {m q : Nat} {v : Int32} (hg : gV g) (hr : rS M 1 g) (hm : m < gn g) (h1 : 1 ≤ q) (hq : q < 6) (hv : bd v (mlo q) (mhi q)) : pScene_put M (nn m) (nn q) v = some (if g (1 + 6 * m + q) = v then -2 else g (1 + 6 * m + q), fm_si M (3 + q) m v) := by
  have hn := hg.n.2
  obtain ⟨l1, l2, l3, l4, l5⟩ := st_lim ⟨q, hq⟩
  try dsimp only at l1 l2 l3 l4 l5
  obtain ⟨z, rfl, z1, z2⟩ := bd_ii hv
  unfold pScene_put
  refine (bindE (cs_hasMic hg hr hm)).trans ?_
  rw [if_neg (by decide)]
  refine (bindE (wi_pos ⟨by rw [show (1 : Int32) = nn 1 from rfl, nn_le nB nB]; omega, by rw [show (5 : Int32) = nn 5 from rfl, nn_le nB nB]; omega⟩)).trans ?_
  rw [if_neg (by decide), ixE hq nL, ixE hq nL, l1, l2]
  refine (bindE (wi_pos (rng_in ⟨z1, z2⟩ (by omega)))).trans ?_
  rw [if_neg (by decide), ixE hq nL, ldE (by omega) nL, ixE hq nL, stE (by omega) nL, hr.mic q hm hq]
  by_cases e : g (1 + 6 * m + q) = ii z
  · rw [if_pos e, if_pos e]
  · rw [if_neg e, if_neg e]
theorem cs_putNo {M : fm_M} {g : Nat → Int32} {q : Nat} {v1 v : Int32} (hg : gV g) (hr : rS M 1 g) (h1 : 1 ≤ q) (hq : q < 6) (hv : ¬ ((∃ m, m < gn g ∧ v1 = nn m) ∧ bd v (mlo q) (mhi q))) : pScene_put M v1 (nn q) v = some (-1, M) := by
  obtain ⟨l1, l2, l3, l4, l5⟩ := st_lim ⟨q, hq⟩
  try dsimp only at l1 l2 l3 l4 l5
  unfold pScene_put
  rcases mic_or hg hr v1 with ⟨m, hm1, rfl⟩ | ⟨c1, c2⟩
  · refine (bindE (cs_hasMic hg hr hm1)).trans ?_
    rw [if_neg (by decide)]
    refine (bindE (wi_pos ⟨by rw [show (1 : Int32) = nn 1 from rfl, nn_le nB nB]; omega, by rw [show (5 : Int32) = nn 5 from rfl, nn_le nB nB]; omega⟩)).trans ?_
    rw [if_neg (by decide), ixE hq nL, ixE hq nL, l1, l2]
    rcases rng v (mlo q) (mhi q) (by omega) with ⟨b, rfl, b1, b2⟩ | c
    · exact absurd ⟨⟨m, hm1, rfl⟩, by unfold bd; rw [ii_toInt (by omega)]; exact ⟨b1, b2⟩⟩ hv
    · refine (bindE (wi_neg c)).trans ?_
      rw [if_pos rfl]
  · refine (bindE c1).trans ?_
    rw [if_pos rfl]
theorem md_refSet {M : fm_M} {m w : Nat} {v : Int32} (hg : gV (M.1 1)) (hm : m < gn (M.1 1)) (hw : w < 5) (hv : bd v (mlo (w + 1)) (mhi (w + 1))) : pModel_refusesSet M (nn m) (nn w) v = some (if M.1 1 (1 + 6 * m + (w + 1)) = v then -2 else 0) := by
  have hn := hg.n.2
  obtain ⟨l1, l2, l3, l4, l5⟩ := st_lim ⟨w + 1, by omega⟩
  try dsimp only at l1 l2 l3 l4 l5
  obtain ⟨z, rfl, z1, z2⟩ := bd_ii hv
  have hJ : ∀ lo : Int32, lo = ii (mlo (w + 1)) → pModel_refusesSet_J32 M (nn m) (nn w) (ii z) (ii z) lo = some (if M.1 1 (1 + 6 * m + (w + 1)) = ii z then -2 else 0) := by
    intro lo hlo
    subst hlo
    unfold pModel_refusesSet_J32
    rw [show (1 : Int32) + nn w = nn (w + 1) by rw [show (1 : Int32) = nn 1 from rfl, nn_add, Nat.add_comm], ixE (by omega) nL, l2]
    refine (bindE (in_pos (rng_in ⟨z1, z2⟩ (by omega)))).trans ?_
    rw [if_neg (by decide)]
    refine (bindE (md_of (w + 1) (by omega) (by omega))).trans ?_
    by_cases e : M.1 1 (1 + 6 * m + (w + 1)) = ii z
    · rw [if_pos e, if_pos e]
    · rw [if_neg e, if_neg e]
  unfold pModel_refusesSet
  refine (bindE (md_isMic hg hm)).trans ?_
  rw [if_neg (by decide)]
  refine (bindE (in_pos ⟨by rw [show (0 : Int32) = nn 0 from rfl, nn_le nB nB]; omega, by rw [show (4 : Int32) = nn 4 from rfl, nn_le nB nB]; omega⟩)).trans ?_
  rw [if_neg (by decide)]
  unfold pModel_refusesSet_J27
  match w, hw with
  | 0, _ => rw [if_pos (show nn 0 = 0 from rfl)]; exact hJ _ rfl
  | 1, _ => rw [if_neg (by decide), if_neg (by decide)]; exact hJ _ rfl
  | 2, _ => rw [if_neg (by decide), if_pos (show nn 2 = 2 from rfl)]; exact hJ _ rfl
  | 3, _ => rw [if_neg (by decide), if_neg (by decide)]; exact hJ _ rfl
  | 4, _ => rw [if_neg (by decide), if_neg (by decide)]; exact hJ _ rfl
theorem md_refNo {M : fm_M} {M1 : fm_M} {w : Nat} {v1 v : Int32} (hg : gV (M.1 1)) (hr : rS M1 1 (M.1 1)) (hw : w < 5) (hv : ¬ ((∃ m, m < gn (M.1 1) ∧ v1 = nn m) ∧ bd v (mlo (w + 1)) (mhi (w + 1)))) : pModel_refusesSet M v1 (nn w) v = some (-1) := by
  obtain ⟨l1, l2, l3, l4, l5⟩ := st_lim ⟨w + 1, by omega⟩
  try dsimp only at l1 l2 l3 l4 l5
  unfold pModel_refusesSet
  rcases mic_or hg hr v1 with ⟨m, hm1, rfl⟩ | ⟨c1, c2⟩
  · refine (bindE (md_isMic hg hm1)).trans ?_
    rw [if_neg (by decide)]
    refine (bindE (in_pos ⟨by rw [show (0 : Int32) = nn 0 from rfl, nn_le nB nB]; omega, by rw [show (4 : Int32) = nn 4 from rfl, nn_le nB nB]; omega⟩)).trans ?_
    rw [if_neg (by decide)]
    have hc : ¬ (ii (mlo (w + 1)) ≤ v ∧ v ≤ ii (mhi (w + 1))) := by
      rcases rng v (mlo (w + 1)) (mhi (w + 1)) (by omega) with ⟨b, rfl, b1, b2⟩ | c
      · exact absurd ⟨⟨m, hm1, rfl⟩, by unfold bd; rw [ii_toInt (by omega)]; exact ⟨b1, b2⟩⟩ hv
      · exact c
    have hJ : ∀ lo : Int32, lo = ii (mlo (w + 1)) → pModel_refusesSet_J32 M (nn m) (nn w) v v lo = some (-1) := by
      intro lo hlo
      subst hlo
      unfold pModel_refusesSet_J32
      rw [show (1 : Int32) + nn w = nn (w + 1) by rw [show (1 : Int32) = nn 1 from rfl, nn_add, Nat.add_comm], ixE (by omega) nL, l2]
      refine (bindE (in_neg hc)).trans ?_
      rw [if_pos rfl]
    unfold pModel_refusesSet_J27
    match w, hw with
    | 0, _ => rw [if_pos (show nn 0 = 0 from rfl)]; exact hJ _ rfl
    | 1, _ => rw [if_neg (by decide), if_neg (by decide)]; exact hJ _ rfl
    | 2, _ => rw [if_neg (by decide), if_pos (show nn 2 = 2 from rfl)]; exact hJ _ rfl
    | 3, _ => rw [if_neg (by decide), if_neg (by decide)]; exact hJ _ rfl
    | 4, _ => rw [if_neg (by decide), if_neg (by decide)]; exact hJ _ rfl
  · refine (bindE (c2 M rfl)).trans ?_
    rw [if_pos rfl]
theorem bd_ge {x : Int32} {a b : Int} (h : bd x a b) (ha : 0 ≤ a) : 0 ≤ x := by
  rw [Int32.le_iff_toInt_le]
  have e : (0 : Int32).toInt = 0 := rfl
  unfold bd at h
  omega
theorem ch_model {N : Nat} {M2 : fm_M} {m : Nat} {u : Nat → Nat → Int32} (hN : 4000 ≤ N) (hm : m ≤ 8) (h : pM M2 m u) : ok (pModel_change N (fm_si M2 0 5 0)) (fun M => M.1 1 = M2.1 1 ∧ (∀ k, k = 2 ∨ k = 17 ∨ k = 18 → M.1 k = M2.1 k) ∧ (∀ j, j ≠ 5 → j ≠ 25 → M.1 0 j = M2.1 0 j) ∧ M.2.1 3 = M2.2.1 3 ∧ pM M (nx m) (ux m u (M2.1 1))) := by
  have h0 : pM (fm_si M2 0 5 0) m u := ⟨by rw [si_col (by decide)]; exact h.1, by rw [si_row (by decide)]; exact h.2⟩
  refine ok_mono (md_change hN hm h0) ?_
  rintro M ⟨f, z, p⟩
  have e1 : (fm_si M2 0 5 0).1 1 = M2.1 1 := si_row (by decide)
  rw [e1] at p
  refine ⟨(f.at1 (by unfold chR; omega)).trans e1, fun k hk => (f.1 k (by unfold chR; omega)).trans (si_row (by omega)), fun j a b => (z j b).trans (si_col a), (f.2.1 3 (by unfold chR; omega)), p⟩
theorem sets_eq {N : Nat} {M : fm_M} {v1 v2 v3 : Int32} : pMicRow_sets N M v1 v2 v3 = (pScene_copyFrom N M 15 1).bind (fun M8 => ((pMicRow_within M8 v2 0 4).bind (fun x15 => if x15 = 0 then some (-1, M8) else pScene_put M8 v1 (v2 + 1) v3)).bind (stp N)) := by
  unfold pMicRow_sets
  congr 1
  funext M8
  cases h : pMicRow_within M8 v2 0 4 with
  | none => rfl
  | some x =>
    show (if x = 0 then pMicRow_sets_J37 N M8 (-1) else _) = Option.bind (if x = 0 then some (-1, M8) else pScene_put M8 v1 (v2 + 1) v3) (stp N)
    by_cases c : x = 0
    · rw [if_pos c, if_pos c]
      rfl
    · rw [if_neg c, if_neg c]
      rfl
theorem x_sets {N : Nat} (hN : 4000 ≤ N) : cp_sets N RR := by
  intro n M1 M2 v1 v2 v3 hn hR
  obtain ⟨q, l, hg, hr, hS, hq, tC, tM, hl, hm⟩ := hR.opn hn
  obtain ⟨c, u, p1, p2⟩ := hR.past
  have e1 : (fm_si M2 0 5 0).1 1 = M2.1 1 := si_row (by decide)
  have hn6 := hg.n.2
  have no : ∀ r : Int32, ¬ 0 ≤ r → (∀ M8 : fm_M, rS M8 1 (M2.1 1) → ok ((pMicRow_within M8 v2 0 4).bind (fun x15 => if x15 = 0 then some (-1, M8) else pScene_put M8 v1 (v2 + 1) v3)) (fun x => x.1 = r ∧ fr (fun k => 1 ≤ k ∧ k < 15) M8 x.2)) → pModel_refusesSet (fm_si M2 0 5 0) v1 v2 v3 = some r → ∃ (r : Int32) (M1' : fm_M) (M2' : fm_M), pMicRow_sets N M1 v1 v2 v3 = some (r, M1') ∧ pModel_sets N M2 v1 v2 v3 = some (r, M2') ∧ RR (n + 1) M1' M2' := by
    intro r hneg hop href
    refine fin_no hR hq r ?_ ?_
    · refine ok_eq sets_eq (cs_chNo (q := q) hN hg hr hneg (fun M8 f8 r15 r1 => ?_))
      refine ok_mono (hop M8 r1) ?_
      rintro x ⟨a1, a2⟩
      exact ⟨a1, a2.up (fun k hk => Or.inl hk), q, ((hS.kf f8 (by decide) (by decide)).kf a2 (by decide) (by decide)), by omega⟩
    · unfold pModel_sets
      exact ok_pt (ok_bindE href (ok_neg hneg (ok_some ⟨rfl, md_no⟩)))
  rcases rng v2 0 4 (by decide) with ⟨b', rfl, b1, b2⟩ | c2
  · obtain ⟨w, rfl⟩ : ∃ t : Nat, b' = (t : Int) := ⟨b'.toNat, by omega⟩
    have ew : ∀ M8, pMicRow_within M8 (nn w) 0 4 = some 1 := fun M8 => by rw [nn_ii]; exact wi_pos (rng_in ⟨b1, b2⟩ (by decide))
    rw [← nn_ii] at no ⊢
    by_cases hv : (∃ m, m < gn (M2.1 1) ∧ v1 = nn m) ∧ bd v3 (mlo (w + 1)) (mhi (w + 1))
    · obtain ⟨⟨m, hm1, rfl⟩, hv⟩ := hv
      have href := md_refSet (M := fm_si M2 0 5 0) (w := w) (by rw [e1]; exact hg) (by rw [e1]; exact hm1) (by omega) hv
      rw [e1] at href
      have hput : ∀ M8 : fm_M, rS M8 1 (M2.1 1) → pScene_put M8 (nn m) (nn w + 1) v3 = some (if M2.1 1 (1 + 6 * m + (w + 1)) = v3 then -2 else M2.1 1 (1 + 6 * m + (w + 1)), fm_si M8 (3 + (w + 1)) m v3) := by
        intro M8 r1
        rw [nn_succ]
        exact cs_put hg r1 hm1 (by omega) (by omega) hv
      by_cases e : M2.1 1 (1 + 6 * m + (w + 1)) = v3
      · rw [if_pos e] at href
        refine no (-2) (by decide) (fun M8 r1 => ?_) href
        refine ok_bindE (ew M8) (ok_neg (by decide) (okE (hput M8 r1) ⟨by (try dsimp only); rw [if_pos e], fr.si (by (try dsimp only); omega)⟩))
      · rw [if_neg e] at href
        have hold := (gV_iff.mp hg).2.2.2.1 m (w + 1) hm1 (by omega)
        have hge := bd_ge hold (st_lim ⟨w + 1, by omega⟩).2.2.1
        refine fin_yes (m := c) (u := u) (g' := upd (M2.1 1) (1 + 6 * m + (w + 1)) v3) hR hq (gV_put hg hm1 (by omega) hv) (M2.1 1 (1 + 6 * m + (w + 1))) ?_ ?_
        · refine ok_eq sets_eq (cs_chYes (q := q) hN hg hr (gV_put hg hm1 (by omega) hv) p1 hge (fun M8 f8 r15 r1 => ?_))
          have f9 : fr (fun k => 1 ≤ k ∧ k < 15) M8 (fm_si M8 (3 + (w + 1)) m v3) := fr.si (by (try dsimp only); omega)
          refine ok_bindE (ew M8) (ok_neg (by decide) (okE (hput M8 r1) ⟨by (try dsimp only); rw [if_neg e], f9.up (fun k hk => Or.inl hk), rS_put hg r1 hm1 (by omega), q, ((hS.kf f8 (by decide) (by decide)).kf f9 (by decide) (by decide)), by omega⟩))
        · unfold pModel_sets
          refine ok_pt (ok_bindE href (ok_pos (by decide) (ok_bind (ch_model hN p1.1 p2) ?_)))
          rintro M3 ⟨a1, a2, a3, a4, a5⟩
          rw [show (1 : Int32) + nn w = nn (w + 1) by rw [show (1 : Int32) = nn 1 from rfl, nn_add, Nat.add_comm]]
          refine ok_bindE (md_of (w + 1) (by omega) (by omega)) ?_
          rw [a1, show ((1 + (6 * nn m)) + 1) + nn w = nn (1 + 6 * m + (w + 1)) by rw [show (1 : Int32) = nn 1 from rfl, show (6 : Int32) = nn 6 from rfl, nn_mul, nn_add, nn_add, nn_add]; congr 1; omega]
          refine ok_st (by omega) nL (ok_some ⟨rfl, fun k hk => (si_row (by omega)).trans (a2 k hk), fun j hj => (congrFun (si_row (by decide)) j).trans (a3 j (by omega) (by omega)), a4, fun k hk => ?_, ?_⟩)
          · try dsimp only
            rw [si_one, a1]
          · exact ⟨by rw [si_row (by decide)]; exact a5.1, by rw [si_row (by decide)]; exact a5.2⟩
    · refine no (-1) (by decide) (fun M8 r1 => ?_) (md_refNo (M1 := M1) (by rw [e1]; exact hg) (by rw [e1]; exact hr) (by omega) (by rw [e1]; exact hv))
      rw [nn_succ]
      exact ok_bindE (ew M8) (ok_neg (by decide) (okE (cs_putNo hg r1 (by omega) (by omega) hv) ⟨rfl, fr.rf⟩))
  · refine no (-1) (by decide) (fun M8 r1 => ok_bindE (wi_neg c2) (ok_pos rfl (ok_some ⟨rfl, fr.rf⟩))) ?_
    unfold pModel_refusesSet
    rcases mic_or hg hr v1 with ⟨m, hm1, rfl⟩ | ⟨c1, c3⟩
    · refine (bindE (md_isMic (by rw [e1]; exact hg) (by rw [e1]; exact hm1))).trans ?_
      rw [if_neg (by decide)]
      refine (bindE (in_neg c2)).trans ?_
      rw [if_pos rfl]
    · refine (bindE (c3 _ e1)).trans ?_
      rw [if_pos rfl]
