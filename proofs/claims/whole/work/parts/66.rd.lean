/-! ===== the readers' calls: how they close ===== -/
theorem rTold_kp {M1 M2 M1' M2' : fm_M} (h : rTold M1 M2) (e1 : M1'.1 176 = M1.1 176) (e2 : M1'.2.1 177 = M1.2.1 177) (e3 : M2'.1 0 4 = M2.1 0 4) (e4 : M2'.2.1 3 = M2.2.1 3) : rTold M1' M2' := by
  obtain ⟨k, k1, k2, k3, k4⟩ := h
  refine ⟨k, k1, ?_, ?_, ?_⟩
  · rw [e1]; exact k2
  · rw [e3]; exact k3
  · rw [e2, e4]; exact k4
def stR (N : Nat) (x : Int32 × fm_M) : Option (Int32 × fm_M) := (pLetters_cutTo x.2 0).bind (fun y => (pMicRow_settleChange N y.2 x.1).bind (fun z => some (z.1, z.2)))
theorem cs_cut0 {M : fm_M} {k : Nat} {c : Nat → Nat} (h : lC M k c) : pLetters_cutTo M 0 = some (1, fm_si M 173 1 0) := by
  have := h.1
  unfold pLetters_cutTo
  rw [if_neg (by decide), if_pos (by rw [h.2.1, show (0 : Int32) = nn 0 from rfl, nn_le nB nB]; omega)]
  rfl
theorem cs_rdNo {N : Nat} {M1 : fm_M} {g : Nat → Int32} {k : Nat} {c : Nat → Nat} {r : Int32} {op : fm_M → Option (Int32 × fm_M)} (hN : 4000 ≤ N) (hg : gV g) (hr : rS M1 1 g) (hl : lC M1 k c) (hneg : ¬ 0 ≤ r) (hop : ∀ M8, fr (fun k => 15 ≤ k ∧ k < 29) M1 M8 → rS M8 1 g → ok (op M8) (fun x => x.1 = r ∧ fr (fun k => 1 ≤ k ∧ k < 15) M8 x.2)) : ok ((pScene_copyFrom N M1 15 1).bind (fun M8 => (op M8).bind (stR N))) (fun x => x.1 = r ∧ fr (fun k => (1 ≤ k ∧ k < 29) ∨ k = 173) M1 x.2 ∧ rS x.2 1 g ∧ x.2.1 173 1 = 0) := by
  refine ok_bind (cs_before hN hg hr) ?_
  rintro M8 ⟨f8, r15, r1⟩
  refine ok_bind (hop M8 f8 r1) ?_
  rintro ⟨x, M9⟩ ⟨e9, f9⟩
  try dsimp only at e9 f9
  subst e9
  unfold stR
  have l9 : lC M9 k c := (hl.kf f8 (by decide) (by decide)).kf f9 (by decide) (by decide)
  refine ok_bindE (cs_cut0 l9) ?_
  refine ok_bind (cs_settleNo hN hg (r15.kept (fun a z1 z2 => by rw [si_row (by omega)]; exact f9.1 a (by omega)) hg) hneg) ?_
  rintro ⟨y, M10⟩ ⟨e10, f10, r10⟩
  try dsimp only at e10 f10 r10
  subst e10
  refine ok_some ⟨rfl, (((f8.up (B := fun k => (1 ≤ k ∧ k < 29) ∨ k = 173) (fun k hk => by omega)).tr (f9.up (fun k hk => by omega))).tr (fr.si (Or.inr rfl))).tr (f10.up (fun k hk => by omega)), r10, ?_⟩
  try dsimp only
  rw [f10.at1 (by decide), si_same]
theorem cs_rdYes {N : Nat} {M1 : fm_M} {g g' : Nat → Int32} {k m : Nat} {u : Nat → Nat → Int32} {c : Nat → Nat} {r : Int32} {op : fm_M → Option (Int32 × fm_M)} (hN : 4000 ≤ N) (hg : gV g) (hr : rS M1 1 g) (hl : lC M1 k c) (hg' : gV g') (hp : pC M1 m u) (hpos : 0 ≤ r) (hop : ∀ M8, fr (fun k => 15 ≤ k ∧ k < 29) M1 M8 → rS M8 1 g → ok (op M8) (fun x => x.1 = r ∧ fr (fun k => 1 ≤ k ∧ k < 15) M8 x.2 ∧ rS x.2 1 g')) : ok ((pScene_copyFrom N M1 15 1).bind (fun M8 => (op M8).bind (stR N))) (fun x => x.1 = r ∧ fz (fun k => (1 ≤ k ∧ k < 29) ∨ (59 ≤ k ∧ k < 174)) M1 x.2 ∧ rS x.2 1 g' ∧ pC x.2 (nx m) (ux m u g) ∧ x.2.1 173 1 = 0) := by
  refine ok_bind (cs_before hN hg hr) ?_
  rintro M8 ⟨f8, r15, r1⟩
  refine ok_bind (hop M8 f8 r1) ?_
  rintro ⟨x, M9⟩ ⟨e9, f9, r9⟩
  try dsimp only at e9 f9 r9
  subst e9
  unfold stR
  have l9 : lC M9 k c := (hl.kf f8 (by decide) (by decide)).kf f9 (by decide) (by decide)
  have p9 : pC (fm_si M9 173 1 0) m u := ((hp.kf f8 (fun k z1 z2 => by omega)).kf f9 (fun k z1 z2 => by omega)).kf (P := fun k => k = 173) (fr.si rfl) (fun k z1 z2 => by omega)
  refine ok_bindE (cs_cut0 l9) ?_
  refine ok_bind (cs_settleYes hN hg (r15.kept (fun a z1 z2 => by rw [si_row (by omega)]; exact f9.1 a (by omega)) hg) p9 hpos) ?_
  rintro ⟨y, M10⟩ ⟨e10, f10, p10⟩
  try dsimp only at e10 f10 p10
  subst e10
  refine ok_some ⟨rfl, ⟨fun k hk => ?_, fun k hk => ?_⟩, r9.kept (fun a z1 z2 => by (try dsimp only); rw [f10.1 a (by omega), si_row (by omega)]) hg', p10, ?_⟩
  · try dsimp only
    rw [f10.1 k (by omega), si_row (by omega), f9.1 k (by omega), f8.1 k (by omega)]
  · try dsimp only
    rw [f10.2 k (by omega)]
    show M9.2.1 k = _
    rw [f9.2.1 k (by omega), f8.2.1 k (by omega)]
  · try dsimp only
    rw [f10.1 173 (by decide), si_same]
theorem rd_no {n q : Nat} {M1 M2 : fm_M} {c d : Option (Int32 × fm_M)} (hR : RR n M1 M2) (hS : eS M1 q) (hq : q ≤ 100 * n) (r : Int32) (h1 : ok c (fun x => x.1 = r ∧ fr (fun k => (1 ≤ k ∧ k < 29) ∨ k = 173) M1 x.2 ∧ rS x.2 1 (M2.1 1) ∧ x.2.1 173 1 = 0)) (h2 : ok d (fun x => x.1 = r ∧ fr (fun a => a = 0 ∨ a = 4) M2 x.2 ∧ (∀ j, j ≠ 2 → j ≠ 5 → j ≠ 6 → j ≠ 7 → j ≠ 8 → x.2.1 0 j = M2.1 0 j) ∧ x.2.1 0 2 = 0)) : ∃ (r : Int32) (M1' : fm_M) (M2' : fm_M), c = some (r, M1') ∧ d = some (r, M2') ∧ RR (n + 1) M1' M2' := by
  obtain ⟨⟨r1, M1'⟩, e1, a1, a2, a3, a4⟩ := h1
  obtain ⟨⟨r2, M2'⟩, e2, b1, b2, b3, b4⟩ := h2
  try dsimp only at a1 a2 a3 a4 b1 b2 b3 b4
  subst a1
  subst b1
  have e21 : M2'.1 1 = M2.1 1 := b2.at1 (by decide)
  refine ⟨_, _, _, e1, e2, RR_y (q := q) hR (fun k hk => a2.1 k (by omega)) (fun k hk => b2.1 k (by omega)) (fun j hj => b3 j (by omega) (by omega) (by omega) (by omega) (by omega)) ⟨0, by omega, a4, b4, fun i hi => absurd hi (Nat.not_lt_zero _)⟩ (rTold_kp hR.2.2.1 (a2.at1 (by decide)) (a2.2.1 177 (by decide)) (b3 4 (by decide) (by decide) (by decide) (by decide) (by decide)) (b2.2.1 3 (by decide))) (by rw [e21]; exact hR.1.1) (by rw [e21]; exact a3) (rPast_of hR.2.2.2.2.1 (fun a z1 z2 => a2.1 a (by omega)) a2.2.2 (b2.1 13 (by decide)) (b3 25 (by decide) (by decide) (by decide) (by decide) (by decide))) (hS.kf a2 (by decide) (by decide)) (by omega)⟩
theorem rd_yes {n q m : Nat} {u : Nat → Nat → Int32} {g' : Nat → Int32} {M1 M2 : fm_M} {c d : Option (Int32 × fm_M)} (hR : RR n M1 M2) (hS : eS M1 q) (hq : q ≤ 100 * n) (hg' : gV g') (r : Int32) (h1 : ok c (fun x => x.1 = r ∧ fz (fun k => (1 ≤ k ∧ k < 29) ∨ (59 ≤ k ∧ k < 174)) M1 x.2 ∧ rS x.2 1 g' ∧ pC x.2 (nx m) (ux m u (M2.1 1)) ∧ x.2.1 173 1 = 0)) (h2 : ok d (fun x => x.1 = r ∧ (∀ k, k < 101 → x.2.1 1 k = g' k) ∧ (∀ k, k = 17 ∨ k = 18 → x.2.1 k = M2.1 k) ∧ x.2.2.1 3 = M2.2.1 3 ∧ (∀ j, j ≠ 2 → j ≠ 5 → j ≠ 6 → j ≠ 7 → j ≠ 8 → j ≠ 25 → x.2.1 0 j = M2.1 0 j) ∧ x.2.1 0 2 = 0 ∧ pM x.2 (nx m) (ux m u (M2.1 1)))) : ∃ (r : Int32) (M1' : fm_M) (M2' : fm_M), c = some (r, M1') ∧ d = some (r, M2') ∧ RR (n + 1) M1' M2' := by
  obtain ⟨⟨r1, M1'⟩, e1, a1, a2, a3, a4, a5⟩ := h1
  obtain ⟨⟨r2, M2'⟩, e2, b1, b2, b3, b4, b5, b6, b7⟩ := h2
  try dsimp only at a1 a2 a3 a4 a5 b1 b2 b3 b4 b5 b6 b7
  subst a1
  subst b1
  refine ⟨_, _, _, e1, e2, RR_y (q := q) hR (fun k hk => a2.1 k (by omega)) b3 (fun j hj => b5 j (by omega) (by omega) (by omega) (by omega) (by omega) (by omega)) ⟨0, by omega, a5, b6, fun i hi => absurd hi (Nat.not_lt_zero _)⟩ (rTold_kp hR.2.2.1 (a2.1 176 (by decide)) (a2.2 177 (by decide)) (b5 4 (by decide) (by decide) (by decide) (by decide) (by decide) (by decide)) b4) (gV_congr hg' b2) (rS_congr hg' a3 b2) (past_close a4 b7) (hS.zf a2 (by decide) (by decide)) (by omega)⟩
/-! mics -/
theorem mG_V {g : Nat → Int32} {n : Nat} {p : Nat → Int32} (hg : gV g) (hn : n ≤ 6) (hp : ∀ m, m < n → bd (p m) 0 40) : gV (mG g n p) ∧ gn (mG g n p) = n := by
  have en : gn (mG g n p) = n := by
    unfold gn
    rw [show mG g n p 0 = nn n from if_pos rfl, nn_toNat nB]
  have es : gs (mG g n p) = gs g := by unfold gs; rw [mG_hi (by decide)]
  obtain ⟨a1, a2, a3, a4, a5⟩ := gV_iff.mp hg
  refine ⟨gV_iff.mpr ⟨?_, ?_, fun j hj => ?_, fun m q hm hq => ?_, fun s hs => ?_⟩, en⟩
  · rw [show mG g n p 0 = nn n from if_pos rfl]
    unfold bd
    rw [nn_toInt nB]
    omega
  · rw [mG_hi (by decide)]; exact a2
  · rw [mG_hi (by omega)]; exact a3 j hj
  · rw [en] at hm
    rw [mG_at (by omega) hq, if_pos hm]
    have hc : ∀ q : Fin 6, q.val ≠ 0 → bd (if q.val = 1 ∨ q.val = 3 then 100 else 0) (mlo q) (mhi q) := by unfold bd; decide
    unfold mcell
    by_cases q0 : q = 0
    · subst q0
      rw [if_pos rfl]
      exact hp m hm
    · rw [if_neg q0]
      exact hc ⟨q, hq⟩ q0
  · rw [es] at hs
    have e : ∀ j, mG g n p (41 + 15 * s + j) = g (41 + 15 * s + j) := fun j => mG_hi (by omega)
    have est : gst (mG g n p) s = gst g s := by unfold gst; rw [mG_hi (by omega)]
    rw [mG_hi (by omega), mG_hi (by omega), mG_hi (by omega), est]
    obtain ⟨y1, y2, y3, y4⟩ := a5 s hs
    exact ⟨y1, y2, y3, fun j hj => by rw [mG_hi (by omega)]; exact y4 j hj⟩
theorem x_mics {N : Nat} (hN : 4000 ≤ N) : cp_mics N RR := by
  intro n M1 M2 hn hR
  obtain ⟨q, l, hg, hr, hS, hq, tC, tM, hl, hm⟩ := hR.opn hn
  obtain ⟨m, u, p1, p2⟩ := hR.past
  obtain ⟨k, c, l1, l2, l3⟩ := hR.2.1.opn
  have hk80 := l1.1
  have hrd : ∀ M8, fr (fun k => 15 ≤ k ∧ k < 29) M1 M8 → ok (pReader_readMics N M8) (fun x => fr amR M8 x.2 ∧ mOut M8 x (mR k c)) := fun M8 f8 => cs_readMics hN (l1.kf f8 (by decide) (by decide))
  have hmd : ok (pModel_mics N M2) (fun x => ∃ M0, fr (fun a => a = 0) M2 M0 ∧ (∀ j, j ≠ 2 → j ≠ 5 → j ≠ 6 → j ≠ 7 → j ≠ 8 → M0.1 0 j = M2.1 0 j) ∧ M0.1 0 2 = 0 ∧ mEnd M0 u m x (mR k c)) := by
    unfold pModel_mics
    refine ok_pt (ok_bind (md_beg (M := fm_si M2 0 5 0) (v := nn k) (by rw [si_col (by decide)]; exact l2)) ?_)
    rintro M0 ⟨f0, z0, z2, z6, z7, z8⟩
    have f20 : fr (fun a => a = 0) M2 M0 := (fr.si (A := fun a => a = 0) rfl).tr f0
    have z20 : ∀ j, j ≠ 2 → j ≠ 5 → j ≠ 6 → j ≠ 7 → j ≠ 8 → M0.1 0 j = M2.1 0 j := fun j y1 y2 y3 y4 y5 => by rw [z0 j y1 y3 y4 y5, si_col y2]
    have g0 : lM M0 k c := ⟨hk80, z6, by rw [f20.at1 (by decide)]; exact l3⟩
    have pm0 : pM M0 m u := p2.kf f20 (z20 25 (by decide) (by decide) (by decide) (by decide) (by decide)) (by decide)
    rw [z6]
    unfold pModel_mics_J23
    by_cases k0 : k = 0
    · refine ok_pos (by rw [k0]; decide) (ok_mono (md_micsLoop hN g0 p1.1 pm0 ⟨fr.rf, fun _ _ _ => rfl, Or.inr (Or.inr ⟨rfl, z8, 0, 0, fun _ => 0, by omega, by omega, rfl, z7, fun m hm => absurd hm (Nat.not_lt_zero _), fun h => by omega, fun _ => if_pos k0⟩)⟩) (fun x hx => ⟨M0, f20, z20, z2, hx⟩))
    · refine ok_neg (by rw [show (0 : Int32) = nn 0 from rfl, nn_le nB nB]; omega) (ok_mono (md_micsLoop hN g0 p1.1 pm0 ⟨fr.rf, fun _ _ _ => rfl, Or.inl ⟨rfl, 0, 0, -1, fun _ => 0, by omega, rfl, z7, z8, fun h => by omega, by omega, fun m hm => absurd hm (Nat.not_lt_zero _), Or.inl ⟨rfl, rfl⟩, if_neg k0⟩⟩) (fun x hx => ⟨M0, f20, z20, z2, hx⟩))
  unfold pMicRow_mics
  generalize mR k c = res at hrd hmd
  match res with
  | .inl e =>
    have he : e < 200 := by
      obtain ⟨M8, _, f8, _, _⟩ := cs_before hN hg hr
      obtain ⟨x, _, _, h2⟩ := hrd M8 f8
      exact h2.1
    refine rd_no hR hS hq (ii (-1 - (e : Int))) (cs_rdNo (op := pReader_readMics N) hN hg hr l1 (by rw [show (0 : Int32) = ii 0 from rfl, ii_le (by omega)]; omega) (fun M8 f8 _ => ok_mono (hrd M8 f8) (fun x hx => ⟨hx.2.2, hx.1.up (fun k hk => by unfold amR at hk; omega)⟩))) (ok_mono hmd ?_)
    rintro ⟨x, Mx⟩ ⟨M0, f0, z0, z2, y1, y2, y3⟩
    try dsimp only at y1 y2 y3 ⊢
    refine ⟨y1, (f0.up (B := fun a => a = 0 ∨ a = 4) (fun k hk => Or.inl hk)).tr y2, fun j b1 b2 b3 b4 b5 => by rw [y3 j b4 b5]; exact z0 j b1 b2 b3 b4 b5, by rw [y3 2 (by decide) (by decide)]; exact z2⟩
  | .inr (n', p) =>
    have hh : n' ≤ 6 ∧ ∀ m, m < n' → bd (p m) 0 40 := by
      obtain ⟨M8, _, f8, _, _⟩ := cs_before hN hg hr
      obtain ⟨x, _, _, h2⟩ := hrd M8 f8
      exact ⟨h2.1, fun m hm => (h2.2.2.2.2 m hm).1⟩
    obtain ⟨gv, gnE⟩ := mG_V hg hh.1 hh.2
    refine rd_yes (m := m) (u := u) (g' := mG (M2.1 1) n' p) hR hS hq gv (nn n') (cs_rdYes (op := pReader_readMics N) hN hg hr l1 gv p1 (by rw [show (0 : Int32) = nn 0 from rfl, nn_le nB nB]; omega) (fun M8 f8 r8 => ok_mono (hrd M8 f8) ?_)) (ok_mono hmd ?_)
    · rintro ⟨x, Mx⟩ ⟨f9, y1, y2, y3, y4, y5⟩
      try dsimp only at f9 y2 y3 y4 y5 ⊢
      obtain ⟨s1, s2, s3, s4, s5⟩ := r8
      refine ⟨y2, f9.up (fun k hk => by unfold amR at hk; omega), by rw [y3]; exact (if_pos rfl).symm, by rw [y4, mG_hi (by decide)]; exact s2, fun j hj => ?_, fun m' q' hm' hq' => ?_, fun s j hs hj => ?_⟩
      · rw [mG_hi (by omega), f9.1 _ (by unfold amR; omega)]
        exact s3 j hj
      · rw [gnE] at hm'
        rw [mG_at (by omega) hq', if_pos hm']
        exact (y5 m' hm').2 q' hq'
      · have es : gs (mG (M2.1 1) n' p) = gs (M2.1 1) := by unfold gs; rw [mG_hi (by decide)]
        have est : gst (mG (M2.1 1) n' p) s = gst (M2.1 1) s := by unfold gst; rw [mG_hi (by omega)]
        rw [es] at hs
        rw [est] at hj
        have hs4 := hg.s.2
        rw [mG_hi (by omega), f9.1 _ (by unfold amR; omega)]
        exact s5 s j hs hj
    · rintro ⟨x, Mx⟩ ⟨M0, f0, z0, z2, y1, y2, y3, y4, y5, y6⟩
      have e1 : M0.1 1 = M2.1 1 := f0.at1 (by decide)
      rw [e1] at y2 y6
      try dsimp only at y1 y2 y3 y4 y5 y6 ⊢
      refine ⟨y1, y2, fun k hk => by rw [y3 k (by omega)]; exact f0.1 k (by omega), by rw [y4]; exact f0.2.1 3 (by decide), fun j b1 b2 b3 b4 b5 b6 => by rw [y5 j b4 b5 b6]; exact z0 j b1 b2 b3 b4 b5, by rw [y5 2 (by decide) (by decide) (by decide)]; exact z2, y6⟩
