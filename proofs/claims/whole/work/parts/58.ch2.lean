/-! ===== calls: holds, moves, aims ===== -/
theorem st_hlim : ∀ q : Fin 3, ([1, 0, 4] : List Int32).getD q 0 = ii (hlo q) ∧ ([9999, 200, 48] : List Int32).getD q 0 = ii (hhi q) ∧ 0 ≤ hlo q ∧ hhi q ≤ 9999 ∧ hlo q ≤ hhi q := by decide +kernel
theorem cs_hold {M : fm_M} {g : Nat → Int32} {q : Nat} {v : Int32} (hr : rS M 1 g) (hq : q < 3) (hv : bd v (hlo q) (hhi q)) : pScene_hold M (nn q) v = some (if g (37 + q) = v then -2 else g (37 + q), fm_si M 14 q v) := by
  obtain ⟨l1, l2, l3, l4, l5⟩ := st_hlim ⟨q, hq⟩
  try dsimp only at l1 l2 l3 l4 l5
  obtain ⟨z, rfl, z1, z2⟩ := bd_ii hv
  unfold pScene_hold
  refine (bindE (wi_pos ⟨by rw [show (0 : Int32) = nn 0 from rfl, nn_le nB nB]; omega, by rw [show (2 : Int32) = nn 2 from rfl, nn_le nB nB]; omega⟩)).trans ?_
  rw [if_neg (by decide), ixE hq nL, ixE hq nL, l1, l2]
  refine (bindE (wi_pos (rng_in ⟨z1, z2⟩ (by omega)))).trans ?_
  rw [if_neg (by decide), ldE hq nL, stE hq nL, hr.held hq]
  by_cases e : g (37 + q) = ii z
  · rw [if_pos e, if_pos e]
  · rw [if_neg e, if_neg e]
theorem cs_holdNo {M : fm_M} {v1 v : Int32} (hv : ¬ ∃ q, q < 3 ∧ v1 = nn q ∧ bd v (hlo q) (hhi q)) : pScene_hold M v1 v = some (-1, M) := by
  unfold pScene_hold
  rcases rng v1 0 2 (by decide) with ⟨b', rfl, b1, b2⟩ | c
  · obtain ⟨q, rfl⟩ : ∃ t : Nat, b' = (t : Int) := ⟨b'.toNat, by omega⟩
    have hq : q < 3 := by omega
    obtain ⟨l1, l2, l3, l4, l5⟩ := st_hlim ⟨q, hq⟩
    try dsimp only at l1 l2 l3 l4 l5
    refine (bindE (wi_pos (rng_in ⟨b1, b2⟩ (by decide)))).trans ?_
    rw [if_neg (by decide), ← nn_ii, ixE hq nL, ixE hq nL, l1, l2]
    rcases rng v (hlo q) (hhi q) (by omega) with ⟨b, rfl, b1, b2⟩ | c
    · exact absurd ⟨q, hq, (nn_ii q).symm, by unfold bd; rw [ii_toInt (by omega)]; exact ⟨b1, b2⟩⟩ hv
    · refine (bindE (wi_neg c)).trans ?_
      rw [if_pos rfl]
  · refine (bindE (wi_neg c)).trans ?_
    rw [if_pos rfl]
theorem md_refHold {M : fm_M} {q : Nat} {v : Int32} (hq : q < 3) (hv : bd v (hlo q) (hhi q)) : pModel_refusesHold M (nn q) v = some (if M.1 1 (37 + q) = v then -2 else 0) := by
  obtain ⟨l1, l2, l3, l4, l5⟩ := st_hlim ⟨q, hq⟩
  try dsimp only at l1 l2 l3 l4 l5
  obtain ⟨z, rfl, z1, z2⟩ := bd_ii hv
  have hJ : ∀ lo hi : Int32, lo = ii (hlo q) → hi = ii (hhi q) → pModel_refusesHold_J51 M (nn q) (ii z) (ii z) lo hi = some (if M.1 1 (37 + q) = ii z then -2 else 0) := by
    intro lo hi hlo hhi
    subst hlo
    subst hhi
    unfold pModel_refusesHold_J51
    refine (bindE (in_pos (rng_in ⟨z1, z2⟩ (by omega)))).trans ?_
    rw [if_neg (by decide), show (37 : Int32) + nn q = nn (37 + q) from nn_add (i := 37), ldE (by omega) nL]
    by_cases e : M.1 1 (37 + q) = ii z
    · rw [if_pos e, if_pos e]
    · rw [if_neg e, if_neg e]
  unfold pModel_refusesHold pModel_refusesHold_J28
  refine (bindE (in_pos ⟨by rw [show (0 : Int32) = nn 0 from rfl, nn_le nB nB]; omega, by rw [show (2 : Int32) = nn 2 from rfl, nn_le nB nB]; omega⟩)).trans ?_
  rw [if_neg (by decide)]
  match q, hq with
  | 0, _ => rw [if_pos (show nn 0 = 0 from rfl), if_pos (show nn 0 = 0 from rfl)]; exact hJ _ _ rfl rfl
  | 1, _ => rw [if_neg (by decide), if_pos (show nn 1 = 1 from rfl), if_neg (by decide), if_pos (show nn 1 = 1 from rfl)]; exact hJ _ _ rfl rfl
  | 2, _ => rw [if_neg (by decide), if_neg (by decide), if_neg (by decide), if_neg (by decide)]; exact hJ _ _ rfl rfl
theorem md_refHoldNo {M : fm_M} {v1 v : Int32} (hv : ¬ ∃ q, q < 3 ∧ v1 = nn q ∧ bd v (hlo q) (hhi q)) : pModel_refusesHold M v1 v = some (-1) := by
  unfold pModel_refusesHold pModel_refusesHold_J28
  rcases rng v1 0 2 (by decide) with ⟨b', rfl, b1, b2⟩ | c
  · obtain ⟨q, rfl⟩ : ∃ t : Nat, b' = (t : Int) := ⟨b'.toNat, by omega⟩
    have hq : q < 3 := by omega
    obtain ⟨l1, l2, l3, l4, l5⟩ := st_hlim ⟨q, hq⟩
    try dsimp only at l1 l2 l3 l4 l5
    refine (bindE (in_pos (rng_in ⟨b1, b2⟩ (by decide)))).trans ?_
    rw [if_neg (by decide), ← nn_ii]
    have hc : ¬ (ii (hlo q) ≤ v ∧ v ≤ ii (hhi q)) := by
      rcases rng v (hlo q) (hhi q) (by omega) with ⟨b, rfl, b1, b2⟩ | c
      · exact absurd ⟨q, hq, (nn_ii q).symm, by unfold bd; rw [ii_toInt (by omega)]; exact ⟨b1, b2⟩⟩ hv
      · exact c
    have hJ : ∀ lo hi : Int32, lo = ii (hlo q) → hi = ii (hhi q) → pModel_refusesHold_J51 M (nn q) v v lo hi = some (-1) := by
      intro lo hi hlo hhi
      subst hlo
      subst hhi
      unfold pModel_refusesHold_J51
      refine (bindE (in_neg hc)).trans ?_
      rw [if_pos rfl]
    clear hv b1 b2
    match q, hq with
    | 0, _ => rw [if_pos (show nn 0 = 0 from rfl), if_pos (show nn 0 = 0 from rfl)]; exact hJ _ _ rfl rfl
    | 1, _ => rw [if_neg (by decide), if_pos (show nn 1 = 1 from rfl), if_neg (by decide), if_pos (show nn 1 = 1 from rfl)]; exact hJ _ _ rfl rfl
    | 2, _ => rw [if_neg (by decide), if_neg (by decide), if_neg (by decide), if_neg (by decide)]; exact hJ _ _ rfl rfl
  · refine (bindE (in_neg c)).trans ?_
    rw [if_pos rfl]
/-- the class's side of a change that only touches the scene -/
theorem cs_no1 {N : Nat} {M1 : fm_M} {g : Nat → Int32} {q : Nat} {r : Int32} {op : fm_M → Option (Int32 × fm_M)} (hN : 4000 ≤ N) (hg : gV g) (hr : rS M1 1 g) (hS : eS M1 q) (hneg : ¬ 0 ≤ r) (hop : ∀ M8, rS M8 1 g → ok (op M8) (fun x => x.1 = r ∧ fr (fun k => 1 ≤ k ∧ k < 15) M8 x.2)) : ok ((pScene_copyFrom N M1 15 1).bind (fun M8 => (op M8).bind (stp N))) (fun x => x.1 = r ∧ fr noR M1 x.2 ∧ rS x.2 1 g ∧ ∃ q', eS x.2 q' ∧ q' ≤ q + 90) := by
  refine cs_chNo (q := q) hN hg hr hneg (fun M8 f8 r15 r1 => ?_)
  refine ok_mono (hop M8 r1) ?_
  rintro x ⟨a1, a2⟩
  exact ⟨a1, a2.up (fun k hk => Or.inl hk), q, ((hS.kf f8 (by decide) (by decide)).kf a2 (by decide) (by decide)), by omega⟩
theorem cs_yes1 {N : Nat} {M1 : fm_M} {g g' : Nat → Int32} {q m : Nat} {u : Nat → Nat → Int32} {r : Int32} {op : fm_M → Option (Int32 × fm_M)} (hN : 4000 ≤ N) (hg : gV g) (hr : rS M1 1 g) (hS : eS M1 q) (hg' : gV g') (hp : pC M1 m u) (hpos : 0 ≤ r) (hop : ∀ M8, rS M8 1 g → ok (op M8) (fun x => x.1 = r ∧ fr (fun k => 1 ≤ k ∧ k < 15) M8 x.2 ∧ rS x.2 1 g')) : ok ((pScene_copyFrom N M1 15 1).bind (fun M8 => (op M8).bind (stp N))) (fun x => x.1 = r ∧ fz (fun k => (1 ≤ k ∧ k < 29) ∨ (59 ≤ k ∧ k < 173) ∨ 178 ≤ k) M1 x.2 ∧ rS x.2 1 g' ∧ pC x.2 (nx m) (ux m u g) ∧ ∃ q', eS x.2 q' ∧ q' ≤ q + 90) := by
  refine cs_chYes (q := q) hN hg hr hg' hp hpos (fun M8 f8 r15 r1 => ?_)
  refine ok_mono (hop M8 r1) ?_
  rintro x ⟨a1, a2, a3⟩
  exact ⟨a1, a2.up (fun k hk => Or.inl hk), a3, q, ((hS.kf f8 (by decide) (by decide)).kf a2 (by decide) (by decide)), by omega⟩
theorem x_holds {N : Nat} (hN : 4000 ≤ N) : cp_holds N RR := by
  intro n M1 M2 v1 v2 hn hR
  obtain ⟨q, l, hg, hr, hS, hq, tC, tM, hl, hm⟩ := hR.opn hn
  obtain ⟨c, u, p1, p2⟩ := hR.past
  have e1 : (fm_si M2 0 5 0).1 1 = M2.1 1 := si_row (by decide)
  by_cases hv : ∃ q, q < 3 ∧ v1 = nn q ∧ bd v2 (hlo q) (hhi q)
  · obtain ⟨w, hw, rfl, hv⟩ := hv
    have href := md_refHold (M := fm_si M2 0 5 0) hw hv
    rw [e1] at href
    by_cases e : M2.1 1 (37 + w) = v2
    · rw [if_pos e] at href
      refine fin_no hR hq (-2) ?_ ?_
      · exact cs_no1 (op := fun M8 => pScene_hold M8 (nn w) v2) hN hg hr hS (by decide) (fun M8 r1 => okE (cs_hold r1 hw hv) ⟨by (try dsimp only); rw [if_pos e], fr.si (by decide)⟩)
      · unfold pModel_holds
        exact ok_pt (ok_bindE href (ok_neg (by decide) (ok_some ⟨rfl, md_no⟩)))
    · rw [if_neg e] at href
      have hge := bd_ge ((gV_iff.mp hg).2.2.1 w hw) (st_hlim ⟨w, hw⟩).2.2.1
      refine fin_yes (m := c) (u := u) (g' := upd (M2.1 1) (37 + w) v2) hR hq (gV_hold hg hw hv) (M2.1 1 (37 + w)) ?_ ?_
      · exact cs_yes1 (op := fun M8 => pScene_hold M8 (nn w) v2) hN hg hr hS (gV_hold hg hw hv) p1 hge (fun M8 r1 => okE (cs_hold r1 hw hv) ⟨by (try dsimp only); rw [if_neg e], fr.si (by decide), rS_hold hg r1 hw⟩)
      · unfold pModel_holds
        refine ok_pt (ok_bindE href (ok_pos (by decide) (ok_bind (ch_model hN p1.1 p2) ?_)))
        rintro M3 ⟨a1, a2, a3, a4, a5⟩
        rw [show (37 : Int32) + nn w = nn (37 + w) from nn_add (i := 37)]
        refine ok_ld (by omega) nL ?_
        rw [a1]
        refine ok_st (by omega) nL (ok_some ⟨rfl, fun k hk => (si_row (by omega)).trans (a2 k hk), fun j hj => (congrFun (si_row (by decide)) j).trans (a3 j (by omega) (by omega)), a4, fun k hk => ?_, ?_⟩)
        · try dsimp only
          rw [si_one, a1]
        · exact ⟨by rw [si_row (by decide)]; exact a5.1, by rw [si_row (by decide)]; exact a5.2⟩
  · refine fin_no hR hq (-1) ?_ ?_
    · exact cs_no1 (op := fun M8 => pScene_hold M8 v1 v2) hN hg hr hS (by decide) (fun M8 r1 => okE (cs_holdNo hv) ⟨rfl, fr.rf⟩)
    · unfold pModel_holds
      exact ok_pt (ok_bindE (md_refHoldNo hv) (ok_neg (by decide) (ok_some ⟨rfl, md_no⟩)))
/-! moves -/
def mvB (g : Nat → Int32) (m : Nat) (v : Int32) : Prop := (0 < m ∧ v ≤ g (1 + 6 * (m - 1))) ∨ (m + 1 < gn g ∧ g (1 + 6 * (m + 1)) ≤ v)
theorem cs_move {M : fm_M} {g : Nat → Int32} {m : Nat} {z : Int} (hg : gV g) (hr : rS M 1 g) (hm : m < gn g) (hz : 0 ≤ z ∧ z ≤ 40) : ok (pScene_move M (nn m) (ii z)) (fun x => (g (1 + 6 * m) = ii z ∧ x = (-2, M)) ∨ (g (1 + 6 * m) ≠ ii z ∧ mvB g m (ii z) ∧ x = (-3, M)) ∨ (g (1 + 6 * m) ≠ ii z ∧ ¬ mvB g m (ii z) ∧ x = (g (1 + 6 * m), fm_si M 3 m (ii z)))) := by
  obtain ⟨en, hn6⟩ := hg.n
  unfold pScene_move
  refine ok_bindE (cs_hasMic hg hr hm) (ok_neg (by decide) (ok_bindE (wi_pos (rng_in hz (by decide))) (ok_neg (by decide) (ok_ld (by omega) nL ?_))))
  have em : M.1 3 m = g (1 + 6 * m) := hr.mic 0 hm (by decide)
  rw [em]
  refine ok_ite (fun e => ok_some (Or.inl ⟨e, rfl⟩)) (fun e => ?_)
  have hJ66 : ∀ s : Int32, (s = 0 ∧ ¬ (0 < m ∧ ii z ≤ g (1 + 6 * (m - 1)))) ∨ (s = 1 ∧ (0 < m ∧ ii z ≤ g (1 + 6 * (m - 1)))) → ok (pScene_move_J66 M (nn m) (ii z) (g (1 + 6 * m)) s) (fun x => (g (1 + 6 * m) = ii z ∧ x = (-2, M)) ∨ (g (1 + 6 * m) ≠ ii z ∧ mvB g m (ii z) ∧ x = (-3, M)) ∨ (g (1 + 6 * m) ≠ ii z ∧ ¬ mvB g m (ii z) ∧ x = (g (1 + 6 * m), fm_si M 3 m (ii z)))) := by
    intro s hs
    have hJ92 : ∀ t : Int32, (t = 0 ∧ ¬ (m + 1 < gn g ∧ g (1 + 6 * (m + 1)) ≤ ii z)) ∨ (t = 1 ∧ (m + 1 < gn g ∧ g (1 + 6 * (m + 1)) ≤ ii z)) → ok (pScene_move_J92 M (nn m) (ii z) (g (1 + 6 * m)) s t) (fun x => (g (1 + 6 * m) = ii z ∧ x = (-2, M)) ∨ (g (1 + 6 * m) ≠ ii z ∧ mvB g m (ii z) ∧ x = (-3, M)) ∨ (g (1 + 6 * m) ≠ ii z ∧ ¬ mvB g m (ii z) ∧ x = (g (1 + 6 * m), fm_si M 3 m (ii z)))) := by
      intro t ht
      unfold pScene_move_J92
      rcases hs with ⟨rfl, hlo⟩ | ⟨rfl, hlo⟩
      · refine ok_pos rfl ?_
        rcases ht with ⟨rfl, hhi⟩ | ⟨rfl, hhi⟩
        · refine ok_pos rfl (ok_st (by omega) nL (ok_some (Or.inr (Or.inr ⟨e, ?_, rfl⟩))))
          rintro (y | y)
          · exact hlo y
          · exact hhi y
        · exact ok_neg (by decide) (ok_some (Or.inr (Or.inl ⟨e, Or.inr hhi, rfl⟩)))
      · exact ok_neg (by decide) (ok_some (Or.inr (Or.inl ⟨e, Or.inl hlo, rfl⟩)))
    unfold pScene_move_J66 pScene_move_J91
    rw [hr.n, en, nn_succ]
    by_cases c : m + 1 < gn g
    · refine ok_neg (by rw [nn_le nB nB]; omega) (ok_ld (by omega) nL ?_)
      rw [show M.1 3 (m + 1) = g (1 + 6 * (m + 1)) from hr.mic 0 c (by decide)]
      refine ok_ite (fun y => hJ92 0 (Or.inl ⟨rfl, fun w => Int32.not_le.mpr y w.2⟩)) (fun y => hJ92 1 (Or.inr ⟨rfl, c, Int32.not_lt.mp y⟩))
    · exact ok_pos (by rw [nn_le nB nB]; omega) (hJ92 0 (Or.inl ⟨rfl, fun w => c w.1⟩))
  by_cases m0 : m = 0
  · subst m0
    exact ok_pos (by decide) (hJ66 0 (Or.inl ⟨rfl, fun w => by omega⟩))
  · refine ok_neg (by rw [show (0 : Int32) = nn 0 from rfl, nn_le nB nB]; omega) ?_
    rw [show nn m - 1 = nn (m - 1) from nn_sub (i := m) (j := 1) (by omega)]
    refine ok_ld (by omega) nL ?_
    rw [show M.1 3 (m - 1) = g (1 + 6 * (m - 1)) from hr.mic 0 (by omega) (by decide)]
    refine ok_ite (fun y => hJ66 0 (Or.inl ⟨rfl, fun w => Int32.not_le.mpr y w.2⟩)) (fun y => hJ66 1 (Or.inr ⟨rfl, by omega, Int32.not_lt.mp y⟩))
theorem cs_moveNo {M : fm_M} {g : Nat → Int32} {v1 v2 : Int32} (hg : gV g) (hr : rS M 1 g) (hv : ¬ ((∃ m, m < gn g ∧ v1 = nn m) ∧ ∃ z : Int, v2 = ii z ∧ 0 ≤ z ∧ z ≤ 40)) : pScene_move M v1 v2 = some (-1, M) := by
  unfold pScene_move
  rcases mic_or hg hr v1 with ⟨m, hm1, rfl⟩ | ⟨c1, c2⟩
  · refine (bindE (cs_hasMic hg hr hm1)).trans ?_
    rw [if_neg (by decide)]
    rcases rng v2 0 40 (by decide) with ⟨b, rfl, b1, b2⟩ | c
    · exact absurd ⟨⟨m, hm1, rfl⟩, b, rfl, b1, b2⟩ hv
    · refine (bindE (wi_neg c)).trans ?_
      rw [if_pos rfl]
  · refine (bindE c1).trans ?_
    rw [if_pos rfl]
theorem x_moves {N : Nat} (hN : 4000 ≤ N) : cp_moves N RR := by
  intro n M1 M2 v1 v2 hn hR
  obtain ⟨q, l, hg, hr, hS, hq, tC, tM, hl, hm⟩ := hR.opn hn
  obtain ⟨c, u, p1, p2⟩ := hR.past
  have e1 : (fm_si M2 0 5 0).1 1 = M2.1 1 := si_row (by decide)
  obtain ⟨en, hn6⟩ := hg.n
  by_cases hv : (∃ m, m < gn (M2.1 1) ∧ v1 = nn m) ∧ ∃ z : Int, v2 = ii z ∧ 0 ≤ z ∧ z ≤ 40
  · obtain ⟨⟨m, hm1, rfl⟩, z, rfl, z1, z2⟩ := hv
    have hpre : ∀ {Q : Int32 × fm_M → Prop} {K : Option (Int32 × fm_M)}, ok (if M2.1 1 (1 + 6 * m) = ii z then some ((-2), fm_si M2 0 5 0) else if nn m ≤ 0 then pModel_moves_J59 N (fm_si M2 0 5 0) (nn m) (ii z) (M2.1 1 (1 + 6 * m)) else (pModel_of (fm_si M2 0 5 0) (nn m - 1) 0).bind (fun x53 => if ii z ≤ x53 then some ((-3), fm_si M2 0 5 0) else pModel_moves_J59 N (fm_si M2 0 5 0) (nn m) (ii z) (M2.1 1 (1 + 6 * m)))) Q → ok (pModel_moves N M2 (nn m) (ii z)) Q := by
      intro Q K h
      unfold pModel_moves
      refine ok_pt (ok_bindE (md_isMic (by rw [e1]; exact hg) (by rw [e1]; exact hm1)) (ok_neg (by decide) (ok_bindE (in_pos (rng_in ⟨z1, z2⟩ (by decide))) (ok_neg (by decide) (ok_bindE (md_of 0 (by omega) (by decide)) ?_)))))
      rw [e1]
      exact h
    have hbad : mvB (M2.1 1) m (ii z) → M2.1 1 (1 + 6 * m) ≠ ii z → ok (pModel_moves N M2 (nn m) (ii z)) (fun x => x.1 = -3 ∧ mq M2 x.2 ∧ x.2.1 0 4 = M2.1 0 4 ∧ x.2.2.1 3 = M2.2.1 3) := by
      intro hb e
      refine hpre (K := none) (ok_neg e ?_)
      have hhi : (m + 1 < gn (M2.1 1) ∧ M2.1 1 (1 + 6 * (m + 1)) ≤ ii z) → ok (pModel_moves_J59 N (fm_si M2 0 5 0) (nn m) (ii z) (M2.1 1 (1 + 6 * m))) (fun x => x.1 = -3 ∧ mq M2 x.2 ∧ x.2.1 0 4 = M2.1 0 4 ∧ x.2.2.1 3 = M2.2.1 3) := by
        rintro ⟨y1, y2⟩
        unfold pModel_moves_J59
        rw [e1, en, nn_succ]
        refine ok_neg (by rw [nn_le nB nB]; omega) (ok_bindE (md_of 0 (by omega) (by decide)) ?_)
        rw [e1]
        exact ok_neg (Int32.not_lt.mpr y2) (ok_some ⟨rfl, md_no⟩)
      rcases hb with ⟨y1, y2⟩ | hb
      · refine ok_neg (by rw [show (0 : Int32) = nn 0 from rfl, nn_le nB nB]; omega) ?_
        rw [show nn m - 1 = nn (m - 1) from nn_sub (i := m) (j := 1) (by omega)]
        refine ok_bindE (md_of 0 (by omega) (by decide)) ?_
        rw [e1]
        exact ok_pos y2 (ok_some ⟨rfl, md_no⟩)
      · by_cases m0 : m = 0
        · exact ok_pos (by rw [m0]; decide) (hhi hb)
        · refine ok_neg (by rw [show (0 : Int32) = nn 0 from rfl, nn_le nB nB]; omega) ?_
          rw [show nn m - 1 = nn (m - 1) from nn_sub (i := m) (j := 1) (by omega)]
          refine ok_bindE (md_of 0 (by omega) (by decide)) ?_
          refine ok_ite (fun _ => ok_some ⟨rfl, md_no⟩) (fun _ => hhi hb)
    by_cases e : M2.1 1 (1 + 6 * m) = ii z
    · refine fin_no hR hq (-2) ?_ ?_
      · refine cs_no1 (op := fun M8 => pScene_move M8 (nn m) (ii z)) hN hg hr hS (by decide) (fun M8 r1 => ok_mono (cs_move hg r1 hm1 ⟨z1, z2⟩) ?_)
        rintro x (⟨y1, rfl⟩ | ⟨y1, _⟩ | ⟨y1, _⟩)
        · exact ⟨rfl, fr.rf⟩
        · exact absurd e y1
        · exact absurd e y1
      · exact hpre (K := none) (ok_pos e (ok_some ⟨rfl, md_no⟩))
    · by_cases hb : mvB (M2.1 1) m (ii z)
      · refine fin_no hR hq (-3) ?_ (hbad hb e)
        refine cs_no1 (op := fun M8 => pScene_move M8 (nn m) (ii z)) hN hg hr hS (by decide) (fun M8 r1 => ok_mono (cs_move hg r1 hm1 ⟨z1, z2⟩) ?_)
        rintro x (⟨y1, rfl⟩ | ⟨y1, _, rfl⟩ | ⟨y1, y2, _⟩)
        · exact absurd y1 e
        · exact ⟨rfl, fr.rf⟩
        · exact absurd hb y2
      · have hbdz : bd (ii z) (mlo 0) (mhi 0) := by unfold bd; rw [ii_toInt (by omega)]; exact ⟨z1, z2⟩
        have hge := bd_ge (hg.mic hm1).1 (by decide)
        refine fin_yes (m := c) (u := u) (g' := upd (M2.1 1) (1 + 6 * m + 0) (ii z)) hR hq (gV_put hg hm1 (by decide) hbdz) (M2.1 1 (1 + 6 * m)) ?_ ?_
        · refine cs_yes1 (op := fun M8 => pScene_move M8 (nn m) (ii z)) hN hg hr hS (gV_put hg hm1 (by decide) hbdz) p1 hge (fun M8 r1 => ok_mono (cs_move hg r1 hm1 ⟨z1, z2⟩) ?_)
          rintro x (⟨y1, rfl⟩ | ⟨y1, y2, rfl⟩ | ⟨y1, y2, rfl⟩)
          · exact absurd y1 e
          · exact absurd y2 hb
          · exact ⟨rfl, fr.si (by decide), rS_put (q := 0) hg r1 hm1 (by decide)⟩
        · have hdo : ok (pModel_moves_J86 N (fm_si M2 0 5 0) (nn m) (ii z) (M2.1 1 (1 + 6 * m))) (fun x => x.1 = M2.1 1 (1 + 6 * m) ∧ (∀ k, k = 2 ∨ k = 17 ∨ k = 18 → x.2.1 k = M2.1 k) ∧ (∀ j, j = 2 ∨ j = 4 ∨ j = 11 ∨ j = 12 ∨ j = 13 → x.2.1 0 j = M2.1 0 j) ∧ x.2.2.1 3 = M2.2.1 3 ∧ (∀ k, k < 101 → x.2.1 1 k = upd (M2.1 1) (1 + 6 * m + 0) (ii z) k) ∧ pM x.2 (nx c) (ux c u (M2.1 1))) := by
            unfold pModel_moves_J86
            refine ok_bind (ch_model hN p1.1 p2) ?_
            rintro M3 ⟨a1, a2, a3, a4, a5⟩
            rw [show ((1 + (6 * nn m)) + 0 : Int32) = nn (1 + 6 * m + 0) from ix_of m 0]
            refine ok_st (by omega) nL (ok_some ⟨rfl, fun k hk => (si_row (by omega)).trans (a2 k hk), fun j hj => (congrFun (si_row (by decide)) j).trans (a3 j (by omega) (by omega)), a4, fun k hk => ?_, ?_⟩)
            · try dsimp only
              rw [si_one, a1]
            · exact ⟨by rw [si_row (by decide)]; exact a5.1, by rw [si_row (by decide)]; exact a5.2⟩
          have hJ59 : ok (pModel_moves_J59 N (fm_si M2 0 5 0) (nn m) (ii z) (M2.1 1 (1 + 6 * m))) (fun x => x.1 = M2.1 1 (1 + 6 * m) ∧ (∀ k, k = 2 ∨ k = 17 ∨ k = 18 → x.2.1 k = M2.1 k) ∧ (∀ j, j = 2 ∨ j = 4 ∨ j = 11 ∨ j = 12 ∨ j = 13 → x.2.1 0 j = M2.1 0 j) ∧ x.2.2.1 3 = M2.2.1 3 ∧ (∀ k, k < 101 → x.2.1 1 k = upd (M2.1 1) (1 + 6 * m + 0) (ii z) k) ∧ pM x.2 (nx c) (ux c u (M2.1 1))) := by
            unfold pModel_moves_J59
            rw [e1, en, nn_succ]
            by_cases y1 : m + 1 < gn (M2.1 1)
            · refine ok_neg (by rw [nn_le nB nB]; omega) (ok_bindE (md_of 0 (by omega) (by decide)) ?_)
              rw [e1]
              exact ok_pos (Int32.not_le.mp (fun y2 => hb (Or.inr ⟨y1, y2⟩))) hdo
            · exact ok_pos (by rw [nn_le nB nB]; omega) hdo
          refine hpre (K := none) (ok_neg e ?_)
          by_cases m0 : m = 0
          · exact ok_pos (by rw [m0]; decide) hJ59
          · refine ok_neg (by rw [show (0 : Int32) = nn 0 from rfl, nn_le nB nB]; omega) ?_
            rw [show nn m - 1 = nn (m - 1) from nn_sub (i := m) (j := 1) (by omega)]
            refine ok_bindE (md_of 0 (by omega) (by decide)) ?_
            rw [e1]
            exact ok_neg (fun y => hb (Or.inl ⟨by omega, y⟩)) hJ59
  · refine fin_no hR hq (-1) ?_ ?_
    · exact cs_no1 (op := fun M8 => pScene_move M8 v1 v2) hN hg hr hS (by decide) (fun M8 r1 => okE (cs_moveNo hg r1 hv) ⟨rfl, fr.rf⟩)
    · unfold pModel_moves
      rcases mic_or hg hr v1 with ⟨m, hm1, rfl⟩ | ⟨c1, c2⟩
      · rcases rng v2 0 40 (by decide) with ⟨b, rfl, b1, b2⟩ | c
        · exact absurd ⟨⟨m, hm1, rfl⟩, b, rfl, b1, b2⟩ hv
        · exact ok_pt (ok_bindE (md_isMic (by rw [e1]; exact hg) (by rw [e1]; exact hm1)) (ok_neg (by decide) (ok_bindE (in_neg c) (ok_pos rfl (ok_some ⟨rfl, md_no⟩)))))
      · exact ok_pt (ok_bindE (c2 _ e1) (ok_pos rfl (ok_some ⟨rfl, md_no⟩)))
/-! aims -/
theorem st_alim : ∀ q : Fin 2, ([(-8), 1] : List Int32).getD q 0 = ii (if q.val = 0 then -8 else 1) ∧ ([8, 9] : List Int32).getD q 0 = ii (if q.val = 0 then 8 else 9) := by decide +kernel
theorem cs_aim {M : fm_M} {g : Nat → Int32} {s q : Nat} {v : Int32} (hg : gV g) (hr : rS M 1 g) (hs : s < gs g) (hq : q < 2) (hv : if q = 0 then bd v (-8) 8 else bd v 1 9) : pScene_aim M (nn s) (nn q) v = some (if g (41 + 15 * s + q) = v then (-2, M) else (if q = 0 then g (41 + 15 * s + q) + 8 else g (41 + 15 * s + q), fm_si M (10 + s) q v)) := by
  have hs4 := hg.s.2
  obtain ⟨l1, l2⟩ := st_alim ⟨q, hq⟩
  try dsimp only at l1 l2
  have hst : 2 ≤ gst g s := by
    obtain ⟨b1, b2, b3⟩ := bd_nn (hg.src hs).2.2.1 (by decide)
    unfold gst
    omega
  unfold pScene_aim
  refine (bindE (cs_hasSource hg hr hs)).trans ?_
  rw [if_neg (by decide)]
  refine (bindE (wi_pos ⟨by rw [show (0 : Int32) = nn 0 from rfl, nn_le nB nB]; omega, by rw [show (1 : Int32) = nn 1 from rfl, nn_le nB nB]; omega⟩)).trans ?_
  rw [if_neg (by decide), ixE hq nL, ixE hq nL, l1, l2]
  have hw : pMicRow_within M v (ii (if q = 0 then -8 else 1)) (ii (if q = 0 then 8 else 9)) = some 1 := by
    by_cases q0 : q = 0
    · rw [if_pos q0] at hv
      rw [if_pos q0, if_pos q0]
      obtain ⟨z, rfl, z1, z2⟩ := bd_ii hv
      exact wi_pos (rng_in ⟨z1, z2⟩ (by omega))
    · rw [if_neg q0] at hv
      rw [if_neg q0, if_neg q0]
      obtain ⟨z, rfl, z1, z2⟩ := bd_ii hv
      exact wi_pos (rng_in ⟨z1, z2⟩ (by omega))
  refine (bindE hw).trans ?_
  rw [if_neg (by decide), ixE (by omega) nL, ldE (by omega) nL, hr.src hs (by omega)]
  by_cases e : g (41 + 15 * s + q) = v
  · rw [if_pos e, if_pos e]
  · rw [if_neg e, if_neg e, ixE (by omega) nL, stE (by omega) nL]
    by_cases q0 : q = 0
    · rw [if_pos q0, if_pos (by rw [q0]; rfl)]
    · rw [if_neg q0, if_neg (by rw [show (0 : Int32) = nn 0 from rfl, nn_inj nB nB]; exact q0)]
def amV (g : Nat → Int32) (v1 v2 v3 : Int32) : Prop := ∃ s q, s < gs g ∧ q < 2 ∧ v1 = nn s ∧ v2 = nn q ∧ (if q = 0 then bd v3 (-8) 8 else bd v3 1 9)
theorem cs_aimNo {M : fm_M} {g : Nat → Int32} {v1 v2 v3 : Int32} (hg : gV g) (hr : rS M 1 g) (hv : ¬ amV g v1 v2 v3) : pScene_aim M v1 v2 v3 = some (-1, M) := by
  unfold pScene_aim
  rcases src_or hg hr v1 with ⟨s, hs1, rfl⟩ | ⟨c1, c2⟩
  · refine (bindE (cs_hasSource hg hr hs1)).trans ?_
    rw [if_neg (by decide)]
    rcases rng v2 0 1 (by decide) with ⟨b', rfl, b1, b2⟩ | c
    · obtain ⟨q, rfl⟩ : ∃ t : Nat, b' = (t : Int) := ⟨b'.toNat, by omega⟩
      have hq : q < 2 := by omega
      obtain ⟨l1, l2⟩ := st_alim ⟨q, hq⟩
      try dsimp only at l1 l2
      refine (bindE (wi_pos (rng_in ⟨b1, b2⟩ (by decide)))).trans ?_
      rw [if_neg (by decide), ← nn_ii, ixE hq nL, ixE hq nL, l1, l2]
      rcases rng v3 (if q = 0 then -8 else 1) (if q = 0 then 8 else 9) (by split <;> omega) with ⟨b, rfl, c1, c2⟩ | c
      · refine absurd ⟨s, q, hs1, hq, rfl, (nn_ii q).symm, ?_⟩ hv
        by_cases q0 : q = 0
        · rw [if_pos q0] at c1 c2 ⊢
          unfold bd; rw [ii_toInt (by omega)]; exact ⟨c1, c2⟩
        · rw [if_neg q0] at c1 c2 ⊢
          unfold bd; rw [ii_toInt (by omega)]; exact ⟨c1, c2⟩
      · refine (bindE (wi_neg c)).trans ?_
        rw [if_pos rfl]
    · refine (bindE (wi_neg c)).trans ?_
      rw [if_pos rfl]
  · refine (bindE c1).trans ?_
    rw [if_pos rfl]
theorem md_refAim {M : fm_M} {s q : Nat} {v : Int32} (hg : gV (M.1 1)) (hs : s < gs (M.1 1)) (hq : q < 2) (hv : if q = 0 then bd v (-8) 8 else bd v 1 9) : pModel_refusesAim M (nn s) (nn q) v = some (if M.1 1 (41 + 15 * s + q) = v then -2 else 0) := by
  have hs4 := hg.s.2
  have hJ : pModel_refusesAim_J52 M (nn s) (nn q) v = some (if M.1 1 (41 + 15 * s + q) = v then -2 else 0) := by
    unfold pModel_refusesAim_J52
    refine (bindE (md_src q (by omega) (by omega))).trans ?_
    split <;> rfl
  unfold pModel_refusesAim
  refine (bindE (md_isSrc hg hs)).trans ?_
  rw [if_neg (by decide)]
  refine (bindE (in_pos ⟨by rw [show (0 : Int32) = nn 0 from rfl, nn_le nB nB]; omega, by rw [show (1 : Int32) = nn 1 from rfl, nn_le nB nB]; omega⟩)).trans ?_
  rw [if_neg (by decide)]
  by_cases q0 : q = 0
  · rw [if_pos q0] at hv
    obtain ⟨z, rfl, z1, z2⟩ := bd_ii hv
    rw [if_pos (by rw [q0]; rfl)]
    refine (bindE (md_isSide ⟨z1, z2⟩)).trans ?_
    rw [if_neg (by decide)]
    exact hJ
  · rw [if_neg q0] at hv
    obtain ⟨z, rfl, z1, z2⟩ := bd_ii hv
    rw [if_neg (by rw [show (0 : Int32) = nn 0 from rfl, nn_inj nB nB]; exact q0)]
    refine (bindE (in_pos (rng_in ⟨z1, z2⟩ (by omega)))).trans ?_
    rw [if_neg (by decide)]
    exact hJ
theorem md_refAimNo {M M1 : fm_M} {v1 v2 v3 : Int32} (hg : gV (M.1 1)) (hr : rS M1 1 (M.1 1)) (hv : ¬ amV (M.1 1) v1 v2 v3) : pModel_refusesAim M v1 v2 v3 = some (-1) := by
  unfold pModel_refusesAim
  rcases src_or hg hr v1 with ⟨s, hs1, rfl⟩ | ⟨c1, c2⟩
  · refine (bindE (md_isSrc hg hs1)).trans ?_
    rw [if_neg (by decide)]
    rcases rng v2 0 1 (by decide) with ⟨b', rfl, b1, b2⟩ | c
    · obtain ⟨q, rfl⟩ : ∃ t : Nat, b' = (t : Int) := ⟨b'.toNat, by omega⟩
      have hq : q < 2 := by omega
      refine (bindE (in_pos (rng_in ⟨b1, b2⟩ (by decide)))).trans ?_
      rw [if_neg (by decide), ← nn_ii]
      by_cases q0 : q = 0
      · subst q0
        rw [if_pos (show nn 0 = 0 from rfl)]
        rcases rng v3 (-8) 8 (by decide) with ⟨b, rfl, c1, c2⟩ | c
        · exact absurd ⟨s, 0, hs1, by decide, rfl, (nn_ii 0).symm, by rw [if_pos rfl]; unfold bd; rw [ii_toInt (by omega)]; exact ⟨c1, c2⟩⟩ hv
        · refine (bindE (md_noSide c)).trans ?_
          rw [if_pos rfl]
      · rw [if_neg (by rw [show (0 : Int32) = nn 0 from rfl, nn_inj nB nB]; exact q0)]
        rcases rng v3 1 9 (by decide) with ⟨b, rfl, c1, c2⟩ | c
        · exact absurd ⟨s, q, hs1, hq, rfl, (nn_ii q).symm, by rw [if_neg q0]; unfold bd; rw [ii_toInt (by omega)]; exact ⟨c1, c2⟩⟩ hv
        · refine (bindE (in_neg c)).trans ?_
          rw [if_pos rfl]
    · refine (bindE (in_neg c)).trans ?_
      rw [if_pos rfl]
  · refine (bindE (c2 _)).trans ?_
    rw [if_pos rfl]
theorem x_aims {N : Nat} (hN : 4000 ≤ N) : cp_aims N RR := by
  intro n M1 M2 v1 v2 v3 hn hR
  obtain ⟨q, l, hg, hr, hS, hq, tC, tM, hl, hm⟩ := hR.opn hn
  obtain ⟨c, u, p1, p2⟩ := hR.past
  have e1 : (fm_si M2 0 5 0).1 1 = M2.1 1 := si_row (by decide)
  have hs4 := hg.s.2
  by_cases hv : amV (M2.1 1) v1 v2 v3
  · obtain ⟨s, w, hs1, hw, rfl, rfl, hv⟩ := hv
    have href := md_refAim (M := fm_si M2 0 5 0) (by rw [e1]; exact hg) (by rw [e1]; exact hs1) hw hv
    rw [e1] at href
    by_cases e : M2.1 1 (41 + 15 * s + w) = v3
    · rw [if_pos e] at href
      refine fin_no hR hq (-2) ?_ ?_
      · exact cs_no1 (op := fun M8 => pScene_aim M8 (nn s) (nn w) v3) hN hg hr hS (by decide) (fun M8 r1 => okE (cs_aim hg r1 hs1 hw hv) (by rw [if_pos e]; exact ⟨rfl, fr.rf⟩))
      · unfold pModel_aims
        exact ok_pt (ok_bindE href (ok_neg (by decide) (ok_some ⟨rfl, md_no⟩)))
    · rw [if_neg e] at href
      have hge : 0 ≤ (if w = 0 then M2.1 1 (41 + 15 * s + w) + 8 else M2.1 1 (41 + 15 * s + w)) := by
        by_cases w0 : w = 0
        · subst w0
          rw [if_pos rfl]
          obtain ⟨z, ez, z1, z2⟩ := bd_ii (hg.src hs1).1
          rw [show M2.1 1 (41 + 15 * s + 0) = ii z from ez, show (8 : Int32) = ii 8 from rfl, ii_add, show (0 : Int32) = ii 0 from rfl, ii_le (by omega)]
          omega
        · rw [if_neg w0, show 41 + 15 * s + w = 42 + 15 * s by omega]
          exact bd_ge (hg.src hs1).2.1 (by decide)
      refine fin_yes (m := c) (u := u) (g' := upd (M2.1 1) (41 + 15 * s + w) v3) hR hq (gV_aim hg hw hv) (if w = 0 then M2.1 1 (41 + 15 * s + w) + 8 else M2.1 1 (41 + 15 * s + w)) ?_ ?_
      · refine cs_yes1 (op := fun M8 => pScene_aim M8 (nn s) (nn w) v3) hN hg hr hS (gV_aim hg hw hv) p1 hge (fun M8 r1 => okE (cs_aim hg r1 hs1 hw hv) ?_)
        rw [if_neg e]
        exact ⟨rfl, fr.si (by (try dsimp only); omega), rS_aim hg r1 hs1 hw⟩
      · unfold pModel_aims
        refine ok_pt (ok_bindE href (ok_pos (by decide) (ok_bind (ch_model hN p1.1 p2) ?_)))
        rintro M3 ⟨a1, a2, a3, a4, a5⟩
        refine ok_bindE (md_src w (by omega) (by omega)) ?_
        rw [a1, ix_src]
        refine ok_st (by omega) nL ?_
        have hfin : ∀ r : Int32, r = (if w = 0 then M2.1 1 (41 + 15 * s + w) + 8 else M2.1 1 (41 + 15 * s + w)) → ok (some (r, fm_si M3 1 (41 + 15 * s + w) v3)) (fun x => x.1 = (if w = 0 then M2.1 1 (41 + 15 * s + w) + 8 else M2.1 1 (41 + 15 * s + w)) ∧ (∀ k, k = 2 ∨ k = 17 ∨ k = 18 → x.2.1 k = M2.1 k) ∧ (∀ j, j = 2 ∨ j = 4 ∨ j = 11 ∨ j = 12 ∨ j = 13 → x.2.1 0 j = M2.1 0 j) ∧ x.2.2.1 3 = M2.2.1 3 ∧ (∀ k, k < 101 → x.2.1 1 k = upd (M2.1 1) (41 + 15 * s + w) v3 k) ∧ pM x.2 (nx c) (ux c u (M2.1 1))) := by
          intro r hrr
          refine ok_some ⟨hrr, fun k hk => (si_row (by omega)).trans (a2 k hk), fun j hj => (congrFun (si_row (by decide)) j).trans (a3 j (by omega) (by omega)), a4, fun k hk => ?_, ?_⟩
          · try dsimp only
            rw [si_one, a1]
          · exact ⟨by rw [si_row (by decide)]; exact a5.1, by rw [si_row (by decide)]; exact a5.2⟩
        by_cases w0 : w = 0
        · exact ok_pos (by rw [w0]; rfl) (hfin _ (by rw [if_pos w0, Int32.add_comm]))
        · exact ok_neg (by rw [show (0 : Int32) = nn 0 from rfl, nn_inj nB nB]; exact w0) (hfin _ (by rw [if_neg w0]))
  · refine fin_no hR hq (-1) ?_ ?_
    · exact cs_no1 (op := fun M8 => pScene_aim M8 v1 v2 v3) hN hg hr hS (by decide) (fun M8 r1 => okE (cs_aimNo hg r1 hv) ⟨rfl, fr.rf⟩)
    · unfold pModel_aims
      exact ok_pt (ok_bindE (md_refAimNo (M1 := M1) (by rw [e1]; exact hg) (by rw [e1]; exact hr) (by rw [e1]; exact hv)) (ok_neg (by decide) (ok_some ⟨rfl, md_no⟩)))
