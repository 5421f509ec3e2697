/-! ===== day: both loops at once, and the call ===== -/
def dEnd (Mc Md : fm_M) (g0 : Nat → Int32) (q m : Nat) (u : Nat → Nat → Int32) (c d : Option (Int32 × fm_M)) : Prop := ∃ (r : Int32) (M1' M2' : fm_M) (l : List Int64) (q' n : Nat) (v : Nat → Nat → Int32), c = some (r, M1') ∧ d = some (r, M2') ∧ (∀ k, 30 ≤ k ∧ k < 59 → M1'.1 k = Mc.1 k) ∧ gV (M2'.1 1) ∧ rS M1' 1 (M2'.1 1) ∧ M1'.1 173 1 = 0 ∧ tdC M1' l ∧ tdM M2' l ∧ l.length ≤ 17 ∧ eS M1' q' ∧ q' ≤ q + 90 ∧ pC M1' n v ∧ pM M2' n v ∧ (∀ k, k = 17 ∨ k = 18 → M2'.1 k = Md.1 k) ∧ ∀ j, j ≠ 4 → j ≠ 25 → M2'.1 0 j = Md.1 0 j
theorem day_loop {N : Nat} {Mc Md : fm_M} {k : Nat} {c : Nat → Nat} {J q m : Nat} {u : Nat → Nat → Int32} {g0 : Nat → Int32} {l : List Int64} (hN : 4000 ≤ N) (hl : lC Mc k c) (hJ : J ≤ k) (hO : dO k c J) (hfull : k ≤ pl k c J) (hg0 : gV g0) (h15 : rS Mc 15 g0) (hp : pC Mc m u) (hq : q < 800000000) (hrec : ∀ j, j < J → arec k c (pl k c j) (3 * j) Md) (hmod : rMod Md) (ht : tdM Md l) (h14 : ∀ k, k < 101 → Md.1 14 k = g0 k) (hpm : pM Md m u) : ∀ (r F1 F2 j : Nat) (Ma Mb : fm_M) (qj : Nat), j + r = J → r + 1 < F1 → r < F2 → fr opR Mc Ma → fr glR Md Mb → gV (Mb.1 1) → rS Ma 1 (Mb.1 1) → eS Ma qj → qj ≤ q + j → dEnd Mc Md g0 q m u (fm_lp (pMicRow_day_L44 N) F1 (nn j, 0, nn (pl k c j), Ma)) (fm_lp (pModel_day_L62 N (nn J)) F2 (nn j, Mb)) := by
  have hk80 := hl.1
  -- the end, from either kind of state
  have fin : ∀ (j : Nat) (v3 : Int32) (w : Int64) (Ma Mb : fm_M) (qj : Nat), j ≤ J → ((J ≤ j ∧ v3 = 0 ∧ w = 0) ∨ (¬ J ≤ j ∧ v3 ≠ 0 ∧ w = 1)) → fr opR Mc Ma → fr glR Md Mb → gV (Mb.1 1) → rS Ma 1 (Mb.1 1) → eS Ma qj → qj ≤ q + j + 1 → dEnd Mc Md g0 q m u (pMicRow_day_J112 N Ma (nn j) v3) (pModel_day_J83 N Mb (nn J) (nn j)) := by
    intro j v3 w Ma Mb qj hj hw fA fB gv rs es hqj
    have lA : lC Ma k c := hl.kf fA (by unfold opR; omega) (by unfold opR; omega)
    obtain ⟨⟨r1, M1'⟩, e1, a1, a2, a3, a4, a5, a6, a7⟩ := cs_dayEnd (g0 := g0) (m := m) (u := u) (j := j) (v3 := v3) (w := w) hN gv rs lA hg0 (h15.kept (fun a z1 z2 => fA.1 a (by unfold opR; omega)) hg0) (hp.kf fA (fun k z1 z2 => by unfold opR; omega)) es (by omega) (by
      rcases hw with ⟨_, y1, y2⟩ | ⟨_, y1, y2⟩
      · exact Or.inl ⟨y1, y2⟩
      · exact Or.inr ⟨y1, y2⟩)
    obtain ⟨⟨r2, M2'⟩, e2, b1, b2, b3, b4, b5⟩ := md_dayEnd (g0 := g0) (m := m) (u := u) (j := j) (J := J) (w := w) hN gv (fun k' hk' => by rw [fB.1 14 (by unfold glR; omega)]; exact h14 k' hk') hp.1 (hpm.kf fB (by rw [fB.1 0 (by unfold glR; omega)]) (by unfold glR; omega)) (by omega) (by omega) (by
      rcases hw with ⟨y0, y1, y2⟩ | ⟨y0, y1, y2⟩
      · exact Or.inl ⟨y0, y2⟩
      · exact Or.inr ⟨y0, y2⟩)
    try dsimp only at a1 a2 a3 a4 a5 a6 a7 b1 b2 b3 b4 b5
    subst a1
    subst b1
    refine ⟨_, M1', M2', _, qj, _, _, e1, e2, fun k' hk' => ?_, ?_, ?_, a4, a5, b4, by simp, a6, by omega, a7, b5, fun k' hk' => ?_, fun j' z1 z2 => ?_⟩
    · rw [a2 k' hk', fA.1 k' (by unfold opR; omega)]
    · rw [b2 1 (by omega)]; exact gv
    · rw [b2 1 (by omega)]; exact a3
    · rw [b2 k' (by omega), fB.1 k' (by unfold glR; omega)]
    · rw [b3 j' z1 z2, fB.1 0 (by unfold glR; omega)]
  intro r
  induction r with
  | zero =>
    intro F1 F2 j Ma Mb qj hj hF1 hF2 fA fB gv rs es hqj
    obtain ⟨F1, rfl⟩ : ∃ F, F1 = F + 1 := ⟨F1 - 1, by omega⟩
    obtain ⟨F2, rfl⟩ : ∃ F, F2 = F + 1 := ⟨F2 - 1, by omega⟩
    have ej : j = J := by omega
    subst ej
    rw [lpS, lpS]
    unfold pMicRow_day_L44 pMicRow_day_L44b pModel_day_L62 pModel_day_L62b
    try dsimp only
    have lA : lC Ma k c := hl.kf fA (by unfold opR; omega) (by unfold opR; omega)
    have hple := pl_le hO j (Nat.le_refl _)
    rw [lA.2.1, if_pos (show nn k ≤ nn (pl k c j) by rw [nn_le nB nB]; exact hfull), if_pos (show nn j ≤ nn j by rw [nn_le nB nB]; exact Nat.le_refl _)]
    exact fin j 0 0 Ma Mb qj (Nat.le_refl _) (Or.inl ⟨Nat.le_refl _, rfl, rfl⟩) fA fB gv rs es (by omega)
  | succ r ih =>
    intro F1 F2 j Ma Mb qj hj hF1 hF2 fA fB gv rs es hqj
    obtain ⟨F1, rfl⟩ : ∃ F, F1 = F + 1 := ⟨F1 - 1, by omega⟩
    obtain ⟨F2, rfl⟩ : ∃ F, F2 = F + 1 := ⟨F2 - 1, by omega⟩
    have hjJ : j < J := by omega
    obtain ⟨o1, o2⟩ := hO.1 j hjJ
    obtain ⟨o3, o4⟩ := aE_none o2
    have lA : lC Ma k c := hl.kf fA (by unfold opR; omega) (by unfold opR; omega)
    have modB : rMod Mb := by
      unfold rMod
      rw [fB.1 0 (by unfold glR; omega)]
      exact hmod
    obtain ⟨x1, M1', x2, M2', e1, e2, hx, gv', rs', f1, f2, q', es', hq'⟩ := act_cpl (l := l) hN lA (i := pl k c j) (j := j) (by omega) gv rs es (by omega) modB (ht.z fB (by rw [fB.1 0 (by unfold glR; omega)]) (by unfold glR; omega)) ⟨_, o3⟩ ((hrec j hjJ).kp (fun a _ _ => by rw [fB.1 4 (by unfold glR; omega)])) (by omega)
    have fA' : fr opR Mc M1' := fA.tr f1
    have fB' : fr glR Md M2' := fB.tr f2
    have lA' : lC M1' k c := hl.kf fA' (by unfold opR; omega) (by unfold opR; omega)
    have hst : (sf (shI (bb k c (pl k c j)))).length ≤ 4 := (st_forms ⟨_, shI_le (bb k c (pl k c j))⟩).1
    have hnx : pl k c j + 1 + (sf (shI (bb k c (pl k c j)))).length = pl k c (j + 1) := rfl
    have hple := pl_le hO (j + 1) (by omega)
    -- the class: where the next act begins
    have j85 : ∀ (v3 s0 s1 : Int32) (kk : Int32 × Int32 × Int32 × fm_M → Option (Int32 × fm_M)), pMicRow_day_J85 N M1' v3 (nn (pl k c j)) kk s0 s1 = kk (s0 + s1, v3, nn (pl k c (j + 1)), M1') := by
      intro v3 s0 s1 kk
      unfold pMicRow_day_J85
      rw [cs_lat lA' (by omega)]
      show (pReader_shapeOf M1' (ii (bb k c (pl k c j)))).bind _ = _
      rw [cs_shape (lA'.b _)]
      show (pString_length M1' (shI (bb k c (pl k c j)))).bind _ = _
      rw [cs_len (shI_le _)]
      show kk (s0 + s1, v3, nn (pl k c j) + (1 + nn (sf (shI (bb k c (pl k c j)))).length), M1') = _
      rw [show (1 : Int32) = nn 1 from rfl, nn_add, nn_add, show pl k c j + (1 + (sf (shI (bb k c (pl k c j)))).length) = pl k c (j + 1) by rw [← hnx]; omega]
    rw [lpS (n := F1), lpS (n := F2)]
    have hL1 : pMicRow_day_L44 N (fm_lp (pMicRow_day_L44 N) F1) (nn j, 0, nn (pl k c j), Ma) = if 0 ≤ x1 then pMicRow_day_J74 N M1' (nn j) (nn (pl k c j)) (fm_lp (pMicRow_day_L44 N) F1) 0 else pMicRow_day_J74 N M1' (nn j) (nn (pl k c j)) (fm_lp (pMicRow_day_L44 N) F1) 1 := by
      unfold pMicRow_day_L44 pMicRow_day_L44b
      try dsimp only
      rw [lA.2.1, if_neg (show ¬ nn k ≤ nn (pl k c j) by rw [nn_le nB nB]; omega), if_pos rfl, e1]
      rfl
    have hL2 : pModel_day_L62 N (nn J) (fm_lp (pModel_day_L62 N (nn J)) F2) (nn j, Mb) = if x2 = 0 then pModel_day_J83 N M2' (nn J) (nn j) else fm_lp (pModel_day_L62 N (nn J)) F2 (nn (j + 1), M2') := by
      unfold pModel_day_L62 pModel_day_L62b
      try dsimp only
      rw [if_neg (show ¬ nn J ≤ nn j by rw [nn_le nB nB]; omega), show (3 : Int32) * nn j = nn (3 * j) from nn_mul, e2, nn_succ]
      rfl
    rw [hL1, hL2]
    rcases hx with ⟨y1, y2⟩ | ⟨y1, y2⟩
    · subst y2
      rw [if_pos y1, if_neg (show ¬ (1 : Int32) = 0 by decide)]
      unfold pMicRow_day_J74
      rw [if_pos rfl, j85, nn_succ]
      exact ih F1 F2 (j + 1) M1' M2' q' (by omega) (by omega) (by omega) fA' fB' gv' rs' es' (by omega)
    · subst y2
      rw [if_neg y1, if_pos rfl]
      unfold pMicRow_day_J74
      rw [if_neg (show ¬ (1 : Int32) = 0 by decide), j85, show nn j + 0 = nn j from Int32.add_zero _]
      obtain ⟨F1, rfl⟩ : ∃ F, F1 = F + 1 := ⟨F1 - 1, by omega⟩
      rw [lpS]
      have hL3 : pMicRow_day_L44 N (fm_lp (pMicRow_day_L44 N) F1) (nn j, 1, nn (pl k c (j + 1)), M1') = pMicRow_day_J112 N M1' (nn j) 1 := by
        unfold pMicRow_day_L44 pMicRow_day_L44b
        try dsimp only
        rw [if_neg (show ¬ (1 : Int32) = 0 by decide), ite_self]
      rw [hL3]
      exact fin j 1 1 M1' M2' q' (by omega) (Or.inr ⟨by omega, by decide, rfl⟩) fA' fB' gv' rs' es' (by omega)
theorem x_day {N : Nat} (hN : 4000 ≤ N) : cp_day N RR := by
  intro n M1 M2 hn hR
  obtain ⟨q, l, hg, hr, hS, hq, tC, tM, hl, hm⟩ := hR.opn hn
  obtain ⟨m, u, p1, p2⟩ := hR.past
  obtain ⟨k, c, l1, l2, l3⟩ := hR.2.1.opn
  have hk80 := l1.1
  obtain ⟨J, hJ, hO⟩ := dO_ex (k := k) (c := c)
  -- the model's beginning
  obtain ⟨M0, e0, f0, z0, z2, z6, z7, z8⟩ := md_beg (M := fm_si M2 0 5 0) (v := nn k) (by rw [si_col (by decide)]; exact l2)
  have f20 : fr (fun a => a = 0) M2 M0 := (fr.si (A := fun a => a = 0) rfl).tr f0
  have z20 : ∀ j, j ≠ 2 → j ≠ 5 → j ≠ 6 → j ≠ 7 → j ≠ 8 → M0.1 0 j = M2.1 0 j := fun j y1 y2 y3 y4 y5 => by rw [z0 j y1 y3 y4 y5, si_col y2]
  have g0 : lM M0 k c := ⟨hk80, z6, by rw [f20.at1 (by decide)]; exact l3⟩
  have hmdl : pModel_day N M2 = fm_lp (pModel_day_L11 N) N (0, M0) := by
    unfold pModel_day fm_pt
    (try dsimp only)
    rw [e0]
    rfl
  obtain ⟨x4, e4, h4⟩ := cs_faultInDay hN l1 hJ hO
  rw [hmdl]
  rcases h4 with ⟨hfull, rfl⟩ | ⟨hpart, e, hE, rfl⟩
  · -- the text is right
    obtain ⟨Mc, eC, fC, r15, rC⟩ := cs_before hN hg hr
    have hcls : pMicRow_day N M1 = fm_lp (pMicRow_day_L44 N) N (0, 0, 0, Mc) := by
      unfold pMicRow_day
      rw [e4]
      show (pScene_copyFrom N M1 15 1).bind _ = _
      rw [eC]
      rfl
    rw [hcls]
    have main : ok (fm_lp (pModel_day_L11 N) N (0, M0)) (fun x => ∃ Md, fr (fun a => a = 0 ∨ a = 4 ∨ a = 14) M2 Md ∧ (∀ j, j ≠ 2 → j ≠ 5 → j ≠ 6 → j ≠ 7 → j ≠ 8 → Md.1 0 j = M2.1 0 j) ∧ Md.1 0 2 = 0 ∧ dEnd Mc Md (M2.1 1) q m u (fm_lp (pMicRow_day_L44 N) N (0, 0, 0, Mc)) (some x)) := by
      refine md_dayRead hN g0 z7 z8 hJ hO (fun _ M3 f3 z3 e8 e7 recs => ?_) (fun e hp => absurd hfull (by omega))
      have g3 : lM M3 k c := g0.kp (z3 6 (by decide) (by decide)) (f3.at1 (by decide))
      unfold pModel_day_J42
      have hw : pModel_wasRight M3 = some (1, M3) := by
        refine ok_equal ?_
        unfold pModel_wasRight
        have hple := pl_le hO J (Nat.le_refl _)
        rw [g3.2.1, e7]
        refine ok_pos (by rw [nn_le nB nB]; omega) ?_
        unfold pModel_wasRight_J19
        refine ok_bindE (md_fine1 e8) ?_
        rw [boE (Or.inr rfl)]
        exact ok_some rfl
      refine ok_bindE hw (ok_neg (show ¬ (1 : Int32) = 0 by decide) (ok_bind (md_lay hN) ?_))
      rintro Md ⟨fd, hd14⟩
      have f2d : fr (fun a => a = 0 ∨ a = 4 ∨ a = 14) M2 Md := ((f20.up (B := fun a => a = 0 ∨ a = 4 ∨ a = 14) (fun k hk => Or.inl hk)).tr (f3.up (fun k hk => by omega))).tr (fd.up (fun k hk => Or.inr (Or.inr hk)))
      have z2d : ∀ j, j ≠ 2 → j ≠ 5 → j ≠ 6 → j ≠ 7 → j ≠ 8 → Md.1 0 j = M2.1 0 j := fun j y1 y2 y3 y4 y5 => by rw [fd.at1 (by decide), z3 j y4 y5, z20 j y1 y2 y3 y4 y5]
      have e31 : M3.1 1 = M2.1 1 := by rw [f3.at1 (by decide), f20.at1 (by decide)]
      have ed1 : Md.1 1 = M2.1 1 := by rw [fd.at1 (by decide)]; exact e31
      have lp := day_loop (q := q) (m := m) (u := u) (g0 := M2.1 1) (l := l) (Mc := Mc) (Md := Md) hN (l1.kf fC (by decide) (by decide)) hJ hO hfull hg r15 (p1.kf fC (fun k z1 z2 => by omega)) (by omega) (fun j hj => (recs j hj).kp (fun a _ _ => by rw [fd.at1 (by decide)])) (by unfold rMod; rw [z2d 11 (by decide) (by decide) (by decide) (by decide) (by decide), z2d 12 (by decide) (by decide) (by decide) (by decide) (by decide), z2d 13 (by decide) (by decide) (by decide) (by decide) (by decide)]; exact hm) (tM.z f2d (z2d 4 (by decide) (by decide) (by decide) (by decide) (by decide)) (by decide)) (fun k' hk' => by rw [hd14 k' hk', e31]) (p2.kf f2d (z2d 25 (by decide) (by decide) (by decide) (by decide) (by decide)) (by decide)) J N N 0 Mc Md q (by omega) (by omega) (by omega) fr.rf fr.rf (by rw [ed1]; exact hg) (by rw [ed1]; exact rC) (hS.kf fC (by decide) (by decide)) (by omega)
      obtain ⟨r, M1', M2', ll, q', n', v, w1, w2, w3⟩ := lp
      exact ⟨(r, M2'), w2, Md, f2d, z2d, by rw [fd.at1 (by decide), z3 2 (by decide) (by decide)]; exact z2, r, M1', M2', ll, q', n', v, w1, rfl, w3⟩
    obtain ⟨x, ex, Md, fd, zd, zd2, r, M1', M2', ll, q', n', v, w1, w2, w3, w4, w5, w6, w7, w8, w9, w10, w11, w12, w13, w14, w15⟩ := main
    injection w2 with w2
    subst w2
    refine ⟨r, M1', M2', w1, ex, RR_y (q := q') hR (fun k' hk' => by rw [w3 k' hk', fC.1 k' (by omega)]) (fun k' hk' => by rw [w14 k' hk', fd.1 k' (by omega)]) (fun j hj => by rw [w15 j (by omega) (by omega), zd j (by omega) (by omega) (by omega) (by omega) (by omega)]) ⟨0, by omega, w6, by rw [w15 2 (by decide) (by decide)]; exact zd2, fun i hi => absurd hi (Nat.not_lt_zero _)⟩ (rTold_of w7 w8 w9) w4 w5 (past_close w12 w13) w10 (by omega)⟩
  · -- a fault
    have he : e < 200 := by
      unfold aE at hE
      match hL : shL (bb k c (pl k c J)) with
      | none =>
        rw [hL] at hE
        injection hE with hE
        omega
      | some fs =>
        rw [hL] at hE
        have h1 := ef_lt hE
        have h2 := shL_sf hL
        have h3 : (sf (shI (bb k c (pl k c J)))).length ≤ 4 := (st_forms ⟨_, shI_le (bb k c (pl k c J))⟩).1
        rw [h2] at h1
        omega
    refine rd_no hR hS hq (ii (-1 - (e : Int))) ?_ ?_
    · unfold pMicRow_day
      refine ok_bindE e4 (ok_neg (nn_m1 (by omega)) (ok_bindE (cs_cut0 l1) (ok_some ⟨er1, fr.si (Or.inr rfl), hr.kept (fun a z1 z2 => si_row (by omega)) hg, si_same⟩)))
    · refine md_dayRead hN g0 z7 z8 hJ hO (fun h => absurd h (by omega)) (fun e' _ hE' M3 v f3 z3 e8 he' => ?_)
      rw [hE] at hE'
      injection hE' with hE'
      subst hE'
      have ne8 : M3.1 0 8 ≠ -1 := by rw [e8]; exact nn_m1 (by omega)
      unfold pModel_day_J42
      have hw : pModel_wasRight M3 = some (0, M3) := by
        refine ok_equal ?_
        unfold pModel_wasRight
        refine ok_ite (fun _ => ?_) (fun _ => ok_bindE (md_fault0 ne8) ?_)
        all_goals
          unfold pModel_wasRight_J19
          refine ok_bindE (md_fine0 ne8) ?_
          rw [boE (Or.inl rfl)]
          exact ok_some rfl
      refine ok_bindE hw (ok_pos rfl (ok_some ⟨?_, (f20.up (B := fun a => a = 0 ∨ a = 4) (fun k hk => Or.inl hk)).tr f3, fun j b1 b2 b3 b4 b5 => by (try dsimp only); rw [z3 j b4 b5]; exact z20 j b1 b2 b3 b4 b5, by (try dsimp only); rw [z3 2 (by decide) (by decide)]; exact z2⟩))
      try dsimp only
      rw [e8]
      exact er1
