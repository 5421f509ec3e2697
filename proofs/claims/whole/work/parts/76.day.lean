/-! ===== day ===== -/
theorem arec.kp {k : Nat} {c : Nat → Nat} {i b : Nat} {M M' : fm_M} (h : arec k c i b M) (e : ∀ a, b ≤ a → a < b + 3 → M'.1 4 a = M.1 4 a) : arec k c i b M' := by
  unfold arec
  rw [e b (by omega) (by omega), e (b + 1) (by omega) (by omega), e (b + 2) (by omega) (by omega)]
  exact h
theorem md_dayRead {N : Nat} {M0 : fm_M} {k : Nat} {c : Nat → Nat} {J : Nat} {Q : Int32 × fm_M → Prop} (hN : 4000 ≤ N) (h : lM M0 k c) (z7 : M0.1 0 7 = 0) (z8 : M0.1 0 8 = -1) (hJ : J ≤ k) (hO : dO k c J) (hQ1 : k ≤ pl k c J → ∀ M', fr (fun a => a = 0 ∨ a = 4) M0 M' → (∀ j, j ≠ 7 → j ≠ 8 → M'.1 0 j = M0.1 0 j) → M'.1 0 8 = -1 → M'.1 0 7 = nn (pl k c J) → (∀ j, j < J → arec k c (pl k c j) (3 * j) M') → ok (pModel_day_J42 N M' (nn J)) Q) (hQ2 : ∀ e, pl k c J < k → aE k c (pl k c J) = some e → ∀ M' v, fr (fun a => a = 0 ∨ a = 4) M0 M' → (∀ j, j ≠ 7 → j ≠ 8 → M'.1 0 j = M0.1 0 j) → M'.1 0 8 = nn e → e < 200 → ok (pModel_day_J42 N M' v) Q) : ok (fm_lp (pModel_day_L11 N) N (0, M0)) Q := by
  have hk80 := h.1
  refine ok_for (J + 1) (fun j t => t.1 = nn j ∧ fr (fun a => a = 0 ∨ a = 4) M0 t.2 ∧ (∀ j, j ≠ 7 → j ≠ 8 → t.2.1 0 j = M0.1 0 j) ∧ ((j ≤ J ∧ t.2.1 0 8 = -1 ∧ t.2.1 0 7 = nn (pl k c j) ∧ ∀ j', j' < j → arec k c (pl k c j') (3 * j') t.2) ∨ (j = J + 1 ∧ pl k c J < k ∧ ∃ e, aE k c (pl k c J) = some e ∧ t.2.1 0 8 = nn e ∧ e < 200))) ?_ ?_ ⟨rfl, fr.rf, fun _ _ _ => rfl, Or.inl ⟨by omega, z8, z7, fun j' z => absurd z (Nat.not_lt_zero _)⟩⟩ (by omega)
  · rintro j ⟨w, M1⟩ hj ⟨a1, a2, a3, a4⟩ kk hk
    try dsimp only at a1 a2 a3 a4
    subst a1
    rcases a4 with ⟨b1, b2, b3, b4⟩ | ⟨b1, _⟩
    · have g1 : lM M1 k c := h.kp (a3 6 (by decide) (by decide)) (a2.at1 (by decide))
      have hple := pl_le hO j b1
      unfold pModel_day_L11 pModel_day_L11b
      try dsimp only
      refine ok_bindE (md_fine1 b2) (ok_neg (by decide) ?_)
      rw [g1.2.1, b3, show (3 : Int32) * nn j = nn (3 * j) from nn_mul]
      by_cases c1 : k ≤ pl k c j
      · have ej : j = J := by
          by_cases z : j < J
          · have := (hO.1 j z).1; omega
          · omega
        subst ej
        exact ok_pos (by rw [nn_le nB nB]; exact c1) (hQ1 c1 M1 a2 a3 b2 b3 b4)
      · refine ok_neg (by rw [nn_le nB nB]; exact c1) (ok_bind (md_readAct hN g1 ⟨b2, b3⟩ (by omega) (by omega)) ?_)
        rintro M2 ⟨⟨f2, z2, o2⟩, s2, r2⟩
        have f02 := a2.tr f2
        have z02 : ∀ j, j ≠ 7 → j ≠ 8 → M2.1 0 j = M0.1 0 j := fun j y1 y2 => (z2 j y1 y2).trans (a3 j y1 y2)
        match hE : aE k c (pl k c j) with
        | none =>
          have hjJ : j < J := by
            by_cases z : j < J
            · exact z
            · have ej : j = J := by omega
              subst ej
              rcases hO.2 with y | ⟨_, e, y⟩
              · exact absurd y c1
              · rw [hE] at y; cases y
          rw [hE] at s2 r2
          refine hk _ ⟨nn_succ, f02, z02, Or.inl ⟨by omega, s2.1, s2.2, fun j' hj' => ?_⟩⟩
          by_cases e : j' = j
          · subst e; exact r2 rfl
          · exact (b4 j' (by omega)).kp (fun a y1 y2 => o2 a (by omega))
        | some e =>
          have ej : j = J := by
            by_cases z : j < J
            · have := (hO.1 j z).2
              rw [hE] at this
              cases this
            · omega
          subst ej
          rw [hE] at s2
          exact hk _ ⟨nn_succ, f02, z02, Or.inr ⟨rfl, by omega, e, hE, s2.1, s2.2⟩⟩
    · omega
  · rintro ⟨w, M1⟩ ⟨a1, a2, a3, a4⟩ kk
    try dsimp only at a1 a2 a3 a4
    subst a1
    rcases a4 with ⟨b1, _⟩ | ⟨_, b1, e, b2, b3, b4⟩
    · omega
    · unfold pModel_day_L11 pModel_day_L11b
      try dsimp only
      exact ok_bindE (md_fine0 (by rw [b3]; exact nn_m1 (by omega))) (ok_pos rfl (hQ2 e b1 b2 M1 _ a2 a3 b3 b4))
/-! how a day ends -/
theorem cs_dayEnd {N : Nat} {Ma : fm_M} {g g0 : Nat → Int32} {k : Nat} {c : Nat → Nat} {m j q : Nat} {u : Nat → Nat → Int32} {v3 : Int32} {w : Int64} (hN : 4000 ≤ N) (hg : gV g) (hr : rS Ma 1 g) (hl : lC Ma k c) (hg0 : gV g0) (h15 : rS Ma 15 g0) (hp : pC Ma m u) (hS : eS Ma q) (hj : j < 1000) (hw : (v3 = 0 ∧ w = 0) ∨ (v3 ≠ 0 ∧ w = 1)) : ok (pMicRow_day_J112 N Ma (nn j) v3) (fun x => x.1 = nn j ∧ (∀ k, 30 ≤ k ∧ k < 59 → x.2.1 k = Ma.1 k) ∧ rS x.2 1 g ∧ x.2.1 173 1 = 0 ∧ tdC x.2 [w, (nn (lvs g)).toInt64] ∧ eS x.2 q ∧ pC x.2 (if j = 0 then m else nx m) (if j = 0 then u else ux m u g0)) := by
  have tail : ∀ M3, rS M3 1 g → ok (pMicRow_day_J136 N M3 (nn j) v3) (fun x => x.1 = nn j ∧ fr (fun k => k = 176 ∨ k = 177) M3 x.2 ∧ tdC x.2 [w, (nn (lvs g)).toInt64]) := by
    intro M3 h3
    have j156 : ∀ M4, fr (fun k => k = 176 ∨ k = 177) M3 M4 → tdC M4 [] → ok (pMicRow_day_J156 N M4 (nn j) w) (fun x => x.1 = nn j ∧ fr (fun k => k = 176 ∨ k = 177) M3 x.2 ∧ tdC x.2 [w, (nn (lvs g)).toInt64]) := by
      intro M4 f4 t4
      unfold pMicRow_day_J156
      refine ok_bind (cs_add t4 (by decide)) ?_
      rintro M5 ⟨f5, t5⟩
      refine ok_bindE (cs_live hN hg (h3.kept (fun a z1 z2 => by rw [f5.1 a (by omega), f4.1 a (by omega)]) hg)) (ok_bind (cs_add t5 (by simp)) ?_)
      rintro M6 ⟨f6, t6⟩
      exact ok_some ⟨rfl, (f4.tr f5).tr f6, t6⟩
    unfold pMicRow_day_J136
    refine ok_bind cs_clear ?_
    rintro M4 ⟨f4, t4⟩
    have f4' : fr (fun k => k = 176 ∨ k = 177) M3 M4 := f4.up (fun k hk => Or.inl hk)
    rcases hw with ⟨y1, y2⟩ | ⟨y1, y2⟩
    · subst y2; exact ok_pos y1 (j156 M4 f4' t4)
    · subst y2; exact ok_neg y1 (j156 M4 f4' t4)
  unfold pMicRow_day_J112
  refine ok_bindE (cs_cut0 hl) ?_
  try dsimp only
  by_cases j0 : j = 0
  · refine ok_pos (by rw [j0]; decide) (ok_mono (tail _ (hr.kept (fun a z1 z2 => si_row (by omega)) hg)) ?_)
    rintro ⟨x, M3⟩ ⟨y1, y2, y3⟩
    try dsimp only at y1 y2 y3 ⊢
    have f13 : fr (fun k => k = 173 ∨ k = 176 ∨ k = 177) Ma M3 := (fr.si (A := fun k => k = 173 ∨ k = 176 ∨ k = 177) (Or.inl rfl)).tr (y2.up (fun k hk => Or.inr hk))
    rw [if_pos j0, if_pos j0]
    exact ⟨y1, fun k hk => f13.1 k (by omega), hr.kept (fun a z1 z2 => f13.1 a (by omega)) hg, by rw [y2.at1 (by decide), si_same], y3, hS.kf f13 (by decide) (by decide), hp.kf f13 (fun k z1 z2 => by omega)⟩
  · refine ok_neg (by rw [show (0 : Int32) = nn 0 from rfl, nn_le nB nB]; omega) (ok_bind (cs_push hN (hp.kf (P := fun k => k = 173) (fr.si rfl) (fun k z1 z2 => by omega)) hg0 (h15.kept (fun a z1 z2 => si_row (by omega)) hg0)) ?_)
    rintro M2 ⟨f2, p2⟩
    refine ok_mono (tail _ (hr.kept (fun a z1 z2 => by rw [f2.1 a (by omega), si_row (by omega)]) hg)) ?_
    rintro ⟨x, M3⟩ ⟨y1, y2, y3⟩
    try dsimp only at y1 y2 y3 ⊢
    rw [if_neg j0, if_neg j0]
    refine ⟨y1, fun k hk => ?_, hr.kept (fun a z1 z2 => ?_) hg, ?_, y3, ?_, p2.kf y2 (fun k z1 z2 => by omega)⟩
    · rw [y2.1 k (by omega), f2.1 k (by omega), si_row (by omega)]
    · rw [y2.1 a (by omega), f2.1 a (by omega), si_row (by omega)]
    · rw [y2.at1 (by decide), f2.1 173 (by decide), si_same]
    · exact ((hS.kf (P := fun k => k = 173) (fr.si rfl) (by decide) (by decide)).zf f2 (by decide) (by decide)).kf y2 (by decide) (by decide)
theorem md_dayEnd {N : Nat} {Mb : fm_M} {g0 : Nat → Int32} {m j J : Nat} {u : Nat → Nat → Int32} {w : Int64} (hN : 4000 ≤ N) (hg : gV (Mb.1 1)) (h14 : ∀ k, k < 101 → Mb.1 14 k = g0 k) (hm : m ≤ 8) (hp : pM Mb m u) (hj : j < 1000) (hJ : J < 1000) (hw : (J ≤ j ∧ w = 0) ∨ (¬ J ≤ j ∧ w = 1)) : ok (pModel_day_J83 N Mb (nn J) (nn j)) (fun x => x.1 = nn j ∧ (∀ k, k = 1 ∨ k = 17 ∨ k = 18 → x.2.1 k = Mb.1 k) ∧ (∀ j, j ≠ 4 → j ≠ 25 → x.2.1 0 j = Mb.1 0 j) ∧ tdM x.2 [w, (nn (lvs (Mb.1 1))).toInt64] ∧ pM x.2 (if j = 0 then m else nx m) (if j = 0 then u else ux m u g0)) := by
  have tail : ∀ M3, M3.1 1 = Mb.1 1 → ok (pModel_day_J91 N M3 (nn J) (nn j)) (fun x => x.1 = nn j ∧ fr (fun k => k = 0 ∨ k = 3) M3 x.2 ∧ (∀ j, j ≠ 4 → x.2.1 0 j = M3.1 0 j) ∧ tdM x.2 [w, (nn (lvs (Mb.1 1))).toInt64]) := by
    intro M3 h3
    have j107 : ok (pModel_day_J107 N (fm_si M3 0 4 0) (nn j) w) (fun x => x.1 = nn j ∧ fr (fun k => k = 0 ∨ k = 3) M3 x.2 ∧ (∀ j, j ≠ 4 → x.2.1 0 j = M3.1 0 j) ∧ tdM x.2 [w, (nn (lvs (Mb.1 1))).toInt64]) := by
      unfold pModel_day_J107
      refine ok_bind (md_tell (M := fm_si M3 0 4 0) tdM.clear (by decide)) ?_
      rintro M5 ⟨f5, z5, t5⟩
      have e51 : M5.1 1 = Mb.1 1 := by rw [f5.at1 (by decide), si_row (by decide), h3]
      refine ok_bindE (md_live hN (by rw [e51]; exact hg)) ?_
      rw [e51]
      refine ok_bind (md_tell t5 (by simp)) ?_
      rintro M6 ⟨f6, z6, t6⟩
      exact ok_some ⟨rfl, ((fr.si (A := fun k => k = 0 ∨ k = 3) (Or.inl rfl)).tr f5).tr f6, fun j' hj' => by (try dsimp only); rw [z6 j' hj', z5 j' hj', si_col hj'], t6⟩
    unfold pModel_day_J91
    refine ok_pt ?_
    rcases hw with ⟨y1, y2⟩ | ⟨y1, y2⟩
    · subst y2; exact ok_pos (by rw [nn_le nB nB]; exact y1) j107
    · subst y2; exact ok_neg (by rw [nn_le nB nB]; exact y1) j107
  unfold pModel_day_J83
  by_cases j0 : j = 0
  · refine ok_pos (by rw [j0]; decide) (ok_mono (tail _ rfl) ?_)
    rintro ⟨x, M3⟩ ⟨y1, y2, y3, y4⟩
    try dsimp only at y1 y2 y3 y4 ⊢
    rw [if_pos j0, if_pos j0]
    exact ⟨y1, fun k hk => y2.1 k (by omega), fun j' z1 z2 => y3 j' z1, y4, hp.kf y2 (y3 25 (by decide)) (by decide)⟩
  · refine ok_neg (by rw [show (0 : Int32) = nn 0 from rfl, nn_le nB nB]; omega) (ok_bind (md_note hN hm hp h14) ?_)
    rintro M2 ⟨f2, z2, p2⟩
    have e21 : M2.1 1 = Mb.1 1 := f2.1 1 (by unfold ntR; omega)
    refine ok_mono (tail _ e21) ?_
    rintro ⟨x, M3⟩ ⟨y1, y2, y3, y4⟩
    try dsimp only at y1 y2 y3 y4 ⊢
    rw [if_neg j0, if_neg j0]
    exact ⟨y1, fun k hk => by rw [y2.1 k (by omega), f2.1 k (by unfold ntR; omega)], fun j' w1 w2 => by rw [y3 j' w1, z2 j' w2], y4, p2.kf y2 (y3 25 (by decide)) (by decide)⟩
