/-! ===== sources: the model's, and the call ===== -/
def sG (g : Nat → Int32) (n : Nat) (p : Nat → Int32) : Nat → Int32 := fun k => if k = 40 then nn n else if k < 41 then g k else if k - 41 < 15 * n ∧ (k - 41) % 15 < 3 + pst p ((k - 41) / 15) then p (k - 41) else 0
theorem sG_40 {g : Nat → Int32} {n : Nat} {p : Nat → Int32} : sG g n p 40 = nn n := if_pos rfl
theorem sG_lo {g : Nat → Int32} {n : Nat} {p : Nat → Int32} {k : Nat} (h : k < 40) : sG g n p k = g k := by
  unfold sG
  rw [if_neg (by omega), if_pos (by omega)]
theorem sG_hi {g : Nat → Int32} {n : Nat} {p : Nat → Int32} {a : Nat} : sG g n p (41 + a) = if a < 15 * n ∧ a % 15 < 3 + pst p (a / 15) then p a else 0 := by
  unfold sG
  rw [if_neg (by omega), if_neg (by omega), show 41 + a - 41 = a by omega]
theorem sG_at {g : Nat → Int32} {n : Nat} {p : Nat → Int32} {s j : Nat} (hs : s < n) (hj : j < 3 + pst p s) (h15 : j < 15) : sG g n p (41 + 15 * s + j) = p (15 * s + j) := by
  rw [show 41 + 15 * s + j = 41 + (15 * s + j) by omega, sG_hi, show (15 * s + j) % 15 = j by omega, show (15 * s + j) / 15 = s by omega, if_pos ⟨by omega, hj⟩]
theorem st_d15 : ∀ a : Fin 60, ((nn a.val / 15) * 15) + 2 = nn (15 * (a.val / 15) + 2) ∧ jrem (nn a.val) 15 = nn (a.val % 15) := by decide +kernel
theorem md_srcFill {N : Nat} {M : fm_M} {n : Nat} {p : Nat → Int32} (hN : 4000 ≤ N) (hn : n ≤ 4) (hp : ∀ s, s < n → (2 ≤ pst p s ∧ pst p s ≤ 12) ∧ p (15 * s + 2) = nn (pst p s) ∧ ∀ j, j < 3 + pst p s → M.1 4 (15 * s + j) = p (15 * s + j)) : ok (fm_lp (pModel_sources_L99 N (nn n)) N (0, M)) (fun x => x.1 = nn n ∧ fr (fun a => a = 1) M x.2 ∧ (∀ a, a < 60 → x.2.1 1 (41 + a) = if a < 15 * n ∧ a % 15 < 3 + pst p (a / 15) then p a else 0) ∧ ∀ k, k < 41 → x.2.1 1 k = M.1 1 k) := by
  refine ok_for 60 (fun i t => t.1 = nn i ∧ fr (fun a => a = 1) M t.2 ∧ (∀ a, a < i → t.2.1 1 (41 + a) = if a < 15 * n ∧ a % 15 < 3 + pst p (a / 15) then p a else 0) ∧ ∀ k, k < 41 → t.2.1 1 k = M.1 1 k) ?_ ?_ ⟨rfl, fr.rf, fun a z => absurd z (Nat.not_lt_zero _), fun _ _ => rfl⟩ (by omega)
  · rintro i ⟨w, M1⟩ hi ⟨h1, h2, h3, h4⟩ kk hk
    try dsimp only at h1 h2 h3 h4
    subst h1
    unfold pModel_sources_L99 pModel_sources_L99b
    try dsimp only
    rw [show (41 : Int32) + nn i = nn (41 + i) from nn_add, show (15 : Int32) * nn n = nn (15 * n) from nn_mul, (st_d15 ⟨i, hi⟩).1, (st_d15 ⟨i, hi⟩).2]
    have put : ∀ v : Int32, (v = if i < 15 * n ∧ i % 15 < 3 + pst p (i / 15) then p i else 0) → ok (pModel_sources_J154 N M1 (nn n) (nn i) kk (nn (41 + i)) v) (fun x => x.1 = nn n ∧ fr (fun a => a = 1) M x.2 ∧ (∀ a, a < 60 → x.2.1 1 (41 + a) = if a < 15 * n ∧ a % 15 < 3 + pst p (a / 15) then p a else 0) ∧ ∀ k, k < 41 → x.2.1 1 k = M.1 1 k) := by
      intro v hv
      unfold pModel_sources_J154
      refine ok_st (by omega) nL (hk _ ⟨nn_succ, h2.tr (fr.si rfl), fun a ha => ?_, fun k hk2 => ?_⟩)
      · try dsimp only
        by_cases e : a = i
        · subst e; rw [si_same, hv]
        · rw [si_col (by omega)]; exact h3 a (by omega)
      · try dsimp only
        rw [si_col (by omega)]; exact h4 k hk2
    refine ok_neg (by rw [show (60 : Int32) = nn 60 from rfl, nn_le nB nB]; omega) ?_
    by_cases c1 : 15 * n ≤ i
    · refine ok_pos (by rw [nn_le nB nB]; exact c1) ?_
      unfold pModel_sources_J153
      exact put _ (by rw [if_neg (by omega)])
    · refine ok_neg (by rw [nn_le nB nB]; exact c1) (ok_ld (by omega) nL ?_)
      obtain ⟨p1, p2, p3⟩ := hp (i / 15) (by omega)
      have e2 : M1.1 4 (15 * (i / 15) + 2) = nn (pst p (i / 15)) := by rw [h2.at1 (by decide), p3 2 (by omega), p2]
      show ok (if (3 + M1.1 4 (15 * (i / 15) + 2)) ≤ nn (i % 15) then _ else _) _
      rw [e2, show (3 : Int32) + nn (pst p (i / 15)) = nn (3 + pst p (i / 15)) from nn_add]
      by_cases c2 : 3 + pst p (i / 15) ≤ i % 15
      · refine ok_pos (by rw [nn_le nB nB]; exact c2) ?_
        unfold pModel_sources_J153
        exact put _ (by rw [if_neg (by omega)])
      · refine ok_neg (by rw [nn_le nB nB]; exact c2) (ok_ld (by omega) nL (put _ ?_))
        rw [if_pos (by omega), h2.at1 (by decide)]
        have := p3 (i % 15) (by omega)
        rw [show 15 * (i / 15) + i % 15 = i by omega] at this
        exact this
  · rintro ⟨w, M1⟩ ⟨h1, h2, h3, h4⟩ kk
    try dsimp only at h1 h2 h3 h4
    subst h1
    unfold pModel_sources_L99 pModel_sources_L99b
    try dsimp only
    exact ok_pos (by decide) (ok_some ⟨rfl, h2, h3, h4⟩)
def sEnd (M0 : fm_M) (u : Nat → Nat → Int32) (m : Nat) (x : Int32 × fm_M) : Nat ⊕ (Nat × (Nat → Int32)) → Prop
  | .inl e => x.1 = ii (-1 - (e : Int)) ∧ fr (fun a => a = 0 ∨ a = 4) M0 x.2 ∧ (∀ j, j ≠ 7 → j ≠ 8 → x.2.1 0 j = M0.1 0 j)
  | .inr (n, p) => x.1 = nn n ∧ (∀ k, k < 101 → x.2.1 1 k = sG (M0.1 1) n p k) ∧ (∀ k, k = 2 ∨ k = 17 ∨ k = 18 → x.2.1 k = M0.1 k) ∧ x.2.2.1 3 = M0.2.1 3 ∧ (∀ j, j ≠ 7 → j ≠ 8 → j ≠ 25 → x.2.1 0 j = M0.1 0 j) ∧ pM x.2 (nx m) (ux m u (M0.1 1))
def sI (M0 : fm_M) (k : Nat) (c : Nat → Nat) (t : Int32 × Int32 × fm_M) : Prop :=
  fr (fun a => a = 0 ∨ a = 4) M0 t.2.2 ∧ (∀ j, j ≠ 7 → j ≠ 8 → t.2.2.1 0 j = M0.1 0 j) ∧
  ((t.2.1 = 1 ∧ ∃ (s i : Nat) (p : Nat → Int32), s ≤ 4 ∧ t.1 = nn s ∧ t.2.2.1 0 7 = nn i ∧ t.2.2.1 0 8 = -1 ∧ (s = 4 → 1 ≤ i) ∧ i ≤ k ∧ (∀ s', s' < s → sV p s' ∧ ∀ j, j < 3 + pst p s' → t.2.2.1 4 (15 * s' + j) = p (15 * s' + j)) ∧ sR k c = sP k c (4 - s) s i p) ∨
   (t.2.1 = 0 ∧ ∃ e, e < 200 ∧ t.2.2.1 0 8 = nn e ∧ sR k c = .inl e) ∨
   (t.2.1 = 0 ∧ t.2.2.1 0 8 = -1 ∧ ∃ (n i : Nat) (p : Nat → Int32), n ≤ 4 ∧ i < 200 ∧ t.1 = nn n ∧ t.2.2.1 0 7 = nn i ∧ (∀ s', s' < n → sV p s' ∧ ∀ j, j < 3 + pst p s' → t.2.2.1 4 (15 * s' + j) = p (15 * s' + j)) ∧ (i < k → sR k c = .inl i) ∧ (k ≤ i → sR k c = .inr (n, p))))
theorem md_srcLoop {N : Nat} {M0 : fm_M} {k : Nat} {c : Nat → Nat} {m : Nat} {u : Nat → Nat → Int32} {s : Int32 × Int32 × fm_M} (hN : 4000 ≤ N) (h : lM M0 k c) (hm : m ≤ 8) (hp : pM M0 m u) (hs : sI M0 k c s) : ok (fm_lp (pModel_sources_L24 N) N s) (fun x => sEnd M0 u m x (sR k c)) := by
  have hk80 := h.1
  refine ok_lp (sI M0 k c) (fun t => if t.2.1 = 0 then 0 else 8 - t.1.toNatClampNeg) ?_ N s hs (by split <;> omega)
  rintro ⟨w1, w2, M1⟩ ⟨f1, z1, hc⟩ kk hk
  try dsimp only at f1 z1 hc
  have g1 : lM M1 k c := h.kp (z1 6 (by decide) (by decide)) (f1.at1 (by decide))
  unfold pModel_sources_L24 pModel_sources_L24b
  try dsimp only
  rcases hc with ⟨e2, j, i, p, b1, b2, b3, b4, b5, b6, b7, b9⟩ | ⟨e2, e, b1, b2, b3⟩ | ⟨e2, b1, n, i, p, b2, b3, b4, b5, b6, b7, b8⟩
  · subst e2
    subst b2
    have mu1 : ∀ (M3 : fm_M) (y : Int32), (fun t : Int32 × Int32 × fm_M => if t.2.1 = 0 then 0 else 8 - t.1.toNatClampNeg) (nn (j + 1), y, M3) < (fun t : Int32 × Int32 × fm_M => if t.2.1 = 0 then 0 else 8 - t.1.toNatClampNeg) (nn j, 1, M1) := by
      intro M3 y
      show (if y = 0 then 0 else 8 - (nn (j + 1)).toNatClampNeg) < (if (1 : Int32) = 0 then 0 else 8 - (nn j).toNatClampNeg)
      rw [if_neg (show ¬ (1 : Int32) = 0 by decide), nn_toNat nB, nn_toNat nB]
      split <;> omega
    have bad : ∀ (M3 : fm_M) (e : Nat), fr (fun a => a = 0 ∨ a = 4) M0 M3 → (∀ j, j ≠ 7 → j ≠ 8 → M3.1 0 j = M0.1 0 j) → e < 200 → M3.1 0 8 = nn e → sR k c = .inl e → ok (pModel_sources_J58 N M3 (nn j) kk) (fun x => sEnd M0 u m x (sR k c)) := by
      intro M3 e q1 q2 q3 q4 q5
      unfold pModel_sources_J58
      refine ok_bindE (md_passes0 (by rw [q4]; exact nn_m1 (by omega))) ?_
      try dsimp only
      rw [nn_succ]
      exact hk _ ⟨q1, q2, Or.inr (Or.inl ⟨rfl, e, q3, q4, q5⟩)⟩ (mu1 _ _)
    by_cases j6 : j = 4
    · subst j6
      refine ok_neg (show ¬ (1 : Int32) = 0 by decide) (ok_pos rfl ?_)
      rw [b3, show nn i - 1 = nn (i - 1) from nn_sub (i := i) (j := 1) (b5 rfl)]
      refine ok_bindE (md_fault1 b4) ?_
      have e8 : (fm_si M1 0 8 (nn (i - 1))).1 0 8 = nn (i - 1) := si_same
      have ne8 : (fm_si M1 0 8 (nn (i - 1))).1 0 8 ≠ -1 := by rw [e8]; exact nn_m1 (by omega)
      unfold pModel_sources_J43
      refine ok_bindE (md_fine0 ne8) (ok_pos rfl ?_)
      exact bad _ (i - 1) (f1.tr (fr.si (Or.inl rfl))) (fun j' y1 y2 => by rw [si_col y2]; exact z1 j' y1 y2) (by omega) e8 b9
    · refine ok_neg (show ¬ (1 : Int32) = 0 by decide) (ok_neg (by rw [show (4 : Int32) = nn 4 from rfl, nn_inj nB nB]; exact j6) ?_)
      unfold pModel_sources_J43
      rw [show (15 : Int32) * nn j = nn (15 * j) from nn_mul]
      refine ok_bindE (md_fine1 b4) (ok_neg (by decide) (ok_bind (md_readSource (b := 15 * j) hN g1 b3 b4 (by omega) (by omega)) ?_))
      rintro M3 ⟨⟨f3, z3, o3⟩, hd⟩
      have f03 : fr (fun a => a = 0 ∨ a = 4) M0 M3 := f1.tr f3
      have z03 : ∀ j, j ≠ 7 → j ≠ 8 → M3.1 0 j = M0.1 0 j := fun j y1 y2 => (z3 j y1 y2).trans (z1 j y1 y2)
      match hP : sP1 k c i with
      | .inl e =>
        rw [hP] at hd
        rw [sP_inl (by omega) hP] at b9
        exact bad _ e f03 z03 (by have := hd.2; omega) hd.1 b9
      | .inr n =>
        rw [hP] at hd
        rw [sP_inr (by omega) hP] at b9
        obtain ⟨a4, a3, hn2, a5⟩ := hd
        obtain ⟨_, _, _, _, ik⟩ := sP1_inr hP
        have g3 : lM M3 k c := h.kp (z03 6 (by decide) (by decide)) (f03.at1 (by decide))
        have rows : ∀ s', s' < j + 1 → sV (sU p j (scell k c i n)) s' ∧ ∀ j', j' < 3 + pst (sU p j (scell k c i n)) s' → M3.1 4 (15 * s' + j') = sU p j (scell k c i n) (15 * s' + j') := by
          intro s' hs'
          by_cases e : s' = j
          · subst e
            refine ⟨sV_new hP, fun j' hj => ?_⟩
            rw [pst_new (by omega)] at hj
            rw [sU_in (by omega)]
            exact a5 j' hj
          · obtain ⟨v1, v2⟩ := b7 s' (by omega)
            have := v1.st.1
            refine ⟨sV_old v1 e, fun j' hj => ?_⟩
            rw [pst_old e] at hj
            rw [sU_out (by omega) e, o3 _ (by omega)]
            exact v2 j' hj
        unfold pModel_sources_J58
        refine ok_bindE (md_passes (a := 59) g3 a3 a4 (by omega) (by decide)) ?_
        by_cases c3 : bb k c (i + 3 + n) = 59
        · have ik2 : i + 3 + n < k := by
            by_cases z : i + 3 + n < k
            · exact z
            · unfold bb at c3
              rw [if_neg z] at c3
              omega
          rw [if_neg (by omega), if_pos c3] at b9
          rw [if_pos (show bb k c (i + 3 + n) = ((59 : Nat) : Int) from c3)]
          try dsimp only
          rw [nn_succ]
          exact hk _ ⟨f03.tr (fr.si (Or.inl rfl)), fun j' y1 y2 => by (try dsimp only); rw [si_col y1]; exact z03 j' y1 y2, Or.inl ⟨rfl, j + 1, i + 3 + n + 1, _, by omega, rfl, si_same, by (try dsimp only); rw [si_col (by decide)]; exact a4, fun _ => by omega, by omega, fun s' hs' => ⟨(rows s' hs').1, fun j' hj' => by (try dsimp only); rw [si_row (by decide)]; exact (rows s' hs').2 j' hj'⟩, b9⟩⟩ (mu1 _ _)
        · rw [if_neg (show ¬ bb k c (i + 3 + n) = ((59 : Nat) : Int) from c3)]
          try dsimp only
          rw [nn_succ]
          refine hk _ ⟨f03, z03, Or.inr (Or.inr ⟨rfl, a4, j + 1, i + 3 + n, _, by omega, by omega, rfl, a3, rows, fun y => ?_, fun y => ?_⟩)⟩ (mu1 _ _)
          · rw [b9, if_neg (by omega), if_neg c3]
          · rw [b9, if_pos (by omega)]
  · subst e2
    have ne8 : M1.1 0 8 ≠ -1 := by rw [b2]; exact nn_m1 (by omega)
    have hw : pModel_wasRight M1 = some (0, M1) := by
      refine ok_equal ?_
      unfold pModel_wasRight
      refine ok_ite (fun _ => ?_) (fun _ => ok_bindE (md_fault0 ne8) ?_)
      all_goals
        unfold pModel_wasRight_J19
        refine ok_bindE (md_fine0 ne8) ?_
        rw [boE (Or.inl rfl)]
        exact ok_some rfl
    refine ok_pos rfl (ok_bindE hw (ok_pos rfl (ok_some ?_)))
    rw [b3]
    refine ⟨?_, f1, z1⟩
    try dsimp only
    rw [b2]
    exact er1
  · subst e2
    refine ok_pos rfl ?_
    by_cases ci : i < k
    · have hw : pModel_wasRight M1 = some (0, fm_si M1 0 8 (nn i)) := by
        refine ok_equal ?_
        unfold pModel_wasRight
        rw [g1.2.1, b5]
        refine ok_neg (by rw [nn_le nB nB]; omega) (ok_bindE (md_fault1 b1) ?_)
        unfold pModel_wasRight_J19
        refine ok_bindE (md_fine0 (by rw [si_same]; exact nn_m1 (by omega))) ?_
        rw [boE (Or.inl rfl)]
        exact ok_some rfl
      refine ok_bindE hw (ok_pos rfl (ok_some ?_))
      rw [b7 ci]
      refine ⟨?_, f1.tr (fr.si (Or.inl rfl)), fun j' y1 y2 => by (try dsimp only); rw [si_col y2]; exact z1 j' y1 y2⟩
      try dsimp only
      rw [si_same]
      exact er1
    · have hw : pModel_wasRight M1 = some (1, M1) := by
        refine ok_equal ?_
        unfold pModel_wasRight
        rw [g1.2.1, b5]
        refine ok_pos (by rw [nn_le nB nB]; omega) ?_
        unfold pModel_wasRight_J19
        refine ok_bindE (md_fine1 b1) ?_
        rw [boE (Or.inr rfl)]
        exact ok_some rfl
      refine ok_bindE hw (ok_neg (show ¬ (1 : Int32) = 0 by decide) ?_)
      have e11 : M1.1 1 = M0.1 1 := f1.at1 (by decide)
      refine ok_bind (md_change hN hm (hp.kf f1 (z1 25 (by decide) (by decide)) (by decide))) ?_
      rintro M5 ⟨f5, z5, p5⟩
      subst b4
      refine ok_pt (ok_mono (md_srcFill (p := p) hN b2 (fun s' hs' => ?_)) ?_)
      · obtain ⟨v1, v2⟩ := b6 s' hs'
        refine ⟨v1.st.1, v1.st.2.1, fun j' hj' => ?_⟩
        rw [si_row (by decide), f5.1 4 (by unfold chR; omega)]
        exact v2 j' hj'
      · rintro ⟨x, M6⟩ ⟨a1, a2, a3, a4⟩
        try dsimp only at a1 a2 a3 a4
        rw [b8 (by omega)]
        have e51 : M5.1 1 = M0.1 1 := by rw [f5.1 1 (by unfold chR; omega)]; exact e11
        have f6 : fr (fun a => a = 1) M5 M6 := (fr.si (A := fun a => a = 1) rfl).tr a2
        refine ⟨a1, fun k' hk' => ?_, fun k' hk' => ?_, ?_, fun j' y1 y2 y3 => ?_, ?_⟩
        · try dsimp only
          by_cases c0 : k' = 40
          · subst c0
            rw [a4 40 (by omega), si_same, sG_40]
          · by_cases c1 : k' < 40
            · rw [a4 k' (by omega), si_col c0, sG_lo c1, e51]
            · obtain ⟨a, rfl⟩ : ∃ a, k' = 41 + a := ⟨k' - 41, by omega⟩
              rw [a3 a (by omega), sG_hi]
        · try dsimp only
          rw [f6.1 k' (by omega), f5.1 k' (by unfold chR; omega)]
          exact f1.1 k' (by omega)
        · try dsimp only
          rw [f6.2.1 3 (by decide), f5.2.1 3 (by unfold chR; omega)]
          exact f1.2.1 3 (by decide)
        · try dsimp only
          rw [f6.at1 (by decide), z5 j' y3]
          exact z1 j' y1 y2
        · rw [e11] at p5
          exact p5.kf f6 (by rw [f6.at1 (by decide)]) (by decide)
theorem sG_V {g : Nat → Int32} {n : Nat} {p : Nat → Int32} (hg : gV g) (hn : n ≤ 4) (hp : ∀ s, s < n → sV p s) : gV (sG g n p) ∧ gs (sG g n p) = n ∧ (∀ s, s < n → gst (sG g n p) s = pst p s) ∧ gn (sG g n p) = gn g := by
  have en : gn (sG g n p) = gn g := by unfold gn; rw [sG_lo (by decide)]
  have es : gs (sG g n p) = n := by
    unfold gs
    rw [sG_40, nn_toNat nB]
  have est : ∀ s, s < n → gst (sG g n p) s = pst p s := by
    intro s hs
    unfold gst
    rw [show 43 + 15 * s = 41 + 15 * s + 2 by omega, sG_at hs (by omega) (by decide)]
    rfl
  obtain ⟨a1, a2, a3, a4, a5⟩ := gV_iff.mp hg
  have hn6 := hg.n.2
  refine ⟨gV_iff.mpr ⟨?_, ?_, fun j hj => ?_, fun m q hm hq => ?_, fun s hs => ?_⟩, es, est, en⟩
  · rw [sG_lo (by decide)]; exact a1
  · rw [sG_40]
    unfold bd
    rw [nn_toInt nB]
    omega
  · rw [sG_lo (by omega)]; exact a3 j hj
  · rw [en] at hm
    rw [sG_lo (by omega)]; exact a4 m q hm hq
  · rw [es] at hs
    have hv := hp s hs
    obtain ⟨v1, v2, v3⟩ := hv.st
    obtain ⟨w1, w2, _⟩ := hv
    rw [est s hs]
    refine ⟨?_, ?_, ?_, fun j hj => ?_⟩
    · rw [show 41 + 15 * s = 41 + 15 * s + 0 by omega, sG_at hs (by omega) (by decide)]
      exact w1
    · rw [show 42 + 15 * s = 41 + 15 * s + 1 by omega, sG_at hs (by omega) (by decide)]
      exact w2
    · rw [show 43 + 15 * s = 41 + 15 * s + 2 by omega, sG_at hs (by omega) (by decide), v2]
      unfold bd
      rw [nn_toInt nB]
      omega
    · rw [show 44 + 15 * s + j = 41 + 15 * s + (3 + j) by omega, sG_at hs (by omega) (by omega)]
      exact v3 j hj
theorem x_sources {N : Nat} (hN : 4000 ≤ N) : cp_sources N RR := by
  intro n M1 M2 hn hR
  obtain ⟨q, l, hg, hr, hS, hq, tC, tM, hl, hm⟩ := hR.opn hn
  obtain ⟨m, u, p1, p2⟩ := hR.past
  obtain ⟨k, c, l1, l2, l3⟩ := hR.2.1.opn
  have hk80 := l1.1
  have hrd : ∀ M8, fr (fun k => 15 ≤ k ∧ k < 29) M1 M8 → ok (pReader_readSources N M8) (fun x => fr asR M8 x.2 ∧ sOut M8 x (sR k c)) := fun M8 f8 => cs_readSources hN (l1.kf f8 (by decide) (by decide))
  have hmd : ok (pModel_sources N M2) (fun x => ∃ M0, fr (fun a => a = 0) M2 M0 ∧ (∀ j, j ≠ 2 → j ≠ 5 → j ≠ 6 → j ≠ 7 → j ≠ 8 → M0.1 0 j = M2.1 0 j) ∧ M0.1 0 2 = 0 ∧ sEnd M0 u m x (sR k c)) := by
    unfold pModel_sources
    refine ok_pt (ok_bind (md_beg (M := fm_si M2 0 5 0) (v := nn k) (by rw [si_col (by decide)]; exact l2)) ?_)
    rintro M0 ⟨f0, z0, z2, z6, z7, z8⟩
    have f20 : fr (fun a => a = 0) M2 M0 := (fr.si (A := fun a => a = 0) rfl).tr f0
    have z20 : ∀ j, j ≠ 2 → j ≠ 5 → j ≠ 6 → j ≠ 7 → j ≠ 8 → M0.1 0 j = M2.1 0 j := fun j y1 y2 y3 y4 y5 => by rw [z0 j y1 y3 y4 y5, si_col y2]
    have g0 : lM M0 k c := ⟨hk80, z6, by rw [f20.at1 (by decide)]; exact l3⟩
    have pm0 : pM M0 m u := p2.kf f20 (z20 25 (by decide) (by decide) (by decide) (by decide) (by decide)) (by decide)
    rw [z6]
    unfold pModel_sources_J23
    by_cases k0 : k = 0
    · refine ok_pos (by rw [k0]; decide) (ok_mono (md_srcLoop hN g0 p1.1 pm0 ⟨fr.rf, fun _ _ _ => rfl, Or.inr (Or.inr ⟨rfl, z8, 0, 0, fun _ => 0, by omega, by omega, rfl, z7, fun m hm => absurd hm (Nat.not_lt_zero _), fun h => by omega, fun _ => if_pos k0⟩)⟩) (fun x hx => ⟨M0, f20, z20, z2, hx⟩))
    · refine ok_neg (by rw [show (0 : Int32) = nn 0 from rfl, nn_le nB nB]; omega) (ok_mono (md_srcLoop hN g0 p1.1 pm0 ⟨fr.rf, fun _ _ _ => rfl, Or.inl ⟨rfl, 0, 0, fun _ => 0, by omega, rfl, z7, z8, fun h => by omega, by omega, fun m hm => absurd hm (Nat.not_lt_zero _), if_neg k0⟩⟩) (fun x hx => ⟨M0, f20, z20, z2, hx⟩))
  unfold pMicRow_sources
  generalize sR k c = res at hrd hmd
  match res with
  | .inl e =>
    have he : e < 200 := by
      obtain ⟨M8, _, f8, _, _⟩ := cs_before hN hg hr
      obtain ⟨x, _, _, h2⟩ := hrd M8 f8
      exact h2.1
    refine rd_no hR hS hq (ii (-1 - (e : Int))) (cs_rdNo (op := pReader_readSources N) hN hg hr l1 (by rw [show (0 : Int32) = ii 0 from rfl, ii_le (by omega)]; omega) (fun M8 f8 _ => ok_mono (hrd M8 f8) (fun x hx => ⟨hx.2.2, hx.1.up (fun k hk => by unfold asR at hk; omega)⟩))) (ok_mono hmd ?_)
    rintro ⟨x, Mx⟩ ⟨M0, f0, z0, z2, y1, y2, y3⟩
    try dsimp only at y1 y2 y3 ⊢
    refine ⟨y1, (f0.up (B := fun a => a = 0 ∨ a = 4) (fun k hk => Or.inl hk)).tr y2, fun j b1 b2 b3 b4 b5 => by rw [y3 j b4 b5]; exact z0 j b1 b2 b3 b4 b5, by rw [y3 2 (by decide) (by decide)]; exact z2⟩
  | .inr (n', p) =>
    have hh : n' ≤ 4 ∧ ∀ s, s < n' → sV p s := by
      obtain ⟨M8, _, f8, _, _⟩ := cs_before hN hg hr
      obtain ⟨x, _, _, h2⟩ := hrd M8 f8
      exact ⟨h2.1, fun m hm => (h2.2.2.2.2 m hm).1⟩
    obtain ⟨gv, gsE, gstE, gnE⟩ := sG_V hg hh.1 hh.2
    refine rd_yes (m := m) (u := u) (g' := sG (M2.1 1) n' p) hR hS hq gv (nn n') (cs_rdYes (op := pReader_readSources N) hN hg hr l1 gv p1 (by rw [show (0 : Int32) = nn 0 from rfl, nn_le nB nB]; omega) (fun M8 f8 r8 => ok_mono (hrd M8 f8) ?_)) (ok_mono hmd ?_)
    · rintro ⟨x, Mx⟩ ⟨f9, y1, y2, y3, y4, y5⟩
      try dsimp only at f9 y2 y3 y4 y5 ⊢
      obtain ⟨s1, s2, s3, s4, s5⟩ := r8
      have hn6 := hg.n.2
      refine ⟨y2, f9.up (fun k hk => by unfold asR at hk; omega), by rw [y4, sG_lo (by decide)]; exact s1, by rw [y3, sG_40], fun j hj => ?_, fun m' q' hm' hq' => ?_, fun s j hs hj => ?_⟩
      · rw [sG_lo (by omega), f9.1 _ (by unfold asR; omega)]
        exact s3 j hj
      · rw [gnE] at hm'
        rw [sG_lo (by omega), f9.1 _ (by unfold asR; omega)]
        exact s4 m' q' hm' hq'
      · rw [gsE] at hs
        rw [gstE s hs] at hj
        obtain ⟨v1, v2⟩ := y5 s hs
        have := v1.st.1
        rw [sG_at hs hj (by omega)]
        exact v2 j hj
    · rintro ⟨x, Mx⟩ ⟨M0, f0, z0, z2, y1, y2, y3, y4, y5, y6⟩
      have e1 : M0.1 1 = M2.1 1 := f0.at1 (by decide)
      rw [e1] at y2 y6
      try dsimp only at y1 y2 y3 y4 y5 y6 ⊢
      refine ⟨y1, y2, fun k hk => by rw [y3 k (by omega)]; exact f0.1 k (by omega), by rw [y4]; exact f0.2.1 3 (by decide), fun j b1 b2 b3 b4 b5 b6 => by rw [y5 j b4 b5 b6]; exact z0 j b1 b2 b3 b4 b5, by rw [y5 2 (by decide) (by decide) (by decide)]; exact z2, y6⟩
