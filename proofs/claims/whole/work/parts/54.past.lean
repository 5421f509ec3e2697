/-! ===== scenes that are kept, past ones ===== -/
def mlo : Nat → Int := fun q => if q = 1 then 1 else if q = 3 then 1 else 0
def mhi : Nat → Int := fun q => if q = 0 then 40 else if q = 1 then 400 else if q = 2 then 9 else if q = 3 then 200 else 1
def hlo : Nat → Int := fun q => if q = 0 then 1 else if q = 1 then 0 else 4
def hhi : Nat → Int := fun q => if q = 0 then 9999 else if q = 1 then 200 else 48
theorem gV_iff {g : Nat → Int32} : gV g ↔ bd (g 0) 0 6 ∧ bd (g 40) 0 4 ∧ (∀ j, j < 3 → bd (g (37 + j)) (hlo j) (hhi j)) ∧ (∀ m q, m < gn g → q < 6 → bd (g (1 + 6 * m + q)) (mlo q) (mhi q)) ∧ ∀ s, s < gs g → bd (g (41 + 15 * s)) (-8) 8 ∧ bd (g (42 + 15 * s)) 1 9 ∧ bd (g (43 + 15 * s)) 2 12 ∧ ∀ j, j < gst g s → bd (g (44 + 15 * s + j)) (-4) 4 := by
  constructor
  · rintro ⟨h1, h2, h3, h4, h5, h6, h7⟩
    refine ⟨h1, h2, ?_, ?_, h7⟩
    · intro j hj
      match j, hj with
      | 0, _ => exact h3
      | 1, _ => exact h4
      | 2, _ => exact h5
    · intro m q hm hq
      obtain ⟨a0, a1, a2, a3, a4, a5⟩ := h6 m hm
      match q, hq with
      | 0, _ => exact a0
      | 1, _ => rw [show 1 + 6 * m + 1 = 2 + 6 * m by omega]; exact a1
      | 2, _ => rw [show 1 + 6 * m + 2 = 3 + 6 * m by omega]; exact a2
      | 3, _ => rw [show 1 + 6 * m + 3 = 4 + 6 * m by omega]; exact a3
      | 4, _ => rw [show 1 + 6 * m + 4 = 5 + 6 * m by omega]; exact a4
      | 5, _ => rw [show 1 + 6 * m + 5 = 6 + 6 * m by omega]; exact a5
  · rintro ⟨h1, h2, h3, h4, h5⟩
    refine ⟨h1, h2, h3 0 (by decide), h3 1 (by decide), h3 2 (by decide), ?_, h5⟩
    intro m hm
    have a := fun q hq => h4 m q hm hq
    refine ⟨a 0 (by decide), ?_, ?_, ?_, ?_, ?_⟩
    · have := a 1 (by decide); rw [show 1 + 6 * m + 1 = 2 + 6 * m by omega] at this; exact this
    · have := a 2 (by decide); rw [show 1 + 6 * m + 2 = 3 + 6 * m by omega] at this; exact this
    · have := a 3 (by decide); rw [show 1 + 6 * m + 3 = 4 + 6 * m by omega] at this; exact this
    · have := a 4 (by decide); rw [show 1 + 6 * m + 4 = 5 + 6 * m by omega] at this; exact this
    · have := a 5 (by decide); rw [show 1 + 6 * m + 5 = 6 + 6 * m by omega] at this; exact this
theorem gV_congr {g g' : Nat → Int32} (h : gV g) (e : ∀ k, k < 101 → g' k = g k) : gV g' := by
  have en : gn g' = gn g := by unfold gn; rw [e 0 (by decide)]
  have es : gs g' = gs g := by unfold gs; rw [e 40 (by decide)]
  have hn := h.n.2
  have hs := h.s.2
  rw [gV_iff] at h ⊢
  obtain ⟨h1, h2, h3, h4, h5⟩ := h
  refine ⟨by rw [e 0 (by decide)]; exact h1, by rw [e 40 (by decide)]; exact h2, fun j hj => by rw [e _ (by omega)]; exact h3 j hj, fun m q hm hq => by rw [en] at hm; rw [e _ (by omega)]; exact h4 m q hm hq, ?_⟩
  intro s hs'
  rw [es] at hs'
  obtain ⟨a1, a2, a3, a4⟩ := h5 s hs'
  have est : gst g' s = gst g s := by unfold gst; rw [e _ (by omega)]
  have hst : gst g s ≤ 12 := by
    obtain ⟨b1, b2, b3⟩ := bd_nn a3 (by decide)
    unfold gst
    omega
  refine ⟨by rw [e _ (by omega)]; exact a1, by rw [e _ (by omega)]; exact a2, by rw [e _ (by omega)]; exact a3, fun j hj => ?_⟩
  rw [est] at hj
  rw [e _ (by omega)]
  exact a4 j hj
theorem rS_congr {M : fm_M} {b : Nat} {g g' : Nat → Int32} (hg : gV g) (h : rS M b g) (e : ∀ k, k < 101 → g' k = g k) : rS M b g' := by
  have en : gn g' = gn g := by unfold gn; rw [e 0 (by decide)]
  have es : gs g' = gs g := by unfold gs; rw [e 40 (by decide)]
  have hn := hg.n.2
  have hs := hg.s.2
  obtain ⟨h1, h2, h3, h4, h5⟩ := h
  refine ⟨by rw [e 0 (by decide)]; exact h1, by rw [e 40 (by decide)]; exact h2, fun j hj => by rw [e _ (by omega)]; exact h3 j hj, fun m q hm hq => by rw [en] at hm; rw [e _ (by omega)]; exact h4 m q hm hq, ?_⟩
  intro s j hs' hj
  rw [es] at hs'
  have est : gst g' s = gst g s := by unfold gst; rw [e _ (by omega)]
  have hst := gst_le hg hs'
  rw [est] at hj
  rw [e _ (by omega)]
  exact h5 s j hs' hj
/-- frames that let the row of scenes change -/
def fz (A : Nat → Prop) (M M' : fm_M) : Prop := (∀ k, ¬ A k → M'.1 k = M.1 k) ∧ ∀ k, ¬ A k → M'.2.1 k = M.2.1 k
theorem fz.rf {A : Nat → Prop} {M : fm_M} : fz A M M := ⟨fun _ _ => rfl, fun _ _ => rfl⟩
theorem fz.tr {A : Nat → Prop} {M M' M'' : fm_M} (h : fz A M M') (h' : fz A M' M'') : fz A M M'' := ⟨fun k hk => (h'.1 k hk).trans (h.1 k hk), fun k hk => (h'.2 k hk).trans (h.2 k hk)⟩
theorem fz.up {A B : Nat → Prop} {M M' : fm_M} (h : fz A M M') (hAB : ∀ k, A k → B k) : fz B M M' := ⟨fun k hk => h.1 k (fun z => hk (hAB k z)), fun k hk => h.2 k (fun z => hk (hAB k z))⟩
theorem cp_copyZ {N : Nat} {M : fm_M} {a b : Nat} (hN : 10 < N) (ha : fm_sc a = true) (hb : fm_sc b = true) (hab : a ≠ b) {g : Nat → Int32} (hg : gV g) (hr : rS M b g) : ok (pScene_copyFrom N M a b) (fun M' => fr (fun k => a ≤ k ∧ k < a + 14) M M' ∧ rS M' a g) := by
  refine ok_mono (cp_copyFrom hN ha hb hab) ?_
  rintro M' h
  exact ⟨h.1, hr.copied hg h⟩
def pC (M : fm_M) (n : Nat) (u : Nat → Nat → Int32) : Prop := n ≤ 8 ∧ M.1 59 1 = nn n ∧ (∀ i, i < 8 → ∃ j, j < 8 ∧ M.2.2 i = 61 + 14 * j) ∧ (∀ i j, i < 8 → j < 8 → M.2.2 i = M.2.2 j → i = j) ∧ ∀ i, i < n → gV (u i) ∧ rS M (M.2.2 i) (u i)
def pM (M : fm_M) (n : Nat) (u : Nat → Nat → Int32) : Prop := M.1 0 25 = nn n ∧ ∀ i k, i < n → k < 101 → M.1 13 (101 * i + k) = u i k
theorem past_open {M1 M2 : fm_M} (h : rPast M1 M2) : ∃ n u, pC M1 n u ∧ pM M2 n u := by
  obtain ⟨n, h0, h1, h2, h3, h4, h5⟩ := h
  exact ⟨n, gundo M2, ⟨h0, h1, h3, h4, h5⟩, h2, fun i k _ _ => rfl⟩
theorem past_close {M1 M2 : fm_M} {n : Nat} {u : Nat → Nat → Int32} (h : pC M1 n u) (h' : pM M2 n u) : rPast M1 M2 := by
  obtain ⟨h0, h1, h3, h4, h5⟩ := h
  refine ⟨n, h0, h1, h'.1, h3, h4, fun i hi => ?_⟩
  obtain ⟨a1, a2⟩ := h5 i hi
  have e : ∀ k, k < 101 → gundo M2 i k = u i k := fun k hk => h'.2 i k hi hk
  exact ⟨gV_congr a1 e, rS_congr a1 a2 e⟩
theorem sc_past : ∀ j : Fin 8, fm_sc (61 + 14 * j.val) = true := by decide
def nx (n : Nat) : Nat := if n = 8 then 8 else n + 1
def ux (n : Nat) (u : Nat → Nat → Int32) (g : Nat → Int32) : Nat → Nat → Int32 := fun i => if n = 8 then (if i = 7 then g else u (i + 1)) else (if i = n then g else u i)
theorem sr_at {M : fm_M} {j i v : Nat} : (fm_sr M j v).2.2 i = if i = j then v else M.2.2 i := rfl
theorem cs_dropOldest {N : Nat} {M : fm_M} {u : Nat → Nat → Int32} (hN : 4000 ≤ N) (h : pC M 8 u) : ok (pPast_dropOldest N M) (fun M' => fz (fun k => k = 59) M M' ∧ pC M' 7 (fun i => u (i + 1))) := by
  obtain ⟨h0, h1, h2, h3, h4⟩ := h
  unfold pPast_dropOldest
  refine ok_for 7 (fun i t => t.1 = nn (i + 1) ∧ t.2.1 = M.1 ∧ t.2.2.1 = M.2.1 ∧ ∀ c, t.2.2.2 c = if c < i then M.2.2 (c + 1) else M.2.2 c) ?_ ?_ ⟨rfl, rfl, rfl, fun c => by rw [if_neg (by omega)]⟩ (by omega)
  · rintro i ⟨v, M3⟩ hi ⟨a1, a2, a3, a4⟩ k hk
    try dsimp only at a1 a2 a3 a4
    subst a1
    unfold pPast_dropOldest_L9 pPast_dropOldest_L9b
    try dsimp only
    refine ok_neg (by rw [show (8 : Int32) = nn 8 from rfl, nn_le nB nB]; omega) (ok_ix (by omega) nL ?_)
    have ei : M3.2.2 (i + 1) = M.2.2 (i + 1) := by rw [a4, if_neg (by omega)]
    obtain ⟨j, hj, ej⟩ := h2 (i + 1) (by omega)
    refine ok_rq (by rw [ei, ej]; exact sc_past ⟨j, hj⟩) ?_
    rw [show nn (i + 1) - 1 = nn i from nn_sub (i := i + 1) (j := 1) (by omega)]
    unfold fm_sp
    refine ok_pos (nn_in (by omega) nL) ?_
    rw [nn_toNat nB]
    refine hk _ ⟨nn_succ, a2, a3, ?_⟩
    intro c
    try dsimp only
    rw [sr_at, ei]
    by_cases e : c = i
    · rw [if_pos e, if_pos (by omega), e]
    · rw [if_neg e, a4]
      by_cases e2 : c < i
      · rw [if_pos e2, if_pos (by omega)]
      · rw [if_neg e2, if_neg (by omega)]
  · rintro ⟨v, M3⟩ ⟨a1, a2, a3, a4⟩ k
    try dsimp only at a1 a2 a3 a4
    subst a1
    unfold pPast_dropOldest_L9 pPast_dropOldest_L9b
    try dsimp only
    obtain ⟨j, hj, ej⟩ := h2 0 (by decide)
    refine ok_pos (by decide) (ok_rq (by rw [ej]; exact sc_past ⟨j, hj⟩) ?_)
    unfold fm_sp
    refine ok_pos (by decide) (ok_pt (ok_some ?_))
    have e7 : (8 - 1 : Int32).toNatClampNeg = 7 := by decide
    rw [e7]
    have eM : (fm_sr M3 7 (M.2.2 0)).1 = M.1 := a2
    have eX : ∀ c, (fm_si (fm_sr M3 7 (M.2.2 0)) 59 1 ((fm_sr M3 7 (M.2.2 0)).1 59 1 - 1)).2.2 c = if c < 7 then M.2.2 (c + 1) else if c = 7 then M.2.2 0 else M.2.2 c := by
      intro c
      show (if c = 7 then M.2.2 0 else M3.2.2 c) = _
      rw [a4]
      by_cases e : c = 7
      · rw [if_pos e, if_neg (by omega), if_pos e]
      · rw [if_neg e, if_neg e]
    refine ⟨⟨fun k hk => ?_, fun k _ => ?_⟩, by decide, ?_, ?_, ?_, ?_⟩
    · rw [si_row hk, eM]
    · show M3.2.1 k = _
      rw [a3]
    · rw [si_same, eM, h1]
      exact nn_sub (i := 8) (j := 1) (by decide)
    · intro i hi
      rw [eX]
      by_cases e : i < 7
      · rw [if_pos e]; exact h2 (i + 1) (by omega)
      · rw [if_neg e, if_pos (by omega)]; exact h2 0 (by decide)
    · intro i j hi hj
      rw [eX, eX]
      by_cases e : i < 7
      · rw [if_pos e]
        by_cases e2 : j < 7
        · rw [if_pos e2]
          intro z
          have := h3 (i + 1) (j + 1) (by omega) (by omega) z
          omega
        · rw [if_neg e2, if_pos (by omega)]
          intro z
          have := h3 (i + 1) 0 (by omega) (by omega) z
          omega
      · rw [if_neg e, if_pos (by omega)]
        by_cases e2 : j < 7
        · rw [if_pos e2]
          intro z
          have := h3 0 (j + 1) (by omega) (by omega) z
          omega
        · intro _
          omega
    · intro i hi
      obtain ⟨b1, b2⟩ := h4 (i + 1) (by omega)
      refine ⟨b1, ?_⟩
      rw [eX, if_pos hi]
      obtain ⟨j, hj, ej⟩ := h2 (i + 1) (by omega)
      exact b2.kept (fun a z1 z2 => by rw [si_row (by omega), eM]) b1
theorem cs_push {N : Nat} {M : fm_M} {n : Nat} {u : Nat → Nat → Int32} {g : Nat → Int32} (hN : 4000 ≤ N) (h : pC M n u) (hg : gV g) (hr : rS M 15 g) : ok (pPast_push N M) (fun M' => fz (fun k => 59 ≤ k ∧ k < 173) M M' ∧ pC M' (nx n) (ux n u g)) := by
  have key : ∀ (M : fm_M) (n : Nat) (u : Nat → Nat → Int32), n < 8 → pC M n u → rS M 15 g → ok (pPast_push_J16 N M) (fun M' => fz (fun k => 59 ≤ k ∧ k < 173) M M' ∧ pC M' (n + 1) (fun i => if i = n then g else u i)) := by
    intro M n u hn ⟨h0, h1, h2, h3, h4⟩ hr
    unfold pPast_push_J16
    rw [h1]
    refine ok_ix hn nL ?_
    obtain ⟨j, hj, ej⟩ := h2 n hn
    refine ok_bind (cp_copyZ (by omega) (by rw [ej]; exact sc_past ⟨j, hj⟩) (by decide) (by omega) hg hr) ?_
    rintro M3 ⟨f3, r3⟩
    refine ok_pt (ok_some ⟨⟨fun k hk => ?_, fun k hk => ?_⟩, by omega, ?_, ?_, ?_, ?_⟩)
    · rw [si_row (by omega)]
      exact f3.1 k (by omega)
    · exact f3.2.1 k (by omega)
    · rw [si_same, f3.at1 (by (try dsimp only); omega), h1, nn_succ]
    · intro i hi
      show ∃ j, j < 8 ∧ M3.2.2 i = _
      rw [f3.2.2]; exact h2 i hi
    · intro i j hi hj
      show M3.2.2 i = M3.2.2 j → _
      rw [f3.2.2]; exact h3 i j hi hj
    · intro i hi
      show _ ∧ rS _ (M3.2.2 i) _
      rw [f3.2.2]
      try dsimp only
      by_cases e : i = n
      · subst e
        rw [if_pos rfl]
        exact ⟨hg, r3.kept (fun a z1 z2 => si_row (by omega)) hg⟩
      · rw [if_neg e]
        obtain ⟨b1, b2⟩ := h4 i (by omega)
        obtain ⟨j', hj', ej'⟩ := h2 i (by omega)
        have hne : M.2.2 i ≠ M.2.2 n := fun z => e (h3 i n (by omega) hn z)
        exact ⟨b1, b2.kept (fun a z1 z2 => by rw [si_row (by omega)]; exact f3.1 a (by omega)) b1⟩
  unfold pPast_push
  by_cases c : n = 8
  · subst c
    refine ok_pos h.2.1 (ok_bind (cs_dropOldest hN h) ?_)
    rintro M3 ⟨f3, p3⟩
    refine ok_mono (key M3 7 _ (by decide) p3 (hr.kept (fun a z1 z2 => f3.1 a (by omega)) hg)) ?_
    rintro M4 ⟨f4, p4⟩
    refine ⟨(f3.up (fun k hk => by omega)).tr f4, ?_⟩
    exact p4
  · have hn := h.1
    refine ok_neg (by rw [h.2.1, show (8 : Int32) = nn 8 from rfl, nn_inj nB nB]; exact c) ?_
    refine ok_mono (key M n u (by omega) h hr) ?_
    rintro M4 ⟨f4, p4⟩
    refine ⟨f4, ?_⟩
    unfold nx ux
    rw [if_neg c]
    have e : (fun i => if n = 8 then (if i = 7 then g else u (i + 1)) else (if i = n then g else u i)) = (fun i => if i = n then g else u i) := by
      funext i
      rw [if_neg c]
    rw [e]
    exact p4
