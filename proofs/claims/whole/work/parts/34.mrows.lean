/-! ===== the model's rows: beams, blocked ones, clean ones, power and level ===== -/
theorem cmp_lt {x y : Int64} : lg_cmp x y < 0 ↔ x < y := by
  unfold lg_cmp
  by_cases h1 : x > y
  · rw [if_pos h1]
    exact ⟨fun h => absurd h (by decide), fun h => absurd h1 (fun q => Int64.lt_irrefl (Int64.lt_trans h q))⟩
  · rw [if_neg h1]
    by_cases h2 : x = y
    · rw [if_pos h2, h2]
      exact ⟨fun h => absurd h (by decide), fun h => absurd h Int64.lt_irrefl⟩
    · rw [if_neg h2]
      refine ⟨fun _ => ?_, fun _ => by decide⟩
      rcases Int64.lt_or_le x y with h | h
      · exact h
      · exact absurd (Int64.lt_of_le_of_ne h (fun e => h2 e.symm)) h1
theorem cmp_gt {x y : Int64} : 0 < lg_cmp x y ↔ y < x := by
  unfold lg_cmp
  by_cases h1 : x > y
  · rw [if_pos h1]
    exact ⟨fun _ => h1, fun _ => by decide⟩
  · rw [if_neg h1]
    by_cases h2 : x = y
    · rw [if_pos h2]
      exact ⟨fun h => absurd h (by decide), fun h => absurd h h1⟩
    · rw [if_neg h2]
      exact ⟨fun h => absurd h (by decide), fun h => absurd h h1⟩
theorem cmp_ge {x y : Int64} : 0 ≤ lg_cmp x y ↔ ¬ x < y := by
  rw [← cmp_lt, Int32.not_lt]
theorem cmp_le {x y : Int64} : lg_cmp x y ≤ 0 ↔ ¬ y < x := by
  rw [← cmp_gt, Int32.not_lt]
theorem md_has {M : fm_M} {s m : Nat} (hs : s < 64) (hm : m < 7) : pModel_has M (nn s) (nn m) = some (if s.testBit m then 1 else 0) := by
  unfold pModel_has
  cases h : s.testBit m
  · rw [if_neg (fun q => by rw [(bt_at1 hs hm).mp q] at h; cases h)]
    rfl
  · rw [if_pos ((bt_at1 hs hm).mpr h)]
    rfl
/-! a row is filled -/
theorem ok_fill {ρ : Type} {step : (Int32 × fm_M → Option ρ) → Int32 × fm_M → Option ρ} {Q : ρ → Prop} {M : fm_M} (k n : Nat) (f : Nat → Int32) (hs : ∀ i M1, i < n → fr (fun a => a = k) M M1 → (∀ j, j < i → M1.1 k j = f j) → ∀ kk, step kk (nn i, M1) = kk (nn (i + 1), fm_si M1 k i (f i))) (he : ∀ M1, fr (fun a => a = k) M M1 → (∀ j, j < n → M1.1 k j = f j) → ∀ kk, ok (step kk (nn n, M1)) Q) {N : Nat} (hN : n < N) : ok (fm_lp step N (0, M)) Q := by
  refine ok_for n (fun i s => s.1 = nn i ∧ fr (fun a => a = k) M s.2 ∧ ∀ j, j < i → s.2.1 k j = f j) ?_ ?_ ⟨rfl, fr.rf, fun j h => absurd h (Nat.not_lt_zero _)⟩ hN
  · rintro i ⟨v, M1⟩ hi ⟨h1, h2, h3⟩ kk hk
    dsimp only at h1 h2 h3
    subst h1
    rw [hs i M1 hi h2 h3 kk]
    refine hk _ ⟨rfl, h2.tr (fr.si rfl), ?_⟩
    intro j hj
    try dsimp only
    by_cases e : j = i
    · subst e; rw [si_same]
    · rw [si_col e]; exact h3 j (by omega)
  · rintro ⟨v, M1⟩ ⟨h1, h2, h3⟩ kk
    dsimp only at h1 h2 h3
    subst h1
    exact he M1 h2 h3 kk
/-! BEAM -/
def bm (T : Nat → Int32) (s : Nat) : Int32 := if s = 0 then 0 else sm (fun m => if s.testBit m then T m else 0) 6 / nn (pop s)
theorem pop_pos {s : Nat} (hs : s < 64) (h0 : s ≠ 0) : 0 < pop s := by
  have := st_clr ⟨s, hs⟩ h0
  dsimp only at this
  omega
theorem set_64 {s n : Nat} (hs : s < 2 ^ n) (hn : n ≤ 6) : s < 64 := Nat.lt_of_lt_of_le hs (Nat.pow_le_pow_right (n := 2) (by decide) hn)
theorem set_bit {s n m : Nat} (hs : s < 2 ^ n) (h : s.testBit m = true) : m < n := by
  by_cases q : m < n
  · exact q
  · have := Nat.testBit_lt_two_pow (x := s) (i := m) (Nat.lt_of_lt_of_le hs (Nat.pow_le_pow_right (by decide) (by omega)))
    rw [this] at h
    cases h
theorem lvs_2 {g : Nat → Int32} : lvs g < 2 ^ gn g := bset_lt _
theorem md_beamOf {N : Nat} {M : fm_M} {H : Nat → Int → Int32} (hN : 4000 ≤ N) (hg : gV (M.1 1)) (hS : sM M H) {s : Nat} {b t : Int} (hs : s < 2 ^ gn (M.1 1)) (hb : -8 ≤ b ∧ b ≤ 8) (ht : -250 ≤ t ∧ t ≤ 250) : pModel_beamOf N M (nn s) (ii b) (ii t) = some (bm (fun m => tr (M.1 1) H m b t) s) := by
  obtain ⟨en, hn6⟩ := hg.n
  have h64 := set_64 hs hn6
  unfold pModel_beamOf
  refine lp_for (gn (M.1 1)) (fun i => (sm (fun m => if s.testBit m then tr (M.1 1) H m b t else 0) i, nn i)) _ ?_ ?_ (by omega)
  · intro i hi k
    unfold pModel_beamOf_L6 pModel_beamOf_L6b
    try dsimp only
    rw [en, if_neg (by rw [nn_le nB nB]; omega)]
    refine (bindE (md_has h64 (by omega))).trans ?_
    show _ = k (sm (fun m => if s.testBit m then tr (M.1 1) H m b t else 0) i + (if s.testBit i then tr (M.1 1) H i b t else 0), _)
    cases h : s.testBit i
    · rw [if_pos (by decide), nn_succ]
      rfl
    · rw [if_neg (by decide)]
      refine (bindE (md_turnedOf hg hS hi hb ht)).trans ?_
      try dsimp only
      rw [nn_succ]
      rfl
  · intro k
    unfold pModel_beamOf_L6 pModel_beamOf_L6b
    try dsimp only
    rw [en, if_pos (by rw [nn_le nB nB]; omega)]
    unfold bm
    by_cases h0 : s = 0
    · subst h0
      rfl
    · have := pop_pos h64 h0
      have := pop_le h64
      rw [if_neg (by rw [show (0 : Int32) = nn 0 from rfl, nn_inj nB nB]; exact h0), if_neg h0]
      refine (bindE (bt_countBits (by omega) h64)).trans ?_
      rw [nzE (by rw [show (0 : Int32) = nn 0 from rfl]; intro q; rw [nn_inj nB nB] at q; omega)]
      congr 2
      refine (sm_more ?_ hn6).symm
      intro i hi
      have : s.testBit i = false := by
        cases h : s.testBit i
        · rfl
        · have := set_bit hs h; omega
      rw [this]
      rfl
/-! the j-th of a set -/
def lva (s j : Nat) : Nat := ((List.range 6).filter (fun m => s.testBit m)).getD j 6
def la (s : Nat) : Nat → Nat → Nat → Option Nat
  | 0, _, _ => none
  | f + 1, m, j => if s.testBit m = true then (if j = 0 then some m else la s f (m + 1) (j - 1)) else la s f (m + 1) j
theorem st_la : ∀ s : Fin 64, ∀ j : Fin 6, j.val < pop s → la s 7 0 j = some (lva s j) ∧ lva s j < 6 ∧ s.val.testBit (lva s j) = true := by decide +kernel
theorem la_run {N : Nat} {M : fm_M} {s : Nat} (hs : s < 64) : ∀ (f N' m j r : Nat), la s f m j = some r → m + f ≤ 7 → j < 100 → fm_lp (pModel_liveAt_L4 N M (nn s)) (N' + f) (nn m, nn j) = some (nn r) := by
  intro f
  induction f with
  | zero => intro N' m j r h; cases h
  | succ f ih =>
    intro N' m j r h hm hj
    have hJ : ∀ (k : Int32 × Int32 → Option Int32), pModel_liveAt_J16 N M (nn s) (nn m) (nn j) k = if s.testBit m = true then k (nn (m + 1), nn j - 1) else k (nn (m + 1), nn j) := by
      intro k
      unfold pModel_liveAt_J16
      refine (bindE (md_has hs (by omega))).trans ?_
      cases h : s.testBit m
      · rw [if_pos (by decide), Int32.sub_zero, nn_succ]; rfl
      · rw [if_neg (by decide), nn_succ]; rfl
    show pModel_liveAt_L4 N M (nn s) (fm_lp (pModel_liveAt_L4 N M (nn s)) (N' + f)) (nn m, nn j) = _
    unfold pModel_liveAt_L4 pModel_liveAt_L4b
    refine (bindE (md_has hs (by omega))).trans ?_
    try dsimp only
    rw [hJ]
    unfold la at h
    cases h2 : s.testBit m
    · rw [h2] at h
      rw [if_pos (by decide)]
      exact ih N' (m + 1) j r h (by omega) hj
    · rw [h2] at h
      rw [if_neg (by decide)]
      by_cases h3 : j = 0
      · subst h3
        rw [if_pos rfl, if_pos rfl] at h
        rw [if_pos (by decide)]
        rw [Option.some.inj h]
      · rw [if_pos rfl, if_neg h3] at h
        rw [if_neg (by rw [show (0 : Int32) = nn 0 from rfl, nn_le nB nB]; omega), if_pos rfl, show (1 : Int32) = nn 1 from rfl, nn_sub (by omega)]
        exact ih N' (m + 1) (j - 1) r h (by omega) (by omega)
theorem md_liveAt {N : Nat} {M : fm_M} (hN : 4000 ≤ N) {s j : Nat} (hs : s < 64) (hj : j < pop s) : pModel_liveAt N M (nn s) (nn j) = some (nn (lva s j)) := by
  have := pop_le hs
  unfold pModel_liveAt
  have e : N = (N - 7) + 7 := by omega
  have h := la_run (N := N) (M := M) hs 7 (N - 7) 0 j _ (st_la ⟨s, hs⟩ ⟨j, by omega⟩ hj).1 (by omega) (by omega)
  rw [← e] at h
  exact h
theorem lva_lt {s j n : Nat} (hs : s < 2 ^ n) (hn : n ≤ 6) (hj : j < pop s) : lva s j < n := by
  have h64 := set_64 hs hn
  have := pop_le h64
  exact set_bit hs (st_la ⟨s, h64⟩ ⟨j, by omega⟩ hj).2.2
def bk (T : Nat → Int32) (s j : Nat) : Int32 := T (lva s j) - T (lva s (j + 1))
theorem md_blockedOf {N : Nat} {M : fm_M} {H : Nat → Int → Int32} (hN : 4000 ≤ N) (hg : gV (M.1 1)) (hS : sM M H) {s j : Nat} {b t : Int} (hs : s < 2 ^ gn (M.1 1)) (hj : j + 1 < pop s) (hb : -8 ≤ b ∧ b ≤ 8) (ht : -250 ≤ t ∧ t ≤ 250) : pModel_blockedOf N M (nn s) (ii b) (nn j) (ii t) = some (bk (fun m => tr (M.1 1) H m b t) s j) := by
  have hn6 := hg.n.2
  have h64 := set_64 hs hn6
  unfold pModel_blockedOf
  refine (bindE (md_liveAt hN h64 (by omega))).trans ?_
  refine (bindE (md_turnedOf hg hS (lva_lt hs hn6 (by omega)) hb ht)).trans ?_
  try dsimp only
  rw [nn_succ]
  refine (bindE (md_liveAt hN h64 hj)).trans ?_
  exact (bindE (md_turnedOf hg hS (lva_lt hs hn6 hj) hb ht)).trans rfl
theorem gb_t {g : Nat → Int32} (hg : gV g) (i : Nat) : g 38 + nn i = ii ((gb g : Int) + (i : Int)) := by
  rw [hg.b.1, nn_ii, nn_ii, ii_add]
theorem md_layBeam {N : Nat} {M : fm_M} {H : Nat → Int → Int32} (hN : 4000 ≤ N) (hg : gV (M.1 1)) (hS : sM M H) {s : Nat} {b : Int} (hs : s < 2 ^ gn (M.1 1)) (hb : -8 ≤ b ∧ b ≤ 8) : ok (pModel_layBeam N M (nn s) (ii b)) (fun M' => fr (fun k => k = 7) M M' ∧ ∀ i, i < gl (M.1 1) → M'.1 7 i = bm (fun m => tr (M.1 1) H m b ((gb (M.1 1) : Int) + i)) s) := by
  obtain ⟨el, hl4, hl48⟩ := hg.l
  have hB := hg.b.2
  unfold pModel_layBeam
  refine ok_fill 7 (gl (M.1 1)) (fun i => bm (fun m => tr (M.1 1) H m b ((gb (M.1 1) : Int) + i)) s) ?_ ?_ (by omega)
  · intro i M1 hi h2 h3 kk
    have e1 : M1.1 1 = M.1 1 := h2.at1 (by decide)
    have e5 : M1.1 5 = M.1 5 := h2.at1 (by decide)
    unfold pModel_layBeam_L2 pModel_layBeam_L2b
    try dsimp only
    rw [e1, el, if_neg (by rw [nn_le nB nB]; omega), gb_t hg]
    have hS1 : sM M1 H := by unfold sM; rw [e1, e5]; exact hS
    refine (bindE (md_beamOf (M := M1) hN (by rw [e1]; exact hg) hS1 (by rw [e1]; exact hs) hb (by omega))).trans ?_
    rw [stE (by omega) nL, nn_succ, e1]
  · intro M1 h2 h3 kk
    have e1 : M1.1 1 = M.1 1 := h2.at1 (by decide)
    unfold pModel_layBeam_L2 pModel_layBeam_L2b
    try dsimp only
    refine ok_pos (by rw [e1, el, nn_le nB nB]; omega) (ok_some ⟨h2, h3⟩)
/-! CLEAN -/
def cl (B : Nat → Int32) (K : Nat → Nat → Int32) (w : Nat → Int32) (W i : Nat) : Int32 := B i - sm (fun j => w j * K j i) W / 16
theorem ix_48 (j i : Nat) : (48 * nn j) + nn i = nn (48 * j + i) := by
  rw [show (48 : Int32) = nn 48 from rfl, nn_mul, nn_add]
theorem md_layClean {N : Nat} {M : fm_M} {W : Nat} (hN : 4000 ≤ N) (hg : gV (M.1 1)) (hW : M.1 0 15 = nn W) (hW5 : W ≤ 5) : ok (pModel_layClean N M) (fun M' => fr (fun k => k = 9) M M' ∧ ∀ i, i < gl (M.1 1) → M'.1 9 i = cl (M.1 7) (fun j i => M.1 8 (48 * j + i)) (M.1 6) W i) := by
  obtain ⟨el, hl4, hl48⟩ := hg.l
  unfold pModel_layClean
  refine ok_fill 9 (gl (M.1 1)) (fun i => cl (M.1 7) (fun j i => M.1 8 (48 * j + i)) (M.1 6) W i) ?_ ?_ (by omega)
  · intro i M1 hi h2 h3 kk
    have e1 : M1.1 1 = M.1 1 := h2.at1 (by decide)
    have e0 : M1.1 0 = M.1 0 := h2.at1 (by decide)
    have e6 : M1.1 6 = M.1 6 := h2.at1 (by decide)
    have e7 : M1.1 7 = M.1 7 := h2.at1 (by decide)
    have e8 : M1.1 8 = M.1 8 := h2.at1 (by decide)
    unfold pModel_layClean_L2 pModel_layClean_L2b
    try dsimp only
    rw [e1, el, if_neg (by rw [nn_le nB nB]; omega)]
    refine lp_for W (fun j => (sm (fun j => M.1 6 j * M.1 8 (48 * j + i)) j, nn j)) _ ?_ ?_ (by omega)
    · intro j hj k
      unfold pModel_layClean_L17 pModel_layClean_L17b
      try dsimp only
      rw [e0, hW, if_neg (by rw [nn_le nB nB]; omega), ldE (by omega) nL, ix_48, ldE (by omega) nL, nn_succ, e6, e8]
      rfl
    · intro k
      unfold pModel_layClean_L17 pModel_layClean_L17b
      try dsimp only
      rw [e0, hW, if_pos (by rw [nn_le nB nB]; omega), ldE (by omega) nL, stE (by omega) nL, nn_succ, e7]
      rfl
  · intro M1 h2 h3 kk
    have e1 : M1.1 1 = M.1 1 := h2.at1 (by decide)
    unfold pModel_layClean_L2 pModel_layClean_L2b
    try dsimp only
    exact ok_pos (by rw [e1, el, nn_le nB nB]; omega) (ok_some ⟨h2, h3⟩)
/-! POWER, LEVEL -/
def sl (f : Nat → Int64) : Nat → Int64
  | 0 => 0
  | n + 1 => sl f n + f n
def pw (r : Nat → Int32) (L : Nat) : Int64 := sl (fun i => (r i).toInt64 * (r i).toInt64) L / (nn L).toInt64
def lvl (r : Nat → Int32) (L : Nat) : Int32 := sm (fun i => jabs (r i)) L / nn L
theorem sl_congr {f h : Nat → Int64} : ∀ {n : Nat}, (∀ i, i < n → f i = h i) → sl f n = sl h n
  | 0, _ => rfl
  | n + 1, e => by
    show sl f n + f n = sl h n + h n
    rw [sl_congr (fun i hi => e i (by omega)), e n (by omega)]
theorem pw_congr {r q : Nat → Int32} {L : Nat} (e : ∀ i, i < L → r i = q i) : pw r L = pw q L := by
  unfold pw
  rw [sl_congr (fun i hi => by rw [e i hi])]
theorem lvl_congr {r q : Nat → Int32} {L : Nat} (e : ∀ i, i < L → r i = q i) : lvl r L = lvl q L := by
  unfold lvl
  rw [sm_congr (fun i hi => by rw [e i hi])]
theorem nn_ne0 {L : Nat} (h : 0 < L) (h2 : L < 2000000000) : nn L ≠ 0 := by
  rw [show (0 : Int32) = nn 0 from rfl]
  intro q
  rw [nn_inj nB nB] at q
  omega
theorem nn_ne0l {L : Nat} (h : 0 < L) (h2 : L < 2000000000) : (nn L).toInt64 ≠ 0 := by
  intro q
  have := congrArg Int64.toInt q
  rw [Int32.toInt_toInt64, nn_toInt nB] at this
  have e : (0 : Int64).toInt = 0 := rfl
  omega
theorem md_powerOf {N : Nat} {M : fm_M} (hN : 4000 ≤ N) (hg : gV (M.1 1)) (v : Nat) (hv : fm_n shM v = 48) : pModel_powerOf N M v = some (pw (M.1 v) (gl (M.1 1))) := by
  obtain ⟨el, hl4, hl48⟩ := hg.l
  unfold pModel_powerOf
  refine lp_for (gl (M.1 1)) (fun i => (sl (fun i => (M.1 v i).toInt64 * (M.1 v i).toInt64) i, nn i)) _ ?_ ?_ (by omega)
  · intro i hi k
    unfold pModel_powerOf_L5 pModel_powerOf_L5b
    try dsimp only
    rw [el, if_neg (by rw [nn_le nB nB]; omega), hv, ldE (by omega) nL, ldE (by omega) nL, nn_succ]
    rfl
  · intro k
    unfold pModel_powerOf_L5 pModel_powerOf_L5b
    try dsimp only
    rw [el, if_pos (by rw [nn_le nB nB]; omega), nzlE (nn_ne0l (by omega) (by omega))]
    rfl
theorem md_levelOf {N : Nat} {M : fm_M} (hN : 4000 ≤ N) (hg : gV (M.1 1)) (v : Nat) (hv : fm_n shM v = 48) : pModel_levelOf N M v = some (lvl (M.1 v) (gl (M.1 1))) := by
  obtain ⟨el, hl4, hl48⟩ := hg.l
  unfold pModel_levelOf
  refine lp_for (gl (M.1 1)) (fun i => (sm (fun i => jabs (M.1 v i)) i, nn i)) _ ?_ ?_ (by omega)
  · intro i hi k
    unfold pModel_levelOf_L4 pModel_levelOf_L4b
    try dsimp only
    rw [el, if_neg (by rw [nn_le nB nB]; omega), hv, ldE (by omega) nL, nn_succ]
    rfl
  · intro k
    unfold pModel_levelOf_L4 pModel_levelOf_L4b
    try dsimp only
    rw [el, if_pos (by rw [nn_le nB nB]; omega), nzE (nn_ne0 (by omega) (by omega))]
    rfl
def bs (n : Nat) : Int32 := if n % 2 = 1 then nn ((n + 1) / 2) else ii (-((n / 2 : Nat) : Int))
theorem st_bs : ∀ n : Fin 34, pModel_turn fm_m0 (nn n) = some (bs n) ∧ pMicRow_bySize fm_m0 (nn n) = some (bs n) := by decide +kernel
theorem md_turn {M : fm_M} {n : Nat} (h : n < 34) : pModel_turn M (nn n) = some (bs n) := (st_bs ⟨n, h⟩).1
theorem cs_bySize {M : fm_M} {n : Nat} (h : n < 34) : pMicRow_bySize M (nn n) = some (bs n) := (st_bs ⟨n, h⟩).2
