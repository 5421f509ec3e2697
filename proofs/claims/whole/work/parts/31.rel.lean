/-! ===== the two sides' memories, held against each other ===== -/
def bd (x : Int32) (a b : Int) : Prop := a ≤ x.toInt ∧ x.toInt ≤ b
/-- a scene as the model lays it: how many mics, how many sources, how many steps -/
def gn (g : Nat → Int32) : Nat := (g 0).toNatClampNeg
def gs (g : Nat → Int32) : Nat := (g 40).toNatClampNeg
def gst (g : Nat → Int32) (s : Nat) : Nat := (g (43 + 15 * s)).toNatClampNeg
def gV (g : Nat → Int32) : Prop :=
  bd (g 0) 0 6 ∧ bd (g 40) 0 4 ∧ bd (g 37) 1 9999 ∧ bd (g 38) 0 200 ∧ bd (g 39) 4 48 ∧
  (∀ m, m < gn g → bd (g (1 + 6 * m)) 0 40 ∧ bd (g (2 + 6 * m)) 1 400 ∧ bd (g (3 + 6 * m)) 0 9 ∧ bd (g (4 + 6 * m)) 1 200 ∧ bd (g (5 + 6 * m)) 0 1 ∧ bd (g (6 + 6 * m)) 0 1) ∧
  (∀ s, s < gs g → bd (g (41 + 15 * s)) (-8) 8 ∧ bd (g (42 + 15 * s)) 1 9 ∧ bd (g (43 + 15 * s)) 2 12 ∧ ∀ j, j < gst g s → bd (g (44 + 15 * s + j)) (-4) 4)
/-- the class's scene at b shows g -/
def rS (M : fm_M) (b : Nat) (g : Nat → Int32) : Prop :=
  M.1 b 0 = g 0 ∧ M.1 b 1 = g 40 ∧ (∀ j, j < 3 → M.1 (b + 13) j = g (37 + j)) ∧ (∀ m q, m < gn g → q < 6 → M.1 (b + 2 + q) m = g (1 + 6 * m + q)) ∧ ∀ s j, s < gs g → j < 3 + gst g s → M.1 (b + 9 + s) j = g (41 + 15 * s + j)
theorem rS.kept {M M' : fm_M} {b : Nat} {g : Nat → Int32} (h : rS M b g) (hk : ∀ a, b ≤ a → a < b + 14 → M'.1 a = M.1 a) (hg : gV g) : rS M' b g := by
  obtain ⟨h1, h2, h3, h4, h5⟩ := h
  have hs : gs g ≤ 4 := by
    have := hg.2.1
    unfold gs
    have e := Int32.toNat_toInt (g 40)
    unfold bd at this
    omega
  refine ⟨by rw [hk b (by omega) (by omega)]; exact h1, by rw [hk b (by omega) (by omega)]; exact h2, fun j hj => by rw [hk _ (by omega) (by omega)]; exact h3 j hj, fun m q hm hq => by rw [hk _ (by omega) (by omega)]; exact h4 m q hm hq, fun s j hs' hj => by rw [hk _ (by omega) (by omega)]; exact h5 s j hs' hj⟩
/-- the kept one, the undone one -/
def gkept (M2 : fm_M) (i : Nat) : Nat → Int32 := fun k => M2.1 17 (101 * i + k)
def gundo (M2 : fm_M) (i : Nat) : Nat → Int32 := fun k => M2.1 13 (101 * i + k)
def rNow (M1 M2 : fm_M) : Prop := gV (M2.1 1) ∧ rS M1 1 (M2.1 1)
def rText (M1 M2 : fm_M) : Prop := ∃ n : Nat, n ≤ 80 ∧ M1.1 173 1 = nn n ∧ M2.1 0 2 = nn n ∧ ∀ i, i < n → M1.1 174 i = M2.1 2 i &&& 255 ∧ bd (M2.1 2 i) (-128) 127
def rTold (M1 M2 : fm_M) : Prop := ∃ n : Nat, n ≤ 17 ∧ M1.1 176 1 = nn n ∧ M2.1 0 4 = nn n ∧ ∀ i, i < n → M1.2.1 177 i = M2.2.1 3 i
def rKept (M1 M2 : fm_M) : Prop := ∀ i, i < 2 → M1.1 58 i = M2.1 18 i ∧ (M2.1 18 i ≠ 0 → gV (gkept M2 i) ∧ rS M1 (30 + 14 * i) (gkept M2 i))
def rPast (M1 M2 : fm_M) : Prop := ∃ n : Nat, n ≤ 8 ∧ M1.1 59 1 = nn n ∧ M2.1 0 25 = nn n ∧ (∀ i, i < 8 → ∃ j, j < 8 ∧ M1.2.2 i = 61 + 14 * j) ∧ (∀ i j, i < 8 → j < 8 → M1.2.2 i = M1.2.2 j → i = j) ∧ ∀ i, i < n → gV (gundo M2 i) ∧ rS M1 (M1.2.2 i) (gundo M2 i)
def rEars (n : Nat) (M1 : fm_M) : Prop := ∃ q : Nat, q ≤ 100 * n ∧ M1.1 178 4 = nn q ∧ ∀ i, i < 3606 → (M1.1 180 i).toInt ≤ q
def rMod (M2 : fm_M) : Prop := M2.1 0 11 = -1 ∧ M2.1 0 12 = 300 ∧ M2.1 0 13 = -1
def RR (n : Nat) (M1 M2 : fm_M) : Prop := rNow M1 M2 ∧ rText M1 M2 ∧ rTold M1 M2 ∧ rKept M1 M2 ∧ rPast M1 M2 ∧ rEars n M1 ∧ rMod M2
theorem RR_up : ∀ n M1 M2, RR n M1 M2 → RR (n + 1) M1 M2 := by
  intro n M1 M2 ⟨h1, h2, h3, h4, h5, ⟨q, a, b, c⟩, h7⟩
  exact ⟨h1, h2, h3, h4, h5, ⟨q, by omega, b, c⟩, h7⟩
/-- Scenes lie apart -/
theorem sc_apart {a b : Nat} (ha : fm_sc a = true) (hb : fm_sc b = true) (h : a ≠ b) : a + 14 ≤ b ∨ b + 14 ≤ a := by
  simp only [fm_sc, List.contains_eq_mem, List.mem_cons, List.not_mem_nil, or_false, decide_eq_true_eq] at ha hb
  omega
theorem cpy_in {f g : Nat → Int32} {n i : Nat} (h : i < n) : va_cpy f g 0 0 n i = f i := by
  unfold va_cpy
  simp [h]
/-- what copyFrom does -/
def cpd (M M' : fm_M) (a b : Nat) : Prop := fr (fun k => a ≤ k ∧ k < a + 14) M M' ∧ M'.1 a 0 = M.1 b 0 ∧ M'.1 a 1 = M.1 b 1 ∧ (∀ j, j < 3 → M'.1 (a + 13) j = M.1 (b + 13) j) ∧ (∀ q m, q < 6 → m < 6 → M'.1 (a + 2 + q) m = M.1 (b + 2 + q) m) ∧ ∀ s j, s < 4 → j < 15 → M'.1 (a + 9 + s) j = M.1 (b + 9 + s) j
theorem cp_copyFrom {N : Nat} {M : fm_M} {a b : Nat} (hN : 10 < N) (ha : fm_sc a = true) (hb : fm_sc b = true) (hab : a ≠ b) : ok (pScene_copyFrom N M a b) (fun M' => cpd M M' a b) := by
  have hap := sc_apart ha hb hab
  unfold pScene_copyFrom
  refine ok_rq ha (ok_rq hb (ok_pt (ok_pt ?_)))
  have r1 : (fm_si M a 0 (M.1 b 0)).1 b = M.1 b := si_row (fun e => hab e.symm)
  rw [r1]
  generalize hM0 : fm_si (fm_si M a 0 (M.1 b 0)) a 1 (M.1 b 1) = M0
  have f0 : fr (fun k => a ≤ k ∧ k < a + 14) M M0 := by
    rw [← hM0]
    exact (fr.si (by omega)).tr (fr.si (by omega))
  have z0 : M0.1 a 0 = M.1 b 0 := by rw [← hM0, si_col (by decide), si_same]
  have z1 : M0.1 a 1 = M.1 b 1 := by rw [← hM0, si_same]
  refine ok_for 6 (fun i s => s.1 = nn i ∧ fr (fun k => a ≤ k ∧ k < a + 14) M s.2 ∧ s.2.1 a = M0.1 a ∧ ∀ q m, q < i → m < 6 → s.2.1 (a + 2 + q) m = M.1 (b + 2 + q) m) ?_ ?_ ⟨rfl, f0, rfl, fun q m h => absurd h (Nat.not_lt_zero _)⟩ (by omega)
  · rintro i ⟨v, M1⟩ hi ⟨h1, h2, h3, h4⟩ k hk
    dsimp only at h1 h2 h3 h4
    subst h1
    unfold pScene_copyFrom_L18 pScene_copyFrom_L18b
    dsimp only
    refine ok_neg (by rw [show (6 : Int32) = nn 6 from rfl, nn_le (by unfold mr_B; omega) (by unfold mr_B; omega)]; omega) (ok_ix hi (by unfold mr_B; omega) (ok_ix hi (by unfold mr_B; omega) (ok_cp (hk _ ⟨nn_succ, ?_, ?_, ?_⟩))))
    · exact h2.tr (fr.row (by omega))
    · exact (fm_row_ne (by omega)).trans h3
    · intro q m hq hm
      dsimp only
      rw [row_at]
      by_cases e : q = i
      · subst e
        rw [if_pos rfl, cpy_in hm, h2.1 _ (by omega)]
      · rw [if_neg (by omega)]
        exact h4 q m (by omega) hm
  · rintro ⟨v, M1⟩ ⟨h1, h2, h3, h4⟩ k
    dsimp only at h1 h2 h3 h4
    subst h1
    unfold pScene_copyFrom_L18 pScene_copyFrom_L18b
    dsimp only
    refine ok_pos (by decide) ?_
    refine ok_for 4 (fun i s => s.1 = nn i ∧ fr (fun k => a ≤ k ∧ k < a + 14) M s.2 ∧ s.2.1 a = M0.1 a ∧ (∀ q m, q < 6 → m < 6 → s.2.1 (a + 2 + q) m = M.1 (b + 2 + q) m) ∧ ∀ q j, q < i → j < 15 → s.2.1 (a + 9 + q) j = M.1 (b + 9 + q) j) ?_ ?_ ⟨rfl, h2, h3, h4, fun q m h => absurd h (Nat.not_lt_zero _)⟩ (by omega)
    · rintro i ⟨v, M1⟩ hi ⟨h1, h2, h3, h4, h5⟩ k hk
      dsimp only at h1 h2 h3 h4 h5
      subst h1
      unfold pScene_copyFrom_L54 pScene_copyFrom_L54b
      dsimp only
      refine ok_neg (by rw [show (4 : Int32) = nn 4 from rfl, nn_le (by unfold mr_B; omega) (by unfold mr_B; omega)]; omega) (ok_ix hi (by unfold mr_B; omega) (ok_ix hi (by unfold mr_B; omega) (ok_cp (hk _ ⟨nn_succ, ?_, ?_, ?_, ?_⟩))))
      · exact h2.tr (fr.row (by omega))
      · exact (fm_row_ne (by omega)).trans h3
      · intro q m hq hm
        dsimp only
        rw [row_at, if_neg (by omega)]
        exact h4 q m hq hm
      · intro q j hq hj
        dsimp only
        rw [row_at]
        by_cases e : q = i
        · subst e
          rw [if_pos rfl, cpy_in hj, h2.1 _ (by omega)]
        · rw [if_neg (by omega)]
          exact h5 q j (by omega) hj
    · rintro ⟨v, M1⟩ ⟨h1, h2, h3, h4, h5⟩ k
      dsimp only at h1 h2 h3 h4 h5
      subst h1
      unfold pScene_copyFrom_L54 pScene_copyFrom_L54b
      dsimp only
      refine ok_pos (by decide) (ok_cp (ok_some ⟨h2.tr (fr.row (by omega)), ?_, ?_, ?_, ?_, ?_⟩))
      · rw [row_at, if_neg (by omega), h3, z0]
      · rw [row_at, if_neg (by omega), h3, z1]
      · intro j hj
        rw [row_at, if_pos rfl, cpy_in hj, h2.1 _ (by omega)]
      · intro q m hq hm
        rw [row_at, if_neg (by omega)]
        exact h4 q m hq hm
      · intro q j hq hj
        rw [row_at, if_neg (by omega)]
        exact h5 q j hq hj
theorem gn_le {g : Nat → Int32} (h : gV g) : gn g ≤ 6 := by
  have := h.1
  unfold gn
  have e := Int32.toNat_toInt (g 0)
  unfold bd at this
  omega
theorem gs_le {g : Nat → Int32} (h : gV g) : gs g ≤ 4 := by
  have := h.2.1
  unfold gs
  have e := Int32.toNat_toInt (g 40)
  unfold bd at this
  omega
theorem gst_le {g : Nat → Int32} (h : gV g) {s : Nat} (hs : s < gs g) : gst g s ≤ 12 := by
  have := (h.2.2.2.2.2.2 s hs).2.2.1
  unfold gst
  have e := Int32.toNat_toInt (g (43 + 15 * s))
  unfold bd at this
  omega
theorem rS.copied {M M' : fm_M} {a b : Nat} {g : Nat → Int32} (h : rS M b g) (hg : gV g) (hc : cpd M M' a b) : rS M' a g := by
  obtain ⟨h1, h2, h3, h4, h5⟩ := h
  obtain ⟨-, c1, c2, c3, c4, c5⟩ := hc
  have := gn_le hg
  have := gs_le hg
  exact ⟨c1.trans h1, c2.trans h2, fun j hj => (c3 j hj).trans (h3 j hj), fun m q hm hq => (c4 q m hq (by omega)).trans (h4 m q hm hq), fun s j hs hj => (c5 s j (by omega) (by have := gst_le hg hs; omega)).trans (h5 s j hs hj)⟩
