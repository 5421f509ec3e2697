/-! ===== sources: one of them ===== -/
abbrev gd8 (k : Nat) (c : Nat → Nat) (i : Nat) : Prop := 0 ≤ dg k c i ∧ dg k c i ≤ 8
def sn (k : Nat) (c : Nat → Nat) : Nat → Nat → Nat
  | _, 0 => 0
  | a, r + 1 => if gd8 k c a then sn k c (a + 1) r + 1 else 0
theorem sn_spec {k : Nat} {c : Nat → Nat} : ∀ r a, sn k c a r ≤ r ∧ (∀ j, j < sn k c a r → gd8 k c (a + j)) ∧ (sn k c a r < r → ¬ gd8 k c (a + sn k c a r))
  | 0, a => ⟨Nat.le_refl _, fun j h => absurd h (Nat.not_lt_zero _), fun h => absurd h (Nat.not_lt_zero _)⟩
  | r + 1, a => by
    obtain ⟨h1, h2, h3⟩ := sn_spec (k := k) (c := c) r (a + 1)
    unfold sn
    by_cases g : gd8 k c a
    · rw [if_pos g]
      refine ⟨by omega, fun j hj => ?_, fun hj => ?_⟩
      · match j with
        | 0 => exact g
        | j + 1 => rw [show a + (j + 1) = a + 1 + j by omega]; exact h2 j (by omega)
      · rw [show a + (sn k c (a + 1) r + 1) = a + 1 + sn k c (a + 1) r by omega]
        exact h3 (by omega)
    · rw [if_neg g]
      exact ⟨by omega, fun j hj => absurd hj (Nat.not_lt_zero _), fun _ => g⟩
def sP1 (k : Nat) (c : Nat → Nat) (i : Nat) : Nat ⊕ Nat := if ¬ (bb k c i = 43 ∨ bb k c i = 45) then .inl i else if ¬ gd8 k c (i + 1) then .inl (i + 1) else if dg k c (i + 2) < 1 then .inl (i + 2) else if sn k c (i + 3) 12 < 2 then .inl (i + 3 + sn k c (i + 3) 12) else .inr (sn k c (i + 3) 12)
def scell (k : Nat) (c : Nat → Nat) (i n j : Nat) : Int32 := if j = 0 then ii (if bb k c i = 45 then - dg k c (i + 1) else dg k c (i + 1)) else if j = 1 then ii (dg k c (i + 2)) else if j = 2 then nn n else ii (dg k c (i + j) - 4)
theorem gd8_in {k : Nat} {c : Nat → Nat} {i : Nat} (h : gd8 k c i) : i < k := by
  by_cases z : k ≤ i
  · unfold gd8 at h
    rw [dg_out z] at h
    omega
  · omega
theorem gd8_bb {k : Nat} {c : Nat → Nat} {i : Nat} : gd8 k c i ↔ (48 ≤ bb k c i ∧ bb k c i ≤ 56) := by
  unfold gd8 dg
  split <;> omega
theorem dg_le8 {k : Nat} {c : Nat → Nat} {M : fm_M} {i : Nat} : pMicRow_within M (ii (dg k c i)) 0 8 = some (if gd8 k c i then 1 else 0) := by
  have := dg_bd (k := k) (c := c) (i := i)
  by_cases g : gd8 k c i
  · rw [if_pos g]; exact wi_pos (rng_in g (by decide))
  · rw [if_neg g]; exact wi_neg (nrng g (by omega))
theorem src_n : ∀ s : Fin 4, fm_n shC (10 + s.val) = 15 := by decide +kernel
def sOut1 (k : Nat) (c : Nat → Nat) (i s : Nat) (x : Int32 × fm_M) : Nat ⊕ Nat → Prop
  | .inl e => e < 150 ∧ x.1 = ii (-1 - (e : Int))
  | .inr n => (2 ≤ n ∧ n ≤ 12) ∧ x.1 = nn n ∧ ∀ j, j < 3 + n → x.2.1 (10 + s) j = scell k c i n j
theorem cs_readSource {N : Nat} {M : fm_M} {k : Nat} {c : Nat → Nat} {i s : Nat} (hN : 4000 ≤ N) (h : lC M k c) (hi : i < 100) (hs : s < 4) : ok (pReader_readSource N M (10 + s) (nn i)) (fun x => fr (fun a => a = 10 + s) M x.2 ∧ sOut1 k c i s x (sP1 k c i)) := by
  have hb := h.b i
  have d1 := dg_bd (k := k) (c := c) (i := i + 1)
  have d2 := dg_bd (k := k) (c := c) (i := i + 2)
  unfold pReader_readSource
  rw [src_n ⟨s, hs⟩]
  refine ok_bindE (cs_pm h (by omega)) ?_
  by_cases c1 : bb k c i = 43 ∨ bb k c i = 45
  · rw [if_pos c1, nn_succ, show nn i + 2 = nn (i + 2) from nn_add]
    refine ok_neg (by decide) (ok_bindE (cs_digit h (by omega)) (ok_bindE dg_le8 ?_))
    by_cases c2 : gd8 k c (i + 1)
    · rw [if_pos c2]
      refine ok_neg (by decide) (ok_bindE (cs_digit h (by omega)) ?_)
      by_cases c3 : dg k c (i + 2) < 1
      · refine ok_neg (by rw [show (1 : Int32) = ii 1 from rfl, ii_le (by omega)]; omega) (ok_some ⟨fr.rf, ?_⟩)
        unfold sP1
        rw [if_neg (fun z => z c1), if_neg (fun z => z c2), if_pos c3]
        exact ⟨by omega, er3⟩
      · have hsd : pLetters_signedDigit M (nn i) = some (scell k c i 0 0) := by
          refine ok_equal ?_
          unfold pLetters_signedDigit
          refine ok_bindE (cs_lat h (by omega)) ?_
          rw [nn_succ]
          unfold scell
          rw [if_pos rfl]
          by_cases c4 : bb k c i = 45
          · refine ok_pos (by rw [c4]; rfl) (ok_bindE (cs_digit h (by omega)) (ok_some ?_))
            rw [if_pos c4, ii_neg]
          · refine ok_neg (by rw [show (45 : Int32) = ii 45 from rfl, ii_inj (by omega)]; exact c4) (ok_bindE (cs_digit h (by omega)) (ok_some ?_))
            rw [if_neg c4]
        refine ok_pos (by rw [show (1 : Int32) = ii 1 from rfl, ii_le (by omega)]; omega) (ok_bindE hsd ?_)
        rw [show (0 : Int32) = nn 0 from rfl, show (1 : Int32) = nn 1 from rfl]
        refine ok_st (by omega) nL ?_
        have h1 : lC (fm_si M (10 + s) 0 (scell k c i 0 0)) k c := h.kf (P := fun a => a = 10 + s) (fr.si rfl) (by omega) (by omega)
        refine ok_bindE (cs_digit h1 (by omega)) (ok_st (by omega) nL ?_)
        obtain ⟨s1, s2, s3⟩ := sn_spec (k := k) (c := c) 12 (i + 3)
        have eP : sP1 k c i = if sn k c (i + 3) 12 < 2 then .inl (i + 3 + sn k c (i + 3) 12) else .inr (sn k c (i + 3) 12) := by
          unfold sP1
          rw [if_neg (fun z => z c1), if_neg (fun z => z c2), if_neg c3]
        rw [eP]
        generalize sn k c (i + 3) 12 = n at s1 s2 s3
        have f0 : fr (fun a => a = 10 + s) M (fm_si (fm_si M (10 + s) 0 (scell k c i 0 0)) (10 + s) 1 (ii (dg k c (i + 2)))) := (fr.si (A := fun a => a = 10 + s) rfl).tr (fr.si rfl)
        have e00 : (fm_si (fm_si M (10 + s) 0 (scell k c i 0 0)) (10 + s) 1 (ii (dg k c (i + 2)))).1 (10 + s) 0 = scell k c i n 0 := by
          rw [si_col (by decide), si_same]
          rfl
        have e01 : (fm_si (fm_si M (10 + s) 0 (scell k c i 0 0)) (10 + s) 1 (ii (dg k c (i + 2)))).1 (10 + s) 1 = scell k c i n 1 := by
          rw [si_same]
          rfl
        generalize fm_si (fm_si M (10 + s) 0 (scell k c i 0 0)) (10 + s) 1 (ii (dg k c (i + 2))) = M3 at f0 e00 e01
        have fin : ∀ M4 : fm_M, fr (fun a => a = 10 + s) M M4 → M4.1 (10 + s) 0 = scell k c i n 0 → M4.1 (10 + s) 1 = scell k c i n 1 → (∀ j, j < n → M4.1 (10 + s) (3 + j) = scell k c i n (3 + j)) → ok (pReader_readSource_J136 N M4 (10 + s) (nn i) (nn n)) (fun x => fr (fun a => a = 10 + s) M x.2 ∧ sOut1 k c i s x (if n < 2 then .inl (i + 3 + n) else .inr n)) := by
          intro M4 y1 y2 y3 y4
          unfold pReader_readSource_J136
          rw [src_n ⟨s, hs⟩, show (2 : Int32) = nn 2 from rfl]
          refine ok_st (by omega) nL ?_
          by_cases c5 : n < 2
          · refine ok_neg (by rw [nn_le nB nB]; omega) (ok_some ⟨y1.tr (fr.si rfl), ?_⟩)
            rw [if_pos c5]
            refine ⟨by omega, ?_⟩
            try dsimp only
            rw [show (3 : Int32) = nn 3 from rfl, nn_add, nn_add]
            exact er1
          · refine ok_pos (by rw [nn_le nB nB]; omega) (ok_some ⟨y1.tr (fr.si rfl), ?_⟩)
            rw [if_neg c5]
            refine ⟨by omega, rfl, fun j hj => ?_⟩
            try dsimp only
            by_cases j2 : j = 2
            · subst j2
              rw [si_same]
              rfl
            · rw [si_col j2]
              by_cases j0 : j = 0
              · rw [j0]; exact y2
              · by_cases j1 : j = 1
                · rw [j1]; exact y3
                · have := y4 (j - 3) (by omega)
                  rw [show 3 + (j - 3) = j by omega] at this
                  exact this
        refine ok_for n (fun j t => t.1 = nn j ∧ fr (fun a => a = 10 + s) M t.2 ∧ t.2.1 (10 + s) 0 = scell k c i n 0 ∧ t.2.1 (10 + s) 1 = scell k c i n 1 ∧ ∀ j', j' < j → t.2.1 (10 + s) (3 + j') = scell k c i n (3 + j')) ?_ ?_ ⟨rfl, f0, e00, e01, fun j z => absurd z (Nat.not_lt_zero _)⟩ (by omega)
        · rintro j ⟨w, M4⟩ hj ⟨a1, a2, a3, a4, a5⟩ kk hk
          try dsimp only at a1 a2 a3 a4 a5
          subst a1
          have h4 : lC M4 k c := h.kf a2 (by omega) (by omega)
          have dd := dg_bd (k := k) (c := c) (i := i + 3 + j)
          unfold pReader_readSource_L84 pReader_readSource_L84b
          try dsimp only
          rw [show (nn i + 3) + nn j = nn (i + 3 + j) by rw [show (3 : Int32) = nn 3 from rfl, nn_add, nn_add], src_n ⟨s, hs⟩]
          refine ok_neg (by rw [show (12 : Int32) = nn 12 from rfl, nn_le nB nB]; omega) (ok_bindE (cs_digit h4 (by omega)) (ok_bindE dg_le8 ?_))
          rw [if_pos (s2 j hj), show (3 : Int32) + nn j = nn (3 + j) from nn_add]
          refine ok_neg (by decide) (ok_bindE (cs_digit h4 (by omega)) (ok_st (by omega) nL (hk _ ⟨nn_succ, a2.tr (fr.si rfl), ?_, ?_, fun j' hj' => ?_⟩)))
          · try dsimp only
            rw [si_col (by omega)]; exact a3
          · try dsimp only
            rw [si_col (by omega)]; exact a4
          · try dsimp only
            by_cases e : j' = j
            · subst e
              rw [si_same]
              unfold scell
              rw [if_neg (by omega), if_neg (by omega), if_neg (by omega), show (4 : Int32) = ii 4 from rfl, ii_sub, show i + (3 + j') = i + 3 + j' by omega]
            · rw [si_col (by omega)]; exact a5 j' (by omega)
        · rintro ⟨w, M4⟩ ⟨a1, a2, a3, a4, a5⟩ kk
          try dsimp only at a1 a2 a3 a4 a5
          subst a1
          have h4 : lC M4 k c := h.kf a2 (by omega) (by omega)
          unfold pReader_readSource_L84 pReader_readSource_L84b
          try dsimp only
          by_cases n12 : n = 12
          · exact ok_pos (by rw [n12]; decide) (fin M4 a2 a3 a4 a5)
          · rw [show (nn i + 3) + nn n = nn (i + 3 + n) by rw [show (3 : Int32) = nn 3 from rfl, nn_add, nn_add], src_n ⟨s, hs⟩]
            refine ok_neg (by rw [show (12 : Int32) = nn 12 from rfl, nn_le nB nB]; omega) (ok_bindE (cs_digit h4 (by omega)) (ok_bindE dg_le8 ?_))
            rw [if_neg (s3 (by omega))]
            exact ok_pos rfl (fin M4 a2 a3 a4 a5)
    · rw [if_neg c2]
      refine ok_pos rfl (ok_some ⟨fr.rf, ?_⟩)
      unfold sP1
      rw [if_neg (fun z => z c1), if_pos c2]
      exact ⟨by omega, er2⟩
  · rw [if_neg c1]
    refine ok_pos rfl (ok_some ⟨fr.rf, ?_⟩)
    unfold sP1
    rw [if_pos c1]
    exact ⟨by omega, er1⟩
