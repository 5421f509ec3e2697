/-! ===== calls: sign, end ===== -/
theorem RR_t {n q : Nat} {l : List Int64} {M1 M2 M1' M2' : fm_M} (h : RR n M1 M2) (hS : eS M1 q) (hq : q ≤ 100 * n) (tC : tdC M1 l) (tM : tdM M2 l) (hl : l.length ≤ 17) (f1 : fr (fun k => k = 173 ∨ k = 174) M1 M1') (f2 : fr (fun k => k = 0 ∨ k = 2) M2 M2') (z2 : ∀ j, j ≠ 2 → j ≠ 5 → M2'.1 0 j = M2.1 0 j) (ht : rText M1' M2') : RR (n + 1) M1' M2' := by
  obtain ⟨⟨a1, a2⟩, a3, a4, a5, a6, a7, a8⟩ := h
  have e1 : M2'.1 1 = M2.1 1 := f2.at1 (by decide)
  refine ⟨⟨by rw [e1]; exact a1, by rw [e1]; exact a2.kept (fun a z1 z2 => f1.1 a (by omega)) a1⟩, ht, rTold_of (tC.kf f1 (by decide) (by decide)) (tM.z f2 (z2 4 (by decide) (by decide)) (by decide)) hl, rKept_of a5 (fun a z1 z2 => f1.1 a (by omega)) (f2.at1 (by decide)) (f2.at1 (by decide)), rPast_of a6 (fun a z1 z2 => f1.1 a (by omega)) f1.2.2 (f2.at1 (by decide)) (z2 25 (by decide) (by decide)), rEars_of (hS.kf f1 (by decide) (by decide)) (by omega), ?_⟩
  unfold rMod
  rw [z2 11 (by decide) (by decide), z2 12 (by decide) (by decide), z2 13 (by decide) (by decide)]
  exact a8
theorem bm_mod (z : Int) : (Int.bmod z (2 ^ 8)) % 256 = z % 256 ∧ -128 ≤ Int.bmod z (2 ^ 8) ∧ Int.bmod z (2 ^ 8) ≤ 127 := by
  unfold Int.bmod
  (try dsimp only)
  split <;> omega
theorem tn_mod (x : Int32) : (x.toBitVec.toNat : Int) = if 0 ≤ x.toInt then x.toInt else x.toInt + 4294967296 := by
  have h : x.toInt = x.toBitVec.toInt := rfl
  rw [h, BitVec.toInt_eq_toNat_cond]
  have := x.toBitVec.isLt
  split <;> split <;> omega
theorem byte_k (v s t : Int32) (k : Nat) (hs : ((s.toUInt32 &&& Int32.toUInt32 31).toBitVec % 32).toNat = k) (ht : ((t &&& 31).toBitVec.smod 32).toNat = k) (hk : k = 0 ∨ k = 8 ∨ k = 16 ∨ k = 24) : (jushr v s) &&& 255 = (vp_nar .byte ((jshr v t).toInt8.toInt32)) &&& 255 ∧ bd (vp_nar .byte ((jshr v t).toInt8.toInt32)) (-128) 127 := by
  rw [pk_vb]
  have hw : (jshr v t).toInt8.toInt32.toInt = Int.bmod (v.toInt >>> k) (2 ^ 8) := by
    rw [Int8.toInt_toInt32, Int32.toInt_toInt8]
    show Int.bmod (v >>> (t &&& 31)).toInt (2 ^ 8) = _
    rw [pk_shr v (t &&& 31) k ht]
  rw [Int.shiftRight_eq_div_pow] at hw
  generalize (jshr v t).toInt8.toInt32 = w at hw
  obtain ⟨b1, b2, b3⟩ := bm_mod (v.toInt / ((2 ^ k : Nat) : Int))
  refine ⟨?_, by unfold bd; rw [hw]; exact ⟨b2, b3⟩⟩
  rw [pk_and (jushr v s) 8 (by decide), pk_and w 8 (by decide)]
  congr 1
  have e1 : (jushr v s).toBitVec.toNat = v.toBitVec.toNat / 2 ^ k := pk_ushr v s k hs
  have e2 := tn_mod w
  have e3 := tn_mod v
  rw [e1]
  rw [hw] at e2
  have hlo := Int32.le_toInt v
  have hhi := Int32.toInt_lt v
  rcases hk with rfl | rfl | rfl | rfl
  · simp only [Nat.pow_zero, Nat.reducePow] at *
    split at e2 <;> split at e3 <;> omega
  · simp only [Nat.reducePow] at *
    split at e2 <;> split at e3 <;> omega
  · simp only [Nat.reducePow] at *
    split at e2 <;> split at e3 <;> omega
  · simp only [Nat.reducePow] at *
    split at e2 <;> split at e3 <;> omega
theorem byte_at (v : Int32) {i : Nat} (hi : i < 4) : (jushr v (ii (24 - 8 * (i : Int)))) &&& 255 = (vp_nar .byte ((jshr v (8 * ii (3 - (i : Int)))).toInt8.toInt32)) &&& 255 ∧ bd (vp_nar .byte ((jshr v (8 * ii (3 - (i : Int)))).toInt8.toInt32)) (-128) 127 := by
  match i, hi with
  | 0, _ => exact byte_k v _ _ 24 (by decide) (by decide) (by decide)
  | 1, _ => exact byte_k v _ _ 16 (by decide) (by decide) (by decide)
  | 2, _ => exact byte_k v _ _ 8 (by decide) (by decide) (by decide)
  | 3, _ => exact byte_k v _ _ 0 (by decide) (by decide) (by decide)
theorem x_sign {N : Nat} (hN : 4000 ≤ N) : cp_sign N RR := by
  intro n M1 M2 v1 hn hR
  obtain ⟨q, l, hg, hr, hS, hq, tC, tM, hl, hm⟩ := hR.opn hn
  obtain ⟨k, k1, k2, k3, k4⟩ := hR.2.1
  by_cases c : k + 4 ≤ 80
  · have hcl : ok (pMicRow_sign N M1 v1) (fun x => x.1 = nn (k + 4) ∧ fr (fun a => a = 173 ∨ a = 174) M1 x.2 ∧ x.2.1 173 1 = nn (k + 4) ∧ (∀ i : Nat, i < 4 → x.2.1 174 (k + i) = (jushr v1 (ii (24 - 8 * (i : Int)))) &&& 255) ∧ ∀ i, i < k → x.2.1 174 i = M1.1 174 i) := by
      unfold pMicRow_sign pLetters_addFour
      refine ok_bind (P := fun x => x.1 = nn (k + 4) ∧ fr (fun a => a = 173 ∨ a = 174) M1 x.2 ∧ x.2.1 173 1 = nn (k + 4) ∧ (∀ i : Nat, i < 4 → x.2.1 174 (k + i) = (jushr v1 (ii (24 - 8 * (i : Int)))) &&& 255) ∧ ∀ i, i < k → x.2.1 174 i = M1.1 174 i) (ok_pos (by rw [k2, show (4 : Int32) = nn 4 from rfl, nn_add, show (80 : Int32) = nn 80 from rfl, nn_le nB nB]; omega) ?_) (fun x hx => ok_some hx)
      refine ok_for 4 (fun i t => t.1 = ii (24 - 8 * (i : Int)) ∧ fr (fun a => a = 173 ∨ a = 174) M1 t.2 ∧ t.2.1 173 1 = nn (k + i) ∧ (∀ j : Nat, j < i → t.2.1 174 (k + j) = (jushr v1 (ii (24 - 8 * (j : Int)))) &&& 255) ∧ ∀ j, j < k → t.2.1 174 j = M1.1 174 j) ?_ ?_ ⟨rfl, fr.rf, k2, fun j z => absurd z (Nat.not_lt_zero _), fun j _ => rfl⟩ (by omega)
      · rintro i ⟨v, M3⟩ hi ⟨a1, a2, a3, a4, a5⟩ kk hk
        try dsimp only at a1 a2 a3 a4 a5
        subst a1
        unfold pLetters_addFour_L16 pLetters_addFour_L16b
        try dsimp only
        refine ok_neg (by rw [show (0 : Int32) = ii 0 from rfl, ii_lt (by omega)]; omega) ?_
        rw [a3]
        refine ok_st (by omega) nL (ok_pt (hk _ ⟨?_, (a2.tr (fr.si (by omega))).tr (fr.si (by omega)), ?_, ?_, ?_⟩))
        · show ii _ + ii (-8) = _
          rw [ii_add]
          congr 1
          omega
        · try dsimp only
          rw [si_same, si_row (by decide), a3, nn_succ]
          rfl
        · intro j z
          try dsimp only
          rw [si_row (by decide)]
          by_cases e : j = i
          · subst e; rw [si_same]
          · rw [si_col (by omega)]; exact a4 j (by omega)
        · intro j z
          try dsimp only
          rw [si_row (by decide), si_col (by omega)]
          exact a5 j z
      · rintro ⟨v, M3⟩ ⟨a1, a2, a3, a4, a5⟩ kk
        try dsimp only at a1 a2 a3 a4 a5
        subst a1
        unfold pLetters_addFour_L16 pLetters_addFour_L16b
        try dsimp only
        exact ok_pos (by decide) (ok_some ⟨a3, a2, a3, a4, a5⟩)
    have hmd : ok (pModel_sign N M2 v1) (fun x => x.1 = nn (k + 4) ∧ fr (fun a => a = 0 ∨ a = 2) M2 x.2 ∧ (∀ j, j ≠ 2 → j ≠ 5 → x.2.1 0 j = M2.1 0 j) ∧ x.2.1 0 2 = nn (k + 4) ∧ (∀ i : Nat, i < 4 → x.2.1 2 (k + i) = vp_nar .byte ((jshr v1 (8 * ii (3 - (i : Int)))).toInt8.toInt32)) ∧ ∀ i, i < k → x.2.1 2 i = M2.1 2 i) := by
      unfold pModel_sign
      refine ok_pt (ok_pos (by rw [si_col (by decide), k3, show (4 : Int32) = nn 4 from rfl, nn_add, show (80 : Int32) = nn 80 from rfl, nn_le nB nB]; omega) ?_)
      refine ok_for 4 (fun i t => t.1 = ii (3 - (i : Int)) ∧ fr (fun a => a = 0 ∨ a = 2) M2 t.2 ∧ (∀ j, j ≠ 2 → j ≠ 5 → t.2.1 0 j = M2.1 0 j) ∧ t.2.1 0 2 = nn (k + i) ∧ (∀ j : Nat, j < i → t.2.1 2 (k + j) = vp_nar .byte ((jshr v1 (8 * ii (3 - (j : Int)))).toInt8.toInt32)) ∧ ∀ j, j < k → t.2.1 2 j = M2.1 2 j) ?_ ?_ ⟨rfl, fr.si (by decide), fun j z1 z2 => si_col z2, by (try dsimp only); rw [si_col (by decide)]; exact k3, fun j z => absurd z (Nat.not_lt_zero _), fun j _ => by (try dsimp only); rw [si_row (by decide)]⟩ (by omega)
      · rintro i ⟨v, M3⟩ hi ⟨a1, a2, a3, a4, a5, a6⟩ kk hk
        try dsimp only at a1 a2 a3 a4 a5 a6
        subst a1
        unfold pModel_sign_L20 pModel_sign_L20b
        try dsimp only
        refine ok_neg (by rw [show (0 : Int32) = ii 0 from rfl, ii_lt (by omega)]; omega) (ok_pt ?_)
        rw [a4]
        refine ok_st (by omega) nL (hk _ ⟨?_, (a2.tr (fr.si (by omega))).tr (fr.si (by omega)), ?_, ?_, ?_, ?_⟩)
        · show ii _ + ii (-1) = _
          rw [ii_add]
          congr 1
          omega
        · intro j z1 z2
          try dsimp only
          rw [si_row (by decide), si_col z1]; exact a3 j z1 z2
        · try dsimp only
          rw [si_row (by decide), si_same, nn_succ]
          rfl
        · intro j z
          try dsimp only
          by_cases e : j = i
          · subst e; rw [si_same]
          · rw [si_col (by omega), si_row (by decide)]; exact a5 j (by omega)
        · intro j z
          try dsimp only
          rw [si_col (by omega), si_row (by decide)]
          exact a6 j z
      · rintro ⟨v, M3⟩ ⟨a1, a2, a3, a4, a5, a6⟩ kk
        try dsimp only at a1 a2 a3 a4 a5 a6
        subst a1
        unfold pModel_sign_L20 pModel_sign_L20b
        try dsimp only
        exact ok_pos (by decide) (ok_some ⟨a4, a2, a3, a4, a5, a6⟩)
    obtain ⟨⟨r1, M1'⟩, e1, c1, c2, c3, c4, c5⟩ := hcl
    obtain ⟨⟨r2, M2'⟩, e2, d1, d2, d3, d4, d5, d6⟩ := hmd
    try dsimp only at c1 c2 c3 c4 c5 d1 d2 d3 d4 d5 d6
    subst c1
    subst d1
    refine ⟨_, _, _, e1, e2, RR_t hR hS hq tC tM hl c2 d2 d3 ⟨k + 4, c, c3, d4, fun i hi => ?_⟩⟩
    by_cases e : i < k
    · rw [c5 i e, d6 i e]
      exact k4 i e
    · obtain ⟨j, rfl⟩ : ∃ j, i = k + j := ⟨i - k, by omega⟩
      rw [c4 j (by omega), d5 j (by omega)]
      exact byte_at v1 (by omega)
  · refine cpq hR hq hl (-1) ?_ ?_
    · unfold pMicRow_sign pLetters_addFour
      rw [if_neg (by rw [k2, show (4 : Int32) = nn 4 from rfl, nn_add, show (80 : Int32) = nn 80 from rfl, nn_le nB nB]; omega)]
      exact ok_bindE rfl (ok_some ⟨rfl, qC.same hS tC⟩)
    · unfold pModel_sign
      exact ok_pt (ok_neg (by rw [si_col (by decide), k3, show (4 : Int32) = nn 4 from rfl, nn_add, show (80 : Int32) = nn 80 from rfl, nn_le nB nB]; omega) (ok_some ⟨rfl, qM.same tM⟩))
theorem x_end {N : Nat} : cp_end N RR := by
  intro n M1 M2 v1 hn hR
  obtain ⟨q, l, hg, hr, hS, hq, tC, tM, hl, hm⟩ := hR.opn hn
  obtain ⟨k, k1, k2, k3, k4⟩ := hR.2.1
  by_cases hw : ∃ w : Nat, v1 = nn w ∧ w ≤ k
  · obtain ⟨w, rfl, hw⟩ := hw
    have e1 : pMicRow_end M1 (nn w) = some (1, fm_si M1 173 1 (nn w)) := by
      unfold pMicRow_end pLetters_cutTo
      rw [if_neg (by rw [show (0 : Int32) = nn 0 from rfl, nn_lt nB nB]; omega), k2, if_pos (by rw [nn_le nB nB]; exact hw)]
      refine (bindE rfl).trans ?_
      exact boE (Or.inr rfl)
    have e2 : pModel_end M2 (nn w) = some (1, fm_si (fm_si M2 0 5 0) 0 2 (nn w)) := by
      unfold pModel_end
      refine (bindE (in_pos ⟨by rw [show (0 : Int32) = nn 0 from rfl, nn_le nB nB]; omega, by rw [si_col (by decide), k3, nn_le nB nB]; exact hw⟩)).trans ?_
      rw [if_neg (by decide)]
      rfl
    refine ⟨_, _, _, e1, e2, RR_t hR hS hq tC tM hl (fr.si (by decide)) ((fr.si (A := fun k => k = 0 ∨ k = 2) (by decide)).tr (fr.si (by decide))) (fun j z1 z2 => by rw [si_col z1, si_col z2]) ⟨w, by omega, si_same, si_same, fun i hi => ?_⟩⟩
    rw [si_row (by decide), si_row (by decide), si_row (by decide)]
    exact k4 i (by omega)
  · have hw2 : ¬ (0 ≤ v1.toInt ∧ v1.toInt ≤ k) := fun z => hw ⟨v1.toInt.toNat, by rw [← ii_nat z.1, ii_of], by omega⟩
    have e0 : (0 : Int32).toInt = 0 := rfl
    refine cpq hR hq hl 0 ?_ ?_
    · have ec : pLetters_cutTo M1 v1 = some (0, M1) := by
        unfold pLetters_cutTo
        by_cases z : v1 < 0
        · rw [if_pos z]
        · rw [if_neg z, if_neg]
          rw [Int32.lt_iff_toInt_lt, e0] at z
          rw [k2, Int32.le_iff_toInt_le, nn_toInt nB]
          omega
      unfold pMicRow_end
      refine ok_bindE ec ?_
      show ok (fm_bo 0 (some (0, M1))) _
      rw [boE (Or.inl rfl)]
      exact ok_some ⟨rfl, qC.same hS tC⟩
    · unfold pModel_end
      refine ok_pt (ok_bindE (in_neg ?_) (ok_pos rfl (ok_some ⟨rfl, qM.same tM⟩)))
      rw [Int32.le_iff_toInt_le, Int32.le_iff_toInt_le, e0, si_col (by decide), k3, nn_toInt nB]
      omega
