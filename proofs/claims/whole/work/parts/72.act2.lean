/-! ===== one act, on both sides ===== -/
theorem shL_bb {b : Int} {fs : List Nat} (h : shL b = some fs) : b = 97 ∨ b = 98 ∨ b = 99 ∨ b = 100 ∨ b = 103 ∨ b = 111 ∨ b = 115 ∨ b = 119 ∨ b = 108 := by
  unfold shL at h
  repeat' (split at h; first | omega | skip)
  cases h
theorem ii_eqn {z : Int} {b : Nat} (hz : -1 ≤ z ∧ z < 256) (hb : b < 256) (e : z = b) : ii z = nn b := by rw [e, nn_ii]
theorem ii_nen {z : Int} {b : Nat} (hz : -1 ≤ z ∧ z < 256) (hb : b < 256) (e : ¬ z = b) : ¬ ii z = nn b := by
  rw [nn_ii, ii_inj (by omega)]
  exact e
theorem act_cpl {N : Nat} {M1 M2 : fm_M} {k : Nat} {c : Nat → Nat} {i j q : Nat} {l : List Int64} (hN : 4000 ≤ N) (h : lC M1 k c) (hi : i < 100) (hg : gV (M2.1 1)) (hr : rS M1 1 (M2.1 1)) (hS : eS M1 q) (hq : q < 900000000) (hm : rMod M2) (ht : tdM M2 l) (hv : ∃ fs, shL (bb k c i) = some fs) (he : arec k c i (3 * j) M2) (hj : j < 100) : acB M1 M2 q (pMicRow_act N M1 (nn i)) (pModel_act N M2 (nn (3 * j))) := by
  obtain ⟨fs, hfs⟩ := hv
  have hb := h.b i
  have kinds := shL_bb hfs
  obtain ⟨r0, r97, r98, r99, r115, r3, r103⟩ := he
  have e1 : pMicRow_act N M1 (nn i) = (if ii (bb k c i) = 97 then (pLetters_signedDigit M1 (nn i + 2)).bind (fun x279 => (pScene_aim M1 (ii (dg k c (i + 1))) 0 x279).bind (fun x => some (x.1, x.2))) else if ii (bb k c i) = 98 then (pLetters_number N M1 (nn i + 1) 3).bind (fun x238 => (pScene_hold M1 1 x238).bind (fun x => some (x.1, x.2))) else if ii (bb k c i) = 99 then (pLetters_number N M1 (nn i + 1) 4).bind (fun x218 => (pScene_hold M1 0 x218).bind (fun x => some (x.1, x.2))) else if ii (bb k c i) = 100 then (pLetters_digit M1 (nn i + 2)).bind (fun x178 => (pScene_put M1 (ii (dg k c (i + 1))) 4 x178).bind (fun x => some (x.1, x.2))) else if ii (bb k c i) = 103 then (pLetters_number N M1 (nn i + 2) 3).bind (fun x138 => (pScene_put M1 (ii (dg k c (i + 1))) 1 x138).bind (fun x => some (x.1, x.2))) else if ii (bb k c i) = 108 then (pMicRow_learnEqual N M1).bind (fun x => some (x.1, x.2)) else if ii (bb k c i) = 111 then (pLetters_digit M1 (nn i + 2)).bind (fun x198 => (pScene_put M1 (ii (dg k c (i + 1))) 5 x198).bind (fun x => some (x.1, x.2))) else if ii (bb k c i) = 115 then (pLetters_number N M1 (nn i + 1) 2).bind (fun x259 => (pMicRow_sortOut N M1 x259).bind (fun x => some (x.1, x.2))) else if ii (bb k c i) = 119 then (pLetters_digit M1 (nn i + 2)).bind (fun x158 => (pScene_put M1 (ii (dg k c (i + 1))) 2 x158).bind (fun x => some (x.1, x.2))) else some ((-1), M1)) := by
    unfold pMicRow_act
    rw [nn_succ, cs_digit h (by omega), cs_lat h (by omega)]
    rfl
  have e2 : pModel_act N M2 (nn (3 * j)) = (if ii (bb k c i) = 97 then (pModel_refusesAim M2 (M2.1 4 (3 * j + 1)) 0 (M2.1 4 (3 * j + 2))).bind (fun x182 => if 0 ≤ x182 then fm_st 101 M2 1 (41 + (15 * (M2.1 4 (3 * j + 1)))) (M2.1 4 (3 * j + 2)) (fun M202 => some (1, M202)) else some (0, M2)) else if ii (bb k c i) = 98 then (pModel_actHolds M2 1 (M2.1 4 (3 * j + 1))).bind (fun x => fm_bo x.1 (some (x.1, x.2))) else if ii (bb k c i) = 99 then (pModel_actHolds M2 0 (M2.1 4 (3 * j + 1))).bind (fun x => fm_bo x.1 (some (x.1, x.2))) else if ii (bb k c i) = 100 then (pModel_puts M2 (M2.1 4 (3 * j + 1)) 3 (M2.1 4 (3 * j + 2))).bind (fun x => fm_bo x.1 (some (x.1, x.2))) else if ii (bb k c i) = 103 then (pModel_puts M2 (M2.1 4 (3 * j + 1)) 0 (M2.1 4 (3 * j + 2))).bind (fun x => fm_bo x.1 (some (x.1, x.2))) else if ii (bb k c i) = 108 then (pModel_goLearn N M2).bind (fun x => if x.1 < 0 then some (0, x.2) else some (1, x.2)) else if ii (bb k c i) = 111 then (pModel_puts M2 (M2.1 4 (3 * j + 1)) 4 (M2.1 4 (3 * j + 2))).bind (fun x => fm_bo x.1 (some (x.1, x.2))) else if ii (bb k c i) = 119 then (pModel_puts M2 (M2.1 4 (3 * j + 1)) 1 (M2.1 4 (3 * j + 2))).bind (fun x => fm_bo x.1 (some (x.1, x.2))) else (pModel_in M2 (M2.1 4 (3 * j + 1)) 1 48).bind (fun x222 => if x222 = 0 then some (0, M2) else (pModel_goSort N M2 (M2.1 4 (3 * j + 1))).bind (fun x => if x.1 < 0 then some (0, x.2) else some (1, x.2)))) := by
    unfold pModel_act
    rw [nn_succ, show nn (3 * j) + 2 = nn (3 * j + 2) from nn_add, ldE (by omega) nL, ldE (by omega) nL, ldE (by omega) nL, r0]
    rfl
  rw [e1, e2]
  have T : ∀ b : Nat, b < 256 → bb k c i = b → ii (bb k c i) = nn b := fun b hb2 e => ii_eqn hb hb2 e
  have F : ∀ b : Nat, b < 256 → ¬ bb k c i = b → ¬ ii (bb k c i) = nn b := fun b hb2 e => ii_nen hb hb2 e
  rw [show nn i + 2 = nn (i + 2) from nn_add, nn_succ]
  rcases kinds with z | z | z | z | z | z | z | z | z
  · rw [if_pos (T 97 (by decide) z), if_pos (T 97 (by decide) z), cs_signed h (by omega), (r97 z).1, (r97 z).2]
    exact ac_aim hg hr hS
  · rw [if_neg (F 97 (by decide) (by omega)), if_neg (F 97 (by decide) (by omega)), if_pos (T 98 (by decide) z), if_pos (T 98 (by decide) z), show (3 : Int32) = nn 3 from rfl, cs_number hN h (by omega) (by decide), r98 z]
    exact ac_hold (p := 1) hg hr hS (by decide)
  · rw [if_neg (F 97 (by decide) (by omega)), if_neg (F 97 (by decide) (by omega)), if_neg (F 98 (by decide) (by omega)), if_neg (F 98 (by decide) (by omega)), if_pos (T 99 (by decide) z), if_pos (T 99 (by decide) z), show (4 : Int32) = nn 4 from rfl, cs_number hN h (by omega) (by decide), r99 z]
    exact ac_hold (p := 0) hg hr hS (by decide)
  · rw [if_neg (F 97 (by decide) (by omega)), if_neg (F 97 (by decide) (by omega)), if_neg (F 98 (by decide) (by omega)), if_neg (F 98 (by decide) (by omega)), if_neg (F 99 (by decide) (by omega)), if_neg (F 99 (by decide) (by omega)), if_pos (T 100 (by decide) z), if_pos (T 100 (by decide) z), cs_digit h (by omega), (r3 (by omega)).1, (r3 (by omega)).2]
    exact ac_put (p := 4) (w := 3) hg hr hS rfl (by decide)
  · rw [if_neg (F 97 (by decide) (by omega)), if_neg (F 97 (by decide) (by omega)), if_neg (F 98 (by decide) (by omega)), if_neg (F 98 (by decide) (by omega)), if_neg (F 99 (by decide) (by omega)), if_neg (F 99 (by decide) (by omega)), if_neg (F 100 (by decide) (by omega)), if_neg (F 100 (by decide) (by omega)), if_pos (T 103 (by decide) z), if_pos (T 103 (by decide) z), show (3 : Int32) = nn 3 from rfl, cs_number hN h (by omega) (by decide), (r103 z).1, (r103 z).2]
    exact ac_put (p := 1) (w := 0) hg hr hS rfl (by decide)
  · rw [if_neg (F 97 (by decide) (by omega)), if_neg (F 97 (by decide) (by omega)), if_neg (F 98 (by decide) (by omega)), if_neg (F 98 (by decide) (by omega)), if_neg (F 99 (by decide) (by omega)), if_neg (F 99 (by decide) (by omega)), if_neg (F 100 (by decide) (by omega)), if_neg (F 100 (by decide) (by omega)), if_neg (F 103 (by decide) (by omega)), if_neg (F 103 (by decide) (by omega)), if_neg (F 108 (by decide) (by omega)), if_neg (F 108 (by decide) (by omega)), if_pos (T 111 (by decide) z), if_pos (T 111 (by decide) z), cs_digit h (by omega), (r3 (by omega)).1, (r3 (by omega)).2]
    exact ac_put (p := 5) (w := 4) hg hr hS rfl (by decide)
  · rw [if_neg (F 97 (by decide) (by omega)), if_neg (F 97 (by decide) (by omega)), if_neg (F 98 (by decide) (by omega)), if_neg (F 98 (by decide) (by omega)), if_neg (F 99 (by decide) (by omega)), if_neg (F 99 (by decide) (by omega)), if_neg (F 100 (by decide) (by omega)), if_neg (F 100 (by decide) (by omega)), if_neg (F 103 (by decide) (by omega)), if_neg (F 103 (by decide) (by omega)), if_neg (F 108 (by decide) (by omega)), if_neg (F 108 (by decide) (by omega)), if_neg (F 111 (by decide) (by omega)), if_neg (F 111 (by decide) (by omega)), if_pos (T 115 (by decide) z), if_neg (F 119 (by decide) (by omega)), show (2 : Int32) = nn 2 from rfl, cs_number hN h (by omega) (by decide), r115 z]
    exact ac_sort hN hg hr hS hq hm ht
  · rw [if_neg (F 97 (by decide) (by omega)), if_neg (F 97 (by decide) (by omega)), if_neg (F 98 (by decide) (by omega)), if_neg (F 98 (by decide) (by omega)), if_neg (F 99 (by decide) (by omega)), if_neg (F 99 (by decide) (by omega)), if_neg (F 100 (by decide) (by omega)), if_neg (F 100 (by decide) (by omega)), if_neg (F 103 (by decide) (by omega)), if_neg (F 103 (by decide) (by omega)), if_neg (F 108 (by decide) (by omega)), if_neg (F 108 (by decide) (by omega)), if_neg (F 111 (by decide) (by omega)), if_neg (F 111 (by decide) (by omega)), if_neg (F 115 (by decide) (by omega)), if_pos (T 119 (by decide) z), if_pos (T 119 (by decide) z), cs_digit h (by omega), (r3 (by omega)).1, (r3 (by omega)).2]
    exact ac_put (p := 2) (w := 1) hg hr hS rfl (by decide)
  · rw [if_neg (F 97 (by decide) (by omega)), if_neg (F 97 (by decide) (by omega)), if_neg (F 98 (by decide) (by omega)), if_neg (F 98 (by decide) (by omega)), if_neg (F 99 (by decide) (by omega)), if_neg (F 99 (by decide) (by omega)), if_neg (F 100 (by decide) (by omega)), if_neg (F 100 (by decide) (by omega)), if_neg (F 103 (by decide) (by omega)), if_neg (F 103 (by decide) (by omega)), if_pos (T 108 (by decide) z), if_pos (T 108 (by decide) z)]
    exact ac_learn hN hg hr hS hq hm ht
