/-! ===== day: the model reads ===== -/
def aF (b : Nat) (M M' : fm_M) : Prop := fr (fun a => a = 0 ∨ a = 4) M M' ∧ (∀ j, j ≠ 7 → j ≠ 8 → M'.1 0 j = M.1 0 j) ∧ ∀ a, a < b ∨ b + 3 ≤ a → M'.1 4 a = M.1 4 a
theorem aF.st {b j : Nat} {M M' : fm_M} {v : Int32} (h : aF b M M') (hj : j < 3) : aF b M (fm_si M' 4 (b + j) v) := by
  obtain ⟨h1, h2, h3⟩ := h
  exact ⟨h1.tr (fr.si (Or.inr rfl)), fun j' y1 y2 => by rw [si_row (by decide)]; exact h2 j' y1 y2, fun a ha => by rw [si_col (by omega)]; exact h3 a ha⟩
theorem aF.z {b : Nat} {M M' M'' : fm_M} (h : aF b M M') (hf : fr (fun a => a = 0) M' M'') (hz : ∀ j, j ≠ 7 → j ≠ 8 → M''.1 0 j = M'.1 0 j) : aF b M M'' := by
  obtain ⟨h1, h2, h3⟩ := h
  exact ⟨h1.tr (hf.up (fun k hk => Or.inl hk)), fun j' y1 y2 => by rw [hz j' y1 y2]; exact h2 j' y1 y2, fun a ha => by rw [hf.at1 (by decide)]; exact h3 a ha⟩
theorem aF.l {b k : Nat} {c : Nat → Nat} {M M' : fm_M} (h : aF b M M') (hl : lM M k c) : lM M' k c := hl.kp (h.2.1 6 (by decide) (by decide)) (h.1.at1 (by decide))
/-- how the reading stands: a fault, or the place -/
def rst (M : fm_M) (o : Option Nat) (at' : Nat) : Prop := match o with
  | some e => M.1 0 8 = nn e ∧ e < 200
  | none => M.1 0 8 = -1 ∧ M.1 0 7 = nn at'
def oth (o o' : Option Nat) : Option Nat := match o with
  | some e => some e
  | none => o'
theorem rst.st {M : fm_M} {o : Option Nat} {a i : Nat} {v : Int32} (h : rst M o a) : rst (fm_si M 4 i v) o a := by
  match o with
  | some e => exact ⟨by rw [si_row (by decide)]; exact h.1, h.2⟩
  | none => exact ⟨by rw [si_row (by decide)]; exact h.1, by rw [si_row (by decide)]; exact h.2⟩
theorem ef_app {k : Nat} {c : Nat → Nat} : ∀ {xs ys : List Nat} {i : Nat}, ef k c (xs ++ ys) i = oth (ef k c xs i) (ef k c ys (i + xs.length))
  | [], ys, i => rfl
  | f :: xs, ys, i => by
    rw [List.cons_append, ef, ef, List.length_cons, show i + (xs.length + 1) = i + 1 + xs.length by omega]
    by_cases z : fit k c f i
    · rw [if_pos z, if_pos z]; exact ef_app
    · rw [if_neg z, if_neg z]; rfl
theorem fit57 {k : Nat} {c : Nat → Nat} {i : Nat} : fit k c 57 i ↔ 0 ≤ dg k c i := by
  have := dg_bd (k := k) (c := c) (i := i)
  unfold fit
  rw [if_neg (by decide)]
  omega
theorem fit56 {k : Nat} {c : Nat → Nat} {i : Nat} : fit k c 56 i ↔ gd8 k c i := by
  unfold fit gd8
  rw [if_neg (by decide)]
  omega
theorem fit43 {k : Nat} {c : Nat → Nat} {i : Nat} : fit k c 43 i ↔ (bb k c i = 43 ∨ bb k c i = 45) := by
  unfold fit
  rw [if_pos rfl]
theorem md_dig {N : Nat} {M : fm_M} {k : Nat} {c : Nat → Nat} {o : Option Nat} {a r : Nat} (hN : 4000 ≤ N) (h : lM M k c) (hs : rst M o a) (ha : a < 150) (hr : r ≤ 4) : ok (pModel_digits N M (nn r)) (fun x => fr (fun a => a = 0) M x.2 ∧ (∀ j, j ≠ 7 → j ≠ 8 → x.2.1 0 j = M.1 0 j) ∧ rst x.2 (oth o (ef k c (List.replicate r 57) a)) (a + r) ∧ (oth o (ef k c (List.replicate r 57) a) = none → x.1 = ii (nm k c r a))) := by
  unfold pModel_digits
  have main : ok (fm_lp (pModel_digits_L4 N (nn r)) N (0, 0, M)) (fun x => fr (fun a => a = 0) M x.2 ∧ (∀ j, j ≠ 7 → j ≠ 8 → x.2.1 0 j = M.1 0 j) ∧ ((∃ e, e < 200 ∧ x.2.1 0 8 = nn e ∧ oth o (ef k c (List.replicate r 57) a) = some e) ∨ (x.2.1 0 8 = -1 ∧ x.2.1 0 7 = nn (a + r) ∧ x.1 = ii (nm k c r a) ∧ oth o (ef k c (List.replicate r 57) a) = none))) := by
    refine ok_for r (fun j t => t.2.1 = nn j ∧ fr (fun a => a = 0) M t.2.2 ∧ (∀ j, j ≠ 7 → j ≠ 8 → t.2.2.1 0 j = M.1 0 j) ∧ ((∃ e, e < 200 ∧ t.2.2.1 0 8 = nn e ∧ oth o (ef k c (List.replicate r 57) a) = some e) ∨ (t.2.2.1 0 8 = -1 ∧ t.2.2.1 0 7 = nn (a + j) ∧ t.1 = ii (nm k c j a) ∧ oth o (ef k c (List.replicate r 57) a) = ef k c (List.replicate (r - j) 57) (a + j)))) ?_ ?_ ⟨rfl, fr.rf, fun _ _ _ => rfl, ?_⟩ (by omega)
    · rintro j ⟨w1, w2, M1⟩ hj ⟨a1, a2, a3, a4⟩ kk hk
      try dsimp only at a1 a2 a3 a4
      subst a1
      have h1 : lM M1 k c := h.kp (a3 6 (by decide) (by decide)) (a2.at1 (by decide))
      unfold pModel_digits_L4 pModel_digits_L4b
      try dsimp only
      refine ok_neg (by rw [nn_le nB nB]; omega) ?_
      rcases a4 with ⟨e, y1, y2, y3⟩ | ⟨y1, y2, y3, y4⟩
      · refine ok_bindE (md_oneOf0 (by rw [y2]; exact nn_m1 (by omega))) (hk _ ⟨nn_succ, a2, a3, Or.inl ⟨e, y1, y2, y3⟩⟩)
      · subst y3
        refine ok_bindE (md_oneOf (a := 48) (b := 10) h1 y2 y1 (by omega) (by decide) (by decide)) ?_
        have er : ef k c (List.replicate (r - j) 57) (a + j) = if fit k c 57 (a + j) then ef k c (List.replicate (r - (j + 1)) 57) (a + j + 1) else some (a + j) := by
          rw [show r - j = (r - (j + 1)) + 1 by omega, List.replicate_succ, ef]
        rw [er] at y4
        have dn := dg_neg (k := k) (c := c) (i := a + j)
        by_cases z : 0 ≤ dg k c (a + j)
        · rw [if_pos (fit57.mpr z)] at y4
          have dv := dg_val z
          rw [if_pos (show ((48 : Nat) : Int) ≤ bb k c (a + j) ∧ bb k c (a + j) ≤ ((48 : Nat) : Int) + ((10 : Nat) : Int) - 1 by omega)]
          try dsimp only
          refine hk _ ⟨nn_succ, a2.tr (fr.si rfl), fun j' z1 z2 => by (try dsimp only); rw [si_col z1]; exact a3 j' z1 z2, Or.inr ⟨by (try dsimp only); rw [si_col (by decide)]; exact y1, si_same, ?_, y4⟩⟩
          try dsimp only
          rw [show (10 : Int32) = ii 10 from rfl, ii_mul, ii_add]
          show _ = ii (10 * nm k c j a + dg k c (a + j))
          rw [dv]
          rfl
        · rw [if_neg (fun q => z (fit57.mp q))] at y4
          rw [if_neg (show ¬ (((48 : Nat) : Int) ≤ bb k c (a + j) ∧ bb k c (a + j) ≤ ((48 : Nat) : Int) + ((10 : Nat) : Int) - 1) by omega)]
          try dsimp only
          exact hk _ ⟨nn_succ, a2.tr (fr.si rfl), fun j' z1 z2 => by (try dsimp only); rw [si_col z2]; exact a3 j' z1 z2, Or.inl ⟨a + j, by omega, si_same, y4⟩⟩
    · rintro ⟨w1, w2, M1⟩ ⟨a1, a2, a3, a4⟩ kk
      try dsimp only at a1 a2 a3 a4
      subst a1
      unfold pModel_digits_L4 pModel_digits_L4b
      try dsimp only
      refine ok_pos (by rw [nn_le nB nB]; omega) (ok_some ⟨a2, a3, ?_⟩)
      rcases a4 with z | ⟨y1, y2, y3, y4⟩
      · exact Or.inl z
      · refine Or.inr ⟨y1, y2, y3, ?_⟩
        rw [y4, Nat.sub_self]
        rfl
    · match o with
      | some e => exact Or.inl ⟨e, hs.2, hs.1, rfl⟩
      | none => exact Or.inr ⟨hs.1, hs.2, rfl, rfl⟩
  refine ok_mono main ?_
  rintro ⟨x, M'⟩ ⟨y1, y2, y3⟩
  refine ⟨y1, y2, ?_, ?_⟩
  · rcases y3 with ⟨e, z1, z2, z3⟩ | ⟨z1, z2, z3, z4⟩
    · rw [z3]; exact ⟨z2, z1⟩
    · rw [z4]; exact ⟨z1, z2⟩
  · intro z
    rcases y3 with ⟨e, z1, z2, z3⟩ | ⟨z1, z2, z3, z4⟩
    · rw [z3] at z; cases z
    · exact z3
theorem md_side {M : fm_M} {k : Nat} {c : Nat → Nat} {o : Option Nat} {a : Nat} (h : lM M k c) (hs : rst M o a) (ha : a < 150) : ok (pModel_readSide M) (fun x => fr (fun a => a = 0) M x.2 ∧ (∀ j, j ≠ 7 → j ≠ 8 → x.2.1 0 j = M.1 0 j) ∧ rst x.2 (oth o (ef k c [43, 56] a)) (a + 2) ∧ (oth o (ef k c [43, 56] a) = none → x.1 = scell k c a 0 0)) := by
  match o with
  | some e =>
    refine okE (md_readSide0 (by rw [hs.1]; exact nn_m1 (by have := hs.2; omega))) ⟨fr.rf, fun _ _ _ => rfl, hs, fun z => ?_⟩
    cases z
  | none =>
    refine ok_mono (md_readSide h hs.2 hs.1 ha) ?_
    rintro ⟨x, M'⟩ ⟨y1, y2, y3⟩
    try dsimp only at y1 y2 y3
    refine ⟨y1, y2, ?_⟩
    show rst M' (ef k c [43, 56] a) (a + 2) ∧ (ef k c [43, 56] a = none → _)
    rcases y3 with ⟨z1, z2⟩ | ⟨z1, z2, z3⟩ | ⟨z1, z2, z3, z4, z5⟩
    · have e : ef k c [43, 56] a = some a := by rw [ef, if_neg (fun z => z1 (fit43.mp z))]
      rw [e]
      exact ⟨⟨z2, by omega⟩, fun z => by cases z⟩
    · have e : ef k c [43, 56] a = some (a + 1) := by rw [ef, if_pos (fit43.mpr z1), ef, if_neg (fun z => z2 (fit56.mp z))]
      rw [e]
      exact ⟨⟨z3, by omega⟩, fun z => by cases z⟩
    · have e : ef k c [43, 56] a = none := by rw [ef, if_pos (fit43.mpr z1), ef, if_pos (fit56.mpr z2), ef]
      rw [e]
      exact ⟨⟨z4, z3⟩, fun _ => z5⟩
/-! which signs are acts -/
def kL : List Nat := [103, 119, 100, 111, 99, 98, 108, 115, 97]
theorem st_kL : ∀ b : Fin 256, ∀ j : Fin 9, ((fm_Sb.getD 6 []).getD j.val 0 = (((nn b.val).toUInt32 % 65536).toInt32).toInt8.toInt32 ↔ kL.getD j.val 0 = b.val) := by decide +kernel
theorem st_k2 : ∀ b : Fin 256, ((nn b.val).toUInt32 % 65536).toInt32 = nn b.val := by decide +kernel
theorem st_kb : ∀ b : Fin 256, (shL (b.val : Int) ≠ none ↔ b.val ∈ kL) := by decide +kernel
theorem st_kj : ∀ b : Fin 256, (b.val ∈ kL ↔ ∃ j : Fin 9, kL.getD j.val 0 = b.val) := by decide +kernel
theorem md_index {N : Nat} {M : fm_M} {b : Nat} (hN : 4000 ≤ N) (hb : b < 256) : ok (pString_indexOf N M 6 (((nn b).toUInt32 % 65536).toInt32)) (fun x => 0 ≤ x ↔ shL (b : Int) ≠ none) := by
  unfold pString_indexOf pString_indexOf2
  have key : ok (pLatin1_indexOf N M 6 (((nn b).toUInt32 % 65536).toInt32) 0 9) (fun x => 0 ≤ x ↔ shL (b : Int) ≠ none) := by
    unfold pLatin1_indexOf
    refine ok_rq (by decide) (ok_bind (P := fun x => x = 1) ?_ ?_)
    · unfold pLatin1_canEncode
      rw [st_k2 ⟨b, hb⟩]
      exact ok_neg (by rw [show (0 : Int32) = nn 0 from rfl, nn_lt nB nB]; omega) (ok_neg (by rw [show (255 : Int32) = nn 255 from rfl, nn_lt nB nB]; omega) (ok_some rfl))
    · rintro x rfl
      refine ok_neg (by decide) (ok_pos (by decide) ?_)
      unfold pLatin1_indexOfChar
      refine ok_bind (P := fun x => 0 ≤ x ↔ shL (b : Int) ≠ none) (ok_rq (by decide) ?_) (fun x hx => ok_some hx)
      refine ok_for 9 (fun j t => t = nn j ∧ ∀ j', j' < j → ¬ kL.getD j' 0 = b) ?_ ?_ ⟨by decide, fun j' z => absurd z (Nat.not_lt_zero _)⟩ (by omega)
      · rintro j t hj ⟨rfl, h2⟩ kk hk
        unfold pLatin1_indexOfChar_L7 pLatin1_indexOfChar_L7b
        refine ok_neg ?_ (ok_ix (by rw [show fm_Sl.getD 6 0 = 9 from rfl]; exact hj) (by rw [show fm_Sl.getD 6 0 = 9 from rfl]; exact nL) ?_)
        · rw [show jmin 9 (Int32.ofNat (fm_Sl.getD 6 0)) = nn 9 by decide, nn_le nB nB]
          omega
        · refine ok_ite (fun z => ok_some ?_) (fun z => ?_)
          · have e := (st_kL ⟨b, hb⟩ ⟨j, hj⟩).mp z
            have hm : b ∈ kL := (st_kj ⟨b, hb⟩).mpr ⟨⟨j, hj⟩, e⟩
            exact ⟨fun _ => (st_kb ⟨b, hb⟩).mpr hm, fun _ => by rw [show (0 : Int32) = nn 0 from rfl, nn_le nB nB]; omega⟩
          · refine hk _ ⟨nn_succ, fun j' hj' => ?_⟩
            by_cases e : j' = j
            · subst e
              exact fun q => z ((st_kL ⟨b, hb⟩ ⟨j', hj⟩).mpr q)
            · exact h2 j' (by omega)
      · rintro t ⟨rfl, h2⟩ kk
        unfold pLatin1_indexOfChar_L7 pLatin1_indexOfChar_L7b
        refine ok_pos (by decide) (ok_some ⟨fun z => absurd z (by decide), fun z => ?_⟩)
        obtain ⟨⟨j, hj⟩, e⟩ := (st_kj ⟨b, hb⟩).mp ((st_kb ⟨b, hb⟩).mp z)
        exact absurd e (h2 j hj)
  refine ok_rq (by decide) (ok_bind (P := fun x => 0 ≤ x ↔ shL (b : Int) ≠ none) (ok_rq (by decide) ?_) (fun x hx => ok_some hx))
  refine ok_bindE (r := 1) (by rfl) (ok_neg (by decide) (ok_bindE (r := 9) (by rfl) (ok_bind key (fun x hx => ok_some hx))))
