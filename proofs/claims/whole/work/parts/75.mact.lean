/-! ===== day: the model reads one act ===== -/
section RD
variable {N : Nat} {M0 M : fm_M} {k : Nat} {c : Nat → Nat} {a b : Nat}
theorem md_first {v2 : Int32} {r : Nat} {Q : fm_M → Prop} (hN : 4000 ≤ N) (h0 : lM M0 k c) (hF : aF b M0 M) (hs : rst M none a) (ha : a < 150) (hb : b + 3 ≤ 320) (hr : r ≤ 4) (hQ : ∀ M', aF b M0 M' → rst M' (ef k c (List.replicate r 57) a) (a + r) → M'.1 4 b = M.1 4 b → (ef k c (List.replicate r 57) a = none → M'.1 4 (b + 1) = ii (nm k c r a)) → ok (if v2 = 103 then (pModel_digits N M' 3).bind (fun x => fm_st 320 x.2 4 (nn b + 2) x.1 (fun M115 => pModel_readAct_J116 N M115 (nn b) v2)) else pModel_readAct_J116 N M' (nn b) v2) Q) : ok (pModel_readAct_J93 N M (nn b) v2 (nn b + 1) (nn r)) Q := by
  unfold pModel_readAct_J93
  refine ok_bind (md_dig hN (hF.l h0) hs ha hr) ?_
  rintro ⟨x, M1⟩ ⟨f1, z1, s1, v1⟩
  try dsimp only at f1 z1 s1 v1 ⊢
  rw [nn_succ]
  refine ok_st (by omega) nL (hQ _ ((hF.z f1 z1).st (by decide)) s1.st ?_ ?_)
  · rw [si_col (by omega), f1.at1 (by decide)]
  · intro e
    rw [si_same]
    exact v1 e
theorem md_j116 {v2 : Int32} (h97 : v2 ≠ 97) (h119 : v2 ≠ 119) (h100 : v2 ≠ 100) (h111 : v2 ≠ 111) : pModel_readAct_J116 N M (nn b) v2 = some M := by
  unfold pModel_readAct_J116 pModel_readAct_J134
  rw [if_neg h97, if_neg h119, if_neg h100, if_neg h111]
theorem md_last {o : Option Nat} {v2 : Int32} (hN : 4000 ≤ N) (h0 : lM M0 k c) (hF : aF b M0 M) (hs : rst M o a) (ha : a < 150) (hb : b + 3 ≤ 320) (h97 : v2 ≠ 97) (hv : v2 = 119 ∨ v2 = 100 ∨ v2 = 111) : ok (pModel_readAct_J116 N M (nn b) v2) (fun M' => aF b M0 M' ∧ rst M' (oth o (ef k c [57] a)) (a + 1) ∧ M'.1 4 b = M.1 4 b ∧ M'.1 4 (b + 1) = M.1 4 (b + 1) ∧ (oth o (ef k c [57] a) = none → M'.1 4 (b + 2) = ii (dg k c a))) := by
  have j152 : ok (pModel_readAct_J152 N M (nn b)) (fun M' => aF b M0 M' ∧ rst M' (oth o (ef k c [57] a)) (a + 1) ∧ M'.1 4 b = M.1 4 b ∧ M'.1 4 (b + 1) = M.1 4 (b + 1) ∧ (oth o (ef k c [57] a) = none → M'.1 4 (b + 2) = ii (dg k c a))) := by
    unfold pModel_readAct_J152
    refine ok_bind (md_dig (r := 1) hN (hF.l h0) hs ha (by decide)) ?_
    rintro ⟨x, M1⟩ ⟨f1, z1, s1, v1⟩
    try dsimp only at f1 z1 s1 v1 ⊢
    rw [show nn b + 2 = nn (b + 2) from nn_add]
    refine ok_st (by omega) nL (ok_some ⟨(hF.z f1 z1).st (by decide), s1.st, ?_, ?_, ?_⟩)
    · rw [si_col (by omega), f1.at1 (by decide)]
    · rw [si_col (by omega), f1.at1 (by decide)]
    · intro e
      rw [si_same, v1 e]
      congr 1
      show 10 * 0 + dg k c (a + 0) = _
      rw [Nat.add_zero]
      omega
  unfold pModel_readAct_J116 pModel_readAct_J134
  rw [if_neg h97]
  refine ok_ite (fun _ => j152) (fun y1 => ok_ite (fun _ => j152) (fun y2 => ok_ite (fun _ => j152) (fun y3 => ?_)))
  rcases hv with z | z | z
  · exact absurd z y1
  · exact absurd z y2
  · exact absurd z y3
theorem nm_1 {i : Nat} : nm k c 1 i = dg k c i := by
  show 10 * 0 + dg k c (i + 0) = _
  rw [Nat.add_zero]
  omega
theorem md_readAct {i : Nat} (hN : 4000 ≤ N) (h : lM M k c) (hs : rst M none i) (hi : i < k) (hb : b + 3 ≤ 320) : ok (pModel_readAct N M (nn b)) (fun M' => aF b M M' ∧ rst M' (aE k c i) (i + 1 + (sf (shI (bb k c i))).length) ∧ (aE k c i = none → arec k c i b M')) := by
  have hk80 := h.1
  have hbb := h.b i
  have ebb : bb k c i = (c i : Int) := if_pos hi
  have hc := (h.2.2 i hi).2.1
  unfold pModel_readAct
  refine ok_bindE (md_here h hs.2 (by omega)) ?_
  refine ok_neg (by rw [show (-1 : Int32) = ii (-1) from rfl, ii_inj (by omega)]; omega) ?_
  have ix := md_index (M := M) hN hc
  rw [nn_ii, ← ebb] at ix
  refine ok_bind ix ?_
  intro x15 hx
  have aF0 : aF b M M := ⟨fr.rf, fun _ _ _ => rfl, fun _ _ => rfl⟩
  match hL : shL (bb k c i) with
  | none =>
    refine ok_neg (fun z => (hx.mp z) hL) ?_
    unfold pModel_readAct_J21
    have eE : aE k c i = some i := by unfold aE; rw [hL]
    rw [hs.2, eE]
    refine ok_bindE (md_fault1 hs.1) (ok_some ⟨aF0.z (fr.si rfl) (fun j z1 z2 => si_col z2), ⟨si_same, by omega⟩, fun z => by cases z⟩)
  | some fs =>
    refine ok_pos (hx.mpr (by rw [hL]; intro z; cases z)) (ok_pt ?_)
    have hfs := shL_sf hL
    have eE : aE k c i = ef k c (sf (shI (bb k c i))) (i + 1) := by
      unfold aE
      rw [hL, hfs]
    rw [hs.2, nn_succ, eE]
    have f46 : aF b M (fm_si (fm_si M 0 7 (nn (i + 1))) 4 b (ii (bb k c i))) := (aF0.z (fr.si rfl) (fun j z1 z2 => si_col z1)).st (j := 0) (by decide)
    have s46 : rst (fm_si (fm_si M 0 7 (nn (i + 1))) 4 b (ii (bb k c i))) none (i + 1) := rst.st ⟨by rw [si_col (by decide)]; exact hs.1, si_same⟩
    have e46 : (fm_si (fm_si M 0 7 (nn (i + 1))) 4 b (ii (bb k c i))).1 4 b = ii (bb k c i) := si_same
    refine ok_st (by omega) nL ?_
    generalize fm_si (fm_si M 0 7 (nn (i + 1))) 4 b (ii (bb k c i)) = M46 at f46 s46 e46
    -- one number
    have one : ∀ (v2 : Int32) (r : Nat), r ≤ 4 → v2 ≠ 103 → v2 ≠ 97 → v2 ≠ 119 → v2 ≠ 100 → v2 ≠ 111 → sf (shI (bb k c i)) = List.replicate r 57 → (∀ M', M'.1 4 b = ii (bb k c i) → M'.1 4 (b + 1) = ii (nm k c r (i + 1)) → arec k c i b M') → ok (pModel_readAct_J93 N M46 (nn b) v2 (nn b + 1) (nn r)) (fun M' => aF b M M' ∧ rst M' (ef k c (sf (shI (bb k c i))) (i + 1)) (i + 1 + (sf (shI (bb k c i))).length) ∧ (ef k c (sf (shI (bb k c i))) (i + 1) = none → arec k c i b M')) := by
      intro v2 r hr n1 n2 n3 n4 n5 es ha
      refine md_first hN h f46 s46 (by omega) hb hr (fun M' y1 y2 y3 y4 => ?_)
      rw [if_neg n1, md_j116 n2 n3 n4 n5, es, List.length_replicate]
      exact ok_some ⟨y1, y2, fun z => ha M' (y3.trans e46) (y4 z)⟩
    -- a number, a digit
    have two : ∀ (v2 : Int32), v2 ≠ 103 → v2 ≠ 97 → (v2 = 119 ∨ v2 = 100 ∨ v2 = 111) → sf (shI (bb k c i)) = [57, 57] → (∀ M', M'.1 4 b = ii (bb k c i) → M'.1 4 (b + 1) = ii (dg k c (i + 1)) → M'.1 4 (b + 2) = ii (dg k c (i + 2)) → arec k c i b M') → ok (pModel_readAct_J93 N M46 (nn b) v2 (nn b + 1) (nn 1)) (fun M' => aF b M M' ∧ rst M' (ef k c (sf (shI (bb k c i))) (i + 1)) (i + 1 + (sf (shI (bb k c i))).length) ∧ (ef k c (sf (shI (bb k c i))) (i + 1) = none → arec k c i b M')) := by
      intro v2 n1 n2 n3 es ha
      refine md_first (r := 1) hN h f46 s46 (by omega) hb (by decide) (fun M' y1 y2 y3 y4 => ?_)
      rw [if_neg n1]
      have e2 : ef k c [57, 57] (i + 1) = oth (ef k c [57] (i + 1)) (ef k c [57] (i + 1 + 1)) := ef_app (xs := [57]) (ys := [57])
      rw [es, e2]
      refine ok_mono (md_last hN h y1 y2 (by omega) hb n2 n3) ?_
      rintro M2 ⟨q1, q2, q3, q4, q5⟩
      refine ⟨q1, q2, fun z => ha M2 (q3.trans (y3.trans e46)) ?_ (q5 z)⟩
      rw [q4, y4 ?_, nm_1]
      match hh : ef k c [57] (i + 1) with
      | none => first | exact rfl | exact hh
      | some e => rw [hh] at z; cases z
    have K := shL_bb hL
    have lit : ∀ n : Nat, n < 256 → bb k c i = n → ii (bb k c i) = nn n := fun n hn e => by rw [e, nn_ii]
    rcases K with z | z | z | z | z | z | z | z | z
    · rw [show ii (bb k c i) = (97 : Int32) from lit 97 (by decide) z]
      refine ok_neg (by decide) (ok_neg (by decide) (ok_neg (by decide) (ok_neg (by decide) ?_)))
      refine md_first (r := 1) hN h f46 s46 (by omega) hb (by decide) (fun M' y1 y2 y3 y4 => ok_neg (by decide) ?_)
      unfold pModel_readAct_J116
      refine ok_pos rfl (ok_bind (md_side (y1.l h) y2 (by omega)) ?_)
      rintro ⟨x, M2⟩ ⟨q1, q2, q3, q4⟩
      try dsimp only at q1 q2 q3 q4 ⊢
      have es : sf (shI (bb k c i)) = [57, 43, 56] := by rw [z]; rfl
      have e2 : ef k c [57, 43, 56] (i + 1) = oth (ef k c [57] (i + 1)) (ef k c [43, 56] (i + 1 + 1)) := ef_app (xs := [57]) (ys := [43, 56])
      rw [show nn b + 2 = nn (b + 2) from nn_add, es, e2]
      refine ok_st (by omega) nL ?_
      unfold pModel_readAct_J134
      refine ok_neg (by decide) (ok_neg (by decide) (ok_neg (by decide) (ok_some ⟨(y1.z q1 q2).st (by decide), q3.st, fun w => ?_⟩)))
      have w1 : ef k c (List.replicate 1 57) (i + 1) = none := by
        match hh : ef k c [57] (i + 1) with
        | none => first | exact rfl | exact hh
        | some e => rw [hh] at w; cases w
      refine ⟨?_, fun _ => ⟨?_, ?_⟩, fun y => by omega, fun y => by omega, fun y => by omega, fun y => by omega, fun y => by omega⟩
      · rw [si_col (by omega), q1.at1 (by decide)]; exact y3.trans e46
      · rw [si_col (by omega), q1.at1 (by decide), y4 w1, nm_1]
      · rw [si_same]; exact q4 w
    · rw [show ii (bb k c i) = (98 : Int32) from lit 98 (by decide) z]
      refine ok_neg (by decide) (ok_neg (by decide) (ok_pos rfl ?_))
      exact one 98 3 (by decide) (by decide) (by decide) (by decide) (by decide) (by decide) (by rw [z]; rfl) (fun M' y1 y2 => ⟨y1, fun y => by omega, fun _ => y2, fun y => by omega, fun y => by omega, fun y => by omega, fun y => by omega⟩)
    · rw [show ii (bb k c i) = (99 : Int32) from lit 99 (by decide) z]
      refine ok_neg (by decide) (ok_pos rfl ?_)
      exact one 99 4 (by decide) (by decide) (by decide) (by decide) (by decide) (by decide) (by rw [z]; rfl) (fun M' y1 y2 => ⟨y1, fun y => by omega, fun y => by omega, fun _ => y2, fun y => by omega, fun y => by omega, fun y => by omega⟩)
    · rw [show ii (bb k c i) = (100 : Int32) from lit 100 (by decide) z]
      refine ok_neg (by decide) (ok_neg (by decide) (ok_neg (by decide) (ok_neg (by decide) ?_)))
      exact two 100 (by decide) (by decide) (by decide) (by rw [z]; rfl) (fun M' y1 y2 y3 => ⟨y1, fun y => by omega, fun y => by omega, fun y => by omega, fun y => by omega, fun _ => ⟨y2, y3⟩, fun y => by omega⟩)
    · rw [show ii (bb k c i) = (103 : Int32) from lit 103 (by decide) z]
      refine ok_neg (by decide) (ok_neg (by decide) (ok_neg (by decide) (ok_neg (by decide) ?_)))
      refine md_first (r := 1) hN h f46 s46 (by omega) hb (by decide) (fun M' y1 y2 y3 y4 => ok_pos rfl ?_)
      refine ok_bind (md_dig (r := 3) hN (y1.l h) y2 (by omega) (by decide)) ?_
      rintro ⟨x, M2⟩ ⟨q1, q2, q3, q4⟩
      try dsimp only at q1 q2 q3 q4 ⊢
      have es : sf (shI (bb k c i)) = [57, 57, 57, 57] := by rw [z]; rfl
      have e2 : ef k c [57, 57, 57, 57] (i + 1) = oth (ef k c [57] (i + 1)) (ef k c [57, 57, 57] (i + 1 + 1)) := ef_app (xs := [57]) (ys := [57, 57, 57])
      rw [show nn b + 2 = nn (b + 2) from nn_add, es, e2]
      refine ok_st (by omega) nL ?_
      rw [md_j116 (by decide) (by decide) (by decide) (by decide)]
      refine ok_some ⟨(y1.z q1 q2).st (by decide), q3.st, fun w => ?_⟩
      have w1 : ef k c (List.replicate 1 57) (i + 1) = none := by
        match hh : ef k c [57] (i + 1) with
        | none => first | exact rfl | exact hh
        | some e => rw [hh] at w; cases w
      refine ⟨?_, fun y => by omega, fun y => by omega, fun y => by omega, fun y => by omega, fun y => by omega, fun _ => ⟨?_, ?_⟩⟩
      · rw [si_col (by omega), q1.at1 (by decide)]; exact y3.trans e46
      · rw [si_col (by omega), q1.at1 (by decide), y4 w1, nm_1]
      · rw [si_same]; exact q4 w
    · rw [show ii (bb k c i) = (111 : Int32) from lit 111 (by decide) z]
      refine ok_neg (by decide) (ok_neg (by decide) (ok_neg (by decide) (ok_neg (by decide) ?_)))
      exact two 111 (by decide) (by decide) (by decide) (by rw [z]; rfl) (fun M' y1 y2 y3 => ⟨y1, fun y => by omega, fun y => by omega, fun y => by omega, fun y => by omega, fun _ => ⟨y2, y3⟩, fun y => by omega⟩)
    · rw [show ii (bb k c i) = (115 : Int32) from lit 115 (by decide) z]
      refine ok_neg (by decide) (ok_neg (by decide) (ok_neg (by decide) (ok_pos rfl ?_)))
      exact one 115 2 (by decide) (by decide) (by decide) (by decide) (by decide) (by decide) (by rw [z]; rfl) (fun M' y1 y2 => ⟨y1, fun y => by omega, fun y => by omega, fun y => by omega, fun _ => y2, fun y => by omega, fun y => by omega⟩)
    · rw [show ii (bb k c i) = (119 : Int32) from lit 119 (by decide) z]
      refine ok_neg (by decide) (ok_neg (by decide) (ok_neg (by decide) (ok_neg (by decide) ?_)))
      exact two 119 (by decide) (by decide) (by decide) (by rw [z]; rfl) (fun M' y1 y2 y3 => ⟨y1, fun y => by omega, fun y => by omega, fun y => by omega, fun y => by omega, fun _ => ⟨y2, y3⟩, fun y => by omega⟩)
    · have es : sf (shI (bb k c i)) = [] := by rw [z]; rfl
      rw [es]
      rw [show ii (bb k c i) = (108 : Int32) from lit 108 (by decide) z]
      exact ok_pos rfl (ok_some ⟨f46, s46, fun _ => ⟨e46, fun y => by omega, fun y => by omega, fun y => by omega, fun y => by omega, fun y => by omega, fun y => by omega⟩⟩)
end RD
