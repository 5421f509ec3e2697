/-! ===== sources ===== -/
def sU (p : Nat → Int32) (s : Nat) (f : Nat → Int32) : Nat → Int32 := fun a => if 15 * s ≤ a ∧ a < 15 * s + 15 then f (a - 15 * s) else p a
theorem sU_in {p f : Nat → Int32} {s j : Nat} (h : j < 15) : sU p s f (15 * s + j) = f j := by
  unfold sU
  rw [if_pos (by omega), show 15 * s + j - 15 * s = j by omega]
theorem sU_out {p f : Nat → Int32} {s s' j : Nat} (h : j < 15) (hs : s' ≠ s) : sU p s f (15 * s' + j) = p (15 * s' + j) := by
  unfold sU
  rw [if_neg (by omega)]
def sP (k : Nat) (c : Nat → Nat) : Nat → Nat → Nat → (Nat → Int32) → Nat ⊕ (Nat × (Nat → Int32))
  | 0, _, i, _ => .inl (i - 1)
  | r + 1, s, i, p => match sP1 k c i with
    | .inl e => .inl e
    | .inr n => if i + 3 + n = k then .inr (s + 1, sU p s (scell k c i n)) else if bb k c (i + 3 + n) = 59 then sP k c r (s + 1) (i + 3 + n + 1) (sU p s (scell k c i n)) else .inl (i + 3 + n)
theorem sP_inl {k : Nat} {c : Nat → Nat} {s i e : Nat} {p : Nat → Int32} (hs : s < 4) (h : sP1 k c i = .inl e) : sP k c (4 - s) s i p = .inl e := by
  rw [show 4 - s = (4 - (s + 1)) + 1 by omega]
  unfold sP
  rw [h]
theorem sP_inr {k : Nat} {c : Nat → Nat} {s i n : Nat} {p : Nat → Int32} (hs : s < 4) (h : sP1 k c i = .inr n) : sP k c (4 - s) s i p = if i + 3 + n = k then .inr (s + 1, sU p s (scell k c i n)) else if bb k c (i + 3 + n) = 59 then sP k c (4 - (s + 1)) (s + 1) (i + 3 + n + 1) (sU p s (scell k c i n)) else .inl (i + 3 + n) := by
  rw [show 4 - s = (4 - (s + 1)) + 1 by omega]
  rw [sP]
  rw [h]
def sR (k : Nat) (c : Nat → Nat) : Nat ⊕ (Nat × (Nat → Int32)) := if k = 0 then .inr (0, fun _ => 0) else sP k c (4 - 0) 0 0 (fun _ => 0)
def sV (p : Nat → Int32) (s : Nat) : Prop := bd (p (15 * s + 0)) (-8) 8 ∧ bd (p (15 * s + 1)) 1 9 ∧ ∃ n, (2 ≤ n ∧ n ≤ 12) ∧ p (15 * s + 2) = nn n ∧ ∀ j, j < n → bd (p (15 * s + (3 + j))) (-4) 4
theorem sP1_inr {k : Nat} {c : Nat → Nat} {i n : Nat} (h : sP1 k c i = .inr n) : gd8 k c (i + 1) ∧ 1 ≤ dg k c (i + 2) ∧ (2 ≤ n ∧ n ≤ 12) ∧ (∀ j, j < n → gd8 k c (i + 3 + j)) ∧ i + 3 + n ≤ k := by
  obtain ⟨s1, s2, s3⟩ := sn_spec (k := k) (c := c) 12 (i + 3)
  unfold sP1 at h
  by_cases c1 : bb k c i = 43 ∨ bb k c i = 45
  · rw [if_neg (fun z => z c1)] at h
    by_cases c2 : gd8 k c (i + 1)
    · rw [if_neg (fun z => z c2)] at h
      by_cases c3 : dg k c (i + 2) < 1
      · rw [if_pos c3] at h; cases h
      · rw [if_neg c3] at h
        by_cases c4 : sn k c (i + 3) 12 < 2
        · rw [if_pos c4] at h; cases h
        · rw [if_neg c4] at h
          injection h with h
          subst h
          have := gd8_in (s2 (sn k c (i + 3) 12 - 1) (by omega))
          exact ⟨c2, by omega, by omega, s2, by omega⟩
    · rw [if_pos c2] at h; cases h
  · rw [if_pos c1] at h; cases h
theorem sV_new {k : Nat} {c : Nat → Nat} {i n s : Nat} {p : Nat → Int32} (h : sP1 k c i = .inr n) : sV (sU p s (scell k c i n)) s := by
  obtain ⟨h1, h2, h3, h4, h5⟩ := sP1_inr h
  have d2 := dg_bd (k := k) (c := c) (i := i + 2)
  refine ⟨?_, ?_, n, h3, ?_, fun j hj => ?_⟩
  · rw [sU_in (by decide)]
    show bd (ii (if bb k c i = 45 then - dg k c (i + 1) else dg k c (i + 1))) (-8) 8
    have h1' : 0 ≤ dg k c (i + 1) ∧ dg k c (i + 1) ≤ 8 := h1
    split
    · exact bd_iz (by omega) (by omega)
    · exact bd_iz (by omega) (by omega)
  · rw [sU_in (by decide)]
    exact bd_iz (z := dg k c (i + 2)) (by omega) (by omega)
  · rw [sU_in (by decide)]
    rfl
  · rw [sU_in (by omega)]
    unfold scell
    rw [if_neg (by omega), if_neg (by omega), if_neg (by omega), show i + (3 + j) = i + 3 + j by omega]
    have h4' : 0 ≤ dg k c (i + 3 + j) ∧ dg k c (i + 3 + j) ≤ 8 := h4 j hj
    exact bd_iz (by omega) (by omega)
theorem sV_old {s s' : Nat} {p f : Nat → Int32} (h : sV p s') (hs : s' ≠ s) : sV (sU p s f) s' := by
  obtain ⟨h1, h2, n, h3, h4, h5⟩ := h
  refine ⟨?_, ?_, n, h3, ?_, fun j hj => ?_⟩
  · rw [sU_out (by decide) hs]; exact h1
  · rw [sU_out (by decide) hs]; exact h2
  · rw [sU_out (by decide) hs]; exact h4
  · rw [sU_out (by omega) hs]; exact h5 j hj
def pst (p : Nat → Int32) (s : Nat) : Nat := (p (15 * s + 2)).toNatClampNeg
theorem sV.st {p : Nat → Int32} {s : Nat} (h : sV p s) : (2 ≤ pst p s ∧ pst p s ≤ 12) ∧ p (15 * s + 2) = nn (pst p s) ∧ ∀ j, j < pst p s → bd (p (15 * s + (3 + j))) (-4) 4 := by
  obtain ⟨_, _, n, h3, h4, h5⟩ := h
  have e : pst p s = n := by
    unfold pst
    rw [h4, nn_toNat nB]
  rw [e]
  exact ⟨h3, h4, h5⟩
theorem pst_new {k : Nat} {c : Nat → Nat} {i n s : Nat} {p : Nat → Int32} (hn : n ≤ 12) : pst (sU p s (scell k c i n)) s = n := by
  unfold pst
  rw [sU_in (by decide)]
  exact nn_toNat nB
theorem pst_old {s s' : Nat} {p f : Nat → Int32} (hs : s' ≠ s) : pst (sU p s f) s' = pst p s' := by
  unfold pst
  rw [sU_out (by decide) hs]
def asR (k : Nat) : Prop := k = 1 ∨ (10 ≤ k ∧ k < 14)
def sOut (M : fm_M) (x : Int32 × fm_M) : Nat ⊕ (Nat × (Nat → Int32)) → Prop
  | .inl e => e < 200 ∧ x.1 = ii (-1 - (e : Int))
  | .inr (n, p) => n ≤ 4 ∧ x.1 = nn n ∧ x.2.1 1 1 = nn n ∧ x.2.1 1 0 = M.1 1 0 ∧ ∀ s, s < n → sV p s ∧ ∀ j, j < 3 + pst p s → x.2.1 (10 + s) j = p (15 * s + j)
theorem cs_readSources {N : Nat} {M : fm_M} {k : Nat} {c : Nat → Nat} (hN : 4000 ≤ N) (h : lC M k c) : ok (pReader_readSources N M) (fun x => fr asR M x.2 ∧ sOut M x (sR k c)) := by
  have hk80 := h.1
  unfold pReader_readSources
  refine ok_pt ?_
  have h0 : lC (fm_si M 1 1 0) k c := h.kf (P := fun a => a = 1) (fr.si rfl) (by decide) (by decide)
  by_cases k0 : k = 0
  · obtain ⟨n, rfl⟩ : ∃ n, N = n + 1 := ⟨N - 1, by omega⟩
    rw [lpS]
    unfold pReader_readSources_L9 pReader_readSources_L9b pReader_readSources_J113
    try dsimp only
    have e0 : (fm_si M 1 1 0).1 173 1 = 0 := by rw [h0.2.1, k0]; rfl
    refine ok_neg (by decide) (ok_pos (by rw [e0]; decide) (ok_pos e0 (ok_some ⟨fr.si (by unfold asR; omega), ?_⟩)))
    unfold sR
    rw [if_pos k0]
    exact ⟨by omega, rfl, si_same, si_col (by decide), fun m hm => absurd hm (Nat.not_lt_zero _)⟩
  · have eR : sR k c = sP k c (4 - 0) 0 0 (fun _ => 0) := if_neg k0
    refine ok_for 4 (fun s t => s < 4 ∧ ∃ (i : Nat) (p : Nat → Int32), t.1 = nn i ∧ t.2.1 = nn s ∧ i ≤ k ∧ fr asR M t.2.2 ∧ t.2.2.1 1 1 = nn s ∧ t.2.2.1 1 0 = M.1 1 0 ∧ (∀ s', s' < s → sV p s' ∧ ∀ j, j < 3 + pst p s' → t.2.2.1 (10 + s') j = p (15 * s' + j)) ∧ sR k c = sP k c (4 - s) s i p) ?_ ?_ ⟨by decide, 0, fun _ => 0, rfl, rfl, by omega, fr.si (by unfold asR; omega), si_same, si_col (by decide), fun m hm => absurd hm (Nat.not_lt_zero _), eR⟩ (by omega)
    · rintro s ⟨w2, w3, M1⟩ hs ⟨_, i, p, h1, h2, h3, h5, h6, h7, h8, h9⟩ kk hk
      try dsimp only at h1 h2 h5 h6 h7 h8
      subst h1
      subst h2
      have g1 : lC M1 k c := h.kf h5 (by unfold asR; omega) (by unfold asR; omega)
      unfold pReader_readSources_L9 pReader_readSources_L9b pReader_readSources_J113
      try dsimp only
      rw [g1.2.1]
      refine ok_neg (by rw [show (4 : Int32) = nn 4 from rfl, nn_le nB nB]; omega) ?_
      by_cases z0 : k ≤ i
      · refine ok_pos (by rw [nn_le nB nB]; exact z0) (ok_neg (by rw [show (0 : Int32) = nn 0 from rfl, nn_inj nB nB]; exact k0) (ok_some ⟨h5, ?_⟩))
        rw [h9, sP_inl (e := i) hs (by unfold sP1; rw [if_pos (by unfold bb; rw [if_neg (by omega)]; decide)])]
        exact ⟨by omega, er1⟩
      · refine ok_neg (by rw [nn_le nB nB]; exact z0) (ok_ix hs nL (ok_bind (cs_readSource hN g1 (by omega) hs) ?_))
        rintro ⟨x, M2⟩ ⟨a1, a2⟩
        try dsimp only at a1 a2 ⊢
        have f2 : fr asR M M2 := h5.tr (a1.up (fun k hk => by unfold asR; omega))
        have g2 : lC M2 k c := h.kf f2 (by unfold asR; omega) (by unfold asR; omega)
        match hP : sP1 k c i with
        | .inl e =>
          rw [hP] at a2
          obtain ⟨y1, y2⟩ := a2
          try dsimp only at y2
          subst y2
          refine ok_neg (by rw [show (0 : Int32) = ii 0 from rfl, ii_le (by omega)]; omega) (ok_some ⟨f2, ?_⟩)
          rw [h9, sP_inl hs hP]
          exact ⟨by omega, rfl⟩
        | .inr n =>
          rw [hP] at a2
          obtain ⟨y1, y2, y3⟩ := a2
          try dsimp only at y2 y3
          subst y2
          obtain ⟨_, _, _, _, ik⟩ := sP1_inr hP
          rw [sP_inr hs hP] at h9
          refine ok_pos (by rw [show (0 : Int32) = nn 0 from rfl, nn_le nB nB]; omega) (ok_pt ?_)
          have e11 : (fm_si M2 1 1 (M2.1 1 1 + 1)).1 1 1 = nn (s + 1) := by rw [si_same, a1.at1 (by omega), h6, nn_succ]
          have f3 : fr asR M (fm_si M2 1 1 (M2.1 1 1 + 1)) := f2.tr (fr.si (by unfold asR; omega))
          have e10 : (fm_si M2 1 1 (M2.1 1 1 + 1)).1 1 0 = M.1 1 0 := by rw [si_col (by decide), a1.at1 (by omega), h7]
          have rows : ∀ s', s' < s + 1 → sV (sU p s (scell k c i n)) s' ∧ ∀ j, j < 3 + pst (sU p s (scell k c i n)) s' → (fm_si M2 1 1 (M2.1 1 1 + 1)).1 (10 + s') j = sU p s (scell k c i n) (15 * s' + j) := by
            intro s' hs'
            by_cases e : s' = s
            · subst e
              refine ⟨sV_new hP, fun j hj => ?_⟩
              rw [pst_new (by omega)] at hj
              rw [si_row (by omega), sU_in (by omega)]
              exact y3 j hj
            · obtain ⟨v1, v2⟩ := h8 s' (by omega)
              have := v1.st.1
              refine ⟨sV_old v1 e, fun j hj => ?_⟩
              rw [pst_old e] at hj
              rw [si_row (by omega), sU_out (by omega) e, a1.1 _ (by omega)]
              exact v2 j hj
          generalize fm_si M2 1 1 (M2.1 1 1 + 1) = M3 at e11 f3 e10 rows
          have g3 : lC M3 k c := h.kf f3 (by unfold asR; omega) (by unfold asR; omega)
          rw [show nn i + (3 + nn n) = nn (i + 3 + n) by rw [show (3 : Int32) = nn 3 from rfl, nn_add, nn_add]; congr 1; omega, g3.2.1, e11]
          by_cases z5 : i + 3 + n = k
          · rw [if_pos z5] at h9
            refine ok_pos (by rw [z5]) (ok_some ⟨f3, ?_⟩)
            rw [h9]
            exact ⟨by omega, rfl, e11, e10, rows⟩
          · rw [if_neg z5] at h9
            have b2 := g3.b (i + 3 + n)
            refine ok_neg (by rw [nn_inj nB nB]; exact z5) (ok_bindE (cs_lat g3 (by omega)) ?_)
            by_cases z6 : bb k c (i + 3 + n) = 59
            · rw [if_pos z6] at h9
              refine ok_pos (by rw [z6]; rfl) ?_
              by_cases z7 : s + 1 = 4
              · refine ok_pos (by rw [z7]; rfl) (ok_some ⟨f3, ?_⟩)
                rw [h9, z7]
                exact ⟨by omega, er1⟩
              · refine ok_neg (by rw [show (4 : Int32) = nn 4 from rfl, nn_inj nB nB]; exact z7) (hk _ ⟨by omega, i + 3 + n + 1, _, nn_succ, nn_succ, by omega, f3, e11, e10, rows, h9⟩)
            · rw [if_neg z6] at h9
              refine ok_neg (by rw [show (59 : Int32) = ii 59 from rfl, ii_inj (by omega)]; exact z6) (ok_some ⟨f3, ?_⟩)
              rw [h9]
              exact ⟨by omega, er1⟩
    · rintro t ⟨h1, _⟩ kk
      exact absurd h1 (by decide)
