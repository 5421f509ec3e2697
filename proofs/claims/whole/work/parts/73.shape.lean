/-! ===== day: the forms, as the class holds them ===== -/
def shI (b : Int) : Nat := if b = 97 then 3 else if b = 98 then 1 else if b = 99 then 0 else if b = 100 then 2 else if b = 103 then 0 else if b = 111 then 2 else if b = 115 then 2 else if b = 119 then 2 else 4
def sf (d : Nat) : List Nat := ([[57, 57, 57, 57], [57, 57, 57], [57, 57], [57, 43, 56], []] : List (List Nat)).getD d []
theorem shI_le (b : Int) : shI b < 5 := by
  unfold shI
  repeat' split
  all_goals omega
theorem shL_sf {b : Int} {fs : List Nat} (h : shL b = some fs) : fs = sf (shI b) := by
  rcases shL_bb h with z | z | z | z | z | z | z | z | z <;> subst z <;> (injection h with h; exact h.symm)
theorem shL_none {b : Int} (h : shL b = none) : shI b = 4 ∧ b ≠ 108 := by
  by_cases z : b = 97 ∨ b = 98 ∨ b = 99 ∨ b = 100 ∨ b = 103 ∨ b = 111 ∨ b = 115 ∨ b = 119 ∨ b = 108
  · rcases z with z | z | z | z | z | z | z | z | z <;> subst z <;> cases h
  · unfold shI
    refine ⟨?_, by omega⟩
    rw [if_neg (by omega), if_neg (by omega), if_neg (by omega), if_neg (by omega), if_neg (by omega), if_neg (by omega), if_neg (by omega), if_neg (by omega)]
theorem st_len : ∀ d : Fin 5, pString_length fm_m0 d.val = some (nn (sf d.val).length) := by decide +kernel
theorem st_chr : ∀ d : Fin 5, ∀ j : Fin 4, j.val < (sf d.val).length → pString_charAt fm_m0 d.val (nn j.val) = some (nn ((sf d.val).getD j.val 0)) := by decide +kernel
theorem st_forms : ∀ d : Fin 5, (sf d.val).length ≤ 4 ∧ ∀ f ∈ sf d.val, f = 43 ∨ f = 56 ∨ f = 57 := by decide +kernel
theorem cs_len {M : fm_M} {d : Nat} (h : d < 5) : pString_length M d = some (nn (sf d).length) := st_len ⟨d, h⟩
theorem cs_chr {M : fm_M} {d j : Nat} (h : d < 5) (hj : j < (sf d).length) : pString_charAt M d (nn j) = some (nn ((sf d).getD j 0)) := st_chr ⟨d, h⟩ ⟨j, by have hq : (sf d).length ≤ 4 := (st_forms ⟨d, h⟩).1; omega⟩ hj
theorem cs_shape {M : fm_M} {b : Int} (hb : -1 ≤ b ∧ b < 256) : pReader_shapeOf M (ii b) = some (shI b) := by
  unfold pReader_shapeOf shI
  have T : ∀ (n : Nat), n < 256 → (ii b = nn n ↔ b = n) := fun n hn => by rw [nn_ii, ii_inj (by omega)]
  have t1 : ii b = 97 ↔ b = 97 := T 97 (by decide)
  have t2 : ii b = 98 ↔ b = 98 := T 98 (by decide)
  have t3 : ii b = 99 ↔ b = 99 := T 99 (by decide)
  have t4 : ii b = 100 ↔ b = 100 := T 100 (by decide)
  have t5 : ii b = 103 ↔ b = 103 := T 103 (by decide)
  have t6 : ii b = 111 ↔ b = 111 := T 111 (by decide)
  have t7 : ii b = 115 ↔ b = 115 := T 115 (by decide)
  have t8 : ii b = 119 ↔ b = 119 := T 119 (by decide)
  simp only [t1, t2, t3, t4, t5, t6, t7, t8]
  repeat' split
  all_goals rfl
theorem cs_isAct {M : fm_M} {b : Int} (hb : -1 ≤ b ∧ b < 256) : pReader_isAct M (ii b) = some (if shL b = none then 0 else 1) := by
  refine ok_equal ?_
  unfold pReader_isAct
  have t0 : ii b = 108 ↔ b = 108 := by rw [show (108 : Int32) = ii 108 from rfl, ii_inj (by omega)]
  by_cases c0 : b = 108
  · refine ok_pos (t0.mpr c0) (ok_some ?_)
    subst c0
    rfl
  · refine ok_neg (fun z => c0 (t0.mp z)) (ok_bindE (cs_shape hb) (ok_bindE (cs_len (shI_le b)) ?_))
    match hL : shL b with
    | none =>
      rw [(shL_none hL).1]
      exact ok_pos (by decide) (ok_some rfl)
    | some fs =>
      have e := shL_sf hL
      have hne : (sf (shI b)).length ≠ 0 := by
        rcases shL_bb hL with z | z | z | z | z | z | z | z | z <;> subst z <;> first | decide | exact absurd rfl c0
      have hl := (st_forms ⟨shI b, shI_le b⟩).1
      have hl' : (sf (shI b)).length ≤ 4 := hl
      refine ok_neg (by rw [show (0 : Int32) = nn 0 from rfl, nn_le nB nB]; omega) (ok_some ?_)
      rw [if_neg (fun z => by cases z)]
theorem cs_fits {M : fm_M} {k : Nat} {c : Nat → Nat} {f i : Nat} (h : lC M k c) (hi : i < 190) (hf : f = 43 ∨ f = 56 ∨ f = 57) : pReader_fits M (nn f) (nn i) = some (if fit k c f i then 1 else 0) := by
  have hb := h.b i
  have hd := dg_bd (k := k) (c := c) (i := i)
  refine ok_equal ?_
  unfold pReader_fits
  by_cases c0 : f = 43
  · subst c0
    refine ok_pos rfl (ok_bindE (cs_pm h (by omega)) ?_)
    have e : fit k c 43 i ↔ (bb k c i = 43 ∨ bb k c i = 45) := by unfold fit; rw [if_pos rfl]
    by_cases c1 : bb k c i = 43 ∨ bb k c i = 45
    · rw [if_pos c1, if_pos (e.mpr c1), boE (Or.inr rfl)]
      exact ok_some rfl
    · rw [if_neg c1, if_neg (fun z => c1 (e.mp z)), boE (Or.inl rfl)]
      exact ok_some rfl
  · refine ok_neg (by rw [show (43 : Int32) = nn 43 from rfl, nn_inj nB nB]; exact c0) (ok_bindE (cs_digit h (by omega)) ?_)
    have e : fit k c f i ↔ (0 ≤ dg k c i ∧ dg k c i ≤ (f : Int) - 48) := by unfold fit; rw [if_neg c0]
    rw [show nn f - 48 = ii ((f : Int) - 48) by rw [nn_ii, show (48 : Int32) = ii 48 from rfl, ii_sub]]
    by_cases c1 : 0 ≤ dg k c i ∧ dg k c i ≤ (f : Int) - 48
    · refine ok_bindE (wi_pos (rng_in (lo := 0) c1 (by omega))) ?_
      rw [if_pos (e.mpr c1), boE (Or.inr rfl)]
      exact ok_some rfl
    · refine ok_bindE (wi_neg (nrng (lo := 0) c1 (by omega))) ?_
      rw [if_neg (fun z => c1 (e.mp z)), boE (Or.inl rfl)]
      exact ok_some rfl
/-! places -/
theorem fit_in {k : Nat} {c : Nat → Nat} {f i : Nat} (h : fit k c f i) : i < k := by
  by_cases z : i < k
  · exact z
  · unfold fit at h
    by_cases c0 : f = 43
    · rw [if_pos c0] at h
      unfold bb at h
      rw [if_neg z] at h
      omega
    · rw [if_neg c0, dg_out (by omega)] at h
      omega
theorem ef_in {k : Nat} {c : Nat → Nat} : ∀ {fs : List Nat} {i : Nat}, ef k c fs i = none → i ≤ k → i + fs.length ≤ k
  | [], i, _, h => h
  | f :: fs, i, h, hi => by
    unfold ef at h
    by_cases z : fit k c f i
    · rw [if_pos z] at h
      have := fit_in z
      have := ef_in h (by omega)
      rw [List.length_cons]
      omega
    · rw [if_neg z] at h
      cases h
theorem ef_lt {k : Nat} {c : Nat → Nat} : ∀ {fs : List Nat} {i e : Nat}, ef k c fs i = some e → e < i + fs.length
  | [], i, e, h => by unfold ef at h; cases h
  | f :: fs, i, e, h => by
    unfold ef at h
    rw [List.length_cons]
    by_cases z : fit k c f i
    · rw [if_pos z] at h
      have := ef_lt h
      omega
    · rw [if_neg z] at h
      injection h with h
      omega
def pl (k : Nat) (c : Nat → Nat) : Nat → Nat
  | 0 => 0
  | j + 1 => pl k c j + 1 + (sf (shI (bb k c (pl k c j)))).length
theorem aE_none {k : Nat} {c : Nat → Nat} {i : Nat} (h : aE k c i = none) : shL (bb k c i) = some (sf (shI (bb k c i))) ∧ ef k c (sf (shI (bb k c i))) (i + 1) = none := by
  unfold aE at h
  match hL : shL (bb k c i) with
  | none => rw [hL] at h; cases h
  | some fs =>
    rw [hL] at h
    have e := shL_sf hL
    subst e
    exact ⟨rfl, h⟩
theorem pl_ge {k : Nat} {c : Nat → Nat} : ∀ j, j ≤ pl k c j
  | 0 => Nat.le_refl _
  | j + 1 => by
    have := pl_ge (k := k) (c := c) j
    unfold pl
    omega
def dO (k : Nat) (c : Nat → Nat) (J : Nat) : Prop := (∀ j, j < J → pl k c j < k ∧ aE k c (pl k c j) = none) ∧ (k ≤ pl k c J ∨ (pl k c J < k ∧ ∃ e, aE k c (pl k c J) = some e))
theorem dO_ex {k : Nat} {c : Nat → Nat} : ∃ J, J ≤ k ∧ dO k c J := by
  have key : ∀ r j, j + r = k → (∀ j', j' < j → pl k c j' < k ∧ aE k c (pl k c j') = none) → ∃ J, J ≤ k ∧ dO k c J := by
    intro r
    induction r with
    | zero =>
      intro j hj h
      have := pl_ge (k := k) (c := c) j
      exact ⟨j, by omega, h, Or.inl (by omega)⟩
    | succ r ih =>
      intro j hj h
      by_cases z : k ≤ pl k c j
      · exact ⟨j, by omega, h, Or.inl z⟩
      · match hE : aE k c (pl k c j) with
        | some e => exact ⟨j, by omega, h, Or.inr ⟨by omega, e, hE⟩⟩
        | none =>
          refine ih (j + 1) (by omega) (fun j' hj' => ?_)
          by_cases e : j' = j
          · subst e; exact ⟨by omega, hE⟩
          · exact h j' (by omega)
  exact key k 0 (by omega) (fun j' h => absurd h (Nat.not_lt_zero _))
theorem pl_le {k : Nat} {c : Nat → Nat} {J : Nat} (h : dO k c J) : ∀ j, j ≤ J → pl k c j ≤ k := by
  intro j hj
  match j with
  | 0 => exact Nat.zero_le _
  | j + 1 =>
    obtain ⟨h1, h2⟩ := h.1 j (by omega)
    exact ef_in (aE_none h2).2 (by omega)
/-! faultInDay -/
theorem cs_forms {N : Nat} {M : fm_M} {k : Nat} {c : Nat → Nat} {d a : Nat} {k2 : Int32 → Option Int32} {Q : Int32 → Prop} (h : lC M k c) (hd : d < 5) (ha : a < 150) : ∀ (rest : List Nat) (j F : Nat), (sf d).drop j = rest → j ≤ (sf d).length → rest.length < F → (ef k c rest (a + j) = none → ok (k2 (nn (a + j + rest.length))) Q) → (∀ e, ef k c rest (a + j) = some e → Q (nn e)) → ok (fm_lp (pReader_faultInDay_L42 N M d k2) F (nn (a + j), nn j)) Q := by
  have hst : (sf d).length ≤ 4 ∧ ∀ f ∈ sf d, f = 43 ∨ f = 56 ∨ f = 57 := st_forms ⟨d, hd⟩
  have h4l := hst.1
  intro rest
  induction rest with
  | nil =>
    intro j F h1 hj h2 h3 h4
    obtain ⟨F, rfl⟩ : ∃ F', F = F' + 1 := ⟨F - 1, by have : (0 : Nat) < F := h2; omega⟩
    have hl : (sf d).length ≤ j := List.drop_eq_nil_iff.mp h1
    rw [lpS]
    unfold pReader_faultInDay_L42 pReader_faultInDay_L42b
    try dsimp only
    exact ok_bindE (cs_len hd) (ok_pos (by rw [nn_le nB nB]; exact hl) (h3 rfl))
  | cons f rest ih =>
    intro j F h1 hj h2 h3 h4
    rw [List.length_cons] at h2
    obtain ⟨F, rfl⟩ : ∃ F', F = F' + 1 := ⟨F - 1, by omega⟩
    have hl : j < (sf d).length := by
      by_cases z : j < (sf d).length
      · exact z
      · rw [List.drop_eq_nil_iff.mpr (by omega)] at h1
        cases h1
    have hf : (sf d).getD j 0 = f := by
      have := congrArg (fun l => l.getD 0 0) h1
      simpa using this
    have hr : (sf d).drop (j + 1) = rest := by
      have := congrArg List.tail h1
      simpa using this
    have hmem : f ∈ sf d := by
      have : f ∈ (sf d).drop j := by rw [h1]; exact List.mem_cons_self
      exact List.mem_of_mem_drop this
    rw [lpS]
    unfold pReader_faultInDay_L42 pReader_faultInDay_L42b
    try dsimp only
    refine ok_bindE (cs_len hd) (ok_neg (by rw [nn_le nB nB]; omega) (ok_bindE (cs_chr hd hl) ?_))
    rw [hf]
    refine ok_bindE (cs_fits h (by omega) (hst.2 f hmem)) ?_
    by_cases z : fit k c f (a + j)
    · rw [if_pos z]
      refine ok_neg (by decide) ?_
      rw [nn_succ, nn_succ]
      have e : ef k c (f :: rest) (a + j) = ef k c rest (a + j + 1) := by rw [ef, if_pos z]
      refine ih (j + 1) F hr (by omega) (by omega) (fun y => ?_) (fun e' y => h4 e' (by rw [e]; exact y))
      have := h3 (by rw [e]; exact y)
      rw [List.length_cons] at this
      rw [show a + (j + 1) + rest.length = a + j + (rest.length + 1) by omega]
      exact this
    · rw [if_neg z]
      exact ok_pos rfl (ok_some (h4 (a + j) (by rw [ef, if_neg z])))
theorem cs_faultInDay {N : Nat} {M : fm_M} {k : Nat} {c : Nat → Nat} {J : Nat} (hN : 4000 ≤ N) (h : lC M k c) (hJ : J ≤ k) (hO : dO k c J) : ok (pReader_faultInDay N M) (fun x => (k ≤ pl k c J ∧ x = -1) ∨ (pl k c J < k ∧ ∃ e, aE k c (pl k c J) = some e ∧ x = nn e)) := by
  have hk80 := h.1
  unfold pReader_faultInDay
  refine ok_for J (fun j t => t = nn (pl k c j)) ?_ ?_ rfl (by omega)
  · rintro j t hj rfl kk hk
    obtain ⟨h1, h2⟩ := hO.1 j hj
    obtain ⟨h3, h4⟩ := aE_none h2
    unfold pReader_faultInDay_L2 pReader_faultInDay_L2b
    rw [h.2.1]
    refine ok_neg (by rw [nn_le nB nB]; omega) (ok_bindE (cs_lat h (by omega)) (ok_bindE (cs_isAct (h.b _)) ?_))
    rw [if_neg (show ¬ shL (bb k c (pl k c j)) = none by rw [h3]; intro z; cases z)]
    refine ok_neg (by decide) (ok_bindE (cs_shape (h.b _)) ?_)
    rw [nn_succ]
    have hst : (sf (shI (bb k c (pl k c j)))).length ≤ 4 := (st_forms ⟨_, shI_le (bb k c (pl k c j))⟩).1
    refine cs_forms (a := pl k c j + 1) h (shI_le _) (by omega) (sf (shI (bb k c (pl k c j)))) 0 N rfl (by omega) (by omega) (fun _ => ?_) (fun e y => ?_)
    · exact hk _ rfl
    · rw [show pl k c j + 1 + 0 = pl k c j + 1 from rfl, h4] at y
      cases y
  · rintro t rfl kk
    unfold pReader_faultInDay_L2 pReader_faultInDay_L2b
    rw [h.2.1]
    have hle := pl_le hO J (Nat.le_refl _)
    rcases hO.2 with y | ⟨y, e, he⟩
    · exact ok_pos (by rw [nn_le nB nB]; exact y) (ok_some (Or.inl ⟨y, rfl⟩))
    · refine ok_neg (by rw [nn_le nB nB]; omega) (ok_bindE (cs_lat h (by omega)) (ok_bindE (cs_isAct (h.b _)) ?_))
      match hL : shL (bb k c (pl k c J)) with
      | none =>
        rw [if_pos rfl]
        refine ok_pos rfl (ok_some (Or.inr ⟨y, pl k c J, ?_, rfl⟩))
        unfold aE
        rw [hL]
      | some fs =>
        have hfs := shL_sf hL
        have he' : ef k c fs (pl k c J + 1) = some e := by
          unfold aE at he
          rw [hL] at he
          exact he
        rw [if_neg (show ¬ (some fs : Option (List Nat)) = none from fun z => by cases z)]
        refine ok_neg (by decide) (ok_bindE (cs_shape (h.b _)) ?_)
        rw [nn_succ]
        have hst : (sf (shI (bb k c (pl k c J)))).length ≤ 4 := (st_forms ⟨_, shI_le (bb k c (pl k c J))⟩).1
        rw [hfs] at he'
        refine cs_forms (a := pl k c J + 1) h (shI_le _) (by omega) (sf (shI (bb k c (pl k c J)))) 0 N rfl (by omega) (by omega) (fun z => ?_) (fun e2 z => ?_)
        · rw [show pl k c J + 1 + 0 = pl k c J + 1 from rfl, he'] at z
          cases z
        · rw [show pl k c J + 1 + 0 = pl k c J + 1 from rfl, he'] at z
          injection z with z
          subst z
          exact Or.inr ⟨y, e, he, rfl⟩
