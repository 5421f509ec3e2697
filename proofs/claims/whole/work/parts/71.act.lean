/-! ===== acts: what is read, what is done ===== -/
def nm (k : Nat) (c : Nat → Nat) : Nat → Nat → Int
  | 0, _ => 0
  | r + 1, i => 10 * nm k c r i + dg k c (i + r)
theorem nm_bd {k : Nat} {c : Nat → Nat} {i : Nat} : ∀ {r : Nat}, r ≤ 4 → -20000 ≤ nm k c r i ∧ nm k c r i ≤ 20000 := by
  intro r hr
  have d0 := dg_bd (k := k) (c := c) (i := i + 0)
  have d1 := dg_bd (k := k) (c := c) (i := i + 1)
  have d2 := dg_bd (k := k) (c := c) (i := i + 2)
  have d3 := dg_bd (k := k) (c := c) (i := i + 3)
  match r, hr with
  | 0, _ => unfold nm; omega
  | 1, _ => unfold nm nm; omega
  | 2, _ => unfold nm nm nm; omega
  | 3, _ => unfold nm nm nm nm; omega
  | 4, _ => unfold nm nm nm nm nm; omega
theorem cs_number {N : Nat} {M : fm_M} {k : Nat} {c : Nat → Nat} {i r : Nat} (hN : 4000 ≤ N) (h : lC M k c) (hi : i < 190) (hr : r ≤ 4) : pLetters_number N M (nn i) (nn r) = some (ii (nm k c r i)) := by
  refine ok_equal ?_
  unfold pLetters_number
  refine ok_for r (fun j t => t.1 = ii (nm k c j i) ∧ t.2 = nn j) ?_ ?_ ⟨rfl, rfl⟩ (by omega)
  · rintro j ⟨w1, w2⟩ hj ⟨a1, a2⟩ kk hk
    try dsimp only at a1 a2
    subst a1
    subst a2
    unfold pLetters_number_L5 pLetters_number_L5b
    try dsimp only
    rw [nn_add]
    refine ok_neg (by rw [nn_le nB nB]; omega) (ok_bindE (cs_digit h (by omega)) (hk _ ⟨?_, nn_succ⟩))
    try dsimp only
    rw [show (10 : Int32) = ii 10 from rfl, ii_mul, ii_add]
    rfl
  · rintro ⟨w1, w2⟩ ⟨a1, a2⟩ kk
    try dsimp only at a1 a2
    subst a1
    subst a2
    unfold pLetters_number_L5 pLetters_number_L5b
    try dsimp only
    exact ok_pos (by rw [nn_le nB nB]; omega) (ok_some rfl)
theorem cs_signed {M : fm_M} {k : Nat} {c : Nat → Nat} {i : Nat} (h : lC M k c) (hi : i < 190) : pLetters_signedDigit M (nn i) = some (scell k c i 0 0) := by
  have hb := h.b i
  refine ok_equal ?_
  unfold pLetters_signedDigit
  refine ok_bindE (cs_lat h (by omega)) ?_
  rw [nn_succ]
  unfold scell
  rw [if_pos rfl]
  by_cases c4 : bb k c i = 45
  · refine ok_pos (by rw [c4]; rfl) (ok_bindE (cs_digit h (by omega)) (ok_some ?_))
    rw [if_pos c4, ii_neg]
  · refine ok_neg (by rw [show (45 : Int32) = ii 45 from rfl, ii_inj (by omega)]; exact c4) (ok_bindE (cs_digit h (by omega)) (ok_some ?_))
    rw [if_neg c4]
/-! the forms -/
abbrev fit (k : Nat) (c : Nat → Nat) (f i : Nat) : Prop := if f = 43 then (bb k c i = 43 ∨ bb k c i = 45) else (0 ≤ dg k c i ∧ dg k c i ≤ (f : Int) - 48)
def ef (k : Nat) (c : Nat → Nat) : List Nat → Nat → Option Nat
  | [], _ => none
  | f :: fs, i => if fit k c f i then ef k c fs (i + 1) else some i
def shL (b : Int) : Option (List Nat) := if b = 97 then some [57, 43, 56] else if b = 98 then some [57, 57, 57] else if b = 99 then some [57, 57, 57, 57] else if b = 100 then some [57, 57] else if b = 103 then some [57, 57, 57, 57] else if b = 111 then some [57, 57] else if b = 115 then some [57, 57] else if b = 119 then some [57, 57] else if b = 108 then some [] else none
def aE (k : Nat) (c : Nat → Nat) (i : Nat) : Option Nat := match shL (bb k c i) with
  | none => some i
  | some fs => ef k c fs (i + 1)
def arec (k : Nat) (c : Nat → Nat) (i b : Nat) (M : fm_M) : Prop :=
  M.1 4 b = ii (bb k c i) ∧ (bb k c i = 97 → M.1 4 (b + 1) = ii (dg k c (i + 1)) ∧ M.1 4 (b + 2) = scell k c (i + 2) 0 0) ∧ (bb k c i = 98 → M.1 4 (b + 1) = ii (nm k c 3 (i + 1))) ∧ (bb k c i = 99 → M.1 4 (b + 1) = ii (nm k c 4 (i + 1))) ∧ (bb k c i = 115 → M.1 4 (b + 1) = ii (nm k c 2 (i + 1))) ∧ (bb k c i = 100 ∨ bb k c i = 111 ∨ bb k c i = 119 → M.1 4 (b + 1) = ii (dg k c (i + 1)) ∧ M.1 4 (b + 2) = ii (dg k c (i + 2))) ∧ (bb k c i = 103 → M.1 4 (b + 1) = ii (dg k c (i + 1)) ∧ M.1 4 (b + 2) = ii (nm k c 3 (i + 2)))
/-- what an act comes to, on both sides -/
def acB (M1 M2 : fm_M) (q : Nat) (c d : Option (Int32 × fm_M)) : Prop := ∃ x1 M1' x2 M2', c = some (x1, M1') ∧ d = some (x2, M2') ∧ ((0 ≤ x1 ∧ x2 = 1) ∨ (¬ 0 ≤ x1 ∧ x2 = 0)) ∧ gV (M2'.1 1) ∧ rS M1' 1 (M2'.1 1) ∧ fr opR M1 M1' ∧ fr glR M2 M2' ∧ ∃ q', eS M1' q' ∧ q' ≤ q + 1
theorem ac_put {M1 M2 : fm_M} {q p w : Nat} {v1 v : Int32} (hg : gV (M2.1 1)) (hr : rS M1 1 (M2.1 1)) (hS : eS M1 q) (hp : p = w + 1) (hw : w < 5) : acB M1 M2 q ((pScene_put M1 v1 (nn p) v).bind (fun x => some (x.1, x.2))) ((pModel_puts M2 v1 (nn w) v).bind (fun x => fm_bo x.1 (some (x.1, x.2)))) := by
  subst hp
  obtain ⟨⟨x1, M1'⟩, e1, a1, a2, a3⟩ := cs_putP (v1 := v1) (v := v) hg hr (show 1 ≤ w + 1 by omega) (show w + 1 < 6 by omega)
  obtain ⟨⟨x2, M2'⟩, e2, b1, b2, b3⟩ := md_puts (M1 := M1) (v1 := v1) (v := v) hg hr hw
  try dsimp only at a1 a2 a3 b1 b2 b3
  have x2b : x2 = 0 ∨ x2 = 1 := by
    rcases b3 with ⟨_, z⟩ | ⟨_, z⟩
    · exact Or.inr z
    · exact Or.inl z
  refine ⟨x1, M1', x2, M2', by rw [e1]; rfl, by rw [e2]; exact boE x2b, ?_, ?_, ?_, a1.up (fun k hk => Or.inl hk), b1.up (fun k hk => Or.inl hk), q, hS.kf a1 (by decide) (by decide), by omega⟩
  · rcases a3 with ⟨y1, y2⟩ | ⟨y1, y2⟩
    · rcases b3 with ⟨_, z⟩ | ⟨z, _⟩
      · exact Or.inl ⟨y2, z⟩
      · exact absurd y1 z
    · rcases b3 with ⟨z, _⟩ | ⟨_, z⟩
      · exact absurd z y1
      · exact Or.inr ⟨y2, z⟩
  · rw [b2]; exact pt_V hg (by omega)
  · rw [b2]; exact a2
theorem ac_hold {M1 M2 : fm_M} {q p : Nat} {v : Int32} (hg : gV (M2.1 1)) (hr : rS M1 1 (M2.1 1)) (hS : eS M1 q) (hp : p < 3) : acB M1 M2 q ((pScene_hold M1 (nn p) v).bind (fun x => some (x.1, x.2))) ((pModel_actHolds M2 (nn p) v).bind (fun x => fm_bo x.1 (some (x.1, x.2)))) := by
  by_cases hv : bd v (hlo p) (hhi p)
  · by_cases e : M2.1 1 (37 + p) = v
    · have eu : upd (M2.1 1) (37 + p) v = M2.1 1 := by rw [← e]; exact upd_same
      refine ⟨-2, fm_si M1 14 p v, 0, M2, by rw [cs_hold hr hp hv, if_pos e]; rfl, ?_, Or.inr ⟨by decide, rfl⟩, hg, ?_, fr.si (by unfold opR; omega), fr.rf, q, hS.kf (P := fun k => k = 14) (fr.si rfl) (by decide) (by decide), by omega⟩
      · unfold pModel_actHolds
        rw [md_refHold hp hv, if_pos e]
        rfl
      · have := rS_hold (v := v) hg hr hp
        rw [eu] at this
        exact this
    · refine ⟨_, _, 1, fm_si M2 1 (37 + p) v, by rw [cs_hold hr hp hv, if_neg e]; rfl, ?_, Or.inl ⟨?_, rfl⟩, ?_, ?_, fr.si (by unfold opR; omega), fr.si (Or.inl rfl), q, hS.kf (P := fun k => k = 14) (fr.si rfl) (by decide) (by decide), by omega⟩
      · refine ok_equal ?_
        unfold pModel_actHolds
        refine ok_bind (P := fun x => x = (1, fm_si M2 1 (37 + p) v)) (ok_bindE (md_refHold hp hv) ?_) ?_
        · rw [if_neg e, show (37 : Int32) + nn p = nn (37 + p) from nn_add]
          exact ok_pos (by decide) (ok_st (by omega) nL (ok_some rfl))
        · rintro x rfl
          try dsimp only
          rw [boE (Or.inr rfl)]
          exact ok_some rfl
      · exact bd_ge ((gV_iff.mp hg).2.2.1 p hp) (st_hlim ⟨p, hp⟩).2.2.1
      · rw [si_one]; exact gV_hold hg hp hv
      · rw [si_one]; exact rS_hold hg hr hp
  · have hv' : ¬ ∃ q', q' < 3 ∧ nn p = nn q' ∧ bd v (hlo q') (hhi q') := by
      rintro ⟨q', y1, y2, y3⟩
      rw [nn_inj nB nB] at y2
      subst y2
      exact hv y3
    refine ⟨-1, M1, 0, M2, by rw [cs_holdNo hv']; rfl, ?_, Or.inr ⟨by decide, rfl⟩, hg, hr, fr.rf, fr.rf, q, hS, by omega⟩
    unfold pModel_actHolds
    rw [md_refHoldNo hv']
    rfl
theorem ac_aim {M1 M2 : fm_M} {q : Nat} {v1 v : Int32} (hg : gV (M2.1 1)) (hr : rS M1 1 (M2.1 1)) (hS : eS M1 q) : acB M1 M2 q ((pScene_aim M1 v1 0 v).bind (fun x => some (x.1, x.2))) ((pModel_refusesAim M2 v1 0 v).bind (fun x => if 0 ≤ x then fm_st 101 M2 1 (41 + (15 * v1)) v (fun M202 => some (1, M202)) else some (0, M2))) := by
  have hs4 := hg.s.2
  by_cases hv : amV (M2.1 1) v1 0 v
  · obtain ⟨s, w, hs1, hw, rfl, hw0, hv⟩ := hv
    have w0 : w = 0 := by
      rw [show (0 : Int32) = nn 0 from rfl, nn_inj nB nB] at hw0
      exact hw0.symm
    subst w0
    by_cases e : M2.1 1 (41 + 15 * s + 0) = v
    · refine ⟨-2, M1, 0, M2, ?_, ?_, Or.inr ⟨by decide, rfl⟩, hg, hr, fr.rf, fr.rf, q, hS, by omega⟩
      · rw [show (0 : Int32) = nn 0 from rfl, cs_aim hg hr hs1 (by decide) hv, if_pos e]
        rfl
      · rw [show (0 : Int32) = nn 0 from rfl, md_refAim hg hs1 (by decide) hv, if_pos e]
        rfl
    · refine ⟨M2.1 1 (41 + 15 * s + 0) + 8, fm_si M1 (10 + s) 0 v, 1, fm_si M2 1 (41 + 15 * s + 0) v, ?_, ?_, Or.inl ⟨?_, rfl⟩, ?_, ?_, fr.si (by unfold opR; omega), fr.si (Or.inl rfl), q, hS.kf (P := fun k => k = 10 + s) (fr.si rfl) (by omega) (by omega), by omega⟩
      · rw [show (0 : Int32) = nn 0 from rfl, cs_aim hg hr hs1 (by decide) hv, if_neg e]
        rfl
      · refine ok_equal ?_
        refine ok_bindE (md_refAim hg hs1 (by decide) hv) ?_
        rw [if_neg e, show (41 : Int32) + (15 * nn s) = nn (41 + 15 * s + 0) by rw [show (41 : Int32) = nn 41 from rfl, show (15 : Int32) = nn 15 from rfl, nn_mul, nn_add]; rfl]
        exact ok_pos (by decide) (ok_st (by omega) nL (ok_some rfl))
      · obtain ⟨z, ez, z1, z2⟩ := bd_ii (hg.src hs1).1
        rw [show M2.1 1 (41 + 15 * s + 0) = ii z from ez, show (8 : Int32) = ii 8 from rfl, ii_add, show (0 : Int32) = ii 0 from rfl, ii_le (by omega)]
        omega
      · rw [si_one]; exact gV_aim hg (by decide) hv
      · rw [si_one]; exact rS_aim hg hr hs1 (by decide)
  · refine ⟨-1, M1, 0, M2, ?_, ?_, Or.inr ⟨by decide, rfl⟩, hg, hr, fr.rf, fr.rf, q, hS, by omega⟩
    · rw [cs_aimNo hg hr hv]; rfl
    · rw [md_refAimNo (M1 := M1) hg hr hv]; rfl
theorem ac_learn {N : Nat} {M1 M2 : fm_M} {q : Nat} {l : List Int64} (hN : 4000 ≤ N) (hg : gV (M2.1 1)) (hr : rS M1 1 (M2.1 1)) (hS : eS M1 q) (hq : q < 900000000) (hm : rMod M2) (ht : tdM M2 l) : acB M1 M2 q ((pMicRow_learnEqual N M1).bind (fun x => some (x.1, x.2))) ((pModel_goLearn N M2).bind (fun x => if x.1 < 0 then some (0, x.2) else some (1, x.2))) := by
  obtain ⟨⟨x1, M1'⟩, e1, a1, a2, a3⟩ := cs_learnEqual hN hg hr hS hq
  obtain ⟨⟨x2, M2'⟩, e2, b1, b2⟩ := md_goLearn hN hg (aM_all hg hm) ht
  try dsimp only at a1 a2 a3 b1 b2
  have hn6 := hg.n.2
  rcases a3 with ⟨y1, y2, y3⟩ | ⟨y1, y2, y3⟩
  · rcases b2 with ⟨z1, z2, z3⟩ | ⟨z1, _, _⟩
    · subst y2
      subst z2
      exact ⟨-2, M1', 0, M2', by rw [e1]; rfl, by rw [e2]; rfl, Or.inr ⟨by decide, rfl⟩, by rw [z3]; exact hg, by rw [z3]; exact y3, a1, b1, q + 1, a2, by omega⟩
    · rw [y1] at z1; cases z1
  · rcases b2 with ⟨z1, _, _⟩ | ⟨z1, z2, z3⟩
    · rw [y1] at z1; cases z1
    · subst y2
      subst z2
      have hc := ct_le (p := lcp (M2.1 1)) (n := gn (M2.1 1))
      refine ⟨_, M1', 1, M2', by rw [e1]; rfl, ?_, Or.inl ⟨by rw [show (0 : Int32) = nn 0 from rfl, nn_le nB nB]; omega, rfl⟩, by rw [z3]; exact lg_V hg (Nat.le_refl _), by rw [z3]; exact y3, a1, b1, q + 1, a2, by omega⟩
      refine ok_equal (ok_bindE e2 (ok_neg ?_ (ok_some rfl)))
      rw [show (0 : Int32) = nn 0 from rfl, nn_lt nB nB]
      omega
theorem ac_sort {N : Nat} {M1 M2 : fm_M} {q : Nat} {l : List Int64} {v : Int32} (hN : 4000 ≤ N) (hg : gV (M2.1 1)) (hr : rS M1 1 (M2.1 1)) (hS : eS M1 q) (hq : q < 900000000) (hm : rMod M2) (ht : tdM M2 l) : acB M1 M2 q ((pMicRow_sortOut N M1 v).bind (fun x => some (x.1, x.2))) ((pModel_in M2 v 1 48).bind (fun y => if y = 0 then some (0, M2) else (pModel_goSort N M2 v).bind (fun x => if x.1 < 0 then some (0, x.2) else some (1, x.2)))) := by
  have hn6 := hg.n.2
  rcases rng v 1 48 (by decide) with ⟨z, rfl, b1, b2⟩ | cc
  · obtain ⟨b, rfl⟩ : ∃ t : Nat, z = (t : Int) := ⟨z.toNat, by omega⟩
    rw [← nn_ii]
    have hb : 1 ≤ b ∧ b ≤ 48 := by omega
    obtain ⟨⟨x1, M1'⟩, e1, a1, a2, a3, a4⟩ := cs_sortOut hN hg hr hS hq hb
    obtain ⟨⟨x2, M2'⟩, e2, c1, c2, c3⟩ := md_goSort hN hg (aM_all hg hm) ht hb
    try dsimp only at a1 a2 a3 a4 c1 c2 c3
    subst a3
    subst c2
    have ein : pModel_in M2 (nn b) 1 48 = some 1 := by rw [nn_ii]; exact in_pos (rng_in ⟨b1, b2⟩ (by decide))
    have hgv : gV (M2'.1 1) := by rw [c3]; exact so_V hg (Nat.le_refl _)
    have hrs : rS M1' 1 (M2'.1 1) := by rw [c3]; exact a4
    have fg : fr glR M2 M2' := c1.up (fun k hk => by unfold glR; omega)
    by_cases h0 : ct (sop (M2.1 1) b) (gn (M2.1 1)) = 0
    · have es : soR (M2.1 1) b = -2 := if_pos h0
      rw [es] at e1 e2
      refine ⟨-2, M1', 0, M2', by rw [e1]; rfl, ?_, Or.inr ⟨by decide, rfl⟩, hgv, hrs, a1, fg, q + 1, a2, by omega⟩
      exact ok_equal (ok_bindE ein (ok_neg (by decide) (ok_bindE e2 (ok_pos (show (-2 : Int32) < 0 by decide) (ok_some rfl)))))
    · have es : soR (M2.1 1) b = nn (ns (sob (M2.1 1) b) (gn (M2.1 1))) := if_neg h0
      have hns := ct_ns (p := fun i => !(sob (M2.1 1) b i == 1)) (f := sob (M2.1 1) b) (fun i => by
        have := sob_le (g := M2.1 1) (b := b) (m := i)
        by_cases e : sob (M2.1 1) b i = 1
        · simp [e]
        · simp [e]; omega) (gn (M2.1 1))
      rw [es] at e1 e2
      refine ⟨_, M1', 1, M2', by rw [e1]; rfl, ?_, Or.inl ⟨by rw [show (0 : Int32) = nn 0 from rfl, nn_le nB nB]; omega, rfl⟩, hgv, hrs, a1, fg, q + 1, a2, by omega⟩
      exact ok_equal (ok_bindE ein (ok_neg (by decide) (ok_bindE e2 (ok_neg (by rw [show (0 : Int32) = nn 0 from rfl, nn_lt nB nB]; omega) (ok_some rfl)))))
  · refine ⟨-1, M1, 0, M2, ?_, ?_, Or.inr ⟨by decide, rfl⟩, hg, hr, fr.rf, fr.rf, q, hS, by omega⟩
    · unfold pMicRow_sortOut
      rw [show pMicRow_within M1 v 1 48 = some 0 from wi_neg cc]
      rfl
    · rw [show pModel_in M2 v 1 48 = some 0 from in_neg cc]
      rfl
