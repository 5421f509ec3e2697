/-! ===== what is told; questions change nothing ===== -/
def tdC (M : fm_M) (l : List Int64) : Prop := M.1 176 1 = nn l.length ∧ ∀ i, i < l.length → M.2.1 177 i = l.getD i 0
def tdM (M : fm_M) (l : List Int64) : Prop := M.1 0 4 = nn l.length ∧ ∀ i, i < l.length → M.2.1 3 i = l.getD i 0
theorem gd_new {l : List Int64} {v : Int64} {i : Nat} (h : i < (l ++ [v]).length) : (l ++ [v]).getD i 0 = if i = l.length then v else l.getD i 0 := by
  rw [List.length_append, List.length_singleton] at h
  rw [List.getD_eq_getElem?_getD, List.getD_eq_getElem?_getD]
  by_cases e : i = l.length
  · subst e
    simp
  · rw [if_neg e, List.getElem?_append_left (by omega)]
theorem cs_clear {M : fm_M} : ok (pTold_clear M) (fun M' => fr (fun k => k = 176) M M' ∧ tdC M' []) := by
  unfold pTold_clear
  exact ok_pt (ok_some ⟨fr.si rfl, by unfold tdC; rw [si_same]; exact ⟨rfl, fun i h => absurd h (Nat.not_lt_zero _)⟩⟩)
theorem sl_at {M : fm_M} {k j a i : Nat} {v : Int64} : (fm_sl M k j v).2.1 a i = if a = k ∧ i = j then v else M.2.1 a i := by
  show (if a = k then vp_updL (M.2.1 a) j v else M.2.1 a) i = _
  by_cases h1 : a = k
  · rw [if_pos h1]
    show (if i = j then v else M.2.1 a i) = _
    by_cases h2 : i = j
    · rw [if_pos h2, if_pos ⟨h1, h2⟩]
    · rw [if_neg h2, if_neg (fun z => h2 z.2)]
  · rw [if_neg h1, if_neg (fun z => h1 z.1)]
theorem cs_add {M : fm_M} {l : List Int64} {v : Int64} (h : tdC M l) (hl : l.length < 17) : ok (pTold_add M v) (fun M' => fr (fun k => k = 176 ∨ k = 177) M M' ∧ tdC M' (l ++ [v])) := by
  obtain ⟨h1, h2⟩ := h
  unfold pTold_add
  refine ok_neg (by rw [h1, show (17 : Int32) = nn 17 from rfl, nn_le nB nB]; omega) ?_
  rw [h1]
  refine ok_stl hl nL (ok_pt (ok_some ⟨(fr.sl (Or.inr rfl)).tr (fr.si (Or.inl rfl)), ?_, ?_⟩))
  · rw [si_same, List.length_append, List.length_singleton]
    show M.1 176 1 + 1 = _
    rw [h1, nn_succ]
  · intro i hi
    rw [gd_new hi]
    show (fm_sl M 177 l.length v).2.1 177 i = _
    rw [sl_at]
    by_cases e : i = l.length
    · rw [if_pos ⟨rfl, e⟩, if_pos e]
    · rw [if_neg (fun z => e z.2), if_neg e]
      rw [List.length_append, List.length_singleton] at hi
      exact h2 i (by omega)
theorem md_tell {M : fm_M} {l : List Int64} {v : Int64} (h : tdM M l) (hl : l.length < 17) : ok (pModel_tell M v) (fun M' => fr (fun k => k = 0 ∨ k = 3) M M' ∧ (∀ j, j ≠ 4 → M'.1 0 j = M.1 0 j) ∧ tdM M' (l ++ [v])) := by
  obtain ⟨h1, h2⟩ := h
  unfold pModel_tell
  rw [h1]
  refine ok_stl (by omega) nL (ok_pt (ok_some ⟨(fr.sl (Or.inr rfl)).tr (fr.si (Or.inl rfl)), ?_, ?_, ?_⟩))
  · intro j hj
    rw [si_col hj]
    rfl
  · rw [si_same, List.length_append, List.length_singleton]
    show M.1 0 4 + 1 = _
    rw [h1, nn_succ]
  · intro i hi
    rw [gd_new hi]
    show (fm_sl M 3 l.length v).2.1 3 i = _
    rw [sl_at]
    by_cases e : i = l.length
    · rw [if_pos ⟨rfl, e⟩, if_pos e]
    · rw [if_neg (fun z => e z.2), if_neg e]
      rw [List.length_append, List.length_singleton] at hi
      exact h2 i (by omega)
theorem tdC.kf {P : Nat → Prop} {M M' : fm_M} {l : List Int64} (h : tdC M l) (hf : fr P M M') (h1 : ¬ P 176) (h2 : ¬ P 177) : tdC M' l := by
  unfold tdC
  rw [hf.1 176 h1, hf.2.1 177 h2]
  exact h
theorem tdM.kf {P : Nat → Prop} {M M' : fm_M} {l : List Int64} (h : tdM M l) (hf : fr P M M') (h1 : ¬ P 0) (h2 : ¬ P 3) : tdM M' l := by
  unfold tdM
  rw [hf.1 0 h1, hf.2.1 3 h2]
  exact h
theorem tdM.z {P : Nat → Prop} {M M' : fm_M} {l : List Int64} (h : tdM M l) (hf : fr P M M') (h1 : M'.1 0 4 = M.1 0 4) (h2 : ¬ P 3) : tdM M' l := by
  unfold tdM
  rw [h1, hf.2.1 3 h2]
  exact h
theorem tdM.pt {M : fm_M} {l : List Int64} (h : tdM M l) {k j : Nat} {v : Int32} (hj : k ≠ 0 ∨ j ≠ 4) : tdM (fm_si M k j v) l := by
  unfold tdM
  rw [si_at, if_neg (by omega)]
  exact h
theorem tdM.clear {M : fm_M} : tdM (fm_si M 0 4 0) [] := by
  unfold tdM
  rw [si_same]
  exact ⟨rfl, fun i h => absurd h (Nat.not_lt_zero _)⟩
/-- the model: nothing changed that a later call shows, but the row -/
def mq (M M' : fm_M) : Prop := (∀ k, k = 1 ∨ k = 2 ∨ k = 13 ∨ k = 17 ∨ k = 18 → M'.1 k = M.1 k) ∧ ∀ j, j = 2 ∨ j = 11 ∨ j = 12 ∨ j = 13 ∨ j = 25 → M'.1 0 j = M.1 0 j
theorem mq.rf {M : fm_M} : mq M M := ⟨fun _ _ => rfl, fun _ _ => rfl⟩
theorem mq.tr {M M' M'' : fm_M} (h : mq M M') (h' : mq M' M'') : mq M M'' := ⟨fun k hk => (h'.1 k hk).trans (h.1 k hk), fun j hj => (h'.2 j hj).trans (h.2 j hj)⟩
theorem mq.kf {P : Nat → Prop} {M M' M'' : fm_M} (h : mq M M') (hf : fr P M' M'') (hP : ∀ k, k = 0 ∨ k = 1 ∨ k = 2 ∨ k = 13 ∨ k = 17 ∨ k = 18 → ¬ P k) : mq M M'' := h.tr ⟨fun k hk => hf.1 k (hP k (by omega)), fun j _ => by rw [hf.1 0 (hP 0 (by omega))]⟩
theorem mq.z {P : Nat → Prop} {M M' M'' : fm_M} {c : Nat} (h : mq M M') (hf : fr P M' M'') (hz : ∀ j, j ≠ c → M''.1 0 j = M'.1 0 j) (hP : ∀ k, k = 1 ∨ k = 2 ∨ k = 13 ∨ k = 17 ∨ k = 18 → ¬ P k) (hc : c ≠ 2 ∧ c ≠ 11 ∧ c ≠ 12 ∧ c ≠ 13 ∧ c ≠ 25) : mq M M'' := h.tr ⟨fun k hk => hf.1 k (hP k hk), fun j hj => hz j (by omega)⟩
theorem mq.pt {M M' : fm_M} (h : mq M M') {j : Nat} {v : Int32} (hj : j ≠ 2 ∧ j ≠ 11 ∧ j ≠ 12 ∧ j ≠ 13 ∧ j ≠ 25) : mq M (fm_si M' 0 j v) := h.tr ⟨fun k hk => si_row (by omega), fun i hi => si_col (by omega)⟩
theorem mq.one {M M' : fm_M} (h : mq M M') : M'.1 1 = M.1 1 := h.1 1 (by omega)
def qC (M1 : fm_M) (q : Nat) (l : List Int64) (M : fm_M) : Prop := fr (fun k => 176 ≤ k) M1 M ∧ tdC M l ∧ ∃ q', eS M q' ∧ q' ≤ q + 90
def qM (M2 : fm_M) (l : List Int64) (M : fm_M) : Prop := mq M2 M ∧ tdM M l
theorem rKept_of {M1 M2 M1' M2' : fm_M} (h : rKept M1 M2) (f1 : ∀ a, 30 ≤ a → a < 59 → M1'.1 a = M1.1 a) (e17 : M2'.1 17 = M2.1 17) (e18 : M2'.1 18 = M2.1 18) : rKept M1' M2' := by
  intro i hi
  obtain ⟨h1, h2⟩ := h i hi
  rw [f1 58 (by omega) (by omega), e18]
  refine ⟨h1, fun hne => ?_⟩
  obtain ⟨h3, h4⟩ := h2 hne
  have e : gkept M2' i = gkept M2 i := by unfold gkept; rw [e17]
  rw [e]
  exact ⟨h3, h4.kept (fun a a1 a2 => f1 a (by omega) (by omega)) h3⟩
theorem rPast_of {M1 M2 M1' M2' : fm_M} (h : rPast M1 M2) (f1 : ∀ a, 59 ≤ a → a < 173 → M1'.1 a = M1.1 a) (f2 : M1'.2.2 = M1.2.2) (e13 : M2'.1 13 = M2.1 13) (e25 : M2'.1 0 25 = M2.1 0 25) : rPast M1' M2' := by
  obtain ⟨n, h0, h1, h2, h3, h4, h5⟩ := h
  refine ⟨n, h0, by rw [f1 59 (by omega) (by omega)]; exact h1, by rw [e25]; exact h2, by rw [f2]; exact h3, by rw [f2]; exact h4, ?_⟩
  intro i hi
  obtain ⟨h6, h7⟩ := h5 i hi
  have e : gundo M2' i = gundo M2 i := by unfold gundo; rw [e13]
  obtain ⟨j, hj, ej⟩ := h3 i (by omega)
  rw [e, f2]
  exact ⟨h6, h7.kept (fun a a1 a2 => f1 a (by omega) (by omega)) h6⟩
theorem rTold_of {M1 M2 : fm_M} {l : List Int64} (h1 : tdC M1 l) (h2 : tdM M2 l) (hl : l.length ≤ 17) : rTold M1 M2 := ⟨l.length, hl, h1.1, h2.1, fun i hi => (h1.2 i hi).trans (h2.2 i hi).symm⟩
theorem rEars_of {M : fm_M} {n q : Nat} (h : eS M q) (hq : q ≤ 100 * n) : rEars n M := ⟨q, hq, h.1, h.2.2⟩
theorem RR_q {n q : Nat} {l : List Int64} {M1 M2 M1' M2' : fm_M} (h : RR n M1 M2) (hq : q ≤ 100 * n) (hl : l.length ≤ 17) (h1 : qC M1 q l M1') (h2 : qM M2 l M2') : RR (n + 1) M1' M2' := by
  obtain ⟨⟨a1, a2⟩, a3, a4, a5, a6, a7, a8⟩ := h
  obtain ⟨f, t1, q', e, hq'⟩ := h1
  obtain ⟨m, t2⟩ := h2
  refine ⟨⟨?_, ?_⟩, ?_, rTold_of t1 t2 hl, rKept_of a5 (fun a b1 b2 => f.1 a (by omega)) (m.1 17 (by omega)) (m.1 18 (by omega)), rPast_of a6 (fun a b1 b2 => f.1 a (by omega)) f.2.2 (m.1 13 (by omega)) (m.2 25 (by omega)), rEars_of e (by omega), ?_⟩
  · rw [m.one]; exact a1
  · rw [m.one]; exact a2.kept (fun a b1 b2 => f.1 a (by omega)) a1
  · obtain ⟨k, k1, k2, k3, k4⟩ := a3
    refine ⟨k, k1, ?_, ?_, ?_⟩
    · rw [f.1 173 (by omega)]; exact k2
    · rw [m.2 2 (by omega)]; exact k3
    · rw [f.1 174 (by omega), m.1 2 (by omega)]; exact k4
  · unfold rMod
    rw [m.2 11 (by omega), m.2 12 (by omega), m.2 13 (by omega)]
    exact a8
theorem RR.opn {n : Nat} {M1 M2 : fm_M} (h : RR n M1 M2) (hn : n < 512) : ∃ q l, gV (M2.1 1) ∧ rS M1 1 (M2.1 1) ∧ eS M1 q ∧ q ≤ 100 * n ∧ tdC M1 l ∧ tdM M2 l ∧ l.length ≤ 17 ∧ rMod M2 := by
  obtain ⟨⟨a1, a2⟩, a3, ⟨k, k1, k2, k3, k4⟩, a5, a6, ⟨q, q1, q2, q3⟩, a8⟩ := h
  have hlen : ((List.range k).map (M1.2.1 177)).length = k := by simp
  have hget : ∀ i, i < k → ((List.range k).map (M1.2.1 177)).getD i 0 = M1.2.1 177 i := by
    intro i hi
    simp [List.getD_eq_getElem?_getD, hi]
  refine ⟨q, (List.range k).map (M1.2.1 177), a1, a2, ⟨q2, by omega, q3⟩, q1, ⟨?_, ?_⟩, ⟨?_, ?_⟩, by rw [hlen]; exact k1, a8⟩
  · rw [hlen]; exact k2
  · rw [hlen]; exact fun i hi => (hget i hi).symm
  · rw [hlen]; exact k3
  · rw [hlen]; exact fun i hi => by rw [hget i hi, k4 i hi]
theorem cpq {n q : Nat} {l : List Int64} {M1 M2 : fm_M} {c d : Option (Int32 × fm_M)} (h : RR n M1 M2) (hq : q ≤ 100 * n) (hl : l.length ≤ 17) (r : Int32) (h1 : ok c (fun x => x.1 = r ∧ qC M1 q l x.2)) (h2 : ok d (fun x => x.1 = r ∧ qM M2 l x.2)) : ∃ (r : Int32) (M1' : fm_M) (M2' : fm_M), c = some (r, M1') ∧ d = some (r, M2') ∧ RR (n + 1) M1' M2' := by
  obtain ⟨⟨r1, M1'⟩, e1, a1, a2⟩ := h1
  obtain ⟨⟨r2, M2'⟩, e2, b1, b2⟩ := h2
  try dsimp only at a1 a2 b1 b2
  subst a1
  subst b1
  exact ⟨_, _, _, e1, e2, RR_q h hq hl a2 b2⟩
theorem qC.same {M1 : fm_M} {q : Nat} {l : List Int64} (hS : eS M1 q) (ht : tdC M1 l) : qC M1 q l M1 := ⟨fr.rf, ht, q, hS, by omega⟩
theorem qM.same {M2 : fm_M} {l : List Int64} (ht : tdM M2 l) {v : Int32} : qM M2 l (fm_si M2 0 5 v) := ⟨mq.rf.pt (by decide), ht.pt (by decide)⟩
/-! which calls are refused -/
theorem rng (v : Int32) (lo hi : Int) (h : -2147483648 ≤ lo ∧ hi ≤ 2147483647 ∧ lo ≤ hi) : (∃ b : Int, v = ii b ∧ lo ≤ b ∧ b ≤ hi) ∨ ¬ (ii lo ≤ v ∧ v ≤ ii hi) := by
  by_cases c : lo ≤ v.toInt ∧ v.toInt ≤ hi
  · exact Or.inl ⟨v.toInt, (ii_of v).symm, c.1, c.2⟩
  · refine Or.inr (fun z => c ?_)
    rw [Int32.le_iff_toInt_le, Int32.le_iff_toInt_le, ii_toInt (by omega), ii_toInt (by omega)] at z
    exact z
theorem rng_in {b lo hi : Int} (h : lo ≤ b ∧ b ≤ hi) (h2 : -2147483648 ≤ lo ∧ hi ≤ 2147483647) : ii lo ≤ ii b ∧ ii b ≤ ii hi := by
  rw [ii_le (by omega), ii_le (by omega)]
  exact h
theorem cs_isDir {M : fm_M} {b : Int} (hb : -8 ≤ b ∧ b ≤ 8) : pMicRow_isDirection M (ii b) = some 1 := by
  unfold pMicRow_isDirection
  refine (bindE (wi_pos (rng_in hb (by decide)))).trans ?_
  exact boE (Or.inr rfl)
theorem cs_noDir {M : fm_M} {v : Int32} (h : ¬ (ii (-8) ≤ v ∧ v ≤ ii 8)) : pMicRow_isDirection M v = some 0 := by
  unfold pMicRow_isDirection
  refine (bindE (wi_neg h)).trans ?_
  exact boE (Or.inl rfl)
theorem md_isSide {M : fm_M} {b : Int} (hb : -8 ≤ b ∧ b ≤ 8) : pModel_isSide M (ii b) = some 1 := cs_isDir (M := M) hb
theorem md_noSide {M : fm_M} {v : Int32} (h : ¬ (ii (-8) ≤ v ∧ v ≤ ii 8)) : pModel_isSide M v = some 0 := cs_noDir (M := M) h
theorem cs_isT {M : fm_M} {b : Int} (hb : -200 ≤ b ∧ b ≤ 200) : pMicRow_isTurnedTime M (ii b) = some 1 := by
  unfold pMicRow_isTurnedTime
  refine (bindE (wi_pos (rng_in hb (by decide)))).trans ?_
  exact boE (Or.inr rfl)
theorem cs_noT {M : fm_M} {v : Int32} (h : ¬ (ii (-200) ≤ v ∧ v ≤ ii 200)) : pMicRow_isTurnedTime M v = some 0 := by
  unfold pMicRow_isTurnedTime
  refine (bindE (wi_neg h)).trans ?_
  exact boE (Or.inl rfl)
theorem md_isNear {M : fm_M} {b : Int} (hb : -200 ≤ b ∧ b ≤ 200) : pModel_isNear M (ii b) = some 1 := cs_isT (M := M) hb
theorem md_noNear {M : fm_M} {v : Int32} (h : ¬ (ii (-200) ≤ v ∧ v ≤ ii 200)) : pModel_isNear M v = some 0 := cs_noT (M := M) h
theorem md_isMic {M : fm_M} (hg : gV (M.1 1)) {m : Nat} (hm : m < gn (M.1 1)) : pModel_isMic M (nn m) = some 1 := by
  obtain ⟨en, hn6⟩ := hg.n
  unfold pModel_isMic
  refine (bindE (in_pos ⟨?_, ?_⟩)).trans (boE (Or.inr rfl))
  · rw [show (0 : Int32) = nn 0 from rfl, nn_le nB nB]; omega
  · rw [en, show (1 : Int32) = nn 1 from rfl, nn_sub (by omega), nn_le nB nB]; omega
theorem mic_or {M1 : fm_M} {g : Nat → Int32} (hg : gV g) (hr : rS M1 1 g) (v : Int32) : (∃ m, m < gn g ∧ v = nn m) ∨ (pScene_hasMic M1 v = some 0 ∧ ∀ M : fm_M, M.1 1 = g → pModel_isMic M v = some 0) := by
  obtain ⟨en, hn6⟩ := hg.n
  by_cases c : 0 ≤ v.toInt ∧ v.toInt < gn g
  · exact Or.inl ⟨v.toInt.toNat, by omega, by rw [← ii_nat c.1, ii_of]⟩
  · refine Or.inr ⟨?_, ?_⟩
    · unfold pScene_hasMic
      by_cases c1 : v < 0
      · rw [if_pos c1]
      · rw [if_neg c1, if_pos]
        rw [hr.n, en, Int32.le_iff_toInt_le, nn_toInt nB]
        rw [Int32.lt_iff_toInt_lt] at c1
        have : (0 : Int32).toInt = 0 := rfl
        omega
    · intro M e
      unfold pModel_isMic
      refine (bindE (in_neg ?_)).trans (boE (Or.inl rfl))
      rw [e, en, nn_ii, show (1 : Int32) = ii 1 from rfl, ii_sub, show (0 : Int32) = ii 0 from rfl, Int32.le_iff_toInt_le, Int32.le_iff_toInt_le, ii_toInt (by omega), ii_toInt (by omega)]
      omega
/-! hearing begins -/
def All : Nat → Bool := fun _ => true
theorem cs_begin {M : fm_M} {g : Nat → Int32} {q : Nat} (hg : gV g) (hr : rS M 1 g) (hS : eS M q) (hq : q < 900000000) : ok (pEars_listenTo M (-1)) (fun M' => fr (fun k => k = 178) M M' ∧ cE M' g All (q + 1)) := cs_listen hg hr hS hq (fun s hs => lis_all s (by have := hg.s.2; omega))
theorem aM_all {M : fm_M} (hg : gV (M.1 1)) (h : rMod M) : aM M All := by
  intro s hs
  have := hg.s.2
  obtain ⟨h1, h2, h3⟩ := h
  refine ⟨fun _ => ⟨?_, Or.inl h3, Or.inl h2⟩, fun _ => rfl⟩
  rw [h1, nn_ii, show (-1 : Int32) = ii (-1) from rfl, ii_inj (by omega)]
  omega
def mH (M2 : fm_M) (A : Nat → Bool) (l : List Int64) (M : fm_M) : Prop := mq M2 M ∧ tdM M l ∧ sM M (smp (M2.1 1) A)
theorem md_begin {N : Nat} {M2 M : fm_M} {A : Nat → Bool} {l : List Int64} (hN : 4000 ≤ N) (hg : gV (M2.1 1)) (hm : mq M2 M) (hA : aM M A) (ht : tdM M l) : ok (pModel_hear N M) (fun M' => mH M2 A l M' ∧ fr (fun k => k = 5) M M') := by
  have e1 := hm.one
  refine ok_mono (md_hear (A := A) hN (by rw [e1]; exact hg) hA) ?_
  rintro M' ⟨f, s⟩
  rw [e1] at s
  exact ⟨⟨hm.kf f (by intro k hk; omega), ht.kf f (by decide) (by decide), s⟩, f⟩
theorem aM_z {M : fm_M} {A : Nat → Bool} (h : aM M A) {v : Int32} : aM (fm_si M 0 5 v) A := by
  unfold aM
  rw [si_row (by decide), si_col (by decide), si_col (by decide), si_col (by decide)]
  exact h
theorem md_begin0 {N : Nat} {M2 : fm_M} {l : List Int64} (hN : 4000 ≤ N) (hg : gV (M2.1 1)) (hm : rMod M2) (ht : tdM M2 l) : ok (pModel_hear N (fm_si M2 0 5 0)) (fun M' => mH M2 All l M' ∧ M'.1 0 5 = 0) := by
  refine ok_mono (md_begin hN hg (mq.rf.pt (by decide)) (aM_z (aM_all hg hm)) (ht.pt (by decide))) ?_
  rintro M' ⟨h, f⟩
  refine ⟨h, ?_⟩
  rw [f.at1 (by decide), si_same]
theorem mH.kf {P : Nat → Prop} {M2 M M' : fm_M} {A : Nat → Bool} {l : List Int64} (h : mH M2 A l M) (hf : fr P M M') (hP : ∀ k, k = 0 ∨ k = 1 ∨ k = 2 ∨ k = 3 ∨ k = 5 ∨ k = 13 ∨ k = 17 ∨ k = 18 → ¬ P k) : mH M2 A l M' := by
  obtain ⟨h1, h2, h3⟩ := h
  refine ⟨h1.kf hf (fun k hk => hP k (by omega)), h2.kf hf (hP 0 (by omega)) (hP 3 (by omega)), ?_⟩
  unfold sM
  rw [hf.1 1 (hP 1 (by omega)), hf.1 5 (hP 5 (by omega))]
  exact h3
theorem mH.z {P : Nat → Prop} {M2 M M' : fm_M} {A : Nat → Bool} {l : List Int64} {c : Nat} (h : mH M2 A l M) (hf : fr P M M') (hz : ∀ j, j ≠ c → M'.1 0 j = M.1 0 j) (hP : ∀ k, k = 1 ∨ k = 2 ∨ k = 3 ∨ k = 5 ∨ k = 13 ∨ k = 17 ∨ k = 18 → ¬ P k) (hc : c ≠ 2 ∧ c ≠ 4 ∧ c ≠ 11 ∧ c ≠ 12 ∧ c ≠ 13 ∧ c ≠ 25) : mH M2 A l M' := by
  obtain ⟨h1, h2, h3⟩ := h
  refine ⟨h1.z hf hz (fun k hk => hP k (by omega)) (by omega), h2.z hf (hz 4 (by omega)) (hP 3 (by omega)), ?_⟩
  unfold sM
  rw [hf.1 1 (hP 1 (by omega)), hf.1 5 (hP 5 (by omega))]
  exact h3
theorem mH.clear {M2 M : fm_M} {A : Nat → Bool} {l : List Int64} (h : mH M2 A l M) : mH M2 A [] (fm_si M 0 4 0) := by
  obtain ⟨h1, h2, h3⟩ := h
  refine ⟨h1.pt (by decide), tdM.clear, ?_⟩
  unfold sM
  rw [si_row (by decide), si_row (by decide)]
  exact h3
theorem mH.tell {M2 M : fm_M} {A : Nat → Bool} {l : List Int64} {v : Int64} (h : mH M2 A l M) (hl : l.length < 17) : ok (pModel_tell M v) (fun M' => mH M2 A (l ++ [v]) M' ∧ fr (fun k => k = 0 ∨ k = 3) M M' ∧ ∀ j, j ≠ 4 → M'.1 0 j = M.1 0 j) := by
  obtain ⟨h1, h2, h3⟩ := h
  refine ok_mono (md_tell h2 hl) ?_
  rintro M' ⟨f, z, t⟩
  refine ⟨⟨h1.z f z (by intro k hk; omega) (by decide), t, ?_⟩, f, z⟩
  unfold sM
  rw [f.at1 (k := 1) (by decide), f.at1 (k := 5) (by decide)]
  exact h3
theorem mH.g {M2 M : fm_M} {A : Nat → Bool} {l : List Int64} (h : mH M2 A l M) : M.1 1 = M2.1 1 := h.1.one
theorem mH.q {M2 M : fm_M} {A : Nat → Bool} {l : List Int64} (h : mH M2 A l M) : qM M2 l M := ⟨h.1, h.2.1⟩
/-- the class, while it answers: only what no call shows has changed -/
def cH (M1 : fm_M) (g : Nat → Int32) (A : Nat → Bool) (q : Nat) (l : List Int64) (M : fm_M) : Prop := fr (fun k => 176 ≤ k) M1 M ∧ tdC M l ∧ cE M g A q
theorem cH.q {M1 M : fm_M} {g : Nat → Int32} {A : Nat → Bool} {q q0 : Nat} {l : List Int64} (h : cH M1 g A q l M) (hq : q ≤ q0 + 90) : qC M1 q0 l M := ⟨h.1, h.2.1, q, h.2.2.2.2.2.1, hq⟩
theorem cH.kf {P : Nat → Prop} {M1 M M' : fm_M} {g : Nat → Int32} {A : Nat → Bool} {q : Nat} {l : List Int64} (h : cH M1 g A q l M) (hf : fr P M M') (hP : ∀ k, k < 181 → ¬ P k) : cH M1 g A q l M' := by
  obtain ⟨h1, h2, h3⟩ := h
  refine ⟨h1.tr (hf.up (fun k hk => ?_)), h2.kf hf (hP _ (by omega)) (hP _ (by omega)), h3.fr hf (fun a ha => hP a (by omega))⟩
  by_cases c : k < 181
  · exact absurd hk (hP k c)
  · omega
theorem cH.kf2 {P : Nat → Prop} {M1 M M' : fm_M} {g : Nat → Int32} {A B : Nat → Bool} {q q' : Nat} {l : List Int64} (h : cH M1 g A q l M) (hf : fr P M M') (hE : cE M' g B q') (hP : ∀ k, k < 178 → ¬ P k) : cH M1 g B q' l M' := by
  obtain ⟨h1, h2, h3⟩ := h
  refine ⟨h1.tr (hf.up (fun k hk => ?_)), h2.kf hf (hP _ (by omega)) (hP _ (by omega)), hE⟩
  by_cases c : k < 178
  · exact absurd hk (hP k c)
  · omega
theorem cH.begin {M1 : fm_M} {g : Nat → Int32} {q : Nat} {l : List Int64} (hg : gV g) (hr : rS M1 1 g) (hS : eS M1 q) (hq : q < 900000000) (ht : tdC M1 l) : ok (pEars_listenTo M1 (-1)) (fun M' => cH M1 g All (q + 1) l M' ∧ fr (fun k => k = 178) M1 M') := by
  refine ok_mono (cs_begin hg hr hS hq) ?_
  rintro M' ⟨f, e⟩
  exact ⟨⟨f.up (fun k hk => by omega), ht.kf f (by decide) (by decide), e⟩, f⟩
theorem cH.clear {M1 M : fm_M} {g : Nat → Int32} {A : Nat → Bool} {q : Nat} {l : List Int64} (h : cH M1 g A q l M) : ok (pTold_clear M) (fun M' => cH M1 g A q [] M' ∧ fr (fun k => k = 176 ∨ k = 177) M M') := by
  obtain ⟨h1, h2, h3⟩ := h
  refine ok_mono cs_clear ?_
  rintro M' ⟨f, t⟩
  exact ⟨⟨h1.tr (f.up (fun k hk => by omega)), t, h3.fr f (fun a ha => by omega)⟩, f.up (fun k hk => Or.inl hk)⟩
theorem cH.add {M1 M : fm_M} {g : Nat → Int32} {A : Nat → Bool} {q : Nat} {l : List Int64} {v : Int64} (h : cH M1 g A q l M) (hl : l.length < 17) : ok (pTold_add M v) (fun M' => cH M1 g A q (l ++ [v]) M' ∧ fr (fun k => k = 176 ∨ k = 177) M M') := by
  obtain ⟨h1, h2, h3⟩ := h
  refine ok_mono (cs_add h2 hl) ?_
  rintro M' ⟨f, t⟩
  exact ⟨⟨h1.tr (f.up (fun k hk => by omega)), t, h3.fr f (fun a ha => by omega)⟩, f⟩
