/-! ===== what a scene comes to; the model's side of it ===== -/
def gb (g : Nat → Int32) : Nat := (g 38).toNatClampNeg
def gl (g : Nat → Int32) : Nat := (g 39).toNatClampNeg
theorem bd_nn {x : Int32} {a b : Int} (h : bd x a b) (ha : 0 ≤ a) : x = nn x.toNatClampNeg ∧ a ≤ x.toNatClampNeg ∧ (x.toNatClampNeg : Int) ≤ b := by
  have h0 : 0 ≤ x := by
    rw [Int32.le_iff_toInt_le]
    show (0 : Int) ≤ _
    unfold bd at h
    omega
  have e := Int32.toInt_eq_toNatClampNeg h0
  unfold bd at h
  exact ⟨(Int32.ofNat_toNatClampNeg x h0).symm, by omega, by omega⟩
theorem bd_ii {x : Int32} {a b : Int} (h : bd x a b) : ∃ z : Int, x = ii z ∧ a ≤ z ∧ z ≤ b := ⟨x.toInt, (ii_of x).symm, h.1, h.2⟩
theorem gV.n {g : Nat → Int32} (h : gV g) : g 0 = nn (gn g) ∧ gn g ≤ 6 := by
  obtain ⟨h1, h2, h3⟩ := bd_nn h.1 (by decide)
  exact ⟨h1, by unfold gn; omega⟩
theorem gV.s {g : Nat → Int32} (h : gV g) : g 40 = nn (gs g) ∧ gs g ≤ 4 := by
  obtain ⟨h1, h2, h3⟩ := bd_nn h.2.1 (by decide)
  exact ⟨h1, by unfold gs; omega⟩
theorem gV.b {g : Nat → Int32} (h : gV g) : g 38 = nn (gb g) ∧ gb g ≤ 200 := by
  obtain ⟨h1, h2, h3⟩ := bd_nn h.2.2.2.1 (by decide)
  exact ⟨h1, by unfold gb; omega⟩
theorem gV.l {g : Nat → Int32} (h : gV g) : g 39 = nn (gl g) ∧ 4 ≤ gl g ∧ gl g ≤ 48 := by
  obtain ⟨h1, h2, h3⟩ := bd_nn h.2.2.2.2.1 (by decide)
  exact ⟨h1, by unfold gl; omega, by unfold gl; omega⟩
theorem gV.mic {g : Nat → Int32} (h : gV g) {m : Nat} (hm : m < gn g) : bd (g (1 + 6 * m)) 0 40 ∧ bd (g (2 + 6 * m)) 1 400 ∧ bd (g (3 + 6 * m)) 0 9 ∧ bd (g (4 + 6 * m)) 1 200 ∧ bd (g (5 + 6 * m)) 0 1 ∧ bd (g (6 + 6 * m)) 0 1 := h.2.2.2.2.2.1 m hm
theorem gV.src {g : Nat → Int32} (h : gV g) {s : Nat} (hs : s < gs g) : bd (g (41 + 15 * s)) (-8) 8 ∧ bd (g (42 + 15 * s)) 1 9 ∧ bd (g (43 + 15 * s)) 2 12 ∧ ∀ j, j < gst g s → bd (g (44 + 15 * s + j)) (-4) 4 := h.2.2.2.2.2.2 s hs
theorem ar {f : Nat → Int32} {a b : Nat} (h : a = b) : f a = f b := by rw [h]
/-! steps as equations -/
section MRE
variable {α β : Type} {M : fm_M} {k i n : Nat}
theorem bindE {c : Option α} {r : α} {K : α → Option β} (e : c = some r) : c.bind K = K r := by rw [e]; rfl
theorem ldE {K : Int32 → Option α} (h : i < n) (hn : n ≤ mr_B) : fm_ld n M k (nn i) K = K (M.1 k i) := by
  unfold fm_ld
  rw [if_pos (nn_in h hn), nn_toNat (by omega)]
theorem ldlE {K : Int64 → Option α} (h : i < n) (hn : n ≤ mr_B) : fm_ldl n M k (nn i) K = K (M.2.1 k i) := by
  unfold fm_ldl
  rw [if_pos (nn_in h hn), nn_toNat (by omega)]
theorem stE {K : fm_M → Option α} {v : Int32} (h : i < n) (hn : n ≤ mr_B) : fm_st n M k (nn i) v K = K (fm_si M k i v) := by
  unfold fm_st
  rw [if_pos (nn_in h hn), nn_toNat (by omega)]
theorem ixE {f : Nat → β} {K : β → Option α} (h : i < n) (hn : n ≤ mr_B) : fm_ix n f (nn i) K = K (f i) := by
  unfold fm_ix
  rw [if_pos (nn_in h hn), nn_toNat (by omega)]
theorem nzE {K : Option α} {y : Int32} (hb : y ≠ 0) : fm_nz y K = K := by
  unfold fm_nz
  rw [if_neg hb]
theorem nzlE {K : Option α} {y : Int64} (hb : y ≠ 0) : fm_nzl y K = K := by
  unfold fm_nzl
  rw [if_neg hb]
theorem boE {K : Option α} {y : Int32} (hb : y = 0 ∨ y = 1) : fm_bo y K = K := by
  unfold fm_bo
  rw [if_pos hb]
theorem rqE {K : Option α} {b : Bool} (hb : b = true) : fm_rq b K = K := by
  unfold fm_rq
  rw [if_pos hb]
theorem okE {c : Option α} {r : α} {Q : α → Prop} (e : c = some r) (h : Q r) : ok c Q := ⟨r, e, h⟩
theorem ok_eq {c d : Option α} {Q : α → Prop} (e : c = d) (h : ok d Q) : ok c Q := by rw [e]; exact h
end MRE
theorem nB {i : Nat} (h : i < 2000000000 := by omega) : i < mr_B := by unfold mr_B; omega
theorem nL {i : Nat} (h : i ≤ 2000000000 := by omega) : i ≤ mr_B := by unfold mr_B; omega
/-- of an int, in or not -/
theorem in_pos {M : fm_M} {x a b : Int32} (h : a ≤ x ∧ x ≤ b) : pModel_in M x a b = some 1 := by
  unfold pModel_in
  rw [if_neg (Int32.not_lt.mpr h.1), if_neg (Int32.not_lt.mpr h.2)]
theorem in_neg {M : fm_M} {x a b : Int32} (h : ¬ (a ≤ x ∧ x ≤ b)) : pModel_in M x a b = some 0 := by
  unfold pModel_in
  by_cases h1 : x < a
  · rw [if_pos h1]
  · rw [if_neg h1, if_pos (Int32.not_le.mp (fun q => h ⟨Int32.not_lt.mp h1, q⟩))]
theorem wi_pos {M : fm_M} {x a b : Int32} (h : a ≤ x ∧ x ≤ b) : pMicRow_within M x a b = some 1 := in_pos (M := M) h
theorem wi_neg {M : fm_M} {x a b : Int32} (h : ¬ (a ≤ x ∧ x ≤ b)) : pMicRow_within M x a b = some 0 := in_neg (M := M) h
/-! the model's cells -/
theorem ix_of (m q : Nat) : (1 + (6 * nn m)) + nn q = nn (1 + 6 * m + q) := by
  rw [show (1 : Int32) = nn 1 from rfl, show (6 : Int32) = nn 6 from rfl, nn_mul, nn_add, nn_add]
theorem ix_src (s q : Nat) : (41 + (15 * nn s)) + nn q = nn (41 + 15 * s + q) := by
  rw [show (41 : Int32) = nn 41 from rfl, show (15 : Int32) = nn 15 from rfl, nn_mul, nn_add, nn_add]
theorem md_of {M : fm_M} {m : Nat} (q : Nat) (hm : m < 6) (hq : q < 6) : pModel_of M (nn m) (nn q) = some (M.1 1 (1 + 6 * m + q)) := by
  unfold pModel_of
  rw [ix_of]
  exact ldE (by omega) nL
theorem md_src {M : fm_M} {s : Nat} (q : Nat) (hs : s < 4) (hq : q < 15) : pModel_ofSource M (nn s) (nn q) = some (M.1 1 (41 + 15 * s + q)) := by
  unfold pModel_ofSource
  rw [ix_src]
  exact ldE (by omega) nL
/-! HEARD -/
def hdx (g : Nat → Int32) (s : Nat) (p t : Int) : Int := 8 * t - p * (g (41 + 15 * s)).toInt
def hdw (g : Nat → Int32) (s : Nat) (k : Int) : Int32 := g (44 + 15 * s + (k % (g (43 + 15 * s)).toInt).toNat)
def hd (g : Nat → Int32) (s : Nat) (p t : Int) : Int32 := g (42 + 15 * s) * ((8 - ii (hdx g s p t % 8)) * hdw g s (hdx g s p t / 8) + ii (hdx g s p t % 8) * hdw g s (hdx g s p t / 8 + 1))
theorem hdx_bd {g : Nat → Int32} {s : Nat} {p t : Int} (hg : gV g) (hs : s < gs g) (hp : 0 ≤ p ∧ p ≤ 40) (ht : -1000 ≤ t ∧ t ≤ 1000) : -100000 ≤ hdx g s p t ∧ hdx g s p t ≤ 100000 := by
  obtain ⟨h1, h2⟩ := (hg.src hs).1
  unfold hdx
  have a1 : p * (g (41 + 15 * s)).toInt ≤ 40 * 8 := by
    have := Int.mul_le_mul_of_nonneg_left h2 hp.1
    have := Int.mul_le_mul_of_nonneg_right hp.2 (show (0 : Int) ≤ 8 by decide)
    omega
  have a2 : -(40 * 8) ≤ p * (g (41 + 15 * s)).toInt := by
    have := Int.mul_le_mul_of_nonneg_left h1 hp.1
    have := Int.mul_le_mul_of_nonneg_right hp.2 (show (0 : Int) ≤ 8 by decide)
    omega
  omega
theorem md_heardOf {M : fm_M} {s : Nat} {p t : Int} (hg : gV (M.1 1)) (hs : s < gs (M.1 1)) (hp : 0 ≤ p ∧ p ≤ 40) (ht : -1000 ≤ t ∧ t ≤ 1000) : pModel_heardOf M (nn s) (ii p) (ii t) = some (hd (M.1 1) s p t) := by
  have hs4 : s < 4 := by have := hg.s.2; omega
  have hx := hdx_bd hg hs hp ht
  have hn := (hg.src hs).2.2.1
  obtain ⟨hn1, hn2⟩ := hn
  have ex : (8 * ii t) - (ii p * M.1 1 (41 + 15 * s + 0)) = ii (hdx (M.1 1) s p t) := by
    rw [← ii_of (M.1 1 (41 + 15 * s + 0)), show (8 : Int32) = ii 8 from rfl, ii_mul, ii_mul, ii_sub]
    rfl
  have en : M.1 1 (41 + 15 * s + 2) = ii (M.1 1 (43 + 15 * s)).toInt := by
    rw [ii_of]; exact ar (by omega)
  have ef : ii (hdx (M.1 1) s p t) - 8 * ii (hdx (M.1 1) s p t / 8) = ii (hdx (M.1 1) s p t % 8) := by
    rw [show (8 : Int32) = ii 8 from rfl, ii_mul, ii_sub]
    congr 1
    omega
  have ew : ∀ k : Int, pModel_ofSource M (nn s) (3 + ii (k % (M.1 1 (43 + 15 * s)).toInt)) = some (hdw (M.1 1) s k) := by
    intro k
    have k1 := Int.emod_nonneg k (show (M.1 1 (43 + 15 * s)).toInt ≠ 0 by omega)
    have k2 := Int.emod_lt_of_pos k (show 0 < (M.1 1 (43 + 15 * s)).toInt by omega)
    rw [ii_nat k1, show (3 : Int32) = nn 3 from rfl, nn_add, md_src _ hs4 (by omega)]
    unfold hdw
    exact congrArg some (ar (by omega))
  unfold pModel_heardOf
  refine (bindE (md_src 0 hs4 (by decide))).trans ?_
  rw [ex]
  refine (bindE (nb_eighths (by omega))).trans ?_
  refine (bindE (md_src 2 hs4 (by decide))).trans ?_
  refine (bindE (md_src 1 hs4 (by decide))).trans ?_
  try dsimp only
  rw [en, ef]
  refine (bindE (nb_modulo (by omega) (by omega))).trans ?_
  refine (bindE (ew _)).trans ?_
  try dsimp only
  rw [show (1 : Int32) = ii 1 from rfl, ii_add]
  refine (bindE (nb_modulo (by omega) (by omega))).trans ?_
  refine (bindE (ew _)).trans ?_
  unfold hd
  rw [show M.1 1 (41 + 15 * s + 1) = M.1 1 (42 + 15 * s) from ar (by omega)]
/-! SAMPLE -/
def gu (v0 v1 : Int32) : Int32 := ((jrem (jrem ((((v1 + 300) * (v1 + 300)) * 7) + (((v0 + 1) * (v1 + 311)) * 13)) 1009) 17) - 8) * 8
def sps (g : Nat → Int32) (A : Nat → Bool) (m : Nat) (t : Int) : Nat → Int32 := fun s => if A s then hd g s (g (1 + 6 * m)).toInt t else 0
def smp (g : Nat → Int32) (A : Nat → Bool) (m : Nat) (t : Int) : Int32 := if g (5 + 6 * m) = 0 then jmax (-(g 37)) (jmin (g 37) (((g (3 + 6 * m) * gu (nn m) (ii t) + sm (sps g A m t) (gs g)) * g (2 + 6 * m)) / 100)) else 0
def aM (M : fm_M) (A : Nat → Bool) : Prop := ∀ s, s < gs (M.1 1) → (A s = true ↔ (¬ nn s = M.1 0 11) ∧ (M.1 0 13 = -1 ∨ nn s = M.1 0 13) ∧ (M.1 0 12 = 300 ∨ M.1 1 (41 + 15 * s) = M.1 0 12))
theorem ad_sm {a : Int32} {f : Nat → Int32} {i : Nat} : (a + sm f i) + f i = a + sm f (i + 1) := Int32.add_assoc _ _ _
theorem md_sampleOf {N : Nat} {M : fm_M} {A : Nat → Bool} {m : Nat} {t : Int} (hN : 4000 ≤ N) (hg : gV (M.1 1)) (hA : aM M A) (hm : m < gn (M.1 1)) (ht : -1000 ≤ t ∧ t ≤ 1000) : pModel_sampleOf N M (nn m) (ii t) = some (smp (M.1 1) A m t) := by
  have hm6 : m < 6 := by have := hg.n.2; omega
  obtain ⟨es, hs4⟩ := hg.s
  have hmic := hg.mic hm
  obtain ⟨p, ep, hp⟩ := bd_ii hmic.1
  have e5 : M.1 1 (1 + 6 * m + 4) = M.1 1 (5 + 6 * m) := ar (by omega)
  have e3 : M.1 1 (1 + 6 * m + 2) = M.1 1 (3 + 6 * m) := ar (by omega)
  have e2 : M.1 1 (1 + 6 * m + 1) = M.1 1 (2 + 6 * m) := ar (by omega)
  unfold pModel_sampleOf smp
  refine (bindE (md_of 4 hm6 (by decide))).trans ?_
  rw [e5]
  obtain ⟨e, h1, h2⟩ := bd_nn hmic.2.2.2.2.1 (by decide)
  by_cases hd1 : M.1 1 (5 + 6 * m) = 0
  · rw [if_pos hd1, if_neg (by rw [hd1]; decide)]
    refine (bindE (md_of 2 hm6 (by decide))).trans ?_
    refine (bindE rfl).trans ?_
    rw [e3]
    refine Eq.trans (congrArg _ ?_) (lp_for (gs (M.1 1)) (fun i => (M.1 1 (3 + 6 * m) * gu (nn m) (ii t) + sm (sps (M.1 1) A m t) i, nn i)) _ ?_ ?_ (by omega))
    · show (_, (0 : Int32)) = (_ + sm _ 0, nn 0)
      rw [show sm (sps (M.1 1) A m t) 0 = 0 from rfl, Int32.add_zero]
      rfl
    · intro i hi k
      have hJ : ∀ v, pModel_sampleOf_J95 N M (nn m) (ii t) (nn i) k v = k (v + hd (M.1 1) i (M.1 1 (1 + 6 * m)).toInt t, nn (i + 1)) := by
        intro v
        unfold pModel_sampleOf_J95
        refine (bindE (md_of 0 hm6 (by decide))).trans ?_
        rw [show M.1 1 (1 + 6 * m + 0) = ii (M.1 1 (1 + 6 * m)).toInt from (ii_of _).symm]
        refine (bindE (md_heardOf hg hi ⟨hmic.1.1, hmic.1.2⟩ ht)).trans ?_
        try dsimp only
        rw [nn_succ]
      have hz : ∀ v : Int32, k (v + 0, nn i + 1) = k (v, nn (i + 1)) := fun v => by rw [Int32.add_zero, nn_succ]
      unfold pModel_sampleOf_L28 pModel_sampleOf_L28b
      try dsimp only
      rw [es, if_neg (by rw [nn_le nB nB]; omega), ← ad_sm]
      have hAi := hA i hi
      have e0 : M.1 1 (41 + 15 * i + 0) = M.1 1 (41 + 15 * i) := rfl
      have c4 : i < 4 := by omega
      by_cases c1 : nn i = M.1 0 11
      · have : A i = false := by
          cases h : A i
          · rfl
          · exact absurd c1 (hAi.mp h).1
        rw [if_pos c1, hz]
        unfold sps
        rw [this]
        simp
      · rw [if_neg c1]
        have h67 : (M.1 0 13 = -1 ∨ nn i = M.1 0 13) → pModel_sampleOf_J67 N M (nn m) (ii t) (nn i) k (M.1 1 (3 + 6 * m) * gu (nn m) (ii t) + sm (sps (M.1 1) A m t) i) = k (M.1 1 (3 + 6 * m) * gu (nn m) (ii t) + sm (sps (M.1 1) A m t) i + sps (M.1 1) A m t i, nn (i + 1)) := by
          intro c2
          unfold pModel_sampleOf_J67
          by_cases c3 : M.1 0 12 = 300
          · rw [if_pos c3, hJ]
            have : A i = true := hAi.mpr ⟨c1, c2, Or.inl c3⟩
            unfold sps
            rw [this]
            rfl
          · rw [if_neg c3]
            refine (bindE (md_src 0 c4 (by decide))).trans ?_
            rw [e0]
            by_cases c5 : M.1 1 (41 + 15 * i) = M.1 0 12
            · rw [if_pos c5, hJ]
              have : A i = true := hAi.mpr ⟨c1, c2, Or.inr c5⟩
              unfold sps
              rw [this]
              rfl
            · rw [if_neg c5, hz]
              have : A i = false := by
                cases h : A i
                · rfl
                · rcases (hAi.mp h).2.2 with q | q
                  · exact absurd q c3
                  · exact absurd q c5
              unfold sps
              rw [this]
              simp
        by_cases c2 : M.1 0 13 = -1
        · rw [if_pos c2]
          exact h67 (Or.inl c2)
        · rw [if_neg c2]
          by_cases c3 : nn i = M.1 0 13
          · rw [if_pos c3]
            exact h67 (Or.inr c3)
          · rw [if_neg c3, hz]
            have : A i = false := by
              cases h : A i
              · rfl
              · rcases (hAi.mp h).2.1 with q | q
                · exact absurd q c2
                · exact absurd q c3
            unfold sps
            rw [this]
            simp
    · intro k
      unfold pModel_sampleOf_L28 pModel_sampleOf_L28b
      try dsimp only
      rw [es, if_pos (by rw [nn_le nB nB]; omega)]
      refine (bindE (md_of 1 hm6 (by decide))).trans ?_
      rw [e2]
  · have h3 : M.1 1 (5 + 6 * m) = 1 := by
      rw [e] at hd1 ⊢
      have : (M.1 1 (5 + 6 * m)).toNatClampNeg ≠ 0 := fun q => hd1 (by rw [q]; rfl)
      have : (M.1 1 (5 + 6 * m)).toNatClampNeg = 1 := by omega
      rw [this]; rfl
    rw [if_neg hd1, if_pos h3]
def sM (M : fm_M) (H : Nat → Int → Int32) : Prop := ∀ m t, m < gn (M.1 1) → -300 ≤ t → t ≤ 300 → M.1 5 (601 * m + (t + 300).toNat) = H m t
theorem fr.at1 {A : Nat → Prop} {M M' : fm_M} (h : fr A M M') {k : Nat} (hk : ¬ A k) : M'.1 k = M.1 k := h.1 k hk
theorem ix_smp {m : Nat} {t : Int} (ht : -300 ≤ t) : ((601 * nn m) + ii t) + 300 = nn (601 * m + (t + 300).toNat) := by
  rw [nn_ii m, nn_ii, show (601 : Int32) = ii 601 from rfl, show (300 : Int32) = ii 300 from rfl, ii_mul, ii_add, ii_add]
  congr 1
  omega
theorem md_hear {N : Nat} {M : fm_M} {A : Nat → Bool} (hN : 4000 ≤ N) (hg : gV (M.1 1)) (hA : aM M A) : ok (pModel_hear N M) (fun M' => fr (fun k => k = 5) M M' ∧ sM M' (smp (M.1 1) A)) := by
  obtain ⟨en, hn6⟩ := hg.n
  unfold pModel_hear
  refine ok_for (gn (M.1 1)) (fun m s => s.1 = nn m ∧ fr (fun k => k = 5) M s.2 ∧ ∀ m' t, m' < m → -300 ≤ t → t ≤ 300 → s.2.1 5 (601 * m' + (t + 300).toNat) = smp (M.1 1) A m' t) ?_ ?_ ⟨rfl, fr.rf, fun m' t h => absurd h (Nat.not_lt_zero _)⟩ (by omega)
  · rintro m ⟨v, M1⟩ hm ⟨h1, h2, h3⟩ k hk
    dsimp only at h1 h2 h3
    subst h1
    have e1 : M1.1 1 = M.1 1 := h2.at1 (by decide)
    unfold pModel_hear_L2 pModel_hear_L2b
    try dsimp only
    refine ok_neg (by rw [e1, en, nn_le nB nB]; omega) ?_
    refine ok_for 601 (fun j s => s.1 = ii (-300 + (j : Int)) ∧ fr (fun k => k = 5) M s.2 ∧ (∀ m' t, m' < m → -300 ≤ t → t ≤ 300 → s.2.1 5 (601 * m' + (t + 300).toNat) = smp (M.1 1) A m' t) ∧ ∀ t : Int, -300 ≤ t → t < -300 + (j : Int) → s.2.1 5 (601 * m + (t + 300).toNat) = smp (M.1 1) A m t) ?_ ?_ ⟨rfl, h2, h3, fun t a b => by omega⟩ (by omega)
    · rintro j ⟨v, M2⟩ hj ⟨i1, i2, i3, i4⟩ k2 hk2
      dsimp only at i1 i2 i3 i4
      subst i1
      have f1 : M2.1 1 = M.1 1 := i2.at1 (by decide)
      have f0 : M2.1 0 = M.1 0 := i2.at1 (by decide)
      unfold pModel_hear_L16 pModel_hear_L16b
      try dsimp only
      refine ok_neg (by rw [show (300 : Int32) = ii 300 from rfl, ii_lt (by omega)]; omega) ?_
      refine ok_bindE (md_sampleOf (A := A) hN (by rw [f1]; exact hg) (by unfold aM; rw [f1, f0]; exact hA) (by rw [f1]; exact hm) (by omega)) ?_
      rw [ix_smp (by omega), f1]
      refine ok_st (by omega) nL (hk2 _ ⟨?_, ?_, ?_, ?_⟩)
      · show ii _ + ii 1 = _
        rw [ii_add]
        congr 1
        omega
      · exact i2.tr (fr.si rfl)
      · intro m' t a b c
        try dsimp only
        rw [si_col (by omega)]
        exact i3 m' t a b c
      · intro t a b
        try dsimp only
        by_cases q : t = -300 + (j : Int)
        · subst q
          rw [si_same]
        · rw [si_col (by omega)]
          exact i4 t a (by omega)
    · rintro ⟨v, M2⟩ ⟨i1, i2, i3, i4⟩ k2
      dsimp only at i1 i2 i3 i4
      subst i1
      unfold pModel_hear_L16 pModel_hear_L16b
      try dsimp only
      refine ok_pos (by decide) (hk _ ⟨nn_succ, i2, ?_⟩)
      intro m' t a b c
      try dsimp only
      by_cases q : m' = m
      · subst q
        exact i4 t b (by omega)
      · exact i3 m' t (by omega) b c
  · rintro ⟨v, M1⟩ ⟨h1, h2, h3⟩ k
    dsimp only at h1 h2 h3
    subst h1
    have e1 : M1.1 1 = M.1 1 := h2.at1 (by decide)
    unfold pModel_hear_L2 pModel_hear_L2b
    try dsimp only
    refine ok_pos (by rw [e1, en, nn_le nB nB]; omega) (ok_some ⟨h2, ?_⟩)
    intro m t a b c
    exact h3 m t (by rw [e1] at a; exact a) b c
theorem md_heard {M : fm_M} {H : Nat → Int → Int32} (hg : gV (M.1 1)) (hS : sM M H) {m : Nat} {t : Int} (hm : m < gn (M.1 1)) (ht : -300 ≤ t ∧ t ≤ 300) : pModel_heard M (nn m) (ii t) = some (H m t) := by
  have := hg.n.2
  unfold pModel_heard
  rw [ix_smp ht.1, ldE (by omega) nL, hS m t hm ht.1 ht.2]
/-! TURNED -/
def tr (g : Nat → Int32) (H : Nat → Int → Int32) (m : Nat) (b t : Int) : Int32 :=
  ((((8 - ii (((g (1 + 6 * m)).toInt * b) % 8)) * H m (t + ((g (1 + 6 * m)).toInt * b) / 8) + ii (((g (1 + 6 * m)).toInt * b) % 8) * H m (t + ((g (1 + 6 * m)).toInt * b) / 8 + 1)) / 8) * g (4 + 6 * m)) / 100
theorem mul_bd {p b : Int} (hp : 0 ≤ p ∧ p ≤ 40) (hb : -8 ≤ b ∧ b ≤ 8) : -320 ≤ p * b ∧ p * b ≤ 320 := by
  have a1 := Int.mul_le_mul_of_nonneg_left hb.2 hp.1
  have a2 := Int.mul_le_mul_of_nonneg_left hb.1 hp.1
  omega
theorem md_turnedOf {M : fm_M} {H : Nat → Int → Int32} (hg : gV (M.1 1)) (hS : sM M H) {m : Nat} {b t : Int} (hm : m < gn (M.1 1)) (hb : -8 ≤ b ∧ b ≤ 8) (ht : -250 ≤ t ∧ t ≤ 250) : pModel_turnedOf M (nn m) (ii b) (ii t) = some (tr (M.1 1) H m b t) := by
  have hm6 : m < 6 := by have := hg.n.2; omega
  have hp := (hg.mic hm).1
  have hx := mul_bd ⟨hp.1, hp.2⟩ hb
  unfold tr
  generalize hX : (M.1 1 (1 + 6 * m)).toInt * b = X at hx ⊢
  have e0 : M.1 1 (1 + 6 * m + 0) = ii (M.1 1 (1 + 6 * m)).toInt := (ii_of _).symm
  have ex : (8 * ii t) + (ii (M.1 1 (1 + 6 * m)).toInt * ii b) = ii (8 * t + X) := by
    rw [show (8 : Int32) = ii 8 from rfl, ii_mul, ii_mul, ii_add, hX]
  have ek : (8 * t + X) / 8 = t + X / 8 := by omega
  have ef : ii (8 * t + X) - 8 * ii (t + X / 8) = ii (X % 8) := by
    rw [show (8 : Int32) = ii 8 from rfl, ii_mul, ii_sub]
    congr 1
    omega
  unfold pModel_turnedOf
  refine (bindE (md_of 0 hm6 (by decide))).trans ?_
  rw [e0, ex]
  refine (bindE (nb_eighths (by omega))).trans ?_
  rw [ek, ef]
  refine (bindE (md_heard hg hS hm (by omega))).trans ?_
  have hJ : ∀ a c : Int32, pModel_turnedOf_J66 M (nn m) a c = some ((((a + c) / 8) * M.1 1 (4 + 6 * m)) / 100) := by
    intro a c
    unfold pModel_turnedOf_J66
    refine (bindE (md_of 3 hm6 (by decide))).trans ?_
    rw [show 1 + 6 * m + 3 = 4 + 6 * m by omega]
  by_cases h0 : X % 8 = 0
  · rw [if_pos (by rw [h0]; rfl), hJ, h0]
    congr 5
    show (0 : Int32) = 0 * _
    rw [Int32.zero_mul]
  · rw [if_neg (by rw [show (0 : Int32) = ii 0 from rfl, ii_inj (by omega)]; exact h0)]
    rw [show (1 : Int32) = ii 1 from rfl, ii_add]
    refine (bindE (md_heard hg hS hm (by omega))).trans ?_
    exact hJ _ _
/-! LIVE -/
def lvs (g : Nat → Int32) : Nat := bset (fun m => g (6 + 6 * m) == 0) (gn g)
theorem lvs_lt {g : Nat → Int32} (hg : gV g) : lvs g < 64 := bset_64 hg.n.2
theorem lvs_bit {g : Nat → Int32} (m : Nat) : (lvs g).testBit m = (decide (m < gn g) && (g (6 + 6 * m) == 0)) := bset_bit _ _
theorem md_live {N : Nat} {M : fm_M} (hN : 4000 ≤ N) (hg : gV (M.1 1)) : pModel_liveBits N M = some (nn (lvs (M.1 1))) := by
  obtain ⟨en, hn6⟩ := hg.n
  unfold pModel_liveBits
  refine lp_for (gn (M.1 1)) (fun i => (nn (bset (fun m => M.1 1 (6 + 6 * m) == 0) i), nn i)) _ ?_ ?_ (by omega)
  · intro i hi k
    unfold pModel_liveBits_L4 pModel_liveBits_L4b
    try dsimp only
    rw [en, if_neg (by rw [nn_le nB nB]; omega)]
    refine (bindE (md_of 5 (by omega) (by decide))).trans ?_
    rw [show 1 + 6 * i + 5 = 6 + 6 * i by omega]
    by_cases h : M.1 1 (6 + 6 * i) = 0
    · rw [if_pos h, (bset_step (by omega)).1 (by simp [h]), nn_succ]
    · rw [if_neg h, (bset_step (by omega)).2 (by simp [h]), nn_succ]
  · intro k
    unfold pModel_liveBits_L4 pModel_liveBits_L4b
    try dsimp only
    rw [en, if_pos (by rw [nn_le nB nB]; omega)]
    rfl
