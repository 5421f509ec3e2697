/-! ===== from where: pairs that agree ===== -/
def tri (a : Nat) : Nat := a * (a - 1) / 2
theorem st_tri : ∀ a : Fin 7, pMicRow_pairsOf fm_m0 (nn a) = some (nn (tri a)) := by decide +kernel
theorem cs_pairsOf {M : fm_M} {a : Nat} (h : a ≤ 6) : pMicRow_pairsOf M (nn a) = some (nn (tri a)) := st_tri ⟨a, by omega⟩
theorem tri_succ (a : Nat) : tri (a + 1) = tri a + a := by
  unfold tri
  rw [show a + 1 - 1 = a from rfl]
  cases a with
  | zero => rfl
  | succ a =>
    rw [show a + 1 - 1 = a from rfl]
    have h : (a + 1 + 1) * (a + 1) = (a + 1) * a + (a + 1) * 2 := by
      rw [← Nat.mul_add, Nat.mul_comm]
    rw [h, Nat.add_mul_div_right _ _ (by decide)]
theorem st_sg : ∀ v : Int32, sg v = 1 ∨ sg v = -1 ∨ sg v = 0 := by
  intro v
  unfold sg
  split
  · split
    · exact Or.inr (Or.inr rfl)
    · exact Or.inr (Or.inl rfl)
  · exact Or.inl rfl
def cn (s : Nat) (f : Nat → Int32) (c : Int32) : Nat → Nat := ct (fun m => s.testBit m && (sg (f m) == c))
def pal (s : Nat) (f : Nat → Int32) : Nat := tri (cn s f 1 6) + tri (cn s f (-1) 6) + tri (cn s f 0 6)
theorem cn_succ {s : Nat} {f : Nat → Int32} {c : Int32} {m : Nat} : cn s f c (m + 1) = cn s f c m + if s.testBit m && (sg (f m) == c) then 1 else 0 := rfl
theorem cn_le {s : Nat} {f : Nat → Int32} {c : Int32} (m : Nat) : cn s f c m ≤ m := ct_le m
theorem cs_pairsAlike {N : Nat} {M : fm_M} {s i : Nat} (hN : 4000 ≤ N) (hs : s < 64) (hi : i < 48) : pBench_pairsAlike N M (nn s) (nn i) = some (nn (pal s (fun m => M.1 (183 + m) i))) := by
  unfold pBench_pairsAlike
  refine lp_for 6 (fun m => (nn (cn s (fun m => M.1 (183 + m) i) 1 m), nn (cn s (fun m => M.1 (183 + m) i) (-1) m), nn (cn s (fun m => M.1 (183 + m) i) 0 m), nn m)) _ ?_ ?_ (by omega)
  · intro m hm k
    unfold pBench_pairsAlike_L11 pBench_pairsAlike_L11b
    try dsimp only
    rw [if_neg (by rw [show (6 : Int32) = nn 6 from rfl, nn_le nB nB]; omega)]
    rw [cn_succ, cn_succ, cn_succ]
    cases hb : s.testBit m
    · rw [if_pos ((bt_at hs (by omega)).mpr hb), nn_succ]
      rfl
    · rw [if_neg (fun q => by rw [(bt_at hs (by omega)).mp q] at hb; cases hb), ixE (by omega) nL, ldE (by omega) nL]
      refine (bindE cs_sign).trans ?_
      rcases st_sg (M.1 (183 + m) i) with e | e | e
      · rw [e, if_neg (by decide)]
        unfold pBench_pairsAlike_J55
        rw [if_pos (by decide)]
        unfold pBench_pairsAlike_J69
        rw [if_neg (by decide), nn_succ, nn_succ, Int32.add_zero, Int32.add_zero]
        rfl
      · rw [e, if_pos (by decide)]
        unfold pBench_pairsAlike_J55
        rw [if_neg (by decide)]
        unfold pBench_pairsAlike_J69
        rw [if_neg (by decide), nn_succ, nn_succ, Int32.add_zero, Int32.add_zero]
        rfl
      · rw [e, if_pos (by decide)]
        unfold pBench_pairsAlike_J55
        rw [if_pos (by decide)]
        unfold pBench_pairsAlike_J69
        rw [if_pos rfl, nn_succ, nn_succ, Int32.add_zero, Int32.add_zero]
        rfl
  · intro k
    unfold pBench_pairsAlike_L11 pBench_pairsAlike_L11b
    try dsimp only
    rw [if_pos (by decide)]
    refine (bindE (cs_pairsOf (cn_le 6))).trans ?_
    refine (bindE (cs_pairsOf (cn_le 6))).trans ?_
    refine (bindE (cs_pairsOf (cn_le 6))).trans ?_
    rw [nn_add, nn_add]
    rfl
/-! sums over pairs -/
theorem ns_add {f h : Nat → Nat} : ∀ n, ns (fun i => f i + h i) n = ns f n + ns h n
  | 0 => rfl
  | n + 1 => by
    show ns _ n + (f n + h n) = (ns f n + f n) + (ns h n + h n)
    rw [ns_add n]
    omega
theorem ns_zero : ∀ n, ns (fun _ => 0) n = 0
  | 0 => rfl
  | n + 1 => by
    show ns _ n + 0 = 0
    rw [ns_zero n]
def ds (h : Nat → Nat → Nat) (n : Nat) : Nat := ns (fun one => ns (fun k => h one (one + 1 + k)) (n - 1 - one)) n
theorem ds_succ {h : Nat → Nat → Nat} {n : Nat} : ds h (n + 1) = ds h n + ns (fun one => h one n) n := by
  unfold ds
  show ns _ n + ns (fun k => h n (n + 1 + k)) (n + 1 - 1 - n) = _
  rw [show n + 1 - 1 - n = 0 by omega, show ns (fun k => h n (n + 1 + k)) 0 = 0 from rfl, Nat.add_zero, ← ns_add]
  refine ns_congr (fun one ho => ?_)
  try dsimp only
  rw [show n + 1 - 1 - one = (n - 1 - one) + 1 by omega]
  show ns _ (n - 1 - one) + h one (one + 1 + (n - 1 - one)) = _
  rw [show one + 1 + (n - 1 - one) = n by omega]
theorem ds_add {f h : Nat → Nat → Nat} {n : Nat} : ds (fun a b => f a b + h a b) n = ds f n + ds h n := by
  unfold ds
  rw [← ns_add]
  exact ns_congr (fun one _ => ns_add _)
theorem ds_congr {f h : Nat → Nat → Nat} {n : Nat} (e : ∀ a b, a < b → b < n → f a b = h a b) : ds f n = ds h n := by
  unfold ds
  exact ns_congr (fun one ho => ns_congr (fun k hk => e _ _ (by omega) (by omega)))
def pe (s : Nat) (f : Nat → Int32) (a b : Nat) : Nat := if s.testBit a && s.testBit b && (sg (f a) == sg (f b)) then 1 else 0
theorem ns_pe {s : Nat} {f : Nat → Int32} {b : Nat} : ∀ n, ns (fun a => pe s f a b) n = if s.testBit b then cn s f (sg (f b)) n else 0
  | 0 => by
    show 0 = _
    split <;> rfl
  | n + 1 => by
    show ns _ n + pe s f n b = _
    rw [ns_pe n]
    cases hb : s.testBit b
    · unfold pe
      rw [hb]
      simp
    · rw [if_pos rfl, if_pos rfl, cn_succ]
      unfold pe
      rw [hb]
      simp
theorem ds_tri {s : Nat} {f : Nat → Int32} : ∀ n, ds (pe s f) n = tri (cn s f 1 n) + tri (cn s f (-1) n) + tri (cn s f 0 n)
  | 0 => by show (0 : Nat) = tri 0 + tri 0 + tri 0; decide
  | n + 1 => by
    rw [ds_succ, ds_tri n, ns_pe, cn_succ, cn_succ, cn_succ]
    cases hb : s.testBit n
    · simp
    · rcases st_sg (f n) with e | e | e
      · rw [e]
        show _ + _ + _ + cn s f 1 n = tri (cn s f 1 n + 1) + tri (cn s f (-1) n + 0) + tri (cn s f 0 n + 0)
        rw [tri_succ, Nat.add_zero, Nat.add_zero]
        omega
      · rw [e]
        show _ + _ + _ + cn s f (-1) n = tri (cn s f 1 n + 0) + tri (cn s f (-1) n + 1) + tri (cn s f 0 n + 0)
        rw [tri_succ, Nat.add_zero, Nat.add_zero]
        omega
      · rw [e]
        show _ + _ + _ + cn s f 0 n = tri (cn s f 1 n + 0) + tri (cn s f (-1) n + 0) + tri (cn s f 0 n + 1)
        rw [tri_succ, Nat.add_zero, Nat.add_zero]
        omega
theorem cn_more {s n : Nat} {f : Nat → Int32} {c : Int32} (hs : s < 2 ^ n) : ∀ {m : Nat}, n ≤ m → cn s f c m = cn s f c n
  | 0, h => by
    obtain rfl : n = 0 := by omega
    rfl
  | m + 1, h => by
    by_cases e : n = m + 1
    · rw [e]
    · rw [cn_succ, cn_more hs (show n ≤ m by omega)]
      have : s.testBit m = false := by
        cases z : s.testBit m
        · rfl
        · have := set_bit hs z; omega
      rw [this]
      rfl
theorem ds_pal {s n : Nat} {f : Nat → Int32} (hs : s < 2 ^ n) (hn : n ≤ 6) : ds (pe s f) n = pal s f := by
  rw [ds_tri]
  unfold pal
  rw [cn_more hs hn, cn_more hs hn, cn_more hs hn]
def AG (g : Nat → Int32) (H : Nat → Int → Int32) (s : Nat) (b t0 : Int) (L : Nat) : Nat := ns (fun i => pal s (fun m => tr g H m b (t0 + i))) L
def pa (g : Nat → Int32) (H : Nat → Int → Int32) (s : Nat) (b t0 : Int) (L one other : Nat) : Nat := if s.testBit one && s.testBit other then ct (agp g H one other b t0) L else 0
theorem ds_AG {g : Nat → Int32} {H : Nat → Int → Int32} {s n : Nat} {b t0 : Int} (hs : s < 2 ^ n) (hn : n ≤ 6) : ∀ L, ds (pa g H s b t0 L) n = AG g H s b t0 L
  | 0 => by
    show _ = 0
    rw [ds_congr (h := fun _ _ => 0) (fun a b _ _ => by unfold pa; split <;> rfl)]
    unfold ds
    rw [ns_congr (h := fun _ => 0) (fun one _ => ns_zero _), ns_zero]
  | L + 1 => by
    show _ = ns _ L + pal s (fun m => tr g H m b (t0 + L))
    rw [← ds_pal hs hn, show ns (fun i => pal s (fun m => tr g H m b (t0 + (i : Nat)))) L = AG g H s b t0 L from rfl, ← ds_AG hs hn L, ← ds_add]
    refine ds_congr (fun a c _ _ => ?_)
    unfold pa pe
    by_cases z : (s.testBit a && s.testBit c) = true
    · rw [if_pos z, if_pos z, z]
      show ct _ L + (if agp g H a c b t0 L then 1 else 0) = _
      rfl
    · have z2 : (s.testBit a && s.testBit c) = false := by simpa using z
      rw [if_neg z, if_neg z, z2]
      rfl
theorem pal_le {s : Nat} {f : Nat → Int32} : pal s f ≤ 45 := by
  have h1 := cn_le (s := s) (f := f) (c := 1) 6
  have h2 := cn_le (s := s) (f := f) (c := -1) 6
  have h3 := cn_le (s := s) (f := f) (c := 0) 6
  have t : ∀ a : Fin 7, tri a ≤ 15 := by decide
  have t1 := t ⟨_, Nat.lt_succ_of_le h1⟩
  have t2 := t ⟨_, Nat.lt_succ_of_le h2⟩
  have t3 := t ⟨_, Nat.lt_succ_of_le h3⟩
  unfold pal
  try dsimp only at t1 t2 t3
  omega
theorem AG_le {g : Nat → Int32} {H : Nat → Int → Int32} {s : Nat} {b t0 : Int} {L : Nat} (h : L ≤ 48) : AG g H s b t0 L ≤ 2160 := by
  have := ns_le (f := fun i => pal s (fun m => tr g H m b (t0 + (i : Nat)))) (c := 45) (n := L) (fun i _ => pal_le)
  unfold AG
  omega
/-! the model's reckoning of it -/
theorem md_pairs {N : Nat} {M : fm_M} {H : Nat → Int → Int32} {s : Nat} {b : Int} (hN : 4000 ≤ N) (hg : gV (M.1 1)) (hS : sM M H) (hs : s < 2 ^ gn (M.1 1)) (hb : -8 ≤ b ∧ b ≤ 8) : ∀ one other, one < gn (M.1 1) → other < gn (M.1 1) → s.testBit one = true → s.testBit other = true → pModel_agreeOf N M (nn one) (nn other) (ii b) = some (nn (pa (M.1 1) H s b (gb (M.1 1) : Int) (gl (M.1 1)) one other)) := by
  intro one other h1 h2 h3 h4
  rw [md_agreeOf hN hg hS h1 h2 hb]
  unfold pa
  rw [h3, h4]
  rfl
def mx (P : Nat → Nat) : Nat → Nat
  | 0 => 0
  | n + 1 => if P (mx P n) < P (n + 1) then n + 1 else mx P n
theorem mx_le (P : Nat → Nat) : ∀ n, mx P n ≤ n
  | 0 => Nat.le_refl _
  | n + 1 => by
    unfold mx
    split
    · exact Nat.le_refl _
    · exact Nat.le_succ_of_le (mx_le P n)
theorem mx_top (P : Nat → Nat) : ∀ n i, i ≤ n → P i ≤ P (mx P n)
  | 0, i, h => by
    obtain rfl : i = 0 := by omega
    exact Nat.le_refl _
  | n + 1, i, h => by
    unfold mx
    split
    · by_cases e : i = n + 1
      · rw [e]; exact Nat.le_refl _
      · exact Nat.le_trans (mx_top P n i (by omega)) (Nat.le_of_lt (by assumption))
    · by_cases e : i = n + 1
      · rw [e]; exact Nat.not_lt.mp (by assumption)
      · exact mx_top P n i (by omega)
theorem mx_congr {P Q : Nat → Nat} : ∀ {n : Nat}, (∀ i, i ≤ n → P i = Q i) → mx P n = mx Q n
  | 0, _ => rfl
  | n + 1, h => by
    unfold mx
    rw [mx_congr (fun i hi => h i (by omega)), h (n + 1) (by omega), h _ (by have := mx_le Q n; omega)]
def PP (g : Nat → Int32) (H : Nat → Int → Int32) (s : Nat) (t0 : Int) (L n : Nat) : Nat := AG g H s (bs n).toInt t0 L
def FX (g : Nat → Int32) (H : Nat → Int → Int32) (s : Nat) (t0 : Int) (L : Nat) : Nat := mx (PP g H s t0 L) 16
theorem md_fromOf {N : Nat} {M : fm_M} {H : Nat → Int → Int32} {s : Nat} (hN : 4000 ≤ N) (hg : gV (M.1 1)) (hS : sM M H) (hs : s < 2 ^ gn (M.1 1)) : ok (pModel_fromOf N M (nn s)) (fun x => x.1 = bs (FX (M.1 1) H s (gb (M.1 1) : Int) (gl (M.1 1))) ∧ x.2.1 0 20 = nn (PP (M.1 1) H s (gb (M.1 1) : Int) (gl (M.1 1)) (FX (M.1 1) H s (gb (M.1 1) : Int) (gl (M.1 1)))) ∧ fr (fun k => k = 0) M x.2 ∧ ∀ j, j ≠ 20 → x.2.1 0 j = M.1 0 j) := by
  obtain ⟨en, hn6⟩ := hg.n
  have h64 := set_64 hs hn6
  have hL := hg.l
  generalize hgg : M.1 1 = g at *
  unfold FX
  generalize hPP : PP g H s (gb g : Int) (gl g) = P
  have hPi : ∀ n, AG g H s (bs n).toInt (gb g : Int) (gl g) = P n := fun n => by rw [← hPP]; rfl
  have hPb : ∀ n, P n ≤ 2160 := fun n => by rw [← hPi]; exact AG_le (by omega)
  unfold pModel_fromOf
  refine ok_pt ?_
  refine ok_for 17 (fun n t => t.2.1 = nn n ∧ fr (fun k => k = 0) M t.2.2 ∧ (∀ j, j ≠ 20 → t.2.2.1 0 j = M.1 0 j) ∧ ((n = 0 ∧ t.2.2.1 0 20 = -1) ∨ (0 < n ∧ t.1 = bs (mx P (n - 1)) ∧ t.2.2.1 0 20 = nn (P (mx P (n - 1)))))) ?_ ?_ ⟨rfl, by exact fr.si rfl, fun j hj => si_col hj, Or.inl ⟨rfl, si_same⟩⟩ (by omega)
  · rintro n ⟨w2, w3, M3⟩ hn ⟨a1, a2, a3, a4⟩ k hk
    try dsimp only at a1 a2 a3 a4
    subst a1
    have e1 : M3.1 1 = g := by rw [a2.at1 (by decide)]; exact hgg
    have e5 : M3.1 5 = M.1 5 := a2.at1 (by decide)
    have hS3 : sM M3 H := by unfold sM; rw [e1, e5, ← hgg]; exact hS
    obtain ⟨d1, d2, d3⟩ := bs_dir hn
    unfold pModel_fromOf_L9 pModel_fromOf_L9b
    try dsimp only
    refine ok_neg (by rw [show (16 : Int32) = nn 16 from rfl, nn_lt nB nB]; omega) ?_
    refine ok_for (gn g) (fun one t => t = (nn (ns (fun one => ns (fun k => pa g H s (bs n).toInt (gb g : Int) (gl g) one (one + 1 + k)) (gn g - 1 - one)) one), nn one)) ?_ ?_ rfl (by omega)
    · rintro one t ho rfl k2 hk2
      unfold pModel_fromOf_L21 pModel_fromOf_L21b
      try dsimp only
      refine ok_neg (by rw [e1, en, nn_le nB nB]; omega) ?_
      rw [nn_succ]
      refine ok_for (gn g - 1 - one) (fun c t => t = (nn (ns (fun one => ns (fun k => pa g H s (bs n).toInt (gb g : Int) (gl g) one (one + 1 + k)) (gn g - 1 - one)) one + ns (fun k => pa g H s (bs n).toInt (gb g : Int) (gl g) one (one + 1 + k)) c), nn (one + 1 + c))) ?_ ?_ rfl (by omega)
      · rintro c t hc rfl k3 hk3
        unfold pModel_fromOf_L38 pModel_fromOf_L38b
        try dsimp only
        refine ok_neg (by rw [e1, en, nn_le nB nB]; omega) (ok_bindE (md_has h64 (by omega)) ?_)
        have hz : pa g H s (bs n).toInt (gb g : Int) (gl g) one (one + 1 + c) = 0 → ∀ x : Int32, ok (k3 (nn (ns (fun one => ns (fun k => pa g H s (bs n).toInt (gb g : Int) (gl g) one (one + 1 + k)) (gn g - 1 - one)) one + ns (fun k => pa g H s (bs n).toInt (gb g : Int) (gl g) one (one + 1 + k)) c) + 0, nn (one + 1 + c) + 1)) (fun x => x.1 = bs (mx P 16) ∧ x.2.1 0 20 = nn (P (mx P 16)) ∧ fr (fun k => k = 0) M x.2 ∧ ∀ j, j ≠ 20 → x.2.1 0 j = M.1 0 j) := by
          intro z _
          rw [Int32.add_zero, nn_succ]
          refine hk3 _ ?_
          show (_, _) = (nn (_ + (ns _ c + pa g H s (bs n).toInt (gb g : Int) (gl g) one (one + 1 + c))), _)
          rw [z, Nat.add_zero]
          rfl
        cases hb1 : s.testBit one
        · exact ok_pos rfl (hz (by unfold pa; rw [hb1]; rfl) 0)
        · refine ok_neg (by decide) (ok_bindE (md_has h64 (by omega)) ?_)
          cases hb2 : s.testBit (one + 1 + c)
          · exact ok_pos rfl (hz (by unfold pa; rw [hb1, hb2]; rfl) 0)
          · refine ok_neg (by decide) (ok_bindE (md_turn (by omega)) ?_)
            have hpr := md_pairs (b := (bs n).toInt) hN (by rw [e1]; exact hg) hS3 (by rw [e1]; exact hs) ⟨d2, d3⟩ one (one + 1 + c) (by rw [e1]; exact ho) (by rw [e1]; omega) hb1 hb2
            rw [← d1, e1] at hpr
            refine ok_bindE hpr ?_
            rw [nn_add, nn_succ]
            exact hk3 _ (by rw [Nat.add_assoc]; rfl)
      · rintro t rfl k3
        unfold pModel_fromOf_L38 pModel_fromOf_L38b
        try dsimp only
        refine ok_pos (by rw [e1, en, nn_le nB nB]; omega) ?_
        rw [nn_succ]
        exact hk2 _ rfl
    · rintro t rfl k2
      have hsum : ns (fun one => ns (fun k => pa g H s (bs n).toInt (gb g : Int) (gl g) one (one + 1 + k)) (gn g - 1 - one)) (gn g) = P n := by
        rw [← hPi, ← ds_AG hs hn6]
        rfl
      rw [hsum]
      unfold pModel_fromOf_L21 pModel_fromOf_L21b
      try dsimp only
      refine ok_pos (by rw [e1, en, nn_le nB nB]; omega) ?_
      have hpn := hPb n
      rw [nn_succ]
      rcases a4 with ⟨n0, c1⟩ | ⟨n0, c0, c1⟩
      · subst n0
        refine ok_pos (by rw [c1, show (-1 : Int32) = ii (-1) from rfl, nn_ii, ii_lt (by omega)]; omega) (ok_pt (ok_bindE (md_turn (by omega)) (hk _ ⟨rfl, a2.tr (fr.si rfl), fun j hj => (si_col hj).trans (a3 j hj), Or.inr ⟨by omega, rfl, si_same⟩⟩)))
      · have hpm := hPb (mx P (n - 1))
        have ea : mx P n = if P (mx P (n - 1)) < P n then n else mx P (n - 1) := by
          obtain ⟨n', rfl⟩ : ∃ n', n = n' + 1 := ⟨n - 1, by omega⟩
          rfl
        rw [c1]
        refine ok_ite (fun z => ok_pt (ok_bindE (md_turn (by omega)) (hk _ ⟨rfl, a2.tr (fr.si rfl), fun j hj => (si_col hj).trans (a3 j hj), Or.inr ⟨by omega, ?_, ?_⟩⟩))) (fun z => hk _ ⟨rfl, a2, a3, Or.inr ⟨by omega, ?_, ?_⟩⟩)
        · rw [nn_lt nB nB] at z
          rw [show n + 1 - 1 = n from rfl, ea, if_pos z]
        · rw [nn_lt nB nB] at z
          rw [show n + 1 - 1 = n from rfl, ea, if_pos z]
          exact si_same
        · rw [nn_lt nB nB] at z
          rw [show n + 1 - 1 = n from rfl, ea, if_neg z]
          exact c0
        · rw [nn_lt nB nB] at z
          rw [show n + 1 - 1 = n from rfl, ea, if_neg z]
          exact c1
  · rintro ⟨w2, w3, M3⟩ ⟨a1, a2, a3, a4⟩ k
    try dsimp only at a1 a2 a3 a4
    subst a1
    unfold pModel_fromOf_L9 pModel_fromOf_L9b
    try dsimp only
    refine ok_pos (by decide) (ok_some ?_)
    rcases a4 with ⟨n0, c1⟩ | ⟨n0, c0, c1⟩
    · omega
    · exact ⟨c0, c1, a2, a3⟩
