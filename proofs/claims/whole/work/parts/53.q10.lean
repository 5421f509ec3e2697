/-! ===== calls: tracks, settles ===== -/
def FF (g : Nat → Int32) (i : Nat) : Int32 := bs (FX g (smp g All) (lvs g) ((gb g + i * gl g : Nat) : Int) (gl g))
def trp (g : Nat → Int32) (i : Nat) : Bool := !(i == 0) && !(FF g i == FF g (i - 1))
theorem cmp_eq {x y : Int64} : lg_cmp x y = 0 ↔ x = y := by
  constructor
  · intro h
    have h1 : ¬ x < y := fun c => by
      have := cmp_lt.mpr c
      rw [h] at this
      exact absurd this (by decide)
    have h2 : ¬ y < x := fun c => by
      have := cmp_gt.mpr c
      rw [h] at this
      exact absurd this (by decide)
    exact Int64.le_antisymm (Int64.not_lt.mp h2) (Int64.not_lt.mp h1)
  · intro h; exact fm_cmp0 h
theorem long_inj {x y : Int32} (h : (x + 8).toInt64 = (y + 8).toInt64) : x = y := by
  have h1 := congrArg Int64.toInt h
  rw [Int32.toInt_toInt64, Int32.toInt_toInt64] at h1
  have h2 := Int32.toInt.inj h1
  have h3 := congrArg (fun z => z - 8) h2
  try dsimp only at h3
  rwa [Int32.add_sub_cancel, Int32.add_sub_cancel] at h3
theorem rg_get {f : Nat → Int64} {n i : Nat} (h : i < n) : ((List.range n).map f).getD i 0 = f i := by
  simp [List.getD_eq_getElem?_getD, h]
theorem x_tracks {N : Nat} (hN : 4000 ≤ N) : cp_tracks N RR := by
  intro n M1 M2 v1 hn hR
  obtain ⟨q, l, hg, hr, hS, hq, tC, tM, hl, hm⟩ := hR.opn hn
  have ez : mq M2 (fm_si M2 0 5 0) := mq.rf.pt (by decide)
  have e1 : (fm_si M2 0 5 0).1 1 = M2.1 1 := si_row (by decide)
  have h64 := lvs_lt hg
  have hp := pop_le h64
  have hL := hg.l
  have hB := hg.b
  rcases rng v1 1 12 (by decide) with ⟨b', rfl, b1, b2⟩ | c
  · obtain ⟨w, rfl⟩ : ∃ t : Nat, b' = (t : Int) := ⟨b'.toNat, by omega⟩
    have ew : pMicRow_within M1 (nn w) 1 12 = some 1 := by rw [nn_ii]; exact wi_pos (rng_in ⟨b1, b2⟩ (by decide))
    have ew2 : pModel_in (fm_si M2 0 5 0) (nn w) 1 12 = some 1 := by rw [nn_ii]; exact in_pos (rng_in ⟨b1, b2⟩ (by decide))
    rw [← nn_ii]
    have hmul : (w - 1) * gl (M2.1 1) ≤ 11 * 48 := Nat.mul_le_mul (by omega) (by omega)
    have ecnd : ∀ x y : Int32, x = nn (gb (M2.1 1)) → y = nn (gl (M2.1 1)) → (x + ((nn w - 1) * y) ≤ 200 ↔ gb (M2.1 1) + (w - 1) * gl (M2.1 1) ≤ 200) := by
      intro x y hx hy
      rw [hx, hy, show (1 : Int32) = nn 1 from rfl, nn_sub (by omega), nn_mul, nn_add, show (200 : Int32) = nn 200 from rfl, nn_le nB nB]
    have cb : M1.1 14 1 = nn (gb (M2.1 1)) := (hr.held (by decide)).trans hB.1
    have cl' : M1.1 14 2 = nn (gl (M2.1 1)) := (hr.held (by decide)).trans hL.1
    by_cases h3 : gb (M2.1 1) + (w - 1) * gl (M2.1 1) ≤ 200
    · by_cases h2 : 2 ≤ pop (lvs (M2.1 1))
      · have hc2 : (2 : Int32) ≤ nn (pop (lvs (M2.1 1))) := by rw [show (2 : Int32) = nn 2 from rfl, nn_le nB nB]; exact h2
        have hT : ∀ i, i < w → gb (M2.1 1) + i * gl (M2.1 1) ≤ 200 := by
          intro i hi
          have := Nat.mul_le_mul_right (gl (M2.1 1)) (show i ≤ w - 1 by omega)
          omega
        refine cpq (l := (List.range w).map (fun i => (FF (M2.1 1) i + 8).toInt64)) hR hq (by simp; omega) (nn (ct (trp (M2.1 1)) w)) ?_ ?_
        · unfold pMicRow_tracks
          refine ok_bindE ew (ok_neg (by decide) (ok_bindE rfl (ok_bindE rfl (ok_pos ((ecnd _ _ cb cl').mpr h3) (ok_bindE (cs_liveCount hN hg hr) (ok_pos hc2 (ok_bind (cH.begin hg hr hS (by omega) tC) ?_)))))))
          rintro Ma ⟨ha, fa⟩
          refine ok_bind ha.clear ?_
          rintro Mb ⟨hb, fb⟩
          refine ok_for w (fun i t => t.1 = nn (ct (trp (M2.1 1)) i) ∧ (i = 0 ∨ t.2.1 = FF (M2.1 1) (i - 1)) ∧ t.2.2.1 = nn i ∧ cH M1 (M2.1 1) All (q + 1) ((List.range i).map (fun i => (FF (M2.1 1) i + 8).toInt64)) t.2.2.2) ?_ ?_ ⟨rfl, Or.inl rfl, rfl, by exact hb⟩ (by omega)
          · rintro i ⟨w2, w3, w4, M3⟩ hi ⟨a1, a2, a3, a4⟩ k hk
            try dsimp only at a1 a2 a3 a4
            subst a1
            subst a3
            have hTi := hT i hi
            obtain ⟨g1, g2⟩ := cs_begl hg a4.2.2.2.1
            unfold pMicRow_tracks_L73 pMicRow_tracks_L73b
            try dsimp only
            refine ok_neg (by rw [nn_le nB nB]; omega) (ok_bindE rfl (ok_bindE rfl (ok_bindE rfl (ok_bindE (cs_live hN hg a4.2.2.2.1) ?_))))
            rw [g1, g2, show ii (gb (M2.1 1) : Int) + nn i * nn (gl (M2.1 1)) = ii ((gb (M2.1 1) + i * gl (M2.1 1) : Nat) : Int) by rw [← nn_ii, nn_mul, nn_add, nn_ii]]
            refine ok_bind (cs_find hN a4 (by omega) (by omega) lvs_2) ?_
            rintro ⟨x, M4⟩ ⟨x1, h4, t4⟩
            try dsimp only at x1 h4 t4 ⊢
            have x1' : x = FF (M2.1 1) i := x1
            subst x1'
            refine ok_bind (h4.add (by simp; omega)) ?_
            rintro M5 ⟨h5, f5⟩
            rw [← rg_succ] at h5
            have e3 : ct (trp (M2.1 1)) (i + 1) = ct (trp (M2.1 1)) i + if trp (M2.1 1) i then 1 else 0 := rfl
            rw [nn_succ, nn_succ]
            by_cases i0 : i = 0
            · subst i0
              refine ok_pos (by decide) (hk _ ⟨?_, Or.inr rfl, rfl, h5⟩)
              try dsimp only
              rw [e3]
              rfl
            · refine ok_neg (by rw [show (0 : Int32) = nn 0 from rfl, nn_le nB nB]; omega) ?_
              have a2' : w3 = FF (M2.1 1) (i - 1) := a2.resolve_left i0
              subst a2'
              refine ok_ite (fun z => hk _ ⟨?_, Or.inr rfl, rfl, h5⟩) (fun z => hk _ ⟨?_, Or.inr rfl, rfl, h5⟩)
              · try dsimp only
                rw [e3, if_neg (by unfold trp; rw [z]; simp)]
                rfl
              · try dsimp only
                rw [e3, if_pos (by unfold trp; rw [beq_eq_false_iff_ne.mpr z, beq_eq_false_iff_ne.mpr i0]; rfl)]
          · rintro ⟨w2, w3, w4, M3⟩ ⟨a1, a2, a3, a4⟩ k
            try dsimp only at a1 a2 a3 a4
            subst a1
            subst a3
            unfold pMicRow_tracks_L73 pMicRow_tracks_L73b
            try dsimp only
            exact ok_pos (by rw [nn_le nB nB]; omega) (ok_some ⟨rfl, a4.q (by omega)⟩)
        · unfold pModel_tracks
          refine ok_pt (ok_bindE ew2 (ok_neg (by decide) (ok_pos ((ecnd _ _ (by rw [e1]; exact hB.1) (by rw [e1]; exact hL.1)).mpr h3) (ok_bindE (ez.live hN hg) (ok_bindE (bt_countBits (by omega) h64) (ok_pos hc2 (ok_bind (md_begin0 hN hg hm tM) ?_)))))))
          rintro Ma ⟨ha, za⟩
          refine ok_pt ?_
          have hcl := ha.clear
          refine ok_for w (fun i t => t.1 = nn (ct (trp (M2.1 1)) i) ∧ t.2.1 = nn i ∧ mS M2 t.2.2 ∧ t.2.2.1 1 39 = M2.1 1 39 ∧ t.2.2.1 5 = Ma.1 5 ∧ tdM t.2.2 ((List.range i).map (fun i => (FF (M2.1 1) i + 8).toInt64))) ?_ ?_ ⟨rfl, rfl, mS.of hcl.1, by (try dsimp only); rw [hcl.g], si_row (by decide), by exact hcl.2.1⟩ (by omega)
          · rintro i ⟨w2, w3, M3⟩ hi ⟨a1, a2, a3, a4, a5, a6⟩ k hk
            try dsimp only at a1 a2 a3 a4 a5 a6
            subst a1
            subst a2
            have hTi := hT i hi
            unfold pModel_tracks_L81 pModel_tracks_L81b
            try dsimp only
            refine ok_neg (by rw [nn_le nB nB]; omega) (ok_pt ?_)
            rw [ha.g, a4, hB.1, hL.1, nn_mul, nn_add]
            have s1 : mS M2 (fm_si M3 1 38 (nn (gb (M2.1 1) + i * gl (M2.1 1)))) := a3.b
            have en : gn ((fm_si M3 1 38 (nn (gb (M2.1 1) + i * gl (M2.1 1)))).1 1) = gn (M2.1 1) := by unfold gn; rw [s1.2.2 0 (by decide) (by decide)]
            have hS1 : sM (fm_si M3 1 38 (nn (gb (M2.1 1) + i * gl (M2.1 1)))) (smp (M2.1 1) All) := by
              unfold sM
              rw [en, si_row (by decide), a5]
              have := ha.2.2
              unfold sM at this
              rw [ha.g] at this
              exact this
            refine ok_bind (md_fromS hN hg hS1 lvs_2 s1.2.2 ⟨si_same, hTi⟩ (by rw [si_col (by decide), a4]; exact hL)) ?_
            rintro ⟨x, M4⟩ ⟨x1, x2, x3, x4⟩
            try dsimp only at x1 x2 x3 x4 ⊢
            have x1' : x = FF (M2.1 1) i := x1
            subst x1'
            have s4 : mS M2 M4 := s1.z x3 x4 (fun k hk => by omega) (by decide)
            have t4 : tdM M4 ((List.range i).map (fun i => (FF (M2.1 1) i + 8).toInt64)) := (a6.pt (by decide)).z x3 (x4 4 (by decide)) (by decide)
            refine ok_bind (md_tell t4 (by simp; omega)) ?_
            rintro M5 ⟨f5, z5, t5⟩
            rw [Int32.add_comm 8, ← rg_succ] at t5
            have s5 : mS M2 M5 := s4.z f5 z5 (fun k hk => by omega) (by decide)
            have b4 : M5.1 1 39 = M2.1 1 39 := by rw [f5.at1 (by decide), x3.at1 (by decide), si_col (by decide)]; exact a4
            have b5 : M5.1 5 = Ma.1 5 := by rw [f5.at1 (by decide), x3.at1 (by decide), si_row (by decide)]; exact a5
            have e3 : ct (trp (M2.1 1)) (i + 1) = ct (trp (M2.1 1)) i + if trp (M2.1 1) i then 1 else 0 := rfl
            by_cases i0 : i = 0
            · subst i0
              refine ok_pos (by decide) (hk _ ⟨?_, rfl, s5, b4, b5, t5⟩)
              try dsimp only
              rw [e3, Int32.add_zero]
              rfl
            · refine ok_neg (by rw [show (0 : Int32) = nn 0 from rfl, nn_le nB nB]; omega) (ok_ldl (by omega) nL ?_)
              rw [show nn i - 1 = nn (i - 1) from nn_sub (i := i) (j := 1) (by omega)]
              refine ok_ldl (by omega) nL ?_
              rw [t5.2 i (by simp), t5.2 (i - 1) (by simp; omega), rg_get (by omega), rg_get (by omega)]
              refine ok_ite (fun z => hk _ ⟨?_, nn_succ, s5, b4, b5, t5⟩) (fun z => hk _ ⟨?_, nn_succ, s5, b4, b5, t5⟩)
              · try dsimp only
                rw [cmp_eq] at z
                rw [e3, if_neg (by unfold trp; rw [long_inj z]; simp), Int32.add_zero]
                rfl
              · try dsimp only
                rw [cmp_eq] at z
                rw [e3, if_pos (by unfold trp; rw [show (FF (M2.1 1) i == FF (M2.1 1) (i - 1)) = false from beq_eq_false_iff_ne.mpr (fun y => z (by rw [y])), beq_eq_false_iff_ne.mpr i0]; rfl), nn_succ]
          · rintro ⟨w2, w3, M3⟩ ⟨a1, a2, a3, a4, a5, a6⟩ k
            try dsimp only at a1 a2 a3 a4 a5 a6
            subst a1
            subst a2
            unfold pModel_tracks_L81 pModel_tracks_L81b
            try dsimp only
            refine ok_pos (by rw [nn_le nB nB]; omega) (ok_pt (ok_some ⟨rfl, (a3.b).q ?_ ?_, a6.pt (by decide)⟩))
            · rw [si_same, ha.g]
            · rw [si_col (by decide)]; exact a4
      · have hc2 : ¬ (2 : Int32) ≤ nn (pop (lvs (M2.1 1))) := by rw [show (2 : Int32) = nn 2 from rfl, nn_le nB nB]; exact h2
        refine cpq hR hq hl (-2) ?_ ?_
        · unfold pMicRow_tracks
          exact ok_bindE ew (ok_neg (by decide) (ok_bindE rfl (ok_bindE rfl (ok_pos ((ecnd _ _ cb cl').mpr h3) (ok_bindE (cs_liveCount hN hg hr) (ok_neg hc2 (ok_some ⟨rfl, qC.same hS tC⟩)))))))
        · unfold pModel_tracks
          exact ok_pt (ok_bindE ew2 (ok_neg (by decide) (ok_pos ((ecnd _ _ (by rw [e1]; exact hB.1) (by rw [e1]; exact hL.1)).mpr h3) (ok_bindE (ez.live hN hg) (ok_bindE (bt_countBits (by omega) h64) (ok_neg hc2 (ok_some ⟨rfl, qM.same tM⟩)))))))
    · refine cpq hR hq hl (-1) ?_ ?_
      · unfold pMicRow_tracks
        exact ok_bindE ew (ok_neg (by decide) (ok_bindE rfl (ok_bindE rfl (ok_neg (fun z => h3 ((ecnd _ _ cb cl').mp z)) (ok_some ⟨rfl, qC.same hS tC⟩)))))
      · unfold pModel_tracks
        exact ok_pt (ok_bindE ew2 (ok_neg (by decide) (ok_neg (fun z => h3 ((ecnd _ _ (by rw [e1]; exact hB.1) (by rw [e1]; exact hL.1)).mp z)) (ok_some ⟨rfl, qM.same tM⟩))))
  · refine cpq hR hq hl (-1) ?_ ?_
    · unfold pMicRow_tracks
      exact ok_bindE (wi_neg c) (ok_pos rfl (ok_some ⟨rfl, qC.same hS tC⟩))
    · unfold pModel_tracks
      exact ok_pt (ok_bindE (in_neg c) (ok_pos rfl (ok_some ⟨rfl, qM.same tM⟩)))
/-! settles -/
def SP (F : Nat → Prop) (k : Nat) : Prop := 4 ≤ k ∧ k ≤ 48 ∧ ∀ j, k ≤ j → j ≤ k + 4 → j ≤ 48 → F j
theorem cs_leastLong {N : Nat} {M1 M : fm_M} {g : Nat → Int32} {q s : Nat} {l : List Int64} {t0 d : Int} (hN : 4000 ≤ N) (h : cH M1 g All q l M) (ht : -200 ≤ t0 ∧ t0 ≤ 200) (hs : s < 2 ^ gn g) : ok (pCompass_leastLong N M (ii d) (ii t0) (nn s)) (fun x => cH M1 g All q l x.2 ∧ ((∃ k, SP (fun L => bs (FX g (smp g All) s t0 L) = ii d) k ∧ (∀ j, j < k → ¬ SP (fun L => bs (FX g (smp g All) s t0 L) = ii d) j) ∧ x.1 = nn k) ∨ ((∀ k, ¬ SP (fun L => bs (FX g (smp g All) s t0 L) = ii d) k) ∧ x.1 = -1))) := by
  generalize hF : (fun L => bs (FX g (smp g All) s t0 L) = ii d) = F
  have hFi : ∀ L, (bs (FX g (smp g All) s t0 L) = ii d) = F L := fun L => by rw [← hF]
  unfold pCompass_leastLong
  refine ok_bind (cs_measure (L := 48) hN h ht (by decide) hs) ?_
  rintro M2 ⟨h2, z2, v2⟩
  refine ok_for 48 (fun i t => t.2.1 = nn (i + 1) ∧ cH M1 g All q l t.2.2 ∧ fr (fun k => k = 219) M2 t.2.2 ∧ totS t.2.2 g (smp g All) s t0 i ∧ (∀ k, 4 ≤ k → k + 4 ≤ i → ∃ j, k ≤ j ∧ j ≤ k + 4 ∧ ¬ F j) ∧ ((t.1 = -1 ∧ (4 ≤ i → ¬ F i)) ∨ ∃ f, 4 ≤ f ∧ f ≤ i ∧ i < f + 4 ∧ t.1 = nn f ∧ (∀ j, f ≤ j → j ≤ i → F j) ∧ (4 < f → ¬ F (f - 1)))) ?_ ?_ ⟨rfl, h2, fr.rf, by intro d hd; exact z2 d hd, fun k a b => by omega, Or.inl ⟨rfl, fun z => by omega⟩⟩ (by omega)
  · rintro i ⟨w4, w5, M3⟩ hi ⟨a1, a2, a3, a4, a5, a6⟩ k hk
    try dsimp only at a1 a2 a3 a4 a5 a6
    subst a1
    unfold pCompass_leastLong_L14 pCompass_leastLong_L14b
    try dsimp only
    refine ok_neg (by rw [show (48 : Int32) = nn 48 from rfl, nn_lt nB nB]; omega) ?_
    rw [show nn (i + 1) - 1 = nn i from nn_sub (i := i + 1) (j := 1) (by omega)]
    refine ok_bind (cs_addToTotals hN (by omega)) ?_
    rintro M4 ⟨f4, v4⟩
    have h4 := a2.kf f4 (fun k hk => by omega)
    have t4 : totS M4 g (smp g All) s t0 (i + 1) := by
      intro e he
      rw [v4 e he, a4 e he, a3.at1 (by (try dsimp only); omega), v2 e i he (by omega), nn_add]
      rfl
    have e1 : nn (i + 1) + 1 = nn (i + 1 + 1) := nn_succ
    rw [e1]
    by_cases c4 : i + 1 < 4
    · refine ok_pos (by rw [show (4 : Int32) = nn 4 from rfl, nn_lt nB nB]; omega) (hk _ ⟨rfl, h4, a3.tr f4, t4, fun k z1 z2 => by omega, Or.inl ⟨rfl, fun z => by omega⟩⟩)
    · refine ok_neg (by rw [show (4 : Int32) = nn 4 from rfl, nn_lt nB nB]; omega) (ok_bindE (t4.dir hN (by omega)) ?_)
      refine ok_ite (fun z => ?_) (fun z => hk _ ⟨rfl, h4, a3.tr f4, t4, ?_, Or.inl ⟨rfl, fun _ => by rw [← hFi]; exact z⟩⟩)
      · rw [hFi] at z
        rcases a6 with ⟨b1, b2⟩ | ⟨f, b1, b2, b3, b4, b5, b6⟩
        · refine ok_pos b1 (hk _ ⟨rfl, h4, a3.tr f4, t4, ?_, Or.inr ⟨i + 1, by omega, by omega, by omega, rfl, ?_, ?_⟩⟩)
          · intro k z1 z2
            by_cases e : k + 4 = i + 1
            · exact ⟨i, by omega, by omega, b2 (by omega)⟩
            · exact a5 k z1 (by omega)
          · intro j z1 z2
            have : j = i + 1 := by omega
            rw [this]; exact z
          · intro z1
            rw [show i + 1 - 1 = i by omega]
            exact b2 (by omega)
        · refine ok_neg (by rw [b4, show (-1 : Int32) = ii (-1) from rfl, nn_ii, ii_inj (by omega)]; omega) ?_
          have hall : ∀ j, f ≤ j → j ≤ i + 1 → F j := by
            intro j z1 z2
            by_cases e : j = i + 1
            · rw [e]; exact z
            · exact b5 j z1 (by omega)
          by_cases e4 : i + 1 = f + 4
          · refine ok_pos (by rw [b4, e4, show (4 : Int32) = nn 4 from rfl, nn_add]) (ok_some ⟨h4, Or.inl ⟨f, ⟨by omega, by omega, fun j z1 z2 z3 => hall j z1 (by omega)⟩, ?_, b4⟩⟩)
            intro j z1 ⟨y1, y2, y3⟩
            by_cases e5 : j + 4 ≤ i
            · obtain ⟨m, m1, m2, m3⟩ := a5 j y1 e5
              exact m3 (y3 m m1 m2 (by omega))
            · have : j = f - 1 := by omega
              have := b6 (by omega)
              exact this (y3 (f - 1) (by omega) (by omega) (by omega))
          · refine ok_neg (by rw [b4, show (4 : Int32) = nn 4 from rfl, nn_add, nn_inj nB nB]; omega) (hk _ ⟨rfl, h4, a3.tr f4, t4, ?_, Or.inr ⟨f, b1, by omega, by omega, b4, hall, b6⟩⟩)
            intro k z1 z2
            by_cases e : k + 4 = i + 1
            · exact ⟨f - 1, by omega, by omega, b6 (by omega)⟩
            · exact a5 k z1 (by omega)
      · intro k z1 z2
        by_cases e : k + 4 = i + 1
        · exact ⟨i + 1, by omega, by omega, by rw [← hFi]; exact z⟩
        · exact a5 k z1 (by omega)
  · rintro ⟨w4, w5, M3⟩ ⟨a1, a2, a3, a4, a5, a6⟩ k
    try dsimp only at a1 a2 a3 a4 a5 a6
    subst a1
    unfold pCompass_leastLong_L14 pCompass_leastLong_L14b
    try dsimp only
    refine ok_pos (by decide) (ok_some ⟨a2, ?_⟩)
    rcases a6 with ⟨b1, b2⟩ | ⟨f, b1, b2, b3, b4, b5, b6⟩
    · refine Or.inr ⟨?_, b1⟩
      intro k ⟨y1, y2, y3⟩
      by_cases e : k + 4 ≤ 48
      · obtain ⟨m, m1, m2, m3⟩ := a5 k y1 e
        exact m3 (y3 m m1 m2 (by omega))
      · exact b2 (by decide) (y3 48 (by omega) (by omega) (by omega))
    · refine Or.inl ⟨f, ⟨b1, b2, fun j z1 z2 z3 => b5 j z1 z3⟩, ?_, b4⟩
      intro j z1 ⟨y1, y2, y3⟩
      by_cases e : j + 4 ≤ 48
      · obtain ⟨m, m1, m2, m3⟩ := a5 j y1 e
        exact m3 (y3 m m1 m2 (by omega))
      · exact b6 (by omega) (y3 (f - 1) (by omega) (by omega) (by omega))
theorem md_doesSettle {N : Nat} {M : fm_M} {F : Nat → Prop} {k : Nat} {d : Int32} (hN : 4000 ≤ N) (h4 : 4 ≤ k) (h48 : k ≤ 48) (hF : ∀ j, 4 ≤ j → j ≤ 48 → (M.1 12 j = d ↔ F j)) : ok (pModel_doesSettle N M (nn k) d) (fun x => (x = 1 ∧ SP F k) ∨ (x = 0 ∧ ¬ SP F k)) := by
  have em : jmin 48 (nn k + 4) = nn (min 48 (k + 4)) := by
    rw [show (4 : Int32) = nn 4 from rfl, nn_add]
    show (if nn (k + 4) < nn 48 then nn (k + 4) else nn 48) = _
    by_cases z : k + 4 < 48
    · rw [if_pos ((nn_lt nB nB).mpr z), Nat.min_eq_right (by omega)]
    · rw [if_neg (fun y => z ((nn_lt nB nB).mp y)), Nat.min_eq_left (by omega)]
  unfold pModel_doesSettle
  refine ok_for (min 48 (k + 4) + 1 - k) (fun i t => t = nn (k + i) ∧ ∀ j, k ≤ j → j < k + i → F j) ?_ ?_ ⟨rfl, fun j a b => by omega⟩ (by omega)
  · rintro i t hi ⟨rfl, a1⟩ kk hk
    unfold pModel_doesSettle_L2 pModel_doesSettle_L2b
    rw [em]
    refine ok_neg (by rw [nn_lt nB nB]; omega) (ok_ld (by omega) nL ?_)
    rw [nn_succ]
    have hf := hF (k + i) (by omega) (by omega)
    refine ok_ite (fun z => hk _ ⟨rfl, ?_⟩) (fun z => ok_some (Or.inr ⟨rfl, fun y => z (hf.mpr (y.2.2 (k + i) (by omega) (by omega) (by omega)))⟩))
    intro j z1 z2
    by_cases e : j = k + i
    · rw [e]; exact hf.mp z
    · exact a1 j z1 (by omega)
  · rintro t ⟨rfl, a1⟩ kk
    unfold pModel_doesSettle_L2 pModel_doesSettle_L2b
    rw [em]
    exact ok_pos (by rw [nn_lt nB nB]; omega) (ok_some (Or.inl ⟨rfl, h4, h48, fun j z1 z2 z3 => a1 j z1 (by omega)⟩))
theorem x_settles {N : Nat} (hN : 4000 ≤ N) : cp_settles N RR := by
  intro n M1 M2 v1 hn hR
  obtain ⟨q, l, hg, hr, hS, hq, tC, tM, hl, hm⟩ := hR.opn hn
  have ez : mq M2 (fm_si M2 0 5 0) := mq.rf.pt (by decide)
  have h64 := lvs_lt hg
  have hp := pop_le h64
  have hL := hg.l
  have hB := hg.b
  rcases rng v1 (-8) 8 (by decide) with ⟨d, rfl, b1, b2⟩ | c
  · by_cases h2 : 2 ≤ pop (lvs (M2.1 1))
    · have hc2 : (2 : Int32) ≤ nn (pop (lvs (M2.1 1))) := by rw [show (2 : Int32) = nn 2 from rfl, nn_le nB nB]; exact h2
      generalize hF : (fun L => bs (FX (M2.1 1) (smp (M2.1 1) All) (lvs (M2.1 1)) (gb (M2.1 1) : Int) L) = ii d) = F
      have hcl : ok (pMicRow_settles N M1 (ii d)) (fun x => qC M1 q l x.2 ∧ ((∃ k, SP F k ∧ (∀ j, j < k → ¬ SP F j) ∧ x.1 = nn k) ∨ ((∀ k, ¬ SP F k) ∧ x.1 = -2))) := by
        unfold pMicRow_settles
        refine ok_bindE (cs_isDir ⟨b1, b2⟩) (ok_neg (by decide) (ok_bindE (cs_liveCount hN hg hr) (ok_pos hc2 (ok_bind (cH.begin hg hr hS (by omega) tC) ?_))))
        rintro Ma ⟨ha, fa⟩
        refine ok_bindE rfl (ok_bindE (cs_live hN hg ha.2.2.2.1) ?_)
        rw [(cs_begl hg ha.2.2.2.1).1]
        have hll := cs_leastLong (d := d) hN ha (t0 := (gb (M2.1 1) : Int)) (by omega) (lvs_2 (g := M2.1 1))
        rw [hF] at hll
        refine ok_bind hll ?_
        rintro ⟨x, Mb⟩ ⟨hb, x1⟩
        try dsimp only at hb x1 ⊢
        rcases x1 with ⟨k, k1, k2, k3⟩ | ⟨k1, k2⟩
        · have := k1.1
          have := k1.2.1
          subst k3
          exact ok_neg (by rw [show (-1 : Int32) = ii (-1) from rfl, nn_ii, ii_inj (by omega)]; omega) (ok_some ⟨hb.q (by omega), Or.inl ⟨k, k1, k2, rfl⟩⟩)
        · subst k2
          exact ok_pos rfl (ok_some ⟨hb.q (by omega), Or.inr ⟨k1, rfl⟩⟩)
      have hmd : ok (pModel_settles N M2 (ii d)) (fun x => qM M2 l x.2 ∧ ((∃ k, SP F k ∧ (∀ j, j < k → ¬ SP F j) ∧ x.1 = nn k) ∨ ((∀ k, ¬ SP F k) ∧ x.1 = -2))) := by
        unfold pModel_settles
        refine ok_pt (ok_bindE (md_isSide ⟨b1, b2⟩) (ok_neg (by decide) (ok_bindE (ez.live hN hg) (ok_bindE (bt_countBits (by omega) h64) (ok_pos hc2 (ok_bind (md_begin0 hN hg hm tM) ?_))))))
        rintro Ma ⟨ha, za⟩
        refine ok_for 45 (fun i t => t.1 = nn (4 + i) ∧ mS M2 t.2 ∧ t.2.1 1 38 = M2.1 1 38 ∧ t.2.1 5 = Ma.1 5 ∧ tdM t.2 l ∧ ∀ j, 4 ≤ j → j < 4 + i → (t.2.1 12 j = ii d ↔ F j)) ?_ ?_ ⟨rfl, mS.of ha.1, by (try dsimp only); rw [ha.g], rfl, ha.2.1, fun j z1 z2 => by omega⟩ (by omega)
        · rintro i ⟨w4, M3⟩ hi ⟨a1, a2, a3, a4, a5, a6⟩ k hk
          try dsimp only at a1 a2 a3 a4 a5 a6
          subst a1
          unfold pModel_settles_L45 pModel_settles_L45b
          try dsimp only
          refine ok_neg (by rw [show (48 : Int32) = nn 48 from rfl, nn_lt nB nB]; omega) (ok_pt ?_)
          have s1 : mS M2 (fm_si M3 1 39 (nn (4 + i))) := a2.l
          have en : gn ((fm_si M3 1 39 (nn (4 + i))).1 1) = gn (M2.1 1) := by unfold gn; rw [s1.2.2 0 (by decide) (by decide)]
          have hS1 : sM (fm_si M3 1 39 (nn (4 + i))) (smp (M2.1 1) All) := by
            unfold sM
            rw [en, si_row (by decide), a4]
            have := ha.2.2
            unfold sM at this
            rw [ha.g] at this
            exact this
          refine ok_bind (md_fromS (t := gb (M2.1 1)) (L := 4 + i) hN hg hS1 lvs_2 s1.2.2 (by rw [si_col (by decide), a3]; exact hB) ⟨si_same, by omega, by omega⟩) ?_
          rintro ⟨x, M4⟩ ⟨x1, x2, x3, x4⟩
          try dsimp only at x1 x2 x3 x4 ⊢
          subst x1
          have s4 : mS M2 M4 := s1.z x3 x4 (fun k hk => by omega) (by decide)
          refine ok_st (by omega) nL (hk _ ⟨nn_succ, ⟨fun k hk => (si_row (by omega)).trans (s4.1 k hk), fun j hj => by (try dsimp only); rw [si_row (by decide)]; exact s4.2.1 j hj, fun k h1 h2 => by (try dsimp only); rw [si_row (by decide)]; exact s4.2.2 k h1 h2⟩, ?_, ?_, ?_, ?_⟩)
          · try dsimp only
            rw [si_row (by decide), x3.at1 (by decide), si_col (by decide)]; exact a3
          · try dsimp only
            rw [si_row (by decide), x3.at1 (by decide), si_row (by decide)]; exact a4
          · exact ((a5.pt (by decide)).z x3 (x4 4 (by decide)) (by decide)).pt (Or.inl (by decide))
          · intro j z1 z2
            try dsimp only
            by_cases e : j = 4 + i
            · subst e
              rw [si_same, ← hF]
            · rw [si_col e, x3.at1 (by decide), si_row (by decide)]
              exact a6 j z1 (by omega)
        · rintro ⟨w4, M3⟩ ⟨a1, a2, a3, a4, a5, a6⟩ k
          try dsimp only at a1 a2 a3 a4 a5 a6
          subst a1
          unfold pModel_settles_L45 pModel_settles_L45b
          try dsimp only
          refine ok_pos (by decide) (ok_pt ?_)
          have q5 : qM M2 l (fm_si M3 1 39 (Ma.1 1 39)) := ⟨(a2.l).q (by rw [si_col (by decide)]; exact a3) (by rw [si_same, ha.g]), a5.pt (by decide)⟩
          refine ok_for 45 (fun i t => t = nn (4 + i) ∧ ∀ j, j < 4 + i → ¬ SP F j) ?_ ?_ ⟨rfl, fun j z y => by have := y.1; omega⟩ (by omega)
          · rintro i t hi ⟨rfl, b1⟩ kk hkk
            unfold pModel_settles_L90 pModel_settles_L90b
            refine ok_neg (by rw [show (48 : Int32) = nn 48 from rfl, nn_lt nB nB]; omega) (ok_bind (md_doesSettle (F := F) hN (by omega) (by omega) (fun j z1 z2 => by rw [si_row (by decide)]; exact a6 j z1 (by omega))) ?_)
            rintro x (⟨rfl, y⟩ | ⟨rfl, y⟩)
            · exact ok_neg (by decide) (ok_some ⟨q5, Or.inl ⟨4 + i, y, b1, rfl⟩⟩)
            · refine ok_pos rfl (hkk _ ⟨nn_succ, ?_⟩)
              intro j z
              by_cases e : j = 4 + i
              · rw [e]; exact y
              · exact b1 j (by omega)
          · rintro t ⟨rfl, b1⟩ kk
            unfold pModel_settles_L90 pModel_settles_L90b
            refine ok_pos (by decide) (ok_some ⟨q5, Or.inr ⟨fun k y => ?_, rfl⟩⟩)
            exact b1 k (by have := y.2.1; omega) y
      obtain ⟨⟨r1, M1'⟩, e1, c1, c2⟩ := hcl
      obtain ⟨⟨r2, M2'⟩, e2, c3, c4⟩ := hmd
      try dsimp only at c1 c2 c3 c4
      have hrr : r1 = r2 := by
        rcases c2 with ⟨k, k1, k2, k3⟩ | ⟨k1, k2⟩
        · rcases c4 with ⟨j, j1, j2, j3⟩ | ⟨j1, j2⟩
          · have : k = j := by
              rcases Nat.lt_trichotomy k j with z | z | z
              · exact absurd k1 (j2 k z)
              · exact z
              · exact absurd j1 (k2 j z)
            rw [k3, j3, this]
          · exact absurd k1 (j1 k)
        · rcases c4 with ⟨j, j1, j2, j3⟩ | ⟨j1, j2⟩
          · exact absurd j1 (k1 j)
          · rw [k2, j2]
      subst hrr
      exact ⟨_, _, _, e1, e2, RR_q hR hq hl c1 c3⟩
    · have hc2 : ¬ (2 : Int32) ≤ nn (pop (lvs (M2.1 1))) := by rw [show (2 : Int32) = nn 2 from rfl, nn_le nB nB]; exact h2
      refine cpq hR hq hl (-2) ?_ ?_
      · unfold pMicRow_settles
        exact ok_bindE (cs_isDir ⟨b1, b2⟩) (ok_neg (by decide) (ok_bindE (cs_liveCount hN hg hr) (ok_neg hc2 (ok_some ⟨rfl, qC.same hS tC⟩))))
      · unfold pModel_settles
        exact ok_pt (ok_bindE (md_isSide ⟨b1, b2⟩) (ok_neg (by decide) (ok_bindE (ez.live hN hg) (ok_bindE (bt_countBits (by omega) h64) (ok_neg hc2 (ok_some ⟨rfl, qM.same tM⟩))))))
  · refine cpq hR hq hl (-1) ?_ ?_
    · unfold pMicRow_settles
      exact ok_bindE (cs_noDir c) (ok_pos rfl (ok_some ⟨rfl, qC.same hS tC⟩))
    · unfold pModel_settles
      exact ok_pt (ok_bindE (md_noSide c) (ok_pos rfl (ok_some ⟨rfl, qM.same tM⟩)))
