/-! ===== calls: strongest, masks, nulled, behind ===== -/
def mw (M M' : fm_M) : Prop := (∀ k, k = 1 ∨ k = 2 ∨ k = 13 ∨ k = 17 ∨ k = 18 → M'.1 k = M.1 k) ∧ ∀ j, j = 2 ∨ j = 25 → M'.1 0 j = M.1 0 j
theorem mw.rf {M : fm_M} : mw M M := ⟨fun _ _ => rfl, fun _ _ => rfl⟩
theorem mw.tr {M M' M'' : fm_M} (h : mw M M') (h' : mw M' M'') : mw M M'' := ⟨fun k hk => (h'.1 k hk).trans (h.1 k hk), fun j hj => (h'.2 j hj).trans (h.2 j hj)⟩
theorem mw.of {M M' : fm_M} (h : mq M M') : mw M M' := ⟨h.1, fun j hj => h.2 j (by omega)⟩
theorem mw.pt {M M' : fm_M} (h : mw M M') {j : Nat} {v : Int32} (hj : j ≠ 2 ∧ j ≠ 25) : mw M (fm_si M' 0 j v) := h.tr ⟨fun k hk => si_row (by omega), fun i hi => si_col (by omega)⟩
theorem mw.q {M M' : fm_M} (h : mw M M') (hm : rMod M) (h1 : M'.1 0 11 = -1) (h2 : M'.1 0 12 = 300) (h3 : M'.1 0 13 = -1) : mq M M' := by
  refine ⟨h.1, fun j hj => ?_⟩
  obtain ⟨a1, a2, a3⟩ := hm
  rcases hj with rfl | rfl | rfl | rfl | rfl
  · exact h.2 2 (by omega)
  · rw [h1, a1]
  · rw [h2, a2]
  · rw [h3, a3]
  · exact h.2 25 (by omega)
theorem mw.one {M M' : fm_M} (h : mw M M') : M'.1 1 = M.1 1 := h.1 1 (by omega)
theorem md_micPower {N : Nat} {M : fm_M} {A : Nat → Bool} {m : Nat} (hN : 4000 ≤ N) (hg : gV (M.1 1)) (hA : aM M A) (hm : m < gn (M.1 1)) : ok (pModel_micPower N M (nn m)) (fun x => x.1 = pw (fun i => smp (M.1 1) A m ((gb (M.1 1) : Int) + i)) (gl (M.1 1)) ∧ fr (fun k => k = 10) M x.2) := by
  obtain ⟨el, hl4, hl48⟩ := hg.l
  have hB := hg.b.2
  unfold pModel_micPower
  refine ok_fill 10 (gl (M.1 1)) (fun i => smp (M.1 1) A m ((gb (M.1 1) : Int) + i)) ?_ ?_ (by omega)
  · intro i M3 hi f3 h3 kk
    have e4 : M3.1 1 = M.1 1 := f3.at1 (by decide)
    have e0 : M3.1 0 = M.1 0 := f3.at1 (by decide)
    unfold pModel_micPower_L2 pModel_micPower_L2b
    try dsimp only
    rw [e4, el, if_neg (by rw [nn_le nB nB]; omega), gb_t hg]
    refine (bindE (md_sampleOf (A := A) hN (by rw [e4]; exact hg) (by unfold aM; rw [e4, e0]; exact hA) (by rw [e4]; exact hm) (by omega))).trans ?_
    rw [stE (by omega) nL, nn_succ, e4]
  · intro M3 f3 h3 kk
    have e4 : M3.1 1 = M.1 1 := f3.at1 (by decide)
    unfold pModel_micPower_L2 pModel_micPower_L2b
    try dsimp only
    refine ok_pos (by rw [e4, el, nn_le nB nB]; omega) (ok_bindE (md_powerOf hN (by rw [e4]; exact hg) 10 (by decide +kernel)) (ok_some ⟨?_, f3⟩))
    try dsimp only
    rw [e4]
    exact pw_congr h3
def sx (p : Nat → Int64) : Nat → Int32 × Int64
  | 0 => (0, -1)
  | n + 1 => if (sx p n).2 < p n then (nn n, p n) else sx p n
theorem sx_take {p : Nat → Int64} {n : Nat} (h : (sx p n).2 < p n) : sx p (n + 1) = (nn n, p n) := if_pos h
theorem sx_keep {p : Nat → Int64} {n : Nat} (h : ¬ (sx p n).2 < p n) : sx p (n + 1) = sx p n := if_neg h
def An (s : Nat) : Nat → Bool := fun s' => s' == s
def Ax (s : Nat) : Nat → Bool := fun s' => !(s' == s)
theorem lis_one : ∀ s : Fin 4, ∀ s' : Fin 4, ((jshr (jshl 1 (nn s)) (nn s')) &&& 1 = 0 ↔ An s s' = false) := by decide +kernel
theorem lis_not : ∀ s : Fin 4, ∀ s' : Fin 4, ((jshr ((jshl 1 (nn s)) ^^^ (-1)) (nn s')) &&& 1 = 0 ↔ Ax s s' = false) := by decide +kernel
theorem cs_heardPower {N : Nat} {M1 M : fm_M} {g : Nat → Int32} {A : Nat → Bool} {q m : Nat} {l : List Int64} {v : Int32} (hN : 4000 ≤ N) (hg : gV g) (hr : rS M 1 g) (hS : eS M q) (hf : fr (fun k => 176 ≤ k) M1 M) (ht : tdC M l) (hq : q < 900000000) (hm : m < gn g) (hv : ∀ s, s < gs g → ((jshr v (nn s)) &&& 1 = 0 ↔ A s = false)) : ok (pMicRow_heardPower N M (nn m) v) (fun x => x.1 = pw (fun i => smp g A m ((gb g : Int) + i)) (gl g) ∧ cH M1 g A (q + 1) l x.2) := by
  have hL := hg.l
  unfold pMicRow_heardPower
  refine ok_bind (cs_listen hg hr hS hq hv) ?_
  rintro Ma ⟨fa, ea⟩
  have ha : cH M1 g A (q + 1) l Ma := ⟨hf.tr (fa.up (fun k hk => by omega)), ht.kf fa (by decide) (by decide), ea⟩
  refine ok_bindE rfl (ok_bindE rfl (ok_bind (cs_hearT hN ha hm) ?_))
  rintro Mb ⟨hb, fb, lb, vb⟩
  refine ok_bindE (cs_powerOf (L := gl g) hN 189 (by decide +kernel) (by decide +kernel) lb (by omega)) (ok_some ⟨pw_congr vb, hb⟩)
theorem pw_ge {g : Nat → Int32} {A : Nat → Bool} {m : Nat} (hg : gV g) : (-1 : Int64) < pw (fun i => smp g A m ((gb g : Int) + i)) (gl g) := by
  have hL := hg.l
  have h1 := ns_sq (r := fun i => smp g A m ((gb g : Int) + i)) (L := gl g) (c := 9999) (fun i _ => smp_ab hg)
  have h2 : ns (fun i => sqn (smp g A m ((gb g : Int) + i))) (gl g) < 1000000000000 := by
    have : gl g * (9999 * 9999) ≤ 48 * (9999 * 9999) := Nat.mul_le_mul_right _ hL.2.2
    omega
  rw [pw_pwn (by omega) (by omega), Int64.lt_iff_toInt_lt]
  have h3 : pwn (fun i => smp g A m ((gb g : Int) + i)) (gl g) ≤ ns (fun i => sqn (smp g A m ((gb g : Int) + i))) (gl g) := Nat.div_le_self _ _
  rw [pk_lT (by omega)]
  have : (-1 : Int64).toInt = -1 := rfl
  omega
theorem x_strongest {N : Nat} (hN : 4000 ≤ N) : cp_strongest N RR := by
  intro n M1 M2 v1 hn hR
  obtain ⟨q, l, hg, hr, hS, hq, tC, tM, hl, hm⟩ := hR.opn hn
  have e1 : (fm_si M2 0 5 0).1 1 = M2.1 1 := si_row (by decide)
  obtain ⟨es, hs4⟩ := hg.s
  rcases mic_or hg hr v1 with ⟨m, hm1, rfl⟩ | ⟨c1, c2⟩
  · by_cases h0 : gs (M2.1 1) = 0
    · refine cpq hR hq hl (-2) ?_ ?_
      · unfold pMicRow_strongest
        exact ok_bindE (cs_hasMic hg hr hm1) (ok_neg (by decide) (ok_pos (by rw [hr.s, es, h0]; rfl) (ok_some ⟨rfl, qC.same hS tC⟩)))
      · unfold pModel_strongest
        exact ok_pt (ok_bindE (md_isMic (by rw [e1]; exact hg) (by rw [e1]; exact hm1)) (ok_neg (by decide) (ok_pos (by rw [e1, es, h0]; rfl) (ok_some ⟨rfl, qM.same tM⟩))))
    · generalize hpp : (fun s : Nat => pw (fun i => smp (M2.1 1) (An s) m ((gb (M2.1 1) : Int) + i)) (gl (M2.1 1))) = p
      have hpi : ∀ s, pw (fun i => smp (M2.1 1) (An s) m ((gb (M2.1 1) : Int) + i)) (gl (M2.1 1)) = p s := fun s => by rw [← hpp]
      have hne : nn (gs (M2.1 1)) ≠ 0 := nn_ne0 (by omega) (by omega)
      refine cpq (l := [(sx p (gs (M2.1 1))).2, pw (fun i => smp (M2.1 1) All m ((gb (M2.1 1) : Int) + i)) (gl (M2.1 1))]) hR hq (by simp) (sx p (gs (M2.1 1))).1 ?_ ?_
      · unfold pMicRow_strongest
        refine ok_bindE (cs_hasMic hg hr hm1) (ok_neg (by decide) (ok_neg (by rw [hr.s, es]; exact hne) ?_))
        refine ok_for (gs (M2.1 1)) (fun s t => (t.1, t.2.1) = sx p s ∧ t.2.2.1 = nn s ∧ fr (fun k => 176 ≤ k) M1 t.2.2.2 ∧ tdC t.2.2.2 l ∧ rS t.2.2.2 1 (M2.1 1) ∧ eS t.2.2.2 (q + s)) ?_ ?_ ⟨rfl, rfl, fr.rf, tC, hr, hS⟩ (by omega)
        · rintro s ⟨w2, w3, w5, M3⟩ hs ⟨a1, a2, a3, a4, a5, a6⟩ k hk
          try dsimp only at a1 a2 a3 a4 a5 a6
          subst a2
          unfold pMicRow_strongest_L35 pMicRow_strongest_L35b
          try dsimp only
          refine ok_neg (by rw [a5.s, es, nn_le nB nB]; omega) (ok_bind (cs_heardPower (A := An s) hN hg a5 a6 a3 a4 (by omega) hm1 (fun s' hs' => lis_one ⟨s, by omega⟩ ⟨s', by omega⟩)) ?_)
          rintro ⟨x, M4⟩ ⟨x1, x2⟩
          try dsimp only at x1 x2 ⊢
          rw [hpi] at x1
          subst x1
          rw [nn_succ]
          refine ok_ite (fun z => hk _ ⟨?_, rfl, x2.1, x2.2.1, x2.2.2.2.1, x2.2.2.2.2.2.1⟩) (fun z => hk _ ⟨?_, rfl, x2.1, x2.2.1, x2.2.2.2.1, x2.2.2.2.2.2.1⟩)
          · rw [cmp_le] at z
            rw [sx_keep (by rw [← a1]; exact z)]
            exact a1
          · rw [cmp_le, Classical.not_not] at z
            exact (sx_take (by rw [← a1]; exact z)).symm
        · rintro ⟨w2, w3, w5, M3⟩ ⟨a1, a2, a3, a4, a5, a6⟩ k
          try dsimp only at a1 a2 a3 a4 a5 a6
          subst a2
          unfold pMicRow_strongest_L35 pMicRow_strongest_L35b
          try dsimp only
          refine ok_pos (by rw [a5.s, es, nn_le nB nB]; omega) (ok_bind cs_clear ?_)
          rintro Mc ⟨fc, tc⟩
          refine ok_bind (cs_add tc (by simp)) ?_
          rintro Md ⟨fd, td⟩
          have fcd : fr (fun k => k = 176 ∨ k = 177) M3 Md := (fc.up (fun k hk => Or.inl hk)).tr fd
          refine ok_bind (cs_heardPower (M1 := M1) (A := All) (q := q + gs (M2.1 1)) hN hg (a5.kept (fun a z1 z2 => fcd.1 a (by omega)) hg) (by unfold eS; rw [fcd.1 178 (by decide), fcd.1 180 (by decide)]; exact a6) (a3.tr (fcd.up (fun k hk => by omega))) td (by omega) hm1 (fun s hs => lis_all s (by omega))) ?_
          rintro ⟨x, Me⟩ ⟨x1, x2⟩
          try dsimp only at x1 x2 ⊢
          subst x1
          refine ok_bind (x2.add (by simp)) ?_
          rintro Mf ⟨hf, ff⟩
          rw [← a1]
          exact ok_some ⟨rfl, hf.q (by omega)⟩
      · unfold pModel_strongest
        refine ok_pt (ok_bindE (md_isMic (by rw [e1]; exact hg) (by rw [e1]; exact hm1)) (ok_neg (by decide) (ok_neg (by rw [e1, es]; exact hne) ?_)))
        have z11 : (fm_si M2 0 5 0).1 0 11 = -1 := by rw [si_col (by decide)]; exact hm.1
        have z12 : (fm_si M2 0 5 0).1 0 12 = 300 := by rw [si_col (by decide)]; exact hm.2.1
        refine ok_for (gs (M2.1 1)) (fun s t => ((s = 0 ∧ t.2.1 = -1) ∨ (0 < s ∧ (t.1, t.2.1) = sx p s)) ∧ t.2.2.1 = nn s ∧ mw M2 t.2.2.2 ∧ tdM t.2.2.2 l ∧ t.2.2.2.1 0 11 = -1 ∧ t.2.2.2.1 0 12 = 300) ?_ ?_ ⟨Or.inl ⟨rfl, rfl⟩, rfl, mw.rf.pt (by decide), tM.pt (by decide), z11, z12⟩ (by omega)
        · rintro s ⟨w2, w3, w5, M3⟩ hs ⟨a1, a2, a3, a4, a5, a6⟩ k hk
          try dsimp only at a1 a2 a3 a4 a5 a6
          subst a2
          have e3 := a3.one
          unfold pModel_strongest_L37 pModel_strongest_L37b
          try dsimp only
          refine ok_neg (by rw [e3, es, nn_le nB nB]; omega) (ok_pt ?_)
          have ep : (fm_si M3 0 13 (nn s)).1 1 = M2.1 1 := (si_row (by decide)).trans e3
          have hA : aM (fm_si M3 0 13 (nn s)) (An s) := by
            intro s' hs'
            rw [ep] at hs' ⊢
            rw [si_col (by decide), si_same, si_col (by decide), a5, a6]
            unfold An
            rw [beq_iff_eq]
            refine ⟨fun z => ⟨?_, Or.inr (by rw [z]), Or.inl rfl⟩, fun z => ?_⟩
            · rw [nn_ii, show (-1 : Int32) = ii (-1) from rfl, ii_inj (by omega)]
              omega
            · rcases z.2.1 with z1 | z1
              · rw [nn_ii, show (-1 : Int32) = ii (-1) from rfl, ii_inj (by omega)] at z1
                omega
              · exact (nn_inj nB nB).mp z1
          refine ok_bind (md_micPower hN (by rw [ep]; exact hg) hA (by rw [ep]; exact hm1)) ?_
          rintro ⟨x, M4⟩ ⟨x1, x2⟩
          try dsimp only at x1 x2 ⊢
          rw [ep, hpi] at x1
          subst x1
          have b3 : mw M2 M4 := (a3.pt (by decide)).tr ⟨fun k hk => x2.1 k (by omega), fun j hj => by rw [x2.at1 (by decide)]⟩
          have b4 : tdM M4 l := (a4.pt (by decide)).kf x2 (by decide) (by decide)
          have b5 : M4.1 0 11 = -1 := by rw [x2.at1 (by decide), si_col (by decide)]; exact a5
          have b6 : M4.1 0 12 = 300 := by rw [x2.at1 (by decide), si_col (by decide)]; exact a6
          rw [nn_succ]
          rcases a1 with ⟨s0, c1⟩ | ⟨s0, c1⟩
          · subst s0
            have hp0 : (-1 : Int64) < p 0 := by rw [← hpi]; exact pw_ge hg
            refine ok_pos (by rw [cmp_gt, c1]; exact hp0) (hk _ ⟨Or.inr ⟨by omega, ?_⟩, rfl, b3, b4, b5, b6⟩)
            exact (sx_take (p := p) (n := 0) hp0).symm
          · refine ok_ite (fun z => hk _ ⟨Or.inr ⟨by omega, ?_⟩, rfl, b3, b4, b5, b6⟩) (fun z => hk _ ⟨Or.inr ⟨by omega, ?_⟩, rfl, b3, b4, b5, b6⟩)
            · rw [cmp_gt] at z
              exact (sx_take (by rw [← c1]; exact z)).symm
            · rw [cmp_gt] at z
              rw [sx_keep (by rw [← c1]; exact z)]
              exact c1
        · rintro ⟨w2, w3, w5, M3⟩ ⟨a1, a2, a3, a4, a5, a6⟩ k
          try dsimp only at a1 a2 a3 a4 a5 a6
          subst a2
          have e3 := a3.one
          unfold pModel_strongest_L37 pModel_strongest_L37b
          try dsimp only
          refine ok_pos (by rw [e3, es, nn_le nB nB]; omega) (ok_pt (ok_pt ?_))
          have b3 : mq M2 (fm_si (fm_si M3 0 13 (-1)) 0 4 0) := ((a3.pt (by decide)).pt (by decide)).q hm (by rw [si_col (by decide), si_col (by decide)]; exact a5) (by rw [si_col (by decide), si_col (by decide)]; exact a6) (by rw [si_col (by decide), si_same])
          refine ok_bind (md_tell tdM.clear (by simp)) ?_
          rintro Mc ⟨fc, zc, tc⟩
          have hc : mq M2 Mc := b3.z fc zc (fun k hk => by omega) (by decide)
          have hmc : rMod Mc := by
            unfold rMod
            rw [hc.2 11 (by omega), hc.2 12 (by omega), hc.2 13 (by omega)]
            exact hm
          refine ok_bind (md_micPower (A := All) hN (by rw [hc.one]; exact hg) (aM_all (by rw [hc.one]; exact hg) hmc) (by rw [hc.one]; exact hm1)) ?_
          rintro ⟨x, Md⟩ ⟨x1, x2⟩
          try dsimp only at x1 x2 ⊢
          rw [hc.one] at x1
          subst x1
          refine ok_bind (md_tell (tc.kf x2 (by decide) (by decide)) (by simp)) ?_
          rintro Me ⟨fe, ze, te⟩
          rcases a1 with ⟨s0, c1⟩ | ⟨s0, c1⟩
          · omega
          · rw [← c1]
            exact ok_some ⟨rfl, (hc.kf x2 (fun k hk => by omega)).z fe ze (fun k hk => by omega) (by decide), te⟩
  · refine cpq hR hq hl (-1) ?_ ?_
    · unfold pMicRow_strongest
      exact ok_bindE c1 (ok_pos rfl (ok_some ⟨rfl, qC.same hS tC⟩))
    · unfold pModel_strongest
      exact ok_pt (ok_bindE (c2 _ e1) (ok_pos rfl (ok_some ⟨rfl, qM.same tM⟩)))
theorem x_masks {N : Nat} (hN : 4000 ≤ N) : cp_masks N RR := by
  intro n M1 M2 v1 hn hR
  obtain ⟨q, l, hg, hr, hS, hq, tC, tM, hl, hm⟩ := hR.opn hn
  have e1 : (fm_si M2 0 5 0).1 1 = M2.1 1 := si_row (by decide)
  obtain ⟨es, hs4⟩ := hg.s
  rcases rng v1 (-8) 8 (by decide) with ⟨b, rfl, b1, b2⟩ | c
  · by_cases h0 : gs (M2.1 1) = 0
    · refine cpq hR hq hl (-2) ?_ ?_
      · unfold pMicRow_masks
        exact ok_bindE (cs_isDir ⟨b1, b2⟩) (ok_neg (by decide) (ok_pos (by rw [hr.s, es, h0]; rfl) (ok_some ⟨rfl, qC.same hS tC⟩)))
      · unfold pModel_masks
        exact ok_pt (ok_bindE (md_isSide ⟨b1, b2⟩) (ok_neg (by decide) (ok_pos (by rw [e1, es, h0]; rfl) (ok_some ⟨rfl, qM.same tM⟩))))
    · generalize hpp : (fun s : Nat => pw (BM (M2.1 1) (smp (M2.1 1) (Ax s)) (lvs (M2.1 1)) b) (gl (M2.1 1))) = p
      have hpi : ∀ s, pw (BM (M2.1 1) (smp (M2.1 1) (Ax s)) (lvs (M2.1 1)) b) (gl (M2.1 1)) = p s := fun s => by rw [← hpp]
      have hne : nn (gs (M2.1 1)) ≠ 0 := nn_ne0 (by omega) (by omega)
      refine cpq (l := [(wl p All nn (gs (M2.1 1))).2]) hR hq (by simp) (wl p All nn (gs (M2.1 1))).1 ?_ ?_
      · unfold pMicRow_masks
        refine ok_bindE (cs_isDir ⟨b1, b2⟩) (ok_neg (by decide) (ok_neg (by rw [hr.s, es]; exact hne) ?_))
        refine ok_for (gs (M2.1 1)) (fun s t => (t.1, t.2.1) = wl p All nn s ∧ t.2.2.1 = nn s ∧ fr (fun k => 176 ≤ k) M1 t.2.2.2 ∧ tdC t.2.2.2 l ∧ rS t.2.2.2 1 (M2.1 1) ∧ eS t.2.2.2 (q + s)) ?_ ?_ ⟨rfl, rfl, fr.rf, tC, hr, hS⟩ (by omega)
        · rintro s ⟨w2, w3, w5, M3⟩ hs ⟨a1, a2, a3, a4, a5, a6⟩ k hk
          try dsimp only at a1 a2 a3 a4 a5 a6
          subst a2
          unfold pMicRow_masks_L29 pMicRow_masks_L29b
          try dsimp only
          refine ok_neg (by rw [a5.s, es, nn_le nB nB]; omega) (ok_bind (cs_listen (A := Ax s) hg a5 a6 (by omega) (fun s' hs' => lis_not ⟨s, by omega⟩ ⟨s', by omega⟩)) ?_)
          rintro Ma ⟨fa, ea⟩
          have ha : cH M1 (M2.1 1) (Ax s) (q + s + 1) l Ma := ⟨a3.tr (fa.up (fun k hk => by omega)), a4.kf fa (by decide) (by decide), ea⟩
          refine ok_bind (cs_beamPower hN ha ⟨b1, b2⟩) ?_
          rintro ⟨x, M4⟩ ⟨x1, x2⟩
          try dsimp only at x1 x2 ⊢
          rw [hpi] at x1
          subst x1
          rw [nn_succ]
          refine ok_ite (fun z => hk _ ⟨?_, rfl, x2.1, x2.2.1, x2.2.2.2.1, x2.2.2.2.2.2.1⟩) (fun z => ok_ite (fun z2 => hk _ ⟨?_, rfl, x2.1, x2.2.1, x2.2.2.2.1, x2.2.2.2.2.2.1⟩) (fun z2 => hk _ ⟨?_, rfl, x2.1, x2.2.1, x2.2.2.2.1, x2.2.2.2.2.2.1⟩))
          · exact (wl_take rfl (Or.inl (by rw [← a1]; exact z))).symm
          · rw [cmp_ge] at z2
            rw [wl_keep rfl (by rw [← a1]; exact z) (by rw [← a1]; exact z2)]
            exact a1
          · rw [cmp_ge, Classical.not_not] at z2
            exact (wl_take rfl (Or.inr (by rw [← a1]; exact z2))).symm
        · rintro ⟨w2, w3, w5, M3⟩ ⟨a1, a2, a3, a4, a5, a6⟩ k
          try dsimp only at a1 a2 a3 a4 a5 a6
          subst a2
          unfold pMicRow_masks_L29 pMicRow_masks_L29b
          try dsimp only
          refine ok_pos (by rw [a5.s, es, nn_le nB nB]; omega) (ok_bind cs_clear ?_)
          rintro Mc ⟨fc, tc⟩
          refine ok_bind (cs_add tc (by simp)) ?_
          rintro Md ⟨fd, td⟩
          have fcd : fr (fun k => k = 176 ∨ k = 177) M3 Md := (fc.up (fun k hk => Or.inl hk)).tr fd
          rw [← a1]
          exact ok_some ⟨rfl, a3.tr (fcd.up (fun k hk => by omega)), td, q + gs (M2.1 1), by unfold eS; rw [fcd.1 178 (by decide), fcd.1 180 (by decide)]; exact a6, by omega⟩
      · unfold pModel_masks
        refine ok_pt (ok_bindE (md_isSide ⟨b1, b2⟩) (ok_neg (by decide) (ok_neg (by rw [e1, es]; exact hne) ?_)))
        have z13 : (fm_si M2 0 5 0).1 0 13 = -1 := by rw [si_col (by decide)]; exact hm.2.2
        have z12 : (fm_si M2 0 5 0).1 0 12 = 300 := by rw [si_col (by decide)]; exact hm.2.1
        refine ok_for (gs (M2.1 1)) (fun s t => (t.1, t.2.1) = wl p All nn s ∧ t.2.2.1 = nn s ∧ mw M2 t.2.2.2 ∧ tdM t.2.2.2 l ∧ t.2.2.2.1 0 13 = -1 ∧ t.2.2.2.1 0 12 = 300) ?_ ?_ ⟨rfl, rfl, mw.rf.pt (by decide), tM.pt (by decide), z13, z12⟩ (by omega)
        · rintro s ⟨w2, w3, w5, M3⟩ hs ⟨a1, a2, a3, a4, a5, a6⟩ k hk
          try dsimp only at a1 a2 a3 a4 a5 a6
          subst a2
          have e3 := a3.one
          unfold pModel_masks_L34 pModel_masks_L34b
          try dsimp only
          refine ok_neg (by rw [e3, es, nn_le nB nB]; omega) (ok_pt ?_)
          have ep : (fm_si M3 0 11 (nn s)).1 1 = M2.1 1 := (si_row (by decide)).trans e3
          have hA : aM (fm_si M3 0 11 (nn s)) (Ax s) := by
            intro s' hs'
            rw [ep] at hs' ⊢
            rw [si_same, si_col (i := 13) (by decide), si_col (i := 12) (by decide), a5, a6]
            unfold Ax
            rw [Bool.not_eq_true', beq_eq_false_iff_ne]
            refine ⟨fun z => ⟨?_, Or.inl rfl, Or.inl rfl⟩, fun z z1 => z.1 (by rw [z1])⟩
            rw [nn_inj nB nB]
            exact z
          refine ok_bind (md_begin (M2 := fm_si M3 0 11 (nn s)) hN (by rw [ep]; exact hg) mq.rf hA (a4.pt (by decide))) ?_
          rintro Ma ⟨ha, fa⟩
          have hgp : gV ((fm_si M3 0 11 (nn s)).1 1) := by rw [ep]; exact hg
          refine ok_bindE (ha.live hN hgp) (ok_bind (md_beamPower hN hgp ha lvs_2 ⟨b1, b2⟩) ?_)
          rintro ⟨x, M4⟩ ⟨x1, x2, x3⟩
          try dsimp only at x1 x2 x3 ⊢
          rw [ep, hpi] at x1
          subst x1
          have b3 : mw M2 M4 := (a3.pt (by decide)).tr (mw.of x2.1)
          have b5 : M4.1 0 13 = -1 := by rw [x2.1.2 13 (by omega), si_col (by decide)]; exact a5
          have b6 : M4.1 0 12 = 300 := by rw [x2.1.2 12 (by omega), si_col (by decide)]; exact a6
          rw [nn_succ]
          refine ok_ite (fun z => hk _ ⟨?_, rfl, b3, x2.2.1, b5, b6⟩) (fun z => ok_ite (fun z2 => hk _ ⟨?_, rfl, b3, x2.2.1, b5, b6⟩) (fun z2 => hk _ ⟨?_, rfl, b3, x2.2.1, b5, b6⟩))
          · exact (wl_take rfl (Or.inl (by rw [← a1]; exact z))).symm
          · rw [cmp_lt] at z2
            exact (wl_take rfl (Or.inr (by rw [← a1]; exact z2))).symm
          · rw [cmp_lt] at z2
            rw [wl_keep rfl (by rw [← a1]; exact z) (by rw [← a1]; exact z2)]
            exact a1
        · rintro ⟨w2, w3, w5, M3⟩ ⟨a1, a2, a3, a4, a5, a6⟩ k
          try dsimp only at a1 a2 a3 a4 a5 a6
          subst a2
          have e3 := a3.one
          unfold pModel_masks_L34 pModel_masks_L34b
          try dsimp only
          refine ok_pos (by rw [e3, es, nn_le nB nB]; omega) (ok_pt (ok_pt ?_))
          have b3 : mq M2 (fm_si (fm_si M3 0 11 (-1)) 0 4 0) := ((a3.pt (by decide)).pt (by decide)).q hm (by rw [si_col (by decide), si_same]) (by rw [si_col (by decide), si_col (by decide)]; exact a6) (by rw [si_col (by decide), si_col (by decide)]; exact a5)
          refine ok_bind (md_tell tdM.clear (by simp)) ?_
          rintro Mc ⟨fc, zc, tc⟩
          rw [← a1]
          exact ok_some ⟨rfl, b3.z fc zc (fun k hk => by omega) (by decide), tc⟩
  · refine cpq hR hq hl (-1) ?_ ?_
    · unfold pMicRow_masks
      exact ok_bindE (cs_noDir c) (ok_pos rfl (ok_some ⟨rfl, qC.same hS tC⟩))
    · unfold pModel_masks
      exact ok_pt (ok_bindE (md_noSide c) (ok_pos rfl (ok_some ⟨rfl, qM.same tM⟩)))
