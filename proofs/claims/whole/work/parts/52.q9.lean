/-! ===== calls: later, doubtful, tracks ===== -/
def mS (M M' : fm_M) : Prop := (∀ k, k = 2 ∨ k = 13 ∨ k = 17 ∨ k = 18 → M'.1 k = M.1 k) ∧ (∀ j, j = 2 ∨ j = 11 ∨ j = 12 ∨ j = 13 ∨ j = 25 → M'.1 0 j = M.1 0 j) ∧ ∀ k, k ≠ 38 → k ≠ 39 → M'.1 1 k = M.1 1 k
theorem mS.of {M M' : fm_M} (h : mq M M') : mS M M' := ⟨fun k hk => h.1 k (by omega), h.2, fun k _ _ => by rw [h.one]⟩
theorem mS.b {M M' : fm_M} (h : mS M M') {v : Int32} : mS M (fm_si M' 1 38 v) := ⟨fun k hk => (si_row (by omega)).trans (h.1 k hk), fun j hj => by rw [si_row (by decide)]; exact h.2.1 j hj, fun k h1 h2 => (si_col h1).trans (h.2.2 k h1 h2)⟩
theorem mS.l {M M' : fm_M} (h : mS M M') {v : Int32} : mS M (fm_si M' 1 39 v) := ⟨fun k hk => (si_row (by omega)).trans (h.1 k hk), fun j hj => by rw [si_row (by decide)]; exact h.2.1 j hj, fun k h1 h2 => (si_col h2).trans (h.2.2 k h1 h2)⟩
theorem mS.z {P : Nat → Prop} {M M' M'' : fm_M} {c : Nat} (h : mS M M') (hf : fr P M' M'') (hz : ∀ j, j ≠ c → M''.1 0 j = M'.1 0 j) (hP : ∀ k, k = 1 ∨ k = 2 ∨ k = 13 ∨ k = 17 ∨ k = 18 → ¬ P k) (hc : c ≠ 2 ∧ c ≠ 11 ∧ c ≠ 12 ∧ c ≠ 13 ∧ c ≠ 25) : mS M M'' := ⟨fun k hk => (hf.1 k (hP k (by omega))).trans (h.1 k hk), fun j hj => (hz j (by omega)).trans (h.2.1 j hj), fun k h1 h2 => by rw [hf.1 1 (hP 1 (by omega))]; exact h.2.2 k h1 h2⟩
theorem mS.q {M M' : fm_M} (h : mS M M') (h1 : M'.1 1 38 = M.1 1 38) (h2 : M'.1 1 39 = M.1 1 39) : mq M M' := by
  refine ⟨fun k hk => ?_, h.2.1⟩
  by_cases e : k = 1
  · subst e
    funext i
    by_cases e1 : i = 38
    · rw [e1]; exact h1
    · by_cases e2 : i = 39
      · rw [e2]; exact h2
      · exact h.2.2 i e1 e2
  · exact h.1 k (by omega)
theorem x_later {N : Nat} (hN : 4000 ≤ N) : cp_later N RR := by
  intro n M1 M2 v1 hn hR
  obtain ⟨q, l, hg, hr, hS, hq, tC, tM, hl, hm⟩ := hR.opn hn
  have ez : mq M2 (fm_si M2 0 5 0) := mq.rf.pt (by decide)
  have h64 := lvs_lt hg
  have hp := pop_le h64
  have hL := hg.l
  rcases rng v1 0 200 (by decide) with ⟨b', rfl, b1, b2⟩ | c
  · obtain ⟨t, rfl⟩ : ∃ t : Nat, b' = (t : Int) := ⟨b'.toNat, by omega⟩
    by_cases h2 : 2 ≤ pop (lvs (M2.1 1))
    · have hc2 : (2 : Int32) ≤ nn (pop (lvs (M2.1 1))) := by rw [show (2 : Int32) = nn 2 from rfl, nn_le nB nB]; exact h2
      refine cpq (l := [(nn (PP (M2.1 1) (smp (M2.1 1) All) (lvs (M2.1 1)) (t : Int) (gl (M2.1 1)) (FX (M2.1 1) (smp (M2.1 1) All) (lvs (M2.1 1)) (t : Int) (gl (M2.1 1))))).toInt64]) hR hq (by simp) (bs (FX (M2.1 1) (smp (M2.1 1) All) (lvs (M2.1 1)) (t : Int) (gl (M2.1 1))) + 8) ?_ ?_
      · unfold pMicRow_later
        refine ok_bindE (wi_pos (rng_in ⟨b1, b2⟩ (by decide))) (ok_neg (by decide) (ok_bindE (cs_liveCount hN hg hr) (ok_pos hc2 (ok_bind (cH.begin hg hr hS (by omega) tC) ?_))))
        rintro Ma ⟨ha, fa⟩
        refine ok_bindE rfl (ok_bindE (cs_live hN hg ha.2.2.2.1) ?_)
        rw [(cs_begl hg ha.2.2.2.1).2]
        refine ok_bind (cs_find hN ha (by omega) (by omega) lvs_2) ?_
        rintro ⟨x, Mb⟩ ⟨x1, hb, tb⟩
        try dsimp only at x1 hb tb ⊢
        subst x1
        refine ok_bind hb.clear ?_
        rintro Mc ⟨hc, fc⟩
        have tc : totS Mc (M2.1 1) (smp (M2.1 1) All) (lvs (M2.1 1)) (t : Int) (gl (M2.1 1)) := by unfold totS; rw [fc.at1 (by decide)]; exact tb
        refine ok_bindE tc.ag (ok_bind (hc.add (by simp)) ?_)
        rintro Md ⟨hd, fd⟩
        exact ok_some ⟨rfl, hd.q (by omega)⟩
      · unfold pModel_later
        refine ok_pt (ok_bindE (in_pos (rng_in ⟨b1, b2⟩ (by decide))) (ok_neg (by decide) (ok_bindE (ez.live hN hg) (ok_bindE (bt_countBits (by omega) h64) (ok_pos hc2 (ok_bind (md_begin0 hN hg hm tM) ?_))))))
        rintro Ma ⟨ha, za⟩
        refine ok_pt ?_
        have s1 : mS M2 (fm_si Ma 1 38 (ii (t : Int))) := (mS.of ha.1).b
        have hS1 : sM (fm_si Ma 1 38 (ii (t : Int))) (smp (M2.1 1) All) := by
          unfold sM gn
          rw [si_col (by decide), si_row (by decide)]
          exact ha.2.2
        refine ok_bind (md_fromS (t := t) hN hg hS1 lvs_2 s1.2.2 ⟨by rw [si_same, nn_ii], by omega⟩ (by rw [si_col (by decide), ha.g]; exact hL)) ?_
        rintro ⟨x, Mb⟩ ⟨x1, x2, x3, x4⟩
        try dsimp only at x1 x2 x3 x4 ⊢
        subst x1
        refine ok_pt (ok_pt ?_)
        have s2 : mS M2 (fm_si Mb 1 38 (Ma.1 1 38)) := (s1.z x3 x4 (fun k hk => by omega) (by decide)).b
        have q2 : mq M2 (fm_si Mb 1 38 (Ma.1 1 38)) := s2.q (by rw [si_same, ha.g]) (by rw [si_col (by decide), x3.at1 (by decide), si_col (by decide), ha.g])
        refine ok_bind (md_tell tdM.clear (by simp)) ?_
        rintro Mc ⟨fc, zc, tc⟩
        rw [si_col (by decide), si_row (by decide), x2] at tc
        exact ok_some ⟨Int32.add_comm _ _, (q2.pt (by decide)).z fc zc (fun k hk => by omega) (by decide), tc⟩
    · have hc2 : ¬ (2 : Int32) ≤ nn (pop (lvs (M2.1 1))) := by rw [show (2 : Int32) = nn 2 from rfl, nn_le nB nB]; exact h2
      refine cpq hR hq hl (-2) ?_ ?_
      · unfold pMicRow_later
        exact ok_bindE (wi_pos (rng_in ⟨b1, b2⟩ (by decide))) (ok_neg (by decide) (ok_bindE (cs_liveCount hN hg hr) (ok_neg hc2 (ok_some ⟨rfl, qC.same hS tC⟩))))
      · unfold pModel_later
        exact ok_pt (ok_bindE (in_pos (rng_in ⟨b1, b2⟩ (by decide))) (ok_neg (by decide) (ok_bindE (ez.live hN hg) (ok_bindE (bt_countBits (by omega) h64) (ok_neg hc2 (ok_some ⟨rfl, qM.same tM⟩))))))
  · refine cpq hR hq hl (-1) ?_ ?_
    · unfold pMicRow_later
      exact ok_bindE (wi_neg c) (ok_pos rfl (ok_some ⟨rfl, qC.same hS tC⟩))
    · unfold pModel_later
      exact ok_pt (ok_bindE (in_neg c) (ok_pos rfl (ok_some ⟨rfl, qM.same tM⟩)))
/-! doubtful -/
theorem md_layAgree {N : Nat} {M2 M : fm_M} {l : List Int64} {s : Nat} (hN : 4000 ≤ N) (hg : gV (M2.1 1)) (h : mH M2 All l M) (hs : s < 2 ^ gn (M2.1 1)) : ok (pModel_layAgree N M (nn s)) (fun M' => mH M2 All l M' ∧ ∀ d, d < 17 → M'.1 11 d = nn (AG (M2.1 1) (smp (M2.1 1) All) s (-8 + (d : Int)) (gb (M2.1 1) : Int) (gl (M2.1 1)))) := by
  obtain ⟨en, hn6⟩ := hg.n
  have h64 := set_64 hs hn6
  unfold pModel_layAgree
  refine ok_for 17 (fun d t => t.1 = ii (-8 + (d : Int)) ∧ mH M2 All l t.2 ∧ ∀ d', d' < d → t.2.1 11 d' = nn (AG (M2.1 1) (smp (M2.1 1) All) s (-8 + (d' : Int)) (gb (M2.1 1) : Int) (gl (M2.1 1)))) ?_ ?_ ⟨rfl, h, fun d' z => absurd z (Nat.not_lt_zero _)⟩ (by omega)
  · rintro d ⟨v, M3⟩ hd ⟨a1, a2, a3⟩ k hk
    try dsimp only at a1 a2 a3
    subst a1
    have e1 := a2.g
    unfold pModel_layAgree_L3 pModel_layAgree_L3b
    try dsimp only
    refine ok_neg (by rw [show (8 : Int32) = ii 8 from rfl, ii_lt (by omega)]; omega) ?_
    generalize hpa : pa (M2.1 1) (smp (M2.1 1) All) s (-8 + (d : Int)) (gb (M2.1 1) : Int) (gl (M2.1 1)) = p
    refine ok_for (gn (M2.1 1)) (fun one t => t = (nn (ns (fun one => ns (fun k => p one (one + 1 + k)) (gn (M2.1 1) - 1 - one)) one), nn one)) ?_ ?_ rfl (by omega)
    · rintro one t ho rfl k2 hk2
      unfold pModel_layAgree_L14 pModel_layAgree_L14b
      try dsimp only
      refine ok_neg (by rw [e1, en, nn_le nB nB]; omega) ?_
      rw [nn_succ]
      refine ok_for (gn (M2.1 1) - 1 - one) (fun c t => t = (nn (ns (fun one => ns (fun k => p one (one + 1 + k)) (gn (M2.1 1) - 1 - one)) one + ns (fun k => p one (one + 1 + k)) c), nn (one + 1 + c))) ?_ ?_ rfl (by omega)
      · rintro c t hc rfl k3 hk3
        unfold pModel_layAgree_L31 pModel_layAgree_L31b
        try dsimp only
        refine ok_neg (by rw [e1, en, nn_le nB nB]; omega) (ok_bindE (md_has h64 (by omega)) ?_)
        have hz : p one (one + 1 + c) = 0 → ok (k3 (nn (ns (fun one => ns (fun k => p one (one + 1 + k)) (gn (M2.1 1) - 1 - one)) one + ns (fun k => p one (one + 1 + k)) c) + 0, nn (one + 1 + c) + 1)) (fun M' => mH M2 All l M' ∧ ∀ d, d < 17 → M'.1 11 d = nn (AG (M2.1 1) (smp (M2.1 1) All) s (-8 + (d : Int)) (gb (M2.1 1) : Int) (gl (M2.1 1)))) := by
          intro z
          rw [Int32.add_zero, nn_succ]
          refine hk3 _ ?_
          show (_, _) = (nn (_ + (ns _ c + p one (one + 1 + c))), _)
          rw [z, Nat.add_zero]
          rfl
        cases hb1 : s.testBit one
        · exact ok_pos rfl (hz (by rw [← hpa]; unfold pa; rw [hb1]; rfl))
        · refine ok_neg (by decide) (ok_bindE (md_has h64 (by omega)) ?_)
          cases hb2 : s.testBit (one + 1 + c)
          · exact ok_pos rfl (hz (by rw [← hpa]; unfold pa; rw [hb1, hb2]; rfl))
          · refine ok_neg (by decide) ?_
            have hpr := md_pairs (b := -8 + (d : Int)) hN (by rw [e1]; exact hg) a2.2.2 (by rw [e1]; exact hs) (by omega) one (one + 1 + c) (by rw [e1]; exact ho) (by rw [e1]; omega) hb1 hb2
            rw [e1, hpa] at hpr
            refine ok_bindE hpr ?_
            rw [nn_add, nn_succ]
            exact hk3 _ (by rw [Nat.add_assoc]; rfl)
      · rintro t rfl k3
        unfold pModel_layAgree_L31 pModel_layAgree_L31b
        try dsimp only
        refine ok_pos (by rw [e1, en, nn_le nB nB]; omega) ?_
        rw [nn_succ]
        exact hk2 _ rfl
    · rintro t rfl k2
      have hsum : ns (fun one => ns (fun k => p one (one + 1 + k)) (gn (M2.1 1) - 1 - one)) (gn (M2.1 1)) = AG (M2.1 1) (smp (M2.1 1) All) s (-8 + (d : Int)) (gb (M2.1 1) : Int) (gl (M2.1 1)) := by
        rw [← ds_AG hs hn6, hpa]
        rfl
      rw [hsum]
      have e8 : 8 + ii (-8 + (d : Int)) = nn d := by
        rw [show (8 : Int32) = ii 8 from rfl, ii_add, nn_ii]
        congr 1
        omega
      unfold pModel_layAgree_L14 pModel_layAgree_L14b
      try dsimp only
      refine ok_pos (by rw [e1, en, nn_le nB nB]; omega) ?_
      rw [e8]
      refine ok_st hd nL (hk _ ⟨?_, a2.kf (P := fun k => k = 11) (fr.si rfl) (fun k hk => by omega), ?_⟩)
      · show ii _ + ii 1 = _
        rw [ii_add]
        congr 1
        omega
      · intro d' z
        try dsimp only
        by_cases e : d' = d
        · subst e; rw [si_same]
        · rw [si_col e]; exact a3 d' (by omega)
  · rintro ⟨v, M3⟩ ⟨a1, a2, a3⟩ k
    try dsimp only at a1 a2 a3
    subst a1
    unfold pModel_layAgree_L3 pModel_layAgree_L3b
    try dsimp only
    exact ok_pos (by decide) (ok_some ⟨a2, a3⟩)
def tl (Q : Nat → Nat) (m : Nat) : Nat → List Int64
  | 0 => []
  | d + 1 => if Q d = m then tl Q m d ++ [(nn d).toInt64] else tl Q m d
theorem tl_le {Q : Nat → Nat} {m : Nat} : ∀ d, (tl Q m d).length ≤ d
  | 0 => Nat.le_refl _
  | d + 1 => by
    have := tl_le (Q := Q) (m := m) d
    unfold tl
    split
    · rw [List.length_append, List.length_singleton]; omega
    · omega
theorem st_onto : ∀ k : Fin 17, ∃ n : Fin 17, bdx n = k.val := by decide +kernel
theorem jm_nn {a b : Nat} (ha : a < 1000000) (hb : b < 1000000) : jmax (nn a) (nn b) = nn (max a b) := by
  show (if nn a < nn b then nn b else nn a) = _
  by_cases h : a < b
  · rw [if_pos ((nn_lt nB nB).mpr h), Nat.max_eq_right (by omega)]
  · rw [if_neg (fun z => h ((nn_lt nB nB).mp z)), Nat.max_eq_left (by omega)]
theorem x_doubtful {N : Nat} (hN : 4000 ≤ N) : cp_doubtful N RR := by
  intro n M1 M2 hn hR
  obtain ⟨q, l, hg, hr, hS, hq, tC, tM, hl, hm⟩ := hR.opn hn
  have ez : mq M2 (fm_si M2 0 5 0) := mq.rf.pt (by decide)
  have h64 := lvs_lt hg
  have hp := pop_le h64
  have hL := hg.l
  have hB := hg.b
  by_cases h2 : 2 ≤ pop (lvs (M2.1 1))
  · have hc2 : (2 : Int32) ≤ nn (pop (lvs (M2.1 1))) := by rw [show (2 : Int32) = nn 2 from rfl, nn_le nB nB]; exact h2
    generalize hQQ : (fun d : Nat => AG (M2.1 1) (smp (M2.1 1) All) (lvs (M2.1 1)) (-8 + (d : Int)) (gb (M2.1 1) : Int) (gl (M2.1 1))) = Q
    have hQ : ∀ d : Nat, AG (M2.1 1) (smp (M2.1 1) All) (lvs (M2.1 1)) (-8 + (d : Int)) (gb (M2.1 1) : Int) (gl (M2.1 1)) = Q d := fun d => by rw [← hQQ]
    have hQb : ∀ d, Q d ≤ 2160 := fun d => by rw [← hQ]; exact AG_le (by omega)
    generalize hFX : FX (M2.1 1) (smp (M2.1 1) All) (lvs (M2.1 1)) (gb (M2.1 1) : Int) (gl (M2.1 1)) = F
    generalize hmm : PP (M2.1 1) (smp (M2.1 1) All) (lvs (M2.1 1)) (gb (M2.1 1) : Int) (gl (M2.1 1)) F = m
    have hPQ : ∀ k, k < 17 → PP (M2.1 1) (smp (M2.1 1) All) (lvs (M2.1 1)) (gb (M2.1 1) : Int) (gl (M2.1 1)) k = Q (bdx k) := by
      intro k hk
      rw [← hQ, (bdx_b hk).1]
      rfl
    have hF17 : F < 17 := by rw [← hFX]; exact Nat.lt_succ_of_le (mx_le _ 16)
    have hmb : m ≤ 2160 := by rw [← hmm, hPQ F hF17]; exact hQb _
    have hup : ∀ d, d < 17 → Q d ≤ m := by
      intro d hd
      obtain ⟨k, ek⟩ := st_onto ⟨d, hd⟩
      have e : Q d = Q (bdx k) := by rw [ek]
      rw [e, ← hPQ k k.isLt, ← hmm, ← hFX]
      exact mx_top _ 16 k.val (by have := k.isLt; omega)
    refine cpq (l := tl Q m 17) hR hq (tl_le 17) (nn (tl Q m 17).length) ?_ ?_
    · unfold pMicRow_doubtful
      refine ok_bindE (cs_liveCount hN hg hr) (ok_pos hc2 (ok_bind (cH.begin hg hr hS (by omega) tC) ?_))
      rintro Ma ⟨ha, fa⟩
      refine ok_bindE rfl (ok_bindE rfl (ok_bindE (cs_live hN hg ha.2.2.2.1) ?_))
      rw [(cs_begl hg ha.2.2.2.1).1, (cs_begl hg ha.2.2.2.1).2]
      refine ok_bind (cs_find hN ha (by omega) (by omega) lvs_2) ?_
      rintro ⟨x, Mb⟩ ⟨x1, hb, tb⟩
      try dsimp only at x1 hb tb ⊢
      subst x1
      have hag := tb.ag
      rw [hFX, hmm] at hag
      rw [hFX]
      refine ok_bindE hag (ok_bind hb.clear ?_)
      rintro Mc ⟨hc, fc⟩
      refine ok_for 17 (fun d t => t.1 = nn (tl Q m d).length ∧ t.2.1 = ii (-8 + (d : Int)) ∧ cH M1 (M2.1 1) All (q + 1) (tl Q m d) t.2.2 ∧ t.2.2.1 219 = Mb.1 219) ?_ ?_ ⟨rfl, rfl, by exact hc, fc.at1 (by decide)⟩ (by omega)
      · rintro d ⟨w2, w3, M3⟩ hd ⟨a1, a2, a3, a4⟩ k hk
        try dsimp only at a1 a2 a3 a4
        subst a1
        subst a2
        have hqd := hQb d
        have hag2 : pCompass_agreement M3 (ii (-8 + (d : Int))) = some (nn (Q d)) := by
          unfold pCompass_agreement
          refine (bindE (cs_isDir (by omega))).trans ?_
          rw [if_neg (by decide), show ii (-8 + (d : Int)) + 8 = nn d by rw [show (8 : Int32) = ii 8 from rfl, ii_add, nn_ii]; congr 1; omega, ldE hd nL, a4, tb d hd, hQ]
        have e8 : ii (-8 + (d : Int)) + 1 = ii (-8 + ((d + 1 : Nat) : Int)) := by
          rw [show (1 : Int32) = ii 1 from rfl, ii_add]
          congr 1
          omega
        have tll := tl_le (Q := Q) (m := m) d
        unfold pMicRow_doubtful_L70 pMicRow_doubtful_L70b
        try dsimp only
        refine ok_neg (by rw [show (8 : Int32) = ii 8 from rfl, ii_lt (by omega)]; omega) (ok_bindE hag2 ?_)
        rw [e8]
        have et : tl Q m (d + 1) = if Q d = m then tl Q m d ++ [(nn d).toInt64] else tl Q m d := rfl
        by_cases z : Q d = m
        · rw [if_pos z] at et
          refine ok_pos (by rw [z]) ?_
          rw [show ii (-8 + (d : Int)) + 8 = nn d by rw [show (8 : Int32) = ii 8 from rfl, ii_add, nn_ii]; congr 1; omega]
          refine ok_bind (a3.add (by omega)) ?_
          rintro M4 ⟨h4, f4⟩
          refine hk _ ⟨?_, rfl, ?_, ?_⟩
          · try dsimp only
            rw [et, List.length_append, List.length_singleton, nn_succ]
          · try dsimp only
            rw [et]; exact h4
          · exact (f4.at1 (by decide)).trans a4
        · rw [if_neg z] at et
          refine ok_neg (by rw [nn_inj nB nB]; exact z) (hk _ ⟨?_, rfl, ?_, a4⟩)
          · try dsimp only
            rw [et]
          · try dsimp only
            rw [et]; exact a3
      · rintro ⟨w2, w3, M3⟩ ⟨a1, a2, a3, a4⟩ k
        try dsimp only at a1 a2 a3 a4
        subst a1
        subst a2
        unfold pMicRow_doubtful_L70 pMicRow_doubtful_L70b
        try dsimp only
        exact ok_pos (by decide) (ok_some ⟨rfl, a3.q (by omega)⟩)
    · unfold pModel_doubtful
      refine ok_pt (ok_bindE (ez.live hN hg) (ok_bindE (bt_countBits (by omega) h64) (ok_pos hc2 (ok_bind (md_begin0 hN hg hm tM) ?_))))
      rintro Ma ⟨ha, za⟩
      refine ok_bind (md_layAgree hN hg ha lvs_2) ?_
      rintro Mb ⟨hb, vb⟩
      refine ok_for 17 (fun d t => ∃ c, c ≤ m ∧ (∀ d', d' < d → Q d' ≤ c) ∧ t = (nn c, nn d)) ?_ ?_ ⟨0, by omega, fun d' z => absurd z (Nat.not_lt_zero _), rfl⟩ (by omega)
      · rintro d t hd ⟨c, hc1, hc2, rfl⟩ k hk
        have hqd := hQb d
        unfold pModel_doubtful_L34 pModel_doubtful_L34b
        try dsimp only
        refine ok_neg (by rw [show (16 : Int32) = nn 16 from rfl, nn_lt nB nB]; omega) (ok_ld hd nL ?_)
        rw [vb d hd, hQ, jm_nn (by omega) (by omega), nn_succ]
        refine hk _ ⟨max c (Q d), ?_, ?_, rfl⟩
        · have := hup d hd; omega
        · intro d' z
          by_cases e : d' = d
          · subst e; omega
          · have := hc2 d' (by omega); omega
      · rintro t ⟨c, hc1, hc2, rfl⟩ k
        have hcm : c = m := by
          have h1 := hc2 (bdx F) (bdx_b hF17).2
          rw [← hPQ F hF17, hmm] at h1
          omega
        subst hcm
        unfold pModel_doubtful_L34 pModel_doubtful_L34b
        try dsimp only
        refine ok_pos (by decide) (ok_pt ?_)
        refine ok_for 17 (fun d t => t.1 = nn d ∧ mH M2 All (tl Q c d) t.2 ∧ t.2.1 11 = Mb.1 11) ?_ ?_ ⟨rfl, by exact hb.clear, si_row (by decide)⟩ (by omega)
        · rintro d ⟨w3, M3⟩ hd ⟨a1, a2, a3⟩ k hk
          try dsimp only at a1 a2 a3
          subst a1
          have hqd := hQb d
          have tll := tl_le (Q := Q) (m := c) d
          unfold pModel_doubtful_L64 pModel_doubtful_L64b
          try dsimp only
          refine ok_neg (by rw [show (16 : Int32) = nn 16 from rfl, nn_lt nB nB]; omega) (ok_ld hd nL ?_)
          rw [a3, vb d hd, hQ, nn_succ]
          have et : tl Q c (d + 1) = if Q d = c then tl Q c d ++ [(nn d).toInt64] else tl Q c d := rfl
          by_cases z : Q d = c
          · rw [if_pos z] at et
            refine ok_pos (by rw [z]) (ok_bind (a2.tell (by omega)) ?_)
            rintro M4 ⟨h4, f4, z4⟩
            refine hk _ ⟨rfl, ?_, (f4.at1 (by decide)).trans a3⟩
            try dsimp only
            rw [et]; exact h4
          · rw [if_neg z] at et
            refine ok_neg (by rw [nn_inj nB nB]; exact z) (hk _ ⟨rfl, ?_, a3⟩)
            try dsimp only
            rw [et]; exact a2
        · rintro ⟨w3, M3⟩ ⟨a1, a2, a3⟩ k
          try dsimp only at a1 a2 a3
          subst a1
          unfold pModel_doubtful_L64 pModel_doubtful_L64b
          try dsimp only
          exact ok_pos (by decide) (ok_some ⟨a2.2.1.1, a2.q⟩)
  · have hc2 : ¬ (2 : Int32) ≤ nn (pop (lvs (M2.1 1))) := by rw [show (2 : Int32) = nn 2 from rfl, nn_le nB nB]; exact h2
    refine cpq hR hq hl (-2) ?_ ?_
    · unfold pMicRow_doubtful
      exact ok_bindE (cs_liveCount hN hg hr) (ok_neg hc2 (ok_some ⟨rfl, qC.same hS tC⟩))
    · unfold pModel_doubtful
      exact ok_pt (ok_bindE (ez.live hN hg) (ok_bindE (bt_countBits (by omega) h64) (ok_neg hc2 (ok_some ⟨rfl, qM.same tM⟩))))
