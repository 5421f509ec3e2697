theorem dX7_hasMic_0 : decode cX7_hasMic 0 = .ok (.iload_n 1, 1) := by decide +kernel
theorem dX7_hasMic_1 : decode cX7_hasMic 1 = .ok (.ifCond .lt 15, 3) := by decide +kernel
theorem dX7_hasMic_4 : decode cX7_hasMic 4 = .ok (.iload_n 1, 1) := by decide +kernel
theorem dX7_hasMic_5 : decode cX7_hasMic 5 = .ok (.aload_n 0, 1) := by decide +kernel
theorem dX7_hasMic_6 : decode cX7_hasMic 6 = .ok (.getfield 23, 3) := by decide +kernel
theorem dX7_hasMic_9 : decode cX7_hasMic 9 = .ok (.if_icmp .ge 7, 3) := by decide +kernel
theorem dX7_hasMic_12 : decode cX7_hasMic 12 = .ok (.iconst 1, 1) := by decide +kernel
theorem dX7_hasMic_13 : decode cX7_hasMic 13 = .ok (.goto 4, 3) := by decide +kernel
theorem dX7_hasMic_16 : decode cX7_hasMic 16 = .ok (.iconst 0, 1) := by decide +kernel
theorem dX7_hasMic_17 : decode cX7_hasMic 17 = .ok (.ireturn, 1) := by decide +kernel
set_option maxHeartbeats 4000000 in
set_option maxRecDepth 100000 in
theorem c_Scene_hasMic (l : Launch) (G : fm_G) (M : fm_M) (v1 : Int32) (r : Int32) (hf : pScene_hasMic M v1 = some r) : fm_Met l yX7_hasMic cX7_hasMic 2 (some .boolean) { frames := 0, cells := 0, slots := 0, locals := 0 } shC G [.ref (G.2.1 1), .int v1] M (some (.int r)) M := by
  refine fm_enter (by decide) (Nat.le_of_ble_eq_true rfl) ?_
  intro p e s m args below meth c ls C E hl
  have hl : lv_has ls 2 [(0, .ref (G.2.1 1)), (1, .int v1)] := hl
  unfold pScene_hasMic at hf
  refine lv_iload_n C.1 C.2.1 dX7_hasMic_0 rfl (lv_at hl 1 rfl) ?_
  refine lv_if_lt (tgt := 16) C.1 C.2.1 dX7_hasMic_1 (by decide) (fun hc1 => ?_) (fun hc1 => ?_)
  · have hf := fm_ip hf hc1
    refine lv_iconst (v := 0) C.1 C.2.1 dX7_hasMic_16 (by decide) ?_
    cases hf
    exact fm_iret C E rfl rfl dX7_hasMic_17
  · have hf := fm_in' hf hc1
    refine lv_iload_n C.1 C.2.1 dX7_hasMic_4 rfl (lv_at hl 1 rfl) ?_
    refine lv_aload_n C.1 C.2.1 dX7_hasMic_5 rfl (lv_at hl 0 rfl) ?_
    refine fm_geti C E lf_X7_23 hC_1 rfl dX7_hasMic_6 ?_
    refine lv_icmp_ge (tgt := 16) C.1 C.2.1 dX7_hasMic_9 (by decide) (fun hc9 => ?_) (fun hc9 => ?_)
    · have hf := fm_ip hf hc9
      refine lv_iconst (v := 0) C.1 C.2.1 dX7_hasMic_16 (by decide) ?_
      cases hf
      exact fm_iret C E rfl rfl dX7_hasMic_17
    · have hf := fm_in' hf hc9
      refine lv_iconst (v := 1) C.1 C.2.1 dX7_hasMic_12 (by decide) ?_
      refine lv_goto (tgt := 17) C.1 C.2.1 dX7_hasMic_13 (by decide) ?_
      cases hf
      exact fm_iret C E rfl rfl dX7_hasMic_17
theorem dX7_isLive_0 : decode cX7_isLive 0 = .ok (.aload_n 0, 1) := by decide +kernel
theorem dX7_isLive_1 : decode cX7_isLive 1 = .ok (.iload_n 1, 1) := by decide +kernel
theorem dX7_isLive_2 : decode cX7_isLive 2 = .ok (.invokevirtual 36, 3) := by decide +kernel
theorem dX7_isLive_5 : decode cX7_isLive 5 = .ok (.ifCond .eq 18, 3) := by decide +kernel
theorem dX7_isLive_8 : decode cX7_isLive 8 = .ok (.aload_n 0, 1) := by decide +kernel
theorem dX7_isLive_9 : decode cX7_isLive 9 = .ok (.getfield 11, 3) := by decide +kernel
theorem dX7_isLive_12 : decode cX7_isLive 12 = .ok (.iconst 5, 1) := by decide +kernel
theorem dX7_isLive_13 : decode cX7_isLive 13 = .ok (.aaload, 1) := by decide +kernel
theorem dX7_isLive_14 : decode cX7_isLive 14 = .ok (.iload_n 1, 1) := by decide +kernel
theorem dX7_isLive_15 : decode cX7_isLive 15 = .ok (.iaload, 1) := by decide +kernel
theorem dX7_isLive_16 : decode cX7_isLive 16 = .ok (.ifCond .ne 7, 3) := by decide +kernel
theorem dX7_isLive_19 : decode cX7_isLive 19 = .ok (.iconst 1, 1) := by decide +kernel
theorem dX7_isLive_20 : decode cX7_isLive 20 = .ok (.goto 4, 3) := by decide +kernel
theorem dX7_isLive_23 : decode cX7_isLive 23 = .ok (.iconst 0, 1) := by decide +kernel
theorem dX7_isLive_24 : decode cX7_isLive 24 = .ok (.ireturn, 1) := by decide +kernel
set_option maxHeartbeats 4000000 in
set_option maxRecDepth 100000 in
theorem c_Scene_isLive (l : Launch) (G : fm_G) (M : fm_M) (v1 : Int32) (r : Int32) (hf : pScene_isLive M v1 = some r) : fm_Met l yX7_isLive cX7_isLive 2 (some .boolean) { frames := 1, cells := 0, slots := 0, locals := 21 } shC G [.ref (G.2.1 1), .int v1] M (some (.int r)) M := by
  refine fm_enter (by decide) (Nat.le_of_ble_eq_true rfl) ?_
  intro p e s m args below meth c ls C E hl
  have hl : lv_has ls 2 [(0, .ref (G.2.1 1)), (1, .int v1)] := hl
  unfold pScene_isLive at hf
  refine lv_aload_n C.1 C.2.1 dX7_isLive_0 rfl (lv_at hl 0 rfl) ?_
  refine lv_iload_n C.1 C.2.1 dX7_isLive_1 rfl (lv_at hl 1 rfl) ?_
  obtain ⟨x2, hc2, hf⟩ := fm_bd hf
  refine fm_callV C E [.int _] [] lm_X7_36 wk_X7_hasMic (c_Scene_hasMic l G _ _ _  hc2) hC_1 rfl rfl rfl hl.1 (by simp [Value.category]) ⟨⟨rfl, rfl⟩, by decide, by decide⟩ ⟨by decide, by decide⟩ dX7_isLive_2 rfl (fun H locs E => ?_)
  refine W.eq (g2 := F0 m 5 ls (.int x2 :: [])) rfl ?_
  refine lv_if_eq (tgt := 23) C.1 C.2.1 dX7_isLive_5 (by decide) (fun hc5 => ?_) (fun hc5 => ?_)
  · have hf := fm_ip hf hc5
    refine lv_iconst (v := 0) C.1 C.2.1 dX7_isLive_23 (by decide) ?_
    cases hf
    exact fm_iret C E rfl rfl dX7_isLive_24
  · have hf := fm_in' hf hc5
    refine lv_aload_n C.1 C.2.1 dX7_isLive_8 rfl (lv_at hl 0 rfl) ?_
    refine fm_getr C E lf_X7_11 hC_1 rfl dX7_isLive_9 ?_
    refine lv_iconst (v := 5) C.1 C.2.1 dX7_isLive_12 (by decide) ?_
    refine fm_aald C E hC_2 (by decide) (r := 8) (by decide) dX7_isLive_13 ?_
    refine lv_iload_n C.1 C.2.1 dX7_isLive_14 rfl (lv_at hl 1 rfl) ?_
    obtain ⟨h15, x15, e15, hf⟩ := fm_ld_e hf
    refine fm_iald' C E e15 hC_8 h15 dX7_isLive_15 ?_
    refine lv_if_ne (tgt := 23) C.1 C.2.1 dX7_isLive_16 (by decide) (fun hc16 => ?_) (fun hc16 => ?_)
    · have hf := fm_in' hf hc16
      refine lv_iconst (v := 0) C.1 C.2.1 dX7_isLive_23 (by decide) ?_
      cases hf
      exact fm_iret C E rfl rfl dX7_isLive_24
    · have hf := fm_ip hf hc16
      refine lv_iconst (v := 1) C.1 C.2.1 dX7_isLive_19 (by decide) ?_
      refine lv_goto (tgt := 24) C.1 C.2.1 dX7_isLive_20 (by decide) ?_
      cases hf
      exact fm_iret C E rfl rfl dX7_isLive_24
theorem dX7_liveSet_0 : decode cX7_liveSet 0 = .ok (.iconst 0, 1) := by decide +kernel
theorem dX7_liveSet_1 : decode cX7_liveSet 1 = .ok (.istore_n 1, 1) := by decide +kernel
theorem dX7_liveSet_2 : decode cX7_liveSet 2 = .ok (.iconst 0, 1) := by decide +kernel
theorem dX7_liveSet_3 : decode cX7_liveSet 3 = .ok (.istore_n 2, 1) := by decide +kernel
theorem dX7_liveSet_4 : decode cX7_liveSet 4 = .ok (.iload_n 2, 1) := by decide +kernel
theorem dX7_liveSet_5 : decode cX7_liveSet 5 = .ok (.aload_n 0, 1) := by decide +kernel
theorem dX7_liveSet_6 : decode cX7_liveSet 6 = .ok (.getfield 23, 3) := by decide +kernel
theorem dX7_liveSet_9 : decode cX7_liveSet 9 = .ok (.if_icmp .ge 27, 3) := by decide +kernel
theorem dX7_liveSet_12 : decode cX7_liveSet 12 = .ok (.iload_n 1, 1) := by decide +kernel
theorem dX7_liveSet_13 : decode cX7_liveSet 13 = .ok (.aload_n 0, 1) := by decide +kernel
theorem dX7_liveSet_14 : decode cX7_liveSet 14 = .ok (.iload_n 2, 1) := by decide +kernel
theorem dX7_liveSet_15 : decode cX7_liveSet 15 = .ok (.invokevirtual 47, 3) := by decide +kernel
theorem dX7_liveSet_18 : decode cX7_liveSet 18 = .ok (.ifCond .eq 9, 3) := by decide +kernel
theorem dX7_liveSet_21 : decode cX7_liveSet 21 = .ok (.iconst 1, 1) := by decide +kernel
theorem dX7_liveSet_22 : decode cX7_liveSet 22 = .ok (.iload_n 2, 1) := by decide +kernel
theorem dX7_liveSet_23 : decode cX7_liveSet 23 = .ok (.ishl, 1) := by decide +kernel
theorem dX7_liveSet_24 : decode cX7_liveSet 24 = .ok (.goto 4, 3) := by decide +kernel
theorem dX7_liveSet_27 : decode cX7_liveSet 27 = .ok (.iconst 0, 1) := by decide +kernel
theorem dX7_liveSet_28 : decode cX7_liveSet 28 = .ok (.ior, 1) := by decide +kernel
theorem dX7_liveSet_29 : decode cX7_liveSet 29 = .ok (.istore_n 1, 1) := by decide +kernel
theorem dX7_liveSet_30 : decode cX7_liveSet 30 = .ok (.iinc 2 1, 3) := by decide +kernel
theorem dX7_liveSet_33 : decode cX7_liveSet 33 = .ok (.goto (-29), 3) := by decide +kernel
theorem dX7_liveSet_36 : decode cX7_liveSet 36 = .ok (.iload_n 1, 1) := by decide +kernel
theorem dX7_liveSet_37 : decode cX7_liveSet 37 = .ok (.ireturn, 1) := by decide +kernel
set_option maxHeartbeats 4000000 in
set_option maxRecDepth 100000 in
theorem c_Scene_liveSet (l : Launch) (G : fm_G) (N : Nat) (M : fm_M) (r : Int32) (hf : pScene_liveSet N M = some r) : fm_Met l yX7_liveSet cX7_liveSet 3 (some .int) { frames := 2, cells := 0, slots := 0, locals := 42 } shC G [.ref (G.2.1 1)] M (some (.int r)) M := by
  refine fm_enter (by decide) (Nat.le_of_ble_eq_true rfl) ?_
  intro p e s m args below meth c ls C E hl
  have hl : lv_has ls 3 [(0, .ref (G.2.1 1))] := hl
  have L4 : ∀ (n4 : Nat) (v1 : Int32) (v2 : Int32) (H : Heap) (locs : List Loc) (ls : Array Slot), fm_Wd shC G M s H locs → lv_has ls 3 [(0, .ref (G.2.1 1)), (1, .int v1), (2, .int v2)] → fm_lp (pScene_liveSet_L4 N M) n4 (v1, v2) = some r → W p l e { frames := 2, cells := 0, slots := 0, locals := 42 } s m args below meth c H locs 0 0 (fm_Z below shC G args s (some (.int r)) M) (F0 m 4 ls []) := by
    intro  n4
    induction n4 with
    | zero => intro v1 v2 H locs ls E hl hf; exact fm_lp_0 hf
    | succ n4 ih4 =>
      intro v1 v2 H locs ls E hl hf
      have hf : pScene_liveSet_L4b N M (fm_lp (pScene_liveSet_L4 N M) n4) v1 v2 = some r := hf
      unfold pScene_liveSet_L4b at hf
      refine lv_iload_n C.1 C.2.1 dX7_liveSet_4 rfl (lv_at hl 2 rfl) ?_
      refine lv_aload_n C.1 C.2.1 dX7_liveSet_5 rfl (lv_at hl 0 rfl) ?_
      refine fm_geti C E lf_X7_23 hC_1 rfl dX7_liveSet_6 ?_
      refine lv_icmp_ge (tgt := 36) C.1 C.2.1 dX7_liveSet_9 (by decide) (fun hc9 => ?_) (fun hc9 => ?_)
      · have hf := fm_ip hf hc9
        refine lv_iload_n C.1 C.2.1 dX7_liveSet_36 rfl (lv_at hl 1 rfl) ?_
        cases hf
        exact fm_iret C E rfl rfl dX7_liveSet_37
      · have hf := fm_in' hf hc9
        refine lv_iload_n C.1 C.2.1 dX7_liveSet_12 rfl (lv_at hl 1 rfl) ?_
        refine lv_aload_n C.1 C.2.1 dX7_liveSet_13 rfl (lv_at hl 0 rfl) ?_
        refine lv_iload_n C.1 C.2.1 dX7_liveSet_14 rfl (lv_at hl 2 rfl) ?_
        obtain ⟨x15, hc15, hf⟩ := fm_bd hf
        refine fm_callV C E [.int _] [.int _] lm_X7_47 wk_X7_isLive (c_Scene_isLive l G _ _ _  hc15) hC_1 rfl rfl rfl hl.1 (by simp [Value.category]) ⟨⟨rfl, rfl⟩, by decide, by decide⟩ ⟨by decide, by decide⟩ dX7_liveSet_15 rfl (fun H locs E => ?_)
        refine W.eq (g2 := F0 m 18 ls (.int x15 :: [.int _])) rfl ?_
        refine lv_if_eq (tgt := 27) C.1 C.2.1 dX7_liveSet_18 (by decide) (fun hc18 => ?_) (fun hc18 => ?_)
        · have hf := fm_ip hf hc18
          refine lv_iconst (v := 0) C.1 C.2.1 dX7_liveSet_27 (by decide) ?_
          refine lv_ior C.1 C.2.1 dX7_liveSet_28 ?_
          refine lv_istore_n (lv' := [(1, .int _), (0, .ref _), (2, .int _)]) C.1 C.2.1 dX7_liveSet_29 rfl hl (by decide) rfl (fun ls hl => ?_)
          refine fm_iinc C (v := 1) (lv' := [(2, .int _), (1, .int _), (0, .ref _)]) (k := 2) hl rfl (by decide) (by decide) rfl dX7_liveSet_30 (fun ls hl => ?_)
          refine lv_goto (tgt := 4) C.1 C.2.1 dX7_liveSet_33 (by decide) ?_
          exact ih4 _ _ _ _ _ E (lv_sub hl [2, 1, 0] rfl) hf
        · have hf := fm_in' hf hc18
          refine lv_iconst (v := 1) C.1 C.2.1 dX7_liveSet_21 (by decide) ?_
          refine lv_iload_n C.1 C.2.1 dX7_liveSet_22 rfl (lv_at hl 2 rfl) ?_
          refine lv_ishl C.1 C.2.1 dX7_liveSet_23 ?_
          refine lv_goto (tgt := 28) C.1 C.2.1 dX7_liveSet_24 (by decide) ?_
          refine lv_ior C.1 C.2.1 dX7_liveSet_28 ?_
          refine lv_istore_n (lv' := [(1, .int _), (0, .ref _), (2, .int _)]) C.1 C.2.1 dX7_liveSet_29 rfl hl (by decide) rfl (fun ls hl => ?_)
          refine fm_iinc C (v := 1) (lv' := [(2, .int _), (1, .int _), (0, .ref _)]) (k := 2) hl rfl (by decide) (by decide) rfl dX7_liveSet_30 (fun ls hl => ?_)
          refine lv_goto (tgt := 4) C.1 C.2.1 dX7_liveSet_33 (by decide) ?_
          exact ih4 _ _ _ _ _ E (lv_sub hl [2, 1, 0] rfl) hf
  unfold pScene_liveSet at hf
  refine lv_iconst (v := 0) C.1 C.2.1 dX7_liveSet_0 (by decide) ?_
  refine lv_istore_n (lv' := [(1, .int _), (0, .ref _)]) C.1 C.2.1 dX7_liveSet_1 rfl hl (by decide) rfl (fun ls hl => ?_)
  refine lv_iconst (v := 0) C.1 C.2.1 dX7_liveSet_2 (by decide) ?_
  refine lv_istore_n (lv' := [(2, .int _), (1, .int _), (0, .ref _)]) C.1 C.2.1 dX7_liveSet_3 rfl hl (by decide) rfl (fun ls hl => ?_)
  exact L4  N _ _ _ _ _ E (lv_sub hl [2, 1, 0] rfl) hf
theorem dX9_within_0 : decode cX9_within 0 = .ok (.iload_n 0, 1) := by decide +kernel
theorem dX9_within_1 : decode cX9_within 1 = .ok (.iload_n 1, 1) := by decide +kernel
theorem dX9_within_2 : decode cX9_within 2 = .ok (.if_icmp .lt 12, 3) := by decide +kernel
theorem dX9_within_5 : decode cX9_within 5 = .ok (.iload_n 0, 1) := by decide +kernel
theorem dX9_within_6 : decode cX9_within 6 = .ok (.iload_n 2, 1) := by decide +kernel
theorem dX9_within_7 : decode cX9_within 7 = .ok (.if_icmp .gt 7, 3) := by decide +kernel
theorem dX9_within_10 : decode cX9_within 10 = .ok (.iconst 1, 1) := by decide +kernel
theorem dX9_within_11 : decode cX9_within 11 = .ok (.goto 4, 3) := by decide +kernel
theorem dX9_within_14 : decode cX9_within 14 = .ok (.iconst 0, 1) := by decide +kernel
theorem dX9_within_15 : decode cX9_within 15 = .ok (.ireturn, 1) := by decide +kernel
set_option maxHeartbeats 4000000 in
set_option maxRecDepth 100000 in
theorem c_MicRow_within (l : Launch) (G : fm_G) (M : fm_M) (v0 : Int32) (v1 : Int32) (v2 : Int32) (r : Int32) (hf : pMicRow_within M v0 v1 v2 = some r) : fm_Met l yX9_within cX9_within 3 (some .boolean) { frames := 0, cells := 0, slots := 0, locals := 0 } shC G [.int v0, .int v1, .int v2] M (some (.int r)) M := by
  refine fm_enter (by decide) (Nat.le_of_ble_eq_true rfl) ?_
  intro p e s m args below meth c ls C E hl
  have hl : lv_has ls 3 [(0, .int v0), (1, .int v1), (2, .int v2)] := hl
  unfold pMicRow_within at hf
  refine lv_iload_n C.1 C.2.1 dX9_within_0 rfl (lv_at hl 0 rfl) ?_
  refine lv_iload_n C.1 C.2.1 dX9_within_1 rfl (lv_at hl 1 rfl) ?_
  refine lv_icmp_lt (tgt := 14) C.1 C.2.1 dX9_within_2 (by decide) (fun hc2 => ?_) (fun hc2 => ?_)
  · have hf := fm_ip hf hc2
    refine lv_iconst (v := 0) C.1 C.2.1 dX9_within_14 (by decide) ?_
    cases hf
    exact fm_iret C E rfl rfl dX9_within_15
  · have hf := fm_in' hf hc2
    refine lv_iload_n C.1 C.2.1 dX9_within_5 rfl (lv_at hl 0 rfl) ?_
    refine lv_iload_n C.1 C.2.1 dX9_within_6 rfl (lv_at hl 2 rfl) ?_
    refine lv_icmp_gt (tgt := 14) C.1 C.2.1 dX9_within_7 (by decide) (fun hc7 => ?_) (fun hc7 => ?_)
    · have hf := fm_ip hf hc7
      refine lv_iconst (v := 0) C.1 C.2.1 dX9_within_14 (by decide) ?_
      cases hf
      exact fm_iret C E rfl rfl dX9_within_15
    · have hf := fm_in' hf hc7
      refine lv_iconst (v := 1) C.1 C.2.1 dX9_within_10 (by decide) ?_
      refine lv_goto (tgt := 15) C.1 C.2.1 dX9_within_11 (by decide) ?_
      cases hf
      exact fm_iret C E rfl rfl dX9_within_15
theorem dX7_put_0 : decode cX7_put 0 = .ok (.aload_n 0, 1) := by decide +kernel
theorem dX7_put_1 : decode cX7_put 1 = .ok (.iload_n 1, 1) := by decide +kernel
theorem dX7_put_2 : decode cX7_put 2 = .ok (.invokevirtual 36, 3) := by decide +kernel
theorem dX7_put_5 : decode cX7_put 5 = .ok (.ifCond .eq 29, 3) := by decide +kernel
theorem dX7_put_8 : decode cX7_put 8 = .ok (.iload_n 2, 1) := by decide +kernel
theorem dX7_put_9 : decode cX7_put 9 = .ok (.iconst 1, 1) := by decide +kernel
theorem dX7_put_10 : decode cX7_put 10 = .ok (.iconst 5, 1) := by decide +kernel
theorem dX7_put_11 : decode cX7_put 11 = .ok (.invokestatic 40, 3) := by decide +kernel
theorem dX7_put_14 : decode cX7_put 14 = .ok (.ifCond .eq 20, 3) := by decide +kernel
theorem dX7_put_17 : decode cX7_put 17 = .ok (.iload_n 3, 1) := by decide +kernel
theorem dX7_put_18 : decode cX7_put 18 = .ok (.getstatic 63, 3) := by decide +kernel
theorem dX7_put_21 : decode cX7_put 21 = .ok (.iload_n 2, 1) := by decide +kernel
theorem dX7_put_22 : decode cX7_put 22 = .ok (.iaload, 1) := by decide +kernel
theorem dX7_put_23 : decode cX7_put 23 = .ok (.getstatic 66, 3) := by decide +kernel
theorem dX7_put_26 : decode cX7_put 26 = .ok (.iload_n 2, 1) := by decide +kernel
theorem dX7_put_27 : decode cX7_put 27 = .ok (.iaload, 1) := by decide +kernel
theorem dX7_put_28 : decode cX7_put 28 = .ok (.invokestatic 40, 3) := by decide +kernel
theorem dX7_put_31 : decode cX7_put 31 = .ok (.ifCond .ne 5, 3) := by decide +kernel
theorem dX7_put_34 : decode cX7_put 34 = .ok (.iconst (-1), 1) := by decide +kernel
theorem dX7_put_35 : decode cX7_put 35 = .ok (.ireturn, 1) := by decide +kernel
theorem dX7_put_36 : decode cX7_put 36 = .ok (.aload_n 0, 1) := by decide +kernel
theorem dX7_put_37 : decode cX7_put 37 = .ok (.getfield 11, 3) := by decide +kernel
theorem dX7_put_40 : decode cX7_put 40 = .ok (.iload_n 2, 1) := by decide +kernel
theorem dX7_put_41 : decode cX7_put 41 = .ok (.aaload, 1) := by decide +kernel
theorem dX7_put_42 : decode cX7_put 42 = .ok (.iload_n 1, 1) := by decide +kernel
theorem dX7_put_43 : decode cX7_put 43 = .ok (.iaload, 1) := by decide +kernel
theorem dX7_put_44 : decode cX7_put 44 = .ok (.istore 4, 2) := by decide +kernel
theorem dX7_put_46 : decode cX7_put 46 = .ok (.aload_n 0, 1) := by decide +kernel
theorem dX7_put_47 : decode cX7_put 47 = .ok (.getfield 11, 3) := by decide +kernel
theorem dX7_put_50 : decode cX7_put 50 = .ok (.iload_n 2, 1) := by decide +kernel
theorem dX7_put_51 : decode cX7_put 51 = .ok (.aaload, 1) := by decide +kernel
theorem dX7_put_52 : decode cX7_put 52 = .ok (.iload_n 1, 1) := by decide +kernel
theorem dX7_put_53 : decode cX7_put 53 = .ok (.iload_n 3, 1) := by decide +kernel
theorem dX7_put_54 : decode cX7_put 54 = .ok (.iastore, 1) := by decide +kernel
theorem dX7_put_55 : decode cX7_put 55 = .ok (.iload 4, 2) := by decide +kernel
theorem dX7_put_57 : decode cX7_put 57 = .ok (.iload_n 3, 1) := by decide +kernel
theorem dX7_put_58 : decode cX7_put 58 = .ok (.if_icmp .ne 8, 3) := by decide +kernel
theorem dX7_put_61 : decode cX7_put 61 = .ok (.bipush (-2), 2) := by decide +kernel
theorem dX7_put_63 : decode cX7_put 63 = .ok (.goto 5, 3) := by decide +kernel
theorem dX7_put_66 : decode cX7_put 66 = .ok (.iload 4, 2) := by decide +kernel
theorem dX7_put_68 : decode cX7_put 68 = .ok (.ireturn, 1) := by decide +kernel
set_option maxHeartbeats 4000000 in
set_option maxRecDepth 100000 in
theorem c_Scene_put (l : Launch) (G : fm_G) (M : fm_M) (v1 : Int32) (v2 : Int32) (v3 : Int32) (r : Int32) (M' : fm_M) (hf : pScene_put M v1 v2 v3 = some (r, M')) : fm_Met l yX7_put cX7_put 5 (some .int) { frames := 1, cells := 0, slots := 0, locals := 22 } shC G [.ref (G.2.1 1), .int v1, .int v2, .int v3] M (some (.int r)) M' := by
  refine fm_enter (by decide) (Nat.le_of_ble_eq_true rfl) ?_
  intro p e s m args below meth c ls C E hl
  have hl : lv_has ls 5 [(0, .ref (G.2.1 1)), (1, .int v1), (2, .int v2), (3, .int v3)] := hl
  unfold pScene_put at hf
  refine lv_aload_n C.1 C.2.1 dX7_put_0 rfl (lv_at hl 0 rfl) ?_
  refine lv_iload_n C.1 C.2.1 dX7_put_1 rfl (lv_at hl 1 rfl) ?_
  obtain ⟨x2, hc2, hf⟩ := fm_bd hf
  refine fm_callV C E [.int _] [] lm_X7_36 wk_X7_hasMic (c_Scene_hasMic l G _ _ _  hc2) hC_1 rfl rfl rfl hl.1 (by simp [Value.category]) ⟨⟨rfl, rfl⟩, by decide, by decide⟩ ⟨by decide, by decide⟩ dX7_put_2 rfl (fun H locs E => ?_)
  refine W.eq (g2 := F0 m 5 ls (.int x2 :: [])) rfl ?_
  refine lv_if_eq (tgt := 34) C.1 C.2.1 dX7_put_5 (by decide) (fun hc5 => ?_) (fun hc5 => ?_)
  · have hf := fm_ip hf hc5
    refine lv_iconst (v := (-1)) C.1 C.2.1 dX7_put_34 (by decide) ?_
    cases hf
    exact fm_iret C E rfl rfl dX7_put_35
  · have hf := fm_in' hf hc5
    refine lv_iload_n C.1 C.2.1 dX7_put_8 rfl (lv_at hl 2 rfl) ?_
    refine lv_iconst (v := 1) C.1 C.2.1 dX7_put_9 (by decide) ?_
    refine lv_iconst (v := 5) C.1 C.2.1 dX7_put_10 (by decide) ?_
    obtain ⟨x11, hc11, hf⟩ := fm_bd hf
    refine fm_callS C E [.int _, .int _, .int _] [] lm_X7_40 wk_X9_within (c_MicRow_within l G _ _ _ _ _  hc11) rfl hl.1 (by simp [Value.category]) ⟨⟨rfl, rfl⟩, by decide, by decide⟩ ⟨by decide, by decide⟩ dX7_put_11 rfl (fun H locs E => ?_)
    refine W.eq (g2 := F0 m 14 ls (.int x11 :: [])) rfl ?_
    refine lv_if_eq (tgt := 34) C.1 C.2.1 dX7_put_14 (by decide) (fun hc14 => ?_) (fun hc14 => ?_)
    · have hf := fm_ip hf hc14
      refine lv_iconst (v := (-1)) C.1 C.2.1 dX7_put_34 (by decide) ?_
      cases hf
      exact fm_iret C E rfl rfl dX7_put_35
    · have hf := fm_in' hf hc14
      refine lv_iload_n C.1 C.2.1 dX7_put_17 rfl (lv_at hl 3 rfl) ?_
      refine fm_gets C E (List.mem_of_getElem? (l := fm_Zs) (i := 0) rfl) (Or.inr ⟨_, wf_463⟩) dX7_put_18 (fun t18 hT18 => ?_)
      refine lv_iload_n C.1 C.2.1 dX7_put_21 rfl (lv_at hl 2 rfl) ?_
      obtain ⟨h22, hf⟩ := fm_ix_s hf
      refine fm_tld C E hT18 h22 dX7_put_22 ?_
      refine fm_gets C E (List.mem_of_getElem? (l := fm_Zs) (i := 1) rfl) (Or.inr ⟨_, wf_464⟩) dX7_put_23 (fun t23 hT23 => ?_)
      refine lv_iload_n C.1 C.2.1 dX7_put_26 rfl (lv_at hl 2 rfl) ?_
      obtain ⟨h27, hf⟩ := fm_ix_s hf
      refine fm_tld C E hT23 h27 dX7_put_27 ?_
      obtain ⟨x28, hc28, hf⟩ := fm_bd hf
      refine fm_callS C E [.int _, .int _, .int _] [] lm_X7_40 wk_X9_within (c_MicRow_within l G _ _ _ _ _  hc28) rfl hl.1 (by simp [Value.category]) ⟨⟨rfl, rfl⟩, by decide, by decide⟩ ⟨by decide, by decide⟩ dX7_put_28 rfl (fun H locs E => ?_)
      refine W.eq (g2 := F0 m 31 ls (.int x28 :: [])) rfl ?_
      refine lv_if_ne (tgt := 36) C.1 C.2.1 dX7_put_31 (by decide) (fun hc31 => ?_) (fun hc31 => ?_)
      · have hf := fm_in' hf hc31
        refine lv_aload_n C.1 C.2.1 dX7_put_36 rfl (lv_at hl 0 rfl) ?_
        refine fm_getr C E lf_X7_11 hC_1 rfl dX7_put_37 ?_
        refine lv_iload_n C.1 C.2.1 dX7_put_40 rfl (lv_at hl 2 rfl) ?_
        obtain ⟨q41, h41, k41, e41, hf⟩ := fm_ix_t tC_3 hf
        refine fm_aald C E hC_2 h41 (r := q41) (by rw [e41]; exact rC_3 _ (fm_in_lt h41)) dX7_put_41 ?_
        refine lv_iload_n C.1 C.2.1 dX7_put_42 rfl (lv_at hl 1 rfl) ?_
        obtain ⟨h43, x43, e43, hf⟩ := fm_ld_e hf
        refine fm_iald' C E e43 k41 h43 dX7_put_43 ?_
        refine lv_istore (lv' := [(4, .int _), (0, .ref _), (1, .int _), (2, .int _), (3, .int _)]) C.1 C.2.1 dX7_put_44 hl (by decide) rfl (fun ls hl => ?_)
        refine lv_aload_n C.1 C.2.1 dX7_put_46 rfl (lv_at hl 1 rfl) ?_
        refine fm_getr C E lf_X7_11 hC_1 rfl dX7_put_47 ?_
        refine lv_iload_n C.1 C.2.1 dX7_put_50 rfl (lv_at hl 3 rfl) ?_
        obtain ⟨q51, h51, k51, e51, hf⟩ := fm_ix_t tC_3 hf
        refine fm_aald C E hC_2 h51 (r := q51) (by rw [e51]; exact rC_3 _ (fm_in_lt h51)) dX7_put_51 ?_
        refine lv_iload_n C.1 C.2.1 dX7_put_52 rfl (lv_at hl 2 rfl) ?_
        refine lv_iload_n C.1 C.2.1 dX7_put_53 rfl (lv_at hl 4 rfl) ?_
        obtain ⟨h54, M54, e54, hf⟩ := fm_st_e hf
        refine fm_iast' C E e54 k51 h54 dX7_put_54 (fun H locs E => ?_)
        refine lv_iload C.1 C.2.1 dX7_put_55 (lv_at hl 0 rfl) ?_
        refine lv_iload_n C.1 C.2.1 dX7_put_57 rfl (lv_at hl 4 rfl) ?_
        refine lv_icmp_ne (tgt := 66) C.1 C.2.1 dX7_put_58 (by decide) (fun hc58 => ?_) (fun hc58 => ?_)
        · have hf := fm_in' hf hc58
          refine lv_iload C.1 C.2.1 dX7_put_66 (lv_at hl 0 rfl) ?_
          cases hf
          exact fm_iret C E rfl rfl dX7_put_68
        · have hf := fm_ip hf hc58
          refine lv_bipush (v := (-2)) C.1 C.2.1 dX7_put_61 (by decide) ?_
          refine lv_goto (tgt := 68) C.1 C.2.1 dX7_put_63 (by decide) ?_
          cases hf
          exact fm_iret C E rfl rfl dX7_put_68
      · have hf := fm_ip hf hc31
        refine lv_iconst (v := (-1)) C.1 C.2.1 dX7_put_34 (by decide) ?_
        cases hf
        exact fm_iret C E rfl rfl dX7_put_35
theorem dX7_hold_0 : decode cX7_hold 0 = .ok (.iload_n 1, 1) := by decide +kernel
theorem dX7_hold_1 : decode cX7_hold 1 = .ok (.iconst 0, 1) := by decide +kernel
theorem dX7_hold_2 : decode cX7_hold 2 = .ok (.iconst 2, 1) := by decide +kernel
theorem dX7_hold_3 : decode cX7_hold 3 = .ok (.invokestatic 40, 3) := by decide +kernel
theorem dX7_hold_6 : decode cX7_hold 6 = .ok (.ifCond .eq 20, 3) := by decide +kernel
theorem dX7_hold_9 : decode cX7_hold 9 = .ok (.iload_n 2, 1) := by decide +kernel
theorem dX7_hold_10 : decode cX7_hold 10 = .ok (.getstatic 69, 3) := by decide +kernel
theorem dX7_hold_13 : decode cX7_hold 13 = .ok (.iload_n 1, 1) := by decide +kernel
theorem dX7_hold_14 : decode cX7_hold 14 = .ok (.iaload, 1) := by decide +kernel
theorem dX7_hold_15 : decode cX7_hold 15 = .ok (.getstatic 72, 3) := by decide +kernel
theorem dX7_hold_18 : decode cX7_hold 18 = .ok (.iload_n 1, 1) := by decide +kernel
theorem dX7_hold_19 : decode cX7_hold 19 = .ok (.iaload, 1) := by decide +kernel
theorem dX7_hold_20 : decode cX7_hold 20 = .ok (.invokestatic 40, 3) := by decide +kernel
theorem dX7_hold_23 : decode cX7_hold 23 = .ok (.ifCond .ne 5, 3) := by decide +kernel
theorem dX7_hold_26 : decode cX7_hold 26 = .ok (.iconst (-1), 1) := by decide +kernel
theorem dX7_hold_27 : decode cX7_hold 27 = .ok (.ireturn, 1) := by decide +kernel
theorem dX7_hold_28 : decode cX7_hold 28 = .ok (.aload_n 0, 1) := by decide +kernel
theorem dX7_hold_29 : decode cX7_hold 29 = .ok (.getfield 19, 3) := by decide +kernel
theorem dX7_hold_32 : decode cX7_hold 32 = .ok (.iload_n 1, 1) := by decide +kernel
theorem dX7_hold_33 : decode cX7_hold 33 = .ok (.iaload, 1) := by decide +kernel
theorem dX7_hold_34 : decode cX7_hold 34 = .ok (.istore_n 3, 1) := by decide +kernel
theorem dX7_hold_35 : decode cX7_hold 35 = .ok (.aload_n 0, 1) := by decide +kernel
theorem dX7_hold_36 : decode cX7_hold 36 = .ok (.getfield 19, 3) := by decide +kernel
theorem dX7_hold_39 : decode cX7_hold 39 = .ok (.iload_n 1, 1) := by decide +kernel
theorem dX7_hold_40 : decode cX7_hold 40 = .ok (.iload_n 2, 1) := by decide +kernel
theorem dX7_hold_41 : decode cX7_hold 41 = .ok (.iastore, 1) := by decide +kernel
theorem dX7_hold_42 : decode cX7_hold 42 = .ok (.iload_n 3, 1) := by decide +kernel
theorem dX7_hold_43 : decode cX7_hold 43 = .ok (.iload_n 2, 1) := by decide +kernel
theorem dX7_hold_44 : decode cX7_hold 44 = .ok (.if_icmp .ne 8, 3) := by decide +kernel
theorem dX7_hold_47 : decode cX7_hold 47 = .ok (.bipush (-2), 2) := by decide +kernel
theorem dX7_hold_49 : decode cX7_hold 49 = .ok (.goto 4, 3) := by decide +kernel
theorem dX7_hold_52 : decode cX7_hold 52 = .ok (.iload_n 3, 1) := by decide +kernel
theorem dX7_hold_53 : decode cX7_hold 53 = .ok (.ireturn, 1) := by decide +kernel
set_option maxHeartbeats 4000000 in
set_option maxRecDepth 100000 in
theorem c_Scene_hold (l : Launch) (G : fm_G) (M : fm_M) (v1 : Int32) (v2 : Int32) (r : Int32) (M' : fm_M) (hf : pScene_hold M v1 v2 = some (r, M')) : fm_Met l yX7_hold cX7_hold 4 (some .int) { frames := 1, cells := 0, slots := 0, locals := 22 } shC G [.ref (G.2.1 1), .int v1, .int v2] M (some (.int r)) M' := by
  refine fm_enter (by decide) (Nat.le_of_ble_eq_true rfl) ?_
  intro p e s m args below meth c ls C E hl
  have hl : lv_has ls 4 [(0, .ref (G.2.1 1)), (1, .int v1), (2, .int v2)] := hl
  unfold pScene_hold at hf
  refine lv_iload_n C.1 C.2.1 dX7_hold_0 rfl (lv_at hl 1 rfl) ?_
  refine lv_iconst (v := 0) C.1 C.2.1 dX7_hold_1 (by decide) ?_
  refine lv_iconst (v := 2) C.1 C.2.1 dX7_hold_2 (by decide) ?_
  obtain ⟨x3, hc3, hf⟩ := fm_bd hf
  refine fm_callS C E [.int _, .int _, .int _] [] lm_X7_40 wk_X9_within (c_MicRow_within l G _ _ _ _ _  hc3) rfl hl.1 (by simp [Value.category]) ⟨⟨rfl, rfl⟩, by decide, by decide⟩ ⟨by decide, by decide⟩ dX7_hold_3 rfl (fun H locs E => ?_)
  refine W.eq (g2 := F0 m 6 ls (.int x3 :: [])) rfl ?_
  refine lv_if_eq (tgt := 26) C.1 C.2.1 dX7_hold_6 (by decide) (fun hc6 => ?_) (fun hc6 => ?_)
  · have hf := fm_ip hf hc6
    refine lv_iconst (v := (-1)) C.1 C.2.1 dX7_hold_26 (by decide) ?_
    cases hf
    exact fm_iret C E rfl rfl dX7_hold_27
  · have hf := fm_in' hf hc6
    refine lv_iload_n C.1 C.2.1 dX7_hold_9 rfl (lv_at hl 2 rfl) ?_
    refine fm_gets C E (List.mem_of_getElem? (l := fm_Zs) (i := 5) rfl) (Or.inr ⟨_, wf_786⟩) dX7_hold_10 (fun t10 hT10 => ?_)
    refine lv_iload_n C.1 C.2.1 dX7_hold_13 rfl (lv_at hl 1 rfl) ?_
    obtain ⟨h14, hf⟩ := fm_ix_s hf
    refine fm_tld C E hT10 h14 dX7_hold_14 ?_
    refine fm_gets C E (List.mem_of_getElem? (l := fm_Zs) (i := 6) rfl) (Or.inr ⟨_, wf_788⟩) dX7_hold_15 (fun t15 hT15 => ?_)
    refine lv_iload_n C.1 C.2.1 dX7_hold_18 rfl (lv_at hl 1 rfl) ?_
    obtain ⟨h19, hf⟩ := fm_ix_s hf
    refine fm_tld C E hT15 h19 dX7_hold_19 ?_
    obtain ⟨x20, hc20, hf⟩ := fm_bd hf
    refine fm_callS C E [.int _, .int _, .int _] [] lm_X7_40 wk_X9_within (c_MicRow_within l G _ _ _ _ _  hc20) rfl hl.1 (by simp [Value.category]) ⟨⟨rfl, rfl⟩, by decide, by decide⟩ ⟨by decide, by decide⟩ dX7_hold_20 rfl (fun H locs E => ?_)
    refine W.eq (g2 := F0 m 23 ls (.int x20 :: [])) rfl ?_
    refine lv_if_ne (tgt := 28) C.1 C.2.1 dX7_hold_23 (by decide) (fun hc23 => ?_) (fun hc23 => ?_)
    · have hf := fm_in' hf hc23
      refine lv_aload_n C.1 C.2.1 dX7_hold_28 rfl (lv_at hl 0 rfl) ?_
      refine fm_getr C E lf_X7_19 hC_1 rfl dX7_hold_29 ?_
      refine lv_iload_n C.1 C.2.1 dX7_hold_32 rfl (lv_at hl 1 rfl) ?_
      obtain ⟨h33, x33, e33, hf⟩ := fm_ld_e hf
      refine fm_iald' C E e33 hC_14 h33 dX7_hold_33 ?_
      refine lv_istore_n (lv' := [(3, .int _), (0, .ref _), (1, .int _), (2, .int _)]) C.1 C.2.1 dX7_hold_34 rfl hl (by decide) rfl (fun ls hl => ?_)
      refine lv_aload_n C.1 C.2.1 dX7_hold_35 rfl (lv_at hl 1 rfl) ?_
      refine fm_getr C E lf_X7_19 hC_1 rfl dX7_hold_36 ?_
      refine lv_iload_n C.1 C.2.1 dX7_hold_39 rfl (lv_at hl 2 rfl) ?_
      refine lv_iload_n C.1 C.2.1 dX7_hold_40 rfl (lv_at hl 3 rfl) ?_
      obtain ⟨h41, M41, e41, hf⟩ := fm_st_e hf
      refine fm_iast' C E e41 hC_14 h41 dX7_hold_41 (fun H locs E => ?_)
      refine lv_iload_n C.1 C.2.1 dX7_hold_42 rfl (lv_at hl 0 rfl) ?_
      refine lv_iload_n C.1 C.2.1 dX7_hold_43 rfl (lv_at hl 3 rfl) ?_
      refine lv_icmp_ne (tgt := 52) C.1 C.2.1 dX7_hold_44 (by decide) (fun hc44 => ?_) (fun hc44 => ?_)
      · have hf := fm_in' hf hc44
        refine lv_iload_n C.1 C.2.1 dX7_hold_52 rfl (lv_at hl 0 rfl) ?_
        cases hf
        exact fm_iret C E rfl rfl dX7_hold_53
      · have hf := fm_ip hf hc44
        refine lv_bipush (v := (-2)) C.1 C.2.1 dX7_hold_47 (by decide) ?_
        refine lv_goto (tgt := 53) C.1 C.2.1 dX7_hold_49 (by decide) ?_
        cases hf
        exact fm_iret C E rfl rfl dX7_hold_53
    · have hf := fm_ip hf hc23
      refine lv_iconst (v := (-1)) C.1 C.2.1 dX7_hold_26 (by decide) ?_
      cases hf
      exact fm_iret C E rfl rfl dX7_hold_27
