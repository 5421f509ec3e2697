theorem dX10_heard_0 : decode cX10_heard 0 = .ok (.aload_n 0, 1) := by decide +kernel
theorem dX10_heard_1 : decode cX10_heard 1 = .ok (.getfield 24, 3) := by decide +kernel
theorem dX10_heard_4 : decode cX10_heard 4 = .ok (.sipush 601, 3) := by decide +kernel
theorem dX10_heard_7 : decode cX10_heard 7 = .ok (.iload_n 1, 1) := by decide +kernel
theorem dX10_heard_8 : decode cX10_heard 8 = .ok (.imul, 1) := by decide +kernel
theorem dX10_heard_9 : decode cX10_heard 9 = .ok (.iload_n 2, 1) := by decide +kernel
theorem dX10_heard_10 : decode cX10_heard 10 = .ok (.iadd, 1) := by decide +kernel
theorem dX10_heard_11 : decode cX10_heard 11 = .ok (.sipush 300, 3) := by decide +kernel
theorem dX10_heard_14 : decode cX10_heard 14 = .ok (.iadd, 1) := by decide +kernel
theorem dX10_heard_15 : decode cX10_heard 15 = .ok (.iaload, 1) := by decide +kernel
theorem dX10_heard_16 : decode cX10_heard 16 = .ok (.ireturn, 1) := by decide +kernel
set_option maxHeartbeats 4000000 in
set_option maxRecDepth 100000 in
theorem c_Model_heard (l : Launch) (G : fm_G) (M : fm_M) (v1 : Int32) (v2 : Int32) (r : Int32) (hf : pModel_heard M v1 v2 = some r) : fm_Met l yX10_heard cX10_heard 3 (some .int) { frames := 0, cells := 0, slots := 0, locals := 0 } shM G [.ref (G.2.1 0), .int v1, .int v2] M (some (.int r)) M := by
  refine fm_enter (by decide) (Nat.le_of_ble_eq_true rfl) ?_
  intro p e s m args below meth c ls C E hl
  have hl : lv_has ls 3 [(0, .ref (G.2.1 0)), (1, .int v1), (2, .int v2)] := hl
  unfold pModel_heard at hf
  refine lv_aload_n C.1 C.2.1 dX10_heard_0 rfl (lv_at hl 0 rfl) ?_
  refine fm_getr C E lf_X10_24 hM_0 rfl dX10_heard_1 ?_
  refine lv_sipush (v := 601) C.1 C.2.1 dX10_heard_4 (by decide) ?_
  refine lv_iload_n C.1 C.2.1 dX10_heard_7 rfl (lv_at hl 1 rfl) ?_
  refine lv_imul C.1 C.2.1 dX10_heard_8 ?_
  refine lv_iload_n C.1 C.2.1 dX10_heard_9 rfl (lv_at hl 2 rfl) ?_
  refine lv_iadd C.1 C.2.1 dX10_heard_10 ?_
  refine lv_sipush (v := 300) C.1 C.2.1 dX10_heard_11 (by decide) ?_
  refine lv_iadd C.1 C.2.1 dX10_heard_14 ?_
  obtain ⟨h15, x15, e15, hf⟩ := fm_ld_e hf
  refine fm_iald' C E e15 hM_5 h15 dX10_heard_15 ?_
  obtain rfl := fm_rt1 hf
  exact fm_iret C E rfl rfl dX10_heard_16
theorem dX10_sample_0 : decode cX10_sample 0 = .ok (.aload_n 0, 1) := by decide +kernel
theorem dX10_sample_1 : decode cX10_sample 1 = .ok (.iconst 0, 1) := by decide +kernel
theorem dX10_sample_2 : decode cX10_sample 2 = .ok (.putfield 77, 3) := by decide +kernel
theorem dX10_sample_5 : decode cX10_sample 5 = .ok (.aload_n 0, 1) := by decide +kernel
theorem dX10_sample_6 : decode cX10_sample 6 = .ok (.iload_n 1, 1) := by decide +kernel
theorem dX10_sample_7 : decode cX10_sample 7 = .ok (.invokevirtual 153, 3) := by decide +kernel
theorem dX10_sample_10 : decode cX10_sample 10 = .ok (.ifCond .eq 25, 3) := by decide +kernel
theorem dX10_sample_13 : decode cX10_sample 13 = .ok (.iload_n 2, 1) := by decide +kernel
theorem dX10_sample_14 : decode cX10_sample 14 = .ok (.sipush (-300), 3) := by decide +kernel
theorem dX10_sample_17 : decode cX10_sample 17 = .ok (.sipush 300, 3) := by decide +kernel
theorem dX10_sample_20 : decode cX10_sample 20 = .ok (.invokestatic 83, 3) := by decide +kernel
theorem dX10_sample_23 : decode cX10_sample 23 = .ok (.ifCond .eq 12, 3) := by decide +kernel
theorem dX10_sample_26 : decode cX10_sample 26 = .ok (.aload_n 0, 1) := by decide +kernel
theorem dX10_sample_27 : decode cX10_sample 27 = .ok (.iload_n 1, 1) := by decide +kernel
theorem dX10_sample_28 : decode cX10_sample 28 = .ok (.iload_n 2, 1) := by decide +kernel
theorem dX10_sample_29 : decode cX10_sample 29 = .ok (.invokevirtual 176, 3) := by decide +kernel
theorem dX10_sample_32 : decode cX10_sample 32 = .ok (.goto 7, 3) := by decide +kernel
theorem dX10_sample_35 : decode cX10_sample 35 = .ok (.aload_n 0, 1) := by decide +kernel
theorem dX10_sample_36 : decode cX10_sample 36 = .ok (.invokevirtual 157, 3) := by decide +kernel
theorem dX10_sample_39 : decode cX10_sample 39 = .ok (.ireturn, 1) := by decide +kernel
set_option maxHeartbeats 4000000 in
set_option maxRecDepth 100000 in
theorem c_Model_sample (l : Launch) (G : fm_G) (N : Nat) (M : fm_M) (v1 : Int32) (v2 : Int32) (r : Int32) (M' : fm_M) (hf : pModel_sample N M v1 v2 = some (r, M')) : fm_Met l yX10_sample cX10_sample 3 (some .int) { frames := 4, cells := 0, slots := 0, locals := 93 } shM G [.ref (G.2.1 0), .int v1, .int v2] M (some (.int r)) M' := by
  refine fm_enter (by decide) (Nat.le_of_ble_eq_true rfl) ?_
  intro p e s m args below meth c ls C E hl
  have hl : lv_has ls 3 [(0, .ref (G.2.1 0)), (1, .int v1), (2, .int v2)] := hl
  have J35 : ∀ (M : fm_M) (H : Heap) (locs : List Loc) (ls : Array Slot), fm_Wd shM G M s H locs → lv_has ls 3 [(0, .ref (G.2.1 0))] → pModel_sample_J35 N M = some (r, M') → W p l e { frames := 4, cells := 0, slots := 0, locals := 93 } s m args below meth c H locs 0 0 (fm_Z below shM G args s (some (.int r)) M') (F0 m 35 ls []) := by
    intro M H locs ls E hl hf
    unfold pModel_sample_J35 at hf
    refine lv_aload_n C.1 C.2.1 dX10_sample_35 rfl (lv_at hl 0 rfl) ?_
    obtain ⟨⟨x36, M36⟩, hc36, hf⟩ := fm_bd hf
    dsimp only at hf
    refine fm_callV C E [] [] lm_X10_157 wk_X10_lost (c_Model_lost l G _ _ _ hc36) hM_0 rfl rfl rfl hl.1 (by simp [Value.category]) ⟨⟨rfl, rfl⟩, by decide, by decide⟩ ⟨by decide, by decide⟩ dX10_sample_36 rfl (fun H locs E => ?_)
    refine W.eq (g2 := F0 m 39 ls (.int x36 :: [])) rfl ?_
    obtain ⟨rfl, rfl⟩ := fm_rt2 hf
    exact fm_iret C E rfl rfl dX10_sample_39
  unfold pModel_sample at hf
  refine lv_aload_n C.1 C.2.1 dX10_sample_0 rfl (lv_at hl 0 rfl) ?_
  refine lv_iconst (v := 0) C.1 C.2.1 dX10_sample_1 (by decide) ?_
  obtain ⟨M2, e2, hf⟩ := fm_pt_s hf
  refine fm_put' C E e2 lp_X10_77 hM_0 rfl dX10_sample_2 (fun H locs E => ?_)
  refine lv_aload_n C.1 C.2.1 dX10_sample_5 rfl (lv_at hl 0 rfl) ?_
  refine lv_iload_n C.1 C.2.1 dX10_sample_6 rfl (lv_at hl 1 rfl) ?_
  obtain ⟨x7, hc7, hf⟩ := fm_bd hf
  refine fm_callV C E [.int _] [] lm_X10_153 wk_X10_isMic (c_Model_isMic l G _ _ _  hc7) hM_0 rfl rfl rfl hl.1 (by simp [Value.category]) ⟨⟨rfl, rfl⟩, by decide, by decide⟩ ⟨by decide, by decide⟩ dX10_sample_7 rfl (fun H locs E => ?_)
  refine W.eq (g2 := F0 m 10 ls (.int x7 :: [])) rfl ?_
  refine lv_if_eq (tgt := 35) C.1 C.2.1 dX10_sample_10 (by decide) (fun hc10 => ?_) (fun hc10 => ?_)
  · have hf := fm_ip hf hc10
    exact J35 _ _ _ _ E (lv_sub hl [0] rfl) hf
  · have hf := fm_in' hf hc10
    refine lv_iload_n C.1 C.2.1 dX10_sample_13 rfl (lv_at hl 2 rfl) ?_
    refine lv_sipush (v := (-300)) C.1 C.2.1 dX10_sample_14 (by decide) ?_
    refine lv_sipush (v := 300) C.1 C.2.1 dX10_sample_17 (by decide) ?_
    obtain ⟨x20, hc20, hf⟩ := fm_bd hf
    refine fm_callS C E [.int _, .int _, .int _] [] lm_X10_83 wk_X10_in (c_Model_in l G _ _ _ _ _  hc20) rfl hl.1 (by simp [Value.category]) ⟨⟨rfl, rfl⟩, by decide, by decide⟩ ⟨by decide, by decide⟩ dX10_sample_20 rfl (fun H locs E => ?_)
    refine W.eq (g2 := F0 m 23 ls (.int x20 :: [])) rfl ?_
    refine lv_if_eq (tgt := 35) C.1 C.2.1 dX10_sample_23 (by decide) (fun hc23 => ?_) (fun hc23 => ?_)
    · have hf := fm_ip hf hc23
      exact J35 _ _ _ _ E (lv_sub hl [0] rfl) hf
    · have hf := fm_in' hf hc23
      refine lv_aload_n C.1 C.2.1 dX10_sample_26 rfl (lv_at hl 0 rfl) ?_
      refine lv_iload_n C.1 C.2.1 dX10_sample_27 rfl (lv_at hl 1 rfl) ?_
      refine lv_iload_n C.1 C.2.1 dX10_sample_28 rfl (lv_at hl 2 rfl) ?_
      obtain ⟨x29, hc29, hf⟩ := fm_bd hf
      refine fm_callV C E [.int _, .int _] [] lm_X10_176 wk_X10_sampleOf (c_Model_sampleOf l G N _ _ _ _  hc29) hM_0 rfl rfl rfl hl.1 (by simp [Value.category]) ⟨⟨rfl, rfl⟩, by decide, by decide⟩ ⟨by decide, by decide⟩ dX10_sample_29 rfl (fun H locs E => ?_)
      refine W.eq (g2 := F0 m 32 ls (.int x29 :: [])) rfl ?_
      refine lv_goto (tgt := 39) C.1 C.2.1 dX10_sample_32 (by decide) ?_
      obtain ⟨rfl, rfl⟩ := fm_rt2 hf
      exact fm_iret C E rfl rfl dX10_sample_39
theorem dX10_turnedOf_0 : decode cX10_turnedOf 0 = .ok (.bipush 8, 2) := by decide +kernel
theorem dX10_turnedOf_2 : decode cX10_turnedOf 2 = .ok (.iload_n 3, 1) := by decide +kernel
theorem dX10_turnedOf_3 : decode cX10_turnedOf 3 = .ok (.imul, 1) := by decide +kernel
theorem dX10_turnedOf_4 : decode cX10_turnedOf 4 = .ok (.aload_n 0, 1) := by decide +kernel
theorem dX10_turnedOf_5 : decode cX10_turnedOf 5 = .ok (.iload_n 1, 1) := by decide +kernel
theorem dX10_turnedOf_6 : decode cX10_turnedOf 6 = .ok (.iconst 0, 1) := by decide +kernel
theorem dX10_turnedOf_7 : decode cX10_turnedOf 7 = .ok (.invokevirtual 150, 3) := by decide +kernel
theorem dX10_turnedOf_10 : decode cX10_turnedOf 10 = .ok (.iload_n 2, 1) := by decide +kernel
theorem dX10_turnedOf_11 : decode cX10_turnedOf 11 = .ok (.imul, 1) := by decide +kernel
theorem dX10_turnedOf_12 : decode cX10_turnedOf 12 = .ok (.iadd, 1) := by decide +kernel
theorem dX10_turnedOf_13 : decode cX10_turnedOf 13 = .ok (.istore 4, 2) := by decide +kernel
theorem dX10_turnedOf_15 : decode cX10_turnedOf 15 = .ok (.iload 4, 2) := by decide +kernel
theorem dX10_turnedOf_17 : decode cX10_turnedOf 17 = .ok (.invokestatic 166, 3) := by decide +kernel
theorem dX10_turnedOf_20 : decode cX10_turnedOf 20 = .ok (.istore 5, 2) := by decide +kernel
theorem dX10_turnedOf_22 : decode cX10_turnedOf 22 = .ok (.iload 4, 2) := by decide +kernel
theorem dX10_turnedOf_24 : decode cX10_turnedOf 24 = .ok (.bipush 8, 2) := by decide +kernel
theorem dX10_turnedOf_26 : decode cX10_turnedOf 26 = .ok (.iload 5, 2) := by decide +kernel
theorem dX10_turnedOf_28 : decode cX10_turnedOf 28 = .ok (.imul, 1) := by decide +kernel
theorem dX10_turnedOf_29 : decode cX10_turnedOf 29 = .ok (.isub, 1) := by decide +kernel
theorem dX10_turnedOf_30 : decode cX10_turnedOf 30 = .ok (.istore 6, 2) := by decide +kernel
theorem dX10_turnedOf_32 : decode cX10_turnedOf 32 = .ok (.bipush 8, 2) := by decide +kernel
theorem dX10_turnedOf_34 : decode cX10_turnedOf 34 = .ok (.iload 6, 2) := by decide +kernel
theorem dX10_turnedOf_36 : decode cX10_turnedOf 36 = .ok (.isub, 1) := by decide +kernel
theorem dX10_turnedOf_37 : decode cX10_turnedOf 37 = .ok (.aload_n 0, 1) := by decide +kernel
theorem dX10_turnedOf_38 : decode cX10_turnedOf 38 = .ok (.iload_n 1, 1) := by decide +kernel
theorem dX10_turnedOf_39 : decode cX10_turnedOf 39 = .ok (.iload 5, 2) := by decide +kernel
theorem dX10_turnedOf_41 : decode cX10_turnedOf 41 = .ok (.invokevirtual 179, 3) := by decide +kernel
theorem dX10_turnedOf_44 : decode cX10_turnedOf 44 = .ok (.imul, 1) := by decide +kernel
theorem dX10_turnedOf_45 : decode cX10_turnedOf 45 = .ok (.iload 6, 2) := by decide +kernel
theorem dX10_turnedOf_47 : decode cX10_turnedOf 47 = .ok (.ifCond .ne 7, 3) := by decide +kernel
theorem dX10_turnedOf_50 : decode cX10_turnedOf 50 = .ok (.iconst 0, 1) := by decide +kernel
theorem dX10_turnedOf_51 : decode cX10_turnedOf 51 = .ok (.goto 15, 3) := by decide +kernel
theorem dX10_turnedOf_54 : decode cX10_turnedOf 54 = .ok (.iload 6, 2) := by decide +kernel
theorem dX10_turnedOf_56 : decode cX10_turnedOf 56 = .ok (.aload_n 0, 1) := by decide +kernel
theorem dX10_turnedOf_57 : decode cX10_turnedOf 57 = .ok (.iload_n 1, 1) := by decide +kernel
theorem dX10_turnedOf_58 : decode cX10_turnedOf 58 = .ok (.iload 5, 2) := by decide +kernel
theorem dX10_turnedOf_60 : decode cX10_turnedOf 60 = .ok (.iconst 1, 1) := by decide +kernel
theorem dX10_turnedOf_61 : decode cX10_turnedOf 61 = .ok (.iadd, 1) := by decide +kernel
theorem dX10_turnedOf_62 : decode cX10_turnedOf 62 = .ok (.invokevirtual 179, 3) := by decide +kernel
theorem dX10_turnedOf_65 : decode cX10_turnedOf 65 = .ok (.imul, 1) := by decide +kernel
theorem dX10_turnedOf_66 : decode cX10_turnedOf 66 = .ok (.iadd, 1) := by decide +kernel
theorem dX10_turnedOf_67 : decode cX10_turnedOf 67 = .ok (.istore 7, 2) := by decide +kernel
theorem dX10_turnedOf_69 : decode cX10_turnedOf 69 = .ok (.iload 7, 2) := by decide +kernel
theorem dX10_turnedOf_71 : decode cX10_turnedOf 71 = .ok (.bipush 8, 2) := by decide +kernel
theorem dX10_turnedOf_73 : decode cX10_turnedOf 73 = .ok (.idiv, 1) := by decide +kernel
theorem dX10_turnedOf_74 : decode cX10_turnedOf 74 = .ok (.aload_n 0, 1) := by decide +kernel
theorem dX10_turnedOf_75 : decode cX10_turnedOf 75 = .ok (.iload_n 1, 1) := by decide +kernel
theorem dX10_turnedOf_76 : decode cX10_turnedOf 76 = .ok (.iconst 3, 1) := by decide +kernel
theorem dX10_turnedOf_77 : decode cX10_turnedOf 77 = .ok (.invokevirtual 150, 3) := by decide +kernel
theorem dX10_turnedOf_80 : decode cX10_turnedOf 80 = .ok (.imul, 1) := by decide +kernel
theorem dX10_turnedOf_81 : decode cX10_turnedOf 81 = .ok (.bipush 100, 2) := by decide +kernel
theorem dX10_turnedOf_83 : decode cX10_turnedOf 83 = .ok (.idiv, 1) := by decide +kernel
theorem dX10_turnedOf_84 : decode cX10_turnedOf 84 = .ok (.ireturn, 1) := by decide +kernel
set_option maxHeartbeats 4000000 in
set_option maxRecDepth 100000 in
theorem c_Model_turnedOf (l : Launch) (G : fm_G) (M : fm_M) (v1 : Int32) (v2 : Int32) (v3 : Int32) (r : Int32) (hf : pModel_turnedOf M v1 v2 v3 = some r) : fm_Met l yX10_turnedOf cX10_turnedOf 8 (some .int) { frames := 2, cells := 0, slots := 0, locals := 42 } shM G [.ref (G.2.1 0), .int v1, .int v2, .int v3] M (some (.int r)) M := by
  refine fm_enter (by decide) (Nat.le_of_ble_eq_true rfl) ?_
  intro p e s m args below meth c ls C E hl
  have hl : lv_has ls 8 [(0, .ref (G.2.1 0)), (1, .int v1), (2, .int v2), (3, .int v3)] := hl
  have J66 : ∀ (v1 : Int32) (s0 : Int32) (s1 : Int32) (H : Heap) (locs : List Loc) (ls : Array Slot), fm_Wd shM G M s H locs → lv_has ls 8 [(0, .ref (G.2.1 0)), (1, .int v1)] → pModel_turnedOf_J66 M v1 s0 s1 = some r → W p l e { frames := 2, cells := 0, slots := 0, locals := 42 } s m args below meth c H locs 0 0 (fm_Z below shM G args s (some (.int r)) M) (F0 m 66 ls [.int s1, .int s0]) := by
    intro v1 s0 s1 H locs ls E hl hf
    unfold pModel_turnedOf_J66 at hf
    refine lv_iadd C.1 C.2.1 dX10_turnedOf_66 ?_
    refine lv_istore (lv' := [(7, .int _), (0, .ref _), (1, .int _)]) C.1 C.2.1 dX10_turnedOf_67 hl (by decide) rfl (fun ls hl => ?_)
    refine lv_iload C.1 C.2.1 dX10_turnedOf_69 (lv_at hl 0 rfl) ?_
    refine lv_bipush (v := 8) C.1 C.2.1 dX10_turnedOf_71 (by decide) ?_
    refine lv_idiv C.1 C.2.1 dX10_turnedOf_73 (by decide) ?_
    refine lv_aload_n C.1 C.2.1 dX10_turnedOf_74 rfl (lv_at hl 1 rfl) ?_
    refine lv_iload_n C.1 C.2.1 dX10_turnedOf_75 rfl (lv_at hl 2 rfl) ?_
    refine lv_iconst (v := 3) C.1 C.2.1 dX10_turnedOf_76 (by decide) ?_
    obtain ⟨x77, hc77, hf⟩ := fm_bd hf
    refine fm_callV C E [.int _, .int _] [.int _] lm_X10_150 wk_X10_of (c_Model_of l G _ _ _ _  hc77) hM_0 rfl rfl rfl hl.1 (by simp [Value.category]) ⟨⟨rfl, rfl⟩, by decide, by decide⟩ ⟨by decide, by decide⟩ dX10_turnedOf_77 rfl (fun H locs E => ?_)
    refine W.eq (g2 := F0 m 80 ls (.int x77 :: [.int _])) rfl ?_
    refine lv_imul C.1 C.2.1 dX10_turnedOf_80 ?_
    refine lv_bipush (v := 100) C.1 C.2.1 dX10_turnedOf_81 (by decide) ?_
    refine lv_idiv C.1 C.2.1 dX10_turnedOf_83 (by decide) ?_
    obtain rfl := fm_rt1 hf
    exact fm_iret C E rfl rfl dX10_turnedOf_84
  unfold pModel_turnedOf at hf
  refine lv_bipush (v := 8) C.1 C.2.1 dX10_turnedOf_0 (by decide) ?_
  refine lv_iload_n C.1 C.2.1 dX10_turnedOf_2 rfl (lv_at hl 3 rfl) ?_
  refine lv_imul C.1 C.2.1 dX10_turnedOf_3 ?_
  refine lv_aload_n C.1 C.2.1 dX10_turnedOf_4 rfl (lv_at hl 0 rfl) ?_
  refine lv_iload_n C.1 C.2.1 dX10_turnedOf_5 rfl (lv_at hl 1 rfl) ?_
  refine lv_iconst (v := 0) C.1 C.2.1 dX10_turnedOf_6 (by decide) ?_
  obtain ⟨x7, hc7, hf⟩ := fm_bd hf
  refine fm_callV C E [.int _, .int _] [.int _] lm_X10_150 wk_X10_of (c_Model_of l G _ _ _ _  hc7) hM_0 rfl rfl rfl hl.1 (by simp [Value.category]) ⟨⟨rfl, rfl⟩, by decide, by decide⟩ ⟨by decide, by decide⟩ dX10_turnedOf_7 rfl (fun H locs E => ?_)
  refine W.eq (g2 := F0 m 10 ls (.int x7 :: [.int _])) rfl ?_
  refine lv_iload_n C.1 C.2.1 dX10_turnedOf_10 rfl (lv_at hl 2 rfl) ?_
  refine lv_imul C.1 C.2.1 dX10_turnedOf_11 ?_
  refine lv_iadd C.1 C.2.1 dX10_turnedOf_12 ?_
  refine lv_istore (lv' := [(4, .int _), (0, .ref _), (1, .int _), (2, .int _), (3, .int _)]) C.1 C.2.1 dX10_turnedOf_13 hl (by decide) rfl (fun ls hl => ?_)
  refine lv_iload C.1 C.2.1 dX10_turnedOf_15 (lv_at hl 0 rfl) ?_
  obtain ⟨x17, hc17, hf⟩ := fm_bd hf
  refine fm_callS C E [.int _] [] lm_X10_166 wk_X10_eighths (c_Model_eighths l G _ _ _  hc17) rfl hl.1 (by simp [Value.category]) ⟨⟨rfl, rfl⟩, by decide, by decide⟩ ⟨by decide, by decide⟩ dX10_turnedOf_17 rfl (fun H locs E => ?_)
  refine W.eq (g2 := F0 m 20 ls (.int x17 :: [])) rfl ?_
  refine lv_istore (lv' := [(5, .int _), (4, .int _), (0, .ref _), (1, .int _), (2, .int _), (3, .int _)]) C.1 C.2.1 dX10_turnedOf_20 hl (by decide) rfl (fun ls hl => ?_)
  refine lv_iload C.1 C.2.1 dX10_turnedOf_22 (lv_at hl 1 rfl) ?_
  refine lv_bipush (v := 8) C.1 C.2.1 dX10_turnedOf_24 (by decide) ?_
  refine lv_iload C.1 C.2.1 dX10_turnedOf_26 (lv_at hl 0 rfl) ?_
  refine lv_imul C.1 C.2.1 dX10_turnedOf_28 ?_
  refine lv_isub C.1 C.2.1 dX10_turnedOf_29 ?_
  refine lv_istore (lv' := [(6, .int _), (5, .int _), (4, .int _), (0, .ref _), (1, .int _), (2, .int _), (3, .int _)]) C.1 C.2.1 dX10_turnedOf_30 hl (by decide) rfl (fun ls hl => ?_)
  refine lv_bipush (v := 8) C.1 C.2.1 dX10_turnedOf_32 (by decide) ?_
  refine lv_iload C.1 C.2.1 dX10_turnedOf_34 (lv_at hl 0 rfl) ?_
  refine lv_isub C.1 C.2.1 dX10_turnedOf_36 ?_
  refine lv_aload_n C.1 C.2.1 dX10_turnedOf_37 rfl (lv_at hl 3 rfl) ?_
  refine lv_iload_n C.1 C.2.1 dX10_turnedOf_38 rfl (lv_at hl 4 rfl) ?_
  refine lv_iload C.1 C.2.1 dX10_turnedOf_39 (lv_at hl 1 rfl) ?_
  obtain ⟨x41, hc41, hf⟩ := fm_bd hf
  refine fm_callV C E [.int _, .int _] [.int _] lm_X10_179 wk_X10_heard (c_Model_heard l G _ _ _ _  hc41) hM_0 rfl rfl rfl hl.1 (by simp [Value.category]) ⟨⟨rfl, rfl⟩, by decide, by decide⟩ ⟨by decide, by decide⟩ dX10_turnedOf_41 rfl (fun H locs E => ?_)
  refine W.eq (g2 := F0 m 44 ls (.int x41 :: [.int _])) rfl ?_
  refine lv_imul C.1 C.2.1 dX10_turnedOf_44 ?_
  refine lv_iload C.1 C.2.1 dX10_turnedOf_45 (lv_at hl 0 rfl) ?_
  refine lv_if_ne (tgt := 54) C.1 C.2.1 dX10_turnedOf_47 (by decide) (fun hc47 => ?_) (fun hc47 => ?_)
  · have hf := fm_in' hf hc47
    refine lv_iload C.1 C.2.1 dX10_turnedOf_54 (lv_at hl 0 rfl) ?_
    refine lv_aload_n C.1 C.2.1 dX10_turnedOf_56 rfl (lv_at hl 3 rfl) ?_
    refine lv_iload_n C.1 C.2.1 dX10_turnedOf_57 rfl (lv_at hl 4 rfl) ?_
    refine lv_iload C.1 C.2.1 dX10_turnedOf_58 (lv_at hl 1 rfl) ?_
    refine lv_iconst (v := 1) C.1 C.2.1 dX10_turnedOf_60 (by decide) ?_
    refine lv_iadd C.1 C.2.1 dX10_turnedOf_61 ?_
    obtain ⟨x62, hc62, hf⟩ := fm_bd hf
    refine fm_callV C E [.int _, .int _] [.int _, .int _] lm_X10_179 wk_X10_heard (c_Model_heard l G _ _ _ _  hc62) hM_0 rfl rfl rfl hl.1 (by simp [Value.category]) ⟨⟨rfl, rfl⟩, by decide, by decide⟩ ⟨by decide, by decide⟩ dX10_turnedOf_62 rfl (fun H locs E => ?_)
    refine W.eq (g2 := F0 m 65 ls (.int x62 :: [.int _, .int _])) rfl ?_
    refine lv_imul C.1 C.2.1 dX10_turnedOf_65 ?_
    exact J66 _ _ _ _ _ _ E (lv_sub hl [3, 4] rfl) hf
  · have hf := fm_ip hf hc47
    refine lv_iconst (v := 0) C.1 C.2.1 dX10_turnedOf_50 (by decide) ?_
    refine lv_goto (tgt := 66) C.1 C.2.1 dX10_turnedOf_51 (by decide) ?_
    exact J66 _ _ _ _ _ _ E (lv_sub hl [3, 4] rfl) hf
theorem dX10_isNear_0 : decode cX10_isNear 0 = .ok (.iload_n 0, 1) := by decide +kernel
theorem dX10_isNear_1 : decode cX10_isNear 1 = .ok (.sipush (-200), 3) := by decide +kernel
theorem dX10_isNear_4 : decode cX10_isNear 4 = .ok (.sipush 200, 3) := by decide +kernel
theorem dX10_isNear_7 : decode cX10_isNear 7 = .ok (.invokestatic 83, 3) := by decide +kernel
theorem dX10_isNear_10 : decode cX10_isNear 10 = .ok (.ireturn, 1) := by decide +kernel
set_option maxHeartbeats 4000000 in
set_option maxRecDepth 100000 in
theorem c_Model_isNear (l : Launch) (G : fm_G) (M : fm_M) (v0 : Int32) (r : Int32) (hf : pModel_isNear M v0 = some r) : fm_Met l yX10_isNear cX10_isNear 1 (some .boolean) { frames := 1, cells := 0, slots := 0, locals := 22 } shM G [.int v0] M (some (.int r)) M := by
  refine fm_enter (by decide) (Nat.le_of_ble_eq_true rfl) ?_
  intro p e s m args below meth c ls C E hl
  have hl : lv_has ls 1 [(0, .int v0)] := hl
  unfold pModel_isNear at hf
  refine lv_iload_n C.1 C.2.1 dX10_isNear_0 rfl (lv_at hl 0 rfl) ?_
  refine lv_sipush (v := (-200)) C.1 C.2.1 dX10_isNear_1 (by decide) ?_
  refine lv_sipush (v := 200) C.1 C.2.1 dX10_isNear_4 (by decide) ?_
  obtain ⟨x7, hc7, hf⟩ := fm_bd hf
  refine fm_callS C E [.int _, .int _, .int _] [] lm_X10_83 wk_X10_in (c_Model_in l G _ _ _ _ _  hc7) rfl hl.1 (by simp [Value.category]) ⟨⟨rfl, rfl⟩, by decide, by decide⟩ ⟨by decide, by decide⟩ dX10_isNear_7 rfl (fun H locs E => ?_)
  refine W.eq (g2 := F0 m 10 ls (.int x7 :: [])) rfl ?_
  obtain ⟨hn10, hf⟩ := fm_bo_s hf
  obtain rfl := fm_rt1 hf
  exact fm_iret C E rfl hn10 dX10_isNear_10
theorem dX10_turned_0 : decode cX10_turned 0 = .ok (.aload_n 0, 1) := by decide +kernel
theorem dX10_turned_1 : decode cX10_turned 1 = .ok (.iconst 0, 1) := by decide +kernel
theorem dX10_turned_2 : decode cX10_turned 2 = .ok (.putfield 77, 3) := by decide +kernel
theorem dX10_turned_5 : decode cX10_turned 5 = .ok (.aload_n 0, 1) := by decide +kernel
theorem dX10_turned_6 : decode cX10_turned 6 = .ok (.iload_n 1, 1) := by decide +kernel
theorem dX10_turned_7 : decode cX10_turned 7 = .ok (.invokevirtual 153, 3) := by decide +kernel
theorem dX10_turned_10 : decode cX10_turned 10 = .ok (.ifCond .eq 17, 3) := by decide +kernel
theorem dX10_turned_13 : decode cX10_turned 13 = .ok (.iload_n 2, 1) := by decide +kernel
theorem dX10_turned_14 : decode cX10_turned 14 = .ok (.invokestatic 182, 3) := by decide +kernel
theorem dX10_turned_17 : decode cX10_turned 17 = .ok (.ifCond .eq 10, 3) := by decide +kernel
theorem dX10_turned_20 : decode cX10_turned 20 = .ok (.iload_n 3, 1) := by decide +kernel
theorem dX10_turned_21 : decode cX10_turned 21 = .ok (.invokestatic 185, 3) := by decide +kernel
theorem dX10_turned_24 : decode cX10_turned 24 = .ok (.ifCond .ne 8, 3) := by decide +kernel
theorem dX10_turned_27 : decode cX10_turned 27 = .ok (.aload_n 0, 1) := by decide +kernel
theorem dX10_turned_28 : decode cX10_turned 28 = .ok (.invokevirtual 157, 3) := by decide +kernel
theorem dX10_turned_31 : decode cX10_turned 31 = .ok (.ireturn, 1) := by decide +kernel
theorem dX10_turned_32 : decode cX10_turned 32 = .ok (.aload_n 0, 1) := by decide +kernel
theorem dX10_turned_33 : decode cX10_turned 33 = .ok (.invokevirtual 188, 3) := by decide +kernel
theorem dX10_turned_36 : decode cX10_turned 36 = .ok (.aload_n 0, 1) := by decide +kernel
theorem dX10_turned_37 : decode cX10_turned 37 = .ok (.iload_n 1, 1) := by decide +kernel
theorem dX10_turned_38 : decode cX10_turned 38 = .ok (.iload_n 2, 1) := by decide +kernel
theorem dX10_turned_39 : decode cX10_turned 39 = .ok (.iload_n 3, 1) := by decide +kernel
theorem dX10_turned_40 : decode cX10_turned 40 = .ok (.invokevirtual 191, 3) := by decide +kernel
theorem dX10_turned_43 : decode cX10_turned 43 = .ok (.ireturn, 1) := by decide +kernel
set_option maxHeartbeats 4000000 in
set_option maxRecDepth 100000 in
theorem c_Model_turned (l : Launch) (G : fm_G) (N : Nat) (M : fm_M) (v1 : Int32) (v2 : Int32) (v3 : Int32) (r : Int32) (M' : fm_M) (hf : pModel_turned N M v1 v2 v3 = some (r, M')) : fm_Met l yX10_turned cX10_turned 4 (some .int) { frames := 5, cells := 0, slots := 0, locals := 115 } shM G [.ref (G.2.1 0), .int v1, .int v2, .int v3] M (some (.int r)) M' := by
  refine fm_enter (by decide) (Nat.le_of_ble_eq_true rfl) ?_
  intro p e s m args below meth c ls C E hl
  have hl : lv_has ls 4 [(0, .ref (G.2.1 0)), (1, .int v1), (2, .int v2), (3, .int v3)] := hl
  have J27 : ∀ (M : fm_M) (H : Heap) (locs : List Loc) (ls : Array Slot), fm_Wd shM G M s H locs → lv_has ls 4 [(0, .ref (G.2.1 0))] → pModel_turned_J27 N M = some (r, M') → W p l e { frames := 5, cells := 0, slots := 0, locals := 115 } s m args below meth c H locs 0 0 (fm_Z below shM G args s (some (.int r)) M') (F0 m 27 ls []) := by
    intro M H locs ls E hl hf
    unfold pModel_turned_J27 at hf
    refine lv_aload_n C.1 C.2.1 dX10_turned_27 rfl (lv_at hl 0 rfl) ?_
    obtain ⟨⟨x28, M28⟩, hc28, hf⟩ := fm_bd hf
    dsimp only at hf
    refine fm_callV C E [] [] lm_X10_157 wk_X10_lost (c_Model_lost l G _ _ _ hc28) hM_0 rfl rfl rfl hl.1 (by simp [Value.category]) ⟨⟨rfl, rfl⟩, by decide, by decide⟩ ⟨by decide, by decide⟩ dX10_turned_28 rfl (fun H locs E => ?_)
    refine W.eq (g2 := F0 m 31 ls (.int x28 :: [])) rfl ?_
    obtain ⟨rfl, rfl⟩ := fm_rt2 hf
    exact fm_iret C E rfl rfl dX10_turned_31
  unfold pModel_turned at hf
  refine lv_aload_n C.1 C.2.1 dX10_turned_0 rfl (lv_at hl 0 rfl) ?_
  refine lv_iconst (v := 0) C.1 C.2.1 dX10_turned_1 (by decide) ?_
  obtain ⟨M2, e2, hf⟩ := fm_pt_s hf
  refine fm_put' C E e2 lp_X10_77 hM_0 rfl dX10_turned_2 (fun H locs E => ?_)
  refine lv_aload_n C.1 C.2.1 dX10_turned_5 rfl (lv_at hl 0 rfl) ?_
  refine lv_iload_n C.1 C.2.1 dX10_turned_6 rfl (lv_at hl 1 rfl) ?_
  obtain ⟨x7, hc7, hf⟩ := fm_bd hf
  refine fm_callV C E [.int _] [] lm_X10_153 wk_X10_isMic (c_Model_isMic l G _ _ _  hc7) hM_0 rfl rfl rfl hl.1 (by simp [Value.category]) ⟨⟨rfl, rfl⟩, by decide, by decide⟩ ⟨by decide, by decide⟩ dX10_turned_7 rfl (fun H locs E => ?_)
  refine W.eq (g2 := F0 m 10 ls (.int x7 :: [])) rfl ?_
  refine lv_if_eq (tgt := 27) C.1 C.2.1 dX10_turned_10 (by decide) (fun hc10 => ?_) (fun hc10 => ?_)
  · have hf := fm_ip hf hc10
    exact J27 _ _ _ _ E (lv_sub hl [0] rfl) hf
  · have hf := fm_in' hf hc10
    refine lv_iload_n C.1 C.2.1 dX10_turned_13 rfl (lv_at hl 2 rfl) ?_
    obtain ⟨x14, hc14, hf⟩ := fm_bd hf
    refine fm_callS C E [.int _] [] lm_X10_182 wk_X10_isSide (c_Model_isSide l G _ _ _  hc14) rfl hl.1 (by simp [Value.category]) ⟨⟨rfl, rfl⟩, by decide, by decide⟩ ⟨by decide, by decide⟩ dX10_turned_14 rfl (fun H locs E => ?_)
    refine W.eq (g2 := F0 m 17 ls (.int x14 :: [])) rfl ?_
    refine lv_if_eq (tgt := 27) C.1 C.2.1 dX10_turned_17 (by decide) (fun hc17 => ?_) (fun hc17 => ?_)
    · have hf := fm_ip hf hc17
      exact J27 _ _ _ _ E (lv_sub hl [0] rfl) hf
    · have hf := fm_in' hf hc17
      refine lv_iload_n C.1 C.2.1 dX10_turned_20 rfl (lv_at hl 3 rfl) ?_
      obtain ⟨x21, hc21, hf⟩ := fm_bd hf
      refine fm_callS C E [.int _] [] lm_X10_185 wk_X10_isNear (c_Model_isNear l G _ _ _  hc21) rfl hl.1 (by simp [Value.category]) ⟨⟨rfl, rfl⟩, by decide, by decide⟩ ⟨by decide, by decide⟩ dX10_turned_21 rfl (fun H locs E => ?_)
      refine W.eq (g2 := F0 m 24 ls (.int x21 :: [])) rfl ?_
      refine lv_if_ne (tgt := 32) C.1 C.2.1 dX10_turned_24 (by decide) (fun hc24 => ?_) (fun hc24 => ?_)
      · have hf := fm_in' hf hc24
        refine lv_aload_n C.1 C.2.1 dX10_turned_32 rfl (lv_at hl 0 rfl) ?_
        obtain ⟨M33, hc33, hf⟩ := fm_bd hf
        refine fm_callV C E [] [] lm_X10_188 wk_X10_hear (c_Model_hear l G N _ _ hc33) hM_0 rfl rfl rfl hl.1 (by simp [Value.category]) ⟨⟨rfl, rfl⟩, by decide, by decide⟩ ⟨by decide, by decide⟩ dX10_turned_33 rfl (fun H locs E => ?_)
        refine W.eq (g2 := F0 m 36 ls []) rfl ?_
        refine lv_aload_n C.1 C.2.1 dX10_turned_36 rfl (lv_at hl 0 rfl) ?_
        refine lv_iload_n C.1 C.2.1 dX10_turned_37 rfl (lv_at hl 1 rfl) ?_
        refine lv_iload_n C.1 C.2.1 dX10_turned_38 rfl (lv_at hl 2 rfl) ?_
        refine lv_iload_n C.1 C.2.1 dX10_turned_39 rfl (lv_at hl 3 rfl) ?_
        obtain ⟨x40, hc40, hf⟩ := fm_bd hf
        refine fm_callV C E [.int _, .int _, .int _] [] lm_X10_191 wk_X10_turnedOf (c_Model_turnedOf l G _ _ _ _ _  hc40) hM_0 rfl rfl rfl hl.1 (by simp [Value.category]) ⟨⟨rfl, rfl⟩, by decide, by decide⟩ ⟨by decide, by decide⟩ dX10_turned_40 rfl (fun H locs E => ?_)
        refine W.eq (g2 := F0 m 43 ls (.int x40 :: [])) rfl ?_
        obtain ⟨rfl, rfl⟩ := fm_rt2 hf
        exact fm_iret C E rfl rfl dX10_turned_43
      · have hf := fm_ip hf hc24
        exact J27 _ _ _ _ E (lv_sub hl [0] rfl) hf
theorem dX10_liveBits_0 : decode cX10_liveBits 0 = .ok (.iconst 0, 1) := by decide +kernel
theorem dX10_liveBits_1 : decode cX10_liveBits 1 = .ok (.istore_n 1, 1) := by decide +kernel
theorem dX10_liveBits_2 : decode cX10_liveBits 2 = .ok (.iconst 0, 1) := by decide +kernel
theorem dX10_liveBits_3 : decode cX10_liveBits 3 = .ok (.istore_n 2, 1) := by decide +kernel
theorem dX10_liveBits_4 : decode cX10_liveBits 4 = .ok (.iload_n 2, 1) := by decide +kernel
theorem dX10_liveBits_5 : decode cX10_liveBits 5 = .ok (.aload_n 0, 1) := by decide +kernel
theorem dX10_liveBits_6 : decode cX10_liveBits 6 = .ok (.getfield 9, 3) := by decide +kernel
theorem dX10_liveBits_9 : decode cX10_liveBits 9 = .ok (.iconst 0, 1) := by decide +kernel
theorem dX10_liveBits_10 : decode cX10_liveBits 10 = .ok (.iaload, 1) := by decide +kernel
theorem dX10_liveBits_11 : decode cX10_liveBits 11 = .ok (.if_icmp .ge 28, 3) := by decide +kernel
theorem dX10_liveBits_14 : decode cX10_liveBits 14 = .ok (.iload_n 1, 1) := by decide +kernel
theorem dX10_liveBits_15 : decode cX10_liveBits 15 = .ok (.aload_n 0, 1) := by decide +kernel
theorem dX10_liveBits_16 : decode cX10_liveBits 16 = .ok (.iload_n 2, 1) := by decide +kernel
theorem dX10_liveBits_17 : decode cX10_liveBits 17 = .ok (.iconst 5, 1) := by decide +kernel
theorem dX10_liveBits_18 : decode cX10_liveBits 18 = .ok (.invokevirtual 150, 3) := by decide +kernel
theorem dX10_liveBits_21 : decode cX10_liveBits 21 = .ok (.ifCond .ne 9, 3) := by decide +kernel
theorem dX10_liveBits_24 : decode cX10_liveBits 24 = .ok (.iconst 1, 1) := by decide +kernel
theorem dX10_liveBits_25 : decode cX10_liveBits 25 = .ok (.iload_n 2, 1) := by decide +kernel
theorem dX10_liveBits_26 : decode cX10_liveBits 26 = .ok (.ishl, 1) := by decide +kernel
theorem dX10_liveBits_27 : decode cX10_liveBits 27 = .ok (.goto 4, 3) := by decide +kernel
theorem dX10_liveBits_30 : decode cX10_liveBits 30 = .ok (.iconst 0, 1) := by decide +kernel
theorem dX10_liveBits_31 : decode cX10_liveBits 31 = .ok (.ior, 1) := by decide +kernel
theorem dX10_liveBits_32 : decode cX10_liveBits 32 = .ok (.istore_n 1, 1) := by decide +kernel
theorem dX10_liveBits_33 : decode cX10_liveBits 33 = .ok (.iinc 2 1, 3) := by decide +kernel
theorem dX10_liveBits_36 : decode cX10_liveBits 36 = .ok (.goto (-32), 3) := by decide +kernel
theorem dX10_liveBits_39 : decode cX10_liveBits 39 = .ok (.iload_n 1, 1) := by decide +kernel
theorem dX10_liveBits_40 : decode cX10_liveBits 40 = .ok (.ireturn, 1) := by decide +kernel
set_option maxHeartbeats 4000000 in
set_option maxRecDepth 100000 in
theorem c_Model_liveBits (l : Launch) (G : fm_G) (N : Nat) (M : fm_M) (r : Int32) (hf : pModel_liveBits N M = some r) : fm_Met l yX10_liveBits cX10_liveBits 3 (some .int) { frames := 1, cells := 0, slots := 0, locals := 22 } shM G [.ref (G.2.1 0)] M (some (.int r)) M := by
  refine fm_enter (by decide) (Nat.le_of_ble_eq_true rfl) ?_
  intro p e s m args below meth c ls C E hl
  have hl : lv_has ls 3 [(0, .ref (G.2.1 0))] := hl
  have L4 : ∀ (n4 : Nat) (v1 : Int32) (v2 : Int32) (H : Heap) (locs : List Loc) (ls : Array Slot), fm_Wd shM G M s H locs → lv_has ls 3 [(0, .ref (G.2.1 0)), (1, .int v1), (2, .int v2)] → fm_lp (pModel_liveBits_L4 N M) n4 (v1, v2) = some r → W p l e { frames := 1, cells := 0, slots := 0, locals := 22 } s m args below meth c H locs 0 0 (fm_Z below shM G args s (some (.int r)) M) (F0 m 4 ls []) := by
    intro  n4
    induction n4 with
    | zero => intro v1 v2 H locs ls E hl hf; exact fm_lp_0 hf
    | succ n4 ih4 =>
      intro v1 v2 H locs ls E hl hf
      have hf : pModel_liveBits_L4b N M (fm_lp (pModel_liveBits_L4 N M) n4) v1 v2 = some r := hf
      unfold pModel_liveBits_L4b at hf
      refine lv_iload_n C.1 C.2.1 dX10_liveBits_4 rfl (lv_at hl 2 rfl) ?_
      refine lv_aload_n C.1 C.2.1 dX10_liveBits_5 rfl (lv_at hl 0 rfl) ?_
      refine fm_getr C E lf_X10_9 hM_0 rfl dX10_liveBits_6 ?_
      refine lv_iconst (v := 0) C.1 C.2.1 dX10_liveBits_9 (by decide) ?_
      refine fm_ialdc C E 0 (by decide) hM_1 (by decide) dX10_liveBits_10 ?_
      refine lv_icmp_ge (tgt := 39) C.1 C.2.1 dX10_liveBits_11 (by decide) (fun hc11 => ?_) (fun hc11 => ?_)
      · have hf := fm_ip hf hc11
        refine lv_iload_n C.1 C.2.1 dX10_liveBits_39 rfl (lv_at hl 1 rfl) ?_
        obtain rfl := fm_rt1 hf
        exact fm_iret C E rfl rfl dX10_liveBits_40
      · have hf := fm_in' hf hc11
        refine lv_iload_n C.1 C.2.1 dX10_liveBits_14 rfl (lv_at hl 1 rfl) ?_
        refine lv_aload_n C.1 C.2.1 dX10_liveBits_15 rfl (lv_at hl 0 rfl) ?_
        refine lv_iload_n C.1 C.2.1 dX10_liveBits_16 rfl (lv_at hl 2 rfl) ?_
        refine lv_iconst (v := 5) C.1 C.2.1 dX10_liveBits_17 (by decide) ?_
        obtain ⟨x18, hc18, hf⟩ := fm_bd hf
        refine fm_callV C E [.int _, .int _] [.int _] lm_X10_150 wk_X10_of (c_Model_of l G _ _ _ _  hc18) hM_0 rfl rfl rfl hl.1 (by simp [Value.category]) ⟨⟨rfl, rfl⟩, by decide, by decide⟩ ⟨by decide, by decide⟩ dX10_liveBits_18 rfl (fun H locs E => ?_)
        refine W.eq (g2 := F0 m 21 ls (.int x18 :: [.int _])) rfl ?_
        refine lv_if_ne (tgt := 30) C.1 C.2.1 dX10_liveBits_21 (by decide) (fun hc21 => ?_) (fun hc21 => ?_)
        · have hf := fm_in' hf hc21
          refine lv_iconst (v := 0) C.1 C.2.1 dX10_liveBits_30 (by decide) ?_
          refine lv_ior C.1 C.2.1 dX10_liveBits_31 ?_
          refine lv_istore_n (lv' := [(1, .int _), (0, .ref _), (2, .int _)]) C.1 C.2.1 dX10_liveBits_32 rfl hl (by decide) rfl (fun ls hl => ?_)
          refine fm_iinc C (v := 1) (lv' := [(2, .int _), (1, .int _), (0, .ref _)]) (k := 2) hl rfl (by decide) (by decide) rfl dX10_liveBits_33 (fun ls hl => ?_)
          refine lv_goto (tgt := 4) C.1 C.2.1 dX10_liveBits_36 (by decide) ?_
          exact ih4 _ _ _ _ _ E (lv_sub hl [2, 1, 0] rfl) hf
        · have hf := fm_ip hf hc21
          refine lv_iconst (v := 1) C.1 C.2.1 dX10_liveBits_24 (by decide) ?_
          refine lv_iload_n C.1 C.2.1 dX10_liveBits_25 rfl (lv_at hl 2 rfl) ?_
          refine lv_ishl C.1 C.2.1 dX10_liveBits_26 ?_
          refine lv_goto (tgt := 31) C.1 C.2.1 dX10_liveBits_27 (by decide) ?_
          refine lv_ior C.1 C.2.1 dX10_liveBits_31 ?_
          refine lv_istore_n (lv' := [(1, .int _), (0, .ref _), (2, .int _)]) C.1 C.2.1 dX10_liveBits_32 rfl hl (by decide) rfl (fun ls hl => ?_)
          refine fm_iinc C (v := 1) (lv' := [(2, .int _), (1, .int _), (0, .ref _)]) (k := 2) hl rfl (by decide) (by decide) rfl dX10_liveBits_33 (fun ls hl => ?_)
          refine lv_goto (tgt := 4) C.1 C.2.1 dX10_liveBits_36 (by decide) ?_
          exact ih4 _ _ _ _ _ E (lv_sub hl [2, 1, 0] rfl) hf
  unfold pModel_liveBits at hf
  refine lv_iconst (v := 0) C.1 C.2.1 dX10_liveBits_0 (by decide) ?_
  refine lv_istore_n (lv' := [(1, .int _), (0, .ref _)]) C.1 C.2.1 dX10_liveBits_1 rfl hl (by decide) rfl (fun ls hl => ?_)
  refine lv_iconst (v := 0) C.1 C.2.1 dX10_liveBits_2 (by decide) ?_
  refine lv_istore_n (lv' := [(2, .int _), (1, .int _), (0, .ref _)]) C.1 C.2.1 dX10_liveBits_3 rfl hl (by decide) rfl (fun ls hl => ?_)
  exact L4  N _ _ _ _ _ E (lv_sub hl [2, 1, 0] rfl) hf
theorem dX10_countBits_0 : decode cX10_countBits 0 = .ok (.iconst 0, 1) := by decide +kernel
theorem dX10_countBits_1 : decode cX10_countBits 1 = .ok (.istore_n 1, 1) := by decide +kernel
theorem dX10_countBits_2 : decode cX10_countBits 2 = .ok (.iload_n 0, 1) := by decide +kernel
theorem dX10_countBits_3 : decode cX10_countBits 3 = .ok (.istore_n 2, 1) := by decide +kernel
theorem dX10_countBits_4 : decode cX10_countBits 4 = .ok (.iload_n 2, 1) := by decide +kernel
theorem dX10_countBits_5 : decode cX10_countBits 5 = .ok (.ifCond .eq 15, 3) := by decide +kernel
theorem dX10_countBits_8 : decode cX10_countBits 8 = .ok (.iinc 1 1, 3) := by decide +kernel
theorem dX10_countBits_11 : decode cX10_countBits 11 = .ok (.iload_n 2, 1) := by decide +kernel
theorem dX10_countBits_12 : decode cX10_countBits 12 = .ok (.iload_n 2, 1) := by decide +kernel
theorem dX10_countBits_13 : decode cX10_countBits 13 = .ok (.iconst 1, 1) := by decide +kernel
theorem dX10_countBits_14 : decode cX10_countBits 14 = .ok (.isub, 1) := by decide +kernel
theorem dX10_countBits_15 : decode cX10_countBits 15 = .ok (.iand, 1) := by decide +kernel
theorem dX10_countBits_16 : decode cX10_countBits 16 = .ok (.istore_n 2, 1) := by decide +kernel
theorem dX10_countBits_17 : decode cX10_countBits 17 = .ok (.goto (-13), 3) := by decide +kernel
theorem dX10_countBits_20 : decode cX10_countBits 20 = .ok (.iload_n 1, 1) := by decide +kernel
theorem dX10_countBits_21 : decode cX10_countBits 21 = .ok (.ireturn, 1) := by decide +kernel
set_option maxHeartbeats 4000000 in
set_option maxRecDepth 100000 in
theorem c_Model_countBits (l : Launch) (G : fm_G) (N : Nat) (M : fm_M) (v0 : Int32) (r : Int32) (hf : pModel_countBits N M v0 = some r) : fm_Met l yX10_countBits cX10_countBits 3 (some .int) { frames := 0, cells := 0, slots := 0, locals := 0 } shM G [.int v0] M (some (.int r)) M := by
  refine fm_enter (by decide) (Nat.le_of_ble_eq_true rfl) ?_
  intro p e s m args below meth c ls C E hl
  have hl : lv_has ls 3 [(0, .int v0)] := hl
  have L4 : ∀ (n4 : Nat) (v1 : Int32) (v2 : Int32) (H : Heap) (locs : List Loc) (ls : Array Slot), fm_Wd shM G M s H locs → lv_has ls 3 [(1, .int v1), (2, .int v2)] → fm_lp (pModel_countBits_L4 N M) n4 (v1, v2) = some r → W p l e { frames := 0, cells := 0, slots := 0, locals := 0 } s m args below meth c H locs 0 0 (fm_Z below shM G args s (some (.int r)) M) (F0 m 4 ls []) := by
    intro  n4
    induction n4 with
    | zero => intro v1 v2 H locs ls E hl hf; exact fm_lp_0 hf
    | succ n4 ih4 =>
      intro v1 v2 H locs ls E hl hf
      have hf : pModel_countBits_L4b N M (fm_lp (pModel_countBits_L4 N M) n4) v1 v2 = some r := hf
      unfold pModel_countBits_L4b at hf
      refine lv_iload_n C.1 C.2.1 dX10_countBits_4 rfl (lv_at hl 1 rfl) ?_
      refine lv_if_eq (tgt := 20) C.1 C.2.1 dX10_countBits_5 (by decide) (fun hc5 => ?_) (fun hc5 => ?_)
      · have hf := fm_ip hf hc5
        refine lv_iload_n C.1 C.2.1 dX10_countBits_20 rfl (lv_at hl 0 rfl) ?_
        obtain rfl := fm_rt1 hf
        exact fm_iret C E rfl rfl dX10_countBits_21
      · have hf := fm_in' hf hc5
        refine fm_iinc C (v := 1) (lv' := [(1, .int _), (2, .int _)]) (k := 0) hl rfl (by decide) (by decide) rfl dX10_countBits_8 (fun ls hl => ?_)
        refine lv_iload_n C.1 C.2.1 dX10_countBits_11 rfl (lv_at hl 1 rfl) ?_
        refine lv_iload_n C.1 C.2.1 dX10_countBits_12 rfl (lv_at hl 1 rfl) ?_
        refine lv_iconst (v := 1) C.1 C.2.1 dX10_countBits_13 (by decide) ?_
        refine lv_isub C.1 C.2.1 dX10_countBits_14 ?_
        refine lv_iand C.1 C.2.1 dX10_countBits_15 ?_
        refine lv_istore_n (lv' := [(2, .int _), (1, .int _)]) C.1 C.2.1 dX10_countBits_16 rfl hl (by decide) rfl (fun ls hl => ?_)
        refine lv_goto (tgt := 4) C.1 C.2.1 dX10_countBits_17 (by decide) ?_
        exact ih4 _ _ _ _ _ E (lv_sub hl [1, 0] rfl) hf
  unfold pModel_countBits at hf
  refine lv_iconst (v := 0) C.1 C.2.1 dX10_countBits_0 (by decide) ?_
  refine lv_istore_n (lv' := [(1, .int _), (0, .int _)]) C.1 C.2.1 dX10_countBits_1 rfl hl (by decide) rfl (fun ls hl => ?_)
  refine lv_iload_n C.1 C.2.1 dX10_countBits_2 rfl (lv_at hl 1 rfl) ?_
  refine lv_istore_n (lv' := [(2, .int _), (1, .int _), (0, .int _)]) C.1 C.2.1 dX10_countBits_3 rfl hl (by decide) rfl (fun ls hl => ?_)
  exact L4  N _ _ _ _ _ E (lv_sub hl [1, 0] rfl) hf
theorem dX10_has_0 : decode cX10_has 0 = .ok (.iload_n 0, 1) := by decide +kernel
theorem dX10_has_1 : decode cX10_has 1 = .ok (.iload_n 1, 1) := by decide +kernel
theorem dX10_has_2 : decode cX10_has 2 = .ok (.ishr, 1) := by decide +kernel
theorem dX10_has_3 : decode cX10_has 3 = .ok (.iconst 1, 1) := by decide +kernel
theorem dX10_has_4 : decode cX10_has 4 = .ok (.iand, 1) := by decide +kernel
theorem dX10_has_5 : decode cX10_has 5 = .ok (.iconst 1, 1) := by decide +kernel
theorem dX10_has_6 : decode cX10_has 6 = .ok (.if_icmp .ne 7, 3) := by decide +kernel
theorem dX10_has_9 : decode cX10_has 9 = .ok (.iconst 1, 1) := by decide +kernel
theorem dX10_has_10 : decode cX10_has 10 = .ok (.goto 4, 3) := by decide +kernel
theorem dX10_has_13 : decode cX10_has 13 = .ok (.iconst 0, 1) := by decide +kernel
theorem dX10_has_14 : decode cX10_has 14 = .ok (.ireturn, 1) := by decide +kernel
set_option maxHeartbeats 4000000 in
set_option maxRecDepth 100000 in
theorem c_Model_has (l : Launch) (G : fm_G) (M : fm_M) (v0 : Int32) (v1 : Int32) (r : Int32) (hf : pModel_has M v0 v1 = some r) : fm_Met l yX10_has cX10_has 2 (some .boolean) { frames := 0, cells := 0, slots := 0, locals := 0 } shM G [.int v0, .int v1] M (some (.int r)) M := by
  refine fm_enter (by decide) (Nat.le_of_ble_eq_true rfl) ?_
  intro p e s m args below meth c ls C E hl
  have hl : lv_has ls 2 [(0, .int v0), (1, .int v1)] := hl
  unfold pModel_has at hf
  refine lv_iload_n C.1 C.2.1 dX10_has_0 rfl (lv_at hl 0 rfl) ?_
  refine lv_iload_n C.1 C.2.1 dX10_has_1 rfl (lv_at hl 1 rfl) ?_
  refine lv_ishr C.1 C.2.1 dX10_has_2 ?_
  refine lv_iconst (v := 1) C.1 C.2.1 dX10_has_3 (by decide) ?_
  refine lv_iand C.1 C.2.1 dX10_has_4 ?_
  refine lv_iconst (v := 1) C.1 C.2.1 dX10_has_5 (by decide) ?_
  refine lv_icmp_ne (tgt := 13) C.1 C.2.1 dX10_has_6 (by decide) (fun hc6 => ?_) (fun hc6 => ?_)
  · have hf := fm_in' hf hc6
    refine lv_iconst (v := 0) C.1 C.2.1 dX10_has_13 (by decide) ?_
    obtain rfl := fm_rt1 hf
    exact fm_iret C E rfl rfl dX10_has_14
  · have hf := fm_ip hf hc6
    refine lv_iconst (v := 1) C.1 C.2.1 dX10_has_9 (by decide) ?_
    refine lv_goto (tgt := 14) C.1 C.2.1 dX10_has_10 (by decide) ?_
    obtain rfl := fm_rt1 hf
    exact fm_iret C E rfl rfl dX10_has_14
theorem dX10_beamOf_0 : decode cX10_beamOf 0 = .ok (.iconst 0, 1) := by decide +kernel
theorem dX10_beamOf_1 : decode cX10_beamOf 1 = .ok (.istore 4, 2) := by decide +kernel
theorem dX10_beamOf_3 : decode cX10_beamOf 3 = .ok (.iconst 0, 1) := by decide +kernel
theorem dX10_beamOf_4 : decode cX10_beamOf 4 = .ok (.istore 5, 2) := by decide +kernel
theorem dX10_beamOf_6 : decode cX10_beamOf 6 = .ok (.iload 5, 2) := by decide +kernel
theorem dX10_beamOf_8 : decode cX10_beamOf 8 = .ok (.aload_n 0, 1) := by decide +kernel
theorem dX10_beamOf_9 : decode cX10_beamOf 9 = .ok (.getfield 9, 3) := by decide +kernel
theorem dX10_beamOf_12 : decode cX10_beamOf 12 = .ok (.iconst 0, 1) := by decide +kernel
theorem dX10_beamOf_13 : decode cX10_beamOf 13 = .ok (.iaload, 1) := by decide +kernel
theorem dX10_beamOf_14 : decode cX10_beamOf 14 = .ok (.if_icmp .ge 35, 3) := by decide +kernel
theorem dX10_beamOf_17 : decode cX10_beamOf 17 = .ok (.iload 4, 2) := by decide +kernel
theorem dX10_beamOf_19 : decode cX10_beamOf 19 = .ok (.iload_n 1, 1) := by decide +kernel
theorem dX10_beamOf_20 : decode cX10_beamOf 20 = .ok (.iload 5, 2) := by decide +kernel
theorem dX10_beamOf_22 : decode cX10_beamOf 22 = .ok (.invokestatic 194, 3) := by decide +kernel
theorem dX10_beamOf_25 : decode cX10_beamOf 25 = .ok (.ifCond .eq 14, 3) := by decide +kernel
theorem dX10_beamOf_28 : decode cX10_beamOf 28 = .ok (.aload_n 0, 1) := by decide +kernel
theorem dX10_beamOf_29 : decode cX10_beamOf 29 = .ok (.iload 5, 2) := by decide +kernel
theorem dX10_beamOf_31 : decode cX10_beamOf 31 = .ok (.iload_n 2, 1) := by decide +kernel
theorem dX10_beamOf_32 : decode cX10_beamOf 32 = .ok (.iload_n 3, 1) := by decide +kernel
theorem dX10_beamOf_33 : decode cX10_beamOf 33 = .ok (.invokevirtual 191, 3) := by decide +kernel
theorem dX10_beamOf_36 : decode cX10_beamOf 36 = .ok (.goto 4, 3) := by decide +kernel
theorem dX10_beamOf_39 : decode cX10_beamOf 39 = .ok (.iconst 0, 1) := by decide +kernel
theorem dX10_beamOf_40 : decode cX10_beamOf 40 = .ok (.iadd, 1) := by decide +kernel
theorem dX10_beamOf_41 : decode cX10_beamOf 41 = .ok (.istore 4, 2) := by decide +kernel
theorem dX10_beamOf_43 : decode cX10_beamOf 43 = .ok (.iinc 5 1, 3) := by decide +kernel
theorem dX10_beamOf_46 : decode cX10_beamOf 46 = .ok (.goto (-40), 3) := by decide +kernel
theorem dX10_beamOf_49 : decode cX10_beamOf 49 = .ok (.iload_n 1, 1) := by decide +kernel
theorem dX10_beamOf_50 : decode cX10_beamOf 50 = .ok (.ifCond .ne 7, 3) := by decide +kernel
theorem dX10_beamOf_53 : decode cX10_beamOf 53 = .ok (.iconst 0, 1) := by decide +kernel
theorem dX10_beamOf_54 : decode cX10_beamOf 54 = .ok (.goto 10, 3) := by decide +kernel
theorem dX10_beamOf_57 : decode cX10_beamOf 57 = .ok (.iload 4, 2) := by decide +kernel
theorem dX10_beamOf_59 : decode cX10_beamOf 59 = .ok (.iload_n 1, 1) := by decide +kernel
theorem dX10_beamOf_60 : decode cX10_beamOf 60 = .ok (.invokestatic 198, 3) := by decide +kernel
theorem dX10_beamOf_63 : decode cX10_beamOf 63 = .ok (.idiv, 1) := by decide +kernel
theorem dX10_beamOf_64 : decode cX10_beamOf 64 = .ok (.ireturn, 1) := by decide +kernel
set_option maxHeartbeats 4000000 in
set_option maxRecDepth 100000 in
theorem c_Model_beamOf (l : Launch) (G : fm_G) (N : Nat) (M : fm_M) (v1 : Int32) (v2 : Int32) (v3 : Int32) (r : Int32) (hf : pModel_beamOf N M v1 v2 v3 = some r) : fm_Met l yX10_beamOf cX10_beamOf 6 (some .int) { frames := 3, cells := 0, slots := 0, locals := 69 } shM G [.ref (G.2.1 0), .int v1, .int v2, .int v3] M (some (.int r)) M := by
  refine fm_enter (by decide) (Nat.le_of_ble_eq_true rfl) ?_
  intro p e s m args below meth c ls C E hl
  have hl : lv_has ls 6 [(0, .ref (G.2.1 0)), (1, .int v1), (2, .int v2), (3, .int v3)] := hl
  have L6 : ∀ (w6_v1 : Int32) (w6_v2 : Int32) (w6_v3 : Int32) (n6 : Nat) (v4 : Int32) (v5 : Int32) (H : Heap) (locs : List Loc) (ls : Array Slot), fm_Wd shM G M s H locs → lv_has ls 6 [(0, .ref (G.2.1 0)), (1, .int w6_v1), (2, .int w6_v2), (3, .int w6_v3), (4, .int v4), (5, .int v5)] → fm_lp (pModel_beamOf_L6 N M w6_v1 w6_v2 w6_v3) n6 (v4, v5) = some r → W p l e { frames := 3, cells := 0, slots := 0, locals := 69 } s m args below meth c H locs 0 0 (fm_Z below shM G args s (some (.int r)) M) (F0 m 6 ls []) := by
    intro w6_v1 w6_v2 w6_v3 n6
    induction n6 with
    | zero => intro v4 v5 H locs ls E hl hf; exact fm_lp_0 hf
    | succ n6 ih6 =>
      intro v4 v5 H locs ls E hl hf
      have hf : pModel_beamOf_L6b N M w6_v1 w6_v2 w6_v3 (fm_lp (pModel_beamOf_L6 N M w6_v1 w6_v2 w6_v3) n6) v4 v5 = some r := hf
      unfold pModel_beamOf_L6b at hf
      refine lv_iload C.1 C.2.1 dX10_beamOf_6 (lv_at hl 5 rfl) ?_
      refine lv_aload_n C.1 C.2.1 dX10_beamOf_8 rfl (lv_at hl 0 rfl) ?_
      refine fm_getr C E lf_X10_9 hM_0 rfl dX10_beamOf_9 ?_
      refine lv_iconst (v := 0) C.1 C.2.1 dX10_beamOf_12 (by decide) ?_
      refine fm_ialdc C E 0 (by decide) hM_1 (by decide) dX10_beamOf_13 ?_
      refine lv_icmp_ge (tgt := 49) C.1 C.2.1 dX10_beamOf_14 (by decide) (fun hc14 => ?_) (fun hc14 => ?_)
      · have hf := fm_ip hf hc14
        refine lv_iload_n C.1 C.2.1 dX10_beamOf_49 rfl (lv_at hl 1 rfl) ?_
        refine lv_if_ne (tgt := 57) C.1 C.2.1 dX10_beamOf_50 (by decide) (fun hc50 => ?_) (fun hc50 => ?_)
        · have hf := fm_in' hf hc50
          refine lv_iload C.1 C.2.1 dX10_beamOf_57 (lv_at hl 4 rfl) ?_
          refine lv_iload_n C.1 C.2.1 dX10_beamOf_59 rfl (lv_at hl 1 rfl) ?_
          obtain ⟨x60, hc60, hf⟩ := fm_bd hf
          refine fm_callS C E [.int _] [.int _] lm_X10_198 wk_X10_countBits (c_Model_countBits l G N _ _ _  hc60) rfl hl.1 (by simp [Value.category]) ⟨⟨rfl, rfl⟩, by decide, by decide⟩ ⟨by decide, by decide⟩ dX10_beamOf_60 rfl (fun H locs E => ?_)
          refine W.eq (g2 := F0 m 63 ls (.int x60 :: [.int _])) rfl ?_
          obtain ⟨hz63, hf⟩ := fm_nz_s hf
          refine lv_idiv C.1 C.2.1 dX10_beamOf_63 hz63 ?_
          obtain rfl := fm_rt1 hf
          exact fm_iret C E rfl rfl dX10_beamOf_64
        · have hf := fm_ip hf hc50
          refine lv_iconst (v := 0) C.1 C.2.1 dX10_beamOf_53 (by decide) ?_
          refine lv_goto (tgt := 64) C.1 C.2.1 dX10_beamOf_54 (by decide) ?_
          obtain rfl := fm_rt1 hf
          exact fm_iret C E rfl rfl dX10_beamOf_64
      · have hf := fm_in' hf hc14
        refine lv_iload C.1 C.2.1 dX10_beamOf_17 (lv_at hl 4 rfl) ?_
        refine lv_iload_n C.1 C.2.1 dX10_beamOf_19 rfl (lv_at hl 1 rfl) ?_
        refine lv_iload C.1 C.2.1 dX10_beamOf_20 (lv_at hl 5 rfl) ?_
        obtain ⟨x22, hc22, hf⟩ := fm_bd hf
        refine fm_callS C E [.int _, .int _] [.int _] lm_X10_194 wk_X10_has (c_Model_has l G _ _ _ _  hc22) rfl hl.1 (by simp [Value.category]) ⟨⟨rfl, rfl⟩, by decide, by decide⟩ ⟨by decide, by decide⟩ dX10_beamOf_22 rfl (fun H locs E => ?_)
        refine W.eq (g2 := F0 m 25 ls (.int x22 :: [.int _])) rfl ?_
        refine lv_if_eq (tgt := 39) C.1 C.2.1 dX10_beamOf_25 (by decide) (fun hc25 => ?_) (fun hc25 => ?_)
        · have hf := fm_ip hf hc25
          refine lv_iconst (v := 0) C.1 C.2.1 dX10_beamOf_39 (by decide) ?_
          refine lv_iadd C.1 C.2.1 dX10_beamOf_40 ?_
          refine lv_istore (lv' := [(4, .int _), (0, .ref _), (1, .int _), (2, .int _), (3, .int _), (5, .int _)]) C.1 C.2.1 dX10_beamOf_41 hl (by decide) rfl (fun ls hl => ?_)
          refine fm_iinc C (v := 1) (lv' := [(5, .int _), (4, .int _), (0, .ref _), (1, .int _), (2, .int _), (3, .int _)]) (k := 5) hl rfl (by decide) (by decide) rfl dX10_beamOf_43 (fun ls hl => ?_)
          refine lv_goto (tgt := 6) C.1 C.2.1 dX10_beamOf_46 (by decide) ?_
          exact ih6 _ _ _ _ _ E (lv_sub hl [2, 3, 4, 5, 1, 0] rfl) hf
        · have hf := fm_in' hf hc25
          refine lv_aload_n C.1 C.2.1 dX10_beamOf_28 rfl (lv_at hl 0 rfl) ?_
          refine lv_iload C.1 C.2.1 dX10_beamOf_29 (lv_at hl 5 rfl) ?_
          refine lv_iload_n C.1 C.2.1 dX10_beamOf_31 rfl (lv_at hl 2 rfl) ?_
          refine lv_iload_n C.1 C.2.1 dX10_beamOf_32 rfl (lv_at hl 3 rfl) ?_
          obtain ⟨x33, hc33, hf⟩ := fm_bd hf
          refine fm_callV C E [.int _, .int _, .int _] [.int _] lm_X10_191 wk_X10_turnedOf (c_Model_turnedOf l G _ _ _ _ _  hc33) hM_0 rfl rfl rfl hl.1 (by simp [Value.category]) ⟨⟨rfl, rfl⟩, by decide, by decide⟩ ⟨by decide, by decide⟩ dX10_beamOf_33 rfl (fun H locs E => ?_)
          refine W.eq (g2 := F0 m 36 ls (.int x33 :: [.int _])) rfl ?_
          refine lv_goto (tgt := 40) C.1 C.2.1 dX10_beamOf_36 (by decide) ?_
          refine lv_iadd C.1 C.2.1 dX10_beamOf_40 ?_
          refine lv_istore (lv' := [(4, .int _), (0, .ref _), (1, .int _), (2, .int _), (3, .int _), (5, .int _)]) C.1 C.2.1 dX10_beamOf_41 hl (by decide) rfl (fun ls hl => ?_)
          refine fm_iinc C (v := 1) (lv' := [(5, .int _), (4, .int _), (0, .ref _), (1, .int _), (2, .int _), (3, .int _)]) (k := 5) hl rfl (by decide) (by decide) rfl dX10_beamOf_43 (fun ls hl => ?_)
          refine lv_goto (tgt := 6) C.1 C.2.1 dX10_beamOf_46 (by decide) ?_
          exact ih6 _ _ _ _ _ E (lv_sub hl [2, 3, 4, 5, 1, 0] rfl) hf
  unfold pModel_beamOf at hf
  refine lv_iconst (v := 0) C.1 C.2.1 dX10_beamOf_0 (by decide) ?_
  refine lv_istore (lv' := [(4, .int _), (0, .ref _), (1, .int _), (2, .int _), (3, .int _)]) C.1 C.2.1 dX10_beamOf_1 hl (by decide) rfl (fun ls hl => ?_)
  refine lv_iconst (v := 0) C.1 C.2.1 dX10_beamOf_3 (by decide) ?_
  refine lv_istore (lv' := [(5, .int _), (4, .int _), (0, .ref _), (1, .int _), (2, .int _), (3, .int _)]) C.1 C.2.1 dX10_beamOf_4 hl (by decide) rfl (fun ls hl => ?_)
  exact L6 _ _ _ N _ _ _ _ _ E (lv_sub hl [2, 3, 4, 5, 1, 0] rfl) hf
theorem dX10_liveAt_0 : decode cX10_liveAt 0 = .ok (.iconst 0, 1) := by decide +kernel
theorem dX10_liveAt_1 : decode cX10_liveAt 1 = .ok (.istore_n 2, 1) := by decide +kernel
theorem dX10_liveAt_2 : decode cX10_liveAt 2 = .ok (.iload_n 1, 1) := by decide +kernel
theorem dX10_liveAt_3 : decode cX10_liveAt 3 = .ok (.istore_n 3, 1) := by decide +kernel
theorem dX10_liveAt_4 : decode cX10_liveAt 4 = .ok (.iload_n 0, 1) := by decide +kernel
theorem dX10_liveAt_5 : decode cX10_liveAt 5 = .ok (.iload_n 2, 1) := by decide +kernel
theorem dX10_liveAt_6 : decode cX10_liveAt 6 = .ok (.invokestatic 194, 3) := by decide +kernel
theorem dX10_liveAt_9 : decode cX10_liveAt 9 = .ok (.ifCond .eq 7, 3) := by decide +kernel
theorem dX10_liveAt_12 : decode cX10_liveAt 12 = .ok (.iload_n 3, 1) := by decide +kernel
theorem dX10_liveAt_13 : decode cX10_liveAt 13 = .ok (.ifCond .le 25, 3) := by decide +kernel
theorem dX10_liveAt_16 : decode cX10_liveAt 16 = .ok (.iload_n 3, 1) := by decide +kernel
theorem dX10_liveAt_17 : decode cX10_liveAt 17 = .ok (.iload_n 0, 1) := by decide +kernel
theorem dX10_liveAt_18 : decode cX10_liveAt 18 = .ok (.iload_n 2, 1) := by decide +kernel
theorem dX10_liveAt_19 : decode cX10_liveAt 19 = .ok (.invokestatic 194, 3) := by decide +kernel
theorem dX10_liveAt_22 : decode cX10_liveAt 22 = .ok (.ifCond .eq 7, 3) := by decide +kernel
theorem dX10_liveAt_25 : decode cX10_liveAt 25 = .ok (.iconst 1, 1) := by decide +kernel
theorem dX10_liveAt_26 : decode cX10_liveAt 26 = .ok (.goto 4, 3) := by decide +kernel
theorem dX10_liveAt_29 : decode cX10_liveAt 29 = .ok (.iconst 0, 1) := by decide +kernel
theorem dX10_liveAt_30 : decode cX10_liveAt 30 = .ok (.isub, 1) := by decide +kernel
theorem dX10_liveAt_31 : decode cX10_liveAt 31 = .ok (.istore_n 3, 1) := by decide +kernel
theorem dX10_liveAt_32 : decode cX10_liveAt 32 = .ok (.iinc 2 1, 3) := by decide +kernel
theorem dX10_liveAt_35 : decode cX10_liveAt 35 = .ok (.goto (-31), 3) := by decide +kernel
theorem dX10_liveAt_38 : decode cX10_liveAt 38 = .ok (.iload_n 2, 1) := by decide +kernel
theorem dX10_liveAt_39 : decode cX10_liveAt 39 = .ok (.ireturn, 1) := by decide +kernel
set_option maxHeartbeats 4000000 in
set_option maxRecDepth 100000 in
theorem c_Model_liveAt (l : Launch) (G : fm_G) (N : Nat) (M : fm_M) (v0 : Int32) (v1 : Int32) (r : Int32) (hf : pModel_liveAt N M v0 v1 = some r) : fm_Met l yX10_liveAt cX10_liveAt 4 (some .int) { frames := 1, cells := 0, slots := 0, locals := 21 } shM G [.int v0, .int v1] M (some (.int r)) M := by
  refine fm_enter (by decide) (Nat.le_of_ble_eq_true rfl) ?_
  intro p e s m args below meth c ls C E hl
  have hl : lv_has ls 4 [(0, .int v0), (1, .int v1)] := hl
  have L4 : ∀ (w4_v0 : Int32) (n4 : Nat) (v2 : Int32) (v3 : Int32) (H : Heap) (locs : List Loc) (ls : Array Slot), fm_Wd shM G M s H locs → lv_has ls 4 [(0, .int w4_v0), (2, .int v2), (3, .int v3)] → fm_lp (pModel_liveAt_L4 N M w4_v0) n4 (v2, v3) = some r → W p l e { frames := 1, cells := 0, slots := 0, locals := 21 } s m args below meth c H locs 0 0 (fm_Z below shM G args s (some (.int r)) M) (F0 m 4 ls []) := by
    intro w4_v0 n4
    induction n4 with
    | zero => intro v2 v3 H locs ls E hl hf; exact fm_lp_0 hf
    | succ n4 ih4 =>
      have J16 : ∀ (v2 : Int32) (v3 : Int32) (H : Heap) (locs : List Loc) (ls : Array Slot), fm_Wd shM G M s H locs → lv_has ls 4 [(0, .int w4_v0), (2, .int v2), (3, .int v3)] → pModel_liveAt_J16 N M w4_v0 v2 v3 (fm_lp (pModel_liveAt_L4 N M w4_v0) n4) = some r → W p l e { frames := 1, cells := 0, slots := 0, locals := 21 } s m args below meth c H locs 0 0 (fm_Z below shM G args s (some (.int r)) M) (F0 m 16 ls []) := by
        intro v2 v3 H locs ls E hl hf
        unfold pModel_liveAt_J16 at hf
        refine lv_iload_n C.1 C.2.1 dX10_liveAt_16 rfl (lv_at hl 2 rfl) ?_
        refine lv_iload_n C.1 C.2.1 dX10_liveAt_17 rfl (lv_at hl 0 rfl) ?_
        refine lv_iload_n C.1 C.2.1 dX10_liveAt_18 rfl (lv_at hl 1 rfl) ?_
        obtain ⟨x19, hc19, hf⟩ := fm_bd hf
        refine fm_callS C E [.int _, .int _] [.int _] lm_X10_194 wk_X10_has (c_Model_has l G _ _ _ _  hc19) rfl hl.1 (by simp [Value.category]) ⟨⟨rfl, rfl⟩, by decide, by decide⟩ ⟨by decide, by decide⟩ dX10_liveAt_19 rfl (fun H locs E => ?_)
        refine W.eq (g2 := F0 m 22 ls (.int x19 :: [.int _])) rfl ?_
        refine lv_if_eq (tgt := 29) C.1 C.2.1 dX10_liveAt_22 (by decide) (fun hc22 => ?_) (fun hc22 => ?_)
        · have hf := fm_ip hf hc22
          refine lv_iconst (v := 0) C.1 C.2.1 dX10_liveAt_29 (by decide) ?_
          refine lv_isub C.1 C.2.1 dX10_liveAt_30 ?_
          refine lv_istore_n (lv' := [(3, .int _), (0, .int _), (2, .int _)]) C.1 C.2.1 dX10_liveAt_31 rfl hl (by decide) rfl (fun ls hl => ?_)
          refine fm_iinc C (v := 1) (lv' := [(2, .int _), (3, .int _), (0, .int _)]) (k := 2) hl rfl (by decide) (by decide) rfl dX10_liveAt_32 (fun ls hl => ?_)
          refine lv_goto (tgt := 4) C.1 C.2.1 dX10_liveAt_35 (by decide) ?_
          exact ih4 _ _ _ _ _ E (lv_sub hl [2, 0, 1] rfl) hf
        · have hf := fm_in' hf hc22
          refine lv_iconst (v := 1) C.1 C.2.1 dX10_liveAt_25 (by decide) ?_
          refine lv_goto (tgt := 30) C.1 C.2.1 dX10_liveAt_26 (by decide) ?_
          refine lv_isub C.1 C.2.1 dX10_liveAt_30 ?_
          refine lv_istore_n (lv' := [(3, .int _), (0, .int _), (2, .int _)]) C.1 C.2.1 dX10_liveAt_31 rfl hl (by decide) rfl (fun ls hl => ?_)
          refine fm_iinc C (v := 1) (lv' := [(2, .int _), (3, .int _), (0, .int _)]) (k := 2) hl rfl (by decide) (by decide) rfl dX10_liveAt_32 (fun ls hl => ?_)
          refine lv_goto (tgt := 4) C.1 C.2.1 dX10_liveAt_35 (by decide) ?_
          exact ih4 _ _ _ _ _ E (lv_sub hl [2, 0, 1] rfl) hf
      intro v2 v3 H locs ls E hl hf
      have hf : pModel_liveAt_L4b N M w4_v0 (fm_lp (pModel_liveAt_L4 N M w4_v0) n4) v2 v3 = some r := hf
      unfold pModel_liveAt_L4b at hf
      refine lv_iload_n C.1 C.2.1 dX10_liveAt_4 rfl (lv_at hl 0 rfl) ?_
      refine lv_iload_n C.1 C.2.1 dX10_liveAt_5 rfl (lv_at hl 1 rfl) ?_
      obtain ⟨x6, hc6, hf⟩ := fm_bd hf
      refine fm_callS C E [.int _, .int _] [] lm_X10_194 wk_X10_has (c_Model_has l G _ _ _ _  hc6) rfl hl.1 (by simp [Value.category]) ⟨⟨rfl, rfl⟩, by decide, by decide⟩ ⟨by decide, by decide⟩ dX10_liveAt_6 rfl (fun H locs E => ?_)
      refine W.eq (g2 := F0 m 9 ls (.int x6 :: [])) rfl ?_
      refine lv_if_eq (tgt := 16) C.1 C.2.1 dX10_liveAt_9 (by decide) (fun hc9 => ?_) (fun hc9 => ?_)
      · have hf := fm_ip hf hc9
        exact J16 _ _ _ _ _ E (lv_sub hl [0, 1, 2] rfl) hf
      · have hf := fm_in' hf hc9
        refine lv_iload_n C.1 C.2.1 dX10_liveAt_12 rfl (lv_at hl 2 rfl) ?_
        refine lv_if_le (tgt := 38) C.1 C.2.1 dX10_liveAt_13 (by decide) (fun hc13 => ?_) (fun hc13 => ?_)
        · have hf := fm_ip hf hc13
          refine lv_iload_n C.1 C.2.1 dX10_liveAt_38 rfl (lv_at hl 1 rfl) ?_
          obtain rfl := fm_rt1 hf
          exact fm_iret C E rfl rfl dX10_liveAt_39
        · have hf := fm_in' hf hc13
          exact J16 _ _ _ _ _ E (lv_sub hl [0, 1, 2] rfl) hf
  unfold pModel_liveAt at hf
  refine lv_iconst (v := 0) C.1 C.2.1 dX10_liveAt_0 (by decide) ?_
  refine lv_istore_n (lv' := [(2, .int _), (0, .int _), (1, .int _)]) C.1 C.2.1 dX10_liveAt_1 rfl hl (by decide) rfl (fun ls hl => ?_)
  refine lv_iload_n C.1 C.2.1 dX10_liveAt_2 rfl (lv_at hl 2 rfl) ?_
  refine lv_istore_n (lv' := [(3, .int _), (2, .int _), (0, .int _), (1, .int _)]) C.1 C.2.1 dX10_liveAt_3 rfl hl (by decide) rfl (fun ls hl => ?_)
  exact L4 _ N _ _ _ _ _ E (lv_sub hl [2, 1, 0] rfl) hf
theorem dX10_blockedOf_0 : decode cX10_blockedOf 0 = .ok (.aload_n 0, 1) := by decide +kernel
theorem dX10_blockedOf_1 : decode cX10_blockedOf 1 = .ok (.iload_n 1, 1) := by decide +kernel
theorem dX10_blockedOf_2 : decode cX10_blockedOf 2 = .ok (.iload_n 3, 1) := by decide +kernel
theorem dX10_blockedOf_3 : decode cX10_blockedOf 3 = .ok (.invokestatic 201, 3) := by decide +kernel
theorem dX10_blockedOf_6 : decode cX10_blockedOf 6 = .ok (.iload_n 2, 1) := by decide +kernel
theorem dX10_blockedOf_7 : decode cX10_blockedOf 7 = .ok (.iload 4, 2) := by decide +kernel
theorem dX10_blockedOf_9 : decode cX10_blockedOf 9 = .ok (.invokevirtual 191, 3) := by decide +kernel
theorem dX10_blockedOf_12 : decode cX10_blockedOf 12 = .ok (.aload_n 0, 1) := by decide +kernel
theorem dX10_blockedOf_13 : decode cX10_blockedOf 13 = .ok (.iload_n 1, 1) := by decide +kernel
theorem dX10_blockedOf_14 : decode cX10_blockedOf 14 = .ok (.iload_n 3, 1) := by decide +kernel
theorem dX10_blockedOf_15 : decode cX10_blockedOf 15 = .ok (.iconst 1, 1) := by decide +kernel
theorem dX10_blockedOf_16 : decode cX10_blockedOf 16 = .ok (.iadd, 1) := by decide +kernel
theorem dX10_blockedOf_17 : decode cX10_blockedOf 17 = .ok (.invokestatic 201, 3) := by decide +kernel
theorem dX10_blockedOf_20 : decode cX10_blockedOf 20 = .ok (.iload_n 2, 1) := by decide +kernel
theorem dX10_blockedOf_21 : decode cX10_blockedOf 21 = .ok (.iload 4, 2) := by decide +kernel
theorem dX10_blockedOf_23 : decode cX10_blockedOf 23 = .ok (.invokevirtual 191, 3) := by decide +kernel
theorem dX10_blockedOf_26 : decode cX10_blockedOf 26 = .ok (.isub, 1) := by decide +kernel
theorem dX10_blockedOf_27 : decode cX10_blockedOf 27 = .ok (.ireturn, 1) := by decide +kernel
set_option maxHeartbeats 4000000 in
set_option maxRecDepth 100000 in
theorem c_Model_blockedOf (l : Launch) (G : fm_G) (N : Nat) (M : fm_M) (v1 : Int32) (v2 : Int32) (v3 : Int32) (v4 : Int32) (r : Int32) (hf : pModel_blockedOf N M v1 v2 v3 v4 = some r) : fm_Met l yX10_blockedOf cX10_blockedOf 5 (some .int) { frames := 3, cells := 0, slots := 0, locals := 69 } shM G [.ref (G.2.1 0), .int v1, .int v2, .int v3, .int v4] M (some (.int r)) M := by
  refine fm_enter (by decide) (Nat.le_of_ble_eq_true rfl) ?_
  intro p e s m args below meth c ls C E hl
  have hl : lv_has ls 5 [(0, .ref (G.2.1 0)), (1, .int v1), (2, .int v2), (3, .int v3), (4, .int v4)] := hl
  unfold pModel_blockedOf at hf
  refine lv_aload_n C.1 C.2.1 dX10_blockedOf_0 rfl (lv_at hl 0 rfl) ?_
  refine lv_iload_n C.1 C.2.1 dX10_blockedOf_1 rfl (lv_at hl 1 rfl) ?_
  refine lv_iload_n C.1 C.2.1 dX10_blockedOf_2 rfl (lv_at hl 3 rfl) ?_
  obtain ⟨x3, hc3, hf⟩ := fm_bd hf
  refine fm_callS C E [.int _, .int _] [.ref _] lm_X10_201 wk_X10_liveAt (c_Model_liveAt l G N _ _ _ _  hc3) rfl hl.1 (by simp [Value.category]) ⟨⟨rfl, rfl⟩, by decide, by decide⟩ ⟨by decide, by decide⟩ dX10_blockedOf_3 rfl (fun H locs E => ?_)
  refine W.eq (g2 := F0 m 6 ls (.int x3 :: [.ref _])) rfl ?_
  refine lv_iload_n C.1 C.2.1 dX10_blockedOf_6 rfl (lv_at hl 2 rfl) ?_
  refine lv_iload C.1 C.2.1 dX10_blockedOf_7 (lv_at hl 4 rfl) ?_
  obtain ⟨x9, hc9, hf⟩ := fm_bd hf
  refine fm_callV C E [.int _, .int _, .int _] [] lm_X10_191 wk_X10_turnedOf (c_Model_turnedOf l G _ _ _ _ _  hc9) hM_0 rfl rfl rfl hl.1 (by simp [Value.category]) ⟨⟨rfl, rfl⟩, by decide, by decide⟩ ⟨by decide, by decide⟩ dX10_blockedOf_9 rfl (fun H locs E => ?_)
  refine W.eq (g2 := F0 m 12 ls (.int x9 :: [])) rfl ?_
  refine lv_aload_n C.1 C.2.1 dX10_blockedOf_12 rfl (lv_at hl 0 rfl) ?_
  refine lv_iload_n C.1 C.2.1 dX10_blockedOf_13 rfl (lv_at hl 1 rfl) ?_
  refine lv_iload_n C.1 C.2.1 dX10_blockedOf_14 rfl (lv_at hl 3 rfl) ?_
  refine lv_iconst (v := 1) C.1 C.2.1 dX10_blockedOf_15 (by decide) ?_
  refine lv_iadd C.1 C.2.1 dX10_blockedOf_16 ?_
  obtain ⟨x17, hc17, hf⟩ := fm_bd hf
  refine fm_callS C E [.int _, .int _] [.ref _, .int _] lm_X10_201 wk_X10_liveAt (c_Model_liveAt l G N _ _ _ _  hc17) rfl hl.1 (by simp [Value.category]) ⟨⟨rfl, rfl⟩, by decide, by decide⟩ ⟨by decide, by decide⟩ dX10_blockedOf_17 rfl (fun H locs E => ?_)
  refine W.eq (g2 := F0 m 20 ls (.int x17 :: [.ref _, .int _])) rfl ?_
  refine lv_iload_n C.1 C.2.1 dX10_blockedOf_20 rfl (lv_at hl 2 rfl) ?_
  refine lv_iload C.1 C.2.1 dX10_blockedOf_21 (lv_at hl 4 rfl) ?_
  obtain ⟨x23, hc23, hf⟩ := fm_bd hf
  refine fm_callV C E [.int _, .int _, .int _] [.int _] lm_X10_191 wk_X10_turnedOf (c_Model_turnedOf l G _ _ _ _ _  hc23) hM_0 rfl rfl rfl hl.1 (by simp [Value.category]) ⟨⟨rfl, rfl⟩, by decide, by decide⟩ ⟨by decide, by decide⟩ dX10_blockedOf_23 rfl (fun H locs E => ?_)
  refine W.eq (g2 := F0 m 26 ls (.int x23 :: [.int _])) rfl ?_
  refine lv_isub C.1 C.2.1 dX10_blockedOf_26 ?_
  obtain rfl := fm_rt1 hf
  exact fm_iret C E rfl rfl dX10_blockedOf_27
theorem dX10_beam_0 : decode cX10_beam 0 = .ok (.aload_n 0, 1) := by decide +kernel
theorem dX10_beam_1 : decode cX10_beam 1 = .ok (.iconst 0, 1) := by decide +kernel
theorem dX10_beam_2 : decode cX10_beam 2 = .ok (.putfield 77, 3) := by decide +kernel
theorem dX10_beam_5 : decode cX10_beam 5 = .ok (.iload_n 1, 1) := by decide +kernel
theorem dX10_beam_6 : decode cX10_beam 6 = .ok (.invokestatic 182, 3) := by decide +kernel
theorem dX10_beam_9 : decode cX10_beam 9 = .ok (.ifCond .eq 10, 3) := by decide +kernel
theorem dX10_beam_12 : decode cX10_beam 12 = .ok (.iload_n 2, 1) := by decide +kernel
theorem dX10_beam_13 : decode cX10_beam 13 = .ok (.invokestatic 185, 3) := by decide +kernel
theorem dX10_beam_16 : decode cX10_beam 16 = .ok (.ifCond .ne 8, 3) := by decide +kernel
theorem dX10_beam_19 : decode cX10_beam 19 = .ok (.aload_n 0, 1) := by decide +kernel
theorem dX10_beam_20 : decode cX10_beam 20 = .ok (.invokevirtual 157, 3) := by decide +kernel
theorem dX10_beam_23 : decode cX10_beam 23 = .ok (.ireturn, 1) := by decide +kernel
theorem dX10_beam_24 : decode cX10_beam 24 = .ok (.aload_n 0, 1) := by decide +kernel
theorem dX10_beam_25 : decode cX10_beam 25 = .ok (.invokevirtual 188, 3) := by decide +kernel
theorem dX10_beam_28 : decode cX10_beam 28 = .ok (.aload_n 0, 1) := by decide +kernel
theorem dX10_beam_29 : decode cX10_beam 29 = .ok (.aload_n 0, 1) := by decide +kernel
theorem dX10_beam_30 : decode cX10_beam 30 = .ok (.invokevirtual 204, 3) := by decide +kernel
theorem dX10_beam_33 : decode cX10_beam 33 = .ok (.iload_n 1, 1) := by decide +kernel
theorem dX10_beam_34 : decode cX10_beam 34 = .ok (.iload_n 2, 1) := by decide +kernel
theorem dX10_beam_35 : decode cX10_beam 35 = .ok (.invokevirtual 207, 3) := by decide +kernel
theorem dX10_beam_38 : decode cX10_beam 38 = .ok (.ireturn, 1) := by decide +kernel
set_option maxHeartbeats 4000000 in
set_option maxRecDepth 100000 in
theorem c_Model_beam (l : Launch) (G : fm_G) (N : Nat) (M : fm_M) (v1 : Int32) (v2 : Int32) (r : Int32) (M' : fm_M) (hf : pModel_beam N M v1 v2 = some (r, M')) : fm_Met l yX10_beam cX10_beam 3 (some .int) { frames := 5, cells := 0, slots := 0, locals := 115 } shM G [.ref (G.2.1 0), .int v1, .int v2] M (some (.int r)) M' := by
  refine fm_enter (by decide) (Nat.le_of_ble_eq_true rfl) ?_
  intro p e s m args below meth c ls C E hl
  have hl : lv_has ls 3 [(0, .ref (G.2.1 0)), (1, .int v1), (2, .int v2)] := hl
  have J19 : ∀ (M : fm_M) (H : Heap) (locs : List Loc) (ls : Array Slot), fm_Wd shM G M s H locs → lv_has ls 3 [(0, .ref (G.2.1 0))] → pModel_beam_J19 N M = some (r, M') → W p l e { frames := 5, cells := 0, slots := 0, locals := 115 } s m args below meth c H locs 0 0 (fm_Z below shM G args s (some (.int r)) M') (F0 m 19 ls []) := by
    intro M H locs ls E hl hf
    unfold pModel_beam_J19 at hf
    refine lv_aload_n C.1 C.2.1 dX10_beam_19 rfl (lv_at hl 0 rfl) ?_
    obtain ⟨⟨x20, M20⟩, hc20, hf⟩ := fm_bd hf
    dsimp only at hf
    refine fm_callV C E [] [] lm_X10_157 wk_X10_lost (c_Model_lost l G _ _ _ hc20) hM_0 rfl rfl rfl hl.1 (by simp [Value.category]) ⟨⟨rfl, rfl⟩, by decide, by decide⟩ ⟨by decide, by decide⟩ dX10_beam_20 rfl (fun H locs E => ?_)
    refine W.eq (g2 := F0 m 23 ls (.int x20 :: [])) rfl ?_
    obtain ⟨rfl, rfl⟩ := fm_rt2 hf
    exact fm_iret C E rfl rfl dX10_beam_23
  unfold pModel_beam at hf
  refine lv_aload_n C.1 C.2.1 dX10_beam_0 rfl (lv_at hl 0 rfl) ?_
  refine lv_iconst (v := 0) C.1 C.2.1 dX10_beam_1 (by decide) ?_
  obtain ⟨M2, e2, hf⟩ := fm_pt_s hf
  refine fm_put' C E e2 lp_X10_77 hM_0 rfl dX10_beam_2 (fun H locs E => ?_)
  refine lv_iload_n C.1 C.2.1 dX10_beam_5 rfl (lv_at hl 1 rfl) ?_
  obtain ⟨x6, hc6, hf⟩ := fm_bd hf
  refine fm_callS C E [.int _] [] lm_X10_182 wk_X10_isSide (c_Model_isSide l G _ _ _  hc6) rfl hl.1 (by simp [Value.category]) ⟨⟨rfl, rfl⟩, by decide, by decide⟩ ⟨by decide, by decide⟩ dX10_beam_6 rfl (fun H locs E => ?_)
  refine W.eq (g2 := F0 m 9 ls (.int x6 :: [])) rfl ?_
  refine lv_if_eq (tgt := 19) C.1 C.2.1 dX10_beam_9 (by decide) (fun hc9 => ?_) (fun hc9 => ?_)
  · have hf := fm_ip hf hc9
    exact J19 _ _ _ _ E (lv_sub hl [0] rfl) hf
  · have hf := fm_in' hf hc9
    refine lv_iload_n C.1 C.2.1 dX10_beam_12 rfl (lv_at hl 2 rfl) ?_
    obtain ⟨x13, hc13, hf⟩ := fm_bd hf
    refine fm_callS C E [.int _] [] lm_X10_185 wk_X10_isNear (c_Model_isNear l G _ _ _  hc13) rfl hl.1 (by simp [Value.category]) ⟨⟨rfl, rfl⟩, by decide, by decide⟩ ⟨by decide, by decide⟩ dX10_beam_13 rfl (fun H locs E => ?_)
    refine W.eq (g2 := F0 m 16 ls (.int x13 :: [])) rfl ?_
    refine lv_if_ne (tgt := 24) C.1 C.2.1 dX10_beam_16 (by decide) (fun hc16 => ?_) (fun hc16 => ?_)
    · have hf := fm_in' hf hc16
      refine lv_aload_n C.1 C.2.1 dX10_beam_24 rfl (lv_at hl 0 rfl) ?_
      obtain ⟨M25, hc25, hf⟩ := fm_bd hf
      refine fm_callV C E [] [] lm_X10_188 wk_X10_hear (c_Model_hear l G N _ _ hc25) hM_0 rfl rfl rfl hl.1 (by simp [Value.category]) ⟨⟨rfl, rfl⟩, by decide, by decide⟩ ⟨by decide, by decide⟩ dX10_beam_25 rfl (fun H locs E => ?_)
      refine W.eq (g2 := F0 m 28 ls []) rfl ?_
      refine lv_aload_n C.1 C.2.1 dX10_beam_28 rfl (lv_at hl 0 rfl) ?_
      refine lv_aload_n C.1 C.2.1 dX10_beam_29 rfl (lv_at hl 0 rfl) ?_
      obtain ⟨x30, hc30, hf⟩ := fm_bd hf
      refine fm_callV C E [] [.ref _] lm_X10_204 wk_X10_liveBits (c_Model_liveBits l G N _ _  hc30) hM_0 rfl rfl rfl hl.1 (by simp [Value.category]) ⟨⟨rfl, rfl⟩, by decide, by decide⟩ ⟨by decide, by decide⟩ dX10_beam_30 rfl (fun H locs E => ?_)
      refine W.eq (g2 := F0 m 33 ls (.int x30 :: [.ref _])) rfl ?_
      refine lv_iload_n C.1 C.2.1 dX10_beam_33 rfl (lv_at hl 1 rfl) ?_
      refine lv_iload_n C.1 C.2.1 dX10_beam_34 rfl (lv_at hl 2 rfl) ?_
      obtain ⟨x35, hc35, hf⟩ := fm_bd hf
      refine fm_callV C E [.int _, .int _, .int _] [] lm_X10_207 wk_X10_beamOf (c_Model_beamOf l G N _ _ _ _ _  hc35) hM_0 rfl rfl rfl hl.1 (by simp [Value.category]) ⟨⟨rfl, rfl⟩, by decide, by decide⟩ ⟨by decide, by decide⟩ dX10_beam_35 rfl (fun H locs E => ?_)
      refine W.eq (g2 := F0 m 38 ls (.int x35 :: [])) rfl ?_
      obtain ⟨rfl, rfl⟩ := fm_rt2 hf
      exact fm_iret C E rfl rfl dX10_beam_38
    · have hf := fm_ip hf hc16
      exact J19 _ _ _ _ E (lv_sub hl [0] rfl) hf
theorem dX10_blocked_0 : decode cX10_blocked 0 = .ok (.aload_n 0, 1) := by decide +kernel
theorem dX10_blocked_1 : decode cX10_blocked 1 = .ok (.iconst 0, 1) := by decide +kernel
theorem dX10_blocked_2 : decode cX10_blocked 2 = .ok (.putfield 77, 3) := by decide +kernel
theorem dX10_blocked_5 : decode cX10_blocked 5 = .ok (.aload_n 0, 1) := by decide +kernel
theorem dX10_blocked_6 : decode cX10_blocked 6 = .ok (.invokevirtual 204, 3) := by decide +kernel
theorem dX10_blocked_9 : decode cX10_blocked 9 = .ok (.istore 4, 2) := by decide +kernel
theorem dX10_blocked_11 : decode cX10_blocked 11 = .ok (.iload_n 1, 1) := by decide +kernel
theorem dX10_blocked_12 : decode cX10_blocked 12 = .ok (.invokestatic 182, 3) := by decide +kernel
theorem dX10_blocked_15 : decode cX10_blocked 15 = .ok (.ifCond .eq 25, 3) := by decide +kernel
theorem dX10_blocked_18 : decode cX10_blocked 18 = .ok (.iload_n 3, 1) := by decide +kernel
theorem dX10_blocked_19 : decode cX10_blocked 19 = .ok (.invokestatic 185, 3) := by decide +kernel
theorem dX10_blocked_22 : decode cX10_blocked 22 = .ok (.ifCond .eq 18, 3) := by decide +kernel
theorem dX10_blocked_25 : decode cX10_blocked 25 = .ok (.iload_n 2, 1) := by decide +kernel
theorem dX10_blocked_26 : decode cX10_blocked 26 = .ok (.iconst 0, 1) := by decide +kernel
theorem dX10_blocked_27 : decode cX10_blocked 27 = .ok (.iload 4, 2) := by decide +kernel
theorem dX10_blocked_29 : decode cX10_blocked 29 = .ok (.invokestatic 198, 3) := by decide +kernel
theorem dX10_blocked_32 : decode cX10_blocked 32 = .ok (.iconst 2, 1) := by decide +kernel
theorem dX10_blocked_33 : decode cX10_blocked 33 = .ok (.isub, 1) := by decide +kernel
theorem dX10_blocked_34 : decode cX10_blocked 34 = .ok (.invokestatic 83, 3) := by decide +kernel
theorem dX10_blocked_37 : decode cX10_blocked 37 = .ok (.ifCond .ne 8, 3) := by decide +kernel
theorem dX10_blocked_40 : decode cX10_blocked 40 = .ok (.aload_n 0, 1) := by decide +kernel
theorem dX10_blocked_41 : decode cX10_blocked 41 = .ok (.invokevirtual 157, 3) := by decide +kernel
theorem dX10_blocked_44 : decode cX10_blocked 44 = .ok (.ireturn, 1) := by decide +kernel
theorem dX10_blocked_45 : decode cX10_blocked 45 = .ok (.aload_n 0, 1) := by decide +kernel
theorem dX10_blocked_46 : decode cX10_blocked 46 = .ok (.invokevirtual 188, 3) := by decide +kernel
theorem dX10_blocked_49 : decode cX10_blocked 49 = .ok (.aload_n 0, 1) := by decide +kernel
theorem dX10_blocked_50 : decode cX10_blocked 50 = .ok (.iload 4, 2) := by decide +kernel
theorem dX10_blocked_52 : decode cX10_blocked 52 = .ok (.iload_n 1, 1) := by decide +kernel
theorem dX10_blocked_53 : decode cX10_blocked 53 = .ok (.iload_n 2, 1) := by decide +kernel
theorem dX10_blocked_54 : decode cX10_blocked 54 = .ok (.iload_n 3, 1) := by decide +kernel
theorem dX10_blocked_55 : decode cX10_blocked 55 = .ok (.invokevirtual 210, 3) := by decide +kernel
theorem dX10_blocked_58 : decode cX10_blocked 58 = .ok (.ireturn, 1) := by decide +kernel
set_option maxHeartbeats 4000000 in
set_option maxRecDepth 100000 in
theorem c_Model_blocked (l : Launch) (G : fm_G) (N : Nat) (M : fm_M) (v1 : Int32) (v2 : Int32) (v3 : Int32) (r : Int32) (M' : fm_M) (hf : pModel_blocked N M v1 v2 v3 = some (r, M')) : fm_Met l yX10_blocked cX10_blocked 5 (some .int) { frames := 5, cells := 0, slots := 0, locals := 115 } shM G [.ref (G.2.1 0), .int v1, .int v2, .int v3] M (some (.int r)) M' := by
  refine fm_enter (by decide) (Nat.le_of_ble_eq_true rfl) ?_
  intro p e s m args below meth c ls C E hl
  have hl : lv_has ls 5 [(0, .ref (G.2.1 0)), (1, .int v1), (2, .int v2), (3, .int v3)] := hl
  have J40 : ∀ (M : fm_M) (H : Heap) (locs : List Loc) (ls : Array Slot), fm_Wd shM G M s H locs → lv_has ls 5 [(0, .ref (G.2.1 0))] → pModel_blocked_J40 N M = some (r, M') → W p l e { frames := 5, cells := 0, slots := 0, locals := 115 } s m args below meth c H locs 0 0 (fm_Z below shM G args s (some (.int r)) M') (F0 m 40 ls []) := by
    intro M H locs ls E hl hf
    unfold pModel_blocked_J40 at hf
    refine lv_aload_n C.1 C.2.1 dX10_blocked_40 rfl (lv_at hl 0 rfl) ?_
    obtain ⟨⟨x41, M41⟩, hc41, hf⟩ := fm_bd hf
    dsimp only at hf
    refine fm_callV C E [] [] lm_X10_157 wk_X10_lost (c_Model_lost l G _ _ _ hc41) hM_0 rfl rfl rfl hl.1 (by simp [Value.category]) ⟨⟨rfl, rfl⟩, by decide, by decide⟩ ⟨by decide, by decide⟩ dX10_blocked_41 rfl (fun H locs E => ?_)
    refine W.eq (g2 := F0 m 44 ls (.int x41 :: [])) rfl ?_
    obtain ⟨rfl, rfl⟩ := fm_rt2 hf
    exact fm_iret C E rfl rfl dX10_blocked_44
  unfold pModel_blocked at hf
  refine lv_aload_n C.1 C.2.1 dX10_blocked_0 rfl (lv_at hl 0 rfl) ?_
  refine lv_iconst (v := 0) C.1 C.2.1 dX10_blocked_1 (by decide) ?_
  obtain ⟨M2, e2, hf⟩ := fm_pt_s hf
  refine fm_put' C E e2 lp_X10_77 hM_0 rfl dX10_blocked_2 (fun H locs E => ?_)
  refine lv_aload_n C.1 C.2.1 dX10_blocked_5 rfl (lv_at hl 0 rfl) ?_
  obtain ⟨x6, hc6, hf⟩ := fm_bd hf
  refine fm_callV C E [] [] lm_X10_204 wk_X10_liveBits (c_Model_liveBits l G N _ _  hc6) hM_0 rfl rfl rfl hl.1 (by simp [Value.category]) ⟨⟨rfl, rfl⟩, by decide, by decide⟩ ⟨by decide, by decide⟩ dX10_blocked_6 rfl (fun H locs E => ?_)
  refine W.eq (g2 := F0 m 9 ls (.int x6 :: [])) rfl ?_
  refine lv_istore (lv' := [(4, .int _), (0, .ref _), (1, .int _), (2, .int _), (3, .int _)]) C.1 C.2.1 dX10_blocked_9 hl (by decide) rfl (fun ls hl => ?_)
  refine lv_iload_n C.1 C.2.1 dX10_blocked_11 rfl (lv_at hl 2 rfl) ?_
  obtain ⟨x12, hc12, hf⟩ := fm_bd hf
  refine fm_callS C E [.int _] [] lm_X10_182 wk_X10_isSide (c_Model_isSide l G _ _ _  hc12) rfl hl.1 (by simp [Value.category]) ⟨⟨rfl, rfl⟩, by decide, by decide⟩ ⟨by decide, by decide⟩ dX10_blocked_12 rfl (fun H locs E => ?_)
  refine W.eq (g2 := F0 m 15 ls (.int x12 :: [])) rfl ?_
  refine lv_if_eq (tgt := 40) C.1 C.2.1 dX10_blocked_15 (by decide) (fun hc15 => ?_) (fun hc15 => ?_)
  · have hf := fm_ip hf hc15
    exact J40 _ _ _ _ E (lv_sub hl [1] rfl) hf
  · have hf := fm_in' hf hc15
    refine lv_iload_n C.1 C.2.1 dX10_blocked_18 rfl (lv_at hl 4 rfl) ?_
    obtain ⟨x19, hc19, hf⟩ := fm_bd hf
    refine fm_callS C E [.int _] [] lm_X10_185 wk_X10_isNear (c_Model_isNear l G _ _ _  hc19) rfl hl.1 (by simp [Value.category]) ⟨⟨rfl, rfl⟩, by decide, by decide⟩ ⟨by decide, by decide⟩ dX10_blocked_19 rfl (fun H locs E => ?_)
    refine W.eq (g2 := F0 m 22 ls (.int x19 :: [])) rfl ?_
    refine lv_if_eq (tgt := 40) C.1 C.2.1 dX10_blocked_22 (by decide) (fun hc22 => ?_) (fun hc22 => ?_)
    · have hf := fm_ip hf hc22
      exact J40 _ _ _ _ E (lv_sub hl [1] rfl) hf
    · have hf := fm_in' hf hc22
      refine lv_iload_n C.1 C.2.1 dX10_blocked_25 rfl (lv_at hl 3 rfl) ?_
      refine lv_iconst (v := 0) C.1 C.2.1 dX10_blocked_26 (by decide) ?_
      refine lv_iload C.1 C.2.1 dX10_blocked_27 (lv_at hl 0 rfl) ?_
      obtain ⟨x29, hc29, hf⟩ := fm_bd hf
      refine fm_callS C E [.int _] [.int _, .int _] lm_X10_198 wk_X10_countBits (c_Model_countBits l G N _ _ _  hc29) rfl hl.1 (by simp [Value.category]) ⟨⟨rfl, rfl⟩, by decide, by decide⟩ ⟨by decide, by decide⟩ dX10_blocked_29 rfl (fun H locs E => ?_)
      refine W.eq (g2 := F0 m 32 ls (.int x29 :: [.int _, .int _])) rfl ?_
      refine lv_iconst (v := 2) C.1 C.2.1 dX10_blocked_32 (by decide) ?_
      refine lv_isub C.1 C.2.1 dX10_blocked_33 ?_
      obtain ⟨x34, hc34, hf⟩ := fm_bd hf
      refine fm_callS C E [.int _, .int _, .int _] [] lm_X10_83 wk_X10_in (c_Model_in l G _ _ _ _ _  hc34) rfl hl.1 (by simp [Value.category]) ⟨⟨rfl, rfl⟩, by decide, by decide⟩ ⟨by decide, by decide⟩ dX10_blocked_34 rfl (fun H locs E => ?_)
      refine W.eq (g2 := F0 m 37 ls (.int x34 :: [])) rfl ?_
      refine lv_if_ne (tgt := 45) C.1 C.2.1 dX10_blocked_37 (by decide) (fun hc37 => ?_) (fun hc37 => ?_)
      · have hf := fm_in' hf hc37
        refine lv_aload_n C.1 C.2.1 dX10_blocked_45 rfl (lv_at hl 1 rfl) ?_
        obtain ⟨M46, hc46, hf⟩ := fm_bd hf
        refine fm_callV C E [] [] lm_X10_188 wk_X10_hear (c_Model_hear l G N _ _ hc46) hM_0 rfl rfl rfl hl.1 (by simp [Value.category]) ⟨⟨rfl, rfl⟩, by decide, by decide⟩ ⟨by decide, by decide⟩ dX10_blocked_46 rfl (fun H locs E => ?_)
        refine W.eq (g2 := F0 m 49 ls []) rfl ?_
        refine lv_aload_n C.1 C.2.1 dX10_blocked_49 rfl (lv_at hl 1 rfl) ?_
        refine lv_iload C.1 C.2.1 dX10_blocked_50 (lv_at hl 0 rfl) ?_
        refine lv_iload_n C.1 C.2.1 dX10_blocked_52 rfl (lv_at hl 2 rfl) ?_
        refine lv_iload_n C.1 C.2.1 dX10_blocked_53 rfl (lv_at hl 3 rfl) ?_
        refine lv_iload_n C.1 C.2.1 dX10_blocked_54 rfl (lv_at hl 4 rfl) ?_
        obtain ⟨x55, hc55, hf⟩ := fm_bd hf
        refine fm_callV C E [.int _, .int _, .int _, .int _] [] lm_X10_210 wk_X10_blockedOf (c_Model_blockedOf l G N _ _ _ _ _ _  hc55) hM_0 rfl rfl rfl hl.1 (by simp [Value.category]) ⟨⟨rfl, rfl⟩, by decide, by decide⟩ ⟨by decide, by decide⟩ dX10_blocked_55 rfl (fun H locs E => ?_)
        refine W.eq (g2 := F0 m 58 ls (.int x55 :: [])) rfl ?_
        obtain ⟨rfl, rfl⟩ := fm_rt2 hf
        exact fm_iret C E rfl rfl dX10_blocked_58
      · have hf := fm_ip hf hc37
        exact J40 _ _ _ _ E (lv_sub hl [1] rfl) hf
theorem dX10_layBeam_0 : decode cX10_layBeam 0 = .ok (.iconst 0, 1) := by decide +kernel
theorem dX10_layBeam_1 : decode cX10_layBeam 1 = .ok (.istore_n 3, 1) := by decide +kernel
theorem dX10_layBeam_2 : decode cX10_layBeam 2 = .ok (.iload_n 3, 1) := by decide +kernel
theorem dX10_layBeam_3 : decode cX10_layBeam 3 = .ok (.aload_n 0, 1) := by decide +kernel
theorem dX10_layBeam_4 : decode cX10_layBeam 4 = .ok (.getfield 9, 3) := by decide +kernel
theorem dX10_layBeam_7 : decode cX10_layBeam 7 = .ok (.bipush 39, 2) := by decide +kernel
theorem dX10_layBeam_9 : decode cX10_layBeam 9 = .ok (.iaload, 1) := by decide +kernel
theorem dX10_layBeam_10 : decode cX10_layBeam 10 = .ok (.if_icmp .ge 30, 3) := by decide +kernel
theorem dX10_layBeam_13 : decode cX10_layBeam 13 = .ok (.aload_n 0, 1) := by decide +kernel
theorem dX10_layBeam_14 : decode cX10_layBeam 14 = .ok (.getfield 40, 3) := by decide +kernel
theorem dX10_layBeam_17 : decode cX10_layBeam 17 = .ok (.iload_n 3, 1) := by decide +kernel
theorem dX10_layBeam_18 : decode cX10_layBeam 18 = .ok (.aload_n 0, 1) := by decide +kernel
theorem dX10_layBeam_19 : decode cX10_layBeam 19 = .ok (.iload_n 1, 1) := by decide +kernel
theorem dX10_layBeam_20 : decode cX10_layBeam 20 = .ok (.iload_n 2, 1) := by decide +kernel
theorem dX10_layBeam_21 : decode cX10_layBeam 21 = .ok (.aload_n 0, 1) := by decide +kernel
theorem dX10_layBeam_22 : decode cX10_layBeam 22 = .ok (.getfield 9, 3) := by decide +kernel
theorem dX10_layBeam_25 : decode cX10_layBeam 25 = .ok (.bipush 38, 2) := by decide +kernel
theorem dX10_layBeam_27 : decode cX10_layBeam 27 = .ok (.iaload, 1) := by decide +kernel
theorem dX10_layBeam_28 : decode cX10_layBeam 28 = .ok (.iload_n 3, 1) := by decide +kernel
theorem dX10_layBeam_29 : decode cX10_layBeam 29 = .ok (.iadd, 1) := by decide +kernel
theorem dX10_layBeam_30 : decode cX10_layBeam 30 = .ok (.invokevirtual 207, 3) := by decide +kernel
theorem dX10_layBeam_33 : decode cX10_layBeam 33 = .ok (.iastore, 1) := by decide +kernel
theorem dX10_layBeam_34 : decode cX10_layBeam 34 = .ok (.iinc 3 1, 3) := by decide +kernel
theorem dX10_layBeam_37 : decode cX10_layBeam 37 = .ok (.goto (-35), 3) := by decide +kernel
theorem dX10_layBeam_40 : decode cX10_layBeam 40 = .ok (.return_, 1) := by decide +kernel
set_option maxHeartbeats 4000000 in
set_option maxRecDepth 100000 in
theorem c_Model_layBeam (l : Launch) (G : fm_G) (N : Nat) (M : fm_M) (v1 : Int32) (v2 : Int32) (M' : fm_M) (hf : pModel_layBeam N M v1 v2 = some M') : fm_Met l yX10_layBeam cX10_layBeam 4 none { frames := 4, cells := 0, slots := 0, locals := 94 } shM G [.ref (G.2.1 0), .int v1, .int v2] M none M' := by
  refine fm_enter (by decide) (Nat.le_of_ble_eq_true rfl) ?_
  intro p e s m args below meth c ls C E hl
  have hl : lv_has ls 4 [(0, .ref (G.2.1 0)), (1, .int v1), (2, .int v2)] := hl
  have L2 : ∀ (w2_v1 : Int32) (w2_v2 : Int32) (n2 : Nat) (v3 : Int32) (M : fm_M) (H : Heap) (locs : List Loc) (ls : Array Slot), fm_Wd shM G M s H locs → lv_has ls 4 [(0, .ref (G.2.1 0)), (1, .int w2_v1), (2, .int w2_v2), (3, .int v3)] → fm_lp (pModel_layBeam_L2 N w2_v1 w2_v2) n2 (v3, M) = some M' → W p l e { frames := 4, cells := 0, slots := 0, locals := 94 } s m args below meth c H locs 0 0 (fm_Z below shM G args s none M') (F0 m 2 ls []) := by
    intro w2_v1 w2_v2 n2
    induction n2 with
    | zero => intro v3 M H locs ls E hl hf; exact fm_lp_0 hf
    | succ n2 ih2 =>
      intro v3 M H locs ls E hl hf
      have hf : pModel_layBeam_L2b N w2_v1 w2_v2 (fm_lp (pModel_layBeam_L2 N w2_v1 w2_v2) n2) v3 M = some M' := hf
      unfold pModel_layBeam_L2b at hf
      refine lv_iload_n C.1 C.2.1 dX10_layBeam_2 rfl (lv_at hl 3 rfl) ?_
      refine lv_aload_n C.1 C.2.1 dX10_layBeam_3 rfl (lv_at hl 0 rfl) ?_
      refine fm_getr C E lf_X10_9 hM_0 rfl dX10_layBeam_4 ?_
      refine lv_bipush (v := 39) C.1 C.2.1 dX10_layBeam_7 (by decide) ?_
      refine fm_ialdc C E 39 (by decide) hM_1 (by decide) dX10_layBeam_9 ?_
      refine lv_icmp_ge (tgt := 40) C.1 C.2.1 dX10_layBeam_10 (by decide) (fun hc10 => ?_) (fun hc10 => ?_)
      · have hf := fm_ip hf hc10
        obtain rfl := fm_rt1 hf
        exact fm_vret C E rfl dX10_layBeam_40
      · have hf := fm_in' hf hc10
        refine lv_aload_n C.1 C.2.1 dX10_layBeam_13 rfl (lv_at hl 0 rfl) ?_
        refine fm_getr C E lf_X10_40 hM_0 rfl dX10_layBeam_14 ?_
        refine lv_iload_n C.1 C.2.1 dX10_layBeam_17 rfl (lv_at hl 3 rfl) ?_
        refine lv_aload_n C.1 C.2.1 dX10_layBeam_18 rfl (lv_at hl 0 rfl) ?_
        refine lv_iload_n C.1 C.2.1 dX10_layBeam_19 rfl (lv_at hl 1 rfl) ?_
        refine lv_iload_n C.1 C.2.1 dX10_layBeam_20 rfl (lv_at hl 2 rfl) ?_
        refine lv_aload_n C.1 C.2.1 dX10_layBeam_21 rfl (lv_at hl 0 rfl) ?_
        refine fm_getr C E lf_X10_9 hM_0 rfl dX10_layBeam_22 ?_
        refine lv_bipush (v := 38) C.1 C.2.1 dX10_layBeam_25 (by decide) ?_
        refine fm_ialdc C E 38 (by decide) hM_1 (by decide) dX10_layBeam_27 ?_
        refine lv_iload_n C.1 C.2.1 dX10_layBeam_28 rfl (lv_at hl 3 rfl) ?_
        refine lv_iadd C.1 C.2.1 dX10_layBeam_29 ?_
        obtain ⟨x30, hc30, hf⟩ := fm_bd hf
        refine fm_callV C E [.int _, .int _, .int _] [.int _, .ref _] lm_X10_207 wk_X10_beamOf (c_Model_beamOf l G N _ _ _ _ _  hc30) hM_0 rfl rfl rfl hl.1 (by simp [Value.category]) ⟨⟨rfl, rfl⟩, by decide, by decide⟩ ⟨by decide, by decide⟩ dX10_layBeam_30 rfl (fun H locs E => ?_)
        refine W.eq (g2 := F0 m 33 ls (.int x30 :: [.int _, .ref _])) rfl ?_
        obtain ⟨h33, M33, e33, hf⟩ := fm_st_e hf
        refine fm_iast' C E e33 hM_7 h33 dX10_layBeam_33 (fun H locs E => ?_)
        refine fm_iinc C (v := 1) (lv' := [(3, .int _), (0, .ref _), (1, .int _), (2, .int _)]) (k := 3) hl rfl (by decide) (by decide) rfl dX10_layBeam_34 (fun ls hl => ?_)
        refine lv_goto (tgt := 2) C.1 C.2.1 dX10_layBeam_37 (by decide) ?_
        exact ih2 _ _ _ _ _ E (lv_sub hl [1, 2, 3, 0] rfl) hf
  unfold pModel_layBeam at hf
  refine lv_iconst (v := 0) C.1 C.2.1 dX10_layBeam_0 (by decide) ?_
  refine lv_istore_n (lv' := [(3, .int _), (0, .ref _), (1, .int _), (2, .int _)]) C.1 C.2.1 dX10_layBeam_1 rfl hl (by decide) rfl (fun ls hl => ?_)
  exact L2 _ _ N _ _ _ _ _ E (lv_sub hl [1, 2, 3, 0] rfl) hf
theorem dX10_layClean_0 : decode cX10_layClean 0 = .ok (.iconst 0, 1) := by decide +kernel
theorem dX10_layClean_1 : decode cX10_layClean 1 = .ok (.istore_n 1, 1) := by decide +kernel
theorem dX10_layClean_2 : decode cX10_layClean 2 = .ok (.iload_n 1, 1) := by decide +kernel
theorem dX10_layClean_3 : decode cX10_layClean 3 = .ok (.aload_n 0, 1) := by decide +kernel
theorem dX10_layClean_4 : decode cX10_layClean 4 = .ok (.getfield 9, 3) := by decide +kernel
theorem dX10_layClean_7 : decode cX10_layClean 7 = .ok (.bipush 39, 2) := by decide +kernel
theorem dX10_layClean_9 : decode cX10_layClean 9 = .ok (.iaload, 1) := by decide +kernel
theorem dX10_layClean_10 : decode cX10_layClean 10 = .ok (.if_icmp .ge 65, 3) := by decide +kernel
theorem dX10_layClean_13 : decode cX10_layClean 13 = .ok (.iconst 0, 1) := by decide +kernel
theorem dX10_layClean_14 : decode cX10_layClean 14 = .ok (.istore_n 2, 1) := by decide +kernel
theorem dX10_layClean_15 : decode cX10_layClean 15 = .ok (.iconst 0, 1) := by decide +kernel
theorem dX10_layClean_16 : decode cX10_layClean 16 = .ok (.istore_n 3, 1) := by decide +kernel
theorem dX10_layClean_17 : decode cX10_layClean 17 = .ok (.iload_n 3, 1) := by decide +kernel
theorem dX10_layClean_18 : decode cX10_layClean 18 = .ok (.aload_n 0, 1) := by decide +kernel
theorem dX10_layClean_19 : decode cX10_layClean 19 = .ok (.getfield 214, 3) := by decide +kernel
theorem dX10_layClean_22 : decode cX10_layClean 22 = .ok (.if_icmp .ge 30, 3) := by decide +kernel
theorem dX10_layClean_25 : decode cX10_layClean 25 = .ok (.iload_n 2, 1) := by decide +kernel
theorem dX10_layClean_26 : decode cX10_layClean 26 = .ok (.aload_n 0, 1) := by decide +kernel
theorem dX10_layClean_27 : decode cX10_layClean 27 = .ok (.getfield 37, 3) := by decide +kernel
theorem dX10_layClean_30 : decode cX10_layClean 30 = .ok (.iload_n 3, 1) := by decide +kernel
theorem dX10_layClean_31 : decode cX10_layClean 31 = .ok (.iaload, 1) := by decide +kernel
theorem dX10_layClean_32 : decode cX10_layClean 32 = .ok (.aload_n 0, 1) := by decide +kernel
theorem dX10_layClean_33 : decode cX10_layClean 33 = .ok (.getfield 43, 3) := by decide +kernel
theorem dX10_layClean_36 : decode cX10_layClean 36 = .ok (.bipush 48, 2) := by decide +kernel
theorem dX10_layClean_38 : decode cX10_layClean 38 = .ok (.iload_n 3, 1) := by decide +kernel
theorem dX10_layClean_39 : decode cX10_layClean 39 = .ok (.imul, 1) := by decide +kernel
theorem dX10_layClean_40 : decode cX10_layClean 40 = .ok (.iload_n 1, 1) := by decide +kernel
theorem dX10_layClean_41 : decode cX10_layClean 41 = .ok (.iadd, 1) := by decide +kernel
theorem dX10_layClean_42 : decode cX10_layClean 42 = .ok (.iaload, 1) := by decide +kernel
theorem dX10_layClean_43 : decode cX10_layClean 43 = .ok (.imul, 1) := by decide +kernel
theorem dX10_layClean_44 : decode cX10_layClean 44 = .ok (.iadd, 1) := by decide +kernel
theorem dX10_layClean_45 : decode cX10_layClean 45 = .ok (.istore_n 2, 1) := by decide +kernel
theorem dX10_layClean_46 : decode cX10_layClean 46 = .ok (.iinc 3 1, 3) := by decide +kernel
theorem dX10_layClean_49 : decode cX10_layClean 49 = .ok (.goto (-32), 3) := by decide +kernel
theorem dX10_layClean_52 : decode cX10_layClean 52 = .ok (.aload_n 0, 1) := by decide +kernel
theorem dX10_layClean_53 : decode cX10_layClean 53 = .ok (.getfield 46, 3) := by decide +kernel
theorem dX10_layClean_56 : decode cX10_layClean 56 = .ok (.iload_n 1, 1) := by decide +kernel
theorem dX10_layClean_57 : decode cX10_layClean 57 = .ok (.aload_n 0, 1) := by decide +kernel
theorem dX10_layClean_58 : decode cX10_layClean 58 = .ok (.getfield 40, 3) := by decide +kernel
theorem dX10_layClean_61 : decode cX10_layClean 61 = .ok (.iload_n 1, 1) := by decide +kernel
theorem dX10_layClean_62 : decode cX10_layClean 62 = .ok (.iaload, 1) := by decide +kernel
theorem dX10_layClean_63 : decode cX10_layClean 63 = .ok (.iload_n 2, 1) := by decide +kernel
theorem dX10_layClean_64 : decode cX10_layClean 64 = .ok (.bipush 16, 2) := by decide +kernel
theorem dX10_layClean_66 : decode cX10_layClean 66 = .ok (.idiv, 1) := by decide +kernel
theorem dX10_layClean_67 : decode cX10_layClean 67 = .ok (.isub, 1) := by decide +kernel
theorem dX10_layClean_68 : decode cX10_layClean 68 = .ok (.iastore, 1) := by decide +kernel
theorem dX10_layClean_69 : decode cX10_layClean 69 = .ok (.iinc 1 1, 3) := by decide +kernel
theorem dX10_layClean_72 : decode cX10_layClean 72 = .ok (.goto (-70), 3) := by decide +kernel
theorem dX10_layClean_75 : decode cX10_layClean 75 = .ok (.return_, 1) := by decide +kernel
set_option maxHeartbeats 4000000 in
set_option maxRecDepth 100000 in
theorem c_Model_layClean (l : Launch) (G : fm_G) (N : Nat) (M : fm_M) (M' : fm_M) (hf : pModel_layClean N M = some M') : fm_Met l yX10_layClean cX10_layClean 4 none { frames := 0, cells := 0, slots := 0, locals := 0 } shM G [.ref (G.2.1 0)] M none M' := by
  refine fm_enter (by decide) (Nat.le_of_ble_eq_true rfl) ?_
  intro p e s m args below meth c ls C E hl
  have hl : lv_has ls 4 [(0, .ref (G.2.1 0))] := hl
  have L2 : ∀ (n2 : Nat) (v1 : Int32) (M : fm_M) (H : Heap) (locs : List Loc) (ls : Array Slot), fm_Wd shM G M s H locs → lv_has ls 4 [(0, .ref (G.2.1 0)), (1, .int v1)] → fm_lp (pModel_layClean_L2 N) n2 (v1, M) = some M' → W p l e { frames := 0, cells := 0, slots := 0, locals := 0 } s m args below meth c H locs 0 0 (fm_Z below shM G args s none M') (F0 m 2 ls []) := by
    intro  n2
    induction n2 with
    | zero => intro v1 M H locs ls E hl hf; exact fm_lp_0 hf
    | succ n2 ih2 =>
      have L17 : ∀ (w17_M : fm_M) (w17_v1 : Int32) (n17 : Nat) (v2 : Int32) (v3 : Int32) (H : Heap) (locs : List Loc) (ls : Array Slot), fm_Wd shM G w17_M s H locs → lv_has ls 4 [(0, .ref (G.2.1 0)), (1, .int w17_v1), (2, .int v2), (3, .int v3)] → fm_lp (pModel_layClean_L17 N w17_M w17_v1 (fm_lp (pModel_layClean_L2 N) n2)) n17 (v2, v3) = some M' → W p l e { frames := 0, cells := 0, slots := 0, locals := 0 } s m args below meth c H locs 0 0 (fm_Z below shM G args s none M') (F0 m 17 ls []) := by
        intro w17_M w17_v1 n17
        induction n17 with
        | zero => intro v2 v3 H locs ls E hl hf; exact fm_lp_0 hf
        | succ n17 ih17 =>
          intro v2 v3 H locs ls E hl hf
          have hf : pModel_layClean_L17b N w17_M w17_v1 (fm_lp (pModel_layClean_L2 N) n2) (fm_lp (pModel_layClean_L17 N w17_M w17_v1 (fm_lp (pModel_layClean_L2 N) n2)) n17) v2 v3 = some M' := hf
          unfold pModel_layClean_L17b at hf
          refine lv_iload_n C.1 C.2.1 dX10_layClean_17 rfl (lv_at hl 3 rfl) ?_
          refine lv_aload_n C.1 C.2.1 dX10_layClean_18 rfl (lv_at hl 0 rfl) ?_
          refine fm_geti C E lf_X10_214 hM_0 rfl dX10_layClean_19 ?_
          refine lv_icmp_ge (tgt := 52) C.1 C.2.1 dX10_layClean_22 (by decide) (fun hc22 => ?_) (fun hc22 => ?_)
          · have hf := fm_ip hf hc22
            refine lv_aload_n C.1 C.2.1 dX10_layClean_52 rfl (lv_at hl 0 rfl) ?_
            refine fm_getr C E lf_X10_46 hM_0 rfl dX10_layClean_53 ?_
            refine lv_iload_n C.1 C.2.1 dX10_layClean_56 rfl (lv_at hl 1 rfl) ?_
            refine lv_aload_n C.1 C.2.1 dX10_layClean_57 rfl (lv_at hl 0 rfl) ?_
            refine fm_getr C E lf_X10_40 hM_0 rfl dX10_layClean_58 ?_
            refine lv_iload_n C.1 C.2.1 dX10_layClean_61 rfl (lv_at hl 1 rfl) ?_
            obtain ⟨h62, x62, e62, hf⟩ := fm_ld_e hf
            refine fm_iald' C E e62 hM_7 h62 dX10_layClean_62 ?_
            refine lv_iload_n C.1 C.2.1 dX10_layClean_63 rfl (lv_at hl 2 rfl) ?_
            refine lv_bipush (v := 16) C.1 C.2.1 dX10_layClean_64 (by decide) ?_
            refine lv_idiv C.1 C.2.1 dX10_layClean_66 (by decide) ?_
            refine lv_isub C.1 C.2.1 dX10_layClean_67 ?_
            obtain ⟨h68, M68, e68, hf⟩ := fm_st_e hf
            refine fm_iast' C E e68 hM_9 h68 dX10_layClean_68 (fun H locs E => ?_)
            refine fm_iinc C (v := 1) (lv' := [(1, .int _), (0, .ref _), (2, .int _), (3, .int _)]) (k := 1) hl rfl (by decide) (by decide) rfl dX10_layClean_69 (fun ls hl => ?_)
            refine lv_goto (tgt := 2) C.1 C.2.1 dX10_layClean_72 (by decide) ?_
            exact ih2 _ _ _ _ _ E (lv_sub hl [1, 0] rfl) hf
          · have hf := fm_in' hf hc22
            refine lv_iload_n C.1 C.2.1 dX10_layClean_25 rfl (lv_at hl 2 rfl) ?_
            refine lv_aload_n C.1 C.2.1 dX10_layClean_26 rfl (lv_at hl 0 rfl) ?_
            refine fm_getr C E lf_X10_37 hM_0 rfl dX10_layClean_27 ?_
            refine lv_iload_n C.1 C.2.1 dX10_layClean_30 rfl (lv_at hl 3 rfl) ?_
            obtain ⟨h31, x31, e31, hf⟩ := fm_ld_e hf
            refine fm_iald' C E e31 hM_6 h31 dX10_layClean_31 ?_
            refine lv_aload_n C.1 C.2.1 dX10_layClean_32 rfl (lv_at hl 0 rfl) ?_
            refine fm_getr C E lf_X10_43 hM_0 rfl dX10_layClean_33 ?_
            refine lv_bipush (v := 48) C.1 C.2.1 dX10_layClean_36 (by decide) ?_
            refine lv_iload_n C.1 C.2.1 dX10_layClean_38 rfl (lv_at hl 3 rfl) ?_
            refine lv_imul C.1 C.2.1 dX10_layClean_39 ?_
            refine lv_iload_n C.1 C.2.1 dX10_layClean_40 rfl (lv_at hl 1 rfl) ?_
            refine lv_iadd C.1 C.2.1 dX10_layClean_41 ?_
            obtain ⟨h42, x42, e42, hf⟩ := fm_ld_e hf
            refine fm_iald' C E e42 hM_8 h42 dX10_layClean_42 ?_
            refine lv_imul C.1 C.2.1 dX10_layClean_43 ?_
            refine lv_iadd C.1 C.2.1 dX10_layClean_44 ?_
            refine lv_istore_n (lv' := [(2, .int _), (0, .ref _), (1, .int _), (3, .int _)]) C.1 C.2.1 dX10_layClean_45 rfl hl (by decide) rfl (fun ls hl => ?_)
            refine fm_iinc C (v := 1) (lv' := [(3, .int _), (2, .int _), (0, .ref _), (1, .int _)]) (k := 3) hl rfl (by decide) (by decide) rfl dX10_layClean_46 (fun ls hl => ?_)
            refine lv_goto (tgt := 17) C.1 C.2.1 dX10_layClean_49 (by decide) ?_
            exact ih17 _ _ _ _ _ E (lv_sub hl [2, 3, 1, 0] rfl) hf
      intro v1 M H locs ls E hl hf
      have hf : pModel_layClean_L2b N (fm_lp (pModel_layClean_L2 N) n2) v1 M = some M' := hf
      unfold pModel_layClean_L2b at hf
      refine lv_iload_n C.1 C.2.1 dX10_layClean_2 rfl (lv_at hl 1 rfl) ?_
      refine lv_aload_n C.1 C.2.1 dX10_layClean_3 rfl (lv_at hl 0 rfl) ?_
      refine fm_getr C E lf_X10_9 hM_0 rfl dX10_layClean_4 ?_
      refine lv_bipush (v := 39) C.1 C.2.1 dX10_layClean_7 (by decide) ?_
      refine fm_ialdc C E 39 (by decide) hM_1 (by decide) dX10_layClean_9 ?_
      refine lv_icmp_ge (tgt := 75) C.1 C.2.1 dX10_layClean_10 (by decide) (fun hc10 => ?_) (fun hc10 => ?_)
      · have hf := fm_ip hf hc10
        obtain rfl := fm_rt1 hf
        exact fm_vret C E rfl dX10_layClean_75
      · have hf := fm_in' hf hc10
        refine lv_iconst (v := 0) C.1 C.2.1 dX10_layClean_13 (by decide) ?_
        refine lv_istore_n (lv' := [(2, .int _), (0, .ref _), (1, .int _)]) C.1 C.2.1 dX10_layClean_14 rfl hl (by decide) rfl (fun ls hl => ?_)
        refine lv_iconst (v := 0) C.1 C.2.1 dX10_layClean_15 (by decide) ?_
        refine lv_istore_n (lv' := [(3, .int _), (2, .int _), (0, .ref _), (1, .int _)]) C.1 C.2.1 dX10_layClean_16 rfl hl (by decide) rfl (fun ls hl => ?_)
        exact L17 _ _ N _ _ _ _ _ E (lv_sub hl [2, 3, 1, 0] rfl) hf
  unfold pModel_layClean at hf
  refine lv_iconst (v := 0) C.1 C.2.1 dX10_layClean_0 (by decide) ?_
  refine lv_istore_n (lv' := [(1, .int _), (0, .ref _)]) C.1 C.2.1 dX10_layClean_1 rfl hl (by decide) rfl (fun ls hl => ?_)
  exact L2  N _ _ _ _ _ E (lv_sub hl [1, 0] rfl) hf
theorem dX10_powerOf_0 : decode cX10_powerOf 0 = .ok (.lconst 0, 1) := by decide +kernel
theorem dX10_powerOf_1 : decode cX10_powerOf 1 = .ok (.lstore_n 2, 1) := by decide +kernel
theorem dX10_powerOf_2 : decode cX10_powerOf 2 = .ok (.iconst 0, 1) := by decide +kernel
theorem dX10_powerOf_3 : decode cX10_powerOf 3 = .ok (.istore 4, 2) := by decide +kernel
theorem dX10_powerOf_5 : decode cX10_powerOf 5 = .ok (.iload 4, 2) := by decide +kernel
theorem dX10_powerOf_7 : decode cX10_powerOf 7 = .ok (.aload_n 0, 1) := by decide +kernel
theorem dX10_powerOf_8 : decode cX10_powerOf 8 = .ok (.getfield 9, 3) := by decide +kernel
theorem dX10_powerOf_11 : decode cX10_powerOf 11 = .ok (.bipush 39, 2) := by decide +kernel
theorem dX10_powerOf_13 : decode cX10_powerOf 13 = .ok (.iaload, 1) := by decide +kernel
theorem dX10_powerOf_14 : decode cX10_powerOf 14 = .ok (.if_icmp .ge 23, 3) := by decide +kernel
theorem dX10_powerOf_17 : decode cX10_powerOf 17 = .ok (.lload_n 2, 1) := by decide +kernel
theorem dX10_powerOf_18 : decode cX10_powerOf 18 = .ok (.aload_n 1, 1) := by decide +kernel
theorem dX10_powerOf_19 : decode cX10_powerOf 19 = .ok (.iload 4, 2) := by decide +kernel
theorem dX10_powerOf_21 : decode cX10_powerOf 21 = .ok (.iaload, 1) := by decide +kernel
theorem dX10_powerOf_22 : decode cX10_powerOf 22 = .ok (.i2l, 1) := by decide +kernel
theorem dX10_powerOf_23 : decode cX10_powerOf 23 = .ok (.aload_n 1, 1) := by decide +kernel
theorem dX10_powerOf_24 : decode cX10_powerOf 24 = .ok (.iload 4, 2) := by decide +kernel
theorem dX10_powerOf_26 : decode cX10_powerOf 26 = .ok (.iaload, 1) := by decide +kernel
theorem dX10_powerOf_27 : decode cX10_powerOf 27 = .ok (.i2l, 1) := by decide +kernel
theorem dX10_powerOf_28 : decode cX10_powerOf 28 = .ok (.lmul, 1) := by decide +kernel
theorem dX10_powerOf_29 : decode cX10_powerOf 29 = .ok (.ladd, 1) := by decide +kernel
theorem dX10_powerOf_30 : decode cX10_powerOf 30 = .ok (.lstore_n 2, 1) := by decide +kernel
theorem dX10_powerOf_31 : decode cX10_powerOf 31 = .ok (.iinc 4 1, 3) := by decide +kernel
theorem dX10_powerOf_34 : decode cX10_powerOf 34 = .ok (.goto (-29), 3) := by decide +kernel
theorem dX10_powerOf_37 : decode cX10_powerOf 37 = .ok (.lload_n 2, 1) := by decide +kernel
theorem dX10_powerOf_38 : decode cX10_powerOf 38 = .ok (.aload_n 0, 1) := by decide +kernel
theorem dX10_powerOf_39 : decode cX10_powerOf 39 = .ok (.getfield 9, 3) := by decide +kernel
theorem dX10_powerOf_42 : decode cX10_powerOf 42 = .ok (.bipush 39, 2) := by decide +kernel
theorem dX10_powerOf_44 : decode cX10_powerOf 44 = .ok (.iaload, 1) := by decide +kernel
theorem dX10_powerOf_45 : decode cX10_powerOf 45 = .ok (.i2l, 1) := by decide +kernel
theorem dX10_powerOf_46 : decode cX10_powerOf 46 = .ok (.ldiv, 1) := by decide +kernel
theorem dX10_powerOf_47 : decode cX10_powerOf 47 = .ok (.lreturn, 1) := by decide +kernel
set_option maxHeartbeats 4000000 in
set_option maxRecDepth 100000 in
theorem c_Model_powerOf (l : Launch) (G : fm_G) (N : Nat) (M : fm_M) (v1 : Nat) (r : Int64) (hf : pModel_powerOf N M v1 = some r) : fm_Met l yX10_powerOf cX10_powerOf 5 (some .long) { frames := 0, cells := 0, slots := 0, locals := 0 } shM G [.ref (G.2.1 0), .ref (G.2.1 v1)] M (some (.long r)) M := by
  refine fm_enter (by decide) (Nat.le_of_ble_eq_true rfl) ?_
  intro p e s m args below meth c ls C E hl
  have hl : lv_has ls 5 [(0, .ref (G.2.1 0)), (1, .ref (G.2.1 v1))] := hl
  have L5 : ∀ (w5_v1 : Nat) (n5 : Nat) (v2 : Int64) (v4 : Int32) (H : Heap) (locs : List Loc) (ls : Array Slot), fm_Wd shM G M s H locs → lv_has ls 5 [(0, .ref (G.2.1 0)), (1, .ref (G.2.1 w5_v1)), (2, .long v2), (4, .int v4)] → fm_lp (pModel_powerOf_L5 N M w5_v1) n5 (v2, v4) = some r → W p l e { frames := 0, cells := 0, slots := 0, locals := 0 } s m args below meth c H locs 0 0 (fm_Z below shM G args s (some (.long r)) M) (F0 m 5 ls []) := by
    intro w5_v1 n5
    induction n5 with
    | zero => intro v2 v4 H locs ls E hl hf; exact fm_lp_0 hf
    | succ n5 ih5 =>
      intro v2 v4 H locs ls E hl hf
      have hf : pModel_powerOf_L5b N M w5_v1 (fm_lp (pModel_powerOf_L5 N M w5_v1) n5) v2 v4 = some r := hf
      unfold pModel_powerOf_L5b at hf
      refine lv_iload C.1 C.2.1 dX10_powerOf_5 (lv_at hl 3 rfl) ?_
      refine lv_aload_n C.1 C.2.1 dX10_powerOf_7 rfl (lv_at hl 0 rfl) ?_
      refine fm_getr C E lf_X10_9 hM_0 rfl dX10_powerOf_8 ?_
      refine lv_bipush (v := 39) C.1 C.2.1 dX10_powerOf_11 (by decide) ?_
      refine fm_ialdc C E 39 (by decide) hM_1 (by decide) dX10_powerOf_13 ?_
      refine lv_icmp_ge (tgt := 37) C.1 C.2.1 dX10_powerOf_14 (by decide) (fun hc14 => ?_) (fun hc14 => ?_)
      · have hf := fm_ip hf hc14
        refine lv_lload_n C.1 C.2.1 dX10_powerOf_37 rfl (lv_at hl 2 rfl) ?_
        refine lv_aload_n C.1 C.2.1 dX10_powerOf_38 rfl (lv_at hl 0 rfl) ?_
        refine fm_getr C E lf_X10_9 hM_0 rfl dX10_powerOf_39 ?_
        refine lv_bipush (v := 39) C.1 C.2.1 dX10_powerOf_42 (by decide) ?_
        refine fm_ialdc C E 39 (by decide) hM_1 (by decide) dX10_powerOf_44 ?_
        refine lv_i2l C.1 C.2.1 dX10_powerOf_45 rfl ?_
        obtain ⟨hz46, hf⟩ := fm_nzl_s hf
        refine lv_ldiv C.1 C.2.1 dX10_powerOf_46 hz46 ?_
        obtain rfl := fm_rt1 hf
        exact fm_lret C E rfl dX10_powerOf_47
      · have hf := fm_in' hf hc14
        refine lv_lload_n C.1 C.2.1 dX10_powerOf_17 rfl (lv_at hl 2 rfl) ?_
        refine lv_aload_n C.1 C.2.1 dX10_powerOf_18 rfl (lv_at hl 1 rfl) ?_
        refine lv_iload C.1 C.2.1 dX10_powerOf_19 (lv_at hl 3 rfl) ?_
        obtain ⟨h21, x21, e21, hf⟩ := fm_ld_e hf
        obtain ⟨_, hk21⟩ := fm_n_at h21
        refine fm_iald' C E e21 hk21 h21 dX10_powerOf_21 ?_
        refine lv_i2l C.1 C.2.1 dX10_powerOf_22 rfl ?_
        refine lv_aload_n C.1 C.2.1 dX10_powerOf_23 rfl (lv_at hl 1 rfl) ?_
        refine lv_iload C.1 C.2.1 dX10_powerOf_24 (lv_at hl 3 rfl) ?_
        obtain ⟨h26, x26, e26, hf⟩ := fm_ld_e hf
        obtain ⟨_, hk26⟩ := fm_n_at h26
        refine fm_iald' C E e26 hk26 h26 dX10_powerOf_26 ?_
        refine lv_i2l C.1 C.2.1 dX10_powerOf_27 rfl ?_
        refine lv_lmul C.1 C.2.1 dX10_powerOf_28 ?_
        refine lv_ladd C.1 C.2.1 dX10_powerOf_29 ?_
        refine lv_lstore_n (lv' := [(2, .long _), (0, .ref _), (1, .ref _), (4, .int _)]) C.1 C.2.1 dX10_powerOf_30 rfl hl (by decide) rfl (fun ls hl => ?_)
        refine fm_iinc C (v := 1) (lv' := [(4, .int _), (2, .long _), (0, .ref _), (1, .ref _)]) (k := 3) hl rfl (by decide) (by decide) rfl dX10_powerOf_31 (fun ls hl => ?_)
        refine lv_goto (tgt := 5) C.1 C.2.1 dX10_powerOf_34 (by decide) ?_
        exact ih5 _ _ _ _ _ E (lv_sub hl [2, 3, 1, 0] rfl) hf
  unfold pModel_powerOf at hf
  refine lv_lconst (v := 0) C.1 C.2.1 dX10_powerOf_0 (by decide) ?_
  refine lv_lstore_n (lv' := [(2, .long _), (0, .ref _), (1, .ref _)]) C.1 C.2.1 dX10_powerOf_1 rfl hl (by decide) rfl (fun ls hl => ?_)
  refine lv_iconst (v := 0) C.1 C.2.1 dX10_powerOf_2 (by decide) ?_
  refine lv_istore (lv' := [(4, .int _), (2, .long _), (0, .ref _), (1, .ref _)]) C.1 C.2.1 dX10_powerOf_3 hl (by decide) rfl (fun ls hl => ?_)
  exact L5 _ N _ _ _ _ _ E (lv_sub hl [2, 3, 1, 0] rfl) hf
theorem dX10_levelOf_0 : decode cX10_levelOf 0 = .ok (.iconst 0, 1) := by decide +kernel
theorem dX10_levelOf_1 : decode cX10_levelOf 1 = .ok (.istore_n 2, 1) := by decide +kernel
theorem dX10_levelOf_2 : decode cX10_levelOf 2 = .ok (.iconst 0, 1) := by decide +kernel
theorem dX10_levelOf_3 : decode cX10_levelOf 3 = .ok (.istore_n 3, 1) := by decide +kernel
theorem dX10_levelOf_4 : decode cX10_levelOf 4 = .ok (.iload_n 3, 1) := by decide +kernel
theorem dX10_levelOf_5 : decode cX10_levelOf 5 = .ok (.aload_n 0, 1) := by decide +kernel
theorem dX10_levelOf_6 : decode cX10_levelOf 6 = .ok (.getfield 9, 3) := by decide +kernel
theorem dX10_levelOf_9 : decode cX10_levelOf 9 = .ok (.bipush 39, 2) := by decide +kernel
theorem dX10_levelOf_11 : decode cX10_levelOf 11 = .ok (.iaload, 1) := by decide +kernel
theorem dX10_levelOf_12 : decode cX10_levelOf 12 = .ok (.if_icmp .ge 18, 3) := by decide +kernel
theorem dX10_levelOf_15 : decode cX10_levelOf 15 = .ok (.iload_n 2, 1) := by decide +kernel
theorem dX10_levelOf_16 : decode cX10_levelOf 16 = .ok (.aload_n 1, 1) := by decide +kernel
theorem dX10_levelOf_17 : decode cX10_levelOf 17 = .ok (.iload_n 3, 1) := by decide +kernel
theorem dX10_levelOf_18 : decode cX10_levelOf 18 = .ok (.iaload, 1) := by decide +kernel
theorem dX10_levelOf_19 : decode cX10_levelOf 19 = .ok (.invokestatic 217, 3) := by decide +kernel
theorem dX10_levelOf_22 : decode cX10_levelOf 22 = .ok (.iadd, 1) := by decide +kernel
theorem dX10_levelOf_23 : decode cX10_levelOf 23 = .ok (.istore_n 2, 1) := by decide +kernel
theorem dX10_levelOf_24 : decode cX10_levelOf 24 = .ok (.iinc 3 1, 3) := by decide +kernel
theorem dX10_levelOf_27 : decode cX10_levelOf 27 = .ok (.goto (-23), 3) := by decide +kernel
theorem dX10_levelOf_30 : decode cX10_levelOf 30 = .ok (.iload_n 2, 1) := by decide +kernel
theorem dX10_levelOf_31 : decode cX10_levelOf 31 = .ok (.aload_n 0, 1) := by decide +kernel
theorem dX10_levelOf_32 : decode cX10_levelOf 32 = .ok (.getfield 9, 3) := by decide +kernel
theorem dX10_levelOf_35 : decode cX10_levelOf 35 = .ok (.bipush 39, 2) := by decide +kernel
theorem dX10_levelOf_37 : decode cX10_levelOf 37 = .ok (.iaload, 1) := by decide +kernel
theorem dX10_levelOf_38 : decode cX10_levelOf 38 = .ok (.idiv, 1) := by decide +kernel
theorem dX10_levelOf_39 : decode cX10_levelOf 39 = .ok (.ireturn, 1) := by decide +kernel
set_option maxHeartbeats 4000000 in
set_option maxRecDepth 100000 in
theorem c_Model_levelOf (l : Launch) (G : fm_G) (N : Nat) (M : fm_M) (v1 : Nat) (r : Int32) (hf : pModel_levelOf N M v1 = some r) : fm_Met l yX10_levelOf cX10_levelOf 4 (some .int) { frames := 1, cells := 0, slots := 0, locals := 21 } shM G [.ref (G.2.1 0), .ref (G.2.1 v1)] M (some (.int r)) M := by
  refine fm_enter (by decide) (Nat.le_of_ble_eq_true rfl) ?_
  intro p e s m args below meth c ls C E hl
  have hl : lv_has ls 4 [(0, .ref (G.2.1 0)), (1, .ref (G.2.1 v1))] := hl
  have L4 : ∀ (w4_v1 : Nat) (n4 : Nat) (v2 : Int32) (v3 : Int32) (H : Heap) (locs : List Loc) (ls : Array Slot), fm_Wd shM G M s H locs → lv_has ls 4 [(0, .ref (G.2.1 0)), (1, .ref (G.2.1 w4_v1)), (2, .int v2), (3, .int v3)] → fm_lp (pModel_levelOf_L4 N M w4_v1) n4 (v2, v3) = some r → W p l e { frames := 1, cells := 0, slots := 0, locals := 21 } s m args below meth c H locs 0 0 (fm_Z below shM G args s (some (.int r)) M) (F0 m 4 ls []) := by
    intro w4_v1 n4
    induction n4 with
    | zero => intro v2 v3 H locs ls E hl hf; exact fm_lp_0 hf
    | succ n4 ih4 =>
      intro v2 v3 H locs ls E hl hf
      have hf : pModel_levelOf_L4b N M w4_v1 (fm_lp (pModel_levelOf_L4 N M w4_v1) n4) v2 v3 = some r := hf
      unfold pModel_levelOf_L4b at hf
      refine lv_iload_n C.1 C.2.1 dX10_levelOf_4 rfl (lv_at hl 3 rfl) ?_
      refine lv_aload_n C.1 C.2.1 dX10_levelOf_5 rfl (lv_at hl 0 rfl) ?_
      refine fm_getr C E lf_X10_9 hM_0 rfl dX10_levelOf_6 ?_
      refine lv_bipush (v := 39) C.1 C.2.1 dX10_levelOf_9 (by decide) ?_
      refine fm_ialdc C E 39 (by decide) hM_1 (by decide) dX10_levelOf_11 ?_
      refine lv_icmp_ge (tgt := 30) C.1 C.2.1 dX10_levelOf_12 (by decide) (fun hc12 => ?_) (fun hc12 => ?_)
      · have hf := fm_ip hf hc12
        refine lv_iload_n C.1 C.2.1 dX10_levelOf_30 rfl (lv_at hl 2 rfl) ?_
        refine lv_aload_n C.1 C.2.1 dX10_levelOf_31 rfl (lv_at hl 0 rfl) ?_
        refine fm_getr C E lf_X10_9 hM_0 rfl dX10_levelOf_32 ?_
        refine lv_bipush (v := 39) C.1 C.2.1 dX10_levelOf_35 (by decide) ?_
        refine fm_ialdc C E 39 (by decide) hM_1 (by decide) dX10_levelOf_37 ?_
        obtain ⟨hz38, hf⟩ := fm_nz_s hf
        refine lv_idiv C.1 C.2.1 dX10_levelOf_38 hz38 ?_
        obtain rfl := fm_rt1 hf
        exact fm_iret C E rfl rfl dX10_levelOf_39
      · have hf := fm_in' hf hc12
        refine lv_iload_n C.1 C.2.1 dX10_levelOf_15 rfl (lv_at hl 2 rfl) ?_
        refine lv_aload_n C.1 C.2.1 dX10_levelOf_16 rfl (lv_at hl 1 rfl) ?_
        refine lv_iload_n C.1 C.2.1 dX10_levelOf_17 rfl (lv_at hl 3 rfl) ?_
        obtain ⟨h18, x18, e18, hf⟩ := fm_ld_e hf
        obtain ⟨_, hk18⟩ := fm_n_at h18
        refine fm_iald' C E e18 hk18 h18 dX10_levelOf_18 ?_
        refine fm_abs C wv_abs wm_1417 hl.1 ⟨by decide, by decide⟩ (by simp [Value.category]) ⟨by decide, by decide⟩ dX10_levelOf_19 ?_
        refine lv_iadd C.1 C.2.1 dX10_levelOf_22 ?_
        refine lv_istore_n (lv' := [(2, .int _), (0, .ref _), (1, .ref _), (3, .int _)]) C.1 C.2.1 dX10_levelOf_23 rfl hl (by decide) rfl (fun ls hl => ?_)
        refine fm_iinc C (v := 1) (lv' := [(3, .int _), (2, .int _), (0, .ref _), (1, .ref _)]) (k := 3) hl rfl (by decide) (by decide) rfl dX10_levelOf_24 (fun ls hl => ?_)
        refine lv_goto (tgt := 4) C.1 C.2.1 dX10_levelOf_27 (by decide) ?_
        exact ih4 _ _ _ _ _ E (lv_sub hl [2, 3, 1, 0] rfl) hf
  unfold pModel_levelOf at hf
  refine lv_iconst (v := 0) C.1 C.2.1 dX10_levelOf_0 (by decide) ?_
  refine lv_istore_n (lv' := [(2, .int _), (0, .ref _), (1, .ref _)]) C.1 C.2.1 dX10_levelOf_1 rfl hl (by decide) rfl (fun ls hl => ?_)
  refine lv_iconst (v := 0) C.1 C.2.1 dX10_levelOf_2 (by decide) ?_
  refine lv_istore_n (lv' := [(3, .int _), (2, .int _), (0, .ref _), (1, .ref _)]) C.1 C.2.1 dX10_levelOf_3 rfl hl (by decide) rfl (fun ls hl => ?_)
  exact L4 _ N _ _ _ _ _ E (lv_sub hl [2, 3, 1, 0] rfl) hf
theorem dX10_turn_0 : decode cX10_turn 0 = .ok (.iload_n 0, 1) := by decide +kernel
theorem dX10_turn_1 : decode cX10_turn 1 = .ok (.iconst 2, 1) := by decide +kernel
theorem dX10_turn_2 : decode cX10_turn 2 = .ok (.irem, 1) := by decide +kernel
theorem dX10_turn_3 : decode cX10_turn 3 = .ok (.iconst 1, 1) := by decide +kernel
theorem dX10_turn_4 : decode cX10_turn 4 = .ok (.if_icmp .ne 11, 3) := by decide +kernel
theorem dX10_turn_7 : decode cX10_turn 7 = .ok (.iload_n 0, 1) := by decide +kernel
theorem dX10_turn_8 : decode cX10_turn 8 = .ok (.iconst 1, 1) := by decide +kernel
theorem dX10_turn_9 : decode cX10_turn 9 = .ok (.iadd, 1) := by decide +kernel
theorem dX10_turn_10 : decode cX10_turn 10 = .ok (.iconst 2, 1) := by decide +kernel
theorem dX10_turn_11 : decode cX10_turn 11 = .ok (.idiv, 1) := by decide +kernel
theorem dX10_turn_12 : decode cX10_turn 12 = .ok (.goto 7, 3) := by decide +kernel
theorem dX10_turn_15 : decode cX10_turn 15 = .ok (.iload_n 0, 1) := by decide +kernel
theorem dX10_turn_16 : decode cX10_turn 16 = .ok (.ineg, 1) := by decide +kernel
theorem dX10_turn_17 : decode cX10_turn 17 = .ok (.iconst 2, 1) := by decide +kernel
theorem dX10_turn_18 : decode cX10_turn 18 = .ok (.idiv, 1) := by decide +kernel
theorem dX10_turn_19 : decode cX10_turn 19 = .ok (.ireturn, 1) := by decide +kernel
set_option maxHeartbeats 4000000 in
set_option maxRecDepth 100000 in
theorem c_Model_turn (l : Launch) (G : fm_G) (M : fm_M) (v0 : Int32) (r : Int32) (hf : pModel_turn M v0 = some r) : fm_Met l yX10_turn cX10_turn 1 (some .int) { frames := 0, cells := 0, slots := 0, locals := 0 } shM G [.int v0] M (some (.int r)) M := by
  refine fm_enter (by decide) (Nat.le_of_ble_eq_true rfl) ?_
  intro p e s m args below meth c ls C E hl
  have hl : lv_has ls 1 [(0, .int v0)] := hl
  unfold pModel_turn at hf
  refine lv_iload_n C.1 C.2.1 dX10_turn_0 rfl (lv_at hl 0 rfl) ?_
  refine lv_iconst (v := 2) C.1 C.2.1 dX10_turn_1 (by decide) ?_
  refine lv_irem C.1 C.2.1 dX10_turn_2 (by decide) ?_
  refine lv_iconst (v := 1) C.1 C.2.1 dX10_turn_3 (by decide) ?_
  refine lv_icmp_ne (tgt := 15) C.1 C.2.1 dX10_turn_4 (by decide) (fun hc4 => ?_) (fun hc4 => ?_)
  · have hf := fm_in' hf hc4
    refine lv_iload_n C.1 C.2.1 dX10_turn_15 rfl (lv_at hl 0 rfl) ?_
    refine lv_ineg C.1 C.2.1 dX10_turn_16 ?_
    refine lv_iconst (v := 2) C.1 C.2.1 dX10_turn_17 (by decide) ?_
    refine lv_idiv C.1 C.2.1 dX10_turn_18 (by decide) ?_
    obtain rfl := fm_rt1 hf
    exact fm_iret C E rfl rfl dX10_turn_19
  · have hf := fm_ip hf hc4
    refine lv_iload_n C.1 C.2.1 dX10_turn_7 rfl (lv_at hl 0 rfl) ?_
    refine lv_iconst (v := 1) C.1 C.2.1 dX10_turn_8 (by decide) ?_
    refine lv_iadd C.1 C.2.1 dX10_turn_9 ?_
    refine lv_iconst (v := 2) C.1 C.2.1 dX10_turn_10 (by decide) ?_
    refine lv_idiv C.1 C.2.1 dX10_turn_11 (by decide) ?_
    refine lv_goto (tgt := 19) C.1 C.2.1 dX10_turn_12 (by decide) ?_
    obtain rfl := fm_rt1 hf
    exact fm_iret C E rfl rfl dX10_turn_19
theorem dX10_learn_0 : decode cX10_learn 0 = .ok (.iconst 0, 1) := by decide +kernel
theorem dX10_learn_1 : decode cX10_learn 1 = .ok (.istore_n 2, 1) := by decide +kernel
theorem dX10_learn_2 : decode cX10_learn 2 = .ok (.ldc2_w 220, 3) := by decide +kernel
theorem dX10_learn_5 : decode cX10_learn 5 = .ok (.lstore_n 3, 1) := by decide +kernel
theorem dX10_learn_6 : decode cX10_learn 6 = .ok (.iconst 0, 1) := by decide +kernel
theorem dX10_learn_7 : decode cX10_learn 7 = .ok (.istore 5, 2) := by decide +kernel
theorem dX10_learn_9 : decode cX10_learn 9 = .ok (.iload 5, 2) := by decide +kernel
theorem dX10_learn_11 : decode cX10_learn 11 = .ok (.bipush 32, 2) := by decide +kernel
theorem dX10_learn_13 : decode cX10_learn 13 = .ok (.if_icmp .gt 60, 3) := by decide +kernel
theorem dX10_learn_16 : decode cX10_learn 16 = .ok (.aload_n 0, 1) := by decide +kernel
theorem dX10_learn_17 : decode cX10_learn 17 = .ok (.getfield 37, 3) := by decide +kernel
theorem dX10_learn_20 : decode cX10_learn 20 = .ok (.iload_n 1, 1) := by decide +kernel
theorem dX10_learn_21 : decode cX10_learn 21 = .ok (.iload 5, 2) := by decide +kernel
theorem dX10_learn_23 : decode cX10_learn 23 = .ok (.invokestatic 222, 3) := by decide +kernel
theorem dX10_learn_26 : decode cX10_learn 26 = .ok (.iastore, 1) := by decide +kernel
theorem dX10_learn_27 : decode cX10_learn 27 = .ok (.aload_n 0, 1) := by decide +kernel
theorem dX10_learn_28 : decode cX10_learn 28 = .ok (.invokevirtual 225, 3) := by decide +kernel
theorem dX10_learn_31 : decode cX10_learn 31 = .ok (.aload_n 0, 1) := by decide +kernel
theorem dX10_learn_32 : decode cX10_learn 32 = .ok (.aload_n 0, 1) := by decide +kernel
theorem dX10_learn_33 : decode cX10_learn 33 = .ok (.getfield 46, 3) := by decide +kernel
theorem dX10_learn_36 : decode cX10_learn 36 = .ok (.invokevirtual 228, 3) := by decide +kernel
theorem dX10_learn_39 : decode cX10_learn 39 = .ok (.lstore 6, 2) := by decide +kernel
theorem dX10_learn_41 : decode cX10_learn 41 = .ok (.lload_n 3, 1) := by decide +kernel
theorem dX10_learn_42 : decode cX10_learn 42 = .ok (.lconst 0, 1) := by decide +kernel
theorem dX10_learn_43 : decode cX10_learn 43 = .ok (.lcmp, 1) := by decide +kernel
theorem dX10_learn_44 : decode cX10_learn 44 = .ok (.ifCond .lt 13, 3) := by decide +kernel
theorem dX10_learn_47 : decode cX10_learn 47 = .ok (.lload 6, 2) := by decide +kernel
theorem dX10_learn_49 : decode cX10_learn 49 = .ok (.lload_n 3, 1) := by decide +kernel
theorem dX10_learn_50 : decode cX10_learn 50 = .ok (.lcmp, 1) := by decide +kernel
theorem dX10_learn_51 : decode cX10_learn 51 = .ok (.ifCond .lt 6, 3) := by decide +kernel
theorem dX10_learn_54 : decode cX10_learn 54 = .ok (.goto 13, 3) := by decide +kernel
theorem dX10_learn_57 : decode cX10_learn 57 = .ok (.lload 6, 2) := by decide +kernel
theorem dX10_learn_59 : decode cX10_learn 59 = .ok (.lstore_n 3, 1) := by decide +kernel
theorem dX10_learn_60 : decode cX10_learn 60 = .ok (.aload_n 0, 1) := by decide +kernel
theorem dX10_learn_61 : decode cX10_learn 61 = .ok (.getfield 37, 3) := by decide +kernel
theorem dX10_learn_64 : decode cX10_learn 64 = .ok (.iload_n 1, 1) := by decide +kernel
theorem dX10_learn_65 : decode cX10_learn 65 = .ok (.iaload, 1) := by decide +kernel
theorem dX10_learn_66 : decode cX10_learn 66 = .ok (.istore_n 2, 1) := by decide +kernel
theorem dX10_learn_67 : decode cX10_learn 67 = .ok (.iinc 5 1, 3) := by decide +kernel
theorem dX10_learn_70 : decode cX10_learn 70 = .ok (.goto (-61), 3) := by decide +kernel
theorem dX10_learn_73 : decode cX10_learn 73 = .ok (.aload_n 0, 1) := by decide +kernel
theorem dX10_learn_74 : decode cX10_learn 74 = .ok (.getfield 37, 3) := by decide +kernel
theorem dX10_learn_77 : decode cX10_learn 77 = .ok (.iload_n 1, 1) := by decide +kernel
theorem dX10_learn_78 : decode cX10_learn 78 = .ok (.iload_n 2, 1) := by decide +kernel
theorem dX10_learn_79 : decode cX10_learn 79 = .ok (.iastore, 1) := by decide +kernel
theorem dX10_learn_80 : decode cX10_learn 80 = .ok (.return_, 1) := by decide +kernel
set_option maxHeartbeats 4000000 in
set_option maxRecDepth 100000 in
theorem c_Model_learn (l : Launch) (G : fm_G) (N : Nat) (M : fm_M) (v1 : Int32) (M' : fm_M) (hf : pModel_learn N M v1 = some M') : fm_Met l yX10_learn cX10_learn 8 none { frames := 1, cells := 0, slots := 0, locals := 24 } shM G [.ref (G.2.1 0), .int v1] M none M' := by
  refine fm_enter (by decide) (Nat.le_of_ble_eq_true rfl) ?_
  intro p e s m args below meth c ls C E hl
  have hl : lv_has ls 8 [(0, .ref (G.2.1 0)), (1, .int v1)] := hl
  have L9 : ∀ (w9_v1 : Int32) (n9 : Nat) (v2 : Int32) (v3 : Int64) (v5 : Int32) (M : fm_M) (H : Heap) (locs : List Loc) (ls : Array Slot), fm_Wd shM G M s H locs → lv_has ls 8 [(0, .ref (G.2.1 0)), (1, .int w9_v1), (2, .int v2), (3, .long v3), (5, .int v5)] → fm_lp (pModel_learn_L9 N w9_v1) n9 (v2, v3, v5, M) = some M' → W p l e { frames := 1, cells := 0, slots := 0, locals := 24 } s m args below meth c H locs 0 0 (fm_Z below shM G args s none M') (F0 m 9 ls []) := by
    intro w9_v1 n9
    induction n9 with
    | zero => intro v2 v3 v5 M H locs ls E hl hf; exact fm_lp_0 hf
    | succ n9 ih9 =>
      have J57 : ∀ (M : fm_M) (v5 : Int32) (v6 : Int64) (H : Heap) (locs : List Loc) (ls : Array Slot), fm_Wd shM G M s H locs → lv_has ls 8 [(0, .ref (G.2.1 0)), (1, .int w9_v1), (5, .int v5), (6, .long v6)] → pModel_learn_J57 N M w9_v1 v5 v6 (fm_lp (pModel_learn_L9 N w9_v1) n9) = some M' → W p l e { frames := 1, cells := 0, slots := 0, locals := 24 } s m args below meth c H locs 0 0 (fm_Z below shM G args s none M') (F0 m 57 ls []) := by
        intro M v5 v6 H locs ls E hl hf
        unfold pModel_learn_J57 at hf
        refine lv_lload C.1 C.2.1 dX10_learn_57 (lv_at hl 3 rfl) ?_
        refine lv_lstore_n (lv' := [(3, .long _), (0, .ref _), (1, .int _), (5, .int _), (6, .long _)]) C.1 C.2.1 dX10_learn_59 rfl hl (by decide) rfl (fun ls hl => ?_)
        refine lv_aload_n C.1 C.2.1 dX10_learn_60 rfl (lv_at hl 1 rfl) ?_
        refine fm_getr C E lf_X10_37 hM_0 rfl dX10_learn_61 ?_
        refine lv_iload_n C.1 C.2.1 dX10_learn_64 rfl (lv_at hl 2 rfl) ?_
        obtain ⟨h65, x65, e65, hf⟩ := fm_ld_e hf
        refine fm_iald' C E e65 hM_6 h65 dX10_learn_65 ?_
        refine lv_istore_n (lv' := [(2, .int _), (3, .long _), (0, .ref _), (1, .int _), (5, .int _), (6, .long _)]) C.1 C.2.1 dX10_learn_66 rfl hl (by decide) rfl (fun ls hl => ?_)
        refine fm_iinc C (v := 1) (lv' := [(5, .int _), (2, .int _), (3, .long _), (0, .ref _), (1, .int _), (6, .long _)]) (k := 4) hl rfl (by decide) (by decide) rfl dX10_learn_67 (fun ls hl => ?_)
        refine lv_goto (tgt := 9) C.1 C.2.1 dX10_learn_70 (by decide) ?_
        exact ih9 _ _ _ _ _ _ _ E (lv_sub hl [3, 4, 1, 2, 0] rfl) hf
      intro v2 v3 v5 M H locs ls E hl hf
      have hf : pModel_learn_L9b N w9_v1 (fm_lp (pModel_learn_L9 N w9_v1) n9) v2 v3 v5 M = some M' := hf
      unfold pModel_learn_L9b at hf
      refine lv_iload C.1 C.2.1 dX10_learn_9 (lv_at hl 4 rfl) ?_
      refine lv_bipush (v := 32) C.1 C.2.1 dX10_learn_11 (by decide) ?_
      refine lv_icmp_gt (tgt := 73) C.1 C.2.1 dX10_learn_13 (by decide) (fun hc13 => ?_) (fun hc13 => ?_)
      · have hf := fm_ip hf hc13
        refine lv_aload_n C.1 C.2.1 dX10_learn_73 rfl (lv_at hl 0 rfl) ?_
        refine fm_getr C E lf_X10_37 hM_0 rfl dX10_learn_74 ?_
        refine lv_iload_n C.1 C.2.1 dX10_learn_77 rfl (lv_at hl 1 rfl) ?_
        refine lv_iload_n C.1 C.2.1 dX10_learn_78 rfl (lv_at hl 2 rfl) ?_
        obtain ⟨h79, M79, e79, hf⟩ := fm_st_e hf
        refine fm_iast' C E e79 hM_6 h79 dX10_learn_79 (fun H locs E => ?_)
        obtain rfl := fm_rt1 hf
        exact fm_vret C E rfl dX10_learn_80
      · have hf := fm_in' hf hc13
        refine lv_aload_n C.1 C.2.1 dX10_learn_16 rfl (lv_at hl 0 rfl) ?_
        refine fm_getr C E lf_X10_37 hM_0 rfl dX10_learn_17 ?_
        refine lv_iload_n C.1 C.2.1 dX10_learn_20 rfl (lv_at hl 1 rfl) ?_
        refine lv_iload C.1 C.2.1 dX10_learn_21 (lv_at hl 4 rfl) ?_
        obtain ⟨x23, hc23, hf⟩ := fm_bd hf
        refine fm_callS C E [.int _] [.int _, .ref _] lm_X10_222 wk_X10_turn (c_Model_turn l G _ _ _  hc23) rfl hl.1 (by simp [Value.category]) ⟨⟨rfl, rfl⟩, by decide, by decide⟩ ⟨by decide, by decide⟩ dX10_learn_23 rfl (fun H locs E => ?_)
        refine W.eq (g2 := F0 m 26 ls (.int x23 :: [.int _, .ref _])) rfl ?_
        obtain ⟨h26, M26, e26, hf⟩ := fm_st_e hf
        refine fm_iast' C E e26 hM_6 h26 dX10_learn_26 (fun H locs E => ?_)
        refine lv_aload_n C.1 C.2.1 dX10_learn_27 rfl (lv_at hl 0 rfl) ?_
        obtain ⟨M28, hc28, hf⟩ := fm_bd hf
        refine fm_callV C E [] [] lm_X10_225 wk_X10_layClean (c_Model_layClean l G N _ _ hc28) hM_0 rfl rfl rfl hl.1 (by simp [Value.category]) ⟨⟨rfl, rfl⟩, by decide, by decide⟩ ⟨by decide, by decide⟩ dX10_learn_28 rfl (fun H locs E => ?_)
        refine W.eq (g2 := F0 m 31 ls []) rfl ?_
        refine lv_aload_n C.1 C.2.1 dX10_learn_31 rfl (lv_at hl 0 rfl) ?_
        refine lv_aload_n C.1 C.2.1 dX10_learn_32 rfl (lv_at hl 0 rfl) ?_
        refine fm_getr C E lf_X10_46 hM_0 rfl dX10_learn_33 ?_
        obtain ⟨x36, hc36, hf⟩ := fm_bd hf
        refine fm_callV C E [.ref _] [] lm_X10_228 wk_X10_powerOf (c_Model_powerOf l G N _ _ _  hc36) hM_0 rfl rfl rfl hl.1 (by simp [Value.category]) ⟨⟨rfl, rfl⟩, by decide, by decide⟩ ⟨by decide, by decide⟩ dX10_learn_36 rfl (fun H locs E => ?_)
        refine W.eq (g2 := F0 m 39 ls (.long x36 :: [])) rfl ?_
        refine lv_lstore (lv' := [(6, .long _), (0, .ref _), (1, .int _), (2, .int _), (3, .long _), (5, .int _)]) C.1 C.2.1 dX10_learn_39 hl (by decide) rfl (fun ls hl => ?_)
        refine lv_lload_n C.1 C.2.1 dX10_learn_41 rfl (lv_at hl 4 rfl) ?_
        refine lv_lconst (v := 0) C.1 C.2.1 dX10_learn_42 (by decide) ?_
        refine W.lcmp C.1 C.2.1 dX10_learn_43 ?_
        refine lv_if_lt (tgt := 57) C.1 C.2.1 dX10_learn_44 (by decide) (fun hc44 => ?_) (fun hc44 => ?_)
        · have hf := fm_ip hf hc44
          exact J57 _ _ _ _ _ _ E (lv_sub hl [1, 2, 5, 0] rfl) hf
        · have hf := fm_in' hf hc44
          refine lv_lload C.1 C.2.1 dX10_learn_47 (lv_at hl 0 rfl) ?_
          refine lv_lload_n C.1 C.2.1 dX10_learn_49 rfl (lv_at hl 4 rfl) ?_
          refine W.lcmp C.1 C.2.1 dX10_learn_50 ?_
          refine lv_if_lt (tgt := 57) C.1 C.2.1 dX10_learn_51 (by decide) (fun hc51 => ?_) (fun hc51 => ?_)
          · have hf := fm_ip hf hc51
            exact J57 _ _ _ _ _ _ E (lv_sub hl [1, 2, 5, 0] rfl) hf
          · have hf := fm_in' hf hc51
            refine lv_goto (tgt := 67) C.1 C.2.1 dX10_learn_54 (by decide) ?_
            refine fm_iinc C (v := 1) (lv' := [(5, .int _), (6, .long _), (0, .ref _), (1, .int _), (2, .int _), (3, .long _)]) (k := 5) hl rfl (by decide) (by decide) rfl dX10_learn_67 (fun ls hl => ?_)
            refine lv_goto (tgt := 9) C.1 C.2.1 dX10_learn_70 (by decide) ?_
            exact ih9 _ _ _ _ _ _ _ E (lv_sub hl [2, 3, 4, 5, 0] rfl) hf
  unfold pModel_learn at hf
  refine lv_iconst (v := 0) C.1 C.2.1 dX10_learn_0 (by decide) ?_
  refine lv_istore_n (lv' := [(2, .int _), (0, .ref _), (1, .int _)]) C.1 C.2.1 dX10_learn_1 rfl hl (by decide) rfl (fun ls hl => ?_)
  refine lv_ldc2 C.1 C.2.1 C.2.2.2.1 (C.2.2.2.2.1 _ wc_1397) dX10_learn_2 ?_
  refine lv_lstore_n (lv' := [(3, .long _), (2, .int _), (0, .ref _), (1, .int _)]) C.1 C.2.1 dX10_learn_5 rfl hl (by decide) rfl (fun ls hl => ?_)
  refine lv_iconst (v := 0) C.1 C.2.1 dX10_learn_6 (by decide) ?_
  refine lv_istore (lv' := [(5, .int _), (3, .long _), (2, .int _), (0, .ref _), (1, .int _)]) C.1 C.2.1 dX10_learn_7 hl (by decide) rfl (fun ls hl => ?_)
  exact L9 _ N _ _ _ _ _ _ _ E (lv_sub hl [3, 4, 2, 1, 0] rfl) hf
theorem dX10_layWeights_0 : decode cX10_layWeights 0 = .ok (.aload_n 0, 1) := by decide +kernel
theorem dX10_layWeights_1 : decode cX10_layWeights 1 = .ok (.iload_n 1, 1) := by decide +kernel
theorem dX10_layWeights_2 : decode cX10_layWeights 2 = .ok (.iload_n 2, 1) := by decide +kernel
theorem dX10_layWeights_3 : decode cX10_layWeights 3 = .ok (.invokevirtual 232, 3) := by decide +kernel
theorem dX10_layWeights_6 : decode cX10_layWeights 6 = .ok (.aload_n 0, 1) := by decide +kernel
theorem dX10_layWeights_7 : decode cX10_layWeights 7 = .ok (.iconst 0, 1) := by decide +kernel
theorem dX10_layWeights_8 : decode cX10_layWeights 8 = .ok (.iload_n 1, 1) := by decide +kernel
theorem dX10_layWeights_9 : decode cX10_layWeights 9 = .ok (.invokestatic 198, 3) := by decide +kernel
theorem dX10_layWeights_12 : decode cX10_layWeights 12 = .ok (.iconst 1, 1) := by decide +kernel
theorem dX10_layWeights_13 : decode cX10_layWeights 13 = .ok (.isub, 1) := by decide +kernel
theorem dX10_layWeights_14 : decode cX10_layWeights 14 = .ok (.invokestatic 147, 3) := by decide +kernel
theorem dX10_layWeights_17 : decode cX10_layWeights 17 = .ok (.putfield 214, 3) := by decide +kernel
theorem dX10_layWeights_20 : decode cX10_layWeights 20 = .ok (.iconst 0, 1) := by decide +kernel
theorem dX10_layWeights_21 : decode cX10_layWeights 21 = .ok (.istore_n 3, 1) := by decide +kernel
theorem dX10_layWeights_22 : decode cX10_layWeights 22 = .ok (.iload_n 3, 1) := by decide +kernel
theorem dX10_layWeights_23 : decode cX10_layWeights 23 = .ok (.aload_n 0, 1) := by decide +kernel
theorem dX10_layWeights_24 : decode cX10_layWeights 24 = .ok (.getfield 214, 3) := by decide +kernel
theorem dX10_layWeights_27 : decode cX10_layWeights 27 = .ok (.if_icmp .ge 66, 3) := by decide +kernel
theorem dX10_layWeights_30 : decode cX10_layWeights 30 = .ok (.aload_n 0, 1) := by decide +kernel
theorem dX10_layWeights_31 : decode cX10_layWeights 31 = .ok (.getfield 37, 3) := by decide +kernel
theorem dX10_layWeights_34 : decode cX10_layWeights 34 = .ok (.iload_n 3, 1) := by decide +kernel
theorem dX10_layWeights_35 : decode cX10_layWeights 35 = .ok (.iconst 0, 1) := by decide +kernel
theorem dX10_layWeights_36 : decode cX10_layWeights 36 = .ok (.iastore, 1) := by decide +kernel
theorem dX10_layWeights_37 : decode cX10_layWeights 37 = .ok (.iconst 0, 1) := by decide +kernel
theorem dX10_layWeights_38 : decode cX10_layWeights 38 = .ok (.istore 4, 2) := by decide +kernel
theorem dX10_layWeights_40 : decode cX10_layWeights 40 = .ok (.iload 4, 2) := by decide +kernel
theorem dX10_layWeights_42 : decode cX10_layWeights 42 = .ok (.aload_n 0, 1) := by decide +kernel
theorem dX10_layWeights_43 : decode cX10_layWeights 43 = .ok (.getfield 9, 3) := by decide +kernel
theorem dX10_layWeights_46 : decode cX10_layWeights 46 = .ok (.bipush 39, 2) := by decide +kernel
theorem dX10_layWeights_48 : decode cX10_layWeights 48 = .ok (.iaload, 1) := by decide +kernel
theorem dX10_layWeights_49 : decode cX10_layWeights 49 = .ok (.if_icmp .ge 38, 3) := by decide +kernel
theorem dX10_layWeights_52 : decode cX10_layWeights 52 = .ok (.aload_n 0, 1) := by decide +kernel
theorem dX10_layWeights_53 : decode cX10_layWeights 53 = .ok (.getfield 43, 3) := by decide +kernel
theorem dX10_layWeights_56 : decode cX10_layWeights 56 = .ok (.bipush 48, 2) := by decide +kernel
theorem dX10_layWeights_58 : decode cX10_layWeights 58 = .ok (.iload_n 3, 1) := by decide +kernel
theorem dX10_layWeights_59 : decode cX10_layWeights 59 = .ok (.imul, 1) := by decide +kernel
theorem dX10_layWeights_60 : decode cX10_layWeights 60 = .ok (.iload 4, 2) := by decide +kernel
theorem dX10_layWeights_62 : decode cX10_layWeights 62 = .ok (.iadd, 1) := by decide +kernel
theorem dX10_layWeights_63 : decode cX10_layWeights 63 = .ok (.aload_n 0, 1) := by decide +kernel
theorem dX10_layWeights_64 : decode cX10_layWeights 64 = .ok (.iload_n 1, 1) := by decide +kernel
theorem dX10_layWeights_65 : decode cX10_layWeights 65 = .ok (.iload_n 2, 1) := by decide +kernel
theorem dX10_layWeights_66 : decode cX10_layWeights 66 = .ok (.iload_n 3, 1) := by decide +kernel
theorem dX10_layWeights_67 : decode cX10_layWeights 67 = .ok (.aload_n 0, 1) := by decide +kernel
theorem dX10_layWeights_68 : decode cX10_layWeights 68 = .ok (.getfield 9, 3) := by decide +kernel
theorem dX10_layWeights_71 : decode cX10_layWeights 71 = .ok (.bipush 38, 2) := by decide +kernel
theorem dX10_layWeights_73 : decode cX10_layWeights 73 = .ok (.iaload, 1) := by decide +kernel
theorem dX10_layWeights_74 : decode cX10_layWeights 74 = .ok (.iload 4, 2) := by decide +kernel
theorem dX10_layWeights_76 : decode cX10_layWeights 76 = .ok (.iadd, 1) := by decide +kernel
theorem dX10_layWeights_77 : decode cX10_layWeights 77 = .ok (.invokevirtual 210, 3) := by decide +kernel
theorem dX10_layWeights_80 : decode cX10_layWeights 80 = .ok (.iastore, 1) := by decide +kernel
theorem dX10_layWeights_81 : decode cX10_layWeights 81 = .ok (.iinc 4 1, 3) := by decide +kernel
theorem dX10_layWeights_84 : decode cX10_layWeights 84 = .ok (.goto (-44), 3) := by decide +kernel
theorem dX10_layWeights_87 : decode cX10_layWeights 87 = .ok (.iinc 3 1, 3) := by decide +kernel
theorem dX10_layWeights_90 : decode cX10_layWeights 90 = .ok (.goto (-68), 3) := by decide +kernel
theorem dX10_layWeights_93 : decode cX10_layWeights 93 = .ok (.iconst 0, 1) := by decide +kernel
theorem dX10_layWeights_94 : decode cX10_layWeights 94 = .ok (.istore_n 3, 1) := by decide +kernel
theorem dX10_layWeights_95 : decode cX10_layWeights 95 = .ok (.iload_n 3, 1) := by decide +kernel
theorem dX10_layWeights_96 : decode cX10_layWeights 96 = .ok (.iconst 3, 1) := by decide +kernel
theorem dX10_layWeights_97 : decode cX10_layWeights 97 = .ok (.if_icmp .ge 33, 3) := by decide +kernel
theorem dX10_layWeights_100 : decode cX10_layWeights 100 = .ok (.iconst 0, 1) := by decide +kernel
theorem dX10_layWeights_101 : decode cX10_layWeights 101 = .ok (.istore 4, 2) := by decide +kernel
theorem dX10_layWeights_103 : decode cX10_layWeights 103 = .ok (.iload 4, 2) := by decide +kernel
theorem dX10_layWeights_105 : decode cX10_layWeights 105 = .ok (.aload_n 0, 1) := by decide +kernel
theorem dX10_layWeights_106 : decode cX10_layWeights 106 = .ok (.getfield 214, 3) := by decide +kernel
theorem dX10_layWeights_109 : decode cX10_layWeights 109 = .ok (.if_icmp .ge 15, 3) := by decide +kernel
theorem dX10_layWeights_112 : decode cX10_layWeights 112 = .ok (.aload_n 0, 1) := by decide +kernel
theorem dX10_layWeights_113 : decode cX10_layWeights 113 = .ok (.iload 4, 2) := by decide +kernel
theorem dX10_layWeights_115 : decode cX10_layWeights 115 = .ok (.invokevirtual 236, 3) := by decide +kernel
theorem dX10_layWeights_118 : decode cX10_layWeights 118 = .ok (.iinc 4 1, 3) := by decide +kernel
theorem dX10_layWeights_121 : decode cX10_layWeights 121 = .ok (.goto (-18), 3) := by decide +kernel
theorem dX10_layWeights_124 : decode cX10_layWeights 124 = .ok (.iinc 3 1, 3) := by decide +kernel
theorem dX10_layWeights_127 : decode cX10_layWeights 127 = .ok (.goto (-32), 3) := by decide +kernel
theorem dX10_layWeights_130 : decode cX10_layWeights 130 = .ok (.aload_n 0, 1) := by decide +kernel
theorem dX10_layWeights_131 : decode cX10_layWeights 131 = .ok (.invokevirtual 225, 3) := by decide +kernel
theorem dX10_layWeights_134 : decode cX10_layWeights 134 = .ok (.return_, 1) := by decide +kernel
set_option maxHeartbeats 4000000 in
set_option maxRecDepth 100000 in
theorem c_Model_layWeights (l : Launch) (G : fm_G) (N : Nat) (M : fm_M) (v1 : Int32) (v2 : Int32) (M' : fm_M) (hf : pModel_layWeights N M v1 v2 = some M') : fm_Met l yX10_layWeights cX10_layWeights 5 none { frames := 5, cells := 0, slots := 0, locals := 117 } shM G [.ref (G.2.1 0), .int v1, .int v2] M none M' := by
  refine fm_enter (by decide) (Nat.le_of_ble_eq_true rfl) ?_
  intro p e s m args below meth c ls C E hl
  have hl : lv_has ls 5 [(0, .ref (G.2.1 0)), (1, .int v1), (2, .int v2)] := hl
  have L95 : ∀ (n95 : Nat) (v3 : Int32) (M : fm_M) (H : Heap) (locs : List Loc) (ls : Array Slot), fm_Wd shM G M s H locs → lv_has ls 5 [(0, .ref (G.2.1 0)), (3, .int v3)] → fm_lp (pModel_layWeights_L95 N) n95 (v3, M) = some M' → W p l e { frames := 5, cells := 0, slots := 0, locals := 117 } s m args below meth c H locs 0 0 (fm_Z below shM G args s none M') (F0 m 95 ls []) := by
    intro  n95
    induction n95 with
    | zero => intro v3 M H locs ls E hl hf; exact fm_lp_0 hf
    | succ n95 ih95 =>
      have L103 : ∀ (w103_v3 : Int32) (n103 : Nat) (v4 : Int32) (M : fm_M) (H : Heap) (locs : List Loc) (ls : Array Slot), fm_Wd shM G M s H locs → lv_has ls 5 [(0, .ref (G.2.1 0)), (3, .int w103_v3), (4, .int v4)] → fm_lp (pModel_layWeights_L103 N w103_v3 (fm_lp (pModel_layWeights_L95 N) n95)) n103 (v4, M) = some M' → W p l e { frames := 5, cells := 0, slots := 0, locals := 117 } s m args below meth c H locs 0 0 (fm_Z below shM G args s none M') (F0 m 103 ls []) := by
        intro w103_v3 n103
        induction n103 with
        | zero => intro v4 M H locs ls E hl hf; exact fm_lp_0 hf
        | succ n103 ih103 =>
          intro v4 M H locs ls E hl hf
          have hf : pModel_layWeights_L103b N w103_v3 (fm_lp (pModel_layWeights_L95 N) n95) (fm_lp (pModel_layWeights_L103 N w103_v3 (fm_lp (pModel_layWeights_L95 N) n95)) n103) v4 M = some M' := hf
          unfold pModel_layWeights_L103b at hf
          refine lv_iload C.1 C.2.1 dX10_layWeights_103 (lv_at hl 2 rfl) ?_
          refine lv_aload_n C.1 C.2.1 dX10_layWeights_105 rfl (lv_at hl 0 rfl) ?_
          refine fm_geti C E lf_X10_214 hM_0 rfl dX10_layWeights_106 ?_
          refine lv_icmp_ge (tgt := 124) C.1 C.2.1 dX10_layWeights_109 (by decide) (fun hc109 => ?_) (fun hc109 => ?_)
          · have hf := fm_ip hf hc109
            refine fm_iinc C (v := 1) (lv' := [(3, .int _), (0, .ref _), (4, .int _)]) (k := 1) hl rfl (by decide) (by decide) rfl dX10_layWeights_124 (fun ls hl => ?_)
            refine lv_goto (tgt := 95) C.1 C.2.1 dX10_layWeights_127 (by decide) ?_
            exact ih95 _ _ _ _ _ E (lv_sub hl [1, 0] rfl) hf
          · have hf := fm_in' hf hc109
            refine lv_aload_n C.1 C.2.1 dX10_layWeights_112 rfl (lv_at hl 0 rfl) ?_
            refine lv_iload C.1 C.2.1 dX10_layWeights_113 (lv_at hl 2 rfl) ?_
            obtain ⟨M115, hc115, hf⟩ := fm_bd hf
            refine fm_callV C E [.int _] [] lm_X10_236 wk_X10_learn (c_Model_learn l G N _ _ _ hc115) hM_0 rfl rfl rfl hl.1 (by simp [Value.category]) ⟨⟨rfl, rfl⟩, by decide, by decide⟩ ⟨by decide, by decide⟩ dX10_layWeights_115 rfl (fun H locs E => ?_)
            refine W.eq (g2 := F0 m 118 ls []) rfl ?_
            refine fm_iinc C (v := 1) (lv' := [(4, .int _), (0, .ref _), (3, .int _)]) (k := 2) hl rfl (by decide) (by decide) rfl dX10_layWeights_118 (fun ls hl => ?_)
            refine lv_goto (tgt := 103) C.1 C.2.1 dX10_layWeights_121 (by decide) ?_
            exact ih103 _ _ _ _ _ E (lv_sub hl [1, 2, 0] rfl) hf
      intro v3 M H locs ls E hl hf
      have hf : pModel_layWeights_L95b N (fm_lp (pModel_layWeights_L95 N) n95) v3 M = some M' := hf
      unfold pModel_layWeights_L95b at hf
      refine lv_iload_n C.1 C.2.1 dX10_layWeights_95 rfl (lv_at hl 1 rfl) ?_
      refine lv_iconst (v := 3) C.1 C.2.1 dX10_layWeights_96 (by decide) ?_
      refine lv_icmp_ge (tgt := 130) C.1 C.2.1 dX10_layWeights_97 (by decide) (fun hc97 => ?_) (fun hc97 => ?_)
      · have hf := fm_ip hf hc97
        refine lv_aload_n C.1 C.2.1 dX10_layWeights_130 rfl (lv_at hl 0 rfl) ?_
        obtain ⟨M131, hc131, hf⟩ := fm_bd hf
        refine fm_callV C E [] [] lm_X10_225 wk_X10_layClean (c_Model_layClean l G N _ _ hc131) hM_0 rfl rfl rfl hl.1 (by simp [Value.category]) ⟨⟨rfl, rfl⟩, by decide, by decide⟩ ⟨by decide, by decide⟩ dX10_layWeights_131 rfl (fun H locs E => ?_)
        refine W.eq (g2 := F0 m 134 ls []) rfl ?_
        obtain rfl := fm_rt1 hf
        exact fm_vret C E rfl dX10_layWeights_134
      · have hf := fm_in' hf hc97
        refine lv_iconst (v := 0) C.1 C.2.1 dX10_layWeights_100 (by decide) ?_
        refine lv_istore (lv' := [(4, .int _), (0, .ref _), (3, .int _)]) C.1 C.2.1 dX10_layWeights_101 hl (by decide) rfl (fun ls hl => ?_)
        exact L103 _ N _ _ _ _ _ E (lv_sub hl [1, 2, 0] rfl) hf
  have L22 : ∀ (w22_v1 : Int32) (w22_v2 : Int32) (n22 : Nat) (v3 : Int32) (M : fm_M) (H : Heap) (locs : List Loc) (ls : Array Slot), fm_Wd shM G M s H locs → lv_has ls 5 [(0, .ref (G.2.1 0)), (1, .int w22_v1), (2, .int w22_v2), (3, .int v3)] → fm_lp (pModel_layWeights_L22 N w22_v1 w22_v2) n22 (v3, M) = some M' → W p l e { frames := 5, cells := 0, slots := 0, locals := 117 } s m args below meth c H locs 0 0 (fm_Z below shM G args s none M') (F0 m 22 ls []) := by
    intro w22_v1 w22_v2 n22
    induction n22 with
    | zero => intro v3 M H locs ls E hl hf; exact fm_lp_0 hf
    | succ n22 ih22 =>
      have L40 : ∀ (w40_v3 : Int32) (n40 : Nat) (v4 : Int32) (M : fm_M) (H : Heap) (locs : List Loc) (ls : Array Slot), fm_Wd shM G M s H locs → lv_has ls 5 [(0, .ref (G.2.1 0)), (1, .int w22_v1), (2, .int w22_v2), (3, .int w40_v3), (4, .int v4)] → fm_lp (pModel_layWeights_L40 N w22_v1 w22_v2 w40_v3 (fm_lp (pModel_layWeights_L22 N w22_v1 w22_v2) n22)) n40 (v4, M) = some M' → W p l e { frames := 5, cells := 0, slots := 0, locals := 117 } s m args below meth c H locs 0 0 (fm_Z below shM G args s none M') (F0 m 40 ls []) := by
        intro w40_v3 n40
        induction n40 with
        | zero => intro v4 M H locs ls E hl hf; exact fm_lp_0 hf
        | succ n40 ih40 =>
          intro v4 M H locs ls E hl hf
          have hf : pModel_layWeights_L40b N w22_v1 w22_v2 w40_v3 (fm_lp (pModel_layWeights_L22 N w22_v1 w22_v2) n22) (fm_lp (pModel_layWeights_L40 N w22_v1 w22_v2 w40_v3 (fm_lp (pModel_layWeights_L22 N w22_v1 w22_v2) n22)) n40) v4 M = some M' := hf
          unfold pModel_layWeights_L40b at hf
          refine lv_iload C.1 C.2.1 dX10_layWeights_40 (lv_at hl 4 rfl) ?_
          refine lv_aload_n C.1 C.2.1 dX10_layWeights_42 rfl (lv_at hl 0 rfl) ?_
          refine fm_getr C E lf_X10_9 hM_0 rfl dX10_layWeights_43 ?_
          refine lv_bipush (v := 39) C.1 C.2.1 dX10_layWeights_46 (by decide) ?_
          refine fm_ialdc C E 39 (by decide) hM_1 (by decide) dX10_layWeights_48 ?_
          refine lv_icmp_ge (tgt := 87) C.1 C.2.1 dX10_layWeights_49 (by decide) (fun hc49 => ?_) (fun hc49 => ?_)
          · have hf := fm_ip hf hc49
            refine fm_iinc C (v := 1) (lv' := [(3, .int _), (0, .ref _), (1, .int _), (2, .int _), (4, .int _)]) (k := 3) hl rfl (by decide) (by decide) rfl dX10_layWeights_87 (fun ls hl => ?_)
            refine lv_goto (tgt := 22) C.1 C.2.1 dX10_layWeights_90 (by decide) ?_
            exact ih22 _ _ _ _ _ E (lv_sub hl [1, 2, 3, 0] rfl) hf
          · have hf := fm_in' hf hc49
            refine lv_aload_n C.1 C.2.1 dX10_layWeights_52 rfl (lv_at hl 0 rfl) ?_
            refine fm_getr C E lf_X10_43 hM_0 rfl dX10_layWeights_53 ?_
            refine lv_bipush (v := 48) C.1 C.2.1 dX10_layWeights_56 (by decide) ?_
            refine lv_iload_n C.1 C.2.1 dX10_layWeights_58 rfl (lv_at hl 3 rfl) ?_
            refine lv_imul C.1 C.2.1 dX10_layWeights_59 ?_
            refine lv_iload C.1 C.2.1 dX10_layWeights_60 (lv_at hl 4 rfl) ?_
            refine lv_iadd C.1 C.2.1 dX10_layWeights_62 ?_
            refine lv_aload_n C.1 C.2.1 dX10_layWeights_63 rfl (lv_at hl 0 rfl) ?_
            refine lv_iload_n C.1 C.2.1 dX10_layWeights_64 rfl (lv_at hl 1 rfl) ?_
            refine lv_iload_n C.1 C.2.1 dX10_layWeights_65 rfl (lv_at hl 2 rfl) ?_
            refine lv_iload_n C.1 C.2.1 dX10_layWeights_66 rfl (lv_at hl 3 rfl) ?_
            refine lv_aload_n C.1 C.2.1 dX10_layWeights_67 rfl (lv_at hl 0 rfl) ?_
            refine fm_getr C E lf_X10_9 hM_0 rfl dX10_layWeights_68 ?_
            refine lv_bipush (v := 38) C.1 C.2.1 dX10_layWeights_71 (by decide) ?_
            refine fm_ialdc C E 38 (by decide) hM_1 (by decide) dX10_layWeights_73 ?_
            refine lv_iload C.1 C.2.1 dX10_layWeights_74 (lv_at hl 4 rfl) ?_
            refine lv_iadd C.1 C.2.1 dX10_layWeights_76 ?_
            obtain ⟨x77, hc77, hf⟩ := fm_bd hf
            refine fm_callV C E [.int _, .int _, .int _, .int _] [.int _, .ref _] lm_X10_210 wk_X10_blockedOf (c_Model_blockedOf l G N _ _ _ _ _ _  hc77) hM_0 rfl rfl rfl hl.1 (by simp [Value.category]) ⟨⟨rfl, rfl⟩, by decide, by decide⟩ ⟨by decide, by decide⟩ dX10_layWeights_77 rfl (fun H locs E => ?_)
            refine W.eq (g2 := F0 m 80 ls (.int x77 :: [.int _, .ref _])) rfl ?_
            obtain ⟨h80, M80, e80, hf⟩ := fm_st_e hf
            refine fm_iast' C E e80 hM_8 h80 dX10_layWeights_80 (fun H locs E => ?_)
            refine fm_iinc C (v := 1) (lv' := [(4, .int _), (0, .ref _), (1, .int _), (2, .int _), (3, .int _)]) (k := 4) hl rfl (by decide) (by decide) rfl dX10_layWeights_81 (fun ls hl => ?_)
            refine lv_goto (tgt := 40) C.1 C.2.1 dX10_layWeights_84 (by decide) ?_
            exact ih40 _ _ _ _ _ E (lv_sub hl [1, 2, 3, 4, 0] rfl) hf
      intro v3 M H locs ls E hl hf
      have hf : pModel_layWeights_L22b N w22_v1 w22_v2 (fm_lp (pModel_layWeights_L22 N w22_v1 w22_v2) n22) v3 M = some M' := hf
      unfold pModel_layWeights_L22b at hf
      refine lv_iload_n C.1 C.2.1 dX10_layWeights_22 rfl (lv_at hl 3 rfl) ?_
      refine lv_aload_n C.1 C.2.1 dX10_layWeights_23 rfl (lv_at hl 0 rfl) ?_
      refine fm_geti C E lf_X10_214 hM_0 rfl dX10_layWeights_24 ?_
      refine lv_icmp_ge (tgt := 93) C.1 C.2.1 dX10_layWeights_27 (by decide) (fun hc27 => ?_) (fun hc27 => ?_)
      · have hf := fm_ip hf hc27
        refine lv_iconst (v := 0) C.1 C.2.1 dX10_layWeights_93 (by decide) ?_
        refine lv_istore_n (lv' := [(3, .int _), (0, .ref _), (1, .int _), (2, .int _)]) C.1 C.2.1 dX10_layWeights_94 rfl hl (by decide) rfl (fun ls hl => ?_)
        exact L95  N _ _ _ _ _ E (lv_sub hl [1, 0] rfl) hf
      · have hf := fm_in' hf hc27
        refine lv_aload_n C.1 C.2.1 dX10_layWeights_30 rfl (lv_at hl 0 rfl) ?_
        refine fm_getr C E lf_X10_37 hM_0 rfl dX10_layWeights_31 ?_
        refine lv_iload_n C.1 C.2.1 dX10_layWeights_34 rfl (lv_at hl 3 rfl) ?_
        refine lv_iconst (v := 0) C.1 C.2.1 dX10_layWeights_35 (by decide) ?_
        obtain ⟨h36, M36, e36, hf⟩ := fm_st_e hf
        refine fm_iast' C E e36 hM_6 h36 dX10_layWeights_36 (fun H locs E => ?_)
        refine lv_iconst (v := 0) C.1 C.2.1 dX10_layWeights_37 (by decide) ?_
        refine lv_istore (lv' := [(4, .int _), (0, .ref _), (1, .int _), (2, .int _), (3, .int _)]) C.1 C.2.1 dX10_layWeights_38 hl (by decide) rfl (fun ls hl => ?_)
        exact L40 _ N _ _ _ _ _ E (lv_sub hl [1, 2, 3, 4, 0] rfl) hf
  unfold pModel_layWeights at hf
  refine lv_aload_n C.1 C.2.1 dX10_layWeights_0 rfl (lv_at hl 0 rfl) ?_
  refine lv_iload_n C.1 C.2.1 dX10_layWeights_1 rfl (lv_at hl 1 rfl) ?_
  refine lv_iload_n C.1 C.2.1 dX10_layWeights_2 rfl (lv_at hl 2 rfl) ?_
  obtain ⟨M3, hc3, hf⟩ := fm_bd hf
  refine fm_callV C E [.int _, .int _] [] lm_X10_232 wk_X10_layBeam (c_Model_layBeam l G N _ _ _ _ hc3) hM_0 rfl rfl rfl hl.1 (by simp [Value.category]) ⟨⟨rfl, rfl⟩, by decide, by decide⟩ ⟨by decide, by decide⟩ dX10_layWeights_3 rfl (fun H locs E => ?_)
  refine W.eq (g2 := F0 m 6 ls []) rfl ?_
  refine lv_aload_n C.1 C.2.1 dX10_layWeights_6 rfl (lv_at hl 0 rfl) ?_
  refine lv_iconst (v := 0) C.1 C.2.1 dX10_layWeights_7 (by decide) ?_
  refine lv_iload_n C.1 C.2.1 dX10_layWeights_8 rfl (lv_at hl 1 rfl) ?_
  obtain ⟨x9, hc9, hf⟩ := fm_bd hf
  refine fm_callS C E [.int _] [.int _, .ref _] lm_X10_198 wk_X10_countBits (c_Model_countBits l G N _ _ _  hc9) rfl hl.1 (by simp [Value.category]) ⟨⟨rfl, rfl⟩, by decide, by decide⟩ ⟨by decide, by decide⟩ dX10_layWeights_9 rfl (fun H locs E => ?_)
  refine W.eq (g2 := F0 m 12 ls (.int x9 :: [.int _, .ref _])) rfl ?_
  refine lv_iconst (v := 1) C.1 C.2.1 dX10_layWeights_12 (by decide) ?_
  refine lv_isub C.1 C.2.1 dX10_layWeights_13 ?_
  refine fm_max C wv_max wm_1284 hl.1 ⟨by decide, by decide⟩ (by simp [Value.category]) ⟨by decide, by decide⟩ dX10_layWeights_14 ?_
  obtain ⟨M17, e17, hf⟩ := fm_pt_s hf
  refine fm_put' C E e17 lp_X10_214 hM_0 rfl dX10_layWeights_17 (fun H locs E => ?_)
  refine lv_iconst (v := 0) C.1 C.2.1 dX10_layWeights_20 (by decide) ?_
  refine lv_istore_n (lv' := [(3, .int _), (0, .ref _), (1, .int _), (2, .int _)]) C.1 C.2.1 dX10_layWeights_21 rfl hl (by decide) rfl (fun ls hl => ?_)
  exact L22 _ _ N _ _ _ _ _ E (lv_sub hl [1, 2, 3, 0] rfl) hf
theorem dX10_clean_0 : decode cX10_clean 0 = .ok (.aload_n 0, 1) := by decide +kernel
theorem dX10_clean_1 : decode cX10_clean 1 = .ok (.iconst 0, 1) := by decide +kernel
theorem dX10_clean_2 : decode cX10_clean 2 = .ok (.putfield 77, 3) := by decide +kernel
theorem dX10_clean_5 : decode cX10_clean 5 = .ok (.iload_n 1, 1) := by decide +kernel
theorem dX10_clean_6 : decode cX10_clean 6 = .ok (.invokestatic 182, 3) := by decide +kernel
theorem dX10_clean_9 : decode cX10_clean 9 = .ok (.ifCond .eq 10, 3) := by decide +kernel
theorem dX10_clean_12 : decode cX10_clean 12 = .ok (.iload_n 2, 1) := by decide +kernel
theorem dX10_clean_13 : decode cX10_clean 13 = .ok (.invokestatic 185, 3) := by decide +kernel
theorem dX10_clean_16 : decode cX10_clean 16 = .ok (.ifCond .ne 8, 3) := by decide +kernel
theorem dX10_clean_19 : decode cX10_clean 19 = .ok (.aload_n 0, 1) := by decide +kernel
theorem dX10_clean_20 : decode cX10_clean 20 = .ok (.invokevirtual 157, 3) := by decide +kernel
theorem dX10_clean_23 : decode cX10_clean 23 = .ok (.ireturn, 1) := by decide +kernel
theorem dX10_clean_24 : decode cX10_clean 24 = .ok (.aload_n 0, 1) := by decide +kernel
theorem dX10_clean_25 : decode cX10_clean 25 = .ok (.invokevirtual 188, 3) := by decide +kernel
theorem dX10_clean_28 : decode cX10_clean 28 = .ok (.aload_n 0, 1) := by decide +kernel
theorem dX10_clean_29 : decode cX10_clean 29 = .ok (.invokevirtual 204, 3) := by decide +kernel
theorem dX10_clean_32 : decode cX10_clean 32 = .ok (.istore_n 3, 1) := by decide +kernel
theorem dX10_clean_33 : decode cX10_clean 33 = .ok (.aload_n 0, 1) := by decide +kernel
theorem dX10_clean_34 : decode cX10_clean 34 = .ok (.iload_n 3, 1) := by decide +kernel
theorem dX10_clean_35 : decode cX10_clean 35 = .ok (.iload_n 1, 1) := by decide +kernel
theorem dX10_clean_36 : decode cX10_clean 36 = .ok (.invokevirtual 239, 3) := by decide +kernel
theorem dX10_clean_39 : decode cX10_clean 39 = .ok (.iconst 0, 1) := by decide +kernel
theorem dX10_clean_40 : decode cX10_clean 40 = .ok (.istore 4, 2) := by decide +kernel
theorem dX10_clean_42 : decode cX10_clean 42 = .ok (.iconst 0, 1) := by decide +kernel
theorem dX10_clean_43 : decode cX10_clean 43 = .ok (.istore 5, 2) := by decide +kernel
theorem dX10_clean_45 : decode cX10_clean 45 = .ok (.iload 5, 2) := by decide +kernel
theorem dX10_clean_47 : decode cX10_clean 47 = .ok (.aload_n 0, 1) := by decide +kernel
theorem dX10_clean_48 : decode cX10_clean 48 = .ok (.getfield 214, 3) := by decide +kernel
theorem dX10_clean_51 : decode cX10_clean 51 = .ok (.if_icmp .ge 31, 3) := by decide +kernel
theorem dX10_clean_54 : decode cX10_clean 54 = .ok (.iload 4, 2) := by decide +kernel
theorem dX10_clean_56 : decode cX10_clean 56 = .ok (.aload_n 0, 1) := by decide +kernel
theorem dX10_clean_57 : decode cX10_clean 57 = .ok (.getfield 37, 3) := by decide +kernel
theorem dX10_clean_60 : decode cX10_clean 60 = .ok (.iload 5, 2) := by decide +kernel
theorem dX10_clean_62 : decode cX10_clean 62 = .ok (.iaload, 1) := by decide +kernel
theorem dX10_clean_63 : decode cX10_clean 63 = .ok (.aload_n 0, 1) := by decide +kernel
theorem dX10_clean_64 : decode cX10_clean 64 = .ok (.iload_n 3, 1) := by decide +kernel
theorem dX10_clean_65 : decode cX10_clean 65 = .ok (.iload_n 1, 1) := by decide +kernel
theorem dX10_clean_66 : decode cX10_clean 66 = .ok (.iload 5, 2) := by decide +kernel
theorem dX10_clean_68 : decode cX10_clean 68 = .ok (.iload_n 2, 1) := by decide +kernel
theorem dX10_clean_69 : decode cX10_clean 69 = .ok (.invokevirtual 210, 3) := by decide +kernel
theorem dX10_clean_72 : decode cX10_clean 72 = .ok (.imul, 1) := by decide +kernel
theorem dX10_clean_73 : decode cX10_clean 73 = .ok (.iadd, 1) := by decide +kernel
theorem dX10_clean_74 : decode cX10_clean 74 = .ok (.istore 4, 2) := by decide +kernel
theorem dX10_clean_76 : decode cX10_clean 76 = .ok (.iinc 5 1, 3) := by decide +kernel
theorem dX10_clean_79 : decode cX10_clean 79 = .ok (.goto (-34), 3) := by decide +kernel
theorem dX10_clean_82 : decode cX10_clean 82 = .ok (.aload_n 0, 1) := by decide +kernel
theorem dX10_clean_83 : decode cX10_clean 83 = .ok (.iload_n 3, 1) := by decide +kernel
theorem dX10_clean_84 : decode cX10_clean 84 = .ok (.iload_n 1, 1) := by decide +kernel
theorem dX10_clean_85 : decode cX10_clean 85 = .ok (.iload_n 2, 1) := by decide +kernel
theorem dX10_clean_86 : decode cX10_clean 86 = .ok (.invokevirtual 207, 3) := by decide +kernel
theorem dX10_clean_89 : decode cX10_clean 89 = .ok (.iload 4, 2) := by decide +kernel
theorem dX10_clean_91 : decode cX10_clean 91 = .ok (.bipush 16, 2) := by decide +kernel
theorem dX10_clean_93 : decode cX10_clean 93 = .ok (.idiv, 1) := by decide +kernel
theorem dX10_clean_94 : decode cX10_clean 94 = .ok (.isub, 1) := by decide +kernel
theorem dX10_clean_95 : decode cX10_clean 95 = .ok (.ireturn, 1) := by decide +kernel
set_option maxHeartbeats 4000000 in
set_option maxRecDepth 100000 in
theorem c_Model_clean (l : Launch) (G : fm_G) (N : Nat) (M : fm_M) (v1 : Int32) (v2 : Int32) (r : Int32) (M' : fm_M) (hf : pModel_clean N M v1 v2 = some (r, M')) : fm_Met l yX10_clean cX10_clean 6 (some .int) { frames := 6, cells := 0, slots := 0, locals := 141 } shM G [.ref (G.2.1 0), .int v1, .int v2] M (some (.int r)) M' := by
  refine fm_enter (by decide) (Nat.le_of_ble_eq_true rfl) ?_
  intro p e s m args below meth c ls C E hl
  have hl : lv_has ls 6 [(0, .ref (G.2.1 0)), (1, .int v1), (2, .int v2)] := hl
  have J19 : ∀ (M : fm_M) (H : Heap) (locs : List Loc) (ls : Array Slot), fm_Wd shM G M s H locs → lv_has ls 6 [(0, .ref (G.2.1 0))] → pModel_clean_J19 N M = some (r, M') → W p l e { frames := 6, cells := 0, slots := 0, locals := 141 } s m args below meth c H locs 0 0 (fm_Z below shM G args s (some (.int r)) M') (F0 m 19 ls []) := by
    intro M H locs ls E hl hf
    unfold pModel_clean_J19 at hf
    refine lv_aload_n C.1 C.2.1 dX10_clean_19 rfl (lv_at hl 0 rfl) ?_
    obtain ⟨⟨x20, M20⟩, hc20, hf⟩ := fm_bd hf
    dsimp only at hf
    refine fm_callV C E [] [] lm_X10_157 wk_X10_lost (c_Model_lost l G _ _ _ hc20) hM_0 rfl rfl rfl hl.1 (by simp [Value.category]) ⟨⟨rfl, rfl⟩, by decide, by decide⟩ ⟨by decide, by decide⟩ dX10_clean_20 rfl (fun H locs E => ?_)
    refine W.eq (g2 := F0 m 23 ls (.int x20 :: [])) rfl ?_
    obtain ⟨rfl, rfl⟩ := fm_rt2 hf
    exact fm_iret C E rfl rfl dX10_clean_23
  have L45 : ∀ (w45_M : fm_M) (w45_v1 : Int32) (w45_v2 : Int32) (w45_v3 : Int32) (n45 : Nat) (v4 : Int32) (v5 : Int32) (H : Heap) (locs : List Loc) (ls : Array Slot), fm_Wd shM G w45_M s H locs → lv_has ls 6 [(0, .ref (G.2.1 0)), (1, .int w45_v1), (2, .int w45_v2), (3, .int w45_v3), (4, .int v4), (5, .int v5)] → fm_lp (pModel_clean_L45 N w45_M w45_v1 w45_v2 w45_v3) n45 (v4, v5) = some (r, M') → W p l e { frames := 6, cells := 0, slots := 0, locals := 141 } s m args below meth c H locs 0 0 (fm_Z below shM G args s (some (.int r)) M') (F0 m 45 ls []) := by
    intro w45_M w45_v1 w45_v2 w45_v3 n45
    induction n45 with
    | zero => intro v4 v5 H locs ls E hl hf; exact fm_lp_0 hf
    | succ n45 ih45 =>
      intro v4 v5 H locs ls E hl hf
      have hf : pModel_clean_L45b N w45_M w45_v1 w45_v2 w45_v3 (fm_lp (pModel_clean_L45 N w45_M w45_v1 w45_v2 w45_v3) n45) v4 v5 = some (r, M') := hf
      unfold pModel_clean_L45b at hf
      refine lv_iload C.1 C.2.1 dX10_clean_45 (lv_at hl 5 rfl) ?_
      refine lv_aload_n C.1 C.2.1 dX10_clean_47 rfl (lv_at hl 0 rfl) ?_
      refine fm_geti C E lf_X10_214 hM_0 rfl dX10_clean_48 ?_
      refine lv_icmp_ge (tgt := 82) C.1 C.2.1 dX10_clean_51 (by decide) (fun hc51 => ?_) (fun hc51 => ?_)
      · have hf := fm_ip hf hc51
        refine lv_aload_n C.1 C.2.1 dX10_clean_82 rfl (lv_at hl 0 rfl) ?_
        refine lv_iload_n C.1 C.2.1 dX10_clean_83 rfl (lv_at hl 3 rfl) ?_
        refine lv_iload_n C.1 C.2.1 dX10_clean_84 rfl (lv_at hl 1 rfl) ?_
        refine lv_iload_n C.1 C.2.1 dX10_clean_85 rfl (lv_at hl 2 rfl) ?_
        obtain ⟨x86, hc86, hf⟩ := fm_bd hf
        refine fm_callV C E [.int _, .int _, .int _] [] lm_X10_207 wk_X10_beamOf (c_Model_beamOf l G N _ _ _ _ _  hc86) hM_0 rfl rfl rfl hl.1 (by simp [Value.category]) ⟨⟨rfl, rfl⟩, by decide, by decide⟩ ⟨by decide, by decide⟩ dX10_clean_86 rfl (fun H locs E => ?_)
        refine W.eq (g2 := F0 m 89 ls (.int x86 :: [])) rfl ?_
        refine lv_iload C.1 C.2.1 dX10_clean_89 (lv_at hl 4 rfl) ?_
        refine lv_bipush (v := 16) C.1 C.2.1 dX10_clean_91 (by decide) ?_
        refine lv_idiv C.1 C.2.1 dX10_clean_93 (by decide) ?_
        refine lv_isub C.1 C.2.1 dX10_clean_94 ?_
        obtain ⟨rfl, rfl⟩ := fm_rt2 hf
        exact fm_iret C E rfl rfl dX10_clean_95
      · have hf := fm_in' hf hc51
        refine lv_iload C.1 C.2.1 dX10_clean_54 (lv_at hl 4 rfl) ?_
        refine lv_aload_n C.1 C.2.1 dX10_clean_56 rfl (lv_at hl 0 rfl) ?_
        refine fm_getr C E lf_X10_37 hM_0 rfl dX10_clean_57 ?_
        refine lv_iload C.1 C.2.1 dX10_clean_60 (lv_at hl 5 rfl) ?_
        obtain ⟨h62, x62, e62, hf⟩ := fm_ld_e hf
        refine fm_iald' C E e62 hM_6 h62 dX10_clean_62 ?_
        refine lv_aload_n C.1 C.2.1 dX10_clean_63 rfl (lv_at hl 0 rfl) ?_
        refine lv_iload_n C.1 C.2.1 dX10_clean_64 rfl (lv_at hl 3 rfl) ?_
        refine lv_iload_n C.1 C.2.1 dX10_clean_65 rfl (lv_at hl 1 rfl) ?_
        refine lv_iload C.1 C.2.1 dX10_clean_66 (lv_at hl 5 rfl) ?_
        refine lv_iload_n C.1 C.2.1 dX10_clean_68 rfl (lv_at hl 2 rfl) ?_
        obtain ⟨x69, hc69, hf⟩ := fm_bd hf
        refine fm_callV C E [.int _, .int _, .int _, .int _] [.int _, .int _] lm_X10_210 wk_X10_blockedOf (c_Model_blockedOf l G N _ _ _ _ _ _  hc69) hM_0 rfl rfl rfl hl.1 (by simp [Value.category]) ⟨⟨rfl, rfl⟩, by decide, by decide⟩ ⟨by decide, by decide⟩ dX10_clean_69 rfl (fun H locs E => ?_)
        refine W.eq (g2 := F0 m 72 ls (.int x69 :: [.int _, .int _])) rfl ?_
        refine lv_imul C.1 C.2.1 dX10_clean_72 ?_
        refine lv_iadd C.1 C.2.1 dX10_clean_73 ?_
        refine lv_istore (lv' := [(4, .int _), (0, .ref _), (1, .int _), (2, .int _), (3, .int _), (5, .int _)]) C.1 C.2.1 dX10_clean_74 hl (by decide) rfl (fun ls hl => ?_)
        refine fm_iinc C (v := 1) (lv' := [(5, .int _), (4, .int _), (0, .ref _), (1, .int _), (2, .int _), (3, .int _)]) (k := 5) hl rfl (by decide) (by decide) rfl dX10_clean_76 (fun ls hl => ?_)
        refine lv_goto (tgt := 45) C.1 C.2.1 dX10_clean_79 (by decide) ?_
        exact ih45 _ _ _ _ _ E (lv_sub hl [2, 3, 4, 5, 1, 0] rfl) hf
  unfold pModel_clean at hf
  refine lv_aload_n C.1 C.2.1 dX10_clean_0 rfl (lv_at hl 0 rfl) ?_
  refine lv_iconst (v := 0) C.1 C.2.1 dX10_clean_1 (by decide) ?_
  obtain ⟨M2, e2, hf⟩ := fm_pt_s hf
  refine fm_put' C E e2 lp_X10_77 hM_0 rfl dX10_clean_2 (fun H locs E => ?_)
  refine lv_iload_n C.1 C.2.1 dX10_clean_5 rfl (lv_at hl 1 rfl) ?_
  obtain ⟨x6, hc6, hf⟩ := fm_bd hf
  refine fm_callS C E [.int _] [] lm_X10_182 wk_X10_isSide (c_Model_isSide l G _ _ _  hc6) rfl hl.1 (by simp [Value.category]) ⟨⟨rfl, rfl⟩, by decide, by decide⟩ ⟨by decide, by decide⟩ dX10_clean_6 rfl (fun H locs E => ?_)
  refine W.eq (g2 := F0 m 9 ls (.int x6 :: [])) rfl ?_
  refine lv_if_eq (tgt := 19) C.1 C.2.1 dX10_clean_9 (by decide) (fun hc9 => ?_) (fun hc9 => ?_)
  · have hf := fm_ip hf hc9
    exact J19 _ _ _ _ E (lv_sub hl [0] rfl) hf
  · have hf := fm_in' hf hc9
    refine lv_iload_n C.1 C.2.1 dX10_clean_12 rfl (lv_at hl 2 rfl) ?_
    obtain ⟨x13, hc13, hf⟩ := fm_bd hf
    refine fm_callS C E [.int _] [] lm_X10_185 wk_X10_isNear (c_Model_isNear l G _ _ _  hc13) rfl hl.1 (by simp [Value.category]) ⟨⟨rfl, rfl⟩, by decide, by decide⟩ ⟨by decide, by decide⟩ dX10_clean_13 rfl (fun H locs E => ?_)
    refine W.eq (g2 := F0 m 16 ls (.int x13 :: [])) rfl ?_
    refine lv_if_ne (tgt := 24) C.1 C.2.1 dX10_clean_16 (by decide) (fun hc16 => ?_) (fun hc16 => ?_)
    · have hf := fm_in' hf hc16
      refine lv_aload_n C.1 C.2.1 dX10_clean_24 rfl (lv_at hl 0 rfl) ?_
      obtain ⟨M25, hc25, hf⟩ := fm_bd hf
      refine fm_callV C E [] [] lm_X10_188 wk_X10_hear (c_Model_hear l G N _ _ hc25) hM_0 rfl rfl rfl hl.1 (by simp [Value.category]) ⟨⟨rfl, rfl⟩, by decide, by decide⟩ ⟨by decide, by decide⟩ dX10_clean_25 rfl (fun H locs E => ?_)
      refine W.eq (g2 := F0 m 28 ls []) rfl ?_
      refine lv_aload_n C.1 C.2.1 dX10_clean_28 rfl (lv_at hl 0 rfl) ?_
      obtain ⟨x29, hc29, hf⟩ := fm_bd hf
      refine fm_callV C E [] [] lm_X10_204 wk_X10_liveBits (c_Model_liveBits l G N _ _  hc29) hM_0 rfl rfl rfl hl.1 (by simp [Value.category]) ⟨⟨rfl, rfl⟩, by decide, by decide⟩ ⟨by decide, by decide⟩ dX10_clean_29 rfl (fun H locs E => ?_)
      refine W.eq (g2 := F0 m 32 ls (.int x29 :: [])) rfl ?_
      refine lv_istore_n (lv' := [(3, .int _), (0, .ref _), (1, .int _), (2, .int _)]) C.1 C.2.1 dX10_clean_32 rfl hl (by decide) rfl (fun ls hl => ?_)
      refine lv_aload_n C.1 C.2.1 dX10_clean_33 rfl (lv_at hl 1 rfl) ?_
      refine lv_iload_n C.1 C.2.1 dX10_clean_34 rfl (lv_at hl 0 rfl) ?_
      refine lv_iload_n C.1 C.2.1 dX10_clean_35 rfl (lv_at hl 2 rfl) ?_
      obtain ⟨M36, hc36, hf⟩ := fm_bd hf
      refine fm_callV C E [.int _, .int _] [] lm_X10_239 wk_X10_layWeights (c_Model_layWeights l G N _ _ _ _ hc36) hM_0 rfl rfl rfl hl.1 (by simp [Value.category]) ⟨⟨rfl, rfl⟩, by decide, by decide⟩ ⟨by decide, by decide⟩ dX10_clean_36 rfl (fun H locs E => ?_)
      refine W.eq (g2 := F0 m 39 ls []) rfl ?_
      refine lv_iconst (v := 0) C.1 C.2.1 dX10_clean_39 (by decide) ?_
      refine lv_istore (lv' := [(4, .int _), (3, .int _), (0, .ref _), (1, .int _), (2, .int _)]) C.1 C.2.1 dX10_clean_40 hl (by decide) rfl (fun ls hl => ?_)
      refine lv_iconst (v := 0) C.1 C.2.1 dX10_clean_42 (by decide) ?_
      refine lv_istore (lv' := [(5, .int _), (4, .int _), (3, .int _), (0, .ref _), (1, .int _), (2, .int _)]) C.1 C.2.1 dX10_clean_43 hl (by decide) rfl (fun ls hl => ?_)
      exact L45 _ _ _ _ N _ _ _ _ _ E (lv_sub hl [3, 4, 5, 2, 1, 0] rfl) hf
    · have hf := fm_ip hf hc16
      exact J19 _ _ _ _ E (lv_sub hl [0] rfl) hf
theorem dX10_layMic_0 : decode cX10_layMic 0 = .ok (.iconst 0, 1) := by decide +kernel
theorem dX10_layMic_1 : decode cX10_layMic 1 = .ok (.istore_n 2, 1) := by decide +kernel
theorem dX10_layMic_2 : decode cX10_layMic 2 = .ok (.iload_n 2, 1) := by decide +kernel
theorem dX10_layMic_3 : decode cX10_layMic 3 = .ok (.aload_n 0, 1) := by decide +kernel
theorem dX10_layMic_4 : decode cX10_layMic 4 = .ok (.getfield 9, 3) := by decide +kernel
theorem dX10_layMic_7 : decode cX10_layMic 7 = .ok (.bipush 39, 2) := by decide +kernel
theorem dX10_layMic_9 : decode cX10_layMic 9 = .ok (.iaload, 1) := by decide +kernel
theorem dX10_layMic_10 : decode cX10_layMic 10 = .ok (.if_icmp .ge 29, 3) := by decide +kernel
theorem dX10_layMic_13 : decode cX10_layMic 13 = .ok (.aload_n 0, 1) := by decide +kernel
theorem dX10_layMic_14 : decode cX10_layMic 14 = .ok (.getfield 49, 3) := by decide +kernel
theorem dX10_layMic_17 : decode cX10_layMic 17 = .ok (.iload_n 2, 1) := by decide +kernel
theorem dX10_layMic_18 : decode cX10_layMic 18 = .ok (.aload_n 0, 1) := by decide +kernel
theorem dX10_layMic_19 : decode cX10_layMic 19 = .ok (.iload_n 1, 1) := by decide +kernel
theorem dX10_layMic_20 : decode cX10_layMic 20 = .ok (.aload_n 0, 1) := by decide +kernel
theorem dX10_layMic_21 : decode cX10_layMic 21 = .ok (.getfield 9, 3) := by decide +kernel
theorem dX10_layMic_24 : decode cX10_layMic 24 = .ok (.bipush 38, 2) := by decide +kernel
theorem dX10_layMic_26 : decode cX10_layMic 26 = .ok (.iaload, 1) := by decide +kernel
theorem dX10_layMic_27 : decode cX10_layMic 27 = .ok (.iload_n 2, 1) := by decide +kernel
theorem dX10_layMic_28 : decode cX10_layMic 28 = .ok (.iadd, 1) := by decide +kernel
theorem dX10_layMic_29 : decode cX10_layMic 29 = .ok (.invokevirtual 179, 3) := by decide +kernel
theorem dX10_layMic_32 : decode cX10_layMic 32 = .ok (.iastore, 1) := by decide +kernel
theorem dX10_layMic_33 : decode cX10_layMic 33 = .ok (.iinc 2 1, 3) := by decide +kernel
theorem dX10_layMic_36 : decode cX10_layMic 36 = .ok (.goto (-34), 3) := by decide +kernel
theorem dX10_layMic_39 : decode cX10_layMic 39 = .ok (.return_, 1) := by decide +kernel
set_option maxHeartbeats 4000000 in
set_option maxRecDepth 100000 in
theorem c_Model_layMic (l : Launch) (G : fm_G) (N : Nat) (M : fm_M) (v1 : Int32) (M' : fm_M) (hf : pModel_layMic N M v1 = some M') : fm_Met l yX10_layMic cX10_layMic 3 none { frames := 1, cells := 0, slots := 0, locals := 22 } shM G [.ref (G.2.1 0), .int v1] M none M' := by
  refine fm_enter (by decide) (Nat.le_of_ble_eq_true rfl) ?_
  intro p e s m args below meth c ls C E hl
  have hl : lv_has ls 3 [(0, .ref (G.2.1 0)), (1, .int v1)] := hl
  have L2 : ∀ (w2_v1 : Int32) (n2 : Nat) (v2 : Int32) (M : fm_M) (H : Heap) (locs : List Loc) (ls : Array Slot), fm_Wd shM G M s H locs → lv_has ls 3 [(0, .ref (G.2.1 0)), (1, .int w2_v1), (2, .int v2)] → fm_lp (pModel_layMic_L2 N w2_v1) n2 (v2, M) = some M' → W p l e { frames := 1, cells := 0, slots := 0, locals := 22 } s m args below meth c H locs 0 0 (fm_Z below shM G args s none M') (F0 m 2 ls []) := by
    intro w2_v1 n2
    induction n2 with
    | zero => intro v2 M H locs ls E hl hf; exact fm_lp_0 hf
    | succ n2 ih2 =>
      intro v2 M H locs ls E hl hf
      have hf : pModel_layMic_L2b N w2_v1 (fm_lp (pModel_layMic_L2 N w2_v1) n2) v2 M = some M' := hf
      unfold pModel_layMic_L2b at hf
      refine lv_iload_n C.1 C.2.1 dX10_layMic_2 rfl (lv_at hl 2 rfl) ?_
      refine lv_aload_n C.1 C.2.1 dX10_layMic_3 rfl (lv_at hl 0 rfl) ?_
      refine fm_getr C E lf_X10_9 hM_0 rfl dX10_layMic_4 ?_
      refine lv_bipush (v := 39) C.1 C.2.1 dX10_layMic_7 (by decide) ?_
      refine fm_ialdc C E 39 (by decide) hM_1 (by decide) dX10_layMic_9 ?_
      refine lv_icmp_ge (tgt := 39) C.1 C.2.1 dX10_layMic_10 (by decide) (fun hc10 => ?_) (fun hc10 => ?_)
      · have hf := fm_ip hf hc10
        obtain rfl := fm_rt1 hf
        exact fm_vret C E rfl dX10_layMic_39
      · have hf := fm_in' hf hc10
        refine lv_aload_n C.1 C.2.1 dX10_layMic_13 rfl (lv_at hl 0 rfl) ?_
        refine fm_getr C E lf_X10_49 hM_0 rfl dX10_layMic_14 ?_
        refine lv_iload_n C.1 C.2.1 dX10_layMic_17 rfl (lv_at hl 2 rfl) ?_
        refine lv_aload_n C.1 C.2.1 dX10_layMic_18 rfl (lv_at hl 0 rfl) ?_
        refine lv_iload_n C.1 C.2.1 dX10_layMic_19 rfl (lv_at hl 1 rfl) ?_
        refine lv_aload_n C.1 C.2.1 dX10_layMic_20 rfl (lv_at hl 0 rfl) ?_
        refine fm_getr C E lf_X10_9 hM_0 rfl dX10_layMic_21 ?_
        refine lv_bipush (v := 38) C.1 C.2.1 dX10_layMic_24 (by decide) ?_
        refine fm_ialdc C E 38 (by decide) hM_1 (by decide) dX10_layMic_26 ?_
        refine lv_iload_n C.1 C.2.1 dX10_layMic_27 rfl (lv_at hl 2 rfl) ?_
        refine lv_iadd C.1 C.2.1 dX10_layMic_28 ?_
        obtain ⟨x29, hc29, hf⟩ := fm_bd hf
        refine fm_callV C E [.int _, .int _] [.int _, .ref _] lm_X10_179 wk_X10_heard (c_Model_heard l G _ _ _ _  hc29) hM_0 rfl rfl rfl hl.1 (by simp [Value.category]) ⟨⟨rfl, rfl⟩, by decide, by decide⟩ ⟨by decide, by decide⟩ dX10_layMic_29 rfl (fun H locs E => ?_)
        refine W.eq (g2 := F0 m 32 ls (.int x29 :: [.int _, .ref _])) rfl ?_
        obtain ⟨h32, M32, e32, hf⟩ := fm_st_e hf
        refine fm_iast' C E e32 hM_10 h32 dX10_layMic_32 (fun H locs E => ?_)
        refine fm_iinc C (v := 1) (lv' := [(2, .int _), (0, .ref _), (1, .int _)]) (k := 2) hl rfl (by decide) (by decide) rfl dX10_layMic_33 (fun ls hl => ?_)
        refine lv_goto (tgt := 2) C.1 C.2.1 dX10_layMic_36 (by decide) ?_
        exact ih2 _ _ _ _ _ E (lv_sub hl [1, 2, 0] rfl) hf
  unfold pModel_layMic at hf
  refine lv_iconst (v := 0) C.1 C.2.1 dX10_layMic_0 (by decide) ?_
  refine lv_istore_n (lv' := [(2, .int _), (0, .ref _), (1, .int _)]) C.1 C.2.1 dX10_layMic_1 rfl hl (by decide) rfl (fun ls hl => ?_)
  exact L2 _ N _ _ _ _ _ E (lv_sub hl [1, 2, 0] rfl) hf
theorem dX10_level_0 : decode cX10_level 0 = .ok (.aload_n 0, 1) := by decide +kernel
theorem dX10_level_1 : decode cX10_level 1 = .ok (.iconst 0, 1) := by decide +kernel
theorem dX10_level_2 : decode cX10_level 2 = .ok (.putfield 77, 3) := by decide +kernel
theorem dX10_level_5 : decode cX10_level 5 = .ok (.aload_n 0, 1) := by decide +kernel
theorem dX10_level_6 : decode cX10_level 6 = .ok (.iload_n 1, 1) := by decide +kernel
theorem dX10_level_7 : decode cX10_level 7 = .ok (.invokevirtual 153, 3) := by decide +kernel
theorem dX10_level_10 : decode cX10_level 10 = .ok (.ifCond .ne 5, 3) := by decide +kernel
theorem dX10_level_13 : decode cX10_level 13 = .ok (.iconst (-1), 1) := by decide +kernel
theorem dX10_level_14 : decode cX10_level 14 = .ok (.ireturn, 1) := by decide +kernel
theorem dX10_level_15 : decode cX10_level 15 = .ok (.aload_n 0, 1) := by decide +kernel
theorem dX10_level_16 : decode cX10_level 16 = .ok (.invokevirtual 188, 3) := by decide +kernel
theorem dX10_level_19 : decode cX10_level 19 = .ok (.aload_n 0, 1) := by decide +kernel
theorem dX10_level_20 : decode cX10_level 20 = .ok (.iload_n 1, 1) := by decide +kernel
theorem dX10_level_21 : decode cX10_level 21 = .ok (.invokevirtual 242, 3) := by decide +kernel
theorem dX10_level_24 : decode cX10_level 24 = .ok (.iconst 0, 1) := by decide +kernel
theorem dX10_level_25 : decode cX10_level 25 = .ok (.istore_n 2, 1) := by decide +kernel
theorem dX10_level_26 : decode cX10_level 26 = .ok (.iconst 0, 1) := by decide +kernel
theorem dX10_level_27 : decode cX10_level 27 = .ok (.istore_n 3, 1) := by decide +kernel
theorem dX10_level_28 : decode cX10_level 28 = .ok (.aload_n 0, 1) := by decide +kernel
theorem dX10_level_29 : decode cX10_level 29 = .ok (.getfield 9, 3) := by decide +kernel
theorem dX10_level_32 : decode cX10_level 32 = .ok (.bipush 39, 2) := by decide +kernel
theorem dX10_level_34 : decode cX10_level 34 = .ok (.iaload, 1) := by decide +kernel
theorem dX10_level_35 : decode cX10_level 35 = .ok (.iconst 1, 1) := by decide +kernel
theorem dX10_level_36 : decode cX10_level 36 = .ok (.isub, 1) := by decide +kernel
theorem dX10_level_37 : decode cX10_level 37 = .ok (.istore 4, 2) := by decide +kernel
theorem dX10_level_39 : decode cX10_level 39 = .ok (.iload 4, 2) := by decide +kernel
theorem dX10_level_41 : decode cX10_level 41 = .ok (.ifCond .lt 40, 3) := by decide +kernel
theorem dX10_level_44 : decode cX10_level 44 = .ok (.aload_n 0, 1) := by decide +kernel
theorem dX10_level_45 : decode cX10_level 45 = .ok (.getfield 49, 3) := by decide +kernel
theorem dX10_level_48 : decode cX10_level 48 = .ok (.iload 4, 2) := by decide +kernel
theorem dX10_level_50 : decode cX10_level 50 = .ok (.iaload, 1) := by decide +kernel
theorem dX10_level_51 : decode cX10_level 51 = .ok (.invokestatic 217, 3) := by decide +kernel
theorem dX10_level_54 : decode cX10_level 54 = .ok (.iload_n 2, 1) := by decide +kernel
theorem dX10_level_55 : decode cX10_level 55 = .ok (.if_icmp .ge 6, 3) := by decide +kernel
theorem dX10_level_58 : decode cX10_level 58 = .ok (.goto 17, 3) := by decide +kernel
theorem dX10_level_61 : decode cX10_level 61 = .ok (.aload_n 0, 1) := by decide +kernel
theorem dX10_level_62 : decode cX10_level 62 = .ok (.getfield 49, 3) := by decide +kernel
theorem dX10_level_65 : decode cX10_level 65 = .ok (.iload 4, 2) := by decide +kernel
theorem dX10_level_67 : decode cX10_level 67 = .ok (.iaload, 1) := by decide +kernel
theorem dX10_level_68 : decode cX10_level 68 = .ok (.invokestatic 217, 3) := by decide +kernel
theorem dX10_level_71 : decode cX10_level 71 = .ok (.istore_n 2, 1) := by decide +kernel
theorem dX10_level_72 : decode cX10_level 72 = .ok (.iload 4, 2) := by decide +kernel
theorem dX10_level_74 : decode cX10_level 74 = .ok (.istore_n 3, 1) := by decide +kernel
theorem dX10_level_75 : decode cX10_level 75 = .ok (.iinc 4 (-1), 3) := by decide +kernel
theorem dX10_level_78 : decode cX10_level 78 = .ok (.goto (-39), 3) := by decide +kernel
theorem dX10_level_81 : decode cX10_level 81 = .ok (.aload_n 0, 1) := by decide +kernel
theorem dX10_level_82 : decode cX10_level 82 = .ok (.iconst 0, 1) := by decide +kernel
theorem dX10_level_83 : decode cX10_level 83 = .ok (.putfield 80, 3) := by decide +kernel
theorem dX10_level_86 : decode cX10_level 86 = .ok (.aload_n 0, 1) := by decide +kernel
theorem dX10_level_87 : decode cX10_level 87 = .ok (.aload_n 0, 1) := by decide +kernel
theorem dX10_level_88 : decode cX10_level 88 = .ok (.aload_n 0, 1) := by decide +kernel
theorem dX10_level_89 : decode cX10_level 89 = .ok (.getfield 49, 3) := by decide +kernel
theorem dX10_level_92 : decode cX10_level 92 = .ok (.invokevirtual 228, 3) := by decide +kernel
theorem dX10_level_95 : decode cX10_level 95 = .ok (.invokevirtual 245, 3) := by decide +kernel
theorem dX10_level_98 : decode cX10_level 98 = .ok (.aload_n 0, 1) := by decide +kernel
theorem dX10_level_99 : decode cX10_level 99 = .ok (.iload_n 2, 1) := by decide +kernel
theorem dX10_level_100 : decode cX10_level 100 = .ok (.i2l, 1) := by decide +kernel
theorem dX10_level_101 : decode cX10_level 101 = .ok (.invokevirtual 245, 3) := by decide +kernel
theorem dX10_level_104 : decode cX10_level 104 = .ok (.aload_n 0, 1) := by decide +kernel
theorem dX10_level_105 : decode cX10_level 105 = .ok (.aload_n 0, 1) := by decide +kernel
theorem dX10_level_106 : decode cX10_level 106 = .ok (.getfield 9, 3) := by decide +kernel
theorem dX10_level_109 : decode cX10_level 109 = .ok (.bipush 38, 2) := by decide +kernel
theorem dX10_level_111 : decode cX10_level 111 = .ok (.iaload, 1) := by decide +kernel
theorem dX10_level_112 : decode cX10_level 112 = .ok (.iload_n 3, 1) := by decide +kernel
theorem dX10_level_113 : decode cX10_level 113 = .ok (.iadd, 1) := by decide +kernel
theorem dX10_level_114 : decode cX10_level 114 = .ok (.i2l, 1) := by decide +kernel
theorem dX10_level_115 : decode cX10_level 115 = .ok (.invokevirtual 245, 3) := by decide +kernel
theorem dX10_level_118 : decode cX10_level 118 = .ok (.aload_n 0, 1) := by decide +kernel
theorem dX10_level_119 : decode cX10_level 119 = .ok (.aload_n 0, 1) := by decide +kernel
theorem dX10_level_120 : decode cX10_level 120 = .ok (.getfield 49, 3) := by decide +kernel
theorem dX10_level_123 : decode cX10_level 123 = .ok (.invokevirtual 249, 3) := by decide +kernel
theorem dX10_level_126 : decode cX10_level 126 = .ok (.ireturn, 1) := by decide +kernel
set_option maxHeartbeats 4000000 in
set_option maxRecDepth 100000 in
theorem c_Model_level (l : Launch) (G : fm_G) (N : Nat) (M : fm_M) (v1 : Int32) (r : Int32) (M' : fm_M) (hf : pModel_level N M v1 = some (r, M')) : fm_Met l yX10_level cX10_level 5 (some .int) { frames := 5, cells := 0, slots := 0, locals := 115 } shM G [.ref (G.2.1 0), .int v1] M (some (.int r)) M' := by
  refine fm_enter (by decide) (Nat.le_of_ble_eq_true rfl) ?_
  intro p e s m args below meth c ls C E hl
  have hl : lv_has ls 5 [(0, .ref (G.2.1 0)), (1, .int v1)] := hl
  have L39 : ∀ (w39_M : fm_M) (n39 : Nat) (v2 : Int32) (v3 : Int32) (v4 : Int32) (H : Heap) (locs : List Loc) (ls : Array Slot), fm_Wd shM G w39_M s H locs → lv_has ls 5 [(0, .ref (G.2.1 0)), (2, .int v2), (3, .int v3), (4, .int v4)] → fm_lp (pModel_level_L39 N w39_M) n39 (v2, v3, v4) = some (r, M') → W p l e { frames := 5, cells := 0, slots := 0, locals := 115 } s m args below meth c H locs 0 0 (fm_Z below shM G args s (some (.int r)) M') (F0 m 39 ls []) := by
    intro w39_M n39
    induction n39 with
    | zero => intro v2 v3 v4 H locs ls E hl hf; exact fm_lp_0 hf
    | succ n39 ih39 =>
      intro v2 v3 v4 H locs ls E hl hf
      have hf : pModel_level_L39b N w39_M (fm_lp (pModel_level_L39 N w39_M) n39) v2 v3 v4 = some (r, M') := hf
      unfold pModel_level_L39b at hf
      refine lv_iload C.1 C.2.1 dX10_level_39 (lv_at hl 3 rfl) ?_
      refine lv_if_lt (tgt := 81) C.1 C.2.1 dX10_level_41 (by decide) (fun hc41 => ?_) (fun hc41 => ?_)
      · have hf := fm_ip hf hc41
        refine lv_aload_n C.1 C.2.1 dX10_level_81 rfl (lv_at hl 0 rfl) ?_
        refine lv_iconst (v := 0) C.1 C.2.1 dX10_level_82 (by decide) ?_
        obtain ⟨M83, e83, hf⟩ := fm_pt_s hf
        refine fm_put' C E e83 lp_X10_80 hM_0 rfl dX10_level_83 (fun H locs E => ?_)
        refine lv_aload_n C.1 C.2.1 dX10_level_86 rfl (lv_at hl 0 rfl) ?_
        refine lv_aload_n C.1 C.2.1 dX10_level_87 rfl (lv_at hl 0 rfl) ?_
        refine lv_aload_n C.1 C.2.1 dX10_level_88 rfl (lv_at hl 0 rfl) ?_
        refine fm_getr C E lf_X10_49 hM_0 rfl dX10_level_89 ?_
        obtain ⟨x92, hc92, hf⟩ := fm_bd hf
        refine fm_callV C E [.ref _] [.ref _] lm_X10_228 wk_X10_powerOf (c_Model_powerOf l G N _ _ _  hc92) hM_0 rfl rfl rfl hl.1 (by simp [Value.category]) ⟨⟨rfl, rfl⟩, by decide, by decide⟩ ⟨by decide, by decide⟩ dX10_level_92 rfl (fun H locs E => ?_)
        refine W.eq (g2 := F0 m 95 ls (.long x92 :: [.ref _])) rfl ?_
        obtain ⟨M95, hc95, hf⟩ := fm_bd hf
        refine fm_callV C E [.long _] [] lm_X10_245 wk_X10_tell (c_Model_tell l G _ _ _ hc95) hM_0 rfl rfl rfl hl.1 (by simp [Value.category]) ⟨⟨rfl, rfl⟩, by decide, by decide⟩ ⟨by decide, by decide⟩ dX10_level_95 rfl (fun H locs E => ?_)
        refine W.eq (g2 := F0 m 98 ls []) rfl ?_
        refine lv_aload_n C.1 C.2.1 dX10_level_98 rfl (lv_at hl 0 rfl) ?_
        refine lv_iload_n C.1 C.2.1 dX10_level_99 rfl (lv_at hl 1 rfl) ?_
        refine lv_i2l C.1 C.2.1 dX10_level_100 rfl ?_
        obtain ⟨M101, hc101, hf⟩ := fm_bd hf
        refine fm_callV C E [.long _] [] lm_X10_245 wk_X10_tell (c_Model_tell l G _ _ _ hc101) hM_0 rfl rfl rfl hl.1 (by simp [Value.category]) ⟨⟨rfl, rfl⟩, by decide, by decide⟩ ⟨by decide, by decide⟩ dX10_level_101 rfl (fun H locs E => ?_)
        refine W.eq (g2 := F0 m 104 ls []) rfl ?_
        refine lv_aload_n C.1 C.2.1 dX10_level_104 rfl (lv_at hl 0 rfl) ?_
        refine lv_aload_n C.1 C.2.1 dX10_level_105 rfl (lv_at hl 0 rfl) ?_
        refine fm_getr C E lf_X10_9 hM_0 rfl dX10_level_106 ?_
        refine lv_bipush (v := 38) C.1 C.2.1 dX10_level_109 (by decide) ?_
        refine fm_ialdc C E 38 (by decide) hM_1 (by decide) dX10_level_111 ?_
        refine lv_iload_n C.1 C.2.1 dX10_level_112 rfl (lv_at hl 2 rfl) ?_
        refine lv_iadd C.1 C.2.1 dX10_level_113 ?_
        refine lv_i2l C.1 C.2.1 dX10_level_114 rfl ?_
        obtain ⟨M115, hc115, hf⟩ := fm_bd hf
        refine fm_callV C E [.long _] [] lm_X10_245 wk_X10_tell (c_Model_tell l G _ _ _ hc115) hM_0 rfl rfl rfl hl.1 (by simp [Value.category]) ⟨⟨rfl, rfl⟩, by decide, by decide⟩ ⟨by decide, by decide⟩ dX10_level_115 rfl (fun H locs E => ?_)
        refine W.eq (g2 := F0 m 118 ls []) rfl ?_
        refine lv_aload_n C.1 C.2.1 dX10_level_118 rfl (lv_at hl 0 rfl) ?_
        refine lv_aload_n C.1 C.2.1 dX10_level_119 rfl (lv_at hl 0 rfl) ?_
        refine fm_getr C E lf_X10_49 hM_0 rfl dX10_level_120 ?_
        obtain ⟨x123, hc123, hf⟩ := fm_bd hf
        refine fm_callV C E [.ref _] [] lm_X10_249 wk_X10_levelOf (c_Model_levelOf l G N _ _ _  hc123) hM_0 rfl rfl rfl hl.1 (by simp [Value.category]) ⟨⟨rfl, rfl⟩, by decide, by decide⟩ ⟨by decide, by decide⟩ dX10_level_123 rfl (fun H locs E => ?_)
        refine W.eq (g2 := F0 m 126 ls (.int x123 :: [])) rfl ?_
        obtain ⟨rfl, rfl⟩ := fm_rt2 hf
        exact fm_iret C E rfl rfl dX10_level_126
      · have hf := fm_in' hf hc41
        refine lv_aload_n C.1 C.2.1 dX10_level_44 rfl (lv_at hl 0 rfl) ?_
        refine fm_getr C E lf_X10_49 hM_0 rfl dX10_level_45 ?_
        refine lv_iload C.1 C.2.1 dX10_level_48 (lv_at hl 3 rfl) ?_
        obtain ⟨h50, x50, e50, hf⟩ := fm_ld_e hf
        refine fm_iald' C E e50 hM_10 h50 dX10_level_50 ?_
        refine fm_abs C wv_abs wm_1417 hl.1 ⟨by decide, by decide⟩ (by simp [Value.category]) ⟨by decide, by decide⟩ dX10_level_51 ?_
        refine lv_iload_n C.1 C.2.1 dX10_level_54 rfl (lv_at hl 1 rfl) ?_
        refine lv_icmp_ge (tgt := 61) C.1 C.2.1 dX10_level_55 (by decide) (fun hc55 => ?_) (fun hc55 => ?_)
        · have hf := fm_ip hf hc55
          refine lv_aload_n C.1 C.2.1 dX10_level_61 rfl (lv_at hl 0 rfl) ?_
          refine fm_getr C E lf_X10_49 hM_0 rfl dX10_level_62 ?_
          refine lv_iload C.1 C.2.1 dX10_level_65 (lv_at hl 3 rfl) ?_
          obtain ⟨h67, x67, e67, hf⟩ := fm_ld_e hf
          refine fm_iald' C E e67 hM_10 h67 dX10_level_67 ?_
          refine fm_abs C wv_abs wm_1417 hl.1 ⟨by decide, by decide⟩ (by simp [Value.category]) ⟨by decide, by decide⟩ dX10_level_68 ?_
          refine lv_istore_n (lv' := [(2, .int _), (0, .ref _), (3, .int _), (4, .int _)]) C.1 C.2.1 dX10_level_71 rfl hl (by decide) rfl (fun ls hl => ?_)
          refine lv_iload C.1 C.2.1 dX10_level_72 (lv_at hl 3 rfl) ?_
          refine lv_istore_n (lv' := [(3, .int _), (2, .int _), (0, .ref _), (4, .int _)]) C.1 C.2.1 dX10_level_74 rfl hl (by decide) rfl (fun ls hl => ?_)
          refine fm_iinc C (v := (-1)) (lv' := [(4, .int _), (3, .int _), (2, .int _), (0, .ref _)]) (k := 3) hl rfl (by decide) (by decide) rfl dX10_level_75 (fun ls hl => ?_)
          refine lv_goto (tgt := 39) C.1 C.2.1 dX10_level_78 (by decide) ?_
          exact ih39 _ _ _ _ _ _ E (lv_sub hl [3, 2, 1, 0] rfl) hf
        · have hf := fm_in' hf hc55
          refine lv_goto (tgt := 75) C.1 C.2.1 dX10_level_58 (by decide) ?_
          refine fm_iinc C (v := (-1)) (lv' := [(4, .int _), (0, .ref _), (2, .int _), (3, .int _)]) (k := 3) hl rfl (by decide) (by decide) rfl dX10_level_75 (fun ls hl => ?_)
          refine lv_goto (tgt := 39) C.1 C.2.1 dX10_level_78 (by decide) ?_
          exact ih39 _ _ _ _ _ _ E (lv_sub hl [1, 2, 3, 0] rfl) hf
  unfold pModel_level at hf
  refine lv_aload_n C.1 C.2.1 dX10_level_0 rfl (lv_at hl 0 rfl) ?_
  refine lv_iconst (v := 0) C.1 C.2.1 dX10_level_1 (by decide) ?_
  obtain ⟨M2, e2, hf⟩ := fm_pt_s hf
  refine fm_put' C E e2 lp_X10_77 hM_0 rfl dX10_level_2 (fun H locs E => ?_)
  refine lv_aload_n C.1 C.2.1 dX10_level_5 rfl (lv_at hl 0 rfl) ?_
  refine lv_iload_n C.1 C.2.1 dX10_level_6 rfl (lv_at hl 1 rfl) ?_
  obtain ⟨x7, hc7, hf⟩ := fm_bd hf
  refine fm_callV C E [.int _] [] lm_X10_153 wk_X10_isMic (c_Model_isMic l G _ _ _  hc7) hM_0 rfl rfl rfl hl.1 (by simp [Value.category]) ⟨⟨rfl, rfl⟩, by decide, by decide⟩ ⟨by decide, by decide⟩ dX10_level_7 rfl (fun H locs E => ?_)
  refine W.eq (g2 := F0 m 10 ls (.int x7 :: [])) rfl ?_
  refine lv_if_ne (tgt := 15) C.1 C.2.1 dX10_level_10 (by decide) (fun hc10 => ?_) (fun hc10 => ?_)
  · have hf := fm_in' hf hc10
    refine lv_aload_n C.1 C.2.1 dX10_level_15 rfl (lv_at hl 0 rfl) ?_
    obtain ⟨M16, hc16, hf⟩ := fm_bd hf
    refine fm_callV C E [] [] lm_X10_188 wk_X10_hear (c_Model_hear l G N _ _ hc16) hM_0 rfl rfl rfl hl.1 (by simp [Value.category]) ⟨⟨rfl, rfl⟩, by decide, by decide⟩ ⟨by decide, by decide⟩ dX10_level_16 rfl (fun H locs E => ?_)
    refine W.eq (g2 := F0 m 19 ls []) rfl ?_
    refine lv_aload_n C.1 C.2.1 dX10_level_19 rfl (lv_at hl 0 rfl) ?_
    refine lv_iload_n C.1 C.2.1 dX10_level_20 rfl (lv_at hl 1 rfl) ?_
    obtain ⟨M21, hc21, hf⟩ := fm_bd hf
    refine fm_callV C E [.int _] [] lm_X10_242 wk_X10_layMic (c_Model_layMic l G N _ _ _ hc21) hM_0 rfl rfl rfl hl.1 (by simp [Value.category]) ⟨⟨rfl, rfl⟩, by decide, by decide⟩ ⟨by decide, by decide⟩ dX10_level_21 rfl (fun H locs E => ?_)
    refine W.eq (g2 := F0 m 24 ls []) rfl ?_
    refine lv_iconst (v := 0) C.1 C.2.1 dX10_level_24 (by decide) ?_
    refine lv_istore_n (lv' := [(2, .int _), (0, .ref _), (1, .int _)]) C.1 C.2.1 dX10_level_25 rfl hl (by decide) rfl (fun ls hl => ?_)
    refine lv_iconst (v := 0) C.1 C.2.1 dX10_level_26 (by decide) ?_
    refine lv_istore_n (lv' := [(3, .int _), (2, .int _), (0, .ref _), (1, .int _)]) C.1 C.2.1 dX10_level_27 rfl hl (by decide) rfl (fun ls hl => ?_)
    refine lv_aload_n C.1 C.2.1 dX10_level_28 rfl (lv_at hl 2 rfl) ?_
    refine fm_getr C E lf_X10_9 hM_0 rfl dX10_level_29 ?_
    refine lv_bipush (v := 39) C.1 C.2.1 dX10_level_32 (by decide) ?_
    refine fm_ialdc C E 39 (by decide) hM_1 (by decide) dX10_level_34 ?_
    refine lv_iconst (v := 1) C.1 C.2.1 dX10_level_35 (by decide) ?_
    refine lv_isub C.1 C.2.1 dX10_level_36 ?_
    refine lv_istore (lv' := [(4, .int _), (3, .int _), (2, .int _), (0, .ref _), (1, .int _)]) C.1 C.2.1 dX10_level_37 hl (by decide) rfl (fun ls hl => ?_)
    exact L39 _ N _ _ _ _ _ _ E (lv_sub hl [3, 2, 1, 0] rfl) hf
  · have hf := fm_ip hf hc10
    refine lv_iconst (v := (-1)) C.1 C.2.1 dX10_level_13 (by decide) ?_
    obtain ⟨rfl, rfl⟩ := fm_rt2 hf
    exact fm_iret C E rfl rfl dX10_level_14
