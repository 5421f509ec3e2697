theorem dX10_readSide_0 : decode cX10_readSide 0 = .ok (.aload_n 0, 1) := by decide +kernel
theorem dX10_readSide_1 : decode cX10_readSide 1 = .ok (.invokevirtual 99, 3) := by decide +kernel
theorem dX10_readSide_4 : decode cX10_readSide 4 = .ok (.ifCond .ne 5, 3) := by decide +kernel
theorem dX10_readSide_7 : decode cX10_readSide 7 = .ok (.iconst 0, 1) := by decide +kernel
theorem dX10_readSide_8 : decode cX10_readSide 8 = .ok (.ireturn, 1) := by decide +kernel
theorem dX10_readSide_9 : decode cX10_readSide 9 = .ok (.aload_n 0, 1) := by decide +kernel
theorem dX10_readSide_10 : decode cX10_readSide 10 = .ok (.invokevirtual 103, 3) := by decide +kernel
theorem dX10_readSide_13 : decode cX10_readSide 13 = .ok (.bipush 45, 2) := by decide +kernel
theorem dX10_readSide_15 : decode cX10_readSide 15 = .ok (.if_icmp .ne 7, 3) := by decide +kernel
theorem dX10_readSide_18 : decode cX10_readSide 18 = .ok (.iconst 1, 1) := by decide +kernel
theorem dX10_readSide_19 : decode cX10_readSide 19 = .ok (.goto 4, 3) := by decide +kernel
theorem dX10_readSide_22 : decode cX10_readSide 22 = .ok (.iconst 0, 1) := by decide +kernel
theorem dX10_readSide_23 : decode cX10_readSide 23 = .ok (.istore_n 1, 1) := by decide +kernel
theorem dX10_readSide_24 : decode cX10_readSide 24 = .ok (.iload_n 1, 1) := by decide +kernel
theorem dX10_readSide_25 : decode cX10_readSide 25 = .ok (.ifCond .ne 22, 3) := by decide +kernel
theorem dX10_readSide_28 : decode cX10_readSide 28 = .ok (.aload_n 0, 1) := by decide +kernel
theorem dX10_readSide_29 : decode cX10_readSide 29 = .ok (.invokevirtual 103, 3) := by decide +kernel
theorem dX10_readSide_32 : decode cX10_readSide 32 = .ok (.bipush 43, 2) := by decide +kernel
theorem dX10_readSide_34 : decode cX10_readSide 34 = .ok (.if_icmp .eq 13, 3) := by decide +kernel
theorem dX10_readSide_37 : decode cX10_readSide 37 = .ok (.aload_n 0, 1) := by decide +kernel
theorem dX10_readSide_38 : decode cX10_readSide 38 = .ok (.aload_n 0, 1) := by decide +kernel
theorem dX10_readSide_39 : decode cX10_readSide 39 = .ok (.getfield 93, 3) := by decide +kernel
theorem dX10_readSide_42 : decode cX10_readSide 42 = .ok (.invokevirtual 107, 3) := by decide +kernel
theorem dX10_readSide_45 : decode cX10_readSide 45 = .ok (.iconst 0, 1) := by decide +kernel
theorem dX10_readSide_46 : decode cX10_readSide 46 = .ok (.ireturn, 1) := by decide +kernel
theorem dX10_readSide_47 : decode cX10_readSide 47 = .ok (.aload_n 0, 1) := by decide +kernel
theorem dX10_readSide_48 : decode cX10_readSide 48 = .ok (.dup, 1) := by decide +kernel
theorem dX10_readSide_49 : decode cX10_readSide 49 = .ok (.getfield 93, 3) := by decide +kernel
theorem dX10_readSide_52 : decode cX10_readSide 52 = .ok (.iconst 1, 1) := by decide +kernel
theorem dX10_readSide_53 : decode cX10_readSide 53 = .ok (.iadd, 1) := by decide +kernel
theorem dX10_readSide_54 : decode cX10_readSide 54 = .ok (.putfield 93, 3) := by decide +kernel
theorem dX10_readSide_57 : decode cX10_readSide 57 = .ok (.aload_n 0, 1) := by decide +kernel
theorem dX10_readSide_58 : decode cX10_readSide 58 = .ok (.bipush 48, 2) := by decide +kernel
theorem dX10_readSide_60 : decode cX10_readSide 60 = .ok (.bipush 9, 2) := by decide +kernel
theorem dX10_readSide_62 : decode cX10_readSide 62 = .ok (.invokevirtual 111, 3) := by decide +kernel
theorem dX10_readSide_65 : decode cX10_readSide 65 = .ok (.istore_n 2, 1) := by decide +kernel
theorem dX10_readSide_66 : decode cX10_readSide 66 = .ok (.iload_n 1, 1) := by decide +kernel
theorem dX10_readSide_67 : decode cX10_readSide 67 = .ok (.ifCond .eq 8, 3) := by decide +kernel
theorem dX10_readSide_70 : decode cX10_readSide 70 = .ok (.iload_n 2, 1) := by decide +kernel
theorem dX10_readSide_71 : decode cX10_readSide 71 = .ok (.ineg, 1) := by decide +kernel
theorem dX10_readSide_72 : decode cX10_readSide 72 = .ok (.goto 4, 3) := by decide +kernel
theorem dX10_readSide_75 : decode cX10_readSide 75 = .ok (.iload_n 2, 1) := by decide +kernel
theorem dX10_readSide_76 : decode cX10_readSide 76 = .ok (.ireturn, 1) := by decide +kernel
set_option maxHeartbeats 4000000 in
set_option maxRecDepth 100000 in
theorem c_Model_readSide (l : Launch) (G : fm_G) (M : fm_M) (r : Int32) (M' : fm_M) (hf : pModel_readSide M = some (r, M')) : fm_Met l yX10_readSide cX10_readSide 3 (some .int) { frames := 3, cells := 0, slots := 0, locals := 63 } shM G [.ref (G.2.1 0)] M (some (.int r)) M' := by
  refine fm_enter (by decide) (Nat.le_of_ble_eq_true rfl) ?_
  intro p e s m args below meth c ls C E hl
  have hl : lv_has ls 3 [(0, .ref (G.2.1 0))] := hl
  have J47 : ∀ (M : fm_M) (v1 : Int32) (H : Heap) (locs : List Loc) (ls : Array Slot), fm_Wd shM G M s H locs → lv_has ls 3 [(0, .ref (G.2.1 0)), (1, .int v1)] → pModel_readSide_J47 M v1 = some (r, M') → W p l e { frames := 3, cells := 0, slots := 0, locals := 63 } s m args below meth c H locs 0 0 (fm_Z below shM G args s (some (.int r)) M') (F0 m 47 ls []) := by
    intro M v1 H locs ls E hl hf
    unfold pModel_readSide_J47 at hf
    refine lv_aload_n C.1 C.2.1 dX10_readSide_47 rfl (lv_at hl 0 rfl) ?_
    refine lv_dup C.1 C.2.1 dX10_readSide_48 rfl ?_
    refine fm_geti C E lf_X10_93 hM_0 rfl dX10_readSide_49 ?_
    refine lv_iconst (v := 1) C.1 C.2.1 dX10_readSide_52 (by decide) ?_
    refine lv_iadd C.1 C.2.1 dX10_readSide_53 ?_
    obtain ⟨M54, e54, hf⟩ := fm_pt_s hf
    refine fm_put' C E e54 lp_X10_93 hM_0 rfl dX10_readSide_54 (fun H locs E => ?_)
    refine lv_aload_n C.1 C.2.1 dX10_readSide_57 rfl (lv_at hl 0 rfl) ?_
    refine lv_bipush (v := 48) C.1 C.2.1 dX10_readSide_58 (by decide) ?_
    refine lv_bipush (v := 9) C.1 C.2.1 dX10_readSide_60 (by decide) ?_
    obtain ⟨⟨x62, M62⟩, hc62, hf⟩ := fm_bd hf
    dsimp only at hf
    refine fm_callV C E [.int _, .int _] [] lm_X10_111 wk_X10_oneOf (c_Model_oneOf l G _ _ _ _ _ hc62) hM_0 rfl rfl rfl hl.1 (by simp [Value.category]) ⟨⟨rfl, rfl⟩, by decide, by decide⟩ ⟨by decide, by decide⟩ dX10_readSide_62 rfl (fun H locs E => ?_)
    refine W.eq (g2 := F0 m 65 ls (.int x62 :: [])) rfl ?_
    refine lv_istore_n (lv' := [(2, .int _), (0, .ref _), (1, .int _)]) C.1 C.2.1 dX10_readSide_65 rfl hl (by decide) rfl (fun ls hl => ?_)
    refine lv_iload_n C.1 C.2.1 dX10_readSide_66 rfl (lv_at hl 2 rfl) ?_
    refine lv_if_eq (tgt := 75) C.1 C.2.1 dX10_readSide_67 (by decide) (fun hc67 => ?_) (fun hc67 => ?_)
    · have hf := fm_ip hf hc67
      refine lv_iload_n C.1 C.2.1 dX10_readSide_75 rfl (lv_at hl 0 rfl) ?_
      obtain ⟨rfl, rfl⟩ := fm_rt2 hf
      exact fm_iret C E rfl rfl dX10_readSide_76
    · have hf := fm_in' hf hc67
      refine lv_iload_n C.1 C.2.1 dX10_readSide_70 rfl (lv_at hl 0 rfl) ?_
      refine lv_ineg C.1 C.2.1 dX10_readSide_71 ?_
      refine lv_goto (tgt := 76) C.1 C.2.1 dX10_readSide_72 (by decide) ?_
      obtain ⟨rfl, rfl⟩ := fm_rt2 hf
      exact fm_iret C E rfl rfl dX10_readSide_76
  have J23 : ∀ (M : fm_M) (s0 : Int32) (H : Heap) (locs : List Loc) (ls : Array Slot), fm_Wd shM G M s H locs → lv_has ls 3 [(0, .ref (G.2.1 0))] → pModel_readSide_J23 M s0 = some (r, M') → W p l e { frames := 3, cells := 0, slots := 0, locals := 63 } s m args below meth c H locs 0 0 (fm_Z below shM G args s (some (.int r)) M') (F0 m 23 ls [.int s0]) := by
    intro M s0 H locs ls E hl hf
    unfold pModel_readSide_J23 at hf
    refine lv_istore_n (lv' := [(1, .int _), (0, .ref _)]) C.1 C.2.1 dX10_readSide_23 rfl hl (by decide) rfl (fun ls hl => ?_)
    refine lv_iload_n C.1 C.2.1 dX10_readSide_24 rfl (lv_at hl 0 rfl) ?_
    refine lv_if_ne (tgt := 47) C.1 C.2.1 dX10_readSide_25 (by decide) (fun hc25 => ?_) (fun hc25 => ?_)
    · have hf := fm_in' hf hc25
      exact J47 _ _ _ _ _ E (lv_sub hl [1, 0] rfl) hf
    · have hf := fm_ip hf hc25
      refine lv_aload_n C.1 C.2.1 dX10_readSide_28 rfl (lv_at hl 1 rfl) ?_
      obtain ⟨x29, hc29, hf⟩ := fm_bd hf
      refine fm_callV C E [] [] lm_X10_103 wk_X10_here (c_Model_here l G _ _  hc29) hM_0 rfl rfl rfl hl.1 (by simp [Value.category]) ⟨⟨rfl, rfl⟩, by decide, by decide⟩ ⟨by decide, by decide⟩ dX10_readSide_29 rfl (fun H locs E => ?_)
      refine W.eq (g2 := F0 m 32 ls (.int x29 :: [])) rfl ?_
      refine lv_bipush (v := 43) C.1 C.2.1 dX10_readSide_32 (by decide) ?_
      refine lv_icmp_eq (tgt := 47) C.1 C.2.1 dX10_readSide_34 (by decide) (fun hc34 => ?_) (fun hc34 => ?_)
      · have hf := fm_ip hf hc34
        exact J47 _ _ _ _ _ E (lv_sub hl [1, 0] rfl) hf
      · have hf := fm_in' hf hc34
        refine lv_aload_n C.1 C.2.1 dX10_readSide_37 rfl (lv_at hl 1 rfl) ?_
        refine lv_aload_n C.1 C.2.1 dX10_readSide_38 rfl (lv_at hl 1 rfl) ?_
        refine fm_geti C E lf_X10_93 hM_0 rfl dX10_readSide_39 ?_
        obtain ⟨M42, hc42, hf⟩ := fm_bd hf
        refine fm_callV C E [.int _] [] lm_X10_107 wk_X10_fault (c_Model_fault l G _ _ _ hc42) hM_0 rfl rfl rfl hl.1 (by simp [Value.category]) ⟨⟨rfl, rfl⟩, by decide, by decide⟩ ⟨by decide, by decide⟩ dX10_readSide_42 rfl (fun H locs E => ?_)
        refine W.eq (g2 := F0 m 45 ls []) rfl ?_
        refine lv_iconst (v := 0) C.1 C.2.1 dX10_readSide_45 (by decide) ?_
        obtain ⟨rfl, rfl⟩ := fm_rt2 hf
        exact fm_iret C E rfl rfl dX10_readSide_46
  unfold pModel_readSide at hf
  refine lv_aload_n C.1 C.2.1 dX10_readSide_0 rfl (lv_at hl 0 rfl) ?_
  obtain ⟨x1, hc1, hf⟩ := fm_bd hf
  refine fm_callV C E [] [] lm_X10_99 wk_X10_fine (c_Model_fine l G _ _  hc1) hM_0 rfl rfl rfl hl.1 (by simp [Value.category]) ⟨⟨rfl, rfl⟩, by decide, by decide⟩ ⟨by decide, by decide⟩ dX10_readSide_1 rfl (fun H locs E => ?_)
  refine W.eq (g2 := F0 m 4 ls (.int x1 :: [])) rfl ?_
  refine lv_if_ne (tgt := 9) C.1 C.2.1 dX10_readSide_4 (by decide) (fun hc4 => ?_) (fun hc4 => ?_)
  · have hf := fm_in' hf hc4
    refine lv_aload_n C.1 C.2.1 dX10_readSide_9 rfl (lv_at hl 0 rfl) ?_
    obtain ⟨x10, hc10, hf⟩ := fm_bd hf
    refine fm_callV C E [] [] lm_X10_103 wk_X10_here (c_Model_here l G _ _  hc10) hM_0 rfl rfl rfl hl.1 (by simp [Value.category]) ⟨⟨rfl, rfl⟩, by decide, by decide⟩ ⟨by decide, by decide⟩ dX10_readSide_10 rfl (fun H locs E => ?_)
    refine W.eq (g2 := F0 m 13 ls (.int x10 :: [])) rfl ?_
    refine lv_bipush (v := 45) C.1 C.2.1 dX10_readSide_13 (by decide) ?_
    refine lv_icmp_ne (tgt := 22) C.1 C.2.1 dX10_readSide_15 (by decide) (fun hc15 => ?_) (fun hc15 => ?_)
    · have hf := fm_in' hf hc15
      refine lv_iconst (v := 0) C.1 C.2.1 dX10_readSide_22 (by decide) ?_
      exact J23 _ _ _ _ _ E (lv_sub hl [0] rfl) hf
    · have hf := fm_ip hf hc15
      refine lv_iconst (v := 1) C.1 C.2.1 dX10_readSide_18 (by decide) ?_
      refine lv_goto (tgt := 23) C.1 C.2.1 dX10_readSide_19 (by decide) ?_
      exact J23 _ _ _ _ _ E (lv_sub hl [0] rfl) hf
  · have hf := fm_ip hf hc4
    refine lv_iconst (v := 0) C.1 C.2.1 dX10_readSide_7 (by decide) ?_
    obtain ⟨rfl, rfl⟩ := fm_rt2 hf
    exact fm_iret C E rfl rfl dX10_readSide_8
theorem dX10_puts_0 : decode cX10_puts 0 = .ok (.aload_n 0, 1) := by decide +kernel
theorem dX10_puts_1 : decode cX10_puts 1 = .ok (.iload_n 1, 1) := by decide +kernel
theorem dX10_puts_2 : decode cX10_puts 2 = .ok (.iload_n 2, 1) := by decide +kernel
theorem dX10_puts_3 : decode cX10_puts 3 = .ok (.iload_n 3, 1) := by decide +kernel
theorem dX10_puts_4 : decode cX10_puts 4 = .ok (.invokevirtual 300, 3) := by decide +kernel
theorem dX10_puts_7 : decode cX10_puts 7 = .ok (.ifCond .ge 5, 3) := by decide +kernel
theorem dX10_puts_10 : decode cX10_puts 10 = .ok (.iconst 0, 1) := by decide +kernel
theorem dX10_puts_11 : decode cX10_puts 11 = .ok (.ireturn, 1) := by decide +kernel
theorem dX10_puts_12 : decode cX10_puts 12 = .ok (.aload_n 0, 1) := by decide +kernel
theorem dX10_puts_13 : decode cX10_puts 13 = .ok (.getfield 9, 3) := by decide +kernel
theorem dX10_puts_16 : decode cX10_puts 16 = .ok (.iconst 1, 1) := by decide +kernel
theorem dX10_puts_17 : decode cX10_puts 17 = .ok (.bipush 6, 2) := by decide +kernel
theorem dX10_puts_19 : decode cX10_puts 19 = .ok (.iload_n 1, 1) := by decide +kernel
theorem dX10_puts_20 : decode cX10_puts 20 = .ok (.imul, 1) := by decide +kernel
theorem dX10_puts_21 : decode cX10_puts 21 = .ok (.iadd, 1) := by decide +kernel
theorem dX10_puts_22 : decode cX10_puts 22 = .ok (.iconst 1, 1) := by decide +kernel
theorem dX10_puts_23 : decode cX10_puts 23 = .ok (.iadd, 1) := by decide +kernel
theorem dX10_puts_24 : decode cX10_puts 24 = .ok (.iload_n 2, 1) := by decide +kernel
theorem dX10_puts_25 : decode cX10_puts 25 = .ok (.iadd, 1) := by decide +kernel
theorem dX10_puts_26 : decode cX10_puts 26 = .ok (.iload_n 3, 1) := by decide +kernel
theorem dX10_puts_27 : decode cX10_puts 27 = .ok (.iastore, 1) := by decide +kernel
theorem dX10_puts_28 : decode cX10_puts 28 = .ok (.iconst 1, 1) := by decide +kernel
theorem dX10_puts_29 : decode cX10_puts 29 = .ok (.ireturn, 1) := by decide +kernel
set_option maxHeartbeats 4000000 in
set_option maxRecDepth 100000 in
theorem c_Model_puts (l : Launch) (G : fm_G) (M : fm_M) (v1 : Int32) (v2 : Int32) (v3 : Int32) (r : Int32) (M' : fm_M) (hf : pModel_puts M v1 v2 v3 = some (r, M')) : fm_Met l yX10_puts cX10_puts 4 (some .boolean) { frames := 3, cells := 0, slots := 0, locals := 66 } shM G [.ref (G.2.1 0), .int v1, .int v2, .int v3] M (some (.int r)) M' := by
  refine fm_enter (by decide) (Nat.le_of_ble_eq_true rfl) ?_
  intro p e s m args below meth c ls C E hl
  have hl : lv_has ls 4 [(0, .ref (G.2.1 0)), (1, .int v1), (2, .int v2), (3, .int v3)] := hl
  unfold pModel_puts at hf
  refine lv_aload_n C.1 C.2.1 dX10_puts_0 rfl (lv_at hl 0 rfl) ?_
  refine lv_iload_n C.1 C.2.1 dX10_puts_1 rfl (lv_at hl 1 rfl) ?_
  refine lv_iload_n C.1 C.2.1 dX10_puts_2 rfl (lv_at hl 2 rfl) ?_
  refine lv_iload_n C.1 C.2.1 dX10_puts_3 rfl (lv_at hl 3 rfl) ?_
  obtain ⟨x4, hc4, hf⟩ := fm_bd hf
  refine fm_callV C E [.int _, .int _, .int _] [] lm_X10_300 wk_X10_refusesSet (c_Model_refusesSet l G _ _ _ _ _  hc4) hM_0 rfl rfl rfl hl.1 (by simp [Value.category]) ⟨⟨rfl, rfl⟩, by decide, by decide⟩ ⟨by decide, by decide⟩ dX10_puts_4 rfl (fun H locs E => ?_)
  refine W.eq (g2 := F0 m 7 ls (.int x4 :: [])) rfl ?_
  refine lv_if_ge (tgt := 12) C.1 C.2.1 dX10_puts_7 (by decide) (fun hc7 => ?_) (fun hc7 => ?_)
  · have hf := fm_ip hf hc7
    refine lv_aload_n C.1 C.2.1 dX10_puts_12 rfl (lv_at hl 0 rfl) ?_
    refine fm_getr C E lf_X10_9 hM_0 rfl dX10_puts_13 ?_
    refine lv_iconst (v := 1) C.1 C.2.1 dX10_puts_16 (by decide) ?_
    refine lv_bipush (v := 6) C.1 C.2.1 dX10_puts_17 (by decide) ?_
    refine lv_iload_n C.1 C.2.1 dX10_puts_19 rfl (lv_at hl 1 rfl) ?_
    refine lv_imul C.1 C.2.1 dX10_puts_20 ?_
    refine lv_iadd C.1 C.2.1 dX10_puts_21 ?_
    refine lv_iconst (v := 1) C.1 C.2.1 dX10_puts_22 (by decide) ?_
    refine lv_iadd C.1 C.2.1 dX10_puts_23 ?_
    refine lv_iload_n C.1 C.2.1 dX10_puts_24 rfl (lv_at hl 2 rfl) ?_
    refine lv_iadd C.1 C.2.1 dX10_puts_25 ?_
    refine lv_iload_n C.1 C.2.1 dX10_puts_26 rfl (lv_at hl 3 rfl) ?_
    obtain ⟨h27, M27, e27, hf⟩ := fm_st_e hf
    refine fm_iast' C E e27 hM_1 h27 dX10_puts_27 (fun H locs E => ?_)
    refine lv_iconst (v := 1) C.1 C.2.1 dX10_puts_28 (by decide) ?_
    obtain ⟨rfl, rfl⟩ := fm_rt2 hf
    exact fm_iret C E rfl rfl dX10_puts_29
  · have hf := fm_in' hf hc7
    refine lv_iconst (v := 0) C.1 C.2.1 dX10_puts_10 (by decide) ?_
    obtain ⟨rfl, rfl⟩ := fm_rt2 hf
    exact fm_iret C E rfl rfl dX10_puts_11
theorem dX10_actHolds_0 : decode cX10_actHolds 0 = .ok (.aload_n 0, 1) := by decide +kernel
theorem dX10_actHolds_1 : decode cX10_actHolds 1 = .ok (.iload_n 1, 1) := by decide +kernel
theorem dX10_actHolds_2 : decode cX10_actHolds 2 = .ok (.iload_n 2, 1) := by decide +kernel
theorem dX10_actHolds_3 : decode cX10_actHolds 3 = .ok (.invokevirtual 303, 3) := by decide +kernel
theorem dX10_actHolds_6 : decode cX10_actHolds 6 = .ok (.ifCond .ge 5, 3) := by decide +kernel
theorem dX10_actHolds_9 : decode cX10_actHolds 9 = .ok (.iconst 0, 1) := by decide +kernel
theorem dX10_actHolds_10 : decode cX10_actHolds 10 = .ok (.ireturn, 1) := by decide +kernel
theorem dX10_actHolds_11 : decode cX10_actHolds 11 = .ok (.aload_n 0, 1) := by decide +kernel
theorem dX10_actHolds_12 : decode cX10_actHolds 12 = .ok (.getfield 9, 3) := by decide +kernel
theorem dX10_actHolds_15 : decode cX10_actHolds 15 = .ok (.bipush 37, 2) := by decide +kernel
theorem dX10_actHolds_17 : decode cX10_actHolds 17 = .ok (.iload_n 1, 1) := by decide +kernel
theorem dX10_actHolds_18 : decode cX10_actHolds 18 = .ok (.iadd, 1) := by decide +kernel
theorem dX10_actHolds_19 : decode cX10_actHolds 19 = .ok (.iload_n 2, 1) := by decide +kernel
theorem dX10_actHolds_20 : decode cX10_actHolds 20 = .ok (.iastore, 1) := by decide +kernel
theorem dX10_actHolds_21 : decode cX10_actHolds 21 = .ok (.iconst 1, 1) := by decide +kernel
theorem dX10_actHolds_22 : decode cX10_actHolds 22 = .ok (.ireturn, 1) := by decide +kernel
set_option maxHeartbeats 4000000 in
set_option maxRecDepth 100000 in
theorem c_Model_actHolds (l : Launch) (G : fm_G) (M : fm_M) (v1 : Int32) (v2 : Int32) (r : Int32) (M' : fm_M) (hf : pModel_actHolds M v1 v2 = some (r, M')) : fm_Met l yX10_actHolds cX10_actHolds 3 (some .boolean) { frames := 2, cells := 0, slots := 0, locals := 44 } shM G [.ref (G.2.1 0), .int v1, .int v2] M (some (.int r)) M' := by
  refine fm_enter (by decide) (Nat.le_of_ble_eq_true rfl) ?_
  intro p e s m args below meth c ls C E hl
  have hl : lv_has ls 3 [(0, .ref (G.2.1 0)), (1, .int v1), (2, .int v2)] := hl
  unfold pModel_actHolds at hf
  refine lv_aload_n C.1 C.2.1 dX10_actHolds_0 rfl (lv_at hl 0 rfl) ?_
  refine lv_iload_n C.1 C.2.1 dX10_actHolds_1 rfl (lv_at hl 1 rfl) ?_
  refine lv_iload_n C.1 C.2.1 dX10_actHolds_2 rfl (lv_at hl 2 rfl) ?_
  obtain ⟨x3, hc3, hf⟩ := fm_bd hf
  refine fm_callV C E [.int _, .int _] [] lm_X10_303 wk_X10_refusesHold (c_Model_refusesHold l G _ _ _ _  hc3) hM_0 rfl rfl rfl hl.1 (by simp [Value.category]) ⟨⟨rfl, rfl⟩, by decide, by decide⟩ ⟨by decide, by decide⟩ dX10_actHolds_3 rfl (fun H locs E => ?_)
  refine W.eq (g2 := F0 m 6 ls (.int x3 :: [])) rfl ?_
  refine lv_if_ge (tgt := 11) C.1 C.2.1 dX10_actHolds_6 (by decide) (fun hc6 => ?_) (fun hc6 => ?_)
  · have hf := fm_ip hf hc6
    refine lv_aload_n C.1 C.2.1 dX10_actHolds_11 rfl (lv_at hl 0 rfl) ?_
    refine fm_getr C E lf_X10_9 hM_0 rfl dX10_actHolds_12 ?_
    refine lv_bipush (v := 37) C.1 C.2.1 dX10_actHolds_15 (by decide) ?_
    refine lv_iload_n C.1 C.2.1 dX10_actHolds_17 rfl (lv_at hl 1 rfl) ?_
    refine lv_iadd C.1 C.2.1 dX10_actHolds_18 ?_
    refine lv_iload_n C.1 C.2.1 dX10_actHolds_19 rfl (lv_at hl 2 rfl) ?_
    obtain ⟨h20, M20, e20, hf⟩ := fm_st_e hf
    refine fm_iast' C E e20 hM_1 h20 dX10_actHolds_20 (fun H locs E => ?_)
    refine lv_iconst (v := 1) C.1 C.2.1 dX10_actHolds_21 (by decide) ?_
    obtain ⟨rfl, rfl⟩ := fm_rt2 hf
    exact fm_iret C E rfl rfl dX10_actHolds_22
  · have hf := fm_in' hf hc6
    refine lv_iconst (v := 0) C.1 C.2.1 dX10_actHolds_9 (by decide) ?_
    obtain ⟨rfl, rfl⟩ := fm_rt2 hf
    exact fm_iret C E rfl rfl dX10_actHolds_10
theorem dX10_act_0 : decode cX10_act 0 = .ok (.aload_n 0, 1) := by decide +kernel
theorem dX10_act_1 : decode cX10_act 1 = .ok (.getfield 21, 3) := by decide +kernel
theorem dX10_act_4 : decode cX10_act 4 = .ok (.iload_n 1, 1) := by decide +kernel
theorem dX10_act_5 : decode cX10_act 5 = .ok (.iconst 1, 1) := by decide +kernel
theorem dX10_act_6 : decode cX10_act 6 = .ok (.iadd, 1) := by decide +kernel
theorem dX10_act_7 : decode cX10_act 7 = .ok (.iaload, 1) := by decide +kernel
theorem dX10_act_8 : decode cX10_act 8 = .ok (.istore_n 2, 1) := by decide +kernel
theorem dX10_act_9 : decode cX10_act 9 = .ok (.aload_n 0, 1) := by decide +kernel
theorem dX10_act_10 : decode cX10_act 10 = .ok (.getfield 21, 3) := by decide +kernel
theorem dX10_act_13 : decode cX10_act 13 = .ok (.iload_n 1, 1) := by decide +kernel
theorem dX10_act_14 : decode cX10_act 14 = .ok (.iconst 2, 1) := by decide +kernel
theorem dX10_act_15 : decode cX10_act 15 = .ok (.iadd, 1) := by decide +kernel
theorem dX10_act_16 : decode cX10_act 16 = .ok (.iaload, 1) := by decide +kernel
theorem dX10_act_17 : decode cX10_act 17 = .ok (.istore_n 3, 1) := by decide +kernel
theorem dX10_act_18 : decode cX10_act 18 = .ok (.aload_n 0, 1) := by decide +kernel
theorem dX10_act_19 : decode cX10_act 19 = .ok (.getfield 21, 3) := by decide +kernel
theorem dX10_act_22 : decode cX10_act 22 = .ok (.iload_n 1, 1) := by decide +kernel
theorem dX10_act_23 : decode cX10_act 23 = .ok (.iaload, 1) := by decide +kernel
theorem dX10_act_24 : decode cX10_act 24 = .ok (.tableswitch 194 97 119 #[154, 147, 140, 124, 194, 194, 108, 194, 194, 194, 194, 181, 194, 194, 132, 194, 194, 194, 194, 194, 194, 194, 116], 108) := by decide +kernel
theorem dX10_act_132 : decode cX10_act 132 = .ok (.aload_n 0, 1) := by decide +kernel
theorem dX10_act_133 : decode cX10_act 133 = .ok (.iload_n 2, 1) := by decide +kernel
theorem dX10_act_134 : decode cX10_act 134 = .ok (.iconst 0, 1) := by decide +kernel
theorem dX10_act_135 : decode cX10_act 135 = .ok (.iload_n 3, 1) := by decide +kernel
theorem dX10_act_136 : decode cX10_act 136 = .ok (.invokevirtual 322, 3) := by decide +kernel
theorem dX10_act_139 : decode cX10_act 139 = .ok (.ireturn, 1) := by decide +kernel
theorem dX10_act_140 : decode cX10_act 140 = .ok (.aload_n 0, 1) := by decide +kernel
theorem dX10_act_141 : decode cX10_act 141 = .ok (.iload_n 2, 1) := by decide +kernel
theorem dX10_act_142 : decode cX10_act 142 = .ok (.iconst 1, 1) := by decide +kernel
theorem dX10_act_143 : decode cX10_act 143 = .ok (.iload_n 3, 1) := by decide +kernel
theorem dX10_act_144 : decode cX10_act 144 = .ok (.invokevirtual 322, 3) := by decide +kernel
theorem dX10_act_147 : decode cX10_act 147 = .ok (.ireturn, 1) := by decide +kernel
theorem dX10_act_148 : decode cX10_act 148 = .ok (.aload_n 0, 1) := by decide +kernel
theorem dX10_act_149 : decode cX10_act 149 = .ok (.iload_n 2, 1) := by decide +kernel
theorem dX10_act_150 : decode cX10_act 150 = .ok (.iconst 3, 1) := by decide +kernel
theorem dX10_act_151 : decode cX10_act 151 = .ok (.iload_n 3, 1) := by decide +kernel
theorem dX10_act_152 : decode cX10_act 152 = .ok (.invokevirtual 322, 3) := by decide +kernel
theorem dX10_act_155 : decode cX10_act 155 = .ok (.ireturn, 1) := by decide +kernel
theorem dX10_act_156 : decode cX10_act 156 = .ok (.aload_n 0, 1) := by decide +kernel
theorem dX10_act_157 : decode cX10_act 157 = .ok (.iload_n 2, 1) := by decide +kernel
theorem dX10_act_158 : decode cX10_act 158 = .ok (.iconst 4, 1) := by decide +kernel
theorem dX10_act_159 : decode cX10_act 159 = .ok (.iload_n 3, 1) := by decide +kernel
theorem dX10_act_160 : decode cX10_act 160 = .ok (.invokevirtual 322, 3) := by decide +kernel
theorem dX10_act_163 : decode cX10_act 163 = .ok (.ireturn, 1) := by decide +kernel
theorem dX10_act_164 : decode cX10_act 164 = .ok (.aload_n 0, 1) := by decide +kernel
theorem dX10_act_165 : decode cX10_act 165 = .ok (.iconst 0, 1) := by decide +kernel
theorem dX10_act_166 : decode cX10_act 166 = .ok (.iload_n 2, 1) := by decide +kernel
theorem dX10_act_167 : decode cX10_act 167 = .ok (.invokevirtual 325, 3) := by decide +kernel
theorem dX10_act_170 : decode cX10_act 170 = .ok (.ireturn, 1) := by decide +kernel
theorem dX10_act_171 : decode cX10_act 171 = .ok (.aload_n 0, 1) := by decide +kernel
theorem dX10_act_172 : decode cX10_act 172 = .ok (.iconst 1, 1) := by decide +kernel
theorem dX10_act_173 : decode cX10_act 173 = .ok (.iload_n 2, 1) := by decide +kernel
theorem dX10_act_174 : decode cX10_act 174 = .ok (.invokevirtual 325, 3) := by decide +kernel
theorem dX10_act_177 : decode cX10_act 177 = .ok (.ireturn, 1) := by decide +kernel
theorem dX10_act_178 : decode cX10_act 178 = .ok (.aload_n 0, 1) := by decide +kernel
theorem dX10_act_179 : decode cX10_act 179 = .ok (.iload_n 2, 1) := by decide +kernel
theorem dX10_act_180 : decode cX10_act 180 = .ok (.iconst 0, 1) := by decide +kernel
theorem dX10_act_181 : decode cX10_act 181 = .ok (.iload_n 3, 1) := by decide +kernel
theorem dX10_act_182 : decode cX10_act 182 = .ok (.invokevirtual 312, 3) := by decide +kernel
theorem dX10_act_185 : decode cX10_act 185 = .ok (.ifCond .ge 5, 3) := by decide +kernel
theorem dX10_act_188 : decode cX10_act 188 = .ok (.iconst 0, 1) := by decide +kernel
theorem dX10_act_189 : decode cX10_act 189 = .ok (.ireturn, 1) := by decide +kernel
theorem dX10_act_190 : decode cX10_act 190 = .ok (.aload_n 0, 1) := by decide +kernel
theorem dX10_act_191 : decode cX10_act 191 = .ok (.getfield 9, 3) := by decide +kernel
theorem dX10_act_194 : decode cX10_act 194 = .ok (.bipush 41, 2) := by decide +kernel
theorem dX10_act_196 : decode cX10_act 196 = .ok (.bipush 15, 2) := by decide +kernel
theorem dX10_act_198 : decode cX10_act 198 = .ok (.iload_n 2, 1) := by decide +kernel
theorem dX10_act_199 : decode cX10_act 199 = .ok (.imul, 1) := by decide +kernel
theorem dX10_act_200 : decode cX10_act 200 = .ok (.iadd, 1) := by decide +kernel
theorem dX10_act_201 : decode cX10_act 201 = .ok (.iload_n 3, 1) := by decide +kernel
theorem dX10_act_202 : decode cX10_act 202 = .ok (.iastore, 1) := by decide +kernel
theorem dX10_act_203 : decode cX10_act 203 = .ok (.iconst 1, 1) := by decide +kernel
theorem dX10_act_204 : decode cX10_act 204 = .ok (.ireturn, 1) := by decide +kernel
theorem dX10_act_205 : decode cX10_act 205 = .ok (.aload_n 0, 1) := by decide +kernel
theorem dX10_act_206 : decode cX10_act 206 = .ok (.invokevirtual 306, 3) := by decide +kernel
theorem dX10_act_209 : decode cX10_act 209 = .ok (.ifCond .lt 7, 3) := by decide +kernel
theorem dX10_act_212 : decode cX10_act 212 = .ok (.iconst 1, 1) := by decide +kernel
theorem dX10_act_213 : decode cX10_act 213 = .ok (.goto 4, 3) := by decide +kernel
theorem dX10_act_216 : decode cX10_act 216 = .ok (.iconst 0, 1) := by decide +kernel
theorem dX10_act_217 : decode cX10_act 217 = .ok (.ireturn, 1) := by decide +kernel
theorem dX10_act_218 : decode cX10_act 218 = .ok (.iload_n 2, 1) := by decide +kernel
theorem dX10_act_219 : decode cX10_act 219 = .ok (.iconst 1, 1) := by decide +kernel
theorem dX10_act_220 : decode cX10_act 220 = .ok (.bipush 48, 2) := by decide +kernel
theorem dX10_act_222 : decode cX10_act 222 = .ok (.invokestatic 83, 3) := by decide +kernel
theorem dX10_act_225 : decode cX10_act 225 = .ok (.ifCond .eq 15, 3) := by decide +kernel
theorem dX10_act_228 : decode cX10_act 228 = .ok (.aload_n 0, 1) := by decide +kernel
theorem dX10_act_229 : decode cX10_act 229 = .ok (.iload_n 2, 1) := by decide +kernel
theorem dX10_act_230 : decode cX10_act 230 = .ok (.invokevirtual 309, 3) := by decide +kernel
theorem dX10_act_233 : decode cX10_act 233 = .ok (.ifCond .lt 7, 3) := by decide +kernel
theorem dX10_act_236 : decode cX10_act 236 = .ok (.iconst 1, 1) := by decide +kernel
theorem dX10_act_237 : decode cX10_act 237 = .ok (.goto 4, 3) := by decide +kernel
theorem dX10_act_240 : decode cX10_act 240 = .ok (.iconst 0, 1) := by decide +kernel
theorem dX10_act_241 : decode cX10_act 241 = .ok (.ireturn, 1) := by decide +kernel
set_option maxHeartbeats 4000000 in
set_option maxRecDepth 100000 in
theorem c_Model_act (l : Launch) (G : fm_G) (N : Nat) (M : fm_M) (v1 : Int32) (r : Int32) (M' : fm_M) (hf : pModel_act N M v1 = some (r, M')) : fm_Met l yX10_act cX10_act 4 (some .boolean) { frames := 6, cells := 0, slots := 0, locals := 140 } shM G [.ref (G.2.1 0), .int v1] M (some (.int r)) M' := by
  refine fm_enter (by decide) (Nat.le_of_ble_eq_true rfl) ?_
  intro p e s m args below meth c ls C E hl
  have hl : lv_has ls 4 [(0, .ref (G.2.1 0)), (1, .int v1)] := hl
  unfold pModel_act at hf
  refine lv_aload_n C.1 C.2.1 dX10_act_0 rfl (lv_at hl 0 rfl) ?_
  refine fm_getr C E lf_X10_21 hM_0 rfl dX10_act_1 ?_
  refine lv_iload_n C.1 C.2.1 dX10_act_4 rfl (lv_at hl 1 rfl) ?_
  refine lv_iconst (v := 1) C.1 C.2.1 dX10_act_5 (by decide) ?_
  refine lv_iadd C.1 C.2.1 dX10_act_6 ?_
  obtain ⟨h7, x7, e7, hf⟩ := fm_ld_e hf
  refine fm_iald' C E e7 hM_4 h7 dX10_act_7 ?_
  refine lv_istore_n (lv' := [(2, .int _), (0, .ref _), (1, .int _)]) C.1 C.2.1 dX10_act_8 rfl hl (by decide) rfl (fun ls hl => ?_)
  refine lv_aload_n C.1 C.2.1 dX10_act_9 rfl (lv_at hl 1 rfl) ?_
  refine fm_getr C E lf_X10_21 hM_0 rfl dX10_act_10 ?_
  refine lv_iload_n C.1 C.2.1 dX10_act_13 rfl (lv_at hl 2 rfl) ?_
  refine lv_iconst (v := 2) C.1 C.2.1 dX10_act_14 (by decide) ?_
  refine lv_iadd C.1 C.2.1 dX10_act_15 ?_
  obtain ⟨h16, x16, e16, hf⟩ := fm_ld_e hf
  refine fm_iald' C E e16 hM_4 h16 dX10_act_16 ?_
  refine lv_istore_n (lv' := [(3, .int _), (2, .int _), (0, .ref _), (1, .int _)]) C.1 C.2.1 dX10_act_17 rfl hl (by decide) rfl (fun ls hl => ?_)
  refine lv_aload_n C.1 C.2.1 dX10_act_18 rfl (lv_at hl 2 rfl) ?_
  refine fm_getr C E lf_X10_21 hM_0 rfl dX10_act_19 ?_
  refine lv_iload_n C.1 C.2.1 dX10_act_22 rfl (lv_at hl 3 rfl) ?_
  obtain ⟨h23, x23, e23, hf⟩ := fm_ld_e hf
  refine fm_iald' C E e23 hM_4 h23 dX10_act_23 ?_
  rcases fm_io hf with ⟨hs24_97, hf⟩ | ⟨hs24_97, hf⟩
  · refine fm_tcase C dX10_act_24 hs24_97 (by decide) (by decide) (off := 154) (by decide) (tgt := 178) (by decide) ?_
    refine lv_aload_n C.1 C.2.1 dX10_act_178 rfl (lv_at hl 2 rfl) ?_
    refine lv_iload_n C.1 C.2.1 dX10_act_179 rfl (lv_at hl 1 rfl) ?_
    refine lv_iconst (v := 0) C.1 C.2.1 dX10_act_180 (by decide) ?_
    refine lv_iload_n C.1 C.2.1 dX10_act_181 rfl (lv_at hl 0 rfl) ?_
    obtain ⟨x182, hc182, hf⟩ := fm_bd hf
    refine fm_callV C E [.int _, .int _, .int _] [] lm_X10_312 wk_X10_refusesAim (c_Model_refusesAim l G _ _ _ _ _  hc182) hM_0 rfl rfl rfl hl.1 (by simp [Value.category]) ⟨⟨rfl, rfl⟩, by decide, by decide⟩ ⟨by decide, by decide⟩ dX10_act_182 rfl (fun H locs E => ?_)
    refine W.eq (g2 := F0 m 185 ls (.int x182 :: [])) rfl ?_
    refine lv_if_ge (tgt := 190) C.1 C.2.1 dX10_act_185 (by decide) (fun hc185 => ?_) (fun hc185 => ?_)
    · have hf := fm_ip hf hc185
      refine lv_aload_n C.1 C.2.1 dX10_act_190 rfl (lv_at hl 2 rfl) ?_
      refine fm_getr C E lf_X10_9 hM_0 rfl dX10_act_191 ?_
      refine lv_bipush (v := 41) C.1 C.2.1 dX10_act_194 (by decide) ?_
      refine lv_bipush (v := 15) C.1 C.2.1 dX10_act_196 (by decide) ?_
      refine lv_iload_n C.1 C.2.1 dX10_act_198 rfl (lv_at hl 1 rfl) ?_
      refine lv_imul C.1 C.2.1 dX10_act_199 ?_
      refine lv_iadd C.1 C.2.1 dX10_act_200 ?_
      refine lv_iload_n C.1 C.2.1 dX10_act_201 rfl (lv_at hl 0 rfl) ?_
      obtain ⟨h202, M202, e202, hf⟩ := fm_st_e hf
      refine fm_iast' C E e202 hM_1 h202 dX10_act_202 (fun H locs E => ?_)
      refine lv_iconst (v := 1) C.1 C.2.1 dX10_act_203 (by decide) ?_
      obtain ⟨rfl, rfl⟩ := fm_rt2 hf
      exact fm_iret C E rfl rfl dX10_act_204
    · have hf := fm_in' hf hc185
      refine lv_iconst (v := 0) C.1 C.2.1 dX10_act_188 (by decide) ?_
      obtain ⟨rfl, rfl⟩ := fm_rt2 hf
      exact fm_iret C E rfl rfl dX10_act_189
  · rcases fm_io hf with ⟨hs24_98, hf⟩ | ⟨hs24_98, hf⟩
    · refine fm_tcase C dX10_act_24 hs24_98 (by decide) (by decide) (off := 147) (by decide) (tgt := 171) (by decide) ?_
      refine lv_aload_n C.1 C.2.1 dX10_act_171 rfl (lv_at hl 2 rfl) ?_
      refine lv_iconst (v := 1) C.1 C.2.1 dX10_act_172 (by decide) ?_
      refine lv_iload_n C.1 C.2.1 dX10_act_173 rfl (lv_at hl 1 rfl) ?_
      obtain ⟨⟨x174, M174⟩, hc174, hf⟩ := fm_bd hf
      dsimp only at hf
      refine fm_callV C E [.int _, .int _] [] lm_X10_325 wk_X10_actHolds (c_Model_actHolds l G _ _ _ _ _ hc174) hM_0 rfl rfl rfl hl.1 (by simp [Value.category]) ⟨⟨rfl, rfl⟩, by decide, by decide⟩ ⟨by decide, by decide⟩ dX10_act_174 rfl (fun H locs E => ?_)
      refine W.eq (g2 := F0 m 177 ls (.int x174 :: [])) rfl ?_
      obtain ⟨hn177, hf⟩ := fm_bo_s hf
      obtain ⟨rfl, rfl⟩ := fm_rt2 hf
      exact fm_iret C E rfl hn177 dX10_act_177
    · rcases fm_io hf with ⟨hs24_99, hf⟩ | ⟨hs24_99, hf⟩
      · refine fm_tcase C dX10_act_24 hs24_99 (by decide) (by decide) (off := 140) (by decide) (tgt := 164) (by decide) ?_
        refine lv_aload_n C.1 C.2.1 dX10_act_164 rfl (lv_at hl 2 rfl) ?_
        refine lv_iconst (v := 0) C.1 C.2.1 dX10_act_165 (by decide) ?_
        refine lv_iload_n C.1 C.2.1 dX10_act_166 rfl (lv_at hl 1 rfl) ?_
        obtain ⟨⟨x167, M167⟩, hc167, hf⟩ := fm_bd hf
        dsimp only at hf
        refine fm_callV C E [.int _, .int _] [] lm_X10_325 wk_X10_actHolds (c_Model_actHolds l G _ _ _ _ _ hc167) hM_0 rfl rfl rfl hl.1 (by simp [Value.category]) ⟨⟨rfl, rfl⟩, by decide, by decide⟩ ⟨by decide, by decide⟩ dX10_act_167 rfl (fun H locs E => ?_)
        refine W.eq (g2 := F0 m 170 ls (.int x167 :: [])) rfl ?_
        obtain ⟨hn170, hf⟩ := fm_bo_s hf
        obtain ⟨rfl, rfl⟩ := fm_rt2 hf
        exact fm_iret C E rfl hn170 dX10_act_170
      · rcases fm_io hf with ⟨hs24_100, hf⟩ | ⟨hs24_100, hf⟩
        · refine fm_tcase C dX10_act_24 hs24_100 (by decide) (by decide) (off := 124) (by decide) (tgt := 148) (by decide) ?_
          refine lv_aload_n C.1 C.2.1 dX10_act_148 rfl (lv_at hl 2 rfl) ?_
          refine lv_iload_n C.1 C.2.1 dX10_act_149 rfl (lv_at hl 1 rfl) ?_
          refine lv_iconst (v := 3) C.1 C.2.1 dX10_act_150 (by decide) ?_
          refine lv_iload_n C.1 C.2.1 dX10_act_151 rfl (lv_at hl 0 rfl) ?_
          obtain ⟨⟨x152, M152⟩, hc152, hf⟩ := fm_bd hf
          dsimp only at hf
          refine fm_callV C E [.int _, .int _, .int _] [] lm_X10_322 wk_X10_puts (c_Model_puts l G _ _ _ _ _ _ hc152) hM_0 rfl rfl rfl hl.1 (by simp [Value.category]) ⟨⟨rfl, rfl⟩, by decide, by decide⟩ ⟨by decide, by decide⟩ dX10_act_152 rfl (fun H locs E => ?_)
          refine W.eq (g2 := F0 m 155 ls (.int x152 :: [])) rfl ?_
          obtain ⟨hn155, hf⟩ := fm_bo_s hf
          obtain ⟨rfl, rfl⟩ := fm_rt2 hf
          exact fm_iret C E rfl hn155 dX10_act_155
        · rcases fm_io hf with ⟨hs24_103, hf⟩ | ⟨hs24_103, hf⟩
          · refine fm_tcase C dX10_act_24 hs24_103 (by decide) (by decide) (off := 108) (by decide) (tgt := 132) (by decide) ?_
            refine lv_aload_n C.1 C.2.1 dX10_act_132 rfl (lv_at hl 2 rfl) ?_
            refine lv_iload_n C.1 C.2.1 dX10_act_133 rfl (lv_at hl 1 rfl) ?_
            refine lv_iconst (v := 0) C.1 C.2.1 dX10_act_134 (by decide) ?_
            refine lv_iload_n C.1 C.2.1 dX10_act_135 rfl (lv_at hl 0 rfl) ?_
            obtain ⟨⟨x136, M136⟩, hc136, hf⟩ := fm_bd hf
            dsimp only at hf
            refine fm_callV C E [.int _, .int _, .int _] [] lm_X10_322 wk_X10_puts (c_Model_puts l G _ _ _ _ _ _ hc136) hM_0 rfl rfl rfl hl.1 (by simp [Value.category]) ⟨⟨rfl, rfl⟩, by decide, by decide⟩ ⟨by decide, by decide⟩ dX10_act_136 rfl (fun H locs E => ?_)
            refine W.eq (g2 := F0 m 139 ls (.int x136 :: [])) rfl ?_
            obtain ⟨hn139, hf⟩ := fm_bo_s hf
            obtain ⟨rfl, rfl⟩ := fm_rt2 hf
            exact fm_iret C E rfl hn139 dX10_act_139
          · rcases fm_io hf with ⟨hs24_108, hf⟩ | ⟨hs24_108, hf⟩
            · refine fm_tcase C dX10_act_24 hs24_108 (by decide) (by decide) (off := 181) (by decide) (tgt := 205) (by decide) ?_
              refine lv_aload_n C.1 C.2.1 dX10_act_205 rfl (lv_at hl 2 rfl) ?_
              obtain ⟨⟨x206, M206⟩, hc206, hf⟩ := fm_bd hf
              dsimp only at hf
              refine fm_callV C E [] [] lm_X10_306 wk_X10_goLearn (c_Model_goLearn l G N _ _ _ hc206) hM_0 rfl rfl rfl hl.1 (by simp [Value.category]) ⟨⟨rfl, rfl⟩, by decide, by decide⟩ ⟨by decide, by decide⟩ dX10_act_206 rfl (fun H locs E => ?_)
              refine W.eq (g2 := F0 m 209 ls (.int x206 :: [])) rfl ?_
              refine lv_if_lt (tgt := 216) C.1 C.2.1 dX10_act_209 (by decide) (fun hc209 => ?_) (fun hc209 => ?_)
              · have hf := fm_ip hf hc209
                refine lv_iconst (v := 0) C.1 C.2.1 dX10_act_216 (by decide) ?_
                obtain ⟨rfl, rfl⟩ := fm_rt2 hf
                exact fm_iret C E rfl rfl dX10_act_217
              · have hf := fm_in' hf hc209
                refine lv_iconst (v := 1) C.1 C.2.1 dX10_act_212 (by decide) ?_
                refine lv_goto (tgt := 217) C.1 C.2.1 dX10_act_213 (by decide) ?_
                obtain ⟨rfl, rfl⟩ := fm_rt2 hf
                exact fm_iret C E rfl rfl dX10_act_217
            · rcases fm_io hf with ⟨hs24_111, hf⟩ | ⟨hs24_111, hf⟩
              · refine fm_tcase C dX10_act_24 hs24_111 (by decide) (by decide) (off := 132) (by decide) (tgt := 156) (by decide) ?_
                refine lv_aload_n C.1 C.2.1 dX10_act_156 rfl (lv_at hl 2 rfl) ?_
                refine lv_iload_n C.1 C.2.1 dX10_act_157 rfl (lv_at hl 1 rfl) ?_
                refine lv_iconst (v := 4) C.1 C.2.1 dX10_act_158 (by decide) ?_
                refine lv_iload_n C.1 C.2.1 dX10_act_159 rfl (lv_at hl 0 rfl) ?_
                obtain ⟨⟨x160, M160⟩, hc160, hf⟩ := fm_bd hf
                dsimp only at hf
                refine fm_callV C E [.int _, .int _, .int _] [] lm_X10_322 wk_X10_puts (c_Model_puts l G _ _ _ _ _ _ hc160) hM_0 rfl rfl rfl hl.1 (by simp [Value.category]) ⟨⟨rfl, rfl⟩, by decide, by decide⟩ ⟨by decide, by decide⟩ dX10_act_160 rfl (fun H locs E => ?_)
                refine W.eq (g2 := F0 m 163 ls (.int x160 :: [])) rfl ?_
                obtain ⟨hn163, hf⟩ := fm_bo_s hf
                obtain ⟨rfl, rfl⟩ := fm_rt2 hf
                exact fm_iret C E rfl hn163 dX10_act_163
              · rcases fm_io hf with ⟨hs24_119, hf⟩ | ⟨hs24_119, hf⟩
                · refine fm_tcase C dX10_act_24 hs24_119 (by decide) (by decide) (off := 116) (by decide) (tgt := 140) (by decide) ?_
                  refine lv_aload_n C.1 C.2.1 dX10_act_140 rfl (lv_at hl 2 rfl) ?_
                  refine lv_iload_n C.1 C.2.1 dX10_act_141 rfl (lv_at hl 1 rfl) ?_
                  refine lv_iconst (v := 1) C.1 C.2.1 dX10_act_142 (by decide) ?_
                  refine lv_iload_n C.1 C.2.1 dX10_act_143 rfl (lv_at hl 0 rfl) ?_
                  obtain ⟨⟨x144, M144⟩, hc144, hf⟩ := fm_bd hf
                  dsimp only at hf
                  refine fm_callV C E [.int _, .int _, .int _] [] lm_X10_322 wk_X10_puts (c_Model_puts l G _ _ _ _ _ _ hc144) hM_0 rfl rfl rfl hl.1 (by simp [Value.category]) ⟨⟨rfl, rfl⟩, by decide, by decide⟩ ⟨by decide, by decide⟩ dX10_act_144 rfl (fun H locs E => ?_)
                  refine W.eq (g2 := F0 m 147 ls (.int x144 :: [])) rfl ?_
                  obtain ⟨hn147, hf⟩ := fm_bo_s hf
                  obtain ⟨rfl, rfl⟩ := fm_rt2 hf
                  exact fm_iret C E rfl hn147 dX10_act_147
                · refine fm_tdef C dX10_act_24 [97, 98, 99, 100, 103, 108, 111, 119] (by intro v hv; rcases List.mem_cons.mp hv with rfl | hv; exact lv_neT hs24_97 (by decide); rcases List.mem_cons.mp hv with rfl | hv; exact lv_neT hs24_98 (by decide); rcases List.mem_cons.mp hv with rfl | hv; exact lv_neT hs24_99 (by decide); rcases List.mem_cons.mp hv with rfl | hv; exact lv_neT hs24_100 (by decide); rcases List.mem_cons.mp hv with rfl | hv; exact lv_neT hs24_103 (by decide); rcases List.mem_cons.mp hv with rfl | hv; exact lv_neT hs24_108 (by decide); rcases List.mem_cons.mp hv with rfl | hv; exact lv_neT hs24_111 (by decide); rcases List.mem_cons.mp hv with rfl | hv; exact lv_neT hs24_119 (by decide); exact absurd hv (by simp)) (by decide) (by decide) (tgt := 218) (by decide) ?_
                  refine lv_iload_n C.1 C.2.1 dX10_act_218 rfl (lv_at hl 1 rfl) ?_
                  refine lv_iconst (v := 1) C.1 C.2.1 dX10_act_219 (by decide) ?_
                  refine lv_bipush (v := 48) C.1 C.2.1 dX10_act_220 (by decide) ?_
                  obtain ⟨x222, hc222, hf⟩ := fm_bd hf
                  refine fm_callS C E [.int _, .int _, .int _] [] lm_X10_83 wk_X10_in (c_Model_in l G _ _ _ _ _  hc222) rfl hl.1 (by simp [Value.category]) ⟨⟨rfl, rfl⟩, by decide, by decide⟩ ⟨by decide, by decide⟩ dX10_act_222 rfl (fun H locs E => ?_)
                  refine W.eq (g2 := F0 m 225 ls (.int x222 :: [])) rfl ?_
                  refine lv_if_eq (tgt := 240) C.1 C.2.1 dX10_act_225 (by decide) (fun hc225 => ?_) (fun hc225 => ?_)
                  · have hf := fm_ip hf hc225
                    refine lv_iconst (v := 0) C.1 C.2.1 dX10_act_240 (by decide) ?_
                    obtain ⟨rfl, rfl⟩ := fm_rt2 hf
                    exact fm_iret C E rfl rfl dX10_act_241
                  · have hf := fm_in' hf hc225
                    refine lv_aload_n C.1 C.2.1 dX10_act_228 rfl (lv_at hl 2 rfl) ?_
                    refine lv_iload_n C.1 C.2.1 dX10_act_229 rfl (lv_at hl 1 rfl) ?_
                    obtain ⟨⟨x230, M230⟩, hc230, hf⟩ := fm_bd hf
                    dsimp only at hf
                    refine fm_callV C E [.int _] [] lm_X10_309 wk_X10_goSort (c_Model_goSort l G N _ _ _ _ hc230) hM_0 rfl rfl rfl hl.1 (by simp [Value.category]) ⟨⟨rfl, rfl⟩, by decide, by decide⟩ ⟨by decide, by decide⟩ dX10_act_230 rfl (fun H locs E => ?_)
                    refine W.eq (g2 := F0 m 233 ls (.int x230 :: [])) rfl ?_
                    refine lv_if_lt (tgt := 240) C.1 C.2.1 dX10_act_233 (by decide) (fun hc233 => ?_) (fun hc233 => ?_)
                    · have hf := fm_ip hf hc233
                      refine lv_iconst (v := 0) C.1 C.2.1 dX10_act_240 (by decide) ?_
                      obtain ⟨rfl, rfl⟩ := fm_rt2 hf
                      exact fm_iret C E rfl rfl dX10_act_241
                    · have hf := fm_in' hf hc233
                      refine lv_iconst (v := 1) C.1 C.2.1 dX10_act_236 (by decide) ?_
                      refine lv_goto (tgt := 241) C.1 C.2.1 dX10_act_237 (by decide) ?_
                      obtain ⟨rfl, rfl⟩ := fm_rt2 hf
                      exact fm_iret C E rfl rfl dX10_act_241
theorem dX10_undo_0 : decode cX10_undo 0 = .ok (.aload_n 0, 1) := by decide +kernel
theorem dX10_undo_1 : decode cX10_undo 1 = .ok (.iconst 0, 1) := by decide +kernel
theorem dX10_undo_2 : decode cX10_undo 2 = .ok (.putfield 77, 3) := by decide +kernel
theorem dX10_undo_5 : decode cX10_undo 5 = .ok (.aload_n 0, 1) := by decide +kernel
theorem dX10_undo_6 : decode cX10_undo 6 = .ok (.getfield 291, 3) := by decide +kernel
theorem dX10_undo_9 : decode cX10_undo 9 = .ok (.ifCond .ne 5, 3) := by decide +kernel
theorem dX10_undo_12 : decode cX10_undo 12 = .ok (.iconst (-1), 1) := by decide +kernel
theorem dX10_undo_13 : decode cX10_undo 13 = .ok (.ireturn, 1) := by decide +kernel
theorem dX10_undo_14 : decode cX10_undo 14 = .ok (.aload_n 0, 1) := by decide +kernel
theorem dX10_undo_15 : decode cX10_undo 15 = .ok (.dup, 1) := by decide +kernel
theorem dX10_undo_16 : decode cX10_undo 16 = .ok (.getfield 291, 3) := by decide +kernel
theorem dX10_undo_19 : decode cX10_undo 19 = .ok (.iconst 1, 1) := by decide +kernel
theorem dX10_undo_20 : decode cX10_undo 20 = .ok (.isub, 1) := by decide +kernel
theorem dX10_undo_21 : decode cX10_undo 21 = .ok (.putfield 291, 3) := by decide +kernel
theorem dX10_undo_24 : decode cX10_undo 24 = .ok (.iconst 0, 1) := by decide +kernel
theorem dX10_undo_25 : decode cX10_undo 25 = .ok (.istore_n 1, 1) := by decide +kernel
theorem dX10_undo_26 : decode cX10_undo 26 = .ok (.iload_n 1, 1) := by decide +kernel
theorem dX10_undo_27 : decode cX10_undo 27 = .ok (.bipush 101, 2) := by decide +kernel
theorem dX10_undo_29 : decode cX10_undo 29 = .ok (.if_icmp .ge 29, 3) := by decide +kernel
theorem dX10_undo_32 : decode cX10_undo 32 = .ok (.aload_n 0, 1) := by decide +kernel
theorem dX10_undo_33 : decode cX10_undo 33 = .ok (.getfield 9, 3) := by decide +kernel
theorem dX10_undo_36 : decode cX10_undo 36 = .ok (.iload_n 1, 1) := by decide +kernel
theorem dX10_undo_37 : decode cX10_undo 37 = .ok (.aload_n 0, 1) := by decide +kernel
theorem dX10_undo_38 : decode cX10_undo 38 = .ok (.getfield 58, 3) := by decide +kernel
theorem dX10_undo_41 : decode cX10_undo 41 = .ok (.bipush 101, 2) := by decide +kernel
theorem dX10_undo_43 : decode cX10_undo 43 = .ok (.aload_n 0, 1) := by decide +kernel
theorem dX10_undo_44 : decode cX10_undo 44 = .ok (.getfield 291, 3) := by decide +kernel
theorem dX10_undo_47 : decode cX10_undo 47 = .ok (.imul, 1) := by decide +kernel
theorem dX10_undo_48 : decode cX10_undo 48 = .ok (.iload_n 1, 1) := by decide +kernel
theorem dX10_undo_49 : decode cX10_undo 49 = .ok (.iadd, 1) := by decide +kernel
theorem dX10_undo_50 : decode cX10_undo 50 = .ok (.iaload, 1) := by decide +kernel
theorem dX10_undo_51 : decode cX10_undo 51 = .ok (.iastore, 1) := by decide +kernel
theorem dX10_undo_52 : decode cX10_undo 52 = .ok (.iinc 1 1, 3) := by decide +kernel
theorem dX10_undo_55 : decode cX10_undo 55 = .ok (.goto (-29), 3) := by decide +kernel
theorem dX10_undo_58 : decode cX10_undo 58 = .ok (.aload_n 0, 1) := by decide +kernel
theorem dX10_undo_59 : decode cX10_undo 59 = .ok (.getfield 291, 3) := by decide +kernel
theorem dX10_undo_62 : decode cX10_undo 62 = .ok (.ireturn, 1) := by decide +kernel
set_option maxHeartbeats 4000000 in
set_option maxRecDepth 100000 in
theorem c_Model_undo (l : Launch) (G : fm_G) (N : Nat) (M : fm_M) (r : Int32) (M' : fm_M) (hf : pModel_undo N M = some (r, M')) : fm_Met l yX10_undo cX10_undo 2 (some .int) { frames := 0, cells := 0, slots := 0, locals := 0 } shM G [.ref (G.2.1 0)] M (some (.int r)) M' := by
  refine fm_enter (by decide) (Nat.le_of_ble_eq_true rfl) ?_
  intro p e s m args below meth c ls C E hl
  have hl : lv_has ls 2 [(0, .ref (G.2.1 0))] := hl
  have L26 : ∀ (n26 : Nat) (v1 : Int32) (M : fm_M) (H : Heap) (locs : List Loc) (ls : Array Slot), fm_Wd shM G M s H locs → lv_has ls 2 [(0, .ref (G.2.1 0)), (1, .int v1)] → fm_lp (pModel_undo_L26 N) n26 (v1, M) = some (r, M') → W p l e { frames := 0, cells := 0, slots := 0, locals := 0 } s m args below meth c H locs 0 0 (fm_Z below shM G args s (some (.int r)) M') (F0 m 26 ls []) := by
    intro  n26
    induction n26 with
    | zero => intro v1 M H locs ls E hl hf; exact fm_lp_0 hf
    | succ n26 ih26 =>
      intro v1 M H locs ls E hl hf
      have hf : pModel_undo_L26b N (fm_lp (pModel_undo_L26 N) n26) v1 M = some (r, M') := hf
      unfold pModel_undo_L26b at hf
      refine lv_iload_n C.1 C.2.1 dX10_undo_26 rfl (lv_at hl 1 rfl) ?_
      refine lv_bipush (v := 101) C.1 C.2.1 dX10_undo_27 (by decide) ?_
      refine lv_icmp_ge (tgt := 58) C.1 C.2.1 dX10_undo_29 (by decide) (fun hc29 => ?_) (fun hc29 => ?_)
      · have hf := fm_ip hf hc29
        refine lv_aload_n C.1 C.2.1 dX10_undo_58 rfl (lv_at hl 0 rfl) ?_
        refine fm_geti C E lf_X10_291 hM_0 rfl dX10_undo_59 ?_
        obtain ⟨rfl, rfl⟩ := fm_rt2 hf
        exact fm_iret C E rfl rfl dX10_undo_62
      · have hf := fm_in' hf hc29
        refine lv_aload_n C.1 C.2.1 dX10_undo_32 rfl (lv_at hl 0 rfl) ?_
        refine fm_getr C E lf_X10_9 hM_0 rfl dX10_undo_33 ?_
        refine lv_iload_n C.1 C.2.1 dX10_undo_36 rfl (lv_at hl 1 rfl) ?_
        refine lv_aload_n C.1 C.2.1 dX10_undo_37 rfl (lv_at hl 0 rfl) ?_
        refine fm_getr C E lf_X10_58 hM_0 rfl dX10_undo_38 ?_
        refine lv_bipush (v := 101) C.1 C.2.1 dX10_undo_41 (by decide) ?_
        refine lv_aload_n C.1 C.2.1 dX10_undo_43 rfl (lv_at hl 0 rfl) ?_
        refine fm_geti C E lf_X10_291 hM_0 rfl dX10_undo_44 ?_
        refine lv_imul C.1 C.2.1 dX10_undo_47 ?_
        refine lv_iload_n C.1 C.2.1 dX10_undo_48 rfl (lv_at hl 1 rfl) ?_
        refine lv_iadd C.1 C.2.1 dX10_undo_49 ?_
        obtain ⟨h50, x50, e50, hf⟩ := fm_ld_e hf
        refine fm_iald' C E e50 hM_13 h50 dX10_undo_50 ?_
        obtain ⟨h51, M51, e51, hf⟩ := fm_st_e hf
        refine fm_iast' C E e51 hM_1 h51 dX10_undo_51 (fun H locs E => ?_)
        refine fm_iinc C (v := 1) (lv' := [(1, .int _), (0, .ref _)]) (k := 1) hl rfl (by decide) (by decide) rfl dX10_undo_52 (fun ls hl => ?_)
        refine lv_goto (tgt := 26) C.1 C.2.1 dX10_undo_55 (by decide) ?_
        exact ih26 _ _ _ _ _ E (lv_sub hl [1, 0] rfl) hf
  unfold pModel_undo at hf
  refine lv_aload_n C.1 C.2.1 dX10_undo_0 rfl (lv_at hl 0 rfl) ?_
  refine lv_iconst (v := 0) C.1 C.2.1 dX10_undo_1 (by decide) ?_
  obtain ⟨M2, e2, hf⟩ := fm_pt_s hf
  refine fm_put' C E e2 lp_X10_77 hM_0 rfl dX10_undo_2 (fun H locs E => ?_)
  refine lv_aload_n C.1 C.2.1 dX10_undo_5 rfl (lv_at hl 0 rfl) ?_
  refine fm_geti C E lf_X10_291 hM_0 rfl dX10_undo_6 ?_
  refine lv_if_ne (tgt := 14) C.1 C.2.1 dX10_undo_9 (by decide) (fun hc9 => ?_) (fun hc9 => ?_)
  · have hf := fm_in' hf hc9
    refine lv_aload_n C.1 C.2.1 dX10_undo_14 rfl (lv_at hl 0 rfl) ?_
    refine lv_dup C.1 C.2.1 dX10_undo_15 rfl ?_
    refine fm_geti C E lf_X10_291 hM_0 rfl dX10_undo_16 ?_
    refine lv_iconst (v := 1) C.1 C.2.1 dX10_undo_19 (by decide) ?_
    refine lv_isub C.1 C.2.1 dX10_undo_20 ?_
    obtain ⟨M21, e21, hf⟩ := fm_pt_s hf
    refine fm_put' C E e21 lp_X10_291 hM_0 rfl dX10_undo_21 (fun H locs E => ?_)
    refine lv_iconst (v := 0) C.1 C.2.1 dX10_undo_24 (by decide) ?_
    refine lv_istore_n (lv' := [(1, .int _), (0, .ref _)]) C.1 C.2.1 dX10_undo_25 rfl hl (by decide) rfl (fun ls hl => ?_)
    exact L26  N _ _ _ _ _ E (lv_sub hl [1, 0] rfl) hf
  · have hf := fm_ip hf hc9
    refine lv_iconst (v := (-1)) C.1 C.2.1 dX10_undo_12 (by decide) ?_
    obtain ⟨rfl, rfl⟩ := fm_rt2 hf
    exact fm_iret C E rfl rfl dX10_undo_13
theorem dX10_draw_0 : decode cX10_draw 0 = .ok (.aload_n 0, 1) := by decide +kernel
theorem dX10_draw_1 : decode cX10_draw 1 = .ok (.aload_n 0, 1) := by decide +kernel
theorem dX10_draw_2 : decode cX10_draw 2 = .ok (.getfield 334, 3) := by decide +kernel
theorem dX10_draw_5 : decode cX10_draw 5 = .ok (.ldc_w 337, 3) := by decide +kernel
theorem dX10_draw_8 : decode cX10_draw 8 = .ok (.imul, 1) := by decide +kernel
theorem dX10_draw_9 : decode cX10_draw 9 = .ok (.sipush 12345, 3) := by decide +kernel
theorem dX10_draw_12 : decode cX10_draw 12 = .ok (.iadd, 1) := by decide +kernel
theorem dX10_draw_13 : decode cX10_draw 13 = .ok (.putfield 334, 3) := by decide +kernel
theorem dX10_draw_16 : decode cX10_draw 16 = .ok (.aload_n 0, 1) := by decide +kernel
theorem dX10_draw_17 : decode cX10_draw 17 = .ok (.getfield 334, 3) := by decide +kernel
theorem dX10_draw_20 : decode cX10_draw 20 = .ok (.bipush 16, 2) := by decide +kernel
theorem dX10_draw_22 : decode cX10_draw 22 = .ok (.iushr, 1) := by decide +kernel
theorem dX10_draw_23 : decode cX10_draw 23 = .ok (.iload_n 1, 1) := by decide +kernel
theorem dX10_draw_24 : decode cX10_draw 24 = .ok (.irem, 1) := by decide +kernel
theorem dX10_draw_25 : decode cX10_draw 25 = .ok (.ireturn, 1) := by decide +kernel
set_option maxHeartbeats 4000000 in
set_option maxRecDepth 100000 in
theorem c_Model_draw (l : Launch) (G : fm_G) (M : fm_M) (v1 : Int32) (r : Int32) (M' : fm_M) (hf : pModel_draw M v1 = some (r, M')) : fm_Met l yX10_draw cX10_draw 2 (some .int) { frames := 0, cells := 0, slots := 0, locals := 0 } shM G [.ref (G.2.1 0), .int v1] M (some (.int r)) M' := by
  refine fm_enter (by decide) (Nat.le_of_ble_eq_true rfl) ?_
  intro p e s m args below meth c ls C E hl
  have hl : lv_has ls 2 [(0, .ref (G.2.1 0)), (1, .int v1)] := hl
  unfold pModel_draw at hf
  refine lv_aload_n C.1 C.2.1 dX10_draw_0 rfl (lv_at hl 0 rfl) ?_
  refine lv_aload_n C.1 C.2.1 dX10_draw_1 rfl (lv_at hl 0 rfl) ?_
  refine fm_geti C E lf_X10_334 hM_0 rfl dX10_draw_2 ?_
  refine lv_ldcw C.1 C.2.1 C.2.2.2.1 (C.2.2.2.2.1 _ wc_1681) dX10_draw_5 ?_
  refine lv_imul C.1 C.2.1 dX10_draw_8 ?_
  refine lv_sipush (v := 12345) C.1 C.2.1 dX10_draw_9 (by decide) ?_
  refine lv_iadd C.1 C.2.1 dX10_draw_12 ?_
  obtain ⟨M13, e13, hf⟩ := fm_pt_s hf
  refine fm_put' C E e13 lp_X10_334 hM_0 rfl dX10_draw_13 (fun H locs E => ?_)
  refine lv_aload_n C.1 C.2.1 dX10_draw_16 rfl (lv_at hl 0 rfl) ?_
  refine fm_geti C E lf_X10_334 hM_0 rfl dX10_draw_17 ?_
  refine lv_bipush (v := 16) C.1 C.2.1 dX10_draw_20 (by decide) ?_
  refine lv_iushr C.1 C.2.1 dX10_draw_22 rfl ?_
  refine lv_iload_n C.1 C.2.1 dX10_draw_23 rfl (lv_at hl 1 rfl) ?_
  obtain ⟨hz24, hf⟩ := fm_nz_s hf
  refine lv_irem C.1 C.2.1 dX10_draw_24 hz24 ?_
  obtain ⟨rfl, rfl⟩ := fm_rt2 hf
  exact fm_iret C E rfl rfl dX10_draw_25
theorem dX10_years_0 : decode cX10_years 0 = .ok (.aload_n 0, 1) := by decide +kernel
theorem dX10_years_1 : decode cX10_years 1 = .ok (.iconst 0, 1) := by decide +kernel
theorem dX10_years_2 : decode cX10_years 2 = .ok (.putfield 77, 3) := by decide +kernel
theorem dX10_years_5 : decode cX10_years 5 = .ok (.iload_n 2, 1) := by decide +kernel
theorem dX10_years_6 : decode cX10_years 6 = .ok (.iconst 1, 1) := by decide +kernel
theorem dX10_years_7 : decode cX10_years 7 = .ok (.bipush 30, 2) := by decide +kernel
theorem dX10_years_9 : decode cX10_years 9 = .ok (.invokestatic 83, 3) := by decide +kernel
theorem dX10_years_12 : decode cX10_years 12 = .ok (.ifCond .ne 5, 3) := by decide +kernel
theorem dX10_years_15 : decode cX10_years 15 = .ok (.iconst (-1), 1) := by decide +kernel
theorem dX10_years_16 : decode cX10_years 16 = .ok (.ireturn, 1) := by decide +kernel
theorem dX10_years_17 : decode cX10_years 17 = .ok (.aload_n 0, 1) := by decide +kernel
theorem dX10_years_18 : decode cX10_years 18 = .ok (.iload_n 1, 1) := by decide +kernel
theorem dX10_years_19 : decode cX10_years 19 = .ok (.putfield 334, 3) := by decide +kernel
theorem dX10_years_22 : decode cX10_years 22 = .ok (.iconst 0, 1) := by decide +kernel
theorem dX10_years_23 : decode cX10_years 23 = .ok (.istore_n 3, 1) := by decide +kernel
theorem dX10_years_24 : decode cX10_years 24 = .ok (.iload_n 3, 1) := by decide +kernel
theorem dX10_years_25 : decode cX10_years 25 = .ok (.bipush 101, 2) := by decide +kernel
theorem dX10_years_27 : decode cX10_years 27 = .ok (.if_icmp .ge 21, 3) := by decide +kernel
theorem dX10_years_30 : decode cX10_years 30 = .ok (.aload_n 0, 1) := by decide +kernel
theorem dX10_years_31 : decode cX10_years 31 = .ok (.getfield 67, 3) := by decide +kernel
theorem dX10_years_34 : decode cX10_years 34 = .ok (.iload_n 3, 1) := by decide +kernel
theorem dX10_years_35 : decode cX10_years 35 = .ok (.aload_n 0, 1) := by decide +kernel
theorem dX10_years_36 : decode cX10_years 36 = .ok (.getfield 9, 3) := by decide +kernel
theorem dX10_years_39 : decode cX10_years 39 = .ok (.iload_n 3, 1) := by decide +kernel
theorem dX10_years_40 : decode cX10_years 40 = .ok (.iaload, 1) := by decide +kernel
theorem dX10_years_41 : decode cX10_years 41 = .ok (.iastore, 1) := by decide +kernel
theorem dX10_years_42 : decode cX10_years 42 = .ok (.iinc 3 1, 3) := by decide +kernel
theorem dX10_years_45 : decode cX10_years 45 = .ok (.goto (-21), 3) := by decide +kernel
theorem dX10_years_48 : decode cX10_years 48 = .ok (.iconst 0, 1) := by decide +kernel
theorem dX10_years_49 : decode cX10_years 49 = .ok (.istore_n 3, 1) := by decide +kernel
theorem dX10_years_50 : decode cX10_years 50 = .ok (.iconst 0, 1) := by decide +kernel
theorem dX10_years_51 : decode cX10_years 51 = .ok (.istore 4, 2) := by decide +kernel
theorem dX10_years_53 : decode cX10_years 53 = .ok (.iload 4, 2) := by decide +kernel
theorem dX10_years_55 : decode cX10_years 55 = .ok (.iload_n 2, 1) := by decide +kernel
theorem dX10_years_56 : decode cX10_years 56 = .ok (.if_icmp .ge 102, 3) := by decide +kernel
theorem dX10_years_59 : decode cX10_years 59 = .ok (.aload_n 0, 1) := by decide +kernel
theorem dX10_years_60 : decode cX10_years 60 = .ok (.iconst 3, 1) := by decide +kernel
theorem dX10_years_61 : decode cX10_years 61 = .ok (.invokevirtual 338, 3) := by decide +kernel
theorem dX10_years_64 : decode cX10_years 64 = .ok (.istore 5, 2) := by decide +kernel
theorem dX10_years_66 : decode cX10_years 66 = .ok (.aload_n 0, 1) := by decide +kernel
theorem dX10_years_67 : decode cX10_years 67 = .ok (.bipush 6, 2) := by decide +kernel
theorem dX10_years_69 : decode cX10_years 69 = .ok (.invokevirtual 338, 3) := by decide +kernel
theorem dX10_years_72 : decode cX10_years 72 = .ok (.istore 6, 2) := by decide +kernel
theorem dX10_years_74 : decode cX10_years 74 = .ok (.iload 5, 2) := by decide +kernel
theorem dX10_years_76 : decode cX10_years 76 = .ok (.ifCond .ne 12, 3) := by decide +kernel
theorem dX10_years_79 : decode cX10_years 79 = .ok (.aload_n 0, 1) := by decide +kernel
theorem dX10_years_80 : decode cX10_years 80 = .ok (.bipush 10, 2) := by decide +kernel
theorem dX10_years_82 : decode cX10_years 82 = .ok (.invokevirtual 338, 3) := by decide +kernel
theorem dX10_years_85 : decode cX10_years 85 = .ok (.goto 26, 3) := by decide +kernel
theorem dX10_years_88 : decode cX10_years 88 = .ok (.iload 5, 2) := by decide +kernel
theorem dX10_years_90 : decode cX10_years 90 = .ok (.iconst 1, 1) := by decide +kernel
theorem dX10_years_91 : decode cX10_years 91 = .ok (.if_icmp .ne 11, 3) := by decide +kernel
theorem dX10_years_94 : decode cX10_years 94 = .ok (.aload_n 0, 1) := by decide +kernel
theorem dX10_years_95 : decode cX10_years 95 = .ok (.iconst 2, 1) := by decide +kernel
theorem dX10_years_96 : decode cX10_years 96 = .ok (.invokevirtual 338, 3) := by decide +kernel
theorem dX10_years_99 : decode cX10_years 99 = .ok (.goto 12, 3) := by decide +kernel
theorem dX10_years_102 : decode cX10_years 102 = .ok (.aload_n 0, 1) := by decide +kernel
theorem dX10_years_103 : decode cX10_years 103 = .ok (.sipush 300, 3) := by decide +kernel
theorem dX10_years_106 : decode cX10_years 106 = .ok (.invokevirtual 338, 3) := by decide +kernel
theorem dX10_years_109 : decode cX10_years 109 = .ok (.iconst 1, 1) := by decide +kernel
theorem dX10_years_110 : decode cX10_years 110 = .ok (.iadd, 1) := by decide +kernel
theorem dX10_years_111 : decode cX10_years 111 = .ok (.istore 7, 2) := by decide +kernel
theorem dX10_years_113 : decode cX10_years 113 = .ok (.iload_n 3, 1) := by decide +kernel
theorem dX10_years_114 : decode cX10_years 114 = .ok (.aload_n 0, 1) := by decide +kernel
theorem dX10_years_115 : decode cX10_years 115 = .ok (.iload 6, 2) := by decide +kernel
theorem dX10_years_117 : decode cX10_years 117 = .ok (.iload 5, 2) := by decide +kernel
theorem dX10_years_119 : decode cX10_years 119 = .ok (.ifCond .ne 7, 3) := by decide +kernel
theorem dX10_years_122 : decode cX10_years 122 = .ok (.iconst 1, 1) := by decide +kernel
theorem dX10_years_123 : decode cX10_years 123 = .ok (.goto 14, 3) := by decide +kernel
theorem dX10_years_126 : decode cX10_years 126 = .ok (.iload 5, 2) := by decide +kernel
theorem dX10_years_128 : decode cX10_years 128 = .ok (.iconst 1, 1) := by decide +kernel
theorem dX10_years_129 : decode cX10_years 129 = .ok (.if_icmp .ne 7, 3) := by decide +kernel
theorem dX10_years_132 : decode cX10_years 132 = .ok (.iconst 4, 1) := by decide +kernel
theorem dX10_years_133 : decode cX10_years 133 = .ok (.goto 4, 3) := by decide +kernel
theorem dX10_years_136 : decode cX10_years 136 = .ok (.iconst 0, 1) := by decide +kernel
theorem dX10_years_137 : decode cX10_years 137 = .ok (.iload 7, 2) := by decide +kernel
theorem dX10_years_139 : decode cX10_years 139 = .ok (.invokevirtual 322, 3) := by decide +kernel
theorem dX10_years_142 : decode cX10_years 142 = .ok (.ifCond .eq 7, 3) := by decide +kernel
theorem dX10_years_145 : decode cX10_years 145 = .ok (.iconst 1, 1) := by decide +kernel
theorem dX10_years_146 : decode cX10_years 146 = .ok (.goto 4, 3) := by decide +kernel
theorem dX10_years_149 : decode cX10_years 149 = .ok (.iconst 0, 1) := by decide +kernel
theorem dX10_years_150 : decode cX10_years 150 = .ok (.iadd, 1) := by decide +kernel
theorem dX10_years_151 : decode cX10_years 151 = .ok (.istore_n 3, 1) := by decide +kernel
theorem dX10_years_152 : decode cX10_years 152 = .ok (.iinc 4 1, 3) := by decide +kernel
theorem dX10_years_155 : decode cX10_years 155 = .ok (.goto (-102), 3) := by decide +kernel
theorem dX10_years_158 : decode cX10_years 158 = .ok (.aload_n 0, 1) := by decide +kernel
theorem dX10_years_159 : decode cX10_years 159 = .ok (.invokevirtual 204, 3) := by decide +kernel
theorem dX10_years_162 : decode cX10_years 162 = .ok (.istore 4, 2) := by decide +kernel
theorem dX10_years_164 : decode cX10_years 164 = .ok (.aload_n 0, 1) := by decide +kernel
theorem dX10_years_165 : decode cX10_years 165 = .ok (.invokevirtual 188, 3) := by decide +kernel
theorem dX10_years_168 : decode cX10_years 168 = .ok (.aload_n 0, 1) := by decide +kernel
theorem dX10_years_169 : decode cX10_years 169 = .ok (.iload 4, 2) := by decide +kernel
theorem dX10_years_171 : decode cX10_years 171 = .ok (.iconst 0, 1) := by decide +kernel
theorem dX10_years_172 : decode cX10_years 172 = .ok (.invokevirtual 232, 3) := by decide +kernel
theorem dX10_years_175 : decode cX10_years 175 = .ok (.aload_n 0, 1) := by decide +kernel
theorem dX10_years_176 : decode cX10_years 176 = .ok (.iconst 0, 1) := by decide +kernel
theorem dX10_years_177 : decode cX10_years 177 = .ok (.putfield 80, 3) := by decide +kernel
theorem dX10_years_180 : decode cX10_years 180 = .ok (.aload_n 0, 1) := by decide +kernel
theorem dX10_years_181 : decode cX10_years 181 = .ok (.iload_n 3, 1) := by decide +kernel
theorem dX10_years_182 : decode cX10_years 182 = .ok (.ifCond .ge 7, 3) := by decide +kernel
theorem dX10_years_185 : decode cX10_years 185 = .ok (.lconst 0, 1) := by decide +kernel
theorem dX10_years_186 : decode cX10_years 186 = .ok (.goto 12, 3) := by decide +kernel
theorem dX10_years_189 : decode cX10_years 189 = .ok (.aload_n 0, 1) := by decide +kernel
theorem dX10_years_190 : decode cX10_years 190 = .ok (.aload_n 0, 1) := by decide +kernel
theorem dX10_years_191 : decode cX10_years 191 = .ok (.getfield 40, 3) := by decide +kernel
theorem dX10_years_194 : decode cX10_years 194 = .ok (.invokevirtual 249, 3) := by decide +kernel
theorem dX10_years_197 : decode cX10_years 197 = .ok (.i2l, 1) := by decide +kernel
theorem dX10_years_198 : decode cX10_years 198 = .ok (.invokevirtual 245, 3) := by decide +kernel
theorem dX10_years_201 : decode cX10_years 201 = .ok (.iconst 0, 1) := by decide +kernel
theorem dX10_years_202 : decode cX10_years 202 = .ok (.istore 5, 2) := by decide +kernel
theorem dX10_years_204 : decode cX10_years 204 = .ok (.iload 5, 2) := by decide +kernel
theorem dX10_years_206 : decode cX10_years 206 = .ok (.bipush 101, 2) := by decide +kernel
theorem dX10_years_208 : decode cX10_years 208 = .ok (.if_icmp .ge 23, 3) := by decide +kernel
theorem dX10_years_211 : decode cX10_years 211 = .ok (.aload_n 0, 1) := by decide +kernel
theorem dX10_years_212 : decode cX10_years 212 = .ok (.getfield 9, 3) := by decide +kernel
theorem dX10_years_215 : decode cX10_years 215 = .ok (.iload 5, 2) := by decide +kernel
theorem dX10_years_217 : decode cX10_years 217 = .ok (.aload_n 0, 1) := by decide +kernel
theorem dX10_years_218 : decode cX10_years 218 = .ok (.getfield 67, 3) := by decide +kernel
theorem dX10_years_221 : decode cX10_years 221 = .ok (.iload 5, 2) := by decide +kernel
theorem dX10_years_223 : decode cX10_years 223 = .ok (.iaload, 1) := by decide +kernel
theorem dX10_years_224 : decode cX10_years 224 = .ok (.iastore, 1) := by decide +kernel
theorem dX10_years_225 : decode cX10_years 225 = .ok (.iinc 5 1, 3) := by decide +kernel
theorem dX10_years_228 : decode cX10_years 228 = .ok (.goto (-24), 3) := by decide +kernel
theorem dX10_years_231 : decode cX10_years 231 = .ok (.iload 4, 2) := by decide +kernel
theorem dX10_years_233 : decode cX10_years 233 = .ok (.ireturn, 1) := by decide +kernel
set_option maxHeartbeats 4000000 in
set_option maxRecDepth 100000 in
theorem c_Model_years (l : Launch) (G : fm_G) (N : Nat) (M : fm_M) (v1 : Int32) (v2 : Int32) (r : Int32) (M' : fm_M) (hf : pModel_years N M v1 v2 = some (r, M')) : fm_Met l yX10_years cX10_years 8 (some .int) { frames := 5, cells := 0, slots := 0, locals := 117 } shM G [.ref (G.2.1 0), .int v1, .int v2] M (some (.int r)) M' := by
  refine fm_enter (by decide) (Nat.le_of_ble_eq_true rfl) ?_
  intro p e s m args below meth c ls C E hl
  have hl : lv_has ls 8 [(0, .ref (G.2.1 0)), (1, .int v1), (2, .int v2)] := hl
  have L204 : ∀ (w204_v4 : Int32) (n204 : Nat) (v5 : Int32) (M : fm_M) (H : Heap) (locs : List Loc) (ls : Array Slot), fm_Wd shM G M s H locs → lv_has ls 8 [(0, .ref (G.2.1 0)), (4, .int w204_v4), (5, .int v5)] → fm_lp (pModel_years_L204 N w204_v4) n204 (v5, M) = some (r, M') → W p l e { frames := 5, cells := 0, slots := 0, locals := 117 } s m args below meth c H locs 0 0 (fm_Z below shM G args s (some (.int r)) M') (F0 m 204 ls []) := by
    intro w204_v4 n204
    induction n204 with
    | zero => intro v5 M H locs ls E hl hf; exact fm_lp_0 hf
    | succ n204 ih204 =>
      intro v5 M H locs ls E hl hf
      have hf : pModel_years_L204b N w204_v4 (fm_lp (pModel_years_L204 N w204_v4) n204) v5 M = some (r, M') := hf
      unfold pModel_years_L204b at hf
      refine lv_iload C.1 C.2.1 dX10_years_204 (lv_at hl 2 rfl) ?_
      refine lv_bipush (v := 101) C.1 C.2.1 dX10_years_206 (by decide) ?_
      refine lv_icmp_ge (tgt := 231) C.1 C.2.1 dX10_years_208 (by decide) (fun hc208 => ?_) (fun hc208 => ?_)
      · have hf := fm_ip hf hc208
        refine lv_iload C.1 C.2.1 dX10_years_231 (lv_at hl 1 rfl) ?_
        obtain ⟨rfl, rfl⟩ := fm_rt2 hf
        exact fm_iret C E rfl rfl dX10_years_233
      · have hf := fm_in' hf hc208
        refine lv_aload_n C.1 C.2.1 dX10_years_211 rfl (lv_at hl 0 rfl) ?_
        refine fm_getr C E lf_X10_9 hM_0 rfl dX10_years_212 ?_
        refine lv_iload C.1 C.2.1 dX10_years_215 (lv_at hl 2 rfl) ?_
        refine lv_aload_n C.1 C.2.1 dX10_years_217 rfl (lv_at hl 0 rfl) ?_
        refine fm_getr C E lf_X10_67 hM_0 rfl dX10_years_218 ?_
        refine lv_iload C.1 C.2.1 dX10_years_221 (lv_at hl 2 rfl) ?_
        obtain ⟨h223, x223, e223, hf⟩ := fm_ld_e hf
        refine fm_iald' C E e223 hM_16 h223 dX10_years_223 ?_
        obtain ⟨h224, M224, e224, hf⟩ := fm_st_e hf
        refine fm_iast' C E e224 hM_1 h224 dX10_years_224 (fun H locs E => ?_)
        refine fm_iinc C (v := 1) (lv' := [(5, .int _), (0, .ref _), (4, .int _)]) (k := 2) hl rfl (by decide) (by decide) rfl dX10_years_225 (fun ls hl => ?_)
        refine lv_goto (tgt := 204) C.1 C.2.1 dX10_years_228 (by decide) ?_
        exact ih204 _ _ _ _ _ E (lv_sub hl [1, 2, 0] rfl) hf
  have J198 : ∀ (M : fm_M) (v4 : Int32) (s1 : Int64) (H : Heap) (locs : List Loc) (ls : Array Slot), fm_Wd shM G M s H locs → lv_has ls 8 [(0, .ref (G.2.1 0)), (4, .int v4)] → pModel_years_J198 N M v4 s1 = some (r, M') → W p l e { frames := 5, cells := 0, slots := 0, locals := 117 } s m args below meth c H locs 0 0 (fm_Z below shM G args s (some (.int r)) M') (F0 m 198 ls [.long s1, .ref (G.2.1 0)]) := by
    intro M v4 s1 H locs ls E hl hf
    unfold pModel_years_J198 at hf
    obtain ⟨M198, hc198, hf⟩ := fm_bd hf
    refine fm_callV C E [.long _] [] lm_X10_245 wk_X10_tell (c_Model_tell l G _ _ _ hc198) hM_0 rfl rfl rfl hl.1 (by simp [Value.category]) ⟨⟨rfl, rfl⟩, by decide, by decide⟩ ⟨by decide, by decide⟩ dX10_years_198 rfl (fun H locs E => ?_)
    refine W.eq (g2 := F0 m 201 ls []) rfl ?_
    refine lv_iconst (v := 0) C.1 C.2.1 dX10_years_201 (by decide) ?_
    refine lv_istore (lv' := [(5, .int _), (0, .ref _), (4, .int _)]) C.1 C.2.1 dX10_years_202 hl (by decide) rfl (fun ls hl => ?_)
    exact L204 _ N _ _ _ _ _ E (lv_sub hl [1, 2, 0] rfl) hf
  have L53 : ∀ (w53_v2 : Int32) (n53 : Nat) (v3 : Int32) (v4 : Int32) (M : fm_M) (H : Heap) (locs : List Loc) (ls : Array Slot), fm_Wd shM G M s H locs → lv_has ls 8 [(0, .ref (G.2.1 0)), (2, .int w53_v2), (3, .int v3), (4, .int v4)] → fm_lp (pModel_years_L53 N w53_v2) n53 (v3, v4, M) = some (r, M') → W p l e { frames := 5, cells := 0, slots := 0, locals := 117 } s m args below meth c H locs 0 0 (fm_Z below shM G args s (some (.int r)) M') (F0 m 53 ls []) := by
    intro w53_v2 n53
    induction n53 with
    | zero => intro v3 v4 M H locs ls E hl hf; exact fm_lp_0 hf
    | succ n53 ih53 =>
      have J137 : ∀ (M : fm_M) (v4 : Int32) (v7 : Int32) (s0 : Int32) (s2 : Int32) (s3 : Int32) (H : Heap) (locs : List Loc) (ls : Array Slot), fm_Wd shM G M s H locs → lv_has ls 8 [(0, .ref (G.2.1 0)), (2, .int w53_v2), (4, .int v4), (7, .int v7)] → pModel_years_J137 N M w53_v2 v4 v7 (fm_lp (pModel_years_L53 N w53_v2) n53) s0 s2 s3 = some (r, M') → W p l e { frames := 5, cells := 0, slots := 0, locals := 117 } s m args below meth c H locs 0 0 (fm_Z below shM G args s (some (.int r)) M') (F0 m 137 ls [.int s3, .int s2, .ref (G.2.1 0), .int s0]) := by
        intro M v4 v7 s0 s2 s3 H locs ls E hl hf
        unfold pModel_years_J137 at hf
        refine lv_iload C.1 C.2.1 dX10_years_137 (lv_at hl 3 rfl) ?_
        obtain ⟨⟨x139, M139⟩, hc139, hf⟩ := fm_bd hf
        dsimp only at hf
        refine fm_callV C E [.int _, .int _, .int _] [.int _] lm_X10_322 wk_X10_puts (c_Model_puts l G _ _ _ _ _ _ hc139) hM_0 rfl rfl rfl hl.1 (by simp [Value.category]) ⟨⟨rfl, rfl⟩, by decide, by decide⟩ ⟨by decide, by decide⟩ dX10_years_139 rfl (fun H locs E => ?_)
        refine W.eq (g2 := F0 m 142 ls (.int x139 :: [.int _])) rfl ?_
        refine lv_if_eq (tgt := 149) C.1 C.2.1 dX10_years_142 (by decide) (fun hc142 => ?_) (fun hc142 => ?_)
        · have hf := fm_ip hf hc142
          refine lv_iconst (v := 0) C.1 C.2.1 dX10_years_149 (by decide) ?_
          refine lv_iadd C.1 C.2.1 dX10_years_150 ?_
          refine lv_istore_n (lv' := [(3, .int _), (0, .ref _), (2, .int _), (4, .int _), (7, .int _)]) C.1 C.2.1 dX10_years_151 rfl hl (by decide) rfl (fun ls hl => ?_)
          refine fm_iinc C (v := 1) (lv' := [(4, .int _), (3, .int _), (0, .ref _), (2, .int _), (7, .int _)]) (k := 3) hl rfl (by decide) (by decide) rfl dX10_years_152 (fun ls hl => ?_)
          refine lv_goto (tgt := 53) C.1 C.2.1 dX10_years_155 (by decide) ?_
          exact ih53 _ _ _ _ _ _ E (lv_sub hl [2, 3, 1, 0] rfl) hf
        · have hf := fm_in' hf hc142
          refine lv_iconst (v := 1) C.1 C.2.1 dX10_years_145 (by decide) ?_
          refine lv_goto (tgt := 150) C.1 C.2.1 dX10_years_146 (by decide) ?_
          refine lv_iadd C.1 C.2.1 dX10_years_150 ?_
          refine lv_istore_n (lv' := [(3, .int _), (0, .ref _), (2, .int _), (4, .int _), (7, .int _)]) C.1 C.2.1 dX10_years_151 rfl hl (by decide) rfl (fun ls hl => ?_)
          refine fm_iinc C (v := 1) (lv' := [(4, .int _), (3, .int _), (0, .ref _), (2, .int _), (7, .int _)]) (k := 3) hl rfl (by decide) (by decide) rfl dX10_years_152 (fun ls hl => ?_)
          refine lv_goto (tgt := 53) C.1 C.2.1 dX10_years_155 (by decide) ?_
          exact ih53 _ _ _ _ _ _ E (lv_sub hl [2, 3, 1, 0] rfl) hf
      have J111 : ∀ (M : fm_M) (v3 : Int32) (v4 : Int32) (v5 : Int32) (v6 : Int32) (s0 : Int32) (H : Heap) (locs : List Loc) (ls : Array Slot), fm_Wd shM G M s H locs → lv_has ls 8 [(0, .ref (G.2.1 0)), (2, .int w53_v2), (3, .int v3), (4, .int v4), (5, .int v5), (6, .int v6)] → pModel_years_J111 N M w53_v2 v3 v4 v5 v6 (fm_lp (pModel_years_L53 N w53_v2) n53) s0 = some (r, M') → W p l e { frames := 5, cells := 0, slots := 0, locals := 117 } s m args below meth c H locs 0 0 (fm_Z below shM G args s (some (.int r)) M') (F0 m 111 ls [.int s0]) := by
        intro M v3 v4 v5 v6 s0 H locs ls E hl hf
        unfold pModel_years_J111 at hf
        refine lv_istore (lv' := [(7, .int _), (0, .ref _), (2, .int _), (3, .int _), (4, .int _), (5, .int _), (6, .int _)]) C.1 C.2.1 dX10_years_111 hl (by decide) rfl (fun ls hl => ?_)
        refine lv_iload_n C.1 C.2.1 dX10_years_113 rfl (lv_at hl 3 rfl) ?_
        refine lv_aload_n C.1 C.2.1 dX10_years_114 rfl (lv_at hl 1 rfl) ?_
        refine lv_iload C.1 C.2.1 dX10_years_115 (lv_at hl 6 rfl) ?_
        refine lv_iload C.1 C.2.1 dX10_years_117 (lv_at hl 5 rfl) ?_
        refine lv_if_ne (tgt := 126) C.1 C.2.1 dX10_years_119 (by decide) (fun hc119 => ?_) (fun hc119 => ?_)
        · have hf := fm_in' hf hc119
          refine lv_iload C.1 C.2.1 dX10_years_126 (lv_at hl 5 rfl) ?_
          refine lv_iconst (v := 1) C.1 C.2.1 dX10_years_128 (by decide) ?_
          refine lv_icmp_ne (tgt := 136) C.1 C.2.1 dX10_years_129 (by decide) (fun hc129 => ?_) (fun hc129 => ?_)
          · have hf := fm_in' hf hc129
            refine lv_iconst (v := 0) C.1 C.2.1 dX10_years_136 (by decide) ?_
            exact J137 _ _ _ _ _ _ _ _ _ E (lv_sub hl [1, 2, 4, 0] rfl) hf
          · have hf := fm_ip hf hc129
            refine lv_iconst (v := 4) C.1 C.2.1 dX10_years_132 (by decide) ?_
            refine lv_goto (tgt := 137) C.1 C.2.1 dX10_years_133 (by decide) ?_
            exact J137 _ _ _ _ _ _ _ _ _ E (lv_sub hl [1, 2, 4, 0] rfl) hf
        · have hf := fm_ip hf hc119
          refine lv_iconst (v := 1) C.1 C.2.1 dX10_years_122 (by decide) ?_
          refine lv_goto (tgt := 137) C.1 C.2.1 dX10_years_123 (by decide) ?_
          exact J137 _ _ _ _ _ _ _ _ _ E (lv_sub hl [1, 2, 4, 0] rfl) hf
      intro v3 v4 M H locs ls E hl hf
      have hf : pModel_years_L53b N w53_v2 (fm_lp (pModel_years_L53 N w53_v2) n53) v3 v4 M = some (r, M') := hf
      unfold pModel_years_L53b at hf
      refine lv_iload C.1 C.2.1 dX10_years_53 (lv_at hl 3 rfl) ?_
      refine lv_iload_n C.1 C.2.1 dX10_years_55 rfl (lv_at hl 1 rfl) ?_
      refine lv_icmp_ge (tgt := 158) C.1 C.2.1 dX10_years_56 (by decide) (fun hc56 => ?_) (fun hc56 => ?_)
      · have hf := fm_ip hf hc56
        refine lv_aload_n C.1 C.2.1 dX10_years_158 rfl (lv_at hl 0 rfl) ?_
        obtain ⟨x159, hc159, hf⟩ := fm_bd hf
        refine fm_callV C E [] [] lm_X10_204 wk_X10_liveBits (c_Model_liveBits l G N _ _  hc159) hM_0 rfl rfl rfl hl.1 (by simp [Value.category]) ⟨⟨rfl, rfl⟩, by decide, by decide⟩ ⟨by decide, by decide⟩ dX10_years_159 rfl (fun H locs E => ?_)
        refine W.eq (g2 := F0 m 162 ls (.int x159 :: [])) rfl ?_
        refine lv_istore (lv' := [(4, .int _), (0, .ref _), (2, .int _), (3, .int _)]) C.1 C.2.1 dX10_years_162 hl (by decide) rfl (fun ls hl => ?_)
        refine lv_aload_n C.1 C.2.1 dX10_years_164 rfl (lv_at hl 1 rfl) ?_
        obtain ⟨M165, hc165, hf⟩ := fm_bd hf
        refine fm_callV C E [] [] lm_X10_188 wk_X10_hear (c_Model_hear l G N _ _ hc165) hM_0 rfl rfl rfl hl.1 (by simp [Value.category]) ⟨⟨rfl, rfl⟩, by decide, by decide⟩ ⟨by decide, by decide⟩ dX10_years_165 rfl (fun H locs E => ?_)
        refine W.eq (g2 := F0 m 168 ls []) rfl ?_
        refine lv_aload_n C.1 C.2.1 dX10_years_168 rfl (lv_at hl 1 rfl) ?_
        refine lv_iload C.1 C.2.1 dX10_years_169 (lv_at hl 0 rfl) ?_
        refine lv_iconst (v := 0) C.1 C.2.1 dX10_years_171 (by decide) ?_
        obtain ⟨M172, hc172, hf⟩ := fm_bd hf
        refine fm_callV C E [.int _, .int _] [] lm_X10_232 wk_X10_layBeam (c_Model_layBeam l G N _ _ _ _ hc172) hM_0 rfl rfl rfl hl.1 (by simp [Value.category]) ⟨⟨rfl, rfl⟩, by decide, by decide⟩ ⟨by decide, by decide⟩ dX10_years_172 rfl (fun H locs E => ?_)
        refine W.eq (g2 := F0 m 175 ls []) rfl ?_
        refine lv_aload_n C.1 C.2.1 dX10_years_175 rfl (lv_at hl 1 rfl) ?_
        refine lv_iconst (v := 0) C.1 C.2.1 dX10_years_176 (by decide) ?_
        obtain ⟨M177, e177, hf⟩ := fm_pt_s hf
        refine fm_put' C E e177 lp_X10_80 hM_0 rfl dX10_years_177 (fun H locs E => ?_)
        refine lv_aload_n C.1 C.2.1 dX10_years_180 rfl (lv_at hl 1 rfl) ?_
        refine lv_iload_n C.1 C.2.1 dX10_years_181 rfl (lv_at hl 3 rfl) ?_
        refine lv_if_ge (tgt := 189) C.1 C.2.1 dX10_years_182 (by decide) (fun hc182 => ?_) (fun hc182 => ?_)
        · have hf := fm_ip hf hc182
          refine lv_aload_n C.1 C.2.1 dX10_years_189 rfl (lv_at hl 1 rfl) ?_
          refine lv_aload_n C.1 C.2.1 dX10_years_190 rfl (lv_at hl 1 rfl) ?_
          refine fm_getr C E lf_X10_40 hM_0 rfl dX10_years_191 ?_
          obtain ⟨x194, hc194, hf⟩ := fm_bd hf
          refine fm_callV C E [.ref _] [.ref _] lm_X10_249 wk_X10_levelOf (c_Model_levelOf l G N _ _ _  hc194) hM_0 rfl rfl rfl hl.1 (by simp [Value.category]) ⟨⟨rfl, rfl⟩, by decide, by decide⟩ ⟨by decide, by decide⟩ dX10_years_194 rfl (fun H locs E => ?_)
          refine W.eq (g2 := F0 m 197 ls (.int x194 :: [.ref _])) rfl ?_
          refine lv_i2l C.1 C.2.1 dX10_years_197 rfl ?_
          exact J198 _ _ _ _ _ _ E (lv_sub hl [1, 0] rfl) hf
        · have hf := fm_in' hf hc182
          refine lv_lconst (v := 0) C.1 C.2.1 dX10_years_185 (by decide) ?_
          refine lv_goto (tgt := 198) C.1 C.2.1 dX10_years_186 (by decide) ?_
          exact J198 _ _ _ _ _ _ E (lv_sub hl [1, 0] rfl) hf
      · have hf := fm_in' hf hc56
        refine lv_aload_n C.1 C.2.1 dX10_years_59 rfl (lv_at hl 0 rfl) ?_
        refine lv_iconst (v := 3) C.1 C.2.1 dX10_years_60 (by decide) ?_
        obtain ⟨⟨x61, M61⟩, hc61, hf⟩ := fm_bd hf
        dsimp only at hf
        refine fm_callV C E [.int _] [] lm_X10_338 wk_X10_draw (c_Model_draw l G _ _ _ _ hc61) hM_0 rfl rfl rfl hl.1 (by simp [Value.category]) ⟨⟨rfl, rfl⟩, by decide, by decide⟩ ⟨by decide, by decide⟩ dX10_years_61 rfl (fun H locs E => ?_)
        refine W.eq (g2 := F0 m 64 ls (.int x61 :: [])) rfl ?_
        refine lv_istore (lv' := [(5, .int _), (0, .ref _), (2, .int _), (3, .int _), (4, .int _)]) C.1 C.2.1 dX10_years_64 hl (by decide) rfl (fun ls hl => ?_)
        refine lv_aload_n C.1 C.2.1 dX10_years_66 rfl (lv_at hl 1 rfl) ?_
        refine lv_bipush (v := 6) C.1 C.2.1 dX10_years_67 (by decide) ?_
        obtain ⟨⟨x69, M69⟩, hc69, hf⟩ := fm_bd hf
        dsimp only at hf
        refine fm_callV C E [.int _] [] lm_X10_338 wk_X10_draw (c_Model_draw l G _ _ _ _ hc69) hM_0 rfl rfl rfl hl.1 (by simp [Value.category]) ⟨⟨rfl, rfl⟩, by decide, by decide⟩ ⟨by decide, by decide⟩ dX10_years_69 rfl (fun H locs E => ?_)
        refine W.eq (g2 := F0 m 72 ls (.int x69 :: [])) rfl ?_
        refine lv_istore (lv' := [(6, .int _), (5, .int _), (0, .ref _), (2, .int _), (3, .int _), (4, .int _)]) C.1 C.2.1 dX10_years_72 hl (by decide) rfl (fun ls hl => ?_)
        refine lv_iload C.1 C.2.1 dX10_years_74 (lv_at hl 1 rfl) ?_
        refine lv_if_ne (tgt := 88) C.1 C.2.1 dX10_years_76 (by decide) (fun hc76 => ?_) (fun hc76 => ?_)
        · have hf := fm_in' hf hc76
          refine lv_iload C.1 C.2.1 dX10_years_88 (lv_at hl 1 rfl) ?_
          refine lv_iconst (v := 1) C.1 C.2.1 dX10_years_90 (by decide) ?_
          refine lv_icmp_ne (tgt := 102) C.1 C.2.1 dX10_years_91 (by decide) (fun hc91 => ?_) (fun hc91 => ?_)
          · have hf := fm_in' hf hc91
            refine lv_aload_n C.1 C.2.1 dX10_years_102 rfl (lv_at hl 2 rfl) ?_
            refine lv_sipush (v := 300) C.1 C.2.1 dX10_years_103 (by decide) ?_
            obtain ⟨⟨x106, M106⟩, hc106, hf⟩ := fm_bd hf
            dsimp only at hf
            refine fm_callV C E [.int _] [] lm_X10_338 wk_X10_draw (c_Model_draw l G _ _ _ _ hc106) hM_0 rfl rfl rfl hl.1 (by simp [Value.category]) ⟨⟨rfl, rfl⟩, by decide, by decide⟩ ⟨by decide, by decide⟩ dX10_years_106 rfl (fun H locs E => ?_)
            refine W.eq (g2 := F0 m 109 ls (.int x106 :: [])) rfl ?_
            refine lv_iconst (v := 1) C.1 C.2.1 dX10_years_109 (by decide) ?_
            refine lv_iadd C.1 C.2.1 dX10_years_110 ?_
            exact J111 _ _ _ _ _ _ _ _ _ E (lv_sub hl [2, 3, 4, 5, 1, 0] rfl) hf
          · have hf := fm_ip hf hc91
            refine lv_aload_n C.1 C.2.1 dX10_years_94 rfl (lv_at hl 2 rfl) ?_
            refine lv_iconst (v := 2) C.1 C.2.1 dX10_years_95 (by decide) ?_
            obtain ⟨⟨x96, M96⟩, hc96, hf⟩ := fm_bd hf
            dsimp only at hf
            refine fm_callV C E [.int _] [] lm_X10_338 wk_X10_draw (c_Model_draw l G _ _ _ _ hc96) hM_0 rfl rfl rfl hl.1 (by simp [Value.category]) ⟨⟨rfl, rfl⟩, by decide, by decide⟩ ⟨by decide, by decide⟩ dX10_years_96 rfl (fun H locs E => ?_)
            refine W.eq (g2 := F0 m 99 ls (.int x96 :: [])) rfl ?_
            refine lv_goto (tgt := 111) C.1 C.2.1 dX10_years_99 (by decide) ?_
            exact J111 _ _ _ _ _ _ _ _ _ E (lv_sub hl [2, 3, 4, 5, 1, 0] rfl) hf
        · have hf := fm_ip hf hc76
          refine lv_aload_n C.1 C.2.1 dX10_years_79 rfl (lv_at hl 2 rfl) ?_
          refine lv_bipush (v := 10) C.1 C.2.1 dX10_years_80 (by decide) ?_
          obtain ⟨⟨x82, M82⟩, hc82, hf⟩ := fm_bd hf
          dsimp only at hf
          refine fm_callV C E [.int _] [] lm_X10_338 wk_X10_draw (c_Model_draw l G _ _ _ _ hc82) hM_0 rfl rfl rfl hl.1 (by simp [Value.category]) ⟨⟨rfl, rfl⟩, by decide, by decide⟩ ⟨by decide, by decide⟩ dX10_years_82 rfl (fun H locs E => ?_)
          refine W.eq (g2 := F0 m 85 ls (.int x82 :: [])) rfl ?_
          refine lv_goto (tgt := 111) C.1 C.2.1 dX10_years_85 (by decide) ?_
          exact J111 _ _ _ _ _ _ _ _ _ E (lv_sub hl [2, 3, 4, 5, 1, 0] rfl) hf
  have L24 : ∀ (w24_v2 : Int32) (n24 : Nat) (v3 : Int32) (M : fm_M) (H : Heap) (locs : List Loc) (ls : Array Slot), fm_Wd shM G M s H locs → lv_has ls 8 [(0, .ref (G.2.1 0)), (2, .int w24_v2), (3, .int v3)] → fm_lp (pModel_years_L24 N w24_v2) n24 (v3, M) = some (r, M') → W p l e { frames := 5, cells := 0, slots := 0, locals := 117 } s m args below meth c H locs 0 0 (fm_Z below shM G args s (some (.int r)) M') (F0 m 24 ls []) := by
    intro w24_v2 n24
    induction n24 with
    | zero => intro v3 M H locs ls E hl hf; exact fm_lp_0 hf
    | succ n24 ih24 =>
      intro v3 M H locs ls E hl hf
      have hf : pModel_years_L24b N w24_v2 (fm_lp (pModel_years_L24 N w24_v2) n24) v3 M = some (r, M') := hf
      unfold pModel_years_L24b at hf
      refine lv_iload_n C.1 C.2.1 dX10_years_24 rfl (lv_at hl 2 rfl) ?_
      refine lv_bipush (v := 101) C.1 C.2.1 dX10_years_25 (by decide) ?_
      refine lv_icmp_ge (tgt := 48) C.1 C.2.1 dX10_years_27 (by decide) (fun hc27 => ?_) (fun hc27 => ?_)
      · have hf := fm_ip hf hc27
        refine lv_iconst (v := 0) C.1 C.2.1 dX10_years_48 (by decide) ?_
        refine lv_istore_n (lv' := [(3, .int _), (0, .ref _), (2, .int _)]) C.1 C.2.1 dX10_years_49 rfl hl (by decide) rfl (fun ls hl => ?_)
        refine lv_iconst (v := 0) C.1 C.2.1 dX10_years_50 (by decide) ?_
        refine lv_istore (lv' := [(4, .int _), (3, .int _), (0, .ref _), (2, .int _)]) C.1 C.2.1 dX10_years_51 hl (by decide) rfl (fun ls hl => ?_)
        exact L53 _ N _ _ _ _ _ _ E (lv_sub hl [2, 3, 1, 0] rfl) hf
      · have hf := fm_in' hf hc27
        refine lv_aload_n C.1 C.2.1 dX10_years_30 rfl (lv_at hl 0 rfl) ?_
        refine fm_getr C E lf_X10_67 hM_0 rfl dX10_years_31 ?_
        refine lv_iload_n C.1 C.2.1 dX10_years_34 rfl (lv_at hl 2 rfl) ?_
        refine lv_aload_n C.1 C.2.1 dX10_years_35 rfl (lv_at hl 0 rfl) ?_
        refine fm_getr C E lf_X10_9 hM_0 rfl dX10_years_36 ?_
        refine lv_iload_n C.1 C.2.1 dX10_years_39 rfl (lv_at hl 2 rfl) ?_
        obtain ⟨h40, x40, e40, hf⟩ := fm_ld_e hf
        refine fm_iald' C E e40 hM_1 h40 dX10_years_40 ?_
        obtain ⟨h41, M41, e41, hf⟩ := fm_st_e hf
        refine fm_iast' C E e41 hM_16 h41 dX10_years_41 (fun H locs E => ?_)
        refine fm_iinc C (v := 1) (lv' := [(3, .int _), (0, .ref _), (2, .int _)]) (k := 2) hl rfl (by decide) (by decide) rfl dX10_years_42 (fun ls hl => ?_)
        refine lv_goto (tgt := 24) C.1 C.2.1 dX10_years_45 (by decide) ?_
        exact ih24 _ _ _ _ _ E (lv_sub hl [1, 2, 0] rfl) hf
  unfold pModel_years at hf
  refine lv_aload_n C.1 C.2.1 dX10_years_0 rfl (lv_at hl 0 rfl) ?_
  refine lv_iconst (v := 0) C.1 C.2.1 dX10_years_1 (by decide) ?_
  obtain ⟨M2, e2, hf⟩ := fm_pt_s hf
  refine fm_put' C E e2 lp_X10_77 hM_0 rfl dX10_years_2 (fun H locs E => ?_)
  refine lv_iload_n C.1 C.2.1 dX10_years_5 rfl (lv_at hl 2 rfl) ?_
  refine lv_iconst (v := 1) C.1 C.2.1 dX10_years_6 (by decide) ?_
  refine lv_bipush (v := 30) C.1 C.2.1 dX10_years_7 (by decide) ?_
  obtain ⟨x9, hc9, hf⟩ := fm_bd hf
  refine fm_callS C E [.int _, .int _, .int _] [] lm_X10_83 wk_X10_in (c_Model_in l G _ _ _ _ _  hc9) rfl hl.1 (by simp [Value.category]) ⟨⟨rfl, rfl⟩, by decide, by decide⟩ ⟨by decide, by decide⟩ dX10_years_9 rfl (fun H locs E => ?_)
  refine W.eq (g2 := F0 m 12 ls (.int x9 :: [])) rfl ?_
  refine lv_if_ne (tgt := 17) C.1 C.2.1 dX10_years_12 (by decide) (fun hc12 => ?_) (fun hc12 => ?_)
  · have hf := fm_in' hf hc12
    refine lv_aload_n C.1 C.2.1 dX10_years_17 rfl (lv_at hl 0 rfl) ?_
    refine lv_iload_n C.1 C.2.1 dX10_years_18 rfl (lv_at hl 1 rfl) ?_
    obtain ⟨M19, e19, hf⟩ := fm_pt_s hf
    refine fm_put' C E e19 lp_X10_334 hM_0 rfl dX10_years_19 (fun H locs E => ?_)
    refine lv_iconst (v := 0) C.1 C.2.1 dX10_years_22 (by decide) ?_
    refine lv_istore_n (lv' := [(3, .int _), (0, .ref _), (1, .int _), (2, .int _)]) C.1 C.2.1 dX10_years_23 rfl hl (by decide) rfl (fun ls hl => ?_)
    exact L24 _ N _ _ _ _ _ E (lv_sub hl [1, 3, 0] rfl) hf
  · have hf := fm_ip hf hc12
    refine lv_iconst (v := (-1)) C.1 C.2.1 dX10_years_15 (by decide) ?_
    obtain ⟨rfl, rfl⟩ := fm_rt2 hf
    exact fm_iret C E rfl rfl dX10_years_16
theorem dX10_keep_0 : decode cX10_keep 0 = .ok (.aload_n 0, 1) := by decide +kernel
theorem dX10_keep_1 : decode cX10_keep 1 = .ok (.iconst 0, 1) := by decide +kernel
theorem dX10_keep_2 : decode cX10_keep 2 = .ok (.putfield 77, 3) := by decide +kernel
theorem dX10_keep_5 : decode cX10_keep 5 = .ok (.iload_n 1, 1) := by decide +kernel
theorem dX10_keep_6 : decode cX10_keep 6 = .ok (.iconst 0, 1) := by decide +kernel
theorem dX10_keep_7 : decode cX10_keep 7 = .ok (.iconst 1, 1) := by decide +kernel
theorem dX10_keep_8 : decode cX10_keep 8 = .ok (.invokestatic 83, 3) := by decide +kernel
theorem dX10_keep_11 : decode cX10_keep 11 = .ok (.ifCond .ne 5, 3) := by decide +kernel
theorem dX10_keep_14 : decode cX10_keep 14 = .ok (.iconst 0, 1) := by decide +kernel
theorem dX10_keep_15 : decode cX10_keep 15 = .ok (.ireturn, 1) := by decide +kernel
theorem dX10_keep_16 : decode cX10_keep 16 = .ok (.aload_n 0, 1) := by decide +kernel
theorem dX10_keep_17 : decode cX10_keep 17 = .ok (.getfield 73, 3) := by decide +kernel
theorem dX10_keep_20 : decode cX10_keep 20 = .ok (.iload_n 1, 1) := by decide +kernel
theorem dX10_keep_21 : decode cX10_keep 21 = .ok (.iconst 1, 1) := by decide +kernel
theorem dX10_keep_22 : decode cX10_keep 22 = .ok (.bastore, 1) := by decide +kernel
theorem dX10_keep_23 : decode cX10_keep 23 = .ok (.iconst 0, 1) := by decide +kernel
theorem dX10_keep_24 : decode cX10_keep 24 = .ok (.istore_n 2, 1) := by decide +kernel
theorem dX10_keep_25 : decode cX10_keep 25 = .ok (.iload_n 2, 1) := by decide +kernel
theorem dX10_keep_26 : decode cX10_keep 26 = .ok (.bipush 101, 2) := by decide +kernel
theorem dX10_keep_28 : decode cX10_keep 28 = .ok (.if_icmp .ge 26, 3) := by decide +kernel
theorem dX10_keep_31 : decode cX10_keep 31 = .ok (.aload_n 0, 1) := by decide +kernel
theorem dX10_keep_32 : decode cX10_keep 32 = .ok (.getfield 70, 3) := by decide +kernel
theorem dX10_keep_35 : decode cX10_keep 35 = .ok (.bipush 101, 2) := by decide +kernel
theorem dX10_keep_37 : decode cX10_keep 37 = .ok (.iload_n 1, 1) := by decide +kernel
theorem dX10_keep_38 : decode cX10_keep 38 = .ok (.imul, 1) := by decide +kernel
theorem dX10_keep_39 : decode cX10_keep 39 = .ok (.iload_n 2, 1) := by decide +kernel
theorem dX10_keep_40 : decode cX10_keep 40 = .ok (.iadd, 1) := by decide +kernel
theorem dX10_keep_41 : decode cX10_keep 41 = .ok (.aload_n 0, 1) := by decide +kernel
theorem dX10_keep_42 : decode cX10_keep 42 = .ok (.getfield 9, 3) := by decide +kernel
theorem dX10_keep_45 : decode cX10_keep 45 = .ok (.iload_n 2, 1) := by decide +kernel
theorem dX10_keep_46 : decode cX10_keep 46 = .ok (.iaload, 1) := by decide +kernel
theorem dX10_keep_47 : decode cX10_keep 47 = .ok (.iastore, 1) := by decide +kernel
theorem dX10_keep_48 : decode cX10_keep 48 = .ok (.iinc 2 1, 3) := by decide +kernel
theorem dX10_keep_51 : decode cX10_keep 51 = .ok (.goto (-26), 3) := by decide +kernel
theorem dX10_keep_54 : decode cX10_keep 54 = .ok (.iconst 1, 1) := by decide +kernel
theorem dX10_keep_55 : decode cX10_keep 55 = .ok (.ireturn, 1) := by decide +kernel
set_option maxHeartbeats 4000000 in
set_option maxRecDepth 100000 in
theorem c_Model_keep (l : Launch) (G : fm_G) (N : Nat) (M : fm_M) (v1 : Int32) (r : Int32) (M' : fm_M) (hf : pModel_keep N M v1 = some (r, M')) : fm_Met l yX10_keep cX10_keep 3 (some .boolean) { frames := 1, cells := 0, slots := 0, locals := 22 } shM G [.ref (G.2.1 0), .int v1] M (some (.int r)) M' := by
  refine fm_enter (by decide) (Nat.le_of_ble_eq_true rfl) ?_
  intro p e s m args below meth c ls C E hl
  have hl : lv_has ls 3 [(0, .ref (G.2.1 0)), (1, .int v1)] := hl
  have L25 : ∀ (w25_v1 : Int32) (n25 : Nat) (v2 : Int32) (M : fm_M) (H : Heap) (locs : List Loc) (ls : Array Slot), fm_Wd shM G M s H locs → lv_has ls 3 [(0, .ref (G.2.1 0)), (1, .int w25_v1), (2, .int v2)] → fm_lp (pModel_keep_L25 N w25_v1) n25 (v2, M) = some (r, M') → W p l e { frames := 1, cells := 0, slots := 0, locals := 22 } s m args below meth c H locs 0 0 (fm_Z below shM G args s (some (.int r)) M') (F0 m 25 ls []) := by
    intro w25_v1 n25
    induction n25 with
    | zero => intro v2 M H locs ls E hl hf; exact fm_lp_0 hf
    | succ n25 ih25 =>
      intro v2 M H locs ls E hl hf
      have hf : pModel_keep_L25b N w25_v1 (fm_lp (pModel_keep_L25 N w25_v1) n25) v2 M = some (r, M') := hf
      unfold pModel_keep_L25b at hf
      refine lv_iload_n C.1 C.2.1 dX10_keep_25 rfl (lv_at hl 2 rfl) ?_
      refine lv_bipush (v := 101) C.1 C.2.1 dX10_keep_26 (by decide) ?_
      refine lv_icmp_ge (tgt := 54) C.1 C.2.1 dX10_keep_28 (by decide) (fun hc28 => ?_) (fun hc28 => ?_)
      · have hf := fm_ip hf hc28
        refine lv_iconst (v := 1) C.1 C.2.1 dX10_keep_54 (by decide) ?_
        obtain ⟨rfl, rfl⟩ := fm_rt2 hf
        exact fm_iret C E rfl rfl dX10_keep_55
      · have hf := fm_in' hf hc28
        refine lv_aload_n C.1 C.2.1 dX10_keep_31 rfl (lv_at hl 0 rfl) ?_
        refine fm_getr C E lf_X10_70 hM_0 rfl dX10_keep_32 ?_
        refine lv_bipush (v := 101) C.1 C.2.1 dX10_keep_35 (by decide) ?_
        refine lv_iload_n C.1 C.2.1 dX10_keep_37 rfl (lv_at hl 1 rfl) ?_
        refine lv_imul C.1 C.2.1 dX10_keep_38 ?_
        refine lv_iload_n C.1 C.2.1 dX10_keep_39 rfl (lv_at hl 2 rfl) ?_
        refine lv_iadd C.1 C.2.1 dX10_keep_40 ?_
        refine lv_aload_n C.1 C.2.1 dX10_keep_41 rfl (lv_at hl 0 rfl) ?_
        refine fm_getr C E lf_X10_9 hM_0 rfl dX10_keep_42 ?_
        refine lv_iload_n C.1 C.2.1 dX10_keep_45 rfl (lv_at hl 2 rfl) ?_
        obtain ⟨h46, x46, e46, hf⟩ := fm_ld_e hf
        refine fm_iald' C E e46 hM_1 h46 dX10_keep_46 ?_
        obtain ⟨h47, M47, e47, hf⟩ := fm_st_e hf
        refine fm_iast' C E e47 hM_17 h47 dX10_keep_47 (fun H locs E => ?_)
        refine fm_iinc C (v := 1) (lv' := [(2, .int _), (0, .ref _), (1, .int _)]) (k := 2) hl rfl (by decide) (by decide) rfl dX10_keep_48 (fun ls hl => ?_)
        refine lv_goto (tgt := 25) C.1 C.2.1 dX10_keep_51 (by decide) ?_
        exact ih25 _ _ _ _ _ E (lv_sub hl [1, 2, 0] rfl) hf
  unfold pModel_keep at hf
  refine lv_aload_n C.1 C.2.1 dX10_keep_0 rfl (lv_at hl 0 rfl) ?_
  refine lv_iconst (v := 0) C.1 C.2.1 dX10_keep_1 (by decide) ?_
  obtain ⟨M2, e2, hf⟩ := fm_pt_s hf
  refine fm_put' C E e2 lp_X10_77 hM_0 rfl dX10_keep_2 (fun H locs E => ?_)
  refine lv_iload_n C.1 C.2.1 dX10_keep_5 rfl (lv_at hl 1 rfl) ?_
  refine lv_iconst (v := 0) C.1 C.2.1 dX10_keep_6 (by decide) ?_
  refine lv_iconst (v := 1) C.1 C.2.1 dX10_keep_7 (by decide) ?_
  obtain ⟨x8, hc8, hf⟩ := fm_bd hf
  refine fm_callS C E [.int _, .int _, .int _] [] lm_X10_83 wk_X10_in (c_Model_in l G _ _ _ _ _  hc8) rfl hl.1 (by simp [Value.category]) ⟨⟨rfl, rfl⟩, by decide, by decide⟩ ⟨by decide, by decide⟩ dX10_keep_8 rfl (fun H locs E => ?_)
  refine W.eq (g2 := F0 m 11 ls (.int x8 :: [])) rfl ?_
  refine lv_if_ne (tgt := 16) C.1 C.2.1 dX10_keep_11 (by decide) (fun hc11 => ?_) (fun hc11 => ?_)
  · have hf := fm_in' hf hc11
    refine lv_aload_n C.1 C.2.1 dX10_keep_16 rfl (lv_at hl 0 rfl) ?_
    refine fm_getr C E lf_X10_73 hM_0 rfl dX10_keep_17 ?_
    refine lv_iload_n C.1 C.2.1 dX10_keep_20 rfl (lv_at hl 1 rfl) ?_
    refine lv_iconst (v := 1) C.1 C.2.1 dX10_keep_21 (by decide) ?_
    obtain ⟨h22, M22, e22, hf⟩ := fm_st_e hf
    refine fm_zast' C E e22 hM_18 h22 dX10_keep_22 (fun H locs E => ?_)
    refine lv_iconst (v := 0) C.1 C.2.1 dX10_keep_23 (by decide) ?_
    refine lv_istore_n (lv' := [(2, .int _), (0, .ref _), (1, .int _)]) C.1 C.2.1 dX10_keep_24 rfl hl (by decide) rfl (fun ls hl => ?_)
    exact L25 _ N _ _ _ _ _ E (lv_sub hl [1, 2, 0] rfl) hf
  · have hf := fm_ip hf hc11
    refine lv_iconst (v := 0) C.1 C.2.1 dX10_keep_14 (by decide) ?_
    obtain ⟨rfl, rfl⟩ := fm_rt2 hf
    exact fm_iret C E rfl rfl dX10_keep_15
theorem dX10_again_0 : decode cX10_again 0 = .ok (.aload_n 0, 1) := by decide +kernel
theorem dX10_again_1 : decode cX10_again 1 = .ok (.iconst 0, 1) := by decide +kernel
theorem dX10_again_2 : decode cX10_again 2 = .ok (.putfield 77, 3) := by decide +kernel
theorem dX10_again_5 : decode cX10_again 5 = .ok (.iload_n 1, 1) := by decide +kernel
theorem dX10_again_6 : decode cX10_again 6 = .ok (.iconst 0, 1) := by decide +kernel
theorem dX10_again_7 : decode cX10_again 7 = .ok (.iconst 1, 1) := by decide +kernel
theorem dX10_again_8 : decode cX10_again 8 = .ok (.invokestatic 83, 3) := by decide +kernel
theorem dX10_again_11 : decode cX10_again 11 = .ok (.ifCond .eq 12, 3) := by decide +kernel
theorem dX10_again_14 : decode cX10_again 14 = .ok (.aload_n 0, 1) := by decide +kernel
theorem dX10_again_15 : decode cX10_again 15 = .ok (.getfield 73, 3) := by decide +kernel
theorem dX10_again_18 : decode cX10_again 18 = .ok (.iload_n 1, 1) := by decide +kernel
theorem dX10_again_19 : decode cX10_again 19 = .ok (.baload, 1) := by decide +kernel
theorem dX10_again_20 : decode cX10_again 20 = .ok (.ifCond .ne 5, 3) := by decide +kernel
theorem dX10_again_23 : decode cX10_again 23 = .ok (.iconst 0, 1) := by decide +kernel
theorem dX10_again_24 : decode cX10_again 24 = .ok (.ireturn, 1) := by decide +kernel
theorem dX10_again_25 : decode cX10_again 25 = .ok (.iconst 0, 1) := by decide +kernel
theorem dX10_again_26 : decode cX10_again 26 = .ok (.istore_n 2, 1) := by decide +kernel
theorem dX10_again_27 : decode cX10_again 27 = .ok (.iload_n 2, 1) := by decide +kernel
theorem dX10_again_28 : decode cX10_again 28 = .ok (.bipush 101, 2) := by decide +kernel
theorem dX10_again_30 : decode cX10_again 30 = .ok (.if_icmp .ge 26, 3) := by decide +kernel
theorem dX10_again_33 : decode cX10_again 33 = .ok (.aload_n 0, 1) := by decide +kernel
theorem dX10_again_34 : decode cX10_again 34 = .ok (.getfield 9, 3) := by decide +kernel
theorem dX10_again_37 : decode cX10_again 37 = .ok (.iload_n 2, 1) := by decide +kernel
theorem dX10_again_38 : decode cX10_again 38 = .ok (.aload_n 0, 1) := by decide +kernel
theorem dX10_again_39 : decode cX10_again 39 = .ok (.getfield 70, 3) := by decide +kernel
theorem dX10_again_42 : decode cX10_again 42 = .ok (.bipush 101, 2) := by decide +kernel
theorem dX10_again_44 : decode cX10_again 44 = .ok (.iload_n 1, 1) := by decide +kernel
theorem dX10_again_45 : decode cX10_again 45 = .ok (.imul, 1) := by decide +kernel
theorem dX10_again_46 : decode cX10_again 46 = .ok (.iload_n 2, 1) := by decide +kernel
theorem dX10_again_47 : decode cX10_again 47 = .ok (.iadd, 1) := by decide +kernel
theorem dX10_again_48 : decode cX10_again 48 = .ok (.iaload, 1) := by decide +kernel
theorem dX10_again_49 : decode cX10_again 49 = .ok (.iastore, 1) := by decide +kernel
theorem dX10_again_50 : decode cX10_again 50 = .ok (.iinc 2 1, 3) := by decide +kernel
theorem dX10_again_53 : decode cX10_again 53 = .ok (.goto (-26), 3) := by decide +kernel
theorem dX10_again_56 : decode cX10_again 56 = .ok (.aload_n 0, 1) := by decide +kernel
theorem dX10_again_57 : decode cX10_again 57 = .ok (.iconst 0, 1) := by decide +kernel
theorem dX10_again_58 : decode cX10_again 58 = .ok (.putfield 291, 3) := by decide +kernel
theorem dX10_again_61 : decode cX10_again 61 = .ok (.iconst 1, 1) := by decide +kernel
theorem dX10_again_62 : decode cX10_again 62 = .ok (.ireturn, 1) := by decide +kernel
set_option maxHeartbeats 4000000 in
set_option maxRecDepth 100000 in
theorem c_Model_again (l : Launch) (G : fm_G) (N : Nat) (M : fm_M) (v1 : Int32) (r : Int32) (M' : fm_M) (hf : pModel_again N M v1 = some (r, M')) : fm_Met l yX10_again cX10_again 3 (some .boolean) { frames := 1, cells := 0, slots := 0, locals := 22 } shM G [.ref (G.2.1 0), .int v1] M (some (.int r)) M' := by
  refine fm_enter (by decide) (Nat.le_of_ble_eq_true rfl) ?_
  intro p e s m args below meth c ls C E hl
  have hl : lv_has ls 3 [(0, .ref (G.2.1 0)), (1, .int v1)] := hl
  have L27 : ∀ (w27_v1 : Int32) (n27 : Nat) (v2 : Int32) (M : fm_M) (H : Heap) (locs : List Loc) (ls : Array Slot), fm_Wd shM G M s H locs → lv_has ls 3 [(0, .ref (G.2.1 0)), (1, .int w27_v1), (2, .int v2)] → fm_lp (pModel_again_L27 N w27_v1) n27 (v2, M) = some (r, M') → W p l e { frames := 1, cells := 0, slots := 0, locals := 22 } s m args below meth c H locs 0 0 (fm_Z below shM G args s (some (.int r)) M') (F0 m 27 ls []) := by
    intro w27_v1 n27
    induction n27 with
    | zero => intro v2 M H locs ls E hl hf; exact fm_lp_0 hf
    | succ n27 ih27 =>
      intro v2 M H locs ls E hl hf
      have hf : pModel_again_L27b N w27_v1 (fm_lp (pModel_again_L27 N w27_v1) n27) v2 M = some (r, M') := hf
      unfold pModel_again_L27b at hf
      refine lv_iload_n C.1 C.2.1 dX10_again_27 rfl (lv_at hl 2 rfl) ?_
      refine lv_bipush (v := 101) C.1 C.2.1 dX10_again_28 (by decide) ?_
      refine lv_icmp_ge (tgt := 56) C.1 C.2.1 dX10_again_30 (by decide) (fun hc30 => ?_) (fun hc30 => ?_)
      · have hf := fm_ip hf hc30
        refine lv_aload_n C.1 C.2.1 dX10_again_56 rfl (lv_at hl 0 rfl) ?_
        refine lv_iconst (v := 0) C.1 C.2.1 dX10_again_57 (by decide) ?_
        obtain ⟨M58, e58, hf⟩ := fm_pt_s hf
        refine fm_put' C E e58 lp_X10_291 hM_0 rfl dX10_again_58 (fun H locs E => ?_)
        refine lv_iconst (v := 1) C.1 C.2.1 dX10_again_61 (by decide) ?_
        obtain ⟨rfl, rfl⟩ := fm_rt2 hf
        exact fm_iret C E rfl rfl dX10_again_62
      · have hf := fm_in' hf hc30
        refine lv_aload_n C.1 C.2.1 dX10_again_33 rfl (lv_at hl 0 rfl) ?_
        refine fm_getr C E lf_X10_9 hM_0 rfl dX10_again_34 ?_
        refine lv_iload_n C.1 C.2.1 dX10_again_37 rfl (lv_at hl 2 rfl) ?_
        refine lv_aload_n C.1 C.2.1 dX10_again_38 rfl (lv_at hl 0 rfl) ?_
        refine fm_getr C E lf_X10_70 hM_0 rfl dX10_again_39 ?_
        refine lv_bipush (v := 101) C.1 C.2.1 dX10_again_42 (by decide) ?_
        refine lv_iload_n C.1 C.2.1 dX10_again_44 rfl (lv_at hl 1 rfl) ?_
        refine lv_imul C.1 C.2.1 dX10_again_45 ?_
        refine lv_iload_n C.1 C.2.1 dX10_again_46 rfl (lv_at hl 2 rfl) ?_
        refine lv_iadd C.1 C.2.1 dX10_again_47 ?_
        obtain ⟨h48, x48, e48, hf⟩ := fm_ld_e hf
        refine fm_iald' C E e48 hM_17 h48 dX10_again_48 ?_
        obtain ⟨h49, M49, e49, hf⟩ := fm_st_e hf
        refine fm_iast' C E e49 hM_1 h49 dX10_again_49 (fun H locs E => ?_)
        refine fm_iinc C (v := 1) (lv' := [(2, .int _), (0, .ref _), (1, .int _)]) (k := 2) hl rfl (by decide) (by decide) rfl dX10_again_50 (fun ls hl => ?_)
        refine lv_goto (tgt := 27) C.1 C.2.1 dX10_again_53 (by decide) ?_
        exact ih27 _ _ _ _ _ E (lv_sub hl [1, 2, 0] rfl) hf
  unfold pModel_again at hf
  refine lv_aload_n C.1 C.2.1 dX10_again_0 rfl (lv_at hl 0 rfl) ?_
  refine lv_iconst (v := 0) C.1 C.2.1 dX10_again_1 (by decide) ?_
  obtain ⟨M2, e2, hf⟩ := fm_pt_s hf
  refine fm_put' C E e2 lp_X10_77 hM_0 rfl dX10_again_2 (fun H locs E => ?_)
  refine lv_iload_n C.1 C.2.1 dX10_again_5 rfl (lv_at hl 1 rfl) ?_
  refine lv_iconst (v := 0) C.1 C.2.1 dX10_again_6 (by decide) ?_
  refine lv_iconst (v := 1) C.1 C.2.1 dX10_again_7 (by decide) ?_
  obtain ⟨x8, hc8, hf⟩ := fm_bd hf
  refine fm_callS C E [.int _, .int _, .int _] [] lm_X10_83 wk_X10_in (c_Model_in l G _ _ _ _ _  hc8) rfl hl.1 (by simp [Value.category]) ⟨⟨rfl, rfl⟩, by decide, by decide⟩ ⟨by decide, by decide⟩ dX10_again_8 rfl (fun H locs E => ?_)
  refine W.eq (g2 := F0 m 11 ls (.int x8 :: [])) rfl ?_
  refine lv_if_eq (tgt := 23) C.1 C.2.1 dX10_again_11 (by decide) (fun hc11 => ?_) (fun hc11 => ?_)
  · have hf := fm_ip hf hc11
    refine lv_iconst (v := 0) C.1 C.2.1 dX10_again_23 (by decide) ?_
    obtain ⟨rfl, rfl⟩ := fm_rt2 hf
    exact fm_iret C E rfl rfl dX10_again_24
  · have hf := fm_in' hf hc11
    refine lv_aload_n C.1 C.2.1 dX10_again_14 rfl (lv_at hl 0 rfl) ?_
    refine fm_getr C E lf_X10_73 hM_0 rfl dX10_again_15 ?_
    refine lv_iload_n C.1 C.2.1 dX10_again_18 rfl (lv_at hl 1 rfl) ?_
    obtain ⟨h19, x19, e19, hf⟩ := fm_ld_e hf
    refine fm_zald' C E e19 hM_18 h19 dX10_again_19 ?_
    refine lv_if_ne (tgt := 25) C.1 C.2.1 dX10_again_20 (by decide) (fun hc20 => ?_) (fun hc20 => ?_)
    · have hf := fm_in' hf hc20
      refine lv_iconst (v := 0) C.1 C.2.1 dX10_again_25 (by decide) ?_
      refine lv_istore_n (lv' := [(2, .int _), (0, .ref _), (1, .int _)]) C.1 C.2.1 dX10_again_26 rfl hl (by decide) rfl (fun ls hl => ?_)
      exact L27 _ N _ _ _ _ _ E (lv_sub hl [1, 2, 0] rfl) hf
    · have hf := fm_ip hf hc20
      refine lv_iconst (v := 0) C.1 C.2.1 dX10_again_23 (by decide) ?_
      obtain ⟨rfl, rfl⟩ := fm_rt2 hf
      exact fm_iret C E rfl rfl dX10_again_24
theorem dX10_count_0 : decode cX10_count 0 = .ok (.aload_n 0, 1) := by decide +kernel
theorem dX10_count_1 : decode cX10_count 1 = .ok (.iconst 0, 1) := by decide +kernel
theorem dX10_count_2 : decode cX10_count 2 = .ok (.putfield 77, 3) := by decide +kernel
theorem dX10_count_5 : decode cX10_count 5 = .ok (.iload_n 1, 1) := by decide +kernel
theorem dX10_count_6 : decode cX10_count 6 = .ok (.tableswitch 97 0 8 #[50, 57, 65, 70, 70, 70, 82, 87, 92], 50) := by decide +kernel
theorem dX10_count_56 : decode cX10_count 56 = .ok (.aload_n 0, 1) := by decide +kernel
theorem dX10_count_57 : decode cX10_count 57 = .ok (.getfield 9, 3) := by decide +kernel
theorem dX10_count_60 : decode cX10_count 60 = .ok (.iconst 0, 1) := by decide +kernel
theorem dX10_count_61 : decode cX10_count 61 = .ok (.iaload, 1) := by decide +kernel
theorem dX10_count_62 : decode cX10_count 62 = .ok (.ireturn, 1) := by decide +kernel
theorem dX10_count_63 : decode cX10_count 63 = .ok (.aload_n 0, 1) := by decide +kernel
theorem dX10_count_64 : decode cX10_count 64 = .ok (.getfield 9, 3) := by decide +kernel
theorem dX10_count_67 : decode cX10_count 67 = .ok (.bipush 40, 2) := by decide +kernel
theorem dX10_count_69 : decode cX10_count 69 = .ok (.iaload, 1) := by decide +kernel
theorem dX10_count_70 : decode cX10_count 70 = .ok (.ireturn, 1) := by decide +kernel
theorem dX10_count_71 : decode cX10_count 71 = .ok (.aload_n 0, 1) := by decide +kernel
theorem dX10_count_72 : decode cX10_count 72 = .ok (.invokevirtual 204, 3) := by decide +kernel
theorem dX10_count_75 : decode cX10_count 75 = .ok (.ireturn, 1) := by decide +kernel
theorem dX10_count_76 : decode cX10_count 76 = .ok (.aload_n 0, 1) := by decide +kernel
theorem dX10_count_77 : decode cX10_count 77 = .ok (.getfield 9, 3) := by decide +kernel
theorem dX10_count_80 : decode cX10_count 80 = .ok (.bipush 37, 2) := by decide +kernel
theorem dX10_count_82 : decode cX10_count 82 = .ok (.iload_n 1, 1) := by decide +kernel
theorem dX10_count_83 : decode cX10_count 83 = .ok (.iadd, 1) := by decide +kernel
theorem dX10_count_84 : decode cX10_count 84 = .ok (.iconst 3, 1) := by decide +kernel
theorem dX10_count_85 : decode cX10_count 85 = .ok (.isub, 1) := by decide +kernel
theorem dX10_count_86 : decode cX10_count 86 = .ok (.iaload, 1) := by decide +kernel
theorem dX10_count_87 : decode cX10_count 87 = .ok (.ireturn, 1) := by decide +kernel
theorem dX10_count_88 : decode cX10_count 88 = .ok (.aload_n 0, 1) := by decide +kernel
theorem dX10_count_89 : decode cX10_count 89 = .ok (.getfield 291, 3) := by decide +kernel
theorem dX10_count_92 : decode cX10_count 92 = .ok (.ireturn, 1) := by decide +kernel
theorem dX10_count_93 : decode cX10_count 93 = .ok (.aload_n 0, 1) := by decide +kernel
theorem dX10_count_94 : decode cX10_count 94 = .ok (.getfield 80, 3) := by decide +kernel
theorem dX10_count_97 : decode cX10_count 97 = .ok (.ireturn, 1) := by decide +kernel
theorem dX10_count_98 : decode cX10_count 98 = .ok (.aload_n 0, 1) := by decide +kernel
theorem dX10_count_99 : decode cX10_count 99 = .ok (.getfield 87, 3) := by decide +kernel
theorem dX10_count_102 : decode cX10_count 102 = .ok (.ireturn, 1) := by decide +kernel
theorem dX10_count_103 : decode cX10_count 103 = .ok (.iconst (-1), 1) := by decide +kernel
theorem dX10_count_104 : decode cX10_count 104 = .ok (.ireturn, 1) := by decide +kernel
set_option maxHeartbeats 4000000 in
set_option maxRecDepth 100000 in
theorem c_Model_count (l : Launch) (G : fm_G) (N : Nat) (M : fm_M) (v1 : Int32) (r : Int32) (M' : fm_M) (hf : pModel_count N M v1 = some (r, M')) : fm_Met l yX10_count cX10_count 2 (some .int) { frames := 2, cells := 0, slots := 0, locals := 44 } shM G [.ref (G.2.1 0), .int v1] M (some (.int r)) M' := by
  refine fm_enter (by decide) (Nat.le_of_ble_eq_true rfl) ?_
  intro p e s m args below meth c ls C E hl
  have hl : lv_has ls 2 [(0, .ref (G.2.1 0)), (1, .int v1)] := hl
  unfold pModel_count at hf
  refine lv_aload_n C.1 C.2.1 dX10_count_0 rfl (lv_at hl 0 rfl) ?_
  refine lv_iconst (v := 0) C.1 C.2.1 dX10_count_1 (by decide) ?_
  obtain ⟨M2, e2, hf⟩ := fm_pt_s hf
  refine fm_put' C E e2 lp_X10_77 hM_0 rfl dX10_count_2 (fun H locs E => ?_)
  refine lv_iload_n C.1 C.2.1 dX10_count_5 rfl (lv_at hl 1 rfl) ?_
  rcases fm_io hf with ⟨hs6_0, hf⟩ | ⟨hs6_0, hf⟩
  · refine fm_tcase C dX10_count_6 hs6_0 (by decide) (by decide) (off := 50) (by decide) (tgt := 56) (by decide) ?_
    refine lv_aload_n C.1 C.2.1 dX10_count_56 rfl (lv_at hl 0 rfl) ?_
    refine fm_getr C E lf_X10_9 hM_0 rfl dX10_count_57 ?_
    refine lv_iconst (v := 0) C.1 C.2.1 dX10_count_60 (by decide) ?_
    refine fm_ialdc C E 0 (by decide) hM_1 (by decide) dX10_count_61 ?_
    obtain ⟨rfl, rfl⟩ := fm_rt2 hf
    exact fm_iret C E rfl rfl dX10_count_62
  · rcases fm_io hf with ⟨hs6_1, hf⟩ | ⟨hs6_1, hf⟩
    · refine fm_tcase C dX10_count_6 hs6_1 (by decide) (by decide) (off := 57) (by decide) (tgt := 63) (by decide) ?_
      refine lv_aload_n C.1 C.2.1 dX10_count_63 rfl (lv_at hl 0 rfl) ?_
      refine fm_getr C E lf_X10_9 hM_0 rfl dX10_count_64 ?_
      refine lv_bipush (v := 40) C.1 C.2.1 dX10_count_67 (by decide) ?_
      refine fm_ialdc C E 40 (by decide) hM_1 (by decide) dX10_count_69 ?_
      obtain ⟨rfl, rfl⟩ := fm_rt2 hf
      exact fm_iret C E rfl rfl dX10_count_70
    · rcases fm_io hf with ⟨hs6_2, hf⟩ | ⟨hs6_2, hf⟩
      · refine fm_tcase C dX10_count_6 hs6_2 (by decide) (by decide) (off := 65) (by decide) (tgt := 71) (by decide) ?_
        refine lv_aload_n C.1 C.2.1 dX10_count_71 rfl (lv_at hl 0 rfl) ?_
        obtain ⟨x72, hc72, hf⟩ := fm_bd hf
        refine fm_callV C E [] [] lm_X10_204 wk_X10_liveBits (c_Model_liveBits l G N _ _  hc72) hM_0 rfl rfl rfl hl.1 (by simp [Value.category]) ⟨⟨rfl, rfl⟩, by decide, by decide⟩ ⟨by decide, by decide⟩ dX10_count_72 rfl (fun H locs E => ?_)
        refine W.eq (g2 := F0 m 75 ls (.int x72 :: [])) rfl ?_
        obtain ⟨rfl, rfl⟩ := fm_rt2 hf
        exact fm_iret C E rfl rfl dX10_count_75
      · rcases fm_io hf with ⟨hs6_3, hf⟩ | ⟨hs6_3, hf⟩
        · refine fm_tcase C dX10_count_6 hs6_3 (by decide) (by decide) (off := 70) (by decide) (tgt := 76) (by decide) ?_
          refine lv_aload_n C.1 C.2.1 dX10_count_76 rfl (lv_at hl 0 rfl) ?_
          refine fm_getr C E lf_X10_9 hM_0 rfl dX10_count_77 ?_
          refine lv_bipush (v := 37) C.1 C.2.1 dX10_count_80 (by decide) ?_
          refine lv_iload_n C.1 C.2.1 dX10_count_82 rfl (lv_at hl 1 rfl) ?_
          refine lv_iadd C.1 C.2.1 dX10_count_83 ?_
          refine lv_iconst (v := 3) C.1 C.2.1 dX10_count_84 (by decide) ?_
          refine lv_isub C.1 C.2.1 dX10_count_85 ?_
          obtain ⟨h86, x86, e86, hf⟩ := fm_ld_e hf
          refine fm_iald' C E e86 hM_1 h86 dX10_count_86 ?_
          obtain ⟨rfl, rfl⟩ := fm_rt2 hf
          exact fm_iret C E rfl rfl dX10_count_87
        · rcases fm_io hf with ⟨hs6_4, hf⟩ | ⟨hs6_4, hf⟩
          · refine fm_tcase C dX10_count_6 hs6_4 (by decide) (by decide) (off := 70) (by decide) (tgt := 76) (by decide) ?_
            refine lv_aload_n C.1 C.2.1 dX10_count_76 rfl (lv_at hl 0 rfl) ?_
            refine fm_getr C E lf_X10_9 hM_0 rfl dX10_count_77 ?_
            refine lv_bipush (v := 37) C.1 C.2.1 dX10_count_80 (by decide) ?_
            refine lv_iload_n C.1 C.2.1 dX10_count_82 rfl (lv_at hl 1 rfl) ?_
            refine lv_iadd C.1 C.2.1 dX10_count_83 ?_
            refine lv_iconst (v := 3) C.1 C.2.1 dX10_count_84 (by decide) ?_
            refine lv_isub C.1 C.2.1 dX10_count_85 ?_
            obtain ⟨h86, x86, e86, hf⟩ := fm_ld_e hf
            refine fm_iald' C E e86 hM_1 h86 dX10_count_86 ?_
            obtain ⟨rfl, rfl⟩ := fm_rt2 hf
            exact fm_iret C E rfl rfl dX10_count_87
          · rcases fm_io hf with ⟨hs6_5, hf⟩ | ⟨hs6_5, hf⟩
            · refine fm_tcase C dX10_count_6 hs6_5 (by decide) (by decide) (off := 70) (by decide) (tgt := 76) (by decide) ?_
              refine lv_aload_n C.1 C.2.1 dX10_count_76 rfl (lv_at hl 0 rfl) ?_
              refine fm_getr C E lf_X10_9 hM_0 rfl dX10_count_77 ?_
              refine lv_bipush (v := 37) C.1 C.2.1 dX10_count_80 (by decide) ?_
              refine lv_iload_n C.1 C.2.1 dX10_count_82 rfl (lv_at hl 1 rfl) ?_
              refine lv_iadd C.1 C.2.1 dX10_count_83 ?_
              refine lv_iconst (v := 3) C.1 C.2.1 dX10_count_84 (by decide) ?_
              refine lv_isub C.1 C.2.1 dX10_count_85 ?_
              obtain ⟨h86, x86, e86, hf⟩ := fm_ld_e hf
              refine fm_iald' C E e86 hM_1 h86 dX10_count_86 ?_
              obtain ⟨rfl, rfl⟩ := fm_rt2 hf
              exact fm_iret C E rfl rfl dX10_count_87
            · rcases fm_io hf with ⟨hs6_6, hf⟩ | ⟨hs6_6, hf⟩
              · refine fm_tcase C dX10_count_6 hs6_6 (by decide) (by decide) (off := 82) (by decide) (tgt := 88) (by decide) ?_
                refine lv_aload_n C.1 C.2.1 dX10_count_88 rfl (lv_at hl 0 rfl) ?_
                refine fm_geti C E lf_X10_291 hM_0 rfl dX10_count_89 ?_
                obtain ⟨rfl, rfl⟩ := fm_rt2 hf
                exact fm_iret C E rfl rfl dX10_count_92
              · rcases fm_io hf with ⟨hs6_7, hf⟩ | ⟨hs6_7, hf⟩
                · refine fm_tcase C dX10_count_6 hs6_7 (by decide) (by decide) (off := 87) (by decide) (tgt := 93) (by decide) ?_
                  refine lv_aload_n C.1 C.2.1 dX10_count_93 rfl (lv_at hl 0 rfl) ?_
                  refine fm_geti C E lf_X10_80 hM_0 rfl dX10_count_94 ?_
                  obtain ⟨rfl, rfl⟩ := fm_rt2 hf
                  exact fm_iret C E rfl rfl dX10_count_97
                · rcases fm_io hf with ⟨hs6_8, hf⟩ | ⟨hs6_8, hf⟩
                  · refine fm_tcase C dX10_count_6 hs6_8 (by decide) (by decide) (off := 92) (by decide) (tgt := 98) (by decide) ?_
                    refine lv_aload_n C.1 C.2.1 dX10_count_98 rfl (lv_at hl 0 rfl) ?_
                    refine fm_geti C E lf_X10_87 hM_0 rfl dX10_count_99 ?_
                    obtain ⟨rfl, rfl⟩ := fm_rt2 hf
                    exact fm_iret C E rfl rfl dX10_count_102
                  · refine fm_tdef C dX10_count_6 [0, 1, 2, 3, 4, 5, 6, 7, 8] (by intro v hv; rcases List.mem_cons.mp hv with rfl | hv; exact lv_neT hs6_0 (by decide); rcases List.mem_cons.mp hv with rfl | hv; exact lv_neT hs6_1 (by decide); rcases List.mem_cons.mp hv with rfl | hv; exact lv_neT hs6_2 (by decide); rcases List.mem_cons.mp hv with rfl | hv; exact lv_neT hs6_3 (by decide); rcases List.mem_cons.mp hv with rfl | hv; exact lv_neT hs6_4 (by decide); rcases List.mem_cons.mp hv with rfl | hv; exact lv_neT hs6_5 (by decide); rcases List.mem_cons.mp hv with rfl | hv; exact lv_neT hs6_6 (by decide); rcases List.mem_cons.mp hv with rfl | hv; exact lv_neT hs6_7 (by decide); rcases List.mem_cons.mp hv with rfl | hv; exact lv_neT hs6_8 (by decide); exact absurd hv (by simp)) (by decide) (by decide) (tgt := 103) (by decide) ?_
                    refine lv_iconst (v := (-1)) C.1 C.2.1 dX10_count_103 (by decide) ?_
                    obtain ⟨rfl, rfl⟩ := fm_rt2 hf
                    exact fm_iret C E rfl rfl dX10_count_104
theorem dX10_row_0 : decode cX10_row 0 = .ok (.aload_n 0, 1) := by decide +kernel
theorem dX10_row_1 : decode cX10_row 1 = .ok (.iconst 0, 1) := by decide +kernel
theorem dX10_row_2 : decode cX10_row 2 = .ok (.putfield 77, 3) := by decide +kernel
theorem dX10_row_5 : decode cX10_row 5 = .ok (.iload_n 1, 1) := by decide +kernel
theorem dX10_row_6 : decode cX10_row 6 = .ok (.iconst 0, 1) := by decide +kernel
theorem dX10_row_7 : decode cX10_row 7 = .ok (.aload_n 0, 1) := by decide +kernel
theorem dX10_row_8 : decode cX10_row 8 = .ok (.getfield 80, 3) := by decide +kernel
theorem dX10_row_11 : decode cX10_row 11 = .ok (.iconst 1, 1) := by decide +kernel
theorem dX10_row_12 : decode cX10_row 12 = .ok (.isub, 1) := by decide +kernel
theorem dX10_row_13 : decode cX10_row 13 = .ok (.invokestatic 83, 3) := by decide +kernel
theorem dX10_row_16 : decode cX10_row 16 = .ok (.ifCond .eq 12, 3) := by decide +kernel
theorem dX10_row_19 : decode cX10_row 19 = .ok (.aload_n 0, 1) := by decide +kernel
theorem dX10_row_20 : decode cX10_row 20 = .ok (.getfield 17, 3) := by decide +kernel
theorem dX10_row_23 : decode cX10_row 23 = .ok (.iload_n 1, 1) := by decide +kernel
theorem dX10_row_24 : decode cX10_row 24 = .ok (.laload, 1) := by decide +kernel
theorem dX10_row_25 : decode cX10_row 25 = .ok (.goto 8, 3) := by decide +kernel
theorem dX10_row_28 : decode cX10_row 28 = .ok (.aload_n 0, 1) := by decide +kernel
theorem dX10_row_29 : decode cX10_row 29 = .ok (.invokevirtual 157, 3) := by decide +kernel
theorem dX10_row_32 : decode cX10_row 32 = .ok (.i2l, 1) := by decide +kernel
theorem dX10_row_33 : decode cX10_row 33 = .ok (.lreturn, 1) := by decide +kernel
set_option maxHeartbeats 4000000 in
set_option maxRecDepth 100000 in
theorem c_Model_row (l : Launch) (G : fm_G) (M : fm_M) (v1 : Int32) (r : Int64) (M' : fm_M) (hf : pModel_row M v1 = some (r, M')) : fm_Met l yX10_row cX10_row 2 (some .long) { frames := 1, cells := 0, slots := 0, locals := 22 } shM G [.ref (G.2.1 0), .int v1] M (some (.long r)) M' := by
  refine fm_enter (by decide) (Nat.le_of_ble_eq_true rfl) ?_
  intro p e s m args below meth c ls C E hl
  have hl : lv_has ls 2 [(0, .ref (G.2.1 0)), (1, .int v1)] := hl
  unfold pModel_row at hf
  refine lv_aload_n C.1 C.2.1 dX10_row_0 rfl (lv_at hl 0 rfl) ?_
  refine lv_iconst (v := 0) C.1 C.2.1 dX10_row_1 (by decide) ?_
  obtain ⟨M2, e2, hf⟩ := fm_pt_s hf
  refine fm_put' C E e2 lp_X10_77 hM_0 rfl dX10_row_2 (fun H locs E => ?_)
  refine lv_iload_n C.1 C.2.1 dX10_row_5 rfl (lv_at hl 1 rfl) ?_
  refine lv_iconst (v := 0) C.1 C.2.1 dX10_row_6 (by decide) ?_
  refine lv_aload_n C.1 C.2.1 dX10_row_7 rfl (lv_at hl 0 rfl) ?_
  refine fm_geti C E lf_X10_80 hM_0 rfl dX10_row_8 ?_
  refine lv_iconst (v := 1) C.1 C.2.1 dX10_row_11 (by decide) ?_
  refine lv_isub C.1 C.2.1 dX10_row_12 ?_
  obtain ⟨x13, hc13, hf⟩ := fm_bd hf
  refine fm_callS C E [.int _, .int _, .int _] [] lm_X10_83 wk_X10_in (c_Model_in l G _ _ _ _ _  hc13) rfl hl.1 (by simp [Value.category]) ⟨⟨rfl, rfl⟩, by decide, by decide⟩ ⟨by decide, by decide⟩ dX10_row_13 rfl (fun H locs E => ?_)
  refine W.eq (g2 := F0 m 16 ls (.int x13 :: [])) rfl ?_
  refine lv_if_eq (tgt := 28) C.1 C.2.1 dX10_row_16 (by decide) (fun hc16 => ?_) (fun hc16 => ?_)
  · have hf := fm_ip hf hc16
    refine lv_aload_n C.1 C.2.1 dX10_row_28 rfl (lv_at hl 0 rfl) ?_
    obtain ⟨⟨x29, M29⟩, hc29, hf⟩ := fm_bd hf
    dsimp only at hf
    refine fm_callV C E [] [] lm_X10_157 wk_X10_lost (c_Model_lost l G _ _ _ hc29) hM_0 rfl rfl rfl hl.1 (by simp [Value.category]) ⟨⟨rfl, rfl⟩, by decide, by decide⟩ ⟨by decide, by decide⟩ dX10_row_29 rfl (fun H locs E => ?_)
    refine W.eq (g2 := F0 m 32 ls (.int x29 :: [])) rfl ?_
    refine lv_i2l C.1 C.2.1 dX10_row_32 rfl ?_
    obtain ⟨rfl, rfl⟩ := fm_rt2 hf
    exact fm_lret C E rfl dX10_row_33
  · have hf := fm_in' hf hc16
    refine lv_aload_n C.1 C.2.1 dX10_row_19 rfl (lv_at hl 0 rfl) ?_
    refine fm_getr C E lf_X10_17 hM_0 rfl dX10_row_20 ?_
    refine lv_iload_n C.1 C.2.1 dX10_row_23 rfl (lv_at hl 1 rfl) ?_
    obtain ⟨h24, x24, e24, hf⟩ := fm_ldl_e hf
    refine fm_lald' C E e24 hM_3 h24 dX10_row_24 ?_
    refine lv_goto (tgt := 33) C.1 C.2.1 dX10_row_25 (by decide) ?_
    obtain ⟨rfl, rfl⟩ := fm_rt2 hf
    exact fm_lret C E rfl dX10_row_33
theorem dJ6_compare_7cf53_0 : decode cJ6_compare_7cf53 0 = .ok (.iload_n 0, 1) := by decide +kernel
theorem dJ6_compare_7cf53_1 : decode cJ6_compare_7cf53 1 = .ok (.iload_n 1, 1) := by decide +kernel
theorem dJ6_compare_7cf53_2 : decode cJ6_compare_7cf53 2 = .ok (.if_icmp .ge 7, 3) := by decide +kernel
theorem dJ6_compare_7cf53_5 : decode cJ6_compare_7cf53 5 = .ok (.iconst (-1), 1) := by decide +kernel
theorem dJ6_compare_7cf53_6 : decode cJ6_compare_7cf53 6 = .ok (.goto 13, 3) := by decide +kernel
theorem dJ6_compare_7cf53_9 : decode cJ6_compare_7cf53 9 = .ok (.iload_n 0, 1) := by decide +kernel
theorem dJ6_compare_7cf53_10 : decode cJ6_compare_7cf53 10 = .ok (.iload_n 1, 1) := by decide +kernel
theorem dJ6_compare_7cf53_11 : decode cJ6_compare_7cf53 11 = .ok (.if_icmp .ne 7, 3) := by decide +kernel
theorem dJ6_compare_7cf53_14 : decode cJ6_compare_7cf53 14 = .ok (.iconst 0, 1) := by decide +kernel
theorem dJ6_compare_7cf53_15 : decode cJ6_compare_7cf53 15 = .ok (.goto 4, 3) := by decide +kernel
theorem dJ6_compare_7cf53_18 : decode cJ6_compare_7cf53 18 = .ok (.iconst 1, 1) := by decide +kernel
theorem dJ6_compare_7cf53_19 : decode cJ6_compare_7cf53 19 = .ok (.ireturn, 1) := by decide +kernel
set_option maxHeartbeats 4000000 in
set_option maxRecDepth 100000 in
theorem c_Integer_compare (l : Launch) (G : fm_G) (M : fm_M) (v0 : Int32) (v1 : Int32) (r : Int32) (hf : pInteger_compare M v0 v1 = some r) : fm_Met l yJ6_compare_7cf53 cJ6_compare_7cf53 2 (some .int) { frames := 0, cells := 0, slots := 0, locals := 0 } shC G [.int v0, .int v1] M (some (.int r)) M := by
  refine fm_enterF (by decide +kernel) (Nat.le_of_ble_eq_true rfl) ?_
  intro p e s m args below meth c ls C E hl
  have hl : lv_has ls 2 [(0, .int v0), (1, .int v1)] := hl
  unfold pInteger_compare at hf
  refine lv_iload_n C.1 C.2.1 dJ6_compare_7cf53_0 rfl (lv_at hl 0 rfl) ?_
  refine lv_iload_n C.1 C.2.1 dJ6_compare_7cf53_1 rfl (lv_at hl 1 rfl) ?_
  refine lv_icmp_ge (tgt := 9) C.1 C.2.1 dJ6_compare_7cf53_2 (by decide) (fun hc2 => ?_) (fun hc2 => ?_)
  · have hf := fm_ip hf hc2
    refine lv_iload_n C.1 C.2.1 dJ6_compare_7cf53_9 rfl (lv_at hl 0 rfl) ?_
    refine lv_iload_n C.1 C.2.1 dJ6_compare_7cf53_10 rfl (lv_at hl 1 rfl) ?_
    refine lv_icmp_ne (tgt := 18) C.1 C.2.1 dJ6_compare_7cf53_11 (by decide) (fun hc11 => ?_) (fun hc11 => ?_)
    · have hf := fm_in' hf hc11
      refine lv_iconst (v := 1) C.1 C.2.1 dJ6_compare_7cf53_18 (by decide) ?_
      obtain rfl := fm_rt1 hf
      exact fm_iret C E rfl rfl dJ6_compare_7cf53_19
    · have hf := fm_ip hf hc11
      refine lv_iconst (v := 0) C.1 C.2.1 dJ6_compare_7cf53_14 (by decide) ?_
      refine lv_goto (tgt := 19) C.1 C.2.1 dJ6_compare_7cf53_15 (by decide) ?_
      obtain rfl := fm_rt1 hf
      exact fm_iret C E rfl rfl dJ6_compare_7cf53_19
  · have hf := fm_in' hf hc2
    refine lv_iconst (v := (-1)) C.1 C.2.1 dJ6_compare_7cf53_5 (by decide) ?_
    refine lv_goto (tgt := 19) C.1 C.2.1 dJ6_compare_7cf53_6 (by decide) ?_
    obtain rfl := fm_rt1 hf
    exact fm_iret C E rfl rfl dJ6_compare_7cf53_19
theorem dJ6_bitCount_0f7a4_0 : decode cJ6_bitCount_0f7a4 0 = .ok (.iload_n 0, 1) := by decide +kernel
theorem dJ6_bitCount_0f7a4_1 : decode cJ6_bitCount_0f7a4 1 = .ok (.iload_n 0, 1) := by decide +kernel
theorem dJ6_bitCount_0f7a4_2 : decode cJ6_bitCount_0f7a4 2 = .ok (.iconst 1, 1) := by decide +kernel
theorem dJ6_bitCount_0f7a4_3 : decode cJ6_bitCount_0f7a4 3 = .ok (.iushr, 1) := by decide +kernel
theorem dJ6_bitCount_0f7a4_4 : decode cJ6_bitCount_0f7a4 4 = .ok (.ldc_w 265, 3) := by decide +kernel
theorem dJ6_bitCount_0f7a4_7 : decode cJ6_bitCount_0f7a4 7 = .ok (.iand, 1) := by decide +kernel
theorem dJ6_bitCount_0f7a4_8 : decode cJ6_bitCount_0f7a4 8 = .ok (.isub, 1) := by decide +kernel
theorem dJ6_bitCount_0f7a4_9 : decode cJ6_bitCount_0f7a4 9 = .ok (.istore_n 0, 1) := by decide +kernel
theorem dJ6_bitCount_0f7a4_10 : decode cJ6_bitCount_0f7a4 10 = .ok (.iload_n 0, 1) := by decide +kernel
theorem dJ6_bitCount_0f7a4_11 : decode cJ6_bitCount_0f7a4 11 = .ok (.ldc_w 266, 3) := by decide +kernel
theorem dJ6_bitCount_0f7a4_14 : decode cJ6_bitCount_0f7a4 14 = .ok (.iand, 1) := by decide +kernel
theorem dJ6_bitCount_0f7a4_15 : decode cJ6_bitCount_0f7a4 15 = .ok (.iload_n 0, 1) := by decide +kernel
theorem dJ6_bitCount_0f7a4_16 : decode cJ6_bitCount_0f7a4 16 = .ok (.iconst 2, 1) := by decide +kernel
theorem dJ6_bitCount_0f7a4_17 : decode cJ6_bitCount_0f7a4 17 = .ok (.iushr, 1) := by decide +kernel
theorem dJ6_bitCount_0f7a4_18 : decode cJ6_bitCount_0f7a4 18 = .ok (.ldc_w 266, 3) := by decide +kernel
theorem dJ6_bitCount_0f7a4_21 : decode cJ6_bitCount_0f7a4 21 = .ok (.iand, 1) := by decide +kernel
theorem dJ6_bitCount_0f7a4_22 : decode cJ6_bitCount_0f7a4 22 = .ok (.iadd, 1) := by decide +kernel
theorem dJ6_bitCount_0f7a4_23 : decode cJ6_bitCount_0f7a4 23 = .ok (.istore_n 0, 1) := by decide +kernel
theorem dJ6_bitCount_0f7a4_24 : decode cJ6_bitCount_0f7a4 24 = .ok (.iload_n 0, 1) := by decide +kernel
theorem dJ6_bitCount_0f7a4_25 : decode cJ6_bitCount_0f7a4 25 = .ok (.iload_n 0, 1) := by decide +kernel
theorem dJ6_bitCount_0f7a4_26 : decode cJ6_bitCount_0f7a4 26 = .ok (.iconst 4, 1) := by decide +kernel
theorem dJ6_bitCount_0f7a4_27 : decode cJ6_bitCount_0f7a4 27 = .ok (.iushr, 1) := by decide +kernel
theorem dJ6_bitCount_0f7a4_28 : decode cJ6_bitCount_0f7a4 28 = .ok (.iadd, 1) := by decide +kernel
theorem dJ6_bitCount_0f7a4_29 : decode cJ6_bitCount_0f7a4 29 = .ok (.ldc_w 267, 3) := by decide +kernel
theorem dJ6_bitCount_0f7a4_32 : decode cJ6_bitCount_0f7a4 32 = .ok (.iand, 1) := by decide +kernel
theorem dJ6_bitCount_0f7a4_33 : decode cJ6_bitCount_0f7a4 33 = .ok (.istore_n 0, 1) := by decide +kernel
theorem dJ6_bitCount_0f7a4_34 : decode cJ6_bitCount_0f7a4 34 = .ok (.iload_n 0, 1) := by decide +kernel
theorem dJ6_bitCount_0f7a4_35 : decode cJ6_bitCount_0f7a4 35 = .ok (.iload_n 0, 1) := by decide +kernel
theorem dJ6_bitCount_0f7a4_36 : decode cJ6_bitCount_0f7a4 36 = .ok (.bipush 8, 2) := by decide +kernel
theorem dJ6_bitCount_0f7a4_38 : decode cJ6_bitCount_0f7a4 38 = .ok (.iushr, 1) := by decide +kernel
theorem dJ6_bitCount_0f7a4_39 : decode cJ6_bitCount_0f7a4 39 = .ok (.iadd, 1) := by decide +kernel
theorem dJ6_bitCount_0f7a4_40 : decode cJ6_bitCount_0f7a4 40 = .ok (.istore_n 0, 1) := by decide +kernel
theorem dJ6_bitCount_0f7a4_41 : decode cJ6_bitCount_0f7a4 41 = .ok (.iload_n 0, 1) := by decide +kernel
theorem dJ6_bitCount_0f7a4_42 : decode cJ6_bitCount_0f7a4 42 = .ok (.iload_n 0, 1) := by decide +kernel
theorem dJ6_bitCount_0f7a4_43 : decode cJ6_bitCount_0f7a4 43 = .ok (.bipush 16, 2) := by decide +kernel
theorem dJ6_bitCount_0f7a4_45 : decode cJ6_bitCount_0f7a4 45 = .ok (.iushr, 1) := by decide +kernel
theorem dJ6_bitCount_0f7a4_46 : decode cJ6_bitCount_0f7a4 46 = .ok (.iadd, 1) := by decide +kernel
theorem dJ6_bitCount_0f7a4_47 : decode cJ6_bitCount_0f7a4 47 = .ok (.istore_n 0, 1) := by decide +kernel
theorem dJ6_bitCount_0f7a4_48 : decode cJ6_bitCount_0f7a4 48 = .ok (.iload_n 0, 1) := by decide +kernel
theorem dJ6_bitCount_0f7a4_49 : decode cJ6_bitCount_0f7a4 49 = .ok (.bipush 63, 2) := by decide +kernel
theorem dJ6_bitCount_0f7a4_51 : decode cJ6_bitCount_0f7a4 51 = .ok (.iand, 1) := by decide +kernel
theorem dJ6_bitCount_0f7a4_52 : decode cJ6_bitCount_0f7a4 52 = .ok (.ireturn, 1) := by decide +kernel
set_option maxHeartbeats 4000000 in
set_option maxRecDepth 100000 in
theorem c_Integer_bitCount (l : Launch) (G : fm_G) (M : fm_M) (v0 : Int32) (r : Int32) (hf : pInteger_bitCount M v0 = some r) : fm_Met l yJ6_bitCount_0f7a4 cJ6_bitCount_0f7a4 1 (some .int) { frames := 0, cells := 0, slots := 0, locals := 0 } shC G [.int v0] M (some (.int r)) M := by
  refine fm_enterF (by decide +kernel) (Nat.le_of_ble_eq_true rfl) ?_
  intro p e s m args below meth c ls C E hl
  have hl : lv_has ls 1 [(0, .int v0)] := hl
  unfold pInteger_bitCount at hf
  refine lv_iload_n C.1 C.2.1 dJ6_bitCount_0f7a4_0 rfl (lv_at hl 0 rfl) ?_
  refine lv_iload_n C.1 C.2.1 dJ6_bitCount_0f7a4_1 rfl (lv_at hl 0 rfl) ?_
  refine lv_iconst (v := 1) C.1 C.2.1 dJ6_bitCount_0f7a4_2 (by decide) ?_
  refine lv_iushr C.1 C.2.1 dJ6_bitCount_0f7a4_3 rfl ?_
  refine lv_ldcw C.1 C.2.1 C.2.2.2.1 (C.2.2.2.2.1 _ wc_564) dJ6_bitCount_0f7a4_4 ?_
  refine lv_iand C.1 C.2.1 dJ6_bitCount_0f7a4_7 ?_
  refine lv_isub C.1 C.2.1 dJ6_bitCount_0f7a4_8 ?_
  refine lv_istore_n (lv' := [(0, .int _)]) C.1 C.2.1 dJ6_bitCount_0f7a4_9 rfl hl (by decide) rfl (fun ls hl => ?_)
  refine lv_iload_n C.1 C.2.1 dJ6_bitCount_0f7a4_10 rfl (lv_at hl 0 rfl) ?_
  refine lv_ldcw C.1 C.2.1 C.2.2.2.1 (C.2.2.2.2.1 _ wc_565) dJ6_bitCount_0f7a4_11 ?_
  refine lv_iand C.1 C.2.1 dJ6_bitCount_0f7a4_14 ?_
  refine lv_iload_n C.1 C.2.1 dJ6_bitCount_0f7a4_15 rfl (lv_at hl 0 rfl) ?_
  refine lv_iconst (v := 2) C.1 C.2.1 dJ6_bitCount_0f7a4_16 (by decide) ?_
  refine lv_iushr C.1 C.2.1 dJ6_bitCount_0f7a4_17 rfl ?_
  refine lv_ldcw C.1 C.2.1 C.2.2.2.1 (C.2.2.2.2.1 _ wc_565) dJ6_bitCount_0f7a4_18 ?_
  refine lv_iand C.1 C.2.1 dJ6_bitCount_0f7a4_21 ?_
  refine lv_iadd C.1 C.2.1 dJ6_bitCount_0f7a4_22 ?_
  refine lv_istore_n (lv' := [(0, .int _)]) C.1 C.2.1 dJ6_bitCount_0f7a4_23 rfl hl (by decide) rfl (fun ls hl => ?_)
  refine lv_iload_n C.1 C.2.1 dJ6_bitCount_0f7a4_24 rfl (lv_at hl 0 rfl) ?_
  refine lv_iload_n C.1 C.2.1 dJ6_bitCount_0f7a4_25 rfl (lv_at hl 0 rfl) ?_
  refine lv_iconst (v := 4) C.1 C.2.1 dJ6_bitCount_0f7a4_26 (by decide) ?_
  refine lv_iushr C.1 C.2.1 dJ6_bitCount_0f7a4_27 rfl ?_
  refine lv_iadd C.1 C.2.1 dJ6_bitCount_0f7a4_28 ?_
  refine lv_ldcw C.1 C.2.1 C.2.2.2.1 (C.2.2.2.2.1 _ wc_566) dJ6_bitCount_0f7a4_29 ?_
  refine lv_iand C.1 C.2.1 dJ6_bitCount_0f7a4_32 ?_
  refine lv_istore_n (lv' := [(0, .int _)]) C.1 C.2.1 dJ6_bitCount_0f7a4_33 rfl hl (by decide) rfl (fun ls hl => ?_)
  refine lv_iload_n C.1 C.2.1 dJ6_bitCount_0f7a4_34 rfl (lv_at hl 0 rfl) ?_
  refine lv_iload_n C.1 C.2.1 dJ6_bitCount_0f7a4_35 rfl (lv_at hl 0 rfl) ?_
  refine lv_bipush (v := 8) C.1 C.2.1 dJ6_bitCount_0f7a4_36 (by decide) ?_
  refine lv_iushr C.1 C.2.1 dJ6_bitCount_0f7a4_38 rfl ?_
  refine lv_iadd C.1 C.2.1 dJ6_bitCount_0f7a4_39 ?_
  refine lv_istore_n (lv' := [(0, .int _)]) C.1 C.2.1 dJ6_bitCount_0f7a4_40 rfl hl (by decide) rfl (fun ls hl => ?_)
  refine lv_iload_n C.1 C.2.1 dJ6_bitCount_0f7a4_41 rfl (lv_at hl 0 rfl) ?_
  refine lv_iload_n C.1 C.2.1 dJ6_bitCount_0f7a4_42 rfl (lv_at hl 0 rfl) ?_
  refine lv_bipush (v := 16) C.1 C.2.1 dJ6_bitCount_0f7a4_43 (by decide) ?_
  refine lv_iushr C.1 C.2.1 dJ6_bitCount_0f7a4_45 rfl ?_
  refine lv_iadd C.1 C.2.1 dJ6_bitCount_0f7a4_46 ?_
  refine lv_istore_n (lv' := [(0, .int _)]) C.1 C.2.1 dJ6_bitCount_0f7a4_47 rfl hl (by decide) rfl (fun ls hl => ?_)
  refine lv_iload_n C.1 C.2.1 dJ6_bitCount_0f7a4_48 rfl (lv_at hl 0 rfl) ?_
  refine lv_bipush (v := 63) C.1 C.2.1 dJ6_bitCount_0f7a4_49 (by decide) ?_
  refine lv_iand C.1 C.2.1 dJ6_bitCount_0f7a4_51 ?_
  obtain rfl := fm_rt1 hf
  exact fm_iret C E rfl rfl dJ6_bitCount_0f7a4_52
theorem dJ9_floorMod_7cf53_0 : decode cJ9_floorMod_7cf53 0 = .ok (.iload_n 0, 1) := by decide +kernel
theorem dJ9_floorMod_7cf53_1 : decode cJ9_floorMod_7cf53 1 = .ok (.iload_n 1, 1) := by decide +kernel
theorem dJ9_floorMod_7cf53_2 : decode cJ9_floorMod_7cf53 2 = .ok (.irem, 1) := by decide +kernel
theorem dJ9_floorMod_7cf53_3 : decode cJ9_floorMod_7cf53 3 = .ok (.istore_n 2, 1) := by decide +kernel
theorem dJ9_floorMod_7cf53_4 : decode cJ9_floorMod_7cf53 4 = .ok (.iload_n 0, 1) := by decide +kernel
theorem dJ9_floorMod_7cf53_5 : decode cJ9_floorMod_7cf53 5 = .ok (.iload_n 1, 1) := by decide +kernel
theorem dJ9_floorMod_7cf53_6 : decode cJ9_floorMod_7cf53 6 = .ok (.ixor, 1) := by decide +kernel
theorem dJ9_floorMod_7cf53_7 : decode cJ9_floorMod_7cf53 7 = .ok (.ifCond .ge 11, 3) := by decide +kernel
theorem dJ9_floorMod_7cf53_10 : decode cJ9_floorMod_7cf53 10 = .ok (.iload_n 2, 1) := by decide +kernel
theorem dJ9_floorMod_7cf53_11 : decode cJ9_floorMod_7cf53 11 = .ok (.ifCond .eq 7, 3) := by decide +kernel
theorem dJ9_floorMod_7cf53_14 : decode cJ9_floorMod_7cf53 14 = .ok (.iload_n 2, 1) := by decide +kernel
theorem dJ9_floorMod_7cf53_15 : decode cJ9_floorMod_7cf53 15 = .ok (.iload_n 1, 1) := by decide +kernel
theorem dJ9_floorMod_7cf53_16 : decode cJ9_floorMod_7cf53 16 = .ok (.iadd, 1) := by decide +kernel
theorem dJ9_floorMod_7cf53_17 : decode cJ9_floorMod_7cf53 17 = .ok (.ireturn, 1) := by decide +kernel
theorem dJ9_floorMod_7cf53_18 : decode cJ9_floorMod_7cf53 18 = .ok (.iload_n 2, 1) := by decide +kernel
theorem dJ9_floorMod_7cf53_19 : decode cJ9_floorMod_7cf53 19 = .ok (.ireturn, 1) := by decide +kernel
set_option maxHeartbeats 4000000 in
set_option maxRecDepth 100000 in
theorem c_Math_floorMod (l : Launch) (G : fm_G) (M : fm_M) (v0 : Int32) (v1 : Int32) (r : Int32) (hf : pMath_floorMod M v0 v1 = some r) : fm_Met l yJ9_floorMod_7cf53 cJ9_floorMod_7cf53 3 (some .int) { frames := 0, cells := 0, slots := 0, locals := 0 } shC G [.int v0, .int v1] M (some (.int r)) M := by
  refine fm_enterF (by decide +kernel) (Nat.le_of_ble_eq_true rfl) ?_
  intro p e s m args below meth c ls C E hl
  have hl : lv_has ls 3 [(0, .int v0), (1, .int v1)] := hl
  unfold pMath_floorMod at hf
  refine lv_iload_n C.1 C.2.1 dJ9_floorMod_7cf53_0 rfl (lv_at hl 0 rfl) ?_
  refine lv_iload_n C.1 C.2.1 dJ9_floorMod_7cf53_1 rfl (lv_at hl 1 rfl) ?_
  obtain ⟨hz2, hf⟩ := fm_nz_s hf
  refine lv_irem C.1 C.2.1 dJ9_floorMod_7cf53_2 hz2 ?_
  refine lv_istore_n (lv' := [(2, .int _), (0, .int _), (1, .int _)]) C.1 C.2.1 dJ9_floorMod_7cf53_3 rfl hl (by decide) rfl (fun ls hl => ?_)
  refine lv_iload_n C.1 C.2.1 dJ9_floorMod_7cf53_4 rfl (lv_at hl 1 rfl) ?_
  refine lv_iload_n C.1 C.2.1 dJ9_floorMod_7cf53_5 rfl (lv_at hl 2 rfl) ?_
  refine lv_ixor C.1 C.2.1 dJ9_floorMod_7cf53_6 ?_
  refine lv_if_ge (tgt := 18) C.1 C.2.1 dJ9_floorMod_7cf53_7 (by decide) (fun hc7 => ?_) (fun hc7 => ?_)
  · have hf := fm_ip hf hc7
    refine lv_iload_n C.1 C.2.1 dJ9_floorMod_7cf53_18 rfl (lv_at hl 0 rfl) ?_
    obtain rfl := fm_rt1 hf
    exact fm_iret C E rfl rfl dJ9_floorMod_7cf53_19
  · have hf := fm_in' hf hc7
    refine lv_iload_n C.1 C.2.1 dJ9_floorMod_7cf53_10 rfl (lv_at hl 0 rfl) ?_
    refine lv_if_eq (tgt := 18) C.1 C.2.1 dJ9_floorMod_7cf53_11 (by decide) (fun hc11 => ?_) (fun hc11 => ?_)
    · have hf := fm_ip hf hc11
      refine lv_iload_n C.1 C.2.1 dJ9_floorMod_7cf53_18 rfl (lv_at hl 0 rfl) ?_
      obtain rfl := fm_rt1 hf
      exact fm_iret C E rfl rfl dJ9_floorMod_7cf53_19
    · have hf := fm_in' hf hc11
      refine lv_iload_n C.1 C.2.1 dJ9_floorMod_7cf53_14 rfl (lv_at hl 0 rfl) ?_
      refine lv_iload_n C.1 C.2.1 dJ9_floorMod_7cf53_15 rfl (lv_at hl 2 rfl) ?_
      refine lv_iadd C.1 C.2.1 dJ9_floorMod_7cf53_16 ?_
      obtain rfl := fm_rt1 hf
      exact fm_iret C E rfl rfl dJ9_floorMod_7cf53_17
theorem dJ0_coder_7d493_0 : decode cJ0_coder_7d493 0 = .ok (.getstatic 38, 3) := by decide +kernel
theorem dJ0_coder_7d493_3 : decode cJ0_coder_7d493 3 = .ok (.ifCond .eq 10, 3) := by decide +kernel
theorem dJ0_coder_7d493_6 : decode cJ0_coder_7d493 6 = .ok (.aload_n 0, 1) := by decide +kernel
theorem dJ0_coder_7d493_7 : decode cJ0_coder_7d493 7 = .ok (.getfield 15, 3) := by decide +kernel
theorem dJ0_coder_7d493_10 : decode cJ0_coder_7d493 10 = .ok (.goto 4, 3) := by decide +kernel
theorem dJ0_coder_7d493_13 : decode cJ0_coder_7d493 13 = .ok (.iconst 1, 1) := by decide +kernel
theorem dJ0_coder_7d493_14 : decode cJ0_coder_7d493 14 = .ok (.ireturn, 1) := by decide +kernel
set_option maxHeartbeats 4000000 in
set_option maxRecDepth 100000 in
theorem c_String_coder (l : Launch) (SH : List fm_Sh) (G : fm_G) (M : fm_M) (v0 : Nat) (r : Int32) (hf : pString_coder M v0 = some r) : fm_Met l yJ0_coder_7d493 cJ0_coder_7d493 1 (some .byte) { frames := 0, cells := 0, slots := 0, locals := 0 } SH G [.ref (G.2.2.2.1 v0)] M (some (.int r)) M := by
  refine fm_enterF (by decide +kernel) (Nat.le_of_ble_eq_true rfl) ?_
  intro p e s m args below meth c ls C E hl
  have hl : lv_has ls 1 [(0, .ref (G.2.2.2.1 v0))] := hl
  unfold pString_coder at hf
  obtain ⟨hi_v0, hf⟩ := fm_rq_s hf
  have hi_v0 := of_decide_eq_true hi_v0
  refine fm_cmp C E wf_869 dJ0_coder_7d493_0 ?_
  refine lv_if_eq (tgt := 13) C.1 C.2.1 dJ0_coder_7d493_3 (by decide) (fun hc3 => ?_) (fun hc3 => ?_)
  · have hf := fm_ip hf hc3
    refine lv_iconst (v := 1) C.1 C.2.1 dJ0_coder_7d493_13 (by decide) ?_
    obtain rfl := fm_rt1 hf
    exact fm_iret C E rfl rfl dJ0_coder_7d493_14
  · have hf := fm_in' hf hc3
    refine lv_aload_n C.1 C.2.1 dJ0_coder_7d493_6 rfl (lv_at hl 0 rfl) ?_
    refine fm_sco C E hi_v0 wf_1714 dJ0_coder_7d493_7 ?_
    refine lv_goto (tgt := 14) C.1 C.2.1 dJ0_coder_7d493_10 (by decide) ?_
    obtain rfl := fm_rt1 hf
    exact fm_iret C E rfl rfl dJ0_coder_7d493_14
theorem dJ0_isLatin1_aae02_0 : decode cJ0_isLatin1_aae02 0 = .ok (.getstatic 38, 3) := by decide +kernel
theorem dJ0_isLatin1_aae02_3 : decode cJ0_isLatin1_aae02 3 = .ok (.ifCond .eq 14, 3) := by decide +kernel
theorem dJ0_isLatin1_aae02_6 : decode cJ0_isLatin1_aae02 6 = .ok (.aload_n 0, 1) := by decide +kernel
theorem dJ0_isLatin1_aae02_7 : decode cJ0_isLatin1_aae02 7 = .ok (.getfield 15, 3) := by decide +kernel
theorem dJ0_isLatin1_aae02_10 : decode cJ0_isLatin1_aae02 10 = .ok (.ifCond .ne 7, 3) := by decide +kernel
theorem dJ0_isLatin1_aae02_13 : decode cJ0_isLatin1_aae02 13 = .ok (.iconst 1, 1) := by decide +kernel
theorem dJ0_isLatin1_aae02_14 : decode cJ0_isLatin1_aae02 14 = .ok (.goto 4, 3) := by decide +kernel
theorem dJ0_isLatin1_aae02_17 : decode cJ0_isLatin1_aae02 17 = .ok (.iconst 0, 1) := by decide +kernel
theorem dJ0_isLatin1_aae02_18 : decode cJ0_isLatin1_aae02 18 = .ok (.ireturn, 1) := by decide +kernel
set_option maxHeartbeats 4000000 in
set_option maxRecDepth 100000 in
theorem c_String_isLatin1 (l : Launch) (SH : List fm_Sh) (G : fm_G) (M : fm_M) (v0 : Nat) (r : Int32) (hf : pString_isLatin1 M v0 = some r) : fm_Met l yJ0_isLatin1_aae02 cJ0_isLatin1_aae02 1 (some .boolean) { frames := 0, cells := 0, slots := 0, locals := 0 } SH G [.ref (G.2.2.2.1 v0)] M (some (.int r)) M := by
  refine fm_enterF (by decide +kernel) (Nat.le_of_ble_eq_true rfl) ?_
  intro p e s m args below meth c ls C E hl
  have hl : lv_has ls 1 [(0, .ref (G.2.2.2.1 v0))] := hl
  unfold pString_isLatin1 at hf
  obtain ⟨hi_v0, hf⟩ := fm_rq_s hf
  have hi_v0 := of_decide_eq_true hi_v0
  refine fm_cmp C E wf_869 dJ0_isLatin1_aae02_0 ?_
  refine lv_if_eq (tgt := 17) C.1 C.2.1 dJ0_isLatin1_aae02_3 (by decide) (fun hc3 => ?_) (fun hc3 => ?_)
  · have hf := fm_ip hf hc3
    refine lv_iconst (v := 0) C.1 C.2.1 dJ0_isLatin1_aae02_17 (by decide) ?_
    obtain rfl := fm_rt1 hf
    exact fm_iret C E rfl rfl dJ0_isLatin1_aae02_18
  · have hf := fm_in' hf hc3
    refine lv_aload_n C.1 C.2.1 dJ0_isLatin1_aae02_6 rfl (lv_at hl 0 rfl) ?_
    refine fm_sco C E hi_v0 wf_1714 dJ0_isLatin1_aae02_7 ?_
    refine lv_if_ne (tgt := 17) C.1 C.2.1 dJ0_isLatin1_aae02_10 (by decide) (fun hc10 => ?_) (fun hc10 => ?_)
    · have hf := fm_in' hf hc10
      refine lv_iconst (v := 0) C.1 C.2.1 dJ0_isLatin1_aae02_17 (by decide) ?_
      obtain rfl := fm_rt1 hf
      exact fm_iret C E rfl rfl dJ0_isLatin1_aae02_18
    · have hf := fm_ip hf hc10
      refine lv_iconst (v := 1) C.1 C.2.1 dJ0_isLatin1_aae02_13 (by decide) ?_
      refine lv_goto (tgt := 18) C.1 C.2.1 dJ0_isLatin1_aae02_14 (by decide) ?_
      obtain rfl := fm_rt1 hf
      exact fm_iret C E rfl rfl dJ0_isLatin1_aae02_18
theorem dJ1_charAt_3b067_0 : decode cJ1_charAt_3b067 0 = .ok (.iload_n 1, 1) := by decide +kernel
theorem dJ1_charAt_3b067_1 : decode cJ1_charAt_3b067 1 = .ok (.aload_n 0, 1) := by decide +kernel
theorem dJ1_charAt_3b067_2 : decode cJ1_charAt_3b067 2 = .ok (.arraylength, 1) := by decide +kernel
theorem dJ1_charAt_3b067_3 : decode cJ1_charAt_3b067 3 = .ok (.invokestatic 9, 3) := by decide +kernel
theorem dJ1_charAt_3b067_6 : decode cJ1_charAt_3b067 6 = .ok (.aload_n 0, 1) := by decide +kernel
theorem dJ1_charAt_3b067_7 : decode cJ1_charAt_3b067 7 = .ok (.iload_n 1, 1) := by decide +kernel
theorem dJ1_charAt_3b067_8 : decode cJ1_charAt_3b067 8 = .ok (.baload, 1) := by decide +kernel
theorem dJ1_charAt_3b067_9 : decode cJ1_charAt_3b067 9 = .ok (.sipush 255, 3) := by decide +kernel
theorem dJ1_charAt_3b067_12 : decode cJ1_charAt_3b067 12 = .ok (.iand, 1) := by decide +kernel
theorem dJ1_charAt_3b067_13 : decode cJ1_charAt_3b067 13 = .ok (.i2c, 1) := by decide +kernel
theorem dJ1_charAt_3b067_14 : decode cJ1_charAt_3b067 14 = .ok (.ireturn, 1) := by decide +kernel
set_option maxHeartbeats 4000000 in
set_option maxRecDepth 100000 in
theorem c_Latin1_charAt (l : Launch) (SH : List fm_Sh) (G : fm_G) (M : fm_M) (v0 : Nat) (v1 : Int32) (r : Int32) (hf : pLatin1_charAt M v0 v1 = some r) : fm_Met l yJ1_charAt_3b067 cJ1_charAt_3b067 2 (some .char) { frames := 2, cells := 0, slots := 0, locals := 43 } SH G [.ref (G.2.2.2.2 v0), .int v1] M (some (.int r)) M := by
  refine fm_enterF (by decide +kernel) (Nat.le_of_ble_eq_true rfl) ?_
  intro p e s m args below meth c ls C E hl
  have hl : lv_has ls 2 [(0, .ref (G.2.2.2.2 v0)), (1, .int v1)] := hl
  unfold pLatin1_charAt at hf
  obtain ⟨hi_v0, hf⟩ := fm_rq_s hf
  have hi_v0 := of_decide_eq_true hi_v0
  refine lv_iload_n C.1 C.2.1 dJ1_charAt_3b067_0 rfl (lv_at hl 1 rfl) ?_
  refine lv_aload_n C.1 C.2.1 dJ1_charAt_3b067_1 rfl (lv_at hl 0 rfl) ?_
  refine fm_sln C E hi_v0 dJ1_charAt_3b067_2 ?_
  obtain ⟨x3, hc3, hf⟩ := fm_bd hf
  refine fm_callS C E [.int _, .int _] [] lm_J1_9 wk_J0_checkIndex_df160 (c_String_checkIndex l _ G _ _ _  hc3) rfl hl.1 (by simp [Value.category]) ⟨⟨rfl, rfl⟩, by decide, by decide⟩ ⟨by decide, by decide⟩ dJ1_charAt_3b067_3 rfl (fun H locs E => ?_)
  refine W.eq (g2 := F0 m 6 ls []) rfl ?_
  refine lv_aload_n C.1 C.2.1 dJ1_charAt_3b067_6 rfl (lv_at hl 0 rfl) ?_
  refine lv_iload_n C.1 C.2.1 dJ1_charAt_3b067_7 rfl (lv_at hl 1 rfl) ?_
  obtain ⟨h8, x8, e8, hf⟩ := fm_ix_e hf
  refine fm_sbl C E hi_v0 e8 h8 dJ1_charAt_3b067_8 ?_
  refine lv_sipush (v := 255) C.1 C.2.1 dJ1_charAt_3b067_9 (by decide) ?_
  refine lv_iand C.1 C.2.1 dJ1_charAt_3b067_12 ?_
  refine lv_i2c C.1 C.2.1 dJ1_charAt_3b067_13 rfl ?_
  obtain rfl := fm_rt1 hf
  exact fm_iret C E rfl (pk_nc _) dJ1_charAt_3b067_14
theorem dJ1_canEncode_9a6ad_0 : decode cJ1_canEncode_9a6ad 0 = .ok (.iload_n 0, 1) := by decide +kernel
theorem dJ1_canEncode_9a6ad_1 : decode cJ1_canEncode_9a6ad 1 = .ok (.ifCond .lt 14, 3) := by decide +kernel
theorem dJ1_canEncode_9a6ad_4 : decode cJ1_canEncode_9a6ad 4 = .ok (.iload_n 0, 1) := by decide +kernel
theorem dJ1_canEncode_9a6ad_5 : decode cJ1_canEncode_9a6ad 5 = .ok (.sipush 255, 3) := by decide +kernel
theorem dJ1_canEncode_9a6ad_8 : decode cJ1_canEncode_9a6ad 8 = .ok (.if_icmp .gt 7, 3) := by decide +kernel
theorem dJ1_canEncode_9a6ad_11 : decode cJ1_canEncode_9a6ad 11 = .ok (.iconst 1, 1) := by decide +kernel
theorem dJ1_canEncode_9a6ad_12 : decode cJ1_canEncode_9a6ad 12 = .ok (.goto 4, 3) := by decide +kernel
theorem dJ1_canEncode_9a6ad_15 : decode cJ1_canEncode_9a6ad 15 = .ok (.iconst 0, 1) := by decide +kernel
theorem dJ1_canEncode_9a6ad_16 : decode cJ1_canEncode_9a6ad 16 = .ok (.ireturn, 1) := by decide +kernel
set_option maxHeartbeats 4000000 in
set_option maxRecDepth 100000 in
theorem c_Latin1_canEncode (l : Launch) (SH : List fm_Sh) (G : fm_G) (M : fm_M) (v0 : Int32) (r : Int32) (hf : pLatin1_canEncode M v0 = some r) : fm_Met l yJ1_canEncode_9a6ad cJ1_canEncode_9a6ad 1 (some .boolean) { frames := 0, cells := 0, slots := 0, locals := 0 } SH G [.int v0] M (some (.int r)) M := by
  refine fm_enterF (by decide +kernel) (Nat.le_of_ble_eq_true rfl) ?_
  intro p e s m args below meth c ls C E hl
  have hl : lv_has ls 1 [(0, .int v0)] := hl
  unfold pLatin1_canEncode at hf
  refine lv_iload_n C.1 C.2.1 dJ1_canEncode_9a6ad_0 rfl (lv_at hl 0 rfl) ?_
  refine lv_if_lt (tgt := 15) C.1 C.2.1 dJ1_canEncode_9a6ad_1 (by decide) (fun hc1 => ?_) (fun hc1 => ?_)
  · have hf := fm_ip hf hc1
    refine lv_iconst (v := 0) C.1 C.2.1 dJ1_canEncode_9a6ad_15 (by decide) ?_
    obtain rfl := fm_rt1 hf
    exact fm_iret C E rfl rfl dJ1_canEncode_9a6ad_16
  · have hf := fm_in' hf hc1
    refine lv_iload_n C.1 C.2.1 dJ1_canEncode_9a6ad_4 rfl (lv_at hl 0 rfl) ?_
    refine lv_sipush (v := 255) C.1 C.2.1 dJ1_canEncode_9a6ad_5 (by decide) ?_
    refine lv_icmp_gt (tgt := 15) C.1 C.2.1 dJ1_canEncode_9a6ad_8 (by decide) (fun hc8 => ?_) (fun hc8 => ?_)
    · have hf := fm_ip hf hc8
      refine lv_iconst (v := 0) C.1 C.2.1 dJ1_canEncode_9a6ad_15 (by decide) ?_
      obtain rfl := fm_rt1 hf
      exact fm_iret C E rfl rfl dJ1_canEncode_9a6ad_16
    · have hf := fm_in' hf hc8
      refine lv_iconst (v := 1) C.1 C.2.1 dJ1_canEncode_9a6ad_11 (by decide) ?_
      refine lv_goto (tgt := 16) C.1 C.2.1 dJ1_canEncode_9a6ad_12 (by decide) ?_
      obtain rfl := fm_rt1 hf
      exact fm_iret C E rfl rfl dJ1_canEncode_9a6ad_16
theorem dJ1_indexOfChar_4cfef_0 : decode cJ1_indexOfChar_4cfef 0 = .ok (.iload_n 1, 1) := by decide +kernel
theorem dJ1_indexOfChar_4cfef_1 : decode cJ1_indexOfChar_4cfef 1 = .ok (.i2b, 1) := by decide +kernel
theorem dJ1_indexOfChar_4cfef_2 : decode cJ1_indexOfChar_4cfef 2 = .ok (.istore 4, 2) := by decide +kernel
theorem dJ1_indexOfChar_4cfef_4 : decode cJ1_indexOfChar_4cfef 4 = .ok (.iload_n 2, 1) := by decide +kernel
theorem dJ1_indexOfChar_4cfef_5 : decode cJ1_indexOfChar_4cfef 5 = .ok (.istore 5, 2) := by decide +kernel
theorem dJ1_indexOfChar_4cfef_7 : decode cJ1_indexOfChar_4cfef 7 = .ok (.iload 5, 2) := by decide +kernel
theorem dJ1_indexOfChar_4cfef_9 : decode cJ1_indexOfChar_4cfef 9 = .ok (.iload_n 3, 1) := by decide +kernel
theorem dJ1_indexOfChar_4cfef_10 : decode cJ1_indexOfChar_4cfef 10 = .ok (.if_icmp .ge 21, 3) := by decide +kernel
theorem dJ1_indexOfChar_4cfef_13 : decode cJ1_indexOfChar_4cfef 13 = .ok (.aload_n 0, 1) := by decide +kernel
theorem dJ1_indexOfChar_4cfef_14 : decode cJ1_indexOfChar_4cfef 14 = .ok (.iload 5, 2) := by decide +kernel
theorem dJ1_indexOfChar_4cfef_16 : decode cJ1_indexOfChar_4cfef 16 = .ok (.baload, 1) := by decide +kernel
theorem dJ1_indexOfChar_4cfef_17 : decode cJ1_indexOfChar_4cfef 17 = .ok (.iload 4, 2) := by decide +kernel
theorem dJ1_indexOfChar_4cfef_19 : decode cJ1_indexOfChar_4cfef 19 = .ok (.if_icmp .ne 6, 3) := by decide +kernel
theorem dJ1_indexOfChar_4cfef_22 : decode cJ1_indexOfChar_4cfef 22 = .ok (.iload 5, 2) := by decide +kernel
theorem dJ1_indexOfChar_4cfef_24 : decode cJ1_indexOfChar_4cfef 24 = .ok (.ireturn, 1) := by decide +kernel
theorem dJ1_indexOfChar_4cfef_25 : decode cJ1_indexOfChar_4cfef 25 = .ok (.iinc 5 1, 3) := by decide +kernel
theorem dJ1_indexOfChar_4cfef_28 : decode cJ1_indexOfChar_4cfef 28 = .ok (.goto (-21), 3) := by decide +kernel
theorem dJ1_indexOfChar_4cfef_31 : decode cJ1_indexOfChar_4cfef 31 = .ok (.iconst (-1), 1) := by decide +kernel
theorem dJ1_indexOfChar_4cfef_32 : decode cJ1_indexOfChar_4cfef 32 = .ok (.ireturn, 1) := by decide +kernel
set_option maxHeartbeats 4000000 in
set_option maxRecDepth 100000 in
theorem c_Latin1_indexOfChar (l : Launch) (SH : List fm_Sh) (G : fm_G) (N : Nat) (M : fm_M) (v0 : Nat) (v1 : Int32) (v2 : Int32) (v3 : Int32) (r : Int32) (hf : pLatin1_indexOfChar N M v0 v1 v2 v3 = some r) : fm_Met l yJ1_indexOfChar_4cfef cJ1_indexOfChar_4cfef 6 (some .int) { frames := 0, cells := 0, slots := 0, locals := 0 } SH G [.ref (G.2.2.2.2 v0), .int v1, .int v2, .int v3] M (some (.int r)) M := by
  refine fm_enterF (by decide +kernel) (Nat.le_of_ble_eq_true rfl) ?_
  intro p e s m args below meth c ls C E hl
  have hl : lv_has ls 6 [(0, .ref (G.2.2.2.2 v0)), (1, .int v1), (2, .int v2), (3, .int v3)] := hl
  unfold pLatin1_indexOfChar at hf
  obtain ⟨hi_v0, hf⟩ := fm_rq_s hf
  have hi_v0 := of_decide_eq_true hi_v0
  have L7 : ∀ (w7_v3 : Int32) (w7_v4 : Int32) (n7 : Nat) (v5 : Int32) (H : Heap) (locs : List Loc) (ls : Array Slot), fm_Wd SH G M s H locs → lv_has ls 6 [(0, .ref (G.2.2.2.2 v0)), (3, .int w7_v3), (4, .int w7_v4), (5, .int v5)] → fm_lp (pLatin1_indexOfChar_L7 N M v0 w7_v3 w7_v4) n7 v5 = some r → W p l e { frames := 0, cells := 0, slots := 0, locals := 0 } s m args below meth c H locs 0 0 (fm_Z below SH G args s (some (.int r)) M) (F0 m 7 ls []) := by
    intro w7_v3 w7_v4 n7
    induction n7 with
    | zero => intro v5 H locs ls E hl hf; exact fm_lp_0 hf
    | succ n7 ih7 =>
      intro v5 H locs ls E hl hf
      have hf : pLatin1_indexOfChar_L7b N M v0 w7_v3 w7_v4 (fm_lp (pLatin1_indexOfChar_L7 N M v0 w7_v3 w7_v4) n7) v5 = some r := hf
      unfold pLatin1_indexOfChar_L7b at hf
      refine lv_iload C.1 C.2.1 dJ1_indexOfChar_4cfef_7 (lv_at hl 3 rfl) ?_
      refine lv_iload_n C.1 C.2.1 dJ1_indexOfChar_4cfef_9 rfl (lv_at hl 1 rfl) ?_
      refine lv_icmp_ge (tgt := 31) C.1 C.2.1 dJ1_indexOfChar_4cfef_10 (by decide) (fun hc10 => ?_) (fun hc10 => ?_)
      · have hf := fm_ip hf hc10
        refine lv_iconst (v := (-1)) C.1 C.2.1 dJ1_indexOfChar_4cfef_31 (by decide) ?_
        obtain rfl := fm_rt1 hf
        exact fm_iret C E rfl rfl dJ1_indexOfChar_4cfef_32
      · have hf := fm_in' hf hc10
        refine lv_aload_n C.1 C.2.1 dJ1_indexOfChar_4cfef_13 rfl (lv_at hl 0 rfl) ?_
        refine lv_iload C.1 C.2.1 dJ1_indexOfChar_4cfef_14 (lv_at hl 3 rfl) ?_
        obtain ⟨h16, x16, e16, hf⟩ := fm_ix_e hf
        refine fm_sbl C E hi_v0 e16 h16 dJ1_indexOfChar_4cfef_16 ?_
        refine lv_iload C.1 C.2.1 dJ1_indexOfChar_4cfef_17 (lv_at hl 2 rfl) ?_
        refine lv_icmp_ne (tgt := 25) C.1 C.2.1 dJ1_indexOfChar_4cfef_19 (by decide) (fun hc19 => ?_) (fun hc19 => ?_)
        · have hf := fm_in' hf hc19
          refine fm_iinc C (v := 1) (lv' := [(5, .int _), (0, .ref _), (3, .int _), (4, .int _)]) (k := 3) hl rfl (by decide) (by decide) rfl dJ1_indexOfChar_4cfef_25 (fun ls hl => ?_)
          refine lv_goto (tgt := 7) C.1 C.2.1 dJ1_indexOfChar_4cfef_28 (by decide) ?_
          exact ih7 _ _ _ _ E (lv_sub hl [1, 2, 3, 0] rfl) hf
        · have hf := fm_ip hf hc19
          refine lv_iload C.1 C.2.1 dJ1_indexOfChar_4cfef_22 (lv_at hl 3 rfl) ?_
          obtain rfl := fm_rt1 hf
          exact fm_iret C E rfl rfl dJ1_indexOfChar_4cfef_24
  refine lv_iload_n C.1 C.2.1 dJ1_indexOfChar_4cfef_0 rfl (lv_at hl 1 rfl) ?_
  refine lv_i2b C.1 C.2.1 dJ1_indexOfChar_4cfef_1 rfl ?_
  refine lv_istore (lv' := [(4, .int _), (0, .ref _), (1, .int _), (2, .int _), (3, .int _)]) C.1 C.2.1 dJ1_indexOfChar_4cfef_2 hl (by decide) rfl (fun ls hl => ?_)
  refine lv_iload_n C.1 C.2.1 dJ1_indexOfChar_4cfef_4 rfl (lv_at hl 3 rfl) ?_
  refine lv_istore (lv' := [(5, .int _), (4, .int _), (0, .ref _), (1, .int _), (2, .int _), (3, .int _)]) C.1 C.2.1 dJ1_indexOfChar_4cfef_5 hl (by decide) rfl (fun ls hl => ?_)
  exact L7 _ _ N _ _ _ _ E (lv_sub hl [2, 5, 1, 0] rfl) hf
theorem dJ7_fill_53178_0 : decode cJ7_fill_53178 0 = .ok (.iconst 0, 1) := by decide +kernel
theorem dJ7_fill_53178_1 : decode cJ7_fill_53178 1 = .ok (.istore_n 2, 1) := by decide +kernel
theorem dJ7_fill_53178_2 : decode cJ7_fill_53178 2 = .ok (.aload_n 0, 1) := by decide +kernel
theorem dJ7_fill_53178_3 : decode cJ7_fill_53178 3 = .ok (.arraylength, 1) := by decide +kernel
theorem dJ7_fill_53178_4 : decode cJ7_fill_53178 4 = .ok (.istore_n 3, 1) := by decide +kernel
theorem dJ7_fill_53178_5 : decode cJ7_fill_53178 5 = .ok (.iload_n 2, 1) := by decide +kernel
theorem dJ7_fill_53178_6 : decode cJ7_fill_53178 6 = .ok (.iload_n 3, 1) := by decide +kernel
theorem dJ7_fill_53178_7 : decode cJ7_fill_53178 7 = .ok (.if_icmp .ge 13, 3) := by decide +kernel
theorem dJ7_fill_53178_10 : decode cJ7_fill_53178 10 = .ok (.aload_n 0, 1) := by decide +kernel
theorem dJ7_fill_53178_11 : decode cJ7_fill_53178 11 = .ok (.iload_n 2, 1) := by decide +kernel
theorem dJ7_fill_53178_12 : decode cJ7_fill_53178 12 = .ok (.iload_n 1, 1) := by decide +kernel
theorem dJ7_fill_53178_13 : decode cJ7_fill_53178 13 = .ok (.iastore, 1) := by decide +kernel
theorem dJ7_fill_53178_14 : decode cJ7_fill_53178 14 = .ok (.iinc 2 1, 3) := by decide +kernel
theorem dJ7_fill_53178_17 : decode cJ7_fill_53178 17 = .ok (.goto (-12), 3) := by decide +kernel
theorem dJ7_fill_53178_20 : decode cJ7_fill_53178 20 = .ok (.return_, 1) := by decide +kernel
set_option maxHeartbeats 4000000 in
set_option maxRecDepth 100000 in
theorem c_Arrays_fill (l : Launch) (G : fm_G) (N : Nat) (M : fm_M) (v0 : Nat) (v1 : Int32) (M' : fm_M) (hf : pArrays_fill N M v0 v1 = some M') : fm_Met l yJ7_fill_53178 cJ7_fill_53178 4 none { frames := 0, cells := 0, slots := 0, locals := 0 } shC G [.ref (G.2.1 v0), .int v1] M none M' := by
  refine fm_enterF (by decide +kernel) (Nat.le_of_ble_eq_true rfl) ?_
  intro p e s m args below meth c ls C E hl
  have hl : lv_has ls 4 [(0, .ref (G.2.1 v0)), (1, .int v1)] := hl
  have L5 : ∀ (w5_v0 : Nat) (w5_v1 : Int32) (w5_v3 : Int32) (n5 : Nat) (v2 : Int32) (M : fm_M) (H : Heap) (locs : List Loc) (ls : Array Slot), fm_Wd shC G M s H locs → lv_has ls 4 [(0, .ref (G.2.1 w5_v0)), (1, .int w5_v1), (2, .int v2), (3, .int w5_v3)] → fm_lp (pArrays_fill_L5 N w5_v0 w5_v1 w5_v3) n5 (v2, M) = some M' → W p l e { frames := 0, cells := 0, slots := 0, locals := 0 } s m args below meth c H locs 0 0 (fm_Z below shC G args s none M') (F0 m 5 ls []) := by
    intro w5_v0 w5_v1 w5_v3 n5
    induction n5 with
    | zero => intro v2 M H locs ls E hl hf; exact fm_lp_0 hf
    | succ n5 ih5 =>
      intro v2 M H locs ls E hl hf
      have hf : pArrays_fill_L5b N w5_v0 w5_v1 w5_v3 (fm_lp (pArrays_fill_L5 N w5_v0 w5_v1 w5_v3) n5) v2 M = some M' := hf
      unfold pArrays_fill_L5b at hf
      refine lv_iload_n C.1 C.2.1 dJ7_fill_53178_5 rfl (lv_at hl 2 rfl) ?_
      refine lv_iload_n C.1 C.2.1 dJ7_fill_53178_6 rfl (lv_at hl 3 rfl) ?_
      refine lv_icmp_ge (tgt := 20) C.1 C.2.1 dJ7_fill_53178_7 (by decide) (fun hc7 => ?_) (fun hc7 => ?_)
      · have hf := fm_ip hf hc7
        obtain rfl := fm_rt1 hf
        exact fm_vret C E rfl dJ7_fill_53178_20
      · have hf := fm_in' hf hc7
        refine lv_aload_n C.1 C.2.1 dJ7_fill_53178_10 rfl (lv_at hl 0 rfl) ?_
        refine lv_iload_n C.1 C.2.1 dJ7_fill_53178_11 rfl (lv_at hl 2 rfl) ?_
        refine lv_iload_n C.1 C.2.1 dJ7_fill_53178_12 rfl (lv_at hl 1 rfl) ?_
        obtain ⟨h13, M13, e13, hf⟩ := fm_st_e hf
        obtain ⟨_, hk13⟩ := fm_n_at h13
        refine fm_iast' C E e13 hk13 h13 dJ7_fill_53178_13 (fun H locs E => ?_)
        refine fm_iinc C (v := 1) (lv' := [(2, .int _), (0, .ref _), (1, .int _), (3, .int _)]) (k := 2) hl rfl (by decide) (by decide) rfl dJ7_fill_53178_14 (fun ls hl => ?_)
        refine lv_goto (tgt := 5) C.1 C.2.1 dJ7_fill_53178_17 (by decide) ?_
        exact ih5 _ _ _ _ _ E (lv_sub hl [1, 2, 0, 3] rfl) hf
  unfold pArrays_fill at hf
  refine lv_iconst (v := 0) C.1 C.2.1 dJ7_fill_53178_0 (by decide) ?_
  refine lv_istore_n (lv' := [(2, .int _), (0, .ref _), (1, .int _)]) C.1 C.2.1 dJ7_fill_53178_1 rfl hl (by decide) rfl (fun ls hl => ?_)
  refine lv_aload_n C.1 C.2.1 dJ7_fill_53178_2 rfl (lv_at hl 1 rfl) ?_
  obtain ⟨h3, hf⟩ := fm_rq_s hf
  obtain ⟨_, hk3⟩ := fm_ia_at h3
  refine fm_alen C E hk3 (by decide) rfl dJ7_fill_53178_3 ?_
  refine lv_istore_n (lv' := [(3, .int _), (2, .int _), (0, .ref _), (1, .int _)]) C.1 C.2.1 dJ7_fill_53178_4 rfl hl (by decide) rfl (fun ls hl => ?_)
  exact L5 _ _ _ N _ _ _ _ _ E (lv_sub hl [2, 3, 1, 0] rfl) hf
theorem dX0_setLength_0 : decode cX0_setLength 0 = .ok (.aload_n 0, 1) := by decide +kernel
theorem dX0_setLength_1 : decode cX0_setLength 1 = .ok (.iload_n 1, 1) := by decide +kernel
theorem dX0_setLength_2 : decode cX0_setLength 2 = .ok (.iconst 1, 1) := by decide +kernel
theorem dX0_setLength_3 : decode cX0_setLength 3 = .ok (.bipush 48, 2) := by decide +kernel
theorem dX0_setLength_5 : decode cX0_setLength 5 = .ok (.invokestatic 47, 3) := by decide +kernel
theorem dX0_setLength_8 : decode cX0_setLength 8 = .ok (.putfield 35, 3) := by decide +kernel
theorem dX0_setLength_11 : decode cX0_setLength 11 = .ok (.return_, 1) := by decide +kernel
set_option maxHeartbeats 4000000 in
set_option maxRecDepth 100000 in
theorem c_Bench_setLength (l : Launch) (G : fm_G) (M : fm_M) (v1 : Int32) (M' : fm_M) (hf : pBench_setLength M v1 = some M') : fm_Met l yX0_setLength cX0_setLength 2 none { frames := 2, cells := 0, slots := 0, locals := 43 } shC G [.ref (G.2.1 181), .int v1] M none M' := by
  refine fm_enter (by decide) (Nat.le_of_ble_eq_true rfl) ?_
  intro p e s m args below meth c ls C E hl
  have hl : lv_has ls 2 [(0, .ref (G.2.1 181)), (1, .int v1)] := hl
  unfold pBench_setLength at hf
  refine lv_aload_n C.1 C.2.1 dX0_setLength_0 rfl (lv_at hl 0 rfl) ?_
  refine lv_iload_n C.1 C.2.1 dX0_setLength_1 rfl (lv_at hl 1 rfl) ?_
  refine lv_iconst (v := 1) C.1 C.2.1 dX0_setLength_2 (by decide) ?_
  refine lv_bipush (v := 48) C.1 C.2.1 dX0_setLength_3 (by decide) ?_
  obtain ⟨x5, hc5, hf⟩ := fm_bd hf
  refine fm_callS C E [.int _, .int _, .int _] [.ref _] lm_X0_47 wk_X9_clamp (c_MicRow_clamp l G _ _ _ _ _  hc5) rfl hl.1 (by simp [Value.category]) ⟨⟨rfl, rfl⟩, by decide, by decide⟩ ⟨by decide, by decide⟩ dX0_setLength_5 rfl (fun H locs E => ?_)
  refine W.eq (g2 := F0 m 8 ls (.int x5 :: [.ref _])) rfl ?_
  obtain ⟨M8, e8, hf⟩ := fm_pt_s hf
  refine fm_put' C E e8 lp_X0_35 hC_181 rfl dX0_setLength_8 (fun H locs E => ?_)
  obtain rfl := fm_rt1 hf
  exact fm_vret C E rfl dX0_setLength_11
theorem dX0_turnedRow_0 : decode cX0_turnedRow 0 = .ok (.aload_n 0, 1) := by decide +kernel
theorem dX0_turnedRow_1 : decode cX0_turnedRow 1 = .ok (.getfield 11, 3) := by decide +kernel
theorem dX0_turnedRow_4 : decode cX0_turnedRow 4 = .ok (.iload_n 1, 1) := by decide +kernel
theorem dX0_turnedRow_5 : decode cX0_turnedRow 5 = .ok (.iconst 0, 1) := by decide +kernel
theorem dX0_turnedRow_6 : decode cX0_turnedRow 6 = .ok (.iconst 5, 1) := by decide +kernel
theorem dX0_turnedRow_7 : decode cX0_turnedRow 7 = .ok (.invokestatic 47, 3) := by decide +kernel
theorem dX0_turnedRow_10 : decode cX0_turnedRow 10 = .ok (.aaload, 1) := by decide +kernel
theorem dX0_turnedRow_11 : decode cX0_turnedRow 11 = .ok (.areturn, 1) := by decide +kernel
set_option maxHeartbeats 4000000 in
set_option maxRecDepth 100000 in
theorem c_Bench_turnedRow (l : Launch) (G : fm_G) (M : fm_M) (v1 : Int32) (r : Nat) (hf : pBench_turnedRow M v1 = some r) : fm_Met l yX0_turnedRow cX0_turnedRow 2 (some (.array .int)) { frames := 2, cells := 0, slots := 0, locals := 43 } shC G [.ref (G.2.1 181), .int v1] M (some (.ref (G.2.1 r))) M := by
  refine fm_enter (by decide) (Nat.le_of_ble_eq_true rfl) ?_
  intro p e s m args below meth c ls C E hl
  have hl : lv_has ls 2 [(0, .ref (G.2.1 181)), (1, .int v1)] := hl
  unfold pBench_turnedRow at hf
  refine lv_aload_n C.1 C.2.1 dX0_turnedRow_0 rfl (lv_at hl 0 rfl) ?_
  refine fm_getr C E lf_X0_11 hC_181 rfl dX0_turnedRow_1 ?_
  refine lv_iload_n C.1 C.2.1 dX0_turnedRow_4 rfl (lv_at hl 1 rfl) ?_
  refine lv_iconst (v := 0) C.1 C.2.1 dX0_turnedRow_5 (by decide) ?_
  refine lv_iconst (v := 5) C.1 C.2.1 dX0_turnedRow_6 (by decide) ?_
  obtain ⟨x7, hc7, hf⟩ := fm_bd hf
  refine fm_callS C E [.int _, .int _, .int _] [.ref _] lm_X0_47 wk_X9_clamp (c_MicRow_clamp l G _ _ _ _ _  hc7) rfl hl.1 (by simp [Value.category]) ⟨⟨rfl, rfl⟩, by decide, by decide⟩ ⟨by decide, by decide⟩ dX0_turnedRow_7 rfl (fun H locs E => ?_)
  refine W.eq (g2 := F0 m 10 ls (.int x7 :: [.ref _])) rfl ?_
  obtain ⟨q10, h10, k10, e10, hf⟩ := fm_ix_t tC_183 hf
  refine fm_aald C E hC_182 h10 (r := q10) (by rw [e10]; exact rC_183 _ (fm_in_lt h10)) dX0_turnedRow_10 ?_
  obtain rfl := fm_rt1 hf
  exact fm_aret C E rfl (Or.inr ⟨_, rfl⟩) dX0_turnedRow_11
theorem dX0_mix_0 : decode cX0_mix 0 = .ok (.iload_n 1, 1) := by decide +kernel
theorem dX0_mix_1 : decode cX0_mix 1 = .ok (.invokestatic 69, 3) := by decide +kernel
theorem dX0_mix_4 : decode cX0_mix 4 = .ok (.istore_n 2, 1) := by decide +kernel
theorem dX0_mix_5 : decode cX0_mix 5 = .ok (.iconst 0, 1) := by decide +kernel
theorem dX0_mix_6 : decode cX0_mix 6 = .ok (.istore_n 3, 1) := by decide +kernel
theorem dX0_mix_7 : decode cX0_mix 7 = .ok (.iload_n 3, 1) := by decide +kernel
theorem dX0_mix_8 : decode cX0_mix 8 = .ok (.aload_n 0, 1) := by decide +kernel
theorem dX0_mix_9 : decode cX0_mix 9 = .ok (.getfield 35, 3) := by decide +kernel
theorem dX0_mix_12 : decode cX0_mix 12 = .ok (.if_icmp .ge 69, 3) := by decide +kernel
theorem dX0_mix_15 : decode cX0_mix 15 = .ok (.iconst 0, 1) := by decide +kernel
theorem dX0_mix_16 : decode cX0_mix 16 = .ok (.istore 4, 2) := by decide +kernel
theorem dX0_mix_18 : decode cX0_mix 18 = .ok (.iconst 0, 1) := by decide +kernel
theorem dX0_mix_19 : decode cX0_mix 19 = .ok (.istore 5, 2) := by decide +kernel
theorem dX0_mix_21 : decode cX0_mix 21 = .ok (.iload 5, 2) := by decide +kernel
theorem dX0_mix_23 : decode cX0_mix 23 = .ok (.bipush 6, 2) := by decide +kernel
theorem dX0_mix_25 : decode cX0_mix 25 = .ok (.if_icmp .ge 32, 3) := by decide +kernel
theorem dX0_mix_28 : decode cX0_mix 28 = .ok (.iload_n 1, 1) := by decide +kernel
theorem dX0_mix_29 : decode cX0_mix 29 = .ok (.iload 5, 2) := by decide +kernel
theorem dX0_mix_31 : decode cX0_mix 31 = .ok (.ishr, 1) := by decide +kernel
theorem dX0_mix_32 : decode cX0_mix 32 = .ok (.iconst 1, 1) := by decide +kernel
theorem dX0_mix_33 : decode cX0_mix 33 = .ok (.iand, 1) := by decide +kernel
theorem dX0_mix_34 : decode cX0_mix 34 = .ok (.ifCond .eq 17, 3) := by decide +kernel
theorem dX0_mix_37 : decode cX0_mix 37 = .ok (.iload 4, 2) := by decide +kernel
theorem dX0_mix_39 : decode cX0_mix 39 = .ok (.aload_n 0, 1) := by decide +kernel
theorem dX0_mix_40 : decode cX0_mix 40 = .ok (.getfield 11, 3) := by decide +kernel
theorem dX0_mix_43 : decode cX0_mix 43 = .ok (.iload 5, 2) := by decide +kernel
theorem dX0_mix_45 : decode cX0_mix 45 = .ok (.aaload, 1) := by decide +kernel
theorem dX0_mix_46 : decode cX0_mix 46 = .ok (.iload_n 3, 1) := by decide +kernel
theorem dX0_mix_47 : decode cX0_mix 47 = .ok (.iaload, 1) := by decide +kernel
theorem dX0_mix_48 : decode cX0_mix 48 = .ok (.iadd, 1) := by decide +kernel
theorem dX0_mix_49 : decode cX0_mix 49 = .ok (.istore 4, 2) := by decide +kernel
theorem dX0_mix_51 : decode cX0_mix 51 = .ok (.iinc 5 1, 3) := by decide +kernel
theorem dX0_mix_54 : decode cX0_mix 54 = .ok (.goto (-33), 3) := by decide +kernel
theorem dX0_mix_57 : decode cX0_mix 57 = .ok (.aload_n 0, 1) := by decide +kernel
theorem dX0_mix_58 : decode cX0_mix 58 = .ok (.getfield 20, 3) := by decide +kernel
theorem dX0_mix_61 : decode cX0_mix 61 = .ok (.iload_n 3, 1) := by decide +kernel
theorem dX0_mix_62 : decode cX0_mix 62 = .ok (.iload_n 2, 1) := by decide +kernel
theorem dX0_mix_63 : decode cX0_mix 63 = .ok (.ifCond .ne 7, 3) := by decide +kernel
theorem dX0_mix_66 : decode cX0_mix 66 = .ok (.iconst 0, 1) := by decide +kernel
theorem dX0_mix_67 : decode cX0_mix 67 = .ok (.goto 7, 3) := by decide +kernel
theorem dX0_mix_70 : decode cX0_mix 70 = .ok (.iload 4, 2) := by decide +kernel
theorem dX0_mix_72 : decode cX0_mix 72 = .ok (.iload_n 2, 1) := by decide +kernel
theorem dX0_mix_73 : decode cX0_mix 73 = .ok (.idiv, 1) := by decide +kernel
theorem dX0_mix_74 : decode cX0_mix 74 = .ok (.iastore, 1) := by decide +kernel
theorem dX0_mix_75 : decode cX0_mix 75 = .ok (.iinc 3 1, 3) := by decide +kernel
theorem dX0_mix_78 : decode cX0_mix 78 = .ok (.goto (-71), 3) := by decide +kernel
theorem dX0_mix_81 : decode cX0_mix 81 = .ok (.return_, 1) := by decide +kernel
set_option maxHeartbeats 4000000 in
set_option maxRecDepth 100000 in
theorem c_Bench_mix (l : Launch) (G : fm_G) (N : Nat) (M : fm_M) (v1 : Int32) (M' : fm_M) (hf : pBench_mix N M v1 = some M') : fm_Met l yX0_mix cX0_mix 6 none { frames := 1, cells := 0, slots := 0, locals := 20 } shC G [.ref (G.2.1 181), .int v1] M none M' := by
  refine fm_enter (by decide) (Nat.le_of_ble_eq_true rfl) ?_
  intro p e s m args below meth c ls C E hl
  have hl : lv_has ls 6 [(0, .ref (G.2.1 181)), (1, .int v1)] := hl
  have L7 : ∀ (w7_v1 : Int32) (w7_v2 : Int32) (n7 : Nat) (v3 : Int32) (M : fm_M) (H : Heap) (locs : List Loc) (ls : Array Slot), fm_Wd shC G M s H locs → lv_has ls 6 [(0, .ref (G.2.1 181)), (1, .int w7_v1), (2, .int w7_v2), (3, .int v3)] → fm_lp (pBench_mix_L7 N w7_v1 w7_v2) n7 (v3, M) = some M' → W p l e { frames := 1, cells := 0, slots := 0, locals := 20 } s m args below meth c H locs 0 0 (fm_Z below shC G args s none M') (F0 m 7 ls []) := by
    intro w7_v1 w7_v2 n7
    induction n7 with
    | zero => intro v3 M H locs ls E hl hf; exact fm_lp_0 hf
    | succ n7 ih7 =>
      have J74 : ∀ (M : fm_M) (v3 : Int32) (s1 : Int32) (s2 : Int32) (H : Heap) (locs : List Loc) (ls : Array Slot), fm_Wd shC G M s H locs → lv_has ls 6 [(0, .ref (G.2.1 181)), (1, .int w7_v1), (2, .int w7_v2), (3, .int v3)] → pBench_mix_J74 N M w7_v1 w7_v2 v3 (fm_lp (pBench_mix_L7 N w7_v1 w7_v2) n7) s1 s2 = some M' → W p l e { frames := 1, cells := 0, slots := 0, locals := 20 } s m args below meth c H locs 0 0 (fm_Z below shC G args s none M') (F0 m 74 ls [.int s2, .int s1, .ref (G.2.1 190)]) := by
        intro M v3 s1 s2 H locs ls E hl hf
        unfold pBench_mix_J74 at hf
        obtain ⟨h74, M74, e74, hf⟩ := fm_st_e hf
        refine fm_iast' C E e74 hC_190 h74 dX0_mix_74 (fun H locs E => ?_)
        refine fm_iinc C (v := 1) (lv' := [(3, .int _), (0, .ref _), (1, .int _), (2, .int _)]) (k := 3) hl rfl (by decide) (by decide) rfl dX0_mix_75 (fun ls hl => ?_)
        refine lv_goto (tgt := 7) C.1 C.2.1 dX0_mix_78 (by decide) ?_
        exact ih7 _ _ _ _ _ E (lv_sub hl [1, 2, 3, 0] rfl) hf
      have L21 : ∀ (w21_M : fm_M) (w21_v3 : Int32) (n21 : Nat) (v4 : Int32) (v5 : Int32) (H : Heap) (locs : List Loc) (ls : Array Slot), fm_Wd shC G w21_M s H locs → lv_has ls 6 [(0, .ref (G.2.1 181)), (1, .int w7_v1), (2, .int w7_v2), (3, .int w21_v3), (4, .int v4), (5, .int v5)] → fm_lp (pBench_mix_L21 N w21_M w7_v1 w7_v2 w21_v3 (fm_lp (pBench_mix_L7 N w7_v1 w7_v2) n7)) n21 (v4, v5) = some M' → W p l e { frames := 1, cells := 0, slots := 0, locals := 20 } s m args below meth c H locs 0 0 (fm_Z below shC G args s none M') (F0 m 21 ls []) := by
        intro w21_M w21_v3 n21
        induction n21 with
        | zero => intro v4 v5 H locs ls E hl hf; exact fm_lp_0 hf
        | succ n21 ih21 =>
          intro v4 v5 H locs ls E hl hf
          have hf : pBench_mix_L21b N w21_M w7_v1 w7_v2 w21_v3 (fm_lp (pBench_mix_L7 N w7_v1 w7_v2) n7) (fm_lp (pBench_mix_L21 N w21_M w7_v1 w7_v2 w21_v3 (fm_lp (pBench_mix_L7 N w7_v1 w7_v2) n7)) n21) v4 v5 = some M' := hf
          unfold pBench_mix_L21b at hf
          refine lv_iload C.1 C.2.1 dX0_mix_21 (lv_at hl 5 rfl) ?_
          refine lv_bipush (v := 6) C.1 C.2.1 dX0_mix_23 (by decide) ?_
          refine lv_icmp_ge (tgt := 57) C.1 C.2.1 dX0_mix_25 (by decide) (fun hc25 => ?_) (fun hc25 => ?_)
          · have hf := fm_ip hf hc25
            refine lv_aload_n C.1 C.2.1 dX0_mix_57 rfl (lv_at hl 0 rfl) ?_
            refine fm_getr C E lf_X0_20 hC_181 rfl dX0_mix_58 ?_
            refine lv_iload_n C.1 C.2.1 dX0_mix_61 rfl (lv_at hl 3 rfl) ?_
            refine lv_iload_n C.1 C.2.1 dX0_mix_62 rfl (lv_at hl 2 rfl) ?_
            refine lv_if_ne (tgt := 70) C.1 C.2.1 dX0_mix_63 (by decide) (fun hc63 => ?_) (fun hc63 => ?_)
            · have hf := fm_in' hf hc63
              refine lv_iload C.1 C.2.1 dX0_mix_70 (lv_at hl 4 rfl) ?_
              refine lv_iload_n C.1 C.2.1 dX0_mix_72 rfl (lv_at hl 2 rfl) ?_
              obtain ⟨hz73, hf⟩ := fm_nz_s hf
              refine lv_idiv C.1 C.2.1 dX0_mix_73 hz73 ?_
              exact J74 _ _ _ _ _ _ _ E (lv_sub hl [0, 1, 2, 3] rfl) hf
            · have hf := fm_ip hf hc63
              refine lv_iconst (v := 0) C.1 C.2.1 dX0_mix_66 (by decide) ?_
              refine lv_goto (tgt := 74) C.1 C.2.1 dX0_mix_67 (by decide) ?_
              exact J74 _ _ _ _ _ _ _ E (lv_sub hl [0, 1, 2, 3] rfl) hf
          · have hf := fm_in' hf hc25
            refine lv_iload_n C.1 C.2.1 dX0_mix_28 rfl (lv_at hl 1 rfl) ?_
            refine lv_iload C.1 C.2.1 dX0_mix_29 (lv_at hl 5 rfl) ?_
            refine lv_ishr C.1 C.2.1 dX0_mix_31 ?_
            refine lv_iconst (v := 1) C.1 C.2.1 dX0_mix_32 (by decide) ?_
            refine lv_iand C.1 C.2.1 dX0_mix_33 ?_
            refine lv_if_eq (tgt := 51) C.1 C.2.1 dX0_mix_34 (by decide) (fun hc34 => ?_) (fun hc34 => ?_)
            · have hf := fm_ip hf hc34
              refine fm_iinc C (v := 1) (lv' := [(5, .int _), (0, .ref _), (1, .int _), (2, .int _), (3, .int _), (4, .int _)]) (k := 5) hl rfl (by decide) (by decide) rfl dX0_mix_51 (fun ls hl => ?_)
              refine lv_goto (tgt := 21) C.1 C.2.1 dX0_mix_54 (by decide) ?_
              exact ih21 _ _ _ _ _ E (lv_sub hl [1, 2, 3, 4, 5, 0] rfl) hf
            · have hf := fm_in' hf hc34
              refine lv_iload C.1 C.2.1 dX0_mix_37 (lv_at hl 4 rfl) ?_
              refine lv_aload_n C.1 C.2.1 dX0_mix_39 rfl (lv_at hl 0 rfl) ?_
              refine fm_getr C E lf_X0_11 hC_181 rfl dX0_mix_40 ?_
              refine lv_iload C.1 C.2.1 dX0_mix_43 (lv_at hl 5 rfl) ?_
              obtain ⟨q45, h45, k45, e45, hf⟩ := fm_ix_t tC_183 hf
              refine fm_aald C E hC_182 h45 (r := q45) (by rw [e45]; exact rC_183 _ (fm_in_lt h45)) dX0_mix_45 ?_
              refine lv_iload_n C.1 C.2.1 dX0_mix_46 rfl (lv_at hl 3 rfl) ?_
              obtain ⟨h47, x47, e47, hf⟩ := fm_ld_e hf
              refine fm_iald' C E e47 k45 h47 dX0_mix_47 ?_
              refine lv_iadd C.1 C.2.1 dX0_mix_48 ?_
              refine lv_istore (lv' := [(4, .int _), (0, .ref _), (1, .int _), (2, .int _), (3, .int _), (5, .int _)]) C.1 C.2.1 dX0_mix_49 hl (by decide) rfl (fun ls hl => ?_)
              refine fm_iinc C (v := 1) (lv' := [(5, .int _), (4, .int _), (0, .ref _), (1, .int _), (2, .int _), (3, .int _)]) (k := 5) hl rfl (by decide) (by decide) rfl dX0_mix_51 (fun ls hl => ?_)
              refine lv_goto (tgt := 21) C.1 C.2.1 dX0_mix_54 (by decide) ?_
              exact ih21 _ _ _ _ _ E (lv_sub hl [2, 3, 4, 5, 1, 0] rfl) hf
      intro v3 M H locs ls E hl hf
      have hf : pBench_mix_L7b N w7_v1 w7_v2 (fm_lp (pBench_mix_L7 N w7_v1 w7_v2) n7) v3 M = some M' := hf
      unfold pBench_mix_L7b at hf
      refine lv_iload_n C.1 C.2.1 dX0_mix_7 rfl (lv_at hl 3 rfl) ?_
      refine lv_aload_n C.1 C.2.1 dX0_mix_8 rfl (lv_at hl 0 rfl) ?_
      refine fm_geti C E lf_X0_35 hC_181 rfl dX0_mix_9 ?_
      refine lv_icmp_ge (tgt := 81) C.1 C.2.1 dX0_mix_12 (by decide) (fun hc12 => ?_) (fun hc12 => ?_)
      · have hf := fm_ip hf hc12
        obtain rfl := fm_rt1 hf
        exact fm_vret C E rfl dX0_mix_81
      · have hf := fm_in' hf hc12
        refine lv_iconst (v := 0) C.1 C.2.1 dX0_mix_15 (by decide) ?_
        refine lv_istore (lv' := [(4, .int _), (0, .ref _), (1, .int _), (2, .int _), (3, .int _)]) C.1 C.2.1 dX0_mix_16 hl (by decide) rfl (fun ls hl => ?_)
        refine lv_iconst (v := 0) C.1 C.2.1 dX0_mix_18 (by decide) ?_
        refine lv_istore (lv' := [(5, .int _), (4, .int _), (0, .ref _), (1, .int _), (2, .int _), (3, .int _)]) C.1 C.2.1 dX0_mix_19 hl (by decide) rfl (fun ls hl => ?_)
        exact L21 _ _ N _ _ _ _ _ E (lv_sub hl [2, 3, 4, 5, 1, 0] rfl) hf
  unfold pBench_mix at hf
  refine lv_iload_n C.1 C.2.1 dX0_mix_0 rfl (lv_at hl 1 rfl) ?_
  obtain ⟨x1, hc1, hf⟩ := fm_bd hf
  refine fm_callS C E [.int _] [] lm_X0_69 wk_J6_bitCount_0f7a4 (c_Integer_bitCount l G _ _ _  hc1) rfl hl.1 (by simp [Value.category]) ⟨⟨rfl, rfl⟩, by decide, by decide⟩ ⟨by decide, by decide⟩ dX0_mix_1 rfl (fun H locs E => ?_)
  refine W.eq (g2 := F0 m 4 ls (.int x1 :: [])) rfl ?_
  refine lv_istore_n (lv' := [(2, .int _), (0, .ref _), (1, .int _)]) C.1 C.2.1 dX0_mix_4 rfl hl (by decide) rfl (fun ls hl => ?_)
  refine lv_iconst (v := 0) C.1 C.2.1 dX0_mix_5 (by decide) ?_
  refine lv_istore_n (lv' := [(3, .int _), (2, .int _), (0, .ref _), (1, .int _)]) C.1 C.2.1 dX0_mix_6 rfl hl (by decide) rfl (fun ls hl => ?_)
  exact L7 _ _ N _ _ _ _ _ E (lv_sub hl [2, 3, 1, 0] rfl) hf
theorem dX0_block_0 : decode cX0_block 0 = .ok (.aload_n 0, 1) := by decide +kernel
theorem dX0_block_1 : decode cX0_block 1 = .ok (.iconst 0, 1) := by decide +kernel
theorem dX0_block_2 : decode cX0_block 2 = .ok (.putfield 75, 3) := by decide +kernel
theorem dX0_block_5 : decode cX0_block 5 = .ok (.iconst (-1), 1) := by decide +kernel
theorem dX0_block_6 : decode cX0_block 6 = .ok (.istore_n 2, 1) := by decide +kernel
theorem dX0_block_7 : decode cX0_block 7 = .ok (.iconst 0, 1) := by decide +kernel
theorem dX0_block_8 : decode cX0_block 8 = .ok (.istore_n 3, 1) := by decide +kernel
theorem dX0_block_9 : decode cX0_block 9 = .ok (.iload_n 3, 1) := by decide +kernel
theorem dX0_block_10 : decode cX0_block 10 = .ok (.bipush 6, 2) := by decide +kernel
theorem dX0_block_12 : decode cX0_block 12 = .ok (.if_icmp .ge 62, 3) := by decide +kernel
theorem dX0_block_15 : decode cX0_block 15 = .ok (.iload_n 1, 1) := by decide +kernel
theorem dX0_block_16 : decode cX0_block 16 = .ok (.iload_n 3, 1) := by decide +kernel
theorem dX0_block_17 : decode cX0_block 17 = .ok (.ishr, 1) := by decide +kernel
theorem dX0_block_18 : decode cX0_block 18 = .ok (.iconst 1, 1) := by decide +kernel
theorem dX0_block_19 : decode cX0_block 19 = .ok (.iand, 1) := by decide +kernel
theorem dX0_block_20 : decode cX0_block 20 = .ok (.ifCond .ne 6, 3) := by decide +kernel
theorem dX0_block_23 : decode cX0_block 23 = .ok (.goto 45, 3) := by decide +kernel
theorem dX0_block_26 : decode cX0_block 26 = .ok (.iload_n 2, 1) := by decide +kernel
theorem dX0_block_27 : decode cX0_block 27 = .ok (.iconst (-1), 1) := by decide +kernel
theorem dX0_block_28 : decode cX0_block 28 = .ok (.if_icmp .eq 38, 3) := by decide +kernel
theorem dX0_block_31 : decode cX0_block 31 = .ok (.aload_n 0, 1) := by decide +kernel
theorem dX0_block_32 : decode cX0_block 32 = .ok (.aload_n 0, 1) := by decide +kernel
theorem dX0_block_33 : decode cX0_block 33 = .ok (.getfield 11, 3) := by decide +kernel
theorem dX0_block_36 : decode cX0_block 36 = .ok (.iload_n 2, 1) := by decide +kernel
theorem dX0_block_37 : decode cX0_block 37 = .ok (.aaload, 1) := by decide +kernel
theorem dX0_block_38 : decode cX0_block 38 = .ok (.aload_n 0, 1) := by decide +kernel
theorem dX0_block_39 : decode cX0_block 39 = .ok (.getfield 11, 3) := by decide +kernel
theorem dX0_block_42 : decode cX0_block 42 = .ok (.iload_n 3, 1) := by decide +kernel
theorem dX0_block_43 : decode cX0_block 43 = .ok (.aaload, 1) := by decide +kernel
theorem dX0_block_44 : decode cX0_block 44 = .ok (.aload_n 0, 1) := by decide +kernel
theorem dX0_block_45 : decode cX0_block 45 = .ok (.getfield 23, 3) := by decide +kernel
theorem dX0_block_48 : decode cX0_block 48 = .ok (.aload_n 0, 1) := by decide +kernel
theorem dX0_block_49 : decode cX0_block 49 = .ok (.getfield 75, 3) := by decide +kernel
theorem dX0_block_52 : decode cX0_block 52 = .ok (.aaload, 1) := by decide +kernel
theorem dX0_block_53 : decode cX0_block 53 = .ok (.invokevirtual 78, 3) := by decide +kernel
theorem dX0_block_56 : decode cX0_block 56 = .ok (.aload_n 0, 1) := by decide +kernel
theorem dX0_block_57 : decode cX0_block 57 = .ok (.dup, 1) := by decide +kernel
theorem dX0_block_58 : decode cX0_block 58 = .ok (.getfield 75, 3) := by decide +kernel
theorem dX0_block_61 : decode cX0_block 61 = .ok (.iconst 1, 1) := by decide +kernel
theorem dX0_block_62 : decode cX0_block 62 = .ok (.iadd, 1) := by decide +kernel
theorem dX0_block_63 : decode cX0_block 63 = .ok (.putfield 75, 3) := by decide +kernel
theorem dX0_block_66 : decode cX0_block 66 = .ok (.iload_n 3, 1) := by decide +kernel
theorem dX0_block_67 : decode cX0_block 67 = .ok (.istore_n 2, 1) := by decide +kernel
theorem dX0_block_68 : decode cX0_block 68 = .ok (.iinc 3 1, 3) := by decide +kernel
theorem dX0_block_71 : decode cX0_block 71 = .ok (.goto (-62), 3) := by decide +kernel
theorem dX0_block_74 : decode cX0_block 74 = .ok (.return_, 1) := by decide +kernel
set_option maxHeartbeats 4000000 in
set_option maxRecDepth 100000 in
theorem c_Bench_block (l : Launch) (G : fm_G) (N : Nat) (M : fm_M) (v1 : Int32) (M' : fm_M) (hf : pBench_block N M v1 = some M') : fm_Met l yX0_block cX0_block 4 none { frames := 1, cells := 0, slots := 0, locals := 24 } shC G [.ref (G.2.1 181), .int v1] M none M' := by
  refine fm_enter (by decide) (Nat.le_of_ble_eq_true rfl) ?_
  intro p e s m args below meth c ls C E hl
  have hl : lv_has ls 4 [(0, .ref (G.2.1 181)), (1, .int v1)] := hl
  have L9 : ∀ (w9_v1 : Int32) (n9 : Nat) (v2 : Int32) (v3 : Int32) (M : fm_M) (H : Heap) (locs : List Loc) (ls : Array Slot), fm_Wd shC G M s H locs → lv_has ls 4 [(0, .ref (G.2.1 181)), (1, .int w9_v1), (2, .int v2), (3, .int v3)] → fm_lp (pBench_block_L9 N w9_v1) n9 (v2, v3, M) = some M' → W p l e { frames := 1, cells := 0, slots := 0, locals := 24 } s m args below meth c H locs 0 0 (fm_Z below shC G args s none M') (F0 m 9 ls []) := by
    intro w9_v1 n9
    induction n9 with
    | zero => intro v2 v3 M H locs ls E hl hf; exact fm_lp_0 hf
    | succ n9 ih9 =>
      intro v2 v3 M H locs ls E hl hf
      have hf : pBench_block_L9b N w9_v1 (fm_lp (pBench_block_L9 N w9_v1) n9) v2 v3 M = some M' := hf
      unfold pBench_block_L9b at hf
      refine lv_iload_n C.1 C.2.1 dX0_block_9 rfl (lv_at hl 3 rfl) ?_
      refine lv_bipush (v := 6) C.1 C.2.1 dX0_block_10 (by decide) ?_
      refine lv_icmp_ge (tgt := 74) C.1 C.2.1 dX0_block_12 (by decide) (fun hc12 => ?_) (fun hc12 => ?_)
      · have hf := fm_ip hf hc12
        obtain rfl := fm_rt1 hf
        exact fm_vret C E rfl dX0_block_74
      · have hf := fm_in' hf hc12
        refine lv_iload_n C.1 C.2.1 dX0_block_15 rfl (lv_at hl 1 rfl) ?_
        refine lv_iload_n C.1 C.2.1 dX0_block_16 rfl (lv_at hl 3 rfl) ?_
        refine lv_ishr C.1 C.2.1 dX0_block_17 ?_
        refine lv_iconst (v := 1) C.1 C.2.1 dX0_block_18 (by decide) ?_
        refine lv_iand C.1 C.2.1 dX0_block_19 ?_
        refine lv_if_ne (tgt := 26) C.1 C.2.1 dX0_block_20 (by decide) (fun hc20 => ?_) (fun hc20 => ?_)
        · have hf := fm_in' hf hc20
          refine lv_iload_n C.1 C.2.1 dX0_block_26 rfl (lv_at hl 2 rfl) ?_
          refine lv_iconst (v := (-1)) C.1 C.2.1 dX0_block_27 (by decide) ?_
          refine lv_icmp_eq (tgt := 66) C.1 C.2.1 dX0_block_28 (by decide) (fun hc28 => ?_) (fun hc28 => ?_)
          · have hf := fm_ip hf hc28
            refine lv_iload_n C.1 C.2.1 dX0_block_66 rfl (lv_at hl 3 rfl) ?_
            refine lv_istore_n (lv' := [(2, .int _), (0, .ref _), (1, .int _), (3, .int _)]) C.1 C.2.1 dX0_block_67 rfl hl (by decide) rfl (fun ls hl => ?_)
            refine fm_iinc C (v := 1) (lv' := [(3, .int _), (2, .int _), (0, .ref _), (1, .int _)]) (k := 3) hl rfl (by decide) (by decide) rfl dX0_block_68 (fun ls hl => ?_)
            refine lv_goto (tgt := 9) C.1 C.2.1 dX0_block_71 (by decide) ?_
            exact ih9 _ _ _ _ _ _ E (lv_sub hl [2, 3, 1, 0] rfl) hf
          · have hf := fm_in' hf hc28
            refine lv_aload_n C.1 C.2.1 dX0_block_31 rfl (lv_at hl 0 rfl) ?_
            refine lv_aload_n C.1 C.2.1 dX0_block_32 rfl (lv_at hl 0 rfl) ?_
            refine fm_getr C E lf_X0_11 hC_181 rfl dX0_block_33 ?_
            refine lv_iload_n C.1 C.2.1 dX0_block_36 rfl (lv_at hl 2 rfl) ?_
            obtain ⟨q37, h37, k37, e37, hf⟩ := fm_ix_t tC_183 hf
            refine fm_aald C E hC_182 h37 (r := q37) (by rw [e37]; exact rC_183 _ (fm_in_lt h37)) dX0_block_37 ?_
            refine lv_aload_n C.1 C.2.1 dX0_block_38 rfl (lv_at hl 0 rfl) ?_
            refine fm_getr C E lf_X0_11 hC_181 rfl dX0_block_39 ?_
            refine lv_iload_n C.1 C.2.1 dX0_block_42 rfl (lv_at hl 3 rfl) ?_
            obtain ⟨q43, h43, k43, e43, hf⟩ := fm_ix_t tC_183 hf
            refine fm_aald C E hC_182 h43 (r := q43) (by rw [e43]; exact rC_183 _ (fm_in_lt h43)) dX0_block_43 ?_
            refine lv_aload_n C.1 C.2.1 dX0_block_44 rfl (lv_at hl 0 rfl) ?_
            refine fm_getr C E lf_X0_23 hC_181 rfl dX0_block_45 ?_
            refine lv_aload_n C.1 C.2.1 dX0_block_48 rfl (lv_at hl 0 rfl) ?_
            refine fm_geti C E lf_X0_75 hC_181 rfl dX0_block_49 ?_
            obtain ⟨q52, h52, k52, e52, hf⟩ := fm_ix_t tC_192 hf
            refine fm_aald C E hC_191 h52 (r := q52) (by rw [e52]; exact rC_192 _ (fm_in_lt h52)) dX0_block_52 ?_
            obtain ⟨M53, hc53, hf⟩ := fm_bd hf
            refine fm_callV C E [.ref _, .ref _, .ref _] [] lm_X0_78 wk_X0_blockBetween (c_Bench_blockBetween l G N _ _ _ _ _ hc53) hC_181 rfl rfl rfl hl.1 (by simp [Value.category]) ⟨⟨rfl, rfl⟩, by decide, by decide⟩ ⟨by decide, by decide⟩ dX0_block_53 rfl (fun H locs E => ?_)
            refine W.eq (g2 := F0 m 56 ls []) rfl ?_
            refine lv_aload_n C.1 C.2.1 dX0_block_56 rfl (lv_at hl 0 rfl) ?_
            refine lv_dup C.1 C.2.1 dX0_block_57 rfl ?_
            refine fm_geti C E lf_X0_75 hC_181 rfl dX0_block_58 ?_
            refine lv_iconst (v := 1) C.1 C.2.1 dX0_block_61 (by decide) ?_
            refine lv_iadd C.1 C.2.1 dX0_block_62 ?_
            obtain ⟨M63, e63, hf⟩ := fm_pt_s hf
            refine fm_put' C E e63 lp_X0_75 hC_181 rfl dX0_block_63 (fun H locs E => ?_)
            refine lv_iload_n C.1 C.2.1 dX0_block_66 rfl (lv_at hl 3 rfl) ?_
            refine lv_istore_n (lv' := [(2, .int _), (0, .ref _), (1, .int _), (3, .int _)]) C.1 C.2.1 dX0_block_67 rfl hl (by decide) rfl (fun ls hl => ?_)
            refine fm_iinc C (v := 1) (lv' := [(3, .int _), (2, .int _), (0, .ref _), (1, .int _)]) (k := 3) hl rfl (by decide) (by decide) rfl dX0_block_68 (fun ls hl => ?_)
            refine lv_goto (tgt := 9) C.1 C.2.1 dX0_block_71 (by decide) ?_
            exact ih9 _ _ _ _ _ _ E (lv_sub hl [2, 3, 1, 0] rfl) hf
        · have hf := fm_ip hf hc20
          refine lv_goto (tgt := 68) C.1 C.2.1 dX0_block_23 (by decide) ?_
          refine fm_iinc C (v := 1) (lv' := [(3, .int _), (0, .ref _), (1, .int _), (2, .int _)]) (k := 3) hl rfl (by decide) (by decide) rfl dX0_block_68 (fun ls hl => ?_)
          refine lv_goto (tgt := 9) C.1 C.2.1 dX0_block_71 (by decide) ?_
          exact ih9 _ _ _ _ _ _ E (lv_sub hl [1, 2, 3, 0] rfl) hf
  unfold pBench_block at hf
  refine lv_aload_n C.1 C.2.1 dX0_block_0 rfl (lv_at hl 0 rfl) ?_
  refine lv_iconst (v := 0) C.1 C.2.1 dX0_block_1 (by decide) ?_
  obtain ⟨M2, e2, hf⟩ := fm_pt_s hf
  refine fm_put' C E e2 lp_X0_75 hC_181 rfl dX0_block_2 (fun H locs E => ?_)
  refine lv_iconst (v := (-1)) C.1 C.2.1 dX0_block_5 (by decide) ?_
  refine lv_istore_n (lv' := [(2, .int _), (0, .ref _), (1, .int _)]) C.1 C.2.1 dX0_block_6 rfl hl (by decide) rfl (fun ls hl => ?_)
  refine lv_iconst (v := 0) C.1 C.2.1 dX0_block_7 (by decide) ?_
  refine lv_istore_n (lv' := [(3, .int _), (2, .int _), (0, .ref _), (1, .int _)]) C.1 C.2.1 dX0_block_8 rfl hl (by decide) rfl (fun ls hl => ?_)
  exact L9 _ N _ _ _ _ _ _ E (lv_sub hl [2, 3, 1, 0] rfl) hf
