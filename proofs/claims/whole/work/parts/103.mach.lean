theorem dX10_beams_0 : decode cX10_beams 0 = .ok (.aload_n 0, 1) := by decide +kernel
theorem dX10_beams_1 : decode cX10_beams 1 = .ok (.iconst 0, 1) := by decide +kernel
theorem dX10_beams_2 : decode cX10_beams 2 = .ok (.putfield 77, 3) := by decide +kernel
theorem dX10_beams_5 : decode cX10_beams 5 = .ok (.iload_n 1, 1) := by decide +kernel
theorem dX10_beams_6 : decode cX10_beams 6 = .ok (.invokestatic 182, 3) := by decide +kernel
theorem dX10_beams_9 : decode cX10_beams 9 = .ok (.ifCond .ne 5, 3) := by decide +kernel
theorem dX10_beams_12 : decode cX10_beams 12 = .ok (.iconst (-1), 1) := by decide +kernel
theorem dX10_beams_13 : decode cX10_beams 13 = .ok (.ireturn, 1) := by decide +kernel
theorem dX10_beams_14 : decode cX10_beams 14 = .ok (.aload_n 0, 1) := by decide +kernel
theorem dX10_beams_15 : decode cX10_beams 15 = .ok (.invokevirtual 188, 3) := by decide +kernel
theorem dX10_beams_18 : decode cX10_beams 18 = .ok (.aload_n 0, 1) := by decide +kernel
theorem dX10_beams_19 : decode cX10_beams 19 = .ok (.aload_n 0, 1) := by decide +kernel
theorem dX10_beams_20 : decode cX10_beams 20 = .ok (.invokevirtual 204, 3) := by decide +kernel
theorem dX10_beams_23 : decode cX10_beams 23 = .ok (.iload_n 1, 1) := by decide +kernel
theorem dX10_beams_24 : decode cX10_beams 24 = .ok (.invokevirtual 239, 3) := by decide +kernel
theorem dX10_beams_27 : decode cX10_beams 27 = .ok (.aload_n 0, 1) := by decide +kernel
theorem dX10_beams_28 : decode cX10_beams 28 = .ok (.iconst 0, 1) := by decide +kernel
theorem dX10_beams_29 : decode cX10_beams 29 = .ok (.putfield 80, 3) := by decide +kernel
theorem dX10_beams_32 : decode cX10_beams 32 = .ok (.aload_n 0, 1) := by decide +kernel
theorem dX10_beams_33 : decode cX10_beams 33 = .ok (.aload_n 0, 1) := by decide +kernel
theorem dX10_beams_34 : decode cX10_beams 34 = .ok (.aload_n 0, 1) := by decide +kernel
theorem dX10_beams_35 : decode cX10_beams 35 = .ok (.getfield 40, 3) := by decide +kernel
theorem dX10_beams_38 : decode cX10_beams 38 = .ok (.invokevirtual 228, 3) := by decide +kernel
theorem dX10_beams_41 : decode cX10_beams 41 = .ok (.invokevirtual 245, 3) := by decide +kernel
theorem dX10_beams_44 : decode cX10_beams 44 = .ok (.aload_n 0, 1) := by decide +kernel
theorem dX10_beams_45 : decode cX10_beams 45 = .ok (.aload_n 0, 1) := by decide +kernel
theorem dX10_beams_46 : decode cX10_beams 46 = .ok (.aload_n 0, 1) := by decide +kernel
theorem dX10_beams_47 : decode cX10_beams 47 = .ok (.getfield 46, 3) := by decide +kernel
theorem dX10_beams_50 : decode cX10_beams 50 = .ok (.invokevirtual 249, 3) := by decide +kernel
theorem dX10_beams_53 : decode cX10_beams 53 = .ok (.i2l, 1) := by decide +kernel
theorem dX10_beams_54 : decode cX10_beams 54 = .ok (.invokevirtual 245, 3) := by decide +kernel
theorem dX10_beams_57 : decode cX10_beams 57 = .ok (.aload_n 0, 1) := by decide +kernel
theorem dX10_beams_58 : decode cX10_beams 58 = .ok (.aload_n 0, 1) := by decide +kernel
theorem dX10_beams_59 : decode cX10_beams 59 = .ok (.aload_n 0, 1) := by decide +kernel
theorem dX10_beams_60 : decode cX10_beams 60 = .ok (.getfield 46, 3) := by decide +kernel
theorem dX10_beams_63 : decode cX10_beams 63 = .ok (.invokevirtual 228, 3) := by decide +kernel
theorem dX10_beams_66 : decode cX10_beams 66 = .ok (.invokevirtual 245, 3) := by decide +kernel
theorem dX10_beams_69 : decode cX10_beams 69 = .ok (.aload_n 0, 1) := by decide +kernel
theorem dX10_beams_70 : decode cX10_beams 70 = .ok (.aload_n 0, 1) := by decide +kernel
theorem dX10_beams_71 : decode cX10_beams 71 = .ok (.getfield 40, 3) := by decide +kernel
theorem dX10_beams_74 : decode cX10_beams 74 = .ok (.invokevirtual 249, 3) := by decide +kernel
theorem dX10_beams_77 : decode cX10_beams 77 = .ok (.ireturn, 1) := by decide +kernel
set_option maxHeartbeats 4000000 in
set_option maxRecDepth 100000 in
theorem c_Model_beams (l : Launch) (G : fm_G) (N : Nat) (M : fm_M) (v1 : Int32) (r : Int32) (M' : fm_M) (hf : pModel_beams N M v1 = some (r, M')) : fm_Met l yX10_beams cX10_beams 2 (some .int) { frames := 6, cells := 0, slots := 0, locals := 141 } shM G [.ref (G.2.1 0), .int v1] M (some (.int r)) M' := by
  refine fm_enter (by decide) (Nat.le_of_ble_eq_true rfl) ?_
  intro p e s m args below meth c ls C E hl
  have hl : lv_has ls 2 [(0, .ref (G.2.1 0)), (1, .int v1)] := hl
  unfold pModel_beams at hf
  refine lv_aload_n C.1 C.2.1 dX10_beams_0 rfl (lv_at hl 0 rfl) ?_
  refine lv_iconst (v := 0) C.1 C.2.1 dX10_beams_1 (by decide) ?_
  obtain ⟨M2, e2, hf⟩ := fm_pt_s hf
  refine fm_put' C E e2 lp_X10_77 hM_0 rfl dX10_beams_2 (fun H locs E => ?_)
  refine lv_iload_n C.1 C.2.1 dX10_beams_5 rfl (lv_at hl 1 rfl) ?_
  obtain ⟨x6, hc6, hf⟩ := fm_bd hf
  refine fm_callS C E [.int _] [] lm_X10_182 wk_X10_isSide (c_Model_isSide l G _ _ _  hc6) rfl hl.1 (by simp [Value.category]) ⟨⟨rfl, rfl⟩, by decide, by decide⟩ ⟨by decide, by decide⟩ dX10_beams_6 rfl (fun H locs E => ?_)
  refine W.eq (g2 := F0 m 9 ls (.int x6 :: [])) rfl ?_
  refine lv_if_ne (tgt := 14) C.1 C.2.1 dX10_beams_9 (by decide) (fun hc9 => ?_) (fun hc9 => ?_)
  · have hf := fm_in' hf hc9
    refine lv_aload_n C.1 C.2.1 dX10_beams_14 rfl (lv_at hl 0 rfl) ?_
    obtain ⟨M15, hc15, hf⟩ := fm_bd hf
    refine fm_callV C E [] [] lm_X10_188 wk_X10_hear (c_Model_hear l G N _ _ hc15) hM_0 rfl rfl rfl hl.1 (by simp [Value.category]) ⟨⟨rfl, rfl⟩, by decide, by decide⟩ ⟨by decide, by decide⟩ dX10_beams_15 rfl (fun H locs E => ?_)
    refine W.eq (g2 := F0 m 18 ls []) rfl ?_
    refine lv_aload_n C.1 C.2.1 dX10_beams_18 rfl (lv_at hl 0 rfl) ?_
    refine lv_aload_n C.1 C.2.1 dX10_beams_19 rfl (lv_at hl 0 rfl) ?_
    obtain ⟨x20, hc20, hf⟩ := fm_bd hf
    refine fm_callV C E [] [.ref _] lm_X10_204 wk_X10_liveBits (c_Model_liveBits l G N _ _  hc20) hM_0 rfl rfl rfl hl.1 (by simp [Value.category]) ⟨⟨rfl, rfl⟩, by decide, by decide⟩ ⟨by decide, by decide⟩ dX10_beams_20 rfl (fun H locs E => ?_)
    refine W.eq (g2 := F0 m 23 ls (.int x20 :: [.ref _])) rfl ?_
    refine lv_iload_n C.1 C.2.1 dX10_beams_23 rfl (lv_at hl 1 rfl) ?_
    obtain ⟨M24, hc24, hf⟩ := fm_bd hf
    refine fm_callV C E [.int _, .int _] [] lm_X10_239 wk_X10_layWeights (c_Model_layWeights l G N _ _ _ _ hc24) hM_0 rfl rfl rfl hl.1 (by simp [Value.category]) ⟨⟨rfl, rfl⟩, by decide, by decide⟩ ⟨by decide, by decide⟩ dX10_beams_24 rfl (fun H locs E => ?_)
    refine W.eq (g2 := F0 m 27 ls []) rfl ?_
    refine lv_aload_n C.1 C.2.1 dX10_beams_27 rfl (lv_at hl 0 rfl) ?_
    refine lv_iconst (v := 0) C.1 C.2.1 dX10_beams_28 (by decide) ?_
    obtain ⟨M29, e29, hf⟩ := fm_pt_s hf
    refine fm_put' C E e29 lp_X10_80 hM_0 rfl dX10_beams_29 (fun H locs E => ?_)
    refine lv_aload_n C.1 C.2.1 dX10_beams_32 rfl (lv_at hl 0 rfl) ?_
    refine lv_aload_n C.1 C.2.1 dX10_beams_33 rfl (lv_at hl 0 rfl) ?_
    refine lv_aload_n C.1 C.2.1 dX10_beams_34 rfl (lv_at hl 0 rfl) ?_
    refine fm_getr C E lf_X10_40 hM_0 rfl dX10_beams_35 ?_
    obtain ⟨x38, hc38, hf⟩ := fm_bd hf
    refine fm_callV C E [.ref _] [.ref _] lm_X10_228 wk_X10_powerOf (c_Model_powerOf l G N _ _ _  hc38) hM_0 rfl rfl rfl hl.1 (by simp [Value.category]) ⟨⟨rfl, rfl⟩, by decide, by decide⟩ ⟨by decide, by decide⟩ dX10_beams_38 rfl (fun H locs E => ?_)
    refine W.eq (g2 := F0 m 41 ls (.long x38 :: [.ref _])) rfl ?_
    obtain ⟨M41, hc41, hf⟩ := fm_bd hf
    refine fm_callV C E [.long _] [] lm_X10_245 wk_X10_tell (c_Model_tell l G _ _ _ hc41) hM_0 rfl rfl rfl hl.1 (by simp [Value.category]) ⟨⟨rfl, rfl⟩, by decide, by decide⟩ ⟨by decide, by decide⟩ dX10_beams_41 rfl (fun H locs E => ?_)
    refine W.eq (g2 := F0 m 44 ls []) rfl ?_
    refine lv_aload_n C.1 C.2.1 dX10_beams_44 rfl (lv_at hl 0 rfl) ?_
    refine lv_aload_n C.1 C.2.1 dX10_beams_45 rfl (lv_at hl 0 rfl) ?_
    refine lv_aload_n C.1 C.2.1 dX10_beams_46 rfl (lv_at hl 0 rfl) ?_
    refine fm_getr C E lf_X10_46 hM_0 rfl dX10_beams_47 ?_
    obtain ⟨x50, hc50, hf⟩ := fm_bd hf
    refine fm_callV C E [.ref _] [.ref _] lm_X10_249 wk_X10_levelOf (c_Model_levelOf l G N _ _ _  hc50) hM_0 rfl rfl rfl hl.1 (by simp [Value.category]) ⟨⟨rfl, rfl⟩, by decide, by decide⟩ ⟨by decide, by decide⟩ dX10_beams_50 rfl (fun H locs E => ?_)
    refine W.eq (g2 := F0 m 53 ls (.int x50 :: [.ref _])) rfl ?_
    refine lv_i2l C.1 C.2.1 dX10_beams_53 rfl ?_
    obtain ⟨M54, hc54, hf⟩ := fm_bd hf
    refine fm_callV C E [.long _] [] lm_X10_245 wk_X10_tell (c_Model_tell l G _ _ _ hc54) hM_0 rfl rfl rfl hl.1 (by simp [Value.category]) ⟨⟨rfl, rfl⟩, by decide, by decide⟩ ⟨by decide, by decide⟩ dX10_beams_54 rfl (fun H locs E => ?_)
    refine W.eq (g2 := F0 m 57 ls []) rfl ?_
    refine lv_aload_n C.1 C.2.1 dX10_beams_57 rfl (lv_at hl 0 rfl) ?_
    refine lv_aload_n C.1 C.2.1 dX10_beams_58 rfl (lv_at hl 0 rfl) ?_
    refine lv_aload_n C.1 C.2.1 dX10_beams_59 rfl (lv_at hl 0 rfl) ?_
    refine fm_getr C E lf_X10_46 hM_0 rfl dX10_beams_60 ?_
    obtain ⟨x63, hc63, hf⟩ := fm_bd hf
    refine fm_callV C E [.ref _] [.ref _] lm_X10_228 wk_X10_powerOf (c_Model_powerOf l G N _ _ _  hc63) hM_0 rfl rfl rfl hl.1 (by simp [Value.category]) ⟨⟨rfl, rfl⟩, by decide, by decide⟩ ⟨by decide, by decide⟩ dX10_beams_63 rfl (fun H locs E => ?_)
    refine W.eq (g2 := F0 m 66 ls (.long x63 :: [.ref _])) rfl ?_
    obtain ⟨M66, hc66, hf⟩ := fm_bd hf
    refine fm_callV C E [.long _] [] lm_X10_245 wk_X10_tell (c_Model_tell l G _ _ _ hc66) hM_0 rfl rfl rfl hl.1 (by simp [Value.category]) ⟨⟨rfl, rfl⟩, by decide, by decide⟩ ⟨by decide, by decide⟩ dX10_beams_66 rfl (fun H locs E => ?_)
    refine W.eq (g2 := F0 m 69 ls []) rfl ?_
    refine lv_aload_n C.1 C.2.1 dX10_beams_69 rfl (lv_at hl 0 rfl) ?_
    refine lv_aload_n C.1 C.2.1 dX10_beams_70 rfl (lv_at hl 0 rfl) ?_
    refine fm_getr C E lf_X10_40 hM_0 rfl dX10_beams_71 ?_
    obtain ⟨x74, hc74, hf⟩ := fm_bd hf
    refine fm_callV C E [.ref _] [] lm_X10_249 wk_X10_levelOf (c_Model_levelOf l G N _ _ _  hc74) hM_0 rfl rfl rfl hl.1 (by simp [Value.category]) ⟨⟨rfl, rfl⟩, by decide, by decide⟩ ⟨by decide, by decide⟩ dX10_beams_74 rfl (fun H locs E => ?_)
    refine W.eq (g2 := F0 m 77 ls (.int x74 :: [])) rfl ?_
    obtain ⟨rfl, rfl⟩ := fm_rt2 hf
    exact fm_iret C E rfl rfl dX10_beams_77
  · have hf := fm_ip hf hc9
    refine lv_iconst (v := (-1)) C.1 C.2.1 dX10_beams_12 (by decide) ?_
    obtain ⟨rfl, rfl⟩ := fm_rt2 hf
    exact fm_iret C E rfl rfl dX10_beams_13
theorem dX10_weights_0 : decode cX10_weights 0 = .ok (.aload_n 0, 1) := by decide +kernel
theorem dX10_weights_1 : decode cX10_weights 1 = .ok (.iconst 0, 1) := by decide +kernel
theorem dX10_weights_2 : decode cX10_weights 2 = .ok (.putfield 77, 3) := by decide +kernel
theorem dX10_weights_5 : decode cX10_weights 5 = .ok (.iload_n 1, 1) := by decide +kernel
theorem dX10_weights_6 : decode cX10_weights 6 = .ok (.invokestatic 182, 3) := by decide +kernel
theorem dX10_weights_9 : decode cX10_weights 9 = .ok (.ifCond .ne 5, 3) := by decide +kernel
theorem dX10_weights_12 : decode cX10_weights 12 = .ok (.iconst (-1), 1) := by decide +kernel
theorem dX10_weights_13 : decode cX10_weights 13 = .ok (.ireturn, 1) := by decide +kernel
theorem dX10_weights_14 : decode cX10_weights 14 = .ok (.aload_n 0, 1) := by decide +kernel
theorem dX10_weights_15 : decode cX10_weights 15 = .ok (.invokevirtual 188, 3) := by decide +kernel
theorem dX10_weights_18 : decode cX10_weights 18 = .ok (.aload_n 0, 1) := by decide +kernel
theorem dX10_weights_19 : decode cX10_weights 19 = .ok (.aload_n 0, 1) := by decide +kernel
theorem dX10_weights_20 : decode cX10_weights 20 = .ok (.invokevirtual 204, 3) := by decide +kernel
theorem dX10_weights_23 : decode cX10_weights 23 = .ok (.iload_n 1, 1) := by decide +kernel
theorem dX10_weights_24 : decode cX10_weights 24 = .ok (.invokevirtual 239, 3) := by decide +kernel
theorem dX10_weights_27 : decode cX10_weights 27 = .ok (.aload_n 0, 1) := by decide +kernel
theorem dX10_weights_28 : decode cX10_weights 28 = .ok (.iconst 0, 1) := by decide +kernel
theorem dX10_weights_29 : decode cX10_weights 29 = .ok (.putfield 80, 3) := by decide +kernel
theorem dX10_weights_32 : decode cX10_weights 32 = .ok (.iconst 0, 1) := by decide +kernel
theorem dX10_weights_33 : decode cX10_weights 33 = .ok (.istore_n 2, 1) := by decide +kernel
theorem dX10_weights_34 : decode cX10_weights 34 = .ok (.iload_n 2, 1) := by decide +kernel
theorem dX10_weights_35 : decode cX10_weights 35 = .ok (.aload_n 0, 1) := by decide +kernel
theorem dX10_weights_36 : decode cX10_weights 36 = .ok (.getfield 214, 3) := by decide +kernel
theorem dX10_weights_39 : decode cX10_weights 39 = .ok (.if_icmp .ge 20, 3) := by decide +kernel
theorem dX10_weights_42 : decode cX10_weights 42 = .ok (.aload_n 0, 1) := by decide +kernel
theorem dX10_weights_43 : decode cX10_weights 43 = .ok (.aload_n 0, 1) := by decide +kernel
theorem dX10_weights_44 : decode cX10_weights 44 = .ok (.getfield 37, 3) := by decide +kernel
theorem dX10_weights_47 : decode cX10_weights 47 = .ok (.iload_n 2, 1) := by decide +kernel
theorem dX10_weights_48 : decode cX10_weights 48 = .ok (.iaload, 1) := by decide +kernel
theorem dX10_weights_49 : decode cX10_weights 49 = .ok (.i2l, 1) := by decide +kernel
theorem dX10_weights_50 : decode cX10_weights 50 = .ok (.invokevirtual 245, 3) := by decide +kernel
theorem dX10_weights_53 : decode cX10_weights 53 = .ok (.iinc 2 1, 3) := by decide +kernel
theorem dX10_weights_56 : decode cX10_weights 56 = .ok (.goto (-22), 3) := by decide +kernel
theorem dX10_weights_59 : decode cX10_weights 59 = .ok (.aload_n 0, 1) := by decide +kernel
theorem dX10_weights_60 : decode cX10_weights 60 = .ok (.getfield 214, 3) := by decide +kernel
theorem dX10_weights_63 : decode cX10_weights 63 = .ok (.ireturn, 1) := by decide +kernel
set_option maxHeartbeats 4000000 in
set_option maxRecDepth 100000 in
theorem c_Model_weights (l : Launch) (G : fm_G) (N : Nat) (M : fm_M) (v1 : Int32) (r : Int32) (M' : fm_M) (hf : pModel_weights N M v1 = some (r, M')) : fm_Met l yX10_weights cX10_weights 3 (some .int) { frames := 6, cells := 0, slots := 0, locals := 141 } shM G [.ref (G.2.1 0), .int v1] M (some (.int r)) M' := by
  refine fm_enter (by decide) (Nat.le_of_ble_eq_true rfl) ?_
  intro p e s m args below meth c ls C E hl
  have hl : lv_has ls 3 [(0, .ref (G.2.1 0)), (1, .int v1)] := hl
  have L34 : ∀ (n34 : Nat) (v2 : Int32) (M : fm_M) (H : Heap) (locs : List Loc) (ls : Array Slot), fm_Wd shM G M s H locs → lv_has ls 3 [(0, .ref (G.2.1 0)), (2, .int v2)] → fm_lp (pModel_weights_L34 N) n34 (v2, M) = some (r, M') → W p l e { frames := 6, cells := 0, slots := 0, locals := 141 } s m args below meth c H locs 0 0 (fm_Z below shM G args s (some (.int r)) M') (F0 m 34 ls []) := by
    intro  n34
    induction n34 with
    | zero => intro v2 M H locs ls E hl hf; exact fm_lp_0 hf
    | succ n34 ih34 =>
      intro v2 M H locs ls E hl hf
      have hf : pModel_weights_L34b N (fm_lp (pModel_weights_L34 N) n34) v2 M = some (r, M') := hf
      unfold pModel_weights_L34b at hf
      refine lv_iload_n C.1 C.2.1 dX10_weights_34 rfl (lv_at hl 1 rfl) ?_
      refine lv_aload_n C.1 C.2.1 dX10_weights_35 rfl (lv_at hl 0 rfl) ?_
      refine fm_geti C E lf_X10_214 hM_0 rfl dX10_weights_36 ?_
      refine lv_icmp_ge (tgt := 59) C.1 C.2.1 dX10_weights_39 (by decide) (fun hc39 => ?_) (fun hc39 => ?_)
      · have hf := fm_ip hf hc39
        refine lv_aload_n C.1 C.2.1 dX10_weights_59 rfl (lv_at hl 0 rfl) ?_
        refine fm_geti C E lf_X10_214 hM_0 rfl dX10_weights_60 ?_
        obtain ⟨rfl, rfl⟩ := fm_rt2 hf
        exact fm_iret C E rfl rfl dX10_weights_63
      · have hf := fm_in' hf hc39
        refine lv_aload_n C.1 C.2.1 dX10_weights_42 rfl (lv_at hl 0 rfl) ?_
        refine lv_aload_n C.1 C.2.1 dX10_weights_43 rfl (lv_at hl 0 rfl) ?_
        refine fm_getr C E lf_X10_37 hM_0 rfl dX10_weights_44 ?_
        refine lv_iload_n C.1 C.2.1 dX10_weights_47 rfl (lv_at hl 1 rfl) ?_
        obtain ⟨h48, x48, e48, hf⟩ := fm_ld_e hf
        refine fm_iald' C E e48 hM_6 h48 dX10_weights_48 ?_
        refine lv_i2l C.1 C.2.1 dX10_weights_49 rfl ?_
        obtain ⟨M50, hc50, hf⟩ := fm_bd hf
        refine fm_callV C E [.long _] [] lm_X10_245 wk_X10_tell (c_Model_tell l G _ _ _ hc50) hM_0 rfl rfl rfl hl.1 (by simp [Value.category]) ⟨⟨rfl, rfl⟩, by decide, by decide⟩ ⟨by decide, by decide⟩ dX10_weights_50 rfl (fun H locs E => ?_)
        refine W.eq (g2 := F0 m 53 ls []) rfl ?_
        refine fm_iinc C (v := 1) (lv' := [(2, .int _), (0, .ref _)]) (k := 1) hl rfl (by decide) (by decide) rfl dX10_weights_53 (fun ls hl => ?_)
        refine lv_goto (tgt := 34) C.1 C.2.1 dX10_weights_56 (by decide) ?_
        exact ih34 _ _ _ _ _ E (lv_sub hl [1, 0] rfl) hf
  unfold pModel_weights at hf
  refine lv_aload_n C.1 C.2.1 dX10_weights_0 rfl (lv_at hl 0 rfl) ?_
  refine lv_iconst (v := 0) C.1 C.2.1 dX10_weights_1 (by decide) ?_
  obtain ⟨M2, e2, hf⟩ := fm_pt_s hf
  refine fm_put' C E e2 lp_X10_77 hM_0 rfl dX10_weights_2 (fun H locs E => ?_)
  refine lv_iload_n C.1 C.2.1 dX10_weights_5 rfl (lv_at hl 1 rfl) ?_
  obtain ⟨x6, hc6, hf⟩ := fm_bd hf
  refine fm_callS C E [.int _] [] lm_X10_182 wk_X10_isSide (c_Model_isSide l G _ _ _  hc6) rfl hl.1 (by simp [Value.category]) ⟨⟨rfl, rfl⟩, by decide, by decide⟩ ⟨by decide, by decide⟩ dX10_weights_6 rfl (fun H locs E => ?_)
  refine W.eq (g2 := F0 m 9 ls (.int x6 :: [])) rfl ?_
  refine lv_if_ne (tgt := 14) C.1 C.2.1 dX10_weights_9 (by decide) (fun hc9 => ?_) (fun hc9 => ?_)
  · have hf := fm_in' hf hc9
    refine lv_aload_n C.1 C.2.1 dX10_weights_14 rfl (lv_at hl 0 rfl) ?_
    obtain ⟨M15, hc15, hf⟩ := fm_bd hf
    refine fm_callV C E [] [] lm_X10_188 wk_X10_hear (c_Model_hear l G N _ _ hc15) hM_0 rfl rfl rfl hl.1 (by simp [Value.category]) ⟨⟨rfl, rfl⟩, by decide, by decide⟩ ⟨by decide, by decide⟩ dX10_weights_15 rfl (fun H locs E => ?_)
    refine W.eq (g2 := F0 m 18 ls []) rfl ?_
    refine lv_aload_n C.1 C.2.1 dX10_weights_18 rfl (lv_at hl 0 rfl) ?_
    refine lv_aload_n C.1 C.2.1 dX10_weights_19 rfl (lv_at hl 0 rfl) ?_
    obtain ⟨x20, hc20, hf⟩ := fm_bd hf
    refine fm_callV C E [] [.ref _] lm_X10_204 wk_X10_liveBits (c_Model_liveBits l G N _ _  hc20) hM_0 rfl rfl rfl hl.1 (by simp [Value.category]) ⟨⟨rfl, rfl⟩, by decide, by decide⟩ ⟨by decide, by decide⟩ dX10_weights_20 rfl (fun H locs E => ?_)
    refine W.eq (g2 := F0 m 23 ls (.int x20 :: [.ref _])) rfl ?_
    refine lv_iload_n C.1 C.2.1 dX10_weights_23 rfl (lv_at hl 1 rfl) ?_
    obtain ⟨M24, hc24, hf⟩ := fm_bd hf
    refine fm_callV C E [.int _, .int _] [] lm_X10_239 wk_X10_layWeights (c_Model_layWeights l G N _ _ _ _ hc24) hM_0 rfl rfl rfl hl.1 (by simp [Value.category]) ⟨⟨rfl, rfl⟩, by decide, by decide⟩ ⟨by decide, by decide⟩ dX10_weights_24 rfl (fun H locs E => ?_)
    refine W.eq (g2 := F0 m 27 ls []) rfl ?_
    refine lv_aload_n C.1 C.2.1 dX10_weights_27 rfl (lv_at hl 0 rfl) ?_
    refine lv_iconst (v := 0) C.1 C.2.1 dX10_weights_28 (by decide) ?_
    obtain ⟨M29, e29, hf⟩ := fm_pt_s hf
    refine fm_put' C E e29 lp_X10_80 hM_0 rfl dX10_weights_29 (fun H locs E => ?_)
    refine lv_iconst (v := 0) C.1 C.2.1 dX10_weights_32 (by decide) ?_
    refine lv_istore_n (lv' := [(2, .int _), (0, .ref _), (1, .int _)]) C.1 C.2.1 dX10_weights_33 rfl hl (by decide) rfl (fun ls hl => ?_)
    exact L34  N _ _ _ _ _ E (lv_sub hl [1, 0] rfl) hf
  · have hf := fm_ip hf hc9
    refine lv_iconst (v := (-1)) C.1 C.2.1 dX10_weights_12 (by decide) ?_
    obtain ⟨rfl, rfl⟩ := fm_rt2 hf
    exact fm_iret C E rfl rfl dX10_weights_13
theorem dX10_beamPower_0 : decode cX10_beamPower 0 = .ok (.aload_n 0, 1) := by decide +kernel
theorem dX10_beamPower_1 : decode cX10_beamPower 1 = .ok (.iload_n 1, 1) := by decide +kernel
theorem dX10_beamPower_2 : decode cX10_beamPower 2 = .ok (.iload_n 2, 1) := by decide +kernel
theorem dX10_beamPower_3 : decode cX10_beamPower 3 = .ok (.invokevirtual 232, 3) := by decide +kernel
theorem dX10_beamPower_6 : decode cX10_beamPower 6 = .ok (.aload_n 0, 1) := by decide +kernel
theorem dX10_beamPower_7 : decode cX10_beamPower 7 = .ok (.aload_n 0, 1) := by decide +kernel
theorem dX10_beamPower_8 : decode cX10_beamPower 8 = .ok (.getfield 40, 3) := by decide +kernel
theorem dX10_beamPower_11 : decode cX10_beamPower 11 = .ok (.invokevirtual 228, 3) := by decide +kernel
theorem dX10_beamPower_14 : decode cX10_beamPower 14 = .ok (.lreturn, 1) := by decide +kernel
set_option maxHeartbeats 4000000 in
set_option maxRecDepth 100000 in
theorem c_Model_beamPower (l : Launch) (G : fm_G) (N : Nat) (M : fm_M) (v1 : Int32) (v2 : Int32) (r : Int64) (M' : fm_M) (hf : pModel_beamPower N M v1 v2 = some (r, M')) : fm_Met l yX10_beamPower cX10_beamPower 3 (some .long) { frames := 5, cells := 0, slots := 0, locals := 117 } shM G [.ref (G.2.1 0), .int v1, .int v2] M (some (.long r)) M' := by
  refine fm_enter (by decide) (Nat.le_of_ble_eq_true rfl) ?_
  intro p e s m args below meth c ls C E hl
  have hl : lv_has ls 3 [(0, .ref (G.2.1 0)), (1, .int v1), (2, .int v2)] := hl
  unfold pModel_beamPower at hf
  refine lv_aload_n C.1 C.2.1 dX10_beamPower_0 rfl (lv_at hl 0 rfl) ?_
  refine lv_iload_n C.1 C.2.1 dX10_beamPower_1 rfl (lv_at hl 1 rfl) ?_
  refine lv_iload_n C.1 C.2.1 dX10_beamPower_2 rfl (lv_at hl 2 rfl) ?_
  obtain ⟨M3, hc3, hf⟩ := fm_bd hf
  refine fm_callV C E [.int _, .int _] [] lm_X10_232 wk_X10_layBeam (c_Model_layBeam l G N _ _ _ _ hc3) hM_0 rfl rfl rfl hl.1 (by simp [Value.category]) ⟨⟨rfl, rfl⟩, by decide, by decide⟩ ⟨by decide, by decide⟩ dX10_beamPower_3 rfl (fun H locs E => ?_)
  refine W.eq (g2 := F0 m 6 ls []) rfl ?_
  refine lv_aload_n C.1 C.2.1 dX10_beamPower_6 rfl (lv_at hl 0 rfl) ?_
  refine lv_aload_n C.1 C.2.1 dX10_beamPower_7 rfl (lv_at hl 0 rfl) ?_
  refine fm_getr C E lf_X10_40 hM_0 rfl dX10_beamPower_8 ?_
  obtain ⟨x11, hc11, hf⟩ := fm_bd hf
  refine fm_callV C E [.ref _] [] lm_X10_228 wk_X10_powerOf (c_Model_powerOf l G N _ _ _  hc11) hM_0 rfl rfl rfl hl.1 (by simp [Value.category]) ⟨⟨rfl, rfl⟩, by decide, by decide⟩ ⟨by decide, by decide⟩ dX10_beamPower_11 rfl (fun H locs E => ?_)
  refine W.eq (g2 := F0 m 14 ls (.long x11 :: [])) rfl ?_
  obtain ⟨rfl, rfl⟩ := fm_rt2 hf
  exact fm_lret C E rfl dX10_beamPower_14
theorem dX10_cleanPower_0 : decode cX10_cleanPower 0 = .ok (.aload_n 0, 1) := by decide +kernel
theorem dX10_cleanPower_1 : decode cX10_cleanPower 1 = .ok (.iload_n 1, 1) := by decide +kernel
theorem dX10_cleanPower_2 : decode cX10_cleanPower 2 = .ok (.iload_n 2, 1) := by decide +kernel
theorem dX10_cleanPower_3 : decode cX10_cleanPower 3 = .ok (.invokevirtual 239, 3) := by decide +kernel
theorem dX10_cleanPower_6 : decode cX10_cleanPower 6 = .ok (.aload_n 0, 1) := by decide +kernel
theorem dX10_cleanPower_7 : decode cX10_cleanPower 7 = .ok (.aload_n 0, 1) := by decide +kernel
theorem dX10_cleanPower_8 : decode cX10_cleanPower 8 = .ok (.getfield 46, 3) := by decide +kernel
theorem dX10_cleanPower_11 : decode cX10_cleanPower 11 = .ok (.invokevirtual 228, 3) := by decide +kernel
theorem dX10_cleanPower_14 : decode cX10_cleanPower 14 = .ok (.lreturn, 1) := by decide +kernel
set_option maxHeartbeats 4000000 in
set_option maxRecDepth 100000 in
theorem c_Model_cleanPower (l : Launch) (G : fm_G) (N : Nat) (M : fm_M) (v1 : Int32) (v2 : Int32) (r : Int64) (M' : fm_M) (hf : pModel_cleanPower N M v1 v2 = some (r, M')) : fm_Met l yX10_cleanPower cX10_cleanPower 3 (some .long) { frames := 6, cells := 0, slots := 0, locals := 141 } shM G [.ref (G.2.1 0), .int v1, .int v2] M (some (.long r)) M' := by
  refine fm_enter (by decide) (Nat.le_of_ble_eq_true rfl) ?_
  intro p e s m args below meth c ls C E hl
  have hl : lv_has ls 3 [(0, .ref (G.2.1 0)), (1, .int v1), (2, .int v2)] := hl
  unfold pModel_cleanPower at hf
  refine lv_aload_n C.1 C.2.1 dX10_cleanPower_0 rfl (lv_at hl 0 rfl) ?_
  refine lv_iload_n C.1 C.2.1 dX10_cleanPower_1 rfl (lv_at hl 1 rfl) ?_
  refine lv_iload_n C.1 C.2.1 dX10_cleanPower_2 rfl (lv_at hl 2 rfl) ?_
  obtain ⟨M3, hc3, hf⟩ := fm_bd hf
  refine fm_callV C E [.int _, .int _] [] lm_X10_239 wk_X10_layWeights (c_Model_layWeights l G N _ _ _ _ hc3) hM_0 rfl rfl rfl hl.1 (by simp [Value.category]) ⟨⟨rfl, rfl⟩, by decide, by decide⟩ ⟨by decide, by decide⟩ dX10_cleanPower_3 rfl (fun H locs E => ?_)
  refine W.eq (g2 := F0 m 6 ls []) rfl ?_
  refine lv_aload_n C.1 C.2.1 dX10_cleanPower_6 rfl (lv_at hl 0 rfl) ?_
  refine lv_aload_n C.1 C.2.1 dX10_cleanPower_7 rfl (lv_at hl 0 rfl) ?_
  refine fm_getr C E lf_X10_46 hM_0 rfl dX10_cleanPower_8 ?_
  obtain ⟨x11, hc11, hf⟩ := fm_bd hf
  refine fm_callV C E [.ref _] [] lm_X10_228 wk_X10_powerOf (c_Model_powerOf l G N _ _ _  hc11) hM_0 rfl rfl rfl hl.1 (by simp [Value.category]) ⟨⟨rfl, rfl⟩, by decide, by decide⟩ ⟨by decide, by decide⟩ dX10_cleanPower_11 rfl (fun H locs E => ?_)
  refine W.eq (g2 := F0 m 14 ls (.long x11 :: [])) rfl ?_
  obtain ⟨rfl, rfl⟩ := fm_rt2 hf
  exact fm_lret C E rfl dX10_cleanPower_14
theorem dX10_loudest_0 : decode cX10_loudest 0 = .ok (.aload_n 0, 1) := by decide +kernel
theorem dX10_loudest_1 : decode cX10_loudest 1 = .ok (.iconst 0, 1) := by decide +kernel
theorem dX10_loudest_2 : decode cX10_loudest 2 = .ok (.putfield 77, 3) := by decide +kernel
theorem dX10_loudest_5 : decode cX10_loudest 5 = .ok (.iload_n 1, 1) := by decide +kernel
theorem dX10_loudest_6 : decode cX10_loudest 6 = .ok (.iconst 0, 1) := by decide +kernel
theorem dX10_loudest_7 : decode cX10_loudest 7 = .ok (.iconst 1, 1) := by decide +kernel
theorem dX10_loudest_8 : decode cX10_loudest 8 = .ok (.invokestatic 83, 3) := by decide +kernel
theorem dX10_loudest_11 : decode cX10_loudest 11 = .ok (.ifCond .ne 5, 3) := by decide +kernel
theorem dX10_loudest_14 : decode cX10_loudest 14 = .ok (.iconst (-1), 1) := by decide +kernel
theorem dX10_loudest_15 : decode cX10_loudest 15 = .ok (.ireturn, 1) := by decide +kernel
theorem dX10_loudest_16 : decode cX10_loudest 16 = .ok (.aload_n 0, 1) := by decide +kernel
theorem dX10_loudest_17 : decode cX10_loudest 17 = .ok (.invokevirtual 204, 3) := by decide +kernel
theorem dX10_loudest_20 : decode cX10_loudest 20 = .ok (.istore_n 2, 1) := by decide +kernel
theorem dX10_loudest_21 : decode cX10_loudest 21 = .ok (.iload_n 2, 1) := by decide +kernel
theorem dX10_loudest_22 : decode cX10_loudest 22 = .ok (.ifCond .ne 6, 3) := by decide +kernel
theorem dX10_loudest_25 : decode cX10_loudest 25 = .ok (.bipush (-2), 2) := by decide +kernel
theorem dX10_loudest_27 : decode cX10_loudest 27 = .ok (.ireturn, 1) := by decide +kernel
theorem dX10_loudest_28 : decode cX10_loudest 28 = .ok (.aload_n 0, 1) := by decide +kernel
theorem dX10_loudest_29 : decode cX10_loudest 29 = .ok (.invokevirtual 188, 3) := by decide +kernel
theorem dX10_loudest_32 : decode cX10_loudest 32 = .ok (.iconst 0, 1) := by decide +kernel
theorem dX10_loudest_33 : decode cX10_loudest 33 = .ok (.istore_n 3, 1) := by decide +kernel
theorem dX10_loudest_34 : decode cX10_loudest 34 = .ok (.ldc2_w 220, 3) := by decide +kernel
theorem dX10_loudest_37 : decode cX10_loudest 37 = .ok (.lstore 4, 2) := by decide +kernel
theorem dX10_loudest_39 : decode cX10_loudest 39 = .ok (.iconst 0, 1) := by decide +kernel
theorem dX10_loudest_40 : decode cX10_loudest 40 = .ok (.istore 6, 2) := by decide +kernel
theorem dX10_loudest_42 : decode cX10_loudest 42 = .ok (.iload 6, 2) := by decide +kernel
theorem dX10_loudest_44 : decode cX10_loudest 44 = .ok (.bipush 16, 2) := by decide +kernel
theorem dX10_loudest_46 : decode cX10_loudest 46 = .ok (.if_icmp .gt 59, 3) := by decide +kernel
theorem dX10_loudest_49 : decode cX10_loudest 49 = .ok (.iload_n 1, 1) := by decide +kernel
theorem dX10_loudest_50 : decode cX10_loudest 50 = .ok (.ifCond .ne 16, 3) := by decide +kernel
theorem dX10_loudest_53 : decode cX10_loudest 53 = .ok (.aload_n 0, 1) := by decide +kernel
theorem dX10_loudest_54 : decode cX10_loudest 54 = .ok (.iload_n 2, 1) := by decide +kernel
theorem dX10_loudest_55 : decode cX10_loudest 55 = .ok (.iload 6, 2) := by decide +kernel
theorem dX10_loudest_57 : decode cX10_loudest 57 = .ok (.invokestatic 222, 3) := by decide +kernel
theorem dX10_loudest_60 : decode cX10_loudest 60 = .ok (.invokevirtual 253, 3) := by decide +kernel
theorem dX10_loudest_63 : decode cX10_loudest 63 = .ok (.goto 13, 3) := by decide +kernel
theorem dX10_loudest_66 : decode cX10_loudest 66 = .ok (.aload_n 0, 1) := by decide +kernel
theorem dX10_loudest_67 : decode cX10_loudest 67 = .ok (.iload_n 2, 1) := by decide +kernel
theorem dX10_loudest_68 : decode cX10_loudest 68 = .ok (.iload 6, 2) := by decide +kernel
theorem dX10_loudest_70 : decode cX10_loudest 70 = .ok (.invokestatic 222, 3) := by decide +kernel
theorem dX10_loudest_73 : decode cX10_loudest 73 = .ok (.invokevirtual 257, 3) := by decide +kernel
theorem dX10_loudest_76 : decode cX10_loudest 76 = .ok (.lstore 7, 2) := by decide +kernel
theorem dX10_loudest_78 : decode cX10_loudest 78 = .ok (.lload 7, 2) := by decide +kernel
theorem dX10_loudest_80 : decode cX10_loudest 80 = .ok (.lload 4, 2) := by decide +kernel
theorem dX10_loudest_82 : decode cX10_loudest 82 = .ok (.lcmp, 1) := by decide +kernel
theorem dX10_loudest_83 : decode cX10_loudest 83 = .ok (.ifCond .gt 6, 3) := by decide +kernel
theorem dX10_loudest_86 : decode cX10_loudest 86 = .ok (.goto 13, 3) := by decide +kernel
theorem dX10_loudest_89 : decode cX10_loudest 89 = .ok (.lload 7, 2) := by decide +kernel
theorem dX10_loudest_91 : decode cX10_loudest 91 = .ok (.lstore 4, 2) := by decide +kernel
theorem dX10_loudest_93 : decode cX10_loudest 93 = .ok (.iload 6, 2) := by decide +kernel
theorem dX10_loudest_95 : decode cX10_loudest 95 = .ok (.invokestatic 222, 3) := by decide +kernel
theorem dX10_loudest_98 : decode cX10_loudest 98 = .ok (.istore_n 3, 1) := by decide +kernel
theorem dX10_loudest_99 : decode cX10_loudest 99 = .ok (.iinc 6 1, 3) := by decide +kernel
theorem dX10_loudest_102 : decode cX10_loudest 102 = .ok (.goto (-60), 3) := by decide +kernel
theorem dX10_loudest_105 : decode cX10_loudest 105 = .ok (.aload_n 0, 1) := by decide +kernel
theorem dX10_loudest_106 : decode cX10_loudest 106 = .ok (.iconst 0, 1) := by decide +kernel
theorem dX10_loudest_107 : decode cX10_loudest 107 = .ok (.putfield 80, 3) := by decide +kernel
theorem dX10_loudest_110 : decode cX10_loudest 110 = .ok (.aload_n 0, 1) := by decide +kernel
theorem dX10_loudest_111 : decode cX10_loudest 111 = .ok (.lload 4, 2) := by decide +kernel
theorem dX10_loudest_113 : decode cX10_loudest 113 = .ok (.invokevirtual 245, 3) := by decide +kernel
theorem dX10_loudest_116 : decode cX10_loudest 116 = .ok (.bipush 8, 2) := by decide +kernel
theorem dX10_loudest_118 : decode cX10_loudest 118 = .ok (.iload_n 3, 1) := by decide +kernel
theorem dX10_loudest_119 : decode cX10_loudest 119 = .ok (.iadd, 1) := by decide +kernel
theorem dX10_loudest_120 : decode cX10_loudest 120 = .ok (.ireturn, 1) := by decide +kernel
set_option maxHeartbeats 4000000 in
set_option maxRecDepth 100000 in
theorem c_Model_loudest (l : Launch) (G : fm_G) (N : Nat) (M : fm_M) (v1 : Int32) (r : Int32) (M' : fm_M) (hf : pModel_loudest N M v1 = some (r, M')) : fm_Met l yX10_loudest cX10_loudest 9 (some .int) { frames := 7, cells := 0, slots := 0, locals := 163 } shM G [.ref (G.2.1 0), .int v1] M (some (.int r)) M' := by
  refine fm_enter (by decide) (Nat.le_of_ble_eq_true rfl) ?_
  intro p e s m args below meth c ls C E hl
  have hl : lv_has ls 9 [(0, .ref (G.2.1 0)), (1, .int v1)] := hl
  have L42 : ∀ (w42_v1 : Int32) (w42_v2 : Int32) (n42 : Nat) (v3 : Int32) (v4 : Int64) (v6 : Int32) (M : fm_M) (H : Heap) (locs : List Loc) (ls : Array Slot), fm_Wd shM G M s H locs → lv_has ls 9 [(0, .ref (G.2.1 0)), (1, .int w42_v1), (2, .int w42_v2), (3, .int v3), (4, .long v4), (6, .int v6)] → fm_lp (pModel_loudest_L42 N w42_v1 w42_v2) n42 (v3, v4, v6, M) = some (r, M') → W p l e { frames := 7, cells := 0, slots := 0, locals := 163 } s m args below meth c H locs 0 0 (fm_Z below shM G args s (some (.int r)) M') (F0 m 42 ls []) := by
    intro w42_v1 w42_v2 n42
    induction n42 with
    | zero => intro v3 v4 v6 M H locs ls E hl hf; exact fm_lp_0 hf
    | succ n42 ih42 =>
      have J76 : ∀ (M : fm_M) (v3 : Int32) (v4 : Int64) (v6 : Int32) (s0 : Int64) (H : Heap) (locs : List Loc) (ls : Array Slot), fm_Wd shM G M s H locs → lv_has ls 9 [(0, .ref (G.2.1 0)), (1, .int w42_v1), (2, .int w42_v2), (3, .int v3), (4, .long v4), (6, .int v6)] → pModel_loudest_J76 N M w42_v1 w42_v2 v3 v4 v6 (fm_lp (pModel_loudest_L42 N w42_v1 w42_v2) n42) s0 = some (r, M') → W p l e { frames := 7, cells := 0, slots := 0, locals := 163 } s m args below meth c H locs 0 0 (fm_Z below shM G args s (some (.int r)) M') (F0 m 76 ls [.long s0]) := by
        intro M v3 v4 v6 s0 H locs ls E hl hf
        unfold pModel_loudest_J76 at hf
        refine lv_lstore (lv' := [(7, .long _), (0, .ref _), (1, .int _), (2, .int _), (3, .int _), (4, .long _), (6, .int _)]) C.1 C.2.1 dX10_loudest_76 hl (by decide) rfl (fun ls hl => ?_)
        refine lv_lload C.1 C.2.1 dX10_loudest_78 (lv_at hl 0 rfl) ?_
        refine lv_lload C.1 C.2.1 dX10_loudest_80 (lv_at hl 5 rfl) ?_
        refine W.lcmp C.1 C.2.1 dX10_loudest_82 ?_
        refine lv_if_gt (tgt := 89) C.1 C.2.1 dX10_loudest_83 (by decide) (fun hc83 => ?_) (fun hc83 => ?_)
        · have hf := fm_ip hf hc83
          refine lv_lload C.1 C.2.1 dX10_loudest_89 (lv_at hl 0 rfl) ?_
          refine lv_lstore (lv' := [(4, .long _), (7, .long _), (0, .ref _), (1, .int _), (2, .int _), (3, .int _), (6, .int _)]) C.1 C.2.1 dX10_loudest_91 hl (by decide) rfl (fun ls hl => ?_)
          refine lv_iload C.1 C.2.1 dX10_loudest_93 (lv_at hl 6 rfl) ?_
          obtain ⟨x95, hc95, hf⟩ := fm_bd hf
          refine fm_callS C E [.int _] [] lm_X10_222 wk_X10_turn (c_Model_turn l G _ _ _  hc95) rfl hl.1 (by simp [Value.category]) ⟨⟨rfl, rfl⟩, by decide, by decide⟩ ⟨by decide, by decide⟩ dX10_loudest_95 rfl (fun H locs E => ?_)
          refine W.eq (g2 := F0 m 98 ls (.int x95 :: [])) rfl ?_
          refine lv_istore_n (lv' := [(3, .int _), (4, .long _), (7, .long _), (0, .ref _), (1, .int _), (2, .int _), (6, .int _)]) C.1 C.2.1 dX10_loudest_98 rfl hl (by decide) rfl (fun ls hl => ?_)
          refine fm_iinc C (v := 1) (lv' := [(6, .int _), (3, .int _), (4, .long _), (7, .long _), (0, .ref _), (1, .int _), (2, .int _)]) (k := 6) hl rfl (by decide) (by decide) rfl dX10_loudest_99 (fun ls hl => ?_)
          refine lv_goto (tgt := 42) C.1 C.2.1 dX10_loudest_102 (by decide) ?_
          exact ih42 _ _ _ _ _ _ _ E (lv_sub hl [4, 5, 6, 1, 2, 0] rfl) hf
        · have hf := fm_in' hf hc83
          refine lv_goto (tgt := 99) C.1 C.2.1 dX10_loudest_86 (by decide) ?_
          refine fm_iinc C (v := 1) (lv' := [(6, .int _), (7, .long _), (0, .ref _), (1, .int _), (2, .int _), (3, .int _), (4, .long _)]) (k := 6) hl rfl (by decide) (by decide) rfl dX10_loudest_99 (fun ls hl => ?_)
          refine lv_goto (tgt := 42) C.1 C.2.1 dX10_loudest_102 (by decide) ?_
          exact ih42 _ _ _ _ _ _ _ E (lv_sub hl [2, 3, 4, 5, 6, 0] rfl) hf
      intro v3 v4 v6 M H locs ls E hl hf
      have hf : pModel_loudest_L42b N w42_v1 w42_v2 (fm_lp (pModel_loudest_L42 N w42_v1 w42_v2) n42) v3 v4 v6 M = some (r, M') := hf
      unfold pModel_loudest_L42b at hf
      refine lv_iload C.1 C.2.1 dX10_loudest_42 (lv_at hl 5 rfl) ?_
      refine lv_bipush (v := 16) C.1 C.2.1 dX10_loudest_44 (by decide) ?_
      refine lv_icmp_gt (tgt := 105) C.1 C.2.1 dX10_loudest_46 (by decide) (fun hc46 => ?_) (fun hc46 => ?_)
      · have hf := fm_ip hf hc46
        refine lv_aload_n C.1 C.2.1 dX10_loudest_105 rfl (lv_at hl 0 rfl) ?_
        refine lv_iconst (v := 0) C.1 C.2.1 dX10_loudest_106 (by decide) ?_
        obtain ⟨M107, e107, hf⟩ := fm_pt_s hf
        refine fm_put' C E e107 lp_X10_80 hM_0 rfl dX10_loudest_107 (fun H locs E => ?_)
        refine lv_aload_n C.1 C.2.1 dX10_loudest_110 rfl (lv_at hl 0 rfl) ?_
        refine lv_lload C.1 C.2.1 dX10_loudest_111 (lv_at hl 4 rfl) ?_
        obtain ⟨M113, hc113, hf⟩ := fm_bd hf
        refine fm_callV C E [.long _] [] lm_X10_245 wk_X10_tell (c_Model_tell l G _ _ _ hc113) hM_0 rfl rfl rfl hl.1 (by simp [Value.category]) ⟨⟨rfl, rfl⟩, by decide, by decide⟩ ⟨by decide, by decide⟩ dX10_loudest_113 rfl (fun H locs E => ?_)
        refine W.eq (g2 := F0 m 116 ls []) rfl ?_
        refine lv_bipush (v := 8) C.1 C.2.1 dX10_loudest_116 (by decide) ?_
        refine lv_iload_n C.1 C.2.1 dX10_loudest_118 rfl (lv_at hl 3 rfl) ?_
        refine lv_iadd C.1 C.2.1 dX10_loudest_119 ?_
        obtain ⟨rfl, rfl⟩ := fm_rt2 hf
        exact fm_iret C E rfl rfl dX10_loudest_120
      · have hf := fm_in' hf hc46
        refine lv_iload_n C.1 C.2.1 dX10_loudest_49 rfl (lv_at hl 1 rfl) ?_
        refine lv_if_ne (tgt := 66) C.1 C.2.1 dX10_loudest_50 (by decide) (fun hc50 => ?_) (fun hc50 => ?_)
        · have hf := fm_in' hf hc50
          refine lv_aload_n C.1 C.2.1 dX10_loudest_66 rfl (lv_at hl 0 rfl) ?_
          refine lv_iload_n C.1 C.2.1 dX10_loudest_67 rfl (lv_at hl 2 rfl) ?_
          refine lv_iload C.1 C.2.1 dX10_loudest_68 (lv_at hl 5 rfl) ?_
          obtain ⟨x70, hc70, hf⟩ := fm_bd hf
          refine fm_callS C E [.int _] [.int _, .ref _] lm_X10_222 wk_X10_turn (c_Model_turn l G _ _ _  hc70) rfl hl.1 (by simp [Value.category]) ⟨⟨rfl, rfl⟩, by decide, by decide⟩ ⟨by decide, by decide⟩ dX10_loudest_70 rfl (fun H locs E => ?_)
          refine W.eq (g2 := F0 m 73 ls (.int x70 :: [.int _, .ref _])) rfl ?_
          obtain ⟨⟨x73, M73⟩, hc73, hf⟩ := fm_bd hf
          dsimp only at hf
          refine fm_callV C E [.int _, .int _] [] lm_X10_257 wk_X10_cleanPower (c_Model_cleanPower l G N _ _ _ _ _ hc73) hM_0 rfl rfl rfl hl.1 (by simp [Value.category]) ⟨⟨rfl, rfl⟩, by decide, by decide⟩ ⟨by decide, by decide⟩ dX10_loudest_73 rfl (fun H locs E => ?_)
          refine W.eq (g2 := F0 m 76 ls (.long x73 :: [])) rfl ?_
          exact J76 _ _ _ _ _ _ _ _ E (lv_sub hl [0, 1, 2, 3, 4, 5] rfl) hf
        · have hf := fm_ip hf hc50
          refine lv_aload_n C.1 C.2.1 dX10_loudest_53 rfl (lv_at hl 0 rfl) ?_
          refine lv_iload_n C.1 C.2.1 dX10_loudest_54 rfl (lv_at hl 2 rfl) ?_
          refine lv_iload C.1 C.2.1 dX10_loudest_55 (lv_at hl 5 rfl) ?_
          obtain ⟨x57, hc57, hf⟩ := fm_bd hf
          refine fm_callS C E [.int _] [.int _, .ref _] lm_X10_222 wk_X10_turn (c_Model_turn l G _ _ _  hc57) rfl hl.1 (by simp [Value.category]) ⟨⟨rfl, rfl⟩, by decide, by decide⟩ ⟨by decide, by decide⟩ dX10_loudest_57 rfl (fun H locs E => ?_)
          refine W.eq (g2 := F0 m 60 ls (.int x57 :: [.int _, .ref _])) rfl ?_
          obtain ⟨⟨x60, M60⟩, hc60, hf⟩ := fm_bd hf
          dsimp only at hf
          refine fm_callV C E [.int _, .int _] [] lm_X10_253 wk_X10_beamPower (c_Model_beamPower l G N _ _ _ _ _ hc60) hM_0 rfl rfl rfl hl.1 (by simp [Value.category]) ⟨⟨rfl, rfl⟩, by decide, by decide⟩ ⟨by decide, by decide⟩ dX10_loudest_60 rfl (fun H locs E => ?_)
          refine W.eq (g2 := F0 m 63 ls (.long x60 :: [])) rfl ?_
          refine lv_goto (tgt := 76) C.1 C.2.1 dX10_loudest_63 (by decide) ?_
          exact J76 _ _ _ _ _ _ _ _ E (lv_sub hl [0, 1, 2, 3, 4, 5] rfl) hf
  unfold pModel_loudest at hf
  refine lv_aload_n C.1 C.2.1 dX10_loudest_0 rfl (lv_at hl 0 rfl) ?_
  refine lv_iconst (v := 0) C.1 C.2.1 dX10_loudest_1 (by decide) ?_
  obtain ⟨M2, e2, hf⟩ := fm_pt_s hf
  refine fm_put' C E e2 lp_X10_77 hM_0 rfl dX10_loudest_2 (fun H locs E => ?_)
  refine lv_iload_n C.1 C.2.1 dX10_loudest_5 rfl (lv_at hl 1 rfl) ?_
  refine lv_iconst (v := 0) C.1 C.2.1 dX10_loudest_6 (by decide) ?_
  refine lv_iconst (v := 1) C.1 C.2.1 dX10_loudest_7 (by decide) ?_
  obtain ⟨x8, hc8, hf⟩ := fm_bd hf
  refine fm_callS C E [.int _, .int _, .int _] [] lm_X10_83 wk_X10_in (c_Model_in l G _ _ _ _ _  hc8) rfl hl.1 (by simp [Value.category]) ⟨⟨rfl, rfl⟩, by decide, by decide⟩ ⟨by decide, by decide⟩ dX10_loudest_8 rfl (fun H locs E => ?_)
  refine W.eq (g2 := F0 m 11 ls (.int x8 :: [])) rfl ?_
  refine lv_if_ne (tgt := 16) C.1 C.2.1 dX10_loudest_11 (by decide) (fun hc11 => ?_) (fun hc11 => ?_)
  · have hf := fm_in' hf hc11
    refine lv_aload_n C.1 C.2.1 dX10_loudest_16 rfl (lv_at hl 0 rfl) ?_
    obtain ⟨x17, hc17, hf⟩ := fm_bd hf
    refine fm_callV C E [] [] lm_X10_204 wk_X10_liveBits (c_Model_liveBits l G N _ _  hc17) hM_0 rfl rfl rfl hl.1 (by simp [Value.category]) ⟨⟨rfl, rfl⟩, by decide, by decide⟩ ⟨by decide, by decide⟩ dX10_loudest_17 rfl (fun H locs E => ?_)
    refine W.eq (g2 := F0 m 20 ls (.int x17 :: [])) rfl ?_
    refine lv_istore_n (lv' := [(2, .int _), (0, .ref _), (1, .int _)]) C.1 C.2.1 dX10_loudest_20 rfl hl (by decide) rfl (fun ls hl => ?_)
    refine lv_iload_n C.1 C.2.1 dX10_loudest_21 rfl (lv_at hl 0 rfl) ?_
    refine lv_if_ne (tgt := 28) C.1 C.2.1 dX10_loudest_22 (by decide) (fun hc22 => ?_) (fun hc22 => ?_)
    · have hf := fm_in' hf hc22
      refine lv_aload_n C.1 C.2.1 dX10_loudest_28 rfl (lv_at hl 1 rfl) ?_
      obtain ⟨M29, hc29, hf⟩ := fm_bd hf
      refine fm_callV C E [] [] lm_X10_188 wk_X10_hear (c_Model_hear l G N _ _ hc29) hM_0 rfl rfl rfl hl.1 (by simp [Value.category]) ⟨⟨rfl, rfl⟩, by decide, by decide⟩ ⟨by decide, by decide⟩ dX10_loudest_29 rfl (fun H locs E => ?_)
      refine W.eq (g2 := F0 m 32 ls []) rfl ?_
      refine lv_iconst (v := 0) C.1 C.2.1 dX10_loudest_32 (by decide) ?_
      refine lv_istore_n (lv' := [(3, .int _), (2, .int _), (0, .ref _), (1, .int _)]) C.1 C.2.1 dX10_loudest_33 rfl hl (by decide) rfl (fun ls hl => ?_)
      refine lv_ldc2 C.1 C.2.1 C.2.2.2.1 (C.2.2.2.2.1 _ wc_1397) dX10_loudest_34 ?_
      refine lv_lstore (lv' := [(4, .long _), (3, .int _), (2, .int _), (0, .ref _), (1, .int _)]) C.1 C.2.1 dX10_loudest_37 hl (by decide) rfl (fun ls hl => ?_)
      refine lv_iconst (v := 0) C.1 C.2.1 dX10_loudest_39 (by decide) ?_
      refine lv_istore (lv' := [(6, .int _), (4, .long _), (3, .int _), (2, .int _), (0, .ref _), (1, .int _)]) C.1 C.2.1 dX10_loudest_40 hl (by decide) rfl (fun ls hl => ?_)
      exact L42 _ _ N _ _ _ _ _ _ _ E (lv_sub hl [4, 5, 3, 2, 1, 0] rfl) hf
    · have hf := fm_ip hf hc22
      refine lv_bipush (v := (-2)) C.1 C.2.1 dX10_loudest_25 (by decide) ?_
      obtain ⟨rfl, rfl⟩ := fm_rt2 hf
      exact fm_iret C E rfl rfl dX10_loudest_27
  · have hf := fm_ip hf hc11
    refine lv_iconst (v := (-1)) C.1 C.2.1 dX10_loudest_14 (by decide) ?_
    obtain ⟨rfl, rfl⟩ := fm_rt2 hf
    exact fm_iret C E rfl rfl dX10_loudest_15
theorem dX10_pattern_0 : decode cX10_pattern 0 = .ok (.aload_n 0, 1) := by decide +kernel
theorem dX10_pattern_1 : decode cX10_pattern 1 = .ok (.iconst 0, 1) := by decide +kernel
theorem dX10_pattern_2 : decode cX10_pattern 2 = .ok (.putfield 77, 3) := by decide +kernel
theorem dX10_pattern_5 : decode cX10_pattern 5 = .ok (.aload_n 0, 1) := by decide +kernel
theorem dX10_pattern_6 : decode cX10_pattern 6 = .ok (.invokevirtual 204, 3) := by decide +kernel
theorem dX10_pattern_9 : decode cX10_pattern 9 = .ok (.istore_n 1, 1) := by decide +kernel
theorem dX10_pattern_10 : decode cX10_pattern 10 = .ok (.iload_n 1, 1) := by decide +kernel
theorem dX10_pattern_11 : decode cX10_pattern 11 = .ok (.ifCond .ne 6, 3) := by decide +kernel
theorem dX10_pattern_14 : decode cX10_pattern 14 = .ok (.bipush (-2), 2) := by decide +kernel
theorem dX10_pattern_16 : decode cX10_pattern 16 = .ok (.ireturn, 1) := by decide +kernel
theorem dX10_pattern_17 : decode cX10_pattern 17 = .ok (.aload_n 0, 1) := by decide +kernel
theorem dX10_pattern_18 : decode cX10_pattern 18 = .ok (.invokevirtual 188, 3) := by decide +kernel
theorem dX10_pattern_21 : decode cX10_pattern 21 = .ok (.aload_n 0, 1) := by decide +kernel
theorem dX10_pattern_22 : decode cX10_pattern 22 = .ok (.iconst 0, 1) := by decide +kernel
theorem dX10_pattern_23 : decode cX10_pattern 23 = .ok (.putfield 80, 3) := by decide +kernel
theorem dX10_pattern_26 : decode cX10_pattern 26 = .ok (.iconst 0, 1) := by decide +kernel
theorem dX10_pattern_27 : decode cX10_pattern 27 = .ok (.istore_n 2, 1) := by decide +kernel
theorem dX10_pattern_28 : decode cX10_pattern 28 = .ok (.iconst 0, 1) := by decide +kernel
theorem dX10_pattern_29 : decode cX10_pattern 29 = .ok (.istore_n 3, 1) := by decide +kernel
theorem dX10_pattern_30 : decode cX10_pattern 30 = .ok (.bipush (-8), 2) := by decide +kernel
theorem dX10_pattern_32 : decode cX10_pattern 32 = .ok (.istore 4, 2) := by decide +kernel
theorem dX10_pattern_34 : decode cX10_pattern 34 = .ok (.iload 4, 2) := by decide +kernel
theorem dX10_pattern_36 : decode cX10_pattern 36 = .ok (.bipush 8, 2) := by decide +kernel
theorem dX10_pattern_38 : decode cX10_pattern 38 = .ok (.if_icmp .gt 55, 3) := by decide +kernel
theorem dX10_pattern_41 : decode cX10_pattern 41 = .ok (.aload_n 0, 1) := by decide +kernel
theorem dX10_pattern_42 : decode cX10_pattern 42 = .ok (.iload_n 1, 1) := by decide +kernel
theorem dX10_pattern_43 : decode cX10_pattern 43 = .ok (.iload 4, 2) := by decide +kernel
theorem dX10_pattern_45 : decode cX10_pattern 45 = .ok (.invokevirtual 232, 3) := by decide +kernel
theorem dX10_pattern_48 : decode cX10_pattern 48 = .ok (.aload_n 0, 1) := by decide +kernel
theorem dX10_pattern_49 : decode cX10_pattern 49 = .ok (.aload_n 0, 1) := by decide +kernel
theorem dX10_pattern_50 : decode cX10_pattern 50 = .ok (.getfield 40, 3) := by decide +kernel
theorem dX10_pattern_53 : decode cX10_pattern 53 = .ok (.invokevirtual 249, 3) := by decide +kernel
theorem dX10_pattern_56 : decode cX10_pattern 56 = .ok (.istore 5, 2) := by decide +kernel
theorem dX10_pattern_58 : decode cX10_pattern 58 = .ok (.aload_n 0, 1) := by decide +kernel
theorem dX10_pattern_59 : decode cX10_pattern 59 = .ok (.iload 5, 2) := by decide +kernel
theorem dX10_pattern_61 : decode cX10_pattern 61 = .ok (.i2l, 1) := by decide +kernel
theorem dX10_pattern_62 : decode cX10_pattern 62 = .ok (.invokevirtual 245, 3) := by decide +kernel
theorem dX10_pattern_65 : decode cX10_pattern 65 = .ok (.iload 4, 2) := by decide +kernel
theorem dX10_pattern_67 : decode cX10_pattern 67 = .ok (.bipush (-8), 2) := by decide +kernel
theorem dX10_pattern_69 : decode cX10_pattern 69 = .ok (.if_icmp .le 12, 3) := by decide +kernel
theorem dX10_pattern_72 : decode cX10_pattern 72 = .ok (.iload 5, 2) := by decide +kernel
theorem dX10_pattern_74 : decode cX10_pattern 74 = .ok (.iload_n 3, 1) := by decide +kernel
theorem dX10_pattern_75 : decode cX10_pattern 75 = .ok (.if_icmp .lt 6, 3) := by decide +kernel
theorem dX10_pattern_78 : decode cX10_pattern 78 = .ok (.goto 9, 3) := by decide +kernel
theorem dX10_pattern_81 : decode cX10_pattern 81 = .ok (.iload 4, 2) := by decide +kernel
theorem dX10_pattern_83 : decode cX10_pattern 83 = .ok (.istore_n 2, 1) := by decide +kernel
theorem dX10_pattern_84 : decode cX10_pattern 84 = .ok (.iload 5, 2) := by decide +kernel
theorem dX10_pattern_86 : decode cX10_pattern 86 = .ok (.istore_n 3, 1) := by decide +kernel
theorem dX10_pattern_87 : decode cX10_pattern 87 = .ok (.iinc 4 1, 3) := by decide +kernel
theorem dX10_pattern_90 : decode cX10_pattern 90 = .ok (.goto (-56), 3) := by decide +kernel
theorem dX10_pattern_93 : decode cX10_pattern 93 = .ok (.bipush 8, 2) := by decide +kernel
theorem dX10_pattern_95 : decode cX10_pattern 95 = .ok (.iload_n 2, 1) := by decide +kernel
theorem dX10_pattern_96 : decode cX10_pattern 96 = .ok (.iadd, 1) := by decide +kernel
theorem dX10_pattern_97 : decode cX10_pattern 97 = .ok (.ireturn, 1) := by decide +kernel
set_option maxHeartbeats 4000000 in
set_option maxRecDepth 100000 in
theorem c_Model_pattern (l : Launch) (G : fm_G) (N : Nat) (M : fm_M) (r : Int32) (M' : fm_M) (hf : pModel_pattern N M = some (r, M')) : fm_Met l yX10_pattern cX10_pattern 6 (some .int) { frames := 5, cells := 0, slots := 0, locals := 117 } shM G [.ref (G.2.1 0)] M (some (.int r)) M' := by
  refine fm_enter (by decide) (Nat.le_of_ble_eq_true rfl) ?_
  intro p e s m args below meth c ls C E hl
  have hl : lv_has ls 6 [(0, .ref (G.2.1 0))] := hl
  have L34 : ∀ (w34_v1 : Int32) (n34 : Nat) (v2 : Int32) (v3 : Int32) (v4 : Int32) (M : fm_M) (H : Heap) (locs : List Loc) (ls : Array Slot), fm_Wd shM G M s H locs → lv_has ls 6 [(0, .ref (G.2.1 0)), (1, .int w34_v1), (2, .int v2), (3, .int v3), (4, .int v4)] → fm_lp (pModel_pattern_L34 N w34_v1) n34 (v2, v3, v4, M) = some (r, M') → W p l e { frames := 5, cells := 0, slots := 0, locals := 117 } s m args below meth c H locs 0 0 (fm_Z below shM G args s (some (.int r)) M') (F0 m 34 ls []) := by
    intro w34_v1 n34
    induction n34 with
    | zero => intro v2 v3 v4 M H locs ls E hl hf; exact fm_lp_0 hf
    | succ n34 ih34 =>
      intro v2 v3 v4 M H locs ls E hl hf
      have hf : pModel_pattern_L34b N w34_v1 (fm_lp (pModel_pattern_L34 N w34_v1) n34) v2 v3 v4 M = some (r, M') := hf
      unfold pModel_pattern_L34b at hf
      refine lv_iload C.1 C.2.1 dX10_pattern_34 (lv_at hl 4 rfl) ?_
      refine lv_bipush (v := 8) C.1 C.2.1 dX10_pattern_36 (by decide) ?_
      refine lv_icmp_gt (tgt := 93) C.1 C.2.1 dX10_pattern_38 (by decide) (fun hc38 => ?_) (fun hc38 => ?_)
      · have hf := fm_ip hf hc38
        refine lv_bipush (v := 8) C.1 C.2.1 dX10_pattern_93 (by decide) ?_
        refine lv_iload_n C.1 C.2.1 dX10_pattern_95 rfl (lv_at hl 2 rfl) ?_
        refine lv_iadd C.1 C.2.1 dX10_pattern_96 ?_
        obtain ⟨rfl, rfl⟩ := fm_rt2 hf
        exact fm_iret C E rfl rfl dX10_pattern_97
      · have hf := fm_in' hf hc38
        refine lv_aload_n C.1 C.2.1 dX10_pattern_41 rfl (lv_at hl 0 rfl) ?_
        refine lv_iload_n C.1 C.2.1 dX10_pattern_42 rfl (lv_at hl 1 rfl) ?_
        refine lv_iload C.1 C.2.1 dX10_pattern_43 (lv_at hl 4 rfl) ?_
        obtain ⟨M45, hc45, hf⟩ := fm_bd hf
        refine fm_callV C E [.int _, .int _] [] lm_X10_232 wk_X10_layBeam (c_Model_layBeam l G N _ _ _ _ hc45) hM_0 rfl rfl rfl hl.1 (by simp [Value.category]) ⟨⟨rfl, rfl⟩, by decide, by decide⟩ ⟨by decide, by decide⟩ dX10_pattern_45 rfl (fun H locs E => ?_)
        refine W.eq (g2 := F0 m 48 ls []) rfl ?_
        refine lv_aload_n C.1 C.2.1 dX10_pattern_48 rfl (lv_at hl 0 rfl) ?_
        refine lv_aload_n C.1 C.2.1 dX10_pattern_49 rfl (lv_at hl 0 rfl) ?_
        refine fm_getr C E lf_X10_40 hM_0 rfl dX10_pattern_50 ?_
        obtain ⟨x53, hc53, hf⟩ := fm_bd hf
        refine fm_callV C E [.ref _] [] lm_X10_249 wk_X10_levelOf (c_Model_levelOf l G N _ _ _  hc53) hM_0 rfl rfl rfl hl.1 (by simp [Value.category]) ⟨⟨rfl, rfl⟩, by decide, by decide⟩ ⟨by decide, by decide⟩ dX10_pattern_53 rfl (fun H locs E => ?_)
        refine W.eq (g2 := F0 m 56 ls (.int x53 :: [])) rfl ?_
        refine lv_istore (lv' := [(5, .int _), (0, .ref _), (1, .int _), (2, .int _), (3, .int _), (4, .int _)]) C.1 C.2.1 dX10_pattern_56 hl (by decide) rfl (fun ls hl => ?_)
        refine lv_aload_n C.1 C.2.1 dX10_pattern_58 rfl (lv_at hl 1 rfl) ?_
        refine lv_iload C.1 C.2.1 dX10_pattern_59 (lv_at hl 0 rfl) ?_
        refine lv_i2l C.1 C.2.1 dX10_pattern_61 rfl ?_
        obtain ⟨M62, hc62, hf⟩ := fm_bd hf
        refine fm_callV C E [.long _] [] lm_X10_245 wk_X10_tell (c_Model_tell l G _ _ _ hc62) hM_0 rfl rfl rfl hl.1 (by simp [Value.category]) ⟨⟨rfl, rfl⟩, by decide, by decide⟩ ⟨by decide, by decide⟩ dX10_pattern_62 rfl (fun H locs E => ?_)
        refine W.eq (g2 := F0 m 65 ls []) rfl ?_
        refine lv_iload C.1 C.2.1 dX10_pattern_65 (lv_at hl 5 rfl) ?_
        refine lv_bipush (v := (-8)) C.1 C.2.1 dX10_pattern_67 (by decide) ?_
        refine lv_icmp_le (tgt := 81) C.1 C.2.1 dX10_pattern_69 (by decide) (fun hc69 => ?_) (fun hc69 => ?_)
        · have hf := fm_ip hf hc69
          refine lv_iload C.1 C.2.1 dX10_pattern_81 (lv_at hl 5 rfl) ?_
          refine lv_istore_n (lv' := [(2, .int _), (5, .int _), (0, .ref _), (1, .int _), (3, .int _), (4, .int _)]) C.1 C.2.1 dX10_pattern_83 rfl hl (by decide) rfl (fun ls hl => ?_)
          refine lv_iload C.1 C.2.1 dX10_pattern_84 (lv_at hl 1 rfl) ?_
          refine lv_istore_n (lv' := [(3, .int _), (2, .int _), (5, .int _), (0, .ref _), (1, .int _), (4, .int _)]) C.1 C.2.1 dX10_pattern_86 rfl hl (by decide) rfl (fun ls hl => ?_)
          refine fm_iinc C (v := 1) (lv' := [(4, .int _), (3, .int _), (2, .int _), (5, .int _), (0, .ref _), (1, .int _)]) (k := 5) hl rfl (by decide) (by decide) rfl dX10_pattern_87 (fun ls hl => ?_)
          refine lv_goto (tgt := 34) C.1 C.2.1 dX10_pattern_90 (by decide) ?_
          exact ih34 _ _ _ _ _ _ _ E (lv_sub hl [4, 5, 2, 1, 0] rfl) hf
        · have hf := fm_in' hf hc69
          refine lv_iload C.1 C.2.1 dX10_pattern_72 (lv_at hl 0 rfl) ?_
          refine lv_iload_n C.1 C.2.1 dX10_pattern_74 rfl (lv_at hl 4 rfl) ?_
          refine lv_icmp_lt (tgt := 81) C.1 C.2.1 dX10_pattern_75 (by decide) (fun hc75 => ?_) (fun hc75 => ?_)
          · have hf := fm_ip hf hc75
            refine lv_iload C.1 C.2.1 dX10_pattern_81 (lv_at hl 5 rfl) ?_
            refine lv_istore_n (lv' := [(2, .int _), (5, .int _), (0, .ref _), (1, .int _), (3, .int _), (4, .int _)]) C.1 C.2.1 dX10_pattern_83 rfl hl (by decide) rfl (fun ls hl => ?_)
            refine lv_iload C.1 C.2.1 dX10_pattern_84 (lv_at hl 1 rfl) ?_
            refine lv_istore_n (lv' := [(3, .int _), (2, .int _), (5, .int _), (0, .ref _), (1, .int _), (4, .int _)]) C.1 C.2.1 dX10_pattern_86 rfl hl (by decide) rfl (fun ls hl => ?_)
            refine fm_iinc C (v := 1) (lv' := [(4, .int _), (3, .int _), (2, .int _), (5, .int _), (0, .ref _), (1, .int _)]) (k := 5) hl rfl (by decide) (by decide) rfl dX10_pattern_87 (fun ls hl => ?_)
            refine lv_goto (tgt := 34) C.1 C.2.1 dX10_pattern_90 (by decide) ?_
            exact ih34 _ _ _ _ _ _ _ E (lv_sub hl [4, 5, 2, 1, 0] rfl) hf
          · have hf := fm_in' hf hc75
            refine lv_goto (tgt := 87) C.1 C.2.1 dX10_pattern_78 (by decide) ?_
            refine fm_iinc C (v := 1) (lv' := [(4, .int _), (5, .int _), (0, .ref _), (1, .int _), (2, .int _), (3, .int _)]) (k := 5) hl rfl (by decide) (by decide) rfl dX10_pattern_87 (fun ls hl => ?_)
            refine lv_goto (tgt := 34) C.1 C.2.1 dX10_pattern_90 (by decide) ?_
            exact ih34 _ _ _ _ _ _ _ E (lv_sub hl [2, 3, 4, 5, 0] rfl) hf
  unfold pModel_pattern at hf
  refine lv_aload_n C.1 C.2.1 dX10_pattern_0 rfl (lv_at hl 0 rfl) ?_
  refine lv_iconst (v := 0) C.1 C.2.1 dX10_pattern_1 (by decide) ?_
  obtain ⟨M2, e2, hf⟩ := fm_pt_s hf
  refine fm_put' C E e2 lp_X10_77 hM_0 rfl dX10_pattern_2 (fun H locs E => ?_)
  refine lv_aload_n C.1 C.2.1 dX10_pattern_5 rfl (lv_at hl 0 rfl) ?_
  obtain ⟨x6, hc6, hf⟩ := fm_bd hf
  refine fm_callV C E [] [] lm_X10_204 wk_X10_liveBits (c_Model_liveBits l G N _ _  hc6) hM_0 rfl rfl rfl hl.1 (by simp [Value.category]) ⟨⟨rfl, rfl⟩, by decide, by decide⟩ ⟨by decide, by decide⟩ dX10_pattern_6 rfl (fun H locs E => ?_)
  refine W.eq (g2 := F0 m 9 ls (.int x6 :: [])) rfl ?_
  refine lv_istore_n (lv' := [(1, .int _), (0, .ref _)]) C.1 C.2.1 dX10_pattern_9 rfl hl (by decide) rfl (fun ls hl => ?_)
  refine lv_iload_n C.1 C.2.1 dX10_pattern_10 rfl (lv_at hl 0 rfl) ?_
  refine lv_if_ne (tgt := 17) C.1 C.2.1 dX10_pattern_11 (by decide) (fun hc11 => ?_) (fun hc11 => ?_)
  · have hf := fm_in' hf hc11
    refine lv_aload_n C.1 C.2.1 dX10_pattern_17 rfl (lv_at hl 1 rfl) ?_
    obtain ⟨M18, hc18, hf⟩ := fm_bd hf
    refine fm_callV C E [] [] lm_X10_188 wk_X10_hear (c_Model_hear l G N _ _ hc18) hM_0 rfl rfl rfl hl.1 (by simp [Value.category]) ⟨⟨rfl, rfl⟩, by decide, by decide⟩ ⟨by decide, by decide⟩ dX10_pattern_18 rfl (fun H locs E => ?_)
    refine W.eq (g2 := F0 m 21 ls []) rfl ?_
    refine lv_aload_n C.1 C.2.1 dX10_pattern_21 rfl (lv_at hl 1 rfl) ?_
    refine lv_iconst (v := 0) C.1 C.2.1 dX10_pattern_22 (by decide) ?_
    obtain ⟨M23, e23, hf⟩ := fm_pt_s hf
    refine fm_put' C E e23 lp_X10_80 hM_0 rfl dX10_pattern_23 (fun H locs E => ?_)
    refine lv_iconst (v := 0) C.1 C.2.1 dX10_pattern_26 (by decide) ?_
    refine lv_istore_n (lv' := [(2, .int _), (1, .int _), (0, .ref _)]) C.1 C.2.1 dX10_pattern_27 rfl hl (by decide) rfl (fun ls hl => ?_)
    refine lv_iconst (v := 0) C.1 C.2.1 dX10_pattern_28 (by decide) ?_
    refine lv_istore_n (lv' := [(3, .int _), (2, .int _), (1, .int _), (0, .ref _)]) C.1 C.2.1 dX10_pattern_29 rfl hl (by decide) rfl (fun ls hl => ?_)
    refine lv_bipush (v := (-8)) C.1 C.2.1 dX10_pattern_30 (by decide) ?_
    refine lv_istore (lv' := [(4, .int _), (3, .int _), (2, .int _), (1, .int _), (0, .ref _)]) C.1 C.2.1 dX10_pattern_32 hl (by decide) rfl (fun ls hl => ?_)
    exact L34 _ N _ _ _ _ _ _ _ E (lv_sub hl [4, 3, 2, 1, 0] rfl) hf
  · have hf := fm_ip hf hc11
    refine lv_bipush (v := (-2)) C.1 C.2.1 dX10_pattern_14 (by decide) ?_
    obtain ⟨rfl, rfl⟩ := fm_rt2 hf
    exact fm_iret C E rfl rfl dX10_pattern_16
theorem dX10_signOf_0 : decode cX10_signOf 0 = .ok (.iload_n 0, 1) := by decide +kernel
theorem dX10_signOf_1 : decode cX10_signOf 1 = .ok (.ifCond .le 7, 3) := by decide +kernel
theorem dX10_signOf_4 : decode cX10_signOf 4 = .ok (.iconst 1, 1) := by decide +kernel
theorem dX10_signOf_5 : decode cX10_signOf 5 = .ok (.goto 12, 3) := by decide +kernel
theorem dX10_signOf_8 : decode cX10_signOf 8 = .ok (.iload_n 0, 1) := by decide +kernel
theorem dX10_signOf_9 : decode cX10_signOf 9 = .ok (.ifCond .ge 7, 3) := by decide +kernel
theorem dX10_signOf_12 : decode cX10_signOf 12 = .ok (.iconst (-1), 1) := by decide +kernel
theorem dX10_signOf_13 : decode cX10_signOf 13 = .ok (.goto 4, 3) := by decide +kernel
theorem dX10_signOf_16 : decode cX10_signOf 16 = .ok (.iconst 0, 1) := by decide +kernel
theorem dX10_signOf_17 : decode cX10_signOf 17 = .ok (.ireturn, 1) := by decide +kernel
set_option maxHeartbeats 4000000 in
set_option maxRecDepth 100000 in
theorem c_Model_signOf (l : Launch) (G : fm_G) (M : fm_M) (v0 : Int32) (r : Int32) (hf : pModel_signOf M v0 = some r) : fm_Met l yX10_signOf cX10_signOf 1 (some .int) { frames := 0, cells := 0, slots := 0, locals := 0 } shM G [.int v0] M (some (.int r)) M := by
  refine fm_enter (by decide) (Nat.le_of_ble_eq_true rfl) ?_
  intro p e s m args below meth c ls C E hl
  have hl : lv_has ls 1 [(0, .int v0)] := hl
  unfold pModel_signOf at hf
  refine lv_iload_n C.1 C.2.1 dX10_signOf_0 rfl (lv_at hl 0 rfl) ?_
  refine lv_if_le (tgt := 8) C.1 C.2.1 dX10_signOf_1 (by decide) (fun hc1 => ?_) (fun hc1 => ?_)
  · have hf := fm_ip hf hc1
    refine lv_iload_n C.1 C.2.1 dX10_signOf_8 rfl (lv_at hl 0 rfl) ?_
    refine lv_if_ge (tgt := 16) C.1 C.2.1 dX10_signOf_9 (by decide) (fun hc9 => ?_) (fun hc9 => ?_)
    · have hf := fm_ip hf hc9
      refine lv_iconst (v := 0) C.1 C.2.1 dX10_signOf_16 (by decide) ?_
      obtain rfl := fm_rt1 hf
      exact fm_iret C E rfl rfl dX10_signOf_17
    · have hf := fm_in' hf hc9
      refine lv_iconst (v := (-1)) C.1 C.2.1 dX10_signOf_12 (by decide) ?_
      refine lv_goto (tgt := 17) C.1 C.2.1 dX10_signOf_13 (by decide) ?_
      obtain rfl := fm_rt1 hf
      exact fm_iret C E rfl rfl dX10_signOf_17
  · have hf := fm_in' hf hc1
    refine lv_iconst (v := 1) C.1 C.2.1 dX10_signOf_4 (by decide) ?_
    refine lv_goto (tgt := 17) C.1 C.2.1 dX10_signOf_5 (by decide) ?_
    obtain rfl := fm_rt1 hf
    exact fm_iret C E rfl rfl dX10_signOf_17
theorem dX10_agreeOf_0 : decode cX10_agreeOf 0 = .ok (.iconst 0, 1) := by decide +kernel
theorem dX10_agreeOf_1 : decode cX10_agreeOf 1 = .ok (.istore 4, 2) := by decide +kernel
theorem dX10_agreeOf_3 : decode cX10_agreeOf 3 = .ok (.aload_n 0, 1) := by decide +kernel
theorem dX10_agreeOf_4 : decode cX10_agreeOf 4 = .ok (.getfield 9, 3) := by decide +kernel
theorem dX10_agreeOf_7 : decode cX10_agreeOf 7 = .ok (.bipush 38, 2) := by decide +kernel
theorem dX10_agreeOf_9 : decode cX10_agreeOf 9 = .ok (.iaload, 1) := by decide +kernel
theorem dX10_agreeOf_10 : decode cX10_agreeOf 10 = .ok (.istore 5, 2) := by decide +kernel
theorem dX10_agreeOf_12 : decode cX10_agreeOf 12 = .ok (.iload 5, 2) := by decide +kernel
theorem dX10_agreeOf_14 : decode cX10_agreeOf 14 = .ok (.aload_n 0, 1) := by decide +kernel
theorem dX10_agreeOf_15 : decode cX10_agreeOf 15 = .ok (.getfield 9, 3) := by decide +kernel
theorem dX10_agreeOf_18 : decode cX10_agreeOf 18 = .ok (.bipush 38, 2) := by decide +kernel
theorem dX10_agreeOf_20 : decode cX10_agreeOf 20 = .ok (.iaload, 1) := by decide +kernel
theorem dX10_agreeOf_21 : decode cX10_agreeOf 21 = .ok (.aload_n 0, 1) := by decide +kernel
theorem dX10_agreeOf_22 : decode cX10_agreeOf 22 = .ok (.getfield 9, 3) := by decide +kernel
theorem dX10_agreeOf_25 : decode cX10_agreeOf 25 = .ok (.bipush 39, 2) := by decide +kernel
theorem dX10_agreeOf_27 : decode cX10_agreeOf 27 = .ok (.iaload, 1) := by decide +kernel
theorem dX10_agreeOf_28 : decode cX10_agreeOf 28 = .ok (.iadd, 1) := by decide +kernel
theorem dX10_agreeOf_29 : decode cX10_agreeOf 29 = .ok (.if_icmp .ge 44, 3) := by decide +kernel
theorem dX10_agreeOf_32 : decode cX10_agreeOf 32 = .ok (.iload 4, 2) := by decide +kernel
theorem dX10_agreeOf_34 : decode cX10_agreeOf 34 = .ok (.aload_n 0, 1) := by decide +kernel
theorem dX10_agreeOf_35 : decode cX10_agreeOf 35 = .ok (.iload_n 1, 1) := by decide +kernel
theorem dX10_agreeOf_36 : decode cX10_agreeOf 36 = .ok (.iload_n 3, 1) := by decide +kernel
theorem dX10_agreeOf_37 : decode cX10_agreeOf 37 = .ok (.iload 5, 2) := by decide +kernel
theorem dX10_agreeOf_39 : decode cX10_agreeOf 39 = .ok (.invokevirtual 191, 3) := by decide +kernel
theorem dX10_agreeOf_42 : decode cX10_agreeOf 42 = .ok (.invokestatic 260, 3) := by decide +kernel
theorem dX10_agreeOf_45 : decode cX10_agreeOf 45 = .ok (.aload_n 0, 1) := by decide +kernel
theorem dX10_agreeOf_46 : decode cX10_agreeOf 46 = .ok (.iload_n 2, 1) := by decide +kernel
theorem dX10_agreeOf_47 : decode cX10_agreeOf 47 = .ok (.iload_n 3, 1) := by decide +kernel
theorem dX10_agreeOf_48 : decode cX10_agreeOf 48 = .ok (.iload 5, 2) := by decide +kernel
theorem dX10_agreeOf_50 : decode cX10_agreeOf 50 = .ok (.invokevirtual 191, 3) := by decide +kernel
theorem dX10_agreeOf_53 : decode cX10_agreeOf 53 = .ok (.invokestatic 260, 3) := by decide +kernel
theorem dX10_agreeOf_56 : decode cX10_agreeOf 56 = .ok (.if_icmp .ne 7, 3) := by decide +kernel
theorem dX10_agreeOf_59 : decode cX10_agreeOf 59 = .ok (.iconst 1, 1) := by decide +kernel
theorem dX10_agreeOf_60 : decode cX10_agreeOf 60 = .ok (.goto 4, 3) := by decide +kernel
theorem dX10_agreeOf_63 : decode cX10_agreeOf 63 = .ok (.iconst 0, 1) := by decide +kernel
theorem dX10_agreeOf_64 : decode cX10_agreeOf 64 = .ok (.iadd, 1) := by decide +kernel
theorem dX10_agreeOf_65 : decode cX10_agreeOf 65 = .ok (.istore 4, 2) := by decide +kernel
theorem dX10_agreeOf_67 : decode cX10_agreeOf 67 = .ok (.iinc 5 1, 3) := by decide +kernel
theorem dX10_agreeOf_70 : decode cX10_agreeOf 70 = .ok (.goto (-58), 3) := by decide +kernel
theorem dX10_agreeOf_73 : decode cX10_agreeOf 73 = .ok (.iload 4, 2) := by decide +kernel
theorem dX10_agreeOf_75 : decode cX10_agreeOf 75 = .ok (.ireturn, 1) := by decide +kernel
set_option maxHeartbeats 4000000 in
set_option maxRecDepth 100000 in
theorem c_Model_agreeOf (l : Launch) (G : fm_G) (N : Nat) (M : fm_M) (v1 : Int32) (v2 : Int32) (v3 : Int32) (r : Int32) (hf : pModel_agreeOf N M v1 v2 v3 = some r) : fm_Met l yX10_agreeOf cX10_agreeOf 6 (some .int) { frames := 3, cells := 0, slots := 0, locals := 69 } shM G [.ref (G.2.1 0), .int v1, .int v2, .int v3] M (some (.int r)) M := by
  refine fm_enter (by decide) (Nat.le_of_ble_eq_true rfl) ?_
  intro p e s m args below meth c ls C E hl
  have hl : lv_has ls 6 [(0, .ref (G.2.1 0)), (1, .int v1), (2, .int v2), (3, .int v3)] := hl
  have L12 : ∀ (w12_v1 : Int32) (w12_v2 : Int32) (w12_v3 : Int32) (n12 : Nat) (v4 : Int32) (v5 : Int32) (H : Heap) (locs : List Loc) (ls : Array Slot), fm_Wd shM G M s H locs → lv_has ls 6 [(0, .ref (G.2.1 0)), (1, .int w12_v1), (2, .int w12_v2), (3, .int w12_v3), (4, .int v4), (5, .int v5)] → fm_lp (pModel_agreeOf_L12 N M w12_v1 w12_v2 w12_v3) n12 (v4, v5) = some r → W p l e { frames := 3, cells := 0, slots := 0, locals := 69 } s m args below meth c H locs 0 0 (fm_Z below shM G args s (some (.int r)) M) (F0 m 12 ls []) := by
    intro w12_v1 w12_v2 w12_v3 n12
    induction n12 with
    | zero => intro v4 v5 H locs ls E hl hf; exact fm_lp_0 hf
    | succ n12 ih12 =>
      intro v4 v5 H locs ls E hl hf
      have hf : pModel_agreeOf_L12b N M w12_v1 w12_v2 w12_v3 (fm_lp (pModel_agreeOf_L12 N M w12_v1 w12_v2 w12_v3) n12) v4 v5 = some r := hf
      unfold pModel_agreeOf_L12b at hf
      refine lv_iload C.1 C.2.1 dX10_agreeOf_12 (lv_at hl 5 rfl) ?_
      refine lv_aload_n C.1 C.2.1 dX10_agreeOf_14 rfl (lv_at hl 0 rfl) ?_
      refine fm_getr C E lf_X10_9 hM_0 rfl dX10_agreeOf_15 ?_
      refine lv_bipush (v := 38) C.1 C.2.1 dX10_agreeOf_18 (by decide) ?_
      refine fm_ialdc C E 38 (by decide) hM_1 (by decide) dX10_agreeOf_20 ?_
      refine lv_aload_n C.1 C.2.1 dX10_agreeOf_21 rfl (lv_at hl 0 rfl) ?_
      refine fm_getr C E lf_X10_9 hM_0 rfl dX10_agreeOf_22 ?_
      refine lv_bipush (v := 39) C.1 C.2.1 dX10_agreeOf_25 (by decide) ?_
      refine fm_ialdc C E 39 (by decide) hM_1 (by decide) dX10_agreeOf_27 ?_
      refine lv_iadd C.1 C.2.1 dX10_agreeOf_28 ?_
      refine lv_icmp_ge (tgt := 73) C.1 C.2.1 dX10_agreeOf_29 (by decide) (fun hc29 => ?_) (fun hc29 => ?_)
      · have hf := fm_ip hf hc29
        refine lv_iload C.1 C.2.1 dX10_agreeOf_73 (lv_at hl 4 rfl) ?_
        obtain rfl := fm_rt1 hf
        exact fm_iret C E rfl rfl dX10_agreeOf_75
      · have hf := fm_in' hf hc29
        refine lv_iload C.1 C.2.1 dX10_agreeOf_32 (lv_at hl 4 rfl) ?_
        refine lv_aload_n C.1 C.2.1 dX10_agreeOf_34 rfl (lv_at hl 0 rfl) ?_
        refine lv_iload_n C.1 C.2.1 dX10_agreeOf_35 rfl (lv_at hl 1 rfl) ?_
        refine lv_iload_n C.1 C.2.1 dX10_agreeOf_36 rfl (lv_at hl 3 rfl) ?_
        refine lv_iload C.1 C.2.1 dX10_agreeOf_37 (lv_at hl 5 rfl) ?_
        obtain ⟨x39, hc39, hf⟩ := fm_bd hf
        refine fm_callV C E [.int _, .int _, .int _] [.int _] lm_X10_191 wk_X10_turnedOf (c_Model_turnedOf l G _ _ _ _ _  hc39) hM_0 rfl rfl rfl hl.1 (by simp [Value.category]) ⟨⟨rfl, rfl⟩, by decide, by decide⟩ ⟨by decide, by decide⟩ dX10_agreeOf_39 rfl (fun H locs E => ?_)
        refine W.eq (g2 := F0 m 42 ls (.int x39 :: [.int _])) rfl ?_
        obtain ⟨x42, hc42, hf⟩ := fm_bd hf
        refine fm_callS C E [.int _] [.int _] lm_X10_260 wk_X10_signOf (c_Model_signOf l G _ _ _  hc42) rfl hl.1 (by simp [Value.category]) ⟨⟨rfl, rfl⟩, by decide, by decide⟩ ⟨by decide, by decide⟩ dX10_agreeOf_42 rfl (fun H locs E => ?_)
        refine W.eq (g2 := F0 m 45 ls (.int x42 :: [.int _])) rfl ?_
        refine lv_aload_n C.1 C.2.1 dX10_agreeOf_45 rfl (lv_at hl 0 rfl) ?_
        refine lv_iload_n C.1 C.2.1 dX10_agreeOf_46 rfl (lv_at hl 2 rfl) ?_
        refine lv_iload_n C.1 C.2.1 dX10_agreeOf_47 rfl (lv_at hl 3 rfl) ?_
        refine lv_iload C.1 C.2.1 dX10_agreeOf_48 (lv_at hl 5 rfl) ?_
        obtain ⟨x50, hc50, hf⟩ := fm_bd hf
        refine fm_callV C E [.int _, .int _, .int _] [.int _, .int _] lm_X10_191 wk_X10_turnedOf (c_Model_turnedOf l G _ _ _ _ _  hc50) hM_0 rfl rfl rfl hl.1 (by simp [Value.category]) ⟨⟨rfl, rfl⟩, by decide, by decide⟩ ⟨by decide, by decide⟩ dX10_agreeOf_50 rfl (fun H locs E => ?_)
        refine W.eq (g2 := F0 m 53 ls (.int x50 :: [.int _, .int _])) rfl ?_
        obtain ⟨x53, hc53, hf⟩ := fm_bd hf
        refine fm_callS C E [.int _] [.int _, .int _] lm_X10_260 wk_X10_signOf (c_Model_signOf l G _ _ _  hc53) rfl hl.1 (by simp [Value.category]) ⟨⟨rfl, rfl⟩, by decide, by decide⟩ ⟨by decide, by decide⟩ dX10_agreeOf_53 rfl (fun H locs E => ?_)
        refine W.eq (g2 := F0 m 56 ls (.int x53 :: [.int _, .int _])) rfl ?_
        refine lv_icmp_ne (tgt := 63) C.1 C.2.1 dX10_agreeOf_56 (by decide) (fun hc56 => ?_) (fun hc56 => ?_)
        · have hf := fm_in' hf hc56
          refine lv_iconst (v := 0) C.1 C.2.1 dX10_agreeOf_63 (by decide) ?_
          refine lv_iadd C.1 C.2.1 dX10_agreeOf_64 ?_
          refine lv_istore (lv' := [(4, .int _), (0, .ref _), (1, .int _), (2, .int _), (3, .int _), (5, .int _)]) C.1 C.2.1 dX10_agreeOf_65 hl (by decide) rfl (fun ls hl => ?_)
          refine fm_iinc C (v := 1) (lv' := [(5, .int _), (4, .int _), (0, .ref _), (1, .int _), (2, .int _), (3, .int _)]) (k := 5) hl rfl (by decide) (by decide) rfl dX10_agreeOf_67 (fun ls hl => ?_)
          refine lv_goto (tgt := 12) C.1 C.2.1 dX10_agreeOf_70 (by decide) ?_
          exact ih12 _ _ _ _ _ E (lv_sub hl [2, 3, 4, 5, 1, 0] rfl) hf
        · have hf := fm_ip hf hc56
          refine lv_iconst (v := 1) C.1 C.2.1 dX10_agreeOf_59 (by decide) ?_
          refine lv_goto (tgt := 64) C.1 C.2.1 dX10_agreeOf_60 (by decide) ?_
          refine lv_iadd C.1 C.2.1 dX10_agreeOf_64 ?_
          refine lv_istore (lv' := [(4, .int _), (0, .ref _), (1, .int _), (2, .int _), (3, .int _), (5, .int _)]) C.1 C.2.1 dX10_agreeOf_65 hl (by decide) rfl (fun ls hl => ?_)
          refine fm_iinc C (v := 1) (lv' := [(5, .int _), (4, .int _), (0, .ref _), (1, .int _), (2, .int _), (3, .int _)]) (k := 5) hl rfl (by decide) (by decide) rfl dX10_agreeOf_67 (fun ls hl => ?_)
          refine lv_goto (tgt := 12) C.1 C.2.1 dX10_agreeOf_70 (by decide) ?_
          exact ih12 _ _ _ _ _ E (lv_sub hl [2, 3, 4, 5, 1, 0] rfl) hf
  unfold pModel_agreeOf at hf
  refine lv_iconst (v := 0) C.1 C.2.1 dX10_agreeOf_0 (by decide) ?_
  refine lv_istore (lv' := [(4, .int _), (0, .ref _), (1, .int _), (2, .int _), (3, .int _)]) C.1 C.2.1 dX10_agreeOf_1 hl (by decide) rfl (fun ls hl => ?_)
  refine lv_aload_n C.1 C.2.1 dX10_agreeOf_3 rfl (lv_at hl 1 rfl) ?_
  refine fm_getr C E lf_X10_9 hM_0 rfl dX10_agreeOf_4 ?_
  refine lv_bipush (v := 38) C.1 C.2.1 dX10_agreeOf_7 (by decide) ?_
  refine fm_ialdc C E 38 (by decide) hM_1 (by decide) dX10_agreeOf_9 ?_
  refine lv_istore (lv' := [(5, .int _), (4, .int _), (0, .ref _), (1, .int _), (2, .int _), (3, .int _)]) C.1 C.2.1 dX10_agreeOf_10 hl (by decide) rfl (fun ls hl => ?_)
  exact L12 _ _ _ N _ _ _ _ _ E (lv_sub hl [2, 3, 4, 5, 1, 0] rfl) hf
theorem dX10_agree_0 : decode cX10_agree 0 = .ok (.aload_n 0, 1) := by decide +kernel
theorem dX10_agree_1 : decode cX10_agree 1 = .ok (.iconst 0, 1) := by decide +kernel
theorem dX10_agree_2 : decode cX10_agree 2 = .ok (.putfield 77, 3) := by decide +kernel
theorem dX10_agree_5 : decode cX10_agree 5 = .ok (.aload_n 0, 1) := by decide +kernel
theorem dX10_agree_6 : decode cX10_agree 6 = .ok (.iload_n 1, 1) := by decide +kernel
theorem dX10_agree_7 : decode cX10_agree 7 = .ok (.invokevirtual 153, 3) := by decide +kernel
theorem dX10_agree_10 : decode cX10_agree 10 = .ok (.ifCond .eq 23, 3) := by decide +kernel
theorem dX10_agree_13 : decode cX10_agree 13 = .ok (.aload_n 0, 1) := by decide +kernel
theorem dX10_agree_14 : decode cX10_agree 14 = .ok (.iload_n 2, 1) := by decide +kernel
theorem dX10_agree_15 : decode cX10_agree 15 = .ok (.invokevirtual 153, 3) := by decide +kernel
theorem dX10_agree_18 : decode cX10_agree 18 = .ok (.ifCond .eq 15, 3) := by decide +kernel
theorem dX10_agree_21 : decode cX10_agree 21 = .ok (.iload_n 1, 1) := by decide +kernel
theorem dX10_agree_22 : decode cX10_agree 22 = .ok (.iload_n 2, 1) := by decide +kernel
theorem dX10_agree_23 : decode cX10_agree 23 = .ok (.if_icmp .eq 10, 3) := by decide +kernel
theorem dX10_agree_26 : decode cX10_agree 26 = .ok (.iload_n 3, 1) := by decide +kernel
theorem dX10_agree_27 : decode cX10_agree 27 = .ok (.invokestatic 182, 3) := by decide +kernel
theorem dX10_agree_30 : decode cX10_agree 30 = .ok (.ifCond .ne 5, 3) := by decide +kernel
theorem dX10_agree_33 : decode cX10_agree 33 = .ok (.iconst (-1), 1) := by decide +kernel
theorem dX10_agree_34 : decode cX10_agree 34 = .ok (.ireturn, 1) := by decide +kernel
theorem dX10_agree_35 : decode cX10_agree 35 = .ok (.aload_n 0, 1) := by decide +kernel
theorem dX10_agree_36 : decode cX10_agree 36 = .ok (.invokevirtual 188, 3) := by decide +kernel
theorem dX10_agree_39 : decode cX10_agree 39 = .ok (.aload_n 0, 1) := by decide +kernel
theorem dX10_agree_40 : decode cX10_agree 40 = .ok (.iconst 0, 1) := by decide +kernel
theorem dX10_agree_41 : decode cX10_agree 41 = .ok (.putfield 80, 3) := by decide +kernel
theorem dX10_agree_44 : decode cX10_agree 44 = .ok (.aload_n 0, 1) := by decide +kernel
theorem dX10_agree_45 : decode cX10_agree 45 = .ok (.aload_n 0, 1) := by decide +kernel
theorem dX10_agree_46 : decode cX10_agree 46 = .ok (.getfield 9, 3) := by decide +kernel
theorem dX10_agree_49 : decode cX10_agree 49 = .ok (.bipush 39, 2) := by decide +kernel
theorem dX10_agree_51 : decode cX10_agree 51 = .ok (.iaload, 1) := by decide +kernel
theorem dX10_agree_52 : decode cX10_agree 52 = .ok (.i2l, 1) := by decide +kernel
theorem dX10_agree_53 : decode cX10_agree 53 = .ok (.invokevirtual 245, 3) := by decide +kernel
theorem dX10_agree_56 : decode cX10_agree 56 = .ok (.aload_n 0, 1) := by decide +kernel
theorem dX10_agree_57 : decode cX10_agree 57 = .ok (.iload_n 1, 1) := by decide +kernel
theorem dX10_agree_58 : decode cX10_agree 58 = .ok (.iload_n 2, 1) := by decide +kernel
theorem dX10_agree_59 : decode cX10_agree 59 = .ok (.iload_n 3, 1) := by decide +kernel
theorem dX10_agree_60 : decode cX10_agree 60 = .ok (.invokevirtual 263, 3) := by decide +kernel
theorem dX10_agree_63 : decode cX10_agree 63 = .ok (.ireturn, 1) := by decide +kernel
set_option maxHeartbeats 4000000 in
set_option maxRecDepth 100000 in
theorem c_Model_agree (l : Launch) (G : fm_G) (N : Nat) (M : fm_M) (v1 : Int32) (v2 : Int32) (v3 : Int32) (r : Int32) (M' : fm_M) (hf : pModel_agree N M v1 v2 v3 = some (r, M')) : fm_Met l yX10_agree cX10_agree 4 (some .int) { frames := 5, cells := 0, slots := 0, locals := 115 } shM G [.ref (G.2.1 0), .int v1, .int v2, .int v3] M (some (.int r)) M' := by
  refine fm_enter (by decide) (Nat.le_of_ble_eq_true rfl) ?_
  intro p e s m args below meth c ls C E hl
  have hl : lv_has ls 4 [(0, .ref (G.2.1 0)), (1, .int v1), (2, .int v2), (3, .int v3)] := hl
  unfold pModel_agree at hf
  refine lv_aload_n C.1 C.2.1 dX10_agree_0 rfl (lv_at hl 0 rfl) ?_
  refine lv_iconst (v := 0) C.1 C.2.1 dX10_agree_1 (by decide) ?_
  obtain ⟨M2, e2, hf⟩ := fm_pt_s hf
  refine fm_put' C E e2 lp_X10_77 hM_0 rfl dX10_agree_2 (fun H locs E => ?_)
  refine lv_aload_n C.1 C.2.1 dX10_agree_5 rfl (lv_at hl 0 rfl) ?_
  refine lv_iload_n C.1 C.2.1 dX10_agree_6 rfl (lv_at hl 1 rfl) ?_
  obtain ⟨x7, hc7, hf⟩ := fm_bd hf
  refine fm_callV C E [.int _] [] lm_X10_153 wk_X10_isMic (c_Model_isMic l G _ _ _  hc7) hM_0 rfl rfl rfl hl.1 (by simp [Value.category]) ⟨⟨rfl, rfl⟩, by decide, by decide⟩ ⟨by decide, by decide⟩ dX10_agree_7 rfl (fun H locs E => ?_)
  refine W.eq (g2 := F0 m 10 ls (.int x7 :: [])) rfl ?_
  refine lv_if_eq (tgt := 33) C.1 C.2.1 dX10_agree_10 (by decide) (fun hc10 => ?_) (fun hc10 => ?_)
  · have hf := fm_ip hf hc10
    refine lv_iconst (v := (-1)) C.1 C.2.1 dX10_agree_33 (by decide) ?_
    obtain ⟨rfl, rfl⟩ := fm_rt2 hf
    exact fm_iret C E rfl rfl dX10_agree_34
  · have hf := fm_in' hf hc10
    refine lv_aload_n C.1 C.2.1 dX10_agree_13 rfl (lv_at hl 0 rfl) ?_
    refine lv_iload_n C.1 C.2.1 dX10_agree_14 rfl (lv_at hl 2 rfl) ?_
    obtain ⟨x15, hc15, hf⟩ := fm_bd hf
    refine fm_callV C E [.int _] [] lm_X10_153 wk_X10_isMic (c_Model_isMic l G _ _ _  hc15) hM_0 rfl rfl rfl hl.1 (by simp [Value.category]) ⟨⟨rfl, rfl⟩, by decide, by decide⟩ ⟨by decide, by decide⟩ dX10_agree_15 rfl (fun H locs E => ?_)
    refine W.eq (g2 := F0 m 18 ls (.int x15 :: [])) rfl ?_
    refine lv_if_eq (tgt := 33) C.1 C.2.1 dX10_agree_18 (by decide) (fun hc18 => ?_) (fun hc18 => ?_)
    · have hf := fm_ip hf hc18
      refine lv_iconst (v := (-1)) C.1 C.2.1 dX10_agree_33 (by decide) ?_
      obtain ⟨rfl, rfl⟩ := fm_rt2 hf
      exact fm_iret C E rfl rfl dX10_agree_34
    · have hf := fm_in' hf hc18
      refine lv_iload_n C.1 C.2.1 dX10_agree_21 rfl (lv_at hl 1 rfl) ?_
      refine lv_iload_n C.1 C.2.1 dX10_agree_22 rfl (lv_at hl 2 rfl) ?_
      refine lv_icmp_eq (tgt := 33) C.1 C.2.1 dX10_agree_23 (by decide) (fun hc23 => ?_) (fun hc23 => ?_)
      · have hf := fm_ip hf hc23
        refine lv_iconst (v := (-1)) C.1 C.2.1 dX10_agree_33 (by decide) ?_
        obtain ⟨rfl, rfl⟩ := fm_rt2 hf
        exact fm_iret C E rfl rfl dX10_agree_34
      · have hf := fm_in' hf hc23
        refine lv_iload_n C.1 C.2.1 dX10_agree_26 rfl (lv_at hl 3 rfl) ?_
        obtain ⟨x27, hc27, hf⟩ := fm_bd hf
        refine fm_callS C E [.int _] [] lm_X10_182 wk_X10_isSide (c_Model_isSide l G _ _ _  hc27) rfl hl.1 (by simp [Value.category]) ⟨⟨rfl, rfl⟩, by decide, by decide⟩ ⟨by decide, by decide⟩ dX10_agree_27 rfl (fun H locs E => ?_)
        refine W.eq (g2 := F0 m 30 ls (.int x27 :: [])) rfl ?_
        refine lv_if_ne (tgt := 35) C.1 C.2.1 dX10_agree_30 (by decide) (fun hc30 => ?_) (fun hc30 => ?_)
        · have hf := fm_in' hf hc30
          refine lv_aload_n C.1 C.2.1 dX10_agree_35 rfl (lv_at hl 0 rfl) ?_
          obtain ⟨M36, hc36, hf⟩ := fm_bd hf
          refine fm_callV C E [] [] lm_X10_188 wk_X10_hear (c_Model_hear l G N _ _ hc36) hM_0 rfl rfl rfl hl.1 (by simp [Value.category]) ⟨⟨rfl, rfl⟩, by decide, by decide⟩ ⟨by decide, by decide⟩ dX10_agree_36 rfl (fun H locs E => ?_)
          refine W.eq (g2 := F0 m 39 ls []) rfl ?_
          refine lv_aload_n C.1 C.2.1 dX10_agree_39 rfl (lv_at hl 0 rfl) ?_
          refine lv_iconst (v := 0) C.1 C.2.1 dX10_agree_40 (by decide) ?_
          obtain ⟨M41, e41, hf⟩ := fm_pt_s hf
          refine fm_put' C E e41 lp_X10_80 hM_0 rfl dX10_agree_41 (fun H locs E => ?_)
          refine lv_aload_n C.1 C.2.1 dX10_agree_44 rfl (lv_at hl 0 rfl) ?_
          refine lv_aload_n C.1 C.2.1 dX10_agree_45 rfl (lv_at hl 0 rfl) ?_
          refine fm_getr C E lf_X10_9 hM_0 rfl dX10_agree_46 ?_
          refine lv_bipush (v := 39) C.1 C.2.1 dX10_agree_49 (by decide) ?_
          refine fm_ialdc C E 39 (by decide) hM_1 (by decide) dX10_agree_51 ?_
          refine lv_i2l C.1 C.2.1 dX10_agree_52 rfl ?_
          obtain ⟨M53, hc53, hf⟩ := fm_bd hf
          refine fm_callV C E [.long _] [] lm_X10_245 wk_X10_tell (c_Model_tell l G _ _ _ hc53) hM_0 rfl rfl rfl hl.1 (by simp [Value.category]) ⟨⟨rfl, rfl⟩, by decide, by decide⟩ ⟨by decide, by decide⟩ dX10_agree_53 rfl (fun H locs E => ?_)
          refine W.eq (g2 := F0 m 56 ls []) rfl ?_
          refine lv_aload_n C.1 C.2.1 dX10_agree_56 rfl (lv_at hl 0 rfl) ?_
          refine lv_iload_n C.1 C.2.1 dX10_agree_57 rfl (lv_at hl 1 rfl) ?_
          refine lv_iload_n C.1 C.2.1 dX10_agree_58 rfl (lv_at hl 2 rfl) ?_
          refine lv_iload_n C.1 C.2.1 dX10_agree_59 rfl (lv_at hl 3 rfl) ?_
          obtain ⟨x60, hc60, hf⟩ := fm_bd hf
          refine fm_callV C E [.int _, .int _, .int _] [] lm_X10_263 wk_X10_agreeOf (c_Model_agreeOf l G N _ _ _ _ _  hc60) hM_0 rfl rfl rfl hl.1 (by simp [Value.category]) ⟨⟨rfl, rfl⟩, by decide, by decide⟩ ⟨by decide, by decide⟩ dX10_agree_60 rfl (fun H locs E => ?_)
          refine W.eq (g2 := F0 m 63 ls (.int x60 :: [])) rfl ?_
          obtain ⟨rfl, rfl⟩ := fm_rt2 hf
          exact fm_iret C E rfl rfl dX10_agree_63
        · have hf := fm_ip hf hc30
          refine lv_iconst (v := (-1)) C.1 C.2.1 dX10_agree_33 (by decide) ?_
          obtain ⟨rfl, rfl⟩ := fm_rt2 hf
          exact fm_iret C E rfl rfl dX10_agree_34
theorem dX10_fromOf_0 : decode cX10_fromOf 0 = .ok (.iconst 0, 1) := by decide +kernel
theorem dX10_fromOf_1 : decode cX10_fromOf 1 = .ok (.istore_n 2, 1) := by decide +kernel
theorem dX10_fromOf_2 : decode cX10_fromOf 2 = .ok (.aload_n 0, 1) := by decide +kernel
theorem dX10_fromOf_3 : decode cX10_fromOf 3 = .ok (.iconst (-1), 1) := by decide +kernel
theorem dX10_fromOf_4 : decode cX10_fromOf 4 = .ok (.putfield 266, 3) := by decide +kernel
theorem dX10_fromOf_7 : decode cX10_fromOf 7 = .ok (.iconst 0, 1) := by decide +kernel
theorem dX10_fromOf_8 : decode cX10_fromOf 8 = .ok (.istore_n 3, 1) := by decide +kernel
theorem dX10_fromOf_9 : decode cX10_fromOf 9 = .ok (.iload_n 3, 1) := by decide +kernel
theorem dX10_fromOf_10 : decode cX10_fromOf 10 = .ok (.bipush 16, 2) := by decide +kernel
theorem dX10_fromOf_12 : decode cX10_fromOf 12 = .ok (.if_icmp .gt 117, 3) := by decide +kernel
theorem dX10_fromOf_15 : decode cX10_fromOf 15 = .ok (.iconst 0, 1) := by decide +kernel
theorem dX10_fromOf_16 : decode cX10_fromOf 16 = .ok (.istore 4, 2) := by decide +kernel
theorem dX10_fromOf_18 : decode cX10_fromOf 18 = .ok (.iconst 0, 1) := by decide +kernel
theorem dX10_fromOf_19 : decode cX10_fromOf 19 = .ok (.istore 5, 2) := by decide +kernel
theorem dX10_fromOf_21 : decode cX10_fromOf 21 = .ok (.iload 5, 2) := by decide +kernel
theorem dX10_fromOf_23 : decode cX10_fromOf 23 = .ok (.aload_n 0, 1) := by decide +kernel
theorem dX10_fromOf_24 : decode cX10_fromOf 24 = .ok (.getfield 9, 3) := by decide +kernel
theorem dX10_fromOf_27 : decode cX10_fromOf 27 = .ok (.iconst 0, 1) := by decide +kernel
theorem dX10_fromOf_28 : decode cX10_fromOf 28 = .ok (.iaload, 1) := by decide +kernel
theorem dX10_fromOf_29 : decode cX10_fromOf 29 = .ok (.if_icmp .ge 71, 3) := by decide +kernel
theorem dX10_fromOf_32 : decode cX10_fromOf 32 = .ok (.iload 5, 2) := by decide +kernel
theorem dX10_fromOf_34 : decode cX10_fromOf 34 = .ok (.iconst 1, 1) := by decide +kernel
theorem dX10_fromOf_35 : decode cX10_fromOf 35 = .ok (.iadd, 1) := by decide +kernel
theorem dX10_fromOf_36 : decode cX10_fromOf 36 = .ok (.istore 6, 2) := by decide +kernel
theorem dX10_fromOf_38 : decode cX10_fromOf 38 = .ok (.iload 6, 2) := by decide +kernel
theorem dX10_fromOf_40 : decode cX10_fromOf 40 = .ok (.aload_n 0, 1) := by decide +kernel
theorem dX10_fromOf_41 : decode cX10_fromOf 41 = .ok (.getfield 9, 3) := by decide +kernel
theorem dX10_fromOf_44 : decode cX10_fromOf 44 = .ok (.iconst 0, 1) := by decide +kernel
theorem dX10_fromOf_45 : decode cX10_fromOf 45 = .ok (.iaload, 1) := by decide +kernel
theorem dX10_fromOf_46 : decode cX10_fromOf 46 = .ok (.if_icmp .ge 48, 3) := by decide +kernel
theorem dX10_fromOf_49 : decode cX10_fromOf 49 = .ok (.iload 4, 2) := by decide +kernel
theorem dX10_fromOf_51 : decode cX10_fromOf 51 = .ok (.iload_n 1, 1) := by decide +kernel
theorem dX10_fromOf_52 : decode cX10_fromOf 52 = .ok (.iload 5, 2) := by decide +kernel
theorem dX10_fromOf_54 : decode cX10_fromOf 54 = .ok (.invokestatic 194, 3) := by decide +kernel
theorem dX10_fromOf_57 : decode cX10_fromOf 57 = .ok (.ifCond .eq 27, 3) := by decide +kernel
theorem dX10_fromOf_60 : decode cX10_fromOf 60 = .ok (.iload_n 1, 1) := by decide +kernel
theorem dX10_fromOf_61 : decode cX10_fromOf 61 = .ok (.iload 6, 2) := by decide +kernel
theorem dX10_fromOf_63 : decode cX10_fromOf 63 = .ok (.invokestatic 194, 3) := by decide +kernel
theorem dX10_fromOf_66 : decode cX10_fromOf 66 = .ok (.ifCond .eq 18, 3) := by decide +kernel
theorem dX10_fromOf_69 : decode cX10_fromOf 69 = .ok (.aload_n 0, 1) := by decide +kernel
theorem dX10_fromOf_70 : decode cX10_fromOf 70 = .ok (.iload 5, 2) := by decide +kernel
theorem dX10_fromOf_72 : decode cX10_fromOf 72 = .ok (.iload 6, 2) := by decide +kernel
theorem dX10_fromOf_74 : decode cX10_fromOf 74 = .ok (.iload_n 3, 1) := by decide +kernel
theorem dX10_fromOf_75 : decode cX10_fromOf 75 = .ok (.invokestatic 222, 3) := by decide +kernel
theorem dX10_fromOf_78 : decode cX10_fromOf 78 = .ok (.invokevirtual 263, 3) := by decide +kernel
theorem dX10_fromOf_81 : decode cX10_fromOf 81 = .ok (.goto 4, 3) := by decide +kernel
theorem dX10_fromOf_84 : decode cX10_fromOf 84 = .ok (.iconst 0, 1) := by decide +kernel
theorem dX10_fromOf_85 : decode cX10_fromOf 85 = .ok (.iadd, 1) := by decide +kernel
theorem dX10_fromOf_86 : decode cX10_fromOf 86 = .ok (.istore 4, 2) := by decide +kernel
theorem dX10_fromOf_88 : decode cX10_fromOf 88 = .ok (.iinc 6 1, 3) := by decide +kernel
theorem dX10_fromOf_91 : decode cX10_fromOf 91 = .ok (.goto (-53), 3) := by decide +kernel
theorem dX10_fromOf_94 : decode cX10_fromOf 94 = .ok (.iinc 5 1, 3) := by decide +kernel
theorem dX10_fromOf_97 : decode cX10_fromOf 97 = .ok (.goto (-76), 3) := by decide +kernel
theorem dX10_fromOf_100 : decode cX10_fromOf 100 = .ok (.iload 4, 2) := by decide +kernel
theorem dX10_fromOf_102 : decode cX10_fromOf 102 = .ok (.aload_n 0, 1) := by decide +kernel
theorem dX10_fromOf_103 : decode cX10_fromOf 103 = .ok (.getfield 266, 3) := by decide +kernel
theorem dX10_fromOf_106 : decode cX10_fromOf 106 = .ok (.if_icmp .gt 6, 3) := by decide +kernel
theorem dX10_fromOf_109 : decode cX10_fromOf 109 = .ok (.goto 14, 3) := by decide +kernel
theorem dX10_fromOf_112 : decode cX10_fromOf 112 = .ok (.aload_n 0, 1) := by decide +kernel
theorem dX10_fromOf_113 : decode cX10_fromOf 113 = .ok (.iload 4, 2) := by decide +kernel
theorem dX10_fromOf_115 : decode cX10_fromOf 115 = .ok (.putfield 266, 3) := by decide +kernel
theorem dX10_fromOf_118 : decode cX10_fromOf 118 = .ok (.iload_n 3, 1) := by decide +kernel
theorem dX10_fromOf_119 : decode cX10_fromOf 119 = .ok (.invokestatic 222, 3) := by decide +kernel
theorem dX10_fromOf_122 : decode cX10_fromOf 122 = .ok (.istore_n 2, 1) := by decide +kernel
theorem dX10_fromOf_123 : decode cX10_fromOf 123 = .ok (.iinc 3 1, 3) := by decide +kernel
theorem dX10_fromOf_126 : decode cX10_fromOf 126 = .ok (.goto (-117), 3) := by decide +kernel
theorem dX10_fromOf_129 : decode cX10_fromOf 129 = .ok (.iload_n 2, 1) := by decide +kernel
theorem dX10_fromOf_130 : decode cX10_fromOf 130 = .ok (.ireturn, 1) := by decide +kernel
set_option maxHeartbeats 4000000 in
set_option maxRecDepth 100000 in
theorem c_Model_fromOf (l : Launch) (G : fm_G) (N : Nat) (M : fm_M) (v1 : Int32) (r : Int32) (M' : fm_M) (hf : pModel_fromOf N M v1 = some (r, M')) : fm_Met l yX10_fromOf cX10_fromOf 7 (some .int) { frames := 4, cells := 0, slots := 0, locals := 94 } shM G [.ref (G.2.1 0), .int v1] M (some (.int r)) M' := by
  refine fm_enter (by decide) (Nat.le_of_ble_eq_true rfl) ?_
  intro p e s m args below meth c ls C E hl
  have hl : lv_has ls 7 [(0, .ref (G.2.1 0)), (1, .int v1)] := hl
  have L9 : ∀ (w9_v1 : Int32) (n9 : Nat) (v2 : Int32) (v3 : Int32) (M : fm_M) (H : Heap) (locs : List Loc) (ls : Array Slot), fm_Wd shM G M s H locs → lv_has ls 7 [(0, .ref (G.2.1 0)), (1, .int w9_v1), (2, .int v2), (3, .int v3)] → fm_lp (pModel_fromOf_L9 N w9_v1) n9 (v2, v3, M) = some (r, M') → W p l e { frames := 4, cells := 0, slots := 0, locals := 94 } s m args below meth c H locs 0 0 (fm_Z below shM G args s (some (.int r)) M') (F0 m 9 ls []) := by
    intro w9_v1 n9
    induction n9 with
    | zero => intro v2 v3 M H locs ls E hl hf; exact fm_lp_0 hf
    | succ n9 ih9 =>
      have L21 : ∀ (w21_M : fm_M) (w21_v2 : Int32) (w21_v3 : Int32) (n21 : Nat) (v4 : Int32) (v5 : Int32) (H : Heap) (locs : List Loc) (ls : Array Slot), fm_Wd shM G w21_M s H locs → lv_has ls 7 [(0, .ref (G.2.1 0)), (1, .int w9_v1), (2, .int w21_v2), (3, .int w21_v3), (4, .int v4), (5, .int v5)] → fm_lp (pModel_fromOf_L21 N w21_M w9_v1 w21_v2 w21_v3 (fm_lp (pModel_fromOf_L9 N w9_v1) n9)) n21 (v4, v5) = some (r, M') → W p l e { frames := 4, cells := 0, slots := 0, locals := 94 } s m args below meth c H locs 0 0 (fm_Z below shM G args s (some (.int r)) M') (F0 m 21 ls []) := by
        intro w21_M w21_v2 w21_v3 n21
        induction n21 with
        | zero => intro v4 v5 H locs ls E hl hf; exact fm_lp_0 hf
        | succ n21 ih21 =>
          have L38 : ∀ (w38_v5 : Int32) (n38 : Nat) (v4 : Int32) (v6 : Int32) (H : Heap) (locs : List Loc) (ls : Array Slot), fm_Wd shM G w21_M s H locs → lv_has ls 7 [(0, .ref (G.2.1 0)), (1, .int w9_v1), (2, .int w21_v2), (3, .int w21_v3), (4, .int v4), (5, .int w38_v5), (6, .int v6)] → fm_lp (pModel_fromOf_L38 N w21_M w9_v1 w21_v2 w21_v3 w38_v5 (fm_lp (pModel_fromOf_L9 N w9_v1) n9) (fm_lp (pModel_fromOf_L21 N w21_M w9_v1 w21_v2 w21_v3 (fm_lp (pModel_fromOf_L9 N w9_v1) n9)) n21)) n38 (v4, v6) = some (r, M') → W p l e { frames := 4, cells := 0, slots := 0, locals := 94 } s m args below meth c H locs 0 0 (fm_Z below shM G args s (some (.int r)) M') (F0 m 38 ls []) := by
            intro w38_v5 n38
            induction n38 with
            | zero => intro v4 v6 H locs ls E hl hf; exact fm_lp_0 hf
            | succ n38 ih38 =>
              intro v4 v6 H locs ls E hl hf
              have hf : pModel_fromOf_L38b N w21_M w9_v1 w21_v2 w21_v3 w38_v5 (fm_lp (pModel_fromOf_L9 N w9_v1) n9) (fm_lp (pModel_fromOf_L21 N w21_M w9_v1 w21_v2 w21_v3 (fm_lp (pModel_fromOf_L9 N w9_v1) n9)) n21) (fm_lp (pModel_fromOf_L38 N w21_M w9_v1 w21_v2 w21_v3 w38_v5 (fm_lp (pModel_fromOf_L9 N w9_v1) n9) (fm_lp (pModel_fromOf_L21 N w21_M w9_v1 w21_v2 w21_v3 (fm_lp (pModel_fromOf_L9 N w9_v1) n9)) n21)) n38) v4 v6 = some (r, M') := hf
              unfold pModel_fromOf_L38b at hf
              refine lv_iload C.1 C.2.1 dX10_fromOf_38 (lv_at hl 6 rfl) ?_
              refine lv_aload_n C.1 C.2.1 dX10_fromOf_40 rfl (lv_at hl 0 rfl) ?_
              refine fm_getr C E lf_X10_9 hM_0 rfl dX10_fromOf_41 ?_
              refine lv_iconst (v := 0) C.1 C.2.1 dX10_fromOf_44 (by decide) ?_
              refine fm_ialdc C E 0 (by decide) hM_1 (by decide) dX10_fromOf_45 ?_
              refine lv_icmp_ge (tgt := 94) C.1 C.2.1 dX10_fromOf_46 (by decide) (fun hc46 => ?_) (fun hc46 => ?_)
              · have hf := fm_ip hf hc46
                refine fm_iinc C (v := 1) (lv' := [(5, .int _), (0, .ref _), (1, .int _), (2, .int _), (3, .int _), (4, .int _), (6, .int _)]) (k := 5) hl rfl (by decide) (by decide) rfl dX10_fromOf_94 (fun ls hl => ?_)
                refine lv_goto (tgt := 21) C.1 C.2.1 dX10_fromOf_97 (by decide) ?_
                exact ih21 _ _ _ _ _ E (lv_sub hl [1, 2, 3, 4, 5, 0] rfl) hf
              · have hf := fm_in' hf hc46
                refine lv_iload C.1 C.2.1 dX10_fromOf_49 (lv_at hl 4 rfl) ?_
                refine lv_iload_n C.1 C.2.1 dX10_fromOf_51 rfl (lv_at hl 1 rfl) ?_
                refine lv_iload C.1 C.2.1 dX10_fromOf_52 (lv_at hl 5 rfl) ?_
                obtain ⟨x54, hc54, hf⟩ := fm_bd hf
                refine fm_callS C E [.int _, .int _] [.int _] lm_X10_194 wk_X10_has (c_Model_has l G _ _ _ _  hc54) rfl hl.1 (by simp [Value.category]) ⟨⟨rfl, rfl⟩, by decide, by decide⟩ ⟨by decide, by decide⟩ dX10_fromOf_54 rfl (fun H locs E => ?_)
                refine W.eq (g2 := F0 m 57 ls (.int x54 :: [.int _])) rfl ?_
                refine lv_if_eq (tgt := 84) C.1 C.2.1 dX10_fromOf_57 (by decide) (fun hc57 => ?_) (fun hc57 => ?_)
                · have hf := fm_ip hf hc57
                  refine lv_iconst (v := 0) C.1 C.2.1 dX10_fromOf_84 (by decide) ?_
                  refine lv_iadd C.1 C.2.1 dX10_fromOf_85 ?_
                  refine lv_istore (lv' := [(4, .int _), (0, .ref _), (1, .int _), (2, .int _), (3, .int _), (5, .int _), (6, .int _)]) C.1 C.2.1 dX10_fromOf_86 hl (by decide) rfl (fun ls hl => ?_)
                  refine fm_iinc C (v := 1) (lv' := [(6, .int _), (4, .int _), (0, .ref _), (1, .int _), (2, .int _), (3, .int _), (5, .int _)]) (k := 6) hl rfl (by decide) (by decide) rfl dX10_fromOf_88 (fun ls hl => ?_)
                  refine lv_goto (tgt := 38) C.1 C.2.1 dX10_fromOf_91 (by decide) ?_
                  exact ih38 _ _ _ _ _ E (lv_sub hl [2, 3, 4, 5, 1, 6, 0] rfl) hf
                · have hf := fm_in' hf hc57
                  refine lv_iload_n C.1 C.2.1 dX10_fromOf_60 rfl (lv_at hl 1 rfl) ?_
                  refine lv_iload C.1 C.2.1 dX10_fromOf_61 (lv_at hl 6 rfl) ?_
                  obtain ⟨x63, hc63, hf⟩ := fm_bd hf
                  refine fm_callS C E [.int _, .int _] [.int _] lm_X10_194 wk_X10_has (c_Model_has l G _ _ _ _  hc63) rfl hl.1 (by simp [Value.category]) ⟨⟨rfl, rfl⟩, by decide, by decide⟩ ⟨by decide, by decide⟩ dX10_fromOf_63 rfl (fun H locs E => ?_)
                  refine W.eq (g2 := F0 m 66 ls (.int x63 :: [.int _])) rfl ?_
                  refine lv_if_eq (tgt := 84) C.1 C.2.1 dX10_fromOf_66 (by decide) (fun hc66 => ?_) (fun hc66 => ?_)
                  · have hf := fm_ip hf hc66
                    refine lv_iconst (v := 0) C.1 C.2.1 dX10_fromOf_84 (by decide) ?_
                    refine lv_iadd C.1 C.2.1 dX10_fromOf_85 ?_
                    refine lv_istore (lv' := [(4, .int _), (0, .ref _), (1, .int _), (2, .int _), (3, .int _), (5, .int _), (6, .int _)]) C.1 C.2.1 dX10_fromOf_86 hl (by decide) rfl (fun ls hl => ?_)
                    refine fm_iinc C (v := 1) (lv' := [(6, .int _), (4, .int _), (0, .ref _), (1, .int _), (2, .int _), (3, .int _), (5, .int _)]) (k := 6) hl rfl (by decide) (by decide) rfl dX10_fromOf_88 (fun ls hl => ?_)
                    refine lv_goto (tgt := 38) C.1 C.2.1 dX10_fromOf_91 (by decide) ?_
                    exact ih38 _ _ _ _ _ E (lv_sub hl [2, 3, 4, 5, 1, 6, 0] rfl) hf
                  · have hf := fm_in' hf hc66
                    refine lv_aload_n C.1 C.2.1 dX10_fromOf_69 rfl (lv_at hl 0 rfl) ?_
                    refine lv_iload C.1 C.2.1 dX10_fromOf_70 (lv_at hl 5 rfl) ?_
                    refine lv_iload C.1 C.2.1 dX10_fromOf_72 (lv_at hl 6 rfl) ?_
                    refine lv_iload_n C.1 C.2.1 dX10_fromOf_74 rfl (lv_at hl 3 rfl) ?_
                    obtain ⟨x75, hc75, hf⟩ := fm_bd hf
                    refine fm_callS C E [.int _] [.int _, .int _, .ref _, .int _] lm_X10_222 wk_X10_turn (c_Model_turn l G _ _ _  hc75) rfl hl.1 (by simp [Value.category]) ⟨⟨rfl, rfl⟩, by decide, by decide⟩ ⟨by decide, by decide⟩ dX10_fromOf_75 rfl (fun H locs E => ?_)
                    refine W.eq (g2 := F0 m 78 ls (.int x75 :: [.int _, .int _, .ref _, .int _])) rfl ?_
                    obtain ⟨x78, hc78, hf⟩ := fm_bd hf
                    refine fm_callV C E [.int _, .int _, .int _] [.int _] lm_X10_263 wk_X10_agreeOf (c_Model_agreeOf l G N _ _ _ _ _  hc78) hM_0 rfl rfl rfl hl.1 (by simp [Value.category]) ⟨⟨rfl, rfl⟩, by decide, by decide⟩ ⟨by decide, by decide⟩ dX10_fromOf_78 rfl (fun H locs E => ?_)
                    refine W.eq (g2 := F0 m 81 ls (.int x78 :: [.int _])) rfl ?_
                    refine lv_goto (tgt := 85) C.1 C.2.1 dX10_fromOf_81 (by decide) ?_
                    refine lv_iadd C.1 C.2.1 dX10_fromOf_85 ?_
                    refine lv_istore (lv' := [(4, .int _), (0, .ref _), (1, .int _), (2, .int _), (3, .int _), (5, .int _), (6, .int _)]) C.1 C.2.1 dX10_fromOf_86 hl (by decide) rfl (fun ls hl => ?_)
                    refine fm_iinc C (v := 1) (lv' := [(6, .int _), (4, .int _), (0, .ref _), (1, .int _), (2, .int _), (3, .int _), (5, .int _)]) (k := 6) hl rfl (by decide) (by decide) rfl dX10_fromOf_88 (fun ls hl => ?_)
                    refine lv_goto (tgt := 38) C.1 C.2.1 dX10_fromOf_91 (by decide) ?_
                    exact ih38 _ _ _ _ _ E (lv_sub hl [2, 3, 4, 5, 1, 6, 0] rfl) hf
          intro v4 v5 H locs ls E hl hf
          have hf : pModel_fromOf_L21b N w21_M w9_v1 w21_v2 w21_v3 (fm_lp (pModel_fromOf_L9 N w9_v1) n9) (fm_lp (pModel_fromOf_L21 N w21_M w9_v1 w21_v2 w21_v3 (fm_lp (pModel_fromOf_L9 N w9_v1) n9)) n21) v4 v5 = some (r, M') := hf
          unfold pModel_fromOf_L21b at hf
          refine lv_iload C.1 C.2.1 dX10_fromOf_21 (lv_at hl 5 rfl) ?_
          refine lv_aload_n C.1 C.2.1 dX10_fromOf_23 rfl (lv_at hl 0 rfl) ?_
          refine fm_getr C E lf_X10_9 hM_0 rfl dX10_fromOf_24 ?_
          refine lv_iconst (v := 0) C.1 C.2.1 dX10_fromOf_27 (by decide) ?_
          refine fm_ialdc C E 0 (by decide) hM_1 (by decide) dX10_fromOf_28 ?_
          refine lv_icmp_ge (tgt := 100) C.1 C.2.1 dX10_fromOf_29 (by decide) (fun hc29 => ?_) (fun hc29 => ?_)
          · have hf := fm_ip hf hc29
            refine lv_iload C.1 C.2.1 dX10_fromOf_100 (lv_at hl 4 rfl) ?_
            refine lv_aload_n C.1 C.2.1 dX10_fromOf_102 rfl (lv_at hl 0 rfl) ?_
            refine fm_geti C E lf_X10_266 hM_0 rfl dX10_fromOf_103 ?_
            refine lv_icmp_gt (tgt := 112) C.1 C.2.1 dX10_fromOf_106 (by decide) (fun hc106 => ?_) (fun hc106 => ?_)
            · have hf := fm_ip hf hc106
              refine lv_aload_n C.1 C.2.1 dX10_fromOf_112 rfl (lv_at hl 0 rfl) ?_
              refine lv_iload C.1 C.2.1 dX10_fromOf_113 (lv_at hl 4 rfl) ?_
              obtain ⟨M115, e115, hf⟩ := fm_pt_s hf
              refine fm_put' C E e115 lp_X10_266 hM_0 rfl dX10_fromOf_115 (fun H locs E => ?_)
              refine lv_iload_n C.1 C.2.1 dX10_fromOf_118 rfl (lv_at hl 3 rfl) ?_
              obtain ⟨x119, hc119, hf⟩ := fm_bd hf
              refine fm_callS C E [.int _] [] lm_X10_222 wk_X10_turn (c_Model_turn l G _ _ _  hc119) rfl hl.1 (by simp [Value.category]) ⟨⟨rfl, rfl⟩, by decide, by decide⟩ ⟨by decide, by decide⟩ dX10_fromOf_119 rfl (fun H locs E => ?_)
              refine W.eq (g2 := F0 m 122 ls (.int x119 :: [])) rfl ?_
              refine lv_istore_n (lv' := [(2, .int _), (0, .ref _), (1, .int _), (3, .int _), (4, .int _), (5, .int _)]) C.1 C.2.1 dX10_fromOf_122 rfl hl (by decide) rfl (fun ls hl => ?_)
              refine fm_iinc C (v := 1) (lv' := [(3, .int _), (2, .int _), (0, .ref _), (1, .int _), (4, .int _), (5, .int _)]) (k := 3) hl rfl (by decide) (by decide) rfl dX10_fromOf_123 (fun ls hl => ?_)
              refine lv_goto (tgt := 9) C.1 C.2.1 dX10_fromOf_126 (by decide) ?_
              exact ih9 _ _ _ _ _ _ E (lv_sub hl [2, 3, 1, 0] rfl) hf
            · have hf := fm_in' hf hc106
              refine lv_goto (tgt := 123) C.1 C.2.1 dX10_fromOf_109 (by decide) ?_
              refine fm_iinc C (v := 1) (lv' := [(3, .int _), (0, .ref _), (1, .int _), (2, .int _), (4, .int _), (5, .int _)]) (k := 3) hl rfl (by decide) (by decide) rfl dX10_fromOf_123 (fun ls hl => ?_)
              refine lv_goto (tgt := 9) C.1 C.2.1 dX10_fromOf_126 (by decide) ?_
              exact ih9 _ _ _ _ _ _ E (lv_sub hl [1, 2, 3, 0] rfl) hf
          · have hf := fm_in' hf hc29
            refine lv_iload C.1 C.2.1 dX10_fromOf_32 (lv_at hl 5 rfl) ?_
            refine lv_iconst (v := 1) C.1 C.2.1 dX10_fromOf_34 (by decide) ?_
            refine lv_iadd C.1 C.2.1 dX10_fromOf_35 ?_
            refine lv_istore (lv' := [(6, .int _), (0, .ref _), (1, .int _), (2, .int _), (3, .int _), (4, .int _), (5, .int _)]) C.1 C.2.1 dX10_fromOf_36 hl (by decide) rfl (fun ls hl => ?_)
            exact L38 _ N _ _ _ _ _ E (lv_sub hl [1, 2, 3, 4, 5, 6, 0] rfl) hf
      intro v2 v3 M H locs ls E hl hf
      have hf : pModel_fromOf_L9b N w9_v1 (fm_lp (pModel_fromOf_L9 N w9_v1) n9) v2 v3 M = some (r, M') := hf
      unfold pModel_fromOf_L9b at hf
      refine lv_iload_n C.1 C.2.1 dX10_fromOf_9 rfl (lv_at hl 3 rfl) ?_
      refine lv_bipush (v := 16) C.1 C.2.1 dX10_fromOf_10 (by decide) ?_
      refine lv_icmp_gt (tgt := 129) C.1 C.2.1 dX10_fromOf_12 (by decide) (fun hc12 => ?_) (fun hc12 => ?_)
      · have hf := fm_ip hf hc12
        refine lv_iload_n C.1 C.2.1 dX10_fromOf_129 rfl (lv_at hl 2 rfl) ?_
        obtain ⟨rfl, rfl⟩ := fm_rt2 hf
        exact fm_iret C E rfl rfl dX10_fromOf_130
      · have hf := fm_in' hf hc12
        refine lv_iconst (v := 0) C.1 C.2.1 dX10_fromOf_15 (by decide) ?_
        refine lv_istore (lv' := [(4, .int _), (0, .ref _), (1, .int _), (2, .int _), (3, .int _)]) C.1 C.2.1 dX10_fromOf_16 hl (by decide) rfl (fun ls hl => ?_)
        refine lv_iconst (v := 0) C.1 C.2.1 dX10_fromOf_18 (by decide) ?_
        refine lv_istore (lv' := [(5, .int _), (4, .int _), (0, .ref _), (1, .int _), (2, .int _), (3, .int _)]) C.1 C.2.1 dX10_fromOf_19 hl (by decide) rfl (fun ls hl => ?_)
        exact L21 _ _ _ N _ _ _ _ _ E (lv_sub hl [2, 3, 4, 5, 1, 0] rfl) hf
  unfold pModel_fromOf at hf
  refine lv_iconst (v := 0) C.1 C.2.1 dX10_fromOf_0 (by decide) ?_
  refine lv_istore_n (lv' := [(2, .int _), (0, .ref _), (1, .int _)]) C.1 C.2.1 dX10_fromOf_1 rfl hl (by decide) rfl (fun ls hl => ?_)
  refine lv_aload_n C.1 C.2.1 dX10_fromOf_2 rfl (lv_at hl 1 rfl) ?_
  refine lv_iconst (v := (-1)) C.1 C.2.1 dX10_fromOf_3 (by decide) ?_
  obtain ⟨M4, e4, hf⟩ := fm_pt_s hf
  refine fm_put' C E e4 lp_X10_266 hM_0 rfl dX10_fromOf_4 (fun H locs E => ?_)
  refine lv_iconst (v := 0) C.1 C.2.1 dX10_fromOf_7 (by decide) ?_
  refine lv_istore_n (lv' := [(3, .int _), (2, .int _), (0, .ref _), (1, .int _)]) C.1 C.2.1 dX10_fromOf_8 rfl hl (by decide) rfl (fun ls hl => ?_)
  exact L9 _ N _ _ _ _ _ _ E (lv_sub hl [2, 3, 1, 0] rfl) hf
theorem dX10_from_0 : decode cX10_from 0 = .ok (.aload_n 0, 1) := by decide +kernel
theorem dX10_from_1 : decode cX10_from 1 = .ok (.iconst 0, 1) := by decide +kernel
theorem dX10_from_2 : decode cX10_from 2 = .ok (.putfield 77, 3) := by decide +kernel
theorem dX10_from_5 : decode cX10_from 5 = .ok (.aload_n 0, 1) := by decide +kernel
theorem dX10_from_6 : decode cX10_from 6 = .ok (.invokevirtual 204, 3) := by decide +kernel
theorem dX10_from_9 : decode cX10_from 9 = .ok (.istore_n 1, 1) := by decide +kernel
theorem dX10_from_10 : decode cX10_from 10 = .ok (.iload_n 1, 1) := by decide +kernel
theorem dX10_from_11 : decode cX10_from 11 = .ok (.invokestatic 198, 3) := by decide +kernel
theorem dX10_from_14 : decode cX10_from 14 = .ok (.istore_n 2, 1) := by decide +kernel
theorem dX10_from_15 : decode cX10_from 15 = .ok (.iload_n 2, 1) := by decide +kernel
theorem dX10_from_16 : decode cX10_from 16 = .ok (.iconst 2, 1) := by decide +kernel
theorem dX10_from_17 : decode cX10_from 17 = .ok (.if_icmp .ge 6, 3) := by decide +kernel
theorem dX10_from_20 : decode cX10_from 20 = .ok (.bipush (-2), 2) := by decide +kernel
theorem dX10_from_22 : decode cX10_from 22 = .ok (.ireturn, 1) := by decide +kernel
theorem dX10_from_23 : decode cX10_from 23 = .ok (.aload_n 0, 1) := by decide +kernel
theorem dX10_from_24 : decode cX10_from 24 = .ok (.invokevirtual 188, 3) := by decide +kernel
theorem dX10_from_27 : decode cX10_from 27 = .ok (.aload_n 0, 1) := by decide +kernel
theorem dX10_from_28 : decode cX10_from 28 = .ok (.iload_n 1, 1) := by decide +kernel
theorem dX10_from_29 : decode cX10_from 29 = .ok (.invokevirtual 269, 3) := by decide +kernel
theorem dX10_from_32 : decode cX10_from 32 = .ok (.istore_n 3, 1) := by decide +kernel
theorem dX10_from_33 : decode cX10_from 33 = .ok (.aload_n 0, 1) := by decide +kernel
theorem dX10_from_34 : decode cX10_from 34 = .ok (.iconst 0, 1) := by decide +kernel
theorem dX10_from_35 : decode cX10_from 35 = .ok (.putfield 80, 3) := by decide +kernel
theorem dX10_from_38 : decode cX10_from 38 = .ok (.aload_n 0, 1) := by decide +kernel
theorem dX10_from_39 : decode cX10_from 39 = .ok (.aload_n 0, 1) := by decide +kernel
theorem dX10_from_40 : decode cX10_from 40 = .ok (.getfield 266, 3) := by decide +kernel
theorem dX10_from_43 : decode cX10_from 43 = .ok (.i2l, 1) := by decide +kernel
theorem dX10_from_44 : decode cX10_from 44 = .ok (.invokevirtual 245, 3) := by decide +kernel
theorem dX10_from_47 : decode cX10_from 47 = .ok (.aload_n 0, 1) := by decide +kernel
theorem dX10_from_48 : decode cX10_from 48 = .ok (.iload_n 2, 1) := by decide +kernel
theorem dX10_from_49 : decode cX10_from 49 = .ok (.iload_n 2, 1) := by decide +kernel
theorem dX10_from_50 : decode cX10_from 50 = .ok (.iconst 1, 1) := by decide +kernel
theorem dX10_from_51 : decode cX10_from 51 = .ok (.isub, 1) := by decide +kernel
theorem dX10_from_52 : decode cX10_from 52 = .ok (.imul, 1) := by decide +kernel
theorem dX10_from_53 : decode cX10_from 53 = .ok (.iconst 2, 1) := by decide +kernel
theorem dX10_from_54 : decode cX10_from 54 = .ok (.idiv, 1) := by decide +kernel
theorem dX10_from_55 : decode cX10_from 55 = .ok (.i2l, 1) := by decide +kernel
theorem dX10_from_56 : decode cX10_from 56 = .ok (.invokevirtual 245, 3) := by decide +kernel
theorem dX10_from_59 : decode cX10_from 59 = .ok (.bipush 8, 2) := by decide +kernel
theorem dX10_from_61 : decode cX10_from 61 = .ok (.iload_n 3, 1) := by decide +kernel
theorem dX10_from_62 : decode cX10_from 62 = .ok (.iadd, 1) := by decide +kernel
theorem dX10_from_63 : decode cX10_from 63 = .ok (.ireturn, 1) := by decide +kernel
set_option maxHeartbeats 4000000 in
set_option maxRecDepth 100000 in
theorem c_Model_from (l : Launch) (G : fm_G) (N : Nat) (M : fm_M) (r : Int32) (M' : fm_M) (hf : pModel_from N M = some (r, M')) : fm_Met l yX10_from cX10_from 4 (some .int) { frames := 5, cells := 0, slots := 0, locals := 120 } shM G [.ref (G.2.1 0)] M (some (.int r)) M' := by
  refine fm_enter (by decide) (Nat.le_of_ble_eq_true rfl) ?_
  intro p e s m args below meth c ls C E hl
  have hl : lv_has ls 4 [(0, .ref (G.2.1 0))] := hl
  unfold pModel_from at hf
  refine lv_aload_n C.1 C.2.1 dX10_from_0 rfl (lv_at hl 0 rfl) ?_
  refine lv_iconst (v := 0) C.1 C.2.1 dX10_from_1 (by decide) ?_
  obtain ⟨M2, e2, hf⟩ := fm_pt_s hf
  refine fm_put' C E e2 lp_X10_77 hM_0 rfl dX10_from_2 (fun H locs E => ?_)
  refine lv_aload_n C.1 C.2.1 dX10_from_5 rfl (lv_at hl 0 rfl) ?_
  obtain ⟨x6, hc6, hf⟩ := fm_bd hf
  refine fm_callV C E [] [] lm_X10_204 wk_X10_liveBits (c_Model_liveBits l G N _ _  hc6) hM_0 rfl rfl rfl hl.1 (by simp [Value.category]) ⟨⟨rfl, rfl⟩, by decide, by decide⟩ ⟨by decide, by decide⟩ dX10_from_6 rfl (fun H locs E => ?_)
  refine W.eq (g2 := F0 m 9 ls (.int x6 :: [])) rfl ?_
  refine lv_istore_n (lv' := [(1, .int _), (0, .ref _)]) C.1 C.2.1 dX10_from_9 rfl hl (by decide) rfl (fun ls hl => ?_)
  refine lv_iload_n C.1 C.2.1 dX10_from_10 rfl (lv_at hl 0 rfl) ?_
  obtain ⟨x11, hc11, hf⟩ := fm_bd hf
  refine fm_callS C E [.int _] [] lm_X10_198 wk_X10_countBits (c_Model_countBits l G N _ _ _  hc11) rfl hl.1 (by simp [Value.category]) ⟨⟨rfl, rfl⟩, by decide, by decide⟩ ⟨by decide, by decide⟩ dX10_from_11 rfl (fun H locs E => ?_)
  refine W.eq (g2 := F0 m 14 ls (.int x11 :: [])) rfl ?_
  refine lv_istore_n (lv' := [(2, .int _), (1, .int _), (0, .ref _)]) C.1 C.2.1 dX10_from_14 rfl hl (by decide) rfl (fun ls hl => ?_)
  refine lv_iload_n C.1 C.2.1 dX10_from_15 rfl (lv_at hl 0 rfl) ?_
  refine lv_iconst (v := 2) C.1 C.2.1 dX10_from_16 (by decide) ?_
  refine lv_icmp_ge (tgt := 23) C.1 C.2.1 dX10_from_17 (by decide) (fun hc17 => ?_) (fun hc17 => ?_)
  · have hf := fm_ip hf hc17
    refine lv_aload_n C.1 C.2.1 dX10_from_23 rfl (lv_at hl 2 rfl) ?_
    obtain ⟨M24, hc24, hf⟩ := fm_bd hf
    refine fm_callV C E [] [] lm_X10_188 wk_X10_hear (c_Model_hear l G N _ _ hc24) hM_0 rfl rfl rfl hl.1 (by simp [Value.category]) ⟨⟨rfl, rfl⟩, by decide, by decide⟩ ⟨by decide, by decide⟩ dX10_from_24 rfl (fun H locs E => ?_)
    refine W.eq (g2 := F0 m 27 ls []) rfl ?_
    refine lv_aload_n C.1 C.2.1 dX10_from_27 rfl (lv_at hl 2 rfl) ?_
    refine lv_iload_n C.1 C.2.1 dX10_from_28 rfl (lv_at hl 1 rfl) ?_
    obtain ⟨⟨x29, M29⟩, hc29, hf⟩ := fm_bd hf
    dsimp only at hf
    refine fm_callV C E [.int _] [] lm_X10_269 wk_X10_fromOf (c_Model_fromOf l G N _ _ _ _ hc29) hM_0 rfl rfl rfl hl.1 (by simp [Value.category]) ⟨⟨rfl, rfl⟩, by decide, by decide⟩ ⟨by decide, by decide⟩ dX10_from_29 rfl (fun H locs E => ?_)
    refine W.eq (g2 := F0 m 32 ls (.int x29 :: [])) rfl ?_
    refine lv_istore_n (lv' := [(3, .int _), (2, .int _), (1, .int _), (0, .ref _)]) C.1 C.2.1 dX10_from_32 rfl hl (by decide) rfl (fun ls hl => ?_)
    refine lv_aload_n C.1 C.2.1 dX10_from_33 rfl (lv_at hl 3 rfl) ?_
    refine lv_iconst (v := 0) C.1 C.2.1 dX10_from_34 (by decide) ?_
    obtain ⟨M35, e35, hf⟩ := fm_pt_s hf
    refine fm_put' C E e35 lp_X10_80 hM_0 rfl dX10_from_35 (fun H locs E => ?_)
    refine lv_aload_n C.1 C.2.1 dX10_from_38 rfl (lv_at hl 3 rfl) ?_
    refine lv_aload_n C.1 C.2.1 dX10_from_39 rfl (lv_at hl 3 rfl) ?_
    refine fm_geti C E lf_X10_266 hM_0 rfl dX10_from_40 ?_
    refine lv_i2l C.1 C.2.1 dX10_from_43 rfl ?_
    obtain ⟨M44, hc44, hf⟩ := fm_bd hf
    refine fm_callV C E [.long _] [] lm_X10_245 wk_X10_tell (c_Model_tell l G _ _ _ hc44) hM_0 rfl rfl rfl hl.1 (by simp [Value.category]) ⟨⟨rfl, rfl⟩, by decide, by decide⟩ ⟨by decide, by decide⟩ dX10_from_44 rfl (fun H locs E => ?_)
    refine W.eq (g2 := F0 m 47 ls []) rfl ?_
    refine lv_aload_n C.1 C.2.1 dX10_from_47 rfl (lv_at hl 3 rfl) ?_
    refine lv_iload_n C.1 C.2.1 dX10_from_48 rfl (lv_at hl 1 rfl) ?_
    refine lv_iload_n C.1 C.2.1 dX10_from_49 rfl (lv_at hl 1 rfl) ?_
    refine lv_iconst (v := 1) C.1 C.2.1 dX10_from_50 (by decide) ?_
    refine lv_isub C.1 C.2.1 dX10_from_51 ?_
    refine lv_imul C.1 C.2.1 dX10_from_52 ?_
    refine lv_iconst (v := 2) C.1 C.2.1 dX10_from_53 (by decide) ?_
    refine lv_idiv C.1 C.2.1 dX10_from_54 (by decide) ?_
    refine lv_i2l C.1 C.2.1 dX10_from_55 rfl ?_
    obtain ⟨M56, hc56, hf⟩ := fm_bd hf
    refine fm_callV C E [.long _] [] lm_X10_245 wk_X10_tell (c_Model_tell l G _ _ _ hc56) hM_0 rfl rfl rfl hl.1 (by simp [Value.category]) ⟨⟨rfl, rfl⟩, by decide, by decide⟩ ⟨by decide, by decide⟩ dX10_from_56 rfl (fun H locs E => ?_)
    refine W.eq (g2 := F0 m 59 ls []) rfl ?_
    refine lv_bipush (v := 8) C.1 C.2.1 dX10_from_59 (by decide) ?_
    refine lv_iload_n C.1 C.2.1 dX10_from_61 rfl (lv_at hl 0 rfl) ?_
    refine lv_iadd C.1 C.2.1 dX10_from_62 ?_
    obtain ⟨rfl, rfl⟩ := fm_rt2 hf
    exact fm_iret C E rfl rfl dX10_from_63
  · have hf := fm_in' hf hc17
    refine lv_bipush (v := (-2)) C.1 C.2.1 dX10_from_20 (by decide) ?_
    obtain ⟨rfl, rfl⟩ := fm_rt2 hf
    exact fm_iret C E rfl rfl dX10_from_22
theorem dX10_layAgree_0 : decode cX10_layAgree 0 = .ok (.bipush (-8), 2) := by decide +kernel
theorem dX10_layAgree_2 : decode cX10_layAgree 2 = .ok (.istore_n 2, 1) := by decide +kernel
theorem dX10_layAgree_3 : decode cX10_layAgree 3 = .ok (.iload_n 2, 1) := by decide +kernel
theorem dX10_layAgree_4 : decode cX10_layAgree 4 = .ok (.bipush 8, 2) := by decide +kernel
theorem dX10_layAgree_6 : decode cX10_layAgree 6 = .ok (.if_icmp .gt 98, 3) := by decide +kernel
theorem dX10_layAgree_9 : decode cX10_layAgree 9 = .ok (.iconst 0, 1) := by decide +kernel
theorem dX10_layAgree_10 : decode cX10_layAgree 10 = .ok (.istore_n 3, 1) := by decide +kernel
theorem dX10_layAgree_11 : decode cX10_layAgree 11 = .ok (.iconst 0, 1) := by decide +kernel
theorem dX10_layAgree_12 : decode cX10_layAgree 12 = .ok (.istore 4, 2) := by decide +kernel
theorem dX10_layAgree_14 : decode cX10_layAgree 14 = .ok (.iload 4, 2) := by decide +kernel
theorem dX10_layAgree_16 : decode cX10_layAgree 16 = .ok (.aload_n 0, 1) := by decide +kernel
theorem dX10_layAgree_17 : decode cX10_layAgree 17 = .ok (.getfield 9, 3) := by decide +kernel
theorem dX10_layAgree_20 : decode cX10_layAgree 20 = .ok (.iconst 0, 1) := by decide +kernel
theorem dX10_layAgree_21 : decode cX10_layAgree 21 = .ok (.iaload, 1) := by decide +kernel
theorem dX10_layAgree_22 : decode cX10_layAgree 22 = .ok (.if_icmp .ge 66, 3) := by decide +kernel
theorem dX10_layAgree_25 : decode cX10_layAgree 25 = .ok (.iload 4, 2) := by decide +kernel
theorem dX10_layAgree_27 : decode cX10_layAgree 27 = .ok (.iconst 1, 1) := by decide +kernel
theorem dX10_layAgree_28 : decode cX10_layAgree 28 = .ok (.iadd, 1) := by decide +kernel
theorem dX10_layAgree_29 : decode cX10_layAgree 29 = .ok (.istore 5, 2) := by decide +kernel
theorem dX10_layAgree_31 : decode cX10_layAgree 31 = .ok (.iload 5, 2) := by decide +kernel
theorem dX10_layAgree_33 : decode cX10_layAgree 33 = .ok (.aload_n 0, 1) := by decide +kernel
theorem dX10_layAgree_34 : decode cX10_layAgree 34 = .ok (.getfield 9, 3) := by decide +kernel
theorem dX10_layAgree_37 : decode cX10_layAgree 37 = .ok (.iconst 0, 1) := by decide +kernel
theorem dX10_layAgree_38 : decode cX10_layAgree 38 = .ok (.iaload, 1) := by decide +kernel
theorem dX10_layAgree_39 : decode cX10_layAgree 39 = .ok (.if_icmp .ge 43, 3) := by decide +kernel
theorem dX10_layAgree_42 : decode cX10_layAgree 42 = .ok (.iload_n 3, 1) := by decide +kernel
theorem dX10_layAgree_43 : decode cX10_layAgree 43 = .ok (.iload_n 1, 1) := by decide +kernel
theorem dX10_layAgree_44 : decode cX10_layAgree 44 = .ok (.iload 4, 2) := by decide +kernel
theorem dX10_layAgree_46 : decode cX10_layAgree 46 = .ok (.invokestatic 194, 3) := by decide +kernel
theorem dX10_layAgree_49 : decode cX10_layAgree 49 = .ok (.ifCond .eq 24, 3) := by decide +kernel
theorem dX10_layAgree_52 : decode cX10_layAgree 52 = .ok (.iload_n 1, 1) := by decide +kernel
theorem dX10_layAgree_53 : decode cX10_layAgree 53 = .ok (.iload 5, 2) := by decide +kernel
theorem dX10_layAgree_55 : decode cX10_layAgree 55 = .ok (.invokestatic 194, 3) := by decide +kernel
theorem dX10_layAgree_58 : decode cX10_layAgree 58 = .ok (.ifCond .eq 15, 3) := by decide +kernel
theorem dX10_layAgree_61 : decode cX10_layAgree 61 = .ok (.aload_n 0, 1) := by decide +kernel
theorem dX10_layAgree_62 : decode cX10_layAgree 62 = .ok (.iload 4, 2) := by decide +kernel
theorem dX10_layAgree_64 : decode cX10_layAgree 64 = .ok (.iload 5, 2) := by decide +kernel
theorem dX10_layAgree_66 : decode cX10_layAgree 66 = .ok (.iload_n 2, 1) := by decide +kernel
theorem dX10_layAgree_67 : decode cX10_layAgree 67 = .ok (.invokevirtual 263, 3) := by decide +kernel
theorem dX10_layAgree_70 : decode cX10_layAgree 70 = .ok (.goto 4, 3) := by decide +kernel
theorem dX10_layAgree_73 : decode cX10_layAgree 73 = .ok (.iconst 0, 1) := by decide +kernel
theorem dX10_layAgree_74 : decode cX10_layAgree 74 = .ok (.iadd, 1) := by decide +kernel
theorem dX10_layAgree_75 : decode cX10_layAgree 75 = .ok (.istore_n 3, 1) := by decide +kernel
theorem dX10_layAgree_76 : decode cX10_layAgree 76 = .ok (.iinc 5 1, 3) := by decide +kernel
theorem dX10_layAgree_79 : decode cX10_layAgree 79 = .ok (.goto (-48), 3) := by decide +kernel
theorem dX10_layAgree_82 : decode cX10_layAgree 82 = .ok (.iinc 4 1, 3) := by decide +kernel
theorem dX10_layAgree_85 : decode cX10_layAgree 85 = .ok (.goto (-71), 3) := by decide +kernel
theorem dX10_layAgree_88 : decode cX10_layAgree 88 = .ok (.aload_n 0, 1) := by decide +kernel
theorem dX10_layAgree_89 : decode cX10_layAgree 89 = .ok (.getfield 52, 3) := by decide +kernel
theorem dX10_layAgree_92 : decode cX10_layAgree 92 = .ok (.bipush 8, 2) := by decide +kernel
theorem dX10_layAgree_94 : decode cX10_layAgree 94 = .ok (.iload_n 2, 1) := by decide +kernel
theorem dX10_layAgree_95 : decode cX10_layAgree 95 = .ok (.iadd, 1) := by decide +kernel
theorem dX10_layAgree_96 : decode cX10_layAgree 96 = .ok (.iload_n 3, 1) := by decide +kernel
theorem dX10_layAgree_97 : decode cX10_layAgree 97 = .ok (.iastore, 1) := by decide +kernel
theorem dX10_layAgree_98 : decode cX10_layAgree 98 = .ok (.iinc 2 1, 3) := by decide +kernel
theorem dX10_layAgree_101 : decode cX10_layAgree 101 = .ok (.goto (-98), 3) := by decide +kernel
theorem dX10_layAgree_104 : decode cX10_layAgree 104 = .ok (.return_, 1) := by decide +kernel
set_option maxHeartbeats 4000000 in
set_option maxRecDepth 100000 in
theorem c_Model_layAgree (l : Launch) (G : fm_G) (N : Nat) (M : fm_M) (v1 : Int32) (M' : fm_M) (hf : pModel_layAgree N M v1 = some M') : fm_Met l yX10_layAgree cX10_layAgree 6 none { frames := 4, cells := 0, slots := 0, locals := 94 } shM G [.ref (G.2.1 0), .int v1] M none M' := by
  refine fm_enter (by decide) (Nat.le_of_ble_eq_true rfl) ?_
  intro p e s m args below meth c ls C E hl
  have hl : lv_has ls 6 [(0, .ref (G.2.1 0)), (1, .int v1)] := hl
  have L3 : ∀ (w3_v1 : Int32) (n3 : Nat) (v2 : Int32) (M : fm_M) (H : Heap) (locs : List Loc) (ls : Array Slot), fm_Wd shM G M s H locs → lv_has ls 6 [(0, .ref (G.2.1 0)), (1, .int w3_v1), (2, .int v2)] → fm_lp (pModel_layAgree_L3 N w3_v1) n3 (v2, M) = some M' → W p l e { frames := 4, cells := 0, slots := 0, locals := 94 } s m args below meth c H locs 0 0 (fm_Z below shM G args s none M') (F0 m 3 ls []) := by
    intro w3_v1 n3
    induction n3 with
    | zero => intro v2 M H locs ls E hl hf; exact fm_lp_0 hf
    | succ n3 ih3 =>
      have L14 : ∀ (w14_M : fm_M) (w14_v2 : Int32) (n14 : Nat) (v3 : Int32) (v4 : Int32) (H : Heap) (locs : List Loc) (ls : Array Slot), fm_Wd shM G w14_M s H locs → lv_has ls 6 [(0, .ref (G.2.1 0)), (1, .int w3_v1), (2, .int w14_v2), (3, .int v3), (4, .int v4)] → fm_lp (pModel_layAgree_L14 N w14_M w3_v1 w14_v2 (fm_lp (pModel_layAgree_L3 N w3_v1) n3)) n14 (v3, v4) = some M' → W p l e { frames := 4, cells := 0, slots := 0, locals := 94 } s m args below meth c H locs 0 0 (fm_Z below shM G args s none M') (F0 m 14 ls []) := by
        intro w14_M w14_v2 n14
        induction n14 with
        | zero => intro v3 v4 H locs ls E hl hf; exact fm_lp_0 hf
        | succ n14 ih14 =>
          have L31 : ∀ (w31_v4 : Int32) (n31 : Nat) (v3 : Int32) (v5 : Int32) (H : Heap) (locs : List Loc) (ls : Array Slot), fm_Wd shM G w14_M s H locs → lv_has ls 6 [(0, .ref (G.2.1 0)), (1, .int w3_v1), (2, .int w14_v2), (3, .int v3), (4, .int w31_v4), (5, .int v5)] → fm_lp (pModel_layAgree_L31 N w14_M w3_v1 w14_v2 w31_v4 (fm_lp (pModel_layAgree_L3 N w3_v1) n3) (fm_lp (pModel_layAgree_L14 N w14_M w3_v1 w14_v2 (fm_lp (pModel_layAgree_L3 N w3_v1) n3)) n14)) n31 (v3, v5) = some M' → W p l e { frames := 4, cells := 0, slots := 0, locals := 94 } s m args below meth c H locs 0 0 (fm_Z below shM G args s none M') (F0 m 31 ls []) := by
            intro w31_v4 n31
            induction n31 with
            | zero => intro v3 v5 H locs ls E hl hf; exact fm_lp_0 hf
            | succ n31 ih31 =>
              intro v3 v5 H locs ls E hl hf
              have hf : pModel_layAgree_L31b N w14_M w3_v1 w14_v2 w31_v4 (fm_lp (pModel_layAgree_L3 N w3_v1) n3) (fm_lp (pModel_layAgree_L14 N w14_M w3_v1 w14_v2 (fm_lp (pModel_layAgree_L3 N w3_v1) n3)) n14) (fm_lp (pModel_layAgree_L31 N w14_M w3_v1 w14_v2 w31_v4 (fm_lp (pModel_layAgree_L3 N w3_v1) n3) (fm_lp (pModel_layAgree_L14 N w14_M w3_v1 w14_v2 (fm_lp (pModel_layAgree_L3 N w3_v1) n3)) n14)) n31) v3 v5 = some M' := hf
              unfold pModel_layAgree_L31b at hf
              refine lv_iload C.1 C.2.1 dX10_layAgree_31 (lv_at hl 5 rfl) ?_
              refine lv_aload_n C.1 C.2.1 dX10_layAgree_33 rfl (lv_at hl 0 rfl) ?_
              refine fm_getr C E lf_X10_9 hM_0 rfl dX10_layAgree_34 ?_
              refine lv_iconst (v := 0) C.1 C.2.1 dX10_layAgree_37 (by decide) ?_
              refine fm_ialdc C E 0 (by decide) hM_1 (by decide) dX10_layAgree_38 ?_
              refine lv_icmp_ge (tgt := 82) C.1 C.2.1 dX10_layAgree_39 (by decide) (fun hc39 => ?_) (fun hc39 => ?_)
              · have hf := fm_ip hf hc39
                refine fm_iinc C (v := 1) (lv' := [(4, .int _), (0, .ref _), (1, .int _), (2, .int _), (3, .int _), (5, .int _)]) (k := 4) hl rfl (by decide) (by decide) rfl dX10_layAgree_82 (fun ls hl => ?_)
                refine lv_goto (tgt := 14) C.1 C.2.1 dX10_layAgree_85 (by decide) ?_
                exact ih14 _ _ _ _ _ E (lv_sub hl [1, 2, 3, 4, 0] rfl) hf
              · have hf := fm_in' hf hc39
                refine lv_iload_n C.1 C.2.1 dX10_layAgree_42 rfl (lv_at hl 3 rfl) ?_
                refine lv_iload_n C.1 C.2.1 dX10_layAgree_43 rfl (lv_at hl 1 rfl) ?_
                refine lv_iload C.1 C.2.1 dX10_layAgree_44 (lv_at hl 4 rfl) ?_
                obtain ⟨x46, hc46, hf⟩ := fm_bd hf
                refine fm_callS C E [.int _, .int _] [.int _] lm_X10_194 wk_X10_has (c_Model_has l G _ _ _ _  hc46) rfl hl.1 (by simp [Value.category]) ⟨⟨rfl, rfl⟩, by decide, by decide⟩ ⟨by decide, by decide⟩ dX10_layAgree_46 rfl (fun H locs E => ?_)
                refine W.eq (g2 := F0 m 49 ls (.int x46 :: [.int _])) rfl ?_
                refine lv_if_eq (tgt := 73) C.1 C.2.1 dX10_layAgree_49 (by decide) (fun hc49 => ?_) (fun hc49 => ?_)
                · have hf := fm_ip hf hc49
                  refine lv_iconst (v := 0) C.1 C.2.1 dX10_layAgree_73 (by decide) ?_
                  refine lv_iadd C.1 C.2.1 dX10_layAgree_74 ?_
                  refine lv_istore_n (lv' := [(3, .int _), (0, .ref _), (1, .int _), (2, .int _), (4, .int _), (5, .int _)]) C.1 C.2.1 dX10_layAgree_75 rfl hl (by decide) rfl (fun ls hl => ?_)
                  refine fm_iinc C (v := 1) (lv' := [(5, .int _), (3, .int _), (0, .ref _), (1, .int _), (2, .int _), (4, .int _)]) (k := 5) hl rfl (by decide) (by decide) rfl dX10_layAgree_76 (fun ls hl => ?_)
                  refine lv_goto (tgt := 31) C.1 C.2.1 dX10_layAgree_79 (by decide) ?_
                  exact ih31 _ _ _ _ _ E (lv_sub hl [2, 3, 4, 1, 5, 0] rfl) hf
                · have hf := fm_in' hf hc49
                  refine lv_iload_n C.1 C.2.1 dX10_layAgree_52 rfl (lv_at hl 1 rfl) ?_
                  refine lv_iload C.1 C.2.1 dX10_layAgree_53 (lv_at hl 5 rfl) ?_
                  obtain ⟨x55, hc55, hf⟩ := fm_bd hf
                  refine fm_callS C E [.int _, .int _] [.int _] lm_X10_194 wk_X10_has (c_Model_has l G _ _ _ _  hc55) rfl hl.1 (by simp [Value.category]) ⟨⟨rfl, rfl⟩, by decide, by decide⟩ ⟨by decide, by decide⟩ dX10_layAgree_55 rfl (fun H locs E => ?_)
                  refine W.eq (g2 := F0 m 58 ls (.int x55 :: [.int _])) rfl ?_
                  refine lv_if_eq (tgt := 73) C.1 C.2.1 dX10_layAgree_58 (by decide) (fun hc58 => ?_) (fun hc58 => ?_)
                  · have hf := fm_ip hf hc58
                    refine lv_iconst (v := 0) C.1 C.2.1 dX10_layAgree_73 (by decide) ?_
                    refine lv_iadd C.1 C.2.1 dX10_layAgree_74 ?_
                    refine lv_istore_n (lv' := [(3, .int _), (0, .ref _), (1, .int _), (2, .int _), (4, .int _), (5, .int _)]) C.1 C.2.1 dX10_layAgree_75 rfl hl (by decide) rfl (fun ls hl => ?_)
                    refine fm_iinc C (v := 1) (lv' := [(5, .int _), (3, .int _), (0, .ref _), (1, .int _), (2, .int _), (4, .int _)]) (k := 5) hl rfl (by decide) (by decide) rfl dX10_layAgree_76 (fun ls hl => ?_)
                    refine lv_goto (tgt := 31) C.1 C.2.1 dX10_layAgree_79 (by decide) ?_
                    exact ih31 _ _ _ _ _ E (lv_sub hl [2, 3, 4, 1, 5, 0] rfl) hf
                  · have hf := fm_in' hf hc58
                    refine lv_aload_n C.1 C.2.1 dX10_layAgree_61 rfl (lv_at hl 0 rfl) ?_
                    refine lv_iload C.1 C.2.1 dX10_layAgree_62 (lv_at hl 4 rfl) ?_
                    refine lv_iload C.1 C.2.1 dX10_layAgree_64 (lv_at hl 5 rfl) ?_
                    refine lv_iload_n C.1 C.2.1 dX10_layAgree_66 rfl (lv_at hl 2 rfl) ?_
                    obtain ⟨x67, hc67, hf⟩ := fm_bd hf
                    refine fm_callV C E [.int _, .int _, .int _] [.int _] lm_X10_263 wk_X10_agreeOf (c_Model_agreeOf l G N _ _ _ _ _  hc67) hM_0 rfl rfl rfl hl.1 (by simp [Value.category]) ⟨⟨rfl, rfl⟩, by decide, by decide⟩ ⟨by decide, by decide⟩ dX10_layAgree_67 rfl (fun H locs E => ?_)
                    refine W.eq (g2 := F0 m 70 ls (.int x67 :: [.int _])) rfl ?_
                    refine lv_goto (tgt := 74) C.1 C.2.1 dX10_layAgree_70 (by decide) ?_
                    refine lv_iadd C.1 C.2.1 dX10_layAgree_74 ?_
                    refine lv_istore_n (lv' := [(3, .int _), (0, .ref _), (1, .int _), (2, .int _), (4, .int _), (5, .int _)]) C.1 C.2.1 dX10_layAgree_75 rfl hl (by decide) rfl (fun ls hl => ?_)
                    refine fm_iinc C (v := 1) (lv' := [(5, .int _), (3, .int _), (0, .ref _), (1, .int _), (2, .int _), (4, .int _)]) (k := 5) hl rfl (by decide) (by decide) rfl dX10_layAgree_76 (fun ls hl => ?_)
                    refine lv_goto (tgt := 31) C.1 C.2.1 dX10_layAgree_79 (by decide) ?_
                    exact ih31 _ _ _ _ _ E (lv_sub hl [2, 3, 4, 1, 5, 0] rfl) hf
          intro v3 v4 H locs ls E hl hf
          have hf : pModel_layAgree_L14b N w14_M w3_v1 w14_v2 (fm_lp (pModel_layAgree_L3 N w3_v1) n3) (fm_lp (pModel_layAgree_L14 N w14_M w3_v1 w14_v2 (fm_lp (pModel_layAgree_L3 N w3_v1) n3)) n14) v3 v4 = some M' := hf
          unfold pModel_layAgree_L14b at hf
          refine lv_iload C.1 C.2.1 dX10_layAgree_14 (lv_at hl 4 rfl) ?_
          refine lv_aload_n C.1 C.2.1 dX10_layAgree_16 rfl (lv_at hl 0 rfl) ?_
          refine fm_getr C E lf_X10_9 hM_0 rfl dX10_layAgree_17 ?_
          refine lv_iconst (v := 0) C.1 C.2.1 dX10_layAgree_20 (by decide) ?_
          refine fm_ialdc C E 0 (by decide) hM_1 (by decide) dX10_layAgree_21 ?_
          refine lv_icmp_ge (tgt := 88) C.1 C.2.1 dX10_layAgree_22 (by decide) (fun hc22 => ?_) (fun hc22 => ?_)
          · have hf := fm_ip hf hc22
            refine lv_aload_n C.1 C.2.1 dX10_layAgree_88 rfl (lv_at hl 0 rfl) ?_
            refine fm_getr C E lf_X10_52 hM_0 rfl dX10_layAgree_89 ?_
            refine lv_bipush (v := 8) C.1 C.2.1 dX10_layAgree_92 (by decide) ?_
            refine lv_iload_n C.1 C.2.1 dX10_layAgree_94 rfl (lv_at hl 2 rfl) ?_
            refine lv_iadd C.1 C.2.1 dX10_layAgree_95 ?_
            refine lv_iload_n C.1 C.2.1 dX10_layAgree_96 rfl (lv_at hl 3 rfl) ?_
            obtain ⟨h97, M97, e97, hf⟩ := fm_st_e hf
            refine fm_iast' C E e97 hM_11 h97 dX10_layAgree_97 (fun H locs E => ?_)
            refine fm_iinc C (v := 1) (lv' := [(2, .int _), (0, .ref _), (1, .int _), (3, .int _), (4, .int _)]) (k := 2) hl rfl (by decide) (by decide) rfl dX10_layAgree_98 (fun ls hl => ?_)
            refine lv_goto (tgt := 3) C.1 C.2.1 dX10_layAgree_101 (by decide) ?_
            exact ih3 _ _ _ _ _ E (lv_sub hl [1, 2, 0] rfl) hf
          · have hf := fm_in' hf hc22
            refine lv_iload C.1 C.2.1 dX10_layAgree_25 (lv_at hl 4 rfl) ?_
            refine lv_iconst (v := 1) C.1 C.2.1 dX10_layAgree_27 (by decide) ?_
            refine lv_iadd C.1 C.2.1 dX10_layAgree_28 ?_
            refine lv_istore (lv' := [(5, .int _), (0, .ref _), (1, .int _), (2, .int _), (3, .int _), (4, .int _)]) C.1 C.2.1 dX10_layAgree_29 hl (by decide) rfl (fun ls hl => ?_)
            exact L31 _ N _ _ _ _ _ E (lv_sub hl [1, 2, 3, 4, 5, 0] rfl) hf
      intro v2 M H locs ls E hl hf
      have hf : pModel_layAgree_L3b N w3_v1 (fm_lp (pModel_layAgree_L3 N w3_v1) n3) v2 M = some M' := hf
      unfold pModel_layAgree_L3b at hf
      refine lv_iload_n C.1 C.2.1 dX10_layAgree_3 rfl (lv_at hl 2 rfl) ?_
      refine lv_bipush (v := 8) C.1 C.2.1 dX10_layAgree_4 (by decide) ?_
      refine lv_icmp_gt (tgt := 104) C.1 C.2.1 dX10_layAgree_6 (by decide) (fun hc6 => ?_) (fun hc6 => ?_)
      · have hf := fm_ip hf hc6
        obtain rfl := fm_rt1 hf
        exact fm_vret C E rfl dX10_layAgree_104
      · have hf := fm_in' hf hc6
        refine lv_iconst (v := 0) C.1 C.2.1 dX10_layAgree_9 (by decide) ?_
        refine lv_istore_n (lv' := [(3, .int _), (0, .ref _), (1, .int _), (2, .int _)]) C.1 C.2.1 dX10_layAgree_10 rfl hl (by decide) rfl (fun ls hl => ?_)
        refine lv_iconst (v := 0) C.1 C.2.1 dX10_layAgree_11 (by decide) ?_
        refine lv_istore (lv' := [(4, .int _), (3, .int _), (0, .ref _), (1, .int _), (2, .int _)]) C.1 C.2.1 dX10_layAgree_12 hl (by decide) rfl (fun ls hl => ?_)
        exact L14 _ _ N _ _ _ _ _ E (lv_sub hl [2, 3, 4, 1, 0] rfl) hf
  unfold pModel_layAgree at hf
  refine lv_bipush (v := (-8)) C.1 C.2.1 dX10_layAgree_0 (by decide) ?_
  refine lv_istore_n (lv' := [(2, .int _), (0, .ref _), (1, .int _)]) C.1 C.2.1 dX10_layAgree_2 rfl hl (by decide) rfl (fun ls hl => ?_)
  exact L3 _ N _ _ _ _ _ E (lv_sub hl [1, 2, 0] rfl) hf
theorem dX10_doubtful_0 : decode cX10_doubtful 0 = .ok (.aload_n 0, 1) := by decide +kernel
theorem dX10_doubtful_1 : decode cX10_doubtful 1 = .ok (.iconst 0, 1) := by decide +kernel
theorem dX10_doubtful_2 : decode cX10_doubtful 2 = .ok (.putfield 77, 3) := by decide +kernel
theorem dX10_doubtful_5 : decode cX10_doubtful 5 = .ok (.aload_n 0, 1) := by decide +kernel
theorem dX10_doubtful_6 : decode cX10_doubtful 6 = .ok (.invokevirtual 204, 3) := by decide +kernel
theorem dX10_doubtful_9 : decode cX10_doubtful 9 = .ok (.istore_n 1, 1) := by decide +kernel
theorem dX10_doubtful_10 : decode cX10_doubtful 10 = .ok (.iload_n 1, 1) := by decide +kernel
theorem dX10_doubtful_11 : decode cX10_doubtful 11 = .ok (.invokestatic 198, 3) := by decide +kernel
theorem dX10_doubtful_14 : decode cX10_doubtful 14 = .ok (.iconst 2, 1) := by decide +kernel
theorem dX10_doubtful_15 : decode cX10_doubtful 15 = .ok (.if_icmp .ge 6, 3) := by decide +kernel
theorem dX10_doubtful_18 : decode cX10_doubtful 18 = .ok (.bipush (-2), 2) := by decide +kernel
theorem dX10_doubtful_20 : decode cX10_doubtful 20 = .ok (.ireturn, 1) := by decide +kernel
theorem dX10_doubtful_21 : decode cX10_doubtful 21 = .ok (.aload_n 0, 1) := by decide +kernel
theorem dX10_doubtful_22 : decode cX10_doubtful 22 = .ok (.invokevirtual 188, 3) := by decide +kernel
theorem dX10_doubtful_25 : decode cX10_doubtful 25 = .ok (.aload_n 0, 1) := by decide +kernel
theorem dX10_doubtful_26 : decode cX10_doubtful 26 = .ok (.iload_n 1, 1) := by decide +kernel
theorem dX10_doubtful_27 : decode cX10_doubtful 27 = .ok (.invokevirtual 272, 3) := by decide +kernel
theorem dX10_doubtful_30 : decode cX10_doubtful 30 = .ok (.iconst 0, 1) := by decide +kernel
theorem dX10_doubtful_31 : decode cX10_doubtful 31 = .ok (.istore_n 2, 1) := by decide +kernel
theorem dX10_doubtful_32 : decode cX10_doubtful 32 = .ok (.iconst 0, 1) := by decide +kernel
theorem dX10_doubtful_33 : decode cX10_doubtful 33 = .ok (.istore_n 3, 1) := by decide +kernel
theorem dX10_doubtful_34 : decode cX10_doubtful 34 = .ok (.iload_n 3, 1) := by decide +kernel
theorem dX10_doubtful_35 : decode cX10_doubtful 35 = .ok (.bipush 16, 2) := by decide +kernel
theorem dX10_doubtful_37 : decode cX10_doubtful 37 = .ok (.if_icmp .gt 20, 3) := by decide +kernel
theorem dX10_doubtful_40 : decode cX10_doubtful 40 = .ok (.iload_n 2, 1) := by decide +kernel
theorem dX10_doubtful_41 : decode cX10_doubtful 41 = .ok (.aload_n 0, 1) := by decide +kernel
theorem dX10_doubtful_42 : decode cX10_doubtful 42 = .ok (.getfield 52, 3) := by decide +kernel
theorem dX10_doubtful_45 : decode cX10_doubtful 45 = .ok (.iload_n 3, 1) := by decide +kernel
theorem dX10_doubtful_46 : decode cX10_doubtful 46 = .ok (.iaload, 1) := by decide +kernel
theorem dX10_doubtful_47 : decode cX10_doubtful 47 = .ok (.invokestatic 147, 3) := by decide +kernel
theorem dX10_doubtful_50 : decode cX10_doubtful 50 = .ok (.istore_n 2, 1) := by decide +kernel
theorem dX10_doubtful_51 : decode cX10_doubtful 51 = .ok (.iinc 3 1, 3) := by decide +kernel
theorem dX10_doubtful_54 : decode cX10_doubtful 54 = .ok (.goto (-20), 3) := by decide +kernel
theorem dX10_doubtful_57 : decode cX10_doubtful 57 = .ok (.aload_n 0, 1) := by decide +kernel
theorem dX10_doubtful_58 : decode cX10_doubtful 58 = .ok (.iconst 0, 1) := by decide +kernel
theorem dX10_doubtful_59 : decode cX10_doubtful 59 = .ok (.putfield 80, 3) := by decide +kernel
theorem dX10_doubtful_62 : decode cX10_doubtful 62 = .ok (.iconst 0, 1) := by decide +kernel
theorem dX10_doubtful_63 : decode cX10_doubtful 63 = .ok (.istore_n 3, 1) := by decide +kernel
theorem dX10_doubtful_64 : decode cX10_doubtful 64 = .ok (.iload_n 3, 1) := by decide +kernel
theorem dX10_doubtful_65 : decode cX10_doubtful 65 = .ok (.bipush 16, 2) := by decide +kernel
theorem dX10_doubtful_67 : decode cX10_doubtful 67 = .ok (.if_icmp .gt 25, 3) := by decide +kernel
theorem dX10_doubtful_70 : decode cX10_doubtful 70 = .ok (.aload_n 0, 1) := by decide +kernel
theorem dX10_doubtful_71 : decode cX10_doubtful 71 = .ok (.getfield 52, 3) := by decide +kernel
theorem dX10_doubtful_74 : decode cX10_doubtful 74 = .ok (.iload_n 3, 1) := by decide +kernel
theorem dX10_doubtful_75 : decode cX10_doubtful 75 = .ok (.iaload, 1) := by decide +kernel
theorem dX10_doubtful_76 : decode cX10_doubtful 76 = .ok (.iload_n 2, 1) := by decide +kernel
theorem dX10_doubtful_77 : decode cX10_doubtful 77 = .ok (.if_icmp .ne 9, 3) := by decide +kernel
theorem dX10_doubtful_80 : decode cX10_doubtful 80 = .ok (.aload_n 0, 1) := by decide +kernel
theorem dX10_doubtful_81 : decode cX10_doubtful 81 = .ok (.iload_n 3, 1) := by decide +kernel
theorem dX10_doubtful_82 : decode cX10_doubtful 82 = .ok (.i2l, 1) := by decide +kernel
theorem dX10_doubtful_83 : decode cX10_doubtful 83 = .ok (.invokevirtual 245, 3) := by decide +kernel
theorem dX10_doubtful_86 : decode cX10_doubtful 86 = .ok (.iinc 3 1, 3) := by decide +kernel
theorem dX10_doubtful_89 : decode cX10_doubtful 89 = .ok (.goto (-25), 3) := by decide +kernel
theorem dX10_doubtful_92 : decode cX10_doubtful 92 = .ok (.aload_n 0, 1) := by decide +kernel
theorem dX10_doubtful_93 : decode cX10_doubtful 93 = .ok (.getfield 80, 3) := by decide +kernel
theorem dX10_doubtful_96 : decode cX10_doubtful 96 = .ok (.ireturn, 1) := by decide +kernel
set_option maxHeartbeats 4000000 in
set_option maxRecDepth 100000 in
theorem c_Model_doubtful (l : Launch) (G : fm_G) (N : Nat) (M : fm_M) (r : Int32) (M' : fm_M) (hf : pModel_doubtful N M = some (r, M')) : fm_Met l yX10_doubtful cX10_doubtful 4 (some .int) { frames := 5, cells := 0, slots := 0, locals := 119 } shM G [.ref (G.2.1 0)] M (some (.int r)) M' := by
  refine fm_enter (by decide) (Nat.le_of_ble_eq_true rfl) ?_
  intro p e s m args below meth c ls C E hl
  have hl : lv_has ls 4 [(0, .ref (G.2.1 0))] := hl
  have L64 : ∀ (w64_v2 : Int32) (n64 : Nat) (v3 : Int32) (M : fm_M) (H : Heap) (locs : List Loc) (ls : Array Slot), fm_Wd shM G M s H locs → lv_has ls 4 [(0, .ref (G.2.1 0)), (2, .int w64_v2), (3, .int v3)] → fm_lp (pModel_doubtful_L64 N w64_v2) n64 (v3, M) = some (r, M') → W p l e { frames := 5, cells := 0, slots := 0, locals := 119 } s m args below meth c H locs 0 0 (fm_Z below shM G args s (some (.int r)) M') (F0 m 64 ls []) := by
    intro w64_v2 n64
    induction n64 with
    | zero => intro v3 M H locs ls E hl hf; exact fm_lp_0 hf
    | succ n64 ih64 =>
      intro v3 M H locs ls E hl hf
      have hf : pModel_doubtful_L64b N w64_v2 (fm_lp (pModel_doubtful_L64 N w64_v2) n64) v3 M = some (r, M') := hf
      unfold pModel_doubtful_L64b at hf
      refine lv_iload_n C.1 C.2.1 dX10_doubtful_64 rfl (lv_at hl 2 rfl) ?_
      refine lv_bipush (v := 16) C.1 C.2.1 dX10_doubtful_65 (by decide) ?_
      refine lv_icmp_gt (tgt := 92) C.1 C.2.1 dX10_doubtful_67 (by decide) (fun hc67 => ?_) (fun hc67 => ?_)
      · have hf := fm_ip hf hc67
        refine lv_aload_n C.1 C.2.1 dX10_doubtful_92 rfl (lv_at hl 0 rfl) ?_
        refine fm_geti C E lf_X10_80 hM_0 rfl dX10_doubtful_93 ?_
        obtain ⟨rfl, rfl⟩ := fm_rt2 hf
        exact fm_iret C E rfl rfl dX10_doubtful_96
      · have hf := fm_in' hf hc67
        refine lv_aload_n C.1 C.2.1 dX10_doubtful_70 rfl (lv_at hl 0 rfl) ?_
        refine fm_getr C E lf_X10_52 hM_0 rfl dX10_doubtful_71 ?_
        refine lv_iload_n C.1 C.2.1 dX10_doubtful_74 rfl (lv_at hl 2 rfl) ?_
        obtain ⟨h75, x75, e75, hf⟩ := fm_ld_e hf
        refine fm_iald' C E e75 hM_11 h75 dX10_doubtful_75 ?_
        refine lv_iload_n C.1 C.2.1 dX10_doubtful_76 rfl (lv_at hl 1 rfl) ?_
        refine lv_icmp_ne (tgt := 86) C.1 C.2.1 dX10_doubtful_77 (by decide) (fun hc77 => ?_) (fun hc77 => ?_)
        · have hf := fm_in' hf hc77
          refine fm_iinc C (v := 1) (lv' := [(3, .int _), (0, .ref _), (2, .int _)]) (k := 2) hl rfl (by decide) (by decide) rfl dX10_doubtful_86 (fun ls hl => ?_)
          refine lv_goto (tgt := 64) C.1 C.2.1 dX10_doubtful_89 (by decide) ?_
          exact ih64 _ _ _ _ _ E (lv_sub hl [1, 2, 0] rfl) hf
        · have hf := fm_ip hf hc77
          refine lv_aload_n C.1 C.2.1 dX10_doubtful_80 rfl (lv_at hl 0 rfl) ?_
          refine lv_iload_n C.1 C.2.1 dX10_doubtful_81 rfl (lv_at hl 2 rfl) ?_
          refine lv_i2l C.1 C.2.1 dX10_doubtful_82 rfl ?_
          obtain ⟨M83, hc83, hf⟩ := fm_bd hf
          refine fm_callV C E [.long _] [] lm_X10_245 wk_X10_tell (c_Model_tell l G _ _ _ hc83) hM_0 rfl rfl rfl hl.1 (by simp [Value.category]) ⟨⟨rfl, rfl⟩, by decide, by decide⟩ ⟨by decide, by decide⟩ dX10_doubtful_83 rfl (fun H locs E => ?_)
          refine W.eq (g2 := F0 m 86 ls []) rfl ?_
          refine fm_iinc C (v := 1) (lv' := [(3, .int _), (0, .ref _), (2, .int _)]) (k := 2) hl rfl (by decide) (by decide) rfl dX10_doubtful_86 (fun ls hl => ?_)
          refine lv_goto (tgt := 64) C.1 C.2.1 dX10_doubtful_89 (by decide) ?_
          exact ih64 _ _ _ _ _ E (lv_sub hl [1, 2, 0] rfl) hf
  have L34 : ∀ (w34_M : fm_M) (n34 : Nat) (v2 : Int32) (v3 : Int32) (H : Heap) (locs : List Loc) (ls : Array Slot), fm_Wd shM G w34_M s H locs → lv_has ls 4 [(0, .ref (G.2.1 0)), (2, .int v2), (3, .int v3)] → fm_lp (pModel_doubtful_L34 N w34_M) n34 (v2, v3) = some (r, M') → W p l e { frames := 5, cells := 0, slots := 0, locals := 119 } s m args below meth c H locs 0 0 (fm_Z below shM G args s (some (.int r)) M') (F0 m 34 ls []) := by
    intro w34_M n34
    induction n34 with
    | zero => intro v2 v3 H locs ls E hl hf; exact fm_lp_0 hf
    | succ n34 ih34 =>
      intro v2 v3 H locs ls E hl hf
      have hf : pModel_doubtful_L34b N w34_M (fm_lp (pModel_doubtful_L34 N w34_M) n34) v2 v3 = some (r, M') := hf
      unfold pModel_doubtful_L34b at hf
      refine lv_iload_n C.1 C.2.1 dX10_doubtful_34 rfl (lv_at hl 2 rfl) ?_
      refine lv_bipush (v := 16) C.1 C.2.1 dX10_doubtful_35 (by decide) ?_
      refine lv_icmp_gt (tgt := 57) C.1 C.2.1 dX10_doubtful_37 (by decide) (fun hc37 => ?_) (fun hc37 => ?_)
      · have hf := fm_ip hf hc37
        refine lv_aload_n C.1 C.2.1 dX10_doubtful_57 rfl (lv_at hl 0 rfl) ?_
        refine lv_iconst (v := 0) C.1 C.2.1 dX10_doubtful_58 (by decide) ?_
        obtain ⟨M59, e59, hf⟩ := fm_pt_s hf
        refine fm_put' C E e59 lp_X10_80 hM_0 rfl dX10_doubtful_59 (fun H locs E => ?_)
        refine lv_iconst (v := 0) C.1 C.2.1 dX10_doubtful_62 (by decide) ?_
        refine lv_istore_n (lv' := [(3, .int _), (0, .ref _), (2, .int _)]) C.1 C.2.1 dX10_doubtful_63 rfl hl (by decide) rfl (fun ls hl => ?_)
        exact L64 _ N _ _ _ _ _ E (lv_sub hl [1, 2, 0] rfl) hf
      · have hf := fm_in' hf hc37
        refine lv_iload_n C.1 C.2.1 dX10_doubtful_40 rfl (lv_at hl 1 rfl) ?_
        refine lv_aload_n C.1 C.2.1 dX10_doubtful_41 rfl (lv_at hl 0 rfl) ?_
        refine fm_getr C E lf_X10_52 hM_0 rfl dX10_doubtful_42 ?_
        refine lv_iload_n C.1 C.2.1 dX10_doubtful_45 rfl (lv_at hl 2 rfl) ?_
        obtain ⟨h46, x46, e46, hf⟩ := fm_ld_e hf
        refine fm_iald' C E e46 hM_11 h46 dX10_doubtful_46 ?_
        refine fm_max C wv_max wm_1284 hl.1 ⟨by decide, by decide⟩ (by simp [Value.category]) ⟨by decide, by decide⟩ dX10_doubtful_47 ?_
        refine lv_istore_n (lv' := [(2, .int _), (0, .ref _), (3, .int _)]) C.1 C.2.1 dX10_doubtful_50 rfl hl (by decide) rfl (fun ls hl => ?_)
        refine fm_iinc C (v := 1) (lv' := [(3, .int _), (2, .int _), (0, .ref _)]) (k := 2) hl rfl (by decide) (by decide) rfl dX10_doubtful_51 (fun ls hl => ?_)
        refine lv_goto (tgt := 34) C.1 C.2.1 dX10_doubtful_54 (by decide) ?_
        exact ih34 _ _ _ _ _ E (lv_sub hl [2, 1, 0] rfl) hf
  unfold pModel_doubtful at hf
  refine lv_aload_n C.1 C.2.1 dX10_doubtful_0 rfl (lv_at hl 0 rfl) ?_
  refine lv_iconst (v := 0) C.1 C.2.1 dX10_doubtful_1 (by decide) ?_
  obtain ⟨M2, e2, hf⟩ := fm_pt_s hf
  refine fm_put' C E e2 lp_X10_77 hM_0 rfl dX10_doubtful_2 (fun H locs E => ?_)
  refine lv_aload_n C.1 C.2.1 dX10_doubtful_5 rfl (lv_at hl 0 rfl) ?_
  obtain ⟨x6, hc6, hf⟩ := fm_bd hf
  refine fm_callV C E [] [] lm_X10_204 wk_X10_liveBits (c_Model_liveBits l G N _ _  hc6) hM_0 rfl rfl rfl hl.1 (by simp [Value.category]) ⟨⟨rfl, rfl⟩, by decide, by decide⟩ ⟨by decide, by decide⟩ dX10_doubtful_6 rfl (fun H locs E => ?_)
  refine W.eq (g2 := F0 m 9 ls (.int x6 :: [])) rfl ?_
  refine lv_istore_n (lv' := [(1, .int _), (0, .ref _)]) C.1 C.2.1 dX10_doubtful_9 rfl hl (by decide) rfl (fun ls hl => ?_)
  refine lv_iload_n C.1 C.2.1 dX10_doubtful_10 rfl (lv_at hl 0 rfl) ?_
  obtain ⟨x11, hc11, hf⟩ := fm_bd hf
  refine fm_callS C E [.int _] [] lm_X10_198 wk_X10_countBits (c_Model_countBits l G N _ _ _  hc11) rfl hl.1 (by simp [Value.category]) ⟨⟨rfl, rfl⟩, by decide, by decide⟩ ⟨by decide, by decide⟩ dX10_doubtful_11 rfl (fun H locs E => ?_)
  refine W.eq (g2 := F0 m 14 ls (.int x11 :: [])) rfl ?_
  refine lv_iconst (v := 2) C.1 C.2.1 dX10_doubtful_14 (by decide) ?_
  refine lv_icmp_ge (tgt := 21) C.1 C.2.1 dX10_doubtful_15 (by decide) (fun hc15 => ?_) (fun hc15 => ?_)
  · have hf := fm_ip hf hc15
    refine lv_aload_n C.1 C.2.1 dX10_doubtful_21 rfl (lv_at hl 1 rfl) ?_
    obtain ⟨M22, hc22, hf⟩ := fm_bd hf
    refine fm_callV C E [] [] lm_X10_188 wk_X10_hear (c_Model_hear l G N _ _ hc22) hM_0 rfl rfl rfl hl.1 (by simp [Value.category]) ⟨⟨rfl, rfl⟩, by decide, by decide⟩ ⟨by decide, by decide⟩ dX10_doubtful_22 rfl (fun H locs E => ?_)
    refine W.eq (g2 := F0 m 25 ls []) rfl ?_
    refine lv_aload_n C.1 C.2.1 dX10_doubtful_25 rfl (lv_at hl 1 rfl) ?_
    refine lv_iload_n C.1 C.2.1 dX10_doubtful_26 rfl (lv_at hl 0 rfl) ?_
    obtain ⟨M27, hc27, hf⟩ := fm_bd hf
    refine fm_callV C E [.int _] [] lm_X10_272 wk_X10_layAgree (c_Model_layAgree l G N _ _ _ hc27) hM_0 rfl rfl rfl hl.1 (by simp [Value.category]) ⟨⟨rfl, rfl⟩, by decide, by decide⟩ ⟨by decide, by decide⟩ dX10_doubtful_27 rfl (fun H locs E => ?_)
    refine W.eq (g2 := F0 m 30 ls []) rfl ?_
    refine lv_iconst (v := 0) C.1 C.2.1 dX10_doubtful_30 (by decide) ?_
    refine lv_istore_n (lv' := [(2, .int _), (1, .int _), (0, .ref _)]) C.1 C.2.1 dX10_doubtful_31 rfl hl (by decide) rfl (fun ls hl => ?_)
    refine lv_iconst (v := 0) C.1 C.2.1 dX10_doubtful_32 (by decide) ?_
    refine lv_istore_n (lv' := [(3, .int _), (2, .int _), (1, .int _), (0, .ref _)]) C.1 C.2.1 dX10_doubtful_33 rfl hl (by decide) rfl (fun ls hl => ?_)
    exact L34 _ N _ _ _ _ _ E (lv_sub hl [3, 1, 0] rfl) hf
  · have hf := fm_in' hf hc15
    refine lv_bipush (v := (-2)) C.1 C.2.1 dX10_doubtful_18 (by decide) ?_
    obtain ⟨rfl, rfl⟩ := fm_rt2 hf
    exact fm_iret C E rfl rfl dX10_doubtful_20
theorem dX10_tracks_0 : decode cX10_tracks 0 = .ok (.aload_n 0, 1) := by decide +kernel
theorem dX10_tracks_1 : decode cX10_tracks 1 = .ok (.iconst 0, 1) := by decide +kernel
theorem dX10_tracks_2 : decode cX10_tracks 2 = .ok (.putfield 77, 3) := by decide +kernel
theorem dX10_tracks_5 : decode cX10_tracks 5 = .ok (.iload_n 1, 1) := by decide +kernel
theorem dX10_tracks_6 : decode cX10_tracks 6 = .ok (.iconst 1, 1) := by decide +kernel
theorem dX10_tracks_7 : decode cX10_tracks 7 = .ok (.bipush 12, 2) := by decide +kernel
theorem dX10_tracks_9 : decode cX10_tracks 9 = .ok (.invokestatic 83, 3) := by decide +kernel
theorem dX10_tracks_12 : decode cX10_tracks 12 = .ok (.ifCond .eq 28, 3) := by decide +kernel
theorem dX10_tracks_15 : decode cX10_tracks 15 = .ok (.aload_n 0, 1) := by decide +kernel
theorem dX10_tracks_16 : decode cX10_tracks 16 = .ok (.getfield 9, 3) := by decide +kernel
theorem dX10_tracks_19 : decode cX10_tracks 19 = .ok (.bipush 38, 2) := by decide +kernel
theorem dX10_tracks_21 : decode cX10_tracks 21 = .ok (.iaload, 1) := by decide +kernel
theorem dX10_tracks_22 : decode cX10_tracks 22 = .ok (.iload_n 1, 1) := by decide +kernel
theorem dX10_tracks_23 : decode cX10_tracks 23 = .ok (.iconst 1, 1) := by decide +kernel
theorem dX10_tracks_24 : decode cX10_tracks 24 = .ok (.isub, 1) := by decide +kernel
theorem dX10_tracks_25 : decode cX10_tracks 25 = .ok (.aload_n 0, 1) := by decide +kernel
theorem dX10_tracks_26 : decode cX10_tracks 26 = .ok (.getfield 9, 3) := by decide +kernel
theorem dX10_tracks_29 : decode cX10_tracks 29 = .ok (.bipush 39, 2) := by decide +kernel
theorem dX10_tracks_31 : decode cX10_tracks 31 = .ok (.iaload, 1) := by decide +kernel
theorem dX10_tracks_32 : decode cX10_tracks 32 = .ok (.imul, 1) := by decide +kernel
theorem dX10_tracks_33 : decode cX10_tracks 33 = .ok (.iadd, 1) := by decide +kernel
theorem dX10_tracks_34 : decode cX10_tracks 34 = .ok (.sipush 200, 3) := by decide +kernel
theorem dX10_tracks_37 : decode cX10_tracks 37 = .ok (.if_icmp .le 5, 3) := by decide +kernel
theorem dX10_tracks_40 : decode cX10_tracks 40 = .ok (.iconst (-1), 1) := by decide +kernel
theorem dX10_tracks_41 : decode cX10_tracks 41 = .ok (.ireturn, 1) := by decide +kernel
theorem dX10_tracks_42 : decode cX10_tracks 42 = .ok (.aload_n 0, 1) := by decide +kernel
theorem dX10_tracks_43 : decode cX10_tracks 43 = .ok (.invokevirtual 204, 3) := by decide +kernel
theorem dX10_tracks_46 : decode cX10_tracks 46 = .ok (.istore_n 2, 1) := by decide +kernel
theorem dX10_tracks_47 : decode cX10_tracks 47 = .ok (.iload_n 2, 1) := by decide +kernel
theorem dX10_tracks_48 : decode cX10_tracks 48 = .ok (.invokestatic 198, 3) := by decide +kernel
theorem dX10_tracks_51 : decode cX10_tracks 51 = .ok (.iconst 2, 1) := by decide +kernel
theorem dX10_tracks_52 : decode cX10_tracks 52 = .ok (.if_icmp .ge 6, 3) := by decide +kernel
theorem dX10_tracks_55 : decode cX10_tracks 55 = .ok (.bipush (-2), 2) := by decide +kernel
theorem dX10_tracks_57 : decode cX10_tracks 57 = .ok (.ireturn, 1) := by decide +kernel
theorem dX10_tracks_58 : decode cX10_tracks 58 = .ok (.aload_n 0, 1) := by decide +kernel
theorem dX10_tracks_59 : decode cX10_tracks 59 = .ok (.invokevirtual 188, 3) := by decide +kernel
theorem dX10_tracks_62 : decode cX10_tracks 62 = .ok (.aload_n 0, 1) := by decide +kernel
theorem dX10_tracks_63 : decode cX10_tracks 63 = .ok (.getfield 9, 3) := by decide +kernel
theorem dX10_tracks_66 : decode cX10_tracks 66 = .ok (.bipush 38, 2) := by decide +kernel
theorem dX10_tracks_68 : decode cX10_tracks 68 = .ok (.iaload, 1) := by decide +kernel
theorem dX10_tracks_69 : decode cX10_tracks 69 = .ok (.istore_n 3, 1) := by decide +kernel
theorem dX10_tracks_70 : decode cX10_tracks 70 = .ok (.iconst 0, 1) := by decide +kernel
theorem dX10_tracks_71 : decode cX10_tracks 71 = .ok (.istore 4, 2) := by decide +kernel
theorem dX10_tracks_73 : decode cX10_tracks 73 = .ok (.aload_n 0, 1) := by decide +kernel
theorem dX10_tracks_74 : decode cX10_tracks 74 = .ok (.iconst 0, 1) := by decide +kernel
theorem dX10_tracks_75 : decode cX10_tracks 75 = .ok (.putfield 80, 3) := by decide +kernel
theorem dX10_tracks_78 : decode cX10_tracks 78 = .ok (.iconst 0, 1) := by decide +kernel
theorem dX10_tracks_79 : decode cX10_tracks 79 = .ok (.istore 5, 2) := by decide +kernel
theorem dX10_tracks_81 : decode cX10_tracks 81 = .ok (.iload 5, 2) := by decide +kernel
theorem dX10_tracks_83 : decode cX10_tracks 83 = .ok (.iload_n 1, 1) := by decide +kernel
theorem dX10_tracks_84 : decode cX10_tracks 84 = .ok (.if_icmp .ge 76, 3) := by decide +kernel
theorem dX10_tracks_87 : decode cX10_tracks 87 = .ok (.aload_n 0, 1) := by decide +kernel
theorem dX10_tracks_88 : decode cX10_tracks 88 = .ok (.getfield 9, 3) := by decide +kernel
theorem dX10_tracks_91 : decode cX10_tracks 91 = .ok (.bipush 38, 2) := by decide +kernel
theorem dX10_tracks_93 : decode cX10_tracks 93 = .ok (.iload_n 3, 1) := by decide +kernel
theorem dX10_tracks_94 : decode cX10_tracks 94 = .ok (.iload 5, 2) := by decide +kernel
theorem dX10_tracks_96 : decode cX10_tracks 96 = .ok (.aload_n 0, 1) := by decide +kernel
theorem dX10_tracks_97 : decode cX10_tracks 97 = .ok (.getfield 9, 3) := by decide +kernel
theorem dX10_tracks_100 : decode cX10_tracks 100 = .ok (.bipush 39, 2) := by decide +kernel
theorem dX10_tracks_102 : decode cX10_tracks 102 = .ok (.iaload, 1) := by decide +kernel
theorem dX10_tracks_103 : decode cX10_tracks 103 = .ok (.imul, 1) := by decide +kernel
theorem dX10_tracks_104 : decode cX10_tracks 104 = .ok (.iadd, 1) := by decide +kernel
theorem dX10_tracks_105 : decode cX10_tracks 105 = .ok (.iastore, 1) := by decide +kernel
theorem dX10_tracks_106 : decode cX10_tracks 106 = .ok (.aload_n 0, 1) := by decide +kernel
theorem dX10_tracks_107 : decode cX10_tracks 107 = .ok (.bipush 8, 2) := by decide +kernel
theorem dX10_tracks_109 : decode cX10_tracks 109 = .ok (.aload_n 0, 1) := by decide +kernel
theorem dX10_tracks_110 : decode cX10_tracks 110 = .ok (.iload_n 2, 1) := by decide +kernel
theorem dX10_tracks_111 : decode cX10_tracks 111 = .ok (.invokevirtual 269, 3) := by decide +kernel
theorem dX10_tracks_114 : decode cX10_tracks 114 = .ok (.iadd, 1) := by decide +kernel
theorem dX10_tracks_115 : decode cX10_tracks 115 = .ok (.i2l, 1) := by decide +kernel
theorem dX10_tracks_116 : decode cX10_tracks 116 = .ok (.invokevirtual 245, 3) := by decide +kernel
theorem dX10_tracks_119 : decode cX10_tracks 119 = .ok (.iload 4, 2) := by decide +kernel
theorem dX10_tracks_121 : decode cX10_tracks 121 = .ok (.iload 5, 2) := by decide +kernel
theorem dX10_tracks_123 : decode cX10_tracks 123 = .ok (.ifCond .le 27, 3) := by decide +kernel
theorem dX10_tracks_126 : decode cX10_tracks 126 = .ok (.aload_n 0, 1) := by decide +kernel
theorem dX10_tracks_127 : decode cX10_tracks 127 = .ok (.getfield 17, 3) := by decide +kernel
theorem dX10_tracks_130 : decode cX10_tracks 130 = .ok (.iload 5, 2) := by decide +kernel
theorem dX10_tracks_132 : decode cX10_tracks 132 = .ok (.laload, 1) := by decide +kernel
theorem dX10_tracks_133 : decode cX10_tracks 133 = .ok (.aload_n 0, 1) := by decide +kernel
theorem dX10_tracks_134 : decode cX10_tracks 134 = .ok (.getfield 17, 3) := by decide +kernel
theorem dX10_tracks_137 : decode cX10_tracks 137 = .ok (.iload 5, 2) := by decide +kernel
theorem dX10_tracks_139 : decode cX10_tracks 139 = .ok (.iconst 1, 1) := by decide +kernel
theorem dX10_tracks_140 : decode cX10_tracks 140 = .ok (.isub, 1) := by decide +kernel
theorem dX10_tracks_141 : decode cX10_tracks 141 = .ok (.laload, 1) := by decide +kernel
theorem dX10_tracks_142 : decode cX10_tracks 142 = .ok (.lcmp, 1) := by decide +kernel
theorem dX10_tracks_143 : decode cX10_tracks 143 = .ok (.ifCond .eq 7, 3) := by decide +kernel
theorem dX10_tracks_146 : decode cX10_tracks 146 = .ok (.iconst 1, 1) := by decide +kernel
theorem dX10_tracks_147 : decode cX10_tracks 147 = .ok (.goto 4, 3) := by decide +kernel
theorem dX10_tracks_150 : decode cX10_tracks 150 = .ok (.iconst 0, 1) := by decide +kernel
theorem dX10_tracks_151 : decode cX10_tracks 151 = .ok (.iadd, 1) := by decide +kernel
theorem dX10_tracks_152 : decode cX10_tracks 152 = .ok (.istore 4, 2) := by decide +kernel
theorem dX10_tracks_154 : decode cX10_tracks 154 = .ok (.iinc 5 1, 3) := by decide +kernel
theorem dX10_tracks_157 : decode cX10_tracks 157 = .ok (.goto (-76), 3) := by decide +kernel
theorem dX10_tracks_160 : decode cX10_tracks 160 = .ok (.aload_n 0, 1) := by decide +kernel
theorem dX10_tracks_161 : decode cX10_tracks 161 = .ok (.getfield 9, 3) := by decide +kernel
theorem dX10_tracks_164 : decode cX10_tracks 164 = .ok (.bipush 38, 2) := by decide +kernel
theorem dX10_tracks_166 : decode cX10_tracks 166 = .ok (.iload_n 3, 1) := by decide +kernel
theorem dX10_tracks_167 : decode cX10_tracks 167 = .ok (.iastore, 1) := by decide +kernel
theorem dX10_tracks_168 : decode cX10_tracks 168 = .ok (.iload 4, 2) := by decide +kernel
theorem dX10_tracks_170 : decode cX10_tracks 170 = .ok (.ireturn, 1) := by decide +kernel
set_option maxHeartbeats 4000000 in
set_option maxRecDepth 100000 in
theorem c_Model_tracks (l : Launch) (G : fm_G) (N : Nat) (M : fm_M) (v1 : Int32) (r : Int32) (M' : fm_M) (hf : pModel_tracks N M v1 = some (r, M')) : fm_Met l yX10_tracks cX10_tracks 6 (some .int) { frames := 5, cells := 0, slots := 0, locals := 120 } shM G [.ref (G.2.1 0), .int v1] M (some (.int r)) M' := by
  refine fm_enter (by decide) (Nat.le_of_ble_eq_true rfl) ?_
  intro p e s m args below meth c ls C E hl
  have hl : lv_has ls 6 [(0, .ref (G.2.1 0)), (1, .int v1)] := hl
  have L81 : ∀ (w81_v1 : Int32) (w81_v2 : Int32) (w81_v3 : Int32) (n81 : Nat) (v4 : Int32) (v5 : Int32) (M : fm_M) (H : Heap) (locs : List Loc) (ls : Array Slot), fm_Wd shM G M s H locs → lv_has ls 6 [(0, .ref (G.2.1 0)), (1, .int w81_v1), (2, .int w81_v2), (3, .int w81_v3), (4, .int v4), (5, .int v5)] → fm_lp (pModel_tracks_L81 N w81_v1 w81_v2 w81_v3) n81 (v4, v5, M) = some (r, M') → W p l e { frames := 5, cells := 0, slots := 0, locals := 120 } s m args below meth c H locs 0 0 (fm_Z below shM G args s (some (.int r)) M') (F0 m 81 ls []) := by
    intro w81_v1 w81_v2 w81_v3 n81
    induction n81 with
    | zero => intro v4 v5 M H locs ls E hl hf; exact fm_lp_0 hf
    | succ n81 ih81 =>
      intro v4 v5 M H locs ls E hl hf
      have hf : pModel_tracks_L81b N w81_v1 w81_v2 w81_v3 (fm_lp (pModel_tracks_L81 N w81_v1 w81_v2 w81_v3) n81) v4 v5 M = some (r, M') := hf
      unfold pModel_tracks_L81b at hf
      refine lv_iload C.1 C.2.1 dX10_tracks_81 (lv_at hl 5 rfl) ?_
      refine lv_iload_n C.1 C.2.1 dX10_tracks_83 rfl (lv_at hl 1 rfl) ?_
      refine lv_icmp_ge (tgt := 160) C.1 C.2.1 dX10_tracks_84 (by decide) (fun hc84 => ?_) (fun hc84 => ?_)
      · have hf := fm_ip hf hc84
        refine lv_aload_n C.1 C.2.1 dX10_tracks_160 rfl (lv_at hl 0 rfl) ?_
        refine fm_getr C E lf_X10_9 hM_0 rfl dX10_tracks_161 ?_
        refine lv_bipush (v := 38) C.1 C.2.1 dX10_tracks_164 (by decide) ?_
        refine lv_iload_n C.1 C.2.1 dX10_tracks_166 rfl (lv_at hl 3 rfl) ?_
        obtain ⟨M167, e167, hf⟩ := fm_pt_s hf
        refine fm_iastc' C E 38 (by decide) e167 hM_1 (by decide) dX10_tracks_167 (fun H locs E => ?_)
        refine lv_iload C.1 C.2.1 dX10_tracks_168 (lv_at hl 4 rfl) ?_
        obtain ⟨rfl, rfl⟩ := fm_rt2 hf
        exact fm_iret C E rfl rfl dX10_tracks_170
      · have hf := fm_in' hf hc84
        refine lv_aload_n C.1 C.2.1 dX10_tracks_87 rfl (lv_at hl 0 rfl) ?_
        refine fm_getr C E lf_X10_9 hM_0 rfl dX10_tracks_88 ?_
        refine lv_bipush (v := 38) C.1 C.2.1 dX10_tracks_91 (by decide) ?_
        refine lv_iload_n C.1 C.2.1 dX10_tracks_93 rfl (lv_at hl 3 rfl) ?_
        refine lv_iload C.1 C.2.1 dX10_tracks_94 (lv_at hl 5 rfl) ?_
        refine lv_aload_n C.1 C.2.1 dX10_tracks_96 rfl (lv_at hl 0 rfl) ?_
        refine fm_getr C E lf_X10_9 hM_0 rfl dX10_tracks_97 ?_
        refine lv_bipush (v := 39) C.1 C.2.1 dX10_tracks_100 (by decide) ?_
        refine fm_ialdc C E 39 (by decide) hM_1 (by decide) dX10_tracks_102 ?_
        refine lv_imul C.1 C.2.1 dX10_tracks_103 ?_
        refine lv_iadd C.1 C.2.1 dX10_tracks_104 ?_
        obtain ⟨M105, e105, hf⟩ := fm_pt_s hf
        refine fm_iastc' C E 38 (by decide) e105 hM_1 (by decide) dX10_tracks_105 (fun H locs E => ?_)
        refine lv_aload_n C.1 C.2.1 dX10_tracks_106 rfl (lv_at hl 0 rfl) ?_
        refine lv_bipush (v := 8) C.1 C.2.1 dX10_tracks_107 (by decide) ?_
        refine lv_aload_n C.1 C.2.1 dX10_tracks_109 rfl (lv_at hl 0 rfl) ?_
        refine lv_iload_n C.1 C.2.1 dX10_tracks_110 rfl (lv_at hl 2 rfl) ?_
        obtain ⟨⟨x111, M111⟩, hc111, hf⟩ := fm_bd hf
        dsimp only at hf
        refine fm_callV C E [.int _] [.int _, .ref _] lm_X10_269 wk_X10_fromOf (c_Model_fromOf l G N _ _ _ _ hc111) hM_0 rfl rfl rfl hl.1 (by simp [Value.category]) ⟨⟨rfl, rfl⟩, by decide, by decide⟩ ⟨by decide, by decide⟩ dX10_tracks_111 rfl (fun H locs E => ?_)
        refine W.eq (g2 := F0 m 114 ls (.int x111 :: [.int _, .ref _])) rfl ?_
        refine lv_iadd C.1 C.2.1 dX10_tracks_114 ?_
        refine lv_i2l C.1 C.2.1 dX10_tracks_115 rfl ?_
        obtain ⟨M116, hc116, hf⟩ := fm_bd hf
        refine fm_callV C E [.long _] [] lm_X10_245 wk_X10_tell (c_Model_tell l G _ _ _ hc116) hM_0 rfl rfl rfl hl.1 (by simp [Value.category]) ⟨⟨rfl, rfl⟩, by decide, by decide⟩ ⟨by decide, by decide⟩ dX10_tracks_116 rfl (fun H locs E => ?_)
        refine W.eq (g2 := F0 m 119 ls []) rfl ?_
        refine lv_iload C.1 C.2.1 dX10_tracks_119 (lv_at hl 4 rfl) ?_
        refine lv_iload C.1 C.2.1 dX10_tracks_121 (lv_at hl 5 rfl) ?_
        refine lv_if_le (tgt := 150) C.1 C.2.1 dX10_tracks_123 (by decide) (fun hc123 => ?_) (fun hc123 => ?_)
        · have hf := fm_ip hf hc123
          refine lv_iconst (v := 0) C.1 C.2.1 dX10_tracks_150 (by decide) ?_
          refine lv_iadd C.1 C.2.1 dX10_tracks_151 ?_
          refine lv_istore (lv' := [(4, .int _), (0, .ref _), (1, .int _), (2, .int _), (3, .int _), (5, .int _)]) C.1 C.2.1 dX10_tracks_152 hl (by decide) rfl (fun ls hl => ?_)
          refine fm_iinc C (v := 1) (lv' := [(5, .int _), (4, .int _), (0, .ref _), (1, .int _), (2, .int _), (3, .int _)]) (k := 5) hl rfl (by decide) (by decide) rfl dX10_tracks_154 (fun ls hl => ?_)
          refine lv_goto (tgt := 81) C.1 C.2.1 dX10_tracks_157 (by decide) ?_
          exact ih81 _ _ _ _ _ _ E (lv_sub hl [2, 3, 4, 5, 1, 0] rfl) hf
        · have hf := fm_in' hf hc123
          refine lv_aload_n C.1 C.2.1 dX10_tracks_126 rfl (lv_at hl 0 rfl) ?_
          refine fm_getr C E lf_X10_17 hM_0 rfl dX10_tracks_127 ?_
          refine lv_iload C.1 C.2.1 dX10_tracks_130 (lv_at hl 5 rfl) ?_
          obtain ⟨h132, x132, e132, hf⟩ := fm_ldl_e hf
          refine fm_lald' C E e132 hM_3 h132 dX10_tracks_132 ?_
          refine lv_aload_n C.1 C.2.1 dX10_tracks_133 rfl (lv_at hl 0 rfl) ?_
          refine fm_getr C E lf_X10_17 hM_0 rfl dX10_tracks_134 ?_
          refine lv_iload C.1 C.2.1 dX10_tracks_137 (lv_at hl 5 rfl) ?_
          refine lv_iconst (v := 1) C.1 C.2.1 dX10_tracks_139 (by decide) ?_
          refine lv_isub C.1 C.2.1 dX10_tracks_140 ?_
          obtain ⟨h141, x141, e141, hf⟩ := fm_ldl_e hf
          refine fm_lald' C E e141 hM_3 h141 dX10_tracks_141 ?_
          refine W.lcmp C.1 C.2.1 dX10_tracks_142 ?_
          refine lv_if_eq (tgt := 150) C.1 C.2.1 dX10_tracks_143 (by decide) (fun hc143 => ?_) (fun hc143 => ?_)
          · have hf := fm_ip hf hc143
            refine lv_iconst (v := 0) C.1 C.2.1 dX10_tracks_150 (by decide) ?_
            refine lv_iadd C.1 C.2.1 dX10_tracks_151 ?_
            refine lv_istore (lv' := [(4, .int _), (0, .ref _), (1, .int _), (2, .int _), (3, .int _), (5, .int _)]) C.1 C.2.1 dX10_tracks_152 hl (by decide) rfl (fun ls hl => ?_)
            refine fm_iinc C (v := 1) (lv' := [(5, .int _), (4, .int _), (0, .ref _), (1, .int _), (2, .int _), (3, .int _)]) (k := 5) hl rfl (by decide) (by decide) rfl dX10_tracks_154 (fun ls hl => ?_)
            refine lv_goto (tgt := 81) C.1 C.2.1 dX10_tracks_157 (by decide) ?_
            exact ih81 _ _ _ _ _ _ E (lv_sub hl [2, 3, 4, 5, 1, 0] rfl) hf
          · have hf := fm_in' hf hc143
            refine lv_iconst (v := 1) C.1 C.2.1 dX10_tracks_146 (by decide) ?_
            refine lv_goto (tgt := 151) C.1 C.2.1 dX10_tracks_147 (by decide) ?_
            refine lv_iadd C.1 C.2.1 dX10_tracks_151 ?_
            refine lv_istore (lv' := [(4, .int _), (0, .ref _), (1, .int _), (2, .int _), (3, .int _), (5, .int _)]) C.1 C.2.1 dX10_tracks_152 hl (by decide) rfl (fun ls hl => ?_)
            refine fm_iinc C (v := 1) (lv' := [(5, .int _), (4, .int _), (0, .ref _), (1, .int _), (2, .int _), (3, .int _)]) (k := 5) hl rfl (by decide) (by decide) rfl dX10_tracks_154 (fun ls hl => ?_)
            refine lv_goto (tgt := 81) C.1 C.2.1 dX10_tracks_157 (by decide) ?_
            exact ih81 _ _ _ _ _ _ E (lv_sub hl [2, 3, 4, 5, 1, 0] rfl) hf
  unfold pModel_tracks at hf
  refine lv_aload_n C.1 C.2.1 dX10_tracks_0 rfl (lv_at hl 0 rfl) ?_
  refine lv_iconst (v := 0) C.1 C.2.1 dX10_tracks_1 (by decide) ?_
  obtain ⟨M2, e2, hf⟩ := fm_pt_s hf
  refine fm_put' C E e2 lp_X10_77 hM_0 rfl dX10_tracks_2 (fun H locs E => ?_)
  refine lv_iload_n C.1 C.2.1 dX10_tracks_5 rfl (lv_at hl 1 rfl) ?_
  refine lv_iconst (v := 1) C.1 C.2.1 dX10_tracks_6 (by decide) ?_
  refine lv_bipush (v := 12) C.1 C.2.1 dX10_tracks_7 (by decide) ?_
  obtain ⟨x9, hc9, hf⟩ := fm_bd hf
  refine fm_callS C E [.int _, .int _, .int _] [] lm_X10_83 wk_X10_in (c_Model_in l G _ _ _ _ _  hc9) rfl hl.1 (by simp [Value.category]) ⟨⟨rfl, rfl⟩, by decide, by decide⟩ ⟨by decide, by decide⟩ dX10_tracks_9 rfl (fun H locs E => ?_)
  refine W.eq (g2 := F0 m 12 ls (.int x9 :: [])) rfl ?_
  refine lv_if_eq (tgt := 40) C.1 C.2.1 dX10_tracks_12 (by decide) (fun hc12 => ?_) (fun hc12 => ?_)
  · have hf := fm_ip hf hc12
    refine lv_iconst (v := (-1)) C.1 C.2.1 dX10_tracks_40 (by decide) ?_
    obtain ⟨rfl, rfl⟩ := fm_rt2 hf
    exact fm_iret C E rfl rfl dX10_tracks_41
  · have hf := fm_in' hf hc12
    refine lv_aload_n C.1 C.2.1 dX10_tracks_15 rfl (lv_at hl 0 rfl) ?_
    refine fm_getr C E lf_X10_9 hM_0 rfl dX10_tracks_16 ?_
    refine lv_bipush (v := 38) C.1 C.2.1 dX10_tracks_19 (by decide) ?_
    refine fm_ialdc C E 38 (by decide) hM_1 (by decide) dX10_tracks_21 ?_
    refine lv_iload_n C.1 C.2.1 dX10_tracks_22 rfl (lv_at hl 1 rfl) ?_
    refine lv_iconst (v := 1) C.1 C.2.1 dX10_tracks_23 (by decide) ?_
    refine lv_isub C.1 C.2.1 dX10_tracks_24 ?_
    refine lv_aload_n C.1 C.2.1 dX10_tracks_25 rfl (lv_at hl 0 rfl) ?_
    refine fm_getr C E lf_X10_9 hM_0 rfl dX10_tracks_26 ?_
    refine lv_bipush (v := 39) C.1 C.2.1 dX10_tracks_29 (by decide) ?_
    refine fm_ialdc C E 39 (by decide) hM_1 (by decide) dX10_tracks_31 ?_
    refine lv_imul C.1 C.2.1 dX10_tracks_32 ?_
    refine lv_iadd C.1 C.2.1 dX10_tracks_33 ?_
    refine lv_sipush (v := 200) C.1 C.2.1 dX10_tracks_34 (by decide) ?_
    refine lv_icmp_le (tgt := 42) C.1 C.2.1 dX10_tracks_37 (by decide) (fun hc37 => ?_) (fun hc37 => ?_)
    · have hf := fm_ip hf hc37
      refine lv_aload_n C.1 C.2.1 dX10_tracks_42 rfl (lv_at hl 0 rfl) ?_
      obtain ⟨x43, hc43, hf⟩ := fm_bd hf
      refine fm_callV C E [] [] lm_X10_204 wk_X10_liveBits (c_Model_liveBits l G N _ _  hc43) hM_0 rfl rfl rfl hl.1 (by simp [Value.category]) ⟨⟨rfl, rfl⟩, by decide, by decide⟩ ⟨by decide, by decide⟩ dX10_tracks_43 rfl (fun H locs E => ?_)
      refine W.eq (g2 := F0 m 46 ls (.int x43 :: [])) rfl ?_
      refine lv_istore_n (lv' := [(2, .int _), (0, .ref _), (1, .int _)]) C.1 C.2.1 dX10_tracks_46 rfl hl (by decide) rfl (fun ls hl => ?_)
      refine lv_iload_n C.1 C.2.1 dX10_tracks_47 rfl (lv_at hl 0 rfl) ?_
      obtain ⟨x48, hc48, hf⟩ := fm_bd hf
      refine fm_callS C E [.int _] [] lm_X10_198 wk_X10_countBits (c_Model_countBits l G N _ _ _  hc48) rfl hl.1 (by simp [Value.category]) ⟨⟨rfl, rfl⟩, by decide, by decide⟩ ⟨by decide, by decide⟩ dX10_tracks_48 rfl (fun H locs E => ?_)
      refine W.eq (g2 := F0 m 51 ls (.int x48 :: [])) rfl ?_
      refine lv_iconst (v := 2) C.1 C.2.1 dX10_tracks_51 (by decide) ?_
      refine lv_icmp_ge (tgt := 58) C.1 C.2.1 dX10_tracks_52 (by decide) (fun hc52 => ?_) (fun hc52 => ?_)
      · have hf := fm_ip hf hc52
        refine lv_aload_n C.1 C.2.1 dX10_tracks_58 rfl (lv_at hl 1 rfl) ?_
        obtain ⟨M59, hc59, hf⟩ := fm_bd hf
        refine fm_callV C E [] [] lm_X10_188 wk_X10_hear (c_Model_hear l G N _ _ hc59) hM_0 rfl rfl rfl hl.1 (by simp [Value.category]) ⟨⟨rfl, rfl⟩, by decide, by decide⟩ ⟨by decide, by decide⟩ dX10_tracks_59 rfl (fun H locs E => ?_)
        refine W.eq (g2 := F0 m 62 ls []) rfl ?_
        refine lv_aload_n C.1 C.2.1 dX10_tracks_62 rfl (lv_at hl 1 rfl) ?_
        refine fm_getr C E lf_X10_9 hM_0 rfl dX10_tracks_63 ?_
        refine lv_bipush (v := 38) C.1 C.2.1 dX10_tracks_66 (by decide) ?_
        refine fm_ialdc C E 38 (by decide) hM_1 (by decide) dX10_tracks_68 ?_
        refine lv_istore_n (lv' := [(3, .int _), (2, .int _), (0, .ref _), (1, .int _)]) C.1 C.2.1 dX10_tracks_69 rfl hl (by decide) rfl (fun ls hl => ?_)
        refine lv_iconst (v := 0) C.1 C.2.1 dX10_tracks_70 (by decide) ?_
        refine lv_istore (lv' := [(4, .int _), (3, .int _), (2, .int _), (0, .ref _), (1, .int _)]) C.1 C.2.1 dX10_tracks_71 hl (by decide) rfl (fun ls hl => ?_)
        refine lv_aload_n C.1 C.2.1 dX10_tracks_73 rfl (lv_at hl 3 rfl) ?_
        refine lv_iconst (v := 0) C.1 C.2.1 dX10_tracks_74 (by decide) ?_
        obtain ⟨M75, e75, hf⟩ := fm_pt_s hf
        refine fm_put' C E e75 lp_X10_80 hM_0 rfl dX10_tracks_75 (fun H locs E => ?_)
        refine lv_iconst (v := 0) C.1 C.2.1 dX10_tracks_78 (by decide) ?_
        refine lv_istore (lv' := [(5, .int _), (4, .int _), (3, .int _), (2, .int _), (0, .ref _), (1, .int _)]) C.1 C.2.1 dX10_tracks_79 hl (by decide) rfl (fun ls hl => ?_)
        exact L81 _ _ _ N _ _ _ _ _ _ E (lv_sub hl [4, 5, 3, 2, 1, 0] rfl) hf
      · have hf := fm_in' hf hc52
        refine lv_bipush (v := (-2)) C.1 C.2.1 dX10_tracks_55 (by decide) ?_
        obtain ⟨rfl, rfl⟩ := fm_rt2 hf
        exact fm_iret C E rfl rfl dX10_tracks_57
    · have hf := fm_in' hf hc37
      refine lv_iconst (v := (-1)) C.1 C.2.1 dX10_tracks_40 (by decide) ?_
      obtain ⟨rfl, rfl⟩ := fm_rt2 hf
      exact fm_iret C E rfl rfl dX10_tracks_41
theorem dX10_micPower_0 : decode cX10_micPower 0 = .ok (.iconst 0, 1) := by decide +kernel
theorem dX10_micPower_1 : decode cX10_micPower 1 = .ok (.istore_n 2, 1) := by decide +kernel
theorem dX10_micPower_2 : decode cX10_micPower 2 = .ok (.iload_n 2, 1) := by decide +kernel
theorem dX10_micPower_3 : decode cX10_micPower 3 = .ok (.aload_n 0, 1) := by decide +kernel
theorem dX10_micPower_4 : decode cX10_micPower 4 = .ok (.getfield 9, 3) := by decide +kernel
theorem dX10_micPower_7 : decode cX10_micPower 7 = .ok (.bipush 39, 2) := by decide +kernel
theorem dX10_micPower_9 : decode cX10_micPower 9 = .ok (.iaload, 1) := by decide +kernel
theorem dX10_micPower_10 : decode cX10_micPower 10 = .ok (.if_icmp .ge 29, 3) := by decide +kernel
theorem dX10_micPower_13 : decode cX10_micPower 13 = .ok (.aload_n 0, 1) := by decide +kernel
theorem dX10_micPower_14 : decode cX10_micPower 14 = .ok (.getfield 49, 3) := by decide +kernel
theorem dX10_micPower_17 : decode cX10_micPower 17 = .ok (.iload_n 2, 1) := by decide +kernel
theorem dX10_micPower_18 : decode cX10_micPower 18 = .ok (.aload_n 0, 1) := by decide +kernel
theorem dX10_micPower_19 : decode cX10_micPower 19 = .ok (.iload_n 1, 1) := by decide +kernel
theorem dX10_micPower_20 : decode cX10_micPower 20 = .ok (.aload_n 0, 1) := by decide +kernel
theorem dX10_micPower_21 : decode cX10_micPower 21 = .ok (.getfield 9, 3) := by decide +kernel
theorem dX10_micPower_24 : decode cX10_micPower 24 = .ok (.bipush 38, 2) := by decide +kernel
theorem dX10_micPower_26 : decode cX10_micPower 26 = .ok (.iaload, 1) := by decide +kernel
theorem dX10_micPower_27 : decode cX10_micPower 27 = .ok (.iload_n 2, 1) := by decide +kernel
theorem dX10_micPower_28 : decode cX10_micPower 28 = .ok (.iadd, 1) := by decide +kernel
theorem dX10_micPower_29 : decode cX10_micPower 29 = .ok (.invokevirtual 176, 3) := by decide +kernel
theorem dX10_micPower_32 : decode cX10_micPower 32 = .ok (.iastore, 1) := by decide +kernel
theorem dX10_micPower_33 : decode cX10_micPower 33 = .ok (.iinc 2 1, 3) := by decide +kernel
theorem dX10_micPower_36 : decode cX10_micPower 36 = .ok (.goto (-34), 3) := by decide +kernel
theorem dX10_micPower_39 : decode cX10_micPower 39 = .ok (.aload_n 0, 1) := by decide +kernel
theorem dX10_micPower_40 : decode cX10_micPower 40 = .ok (.aload_n 0, 1) := by decide +kernel
theorem dX10_micPower_41 : decode cX10_micPower 41 = .ok (.getfield 49, 3) := by decide +kernel
theorem dX10_micPower_44 : decode cX10_micPower 44 = .ok (.invokevirtual 228, 3) := by decide +kernel
theorem dX10_micPower_47 : decode cX10_micPower 47 = .ok (.lreturn, 1) := by decide +kernel
set_option maxHeartbeats 4000000 in
set_option maxRecDepth 100000 in
theorem c_Model_micPower (l : Launch) (G : fm_G) (N : Nat) (M : fm_M) (v1 : Int32) (r : Int64) (M' : fm_M) (hf : pModel_micPower N M v1 = some (r, M')) : fm_Met l yX10_micPower cX10_micPower 3 (some .long) { frames := 4, cells := 0, slots := 0, locals := 93 } shM G [.ref (G.2.1 0), .int v1] M (some (.long r)) M' := by
  refine fm_enter (by decide) (Nat.le_of_ble_eq_true rfl) ?_
  intro p e s m args below meth c ls C E hl
  have hl : lv_has ls 3 [(0, .ref (G.2.1 0)), (1, .int v1)] := hl
  have L2 : ∀ (w2_v1 : Int32) (n2 : Nat) (v2 : Int32) (M : fm_M) (H : Heap) (locs : List Loc) (ls : Array Slot), fm_Wd shM G M s H locs → lv_has ls 3 [(0, .ref (G.2.1 0)), (1, .int w2_v1), (2, .int v2)] → fm_lp (pModel_micPower_L2 N w2_v1) n2 (v2, M) = some (r, M') → W p l e { frames := 4, cells := 0, slots := 0, locals := 93 } s m args below meth c H locs 0 0 (fm_Z below shM G args s (some (.long r)) M') (F0 m 2 ls []) := by
    intro w2_v1 n2
    induction n2 with
    | zero => intro v2 M H locs ls E hl hf; exact fm_lp_0 hf
    | succ n2 ih2 =>
      intro v2 M H locs ls E hl hf
      have hf : pModel_micPower_L2b N w2_v1 (fm_lp (pModel_micPower_L2 N w2_v1) n2) v2 M = some (r, M') := hf
      unfold pModel_micPower_L2b at hf
      refine lv_iload_n C.1 C.2.1 dX10_micPower_2 rfl (lv_at hl 2 rfl) ?_
      refine lv_aload_n C.1 C.2.1 dX10_micPower_3 rfl (lv_at hl 0 rfl) ?_
      refine fm_getr C E lf_X10_9 hM_0 rfl dX10_micPower_4 ?_
      refine lv_bipush (v := 39) C.1 C.2.1 dX10_micPower_7 (by decide) ?_
      refine fm_ialdc C E 39 (by decide) hM_1 (by decide) dX10_micPower_9 ?_
      refine lv_icmp_ge (tgt := 39) C.1 C.2.1 dX10_micPower_10 (by decide) (fun hc10 => ?_) (fun hc10 => ?_)
      · have hf := fm_ip hf hc10
        refine lv_aload_n C.1 C.2.1 dX10_micPower_39 rfl (lv_at hl 0 rfl) ?_
        refine lv_aload_n C.1 C.2.1 dX10_micPower_40 rfl (lv_at hl 0 rfl) ?_
        refine fm_getr C E lf_X10_49 hM_0 rfl dX10_micPower_41 ?_
        obtain ⟨x44, hc44, hf⟩ := fm_bd hf
        refine fm_callV C E [.ref _] [] lm_X10_228 wk_X10_powerOf (c_Model_powerOf l G N _ _ _  hc44) hM_0 rfl rfl rfl hl.1 (by simp [Value.category]) ⟨⟨rfl, rfl⟩, by decide, by decide⟩ ⟨by decide, by decide⟩ dX10_micPower_44 rfl (fun H locs E => ?_)
        refine W.eq (g2 := F0 m 47 ls (.long x44 :: [])) rfl ?_
        obtain ⟨rfl, rfl⟩ := fm_rt2 hf
        exact fm_lret C E rfl dX10_micPower_47
      · have hf := fm_in' hf hc10
        refine lv_aload_n C.1 C.2.1 dX10_micPower_13 rfl (lv_at hl 0 rfl) ?_
        refine fm_getr C E lf_X10_49 hM_0 rfl dX10_micPower_14 ?_
        refine lv_iload_n C.1 C.2.1 dX10_micPower_17 rfl (lv_at hl 2 rfl) ?_
        refine lv_aload_n C.1 C.2.1 dX10_micPower_18 rfl (lv_at hl 0 rfl) ?_
        refine lv_iload_n C.1 C.2.1 dX10_micPower_19 rfl (lv_at hl 1 rfl) ?_
        refine lv_aload_n C.1 C.2.1 dX10_micPower_20 rfl (lv_at hl 0 rfl) ?_
        refine fm_getr C E lf_X10_9 hM_0 rfl dX10_micPower_21 ?_
        refine lv_bipush (v := 38) C.1 C.2.1 dX10_micPower_24 (by decide) ?_
        refine fm_ialdc C E 38 (by decide) hM_1 (by decide) dX10_micPower_26 ?_
        refine lv_iload_n C.1 C.2.1 dX10_micPower_27 rfl (lv_at hl 2 rfl) ?_
        refine lv_iadd C.1 C.2.1 dX10_micPower_28 ?_
        obtain ⟨x29, hc29, hf⟩ := fm_bd hf
        refine fm_callV C E [.int _, .int _] [.int _, .ref _] lm_X10_176 wk_X10_sampleOf (c_Model_sampleOf l G N _ _ _ _  hc29) hM_0 rfl rfl rfl hl.1 (by simp [Value.category]) ⟨⟨rfl, rfl⟩, by decide, by decide⟩ ⟨by decide, by decide⟩ dX10_micPower_29 rfl (fun H locs E => ?_)
        refine W.eq (g2 := F0 m 32 ls (.int x29 :: [.int _, .ref _])) rfl ?_
        obtain ⟨h32, M32, e32, hf⟩ := fm_st_e hf
        refine fm_iast' C E e32 hM_10 h32 dX10_micPower_32 (fun H locs E => ?_)
        refine fm_iinc C (v := 1) (lv' := [(2, .int _), (0, .ref _), (1, .int _)]) (k := 2) hl rfl (by decide) (by decide) rfl dX10_micPower_33 (fun ls hl => ?_)
        refine lv_goto (tgt := 2) C.1 C.2.1 dX10_micPower_36 (by decide) ?_
        exact ih2 _ _ _ _ _ E (lv_sub hl [1, 2, 0] rfl) hf
  unfold pModel_micPower at hf
  refine lv_iconst (v := 0) C.1 C.2.1 dX10_micPower_0 (by decide) ?_
  refine lv_istore_n (lv' := [(2, .int _), (0, .ref _), (1, .int _)]) C.1 C.2.1 dX10_micPower_1 rfl hl (by decide) rfl (fun ls hl => ?_)
  exact L2 _ N _ _ _ _ _ E (lv_sub hl [1, 2, 0] rfl) hf
theorem dX10_strongest_0 : decode cX10_strongest 0 = .ok (.aload_n 0, 1) := by decide +kernel
theorem dX10_strongest_1 : decode cX10_strongest 1 = .ok (.iconst 0, 1) := by decide +kernel
theorem dX10_strongest_2 : decode cX10_strongest 2 = .ok (.putfield 77, 3) := by decide +kernel
theorem dX10_strongest_5 : decode cX10_strongest 5 = .ok (.aload_n 0, 1) := by decide +kernel
theorem dX10_strongest_6 : decode cX10_strongest 6 = .ok (.iload_n 1, 1) := by decide +kernel
theorem dX10_strongest_7 : decode cX10_strongest 7 = .ok (.invokevirtual 153, 3) := by decide +kernel
theorem dX10_strongest_10 : decode cX10_strongest 10 = .ok (.ifCond .ne 5, 3) := by decide +kernel
theorem dX10_strongest_13 : decode cX10_strongest 13 = .ok (.iconst (-1), 1) := by decide +kernel
theorem dX10_strongest_14 : decode cX10_strongest 14 = .ok (.ireturn, 1) := by decide +kernel
theorem dX10_strongest_15 : decode cX10_strongest 15 = .ok (.aload_n 0, 1) := by decide +kernel
theorem dX10_strongest_16 : decode cX10_strongest 16 = .ok (.getfield 9, 3) := by decide +kernel
theorem dX10_strongest_19 : decode cX10_strongest 19 = .ok (.bipush 40, 2) := by decide +kernel
theorem dX10_strongest_21 : decode cX10_strongest 21 = .ok (.iaload, 1) := by decide +kernel
theorem dX10_strongest_22 : decode cX10_strongest 22 = .ok (.ifCond .ne 6, 3) := by decide +kernel
theorem dX10_strongest_25 : decode cX10_strongest 25 = .ok (.bipush (-2), 2) := by decide +kernel
theorem dX10_strongest_27 : decode cX10_strongest 27 = .ok (.ireturn, 1) := by decide +kernel
theorem dX10_strongest_28 : decode cX10_strongest 28 = .ok (.iconst (-1), 1) := by decide +kernel
theorem dX10_strongest_29 : decode cX10_strongest 29 = .ok (.istore_n 2, 1) := by decide +kernel
theorem dX10_strongest_30 : decode cX10_strongest 30 = .ok (.ldc2_w 220, 3) := by decide +kernel
theorem dX10_strongest_33 : decode cX10_strongest 33 = .ok (.lstore_n 3, 1) := by decide +kernel
theorem dX10_strongest_34 : decode cX10_strongest 34 = .ok (.iconst 0, 1) := by decide +kernel
theorem dX10_strongest_35 : decode cX10_strongest 35 = .ok (.istore 5, 2) := by decide +kernel
theorem dX10_strongest_37 : decode cX10_strongest 37 = .ok (.iload 5, 2) := by decide +kernel
theorem dX10_strongest_39 : decode cX10_strongest 39 = .ok (.aload_n 0, 1) := by decide +kernel
theorem dX10_strongest_40 : decode cX10_strongest 40 = .ok (.getfield 9, 3) := by decide +kernel
theorem dX10_strongest_43 : decode cX10_strongest 43 = .ok (.bipush 40, 2) := by decide +kernel
theorem dX10_strongest_45 : decode cX10_strongest 45 = .ok (.iaload, 1) := by decide +kernel
theorem dX10_strongest_46 : decode cX10_strongest 46 = .ok (.if_icmp .ge 38, 3) := by decide +kernel
theorem dX10_strongest_49 : decode cX10_strongest 49 = .ok (.aload_n 0, 1) := by decide +kernel
theorem dX10_strongest_50 : decode cX10_strongest 50 = .ok (.iload 5, 2) := by decide +kernel
theorem dX10_strongest_52 : decode cX10_strongest 52 = .ok (.putfield 34, 3) := by decide +kernel
theorem dX10_strongest_55 : decode cX10_strongest 55 = .ok (.aload_n 0, 1) := by decide +kernel
theorem dX10_strongest_56 : decode cX10_strongest 56 = .ok (.iload_n 1, 1) := by decide +kernel
theorem dX10_strongest_57 : decode cX10_strongest 57 = .ok (.invokevirtual 275, 3) := by decide +kernel
theorem dX10_strongest_60 : decode cX10_strongest 60 = .ok (.lstore 6, 2) := by decide +kernel
theorem dX10_strongest_62 : decode cX10_strongest 62 = .ok (.lload 6, 2) := by decide +kernel
theorem dX10_strongest_64 : decode cX10_strongest 64 = .ok (.lload_n 3, 1) := by decide +kernel
theorem dX10_strongest_65 : decode cX10_strongest 65 = .ok (.lcmp, 1) := by decide +kernel
theorem dX10_strongest_66 : decode cX10_strongest 66 = .ok (.ifCond .gt 6, 3) := by decide +kernel
theorem dX10_strongest_69 : decode cX10_strongest 69 = .ok (.goto 9, 3) := by decide +kernel
theorem dX10_strongest_72 : decode cX10_strongest 72 = .ok (.lload 6, 2) := by decide +kernel
theorem dX10_strongest_74 : decode cX10_strongest 74 = .ok (.lstore_n 3, 1) := by decide +kernel
theorem dX10_strongest_75 : decode cX10_strongest 75 = .ok (.iload 5, 2) := by decide +kernel
theorem dX10_strongest_77 : decode cX10_strongest 77 = .ok (.istore_n 2, 1) := by decide +kernel
theorem dX10_strongest_78 : decode cX10_strongest 78 = .ok (.iinc 5 1, 3) := by decide +kernel
theorem dX10_strongest_81 : decode cX10_strongest 81 = .ok (.goto (-44), 3) := by decide +kernel
theorem dX10_strongest_84 : decode cX10_strongest 84 = .ok (.aload_n 0, 1) := by decide +kernel
theorem dX10_strongest_85 : decode cX10_strongest 85 = .ok (.iconst (-1), 1) := by decide +kernel
theorem dX10_strongest_86 : decode cX10_strongest 86 = .ok (.putfield 34, 3) := by decide +kernel
theorem dX10_strongest_89 : decode cX10_strongest 89 = .ok (.aload_n 0, 1) := by decide +kernel
theorem dX10_strongest_90 : decode cX10_strongest 90 = .ok (.iconst 0, 1) := by decide +kernel
theorem dX10_strongest_91 : decode cX10_strongest 91 = .ok (.putfield 80, 3) := by decide +kernel
theorem dX10_strongest_94 : decode cX10_strongest 94 = .ok (.aload_n 0, 1) := by decide +kernel
theorem dX10_strongest_95 : decode cX10_strongest 95 = .ok (.lload_n 3, 1) := by decide +kernel
theorem dX10_strongest_96 : decode cX10_strongest 96 = .ok (.invokevirtual 245, 3) := by decide +kernel
theorem dX10_strongest_99 : decode cX10_strongest 99 = .ok (.aload_n 0, 1) := by decide +kernel
theorem dX10_strongest_100 : decode cX10_strongest 100 = .ok (.aload_n 0, 1) := by decide +kernel
theorem dX10_strongest_101 : decode cX10_strongest 101 = .ok (.iload_n 1, 1) := by decide +kernel
theorem dX10_strongest_102 : decode cX10_strongest 102 = .ok (.invokevirtual 275, 3) := by decide +kernel
theorem dX10_strongest_105 : decode cX10_strongest 105 = .ok (.invokevirtual 245, 3) := by decide +kernel
theorem dX10_strongest_108 : decode cX10_strongest 108 = .ok (.iload_n 2, 1) := by decide +kernel
theorem dX10_strongest_109 : decode cX10_strongest 109 = .ok (.ireturn, 1) := by decide +kernel
set_option maxHeartbeats 4000000 in
set_option maxRecDepth 100000 in
theorem c_Model_strongest (l : Launch) (G : fm_G) (N : Nat) (M : fm_M) (v1 : Int32) (r : Int32) (M' : fm_M) (hf : pModel_strongest N M v1 = some (r, M')) : fm_Met l yX10_strongest cX10_strongest 8 (some .int) { frames := 5, cells := 0, slots := 0, locals := 115 } shM G [.ref (G.2.1 0), .int v1] M (some (.int r)) M' := by
  refine fm_enter (by decide) (Nat.le_of_ble_eq_true rfl) ?_
  intro p e s m args below meth c ls C E hl
  have hl : lv_has ls 8 [(0, .ref (G.2.1 0)), (1, .int v1)] := hl
  have L37 : ∀ (w37_v1 : Int32) (n37 : Nat) (v2 : Int32) (v3 : Int64) (v5 : Int32) (M : fm_M) (H : Heap) (locs : List Loc) (ls : Array Slot), fm_Wd shM G M s H locs → lv_has ls 8 [(0, .ref (G.2.1 0)), (1, .int w37_v1), (2, .int v2), (3, .long v3), (5, .int v5)] → fm_lp (pModel_strongest_L37 N w37_v1) n37 (v2, v3, v5, M) = some (r, M') → W p l e { frames := 5, cells := 0, slots := 0, locals := 115 } s m args below meth c H locs 0 0 (fm_Z below shM G args s (some (.int r)) M') (F0 m 37 ls []) := by
    intro w37_v1 n37
    induction n37 with
    | zero => intro v2 v3 v5 M H locs ls E hl hf; exact fm_lp_0 hf
    | succ n37 ih37 =>
      intro v2 v3 v5 M H locs ls E hl hf
      have hf : pModel_strongest_L37b N w37_v1 (fm_lp (pModel_strongest_L37 N w37_v1) n37) v2 v3 v5 M = some (r, M') := hf
      unfold pModel_strongest_L37b at hf
      refine lv_iload C.1 C.2.1 dX10_strongest_37 (lv_at hl 4 rfl) ?_
      refine lv_aload_n C.1 C.2.1 dX10_strongest_39 rfl (lv_at hl 0 rfl) ?_
      refine fm_getr C E lf_X10_9 hM_0 rfl dX10_strongest_40 ?_
      refine lv_bipush (v := 40) C.1 C.2.1 dX10_strongest_43 (by decide) ?_
      refine fm_ialdc C E 40 (by decide) hM_1 (by decide) dX10_strongest_45 ?_
      refine lv_icmp_ge (tgt := 84) C.1 C.2.1 dX10_strongest_46 (by decide) (fun hc46 => ?_) (fun hc46 => ?_)
      · have hf := fm_ip hf hc46
        refine lv_aload_n C.1 C.2.1 dX10_strongest_84 rfl (lv_at hl 0 rfl) ?_
        refine lv_iconst (v := (-1)) C.1 C.2.1 dX10_strongest_85 (by decide) ?_
        obtain ⟨M86, e86, hf⟩ := fm_pt_s hf
        refine fm_put' C E e86 lp_X10_34 hM_0 rfl dX10_strongest_86 (fun H locs E => ?_)
        refine lv_aload_n C.1 C.2.1 dX10_strongest_89 rfl (lv_at hl 0 rfl) ?_
        refine lv_iconst (v := 0) C.1 C.2.1 dX10_strongest_90 (by decide) ?_
        obtain ⟨M91, e91, hf⟩ := fm_pt_s hf
        refine fm_put' C E e91 lp_X10_80 hM_0 rfl dX10_strongest_91 (fun H locs E => ?_)
        refine lv_aload_n C.1 C.2.1 dX10_strongest_94 rfl (lv_at hl 0 rfl) ?_
        refine lv_lload_n C.1 C.2.1 dX10_strongest_95 rfl (lv_at hl 3 rfl) ?_
        obtain ⟨M96, hc96, hf⟩ := fm_bd hf
        refine fm_callV C E [.long _] [] lm_X10_245 wk_X10_tell (c_Model_tell l G _ _ _ hc96) hM_0 rfl rfl rfl hl.1 (by simp [Value.category]) ⟨⟨rfl, rfl⟩, by decide, by decide⟩ ⟨by decide, by decide⟩ dX10_strongest_96 rfl (fun H locs E => ?_)
        refine W.eq (g2 := F0 m 99 ls []) rfl ?_
        refine lv_aload_n C.1 C.2.1 dX10_strongest_99 rfl (lv_at hl 0 rfl) ?_
        refine lv_aload_n C.1 C.2.1 dX10_strongest_100 rfl (lv_at hl 0 rfl) ?_
        refine lv_iload_n C.1 C.2.1 dX10_strongest_101 rfl (lv_at hl 1 rfl) ?_
        obtain ⟨⟨x102, M102⟩, hc102, hf⟩ := fm_bd hf
        dsimp only at hf
        refine fm_callV C E [.int _] [.ref _] lm_X10_275 wk_X10_micPower (c_Model_micPower l G N _ _ _ _ hc102) hM_0 rfl rfl rfl hl.1 (by simp [Value.category]) ⟨⟨rfl, rfl⟩, by decide, by decide⟩ ⟨by decide, by decide⟩ dX10_strongest_102 rfl (fun H locs E => ?_)
        refine W.eq (g2 := F0 m 105 ls (.long x102 :: [.ref _])) rfl ?_
        obtain ⟨M105, hc105, hf⟩ := fm_bd hf
        refine fm_callV C E [.long _] [] lm_X10_245 wk_X10_tell (c_Model_tell l G _ _ _ hc105) hM_0 rfl rfl rfl hl.1 (by simp [Value.category]) ⟨⟨rfl, rfl⟩, by decide, by decide⟩ ⟨by decide, by decide⟩ dX10_strongest_105 rfl (fun H locs E => ?_)
        refine W.eq (g2 := F0 m 108 ls []) rfl ?_
        refine lv_iload_n C.1 C.2.1 dX10_strongest_108 rfl (lv_at hl 2 rfl) ?_
        obtain ⟨rfl, rfl⟩ := fm_rt2 hf
        exact fm_iret C E rfl rfl dX10_strongest_109
      · have hf := fm_in' hf hc46
        refine lv_aload_n C.1 C.2.1 dX10_strongest_49 rfl (lv_at hl 0 rfl) ?_
        refine lv_iload C.1 C.2.1 dX10_strongest_50 (lv_at hl 4 rfl) ?_
        obtain ⟨M52, e52, hf⟩ := fm_pt_s hf
        refine fm_put' C E e52 lp_X10_34 hM_0 rfl dX10_strongest_52 (fun H locs E => ?_)
        refine lv_aload_n C.1 C.2.1 dX10_strongest_55 rfl (lv_at hl 0 rfl) ?_
        refine lv_iload_n C.1 C.2.1 dX10_strongest_56 rfl (lv_at hl 1 rfl) ?_
        obtain ⟨⟨x57, M57⟩, hc57, hf⟩ := fm_bd hf
        dsimp only at hf
        refine fm_callV C E [.int _] [] lm_X10_275 wk_X10_micPower (c_Model_micPower l G N _ _ _ _ hc57) hM_0 rfl rfl rfl hl.1 (by simp [Value.category]) ⟨⟨rfl, rfl⟩, by decide, by decide⟩ ⟨by decide, by decide⟩ dX10_strongest_57 rfl (fun H locs E => ?_)
        refine W.eq (g2 := F0 m 60 ls (.long x57 :: [])) rfl ?_
        refine lv_lstore (lv' := [(6, .long _), (0, .ref _), (1, .int _), (2, .int _), (3, .long _), (5, .int _)]) C.1 C.2.1 dX10_strongest_60 hl (by decide) rfl (fun ls hl => ?_)
        refine lv_lload C.1 C.2.1 dX10_strongest_62 (lv_at hl 0 rfl) ?_
        refine lv_lload_n C.1 C.2.1 dX10_strongest_64 rfl (lv_at hl 4 rfl) ?_
        refine W.lcmp C.1 C.2.1 dX10_strongest_65 ?_
        refine lv_if_gt (tgt := 72) C.1 C.2.1 dX10_strongest_66 (by decide) (fun hc66 => ?_) (fun hc66 => ?_)
        · have hf := fm_ip hf hc66
          refine lv_lload C.1 C.2.1 dX10_strongest_72 (lv_at hl 0 rfl) ?_
          refine lv_lstore_n (lv' := [(3, .long _), (6, .long _), (0, .ref _), (1, .int _), (2, .int _), (5, .int _)]) C.1 C.2.1 dX10_strongest_74 rfl hl (by decide) rfl (fun ls hl => ?_)
          refine lv_iload C.1 C.2.1 dX10_strongest_75 (lv_at hl 5 rfl) ?_
          refine lv_istore_n (lv' := [(2, .int _), (3, .long _), (6, .long _), (0, .ref _), (1, .int _), (5, .int _)]) C.1 C.2.1 dX10_strongest_77 rfl hl (by decide) rfl (fun ls hl => ?_)
          refine fm_iinc C (v := 1) (lv' := [(5, .int _), (2, .int _), (3, .long _), (6, .long _), (0, .ref _), (1, .int _)]) (k := 5) hl rfl (by decide) (by decide) rfl dX10_strongest_78 (fun ls hl => ?_)
          refine lv_goto (tgt := 37) C.1 C.2.1 dX10_strongest_81 (by decide) ?_
          exact ih37 _ _ _ _ _ _ _ E (lv_sub hl [4, 5, 1, 2, 0] rfl) hf
        · have hf := fm_in' hf hc66
          refine lv_goto (tgt := 78) C.1 C.2.1 dX10_strongest_69 (by decide) ?_
          refine fm_iinc C (v := 1) (lv' := [(5, .int _), (6, .long _), (0, .ref _), (1, .int _), (2, .int _), (3, .long _)]) (k := 5) hl rfl (by decide) (by decide) rfl dX10_strongest_78 (fun ls hl => ?_)
          refine lv_goto (tgt := 37) C.1 C.2.1 dX10_strongest_81 (by decide) ?_
          exact ih37 _ _ _ _ _ _ _ E (lv_sub hl [2, 3, 4, 5, 0] rfl) hf
  unfold pModel_strongest at hf
  refine lv_aload_n C.1 C.2.1 dX10_strongest_0 rfl (lv_at hl 0 rfl) ?_
  refine lv_iconst (v := 0) C.1 C.2.1 dX10_strongest_1 (by decide) ?_
  obtain ⟨M2, e2, hf⟩ := fm_pt_s hf
  refine fm_put' C E e2 lp_X10_77 hM_0 rfl dX10_strongest_2 (fun H locs E => ?_)
  refine lv_aload_n C.1 C.2.1 dX10_strongest_5 rfl (lv_at hl 0 rfl) ?_
  refine lv_iload_n C.1 C.2.1 dX10_strongest_6 rfl (lv_at hl 1 rfl) ?_
  obtain ⟨x7, hc7, hf⟩ := fm_bd hf
  refine fm_callV C E [.int _] [] lm_X10_153 wk_X10_isMic (c_Model_isMic l G _ _ _  hc7) hM_0 rfl rfl rfl hl.1 (by simp [Value.category]) ⟨⟨rfl, rfl⟩, by decide, by decide⟩ ⟨by decide, by decide⟩ dX10_strongest_7 rfl (fun H locs E => ?_)
  refine W.eq (g2 := F0 m 10 ls (.int x7 :: [])) rfl ?_
  refine lv_if_ne (tgt := 15) C.1 C.2.1 dX10_strongest_10 (by decide) (fun hc10 => ?_) (fun hc10 => ?_)
  · have hf := fm_in' hf hc10
    refine lv_aload_n C.1 C.2.1 dX10_strongest_15 rfl (lv_at hl 0 rfl) ?_
    refine fm_getr C E lf_X10_9 hM_0 rfl dX10_strongest_16 ?_
    refine lv_bipush (v := 40) C.1 C.2.1 dX10_strongest_19 (by decide) ?_
    refine fm_ialdc C E 40 (by decide) hM_1 (by decide) dX10_strongest_21 ?_
    refine lv_if_ne (tgt := 28) C.1 C.2.1 dX10_strongest_22 (by decide) (fun hc22 => ?_) (fun hc22 => ?_)
    · have hf := fm_in' hf hc22
      refine lv_iconst (v := (-1)) C.1 C.2.1 dX10_strongest_28 (by decide) ?_
      refine lv_istore_n (lv' := [(2, .int _), (0, .ref _), (1, .int _)]) C.1 C.2.1 dX10_strongest_29 rfl hl (by decide) rfl (fun ls hl => ?_)
      refine lv_ldc2 C.1 C.2.1 C.2.2.2.1 (C.2.2.2.2.1 _ wc_1397) dX10_strongest_30 ?_
      refine lv_lstore_n (lv' := [(3, .long _), (2, .int _), (0, .ref _), (1, .int _)]) C.1 C.2.1 dX10_strongest_33 rfl hl (by decide) rfl (fun ls hl => ?_)
      refine lv_iconst (v := 0) C.1 C.2.1 dX10_strongest_34 (by decide) ?_
      refine lv_istore (lv' := [(5, .int _), (3, .long _), (2, .int _), (0, .ref _), (1, .int _)]) C.1 C.2.1 dX10_strongest_35 hl (by decide) rfl (fun ls hl => ?_)
      exact L37 _ N _ _ _ _ _ _ _ E (lv_sub hl [3, 4, 2, 1, 0] rfl) hf
    · have hf := fm_ip hf hc22
      refine lv_bipush (v := (-2)) C.1 C.2.1 dX10_strongest_25 (by decide) ?_
      obtain ⟨rfl, rfl⟩ := fm_rt2 hf
      exact fm_iret C E rfl rfl dX10_strongest_27
  · have hf := fm_ip hf hc10
    refine lv_iconst (v := (-1)) C.1 C.2.1 dX10_strongest_13 (by decide) ?_
    obtain ⟨rfl, rfl⟩ := fm_rt2 hf
    exact fm_iret C E rfl rfl dX10_strongest_14
theorem dX10_isQuiet_0 : decode cX10_isQuiet 0 = .ok (.aload_n 0, 1) := by decide +kernel
theorem dX10_isQuiet_1 : decode cX10_isQuiet 1 = .ok (.getfield 9, 3) := by decide +kernel
theorem dX10_isQuiet_4 : decode cX10_isQuiet 4 = .ok (.bipush 38, 2) := by decide +kernel
theorem dX10_isQuiet_6 : decode cX10_isQuiet 6 = .ok (.iaload, 1) := by decide +kernel
theorem dX10_isQuiet_7 : decode cX10_isQuiet 7 = .ok (.istore_n 2, 1) := by decide +kernel
theorem dX10_isQuiet_8 : decode cX10_isQuiet 8 = .ok (.iload_n 2, 1) := by decide +kernel
theorem dX10_isQuiet_9 : decode cX10_isQuiet 9 = .ok (.aload_n 0, 1) := by decide +kernel
theorem dX10_isQuiet_10 : decode cX10_isQuiet 10 = .ok (.getfield 9, 3) := by decide +kernel
theorem dX10_isQuiet_13 : decode cX10_isQuiet 13 = .ok (.bipush 38, 2) := by decide +kernel
theorem dX10_isQuiet_15 : decode cX10_isQuiet 15 = .ok (.iaload, 1) := by decide +kernel
theorem dX10_isQuiet_16 : decode cX10_isQuiet 16 = .ok (.aload_n 0, 1) := by decide +kernel
theorem dX10_isQuiet_17 : decode cX10_isQuiet 17 = .ok (.getfield 9, 3) := by decide +kernel
theorem dX10_isQuiet_20 : decode cX10_isQuiet 20 = .ok (.bipush 39, 2) := by decide +kernel
theorem dX10_isQuiet_22 : decode cX10_isQuiet 22 = .ok (.iaload, 1) := by decide +kernel
theorem dX10_isQuiet_23 : decode cX10_isQuiet 23 = .ok (.iadd, 1) := by decide +kernel
theorem dX10_isQuiet_24 : decode cX10_isQuiet 24 = .ok (.if_icmp .ge 20, 3) := by decide +kernel
theorem dX10_isQuiet_27 : decode cX10_isQuiet 27 = .ok (.aload_n 0, 1) := by decide +kernel
theorem dX10_isQuiet_28 : decode cX10_isQuiet 28 = .ok (.iload_n 1, 1) := by decide +kernel
theorem dX10_isQuiet_29 : decode cX10_isQuiet 29 = .ok (.iload_n 2, 1) := by decide +kernel
theorem dX10_isQuiet_30 : decode cX10_isQuiet 30 = .ok (.invokevirtual 179, 3) := by decide +kernel
theorem dX10_isQuiet_33 : decode cX10_isQuiet 33 = .ok (.ifCond .eq 5, 3) := by decide +kernel
theorem dX10_isQuiet_36 : decode cX10_isQuiet 36 = .ok (.iconst 0, 1) := by decide +kernel
theorem dX10_isQuiet_37 : decode cX10_isQuiet 37 = .ok (.ireturn, 1) := by decide +kernel
theorem dX10_isQuiet_38 : decode cX10_isQuiet 38 = .ok (.iinc 2 1, 3) := by decide +kernel
theorem dX10_isQuiet_41 : decode cX10_isQuiet 41 = .ok (.goto (-33), 3) := by decide +kernel
theorem dX10_isQuiet_44 : decode cX10_isQuiet 44 = .ok (.iconst 1, 1) := by decide +kernel
theorem dX10_isQuiet_45 : decode cX10_isQuiet 45 = .ok (.ireturn, 1) := by decide +kernel
set_option maxHeartbeats 4000000 in
set_option maxRecDepth 100000 in
theorem c_Model_isQuiet (l : Launch) (G : fm_G) (N : Nat) (M : fm_M) (v1 : Int32) (r : Int32) (hf : pModel_isQuiet N M v1 = some r) : fm_Met l yX10_isQuiet cX10_isQuiet 3 (some .boolean) { frames := 1, cells := 0, slots := 0, locals := 22 } shM G [.ref (G.2.1 0), .int v1] M (some (.int r)) M := by
  refine fm_enter (by decide) (Nat.le_of_ble_eq_true rfl) ?_
  intro p e s m args below meth c ls C E hl
  have hl : lv_has ls 3 [(0, .ref (G.2.1 0)), (1, .int v1)] := hl
  have L8 : ∀ (w8_v1 : Int32) (n8 : Nat) (v2 : Int32) (H : Heap) (locs : List Loc) (ls : Array Slot), fm_Wd shM G M s H locs → lv_has ls 3 [(0, .ref (G.2.1 0)), (1, .int w8_v1), (2, .int v2)] → fm_lp (pModel_isQuiet_L8 N M w8_v1) n8 v2 = some r → W p l e { frames := 1, cells := 0, slots := 0, locals := 22 } s m args below meth c H locs 0 0 (fm_Z below shM G args s (some (.int r)) M) (F0 m 8 ls []) := by
    intro w8_v1 n8
    induction n8 with
    | zero => intro v2 H locs ls E hl hf; exact fm_lp_0 hf
    | succ n8 ih8 =>
      intro v2 H locs ls E hl hf
      have hf : pModel_isQuiet_L8b N M w8_v1 (fm_lp (pModel_isQuiet_L8 N M w8_v1) n8) v2 = some r := hf
      unfold pModel_isQuiet_L8b at hf
      refine lv_iload_n C.1 C.2.1 dX10_isQuiet_8 rfl (lv_at hl 2 rfl) ?_
      refine lv_aload_n C.1 C.2.1 dX10_isQuiet_9 rfl (lv_at hl 0 rfl) ?_
      refine fm_getr C E lf_X10_9 hM_0 rfl dX10_isQuiet_10 ?_
      refine lv_bipush (v := 38) C.1 C.2.1 dX10_isQuiet_13 (by decide) ?_
      refine fm_ialdc C E 38 (by decide) hM_1 (by decide) dX10_isQuiet_15 ?_
      refine lv_aload_n C.1 C.2.1 dX10_isQuiet_16 rfl (lv_at hl 0 rfl) ?_
      refine fm_getr C E lf_X10_9 hM_0 rfl dX10_isQuiet_17 ?_
      refine lv_bipush (v := 39) C.1 C.2.1 dX10_isQuiet_20 (by decide) ?_
      refine fm_ialdc C E 39 (by decide) hM_1 (by decide) dX10_isQuiet_22 ?_
      refine lv_iadd C.1 C.2.1 dX10_isQuiet_23 ?_
      refine lv_icmp_ge (tgt := 44) C.1 C.2.1 dX10_isQuiet_24 (by decide) (fun hc24 => ?_) (fun hc24 => ?_)
      · have hf := fm_ip hf hc24
        refine lv_iconst (v := 1) C.1 C.2.1 dX10_isQuiet_44 (by decide) ?_
        obtain rfl := fm_rt1 hf
        exact fm_iret C E rfl rfl dX10_isQuiet_45
      · have hf := fm_in' hf hc24
        refine lv_aload_n C.1 C.2.1 dX10_isQuiet_27 rfl (lv_at hl 0 rfl) ?_
        refine lv_iload_n C.1 C.2.1 dX10_isQuiet_28 rfl (lv_at hl 1 rfl) ?_
        refine lv_iload_n C.1 C.2.1 dX10_isQuiet_29 rfl (lv_at hl 2 rfl) ?_
        obtain ⟨x30, hc30, hf⟩ := fm_bd hf
        refine fm_callV C E [.int _, .int _] [] lm_X10_179 wk_X10_heard (c_Model_heard l G _ _ _ _  hc30) hM_0 rfl rfl rfl hl.1 (by simp [Value.category]) ⟨⟨rfl, rfl⟩, by decide, by decide⟩ ⟨by decide, by decide⟩ dX10_isQuiet_30 rfl (fun H locs E => ?_)
        refine W.eq (g2 := F0 m 33 ls (.int x30 :: [])) rfl ?_
        refine lv_if_eq (tgt := 38) C.1 C.2.1 dX10_isQuiet_33 (by decide) (fun hc33 => ?_) (fun hc33 => ?_)
        · have hf := fm_ip hf hc33
          refine fm_iinc C (v := 1) (lv' := [(2, .int _), (0, .ref _), (1, .int _)]) (k := 2) hl rfl (by decide) (by decide) rfl dX10_isQuiet_38 (fun ls hl => ?_)
          refine lv_goto (tgt := 8) C.1 C.2.1 dX10_isQuiet_41 (by decide) ?_
          exact ih8 _ _ _ _ E (lv_sub hl [1, 2, 0] rfl) hf
        · have hf := fm_in' hf hc33
          refine lv_iconst (v := 0) C.1 C.2.1 dX10_isQuiet_36 (by decide) ?_
          obtain rfl := fm_rt1 hf
          exact fm_iret C E rfl rfl dX10_isQuiet_37
  unfold pModel_isQuiet at hf
  refine lv_aload_n C.1 C.2.1 dX10_isQuiet_0 rfl (lv_at hl 0 rfl) ?_
  refine fm_getr C E lf_X10_9 hM_0 rfl dX10_isQuiet_1 ?_
  refine lv_bipush (v := 38) C.1 C.2.1 dX10_isQuiet_4 (by decide) ?_
  refine fm_ialdc C E 38 (by decide) hM_1 (by decide) dX10_isQuiet_6 ?_
  refine lv_istore_n (lv' := [(2, .int _), (0, .ref _), (1, .int _)]) C.1 C.2.1 dX10_isQuiet_7 rfl hl (by decide) rfl (fun ls hl => ?_)
  exact L8 _ N _ _ _ _ E (lv_sub hl [1, 2, 0] rfl) hf
