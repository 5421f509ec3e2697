theorem dX9_holds_0 : decode cX9_holds 0 = .ok (.aload_n 0, 1) := by decide +kernel
theorem dX9_holds_1 : decode cX9_holds 1 = .ok (.getfield 16, 3) := by decide +kernel
theorem dX9_holds_4 : decode cX9_holds 4 = .ok (.aload_n 0, 1) := by decide +kernel
theorem dX9_holds_5 : decode cX9_holds 5 = .ok (.getfield 10, 3) := by decide +kernel
theorem dX9_holds_8 : decode cX9_holds 8 = .ok (.invokevirtual 99, 3) := by decide +kernel
theorem dX9_holds_11 : decode cX9_holds 11 = .ok (.aload_n 0, 1) := by decide +kernel
theorem dX9_holds_12 : decode cX9_holds 12 = .ok (.aload_n 0, 1) := by decide +kernel
theorem dX9_holds_13 : decode cX9_holds 13 = .ok (.getfield 10, 3) := by decide +kernel
theorem dX9_holds_16 : decode cX9_holds 16 = .ok (.iload_n 1, 1) := by decide +kernel
theorem dX9_holds_17 : decode cX9_holds 17 = .ok (.iload_n 2, 1) := by decide +kernel
theorem dX9_holds_18 : decode cX9_holds 18 = .ok (.invokevirtual 320, 3) := by decide +kernel
theorem dX9_holds_21 : decode cX9_holds 21 = .ok (.invokevirtual 106, 3) := by decide +kernel
theorem dX9_holds_24 : decode cX9_holds 24 = .ok (.ireturn, 1) := by decide +kernel
set_option maxHeartbeats 4000000 in
set_option maxRecDepth 100000 in
theorem c_MicRow_holds (l : Launch) (G : fm_G) (N : Nat) (M : fm_M) (v1 : Int32) (v2 : Int32) (r : Int32) (M' : fm_M) (hf : pMicRow_holds N M v1 v2 = some (r, M')) : fm_Met l yX9_holds cX9_holds 3 (some .int) { frames := 4, cells := 0, slots := 0, locals := 90 } shC G [.ref (G.2.1 0), .int v1, .int v2] M (some (.int r)) M' := by
  refine fm_enter (by decide) (Nat.le_of_ble_eq_true rfl) ?_
  intro p e s m args below meth c ls C E hl
  have hl : lv_has ls 3 [(0, .ref (G.2.1 0)), (1, .int v1), (2, .int v2)] := hl
  unfold pMicRow_holds at hf
  refine lv_aload_n C.1 C.2.1 dX9_holds_0 rfl (lv_at hl 0 rfl) ?_
  refine fm_getr C E lf_X9_16 hC_0 rfl dX9_holds_1 ?_
  refine lv_aload_n C.1 C.2.1 dX9_holds_4 rfl (lv_at hl 0 rfl) ?_
  refine fm_getr C E lf_X9_10 hC_0 rfl dX9_holds_5 ?_
  obtain ⟨M8, hc8, hf⟩ := fm_bd hf
  refine fm_callV C E [.ref _] [] lm_X9_99 wk_X7_copyFrom (c_Scene_copyFrom l G N _ _ _ _ hc8) hC_15 rfl rfl rfl hl.1 (by simp [Value.category]) ⟨⟨rfl, rfl⟩, by decide, by decide⟩ ⟨by decide, by decide⟩ dX9_holds_8 rfl (fun H locs E => ?_)
  refine W.eq (g2 := F0 m 11 ls []) rfl ?_
  refine lv_aload_n C.1 C.2.1 dX9_holds_11 rfl (lv_at hl 0 rfl) ?_
  refine lv_aload_n C.1 C.2.1 dX9_holds_12 rfl (lv_at hl 0 rfl) ?_
  refine fm_getr C E lf_X9_10 hC_0 rfl dX9_holds_13 ?_
  refine lv_iload_n C.1 C.2.1 dX9_holds_16 rfl (lv_at hl 1 rfl) ?_
  refine lv_iload_n C.1 C.2.1 dX9_holds_17 rfl (lv_at hl 2 rfl) ?_
  obtain ⟨⟨x18, M18⟩, hc18, hf⟩ := fm_bd hf
  dsimp only at hf
  refine fm_callV C E [.int _, .int _] [.ref _] lm_X9_320 wk_X7_hold (c_Scene_hold l G _ _ _ _ _ hc18) hC_1 rfl rfl rfl hl.1 (by simp [Value.category]) ⟨⟨rfl, rfl⟩, by decide, by decide⟩ ⟨by decide, by decide⟩ dX9_holds_18 rfl (fun H locs E => ?_)
  refine W.eq (g2 := F0 m 21 ls (.int x18 :: [.ref _])) rfl ?_
  obtain ⟨⟨x21, M21⟩, hc21, hf⟩ := fm_bd hf
  dsimp only at hf
  refine fm_callV C E [.int _] [] lm_X9_106 wk_X9_settleChange (c_MicRow_settleChange l G N _ _ _ _ hc21) hC_0 rfl rfl rfl hl.1 (by simp [Value.category]) ⟨⟨rfl, rfl⟩, by decide, by decide⟩ ⟨by decide, by decide⟩ dX9_holds_21 rfl (fun H locs E => ?_)
  refine W.eq (g2 := F0 m 24 ls (.int x21 :: [])) rfl ?_
  obtain ⟨rfl, rfl⟩ := fm_rt2 hf
  exact fm_iret C E rfl rfl dX9_holds_24
theorem dX9_moves_0 : decode cX9_moves 0 = .ok (.aload_n 0, 1) := by decide +kernel
theorem dX9_moves_1 : decode cX9_moves 1 = .ok (.getfield 16, 3) := by decide +kernel
theorem dX9_moves_4 : decode cX9_moves 4 = .ok (.aload_n 0, 1) := by decide +kernel
theorem dX9_moves_5 : decode cX9_moves 5 = .ok (.getfield 10, 3) := by decide +kernel
theorem dX9_moves_8 : decode cX9_moves 8 = .ok (.invokevirtual 99, 3) := by decide +kernel
theorem dX9_moves_11 : decode cX9_moves 11 = .ok (.aload_n 0, 1) := by decide +kernel
theorem dX9_moves_12 : decode cX9_moves 12 = .ok (.aload_n 0, 1) := by decide +kernel
theorem dX9_moves_13 : decode cX9_moves 13 = .ok (.getfield 10, 3) := by decide +kernel
theorem dX9_moves_16 : decode cX9_moves 16 = .ok (.iload_n 1, 1) := by decide +kernel
theorem dX9_moves_17 : decode cX9_moves 17 = .ok (.iload_n 2, 1) := by decide +kernel
theorem dX9_moves_18 : decode cX9_moves 18 = .ok (.invokevirtual 323, 3) := by decide +kernel
theorem dX9_moves_21 : decode cX9_moves 21 = .ok (.invokevirtual 106, 3) := by decide +kernel
theorem dX9_moves_24 : decode cX9_moves 24 = .ok (.ireturn, 1) := by decide +kernel
set_option maxHeartbeats 4000000 in
set_option maxRecDepth 100000 in
theorem c_MicRow_moves (l : Launch) (G : fm_G) (N : Nat) (M : fm_M) (v1 : Int32) (v2 : Int32) (r : Int32) (M' : fm_M) (hf : pMicRow_moves N M v1 v2 = some (r, M')) : fm_Met l yX9_moves cX9_moves 3 (some .int) { frames := 4, cells := 0, slots := 0, locals := 90 } shC G [.ref (G.2.1 0), .int v1, .int v2] M (some (.int r)) M' := by
  refine fm_enter (by decide) (Nat.le_of_ble_eq_true rfl) ?_
  intro p e s m args below meth c ls C E hl
  have hl : lv_has ls 3 [(0, .ref (G.2.1 0)), (1, .int v1), (2, .int v2)] := hl
  unfold pMicRow_moves at hf
  refine lv_aload_n C.1 C.2.1 dX9_moves_0 rfl (lv_at hl 0 rfl) ?_
  refine fm_getr C E lf_X9_16 hC_0 rfl dX9_moves_1 ?_
  refine lv_aload_n C.1 C.2.1 dX9_moves_4 rfl (lv_at hl 0 rfl) ?_
  refine fm_getr C E lf_X9_10 hC_0 rfl dX9_moves_5 ?_
  obtain ⟨M8, hc8, hf⟩ := fm_bd hf
  refine fm_callV C E [.ref _] [] lm_X9_99 wk_X7_copyFrom (c_Scene_copyFrom l G N _ _ _ _ hc8) hC_15 rfl rfl rfl hl.1 (by simp [Value.category]) ⟨⟨rfl, rfl⟩, by decide, by decide⟩ ⟨by decide, by decide⟩ dX9_moves_8 rfl (fun H locs E => ?_)
  refine W.eq (g2 := F0 m 11 ls []) rfl ?_
  refine lv_aload_n C.1 C.2.1 dX9_moves_11 rfl (lv_at hl 0 rfl) ?_
  refine lv_aload_n C.1 C.2.1 dX9_moves_12 rfl (lv_at hl 0 rfl) ?_
  refine fm_getr C E lf_X9_10 hC_0 rfl dX9_moves_13 ?_
  refine lv_iload_n C.1 C.2.1 dX9_moves_16 rfl (lv_at hl 1 rfl) ?_
  refine lv_iload_n C.1 C.2.1 dX9_moves_17 rfl (lv_at hl 2 rfl) ?_
  obtain ⟨⟨x18, M18⟩, hc18, hf⟩ := fm_bd hf
  dsimp only at hf
  refine fm_callV C E [.int _, .int _] [.ref _] lm_X9_323 wk_X7_move (c_Scene_move l G _ _ _ _ _ hc18) hC_1 rfl rfl rfl hl.1 (by simp [Value.category]) ⟨⟨rfl, rfl⟩, by decide, by decide⟩ ⟨by decide, by decide⟩ dX9_moves_18 rfl (fun H locs E => ?_)
  refine W.eq (g2 := F0 m 21 ls (.int x18 :: [.ref _])) rfl ?_
  obtain ⟨⟨x21, M21⟩, hc21, hf⟩ := fm_bd hf
  dsimp only at hf
  refine fm_callV C E [.int _] [] lm_X9_106 wk_X9_settleChange (c_MicRow_settleChange l G N _ _ _ _ hc21) hC_0 rfl rfl rfl hl.1 (by simp [Value.category]) ⟨⟨rfl, rfl⟩, by decide, by decide⟩ ⟨by decide, by decide⟩ dX9_moves_21 rfl (fun H locs E => ?_)
  refine W.eq (g2 := F0 m 24 ls (.int x21 :: [])) rfl ?_
  obtain ⟨rfl, rfl⟩ := fm_rt2 hf
  exact fm_iret C E rfl rfl dX9_moves_24
theorem dX9_aims_0 : decode cX9_aims 0 = .ok (.aload_n 0, 1) := by decide +kernel
theorem dX9_aims_1 : decode cX9_aims 1 = .ok (.getfield 16, 3) := by decide +kernel
theorem dX9_aims_4 : decode cX9_aims 4 = .ok (.aload_n 0, 1) := by decide +kernel
theorem dX9_aims_5 : decode cX9_aims 5 = .ok (.getfield 10, 3) := by decide +kernel
theorem dX9_aims_8 : decode cX9_aims 8 = .ok (.invokevirtual 99, 3) := by decide +kernel
theorem dX9_aims_11 : decode cX9_aims 11 = .ok (.aload_n 0, 1) := by decide +kernel
theorem dX9_aims_12 : decode cX9_aims 12 = .ok (.aload_n 0, 1) := by decide +kernel
theorem dX9_aims_13 : decode cX9_aims 13 = .ok (.getfield 10, 3) := by decide +kernel
theorem dX9_aims_16 : decode cX9_aims 16 = .ok (.iload_n 1, 1) := by decide +kernel
theorem dX9_aims_17 : decode cX9_aims 17 = .ok (.iload_n 2, 1) := by decide +kernel
theorem dX9_aims_18 : decode cX9_aims 18 = .ok (.iload_n 3, 1) := by decide +kernel
theorem dX9_aims_19 : decode cX9_aims 19 = .ok (.invokevirtual 332, 3) := by decide +kernel
theorem dX9_aims_22 : decode cX9_aims 22 = .ok (.invokevirtual 106, 3) := by decide +kernel
theorem dX9_aims_25 : decode cX9_aims 25 = .ok (.ireturn, 1) := by decide +kernel
set_option maxHeartbeats 4000000 in
set_option maxRecDepth 100000 in
theorem c_MicRow_aims (l : Launch) (G : fm_G) (N : Nat) (M : fm_M) (v1 : Int32) (v2 : Int32) (v3 : Int32) (r : Int32) (M' : fm_M) (hf : pMicRow_aims N M v1 v2 v3 = some (r, M')) : fm_Met l yX9_aims cX9_aims 4 (some .int) { frames := 4, cells := 0, slots := 0, locals := 90 } shC G [.ref (G.2.1 0), .int v1, .int v2, .int v3] M (some (.int r)) M' := by
  refine fm_enter (by decide) (Nat.le_of_ble_eq_true rfl) ?_
  intro p e s m args below meth c ls C E hl
  have hl : lv_has ls 4 [(0, .ref (G.2.1 0)), (1, .int v1), (2, .int v2), (3, .int v3)] := hl
  unfold pMicRow_aims at hf
  refine lv_aload_n C.1 C.2.1 dX9_aims_0 rfl (lv_at hl 0 rfl) ?_
  refine fm_getr C E lf_X9_16 hC_0 rfl dX9_aims_1 ?_
  refine lv_aload_n C.1 C.2.1 dX9_aims_4 rfl (lv_at hl 0 rfl) ?_
  refine fm_getr C E lf_X9_10 hC_0 rfl dX9_aims_5 ?_
  obtain ⟨M8, hc8, hf⟩ := fm_bd hf
  refine fm_callV C E [.ref _] [] lm_X9_99 wk_X7_copyFrom (c_Scene_copyFrom l G N _ _ _ _ hc8) hC_15 rfl rfl rfl hl.1 (by simp [Value.category]) ⟨⟨rfl, rfl⟩, by decide, by decide⟩ ⟨by decide, by decide⟩ dX9_aims_8 rfl (fun H locs E => ?_)
  refine W.eq (g2 := F0 m 11 ls []) rfl ?_
  refine lv_aload_n C.1 C.2.1 dX9_aims_11 rfl (lv_at hl 0 rfl) ?_
  refine lv_aload_n C.1 C.2.1 dX9_aims_12 rfl (lv_at hl 0 rfl) ?_
  refine fm_getr C E lf_X9_10 hC_0 rfl dX9_aims_13 ?_
  refine lv_iload_n C.1 C.2.1 dX9_aims_16 rfl (lv_at hl 1 rfl) ?_
  refine lv_iload_n C.1 C.2.1 dX9_aims_17 rfl (lv_at hl 2 rfl) ?_
  refine lv_iload_n C.1 C.2.1 dX9_aims_18 rfl (lv_at hl 3 rfl) ?_
  obtain ⟨⟨x19, M19⟩, hc19, hf⟩ := fm_bd hf
  dsimp only at hf
  refine fm_callV C E [.int _, .int _, .int _] [.ref _] lm_X9_332 wk_X7_aim (c_Scene_aim l G _ _ _ _ _ _ hc19) hC_1 rfl rfl rfl hl.1 (by simp [Value.category]) ⟨⟨rfl, rfl⟩, by decide, by decide⟩ ⟨by decide, by decide⟩ dX9_aims_19 rfl (fun H locs E => ?_)
  refine W.eq (g2 := F0 m 22 ls (.int x19 :: [.ref _])) rfl ?_
  obtain ⟨⟨x22, M22⟩, hc22, hf⟩ := fm_bd hf
  dsimp only at hf
  refine fm_callV C E [.int _] [] lm_X9_106 wk_X9_settleChange (c_MicRow_settleChange l G N _ _ _ _ hc22) hC_0 rfl rfl rfl hl.1 (by simp [Value.category]) ⟨⟨rfl, rfl⟩, by decide, by decide⟩ ⟨by decide, by decide⟩ dX9_aims_22 rfl (fun H locs E => ?_)
  refine W.eq (g2 := F0 m 25 ls (.int x22 :: [])) rfl ?_
  obtain ⟨rfl, rfl⟩ := fm_rt2 hf
  exact fm_iret C E rfl rfl dX9_aims_25
theorem dX9_goes_0 : decode cX9_goes 0 = .ok (.aload_n 0, 1) := by decide +kernel
theorem dX9_goes_1 : decode cX9_goes 1 = .ok (.getfield 16, 3) := by decide +kernel
theorem dX9_goes_4 : decode cX9_goes 4 = .ok (.aload_n 0, 1) := by decide +kernel
theorem dX9_goes_5 : decode cX9_goes 5 = .ok (.getfield 10, 3) := by decide +kernel
theorem dX9_goes_8 : decode cX9_goes 8 = .ok (.invokevirtual 99, 3) := by decide +kernel
theorem dX9_goes_11 : decode cX9_goes 11 = .ok (.aload_n 0, 1) := by decide +kernel
theorem dX9_goes_12 : decode cX9_goes 12 = .ok (.aload_n 0, 1) := by decide +kernel
theorem dX9_goes_13 : decode cX9_goes 13 = .ok (.getfield 10, 3) := by decide +kernel
theorem dX9_goes_16 : decode cX9_goes 16 = .ok (.iload_n 1, 1) := by decide +kernel
theorem dX9_goes_17 : decode cX9_goes 17 = .ok (.invokevirtual 335, 3) := by decide +kernel
theorem dX9_goes_20 : decode cX9_goes 20 = .ok (.invokevirtual 106, 3) := by decide +kernel
theorem dX9_goes_23 : decode cX9_goes 23 = .ok (.ireturn, 1) := by decide +kernel
set_option maxHeartbeats 4000000 in
set_option maxRecDepth 100000 in
theorem c_MicRow_goes (l : Launch) (G : fm_G) (N : Nat) (M : fm_M) (v1 : Int32) (r : Int32) (M' : fm_M) (hf : pMicRow_goes N M v1 = some (r, M')) : fm_Met l yX9_goes cX9_goes 2 (some .int) { frames := 4, cells := 0, slots := 0, locals := 90 } shC G [.ref (G.2.1 0), .int v1] M (some (.int r)) M' := by
  refine fm_enter (by decide) (Nat.le_of_ble_eq_true rfl) ?_
  intro p e s m args below meth c ls C E hl
  have hl : lv_has ls 2 [(0, .ref (G.2.1 0)), (1, .int v1)] := hl
  unfold pMicRow_goes at hf
  refine lv_aload_n C.1 C.2.1 dX9_goes_0 rfl (lv_at hl 0 rfl) ?_
  refine fm_getr C E lf_X9_16 hC_0 rfl dX9_goes_1 ?_
  refine lv_aload_n C.1 C.2.1 dX9_goes_4 rfl (lv_at hl 0 rfl) ?_
  refine fm_getr C E lf_X9_10 hC_0 rfl dX9_goes_5 ?_
  obtain ⟨M8, hc8, hf⟩ := fm_bd hf
  refine fm_callV C E [.ref _] [] lm_X9_99 wk_X7_copyFrom (c_Scene_copyFrom l G N _ _ _ _ hc8) hC_15 rfl rfl rfl hl.1 (by simp [Value.category]) ⟨⟨rfl, rfl⟩, by decide, by decide⟩ ⟨by decide, by decide⟩ dX9_goes_8 rfl (fun H locs E => ?_)
  refine W.eq (g2 := F0 m 11 ls []) rfl ?_
  refine lv_aload_n C.1 C.2.1 dX9_goes_11 rfl (lv_at hl 0 rfl) ?_
  refine lv_aload_n C.1 C.2.1 dX9_goes_12 rfl (lv_at hl 0 rfl) ?_
  refine fm_getr C E lf_X9_10 hC_0 rfl dX9_goes_13 ?_
  refine lv_iload_n C.1 C.2.1 dX9_goes_16 rfl (lv_at hl 1 rfl) ?_
  obtain ⟨⟨x17, M17⟩, hc17, hf⟩ := fm_bd hf
  dsimp only at hf
  refine fm_callV C E [.int _] [.ref _] lm_X9_335 wk_X7_drop (c_Scene_drop l G N _ _ _ _ hc17) hC_1 rfl rfl rfl hl.1 (by simp [Value.category]) ⟨⟨rfl, rfl⟩, by decide, by decide⟩ ⟨by decide, by decide⟩ dX9_goes_17 rfl (fun H locs E => ?_)
  refine W.eq (g2 := F0 m 20 ls (.int x17 :: [.ref _])) rfl ?_
  obtain ⟨⟨x20, M20⟩, hc20, hf⟩ := fm_bd hf
  dsimp only at hf
  refine fm_callV C E [.int _] [] lm_X9_106 wk_X9_settleChange (c_MicRow_settleChange l G N _ _ _ _ hc20) hC_0 rfl rfl rfl hl.1 (by simp [Value.category]) ⟨⟨rfl, rfl⟩, by decide, by decide⟩ ⟨by decide, by decide⟩ dX9_goes_20 rfl (fun H locs E => ?_)
  refine W.eq (g2 := F0 m 23 ls (.int x20 :: [])) rfl ?_
  obtain ⟨rfl, rfl⟩ := fm_rt2 hf
  exact fm_iret C E rfl rfl dX9_goes_23
theorem dX3_at_0 : decode cX3_at 0 = .ok (.aload_n 0, 1) := by decide +kernel
theorem dX3_at_1 : decode cX3_at 1 = .ok (.getfield 18, 3) := by decide +kernel
theorem dX3_at_4 : decode cX3_at 4 = .ok (.iload_n 1, 1) := by decide +kernel
theorem dX3_at_5 : decode cX3_at 5 = .ok (.invokevirtual 29, 3) := by decide +kernel
theorem dX3_at_8 : decode cX3_at 8 = .ok (.ifCond .eq 16, 3) := by decide +kernel
theorem dX3_at_11 : decode cX3_at 11 = .ok (.iload_n 2, 1) := by decide +kernel
theorem dX3_at_12 : decode cX3_at 12 = .ok (.sipush (-300), 3) := by decide +kernel
theorem dX3_at_15 : decode cX3_at 15 = .ok (.sipush 300, 3) := by decide +kernel
theorem dX3_at_18 : decode cX3_at 18 = .ok (.invokestatic 35, 3) := by decide +kernel
theorem dX3_at_21 : decode cX3_at 21 = .ok (.ifCond .ne 5, 3) := by decide +kernel
theorem dX3_at_24 : decode cX3_at 24 = .ok (.iconst 0, 1) := by decide +kernel
theorem dX3_at_25 : decode cX3_at 25 = .ok (.ireturn, 1) := by decide +kernel
theorem dX3_at_26 : decode cX3_at 26 = .ok (.iload_n 1, 1) := by decide +kernel
theorem dX3_at_27 : decode cX3_at 27 = .ok (.sipush 601, 3) := by decide +kernel
theorem dX3_at_30 : decode cX3_at 30 = .ok (.imul, 1) := by decide +kernel
theorem dX3_at_31 : decode cX3_at 31 = .ok (.sipush 300, 3) := by decide +kernel
theorem dX3_at_34 : decode cX3_at 34 = .ok (.iadd, 1) := by decide +kernel
theorem dX3_at_35 : decode cX3_at 35 = .ok (.iload_n 2, 1) := by decide +kernel
theorem dX3_at_36 : decode cX3_at 36 = .ok (.iadd, 1) := by decide +kernel
theorem dX3_at_37 : decode cX3_at 37 = .ok (.istore_n 3, 1) := by decide +kernel
theorem dX3_at_38 : decode cX3_at 38 = .ok (.aload_n 0, 1) := by decide +kernel
theorem dX3_at_39 : decode cX3_at 39 = .ok (.getfield 15, 3) := by decide +kernel
theorem dX3_at_42 : decode cX3_at 42 = .ok (.iload_n 3, 1) := by decide +kernel
theorem dX3_at_43 : decode cX3_at 43 = .ok (.iaload, 1) := by decide +kernel
theorem dX3_at_44 : decode cX3_at 44 = .ok (.aload_n 0, 1) := by decide +kernel
theorem dX3_at_45 : decode cX3_at 45 = .ok (.getfield 26, 3) := by decide +kernel
theorem dX3_at_48 : decode cX3_at 48 = .ok (.if_icmp .eq 25, 3) := by decide +kernel
theorem dX3_at_51 : decode cX3_at 51 = .ok (.aload_n 0, 1) := by decide +kernel
theorem dX3_at_52 : decode cX3_at 52 = .ok (.getfield 15, 3) := by decide +kernel
theorem dX3_at_55 : decode cX3_at 55 = .ok (.iload_n 3, 1) := by decide +kernel
theorem dX3_at_56 : decode cX3_at 56 = .ok (.aload_n 0, 1) := by decide +kernel
theorem dX3_at_57 : decode cX3_at 57 = .ok (.getfield 26, 3) := by decide +kernel
theorem dX3_at_60 : decode cX3_at 60 = .ok (.iastore, 1) := by decide +kernel
theorem dX3_at_61 : decode cX3_at 61 = .ok (.aload_n 0, 1) := by decide +kernel
theorem dX3_at_62 : decode cX3_at 62 = .ok (.getfield 11, 3) := by decide +kernel
theorem dX3_at_65 : decode cX3_at 65 = .ok (.iload_n 3, 1) := by decide +kernel
theorem dX3_at_66 : decode cX3_at 66 = .ok (.aload_n 0, 1) := by decide +kernel
theorem dX3_at_67 : decode cX3_at 67 = .ok (.iload_n 1, 1) := by decide +kernel
theorem dX3_at_68 : decode cX3_at 68 = .ok (.iload_n 2, 1) := by decide +kernel
theorem dX3_at_69 : decode cX3_at 69 = .ok (.invokevirtual 39, 3) := by decide +kernel
theorem dX3_at_72 : decode cX3_at 72 = .ok (.iastore, 1) := by decide +kernel
theorem dX3_at_73 : decode cX3_at 73 = .ok (.aload_n 0, 1) := by decide +kernel
theorem dX3_at_74 : decode cX3_at 74 = .ok (.getfield 11, 3) := by decide +kernel
theorem dX3_at_77 : decode cX3_at 77 = .ok (.iload_n 3, 1) := by decide +kernel
theorem dX3_at_78 : decode cX3_at 78 = .ok (.iaload, 1) := by decide +kernel
theorem dX3_at_79 : decode cX3_at 79 = .ok (.ireturn, 1) := by decide +kernel
set_option maxHeartbeats 4000000 in
set_option maxRecDepth 100000 in
theorem c_Ears_at (l : Launch) (G : fm_G) (N : Nat) (M : fm_M) (v1 : Int32) (v2 : Int32) (r : Int32) (M' : fm_M) (hf : pEars_at N M v1 v2 = some (r, M')) : fm_Met l yX3_at cX3_at 4 (some .int) { frames := 3, cells := 0, slots := 0, locals := 73 } shC G [.ref (G.2.1 178), .int v1, .int v2] M (some (.int r)) M' := by
  refine fm_enter (by decide) (Nat.le_of_ble_eq_true rfl) ?_
  intro p e s m args below meth c ls C E hl
  have hl : lv_has ls 4 [(0, .ref (G.2.1 178)), (1, .int v1), (2, .int v2)] := hl
  have J73 : ∀ (M : fm_M) (v3 : Int32) (H : Heap) (locs : List Loc) (ls : Array Slot), fm_Wd shC G M s H locs → lv_has ls 4 [(0, .ref (G.2.1 178)), (3, .int v3)] → pEars_at_J73 N M v3 = some (r, M') → W p l e { frames := 3, cells := 0, slots := 0, locals := 73 } s m args below meth c H locs 0 0 (fm_Z below shC G args s (some (.int r)) M') (F0 m 73 ls []) := by
    intro M v3 H locs ls E hl hf
    unfold pEars_at_J73 at hf
    refine lv_aload_n C.1 C.2.1 dX3_at_73 rfl (lv_at hl 0 rfl) ?_
    refine fm_getr C E lf_X3_11 hC_178 rfl dX3_at_74 ?_
    refine lv_iload_n C.1 C.2.1 dX3_at_77 rfl (lv_at hl 1 rfl) ?_
    obtain ⟨h78, x78, e78, hf⟩ := fm_ld_e hf
    refine fm_iald' C E e78 hC_179 h78 dX3_at_78 ?_
    obtain ⟨rfl, rfl⟩ := fm_rt2 hf
    exact fm_iret C E rfl rfl dX3_at_79
  unfold pEars_at at hf
  refine lv_aload_n C.1 C.2.1 dX3_at_0 rfl (lv_at hl 0 rfl) ?_
  refine fm_getr C E lf_X3_18 hC_178 rfl dX3_at_1 ?_
  refine lv_iload_n C.1 C.2.1 dX3_at_4 rfl (lv_at hl 1 rfl) ?_
  obtain ⟨x5, hc5, hf⟩ := fm_bd hf
  refine fm_callV C E [.int _] [] lm_X3_29 wk_X7_hasMic (c_Scene_hasMic l G _ _ _  hc5) hC_1 rfl rfl rfl hl.1 (by simp [Value.category]) ⟨⟨rfl, rfl⟩, by decide, by decide⟩ ⟨by decide, by decide⟩ dX3_at_5 rfl (fun H locs E => ?_)
  refine W.eq (g2 := F0 m 8 ls (.int x5 :: [])) rfl ?_
  refine lv_if_eq (tgt := 24) C.1 C.2.1 dX3_at_8 (by decide) (fun hc8 => ?_) (fun hc8 => ?_)
  · have hf := fm_ip hf hc8
    refine lv_iconst (v := 0) C.1 C.2.1 dX3_at_24 (by decide) ?_
    obtain ⟨rfl, rfl⟩ := fm_rt2 hf
    exact fm_iret C E rfl rfl dX3_at_25
  · have hf := fm_in' hf hc8
    refine lv_iload_n C.1 C.2.1 dX3_at_11 rfl (lv_at hl 2 rfl) ?_
    refine lv_sipush (v := (-300)) C.1 C.2.1 dX3_at_12 (by decide) ?_
    refine lv_sipush (v := 300) C.1 C.2.1 dX3_at_15 (by decide) ?_
    obtain ⟨x18, hc18, hf⟩ := fm_bd hf
    refine fm_callS C E [.int _, .int _, .int _] [] lm_X3_35 wk_X9_within (c_MicRow_within l G _ _ _ _ _  hc18) rfl hl.1 (by simp [Value.category]) ⟨⟨rfl, rfl⟩, by decide, by decide⟩ ⟨by decide, by decide⟩ dX3_at_18 rfl (fun H locs E => ?_)
    refine W.eq (g2 := F0 m 21 ls (.int x18 :: [])) rfl ?_
    refine lv_if_ne (tgt := 26) C.1 C.2.1 dX3_at_21 (by decide) (fun hc21 => ?_) (fun hc21 => ?_)
    · have hf := fm_in' hf hc21
      refine lv_iload_n C.1 C.2.1 dX3_at_26 rfl (lv_at hl 1 rfl) ?_
      refine lv_sipush (v := 601) C.1 C.2.1 dX3_at_27 (by decide) ?_
      refine lv_imul C.1 C.2.1 dX3_at_30 ?_
      refine lv_sipush (v := 300) C.1 C.2.1 dX3_at_31 (by decide) ?_
      refine lv_iadd C.1 C.2.1 dX3_at_34 ?_
      refine lv_iload_n C.1 C.2.1 dX3_at_35 rfl (lv_at hl 2 rfl) ?_
      refine lv_iadd C.1 C.2.1 dX3_at_36 ?_
      refine lv_istore_n (lv' := [(3, .int _), (0, .ref _), (1, .int _), (2, .int _)]) C.1 C.2.1 dX3_at_37 rfl hl (by decide) rfl (fun ls hl => ?_)
      refine lv_aload_n C.1 C.2.1 dX3_at_38 rfl (lv_at hl 1 rfl) ?_
      refine fm_getr C E lf_X3_15 hC_178 rfl dX3_at_39 ?_
      refine lv_iload_n C.1 C.2.1 dX3_at_42 rfl (lv_at hl 0 rfl) ?_
      obtain ⟨h43, x43, e43, hf⟩ := fm_ld_e hf
      refine fm_iald' C E e43 hC_180 h43 dX3_at_43 ?_
      refine lv_aload_n C.1 C.2.1 dX3_at_44 rfl (lv_at hl 1 rfl) ?_
      refine fm_geti C E lf_X3_26 hC_178 rfl dX3_at_45 ?_
      refine lv_icmp_eq (tgt := 73) C.1 C.2.1 dX3_at_48 (by decide) (fun hc48 => ?_) (fun hc48 => ?_)
      · have hf := fm_ip hf hc48
        exact J73 _ _ _ _ _ E (lv_sub hl [1, 0] rfl) hf
      · have hf := fm_in' hf hc48
        refine lv_aload_n C.1 C.2.1 dX3_at_51 rfl (lv_at hl 1 rfl) ?_
        refine fm_getr C E lf_X3_15 hC_178 rfl dX3_at_52 ?_
        refine lv_iload_n C.1 C.2.1 dX3_at_55 rfl (lv_at hl 0 rfl) ?_
        refine lv_aload_n C.1 C.2.1 dX3_at_56 rfl (lv_at hl 1 rfl) ?_
        refine fm_geti C E lf_X3_26 hC_178 rfl dX3_at_57 ?_
        obtain ⟨h60, M60, e60, hf⟩ := fm_st_e hf
        refine fm_iast' C E e60 hC_180 h60 dX3_at_60 (fun H locs E => ?_)
        refine lv_aload_n C.1 C.2.1 dX3_at_61 rfl (lv_at hl 1 rfl) ?_
        refine fm_getr C E lf_X3_11 hC_178 rfl dX3_at_62 ?_
        refine lv_iload_n C.1 C.2.1 dX3_at_65 rfl (lv_at hl 0 rfl) ?_
        refine lv_aload_n C.1 C.2.1 dX3_at_66 rfl (lv_at hl 1 rfl) ?_
        refine lv_iload_n C.1 C.2.1 dX3_at_67 rfl (lv_at hl 2 rfl) ?_
        refine lv_iload_n C.1 C.2.1 dX3_at_68 rfl (lv_at hl 3 rfl) ?_
        obtain ⟨x69, hc69, hf⟩ := fm_bd hf
        refine fm_callV C E [.int _, .int _] [.int _, .ref _] lm_X3_39 wk_X3_reckon (c_Ears_reckon l G N _ _ _ _  hc69) hC_178 rfl rfl rfl hl.1 (by simp [Value.category]) ⟨⟨rfl, rfl⟩, by decide, by decide⟩ ⟨by decide, by decide⟩ dX3_at_69 rfl (fun H locs E => ?_)
        refine W.eq (g2 := F0 m 72 ls (.int x69 :: [.int _, .ref _])) rfl ?_
        obtain ⟨h72, M72, e72, hf⟩ := fm_st_e hf
        refine fm_iast' C E e72 hC_179 h72 dX3_at_72 (fun H locs E => ?_)
        exact J73 _ _ _ _ _ E (lv_sub hl [1, 0] rfl) hf
    · have hf := fm_ip hf hc21
      refine lv_iconst (v := 0) C.1 C.2.1 dX3_at_24 (by decide) ?_
      obtain ⟨rfl, rfl⟩ := fm_rt2 hf
      exact fm_iret C E rfl rfl dX3_at_25
theorem dX9_alikeWhenShifted_0 : decode cX9_alikeWhenShifted 0 = .ok (.iconst 0, 1) := by decide +kernel
theorem dX9_alikeWhenShifted_1 : decode cX9_alikeWhenShifted 1 = .ok (.istore 4, 2) := by decide +kernel
theorem dX9_alikeWhenShifted_3 : decode cX9_alikeWhenShifted 3 = .ok (.iconst 0, 1) := by decide +kernel
theorem dX9_alikeWhenShifted_4 : decode cX9_alikeWhenShifted 4 = .ok (.istore 5, 2) := by decide +kernel
theorem dX9_alikeWhenShifted_6 : decode cX9_alikeWhenShifted 6 = .ok (.iload 5, 2) := by decide +kernel
theorem dX9_alikeWhenShifted_8 : decode cX9_alikeWhenShifted 8 = .ok (.aload_n 0, 1) := by decide +kernel
theorem dX9_alikeWhenShifted_9 : decode cX9_alikeWhenShifted 9 = .ok (.getfield 10, 3) := by decide +kernel
theorem dX9_alikeWhenShifted_12 : decode cX9_alikeWhenShifted 12 = .ok (.invokevirtual 211, 3) := by decide +kernel
theorem dX9_alikeWhenShifted_15 : decode cX9_alikeWhenShifted 15 = .ok (.if_icmp .ge 55, 3) := by decide +kernel
theorem dX9_alikeWhenShifted_18 : decode cX9_alikeWhenShifted 18 = .ok (.aload_n 0, 1) := by decide +kernel
theorem dX9_alikeWhenShifted_19 : decode cX9_alikeWhenShifted 19 = .ok (.getfield 10, 3) := by decide +kernel
theorem dX9_alikeWhenShifted_22 : decode cX9_alikeWhenShifted 22 = .ok (.invokevirtual 208, 3) := by decide +kernel
theorem dX9_alikeWhenShifted_25 : decode cX9_alikeWhenShifted 25 = .ok (.iload 5, 2) := by decide +kernel
theorem dX9_alikeWhenShifted_27 : decode cX9_alikeWhenShifted 27 = .ok (.iadd, 1) := by decide +kernel
theorem dX9_alikeWhenShifted_28 : decode cX9_alikeWhenShifted 28 = .ok (.istore 6, 2) := by decide +kernel
theorem dX9_alikeWhenShifted_30 : decode cX9_alikeWhenShifted 30 = .ok (.aload_n 0, 1) := by decide +kernel
theorem dX9_alikeWhenShifted_31 : decode cX9_alikeWhenShifted 31 = .ok (.getfield 62, 3) := by decide +kernel
theorem dX9_alikeWhenShifted_34 : decode cX9_alikeWhenShifted 34 = .ok (.iload_n 1, 1) := by decide +kernel
theorem dX9_alikeWhenShifted_35 : decode cX9_alikeWhenShifted 35 = .ok (.iload 6, 2) := by decide +kernel
theorem dX9_alikeWhenShifted_37 : decode cX9_alikeWhenShifted 37 = .ok (.iload_n 3, 1) := by decide +kernel
theorem dX9_alikeWhenShifted_38 : decode cX9_alikeWhenShifted 38 = .ok (.iadd, 1) := by decide +kernel
theorem dX9_alikeWhenShifted_39 : decode cX9_alikeWhenShifted 39 = .ok (.invokevirtual 154, 3) := by decide +kernel
theorem dX9_alikeWhenShifted_42 : decode cX9_alikeWhenShifted 42 = .ok (.invokestatic 263, 3) := by decide +kernel
theorem dX9_alikeWhenShifted_45 : decode cX9_alikeWhenShifted 45 = .ok (.aload_n 0, 1) := by decide +kernel
theorem dX9_alikeWhenShifted_46 : decode cX9_alikeWhenShifted 46 = .ok (.getfield 62, 3) := by decide +kernel
theorem dX9_alikeWhenShifted_49 : decode cX9_alikeWhenShifted 49 = .ok (.iload_n 2, 1) := by decide +kernel
theorem dX9_alikeWhenShifted_50 : decode cX9_alikeWhenShifted 50 = .ok (.iload 6, 2) := by decide +kernel
theorem dX9_alikeWhenShifted_52 : decode cX9_alikeWhenShifted 52 = .ok (.invokevirtual 154, 3) := by decide +kernel
theorem dX9_alikeWhenShifted_55 : decode cX9_alikeWhenShifted 55 = .ok (.invokestatic 263, 3) := by decide +kernel
theorem dX9_alikeWhenShifted_58 : decode cX9_alikeWhenShifted 58 = .ok (.if_icmp .ne 6, 3) := by decide +kernel
theorem dX9_alikeWhenShifted_61 : decode cX9_alikeWhenShifted 61 = .ok (.iinc 4 1, 3) := by decide +kernel
theorem dX9_alikeWhenShifted_64 : decode cX9_alikeWhenShifted 64 = .ok (.iinc 5 1, 3) := by decide +kernel
theorem dX9_alikeWhenShifted_67 : decode cX9_alikeWhenShifted 67 = .ok (.goto (-61), 3) := by decide +kernel
theorem dX9_alikeWhenShifted_70 : decode cX9_alikeWhenShifted 70 = .ok (.iload 4, 2) := by decide +kernel
theorem dX9_alikeWhenShifted_72 : decode cX9_alikeWhenShifted 72 = .ok (.ireturn, 1) := by decide +kernel
set_option maxHeartbeats 4000000 in
set_option maxRecDepth 100000 in
theorem c_MicRow_alikeWhenShifted (l : Launch) (G : fm_G) (N : Nat) (M : fm_M) (v1 : Int32) (v2 : Int32) (v3 : Int32) (r : Int32) (M' : fm_M) (hf : pMicRow_alikeWhenShifted N M v1 v2 v3 = some (r, M')) : fm_Met l yX9_alikeWhenShifted cX9_alikeWhenShifted 7 (some .int) { frames := 4, cells := 0, slots := 0, locals := 96 } shC G [.ref (G.2.1 0), .int v1, .int v2, .int v3] M (some (.int r)) M' := by
  refine fm_enter (by decide) (Nat.le_of_ble_eq_true rfl) ?_
  intro p e s m args below meth c ls C E hl
  have hl : lv_has ls 7 [(0, .ref (G.2.1 0)), (1, .int v1), (2, .int v2), (3, .int v3)] := hl
  have L6 : ∀ (w6_v1 : Int32) (w6_v2 : Int32) (w6_v3 : Int32) (n6 : Nat) (v4 : Int32) (v5 : Int32) (M : fm_M) (H : Heap) (locs : List Loc) (ls : Array Slot), fm_Wd shC G M s H locs → lv_has ls 7 [(0, .ref (G.2.1 0)), (1, .int w6_v1), (2, .int w6_v2), (3, .int w6_v3), (4, .int v4), (5, .int v5)] → fm_lp (pMicRow_alikeWhenShifted_L6 N w6_v1 w6_v2 w6_v3) n6 (v4, v5, M) = some (r, M') → W p l e { frames := 4, cells := 0, slots := 0, locals := 96 } s m args below meth c H locs 0 0 (fm_Z below shC G args s (some (.int r)) M') (F0 m 6 ls []) := by
    intro w6_v1 w6_v2 w6_v3 n6
    induction n6 with
    | zero => intro v4 v5 M H locs ls E hl hf; exact fm_lp_0 hf
    | succ n6 ih6 =>
      intro v4 v5 M H locs ls E hl hf
      have hf : pMicRow_alikeWhenShifted_L6b N w6_v1 w6_v2 w6_v3 (fm_lp (pMicRow_alikeWhenShifted_L6 N w6_v1 w6_v2 w6_v3) n6) v4 v5 M = some (r, M') := hf
      unfold pMicRow_alikeWhenShifted_L6b at hf
      refine lv_iload C.1 C.2.1 dX9_alikeWhenShifted_6 (lv_at hl 5 rfl) ?_
      refine lv_aload_n C.1 C.2.1 dX9_alikeWhenShifted_8 rfl (lv_at hl 0 rfl) ?_
      refine fm_getr C E lf_X9_10 hC_0 rfl dX9_alikeWhenShifted_9 ?_
      obtain ⟨x12, hc12, hf⟩ := fm_bd hf
      refine fm_callV C E [] [.int _] lm_X9_211 wk_X7_length (c_Scene_length l G _ _  hc12) hC_1 rfl rfl rfl hl.1 (by simp [Value.category]) ⟨⟨rfl, rfl⟩, by decide, by decide⟩ ⟨by decide, by decide⟩ dX9_alikeWhenShifted_12 rfl (fun H locs E => ?_)
      refine W.eq (g2 := F0 m 15 ls (.int x12 :: [.int _])) rfl ?_
      refine lv_icmp_ge (tgt := 70) C.1 C.2.1 dX9_alikeWhenShifted_15 (by decide) (fun hc15 => ?_) (fun hc15 => ?_)
      · have hf := fm_ip hf hc15
        refine lv_iload C.1 C.2.1 dX9_alikeWhenShifted_70 (lv_at hl 4 rfl) ?_
        obtain ⟨rfl, rfl⟩ := fm_rt2 hf
        exact fm_iret C E rfl rfl dX9_alikeWhenShifted_72
      · have hf := fm_in' hf hc15
        refine lv_aload_n C.1 C.2.1 dX9_alikeWhenShifted_18 rfl (lv_at hl 0 rfl) ?_
        refine fm_getr C E lf_X9_10 hC_0 rfl dX9_alikeWhenShifted_19 ?_
        obtain ⟨x22, hc22, hf⟩ := fm_bd hf
        refine fm_callV C E [] [] lm_X9_208 wk_X7_begin (c_Scene_begin l G _ _  hc22) hC_1 rfl rfl rfl hl.1 (by simp [Value.category]) ⟨⟨rfl, rfl⟩, by decide, by decide⟩ ⟨by decide, by decide⟩ dX9_alikeWhenShifted_22 rfl (fun H locs E => ?_)
        refine W.eq (g2 := F0 m 25 ls (.int x22 :: [])) rfl ?_
        refine lv_iload C.1 C.2.1 dX9_alikeWhenShifted_25 (lv_at hl 5 rfl) ?_
        refine lv_iadd C.1 C.2.1 dX9_alikeWhenShifted_27 ?_
        refine lv_istore (lv' := [(6, .int _), (0, .ref _), (1, .int _), (2, .int _), (3, .int _), (4, .int _), (5, .int _)]) C.1 C.2.1 dX9_alikeWhenShifted_28 hl (by decide) rfl (fun ls hl => ?_)
        refine lv_aload_n C.1 C.2.1 dX9_alikeWhenShifted_30 rfl (lv_at hl 1 rfl) ?_
        refine fm_getr C E lf_X9_62 hC_0 rfl dX9_alikeWhenShifted_31 ?_
        refine lv_iload_n C.1 C.2.1 dX9_alikeWhenShifted_34 rfl (lv_at hl 2 rfl) ?_
        refine lv_iload C.1 C.2.1 dX9_alikeWhenShifted_35 (lv_at hl 0 rfl) ?_
        refine lv_iload_n C.1 C.2.1 dX9_alikeWhenShifted_37 rfl (lv_at hl 4 rfl) ?_
        refine lv_iadd C.1 C.2.1 dX9_alikeWhenShifted_38 ?_
        obtain ⟨⟨x39, M39⟩, hc39, hf⟩ := fm_bd hf
        dsimp only at hf
        refine fm_callV C E [.int _, .int _] [] lm_X9_154 wk_X3_at (c_Ears_at l G N _ _ _ _ _ hc39) hC_178 rfl rfl rfl hl.1 (by simp [Value.category]) ⟨⟨rfl, rfl⟩, by decide, by decide⟩ ⟨by decide, by decide⟩ dX9_alikeWhenShifted_39 rfl (fun H locs E => ?_)
        refine W.eq (g2 := F0 m 42 ls (.int x39 :: [])) rfl ?_
        obtain ⟨x42, hc42, hf⟩ := fm_bd hf
        refine fm_callS C E [.int _] [] lm_X9_263 wk_X9_signOf (c_MicRow_signOf l G _ _ _  hc42) rfl hl.1 (by simp [Value.category]) ⟨⟨rfl, rfl⟩, by decide, by decide⟩ ⟨by decide, by decide⟩ dX9_alikeWhenShifted_42 rfl (fun H locs E => ?_)
        refine W.eq (g2 := F0 m 45 ls (.int x42 :: [])) rfl ?_
        refine lv_aload_n C.1 C.2.1 dX9_alikeWhenShifted_45 rfl (lv_at hl 1 rfl) ?_
        refine fm_getr C E lf_X9_62 hC_0 rfl dX9_alikeWhenShifted_46 ?_
        refine lv_iload_n C.1 C.2.1 dX9_alikeWhenShifted_49 rfl (lv_at hl 3 rfl) ?_
        refine lv_iload C.1 C.2.1 dX9_alikeWhenShifted_50 (lv_at hl 0 rfl) ?_
        obtain ⟨⟨x52, M52⟩, hc52, hf⟩ := fm_bd hf
        dsimp only at hf
        refine fm_callV C E [.int _, .int _] [.int _] lm_X9_154 wk_X3_at (c_Ears_at l G N _ _ _ _ _ hc52) hC_178 rfl rfl rfl hl.1 (by simp [Value.category]) ⟨⟨rfl, rfl⟩, by decide, by decide⟩ ⟨by decide, by decide⟩ dX9_alikeWhenShifted_52 rfl (fun H locs E => ?_)
        refine W.eq (g2 := F0 m 55 ls (.int x52 :: [.int _])) rfl ?_
        obtain ⟨x55, hc55, hf⟩ := fm_bd hf
        refine fm_callS C E [.int _] [.int _] lm_X9_263 wk_X9_signOf (c_MicRow_signOf l G _ _ _  hc55) rfl hl.1 (by simp [Value.category]) ⟨⟨rfl, rfl⟩, by decide, by decide⟩ ⟨by decide, by decide⟩ dX9_alikeWhenShifted_55 rfl (fun H locs E => ?_)
        refine W.eq (g2 := F0 m 58 ls (.int x55 :: [.int _])) rfl ?_
        refine lv_icmp_ne (tgt := 64) C.1 C.2.1 dX9_alikeWhenShifted_58 (by decide) (fun hc58 => ?_) (fun hc58 => ?_)
        · have hf := fm_in' hf hc58
          refine fm_iinc C (v := 1) (lv' := [(5, .int _), (6, .int _), (0, .ref _), (1, .int _), (2, .int _), (3, .int _), (4, .int _)]) (k := 6) hl rfl (by decide) (by decide) rfl dX9_alikeWhenShifted_64 (fun ls hl => ?_)
          refine lv_goto (tgt := 6) C.1 C.2.1 dX9_alikeWhenShifted_67 (by decide) ?_
          exact ih6 _ _ _ _ _ _ E (lv_sub hl [2, 3, 4, 5, 6, 0] rfl) hf
        · have hf := fm_ip hf hc58
          refine fm_iinc C (v := 1) (lv' := [(4, .int _), (6, .int _), (0, .ref _), (1, .int _), (2, .int _), (3, .int _), (5, .int _)]) (k := 5) hl rfl (by decide) (by decide) rfl dX9_alikeWhenShifted_61 (fun ls hl => ?_)
          refine fm_iinc C (v := 1) (lv' := [(5, .int _), (4, .int _), (6, .int _), (0, .ref _), (1, .int _), (2, .int _), (3, .int _)]) (k := 6) hl rfl (by decide) (by decide) rfl dX9_alikeWhenShifted_64 (fun ls hl => ?_)
          refine lv_goto (tgt := 6) C.1 C.2.1 dX9_alikeWhenShifted_67 (by decide) ?_
          exact ih6 _ _ _ _ _ _ E (lv_sub hl [3, 4, 5, 6, 1, 0] rfl) hf
  unfold pMicRow_alikeWhenShifted at hf
  refine lv_iconst (v := 0) C.1 C.2.1 dX9_alikeWhenShifted_0 (by decide) ?_
  refine lv_istore (lv' := [(4, .int _), (0, .ref _), (1, .int _), (2, .int _), (3, .int _)]) C.1 C.2.1 dX9_alikeWhenShifted_1 hl (by decide) rfl (fun ls hl => ?_)
  refine lv_iconst (v := 0) C.1 C.2.1 dX9_alikeWhenShifted_3 (by decide) ?_
  refine lv_istore (lv' := [(5, .int _), (4, .int _), (0, .ref _), (1, .int _), (2, .int _), (3, .int _)]) C.1 C.2.1 dX9_alikeWhenShifted_4 hl (by decide) rfl (fun ls hl => ?_)
  exact L6 _ _ _ N _ _ _ _ _ _ E (lv_sub hl [2, 3, 4, 5, 1, 0] rfl) hf
theorem dX0_hear_0 : decode cX0_hear 0 = .ok (.aload_n 0, 1) := by decide +kernel
theorem dX0_hear_1 : decode cX0_hear 1 = .ok (.iload_n 3, 1) := by decide +kernel
theorem dX0_hear_2 : decode cX0_hear 2 = .ok (.invokevirtual 51, 3) := by decide +kernel
theorem dX0_hear_5 : decode cX0_hear 5 = .ok (.iconst 0, 1) := by decide +kernel
theorem dX0_hear_6 : decode cX0_hear 6 = .ok (.istore 4, 2) := by decide +kernel
theorem dX0_hear_8 : decode cX0_hear 8 = .ok (.iload 4, 2) := by decide +kernel
theorem dX0_hear_10 : decode cX0_hear 10 = .ok (.aload_n 0, 1) := by decide +kernel
theorem dX0_hear_11 : decode cX0_hear 11 = .ok (.getfield 35, 3) := by decide +kernel
theorem dX0_hear_14 : decode cX0_hear 14 = .ok (.if_icmp .ge 28, 3) := by decide +kernel
theorem dX0_hear_17 : decode cX0_hear 17 = .ok (.aload_n 0, 1) := by decide +kernel
theorem dX0_hear_18 : decode cX0_hear 18 = .ok (.getfield 16, 3) := by decide +kernel
theorem dX0_hear_21 : decode cX0_hear 21 = .ok (.iload 4, 2) := by decide +kernel
theorem dX0_hear_23 : decode cX0_hear 23 = .ok (.aload_n 0, 1) := by decide +kernel
theorem dX0_hear_24 : decode cX0_hear 24 = .ok (.getfield 43, 3) := by decide +kernel
theorem dX0_hear_27 : decode cX0_hear 27 = .ok (.iload_n 1, 1) := by decide +kernel
theorem dX0_hear_28 : decode cX0_hear 28 = .ok (.iload_n 2, 1) := by decide +kernel
theorem dX0_hear_29 : decode cX0_hear 29 = .ok (.iload 4, 2) := by decide +kernel
theorem dX0_hear_31 : decode cX0_hear 31 = .ok (.iadd, 1) := by decide +kernel
theorem dX0_hear_32 : decode cX0_hear 32 = .ok (.invokevirtual 55, 3) := by decide +kernel
theorem dX0_hear_35 : decode cX0_hear 35 = .ok (.iastore, 1) := by decide +kernel
theorem dX0_hear_36 : decode cX0_hear 36 = .ok (.iinc 4 1, 3) := by decide +kernel
theorem dX0_hear_39 : decode cX0_hear 39 = .ok (.goto (-31), 3) := by decide +kernel
theorem dX0_hear_42 : decode cX0_hear 42 = .ok (.return_, 1) := by decide +kernel
set_option maxHeartbeats 4000000 in
set_option maxRecDepth 100000 in
theorem c_Bench_hear (l : Launch) (G : fm_G) (N : Nat) (M : fm_M) (v1 : Int32) (v2 : Int32) (v3 : Int32) (M' : fm_M) (hf : pBench_hear N M v1 v2 v3 = some M') : fm_Met l yX0_hear cX0_hear 5 none { frames := 4, cells := 0, slots := 0, locals := 96 } shC G [.ref (G.2.1 181), .int v1, .int v2, .int v3] M none M' := by
  refine fm_enter (by decide) (Nat.le_of_ble_eq_true rfl) ?_
  intro p e s m args below meth c ls C E hl
  have hl : lv_has ls 5 [(0, .ref (G.2.1 181)), (1, .int v1), (2, .int v2), (3, .int v3)] := hl
  have L8 : ∀ (w8_v1 : Int32) (w8_v2 : Int32) (n8 : Nat) (v4 : Int32) (M : fm_M) (H : Heap) (locs : List Loc) (ls : Array Slot), fm_Wd shC G M s H locs → lv_has ls 5 [(0, .ref (G.2.1 181)), (1, .int w8_v1), (2, .int w8_v2), (4, .int v4)] → fm_lp (pBench_hear_L8 N w8_v1 w8_v2) n8 (v4, M) = some M' → W p l e { frames := 4, cells := 0, slots := 0, locals := 96 } s m args below meth c H locs 0 0 (fm_Z below shC G args s none M') (F0 m 8 ls []) := by
    intro w8_v1 w8_v2 n8
    induction n8 with
    | zero => intro v4 M H locs ls E hl hf; exact fm_lp_0 hf
    | succ n8 ih8 =>
      intro v4 M H locs ls E hl hf
      have hf : pBench_hear_L8b N w8_v1 w8_v2 (fm_lp (pBench_hear_L8 N w8_v1 w8_v2) n8) v4 M = some M' := hf
      unfold pBench_hear_L8b at hf
      refine lv_iload C.1 C.2.1 dX0_hear_8 (lv_at hl 3 rfl) ?_
      refine lv_aload_n C.1 C.2.1 dX0_hear_10 rfl (lv_at hl 0 rfl) ?_
      refine fm_geti C E lf_X0_35 hC_181 rfl dX0_hear_11 ?_
      refine lv_icmp_ge (tgt := 42) C.1 C.2.1 dX0_hear_14 (by decide) (fun hc14 => ?_) (fun hc14 => ?_)
      · have hf := fm_ip hf hc14
        obtain rfl := fm_rt1 hf
        exact fm_vret C E rfl dX0_hear_42
      · have hf := fm_in' hf hc14
        refine lv_aload_n C.1 C.2.1 dX0_hear_17 rfl (lv_at hl 0 rfl) ?_
        refine fm_getr C E lf_X0_16 hC_181 rfl dX0_hear_18 ?_
        refine lv_iload C.1 C.2.1 dX0_hear_21 (lv_at hl 3 rfl) ?_
        refine lv_aload_n C.1 C.2.1 dX0_hear_23 rfl (lv_at hl 0 rfl) ?_
        refine fm_getr C E lf_X0_43 hC_181 rfl dX0_hear_24 ?_
        refine lv_iload_n C.1 C.2.1 dX0_hear_27 rfl (lv_at hl 1 rfl) ?_
        refine lv_iload_n C.1 C.2.1 dX0_hear_28 rfl (lv_at hl 2 rfl) ?_
        refine lv_iload C.1 C.2.1 dX0_hear_29 (lv_at hl 3 rfl) ?_
        refine lv_iadd C.1 C.2.1 dX0_hear_31 ?_
        obtain ⟨⟨x32, M32⟩, hc32, hf⟩ := fm_bd hf
        dsimp only at hf
        refine fm_callV C E [.int _, .int _] [.int _, .ref _] lm_X0_55 wk_X3_at (c_Ears_at l G N _ _ _ _ _ hc32) hC_178 rfl rfl rfl hl.1 (by simp [Value.category]) ⟨⟨rfl, rfl⟩, by decide, by decide⟩ ⟨by decide, by decide⟩ dX0_hear_32 rfl (fun H locs E => ?_)
        refine W.eq (g2 := F0 m 35 ls (.int x32 :: [.int _, .ref _])) rfl ?_
        obtain ⟨h35, M35, e35, hf⟩ := fm_st_e hf
        refine fm_iast' C E e35 hC_189 h35 dX0_hear_35 (fun H locs E => ?_)
        refine fm_iinc C (v := 1) (lv' := [(4, .int _), (0, .ref _), (1, .int _), (2, .int _)]) (k := 3) hl rfl (by decide) (by decide) rfl dX0_hear_36 (fun ls hl => ?_)
        refine lv_goto (tgt := 8) C.1 C.2.1 dX0_hear_39 (by decide) ?_
        exact ih8 _ _ _ _ _ E (lv_sub hl [1, 2, 3, 0] rfl) hf
  unfold pBench_hear at hf
  refine lv_aload_n C.1 C.2.1 dX0_hear_0 rfl (lv_at hl 0 rfl) ?_
  refine lv_iload_n C.1 C.2.1 dX0_hear_1 rfl (lv_at hl 3 rfl) ?_
  obtain ⟨M2, hc2, hf⟩ := fm_bd hf
  refine fm_callV C E [.int _] [] lm_X0_51 wk_X0_setLength (c_Bench_setLength l G _ _ _ hc2) hC_181 rfl rfl rfl hl.1 (by simp [Value.category]) ⟨⟨rfl, rfl⟩, by decide, by decide⟩ ⟨by decide, by decide⟩ dX0_hear_2 rfl (fun H locs E => ?_)
  refine W.eq (g2 := F0 m 5 ls []) rfl ?_
  refine lv_iconst (v := 0) C.1 C.2.1 dX0_hear_5 (by decide) ?_
  refine lv_istore (lv' := [(4, .int _), (0, .ref _), (1, .int _), (2, .int _), (3, .int _)]) C.1 C.2.1 dX0_hear_6 hl (by decide) rfl (fun ls hl => ?_)
  exact L8 _ _ N _ _ _ _ _ E (lv_sub hl [1, 2, 3, 0] rfl) hf
theorem dX0_turnTo_0 : decode cX0_turnTo 0 = .ok (.aload_n 0, 1) := by decide +kernel
theorem dX0_turnTo_1 : decode cX0_turnTo 1 = .ok (.iload_n 3, 1) := by decide +kernel
theorem dX0_turnTo_2 : decode cX0_turnTo 2 = .ok (.invokevirtual 51, 3) := by decide +kernel
theorem dX0_turnTo_5 : decode cX0_turnTo 5 = .ok (.iconst 0, 1) := by decide +kernel
theorem dX0_turnTo_6 : decode cX0_turnTo 6 = .ok (.istore 4, 2) := by decide +kernel
theorem dX0_turnTo_8 : decode cX0_turnTo 8 = .ok (.iload 4, 2) := by decide +kernel
theorem dX0_turnTo_10 : decode cX0_turnTo 10 = .ok (.aload_n 0, 1) := by decide +kernel
theorem dX0_turnTo_11 : decode cX0_turnTo 11 = .ok (.getfield 39, 3) := by decide +kernel
theorem dX0_turnTo_14 : decode cX0_turnTo 14 = .ok (.getfield 61, 3) := by decide +kernel
theorem dX0_turnTo_17 : decode cX0_turnTo 17 = .ok (.if_icmp .ge 136, 3) := by decide +kernel
theorem dX0_turnTo_20 : decode cX0_turnTo 20 = .ok (.aload_n 0, 1) := by decide +kernel
theorem dX0_turnTo_21 : decode cX0_turnTo 21 = .ok (.getfield 39, 3) := by decide +kernel
theorem dX0_turnTo_24 : decode cX0_turnTo 24 = .ok (.getfield 66, 3) := by decide +kernel
theorem dX0_turnTo_27 : decode cX0_turnTo 27 = .ok (.iconst 0, 1) := by decide +kernel
theorem dX0_turnTo_28 : decode cX0_turnTo 28 = .ok (.aaload, 1) := by decide +kernel
theorem dX0_turnTo_29 : decode cX0_turnTo 29 = .ok (.iload 4, 2) := by decide +kernel
theorem dX0_turnTo_31 : decode cX0_turnTo 31 = .ok (.iaload, 1) := by decide +kernel
theorem dX0_turnTo_32 : decode cX0_turnTo 32 = .ok (.iload_n 1, 1) := by decide +kernel
theorem dX0_turnTo_33 : decode cX0_turnTo 33 = .ok (.imul, 1) := by decide +kernel
theorem dX0_turnTo_34 : decode cX0_turnTo 34 = .ok (.istore 5, 2) := by decide +kernel
theorem dX0_turnTo_36 : decode cX0_turnTo 36 = .ok (.iload_n 2, 1) := by decide +kernel
theorem dX0_turnTo_37 : decode cX0_turnTo 37 = .ok (.iload 5, 2) := by decide +kernel
theorem dX0_turnTo_39 : decode cX0_turnTo 39 = .ok (.iconst 3, 1) := by decide +kernel
theorem dX0_turnTo_40 : decode cX0_turnTo 40 = .ok (.ishr, 1) := by decide +kernel
theorem dX0_turnTo_41 : decode cX0_turnTo 41 = .ok (.iadd, 1) := by decide +kernel
theorem dX0_turnTo_42 : decode cX0_turnTo 42 = .ok (.istore 6, 2) := by decide +kernel
theorem dX0_turnTo_44 : decode cX0_turnTo 44 = .ok (.iload 5, 2) := by decide +kernel
theorem dX0_turnTo_46 : decode cX0_turnTo 46 = .ok (.bipush 7, 2) := by decide +kernel
theorem dX0_turnTo_48 : decode cX0_turnTo 48 = .ok (.iand, 1) := by decide +kernel
theorem dX0_turnTo_49 : decode cX0_turnTo 49 = .ok (.istore 7, 2) := by decide +kernel
theorem dX0_turnTo_51 : decode cX0_turnTo 51 = .ok (.aload_n 0, 1) := by decide +kernel
theorem dX0_turnTo_52 : decode cX0_turnTo 52 = .ok (.getfield 43, 3) := by decide +kernel
theorem dX0_turnTo_55 : decode cX0_turnTo 55 = .ok (.iload 4, 2) := by decide +kernel
theorem dX0_turnTo_57 : decode cX0_turnTo 57 = .ok (.iload 6, 2) := by decide +kernel
theorem dX0_turnTo_59 : decode cX0_turnTo 59 = .ok (.invokevirtual 55, 3) := by decide +kernel
theorem dX0_turnTo_62 : decode cX0_turnTo 62 = .ok (.istore 8, 2) := by decide +kernel
theorem dX0_turnTo_64 : decode cX0_turnTo 64 = .ok (.iconst 0, 1) := by decide +kernel
theorem dX0_turnTo_65 : decode cX0_turnTo 65 = .ok (.istore 9, 2) := by decide +kernel
theorem dX0_turnTo_67 : decode cX0_turnTo 67 = .ok (.iload 9, 2) := by decide +kernel
theorem dX0_turnTo_69 : decode cX0_turnTo 69 = .ok (.aload_n 0, 1) := by decide +kernel
theorem dX0_turnTo_70 : decode cX0_turnTo 70 = .ok (.getfield 35, 3) := by decide +kernel
theorem dX0_turnTo_73 : decode cX0_turnTo 73 = .ok (.if_icmp .ge 74, 3) := by decide +kernel
theorem dX0_turnTo_76 : decode cX0_turnTo 76 = .ok (.iload 8, 2) := by decide +kernel
theorem dX0_turnTo_78 : decode cX0_turnTo 78 = .ok (.istore 10, 2) := by decide +kernel
theorem dX0_turnTo_80 : decode cX0_turnTo 80 = .ok (.aload_n 0, 1) := by decide +kernel
theorem dX0_turnTo_81 : decode cX0_turnTo 81 = .ok (.getfield 43, 3) := by decide +kernel
theorem dX0_turnTo_84 : decode cX0_turnTo 84 = .ok (.iload 4, 2) := by decide +kernel
theorem dX0_turnTo_86 : decode cX0_turnTo 86 = .ok (.iload 6, 2) := by decide +kernel
theorem dX0_turnTo_88 : decode cX0_turnTo 88 = .ok (.iload 9, 2) := by decide +kernel
theorem dX0_turnTo_90 : decode cX0_turnTo 90 = .ok (.iadd, 1) := by decide +kernel
theorem dX0_turnTo_91 : decode cX0_turnTo 91 = .ok (.iconst 1, 1) := by decide +kernel
theorem dX0_turnTo_92 : decode cX0_turnTo 92 = .ok (.iadd, 1) := by decide +kernel
theorem dX0_turnTo_93 : decode cX0_turnTo 93 = .ok (.invokevirtual 55, 3) := by decide +kernel
theorem dX0_turnTo_96 : decode cX0_turnTo 96 = .ok (.istore 8, 2) := by decide +kernel
theorem dX0_turnTo_98 : decode cX0_turnTo 98 = .ok (.aload_n 0, 1) := by decide +kernel
theorem dX0_turnTo_99 : decode cX0_turnTo 99 = .ok (.getfield 11, 3) := by decide +kernel
theorem dX0_turnTo_102 : decode cX0_turnTo 102 = .ok (.iload 4, 2) := by decide +kernel
theorem dX0_turnTo_104 : decode cX0_turnTo 104 = .ok (.aaload, 1) := by decide +kernel
theorem dX0_turnTo_105 : decode cX0_turnTo 105 = .ok (.iload 9, 2) := by decide +kernel
theorem dX0_turnTo_107 : decode cX0_turnTo 107 = .ok (.bipush 8, 2) := by decide +kernel
theorem dX0_turnTo_109 : decode cX0_turnTo 109 = .ok (.iload 7, 2) := by decide +kernel
theorem dX0_turnTo_111 : decode cX0_turnTo 111 = .ok (.isub, 1) := by decide +kernel
theorem dX0_turnTo_112 : decode cX0_turnTo 112 = .ok (.iload 10, 2) := by decide +kernel
theorem dX0_turnTo_114 : decode cX0_turnTo 114 = .ok (.imul, 1) := by decide +kernel
theorem dX0_turnTo_115 : decode cX0_turnTo 115 = .ok (.iload 7, 2) := by decide +kernel
theorem dX0_turnTo_117 : decode cX0_turnTo 117 = .ok (.iload 8, 2) := by decide +kernel
theorem dX0_turnTo_119 : decode cX0_turnTo 119 = .ok (.imul, 1) := by decide +kernel
theorem dX0_turnTo_120 : decode cX0_turnTo 120 = .ok (.iadd, 1) := by decide +kernel
theorem dX0_turnTo_121 : decode cX0_turnTo 121 = .ok (.bipush 8, 2) := by decide +kernel
theorem dX0_turnTo_123 : decode cX0_turnTo 123 = .ok (.idiv, 1) := by decide +kernel
theorem dX0_turnTo_124 : decode cX0_turnTo 124 = .ok (.aload_n 0, 1) := by decide +kernel
theorem dX0_turnTo_125 : decode cX0_turnTo 125 = .ok (.getfield 39, 3) := by decide +kernel
theorem dX0_turnTo_128 : decode cX0_turnTo 128 = .ok (.getfield 66, 3) := by decide +kernel
theorem dX0_turnTo_131 : decode cX0_turnTo 131 = .ok (.iconst 3, 1) := by decide +kernel
theorem dX0_turnTo_132 : decode cX0_turnTo 132 = .ok (.aaload, 1) := by decide +kernel
theorem dX0_turnTo_133 : decode cX0_turnTo 133 = .ok (.iload 4, 2) := by decide +kernel
theorem dX0_turnTo_135 : decode cX0_turnTo 135 = .ok (.iaload, 1) := by decide +kernel
theorem dX0_turnTo_136 : decode cX0_turnTo 136 = .ok (.imul, 1) := by decide +kernel
theorem dX0_turnTo_137 : decode cX0_turnTo 137 = .ok (.bipush 100, 2) := by decide +kernel
theorem dX0_turnTo_139 : decode cX0_turnTo 139 = .ok (.idiv, 1) := by decide +kernel
theorem dX0_turnTo_140 : decode cX0_turnTo 140 = .ok (.iastore, 1) := by decide +kernel
theorem dX0_turnTo_141 : decode cX0_turnTo 141 = .ok (.iinc 9 1, 3) := by decide +kernel
theorem dX0_turnTo_144 : decode cX0_turnTo 144 = .ok (.goto (-77), 3) := by decide +kernel
theorem dX0_turnTo_147 : decode cX0_turnTo 147 = .ok (.iinc 4 1, 3) := by decide +kernel
theorem dX0_turnTo_150 : decode cX0_turnTo 150 = .ok (.goto (-142), 3) := by decide +kernel
theorem dX0_turnTo_153 : decode cX0_turnTo 153 = .ok (.return_, 1) := by decide +kernel
set_option maxHeartbeats 4000000 in
set_option maxRecDepth 100000 in
theorem c_Bench_turnTo (l : Launch) (G : fm_G) (N : Nat) (M : fm_M) (v1 : Int32) (v2 : Int32) (v3 : Int32) (M' : fm_M) (hf : pBench_turnTo N M v1 v2 v3 = some M') : fm_Met l yX0_turnTo cX0_turnTo 11 none { frames := 4, cells := 0, slots := 0, locals := 96 } shC G [.ref (G.2.1 181), .int v1, .int v2, .int v3] M none M' := by
  refine fm_enter (by decide) (Nat.le_of_ble_eq_true rfl) ?_
  intro p e s m args below meth c ls C E hl
  have hl : lv_has ls 11 [(0, .ref (G.2.1 181)), (1, .int v1), (2, .int v2), (3, .int v3)] := hl
  have L8 : ∀ (w8_v1 : Int32) (w8_v2 : Int32) (n8 : Nat) (v4 : Int32) (M : fm_M) (H : Heap) (locs : List Loc) (ls : Array Slot), fm_Wd shC G M s H locs → lv_has ls 11 [(0, .ref (G.2.1 181)), (1, .int w8_v1), (2, .int w8_v2), (4, .int v4)] → fm_lp (pBench_turnTo_L8 N w8_v1 w8_v2) n8 (v4, M) = some M' → W p l e { frames := 4, cells := 0, slots := 0, locals := 96 } s m args below meth c H locs 0 0 (fm_Z below shC G args s none M') (F0 m 8 ls []) := by
    intro w8_v1 w8_v2 n8
    induction n8 with
    | zero => intro v4 M H locs ls E hl hf; exact fm_lp_0 hf
    | succ n8 ih8 =>
      have L67 : ∀ (w67_v4 : Int32) (w67_v6 : Int32) (w67_v7 : Int32) (n67 : Nat) (v8 : Int32) (v9 : Int32) (M : fm_M) (H : Heap) (locs : List Loc) (ls : Array Slot), fm_Wd shC G M s H locs → lv_has ls 11 [(0, .ref (G.2.1 181)), (1, .int w8_v1), (2, .int w8_v2), (4, .int w67_v4), (6, .int w67_v6), (7, .int w67_v7), (8, .int v8), (9, .int v9)] → fm_lp (pBench_turnTo_L67 N w8_v1 w8_v2 w67_v4 w67_v6 w67_v7 (fm_lp (pBench_turnTo_L8 N w8_v1 w8_v2) n8)) n67 (v8, v9, M) = some M' → W p l e { frames := 4, cells := 0, slots := 0, locals := 96 } s m args below meth c H locs 0 0 (fm_Z below shC G args s none M') (F0 m 67 ls []) := by
        intro w67_v4 w67_v6 w67_v7 n67
        induction n67 with
        | zero => intro v8 v9 M H locs ls E hl hf; exact fm_lp_0 hf
        | succ n67 ih67 =>
          intro v8 v9 M H locs ls E hl hf
          have hf : pBench_turnTo_L67b N w8_v1 w8_v2 w67_v4 w67_v6 w67_v7 (fm_lp (pBench_turnTo_L8 N w8_v1 w8_v2) n8) (fm_lp (pBench_turnTo_L67 N w8_v1 w8_v2 w67_v4 w67_v6 w67_v7 (fm_lp (pBench_turnTo_L8 N w8_v1 w8_v2) n8)) n67) v8 v9 M = some M' := hf
          unfold pBench_turnTo_L67b at hf
          refine lv_iload C.1 C.2.1 dX0_turnTo_67 (lv_at hl 7 rfl) ?_
          refine lv_aload_n C.1 C.2.1 dX0_turnTo_69 rfl (lv_at hl 0 rfl) ?_
          refine fm_geti C E lf_X0_35 hC_181 rfl dX0_turnTo_70 ?_
          refine lv_icmp_ge (tgt := 147) C.1 C.2.1 dX0_turnTo_73 (by decide) (fun hc73 => ?_) (fun hc73 => ?_)
          · have hf := fm_ip hf hc73
            refine fm_iinc C (v := 1) (lv' := [(4, .int _), (0, .ref _), (1, .int _), (2, .int _), (6, .int _), (7, .int _), (8, .int _), (9, .int _)]) (k := 3) hl rfl (by decide) (by decide) rfl dX0_turnTo_147 (fun ls hl => ?_)
            refine lv_goto (tgt := 8) C.1 C.2.1 dX0_turnTo_150 (by decide) ?_
            exact ih8 _ _ _ _ _ E (lv_sub hl [1, 2, 3, 0] rfl) hf
          · have hf := fm_in' hf hc73
            refine lv_iload C.1 C.2.1 dX0_turnTo_76 (lv_at hl 6 rfl) ?_
            refine lv_istore (lv' := [(10, .int _), (0, .ref _), (1, .int _), (2, .int _), (4, .int _), (6, .int _), (7, .int _), (8, .int _), (9, .int _)]) C.1 C.2.1 dX0_turnTo_78 hl (by decide) rfl (fun ls hl => ?_)
            refine lv_aload_n C.1 C.2.1 dX0_turnTo_80 rfl (lv_at hl 1 rfl) ?_
            refine fm_getr C E lf_X0_43 hC_181 rfl dX0_turnTo_81 ?_
            refine lv_iload C.1 C.2.1 dX0_turnTo_84 (lv_at hl 4 rfl) ?_
            refine lv_iload C.1 C.2.1 dX0_turnTo_86 (lv_at hl 5 rfl) ?_
            refine lv_iload C.1 C.2.1 dX0_turnTo_88 (lv_at hl 8 rfl) ?_
            refine lv_iadd C.1 C.2.1 dX0_turnTo_90 ?_
            refine lv_iconst (v := 1) C.1 C.2.1 dX0_turnTo_91 (by decide) ?_
            refine lv_iadd C.1 C.2.1 dX0_turnTo_92 ?_
            obtain ⟨⟨x93, M93⟩, hc93, hf⟩ := fm_bd hf
            dsimp only at hf
            refine fm_callV C E [.int _, .int _] [] lm_X0_55 wk_X3_at (c_Ears_at l G N _ _ _ _ _ hc93) hC_178 rfl rfl rfl hl.1 (by simp [Value.category]) ⟨⟨rfl, rfl⟩, by decide, by decide⟩ ⟨by decide, by decide⟩ dX0_turnTo_93 rfl (fun H locs E => ?_)
            refine W.eq (g2 := F0 m 96 ls (.int x93 :: [])) rfl ?_
            refine lv_istore (lv' := [(8, .int _), (10, .int _), (0, .ref _), (1, .int _), (2, .int _), (4, .int _), (6, .int _), (7, .int _), (9, .int _)]) C.1 C.2.1 dX0_turnTo_96 hl (by decide) rfl (fun ls hl => ?_)
            refine lv_aload_n C.1 C.2.1 dX0_turnTo_98 rfl (lv_at hl 2 rfl) ?_
            refine fm_getr C E lf_X0_11 hC_181 rfl dX0_turnTo_99 ?_
            refine lv_iload C.1 C.2.1 dX0_turnTo_102 (lv_at hl 5 rfl) ?_
            obtain ⟨q104, h104, k104, e104, hf⟩ := fm_ix_t tC_183 hf
            refine fm_aald C E hC_182 h104 (r := q104) (by rw [e104]; exact rC_183 _ (fm_in_lt h104)) dX0_turnTo_104 ?_
            refine lv_iload C.1 C.2.1 dX0_turnTo_105 (lv_at hl 8 rfl) ?_
            refine lv_bipush (v := 8) C.1 C.2.1 dX0_turnTo_107 (by decide) ?_
            refine lv_iload C.1 C.2.1 dX0_turnTo_109 (lv_at hl 7 rfl) ?_
            refine lv_isub C.1 C.2.1 dX0_turnTo_111 ?_
            refine lv_iload C.1 C.2.1 dX0_turnTo_112 (lv_at hl 1 rfl) ?_
            refine lv_imul C.1 C.2.1 dX0_turnTo_114 ?_
            refine lv_iload C.1 C.2.1 dX0_turnTo_115 (lv_at hl 7 rfl) ?_
            refine lv_iload C.1 C.2.1 dX0_turnTo_117 (lv_at hl 0 rfl) ?_
            refine lv_imul C.1 C.2.1 dX0_turnTo_119 ?_
            refine lv_iadd C.1 C.2.1 dX0_turnTo_120 ?_
            refine lv_bipush (v := 8) C.1 C.2.1 dX0_turnTo_121 (by decide) ?_
            refine lv_idiv C.1 C.2.1 dX0_turnTo_123 (by decide) ?_
            refine lv_aload_n C.1 C.2.1 dX0_turnTo_124 rfl (lv_at hl 2 rfl) ?_
            refine fm_getr C E lf_X0_39 hC_181 rfl dX0_turnTo_125 ?_
            refine fm_getr C E lf_X0_66 hC_1 rfl dX0_turnTo_128 ?_
            refine lv_iconst (v := 3) C.1 C.2.1 dX0_turnTo_131 (by decide) ?_
            refine fm_aald C E hC_2 (by decide) (r := 6) (by decide) dX0_turnTo_132 ?_
            refine lv_iload C.1 C.2.1 dX0_turnTo_133 (lv_at hl 5 rfl) ?_
            obtain ⟨h135, x135, e135, hf⟩ := fm_ld_e hf
            refine fm_iald' C E e135 hC_6 h135 dX0_turnTo_135 ?_
            refine lv_imul C.1 C.2.1 dX0_turnTo_136 ?_
            refine lv_bipush (v := 100) C.1 C.2.1 dX0_turnTo_137 (by decide) ?_
            refine lv_idiv C.1 C.2.1 dX0_turnTo_139 (by decide) ?_
            obtain ⟨h140, M140, e140, hf⟩ := fm_st_e hf
            refine fm_iast' C E e140 k104 h140 dX0_turnTo_140 (fun H locs E => ?_)
            refine fm_iinc C (v := 1) (lv' := [(9, .int _), (8, .int _), (10, .int _), (0, .ref _), (1, .int _), (2, .int _), (4, .int _), (6, .int _), (7, .int _)]) (k := 8) hl rfl (by decide) (by decide) rfl dX0_turnTo_141 (fun ls hl => ?_)
            refine lv_goto (tgt := 67) C.1 C.2.1 dX0_turnTo_144 (by decide) ?_
            exact ih67 _ _ _ _ _ _ E (lv_sub hl [3, 4, 5, 6, 7, 8, 1, 0] rfl) hf
      intro v4 M H locs ls E hl hf
      have hf : pBench_turnTo_L8b N w8_v1 w8_v2 (fm_lp (pBench_turnTo_L8 N w8_v1 w8_v2) n8) v4 M = some M' := hf
      unfold pBench_turnTo_L8b at hf
      refine lv_iload C.1 C.2.1 dX0_turnTo_8 (lv_at hl 3 rfl) ?_
      refine lv_aload_n C.1 C.2.1 dX0_turnTo_10 rfl (lv_at hl 0 rfl) ?_
      refine fm_getr C E lf_X0_39 hC_181 rfl dX0_turnTo_11 ?_
      refine fm_geti C E lf_X0_61 hC_1 rfl dX0_turnTo_14 ?_
      refine lv_icmp_ge (tgt := 153) C.1 C.2.1 dX0_turnTo_17 (by decide) (fun hc17 => ?_) (fun hc17 => ?_)
      · have hf := fm_ip hf hc17
        obtain rfl := fm_rt1 hf
        exact fm_vret C E rfl dX0_turnTo_153
      · have hf := fm_in' hf hc17
        refine lv_aload_n C.1 C.2.1 dX0_turnTo_20 rfl (lv_at hl 0 rfl) ?_
        refine fm_getr C E lf_X0_39 hC_181 rfl dX0_turnTo_21 ?_
        refine fm_getr C E lf_X0_66 hC_1 rfl dX0_turnTo_24 ?_
        refine lv_iconst (v := 0) C.1 C.2.1 dX0_turnTo_27 (by decide) ?_
        refine fm_aald C E hC_2 (by decide) (r := 3) (by decide) dX0_turnTo_28 ?_
        refine lv_iload C.1 C.2.1 dX0_turnTo_29 (lv_at hl 3 rfl) ?_
        obtain ⟨h31, x31, e31, hf⟩ := fm_ld_e hf
        refine fm_iald' C E e31 hC_3 h31 dX0_turnTo_31 ?_
        refine lv_iload_n C.1 C.2.1 dX0_turnTo_32 rfl (lv_at hl 1 rfl) ?_
        refine lv_imul C.1 C.2.1 dX0_turnTo_33 ?_
        refine lv_istore (lv' := [(5, .int _), (0, .ref _), (1, .int _), (2, .int _), (4, .int _)]) C.1 C.2.1 dX0_turnTo_34 hl (by decide) rfl (fun ls hl => ?_)
        refine lv_iload_n C.1 C.2.1 dX0_turnTo_36 rfl (lv_at hl 3 rfl) ?_
        refine lv_iload C.1 C.2.1 dX0_turnTo_37 (lv_at hl 0 rfl) ?_
        refine lv_iconst (v := 3) C.1 C.2.1 dX0_turnTo_39 (by decide) ?_
        refine lv_ishr C.1 C.2.1 dX0_turnTo_40 ?_
        refine lv_iadd C.1 C.2.1 dX0_turnTo_41 ?_
        refine lv_istore (lv' := [(6, .int _), (5, .int _), (0, .ref _), (1, .int _), (2, .int _), (4, .int _)]) C.1 C.2.1 dX0_turnTo_42 hl (by decide) rfl (fun ls hl => ?_)
        refine lv_iload C.1 C.2.1 dX0_turnTo_44 (lv_at hl 1 rfl) ?_
        refine lv_bipush (v := 7) C.1 C.2.1 dX0_turnTo_46 (by decide) ?_
        refine lv_iand C.1 C.2.1 dX0_turnTo_48 ?_
        refine lv_istore (lv' := [(7, .int _), (6, .int _), (5, .int _), (0, .ref _), (1, .int _), (2, .int _), (4, .int _)]) C.1 C.2.1 dX0_turnTo_49 hl (by decide) rfl (fun ls hl => ?_)
        refine lv_aload_n C.1 C.2.1 dX0_turnTo_51 rfl (lv_at hl 3 rfl) ?_
        refine fm_getr C E lf_X0_43 hC_181 rfl dX0_turnTo_52 ?_
        refine lv_iload C.1 C.2.1 dX0_turnTo_55 (lv_at hl 6 rfl) ?_
        refine lv_iload C.1 C.2.1 dX0_turnTo_57 (lv_at hl 1 rfl) ?_
        obtain ⟨⟨x59, M59⟩, hc59, hf⟩ := fm_bd hf
        dsimp only at hf
        refine fm_callV C E [.int _, .int _] [] lm_X0_55 wk_X3_at (c_Ears_at l G N _ _ _ _ _ hc59) hC_178 rfl rfl rfl hl.1 (by simp [Value.category]) ⟨⟨rfl, rfl⟩, by decide, by decide⟩ ⟨by decide, by decide⟩ dX0_turnTo_59 rfl (fun H locs E => ?_)
        refine W.eq (g2 := F0 m 62 ls (.int x59 :: [])) rfl ?_
        refine lv_istore (lv' := [(8, .int _), (7, .int _), (6, .int _), (5, .int _), (0, .ref _), (1, .int _), (2, .int _), (4, .int _)]) C.1 C.2.1 dX0_turnTo_62 hl (by decide) rfl (fun ls hl => ?_)
        refine lv_iconst (v := 0) C.1 C.2.1 dX0_turnTo_64 (by decide) ?_
        refine lv_istore (lv' := [(9, .int _), (8, .int _), (7, .int _), (6, .int _), (5, .int _), (0, .ref _), (1, .int _), (2, .int _), (4, .int _)]) C.1 C.2.1 dX0_turnTo_65 hl (by decide) rfl (fun ls hl => ?_)
        exact L67 _ _ _ N _ _ _ _ _ _ E (lv_sub hl [5, 6, 7, 8, 3, 2, 1, 0] rfl) hf
  unfold pBench_turnTo at hf
  refine lv_aload_n C.1 C.2.1 dX0_turnTo_0 rfl (lv_at hl 0 rfl) ?_
  refine lv_iload_n C.1 C.2.1 dX0_turnTo_1 rfl (lv_at hl 3 rfl) ?_
  obtain ⟨M2, hc2, hf⟩ := fm_bd hf
  refine fm_callV C E [.int _] [] lm_X0_51 wk_X0_setLength (c_Bench_setLength l G _ _ _ hc2) hC_181 rfl rfl rfl hl.1 (by simp [Value.category]) ⟨⟨rfl, rfl⟩, by decide, by decide⟩ ⟨by decide, by decide⟩ dX0_turnTo_2 rfl (fun H locs E => ?_)
  refine W.eq (g2 := F0 m 5 ls []) rfl ?_
  refine lv_iconst (v := 0) C.1 C.2.1 dX0_turnTo_5 (by decide) ?_
  refine lv_istore (lv' := [(4, .int _), (0, .ref _), (1, .int _), (2, .int _), (3, .int _)]) C.1 C.2.1 dX0_turnTo_6 hl (by decide) rfl (fun ls hl => ?_)
  exact L8 _ _ N _ _ _ _ _ E (lv_sub hl [1, 2, 3, 0] rfl) hf
theorem dX1_measure_0 : decode cX1_measure 0 = .ok (.aload_n 0, 1) := by decide +kernel
theorem dX1_measure_1 : decode cX1_measure 1 = .ok (.getfield 16, 3) := by decide +kernel
theorem dX1_measure_4 : decode cX1_measure 4 = .ok (.iconst 0, 1) := by decide +kernel
theorem dX1_measure_5 : decode cX1_measure 5 = .ok (.invokestatic 44, 3) := by decide +kernel
theorem dX1_measure_8 : decode cX1_measure 8 = .ok (.bipush (-8), 2) := by decide +kernel
theorem dX1_measure_10 : decode cX1_measure 10 = .ok (.istore 4, 2) := by decide +kernel
theorem dX1_measure_12 : decode cX1_measure 12 = .ok (.iload 4, 2) := by decide +kernel
theorem dX1_measure_14 : decode cX1_measure 14 = .ok (.bipush 8, 2) := by decide +kernel
theorem dX1_measure_16 : decode cX1_measure 16 = .ok (.if_icmp .gt 58, 3) := by decide +kernel
theorem dX1_measure_19 : decode cX1_measure 19 = .ok (.aload_n 0, 1) := by decide +kernel
theorem dX1_measure_20 : decode cX1_measure 20 = .ok (.getfield 20, 3) := by decide +kernel
theorem dX1_measure_23 : decode cX1_measure 23 = .ok (.iload 4, 2) := by decide +kernel
theorem dX1_measure_25 : decode cX1_measure 25 = .ok (.iload_n 1, 1) := by decide +kernel
theorem dX1_measure_26 : decode cX1_measure 26 = .ok (.iload_n 2, 1) := by decide +kernel
theorem dX1_measure_27 : decode cX1_measure 27 = .ok (.invokevirtual 50, 3) := by decide +kernel
theorem dX1_measure_30 : decode cX1_measure 30 = .ok (.iconst 0, 1) := by decide +kernel
theorem dX1_measure_31 : decode cX1_measure 31 = .ok (.istore 5, 2) := by decide +kernel
theorem dX1_measure_33 : decode cX1_measure 33 = .ok (.iload 5, 2) := by decide +kernel
theorem dX1_measure_35 : decode cX1_measure 35 = .ok (.iload_n 2, 1) := by decide +kernel
theorem dX1_measure_36 : decode cX1_measure 36 = .ok (.if_icmp .ge 32, 3) := by decide +kernel
theorem dX1_measure_39 : decode cX1_measure 39 = .ok (.aload_n 0, 1) := by decide +kernel
theorem dX1_measure_40 : decode cX1_measure 40 = .ok (.getfield 11, 3) := by decide +kernel
theorem dX1_measure_43 : decode cX1_measure 43 = .ok (.iload 4, 2) := by decide +kernel
theorem dX1_measure_45 : decode cX1_measure 45 = .ok (.bipush 8, 2) := by decide +kernel
theorem dX1_measure_47 : decode cX1_measure 47 = .ok (.iadd, 1) := by decide +kernel
theorem dX1_measure_48 : decode cX1_measure 48 = .ok (.aaload, 1) := by decide +kernel
theorem dX1_measure_49 : decode cX1_measure 49 = .ok (.iload 5, 2) := by decide +kernel
theorem dX1_measure_51 : decode cX1_measure 51 = .ok (.aload_n 0, 1) := by decide +kernel
theorem dX1_measure_52 : decode cX1_measure 52 = .ok (.getfield 20, 3) := by decide +kernel
theorem dX1_measure_55 : decode cX1_measure 55 = .ok (.iload_n 3, 1) := by decide +kernel
theorem dX1_measure_56 : decode cX1_measure 56 = .ok (.iload 5, 2) := by decide +kernel
theorem dX1_measure_58 : decode cX1_measure 58 = .ok (.invokevirtual 55, 3) := by decide +kernel
theorem dX1_measure_61 : decode cX1_measure 61 = .ok (.iastore, 1) := by decide +kernel
theorem dX1_measure_62 : decode cX1_measure 62 = .ok (.iinc 5 1, 3) := by decide +kernel
theorem dX1_measure_65 : decode cX1_measure 65 = .ok (.goto (-32), 3) := by decide +kernel
theorem dX1_measure_68 : decode cX1_measure 68 = .ok (.iinc 4 1, 3) := by decide +kernel
theorem dX1_measure_71 : decode cX1_measure 71 = .ok (.goto (-59), 3) := by decide +kernel
theorem dX1_measure_74 : decode cX1_measure 74 = .ok (.return_, 1) := by decide +kernel
set_option maxHeartbeats 4000000 in
set_option maxRecDepth 100000 in
theorem c_Compass_measure (l : Launch) (G : fm_G) (N : Nat) (M : fm_M) (v1 : Int32) (v2 : Int32) (v3 : Int32) (M' : fm_M) (hf : pCompass_measure N M v1 v2 v3 = some M') : fm_Met l yX1_measure cX1_measure 6 none { frames := 5, cells := 0, slots := 0, locals := 126 } shC G [.ref (G.2.1 200), .int v1, .int v2, .int v3] M none M' := by
  refine fm_enter (by decide) (Nat.le_of_ble_eq_true rfl) ?_
  intro p e s m args below meth c ls C E hl
  have hl : lv_has ls 6 [(0, .ref (G.2.1 200)), (1, .int v1), (2, .int v2), (3, .int v3)] := hl
  have L12 : ∀ (w12_v1 : Int32) (w12_v2 : Int32) (w12_v3 : Int32) (n12 : Nat) (v4 : Int32) (M : fm_M) (H : Heap) (locs : List Loc) (ls : Array Slot), fm_Wd shC G M s H locs → lv_has ls 6 [(0, .ref (G.2.1 200)), (1, .int w12_v1), (2, .int w12_v2), (3, .int w12_v3), (4, .int v4)] → fm_lp (pCompass_measure_L12 N w12_v1 w12_v2 w12_v3) n12 (v4, M) = some M' → W p l e { frames := 5, cells := 0, slots := 0, locals := 126 } s m args below meth c H locs 0 0 (fm_Z below shC G args s none M') (F0 m 12 ls []) := by
    intro w12_v1 w12_v2 w12_v3 n12
    induction n12 with
    | zero => intro v4 M H locs ls E hl hf; exact fm_lp_0 hf
    | succ n12 ih12 =>
      have L33 : ∀ (w33_v4 : Int32) (n33 : Nat) (v5 : Int32) (M : fm_M) (H : Heap) (locs : List Loc) (ls : Array Slot), fm_Wd shC G M s H locs → lv_has ls 6 [(0, .ref (G.2.1 200)), (1, .int w12_v1), (2, .int w12_v2), (3, .int w12_v3), (4, .int w33_v4), (5, .int v5)] → fm_lp (pCompass_measure_L33 N w12_v1 w12_v2 w12_v3 w33_v4 (fm_lp (pCompass_measure_L12 N w12_v1 w12_v2 w12_v3) n12)) n33 (v5, M) = some M' → W p l e { frames := 5, cells := 0, slots := 0, locals := 126 } s m args below meth c H locs 0 0 (fm_Z below shC G args s none M') (F0 m 33 ls []) := by
        intro w33_v4 n33
        induction n33 with
        | zero => intro v5 M H locs ls E hl hf; exact fm_lp_0 hf
        | succ n33 ih33 =>
          intro v5 M H locs ls E hl hf
          have hf : pCompass_measure_L33b N w12_v1 w12_v2 w12_v3 w33_v4 (fm_lp (pCompass_measure_L12 N w12_v1 w12_v2 w12_v3) n12) (fm_lp (pCompass_measure_L33 N w12_v1 w12_v2 w12_v3 w33_v4 (fm_lp (pCompass_measure_L12 N w12_v1 w12_v2 w12_v3) n12)) n33) v5 M = some M' := hf
          unfold pCompass_measure_L33b at hf
          refine lv_iload C.1 C.2.1 dX1_measure_33 (lv_at hl 5 rfl) ?_
          refine lv_iload_n C.1 C.2.1 dX1_measure_35 rfl (lv_at hl 2 rfl) ?_
          refine lv_icmp_ge (tgt := 68) C.1 C.2.1 dX1_measure_36 (by decide) (fun hc36 => ?_) (fun hc36 => ?_)
          · have hf := fm_ip hf hc36
            refine fm_iinc C (v := 1) (lv' := [(4, .int _), (0, .ref _), (1, .int _), (2, .int _), (3, .int _), (5, .int _)]) (k := 4) hl rfl (by decide) (by decide) rfl dX1_measure_68 (fun ls hl => ?_)
            refine lv_goto (tgt := 12) C.1 C.2.1 dX1_measure_71 (by decide) ?_
            exact ih12 _ _ _ _ _ E (lv_sub hl [1, 2, 3, 4, 0] rfl) hf
          · have hf := fm_in' hf hc36
            refine lv_aload_n C.1 C.2.1 dX1_measure_39 rfl (lv_at hl 0 rfl) ?_
            refine fm_getr C E lf_X1_11 hC_200 rfl dX1_measure_40 ?_
            refine lv_iload C.1 C.2.1 dX1_measure_43 (lv_at hl 4 rfl) ?_
            refine lv_bipush (v := 8) C.1 C.2.1 dX1_measure_45 (by decide) ?_
            refine lv_iadd C.1 C.2.1 dX1_measure_47 ?_
            obtain ⟨q48, h48, k48, e48, hf⟩ := fm_ix_t tC_202 hf
            refine fm_aald C E hC_201 h48 (r := q48) (by rw [e48]; exact rC_202 _ (fm_in_lt h48)) dX1_measure_48 ?_
            refine lv_iload C.1 C.2.1 dX1_measure_49 (lv_at hl 5 rfl) ?_
            refine lv_aload_n C.1 C.2.1 dX1_measure_51 rfl (lv_at hl 0 rfl) ?_
            refine fm_getr C E lf_X1_20 hC_200 rfl dX1_measure_52 ?_
            refine lv_iload_n C.1 C.2.1 dX1_measure_55 rfl (lv_at hl 3 rfl) ?_
            refine lv_iload C.1 C.2.1 dX1_measure_56 (lv_at hl 5 rfl) ?_
            obtain ⟨x58, hc58, hf⟩ := fm_bd hf
            refine fm_callV C E [.int _, .int _] [.int _, .ref _] lm_X1_55 wk_X0_pairsAlike (c_Bench_pairsAlike l G N _ _ _ _  hc58) hC_181 rfl rfl rfl hl.1 (by simp [Value.category]) ⟨⟨rfl, rfl⟩, by decide, by decide⟩ ⟨by decide, by decide⟩ dX1_measure_58 rfl (fun H locs E => ?_)
            refine W.eq (g2 := F0 m 61 ls (.int x58 :: [.int _, .ref _])) rfl ?_
            obtain ⟨h61, M61, e61, hf⟩ := fm_st_e hf
            refine fm_iast' C E e61 k48 h61 dX1_measure_61 (fun H locs E => ?_)
            refine fm_iinc C (v := 1) (lv' := [(5, .int _), (0, .ref _), (1, .int _), (2, .int _), (3, .int _), (4, .int _)]) (k := 5) hl rfl (by decide) (by decide) rfl dX1_measure_62 (fun ls hl => ?_)
            refine lv_goto (tgt := 33) C.1 C.2.1 dX1_measure_65 (by decide) ?_
            exact ih33 _ _ _ _ _ E (lv_sub hl [1, 2, 3, 4, 5, 0] rfl) hf
      intro v4 M H locs ls E hl hf
      have hf : pCompass_measure_L12b N w12_v1 w12_v2 w12_v3 (fm_lp (pCompass_measure_L12 N w12_v1 w12_v2 w12_v3) n12) v4 M = some M' := hf
      unfold pCompass_measure_L12b at hf
      refine lv_iload C.1 C.2.1 dX1_measure_12 (lv_at hl 4 rfl) ?_
      refine lv_bipush (v := 8) C.1 C.2.1 dX1_measure_14 (by decide) ?_
      refine lv_icmp_gt (tgt := 74) C.1 C.2.1 dX1_measure_16 (by decide) (fun hc16 => ?_) (fun hc16 => ?_)
      · have hf := fm_ip hf hc16
        obtain rfl := fm_rt1 hf
        exact fm_vret C E rfl dX1_measure_74
      · have hf := fm_in' hf hc16
        refine lv_aload_n C.1 C.2.1 dX1_measure_19 rfl (lv_at hl 0 rfl) ?_
        refine fm_getr C E lf_X1_20 hC_200 rfl dX1_measure_20 ?_
        refine lv_iload C.1 C.2.1 dX1_measure_23 (lv_at hl 4 rfl) ?_
        refine lv_iload_n C.1 C.2.1 dX1_measure_25 rfl (lv_at hl 1 rfl) ?_
        refine lv_iload_n C.1 C.2.1 dX1_measure_26 rfl (lv_at hl 2 rfl) ?_
        obtain ⟨M27, hc27, hf⟩ := fm_bd hf
        refine fm_callV C E [.int _, .int _, .int _] [] lm_X1_50 wk_X0_turnTo (c_Bench_turnTo l G N _ _ _ _ _ hc27) hC_181 rfl rfl rfl hl.1 (by simp [Value.category]) ⟨⟨rfl, rfl⟩, by decide, by decide⟩ ⟨by decide, by decide⟩ dX1_measure_27 rfl (fun H locs E => ?_)
        refine W.eq (g2 := F0 m 30 ls []) rfl ?_
        refine lv_iconst (v := 0) C.1 C.2.1 dX1_measure_30 (by decide) ?_
        refine lv_istore (lv' := [(5, .int _), (0, .ref _), (1, .int _), (2, .int _), (3, .int _), (4, .int _)]) C.1 C.2.1 dX1_measure_31 hl (by decide) rfl (fun ls hl => ?_)
        exact L33 _ N _ _ _ _ _ E (lv_sub hl [1, 2, 3, 4, 5, 0] rfl) hf
  unfold pCompass_measure at hf
  refine lv_aload_n C.1 C.2.1 dX1_measure_0 rfl (lv_at hl 0 rfl) ?_
  refine fm_getr C E lf_X1_16 hC_200 rfl dX1_measure_1 ?_
  refine lv_iconst (v := 0) C.1 C.2.1 dX1_measure_4 (by decide) ?_
  obtain ⟨M5, hc5, hf⟩ := fm_bd hf
  refine fm_callS C E [.ref _, .int _] [] lm_X1_44 wk_J7_fill_53178 (c_Arrays_fill l G N _ _ _ _ hc5) rfl hl.1 (by simp [Value.category]) ⟨⟨rfl, rfl⟩, by decide, by decide⟩ ⟨by decide, by decide⟩ dX1_measure_5 rfl (fun H locs E => ?_)
  refine W.eq (g2 := F0 m 8 ls []) rfl ?_
  refine lv_bipush (v := (-8)) C.1 C.2.1 dX1_measure_8 (by decide) ?_
  refine lv_istore (lv' := [(4, .int _), (0, .ref _), (1, .int _), (2, .int _), (3, .int _)]) C.1 C.2.1 dX1_measure_10 hl (by decide) rfl (fun ls hl => ?_)
  exact L12 _ _ _ N _ _ _ _ _ E (lv_sub hl [1, 2, 3, 4, 0] rfl) hf
theorem dX9_level_0 : decode cX9_level 0 = .ok (.aload_n 0, 1) := by decide +kernel
theorem dX9_level_1 : decode cX9_level 1 = .ok (.getfield 10, 3) := by decide +kernel
theorem dX9_level_4 : decode cX9_level 4 = .ok (.iload_n 1, 1) := by decide +kernel
theorem dX9_level_5 : decode cX9_level 5 = .ok (.invokevirtual 116, 3) := by decide +kernel
theorem dX9_level_8 : decode cX9_level 8 = .ok (.ifCond .ne 5, 3) := by decide +kernel
theorem dX9_level_11 : decode cX9_level 11 = .ok (.iconst (-1), 1) := by decide +kernel
theorem dX9_level_12 : decode cX9_level 12 = .ok (.ireturn, 1) := by decide +kernel
theorem dX9_level_13 : decode cX9_level 13 = .ok (.aload_n 0, 1) := by decide +kernel
theorem dX9_level_14 : decode cX9_level 14 = .ok (.getfield 62, 3) := by decide +kernel
theorem dX9_level_17 : decode cX9_level 17 = .ok (.iconst (-1), 1) := by decide +kernel
theorem dX9_level_18 : decode cX9_level 18 = .ok (.invokevirtual 150, 3) := by decide +kernel
theorem dX9_level_21 : decode cX9_level 21 = .ok (.aload_n 0, 1) := by decide +kernel
theorem dX9_level_22 : decode cX9_level 22 = .ok (.getfield 71, 3) := by decide +kernel
theorem dX9_level_25 : decode cX9_level 25 = .ok (.iload_n 1, 1) := by decide +kernel
theorem dX9_level_26 : decode cX9_level 26 = .ok (.aload_n 0, 1) := by decide +kernel
theorem dX9_level_27 : decode cX9_level 27 = .ok (.getfield 10, 3) := by decide +kernel
theorem dX9_level_30 : decode cX9_level 30 = .ok (.invokevirtual 208, 3) := by decide +kernel
theorem dX9_level_33 : decode cX9_level 33 = .ok (.aload_n 0, 1) := by decide +kernel
theorem dX9_level_34 : decode cX9_level 34 = .ok (.getfield 10, 3) := by decide +kernel
theorem dX9_level_37 : decode cX9_level 37 = .ok (.invokevirtual 211, 3) := by decide +kernel
theorem dX9_level_40 : decode cX9_level 40 = .ok (.invokevirtual 214, 3) := by decide +kernel
theorem dX9_level_43 : decode cX9_level 43 = .ok (.iconst 0, 1) := by decide +kernel
theorem dX9_level_44 : decode cX9_level 44 = .ok (.istore_n 2, 1) := by decide +kernel
theorem dX9_level_45 : decode cX9_level 45 = .ok (.iconst 1, 1) := by decide +kernel
theorem dX9_level_46 : decode cX9_level 46 = .ok (.istore_n 3, 1) := by decide +kernel
theorem dX9_level_47 : decode cX9_level 47 = .ok (.iload_n 3, 1) := by decide +kernel
theorem dX9_level_48 : decode cX9_level 48 = .ok (.aload_n 0, 1) := by decide +kernel
theorem dX9_level_49 : decode cX9_level 49 = .ok (.getfield 10, 3) := by decide +kernel
theorem dX9_level_52 : decode cX9_level 52 = .ok (.invokevirtual 211, 3) := by decide +kernel
theorem dX9_level_55 : decode cX9_level 55 = .ok (.if_icmp .ge 38, 3) := by decide +kernel
theorem dX9_level_58 : decode cX9_level 58 = .ok (.aload_n 0, 1) := by decide +kernel
theorem dX9_level_59 : decode cX9_level 59 = .ok (.getfield 71, 3) := by decide +kernel
theorem dX9_level_62 : decode cX9_level 62 = .ok (.getfield 217, 3) := by decide +kernel
theorem dX9_level_65 : decode cX9_level 65 = .ok (.iload_n 3, 1) := by decide +kernel
theorem dX9_level_66 : decode cX9_level 66 = .ok (.iaload, 1) := by decide +kernel
theorem dX9_level_67 : decode cX9_level 67 = .ok (.invokestatic 220, 3) := by decide +kernel
theorem dX9_level_70 : decode cX9_level 70 = .ok (.aload_n 0, 1) := by decide +kernel
theorem dX9_level_71 : decode cX9_level 71 = .ok (.getfield 71, 3) := by decide +kernel
theorem dX9_level_74 : decode cX9_level 74 = .ok (.getfield 217, 3) := by decide +kernel
theorem dX9_level_77 : decode cX9_level 77 = .ok (.iload_n 2, 1) := by decide +kernel
theorem dX9_level_78 : decode cX9_level 78 = .ok (.iaload, 1) := by decide +kernel
theorem dX9_level_79 : decode cX9_level 79 = .ok (.invokestatic 220, 3) := by decide +kernel
theorem dX9_level_82 : decode cX9_level 82 = .ok (.if_icmp .le 5, 3) := by decide +kernel
theorem dX9_level_85 : decode cX9_level 85 = .ok (.iload_n 3, 1) := by decide +kernel
theorem dX9_level_86 : decode cX9_level 86 = .ok (.istore_n 2, 1) := by decide +kernel
theorem dX9_level_87 : decode cX9_level 87 = .ok (.iinc 3 1, 3) := by decide +kernel
theorem dX9_level_90 : decode cX9_level 90 = .ok (.goto (-43), 3) := by decide +kernel
theorem dX9_level_93 : decode cX9_level 93 = .ok (.aload_n 0, 1) := by decide +kernel
theorem dX9_level_94 : decode cX9_level 94 = .ok (.getfield 53, 3) := by decide +kernel
theorem dX9_level_97 : decode cX9_level 97 = .ok (.invokevirtual 225, 3) := by decide +kernel
theorem dX9_level_100 : decode cX9_level 100 = .ok (.aload_n 0, 1) := by decide +kernel
theorem dX9_level_101 : decode cX9_level 101 = .ok (.getfield 53, 3) := by decide +kernel
theorem dX9_level_104 : decode cX9_level 104 = .ok (.aload_n 0, 1) := by decide +kernel
theorem dX9_level_105 : decode cX9_level 105 = .ok (.getfield 71, 3) := by decide +kernel
theorem dX9_level_108 : decode cX9_level 108 = .ok (.aload_n 0, 1) := by decide +kernel
theorem dX9_level_109 : decode cX9_level 109 = .ok (.getfield 71, 3) := by decide +kernel
theorem dX9_level_112 : decode cX9_level 112 = .ok (.getfield 217, 3) := by decide +kernel
theorem dX9_level_115 : decode cX9_level 115 = .ok (.invokevirtual 228, 3) := by decide +kernel
theorem dX9_level_118 : decode cX9_level 118 = .ok (.invokevirtual 232, 3) := by decide +kernel
theorem dX9_level_121 : decode cX9_level 121 = .ok (.aload_n 0, 1) := by decide +kernel
theorem dX9_level_122 : decode cX9_level 122 = .ok (.getfield 53, 3) := by decide +kernel
theorem dX9_level_125 : decode cX9_level 125 = .ok (.aload_n 0, 1) := by decide +kernel
theorem dX9_level_126 : decode cX9_level 126 = .ok (.getfield 71, 3) := by decide +kernel
theorem dX9_level_129 : decode cX9_level 129 = .ok (.getfield 217, 3) := by decide +kernel
theorem dX9_level_132 : decode cX9_level 132 = .ok (.iload_n 2, 1) := by decide +kernel
theorem dX9_level_133 : decode cX9_level 133 = .ok (.iaload, 1) := by decide +kernel
theorem dX9_level_134 : decode cX9_level 134 = .ok (.invokestatic 220, 3) := by decide +kernel
theorem dX9_level_137 : decode cX9_level 137 = .ok (.i2l, 1) := by decide +kernel
theorem dX9_level_138 : decode cX9_level 138 = .ok (.invokevirtual 232, 3) := by decide +kernel
theorem dX9_level_141 : decode cX9_level 141 = .ok (.aload_n 0, 1) := by decide +kernel
theorem dX9_level_142 : decode cX9_level 142 = .ok (.getfield 53, 3) := by decide +kernel
theorem dX9_level_145 : decode cX9_level 145 = .ok (.aload_n 0, 1) := by decide +kernel
theorem dX9_level_146 : decode cX9_level 146 = .ok (.getfield 10, 3) := by decide +kernel
theorem dX9_level_149 : decode cX9_level 149 = .ok (.invokevirtual 208, 3) := by decide +kernel
theorem dX9_level_152 : decode cX9_level 152 = .ok (.iload_n 2, 1) := by decide +kernel
theorem dX9_level_153 : decode cX9_level 153 = .ok (.iadd, 1) := by decide +kernel
theorem dX9_level_154 : decode cX9_level 154 = .ok (.i2l, 1) := by decide +kernel
theorem dX9_level_155 : decode cX9_level 155 = .ok (.invokevirtual 232, 3) := by decide +kernel
theorem dX9_level_158 : decode cX9_level 158 = .ok (.aload_n 0, 1) := by decide +kernel
theorem dX9_level_159 : decode cX9_level 159 = .ok (.getfield 71, 3) := by decide +kernel
theorem dX9_level_162 : decode cX9_level 162 = .ok (.aload_n 0, 1) := by decide +kernel
theorem dX9_level_163 : decode cX9_level 163 = .ok (.getfield 71, 3) := by decide +kernel
theorem dX9_level_166 : decode cX9_level 166 = .ok (.getfield 217, 3) := by decide +kernel
theorem dX9_level_169 : decode cX9_level 169 = .ok (.invokevirtual 236, 3) := by decide +kernel
theorem dX9_level_172 : decode cX9_level 172 = .ok (.ireturn, 1) := by decide +kernel
set_option maxHeartbeats 4000000 in
set_option maxRecDepth 100000 in
theorem c_MicRow_level (l : Launch) (G : fm_G) (N : Nat) (M : fm_M) (v1 : Int32) (r : Int32) (M' : fm_M) (hf : pMicRow_level N M v1 = some (r, M')) : fm_Met l yX9_level cX9_level 4 (some .int) { frames := 5, cells := 0, slots := 0, locals := 120 } shC G [.ref (G.2.1 0), .int v1] M (some (.int r)) M' := by
  refine fm_enter (by decide) (Nat.le_of_ble_eq_true rfl) ?_
  intro p e s m args below meth c ls C E hl
  have hl : lv_has ls 4 [(0, .ref (G.2.1 0)), (1, .int v1)] := hl
  have L47 : ∀ (w47_M : fm_M) (n47 : Nat) (v2 : Int32) (v3 : Int32) (H : Heap) (locs : List Loc) (ls : Array Slot), fm_Wd shC G w47_M s H locs → lv_has ls 4 [(0, .ref (G.2.1 0)), (2, .int v2), (3, .int v3)] → fm_lp (pMicRow_level_L47 N w47_M) n47 (v2, v3) = some (r, M') → W p l e { frames := 5, cells := 0, slots := 0, locals := 120 } s m args below meth c H locs 0 0 (fm_Z below shC G args s (some (.int r)) M') (F0 m 47 ls []) := by
    intro w47_M n47
    induction n47 with
    | zero => intro v2 v3 H locs ls E hl hf; exact fm_lp_0 hf
    | succ n47 ih47 =>
      intro v2 v3 H locs ls E hl hf
      have hf : pMicRow_level_L47b N w47_M (fm_lp (pMicRow_level_L47 N w47_M) n47) v2 v3 = some (r, M') := hf
      unfold pMicRow_level_L47b at hf
      refine lv_iload_n C.1 C.2.1 dX9_level_47 rfl (lv_at hl 2 rfl) ?_
      refine lv_aload_n C.1 C.2.1 dX9_level_48 rfl (lv_at hl 0 rfl) ?_
      refine fm_getr C E lf_X9_10 hC_0 rfl dX9_level_49 ?_
      obtain ⟨x52, hc52, hf⟩ := fm_bd hf
      refine fm_callV C E [] [.int _] lm_X9_211 wk_X7_length (c_Scene_length l G _ _  hc52) hC_1 rfl rfl rfl hl.1 (by simp [Value.category]) ⟨⟨rfl, rfl⟩, by decide, by decide⟩ ⟨by decide, by decide⟩ dX9_level_52 rfl (fun H locs E => ?_)
      refine W.eq (g2 := F0 m 55 ls (.int x52 :: [.int _])) rfl ?_
      refine lv_icmp_ge (tgt := 93) C.1 C.2.1 dX9_level_55 (by decide) (fun hc55 => ?_) (fun hc55 => ?_)
      · have hf := fm_ip hf hc55
        refine lv_aload_n C.1 C.2.1 dX9_level_93 rfl (lv_at hl 0 rfl) ?_
        refine fm_getr C E lf_X9_53 hC_0 rfl dX9_level_94 ?_
        obtain ⟨M97, hc97, hf⟩ := fm_bd hf
        refine fm_callV C E [] [] lm_X9_225 wk_X8_clear (c_Told_clear l G _ _ hc97) hC_176 rfl rfl rfl hl.1 (by simp [Value.category]) ⟨⟨rfl, rfl⟩, by decide, by decide⟩ ⟨by decide, by decide⟩ dX9_level_97 rfl (fun H locs E => ?_)
        refine W.eq (g2 := F0 m 100 ls []) rfl ?_
        refine lv_aload_n C.1 C.2.1 dX9_level_100 rfl (lv_at hl 0 rfl) ?_
        refine fm_getr C E lf_X9_53 hC_0 rfl dX9_level_101 ?_
        refine lv_aload_n C.1 C.2.1 dX9_level_104 rfl (lv_at hl 0 rfl) ?_
        refine fm_getr C E lf_X9_71 hC_0 rfl dX9_level_105 ?_
        refine lv_aload_n C.1 C.2.1 dX9_level_108 rfl (lv_at hl 0 rfl) ?_
        refine fm_getr C E lf_X9_71 hC_0 rfl dX9_level_109 ?_
        refine fm_getr C E lf_X9_217 hC_181 rfl dX9_level_112 ?_
        obtain ⟨x115, hc115, hf⟩ := fm_bd hf
        refine fm_callV C E [.ref _] [.ref _] lm_X9_228 wk_X0_powerOf (c_Bench_powerOf l G N _ _ _  hc115) hC_181 rfl rfl rfl hl.1 (by simp [Value.category]) ⟨⟨rfl, rfl⟩, by decide, by decide⟩ ⟨by decide, by decide⟩ dX9_level_115 rfl (fun H locs E => ?_)
        refine W.eq (g2 := F0 m 118 ls (.long x115 :: [.ref _])) rfl ?_
        obtain ⟨M118, hc118, hf⟩ := fm_bd hf
        refine fm_callV C E [.long _] [] lm_X9_232 wk_X8_add (c_Told_add l G _ _ _ hc118) hC_176 rfl rfl rfl hl.1 (by simp [Value.category]) ⟨⟨rfl, rfl⟩, by decide, by decide⟩ ⟨by decide, by decide⟩ dX9_level_118 rfl (fun H locs E => ?_)
        refine W.eq (g2 := F0 m 121 ls []) rfl ?_
        refine lv_aload_n C.1 C.2.1 dX9_level_121 rfl (lv_at hl 0 rfl) ?_
        refine fm_getr C E lf_X9_53 hC_0 rfl dX9_level_122 ?_
        refine lv_aload_n C.1 C.2.1 dX9_level_125 rfl (lv_at hl 0 rfl) ?_
        refine fm_getr C E lf_X9_71 hC_0 rfl dX9_level_126 ?_
        refine fm_getr C E lf_X9_217 hC_181 rfl dX9_level_129 ?_
        refine lv_iload_n C.1 C.2.1 dX9_level_132 rfl (lv_at hl 1 rfl) ?_
        obtain ⟨h133, x133, e133, hf⟩ := fm_ld_e hf
        refine fm_iald' C E e133 hC_189 h133 dX9_level_133 ?_
        refine fm_abs C wv_abs wm_510 hl.1 ⟨by decide, by decide⟩ (by simp [Value.category]) ⟨by decide, by decide⟩ dX9_level_134 ?_
        refine lv_i2l C.1 C.2.1 dX9_level_137 rfl ?_
        obtain ⟨M138, hc138, hf⟩ := fm_bd hf
        refine fm_callV C E [.long _] [] lm_X9_232 wk_X8_add (c_Told_add l G _ _ _ hc138) hC_176 rfl rfl rfl hl.1 (by simp [Value.category]) ⟨⟨rfl, rfl⟩, by decide, by decide⟩ ⟨by decide, by decide⟩ dX9_level_138 rfl (fun H locs E => ?_)
        refine W.eq (g2 := F0 m 141 ls []) rfl ?_
        refine lv_aload_n C.1 C.2.1 dX9_level_141 rfl (lv_at hl 0 rfl) ?_
        refine fm_getr C E lf_X9_53 hC_0 rfl dX9_level_142 ?_
        refine lv_aload_n C.1 C.2.1 dX9_level_145 rfl (lv_at hl 0 rfl) ?_
        refine fm_getr C E lf_X9_10 hC_0 rfl dX9_level_146 ?_
        obtain ⟨x149, hc149, hf⟩ := fm_bd hf
        refine fm_callV C E [] [.ref _] lm_X9_208 wk_X7_begin (c_Scene_begin l G _ _  hc149) hC_1 rfl rfl rfl hl.1 (by simp [Value.category]) ⟨⟨rfl, rfl⟩, by decide, by decide⟩ ⟨by decide, by decide⟩ dX9_level_149 rfl (fun H locs E => ?_)
        refine W.eq (g2 := F0 m 152 ls (.int x149 :: [.ref _])) rfl ?_
        refine lv_iload_n C.1 C.2.1 dX9_level_152 rfl (lv_at hl 1 rfl) ?_
        refine lv_iadd C.1 C.2.1 dX9_level_153 ?_
        refine lv_i2l C.1 C.2.1 dX9_level_154 rfl ?_
        obtain ⟨M155, hc155, hf⟩ := fm_bd hf
        refine fm_callV C E [.long _] [] lm_X9_232 wk_X8_add (c_Told_add l G _ _ _ hc155) hC_176 rfl rfl rfl hl.1 (by simp [Value.category]) ⟨⟨rfl, rfl⟩, by decide, by decide⟩ ⟨by decide, by decide⟩ dX9_level_155 rfl (fun H locs E => ?_)
        refine W.eq (g2 := F0 m 158 ls []) rfl ?_
        refine lv_aload_n C.1 C.2.1 dX9_level_158 rfl (lv_at hl 0 rfl) ?_
        refine fm_getr C E lf_X9_71 hC_0 rfl dX9_level_159 ?_
        refine lv_aload_n C.1 C.2.1 dX9_level_162 rfl (lv_at hl 0 rfl) ?_
        refine fm_getr C E lf_X9_71 hC_0 rfl dX9_level_163 ?_
        refine fm_getr C E lf_X9_217 hC_181 rfl dX9_level_166 ?_
        obtain ⟨x169, hc169, hf⟩ := fm_bd hf
        refine fm_callV C E [.ref _] [] lm_X9_236 wk_X0_levelOf (c_Bench_levelOf l G N _ _ _  hc169) hC_181 rfl rfl rfl hl.1 (by simp [Value.category]) ⟨⟨rfl, rfl⟩, by decide, by decide⟩ ⟨by decide, by decide⟩ dX9_level_169 rfl (fun H locs E => ?_)
        refine W.eq (g2 := F0 m 172 ls (.int x169 :: [])) rfl ?_
        obtain ⟨rfl, rfl⟩ := fm_rt2 hf
        exact fm_iret C E rfl rfl dX9_level_172
      · have hf := fm_in' hf hc55
        refine lv_aload_n C.1 C.2.1 dX9_level_58 rfl (lv_at hl 0 rfl) ?_
        refine fm_getr C E lf_X9_71 hC_0 rfl dX9_level_59 ?_
        refine fm_getr C E lf_X9_217 hC_181 rfl dX9_level_62 ?_
        refine lv_iload_n C.1 C.2.1 dX9_level_65 rfl (lv_at hl 2 rfl) ?_
        obtain ⟨h66, x66, e66, hf⟩ := fm_ld_e hf
        refine fm_iald' C E e66 hC_189 h66 dX9_level_66 ?_
        refine fm_abs C wv_abs wm_510 hl.1 ⟨by decide, by decide⟩ (by simp [Value.category]) ⟨by decide, by decide⟩ dX9_level_67 ?_
        refine lv_aload_n C.1 C.2.1 dX9_level_70 rfl (lv_at hl 0 rfl) ?_
        refine fm_getr C E lf_X9_71 hC_0 rfl dX9_level_71 ?_
        refine fm_getr C E lf_X9_217 hC_181 rfl dX9_level_74 ?_
        refine lv_iload_n C.1 C.2.1 dX9_level_77 rfl (lv_at hl 1 rfl) ?_
        obtain ⟨h78, x78, e78, hf⟩ := fm_ld_e hf
        refine fm_iald' C E e78 hC_189 h78 dX9_level_78 ?_
        refine fm_abs C wv_abs wm_510 hl.1 ⟨by decide, by decide⟩ (by simp [Value.category]) ⟨by decide, by decide⟩ dX9_level_79 ?_
        refine lv_icmp_le (tgt := 87) C.1 C.2.1 dX9_level_82 (by decide) (fun hc82 => ?_) (fun hc82 => ?_)
        · have hf := fm_ip hf hc82
          refine fm_iinc C (v := 1) (lv' := [(3, .int _), (0, .ref _), (2, .int _)]) (k := 2) hl rfl (by decide) (by decide) rfl dX9_level_87 (fun ls hl => ?_)
          refine lv_goto (tgt := 47) C.1 C.2.1 dX9_level_90 (by decide) ?_
          exact ih47 _ _ _ _ _ E (lv_sub hl [1, 2, 0] rfl) hf
        · have hf := fm_in' hf hc82
          refine lv_iload_n C.1 C.2.1 dX9_level_85 rfl (lv_at hl 2 rfl) ?_
          refine lv_istore_n (lv' := [(2, .int _), (0, .ref _), (3, .int _)]) C.1 C.2.1 dX9_level_86 rfl hl (by decide) rfl (fun ls hl => ?_)
          refine fm_iinc C (v := 1) (lv' := [(3, .int _), (2, .int _), (0, .ref _)]) (k := 2) hl rfl (by decide) (by decide) rfl dX9_level_87 (fun ls hl => ?_)
          refine lv_goto (tgt := 47) C.1 C.2.1 dX9_level_90 (by decide) ?_
          exact ih47 _ _ _ _ _ E (lv_sub hl [2, 1, 0] rfl) hf
  unfold pMicRow_level at hf
  refine lv_aload_n C.1 C.2.1 dX9_level_0 rfl (lv_at hl 0 rfl) ?_
  refine fm_getr C E lf_X9_10 hC_0 rfl dX9_level_1 ?_
  refine lv_iload_n C.1 C.2.1 dX9_level_4 rfl (lv_at hl 1 rfl) ?_
  obtain ⟨x5, hc5, hf⟩ := fm_bd hf
  refine fm_callV C E [.int _] [] lm_X9_116 wk_X7_hasMic (c_Scene_hasMic l G _ _ _  hc5) hC_1 rfl rfl rfl hl.1 (by simp [Value.category]) ⟨⟨rfl, rfl⟩, by decide, by decide⟩ ⟨by decide, by decide⟩ dX9_level_5 rfl (fun H locs E => ?_)
  refine W.eq (g2 := F0 m 8 ls (.int x5 :: [])) rfl ?_
  refine lv_if_ne (tgt := 13) C.1 C.2.1 dX9_level_8 (by decide) (fun hc8 => ?_) (fun hc8 => ?_)
  · have hf := fm_in' hf hc8
    refine lv_aload_n C.1 C.2.1 dX9_level_13 rfl (lv_at hl 0 rfl) ?_
    refine fm_getr C E lf_X9_62 hC_0 rfl dX9_level_14 ?_
    refine lv_iconst (v := (-1)) C.1 C.2.1 dX9_level_17 (by decide) ?_
    obtain ⟨M18, hc18, hf⟩ := fm_bd hf
    refine fm_callV C E [.int _] [] lm_X9_150 wk_X3_listenTo (c_Ears_listenTo l G _ _ _ hc18) hC_178 rfl rfl rfl hl.1 (by simp [Value.category]) ⟨⟨rfl, rfl⟩, by decide, by decide⟩ ⟨by decide, by decide⟩ dX9_level_18 rfl (fun H locs E => ?_)
    refine W.eq (g2 := F0 m 21 ls []) rfl ?_
    refine lv_aload_n C.1 C.2.1 dX9_level_21 rfl (lv_at hl 0 rfl) ?_
    refine fm_getr C E lf_X9_71 hC_0 rfl dX9_level_22 ?_
    refine lv_iload_n C.1 C.2.1 dX9_level_25 rfl (lv_at hl 1 rfl) ?_
    refine lv_aload_n C.1 C.2.1 dX9_level_26 rfl (lv_at hl 0 rfl) ?_
    refine fm_getr C E lf_X9_10 hC_0 rfl dX9_level_27 ?_
    obtain ⟨x30, hc30, hf⟩ := fm_bd hf
    refine fm_callV C E [] [.int _, .ref _] lm_X9_208 wk_X7_begin (c_Scene_begin l G _ _  hc30) hC_1 rfl rfl rfl hl.1 (by simp [Value.category]) ⟨⟨rfl, rfl⟩, by decide, by decide⟩ ⟨by decide, by decide⟩ dX9_level_30 rfl (fun H locs E => ?_)
    refine W.eq (g2 := F0 m 33 ls (.int x30 :: [.int _, .ref _])) rfl ?_
    refine lv_aload_n C.1 C.2.1 dX9_level_33 rfl (lv_at hl 0 rfl) ?_
    refine fm_getr C E lf_X9_10 hC_0 rfl dX9_level_34 ?_
    obtain ⟨x37, hc37, hf⟩ := fm_bd hf
    refine fm_callV C E [] [.int _, .int _, .ref _] lm_X9_211 wk_X7_length (c_Scene_length l G _ _  hc37) hC_1 rfl rfl rfl hl.1 (by simp [Value.category]) ⟨⟨rfl, rfl⟩, by decide, by decide⟩ ⟨by decide, by decide⟩ dX9_level_37 rfl (fun H locs E => ?_)
    refine W.eq (g2 := F0 m 40 ls (.int x37 :: [.int _, .int _, .ref _])) rfl ?_
    obtain ⟨M40, hc40, hf⟩ := fm_bd hf
    refine fm_callV C E [.int _, .int _, .int _] [] lm_X9_214 wk_X0_hear (c_Bench_hear l G N _ _ _ _ _ hc40) hC_181 rfl rfl rfl hl.1 (by simp [Value.category]) ⟨⟨rfl, rfl⟩, by decide, by decide⟩ ⟨by decide, by decide⟩ dX9_level_40 rfl (fun H locs E => ?_)
    refine W.eq (g2 := F0 m 43 ls []) rfl ?_
    refine lv_iconst (v := 0) C.1 C.2.1 dX9_level_43 (by decide) ?_
    refine lv_istore_n (lv' := [(2, .int _), (0, .ref _), (1, .int _)]) C.1 C.2.1 dX9_level_44 rfl hl (by decide) rfl (fun ls hl => ?_)
    refine lv_iconst (v := 1) C.1 C.2.1 dX9_level_45 (by decide) ?_
    refine lv_istore_n (lv' := [(3, .int _), (2, .int _), (0, .ref _), (1, .int _)]) C.1 C.2.1 dX9_level_46 rfl hl (by decide) rfl (fun ls hl => ?_)
    exact L47 _ N _ _ _ _ _ E (lv_sub hl [2, 1, 0] rfl) hf
  · have hf := fm_ip hf hc8
    refine lv_iconst (v := (-1)) C.1 C.2.1 dX9_level_11 (by decide) ?_
    obtain ⟨rfl, rfl⟩ := fm_rt2 hf
    exact fm_iret C E rfl rfl dX9_level_12
theorem dX9_heardPower_0 : decode cX9_heardPower 0 = .ok (.aload_n 0, 1) := by decide +kernel
theorem dX9_heardPower_1 : decode cX9_heardPower 1 = .ok (.getfield 62, 3) := by decide +kernel
theorem dX9_heardPower_4 : decode cX9_heardPower 4 = .ok (.iload_n 2, 1) := by decide +kernel
theorem dX9_heardPower_5 : decode cX9_heardPower 5 = .ok (.invokevirtual 150, 3) := by decide +kernel
theorem dX9_heardPower_8 : decode cX9_heardPower 8 = .ok (.aload_n 0, 1) := by decide +kernel
theorem dX9_heardPower_9 : decode cX9_heardPower 9 = .ok (.getfield 71, 3) := by decide +kernel
theorem dX9_heardPower_12 : decode cX9_heardPower 12 = .ok (.iload_n 1, 1) := by decide +kernel
theorem dX9_heardPower_13 : decode cX9_heardPower 13 = .ok (.aload_n 0, 1) := by decide +kernel
theorem dX9_heardPower_14 : decode cX9_heardPower 14 = .ok (.getfield 10, 3) := by decide +kernel
theorem dX9_heardPower_17 : decode cX9_heardPower 17 = .ok (.invokevirtual 208, 3) := by decide +kernel
theorem dX9_heardPower_20 : decode cX9_heardPower 20 = .ok (.aload_n 0, 1) := by decide +kernel
theorem dX9_heardPower_21 : decode cX9_heardPower 21 = .ok (.getfield 10, 3) := by decide +kernel
theorem dX9_heardPower_24 : decode cX9_heardPower 24 = .ok (.invokevirtual 211, 3) := by decide +kernel
theorem dX9_heardPower_27 : decode cX9_heardPower 27 = .ok (.invokevirtual 214, 3) := by decide +kernel
theorem dX9_heardPower_30 : decode cX9_heardPower 30 = .ok (.aload_n 0, 1) := by decide +kernel
theorem dX9_heardPower_31 : decode cX9_heardPower 31 = .ok (.getfield 71, 3) := by decide +kernel
theorem dX9_heardPower_34 : decode cX9_heardPower 34 = .ok (.aload_n 0, 1) := by decide +kernel
theorem dX9_heardPower_35 : decode cX9_heardPower 35 = .ok (.getfield 71, 3) := by decide +kernel
theorem dX9_heardPower_38 : decode cX9_heardPower 38 = .ok (.getfield 217, 3) := by decide +kernel
theorem dX9_heardPower_41 : decode cX9_heardPower 41 = .ok (.invokevirtual 228, 3) := by decide +kernel
theorem dX9_heardPower_44 : decode cX9_heardPower 44 = .ok (.lreturn, 1) := by decide +kernel
set_option maxHeartbeats 4000000 in
set_option maxRecDepth 100000 in
theorem c_MicRow_heardPower (l : Launch) (G : fm_G) (N : Nat) (M : fm_M) (v1 : Int32) (v2 : Int32) (r : Int64) (M' : fm_M) (hf : pMicRow_heardPower N M v1 v2 = some (r, M')) : fm_Met l yX9_heardPower cX9_heardPower 3 (some .long) { frames := 5, cells := 0, slots := 0, locals := 120 } shC G [.ref (G.2.1 0), .int v1, .int v2] M (some (.long r)) M' := by
  refine fm_enter (by decide) (Nat.le_of_ble_eq_true rfl) ?_
  intro p e s m args below meth c ls C E hl
  have hl : lv_has ls 3 [(0, .ref (G.2.1 0)), (1, .int v1), (2, .int v2)] := hl
  unfold pMicRow_heardPower at hf
  refine lv_aload_n C.1 C.2.1 dX9_heardPower_0 rfl (lv_at hl 0 rfl) ?_
  refine fm_getr C E lf_X9_62 hC_0 rfl dX9_heardPower_1 ?_
  refine lv_iload_n C.1 C.2.1 dX9_heardPower_4 rfl (lv_at hl 2 rfl) ?_
  obtain ⟨M5, hc5, hf⟩ := fm_bd hf
  refine fm_callV C E [.int _] [] lm_X9_150 wk_X3_listenTo (c_Ears_listenTo l G _ _ _ hc5) hC_178 rfl rfl rfl hl.1 (by simp [Value.category]) ⟨⟨rfl, rfl⟩, by decide, by decide⟩ ⟨by decide, by decide⟩ dX9_heardPower_5 rfl (fun H locs E => ?_)
  refine W.eq (g2 := F0 m 8 ls []) rfl ?_
  refine lv_aload_n C.1 C.2.1 dX9_heardPower_8 rfl (lv_at hl 0 rfl) ?_
  refine fm_getr C E lf_X9_71 hC_0 rfl dX9_heardPower_9 ?_
  refine lv_iload_n C.1 C.2.1 dX9_heardPower_12 rfl (lv_at hl 1 rfl) ?_
  refine lv_aload_n C.1 C.2.1 dX9_heardPower_13 rfl (lv_at hl 0 rfl) ?_
  refine fm_getr C E lf_X9_10 hC_0 rfl dX9_heardPower_14 ?_
  obtain ⟨x17, hc17, hf⟩ := fm_bd hf
  refine fm_callV C E [] [.int _, .ref _] lm_X9_208 wk_X7_begin (c_Scene_begin l G _ _  hc17) hC_1 rfl rfl rfl hl.1 (by simp [Value.category]) ⟨⟨rfl, rfl⟩, by decide, by decide⟩ ⟨by decide, by decide⟩ dX9_heardPower_17 rfl (fun H locs E => ?_)
  refine W.eq (g2 := F0 m 20 ls (.int x17 :: [.int _, .ref _])) rfl ?_
  refine lv_aload_n C.1 C.2.1 dX9_heardPower_20 rfl (lv_at hl 0 rfl) ?_
  refine fm_getr C E lf_X9_10 hC_0 rfl dX9_heardPower_21 ?_
  obtain ⟨x24, hc24, hf⟩ := fm_bd hf
  refine fm_callV C E [] [.int _, .int _, .ref _] lm_X9_211 wk_X7_length (c_Scene_length l G _ _  hc24) hC_1 rfl rfl rfl hl.1 (by simp [Value.category]) ⟨⟨rfl, rfl⟩, by decide, by decide⟩ ⟨by decide, by decide⟩ dX9_heardPower_24 rfl (fun H locs E => ?_)
  refine W.eq (g2 := F0 m 27 ls (.int x24 :: [.int _, .int _, .ref _])) rfl ?_
  obtain ⟨M27, hc27, hf⟩ := fm_bd hf
  refine fm_callV C E [.int _, .int _, .int _] [] lm_X9_214 wk_X0_hear (c_Bench_hear l G N _ _ _ _ _ hc27) hC_181 rfl rfl rfl hl.1 (by simp [Value.category]) ⟨⟨rfl, rfl⟩, by decide, by decide⟩ ⟨by decide, by decide⟩ dX9_heardPower_27 rfl (fun H locs E => ?_)
  refine W.eq (g2 := F0 m 30 ls []) rfl ?_
  refine lv_aload_n C.1 C.2.1 dX9_heardPower_30 rfl (lv_at hl 0 rfl) ?_
  refine fm_getr C E lf_X9_71 hC_0 rfl dX9_heardPower_31 ?_
  refine lv_aload_n C.1 C.2.1 dX9_heardPower_34 rfl (lv_at hl 0 rfl) ?_
  refine fm_getr C E lf_X9_71 hC_0 rfl dX9_heardPower_35 ?_
  refine fm_getr C E lf_X9_217 hC_181 rfl dX9_heardPower_38 ?_
  obtain ⟨x41, hc41, hf⟩ := fm_bd hf
  refine fm_callV C E [.ref _] [] lm_X9_228 wk_X0_powerOf (c_Bench_powerOf l G N _ _ _  hc41) hC_181 rfl rfl rfl hl.1 (by simp [Value.category]) ⟨⟨rfl, rfl⟩, by decide, by decide⟩ ⟨by decide, by decide⟩ dX9_heardPower_41 rfl (fun H locs E => ?_)
  refine W.eq (g2 := F0 m 44 ls (.long x41 :: [])) rfl ?_
  obtain ⟨rfl, rfl⟩ := fm_rt2 hf
  exact fm_lret C E rfl dX9_heardPower_44
theorem dX9_faults_0 : decode cX9_faults 0 = .ok (.iload_n 1, 1) := by decide +kernel
theorem dX9_faults_1 : decode cX9_faults 1 = .ok (.iconst 0, 1) := by decide +kernel
theorem dX9_faults_2 : decode cX9_faults 2 = .ok (.bipush 48, 2) := by decide +kernel
theorem dX9_faults_4 : decode cX9_faults 4 = .ok (.invokestatic 112, 3) := by decide +kernel
theorem dX9_faults_7 : decode cX9_faults 7 = .ok (.ifCond .ne 5, 3) := by decide +kernel
theorem dX9_faults_10 : decode cX9_faults 10 = .ok (.iconst (-1), 1) := by decide +kernel
theorem dX9_faults_11 : decode cX9_faults 11 = .ok (.ireturn, 1) := by decide +kernel
theorem dX9_faults_12 : decode cX9_faults 12 = .ok (.aload_n 0, 1) := by decide +kernel
theorem dX9_faults_13 : decode cX9_faults 13 = .ok (.getfield 62, 3) := by decide +kernel
theorem dX9_faults_16 : decode cX9_faults 16 = .ok (.iconst (-1), 1) := by decide +kernel
theorem dX9_faults_17 : decode cX9_faults 17 = .ok (.invokevirtual 150, 3) := by decide +kernel
theorem dX9_faults_20 : decode cX9_faults 20 = .ok (.iconst 0, 1) := by decide +kernel
theorem dX9_faults_21 : decode cX9_faults 21 = .ok (.istore_n 2, 1) := by decide +kernel
theorem dX9_faults_22 : decode cX9_faults 22 = .ok (.iconst 0, 1) := by decide +kernel
theorem dX9_faults_23 : decode cX9_faults 23 = .ok (.istore_n 3, 1) := by decide +kernel
theorem dX9_faults_24 : decode cX9_faults 24 = .ok (.iconst 0, 1) := by decide +kernel
theorem dX9_faults_25 : decode cX9_faults 25 = .ok (.istore 4, 2) := by decide +kernel
theorem dX9_faults_27 : decode cX9_faults 27 = .ok (.iconst 0, 1) := by decide +kernel
theorem dX9_faults_28 : decode cX9_faults 28 = .ok (.istore 5, 2) := by decide +kernel
theorem dX9_faults_30 : decode cX9_faults 30 = .ok (.iload 5, 2) := by decide +kernel
theorem dX9_faults_32 : decode cX9_faults 32 = .ok (.aload_n 0, 1) := by decide +kernel
theorem dX9_faults_33 : decode cX9_faults 33 = .ok (.getfield 10, 3) := by decide +kernel
theorem dX9_faults_36 : decode cX9_faults 36 = .ok (.getfield 284, 3) := by decide +kernel
theorem dX9_faults_39 : decode cX9_faults 39 = .ok (.if_icmp .ge 99, 3) := by decide +kernel
theorem dX9_faults_42 : decode cX9_faults 42 = .ok (.aload_n 0, 1) := by decide +kernel
theorem dX9_faults_43 : decode cX9_faults 43 = .ok (.getfield 71, 3) := by decide +kernel
theorem dX9_faults_46 : decode cX9_faults 46 = .ok (.iload 5, 2) := by decide +kernel
theorem dX9_faults_48 : decode cX9_faults 48 = .ok (.aload_n 0, 1) := by decide +kernel
theorem dX9_faults_49 : decode cX9_faults 49 = .ok (.getfield 10, 3) := by decide +kernel
theorem dX9_faults_52 : decode cX9_faults 52 = .ok (.invokevirtual 208, 3) := by decide +kernel
theorem dX9_faults_55 : decode cX9_faults 55 = .ok (.aload_n 0, 1) := by decide +kernel
theorem dX9_faults_56 : decode cX9_faults 56 = .ok (.getfield 10, 3) := by decide +kernel
theorem dX9_faults_59 : decode cX9_faults 59 = .ok (.invokevirtual 211, 3) := by decide +kernel
theorem dX9_faults_62 : decode cX9_faults 62 = .ok (.invokevirtual 214, 3) := by decide +kernel
theorem dX9_faults_65 : decode cX9_faults 65 = .ok (.iload_n 2, 1) := by decide +kernel
theorem dX9_faults_66 : decode cX9_faults 66 = .ok (.aload_n 0, 1) := by decide +kernel
theorem dX9_faults_67 : decode cX9_faults 67 = .ok (.getfield 71, 3) := by decide +kernel
theorem dX9_faults_70 : decode cX9_faults 70 = .ok (.invokevirtual 287, 3) := by decide +kernel
theorem dX9_faults_73 : decode cX9_faults 73 = .ok (.ifCond .eq 10, 3) := by decide +kernel
theorem dX9_faults_76 : decode cX9_faults 76 = .ok (.iconst 1, 1) := by decide +kernel
theorem dX9_faults_77 : decode cX9_faults 77 = .ok (.iload 5, 2) := by decide +kernel
theorem dX9_faults_79 : decode cX9_faults 79 = .ok (.ishl, 1) := by decide +kernel
theorem dX9_faults_80 : decode cX9_faults 80 = .ok (.goto 4, 3) := by decide +kernel
theorem dX9_faults_83 : decode cX9_faults 83 = .ok (.iconst 0, 1) := by decide +kernel
theorem dX9_faults_84 : decode cX9_faults 84 = .ok (.ior, 1) := by decide +kernel
theorem dX9_faults_85 : decode cX9_faults 85 = .ok (.istore_n 2, 1) := by decide +kernel
theorem dX9_faults_86 : decode cX9_faults 86 = .ok (.iload_n 3, 1) := by decide +kernel
theorem dX9_faults_87 : decode cX9_faults 87 = .ok (.aload_n 0, 1) := by decide +kernel
theorem dX9_faults_88 : decode cX9_faults 88 = .ok (.getfield 71, 3) := by decide +kernel
theorem dX9_faults_91 : decode cX9_faults 91 = .ok (.invokevirtual 291, 3) := by decide +kernel
theorem dX9_faults_94 : decode cX9_faults 94 = .ok (.iload_n 1, 1) := by decide +kernel
theorem dX9_faults_95 : decode cX9_faults 95 = .ok (.if_icmp .lt 10, 3) := by decide +kernel
theorem dX9_faults_98 : decode cX9_faults 98 = .ok (.iconst 1, 1) := by decide +kernel
theorem dX9_faults_99 : decode cX9_faults 99 = .ok (.iload 5, 2) := by decide +kernel
theorem dX9_faults_101 : decode cX9_faults 101 = .ok (.ishl, 1) := by decide +kernel
theorem dX9_faults_102 : decode cX9_faults 102 = .ok (.goto 4, 3) := by decide +kernel
theorem dX9_faults_105 : decode cX9_faults 105 = .ok (.iconst 0, 1) := by decide +kernel
theorem dX9_faults_106 : decode cX9_faults 106 = .ok (.ior, 1) := by decide +kernel
theorem dX9_faults_107 : decode cX9_faults 107 = .ok (.istore_n 3, 1) := by decide +kernel
theorem dX9_faults_108 : decode cX9_faults 108 = .ok (.iload 4, 2) := by decide +kernel
theorem dX9_faults_110 : decode cX9_faults 110 = .ok (.aload_n 0, 1) := by decide +kernel
theorem dX9_faults_111 : decode cX9_faults 111 = .ok (.getfield 71, 3) := by decide +kernel
theorem dX9_faults_114 : decode cX9_faults 114 = .ok (.invokevirtual 294, 3) := by decide +kernel
theorem dX9_faults_117 : decode cX9_faults 117 = .ok (.iload_n 1, 1) := by decide +kernel
theorem dX9_faults_118 : decode cX9_faults 118 = .ok (.if_icmp .lt 10, 3) := by decide +kernel
theorem dX9_faults_121 : decode cX9_faults 121 = .ok (.iconst 1, 1) := by decide +kernel
theorem dX9_faults_122 : decode cX9_faults 122 = .ok (.iload 5, 2) := by decide +kernel
theorem dX9_faults_124 : decode cX9_faults 124 = .ok (.ishl, 1) := by decide +kernel
theorem dX9_faults_125 : decode cX9_faults 125 = .ok (.goto 4, 3) := by decide +kernel
theorem dX9_faults_128 : decode cX9_faults 128 = .ok (.iconst 0, 1) := by decide +kernel
theorem dX9_faults_129 : decode cX9_faults 129 = .ok (.ior, 1) := by decide +kernel
theorem dX9_faults_130 : decode cX9_faults 130 = .ok (.istore 4, 2) := by decide +kernel
theorem dX9_faults_132 : decode cX9_faults 132 = .ok (.iinc 5 1, 3) := by decide +kernel
theorem dX9_faults_135 : decode cX9_faults 135 = .ok (.goto (-105), 3) := by decide +kernel
theorem dX9_faults_138 : decode cX9_faults 138 = .ok (.aload_n 0, 1) := by decide +kernel
theorem dX9_faults_139 : decode cX9_faults 139 = .ok (.getfield 53, 3) := by decide +kernel
theorem dX9_faults_142 : decode cX9_faults 142 = .ok (.invokevirtual 225, 3) := by decide +kernel
theorem dX9_faults_145 : decode cX9_faults 145 = .ok (.aload_n 0, 1) := by decide +kernel
theorem dX9_faults_146 : decode cX9_faults 146 = .ok (.getfield 53, 3) := by decide +kernel
theorem dX9_faults_149 : decode cX9_faults 149 = .ok (.iload_n 3, 1) := by decide +kernel
theorem dX9_faults_150 : decode cX9_faults 150 = .ok (.i2l, 1) := by decide +kernel
theorem dX9_faults_151 : decode cX9_faults 151 = .ok (.invokevirtual 232, 3) := by decide +kernel
theorem dX9_faults_154 : decode cX9_faults 154 = .ok (.aload_n 0, 1) := by decide +kernel
theorem dX9_faults_155 : decode cX9_faults 155 = .ok (.getfield 53, 3) := by decide +kernel
theorem dX9_faults_158 : decode cX9_faults 158 = .ok (.iload 4, 2) := by decide +kernel
theorem dX9_faults_160 : decode cX9_faults 160 = .ok (.i2l, 1) := by decide +kernel
theorem dX9_faults_161 : decode cX9_faults 161 = .ok (.invokevirtual 232, 3) := by decide +kernel
theorem dX9_faults_164 : decode cX9_faults 164 = .ok (.iload_n 2, 1) := by decide +kernel
theorem dX9_faults_165 : decode cX9_faults 165 = .ok (.ireturn, 1) := by decide +kernel
set_option maxHeartbeats 4000000 in
set_option maxRecDepth 100000 in
theorem c_MicRow_faults (l : Launch) (G : fm_G) (N : Nat) (M : fm_M) (v1 : Int32) (r : Int32) (M' : fm_M) (hf : pMicRow_faults N M v1 = some (r, M')) : fm_Met l yX9_faults cX9_faults 6 (some .int) { frames := 5, cells := 0, slots := 0, locals := 120 } shC G [.ref (G.2.1 0), .int v1] M (some (.int r)) M' := by
  refine fm_enter (by decide) (Nat.le_of_ble_eq_true rfl) ?_
  intro p e s m args below meth c ls C E hl
  have hl : lv_has ls 6 [(0, .ref (G.2.1 0)), (1, .int v1)] := hl
  have L30 : ∀ (w30_v1 : Int32) (n30 : Nat) (v2 : Int32) (v3 : Int32) (v4 : Int32) (v5 : Int32) (M : fm_M) (H : Heap) (locs : List Loc) (ls : Array Slot), fm_Wd shC G M s H locs → lv_has ls 6 [(0, .ref (G.2.1 0)), (1, .int w30_v1), (2, .int v2), (3, .int v3), (4, .int v4), (5, .int v5)] → fm_lp (pMicRow_faults_L30 N w30_v1) n30 (v2, v3, v4, v5, M) = some (r, M') → W p l e { frames := 5, cells := 0, slots := 0, locals := 120 } s m args below meth c H locs 0 0 (fm_Z below shC G args s (some (.int r)) M') (F0 m 30 ls []) := by
    intro w30_v1 n30
    induction n30 with
    | zero => intro v2 v3 v4 v5 M H locs ls E hl hf; exact fm_lp_0 hf
    | succ n30 ih30 =>
      have J106 : ∀ (M : fm_M) (v2 : Int32) (v4 : Int32) (v5 : Int32) (s0 : Int32) (s1 : Int32) (H : Heap) (locs : List Loc) (ls : Array Slot), fm_Wd shC G M s H locs → lv_has ls 6 [(0, .ref (G.2.1 0)), (1, .int w30_v1), (2, .int v2), (4, .int v4), (5, .int v5)] → pMicRow_faults_J106 N M w30_v1 v2 v4 v5 (fm_lp (pMicRow_faults_L30 N w30_v1) n30) s0 s1 = some (r, M') → W p l e { frames := 5, cells := 0, slots := 0, locals := 120 } s m args below meth c H locs 0 0 (fm_Z below shC G args s (some (.int r)) M') (F0 m 106 ls [.int s1, .int s0]) := by
        intro M v2 v4 v5 s0 s1 H locs ls E hl hf
        unfold pMicRow_faults_J106 at hf
        refine lv_ior C.1 C.2.1 dX9_faults_106 ?_
        refine lv_istore_n (lv' := [(3, .int _), (0, .ref _), (1, .int _), (2, .int _), (4, .int _), (5, .int _)]) C.1 C.2.1 dX9_faults_107 rfl hl (by decide) rfl (fun ls hl => ?_)
        refine lv_iload C.1 C.2.1 dX9_faults_108 (lv_at hl 4 rfl) ?_
        refine lv_aload_n C.1 C.2.1 dX9_faults_110 rfl (lv_at hl 1 rfl) ?_
        refine fm_getr C E lf_X9_71 hC_0 rfl dX9_faults_111 ?_
        obtain ⟨x114, hc114, hf⟩ := fm_bd hf
        refine fm_callV C E [] [.int _] lm_X9_294 wk_X0_turnsOfSign (c_Bench_turnsOfSign l G N _ _  hc114) hC_181 rfl rfl rfl hl.1 (by simp [Value.category]) ⟨⟨rfl, rfl⟩, by decide, by decide⟩ ⟨by decide, by decide⟩ dX9_faults_114 rfl (fun H locs E => ?_)
        refine W.eq (g2 := F0 m 117 ls (.int x114 :: [.int _])) rfl ?_
        refine lv_iload_n C.1 C.2.1 dX9_faults_117 rfl (lv_at hl 2 rfl) ?_
        refine lv_icmp_lt (tgt := 128) C.1 C.2.1 dX9_faults_118 (by decide) (fun hc118 => ?_) (fun hc118 => ?_)
        · have hf := fm_ip hf hc118
          refine lv_iconst (v := 0) C.1 C.2.1 dX9_faults_128 (by decide) ?_
          refine lv_ior C.1 C.2.1 dX9_faults_129 ?_
          refine lv_istore (lv' := [(4, .int _), (3, .int _), (0, .ref _), (1, .int _), (2, .int _), (5, .int _)]) C.1 C.2.1 dX9_faults_130 hl (by decide) rfl (fun ls hl => ?_)
          refine fm_iinc C (v := 1) (lv' := [(5, .int _), (4, .int _), (3, .int _), (0, .ref _), (1, .int _), (2, .int _)]) (k := 5) hl rfl (by decide) (by decide) rfl dX9_faults_132 (fun ls hl => ?_)
          refine lv_goto (tgt := 30) C.1 C.2.1 dX9_faults_135 (by decide) ?_
          exact ih30 _ _ _ _ _ _ _ _ E (lv_sub hl [3, 4, 5, 2, 1, 0] rfl) hf
        · have hf := fm_in' hf hc118
          refine lv_iconst (v := 1) C.1 C.2.1 dX9_faults_121 (by decide) ?_
          refine lv_iload C.1 C.2.1 dX9_faults_122 (lv_at hl 5 rfl) ?_
          refine lv_ishl C.1 C.2.1 dX9_faults_124 ?_
          refine lv_goto (tgt := 129) C.1 C.2.1 dX9_faults_125 (by decide) ?_
          refine lv_ior C.1 C.2.1 dX9_faults_129 ?_
          refine lv_istore (lv' := [(4, .int _), (3, .int _), (0, .ref _), (1, .int _), (2, .int _), (5, .int _)]) C.1 C.2.1 dX9_faults_130 hl (by decide) rfl (fun ls hl => ?_)
          refine fm_iinc C (v := 1) (lv' := [(5, .int _), (4, .int _), (3, .int _), (0, .ref _), (1, .int _), (2, .int _)]) (k := 5) hl rfl (by decide) (by decide) rfl dX9_faults_132 (fun ls hl => ?_)
          refine lv_goto (tgt := 30) C.1 C.2.1 dX9_faults_135 (by decide) ?_
          exact ih30 _ _ _ _ _ _ _ _ E (lv_sub hl [3, 4, 5, 2, 1, 0] rfl) hf
      have J84 : ∀ (M : fm_M) (v3 : Int32) (v4 : Int32) (v5 : Int32) (s0 : Int32) (s1 : Int32) (H : Heap) (locs : List Loc) (ls : Array Slot), fm_Wd shC G M s H locs → lv_has ls 6 [(0, .ref (G.2.1 0)), (1, .int w30_v1), (3, .int v3), (4, .int v4), (5, .int v5)] → pMicRow_faults_J84 N M w30_v1 v3 v4 v5 (fm_lp (pMicRow_faults_L30 N w30_v1) n30) s0 s1 = some (r, M') → W p l e { frames := 5, cells := 0, slots := 0, locals := 120 } s m args below meth c H locs 0 0 (fm_Z below shC G args s (some (.int r)) M') (F0 m 84 ls [.int s1, .int s0]) := by
        intro M v3 v4 v5 s0 s1 H locs ls E hl hf
        unfold pMicRow_faults_J84 at hf
        refine lv_ior C.1 C.2.1 dX9_faults_84 ?_
        refine lv_istore_n (lv' := [(2, .int _), (0, .ref _), (1, .int _), (3, .int _), (4, .int _), (5, .int _)]) C.1 C.2.1 dX9_faults_85 rfl hl (by decide) rfl (fun ls hl => ?_)
        refine lv_iload_n C.1 C.2.1 dX9_faults_86 rfl (lv_at hl 3 rfl) ?_
        refine lv_aload_n C.1 C.2.1 dX9_faults_87 rfl (lv_at hl 1 rfl) ?_
        refine fm_getr C E lf_X9_71 hC_0 rfl dX9_faults_88 ?_
        obtain ⟨x91, hc91, hf⟩ := fm_bd hf
        refine fm_callV C E [] [.int _] lm_X9_291 wk_X0_clips (c_Bench_clips l G N _ _  hc91) hC_181 rfl rfl rfl hl.1 (by simp [Value.category]) ⟨⟨rfl, rfl⟩, by decide, by decide⟩ ⟨by decide, by decide⟩ dX9_faults_91 rfl (fun H locs E => ?_)
        refine W.eq (g2 := F0 m 94 ls (.int x91 :: [.int _])) rfl ?_
        refine lv_iload_n C.1 C.2.1 dX9_faults_94 rfl (lv_at hl 2 rfl) ?_
        refine lv_icmp_lt (tgt := 105) C.1 C.2.1 dX9_faults_95 (by decide) (fun hc95 => ?_) (fun hc95 => ?_)
        · have hf := fm_ip hf hc95
          refine lv_iconst (v := 0) C.1 C.2.1 dX9_faults_105 (by decide) ?_
          exact J106 _ _ _ _ _ _ _ _ _ E (lv_sub hl [1, 2, 0, 4, 5] rfl) hf
        · have hf := fm_in' hf hc95
          refine lv_iconst (v := 1) C.1 C.2.1 dX9_faults_98 (by decide) ?_
          refine lv_iload C.1 C.2.1 dX9_faults_99 (lv_at hl 5 rfl) ?_
          refine lv_ishl C.1 C.2.1 dX9_faults_101 ?_
          refine lv_goto (tgt := 106) C.1 C.2.1 dX9_faults_102 (by decide) ?_
          exact J106 _ _ _ _ _ _ _ _ _ E (lv_sub hl [1, 2, 0, 4, 5] rfl) hf
      intro v2 v3 v4 v5 M H locs ls E hl hf
      have hf : pMicRow_faults_L30b N w30_v1 (fm_lp (pMicRow_faults_L30 N w30_v1) n30) v2 v3 v4 v5 M = some (r, M') := hf
      unfold pMicRow_faults_L30b at hf
      refine lv_iload C.1 C.2.1 dX9_faults_30 (lv_at hl 5 rfl) ?_
      refine lv_aload_n C.1 C.2.1 dX9_faults_32 rfl (lv_at hl 0 rfl) ?_
      refine fm_getr C E lf_X9_10 hC_0 rfl dX9_faults_33 ?_
      refine fm_geti C E lf_X9_284 hC_1 rfl dX9_faults_36 ?_
      refine lv_icmp_ge (tgt := 138) C.1 C.2.1 dX9_faults_39 (by decide) (fun hc39 => ?_) (fun hc39 => ?_)
      · have hf := fm_ip hf hc39
        refine lv_aload_n C.1 C.2.1 dX9_faults_138 rfl (lv_at hl 0 rfl) ?_
        refine fm_getr C E lf_X9_53 hC_0 rfl dX9_faults_139 ?_
        obtain ⟨M142, hc142, hf⟩ := fm_bd hf
        refine fm_callV C E [] [] lm_X9_225 wk_X8_clear (c_Told_clear l G _ _ hc142) hC_176 rfl rfl rfl hl.1 (by simp [Value.category]) ⟨⟨rfl, rfl⟩, by decide, by decide⟩ ⟨by decide, by decide⟩ dX9_faults_142 rfl (fun H locs E => ?_)
        refine W.eq (g2 := F0 m 145 ls []) rfl ?_
        refine lv_aload_n C.1 C.2.1 dX9_faults_145 rfl (lv_at hl 0 rfl) ?_
        refine fm_getr C E lf_X9_53 hC_0 rfl dX9_faults_146 ?_
        refine lv_iload_n C.1 C.2.1 dX9_faults_149 rfl (lv_at hl 3 rfl) ?_
        refine lv_i2l C.1 C.2.1 dX9_faults_150 rfl ?_
        obtain ⟨M151, hc151, hf⟩ := fm_bd hf
        refine fm_callV C E [.long _] [] lm_X9_232 wk_X8_add (c_Told_add l G _ _ _ hc151) hC_176 rfl rfl rfl hl.1 (by simp [Value.category]) ⟨⟨rfl, rfl⟩, by decide, by decide⟩ ⟨by decide, by decide⟩ dX9_faults_151 rfl (fun H locs E => ?_)
        refine W.eq (g2 := F0 m 154 ls []) rfl ?_
        refine lv_aload_n C.1 C.2.1 dX9_faults_154 rfl (lv_at hl 0 rfl) ?_
        refine fm_getr C E lf_X9_53 hC_0 rfl dX9_faults_155 ?_
        refine lv_iload C.1 C.2.1 dX9_faults_158 (lv_at hl 4 rfl) ?_
        refine lv_i2l C.1 C.2.1 dX9_faults_160 rfl ?_
        obtain ⟨M161, hc161, hf⟩ := fm_bd hf
        refine fm_callV C E [.long _] [] lm_X9_232 wk_X8_add (c_Told_add l G _ _ _ hc161) hC_176 rfl rfl rfl hl.1 (by simp [Value.category]) ⟨⟨rfl, rfl⟩, by decide, by decide⟩ ⟨by decide, by decide⟩ dX9_faults_161 rfl (fun H locs E => ?_)
        refine W.eq (g2 := F0 m 164 ls []) rfl ?_
        refine lv_iload_n C.1 C.2.1 dX9_faults_164 rfl (lv_at hl 2 rfl) ?_
        obtain ⟨rfl, rfl⟩ := fm_rt2 hf
        exact fm_iret C E rfl rfl dX9_faults_165
      · have hf := fm_in' hf hc39
        refine lv_aload_n C.1 C.2.1 dX9_faults_42 rfl (lv_at hl 0 rfl) ?_
        refine fm_getr C E lf_X9_71 hC_0 rfl dX9_faults_43 ?_
        refine lv_iload C.1 C.2.1 dX9_faults_46 (lv_at hl 5 rfl) ?_
        refine lv_aload_n C.1 C.2.1 dX9_faults_48 rfl (lv_at hl 0 rfl) ?_
        refine fm_getr C E lf_X9_10 hC_0 rfl dX9_faults_49 ?_
        obtain ⟨x52, hc52, hf⟩ := fm_bd hf
        refine fm_callV C E [] [.int _, .ref _] lm_X9_208 wk_X7_begin (c_Scene_begin l G _ _  hc52) hC_1 rfl rfl rfl hl.1 (by simp [Value.category]) ⟨⟨rfl, rfl⟩, by decide, by decide⟩ ⟨by decide, by decide⟩ dX9_faults_52 rfl (fun H locs E => ?_)
        refine W.eq (g2 := F0 m 55 ls (.int x52 :: [.int _, .ref _])) rfl ?_
        refine lv_aload_n C.1 C.2.1 dX9_faults_55 rfl (lv_at hl 0 rfl) ?_
        refine fm_getr C E lf_X9_10 hC_0 rfl dX9_faults_56 ?_
        obtain ⟨x59, hc59, hf⟩ := fm_bd hf
        refine fm_callV C E [] [.int _, .int _, .ref _] lm_X9_211 wk_X7_length (c_Scene_length l G _ _  hc59) hC_1 rfl rfl rfl hl.1 (by simp [Value.category]) ⟨⟨rfl, rfl⟩, by decide, by decide⟩ ⟨by decide, by decide⟩ dX9_faults_59 rfl (fun H locs E => ?_)
        refine W.eq (g2 := F0 m 62 ls (.int x59 :: [.int _, .int _, .ref _])) rfl ?_
        obtain ⟨M62, hc62, hf⟩ := fm_bd hf
        refine fm_callV C E [.int _, .int _, .int _] [] lm_X9_214 wk_X0_hear (c_Bench_hear l G N _ _ _ _ _ hc62) hC_181 rfl rfl rfl hl.1 (by simp [Value.category]) ⟨⟨rfl, rfl⟩, by decide, by decide⟩ ⟨by decide, by decide⟩ dX9_faults_62 rfl (fun H locs E => ?_)
        refine W.eq (g2 := F0 m 65 ls []) rfl ?_
        refine lv_iload_n C.1 C.2.1 dX9_faults_65 rfl (lv_at hl 2 rfl) ?_
        refine lv_aload_n C.1 C.2.1 dX9_faults_66 rfl (lv_at hl 0 rfl) ?_
        refine fm_getr C E lf_X9_71 hC_0 rfl dX9_faults_67 ?_
        obtain ⟨x70, hc70, hf⟩ := fm_bd hf
        refine fm_callV C E [] [.int _] lm_X9_287 wk_X0_isQuiet (c_Bench_isQuiet l G N _ _  hc70) hC_181 rfl rfl rfl hl.1 (by simp [Value.category]) ⟨⟨rfl, rfl⟩, by decide, by decide⟩ ⟨by decide, by decide⟩ dX9_faults_70 rfl (fun H locs E => ?_)
        refine W.eq (g2 := F0 m 73 ls (.int x70 :: [.int _])) rfl ?_
        refine lv_if_eq (tgt := 83) C.1 C.2.1 dX9_faults_73 (by decide) (fun hc73 => ?_) (fun hc73 => ?_)
        · have hf := fm_ip hf hc73
          refine lv_iconst (v := 0) C.1 C.2.1 dX9_faults_83 (by decide) ?_
          exact J84 _ _ _ _ _ _ _ _ _ E (lv_sub hl [0, 1, 3, 4, 5] rfl) hf
        · have hf := fm_in' hf hc73
          refine lv_iconst (v := 1) C.1 C.2.1 dX9_faults_76 (by decide) ?_
          refine lv_iload C.1 C.2.1 dX9_faults_77 (lv_at hl 5 rfl) ?_
          refine lv_ishl C.1 C.2.1 dX9_faults_79 ?_
          refine lv_goto (tgt := 84) C.1 C.2.1 dX9_faults_80 (by decide) ?_
          exact J84 _ _ _ _ _ _ _ _ _ E (lv_sub hl [0, 1, 3, 4, 5] rfl) hf
  unfold pMicRow_faults at hf
  refine lv_iload_n C.1 C.2.1 dX9_faults_0 rfl (lv_at hl 1 rfl) ?_
  refine lv_iconst (v := 0) C.1 C.2.1 dX9_faults_1 (by decide) ?_
  refine lv_bipush (v := 48) C.1 C.2.1 dX9_faults_2 (by decide) ?_
  obtain ⟨x4, hc4, hf⟩ := fm_bd hf
  refine fm_callS C E [.int _, .int _, .int _] [] lm_X9_112 wk_X9_within (c_MicRow_within l G _ _ _ _ _  hc4) rfl hl.1 (by simp [Value.category]) ⟨⟨rfl, rfl⟩, by decide, by decide⟩ ⟨by decide, by decide⟩ dX9_faults_4 rfl (fun H locs E => ?_)
  refine W.eq (g2 := F0 m 7 ls (.int x4 :: [])) rfl ?_
  refine lv_if_ne (tgt := 12) C.1 C.2.1 dX9_faults_7 (by decide) (fun hc7 => ?_) (fun hc7 => ?_)
  · have hf := fm_in' hf hc7
    refine lv_aload_n C.1 C.2.1 dX9_faults_12 rfl (lv_at hl 0 rfl) ?_
    refine fm_getr C E lf_X9_62 hC_0 rfl dX9_faults_13 ?_
    refine lv_iconst (v := (-1)) C.1 C.2.1 dX9_faults_16 (by decide) ?_
    obtain ⟨M17, hc17, hf⟩ := fm_bd hf
    refine fm_callV C E [.int _] [] lm_X9_150 wk_X3_listenTo (c_Ears_listenTo l G _ _ _ hc17) hC_178 rfl rfl rfl hl.1 (by simp [Value.category]) ⟨⟨rfl, rfl⟩, by decide, by decide⟩ ⟨by decide, by decide⟩ dX9_faults_17 rfl (fun H locs E => ?_)
    refine W.eq (g2 := F0 m 20 ls []) rfl ?_
    refine lv_iconst (v := 0) C.1 C.2.1 dX9_faults_20 (by decide) ?_
    refine lv_istore_n (lv' := [(2, .int _), (0, .ref _), (1, .int _)]) C.1 C.2.1 dX9_faults_21 rfl hl (by decide) rfl (fun ls hl => ?_)
    refine lv_iconst (v := 0) C.1 C.2.1 dX9_faults_22 (by decide) ?_
    refine lv_istore_n (lv' := [(3, .int _), (2, .int _), (0, .ref _), (1, .int _)]) C.1 C.2.1 dX9_faults_23 rfl hl (by decide) rfl (fun ls hl => ?_)
    refine lv_iconst (v := 0) C.1 C.2.1 dX9_faults_24 (by decide) ?_
    refine lv_istore (lv' := [(4, .int _), (3, .int _), (2, .int _), (0, .ref _), (1, .int _)]) C.1 C.2.1 dX9_faults_25 hl (by decide) rfl (fun ls hl => ?_)
    refine lv_iconst (v := 0) C.1 C.2.1 dX9_faults_27 (by decide) ?_
    refine lv_istore (lv' := [(5, .int _), (4, .int _), (3, .int _), (2, .int _), (0, .ref _), (1, .int _)]) C.1 C.2.1 dX9_faults_28 hl (by decide) rfl (fun ls hl => ?_)
    exact L30 _ N _ _ _ _ _ _ _ _ E (lv_sub hl [4, 5, 3, 2, 1, 0] rfl) hf
  · have hf := fm_ip hf hc7
    refine lv_iconst (v := (-1)) C.1 C.2.1 dX9_faults_10 (by decide) ?_
    obtain ⟨rfl, rfl⟩ := fm_rt2 hf
    exact fm_iret C E rfl rfl dX9_faults_11
theorem dX9_clipped_0 : decode cX9_clipped 0 = .ok (.aload_n 0, 1) := by decide +kernel
theorem dX9_clipped_1 : decode cX9_clipped 1 = .ok (.getfield 10, 3) := by decide +kernel
theorem dX9_clipped_4 : decode cX9_clipped 4 = .ok (.iload_n 1, 1) := by decide +kernel
theorem dX9_clipped_5 : decode cX9_clipped 5 = .ok (.invokevirtual 116, 3) := by decide +kernel
theorem dX9_clipped_8 : decode cX9_clipped 8 = .ok (.ifCond .ne 5, 3) := by decide +kernel
theorem dX9_clipped_11 : decode cX9_clipped 11 = .ok (.iconst (-1), 1) := by decide +kernel
theorem dX9_clipped_12 : decode cX9_clipped 12 = .ok (.ireturn, 1) := by decide +kernel
theorem dX9_clipped_13 : decode cX9_clipped 13 = .ok (.aload_n 0, 1) := by decide +kernel
theorem dX9_clipped_14 : decode cX9_clipped 14 = .ok (.getfield 62, 3) := by decide +kernel
theorem dX9_clipped_17 : decode cX9_clipped 17 = .ok (.iconst (-1), 1) := by decide +kernel
theorem dX9_clipped_18 : decode cX9_clipped 18 = .ok (.invokevirtual 150, 3) := by decide +kernel
theorem dX9_clipped_21 : decode cX9_clipped 21 = .ok (.aload_n 0, 1) := by decide +kernel
theorem dX9_clipped_22 : decode cX9_clipped 22 = .ok (.getfield 71, 3) := by decide +kernel
theorem dX9_clipped_25 : decode cX9_clipped 25 = .ok (.iload_n 1, 1) := by decide +kernel
theorem dX9_clipped_26 : decode cX9_clipped 26 = .ok (.aload_n 0, 1) := by decide +kernel
theorem dX9_clipped_27 : decode cX9_clipped 27 = .ok (.getfield 10, 3) := by decide +kernel
theorem dX9_clipped_30 : decode cX9_clipped 30 = .ok (.invokevirtual 208, 3) := by decide +kernel
theorem dX9_clipped_33 : decode cX9_clipped 33 = .ok (.aload_n 0, 1) := by decide +kernel
theorem dX9_clipped_34 : decode cX9_clipped 34 = .ok (.getfield 10, 3) := by decide +kernel
theorem dX9_clipped_37 : decode cX9_clipped 37 = .ok (.invokevirtual 211, 3) := by decide +kernel
theorem dX9_clipped_40 : decode cX9_clipped 40 = .ok (.invokevirtual 214, 3) := by decide +kernel
theorem dX9_clipped_43 : decode cX9_clipped 43 = .ok (.aload_n 0, 1) := by decide +kernel
theorem dX9_clipped_44 : decode cX9_clipped 44 = .ok (.getfield 53, 3) := by decide +kernel
theorem dX9_clipped_47 : decode cX9_clipped 47 = .ok (.invokevirtual 225, 3) := by decide +kernel
theorem dX9_clipped_50 : decode cX9_clipped 50 = .ok (.aload_n 0, 1) := by decide +kernel
theorem dX9_clipped_51 : decode cX9_clipped 51 = .ok (.getfield 53, 3) := by decide +kernel
theorem dX9_clipped_54 : decode cX9_clipped 54 = .ok (.aload_n 0, 1) := by decide +kernel
theorem dX9_clipped_55 : decode cX9_clipped 55 = .ok (.getfield 71, 3) := by decide +kernel
theorem dX9_clipped_58 : decode cX9_clipped 58 = .ok (.invokevirtual 294, 3) := by decide +kernel
theorem dX9_clipped_61 : decode cX9_clipped 61 = .ok (.i2l, 1) := by decide +kernel
theorem dX9_clipped_62 : decode cX9_clipped 62 = .ok (.invokevirtual 232, 3) := by decide +kernel
theorem dX9_clipped_65 : decode cX9_clipped 65 = .ok (.aload_n 0, 1) := by decide +kernel
theorem dX9_clipped_66 : decode cX9_clipped 66 = .ok (.getfield 53, 3) := by decide +kernel
theorem dX9_clipped_69 : decode cX9_clipped 69 = .ok (.aload_n 0, 1) := by decide +kernel
theorem dX9_clipped_70 : decode cX9_clipped 70 = .ok (.getfield 71, 3) := by decide +kernel
theorem dX9_clipped_73 : decode cX9_clipped 73 = .ok (.invokevirtual 287, 3) := by decide +kernel
theorem dX9_clipped_76 : decode cX9_clipped 76 = .ok (.ifCond .eq 7, 3) := by decide +kernel
theorem dX9_clipped_79 : decode cX9_clipped 79 = .ok (.lconst 1, 1) := by decide +kernel
theorem dX9_clipped_80 : decode cX9_clipped 80 = .ok (.goto 4, 3) := by decide +kernel
theorem dX9_clipped_83 : decode cX9_clipped 83 = .ok (.lconst 0, 1) := by decide +kernel
theorem dX9_clipped_84 : decode cX9_clipped 84 = .ok (.invokevirtual 232, 3) := by decide +kernel
theorem dX9_clipped_87 : decode cX9_clipped 87 = .ok (.aload_n 0, 1) := by decide +kernel
theorem dX9_clipped_88 : decode cX9_clipped 88 = .ok (.getfield 71, 3) := by decide +kernel
theorem dX9_clipped_91 : decode cX9_clipped 91 = .ok (.invokevirtual 291, 3) := by decide +kernel
theorem dX9_clipped_94 : decode cX9_clipped 94 = .ok (.ireturn, 1) := by decide +kernel
set_option maxHeartbeats 4000000 in
set_option maxRecDepth 100000 in
theorem c_MicRow_clipped (l : Launch) (G : fm_G) (N : Nat) (M : fm_M) (v1 : Int32) (r : Int32) (M' : fm_M) (hf : pMicRow_clipped N M v1 = some (r, M')) : fm_Met l yX9_clipped cX9_clipped 2 (some .int) { frames := 5, cells := 0, slots := 0, locals := 120 } shC G [.ref (G.2.1 0), .int v1] M (some (.int r)) M' := by
  refine fm_enter (by decide) (Nat.le_of_ble_eq_true rfl) ?_
  intro p e s m args below meth c ls C E hl
  have hl : lv_has ls 2 [(0, .ref (G.2.1 0)), (1, .int v1)] := hl
  have J84 : ∀ (M : fm_M) (s1 : Int64) (H : Heap) (locs : List Loc) (ls : Array Slot), fm_Wd shC G M s H locs → lv_has ls 2 [(0, .ref (G.2.1 0))] → pMicRow_clipped_J84 N M s1 = some (r, M') → W p l e { frames := 5, cells := 0, slots := 0, locals := 120 } s m args below meth c H locs 0 0 (fm_Z below shC G args s (some (.int r)) M') (F0 m 84 ls [.long s1, .ref (G.2.1 176)]) := by
    intro M s1 H locs ls E hl hf
    unfold pMicRow_clipped_J84 at hf
    obtain ⟨M84, hc84, hf⟩ := fm_bd hf
    refine fm_callV C E [.long _] [] lm_X9_232 wk_X8_add (c_Told_add l G _ _ _ hc84) hC_176 rfl rfl rfl hl.1 (by simp [Value.category]) ⟨⟨rfl, rfl⟩, by decide, by decide⟩ ⟨by decide, by decide⟩ dX9_clipped_84 rfl (fun H locs E => ?_)
    refine W.eq (g2 := F0 m 87 ls []) rfl ?_
    refine lv_aload_n C.1 C.2.1 dX9_clipped_87 rfl (lv_at hl 0 rfl) ?_
    refine fm_getr C E lf_X9_71 hC_0 rfl dX9_clipped_88 ?_
    obtain ⟨x91, hc91, hf⟩ := fm_bd hf
    refine fm_callV C E [] [] lm_X9_291 wk_X0_clips (c_Bench_clips l G N _ _  hc91) hC_181 rfl rfl rfl hl.1 (by simp [Value.category]) ⟨⟨rfl, rfl⟩, by decide, by decide⟩ ⟨by decide, by decide⟩ dX9_clipped_91 rfl (fun H locs E => ?_)
    refine W.eq (g2 := F0 m 94 ls (.int x91 :: [])) rfl ?_
    obtain ⟨rfl, rfl⟩ := fm_rt2 hf
    exact fm_iret C E rfl rfl dX9_clipped_94
  unfold pMicRow_clipped at hf
  refine lv_aload_n C.1 C.2.1 dX9_clipped_0 rfl (lv_at hl 0 rfl) ?_
  refine fm_getr C E lf_X9_10 hC_0 rfl dX9_clipped_1 ?_
  refine lv_iload_n C.1 C.2.1 dX9_clipped_4 rfl (lv_at hl 1 rfl) ?_
  obtain ⟨x5, hc5, hf⟩ := fm_bd hf
  refine fm_callV C E [.int _] [] lm_X9_116 wk_X7_hasMic (c_Scene_hasMic l G _ _ _  hc5) hC_1 rfl rfl rfl hl.1 (by simp [Value.category]) ⟨⟨rfl, rfl⟩, by decide, by decide⟩ ⟨by decide, by decide⟩ dX9_clipped_5 rfl (fun H locs E => ?_)
  refine W.eq (g2 := F0 m 8 ls (.int x5 :: [])) rfl ?_
  refine lv_if_ne (tgt := 13) C.1 C.2.1 dX9_clipped_8 (by decide) (fun hc8 => ?_) (fun hc8 => ?_)
  · have hf := fm_in' hf hc8
    refine lv_aload_n C.1 C.2.1 dX9_clipped_13 rfl (lv_at hl 0 rfl) ?_
    refine fm_getr C E lf_X9_62 hC_0 rfl dX9_clipped_14 ?_
    refine lv_iconst (v := (-1)) C.1 C.2.1 dX9_clipped_17 (by decide) ?_
    obtain ⟨M18, hc18, hf⟩ := fm_bd hf
    refine fm_callV C E [.int _] [] lm_X9_150 wk_X3_listenTo (c_Ears_listenTo l G _ _ _ hc18) hC_178 rfl rfl rfl hl.1 (by simp [Value.category]) ⟨⟨rfl, rfl⟩, by decide, by decide⟩ ⟨by decide, by decide⟩ dX9_clipped_18 rfl (fun H locs E => ?_)
    refine W.eq (g2 := F0 m 21 ls []) rfl ?_
    refine lv_aload_n C.1 C.2.1 dX9_clipped_21 rfl (lv_at hl 0 rfl) ?_
    refine fm_getr C E lf_X9_71 hC_0 rfl dX9_clipped_22 ?_
    refine lv_iload_n C.1 C.2.1 dX9_clipped_25 rfl (lv_at hl 1 rfl) ?_
    refine lv_aload_n C.1 C.2.1 dX9_clipped_26 rfl (lv_at hl 0 rfl) ?_
    refine fm_getr C E lf_X9_10 hC_0 rfl dX9_clipped_27 ?_
    obtain ⟨x30, hc30, hf⟩ := fm_bd hf
    refine fm_callV C E [] [.int _, .ref _] lm_X9_208 wk_X7_begin (c_Scene_begin l G _ _  hc30) hC_1 rfl rfl rfl hl.1 (by simp [Value.category]) ⟨⟨rfl, rfl⟩, by decide, by decide⟩ ⟨by decide, by decide⟩ dX9_clipped_30 rfl (fun H locs E => ?_)
    refine W.eq (g2 := F0 m 33 ls (.int x30 :: [.int _, .ref _])) rfl ?_
    refine lv_aload_n C.1 C.2.1 dX9_clipped_33 rfl (lv_at hl 0 rfl) ?_
    refine fm_getr C E lf_X9_10 hC_0 rfl dX9_clipped_34 ?_
    obtain ⟨x37, hc37, hf⟩ := fm_bd hf
    refine fm_callV C E [] [.int _, .int _, .ref _] lm_X9_211 wk_X7_length (c_Scene_length l G _ _  hc37) hC_1 rfl rfl rfl hl.1 (by simp [Value.category]) ⟨⟨rfl, rfl⟩, by decide, by decide⟩ ⟨by decide, by decide⟩ dX9_clipped_37 rfl (fun H locs E => ?_)
    refine W.eq (g2 := F0 m 40 ls (.int x37 :: [.int _, .int _, .ref _])) rfl ?_
    obtain ⟨M40, hc40, hf⟩ := fm_bd hf
    refine fm_callV C E [.int _, .int _, .int _] [] lm_X9_214 wk_X0_hear (c_Bench_hear l G N _ _ _ _ _ hc40) hC_181 rfl rfl rfl hl.1 (by simp [Value.category]) ⟨⟨rfl, rfl⟩, by decide, by decide⟩ ⟨by decide, by decide⟩ dX9_clipped_40 rfl (fun H locs E => ?_)
    refine W.eq (g2 := F0 m 43 ls []) rfl ?_
    refine lv_aload_n C.1 C.2.1 dX9_clipped_43 rfl (lv_at hl 0 rfl) ?_
    refine fm_getr C E lf_X9_53 hC_0 rfl dX9_clipped_44 ?_
    obtain ⟨M47, hc47, hf⟩ := fm_bd hf
    refine fm_callV C E [] [] lm_X9_225 wk_X8_clear (c_Told_clear l G _ _ hc47) hC_176 rfl rfl rfl hl.1 (by simp [Value.category]) ⟨⟨rfl, rfl⟩, by decide, by decide⟩ ⟨by decide, by decide⟩ dX9_clipped_47 rfl (fun H locs E => ?_)
    refine W.eq (g2 := F0 m 50 ls []) rfl ?_
    refine lv_aload_n C.1 C.2.1 dX9_clipped_50 rfl (lv_at hl 0 rfl) ?_
    refine fm_getr C E lf_X9_53 hC_0 rfl dX9_clipped_51 ?_
    refine lv_aload_n C.1 C.2.1 dX9_clipped_54 rfl (lv_at hl 0 rfl) ?_
    refine fm_getr C E lf_X9_71 hC_0 rfl dX9_clipped_55 ?_
    obtain ⟨x58, hc58, hf⟩ := fm_bd hf
    refine fm_callV C E [] [.ref _] lm_X9_294 wk_X0_turnsOfSign (c_Bench_turnsOfSign l G N _ _  hc58) hC_181 rfl rfl rfl hl.1 (by simp [Value.category]) ⟨⟨rfl, rfl⟩, by decide, by decide⟩ ⟨by decide, by decide⟩ dX9_clipped_58 rfl (fun H locs E => ?_)
    refine W.eq (g2 := F0 m 61 ls (.int x58 :: [.ref _])) rfl ?_
    refine lv_i2l C.1 C.2.1 dX9_clipped_61 rfl ?_
    obtain ⟨M62, hc62, hf⟩ := fm_bd hf
    refine fm_callV C E [.long _] [] lm_X9_232 wk_X8_add (c_Told_add l G _ _ _ hc62) hC_176 rfl rfl rfl hl.1 (by simp [Value.category]) ⟨⟨rfl, rfl⟩, by decide, by decide⟩ ⟨by decide, by decide⟩ dX9_clipped_62 rfl (fun H locs E => ?_)
    refine W.eq (g2 := F0 m 65 ls []) rfl ?_
    refine lv_aload_n C.1 C.2.1 dX9_clipped_65 rfl (lv_at hl 0 rfl) ?_
    refine fm_getr C E lf_X9_53 hC_0 rfl dX9_clipped_66 ?_
    refine lv_aload_n C.1 C.2.1 dX9_clipped_69 rfl (lv_at hl 0 rfl) ?_
    refine fm_getr C E lf_X9_71 hC_0 rfl dX9_clipped_70 ?_
    obtain ⟨x73, hc73, hf⟩ := fm_bd hf
    refine fm_callV C E [] [.ref _] lm_X9_287 wk_X0_isQuiet (c_Bench_isQuiet l G N _ _  hc73) hC_181 rfl rfl rfl hl.1 (by simp [Value.category]) ⟨⟨rfl, rfl⟩, by decide, by decide⟩ ⟨by decide, by decide⟩ dX9_clipped_73 rfl (fun H locs E => ?_)
    refine W.eq (g2 := F0 m 76 ls (.int x73 :: [.ref _])) rfl ?_
    refine lv_if_eq (tgt := 83) C.1 C.2.1 dX9_clipped_76 (by decide) (fun hc76 => ?_) (fun hc76 => ?_)
    · have hf := fm_ip hf hc76
      refine lv_lconst (v := 0) C.1 C.2.1 dX9_clipped_83 (by decide) ?_
      exact J84 _ _ _ _ _ E (lv_sub hl [0] rfl) hf
    · have hf := fm_in' hf hc76
      refine lv_lconst (v := 1) C.1 C.2.1 dX9_clipped_79 (by decide) ?_
      refine lv_goto (tgt := 84) C.1 C.2.1 dX9_clipped_80 (by decide) ?_
      exact J84 _ _ _ _ _ E (lv_sub hl [0] rfl) hf
  · have hf := fm_ip hf hc8
    refine lv_iconst (v := (-1)) C.1 C.2.1 dX9_clipped_11 (by decide) ?_
    obtain ⟨rfl, rfl⟩ := fm_rt2 hf
    exact fm_iret C E rfl rfl dX9_clipped_12
theorem dX9_behind_0 : decode cX9_behind 0 = .ok (.aload_n 0, 1) := by decide +kernel
theorem dX9_behind_1 : decode cX9_behind 1 = .ok (.iload_n 1, 1) := by decide +kernel
theorem dX9_behind_2 : decode cX9_behind 2 = .ok (.iload_n 2, 1) := by decide +kernel
theorem dX9_behind_3 : decode cX9_behind 3 = .ok (.invokevirtual 259, 3) := by decide +kernel
theorem dX9_behind_6 : decode cX9_behind 6 = .ok (.ifCond .ne 5, 3) := by decide +kernel
theorem dX9_behind_9 : decode cX9_behind 9 = .ok (.iconst (-1), 1) := by decide +kernel
theorem dX9_behind_10 : decode cX9_behind 10 = .ok (.ireturn, 1) := by decide +kernel
theorem dX9_behind_11 : decode cX9_behind 11 = .ok (.aload_n 0, 1) := by decide +kernel
theorem dX9_behind_12 : decode cX9_behind 12 = .ok (.getfield 62, 3) := by decide +kernel
theorem dX9_behind_15 : decode cX9_behind 15 = .ok (.iconst (-1), 1) := by decide +kernel
theorem dX9_behind_16 : decode cX9_behind 16 = .ok (.invokevirtual 150, 3) := by decide +kernel
theorem dX9_behind_19 : decode cX9_behind 19 = .ok (.iconst 0, 1) := by decide +kernel
theorem dX9_behind_20 : decode cX9_behind 20 = .ok (.istore_n 3, 1) := by decide +kernel
theorem dX9_behind_21 : decode cX9_behind 21 = .ok (.iconst (-1), 1) := by decide +kernel
theorem dX9_behind_22 : decode cX9_behind 22 = .ok (.istore 4, 2) := by decide +kernel
theorem dX9_behind_24 : decode cX9_behind 24 = .ok (.iconst 0, 1) := by decide +kernel
theorem dX9_behind_25 : decode cX9_behind 25 = .ok (.istore 5, 2) := by decide +kernel
theorem dX9_behind_27 : decode cX9_behind 27 = .ok (.iload 5, 2) := by decide +kernel
theorem dX9_behind_29 : decode cX9_behind 29 = .ok (.bipush 17, 2) := by decide +kernel
theorem dX9_behind_31 : decode cX9_behind 31 = .ok (.if_icmp .ge 40, 3) := by decide +kernel
theorem dX9_behind_34 : decode cX9_behind 34 = .ok (.iload 5, 2) := by decide +kernel
theorem dX9_behind_36 : decode cX9_behind 36 = .ok (.invokestatic 245, 3) := by decide +kernel
theorem dX9_behind_39 : decode cX9_behind 39 = .ok (.istore 6, 2) := by decide +kernel
theorem dX9_behind_41 : decode cX9_behind 41 = .ok (.aload_n 0, 1) := by decide +kernel
theorem dX9_behind_42 : decode cX9_behind 42 = .ok (.iload_n 1, 1) := by decide +kernel
theorem dX9_behind_43 : decode cX9_behind 43 = .ok (.iload_n 2, 1) := by decide +kernel
theorem dX9_behind_44 : decode cX9_behind 44 = .ok (.iload 6, 2) := by decide +kernel
theorem dX9_behind_46 : decode cX9_behind 46 = .ok (.invokevirtual 311, 3) := by decide +kernel
theorem dX9_behind_49 : decode cX9_behind 49 = .ok (.istore 7, 2) := by decide +kernel
theorem dX9_behind_51 : decode cX9_behind 51 = .ok (.iload 7, 2) := by decide +kernel
theorem dX9_behind_53 : decode cX9_behind 53 = .ok (.iload 4, 2) := by decide +kernel
theorem dX9_behind_55 : decode cX9_behind 55 = .ok (.if_icmp .le 10, 3) := by decide +kernel
theorem dX9_behind_58 : decode cX9_behind 58 = .ok (.iload 7, 2) := by decide +kernel
theorem dX9_behind_60 : decode cX9_behind 60 = .ok (.istore 4, 2) := by decide +kernel
theorem dX9_behind_62 : decode cX9_behind 62 = .ok (.iload 6, 2) := by decide +kernel
theorem dX9_behind_64 : decode cX9_behind 64 = .ok (.istore_n 3, 1) := by decide +kernel
theorem dX9_behind_65 : decode cX9_behind 65 = .ok (.iinc 5 1, 3) := by decide +kernel
theorem dX9_behind_68 : decode cX9_behind 68 = .ok (.goto (-41), 3) := by decide +kernel
theorem dX9_behind_71 : decode cX9_behind 71 = .ok (.aload_n 0, 1) := by decide +kernel
theorem dX9_behind_72 : decode cX9_behind 72 = .ok (.getfield 53, 3) := by decide +kernel
theorem dX9_behind_75 : decode cX9_behind 75 = .ok (.invokevirtual 225, 3) := by decide +kernel
theorem dX9_behind_78 : decode cX9_behind 78 = .ok (.aload_n 0, 1) := by decide +kernel
theorem dX9_behind_79 : decode cX9_behind 79 = .ok (.getfield 53, 3) := by decide +kernel
theorem dX9_behind_82 : decode cX9_behind 82 = .ok (.iload 4, 2) := by decide +kernel
theorem dX9_behind_84 : decode cX9_behind 84 = .ok (.i2l, 1) := by decide +kernel
theorem dX9_behind_85 : decode cX9_behind 85 = .ok (.invokevirtual 232, 3) := by decide +kernel
theorem dX9_behind_88 : decode cX9_behind 88 = .ok (.iload_n 3, 1) := by decide +kernel
theorem dX9_behind_89 : decode cX9_behind 89 = .ok (.bipush 8, 2) := by decide +kernel
theorem dX9_behind_91 : decode cX9_behind 91 = .ok (.iadd, 1) := by decide +kernel
theorem dX9_behind_92 : decode cX9_behind 92 = .ok (.ireturn, 1) := by decide +kernel
set_option maxHeartbeats 4000000 in
set_option maxRecDepth 100000 in
theorem c_MicRow_behind (l : Launch) (G : fm_G) (N : Nat) (M : fm_M) (v1 : Int32) (v2 : Int32) (r : Int32) (M' : fm_M) (hf : pMicRow_behind N M v1 v2 = some (r, M')) : fm_Met l yX9_behind cX9_behind 8 (some .int) { frames := 5, cells := 0, slots := 0, locals := 122 } shC G [.ref (G.2.1 0), .int v1, .int v2] M (some (.int r)) M' := by
  refine fm_enter (by decide) (Nat.le_of_ble_eq_true rfl) ?_
  intro p e s m args below meth c ls C E hl
  have hl : lv_has ls 8 [(0, .ref (G.2.1 0)), (1, .int v1), (2, .int v2)] := hl
  have L27 : ∀ (w27_v1 : Int32) (w27_v2 : Int32) (n27 : Nat) (v3 : Int32) (v4 : Int32) (v5 : Int32) (M : fm_M) (H : Heap) (locs : List Loc) (ls : Array Slot), fm_Wd shC G M s H locs → lv_has ls 8 [(0, .ref (G.2.1 0)), (1, .int w27_v1), (2, .int w27_v2), (3, .int v3), (4, .int v4), (5, .int v5)] → fm_lp (pMicRow_behind_L27 N w27_v1 w27_v2) n27 (v3, v4, v5, M) = some (r, M') → W p l e { frames := 5, cells := 0, slots := 0, locals := 122 } s m args below meth c H locs 0 0 (fm_Z below shC G args s (some (.int r)) M') (F0 m 27 ls []) := by
    intro w27_v1 w27_v2 n27
    induction n27 with
    | zero => intro v3 v4 v5 M H locs ls E hl hf; exact fm_lp_0 hf
    | succ n27 ih27 =>
      intro v3 v4 v5 M H locs ls E hl hf
      have hf : pMicRow_behind_L27b N w27_v1 w27_v2 (fm_lp (pMicRow_behind_L27 N w27_v1 w27_v2) n27) v3 v4 v5 M = some (r, M') := hf
      unfold pMicRow_behind_L27b at hf
      refine lv_iload C.1 C.2.1 dX9_behind_27 (lv_at hl 5 rfl) ?_
      refine lv_bipush (v := 17) C.1 C.2.1 dX9_behind_29 (by decide) ?_
      refine lv_icmp_ge (tgt := 71) C.1 C.2.1 dX9_behind_31 (by decide) (fun hc31 => ?_) (fun hc31 => ?_)
      · have hf := fm_ip hf hc31
        refine lv_aload_n C.1 C.2.1 dX9_behind_71 rfl (lv_at hl 0 rfl) ?_
        refine fm_getr C E lf_X9_53 hC_0 rfl dX9_behind_72 ?_
        obtain ⟨M75, hc75, hf⟩ := fm_bd hf
        refine fm_callV C E [] [] lm_X9_225 wk_X8_clear (c_Told_clear l G _ _ hc75) hC_176 rfl rfl rfl hl.1 (by simp [Value.category]) ⟨⟨rfl, rfl⟩, by decide, by decide⟩ ⟨by decide, by decide⟩ dX9_behind_75 rfl (fun H locs E => ?_)
        refine W.eq (g2 := F0 m 78 ls []) rfl ?_
        refine lv_aload_n C.1 C.2.1 dX9_behind_78 rfl (lv_at hl 0 rfl) ?_
        refine fm_getr C E lf_X9_53 hC_0 rfl dX9_behind_79 ?_
        refine lv_iload C.1 C.2.1 dX9_behind_82 (lv_at hl 4 rfl) ?_
        refine lv_i2l C.1 C.2.1 dX9_behind_84 rfl ?_
        obtain ⟨M85, hc85, hf⟩ := fm_bd hf
        refine fm_callV C E [.long _] [] lm_X9_232 wk_X8_add (c_Told_add l G _ _ _ hc85) hC_176 rfl rfl rfl hl.1 (by simp [Value.category]) ⟨⟨rfl, rfl⟩, by decide, by decide⟩ ⟨by decide, by decide⟩ dX9_behind_85 rfl (fun H locs E => ?_)
        refine W.eq (g2 := F0 m 88 ls []) rfl ?_
        refine lv_iload_n C.1 C.2.1 dX9_behind_88 rfl (lv_at hl 3 rfl) ?_
        refine lv_bipush (v := 8) C.1 C.2.1 dX9_behind_89 (by decide) ?_
        refine lv_iadd C.1 C.2.1 dX9_behind_91 ?_
        obtain ⟨rfl, rfl⟩ := fm_rt2 hf
        exact fm_iret C E rfl rfl dX9_behind_92
      · have hf := fm_in' hf hc31
        refine lv_iload C.1 C.2.1 dX9_behind_34 (lv_at hl 5 rfl) ?_
        obtain ⟨x36, hc36, hf⟩ := fm_bd hf
        refine fm_callS C E [.int _] [] lm_X9_245 wk_X9_bySize (c_MicRow_bySize l G _ _ _  hc36) rfl hl.1 (by simp [Value.category]) ⟨⟨rfl, rfl⟩, by decide, by decide⟩ ⟨by decide, by decide⟩ dX9_behind_36 rfl (fun H locs E => ?_)
        refine W.eq (g2 := F0 m 39 ls (.int x36 :: [])) rfl ?_
        refine lv_istore (lv' := [(6, .int _), (0, .ref _), (1, .int _), (2, .int _), (3, .int _), (4, .int _), (5, .int _)]) C.1 C.2.1 dX9_behind_39 hl (by decide) rfl (fun ls hl => ?_)
        refine lv_aload_n C.1 C.2.1 dX9_behind_41 rfl (lv_at hl 1 rfl) ?_
        refine lv_iload_n C.1 C.2.1 dX9_behind_42 rfl (lv_at hl 2 rfl) ?_
        refine lv_iload_n C.1 C.2.1 dX9_behind_43 rfl (lv_at hl 3 rfl) ?_
        refine lv_iload C.1 C.2.1 dX9_behind_44 (lv_at hl 0 rfl) ?_
        obtain ⟨⟨x46, M46⟩, hc46, hf⟩ := fm_bd hf
        dsimp only at hf
        refine fm_callV C E [.int _, .int _, .int _] [] lm_X9_311 wk_X9_alikeWhenShifted (c_MicRow_alikeWhenShifted l G N _ _ _ _ _ _ hc46) hC_0 rfl rfl rfl hl.1 (by simp [Value.category]) ⟨⟨rfl, rfl⟩, by decide, by decide⟩ ⟨by decide, by decide⟩ dX9_behind_46 rfl (fun H locs E => ?_)
        refine W.eq (g2 := F0 m 49 ls (.int x46 :: [])) rfl ?_
        refine lv_istore (lv' := [(7, .int _), (6, .int _), (0, .ref _), (1, .int _), (2, .int _), (3, .int _), (4, .int _), (5, .int _)]) C.1 C.2.1 dX9_behind_49 hl (by decide) rfl (fun ls hl => ?_)
        refine lv_iload C.1 C.2.1 dX9_behind_51 (lv_at hl 0 rfl) ?_
        refine lv_iload C.1 C.2.1 dX9_behind_53 (lv_at hl 6 rfl) ?_
        refine lv_icmp_le (tgt := 65) C.1 C.2.1 dX9_behind_55 (by decide) (fun hc55 => ?_) (fun hc55 => ?_)
        · have hf := fm_ip hf hc55
          refine fm_iinc C (v := 1) (lv' := [(5, .int _), (7, .int _), (6, .int _), (0, .ref _), (1, .int _), (2, .int _), (3, .int _), (4, .int _)]) (k := 7) hl rfl (by decide) (by decide) rfl dX9_behind_65 (fun ls hl => ?_)
          refine lv_goto (tgt := 27) C.1 C.2.1 dX9_behind_68 (by decide) ?_
          exact ih27 _ _ _ _ _ _ _ E (lv_sub hl [3, 4, 5, 6, 7, 0] rfl) hf
        · have hf := fm_in' hf hc55
          refine lv_iload C.1 C.2.1 dX9_behind_58 (lv_at hl 0 rfl) ?_
          refine lv_istore (lv' := [(4, .int _), (7, .int _), (6, .int _), (0, .ref _), (1, .int _), (2, .int _), (3, .int _), (5, .int _)]) C.1 C.2.1 dX9_behind_60 hl (by decide) rfl (fun ls hl => ?_)
          refine lv_iload C.1 C.2.1 dX9_behind_62 (lv_at hl 2 rfl) ?_
          refine lv_istore_n (lv' := [(3, .int _), (4, .int _), (7, .int _), (6, .int _), (0, .ref _), (1, .int _), (2, .int _), (5, .int _)]) C.1 C.2.1 dX9_behind_64 rfl hl (by decide) rfl (fun ls hl => ?_)
          refine fm_iinc C (v := 1) (lv' := [(5, .int _), (3, .int _), (4, .int _), (7, .int _), (6, .int _), (0, .ref _), (1, .int _), (2, .int _)]) (k := 7) hl rfl (by decide) (by decide) rfl dX9_behind_65 (fun ls hl => ?_)
          refine lv_goto (tgt := 27) C.1 C.2.1 dX9_behind_68 (by decide) ?_
          exact ih27 _ _ _ _ _ _ _ E (lv_sub hl [5, 6, 7, 1, 2, 0] rfl) hf
  unfold pMicRow_behind at hf
  refine lv_aload_n C.1 C.2.1 dX9_behind_0 rfl (lv_at hl 0 rfl) ?_
  refine lv_iload_n C.1 C.2.1 dX9_behind_1 rfl (lv_at hl 1 rfl) ?_
  refine lv_iload_n C.1 C.2.1 dX9_behind_2 rfl (lv_at hl 2 rfl) ?_
  obtain ⟨x3, hc3, hf⟩ := fm_bd hf
  refine fm_callV C E [.int _, .int _] [] lm_X9_259 wk_X9_areTwoMics (c_MicRow_areTwoMics l G _ _ _ _  hc3) hC_0 rfl rfl rfl hl.1 (by simp [Value.category]) ⟨⟨rfl, rfl⟩, by decide, by decide⟩ ⟨by decide, by decide⟩ dX9_behind_3 rfl (fun H locs E => ?_)
  refine W.eq (g2 := F0 m 6 ls (.int x3 :: [])) rfl ?_
  refine lv_if_ne (tgt := 11) C.1 C.2.1 dX9_behind_6 (by decide) (fun hc6 => ?_) (fun hc6 => ?_)
  · have hf := fm_in' hf hc6
    refine lv_aload_n C.1 C.2.1 dX9_behind_11 rfl (lv_at hl 0 rfl) ?_
    refine fm_getr C E lf_X9_62 hC_0 rfl dX9_behind_12 ?_
    refine lv_iconst (v := (-1)) C.1 C.2.1 dX9_behind_15 (by decide) ?_
    obtain ⟨M16, hc16, hf⟩ := fm_bd hf
    refine fm_callV C E [.int _] [] lm_X9_150 wk_X3_listenTo (c_Ears_listenTo l G _ _ _ hc16) hC_178 rfl rfl rfl hl.1 (by simp [Value.category]) ⟨⟨rfl, rfl⟩, by decide, by decide⟩ ⟨by decide, by decide⟩ dX9_behind_16 rfl (fun H locs E => ?_)
    refine W.eq (g2 := F0 m 19 ls []) rfl ?_
    refine lv_iconst (v := 0) C.1 C.2.1 dX9_behind_19 (by decide) ?_
    refine lv_istore_n (lv' := [(3, .int _), (0, .ref _), (1, .int _), (2, .int _)]) C.1 C.2.1 dX9_behind_20 rfl hl (by decide) rfl (fun ls hl => ?_)
    refine lv_iconst (v := (-1)) C.1 C.2.1 dX9_behind_21 (by decide) ?_
    refine lv_istore (lv' := [(4, .int _), (3, .int _), (0, .ref _), (1, .int _), (2, .int _)]) C.1 C.2.1 dX9_behind_22 hl (by decide) rfl (fun ls hl => ?_)
    refine lv_iconst (v := 0) C.1 C.2.1 dX9_behind_24 (by decide) ?_
    refine lv_istore (lv' := [(5, .int _), (4, .int _), (3, .int _), (0, .ref _), (1, .int _), (2, .int _)]) C.1 C.2.1 dX9_behind_25 hl (by decide) rfl (fun ls hl => ?_)
    exact L27 _ _ N _ _ _ _ _ _ _ E (lv_sub hl [3, 4, 5, 2, 1, 0] rfl) hf
  · have hf := fm_ip hf hc6
    refine lv_iconst (v := (-1)) C.1 C.2.1 dX9_behind_9 (by decide) ?_
    obtain ⟨rfl, rfl⟩ := fm_rt2 hf
    exact fm_iret C E rfl rfl dX9_behind_10
theorem dX9_turnOverSpan_0 : decode cX9_turnOverSpan 0 = .ok (.aload_n 0, 1) := by decide +kernel
theorem dX9_turnOverSpan_1 : decode cX9_turnOverSpan 1 = .ok (.getfield 71, 3) := by decide +kernel
theorem dX9_turnOverSpan_4 : decode cX9_turnOverSpan 4 = .ok (.iload_n 1, 1) := by decide +kernel
theorem dX9_turnOverSpan_5 : decode cX9_turnOverSpan 5 = .ok (.aload_n 0, 1) := by decide +kernel
theorem dX9_turnOverSpan_6 : decode cX9_turnOverSpan 6 = .ok (.getfield 10, 3) := by decide +kernel
theorem dX9_turnOverSpan_9 : decode cX9_turnOverSpan 9 = .ok (.invokevirtual 208, 3) := by decide +kernel
theorem dX9_turnOverSpan_12 : decode cX9_turnOverSpan 12 = .ok (.aload_n 0, 1) := by decide +kernel
theorem dX9_turnOverSpan_13 : decode cX9_turnOverSpan 13 = .ok (.getfield 10, 3) := by decide +kernel
theorem dX9_turnOverSpan_16 : decode cX9_turnOverSpan 16 = .ok (.invokevirtual 211, 3) := by decide +kernel
theorem dX9_turnOverSpan_19 : decode cX9_turnOverSpan 19 = .ok (.invokevirtual 163, 3) := by decide +kernel
theorem dX9_turnOverSpan_22 : decode cX9_turnOverSpan 22 = .ok (.return_, 1) := by decide +kernel
set_option maxHeartbeats 4000000 in
set_option maxRecDepth 100000 in
theorem c_MicRow_turnOverSpan (l : Launch) (G : fm_G) (N : Nat) (M : fm_M) (v1 : Int32) (M' : fm_M) (hf : pMicRow_turnOverSpan N M v1 = some M') : fm_Met l yX9_turnOverSpan cX9_turnOverSpan 2 none { frames := 5, cells := 0, slots := 0, locals := 126 } shC G [.ref (G.2.1 0), .int v1] M none M' := by
  refine fm_enter (by decide) (Nat.le_of_ble_eq_true rfl) ?_
  intro p e s m args below meth c ls C E hl
  have hl : lv_has ls 2 [(0, .ref (G.2.1 0)), (1, .int v1)] := hl
  unfold pMicRow_turnOverSpan at hf
  refine lv_aload_n C.1 C.2.1 dX9_turnOverSpan_0 rfl (lv_at hl 0 rfl) ?_
  refine fm_getr C E lf_X9_71 hC_0 rfl dX9_turnOverSpan_1 ?_
  refine lv_iload_n C.1 C.2.1 dX9_turnOverSpan_4 rfl (lv_at hl 1 rfl) ?_
  refine lv_aload_n C.1 C.2.1 dX9_turnOverSpan_5 rfl (lv_at hl 0 rfl) ?_
  refine fm_getr C E lf_X9_10 hC_0 rfl dX9_turnOverSpan_6 ?_
  obtain ⟨x9, hc9, hf⟩ := fm_bd hf
  refine fm_callV C E [] [.int _, .ref _] lm_X9_208 wk_X7_begin (c_Scene_begin l G _ _  hc9) hC_1 rfl rfl rfl hl.1 (by simp [Value.category]) ⟨⟨rfl, rfl⟩, by decide, by decide⟩ ⟨by decide, by decide⟩ dX9_turnOverSpan_9 rfl (fun H locs E => ?_)
  refine W.eq (g2 := F0 m 12 ls (.int x9 :: [.int _, .ref _])) rfl ?_
  refine lv_aload_n C.1 C.2.1 dX9_turnOverSpan_12 rfl (lv_at hl 0 rfl) ?_
  refine fm_getr C E lf_X9_10 hC_0 rfl dX9_turnOverSpan_13 ?_
  obtain ⟨x16, hc16, hf⟩ := fm_bd hf
  refine fm_callV C E [] [.int _, .int _, .ref _] lm_X9_211 wk_X7_length (c_Scene_length l G _ _  hc16) hC_1 rfl rfl rfl hl.1 (by simp [Value.category]) ⟨⟨rfl, rfl⟩, by decide, by decide⟩ ⟨by decide, by decide⟩ dX9_turnOverSpan_16 rfl (fun H locs E => ?_)
  refine W.eq (g2 := F0 m 19 ls (.int x16 :: [.int _, .int _, .ref _])) rfl ?_
  obtain ⟨M19, hc19, hf⟩ := fm_bd hf
  refine fm_callV C E [.int _, .int _, .int _] [] lm_X9_163 wk_X0_turnTo (c_Bench_turnTo l G N _ _ _ _ _ hc19) hC_181 rfl rfl rfl hl.1 (by simp [Value.category]) ⟨⟨rfl, rfl⟩, by decide, by decide⟩ ⟨by decide, by decide⟩ dX9_turnOverSpan_19 rfl (fun H locs E => ?_)
  refine W.eq (g2 := F0 m 22 ls []) rfl ?_
  obtain rfl := fm_rt1 hf
  exact fm_vret C E rfl dX9_turnOverSpan_22
theorem dX9_learnWeights_0 : decode cX9_learnWeights 0 = .ok (.aload_n 0, 1) := by decide +kernel
theorem dX9_learnWeights_1 : decode cX9_learnWeights 1 = .ok (.iload_n 1, 1) := by decide +kernel
theorem dX9_learnWeights_2 : decode cX9_learnWeights 2 = .ok (.invokevirtual 256, 3) := by decide +kernel
theorem dX9_learnWeights_5 : decode cX9_learnWeights 5 = .ok (.aload_n 0, 1) := by decide +kernel
theorem dX9_learnWeights_6 : decode cX9_learnWeights 6 = .ok (.getfield 71, 3) := by decide +kernel
theorem dX9_learnWeights_9 : decode cX9_learnWeights 9 = .ok (.aload_n 0, 1) := by decide +kernel
theorem dX9_learnWeights_10 : decode cX9_learnWeights 10 = .ok (.getfield 10, 3) := by decide +kernel
theorem dX9_learnWeights_13 : decode cX9_learnWeights 13 = .ok (.invokevirtual 171, 3) := by decide +kernel
theorem dX9_learnWeights_16 : decode cX9_learnWeights 16 = .ok (.invokevirtual 175, 3) := by decide +kernel
theorem dX9_learnWeights_19 : decode cX9_learnWeights 19 = .ok (.aload_n 0, 1) := by decide +kernel
theorem dX9_learnWeights_20 : decode cX9_learnWeights 20 = .ok (.getfield 71, 3) := by decide +kernel
theorem dX9_learnWeights_23 : decode cX9_learnWeights 23 = .ok (.aload_n 0, 1) := by decide +kernel
theorem dX9_learnWeights_24 : decode cX9_learnWeights 24 = .ok (.getfield 10, 3) := by decide +kernel
theorem dX9_learnWeights_27 : decode cX9_learnWeights 27 = .ok (.invokevirtual 171, 3) := by decide +kernel
theorem dX9_learnWeights_30 : decode cX9_learnWeights 30 = .ok (.invokevirtual 181, 3) := by decide +kernel
theorem dX9_learnWeights_33 : decode cX9_learnWeights 33 = .ok (.aload_n 0, 1) := by decide +kernel
theorem dX9_learnWeights_34 : decode cX9_learnWeights 34 = .ok (.getfield 71, 3) := by decide +kernel
theorem dX9_learnWeights_37 : decode cX9_learnWeights 37 = .ok (.invokevirtual 317, 3) := by decide +kernel
theorem dX9_learnWeights_40 : decode cX9_learnWeights 40 = .ok (.return_, 1) := by decide +kernel
set_option maxHeartbeats 4000000 in
set_option maxRecDepth 100000 in
theorem c_MicRow_learnWeights (l : Launch) (G : fm_G) (N : Nat) (M : fm_M) (v1 : Int32) (M' : fm_M) (hf : pMicRow_learnWeights N M v1 = some M') : fm_Met l yX9_learnWeights cX9_learnWeights 2 none { frames := 6, cells := 0, slots := 0, locals := 147 } shC G [.ref (G.2.1 0), .int v1] M none M' := by
  refine fm_enter (by decide) (Nat.le_of_ble_eq_true rfl) ?_
  intro p e s m args below meth c ls C E hl
  have hl : lv_has ls 2 [(0, .ref (G.2.1 0)), (1, .int v1)] := hl
  unfold pMicRow_learnWeights at hf
  refine lv_aload_n C.1 C.2.1 dX9_learnWeights_0 rfl (lv_at hl 0 rfl) ?_
  refine lv_iload_n C.1 C.2.1 dX9_learnWeights_1 rfl (lv_at hl 1 rfl) ?_
  obtain ⟨M2, hc2, hf⟩ := fm_bd hf
  refine fm_callV C E [.int _] [] lm_X9_256 wk_X9_turnOverSpan (c_MicRow_turnOverSpan l G N _ _ _ hc2) hC_0 rfl rfl rfl hl.1 (by simp [Value.category]) ⟨⟨rfl, rfl⟩, by decide, by decide⟩ ⟨by decide, by decide⟩ dX9_learnWeights_2 rfl (fun H locs E => ?_)
  refine W.eq (g2 := F0 m 5 ls []) rfl ?_
  refine lv_aload_n C.1 C.2.1 dX9_learnWeights_5 rfl (lv_at hl 0 rfl) ?_
  refine fm_getr C E lf_X9_71 hC_0 rfl dX9_learnWeights_6 ?_
  refine lv_aload_n C.1 C.2.1 dX9_learnWeights_9 rfl (lv_at hl 0 rfl) ?_
  refine fm_getr C E lf_X9_10 hC_0 rfl dX9_learnWeights_10 ?_
  obtain ⟨x13, hc13, hf⟩ := fm_bd hf
  refine fm_callV C E [] [.ref _] lm_X9_171 wk_X7_liveSet (c_Scene_liveSet l G N _ _  hc13) hC_1 rfl rfl rfl hl.1 (by simp [Value.category]) ⟨⟨rfl, rfl⟩, by decide, by decide⟩ ⟨by decide, by decide⟩ dX9_learnWeights_13 rfl (fun H locs E => ?_)
  refine W.eq (g2 := F0 m 16 ls (.int x13 :: [.ref _])) rfl ?_
  obtain ⟨M16, hc16, hf⟩ := fm_bd hf
  refine fm_callV C E [.int _] [] lm_X9_175 wk_X0_mix (c_Bench_mix l G N _ _ _ hc16) hC_181 rfl rfl rfl hl.1 (by simp [Value.category]) ⟨⟨rfl, rfl⟩, by decide, by decide⟩ ⟨by decide, by decide⟩ dX9_learnWeights_16 rfl (fun H locs E => ?_)
  refine W.eq (g2 := F0 m 19 ls []) rfl ?_
  refine lv_aload_n C.1 C.2.1 dX9_learnWeights_19 rfl (lv_at hl 0 rfl) ?_
  refine fm_getr C E lf_X9_71 hC_0 rfl dX9_learnWeights_20 ?_
  refine lv_aload_n C.1 C.2.1 dX9_learnWeights_23 rfl (lv_at hl 0 rfl) ?_
  refine fm_getr C E lf_X9_10 hC_0 rfl dX9_learnWeights_24 ?_
  obtain ⟨x27, hc27, hf⟩ := fm_bd hf
  refine fm_callV C E [] [.ref _] lm_X9_171 wk_X7_liveSet (c_Scene_liveSet l G N _ _  hc27) hC_1 rfl rfl rfl hl.1 (by simp [Value.category]) ⟨⟨rfl, rfl⟩, by decide, by decide⟩ ⟨by decide, by decide⟩ dX9_learnWeights_27 rfl (fun H locs E => ?_)
  refine W.eq (g2 := F0 m 30 ls (.int x27 :: [.ref _])) rfl ?_
  obtain ⟨M30, hc30, hf⟩ := fm_bd hf
  refine fm_callV C E [.int _] [] lm_X9_181 wk_X0_block (c_Bench_block l G N _ _ _ hc30) hC_181 rfl rfl rfl hl.1 (by simp [Value.category]) ⟨⟨rfl, rfl⟩, by decide, by decide⟩ ⟨by decide, by decide⟩ dX9_learnWeights_30 rfl (fun H locs E => ?_)
  refine W.eq (g2 := F0 m 33 ls []) rfl ?_
  refine lv_aload_n C.1 C.2.1 dX9_learnWeights_33 rfl (lv_at hl 0 rfl) ?_
  refine fm_getr C E lf_X9_71 hC_0 rfl dX9_learnWeights_34 ?_
  obtain ⟨M37, hc37, hf⟩ := fm_bd hf
  refine fm_callV C E [] [] lm_X9_317 wk_X0_learn (c_Bench_learn l G N _ _ hc37) hC_181 rfl rfl rfl hl.1 (by simp [Value.category]) ⟨⟨rfl, rfl⟩, by decide, by decide⟩ ⟨by decide, by decide⟩ dX9_learnWeights_37 rfl (fun H locs E => ?_)
  refine W.eq (g2 := F0 m 40 ls []) rfl ?_
  obtain rfl := fm_rt1 hf
  exact fm_vret C E rfl dX9_learnWeights_40
theorem dX9_beamPower_0 : decode cX9_beamPower 0 = .ok (.aload_n 0, 1) := by decide +kernel
theorem dX9_beamPower_1 : decode cX9_beamPower 1 = .ok (.iload_n 1, 1) := by decide +kernel
theorem dX9_beamPower_2 : decode cX9_beamPower 2 = .ok (.invokevirtual 256, 3) := by decide +kernel
theorem dX9_beamPower_5 : decode cX9_beamPower 5 = .ok (.aload_n 0, 1) := by decide +kernel
theorem dX9_beamPower_6 : decode cX9_beamPower 6 = .ok (.aload_n 0, 1) := by decide +kernel
theorem dX9_beamPower_7 : decode cX9_beamPower 7 = .ok (.getfield 10, 3) := by decide +kernel
theorem dX9_beamPower_10 : decode cX9_beamPower 10 = .ok (.invokevirtual 171, 3) := by decide +kernel
theorem dX9_beamPower_13 : decode cX9_beamPower 13 = .ok (.invokevirtual 300, 3) := by decide +kernel
theorem dX9_beamPower_16 : decode cX9_beamPower 16 = .ok (.lreturn, 1) := by decide +kernel
set_option maxHeartbeats 4000000 in
set_option maxRecDepth 100000 in
theorem c_MicRow_beamPower (l : Launch) (G : fm_G) (N : Nat) (M : fm_M) (v1 : Int32) (r : Int64) (M' : fm_M) (hf : pMicRow_beamPower N M v1 = some (r, M')) : fm_Met l yX9_beamPower cX9_beamPower 2 (some .long) { frames := 6, cells := 0, slots := 0, locals := 147 } shC G [.ref (G.2.1 0), .int v1] M (some (.long r)) M' := by
  refine fm_enter (by decide) (Nat.le_of_ble_eq_true rfl) ?_
  intro p e s m args below meth c ls C E hl
  have hl : lv_has ls 2 [(0, .ref (G.2.1 0)), (1, .int v1)] := hl
  unfold pMicRow_beamPower at hf
  refine lv_aload_n C.1 C.2.1 dX9_beamPower_0 rfl (lv_at hl 0 rfl) ?_
  refine lv_iload_n C.1 C.2.1 dX9_beamPower_1 rfl (lv_at hl 1 rfl) ?_
  obtain ⟨M2, hc2, hf⟩ := fm_bd hf
  refine fm_callV C E [.int _] [] lm_X9_256 wk_X9_turnOverSpan (c_MicRow_turnOverSpan l G N _ _ _ hc2) hC_0 rfl rfl rfl hl.1 (by simp [Value.category]) ⟨⟨rfl, rfl⟩, by decide, by decide⟩ ⟨by decide, by decide⟩ dX9_beamPower_2 rfl (fun H locs E => ?_)
  refine W.eq (g2 := F0 m 5 ls []) rfl ?_
  refine lv_aload_n C.1 C.2.1 dX9_beamPower_5 rfl (lv_at hl 0 rfl) ?_
  refine lv_aload_n C.1 C.2.1 dX9_beamPower_6 rfl (lv_at hl 0 rfl) ?_
  refine fm_getr C E lf_X9_10 hC_0 rfl dX9_beamPower_7 ?_
  obtain ⟨x10, hc10, hf⟩ := fm_bd hf
  refine fm_callV C E [] [.ref _] lm_X9_171 wk_X7_liveSet (c_Scene_liveSet l G N _ _  hc10) hC_1 rfl rfl rfl hl.1 (by simp [Value.category]) ⟨⟨rfl, rfl⟩, by decide, by decide⟩ ⟨by decide, by decide⟩ dX9_beamPower_10 rfl (fun H locs E => ?_)
  refine W.eq (g2 := F0 m 13 ls (.int x10 :: [.ref _])) rfl ?_
  obtain ⟨⟨x13, M13⟩, hc13, hf⟩ := fm_bd hf
  dsimp only at hf
  refine fm_callV C E [.int _] [] lm_X9_300 wk_X9_mixedPower (c_MicRow_mixedPower l G N _ _ _ _ hc13) hC_0 rfl rfl rfl hl.1 (by simp [Value.category]) ⟨⟨rfl, rfl⟩, by decide, by decide⟩ ⟨by decide, by decide⟩ dX9_beamPower_13 rfl (fun H locs E => ?_)
  refine W.eq (g2 := F0 m 16 ls (.long x13 :: [])) rfl ?_
  obtain ⟨rfl, rfl⟩ := fm_rt2 hf
  exact fm_lret C E rfl dX9_beamPower_16
theorem dX9_cleanPower_0 : decode cX9_cleanPower 0 = .ok (.aload_n 0, 1) := by decide +kernel
theorem dX9_cleanPower_1 : decode cX9_cleanPower 1 = .ok (.iload_n 1, 1) := by decide +kernel
theorem dX9_cleanPower_2 : decode cX9_cleanPower 2 = .ok (.invokevirtual 256, 3) := by decide +kernel
theorem dX9_cleanPower_5 : decode cX9_cleanPower 5 = .ok (.aload_n 0, 1) := by decide +kernel
theorem dX9_cleanPower_6 : decode cX9_cleanPower 6 = .ok (.getfield 71, 3) := by decide +kernel
theorem dX9_cleanPower_9 : decode cX9_cleanPower 9 = .ok (.iload_n 2, 1) := by decide +kernel
theorem dX9_cleanPower_10 : decode cX9_cleanPower 10 = .ok (.invokevirtual 175, 3) := by decide +kernel
theorem dX9_cleanPower_13 : decode cX9_cleanPower 13 = .ok (.aload_n 0, 1) := by decide +kernel
theorem dX9_cleanPower_14 : decode cX9_cleanPower 14 = .ok (.getfield 71, 3) := by decide +kernel
theorem dX9_cleanPower_17 : decode cX9_cleanPower 17 = .ok (.iload_n 2, 1) := by decide +kernel
theorem dX9_cleanPower_18 : decode cX9_cleanPower 18 = .ok (.invokevirtual 181, 3) := by decide +kernel
theorem dX9_cleanPower_21 : decode cX9_cleanPower 21 = .ok (.aload_n 0, 1) := by decide +kernel
theorem dX9_cleanPower_22 : decode cX9_cleanPower 22 = .ok (.getfield 71, 3) := by decide +kernel
theorem dX9_cleanPower_25 : decode cX9_cleanPower 25 = .ok (.invokevirtual 317, 3) := by decide +kernel
theorem dX9_cleanPower_28 : decode cX9_cleanPower 28 = .ok (.aload_n 0, 1) := by decide +kernel
theorem dX9_cleanPower_29 : decode cX9_cleanPower 29 = .ok (.getfield 71, 3) := by decide +kernel
theorem dX9_cleanPower_32 : decode cX9_cleanPower 32 = .ok (.invokevirtual 195, 3) := by decide +kernel
theorem dX9_cleanPower_35 : decode cX9_cleanPower 35 = .ok (.aload_n 0, 1) := by decide +kernel
theorem dX9_cleanPower_36 : decode cX9_cleanPower 36 = .ok (.getfield 71, 3) := by decide +kernel
theorem dX9_cleanPower_39 : decode cX9_cleanPower 39 = .ok (.aload_n 0, 1) := by decide +kernel
theorem dX9_cleanPower_40 : decode cX9_cleanPower 40 = .ok (.getfield 71, 3) := by decide +kernel
theorem dX9_cleanPower_43 : decode cX9_cleanPower 43 = .ok (.getfield 198, 3) := by decide +kernel
theorem dX9_cleanPower_46 : decode cX9_cleanPower 46 = .ok (.invokevirtual 228, 3) := by decide +kernel
theorem dX9_cleanPower_49 : decode cX9_cleanPower 49 = .ok (.lreturn, 1) := by decide +kernel
set_option maxHeartbeats 4000000 in
set_option maxRecDepth 100000 in
theorem c_MicRow_cleanPower (l : Launch) (G : fm_G) (N : Nat) (M : fm_M) (v1 : Int32) (v2 : Int32) (r : Int64) (M' : fm_M) (hf : pMicRow_cleanPower N M v1 v2 = some (r, M')) : fm_Met l yX9_cleanPower cX9_cleanPower 3 (some .long) { frames := 6, cells := 0, slots := 0, locals := 147 } shC G [.ref (G.2.1 0), .int v1, .int v2] M (some (.long r)) M' := by
  refine fm_enter (by decide) (Nat.le_of_ble_eq_true rfl) ?_
  intro p e s m args below meth c ls C E hl
  have hl : lv_has ls 3 [(0, .ref (G.2.1 0)), (1, .int v1), (2, .int v2)] := hl
  unfold pMicRow_cleanPower at hf
  refine lv_aload_n C.1 C.2.1 dX9_cleanPower_0 rfl (lv_at hl 0 rfl) ?_
  refine lv_iload_n C.1 C.2.1 dX9_cleanPower_1 rfl (lv_at hl 1 rfl) ?_
  obtain ⟨M2, hc2, hf⟩ := fm_bd hf
  refine fm_callV C E [.int _] [] lm_X9_256 wk_X9_turnOverSpan (c_MicRow_turnOverSpan l G N _ _ _ hc2) hC_0 rfl rfl rfl hl.1 (by simp [Value.category]) ⟨⟨rfl, rfl⟩, by decide, by decide⟩ ⟨by decide, by decide⟩ dX9_cleanPower_2 rfl (fun H locs E => ?_)
  refine W.eq (g2 := F0 m 5 ls []) rfl ?_
  refine lv_aload_n C.1 C.2.1 dX9_cleanPower_5 rfl (lv_at hl 0 rfl) ?_
  refine fm_getr C E lf_X9_71 hC_0 rfl dX9_cleanPower_6 ?_
  refine lv_iload_n C.1 C.2.1 dX9_cleanPower_9 rfl (lv_at hl 2 rfl) ?_
  obtain ⟨M10, hc10, hf⟩ := fm_bd hf
  refine fm_callV C E [.int _] [] lm_X9_175 wk_X0_mix (c_Bench_mix l G N _ _ _ hc10) hC_181 rfl rfl rfl hl.1 (by simp [Value.category]) ⟨⟨rfl, rfl⟩, by decide, by decide⟩ ⟨by decide, by decide⟩ dX9_cleanPower_10 rfl (fun H locs E => ?_)
  refine W.eq (g2 := F0 m 13 ls []) rfl ?_
  refine lv_aload_n C.1 C.2.1 dX9_cleanPower_13 rfl (lv_at hl 0 rfl) ?_
  refine fm_getr C E lf_X9_71 hC_0 rfl dX9_cleanPower_14 ?_
  refine lv_iload_n C.1 C.2.1 dX9_cleanPower_17 rfl (lv_at hl 2 rfl) ?_
  obtain ⟨M18, hc18, hf⟩ := fm_bd hf
  refine fm_callV C E [.int _] [] lm_X9_181 wk_X0_block (c_Bench_block l G N _ _ _ hc18) hC_181 rfl rfl rfl hl.1 (by simp [Value.category]) ⟨⟨rfl, rfl⟩, by decide, by decide⟩ ⟨by decide, by decide⟩ dX9_cleanPower_18 rfl (fun H locs E => ?_)
  refine W.eq (g2 := F0 m 21 ls []) rfl ?_
  refine lv_aload_n C.1 C.2.1 dX9_cleanPower_21 rfl (lv_at hl 0 rfl) ?_
  refine fm_getr C E lf_X9_71 hC_0 rfl dX9_cleanPower_22 ?_
  obtain ⟨M25, hc25, hf⟩ := fm_bd hf
  refine fm_callV C E [] [] lm_X9_317 wk_X0_learn (c_Bench_learn l G N _ _ hc25) hC_181 rfl rfl rfl hl.1 (by simp [Value.category]) ⟨⟨rfl, rfl⟩, by decide, by decide⟩ ⟨by decide, by decide⟩ dX9_cleanPower_25 rfl (fun H locs E => ?_)
  refine W.eq (g2 := F0 m 28 ls []) rfl ?_
  refine lv_aload_n C.1 C.2.1 dX9_cleanPower_28 rfl (lv_at hl 0 rfl) ?_
  refine fm_getr C E lf_X9_71 hC_0 rfl dX9_cleanPower_29 ?_
  obtain ⟨M32, hc32, hf⟩ := fm_bd hf
  refine fm_callV C E [] [] lm_X9_195 wk_X0_takeOff (c_Bench_takeOff l G N _ _ hc32) hC_181 rfl rfl rfl hl.1 (by simp [Value.category]) ⟨⟨rfl, rfl⟩, by decide, by decide⟩ ⟨by decide, by decide⟩ dX9_cleanPower_32 rfl (fun H locs E => ?_)
  refine W.eq (g2 := F0 m 35 ls []) rfl ?_
  refine lv_aload_n C.1 C.2.1 dX9_cleanPower_35 rfl (lv_at hl 0 rfl) ?_
  refine fm_getr C E lf_X9_71 hC_0 rfl dX9_cleanPower_36 ?_
  refine lv_aload_n C.1 C.2.1 dX9_cleanPower_39 rfl (lv_at hl 0 rfl) ?_
  refine fm_getr C E lf_X9_71 hC_0 rfl dX9_cleanPower_40 ?_
  refine fm_getr C E lf_X9_198 hC_181 rfl dX9_cleanPower_43 ?_
  obtain ⟨x46, hc46, hf⟩ := fm_bd hf
  refine fm_callV C E [.ref _] [] lm_X9_228 wk_X0_powerOf (c_Bench_powerOf l G N _ _ _  hc46) hC_181 rfl rfl rfl hl.1 (by simp [Value.category]) ⟨⟨rfl, rfl⟩, by decide, by decide⟩ ⟨by decide, by decide⟩ dX9_cleanPower_46 rfl (fun H locs E => ?_)
  refine W.eq (g2 := F0 m 49 ls (.long x46 :: [])) rfl ?_
  obtain ⟨rfl, rfl⟩ := fm_rt2 hf
  exact fm_lret C E rfl dX9_cleanPower_49
theorem dX9_years_0 : decode cX9_years 0 = .ok (.iload_n 2, 1) := by decide +kernel
theorem dX9_years_1 : decode cX9_years 1 = .ok (.iconst 1, 1) := by decide +kernel
theorem dX9_years_2 : decode cX9_years 2 = .ok (.bipush 30, 2) := by decide +kernel
theorem dX9_years_4 : decode cX9_years 4 = .ok (.invokestatic 112, 3) := by decide +kernel
theorem dX9_years_7 : decode cX9_years 7 = .ok (.ifCond .ne 5, 3) := by decide +kernel
theorem dX9_years_10 : decode cX9_years 10 = .ok (.iconst (-1), 1) := by decide +kernel
theorem dX9_years_11 : decode cX9_years 11 = .ok (.ireturn, 1) := by decide +kernel
theorem dX9_years_12 : decode cX9_years 12 = .ok (.aload_n 0, 1) := by decide +kernel
theorem dX9_years_13 : decode cX9_years 13 = .ok (.getfield 16, 3) := by decide +kernel
theorem dX9_years_16 : decode cX9_years 16 = .ok (.aload_n 0, 1) := by decide +kernel
theorem dX9_years_17 : decode cX9_years 17 = .ok (.getfield 10, 3) := by decide +kernel
theorem dX9_years_20 : decode cX9_years 20 = .ok (.invokevirtual 99, 3) := by decide +kernel
theorem dX9_years_23 : decode cX9_years 23 = .ok (.aload_n 0, 1) := by decide +kernel
theorem dX9_years_24 : decode cX9_years 24 = .ok (.getfield 87, 3) := by decide +kernel
theorem dX9_years_27 : decode cX9_years 27 = .ok (.iload_n 1, 1) := by decide +kernel
theorem dX9_years_28 : decode cX9_years 28 = .ok (.invokevirtual 370, 3) := by decide +kernel
theorem dX9_years_31 : decode cX9_years 31 = .ok (.iconst 0, 1) := by decide +kernel
theorem dX9_years_32 : decode cX9_years 32 = .ok (.istore_n 3, 1) := by decide +kernel
theorem dX9_years_33 : decode cX9_years 33 = .ok (.iload_n 3, 1) := by decide +kernel
theorem dX9_years_34 : decode cX9_years 34 = .ok (.iload_n 2, 1) := by decide +kernel
theorem dX9_years_35 : decode cX9_years 35 = .ok (.if_icmp .ge 13, 3) := by decide +kernel
theorem dX9_years_38 : decode cX9_years 38 = .ok (.aload_n 0, 1) := by decide +kernel
theorem dX9_years_39 : decode cX9_years 39 = .ok (.invokevirtual 373, 3) := by decide +kernel
theorem dX9_years_42 : decode cX9_years 42 = .ok (.iinc 3 1, 3) := by decide +kernel
theorem dX9_years_45 : decode cX9_years 45 = .ok (.goto (-12), 3) := by decide +kernel
theorem dX9_years_48 : decode cX9_years 48 = .ok (.aload_n 0, 1) := by decide +kernel
theorem dX9_years_49 : decode cX9_years 49 = .ok (.getfield 10, 3) := by decide +kernel
theorem dX9_years_52 : decode cX9_years 52 = .ok (.invokevirtual 171, 3) := by decide +kernel
theorem dX9_years_55 : decode cX9_years 55 = .ok (.istore_n 3, 1) := by decide +kernel
theorem dX9_years_56 : decode cX9_years 56 = .ok (.aload_n 0, 1) := by decide +kernel
theorem dX9_years_57 : decode cX9_years 57 = .ok (.getfield 62, 3) := by decide +kernel
theorem dX9_years_60 : decode cX9_years 60 = .ok (.iconst (-1), 1) := by decide +kernel
theorem dX9_years_61 : decode cX9_years 61 = .ok (.invokevirtual 150, 3) := by decide +kernel
theorem dX9_years_64 : decode cX9_years 64 = .ok (.aload_n 0, 1) := by decide +kernel
theorem dX9_years_65 : decode cX9_years 65 = .ok (.iconst 0, 1) := by decide +kernel
theorem dX9_years_66 : decode cX9_years 66 = .ok (.invokevirtual 256, 3) := by decide +kernel
theorem dX9_years_69 : decode cX9_years 69 = .ok (.aload_n 0, 1) := by decide +kernel
theorem dX9_years_70 : decode cX9_years 70 = .ok (.getfield 71, 3) := by decide +kernel
theorem dX9_years_73 : decode cX9_years 73 = .ok (.iload_n 3, 1) := by decide +kernel
theorem dX9_years_74 : decode cX9_years 74 = .ok (.invokevirtual 175, 3) := by decide +kernel
theorem dX9_years_77 : decode cX9_years 77 = .ok (.aload_n 0, 1) := by decide +kernel
theorem dX9_years_78 : decode cX9_years 78 = .ok (.getfield 53, 3) := by decide +kernel
theorem dX9_years_81 : decode cX9_years 81 = .ok (.invokevirtual 225, 3) := by decide +kernel
theorem dX9_years_84 : decode cX9_years 84 = .ok (.aload_n 0, 1) := by decide +kernel
theorem dX9_years_85 : decode cX9_years 85 = .ok (.getfield 53, 3) := by decide +kernel
theorem dX9_years_88 : decode cX9_years 88 = .ok (.aload_n 0, 1) := by decide +kernel
theorem dX9_years_89 : decode cX9_years 89 = .ok (.getfield 71, 3) := by decide +kernel
theorem dX9_years_92 : decode cX9_years 92 = .ok (.aload_n 0, 1) := by decide +kernel
theorem dX9_years_93 : decode cX9_years 93 = .ok (.getfield 71, 3) := by decide +kernel
theorem dX9_years_96 : decode cX9_years 96 = .ok (.getfield 178, 3) := by decide +kernel
theorem dX9_years_99 : decode cX9_years 99 = .ok (.invokevirtual 236, 3) := by decide +kernel
theorem dX9_years_102 : decode cX9_years 102 = .ok (.i2l, 1) := by decide +kernel
theorem dX9_years_103 : decode cX9_years 103 = .ok (.invokevirtual 232, 3) := by decide +kernel
theorem dX9_years_106 : decode cX9_years 106 = .ok (.aload_n 0, 1) := by decide +kernel
theorem dX9_years_107 : decode cX9_years 107 = .ok (.getfield 10, 3) := by decide +kernel
theorem dX9_years_110 : decode cX9_years 110 = .ok (.aload_n 0, 1) := by decide +kernel
theorem dX9_years_111 : decode cX9_years 111 = .ok (.getfield 16, 3) := by decide +kernel
theorem dX9_years_114 : decode cX9_years 114 = .ok (.invokevirtual 99, 3) := by decide +kernel
theorem dX9_years_117 : decode cX9_years 117 = .ok (.iload_n 3, 1) := by decide +kernel
theorem dX9_years_118 : decode cX9_years 118 = .ok (.ireturn, 1) := by decide +kernel
set_option maxHeartbeats 4000000 in
set_option maxRecDepth 100000 in
theorem c_MicRow_years (l : Launch) (G : fm_G) (N : Nat) (M : fm_M) (v1 : Int32) (v2 : Int32) (r : Int32) (M' : fm_M) (hf : pMicRow_years N M v1 v2 = some (r, M')) : fm_Met l yX9_years cX9_years 4 (some .int) { frames := 6, cells := 0, slots := 0, locals := 147 } shC G [.ref (G.2.1 0), .int v1, .int v2] M (some (.int r)) M' := by
  refine fm_enter (by decide) (Nat.le_of_ble_eq_true rfl) ?_
  intro p e s m args below meth c ls C E hl
  have hl : lv_has ls 4 [(0, .ref (G.2.1 0)), (1, .int v1), (2, .int v2)] := hl
  have L33 : ∀ (w33_v2 : Int32) (n33 : Nat) (v3 : Int32) (M : fm_M) (H : Heap) (locs : List Loc) (ls : Array Slot), fm_Wd shC G M s H locs → lv_has ls 4 [(0, .ref (G.2.1 0)), (2, .int w33_v2), (3, .int v3)] → fm_lp (pMicRow_years_L33 N w33_v2) n33 (v3, M) = some (r, M') → W p l e { frames := 6, cells := 0, slots := 0, locals := 147 } s m args below meth c H locs 0 0 (fm_Z below shC G args s (some (.int r)) M') (F0 m 33 ls []) := by
    intro w33_v2 n33
    induction n33 with
    | zero => intro v3 M H locs ls E hl hf; exact fm_lp_0 hf
    | succ n33 ih33 =>
      intro v3 M H locs ls E hl hf
      have hf : pMicRow_years_L33b N w33_v2 (fm_lp (pMicRow_years_L33 N w33_v2) n33) v3 M = some (r, M') := hf
      unfold pMicRow_years_L33b at hf
      refine lv_iload_n C.1 C.2.1 dX9_years_33 rfl (lv_at hl 2 rfl) ?_
      refine lv_iload_n C.1 C.2.1 dX9_years_34 rfl (lv_at hl 1 rfl) ?_
      refine lv_icmp_ge (tgt := 48) C.1 C.2.1 dX9_years_35 (by decide) (fun hc35 => ?_) (fun hc35 => ?_)
      · have hf := fm_ip hf hc35
        refine lv_aload_n C.1 C.2.1 dX9_years_48 rfl (lv_at hl 0 rfl) ?_
        refine fm_getr C E lf_X9_10 hC_0 rfl dX9_years_49 ?_
        obtain ⟨x52, hc52, hf⟩ := fm_bd hf
        refine fm_callV C E [] [] lm_X9_171 wk_X7_liveSet (c_Scene_liveSet l G N _ _  hc52) hC_1 rfl rfl rfl hl.1 (by simp [Value.category]) ⟨⟨rfl, rfl⟩, by decide, by decide⟩ ⟨by decide, by decide⟩ dX9_years_52 rfl (fun H locs E => ?_)
        refine W.eq (g2 := F0 m 55 ls (.int x52 :: [])) rfl ?_
        refine lv_istore_n (lv' := [(3, .int _), (0, .ref _), (2, .int _)]) C.1 C.2.1 dX9_years_55 rfl hl (by decide) rfl (fun ls hl => ?_)
        refine lv_aload_n C.1 C.2.1 dX9_years_56 rfl (lv_at hl 1 rfl) ?_
        refine fm_getr C E lf_X9_62 hC_0 rfl dX9_years_57 ?_
        refine lv_iconst (v := (-1)) C.1 C.2.1 dX9_years_60 (by decide) ?_
        obtain ⟨M61, hc61, hf⟩ := fm_bd hf
        refine fm_callV C E [.int _] [] lm_X9_150 wk_X3_listenTo (c_Ears_listenTo l G _ _ _ hc61) hC_178 rfl rfl rfl hl.1 (by simp [Value.category]) ⟨⟨rfl, rfl⟩, by decide, by decide⟩ ⟨by decide, by decide⟩ dX9_years_61 rfl (fun H locs E => ?_)
        refine W.eq (g2 := F0 m 64 ls []) rfl ?_
        refine lv_aload_n C.1 C.2.1 dX9_years_64 rfl (lv_at hl 1 rfl) ?_
        refine lv_iconst (v := 0) C.1 C.2.1 dX9_years_65 (by decide) ?_
        obtain ⟨M66, hc66, hf⟩ := fm_bd hf
        refine fm_callV C E [.int _] [] lm_X9_256 wk_X9_turnOverSpan (c_MicRow_turnOverSpan l G N _ _ _ hc66) hC_0 rfl rfl rfl hl.1 (by simp [Value.category]) ⟨⟨rfl, rfl⟩, by decide, by decide⟩ ⟨by decide, by decide⟩ dX9_years_66 rfl (fun H locs E => ?_)
        refine W.eq (g2 := F0 m 69 ls []) rfl ?_
        refine lv_aload_n C.1 C.2.1 dX9_years_69 rfl (lv_at hl 1 rfl) ?_
        refine fm_getr C E lf_X9_71 hC_0 rfl dX9_years_70 ?_
        refine lv_iload_n C.1 C.2.1 dX9_years_73 rfl (lv_at hl 0 rfl) ?_
        obtain ⟨M74, hc74, hf⟩ := fm_bd hf
        refine fm_callV C E [.int _] [] lm_X9_175 wk_X0_mix (c_Bench_mix l G N _ _ _ hc74) hC_181 rfl rfl rfl hl.1 (by simp [Value.category]) ⟨⟨rfl, rfl⟩, by decide, by decide⟩ ⟨by decide, by decide⟩ dX9_years_74 rfl (fun H locs E => ?_)
        refine W.eq (g2 := F0 m 77 ls []) rfl ?_
        refine lv_aload_n C.1 C.2.1 dX9_years_77 rfl (lv_at hl 1 rfl) ?_
        refine fm_getr C E lf_X9_53 hC_0 rfl dX9_years_78 ?_
        obtain ⟨M81, hc81, hf⟩ := fm_bd hf
        refine fm_callV C E [] [] lm_X9_225 wk_X8_clear (c_Told_clear l G _ _ hc81) hC_176 rfl rfl rfl hl.1 (by simp [Value.category]) ⟨⟨rfl, rfl⟩, by decide, by decide⟩ ⟨by decide, by decide⟩ dX9_years_81 rfl (fun H locs E => ?_)
        refine W.eq (g2 := F0 m 84 ls []) rfl ?_
        refine lv_aload_n C.1 C.2.1 dX9_years_84 rfl (lv_at hl 1 rfl) ?_
        refine fm_getr C E lf_X9_53 hC_0 rfl dX9_years_85 ?_
        refine lv_aload_n C.1 C.2.1 dX9_years_88 rfl (lv_at hl 1 rfl) ?_
        refine fm_getr C E lf_X9_71 hC_0 rfl dX9_years_89 ?_
        refine lv_aload_n C.1 C.2.1 dX9_years_92 rfl (lv_at hl 1 rfl) ?_
        refine fm_getr C E lf_X9_71 hC_0 rfl dX9_years_93 ?_
        refine fm_getr C E lf_X9_178 hC_181 rfl dX9_years_96 ?_
        obtain ⟨x99, hc99, hf⟩ := fm_bd hf
        refine fm_callV C E [.ref _] [.ref _] lm_X9_236 wk_X0_levelOf (c_Bench_levelOf l G N _ _ _  hc99) hC_181 rfl rfl rfl hl.1 (by simp [Value.category]) ⟨⟨rfl, rfl⟩, by decide, by decide⟩ ⟨by decide, by decide⟩ dX9_years_99 rfl (fun H locs E => ?_)
        refine W.eq (g2 := F0 m 102 ls (.int x99 :: [.ref _])) rfl ?_
        refine lv_i2l C.1 C.2.1 dX9_years_102 rfl ?_
        obtain ⟨M103, hc103, hf⟩ := fm_bd hf
        refine fm_callV C E [.long _] [] lm_X9_232 wk_X8_add (c_Told_add l G _ _ _ hc103) hC_176 rfl rfl rfl hl.1 (by simp [Value.category]) ⟨⟨rfl, rfl⟩, by decide, by decide⟩ ⟨by decide, by decide⟩ dX9_years_103 rfl (fun H locs E => ?_)
        refine W.eq (g2 := F0 m 106 ls []) rfl ?_
        refine lv_aload_n C.1 C.2.1 dX9_years_106 rfl (lv_at hl 1 rfl) ?_
        refine fm_getr C E lf_X9_10 hC_0 rfl dX9_years_107 ?_
        refine lv_aload_n C.1 C.2.1 dX9_years_110 rfl (lv_at hl 1 rfl) ?_
        refine fm_getr C E lf_X9_16 hC_0 rfl dX9_years_111 ?_
        obtain ⟨M114, hc114, hf⟩ := fm_bd hf
        refine fm_callV C E [.ref _] [] lm_X9_99 wk_X7_copyFrom (c_Scene_copyFrom l G N _ _ _ _ hc114) hC_1 rfl rfl rfl hl.1 (by simp [Value.category]) ⟨⟨rfl, rfl⟩, by decide, by decide⟩ ⟨by decide, by decide⟩ dX9_years_114 rfl (fun H locs E => ?_)
        refine W.eq (g2 := F0 m 117 ls []) rfl ?_
        refine lv_iload_n C.1 C.2.1 dX9_years_117 rfl (lv_at hl 0 rfl) ?_
        obtain ⟨rfl, rfl⟩ := fm_rt2 hf
        exact fm_iret C E rfl rfl dX9_years_118
      · have hf := fm_in' hf hc35
        refine lv_aload_n C.1 C.2.1 dX9_years_38 rfl (lv_at hl 0 rfl) ?_
        obtain ⟨M39, hc39, hf⟩ := fm_bd hf
        refine fm_callV C E [] [] lm_X9_373 wk_X9_drawnAct (c_MicRow_drawnAct l G _ _ hc39) hC_0 rfl rfl rfl hl.1 (by simp [Value.category]) ⟨⟨rfl, rfl⟩, by decide, by decide⟩ ⟨by decide, by decide⟩ dX9_years_39 rfl (fun H locs E => ?_)
        refine W.eq (g2 := F0 m 42 ls []) rfl ?_
        refine fm_iinc C (v := 1) (lv' := [(3, .int _), (0, .ref _), (2, .int _)]) (k := 2) hl rfl (by decide) (by decide) rfl dX9_years_42 (fun ls hl => ?_)
        refine lv_goto (tgt := 33) C.1 C.2.1 dX9_years_45 (by decide) ?_
        exact ih33 _ _ _ _ _ E (lv_sub hl [1, 2, 0] rfl) hf
  unfold pMicRow_years at hf
  refine lv_iload_n C.1 C.2.1 dX9_years_0 rfl (lv_at hl 2 rfl) ?_
  refine lv_iconst (v := 1) C.1 C.2.1 dX9_years_1 (by decide) ?_
  refine lv_bipush (v := 30) C.1 C.2.1 dX9_years_2 (by decide) ?_
  obtain ⟨x4, hc4, hf⟩ := fm_bd hf
  refine fm_callS C E [.int _, .int _, .int _] [] lm_X9_112 wk_X9_within (c_MicRow_within l G _ _ _ _ _  hc4) rfl hl.1 (by simp [Value.category]) ⟨⟨rfl, rfl⟩, by decide, by decide⟩ ⟨by decide, by decide⟩ dX9_years_4 rfl (fun H locs E => ?_)
  refine W.eq (g2 := F0 m 7 ls (.int x4 :: [])) rfl ?_
  refine lv_if_ne (tgt := 12) C.1 C.2.1 dX9_years_7 (by decide) (fun hc7 => ?_) (fun hc7 => ?_)
  · have hf := fm_in' hf hc7
    refine lv_aload_n C.1 C.2.1 dX9_years_12 rfl (lv_at hl 0 rfl) ?_
    refine fm_getr C E lf_X9_16 hC_0 rfl dX9_years_13 ?_
    refine lv_aload_n C.1 C.2.1 dX9_years_16 rfl (lv_at hl 0 rfl) ?_
    refine fm_getr C E lf_X9_10 hC_0 rfl dX9_years_17 ?_
    obtain ⟨M20, hc20, hf⟩ := fm_bd hf
    refine fm_callV C E [.ref _] [] lm_X9_99 wk_X7_copyFrom (c_Scene_copyFrom l G N _ _ _ _ hc20) hC_15 rfl rfl rfl hl.1 (by simp [Value.category]) ⟨⟨rfl, rfl⟩, by decide, by decide⟩ ⟨by decide, by decide⟩ dX9_years_20 rfl (fun H locs E => ?_)
    refine W.eq (g2 := F0 m 23 ls []) rfl ?_
    refine lv_aload_n C.1 C.2.1 dX9_years_23 rfl (lv_at hl 0 rfl) ?_
    refine fm_getr C E lf_X9_87 hC_0 rfl dX9_years_24 ?_
    refine lv_iload_n C.1 C.2.1 dX9_years_27 rfl (lv_at hl 1 rfl) ?_
    obtain ⟨M28, hc28, hf⟩ := fm_bd hf
    refine fm_callV C E [.int _] [] lm_X9_370 wk_X2_start (c_Dice_start l G _ _ _ hc28) hC_220 rfl rfl rfl hl.1 (by simp [Value.category]) ⟨⟨rfl, rfl⟩, by decide, by decide⟩ ⟨by decide, by decide⟩ dX9_years_28 rfl (fun H locs E => ?_)
    refine W.eq (g2 := F0 m 31 ls []) rfl ?_
    refine lv_iconst (v := 0) C.1 C.2.1 dX9_years_31 (by decide) ?_
    refine lv_istore_n (lv' := [(3, .int _), (0, .ref _), (1, .int _), (2, .int _)]) C.1 C.2.1 dX9_years_32 rfl hl (by decide) rfl (fun ls hl => ?_)
    exact L33 _ N _ _ _ _ _ E (lv_sub hl [1, 3, 0] rfl) hf
  · have hf := fm_ip hf hc7
    refine lv_iconst (v := (-1)) C.1 C.2.1 dX9_years_10 (by decide) ?_
    obtain ⟨rfl, rfl⟩ := fm_rt2 hf
    exact fm_iret C E rfl rfl dX9_years_11
