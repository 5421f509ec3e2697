theorem dX9_mic_0 : decode cX9_mic 0 = .ok (.aload_n 0, 1) := by decide +kernel
theorem dX9_mic_1 : decode cX9_mic 1 = .ok (.getfield 10, 3) := by decide +kernel
theorem dX9_mic_4 : decode cX9_mic 4 = .ok (.iload_n 1, 1) := by decide +kernel
theorem dX9_mic_5 : decode cX9_mic 5 = .ok (.invokevirtual 116, 3) := by decide +kernel
theorem dX9_mic_8 : decode cX9_mic 8 = .ok (.ifCond .eq 16, 3) := by decide +kernel
theorem dX9_mic_11 : decode cX9_mic 11 = .ok (.iload_n 2, 1) := by decide +kernel
theorem dX9_mic_12 : decode cX9_mic 12 = .ok (.iconst 0, 1) := by decide +kernel
theorem dX9_mic_13 : decode cX9_mic 13 = .ok (.iconst 5, 1) := by decide +kernel
theorem dX9_mic_14 : decode cX9_mic 14 = .ok (.invokestatic 112, 3) := by decide +kernel
theorem dX9_mic_17 : decode cX9_mic 17 = .ok (.ifCond .eq 7, 3) := by decide +kernel
theorem dX9_mic_20 : decode cX9_mic 20 = .ok (.iconst 1, 1) := by decide +kernel
theorem dX9_mic_21 : decode cX9_mic 21 = .ok (.goto 4, 3) := by decide +kernel
theorem dX9_mic_24 : decode cX9_mic 24 = .ok (.iconst 0, 1) := by decide +kernel
theorem dX9_mic_25 : decode cX9_mic 25 = .ok (.invokestatic 137, 3) := by decide +kernel
theorem dX9_mic_28 : decode cX9_mic 28 = .ok (.aload_n 0, 1) := by decide +kernel
theorem dX9_mic_29 : decode cX9_mic 29 = .ok (.getfield 10, 3) := by decide +kernel
theorem dX9_mic_32 : decode cX9_mic 32 = .ok (.iload_n 1, 1) := by decide +kernel
theorem dX9_mic_33 : decode cX9_mic 33 = .ok (.iload_n 2, 1) := by decide +kernel
theorem dX9_mic_34 : decode cX9_mic 34 = .ok (.invokevirtual 141, 3) := by decide +kernel
theorem dX9_mic_37 : decode cX9_mic 37 = .ok (.ireturn, 1) := by decide +kernel
set_option maxHeartbeats 4000000 in
set_option maxRecDepth 100000 in
theorem c_MicRow_mic (l : Launch) (G : fm_G) (M : fm_M) (v1 : Int32) (v2 : Int32) (r : Int32) (hf : pMicRow_mic M v1 v2 = some r) : fm_Met l yX9_mic cX9_mic 3 (some .int) { frames := 2, cells := 0, slots := 0, locals := 44 } shC G [.ref (G.2.1 0), .int v1, .int v2] M (some (.int r)) M := by
  refine fm_enter (by decide) (Nat.le_of_ble_eq_true rfl) ?_
  intro p e s m args below meth c ls C E hl
  have hl : lv_has ls 3 [(0, .ref (G.2.1 0)), (1, .int v1), (2, .int v2)] := hl
  have J25 : ∀ (v1 : Int32) (v2 : Int32) (s0 : Int32) (H : Heap) (locs : List Loc) (ls : Array Slot), fm_Wd shC G M s H locs → lv_has ls 3 [(0, .ref (G.2.1 0)), (1, .int v1), (2, .int v2)] → pMicRow_mic_J25 M v1 v2 s0 = some r → W p l e { frames := 2, cells := 0, slots := 0, locals := 44 } s m args below meth c H locs 0 0 (fm_Z below shC G args s (some (.int r)) M) (F0 m 25 ls [.int s0]) := by
    intro v1 v2 s0 H locs ls E hl hf
    unfold pMicRow_mic_J25 at hf
    obtain ⟨x25, hc25, hf⟩ := fm_bd hf
    refine fm_callS C E [.int _] [] lm_X9_137 wk_X9_demand (c_MicRow_demand l G _ _  hc25) rfl hl.1 (by simp [Value.category]) ⟨⟨rfl, rfl⟩, by decide, by decide⟩ ⟨by decide, by decide⟩ dX9_mic_25 rfl (fun H locs E => ?_)
    refine W.eq (g2 := F0 m 28 ls []) rfl ?_
    refine lv_aload_n C.1 C.2.1 dX9_mic_28 rfl (lv_at hl 0 rfl) ?_
    refine fm_getr C E lf_X9_10 hC_0 rfl dX9_mic_29 ?_
    refine lv_iload_n C.1 C.2.1 dX9_mic_32 rfl (lv_at hl 1 rfl) ?_
    refine lv_iload_n C.1 C.2.1 dX9_mic_33 rfl (lv_at hl 2 rfl) ?_
    obtain ⟨x34, hc34, hf⟩ := fm_bd hf
    refine fm_callV C E [.int _, .int _] [] lm_X9_141 wk_X7_ofMic (c_Scene_ofMic l G _ _ _ _  hc34) hC_1 rfl rfl rfl hl.1 (by simp [Value.category]) ⟨⟨rfl, rfl⟩, by decide, by decide⟩ ⟨by decide, by decide⟩ dX9_mic_34 rfl (fun H locs E => ?_)
    refine W.eq (g2 := F0 m 37 ls (.int x34 :: [])) rfl ?_
    obtain rfl := fm_rt1 hf
    exact fm_iret C E rfl rfl dX9_mic_37
  have J24 : ∀ (v1 : Int32) (v2 : Int32) (H : Heap) (locs : List Loc) (ls : Array Slot), fm_Wd shC G M s H locs → lv_has ls 3 [(0, .ref (G.2.1 0)), (1, .int v1), (2, .int v2)] → pMicRow_mic_J24 M v1 v2 = some r → W p l e { frames := 2, cells := 0, slots := 0, locals := 44 } s m args below meth c H locs 0 0 (fm_Z below shC G args s (some (.int r)) M) (F0 m 24 ls []) := by
    intro v1 v2 H locs ls E hl hf
    unfold pMicRow_mic_J24 at hf
    refine lv_iconst (v := 0) C.1 C.2.1 dX9_mic_24 (by decide) ?_
    exact J25 _ _ _ _ _ _ E (lv_sub hl [0, 1, 2] rfl) hf
  unfold pMicRow_mic at hf
  refine lv_aload_n C.1 C.2.1 dX9_mic_0 rfl (lv_at hl 0 rfl) ?_
  refine fm_getr C E lf_X9_10 hC_0 rfl dX9_mic_1 ?_
  refine lv_iload_n C.1 C.2.1 dX9_mic_4 rfl (lv_at hl 1 rfl) ?_
  obtain ⟨x5, hc5, hf⟩ := fm_bd hf
  refine fm_callV C E [.int _] [] lm_X9_116 wk_X7_hasMic (c_Scene_hasMic l G _ _ _  hc5) hC_1 rfl rfl rfl hl.1 (by simp [Value.category]) ⟨⟨rfl, rfl⟩, by decide, by decide⟩ ⟨by decide, by decide⟩ dX9_mic_5 rfl (fun H locs E => ?_)
  refine W.eq (g2 := F0 m 8 ls (.int x5 :: [])) rfl ?_
  refine lv_if_eq (tgt := 24) C.1 C.2.1 dX9_mic_8 (by decide) (fun hc8 => ?_) (fun hc8 => ?_)
  · have hf := fm_ip hf hc8
    exact J24 _ _ _ _ _ E (lv_sub hl [0, 1, 2] rfl) hf
  · have hf := fm_in' hf hc8
    refine lv_iload_n C.1 C.2.1 dX9_mic_11 rfl (lv_at hl 2 rfl) ?_
    refine lv_iconst (v := 0) C.1 C.2.1 dX9_mic_12 (by decide) ?_
    refine lv_iconst (v := 5) C.1 C.2.1 dX9_mic_13 (by decide) ?_
    obtain ⟨x14, hc14, hf⟩ := fm_bd hf
    refine fm_callS C E [.int _, .int _, .int _] [] lm_X9_112 wk_X9_within (c_MicRow_within l G _ _ _ _ _  hc14) rfl hl.1 (by simp [Value.category]) ⟨⟨rfl, rfl⟩, by decide, by decide⟩ ⟨by decide, by decide⟩ dX9_mic_14 rfl (fun H locs E => ?_)
    refine W.eq (g2 := F0 m 17 ls (.int x14 :: [])) rfl ?_
    refine lv_if_eq (tgt := 24) C.1 C.2.1 dX9_mic_17 (by decide) (fun hc17 => ?_) (fun hc17 => ?_)
    · have hf := fm_ip hf hc17
      exact J24 _ _ _ _ _ E (lv_sub hl [0, 1, 2] rfl) hf
    · have hf := fm_in' hf hc17
      refine lv_iconst (v := 1) C.1 C.2.1 dX9_mic_20 (by decide) ?_
      refine lv_goto (tgt := 25) C.1 C.2.1 dX9_mic_21 (by decide) ?_
      exact J25 _ _ _ _ _ _ E (lv_sub hl [0, 1, 2] rfl) hf
theorem dX9_source_0 : decode cX9_source 0 = .ok (.aload_n 0, 1) := by decide +kernel
theorem dX9_source_1 : decode cX9_source 1 = .ok (.getfield 10, 3) := by decide +kernel
theorem dX9_source_4 : decode cX9_source 4 = .ok (.iload_n 1, 1) := by decide +kernel
theorem dX9_source_5 : decode cX9_source 5 = .ok (.invokevirtual 144, 3) := by decide +kernel
theorem dX9_source_8 : decode cX9_source 8 = .ok (.ifCond .eq 11, 3) := by decide +kernel
theorem dX9_source_11 : decode cX9_source 11 = .ok (.iload_n 2, 1) := by decide +kernel
theorem dX9_source_12 : decode cX9_source 12 = .ok (.ifCond .lt 7, 3) := by decide +kernel
theorem dX9_source_15 : decode cX9_source 15 = .ok (.iconst 1, 1) := by decide +kernel
theorem dX9_source_16 : decode cX9_source 16 = .ok (.goto 4, 3) := by decide +kernel
theorem dX9_source_19 : decode cX9_source 19 = .ok (.iconst 0, 1) := by decide +kernel
theorem dX9_source_20 : decode cX9_source 20 = .ok (.invokestatic 137, 3) := by decide +kernel
theorem dX9_source_23 : decode cX9_source 23 = .ok (.iload_n 2, 1) := by decide +kernel
theorem dX9_source_24 : decode cX9_source 24 = .ok (.iconst 3, 1) := by decide +kernel
theorem dX9_source_25 : decode cX9_source 25 = .ok (.if_icmp .lt 18, 3) := by decide +kernel
theorem dX9_source_28 : decode cX9_source 28 = .ok (.iload_n 2, 1) := by decide +kernel
theorem dX9_source_29 : decode cX9_source 29 = .ok (.iconst 3, 1) := by decide +kernel
theorem dX9_source_30 : decode cX9_source 30 = .ok (.isub, 1) := by decide +kernel
theorem dX9_source_31 : decode cX9_source 31 = .ok (.aload_n 0, 1) := by decide +kernel
theorem dX9_source_32 : decode cX9_source 32 = .ok (.getfield 10, 3) := by decide +kernel
theorem dX9_source_35 : decode cX9_source 35 = .ok (.iload_n 1, 1) := by decide +kernel
theorem dX9_source_36 : decode cX9_source 36 = .ok (.iconst 2, 1) := by decide +kernel
theorem dX9_source_37 : decode cX9_source 37 = .ok (.invokevirtual 147, 3) := by decide +kernel
theorem dX9_source_40 : decode cX9_source 40 = .ok (.if_icmp .ge 7, 3) := by decide +kernel
theorem dX9_source_43 : decode cX9_source 43 = .ok (.iconst 1, 1) := by decide +kernel
theorem dX9_source_44 : decode cX9_source 44 = .ok (.goto 4, 3) := by decide +kernel
theorem dX9_source_47 : decode cX9_source 47 = .ok (.iconst 0, 1) := by decide +kernel
theorem dX9_source_48 : decode cX9_source 48 = .ok (.invokestatic 137, 3) := by decide +kernel
theorem dX9_source_51 : decode cX9_source 51 = .ok (.aload_n 0, 1) := by decide +kernel
theorem dX9_source_52 : decode cX9_source 52 = .ok (.getfield 10, 3) := by decide +kernel
theorem dX9_source_55 : decode cX9_source 55 = .ok (.iload_n 1, 1) := by decide +kernel
theorem dX9_source_56 : decode cX9_source 56 = .ok (.iload_n 2, 1) := by decide +kernel
theorem dX9_source_57 : decode cX9_source 57 = .ok (.invokevirtual 147, 3) := by decide +kernel
theorem dX9_source_60 : decode cX9_source 60 = .ok (.ireturn, 1) := by decide +kernel
set_option maxHeartbeats 4000000 in
set_option maxRecDepth 100000 in
theorem c_MicRow_source (l : Launch) (G : fm_G) (M : fm_M) (v1 : Int32) (v2 : Int32) (r : Int32) (hf : pMicRow_source M v1 v2 = some r) : fm_Met l yX9_source cX9_source 3 (some .int) { frames := 2, cells := 0, slots := 0, locals := 44 } shC G [.ref (G.2.1 0), .int v1, .int v2] M (some (.int r)) M := by
  refine fm_enter (by decide) (Nat.le_of_ble_eq_true rfl) ?_
  intro p e s m args below meth c ls C E hl
  have hl : lv_has ls 3 [(0, .ref (G.2.1 0)), (1, .int v1), (2, .int v2)] := hl
  have J48 : ∀ (v1 : Int32) (v2 : Int32) (s0 : Int32) (H : Heap) (locs : List Loc) (ls : Array Slot), fm_Wd shC G M s H locs → lv_has ls 3 [(0, .ref (G.2.1 0)), (1, .int v1), (2, .int v2)] → pMicRow_source_J48 M v1 v2 s0 = some r → W p l e { frames := 2, cells := 0, slots := 0, locals := 44 } s m args below meth c H locs 0 0 (fm_Z below shC G args s (some (.int r)) M) (F0 m 48 ls [.int s0]) := by
    intro v1 v2 s0 H locs ls E hl hf
    unfold pMicRow_source_J48 at hf
    obtain ⟨x48, hc48, hf⟩ := fm_bd hf
    refine fm_callS C E [.int _] [] lm_X9_137 wk_X9_demand (c_MicRow_demand l G _ _  hc48) rfl hl.1 (by simp [Value.category]) ⟨⟨rfl, rfl⟩, by decide, by decide⟩ ⟨by decide, by decide⟩ dX9_source_48 rfl (fun H locs E => ?_)
    refine W.eq (g2 := F0 m 51 ls []) rfl ?_
    refine lv_aload_n C.1 C.2.1 dX9_source_51 rfl (lv_at hl 0 rfl) ?_
    refine fm_getr C E lf_X9_10 hC_0 rfl dX9_source_52 ?_
    refine lv_iload_n C.1 C.2.1 dX9_source_55 rfl (lv_at hl 1 rfl) ?_
    refine lv_iload_n C.1 C.2.1 dX9_source_56 rfl (lv_at hl 2 rfl) ?_
    obtain ⟨x57, hc57, hf⟩ := fm_bd hf
    refine fm_callV C E [.int _, .int _] [] lm_X9_147 wk_X7_ofSource (c_Scene_ofSource l G _ _ _ _  hc57) hC_1 rfl rfl rfl hl.1 (by simp [Value.category]) ⟨⟨rfl, rfl⟩, by decide, by decide⟩ ⟨by decide, by decide⟩ dX9_source_57 rfl (fun H locs E => ?_)
    refine W.eq (g2 := F0 m 60 ls (.int x57 :: [])) rfl ?_
    obtain rfl := fm_rt1 hf
    exact fm_iret C E rfl rfl dX9_source_60
  have J43 : ∀ (v1 : Int32) (v2 : Int32) (H : Heap) (locs : List Loc) (ls : Array Slot), fm_Wd shC G M s H locs → lv_has ls 3 [(0, .ref (G.2.1 0)), (1, .int v1), (2, .int v2)] → pMicRow_source_J43 M v1 v2 = some r → W p l e { frames := 2, cells := 0, slots := 0, locals := 44 } s m args below meth c H locs 0 0 (fm_Z below shC G args s (some (.int r)) M) (F0 m 43 ls []) := by
    intro v1 v2 H locs ls E hl hf
    unfold pMicRow_source_J43 at hf
    refine lv_iconst (v := 1) C.1 C.2.1 dX9_source_43 (by decide) ?_
    refine lv_goto (tgt := 48) C.1 C.2.1 dX9_source_44 (by decide) ?_
    exact J48 _ _ _ _ _ _ E (lv_sub hl [0, 1, 2] rfl) hf
  have J20 : ∀ (v1 : Int32) (v2 : Int32) (s0 : Int32) (H : Heap) (locs : List Loc) (ls : Array Slot), fm_Wd shC G M s H locs → lv_has ls 3 [(0, .ref (G.2.1 0)), (1, .int v1), (2, .int v2)] → pMicRow_source_J20 M v1 v2 s0 = some r → W p l e { frames := 2, cells := 0, slots := 0, locals := 44 } s m args below meth c H locs 0 0 (fm_Z below shC G args s (some (.int r)) M) (F0 m 20 ls [.int s0]) := by
    intro v1 v2 s0 H locs ls E hl hf
    unfold pMicRow_source_J20 at hf
    obtain ⟨x20, hc20, hf⟩ := fm_bd hf
    refine fm_callS C E [.int _] [] lm_X9_137 wk_X9_demand (c_MicRow_demand l G _ _  hc20) rfl hl.1 (by simp [Value.category]) ⟨⟨rfl, rfl⟩, by decide, by decide⟩ ⟨by decide, by decide⟩ dX9_source_20 rfl (fun H locs E => ?_)
    refine W.eq (g2 := F0 m 23 ls []) rfl ?_
    refine lv_iload_n C.1 C.2.1 dX9_source_23 rfl (lv_at hl 2 rfl) ?_
    refine lv_iconst (v := 3) C.1 C.2.1 dX9_source_24 (by decide) ?_
    refine lv_icmp_lt (tgt := 43) C.1 C.2.1 dX9_source_25 (by decide) (fun hc25 => ?_) (fun hc25 => ?_)
    · have hf := fm_ip hf hc25
      exact J43 _ _ _ _ _ E (lv_sub hl [0, 1, 2] rfl) hf
    · have hf := fm_in' hf hc25
      refine lv_iload_n C.1 C.2.1 dX9_source_28 rfl (lv_at hl 2 rfl) ?_
      refine lv_iconst (v := 3) C.1 C.2.1 dX9_source_29 (by decide) ?_
      refine lv_isub C.1 C.2.1 dX9_source_30 ?_
      refine lv_aload_n C.1 C.2.1 dX9_source_31 rfl (lv_at hl 0 rfl) ?_
      refine fm_getr C E lf_X9_10 hC_0 rfl dX9_source_32 ?_
      refine lv_iload_n C.1 C.2.1 dX9_source_35 rfl (lv_at hl 1 rfl) ?_
      refine lv_iconst (v := 2) C.1 C.2.1 dX9_source_36 (by decide) ?_
      obtain ⟨x37, hc37, hf⟩ := fm_bd hf
      refine fm_callV C E [.int _, .int _] [.int _] lm_X9_147 wk_X7_ofSource (c_Scene_ofSource l G _ _ _ _  hc37) hC_1 rfl rfl rfl hl.1 (by simp [Value.category]) ⟨⟨rfl, rfl⟩, by decide, by decide⟩ ⟨by decide, by decide⟩ dX9_source_37 rfl (fun H locs E => ?_)
      refine W.eq (g2 := F0 m 40 ls (.int x37 :: [.int _])) rfl ?_
      refine lv_icmp_ge (tgt := 47) C.1 C.2.1 dX9_source_40 (by decide) (fun hc40 => ?_) (fun hc40 => ?_)
      · have hf := fm_ip hf hc40
        refine lv_iconst (v := 0) C.1 C.2.1 dX9_source_47 (by decide) ?_
        exact J48 _ _ _ _ _ _ E (lv_sub hl [0, 1, 2] rfl) hf
      · have hf := fm_in' hf hc40
        exact J43 _ _ _ _ _ E (lv_sub hl [0, 1, 2] rfl) hf
  have J19 : ∀ (v1 : Int32) (v2 : Int32) (H : Heap) (locs : List Loc) (ls : Array Slot), fm_Wd shC G M s H locs → lv_has ls 3 [(0, .ref (G.2.1 0)), (1, .int v1), (2, .int v2)] → pMicRow_source_J19 M v1 v2 = some r → W p l e { frames := 2, cells := 0, slots := 0, locals := 44 } s m args below meth c H locs 0 0 (fm_Z below shC G args s (some (.int r)) M) (F0 m 19 ls []) := by
    intro v1 v2 H locs ls E hl hf
    unfold pMicRow_source_J19 at hf
    refine lv_iconst (v := 0) C.1 C.2.1 dX9_source_19 (by decide) ?_
    exact J20 _ _ _ _ _ _ E (lv_sub hl [0, 1, 2] rfl) hf
  unfold pMicRow_source at hf
  refine lv_aload_n C.1 C.2.1 dX9_source_0 rfl (lv_at hl 0 rfl) ?_
  refine fm_getr C E lf_X9_10 hC_0 rfl dX9_source_1 ?_
  refine lv_iload_n C.1 C.2.1 dX9_source_4 rfl (lv_at hl 1 rfl) ?_
  obtain ⟨x5, hc5, hf⟩ := fm_bd hf
  refine fm_callV C E [.int _] [] lm_X9_144 wk_X7_hasSource (c_Scene_hasSource l G _ _ _  hc5) hC_1 rfl rfl rfl hl.1 (by simp [Value.category]) ⟨⟨rfl, rfl⟩, by decide, by decide⟩ ⟨by decide, by decide⟩ dX9_source_5 rfl (fun H locs E => ?_)
  refine W.eq (g2 := F0 m 8 ls (.int x5 :: [])) rfl ?_
  refine lv_if_eq (tgt := 19) C.1 C.2.1 dX9_source_8 (by decide) (fun hc8 => ?_) (fun hc8 => ?_)
  · have hf := fm_ip hf hc8
    exact J19 _ _ _ _ _ E (lv_sub hl [0, 1, 2] rfl) hf
  · have hf := fm_in' hf hc8
    refine lv_iload_n C.1 C.2.1 dX9_source_11 rfl (lv_at hl 2 rfl) ?_
    refine lv_if_lt (tgt := 19) C.1 C.2.1 dX9_source_12 (by decide) (fun hc12 => ?_) (fun hc12 => ?_)
    · have hf := fm_ip hf hc12
      exact J19 _ _ _ _ _ E (lv_sub hl [0, 1, 2] rfl) hf
    · have hf := fm_in' hf hc12
      refine lv_iconst (v := 1) C.1 C.2.1 dX9_source_15 (by decide) ?_
      refine lv_goto (tgt := 20) C.1 C.2.1 dX9_source_16 (by decide) ?_
      exact J20 _ _ _ _ _ _ E (lv_sub hl [0, 1, 2] rfl) hf
theorem dX9_isTurnedTime_0 : decode cX9_isTurnedTime 0 = .ok (.iload_n 0, 1) := by decide +kernel
theorem dX9_isTurnedTime_1 : decode cX9_isTurnedTime 1 = .ok (.sipush (-200), 3) := by decide +kernel
theorem dX9_isTurnedTime_4 : decode cX9_isTurnedTime 4 = .ok (.sipush 200, 3) := by decide +kernel
theorem dX9_isTurnedTime_7 : decode cX9_isTurnedTime 7 = .ok (.invokestatic 112, 3) := by decide +kernel
theorem dX9_isTurnedTime_10 : decode cX9_isTurnedTime 10 = .ok (.ireturn, 1) := by decide +kernel
set_option maxHeartbeats 4000000 in
set_option maxRecDepth 100000 in
theorem c_MicRow_isTurnedTime (l : Launch) (G : fm_G) (M : fm_M) (v0 : Int32) (r : Int32) (hf : pMicRow_isTurnedTime M v0 = some r) : fm_Met l yX9_isTurnedTime cX9_isTurnedTime 1 (some .boolean) { frames := 1, cells := 0, slots := 0, locals := 22 } shC G [.int v0] M (some (.int r)) M := by
  refine fm_enter (by decide) (Nat.le_of_ble_eq_true rfl) ?_
  intro p e s m args below meth c ls C E hl
  have hl : lv_has ls 1 [(0, .int v0)] := hl
  unfold pMicRow_isTurnedTime at hf
  refine lv_iload_n C.1 C.2.1 dX9_isTurnedTime_0 rfl (lv_at hl 0 rfl) ?_
  refine lv_sipush (v := (-200)) C.1 C.2.1 dX9_isTurnedTime_1 (by decide) ?_
  refine lv_sipush (v := 200) C.1 C.2.1 dX9_isTurnedTime_4 (by decide) ?_
  obtain ⟨x7, hc7, hf⟩ := fm_bd hf
  refine fm_callS C E [.int _, .int _, .int _] [] lm_X9_112 wk_X9_within (c_MicRow_within l G _ _ _ _ _  hc7) rfl hl.1 (by simp [Value.category]) ⟨⟨rfl, rfl⟩, by decide, by decide⟩ ⟨by decide, by decide⟩ dX9_isTurnedTime_7 rfl (fun H locs E => ?_)
  refine W.eq (g2 := F0 m 10 ls (.int x7 :: [])) rfl ?_
  obtain ⟨hn10, hf⟩ := fm_bo_s hf
  obtain rfl := fm_rt1 hf
  exact fm_iret C E rfl hn10 dX9_isTurnedTime_10
theorem dX9_mixedPower_0 : decode cX9_mixedPower 0 = .ok (.aload_n 0, 1) := by decide +kernel
theorem dX9_mixedPower_1 : decode cX9_mixedPower 1 = .ok (.getfield 71, 3) := by decide +kernel
theorem dX9_mixedPower_4 : decode cX9_mixedPower 4 = .ok (.iload_n 1, 1) := by decide +kernel
theorem dX9_mixedPower_5 : decode cX9_mixedPower 5 = .ok (.invokevirtual 175, 3) := by decide +kernel
theorem dX9_mixedPower_8 : decode cX9_mixedPower 8 = .ok (.aload_n 0, 1) := by decide +kernel
theorem dX9_mixedPower_9 : decode cX9_mixedPower 9 = .ok (.getfield 71, 3) := by decide +kernel
theorem dX9_mixedPower_12 : decode cX9_mixedPower 12 = .ok (.aload_n 0, 1) := by decide +kernel
theorem dX9_mixedPower_13 : decode cX9_mixedPower 13 = .ok (.getfield 71, 3) := by decide +kernel
theorem dX9_mixedPower_16 : decode cX9_mixedPower 16 = .ok (.getfield 178, 3) := by decide +kernel
theorem dX9_mixedPower_19 : decode cX9_mixedPower 19 = .ok (.invokevirtual 228, 3) := by decide +kernel
theorem dX9_mixedPower_22 : decode cX9_mixedPower 22 = .ok (.lreturn, 1) := by decide +kernel
set_option maxHeartbeats 4000000 in
set_option maxRecDepth 100000 in
theorem c_MicRow_mixedPower (l : Launch) (G : fm_G) (N : Nat) (M : fm_M) (v1 : Int32) (r : Int64) (M' : fm_M) (hf : pMicRow_mixedPower N M v1 = some (r, M')) : fm_Met l yX9_mixedPower cX9_mixedPower 2 (some .long) { frames := 2, cells := 0, slots := 0, locals := 45 } shC G [.ref (G.2.1 0), .int v1] M (some (.long r)) M' := by
  refine fm_enter (by decide) (Nat.le_of_ble_eq_true rfl) ?_
  intro p e s m args below meth c ls C E hl
  have hl : lv_has ls 2 [(0, .ref (G.2.1 0)), (1, .int v1)] := hl
  unfold pMicRow_mixedPower at hf
  refine lv_aload_n C.1 C.2.1 dX9_mixedPower_0 rfl (lv_at hl 0 rfl) ?_
  refine fm_getr C E lf_X9_71 hC_0 rfl dX9_mixedPower_1 ?_
  refine lv_iload_n C.1 C.2.1 dX9_mixedPower_4 rfl (lv_at hl 1 rfl) ?_
  obtain ⟨M5, hc5, hf⟩ := fm_bd hf
  refine fm_callV C E [.int _] [] lm_X9_175 wk_X0_mix (c_Bench_mix l G N _ _ _ hc5) hC_181 rfl rfl rfl hl.1 (by simp [Value.category]) ⟨⟨rfl, rfl⟩, by decide, by decide⟩ ⟨by decide, by decide⟩ dX9_mixedPower_5 rfl (fun H locs E => ?_)
  refine W.eq (g2 := F0 m 8 ls []) rfl ?_
  refine lv_aload_n C.1 C.2.1 dX9_mixedPower_8 rfl (lv_at hl 0 rfl) ?_
  refine fm_getr C E lf_X9_71 hC_0 rfl dX9_mixedPower_9 ?_
  refine lv_aload_n C.1 C.2.1 dX9_mixedPower_12 rfl (lv_at hl 0 rfl) ?_
  refine fm_getr C E lf_X9_71 hC_0 rfl dX9_mixedPower_13 ?_
  refine fm_getr C E lf_X9_178 hC_181 rfl dX9_mixedPower_16 ?_
  obtain ⟨x19, hc19, hf⟩ := fm_bd hf
  refine fm_callV C E [.ref _] [] lm_X9_228 wk_X0_powerOf (c_Bench_powerOf l G N _ _ _  hc19) hC_181 rfl rfl rfl hl.1 (by simp [Value.category]) ⟨⟨rfl, rfl⟩, by decide, by decide⟩ ⟨by decide, by decide⟩ dX9_mixedPower_19 rfl (fun H locs E => ?_)
  refine W.eq (g2 := F0 m 22 ls (.long x19 :: [])) rfl ?_
  obtain ⟨rfl, rfl⟩ := fm_rt2 hf
  exact fm_lret C E rfl dX9_mixedPower_22
theorem dX9_undo_0 : decode cX9_undo 0 = .ok (.aload_n 0, 1) := by decide +kernel
theorem dX9_undo_1 : decode cX9_undo 1 = .ok (.getfield 30, 3) := by decide +kernel
theorem dX9_undo_4 : decode cX9_undo 4 = .ok (.aload_n 0, 1) := by decide +kernel
theorem dX9_undo_5 : decode cX9_undo 5 = .ok (.getfield 10, 3) := by decide +kernel
theorem dX9_undo_8 : decode cX9_undo 8 = .ok (.invokevirtual 367, 3) := by decide +kernel
theorem dX9_undo_11 : decode cX9_undo 11 = .ok (.ireturn, 1) := by decide +kernel
set_option maxHeartbeats 4000000 in
set_option maxRecDepth 100000 in
theorem c_MicRow_undo (l : Launch) (G : fm_G) (N : Nat) (M : fm_M) (r : Int32) (M' : fm_M) (hf : pMicRow_undo N M = some (r, M')) : fm_Met l yX9_undo cX9_undo 1 (some .int) { frames := 3, cells := 0, slots := 0, locals := 69 } shC G [.ref (G.2.1 0)] M (some (.int r)) M' := by
  refine fm_enter (by decide) (Nat.le_of_ble_eq_true rfl) ?_
  intro p e s m args below meth c ls C E hl
  have hl : lv_has ls 1 [(0, .ref (G.2.1 0))] := hl
  unfold pMicRow_undo at hf
  refine lv_aload_n C.1 C.2.1 dX9_undo_0 rfl (lv_at hl 0 rfl) ?_
  refine fm_getr C E lf_X9_30 hC_0 rfl dX9_undo_1 ?_
  refine lv_aload_n C.1 C.2.1 dX9_undo_4 rfl (lv_at hl 0 rfl) ?_
  refine fm_getr C E lf_X9_10 hC_0 rfl dX9_undo_5 ?_
  obtain ⟨⟨x8, M8⟩, hc8, hf⟩ := fm_bd hf
  dsimp only at hf
  refine fm_callV C E [.ref _] [] lm_X9_367 wk_X5_pop (c_Past_pop l G N _ _ _ hc8) hC_59 rfl rfl rfl hl.1 (by simp [Value.category]) ⟨⟨rfl, rfl⟩, by decide, by decide⟩ ⟨by decide, by decide⟩ dX9_undo_8 rfl (fun H locs E => ?_)
  refine W.eq (g2 := F0 m 11 ls (.int x8 :: [])) rfl ?_
  obtain ⟨rfl, rfl⟩ := fm_rt2 hf
  exact fm_iret C E rfl rfl dX9_undo_11
theorem dX9_drawnAct_0 : decode cX9_drawnAct 0 = .ok (.aload_n 0, 1) := by decide +kernel
theorem dX9_drawnAct_1 : decode cX9_drawnAct 1 = .ok (.getfield 87, 3) := by decide +kernel
theorem dX9_drawnAct_4 : decode cX9_drawnAct 4 = .ok (.iconst 3, 1) := by decide +kernel
theorem dX9_drawnAct_5 : decode cX9_drawnAct 5 = .ok (.invokevirtual 376, 3) := by decide +kernel
theorem dX9_drawnAct_8 : decode cX9_drawnAct 8 = .ok (.istore_n 1, 1) := by decide +kernel
theorem dX9_drawnAct_9 : decode cX9_drawnAct 9 = .ok (.aload_n 0, 1) := by decide +kernel
theorem dX9_drawnAct_10 : decode cX9_drawnAct 10 = .ok (.getfield 87, 3) := by decide +kernel
theorem dX9_drawnAct_13 : decode cX9_drawnAct 13 = .ok (.bipush 6, 2) := by decide +kernel
theorem dX9_drawnAct_15 : decode cX9_drawnAct 15 = .ok (.invokevirtual 376, 3) := by decide +kernel
theorem dX9_drawnAct_18 : decode cX9_drawnAct 18 = .ok (.istore_n 2, 1) := by decide +kernel
theorem dX9_drawnAct_19 : decode cX9_drawnAct 19 = .ok (.iload_n 1, 1) := by decide +kernel
theorem dX9_drawnAct_20 : decode cX9_drawnAct 20 = .ok (.ifCond .ne 25, 3) := by decide +kernel
theorem dX9_drawnAct_23 : decode cX9_drawnAct 23 = .ok (.aload_n 0, 1) := by decide +kernel
theorem dX9_drawnAct_24 : decode cX9_drawnAct 24 = .ok (.getfield 10, 3) := by decide +kernel
theorem dX9_drawnAct_27 : decode cX9_drawnAct 27 = .ok (.iload_n 2, 1) := by decide +kernel
theorem dX9_drawnAct_28 : decode cX9_drawnAct 28 = .ok (.iconst 2, 1) := by decide +kernel
theorem dX9_drawnAct_29 : decode cX9_drawnAct 29 = .ok (.aload_n 0, 1) := by decide +kernel
theorem dX9_drawnAct_30 : decode cX9_drawnAct 30 = .ok (.getfield 87, 3) := by decide +kernel
theorem dX9_drawnAct_33 : decode cX9_drawnAct 33 = .ok (.bipush 10, 2) := by decide +kernel
theorem dX9_drawnAct_35 : decode cX9_drawnAct 35 = .ok (.invokevirtual 376, 3) := by decide +kernel
theorem dX9_drawnAct_38 : decode cX9_drawnAct 38 = .ok (.invokevirtual 134, 3) := by decide +kernel
theorem dX9_drawnAct_41 : decode cX9_drawnAct 41 = .ok (.pop, 1) := by decide +kernel
theorem dX9_drawnAct_42 : decode cX9_drawnAct 42 = .ok (.goto 51, 3) := by decide +kernel
theorem dX9_drawnAct_45 : decode cX9_drawnAct 45 = .ok (.iload_n 1, 1) := by decide +kernel
theorem dX9_drawnAct_46 : decode cX9_drawnAct 46 = .ok (.iconst 1, 1) := by decide +kernel
theorem dX9_drawnAct_47 : decode cX9_drawnAct 47 = .ok (.if_icmp .ne 24, 3) := by decide +kernel
theorem dX9_drawnAct_50 : decode cX9_drawnAct 50 = .ok (.aload_n 0, 1) := by decide +kernel
theorem dX9_drawnAct_51 : decode cX9_drawnAct 51 = .ok (.getfield 10, 3) := by decide +kernel
theorem dX9_drawnAct_54 : decode cX9_drawnAct 54 = .ok (.iload_n 2, 1) := by decide +kernel
theorem dX9_drawnAct_55 : decode cX9_drawnAct 55 = .ok (.iconst 5, 1) := by decide +kernel
theorem dX9_drawnAct_56 : decode cX9_drawnAct 56 = .ok (.aload_n 0, 1) := by decide +kernel
theorem dX9_drawnAct_57 : decode cX9_drawnAct 57 = .ok (.getfield 87, 3) := by decide +kernel
theorem dX9_drawnAct_60 : decode cX9_drawnAct 60 = .ok (.iconst 2, 1) := by decide +kernel
theorem dX9_drawnAct_61 : decode cX9_drawnAct 61 = .ok (.invokevirtual 376, 3) := by decide +kernel
theorem dX9_drawnAct_64 : decode cX9_drawnAct 64 = .ok (.invokevirtual 134, 3) := by decide +kernel
theorem dX9_drawnAct_67 : decode cX9_drawnAct 67 = .ok (.pop, 1) := by decide +kernel
theorem dX9_drawnAct_68 : decode cX9_drawnAct 68 = .ok (.goto 25, 3) := by decide +kernel
theorem dX9_drawnAct_71 : decode cX9_drawnAct 71 = .ok (.aload_n 0, 1) := by decide +kernel
theorem dX9_drawnAct_72 : decode cX9_drawnAct 72 = .ok (.getfield 10, 3) := by decide +kernel
theorem dX9_drawnAct_75 : decode cX9_drawnAct 75 = .ok (.iload_n 2, 1) := by decide +kernel
theorem dX9_drawnAct_76 : decode cX9_drawnAct 76 = .ok (.iconst 1, 1) := by decide +kernel
theorem dX9_drawnAct_77 : decode cX9_drawnAct 77 = .ok (.aload_n 0, 1) := by decide +kernel
theorem dX9_drawnAct_78 : decode cX9_drawnAct 78 = .ok (.getfield 87, 3) := by decide +kernel
theorem dX9_drawnAct_81 : decode cX9_drawnAct 81 = .ok (.sipush 300, 3) := by decide +kernel
theorem dX9_drawnAct_84 : decode cX9_drawnAct 84 = .ok (.invokevirtual 376, 3) := by decide +kernel
theorem dX9_drawnAct_87 : decode cX9_drawnAct 87 = .ok (.iconst 1, 1) := by decide +kernel
theorem dX9_drawnAct_88 : decode cX9_drawnAct 88 = .ok (.iadd, 1) := by decide +kernel
theorem dX9_drawnAct_89 : decode cX9_drawnAct 89 = .ok (.invokevirtual 134, 3) := by decide +kernel
theorem dX9_drawnAct_92 : decode cX9_drawnAct 92 = .ok (.pop, 1) := by decide +kernel
theorem dX9_drawnAct_93 : decode cX9_drawnAct 93 = .ok (.return_, 1) := by decide +kernel
set_option maxHeartbeats 4000000 in
set_option maxRecDepth 100000 in
theorem c_MicRow_drawnAct (l : Launch) (G : fm_G) (M : fm_M) (M' : fm_M) (hf : pMicRow_drawnAct M = some M') : fm_Met l yX9_drawnAct cX9_drawnAct 3 none { frames := 2, cells := 0, slots := 0, locals := 46 } shC G [.ref (G.2.1 0)] M none M' := by
  refine fm_enter (by decide) (Nat.le_of_ble_eq_true rfl) ?_
  intro p e s m args below meth c ls C E hl
  have hl : lv_has ls 3 [(0, .ref (G.2.1 0))] := hl
  unfold pMicRow_drawnAct at hf
  refine lv_aload_n C.1 C.2.1 dX9_drawnAct_0 rfl (lv_at hl 0 rfl) ?_
  refine fm_getr C E lf_X9_87 hC_0 rfl dX9_drawnAct_1 ?_
  refine lv_iconst (v := 3) C.1 C.2.1 dX9_drawnAct_4 (by decide) ?_
  obtain ⟨⟨x5, M5⟩, hc5, hf⟩ := fm_bd hf
  dsimp only at hf
  refine fm_callV C E [.int _] [] lm_X9_376 wk_X2_draw (c_Dice_draw l G _ _ _ _ hc5) hC_220 rfl rfl rfl hl.1 (by simp [Value.category]) ⟨⟨rfl, rfl⟩, by decide, by decide⟩ ⟨by decide, by decide⟩ dX9_drawnAct_5 rfl (fun H locs E => ?_)
  refine W.eq (g2 := F0 m 8 ls (.int x5 :: [])) rfl ?_
  refine lv_istore_n (lv' := [(1, .int _), (0, .ref _)]) C.1 C.2.1 dX9_drawnAct_8 rfl hl (by decide) rfl (fun ls hl => ?_)
  refine lv_aload_n C.1 C.2.1 dX9_drawnAct_9 rfl (lv_at hl 1 rfl) ?_
  refine fm_getr C E lf_X9_87 hC_0 rfl dX9_drawnAct_10 ?_
  refine lv_bipush (v := 6) C.1 C.2.1 dX9_drawnAct_13 (by decide) ?_
  obtain ⟨⟨x15, M15⟩, hc15, hf⟩ := fm_bd hf
  dsimp only at hf
  refine fm_callV C E [.int _] [] lm_X9_376 wk_X2_draw (c_Dice_draw l G _ _ _ _ hc15) hC_220 rfl rfl rfl hl.1 (by simp [Value.category]) ⟨⟨rfl, rfl⟩, by decide, by decide⟩ ⟨by decide, by decide⟩ dX9_drawnAct_15 rfl (fun H locs E => ?_)
  refine W.eq (g2 := F0 m 18 ls (.int x15 :: [])) rfl ?_
  refine lv_istore_n (lv' := [(2, .int _), (1, .int _), (0, .ref _)]) C.1 C.2.1 dX9_drawnAct_18 rfl hl (by decide) rfl (fun ls hl => ?_)
  refine lv_iload_n C.1 C.2.1 dX9_drawnAct_19 rfl (lv_at hl 1 rfl) ?_
  refine lv_if_ne (tgt := 45) C.1 C.2.1 dX9_drawnAct_20 (by decide) (fun hc20 => ?_) (fun hc20 => ?_)
  · have hf := fm_in' hf hc20
    refine lv_iload_n C.1 C.2.1 dX9_drawnAct_45 rfl (lv_at hl 1 rfl) ?_
    refine lv_iconst (v := 1) C.1 C.2.1 dX9_drawnAct_46 (by decide) ?_
    refine lv_icmp_ne (tgt := 71) C.1 C.2.1 dX9_drawnAct_47 (by decide) (fun hc47 => ?_) (fun hc47 => ?_)
    · have hf := fm_in' hf hc47
      refine lv_aload_n C.1 C.2.1 dX9_drawnAct_71 rfl (lv_at hl 2 rfl) ?_
      refine fm_getr C E lf_X9_10 hC_0 rfl dX9_drawnAct_72 ?_
      refine lv_iload_n C.1 C.2.1 dX9_drawnAct_75 rfl (lv_at hl 0 rfl) ?_
      refine lv_iconst (v := 1) C.1 C.2.1 dX9_drawnAct_76 (by decide) ?_
      refine lv_aload_n C.1 C.2.1 dX9_drawnAct_77 rfl (lv_at hl 2 rfl) ?_
      refine fm_getr C E lf_X9_87 hC_0 rfl dX9_drawnAct_78 ?_
      refine lv_sipush (v := 300) C.1 C.2.1 dX9_drawnAct_81 (by decide) ?_
      obtain ⟨⟨x84, M84⟩, hc84, hf⟩ := fm_bd hf
      dsimp only at hf
      refine fm_callV C E [.int _] [.int _, .int _, .ref _] lm_X9_376 wk_X2_draw (c_Dice_draw l G _ _ _ _ hc84) hC_220 rfl rfl rfl hl.1 (by simp [Value.category]) ⟨⟨rfl, rfl⟩, by decide, by decide⟩ ⟨by decide, by decide⟩ dX9_drawnAct_84 rfl (fun H locs E => ?_)
      refine W.eq (g2 := F0 m 87 ls (.int x84 :: [.int _, .int _, .ref _])) rfl ?_
      refine lv_iconst (v := 1) C.1 C.2.1 dX9_drawnAct_87 (by decide) ?_
      refine lv_iadd C.1 C.2.1 dX9_drawnAct_88 ?_
      obtain ⟨⟨x89, M89⟩, hc89, hf⟩ := fm_bd hf
      dsimp only at hf
      refine fm_callV C E [.int _, .int _, .int _] [] lm_X9_134 wk_X7_put (c_Scene_put l G _ _ _ _ _ _ hc89) hC_1 rfl rfl rfl hl.1 (by simp [Value.category]) ⟨⟨rfl, rfl⟩, by decide, by decide⟩ ⟨by decide, by decide⟩ dX9_drawnAct_89 rfl (fun H locs E => ?_)
      refine W.eq (g2 := F0 m 92 ls (.int x89 :: [])) rfl ?_
      refine lv_pop C.1 C.2.1 dX9_drawnAct_92 rfl ?_
      obtain rfl := fm_rt1 hf
      exact fm_vret C E rfl dX9_drawnAct_93
    · have hf := fm_ip hf hc47
      refine lv_aload_n C.1 C.2.1 dX9_drawnAct_50 rfl (lv_at hl 2 rfl) ?_
      refine fm_getr C E lf_X9_10 hC_0 rfl dX9_drawnAct_51 ?_
      refine lv_iload_n C.1 C.2.1 dX9_drawnAct_54 rfl (lv_at hl 0 rfl) ?_
      refine lv_iconst (v := 5) C.1 C.2.1 dX9_drawnAct_55 (by decide) ?_
      refine lv_aload_n C.1 C.2.1 dX9_drawnAct_56 rfl (lv_at hl 2 rfl) ?_
      refine fm_getr C E lf_X9_87 hC_0 rfl dX9_drawnAct_57 ?_
      refine lv_iconst (v := 2) C.1 C.2.1 dX9_drawnAct_60 (by decide) ?_
      obtain ⟨⟨x61, M61⟩, hc61, hf⟩ := fm_bd hf
      dsimp only at hf
      refine fm_callV C E [.int _] [.int _, .int _, .ref _] lm_X9_376 wk_X2_draw (c_Dice_draw l G _ _ _ _ hc61) hC_220 rfl rfl rfl hl.1 (by simp [Value.category]) ⟨⟨rfl, rfl⟩, by decide, by decide⟩ ⟨by decide, by decide⟩ dX9_drawnAct_61 rfl (fun H locs E => ?_)
      refine W.eq (g2 := F0 m 64 ls (.int x61 :: [.int _, .int _, .ref _])) rfl ?_
      obtain ⟨⟨x64, M64⟩, hc64, hf⟩ := fm_bd hf
      dsimp only at hf
      refine fm_callV C E [.int _, .int _, .int _] [] lm_X9_134 wk_X7_put (c_Scene_put l G _ _ _ _ _ _ hc64) hC_1 rfl rfl rfl hl.1 (by simp [Value.category]) ⟨⟨rfl, rfl⟩, by decide, by decide⟩ ⟨by decide, by decide⟩ dX9_drawnAct_64 rfl (fun H locs E => ?_)
      refine W.eq (g2 := F0 m 67 ls (.int x64 :: [])) rfl ?_
      refine lv_pop C.1 C.2.1 dX9_drawnAct_67 rfl ?_
      refine lv_goto (tgt := 93) C.1 C.2.1 dX9_drawnAct_68 (by decide) ?_
      obtain rfl := fm_rt1 hf
      exact fm_vret C E rfl dX9_drawnAct_93
  · have hf := fm_ip hf hc20
    refine lv_aload_n C.1 C.2.1 dX9_drawnAct_23 rfl (lv_at hl 2 rfl) ?_
    refine fm_getr C E lf_X9_10 hC_0 rfl dX9_drawnAct_24 ?_
    refine lv_iload_n C.1 C.2.1 dX9_drawnAct_27 rfl (lv_at hl 0 rfl) ?_
    refine lv_iconst (v := 2) C.1 C.2.1 dX9_drawnAct_28 (by decide) ?_
    refine lv_aload_n C.1 C.2.1 dX9_drawnAct_29 rfl (lv_at hl 2 rfl) ?_
    refine fm_getr C E lf_X9_87 hC_0 rfl dX9_drawnAct_30 ?_
    refine lv_bipush (v := 10) C.1 C.2.1 dX9_drawnAct_33 (by decide) ?_
    obtain ⟨⟨x35, M35⟩, hc35, hf⟩ := fm_bd hf
    dsimp only at hf
    refine fm_callV C E [.int _] [.int _, .int _, .ref _] lm_X9_376 wk_X2_draw (c_Dice_draw l G _ _ _ _ hc35) hC_220 rfl rfl rfl hl.1 (by simp [Value.category]) ⟨⟨rfl, rfl⟩, by decide, by decide⟩ ⟨by decide, by decide⟩ dX9_drawnAct_35 rfl (fun H locs E => ?_)
    refine W.eq (g2 := F0 m 38 ls (.int x35 :: [.int _, .int _, .ref _])) rfl ?_
    obtain ⟨⟨x38, M38⟩, hc38, hf⟩ := fm_bd hf
    dsimp only at hf
    refine fm_callV C E [.int _, .int _, .int _] [] lm_X9_134 wk_X7_put (c_Scene_put l G _ _ _ _ _ _ hc38) hC_1 rfl rfl rfl hl.1 (by simp [Value.category]) ⟨⟨rfl, rfl⟩, by decide, by decide⟩ ⟨by decide, by decide⟩ dX9_drawnAct_38 rfl (fun H locs E => ?_)
    refine W.eq (g2 := F0 m 41 ls (.int x38 :: [])) rfl ?_
    refine lv_pop C.1 C.2.1 dX9_drawnAct_41 rfl ?_
    refine lv_goto (tgt := 93) C.1 C.2.1 dX9_drawnAct_42 (by decide) ?_
    obtain rfl := fm_rt1 hf
    exact fm_vret C E rfl dX9_drawnAct_93
theorem dX9_settleChange_0 : decode cX9_settleChange 0 = .ok (.iload_n 1, 1) := by decide +kernel
theorem dX9_settleChange_1 : decode cX9_settleChange 1 = .ok (.ifCond .ge 17, 3) := by decide +kernel
theorem dX9_settleChange_4 : decode cX9_settleChange 4 = .ok (.aload_n 0, 1) := by decide +kernel
theorem dX9_settleChange_5 : decode cX9_settleChange 5 = .ok (.getfield 10, 3) := by decide +kernel
theorem dX9_settleChange_8 : decode cX9_settleChange 8 = .ok (.aload_n 0, 1) := by decide +kernel
theorem dX9_settleChange_9 : decode cX9_settleChange 9 = .ok (.getfield 16, 3) := by decide +kernel
theorem dX9_settleChange_12 : decode cX9_settleChange 12 = .ok (.invokevirtual 99, 3) := by decide +kernel
theorem dX9_settleChange_15 : decode cX9_settleChange 15 = .ok (.goto 14, 3) := by decide +kernel
theorem dX9_settleChange_18 : decode cX9_settleChange 18 = .ok (.aload_n 0, 1) := by decide +kernel
theorem dX9_settleChange_19 : decode cX9_settleChange 19 = .ok (.getfield 30, 3) := by decide +kernel
theorem dX9_settleChange_22 : decode cX9_settleChange 22 = .ok (.aload_n 0, 1) := by decide +kernel
theorem dX9_settleChange_23 : decode cX9_settleChange 23 = .ok (.getfield 16, 3) := by decide +kernel
theorem dX9_settleChange_26 : decode cX9_settleChange 26 = .ok (.invokevirtual 355, 3) := by decide +kernel
theorem dX9_settleChange_29 : decode cX9_settleChange 29 = .ok (.iload_n 1, 1) := by decide +kernel
theorem dX9_settleChange_30 : decode cX9_settleChange 30 = .ok (.ireturn, 1) := by decide +kernel
set_option maxHeartbeats 4000000 in
set_option maxRecDepth 100000 in
theorem c_MicRow_settleChange (l : Launch) (G : fm_G) (N : Nat) (M : fm_M) (v1 : Int32) (r : Int32) (M' : fm_M) (hf : pMicRow_settleChange N M v1 = some (r, M')) : fm_Met l yX9_settleChange cX9_settleChange 2 (some .int) { frames := 3, cells := 0, slots := 0, locals := 69 } shC G [.ref (G.2.1 0), .int v1] M (some (.int r)) M' := by
  refine fm_enter (by decide) (Nat.le_of_ble_eq_true rfl) ?_
  intro p e s m args below meth c ls C E hl
  have hl : lv_has ls 2 [(0, .ref (G.2.1 0)), (1, .int v1)] := hl
  unfold pMicRow_settleChange at hf
  refine lv_iload_n C.1 C.2.1 dX9_settleChange_0 rfl (lv_at hl 1 rfl) ?_
  refine lv_if_ge (tgt := 18) C.1 C.2.1 dX9_settleChange_1 (by decide) (fun hc1 => ?_) (fun hc1 => ?_)
  · have hf := fm_ip hf hc1
    refine lv_aload_n C.1 C.2.1 dX9_settleChange_18 rfl (lv_at hl 0 rfl) ?_
    refine fm_getr C E lf_X9_30 hC_0 rfl dX9_settleChange_19 ?_
    refine lv_aload_n C.1 C.2.1 dX9_settleChange_22 rfl (lv_at hl 0 rfl) ?_
    refine fm_getr C E lf_X9_16 hC_0 rfl dX9_settleChange_23 ?_
    obtain ⟨M26, hc26, hf⟩ := fm_bd hf
    refine fm_callV C E [.ref _] [] lm_X9_355 wk_X5_push (c_Past_push l G N _ _ hc26) hC_59 rfl rfl rfl hl.1 (by simp [Value.category]) ⟨⟨rfl, rfl⟩, by decide, by decide⟩ ⟨by decide, by decide⟩ dX9_settleChange_26 rfl (fun H locs E => ?_)
    refine W.eq (g2 := F0 m 29 ls []) rfl ?_
    refine lv_iload_n C.1 C.2.1 dX9_settleChange_29 rfl (lv_at hl 1 rfl) ?_
    obtain ⟨rfl, rfl⟩ := fm_rt2 hf
    exact fm_iret C E rfl rfl dX9_settleChange_30
  · have hf := fm_in' hf hc1
    refine lv_aload_n C.1 C.2.1 dX9_settleChange_4 rfl (lv_at hl 0 rfl) ?_
    refine fm_getr C E lf_X9_10 hC_0 rfl dX9_settleChange_5 ?_
    refine lv_aload_n C.1 C.2.1 dX9_settleChange_8 rfl (lv_at hl 0 rfl) ?_
    refine fm_getr C E lf_X9_16 hC_0 rfl dX9_settleChange_9 ?_
    obtain ⟨M12, hc12, hf⟩ := fm_bd hf
    refine fm_callV C E [.ref _] [] lm_X9_99 wk_X7_copyFrom (c_Scene_copyFrom l G N _ _ _ _ hc12) hC_1 rfl rfl rfl hl.1 (by simp [Value.category]) ⟨⟨rfl, rfl⟩, by decide, by decide⟩ ⟨by decide, by decide⟩ dX9_settleChange_12 rfl (fun H locs E => ?_)
    refine W.eq (g2 := F0 m 15 ls []) rfl ?_
    refine lv_goto (tgt := 29) C.1 C.2.1 dX9_settleChange_15 (by decide) ?_
    refine lv_iload_n C.1 C.2.1 dX9_settleChange_29 rfl (lv_at hl 1 rfl) ?_
    obtain ⟨rfl, rfl⟩ := fm_rt2 hf
    exact fm_iret C E rfl rfl dX9_settleChange_30
theorem dX9_equalFor_0 : decode cX9_equalFor 0 = .ok (.aload_n 0, 1) := by decide +kernel
theorem dX9_equalFor_1 : decode cX9_equalFor 1 = .ok (.getfield 71, 3) := by decide +kernel
theorem dX9_equalFor_4 : decode cX9_equalFor 4 = .ok (.aload_n 0, 1) := by decide +kernel
theorem dX9_equalFor_5 : decode cX9_equalFor 5 = .ok (.getfield 71, 3) := by decide +kernel
theorem dX9_equalFor_8 : decode cX9_equalFor 8 = .ok (.getfield 217, 3) := by decide +kernel
theorem dX9_equalFor_11 : decode cX9_equalFor 11 = .ok (.invokevirtual 236, 3) := by decide +kernel
theorem dX9_equalFor_14 : decode cX9_equalFor 14 = .ok (.istore_n 2, 1) := by decide +kernel
theorem dX9_equalFor_15 : decode cX9_equalFor 15 = .ok (.iload_n 2, 1) := by decide +kernel
theorem dX9_equalFor_16 : decode cX9_equalFor 16 = .ok (.ifCond .ne 9, 3) := by decide +kernel
theorem dX9_equalFor_19 : decode cX9_equalFor 19 = .ok (.getstatic 127, 3) := by decide +kernel
theorem dX9_equalFor_22 : decode cX9_equalFor 22 = .ok (.iconst 3, 1) := by decide +kernel
theorem dX9_equalFor_23 : decode cX9_equalFor 23 = .ok (.iaload, 1) := by decide +kernel
theorem dX9_equalFor_24 : decode cX9_equalFor 24 = .ok (.ireturn, 1) := by decide +kernel
theorem dX9_equalFor_25 : decode cX9_equalFor 25 = .ok (.bipush 100, 2) := by decide +kernel
theorem dX9_equalFor_27 : decode cX9_equalFor 27 = .ok (.iload_n 1, 1) := by decide +kernel
theorem dX9_equalFor_28 : decode cX9_equalFor 28 = .ok (.imul, 1) := by decide +kernel
theorem dX9_equalFor_29 : decode cX9_equalFor 29 = .ok (.iload_n 2, 1) := by decide +kernel
theorem dX9_equalFor_30 : decode cX9_equalFor 30 = .ok (.idiv, 1) := by decide +kernel
theorem dX9_equalFor_31 : decode cX9_equalFor 31 = .ok (.getstatic 123, 3) := by decide +kernel
theorem dX9_equalFor_34 : decode cX9_equalFor 34 = .ok (.iconst 3, 1) := by decide +kernel
theorem dX9_equalFor_35 : decode cX9_equalFor 35 = .ok (.iaload, 1) := by decide +kernel
theorem dX9_equalFor_36 : decode cX9_equalFor 36 = .ok (.getstatic 127, 3) := by decide +kernel
theorem dX9_equalFor_39 : decode cX9_equalFor 39 = .ok (.iconst 3, 1) := by decide +kernel
theorem dX9_equalFor_40 : decode cX9_equalFor 40 = .ok (.iaload, 1) := by decide +kernel
theorem dX9_equalFor_41 : decode cX9_equalFor 41 = .ok (.invokestatic 130, 3) := by decide +kernel
theorem dX9_equalFor_44 : decode cX9_equalFor 44 = .ok (.ireturn, 1) := by decide +kernel
set_option maxHeartbeats 4000000 in
set_option maxRecDepth 100000 in
theorem c_MicRow_equalFor (l : Launch) (G : fm_G) (N : Nat) (M : fm_M) (v1 : Int32) (r : Int32) (hf : pMicRow_equalFor N M v1 = some r) : fm_Met l yX9_equalFor cX9_equalFor 3 (some .int) { frames := 2, cells := 0, slots := 0, locals := 44 } shC G [.ref (G.2.1 0), .int v1] M (some (.int r)) M := by
  refine fm_enter (by decide) (Nat.le_of_ble_eq_true rfl) ?_
  intro p e s m args below meth c ls C E hl
  have hl : lv_has ls 3 [(0, .ref (G.2.1 0)), (1, .int v1)] := hl
  unfold pMicRow_equalFor at hf
  refine lv_aload_n C.1 C.2.1 dX9_equalFor_0 rfl (lv_at hl 0 rfl) ?_
  refine fm_getr C E lf_X9_71 hC_0 rfl dX9_equalFor_1 ?_
  refine lv_aload_n C.1 C.2.1 dX9_equalFor_4 rfl (lv_at hl 0 rfl) ?_
  refine fm_getr C E lf_X9_71 hC_0 rfl dX9_equalFor_5 ?_
  refine fm_getr C E lf_X9_217 hC_181 rfl dX9_equalFor_8 ?_
  obtain ⟨x11, hc11, hf⟩ := fm_bd hf
  refine fm_callV C E [.ref _] [] lm_X9_236 wk_X0_levelOf (c_Bench_levelOf l G N _ _ _  hc11) hC_181 rfl rfl rfl hl.1 (by simp [Value.category]) ⟨⟨rfl, rfl⟩, by decide, by decide⟩ ⟨by decide, by decide⟩ dX9_equalFor_11 rfl (fun H locs E => ?_)
  refine W.eq (g2 := F0 m 14 ls (.int x11 :: [])) rfl ?_
  refine lv_istore_n (lv' := [(2, .int _), (0, .ref _), (1, .int _)]) C.1 C.2.1 dX9_equalFor_14 rfl hl (by decide) rfl (fun ls hl => ?_)
  refine lv_iload_n C.1 C.2.1 dX9_equalFor_15 rfl (lv_at hl 0 rfl) ?_
  refine lv_if_ne (tgt := 25) C.1 C.2.1 dX9_equalFor_16 (by decide) (fun hc16 => ?_) (fun hc16 => ?_)
  · have hf := fm_in' hf hc16
    refine lv_bipush (v := 100) C.1 C.2.1 dX9_equalFor_25 (by decide) ?_
    refine lv_iload_n C.1 C.2.1 dX9_equalFor_27 rfl (lv_at hl 2 rfl) ?_
    refine lv_imul C.1 C.2.1 dX9_equalFor_28 ?_
    refine lv_iload_n C.1 C.2.1 dX9_equalFor_29 rfl (lv_at hl 0 rfl) ?_
    obtain ⟨hz30, hf⟩ := fm_nz_s hf
    refine lv_idiv C.1 C.2.1 dX9_equalFor_30 hz30 ?_
    refine fm_gets C E (List.mem_of_getElem? (l := fm_Zs) (i := 0) rfl) (Or.inl wf_445) dX9_equalFor_31 (fun t31 hT31 => ?_)
    refine lv_iconst (v := 3) C.1 C.2.1 dX9_equalFor_34 (by decide) ?_
    refine fm_tldc C E hT31 1 (by decide) (by decide) dX9_equalFor_35 ?_
    refine fm_gets C E (List.mem_of_getElem? (l := fm_Zs) (i := 1) rfl) (Or.inl wf_447) dX9_equalFor_36 (fun t36 hT36 => ?_)
    refine lv_iconst (v := 3) C.1 C.2.1 dX9_equalFor_39 (by decide) ?_
    refine fm_tldc C E hT36 200 (by decide) (by decide) dX9_equalFor_40 ?_
    obtain ⟨x41, hc41, hf⟩ := fm_bd hf
    refine fm_callS C E [.int _, .int _, .int _] [] lm_X9_130 wk_X9_clamp (c_MicRow_clamp l G _ _ _ _ _  hc41) rfl hl.1 (by simp [Value.category]) ⟨⟨rfl, rfl⟩, by decide, by decide⟩ ⟨by decide, by decide⟩ dX9_equalFor_41 rfl (fun H locs E => ?_)
    refine W.eq (g2 := F0 m 44 ls (.int x41 :: [])) rfl ?_
    obtain rfl := fm_rt1 hf
    exact fm_iret C E rfl rfl dX9_equalFor_44
  · have hf := fm_ip hf hc16
    refine fm_gets C E (List.mem_of_getElem? (l := fm_Zs) (i := 1) rfl) (Or.inl wf_447) dX9_equalFor_19 (fun t19 hT19 => ?_)
    refine lv_iconst (v := 3) C.1 C.2.1 dX9_equalFor_22 (by decide) ?_
    refine fm_tldc C E hT19 200 (by decide) (by decide) dX9_equalFor_23 ?_
    obtain rfl := fm_rt1 hf
    exact fm_iret C E rfl rfl dX9_equalFor_24
theorem dX9_keep_0 : decode cX9_keep 0 = .ok (.iload_n 1, 1) := by decide +kernel
theorem dX9_keep_1 : decode cX9_keep 1 = .ok (.iconst 0, 1) := by decide +kernel
theorem dX9_keep_2 : decode cX9_keep 2 = .ok (.iconst 1, 1) := by decide +kernel
theorem dX9_keep_3 : decode cX9_keep 3 = .ok (.invokestatic 112, 3) := by decide +kernel
theorem dX9_keep_6 : decode cX9_keep 6 = .ok (.ifCond .ne 5, 3) := by decide +kernel
theorem dX9_keep_9 : decode cX9_keep 9 = .ok (.iconst 0, 1) := by decide +kernel
theorem dX9_keep_10 : decode cX9_keep 10 = .ok (.ireturn, 1) := by decide +kernel
theorem dX9_keep_11 : decode cX9_keep 11 = .ok (.aload_n 0, 1) := by decide +kernel
theorem dX9_keep_12 : decode cX9_keep 12 = .ok (.getfield 19, 3) := by decide +kernel
theorem dX9_keep_15 : decode cX9_keep 15 = .ok (.iload_n 1, 1) := by decide +kernel
theorem dX9_keep_16 : decode cX9_keep 16 = .ok (.aaload, 1) := by decide +kernel
theorem dX9_keep_17 : decode cX9_keep 17 = .ok (.aload_n 0, 1) := by decide +kernel
theorem dX9_keep_18 : decode cX9_keep 18 = .ok (.getfield 10, 3) := by decide +kernel
theorem dX9_keep_21 : decode cX9_keep 21 = .ok (.invokevirtual 99, 3) := by decide +kernel
theorem dX9_keep_24 : decode cX9_keep 24 = .ok (.aload_n 0, 1) := by decide +kernel
theorem dX9_keep_25 : decode cX9_keep 25 = .ok (.getfield 23, 3) := by decide +kernel
theorem dX9_keep_28 : decode cX9_keep 28 = .ok (.iload_n 1, 1) := by decide +kernel
theorem dX9_keep_29 : decode cX9_keep 29 = .ok (.iconst 1, 1) := by decide +kernel
theorem dX9_keep_30 : decode cX9_keep 30 = .ok (.bastore, 1) := by decide +kernel
theorem dX9_keep_31 : decode cX9_keep 31 = .ok (.iconst 1, 1) := by decide +kernel
theorem dX9_keep_32 : decode cX9_keep 32 = .ok (.ireturn, 1) := by decide +kernel
set_option maxHeartbeats 4000000 in
set_option maxRecDepth 100000 in
theorem c_MicRow_keep (l : Launch) (G : fm_G) (N : Nat) (M : fm_M) (v1 : Int32) (r : Int32) (M' : fm_M) (hf : pMicRow_keep N M v1 = some (r, M')) : fm_Met l yX9_keep cX9_keep 2 (some .boolean) { frames := 2, cells := 0, slots := 0, locals := 48 } shC G [.ref (G.2.1 0), .int v1] M (some (.int r)) M' := by
  refine fm_enter (by decide) (Nat.le_of_ble_eq_true rfl) ?_
  intro p e s m args below meth c ls C E hl
  have hl : lv_has ls 2 [(0, .ref (G.2.1 0)), (1, .int v1)] := hl
  unfold pMicRow_keep at hf
  refine lv_iload_n C.1 C.2.1 dX9_keep_0 rfl (lv_at hl 1 rfl) ?_
  refine lv_iconst (v := 0) C.1 C.2.1 dX9_keep_1 (by decide) ?_
  refine lv_iconst (v := 1) C.1 C.2.1 dX9_keep_2 (by decide) ?_
  obtain ⟨x3, hc3, hf⟩ := fm_bd hf
  refine fm_callS C E [.int _, .int _, .int _] [] lm_X9_112 wk_X9_within (c_MicRow_within l G _ _ _ _ _  hc3) rfl hl.1 (by simp [Value.category]) ⟨⟨rfl, rfl⟩, by decide, by decide⟩ ⟨by decide, by decide⟩ dX9_keep_3 rfl (fun H locs E => ?_)
  refine W.eq (g2 := F0 m 6 ls (.int x3 :: [])) rfl ?_
  refine lv_if_ne (tgt := 11) C.1 C.2.1 dX9_keep_6 (by decide) (fun hc6 => ?_) (fun hc6 => ?_)
  · have hf := fm_in' hf hc6
    refine lv_aload_n C.1 C.2.1 dX9_keep_11 rfl (lv_at hl 0 rfl) ?_
    refine fm_getr C E lf_X9_19 hC_0 rfl dX9_keep_12 ?_
    refine lv_iload_n C.1 C.2.1 dX9_keep_15 rfl (lv_at hl 1 rfl) ?_
    obtain ⟨h16, q16, e16, hf⟩ := fm_ix_e hf
    refine fm_sald C E hC_29 h16 (r := q16) (by rw [e16]; exact rC_kept _ (fm_in_lt h16)) dX9_keep_16 ?_
    refine lv_aload_n C.1 C.2.1 dX9_keep_17 rfl (lv_at hl 0 rfl) ?_
    refine fm_getr C E lf_X9_10 hC_0 rfl dX9_keep_18 ?_
    obtain ⟨M21, hc21, hf⟩ := fm_bd hf
    refine fm_callV C E [.ref _] [] lm_X9_99 wk_X7_copyFrom (c_Scene_copyFrom l G N _ _ _ _ hc21) (fm_sc_at (fm_cf_s hc21)) rfl rfl rfl hl.1 (by simp [Value.category]) ⟨⟨rfl, rfl⟩, by decide, by decide⟩ ⟨by decide, by decide⟩ dX9_keep_21 rfl (fun H locs E => ?_)
    refine W.eq (g2 := F0 m 24 ls []) rfl ?_
    refine lv_aload_n C.1 C.2.1 dX9_keep_24 rfl (lv_at hl 0 rfl) ?_
    refine fm_getr C E lf_X9_23 hC_0 rfl dX9_keep_25 ?_
    refine lv_iload_n C.1 C.2.1 dX9_keep_28 rfl (lv_at hl 1 rfl) ?_
    refine lv_iconst (v := 1) C.1 C.2.1 dX9_keep_29 (by decide) ?_
    obtain ⟨h30, M30, e30, hf⟩ := fm_st_e hf
    refine fm_zast' C E e30 hC_58 h30 dX9_keep_30 (fun H locs E => ?_)
    refine lv_iconst (v := 1) C.1 C.2.1 dX9_keep_31 (by decide) ?_
    obtain ⟨rfl, rfl⟩ := fm_rt2 hf
    exact fm_iret C E rfl rfl dX9_keep_32
  · have hf := fm_ip hf hc6
    refine lv_iconst (v := 0) C.1 C.2.1 dX9_keep_9 (by decide) ?_
    obtain ⟨rfl, rfl⟩ := fm_rt2 hf
    exact fm_iret C E rfl rfl dX9_keep_10
theorem dX9_again_0 : decode cX9_again 0 = .ok (.iload_n 1, 1) := by decide +kernel
theorem dX9_again_1 : decode cX9_again 1 = .ok (.iconst 0, 1) := by decide +kernel
theorem dX9_again_2 : decode cX9_again 2 = .ok (.iconst 1, 1) := by decide +kernel
theorem dX9_again_3 : decode cX9_again 3 = .ok (.invokestatic 112, 3) := by decide +kernel
theorem dX9_again_6 : decode cX9_again 6 = .ok (.ifCond .eq 12, 3) := by decide +kernel
theorem dX9_again_9 : decode cX9_again 9 = .ok (.aload_n 0, 1) := by decide +kernel
theorem dX9_again_10 : decode cX9_again 10 = .ok (.getfield 23, 3) := by decide +kernel
theorem dX9_again_13 : decode cX9_again 13 = .ok (.iload_n 1, 1) := by decide +kernel
theorem dX9_again_14 : decode cX9_again 14 = .ok (.baload, 1) := by decide +kernel
theorem dX9_again_15 : decode cX9_again 15 = .ok (.ifCond .ne 5, 3) := by decide +kernel
theorem dX9_again_18 : decode cX9_again 18 = .ok (.iconst 0, 1) := by decide +kernel
theorem dX9_again_19 : decode cX9_again 19 = .ok (.ireturn, 1) := by decide +kernel
theorem dX9_again_20 : decode cX9_again 20 = .ok (.aload_n 0, 1) := by decide +kernel
theorem dX9_again_21 : decode cX9_again 21 = .ok (.getfield 10, 3) := by decide +kernel
theorem dX9_again_24 : decode cX9_again 24 = .ok (.aload_n 0, 1) := by decide +kernel
theorem dX9_again_25 : decode cX9_again 25 = .ok (.getfield 19, 3) := by decide +kernel
theorem dX9_again_28 : decode cX9_again 28 = .ok (.iload_n 1, 1) := by decide +kernel
theorem dX9_again_29 : decode cX9_again 29 = .ok (.aaload, 1) := by decide +kernel
theorem dX9_again_30 : decode cX9_again 30 = .ok (.invokevirtual 99, 3) := by decide +kernel
theorem dX9_again_33 : decode cX9_again 33 = .ok (.aload_n 0, 1) := by decide +kernel
theorem dX9_again_34 : decode cX9_again 34 = .ok (.getfield 30, 3) := by decide +kernel
theorem dX9_again_37 : decode cX9_again 37 = .ok (.invokevirtual 385, 3) := by decide +kernel
theorem dX9_again_40 : decode cX9_again 40 = .ok (.iconst 1, 1) := by decide +kernel
theorem dX9_again_41 : decode cX9_again 41 = .ok (.ireturn, 1) := by decide +kernel
set_option maxHeartbeats 4000000 in
set_option maxRecDepth 100000 in
theorem c_MicRow_again (l : Launch) (G : fm_G) (N : Nat) (M : fm_M) (v1 : Int32) (r : Int32) (M' : fm_M) (hf : pMicRow_again N M v1 = some (r, M')) : fm_Met l yX9_again cX9_again 2 (some .boolean) { frames := 2, cells := 0, slots := 0, locals := 48 } shC G [.ref (G.2.1 0), .int v1] M (some (.int r)) M' := by
  refine fm_enter (by decide) (Nat.le_of_ble_eq_true rfl) ?_
  intro p e s m args below meth c ls C E hl
  have hl : lv_has ls 2 [(0, .ref (G.2.1 0)), (1, .int v1)] := hl
  unfold pMicRow_again at hf
  refine lv_iload_n C.1 C.2.1 dX9_again_0 rfl (lv_at hl 1 rfl) ?_
  refine lv_iconst (v := 0) C.1 C.2.1 dX9_again_1 (by decide) ?_
  refine lv_iconst (v := 1) C.1 C.2.1 dX9_again_2 (by decide) ?_
  obtain ⟨x3, hc3, hf⟩ := fm_bd hf
  refine fm_callS C E [.int _, .int _, .int _] [] lm_X9_112 wk_X9_within (c_MicRow_within l G _ _ _ _ _  hc3) rfl hl.1 (by simp [Value.category]) ⟨⟨rfl, rfl⟩, by decide, by decide⟩ ⟨by decide, by decide⟩ dX9_again_3 rfl (fun H locs E => ?_)
  refine W.eq (g2 := F0 m 6 ls (.int x3 :: [])) rfl ?_
  refine lv_if_eq (tgt := 18) C.1 C.2.1 dX9_again_6 (by decide) (fun hc6 => ?_) (fun hc6 => ?_)
  · have hf := fm_ip hf hc6
    refine lv_iconst (v := 0) C.1 C.2.1 dX9_again_18 (by decide) ?_
    obtain ⟨rfl, rfl⟩ := fm_rt2 hf
    exact fm_iret C E rfl rfl dX9_again_19
  · have hf := fm_in' hf hc6
    refine lv_aload_n C.1 C.2.1 dX9_again_9 rfl (lv_at hl 0 rfl) ?_
    refine fm_getr C E lf_X9_23 hC_0 rfl dX9_again_10 ?_
    refine lv_iload_n C.1 C.2.1 dX9_again_13 rfl (lv_at hl 1 rfl) ?_
    obtain ⟨h14, x14, e14, hf⟩ := fm_ld_e hf
    refine fm_zald' C E e14 hC_58 h14 dX9_again_14 ?_
    refine lv_if_ne (tgt := 20) C.1 C.2.1 dX9_again_15 (by decide) (fun hc15 => ?_) (fun hc15 => ?_)
    · have hf := fm_in' hf hc15
      refine lv_aload_n C.1 C.2.1 dX9_again_20 rfl (lv_at hl 0 rfl) ?_
      refine fm_getr C E lf_X9_10 hC_0 rfl dX9_again_21 ?_
      refine lv_aload_n C.1 C.2.1 dX9_again_24 rfl (lv_at hl 0 rfl) ?_
      refine fm_getr C E lf_X9_19 hC_0 rfl dX9_again_25 ?_
      refine lv_iload_n C.1 C.2.1 dX9_again_28 rfl (lv_at hl 1 rfl) ?_
      obtain ⟨h29, q29, e29, hf⟩ := fm_ix_e hf
      refine fm_sald C E hC_29 h29 (r := q29) (by rw [e29]; exact rC_kept _ (fm_in_lt h29)) dX9_again_29 ?_
      obtain ⟨M30, hc30, hf⟩ := fm_bd hf
      refine fm_callV C E [.ref _] [] lm_X9_99 wk_X7_copyFrom (c_Scene_copyFrom l G N _ _ _ _ hc30) hC_1 rfl rfl rfl hl.1 (by simp [Value.category]) ⟨⟨rfl, rfl⟩, by decide, by decide⟩ ⟨by decide, by decide⟩ dX9_again_30 rfl (fun H locs E => ?_)
      refine W.eq (g2 := F0 m 33 ls []) rfl ?_
      refine lv_aload_n C.1 C.2.1 dX9_again_33 rfl (lv_at hl 0 rfl) ?_
      refine fm_getr C E lf_X9_30 hC_0 rfl dX9_again_34 ?_
      obtain ⟨M37, hc37, hf⟩ := fm_bd hf
      refine fm_callV C E [] [] lm_X9_385 wk_X5_forget (c_Past_forget l G _ _ hc37) hC_59 rfl rfl rfl hl.1 (by simp [Value.category]) ⟨⟨rfl, rfl⟩, by decide, by decide⟩ ⟨by decide, by decide⟩ dX9_again_37 rfl (fun H locs E => ?_)
      refine W.eq (g2 := F0 m 40 ls []) rfl ?_
      refine lv_iconst (v := 1) C.1 C.2.1 dX9_again_40 (by decide) ?_
      obtain ⟨rfl, rfl⟩ := fm_rt2 hf
      exact fm_iret C E rfl rfl dX9_again_41
    · have hf := fm_ip hf hc15
      refine lv_iconst (v := 0) C.1 C.2.1 dX9_again_18 (by decide) ?_
      obtain ⟨rfl, rfl⟩ := fm_rt2 hf
      exact fm_iret C E rfl rfl dX9_again_19
theorem dX9_signOf_0 : decode cX9_signOf 0 = .ok (.iload_n 0, 1) := by decide +kernel
theorem dX9_signOf_1 : decode cX9_signOf 1 = .ok (.iconst 0, 1) := by decide +kernel
theorem dX9_signOf_2 : decode cX9_signOf 2 = .ok (.invokestatic 402, 3) := by decide +kernel
theorem dX9_signOf_5 : decode cX9_signOf 5 = .ok (.ireturn, 1) := by decide +kernel
set_option maxHeartbeats 4000000 in
set_option maxRecDepth 100000 in
theorem c_MicRow_signOf (l : Launch) (G : fm_G) (M : fm_M) (v0 : Int32) (r : Int32) (hf : pMicRow_signOf M v0 = some r) : fm_Met l yX9_signOf cX9_signOf 1 (some .int) { frames := 1, cells := 0, slots := 0, locals := 21 } shC G [.int v0] M (some (.int r)) M := by
  refine fm_enter (by decide) (Nat.le_of_ble_eq_true rfl) ?_
  intro p e s m args below meth c ls C E hl
  have hl : lv_has ls 1 [(0, .int v0)] := hl
  unfold pMicRow_signOf at hf
  refine lv_iload_n C.1 C.2.1 dX9_signOf_0 rfl (lv_at hl 0 rfl) ?_
  refine lv_iconst (v := 0) C.1 C.2.1 dX9_signOf_1 (by decide) ?_
  obtain ⟨x2, hc2, hf⟩ := fm_bd hf
  refine fm_callS C E [.int _, .int _] [] lm_X9_402 wk_J6_compare_7cf53 (c_Integer_compare l G _ _ _ _  hc2) rfl hl.1 (by simp [Value.category]) ⟨⟨rfl, rfl⟩, by decide, by decide⟩ ⟨by decide, by decide⟩ dX9_signOf_2 rfl (fun H locs E => ?_)
  refine W.eq (g2 := F0 m 5 ls (.int x2 :: [])) rfl ?_
  obtain rfl := fm_rt1 hf
  exact fm_iret C E rfl rfl dX9_signOf_5
theorem dX10_mics_0 : decode cX10_mics 0 = .ok (.aload_n 0, 1) := by decide +kernel
theorem dX10_mics_1 : decode cX10_mics 1 = .ok (.iconst 0, 1) := by decide +kernel
theorem dX10_mics_2 : decode cX10_mics 2 = .ok (.putfield 77, 3) := by decide +kernel
theorem dX10_mics_5 : decode cX10_mics 5 = .ok (.aload_n 0, 1) := by decide +kernel
theorem dX10_mics_6 : decode cX10_mics 6 = .ok (.invokevirtual 115, 3) := by decide +kernel
theorem dX10_mics_9 : decode cX10_mics 9 = .ok (.iconst 0, 1) := by decide +kernel
theorem dX10_mics_10 : decode cX10_mics 10 = .ok (.istore_n 1, 1) := by decide +kernel
theorem dX10_mics_11 : decode cX10_mics 11 = .ok (.aload_n 0, 1) := by decide +kernel
theorem dX10_mics_12 : decode cX10_mics 12 = .ok (.getfield 90, 3) := by decide +kernel
theorem dX10_mics_15 : decode cX10_mics 15 = .ok (.ifCond .le 7, 3) := by decide +kernel
theorem dX10_mics_18 : decode cX10_mics 18 = .ok (.iconst 1, 1) := by decide +kernel
theorem dX10_mics_19 : decode cX10_mics 19 = .ok (.goto 4, 3) := by decide +kernel
theorem dX10_mics_22 : decode cX10_mics 22 = .ok (.iconst 0, 1) := by decide +kernel
theorem dX10_mics_23 : decode cX10_mics 23 = .ok (.istore_n 2, 1) := by decide +kernel
theorem dX10_mics_24 : decode cX10_mics 24 = .ok (.iload_n 2, 1) := by decide +kernel
theorem dX10_mics_25 : decode cX10_mics 25 = .ok (.ifCond .eq 87, 3) := by decide +kernel
theorem dX10_mics_28 : decode cX10_mics 28 = .ok (.iload_n 1, 1) := by decide +kernel
theorem dX10_mics_29 : decode cX10_mics 29 = .ok (.bipush 6, 2) := by decide +kernel
theorem dX10_mics_31 : decode cX10_mics 31 = .ok (.if_icmp .ne 13, 3) := by decide +kernel
theorem dX10_mics_34 : decode cX10_mics 34 = .ok (.aload_n 0, 1) := by decide +kernel
theorem dX10_mics_35 : decode cX10_mics 35 = .ok (.aload_n 0, 1) := by decide +kernel
theorem dX10_mics_36 : decode cX10_mics 36 = .ok (.getfield 93, 3) := by decide +kernel
theorem dX10_mics_39 : decode cX10_mics 39 = .ok (.iconst 1, 1) := by decide +kernel
theorem dX10_mics_40 : decode cX10_mics 40 = .ok (.isub, 1) := by decide +kernel
theorem dX10_mics_41 : decode cX10_mics 41 = .ok (.invokevirtual 107, 3) := by decide +kernel
theorem dX10_mics_44 : decode cX10_mics 44 = .ok (.aload_n 0, 1) := by decide +kernel
theorem dX10_mics_45 : decode cX10_mics 45 = .ok (.iconst 2, 1) := by decide +kernel
theorem dX10_mics_46 : decode cX10_mics 46 = .ok (.invokevirtual 118, 3) := by decide +kernel
theorem dX10_mics_49 : decode cX10_mics 49 = .ok (.istore_n 3, 1) := by decide +kernel
theorem dX10_mics_50 : decode cX10_mics 50 = .ok (.aload_n 0, 1) := by decide +kernel
theorem dX10_mics_51 : decode cX10_mics 51 = .ok (.invokevirtual 99, 3) := by decide +kernel
theorem dX10_mics_54 : decode cX10_mics 54 = .ok (.ifCond .eq 38, 3) := by decide +kernel
theorem dX10_mics_57 : decode cX10_mics 57 = .ok (.iload_n 3, 1) := by decide +kernel
theorem dX10_mics_58 : decode cX10_mics 58 = .ok (.getstatic 122, 3) := by decide +kernel
theorem dX10_mics_61 : decode cX10_mics 61 = .ok (.iconst 0, 1) := by decide +kernel
theorem dX10_mics_62 : decode cX10_mics 62 = .ok (.iaload, 1) := by decide +kernel
theorem dX10_mics_63 : decode cX10_mics 63 = .ok (.if_icmp .gt 19, 3) := by decide +kernel
theorem dX10_mics_66 : decode cX10_mics 66 = .ok (.iload_n 1, 1) := by decide +kernel
theorem dX10_mics_67 : decode cX10_mics 67 = .ok (.ifCond .le 25, 3) := by decide +kernel
theorem dX10_mics_70 : decode cX10_mics 70 = .ok (.iload_n 3, 1) := by decide +kernel
theorem dX10_mics_71 : decode cX10_mics 71 = .ok (.aload_n 0, 1) := by decide +kernel
theorem dX10_mics_72 : decode cX10_mics 72 = .ok (.getfield 21, 3) := by decide +kernel
theorem dX10_mics_75 : decode cX10_mics 75 = .ok (.iload_n 1, 1) := by decide +kernel
theorem dX10_mics_76 : decode cX10_mics 76 = .ok (.iconst 1, 1) := by decide +kernel
theorem dX10_mics_77 : decode cX10_mics 77 = .ok (.isub, 1) := by decide +kernel
theorem dX10_mics_78 : decode cX10_mics 78 = .ok (.iaload, 1) := by decide +kernel
theorem dX10_mics_79 : decode cX10_mics 79 = .ok (.if_icmp .gt 13, 3) := by decide +kernel
theorem dX10_mics_82 : decode cX10_mics 82 = .ok (.aload_n 0, 1) := by decide +kernel
theorem dX10_mics_83 : decode cX10_mics 83 = .ok (.aload_n 0, 1) := by decide +kernel
theorem dX10_mics_84 : decode cX10_mics 84 = .ok (.getfield 93, 3) := by decide +kernel
theorem dX10_mics_87 : decode cX10_mics 87 = .ok (.iconst 1, 1) := by decide +kernel
theorem dX10_mics_88 : decode cX10_mics 88 = .ok (.isub, 1) := by decide +kernel
theorem dX10_mics_89 : decode cX10_mics 89 = .ok (.invokevirtual 107, 3) := by decide +kernel
theorem dX10_mics_92 : decode cX10_mics 92 = .ok (.aload_n 0, 1) := by decide +kernel
theorem dX10_mics_93 : decode cX10_mics 93 = .ok (.getfield 21, 3) := by decide +kernel
theorem dX10_mics_96 : decode cX10_mics 96 = .ok (.iload_n 1, 1) := by decide +kernel
theorem dX10_mics_97 : decode cX10_mics 97 = .ok (.iload_n 3, 1) := by decide +kernel
theorem dX10_mics_98 : decode cX10_mics 98 = .ok (.iastore, 1) := by decide +kernel
theorem dX10_mics_99 : decode cX10_mics 99 = .ok (.iinc 1 1, 3) := by decide +kernel
theorem dX10_mics_102 : decode cX10_mics 102 = .ok (.aload_n 0, 1) := by decide +kernel
theorem dX10_mics_103 : decode cX10_mics 103 = .ok (.bipush 44, 2) := by decide +kernel
theorem dX10_mics_105 : decode cX10_mics 105 = .ok (.invokevirtual 125, 3) := by decide +kernel
theorem dX10_mics_108 : decode cX10_mics 108 = .ok (.istore_n 2, 1) := by decide +kernel
theorem dX10_mics_109 : decode cX10_mics 109 = .ok (.goto (-85), 3) := by decide +kernel
theorem dX10_mics_112 : decode cX10_mics 112 = .ok (.aload_n 0, 1) := by decide +kernel
theorem dX10_mics_113 : decode cX10_mics 113 = .ok (.invokevirtual 129, 3) := by decide +kernel
theorem dX10_mics_116 : decode cX10_mics 116 = .ok (.ifCond .ne 10, 3) := by decide +kernel
theorem dX10_mics_119 : decode cX10_mics 119 = .ok (.iconst (-1), 1) := by decide +kernel
theorem dX10_mics_120 : decode cX10_mics 120 = .ok (.aload_n 0, 1) := by decide +kernel
theorem dX10_mics_121 : decode cX10_mics 121 = .ok (.getfield 96, 3) := by decide +kernel
theorem dX10_mics_124 : decode cX10_mics 124 = .ok (.isub, 1) := by decide +kernel
theorem dX10_mics_125 : decode cX10_mics 125 = .ok (.ireturn, 1) := by decide +kernel
theorem dX10_mics_126 : decode cX10_mics 126 = .ok (.aload_n 0, 1) := by decide +kernel
theorem dX10_mics_127 : decode cX10_mics 127 = .ok (.invokevirtual 132, 3) := by decide +kernel
theorem dX10_mics_130 : decode cX10_mics 130 = .ok (.aload_n 0, 1) := by decide +kernel
theorem dX10_mics_131 : decode cX10_mics 131 = .ok (.getfield 9, 3) := by decide +kernel
theorem dX10_mics_134 : decode cX10_mics 134 = .ok (.iconst 0, 1) := by decide +kernel
theorem dX10_mics_135 : decode cX10_mics 135 = .ok (.iload_n 1, 1) := by decide +kernel
theorem dX10_mics_136 : decode cX10_mics 136 = .ok (.iastore, 1) := by decide +kernel
theorem dX10_mics_137 : decode cX10_mics 137 = .ok (.iconst 0, 1) := by decide +kernel
theorem dX10_mics_138 : decode cX10_mics 138 = .ok (.istore_n 3, 1) := by decide +kernel
theorem dX10_mics_139 : decode cX10_mics 139 = .ok (.iload_n 3, 1) := by decide +kernel
theorem dX10_mics_140 : decode cX10_mics 140 = .ok (.bipush 6, 2) := by decide +kernel
theorem dX10_mics_142 : decode cX10_mics 142 = .ok (.if_icmp .ge 97, 3) := by decide +kernel
theorem dX10_mics_145 : decode cX10_mics 145 = .ok (.iconst 0, 1) := by decide +kernel
theorem dX10_mics_146 : decode cX10_mics 146 = .ok (.istore 4, 2) := by decide +kernel
theorem dX10_mics_148 : decode cX10_mics 148 = .ok (.iload 4, 2) := by decide +kernel
theorem dX10_mics_150 : decode cX10_mics 150 = .ok (.bipush 6, 2) := by decide +kernel
theorem dX10_mics_152 : decode cX10_mics 152 = .ok (.if_icmp .ge 24, 3) := by decide +kernel
theorem dX10_mics_155 : decode cX10_mics 155 = .ok (.aload_n 0, 1) := by decide +kernel
theorem dX10_mics_156 : decode cX10_mics 156 = .ok (.getfield 9, 3) := by decide +kernel
theorem dX10_mics_159 : decode cX10_mics 159 = .ok (.iconst 1, 1) := by decide +kernel
theorem dX10_mics_160 : decode cX10_mics 160 = .ok (.bipush 6, 2) := by decide +kernel
theorem dX10_mics_162 : decode cX10_mics 162 = .ok (.iload_n 3, 1) := by decide +kernel
theorem dX10_mics_163 : decode cX10_mics 163 = .ok (.imul, 1) := by decide +kernel
theorem dX10_mics_164 : decode cX10_mics 164 = .ok (.iadd, 1) := by decide +kernel
theorem dX10_mics_165 : decode cX10_mics 165 = .ok (.iload 4, 2) := by decide +kernel
theorem dX10_mics_167 : decode cX10_mics 167 = .ok (.iadd, 1) := by decide +kernel
theorem dX10_mics_168 : decode cX10_mics 168 = .ok (.iconst 0, 1) := by decide +kernel
theorem dX10_mics_169 : decode cX10_mics 169 = .ok (.iastore, 1) := by decide +kernel
theorem dX10_mics_170 : decode cX10_mics 170 = .ok (.iinc 4 1, 3) := by decide +kernel
theorem dX10_mics_173 : decode cX10_mics 173 = .ok (.goto (-25), 3) := by decide +kernel
theorem dX10_mics_176 : decode cX10_mics 176 = .ok (.iload_n 3, 1) := by decide +kernel
theorem dX10_mics_177 : decode cX10_mics 177 = .ok (.iload_n 1, 1) := by decide +kernel
theorem dX10_mics_178 : decode cX10_mics 178 = .ok (.if_icmp .lt 6, 3) := by decide +kernel
theorem dX10_mics_181 : decode cX10_mics 181 = .ok (.goto 52, 3) := by decide +kernel
theorem dX10_mics_184 : decode cX10_mics 184 = .ok (.aload_n 0, 1) := by decide +kernel
theorem dX10_mics_185 : decode cX10_mics 185 = .ok (.getfield 9, 3) := by decide +kernel
theorem dX10_mics_188 : decode cX10_mics 188 = .ok (.iconst 1, 1) := by decide +kernel
theorem dX10_mics_189 : decode cX10_mics 189 = .ok (.bipush 6, 2) := by decide +kernel
theorem dX10_mics_191 : decode cX10_mics 191 = .ok (.iload_n 3, 1) := by decide +kernel
theorem dX10_mics_192 : decode cX10_mics 192 = .ok (.imul, 1) := by decide +kernel
theorem dX10_mics_193 : decode cX10_mics 193 = .ok (.iadd, 1) := by decide +kernel
theorem dX10_mics_194 : decode cX10_mics 194 = .ok (.iconst 0, 1) := by decide +kernel
theorem dX10_mics_195 : decode cX10_mics 195 = .ok (.iadd, 1) := by decide +kernel
theorem dX10_mics_196 : decode cX10_mics 196 = .ok (.aload_n 0, 1) := by decide +kernel
theorem dX10_mics_197 : decode cX10_mics 197 = .ok (.getfield 21, 3) := by decide +kernel
theorem dX10_mics_200 : decode cX10_mics 200 = .ok (.iload_n 3, 1) := by decide +kernel
theorem dX10_mics_201 : decode cX10_mics 201 = .ok (.iaload, 1) := by decide +kernel
theorem dX10_mics_202 : decode cX10_mics 202 = .ok (.iastore, 1) := by decide +kernel
theorem dX10_mics_203 : decode cX10_mics 203 = .ok (.aload_n 0, 1) := by decide +kernel
theorem dX10_mics_204 : decode cX10_mics 204 = .ok (.getfield 9, 3) := by decide +kernel
theorem dX10_mics_207 : decode cX10_mics 207 = .ok (.iconst 1, 1) := by decide +kernel
theorem dX10_mics_208 : decode cX10_mics 208 = .ok (.bipush 6, 2) := by decide +kernel
theorem dX10_mics_210 : decode cX10_mics 210 = .ok (.iload_n 3, 1) := by decide +kernel
theorem dX10_mics_211 : decode cX10_mics 211 = .ok (.imul, 1) := by decide +kernel
theorem dX10_mics_212 : decode cX10_mics 212 = .ok (.iadd, 1) := by decide +kernel
theorem dX10_mics_213 : decode cX10_mics 213 = .ok (.iconst 1, 1) := by decide +kernel
theorem dX10_mics_214 : decode cX10_mics 214 = .ok (.iadd, 1) := by decide +kernel
theorem dX10_mics_215 : decode cX10_mics 215 = .ok (.bipush 100, 2) := by decide +kernel
theorem dX10_mics_217 : decode cX10_mics 217 = .ok (.iastore, 1) := by decide +kernel
theorem dX10_mics_218 : decode cX10_mics 218 = .ok (.aload_n 0, 1) := by decide +kernel
theorem dX10_mics_219 : decode cX10_mics 219 = .ok (.getfield 9, 3) := by decide +kernel
theorem dX10_mics_222 : decode cX10_mics 222 = .ok (.iconst 1, 1) := by decide +kernel
theorem dX10_mics_223 : decode cX10_mics 223 = .ok (.bipush 6, 2) := by decide +kernel
theorem dX10_mics_225 : decode cX10_mics 225 = .ok (.iload_n 3, 1) := by decide +kernel
theorem dX10_mics_226 : decode cX10_mics 226 = .ok (.imul, 1) := by decide +kernel
theorem dX10_mics_227 : decode cX10_mics 227 = .ok (.iadd, 1) := by decide +kernel
theorem dX10_mics_228 : decode cX10_mics 228 = .ok (.iconst 3, 1) := by decide +kernel
theorem dX10_mics_229 : decode cX10_mics 229 = .ok (.iadd, 1) := by decide +kernel
theorem dX10_mics_230 : decode cX10_mics 230 = .ok (.bipush 100, 2) := by decide +kernel
theorem dX10_mics_232 : decode cX10_mics 232 = .ok (.iastore, 1) := by decide +kernel
theorem dX10_mics_233 : decode cX10_mics 233 = .ok (.iinc 3 1, 3) := by decide +kernel
theorem dX10_mics_236 : decode cX10_mics 236 = .ok (.goto (-97), 3) := by decide +kernel
theorem dX10_mics_239 : decode cX10_mics 239 = .ok (.iload_n 1, 1) := by decide +kernel
theorem dX10_mics_240 : decode cX10_mics 240 = .ok (.ireturn, 1) := by decide +kernel
set_option maxHeartbeats 4000000 in
set_option maxRecDepth 100000 in
theorem c_Model_mics (l : Launch) (G : fm_G) (N : Nat) (M : fm_M) (r : Int32) (M' : fm_M) (hf : pModel_mics N M = some (r, M')) : fm_Met l yX10_mics cX10_mics 5 (some .int) { frames := 4, cells := 0, slots := 0, locals := 86 } shM G [.ref (G.2.1 0)] M (some (.int r)) M' := by
  refine fm_enter (by decide) (Nat.le_of_ble_eq_true rfl) ?_
  intro p e s m args below meth c ls C E hl
  have hl : lv_has ls 5 [(0, .ref (G.2.1 0))] := hl
  have L139 : ∀ (w139_v1 : Int32) (n139 : Nat) (v3 : Int32) (M : fm_M) (H : Heap) (locs : List Loc) (ls : Array Slot), fm_Wd shM G M s H locs → lv_has ls 5 [(0, .ref (G.2.1 0)), (1, .int w139_v1), (3, .int v3)] → fm_lp (pModel_mics_L139 N w139_v1) n139 (v3, M) = some (r, M') → W p l e { frames := 4, cells := 0, slots := 0, locals := 86 } s m args below meth c H locs 0 0 (fm_Z below shM G args s (some (.int r)) M') (F0 m 139 ls []) := by
    intro w139_v1 n139
    induction n139 with
    | zero => intro v3 M H locs ls E hl hf; exact fm_lp_0 hf
    | succ n139 ih139 =>
      have L148 : ∀ (w148_v3 : Int32) (n148 : Nat) (v4 : Int32) (M : fm_M) (H : Heap) (locs : List Loc) (ls : Array Slot), fm_Wd shM G M s H locs → lv_has ls 5 [(0, .ref (G.2.1 0)), (1, .int w139_v1), (3, .int w148_v3), (4, .int v4)] → fm_lp (pModel_mics_L148 N w139_v1 w148_v3 (fm_lp (pModel_mics_L139 N w139_v1) n139)) n148 (v4, M) = some (r, M') → W p l e { frames := 4, cells := 0, slots := 0, locals := 86 } s m args below meth c H locs 0 0 (fm_Z below shM G args s (some (.int r)) M') (F0 m 148 ls []) := by
        intro w148_v3 n148
        induction n148 with
        | zero => intro v4 M H locs ls E hl hf; exact fm_lp_0 hf
        | succ n148 ih148 =>
          intro v4 M H locs ls E hl hf
          have hf : pModel_mics_L148b N w139_v1 w148_v3 (fm_lp (pModel_mics_L139 N w139_v1) n139) (fm_lp (pModel_mics_L148 N w139_v1 w148_v3 (fm_lp (pModel_mics_L139 N w139_v1) n139)) n148) v4 M = some (r, M') := hf
          unfold pModel_mics_L148b at hf
          refine lv_iload C.1 C.2.1 dX10_mics_148 (lv_at hl 3 rfl) ?_
          refine lv_bipush (v := 6) C.1 C.2.1 dX10_mics_150 (by decide) ?_
          refine lv_icmp_ge (tgt := 176) C.1 C.2.1 dX10_mics_152 (by decide) (fun hc152 => ?_) (fun hc152 => ?_)
          · have hf := fm_ip hf hc152
            refine lv_iload_n C.1 C.2.1 dX10_mics_176 rfl (lv_at hl 2 rfl) ?_
            refine lv_iload_n C.1 C.2.1 dX10_mics_177 rfl (lv_at hl 1 rfl) ?_
            refine lv_icmp_lt (tgt := 184) C.1 C.2.1 dX10_mics_178 (by decide) (fun hc178 => ?_) (fun hc178 => ?_)
            · have hf := fm_ip hf hc178
              refine lv_aload_n C.1 C.2.1 dX10_mics_184 rfl (lv_at hl 0 rfl) ?_
              refine fm_getr C E lf_X10_9 hM_0 rfl dX10_mics_185 ?_
              refine lv_iconst (v := 1) C.1 C.2.1 dX10_mics_188 (by decide) ?_
              refine lv_bipush (v := 6) C.1 C.2.1 dX10_mics_189 (by decide) ?_
              refine lv_iload_n C.1 C.2.1 dX10_mics_191 rfl (lv_at hl 2 rfl) ?_
              refine lv_imul C.1 C.2.1 dX10_mics_192 ?_
              refine lv_iadd C.1 C.2.1 dX10_mics_193 ?_
              refine lv_iconst (v := 0) C.1 C.2.1 dX10_mics_194 (by decide) ?_
              refine lv_iadd C.1 C.2.1 dX10_mics_195 ?_
              refine lv_aload_n C.1 C.2.1 dX10_mics_196 rfl (lv_at hl 0 rfl) ?_
              refine fm_getr C E lf_X10_21 hM_0 rfl dX10_mics_197 ?_
              refine lv_iload_n C.1 C.2.1 dX10_mics_200 rfl (lv_at hl 2 rfl) ?_
              obtain ⟨h201, x201, e201, hf⟩ := fm_ld_e hf
              refine fm_iald' C E e201 hM_4 h201 dX10_mics_201 ?_
              obtain ⟨h202, M202, e202, hf⟩ := fm_st_e hf
              refine fm_iast' C E e202 hM_1 h202 dX10_mics_202 (fun H locs E => ?_)
              refine lv_aload_n C.1 C.2.1 dX10_mics_203 rfl (lv_at hl 0 rfl) ?_
              refine fm_getr C E lf_X10_9 hM_0 rfl dX10_mics_204 ?_
              refine lv_iconst (v := 1) C.1 C.2.1 dX10_mics_207 (by decide) ?_
              refine lv_bipush (v := 6) C.1 C.2.1 dX10_mics_208 (by decide) ?_
              refine lv_iload_n C.1 C.2.1 dX10_mics_210 rfl (lv_at hl 2 rfl) ?_
              refine lv_imul C.1 C.2.1 dX10_mics_211 ?_
              refine lv_iadd C.1 C.2.1 dX10_mics_212 ?_
              refine lv_iconst (v := 1) C.1 C.2.1 dX10_mics_213 (by decide) ?_
              refine lv_iadd C.1 C.2.1 dX10_mics_214 ?_
              refine lv_bipush (v := 100) C.1 C.2.1 dX10_mics_215 (by decide) ?_
              obtain ⟨h217, M217, e217, hf⟩ := fm_st_e hf
              refine fm_iast' C E e217 hM_1 h217 dX10_mics_217 (fun H locs E => ?_)
              refine lv_aload_n C.1 C.2.1 dX10_mics_218 rfl (lv_at hl 0 rfl) ?_
              refine fm_getr C E lf_X10_9 hM_0 rfl dX10_mics_219 ?_
              refine lv_iconst (v := 1) C.1 C.2.1 dX10_mics_222 (by decide) ?_
              refine lv_bipush (v := 6) C.1 C.2.1 dX10_mics_223 (by decide) ?_
              refine lv_iload_n C.1 C.2.1 dX10_mics_225 rfl (lv_at hl 2 rfl) ?_
              refine lv_imul C.1 C.2.1 dX10_mics_226 ?_
              refine lv_iadd C.1 C.2.1 dX10_mics_227 ?_
              refine lv_iconst (v := 3) C.1 C.2.1 dX10_mics_228 (by decide) ?_
              refine lv_iadd C.1 C.2.1 dX10_mics_229 ?_
              refine lv_bipush (v := 100) C.1 C.2.1 dX10_mics_230 (by decide) ?_
              obtain ⟨h232, M232, e232, hf⟩ := fm_st_e hf
              refine fm_iast' C E e232 hM_1 h232 dX10_mics_232 (fun H locs E => ?_)
              refine fm_iinc C (v := 1) (lv' := [(3, .int _), (0, .ref _), (1, .int _), (4, .int _)]) (k := 2) hl rfl (by decide) (by decide) rfl dX10_mics_233 (fun ls hl => ?_)
              refine lv_goto (tgt := 139) C.1 C.2.1 dX10_mics_236 (by decide) ?_
              exact ih139 _ _ _ _ _ E (lv_sub hl [1, 2, 0] rfl) hf
            · have hf := fm_in' hf hc178
              refine lv_goto (tgt := 233) C.1 C.2.1 dX10_mics_181 (by decide) ?_
              refine fm_iinc C (v := 1) (lv' := [(3, .int _), (0, .ref _), (1, .int _), (4, .int _)]) (k := 2) hl rfl (by decide) (by decide) rfl dX10_mics_233 (fun ls hl => ?_)
              refine lv_goto (tgt := 139) C.1 C.2.1 dX10_mics_236 (by decide) ?_
              exact ih139 _ _ _ _ _ E (lv_sub hl [1, 2, 0] rfl) hf
          · have hf := fm_in' hf hc152
            refine lv_aload_n C.1 C.2.1 dX10_mics_155 rfl (lv_at hl 0 rfl) ?_
            refine fm_getr C E lf_X10_9 hM_0 rfl dX10_mics_156 ?_
            refine lv_iconst (v := 1) C.1 C.2.1 dX10_mics_159 (by decide) ?_
            refine lv_bipush (v := 6) C.1 C.2.1 dX10_mics_160 (by decide) ?_
            refine lv_iload_n C.1 C.2.1 dX10_mics_162 rfl (lv_at hl 2 rfl) ?_
            refine lv_imul C.1 C.2.1 dX10_mics_163 ?_
            refine lv_iadd C.1 C.2.1 dX10_mics_164 ?_
            refine lv_iload C.1 C.2.1 dX10_mics_165 (lv_at hl 3 rfl) ?_
            refine lv_iadd C.1 C.2.1 dX10_mics_167 ?_
            refine lv_iconst (v := 0) C.1 C.2.1 dX10_mics_168 (by decide) ?_
            obtain ⟨h169, M169, e169, hf⟩ := fm_st_e hf
            refine fm_iast' C E e169 hM_1 h169 dX10_mics_169 (fun H locs E => ?_)
            refine fm_iinc C (v := 1) (lv' := [(4, .int _), (0, .ref _), (1, .int _), (3, .int _)]) (k := 3) hl rfl (by decide) (by decide) rfl dX10_mics_170 (fun ls hl => ?_)
            refine lv_goto (tgt := 148) C.1 C.2.1 dX10_mics_173 (by decide) ?_
            exact ih148 _ _ _ _ _ E (lv_sub hl [1, 2, 3, 0] rfl) hf
      intro v3 M H locs ls E hl hf
      have hf : pModel_mics_L139b N w139_v1 (fm_lp (pModel_mics_L139 N w139_v1) n139) v3 M = some (r, M') := hf
      unfold pModel_mics_L139b at hf
      refine lv_iload_n C.1 C.2.1 dX10_mics_139 rfl (lv_at hl 2 rfl) ?_
      refine lv_bipush (v := 6) C.1 C.2.1 dX10_mics_140 (by decide) ?_
      refine lv_icmp_ge (tgt := 239) C.1 C.2.1 dX10_mics_142 (by decide) (fun hc142 => ?_) (fun hc142 => ?_)
      · have hf := fm_ip hf hc142
        refine lv_iload_n C.1 C.2.1 dX10_mics_239 rfl (lv_at hl 1 rfl) ?_
        obtain ⟨rfl, rfl⟩ := fm_rt2 hf
        exact fm_iret C E rfl rfl dX10_mics_240
      · have hf := fm_in' hf hc142
        refine lv_iconst (v := 0) C.1 C.2.1 dX10_mics_145 (by decide) ?_
        refine lv_istore (lv' := [(4, .int _), (0, .ref _), (1, .int _), (3, .int _)]) C.1 C.2.1 dX10_mics_146 hl (by decide) rfl (fun ls hl => ?_)
        exact L148 _ N _ _ _ _ _ E (lv_sub hl [1, 2, 3, 0] rfl) hf
  have L24 : ∀ (n24 : Nat) (v1 : Int32) (v2 : Int32) (M : fm_M) (H : Heap) (locs : List Loc) (ls : Array Slot), fm_Wd shM G M s H locs → lv_has ls 5 [(0, .ref (G.2.1 0)), (1, .int v1), (2, .int v2)] → fm_lp (pModel_mics_L24 N) n24 (v1, v2, M) = some (r, M') → W p l e { frames := 4, cells := 0, slots := 0, locals := 86 } s m args below meth c H locs 0 0 (fm_Z below shM G args s (some (.int r)) M') (F0 m 24 ls []) := by
    intro  n24
    induction n24 with
    | zero => intro v1 v2 M H locs ls E hl hf; exact fm_lp_0 hf
    | succ n24 ih24 =>
      have J92 : ∀ (M : fm_M) (v1 : Int32) (v3 : Int32) (H : Heap) (locs : List Loc) (ls : Array Slot), fm_Wd shM G M s H locs → lv_has ls 5 [(0, .ref (G.2.1 0)), (1, .int v1), (3, .int v3)] → pModel_mics_J92 N M v1 v3 (fm_lp (pModel_mics_L24 N) n24) = some (r, M') → W p l e { frames := 4, cells := 0, slots := 0, locals := 86 } s m args below meth c H locs 0 0 (fm_Z below shM G args s (some (.int r)) M') (F0 m 92 ls []) := by
        intro M v1 v3 H locs ls E hl hf
        unfold pModel_mics_J92 at hf
        refine lv_aload_n C.1 C.2.1 dX10_mics_92 rfl (lv_at hl 0 rfl) ?_
        refine fm_getr C E lf_X10_21 hM_0 rfl dX10_mics_93 ?_
        refine lv_iload_n C.1 C.2.1 dX10_mics_96 rfl (lv_at hl 1 rfl) ?_
        refine lv_iload_n C.1 C.2.1 dX10_mics_97 rfl (lv_at hl 2 rfl) ?_
        obtain ⟨h98, M98, e98, hf⟩ := fm_st_e hf
        refine fm_iast' C E e98 hM_4 h98 dX10_mics_98 (fun H locs E => ?_)
        refine fm_iinc C (v := 1) (lv' := [(1, .int _), (0, .ref _), (3, .int _)]) (k := 1) hl rfl (by decide) (by decide) rfl dX10_mics_99 (fun ls hl => ?_)
        refine lv_aload_n C.1 C.2.1 dX10_mics_102 rfl (lv_at hl 1 rfl) ?_
        refine lv_bipush (v := 44) C.1 C.2.1 dX10_mics_103 (by decide) ?_
        obtain ⟨⟨x105, M105⟩, hc105, hf⟩ := fm_bd hf
        dsimp only at hf
        refine fm_callV C E [.int _] [] lm_X10_125 wk_X10_passes (c_Model_passes l G _ _ _ _ hc105) hM_0 rfl rfl rfl hl.1 (by simp [Value.category]) ⟨⟨rfl, rfl⟩, by decide, by decide⟩ ⟨by decide, by decide⟩ dX10_mics_105 rfl (fun H locs E => ?_)
        refine W.eq (g2 := F0 m 108 ls (.int x105 :: [])) rfl ?_
        refine lv_istore_n (lv' := [(2, .int _), (1, .int _), (0, .ref _), (3, .int _)]) C.1 C.2.1 dX10_mics_108 rfl hl (by decide) rfl (fun ls hl => ?_)
        refine lv_goto (tgt := 24) C.1 C.2.1 dX10_mics_109 (by decide) ?_
        exact ih24 _ _ _ _ _ _ E (lv_sub hl [2, 1, 0] rfl) hf
      have J82 : ∀ (M : fm_M) (v1 : Int32) (v3 : Int32) (H : Heap) (locs : List Loc) (ls : Array Slot), fm_Wd shM G M s H locs → lv_has ls 5 [(0, .ref (G.2.1 0)), (1, .int v1), (3, .int v3)] → pModel_mics_J82 N M v1 v3 (fm_lp (pModel_mics_L24 N) n24) = some (r, M') → W p l e { frames := 4, cells := 0, slots := 0, locals := 86 } s m args below meth c H locs 0 0 (fm_Z below shM G args s (some (.int r)) M') (F0 m 82 ls []) := by
        intro M v1 v3 H locs ls E hl hf
        unfold pModel_mics_J82 at hf
        refine lv_aload_n C.1 C.2.1 dX10_mics_82 rfl (lv_at hl 0 rfl) ?_
        refine lv_aload_n C.1 C.2.1 dX10_mics_83 rfl (lv_at hl 0 rfl) ?_
        refine fm_geti C E lf_X10_93 hM_0 rfl dX10_mics_84 ?_
        refine lv_iconst (v := 1) C.1 C.2.1 dX10_mics_87 (by decide) ?_
        refine lv_isub C.1 C.2.1 dX10_mics_88 ?_
        obtain ⟨M89, hc89, hf⟩ := fm_bd hf
        refine fm_callV C E [.int _] [] lm_X10_107 wk_X10_fault (c_Model_fault l G _ _ _ hc89) hM_0 rfl rfl rfl hl.1 (by simp [Value.category]) ⟨⟨rfl, rfl⟩, by decide, by decide⟩ ⟨by decide, by decide⟩ dX10_mics_89 rfl (fun H locs E => ?_)
        refine W.eq (g2 := F0 m 92 ls []) rfl ?_
        exact J92 _ _ _ _ _ _ E (lv_sub hl [0, 1, 2] rfl) hf
      have J44 : ∀ (M : fm_M) (v1 : Int32) (H : Heap) (locs : List Loc) (ls : Array Slot), fm_Wd shM G M s H locs → lv_has ls 5 [(0, .ref (G.2.1 0)), (1, .int v1)] → pModel_mics_J44 N M v1 (fm_lp (pModel_mics_L24 N) n24) = some (r, M') → W p l e { frames := 4, cells := 0, slots := 0, locals := 86 } s m args below meth c H locs 0 0 (fm_Z below shM G args s (some (.int r)) M') (F0 m 44 ls []) := by
        intro M v1 H locs ls E hl hf
        unfold pModel_mics_J44 at hf
        refine lv_aload_n C.1 C.2.1 dX10_mics_44 rfl (lv_at hl 0 rfl) ?_
        refine lv_iconst (v := 2) C.1 C.2.1 dX10_mics_45 (by decide) ?_
        obtain ⟨⟨x46, M46⟩, hc46, hf⟩ := fm_bd hf
        dsimp only at hf
        refine fm_callV C E [.int _] [] lm_X10_118 wk_X10_digits (c_Model_digits l G N _ _ _ _ hc46) hM_0 rfl rfl rfl hl.1 (by simp [Value.category]) ⟨⟨rfl, rfl⟩, by decide, by decide⟩ ⟨by decide, by decide⟩ dX10_mics_46 rfl (fun H locs E => ?_)
        refine W.eq (g2 := F0 m 49 ls (.int x46 :: [])) rfl ?_
        refine lv_istore_n (lv' := [(3, .int _), (0, .ref _), (1, .int _)]) C.1 C.2.1 dX10_mics_49 rfl hl (by decide) rfl (fun ls hl => ?_)
        refine lv_aload_n C.1 C.2.1 dX10_mics_50 rfl (lv_at hl 1 rfl) ?_
        obtain ⟨x51, hc51, hf⟩ := fm_bd hf
        refine fm_callV C E [] [] lm_X10_99 wk_X10_fine (c_Model_fine l G _ _  hc51) hM_0 rfl rfl rfl hl.1 (by simp [Value.category]) ⟨⟨rfl, rfl⟩, by decide, by decide⟩ ⟨by decide, by decide⟩ dX10_mics_51 rfl (fun H locs E => ?_)
        refine W.eq (g2 := F0 m 54 ls (.int x51 :: [])) rfl ?_
        refine lv_if_eq (tgt := 92) C.1 C.2.1 dX10_mics_54 (by decide) (fun hc54 => ?_) (fun hc54 => ?_)
        · have hf := fm_ip hf hc54
          exact J92 _ _ _ _ _ _ E (lv_sub hl [1, 2, 0] rfl) hf
        · have hf := fm_in' hf hc54
          refine lv_iload_n C.1 C.2.1 dX10_mics_57 rfl (lv_at hl 0 rfl) ?_
          refine fm_gets C E (List.mem_of_getElem? (l := fm_Zs) (i := 7) rfl) (Or.inl wf_1245) dX10_mics_58 (fun t58 hT58 => ?_)
          refine lv_iconst (v := 0) C.1 C.2.1 dX10_mics_61 (by decide) ?_
          refine fm_tldc C E hT58 40 (by decide) (by decide) dX10_mics_62 ?_
          refine lv_icmp_gt (tgt := 82) C.1 C.2.1 dX10_mics_63 (by decide) (fun hc63 => ?_) (fun hc63 => ?_)
          · have hf := fm_ip hf hc63
            exact J82 _ _ _ _ _ _ E (lv_sub hl [1, 2, 0] rfl) hf
          · have hf := fm_in' hf hc63
            refine lv_iload_n C.1 C.2.1 dX10_mics_66 rfl (lv_at hl 2 rfl) ?_
            refine lv_if_le (tgt := 92) C.1 C.2.1 dX10_mics_67 (by decide) (fun hc67 => ?_) (fun hc67 => ?_)
            · have hf := fm_ip hf hc67
              exact J92 _ _ _ _ _ _ E (lv_sub hl [1, 2, 0] rfl) hf
            · have hf := fm_in' hf hc67
              refine lv_iload_n C.1 C.2.1 dX10_mics_70 rfl (lv_at hl 0 rfl) ?_
              refine lv_aload_n C.1 C.2.1 dX10_mics_71 rfl (lv_at hl 1 rfl) ?_
              refine fm_getr C E lf_X10_21 hM_0 rfl dX10_mics_72 ?_
              refine lv_iload_n C.1 C.2.1 dX10_mics_75 rfl (lv_at hl 2 rfl) ?_
              refine lv_iconst (v := 1) C.1 C.2.1 dX10_mics_76 (by decide) ?_
              refine lv_isub C.1 C.2.1 dX10_mics_77 ?_
              obtain ⟨h78, x78, e78, hf⟩ := fm_ld_e hf
              refine fm_iald' C E e78 hM_4 h78 dX10_mics_78 ?_
              refine lv_icmp_gt (tgt := 92) C.1 C.2.1 dX10_mics_79 (by decide) (fun hc79 => ?_) (fun hc79 => ?_)
              · have hf := fm_ip hf hc79
                exact J92 _ _ _ _ _ _ E (lv_sub hl [1, 2, 0] rfl) hf
              · have hf := fm_in' hf hc79
                exact J82 _ _ _ _ _ _ E (lv_sub hl [1, 2, 0] rfl) hf
      intro v1 v2 M H locs ls E hl hf
      have hf : pModel_mics_L24b N (fm_lp (pModel_mics_L24 N) n24) v1 v2 M = some (r, M') := hf
      unfold pModel_mics_L24b at hf
      refine lv_iload_n C.1 C.2.1 dX10_mics_24 rfl (lv_at hl 2 rfl) ?_
      refine lv_if_eq (tgt := 112) C.1 C.2.1 dX10_mics_25 (by decide) (fun hc25 => ?_) (fun hc25 => ?_)
      · have hf := fm_ip hf hc25
        refine lv_aload_n C.1 C.2.1 dX10_mics_112 rfl (lv_at hl 0 rfl) ?_
        obtain ⟨⟨x113, M113⟩, hc113, hf⟩ := fm_bd hf
        dsimp only at hf
        refine fm_callV C E [] [] lm_X10_129 wk_X10_wasRight (c_Model_wasRight l G _ _ _ hc113) hM_0 rfl rfl rfl hl.1 (by simp [Value.category]) ⟨⟨rfl, rfl⟩, by decide, by decide⟩ ⟨by decide, by decide⟩ dX10_mics_113 rfl (fun H locs E => ?_)
        refine W.eq (g2 := F0 m 116 ls (.int x113 :: [])) rfl ?_
        refine lv_if_ne (tgt := 126) C.1 C.2.1 dX10_mics_116 (by decide) (fun hc116 => ?_) (fun hc116 => ?_)
        · have hf := fm_in' hf hc116
          refine lv_aload_n C.1 C.2.1 dX10_mics_126 rfl (lv_at hl 0 rfl) ?_
          obtain ⟨M127, hc127, hf⟩ := fm_bd hf
          refine fm_callV C E [] [] lm_X10_132 wk_X10_change (c_Model_change l G N _ _ hc127) hM_0 rfl rfl rfl hl.1 (by simp [Value.category]) ⟨⟨rfl, rfl⟩, by decide, by decide⟩ ⟨by decide, by decide⟩ dX10_mics_127 rfl (fun H locs E => ?_)
          refine W.eq (g2 := F0 m 130 ls []) rfl ?_
          refine lv_aload_n C.1 C.2.1 dX10_mics_130 rfl (lv_at hl 0 rfl) ?_
          refine fm_getr C E lf_X10_9 hM_0 rfl dX10_mics_131 ?_
          refine lv_iconst (v := 0) C.1 C.2.1 dX10_mics_134 (by decide) ?_
          refine lv_iload_n C.1 C.2.1 dX10_mics_135 rfl (lv_at hl 1 rfl) ?_
          obtain ⟨M136, e136, hf⟩ := fm_pt_s hf
          refine fm_iastc' C E 0 (by decide) e136 hM_1 (by decide) dX10_mics_136 (fun H locs E => ?_)
          refine lv_iconst (v := 0) C.1 C.2.1 dX10_mics_137 (by decide) ?_
          refine lv_istore_n (lv' := [(3, .int _), (0, .ref _), (1, .int _), (2, .int _)]) C.1 C.2.1 dX10_mics_138 rfl hl (by decide) rfl (fun ls hl => ?_)
          exact L139 _ N _ _ _ _ _ E (lv_sub hl [1, 2, 0] rfl) hf
        · have hf := fm_ip hf hc116
          refine lv_iconst (v := (-1)) C.1 C.2.1 dX10_mics_119 (by decide) ?_
          refine lv_aload_n C.1 C.2.1 dX10_mics_120 rfl (lv_at hl 0 rfl) ?_
          refine fm_geti C E lf_X10_96 hM_0 rfl dX10_mics_121 ?_
          refine lv_isub C.1 C.2.1 dX10_mics_124 ?_
          obtain ⟨rfl, rfl⟩ := fm_rt2 hf
          exact fm_iret C E rfl rfl dX10_mics_125
      · have hf := fm_in' hf hc25
        refine lv_iload_n C.1 C.2.1 dX10_mics_28 rfl (lv_at hl 1 rfl) ?_
        refine lv_bipush (v := 6) C.1 C.2.1 dX10_mics_29 (by decide) ?_
        refine lv_icmp_ne (tgt := 44) C.1 C.2.1 dX10_mics_31 (by decide) (fun hc31 => ?_) (fun hc31 => ?_)
        · have hf := fm_in' hf hc31
          exact J44 _ _ _ _ _ E (lv_sub hl [0, 1] rfl) hf
        · have hf := fm_ip hf hc31
          refine lv_aload_n C.1 C.2.1 dX10_mics_34 rfl (lv_at hl 0 rfl) ?_
          refine lv_aload_n C.1 C.2.1 dX10_mics_35 rfl (lv_at hl 0 rfl) ?_
          refine fm_geti C E lf_X10_93 hM_0 rfl dX10_mics_36 ?_
          refine lv_iconst (v := 1) C.1 C.2.1 dX10_mics_39 (by decide) ?_
          refine lv_isub C.1 C.2.1 dX10_mics_40 ?_
          obtain ⟨M41, hc41, hf⟩ := fm_bd hf
          refine fm_callV C E [.int _] [] lm_X10_107 wk_X10_fault (c_Model_fault l G _ _ _ hc41) hM_0 rfl rfl rfl hl.1 (by simp [Value.category]) ⟨⟨rfl, rfl⟩, by decide, by decide⟩ ⟨by decide, by decide⟩ dX10_mics_41 rfl (fun H locs E => ?_)
          refine W.eq (g2 := F0 m 44 ls []) rfl ?_
          exact J44 _ _ _ _ _ E (lv_sub hl [0, 1] rfl) hf
  have J23 : ∀ (M : fm_M) (v1 : Int32) (s0 : Int32) (H : Heap) (locs : List Loc) (ls : Array Slot), fm_Wd shM G M s H locs → lv_has ls 5 [(0, .ref (G.2.1 0)), (1, .int v1)] → pModel_mics_J23 N M v1 s0 = some (r, M') → W p l e { frames := 4, cells := 0, slots := 0, locals := 86 } s m args below meth c H locs 0 0 (fm_Z below shM G args s (some (.int r)) M') (F0 m 23 ls [.int s0]) := by
    intro M v1 s0 H locs ls E hl hf
    unfold pModel_mics_J23 at hf
    refine lv_istore_n (lv' := [(2, .int _), (0, .ref _), (1, .int _)]) C.1 C.2.1 dX10_mics_23 rfl hl (by decide) rfl (fun ls hl => ?_)
    exact L24  N _ _ _ _ _ _ E (lv_sub hl [1, 2, 0] rfl) hf
  unfold pModel_mics at hf
  refine lv_aload_n C.1 C.2.1 dX10_mics_0 rfl (lv_at hl 0 rfl) ?_
  refine lv_iconst (v := 0) C.1 C.2.1 dX10_mics_1 (by decide) ?_
  obtain ⟨M2, e2, hf⟩ := fm_pt_s hf
  refine fm_put' C E e2 lp_X10_77 hM_0 rfl dX10_mics_2 (fun H locs E => ?_)
  refine lv_aload_n C.1 C.2.1 dX10_mics_5 rfl (lv_at hl 0 rfl) ?_
  obtain ⟨M6, hc6, hf⟩ := fm_bd hf
  refine fm_callV C E [] [] lm_X10_115 wk_X10_begin (c_Model_begin l G _ _ hc6) hM_0 rfl rfl rfl hl.1 (by simp [Value.category]) ⟨⟨rfl, rfl⟩, by decide, by decide⟩ ⟨by decide, by decide⟩ dX10_mics_6 rfl (fun H locs E => ?_)
  refine W.eq (g2 := F0 m 9 ls []) rfl ?_
  refine lv_iconst (v := 0) C.1 C.2.1 dX10_mics_9 (by decide) ?_
  refine lv_istore_n (lv' := [(1, .int _), (0, .ref _)]) C.1 C.2.1 dX10_mics_10 rfl hl (by decide) rfl (fun ls hl => ?_)
  refine lv_aload_n C.1 C.2.1 dX10_mics_11 rfl (lv_at hl 1 rfl) ?_
  refine fm_geti C E lf_X10_90 hM_0 rfl dX10_mics_12 ?_
  refine lv_if_le (tgt := 22) C.1 C.2.1 dX10_mics_15 (by decide) (fun hc15 => ?_) (fun hc15 => ?_)
  · have hf := fm_ip hf hc15
    refine lv_iconst (v := 0) C.1 C.2.1 dX10_mics_22 (by decide) ?_
    exact J23 _ _ _ _ _ _ E (lv_sub hl [1, 0] rfl) hf
  · have hf := fm_in' hf hc15
    refine lv_iconst (v := 1) C.1 C.2.1 dX10_mics_18 (by decide) ?_
    refine lv_goto (tgt := 23) C.1 C.2.1 dX10_mics_19 (by decide) ?_
    exact J23 _ _ _ _ _ _ E (lv_sub hl [1, 0] rfl) hf
theorem dX10_readSource_0 : decode cX10_readSource 0 = .ok (.aload_n 0, 1) := by decide +kernel
theorem dX10_readSource_1 : decode cX10_readSource 1 = .ok (.getfield 21, 3) := by decide +kernel
theorem dX10_readSource_4 : decode cX10_readSource 4 = .ok (.iload_n 1, 1) := by decide +kernel
theorem dX10_readSource_5 : decode cX10_readSource 5 = .ok (.aload_n 0, 1) := by decide +kernel
theorem dX10_readSource_6 : decode cX10_readSource 6 = .ok (.invokevirtual 135, 3) := by decide +kernel
theorem dX10_readSource_9 : decode cX10_readSource 9 = .ok (.iastore, 1) := by decide +kernel
theorem dX10_readSource_10 : decode cX10_readSource 10 = .ok (.aload_n 0, 1) := by decide +kernel
theorem dX10_readSource_11 : decode cX10_readSource 11 = .ok (.getfield 21, 3) := by decide +kernel
theorem dX10_readSource_14 : decode cX10_readSource 14 = .ok (.iload_n 1, 1) := by decide +kernel
theorem dX10_readSource_15 : decode cX10_readSource 15 = .ok (.iconst 1, 1) := by decide +kernel
theorem dX10_readSource_16 : decode cX10_readSource 16 = .ok (.iadd, 1) := by decide +kernel
theorem dX10_readSource_17 : decode cX10_readSource 17 = .ok (.aload_n 0, 1) := by decide +kernel
theorem dX10_readSource_18 : decode cX10_readSource 18 = .ok (.bipush 49, 2) := by decide +kernel
theorem dX10_readSource_20 : decode cX10_readSource 20 = .ok (.bipush 9, 2) := by decide +kernel
theorem dX10_readSource_22 : decode cX10_readSource 22 = .ok (.invokevirtual 111, 3) := by decide +kernel
theorem dX10_readSource_25 : decode cX10_readSource 25 = .ok (.iconst 1, 1) := by decide +kernel
theorem dX10_readSource_26 : decode cX10_readSource 26 = .ok (.iadd, 1) := by decide +kernel
theorem dX10_readSource_27 : decode cX10_readSource 27 = .ok (.iastore, 1) := by decide +kernel
theorem dX10_readSource_28 : decode cX10_readSource 28 = .ok (.iconst 0, 1) := by decide +kernel
theorem dX10_readSource_29 : decode cX10_readSource 29 = .ok (.istore_n 2, 1) := by decide +kernel
theorem dX10_readSource_30 : decode cX10_readSource 30 = .ok (.aload_n 0, 1) := by decide +kernel
theorem dX10_readSource_31 : decode cX10_readSource 31 = .ok (.invokevirtual 99, 3) := by decide +kernel
theorem dX10_readSource_34 : decode cX10_readSource 34 = .ok (.ifCond .eq 54, 3) := by decide +kernel
theorem dX10_readSource_37 : decode cX10_readSource 37 = .ok (.iload_n 2, 1) := by decide +kernel
theorem dX10_readSource_38 : decode cX10_readSource 38 = .ok (.iconst 2, 1) := by decide +kernel
theorem dX10_readSource_39 : decode cX10_readSource 39 = .ok (.if_icmp .lt 23, 3) := by decide +kernel
theorem dX10_readSource_42 : decode cX10_readSource 42 = .ok (.aload_n 0, 1) := by decide +kernel
theorem dX10_readSource_43 : decode cX10_readSource 43 = .ok (.invokevirtual 103, 3) := by decide +kernel
theorem dX10_readSource_46 : decode cX10_readSource 46 = .ok (.bipush 48, 2) := by decide +kernel
theorem dX10_readSource_48 : decode cX10_readSource 48 = .ok (.bipush 56, 2) := by decide +kernel
theorem dX10_readSource_50 : decode cX10_readSource 50 = .ok (.invokestatic 83, 3) := by decide +kernel
theorem dX10_readSource_53 : decode cX10_readSource 53 = .ok (.ifCond .eq 35, 3) := by decide +kernel
theorem dX10_readSource_56 : decode cX10_readSource 56 = .ok (.iload_n 2, 1) := by decide +kernel
theorem dX10_readSource_57 : decode cX10_readSource 57 = .ok (.bipush 12, 2) := by decide +kernel
theorem dX10_readSource_59 : decode cX10_readSource 59 = .ok (.if_icmp .ge 29, 3) := by decide +kernel
theorem dX10_readSource_62 : decode cX10_readSource 62 = .ok (.aload_n 0, 1) := by decide +kernel
theorem dX10_readSource_63 : decode cX10_readSource 63 = .ok (.getfield 21, 3) := by decide +kernel
theorem dX10_readSource_66 : decode cX10_readSource 66 = .ok (.iload_n 1, 1) := by decide +kernel
theorem dX10_readSource_67 : decode cX10_readSource 67 = .ok (.iconst 3, 1) := by decide +kernel
theorem dX10_readSource_68 : decode cX10_readSource 68 = .ok (.iadd, 1) := by decide +kernel
theorem dX10_readSource_69 : decode cX10_readSource 69 = .ok (.iload_n 2, 1) := by decide +kernel
theorem dX10_readSource_70 : decode cX10_readSource 70 = .ok (.iadd, 1) := by decide +kernel
theorem dX10_readSource_71 : decode cX10_readSource 71 = .ok (.aload_n 0, 1) := by decide +kernel
theorem dX10_readSource_72 : decode cX10_readSource 72 = .ok (.bipush 48, 2) := by decide +kernel
theorem dX10_readSource_74 : decode cX10_readSource 74 = .ok (.bipush 9, 2) := by decide +kernel
theorem dX10_readSource_76 : decode cX10_readSource 76 = .ok (.invokevirtual 111, 3) := by decide +kernel
theorem dX10_readSource_79 : decode cX10_readSource 79 = .ok (.iconst 4, 1) := by decide +kernel
theorem dX10_readSource_80 : decode cX10_readSource 80 = .ok (.isub, 1) := by decide +kernel
theorem dX10_readSource_81 : decode cX10_readSource 81 = .ok (.iastore, 1) := by decide +kernel
theorem dX10_readSource_82 : decode cX10_readSource 82 = .ok (.iinc 2 1, 3) := by decide +kernel
theorem dX10_readSource_85 : decode cX10_readSource 85 = .ok (.goto (-55), 3) := by decide +kernel
theorem dX10_readSource_88 : decode cX10_readSource 88 = .ok (.aload_n 0, 1) := by decide +kernel
theorem dX10_readSource_89 : decode cX10_readSource 89 = .ok (.getfield 21, 3) := by decide +kernel
theorem dX10_readSource_92 : decode cX10_readSource 92 = .ok (.iload_n 1, 1) := by decide +kernel
theorem dX10_readSource_93 : decode cX10_readSource 93 = .ok (.iconst 2, 1) := by decide +kernel
theorem dX10_readSource_94 : decode cX10_readSource 94 = .ok (.iadd, 1) := by decide +kernel
theorem dX10_readSource_95 : decode cX10_readSource 95 = .ok (.iload_n 2, 1) := by decide +kernel
theorem dX10_readSource_96 : decode cX10_readSource 96 = .ok (.iastore, 1) := by decide +kernel
theorem dX10_readSource_97 : decode cX10_readSource 97 = .ok (.return_, 1) := by decide +kernel
set_option maxHeartbeats 4000000 in
set_option maxRecDepth 100000 in
theorem c_Model_readSource (l : Launch) (G : fm_G) (N : Nat) (M : fm_M) (v1 : Int32) (M' : fm_M) (hf : pModel_readSource N M v1 = some M') : fm_Met l yX10_readSource cX10_readSource 3 none { frames := 4, cells := 0, slots := 0, locals := 85 } shM G [.ref (G.2.1 0), .int v1] M none M' := by
  refine fm_enter (by decide) (Nat.le_of_ble_eq_true rfl) ?_
  intro p e s m args below meth c ls C E hl
  have hl : lv_has ls 3 [(0, .ref (G.2.1 0)), (1, .int v1)] := hl
  have J88 : ∀ (M : fm_M) (v1 : Int32) (v2 : Int32) (H : Heap) (locs : List Loc) (ls : Array Slot), fm_Wd shM G M s H locs → lv_has ls 3 [(0, .ref (G.2.1 0)), (1, .int v1), (2, .int v2)] → pModel_readSource_J88 N M v1 v2 = some M' → W p l e { frames := 4, cells := 0, slots := 0, locals := 85 } s m args below meth c H locs 0 0 (fm_Z below shM G args s none M') (F0 m 88 ls []) := by
    intro M v1 v2 H locs ls E hl hf
    unfold pModel_readSource_J88 at hf
    refine lv_aload_n C.1 C.2.1 dX10_readSource_88 rfl (lv_at hl 0 rfl) ?_
    refine fm_getr C E lf_X10_21 hM_0 rfl dX10_readSource_89 ?_
    refine lv_iload_n C.1 C.2.1 dX10_readSource_92 rfl (lv_at hl 1 rfl) ?_
    refine lv_iconst (v := 2) C.1 C.2.1 dX10_readSource_93 (by decide) ?_
    refine lv_iadd C.1 C.2.1 dX10_readSource_94 ?_
    refine lv_iload_n C.1 C.2.1 dX10_readSource_95 rfl (lv_at hl 2 rfl) ?_
    obtain ⟨h96, M96, e96, hf⟩ := fm_st_e hf
    refine fm_iast' C E e96 hM_4 h96 dX10_readSource_96 (fun H locs E => ?_)
    obtain rfl := fm_rt1 hf
    exact fm_vret C E rfl dX10_readSource_97
  have L30 : ∀ (w30_v1 : Int32) (n30 : Nat) (v2 : Int32) (M : fm_M) (H : Heap) (locs : List Loc) (ls : Array Slot), fm_Wd shM G M s H locs → lv_has ls 3 [(0, .ref (G.2.1 0)), (1, .int w30_v1), (2, .int v2)] → fm_lp (pModel_readSource_L30 N w30_v1) n30 (v2, M) = some M' → W p l e { frames := 4, cells := 0, slots := 0, locals := 85 } s m args below meth c H locs 0 0 (fm_Z below shM G args s none M') (F0 m 30 ls []) := by
    intro w30_v1 n30
    induction n30 with
    | zero => intro v2 M H locs ls E hl hf; exact fm_lp_0 hf
    | succ n30 ih30 =>
      have J62 : ∀ (M : fm_M) (v2 : Int32) (H : Heap) (locs : List Loc) (ls : Array Slot), fm_Wd shM G M s H locs → lv_has ls 3 [(0, .ref (G.2.1 0)), (1, .int w30_v1), (2, .int v2)] → pModel_readSource_J62 N M w30_v1 v2 (fm_lp (pModel_readSource_L30 N w30_v1) n30) = some M' → W p l e { frames := 4, cells := 0, slots := 0, locals := 85 } s m args below meth c H locs 0 0 (fm_Z below shM G args s none M') (F0 m 62 ls []) := by
        intro M v2 H locs ls E hl hf
        unfold pModel_readSource_J62 at hf
        refine lv_aload_n C.1 C.2.1 dX10_readSource_62 rfl (lv_at hl 0 rfl) ?_
        refine fm_getr C E lf_X10_21 hM_0 rfl dX10_readSource_63 ?_
        refine lv_iload_n C.1 C.2.1 dX10_readSource_66 rfl (lv_at hl 1 rfl) ?_
        refine lv_iconst (v := 3) C.1 C.2.1 dX10_readSource_67 (by decide) ?_
        refine lv_iadd C.1 C.2.1 dX10_readSource_68 ?_
        refine lv_iload_n C.1 C.2.1 dX10_readSource_69 rfl (lv_at hl 2 rfl) ?_
        refine lv_iadd C.1 C.2.1 dX10_readSource_70 ?_
        refine lv_aload_n C.1 C.2.1 dX10_readSource_71 rfl (lv_at hl 0 rfl) ?_
        refine lv_bipush (v := 48) C.1 C.2.1 dX10_readSource_72 (by decide) ?_
        refine lv_bipush (v := 9) C.1 C.2.1 dX10_readSource_74 (by decide) ?_
        obtain ⟨⟨x76, M76⟩, hc76, hf⟩ := fm_bd hf
        dsimp only at hf
        refine fm_callV C E [.int _, .int _] [.int _, .ref _] lm_X10_111 wk_X10_oneOf (c_Model_oneOf l G _ _ _ _ _ hc76) hM_0 rfl rfl rfl hl.1 (by simp [Value.category]) ⟨⟨rfl, rfl⟩, by decide, by decide⟩ ⟨by decide, by decide⟩ dX10_readSource_76 rfl (fun H locs E => ?_)
        refine W.eq (g2 := F0 m 79 ls (.int x76 :: [.int _, .ref _])) rfl ?_
        refine lv_iconst (v := 4) C.1 C.2.1 dX10_readSource_79 (by decide) ?_
        refine lv_isub C.1 C.2.1 dX10_readSource_80 ?_
        obtain ⟨h81, M81, e81, hf⟩ := fm_st_e hf
        refine fm_iast' C E e81 hM_4 h81 dX10_readSource_81 (fun H locs E => ?_)
        refine fm_iinc C (v := 1) (lv' := [(2, .int _), (0, .ref _), (1, .int _)]) (k := 2) hl rfl (by decide) (by decide) rfl dX10_readSource_82 (fun ls hl => ?_)
        refine lv_goto (tgt := 30) C.1 C.2.1 dX10_readSource_85 (by decide) ?_
        exact ih30 _ _ _ _ _ E (lv_sub hl [1, 2, 0] rfl) hf
      intro v2 M H locs ls E hl hf
      have hf : pModel_readSource_L30b N w30_v1 (fm_lp (pModel_readSource_L30 N w30_v1) n30) v2 M = some M' := hf
      unfold pModel_readSource_L30b at hf
      refine lv_aload_n C.1 C.2.1 dX10_readSource_30 rfl (lv_at hl 0 rfl) ?_
      obtain ⟨x31, hc31, hf⟩ := fm_bd hf
      refine fm_callV C E [] [] lm_X10_99 wk_X10_fine (c_Model_fine l G _ _  hc31) hM_0 rfl rfl rfl hl.1 (by simp [Value.category]) ⟨⟨rfl, rfl⟩, by decide, by decide⟩ ⟨by decide, by decide⟩ dX10_readSource_31 rfl (fun H locs E => ?_)
      refine W.eq (g2 := F0 m 34 ls (.int x31 :: [])) rfl ?_
      refine lv_if_eq (tgt := 88) C.1 C.2.1 dX10_readSource_34 (by decide) (fun hc34 => ?_) (fun hc34 => ?_)
      · have hf := fm_ip hf hc34
        exact J88 _ _ _ _ _ _ E (lv_sub hl [0, 1, 2] rfl) hf
      · have hf := fm_in' hf hc34
        refine lv_iload_n C.1 C.2.1 dX10_readSource_37 rfl (lv_at hl 2 rfl) ?_
        refine lv_iconst (v := 2) C.1 C.2.1 dX10_readSource_38 (by decide) ?_
        refine lv_icmp_lt (tgt := 62) C.1 C.2.1 dX10_readSource_39 (by decide) (fun hc39 => ?_) (fun hc39 => ?_)
        · have hf := fm_ip hf hc39
          exact J62 _ _ _ _ _ E (lv_sub hl [0, 1, 2] rfl) hf
        · have hf := fm_in' hf hc39
          refine lv_aload_n C.1 C.2.1 dX10_readSource_42 rfl (lv_at hl 0 rfl) ?_
          obtain ⟨x43, hc43, hf⟩ := fm_bd hf
          refine fm_callV C E [] [] lm_X10_103 wk_X10_here (c_Model_here l G _ _  hc43) hM_0 rfl rfl rfl hl.1 (by simp [Value.category]) ⟨⟨rfl, rfl⟩, by decide, by decide⟩ ⟨by decide, by decide⟩ dX10_readSource_43 rfl (fun H locs E => ?_)
          refine W.eq (g2 := F0 m 46 ls (.int x43 :: [])) rfl ?_
          refine lv_bipush (v := 48) C.1 C.2.1 dX10_readSource_46 (by decide) ?_
          refine lv_bipush (v := 56) C.1 C.2.1 dX10_readSource_48 (by decide) ?_
          obtain ⟨x50, hc50, hf⟩ := fm_bd hf
          refine fm_callS C E [.int _, .int _, .int _] [] lm_X10_83 wk_X10_in (c_Model_in l G _ _ _ _ _  hc50) rfl hl.1 (by simp [Value.category]) ⟨⟨rfl, rfl⟩, by decide, by decide⟩ ⟨by decide, by decide⟩ dX10_readSource_50 rfl (fun H locs E => ?_)
          refine W.eq (g2 := F0 m 53 ls (.int x50 :: [])) rfl ?_
          refine lv_if_eq (tgt := 88) C.1 C.2.1 dX10_readSource_53 (by decide) (fun hc53 => ?_) (fun hc53 => ?_)
          · have hf := fm_ip hf hc53
            exact J88 _ _ _ _ _ _ E (lv_sub hl [0, 1, 2] rfl) hf
          · have hf := fm_in' hf hc53
            refine lv_iload_n C.1 C.2.1 dX10_readSource_56 rfl (lv_at hl 2 rfl) ?_
            refine lv_bipush (v := 12) C.1 C.2.1 dX10_readSource_57 (by decide) ?_
            refine lv_icmp_ge (tgt := 88) C.1 C.2.1 dX10_readSource_59 (by decide) (fun hc59 => ?_) (fun hc59 => ?_)
            · have hf := fm_ip hf hc59
              exact J88 _ _ _ _ _ _ E (lv_sub hl [0, 1, 2] rfl) hf
            · have hf := fm_in' hf hc59
              exact J62 _ _ _ _ _ E (lv_sub hl [0, 1, 2] rfl) hf
  unfold pModel_readSource at hf
  refine lv_aload_n C.1 C.2.1 dX10_readSource_0 rfl (lv_at hl 0 rfl) ?_
  refine fm_getr C E lf_X10_21 hM_0 rfl dX10_readSource_1 ?_
  refine lv_iload_n C.1 C.2.1 dX10_readSource_4 rfl (lv_at hl 1 rfl) ?_
  refine lv_aload_n C.1 C.2.1 dX10_readSource_5 rfl (lv_at hl 0 rfl) ?_
  obtain ⟨⟨x6, M6⟩, hc6, hf⟩ := fm_bd hf
  dsimp only at hf
  refine fm_callV C E [] [.int _, .ref _] lm_X10_135 wk_X10_readSide (c_Model_readSide l G _ _ _ hc6) hM_0 rfl rfl rfl hl.1 (by simp [Value.category]) ⟨⟨rfl, rfl⟩, by decide, by decide⟩ ⟨by decide, by decide⟩ dX10_readSource_6 rfl (fun H locs E => ?_)
  refine W.eq (g2 := F0 m 9 ls (.int x6 :: [.int _, .ref _])) rfl ?_
  obtain ⟨h9, M9, e9, hf⟩ := fm_st_e hf
  refine fm_iast' C E e9 hM_4 h9 dX10_readSource_9 (fun H locs E => ?_)
  refine lv_aload_n C.1 C.2.1 dX10_readSource_10 rfl (lv_at hl 0 rfl) ?_
  refine fm_getr C E lf_X10_21 hM_0 rfl dX10_readSource_11 ?_
  refine lv_iload_n C.1 C.2.1 dX10_readSource_14 rfl (lv_at hl 1 rfl) ?_
  refine lv_iconst (v := 1) C.1 C.2.1 dX10_readSource_15 (by decide) ?_
  refine lv_iadd C.1 C.2.1 dX10_readSource_16 ?_
  refine lv_aload_n C.1 C.2.1 dX10_readSource_17 rfl (lv_at hl 0 rfl) ?_
  refine lv_bipush (v := 49) C.1 C.2.1 dX10_readSource_18 (by decide) ?_
  refine lv_bipush (v := 9) C.1 C.2.1 dX10_readSource_20 (by decide) ?_
  obtain ⟨⟨x22, M22⟩, hc22, hf⟩ := fm_bd hf
  dsimp only at hf
  refine fm_callV C E [.int _, .int _] [.int _, .ref _] lm_X10_111 wk_X10_oneOf (c_Model_oneOf l G _ _ _ _ _ hc22) hM_0 rfl rfl rfl hl.1 (by simp [Value.category]) ⟨⟨rfl, rfl⟩, by decide, by decide⟩ ⟨by decide, by decide⟩ dX10_readSource_22 rfl (fun H locs E => ?_)
  refine W.eq (g2 := F0 m 25 ls (.int x22 :: [.int _, .ref _])) rfl ?_
  refine lv_iconst (v := 1) C.1 C.2.1 dX10_readSource_25 (by decide) ?_
  refine lv_iadd C.1 C.2.1 dX10_readSource_26 ?_
  obtain ⟨h27, M27, e27, hf⟩ := fm_st_e hf
  refine fm_iast' C E e27 hM_4 h27 dX10_readSource_27 (fun H locs E => ?_)
  refine lv_iconst (v := 0) C.1 C.2.1 dX10_readSource_28 (by decide) ?_
  refine lv_istore_n (lv' := [(2, .int _), (0, .ref _), (1, .int _)]) C.1 C.2.1 dX10_readSource_29 rfl hl (by decide) rfl (fun ls hl => ?_)
  exact L30 _ N _ _ _ _ _ E (lv_sub hl [1, 2, 0] rfl) hf
theorem dX10_sources_0 : decode cX10_sources 0 = .ok (.aload_n 0, 1) := by decide +kernel
theorem dX10_sources_1 : decode cX10_sources 1 = .ok (.iconst 0, 1) := by decide +kernel
theorem dX10_sources_2 : decode cX10_sources 2 = .ok (.putfield 77, 3) := by decide +kernel
theorem dX10_sources_5 : decode cX10_sources 5 = .ok (.aload_n 0, 1) := by decide +kernel
theorem dX10_sources_6 : decode cX10_sources 6 = .ok (.invokevirtual 115, 3) := by decide +kernel
theorem dX10_sources_9 : decode cX10_sources 9 = .ok (.iconst 0, 1) := by decide +kernel
theorem dX10_sources_10 : decode cX10_sources 10 = .ok (.istore_n 1, 1) := by decide +kernel
theorem dX10_sources_11 : decode cX10_sources 11 = .ok (.aload_n 0, 1) := by decide +kernel
theorem dX10_sources_12 : decode cX10_sources 12 = .ok (.getfield 90, 3) := by decide +kernel
theorem dX10_sources_15 : decode cX10_sources 15 = .ok (.ifCond .le 7, 3) := by decide +kernel
theorem dX10_sources_18 : decode cX10_sources 18 = .ok (.iconst 1, 1) := by decide +kernel
theorem dX10_sources_19 : decode cX10_sources 19 = .ok (.goto 4, 3) := by decide +kernel
theorem dX10_sources_22 : decode cX10_sources 22 = .ok (.iconst 0, 1) := by decide +kernel
theorem dX10_sources_23 : decode cX10_sources 23 = .ok (.istore_n 2, 1) := by decide +kernel
theorem dX10_sources_24 : decode cX10_sources 24 = .ok (.iload_n 2, 1) := by decide +kernel
theorem dX10_sources_25 : decode cX10_sources 25 = .ok (.ifCond .eq 46, 3) := by decide +kernel
theorem dX10_sources_28 : decode cX10_sources 28 = .ok (.iload_n 1, 1) := by decide +kernel
theorem dX10_sources_29 : decode cX10_sources 29 = .ok (.iconst 4, 1) := by decide +kernel
theorem dX10_sources_30 : decode cX10_sources 30 = .ok (.if_icmp .ne 13, 3) := by decide +kernel
theorem dX10_sources_33 : decode cX10_sources 33 = .ok (.aload_n 0, 1) := by decide +kernel
theorem dX10_sources_34 : decode cX10_sources 34 = .ok (.aload_n 0, 1) := by decide +kernel
theorem dX10_sources_35 : decode cX10_sources 35 = .ok (.getfield 93, 3) := by decide +kernel
theorem dX10_sources_38 : decode cX10_sources 38 = .ok (.iconst 1, 1) := by decide +kernel
theorem dX10_sources_39 : decode cX10_sources 39 = .ok (.isub, 1) := by decide +kernel
theorem dX10_sources_40 : decode cX10_sources 40 = .ok (.invokevirtual 107, 3) := by decide +kernel
theorem dX10_sources_43 : decode cX10_sources 43 = .ok (.aload_n 0, 1) := by decide +kernel
theorem dX10_sources_44 : decode cX10_sources 44 = .ok (.invokevirtual 99, 3) := by decide +kernel
theorem dX10_sources_47 : decode cX10_sources 47 = .ok (.ifCond .eq 11, 3) := by decide +kernel
theorem dX10_sources_50 : decode cX10_sources 50 = .ok (.aload_n 0, 1) := by decide +kernel
theorem dX10_sources_51 : decode cX10_sources 51 = .ok (.bipush 15, 2) := by decide +kernel
theorem dX10_sources_53 : decode cX10_sources 53 = .ok (.iload_n 1, 1) := by decide +kernel
theorem dX10_sources_54 : decode cX10_sources 54 = .ok (.imul, 1) := by decide +kernel
theorem dX10_sources_55 : decode cX10_sources 55 = .ok (.invokevirtual 138, 3) := by decide +kernel
theorem dX10_sources_58 : decode cX10_sources 58 = .ok (.iinc 1 1, 3) := by decide +kernel
theorem dX10_sources_61 : decode cX10_sources 61 = .ok (.aload_n 0, 1) := by decide +kernel
theorem dX10_sources_62 : decode cX10_sources 62 = .ok (.bipush 59, 2) := by decide +kernel
theorem dX10_sources_64 : decode cX10_sources 64 = .ok (.invokevirtual 125, 3) := by decide +kernel
theorem dX10_sources_67 : decode cX10_sources 67 = .ok (.istore_n 2, 1) := by decide +kernel
theorem dX10_sources_68 : decode cX10_sources 68 = .ok (.goto (-44), 3) := by decide +kernel
theorem dX10_sources_71 : decode cX10_sources 71 = .ok (.aload_n 0, 1) := by decide +kernel
theorem dX10_sources_72 : decode cX10_sources 72 = .ok (.invokevirtual 129, 3) := by decide +kernel
theorem dX10_sources_75 : decode cX10_sources 75 = .ok (.ifCond .ne 10, 3) := by decide +kernel
theorem dX10_sources_78 : decode cX10_sources 78 = .ok (.iconst (-1), 1) := by decide +kernel
theorem dX10_sources_79 : decode cX10_sources 79 = .ok (.aload_n 0, 1) := by decide +kernel
theorem dX10_sources_80 : decode cX10_sources 80 = .ok (.getfield 96, 3) := by decide +kernel
theorem dX10_sources_83 : decode cX10_sources 83 = .ok (.isub, 1) := by decide +kernel
theorem dX10_sources_84 : decode cX10_sources 84 = .ok (.ireturn, 1) := by decide +kernel
theorem dX10_sources_85 : decode cX10_sources 85 = .ok (.aload_n 0, 1) := by decide +kernel
theorem dX10_sources_86 : decode cX10_sources 86 = .ok (.invokevirtual 132, 3) := by decide +kernel
theorem dX10_sources_89 : decode cX10_sources 89 = .ok (.aload_n 0, 1) := by decide +kernel
theorem dX10_sources_90 : decode cX10_sources 90 = .ok (.getfield 9, 3) := by decide +kernel
theorem dX10_sources_93 : decode cX10_sources 93 = .ok (.bipush 40, 2) := by decide +kernel
theorem dX10_sources_95 : decode cX10_sources 95 = .ok (.iload_n 1, 1) := by decide +kernel
theorem dX10_sources_96 : decode cX10_sources 96 = .ok (.iastore, 1) := by decide +kernel
theorem dX10_sources_97 : decode cX10_sources 97 = .ok (.iconst 0, 1) := by decide +kernel
theorem dX10_sources_98 : decode cX10_sources 98 = .ok (.istore_n 3, 1) := by decide +kernel
theorem dX10_sources_99 : decode cX10_sources 99 = .ok (.iload_n 3, 1) := by decide +kernel
theorem dX10_sources_100 : decode cX10_sources 100 = .ok (.bipush 60, 2) := by decide +kernel
theorem dX10_sources_102 : decode cX10_sources 102 = .ok (.if_icmp .ge 59, 3) := by decide +kernel
theorem dX10_sources_105 : decode cX10_sources 105 = .ok (.aload_n 0, 1) := by decide +kernel
theorem dX10_sources_106 : decode cX10_sources 106 = .ok (.getfield 9, 3) := by decide +kernel
theorem dX10_sources_109 : decode cX10_sources 109 = .ok (.bipush 41, 2) := by decide +kernel
theorem dX10_sources_111 : decode cX10_sources 111 = .ok (.iload_n 3, 1) := by decide +kernel
theorem dX10_sources_112 : decode cX10_sources 112 = .ok (.iadd, 1) := by decide +kernel
theorem dX10_sources_113 : decode cX10_sources 113 = .ok (.iload_n 3, 1) := by decide +kernel
theorem dX10_sources_114 : decode cX10_sources 114 = .ok (.bipush 15, 2) := by decide +kernel
theorem dX10_sources_116 : decode cX10_sources 116 = .ok (.iload_n 1, 1) := by decide +kernel
theorem dX10_sources_117 : decode cX10_sources 117 = .ok (.imul, 1) := by decide +kernel
theorem dX10_sources_118 : decode cX10_sources 118 = .ok (.if_icmp .ge 35, 3) := by decide +kernel
theorem dX10_sources_121 : decode cX10_sources 121 = .ok (.iload_n 3, 1) := by decide +kernel
theorem dX10_sources_122 : decode cX10_sources 122 = .ok (.bipush 15, 2) := by decide +kernel
theorem dX10_sources_124 : decode cX10_sources 124 = .ok (.irem, 1) := by decide +kernel
theorem dX10_sources_125 : decode cX10_sources 125 = .ok (.iconst 3, 1) := by decide +kernel
theorem dX10_sources_126 : decode cX10_sources 126 = .ok (.aload_n 0, 1) := by decide +kernel
theorem dX10_sources_127 : decode cX10_sources 127 = .ok (.getfield 21, 3) := by decide +kernel
theorem dX10_sources_130 : decode cX10_sources 130 = .ok (.iload_n 3, 1) := by decide +kernel
theorem dX10_sources_131 : decode cX10_sources 131 = .ok (.bipush 15, 2) := by decide +kernel
theorem dX10_sources_133 : decode cX10_sources 133 = .ok (.idiv, 1) := by decide +kernel
theorem dX10_sources_134 : decode cX10_sources 134 = .ok (.bipush 15, 2) := by decide +kernel
theorem dX10_sources_136 : decode cX10_sources 136 = .ok (.imul, 1) := by decide +kernel
theorem dX10_sources_137 : decode cX10_sources 137 = .ok (.iconst 2, 1) := by decide +kernel
theorem dX10_sources_138 : decode cX10_sources 138 = .ok (.iadd, 1) := by decide +kernel
theorem dX10_sources_139 : decode cX10_sources 139 = .ok (.iaload, 1) := by decide +kernel
theorem dX10_sources_140 : decode cX10_sources 140 = .ok (.iadd, 1) := by decide +kernel
theorem dX10_sources_141 : decode cX10_sources 141 = .ok (.if_icmp .ge 12, 3) := by decide +kernel
theorem dX10_sources_144 : decode cX10_sources 144 = .ok (.aload_n 0, 1) := by decide +kernel
theorem dX10_sources_145 : decode cX10_sources 145 = .ok (.getfield 21, 3) := by decide +kernel
theorem dX10_sources_148 : decode cX10_sources 148 = .ok (.iload_n 3, 1) := by decide +kernel
theorem dX10_sources_149 : decode cX10_sources 149 = .ok (.iaload, 1) := by decide +kernel
theorem dX10_sources_150 : decode cX10_sources 150 = .ok (.goto 4, 3) := by decide +kernel
theorem dX10_sources_153 : decode cX10_sources 153 = .ok (.iconst 0, 1) := by decide +kernel
theorem dX10_sources_154 : decode cX10_sources 154 = .ok (.iastore, 1) := by decide +kernel
theorem dX10_sources_155 : decode cX10_sources 155 = .ok (.iinc 3 1, 3) := by decide +kernel
theorem dX10_sources_158 : decode cX10_sources 158 = .ok (.goto (-59), 3) := by decide +kernel
theorem dX10_sources_161 : decode cX10_sources 161 = .ok (.iload_n 1, 1) := by decide +kernel
theorem dX10_sources_162 : decode cX10_sources 162 = .ok (.ireturn, 1) := by decide +kernel
set_option maxHeartbeats 4000000 in
set_option maxRecDepth 100000 in
theorem c_Model_sources (l : Launch) (G : fm_G) (N : Nat) (M : fm_M) (r : Int32) (M' : fm_M) (hf : pModel_sources N M = some (r, M')) : fm_Met l yX10_sources cX10_sources 4 (some .int) { frames := 5, cells := 0, slots := 0, locals := 107 } shM G [.ref (G.2.1 0)] M (some (.int r)) M' := by
  refine fm_enter (by decide) (Nat.le_of_ble_eq_true rfl) ?_
  intro p e s m args below meth c ls C E hl
  have hl : lv_has ls 4 [(0, .ref (G.2.1 0))] := hl
  have L99 : ∀ (w99_v1 : Int32) (n99 : Nat) (v3 : Int32) (M : fm_M) (H : Heap) (locs : List Loc) (ls : Array Slot), fm_Wd shM G M s H locs → lv_has ls 4 [(0, .ref (G.2.1 0)), (1, .int w99_v1), (3, .int v3)] → fm_lp (pModel_sources_L99 N w99_v1) n99 (v3, M) = some (r, M') → W p l e { frames := 5, cells := 0, slots := 0, locals := 107 } s m args below meth c H locs 0 0 (fm_Z below shM G args s (some (.int r)) M') (F0 m 99 ls []) := by
    intro w99_v1 n99
    induction n99 with
    | zero => intro v3 M H locs ls E hl hf; exact fm_lp_0 hf
    | succ n99 ih99 =>
      have J154 : ∀ (M : fm_M) (v3 : Int32) (s1 : Int32) (s2 : Int32) (H : Heap) (locs : List Loc) (ls : Array Slot), fm_Wd shM G M s H locs → lv_has ls 4 [(0, .ref (G.2.1 0)), (1, .int w99_v1), (3, .int v3)] → pModel_sources_J154 N M w99_v1 v3 (fm_lp (pModel_sources_L99 N w99_v1) n99) s1 s2 = some (r, M') → W p l e { frames := 5, cells := 0, slots := 0, locals := 107 } s m args below meth c H locs 0 0 (fm_Z below shM G args s (some (.int r)) M') (F0 m 154 ls [.int s2, .int s1, .ref (G.2.1 1)]) := by
        intro M v3 s1 s2 H locs ls E hl hf
        unfold pModel_sources_J154 at hf
        obtain ⟨h154, M154, e154, hf⟩ := fm_st_e hf
        refine fm_iast' C E e154 hM_1 h154 dX10_sources_154 (fun H locs E => ?_)
        refine fm_iinc C (v := 1) (lv' := [(3, .int _), (0, .ref _), (1, .int _)]) (k := 2) hl rfl (by decide) (by decide) rfl dX10_sources_155 (fun ls hl => ?_)
        refine lv_goto (tgt := 99) C.1 C.2.1 dX10_sources_158 (by decide) ?_
        exact ih99 _ _ _ _ _ E (lv_sub hl [1, 2, 0] rfl) hf
      have J153 : ∀ (M : fm_M) (v3 : Int32) (s1 : Int32) (H : Heap) (locs : List Loc) (ls : Array Slot), fm_Wd shM G M s H locs → lv_has ls 4 [(0, .ref (G.2.1 0)), (1, .int w99_v1), (3, .int v3)] → pModel_sources_J153 N M w99_v1 v3 (fm_lp (pModel_sources_L99 N w99_v1) n99) s1 = some (r, M') → W p l e { frames := 5, cells := 0, slots := 0, locals := 107 } s m args below meth c H locs 0 0 (fm_Z below shM G args s (some (.int r)) M') (F0 m 153 ls [.int s1, .ref (G.2.1 1)]) := by
        intro M v3 s1 H locs ls E hl hf
        unfold pModel_sources_J153 at hf
        refine lv_iconst (v := 0) C.1 C.2.1 dX10_sources_153 (by decide) ?_
        exact J154 _ _ _ _ _ _ _ E (lv_sub hl [0, 1, 2] rfl) hf
      intro v3 M H locs ls E hl hf
      have hf : pModel_sources_L99b N w99_v1 (fm_lp (pModel_sources_L99 N w99_v1) n99) v3 M = some (r, M') := hf
      unfold pModel_sources_L99b at hf
      refine lv_iload_n C.1 C.2.1 dX10_sources_99 rfl (lv_at hl 2 rfl) ?_
      refine lv_bipush (v := 60) C.1 C.2.1 dX10_sources_100 (by decide) ?_
      refine lv_icmp_ge (tgt := 161) C.1 C.2.1 dX10_sources_102 (by decide) (fun hc102 => ?_) (fun hc102 => ?_)
      · have hf := fm_ip hf hc102
        refine lv_iload_n C.1 C.2.1 dX10_sources_161 rfl (lv_at hl 1 rfl) ?_
        obtain ⟨rfl, rfl⟩ := fm_rt2 hf
        exact fm_iret C E rfl rfl dX10_sources_162
      · have hf := fm_in' hf hc102
        refine lv_aload_n C.1 C.2.1 dX10_sources_105 rfl (lv_at hl 0 rfl) ?_
        refine fm_getr C E lf_X10_9 hM_0 rfl dX10_sources_106 ?_
        refine lv_bipush (v := 41) C.1 C.2.1 dX10_sources_109 (by decide) ?_
        refine lv_iload_n C.1 C.2.1 dX10_sources_111 rfl (lv_at hl 2 rfl) ?_
        refine lv_iadd C.1 C.2.1 dX10_sources_112 ?_
        refine lv_iload_n C.1 C.2.1 dX10_sources_113 rfl (lv_at hl 2 rfl) ?_
        refine lv_bipush (v := 15) C.1 C.2.1 dX10_sources_114 (by decide) ?_
        refine lv_iload_n C.1 C.2.1 dX10_sources_116 rfl (lv_at hl 1 rfl) ?_
        refine lv_imul C.1 C.2.1 dX10_sources_117 ?_
        refine lv_icmp_ge (tgt := 153) C.1 C.2.1 dX10_sources_118 (by decide) (fun hc118 => ?_) (fun hc118 => ?_)
        · have hf := fm_ip hf hc118
          exact J153 _ _ _ _ _ _ E (lv_sub hl [0, 1, 2] rfl) hf
        · have hf := fm_in' hf hc118
          refine lv_iload_n C.1 C.2.1 dX10_sources_121 rfl (lv_at hl 2 rfl) ?_
          refine lv_bipush (v := 15) C.1 C.2.1 dX10_sources_122 (by decide) ?_
          refine lv_irem C.1 C.2.1 dX10_sources_124 (by decide) ?_
          refine lv_iconst (v := 3) C.1 C.2.1 dX10_sources_125 (by decide) ?_
          refine lv_aload_n C.1 C.2.1 dX10_sources_126 rfl (lv_at hl 0 rfl) ?_
          refine fm_getr C E lf_X10_21 hM_0 rfl dX10_sources_127 ?_
          refine lv_iload_n C.1 C.2.1 dX10_sources_130 rfl (lv_at hl 2 rfl) ?_
          refine lv_bipush (v := 15) C.1 C.2.1 dX10_sources_131 (by decide) ?_
          refine lv_idiv C.1 C.2.1 dX10_sources_133 (by decide) ?_
          refine lv_bipush (v := 15) C.1 C.2.1 dX10_sources_134 (by decide) ?_
          refine lv_imul C.1 C.2.1 dX10_sources_136 ?_
          refine lv_iconst (v := 2) C.1 C.2.1 dX10_sources_137 (by decide) ?_
          refine lv_iadd C.1 C.2.1 dX10_sources_138 ?_
          obtain ⟨h139, x139, e139, hf⟩ := fm_ld_e hf
          refine fm_iald' C E e139 hM_4 h139 dX10_sources_139 ?_
          refine lv_iadd C.1 C.2.1 dX10_sources_140 ?_
          refine lv_icmp_ge (tgt := 153) C.1 C.2.1 dX10_sources_141 (by decide) (fun hc141 => ?_) (fun hc141 => ?_)
          · have hf := fm_ip hf hc141
            exact J153 _ _ _ _ _ _ E (lv_sub hl [0, 1, 2] rfl) hf
          · have hf := fm_in' hf hc141
            refine lv_aload_n C.1 C.2.1 dX10_sources_144 rfl (lv_at hl 0 rfl) ?_
            refine fm_getr C E lf_X10_21 hM_0 rfl dX10_sources_145 ?_
            refine lv_iload_n C.1 C.2.1 dX10_sources_148 rfl (lv_at hl 2 rfl) ?_
            obtain ⟨h149, x149, e149, hf⟩ := fm_ld_e hf
            refine fm_iald' C E e149 hM_4 h149 dX10_sources_149 ?_
            refine lv_goto (tgt := 154) C.1 C.2.1 dX10_sources_150 (by decide) ?_
            exact J154 _ _ _ _ _ _ _ E (lv_sub hl [0, 1, 2] rfl) hf
  have L24 : ∀ (n24 : Nat) (v1 : Int32) (v2 : Int32) (M : fm_M) (H : Heap) (locs : List Loc) (ls : Array Slot), fm_Wd shM G M s H locs → lv_has ls 4 [(0, .ref (G.2.1 0)), (1, .int v1), (2, .int v2)] → fm_lp (pModel_sources_L24 N) n24 (v1, v2, M) = some (r, M') → W p l e { frames := 5, cells := 0, slots := 0, locals := 107 } s m args below meth c H locs 0 0 (fm_Z below shM G args s (some (.int r)) M') (F0 m 24 ls []) := by
    intro  n24
    induction n24 with
    | zero => intro v1 v2 M H locs ls E hl hf; exact fm_lp_0 hf
    | succ n24 ih24 =>
      have J58 : ∀ (M : fm_M) (v1 : Int32) (H : Heap) (locs : List Loc) (ls : Array Slot), fm_Wd shM G M s H locs → lv_has ls 4 [(0, .ref (G.2.1 0)), (1, .int v1)] → pModel_sources_J58 N M v1 (fm_lp (pModel_sources_L24 N) n24) = some (r, M') → W p l e { frames := 5, cells := 0, slots := 0, locals := 107 } s m args below meth c H locs 0 0 (fm_Z below shM G args s (some (.int r)) M') (F0 m 58 ls []) := by
        intro M v1 H locs ls E hl hf
        unfold pModel_sources_J58 at hf
        refine fm_iinc C (v := 1) (lv' := [(1, .int _), (0, .ref _)]) (k := 1) hl rfl (by decide) (by decide) rfl dX10_sources_58 (fun ls hl => ?_)
        refine lv_aload_n C.1 C.2.1 dX10_sources_61 rfl (lv_at hl 1 rfl) ?_
        refine lv_bipush (v := 59) C.1 C.2.1 dX10_sources_62 (by decide) ?_
        obtain ⟨⟨x64, M64⟩, hc64, hf⟩ := fm_bd hf
        dsimp only at hf
        refine fm_callV C E [.int _] [] lm_X10_125 wk_X10_passes (c_Model_passes l G _ _ _ _ hc64) hM_0 rfl rfl rfl hl.1 (by simp [Value.category]) ⟨⟨rfl, rfl⟩, by decide, by decide⟩ ⟨by decide, by decide⟩ dX10_sources_64 rfl (fun H locs E => ?_)
        refine W.eq (g2 := F0 m 67 ls (.int x64 :: [])) rfl ?_
        refine lv_istore_n (lv' := [(2, .int _), (1, .int _), (0, .ref _)]) C.1 C.2.1 dX10_sources_67 rfl hl (by decide) rfl (fun ls hl => ?_)
        refine lv_goto (tgt := 24) C.1 C.2.1 dX10_sources_68 (by decide) ?_
        exact ih24 _ _ _ _ _ _ E (lv_sub hl [2, 1, 0] rfl) hf
      have J43 : ∀ (M : fm_M) (v1 : Int32) (H : Heap) (locs : List Loc) (ls : Array Slot), fm_Wd shM G M s H locs → lv_has ls 4 [(0, .ref (G.2.1 0)), (1, .int v1)] → pModel_sources_J43 N M v1 (fm_lp (pModel_sources_L24 N) n24) = some (r, M') → W p l e { frames := 5, cells := 0, slots := 0, locals := 107 } s m args below meth c H locs 0 0 (fm_Z below shM G args s (some (.int r)) M') (F0 m 43 ls []) := by
        intro M v1 H locs ls E hl hf
        unfold pModel_sources_J43 at hf
        refine lv_aload_n C.1 C.2.1 dX10_sources_43 rfl (lv_at hl 0 rfl) ?_
        obtain ⟨x44, hc44, hf⟩ := fm_bd hf
        refine fm_callV C E [] [] lm_X10_99 wk_X10_fine (c_Model_fine l G _ _  hc44) hM_0 rfl rfl rfl hl.1 (by simp [Value.category]) ⟨⟨rfl, rfl⟩, by decide, by decide⟩ ⟨by decide, by decide⟩ dX10_sources_44 rfl (fun H locs E => ?_)
        refine W.eq (g2 := F0 m 47 ls (.int x44 :: [])) rfl ?_
        refine lv_if_eq (tgt := 58) C.1 C.2.1 dX10_sources_47 (by decide) (fun hc47 => ?_) (fun hc47 => ?_)
        · have hf := fm_ip hf hc47
          exact J58 _ _ _ _ _ E (lv_sub hl [0, 1] rfl) hf
        · have hf := fm_in' hf hc47
          refine lv_aload_n C.1 C.2.1 dX10_sources_50 rfl (lv_at hl 0 rfl) ?_
          refine lv_bipush (v := 15) C.1 C.2.1 dX10_sources_51 (by decide) ?_
          refine lv_iload_n C.1 C.2.1 dX10_sources_53 rfl (lv_at hl 1 rfl) ?_
          refine lv_imul C.1 C.2.1 dX10_sources_54 ?_
          obtain ⟨M55, hc55, hf⟩ := fm_bd hf
          refine fm_callV C E [.int _] [] lm_X10_138 wk_X10_readSource (c_Model_readSource l G N _ _ _ hc55) hM_0 rfl rfl rfl hl.1 (by simp [Value.category]) ⟨⟨rfl, rfl⟩, by decide, by decide⟩ ⟨by decide, by decide⟩ dX10_sources_55 rfl (fun H locs E => ?_)
          refine W.eq (g2 := F0 m 58 ls []) rfl ?_
          exact J58 _ _ _ _ _ E (lv_sub hl [0, 1] rfl) hf
      intro v1 v2 M H locs ls E hl hf
      have hf : pModel_sources_L24b N (fm_lp (pModel_sources_L24 N) n24) v1 v2 M = some (r, M') := hf
      unfold pModel_sources_L24b at hf
      refine lv_iload_n C.1 C.2.1 dX10_sources_24 rfl (lv_at hl 2 rfl) ?_
      refine lv_if_eq (tgt := 71) C.1 C.2.1 dX10_sources_25 (by decide) (fun hc25 => ?_) (fun hc25 => ?_)
      · have hf := fm_ip hf hc25
        refine lv_aload_n C.1 C.2.1 dX10_sources_71 rfl (lv_at hl 0 rfl) ?_
        obtain ⟨⟨x72, M72⟩, hc72, hf⟩ := fm_bd hf
        dsimp only at hf
        refine fm_callV C E [] [] lm_X10_129 wk_X10_wasRight (c_Model_wasRight l G _ _ _ hc72) hM_0 rfl rfl rfl hl.1 (by simp [Value.category]) ⟨⟨rfl, rfl⟩, by decide, by decide⟩ ⟨by decide, by decide⟩ dX10_sources_72 rfl (fun H locs E => ?_)
        refine W.eq (g2 := F0 m 75 ls (.int x72 :: [])) rfl ?_
        refine lv_if_ne (tgt := 85) C.1 C.2.1 dX10_sources_75 (by decide) (fun hc75 => ?_) (fun hc75 => ?_)
        · have hf := fm_in' hf hc75
          refine lv_aload_n C.1 C.2.1 dX10_sources_85 rfl (lv_at hl 0 rfl) ?_
          obtain ⟨M86, hc86, hf⟩ := fm_bd hf
          refine fm_callV C E [] [] lm_X10_132 wk_X10_change (c_Model_change l G N _ _ hc86) hM_0 rfl rfl rfl hl.1 (by simp [Value.category]) ⟨⟨rfl, rfl⟩, by decide, by decide⟩ ⟨by decide, by decide⟩ dX10_sources_86 rfl (fun H locs E => ?_)
          refine W.eq (g2 := F0 m 89 ls []) rfl ?_
          refine lv_aload_n C.1 C.2.1 dX10_sources_89 rfl (lv_at hl 0 rfl) ?_
          refine fm_getr C E lf_X10_9 hM_0 rfl dX10_sources_90 ?_
          refine lv_bipush (v := 40) C.1 C.2.1 dX10_sources_93 (by decide) ?_
          refine lv_iload_n C.1 C.2.1 dX10_sources_95 rfl (lv_at hl 1 rfl) ?_
          obtain ⟨M96, e96, hf⟩ := fm_pt_s hf
          refine fm_iastc' C E 40 (by decide) e96 hM_1 (by decide) dX10_sources_96 (fun H locs E => ?_)
          refine lv_iconst (v := 0) C.1 C.2.1 dX10_sources_97 (by decide) ?_
          refine lv_istore_n (lv' := [(3, .int _), (0, .ref _), (1, .int _), (2, .int _)]) C.1 C.2.1 dX10_sources_98 rfl hl (by decide) rfl (fun ls hl => ?_)
          exact L99 _ N _ _ _ _ _ E (lv_sub hl [1, 2, 0] rfl) hf
        · have hf := fm_ip hf hc75
          refine lv_iconst (v := (-1)) C.1 C.2.1 dX10_sources_78 (by decide) ?_
          refine lv_aload_n C.1 C.2.1 dX10_sources_79 rfl (lv_at hl 0 rfl) ?_
          refine fm_geti C E lf_X10_96 hM_0 rfl dX10_sources_80 ?_
          refine lv_isub C.1 C.2.1 dX10_sources_83 ?_
          obtain ⟨rfl, rfl⟩ := fm_rt2 hf
          exact fm_iret C E rfl rfl dX10_sources_84
      · have hf := fm_in' hf hc25
        refine lv_iload_n C.1 C.2.1 dX10_sources_28 rfl (lv_at hl 1 rfl) ?_
        refine lv_iconst (v := 4) C.1 C.2.1 dX10_sources_29 (by decide) ?_
        refine lv_icmp_ne (tgt := 43) C.1 C.2.1 dX10_sources_30 (by decide) (fun hc30 => ?_) (fun hc30 => ?_)
        · have hf := fm_in' hf hc30
          exact J43 _ _ _ _ _ E (lv_sub hl [0, 1] rfl) hf
        · have hf := fm_ip hf hc30
          refine lv_aload_n C.1 C.2.1 dX10_sources_33 rfl (lv_at hl 0 rfl) ?_
          refine lv_aload_n C.1 C.2.1 dX10_sources_34 rfl (lv_at hl 0 rfl) ?_
          refine fm_geti C E lf_X10_93 hM_0 rfl dX10_sources_35 ?_
          refine lv_iconst (v := 1) C.1 C.2.1 dX10_sources_38 (by decide) ?_
          refine lv_isub C.1 C.2.1 dX10_sources_39 ?_
          obtain ⟨M40, hc40, hf⟩ := fm_bd hf
          refine fm_callV C E [.int _] [] lm_X10_107 wk_X10_fault (c_Model_fault l G _ _ _ hc40) hM_0 rfl rfl rfl hl.1 (by simp [Value.category]) ⟨⟨rfl, rfl⟩, by decide, by decide⟩ ⟨by decide, by decide⟩ dX10_sources_40 rfl (fun H locs E => ?_)
          refine W.eq (g2 := F0 m 43 ls []) rfl ?_
          exact J43 _ _ _ _ _ E (lv_sub hl [0, 1] rfl) hf
  have J23 : ∀ (M : fm_M) (v1 : Int32) (s0 : Int32) (H : Heap) (locs : List Loc) (ls : Array Slot), fm_Wd shM G M s H locs → lv_has ls 4 [(0, .ref (G.2.1 0)), (1, .int v1)] → pModel_sources_J23 N M v1 s0 = some (r, M') → W p l e { frames := 5, cells := 0, slots := 0, locals := 107 } s m args below meth c H locs 0 0 (fm_Z below shM G args s (some (.int r)) M') (F0 m 23 ls [.int s0]) := by
    intro M v1 s0 H locs ls E hl hf
    unfold pModel_sources_J23 at hf
    refine lv_istore_n (lv' := [(2, .int _), (0, .ref _), (1, .int _)]) C.1 C.2.1 dX10_sources_23 rfl hl (by decide) rfl (fun ls hl => ?_)
    exact L24  N _ _ _ _ _ _ E (lv_sub hl [1, 2, 0] rfl) hf
  unfold pModel_sources at hf
  refine lv_aload_n C.1 C.2.1 dX10_sources_0 rfl (lv_at hl 0 rfl) ?_
  refine lv_iconst (v := 0) C.1 C.2.1 dX10_sources_1 (by decide) ?_
  obtain ⟨M2, e2, hf⟩ := fm_pt_s hf
  refine fm_put' C E e2 lp_X10_77 hM_0 rfl dX10_sources_2 (fun H locs E => ?_)
  refine lv_aload_n C.1 C.2.1 dX10_sources_5 rfl (lv_at hl 0 rfl) ?_
  obtain ⟨M6, hc6, hf⟩ := fm_bd hf
  refine fm_callV C E [] [] lm_X10_115 wk_X10_begin (c_Model_begin l G _ _ hc6) hM_0 rfl rfl rfl hl.1 (by simp [Value.category]) ⟨⟨rfl, rfl⟩, by decide, by decide⟩ ⟨by decide, by decide⟩ dX10_sources_6 rfl (fun H locs E => ?_)
  refine W.eq (g2 := F0 m 9 ls []) rfl ?_
  refine lv_iconst (v := 0) C.1 C.2.1 dX10_sources_9 (by decide) ?_
  refine lv_istore_n (lv' := [(1, .int _), (0, .ref _)]) C.1 C.2.1 dX10_sources_10 rfl hl (by decide) rfl (fun ls hl => ?_)
  refine lv_aload_n C.1 C.2.1 dX10_sources_11 rfl (lv_at hl 1 rfl) ?_
  refine fm_geti C E lf_X10_90 hM_0 rfl dX10_sources_12 ?_
  refine lv_if_le (tgt := 22) C.1 C.2.1 dX10_sources_15 (by decide) (fun hc15 => ?_) (fun hc15 => ?_)
  · have hf := fm_ip hf hc15
    refine lv_iconst (v := 0) C.1 C.2.1 dX10_sources_22 (by decide) ?_
    exact J23 _ _ _ _ _ _ E (lv_sub hl [1, 0] rfl) hf
  · have hf := fm_in' hf hc15
    refine lv_iconst (v := 1) C.1 C.2.1 dX10_sources_18 (by decide) ?_
    refine lv_goto (tgt := 23) C.1 C.2.1 dX10_sources_19 (by decide) ?_
    exact J23 _ _ _ _ _ _ E (lv_sub hl [1, 0] rfl) hf
theorem dJ0_length_8abf5_0 : decode cJ0_length_8abf5 0 = .ok (.aload_n 0, 1) := by decide +kernel
theorem dJ0_length_8abf5_1 : decode cJ0_length_8abf5 1 = .ok (.getfield 9, 3) := by decide +kernel
theorem dJ0_length_8abf5_4 : decode cJ0_length_8abf5 4 = .ok (.arraylength, 1) := by decide +kernel
theorem dJ0_length_8abf5_5 : decode cJ0_length_8abf5 5 = .ok (.aload_n 0, 1) := by decide +kernel
theorem dJ0_length_8abf5_6 : decode cJ0_length_8abf5 6 = .ok (.invokevirtual 335, 3) := by decide +kernel
theorem dJ0_length_8abf5_9 : decode cJ0_length_8abf5 9 = .ok (.ishr, 1) := by decide +kernel
theorem dJ0_length_8abf5_10 : decode cJ0_length_8abf5 10 = .ok (.ireturn, 1) := by decide +kernel
set_option maxHeartbeats 4000000 in
set_option maxRecDepth 100000 in
theorem c_String_length (l : Launch) (SH : List fm_Sh) (G : fm_G) (M : fm_M) (v0 : Nat) (r : Int32) (hf : pString_length M v0 = some r) : fm_Met l yJ0_length_8abf5 cJ0_length_8abf5 1 (some .int) { frames := 1, cells := 0, slots := 0, locals := 20 } SH G [.ref (G.2.2.2.1 v0)] M (some (.int r)) M := by
  refine fm_enterF (by decide +kernel) (Nat.le_of_ble_eq_true rfl) ?_
  intro p e s m args below meth c ls C E hl
  have hl : lv_has ls 1 [(0, .ref (G.2.2.2.1 v0))] := hl
  unfold pString_length at hf
  obtain ⟨hi_v0, hf⟩ := fm_rq_s hf
  have hi_v0 := of_decide_eq_true hi_v0
  refine lv_aload_n C.1 C.2.1 dJ0_length_8abf5_0 rfl (lv_at hl 0 rfl) ?_
  refine fm_sva C E hi_v0 wf_1713 dJ0_length_8abf5_1 ?_
  refine fm_sln C E hi_v0 dJ0_length_8abf5_4 ?_
  refine lv_aload_n C.1 C.2.1 dJ0_length_8abf5_5 rfl (lv_at hl 0 rfl) ?_
  obtain ⟨x6, hc6, hf⟩ := fm_bd hf
  refine fm_callT C E [] [.int _] lm_J0_335 wk_J0_coder_7d493 (c_String_coder l _ G _ _ _  hc6) (of_decide_eq_true (fm_rq_s hc6).1) rfl rfl hl.1 (by simp [Value.category]) ⟨⟨rfl, rfl⟩, by decide, by decide⟩ ⟨by decide, by decide⟩ dJ0_length_8abf5_6 rfl (fun H locs E => ?_)
  refine W.eq (g2 := F0 m 9 ls (.int x6 :: [.int _])) rfl ?_
  refine lv_ishr C.1 C.2.1 dJ0_length_8abf5_9 ?_
  obtain rfl := fm_rt1 hf
  exact fm_iret C E rfl rfl dJ0_length_8abf5_10
theorem dJ0_charAt_5068e_0 : decode cJ0_charAt_5068e 0 = .ok (.aload_n 0, 1) := by decide +kernel
theorem dJ0_charAt_5068e_1 : decode cJ0_charAt_5068e 1 = .ok (.invokevirtual 492, 3) := by decide +kernel
theorem dJ0_charAt_5068e_4 : decode cJ0_charAt_5068e 4 = .ok (.ifCond .eq 12, 3) := by decide +kernel
theorem dJ0_charAt_5068e_7 : decode cJ0_charAt_5068e 7 = .ok (.aload_n 0, 1) := by decide +kernel
theorem dJ0_charAt_5068e_8 : decode cJ0_charAt_5068e 8 = .ok (.getfield 9, 3) := by decide +kernel
theorem dJ0_charAt_5068e_11 : decode cJ0_charAt_5068e 11 = .ok (.iload_n 1, 1) := by decide +kernel
theorem dJ0_charAt_5068e_12 : decode cJ0_charAt_5068e 12 = .ok (.invokestatic 495, 3) := by decide +kernel
theorem dJ0_charAt_5068e_15 : decode cJ0_charAt_5068e 15 = .ok (.ireturn, 1) := by decide +kernel
theorem dJ0_charAt_5068e_16 : decode cJ0_charAt_5068e 16 = .ok (.aload_n 0, 1) := by decide +kernel
theorem dJ0_charAt_5068e_17 : decode cJ0_charAt_5068e 17 = .ok (.getfield 9, 3) := by decide +kernel
theorem dJ0_charAt_5068e_20 : decode cJ0_charAt_5068e 20 = .ok (.iload_n 1, 1) := by decide +kernel
theorem dJ0_charAt_5068e_21 : decode cJ0_charAt_5068e 21 = .ok (.invokestatic 498, 3) := by decide +kernel
theorem dJ0_charAt_5068e_24 : decode cJ0_charAt_5068e 24 = .ok (.ireturn, 1) := by decide +kernel
set_option maxHeartbeats 4000000 in
set_option maxRecDepth 100000 in
theorem c_String_charAt (l : Launch) (SH : List fm_Sh) (G : fm_G) (M : fm_M) (v0 : Nat) (v1 : Int32) (r : Int32) (hf : pString_charAt M v0 v1 = some r) : fm_Met l yJ0_charAt_5068e cJ0_charAt_5068e 2 (some .char) { frames := 3, cells := 0, slots := 0, locals := 64 } SH G [.ref (G.2.2.2.1 v0), .int v1] M (some (.int r)) M := by
  refine fm_enterF (by decide +kernel) (Nat.le_of_ble_eq_true rfl) ?_
  intro p e s m args below meth c ls C E hl
  have hl : lv_has ls 2 [(0, .ref (G.2.2.2.1 v0)), (1, .int v1)] := hl
  unfold pString_charAt at hf
  obtain ⟨hi_v0, hf⟩ := fm_rq_s hf
  have hi_v0 := of_decide_eq_true hi_v0
  refine lv_aload_n C.1 C.2.1 dJ0_charAt_5068e_0 rfl (lv_at hl 0 rfl) ?_
  obtain ⟨x1, hc1, hf⟩ := fm_bd hf
  refine fm_callT C E [] [] lm_J0_492 wk_J0_isLatin1_aae02 (c_String_isLatin1 l _ G _ _ _  hc1) (of_decide_eq_true (fm_rq_s hc1).1) rfl rfl hl.1 (by simp [Value.category]) ⟨⟨rfl, rfl⟩, by decide, by decide⟩ ⟨by decide, by decide⟩ dJ0_charAt_5068e_1 rfl (fun H locs E => ?_)
  refine W.eq (g2 := F0 m 4 ls (.int x1 :: [])) rfl ?_
  refine lv_if_eq (tgt := 16) C.1 C.2.1 dJ0_charAt_5068e_4 (by decide) (fun hc4 => ?_) (fun hc4 => ?_)
  · have hf := fm_ip hf hc4
    refine lv_aload_n C.1 C.2.1 dJ0_charAt_5068e_16 rfl (lv_at hl 0 rfl) ?_
    refine fm_sva C E hi_v0 wf_1713 dJ0_charAt_5068e_17 ?_
    refine lv_iload_n C.1 C.2.1 dJ0_charAt_5068e_20 rfl (lv_at hl 1 rfl) ?_
    cases hf
  · have hf := fm_in' hf hc4
    refine lv_aload_n C.1 C.2.1 dJ0_charAt_5068e_7 rfl (lv_at hl 0 rfl) ?_
    refine fm_sva C E hi_v0 wf_1713 dJ0_charAt_5068e_8 ?_
    refine lv_iload_n C.1 C.2.1 dJ0_charAt_5068e_11 rfl (lv_at hl 1 rfl) ?_
    obtain ⟨x12, hc12, hf⟩ := fm_bd hf
    refine fm_callS C E [.ref _, .int _] [] lm_J0_495 wk_J1_charAt_3b067 (c_Latin1_charAt l _ G _ _ _ _  hc12) rfl hl.1 (by simp [Value.category]) ⟨⟨rfl, rfl⟩, by decide, by decide⟩ ⟨by decide, by decide⟩ dJ0_charAt_5068e_12 rfl (fun H locs E => ?_)
    refine W.eq (g2 := F0 m 15 ls (.int x12 :: [])) rfl ?_
    obtain ⟨hn15, hf⟩ := fm_co_s hf
    obtain rfl := fm_rt1 hf
    exact fm_iret C E rfl hn15 dJ0_charAt_5068e_15
theorem dJ1_indexOf_4cfef_0 : decode cJ1_indexOf_4cfef 0 = .ok (.iload_n 1, 1) := by decide +kernel
theorem dJ1_indexOf_4cfef_1 : decode cJ1_indexOf_4cfef 1 = .ok (.invokestatic 88, 3) := by decide +kernel
theorem dJ1_indexOf_4cfef_4 : decode cJ1_indexOf_4cfef 4 = .ok (.ifCond .ne 5, 3) := by decide +kernel
theorem dJ1_indexOf_4cfef_7 : decode cJ1_indexOf_4cfef 7 = .ok (.iconst (-1), 1) := by decide +kernel
theorem dJ1_indexOf_4cfef_8 : decode cJ1_indexOf_4cfef 8 = .ok (.ireturn, 1) := by decide +kernel
theorem dJ1_indexOf_4cfef_9 : decode cJ1_indexOf_4cfef 9 = .ok (.iload_n 2, 1) := by decide +kernel
theorem dJ1_indexOf_4cfef_10 : decode cJ1_indexOf_4cfef 10 = .ok (.iconst 0, 1) := by decide +kernel
theorem dJ1_indexOf_4cfef_11 : decode cJ1_indexOf_4cfef 11 = .ok (.invokestatic 92, 3) := by decide +kernel
theorem dJ1_indexOf_4cfef_14 : decode cJ1_indexOf_4cfef 14 = .ok (.istore_n 2, 1) := by decide +kernel
theorem dJ1_indexOf_4cfef_15 : decode cJ1_indexOf_4cfef 15 = .ok (.iload_n 3, 1) := by decide +kernel
theorem dJ1_indexOf_4cfef_16 : decode cJ1_indexOf_4cfef 16 = .ok (.aload_n 0, 1) := by decide +kernel
theorem dJ1_indexOf_4cfef_17 : decode cJ1_indexOf_4cfef 17 = .ok (.arraylength, 1) := by decide +kernel
theorem dJ1_indexOf_4cfef_18 : decode cJ1_indexOf_4cfef 18 = .ok (.invokestatic 38, 3) := by decide +kernel
theorem dJ1_indexOf_4cfef_21 : decode cJ1_indexOf_4cfef 21 = .ok (.istore_n 3, 1) := by decide +kernel
theorem dJ1_indexOf_4cfef_22 : decode cJ1_indexOf_4cfef 22 = .ok (.iload_n 2, 1) := by decide +kernel
theorem dJ1_indexOf_4cfef_23 : decode cJ1_indexOf_4cfef 23 = .ok (.iload_n 3, 1) := by decide +kernel
theorem dJ1_indexOf_4cfef_24 : decode cJ1_indexOf_4cfef 24 = .ok (.if_icmp .lt 5, 3) := by decide +kernel
theorem dJ1_indexOf_4cfef_27 : decode cJ1_indexOf_4cfef 27 = .ok (.iconst (-1), 1) := by decide +kernel
theorem dJ1_indexOf_4cfef_28 : decode cJ1_indexOf_4cfef 28 = .ok (.ireturn, 1) := by decide +kernel
theorem dJ1_indexOf_4cfef_29 : decode cJ1_indexOf_4cfef 29 = .ok (.aload_n 0, 1) := by decide +kernel
theorem dJ1_indexOf_4cfef_30 : decode cJ1_indexOf_4cfef 30 = .ok (.iload_n 1, 1) := by decide +kernel
theorem dJ1_indexOf_4cfef_31 : decode cJ1_indexOf_4cfef 31 = .ok (.iload_n 2, 1) := by decide +kernel
theorem dJ1_indexOf_4cfef_32 : decode cJ1_indexOf_4cfef 32 = .ok (.iload_n 3, 1) := by decide +kernel
theorem dJ1_indexOf_4cfef_33 : decode cJ1_indexOf_4cfef 33 = .ok (.invokestatic 95, 3) := by decide +kernel
theorem dJ1_indexOf_4cfef_36 : decode cJ1_indexOf_4cfef 36 = .ok (.ireturn, 1) := by decide +kernel
set_option maxHeartbeats 4000000 in
set_option maxRecDepth 100000 in
theorem c_Latin1_indexOf (l : Launch) (SH : List fm_Sh) (G : fm_G) (N : Nat) (M : fm_M) (v0 : Nat) (v1 : Int32) (v2 : Int32) (v3 : Int32) (r : Int32) (hf : pLatin1_indexOf N M v0 v1 v2 v3 = some r) : fm_Met l yJ1_indexOf_4cfef cJ1_indexOf_4cfef 4 (some .int) { frames := 1, cells := 0, slots := 0, locals := 25 } SH G [.ref (G.2.2.2.2 v0), .int v1, .int v2, .int v3] M (some (.int r)) M := by
  refine fm_enterF (by decide +kernel) (Nat.le_of_ble_eq_true rfl) ?_
  intro p e s m args below meth c ls C E hl
  have hl : lv_has ls 4 [(0, .ref (G.2.2.2.2 v0)), (1, .int v1), (2, .int v2), (3, .int v3)] := hl
  unfold pLatin1_indexOf at hf
  obtain ⟨hi_v0, hf⟩ := fm_rq_s hf
  have hi_v0 := of_decide_eq_true hi_v0
  refine lv_iload_n C.1 C.2.1 dJ1_indexOf_4cfef_0 rfl (lv_at hl 1 rfl) ?_
  obtain ⟨x1, hc1, hf⟩ := fm_bd hf
  refine fm_callS C E [.int _] [] lm_J1_88 wk_J1_canEncode_9a6ad (c_Latin1_canEncode l _ G _ _ _  hc1) rfl hl.1 (by simp [Value.category]) ⟨⟨rfl, rfl⟩, by decide, by decide⟩ ⟨by decide, by decide⟩ dJ1_indexOf_4cfef_1 rfl (fun H locs E => ?_)
  refine W.eq (g2 := F0 m 4 ls (.int x1 :: [])) rfl ?_
  refine lv_if_ne (tgt := 9) C.1 C.2.1 dJ1_indexOf_4cfef_4 (by decide) (fun hc4 => ?_) (fun hc4 => ?_)
  · have hf := fm_in' hf hc4
    refine lv_iload_n C.1 C.2.1 dJ1_indexOf_4cfef_9 rfl (lv_at hl 2 rfl) ?_
    refine lv_iconst (v := 0) C.1 C.2.1 dJ1_indexOf_4cfef_10 (by decide) ?_
    refine fm_max C wv_max wm_1617 hl.1 ⟨by decide, by decide⟩ (by simp [Value.category]) ⟨by decide, by decide⟩ dJ1_indexOf_4cfef_11 ?_
    refine lv_istore_n (lv' := [(2, .int _), (0, .ref _), (1, .int _), (3, .int _)]) C.1 C.2.1 dJ1_indexOf_4cfef_14 rfl hl (by decide) rfl (fun ls hl => ?_)
    refine lv_iload_n C.1 C.2.1 dJ1_indexOf_4cfef_15 rfl (lv_at hl 3 rfl) ?_
    refine lv_aload_n C.1 C.2.1 dJ1_indexOf_4cfef_16 rfl (lv_at hl 1 rfl) ?_
    refine fm_sln C E hi_v0 dJ1_indexOf_4cfef_17 ?_
    refine fm_min C wv_min wm_1618 hl.1 ⟨by decide, by decide⟩ (by simp [Value.category]) ⟨by decide, by decide⟩ dJ1_indexOf_4cfef_18 ?_
    refine lv_istore_n (lv' := [(3, .int _), (2, .int _), (0, .ref _), (1, .int _)]) C.1 C.2.1 dJ1_indexOf_4cfef_21 rfl hl (by decide) rfl (fun ls hl => ?_)
    refine lv_iload_n C.1 C.2.1 dJ1_indexOf_4cfef_22 rfl (lv_at hl 1 rfl) ?_
    refine lv_iload_n C.1 C.2.1 dJ1_indexOf_4cfef_23 rfl (lv_at hl 0 rfl) ?_
    refine lv_icmp_lt (tgt := 29) C.1 C.2.1 dJ1_indexOf_4cfef_24 (by decide) (fun hc24 => ?_) (fun hc24 => ?_)
    · have hf := fm_ip hf hc24
      refine lv_aload_n C.1 C.2.1 dJ1_indexOf_4cfef_29 rfl (lv_at hl 2 rfl) ?_
      refine lv_iload_n C.1 C.2.1 dJ1_indexOf_4cfef_30 rfl (lv_at hl 3 rfl) ?_
      refine lv_iload_n C.1 C.2.1 dJ1_indexOf_4cfef_31 rfl (lv_at hl 1 rfl) ?_
      refine lv_iload_n C.1 C.2.1 dJ1_indexOf_4cfef_32 rfl (lv_at hl 0 rfl) ?_
      obtain ⟨x33, hc33, hf⟩ := fm_bd hf
      refine fm_callS C E [.ref _, .int _, .int _, .int _] [] lm_J1_95 wk_J1_indexOfChar_4cfef (c_Latin1_indexOfChar l _ G N _ _ _ _ _ _  hc33) rfl hl.1 (by simp [Value.category]) ⟨⟨rfl, rfl⟩, by decide, by decide⟩ ⟨by decide, by decide⟩ dJ1_indexOf_4cfef_33 rfl (fun H locs E => ?_)
      refine W.eq (g2 := F0 m 36 ls (.int x33 :: [])) rfl ?_
      obtain rfl := fm_rt1 hf
      exact fm_iret C E rfl rfl dJ1_indexOf_4cfef_36
    · have hf := fm_in' hf hc24
      refine lv_iconst (v := (-1)) C.1 C.2.1 dJ1_indexOf_4cfef_27 (by decide) ?_
      obtain rfl := fm_rt1 hf
      exact fm_iret C E rfl rfl dJ1_indexOf_4cfef_28
  · have hf := fm_ip hf hc4
    refine lv_iconst (v := (-1)) C.1 C.2.1 dJ1_indexOf_4cfef_7 (by decide) ?_
    obtain rfl := fm_rt1 hf
    exact fm_iret C E rfl rfl dJ1_indexOf_4cfef_8
theorem dX0_learn_0 : decode cX0_learn 0 = .ok (.aload_n 0, 1) := by decide +kernel
theorem dX0_learn_1 : decode cX0_learn 1 = .ok (.getfield 29, 3) := by decide +kernel
theorem dX0_learn_4 : decode cX0_learn 4 = .ok (.iconst 0, 1) := by decide +kernel
theorem dX0_learn_5 : decode cX0_learn 5 = .ok (.invokestatic 82, 3) := by decide +kernel
theorem dX0_learn_8 : decode cX0_learn 8 = .ok (.aload_n 0, 1) := by decide +kernel
theorem dX0_learn_9 : decode cX0_learn 9 = .ok (.getfield 32, 3) := by decide +kernel
theorem dX0_learn_12 : decode cX0_learn 12 = .ok (.iconst 0, 1) := by decide +kernel
theorem dX0_learn_13 : decode cX0_learn 13 = .ok (.invokestatic 82, 3) := by decide +kernel
theorem dX0_learn_16 : decode cX0_learn 16 = .ok (.iconst 1, 1) := by decide +kernel
theorem dX0_learn_17 : decode cX0_learn 17 = .ok (.istore_n 1, 1) := by decide +kernel
theorem dX0_learn_18 : decode cX0_learn 18 = .ok (.iconst 0, 1) := by decide +kernel
theorem dX0_learn_19 : decode cX0_learn 19 = .ok (.istore_n 2, 1) := by decide +kernel
theorem dX0_learn_20 : decode cX0_learn 20 = .ok (.iload_n 2, 1) := by decide +kernel
theorem dX0_learn_21 : decode cX0_learn 21 = .ok (.iconst 3, 1) := by decide +kernel
theorem dX0_learn_22 : decode cX0_learn 22 = .ok (.if_icmp .ge 92, 3) := by decide +kernel
theorem dX0_learn_25 : decode cX0_learn 25 = .ok (.iload_n 1, 1) := by decide +kernel
theorem dX0_learn_26 : decode cX0_learn 26 = .ok (.ifCond .eq 88, 3) := by decide +kernel
theorem dX0_learn_29 : decode cX0_learn 29 = .ok (.iconst 0, 1) := by decide +kernel
theorem dX0_learn_30 : decode cX0_learn 30 = .ok (.istore_n 1, 1) := by decide +kernel
theorem dX0_learn_31 : decode cX0_learn 31 = .ok (.iconst 0, 1) := by decide +kernel
theorem dX0_learn_32 : decode cX0_learn 32 = .ok (.istore_n 3, 1) := by decide +kernel
theorem dX0_learn_33 : decode cX0_learn 33 = .ok (.iload_n 3, 1) := by decide +kernel
theorem dX0_learn_34 : decode cX0_learn 34 = .ok (.aload_n 0, 1) := by decide +kernel
theorem dX0_learn_35 : decode cX0_learn 35 = .ok (.getfield 75, 3) := by decide +kernel
theorem dX0_learn_38 : decode cX0_learn 38 = .ok (.if_icmp .ge 70, 3) := by decide +kernel
theorem dX0_learn_41 : decode cX0_learn 41 = .ok (.aload_n 0, 1) := by decide +kernel
theorem dX0_learn_42 : decode cX0_learn 42 = .ok (.getfield 29, 3) := by decide +kernel
theorem dX0_learn_45 : decode cX0_learn 45 = .ok (.iload_n 3, 1) := by decide +kernel
theorem dX0_learn_46 : decode cX0_learn 46 = .ok (.iaload, 1) := by decide +kernel
theorem dX0_learn_47 : decode cX0_learn 47 = .ok (.istore 4, 2) := by decide +kernel
theorem dX0_learn_49 : decode cX0_learn 49 = .ok (.aload_n 0, 1) := by decide +kernel
theorem dX0_learn_50 : decode cX0_learn 50 = .ok (.iload_n 3, 1) := by decide +kernel
theorem dX0_learn_51 : decode cX0_learn 51 = .ok (.iload 4, 2) := by decide +kernel
theorem dX0_learn_53 : decode cX0_learn 53 = .ok (.ineg, 1) := by decide +kernel
theorem dX0_learn_54 : decode cX0_learn 54 = .ok (.invokevirtual 88, 3) := by decide +kernel
theorem dX0_learn_57 : decode cX0_learn 57 = .ok (.aload_n 0, 1) := by decide +kernel
theorem dX0_learn_58 : decode cX0_learn 58 = .ok (.getfield 29, 3) := by decide +kernel
theorem dX0_learn_61 : decode cX0_learn 61 = .ok (.iload_n 3, 1) := by decide +kernel
theorem dX0_learn_62 : decode cX0_learn 62 = .ok (.aload_n 0, 1) := by decide +kernel
theorem dX0_learn_63 : decode cX0_learn 63 = .ok (.iload_n 3, 1) := by decide +kernel
theorem dX0_learn_64 : decode cX0_learn 64 = .ok (.iload 4, 2) := by decide +kernel
theorem dX0_learn_66 : decode cX0_learn 66 = .ok (.invokevirtual 92, 3) := by decide +kernel
theorem dX0_learn_69 : decode cX0_learn 69 = .ok (.iastore, 1) := by decide +kernel
theorem dX0_learn_70 : decode cX0_learn 70 = .ok (.aload_n 0, 1) := by decide +kernel
theorem dX0_learn_71 : decode cX0_learn 71 = .ok (.iload_n 3, 1) := by decide +kernel
theorem dX0_learn_72 : decode cX0_learn 72 = .ok (.aload_n 0, 1) := by decide +kernel
theorem dX0_learn_73 : decode cX0_learn 73 = .ok (.getfield 29, 3) := by decide +kernel
theorem dX0_learn_76 : decode cX0_learn 76 = .ok (.iload_n 3, 1) := by decide +kernel
theorem dX0_learn_77 : decode cX0_learn 77 = .ok (.iaload, 1) := by decide +kernel
theorem dX0_learn_78 : decode cX0_learn 78 = .ok (.invokevirtual 88, 3) := by decide +kernel
theorem dX0_learn_81 : decode cX0_learn 81 = .ok (.iload_n 1, 1) := by decide +kernel
theorem dX0_learn_82 : decode cX0_learn 82 = .ok (.ifCond .ne 14, 3) := by decide +kernel
theorem dX0_learn_85 : decode cX0_learn 85 = .ok (.aload_n 0, 1) := by decide +kernel
theorem dX0_learn_86 : decode cX0_learn 86 = .ok (.getfield 29, 3) := by decide +kernel
theorem dX0_learn_89 : decode cX0_learn 89 = .ok (.iload_n 3, 1) := by decide +kernel
theorem dX0_learn_90 : decode cX0_learn 90 = .ok (.iaload, 1) := by decide +kernel
theorem dX0_learn_91 : decode cX0_learn 91 = .ok (.iload 4, 2) := by decide +kernel
theorem dX0_learn_93 : decode cX0_learn 93 = .ok (.if_icmp .eq 7, 3) := by decide +kernel
theorem dX0_learn_96 : decode cX0_learn 96 = .ok (.iconst 1, 1) := by decide +kernel
theorem dX0_learn_97 : decode cX0_learn 97 = .ok (.goto 4, 3) := by decide +kernel
theorem dX0_learn_100 : decode cX0_learn 100 = .ok (.iconst 0, 1) := by decide +kernel
theorem dX0_learn_101 : decode cX0_learn 101 = .ok (.istore_n 1, 1) := by decide +kernel
theorem dX0_learn_102 : decode cX0_learn 102 = .ok (.iinc 3 1, 3) := by decide +kernel
theorem dX0_learn_105 : decode cX0_learn 105 = .ok (.goto (-72), 3) := by decide +kernel
theorem dX0_learn_108 : decode cX0_learn 108 = .ok (.iinc 2 1, 3) := by decide +kernel
theorem dX0_learn_111 : decode cX0_learn 111 = .ok (.goto (-91), 3) := by decide +kernel
theorem dX0_learn_114 : decode cX0_learn 114 = .ok (.return_, 1) := by decide +kernel
set_option maxHeartbeats 4000000 in
set_option maxRecDepth 100000 in
theorem c_Bench_learn (l : Launch) (G : fm_G) (N : Nat) (M : fm_M) (M' : fm_M) (hf : pBench_learn N M = some M') : fm_Met l yX0_learn cX0_learn 5 none { frames := 2, cells := 0, slots := 0, locals := 58 } shC G [.ref (G.2.1 181)] M none M' := by
  refine fm_enter (by decide) (Nat.le_of_ble_eq_true rfl) ?_
  intro p e s m args below meth c ls C E hl
  have hl : lv_has ls 5 [(0, .ref (G.2.1 181))] := hl
  have L20 : ∀ (n20 : Nat) (v1 : Int32) (v2 : Int32) (M : fm_M) (H : Heap) (locs : List Loc) (ls : Array Slot), fm_Wd shC G M s H locs → lv_has ls 5 [(0, .ref (G.2.1 181)), (1, .int v1), (2, .int v2)] → fm_lp (pBench_learn_L20 N) n20 (v1, v2, M) = some M' → W p l e { frames := 2, cells := 0, slots := 0, locals := 58 } s m args below meth c H locs 0 0 (fm_Z below shC G args s none M') (F0 m 20 ls []) := by
    intro  n20
    induction n20 with
    | zero => intro v1 v2 M H locs ls E hl hf; exact fm_lp_0 hf
    | succ n20 ih20 =>
      have L33 : ∀ (w33_v2 : Int32) (n33 : Nat) (v1 : Int32) (v3 : Int32) (M : fm_M) (H : Heap) (locs : List Loc) (ls : Array Slot), fm_Wd shC G M s H locs → lv_has ls 5 [(0, .ref (G.2.1 181)), (1, .int v1), (2, .int w33_v2), (3, .int v3)] → fm_lp (pBench_learn_L33 N w33_v2 (fm_lp (pBench_learn_L20 N) n20)) n33 (v1, v3, M) = some M' → W p l e { frames := 2, cells := 0, slots := 0, locals := 58 } s m args below meth c H locs 0 0 (fm_Z below shC G args s none M') (F0 m 33 ls []) := by
        intro w33_v2 n33
        induction n33 with
        | zero => intro v1 v3 M H locs ls E hl hf; exact fm_lp_0 hf
        | succ n33 ih33 =>
          intro v1 v3 M H locs ls E hl hf
          have hf : pBench_learn_L33b N w33_v2 (fm_lp (pBench_learn_L20 N) n20) (fm_lp (pBench_learn_L33 N w33_v2 (fm_lp (pBench_learn_L20 N) n20)) n33) v1 v3 M = some M' := hf
          unfold pBench_learn_L33b at hf
          refine lv_iload_n C.1 C.2.1 dX0_learn_33 rfl (lv_at hl 3 rfl) ?_
          refine lv_aload_n C.1 C.2.1 dX0_learn_34 rfl (lv_at hl 0 rfl) ?_
          refine fm_geti C E lf_X0_75 hC_181 rfl dX0_learn_35 ?_
          refine lv_icmp_ge (tgt := 108) C.1 C.2.1 dX0_learn_38 (by decide) (fun hc38 => ?_) (fun hc38 => ?_)
          · have hf := fm_ip hf hc38
            refine fm_iinc C (v := 1) (lv' := [(2, .int _), (0, .ref _), (1, .int _), (3, .int _)]) (k := 2) hl rfl (by decide) (by decide) rfl dX0_learn_108 (fun ls hl => ?_)
            refine lv_goto (tgt := 20) C.1 C.2.1 dX0_learn_111 (by decide) ?_
            exact ih20 _ _ _ _ _ _ E (lv_sub hl [1, 2, 0] rfl) hf
          · have hf := fm_in' hf hc38
            refine lv_aload_n C.1 C.2.1 dX0_learn_41 rfl (lv_at hl 0 rfl) ?_
            refine fm_getr C E lf_X0_29 hC_181 rfl dX0_learn_42 ?_
            refine lv_iload_n C.1 C.2.1 dX0_learn_45 rfl (lv_at hl 3 rfl) ?_
            obtain ⟨h46, x46, e46, hf⟩ := fm_ld_e hf
            refine fm_iald' C E e46 hC_198 h46 dX0_learn_46 ?_
            refine lv_istore (lv' := [(4, .int _), (0, .ref _), (1, .int _), (2, .int _), (3, .int _)]) C.1 C.2.1 dX0_learn_47 hl (by decide) rfl (fun ls hl => ?_)
            refine lv_aload_n C.1 C.2.1 dX0_learn_49 rfl (lv_at hl 1 rfl) ?_
            refine lv_iload_n C.1 C.2.1 dX0_learn_50 rfl (lv_at hl 4 rfl) ?_
            refine lv_iload C.1 C.2.1 dX0_learn_51 (lv_at hl 0 rfl) ?_
            refine lv_ineg C.1 C.2.1 dX0_learn_53 ?_
            obtain ⟨M54, hc54, hf⟩ := fm_bd hf
            refine fm_callV C E [.int _, .int _] [] lm_X0_88 wk_X0_addToTaken (c_Bench_addToTaken l G N _ _ _ _ hc54) hC_181 rfl rfl rfl hl.1 (by simp [Value.category]) ⟨⟨rfl, rfl⟩, by decide, by decide⟩ ⟨by decide, by decide⟩ dX0_learn_54 rfl (fun H locs E => ?_)
            refine W.eq (g2 := F0 m 57 ls []) rfl ?_
            refine lv_aload_n C.1 C.2.1 dX0_learn_57 rfl (lv_at hl 1 rfl) ?_
            refine fm_getr C E lf_X0_29 hC_181 rfl dX0_learn_58 ?_
            refine lv_iload_n C.1 C.2.1 dX0_learn_61 rfl (lv_at hl 4 rfl) ?_
            refine lv_aload_n C.1 C.2.1 dX0_learn_62 rfl (lv_at hl 1 rfl) ?_
            refine lv_iload_n C.1 C.2.1 dX0_learn_63 rfl (lv_at hl 4 rfl) ?_
            refine lv_iload C.1 C.2.1 dX0_learn_64 (lv_at hl 0 rfl) ?_
            obtain ⟨x66, hc66, hf⟩ := fm_bd hf
            refine fm_callV C E [.int _, .int _] [.int _, .ref _] lm_X0_92 wk_X0_bestWeight (c_Bench_bestWeight l G N _ _ _ _  hc66) hC_181 rfl rfl rfl hl.1 (by simp [Value.category]) ⟨⟨rfl, rfl⟩, by decide, by decide⟩ ⟨by decide, by decide⟩ dX0_learn_66 rfl (fun H locs E => ?_)
            refine W.eq (g2 := F0 m 69 ls (.int x66 :: [.int _, .ref _])) rfl ?_
            obtain ⟨h69, M69, e69, hf⟩ := fm_st_e hf
            refine fm_iast' C E e69 hC_198 h69 dX0_learn_69 (fun H locs E => ?_)
            refine lv_aload_n C.1 C.2.1 dX0_learn_70 rfl (lv_at hl 1 rfl) ?_
            refine lv_iload_n C.1 C.2.1 dX0_learn_71 rfl (lv_at hl 4 rfl) ?_
            refine lv_aload_n C.1 C.2.1 dX0_learn_72 rfl (lv_at hl 1 rfl) ?_
            refine fm_getr C E lf_X0_29 hC_181 rfl dX0_learn_73 ?_
            refine lv_iload_n C.1 C.2.1 dX0_learn_76 rfl (lv_at hl 4 rfl) ?_
            obtain ⟨h77, x77, e77, hf⟩ := fm_ld_e hf
            refine fm_iald' C E e77 hC_198 h77 dX0_learn_77 ?_
            obtain ⟨M78, hc78, hf⟩ := fm_bd hf
            refine fm_callV C E [.int _, .int _] [] lm_X0_88 wk_X0_addToTaken (c_Bench_addToTaken l G N _ _ _ _ hc78) hC_181 rfl rfl rfl hl.1 (by simp [Value.category]) ⟨⟨rfl, rfl⟩, by decide, by decide⟩ ⟨by decide, by decide⟩ dX0_learn_78 rfl (fun H locs E => ?_)
            refine W.eq (g2 := F0 m 81 ls []) rfl ?_
            refine lv_iload_n C.1 C.2.1 dX0_learn_81 rfl (lv_at hl 2 rfl) ?_
            refine lv_if_ne (tgt := 96) C.1 C.2.1 dX0_learn_82 (by decide) (fun hc82 => ?_) (fun hc82 => ?_)
            · have hf := fm_in' hf hc82
              refine lv_iconst (v := 1) C.1 C.2.1 dX0_learn_96 (by decide) ?_
              refine lv_goto (tgt := 101) C.1 C.2.1 dX0_learn_97 (by decide) ?_
              refine lv_istore_n (lv' := [(1, .int _), (4, .int _), (0, .ref _), (2, .int _), (3, .int _)]) C.1 C.2.1 dX0_learn_101 rfl hl (by decide) rfl (fun ls hl => ?_)
              refine fm_iinc C (v := 1) (lv' := [(3, .int _), (1, .int _), (4, .int _), (0, .ref _), (2, .int _)]) (k := 4) hl rfl (by decide) (by decide) rfl dX0_learn_102 (fun ls hl => ?_)
              refine lv_goto (tgt := 33) C.1 C.2.1 dX0_learn_105 (by decide) ?_
              exact ih33 _ _ _ _ _ _ E (lv_sub hl [3, 1, 4, 0] rfl) hf
            · have hf := fm_ip hf hc82
              refine lv_aload_n C.1 C.2.1 dX0_learn_85 rfl (lv_at hl 1 rfl) ?_
              refine fm_getr C E lf_X0_29 hC_181 rfl dX0_learn_86 ?_
              refine lv_iload_n C.1 C.2.1 dX0_learn_89 rfl (lv_at hl 4 rfl) ?_
              obtain ⟨h90, x90, e90, hf⟩ := fm_ld_e hf
              refine fm_iald' C E e90 hC_198 h90 dX0_learn_90 ?_
              refine lv_iload C.1 C.2.1 dX0_learn_91 (lv_at hl 0 rfl) ?_
              refine lv_icmp_eq (tgt := 100) C.1 C.2.1 dX0_learn_93 (by decide) (fun hc93 => ?_) (fun hc93 => ?_)
              · have hf := fm_ip hf hc93
                refine lv_iconst (v := 0) C.1 C.2.1 dX0_learn_100 (by decide) ?_
                refine lv_istore_n (lv' := [(1, .int _), (4, .int _), (0, .ref _), (2, .int _), (3, .int _)]) C.1 C.2.1 dX0_learn_101 rfl hl (by decide) rfl (fun ls hl => ?_)
                refine fm_iinc C (v := 1) (lv' := [(3, .int _), (1, .int _), (4, .int _), (0, .ref _), (2, .int _)]) (k := 4) hl rfl (by decide) (by decide) rfl dX0_learn_102 (fun ls hl => ?_)
                refine lv_goto (tgt := 33) C.1 C.2.1 dX0_learn_105 (by decide) ?_
                exact ih33 _ _ _ _ _ _ E (lv_sub hl [3, 1, 4, 0] rfl) hf
              · have hf := fm_in' hf hc93
                refine lv_iconst (v := 1) C.1 C.2.1 dX0_learn_96 (by decide) ?_
                refine lv_goto (tgt := 101) C.1 C.2.1 dX0_learn_97 (by decide) ?_
                refine lv_istore_n (lv' := [(1, .int _), (4, .int _), (0, .ref _), (2, .int _), (3, .int _)]) C.1 C.2.1 dX0_learn_101 rfl hl (by decide) rfl (fun ls hl => ?_)
                refine fm_iinc C (v := 1) (lv' := [(3, .int _), (1, .int _), (4, .int _), (0, .ref _), (2, .int _)]) (k := 4) hl rfl (by decide) (by decide) rfl dX0_learn_102 (fun ls hl => ?_)
                refine lv_goto (tgt := 33) C.1 C.2.1 dX0_learn_105 (by decide) ?_
                exact ih33 _ _ _ _ _ _ E (lv_sub hl [3, 1, 4, 0] rfl) hf
      intro v1 v2 M H locs ls E hl hf
      have hf : pBench_learn_L20b N (fm_lp (pBench_learn_L20 N) n20) v1 v2 M = some M' := hf
      unfold pBench_learn_L20b at hf
      refine lv_iload_n C.1 C.2.1 dX0_learn_20 rfl (lv_at hl 2 rfl) ?_
      refine lv_iconst (v := 3) C.1 C.2.1 dX0_learn_21 (by decide) ?_
      refine lv_icmp_ge (tgt := 114) C.1 C.2.1 dX0_learn_22 (by decide) (fun hc22 => ?_) (fun hc22 => ?_)
      · have hf := fm_ip hf hc22
        obtain rfl := fm_rt1 hf
        exact fm_vret C E rfl dX0_learn_114
      · have hf := fm_in' hf hc22
        refine lv_iload_n C.1 C.2.1 dX0_learn_25 rfl (lv_at hl 1 rfl) ?_
        refine lv_if_eq (tgt := 114) C.1 C.2.1 dX0_learn_26 (by decide) (fun hc26 => ?_) (fun hc26 => ?_)
        · have hf := fm_ip hf hc26
          obtain rfl := fm_rt1 hf
          exact fm_vret C E rfl dX0_learn_114
        · have hf := fm_in' hf hc26
          refine lv_iconst (v := 0) C.1 C.2.1 dX0_learn_29 (by decide) ?_
          refine lv_istore_n (lv' := [(1, .int _), (0, .ref _), (2, .int _)]) C.1 C.2.1 dX0_learn_30 rfl hl (by decide) rfl (fun ls hl => ?_)
          refine lv_iconst (v := 0) C.1 C.2.1 dX0_learn_31 (by decide) ?_
          refine lv_istore_n (lv' := [(3, .int _), (1, .int _), (0, .ref _), (2, .int _)]) C.1 C.2.1 dX0_learn_32 rfl hl (by decide) rfl (fun ls hl => ?_)
          exact L33 _ N _ _ _ _ _ _ E (lv_sub hl [2, 1, 3, 0] rfl) hf
  unfold pBench_learn at hf
  refine lv_aload_n C.1 C.2.1 dX0_learn_0 rfl (lv_at hl 0 rfl) ?_
  refine fm_getr C E lf_X0_29 hC_181 rfl dX0_learn_1 ?_
  refine lv_iconst (v := 0) C.1 C.2.1 dX0_learn_4 (by decide) ?_
  obtain ⟨M5, hc5, hf⟩ := fm_bd hf
  refine fm_callS C E [.ref _, .int _] [] lm_X0_82 wk_J7_fill_53178 (c_Arrays_fill l G N _ _ _ _ hc5) rfl hl.1 (by simp [Value.category]) ⟨⟨rfl, rfl⟩, by decide, by decide⟩ ⟨by decide, by decide⟩ dX0_learn_5 rfl (fun H locs E => ?_)
  refine W.eq (g2 := F0 m 8 ls []) rfl ?_
  refine lv_aload_n C.1 C.2.1 dX0_learn_8 rfl (lv_at hl 0 rfl) ?_
  refine fm_getr C E lf_X0_32 hC_181 rfl dX0_learn_9 ?_
  refine lv_iconst (v := 0) C.1 C.2.1 dX0_learn_12 (by decide) ?_
  obtain ⟨M13, hc13, hf⟩ := fm_bd hf
  refine fm_callS C E [.ref _, .int _] [] lm_X0_82 wk_J7_fill_53178 (c_Arrays_fill l G N _ _ _ _ hc13) rfl hl.1 (by simp [Value.category]) ⟨⟨rfl, rfl⟩, by decide, by decide⟩ ⟨by decide, by decide⟩ dX0_learn_13 rfl (fun H locs E => ?_)
  refine W.eq (g2 := F0 m 16 ls []) rfl ?_
  refine lv_iconst (v := 1) C.1 C.2.1 dX0_learn_16 (by decide) ?_
  refine lv_istore_n (lv' := [(1, .int _), (0, .ref _)]) C.1 C.2.1 dX0_learn_17 rfl hl (by decide) rfl (fun ls hl => ?_)
  refine lv_iconst (v := 0) C.1 C.2.1 dX0_learn_18 (by decide) ?_
  refine lv_istore_n (lv' := [(2, .int _), (1, .int _), (0, .ref _)]) C.1 C.2.1 dX0_learn_19 rfl hl (by decide) rfl (fun ls hl => ?_)
  exact L20  N _ _ _ _ _ _ E (lv_sub hl [2, 1, 0] rfl) hf
theorem dX0_turnsOfSign_0 : decode cX0_turnsOfSign 0 = .ok (.iconst 0, 1) := by decide +kernel
theorem dX0_turnsOfSign_1 : decode cX0_turnsOfSign 1 = .ok (.istore_n 1, 1) := by decide +kernel
theorem dX0_turnsOfSign_2 : decode cX0_turnsOfSign 2 = .ok (.iconst 1, 1) := by decide +kernel
theorem dX0_turnsOfSign_3 : decode cX0_turnsOfSign 3 = .ok (.istore_n 2, 1) := by decide +kernel
theorem dX0_turnsOfSign_4 : decode cX0_turnsOfSign 4 = .ok (.iload_n 2, 1) := by decide +kernel
theorem dX0_turnsOfSign_5 : decode cX0_turnsOfSign 5 = .ok (.aload_n 0, 1) := by decide +kernel
theorem dX0_turnsOfSign_6 : decode cX0_turnsOfSign 6 = .ok (.getfield 35, 3) := by decide +kernel
theorem dX0_turnsOfSign_9 : decode cX0_turnsOfSign 9 = .ok (.if_icmp .ge 35, 3) := by decide +kernel
theorem dX0_turnsOfSign_12 : decode cX0_turnsOfSign 12 = .ok (.aload_n 0, 1) := by decide +kernel
theorem dX0_turnsOfSign_13 : decode cX0_turnsOfSign 13 = .ok (.getfield 16, 3) := by decide +kernel
theorem dX0_turnsOfSign_16 : decode cX0_turnsOfSign 16 = .ok (.iload_n 2, 1) := by decide +kernel
theorem dX0_turnsOfSign_17 : decode cX0_turnsOfSign 17 = .ok (.iconst 1, 1) := by decide +kernel
theorem dX0_turnsOfSign_18 : decode cX0_turnsOfSign 18 = .ok (.isub, 1) := by decide +kernel
theorem dX0_turnsOfSign_19 : decode cX0_turnsOfSign 19 = .ok (.iaload, 1) := by decide +kernel
theorem dX0_turnsOfSign_20 : decode cX0_turnsOfSign 20 = .ok (.invokestatic 112, 3) := by decide +kernel
theorem dX0_turnsOfSign_23 : decode cX0_turnsOfSign 23 = .ok (.aload_n 0, 1) := by decide +kernel
theorem dX0_turnsOfSign_24 : decode cX0_turnsOfSign 24 = .ok (.getfield 16, 3) := by decide +kernel
theorem dX0_turnsOfSign_27 : decode cX0_turnsOfSign 27 = .ok (.iload_n 2, 1) := by decide +kernel
theorem dX0_turnsOfSign_28 : decode cX0_turnsOfSign 28 = .ok (.iaload, 1) := by decide +kernel
theorem dX0_turnsOfSign_29 : decode cX0_turnsOfSign 29 = .ok (.invokestatic 112, 3) := by decide +kernel
theorem dX0_turnsOfSign_32 : decode cX0_turnsOfSign 32 = .ok (.if_icmp .eq 6, 3) := by decide +kernel
theorem dX0_turnsOfSign_35 : decode cX0_turnsOfSign 35 = .ok (.iinc 1 1, 3) := by decide +kernel
theorem dX0_turnsOfSign_38 : decode cX0_turnsOfSign 38 = .ok (.iinc 2 1, 3) := by decide +kernel
theorem dX0_turnsOfSign_41 : decode cX0_turnsOfSign 41 = .ok (.goto (-37), 3) := by decide +kernel
theorem dX0_turnsOfSign_44 : decode cX0_turnsOfSign 44 = .ok (.iload_n 1, 1) := by decide +kernel
theorem dX0_turnsOfSign_45 : decode cX0_turnsOfSign 45 = .ok (.ireturn, 1) := by decide +kernel
set_option maxHeartbeats 4000000 in
set_option maxRecDepth 100000 in
theorem c_Bench_turnsOfSign (l : Launch) (G : fm_G) (N : Nat) (M : fm_M) (r : Int32) (hf : pBench_turnsOfSign N M = some r) : fm_Met l yX0_turnsOfSign cX0_turnsOfSign 3 (some .int) { frames := 2, cells := 0, slots := 0, locals := 41 } shC G [.ref (G.2.1 181)] M (some (.int r)) M := by
  refine fm_enter (by decide) (Nat.le_of_ble_eq_true rfl) ?_
  intro p e s m args below meth c ls C E hl
  have hl : lv_has ls 3 [(0, .ref (G.2.1 181))] := hl
  have L4 : ∀ (n4 : Nat) (v1 : Int32) (v2 : Int32) (H : Heap) (locs : List Loc) (ls : Array Slot), fm_Wd shC G M s H locs → lv_has ls 3 [(0, .ref (G.2.1 181)), (1, .int v1), (2, .int v2)] → fm_lp (pBench_turnsOfSign_L4 N M) n4 (v1, v2) = some r → W p l e { frames := 2, cells := 0, slots := 0, locals := 41 } s m args below meth c H locs 0 0 (fm_Z below shC G args s (some (.int r)) M) (F0 m 4 ls []) := by
    intro  n4
    induction n4 with
    | zero => intro v1 v2 H locs ls E hl hf; exact fm_lp_0 hf
    | succ n4 ih4 =>
      intro v1 v2 H locs ls E hl hf
      have hf : pBench_turnsOfSign_L4b N M (fm_lp (pBench_turnsOfSign_L4 N M) n4) v1 v2 = some r := hf
      unfold pBench_turnsOfSign_L4b at hf
      refine lv_iload_n C.1 C.2.1 dX0_turnsOfSign_4 rfl (lv_at hl 2 rfl) ?_
      refine lv_aload_n C.1 C.2.1 dX0_turnsOfSign_5 rfl (lv_at hl 0 rfl) ?_
      refine fm_geti C E lf_X0_35 hC_181 rfl dX0_turnsOfSign_6 ?_
      refine lv_icmp_ge (tgt := 44) C.1 C.2.1 dX0_turnsOfSign_9 (by decide) (fun hc9 => ?_) (fun hc9 => ?_)
      · have hf := fm_ip hf hc9
        refine lv_iload_n C.1 C.2.1 dX0_turnsOfSign_44 rfl (lv_at hl 1 rfl) ?_
        obtain rfl := fm_rt1 hf
        exact fm_iret C E rfl rfl dX0_turnsOfSign_45
      · have hf := fm_in' hf hc9
        refine lv_aload_n C.1 C.2.1 dX0_turnsOfSign_12 rfl (lv_at hl 0 rfl) ?_
        refine fm_getr C E lf_X0_16 hC_181 rfl dX0_turnsOfSign_13 ?_
        refine lv_iload_n C.1 C.2.1 dX0_turnsOfSign_16 rfl (lv_at hl 2 rfl) ?_
        refine lv_iconst (v := 1) C.1 C.2.1 dX0_turnsOfSign_17 (by decide) ?_
        refine lv_isub C.1 C.2.1 dX0_turnsOfSign_18 ?_
        obtain ⟨h19, x19, e19, hf⟩ := fm_ld_e hf
        refine fm_iald' C E e19 hC_189 h19 dX0_turnsOfSign_19 ?_
        obtain ⟨x20, hc20, hf⟩ := fm_bd hf
        refine fm_callS C E [.int _] [] lm_X0_112 wk_X9_signOf (c_MicRow_signOf l G _ _ _  hc20) rfl hl.1 (by simp [Value.category]) ⟨⟨rfl, rfl⟩, by decide, by decide⟩ ⟨by decide, by decide⟩ dX0_turnsOfSign_20 rfl (fun H locs E => ?_)
        refine W.eq (g2 := F0 m 23 ls (.int x20 :: [])) rfl ?_
        refine lv_aload_n C.1 C.2.1 dX0_turnsOfSign_23 rfl (lv_at hl 0 rfl) ?_
        refine fm_getr C E lf_X0_16 hC_181 rfl dX0_turnsOfSign_24 ?_
        refine lv_iload_n C.1 C.2.1 dX0_turnsOfSign_27 rfl (lv_at hl 2 rfl) ?_
        obtain ⟨h28, x28, e28, hf⟩ := fm_ld_e hf
        refine fm_iald' C E e28 hC_189 h28 dX0_turnsOfSign_28 ?_
        obtain ⟨x29, hc29, hf⟩ := fm_bd hf
        refine fm_callS C E [.int _] [.int _] lm_X0_112 wk_X9_signOf (c_MicRow_signOf l G _ _ _  hc29) rfl hl.1 (by simp [Value.category]) ⟨⟨rfl, rfl⟩, by decide, by decide⟩ ⟨by decide, by decide⟩ dX0_turnsOfSign_29 rfl (fun H locs E => ?_)
        refine W.eq (g2 := F0 m 32 ls (.int x29 :: [.int _])) rfl ?_
        refine lv_icmp_eq (tgt := 38) C.1 C.2.1 dX0_turnsOfSign_32 (by decide) (fun hc32 => ?_) (fun hc32 => ?_)
        · have hf := fm_ip hf hc32
          refine fm_iinc C (v := 1) (lv' := [(2, .int _), (0, .ref _), (1, .int _)]) (k := 2) hl rfl (by decide) (by decide) rfl dX0_turnsOfSign_38 (fun ls hl => ?_)
          refine lv_goto (tgt := 4) C.1 C.2.1 dX0_turnsOfSign_41 (by decide) ?_
          exact ih4 _ _ _ _ _ E (lv_sub hl [1, 2, 0] rfl) hf
        · have hf := fm_in' hf hc32
          refine fm_iinc C (v := 1) (lv' := [(1, .int _), (0, .ref _), (2, .int _)]) (k := 1) hl rfl (by decide) (by decide) rfl dX0_turnsOfSign_35 (fun ls hl => ?_)
          refine fm_iinc C (v := 1) (lv' := [(2, .int _), (1, .int _), (0, .ref _)]) (k := 2) hl rfl (by decide) (by decide) rfl dX0_turnsOfSign_38 (fun ls hl => ?_)
          refine lv_goto (tgt := 4) C.1 C.2.1 dX0_turnsOfSign_41 (by decide) ?_
          exact ih4 _ _ _ _ _ E (lv_sub hl [2, 1, 0] rfl) hf
  unfold pBench_turnsOfSign at hf
  refine lv_iconst (v := 0) C.1 C.2.1 dX0_turnsOfSign_0 (by decide) ?_
  refine lv_istore_n (lv' := [(1, .int _), (0, .ref _)]) C.1 C.2.1 dX0_turnsOfSign_1 rfl hl (by decide) rfl (fun ls hl => ?_)
  refine lv_iconst (v := 1) C.1 C.2.1 dX0_turnsOfSign_2 (by decide) ?_
  refine lv_istore_n (lv' := [(2, .int _), (1, .int _), (0, .ref _)]) C.1 C.2.1 dX0_turnsOfSign_3 rfl hl (by decide) rfl (fun ls hl => ?_)
  exact L4  N _ _ _ _ _ E (lv_sub hl [2, 1, 0] rfl) hf
theorem dX0_pairsAlike_0 : decode cX0_pairsAlike 0 = .ok (.iconst 0, 1) := by decide +kernel
theorem dX0_pairsAlike_1 : decode cX0_pairsAlike 1 = .ok (.istore_n 3, 1) := by decide +kernel
theorem dX0_pairsAlike_2 : decode cX0_pairsAlike 2 = .ok (.iconst 0, 1) := by decide +kernel
theorem dX0_pairsAlike_3 : decode cX0_pairsAlike 3 = .ok (.istore 4, 2) := by decide +kernel
theorem dX0_pairsAlike_5 : decode cX0_pairsAlike 5 = .ok (.iconst 0, 1) := by decide +kernel
theorem dX0_pairsAlike_6 : decode cX0_pairsAlike 6 = .ok (.istore 5, 2) := by decide +kernel
theorem dX0_pairsAlike_8 : decode cX0_pairsAlike 8 = .ok (.iconst 0, 1) := by decide +kernel
theorem dX0_pairsAlike_9 : decode cX0_pairsAlike 9 = .ok (.istore 6, 2) := by decide +kernel
theorem dX0_pairsAlike_11 : decode cX0_pairsAlike 11 = .ok (.iload 6, 2) := by decide +kernel
theorem dX0_pairsAlike_13 : decode cX0_pairsAlike 13 = .ok (.bipush 6, 2) := by decide +kernel
theorem dX0_pairsAlike_15 : decode cX0_pairsAlike 15 = .ok (.if_icmp .ge 78, 3) := by decide +kernel
theorem dX0_pairsAlike_18 : decode cX0_pairsAlike 18 = .ok (.iload_n 1, 1) := by decide +kernel
theorem dX0_pairsAlike_19 : decode cX0_pairsAlike 19 = .ok (.iload 6, 2) := by decide +kernel
theorem dX0_pairsAlike_21 : decode cX0_pairsAlike 21 = .ok (.ishr, 1) := by decide +kernel
theorem dX0_pairsAlike_22 : decode cX0_pairsAlike 22 = .ok (.iconst 1, 1) := by decide +kernel
theorem dX0_pairsAlike_23 : decode cX0_pairsAlike 23 = .ok (.iand, 1) := by decide +kernel
theorem dX0_pairsAlike_24 : decode cX0_pairsAlike 24 = .ok (.ifCond .ne 6, 3) := by decide +kernel
theorem dX0_pairsAlike_27 : decode cX0_pairsAlike 27 = .ok (.goto 60, 3) := by decide +kernel
theorem dX0_pairsAlike_30 : decode cX0_pairsAlike 30 = .ok (.aload_n 0, 1) := by decide +kernel
theorem dX0_pairsAlike_31 : decode cX0_pairsAlike 31 = .ok (.getfield 11, 3) := by decide +kernel
theorem dX0_pairsAlike_34 : decode cX0_pairsAlike 34 = .ok (.iload 6, 2) := by decide +kernel
theorem dX0_pairsAlike_36 : decode cX0_pairsAlike 36 = .ok (.aaload, 1) := by decide +kernel
theorem dX0_pairsAlike_37 : decode cX0_pairsAlike 37 = .ok (.iload_n 2, 1) := by decide +kernel
theorem dX0_pairsAlike_38 : decode cX0_pairsAlike 38 = .ok (.iaload, 1) := by decide +kernel
theorem dX0_pairsAlike_39 : decode cX0_pairsAlike 39 = .ok (.invokestatic 112, 3) := by decide +kernel
theorem dX0_pairsAlike_42 : decode cX0_pairsAlike 42 = .ok (.istore 7, 2) := by decide +kernel
theorem dX0_pairsAlike_44 : decode cX0_pairsAlike 44 = .ok (.iload_n 3, 1) := by decide +kernel
theorem dX0_pairsAlike_45 : decode cX0_pairsAlike 45 = .ok (.iload 7, 2) := by decide +kernel
theorem dX0_pairsAlike_47 : decode cX0_pairsAlike 47 = .ok (.ifCond .le 7, 3) := by decide +kernel
theorem dX0_pairsAlike_50 : decode cX0_pairsAlike 50 = .ok (.iconst 1, 1) := by decide +kernel
theorem dX0_pairsAlike_51 : decode cX0_pairsAlike 51 = .ok (.goto 4, 3) := by decide +kernel
theorem dX0_pairsAlike_54 : decode cX0_pairsAlike 54 = .ok (.iconst 0, 1) := by decide +kernel
theorem dX0_pairsAlike_55 : decode cX0_pairsAlike 55 = .ok (.iadd, 1) := by decide +kernel
theorem dX0_pairsAlike_56 : decode cX0_pairsAlike 56 = .ok (.istore_n 3, 1) := by decide +kernel
theorem dX0_pairsAlike_57 : decode cX0_pairsAlike 57 = .ok (.iload 4, 2) := by decide +kernel
theorem dX0_pairsAlike_59 : decode cX0_pairsAlike 59 = .ok (.iload 7, 2) := by decide +kernel
theorem dX0_pairsAlike_61 : decode cX0_pairsAlike 61 = .ok (.ifCond .ge 7, 3) := by decide +kernel
theorem dX0_pairsAlike_64 : decode cX0_pairsAlike 64 = .ok (.iconst 1, 1) := by decide +kernel
theorem dX0_pairsAlike_65 : decode cX0_pairsAlike 65 = .ok (.goto 4, 3) := by decide +kernel
theorem dX0_pairsAlike_68 : decode cX0_pairsAlike 68 = .ok (.iconst 0, 1) := by decide +kernel
theorem dX0_pairsAlike_69 : decode cX0_pairsAlike 69 = .ok (.iadd, 1) := by decide +kernel
theorem dX0_pairsAlike_70 : decode cX0_pairsAlike 70 = .ok (.istore 4, 2) := by decide +kernel
theorem dX0_pairsAlike_72 : decode cX0_pairsAlike 72 = .ok (.iload 5, 2) := by decide +kernel
theorem dX0_pairsAlike_74 : decode cX0_pairsAlike 74 = .ok (.iload 7, 2) := by decide +kernel
theorem dX0_pairsAlike_76 : decode cX0_pairsAlike 76 = .ok (.ifCond .ne 7, 3) := by decide +kernel
theorem dX0_pairsAlike_79 : decode cX0_pairsAlike 79 = .ok (.iconst 1, 1) := by decide +kernel
theorem dX0_pairsAlike_80 : decode cX0_pairsAlike 80 = .ok (.goto 4, 3) := by decide +kernel
theorem dX0_pairsAlike_83 : decode cX0_pairsAlike 83 = .ok (.iconst 0, 1) := by decide +kernel
theorem dX0_pairsAlike_84 : decode cX0_pairsAlike 84 = .ok (.iadd, 1) := by decide +kernel
theorem dX0_pairsAlike_85 : decode cX0_pairsAlike 85 = .ok (.istore 5, 2) := by decide +kernel
theorem dX0_pairsAlike_87 : decode cX0_pairsAlike 87 = .ok (.iinc 6 1, 3) := by decide +kernel
theorem dX0_pairsAlike_90 : decode cX0_pairsAlike 90 = .ok (.goto (-79), 3) := by decide +kernel
theorem dX0_pairsAlike_93 : decode cX0_pairsAlike 93 = .ok (.iload_n 3, 1) := by decide +kernel
theorem dX0_pairsAlike_94 : decode cX0_pairsAlike 94 = .ok (.invokestatic 115, 3) := by decide +kernel
theorem dX0_pairsAlike_97 : decode cX0_pairsAlike 97 = .ok (.iload 4, 2) := by decide +kernel
theorem dX0_pairsAlike_99 : decode cX0_pairsAlike 99 = .ok (.invokestatic 115, 3) := by decide +kernel
theorem dX0_pairsAlike_102 : decode cX0_pairsAlike 102 = .ok (.iadd, 1) := by decide +kernel
theorem dX0_pairsAlike_103 : decode cX0_pairsAlike 103 = .ok (.iload 5, 2) := by decide +kernel
theorem dX0_pairsAlike_105 : decode cX0_pairsAlike 105 = .ok (.invokestatic 115, 3) := by decide +kernel
theorem dX0_pairsAlike_108 : decode cX0_pairsAlike 108 = .ok (.iadd, 1) := by decide +kernel
theorem dX0_pairsAlike_109 : decode cX0_pairsAlike 109 = .ok (.ireturn, 1) := by decide +kernel
set_option maxHeartbeats 4000000 in
set_option maxRecDepth 100000 in
theorem c_Bench_pairsAlike (l : Launch) (G : fm_G) (N : Nat) (M : fm_M) (v1 : Int32) (v2 : Int32) (r : Int32) (hf : pBench_pairsAlike N M v1 v2 = some r) : fm_Met l yX0_pairsAlike cX0_pairsAlike 8 (some .int) { frames := 2, cells := 0, slots := 0, locals := 41 } shC G [.ref (G.2.1 181), .int v1, .int v2] M (some (.int r)) M := by
  refine fm_enter (by decide) (Nat.le_of_ble_eq_true rfl) ?_
  intro p e s m args below meth c ls C E hl
  have hl : lv_has ls 8 [(0, .ref (G.2.1 181)), (1, .int v1), (2, .int v2)] := hl
  have L11 : ∀ (w11_v1 : Int32) (w11_v2 : Int32) (n11 : Nat) (v3 : Int32) (v4 : Int32) (v5 : Int32) (v6 : Int32) (H : Heap) (locs : List Loc) (ls : Array Slot), fm_Wd shC G M s H locs → lv_has ls 8 [(0, .ref (G.2.1 181)), (1, .int w11_v1), (2, .int w11_v2), (3, .int v3), (4, .int v4), (5, .int v5), (6, .int v6)] → fm_lp (pBench_pairsAlike_L11 N M w11_v1 w11_v2) n11 (v3, v4, v5, v6) = some r → W p l e { frames := 2, cells := 0, slots := 0, locals := 41 } s m args below meth c H locs 0 0 (fm_Z below shC G args s (some (.int r)) M) (F0 m 11 ls []) := by
    intro w11_v1 w11_v2 n11
    induction n11 with
    | zero => intro v3 v4 v5 v6 H locs ls E hl hf; exact fm_lp_0 hf
    | succ n11 ih11 =>
      have J69 : ∀ (v3 : Int32) (v5 : Int32) (v6 : Int32) (v7 : Int32) (s0 : Int32) (s1 : Int32) (H : Heap) (locs : List Loc) (ls : Array Slot), fm_Wd shC G M s H locs → lv_has ls 8 [(0, .ref (G.2.1 181)), (1, .int w11_v1), (2, .int w11_v2), (3, .int v3), (5, .int v5), (6, .int v6), (7, .int v7)] → pBench_pairsAlike_J69 N M w11_v1 w11_v2 v3 v5 v6 v7 (fm_lp (pBench_pairsAlike_L11 N M w11_v1 w11_v2) n11) s0 s1 = some r → W p l e { frames := 2, cells := 0, slots := 0, locals := 41 } s m args below meth c H locs 0 0 (fm_Z below shC G args s (some (.int r)) M) (F0 m 69 ls [.int s1, .int s0]) := by
        intro v3 v5 v6 v7 s0 s1 H locs ls E hl hf
        unfold pBench_pairsAlike_J69 at hf
        refine lv_iadd C.1 C.2.1 dX0_pairsAlike_69 ?_
        refine lv_istore (lv' := [(4, .int _), (0, .ref _), (1, .int _), (2, .int _), (3, .int _), (5, .int _), (6, .int _), (7, .int _)]) C.1 C.2.1 dX0_pairsAlike_70 hl (by decide) rfl (fun ls hl => ?_)
        refine lv_iload C.1 C.2.1 dX0_pairsAlike_72 (lv_at hl 5 rfl) ?_
        refine lv_iload C.1 C.2.1 dX0_pairsAlike_74 (lv_at hl 7 rfl) ?_
        refine lv_if_ne (tgt := 83) C.1 C.2.1 dX0_pairsAlike_76 (by decide) (fun hc76 => ?_) (fun hc76 => ?_)
        · have hf := fm_in' hf hc76
          refine lv_iconst (v := 0) C.1 C.2.1 dX0_pairsAlike_83 (by decide) ?_
          refine lv_iadd C.1 C.2.1 dX0_pairsAlike_84 ?_
          refine lv_istore (lv' := [(5, .int _), (4, .int _), (0, .ref _), (1, .int _), (2, .int _), (3, .int _), (6, .int _), (7, .int _)]) C.1 C.2.1 dX0_pairsAlike_85 hl (by decide) rfl (fun ls hl => ?_)
          refine fm_iinc C (v := 1) (lv' := [(6, .int _), (5, .int _), (4, .int _), (0, .ref _), (1, .int _), (2, .int _), (3, .int _), (7, .int _)]) (k := 6) hl rfl (by decide) (by decide) rfl dX0_pairsAlike_87 (fun ls hl => ?_)
          refine lv_goto (tgt := 11) C.1 C.2.1 dX0_pairsAlike_90 (by decide) ?_
          exact ih11 _ _ _ _ _ _ _ E (lv_sub hl [3, 4, 5, 6, 2, 1, 0] rfl) hf
        · have hf := fm_ip hf hc76
          refine lv_iconst (v := 1) C.1 C.2.1 dX0_pairsAlike_79 (by decide) ?_
          refine lv_goto (tgt := 84) C.1 C.2.1 dX0_pairsAlike_80 (by decide) ?_
          refine lv_iadd C.1 C.2.1 dX0_pairsAlike_84 ?_
          refine lv_istore (lv' := [(5, .int _), (4, .int _), (0, .ref _), (1, .int _), (2, .int _), (3, .int _), (6, .int _), (7, .int _)]) C.1 C.2.1 dX0_pairsAlike_85 hl (by decide) rfl (fun ls hl => ?_)
          refine fm_iinc C (v := 1) (lv' := [(6, .int _), (5, .int _), (4, .int _), (0, .ref _), (1, .int _), (2, .int _), (3, .int _), (7, .int _)]) (k := 6) hl rfl (by decide) (by decide) rfl dX0_pairsAlike_87 (fun ls hl => ?_)
          refine lv_goto (tgt := 11) C.1 C.2.1 dX0_pairsAlike_90 (by decide) ?_
          exact ih11 _ _ _ _ _ _ _ E (lv_sub hl [3, 4, 5, 6, 2, 1, 0] rfl) hf
      have J55 : ∀ (v4 : Int32) (v5 : Int32) (v6 : Int32) (v7 : Int32) (s0 : Int32) (s1 : Int32) (H : Heap) (locs : List Loc) (ls : Array Slot), fm_Wd shC G M s H locs → lv_has ls 8 [(0, .ref (G.2.1 181)), (1, .int w11_v1), (2, .int w11_v2), (4, .int v4), (5, .int v5), (6, .int v6), (7, .int v7)] → pBench_pairsAlike_J55 N M w11_v1 w11_v2 v4 v5 v6 v7 (fm_lp (pBench_pairsAlike_L11 N M w11_v1 w11_v2) n11) s0 s1 = some r → W p l e { frames := 2, cells := 0, slots := 0, locals := 41 } s m args below meth c H locs 0 0 (fm_Z below shC G args s (some (.int r)) M) (F0 m 55 ls [.int s1, .int s0]) := by
        intro v4 v5 v6 v7 s0 s1 H locs ls E hl hf
        unfold pBench_pairsAlike_J55 at hf
        refine lv_iadd C.1 C.2.1 dX0_pairsAlike_55 ?_
        refine lv_istore_n (lv' := [(3, .int _), (0, .ref _), (1, .int _), (2, .int _), (4, .int _), (5, .int _), (6, .int _), (7, .int _)]) C.1 C.2.1 dX0_pairsAlike_56 rfl hl (by decide) rfl (fun ls hl => ?_)
        refine lv_iload C.1 C.2.1 dX0_pairsAlike_57 (lv_at hl 4 rfl) ?_
        refine lv_iload C.1 C.2.1 dX0_pairsAlike_59 (lv_at hl 7 rfl) ?_
        refine lv_if_ge (tgt := 68) C.1 C.2.1 dX0_pairsAlike_61 (by decide) (fun hc61 => ?_) (fun hc61 => ?_)
        · have hf := fm_ip hf hc61
          refine lv_iconst (v := 0) C.1 C.2.1 dX0_pairsAlike_68 (by decide) ?_
          exact J69 _ _ _ _ _ _ _ _ _ E (lv_sub hl [1, 2, 3, 0, 5, 6, 7] rfl) hf
        · have hf := fm_in' hf hc61
          refine lv_iconst (v := 1) C.1 C.2.1 dX0_pairsAlike_64 (by decide) ?_
          refine lv_goto (tgt := 69) C.1 C.2.1 dX0_pairsAlike_65 (by decide) ?_
          exact J69 _ _ _ _ _ _ _ _ _ E (lv_sub hl [1, 2, 3, 0, 5, 6, 7] rfl) hf
      intro v3 v4 v5 v6 H locs ls E hl hf
      have hf : pBench_pairsAlike_L11b N M w11_v1 w11_v2 (fm_lp (pBench_pairsAlike_L11 N M w11_v1 w11_v2) n11) v3 v4 v5 v6 = some r := hf
      unfold pBench_pairsAlike_L11b at hf
      refine lv_iload C.1 C.2.1 dX0_pairsAlike_11 (lv_at hl 6 rfl) ?_
      refine lv_bipush (v := 6) C.1 C.2.1 dX0_pairsAlike_13 (by decide) ?_
      refine lv_icmp_ge (tgt := 93) C.1 C.2.1 dX0_pairsAlike_15 (by decide) (fun hc15 => ?_) (fun hc15 => ?_)
      · have hf := fm_ip hf hc15
        refine lv_iload_n C.1 C.2.1 dX0_pairsAlike_93 rfl (lv_at hl 3 rfl) ?_
        obtain ⟨x94, hc94, hf⟩ := fm_bd hf
        refine fm_callS C E [.int _] [] lm_X0_115 wk_X9_pairsOf (c_MicRow_pairsOf l G _ _ _  hc94) rfl hl.1 (by simp [Value.category]) ⟨⟨rfl, rfl⟩, by decide, by decide⟩ ⟨by decide, by decide⟩ dX0_pairsAlike_94 rfl (fun H locs E => ?_)
        refine W.eq (g2 := F0 m 97 ls (.int x94 :: [])) rfl ?_
        refine lv_iload C.1 C.2.1 dX0_pairsAlike_97 (lv_at hl 4 rfl) ?_
        obtain ⟨x99, hc99, hf⟩ := fm_bd hf
        refine fm_callS C E [.int _] [.int _] lm_X0_115 wk_X9_pairsOf (c_MicRow_pairsOf l G _ _ _  hc99) rfl hl.1 (by simp [Value.category]) ⟨⟨rfl, rfl⟩, by decide, by decide⟩ ⟨by decide, by decide⟩ dX0_pairsAlike_99 rfl (fun H locs E => ?_)
        refine W.eq (g2 := F0 m 102 ls (.int x99 :: [.int _])) rfl ?_
        refine lv_iadd C.1 C.2.1 dX0_pairsAlike_102 ?_
        refine lv_iload C.1 C.2.1 dX0_pairsAlike_103 (lv_at hl 5 rfl) ?_
        obtain ⟨x105, hc105, hf⟩ := fm_bd hf
        refine fm_callS C E [.int _] [.int _] lm_X0_115 wk_X9_pairsOf (c_MicRow_pairsOf l G _ _ _  hc105) rfl hl.1 (by simp [Value.category]) ⟨⟨rfl, rfl⟩, by decide, by decide⟩ ⟨by decide, by decide⟩ dX0_pairsAlike_105 rfl (fun H locs E => ?_)
        refine W.eq (g2 := F0 m 108 ls (.int x105 :: [.int _])) rfl ?_
        refine lv_iadd C.1 C.2.1 dX0_pairsAlike_108 ?_
        obtain rfl := fm_rt1 hf
        exact fm_iret C E rfl rfl dX0_pairsAlike_109
      · have hf := fm_in' hf hc15
        refine lv_iload_n C.1 C.2.1 dX0_pairsAlike_18 rfl (lv_at hl 1 rfl) ?_
        refine lv_iload C.1 C.2.1 dX0_pairsAlike_19 (lv_at hl 6 rfl) ?_
        refine lv_ishr C.1 C.2.1 dX0_pairsAlike_21 ?_
        refine lv_iconst (v := 1) C.1 C.2.1 dX0_pairsAlike_22 (by decide) ?_
        refine lv_iand C.1 C.2.1 dX0_pairsAlike_23 ?_
        refine lv_if_ne (tgt := 30) C.1 C.2.1 dX0_pairsAlike_24 (by decide) (fun hc24 => ?_) (fun hc24 => ?_)
        · have hf := fm_in' hf hc24
          refine lv_aload_n C.1 C.2.1 dX0_pairsAlike_30 rfl (lv_at hl 0 rfl) ?_
          refine fm_getr C E lf_X0_11 hC_181 rfl dX0_pairsAlike_31 ?_
          refine lv_iload C.1 C.2.1 dX0_pairsAlike_34 (lv_at hl 6 rfl) ?_
          obtain ⟨q36, h36, k36, e36, hf⟩ := fm_ix_t tC_183 hf
          refine fm_aald C E hC_182 h36 (r := q36) (by rw [e36]; exact rC_183 _ (fm_in_lt h36)) dX0_pairsAlike_36 ?_
          refine lv_iload_n C.1 C.2.1 dX0_pairsAlike_37 rfl (lv_at hl 2 rfl) ?_
          obtain ⟨h38, x38, e38, hf⟩ := fm_ld_e hf
          refine fm_iald' C E e38 k36 h38 dX0_pairsAlike_38 ?_
          obtain ⟨x39, hc39, hf⟩ := fm_bd hf
          refine fm_callS C E [.int _] [] lm_X0_112 wk_X9_signOf (c_MicRow_signOf l G _ _ _  hc39) rfl hl.1 (by simp [Value.category]) ⟨⟨rfl, rfl⟩, by decide, by decide⟩ ⟨by decide, by decide⟩ dX0_pairsAlike_39 rfl (fun H locs E => ?_)
          refine W.eq (g2 := F0 m 42 ls (.int x39 :: [])) rfl ?_
          refine lv_istore (lv' := [(7, .int _), (0, .ref _), (1, .int _), (2, .int _), (3, .int _), (4, .int _), (5, .int _), (6, .int _)]) C.1 C.2.1 dX0_pairsAlike_42 hl (by decide) rfl (fun ls hl => ?_)
          refine lv_iload_n C.1 C.2.1 dX0_pairsAlike_44 rfl (lv_at hl 4 rfl) ?_
          refine lv_iload C.1 C.2.1 dX0_pairsAlike_45 (lv_at hl 0 rfl) ?_
          refine lv_if_le (tgt := 54) C.1 C.2.1 dX0_pairsAlike_47 (by decide) (fun hc47 => ?_) (fun hc47 => ?_)
          · have hf := fm_ip hf hc47
            refine lv_iconst (v := 0) C.1 C.2.1 dX0_pairsAlike_54 (by decide) ?_
            exact J55 _ _ _ _ _ _ _ _ _ E (lv_sub hl [1, 2, 3, 5, 6, 7, 0] rfl) hf
          · have hf := fm_in' hf hc47
            refine lv_iconst (v := 1) C.1 C.2.1 dX0_pairsAlike_50 (by decide) ?_
            refine lv_goto (tgt := 55) C.1 C.2.1 dX0_pairsAlike_51 (by decide) ?_
            exact J55 _ _ _ _ _ _ _ _ _ E (lv_sub hl [1, 2, 3, 5, 6, 7, 0] rfl) hf
        · have hf := fm_ip hf hc24
          refine lv_goto (tgt := 87) C.1 C.2.1 dX0_pairsAlike_27 (by decide) ?_
          refine fm_iinc C (v := 1) (lv' := [(6, .int _), (0, .ref _), (1, .int _), (2, .int _), (3, .int _), (4, .int _), (5, .int _)]) (k := 6) hl rfl (by decide) (by decide) rfl dX0_pairsAlike_87 (fun ls hl => ?_)
          refine lv_goto (tgt := 11) C.1 C.2.1 dX0_pairsAlike_90 (by decide) ?_
          exact ih11 _ _ _ _ _ _ _ E (lv_sub hl [1, 2, 3, 4, 5, 6, 0] rfl) hf
  unfold pBench_pairsAlike at hf
  refine lv_iconst (v := 0) C.1 C.2.1 dX0_pairsAlike_0 (by decide) ?_
  refine lv_istore_n (lv' := [(3, .int _), (0, .ref _), (1, .int _), (2, .int _)]) C.1 C.2.1 dX0_pairsAlike_1 rfl hl (by decide) rfl (fun ls hl => ?_)
  refine lv_iconst (v := 0) C.1 C.2.1 dX0_pairsAlike_2 (by decide) ?_
  refine lv_istore (lv' := [(4, .int _), (3, .int _), (0, .ref _), (1, .int _), (2, .int _)]) C.1 C.2.1 dX0_pairsAlike_3 hl (by decide) rfl (fun ls hl => ?_)
  refine lv_iconst (v := 0) C.1 C.2.1 dX0_pairsAlike_5 (by decide) ?_
  refine lv_istore (lv' := [(5, .int _), (4, .int _), (3, .int _), (0, .ref _), (1, .int _), (2, .int _)]) C.1 C.2.1 dX0_pairsAlike_6 hl (by decide) rfl (fun ls hl => ?_)
  refine lv_iconst (v := 0) C.1 C.2.1 dX0_pairsAlike_8 (by decide) ?_
  refine lv_istore (lv' := [(6, .int _), (5, .int _), (4, .int _), (3, .int _), (0, .ref _), (1, .int _), (2, .int _)]) C.1 C.2.1 dX0_pairsAlike_9 hl (by decide) rfl (fun ls hl => ?_)
  exact L11 _ _ N _ _ _ _ _ _ _ E (lv_sub hl [4, 5, 6, 3, 2, 1, 0] rfl) hf
