theorem dX9_level_0 : decode cX9_level 0 = .ok (.aload_n 0, 1) := by decide +kernel
theorem dX9_level_1 : decode cX9_level 1 = .ok (.getfield 10, 3) := by decide +kernel
theorem dX9_level_4 : decode cX9_level 4 = .ok (.iload_n 1, 1) := by decide +kernel
theorem dX9_level_5 : decode cX9_level 5 = .ok (.invokevirtual 116, 3) := by decide +kernel
theorem dX9_level_8 : decode cX9_level 8 = .ok (.ifCond .ne 5, 3) := by decide +kernel
theorem dX9_level_11 : decode cX9_level 11 = .ok (.iconst (-1), 1) := by decide +kernel
theorem dX9_level_12 : decode cX9_level 12 = .ok (.ireturn, 1) := by decide +kernel
theorem dX9_level_13 : decode cX9_level 13 = .ok (.aload_n 0, 1) := by decide +kernel
theorem dX9_level_14 : decode cX9_level 14 = .ok (.getfield 62, 3) := by decide +kernel
theorem dX9_level_17 : decode cX9_level 17 = .ok (.iconst (-1), 1) := by decide +kernel
theorem dX9_level_18 : decode cX9_level 18 = .ok (.invokevirtual 150, 3) := by decide +kernel
theorem dX9_level_21 : decode cX9_level 21 = .ok (.aload_n 0, 1) := by decide +kernel
theorem dX9_level_22 : decode cX9_level 22 = .ok (.getfield 71, 3) := by decide +kernel
theorem dX9_level_25 : decode cX9_level 25 = .ok (.iload_n 1, 1) := by decide +kernel
theorem dX9_level_26 : decode cX9_level 26 = .ok (.aload_n 0, 1) := by decide +kernel
theorem dX9_level_27 : decode cX9_level 27 = .ok (.getfield 10, 3) := by decide +kernel
theorem dX9_level_30 : decode cX9_level 30 = .ok (.invokevirtual 208, 3) := by decide +kernel
theorem dX9_level_33 : decode cX9_level 33 = .ok (.aload_n 0, 1) := by decide +kernel
theorem dX9_level_34 : decode cX9_level 34 = .ok (.getfield 10, 3) := by decide +kernel
theorem dX9_level_37 : decode cX9_level 37 = .ok (.invokevirtual 211, 3) := by decide +kernel
theorem dX9_level_40 : decode cX9_level 40 = .ok (.invokevirtual 214, 3) := by decide +kernel
theorem dX9_level_43 : decode cX9_level 43 = .ok (.iconst 0, 1) := by decide +kernel
theorem dX9_level_44 : decode cX9_level 44 = .ok (.istore_n 2, 1) := by decide +kernel
theorem dX9_level_45 : decode cX9_level 45 = .ok (.iconst 1, 1) := by decide +kernel
theorem dX9_level_46 : decode cX9_level 46 = .ok (.istore_n 3, 1) := by decide +kernel
theorem dX9_level_47 : decode cX9_level 47 = .ok (.iload_n 3, 1) := by decide +kernel
theorem dX9_level_48 : decode cX9_level 48 = .ok (.aload_n 0, 1) := by decide +kernel
theorem dX9_level_49 : decode cX9_level 49 = .ok (.getfield 10, 3) := by decide +kernel
theorem dX9_level_52 : decode cX9_level 52 = .ok (.invokevirtual 211, 3) := by decide +kernel
theorem dX9_level_55 : decode cX9_level 55 = .ok (.if_icmp .ge 38, 3) := by decide +kernel
theorem dX9_level_58 : decode cX9_level 58 = .ok (.aload_n 0, 1) := by decide +kernel
theorem dX9_level_59 : decode cX9_level 59 = .ok (.getfield 71, 3) := by decide +kernel
theorem dX9_level_62 : decode cX9_level 62 = .ok (.getfield 217, 3) := by decide +kernel
theorem dX9_level_65 : decode cX9_level 65 = .ok (.iload_n 3, 1) := by decide +kernel
theorem dX9_level_66 : decode cX9_level 66 = .ok (.iaload, 1) := by decide +kernel
theorem dX9_level_67 : decode cX9_level 67 = .ok (.invokestatic 220, 3) := by decide +kernel
theorem dX9_level_70 : decode cX9_level 70 = .ok (.aload_n 0, 1) := by decide +kernel
theorem dX9_level_71 : decode cX9_level 71 = .ok (.getfield 71, 3) := by decide +kernel
theorem dX9_level_74 : decode cX9_level 74 = .ok (.getfield 217, 3) := by decide +kernel
theorem dX9_level_77 : decode cX9_level 77 = .ok (.iload_n 2, 1) := by decide +kernel
theorem dX9_level_78 : decode cX9_level 78 = .ok (.iaload, 1) := by decide +kernel
theorem dX9_level_79 : decode cX9_level 79 = .ok (.invokestatic 220, 3) := by decide +kernel
theorem dX9_level_82 : decode cX9_level 82 = .ok (.if_icmp .le 5, 3) := by decide +kernel
theorem dX9_level_85 : decode cX9_level 85 = .ok (.iload_n 3, 1) := by decide +kernel
theorem dX9_level_86 : decode cX9_level 86 = .ok (.istore_n 2, 1) := by decide +kernel
theorem dX9_level_87 : decode cX9_level 87 = .ok (.iinc 3 1, 3) := by decide +kernel
theorem dX9_level_90 : decode cX9_level 90 = .ok (.goto (-43), 3) := by decide +kernel
theorem dX9_level_93 : decode cX9_level 93 = .ok (.aload_n 0, 1) := by decide +kernel
theorem dX9_level_94 : decode cX9_level 94 = .ok (.getfield 53, 3) := by decide +kernel
theorem dX9_level_97 : decode cX9_level 97 = .ok (.invokevirtual 225, 3) := by decide +kernel
theorem dX9_level_100 : decode cX9_level 100 = .ok (.aload_n 0, 1) := by decide +kernel
theorem dX9_level_101 : decode cX9_level 101 = .ok (.getfield 53, 3) := by decide +kernel
theorem dX9_level_104 : decode cX9_level 104 = .ok (.aload_n 0, 1) := by decide +kernel
theorem dX9_level_105 : decode cX9_level 105 = .ok (.getfield 71, 3) := by decide +kernel
theorem dX9_level_108 : decode cX9_level 108 = .ok (.aload_n 0, 1) := by decide +kernel
theorem dX9_level_109 : decode cX9_level 109 = .ok (.getfield 71, 3) := by decide +kernel
theorem dX9_level_112 : decode cX9_level 112 = .ok (.getfield 217, 3) := by decide +kernel
theorem dX9_level_115 : decode cX9_level 115 = .ok (.invokevirtual 228, 3) := by decide +kernel
theorem dX9_level_118 : decode cX9_level 118 = .ok (.invokevirtual 232, 3) := by decide +kernel
theorem dX9_level_121 : decode cX9_level 121 = .ok (.aload_n 0, 1) := by decide +kernel
theorem dX9_level_122 : decode cX9_level 122 = .ok (.getfield 53, 3) := by decide +kernel
theorem dX9_level_125 : decode cX9_level 125 = .ok (.aload_n 0, 1) := by decide +kernel
theorem dX9_level_126 : decode cX9_level 126 = .ok (.getfield 71, 3) := by decide +kernel
theorem dX9_level_129 : decode cX9_level 129 = .ok (.getfield 217, 3) := by decide +kernel
theorem dX9_level_132 : decode cX9_level 132 = .ok (.iload_n 2, 1) := by decide +kernel
theorem dX9_level_133 : decode cX9_level 133 = .ok (.iaload, 1) := by decide +kernel
theorem dX9_level_134 : decode cX9_level 134 = .ok (.invokestatic 220, 3) := by decide +kernel
theorem dX9_level_137 : decode cX9_level 137 = .ok (.i2l, 1) := by decide +kernel
theorem dX9_level_138 : decode cX9_level 138 = .ok (.invokevirtual 232, 3) := by decide +kernel
theorem dX9_level_141 : decode cX9_level 141 = .ok (.aload_n 0, 1) := by decide +kernel
theorem dX9_level_142 : decode cX9_level 142 = .ok (.getfield 53, 3) := by decide +kernel
theorem dX9_level_145 : decode cX9_level 145 = .ok (.aload_n 0, 1) := by decide +kernel
theorem dX9_level_146 : decode cX9_level 146 = .ok (.getfield 10, 3) := by decide +kernel
theorem dX9_level_149 : decode cX9_level 149 = .ok (.invokevirtual 208, 3) := by decide +kernel
theorem dX9_level_152 : decode cX9_level 152 = .ok (.iload_n 2, 1) := by decide +kernel
theorem dX9_level_153 : decode cX9_level 153 = .ok (.iadd, 1) := by decide +kernel
theorem dX9_level_154 : decode cX9_level 154 = .ok (.i2l, 1) := by decide +kernel
theorem dX9_level_155 : decode cX9_level 155 = .ok (.invokevirtual 232, 3) := by decide +kernel
theorem dX9_level_158 : decode cX9_level 158 = .ok (.aload_n 0, 1) := by decide +kernel
theorem dX9_level_159 : decode cX9_level 159 = .ok (.getfield 71, 3) := by decide +kernel
theorem dX9_level_162 : decode cX9_level 162 = .ok (.aload_n 0, 1) := by decide +kernel
theorem dX9_level_163 : decode cX9_level 163 = .ok (.getfield 71, 3) := by decide +kernel
theorem dX9_level_166 : decode cX9_level 166 = .ok (.getfield 217, 3) := by decide +kernel
theorem dX9_level_169 : decode cX9_level 169 = .ok (.invokevirtual 236, 3) := by decide +kernel
theorem dX9_level_172 : decode cX9_level 172 = .ok (.ireturn, 1) := by decide +kernel
set_option maxHeartbeats 4000000 in
set_option maxRecDepth 100000 in
theorem c_MicRow_level (l : Launch) (G : fm_G) (N : Nat) (M : fm_M) (v1 : Int32) (r : Int32) (M' : fm_M) (hf : pMicRow_level N M v1 = some (r, M')) : fm_Met l yX9_level cX9_level 4 (some .int) { frames := 5, cells := 0, slots := 0, locals := 120 } shC G [.ref (G.2.1 0), .int v1] M (some (.int r)) M' := by
  refine fm_enter (by decide) (Nat.le_of_ble_eq_true rfl) ?_
  intro p e s m args below meth c ls C E hl
  have hl : lv_has ls 4 [(0, .ref (G.2.1 0)), (1, .int v1)] := hl
  have L47 : ∀ (w47_M : fm_M) (n47 : Nat) (v2 : Int32) (v3 : Int32) (H : Heap) (locs : List Loc) (ls : Array Slot), fm_Wd shC G w47_M s H locs → lv_has ls 4 [(0, .ref (G.2.1 0)), (2, .int v2), (3, .int v3)] → fm_lp (pMicRow_level_L47 N w47_M) n47 (v2, v3) = some (r, M') → W p l e { frames := 5, cells := 0, slots := 0, locals := 120 } s m args below meth c H locs 0 0 (fm_Z below shC G args s (some (.int r)) M') (F0 m 47 ls []) := by
    intro w47_M n47
    induction n47 with
    | zero => intro v2 v3 H locs ls E hl hf; exact fm_lp_0 hf
    | succ n47 ih47 =>
      intro v2 v3 H locs ls E hl hf
      have hf : pMicRow_level_L47b N w47_M (fm_lp (pMicRow_level_L47 N w47_M) n47) v2 v3 = some (r, M') := hf
      unfold pMicRow_level_L47b at hf
      refine lv_iload_n C.1 C.2.1 dX9_level_47 rfl (lv_at hl 2 rfl) ?_
      refine lv_aload_n C.1 C.2.1 dX9_level_48 rfl (lv_at hl 0 rfl) ?_
      refine fm_getr C E lf_X9_10 hC_0 rfl dX9_level_49 ?_
      obtain ⟨x52, hc52, hf⟩ := fm_bd hf
      refine fm_callV C E [] [.int _] lm_X9_211 wk_X7_length (c_Scene_length l G _ _  hc52) hC_1 rfl rfl rfl hl.1 (by simp [Value.category]) ⟨⟨rfl, rfl⟩, by decide, by decide⟩ ⟨by decide, by decide⟩ dX9_level_52 rfl (fun H locs E => ?_)
      refine W.eq (g2 := F0 m 55 ls (.int x52 :: [.int _])) rfl ?_
      refine lv_icmp_ge (tgt := 93) C.1 C.2.1 dX9_level_55 (by decide) (fun hc55 => ?_) (fun hc55 => ?_)
      · have hf := fm_ip hf hc55
        refine lv_aload_n C.1 C.2.1 dX9_level_93 rfl (lv_at hl 0 rfl) ?_
        refine fm_getr C E lf_X9_53 hC_0 rfl dX9_level_94 ?_
        obtain ⟨M97, hc97, hf⟩ := fm_bd hf
        refine fm_callV C E [] [] lm_X9_225 wk_X8_clear (c_Told_clear l G _ _ hc97) hC_176 rfl rfl rfl hl.1 (by simp [Value.category]) ⟨⟨rfl, rfl⟩, by decide, by decide⟩ ⟨by decide, by decide⟩ dX9_level_97 rfl (fun H locs E => ?_)
        refine W.eq (g2 := F0 m 100 ls []) rfl ?_
        refine lv_aload_n C.1 C.2.1 dX9_level_100 rfl (lv_at hl 0 rfl) ?_
        refine fm_getr C E lf_X9_53 hC_0 rfl dX9_level_101 ?_
        refine lv_aload_n C.1 C.2.1 dX9_level_104 rfl (lv_at hl 0 rfl) ?_
        refine fm_getr C E lf_X9_71 hC_0 rfl dX9_level_105 ?_
        refine lv_aload_n C.1 C.2.1 dX9_level_108 rfl (lv_at hl 0 rfl) ?_
        refine fm_getr C E lf_X9_71 hC_0 rfl dX9_level_109 ?_
        refine fm_getr C E lf_X9_217 hC_181 rfl dX9_level_112 ?_
        obtain ⟨x115, hc115, hf⟩ := fm_bd hf
        refine fm_callV C E [.ref _] [.ref _] lm_X9_228 wk_X0_powerOf (c_Bench_powerOf l G N _ _ _  hc115) hC_181 rfl rfl rfl hl.1 (by simp [Value.category]) ⟨⟨rfl, rfl⟩, by decide, by decide⟩ ⟨by decide, by decide⟩ dX9_level_115 rfl (fun H locs E => ?_)
        refine W.eq (g2 := F0 m 118 ls (.long x115 :: [.ref _])) rfl ?_
        obtain ⟨M118, hc118, hf⟩ := fm_bd hf
        refine fm_callV C E [.long _] [] lm_X9_232 wk_X8_add (c_Told_add l G _ _ _ hc118) hC_176 rfl rfl rfl hl.1 (by simp [Value.category]) ⟨⟨rfl, rfl⟩, by decide, by decide⟩ ⟨by decide, by decide⟩ dX9_level_118 rfl (fun H locs E => ?_)
        refine W.eq (g2 := F0 m 121 ls []) rfl ?_
        refine lv_aload_n C.1 C.2.1 dX9_level_121 rfl (lv_at hl 0 rfl) ?_
        refine fm_getr C E lf_X9_53 hC_0 rfl dX9_level_122 ?_
        refine lv_aload_n C.1 C.2.1 dX9_level_125 rfl (lv_at hl 0 rfl) ?_
        refine fm_getr C E lf_X9_71 hC_0 rfl dX9_level_126 ?_
        refine fm_getr C E lf_X9_217 hC_181 rfl dX9_level_129 ?_
        refine lv_iload_n C.1 C.2.1 dX9_level_132 rfl (lv_at hl 1 rfl) ?_
        obtain ⟨h133, x133, e133, hf⟩ := fm_ld_e hf
        refine fm_iald' C E e133 hC_189 h133 dX9_level_133 ?_
        refine fm_abs C wv_abs wm_510 hl.1 ⟨by decide, by decide⟩ (by simp [Value.category]) ⟨by decide, by decide⟩ dX9_level_134 ?_
        refine lv_i2l C.1 C.2.1 dX9_level_137 rfl ?_
        obtain ⟨M138, hc138, hf⟩ := fm_bd hf
        refine fm_callV C E [.long _] [] lm_X9_232 wk_X8_add (c_Told_add l G _ _ _ hc138) hC_176 rfl rfl rfl hl.1 (by simp [Value.category]) ⟨⟨rfl, rfl⟩, by decide, by decide⟩ ⟨by decide, by decide⟩ dX9_level_138 rfl (fun H locs E => ?_)
        refine W.eq (g2 := F0 m 141 ls []) rfl ?_
        refine lv_aload_n C.1 C.2.1 dX9_level_141 rfl (lv_at hl 0 rfl) ?_
        refine fm_getr C E lf_X9_53 hC_0 rfl dX9_level_142 ?_
        refine lv_aload_n C.1 C.2.1 dX9_level_145 rfl (lv_at hl 0 rfl) ?_
        refine fm_getr C E lf_X9_10 hC_0 rfl dX9_level_146 ?_
        obtain ⟨x149, hc149, hf⟩ := fm_bd hf
        refine fm_callV C E [] [.ref _] lm_X9_208 wk_X7_begin (c_Scene_begin l G _ _  hc149) hC_1 rfl rfl rfl hl.1 (by simp [Value.category]) ⟨⟨rfl, rfl⟩, by decide, by decide⟩ ⟨by decide, by decide⟩ dX9_level_149 rfl (fun H locs E => ?_)
        refine W.eq (g2 := F0 m 152 ls (.int x149 :: [.ref _])) rfl ?_
        refine lv_iload_n C.1 C.2.1 dX9_level_152 rfl (lv_at hl 1 rfl) ?_
        refine lv_iadd C.1 C.2.1 dX9_level_153 ?_
        refine lv_i2l C.1 C.2.1 dX9_level_154 rfl ?_
        obtain ⟨M155, hc155, hf⟩ := fm_bd hf
        refine fm_callV C E [.long _] [] lm_X9_232 wk_X8_add (c_Told_add l G _ _ _ hc155) hC_176 rfl rfl rfl hl.1 (by simp [Value.category]) ⟨⟨rfl, rfl⟩, by decide, by decide⟩ ⟨by decide, by decide⟩ dX9_level_155 rfl (fun H locs E => ?_)
        refine W.eq (g2 := F0 m 158 ls []) rfl ?_
        refine lv_aload_n C.1 C.2.1 dX9_level_158 rfl (lv_at hl 0 rfl) ?_
        refine fm_getr C E lf_X9_71 hC_0 rfl dX9_level_159 ?_
        refine lv_aload_n C.1 C.2.1 dX9_level_162 rfl (lv_at hl 0 rfl) ?_
        refine fm_getr C E lf_X9_71 hC_0 rfl dX9_level_163 ?_
        refine fm_getr C E lf_X9_217 hC_181 rfl dX9_level_166 ?_
        obtain ⟨x169, hc169, hf⟩ := fm_bd hf
        refine fm_callV C E [.ref _] [] lm_X9_236 wk_X0_levelOf (c_Bench_levelOf l G N _ _ _  hc169) hC_181 rfl rfl rfl hl.1 (by simp [Value.category]) ⟨⟨rfl, rfl⟩, by decide, by decide⟩ ⟨by decide, by decide⟩ dX9_level_169 rfl (fun H locs E => ?_)
        refine W.eq (g2 := F0 m 172 ls (.int x169 :: [])) rfl ?_
        obtain ⟨rfl, rfl⟩ := fm_rt2 hf
        exact fm_iret C E rfl rfl dX9_level_172
      · have hf := fm_in' hf hc55
        refine lv_aload_n C.1 C.2.1 dX9_level_58 rfl (lv_at hl 0 rfl) ?_
        refine fm_getr C E lf_X9_71 hC_0 rfl dX9_level_59 ?_
        refine fm_getr C E lf_X9_217 hC_181 rfl dX9_level_62 ?_
        refine lv_iload_n C.1 C.2.1 dX9_level_65 rfl (lv_at hl 2 rfl) ?_
        obtain ⟨h66, x66, e66, hf⟩ := fm_ld_e hf
        refine fm_iald' C E e66 hC_189 h66 dX9_level_66 ?_
        refine fm_abs C wv_abs wm_510 hl.1 ⟨by decide, by decide⟩ (by simp [Value.category]) ⟨by decide, by decide⟩ dX9_level_67 ?_
        refine lv_aload_n C.1 C.2.1 dX9_level_70 rfl (lv_at hl 0 rfl) ?_
        refine fm_getr C E lf_X9_71 hC_0 rfl dX9_level_71 ?_
        refine fm_getr C E lf_X9_217 hC_181 rfl dX9_level_74 ?_
        refine lv_iload_n C.1 C.2.1 dX9_level_77 rfl (lv_at hl 1 rfl) ?_
        obtain ⟨h78, x78, e78, hf⟩ := fm_ld_e hf
        refine fm_iald' C E e78 hC_189 h78 dX9_level_78 ?_
        refine fm_abs C wv_abs wm_510 hl.1 ⟨by decide, by decide⟩ (by simp [Value.category]) ⟨by decide, by decide⟩ dX9_level_79 ?_
        refine lv_icmp_le (tgt := 87) C.1 C.2.1 dX9_level_82 (by decide) (fun hc82 => ?_) (fun hc82 => ?_)
        · have hf := fm_ip hf hc82
          refine fm_iinc C (v := 1) (lv' := [(3, .int _), (0, .ref _), (2, .int _)]) (k := 2) hl rfl (by decide) (by decide) rfl dX9_level_87 (fun ls hl => ?_)
          refine lv_goto (tgt := 47) C.1 C.2.1 dX9_level_90 (by decide) ?_
          exact ih47 _ _ _ _ _ E (lv_sub hl [1, 2, 0] rfl) hf
        · have hf := fm_in' hf hc82
          refine lv_iload_n C.1 C.2.1 dX9_level_85 rfl (lv_at hl 2 rfl) ?_
          refine lv_istore_n (lv' := [(2, .int _), (0, .ref _), (3, .int _)]) C.1 C.2.1 dX9_level_86 rfl hl (by decide) rfl (fun ls hl => ?_)
          refine fm_iinc C (v := 1) (lv' := [(3, .int _), (2, .int _), (0, .ref _)]) (k := 2) hl rfl (by decide) (by decide) rfl dX9_level_87 (fun ls hl => ?_)
          refine lv_goto (tgt := 47) C.1 C.2.1 dX9_level_90 (by decide) ?_
          exact ih47 _ _ _ _ _ E (lv_sub hl [2, 1, 0] rfl) hf
  unfold pMicRow_level at hf
  refine lv_aload_n C.1 C.2.1 dX9_level_0 rfl (lv_at hl 0 rfl) ?_
  refine fm_getr C E lf_X9_10 hC_0 rfl dX9_level_1 ?_
  refine lv_iload_n C.1 C.2.1 dX9_level_4 rfl (lv_at hl 1 rfl) ?_
  obtain ⟨x5, hc5, hf⟩ := fm_bd hf
  refine fm_callV C E [.int _] [] lm_X9_116 wk_X7_hasMic (c_Scene_hasMic l G _ _ _  hc5) hC_1 rfl rfl rfl hl.1 (by simp [Value.category]) ⟨⟨rfl, rfl⟩, by decide, by decide⟩ ⟨by decide, by decide⟩ dX9_level_5 rfl (fun H locs E => ?_)
  refine W.eq (g2 := F0 m 8 ls (.int x5 :: [])) rfl ?_
  refine lv_if_ne (tgt := 13) C.1 C.2.1 dX9_level_8 (by decide) (fun hc8 => ?_) (fun hc8 => ?_)
  · have hf := fm_in' hf hc8
    refine lv_aload_n C.1 C.2.1 dX9_level_13 rfl (lv_at hl 0 rfl) ?_
    refine fm_getr C E lf_X9_62 hC_0 rfl dX9_level_14 ?_
    refine lv_iconst (v := (-1)) C.1 C.2.1 dX9_level_17 (by decide) ?_
    obtain ⟨M18, hc18, hf⟩ := fm_bd hf
    refine fm_callV C E [.int _] [] lm_X9_150 wk_X3_listenTo (c_Ears_listenTo l G _ _ _ hc18) hC_178 rfl rfl rfl hl.1 (by simp [Value.category]) ⟨⟨rfl, rfl⟩, by decide, by decide⟩ ⟨by decide, by decide⟩ dX9_level_18 rfl (fun H locs E => ?_)
    refine W.eq (g2 := F0 m 21 ls []) rfl ?_
    refine lv_aload_n C.1 C.2.1 dX9_level_21 rfl (lv_at hl 0 rfl) ?_
    refine fm_getr C E lf_X9_71 hC_0 rfl dX9_level_22 ?_
    refine lv_iload_n C.1 C.2.1 dX9_level_25 rfl (lv_at hl 1 rfl) ?_
    refine lv_aload_n C.1 C.2.1 dX9_level_26 rfl (lv_at hl 0 rfl) ?_
    refine fm_getr C E lf_X9_10 hC_0 rfl dX9_level_27 ?_
    obtain ⟨x30, hc30, hf⟩ := fm_bd hf
    refine fm_callV C E [] [.int _, .ref _] lm_X9_208 wk_X7_begin (c_Scene_begin l G _ _  hc30) hC_1 rfl rfl rfl hl.1 (by simp [Value.category]) ⟨⟨rfl, rfl⟩, by decide, by decide⟩ ⟨by decide, by decide⟩ dX9_level_30 rfl (fun H locs E => ?_)
    refine W.eq (g2 := F0 m 33 ls (.int x30 :: [.int _, .ref _])) rfl ?_
    refine lv_aload_n C.1 C.2.1 dX9_level_33 rfl (lv_at hl 0 rfl) ?_
    refine fm_getr C E lf_X9_10 hC_0 rfl dX9_level_34 ?_
    obtain ⟨x37, hc37, hf⟩ := fm_bd hf
    refine fm_callV C E [] [.int _, .int _, .ref _] lm_X9_211 wk_X7_length (c_Scene_length l G _ _  hc37) hC_1 rfl rfl rfl hl.1 (by simp [Value.category]) ⟨⟨rfl, rfl⟩, by decide, by decide⟩ ⟨by decide, by decide⟩ dX9_level_37 rfl (fun H locs E => ?_)
    refine W.eq (g2 := F0 m 40 ls (.int x37 :: [.int _, .int _, .ref _])) rfl ?_
    obtain ⟨M40, hc40, hf⟩ := fm_bd hf
    refine fm_callV C E [.int _, .int _, .int _] [] lm_X9_214 wk_X0_hear (c_Bench_hear l G N _ _ _ _ _ hc40) hC_181 rfl rfl rfl hl.1 (by simp [Value.category]) ⟨⟨rfl, rfl⟩, by decide, by decide⟩ ⟨by decide, by decide⟩ dX9_level_40 rfl (fun H locs E => ?_)
    refine W.eq (g2 := F0 m 43 ls []) rfl ?_
    refine lv_iconst (v := 0) C.1 C.2.1 dX9_level_43 (by decide) ?_
    refine lv_istore_n (lv' := [(2, .int _), (0, .ref _), (1, .int _)]) C.1 C.2.1 dX9_level_44 rfl hl (by decide) rfl (fun ls hl => ?_)
    refine lv_iconst (v := 1) C.1 C.2.1 dX9_level_45 (by decide) ?_
    refine lv_istore_n (lv' := [(3, .int _), (2, .int _), (0, .ref _), (1, .int _)]) C.1 C.2.1 dX9_level_46 rfl hl (by decide) rfl (fun ls hl => ?_)
    exact L47 _ N _ _ _ _ _ E (lv_sub hl [2, 1, 0] rfl) hf
  · have hf := fm_ip hf hc8
    refine lv_iconst (v := (-1)) C.1 C.2.1 dX9_level_11 (by decide) ?_
    obtain ⟨rfl, rfl⟩ := fm_rt2 hf
    exact fm_iret C E rfl rfl dX9_level_12
theorem dX9_heardPower_0 : decode cX9_heardPower 0 = .ok (.aload_n 0, 1) := by decide +kernel
theorem dX9_heardPower_1 : decode cX9_heardPower 1 = .ok (.getfield 62, 3) := by decide +kernel
theorem dX9_heardPower_4 : decode cX9_heardPower 4 = .ok (.iload_n 2, 1) := by decide +kernel
theorem dX9_heardPower_5 : decode cX9_heardPower 5 = .ok (.invokevirtual 150, 3) := by decide +kernel
theorem dX9_heardPower_8 : decode cX9_heardPower 8 = .ok (.aload_n 0, 1) := by decide +kernel
theorem dX9_heardPower_9 : decode cX9_heardPower 9 = .ok (.getfield 71, 3) := by decide +kernel
theorem dX9_heardPower_12 : decode cX9_heardPower 12 = .ok (.iload_n 1, 1) := by decide +kernel
theorem dX9_heardPower_13 : decode cX9_heardPower 13 = .ok (.aload_n 0, 1) := by decide +kernel
theorem dX9_heardPower_14 : decode cX9_heardPower 14 = .ok (.getfield 10, 3) := by decide +kernel
theorem dX9_heardPower_17 : decode cX9_heardPower 17 = .ok (.invokevirtual 208, 3) := by decide +kernel
theorem dX9_heardPower_20 : decode cX9_heardPower 20 = .ok (.aload_n 0, 1) := by decide +kernel
theorem dX9_heardPower_21 : decode cX9_heardPower 21 = .ok (.getfield 10, 3) := by decide +kernel
theorem dX9_heardPower_24 : decode cX9_heardPower 24 = .ok (.invokevirtual 211, 3) := by decide +kernel
theorem dX9_heardPower_27 : decode cX9_heardPower 27 = .ok (.invokevirtual 214, 3) := by decide +kernel
theorem dX9_heardPower_30 : decode cX9_heardPower 30 = .ok (.aload_n 0, 1) := by decide +kernel
theorem dX9_heardPower_31 : decode cX9_heardPower 31 = .ok (.getfield 71, 3) := by decide +kernel
theorem dX9_heardPower_34 : decode cX9_heardPower 34 = .ok (.aload_n 0, 1) := by decide +kernel
theorem dX9_heardPower_35 : decode cX9_heardPower 35 = .ok (.getfield 71, 3) := by decide +kernel
theorem dX9_heardPower_38 : decode cX9_heardPower 38 = .ok (.getfield 217, 3) := by decide +kernel
theorem dX9_heardPower_41 : decode cX9_heardPower 41 = .ok (.invokevirtual 228, 3) := by decide +kernel
theorem dX9_heardPower_44 : decode cX9_heardPower 44 = .ok (.lreturn, 1) := by decide +kernel
set_option maxHeartbeats 4000000 in
set_option maxRecDepth 100000 in
theorem c_MicRow_heardPower (l : Launch) (G : fm_G) (N : Nat) (M : fm_M) (v1 : Int32) (v2 : Int32) (r : Int64) (M' : fm_M) (hf : pMicRow_heardPower N M v1 v2 = some (r, M')) : fm_Met l yX9_heardPower cX9_heardPower 3 (some .long) { frames := 5, cells := 0, slots := 0, locals := 120 } shC G [.ref (G.2.1 0), .int v1, .int v2] M (some (.long r)) M' := by
  refine fm_enter (by decide) (Nat.le_of_ble_eq_true rfl) ?_
  intro p e s m args below meth c ls C E hl
  have hl : lv_has ls 3 [(0, .ref (G.2.1 0)), (1, .int v1), (2, .int v2)] := hl
  unfold pMicRow_heardPower at hf
  refine lv_aload_n C.1 C.2.1 dX9_heardPower_0 rfl (lv_at hl 0 rfl) ?_
  refine fm_getr C E lf_X9_62 hC_0 rfl dX9_heardPower_1 ?_
  refine lv_iload_n C.1 C.2.1 dX9_heardPower_4 rfl (lv_at hl 2 rfl) ?_
  obtain ⟨M5, hc5, hf⟩ := fm_bd hf
  refine fm_callV C E [.int _] [] lm_X9_150 wk_X3_listenTo (c_Ears_listenTo l G _ _ _ hc5) hC_178 rfl rfl rfl hl.1 (by simp [Value.category]) ⟨⟨rfl, rfl⟩, by decide, by decide⟩ ⟨by decide, by decide⟩ dX9_heardPower_5 rfl (fun H locs E => ?_)
  refine W.eq (g2 := F0 m 8 ls []) rfl ?_
  refine lv_aload_n C.1 C.2.1 dX9_heardPower_8 rfl (lv_at hl 0 rfl) ?_
  refine fm_getr C E lf_X9_71 hC_0 rfl dX9_heardPower_9 ?_
  refine lv_iload_n C.1 C.2.1 dX9_heardPower_12 rfl (lv_at hl 1 rfl) ?_
  refine lv_aload_n C.1 C.2.1 dX9_heardPower_13 rfl (lv_at hl 0 rfl) ?_
  refine fm_getr C E lf_X9_10 hC_0 rfl dX9_heardPower_14 ?_
  obtain ⟨x17, hc17, hf⟩ := fm_bd hf
  refine fm_callV C E [] [.int _, .ref _] lm_X9_208 wk_X7_begin (c_Scene_begin l G _ _  hc17) hC_1 rfl rfl rfl hl.1 (by simp [Value.category]) ⟨⟨rfl, rfl⟩, by decide, by decide⟩ ⟨by decide, by decide⟩ dX9_heardPower_17 rfl (fun H locs E => ?_)
  refine W.eq (g2 := F0 m 20 ls (.int x17 :: [.int _, .ref _])) rfl ?_
  refine lv_aload_n C.1 C.2.1 dX9_heardPower_20 rfl (lv_at hl 0 rfl) ?_
  refine fm_getr C E lf_X9_10 hC_0 rfl dX9_heardPower_21 ?_
  obtain ⟨x24, hc24, hf⟩ := fm_bd hf
  refine fm_callV C E [] [.int _, .int _, .ref _] lm_X9_211 wk_X7_length (c_Scene_length l G _ _  hc24) hC_1 rfl rfl rfl hl.1 (by simp [Value.category]) ⟨⟨rfl, rfl⟩, by decide, by decide⟩ ⟨by decide, by decide⟩ dX9_heardPower_24 rfl (fun H locs E => ?_)
  refine W.eq (g2 := F0 m 27 ls (.int x24 :: [.int _, .int _, .ref _])) rfl ?_
  obtain ⟨M27, hc27, hf⟩ := fm_bd hf
  refine fm_callV C E [.int _, .int _, .int _] [] lm_X9_214 wk_X0_hear (c_Bench_hear l G N _ _ _ _ _ hc27) hC_181 rfl rfl rfl hl.1 (by simp [Value.category]) ⟨⟨rfl, rfl⟩, by decide, by decide⟩ ⟨by decide, by decide⟩ dX9_heardPower_27 rfl (fun H locs E => ?_)
  refine W.eq (g2 := F0 m 30 ls []) rfl ?_
  refine lv_aload_n C.1 C.2.1 dX9_heardPower_30 rfl (lv_at hl 0 rfl) ?_
  refine fm_getr C E lf_X9_71 hC_0 rfl dX9_heardPower_31 ?_
  refine lv_aload_n C.1 C.2.1 dX9_heardPower_34 rfl (lv_at hl 0 rfl) ?_
  refine fm_getr C E lf_X9_71 hC_0 rfl dX9_heardPower_35 ?_
  refine fm_getr C E lf_X9_217 hC_181 rfl dX9_heardPower_38 ?_
  obtain ⟨x41, hc41, hf⟩ := fm_bd hf
  refine fm_callV C E [.ref _] [] lm_X9_228 wk_X0_powerOf (c_Bench_powerOf l G N _ _ _  hc41) hC_181 rfl rfl rfl hl.1 (by simp [Value.category]) ⟨⟨rfl, rfl⟩, by decide, by decide⟩ ⟨by decide, by decide⟩ dX9_heardPower_41 rfl (fun H locs E => ?_)
  refine W.eq (g2 := F0 m 44 ls (.long x41 :: [])) rfl ?_
  obtain ⟨rfl, rfl⟩ := fm_rt2 hf
  exact fm_lret C E rfl dX9_heardPower_44
theorem dX9_faults_0 : decode cX9_faults 0 = .ok (.iload_n 1, 1) := by decide +kernel
theorem dX9_faults_1 : decode cX9_faults 1 = .ok (.iconst 0, 1) := by decide +kernel
theorem dX9_faults_2 : decode cX9_faults 2 = .ok (.bipush 48, 2) := by decide +kernel
theorem dX9_faults_4 : decode cX9_faults 4 = .ok (.invokestatic 112, 3) := by decide +kernel
theorem dX9_faults_7 : decode cX9_faults 7 = .ok (.ifCond .ne 5, 3) := by decide +kernel
theorem dX9_faults_10 : decode cX9_faults 10 = .ok (.iconst (-1), 1) := by decide +kernel
theorem dX9_faults_11 : decode cX9_faults 11 = .ok (.ireturn, 1) := by decide +kernel
theorem dX9_faults_12 : decode cX9_faults 12 = .ok (.aload_n 0, 1) := by decide +kernel
theorem dX9_faults_13 : decode cX9_faults 13 = .ok (.getfield 62, 3) := by decide +kernel
theorem dX9_faults_16 : decode cX9_faults 16 = .ok (.iconst (-1), 1) := by decide +kernel
theorem dX9_faults_17 : decode cX9_faults 17 = .ok (.invokevirtual 150, 3) := by decide +kernel
theorem dX9_faults_20 : decode cX9_faults 20 = .ok (.iconst 0, 1) := by decide +kernel
theorem dX9_faults_21 : decode cX9_faults 21 = .ok (.istore_n 2, 1) := by decide +kernel
theorem dX9_faults_22 : decode cX9_faults 22 = .ok (.iconst 0, 1) := by decide +kernel
theorem dX9_faults_23 : decode cX9_faults 23 = .ok (.istore_n 3, 1) := by decide +kernel
theorem dX9_faults_24 : decode cX9_faults 24 = .ok (.iconst 0, 1) := by decide +kernel
theorem dX9_faults_25 : decode cX9_faults 25 = .ok (.istore 4, 2) := by decide +kernel
theorem dX9_faults_27 : decode cX9_faults 27 = .ok (.iconst 0, 1) := by decide +kernel
theorem dX9_faults_28 : decode cX9_faults 28 = .ok (.istore 5, 2) := by decide +kernel
theorem dX9_faults_30 : decode cX9_faults 30 = .ok (.iload 5, 2) := by decide +kernel
theorem dX9_faults_32 : decode cX9_faults 32 = .ok (.aload_n 0, 1) := by decide +kernel
theorem dX9_faults_33 : decode cX9_faults 33 = .ok (.getfield 10, 3) := by decide +kernel
theorem dX9_faults_36 : decode cX9_faults 36 = .ok (.getfield 284, 3) := by decide +kernel
theorem dX9_faults_39 : decode cX9_faults 39 = .ok (.if_icmp .ge 99, 3) := by decide +kernel
theorem dX9_faults_42 : decode cX9_faults 42 = .ok (.aload_n 0, 1) := by decide +kernel
theorem dX9_faults_43 : decode cX9_faults 43 = .ok (.getfield 71, 3) := by decide +kernel
theorem dX9_faults_46 : decode cX9_faults 46 = .ok (.iload 5, 2) := by decide +kernel
theorem dX9_faults_48 : decode cX9_faults 48 = .ok (.aload_n 0, 1) := by decide +kernel
theorem dX9_faults_49 : decode cX9_faults 49 = .ok (.getfield 10, 3) := by decide +kernel
theorem dX9_faults_52 : decode cX9_faults 52 = .ok (.invokevirtual 208, 3) := by decide +kernel
theorem dX9_faults_55 : decode cX9_faults 55 = .ok (.aload_n 0, 1) := by decide +kernel
theorem dX9_faults_56 : decode cX9_faults 56 = .ok (.getfield 10, 3) := by decide +kernel
theorem dX9_faults_59 : decode cX9_faults 59 = .ok (.invokevirtual 211, 3) := by decide +kernel
theorem dX9_faults_62 : decode cX9_faults 62 = .ok (.invokevirtual 214, 3) := by decide +kernel
theorem dX9_faults_65 : decode cX9_faults 65 = .ok (.iload_n 2, 1) := by decide +kernel
theorem dX9_faults_66 : decode cX9_faults 66 = .ok (.aload_n 0, 1) := by decide +kernel
theorem dX9_faults_67 : decode cX9_faults 67 = .ok (.getfield 71, 3) := by decide +kernel
theorem dX9_faults_70 : decode cX9_faults 70 = .ok (.invokevirtual 287, 3) := by decide +kernel
theorem dX9_faults_73 : decode cX9_faults 73 = .ok (.ifCond .eq 10, 3) := by decide +kernel
theorem dX9_faults_76 : decode cX9_faults 76 = .ok (.iconst 1, 1) := by decide +kernel
theorem dX9_faults_77 : decode cX9_faults 77 = .ok (.iload 5, 2) := by decide +kernel
theorem dX9_faults_79 : decode cX9_faults 79 = .ok (.ishl, 1) := by decide +kernel
theorem dX9_faults_80 : decode cX9_faults 80 = .ok (.goto 4, 3) := by decide +kernel
theorem dX9_faults_83 : decode cX9_faults 83 = .ok (.iconst 0, 1) := by decide +kernel
theorem dX9_faults_84 : decode cX9_faults 84 = .ok (.ior, 1) := by decide +kernel
theorem dX9_faults_85 : decode cX9_faults 85 = .ok (.istore_n 2, 1) := by decide +kernel
theorem dX9_faults_86 : decode cX9_faults 86 = .ok (.iload_n 3, 1) := by decide +kernel
theorem dX9_faults_87 : decode cX9_faults 87 = .ok (.aload_n 0, 1) := by decide +kernel
theorem dX9_faults_88 : decode cX9_faults 88 = .ok (.getfield 71, 3) := by decide +kernel
theorem dX9_faults_91 : decode cX9_faults 91 = .ok (.invokevirtual 291, 3) := by decide +kernel
theorem dX9_faults_94 : decode cX9_faults 94 = .ok (.iload_n 1, 1) := by decide +kernel
theorem dX9_faults_95 : decode cX9_faults 95 = .ok (.if_icmp .lt 10, 3) := by decide +kernel
theorem dX9_faults_98 : decode cX9_faults 98 = .ok (.iconst 1, 1) := by decide +kernel
theorem dX9_faults_99 : decode cX9_faults 99 = .ok (.iload 5, 2) := by decide +kernel
theorem dX9_faults_101 : decode cX9_faults 101 = .ok (.ishl, 1) := by decide +kernel
theorem dX9_faults_102 : decode cX9_faults 102 = .ok (.goto 4, 3) := by decide +kernel
theorem dX9_faults_105 : decode cX9_faults 105 = .ok (.iconst 0, 1) := by decide +kernel
theorem dX9_faults_106 : decode cX9_faults 106 = .ok (.ior, 1) := by decide +kernel
theorem dX9_faults_107 : decode cX9_faults 107 = .ok (.istore_n 3, 1) := by decide +kernel
theorem dX9_faults_108 : decode cX9_faults 108 = .ok (.iload 4, 2) := by decide +kernel
theorem dX9_faults_110 : decode cX9_faults 110 = .ok (.aload_n 0, 1) := by decide +kernel
theorem dX9_faults_111 : decode cX9_faults 111 = .ok (.getfield 71, 3) := by decide +kernel
theorem dX9_faults_114 : decode cX9_faults 114 = .ok (.invokevirtual 294, 3) := by decide +kernel
theorem dX9_faults_117 : decode cX9_faults 117 = .ok (.iload_n 1, 1) := by decide +kernel
theorem dX9_faults_118 : decode cX9_faults 118 = .ok (.if_icmp .lt 10, 3) := by decide +kernel
theorem dX9_faults_121 : decode cX9_faults 121 = .ok (.iconst 1, 1) := by decide +kernel
theorem dX9_faults_122 : decode cX9_faults 122 = .ok (.iload 5, 2) := by decide +kernel
theorem dX9_faults_124 : decode cX9_faults 124 = .ok (.ishl, 1) := by decide +kernel
theorem dX9_faults_125 : decode cX9_faults 125 = .ok (.goto 4, 3) := by decide +kernel
theorem dX9_faults_128 : decode cX9_faults 128 = .ok (.iconst 0, 1) := by decide +kernel
theorem dX9_faults_129 : decode cX9_faults 129 = .ok (.ior, 1) := by decide +kernel
theorem dX9_faults_130 : decode cX9_faults 130 = .ok (.istore 4, 2) := by decide +kernel
theorem dX9_faults_132 : decode cX9_faults 132 = .ok (.iinc 5 1, 3) := by decide +kernel
theorem dX9_faults_135 : decode cX9_faults 135 = .ok (.goto (-105), 3) := by decide +kernel
theorem dX9_faults_138 : decode cX9_faults 138 = .ok (.aload_n 0, 1) := by decide +kernel
theorem dX9_faults_139 : decode cX9_faults 139 = .ok (.getfield 53, 3) := by decide +kernel
theorem dX9_faults_142 : decode cX9_faults 142 = .ok (.invokevirtual 225, 3) := by decide +kernel
theorem dX9_faults_145 : decode cX9_faults 145 = .ok (.aload_n 0, 1) := by decide +kernel
theorem dX9_faults_146 : decode cX9_faults 146 = .ok (.getfield 53, 3) := by decide +kernel
theorem dX9_faults_149 : decode cX9_faults 149 = .ok (.iload_n 3, 1) := by decide +kernel
theorem dX9_faults_150 : decode cX9_faults 150 = .ok (.i2l, 1) := by decide +kernel
theorem dX9_faults_151 : decode cX9_faults 151 = .ok (.invokevirtual 232, 3) := by decide +kernel
theorem dX9_faults_154 : decode cX9_faults 154 = .ok (.aload_n 0, 1) := by decide +kernel
theorem dX9_faults_155 : decode cX9_faults 155 = .ok (.getfield 53, 3) := by decide +kernel
theorem dX9_faults_158 : decode cX9_faults 158 = .ok (.iload 4, 2) := by decide +kernel
theorem dX9_faults_160 : decode cX9_faults 160 = .ok (.i2l, 1) := by decide +kernel
theorem dX9_faults_161 : decode cX9_faults 161 = .ok (.invokevirtual 232, 3) := by decide +kernel
theorem dX9_faults_164 : decode cX9_faults 164 = .ok (.iload_n 2, 1) := by decide +kernel
theorem dX9_faults_165 : decode cX9_faults 165 = .ok (.ireturn, 1) := by decide +kernel
set_option maxHeartbeats 4000000 in
set_option maxRecDepth 100000 in
theorem c_MicRow_faults (l : Launch) (G : fm_G) (N : Nat) (M : fm_M) (v1 : Int32) (r : Int32) (M' : fm_M) (hf : pMicRow_faults N M v1 = some (r, M')) : fm_Met l yX9_faults cX9_faults 6 (some .int) { frames := 5, cells := 0, slots := 0, locals := 120 } shC G [.ref (G.2.1 0), .int v1] M (some (.int r)) M' := by
  refine fm_enter (by decide) (Nat.le_of_ble_eq_true rfl) ?_
  intro p e s m args below meth c ls C E hl
  have hl : lv_has ls 6 [(0, .ref (G.2.1 0)), (1, .int v1)] := hl
  have L30 : ∀ (w30_v1 : Int32) (n30 : Nat) (v2 : Int32) (v3 : Int32) (v4 : Int32) (v5 : Int32) (M : fm_M) (H : Heap) (locs : List Loc) (ls : Array Slot), fm_Wd shC G M s H locs → lv_has ls 6 [(0, .ref (G.2.1 0)), (1, .int w30_v1), (2, .int v2), (3, .int v3), (4, .int v4), (5, .int v5)] → fm_lp (pMicRow_faults_L30 N w30_v1) n30 (v2, v3, v4, v5, M) = some (r, M') → W p l e { frames := 5, cells := 0, slots := 0, locals := 120 } s m args below meth c H locs 0 0 (fm_Z below shC G args s (some (.int r)) M') (F0 m 30 ls []) := by
    intro w30_v1 n30
    induction n30 with
    | zero => intro v2 v3 v4 v5 M H locs ls E hl hf; exact fm_lp_0 hf
    | succ n30 ih30 =>
      have J106 : ∀ (M : fm_M) (v2 : Int32) (v4 : Int32) (v5 : Int32) (s0 : Int32) (s1 : Int32) (H : Heap) (locs : List Loc) (ls : Array Slot), fm_Wd shC G M s H locs → lv_has ls 6 [(0, .ref (G.2.1 0)), (1, .int w30_v1), (2, .int v2), (4, .int v4), (5, .int v5)] → pMicRow_faults_J106 N M w30_v1 v2 v4 v5 (fm_lp (pMicRow_faults_L30 N w30_v1) n30) s0 s1 = some (r, M') → W p l e { frames := 5, cells := 0, slots := 0, locals := 120 } s m args below meth c H locs 0 0 (fm_Z below shC G args s (some (.int r)) M') (F0 m 106 ls [.int s1, .int s0]) := by
        intro M v2 v4 v5 s0 s1 H locs ls E hl hf
        unfold pMicRow_faults_J106 at hf
        refine lv_ior C.1 C.2.1 dX9_faults_106 ?_
        refine lv_istore_n (lv' := [(3, .int _), (0, .ref _), (1, .int _), (2, .int _), (4, .int _), (5, .int _)]) C.1 C.2.1 dX9_faults_107 rfl hl (by decide) rfl (fun ls hl => ?_)
        refine lv_iload C.1 C.2.1 dX9_faults_108 (lv_at hl 4 rfl) ?_
        refine lv_aload_n C.1 C.2.1 dX9_faults_110 rfl (lv_at hl 1 rfl) ?_
        refine fm_getr C E lf_X9_71 hC_0 rfl dX9_faults_111 ?_
        obtain ⟨x114, hc114, hf⟩ := fm_bd hf
        refine fm_callV C E [] [.int _] lm_X9_294 wk_X0_turnsOfSign (c_Bench_turnsOfSign l G N _ _  hc114) hC_181 rfl rfl rfl hl.1 (by simp [Value.category]) ⟨⟨rfl, rfl⟩, by decide, by decide⟩ ⟨by decide, by decide⟩ dX9_faults_114 rfl (fun H locs E => ?_)
        refine W.eq (g2 := F0 m 117 ls (.int x114 :: [.int _])) rfl ?_
        refine lv_iload_n C.1 C.2.1 dX9_faults_117 rfl (lv_at hl 2 rfl) ?_
        refine lv_icmp_lt (tgt := 128) C.1 C.2.1 dX9_faults_118 (by decide) (fun hc118 => ?_) (fun hc118 => ?_)
        · have hf := fm_ip hf hc118
          refine lv_iconst (v := 0) C.1 C.2.1 dX9_faults_128 (by decide) ?_
          refine lv_ior C.1 C.2.1 dX9_faults_129 ?_
          refine lv_istore (lv' := [(4, .int _), (3, .int _), (0, .ref _), (1, .int _), (2, .int _), (5, .int _)]) C.1 C.2.1 dX9_faults_130 hl (by decide) rfl (fun ls hl => ?_)
          refine fm_iinc C (v := 1) (lv' := [(5, .int _), (4, .int _), (3, .int _), (0, .ref _), (1, .int _), (2, .int _)]) (k := 5) hl rfl (by decide) (by decide) rfl dX9_faults_132 (fun ls hl => ?_)
          refine lv_goto (tgt := 30) C.1 C.2.1 dX9_faults_135 (by decide) ?_
          exact ih30 _ _ _ _ _ _ _ _ E (lv_sub hl [3, 4, 5, 2, 1, 0] rfl) hf
        · have hf := fm_in' hf hc118
          refine lv_iconst (v := 1) C.1 C.2.1 dX9_faults_121 (by decide) ?_
          refine lv_iload C.1 C.2.1 dX9_faults_122 (lv_at hl 5 rfl) ?_
          refine lv_ishl C.1 C.2.1 dX9_faults_124 ?_
          refine lv_goto (tgt := 129) C.1 C.2.1 dX9_faults_125 (by decide) ?_
          refine lv_ior C.1 C.2.1 dX9_faults_129 ?_
          refine lv_istore (lv' := [(4, .int _), (3, .int _), (0, .ref _), (1, .int _), (2, .int _), (5, .int _)]) C.1 C.2.1 dX9_faults_130 hl (by decide) rfl (fun ls hl => ?_)
          refine fm_iinc C (v := 1) (lv' := [(5, .int _), (4, .int _), (3, .int _), (0, .ref _), (1, .int _), (2, .int _)]) (k := 5) hl rfl (by decide) (by decide) rfl dX9_faults_132 (fun ls hl => ?_)
          refine lv_goto (tgt := 30) C.1 C.2.1 dX9_faults_135 (by decide) ?_
          exact ih30 _ _ _ _ _ _ _ _ E (lv_sub hl [3, 4, 5, 2, 1, 0] rfl) hf
      have J84 : ∀ (M : fm_M) (v3 : Int32) (v4 : Int32) (v5 : Int32) (s0 : Int32) (s1 : Int32) (H : Heap) (locs : List Loc) (ls : Array Slot), fm_Wd shC G M s H locs → lv_has ls 6 [(0, .ref (G.2.1 0)), (1, .int w30_v1), (3, .int v3), (4, .int v4), (5, .int v5)] → pMicRow_faults_J84 N M w30_v1 v3 v4 v5 (fm_lp (pMicRow_faults_L30 N w30_v1) n30) s0 s1 = some (r, M') → W p l e { frames := 5, cells := 0, slots := 0, locals := 120 } s m args below meth c H locs 0 0 (fm_Z below shC G args s (some (.int r)) M') (F0 m 84 ls [.int s1, .int s0]) := by
        intro M v3 v4 v5 s0 s1 H locs ls E hl hf
        unfold pMicRow_faults_J84 at hf
        refine lv_ior C.1 C.2.1 dX9_faults_84 ?_
        refine lv_istore_n (lv' := [(2, .int _), (0, .ref _), (1, .int _), (3, .int _), (4, .int _), (5, .int _)]) C.1 C.2.1 dX9_faults_85 rfl hl (by decide) rfl (fun ls hl => ?_)
        refine lv_iload_n C.1 C.2.1 dX9_faults_86 rfl (lv_at hl 3 rfl) ?_
        refine lv_aload_n C.1 C.2.1 dX9_faults_87 rfl (lv_at hl 1 rfl) ?_
        refine fm_getr C E lf_X9_71 hC_0 rfl dX9_faults_88 ?_
        obtain ⟨x91, hc91, hf⟩ := fm_bd hf
        refine fm_callV C E [] [.int _] lm_X9_291 wk_X0_clips (c_Bench_clips l G N _ _  hc91) hC_181 rfl rfl rfl hl.1 (by simp [Value.category]) ⟨⟨rfl, rfl⟩, by decide, by decide⟩ ⟨by decide, by decide⟩ dX9_faults_91 rfl (fun H locs E => ?_)
        refine W.eq (g2 := F0 m 94 ls (.int x91 :: [.int _])) rfl ?_
        refine lv_iload_n C.1 C.2.1 dX9_faults_94 rfl (lv_at hl 2 rfl) ?_
        refine lv_icmp_lt (tgt := 105) C.1 C.2.1 dX9_faults_95 (by decide) (fun hc95 => ?_) (fun hc95 => ?_)
        · have hf := fm_ip hf hc95
          refine lv_iconst (v := 0) C.1 C.2.1 dX9_faults_105 (by decide) ?_
          exact J106 _ _ _ _ _ _ _ _ _ E (lv_sub hl [1, 2, 0, 4, 5] rfl) hf
        · have hf := fm_in' hf hc95
          refine lv_iconst (v := 1) C.1 C.2.1 dX9_faults_98 (by decide) ?_
          refine lv_iload C.1 C.2.1 dX9_faults_99 (lv_at hl 5 rfl) ?_
          refine lv_ishl C.1 C.2.1 dX9_faults_101 ?_
          refine lv_goto (tgt := 106) C.1 C.2.1 dX9_faults_102 (by decide) ?_
          exact J106 _ _ _ _ _ _ _ _ _ E (lv_sub hl [1, 2, 0, 4, 5] rfl) hf
      intro v2 v3 v4 v5 M H locs ls E hl hf
      have hf : pMicRow_faults_L30b N w30_v1 (fm_lp (pMicRow_faults_L30 N w30_v1) n30) v2 v3 v4 v5 M = some (r, M') := hf
      unfold pMicRow_faults_L30b at hf
      refine lv_iload C.1 C.2.1 dX9_faults_30 (lv_at hl 5 rfl) ?_
      refine lv_aload_n C.1 C.2.1 dX9_faults_32 rfl (lv_at hl 0 rfl) ?_
      refine fm_getr C E lf_X9_10 hC_0 rfl dX9_faults_33 ?_
      refine fm_geti C E lf_X9_284 hC_1 rfl dX9_faults_36 ?_
      refine lv_icmp_ge (tgt := 138) C.1 C.2.1 dX9_faults_39 (by decide) (fun hc39 => ?_) (fun hc39 => ?_)
      · have hf := fm_ip hf hc39
        refine lv_aload_n C.1 C.2.1 dX9_faults_138 rfl (lv_at hl 0 rfl) ?_
        refine fm_getr C E lf_X9_53 hC_0 rfl dX9_faults_139 ?_
        obtain ⟨M142, hc142, hf⟩ := fm_bd hf
        refine fm_callV C E [] [] lm_X9_225 wk_X8_clear (c_Told_clear l G _ _ hc142) hC_176 rfl rfl rfl hl.1 (by simp [Value.category]) ⟨⟨rfl, rfl⟩, by decide, by decide⟩ ⟨by decide, by decide⟩ dX9_faults_142 rfl (fun H locs E => ?_)
        refine W.eq (g2 := F0 m 145 ls []) rfl ?_
        refine lv_aload_n C.1 C.2.1 dX9_faults_145 rfl (lv_at hl 0 rfl) ?_
        refine fm_getr C E lf_X9_53 hC_0 rfl dX9_faults_146 ?_
        refine lv_iload_n C.1 C.2.1 dX9_faults_149 rfl (lv_at hl 3 rfl) ?_
        refine lv_i2l C.1 C.2.1 dX9_faults_150 rfl ?_
        obtain ⟨M151, hc151, hf⟩ := fm_bd hf
        refine fm_callV C E [.long _] [] lm_X9_232 wk_X8_add (c_Told_add l G _ _ _ hc151) hC_176 rfl rfl rfl hl.1 (by simp [Value.category]) ⟨⟨rfl, rfl⟩, by decide, by decide⟩ ⟨by decide, by decide⟩ dX9_faults_151 rfl (fun H locs E => ?_)
        refine W.eq (g2 := F0 m 154 ls []) rfl ?_
        refine lv_aload_n C.1 C.2.1 dX9_faults_154 rfl (lv_at hl 0 rfl) ?_
        refine fm_getr C E lf_X9_53 hC_0 rfl dX9_faults_155 ?_
        refine lv_iload C.1 C.2.1 dX9_faults_158 (lv_at hl 4 rfl) ?_
        refine lv_i2l C.1 C.2.1 dX9_faults_160 rfl ?_
        obtain ⟨M161, hc161, hf⟩ := fm_bd hf
        refine fm_callV C E [.long _] [] lm_X9_232 wk_X8_add (c_Told_add l G _ _ _ hc161) hC_176 rfl rfl rfl hl.1 (by simp [Value.category]) ⟨⟨rfl, rfl⟩, by decide, by decide⟩ ⟨by decide, by decide⟩ dX9_faults_161 rfl (fun H locs E => ?_)
        refine W.eq (g2 := F0 m 164 ls []) rfl ?_
        refine lv_iload_n C.1 C.2.1 dX9_faults_164 rfl (lv_at hl 2 rfl) ?_
        obtain ⟨rfl, rfl⟩ := fm_rt2 hf
        exact fm_iret C E rfl rfl dX9_faults_165
      · have hf := fm_in' hf hc39
        refine lv_aload_n C.1 C.2.1 dX9_faults_42 rfl (lv_at hl 0 rfl) ?_
        refine fm_getr C E lf_X9_71 hC_0 rfl dX9_faults_43 ?_
        refine lv_iload C.1 C.2.1 dX9_faults_46 (lv_at hl 5 rfl) ?_
        refine lv_aload_n C.1 C.2.1 dX9_faults_48 rfl (lv_at hl 0 rfl) ?_
        refine fm_getr C E lf_X9_10 hC_0 rfl dX9_faults_49 ?_
        obtain ⟨x52, hc52, hf⟩ := fm_bd hf
        refine fm_callV C E [] [.int _, .ref _] lm_X9_208 wk_X7_begin (c_Scene_begin l G _ _  hc52) hC_1 rfl rfl rfl hl.1 (by simp [Value.category]) ⟨⟨rfl, rfl⟩, by decide, by decide⟩ ⟨by decide, by decide⟩ dX9_faults_52 rfl (fun H locs E => ?_)
        refine W.eq (g2 := F0 m 55 ls (.int x52 :: [.int _, .ref _])) rfl ?_
        refine lv_aload_n C.1 C.2.1 dX9_faults_55 rfl (lv_at hl 0 rfl) ?_
        refine fm_getr C E lf_X9_10 hC_0 rfl dX9_faults_56 ?_
        obtain ⟨x59, hc59, hf⟩ := fm_bd hf
        refine fm_callV C E [] [.int _, .int _, .ref _] lm_X9_211 wk_X7_length (c_Scene_length l G _ _  hc59) hC_1 rfl rfl rfl hl.1 (by simp [Value.category]) ⟨⟨rfl, rfl⟩, by decide, by decide⟩ ⟨by decide, by decide⟩ dX9_faults_59 rfl (fun H locs E => ?_)
        refine W.eq (g2 := F0 m 62 ls (.int x59 :: [.int _, .int _, .ref _])) rfl ?_
        obtain ⟨M62, hc62, hf⟩ := fm_bd hf
        refine fm_callV C E [.int _, .int _, .int _] [] lm_X9_214 wk_X0_hear (c_Bench_hear l G N _ _ _ _ _ hc62) hC_181 rfl rfl rfl hl.1 (by simp [Value.category]) ⟨⟨rfl, rfl⟩, by decide, by decide⟩ ⟨by decide, by decide⟩ dX9_faults_62 rfl (fun H locs E => ?_)
        refine W.eq (g2 := F0 m 65 ls []) rfl ?_
        refine lv_iload_n C.1 C.2.1 dX9_faults_65 rfl (lv_at hl 2 rfl) ?_
        refine lv_aload_n C.1 C.2.1 dX9_faults_66 rfl (lv_at hl 0 rfl) ?_
        refine fm_getr C E lf_X9_71 hC_0 rfl dX9_faults_67 ?_
        obtain ⟨x70, hc70, hf⟩ := fm_bd hf
        refine fm_callV C E [] [.int _] lm_X9_287 wk_X0_isQuiet (c_Bench_isQuiet l G N _ _  hc70) hC_181 rfl rfl rfl hl.1 (by simp [Value.category]) ⟨⟨rfl, rfl⟩, by decide, by decide⟩ ⟨by decide, by decide⟩ dX9_faults_70 rfl (fun H locs E => ?_)
        refine W.eq (g2 := F0 m 73 ls (.int x70 :: [.int _])) rfl ?_
        refine lv_if_eq (tgt := 83) C.1 C.2.1 dX9_faults_73 (by decide) (fun hc73 => ?_) (fun hc73 => ?_)
        · have hf := fm_ip hf hc73
          refine lv_iconst (v := 0) C.1 C.2.1 dX9_faults_83 (by decide) ?_
          exact J84 _ _ _ _ _ _ _ _ _ E (lv_sub hl [0, 1, 3, 4, 5] rfl) hf
        · have hf := fm_in' hf hc73
          refine lv_iconst (v := 1) C.1 C.2.1 dX9_faults_76 (by decide) ?_
          refine lv_iload C.1 C.2.1 dX9_faults_77 (lv_at hl 5 rfl) ?_
          refine lv_ishl C.1 C.2.1 dX9_faults_79 ?_
          refine lv_goto (tgt := 84) C.1 C.2.1 dX9_faults_80 (by decide) ?_
          exact J84 _ _ _ _ _ _ _ _ _ E (lv_sub hl [0, 1, 3, 4, 5] rfl) hf
  unfold pMicRow_faults at hf
  refine lv_iload_n C.1 C.2.1 dX9_faults_0 rfl (lv_at hl 1 rfl) ?_
  refine lv_iconst (v := 0) C.1 C.2.1 dX9_faults_1 (by decide) ?_
  refine lv_bipush (v := 48) C.1 C.2.1 dX9_faults_2 (by decide) ?_
  obtain ⟨x4, hc4, hf⟩ := fm_bd hf
  refine fm_callS C E [.int _, .int _, .int _] [] lm_X9_112 wk_X9_within (c_MicRow_within l G _ _ _ _ _  hc4) rfl hl.1 (by simp [Value.category]) ⟨⟨rfl, rfl⟩, by decide, by decide⟩ ⟨by decide, by decide⟩ dX9_faults_4 rfl (fun H locs E => ?_)
  refine W.eq (g2 := F0 m 7 ls (.int x4 :: [])) rfl ?_
  refine lv_if_ne (tgt := 12) C.1 C.2.1 dX9_faults_7 (by decide) (fun hc7 => ?_) (fun hc7 => ?_)
  · have hf := fm_in' hf hc7
    refine lv_aload_n C.1 C.2.1 dX9_faults_12 rfl (lv_at hl 0 rfl) ?_
    refine fm_getr C E lf_X9_62 hC_0 rfl dX9_faults_13 ?_
    refine lv_iconst (v := (-1)) C.1 C.2.1 dX9_faults_16 (by decide) ?_
    obtain ⟨M17, hc17, hf⟩ := fm_bd hf
    refine fm_callV C E [.int _] [] lm_X9_150 wk_X3_listenTo (c_Ears_listenTo l G _ _ _ hc17) hC_178 rfl rfl rfl hl.1 (by simp [Value.category]) ⟨⟨rfl, rfl⟩, by decide, by decide⟩ ⟨by decide, by decide⟩ dX9_faults_17 rfl (fun H locs E => ?_)
    refine W.eq (g2 := F0 m 20 ls []) rfl ?_
    refine lv_iconst (v := 0) C.1 C.2.1 dX9_faults_20 (by decide) ?_
    refine lv_istore_n (lv' := [(2, .int _), (0, .ref _), (1, .int _)]) C.1 C.2.1 dX9_faults_21 rfl hl (by decide) rfl (fun ls hl => ?_)
    refine lv_iconst (v := 0) C.1 C.2.1 dX9_faults_22 (by decide) ?_
    refine lv_istore_n (lv' := [(3, .int _), (2, .int _), (0, .ref _), (1, .int _)]) C.1 C.2.1 dX9_faults_23 rfl hl (by decide) rfl (fun ls hl => ?_)
    refine lv_iconst (v := 0) C.1 C.2.1 dX9_faults_24 (by decide) ?_
    refine lv_istore (lv' := [(4, .int _), (3, .int _), (2, .int _), (0, .ref _), (1, .int _)]) C.1 C.2.1 dX9_faults_25 hl (by decide) rfl (fun ls hl => ?_)
    refine lv_iconst (v := 0) C.1 C.2.1 dX9_faults_27 (by decide) ?_
    refine lv_istore (lv' := [(5, .int _), (4, .int _), (3, .int _), (2, .int _), (0, .ref _), (1, .int _)]) C.1 C.2.1 dX9_faults_28 hl (by decide) rfl (fun ls hl => ?_)
    exact L30 _ N _ _ _ _ _ _ _ _ E (lv_sub hl [4, 5, 3, 2, 1, 0] rfl) hf
  · have hf := fm_ip hf hc7
    refine lv_iconst (v := (-1)) C.1 C.2.1 dX9_faults_10 (by decide) ?_
    obtain ⟨rfl, rfl⟩ := fm_rt2 hf
    exact fm_iret C E rfl rfl dX9_faults_11
theorem dX9_clipped_0 : decode cX9_clipped 0 = .ok (.aload_n 0, 1) := by decide +kernel
theorem dX9_clipped_1 : decode cX9_clipped 1 = .ok (.getfield 10, 3) := by decide +kernel
theorem dX9_clipped_4 : decode cX9_clipped 4 = .ok (.iload_n 1, 1) := by decide +kernel
theorem dX9_clipped_5 : decode cX9_clipped 5 = .ok (.invokevirtual 116, 3) := by decide +kernel
theorem dX9_clipped_8 : decode cX9_clipped 8 = .ok (.ifCond .ne 5, 3) := by decide +kernel
theorem dX9_clipped_11 : decode cX9_clipped 11 = .ok (.iconst (-1), 1) := by decide +kernel
theorem dX9_clipped_12 : decode cX9_clipped 12 = .ok (.ireturn, 1) := by decide +kernel
theorem dX9_clipped_13 : decode cX9_clipped 13 = .ok (.aload_n 0, 1) := by decide +kernel
theorem dX9_clipped_14 : decode cX9_clipped 14 = .ok (.getfield 62, 3) := by decide +kernel
theorem dX9_clipped_17 : decode cX9_clipped 17 = .ok (.iconst (-1), 1) := by decide +kernel
theorem dX9_clipped_18 : decode cX9_clipped 18 = .ok (.invokevirtual 150, 3) := by decide +kernel
theorem dX9_clipped_21 : decode cX9_clipped 21 = .ok (.aload_n 0, 1) := by decide +kernel
theorem dX9_clipped_22 : decode cX9_clipped 22 = .ok (.getfield 71, 3) := by decide +kernel
theorem dX9_clipped_25 : decode cX9_clipped 25 = .ok (.iload_n 1, 1) := by decide +kernel
theorem dX9_clipped_26 : decode cX9_clipped 26 = .ok (.aload_n 0, 1) := by decide +kernel
theorem dX9_clipped_27 : decode cX9_clipped 27 = .ok (.getfield 10, 3) := by decide +kernel
theorem dX9_clipped_30 : decode cX9_clipped 30 = .ok (.invokevirtual 208, 3) := by decide +kernel
theorem dX9_clipped_33 : decode cX9_clipped 33 = .ok (.aload_n 0, 1) := by decide +kernel
theorem dX9_clipped_34 : decode cX9_clipped 34 = .ok (.getfield 10, 3) := by decide +kernel
theorem dX9_clipped_37 : decode cX9_clipped 37 = .ok (.invokevirtual 211, 3) := by decide +kernel
theorem dX9_clipped_40 : decode cX9_clipped 40 = .ok (.invokevirtual 214, 3) := by decide +kernel
theorem dX9_clipped_43 : decode cX9_clipped 43 = .ok (.aload_n 0, 1) := by decide +kernel
theorem dX9_clipped_44 : decode cX9_clipped 44 = .ok (.getfield 53, 3) := by decide +kernel
theorem dX9_clipped_47 : decode cX9_clipped 47 = .ok (.invokevirtual 225, 3) := by decide +kernel
theorem dX9_clipped_50 : decode cX9_clipped 50 = .ok (.aload_n 0, 1) := by decide +kernel
theorem dX9_clipped_51 : decode cX9_clipped 51 = .ok (.getfield 53, 3) := by decide +kernel
theorem dX9_clipped_54 : decode cX9_clipped 54 = .ok (.aload_n 0, 1) := by decide +kernel
theorem dX9_clipped_55 : decode cX9_clipped 55 = .ok (.getfield 71, 3) := by decide +kernel
theorem dX9_clipped_58 : decode cX9_clipped 58 = .ok (.invokevirtual 294, 3) := by decide +kernel
theorem dX9_clipped_61 : decode cX9_clipped 61 = .ok (.i2l, 1) := by decide +kernel
theorem dX9_clipped_62 : decode cX9_clipped 62 = .ok (.invokevirtual 232, 3) := by decide +kernel
theorem dX9_clipped_65 : decode cX9_clipped 65 = .ok (.aload_n 0, 1) := by decide +kernel
theorem dX9_clipped_66 : decode cX9_clipped 66 = .ok (.getfield 53, 3) := by decide +kernel
theorem dX9_clipped_69 : decode cX9_clipped 69 = .ok (.aload_n 0, 1) := by decide +kernel
theorem dX9_clipped_70 : decode cX9_clipped 70 = .ok (.getfield 71, 3) := by decide +kernel
theorem dX9_clipped_73 : decode cX9_clipped 73 = .ok (.invokevirtual 287, 3) := by decide +kernel
theorem dX9_clipped_76 : decode cX9_clipped 76 = .ok (.ifCond .eq 7, 3) := by decide +kernel
theorem dX9_clipped_79 : decode cX9_clipped 79 = .ok (.lconst 1, 1) := by decide +kernel
theorem dX9_clipped_80 : decode cX9_clipped 80 = .ok (.goto 4, 3) := by decide +kernel
theorem dX9_clipped_83 : decode cX9_clipped 83 = .ok (.lconst 0, 1) := by decide +kernel
theorem dX9_clipped_84 : decode cX9_clipped 84 = .ok (.invokevirtual 232, 3) := by decide +kernel
theorem dX9_clipped_87 : decode cX9_clipped 87 = .ok (.aload_n 0, 1) := by decide +kernel
theorem dX9_clipped_88 : decode cX9_clipped 88 = .ok (.getfield 71, 3) := by decide +kernel
theorem dX9_clipped_91 : decode cX9_clipped 91 = .ok (.invokevirtual 291, 3) := by decide +kernel
theorem dX9_clipped_94 : decode cX9_clipped 94 = .ok (.ireturn, 1) := by decide +kernel
set_option maxHeartbeats 4000000 in
set_option maxRecDepth 100000 in
theorem c_MicRow_clipped (l : Launch) (G : fm_G) (N : Nat) (M : fm_M) (v1 : Int32) (r : Int32) (M' : fm_M) (hf : pMicRow_clipped N M v1 = some (r, M')) : fm_Met l yX9_clipped cX9_clipped 2 (some .int) { frames := 5, cells := 0, slots := 0, locals := 120 } shC G [.ref (G.2.1 0), .int v1] M (some (.int r)) M' := by
  refine fm_enter (by decide) (Nat.le_of_ble_eq_true rfl) ?_
  intro p e s m args below meth c ls C E hl
  have hl : lv_has ls 2 [(0, .ref (G.2.1 0)), (1, .int v1)] := hl
  have J84 : ∀ (M : fm_M) (s1 : Int64) (H : Heap) (locs : List Loc) (ls : Array Slot), fm_Wd shC G M s H locs → lv_has ls 2 [(0, .ref (G.2.1 0))] → pMicRow_clipped_J84 N M s1 = some (r, M') → W p l e { frames := 5, cells := 0, slots := 0, locals := 120 } s m args below meth c H locs 0 0 (fm_Z below shC G args s (some (.int r)) M') (F0 m 84 ls [.long s1, .ref (G.2.1 176)]) := by
    intro M s1 H locs ls E hl hf
    unfold pMicRow_clipped_J84 at hf
    obtain ⟨M84, hc84, hf⟩ := fm_bd hf
    refine fm_callV C E [.long _] [] lm_X9_232 wk_X8_add (c_Told_add l G _ _ _ hc84) hC_176 rfl rfl rfl hl.1 (by simp [Value.category]) ⟨⟨rfl, rfl⟩, by decide, by decide⟩ ⟨by decide, by decide⟩ dX9_clipped_84 rfl (fun H locs E => ?_)
    refine W.eq (g2 := F0 m 87 ls []) rfl ?_
    refine lv_aload_n C.1 C.2.1 dX9_clipped_87 rfl (lv_at hl 0 rfl) ?_
    refine fm_getr C E lf_X9_71 hC_0 rfl dX9_clipped_88 ?_
    obtain ⟨x91, hc91, hf⟩ := fm_bd hf
    refine fm_callV C E [] [] lm_X9_291 wk_X0_clips (c_Bench_clips l G N _ _  hc91) hC_181 rfl rfl rfl hl.1 (by simp [Value.category]) ⟨⟨rfl, rfl⟩, by decide, by decide⟩ ⟨by decide, by decide⟩ dX9_clipped_91 rfl (fun H locs E => ?_)
    refine W.eq (g2 := F0 m 94 ls (.int x91 :: [])) rfl ?_
    obtain ⟨rfl, rfl⟩ := fm_rt2 hf
    exact fm_iret C E rfl rfl dX9_clipped_94
  unfold pMicRow_clipped at hf
  refine lv_aload_n C.1 C.2.1 dX9_clipped_0 rfl (lv_at hl 0 rfl) ?_
  refine fm_getr C E lf_X9_10 hC_0 rfl dX9_clipped_1 ?_
  refine lv_iload_n C.1 C.2.1 dX9_clipped_4 rfl (lv_at hl 1 rfl) ?_
  obtain ⟨x5, hc5, hf⟩ := fm_bd hf
  refine fm_callV C E [.int _] [] lm_X9_116 wk_X7_hasMic (c_Scene_hasMic l G _ _ _  hc5) hC_1 rfl rfl rfl hl.1 (by simp [Value.category]) ⟨⟨rfl, rfl⟩, by decide, by decide⟩ ⟨by decide, by decide⟩ dX9_clipped_5 rfl (fun H locs E => ?_)
  refine W.eq (g2 := F0 m 8 ls (.int x5 :: [])) rfl ?_
  refine lv_if_ne (tgt := 13) C.1 C.2.1 dX9_clipped_8 (by decide) (fun hc8 => ?_) (fun hc8 => ?_)
  · have hf := fm_in' hf hc8
    refine lv_aload_n C.1 C.2.1 dX9_clipped_13 rfl (lv_at hl 0 rfl) ?_
    refine fm_getr C E lf_X9_62 hC_0 rfl dX9_clipped_14 ?_
    refine lv_iconst (v := (-1)) C.1 C.2.1 dX9_clipped_17 (by decide) ?_
    obtain ⟨M18, hc18, hf⟩ := fm_bd hf
    refine fm_callV C E [.int _] [] lm_X9_150 wk_X3_listenTo (c_Ears_listenTo l G _ _ _ hc18) hC_178 rfl rfl rfl hl.1 (by simp [Value.category]) ⟨⟨rfl, rfl⟩, by decide, by decide⟩ ⟨by decide, by decide⟩ dX9_clipped_18 rfl (fun H locs E => ?_)
    refine W.eq (g2 := F0 m 21 ls []) rfl ?_
    refine lv_aload_n C.1 C.2.1 dX9_clipped_21 rfl (lv_at hl 0 rfl) ?_
    refine fm_getr C E lf_X9_71 hC_0 rfl dX9_clipped_22 ?_
    refine lv_iload_n C.1 C.2.1 dX9_clipped_25 rfl (lv_at hl 1 rfl) ?_
    refine lv_aload_n C.1 C.2.1 dX9_clipped_26 rfl (lv_at hl 0 rfl) ?_
    refine fm_getr C E lf_X9_10 hC_0 rfl dX9_clipped_27 ?_
    obtain ⟨x30, hc30, hf⟩ := fm_bd hf
    refine fm_callV C E [] [.int _, .ref _] lm_X9_208 wk_X7_begin (c_Scene_begin l G _ _  hc30) hC_1 rfl rfl rfl hl.1 (by simp [Value.category]) ⟨⟨rfl, rfl⟩, by decide, by decide⟩ ⟨by decide, by decide⟩ dX9_clipped_30 rfl (fun H locs E => ?_)
    refine W.eq (g2 := F0 m 33 ls (.int x30 :: [.int _, .ref _])) rfl ?_
    refine lv_aload_n C.1 C.2.1 dX9_clipped_33 rfl (lv_at hl 0 rfl) ?_
    refine fm_getr C E lf_X9_10 hC_0 rfl dX9_clipped_34 ?_
    obtain ⟨x37, hc37, hf⟩ := fm_bd hf
    refine fm_callV C E [] [.int _, .int _, .ref _] lm_X9_211 wk_X7_length (c_Scene_length l G _ _  hc37) hC_1 rfl rfl rfl hl.1 (by simp [Value.category]) ⟨⟨rfl, rfl⟩, by decide, by decide⟩ ⟨by decide, by decide⟩ dX9_clipped_37 rfl (fun H locs E => ?_)
    refine W.eq (g2 := F0 m 40 ls (.int x37 :: [.int _, .int _, .ref _])) rfl ?_
    obtain ⟨M40, hc40, hf⟩ := fm_bd hf
    refine fm_callV C E [.int _, .int _, .int _] [] lm_X9_214 wk_X0_hear (c_Bench_hear l G N _ _ _ _ _ hc40) hC_181 rfl rfl rfl hl.1 (by simp [Value.category]) ⟨⟨rfl, rfl⟩, by decide, by decide⟩ ⟨by decide, by decide⟩ dX9_clipped_40 rfl (fun H locs E => ?_)
    refine W.eq (g2 := F0 m 43 ls []) rfl ?_
    refine lv_aload_n C.1 C.2.1 dX9_clipped_43 rfl (lv_at hl 0 rfl) ?_
    refine fm_getr C E lf_X9_53 hC_0 rfl dX9_clipped_44 ?_
    obtain ⟨M47, hc47, hf⟩ := fm_bd hf
    refine fm_callV C E [] [] lm_X9_225 wk_X8_clear (c_Told_clear l G _ _ hc47) hC_176 rfl rfl rfl hl.1 (by simp [Value.category]) ⟨⟨rfl, rfl⟩, by decide, by decide⟩ ⟨by decide, by decide⟩ dX9_clipped_47 rfl (fun H locs E => ?_)
    refine W.eq (g2 := F0 m 50 ls []) rfl ?_
    refine lv_aload_n C.1 C.2.1 dX9_clipped_50 rfl (lv_at hl 0 rfl) ?_
    refine fm_getr C E lf_X9_53 hC_0 rfl dX9_clipped_51 ?_
    refine lv_aload_n C.1 C.2.1 dX9_clipped_54 rfl (lv_at hl 0 rfl) ?_
    refine fm_getr C E lf_X9_71 hC_0 rfl dX9_clipped_55 ?_
    obtain ⟨x58, hc58, hf⟩ := fm_bd hf
    refine fm_callV C E [] [.ref _] lm_X9_294 wk_X0_turnsOfSign (c_Bench_turnsOfSign l G N _ _  hc58) hC_181 rfl rfl rfl hl.1 (by simp [Value.category]) ⟨⟨rfl, rfl⟩, by decide, by decide⟩ ⟨by decide, by decide⟩ dX9_clipped_58 rfl (fun H locs E => ?_)
    refine W.eq (g2 := F0 m 61 ls (.int x58 :: [.ref _])) rfl ?_
    refine lv_i2l C.1 C.2.1 dX9_clipped_61 rfl ?_
    obtain ⟨M62, hc62, hf⟩ := fm_bd hf
    refine fm_callV C E [.long _] [] lm_X9_232 wk_X8_add (c_Told_add l G _ _ _ hc62) hC_176 rfl rfl rfl hl.1 (by simp [Value.category]) ⟨⟨rfl, rfl⟩, by decide, by decide⟩ ⟨by decide, by decide⟩ dX9_clipped_62 rfl (fun H locs E => ?_)
    refine W.eq (g2 := F0 m 65 ls []) rfl ?_
    refine lv_aload_n C.1 C.2.1 dX9_clipped_65 rfl (lv_at hl 0 rfl) ?_
    refine fm_getr C E lf_X9_53 hC_0 rfl dX9_clipped_66 ?_
    refine lv_aload_n C.1 C.2.1 dX9_clipped_69 rfl (lv_at hl 0 rfl) ?_
    refine fm_getr C E lf_X9_71 hC_0 rfl dX9_clipped_70 ?_
    obtain ⟨x73, hc73, hf⟩ := fm_bd hf
    refine fm_callV C E [] [.ref _] lm_X9_287 wk_X0_isQuiet (c_Bench_isQuiet l G N _ _  hc73) hC_181 rfl rfl rfl hl.1 (by simp [Value.category]) ⟨⟨rfl, rfl⟩, by decide, by decide⟩ ⟨by decide, by decide⟩ dX9_clipped_73 rfl (fun H locs E => ?_)
    refine W.eq (g2 := F0 m 76 ls (.int x73 :: [.ref _])) rfl ?_
    refine lv_if_eq (tgt := 83) C.1 C.2.1 dX9_clipped_76 (by decide) (fun hc76 => ?_) (fun hc76 => ?_)
    · have hf := fm_ip hf hc76
      refine lv_lconst (v := 0) C.1 C.2.1 dX9_clipped_83 (by decide) ?_
      exact J84 _ _ _ _ _ E (lv_sub hl [0] rfl) hf
    · have hf := fm_in' hf hc76
      refine lv_lconst (v := 1) C.1 C.2.1 dX9_clipped_79 (by decide) ?_
      refine lv_goto (tgt := 84) C.1 C.2.1 dX9_clipped_80 (by decide) ?_
      exact J84 _ _ _ _ _ E (lv_sub hl [0] rfl) hf
  · have hf := fm_ip hf hc8
    refine lv_iconst (v := (-1)) C.1 C.2.1 dX9_clipped_11 (by decide) ?_
    obtain ⟨rfl, rfl⟩ := fm_rt2 hf
    exact fm_iret C E rfl rfl dX9_clipped_12
theorem dX9_behind_0 : decode cX9_behind 0 = .ok (.aload_n 0, 1) := by decide +kernel
theorem dX9_behind_1 : decode cX9_behind 1 = .ok (.iload_n 1, 1) := by decide +kernel
theorem dX9_behind_2 : decode cX9_behind 2 = .ok (.iload_n 2, 1) := by decide +kernel
theorem dX9_behind_3 : decode cX9_behind 3 = .ok (.invokevirtual 259, 3) := by decide +kernel
theorem dX9_behind_6 : decode cX9_behind 6 = .ok (.ifCond .ne 5, 3) := by decide +kernel
theorem dX9_behind_9 : decode cX9_behind 9 = .ok (.iconst (-1), 1) := by decide +kernel
theorem dX9_behind_10 : decode cX9_behind 10 = .ok (.ireturn, 1) := by decide +kernel
theorem dX9_behind_11 : decode cX9_behind 11 = .ok (.aload_n 0, 1) := by decide +kernel
theorem dX9_behind_12 : decode cX9_behind 12 = .ok (.getfield 62, 3) := by decide +kernel
theorem dX9_behind_15 : decode cX9_behind 15 = .ok (.iconst (-1), 1) := by decide +kernel
theorem dX9_behind_16 : decode cX9_behind 16 = .ok (.invokevirtual 150, 3) := by decide +kernel
theorem dX9_behind_19 : decode cX9_behind 19 = .ok (.iconst 0, 1) := by decide +kernel
theorem dX9_behind_20 : decode cX9_behind 20 = .ok (.istore_n 3, 1) := by decide +kernel
theorem dX9_behind_21 : decode cX9_behind 21 = .ok (.iconst (-1), 1) := by decide +kernel
theorem dX9_behind_22 : decode cX9_behind 22 = .ok (.istore 4, 2) := by decide +kernel
theorem dX9_behind_24 : decode cX9_behind 24 = .ok (.iconst 0, 1) := by decide +kernel
theorem dX9_behind_25 : decode cX9_behind 25 = .ok (.istore 5, 2) := by decide +kernel
theorem dX9_behind_27 : decode cX9_behind 27 = .ok (.iload 5, 2) := by decide +kernel
theorem dX9_behind_29 : decode cX9_behind 29 = .ok (.bipush 17, 2) := by decide +kernel
theorem dX9_behind_31 : decode cX9_behind 31 = .ok (.if_icmp .ge 40, 3) := by decide +kernel
theorem dX9_behind_34 : decode cX9_behind 34 = .ok (.iload 5, 2) := by decide +kernel
theorem dX9_behind_36 : decode cX9_behind 36 = .ok (.invokestatic 245, 3) := by decide +kernel
theorem dX9_behind_39 : decode cX9_behind 39 = .ok (.istore 6, 2) := by decide +kernel
theorem dX9_behind_41 : decode cX9_behind 41 = .ok (.aload_n 0, 1) := by decide +kernel
theorem dX9_behind_42 : decode cX9_behind 42 = .ok (.iload_n 1, 1) := by decide +kernel
theorem dX9_behind_43 : decode cX9_behind 43 = .ok (.iload_n 2, 1) := by decide +kernel
theorem dX9_behind_44 : decode cX9_behind 44 = .ok (.iload 6, 2) := by decide +kernel
theorem dX9_behind_46 : decode cX9_behind 46 = .ok (.invokevirtual 311, 3) := by decide +kernel
theorem dX9_behind_49 : decode cX9_behind 49 = .ok (.istore 7, 2) := by decide +kernel
theorem dX9_behind_51 : decode cX9_behind 51 = .ok (.iload 7, 2) := by decide +kernel
theorem dX9_behind_53 : decode cX9_behind 53 = .ok (.iload 4, 2) := by decide +kernel
theorem dX9_behind_55 : decode cX9_behind 55 = .ok (.if_icmp .le 10, 3) := by decide +kernel
theorem dX9_behind_58 : decode cX9_behind 58 = .ok (.iload 7, 2) := by decide +kernel
theorem dX9_behind_60 : decode cX9_behind 60 = .ok (.istore 4, 2) := by decide +kernel
theorem dX9_behind_62 : decode cX9_behind 62 = .ok (.iload 6, 2) := by decide +kernel
theorem dX9_behind_64 : decode cX9_behind 64 = .ok (.istore_n 3, 1) := by decide +kernel
theorem dX9_behind_65 : decode cX9_behind 65 = .ok (.iinc 5 1, 3) := by decide +kernel
theorem dX9_behind_68 : decode cX9_behind 68 = .ok (.goto (-41), 3) := by decide +kernel
theorem dX9_behind_71 : decode cX9_behind 71 = .ok (.aload_n 0, 1) := by decide +kernel
theorem dX9_behind_72 : decode cX9_behind 72 = .ok (.getfield 53, 3) := by decide +kernel
theorem dX9_behind_75 : decode cX9_behind 75 = .ok (.invokevirtual 225, 3) := by decide +kernel
theorem dX9_behind_78 : decode cX9_behind 78 = .ok (.aload_n 0, 1) := by decide +kernel
theorem dX9_behind_79 : decode cX9_behind 79 = .ok (.getfield 53, 3) := by decide +kernel
theorem dX9_behind_82 : decode cX9_behind 82 = .ok (.iload 4, 2) := by decide +kernel
theorem dX9_behind_84 : decode cX9_behind 84 = .ok (.i2l, 1) := by decide +kernel
theorem dX9_behind_85 : decode cX9_behind 85 = .ok (.invokevirtual 232, 3) := by decide +kernel
theorem dX9_behind_88 : decode cX9_behind 88 = .ok (.iload_n 3, 1) := by decide +kernel
theorem dX9_behind_89 : decode cX9_behind 89 = .ok (.bipush 8, 2) := by decide +kernel
theorem dX9_behind_91 : decode cX9_behind 91 = .ok (.iadd, 1) := by decide +kernel
theorem dX9_behind_92 : decode cX9_behind 92 = .ok (.ireturn, 1) := by decide +kernel
set_option maxHeartbeats 4000000 in
set_option maxRecDepth 100000 in
theorem c_MicRow_behind (l : Launch) (G : fm_G) (N : Nat) (M : fm_M) (v1 : Int32) (v2 : Int32) (r : Int32) (M' : fm_M) (hf : pMicRow_behind N M v1 v2 = some (r, M')) : fm_Met l yX9_behind cX9_behind 8 (some .int) { frames := 5, cells := 0, slots := 0, locals := 122 } shC G [.ref (G.2.1 0), .int v1, .int v2] M (some (.int r)) M' := by
  refine fm_enter (by decide) (Nat.le_of_ble_eq_true rfl) ?_
  intro p e s m args below meth c ls C E hl
  have hl : lv_has ls 8 [(0, .ref (G.2.1 0)), (1, .int v1), (2, .int v2)] := hl
  have L27 : ∀ (w27_v1 : Int32) (w27_v2 : Int32) (n27 : Nat) (v3 : Int32) (v4 : Int32) (v5 : Int32) (M : fm_M) (H : Heap) (locs : List Loc) (ls : Array Slot), fm_Wd shC G M s H locs → lv_has ls 8 [(0, .ref (G.2.1 0)), (1, .int w27_v1), (2, .int w27_v2), (3, .int v3), (4, .int v4), (5, .int v5)] → fm_lp (pMicRow_behind_L27 N w27_v1 w27_v2) n27 (v3, v4, v5, M) = some (r, M') → W p l e { frames := 5, cells := 0, slots := 0, locals := 122 } s m args below meth c H locs 0 0 (fm_Z below shC G args s (some (.int r)) M') (F0 m 27 ls []) := by
    intro w27_v1 w27_v2 n27
    induction n27 with
    | zero => intro v3 v4 v5 M H locs ls E hl hf; exact fm_lp_0 hf
    | succ n27 ih27 =>
      intro v3 v4 v5 M H locs ls E hl hf
      have hf : pMicRow_behind_L27b N w27_v1 w27_v2 (fm_lp (pMicRow_behind_L27 N w27_v1 w27_v2) n27) v3 v4 v5 M = some (r, M') := hf
      unfold pMicRow_behind_L27b at hf
      refine lv_iload C.1 C.2.1 dX9_behind_27 (lv_at hl 5 rfl) ?_
      refine lv_bipush (v := 17) C.1 C.2.1 dX9_behind_29 (by decide) ?_
      refine lv_icmp_ge (tgt := 71) C.1 C.2.1 dX9_behind_31 (by decide) (fun hc31 => ?_) (fun hc31 => ?_)
      · have hf := fm_ip hf hc31
        refine lv_aload_n C.1 C.2.1 dX9_behind_71 rfl (lv_at hl 0 rfl) ?_
        refine fm_getr C E lf_X9_53 hC_0 rfl dX9_behind_72 ?_
        obtain ⟨M75, hc75, hf⟩ := fm_bd hf
        refine fm_callV C E [] [] lm_X9_225 wk_X8_clear (c_Told_clear l G _ _ hc75) hC_176 rfl rfl rfl hl.1 (by simp [Value.category]) ⟨⟨rfl, rfl⟩, by decide, by decide⟩ ⟨by decide, by decide⟩ dX9_behind_75 rfl (fun H locs E => ?_)
        refine W.eq (g2 := F0 m 78 ls []) rfl ?_
        refine lv_aload_n C.1 C.2.1 dX9_behind_78 rfl (lv_at hl 0 rfl) ?_
        refine fm_getr C E lf_X9_53 hC_0 rfl dX9_behind_79 ?_
        refine lv_iload C.1 C.2.1 dX9_behind_82 (lv_at hl 4 rfl) ?_
        refine lv_i2l C.1 C.2.1 dX9_behind_84 rfl ?_
        obtain ⟨M85, hc85, hf⟩ := fm_bd hf
        refine fm_callV C E [.long _] [] lm_X9_232 wk_X8_add (c_Told_add l G _ _ _ hc85) hC_176 rfl rfl rfl hl.1 (by simp [Value.category]) ⟨⟨rfl, rfl⟩, by decide, by decide⟩ ⟨by decide, by decide⟩ dX9_behind_85 rfl (fun H locs E => ?_)
        refine W.eq (g2 := F0 m 88 ls []) rfl ?_
        refine lv_iload_n C.1 C.2.1 dX9_behind_88 rfl (lv_at hl 3 rfl) ?_
        refine lv_bipush (v := 8) C.1 C.2.1 dX9_behind_89 (by decide) ?_
        refine lv_iadd C.1 C.2.1 dX9_behind_91 ?_
        obtain ⟨rfl, rfl⟩ := fm_rt2 hf
        exact fm_iret C E rfl rfl dX9_behind_92
      · have hf := fm_in' hf hc31
        refine lv_iload C.1 C.2.1 dX9_behind_34 (lv_at hl 5 rfl) ?_
        obtain ⟨x36, hc36, hf⟩ := fm_bd hf
        refine fm_callS C E [.int _] [] lm_X9_245 wk_X9_bySize (c_MicRow_bySize l G _ _ _  hc36) rfl hl.1 (by simp [Value.category]) ⟨⟨rfl, rfl⟩, by decide, by decide⟩ ⟨by decide, by decide⟩ dX9_behind_36 rfl (fun H locs E => ?_)
        refine W.eq (g2 := F0 m 39 ls (.int x36 :: [])) rfl ?_
        refine lv_istore (lv' := [(6, .int _), (0, .ref _), (1, .int _), (2, .int _), (3, .int _), (4, .int _), (5, .int _)]) C.1 C.2.1 dX9_behind_39 hl (by decide) rfl (fun ls hl => ?_)
        refine lv_aload_n C.1 C.2.1 dX9_behind_41 rfl (lv_at hl 1 rfl) ?_
        refine lv_iload_n C.1 C.2.1 dX9_behind_42 rfl (lv_at hl 2 rfl) ?_
        refine lv_iload_n C.1 C.2.1 dX9_behind_43 rfl (lv_at hl 3 rfl) ?_
        refine lv_iload C.1 C.2.1 dX9_behind_44 (lv_at hl 0 rfl) ?_
        obtain ⟨⟨x46, M46⟩, hc46, hf⟩ := fm_bd hf
        dsimp only at hf
        refine fm_callV C E [.int _, .int _, .int _] [] lm_X9_311 wk_X9_alikeWhenShifted (c_MicRow_alikeWhenShifted l G N _ _ _ _ _ _ hc46) hC_0 rfl rfl rfl hl.1 (by simp [Value.category]) ⟨⟨rfl, rfl⟩, by decide, by decide⟩ ⟨by decide, by decide⟩ dX9_behind_46 rfl (fun H locs E => ?_)
        refine W.eq (g2 := F0 m 49 ls (.int x46 :: [])) rfl ?_
        refine lv_istore (lv' := [(7, .int _), (6, .int _), (0, .ref _), (1, .int _), (2, .int _), (3, .int _), (4, .int _), (5, .int _)]) C.1 C.2.1 dX9_behind_49 hl (by decide) rfl (fun ls hl => ?_)
        refine lv_iload C.1 C.2.1 dX9_behind_51 (lv_at hl 0 rfl) ?_
        refine lv_iload C.1 C.2.1 dX9_behind_53 (lv_at hl 6 rfl) ?_
        refine lv_icmp_le (tgt := 65) C.1 C.2.1 dX9_behind_55 (by decide) (fun hc55 => ?_) (fun hc55 => ?_)
        · have hf := fm_ip hf hc55
          refine fm_iinc C (v := 1) (lv' := [(5, .int _), (7, .int _), (6, .int _), (0, .ref _), (1, .int _), (2, .int _), (3, .int _), (4, .int _)]) (k := 7) hl rfl (by decide) (by decide) rfl dX9_behind_65 (fun ls hl => ?_)
          refine lv_goto (tgt := 27) C.1 C.2.1 dX9_behind_68 (by decide) ?_
          exact ih27 _ _ _ _ _ _ _ E (lv_sub hl [3, 4, 5, 6, 7, 0] rfl) hf
        · have hf := fm_in' hf hc55
          refine lv_iload C.1 C.2.1 dX9_behind_58 (lv_at hl 0 rfl) ?_
          refine lv_istore (lv' := [(4, .int _), (7, .int _), (6, .int _), (0, .ref _), (1, .int _), (2, .int _), (3, .int _), (5, .int _)]) C.1 C.2.1 dX9_behind_60 hl (by decide) rfl (fun ls hl => ?_)
          refine lv_iload C.1 C.2.1 dX9_behind_62 (lv_at hl 2 rfl) ?_
          refine lv_istore_n (lv' := [(3, .int _), (4, .int _), (7, .int _), (6, .int _), (0, .ref _), (1, .int _), (2, .int _), (5, .int _)]) C.1 C.2.1 dX9_behind_64 rfl hl (by decide) rfl (fun ls hl => ?_)
          refine fm_iinc C (v := 1) (lv' := [(5, .int _), (3, .int _), (4, .int _), (7, .int _), (6, .int _), (0, .ref _), (1, .int _), (2, .int _)]) (k := 7) hl rfl (by decide) (by decide) rfl dX9_behind_65 (fun ls hl => ?_)
          refine lv_goto (tgt := 27) C.1 C.2.1 dX9_behind_68 (by decide) ?_
          exact ih27 _ _ _ _ _ _ _ E (lv_sub hl [5, 6, 7, 1, 2, 0] rfl) hf
  unfold pMicRow_behind at hf
  refine lv_aload_n C.1 C.2.1 dX9_behind_0 rfl (lv_at hl 0 rfl) ?_
  refine lv_iload_n C.1 C.2.1 dX9_behind_1 rfl (lv_at hl 1 rfl) ?_
  refine lv_iload_n C.1 C.2.1 dX9_behind_2 rfl (lv_at hl 2 rfl) ?_
  obtain ⟨x3, hc3, hf⟩ := fm_bd hf
  refine fm_callV C E [.int _, .int _] [] lm_X9_259 wk_X9_areTwoMics (c_MicRow_areTwoMics l G _ _ _ _  hc3) hC_0 rfl rfl rfl hl.1 (by simp [Value.category]) ⟨⟨rfl, rfl⟩, by decide, by decide⟩ ⟨by decide, by decide⟩ dX9_behind_3 rfl (fun H locs E => ?_)
  refine W.eq (g2 := F0 m 6 ls (.int x3 :: [])) rfl ?_
  refine lv_if_ne (tgt := 11) C.1 C.2.1 dX9_behind_6 (by decide) (fun hc6 => ?_) (fun hc6 => ?_)
  · have hf := fm_in' hf hc6
    refine lv_aload_n C.1 C.2.1 dX9_behind_11 rfl (lv_at hl 0 rfl) ?_
    refine fm_getr C E lf_X9_62 hC_0 rfl dX9_behind_12 ?_
    refine lv_iconst (v := (-1)) C.1 C.2.1 dX9_behind_15 (by decide) ?_
    obtain ⟨M16, hc16, hf⟩ := fm_bd hf
    refine fm_callV C E [.int _] [] lm_X9_150 wk_X3_listenTo (c_Ears_listenTo l G _ _ _ hc16) hC_178 rfl rfl rfl hl.1 (by simp [Value.category]) ⟨⟨rfl, rfl⟩, by decide, by decide⟩ ⟨by decide, by decide⟩ dX9_behind_16 rfl (fun H locs E => ?_)
    refine W.eq (g2 := F0 m 19 ls []) rfl ?_
    refine lv_iconst (v := 0) C.1 C.2.1 dX9_behind_19 (by decide) ?_
    refine lv_istore_n (lv' := [(3, .int _), (0, .ref _), (1, .int _), (2, .int _)]) C.1 C.2.1 dX9_behind_20 rfl hl (by decide) rfl (fun ls hl => ?_)
    refine lv_iconst (v := (-1)) C.1 C.2.1 dX9_behind_21 (by decide) ?_
    refine lv_istore (lv' := [(4, .int _), (3, .int _), (0, .ref _), (1, .int _), (2, .int _)]) C.1 C.2.1 dX9_behind_22 hl (by decide) rfl (fun ls hl => ?_)
    refine lv_iconst (v := 0) C.1 C.2.1 dX9_behind_24 (by decide) ?_
    refine lv_istore (lv' := [(5, .int _), (4, .int _), (3, .int _), (0, .ref _), (1, .int _), (2, .int _)]) C.1 C.2.1 dX9_behind_25 hl (by decide) rfl (fun ls hl => ?_)
    exact L27 _ _ N _ _ _ _ _ _ _ E (lv_sub hl [3, 4, 5, 2, 1, 0] rfl) hf
  · have hf := fm_ip hf hc6
    refine lv_iconst (v := (-1)) C.1 C.2.1 dX9_behind_9 (by decide) ?_
    obtain ⟨rfl, rfl⟩ := fm_rt2 hf
    exact fm_iret C E rfl rfl dX9_behind_10
theorem dX9_turnOverSpan_0 : decode cX9_turnOverSpan 0 = .ok (.aload_n 0, 1) := by decide +kernel
theorem dX9_turnOverSpan_1 : decode cX9_turnOverSpan 1 = .ok (.getfield 71, 3) := by decide +kernel
theorem dX9_turnOverSpan_4 : decode cX9_turnOverSpan 4 = .ok (.iload_n 1, 1) := by decide +kernel
theorem dX9_turnOverSpan_5 : decode cX9_turnOverSpan 5 = .ok (.aload_n 0, 1) := by decide +kernel
theorem dX9_turnOverSpan_6 : decode cX9_turnOverSpan 6 = .ok (.getfield 10, 3) := by decide +kernel
theorem dX9_turnOverSpan_9 : decode cX9_turnOverSpan 9 = .ok (.invokevirtual 208, 3) := by decide +kernel
theorem dX9_turnOverSpan_12 : decode cX9_turnOverSpan 12 = .ok (.aload_n 0, 1) := by decide +kernel
theorem dX9_turnOverSpan_13 : decode cX9_turnOverSpan 13 = .ok (.getfield 10, 3) := by decide +kernel
theorem dX9_turnOverSpan_16 : decode cX9_turnOverSpan 16 = .ok (.invokevirtual 211, 3) := by decide +kernel
theorem dX9_turnOverSpan_19 : decode cX9_turnOverSpan 19 = .ok (.invokevirtual 163, 3) := by decide +kernel
theorem dX9_turnOverSpan_22 : decode cX9_turnOverSpan 22 = .ok (.return_, 1) := by decide +kernel
set_option maxHeartbeats 4000000 in
set_option maxRecDepth 100000 in
theorem c_MicRow_turnOverSpan (l : Launch) (G : fm_G) (N : Nat) (M : fm_M) (v1 : Int32) (M' : fm_M) (hf : pMicRow_turnOverSpan N M v1 = some M') : fm_Met l yX9_turnOverSpan cX9_turnOverSpan 2 none { frames := 5, cells := 0, slots := 0, locals := 126 } shC G [.ref (G.2.1 0), .int v1] M none M' := by
  refine fm_enter (by decide) (Nat.le_of_ble_eq_true rfl) ?_
  intro p e s m args below meth c ls C E hl
  have hl : lv_has ls 2 [(0, .ref (G.2.1 0)), (1, .int v1)] := hl
  unfold pMicRow_turnOverSpan at hf
  refine lv_aload_n C.1 C.2.1 dX9_turnOverSpan_0 rfl (lv_at hl 0 rfl) ?_
  refine fm_getr C E lf_X9_71 hC_0 rfl dX9_turnOverSpan_1 ?_
  refine lv_iload_n C.1 C.2.1 dX9_turnOverSpan_4 rfl (lv_at hl 1 rfl) ?_
  refine lv_aload_n C.1 C.2.1 dX9_turnOverSpan_5 rfl (lv_at hl 0 rfl) ?_
  refine fm_getr C E lf_X9_10 hC_0 rfl dX9_turnOverSpan_6 ?_
  obtain ⟨x9, hc9, hf⟩ := fm_bd hf
  refine fm_callV C E [] [.int _, .ref _] lm_X9_208 wk_X7_begin (c_Scene_begin l G _ _  hc9) hC_1 rfl rfl rfl hl.1 (by simp [Value.category]) ⟨⟨rfl, rfl⟩, by decide, by decide⟩ ⟨by decide, by decide⟩ dX9_turnOverSpan_9 rfl (fun H locs E => ?_)
  refine W.eq (g2 := F0 m 12 ls (.int x9 :: [.int _, .ref _])) rfl ?_
  refine lv_aload_n C.1 C.2.1 dX9_turnOverSpan_12 rfl (lv_at hl 0 rfl) ?_
  refine fm_getr C E lf_X9_10 hC_0 rfl dX9_turnOverSpan_13 ?_
  obtain ⟨x16, hc16, hf⟩ := fm_bd hf
  refine fm_callV C E [] [.int _, .int _, .ref _] lm_X9_211 wk_X7_length (c_Scene_length l G _ _  hc16) hC_1 rfl rfl rfl hl.1 (by simp [Value.category]) ⟨⟨rfl, rfl⟩, by decide, by decide⟩ ⟨by decide, by decide⟩ dX9_turnOverSpan_16 rfl (fun H locs E => ?_)
  refine W.eq (g2 := F0 m 19 ls (.int x16 :: [.int _, .int _, .ref _])) rfl ?_
  obtain ⟨M19, hc19, hf⟩ := fm_bd hf
  refine fm_callV C E [.int _, .int _, .int _] [] lm_X9_163 wk_X0_turnTo (c_Bench_turnTo l G N _ _ _ _ _ hc19) hC_181 rfl rfl rfl hl.1 (by simp [Value.category]) ⟨⟨rfl, rfl⟩, by decide, by decide⟩ ⟨by decide, by decide⟩ dX9_turnOverSpan_19 rfl (fun H locs E => ?_)
  refine W.eq (g2 := F0 m 22 ls []) rfl ?_
  obtain rfl := fm_rt1 hf
  exact fm_vret C E rfl dX9_turnOverSpan_22
theorem dX9_learnWeights_0 : decode cX9_learnWeights 0 = .ok (.aload_n 0, 1) := by decide +kernel
theorem dX9_learnWeights_1 : decode cX9_learnWeights 1 = .ok (.iload_n 1, 1) := by decide +kernel
theorem dX9_learnWeights_2 : decode cX9_learnWeights 2 = .ok (.invokevirtual 256, 3) := by decide +kernel
theorem dX9_learnWeights_5 : decode cX9_learnWeights 5 = .ok (.aload_n 0, 1) := by decide +kernel
theorem dX9_learnWeights_6 : decode cX9_learnWeights 6 = .ok (.getfield 71, 3) := by decide +kernel
theorem dX9_learnWeights_9 : decode cX9_learnWeights 9 = .ok (.aload_n 0, 1) := by decide +kernel
theorem dX9_learnWeights_10 : decode cX9_learnWeights 10 = .ok (.getfield 10, 3) := by decide +kernel
theorem dX9_learnWeights_13 : decode cX9_learnWeights 13 = .ok (.invokevirtual 171, 3) := by decide +kernel
theorem dX9_learnWeights_16 : decode cX9_learnWeights 16 = .ok (.invokevirtual 175, 3) := by decide +kernel
theorem dX9_learnWeights_19 : decode cX9_learnWeights 19 = .ok (.aload_n 0, 1) := by decide +kernel
theorem dX9_learnWeights_20 : decode cX9_learnWeights 20 = .ok (.getfield 71, 3) := by decide +kernel
theorem dX9_learnWeights_23 : decode cX9_learnWeights 23 = .ok (.aload_n 0, 1) := by decide +kernel
theorem dX9_learnWeights_24 : decode cX9_learnWeights 24 = .ok (.getfield 10, 3) := by decide +kernel
theorem dX9_learnWeights_27 : decode cX9_learnWeights 27 = .ok (.invokevirtual 171, 3) := by decide +kernel
theorem dX9_learnWeights_30 : decode cX9_learnWeights 30 = .ok (.invokevirtual 181, 3) := by decide +kernel
theorem dX9_learnWeights_33 : decode cX9_learnWeights 33 = .ok (.aload_n 0, 1) := by decide +kernel
theorem dX9_learnWeights_34 : decode cX9_learnWeights 34 = .ok (.getfield 71, 3) := by decide +kernel
theorem dX9_learnWeights_37 : decode cX9_learnWeights 37 = .ok (.invokevirtual 317, 3) := by decide +kernel
theorem dX9_learnWeights_40 : decode cX9_learnWeights 40 = .ok (.return_, 1) := by decide +kernel
set_option maxHeartbeats 4000000 in
set_option maxRecDepth 100000 in
theorem c_MicRow_learnWeights (l : Launch) (G : fm_G) (N : Nat) (M : fm_M) (v1 : Int32) (M' : fm_M) (hf : pMicRow_learnWeights N M v1 = some M') : fm_Met l yX9_learnWeights cX9_learnWeights 2 none { frames := 6, cells := 0, slots := 0, locals := 147 } shC G [.ref (G.2.1 0), .int v1] M none M' := by
  refine fm_enter (by decide) (Nat.le_of_ble_eq_true rfl) ?_
  intro p e s m args below meth c ls C E hl
  have hl : lv_has ls 2 [(0, .ref (G.2.1 0)), (1, .int v1)] := hl
  unfold pMicRow_learnWeights at hf
  refine lv_aload_n C.1 C.2.1 dX9_learnWeights_0 rfl (lv_at hl 0 rfl) ?_
  refine lv_iload_n C.1 C.2.1 dX9_learnWeights_1 rfl (lv_at hl 1 rfl) ?_
  obtain ⟨M2, hc2, hf⟩ := fm_bd hf
  refine fm_callV C E [.int _] [] lm_X9_256 wk_X9_turnOverSpan (c_MicRow_turnOverSpan l G N _ _ _ hc2) hC_0 rfl rfl rfl hl.1 (by simp [Value.category]) ⟨⟨rfl, rfl⟩, by decide, by decide⟩ ⟨by decide, by decide⟩ dX9_learnWeights_2 rfl (fun H locs E => ?_)
  refine W.eq (g2 := F0 m 5 ls []) rfl ?_
  refine lv_aload_n C.1 C.2.1 dX9_learnWeights_5 rfl (lv_at hl 0 rfl) ?_
  refine fm_getr C E lf_X9_71 hC_0 rfl dX9_learnWeights_6 ?_
  refine lv_aload_n C.1 C.2.1 dX9_learnWeights_9 rfl (lv_at hl 0 rfl) ?_
  refine fm_getr C E lf_X9_10 hC_0 rfl dX9_learnWeights_10 ?_
  obtain ⟨x13, hc13, hf⟩ := fm_bd hf
  refine fm_callV C E [] [.ref _] lm_X9_171 wk_X7_liveSet (c_Scene_liveSet l G N _ _  hc13) hC_1 rfl rfl rfl hl.1 (by simp [Value.category]) ⟨⟨rfl, rfl⟩, by decide, by decide⟩ ⟨by decide, by decide⟩ dX9_learnWeights_13 rfl (fun H locs E => ?_)
  refine W.eq (g2 := F0 m 16 ls (.int x13 :: [.ref _])) rfl ?_
  obtain ⟨M16, hc16, hf⟩ := fm_bd hf
  refine fm_callV C E [.int _] [] lm_X9_175 wk_X0_mix (c_Bench_mix l G N _ _ _ hc16) hC_181 rfl rfl rfl hl.1 (by simp [Value.category]) ⟨⟨rfl, rfl⟩, by decide, by decide⟩ ⟨by decide, by decide⟩ dX9_learnWeights_16 rfl (fun H locs E => ?_)
  refine W.eq (g2 := F0 m 19 ls []) rfl ?_
  refine lv_aload_n C.1 C.2.1 dX9_learnWeights_19 rfl (lv_at hl 0 rfl) ?_
  refine fm_getr C E lf_X9_71 hC_0 rfl dX9_learnWeights_20 ?_
  refine lv_aload_n C.1 C.2.1 dX9_learnWeights_23 rfl (lv_at hl 0 rfl) ?_
  refine fm_getr C E lf_X9_10 hC_0 rfl dX9_learnWeights_24 ?_
  obtain ⟨x27, hc27, hf⟩ := fm_bd hf
  refine fm_callV C E [] [.ref _] lm_X9_171 wk_X7_liveSet (c_Scene_liveSet l G N _ _  hc27) hC_1 rfl rfl rfl hl.1 (by simp [Value.category]) ⟨⟨rfl, rfl⟩, by decide, by decide⟩ ⟨by decide, by decide⟩ dX9_learnWeights_27 rfl (fun H locs E => ?_)
  refine W.eq (g2 := F0 m 30 ls (.int x27 :: [.ref _])) rfl ?_
  obtain ⟨M30, hc30, hf⟩ := fm_bd hf
  refine fm_callV C E [.int _] [] lm_X9_181 wk_X0_block (c_Bench_block l G N _ _ _ hc30) hC_181 rfl rfl rfl hl.1 (by simp [Value.category]) ⟨⟨rfl, rfl⟩, by decide, by decide⟩ ⟨by decide, by decide⟩ dX9_learnWeights_30 rfl (fun H locs E => ?_)
  refine W.eq (g2 := F0 m 33 ls []) rfl ?_
  refine lv_aload_n C.1 C.2.1 dX9_learnWeights_33 rfl (lv_at hl 0 rfl) ?_
  refine fm_getr C E lf_X9_71 hC_0 rfl dX9_learnWeights_34 ?_
  obtain ⟨M37, hc37, hf⟩ := fm_bd hf
  refine fm_callV C E [] [] lm_X9_317 wk_X0_learn (c_Bench_learn l G N _ _ hc37) hC_181 rfl rfl rfl hl.1 (by simp [Value.category]) ⟨⟨rfl, rfl⟩, by decide, by decide⟩ ⟨by decide, by decide⟩ dX9_learnWeights_37 rfl (fun H locs E => ?_)
  refine W.eq (g2 := F0 m 40 ls []) rfl ?_
  obtain rfl := fm_rt1 hf
  exact fm_vret C E rfl dX9_learnWeights_40
theorem dX9_beamPower_0 : decode cX9_beamPower 0 = .ok (.aload_n 0, 1) := by decide +kernel
theorem dX9_beamPower_1 : decode cX9_beamPower 1 = .ok (.iload_n 1, 1) := by decide +kernel
theorem dX9_beamPower_2 : decode cX9_beamPower 2 = .ok (.invokevirtual 256, 3) := by decide +kernel
theorem dX9_beamPower_5 : decode cX9_beamPower 5 = .ok (.aload_n 0, 1) := by decide +kernel
theorem dX9_beamPower_6 : decode cX9_beamPower 6 = .ok (.aload_n 0, 1) := by decide +kernel
theorem dX9_beamPower_7 : decode cX9_beamPower 7 = .ok (.getfield 10, 3) := by decide +kernel
theorem dX9_beamPower_10 : decode cX9_beamPower 10 = .ok (.invokevirtual 171, 3) := by decide +kernel
theorem dX9_beamPower_13 : decode cX9_beamPower 13 = .ok (.invokevirtual 300, 3) := by decide +kernel
theorem dX9_beamPower_16 : decode cX9_beamPower 16 = .ok (.lreturn, 1) := by decide +kernel
set_option maxHeartbeats 4000000 in
set_option maxRecDepth 100000 in
theorem c_MicRow_beamPower (l : Launch) (G : fm_G) (N : Nat) (M : fm_M) (v1 : Int32) (r : Int64) (M' : fm_M) (hf : pMicRow_beamPower N M v1 = some (r, M')) : fm_Met l yX9_beamPower cX9_beamPower 2 (some .long) { frames := 6, cells := 0, slots := 0, locals := 147 } shC G [.ref (G.2.1 0), .int v1] M (some (.long r)) M' := by
  refine fm_enter (by decide) (Nat.le_of_ble_eq_true rfl) ?_
  intro p e s m args below meth c ls C E hl
  have hl : lv_has ls 2 [(0, .ref (G.2.1 0)), (1, .int v1)] := hl
  unfold pMicRow_beamPower at hf
  refine lv_aload_n C.1 C.2.1 dX9_beamPower_0 rfl (lv_at hl 0 rfl) ?_
  refine lv_iload_n C.1 C.2.1 dX9_beamPower_1 rfl (lv_at hl 1 rfl) ?_
  obtain ⟨M2, hc2, hf⟩ := fm_bd hf
  refine fm_callV C E [.int _] [] lm_X9_256 wk_X9_turnOverSpan (c_MicRow_turnOverSpan l G N _ _ _ hc2) hC_0 rfl rfl rfl hl.1 (by simp [Value.category]) ⟨⟨rfl, rfl⟩, by decide, by decide⟩ ⟨by decide, by decide⟩ dX9_beamPower_2 rfl (fun H locs E => ?_)
  refine W.eq (g2 := F0 m 5 ls []) rfl ?_
  refine lv_aload_n C.1 C.2.1 dX9_beamPower_5 rfl (lv_at hl 0 rfl) ?_
  refine lv_aload_n C.1 C.2.1 dX9_beamPower_6 rfl (lv_at hl 0 rfl) ?_
  refine fm_getr C E lf_X9_10 hC_0 rfl dX9_beamPower_7 ?_
  obtain ⟨x10, hc10, hf⟩ := fm_bd hf
  refine fm_callV C E [] [.ref _] lm_X9_171 wk_X7_liveSet (c_Scene_liveSet l G N _ _  hc10) hC_1 rfl rfl rfl hl.1 (by simp [Value.category]) ⟨⟨rfl, rfl⟩, by decide, by decide⟩ ⟨by decide, by decide⟩ dX9_beamPower_10 rfl (fun H locs E => ?_)
  refine W.eq (g2 := F0 m 13 ls (.int x10 :: [.ref _])) rfl ?_
  obtain ⟨⟨x13, M13⟩, hc13, hf⟩ := fm_bd hf
  dsimp only at hf
  refine fm_callV C E [.int _] [] lm_X9_300 wk_X9_mixedPower (c_MicRow_mixedPower l G N _ _ _ _ hc13) hC_0 rfl rfl rfl hl.1 (by simp [Value.category]) ⟨⟨rfl, rfl⟩, by decide, by decide⟩ ⟨by decide, by decide⟩ dX9_beamPower_13 rfl (fun H locs E => ?_)
  refine W.eq (g2 := F0 m 16 ls (.long x13 :: [])) rfl ?_
  obtain ⟨rfl, rfl⟩ := fm_rt2 hf
  exact fm_lret C E rfl dX9_beamPower_16
theorem dX9_cleanPower_0 : decode cX9_cleanPower 0 = .ok (.aload_n 0, 1) := by decide +kernel
theorem dX9_cleanPower_1 : decode cX9_cleanPower 1 = .ok (.iload_n 1, 1) := by decide +kernel
theorem dX9_cleanPower_2 : decode cX9_cleanPower 2 = .ok (.invokevirtual 256, 3) := by decide +kernel
theorem dX9_cleanPower_5 : decode cX9_cleanPower 5 = .ok (.aload_n 0, 1) := by decide +kernel
theorem dX9_cleanPower_6 : decode cX9_cleanPower 6 = .ok (.getfield 71, 3) := by decide +kernel
theorem dX9_cleanPower_9 : decode cX9_cleanPower 9 = .ok (.iload_n 2, 1) := by decide +kernel
theorem dX9_cleanPower_10 : decode cX9_cleanPower 10 = .ok (.invokevirtual 175, 3) := by decide +kernel
theorem dX9_cleanPower_13 : decode cX9_cleanPower 13 = .ok (.aload_n 0, 1) := by decide +kernel
theorem dX9_cleanPower_14 : decode cX9_cleanPower 14 = .ok (.getfield 71, 3) := by decide +kernel
theorem dX9_cleanPower_17 : decode cX9_cleanPower 17 = .ok (.iload_n 2, 1) := by decide +kernel
theorem dX9_cleanPower_18 : decode cX9_cleanPower 18 = .ok (.invokevirtual 181, 3) := by decide +kernel
theorem dX9_cleanPower_21 : decode cX9_cleanPower 21 = .ok (.aload_n 0, 1) := by decide +kernel
theorem dX9_cleanPower_22 : decode cX9_cleanPower 22 = .ok (.getfield 71, 3) := by decide +kernel
theorem dX9_cleanPower_25 : decode cX9_cleanPower 25 = .ok (.invokevirtual 317, 3) := by decide +kernel
theorem dX9_cleanPower_28 : decode cX9_cleanPower 28 = .ok (.aload_n 0, 1) := by decide +kernel
theorem dX9_cleanPower_29 : decode cX9_cleanPower 29 = .ok (.getfield 71, 3) := by decide +kernel
theorem dX9_cleanPower_32 : decode cX9_cleanPower 32 = .ok (.invokevirtual 195, 3) := by decide +kernel
theorem dX9_cleanPower_35 : decode cX9_cleanPower 35 = .ok (.aload_n 0, 1) := by decide +kernel
theorem dX9_cleanPower_36 : decode cX9_cleanPower 36 = .ok (.getfield 71, 3) := by decide +kernel
theorem dX9_cleanPower_39 : decode cX9_cleanPower 39 = .ok (.aload_n 0, 1) := by decide +kernel
theorem dX9_cleanPower_40 : decode cX9_cleanPower 40 = .ok (.getfield 71, 3) := by decide +kernel
theorem dX9_cleanPower_43 : decode cX9_cleanPower 43 = .ok (.getfield 198, 3) := by decide +kernel
theorem dX9_cleanPower_46 : decode cX9_cleanPower 46 = .ok (.invokevirtual 228, 3) := by decide +kernel
theorem dX9_cleanPower_49 : decode cX9_cleanPower 49 = .ok (.lreturn, 1) := by decide +kernel
set_option maxHeartbeats 4000000 in
set_option maxRecDepth 100000 in
theorem c_MicRow_cleanPower (l : Launch) (G : fm_G) (N : Nat) (M : fm_M) (v1 : Int32) (v2 : Int32) (r : Int64) (M' : fm_M) (hf : pMicRow_cleanPower N M v1 v2 = some (r, M')) : fm_Met l yX9_cleanPower cX9_cleanPower 3 (some .long) { frames := 6, cells := 0, slots := 0, locals := 147 } shC G [.ref (G.2.1 0), .int v1, .int v2] M (some (.long r)) M' := by
  refine fm_enter (by decide) (Nat.le_of_ble_eq_true rfl) ?_
  intro p e s m args below meth c ls C E hl
  have hl : lv_has ls 3 [(0, .ref (G.2.1 0)), (1, .int v1), (2, .int v2)] := hl
  unfold pMicRow_cleanPower at hf
  refine lv_aload_n C.1 C.2.1 dX9_cleanPower_0 rfl (lv_at hl 0 rfl) ?_
  refine lv_iload_n C.1 C.2.1 dX9_cleanPower_1 rfl (lv_at hl 1 rfl) ?_
  obtain ⟨M2, hc2, hf⟩ := fm_bd hf
  refine fm_callV C E [.int _] [] lm_X9_256 wk_X9_turnOverSpan (c_MicRow_turnOverSpan l G N _ _ _ hc2) hC_0 rfl rfl rfl hl.1 (by simp [Value.category]) ⟨⟨rfl, rfl⟩, by decide, by decide⟩ ⟨by decide, by decide⟩ dX9_cleanPower_2 rfl (fun H locs E => ?_)
  refine W.eq (g2 := F0 m 5 ls []) rfl ?_
  refine lv_aload_n C.1 C.2.1 dX9_cleanPower_5 rfl (lv_at hl 0 rfl) ?_
  refine fm_getr C E lf_X9_71 hC_0 rfl dX9_cleanPower_6 ?_
  refine lv_iload_n C.1 C.2.1 dX9_cleanPower_9 rfl (lv_at hl 2 rfl) ?_
  obtain ⟨M10, hc10, hf⟩ := fm_bd hf
  refine fm_callV C E [.int _] [] lm_X9_175 wk_X0_mix (c_Bench_mix l G N _ _ _ hc10) hC_181 rfl rfl rfl hl.1 (by simp [Value.category]) ⟨⟨rfl, rfl⟩, by decide, by decide⟩ ⟨by decide, by decide⟩ dX9_cleanPower_10 rfl (fun H locs E => ?_)
  refine W.eq (g2 := F0 m 13 ls []) rfl ?_
  refine lv_aload_n C.1 C.2.1 dX9_cleanPower_13 rfl (lv_at hl 0 rfl) ?_
  refine fm_getr C E lf_X9_71 hC_0 rfl dX9_cleanPower_14 ?_
  refine lv_iload_n C.1 C.2.1 dX9_cleanPower_17 rfl (lv_at hl 2 rfl) ?_
  obtain ⟨M18, hc18, hf⟩ := fm_bd hf
  refine fm_callV C E [.int _] [] lm_X9_181 wk_X0_block (c_Bench_block l G N _ _ _ hc18) hC_181 rfl rfl rfl hl.1 (by simp [Value.category]) ⟨⟨rfl, rfl⟩, by decide, by decide⟩ ⟨by decide, by decide⟩ dX9_cleanPower_18 rfl (fun H locs E => ?_)
  refine W.eq (g2 := F0 m 21 ls []) rfl ?_
  refine lv_aload_n C.1 C.2.1 dX9_cleanPower_21 rfl (lv_at hl 0 rfl) ?_
  refine fm_getr C E lf_X9_71 hC_0 rfl dX9_cleanPower_22 ?_
  obtain ⟨M25, hc25, hf⟩ := fm_bd hf
  refine fm_callV C E [] [] lm_X9_317 wk_X0_learn (c_Bench_learn l G N _ _ hc25) hC_181 rfl rfl rfl hl.1 (by simp [Value.category]) ⟨⟨rfl, rfl⟩, by decide, by decide⟩ ⟨by decide, by decide⟩ dX9_cleanPower_25 rfl (fun H locs E => ?_)
  refine W.eq (g2 := F0 m 28 ls []) rfl ?_
  refine lv_aload_n C.1 C.2.1 dX9_cleanPower_28 rfl (lv_at hl 0 rfl) ?_
  refine fm_getr C E lf_X9_71 hC_0 rfl dX9_cleanPower_29 ?_
  obtain ⟨M32, hc32, hf⟩ := fm_bd hf
  refine fm_callV C E [] [] lm_X9_195 wk_X0_takeOff (c_Bench_takeOff l G N _ _ hc32) hC_181 rfl rfl rfl hl.1 (by simp [Value.category]) ⟨⟨rfl, rfl⟩, by decide, by decide⟩ ⟨by decide, by decide⟩ dX9_cleanPower_32 rfl (fun H locs E => ?_)
  refine W.eq (g2 := F0 m 35 ls []) rfl ?_
  refine lv_aload_n C.1 C.2.1 dX9_cleanPower_35 rfl (lv_at hl 0 rfl) ?_
  refine fm_getr C E lf_X9_71 hC_0 rfl dX9_cleanPower_36 ?_
  refine lv_aload_n C.1 C.2.1 dX9_cleanPower_39 rfl (lv_at hl 0 rfl) ?_
  refine fm_getr C E lf_X9_71 hC_0 rfl dX9_cleanPower_40 ?_
  refine fm_getr C E lf_X9_198 hC_181 rfl dX9_cleanPower_43 ?_
  obtain ⟨x46, hc46, hf⟩ := fm_bd hf
  refine fm_callV C E [.ref _] [] lm_X9_228 wk_X0_powerOf (c_Bench_powerOf l G N _ _ _  hc46) hC_181 rfl rfl rfl hl.1 (by simp [Value.category]) ⟨⟨rfl, rfl⟩, by decide, by decide⟩ ⟨by decide, by decide⟩ dX9_cleanPower_46 rfl (fun H locs E => ?_)
  refine W.eq (g2 := F0 m 49 ls (.long x46 :: [])) rfl ?_
  obtain ⟨rfl, rfl⟩ := fm_rt2 hf
  exact fm_lret C E rfl dX9_cleanPower_49
theorem dX9_years_0 : decode cX9_years 0 = .ok (.iload_n 2, 1) := by decide +kernel
theorem dX9_years_1 : decode cX9_years 1 = .ok (.iconst 1, 1) := by decide +kernel
theorem dX9_years_2 : decode cX9_years 2 = .ok (.bipush 30, 2) := by decide +kernel
theorem dX9_years_4 : decode cX9_years 4 = .ok (.invokestatic 112, 3) := by decide +kernel
theorem dX9_years_7 : decode cX9_years 7 = .ok (.ifCond .ne 5, 3) := by decide +kernel
theorem dX9_years_10 : decode cX9_years 10 = .ok (.iconst (-1), 1) := by decide +kernel
theorem dX9_years_11 : decode cX9_years 11 = .ok (.ireturn, 1) := by decide +kernel
theorem dX9_years_12 : decode cX9_years 12 = .ok (.aload_n 0, 1) := by decide +kernel
theorem dX9_years_13 : decode cX9_years 13 = .ok (.getfield 16, 3) := by decide +kernel
theorem dX9_years_16 : decode cX9_years 16 = .ok (.aload_n 0, 1) := by decide +kernel
theorem dX9_years_17 : decode cX9_years 17 = .ok (.getfield 10, 3) := by decide +kernel
theorem dX9_years_20 : decode cX9_years 20 = .ok (.invokevirtual 99, 3) := by decide +kernel
theorem dX9_years_23 : decode cX9_years 23 = .ok (.aload_n 0, 1) := by decide +kernel
theorem dX9_years_24 : decode cX9_years 24 = .ok (.getfield 87, 3) := by decide +kernel
theorem dX9_years_27 : decode cX9_years 27 = .ok (.iload_n 1, 1) := by decide +kernel
theorem dX9_years_28 : decode cX9_years 28 = .ok (.invokevirtual 370, 3) := by decide +kernel
theorem dX9_years_31 : decode cX9_years 31 = .ok (.iconst 0, 1) := by decide +kernel
theorem dX9_years_32 : decode cX9_years 32 = .ok (.istore_n 3, 1) := by decide +kernel
theorem dX9_years_33 : decode cX9_years 33 = .ok (.iload_n 3, 1) := by decide +kernel
theorem dX9_years_34 : decode cX9_years 34 = .ok (.iload_n 2, 1) := by decide +kernel
theorem dX9_years_35 : decode cX9_years 35 = .ok (.if_icmp .ge 13, 3) := by decide +kernel
theorem dX9_years_38 : decode cX9_years 38 = .ok (.aload_n 0, 1) := by decide +kernel
theorem dX9_years_39 : decode cX9_years 39 = .ok (.invokevirtual 373, 3) := by decide +kernel
theorem dX9_years_42 : decode cX9_years 42 = .ok (.iinc 3 1, 3) := by decide +kernel
theorem dX9_years_45 : decode cX9_years 45 = .ok (.goto (-12), 3) := by decide +kernel
theorem dX9_years_48 : decode cX9_years 48 = .ok (.aload_n 0, 1) := by decide +kernel
theorem dX9_years_49 : decode cX9_years 49 = .ok (.getfield 10, 3) := by decide +kernel
theorem dX9_years_52 : decode cX9_years 52 = .ok (.invokevirtual 171, 3) := by decide +kernel
theorem dX9_years_55 : decode cX9_years 55 = .ok (.istore_n 3, 1) := by decide +kernel
theorem dX9_years_56 : decode cX9_years 56 = .ok (.aload_n 0, 1) := by decide +kernel
theorem dX9_years_57 : decode cX9_years 57 = .ok (.getfield 62, 3) := by decide +kernel
theorem dX9_years_60 : decode cX9_years 60 = .ok (.iconst (-1), 1) := by decide +kernel
theorem dX9_years_61 : decode cX9_years 61 = .ok (.invokevirtual 150, 3) := by decide +kernel
theorem dX9_years_64 : decode cX9_years 64 = .ok (.aload_n 0, 1) := by decide +kernel
theorem dX9_years_65 : decode cX9_years 65 = .ok (.iconst 0, 1) := by decide +kernel
theorem dX9_years_66 : decode cX9_years 66 = .ok (.invokevirtual 256, 3) := by decide +kernel
theorem dX9_years_69 : decode cX9_years 69 = .ok (.aload_n 0, 1) := by decide +kernel
theorem dX9_years_70 : decode cX9_years 70 = .ok (.getfield 71, 3) := by decide +kernel
theorem dX9_years_73 : decode cX9_years 73 = .ok (.iload_n 3, 1) := by decide +kernel
theorem dX9_years_74 : decode cX9_years 74 = .ok (.invokevirtual 175, 3) := by decide +kernel
theorem dX9_years_77 : decode cX9_years 77 = .ok (.aload_n 0, 1) := by decide +kernel
theorem dX9_years_78 : decode cX9_years 78 = .ok (.getfield 53, 3) := by decide +kernel
theorem dX9_years_81 : decode cX9_years 81 = .ok (.invokevirtual 225, 3) := by decide +kernel
theorem dX9_years_84 : decode cX9_years 84 = .ok (.aload_n 0, 1) := by decide +kernel
theorem dX9_years_85 : decode cX9_years 85 = .ok (.getfield 53, 3) := by decide +kernel
theorem dX9_years_88 : decode cX9_years 88 = .ok (.aload_n 0, 1) := by decide +kernel
theorem dX9_years_89 : decode cX9_years 89 = .ok (.getfield 71, 3) := by decide +kernel
theorem dX9_years_92 : decode cX9_years 92 = .ok (.aload_n 0, 1) := by decide +kernel
theorem dX9_years_93 : decode cX9_years 93 = .ok (.getfield 71, 3) := by decide +kernel
theorem dX9_years_96 : decode cX9_years 96 = .ok (.getfield 178, 3) := by decide +kernel
theorem dX9_years_99 : decode cX9_years 99 = .ok (.invokevirtual 236, 3) := by decide +kernel
theorem dX9_years_102 : decode cX9_years 102 = .ok (.i2l, 1) := by decide +kernel
theorem dX9_years_103 : decode cX9_years 103 = .ok (.invokevirtual 232, 3) := by decide +kernel
theorem dX9_years_106 : decode cX9_years 106 = .ok (.aload_n 0, 1) := by decide +kernel
theorem dX9_years_107 : decode cX9_years 107 = .ok (.getfield 10, 3) := by decide +kernel
theorem dX9_years_110 : decode cX9_years 110 = .ok (.aload_n 0, 1) := by decide +kernel
theorem dX9_years_111 : decode cX9_years 111 = .ok (.getfield 16, 3) := by decide +kernel
theorem dX9_years_114 : decode cX9_years 114 = .ok (.invokevirtual 99, 3) := by decide +kernel
theorem dX9_years_117 : decode cX9_years 117 = .ok (.iload_n 3, 1) := by decide +kernel
theorem dX9_years_118 : decode cX9_years 118 = .ok (.ireturn, 1) := by decide +kernel
set_option maxHeartbeats 4000000 in
set_option maxRecDepth 100000 in
theorem c_MicRow_years (l : Launch) (G : fm_G) (N : Nat) (M : fm_M) (v1 : Int32) (v2 : Int32) (r : Int32) (M' : fm_M) (hf : pMicRow_years N M v1 v2 = some (r, M')) : fm_Met l yX9_years cX9_years 4 (some .int) { frames := 6, cells := 0, slots := 0, locals := 147 } shC G [.ref (G.2.1 0), .int v1, .int v2] M (some (.int r)) M' := by
  refine fm_enter (by decide) (Nat.le_of_ble_eq_true rfl) ?_
  intro p e s m args below meth c ls C E hl
  have hl : lv_has ls 4 [(0, .ref (G.2.1 0)), (1, .int v1), (2, .int v2)] := hl
  have L33 : ∀ (w33_v2 : Int32) (n33 : Nat) (v3 : Int32) (M : fm_M) (H : Heap) (locs : List Loc) (ls : Array Slot), fm_Wd shC G M s H locs → lv_has ls 4 [(0, .ref (G.2.1 0)), (2, .int w33_v2), (3, .int v3)] → fm_lp (pMicRow_years_L33 N w33_v2) n33 (v3, M) = some (r, M') → W p l e { frames := 6, cells := 0, slots := 0, locals := 147 } s m args below meth c H locs 0 0 (fm_Z below shC G args s (some (.int r)) M') (F0 m 33 ls []) := by
    intro w33_v2 n33
    induction n33 with
    | zero => intro v3 M H locs ls E hl hf; exact fm_lp_0 hf
    | succ n33 ih33 =>
      intro v3 M H locs ls E hl hf
      have hf : pMicRow_years_L33b N w33_v2 (fm_lp (pMicRow_years_L33 N w33_v2) n33) v3 M = some (r, M') := hf
      unfold pMicRow_years_L33b at hf
      refine lv_iload_n C.1 C.2.1 dX9_years_33 rfl (lv_at hl 2 rfl) ?_
      refine lv_iload_n C.1 C.2.1 dX9_years_34 rfl (lv_at hl 1 rfl) ?_
      refine lv_icmp_ge (tgt := 48) C.1 C.2.1 dX9_years_35 (by decide) (fun hc35 => ?_) (fun hc35 => ?_)
      · have hf := fm_ip hf hc35
        refine lv_aload_n C.1 C.2.1 dX9_years_48 rfl (lv_at hl 0 rfl) ?_
        refine fm_getr C E lf_X9_10 hC_0 rfl dX9_years_49 ?_
        obtain ⟨x52, hc52, hf⟩ := fm_bd hf
        refine fm_callV C E [] [] lm_X9_171 wk_X7_liveSet (c_Scene_liveSet l G N _ _  hc52) hC_1 rfl rfl rfl hl.1 (by simp [Value.category]) ⟨⟨rfl, rfl⟩, by decide, by decide⟩ ⟨by decide, by decide⟩ dX9_years_52 rfl (fun H locs E => ?_)
        refine W.eq (g2 := F0 m 55 ls (.int x52 :: [])) rfl ?_
        refine lv_istore_n (lv' := [(3, .int _), (0, .ref _), (2, .int _)]) C.1 C.2.1 dX9_years_55 rfl hl (by decide) rfl (fun ls hl => ?_)
        refine lv_aload_n C.1 C.2.1 dX9_years_56 rfl (lv_at hl 1 rfl) ?_
        refine fm_getr C E lf_X9_62 hC_0 rfl dX9_years_57 ?_
        refine lv_iconst (v := (-1)) C.1 C.2.1 dX9_years_60 (by decide) ?_
        obtain ⟨M61, hc61, hf⟩ := fm_bd hf
        refine fm_callV C E [.int _] [] lm_X9_150 wk_X3_listenTo (c_Ears_listenTo l G _ _ _ hc61) hC_178 rfl rfl rfl hl.1 (by simp [Value.category]) ⟨⟨rfl, rfl⟩, by decide, by decide⟩ ⟨by decide, by decide⟩ dX9_years_61 rfl (fun H locs E => ?_)
        refine W.eq (g2 := F0 m 64 ls []) rfl ?_
        refine lv_aload_n C.1 C.2.1 dX9_years_64 rfl (lv_at hl 1 rfl) ?_
        refine lv_iconst (v := 0) C.1 C.2.1 dX9_years_65 (by decide) ?_
        obtain ⟨M66, hc66, hf⟩ := fm_bd hf
        refine fm_callV C E [.int _] [] lm_X9_256 wk_X9_turnOverSpan (c_MicRow_turnOverSpan l G N _ _ _ hc66) hC_0 rfl rfl rfl hl.1 (by simp [Value.category]) ⟨⟨rfl, rfl⟩, by decide, by decide⟩ ⟨by decide, by decide⟩ dX9_years_66 rfl (fun H locs E => ?_)
        refine W.eq (g2 := F0 m 69 ls []) rfl ?_
        refine lv_aload_n C.1 C.2.1 dX9_years_69 rfl (lv_at hl 1 rfl) ?_
        refine fm_getr C E lf_X9_71 hC_0 rfl dX9_years_70 ?_
        refine lv_iload_n C.1 C.2.1 dX9_years_73 rfl (lv_at hl 0 rfl) ?_
        obtain ⟨M74, hc74, hf⟩ := fm_bd hf
        refine fm_callV C E [.int _] [] lm_X9_175 wk_X0_mix (c_Bench_mix l G N _ _ _ hc74) hC_181 rfl rfl rfl hl.1 (by simp [Value.category]) ⟨⟨rfl, rfl⟩, by decide, by decide⟩ ⟨by decide, by decide⟩ dX9_years_74 rfl (fun H locs E => ?_)
        refine W.eq (g2 := F0 m 77 ls []) rfl ?_
        refine lv_aload_n C.1 C.2.1 dX9_years_77 rfl (lv_at hl 1 rfl) ?_
        refine fm_getr C E lf_X9_53 hC_0 rfl dX9_years_78 ?_
        obtain ⟨M81, hc81, hf⟩ := fm_bd hf
        refine fm_callV C E [] [] lm_X9_225 wk_X8_clear (c_Told_clear l G _ _ hc81) hC_176 rfl rfl rfl hl.1 (by simp [Value.category]) ⟨⟨rfl, rfl⟩, by decide, by decide⟩ ⟨by decide, by decide⟩ dX9_years_81 rfl (fun H locs E => ?_)
        refine W.eq (g2 := F0 m 84 ls []) rfl ?_
        refine lv_aload_n C.1 C.2.1 dX9_years_84 rfl (lv_at hl 1 rfl) ?_
        refine fm_getr C E lf_X9_53 hC_0 rfl dX9_years_85 ?_
        refine lv_aload_n C.1 C.2.1 dX9_years_88 rfl (lv_at hl 1 rfl) ?_
        refine fm_getr C E lf_X9_71 hC_0 rfl dX9_years_89 ?_
        refine lv_aload_n C.1 C.2.1 dX9_years_92 rfl (lv_at hl 1 rfl) ?_
        refine fm_getr C E lf_X9_71 hC_0 rfl dX9_years_93 ?_
        refine fm_getr C E lf_X9_178 hC_181 rfl dX9_years_96 ?_
        obtain ⟨x99, hc99, hf⟩ := fm_bd hf
        refine fm_callV C E [.ref _] [.ref _] lm_X9_236 wk_X0_levelOf (c_Bench_levelOf l G N _ _ _  hc99) hC_181 rfl rfl rfl hl.1 (by simp [Value.category]) ⟨⟨rfl, rfl⟩, by decide, by decide⟩ ⟨by decide, by decide⟩ dX9_years_99 rfl (fun H locs E => ?_)
        refine W.eq (g2 := F0 m 102 ls (.int x99 :: [.ref _])) rfl ?_
        refine lv_i2l C.1 C.2.1 dX9_years_102 rfl ?_
        obtain ⟨M103, hc103, hf⟩ := fm_bd hf
        refine fm_callV C E [.long _] [] lm_X9_232 wk_X8_add (c_Told_add l G _ _ _ hc103) hC_176 rfl rfl rfl hl.1 (by simp [Value.category]) ⟨⟨rfl, rfl⟩, by decide, by decide⟩ ⟨by decide, by decide⟩ dX9_years_103 rfl (fun H locs E => ?_)
        refine W.eq (g2 := F0 m 106 ls []) rfl ?_
        refine lv_aload_n C.1 C.2.1 dX9_years_106 rfl (lv_at hl 1 rfl) ?_
        refine fm_getr C E lf_X9_10 hC_0 rfl dX9_years_107 ?_
        refine lv_aload_n C.1 C.2.1 dX9_years_110 rfl (lv_at hl 1 rfl) ?_
        refine fm_getr C E lf_X9_16 hC_0 rfl dX9_years_111 ?_
        obtain ⟨M114, hc114, hf⟩ := fm_bd hf
        refine fm_callV C E [.ref _] [] lm_X9_99 wk_X7_copyFrom (c_Scene_copyFrom l G N _ _ _ _ hc114) hC_1 rfl rfl rfl hl.1 (by simp [Value.category]) ⟨⟨rfl, rfl⟩, by decide, by decide⟩ ⟨by decide, by decide⟩ dX9_years_114 rfl (fun H locs E => ?_)
        refine W.eq (g2 := F0 m 117 ls []) rfl ?_
        refine lv_iload_n C.1 C.2.1 dX9_years_117 rfl (lv_at hl 0 rfl) ?_
        obtain ⟨rfl, rfl⟩ := fm_rt2 hf
        exact fm_iret C E rfl rfl dX9_years_118
      · have hf := fm_in' hf hc35
        refine lv_aload_n C.1 C.2.1 dX9_years_38 rfl (lv_at hl 0 rfl) ?_
        obtain ⟨M39, hc39, hf⟩ := fm_bd hf
        refine fm_callV C E [] [] lm_X9_373 wk_X9_drawnAct (c_MicRow_drawnAct l G _ _ hc39) hC_0 rfl rfl rfl hl.1 (by simp [Value.category]) ⟨⟨rfl, rfl⟩, by decide, by decide⟩ ⟨by decide, by decide⟩ dX9_years_39 rfl (fun H locs E => ?_)
        refine W.eq (g2 := F0 m 42 ls []) rfl ?_
        refine fm_iinc C (v := 1) (lv' := [(3, .int _), (0, .ref _), (2, .int _)]) (k := 2) hl rfl (by decide) (by decide) rfl dX9_years_42 (fun ls hl => ?_)
        refine lv_goto (tgt := 33) C.1 C.2.1 dX9_years_45 (by decide) ?_
        exact ih33 _ _ _ _ _ E (lv_sub hl [1, 2, 0] rfl) hf
  unfold pMicRow_years at hf
  refine lv_iload_n C.1 C.2.1 dX9_years_0 rfl (lv_at hl 2 rfl) ?_
  refine lv_iconst (v := 1) C.1 C.2.1 dX9_years_1 (by decide) ?_
  refine lv_bipush (v := 30) C.1 C.2.1 dX9_years_2 (by decide) ?_
  obtain ⟨x4, hc4, hf⟩ := fm_bd hf
  refine fm_callS C E [.int _, .int _, .int _] [] lm_X9_112 wk_X9_within (c_MicRow_within l G _ _ _ _ _  hc4) rfl hl.1 (by simp [Value.category]) ⟨⟨rfl, rfl⟩, by decide, by decide⟩ ⟨by decide, by decide⟩ dX9_years_4 rfl (fun H locs E => ?_)
  refine W.eq (g2 := F0 m 7 ls (.int x4 :: [])) rfl ?_
  refine lv_if_ne (tgt := 12) C.1 C.2.1 dX9_years_7 (by decide) (fun hc7 => ?_) (fun hc7 => ?_)
  · have hf := fm_in' hf hc7
    refine lv_aload_n C.1 C.2.1 dX9_years_12 rfl (lv_at hl 0 rfl) ?_
    refine fm_getr C E lf_X9_16 hC_0 rfl dX9_years_13 ?_
    refine lv_aload_n C.1 C.2.1 dX9_years_16 rfl (lv_at hl 0 rfl) ?_
    refine fm_getr C E lf_X9_10 hC_0 rfl dX9_years_17 ?_
    obtain ⟨M20, hc20, hf⟩ := fm_bd hf
    refine fm_callV C E [.ref _] [] lm_X9_99 wk_X7_copyFrom (c_Scene_copyFrom l G N _ _ _ _ hc20) hC_15 rfl rfl rfl hl.1 (by simp [Value.category]) ⟨⟨rfl, rfl⟩, by decide, by decide⟩ ⟨by decide, by decide⟩ dX9_years_20 rfl (fun H locs E => ?_)
    refine W.eq (g2 := F0 m 23 ls []) rfl ?_
    refine lv_aload_n C.1 C.2.1 dX9_years_23 rfl (lv_at hl 0 rfl) ?_
    refine fm_getr C E lf_X9_87 hC_0 rfl dX9_years_24 ?_
    refine lv_iload_n C.1 C.2.1 dX9_years_27 rfl (lv_at hl 1 rfl) ?_
    obtain ⟨M28, hc28, hf⟩ := fm_bd hf
    refine fm_callV C E [.int _] [] lm_X9_370 wk_X2_start (c_Dice_start l G _ _ _ hc28) hC_220 rfl rfl rfl hl.1 (by simp [Value.category]) ⟨⟨rfl, rfl⟩, by decide, by decide⟩ ⟨by decide, by decide⟩ dX9_years_28 rfl (fun H locs E => ?_)
    refine W.eq (g2 := F0 m 31 ls []) rfl ?_
    refine lv_iconst (v := 0) C.1 C.2.1 dX9_years_31 (by decide) ?_
    refine lv_istore_n (lv' := [(3, .int _), (0, .ref _), (1, .int _), (2, .int _)]) C.1 C.2.1 dX9_years_32 rfl hl (by decide) rfl (fun ls hl => ?_)
    exact L33 _ N _ _ _ _ _ E (lv_sub hl [1, 3, 0] rfl) hf
  · have hf := fm_ip hf hc7
    refine lv_iconst (v := (-1)) C.1 C.2.1 dX9_years_10 (by decide) ?_
    obtain ⟨rfl, rfl⟩ := fm_rt2 hf
    exact fm_iret C E rfl rfl dX9_years_11
theorem dX9_learnEqual_0 : decode cX9_learnEqual 0 = .ok (.aload_n 0, 1) := by decide +kernel
theorem dX9_learnEqual_1 : decode cX9_learnEqual 1 = .ok (.getfield 62, 3) := by decide +kernel
theorem dX9_learnEqual_4 : decode cX9_learnEqual 4 = .ok (.iconst (-1), 1) := by decide +kernel
theorem dX9_learnEqual_5 : decode cX9_learnEqual 5 = .ok (.invokevirtual 150, 3) := by decide +kernel
theorem dX9_learnEqual_8 : decode cX9_learnEqual 8 = .ok (.iconst (-1), 1) := by decide +kernel
theorem dX9_learnEqual_9 : decode cX9_learnEqual 9 = .ok (.istore_n 1, 1) := by decide +kernel
theorem dX9_learnEqual_10 : decode cX9_learnEqual 10 = .ok (.iconst 0, 1) := by decide +kernel
theorem dX9_learnEqual_11 : decode cX9_learnEqual 11 = .ok (.istore_n 2, 1) := by decide +kernel
theorem dX9_learnEqual_12 : decode cX9_learnEqual 12 = .ok (.iload_n 2, 1) := by decide +kernel
theorem dX9_learnEqual_13 : decode cX9_learnEqual 13 = .ok (.aload_n 0, 1) := by decide +kernel
theorem dX9_learnEqual_14 : decode cX9_learnEqual 14 = .ok (.getfield 10, 3) := by decide +kernel
theorem dX9_learnEqual_17 : decode cX9_learnEqual 17 = .ok (.getfield 284, 3) := by decide +kernel
theorem dX9_learnEqual_20 : decode cX9_learnEqual 20 = .ok (.if_icmp .ge 60, 3) := by decide +kernel
theorem dX9_learnEqual_23 : decode cX9_learnEqual 23 = .ok (.aload_n 0, 1) := by decide +kernel
theorem dX9_learnEqual_24 : decode cX9_learnEqual 24 = .ok (.getfield 71, 3) := by decide +kernel
theorem dX9_learnEqual_27 : decode cX9_learnEqual 27 = .ok (.iload_n 2, 1) := by decide +kernel
theorem dX9_learnEqual_28 : decode cX9_learnEqual 28 = .ok (.aload_n 0, 1) := by decide +kernel
theorem dX9_learnEqual_29 : decode cX9_learnEqual 29 = .ok (.getfield 10, 3) := by decide +kernel
theorem dX9_learnEqual_32 : decode cX9_learnEqual 32 = .ok (.invokevirtual 208, 3) := by decide +kernel
theorem dX9_learnEqual_35 : decode cX9_learnEqual 35 = .ok (.aload_n 0, 1) := by decide +kernel
theorem dX9_learnEqual_36 : decode cX9_learnEqual 36 = .ok (.getfield 10, 3) := by decide +kernel
theorem dX9_learnEqual_39 : decode cX9_learnEqual 39 = .ok (.invokevirtual 211, 3) := by decide +kernel
theorem dX9_learnEqual_42 : decode cX9_learnEqual 42 = .ok (.invokevirtual 214, 3) := by decide +kernel
theorem dX9_learnEqual_45 : decode cX9_learnEqual 45 = .ok (.aload_n 0, 1) := by decide +kernel
theorem dX9_learnEqual_46 : decode cX9_learnEqual 46 = .ok (.getfield 71, 3) := by decide +kernel
theorem dX9_learnEqual_49 : decode cX9_learnEqual 49 = .ok (.invokevirtual 287, 3) := by decide +kernel
theorem dX9_learnEqual_52 : decode cX9_learnEqual 52 = .ok (.ifCond .ne 22, 3) := by decide +kernel
theorem dX9_learnEqual_55 : decode cX9_learnEqual 55 = .ok (.iload_n 1, 1) := by decide +kernel
theorem dX9_learnEqual_56 : decode cX9_learnEqual 56 = .ok (.aload_n 0, 1) := by decide +kernel
theorem dX9_learnEqual_57 : decode cX9_learnEqual 57 = .ok (.getfield 71, 3) := by decide +kernel
theorem dX9_learnEqual_60 : decode cX9_learnEqual 60 = .ok (.aload_n 0, 1) := by decide +kernel
theorem dX9_learnEqual_61 : decode cX9_learnEqual 61 = .ok (.getfield 71, 3) := by decide +kernel
theorem dX9_learnEqual_64 : decode cX9_learnEqual 64 = .ok (.getfield 217, 3) := by decide +kernel
theorem dX9_learnEqual_67 : decode cX9_learnEqual 67 = .ok (.invokevirtual 236, 3) := by decide +kernel
theorem dX9_learnEqual_70 : decode cX9_learnEqual 70 = .ok (.invokestatic 379, 3) := by decide +kernel
theorem dX9_learnEqual_73 : decode cX9_learnEqual 73 = .ok (.istore_n 1, 1) := by decide +kernel
theorem dX9_learnEqual_74 : decode cX9_learnEqual 74 = .ok (.iinc 2 1, 3) := by decide +kernel
theorem dX9_learnEqual_77 : decode cX9_learnEqual 77 = .ok (.goto (-65), 3) := by decide +kernel
theorem dX9_learnEqual_80 : decode cX9_learnEqual 80 = .ok (.iload_n 1, 1) := by decide +kernel
theorem dX9_learnEqual_81 : decode cX9_learnEqual 81 = .ok (.iconst (-1), 1) := by decide +kernel
theorem dX9_learnEqual_82 : decode cX9_learnEqual 82 = .ok (.if_icmp .ne 6, 3) := by decide +kernel
theorem dX9_learnEqual_85 : decode cX9_learnEqual 85 = .ok (.bipush (-2), 2) := by decide +kernel
theorem dX9_learnEqual_87 : decode cX9_learnEqual 87 = .ok (.ireturn, 1) := by decide +kernel
theorem dX9_learnEqual_88 : decode cX9_learnEqual 88 = .ok (.iconst 0, 1) := by decide +kernel
theorem dX9_learnEqual_89 : decode cX9_learnEqual 89 = .ok (.istore_n 2, 1) := by decide +kernel
theorem dX9_learnEqual_90 : decode cX9_learnEqual 90 = .ok (.iconst 0, 1) := by decide +kernel
theorem dX9_learnEqual_91 : decode cX9_learnEqual 91 = .ok (.istore_n 3, 1) := by decide +kernel
theorem dX9_learnEqual_92 : decode cX9_learnEqual 92 = .ok (.iload_n 3, 1) := by decide +kernel
theorem dX9_learnEqual_93 : decode cX9_learnEqual 93 = .ok (.aload_n 0, 1) := by decide +kernel
theorem dX9_learnEqual_94 : decode cX9_learnEqual 94 = .ok (.getfield 10, 3) := by decide +kernel
theorem dX9_learnEqual_97 : decode cX9_learnEqual 97 = .ok (.getfield 284, 3) := by decide +kernel
theorem dX9_learnEqual_100 : decode cX9_learnEqual 100 = .ok (.if_icmp .ge 61, 3) := by decide +kernel
theorem dX9_learnEqual_103 : decode cX9_learnEqual 103 = .ok (.aload_n 0, 1) := by decide +kernel
theorem dX9_learnEqual_104 : decode cX9_learnEqual 104 = .ok (.getfield 71, 3) := by decide +kernel
theorem dX9_learnEqual_107 : decode cX9_learnEqual 107 = .ok (.iload_n 3, 1) := by decide +kernel
theorem dX9_learnEqual_108 : decode cX9_learnEqual 108 = .ok (.aload_n 0, 1) := by decide +kernel
theorem dX9_learnEqual_109 : decode cX9_learnEqual 109 = .ok (.getfield 10, 3) := by decide +kernel
theorem dX9_learnEqual_112 : decode cX9_learnEqual 112 = .ok (.invokevirtual 208, 3) := by decide +kernel
theorem dX9_learnEqual_115 : decode cX9_learnEqual 115 = .ok (.aload_n 0, 1) := by decide +kernel
theorem dX9_learnEqual_116 : decode cX9_learnEqual 116 = .ok (.getfield 10, 3) := by decide +kernel
theorem dX9_learnEqual_119 : decode cX9_learnEqual 119 = .ok (.invokevirtual 211, 3) := by decide +kernel
theorem dX9_learnEqual_122 : decode cX9_learnEqual 122 = .ok (.invokevirtual 214, 3) := by decide +kernel
theorem dX9_learnEqual_125 : decode cX9_learnEqual 125 = .ok (.aload_n 0, 1) := by decide +kernel
theorem dX9_learnEqual_126 : decode cX9_learnEqual 126 = .ok (.getfield 71, 3) := by decide +kernel
theorem dX9_learnEqual_129 : decode cX9_learnEqual 129 = .ok (.invokevirtual 287, 3) := by decide +kernel
theorem dX9_learnEqual_132 : decode cX9_learnEqual 132 = .ok (.ifCond .ne 23, 3) := by decide +kernel
theorem dX9_learnEqual_135 : decode cX9_learnEqual 135 = .ok (.aload_n 0, 1) := by decide +kernel
theorem dX9_learnEqual_136 : decode cX9_learnEqual 136 = .ok (.getfield 10, 3) := by decide +kernel
theorem dX9_learnEqual_139 : decode cX9_learnEqual 139 = .ok (.iload_n 3, 1) := by decide +kernel
theorem dX9_learnEqual_140 : decode cX9_learnEqual 140 = .ok (.iconst 3, 1) := by decide +kernel
theorem dX9_learnEqual_141 : decode cX9_learnEqual 141 = .ok (.aload_n 0, 1) := by decide +kernel
theorem dX9_learnEqual_142 : decode cX9_learnEqual 142 = .ok (.iload_n 1, 1) := by decide +kernel
theorem dX9_learnEqual_143 : decode cX9_learnEqual 143 = .ok (.invokevirtual 382, 3) := by decide +kernel
theorem dX9_learnEqual_146 : decode cX9_learnEqual 146 = .ok (.invokevirtual 134, 3) := by decide +kernel
theorem dX9_learnEqual_149 : decode cX9_learnEqual 149 = .ok (.ifCond .lt 6, 3) := by decide +kernel
theorem dX9_learnEqual_152 : decode cX9_learnEqual 152 = .ok (.iinc 2 1, 3) := by decide +kernel
theorem dX9_learnEqual_155 : decode cX9_learnEqual 155 = .ok (.iinc 3 1, 3) := by decide +kernel
theorem dX9_learnEqual_158 : decode cX9_learnEqual 158 = .ok (.goto (-66), 3) := by decide +kernel
theorem dX9_learnEqual_161 : decode cX9_learnEqual 161 = .ok (.iload_n 2, 1) := by decide +kernel
theorem dX9_learnEqual_162 : decode cX9_learnEqual 162 = .ok (.ireturn, 1) := by decide +kernel
set_option maxHeartbeats 4000000 in
set_option maxRecDepth 100000 in
theorem c_MicRow_learnEqual (l : Launch) (G : fm_G) (N : Nat) (M : fm_M) (r : Int32) (M' : fm_M) (hf : pMicRow_learnEqual N M = some (r, M')) : fm_Met l yX9_learnEqual cX9_learnEqual 4 (some .int) { frames := 5, cells := 0, slots := 0, locals := 120 } shC G [.ref (G.2.1 0)] M (some (.int r)) M' := by
  refine fm_enter (by decide) (Nat.le_of_ble_eq_true rfl) ?_
  intro p e s m args below meth c ls C E hl
  have hl : lv_has ls 4 [(0, .ref (G.2.1 0))] := hl
  have L92 : ∀ (w92_v1 : Int32) (n92 : Nat) (v2 : Int32) (v3 : Int32) (M : fm_M) (H : Heap) (locs : List Loc) (ls : Array Slot), fm_Wd shC G M s H locs → lv_has ls 4 [(0, .ref (G.2.1 0)), (1, .int w92_v1), (2, .int v2), (3, .int v3)] → fm_lp (pMicRow_learnEqual_L92 N w92_v1) n92 (v2, v3, M) = some (r, M') → W p l e { frames := 5, cells := 0, slots := 0, locals := 120 } s m args below meth c H locs 0 0 (fm_Z below shC G args s (some (.int r)) M') (F0 m 92 ls []) := by
    intro w92_v1 n92
    induction n92 with
    | zero => intro v2 v3 M H locs ls E hl hf; exact fm_lp_0 hf
    | succ n92 ih92 =>
      intro v2 v3 M H locs ls E hl hf
      have hf : pMicRow_learnEqual_L92b N w92_v1 (fm_lp (pMicRow_learnEqual_L92 N w92_v1) n92) v2 v3 M = some (r, M') := hf
      unfold pMicRow_learnEqual_L92b at hf
      refine lv_iload_n C.1 C.2.1 dX9_learnEqual_92 rfl (lv_at hl 3 rfl) ?_
      refine lv_aload_n C.1 C.2.1 dX9_learnEqual_93 rfl (lv_at hl 0 rfl) ?_
      refine fm_getr C E lf_X9_10 hC_0 rfl dX9_learnEqual_94 ?_
      refine fm_geti C E lf_X9_284 hC_1 rfl dX9_learnEqual_97 ?_
      refine lv_icmp_ge (tgt := 161) C.1 C.2.1 dX9_learnEqual_100 (by decide) (fun hc100 => ?_) (fun hc100 => ?_)
      · have hf := fm_ip hf hc100
        refine lv_iload_n C.1 C.2.1 dX9_learnEqual_161 rfl (lv_at hl 2 rfl) ?_
        obtain ⟨rfl, rfl⟩ := fm_rt2 hf
        exact fm_iret C E rfl rfl dX9_learnEqual_162
      · have hf := fm_in' hf hc100
        refine lv_aload_n C.1 C.2.1 dX9_learnEqual_103 rfl (lv_at hl 0 rfl) ?_
        refine fm_getr C E lf_X9_71 hC_0 rfl dX9_learnEqual_104 ?_
        refine lv_iload_n C.1 C.2.1 dX9_learnEqual_107 rfl (lv_at hl 3 rfl) ?_
        refine lv_aload_n C.1 C.2.1 dX9_learnEqual_108 rfl (lv_at hl 0 rfl) ?_
        refine fm_getr C E lf_X9_10 hC_0 rfl dX9_learnEqual_109 ?_
        obtain ⟨x112, hc112, hf⟩ := fm_bd hf
        refine fm_callV C E [] [.int _, .ref _] lm_X9_208 wk_X7_begin (c_Scene_begin l G _ _  hc112) hC_1 rfl rfl rfl hl.1 (by simp [Value.category]) ⟨⟨rfl, rfl⟩, by decide, by decide⟩ ⟨by decide, by decide⟩ dX9_learnEqual_112 rfl (fun H locs E => ?_)
        refine W.eq (g2 := F0 m 115 ls (.int x112 :: [.int _, .ref _])) rfl ?_
        refine lv_aload_n C.1 C.2.1 dX9_learnEqual_115 rfl (lv_at hl 0 rfl) ?_
        refine fm_getr C E lf_X9_10 hC_0 rfl dX9_learnEqual_116 ?_
        obtain ⟨x119, hc119, hf⟩ := fm_bd hf
        refine fm_callV C E [] [.int _, .int _, .ref _] lm_X9_211 wk_X7_length (c_Scene_length l G _ _  hc119) hC_1 rfl rfl rfl hl.1 (by simp [Value.category]) ⟨⟨rfl, rfl⟩, by decide, by decide⟩ ⟨by decide, by decide⟩ dX9_learnEqual_119 rfl (fun H locs E => ?_)
        refine W.eq (g2 := F0 m 122 ls (.int x119 :: [.int _, .int _, .ref _])) rfl ?_
        obtain ⟨M122, hc122, hf⟩ := fm_bd hf
        refine fm_callV C E [.int _, .int _, .int _] [] lm_X9_214 wk_X0_hear (c_Bench_hear l G N _ _ _ _ _ hc122) hC_181 rfl rfl rfl hl.1 (by simp [Value.category]) ⟨⟨rfl, rfl⟩, by decide, by decide⟩ ⟨by decide, by decide⟩ dX9_learnEqual_122 rfl (fun H locs E => ?_)
        refine W.eq (g2 := F0 m 125 ls []) rfl ?_
        refine lv_aload_n C.1 C.2.1 dX9_learnEqual_125 rfl (lv_at hl 0 rfl) ?_
        refine fm_getr C E lf_X9_71 hC_0 rfl dX9_learnEqual_126 ?_
        obtain ⟨x129, hc129, hf⟩ := fm_bd hf
        refine fm_callV C E [] [] lm_X9_287 wk_X0_isQuiet (c_Bench_isQuiet l G N _ _  hc129) hC_181 rfl rfl rfl hl.1 (by simp [Value.category]) ⟨⟨rfl, rfl⟩, by decide, by decide⟩ ⟨by decide, by decide⟩ dX9_learnEqual_129 rfl (fun H locs E => ?_)
        refine W.eq (g2 := F0 m 132 ls (.int x129 :: [])) rfl ?_
        refine lv_if_ne (tgt := 155) C.1 C.2.1 dX9_learnEqual_132 (by decide) (fun hc132 => ?_) (fun hc132 => ?_)
        · have hf := fm_in' hf hc132
          refine fm_iinc C (v := 1) (lv' := [(3, .int _), (0, .ref _), (1, .int _), (2, .int _)]) (k := 3) hl rfl (by decide) (by decide) rfl dX9_learnEqual_155 (fun ls hl => ?_)
          refine lv_goto (tgt := 92) C.1 C.2.1 dX9_learnEqual_158 (by decide) ?_
          exact ih92 _ _ _ _ _ _ E (lv_sub hl [1, 2, 3, 0] rfl) hf
        · have hf := fm_ip hf hc132
          refine lv_aload_n C.1 C.2.1 dX9_learnEqual_135 rfl (lv_at hl 0 rfl) ?_
          refine fm_getr C E lf_X9_10 hC_0 rfl dX9_learnEqual_136 ?_
          refine lv_iload_n C.1 C.2.1 dX9_learnEqual_139 rfl (lv_at hl 3 rfl) ?_
          refine lv_iconst (v := 3) C.1 C.2.1 dX9_learnEqual_140 (by decide) ?_
          refine lv_aload_n C.1 C.2.1 dX9_learnEqual_141 rfl (lv_at hl 0 rfl) ?_
          refine lv_iload_n C.1 C.2.1 dX9_learnEqual_142 rfl (lv_at hl 1 rfl) ?_
          obtain ⟨x143, hc143, hf⟩ := fm_bd hf
          refine fm_callV C E [.int _] [.int _, .int _, .ref _] lm_X9_382 wk_X9_equalFor (c_MicRow_equalFor l G N _ _ _  hc143) hC_0 rfl rfl rfl hl.1 (by simp [Value.category]) ⟨⟨rfl, rfl⟩, by decide, by decide⟩ ⟨by decide, by decide⟩ dX9_learnEqual_143 rfl (fun H locs E => ?_)
          refine W.eq (g2 := F0 m 146 ls (.int x143 :: [.int _, .int _, .ref _])) rfl ?_
          obtain ⟨⟨x146, M146⟩, hc146, hf⟩ := fm_bd hf
          dsimp only at hf
          refine fm_callV C E [.int _, .int _, .int _] [] lm_X9_134 wk_X7_put (c_Scene_put l G _ _ _ _ _ _ hc146) hC_1 rfl rfl rfl hl.1 (by simp [Value.category]) ⟨⟨rfl, rfl⟩, by decide, by decide⟩ ⟨by decide, by decide⟩ dX9_learnEqual_146 rfl (fun H locs E => ?_)
          refine W.eq (g2 := F0 m 149 ls (.int x146 :: [])) rfl ?_
          refine lv_if_lt (tgt := 155) C.1 C.2.1 dX9_learnEqual_149 (by decide) (fun hc149 => ?_) (fun hc149 => ?_)
          · have hf := fm_ip hf hc149
            refine fm_iinc C (v := 1) (lv' := [(3, .int _), (0, .ref _), (1, .int _), (2, .int _)]) (k := 3) hl rfl (by decide) (by decide) rfl dX9_learnEqual_155 (fun ls hl => ?_)
            refine lv_goto (tgt := 92) C.1 C.2.1 dX9_learnEqual_158 (by decide) ?_
            exact ih92 _ _ _ _ _ _ E (lv_sub hl [1, 2, 3, 0] rfl) hf
          · have hf := fm_in' hf hc149
            refine fm_iinc C (v := 1) (lv' := [(2, .int _), (0, .ref _), (1, .int _), (3, .int _)]) (k := 2) hl rfl (by decide) (by decide) rfl dX9_learnEqual_152 (fun ls hl => ?_)
            refine fm_iinc C (v := 1) (lv' := [(3, .int _), (2, .int _), (0, .ref _), (1, .int _)]) (k := 3) hl rfl (by decide) (by decide) rfl dX9_learnEqual_155 (fun ls hl => ?_)
            refine lv_goto (tgt := 92) C.1 C.2.1 dX9_learnEqual_158 (by decide) ?_
            exact ih92 _ _ _ _ _ _ E (lv_sub hl [2, 3, 1, 0] rfl) hf
  have L12 : ∀ (n12 : Nat) (v1 : Int32) (v2 : Int32) (M : fm_M) (H : Heap) (locs : List Loc) (ls : Array Slot), fm_Wd shC G M s H locs → lv_has ls 4 [(0, .ref (G.2.1 0)), (1, .int v1), (2, .int v2)] → fm_lp (pMicRow_learnEqual_L12 N) n12 (v1, v2, M) = some (r, M') → W p l e { frames := 5, cells := 0, slots := 0, locals := 120 } s m args below meth c H locs 0 0 (fm_Z below shC G args s (some (.int r)) M') (F0 m 12 ls []) := by
    intro  n12
    induction n12 with
    | zero => intro v1 v2 M H locs ls E hl hf; exact fm_lp_0 hf
    | succ n12 ih12 =>
      intro v1 v2 M H locs ls E hl hf
      have hf : pMicRow_learnEqual_L12b N (fm_lp (pMicRow_learnEqual_L12 N) n12) v1 v2 M = some (r, M') := hf
      unfold pMicRow_learnEqual_L12b at hf
      refine lv_iload_n C.1 C.2.1 dX9_learnEqual_12 rfl (lv_at hl 2 rfl) ?_
      refine lv_aload_n C.1 C.2.1 dX9_learnEqual_13 rfl (lv_at hl 0 rfl) ?_
      refine fm_getr C E lf_X9_10 hC_0 rfl dX9_learnEqual_14 ?_
      refine fm_geti C E lf_X9_284 hC_1 rfl dX9_learnEqual_17 ?_
      refine lv_icmp_ge (tgt := 80) C.1 C.2.1 dX9_learnEqual_20 (by decide) (fun hc20 => ?_) (fun hc20 => ?_)
      · have hf := fm_ip hf hc20
        refine lv_iload_n C.1 C.2.1 dX9_learnEqual_80 rfl (lv_at hl 1 rfl) ?_
        refine lv_iconst (v := (-1)) C.1 C.2.1 dX9_learnEqual_81 (by decide) ?_
        refine lv_icmp_ne (tgt := 88) C.1 C.2.1 dX9_learnEqual_82 (by decide) (fun hc82 => ?_) (fun hc82 => ?_)
        · have hf := fm_in' hf hc82
          refine lv_iconst (v := 0) C.1 C.2.1 dX9_learnEqual_88 (by decide) ?_
          refine lv_istore_n (lv' := [(2, .int _), (0, .ref _), (1, .int _)]) C.1 C.2.1 dX9_learnEqual_89 rfl hl (by decide) rfl (fun ls hl => ?_)
          refine lv_iconst (v := 0) C.1 C.2.1 dX9_learnEqual_90 (by decide) ?_
          refine lv_istore_n (lv' := [(3, .int _), (2, .int _), (0, .ref _), (1, .int _)]) C.1 C.2.1 dX9_learnEqual_91 rfl hl (by decide) rfl (fun ls hl => ?_)
          exact L92 _ N _ _ _ _ _ _ E (lv_sub hl [2, 3, 1, 0] rfl) hf
        · have hf := fm_ip hf hc82
          refine lv_bipush (v := (-2)) C.1 C.2.1 dX9_learnEqual_85 (by decide) ?_
          obtain ⟨rfl, rfl⟩ := fm_rt2 hf
          exact fm_iret C E rfl rfl dX9_learnEqual_87
      · have hf := fm_in' hf hc20
        refine lv_aload_n C.1 C.2.1 dX9_learnEqual_23 rfl (lv_at hl 0 rfl) ?_
        refine fm_getr C E lf_X9_71 hC_0 rfl dX9_learnEqual_24 ?_
        refine lv_iload_n C.1 C.2.1 dX9_learnEqual_27 rfl (lv_at hl 2 rfl) ?_
        refine lv_aload_n C.1 C.2.1 dX9_learnEqual_28 rfl (lv_at hl 0 rfl) ?_
        refine fm_getr C E lf_X9_10 hC_0 rfl dX9_learnEqual_29 ?_
        obtain ⟨x32, hc32, hf⟩ := fm_bd hf
        refine fm_callV C E [] [.int _, .ref _] lm_X9_208 wk_X7_begin (c_Scene_begin l G _ _  hc32) hC_1 rfl rfl rfl hl.1 (by simp [Value.category]) ⟨⟨rfl, rfl⟩, by decide, by decide⟩ ⟨by decide, by decide⟩ dX9_learnEqual_32 rfl (fun H locs E => ?_)
        refine W.eq (g2 := F0 m 35 ls (.int x32 :: [.int _, .ref _])) rfl ?_
        refine lv_aload_n C.1 C.2.1 dX9_learnEqual_35 rfl (lv_at hl 0 rfl) ?_
        refine fm_getr C E lf_X9_10 hC_0 rfl dX9_learnEqual_36 ?_
        obtain ⟨x39, hc39, hf⟩ := fm_bd hf
        refine fm_callV C E [] [.int _, .int _, .ref _] lm_X9_211 wk_X7_length (c_Scene_length l G _ _  hc39) hC_1 rfl rfl rfl hl.1 (by simp [Value.category]) ⟨⟨rfl, rfl⟩, by decide, by decide⟩ ⟨by decide, by decide⟩ dX9_learnEqual_39 rfl (fun H locs E => ?_)
        refine W.eq (g2 := F0 m 42 ls (.int x39 :: [.int _, .int _, .ref _])) rfl ?_
        obtain ⟨M42, hc42, hf⟩ := fm_bd hf
        refine fm_callV C E [.int _, .int _, .int _] [] lm_X9_214 wk_X0_hear (c_Bench_hear l G N _ _ _ _ _ hc42) hC_181 rfl rfl rfl hl.1 (by simp [Value.category]) ⟨⟨rfl, rfl⟩, by decide, by decide⟩ ⟨by decide, by decide⟩ dX9_learnEqual_42 rfl (fun H locs E => ?_)
        refine W.eq (g2 := F0 m 45 ls []) rfl ?_
        refine lv_aload_n C.1 C.2.1 dX9_learnEqual_45 rfl (lv_at hl 0 rfl) ?_
        refine fm_getr C E lf_X9_71 hC_0 rfl dX9_learnEqual_46 ?_
        obtain ⟨x49, hc49, hf⟩ := fm_bd hf
        refine fm_callV C E [] [] lm_X9_287 wk_X0_isQuiet (c_Bench_isQuiet l G N _ _  hc49) hC_181 rfl rfl rfl hl.1 (by simp [Value.category]) ⟨⟨rfl, rfl⟩, by decide, by decide⟩ ⟨by decide, by decide⟩ dX9_learnEqual_49 rfl (fun H locs E => ?_)
        refine W.eq (g2 := F0 m 52 ls (.int x49 :: [])) rfl ?_
        refine lv_if_ne (tgt := 74) C.1 C.2.1 dX9_learnEqual_52 (by decide) (fun hc52 => ?_) (fun hc52 => ?_)
        · have hf := fm_in' hf hc52
          refine fm_iinc C (v := 1) (lv' := [(2, .int _), (0, .ref _), (1, .int _)]) (k := 2) hl rfl (by decide) (by decide) rfl dX9_learnEqual_74 (fun ls hl => ?_)
          refine lv_goto (tgt := 12) C.1 C.2.1 dX9_learnEqual_77 (by decide) ?_
          exact ih12 _ _ _ _ _ _ E (lv_sub hl [1, 2, 0] rfl) hf
        · have hf := fm_ip hf hc52
          refine lv_iload_n C.1 C.2.1 dX9_learnEqual_55 rfl (lv_at hl 1 rfl) ?_
          refine lv_aload_n C.1 C.2.1 dX9_learnEqual_56 rfl (lv_at hl 0 rfl) ?_
          refine fm_getr C E lf_X9_71 hC_0 rfl dX9_learnEqual_57 ?_
          refine lv_aload_n C.1 C.2.1 dX9_learnEqual_60 rfl (lv_at hl 0 rfl) ?_
          refine fm_getr C E lf_X9_71 hC_0 rfl dX9_learnEqual_61 ?_
          refine fm_getr C E lf_X9_217 hC_181 rfl dX9_learnEqual_64 ?_
          obtain ⟨x67, hc67, hf⟩ := fm_bd hf
          refine fm_callV C E [.ref _] [.int _] lm_X9_236 wk_X0_levelOf (c_Bench_levelOf l G N _ _ _  hc67) hC_181 rfl rfl rfl hl.1 (by simp [Value.category]) ⟨⟨rfl, rfl⟩, by decide, by decide⟩ ⟨by decide, by decide⟩ dX9_learnEqual_67 rfl (fun H locs E => ?_)
          refine W.eq (g2 := F0 m 70 ls (.int x67 :: [.int _])) rfl ?_
          refine fm_max C wv_max wm_454 hl.1 ⟨by decide, by decide⟩ (by simp [Value.category]) ⟨by decide, by decide⟩ dX9_learnEqual_70 ?_
          refine lv_istore_n (lv' := [(1, .int _), (0, .ref _), (2, .int _)]) C.1 C.2.1 dX9_learnEqual_73 rfl hl (by decide) rfl (fun ls hl => ?_)
          refine fm_iinc C (v := 1) (lv' := [(2, .int _), (1, .int _), (0, .ref _)]) (k := 2) hl rfl (by decide) (by decide) rfl dX9_learnEqual_74 (fun ls hl => ?_)
          refine lv_goto (tgt := 12) C.1 C.2.1 dX9_learnEqual_77 (by decide) ?_
          exact ih12 _ _ _ _ _ _ E (lv_sub hl [2, 1, 0] rfl) hf
  unfold pMicRow_learnEqual at hf
  refine lv_aload_n C.1 C.2.1 dX9_learnEqual_0 rfl (lv_at hl 0 rfl) ?_
  refine fm_getr C E lf_X9_62 hC_0 rfl dX9_learnEqual_1 ?_
  refine lv_iconst (v := (-1)) C.1 C.2.1 dX9_learnEqual_4 (by decide) ?_
  obtain ⟨M5, hc5, hf⟩ := fm_bd hf
  refine fm_callV C E [.int _] [] lm_X9_150 wk_X3_listenTo (c_Ears_listenTo l G _ _ _ hc5) hC_178 rfl rfl rfl hl.1 (by simp [Value.category]) ⟨⟨rfl, rfl⟩, by decide, by decide⟩ ⟨by decide, by decide⟩ dX9_learnEqual_5 rfl (fun H locs E => ?_)
  refine W.eq (g2 := F0 m 8 ls []) rfl ?_
  refine lv_iconst (v := (-1)) C.1 C.2.1 dX9_learnEqual_8 (by decide) ?_
  refine lv_istore_n (lv' := [(1, .int _), (0, .ref _)]) C.1 C.2.1 dX9_learnEqual_9 rfl hl (by decide) rfl (fun ls hl => ?_)
  refine lv_iconst (v := 0) C.1 C.2.1 dX9_learnEqual_10 (by decide) ?_
  refine lv_istore_n (lv' := [(2, .int _), (1, .int _), (0, .ref _)]) C.1 C.2.1 dX9_learnEqual_11 rfl hl (by decide) rfl (fun ls hl => ?_)
  exact L12  N _ _ _ _ _ _ E (lv_sub hl [2, 1, 0] rfl) hf
theorem dX9_sortOut_0 : decode cX9_sortOut 0 = .ok (.iload_n 1, 1) := by decide +kernel
theorem dX9_sortOut_1 : decode cX9_sortOut 1 = .ok (.iconst 1, 1) := by decide +kernel
theorem dX9_sortOut_2 : decode cX9_sortOut 2 = .ok (.bipush 48, 2) := by decide +kernel
theorem dX9_sortOut_4 : decode cX9_sortOut 4 = .ok (.invokestatic 112, 3) := by decide +kernel
theorem dX9_sortOut_7 : decode cX9_sortOut 7 = .ok (.ifCond .ne 5, 3) := by decide +kernel
theorem dX9_sortOut_10 : decode cX9_sortOut 10 = .ok (.iconst (-1), 1) := by decide +kernel
theorem dX9_sortOut_11 : decode cX9_sortOut 11 = .ok (.ireturn, 1) := by decide +kernel
theorem dX9_sortOut_12 : decode cX9_sortOut 12 = .ok (.aload_n 0, 1) := by decide +kernel
theorem dX9_sortOut_13 : decode cX9_sortOut 13 = .ok (.getfield 62, 3) := by decide +kernel
theorem dX9_sortOut_16 : decode cX9_sortOut 16 = .ok (.iconst (-1), 1) := by decide +kernel
theorem dX9_sortOut_17 : decode cX9_sortOut 17 = .ok (.invokevirtual 150, 3) := by decide +kernel
theorem dX9_sortOut_20 : decode cX9_sortOut 20 = .ok (.iconst 0, 1) := by decide +kernel
theorem dX9_sortOut_21 : decode cX9_sortOut 21 = .ok (.istore_n 2, 1) := by decide +kernel
theorem dX9_sortOut_22 : decode cX9_sortOut 22 = .ok (.iconst 0, 1) := by decide +kernel
theorem dX9_sortOut_23 : decode cX9_sortOut 23 = .ok (.istore_n 3, 1) := by decide +kernel
theorem dX9_sortOut_24 : decode cX9_sortOut 24 = .ok (.iload_n 3, 1) := by decide +kernel
theorem dX9_sortOut_25 : decode cX9_sortOut 25 = .ok (.aload_n 0, 1) := by decide +kernel
theorem dX9_sortOut_26 : decode cX9_sortOut 26 = .ok (.getfield 10, 3) := by decide +kernel
theorem dX9_sortOut_29 : decode cX9_sortOut 29 = .ok (.getfield 284, 3) := by decide +kernel
theorem dX9_sortOut_32 : decode cX9_sortOut 32 = .ok (.if_icmp .ge 83, 3) := by decide +kernel
theorem dX9_sortOut_35 : decode cX9_sortOut 35 = .ok (.aload_n 0, 1) := by decide +kernel
theorem dX9_sortOut_36 : decode cX9_sortOut 36 = .ok (.getfield 71, 3) := by decide +kernel
theorem dX9_sortOut_39 : decode cX9_sortOut 39 = .ok (.iload_n 3, 1) := by decide +kernel
theorem dX9_sortOut_40 : decode cX9_sortOut 40 = .ok (.aload_n 0, 1) := by decide +kernel
theorem dX9_sortOut_41 : decode cX9_sortOut 41 = .ok (.getfield 10, 3) := by decide +kernel
theorem dX9_sortOut_44 : decode cX9_sortOut 44 = .ok (.invokevirtual 208, 3) := by decide +kernel
theorem dX9_sortOut_47 : decode cX9_sortOut 47 = .ok (.aload_n 0, 1) := by decide +kernel
theorem dX9_sortOut_48 : decode cX9_sortOut 48 = .ok (.getfield 10, 3) := by decide +kernel
theorem dX9_sortOut_51 : decode cX9_sortOut 51 = .ok (.invokevirtual 211, 3) := by decide +kernel
theorem dX9_sortOut_54 : decode cX9_sortOut 54 = .ok (.invokevirtual 214, 3) := by decide +kernel
theorem dX9_sortOut_57 : decode cX9_sortOut 57 = .ok (.aload_n 0, 1) := by decide +kernel
theorem dX9_sortOut_58 : decode cX9_sortOut 58 = .ok (.getfield 71, 3) := by decide +kernel
theorem dX9_sortOut_61 : decode cX9_sortOut 61 = .ok (.invokevirtual 287, 3) := by decide +kernel
theorem dX9_sortOut_64 : decode cX9_sortOut 64 = .ok (.ifCond .ne 14, 3) := by decide +kernel
theorem dX9_sortOut_67 : decode cX9_sortOut 67 = .ok (.aload_n 0, 1) := by decide +kernel
theorem dX9_sortOut_68 : decode cX9_sortOut 68 = .ok (.getfield 71, 3) := by decide +kernel
theorem dX9_sortOut_71 : decode cX9_sortOut 71 = .ok (.invokevirtual 291, 3) := by decide +kernel
theorem dX9_sortOut_74 : decode cX9_sortOut 74 = .ok (.iload_n 1, 1) := by decide +kernel
theorem dX9_sortOut_75 : decode cX9_sortOut 75 = .ok (.if_icmp .lt 7, 3) := by decide +kernel
theorem dX9_sortOut_78 : decode cX9_sortOut 78 = .ok (.iconst 1, 1) := by decide +kernel
theorem dX9_sortOut_79 : decode cX9_sortOut 79 = .ok (.goto 4, 3) := by decide +kernel
theorem dX9_sortOut_82 : decode cX9_sortOut 82 = .ok (.iconst 0, 1) := by decide +kernel
theorem dX9_sortOut_83 : decode cX9_sortOut 83 = .ok (.istore 4, 2) := by decide +kernel
theorem dX9_sortOut_85 : decode cX9_sortOut 85 = .ok (.aload_n 0, 1) := by decide +kernel
theorem dX9_sortOut_86 : decode cX9_sortOut 86 = .ok (.getfield 10, 3) := by decide +kernel
theorem dX9_sortOut_89 : decode cX9_sortOut 89 = .ok (.iload_n 3, 1) := by decide +kernel
theorem dX9_sortOut_90 : decode cX9_sortOut 90 = .ok (.iconst 5, 1) := by decide +kernel
theorem dX9_sortOut_91 : decode cX9_sortOut 91 = .ok (.iload 4, 2) := by decide +kernel
theorem dX9_sortOut_93 : decode cX9_sortOut 93 = .ok (.ifCond .eq 7, 3) := by decide +kernel
theorem dX9_sortOut_96 : decode cX9_sortOut 96 = .ok (.iconst 1, 1) := by decide +kernel
theorem dX9_sortOut_97 : decode cX9_sortOut 97 = .ok (.goto 4, 3) := by decide +kernel
theorem dX9_sortOut_100 : decode cX9_sortOut 100 = .ok (.iconst 0, 1) := by decide +kernel
theorem dX9_sortOut_101 : decode cX9_sortOut 101 = .ok (.invokevirtual 134, 3) := by decide +kernel
theorem dX9_sortOut_104 : decode cX9_sortOut 104 = .ok (.ifCond .lt 5, 3) := by decide +kernel
theorem dX9_sortOut_107 : decode cX9_sortOut 107 = .ok (.iconst 1, 1) := by decide +kernel
theorem dX9_sortOut_108 : decode cX9_sortOut 108 = .ok (.istore_n 2, 1) := by decide +kernel
theorem dX9_sortOut_109 : decode cX9_sortOut 109 = .ok (.iinc 3 1, 3) := by decide +kernel
theorem dX9_sortOut_112 : decode cX9_sortOut 112 = .ok (.goto (-88), 3) := by decide +kernel
theorem dX9_sortOut_115 : decode cX9_sortOut 115 = .ok (.iload_n 2, 1) := by decide +kernel
theorem dX9_sortOut_116 : decode cX9_sortOut 116 = .ok (.ifCond .eq 21, 3) := by decide +kernel
theorem dX9_sortOut_119 : decode cX9_sortOut 119 = .ok (.aload_n 0, 1) := by decide +kernel
theorem dX9_sortOut_120 : decode cX9_sortOut 120 = .ok (.getfield 10, 3) := by decide +kernel
theorem dX9_sortOut_123 : decode cX9_sortOut 123 = .ok (.getfield 284, 3) := by decide +kernel
theorem dX9_sortOut_126 : decode cX9_sortOut 126 = .ok (.aload_n 0, 1) := by decide +kernel
theorem dX9_sortOut_127 : decode cX9_sortOut 127 = .ok (.getfield 10, 3) := by decide +kernel
theorem dX9_sortOut_130 : decode cX9_sortOut 130 = .ok (.invokevirtual 266, 3) := by decide +kernel
theorem dX9_sortOut_133 : decode cX9_sortOut 133 = .ok (.isub, 1) := by decide +kernel
theorem dX9_sortOut_134 : decode cX9_sortOut 134 = .ok (.goto 5, 3) := by decide +kernel
theorem dX9_sortOut_137 : decode cX9_sortOut 137 = .ok (.bipush (-2), 2) := by decide +kernel
theorem dX9_sortOut_139 : decode cX9_sortOut 139 = .ok (.ireturn, 1) := by decide +kernel
set_option maxHeartbeats 4000000 in
set_option maxRecDepth 100000 in
theorem c_MicRow_sortOut (l : Launch) (G : fm_G) (N : Nat) (M : fm_M) (v1 : Int32) (r : Int32) (M' : fm_M) (hf : pMicRow_sortOut N M v1 = some (r, M')) : fm_Met l yX9_sortOut cX9_sortOut 5 (some .int) { frames := 5, cells := 0, slots := 0, locals := 120 } shC G [.ref (G.2.1 0), .int v1] M (some (.int r)) M' := by
  refine fm_enter (by decide) (Nat.le_of_ble_eq_true rfl) ?_
  intro p e s m args below meth c ls C E hl
  have hl : lv_has ls 5 [(0, .ref (G.2.1 0)), (1, .int v1)] := hl
  have L24 : ∀ (w24_v1 : Int32) (n24 : Nat) (v2 : Int32) (v3 : Int32) (M : fm_M) (H : Heap) (locs : List Loc) (ls : Array Slot), fm_Wd shC G M s H locs → lv_has ls 5 [(0, .ref (G.2.1 0)), (1, .int w24_v1), (2, .int v2), (3, .int v3)] → fm_lp (pMicRow_sortOut_L24 N w24_v1) n24 (v2, v3, M) = some (r, M') → W p l e { frames := 5, cells := 0, slots := 0, locals := 120 } s m args below meth c H locs 0 0 (fm_Z below shC G args s (some (.int r)) M') (F0 m 24 ls []) := by
    intro w24_v1 n24
    induction n24 with
    | zero => intro v2 v3 M H locs ls E hl hf; exact fm_lp_0 hf
    | succ n24 ih24 =>
      have J101 : ∀ (M : fm_M) (v2 : Int32) (v3 : Int32) (s1 : Int32) (s2 : Int32) (s3 : Int32) (H : Heap) (locs : List Loc) (ls : Array Slot), fm_Wd shC G M s H locs → lv_has ls 5 [(0, .ref (G.2.1 0)), (1, .int w24_v1), (2, .int v2), (3, .int v3)] → pMicRow_sortOut_J101 N M w24_v1 v2 v3 (fm_lp (pMicRow_sortOut_L24 N w24_v1) n24) s1 s2 s3 = some (r, M') → W p l e { frames := 5, cells := 0, slots := 0, locals := 120 } s m args below meth c H locs 0 0 (fm_Z below shC G args s (some (.int r)) M') (F0 m 101 ls [.int s3, .int s2, .int s1, .ref (G.2.1 1)]) := by
        intro M v2 v3 s1 s2 s3 H locs ls E hl hf
        unfold pMicRow_sortOut_J101 at hf
        obtain ⟨⟨x101, M101⟩, hc101, hf⟩ := fm_bd hf
        dsimp only at hf
        refine fm_callV C E [.int _, .int _, .int _] [] lm_X9_134 wk_X7_put (c_Scene_put l G _ _ _ _ _ _ hc101) hC_1 rfl rfl rfl hl.1 (by simp [Value.category]) ⟨⟨rfl, rfl⟩, by decide, by decide⟩ ⟨by decide, by decide⟩ dX9_sortOut_101 rfl (fun H locs E => ?_)
        refine W.eq (g2 := F0 m 104 ls (.int x101 :: [])) rfl ?_
        refine lv_if_lt (tgt := 109) C.1 C.2.1 dX9_sortOut_104 (by decide) (fun hc104 => ?_) (fun hc104 => ?_)
        · have hf := fm_ip hf hc104
          refine fm_iinc C (v := 1) (lv' := [(3, .int _), (0, .ref _), (1, .int _), (2, .int _)]) (k := 3) hl rfl (by decide) (by decide) rfl dX9_sortOut_109 (fun ls hl => ?_)
          refine lv_goto (tgt := 24) C.1 C.2.1 dX9_sortOut_112 (by decide) ?_
          exact ih24 _ _ _ _ _ _ E (lv_sub hl [1, 2, 3, 0] rfl) hf
        · have hf := fm_in' hf hc104
          refine lv_iconst (v := 1) C.1 C.2.1 dX9_sortOut_107 (by decide) ?_
          refine lv_istore_n (lv' := [(2, .int _), (0, .ref _), (1, .int _), (3, .int _)]) C.1 C.2.1 dX9_sortOut_108 rfl hl (by decide) rfl (fun ls hl => ?_)
          refine fm_iinc C (v := 1) (lv' := [(3, .int _), (2, .int _), (0, .ref _), (1, .int _)]) (k := 3) hl rfl (by decide) (by decide) rfl dX9_sortOut_109 (fun ls hl => ?_)
          refine lv_goto (tgt := 24) C.1 C.2.1 dX9_sortOut_112 (by decide) ?_
          exact ih24 _ _ _ _ _ _ E (lv_sub hl [2, 3, 1, 0] rfl) hf
      have J83 : ∀ (M : fm_M) (v2 : Int32) (v3 : Int32) (s0 : Int32) (H : Heap) (locs : List Loc) (ls : Array Slot), fm_Wd shC G M s H locs → lv_has ls 5 [(0, .ref (G.2.1 0)), (1, .int w24_v1), (2, .int v2), (3, .int v3)] → pMicRow_sortOut_J83 N M w24_v1 v2 v3 (fm_lp (pMicRow_sortOut_L24 N w24_v1) n24) s0 = some (r, M') → W p l e { frames := 5, cells := 0, slots := 0, locals := 120 } s m args below meth c H locs 0 0 (fm_Z below shC G args s (some (.int r)) M') (F0 m 83 ls [.int s0]) := by
        intro M v2 v3 s0 H locs ls E hl hf
        unfold pMicRow_sortOut_J83 at hf
        refine lv_istore (lv' := [(4, .int _), (0, .ref _), (1, .int _), (2, .int _), (3, .int _)]) C.1 C.2.1 dX9_sortOut_83 hl (by decide) rfl (fun ls hl => ?_)
        refine lv_aload_n C.1 C.2.1 dX9_sortOut_85 rfl (lv_at hl 1 rfl) ?_
        refine fm_getr C E lf_X9_10 hC_0 rfl dX9_sortOut_86 ?_
        refine lv_iload_n C.1 C.2.1 dX9_sortOut_89 rfl (lv_at hl 4 rfl) ?_
        refine lv_iconst (v := 5) C.1 C.2.1 dX9_sortOut_90 (by decide) ?_
        refine lv_iload C.1 C.2.1 dX9_sortOut_91 (lv_at hl 0 rfl) ?_
        refine lv_if_eq (tgt := 100) C.1 C.2.1 dX9_sortOut_93 (by decide) (fun hc93 => ?_) (fun hc93 => ?_)
        · have hf := fm_ip hf hc93
          refine lv_iconst (v := 0) C.1 C.2.1 dX9_sortOut_100 (by decide) ?_
          exact J101 _ _ _ _ _ _ _ _ _ E (lv_sub hl [1, 2, 3, 4] rfl) hf
        · have hf := fm_in' hf hc93
          refine lv_iconst (v := 1) C.1 C.2.1 dX9_sortOut_96 (by decide) ?_
          refine lv_goto (tgt := 101) C.1 C.2.1 dX9_sortOut_97 (by decide) ?_
          exact J101 _ _ _ _ _ _ _ _ _ E (lv_sub hl [1, 2, 3, 4] rfl) hf
      have J78 : ∀ (M : fm_M) (v2 : Int32) (v3 : Int32) (H : Heap) (locs : List Loc) (ls : Array Slot), fm_Wd shC G M s H locs → lv_has ls 5 [(0, .ref (G.2.1 0)), (1, .int w24_v1), (2, .int v2), (3, .int v3)] → pMicRow_sortOut_J78 N M w24_v1 v2 v3 (fm_lp (pMicRow_sortOut_L24 N w24_v1) n24) = some (r, M') → W p l e { frames := 5, cells := 0, slots := 0, locals := 120 } s m args below meth c H locs 0 0 (fm_Z below shC G args s (some (.int r)) M') (F0 m 78 ls []) := by
        intro M v2 v3 H locs ls E hl hf
        unfold pMicRow_sortOut_J78 at hf
        refine lv_iconst (v := 1) C.1 C.2.1 dX9_sortOut_78 (by decide) ?_
        refine lv_goto (tgt := 83) C.1 C.2.1 dX9_sortOut_79 (by decide) ?_
        exact J83 _ _ _ _ _ _ _ E (lv_sub hl [0, 1, 2, 3] rfl) hf
      intro v2 v3 M H locs ls E hl hf
      have hf : pMicRow_sortOut_L24b N w24_v1 (fm_lp (pMicRow_sortOut_L24 N w24_v1) n24) v2 v3 M = some (r, M') := hf
      unfold pMicRow_sortOut_L24b at hf
      refine lv_iload_n C.1 C.2.1 dX9_sortOut_24 rfl (lv_at hl 3 rfl) ?_
      refine lv_aload_n C.1 C.2.1 dX9_sortOut_25 rfl (lv_at hl 0 rfl) ?_
      refine fm_getr C E lf_X9_10 hC_0 rfl dX9_sortOut_26 ?_
      refine fm_geti C E lf_X9_284 hC_1 rfl dX9_sortOut_29 ?_
      refine lv_icmp_ge (tgt := 115) C.1 C.2.1 dX9_sortOut_32 (by decide) (fun hc32 => ?_) (fun hc32 => ?_)
      · have hf := fm_ip hf hc32
        refine lv_iload_n C.1 C.2.1 dX9_sortOut_115 rfl (lv_at hl 2 rfl) ?_
        refine lv_if_eq (tgt := 137) C.1 C.2.1 dX9_sortOut_116 (by decide) (fun hc116 => ?_) (fun hc116 => ?_)
        · have hf := fm_ip hf hc116
          refine lv_bipush (v := (-2)) C.1 C.2.1 dX9_sortOut_137 (by decide) ?_
          obtain ⟨rfl, rfl⟩ := fm_rt2 hf
          exact fm_iret C E rfl rfl dX9_sortOut_139
        · have hf := fm_in' hf hc116
          refine lv_aload_n C.1 C.2.1 dX9_sortOut_119 rfl (lv_at hl 0 rfl) ?_
          refine fm_getr C E lf_X9_10 hC_0 rfl dX9_sortOut_120 ?_
          refine fm_geti C E lf_X9_284 hC_1 rfl dX9_sortOut_123 ?_
          refine lv_aload_n C.1 C.2.1 dX9_sortOut_126 rfl (lv_at hl 0 rfl) ?_
          refine fm_getr C E lf_X9_10 hC_0 rfl dX9_sortOut_127 ?_
          obtain ⟨x130, hc130, hf⟩ := fm_bd hf
          refine fm_callV C E [] [.int _] lm_X9_266 wk_X7_liveCount (c_Scene_liveCount l G N _ _  hc130) hC_1 rfl rfl rfl hl.1 (by simp [Value.category]) ⟨⟨rfl, rfl⟩, by decide, by decide⟩ ⟨by decide, by decide⟩ dX9_sortOut_130 rfl (fun H locs E => ?_)
          refine W.eq (g2 := F0 m 133 ls (.int x130 :: [.int _])) rfl ?_
          refine lv_isub C.1 C.2.1 dX9_sortOut_133 ?_
          refine lv_goto (tgt := 139) C.1 C.2.1 dX9_sortOut_134 (by decide) ?_
          obtain ⟨rfl, rfl⟩ := fm_rt2 hf
          exact fm_iret C E rfl rfl dX9_sortOut_139
      · have hf := fm_in' hf hc32
        refine lv_aload_n C.1 C.2.1 dX9_sortOut_35 rfl (lv_at hl 0 rfl) ?_
        refine fm_getr C E lf_X9_71 hC_0 rfl dX9_sortOut_36 ?_
        refine lv_iload_n C.1 C.2.1 dX9_sortOut_39 rfl (lv_at hl 3 rfl) ?_
        refine lv_aload_n C.1 C.2.1 dX9_sortOut_40 rfl (lv_at hl 0 rfl) ?_
        refine fm_getr C E lf_X9_10 hC_0 rfl dX9_sortOut_41 ?_
        obtain ⟨x44, hc44, hf⟩ := fm_bd hf
        refine fm_callV C E [] [.int _, .ref _] lm_X9_208 wk_X7_begin (c_Scene_begin l G _ _  hc44) hC_1 rfl rfl rfl hl.1 (by simp [Value.category]) ⟨⟨rfl, rfl⟩, by decide, by decide⟩ ⟨by decide, by decide⟩ dX9_sortOut_44 rfl (fun H locs E => ?_)
        refine W.eq (g2 := F0 m 47 ls (.int x44 :: [.int _, .ref _])) rfl ?_
        refine lv_aload_n C.1 C.2.1 dX9_sortOut_47 rfl (lv_at hl 0 rfl) ?_
        refine fm_getr C E lf_X9_10 hC_0 rfl dX9_sortOut_48 ?_
        obtain ⟨x51, hc51, hf⟩ := fm_bd hf
        refine fm_callV C E [] [.int _, .int _, .ref _] lm_X9_211 wk_X7_length (c_Scene_length l G _ _  hc51) hC_1 rfl rfl rfl hl.1 (by simp [Value.category]) ⟨⟨rfl, rfl⟩, by decide, by decide⟩ ⟨by decide, by decide⟩ dX9_sortOut_51 rfl (fun H locs E => ?_)
        refine W.eq (g2 := F0 m 54 ls (.int x51 :: [.int _, .int _, .ref _])) rfl ?_
        obtain ⟨M54, hc54, hf⟩ := fm_bd hf
        refine fm_callV C E [.int _, .int _, .int _] [] lm_X9_214 wk_X0_hear (c_Bench_hear l G N _ _ _ _ _ hc54) hC_181 rfl rfl rfl hl.1 (by simp [Value.category]) ⟨⟨rfl, rfl⟩, by decide, by decide⟩ ⟨by decide, by decide⟩ dX9_sortOut_54 rfl (fun H locs E => ?_)
        refine W.eq (g2 := F0 m 57 ls []) rfl ?_
        refine lv_aload_n C.1 C.2.1 dX9_sortOut_57 rfl (lv_at hl 0 rfl) ?_
        refine fm_getr C E lf_X9_71 hC_0 rfl dX9_sortOut_58 ?_
        obtain ⟨x61, hc61, hf⟩ := fm_bd hf
        refine fm_callV C E [] [] lm_X9_287 wk_X0_isQuiet (c_Bench_isQuiet l G N _ _  hc61) hC_181 rfl rfl rfl hl.1 (by simp [Value.category]) ⟨⟨rfl, rfl⟩, by decide, by decide⟩ ⟨by decide, by decide⟩ dX9_sortOut_61 rfl (fun H locs E => ?_)
        refine W.eq (g2 := F0 m 64 ls (.int x61 :: [])) rfl ?_
        refine lv_if_ne (tgt := 78) C.1 C.2.1 dX9_sortOut_64 (by decide) (fun hc64 => ?_) (fun hc64 => ?_)
        · have hf := fm_in' hf hc64
          exact J78 _ _ _ _ _ _ E (lv_sub hl [0, 1, 2, 3] rfl) hf
        · have hf := fm_ip hf hc64
          refine lv_aload_n C.1 C.2.1 dX9_sortOut_67 rfl (lv_at hl 0 rfl) ?_
          refine fm_getr C E lf_X9_71 hC_0 rfl dX9_sortOut_68 ?_
          obtain ⟨x71, hc71, hf⟩ := fm_bd hf
          refine fm_callV C E [] [] lm_X9_291 wk_X0_clips (c_Bench_clips l G N _ _  hc71) hC_181 rfl rfl rfl hl.1 (by simp [Value.category]) ⟨⟨rfl, rfl⟩, by decide, by decide⟩ ⟨by decide, by decide⟩ dX9_sortOut_71 rfl (fun H locs E => ?_)
          refine W.eq (g2 := F0 m 74 ls (.int x71 :: [])) rfl ?_
          refine lv_iload_n C.1 C.2.1 dX9_sortOut_74 rfl (lv_at hl 1 rfl) ?_
          refine lv_icmp_lt (tgt := 82) C.1 C.2.1 dX9_sortOut_75 (by decide) (fun hc75 => ?_) (fun hc75 => ?_)
          · have hf := fm_ip hf hc75
            refine lv_iconst (v := 0) C.1 C.2.1 dX9_sortOut_82 (by decide) ?_
            exact J83 _ _ _ _ _ _ _ E (lv_sub hl [0, 1, 2, 3] rfl) hf
          · have hf := fm_in' hf hc75
            exact J78 _ _ _ _ _ _ E (lv_sub hl [0, 1, 2, 3] rfl) hf
  unfold pMicRow_sortOut at hf
  refine lv_iload_n C.1 C.2.1 dX9_sortOut_0 rfl (lv_at hl 1 rfl) ?_
  refine lv_iconst (v := 1) C.1 C.2.1 dX9_sortOut_1 (by decide) ?_
  refine lv_bipush (v := 48) C.1 C.2.1 dX9_sortOut_2 (by decide) ?_
  obtain ⟨x4, hc4, hf⟩ := fm_bd hf
  refine fm_callS C E [.int _, .int _, .int _] [] lm_X9_112 wk_X9_within (c_MicRow_within l G _ _ _ _ _  hc4) rfl hl.1 (by simp [Value.category]) ⟨⟨rfl, rfl⟩, by decide, by decide⟩ ⟨by decide, by decide⟩ dX9_sortOut_4 rfl (fun H locs E => ?_)
  refine W.eq (g2 := F0 m 7 ls (.int x4 :: [])) rfl ?_
  refine lv_if_ne (tgt := 12) C.1 C.2.1 dX9_sortOut_7 (by decide) (fun hc7 => ?_) (fun hc7 => ?_)
  · have hf := fm_in' hf hc7
    refine lv_aload_n C.1 C.2.1 dX9_sortOut_12 rfl (lv_at hl 0 rfl) ?_
    refine fm_getr C E lf_X9_62 hC_0 rfl dX9_sortOut_13 ?_
    refine lv_iconst (v := (-1)) C.1 C.2.1 dX9_sortOut_16 (by decide) ?_
    obtain ⟨M17, hc17, hf⟩ := fm_bd hf
    refine fm_callV C E [.int _] [] lm_X9_150 wk_X3_listenTo (c_Ears_listenTo l G _ _ _ hc17) hC_178 rfl rfl rfl hl.1 (by simp [Value.category]) ⟨⟨rfl, rfl⟩, by decide, by decide⟩ ⟨by decide, by decide⟩ dX9_sortOut_17 rfl (fun H locs E => ?_)
    refine W.eq (g2 := F0 m 20 ls []) rfl ?_
    refine lv_iconst (v := 0) C.1 C.2.1 dX9_sortOut_20 (by decide) ?_
    refine lv_istore_n (lv' := [(2, .int _), (0, .ref _), (1, .int _)]) C.1 C.2.1 dX9_sortOut_21 rfl hl (by decide) rfl (fun ls hl => ?_)
    refine lv_iconst (v := 0) C.1 C.2.1 dX9_sortOut_22 (by decide) ?_
    refine lv_istore_n (lv' := [(3, .int _), (2, .int _), (0, .ref _), (1, .int _)]) C.1 C.2.1 dX9_sortOut_23 rfl hl (by decide) rfl (fun ls hl => ?_)
    exact L24 _ N _ _ _ _ _ _ E (lv_sub hl [2, 3, 1, 0] rfl) hf
  · have hf := fm_ip hf hc7
    refine lv_iconst (v := (-1)) C.1 C.2.1 dX9_sortOut_10 (by decide) ?_
    obtain ⟨rfl, rfl⟩ := fm_rt2 hf
    exact fm_iret C E rfl rfl dX9_sortOut_11
theorem dX10_readAct_0 : decode cX10_readAct 0 = .ok (.aload_n 0, 1) := by decide +kernel
theorem dX10_readAct_1 : decode cX10_readAct 1 = .ok (.invokevirtual 103, 3) := by decide +kernel
theorem dX10_readAct_4 : decode cX10_readAct 4 = .ok (.istore_n 2, 1) := by decide +kernel
theorem dX10_readAct_5 : decode cX10_readAct 5 = .ok (.iload_n 2, 1) := by decide +kernel
theorem dX10_readAct_6 : decode cX10_readAct 6 = .ok (.iconst (-1), 1) := by decide +kernel
theorem dX10_readAct_7 : decode cX10_readAct 7 = .ok (.if_icmp .eq 14, 3) := by decide +kernel
theorem dX10_readAct_10 : decode cX10_readAct 10 = .ok (.ldc_w 315, 3) := by decide +kernel
theorem dX10_readAct_13 : decode cX10_readAct 13 = .ok (.iload_n 2, 1) := by decide +kernel
theorem dX10_readAct_14 : decode cX10_readAct 14 = .ok (.i2c, 1) := by decide +kernel
theorem dX10_readAct_15 : decode cX10_readAct 15 = .ok (.invokevirtual 317, 3) := by decide +kernel
theorem dX10_readAct_18 : decode cX10_readAct 18 = .ok (.ifCond .ge 12, 3) := by decide +kernel
theorem dX10_readAct_21 : decode cX10_readAct 21 = .ok (.aload_n 0, 1) := by decide +kernel
theorem dX10_readAct_22 : decode cX10_readAct 22 = .ok (.aload_n 0, 1) := by decide +kernel
theorem dX10_readAct_23 : decode cX10_readAct 23 = .ok (.getfield 93, 3) := by decide +kernel
theorem dX10_readAct_26 : decode cX10_readAct 26 = .ok (.invokevirtual 107, 3) := by decide +kernel
theorem dX10_readAct_29 : decode cX10_readAct 29 = .ok (.return_, 1) := by decide +kernel
theorem dX10_readAct_30 : decode cX10_readAct 30 = .ok (.aload_n 0, 1) := by decide +kernel
theorem dX10_readAct_31 : decode cX10_readAct 31 = .ok (.dup, 1) := by decide +kernel
theorem dX10_readAct_32 : decode cX10_readAct 32 = .ok (.getfield 93, 3) := by decide +kernel
theorem dX10_readAct_35 : decode cX10_readAct 35 = .ok (.iconst 1, 1) := by decide +kernel
theorem dX10_readAct_36 : decode cX10_readAct 36 = .ok (.iadd, 1) := by decide +kernel
theorem dX10_readAct_37 : decode cX10_readAct 37 = .ok (.putfield 93, 3) := by decide +kernel
theorem dX10_readAct_40 : decode cX10_readAct 40 = .ok (.aload_n 0, 1) := by decide +kernel
theorem dX10_readAct_41 : decode cX10_readAct 41 = .ok (.getfield 21, 3) := by decide +kernel
theorem dX10_readAct_44 : decode cX10_readAct 44 = .ok (.iload_n 1, 1) := by decide +kernel
theorem dX10_readAct_45 : decode cX10_readAct 45 = .ok (.iload_n 2, 1) := by decide +kernel
theorem dX10_readAct_46 : decode cX10_readAct 46 = .ok (.iastore, 1) := by decide +kernel
theorem dX10_readAct_47 : decode cX10_readAct 47 = .ok (.iload_n 2, 1) := by decide +kernel
theorem dX10_readAct_48 : decode cX10_readAct 48 = .ok (.bipush 108, 2) := by decide +kernel
theorem dX10_readAct_50 : decode cX10_readAct 50 = .ok (.if_icmp .ne 4, 3) := by decide +kernel
theorem dX10_readAct_53 : decode cX10_readAct 53 = .ok (.return_, 1) := by decide +kernel
theorem dX10_readAct_54 : decode cX10_readAct 54 = .ok (.aload_n 0, 1) := by decide +kernel
theorem dX10_readAct_55 : decode cX10_readAct 55 = .ok (.getfield 21, 3) := by decide +kernel
theorem dX10_readAct_58 : decode cX10_readAct 58 = .ok (.iload_n 1, 1) := by decide +kernel
theorem dX10_readAct_59 : decode cX10_readAct 59 = .ok (.iconst 1, 1) := by decide +kernel
theorem dX10_readAct_60 : decode cX10_readAct 60 = .ok (.iadd, 1) := by decide +kernel
theorem dX10_readAct_61 : decode cX10_readAct 61 = .ok (.aload_n 0, 1) := by decide +kernel
theorem dX10_readAct_62 : decode cX10_readAct 62 = .ok (.iload_n 2, 1) := by decide +kernel
theorem dX10_readAct_63 : decode cX10_readAct 63 = .ok (.bipush 99, 2) := by decide +kernel
theorem dX10_readAct_65 : decode cX10_readAct 65 = .ok (.if_icmp .ne 7, 3) := by decide +kernel
theorem dX10_readAct_68 : decode cX10_readAct 68 = .ok (.iconst 4, 1) := by decide +kernel
theorem dX10_readAct_69 : decode cX10_readAct 69 = .ok (.goto 24, 3) := by decide +kernel
theorem dX10_readAct_72 : decode cX10_readAct 72 = .ok (.iload_n 2, 1) := by decide +kernel
theorem dX10_readAct_73 : decode cX10_readAct 73 = .ok (.bipush 98, 2) := by decide +kernel
theorem dX10_readAct_75 : decode cX10_readAct 75 = .ok (.if_icmp .ne 7, 3) := by decide +kernel
theorem dX10_readAct_78 : decode cX10_readAct 78 = .ok (.iconst 3, 1) := by decide +kernel
theorem dX10_readAct_79 : decode cX10_readAct 79 = .ok (.goto 14, 3) := by decide +kernel
theorem dX10_readAct_82 : decode cX10_readAct 82 = .ok (.iload_n 2, 1) := by decide +kernel
theorem dX10_readAct_83 : decode cX10_readAct 83 = .ok (.bipush 115, 2) := by decide +kernel
theorem dX10_readAct_85 : decode cX10_readAct 85 = .ok (.if_icmp .ne 7, 3) := by decide +kernel
theorem dX10_readAct_88 : decode cX10_readAct 88 = .ok (.iconst 2, 1) := by decide +kernel
theorem dX10_readAct_89 : decode cX10_readAct 89 = .ok (.goto 4, 3) := by decide +kernel
theorem dX10_readAct_92 : decode cX10_readAct 92 = .ok (.iconst 1, 1) := by decide +kernel
theorem dX10_readAct_93 : decode cX10_readAct 93 = .ok (.invokevirtual 118, 3) := by decide +kernel
theorem dX10_readAct_96 : decode cX10_readAct 96 = .ok (.iastore, 1) := by decide +kernel
theorem dX10_readAct_97 : decode cX10_readAct 97 = .ok (.iload_n 2, 1) := by decide +kernel
theorem dX10_readAct_98 : decode cX10_readAct 98 = .ok (.bipush 103, 2) := by decide +kernel
theorem dX10_readAct_100 : decode cX10_readAct 100 = .ok (.if_icmp .ne 16, 3) := by decide +kernel
theorem dX10_readAct_103 : decode cX10_readAct 103 = .ok (.aload_n 0, 1) := by decide +kernel
theorem dX10_readAct_104 : decode cX10_readAct 104 = .ok (.getfield 21, 3) := by decide +kernel
theorem dX10_readAct_107 : decode cX10_readAct 107 = .ok (.iload_n 1, 1) := by decide +kernel
theorem dX10_readAct_108 : decode cX10_readAct 108 = .ok (.iconst 2, 1) := by decide +kernel
theorem dX10_readAct_109 : decode cX10_readAct 109 = .ok (.iadd, 1) := by decide +kernel
theorem dX10_readAct_110 : decode cX10_readAct 110 = .ok (.aload_n 0, 1) := by decide +kernel
theorem dX10_readAct_111 : decode cX10_readAct 111 = .ok (.iconst 3, 1) := by decide +kernel
theorem dX10_readAct_112 : decode cX10_readAct 112 = .ok (.invokevirtual 118, 3) := by decide +kernel
theorem dX10_readAct_115 : decode cX10_readAct 115 = .ok (.iastore, 1) := by decide +kernel
theorem dX10_readAct_116 : decode cX10_readAct 116 = .ok (.iload_n 2, 1) := by decide +kernel
theorem dX10_readAct_117 : decode cX10_readAct 117 = .ok (.bipush 97, 2) := by decide +kernel
theorem dX10_readAct_119 : decode cX10_readAct 119 = .ok (.if_icmp .ne 15, 3) := by decide +kernel
theorem dX10_readAct_122 : decode cX10_readAct 122 = .ok (.aload_n 0, 1) := by decide +kernel
theorem dX10_readAct_123 : decode cX10_readAct 123 = .ok (.getfield 21, 3) := by decide +kernel
theorem dX10_readAct_126 : decode cX10_readAct 126 = .ok (.iload_n 1, 1) := by decide +kernel
theorem dX10_readAct_127 : decode cX10_readAct 127 = .ok (.iconst 2, 1) := by decide +kernel
theorem dX10_readAct_128 : decode cX10_readAct 128 = .ok (.iadd, 1) := by decide +kernel
theorem dX10_readAct_129 : decode cX10_readAct 129 = .ok (.aload_n 0, 1) := by decide +kernel
theorem dX10_readAct_130 : decode cX10_readAct 130 = .ok (.invokevirtual 135, 3) := by decide +kernel
theorem dX10_readAct_133 : decode cX10_readAct 133 = .ok (.iastore, 1) := by decide +kernel
theorem dX10_readAct_134 : decode cX10_readAct 134 = .ok (.iload_n 2, 1) := by decide +kernel
theorem dX10_readAct_135 : decode cX10_readAct 135 = .ok (.bipush 119, 2) := by decide +kernel
theorem dX10_readAct_137 : decode cX10_readAct 137 = .ok (.if_icmp .eq 15, 3) := by decide +kernel
theorem dX10_readAct_140 : decode cX10_readAct 140 = .ok (.iload_n 2, 1) := by decide +kernel
theorem dX10_readAct_141 : decode cX10_readAct 141 = .ok (.bipush 100, 2) := by decide +kernel
theorem dX10_readAct_143 : decode cX10_readAct 143 = .ok (.if_icmp .eq 9, 3) := by decide +kernel
theorem dX10_readAct_146 : decode cX10_readAct 146 = .ok (.iload_n 2, 1) := by decide +kernel
theorem dX10_readAct_147 : decode cX10_readAct 147 = .ok (.bipush 111, 2) := by decide +kernel
theorem dX10_readAct_149 : decode cX10_readAct 149 = .ok (.if_icmp .ne 16, 3) := by decide +kernel
theorem dX10_readAct_152 : decode cX10_readAct 152 = .ok (.aload_n 0, 1) := by decide +kernel
theorem dX10_readAct_153 : decode cX10_readAct 153 = .ok (.getfield 21, 3) := by decide +kernel
theorem dX10_readAct_156 : decode cX10_readAct 156 = .ok (.iload_n 1, 1) := by decide +kernel
theorem dX10_readAct_157 : decode cX10_readAct 157 = .ok (.iconst 2, 1) := by decide +kernel
theorem dX10_readAct_158 : decode cX10_readAct 158 = .ok (.iadd, 1) := by decide +kernel
theorem dX10_readAct_159 : decode cX10_readAct 159 = .ok (.aload_n 0, 1) := by decide +kernel
theorem dX10_readAct_160 : decode cX10_readAct 160 = .ok (.iconst 1, 1) := by decide +kernel
theorem dX10_readAct_161 : decode cX10_readAct 161 = .ok (.invokevirtual 118, 3) := by decide +kernel
theorem dX10_readAct_164 : decode cX10_readAct 164 = .ok (.iastore, 1) := by decide +kernel
theorem dX10_readAct_165 : decode cX10_readAct 165 = .ok (.return_, 1) := by decide +kernel
set_option maxHeartbeats 4000000 in
set_option maxRecDepth 100000 in
theorem c_Model_readAct (l : Launch) (G : fm_G) (N : Nat) (M : fm_M) (v1 : Int32) (M' : fm_M) (hf : pModel_readAct N M v1 = some M') : fm_Met l yX10_readAct cX10_readAct 3 none { frames := 4, cells := 0, slots := 0, locals := 91 } shM G [.ref (G.2.1 0), .int v1] M none M' := by
  refine fm_enter (by decide) (Nat.le_of_ble_eq_true rfl) ?_
  intro p e s m args below meth c ls C E hl
  have hl : lv_has ls 3 [(0, .ref (G.2.1 0)), (1, .int v1)] := hl
  have J21 : ∀ (M : fm_M) (H : Heap) (locs : List Loc) (ls : Array Slot), fm_Wd shM G M s H locs → lv_has ls 3 [(0, .ref (G.2.1 0))] → pModel_readAct_J21 N M = some M' → W p l e { frames := 4, cells := 0, slots := 0, locals := 91 } s m args below meth c H locs 0 0 (fm_Z below shM G args s none M') (F0 m 21 ls []) := by
    intro M H locs ls E hl hf
    unfold pModel_readAct_J21 at hf
    refine lv_aload_n C.1 C.2.1 dX10_readAct_21 rfl (lv_at hl 0 rfl) ?_
    refine lv_aload_n C.1 C.2.1 dX10_readAct_22 rfl (lv_at hl 0 rfl) ?_
    refine fm_geti C E lf_X10_93 hM_0 rfl dX10_readAct_23 ?_
    obtain ⟨M26, hc26, hf⟩ := fm_bd hf
    refine fm_callV C E [.int _] [] lm_X10_107 wk_X10_fault (c_Model_fault l G _ _ _ hc26) hM_0 rfl rfl rfl hl.1 (by simp [Value.category]) ⟨⟨rfl, rfl⟩, by decide, by decide⟩ ⟨by decide, by decide⟩ dX10_readAct_26 rfl (fun H locs E => ?_)
    refine W.eq (g2 := F0 m 29 ls []) rfl ?_
    obtain rfl := fm_rt1 hf
    exact fm_vret C E rfl dX10_readAct_29
  have J152 : ∀ (M : fm_M) (v1 : Int32) (H : Heap) (locs : List Loc) (ls : Array Slot), fm_Wd shM G M s H locs → lv_has ls 3 [(0, .ref (G.2.1 0)), (1, .int v1)] → pModel_readAct_J152 N M v1 = some M' → W p l e { frames := 4, cells := 0, slots := 0, locals := 91 } s m args below meth c H locs 0 0 (fm_Z below shM G args s none M') (F0 m 152 ls []) := by
    intro M v1 H locs ls E hl hf
    unfold pModel_readAct_J152 at hf
    refine lv_aload_n C.1 C.2.1 dX10_readAct_152 rfl (lv_at hl 0 rfl) ?_
    refine fm_getr C E lf_X10_21 hM_0 rfl dX10_readAct_153 ?_
    refine lv_iload_n C.1 C.2.1 dX10_readAct_156 rfl (lv_at hl 1 rfl) ?_
    refine lv_iconst (v := 2) C.1 C.2.1 dX10_readAct_157 (by decide) ?_
    refine lv_iadd C.1 C.2.1 dX10_readAct_158 ?_
    refine lv_aload_n C.1 C.2.1 dX10_readAct_159 rfl (lv_at hl 0 rfl) ?_
    refine lv_iconst (v := 1) C.1 C.2.1 dX10_readAct_160 (by decide) ?_
    obtain ⟨⟨x161, M161⟩, hc161, hf⟩ := fm_bd hf
    dsimp only at hf
    refine fm_callV C E [.int _] [.int _, .ref _] lm_X10_118 wk_X10_digits (c_Model_digits l G N _ _ _ _ hc161) hM_0 rfl rfl rfl hl.1 (by simp [Value.category]) ⟨⟨rfl, rfl⟩, by decide, by decide⟩ ⟨by decide, by decide⟩ dX10_readAct_161 rfl (fun H locs E => ?_)
    refine W.eq (g2 := F0 m 164 ls (.int x161 :: [.int _, .ref _])) rfl ?_
    obtain ⟨h164, M164, e164, hf⟩ := fm_st_e hf
    refine fm_iast' C E e164 hM_4 h164 dX10_readAct_164 (fun H locs E => ?_)
    obtain rfl := fm_rt1 hf
    exact fm_vret C E rfl dX10_readAct_165
  have J134 : ∀ (M : fm_M) (v1 : Int32) (v2 : Int32) (H : Heap) (locs : List Loc) (ls : Array Slot), fm_Wd shM G M s H locs → lv_has ls 3 [(0, .ref (G.2.1 0)), (1, .int v1), (2, .int v2)] → pModel_readAct_J134 N M v1 v2 = some M' → W p l e { frames := 4, cells := 0, slots := 0, locals := 91 } s m args below meth c H locs 0 0 (fm_Z below shM G args s none M') (F0 m 134 ls []) := by
    intro M v1 v2 H locs ls E hl hf
    unfold pModel_readAct_J134 at hf
    refine lv_iload_n C.1 C.2.1 dX10_readAct_134 rfl (lv_at hl 2 rfl) ?_
    refine lv_bipush (v := 119) C.1 C.2.1 dX10_readAct_135 (by decide) ?_
    refine lv_icmp_eq (tgt := 152) C.1 C.2.1 dX10_readAct_137 (by decide) (fun hc137 => ?_) (fun hc137 => ?_)
    · have hf := fm_ip hf hc137
      exact J152 _ _ _ _ _ E (lv_sub hl [0, 1] rfl) hf
    · have hf := fm_in' hf hc137
      refine lv_iload_n C.1 C.2.1 dX10_readAct_140 rfl (lv_at hl 2 rfl) ?_
      refine lv_bipush (v := 100) C.1 C.2.1 dX10_readAct_141 (by decide) ?_
      refine lv_icmp_eq (tgt := 152) C.1 C.2.1 dX10_readAct_143 (by decide) (fun hc143 => ?_) (fun hc143 => ?_)
      · have hf := fm_ip hf hc143
        exact J152 _ _ _ _ _ E (lv_sub hl [0, 1] rfl) hf
      · have hf := fm_in' hf hc143
        refine lv_iload_n C.1 C.2.1 dX10_readAct_146 rfl (lv_at hl 2 rfl) ?_
        refine lv_bipush (v := 111) C.1 C.2.1 dX10_readAct_147 (by decide) ?_
        refine lv_icmp_ne (tgt := 165) C.1 C.2.1 dX10_readAct_149 (by decide) (fun hc149 => ?_) (fun hc149 => ?_)
        · have hf := fm_in' hf hc149
          obtain rfl := fm_rt1 hf
          exact fm_vret C E rfl dX10_readAct_165
        · have hf := fm_ip hf hc149
          exact J152 _ _ _ _ _ E (lv_sub hl [0, 1] rfl) hf
  have J116 : ∀ (M : fm_M) (v1 : Int32) (v2 : Int32) (H : Heap) (locs : List Loc) (ls : Array Slot), fm_Wd shM G M s H locs → lv_has ls 3 [(0, .ref (G.2.1 0)), (1, .int v1), (2, .int v2)] → pModel_readAct_J116 N M v1 v2 = some M' → W p l e { frames := 4, cells := 0, slots := 0, locals := 91 } s m args below meth c H locs 0 0 (fm_Z below shM G args s none M') (F0 m 116 ls []) := by
    intro M v1 v2 H locs ls E hl hf
    unfold pModel_readAct_J116 at hf
    refine lv_iload_n C.1 C.2.1 dX10_readAct_116 rfl (lv_at hl 2 rfl) ?_
    refine lv_bipush (v := 97) C.1 C.2.1 dX10_readAct_117 (by decide) ?_
    refine lv_icmp_ne (tgt := 134) C.1 C.2.1 dX10_readAct_119 (by decide) (fun hc119 => ?_) (fun hc119 => ?_)
    · have hf := fm_in' hf hc119
      exact J134 _ _ _ _ _ _ E (lv_sub hl [0, 1, 2] rfl) hf
    · have hf := fm_ip hf hc119
      refine lv_aload_n C.1 C.2.1 dX10_readAct_122 rfl (lv_at hl 0 rfl) ?_
      refine fm_getr C E lf_X10_21 hM_0 rfl dX10_readAct_123 ?_
      refine lv_iload_n C.1 C.2.1 dX10_readAct_126 rfl (lv_at hl 1 rfl) ?_
      refine lv_iconst (v := 2) C.1 C.2.1 dX10_readAct_127 (by decide) ?_
      refine lv_iadd C.1 C.2.1 dX10_readAct_128 ?_
      refine lv_aload_n C.1 C.2.1 dX10_readAct_129 rfl (lv_at hl 0 rfl) ?_
      obtain ⟨⟨x130, M130⟩, hc130, hf⟩ := fm_bd hf
      dsimp only at hf
      refine fm_callV C E [] [.int _, .ref _] lm_X10_135 wk_X10_readSide (c_Model_readSide l G _ _ _ hc130) hM_0 rfl rfl rfl hl.1 (by simp [Value.category]) ⟨⟨rfl, rfl⟩, by decide, by decide⟩ ⟨by decide, by decide⟩ dX10_readAct_130 rfl (fun H locs E => ?_)
      refine W.eq (g2 := F0 m 133 ls (.int x130 :: [.int _, .ref _])) rfl ?_
      obtain ⟨h133, M133, e133, hf⟩ := fm_st_e hf
      refine fm_iast' C E e133 hM_4 h133 dX10_readAct_133 (fun H locs E => ?_)
      exact J134 _ _ _ _ _ _ E (lv_sub hl [0, 1, 2] rfl) hf
  have J93 : ∀ (M : fm_M) (v1 : Int32) (v2 : Int32) (s1 : Int32) (s3 : Int32) (H : Heap) (locs : List Loc) (ls : Array Slot), fm_Wd shM G M s H locs → lv_has ls 3 [(0, .ref (G.2.1 0)), (1, .int v1), (2, .int v2)] → pModel_readAct_J93 N M v1 v2 s1 s3 = some M' → W p l e { frames := 4, cells := 0, slots := 0, locals := 91 } s m args below meth c H locs 0 0 (fm_Z below shM G args s none M') (F0 m 93 ls [.int s3, .ref (G.2.1 0), .int s1, .ref (G.2.1 4)]) := by
    intro M v1 v2 s1 s3 H locs ls E hl hf
    unfold pModel_readAct_J93 at hf
    obtain ⟨⟨x93, M93⟩, hc93, hf⟩ := fm_bd hf
    dsimp only at hf
    refine fm_callV C E [.int _] [.int _, .ref _] lm_X10_118 wk_X10_digits (c_Model_digits l G N _ _ _ _ hc93) hM_0 rfl rfl rfl hl.1 (by simp [Value.category]) ⟨⟨rfl, rfl⟩, by decide, by decide⟩ ⟨by decide, by decide⟩ dX10_readAct_93 rfl (fun H locs E => ?_)
    refine W.eq (g2 := F0 m 96 ls (.int x93 :: [.int _, .ref _])) rfl ?_
    obtain ⟨h96, M96, e96, hf⟩ := fm_st_e hf
    refine fm_iast' C E e96 hM_4 h96 dX10_readAct_96 (fun H locs E => ?_)
    refine lv_iload_n C.1 C.2.1 dX10_readAct_97 rfl (lv_at hl 2 rfl) ?_
    refine lv_bipush (v := 103) C.1 C.2.1 dX10_readAct_98 (by decide) ?_
    refine lv_icmp_ne (tgt := 116) C.1 C.2.1 dX10_readAct_100 (by decide) (fun hc100 => ?_) (fun hc100 => ?_)
    · have hf := fm_in' hf hc100
      exact J116 _ _ _ _ _ _ E (lv_sub hl [0, 1, 2] rfl) hf
    · have hf := fm_ip hf hc100
      refine lv_aload_n C.1 C.2.1 dX10_readAct_103 rfl (lv_at hl 0 rfl) ?_
      refine fm_getr C E lf_X10_21 hM_0 rfl dX10_readAct_104 ?_
      refine lv_iload_n C.1 C.2.1 dX10_readAct_107 rfl (lv_at hl 1 rfl) ?_
      refine lv_iconst (v := 2) C.1 C.2.1 dX10_readAct_108 (by decide) ?_
      refine lv_iadd C.1 C.2.1 dX10_readAct_109 ?_
      refine lv_aload_n C.1 C.2.1 dX10_readAct_110 rfl (lv_at hl 0 rfl) ?_
      refine lv_iconst (v := 3) C.1 C.2.1 dX10_readAct_111 (by decide) ?_
      obtain ⟨⟨x112, M112⟩, hc112, hf⟩ := fm_bd hf
      dsimp only at hf
      refine fm_callV C E [.int _] [.int _, .ref _] lm_X10_118 wk_X10_digits (c_Model_digits l G N _ _ _ _ hc112) hM_0 rfl rfl rfl hl.1 (by simp [Value.category]) ⟨⟨rfl, rfl⟩, by decide, by decide⟩ ⟨by decide, by decide⟩ dX10_readAct_112 rfl (fun H locs E => ?_)
      refine W.eq (g2 := F0 m 115 ls (.int x112 :: [.int _, .ref _])) rfl ?_
      obtain ⟨h115, M115, e115, hf⟩ := fm_st_e hf
      refine fm_iast' C E e115 hM_4 h115 dX10_readAct_115 (fun H locs E => ?_)
      exact J116 _ _ _ _ _ _ E (lv_sub hl [0, 1, 2] rfl) hf
  unfold pModel_readAct at hf
  refine lv_aload_n C.1 C.2.1 dX10_readAct_0 rfl (lv_at hl 0 rfl) ?_
  obtain ⟨x1, hc1, hf⟩ := fm_bd hf
  refine fm_callV C E [] [] lm_X10_103 wk_X10_here (c_Model_here l G _ _  hc1) hM_0 rfl rfl rfl hl.1 (by simp [Value.category]) ⟨⟨rfl, rfl⟩, by decide, by decide⟩ ⟨by decide, by decide⟩ dX10_readAct_1 rfl (fun H locs E => ?_)
  refine W.eq (g2 := F0 m 4 ls (.int x1 :: [])) rfl ?_
  refine lv_istore_n (lv' := [(2, .int _), (0, .ref _), (1, .int _)]) C.1 C.2.1 dX10_readAct_4 rfl hl (by decide) rfl (fun ls hl => ?_)
  refine lv_iload_n C.1 C.2.1 dX10_readAct_5 rfl (lv_at hl 0 rfl) ?_
  refine lv_iconst (v := (-1)) C.1 C.2.1 dX10_readAct_6 (by decide) ?_
  refine lv_icmp_eq (tgt := 21) C.1 C.2.1 dX10_readAct_7 (by decide) (fun hc7 => ?_) (fun hc7 => ?_)
  · have hf := fm_ip hf hc7
    exact J21 _ _ _ _ E (lv_sub hl [1] rfl) hf
  · have hf := fm_in' hf hc7
    refine fm_ldsw C (i := 6) rfl dX10_readAct_10 ?_
    refine lv_iload_n C.1 C.2.1 dX10_readAct_13 rfl (lv_at hl 0 rfl) ?_
    refine lv_i2c C.1 C.2.1 dX10_readAct_14 rfl ?_
    obtain ⟨x15, hc15, hf⟩ := fm_bd hf
    refine fm_callT C E [.int _] [] lm_X10_317 wk_J0_indexOf_0f7a4 (c_String_indexOf l _ G N _ _ _ _  hc15) (of_decide_eq_true (fm_rq_s hc15).1) rfl rfl hl.1 (by simp [Value.category]) ⟨⟨rfl, rfl⟩, by decide, by decide⟩ ⟨by decide, by decide⟩ dX10_readAct_15 rfl (fun H locs E => ?_)
    refine W.eq (g2 := F0 m 18 ls (.int x15 :: [])) rfl ?_
    refine lv_if_ge (tgt := 30) C.1 C.2.1 dX10_readAct_18 (by decide) (fun hc18 => ?_) (fun hc18 => ?_)
    · have hf := fm_ip hf hc18
      refine lv_aload_n C.1 C.2.1 dX10_readAct_30 rfl (lv_at hl 1 rfl) ?_
      refine lv_dup C.1 C.2.1 dX10_readAct_31 rfl ?_
      refine fm_geti C E lf_X10_93 hM_0 rfl dX10_readAct_32 ?_
      refine lv_iconst (v := 1) C.1 C.2.1 dX10_readAct_35 (by decide) ?_
      refine lv_iadd C.1 C.2.1 dX10_readAct_36 ?_
      obtain ⟨M37, e37, hf⟩ := fm_pt_s hf
      refine fm_put' C E e37 lp_X10_93 hM_0 rfl dX10_readAct_37 (fun H locs E => ?_)
      refine lv_aload_n C.1 C.2.1 dX10_readAct_40 rfl (lv_at hl 1 rfl) ?_
      refine fm_getr C E lf_X10_21 hM_0 rfl dX10_readAct_41 ?_
      refine lv_iload_n C.1 C.2.1 dX10_readAct_44 rfl (lv_at hl 2 rfl) ?_
      refine lv_iload_n C.1 C.2.1 dX10_readAct_45 rfl (lv_at hl 0 rfl) ?_
      obtain ⟨h46, M46, e46, hf⟩ := fm_st_e hf
      refine fm_iast' C E e46 hM_4 h46 dX10_readAct_46 (fun H locs E => ?_)
      refine lv_iload_n C.1 C.2.1 dX10_readAct_47 rfl (lv_at hl 0 rfl) ?_
      refine lv_bipush (v := 108) C.1 C.2.1 dX10_readAct_48 (by decide) ?_
      refine lv_icmp_ne (tgt := 54) C.1 C.2.1 dX10_readAct_50 (by decide) (fun hc50 => ?_) (fun hc50 => ?_)
      · have hf := fm_in' hf hc50
        refine lv_aload_n C.1 C.2.1 dX10_readAct_54 rfl (lv_at hl 1 rfl) ?_
        refine fm_getr C E lf_X10_21 hM_0 rfl dX10_readAct_55 ?_
        refine lv_iload_n C.1 C.2.1 dX10_readAct_58 rfl (lv_at hl 2 rfl) ?_
        refine lv_iconst (v := 1) C.1 C.2.1 dX10_readAct_59 (by decide) ?_
        refine lv_iadd C.1 C.2.1 dX10_readAct_60 ?_
        refine lv_aload_n C.1 C.2.1 dX10_readAct_61 rfl (lv_at hl 1 rfl) ?_
        refine lv_iload_n C.1 C.2.1 dX10_readAct_62 rfl (lv_at hl 0 rfl) ?_
        refine lv_bipush (v := 99) C.1 C.2.1 dX10_readAct_63 (by decide) ?_
        refine lv_icmp_ne (tgt := 72) C.1 C.2.1 dX10_readAct_65 (by decide) (fun hc65 => ?_) (fun hc65 => ?_)
        · have hf := fm_in' hf hc65
          refine lv_iload_n C.1 C.2.1 dX10_readAct_72 rfl (lv_at hl 0 rfl) ?_
          refine lv_bipush (v := 98) C.1 C.2.1 dX10_readAct_73 (by decide) ?_
          refine lv_icmp_ne (tgt := 82) C.1 C.2.1 dX10_readAct_75 (by decide) (fun hc75 => ?_) (fun hc75 => ?_)
          · have hf := fm_in' hf hc75
            refine lv_iload_n C.1 C.2.1 dX10_readAct_82 rfl (lv_at hl 0 rfl) ?_
            refine lv_bipush (v := 115) C.1 C.2.1 dX10_readAct_83 (by decide) ?_
            refine lv_icmp_ne (tgt := 92) C.1 C.2.1 dX10_readAct_85 (by decide) (fun hc85 => ?_) (fun hc85 => ?_)
            · have hf := fm_in' hf hc85
              refine lv_iconst (v := 1) C.1 C.2.1 dX10_readAct_92 (by decide) ?_
              exact J93 _ _ _ _ _ _ _ _ E (lv_sub hl [1, 2, 0] rfl) hf
            · have hf := fm_ip hf hc85
              refine lv_iconst (v := 2) C.1 C.2.1 dX10_readAct_88 (by decide) ?_
              refine lv_goto (tgt := 93) C.1 C.2.1 dX10_readAct_89 (by decide) ?_
              exact J93 _ _ _ _ _ _ _ _ E (lv_sub hl [1, 2, 0] rfl) hf
          · have hf := fm_ip hf hc75
            refine lv_iconst (v := 3) C.1 C.2.1 dX10_readAct_78 (by decide) ?_
            refine lv_goto (tgt := 93) C.1 C.2.1 dX10_readAct_79 (by decide) ?_
            exact J93 _ _ _ _ _ _ _ _ E (lv_sub hl [1, 2, 0] rfl) hf
        · have hf := fm_ip hf hc65
          refine lv_iconst (v := 4) C.1 C.2.1 dX10_readAct_68 (by decide) ?_
          refine lv_goto (tgt := 93) C.1 C.2.1 dX10_readAct_69 (by decide) ?_
          exact J93 _ _ _ _ _ _ _ _ E (lv_sub hl [1, 2, 0] rfl) hf
      · have hf := fm_ip hf hc50
        obtain rfl := fm_rt1 hf
        exact fm_vret C E rfl dX10_readAct_53
    · have hf := fm_in' hf hc18
      exact J21 _ _ _ _ E (lv_sub hl [1] rfl) hf
theorem dX10_day_0 : decode cX10_day 0 = .ok (.aload_n 0, 1) := by decide +kernel
theorem dX10_day_1 : decode cX10_day 1 = .ok (.iconst 0, 1) := by decide +kernel
theorem dX10_day_2 : decode cX10_day 2 = .ok (.putfield 77, 3) := by decide +kernel
theorem dX10_day_5 : decode cX10_day 5 = .ok (.aload_n 0, 1) := by decide +kernel
theorem dX10_day_6 : decode cX10_day 6 = .ok (.invokevirtual 115, 3) := by decide +kernel
theorem dX10_day_9 : decode cX10_day 9 = .ok (.iconst 0, 1) := by decide +kernel
theorem dX10_day_10 : decode cX10_day 10 = .ok (.istore_n 1, 1) := by decide +kernel
theorem dX10_day_11 : decode cX10_day 11 = .ok (.aload_n 0, 1) := by decide +kernel
theorem dX10_day_12 : decode cX10_day 12 = .ok (.invokevirtual 99, 3) := by decide +kernel
theorem dX10_day_15 : decode cX10_day 15 = .ok (.ifCond .eq 27, 3) := by decide +kernel
theorem dX10_day_18 : decode cX10_day 18 = .ok (.aload_n 0, 1) := by decide +kernel
theorem dX10_day_19 : decode cX10_day 19 = .ok (.getfield 93, 3) := by decide +kernel
theorem dX10_day_22 : decode cX10_day 22 = .ok (.aload_n 0, 1) := by decide +kernel
theorem dX10_day_23 : decode cX10_day 23 = .ok (.getfield 90, 3) := by decide +kernel
theorem dX10_day_26 : decode cX10_day 26 = .ok (.if_icmp .ge 16, 3) := by decide +kernel
theorem dX10_day_29 : decode cX10_day 29 = .ok (.aload_n 0, 1) := by decide +kernel
theorem dX10_day_30 : decode cX10_day 30 = .ok (.iconst 3, 1) := by decide +kernel
theorem dX10_day_31 : decode cX10_day 31 = .ok (.iload_n 1, 1) := by decide +kernel
theorem dX10_day_32 : decode cX10_day 32 = .ok (.imul, 1) := by decide +kernel
theorem dX10_day_33 : decode cX10_day 33 = .ok (.invokevirtual 328, 3) := by decide +kernel
theorem dX10_day_36 : decode cX10_day 36 = .ok (.iinc 1 1, 3) := by decide +kernel
theorem dX10_day_39 : decode cX10_day 39 = .ok (.goto (-28), 3) := by decide +kernel
theorem dX10_day_42 : decode cX10_day 42 = .ok (.aload_n 0, 1) := by decide +kernel
theorem dX10_day_43 : decode cX10_day 43 = .ok (.invokevirtual 129, 3) := by decide +kernel
theorem dX10_day_46 : decode cX10_day 46 = .ok (.ifCond .ne 10, 3) := by decide +kernel
theorem dX10_day_49 : decode cX10_day 49 = .ok (.iconst (-1), 1) := by decide +kernel
theorem dX10_day_50 : decode cX10_day 50 = .ok (.aload_n 0, 1) := by decide +kernel
theorem dX10_day_51 : decode cX10_day 51 = .ok (.getfield 96, 3) := by decide +kernel
theorem dX10_day_54 : decode cX10_day 54 = .ok (.isub, 1) := by decide +kernel
theorem dX10_day_55 : decode cX10_day 55 = .ok (.ireturn, 1) := by decide +kernel
theorem dX10_day_56 : decode cX10_day 56 = .ok (.aload_n 0, 1) := by decide +kernel
theorem dX10_day_57 : decode cX10_day 57 = .ok (.invokevirtual 294, 3) := by decide +kernel
theorem dX10_day_60 : decode cX10_day 60 = .ok (.iconst 0, 1) := by decide +kernel
theorem dX10_day_61 : decode cX10_day 61 = .ok (.istore_n 2, 1) := by decide +kernel
theorem dX10_day_62 : decode cX10_day 62 = .ok (.iload_n 2, 1) := by decide +kernel
theorem dX10_day_63 : decode cX10_day 63 = .ok (.iload_n 1, 1) := by decide +kernel
theorem dX10_day_64 : decode cX10_day 64 = .ok (.if_icmp .ge 19, 3) := by decide +kernel
theorem dX10_day_67 : decode cX10_day 67 = .ok (.aload_n 0, 1) := by decide +kernel
theorem dX10_day_68 : decode cX10_day 68 = .ok (.iconst 3, 1) := by decide +kernel
theorem dX10_day_69 : decode cX10_day 69 = .ok (.iload_n 2, 1) := by decide +kernel
theorem dX10_day_70 : decode cX10_day 70 = .ok (.imul, 1) := by decide +kernel
theorem dX10_day_71 : decode cX10_day 71 = .ok (.invokevirtual 331, 3) := by decide +kernel
theorem dX10_day_74 : decode cX10_day 74 = .ok (.ifCond .eq 9, 3) := by decide +kernel
theorem dX10_day_77 : decode cX10_day 77 = .ok (.iinc 2 1, 3) := by decide +kernel
theorem dX10_day_80 : decode cX10_day 80 = .ok (.goto (-18), 3) := by decide +kernel
theorem dX10_day_83 : decode cX10_day 83 = .ok (.iload_n 2, 1) := by decide +kernel
theorem dX10_day_84 : decode cX10_day 84 = .ok (.ifCond .le 7, 3) := by decide +kernel
theorem dX10_day_87 : decode cX10_day 87 = .ok (.aload_n 0, 1) := by decide +kernel
theorem dX10_day_88 : decode cX10_day 88 = .ok (.invokevirtual 297, 3) := by decide +kernel
theorem dX10_day_91 : decode cX10_day 91 = .ok (.aload_n 0, 1) := by decide +kernel
theorem dX10_day_92 : decode cX10_day 92 = .ok (.iconst 0, 1) := by decide +kernel
theorem dX10_day_93 : decode cX10_day 93 = .ok (.putfield 80, 3) := by decide +kernel
theorem dX10_day_96 : decode cX10_day 96 = .ok (.aload_n 0, 1) := by decide +kernel
theorem dX10_day_97 : decode cX10_day 97 = .ok (.iload_n 2, 1) := by decide +kernel
theorem dX10_day_98 : decode cX10_day 98 = .ok (.iload_n 1, 1) := by decide +kernel
theorem dX10_day_99 : decode cX10_day 99 = .ok (.if_icmp .ge 7, 3) := by decide +kernel
theorem dX10_day_102 : decode cX10_day 102 = .ok (.lconst 1, 1) := by decide +kernel
theorem dX10_day_103 : decode cX10_day 103 = .ok (.goto 4, 3) := by decide +kernel
theorem dX10_day_106 : decode cX10_day 106 = .ok (.lconst 0, 1) := by decide +kernel
theorem dX10_day_107 : decode cX10_day 107 = .ok (.invokevirtual 245, 3) := by decide +kernel
theorem dX10_day_110 : decode cX10_day 110 = .ok (.aload_n 0, 1) := by decide +kernel
theorem dX10_day_111 : decode cX10_day 111 = .ok (.aload_n 0, 1) := by decide +kernel
theorem dX10_day_112 : decode cX10_day 112 = .ok (.invokevirtual 204, 3) := by decide +kernel
theorem dX10_day_115 : decode cX10_day 115 = .ok (.i2l, 1) := by decide +kernel
theorem dX10_day_116 : decode cX10_day 116 = .ok (.invokevirtual 245, 3) := by decide +kernel
theorem dX10_day_119 : decode cX10_day 119 = .ok (.iload_n 2, 1) := by decide +kernel
theorem dX10_day_120 : decode cX10_day 120 = .ok (.ireturn, 1) := by decide +kernel
set_option maxHeartbeats 4000000 in
set_option maxRecDepth 100000 in
theorem c_Model_day (l : Launch) (G : fm_G) (N : Nat) (M : fm_M) (r : Int32) (M' : fm_M) (hf : pModel_day N M = some (r, M')) : fm_Met l yX10_day cX10_day 3 (some .int) { frames := 7, cells := 0, slots := 0, locals := 163 } shM G [.ref (G.2.1 0)] M (some (.int r)) M' := by
  refine fm_enter (by decide) (Nat.le_of_ble_eq_true rfl) ?_
  intro p e s m args below meth c ls C E hl
  have hl : lv_has ls 3 [(0, .ref (G.2.1 0))] := hl
  have J107 : ∀ (M : fm_M) (v2 : Int32) (s1 : Int64) (H : Heap) (locs : List Loc) (ls : Array Slot), fm_Wd shM G M s H locs → lv_has ls 3 [(0, .ref (G.2.1 0)), (2, .int v2)] → pModel_day_J107 N M v2 s1 = some (r, M') → W p l e { frames := 7, cells := 0, slots := 0, locals := 163 } s m args below meth c H locs 0 0 (fm_Z below shM G args s (some (.int r)) M') (F0 m 107 ls [.long s1, .ref (G.2.1 0)]) := by
    intro M v2 s1 H locs ls E hl hf
    unfold pModel_day_J107 at hf
    obtain ⟨M107, hc107, hf⟩ := fm_bd hf
    refine fm_callV C E [.long _] [] lm_X10_245 wk_X10_tell (c_Model_tell l G _ _ _ hc107) hM_0 rfl rfl rfl hl.1 (by simp [Value.category]) ⟨⟨rfl, rfl⟩, by decide, by decide⟩ ⟨by decide, by decide⟩ dX10_day_107 rfl (fun H locs E => ?_)
    refine W.eq (g2 := F0 m 110 ls []) rfl ?_
    refine lv_aload_n C.1 C.2.1 dX10_day_110 rfl (lv_at hl 0 rfl) ?_
    refine lv_aload_n C.1 C.2.1 dX10_day_111 rfl (lv_at hl 0 rfl) ?_
    obtain ⟨x112, hc112, hf⟩ := fm_bd hf
    refine fm_callV C E [] [.ref _] lm_X10_204 wk_X10_liveBits (c_Model_liveBits l G N _ _  hc112) hM_0 rfl rfl rfl hl.1 (by simp [Value.category]) ⟨⟨rfl, rfl⟩, by decide, by decide⟩ ⟨by decide, by decide⟩ dX10_day_112 rfl (fun H locs E => ?_)
    refine W.eq (g2 := F0 m 115 ls (.int x112 :: [.ref _])) rfl ?_
    refine lv_i2l C.1 C.2.1 dX10_day_115 rfl ?_
    obtain ⟨M116, hc116, hf⟩ := fm_bd hf
    refine fm_callV C E [.long _] [] lm_X10_245 wk_X10_tell (c_Model_tell l G _ _ _ hc116) hM_0 rfl rfl rfl hl.1 (by simp [Value.category]) ⟨⟨rfl, rfl⟩, by decide, by decide⟩ ⟨by decide, by decide⟩ dX10_day_116 rfl (fun H locs E => ?_)
    refine W.eq (g2 := F0 m 119 ls []) rfl ?_
    refine lv_iload_n C.1 C.2.1 dX10_day_119 rfl (lv_at hl 1 rfl) ?_
    obtain ⟨rfl, rfl⟩ := fm_rt2 hf
    exact fm_iret C E rfl rfl dX10_day_120
  have J91 : ∀ (M : fm_M) (v1 : Int32) (v2 : Int32) (H : Heap) (locs : List Loc) (ls : Array Slot), fm_Wd shM G M s H locs → lv_has ls 3 [(0, .ref (G.2.1 0)), (1, .int v1), (2, .int v2)] → pModel_day_J91 N M v1 v2 = some (r, M') → W p l e { frames := 7, cells := 0, slots := 0, locals := 163 } s m args below meth c H locs 0 0 (fm_Z below shM G args s (some (.int r)) M') (F0 m 91 ls []) := by
    intro M v1 v2 H locs ls E hl hf
    unfold pModel_day_J91 at hf
    refine lv_aload_n C.1 C.2.1 dX10_day_91 rfl (lv_at hl 0 rfl) ?_
    refine lv_iconst (v := 0) C.1 C.2.1 dX10_day_92 (by decide) ?_
    obtain ⟨M93, e93, hf⟩ := fm_pt_s hf
    refine fm_put' C E e93 lp_X10_80 hM_0 rfl dX10_day_93 (fun H locs E => ?_)
    refine lv_aload_n C.1 C.2.1 dX10_day_96 rfl (lv_at hl 0 rfl) ?_
    refine lv_iload_n C.1 C.2.1 dX10_day_97 rfl (lv_at hl 2 rfl) ?_
    refine lv_iload_n C.1 C.2.1 dX10_day_98 rfl (lv_at hl 1 rfl) ?_
    refine lv_icmp_ge (tgt := 106) C.1 C.2.1 dX10_day_99 (by decide) (fun hc99 => ?_) (fun hc99 => ?_)
    · have hf := fm_ip hf hc99
      refine lv_lconst (v := 0) C.1 C.2.1 dX10_day_106 (by decide) ?_
      exact J107 _ _ _ _ _ _ E (lv_sub hl [0, 2] rfl) hf
    · have hf := fm_in' hf hc99
      refine lv_lconst (v := 1) C.1 C.2.1 dX10_day_102 (by decide) ?_
      refine lv_goto (tgt := 107) C.1 C.2.1 dX10_day_103 (by decide) ?_
      exact J107 _ _ _ _ _ _ E (lv_sub hl [0, 2] rfl) hf
  have J83 : ∀ (M : fm_M) (v1 : Int32) (v2 : Int32) (H : Heap) (locs : List Loc) (ls : Array Slot), fm_Wd shM G M s H locs → lv_has ls 3 [(0, .ref (G.2.1 0)), (1, .int v1), (2, .int v2)] → pModel_day_J83 N M v1 v2 = some (r, M') → W p l e { frames := 7, cells := 0, slots := 0, locals := 163 } s m args below meth c H locs 0 0 (fm_Z below shM G args s (some (.int r)) M') (F0 m 83 ls []) := by
    intro M v1 v2 H locs ls E hl hf
    unfold pModel_day_J83 at hf
    refine lv_iload_n C.1 C.2.1 dX10_day_83 rfl (lv_at hl 2 rfl) ?_
    refine lv_if_le (tgt := 91) C.1 C.2.1 dX10_day_84 (by decide) (fun hc84 => ?_) (fun hc84 => ?_)
    · have hf := fm_ip hf hc84
      exact J91 _ _ _ _ _ _ E (lv_sub hl [0, 1, 2] rfl) hf
    · have hf := fm_in' hf hc84
      refine lv_aload_n C.1 C.2.1 dX10_day_87 rfl (lv_at hl 0 rfl) ?_
      obtain ⟨M88, hc88, hf⟩ := fm_bd hf
      refine fm_callV C E [] [] lm_X10_297 wk_X10_note (c_Model_note l G N _ _ hc88) hM_0 rfl rfl rfl hl.1 (by simp [Value.category]) ⟨⟨rfl, rfl⟩, by decide, by decide⟩ ⟨by decide, by decide⟩ dX10_day_88 rfl (fun H locs E => ?_)
      refine W.eq (g2 := F0 m 91 ls []) rfl ?_
      exact J91 _ _ _ _ _ _ E (lv_sub hl [0, 1, 2] rfl) hf
  have L62 : ∀ (w62_v1 : Int32) (n62 : Nat) (v2 : Int32) (M : fm_M) (H : Heap) (locs : List Loc) (ls : Array Slot), fm_Wd shM G M s H locs → lv_has ls 3 [(0, .ref (G.2.1 0)), (1, .int w62_v1), (2, .int v2)] → fm_lp (pModel_day_L62 N w62_v1) n62 (v2, M) = some (r, M') → W p l e { frames := 7, cells := 0, slots := 0, locals := 163 } s m args below meth c H locs 0 0 (fm_Z below shM G args s (some (.int r)) M') (F0 m 62 ls []) := by
    intro w62_v1 n62
    induction n62 with
    | zero => intro v2 M H locs ls E hl hf; exact fm_lp_0 hf
    | succ n62 ih62 =>
      intro v2 M H locs ls E hl hf
      have hf : pModel_day_L62b N w62_v1 (fm_lp (pModel_day_L62 N w62_v1) n62) v2 M = some (r, M') := hf
      unfold pModel_day_L62b at hf
      refine lv_iload_n C.1 C.2.1 dX10_day_62 rfl (lv_at hl 2 rfl) ?_
      refine lv_iload_n C.1 C.2.1 dX10_day_63 rfl (lv_at hl 1 rfl) ?_
      refine lv_icmp_ge (tgt := 83) C.1 C.2.1 dX10_day_64 (by decide) (fun hc64 => ?_) (fun hc64 => ?_)
      · have hf := fm_ip hf hc64
        exact J83 _ _ _ _ _ _ E (lv_sub hl [0, 1, 2] rfl) hf
      · have hf := fm_in' hf hc64
        refine lv_aload_n C.1 C.2.1 dX10_day_67 rfl (lv_at hl 0 rfl) ?_
        refine lv_iconst (v := 3) C.1 C.2.1 dX10_day_68 (by decide) ?_
        refine lv_iload_n C.1 C.2.1 dX10_day_69 rfl (lv_at hl 2 rfl) ?_
        refine lv_imul C.1 C.2.1 dX10_day_70 ?_
        obtain ⟨⟨x71, M71⟩, hc71, hf⟩ := fm_bd hf
        dsimp only at hf
        refine fm_callV C E [.int _] [] lm_X10_331 wk_X10_act (c_Model_act l G N _ _ _ _ hc71) hM_0 rfl rfl rfl hl.1 (by simp [Value.category]) ⟨⟨rfl, rfl⟩, by decide, by decide⟩ ⟨by decide, by decide⟩ dX10_day_71 rfl (fun H locs E => ?_)
        refine W.eq (g2 := F0 m 74 ls (.int x71 :: [])) rfl ?_
        refine lv_if_eq (tgt := 83) C.1 C.2.1 dX10_day_74 (by decide) (fun hc74 => ?_) (fun hc74 => ?_)
        · have hf := fm_ip hf hc74
          exact J83 _ _ _ _ _ _ E (lv_sub hl [0, 1, 2] rfl) hf
        · have hf := fm_in' hf hc74
          refine fm_iinc C (v := 1) (lv' := [(2, .int _), (0, .ref _), (1, .int _)]) (k := 2) hl rfl (by decide) (by decide) rfl dX10_day_77 (fun ls hl => ?_)
          refine lv_goto (tgt := 62) C.1 C.2.1 dX10_day_80 (by decide) ?_
          exact ih62 _ _ _ _ _ E (lv_sub hl [1, 2, 0] rfl) hf
  have J42 : ∀ (M : fm_M) (v1 : Int32) (H : Heap) (locs : List Loc) (ls : Array Slot), fm_Wd shM G M s H locs → lv_has ls 3 [(0, .ref (G.2.1 0)), (1, .int v1)] → pModel_day_J42 N M v1 = some (r, M') → W p l e { frames := 7, cells := 0, slots := 0, locals := 163 } s m args below meth c H locs 0 0 (fm_Z below shM G args s (some (.int r)) M') (F0 m 42 ls []) := by
    intro M v1 H locs ls E hl hf
    unfold pModel_day_J42 at hf
    refine lv_aload_n C.1 C.2.1 dX10_day_42 rfl (lv_at hl 0 rfl) ?_
    obtain ⟨⟨x43, M43⟩, hc43, hf⟩ := fm_bd hf
    dsimp only at hf
    refine fm_callV C E [] [] lm_X10_129 wk_X10_wasRight (c_Model_wasRight l G _ _ _ hc43) hM_0 rfl rfl rfl hl.1 (by simp [Value.category]) ⟨⟨rfl, rfl⟩, by decide, by decide⟩ ⟨by decide, by decide⟩ dX10_day_43 rfl (fun H locs E => ?_)
    refine W.eq (g2 := F0 m 46 ls (.int x43 :: [])) rfl ?_
    refine lv_if_ne (tgt := 56) C.1 C.2.1 dX10_day_46 (by decide) (fun hc46 => ?_) (fun hc46 => ?_)
    · have hf := fm_in' hf hc46
      refine lv_aload_n C.1 C.2.1 dX10_day_56 rfl (lv_at hl 0 rfl) ?_
      obtain ⟨M57, hc57, hf⟩ := fm_bd hf
      refine fm_callV C E [] [] lm_X10_294 wk_X10_lay (c_Model_lay l G N _ _ hc57) hM_0 rfl rfl rfl hl.1 (by simp [Value.category]) ⟨⟨rfl, rfl⟩, by decide, by decide⟩ ⟨by decide, by decide⟩ dX10_day_57 rfl (fun H locs E => ?_)
      refine W.eq (g2 := F0 m 60 ls []) rfl ?_
      refine lv_iconst (v := 0) C.1 C.2.1 dX10_day_60 (by decide) ?_
      refine lv_istore_n (lv' := [(2, .int _), (0, .ref _), (1, .int _)]) C.1 C.2.1 dX10_day_61 rfl hl (by decide) rfl (fun ls hl => ?_)
      exact L62 _ N _ _ _ _ _ E (lv_sub hl [1, 2, 0] rfl) hf
    · have hf := fm_ip hf hc46
      refine lv_iconst (v := (-1)) C.1 C.2.1 dX10_day_49 (by decide) ?_
      refine lv_aload_n C.1 C.2.1 dX10_day_50 rfl (lv_at hl 0 rfl) ?_
      refine fm_geti C E lf_X10_96 hM_0 rfl dX10_day_51 ?_
      refine lv_isub C.1 C.2.1 dX10_day_54 ?_
      obtain ⟨rfl, rfl⟩ := fm_rt2 hf
      exact fm_iret C E rfl rfl dX10_day_55
  have L11 : ∀ (n11 : Nat) (v1 : Int32) (M : fm_M) (H : Heap) (locs : List Loc) (ls : Array Slot), fm_Wd shM G M s H locs → lv_has ls 3 [(0, .ref (G.2.1 0)), (1, .int v1)] → fm_lp (pModel_day_L11 N) n11 (v1, M) = some (r, M') → W p l e { frames := 7, cells := 0, slots := 0, locals := 163 } s m args below meth c H locs 0 0 (fm_Z below shM G args s (some (.int r)) M') (F0 m 11 ls []) := by
    intro  n11
    induction n11 with
    | zero => intro v1 M H locs ls E hl hf; exact fm_lp_0 hf
    | succ n11 ih11 =>
      intro v1 M H locs ls E hl hf
      have hf : pModel_day_L11b N (fm_lp (pModel_day_L11 N) n11) v1 M = some (r, M') := hf
      unfold pModel_day_L11b at hf
      refine lv_aload_n C.1 C.2.1 dX10_day_11 rfl (lv_at hl 0 rfl) ?_
      obtain ⟨x12, hc12, hf⟩ := fm_bd hf
      refine fm_callV C E [] [] lm_X10_99 wk_X10_fine (c_Model_fine l G _ _  hc12) hM_0 rfl rfl rfl hl.1 (by simp [Value.category]) ⟨⟨rfl, rfl⟩, by decide, by decide⟩ ⟨by decide, by decide⟩ dX10_day_12 rfl (fun H locs E => ?_)
      refine W.eq (g2 := F0 m 15 ls (.int x12 :: [])) rfl ?_
      refine lv_if_eq (tgt := 42) C.1 C.2.1 dX10_day_15 (by decide) (fun hc15 => ?_) (fun hc15 => ?_)
      · have hf := fm_ip hf hc15
        exact J42 _ _ _ _ _ E (lv_sub hl [0, 1] rfl) hf
      · have hf := fm_in' hf hc15
        refine lv_aload_n C.1 C.2.1 dX10_day_18 rfl (lv_at hl 0 rfl) ?_
        refine fm_geti C E lf_X10_93 hM_0 rfl dX10_day_19 ?_
        refine lv_aload_n C.1 C.2.1 dX10_day_22 rfl (lv_at hl 0 rfl) ?_
        refine fm_geti C E lf_X10_90 hM_0 rfl dX10_day_23 ?_
        refine lv_icmp_ge (tgt := 42) C.1 C.2.1 dX10_day_26 (by decide) (fun hc26 => ?_) (fun hc26 => ?_)
        · have hf := fm_ip hf hc26
          exact J42 _ _ _ _ _ E (lv_sub hl [0, 1] rfl) hf
        · have hf := fm_in' hf hc26
          refine lv_aload_n C.1 C.2.1 dX10_day_29 rfl (lv_at hl 0 rfl) ?_
          refine lv_iconst (v := 3) C.1 C.2.1 dX10_day_30 (by decide) ?_
          refine lv_iload_n C.1 C.2.1 dX10_day_31 rfl (lv_at hl 1 rfl) ?_
          refine lv_imul C.1 C.2.1 dX10_day_32 ?_
          obtain ⟨M33, hc33, hf⟩ := fm_bd hf
          refine fm_callV C E [.int _] [] lm_X10_328 wk_X10_readAct (c_Model_readAct l G N _ _ _ hc33) hM_0 rfl rfl rfl hl.1 (by simp [Value.category]) ⟨⟨rfl, rfl⟩, by decide, by decide⟩ ⟨by decide, by decide⟩ dX10_day_33 rfl (fun H locs E => ?_)
          refine W.eq (g2 := F0 m 36 ls []) rfl ?_
          refine fm_iinc C (v := 1) (lv' := [(1, .int _), (0, .ref _)]) (k := 1) hl rfl (by decide) (by decide) rfl dX10_day_36 (fun ls hl => ?_)
          refine lv_goto (tgt := 11) C.1 C.2.1 dX10_day_39 (by decide) ?_
          exact ih11 _ _ _ _ _ E (lv_sub hl [1, 0] rfl) hf
  unfold pModel_day at hf
  refine lv_aload_n C.1 C.2.1 dX10_day_0 rfl (lv_at hl 0 rfl) ?_
  refine lv_iconst (v := 0) C.1 C.2.1 dX10_day_1 (by decide) ?_
  obtain ⟨M2, e2, hf⟩ := fm_pt_s hf
  refine fm_put' C E e2 lp_X10_77 hM_0 rfl dX10_day_2 (fun H locs E => ?_)
  refine lv_aload_n C.1 C.2.1 dX10_day_5 rfl (lv_at hl 0 rfl) ?_
  obtain ⟨M6, hc6, hf⟩ := fm_bd hf
  refine fm_callV C E [] [] lm_X10_115 wk_X10_begin (c_Model_begin l G _ _ hc6) hM_0 rfl rfl rfl hl.1 (by simp [Value.category]) ⟨⟨rfl, rfl⟩, by decide, by decide⟩ ⟨by decide, by decide⟩ dX10_day_6 rfl (fun H locs E => ?_)
  refine W.eq (g2 := F0 m 9 ls []) rfl ?_
  refine lv_iconst (v := 0) C.1 C.2.1 dX10_day_9 (by decide) ?_
  refine lv_istore_n (lv' := [(1, .int _), (0, .ref _)]) C.1 C.2.1 dX10_day_10 rfl hl (by decide) rfl (fun ls hl => ?_)
  exact L11  N _ _ _ _ _ E (lv_sub hl [1, 0] rfl) hf
theorem dX1_find_0 : decode cX1_find 0 = .ok (.iload_n 2, 1) := by decide +kernel
theorem dX1_find_1 : decode cX1_find 1 = .ok (.iconst 1, 1) := by decide +kernel
theorem dX1_find_2 : decode cX1_find 2 = .ok (.bipush 48, 2) := by decide +kernel
theorem dX1_find_4 : decode cX1_find 4 = .ok (.invokestatic 28, 3) := by decide +kernel
theorem dX1_find_7 : decode cX1_find 7 = .ok (.istore 4, 2) := by decide +kernel
theorem dX1_find_9 : decode cX1_find 9 = .ok (.aload_n 0, 1) := by decide +kernel
theorem dX1_find_10 : decode cX1_find 10 = .ok (.iload_n 1, 1) := by decide +kernel
theorem dX1_find_11 : decode cX1_find 11 = .ok (.iload 4, 2) := by decide +kernel
theorem dX1_find_13 : decode cX1_find 13 = .ok (.iload_n 3, 1) := by decide +kernel
theorem dX1_find_14 : decode cX1_find 14 = .ok (.invokevirtual 32, 3) := by decide +kernel
theorem dX1_find_17 : decode cX1_find 17 = .ok (.iconst 0, 1) := by decide +kernel
theorem dX1_find_18 : decode cX1_find 18 = .ok (.istore 5, 2) := by decide +kernel
theorem dX1_find_20 : decode cX1_find 20 = .ok (.iload 5, 2) := by decide +kernel
theorem dX1_find_22 : decode cX1_find 22 = .ok (.iload 4, 2) := by decide +kernel
theorem dX1_find_24 : decode cX1_find 24 = .ok (.if_icmp .ge 15, 3) := by decide +kernel
theorem dX1_find_27 : decode cX1_find 27 = .ok (.aload_n 0, 1) := by decide +kernel
theorem dX1_find_28 : decode cX1_find 28 = .ok (.iload 5, 2) := by decide +kernel
theorem dX1_find_30 : decode cX1_find 30 = .ok (.invokevirtual 36, 3) := by decide +kernel
theorem dX1_find_33 : decode cX1_find 33 = .ok (.iinc 5 1, 3) := by decide +kernel
theorem dX1_find_36 : decode cX1_find 36 = .ok (.goto (-16), 3) := by decide +kernel
theorem dX1_find_39 : decode cX1_find 39 = .ok (.aload_n 0, 1) := by decide +kernel
theorem dX1_find_40 : decode cX1_find 40 = .ok (.invokevirtual 40, 3) := by decide +kernel
theorem dX1_find_43 : decode cX1_find 43 = .ok (.ireturn, 1) := by decide +kernel
set_option maxHeartbeats 4000000 in
set_option maxRecDepth 100000 in
theorem c_Compass_find (l : Launch) (G : fm_G) (N : Nat) (M : fm_M) (v1 : Int32) (v2 : Int32) (v3 : Int32) (r : Int32) (M' : fm_M) (hf : pCompass_find N M v1 v2 v3 = some (r, M')) : fm_Met l yX1_find cX1_find 6 (some .int) { frames := 6, cells := 0, slots := 0, locals := 151 } shC G [.ref (G.2.1 200), .int v1, .int v2, .int v3] M (some (.int r)) M' := by
  refine fm_enter (by decide) (Nat.le_of_ble_eq_true rfl) ?_
  intro p e s m args below meth c ls C E hl
  have hl : lv_has ls 6 [(0, .ref (G.2.1 200)), (1, .int v1), (2, .int v2), (3, .int v3)] := hl
  have L20 : ∀ (w20_v4 : Int32) (n20 : Nat) (v5 : Int32) (M : fm_M) (H : Heap) (locs : List Loc) (ls : Array Slot), fm_Wd shC G M s H locs → lv_has ls 6 [(0, .ref (G.2.1 200)), (4, .int w20_v4), (5, .int v5)] → fm_lp (pCompass_find_L20 N w20_v4) n20 (v5, M) = some (r, M') → W p l e { frames := 6, cells := 0, slots := 0, locals := 151 } s m args below meth c H locs 0 0 (fm_Z below shC G args s (some (.int r)) M') (F0 m 20 ls []) := by
    intro w20_v4 n20
    induction n20 with
    | zero => intro v5 M H locs ls E hl hf; exact fm_lp_0 hf
    | succ n20 ih20 =>
      intro v5 M H locs ls E hl hf
      have hf : pCompass_find_L20b N w20_v4 (fm_lp (pCompass_find_L20 N w20_v4) n20) v5 M = some (r, M') := hf
      unfold pCompass_find_L20b at hf
      refine lv_iload C.1 C.2.1 dX1_find_20 (lv_at hl 2 rfl) ?_
      refine lv_iload C.1 C.2.1 dX1_find_22 (lv_at hl 1 rfl) ?_
      refine lv_icmp_ge (tgt := 39) C.1 C.2.1 dX1_find_24 (by decide) (fun hc24 => ?_) (fun hc24 => ?_)
      · have hf := fm_ip hf hc24
        refine lv_aload_n C.1 C.2.1 dX1_find_39 rfl (lv_at hl 0 rfl) ?_
        obtain ⟨x40, hc40, hf⟩ := fm_bd hf
        refine fm_callV C E [] [] lm_X1_40 wk_X1_direction (c_Compass_direction l G N _ _  hc40) hC_200 rfl rfl rfl hl.1 (by simp [Value.category]) ⟨⟨rfl, rfl⟩, by decide, by decide⟩ ⟨by decide, by decide⟩ dX1_find_40 rfl (fun H locs E => ?_)
        refine W.eq (g2 := F0 m 43 ls (.int x40 :: [])) rfl ?_
        obtain ⟨rfl, rfl⟩ := fm_rt2 hf
        exact fm_iret C E rfl rfl dX1_find_43
      · have hf := fm_in' hf hc24
        refine lv_aload_n C.1 C.2.1 dX1_find_27 rfl (lv_at hl 0 rfl) ?_
        refine lv_iload C.1 C.2.1 dX1_find_28 (lv_at hl 2 rfl) ?_
        obtain ⟨M30, hc30, hf⟩ := fm_bd hf
        refine fm_callV C E [.int _] [] lm_X1_36 wk_X1_addToTotals (c_Compass_addToTotals l G N _ _ _ hc30) hC_200 rfl rfl rfl hl.1 (by simp [Value.category]) ⟨⟨rfl, rfl⟩, by decide, by decide⟩ ⟨by decide, by decide⟩ dX1_find_30 rfl (fun H locs E => ?_)
        refine W.eq (g2 := F0 m 33 ls []) rfl ?_
        refine fm_iinc C (v := 1) (lv' := [(5, .int _), (0, .ref _), (4, .int _)]) (k := 2) hl rfl (by decide) (by decide) rfl dX1_find_33 (fun ls hl => ?_)
        refine lv_goto (tgt := 20) C.1 C.2.1 dX1_find_36 (by decide) ?_
        exact ih20 _ _ _ _ _ E (lv_sub hl [1, 2, 0] rfl) hf
  unfold pCompass_find at hf
  refine lv_iload_n C.1 C.2.1 dX1_find_0 rfl (lv_at hl 2 rfl) ?_
  refine lv_iconst (v := 1) C.1 C.2.1 dX1_find_1 (by decide) ?_
  refine lv_bipush (v := 48) C.1 C.2.1 dX1_find_2 (by decide) ?_
  obtain ⟨x4, hc4, hf⟩ := fm_bd hf
  refine fm_callS C E [.int _, .int _, .int _] [] lm_X1_28 wk_X9_clamp (c_MicRow_clamp l G _ _ _ _ _  hc4) rfl hl.1 (by simp [Value.category]) ⟨⟨rfl, rfl⟩, by decide, by decide⟩ ⟨by decide, by decide⟩ dX1_find_4 rfl (fun H locs E => ?_)
  refine W.eq (g2 := F0 m 7 ls (.int x4 :: [])) rfl ?_
  refine lv_istore (lv' := [(4, .int _), (0, .ref _), (1, .int _), (2, .int _), (3, .int _)]) C.1 C.2.1 dX1_find_7 hl (by decide) rfl (fun ls hl => ?_)
  refine lv_aload_n C.1 C.2.1 dX1_find_9 rfl (lv_at hl 1 rfl) ?_
  refine lv_iload_n C.1 C.2.1 dX1_find_10 rfl (lv_at hl 2 rfl) ?_
  refine lv_iload C.1 C.2.1 dX1_find_11 (lv_at hl 0 rfl) ?_
  refine lv_iload_n C.1 C.2.1 dX1_find_13 rfl (lv_at hl 4 rfl) ?_
  obtain ⟨M14, hc14, hf⟩ := fm_bd hf
  refine fm_callV C E [.int _, .int _, .int _] [] lm_X1_32 wk_X1_measure (c_Compass_measure l G N _ _ _ _ _ hc14) hC_200 rfl rfl rfl hl.1 (by simp [Value.category]) ⟨⟨rfl, rfl⟩, by decide, by decide⟩ ⟨by decide, by decide⟩ dX1_find_14 rfl (fun H locs E => ?_)
  refine W.eq (g2 := F0 m 17 ls []) rfl ?_
  refine lv_iconst (v := 0) C.1 C.2.1 dX1_find_17 (by decide) ?_
  refine lv_istore (lv' := [(5, .int _), (4, .int _), (0, .ref _), (1, .int _), (2, .int _), (3, .int _)]) C.1 C.2.1 dX1_find_18 hl (by decide) rfl (fun ls hl => ?_)
  exact L20 _ N _ _ _ _ _ E (lv_sub hl [2, 1, 0] rfl) hf
