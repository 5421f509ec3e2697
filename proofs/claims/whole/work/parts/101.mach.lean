theorem dX9_demand_0 : decode cX9_demand 0 = .ok (.iload_n 0, 1) := by decide +kernel
theorem dX9_demand_1 : decode cX9_demand 1 = .ok (.ifCond .ne 13, 3) := by decide +kernel
theorem dX9_demand_4 : decode cX9_demand 4 = .ok (.new 201, 3) := by decide +kernel
theorem dX9_demand_7 : decode cX9_demand 7 = .ok (.dup, 1) := by decide +kernel
theorem dX9_demand_8 : decode cX9_demand 8 = .ok (.ldc 203, 2) := by decide +kernel
theorem dX9_demand_10 : decode cX9_demand 10 = .ok (.invokespecial 205, 3) := by decide +kernel
theorem dX9_demand_13 : decode cX9_demand 13 = .ok (.athrow, 1) := by decide +kernel
theorem dX9_demand_14 : decode cX9_demand 14 = .ok (.return_, 1) := by decide +kernel
set_option maxHeartbeats 4000000 in
set_option maxRecDepth 100000 in
theorem c_MicRow_demand (l : Launch) (G : fm_G) (M : fm_M) (v0 : Int32) (hf : pMicRow_demand M v0 = some ()) : fm_Met l yX9_demand cX9_demand 1 none { frames := 0, cells := 0, slots := 0, locals := 0 } shC G [.int v0] M none M := by
  refine fm_enter (by decide) (Nat.le_of_ble_eq_true rfl) ?_
  intro p e s m args below meth c ls C E hl
  have hl : lv_has ls 1 [(0, .int v0)] := hl
  unfold pMicRow_demand at hf
  refine lv_iload_n C.1 C.2.1 dX9_demand_0 rfl (lv_at hl 0 rfl) ?_
  refine lv_if_ne (tgt := 14) C.1 C.2.1 dX9_demand_1 (by decide) (fun hc1 => ?_) (fun hc1 => ?_)
  · have hf := fm_in' hf hc1
    exact fm_vret C E rfl dX9_demand_14
  · have hf := fm_ip hf hc1
    cases hf
theorem dX9_areTwoMics_0 : decode cX9_areTwoMics 0 = .ok (.aload_n 0, 1) := by decide +kernel
theorem dX9_areTwoMics_1 : decode cX9_areTwoMics 1 = .ok (.getfield 10, 3) := by decide +kernel
theorem dX9_areTwoMics_4 : decode cX9_areTwoMics 4 = .ok (.iload_n 1, 1) := by decide +kernel
theorem dX9_areTwoMics_5 : decode cX9_areTwoMics 5 = .ok (.invokevirtual 116, 3) := by decide +kernel
theorem dX9_areTwoMics_8 : decode cX9_areTwoMics 8 = .ok (.ifCond .eq 23, 3) := by decide +kernel
theorem dX9_areTwoMics_11 : decode cX9_areTwoMics 11 = .ok (.aload_n 0, 1) := by decide +kernel
theorem dX9_areTwoMics_12 : decode cX9_areTwoMics 12 = .ok (.getfield 10, 3) := by decide +kernel
theorem dX9_areTwoMics_15 : decode cX9_areTwoMics 15 = .ok (.iload_n 2, 1) := by decide +kernel
theorem dX9_areTwoMics_16 : decode cX9_areTwoMics 16 = .ok (.invokevirtual 116, 3) := by decide +kernel
theorem dX9_areTwoMics_19 : decode cX9_areTwoMics 19 = .ok (.ifCond .eq 12, 3) := by decide +kernel
theorem dX9_areTwoMics_22 : decode cX9_areTwoMics 22 = .ok (.iload_n 1, 1) := by decide +kernel
theorem dX9_areTwoMics_23 : decode cX9_areTwoMics 23 = .ok (.iload_n 2, 1) := by decide +kernel
theorem dX9_areTwoMics_24 : decode cX9_areTwoMics 24 = .ok (.if_icmp .eq 7, 3) := by decide +kernel
theorem dX9_areTwoMics_27 : decode cX9_areTwoMics 27 = .ok (.iconst 1, 1) := by decide +kernel
theorem dX9_areTwoMics_28 : decode cX9_areTwoMics 28 = .ok (.goto 4, 3) := by decide +kernel
theorem dX9_areTwoMics_31 : decode cX9_areTwoMics 31 = .ok (.iconst 0, 1) := by decide +kernel
theorem dX9_areTwoMics_32 : decode cX9_areTwoMics 32 = .ok (.ireturn, 1) := by decide +kernel
set_option maxHeartbeats 4000000 in
set_option maxRecDepth 100000 in
theorem c_MicRow_areTwoMics (l : Launch) (G : fm_G) (M : fm_M) (v1 : Int32) (v2 : Int32) (r : Int32) (hf : pMicRow_areTwoMics M v1 v2 = some r) : fm_Met l yX9_areTwoMics cX9_areTwoMics 3 (some .boolean) { frames := 1, cells := 0, slots := 0, locals := 21 } shC G [.ref (G.2.1 0), .int v1, .int v2] M (some (.int r)) M := by
  refine fm_enter (by decide) (Nat.le_of_ble_eq_true rfl) ?_
  intro p e s m args below meth c ls C E hl
  have hl : lv_has ls 3 [(0, .ref (G.2.1 0)), (1, .int v1), (2, .int v2)] := hl
  unfold pMicRow_areTwoMics at hf
  refine lv_aload_n C.1 C.2.1 dX9_areTwoMics_0 rfl (lv_at hl 0 rfl) ?_
  refine fm_getr C E lf_X9_10 hC_0 rfl dX9_areTwoMics_1 ?_
  refine lv_iload_n C.1 C.2.1 dX9_areTwoMics_4 rfl (lv_at hl 1 rfl) ?_
  obtain ⟨x5, hc5, hf⟩ := fm_bd hf
  refine fm_callV C E [.int _] [] lm_X9_116 wk_X7_hasMic (c_Scene_hasMic l G _ _ _  hc5) hC_1 rfl rfl rfl hl.1 (by simp [Value.category]) ⟨⟨rfl, rfl⟩, by decide, by decide⟩ ⟨by decide, by decide⟩ dX9_areTwoMics_5 rfl (fun H locs E => ?_)
  refine W.eq (g2 := F0 m 8 ls (.int x5 :: [])) rfl ?_
  refine lv_if_eq (tgt := 31) C.1 C.2.1 dX9_areTwoMics_8 (by decide) (fun hc8 => ?_) (fun hc8 => ?_)
  · have hf := fm_ip hf hc8
    refine lv_iconst (v := 0) C.1 C.2.1 dX9_areTwoMics_31 (by decide) ?_
    obtain rfl := fm_rt1 hf
    exact fm_iret C E rfl rfl dX9_areTwoMics_32
  · have hf := fm_in' hf hc8
    refine lv_aload_n C.1 C.2.1 dX9_areTwoMics_11 rfl (lv_at hl 0 rfl) ?_
    refine fm_getr C E lf_X9_10 hC_0 rfl dX9_areTwoMics_12 ?_
    refine lv_iload_n C.1 C.2.1 dX9_areTwoMics_15 rfl (lv_at hl 2 rfl) ?_
    obtain ⟨x16, hc16, hf⟩ := fm_bd hf
    refine fm_callV C E [.int _] [] lm_X9_116 wk_X7_hasMic (c_Scene_hasMic l G _ _ _  hc16) hC_1 rfl rfl rfl hl.1 (by simp [Value.category]) ⟨⟨rfl, rfl⟩, by decide, by decide⟩ ⟨by decide, by decide⟩ dX9_areTwoMics_16 rfl (fun H locs E => ?_)
    refine W.eq (g2 := F0 m 19 ls (.int x16 :: [])) rfl ?_
    refine lv_if_eq (tgt := 31) C.1 C.2.1 dX9_areTwoMics_19 (by decide) (fun hc19 => ?_) (fun hc19 => ?_)
    · have hf := fm_ip hf hc19
      refine lv_iconst (v := 0) C.1 C.2.1 dX9_areTwoMics_31 (by decide) ?_
      obtain rfl := fm_rt1 hf
      exact fm_iret C E rfl rfl dX9_areTwoMics_32
    · have hf := fm_in' hf hc19
      refine lv_iload_n C.1 C.2.1 dX9_areTwoMics_22 rfl (lv_at hl 1 rfl) ?_
      refine lv_iload_n C.1 C.2.1 dX9_areTwoMics_23 rfl (lv_at hl 2 rfl) ?_
      refine lv_icmp_eq (tgt := 31) C.1 C.2.1 dX9_areTwoMics_24 (by decide) (fun hc24 => ?_) (fun hc24 => ?_)
      · have hf := fm_ip hf hc24
        refine lv_iconst (v := 0) C.1 C.2.1 dX9_areTwoMics_31 (by decide) ?_
        obtain rfl := fm_rt1 hf
        exact fm_iret C E rfl rfl dX9_areTwoMics_32
      · have hf := fm_in' hf hc24
        refine lv_iconst (v := 1) C.1 C.2.1 dX9_areTwoMics_27 (by decide) ?_
        refine lv_goto (tgt := 32) C.1 C.2.1 dX9_areTwoMics_28 (by decide) ?_
        obtain rfl := fm_rt1 hf
        exact fm_iret C E rfl rfl dX9_areTwoMics_32
theorem dX9_count_0 : decode cX9_count 0 = .ok (.iload_n 1, 1) := by decide +kernel
theorem dX9_count_1 : decode cX9_count 1 = .ok (.tableswitch 125 0 8 #[51, 59, 67, 75, 85, 93, 101, 109, 117], 51) := by decide +kernel
theorem dX9_count_52 : decode cX9_count 52 = .ok (.aload_n 0, 1) := by decide +kernel
theorem dX9_count_53 : decode cX9_count 53 = .ok (.getfield 10, 3) := by decide +kernel
theorem dX9_count_56 : decode cX9_count 56 = .ok (.getfield 284, 3) := by decide +kernel
theorem dX9_count_59 : decode cX9_count 59 = .ok (.ireturn, 1) := by decide +kernel
theorem dX9_count_60 : decode cX9_count 60 = .ok (.aload_n 0, 1) := by decide +kernel
theorem dX9_count_61 : decode cX9_count 61 = .ok (.getfield 10, 3) := by decide +kernel
theorem dX9_count_64 : decode cX9_count 64 = .ok (.getfield 278, 3) := by decide +kernel
theorem dX9_count_67 : decode cX9_count 67 = .ok (.ireturn, 1) := by decide +kernel
theorem dX9_count_68 : decode cX9_count 68 = .ok (.aload_n 0, 1) := by decide +kernel
theorem dX9_count_69 : decode cX9_count 69 = .ok (.getfield 10, 3) := by decide +kernel
theorem dX9_count_72 : decode cX9_count 72 = .ok (.invokevirtual 171, 3) := by decide +kernel
theorem dX9_count_75 : decode cX9_count 75 = .ok (.ireturn, 1) := by decide +kernel
theorem dX9_count_76 : decode cX9_count 76 = .ok (.aload_n 0, 1) := by decide +kernel
theorem dX9_count_77 : decode cX9_count 77 = .ok (.getfield 10, 3) := by decide +kernel
theorem dX9_count_80 : decode cX9_count 80 = .ok (.getfield 388, 3) := by decide +kernel
theorem dX9_count_83 : decode cX9_count 83 = .ok (.iconst 0, 1) := by decide +kernel
theorem dX9_count_84 : decode cX9_count 84 = .ok (.iaload, 1) := by decide +kernel
theorem dX9_count_85 : decode cX9_count 85 = .ok (.ireturn, 1) := by decide +kernel
theorem dX9_count_86 : decode cX9_count 86 = .ok (.aload_n 0, 1) := by decide +kernel
theorem dX9_count_87 : decode cX9_count 87 = .ok (.getfield 10, 3) := by decide +kernel
theorem dX9_count_90 : decode cX9_count 90 = .ok (.invokevirtual 208, 3) := by decide +kernel
theorem dX9_count_93 : decode cX9_count 93 = .ok (.ireturn, 1) := by decide +kernel
theorem dX9_count_94 : decode cX9_count 94 = .ok (.aload_n 0, 1) := by decide +kernel
theorem dX9_count_95 : decode cX9_count 95 = .ok (.getfield 10, 3) := by decide +kernel
theorem dX9_count_98 : decode cX9_count 98 = .ok (.invokevirtual 211, 3) := by decide +kernel
theorem dX9_count_101 : decode cX9_count 101 = .ok (.ireturn, 1) := by decide +kernel
theorem dX9_count_102 : decode cX9_count 102 = .ok (.aload_n 0, 1) := by decide +kernel
theorem dX9_count_103 : decode cX9_count 103 = .ok (.getfield 30, 3) := by decide +kernel
theorem dX9_count_106 : decode cX9_count 106 = .ok (.getfield 391, 3) := by decide +kernel
theorem dX9_count_109 : decode cX9_count 109 = .ok (.ireturn, 1) := by decide +kernel
theorem dX9_count_110 : decode cX9_count 110 = .ok (.aload_n 0, 1) := by decide +kernel
theorem dX9_count_111 : decode cX9_count 111 = .ok (.getfield 53, 3) := by decide +kernel
theorem dX9_count_114 : decode cX9_count 114 = .ok (.getfield 394, 3) := by decide +kernel
theorem dX9_count_117 : decode cX9_count 117 = .ok (.ireturn, 1) := by decide +kernel
theorem dX9_count_118 : decode cX9_count 118 = .ok (.aload_n 0, 1) := by decide +kernel
theorem dX9_count_119 : decode cX9_count 119 = .ok (.getfield 37, 3) := by decide +kernel
theorem dX9_count_122 : decode cX9_count 122 = .ok (.getfield 341, 3) := by decide +kernel
theorem dX9_count_125 : decode cX9_count 125 = .ok (.ireturn, 1) := by decide +kernel
theorem dX9_count_126 : decode cX9_count 126 = .ok (.iconst (-1), 1) := by decide +kernel
theorem dX9_count_127 : decode cX9_count 127 = .ok (.ireturn, 1) := by decide +kernel
set_option maxHeartbeats 4000000 in
set_option maxRecDepth 100000 in
theorem c_MicRow_count (l : Launch) (G : fm_G) (N : Nat) (M : fm_M) (v1 : Int32) (r : Int32) (hf : pMicRow_count N M v1 = some r) : fm_Met l yX9_count cX9_count 2 (some .int) { frames := 3, cells := 0, slots := 0, locals := 64 } shC G [.ref (G.2.1 0), .int v1] M (some (.int r)) M := by
  refine fm_enter (by decide) (Nat.le_of_ble_eq_true rfl) ?_
  intro p e s m args below meth c ls C E hl
  have hl : lv_has ls 2 [(0, .ref (G.2.1 0)), (1, .int v1)] := hl
  unfold pMicRow_count at hf
  refine lv_iload_n C.1 C.2.1 dX9_count_0 rfl (lv_at hl 1 rfl) ?_
  rcases fm_io hf with ⟨hs1_0, hf⟩ | ⟨hs1_0, hf⟩
  · refine fm_tcase C dX9_count_1 hs1_0 (by decide) (by decide) (off := 51) (by decide) (tgt := 52) (by decide) ?_
    refine lv_aload_n C.1 C.2.1 dX9_count_52 rfl (lv_at hl 0 rfl) ?_
    refine fm_getr C E lf_X9_10 hC_0 rfl dX9_count_53 ?_
    refine fm_geti C E lf_X9_284 hC_1 rfl dX9_count_56 ?_
    obtain rfl := fm_rt1 hf
    exact fm_iret C E rfl rfl dX9_count_59
  · rcases fm_io hf with ⟨hs1_1, hf⟩ | ⟨hs1_1, hf⟩
    · refine fm_tcase C dX9_count_1 hs1_1 (by decide) (by decide) (off := 59) (by decide) (tgt := 60) (by decide) ?_
      refine lv_aload_n C.1 C.2.1 dX9_count_60 rfl (lv_at hl 0 rfl) ?_
      refine fm_getr C E lf_X9_10 hC_0 rfl dX9_count_61 ?_
      refine fm_geti C E lf_X9_278 hC_1 rfl dX9_count_64 ?_
      obtain rfl := fm_rt1 hf
      exact fm_iret C E rfl rfl dX9_count_67
    · rcases fm_io hf with ⟨hs1_2, hf⟩ | ⟨hs1_2, hf⟩
      · refine fm_tcase C dX9_count_1 hs1_2 (by decide) (by decide) (off := 67) (by decide) (tgt := 68) (by decide) ?_
        refine lv_aload_n C.1 C.2.1 dX9_count_68 rfl (lv_at hl 0 rfl) ?_
        refine fm_getr C E lf_X9_10 hC_0 rfl dX9_count_69 ?_
        obtain ⟨x72, hc72, hf⟩ := fm_bd hf
        refine fm_callV C E [] [] lm_X9_171 wk_X7_liveSet (c_Scene_liveSet l G N _ _  hc72) hC_1 rfl rfl rfl hl.1 (by simp [Value.category]) ⟨⟨rfl, rfl⟩, by decide, by decide⟩ ⟨by decide, by decide⟩ dX9_count_72 rfl (fun H locs E => ?_)
        refine W.eq (g2 := F0 m 75 ls (.int x72 :: [])) rfl ?_
        obtain rfl := fm_rt1 hf
        exact fm_iret C E rfl rfl dX9_count_75
      · rcases fm_io hf with ⟨hs1_3, hf⟩ | ⟨hs1_3, hf⟩
        · refine fm_tcase C dX9_count_1 hs1_3 (by decide) (by decide) (off := 75) (by decide) (tgt := 76) (by decide) ?_
          refine lv_aload_n C.1 C.2.1 dX9_count_76 rfl (lv_at hl 0 rfl) ?_
          refine fm_getr C E lf_X9_10 hC_0 rfl dX9_count_77 ?_
          refine fm_getr C E lf_X9_388 hC_1 rfl dX9_count_80 ?_
          refine lv_iconst (v := 0) C.1 C.2.1 dX9_count_83 (by decide) ?_
          refine fm_ialdc C E 0 (by decide) hC_14 (by decide) dX9_count_84 ?_
          obtain rfl := fm_rt1 hf
          exact fm_iret C E rfl rfl dX9_count_85
        · rcases fm_io hf with ⟨hs1_4, hf⟩ | ⟨hs1_4, hf⟩
          · refine fm_tcase C dX9_count_1 hs1_4 (by decide) (by decide) (off := 85) (by decide) (tgt := 86) (by decide) ?_
            refine lv_aload_n C.1 C.2.1 dX9_count_86 rfl (lv_at hl 0 rfl) ?_
            refine fm_getr C E lf_X9_10 hC_0 rfl dX9_count_87 ?_
            obtain ⟨x90, hc90, hf⟩ := fm_bd hf
            refine fm_callV C E [] [] lm_X9_208 wk_X7_begin (c_Scene_begin l G _ _  hc90) hC_1 rfl rfl rfl hl.1 (by simp [Value.category]) ⟨⟨rfl, rfl⟩, by decide, by decide⟩ ⟨by decide, by decide⟩ dX9_count_90 rfl (fun H locs E => ?_)
            refine W.eq (g2 := F0 m 93 ls (.int x90 :: [])) rfl ?_
            obtain rfl := fm_rt1 hf
            exact fm_iret C E rfl rfl dX9_count_93
          · rcases fm_io hf with ⟨hs1_5, hf⟩ | ⟨hs1_5, hf⟩
            · refine fm_tcase C dX9_count_1 hs1_5 (by decide) (by decide) (off := 93) (by decide) (tgt := 94) (by decide) ?_
              refine lv_aload_n C.1 C.2.1 dX9_count_94 rfl (lv_at hl 0 rfl) ?_
              refine fm_getr C E lf_X9_10 hC_0 rfl dX9_count_95 ?_
              obtain ⟨x98, hc98, hf⟩ := fm_bd hf
              refine fm_callV C E [] [] lm_X9_211 wk_X7_length (c_Scene_length l G _ _  hc98) hC_1 rfl rfl rfl hl.1 (by simp [Value.category]) ⟨⟨rfl, rfl⟩, by decide, by decide⟩ ⟨by decide, by decide⟩ dX9_count_98 rfl (fun H locs E => ?_)
              refine W.eq (g2 := F0 m 101 ls (.int x98 :: [])) rfl ?_
              obtain rfl := fm_rt1 hf
              exact fm_iret C E rfl rfl dX9_count_101
            · rcases fm_io hf with ⟨hs1_6, hf⟩ | ⟨hs1_6, hf⟩
              · refine fm_tcase C dX9_count_1 hs1_6 (by decide) (by decide) (off := 101) (by decide) (tgt := 102) (by decide) ?_
                refine lv_aload_n C.1 C.2.1 dX9_count_102 rfl (lv_at hl 0 rfl) ?_
                refine fm_getr C E lf_X9_30 hC_0 rfl dX9_count_103 ?_
                refine fm_geti C E lf_X9_391 hC_59 rfl dX9_count_106 ?_
                obtain rfl := fm_rt1 hf
                exact fm_iret C E rfl rfl dX9_count_109
              · rcases fm_io hf with ⟨hs1_7, hf⟩ | ⟨hs1_7, hf⟩
                · refine fm_tcase C dX9_count_1 hs1_7 (by decide) (by decide) (off := 109) (by decide) (tgt := 110) (by decide) ?_
                  refine lv_aload_n C.1 C.2.1 dX9_count_110 rfl (lv_at hl 0 rfl) ?_
                  refine fm_getr C E lf_X9_53 hC_0 rfl dX9_count_111 ?_
                  refine fm_geti C E lf_X9_394 hC_176 rfl dX9_count_114 ?_
                  obtain rfl := fm_rt1 hf
                  exact fm_iret C E rfl rfl dX9_count_117
                · rcases fm_io hf with ⟨hs1_8, hf⟩ | ⟨hs1_8, hf⟩
                  · refine fm_tcase C dX9_count_1 hs1_8 (by decide) (by decide) (off := 117) (by decide) (tgt := 118) (by decide) ?_
                    refine lv_aload_n C.1 C.2.1 dX9_count_118 rfl (lv_at hl 0 rfl) ?_
                    refine fm_getr C E lf_X9_37 hC_0 rfl dX9_count_119 ?_
                    refine fm_geti C E lf_X9_341 hC_173 rfl dX9_count_122 ?_
                    obtain rfl := fm_rt1 hf
                    exact fm_iret C E rfl rfl dX9_count_125
                  · refine fm_tdef C dX9_count_1 [0, 1, 2, 3, 4, 5, 6, 7, 8] (by intro v hv; rcases List.mem_cons.mp hv with rfl | hv; exact lv_neT hs1_0 (by decide); rcases List.mem_cons.mp hv with rfl | hv; exact lv_neT hs1_1 (by decide); rcases List.mem_cons.mp hv with rfl | hv; exact lv_neT hs1_2 (by decide); rcases List.mem_cons.mp hv with rfl | hv; exact lv_neT hs1_3 (by decide); rcases List.mem_cons.mp hv with rfl | hv; exact lv_neT hs1_4 (by decide); rcases List.mem_cons.mp hv with rfl | hv; exact lv_neT hs1_5 (by decide); rcases List.mem_cons.mp hv with rfl | hv; exact lv_neT hs1_6 (by decide); rcases List.mem_cons.mp hv with rfl | hv; exact lv_neT hs1_7 (by decide); rcases List.mem_cons.mp hv with rfl | hv; exact lv_neT hs1_8 (by decide); exact absurd hv (by simp)) (by decide) (by decide) (tgt := 126) (by decide) ?_
                    refine lv_iconst (v := (-1)) C.1 C.2.1 dX9_count_126 (by decide) ?_
                    obtain rfl := fm_rt1 hf
                    exact fm_iret C E rfl rfl dX9_count_127
theorem dX9_row_0 : decode cX9_row 0 = .ok (.iload_n 1, 1) := by decide +kernel
theorem dX9_row_1 : decode cX9_row 1 = .ok (.ifCond .lt 18, 3) := by decide +kernel
theorem dX9_row_4 : decode cX9_row 4 = .ok (.iload_n 1, 1) := by decide +kernel
theorem dX9_row_5 : decode cX9_row 5 = .ok (.aload_n 0, 1) := by decide +kernel
theorem dX9_row_6 : decode cX9_row 6 = .ok (.getfield 53, 3) := by decide +kernel
theorem dX9_row_9 : decode cX9_row 9 = .ok (.getfield 394, 3) := by decide +kernel
theorem dX9_row_12 : decode cX9_row 12 = .ok (.if_icmp .ge 7, 3) := by decide +kernel
theorem dX9_row_15 : decode cX9_row 15 = .ok (.iconst 1, 1) := by decide +kernel
theorem dX9_row_16 : decode cX9_row 16 = .ok (.goto 4, 3) := by decide +kernel
theorem dX9_row_19 : decode cX9_row 19 = .ok (.iconst 0, 1) := by decide +kernel
theorem dX9_row_20 : decode cX9_row 20 = .ok (.invokestatic 137, 3) := by decide +kernel
theorem dX9_row_23 : decode cX9_row 23 = .ok (.aload_n 0, 1) := by decide +kernel
theorem dX9_row_24 : decode cX9_row 24 = .ok (.getfield 53, 3) := by decide +kernel
theorem dX9_row_27 : decode cX9_row 27 = .ok (.getfield 395, 3) := by decide +kernel
theorem dX9_row_30 : decode cX9_row 30 = .ok (.iload_n 1, 1) := by decide +kernel
theorem dX9_row_31 : decode cX9_row 31 = .ok (.laload, 1) := by decide +kernel
theorem dX9_row_32 : decode cX9_row 32 = .ok (.lreturn, 1) := by decide +kernel
set_option maxHeartbeats 4000000 in
set_option maxRecDepth 100000 in
theorem c_MicRow_row (l : Launch) (G : fm_G) (M : fm_M) (v1 : Int32) (r : Int64) (hf : pMicRow_row M v1 = some r) : fm_Met l yX9_row cX9_row 2 (some .long) { frames := 1, cells := 0, slots := 0, locals := 20 } shC G [.ref (G.2.1 0), .int v1] M (some (.long r)) M := by
  refine fm_enter (by decide) (Nat.le_of_ble_eq_true rfl) ?_
  intro p e s m args below meth c ls C E hl
  have hl : lv_has ls 2 [(0, .ref (G.2.1 0)), (1, .int v1)] := hl
  have J20 : ∀ (v1 : Int32) (s0 : Int32) (H : Heap) (locs : List Loc) (ls : Array Slot), fm_Wd shC G M s H locs → lv_has ls 2 [(0, .ref (G.2.1 0)), (1, .int v1)] → pMicRow_row_J20 M v1 s0 = some r → W p l e { frames := 1, cells := 0, slots := 0, locals := 20 } s m args below meth c H locs 0 0 (fm_Z below shC G args s (some (.long r)) M) (F0 m 20 ls [.int s0]) := by
    intro v1 s0 H locs ls E hl hf
    unfold pMicRow_row_J20 at hf
    obtain ⟨x20, hc20, hf⟩ := fm_bd hf
    refine fm_callS C E [.int _] [] lm_X9_137 wk_X9_demand (c_MicRow_demand l G _ _  hc20) rfl hl.1 (by simp [Value.category]) ⟨⟨rfl, rfl⟩, by decide, by decide⟩ ⟨by decide, by decide⟩ dX9_row_20 rfl (fun H locs E => ?_)
    refine W.eq (g2 := F0 m 23 ls []) rfl ?_
    refine lv_aload_n C.1 C.2.1 dX9_row_23 rfl (lv_at hl 0 rfl) ?_
    refine fm_getr C E lf_X9_53 hC_0 rfl dX9_row_24 ?_
    refine fm_getr C E lf_X9_395 hC_176 rfl dX9_row_27 ?_
    refine lv_iload_n C.1 C.2.1 dX9_row_30 rfl (lv_at hl 1 rfl) ?_
    obtain ⟨h31, x31, e31, hf⟩ := fm_ldl_e hf
    refine fm_lald' C E e31 hC_177 h31 dX9_row_31 ?_
    obtain rfl := fm_rt1 hf
    exact fm_lret C E rfl dX9_row_32
  have J19 : ∀ (v1 : Int32) (H : Heap) (locs : List Loc) (ls : Array Slot), fm_Wd shC G M s H locs → lv_has ls 2 [(0, .ref (G.2.1 0)), (1, .int v1)] → pMicRow_row_J19 M v1 = some r → W p l e { frames := 1, cells := 0, slots := 0, locals := 20 } s m args below meth c H locs 0 0 (fm_Z below shC G args s (some (.long r)) M) (F0 m 19 ls []) := by
    intro v1 H locs ls E hl hf
    unfold pMicRow_row_J19 at hf
    refine lv_iconst (v := 0) C.1 C.2.1 dX9_row_19 (by decide) ?_
    exact J20 _ _ _ _ _ E (lv_sub hl [0, 1] rfl) hf
  unfold pMicRow_row at hf
  refine lv_iload_n C.1 C.2.1 dX9_row_0 rfl (lv_at hl 1 rfl) ?_
  refine lv_if_lt (tgt := 19) C.1 C.2.1 dX9_row_1 (by decide) (fun hc1 => ?_) (fun hc1 => ?_)
  · have hf := fm_ip hf hc1
    exact J19 _ _ _ _ E (lv_sub hl [0, 1] rfl) hf
  · have hf := fm_in' hf hc1
    refine lv_iload_n C.1 C.2.1 dX9_row_4 rfl (lv_at hl 1 rfl) ?_
    refine lv_aload_n C.1 C.2.1 dX9_row_5 rfl (lv_at hl 0 rfl) ?_
    refine fm_getr C E lf_X9_53 hC_0 rfl dX9_row_6 ?_
    refine fm_geti C E lf_X9_394 hC_176 rfl dX9_row_9 ?_
    refine lv_icmp_ge (tgt := 19) C.1 C.2.1 dX9_row_12 (by decide) (fun hc12 => ?_) (fun hc12 => ?_)
    · have hf := fm_ip hf hc12
      exact J19 _ _ _ _ E (lv_sub hl [0, 1] rfl) hf
    · have hf := fm_in' hf hc12
      refine lv_iconst (v := 1) C.1 C.2.1 dX9_row_15 (by decide) ?_
      refine lv_goto (tgt := 20) C.1 C.2.1 dX9_row_16 (by decide) ?_
      exact J20 _ _ _ _ _ E (lv_sub hl [0, 1] rfl) hf
theorem dX9_within_0 : decode cX9_within 0 = .ok (.iload_n 0, 1) := by decide +kernel
theorem dX9_within_1 : decode cX9_within 1 = .ok (.iload_n 1, 1) := by decide +kernel
theorem dX9_within_2 : decode cX9_within 2 = .ok (.if_icmp .lt 12, 3) := by decide +kernel
theorem dX9_within_5 : decode cX9_within 5 = .ok (.iload_n 0, 1) := by decide +kernel
theorem dX9_within_6 : decode cX9_within 6 = .ok (.iload_n 2, 1) := by decide +kernel
theorem dX9_within_7 : decode cX9_within 7 = .ok (.if_icmp .gt 7, 3) := by decide +kernel
theorem dX9_within_10 : decode cX9_within 10 = .ok (.iconst 1, 1) := by decide +kernel
theorem dX9_within_11 : decode cX9_within 11 = .ok (.goto 4, 3) := by decide +kernel
theorem dX9_within_14 : decode cX9_within 14 = .ok (.iconst 0, 1) := by decide +kernel
theorem dX9_within_15 : decode cX9_within 15 = .ok (.ireturn, 1) := by decide +kernel
set_option maxHeartbeats 4000000 in
set_option maxRecDepth 100000 in
theorem c_MicRow_within (l : Launch) (G : fm_G) (M : fm_M) (v0 : Int32) (v1 : Int32) (v2 : Int32) (r : Int32) (hf : pMicRow_within M v0 v1 v2 = some r) : fm_Met l yX9_within cX9_within 3 (some .boolean) { frames := 0, cells := 0, slots := 0, locals := 0 } shC G [.int v0, .int v1, .int v2] M (some (.int r)) M := by
  refine fm_enter (by decide) (Nat.le_of_ble_eq_true rfl) ?_
  intro p e s m args below meth c ls C E hl
  have hl : lv_has ls 3 [(0, .int v0), (1, .int v1), (2, .int v2)] := hl
  unfold pMicRow_within at hf
  refine lv_iload_n C.1 C.2.1 dX9_within_0 rfl (lv_at hl 0 rfl) ?_
  refine lv_iload_n C.1 C.2.1 dX9_within_1 rfl (lv_at hl 1 rfl) ?_
  refine lv_icmp_lt (tgt := 14) C.1 C.2.1 dX9_within_2 (by decide) (fun hc2 => ?_) (fun hc2 => ?_)
  · have hf := fm_ip hf hc2
    refine lv_iconst (v := 0) C.1 C.2.1 dX9_within_14 (by decide) ?_
    obtain rfl := fm_rt1 hf
    exact fm_iret C E rfl rfl dX9_within_15
  · have hf := fm_in' hf hc2
    refine lv_iload_n C.1 C.2.1 dX9_within_5 rfl (lv_at hl 0 rfl) ?_
    refine lv_iload_n C.1 C.2.1 dX9_within_6 rfl (lv_at hl 2 rfl) ?_
    refine lv_icmp_gt (tgt := 14) C.1 C.2.1 dX9_within_7 (by decide) (fun hc7 => ?_) (fun hc7 => ?_)
    · have hf := fm_ip hf hc7
      refine lv_iconst (v := 0) C.1 C.2.1 dX9_within_14 (by decide) ?_
      obtain rfl := fm_rt1 hf
      exact fm_iret C E rfl rfl dX9_within_15
    · have hf := fm_in' hf hc7
      refine lv_iconst (v := 1) C.1 C.2.1 dX9_within_10 (by decide) ?_
      refine lv_goto (tgt := 15) C.1 C.2.1 dX9_within_11 (by decide) ?_
      obtain rfl := fm_rt1 hf
      exact fm_iret C E rfl rfl dX9_within_15
theorem dX9_clamp_0 : decode cX9_clamp 0 = .ok (.iload_n 1, 1) := by decide +kernel
theorem dX9_clamp_1 : decode cX9_clamp 1 = .ok (.iload_n 2, 1) := by decide +kernel
theorem dX9_clamp_2 : decode cX9_clamp 2 = .ok (.iload_n 0, 1) := by decide +kernel
theorem dX9_clamp_3 : decode cX9_clamp 3 = .ok (.invokestatic 399, 3) := by decide +kernel
theorem dX9_clamp_6 : decode cX9_clamp 6 = .ok (.invokestatic 379, 3) := by decide +kernel
theorem dX9_clamp_9 : decode cX9_clamp 9 = .ok (.ireturn, 1) := by decide +kernel
set_option maxHeartbeats 4000000 in
set_option maxRecDepth 100000 in
theorem c_MicRow_clamp (l : Launch) (G : fm_G) (M : fm_M) (v0 : Int32) (v1 : Int32) (v2 : Int32) (r : Int32) (hf : pMicRow_clamp M v0 v1 v2 = some r) : fm_Met l yX9_clamp cX9_clamp 3 (some .int) { frames := 1, cells := 0, slots := 0, locals := 21 } shC G [.int v0, .int v1, .int v2] M (some (.int r)) M := by
  refine fm_enter (by decide) (Nat.le_of_ble_eq_true rfl) ?_
  intro p e s m args below meth c ls C E hl
  have hl : lv_has ls 3 [(0, .int v0), (1, .int v1), (2, .int v2)] := hl
  unfold pMicRow_clamp at hf
  refine lv_iload_n C.1 C.2.1 dX9_clamp_0 rfl (lv_at hl 1 rfl) ?_
  refine lv_iload_n C.1 C.2.1 dX9_clamp_1 rfl (lv_at hl 2 rfl) ?_
  refine lv_iload_n C.1 C.2.1 dX9_clamp_2 rfl (lv_at hl 0 rfl) ?_
  refine fm_min C wv_min wm_451 hl.1 ⟨by decide, by decide⟩ (by simp [Value.category]) ⟨by decide, by decide⟩ dX9_clamp_3 ?_
  refine fm_max C wv_max wm_454 hl.1 ⟨by decide, by decide⟩ (by simp [Value.category]) ⟨by decide, by decide⟩ dX9_clamp_6 ?_
  obtain rfl := fm_rt1 hf
  exact fm_iret C E rfl rfl dX9_clamp_9
theorem dX9_isDirection_0 : decode cX9_isDirection 0 = .ok (.iload_n 0, 1) := by decide +kernel
theorem dX9_isDirection_1 : decode cX9_isDirection 1 = .ok (.bipush (-8), 2) := by decide +kernel
theorem dX9_isDirection_3 : decode cX9_isDirection 3 = .ok (.bipush 8, 2) := by decide +kernel
theorem dX9_isDirection_5 : decode cX9_isDirection 5 = .ok (.invokestatic 112, 3) := by decide +kernel
theorem dX9_isDirection_8 : decode cX9_isDirection 8 = .ok (.ireturn, 1) := by decide +kernel
set_option maxHeartbeats 4000000 in
set_option maxRecDepth 100000 in
theorem c_MicRow_isDirection (l : Launch) (G : fm_G) (M : fm_M) (v0 : Int32) (r : Int32) (hf : pMicRow_isDirection M v0 = some r) : fm_Met l yX9_isDirection cX9_isDirection 1 (some .boolean) { frames := 1, cells := 0, slots := 0, locals := 22 } shC G [.int v0] M (some (.int r)) M := by
  refine fm_enter (by decide) (Nat.le_of_ble_eq_true rfl) ?_
  intro p e s m args below meth c ls C E hl
  have hl : lv_has ls 1 [(0, .int v0)] := hl
  unfold pMicRow_isDirection at hf
  refine lv_iload_n C.1 C.2.1 dX9_isDirection_0 rfl (lv_at hl 0 rfl) ?_
  refine lv_bipush (v := (-8)) C.1 C.2.1 dX9_isDirection_1 (by decide) ?_
  refine lv_bipush (v := 8) C.1 C.2.1 dX9_isDirection_3 (by decide) ?_
  obtain ⟨x5, hc5, hf⟩ := fm_bd hf
  refine fm_callS C E [.int _, .int _, .int _] [] lm_X9_112 wk_X9_within (c_MicRow_within l G _ _ _ _ _  hc5) rfl hl.1 (by simp [Value.category]) ⟨⟨rfl, rfl⟩, by decide, by decide⟩ ⟨by decide, by decide⟩ dX9_isDirection_5 rfl (fun H locs E => ?_)
  refine W.eq (g2 := F0 m 8 ls (.int x5 :: [])) rfl ?_
  obtain ⟨hn8, hf⟩ := fm_bo_s hf
  obtain rfl := fm_rt1 hf
  exact fm_iret C E rfl hn8 dX9_isDirection_8
theorem dX9_pairsOf_0 : decode cX9_pairsOf 0 = .ok (.iload_n 0, 1) := by decide +kernel
theorem dX9_pairsOf_1 : decode cX9_pairsOf 1 = .ok (.iload_n 0, 1) := by decide +kernel
theorem dX9_pairsOf_2 : decode cX9_pairsOf 2 = .ok (.iconst 1, 1) := by decide +kernel
theorem dX9_pairsOf_3 : decode cX9_pairsOf 3 = .ok (.isub, 1) := by decide +kernel
theorem dX9_pairsOf_4 : decode cX9_pairsOf 4 = .ok (.imul, 1) := by decide +kernel
theorem dX9_pairsOf_5 : decode cX9_pairsOf 5 = .ok (.iconst 2, 1) := by decide +kernel
theorem dX9_pairsOf_6 : decode cX9_pairsOf 6 = .ok (.idiv, 1) := by decide +kernel
theorem dX9_pairsOf_7 : decode cX9_pairsOf 7 = .ok (.ireturn, 1) := by decide +kernel
set_option maxHeartbeats 4000000 in
set_option maxRecDepth 100000 in
theorem c_MicRow_pairsOf (l : Launch) (G : fm_G) (M : fm_M) (v0 : Int32) (r : Int32) (hf : pMicRow_pairsOf M v0 = some r) : fm_Met l yX9_pairsOf cX9_pairsOf 1 (some .int) { frames := 0, cells := 0, slots := 0, locals := 0 } shC G [.int v0] M (some (.int r)) M := by
  refine fm_enter (by decide) (Nat.le_of_ble_eq_true rfl) ?_
  intro p e s m args below meth c ls C E hl
  have hl : lv_has ls 1 [(0, .int v0)] := hl
  unfold pMicRow_pairsOf at hf
  refine lv_iload_n C.1 C.2.1 dX9_pairsOf_0 rfl (lv_at hl 0 rfl) ?_
  refine lv_iload_n C.1 C.2.1 dX9_pairsOf_1 rfl (lv_at hl 0 rfl) ?_
  refine lv_iconst (v := 1) C.1 C.2.1 dX9_pairsOf_2 (by decide) ?_
  refine lv_isub C.1 C.2.1 dX9_pairsOf_3 ?_
  refine lv_imul C.1 C.2.1 dX9_pairsOf_4 ?_
  refine lv_iconst (v := 2) C.1 C.2.1 dX9_pairsOf_5 (by decide) ?_
  refine lv_idiv C.1 C.2.1 dX9_pairsOf_6 (by decide) ?_
  obtain rfl := fm_rt1 hf
  exact fm_iret C E rfl rfl dX9_pairsOf_7
theorem dX9_bySize_0 : decode cX9_bySize 0 = .ok (.iload_n 0, 1) := by decide +kernel
theorem dX9_bySize_1 : decode cX9_bySize 1 = .ok (.iconst 2, 1) := by decide +kernel
theorem dX9_bySize_2 : decode cX9_bySize 2 = .ok (.irem, 1) := by decide +kernel
theorem dX9_bySize_3 : decode cX9_bySize 3 = .ok (.iconst 1, 1) := by decide +kernel
theorem dX9_bySize_4 : decode cX9_bySize 4 = .ok (.if_icmp .ne 11, 3) := by decide +kernel
theorem dX9_bySize_7 : decode cX9_bySize 7 = .ok (.iload_n 0, 1) := by decide +kernel
theorem dX9_bySize_8 : decode cX9_bySize 8 = .ok (.iconst 1, 1) := by decide +kernel
theorem dX9_bySize_9 : decode cX9_bySize 9 = .ok (.iadd, 1) := by decide +kernel
theorem dX9_bySize_10 : decode cX9_bySize 10 = .ok (.iconst 2, 1) := by decide +kernel
theorem dX9_bySize_11 : decode cX9_bySize 11 = .ok (.idiv, 1) := by decide +kernel
theorem dX9_bySize_12 : decode cX9_bySize 12 = .ok (.goto 7, 3) := by decide +kernel
theorem dX9_bySize_15 : decode cX9_bySize 15 = .ok (.iload_n 0, 1) := by decide +kernel
theorem dX9_bySize_16 : decode cX9_bySize 16 = .ok (.iconst 2, 1) := by decide +kernel
theorem dX9_bySize_17 : decode cX9_bySize 17 = .ok (.idiv, 1) := by decide +kernel
theorem dX9_bySize_18 : decode cX9_bySize 18 = .ok (.ineg, 1) := by decide +kernel
theorem dX9_bySize_19 : decode cX9_bySize 19 = .ok (.ireturn, 1) := by decide +kernel
set_option maxHeartbeats 4000000 in
set_option maxRecDepth 100000 in
theorem c_MicRow_bySize (l : Launch) (G : fm_G) (M : fm_M) (v0 : Int32) (r : Int32) (hf : pMicRow_bySize M v0 = some r) : fm_Met l yX9_bySize cX9_bySize 1 (some .int) { frames := 0, cells := 0, slots := 0, locals := 0 } shC G [.int v0] M (some (.int r)) M := by
  refine fm_enter (by decide) (Nat.le_of_ble_eq_true rfl) ?_
  intro p e s m args below meth c ls C E hl
  have hl : lv_has ls 1 [(0, .int v0)] := hl
  unfold pMicRow_bySize at hf
  refine lv_iload_n C.1 C.2.1 dX9_bySize_0 rfl (lv_at hl 0 rfl) ?_
  refine lv_iconst (v := 2) C.1 C.2.1 dX9_bySize_1 (by decide) ?_
  refine lv_irem C.1 C.2.1 dX9_bySize_2 (by decide) ?_
  refine lv_iconst (v := 1) C.1 C.2.1 dX9_bySize_3 (by decide) ?_
  refine lv_icmp_ne (tgt := 15) C.1 C.2.1 dX9_bySize_4 (by decide) (fun hc4 => ?_) (fun hc4 => ?_)
  · have hf := fm_in' hf hc4
    refine lv_iload_n C.1 C.2.1 dX9_bySize_15 rfl (lv_at hl 0 rfl) ?_
    refine lv_iconst (v := 2) C.1 C.2.1 dX9_bySize_16 (by decide) ?_
    refine lv_idiv C.1 C.2.1 dX9_bySize_17 (by decide) ?_
    refine lv_ineg C.1 C.2.1 dX9_bySize_18 ?_
    obtain rfl := fm_rt1 hf
    exact fm_iret C E rfl rfl dX9_bySize_19
  · have hf := fm_ip hf hc4
    refine lv_iload_n C.1 C.2.1 dX9_bySize_7 rfl (lv_at hl 0 rfl) ?_
    refine lv_iconst (v := 1) C.1 C.2.1 dX9_bySize_8 (by decide) ?_
    refine lv_iadd C.1 C.2.1 dX9_bySize_9 ?_
    refine lv_iconst (v := 2) C.1 C.2.1 dX9_bySize_10 (by decide) ?_
    refine lv_idiv C.1 C.2.1 dX9_bySize_11 (by decide) ?_
    refine lv_goto (tgt := 19) C.1 C.2.1 dX9_bySize_12 (by decide) ?_
    obtain rfl := fm_rt1 hf
    exact fm_iret C E rfl rfl dX9_bySize_19
theorem dX10_thrown_0 : decode cX10_thrown 0 = .ok (.aload_n 0, 1) := by decide +kernel
theorem dX10_thrown_1 : decode cX10_thrown 1 = .ok (.getfield 77, 3) := by decide +kernel
theorem dX10_thrown_4 : decode cX10_thrown 4 = .ok (.ireturn, 1) := by decide +kernel
set_option maxHeartbeats 4000000 in
set_option maxRecDepth 100000 in
theorem c_Model_thrown (l : Launch) (G : fm_G) (M : fm_M) (r : Int32) (hf : pModel_thrown M = some r) : fm_Met l yX10_thrown cX10_thrown 1 (some .int) { frames := 0, cells := 0, slots := 0, locals := 0 } shM G [.ref (G.2.1 0)] M (some (.int r)) M := by
  refine fm_enter (by decide) (Nat.le_of_ble_eq_true rfl) ?_
  intro p e s m args below meth c ls C E hl
  have hl : lv_has ls 1 [(0, .ref (G.2.1 0))] := hl
  unfold pModel_thrown at hf
  refine lv_aload_n C.1 C.2.1 dX10_thrown_0 rfl (lv_at hl 0 rfl) ?_
  refine fm_geti C E lf_X10_77 hM_0 rfl dX10_thrown_1 ?_
  obtain rfl := fm_rt1 hf
  exact fm_iret C E rfl rfl dX10_thrown_4
theorem dX10_in_0 : decode cX10_in 0 = .ok (.iload_n 0, 1) := by decide +kernel
theorem dX10_in_1 : decode cX10_in 1 = .ok (.iload_n 1, 1) := by decide +kernel
theorem dX10_in_2 : decode cX10_in 2 = .ok (.if_icmp .lt 12, 3) := by decide +kernel
theorem dX10_in_5 : decode cX10_in 5 = .ok (.iload_n 0, 1) := by decide +kernel
theorem dX10_in_6 : decode cX10_in 6 = .ok (.iload_n 2, 1) := by decide +kernel
theorem dX10_in_7 : decode cX10_in 7 = .ok (.if_icmp .gt 7, 3) := by decide +kernel
theorem dX10_in_10 : decode cX10_in 10 = .ok (.iconst 1, 1) := by decide +kernel
theorem dX10_in_11 : decode cX10_in 11 = .ok (.goto 4, 3) := by decide +kernel
theorem dX10_in_14 : decode cX10_in 14 = .ok (.iconst 0, 1) := by decide +kernel
theorem dX10_in_15 : decode cX10_in 15 = .ok (.ireturn, 1) := by decide +kernel
set_option maxHeartbeats 4000000 in
set_option maxRecDepth 100000 in
theorem c_Model_in (l : Launch) (G : fm_G) (M : fm_M) (v0 : Int32) (v1 : Int32) (v2 : Int32) (r : Int32) (hf : pModel_in M v0 v1 v2 = some r) : fm_Met l yX10_in cX10_in 3 (some .boolean) { frames := 0, cells := 0, slots := 0, locals := 0 } shM G [.int v0, .int v1, .int v2] M (some (.int r)) M := by
  refine fm_enter (by decide) (Nat.le_of_ble_eq_true rfl) ?_
  intro p e s m args below meth c ls C E hl
  have hl : lv_has ls 3 [(0, .int v0), (1, .int v1), (2, .int v2)] := hl
  unfold pModel_in at hf
  refine lv_iload_n C.1 C.2.1 dX10_in_0 rfl (lv_at hl 0 rfl) ?_
  refine lv_iload_n C.1 C.2.1 dX10_in_1 rfl (lv_at hl 1 rfl) ?_
  refine lv_icmp_lt (tgt := 14) C.1 C.2.1 dX10_in_2 (by decide) (fun hc2 => ?_) (fun hc2 => ?_)
  · have hf := fm_ip hf hc2
    refine lv_iconst (v := 0) C.1 C.2.1 dX10_in_14 (by decide) ?_
    obtain rfl := fm_rt1 hf
    exact fm_iret C E rfl rfl dX10_in_15
  · have hf := fm_in' hf hc2
    refine lv_iload_n C.1 C.2.1 dX10_in_5 rfl (lv_at hl 0 rfl) ?_
    refine lv_iload_n C.1 C.2.1 dX10_in_6 rfl (lv_at hl 2 rfl) ?_
    refine lv_icmp_gt (tgt := 14) C.1 C.2.1 dX10_in_7 (by decide) (fun hc7 => ?_) (fun hc7 => ?_)
    · have hf := fm_ip hf hc7
      refine lv_iconst (v := 0) C.1 C.2.1 dX10_in_14 (by decide) ?_
      obtain rfl := fm_rt1 hf
      exact fm_iret C E rfl rfl dX10_in_15
    · have hf := fm_in' hf hc7
      refine lv_iconst (v := 1) C.1 C.2.1 dX10_in_10 (by decide) ?_
      refine lv_goto (tgt := 15) C.1 C.2.1 dX10_in_11 (by decide) ?_
      obtain rfl := fm_rt1 hf
      exact fm_iret C E rfl rfl dX10_in_15
theorem dX10_lost_0 : decode cX10_lost 0 = .ok (.aload_n 0, 1) := by decide +kernel
theorem dX10_lost_1 : decode cX10_lost 1 = .ok (.iconst 1, 1) := by decide +kernel
theorem dX10_lost_2 : decode cX10_lost 2 = .ok (.putfield 77, 3) := by decide +kernel
theorem dX10_lost_5 : decode cX10_lost 5 = .ok (.iconst 0, 1) := by decide +kernel
theorem dX10_lost_6 : decode cX10_lost 6 = .ok (.ireturn, 1) := by decide +kernel
set_option maxHeartbeats 4000000 in
set_option maxRecDepth 100000 in
theorem c_Model_lost (l : Launch) (G : fm_G) (M : fm_M) (r : Int32) (M' : fm_M) (hf : pModel_lost M = some (r, M')) : fm_Met l yX10_lost cX10_lost 1 (some .int) { frames := 0, cells := 0, slots := 0, locals := 0 } shM G [.ref (G.2.1 0)] M (some (.int r)) M' := by
  refine fm_enter (by decide) (Nat.le_of_ble_eq_true rfl) ?_
  intro p e s m args below meth c ls C E hl
  have hl : lv_has ls 1 [(0, .ref (G.2.1 0))] := hl
  unfold pModel_lost at hf
  refine lv_aload_n C.1 C.2.1 dX10_lost_0 rfl (lv_at hl 0 rfl) ?_
  refine lv_iconst (v := 1) C.1 C.2.1 dX10_lost_1 (by decide) ?_
  obtain ⟨M2, e2, hf⟩ := fm_pt_s hf
  refine fm_put' C E e2 lp_X10_77 hM_0 rfl dX10_lost_2 (fun H locs E => ?_)
  refine lv_iconst (v := 0) C.1 C.2.1 dX10_lost_5 (by decide) ?_
  obtain ⟨rfl, rfl⟩ := fm_rt2 hf
  exact fm_iret C E rfl rfl dX10_lost_6
theorem dX10_tell_0 : decode cX10_tell 0 = .ok (.aload_n 0, 1) := by decide +kernel
theorem dX10_tell_1 : decode cX10_tell 1 = .ok (.getfield 17, 3) := by decide +kernel
theorem dX10_tell_4 : decode cX10_tell 4 = .ok (.aload_n 0, 1) := by decide +kernel
theorem dX10_tell_5 : decode cX10_tell 5 = .ok (.getfield 80, 3) := by decide +kernel
theorem dX10_tell_8 : decode cX10_tell 8 = .ok (.lload_n 1, 1) := by decide +kernel
theorem dX10_tell_9 : decode cX10_tell 9 = .ok (.lastore, 1) := by decide +kernel
theorem dX10_tell_10 : decode cX10_tell 10 = .ok (.aload_n 0, 1) := by decide +kernel
theorem dX10_tell_11 : decode cX10_tell 11 = .ok (.dup, 1) := by decide +kernel
theorem dX10_tell_12 : decode cX10_tell 12 = .ok (.getfield 80, 3) := by decide +kernel
theorem dX10_tell_15 : decode cX10_tell 15 = .ok (.iconst 1, 1) := by decide +kernel
theorem dX10_tell_16 : decode cX10_tell 16 = .ok (.iadd, 1) := by decide +kernel
theorem dX10_tell_17 : decode cX10_tell 17 = .ok (.putfield 80, 3) := by decide +kernel
theorem dX10_tell_20 : decode cX10_tell 20 = .ok (.return_, 1) := by decide +kernel
set_option maxHeartbeats 4000000 in
set_option maxRecDepth 100000 in
theorem c_Model_tell (l : Launch) (G : fm_G) (M : fm_M) (v1 : Int64) (M' : fm_M) (hf : pModel_tell M v1 = some M') : fm_Met l yX10_tell cX10_tell 3 none { frames := 0, cells := 0, slots := 0, locals := 0 } shM G [.ref (G.2.1 0), .long v1] M none M' := by
  refine fm_enter (by decide) (Nat.le_of_ble_eq_true rfl) ?_
  intro p e s m args below meth c ls C E hl
  have hl : lv_has ls 3 [(0, .ref (G.2.1 0)), (1, .long v1)] := hl
  unfold pModel_tell at hf
  refine lv_aload_n C.1 C.2.1 dX10_tell_0 rfl (lv_at hl 0 rfl) ?_
  refine fm_getr C E lf_X10_17 hM_0 rfl dX10_tell_1 ?_
  refine lv_aload_n C.1 C.2.1 dX10_tell_4 rfl (lv_at hl 0 rfl) ?_
  refine fm_geti C E lf_X10_80 hM_0 rfl dX10_tell_5 ?_
  refine lv_lload_n C.1 C.2.1 dX10_tell_8 rfl (lv_at hl 1 rfl) ?_
  obtain ⟨h9, M9, e9, hf⟩ := fm_stl_e hf
  refine fm_last' C E e9 hM_3 h9 dX10_tell_9 (fun H locs E => ?_)
  refine lv_aload_n C.1 C.2.1 dX10_tell_10 rfl (lv_at hl 0 rfl) ?_
  refine lv_dup C.1 C.2.1 dX10_tell_11 rfl ?_
  refine fm_geti C E lf_X10_80 hM_0 rfl dX10_tell_12 ?_
  refine lv_iconst (v := 1) C.1 C.2.1 dX10_tell_15 (by decide) ?_
  refine lv_iadd C.1 C.2.1 dX10_tell_16 ?_
  obtain ⟨M17, e17, hf⟩ := fm_pt_s hf
  refine fm_put' C E e17 lp_X10_80 hM_0 rfl dX10_tell_17 (fun H locs E => ?_)
  obtain rfl := fm_rt1 hf
  exact fm_vret C E rfl dX10_tell_20
theorem dX10_isMic_0 : decode cX10_isMic 0 = .ok (.iload_n 1, 1) := by decide +kernel
theorem dX10_isMic_1 : decode cX10_isMic 1 = .ok (.iconst 0, 1) := by decide +kernel
theorem dX10_isMic_2 : decode cX10_isMic 2 = .ok (.aload_n 0, 1) := by decide +kernel
theorem dX10_isMic_3 : decode cX10_isMic 3 = .ok (.getfield 9, 3) := by decide +kernel
theorem dX10_isMic_6 : decode cX10_isMic 6 = .ok (.iconst 0, 1) := by decide +kernel
theorem dX10_isMic_7 : decode cX10_isMic 7 = .ok (.iaload, 1) := by decide +kernel
theorem dX10_isMic_8 : decode cX10_isMic 8 = .ok (.iconst 1, 1) := by decide +kernel
theorem dX10_isMic_9 : decode cX10_isMic 9 = .ok (.isub, 1) := by decide +kernel
theorem dX10_isMic_10 : decode cX10_isMic 10 = .ok (.invokestatic 83, 3) := by decide +kernel
theorem dX10_isMic_13 : decode cX10_isMic 13 = .ok (.ireturn, 1) := by decide +kernel
set_option maxHeartbeats 4000000 in
set_option maxRecDepth 100000 in
theorem c_Model_isMic (l : Launch) (G : fm_G) (M : fm_M) (v1 : Int32) (r : Int32) (hf : pModel_isMic M v1 = some r) : fm_Met l yX10_isMic cX10_isMic 2 (some .boolean) { frames := 1, cells := 0, slots := 0, locals := 22 } shM G [.ref (G.2.1 0), .int v1] M (some (.int r)) M := by
  refine fm_enter (by decide) (Nat.le_of_ble_eq_true rfl) ?_
  intro p e s m args below meth c ls C E hl
  have hl : lv_has ls 2 [(0, .ref (G.2.1 0)), (1, .int v1)] := hl
  unfold pModel_isMic at hf
  refine lv_iload_n C.1 C.2.1 dX10_isMic_0 rfl (lv_at hl 1 rfl) ?_
  refine lv_iconst (v := 0) C.1 C.2.1 dX10_isMic_1 (by decide) ?_
  refine lv_aload_n C.1 C.2.1 dX10_isMic_2 rfl (lv_at hl 0 rfl) ?_
  refine fm_getr C E lf_X10_9 hM_0 rfl dX10_isMic_3 ?_
  refine lv_iconst (v := 0) C.1 C.2.1 dX10_isMic_6 (by decide) ?_
  refine fm_ialdc C E 0 (by decide) hM_1 (by decide) dX10_isMic_7 ?_
  refine lv_iconst (v := 1) C.1 C.2.1 dX10_isMic_8 (by decide) ?_
  refine lv_isub C.1 C.2.1 dX10_isMic_9 ?_
  obtain ⟨x10, hc10, hf⟩ := fm_bd hf
  refine fm_callS C E [.int _, .int _, .int _] [] lm_X10_83 wk_X10_in (c_Model_in l G _ _ _ _ _  hc10) rfl hl.1 (by simp [Value.category]) ⟨⟨rfl, rfl⟩, by decide, by decide⟩ ⟨by decide, by decide⟩ dX10_isMic_10 rfl (fun H locs E => ?_)
  refine W.eq (g2 := F0 m 13 ls (.int x10 :: [])) rfl ?_
  obtain ⟨hn13, hf⟩ := fm_bo_s hf
  obtain rfl := fm_rt1 hf
  exact fm_iret C E rfl hn13 dX10_isMic_13
theorem dX10_isSide_0 : decode cX10_isSide 0 = .ok (.iload_n 0, 1) := by decide +kernel
theorem dX10_isSide_1 : decode cX10_isSide 1 = .ok (.bipush (-8), 2) := by decide +kernel
theorem dX10_isSide_3 : decode cX10_isSide 3 = .ok (.bipush 8, 2) := by decide +kernel
theorem dX10_isSide_5 : decode cX10_isSide 5 = .ok (.invokestatic 83, 3) := by decide +kernel
theorem dX10_isSide_8 : decode cX10_isSide 8 = .ok (.ireturn, 1) := by decide +kernel
set_option maxHeartbeats 4000000 in
set_option maxRecDepth 100000 in
theorem c_Model_isSide (l : Launch) (G : fm_G) (M : fm_M) (v0 : Int32) (r : Int32) (hf : pModel_isSide M v0 = some r) : fm_Met l yX10_isSide cX10_isSide 1 (some .boolean) { frames := 1, cells := 0, slots := 0, locals := 22 } shM G [.int v0] M (some (.int r)) M := by
  refine fm_enter (by decide) (Nat.le_of_ble_eq_true rfl) ?_
  intro p e s m args below meth c ls C E hl
  have hl : lv_has ls 1 [(0, .int v0)] := hl
  unfold pModel_isSide at hf
  refine lv_iload_n C.1 C.2.1 dX10_isSide_0 rfl (lv_at hl 0 rfl) ?_
  refine lv_bipush (v := (-8)) C.1 C.2.1 dX10_isSide_1 (by decide) ?_
  refine lv_bipush (v := 8) C.1 C.2.1 dX10_isSide_3 (by decide) ?_
  obtain ⟨x5, hc5, hf⟩ := fm_bd hf
  refine fm_callS C E [.int _, .int _, .int _] [] lm_X10_83 wk_X10_in (c_Model_in l G _ _ _ _ _  hc5) rfl hl.1 (by simp [Value.category]) ⟨⟨rfl, rfl⟩, by decide, by decide⟩ ⟨by decide, by decide⟩ dX10_isSide_5 rfl (fun H locs E => ?_)
  refine W.eq (g2 := F0 m 8 ls (.int x5 :: [])) rfl ?_
  obtain ⟨hn8, hf⟩ := fm_bo_s hf
  obtain rfl := fm_rt1 hf
  exact fm_iret C E rfl hn8 dX10_isSide_8
theorem dX10_of_0 : decode cX10_of 0 = .ok (.aload_n 0, 1) := by decide +kernel
theorem dX10_of_1 : decode cX10_of 1 = .ok (.getfield 9, 3) := by decide +kernel
theorem dX10_of_4 : decode cX10_of 4 = .ok (.iconst 1, 1) := by decide +kernel
theorem dX10_of_5 : decode cX10_of 5 = .ok (.bipush 6, 2) := by decide +kernel
theorem dX10_of_7 : decode cX10_of 7 = .ok (.iload_n 1, 1) := by decide +kernel
theorem dX10_of_8 : decode cX10_of 8 = .ok (.imul, 1) := by decide +kernel
theorem dX10_of_9 : decode cX10_of 9 = .ok (.iadd, 1) := by decide +kernel
theorem dX10_of_10 : decode cX10_of 10 = .ok (.iload_n 2, 1) := by decide +kernel
theorem dX10_of_11 : decode cX10_of 11 = .ok (.iadd, 1) := by decide +kernel
theorem dX10_of_12 : decode cX10_of 12 = .ok (.iaload, 1) := by decide +kernel
theorem dX10_of_13 : decode cX10_of 13 = .ok (.ireturn, 1) := by decide +kernel
set_option maxHeartbeats 4000000 in
set_option maxRecDepth 100000 in
theorem c_Model_of (l : Launch) (G : fm_G) (M : fm_M) (v1 : Int32) (v2 : Int32) (r : Int32) (hf : pModel_of M v1 v2 = some r) : fm_Met l yX10_of cX10_of 3 (some .int) { frames := 0, cells := 0, slots := 0, locals := 0 } shM G [.ref (G.2.1 0), .int v1, .int v2] M (some (.int r)) M := by
  refine fm_enter (by decide) (Nat.le_of_ble_eq_true rfl) ?_
  intro p e s m args below meth c ls C E hl
  have hl : lv_has ls 3 [(0, .ref (G.2.1 0)), (1, .int v1), (2, .int v2)] := hl
  unfold pModel_of at hf
  refine lv_aload_n C.1 C.2.1 dX10_of_0 rfl (lv_at hl 0 rfl) ?_
  refine fm_getr C E lf_X10_9 hM_0 rfl dX10_of_1 ?_
  refine lv_iconst (v := 1) C.1 C.2.1 dX10_of_4 (by decide) ?_
  refine lv_bipush (v := 6) C.1 C.2.1 dX10_of_5 (by decide) ?_
  refine lv_iload_n C.1 C.2.1 dX10_of_7 rfl (lv_at hl 1 rfl) ?_
  refine lv_imul C.1 C.2.1 dX10_of_8 ?_
  refine lv_iadd C.1 C.2.1 dX10_of_9 ?_
  refine lv_iload_n C.1 C.2.1 dX10_of_10 rfl (lv_at hl 2 rfl) ?_
  refine lv_iadd C.1 C.2.1 dX10_of_11 ?_
  obtain ⟨h12, x12, e12, hf⟩ := fm_ld_e hf
  refine fm_iald' C E e12 hM_1 h12 dX10_of_12 ?_
  obtain rfl := fm_rt1 hf
  exact fm_iret C E rfl rfl dX10_of_13
theorem dX10_ofSource_0 : decode cX10_ofSource 0 = .ok (.aload_n 0, 1) := by decide +kernel
theorem dX10_ofSource_1 : decode cX10_ofSource 1 = .ok (.getfield 9, 3) := by decide +kernel
theorem dX10_ofSource_4 : decode cX10_ofSource 4 = .ok (.bipush 41, 2) := by decide +kernel
theorem dX10_ofSource_6 : decode cX10_ofSource 6 = .ok (.bipush 15, 2) := by decide +kernel
theorem dX10_ofSource_8 : decode cX10_ofSource 8 = .ok (.iload_n 1, 1) := by decide +kernel
theorem dX10_ofSource_9 : decode cX10_ofSource 9 = .ok (.imul, 1) := by decide +kernel
theorem dX10_ofSource_10 : decode cX10_ofSource 10 = .ok (.iadd, 1) := by decide +kernel
theorem dX10_ofSource_11 : decode cX10_ofSource 11 = .ok (.iload_n 2, 1) := by decide +kernel
theorem dX10_ofSource_12 : decode cX10_ofSource 12 = .ok (.iadd, 1) := by decide +kernel
theorem dX10_ofSource_13 : decode cX10_ofSource 13 = .ok (.iaload, 1) := by decide +kernel
theorem dX10_ofSource_14 : decode cX10_ofSource 14 = .ok (.ireturn, 1) := by decide +kernel
set_option maxHeartbeats 4000000 in
set_option maxRecDepth 100000 in
theorem c_Model_ofSource (l : Launch) (G : fm_G) (M : fm_M) (v1 : Int32) (v2 : Int32) (r : Int32) (hf : pModel_ofSource M v1 v2 = some r) : fm_Met l yX10_ofSource cX10_ofSource 3 (some .int) { frames := 0, cells := 0, slots := 0, locals := 0 } shM G [.ref (G.2.1 0), .int v1, .int v2] M (some (.int r)) M := by
  refine fm_enter (by decide) (Nat.le_of_ble_eq_true rfl) ?_
  intro p e s m args below meth c ls C E hl
  have hl : lv_has ls 3 [(0, .ref (G.2.1 0)), (1, .int v1), (2, .int v2)] := hl
  unfold pModel_ofSource at hf
  refine lv_aload_n C.1 C.2.1 dX10_ofSource_0 rfl (lv_at hl 0 rfl) ?_
  refine fm_getr C E lf_X10_9 hM_0 rfl dX10_ofSource_1 ?_
  refine lv_bipush (v := 41) C.1 C.2.1 dX10_ofSource_4 (by decide) ?_
  refine lv_bipush (v := 15) C.1 C.2.1 dX10_ofSource_6 (by decide) ?_
  refine lv_iload_n C.1 C.2.1 dX10_ofSource_8 rfl (lv_at hl 1 rfl) ?_
  refine lv_imul C.1 C.2.1 dX10_ofSource_9 ?_
  refine lv_iadd C.1 C.2.1 dX10_ofSource_10 ?_
  refine lv_iload_n C.1 C.2.1 dX10_ofSource_11 rfl (lv_at hl 2 rfl) ?_
  refine lv_iadd C.1 C.2.1 dX10_ofSource_12 ?_
  obtain ⟨h13, x13, e13, hf⟩ := fm_ld_e hf
  refine fm_iald' C E e13 hM_1 h13 dX10_ofSource_13 ?_
  obtain rfl := fm_rt1 hf
  exact fm_iret C E rfl rfl dX10_ofSource_14
theorem dX10_sign_0 : decode cX10_sign 0 = .ok (.aload_n 0, 1) := by decide +kernel
theorem dX10_sign_1 : decode cX10_sign 1 = .ok (.iconst 0, 1) := by decide +kernel
theorem dX10_sign_2 : decode cX10_sign 2 = .ok (.putfield 77, 3) := by decide +kernel
theorem dX10_sign_5 : decode cX10_sign 5 = .ok (.aload_n 0, 1) := by decide +kernel
theorem dX10_sign_6 : decode cX10_sign 6 = .ok (.getfield 87, 3) := by decide +kernel
theorem dX10_sign_9 : decode cX10_sign 9 = .ok (.iconst 4, 1) := by decide +kernel
theorem dX10_sign_10 : decode cX10_sign 10 = .ok (.iadd, 1) := by decide +kernel
theorem dX10_sign_11 : decode cX10_sign 11 = .ok (.bipush 80, 2) := by decide +kernel
theorem dX10_sign_13 : decode cX10_sign 13 = .ok (.if_icmp .le 5, 3) := by decide +kernel
theorem dX10_sign_16 : decode cX10_sign 16 = .ok (.iconst (-1), 1) := by decide +kernel
theorem dX10_sign_17 : decode cX10_sign 17 = .ok (.ireturn, 1) := by decide +kernel
theorem dX10_sign_18 : decode cX10_sign 18 = .ok (.iconst 3, 1) := by decide +kernel
theorem dX10_sign_19 : decode cX10_sign 19 = .ok (.istore_n 2, 1) := by decide +kernel
theorem dX10_sign_20 : decode cX10_sign 20 = .ok (.iload_n 2, 1) := by decide +kernel
theorem dX10_sign_21 : decode cX10_sign 21 = .ok (.ifCond .lt 32, 3) := by decide +kernel
theorem dX10_sign_24 : decode cX10_sign 24 = .ok (.aload_n 0, 1) := by decide +kernel
theorem dX10_sign_25 : decode cX10_sign 25 = .ok (.getfield 13, 3) := by decide +kernel
theorem dX10_sign_28 : decode cX10_sign 28 = .ok (.aload_n 0, 1) := by decide +kernel
theorem dX10_sign_29 : decode cX10_sign 29 = .ok (.dup, 1) := by decide +kernel
theorem dX10_sign_30 : decode cX10_sign 30 = .ok (.getfield 87, 3) := by decide +kernel
theorem dX10_sign_33 : decode cX10_sign 33 = .ok (.dup_x1, 1) := by decide +kernel
theorem dX10_sign_34 : decode cX10_sign 34 = .ok (.iconst 1, 1) := by decide +kernel
theorem dX10_sign_35 : decode cX10_sign 35 = .ok (.iadd, 1) := by decide +kernel
theorem dX10_sign_36 : decode cX10_sign 36 = .ok (.putfield 87, 3) := by decide +kernel
theorem dX10_sign_39 : decode cX10_sign 39 = .ok (.iload_n 1, 1) := by decide +kernel
theorem dX10_sign_40 : decode cX10_sign 40 = .ok (.bipush 8, 2) := by decide +kernel
theorem dX10_sign_42 : decode cX10_sign 42 = .ok (.iload_n 2, 1) := by decide +kernel
theorem dX10_sign_43 : decode cX10_sign 43 = .ok (.imul, 1) := by decide +kernel
theorem dX10_sign_44 : decode cX10_sign 44 = .ok (.ishr, 1) := by decide +kernel
theorem dX10_sign_45 : decode cX10_sign 45 = .ok (.i2b, 1) := by decide +kernel
theorem dX10_sign_46 : decode cX10_sign 46 = .ok (.bastore, 1) := by decide +kernel
theorem dX10_sign_47 : decode cX10_sign 47 = .ok (.iinc 2 (-1), 3) := by decide +kernel
theorem dX10_sign_50 : decode cX10_sign 50 = .ok (.goto (-30), 3) := by decide +kernel
theorem dX10_sign_53 : decode cX10_sign 53 = .ok (.aload_n 0, 1) := by decide +kernel
theorem dX10_sign_54 : decode cX10_sign 54 = .ok (.getfield 87, 3) := by decide +kernel
theorem dX10_sign_57 : decode cX10_sign 57 = .ok (.ireturn, 1) := by decide +kernel
set_option maxHeartbeats 4000000 in
set_option maxRecDepth 100000 in
theorem c_Model_sign (l : Launch) (G : fm_G) (N : Nat) (M : fm_M) (v1 : Int32) (r : Int32) (M' : fm_M) (hf : pModel_sign N M v1 = some (r, M')) : fm_Met l yX10_sign cX10_sign 3 (some .int) { frames := 0, cells := 0, slots := 0, locals := 0 } shM G [.ref (G.2.1 0), .int v1] M (some (.int r)) M' := by
  refine fm_enter (by decide) (Nat.le_of_ble_eq_true rfl) ?_
  intro p e s m args below meth c ls C E hl
  have hl : lv_has ls 3 [(0, .ref (G.2.1 0)), (1, .int v1)] := hl
  have L20 : ∀ (w20_v1 : Int32) (n20 : Nat) (v2 : Int32) (M : fm_M) (H : Heap) (locs : List Loc) (ls : Array Slot), fm_Wd shM G M s H locs → lv_has ls 3 [(0, .ref (G.2.1 0)), (1, .int w20_v1), (2, .int v2)] → fm_lp (pModel_sign_L20 N w20_v1) n20 (v2, M) = some (r, M') → W p l e { frames := 0, cells := 0, slots := 0, locals := 0 } s m args below meth c H locs 0 0 (fm_Z below shM G args s (some (.int r)) M') (F0 m 20 ls []) := by
    intro w20_v1 n20
    induction n20 with
    | zero => intro v2 M H locs ls E hl hf; exact fm_lp_0 hf
    | succ n20 ih20 =>
      intro v2 M H locs ls E hl hf
      have hf : pModel_sign_L20b N w20_v1 (fm_lp (pModel_sign_L20 N w20_v1) n20) v2 M = some (r, M') := hf
      unfold pModel_sign_L20b at hf
      refine lv_iload_n C.1 C.2.1 dX10_sign_20 rfl (lv_at hl 2 rfl) ?_
      refine lv_if_lt (tgt := 53) C.1 C.2.1 dX10_sign_21 (by decide) (fun hc21 => ?_) (fun hc21 => ?_)
      · have hf := fm_ip hf hc21
        refine lv_aload_n C.1 C.2.1 dX10_sign_53 rfl (lv_at hl 0 rfl) ?_
        refine fm_geti C E lf_X10_87 hM_0 rfl dX10_sign_54 ?_
        obtain ⟨rfl, rfl⟩ := fm_rt2 hf
        exact fm_iret C E rfl rfl dX10_sign_57
      · have hf := fm_in' hf hc21
        refine lv_aload_n C.1 C.2.1 dX10_sign_24 rfl (lv_at hl 0 rfl) ?_
        refine fm_getr C E lf_X10_13 hM_0 rfl dX10_sign_25 ?_
        refine lv_aload_n C.1 C.2.1 dX10_sign_28 rfl (lv_at hl 0 rfl) ?_
        refine lv_dup C.1 C.2.1 dX10_sign_29 rfl ?_
        refine fm_geti C E lf_X10_87 hM_0 rfl dX10_sign_30 ?_
        refine lv_dup_x1 C.1 C.2.1 dX10_sign_33 rfl rfl ?_
        refine lv_iconst (v := 1) C.1 C.2.1 dX10_sign_34 (by decide) ?_
        refine lv_iadd C.1 C.2.1 dX10_sign_35 ?_
        obtain ⟨M36, e36, hf⟩ := fm_pt_s hf
        refine fm_put' C E e36 lp_X10_87 hM_0 rfl dX10_sign_36 (fun H locs E => ?_)
        refine lv_iload_n C.1 C.2.1 dX10_sign_39 rfl (lv_at hl 1 rfl) ?_
        refine lv_bipush (v := 8) C.1 C.2.1 dX10_sign_40 (by decide) ?_
        refine lv_iload_n C.1 C.2.1 dX10_sign_42 rfl (lv_at hl 2 rfl) ?_
        refine lv_imul C.1 C.2.1 dX10_sign_43 ?_
        refine lv_ishr C.1 C.2.1 dX10_sign_44 ?_
        refine lv_i2b C.1 C.2.1 dX10_sign_45 rfl ?_
        obtain ⟨h46, M46, e46, hf⟩ := fm_st_e hf
        refine fm_bast' C E e46 hM_2 h46 dX10_sign_46 (fun H locs E => ?_)
        refine fm_iinc C (v := (-1)) (lv' := [(2, .int _), (0, .ref _), (1, .int _)]) (k := 2) hl rfl (by decide) (by decide) rfl dX10_sign_47 (fun ls hl => ?_)
        refine lv_goto (tgt := 20) C.1 C.2.1 dX10_sign_50 (by decide) ?_
        exact ih20 _ _ _ _ _ E (lv_sub hl [1, 2, 0] rfl) hf
  unfold pModel_sign at hf
  refine lv_aload_n C.1 C.2.1 dX10_sign_0 rfl (lv_at hl 0 rfl) ?_
  refine lv_iconst (v := 0) C.1 C.2.1 dX10_sign_1 (by decide) ?_
  obtain ⟨M2, e2, hf⟩ := fm_pt_s hf
  refine fm_put' C E e2 lp_X10_77 hM_0 rfl dX10_sign_2 (fun H locs E => ?_)
  refine lv_aload_n C.1 C.2.1 dX10_sign_5 rfl (lv_at hl 0 rfl) ?_
  refine fm_geti C E lf_X10_87 hM_0 rfl dX10_sign_6 ?_
  refine lv_iconst (v := 4) C.1 C.2.1 dX10_sign_9 (by decide) ?_
  refine lv_iadd C.1 C.2.1 dX10_sign_10 ?_
  refine lv_bipush (v := 80) C.1 C.2.1 dX10_sign_11 (by decide) ?_
  refine lv_icmp_le (tgt := 18) C.1 C.2.1 dX10_sign_13 (by decide) (fun hc13 => ?_) (fun hc13 => ?_)
  · have hf := fm_ip hf hc13
    refine lv_iconst (v := 3) C.1 C.2.1 dX10_sign_18 (by decide) ?_
    refine lv_istore_n (lv' := [(2, .int _), (0, .ref _), (1, .int _)]) C.1 C.2.1 dX10_sign_19 rfl hl (by decide) rfl (fun ls hl => ?_)
    exact L20 _ N _ _ _ _ _ E (lv_sub hl [1, 2, 0] rfl) hf
  · have hf := fm_in' hf hc13
    refine lv_iconst (v := (-1)) C.1 C.2.1 dX10_sign_16 (by decide) ?_
    obtain ⟨rfl, rfl⟩ := fm_rt2 hf
    exact fm_iret C E rfl rfl dX10_sign_17
theorem dX10_end_0 : decode cX10_end 0 = .ok (.aload_n 0, 1) := by decide +kernel
theorem dX10_end_1 : decode cX10_end 1 = .ok (.iconst 0, 1) := by decide +kernel
theorem dX10_end_2 : decode cX10_end 2 = .ok (.putfield 77, 3) := by decide +kernel
theorem dX10_end_5 : decode cX10_end 5 = .ok (.iload_n 1, 1) := by decide +kernel
theorem dX10_end_6 : decode cX10_end 6 = .ok (.iconst 0, 1) := by decide +kernel
theorem dX10_end_7 : decode cX10_end 7 = .ok (.aload_n 0, 1) := by decide +kernel
theorem dX10_end_8 : decode cX10_end 8 = .ok (.getfield 87, 3) := by decide +kernel
theorem dX10_end_11 : decode cX10_end 11 = .ok (.invokestatic 83, 3) := by decide +kernel
theorem dX10_end_14 : decode cX10_end 14 = .ok (.ifCond .ne 5, 3) := by decide +kernel
theorem dX10_end_17 : decode cX10_end 17 = .ok (.iconst 0, 1) := by decide +kernel
theorem dX10_end_18 : decode cX10_end 18 = .ok (.ireturn, 1) := by decide +kernel
theorem dX10_end_19 : decode cX10_end 19 = .ok (.aload_n 0, 1) := by decide +kernel
theorem dX10_end_20 : decode cX10_end 20 = .ok (.iload_n 1, 1) := by decide +kernel
theorem dX10_end_21 : decode cX10_end 21 = .ok (.putfield 87, 3) := by decide +kernel
theorem dX10_end_24 : decode cX10_end 24 = .ok (.iconst 1, 1) := by decide +kernel
theorem dX10_end_25 : decode cX10_end 25 = .ok (.ireturn, 1) := by decide +kernel
set_option maxHeartbeats 4000000 in
set_option maxRecDepth 100000 in
theorem c_Model_end (l : Launch) (G : fm_G) (M : fm_M) (v1 : Int32) (r : Int32) (M' : fm_M) (hf : pModel_end M v1 = some (r, M')) : fm_Met l yX10_end cX10_end 2 (some .boolean) { frames := 1, cells := 0, slots := 0, locals := 22 } shM G [.ref (G.2.1 0), .int v1] M (some (.int r)) M' := by
  refine fm_enter (by decide) (Nat.le_of_ble_eq_true rfl) ?_
  intro p e s m args below meth c ls C E hl
  have hl : lv_has ls 2 [(0, .ref (G.2.1 0)), (1, .int v1)] := hl
  unfold pModel_end at hf
  refine lv_aload_n C.1 C.2.1 dX10_end_0 rfl (lv_at hl 0 rfl) ?_
  refine lv_iconst (v := 0) C.1 C.2.1 dX10_end_1 (by decide) ?_
  obtain ⟨M2, e2, hf⟩ := fm_pt_s hf
  refine fm_put' C E e2 lp_X10_77 hM_0 rfl dX10_end_2 (fun H locs E => ?_)
  refine lv_iload_n C.1 C.2.1 dX10_end_5 rfl (lv_at hl 1 rfl) ?_
  refine lv_iconst (v := 0) C.1 C.2.1 dX10_end_6 (by decide) ?_
  refine lv_aload_n C.1 C.2.1 dX10_end_7 rfl (lv_at hl 0 rfl) ?_
  refine fm_geti C E lf_X10_87 hM_0 rfl dX10_end_8 ?_
  obtain ⟨x11, hc11, hf⟩ := fm_bd hf
  refine fm_callS C E [.int _, .int _, .int _] [] lm_X10_83 wk_X10_in (c_Model_in l G _ _ _ _ _  hc11) rfl hl.1 (by simp [Value.category]) ⟨⟨rfl, rfl⟩, by decide, by decide⟩ ⟨by decide, by decide⟩ dX10_end_11 rfl (fun H locs E => ?_)
  refine W.eq (g2 := F0 m 14 ls (.int x11 :: [])) rfl ?_
  refine lv_if_ne (tgt := 19) C.1 C.2.1 dX10_end_14 (by decide) (fun hc14 => ?_) (fun hc14 => ?_)
  · have hf := fm_in' hf hc14
    refine lv_aload_n C.1 C.2.1 dX10_end_19 rfl (lv_at hl 0 rfl) ?_
    refine lv_iload_n C.1 C.2.1 dX10_end_20 rfl (lv_at hl 1 rfl) ?_
    obtain ⟨M21, e21, hf⟩ := fm_pt_s hf
    refine fm_put' C E e21 lp_X10_87 hM_0 rfl dX10_end_21 (fun H locs E => ?_)
    refine lv_iconst (v := 1) C.1 C.2.1 dX10_end_24 (by decide) ?_
    obtain ⟨rfl, rfl⟩ := fm_rt2 hf
    exact fm_iret C E rfl rfl dX10_end_25
  · have hf := fm_ip hf hc14
    refine lv_iconst (v := 0) C.1 C.2.1 dX10_end_17 (by decide) ?_
    obtain ⟨rfl, rfl⟩ := fm_rt2 hf
    exact fm_iret C E rfl rfl dX10_end_18
theorem dX10_begin_0 : decode cX10_begin 0 = .ok (.aload_n 0, 1) := by decide +kernel
theorem dX10_begin_1 : decode cX10_begin 1 = .ok (.aload_n 0, 1) := by decide +kernel
theorem dX10_begin_2 : decode cX10_begin 2 = .ok (.getfield 87, 3) := by decide +kernel
theorem dX10_begin_5 : decode cX10_begin 5 = .ok (.putfield 90, 3) := by decide +kernel
theorem dX10_begin_8 : decode cX10_begin 8 = .ok (.aload_n 0, 1) := by decide +kernel
theorem dX10_begin_9 : decode cX10_begin 9 = .ok (.iconst 0, 1) := by decide +kernel
theorem dX10_begin_10 : decode cX10_begin 10 = .ok (.putfield 93, 3) := by decide +kernel
theorem dX10_begin_13 : decode cX10_begin 13 = .ok (.aload_n 0, 1) := by decide +kernel
theorem dX10_begin_14 : decode cX10_begin 14 = .ok (.iconst (-1), 1) := by decide +kernel
theorem dX10_begin_15 : decode cX10_begin 15 = .ok (.putfield 96, 3) := by decide +kernel
theorem dX10_begin_18 : decode cX10_begin 18 = .ok (.aload_n 0, 1) := by decide +kernel
theorem dX10_begin_19 : decode cX10_begin 19 = .ok (.iconst 0, 1) := by decide +kernel
theorem dX10_begin_20 : decode cX10_begin 20 = .ok (.putfield 87, 3) := by decide +kernel
theorem dX10_begin_23 : decode cX10_begin 23 = .ok (.return_, 1) := by decide +kernel
set_option maxHeartbeats 4000000 in
set_option maxRecDepth 100000 in
theorem c_Model_begin (l : Launch) (G : fm_G) (M : fm_M) (M' : fm_M) (hf : pModel_begin M = some M') : fm_Met l yX10_begin cX10_begin 1 none { frames := 0, cells := 0, slots := 0, locals := 0 } shM G [.ref (G.2.1 0)] M none M' := by
  refine fm_enter (by decide) (Nat.le_of_ble_eq_true rfl) ?_
  intro p e s m args below meth c ls C E hl
  have hl : lv_has ls 1 [(0, .ref (G.2.1 0))] := hl
  unfold pModel_begin at hf
  refine lv_aload_n C.1 C.2.1 dX10_begin_0 rfl (lv_at hl 0 rfl) ?_
  refine lv_aload_n C.1 C.2.1 dX10_begin_1 rfl (lv_at hl 0 rfl) ?_
  refine fm_geti C E lf_X10_87 hM_0 rfl dX10_begin_2 ?_
  obtain ⟨M5, e5, hf⟩ := fm_pt_s hf
  refine fm_put' C E e5 lp_X10_90 hM_0 rfl dX10_begin_5 (fun H locs E => ?_)
  refine lv_aload_n C.1 C.2.1 dX10_begin_8 rfl (lv_at hl 0 rfl) ?_
  refine lv_iconst (v := 0) C.1 C.2.1 dX10_begin_9 (by decide) ?_
  obtain ⟨M10, e10, hf⟩ := fm_pt_s hf
  refine fm_put' C E e10 lp_X10_93 hM_0 rfl dX10_begin_10 (fun H locs E => ?_)
  refine lv_aload_n C.1 C.2.1 dX10_begin_13 rfl (lv_at hl 0 rfl) ?_
  refine lv_iconst (v := (-1)) C.1 C.2.1 dX10_begin_14 (by decide) ?_
  obtain ⟨M15, e15, hf⟩ := fm_pt_s hf
  refine fm_put' C E e15 lp_X10_96 hM_0 rfl dX10_begin_15 (fun H locs E => ?_)
  refine lv_aload_n C.1 C.2.1 dX10_begin_18 rfl (lv_at hl 0 rfl) ?_
  refine lv_iconst (v := 0) C.1 C.2.1 dX10_begin_19 (by decide) ?_
  obtain ⟨M20, e20, hf⟩ := fm_pt_s hf
  refine fm_put' C E e20 lp_X10_87 hM_0 rfl dX10_begin_20 (fun H locs E => ?_)
  obtain rfl := fm_rt1 hf
  exact fm_vret C E rfl dX10_begin_23
theorem dX10_here_0 : decode cX10_here 0 = .ok (.aload_n 0, 1) := by decide +kernel
theorem dX10_here_1 : decode cX10_here 1 = .ok (.getfield 93, 3) := by decide +kernel
theorem dX10_here_4 : decode cX10_here 4 = .ok (.aload_n 0, 1) := by decide +kernel
theorem dX10_here_5 : decode cX10_here 5 = .ok (.getfield 90, 3) := by decide +kernel
theorem dX10_here_8 : decode cX10_here 8 = .ok (.if_icmp .ge 19, 3) := by decide +kernel
theorem dX10_here_11 : decode cX10_here 11 = .ok (.aload_n 0, 1) := by decide +kernel
theorem dX10_here_12 : decode cX10_here 12 = .ok (.getfield 13, 3) := by decide +kernel
theorem dX10_here_15 : decode cX10_here 15 = .ok (.aload_n 0, 1) := by decide +kernel
theorem dX10_here_16 : decode cX10_here 16 = .ok (.getfield 93, 3) := by decide +kernel
theorem dX10_here_19 : decode cX10_here 19 = .ok (.baload, 1) := by decide +kernel
theorem dX10_here_20 : decode cX10_here 20 = .ok (.sipush 255, 3) := by decide +kernel
theorem dX10_here_23 : decode cX10_here 23 = .ok (.iand, 1) := by decide +kernel
theorem dX10_here_24 : decode cX10_here 24 = .ok (.goto 4, 3) := by decide +kernel
theorem dX10_here_27 : decode cX10_here 27 = .ok (.iconst (-1), 1) := by decide +kernel
theorem dX10_here_28 : decode cX10_here 28 = .ok (.ireturn, 1) := by decide +kernel
set_option maxHeartbeats 4000000 in
set_option maxRecDepth 100000 in
theorem c_Model_here (l : Launch) (G : fm_G) (M : fm_M) (r : Int32) (hf : pModel_here M = some r) : fm_Met l yX10_here cX10_here 1 (some .int) { frames := 0, cells := 0, slots := 0, locals := 0 } shM G [.ref (G.2.1 0)] M (some (.int r)) M := by
  refine fm_enter (by decide) (Nat.le_of_ble_eq_true rfl) ?_
  intro p e s m args below meth c ls C E hl
  have hl : lv_has ls 1 [(0, .ref (G.2.1 0))] := hl
  unfold pModel_here at hf
  refine lv_aload_n C.1 C.2.1 dX10_here_0 rfl (lv_at hl 0 rfl) ?_
  refine fm_geti C E lf_X10_93 hM_0 rfl dX10_here_1 ?_
  refine lv_aload_n C.1 C.2.1 dX10_here_4 rfl (lv_at hl 0 rfl) ?_
  refine fm_geti C E lf_X10_90 hM_0 rfl dX10_here_5 ?_
  refine lv_icmp_ge (tgt := 27) C.1 C.2.1 dX10_here_8 (by decide) (fun hc8 => ?_) (fun hc8 => ?_)
  · have hf := fm_ip hf hc8
    refine lv_iconst (v := (-1)) C.1 C.2.1 dX10_here_27 (by decide) ?_
    obtain rfl := fm_rt1 hf
    exact fm_iret C E rfl rfl dX10_here_28
  · have hf := fm_in' hf hc8
    refine lv_aload_n C.1 C.2.1 dX10_here_11 rfl (lv_at hl 0 rfl) ?_
    refine fm_getr C E lf_X10_13 hM_0 rfl dX10_here_12 ?_
    refine lv_aload_n C.1 C.2.1 dX10_here_15 rfl (lv_at hl 0 rfl) ?_
    refine fm_geti C E lf_X10_93 hM_0 rfl dX10_here_16 ?_
    obtain ⟨h19, x19, e19, hf⟩ := fm_ld_e hf
    refine fm_bald' C E e19 hM_2 h19 dX10_here_19 ?_
    refine lv_sipush (v := 255) C.1 C.2.1 dX10_here_20 (by decide) ?_
    refine lv_iand C.1 C.2.1 dX10_here_23 ?_
    refine lv_goto (tgt := 28) C.1 C.2.1 dX10_here_24 (by decide) ?_
    obtain rfl := fm_rt1 hf
    exact fm_iret C E rfl rfl dX10_here_28
theorem dX10_fine_0 : decode cX10_fine 0 = .ok (.aload_n 0, 1) := by decide +kernel
theorem dX10_fine_1 : decode cX10_fine 1 = .ok (.getfield 96, 3) := by decide +kernel
theorem dX10_fine_4 : decode cX10_fine 4 = .ok (.iconst (-1), 1) := by decide +kernel
theorem dX10_fine_5 : decode cX10_fine 5 = .ok (.if_icmp .ne 7, 3) := by decide +kernel
theorem dX10_fine_8 : decode cX10_fine 8 = .ok (.iconst 1, 1) := by decide +kernel
theorem dX10_fine_9 : decode cX10_fine 9 = .ok (.goto 4, 3) := by decide +kernel
theorem dX10_fine_12 : decode cX10_fine 12 = .ok (.iconst 0, 1) := by decide +kernel
theorem dX10_fine_13 : decode cX10_fine 13 = .ok (.ireturn, 1) := by decide +kernel
set_option maxHeartbeats 4000000 in
set_option maxRecDepth 100000 in
theorem c_Model_fine (l : Launch) (G : fm_G) (M : fm_M) (r : Int32) (hf : pModel_fine M = some r) : fm_Met l yX10_fine cX10_fine 1 (some .boolean) { frames := 0, cells := 0, slots := 0, locals := 0 } shM G [.ref (G.2.1 0)] M (some (.int r)) M := by
  refine fm_enter (by decide) (Nat.le_of_ble_eq_true rfl) ?_
  intro p e s m args below meth c ls C E hl
  have hl : lv_has ls 1 [(0, .ref (G.2.1 0))] := hl
  unfold pModel_fine at hf
  refine lv_aload_n C.1 C.2.1 dX10_fine_0 rfl (lv_at hl 0 rfl) ?_
  refine fm_geti C E lf_X10_96 hM_0 rfl dX10_fine_1 ?_
  refine lv_iconst (v := (-1)) C.1 C.2.1 dX10_fine_4 (by decide) ?_
  refine lv_icmp_ne (tgt := 12) C.1 C.2.1 dX10_fine_5 (by decide) (fun hc5 => ?_) (fun hc5 => ?_)
  · have hf := fm_in' hf hc5
    refine lv_iconst (v := 0) C.1 C.2.1 dX10_fine_12 (by decide) ?_
    obtain rfl := fm_rt1 hf
    exact fm_iret C E rfl rfl dX10_fine_13
  · have hf := fm_ip hf hc5
    refine lv_iconst (v := 1) C.1 C.2.1 dX10_fine_8 (by decide) ?_
    refine lv_goto (tgt := 13) C.1 C.2.1 dX10_fine_9 (by decide) ?_
    obtain rfl := fm_rt1 hf
    exact fm_iret C E rfl rfl dX10_fine_13
theorem dX10_fault_0 : decode cX10_fault 0 = .ok (.aload_n 0, 1) := by decide +kernel
theorem dX10_fault_1 : decode cX10_fault 1 = .ok (.invokevirtual 99, 3) := by decide +kernel
theorem dX10_fault_4 : decode cX10_fault 4 = .ok (.ifCond .eq 8, 3) := by decide +kernel
theorem dX10_fault_7 : decode cX10_fault 7 = .ok (.aload_n 0, 1) := by decide +kernel
theorem dX10_fault_8 : decode cX10_fault 8 = .ok (.iload_n 1, 1) := by decide +kernel
theorem dX10_fault_9 : decode cX10_fault 9 = .ok (.putfield 96, 3) := by decide +kernel
theorem dX10_fault_12 : decode cX10_fault 12 = .ok (.return_, 1) := by decide +kernel
set_option maxHeartbeats 4000000 in
set_option maxRecDepth 100000 in
theorem c_Model_fault (l : Launch) (G : fm_G) (M : fm_M) (v1 : Int32) (M' : fm_M) (hf : pModel_fault M v1 = some M') : fm_Met l yX10_fault cX10_fault 2 none { frames := 1, cells := 0, slots := 0, locals := 20 } shM G [.ref (G.2.1 0), .int v1] M none M' := by
  refine fm_enter (by decide) (Nat.le_of_ble_eq_true rfl) ?_
  intro p e s m args below meth c ls C E hl
  have hl : lv_has ls 2 [(0, .ref (G.2.1 0)), (1, .int v1)] := hl
  unfold pModel_fault at hf
  refine lv_aload_n C.1 C.2.1 dX10_fault_0 rfl (lv_at hl 0 rfl) ?_
  obtain ⟨x1, hc1, hf⟩ := fm_bd hf
  refine fm_callV C E [] [] lm_X10_99 wk_X10_fine (c_Model_fine l G _ _  hc1) hM_0 rfl rfl rfl hl.1 (by simp [Value.category]) ⟨⟨rfl, rfl⟩, by decide, by decide⟩ ⟨by decide, by decide⟩ dX10_fault_1 rfl (fun H locs E => ?_)
  refine W.eq (g2 := F0 m 4 ls (.int x1 :: [])) rfl ?_
  refine lv_if_eq (tgt := 12) C.1 C.2.1 dX10_fault_4 (by decide) (fun hc4 => ?_) (fun hc4 => ?_)
  · have hf := fm_ip hf hc4
    obtain rfl := fm_rt1 hf
    exact fm_vret C E rfl dX10_fault_12
  · have hf := fm_in' hf hc4
    refine lv_aload_n C.1 C.2.1 dX10_fault_7 rfl (lv_at hl 0 rfl) ?_
    refine lv_iload_n C.1 C.2.1 dX10_fault_8 rfl (lv_at hl 1 rfl) ?_
    obtain ⟨M9, e9, hf⟩ := fm_pt_s hf
    refine fm_put' C E e9 lp_X10_96 hM_0 rfl dX10_fault_9 (fun H locs E => ?_)
    obtain rfl := fm_rt1 hf
    exact fm_vret C E rfl dX10_fault_12
theorem dX10_oneOf_0 : decode cX10_oneOf 0 = .ok (.aload_n 0, 1) := by decide +kernel
theorem dX10_oneOf_1 : decode cX10_oneOf 1 = .ok (.invokevirtual 99, 3) := by decide +kernel
theorem dX10_oneOf_4 : decode cX10_oneOf 4 = .ok (.ifCond .ne 5, 3) := by decide +kernel
theorem dX10_oneOf_7 : decode cX10_oneOf 7 = .ok (.iconst 0, 1) := by decide +kernel
theorem dX10_oneOf_8 : decode cX10_oneOf 8 = .ok (.ireturn, 1) := by decide +kernel
theorem dX10_oneOf_9 : decode cX10_oneOf 9 = .ok (.aload_n 0, 1) := by decide +kernel
theorem dX10_oneOf_10 : decode cX10_oneOf 10 = .ok (.invokevirtual 103, 3) := by decide +kernel
theorem dX10_oneOf_13 : decode cX10_oneOf 13 = .ok (.iload_n 1, 1) := by decide +kernel
theorem dX10_oneOf_14 : decode cX10_oneOf 14 = .ok (.iload_n 1, 1) := by decide +kernel
theorem dX10_oneOf_15 : decode cX10_oneOf 15 = .ok (.iload_n 2, 1) := by decide +kernel
theorem dX10_oneOf_16 : decode cX10_oneOf 16 = .ok (.iadd, 1) := by decide +kernel
theorem dX10_oneOf_17 : decode cX10_oneOf 17 = .ok (.iconst 1, 1) := by decide +kernel
theorem dX10_oneOf_18 : decode cX10_oneOf 18 = .ok (.isub, 1) := by decide +kernel
theorem dX10_oneOf_19 : decode cX10_oneOf 19 = .ok (.invokestatic 83, 3) := by decide +kernel
theorem dX10_oneOf_22 : decode cX10_oneOf 22 = .ok (.ifCond .ne 13, 3) := by decide +kernel
theorem dX10_oneOf_25 : decode cX10_oneOf 25 = .ok (.aload_n 0, 1) := by decide +kernel
theorem dX10_oneOf_26 : decode cX10_oneOf 26 = .ok (.aload_n 0, 1) := by decide +kernel
theorem dX10_oneOf_27 : decode cX10_oneOf 27 = .ok (.getfield 93, 3) := by decide +kernel
theorem dX10_oneOf_30 : decode cX10_oneOf 30 = .ok (.invokevirtual 107, 3) := by decide +kernel
theorem dX10_oneOf_33 : decode cX10_oneOf 33 = .ok (.iconst 0, 1) := by decide +kernel
theorem dX10_oneOf_34 : decode cX10_oneOf 34 = .ok (.ireturn, 1) := by decide +kernel
theorem dX10_oneOf_35 : decode cX10_oneOf 35 = .ok (.aload_n 0, 1) := by decide +kernel
theorem dX10_oneOf_36 : decode cX10_oneOf 36 = .ok (.dup, 1) := by decide +kernel
theorem dX10_oneOf_37 : decode cX10_oneOf 37 = .ok (.getfield 93, 3) := by decide +kernel
theorem dX10_oneOf_40 : decode cX10_oneOf 40 = .ok (.iconst 1, 1) := by decide +kernel
theorem dX10_oneOf_41 : decode cX10_oneOf 41 = .ok (.iadd, 1) := by decide +kernel
theorem dX10_oneOf_42 : decode cX10_oneOf 42 = .ok (.putfield 93, 3) := by decide +kernel
theorem dX10_oneOf_45 : decode cX10_oneOf 45 = .ok (.aload_n 0, 1) := by decide +kernel
theorem dX10_oneOf_46 : decode cX10_oneOf 46 = .ok (.getfield 13, 3) := by decide +kernel
theorem dX10_oneOf_49 : decode cX10_oneOf 49 = .ok (.aload_n 0, 1) := by decide +kernel
theorem dX10_oneOf_50 : decode cX10_oneOf 50 = .ok (.getfield 93, 3) := by decide +kernel
theorem dX10_oneOf_53 : decode cX10_oneOf 53 = .ok (.iconst 1, 1) := by decide +kernel
theorem dX10_oneOf_54 : decode cX10_oneOf 54 = .ok (.isub, 1) := by decide +kernel
theorem dX10_oneOf_55 : decode cX10_oneOf 55 = .ok (.baload, 1) := by decide +kernel
theorem dX10_oneOf_56 : decode cX10_oneOf 56 = .ok (.iload_n 1, 1) := by decide +kernel
theorem dX10_oneOf_57 : decode cX10_oneOf 57 = .ok (.isub, 1) := by decide +kernel
theorem dX10_oneOf_58 : decode cX10_oneOf 58 = .ok (.ireturn, 1) := by decide +kernel
set_option maxHeartbeats 4000000 in
set_option maxRecDepth 100000 in
theorem c_Model_oneOf (l : Launch) (G : fm_G) (M : fm_M) (v1 : Int32) (v2 : Int32) (r : Int32) (M' : fm_M) (hf : pModel_oneOf M v1 v2 = some (r, M')) : fm_Met l yX10_oneOf cX10_oneOf 3 (some .int) { frames := 2, cells := 0, slots := 0, locals := 41 } shM G [.ref (G.2.1 0), .int v1, .int v2] M (some (.int r)) M' := by
  refine fm_enter (by decide) (Nat.le_of_ble_eq_true rfl) ?_
  intro p e s m args below meth c ls C E hl
  have hl : lv_has ls 3 [(0, .ref (G.2.1 0)), (1, .int v1), (2, .int v2)] := hl
  unfold pModel_oneOf at hf
  refine lv_aload_n C.1 C.2.1 dX10_oneOf_0 rfl (lv_at hl 0 rfl) ?_
  obtain ⟨x1, hc1, hf⟩ := fm_bd hf
  refine fm_callV C E [] [] lm_X10_99 wk_X10_fine (c_Model_fine l G _ _  hc1) hM_0 rfl rfl rfl hl.1 (by simp [Value.category]) ⟨⟨rfl, rfl⟩, by decide, by decide⟩ ⟨by decide, by decide⟩ dX10_oneOf_1 rfl (fun H locs E => ?_)
  refine W.eq (g2 := F0 m 4 ls (.int x1 :: [])) rfl ?_
  refine lv_if_ne (tgt := 9) C.1 C.2.1 dX10_oneOf_4 (by decide) (fun hc4 => ?_) (fun hc4 => ?_)
  · have hf := fm_in' hf hc4
    refine lv_aload_n C.1 C.2.1 dX10_oneOf_9 rfl (lv_at hl 0 rfl) ?_
    obtain ⟨x10, hc10, hf⟩ := fm_bd hf
    refine fm_callV C E [] [] lm_X10_103 wk_X10_here (c_Model_here l G _ _  hc10) hM_0 rfl rfl rfl hl.1 (by simp [Value.category]) ⟨⟨rfl, rfl⟩, by decide, by decide⟩ ⟨by decide, by decide⟩ dX10_oneOf_10 rfl (fun H locs E => ?_)
    refine W.eq (g2 := F0 m 13 ls (.int x10 :: [])) rfl ?_
    refine lv_iload_n C.1 C.2.1 dX10_oneOf_13 rfl (lv_at hl 1 rfl) ?_
    refine lv_iload_n C.1 C.2.1 dX10_oneOf_14 rfl (lv_at hl 1 rfl) ?_
    refine lv_iload_n C.1 C.2.1 dX10_oneOf_15 rfl (lv_at hl 2 rfl) ?_
    refine lv_iadd C.1 C.2.1 dX10_oneOf_16 ?_
    refine lv_iconst (v := 1) C.1 C.2.1 dX10_oneOf_17 (by decide) ?_
    refine lv_isub C.1 C.2.1 dX10_oneOf_18 ?_
    obtain ⟨x19, hc19, hf⟩ := fm_bd hf
    refine fm_callS C E [.int _, .int _, .int _] [] lm_X10_83 wk_X10_in (c_Model_in l G _ _ _ _ _  hc19) rfl hl.1 (by simp [Value.category]) ⟨⟨rfl, rfl⟩, by decide, by decide⟩ ⟨by decide, by decide⟩ dX10_oneOf_19 rfl (fun H locs E => ?_)
    refine W.eq (g2 := F0 m 22 ls (.int x19 :: [])) rfl ?_
    refine lv_if_ne (tgt := 35) C.1 C.2.1 dX10_oneOf_22 (by decide) (fun hc22 => ?_) (fun hc22 => ?_)
    · have hf := fm_in' hf hc22
      refine lv_aload_n C.1 C.2.1 dX10_oneOf_35 rfl (lv_at hl 0 rfl) ?_
      refine lv_dup C.1 C.2.1 dX10_oneOf_36 rfl ?_
      refine fm_geti C E lf_X10_93 hM_0 rfl dX10_oneOf_37 ?_
      refine lv_iconst (v := 1) C.1 C.2.1 dX10_oneOf_40 (by decide) ?_
      refine lv_iadd C.1 C.2.1 dX10_oneOf_41 ?_
      obtain ⟨M42, e42, hf⟩ := fm_pt_s hf
      refine fm_put' C E e42 lp_X10_93 hM_0 rfl dX10_oneOf_42 (fun H locs E => ?_)
      refine lv_aload_n C.1 C.2.1 dX10_oneOf_45 rfl (lv_at hl 0 rfl) ?_
      refine fm_getr C E lf_X10_13 hM_0 rfl dX10_oneOf_46 ?_
      refine lv_aload_n C.1 C.2.1 dX10_oneOf_49 rfl (lv_at hl 0 rfl) ?_
      refine fm_geti C E lf_X10_93 hM_0 rfl dX10_oneOf_50 ?_
      refine lv_iconst (v := 1) C.1 C.2.1 dX10_oneOf_53 (by decide) ?_
      refine lv_isub C.1 C.2.1 dX10_oneOf_54 ?_
      obtain ⟨h55, x55, e55, hf⟩ := fm_ld_e hf
      refine fm_bald' C E e55 hM_2 h55 dX10_oneOf_55 ?_
      refine lv_iload_n C.1 C.2.1 dX10_oneOf_56 rfl (lv_at hl 1 rfl) ?_
      refine lv_isub C.1 C.2.1 dX10_oneOf_57 ?_
      obtain ⟨rfl, rfl⟩ := fm_rt2 hf
      exact fm_iret C E rfl rfl dX10_oneOf_58
    · have hf := fm_ip hf hc22
      refine lv_aload_n C.1 C.2.1 dX10_oneOf_25 rfl (lv_at hl 0 rfl) ?_
      refine lv_aload_n C.1 C.2.1 dX10_oneOf_26 rfl (lv_at hl 0 rfl) ?_
      refine fm_geti C E lf_X10_93 hM_0 rfl dX10_oneOf_27 ?_
      obtain ⟨M30, hc30, hf⟩ := fm_bd hf
      refine fm_callV C E [.int _] [] lm_X10_107 wk_X10_fault (c_Model_fault l G _ _ _ hc30) hM_0 rfl rfl rfl hl.1 (by simp [Value.category]) ⟨⟨rfl, rfl⟩, by decide, by decide⟩ ⟨by decide, by decide⟩ dX10_oneOf_30 rfl (fun H locs E => ?_)
      refine W.eq (g2 := F0 m 33 ls []) rfl ?_
      refine lv_iconst (v := 0) C.1 C.2.1 dX10_oneOf_33 (by decide) ?_
      obtain ⟨rfl, rfl⟩ := fm_rt2 hf
      exact fm_iret C E rfl rfl dX10_oneOf_34
  · have hf := fm_ip hf hc4
    refine lv_iconst (v := 0) C.1 C.2.1 dX10_oneOf_7 (by decide) ?_
    obtain ⟨rfl, rfl⟩ := fm_rt2 hf
    exact fm_iret C E rfl rfl dX10_oneOf_8
theorem dX10_digits_0 : decode cX10_digits 0 = .ok (.iconst 0, 1) := by decide +kernel
theorem dX10_digits_1 : decode cX10_digits 1 = .ok (.istore_n 2, 1) := by decide +kernel
theorem dX10_digits_2 : decode cX10_digits 2 = .ok (.iconst 0, 1) := by decide +kernel
theorem dX10_digits_3 : decode cX10_digits 3 = .ok (.istore_n 3, 1) := by decide +kernel
theorem dX10_digits_4 : decode cX10_digits 4 = .ok (.iload_n 3, 1) := by decide +kernel
theorem dX10_digits_5 : decode cX10_digits 5 = .ok (.iload_n 1, 1) := by decide +kernel
theorem dX10_digits_6 : decode cX10_digits 6 = .ok (.if_icmp .ge 23, 3) := by decide +kernel
theorem dX10_digits_9 : decode cX10_digits 9 = .ok (.bipush 10, 2) := by decide +kernel
theorem dX10_digits_11 : decode cX10_digits 11 = .ok (.iload_n 2, 1) := by decide +kernel
theorem dX10_digits_12 : decode cX10_digits 12 = .ok (.imul, 1) := by decide +kernel
theorem dX10_digits_13 : decode cX10_digits 13 = .ok (.aload_n 0, 1) := by decide +kernel
theorem dX10_digits_14 : decode cX10_digits 14 = .ok (.bipush 48, 2) := by decide +kernel
theorem dX10_digits_16 : decode cX10_digits 16 = .ok (.bipush 10, 2) := by decide +kernel
theorem dX10_digits_18 : decode cX10_digits 18 = .ok (.invokevirtual 111, 3) := by decide +kernel
theorem dX10_digits_21 : decode cX10_digits 21 = .ok (.iadd, 1) := by decide +kernel
theorem dX10_digits_22 : decode cX10_digits 22 = .ok (.istore_n 2, 1) := by decide +kernel
theorem dX10_digits_23 : decode cX10_digits 23 = .ok (.iinc 3 1, 3) := by decide +kernel
theorem dX10_digits_26 : decode cX10_digits 26 = .ok (.goto (-22), 3) := by decide +kernel
theorem dX10_digits_29 : decode cX10_digits 29 = .ok (.iload_n 2, 1) := by decide +kernel
theorem dX10_digits_30 : decode cX10_digits 30 = .ok (.ireturn, 1) := by decide +kernel
set_option maxHeartbeats 4000000 in
set_option maxRecDepth 100000 in
theorem c_Model_digits (l : Launch) (G : fm_G) (N : Nat) (M : fm_M) (v1 : Int32) (r : Int32) (M' : fm_M) (hf : pModel_digits N M v1 = some (r, M')) : fm_Met l yX10_digits cX10_digits 4 (some .int) { frames := 3, cells := 0, slots := 0, locals := 63 } shM G [.ref (G.2.1 0), .int v1] M (some (.int r)) M' := by
  refine fm_enter (by decide) (Nat.le_of_ble_eq_true rfl) ?_
  intro p e s m args below meth c ls C E hl
  have hl : lv_has ls 4 [(0, .ref (G.2.1 0)), (1, .int v1)] := hl
  have L4 : ∀ (w4_v1 : Int32) (n4 : Nat) (v2 : Int32) (v3 : Int32) (M : fm_M) (H : Heap) (locs : List Loc) (ls : Array Slot), fm_Wd shM G M s H locs → lv_has ls 4 [(0, .ref (G.2.1 0)), (1, .int w4_v1), (2, .int v2), (3, .int v3)] → fm_lp (pModel_digits_L4 N w4_v1) n4 (v2, v3, M) = some (r, M') → W p l e { frames := 3, cells := 0, slots := 0, locals := 63 } s m args below meth c H locs 0 0 (fm_Z below shM G args s (some (.int r)) M') (F0 m 4 ls []) := by
    intro w4_v1 n4
    induction n4 with
    | zero => intro v2 v3 M H locs ls E hl hf; exact fm_lp_0 hf
    | succ n4 ih4 =>
      intro v2 v3 M H locs ls E hl hf
      have hf : pModel_digits_L4b N w4_v1 (fm_lp (pModel_digits_L4 N w4_v1) n4) v2 v3 M = some (r, M') := hf
      unfold pModel_digits_L4b at hf
      refine lv_iload_n C.1 C.2.1 dX10_digits_4 rfl (lv_at hl 3 rfl) ?_
      refine lv_iload_n C.1 C.2.1 dX10_digits_5 rfl (lv_at hl 1 rfl) ?_
      refine lv_icmp_ge (tgt := 29) C.1 C.2.1 dX10_digits_6 (by decide) (fun hc6 => ?_) (fun hc6 => ?_)
      · have hf := fm_ip hf hc6
        refine lv_iload_n C.1 C.2.1 dX10_digits_29 rfl (lv_at hl 2 rfl) ?_
        obtain ⟨rfl, rfl⟩ := fm_rt2 hf
        exact fm_iret C E rfl rfl dX10_digits_30
      · have hf := fm_in' hf hc6
        refine lv_bipush (v := 10) C.1 C.2.1 dX10_digits_9 (by decide) ?_
        refine lv_iload_n C.1 C.2.1 dX10_digits_11 rfl (lv_at hl 2 rfl) ?_
        refine lv_imul C.1 C.2.1 dX10_digits_12 ?_
        refine lv_aload_n C.1 C.2.1 dX10_digits_13 rfl (lv_at hl 0 rfl) ?_
        refine lv_bipush (v := 48) C.1 C.2.1 dX10_digits_14 (by decide) ?_
        refine lv_bipush (v := 10) C.1 C.2.1 dX10_digits_16 (by decide) ?_
        obtain ⟨⟨x18, M18⟩, hc18, hf⟩ := fm_bd hf
        dsimp only at hf
        refine fm_callV C E [.int _, .int _] [.int _] lm_X10_111 wk_X10_oneOf (c_Model_oneOf l G _ _ _ _ _ hc18) hM_0 rfl rfl rfl hl.1 (by simp [Value.category]) ⟨⟨rfl, rfl⟩, by decide, by decide⟩ ⟨by decide, by decide⟩ dX10_digits_18 rfl (fun H locs E => ?_)
        refine W.eq (g2 := F0 m 21 ls (.int x18 :: [.int _])) rfl ?_
        refine lv_iadd C.1 C.2.1 dX10_digits_21 ?_
        refine lv_istore_n (lv' := [(2, .int _), (0, .ref _), (1, .int _), (3, .int _)]) C.1 C.2.1 dX10_digits_22 rfl hl (by decide) rfl (fun ls hl => ?_)
        refine fm_iinc C (v := 1) (lv' := [(3, .int _), (2, .int _), (0, .ref _), (1, .int _)]) (k := 3) hl rfl (by decide) (by decide) rfl dX10_digits_23 (fun ls hl => ?_)
        refine lv_goto (tgt := 4) C.1 C.2.1 dX10_digits_26 (by decide) ?_
        exact ih4 _ _ _ _ _ _ E (lv_sub hl [2, 3, 1, 0] rfl) hf
  unfold pModel_digits at hf
  refine lv_iconst (v := 0) C.1 C.2.1 dX10_digits_0 (by decide) ?_
  refine lv_istore_n (lv' := [(2, .int _), (0, .ref _), (1, .int _)]) C.1 C.2.1 dX10_digits_1 rfl hl (by decide) rfl (fun ls hl => ?_)
  refine lv_iconst (v := 0) C.1 C.2.1 dX10_digits_2 (by decide) ?_
  refine lv_istore_n (lv' := [(3, .int _), (2, .int _), (0, .ref _), (1, .int _)]) C.1 C.2.1 dX10_digits_3 rfl hl (by decide) rfl (fun ls hl => ?_)
  exact L4 _ N _ _ _ _ _ _ E (lv_sub hl [2, 3, 1, 0] rfl) hf
theorem dX10_passes_0 : decode cX10_passes 0 = .ok (.aload_n 0, 1) := by decide +kernel
theorem dX10_passes_1 : decode cX10_passes 1 = .ok (.invokevirtual 99, 3) := by decide +kernel
theorem dX10_passes_4 : decode cX10_passes 4 = .ok (.ifCond .eq 11, 3) := by decide +kernel
theorem dX10_passes_7 : decode cX10_passes 7 = .ok (.aload_n 0, 1) := by decide +kernel
theorem dX10_passes_8 : decode cX10_passes 8 = .ok (.invokevirtual 103, 3) := by decide +kernel
theorem dX10_passes_11 : decode cX10_passes 11 = .ok (.iload_n 1, 1) := by decide +kernel
theorem dX10_passes_12 : decode cX10_passes 12 = .ok (.if_icmp .eq 5, 3) := by decide +kernel
theorem dX10_passes_15 : decode cX10_passes 15 = .ok (.iconst 0, 1) := by decide +kernel
theorem dX10_passes_16 : decode cX10_passes 16 = .ok (.ireturn, 1) := by decide +kernel
theorem dX10_passes_17 : decode cX10_passes 17 = .ok (.aload_n 0, 1) := by decide +kernel
theorem dX10_passes_18 : decode cX10_passes 18 = .ok (.dup, 1) := by decide +kernel
theorem dX10_passes_19 : decode cX10_passes 19 = .ok (.getfield 93, 3) := by decide +kernel
theorem dX10_passes_22 : decode cX10_passes 22 = .ok (.iconst 1, 1) := by decide +kernel
theorem dX10_passes_23 : decode cX10_passes 23 = .ok (.iadd, 1) := by decide +kernel
theorem dX10_passes_24 : decode cX10_passes 24 = .ok (.putfield 93, 3) := by decide +kernel
theorem dX10_passes_27 : decode cX10_passes 27 = .ok (.iconst 1, 1) := by decide +kernel
theorem dX10_passes_28 : decode cX10_passes 28 = .ok (.ireturn, 1) := by decide +kernel
set_option maxHeartbeats 4000000 in
set_option maxRecDepth 100000 in
theorem c_Model_passes (l : Launch) (G : fm_G) (M : fm_M) (v1 : Int32) (r : Int32) (M' : fm_M) (hf : pModel_passes M v1 = some (r, M')) : fm_Met l yX10_passes cX10_passes 2 (some .boolean) { frames := 1, cells := 0, slots := 0, locals := 20 } shM G [.ref (G.2.1 0), .int v1] M (some (.int r)) M' := by
  refine fm_enter (by decide) (Nat.le_of_ble_eq_true rfl) ?_
  intro p e s m args below meth c ls C E hl
  have hl : lv_has ls 2 [(0, .ref (G.2.1 0)), (1, .int v1)] := hl
  unfold pModel_passes at hf
  refine lv_aload_n C.1 C.2.1 dX10_passes_0 rfl (lv_at hl 0 rfl) ?_
  obtain ⟨x1, hc1, hf⟩ := fm_bd hf
  refine fm_callV C E [] [] lm_X10_99 wk_X10_fine (c_Model_fine l G _ _  hc1) hM_0 rfl rfl rfl hl.1 (by simp [Value.category]) ⟨⟨rfl, rfl⟩, by decide, by decide⟩ ⟨by decide, by decide⟩ dX10_passes_1 rfl (fun H locs E => ?_)
  refine W.eq (g2 := F0 m 4 ls (.int x1 :: [])) rfl ?_
  refine lv_if_eq (tgt := 15) C.1 C.2.1 dX10_passes_4 (by decide) (fun hc4 => ?_) (fun hc4 => ?_)
  · have hf := fm_ip hf hc4
    refine lv_iconst (v := 0) C.1 C.2.1 dX10_passes_15 (by decide) ?_
    obtain ⟨rfl, rfl⟩ := fm_rt2 hf
    exact fm_iret C E rfl rfl dX10_passes_16
  · have hf := fm_in' hf hc4
    refine lv_aload_n C.1 C.2.1 dX10_passes_7 rfl (lv_at hl 0 rfl) ?_
    obtain ⟨x8, hc8, hf⟩ := fm_bd hf
    refine fm_callV C E [] [] lm_X10_103 wk_X10_here (c_Model_here l G _ _  hc8) hM_0 rfl rfl rfl hl.1 (by simp [Value.category]) ⟨⟨rfl, rfl⟩, by decide, by decide⟩ ⟨by decide, by decide⟩ dX10_passes_8 rfl (fun H locs E => ?_)
    refine W.eq (g2 := F0 m 11 ls (.int x8 :: [])) rfl ?_
    refine lv_iload_n C.1 C.2.1 dX10_passes_11 rfl (lv_at hl 1 rfl) ?_
    refine lv_icmp_eq (tgt := 17) C.1 C.2.1 dX10_passes_12 (by decide) (fun hc12 => ?_) (fun hc12 => ?_)
    · have hf := fm_ip hf hc12
      refine lv_aload_n C.1 C.2.1 dX10_passes_17 rfl (lv_at hl 0 rfl) ?_
      refine lv_dup C.1 C.2.1 dX10_passes_18 rfl ?_
      refine fm_geti C E lf_X10_93 hM_0 rfl dX10_passes_19 ?_
      refine lv_iconst (v := 1) C.1 C.2.1 dX10_passes_22 (by decide) ?_
      refine lv_iadd C.1 C.2.1 dX10_passes_23 ?_
      obtain ⟨M24, e24, hf⟩ := fm_pt_s hf
      refine fm_put' C E e24 lp_X10_93 hM_0 rfl dX10_passes_24 (fun H locs E => ?_)
      refine lv_iconst (v := 1) C.1 C.2.1 dX10_passes_27 (by decide) ?_
      obtain ⟨rfl, rfl⟩ := fm_rt2 hf
      exact fm_iret C E rfl rfl dX10_passes_28
    · have hf := fm_in' hf hc12
      refine lv_iconst (v := 0) C.1 C.2.1 dX10_passes_15 (by decide) ?_
      obtain ⟨rfl, rfl⟩ := fm_rt2 hf
      exact fm_iret C E rfl rfl dX10_passes_16
theorem dX10_wasRight_0 : decode cX10_wasRight 0 = .ok (.aload_n 0, 1) := by decide +kernel
theorem dX10_wasRight_1 : decode cX10_wasRight 1 = .ok (.getfield 93, 3) := by decide +kernel
theorem dX10_wasRight_4 : decode cX10_wasRight 4 = .ok (.aload_n 0, 1) := by decide +kernel
theorem dX10_wasRight_5 : decode cX10_wasRight 5 = .ok (.getfield 90, 3) := by decide +kernel
theorem dX10_wasRight_8 : decode cX10_wasRight 8 = .ok (.if_icmp .ge 11, 3) := by decide +kernel
theorem dX10_wasRight_11 : decode cX10_wasRight 11 = .ok (.aload_n 0, 1) := by decide +kernel
theorem dX10_wasRight_12 : decode cX10_wasRight 12 = .ok (.aload_n 0, 1) := by decide +kernel
theorem dX10_wasRight_13 : decode cX10_wasRight 13 = .ok (.getfield 93, 3) := by decide +kernel
theorem dX10_wasRight_16 : decode cX10_wasRight 16 = .ok (.invokevirtual 107, 3) := by decide +kernel
theorem dX10_wasRight_19 : decode cX10_wasRight 19 = .ok (.aload_n 0, 1) := by decide +kernel
theorem dX10_wasRight_20 : decode cX10_wasRight 20 = .ok (.invokevirtual 99, 3) := by decide +kernel
theorem dX10_wasRight_23 : decode cX10_wasRight 23 = .ok (.ireturn, 1) := by decide +kernel
set_option maxHeartbeats 4000000 in
set_option maxRecDepth 100000 in
theorem c_Model_wasRight (l : Launch) (G : fm_G) (M : fm_M) (r : Int32) (M' : fm_M) (hf : pModel_wasRight M = some (r, M')) : fm_Met l yX10_wasRight cX10_wasRight 1 (some .boolean) { frames := 2, cells := 0, slots := 0, locals := 41 } shM G [.ref (G.2.1 0)] M (some (.int r)) M' := by
  refine fm_enter (by decide) (Nat.le_of_ble_eq_true rfl) ?_
  intro p e s m args below meth c ls C E hl
  have hl : lv_has ls 1 [(0, .ref (G.2.1 0))] := hl
  have J19 : ∀ (M : fm_M) (H : Heap) (locs : List Loc) (ls : Array Slot), fm_Wd shM G M s H locs → lv_has ls 1 [(0, .ref (G.2.1 0))] → pModel_wasRight_J19 M = some (r, M') → W p l e { frames := 2, cells := 0, slots := 0, locals := 41 } s m args below meth c H locs 0 0 (fm_Z below shM G args s (some (.int r)) M') (F0 m 19 ls []) := by
    intro M H locs ls E hl hf
    unfold pModel_wasRight_J19 at hf
    refine lv_aload_n C.1 C.2.1 dX10_wasRight_19 rfl (lv_at hl 0 rfl) ?_
    obtain ⟨x20, hc20, hf⟩ := fm_bd hf
    refine fm_callV C E [] [] lm_X10_99 wk_X10_fine (c_Model_fine l G _ _  hc20) hM_0 rfl rfl rfl hl.1 (by simp [Value.category]) ⟨⟨rfl, rfl⟩, by decide, by decide⟩ ⟨by decide, by decide⟩ dX10_wasRight_20 rfl (fun H locs E => ?_)
    refine W.eq (g2 := F0 m 23 ls (.int x20 :: [])) rfl ?_
    obtain ⟨hn23, hf⟩ := fm_bo_s hf
    obtain ⟨rfl, rfl⟩ := fm_rt2 hf
    exact fm_iret C E rfl hn23 dX10_wasRight_23
  unfold pModel_wasRight at hf
  refine lv_aload_n C.1 C.2.1 dX10_wasRight_0 rfl (lv_at hl 0 rfl) ?_
  refine fm_geti C E lf_X10_93 hM_0 rfl dX10_wasRight_1 ?_
  refine lv_aload_n C.1 C.2.1 dX10_wasRight_4 rfl (lv_at hl 0 rfl) ?_
  refine fm_geti C E lf_X10_90 hM_0 rfl dX10_wasRight_5 ?_
  refine lv_icmp_ge (tgt := 19) C.1 C.2.1 dX10_wasRight_8 (by decide) (fun hc8 => ?_) (fun hc8 => ?_)
  · have hf := fm_ip hf hc8
    exact J19 _ _ _ _ E (lv_sub hl [0] rfl) hf
  · have hf := fm_in' hf hc8
    refine lv_aload_n C.1 C.2.1 dX10_wasRight_11 rfl (lv_at hl 0 rfl) ?_
    refine lv_aload_n C.1 C.2.1 dX10_wasRight_12 rfl (lv_at hl 0 rfl) ?_
    refine fm_geti C E lf_X10_93 hM_0 rfl dX10_wasRight_13 ?_
    obtain ⟨M16, hc16, hf⟩ := fm_bd hf
    refine fm_callV C E [.int _] [] lm_X10_107 wk_X10_fault (c_Model_fault l G _ _ _ hc16) hM_0 rfl rfl rfl hl.1 (by simp [Value.category]) ⟨⟨rfl, rfl⟩, by decide, by decide⟩ ⟨by decide, by decide⟩ dX10_wasRight_16 rfl (fun H locs E => ?_)
    refine W.eq (g2 := F0 m 19 ls []) rfl ?_
    exact J19 _ _ _ _ E (lv_sub hl [0] rfl) hf
theorem dX10_sheet_0 : decode cX10_sheet 0 = .ok (.aload_n 0, 1) := by decide +kernel
theorem dX10_sheet_1 : decode cX10_sheet 1 = .ok (.iconst 0, 1) := by decide +kernel
theorem dX10_sheet_2 : decode cX10_sheet 2 = .ok (.putfield 77, 3) := by decide +kernel
theorem dX10_sheet_5 : decode cX10_sheet 5 = .ok (.iload_n 1, 1) := by decide +kernel
theorem dX10_sheet_6 : decode cX10_sheet 6 = .ok (.iconst 0, 1) := by decide +kernel
theorem dX10_sheet_7 : decode cX10_sheet 7 = .ok (.iconst 3, 1) := by decide +kernel
theorem dX10_sheet_8 : decode cX10_sheet 8 = .ok (.invokestatic 83, 3) := by decide +kernel
theorem dX10_sheet_11 : decode cX10_sheet 11 = .ok (.ifCond .eq 9, 3) := by decide +kernel
theorem dX10_sheet_14 : decode cX10_sheet 14 = .ok (.iload_n 2, 1) := by decide +kernel
theorem dX10_sheet_15 : decode cX10_sheet 15 = .ok (.bipush 6, 2) := by decide +kernel
theorem dX10_sheet_17 : decode cX10_sheet 17 = .ok (.if_icmp .le 5, 3) := by decide +kernel
theorem dX10_sheet_20 : decode cX10_sheet 20 = .ok (.iconst (-1), 1) := by decide +kernel
theorem dX10_sheet_21 : decode cX10_sheet 21 = .ok (.ireturn, 1) := by decide +kernel
theorem dX10_sheet_22 : decode cX10_sheet 22 = .ok (.iload_n 1, 1) := by decide +kernel
theorem dX10_sheet_23 : decode cX10_sheet 23 = .ok (.iconst 3, 1) := by decide +kernel
theorem dX10_sheet_24 : decode cX10_sheet 24 = .ok (.if_icmp .ne 6, 3) := by decide +kernel
theorem dX10_sheet_27 : decode cX10_sheet 27 = .ok (.bipush (-3), 2) := by decide +kernel
theorem dX10_sheet_29 : decode cX10_sheet 29 = .ok (.ireturn, 1) := by decide +kernel
theorem dX10_sheet_30 : decode cX10_sheet 30 = .ok (.iload_n 2, 1) := by decide +kernel
theorem dX10_sheet_31 : decode cX10_sheet 31 = .ok (.ifCond .ge 6, 3) := by decide +kernel
theorem dX10_sheet_34 : decode cX10_sheet 34 = .ok (.bipush (-2), 2) := by decide +kernel
theorem dX10_sheet_36 : decode cX10_sheet 36 = .ok (.ireturn, 1) := by decide +kernel
theorem dX10_sheet_37 : decode cX10_sheet 37 = .ok (.iconst 0, 1) := by decide +kernel
theorem dX10_sheet_38 : decode cX10_sheet 38 = .ok (.istore 5, 2) := by decide +kernel
theorem dX10_sheet_40 : decode cX10_sheet 40 = .ok (.iload_n 3, 1) := by decide +kernel
theorem dX10_sheet_41 : decode cX10_sheet 41 = .ok (.istore 6, 2) := by decide +kernel
theorem dX10_sheet_43 : decode cX10_sheet 43 = .ok (.iconst 0, 1) := by decide +kernel
theorem dX10_sheet_44 : decode cX10_sheet 44 = .ok (.istore 7, 2) := by decide +kernel
theorem dX10_sheet_46 : decode cX10_sheet 46 = .ok (.iload 7, 2) := by decide +kernel
theorem dX10_sheet_48 : decode cX10_sheet 48 = .ok (.iload_n 2, 1) := by decide +kernel
theorem dX10_sheet_49 : decode cX10_sheet 49 = .ok (.if_icmp .ge 106, 3) := by decide +kernel
theorem dX10_sheet_52 : decode cX10_sheet 52 = .ok (.iload 7, 2) := by decide +kernel
theorem dX10_sheet_54 : decode cX10_sheet 54 = .ok (.aload_n 0, 1) := by decide +kernel
theorem dX10_sheet_55 : decode cX10_sheet 55 = .ok (.getfield 9, 3) := by decide +kernel
theorem dX10_sheet_58 : decode cX10_sheet 58 = .ok (.iconst 0, 1) := by decide +kernel
theorem dX10_sheet_59 : decode cX10_sheet 59 = .ok (.iaload, 1) := by decide +kernel
theorem dX10_sheet_60 : decode cX10_sheet 60 = .ok (.if_icmp .ge 95, 3) := by decide +kernel
theorem dX10_sheet_63 : decode cX10_sheet 63 = .ok (.iload_n 1, 1) := by decide +kernel
theorem dX10_sheet_64 : decode cX10_sheet 64 = .ok (.ifCond .ne 9, 3) := by decide +kernel
theorem dX10_sheet_67 : decode cX10_sheet 67 = .ok (.iload 6, 2) := by decide +kernel
theorem dX10_sheet_69 : decode cX10_sheet 69 = .ok (.i2b, 1) := by decide +kernel
theorem dX10_sheet_70 : decode cX10_sheet 70 = .ok (.goto 16, 3) := by decide +kernel
theorem dX10_sheet_73 : decode cX10_sheet 73 = .ok (.iload_n 1, 1) := by decide +kernel
theorem dX10_sheet_74 : decode cX10_sheet 74 = .ok (.iconst 1, 1) := by decide +kernel
theorem dX10_sheet_75 : decode cX10_sheet 75 = .ok (.if_icmp .ne 9, 3) := by decide +kernel
theorem dX10_sheet_78 : decode cX10_sheet 78 = .ok (.iload 6, 2) := by decide +kernel
theorem dX10_sheet_80 : decode cX10_sheet 80 = .ok (.i2s, 1) := by decide +kernel
theorem dX10_sheet_81 : decode cX10_sheet 81 = .ok (.goto 5, 3) := by decide +kernel
theorem dX10_sheet_84 : decode cX10_sheet 84 = .ok (.iload 6, 2) := by decide +kernel
theorem dX10_sheet_86 : decode cX10_sheet 86 = .ok (.istore 8, 2) := by decide +kernel
theorem dX10_sheet_88 : decode cX10_sheet 88 = .ok (.iconst 1, 1) := by decide +kernel
theorem dX10_sheet_89 : decode cX10_sheet 89 = .ok (.getstatic 122, 3) := by decide +kernel
theorem dX10_sheet_92 : decode cX10_sheet 92 = .ok (.iconst 1, 1) := by decide +kernel
theorem dX10_sheet_93 : decode cX10_sheet 93 = .ok (.iaload, 1) := by decide +kernel
theorem dX10_sheet_94 : decode cX10_sheet 94 = .ok (.iload 8, 2) := by decide +kernel
theorem dX10_sheet_96 : decode cX10_sheet 96 = .ok (.invokestatic 141, 3) := by decide +kernel
theorem dX10_sheet_99 : decode cX10_sheet 99 = .ok (.invokestatic 147, 3) := by decide +kernel
theorem dX10_sheet_102 : decode cX10_sheet 102 = .ok (.istore 9, 2) := by decide +kernel
theorem dX10_sheet_104 : decode cX10_sheet 104 = .ok (.iload 5, 2) := by decide +kernel
theorem dX10_sheet_106 : decode cX10_sheet 106 = .ok (.aload_n 0, 1) := by decide +kernel
theorem dX10_sheet_107 : decode cX10_sheet 107 = .ok (.iload 7, 2) := by decide +kernel
theorem dX10_sheet_109 : decode cX10_sheet 109 = .ok (.iconst 1, 1) := by decide +kernel
theorem dX10_sheet_110 : decode cX10_sheet 110 = .ok (.invokevirtual 150, 3) := by decide +kernel
theorem dX10_sheet_113 : decode cX10_sheet 113 = .ok (.iload 9, 2) := by decide +kernel
theorem dX10_sheet_115 : decode cX10_sheet 115 = .ok (.if_icmp .eq 7, 3) := by decide +kernel
theorem dX10_sheet_118 : decode cX10_sheet 118 = .ok (.iconst 1, 1) := by decide +kernel
theorem dX10_sheet_119 : decode cX10_sheet 119 = .ok (.goto 4, 3) := by decide +kernel
theorem dX10_sheet_122 : decode cX10_sheet 122 = .ok (.iconst 0, 1) := by decide +kernel
theorem dX10_sheet_123 : decode cX10_sheet 123 = .ok (.iadd, 1) := by decide +kernel
theorem dX10_sheet_124 : decode cX10_sheet 124 = .ok (.istore 5, 2) := by decide +kernel
theorem dX10_sheet_126 : decode cX10_sheet 126 = .ok (.aload_n 0, 1) := by decide +kernel
theorem dX10_sheet_127 : decode cX10_sheet 127 = .ok (.getfield 9, 3) := by decide +kernel
theorem dX10_sheet_130 : decode cX10_sheet 130 = .ok (.iconst 1, 1) := by decide +kernel
theorem dX10_sheet_131 : decode cX10_sheet 131 = .ok (.bipush 6, 2) := by decide +kernel
theorem dX10_sheet_133 : decode cX10_sheet 133 = .ok (.iload 7, 2) := by decide +kernel
theorem dX10_sheet_135 : decode cX10_sheet 135 = .ok (.imul, 1) := by decide +kernel
theorem dX10_sheet_136 : decode cX10_sheet 136 = .ok (.iadd, 1) := by decide +kernel
theorem dX10_sheet_137 : decode cX10_sheet 137 = .ok (.iconst 1, 1) := by decide +kernel
theorem dX10_sheet_138 : decode cX10_sheet 138 = .ok (.iadd, 1) := by decide +kernel
theorem dX10_sheet_139 : decode cX10_sheet 139 = .ok (.iload 9, 2) := by decide +kernel
theorem dX10_sheet_141 : decode cX10_sheet 141 = .ok (.iastore, 1) := by decide +kernel
theorem dX10_sheet_142 : decode cX10_sheet 142 = .ok (.iload 6, 2) := by decide +kernel
theorem dX10_sheet_144 : decode cX10_sheet 144 = .ok (.iload 4, 2) := by decide +kernel
theorem dX10_sheet_146 : decode cX10_sheet 146 = .ok (.iadd, 1) := by decide +kernel
theorem dX10_sheet_147 : decode cX10_sheet 147 = .ok (.istore 6, 2) := by decide +kernel
theorem dX10_sheet_149 : decode cX10_sheet 149 = .ok (.iinc 7 1, 3) := by decide +kernel
theorem dX10_sheet_152 : decode cX10_sheet 152 = .ok (.goto (-106), 3) := by decide +kernel
theorem dX10_sheet_155 : decode cX10_sheet 155 = .ok (.iload 5, 2) := by decide +kernel
theorem dX10_sheet_157 : decode cX10_sheet 157 = .ok (.ireturn, 1) := by decide +kernel
set_option maxHeartbeats 4000000 in
set_option maxRecDepth 100000 in
theorem c_Model_sheet (l : Launch) (G : fm_G) (N : Nat) (M : fm_M) (v1 : Int32) (v2 : Int32) (v3 : Int32) (v4 : Int32) (r : Int32) (M' : fm_M) (hf : pModel_sheet N M v1 v2 v3 v4 = some (r, M')) : fm_Met l yX10_sheet cX10_sheet 10 (some .int) { frames := 1, cells := 0, slots := 0, locals := 22 } shM G [.ref (G.2.1 0), .int v1, .int v2, .int v3, .int v4] M (some (.int r)) M' := by
  refine fm_enter (by decide) (Nat.le_of_ble_eq_true rfl) ?_
  intro p e s m args below meth c ls C E hl
  have hl : lv_has ls 10 [(0, .ref (G.2.1 0)), (1, .int v1), (2, .int v2), (3, .int v3), (4, .int v4)] := hl
  have L46 : ∀ (w46_v1 : Int32) (w46_v2 : Int32) (w46_v4 : Int32) (n46 : Nat) (v5 : Int32) (v6 : Int32) (v7 : Int32) (M : fm_M) (H : Heap) (locs : List Loc) (ls : Array Slot), fm_Wd shM G M s H locs → lv_has ls 10 [(0, .ref (G.2.1 0)), (1, .int w46_v1), (2, .int w46_v2), (4, .int w46_v4), (5, .int v5), (6, .int v6), (7, .int v7)] → fm_lp (pModel_sheet_L46 N w46_v1 w46_v2 w46_v4) n46 (v5, v6, v7, M) = some (r, M') → W p l e { frames := 1, cells := 0, slots := 0, locals := 22 } s m args below meth c H locs 0 0 (fm_Z below shM G args s (some (.int r)) M') (F0 m 46 ls []) := by
    intro w46_v1 w46_v2 w46_v4 n46
    induction n46 with
    | zero => intro v5 v6 v7 M H locs ls E hl hf; exact fm_lp_0 hf
    | succ n46 ih46 =>
      have J123 : ∀ (M : fm_M) (v6 : Int32) (v7 : Int32) (v9 : Int32) (s0 : Int32) (s1 : Int32) (H : Heap) (locs : List Loc) (ls : Array Slot), fm_Wd shM G M s H locs → lv_has ls 10 [(0, .ref (G.2.1 0)), (1, .int w46_v1), (2, .int w46_v2), (4, .int w46_v4), (6, .int v6), (7, .int v7), (9, .int v9)] → pModel_sheet_J123 N M w46_v1 w46_v2 w46_v4 v6 v7 v9 (fm_lp (pModel_sheet_L46 N w46_v1 w46_v2 w46_v4) n46) s0 s1 = some (r, M') → W p l e { frames := 1, cells := 0, slots := 0, locals := 22 } s m args below meth c H locs 0 0 (fm_Z below shM G args s (some (.int r)) M') (F0 m 123 ls [.int s1, .int s0]) := by
        intro M v6 v7 v9 s0 s1 H locs ls E hl hf
        unfold pModel_sheet_J123 at hf
        refine lv_iadd C.1 C.2.1 dX10_sheet_123 ?_
        refine lv_istore (lv' := [(5, .int _), (0, .ref _), (1, .int _), (2, .int _), (4, .int _), (6, .int _), (7, .int _), (9, .int _)]) C.1 C.2.1 dX10_sheet_124 hl (by decide) rfl (fun ls hl => ?_)
        refine lv_aload_n C.1 C.2.1 dX10_sheet_126 rfl (lv_at hl 1 rfl) ?_
        refine fm_getr C E lf_X10_9 hM_0 rfl dX10_sheet_127 ?_
        refine lv_iconst (v := 1) C.1 C.2.1 dX10_sheet_130 (by decide) ?_
        refine lv_bipush (v := 6) C.1 C.2.1 dX10_sheet_131 (by decide) ?_
        refine lv_iload C.1 C.2.1 dX10_sheet_133 (lv_at hl 6 rfl) ?_
        refine lv_imul C.1 C.2.1 dX10_sheet_135 ?_
        refine lv_iadd C.1 C.2.1 dX10_sheet_136 ?_
        refine lv_iconst (v := 1) C.1 C.2.1 dX10_sheet_137 (by decide) ?_
        refine lv_iadd C.1 C.2.1 dX10_sheet_138 ?_
        refine lv_iload C.1 C.2.1 dX10_sheet_139 (lv_at hl 7 rfl) ?_
        obtain ⟨h141, M141, e141, hf⟩ := fm_st_e hf
        refine fm_iast' C E e141 hM_1 h141 dX10_sheet_141 (fun H locs E => ?_)
        refine lv_iload C.1 C.2.1 dX10_sheet_142 (lv_at hl 5 rfl) ?_
        refine lv_iload C.1 C.2.1 dX10_sheet_144 (lv_at hl 4 rfl) ?_
        refine lv_iadd C.1 C.2.1 dX10_sheet_146 ?_
        refine lv_istore (lv' := [(6, .int _), (5, .int _), (0, .ref _), (1, .int _), (2, .int _), (4, .int _), (7, .int _), (9, .int _)]) C.1 C.2.1 dX10_sheet_147 hl (by decide) rfl (fun ls hl => ?_)
        refine fm_iinc C (v := 1) (lv' := [(7, .int _), (6, .int _), (5, .int _), (0, .ref _), (1, .int _), (2, .int _), (4, .int _), (9, .int _)]) (k := 6) hl rfl (by decide) (by decide) rfl dX10_sheet_149 (fun ls hl => ?_)
        refine lv_goto (tgt := 46) C.1 C.2.1 dX10_sheet_152 (by decide) ?_
        exact ih46 _ _ _ _ _ _ _ E (lv_sub hl [3, 4, 5, 6, 2, 1, 0] rfl) hf
      have J86 : ∀ (M : fm_M) (v5 : Int32) (v6 : Int32) (v7 : Int32) (s0 : Int32) (H : Heap) (locs : List Loc) (ls : Array Slot), fm_Wd shM G M s H locs → lv_has ls 10 [(0, .ref (G.2.1 0)), (1, .int w46_v1), (2, .int w46_v2), (4, .int w46_v4), (5, .int v5), (6, .int v6), (7, .int v7)] → pModel_sheet_J86 N M w46_v1 w46_v2 w46_v4 v5 v6 v7 (fm_lp (pModel_sheet_L46 N w46_v1 w46_v2 w46_v4) n46) s0 = some (r, M') → W p l e { frames := 1, cells := 0, slots := 0, locals := 22 } s m args below meth c H locs 0 0 (fm_Z below shM G args s (some (.int r)) M') (F0 m 86 ls [.int s0]) := by
        intro M v5 v6 v7 s0 H locs ls E hl hf
        unfold pModel_sheet_J86 at hf
        refine lv_istore (lv' := [(8, .int _), (0, .ref _), (1, .int _), (2, .int _), (4, .int _), (5, .int _), (6, .int _), (7, .int _)]) C.1 C.2.1 dX10_sheet_86 hl (by decide) rfl (fun ls hl => ?_)
        refine lv_iconst (v := 1) C.1 C.2.1 dX10_sheet_88 (by decide) ?_
        refine fm_gets C E (List.mem_of_getElem? (l := fm_Zs) (i := 7) rfl) (Or.inl wf_1245) dX10_sheet_89 (fun t89 hT89 => ?_)
        refine lv_iconst (v := 1) C.1 C.2.1 dX10_sheet_92 (by decide) ?_
        refine fm_tldc C E hT89 400 (by decide) (by decide) dX10_sheet_93 ?_
        refine lv_iload C.1 C.2.1 dX10_sheet_94 (lv_at hl 0 rfl) ?_
        refine fm_min C wv_min wm_1283 hl.1 ⟨by decide, by decide⟩ (by simp [Value.category]) ⟨by decide, by decide⟩ dX10_sheet_96 ?_
        refine fm_max C wv_max wm_1284 hl.1 ⟨by decide, by decide⟩ (by simp [Value.category]) ⟨by decide, by decide⟩ dX10_sheet_99 ?_
        refine lv_istore (lv' := [(9, .int _), (8, .int _), (0, .ref _), (1, .int _), (2, .int _), (4, .int _), (5, .int _), (6, .int _), (7, .int _)]) C.1 C.2.1 dX10_sheet_102 hl (by decide) rfl (fun ls hl => ?_)
        refine lv_iload C.1 C.2.1 dX10_sheet_104 (lv_at hl 6 rfl) ?_
        refine lv_aload_n C.1 C.2.1 dX10_sheet_106 rfl (lv_at hl 2 rfl) ?_
        refine lv_iload C.1 C.2.1 dX10_sheet_107 (lv_at hl 8 rfl) ?_
        refine lv_iconst (v := 1) C.1 C.2.1 dX10_sheet_109 (by decide) ?_
        obtain ⟨x110, hc110, hf⟩ := fm_bd hf
        refine fm_callV C E [.int _, .int _] [.int _] lm_X10_150 wk_X10_of (c_Model_of l G _ _ _ _  hc110) hM_0 rfl rfl rfl hl.1 (by simp [Value.category]) ⟨⟨rfl, rfl⟩, by decide, by decide⟩ ⟨by decide, by decide⟩ dX10_sheet_110 rfl (fun H locs E => ?_)
        refine W.eq (g2 := F0 m 113 ls (.int x110 :: [.int _])) rfl ?_
        refine lv_iload C.1 C.2.1 dX10_sheet_113 (lv_at hl 0 rfl) ?_
        refine lv_icmp_eq (tgt := 122) C.1 C.2.1 dX10_sheet_115 (by decide) (fun hc115 => ?_) (fun hc115 => ?_)
        · have hf := fm_ip hf hc115
          refine lv_iconst (v := 0) C.1 C.2.1 dX10_sheet_122 (by decide) ?_
          exact J123 _ _ _ _ _ _ _ _ _ E (lv_sub hl [2, 3, 4, 5, 7, 8, 0] rfl) hf
        · have hf := fm_in' hf hc115
          refine lv_iconst (v := 1) C.1 C.2.1 dX10_sheet_118 (by decide) ?_
          refine lv_goto (tgt := 123) C.1 C.2.1 dX10_sheet_119 (by decide) ?_
          exact J123 _ _ _ _ _ _ _ _ _ E (lv_sub hl [2, 3, 4, 5, 7, 8, 0] rfl) hf
      intro v5 v6 v7 M H locs ls E hl hf
      have hf : pModel_sheet_L46b N w46_v1 w46_v2 w46_v4 (fm_lp (pModel_sheet_L46 N w46_v1 w46_v2 w46_v4) n46) v5 v6 v7 M = some (r, M') := hf
      unfold pModel_sheet_L46b at hf
      refine lv_iload C.1 C.2.1 dX10_sheet_46 (lv_at hl 6 rfl) ?_
      refine lv_iload_n C.1 C.2.1 dX10_sheet_48 rfl (lv_at hl 2 rfl) ?_
      refine lv_icmp_ge (tgt := 155) C.1 C.2.1 dX10_sheet_49 (by decide) (fun hc49 => ?_) (fun hc49 => ?_)
      · have hf := fm_ip hf hc49
        refine lv_iload C.1 C.2.1 dX10_sheet_155 (lv_at hl 4 rfl) ?_
        obtain ⟨rfl, rfl⟩ := fm_rt2 hf
        exact fm_iret C E rfl rfl dX10_sheet_157
      · have hf := fm_in' hf hc49
        refine lv_iload C.1 C.2.1 dX10_sheet_52 (lv_at hl 6 rfl) ?_
        refine lv_aload_n C.1 C.2.1 dX10_sheet_54 rfl (lv_at hl 0 rfl) ?_
        refine fm_getr C E lf_X10_9 hM_0 rfl dX10_sheet_55 ?_
        refine lv_iconst (v := 0) C.1 C.2.1 dX10_sheet_58 (by decide) ?_
        refine fm_ialdc C E 0 (by decide) hM_1 (by decide) dX10_sheet_59 ?_
        refine lv_icmp_ge (tgt := 155) C.1 C.2.1 dX10_sheet_60 (by decide) (fun hc60 => ?_) (fun hc60 => ?_)
        · have hf := fm_ip hf hc60
          refine lv_iload C.1 C.2.1 dX10_sheet_155 (lv_at hl 4 rfl) ?_
          obtain ⟨rfl, rfl⟩ := fm_rt2 hf
          exact fm_iret C E rfl rfl dX10_sheet_157
        · have hf := fm_in' hf hc60
          refine lv_iload_n C.1 C.2.1 dX10_sheet_63 rfl (lv_at hl 1 rfl) ?_
          refine lv_if_ne (tgt := 73) C.1 C.2.1 dX10_sheet_64 (by decide) (fun hc64 => ?_) (fun hc64 => ?_)
          · have hf := fm_in' hf hc64
            refine lv_iload_n C.1 C.2.1 dX10_sheet_73 rfl (lv_at hl 1 rfl) ?_
            refine lv_iconst (v := 1) C.1 C.2.1 dX10_sheet_74 (by decide) ?_
            refine lv_icmp_ne (tgt := 84) C.1 C.2.1 dX10_sheet_75 (by decide) (fun hc75 => ?_) (fun hc75 => ?_)
            · have hf := fm_in' hf hc75
              refine lv_iload C.1 C.2.1 dX10_sheet_84 (lv_at hl 5 rfl) ?_
              exact J86 _ _ _ _ _ _ _ _ E (lv_sub hl [0, 1, 2, 3, 4, 5, 6] rfl) hf
            · have hf := fm_ip hf hc75
              refine lv_iload C.1 C.2.1 dX10_sheet_78 (lv_at hl 5 rfl) ?_
              refine lv_i2s C.1 C.2.1 dX10_sheet_80 rfl ?_
              refine lv_goto (tgt := 86) C.1 C.2.1 dX10_sheet_81 (by decide) ?_
              exact J86 _ _ _ _ _ _ _ _ E (lv_sub hl [0, 1, 2, 3, 4, 5, 6] rfl) hf
          · have hf := fm_ip hf hc64
            refine lv_iload C.1 C.2.1 dX10_sheet_67 (lv_at hl 5 rfl) ?_
            refine lv_i2b C.1 C.2.1 dX10_sheet_69 rfl ?_
            refine lv_goto (tgt := 86) C.1 C.2.1 dX10_sheet_70 (by decide) ?_
            exact J86 _ _ _ _ _ _ _ _ E (lv_sub hl [0, 1, 2, 3, 4, 5, 6] rfl) hf
  unfold pModel_sheet at hf
  refine lv_aload_n C.1 C.2.1 dX10_sheet_0 rfl (lv_at hl 0 rfl) ?_
  refine lv_iconst (v := 0) C.1 C.2.1 dX10_sheet_1 (by decide) ?_
  obtain ⟨M2, e2, hf⟩ := fm_pt_s hf
  refine fm_put' C E e2 lp_X10_77 hM_0 rfl dX10_sheet_2 (fun H locs E => ?_)
  refine lv_iload_n C.1 C.2.1 dX10_sheet_5 rfl (lv_at hl 1 rfl) ?_
  refine lv_iconst (v := 0) C.1 C.2.1 dX10_sheet_6 (by decide) ?_
  refine lv_iconst (v := 3) C.1 C.2.1 dX10_sheet_7 (by decide) ?_
  obtain ⟨x8, hc8, hf⟩ := fm_bd hf
  refine fm_callS C E [.int _, .int _, .int _] [] lm_X10_83 wk_X10_in (c_Model_in l G _ _ _ _ _  hc8) rfl hl.1 (by simp [Value.category]) ⟨⟨rfl, rfl⟩, by decide, by decide⟩ ⟨by decide, by decide⟩ dX10_sheet_8 rfl (fun H locs E => ?_)
  refine W.eq (g2 := F0 m 11 ls (.int x8 :: [])) rfl ?_
  refine lv_if_eq (tgt := 20) C.1 C.2.1 dX10_sheet_11 (by decide) (fun hc11 => ?_) (fun hc11 => ?_)
  · have hf := fm_ip hf hc11
    refine lv_iconst (v := (-1)) C.1 C.2.1 dX10_sheet_20 (by decide) ?_
    obtain ⟨rfl, rfl⟩ := fm_rt2 hf
    exact fm_iret C E rfl rfl dX10_sheet_21
  · have hf := fm_in' hf hc11
    refine lv_iload_n C.1 C.2.1 dX10_sheet_14 rfl (lv_at hl 2 rfl) ?_
    refine lv_bipush (v := 6) C.1 C.2.1 dX10_sheet_15 (by decide) ?_
    refine lv_icmp_le (tgt := 22) C.1 C.2.1 dX10_sheet_17 (by decide) (fun hc17 => ?_) (fun hc17 => ?_)
    · have hf := fm_ip hf hc17
      refine lv_iload_n C.1 C.2.1 dX10_sheet_22 rfl (lv_at hl 1 rfl) ?_
      refine lv_iconst (v := 3) C.1 C.2.1 dX10_sheet_23 (by decide) ?_
      refine lv_icmp_ne (tgt := 30) C.1 C.2.1 dX10_sheet_24 (by decide) (fun hc24 => ?_) (fun hc24 => ?_)
      · have hf := fm_in' hf hc24
        refine lv_iload_n C.1 C.2.1 dX10_sheet_30 rfl (lv_at hl 2 rfl) ?_
        refine lv_if_ge (tgt := 37) C.1 C.2.1 dX10_sheet_31 (by decide) (fun hc31 => ?_) (fun hc31 => ?_)
        · have hf := fm_ip hf hc31
          refine lv_iconst (v := 0) C.1 C.2.1 dX10_sheet_37 (by decide) ?_
          refine lv_istore (lv' := [(5, .int _), (0, .ref _), (1, .int _), (2, .int _), (3, .int _), (4, .int _)]) C.1 C.2.1 dX10_sheet_38 hl (by decide) rfl (fun ls hl => ?_)
          refine lv_iload_n C.1 C.2.1 dX10_sheet_40 rfl (lv_at hl 4 rfl) ?_
          refine lv_istore (lv' := [(6, .int _), (5, .int _), (0, .ref _), (1, .int _), (2, .int _), (3, .int _), (4, .int _)]) C.1 C.2.1 dX10_sheet_41 hl (by decide) rfl (fun ls hl => ?_)
          refine lv_iconst (v := 0) C.1 C.2.1 dX10_sheet_43 (by decide) ?_
          refine lv_istore (lv' := [(7, .int _), (6, .int _), (5, .int _), (0, .ref _), (1, .int _), (2, .int _), (3, .int _), (4, .int _)]) C.1 C.2.1 dX10_sheet_44 hl (by decide) rfl (fun ls hl => ?_)
          exact L46 _ _ _ N _ _ _ _ _ _ _ E (lv_sub hl [3, 4, 5, 7, 2, 1, 0] rfl) hf
        · have hf := fm_in' hf hc31
          refine lv_bipush (v := (-2)) C.1 C.2.1 dX10_sheet_34 (by decide) ?_
          obtain ⟨rfl, rfl⟩ := fm_rt2 hf
          exact fm_iret C E rfl rfl dX10_sheet_36
      · have hf := fm_ip hf hc24
        refine lv_bipush (v := (-3)) C.1 C.2.1 dX10_sheet_27 (by decide) ?_
        obtain ⟨rfl, rfl⟩ := fm_rt2 hf
        exact fm_iret C E rfl rfl dX10_sheet_29
    · have hf := fm_in' hf hc17
      refine lv_iconst (v := (-1)) C.1 C.2.1 dX10_sheet_20 (by decide) ?_
      obtain ⟨rfl, rfl⟩ := fm_rt2 hf
      exact fm_iret C E rfl rfl dX10_sheet_21
theorem dX10_mic_0 : decode cX10_mic 0 = .ok (.aload_n 0, 1) := by decide +kernel
theorem dX10_mic_1 : decode cX10_mic 1 = .ok (.iconst 0, 1) := by decide +kernel
theorem dX10_mic_2 : decode cX10_mic 2 = .ok (.putfield 77, 3) := by decide +kernel
theorem dX10_mic_5 : decode cX10_mic 5 = .ok (.aload_n 0, 1) := by decide +kernel
theorem dX10_mic_6 : decode cX10_mic 6 = .ok (.iload_n 1, 1) := by decide +kernel
theorem dX10_mic_7 : decode cX10_mic 7 = .ok (.invokevirtual 153, 3) := by decide +kernel
theorem dX10_mic_10 : decode cX10_mic 10 = .ok (.ifCond .eq 21, 3) := by decide +kernel
theorem dX10_mic_13 : decode cX10_mic 13 = .ok (.iload_n 2, 1) := by decide +kernel
theorem dX10_mic_14 : decode cX10_mic 14 = .ok (.iconst 0, 1) := by decide +kernel
theorem dX10_mic_15 : decode cX10_mic 15 = .ok (.iconst 5, 1) := by decide +kernel
theorem dX10_mic_16 : decode cX10_mic 16 = .ok (.invokestatic 83, 3) := by decide +kernel
theorem dX10_mic_19 : decode cX10_mic 19 = .ok (.ifCond .eq 12, 3) := by decide +kernel
theorem dX10_mic_22 : decode cX10_mic 22 = .ok (.aload_n 0, 1) := by decide +kernel
theorem dX10_mic_23 : decode cX10_mic 23 = .ok (.iload_n 1, 1) := by decide +kernel
theorem dX10_mic_24 : decode cX10_mic 24 = .ok (.iload_n 2, 1) := by decide +kernel
theorem dX10_mic_25 : decode cX10_mic 25 = .ok (.invokevirtual 150, 3) := by decide +kernel
theorem dX10_mic_28 : decode cX10_mic 28 = .ok (.goto 7, 3) := by decide +kernel
theorem dX10_mic_31 : decode cX10_mic 31 = .ok (.aload_n 0, 1) := by decide +kernel
theorem dX10_mic_32 : decode cX10_mic 32 = .ok (.invokevirtual 157, 3) := by decide +kernel
theorem dX10_mic_35 : decode cX10_mic 35 = .ok (.ireturn, 1) := by decide +kernel
set_option maxHeartbeats 4000000 in
set_option maxRecDepth 100000 in
theorem c_Model_mic (l : Launch) (G : fm_G) (M : fm_M) (v1 : Int32) (v2 : Int32) (r : Int32) (M' : fm_M) (hf : pModel_mic M v1 v2 = some (r, M')) : fm_Met l yX10_mic cX10_mic 3 (some .int) { frames := 2, cells := 0, slots := 0, locals := 43 } shM G [.ref (G.2.1 0), .int v1, .int v2] M (some (.int r)) M' := by
  refine fm_enter (by decide) (Nat.le_of_ble_eq_true rfl) ?_
  intro p e s m args below meth c ls C E hl
  have hl : lv_has ls 3 [(0, .ref (G.2.1 0)), (1, .int v1), (2, .int v2)] := hl
  have J31 : ∀ (M : fm_M) (H : Heap) (locs : List Loc) (ls : Array Slot), fm_Wd shM G M s H locs → lv_has ls 3 [(0, .ref (G.2.1 0))] → pModel_mic_J31 M = some (r, M') → W p l e { frames := 2, cells := 0, slots := 0, locals := 43 } s m args below meth c H locs 0 0 (fm_Z below shM G args s (some (.int r)) M') (F0 m 31 ls []) := by
    intro M H locs ls E hl hf
    unfold pModel_mic_J31 at hf
    refine lv_aload_n C.1 C.2.1 dX10_mic_31 rfl (lv_at hl 0 rfl) ?_
    obtain ⟨⟨x32, M32⟩, hc32, hf⟩ := fm_bd hf
    dsimp only at hf
    refine fm_callV C E [] [] lm_X10_157 wk_X10_lost (c_Model_lost l G _ _ _ hc32) hM_0 rfl rfl rfl hl.1 (by simp [Value.category]) ⟨⟨rfl, rfl⟩, by decide, by decide⟩ ⟨by decide, by decide⟩ dX10_mic_32 rfl (fun H locs E => ?_)
    refine W.eq (g2 := F0 m 35 ls (.int x32 :: [])) rfl ?_
    obtain ⟨rfl, rfl⟩ := fm_rt2 hf
    exact fm_iret C E rfl rfl dX10_mic_35
  unfold pModel_mic at hf
  refine lv_aload_n C.1 C.2.1 dX10_mic_0 rfl (lv_at hl 0 rfl) ?_
  refine lv_iconst (v := 0) C.1 C.2.1 dX10_mic_1 (by decide) ?_
  obtain ⟨M2, e2, hf⟩ := fm_pt_s hf
  refine fm_put' C E e2 lp_X10_77 hM_0 rfl dX10_mic_2 (fun H locs E => ?_)
  refine lv_aload_n C.1 C.2.1 dX10_mic_5 rfl (lv_at hl 0 rfl) ?_
  refine lv_iload_n C.1 C.2.1 dX10_mic_6 rfl (lv_at hl 1 rfl) ?_
  obtain ⟨x7, hc7, hf⟩ := fm_bd hf
  refine fm_callV C E [.int _] [] lm_X10_153 wk_X10_isMic (c_Model_isMic l G _ _ _  hc7) hM_0 rfl rfl rfl hl.1 (by simp [Value.category]) ⟨⟨rfl, rfl⟩, by decide, by decide⟩ ⟨by decide, by decide⟩ dX10_mic_7 rfl (fun H locs E => ?_)
  refine W.eq (g2 := F0 m 10 ls (.int x7 :: [])) rfl ?_
  refine lv_if_eq (tgt := 31) C.1 C.2.1 dX10_mic_10 (by decide) (fun hc10 => ?_) (fun hc10 => ?_)
  · have hf := fm_ip hf hc10
    exact J31 _ _ _ _ E (lv_sub hl [0] rfl) hf
  · have hf := fm_in' hf hc10
    refine lv_iload_n C.1 C.2.1 dX10_mic_13 rfl (lv_at hl 2 rfl) ?_
    refine lv_iconst (v := 0) C.1 C.2.1 dX10_mic_14 (by decide) ?_
    refine lv_iconst (v := 5) C.1 C.2.1 dX10_mic_15 (by decide) ?_
    obtain ⟨x16, hc16, hf⟩ := fm_bd hf
    refine fm_callS C E [.int _, .int _, .int _] [] lm_X10_83 wk_X10_in (c_Model_in l G _ _ _ _ _  hc16) rfl hl.1 (by simp [Value.category]) ⟨⟨rfl, rfl⟩, by decide, by decide⟩ ⟨by decide, by decide⟩ dX10_mic_16 rfl (fun H locs E => ?_)
    refine W.eq (g2 := F0 m 19 ls (.int x16 :: [])) rfl ?_
    refine lv_if_eq (tgt := 31) C.1 C.2.1 dX10_mic_19 (by decide) (fun hc19 => ?_) (fun hc19 => ?_)
    · have hf := fm_ip hf hc19
      exact J31 _ _ _ _ E (lv_sub hl [0] rfl) hf
    · have hf := fm_in' hf hc19
      refine lv_aload_n C.1 C.2.1 dX10_mic_22 rfl (lv_at hl 0 rfl) ?_
      refine lv_iload_n C.1 C.2.1 dX10_mic_23 rfl (lv_at hl 1 rfl) ?_
      refine lv_iload_n C.1 C.2.1 dX10_mic_24 rfl (lv_at hl 2 rfl) ?_
      obtain ⟨x25, hc25, hf⟩ := fm_bd hf
      refine fm_callV C E [.int _, .int _] [] lm_X10_150 wk_X10_of (c_Model_of l G _ _ _ _  hc25) hM_0 rfl rfl rfl hl.1 (by simp [Value.category]) ⟨⟨rfl, rfl⟩, by decide, by decide⟩ ⟨by decide, by decide⟩ dX10_mic_25 rfl (fun H locs E => ?_)
      refine W.eq (g2 := F0 m 28 ls (.int x25 :: [])) rfl ?_
      refine lv_goto (tgt := 35) C.1 C.2.1 dX10_mic_28 (by decide) ?_
      obtain ⟨rfl, rfl⟩ := fm_rt2 hf
      exact fm_iret C E rfl rfl dX10_mic_35
theorem dX10_source_0 : decode cX10_source 0 = .ok (.aload_n 0, 1) := by decide +kernel
theorem dX10_source_1 : decode cX10_source 1 = .ok (.iconst 0, 1) := by decide +kernel
theorem dX10_source_2 : decode cX10_source 2 = .ok (.putfield 77, 3) := by decide +kernel
theorem dX10_source_5 : decode cX10_source 5 = .ok (.iload_n 1, 1) := by decide +kernel
theorem dX10_source_6 : decode cX10_source 6 = .ok (.iconst 0, 1) := by decide +kernel
theorem dX10_source_7 : decode cX10_source 7 = .ok (.aload_n 0, 1) := by decide +kernel
theorem dX10_source_8 : decode cX10_source 8 = .ok (.getfield 9, 3) := by decide +kernel
theorem dX10_source_11 : decode cX10_source 11 = .ok (.bipush 40, 2) := by decide +kernel
theorem dX10_source_13 : decode cX10_source 13 = .ok (.iaload, 1) := by decide +kernel
theorem dX10_source_14 : decode cX10_source 14 = .ok (.iconst 1, 1) := by decide +kernel
theorem dX10_source_15 : decode cX10_source 15 = .ok (.isub, 1) := by decide +kernel
theorem dX10_source_16 : decode cX10_source 16 = .ok (.invokestatic 83, 3) := by decide +kernel
theorem dX10_source_19 : decode cX10_source 19 = .ok (.ifCond .ne 8, 3) := by decide +kernel
theorem dX10_source_22 : decode cX10_source 22 = .ok (.aload_n 0, 1) := by decide +kernel
theorem dX10_source_23 : decode cX10_source 23 = .ok (.invokevirtual 157, 3) := by decide +kernel
theorem dX10_source_26 : decode cX10_source 26 = .ok (.ireturn, 1) := by decide +kernel
theorem dX10_source_27 : decode cX10_source 27 = .ok (.iload_n 2, 1) := by decide +kernel
theorem dX10_source_28 : decode cX10_source 28 = .ok (.iconst 0, 1) := by decide +kernel
theorem dX10_source_29 : decode cX10_source 29 = .ok (.iconst 2, 1) := by decide +kernel
theorem dX10_source_30 : decode cX10_source 30 = .ok (.aload_n 0, 1) := by decide +kernel
theorem dX10_source_31 : decode cX10_source 31 = .ok (.iload_n 1, 1) := by decide +kernel
theorem dX10_source_32 : decode cX10_source 32 = .ok (.iconst 2, 1) := by decide +kernel
theorem dX10_source_33 : decode cX10_source 33 = .ok (.invokevirtual 160, 3) := by decide +kernel
theorem dX10_source_36 : decode cX10_source 36 = .ok (.iadd, 1) := by decide +kernel
theorem dX10_source_37 : decode cX10_source 37 = .ok (.invokestatic 83, 3) := by decide +kernel
theorem dX10_source_40 : decode cX10_source 40 = .ok (.ifCond .eq 12, 3) := by decide +kernel
theorem dX10_source_43 : decode cX10_source 43 = .ok (.aload_n 0, 1) := by decide +kernel
theorem dX10_source_44 : decode cX10_source 44 = .ok (.iload_n 1, 1) := by decide +kernel
theorem dX10_source_45 : decode cX10_source 45 = .ok (.iload_n 2, 1) := by decide +kernel
theorem dX10_source_46 : decode cX10_source 46 = .ok (.invokevirtual 160, 3) := by decide +kernel
theorem dX10_source_49 : decode cX10_source 49 = .ok (.goto 7, 3) := by decide +kernel
theorem dX10_source_52 : decode cX10_source 52 = .ok (.aload_n 0, 1) := by decide +kernel
theorem dX10_source_53 : decode cX10_source 53 = .ok (.invokevirtual 157, 3) := by decide +kernel
theorem dX10_source_56 : decode cX10_source 56 = .ok (.ireturn, 1) := by decide +kernel
set_option maxHeartbeats 4000000 in
set_option maxRecDepth 100000 in
theorem c_Model_source (l : Launch) (G : fm_G) (M : fm_M) (v1 : Int32) (v2 : Int32) (r : Int32) (M' : fm_M) (hf : pModel_source M v1 v2 = some (r, M')) : fm_Met l yX10_source cX10_source 3 (some .int) { frames := 1, cells := 0, slots := 0, locals := 22 } shM G [.ref (G.2.1 0), .int v1, .int v2] M (some (.int r)) M' := by
  refine fm_enter (by decide) (Nat.le_of_ble_eq_true rfl) ?_
  intro p e s m args below meth c ls C E hl
  have hl : lv_has ls 3 [(0, .ref (G.2.1 0)), (1, .int v1), (2, .int v2)] := hl
  unfold pModel_source at hf
  refine lv_aload_n C.1 C.2.1 dX10_source_0 rfl (lv_at hl 0 rfl) ?_
  refine lv_iconst (v := 0) C.1 C.2.1 dX10_source_1 (by decide) ?_
  obtain ⟨M2, e2, hf⟩ := fm_pt_s hf
  refine fm_put' C E e2 lp_X10_77 hM_0 rfl dX10_source_2 (fun H locs E => ?_)
  refine lv_iload_n C.1 C.2.1 dX10_source_5 rfl (lv_at hl 1 rfl) ?_
  refine lv_iconst (v := 0) C.1 C.2.1 dX10_source_6 (by decide) ?_
  refine lv_aload_n C.1 C.2.1 dX10_source_7 rfl (lv_at hl 0 rfl) ?_
  refine fm_getr C E lf_X10_9 hM_0 rfl dX10_source_8 ?_
  refine lv_bipush (v := 40) C.1 C.2.1 dX10_source_11 (by decide) ?_
  refine fm_ialdc C E 40 (by decide) hM_1 (by decide) dX10_source_13 ?_
  refine lv_iconst (v := 1) C.1 C.2.1 dX10_source_14 (by decide) ?_
  refine lv_isub C.1 C.2.1 dX10_source_15 ?_
  obtain ⟨x16, hc16, hf⟩ := fm_bd hf
  refine fm_callS C E [.int _, .int _, .int _] [] lm_X10_83 wk_X10_in (c_Model_in l G _ _ _ _ _  hc16) rfl hl.1 (by simp [Value.category]) ⟨⟨rfl, rfl⟩, by decide, by decide⟩ ⟨by decide, by decide⟩ dX10_source_16 rfl (fun H locs E => ?_)
  refine W.eq (g2 := F0 m 19 ls (.int x16 :: [])) rfl ?_
  refine lv_if_ne (tgt := 27) C.1 C.2.1 dX10_source_19 (by decide) (fun hc19 => ?_) (fun hc19 => ?_)
  · have hf := fm_in' hf hc19
    refine lv_iload_n C.1 C.2.1 dX10_source_27 rfl (lv_at hl 2 rfl) ?_
    refine lv_iconst (v := 0) C.1 C.2.1 dX10_source_28 (by decide) ?_
    refine lv_iconst (v := 2) C.1 C.2.1 dX10_source_29 (by decide) ?_
    refine lv_aload_n C.1 C.2.1 dX10_source_30 rfl (lv_at hl 0 rfl) ?_
    refine lv_iload_n C.1 C.2.1 dX10_source_31 rfl (lv_at hl 1 rfl) ?_
    refine lv_iconst (v := 2) C.1 C.2.1 dX10_source_32 (by decide) ?_
    obtain ⟨x33, hc33, hf⟩ := fm_bd hf
    refine fm_callV C E [.int _, .int _] [.int _, .int _, .int _] lm_X10_160 wk_X10_ofSource (c_Model_ofSource l G _ _ _ _  hc33) hM_0 rfl rfl rfl hl.1 (by simp [Value.category]) ⟨⟨rfl, rfl⟩, by decide, by decide⟩ ⟨by decide, by decide⟩ dX10_source_33 rfl (fun H locs E => ?_)
    refine W.eq (g2 := F0 m 36 ls (.int x33 :: [.int _, .int _, .int _])) rfl ?_
    refine lv_iadd C.1 C.2.1 dX10_source_36 ?_
    obtain ⟨x37, hc37, hf⟩ := fm_bd hf
    refine fm_callS C E [.int _, .int _, .int _] [] lm_X10_83 wk_X10_in (c_Model_in l G _ _ _ _ _  hc37) rfl hl.1 (by simp [Value.category]) ⟨⟨rfl, rfl⟩, by decide, by decide⟩ ⟨by decide, by decide⟩ dX10_source_37 rfl (fun H locs E => ?_)
    refine W.eq (g2 := F0 m 40 ls (.int x37 :: [])) rfl ?_
    refine lv_if_eq (tgt := 52) C.1 C.2.1 dX10_source_40 (by decide) (fun hc40 => ?_) (fun hc40 => ?_)
    · have hf := fm_ip hf hc40
      refine lv_aload_n C.1 C.2.1 dX10_source_52 rfl (lv_at hl 0 rfl) ?_
      obtain ⟨⟨x53, M53⟩, hc53, hf⟩ := fm_bd hf
      dsimp only at hf
      refine fm_callV C E [] [] lm_X10_157 wk_X10_lost (c_Model_lost l G _ _ _ hc53) hM_0 rfl rfl rfl hl.1 (by simp [Value.category]) ⟨⟨rfl, rfl⟩, by decide, by decide⟩ ⟨by decide, by decide⟩ dX10_source_53 rfl (fun H locs E => ?_)
      refine W.eq (g2 := F0 m 56 ls (.int x53 :: [])) rfl ?_
      obtain ⟨rfl, rfl⟩ := fm_rt2 hf
      exact fm_iret C E rfl rfl dX10_source_56
    · have hf := fm_in' hf hc40
      refine lv_aload_n C.1 C.2.1 dX10_source_43 rfl (lv_at hl 0 rfl) ?_
      refine lv_iload_n C.1 C.2.1 dX10_source_44 rfl (lv_at hl 1 rfl) ?_
      refine lv_iload_n C.1 C.2.1 dX10_source_45 rfl (lv_at hl 2 rfl) ?_
      obtain ⟨x46, hc46, hf⟩ := fm_bd hf
      refine fm_callV C E [.int _, .int _] [] lm_X10_160 wk_X10_ofSource (c_Model_ofSource l G _ _ _ _  hc46) hM_0 rfl rfl rfl hl.1 (by simp [Value.category]) ⟨⟨rfl, rfl⟩, by decide, by decide⟩ ⟨by decide, by decide⟩ dX10_source_46 rfl (fun H locs E => ?_)
      refine W.eq (g2 := F0 m 49 ls (.int x46 :: [])) rfl ?_
      refine lv_goto (tgt := 56) C.1 C.2.1 dX10_source_49 (by decide) ?_
      obtain ⟨rfl, rfl⟩ := fm_rt2 hf
      exact fm_iret C E rfl rfl dX10_source_56
  · have hf := fm_ip hf hc19
    refine lv_aload_n C.1 C.2.1 dX10_source_22 rfl (lv_at hl 0 rfl) ?_
    obtain ⟨⟨x23, M23⟩, hc23, hf⟩ := fm_bd hf
    dsimp only at hf
    refine fm_callV C E [] [] lm_X10_157 wk_X10_lost (c_Model_lost l G _ _ _ hc23) hM_0 rfl rfl rfl hl.1 (by simp [Value.category]) ⟨⟨rfl, rfl⟩, by decide, by decide⟩ ⟨by decide, by decide⟩ dX10_source_23 rfl (fun H locs E => ?_)
    refine W.eq (g2 := F0 m 26 ls (.int x23 :: [])) rfl ?_
    obtain ⟨rfl, rfl⟩ := fm_rt2 hf
    exact fm_iret C E rfl rfl dX10_source_26
theorem dX10_modulo_0 : decode cX10_modulo 0 = .ok (.iload_n 0, 1) := by decide +kernel
theorem dX10_modulo_1 : decode cX10_modulo 1 = .ok (.iload_n 1, 1) := by decide +kernel
theorem dX10_modulo_2 : decode cX10_modulo 2 = .ok (.irem, 1) := by decide +kernel
theorem dX10_modulo_3 : decode cX10_modulo 3 = .ok (.istore_n 2, 1) := by decide +kernel
theorem dX10_modulo_4 : decode cX10_modulo 4 = .ok (.iload_n 2, 1) := by decide +kernel
theorem dX10_modulo_5 : decode cX10_modulo 5 = .ok (.ifCond .ge 9, 3) := by decide +kernel
theorem dX10_modulo_8 : decode cX10_modulo 8 = .ok (.iload_n 2, 1) := by decide +kernel
theorem dX10_modulo_9 : decode cX10_modulo 9 = .ok (.iload_n 1, 1) := by decide +kernel
theorem dX10_modulo_10 : decode cX10_modulo 10 = .ok (.iadd, 1) := by decide +kernel
theorem dX10_modulo_11 : decode cX10_modulo 11 = .ok (.goto 4, 3) := by decide +kernel
theorem dX10_modulo_14 : decode cX10_modulo 14 = .ok (.iload_n 2, 1) := by decide +kernel
theorem dX10_modulo_15 : decode cX10_modulo 15 = .ok (.ireturn, 1) := by decide +kernel
set_option maxHeartbeats 4000000 in
set_option maxRecDepth 100000 in
theorem c_Model_modulo (l : Launch) (G : fm_G) (M : fm_M) (v0 : Int32) (v1 : Int32) (r : Int32) (hf : pModel_modulo M v0 v1 = some r) : fm_Met l yX10_modulo cX10_modulo 3 (some .int) { frames := 0, cells := 0, slots := 0, locals := 0 } shM G [.int v0, .int v1] M (some (.int r)) M := by
  refine fm_enter (by decide) (Nat.le_of_ble_eq_true rfl) ?_
  intro p e s m args below meth c ls C E hl
  have hl : lv_has ls 3 [(0, .int v0), (1, .int v1)] := hl
  unfold pModel_modulo at hf
  refine lv_iload_n C.1 C.2.1 dX10_modulo_0 rfl (lv_at hl 0 rfl) ?_
  refine lv_iload_n C.1 C.2.1 dX10_modulo_1 rfl (lv_at hl 1 rfl) ?_
  obtain ⟨hz2, hf⟩ := fm_nz_s hf
  refine lv_irem C.1 C.2.1 dX10_modulo_2 hz2 ?_
  refine lv_istore_n (lv' := [(2, .int _), (0, .int _), (1, .int _)]) C.1 C.2.1 dX10_modulo_3 rfl hl (by decide) rfl (fun ls hl => ?_)
  refine lv_iload_n C.1 C.2.1 dX10_modulo_4 rfl (lv_at hl 0 rfl) ?_
  refine lv_if_ge (tgt := 14) C.1 C.2.1 dX10_modulo_5 (by decide) (fun hc5 => ?_) (fun hc5 => ?_)
  · have hf := fm_ip hf hc5
    refine lv_iload_n C.1 C.2.1 dX10_modulo_14 rfl (lv_at hl 0 rfl) ?_
    obtain rfl := fm_rt1 hf
    exact fm_iret C E rfl rfl dX10_modulo_15
  · have hf := fm_in' hf hc5
    refine lv_iload_n C.1 C.2.1 dX10_modulo_8 rfl (lv_at hl 0 rfl) ?_
    refine lv_iload_n C.1 C.2.1 dX10_modulo_9 rfl (lv_at hl 2 rfl) ?_
    refine lv_iadd C.1 C.2.1 dX10_modulo_10 ?_
    refine lv_goto (tgt := 15) C.1 C.2.1 dX10_modulo_11 (by decide) ?_
    obtain rfl := fm_rt1 hf
    exact fm_iret C E rfl rfl dX10_modulo_15
theorem dX10_eighths_0 : decode cX10_eighths 0 = .ok (.iload_n 0, 1) := by decide +kernel
theorem dX10_eighths_1 : decode cX10_eighths 1 = .ok (.iload_n 0, 1) := by decide +kernel
theorem dX10_eighths_2 : decode cX10_eighths 2 = .ok (.bipush 8, 2) := by decide +kernel
theorem dX10_eighths_4 : decode cX10_eighths 4 = .ok (.invokestatic 163, 3) := by decide +kernel
theorem dX10_eighths_7 : decode cX10_eighths 7 = .ok (.isub, 1) := by decide +kernel
theorem dX10_eighths_8 : decode cX10_eighths 8 = .ok (.bipush 8, 2) := by decide +kernel
theorem dX10_eighths_10 : decode cX10_eighths 10 = .ok (.idiv, 1) := by decide +kernel
theorem dX10_eighths_11 : decode cX10_eighths 11 = .ok (.ireturn, 1) := by decide +kernel
set_option maxHeartbeats 4000000 in
set_option maxRecDepth 100000 in
theorem c_Model_eighths (l : Launch) (G : fm_G) (M : fm_M) (v0 : Int32) (r : Int32) (hf : pModel_eighths M v0 = some r) : fm_Met l yX10_eighths cX10_eighths 1 (some .int) { frames := 1, cells := 0, slots := 0, locals := 22 } shM G [.int v0] M (some (.int r)) M := by
  refine fm_enter (by decide) (Nat.le_of_ble_eq_true rfl) ?_
  intro p e s m args below meth c ls C E hl
  have hl : lv_has ls 1 [(0, .int v0)] := hl
  unfold pModel_eighths at hf
  refine lv_iload_n C.1 C.2.1 dX10_eighths_0 rfl (lv_at hl 0 rfl) ?_
  refine lv_iload_n C.1 C.2.1 dX10_eighths_1 rfl (lv_at hl 0 rfl) ?_
  refine lv_bipush (v := 8) C.1 C.2.1 dX10_eighths_2 (by decide) ?_
  obtain ⟨x4, hc4, hf⟩ := fm_bd hf
  refine fm_callS C E [.int _, .int _] [.int _] lm_X10_163 wk_X10_modulo (c_Model_modulo l G _ _ _ _  hc4) rfl hl.1 (by simp [Value.category]) ⟨⟨rfl, rfl⟩, by decide, by decide⟩ ⟨by decide, by decide⟩ dX10_eighths_4 rfl (fun H locs E => ?_)
  refine W.eq (g2 := F0 m 7 ls (.int x4 :: [.int _])) rfl ?_
  refine lv_isub C.1 C.2.1 dX10_eighths_7 ?_
  refine lv_bipush (v := 8) C.1 C.2.1 dX10_eighths_8 (by decide) ?_
  refine lv_idiv C.1 C.2.1 dX10_eighths_10 (by decide) ?_
  obtain rfl := fm_rt1 hf
  exact fm_iret C E rfl rfl dX10_eighths_11
theorem dX10_heardOf_0 : decode cX10_heardOf 0 = .ok (.bipush 8, 2) := by decide +kernel
theorem dX10_heardOf_2 : decode cX10_heardOf 2 = .ok (.iload_n 3, 1) := by decide +kernel
theorem dX10_heardOf_3 : decode cX10_heardOf 3 = .ok (.imul, 1) := by decide +kernel
theorem dX10_heardOf_4 : decode cX10_heardOf 4 = .ok (.iload_n 2, 1) := by decide +kernel
theorem dX10_heardOf_5 : decode cX10_heardOf 5 = .ok (.aload_n 0, 1) := by decide +kernel
theorem dX10_heardOf_6 : decode cX10_heardOf 6 = .ok (.iload_n 1, 1) := by decide +kernel
theorem dX10_heardOf_7 : decode cX10_heardOf 7 = .ok (.iconst 0, 1) := by decide +kernel
theorem dX10_heardOf_8 : decode cX10_heardOf 8 = .ok (.invokevirtual 160, 3) := by decide +kernel
theorem dX10_heardOf_11 : decode cX10_heardOf 11 = .ok (.imul, 1) := by decide +kernel
theorem dX10_heardOf_12 : decode cX10_heardOf 12 = .ok (.isub, 1) := by decide +kernel
theorem dX10_heardOf_13 : decode cX10_heardOf 13 = .ok (.istore 4, 2) := by decide +kernel
theorem dX10_heardOf_15 : decode cX10_heardOf 15 = .ok (.iload 4, 2) := by decide +kernel
theorem dX10_heardOf_17 : decode cX10_heardOf 17 = .ok (.invokestatic 166, 3) := by decide +kernel
theorem dX10_heardOf_20 : decode cX10_heardOf 20 = .ok (.istore 5, 2) := by decide +kernel
theorem dX10_heardOf_22 : decode cX10_heardOf 22 = .ok (.iload 4, 2) := by decide +kernel
theorem dX10_heardOf_24 : decode cX10_heardOf 24 = .ok (.bipush 8, 2) := by decide +kernel
theorem dX10_heardOf_26 : decode cX10_heardOf 26 = .ok (.iload 5, 2) := by decide +kernel
theorem dX10_heardOf_28 : decode cX10_heardOf 28 = .ok (.imul, 1) := by decide +kernel
theorem dX10_heardOf_29 : decode cX10_heardOf 29 = .ok (.isub, 1) := by decide +kernel
theorem dX10_heardOf_30 : decode cX10_heardOf 30 = .ok (.istore 6, 2) := by decide +kernel
theorem dX10_heardOf_32 : decode cX10_heardOf 32 = .ok (.aload_n 0, 1) := by decide +kernel
theorem dX10_heardOf_33 : decode cX10_heardOf 33 = .ok (.iload_n 1, 1) := by decide +kernel
theorem dX10_heardOf_34 : decode cX10_heardOf 34 = .ok (.iconst 2, 1) := by decide +kernel
theorem dX10_heardOf_35 : decode cX10_heardOf 35 = .ok (.invokevirtual 160, 3) := by decide +kernel
theorem dX10_heardOf_38 : decode cX10_heardOf 38 = .ok (.istore 7, 2) := by decide +kernel
theorem dX10_heardOf_40 : decode cX10_heardOf 40 = .ok (.aload_n 0, 1) := by decide +kernel
theorem dX10_heardOf_41 : decode cX10_heardOf 41 = .ok (.iload_n 1, 1) := by decide +kernel
theorem dX10_heardOf_42 : decode cX10_heardOf 42 = .ok (.iconst 1, 1) := by decide +kernel
theorem dX10_heardOf_43 : decode cX10_heardOf 43 = .ok (.invokevirtual 160, 3) := by decide +kernel
theorem dX10_heardOf_46 : decode cX10_heardOf 46 = .ok (.bipush 8, 2) := by decide +kernel
theorem dX10_heardOf_48 : decode cX10_heardOf 48 = .ok (.iload 6, 2) := by decide +kernel
theorem dX10_heardOf_50 : decode cX10_heardOf 50 = .ok (.isub, 1) := by decide +kernel
theorem dX10_heardOf_51 : decode cX10_heardOf 51 = .ok (.aload_n 0, 1) := by decide +kernel
theorem dX10_heardOf_52 : decode cX10_heardOf 52 = .ok (.iload_n 1, 1) := by decide +kernel
theorem dX10_heardOf_53 : decode cX10_heardOf 53 = .ok (.iconst 3, 1) := by decide +kernel
theorem dX10_heardOf_54 : decode cX10_heardOf 54 = .ok (.iload 5, 2) := by decide +kernel
theorem dX10_heardOf_56 : decode cX10_heardOf 56 = .ok (.iload 7, 2) := by decide +kernel
theorem dX10_heardOf_58 : decode cX10_heardOf 58 = .ok (.invokestatic 163, 3) := by decide +kernel
theorem dX10_heardOf_61 : decode cX10_heardOf 61 = .ok (.iadd, 1) := by decide +kernel
theorem dX10_heardOf_62 : decode cX10_heardOf 62 = .ok (.invokevirtual 160, 3) := by decide +kernel
theorem dX10_heardOf_65 : decode cX10_heardOf 65 = .ok (.imul, 1) := by decide +kernel
theorem dX10_heardOf_66 : decode cX10_heardOf 66 = .ok (.iload 6, 2) := by decide +kernel
theorem dX10_heardOf_68 : decode cX10_heardOf 68 = .ok (.aload_n 0, 1) := by decide +kernel
theorem dX10_heardOf_69 : decode cX10_heardOf 69 = .ok (.iload_n 1, 1) := by decide +kernel
theorem dX10_heardOf_70 : decode cX10_heardOf 70 = .ok (.iconst 3, 1) := by decide +kernel
theorem dX10_heardOf_71 : decode cX10_heardOf 71 = .ok (.iload 5, 2) := by decide +kernel
theorem dX10_heardOf_73 : decode cX10_heardOf 73 = .ok (.iconst 1, 1) := by decide +kernel
theorem dX10_heardOf_74 : decode cX10_heardOf 74 = .ok (.iadd, 1) := by decide +kernel
theorem dX10_heardOf_75 : decode cX10_heardOf 75 = .ok (.iload 7, 2) := by decide +kernel
theorem dX10_heardOf_77 : decode cX10_heardOf 77 = .ok (.invokestatic 163, 3) := by decide +kernel
theorem dX10_heardOf_80 : decode cX10_heardOf 80 = .ok (.iadd, 1) := by decide +kernel
theorem dX10_heardOf_81 : decode cX10_heardOf 81 = .ok (.invokevirtual 160, 3) := by decide +kernel
theorem dX10_heardOf_84 : decode cX10_heardOf 84 = .ok (.imul, 1) := by decide +kernel
theorem dX10_heardOf_85 : decode cX10_heardOf 85 = .ok (.iadd, 1) := by decide +kernel
theorem dX10_heardOf_86 : decode cX10_heardOf 86 = .ok (.imul, 1) := by decide +kernel
theorem dX10_heardOf_87 : decode cX10_heardOf 87 = .ok (.ireturn, 1) := by decide +kernel
set_option maxHeartbeats 4000000 in
set_option maxRecDepth 100000 in
theorem c_Model_heardOf (l : Launch) (G : fm_G) (M : fm_M) (v1 : Int32) (v2 : Int32) (v3 : Int32) (r : Int32) (hf : pModel_heardOf M v1 v2 v3 = some r) : fm_Met l yX10_heardOf cX10_heardOf 8 (some .int) { frames := 2, cells := 0, slots := 0, locals := 42 } shM G [.ref (G.2.1 0), .int v1, .int v2, .int v3] M (some (.int r)) M := by
  refine fm_enter (by decide) (Nat.le_of_ble_eq_true rfl) ?_
  intro p e s m args below meth c ls C E hl
  have hl : lv_has ls 8 [(0, .ref (G.2.1 0)), (1, .int v1), (2, .int v2), (3, .int v3)] := hl
  unfold pModel_heardOf at hf
  refine lv_bipush (v := 8) C.1 C.2.1 dX10_heardOf_0 (by decide) ?_
  refine lv_iload_n C.1 C.2.1 dX10_heardOf_2 rfl (lv_at hl 3 rfl) ?_
  refine lv_imul C.1 C.2.1 dX10_heardOf_3 ?_
  refine lv_iload_n C.1 C.2.1 dX10_heardOf_4 rfl (lv_at hl 2 rfl) ?_
  refine lv_aload_n C.1 C.2.1 dX10_heardOf_5 rfl (lv_at hl 0 rfl) ?_
  refine lv_iload_n C.1 C.2.1 dX10_heardOf_6 rfl (lv_at hl 1 rfl) ?_
  refine lv_iconst (v := 0) C.1 C.2.1 dX10_heardOf_7 (by decide) ?_
  obtain ⟨x8, hc8, hf⟩ := fm_bd hf
  refine fm_callV C E [.int _, .int _] [.int _, .int _] lm_X10_160 wk_X10_ofSource (c_Model_ofSource l G _ _ _ _  hc8) hM_0 rfl rfl rfl hl.1 (by simp [Value.category]) ⟨⟨rfl, rfl⟩, by decide, by decide⟩ ⟨by decide, by decide⟩ dX10_heardOf_8 rfl (fun H locs E => ?_)
  refine W.eq (g2 := F0 m 11 ls (.int x8 :: [.int _, .int _])) rfl ?_
  refine lv_imul C.1 C.2.1 dX10_heardOf_11 ?_
  refine lv_isub C.1 C.2.1 dX10_heardOf_12 ?_
  refine lv_istore (lv' := [(4, .int _), (0, .ref _), (1, .int _), (2, .int _), (3, .int _)]) C.1 C.2.1 dX10_heardOf_13 hl (by decide) rfl (fun ls hl => ?_)
  refine lv_iload C.1 C.2.1 dX10_heardOf_15 (lv_at hl 0 rfl) ?_
  obtain ⟨x17, hc17, hf⟩ := fm_bd hf
  refine fm_callS C E [.int _] [] lm_X10_166 wk_X10_eighths (c_Model_eighths l G _ _ _  hc17) rfl hl.1 (by simp [Value.category]) ⟨⟨rfl, rfl⟩, by decide, by decide⟩ ⟨by decide, by decide⟩ dX10_heardOf_17 rfl (fun H locs E => ?_)
  refine W.eq (g2 := F0 m 20 ls (.int x17 :: [])) rfl ?_
  refine lv_istore (lv' := [(5, .int _), (4, .int _), (0, .ref _), (1, .int _), (2, .int _), (3, .int _)]) C.1 C.2.1 dX10_heardOf_20 hl (by decide) rfl (fun ls hl => ?_)
  refine lv_iload C.1 C.2.1 dX10_heardOf_22 (lv_at hl 1 rfl) ?_
  refine lv_bipush (v := 8) C.1 C.2.1 dX10_heardOf_24 (by decide) ?_
  refine lv_iload C.1 C.2.1 dX10_heardOf_26 (lv_at hl 0 rfl) ?_
  refine lv_imul C.1 C.2.1 dX10_heardOf_28 ?_
  refine lv_isub C.1 C.2.1 dX10_heardOf_29 ?_
  refine lv_istore (lv' := [(6, .int _), (5, .int _), (4, .int _), (0, .ref _), (1, .int _), (2, .int _), (3, .int _)]) C.1 C.2.1 dX10_heardOf_30 hl (by decide) rfl (fun ls hl => ?_)
  refine lv_aload_n C.1 C.2.1 dX10_heardOf_32 rfl (lv_at hl 3 rfl) ?_
  refine lv_iload_n C.1 C.2.1 dX10_heardOf_33 rfl (lv_at hl 4 rfl) ?_
  refine lv_iconst (v := 2) C.1 C.2.1 dX10_heardOf_34 (by decide) ?_
  obtain ⟨x35, hc35, hf⟩ := fm_bd hf
  refine fm_callV C E [.int _, .int _] [] lm_X10_160 wk_X10_ofSource (c_Model_ofSource l G _ _ _ _  hc35) hM_0 rfl rfl rfl hl.1 (by simp [Value.category]) ⟨⟨rfl, rfl⟩, by decide, by decide⟩ ⟨by decide, by decide⟩ dX10_heardOf_35 rfl (fun H locs E => ?_)
  refine W.eq (g2 := F0 m 38 ls (.int x35 :: [])) rfl ?_
  refine lv_istore (lv' := [(7, .int _), (6, .int _), (5, .int _), (4, .int _), (0, .ref _), (1, .int _), (2, .int _), (3, .int _)]) C.1 C.2.1 dX10_heardOf_38 hl (by decide) rfl (fun ls hl => ?_)
  refine lv_aload_n C.1 C.2.1 dX10_heardOf_40 rfl (lv_at hl 4 rfl) ?_
  refine lv_iload_n C.1 C.2.1 dX10_heardOf_41 rfl (lv_at hl 5 rfl) ?_
  refine lv_iconst (v := 1) C.1 C.2.1 dX10_heardOf_42 (by decide) ?_
  obtain ⟨x43, hc43, hf⟩ := fm_bd hf
  refine fm_callV C E [.int _, .int _] [] lm_X10_160 wk_X10_ofSource (c_Model_ofSource l G _ _ _ _  hc43) hM_0 rfl rfl rfl hl.1 (by simp [Value.category]) ⟨⟨rfl, rfl⟩, by decide, by decide⟩ ⟨by decide, by decide⟩ dX10_heardOf_43 rfl (fun H locs E => ?_)
  refine W.eq (g2 := F0 m 46 ls (.int x43 :: [])) rfl ?_
  refine lv_bipush (v := 8) C.1 C.2.1 dX10_heardOf_46 (by decide) ?_
  refine lv_iload C.1 C.2.1 dX10_heardOf_48 (lv_at hl 1 rfl) ?_
  refine lv_isub C.1 C.2.1 dX10_heardOf_50 ?_
  refine lv_aload_n C.1 C.2.1 dX10_heardOf_51 rfl (lv_at hl 4 rfl) ?_
  refine lv_iload_n C.1 C.2.1 dX10_heardOf_52 rfl (lv_at hl 5 rfl) ?_
  refine lv_iconst (v := 3) C.1 C.2.1 dX10_heardOf_53 (by decide) ?_
  refine lv_iload C.1 C.2.1 dX10_heardOf_54 (lv_at hl 2 rfl) ?_
  refine lv_iload C.1 C.2.1 dX10_heardOf_56 (lv_at hl 0 rfl) ?_
  obtain ⟨x58, hc58, hf⟩ := fm_bd hf
  refine fm_callS C E [.int _, .int _] [.int _, .int _, .ref _, .int _, .int _] lm_X10_163 wk_X10_modulo (c_Model_modulo l G _ _ _ _  hc58) rfl hl.1 (by simp [Value.category]) ⟨⟨rfl, rfl⟩, by decide, by decide⟩ ⟨by decide, by decide⟩ dX10_heardOf_58 rfl (fun H locs E => ?_)
  refine W.eq (g2 := F0 m 61 ls (.int x58 :: [.int _, .int _, .ref _, .int _, .int _])) rfl ?_
  refine lv_iadd C.1 C.2.1 dX10_heardOf_61 ?_
  obtain ⟨x62, hc62, hf⟩ := fm_bd hf
  refine fm_callV C E [.int _, .int _] [.int _, .int _] lm_X10_160 wk_X10_ofSource (c_Model_ofSource l G _ _ _ _  hc62) hM_0 rfl rfl rfl hl.1 (by simp [Value.category]) ⟨⟨rfl, rfl⟩, by decide, by decide⟩ ⟨by decide, by decide⟩ dX10_heardOf_62 rfl (fun H locs E => ?_)
  refine W.eq (g2 := F0 m 65 ls (.int x62 :: [.int _, .int _])) rfl ?_
  refine lv_imul C.1 C.2.1 dX10_heardOf_65 ?_
  refine lv_iload C.1 C.2.1 dX10_heardOf_66 (lv_at hl 1 rfl) ?_
  refine lv_aload_n C.1 C.2.1 dX10_heardOf_68 rfl (lv_at hl 4 rfl) ?_
  refine lv_iload_n C.1 C.2.1 dX10_heardOf_69 rfl (lv_at hl 5 rfl) ?_
  refine lv_iconst (v := 3) C.1 C.2.1 dX10_heardOf_70 (by decide) ?_
  refine lv_iload C.1 C.2.1 dX10_heardOf_71 (lv_at hl 2 rfl) ?_
  refine lv_iconst (v := 1) C.1 C.2.1 dX10_heardOf_73 (by decide) ?_
  refine lv_iadd C.1 C.2.1 dX10_heardOf_74 ?_
  refine lv_iload C.1 C.2.1 dX10_heardOf_75 (lv_at hl 0 rfl) ?_
  obtain ⟨x77, hc77, hf⟩ := fm_bd hf
  refine fm_callS C E [.int _, .int _] [.int _, .int _, .ref _, .int _, .int _, .int _] lm_X10_163 wk_X10_modulo (c_Model_modulo l G _ _ _ _  hc77) rfl hl.1 (by simp [Value.category]) ⟨⟨rfl, rfl⟩, by decide, by decide⟩ ⟨by decide, by decide⟩ dX10_heardOf_77 rfl (fun H locs E => ?_)
  refine W.eq (g2 := F0 m 80 ls (.int x77 :: [.int _, .int _, .ref _, .int _, .int _, .int _])) rfl ?_
  refine lv_iadd C.1 C.2.1 dX10_heardOf_80 ?_
  obtain ⟨x81, hc81, hf⟩ := fm_bd hf
  refine fm_callV C E [.int _, .int _] [.int _, .int _, .int _] lm_X10_160 wk_X10_ofSource (c_Model_ofSource l G _ _ _ _  hc81) hM_0 rfl rfl rfl hl.1 (by simp [Value.category]) ⟨⟨rfl, rfl⟩, by decide, by decide⟩ ⟨by decide, by decide⟩ dX10_heardOf_81 rfl (fun H locs E => ?_)
  refine W.eq (g2 := F0 m 84 ls (.int x81 :: [.int _, .int _, .int _])) rfl ?_
  refine lv_imul C.1 C.2.1 dX10_heardOf_84 ?_
  refine lv_iadd C.1 C.2.1 dX10_heardOf_85 ?_
  refine lv_imul C.1 C.2.1 dX10_heardOf_86 ?_
  obtain rfl := fm_rt1 hf
  exact fm_iret C E rfl rfl dX10_heardOf_87
theorem dX10_gust_0 : decode cX10_gust 0 = .ok (.iload_n 1, 1) := by decide +kernel
theorem dX10_gust_1 : decode cX10_gust 1 = .ok (.sipush 300, 3) := by decide +kernel
theorem dX10_gust_4 : decode cX10_gust 4 = .ok (.iadd, 1) := by decide +kernel
theorem dX10_gust_5 : decode cX10_gust 5 = .ok (.iload_n 1, 1) := by decide +kernel
theorem dX10_gust_6 : decode cX10_gust 6 = .ok (.sipush 300, 3) := by decide +kernel
theorem dX10_gust_9 : decode cX10_gust 9 = .ok (.iadd, 1) := by decide +kernel
theorem dX10_gust_10 : decode cX10_gust 10 = .ok (.imul, 1) := by decide +kernel
theorem dX10_gust_11 : decode cX10_gust 11 = .ok (.bipush 7, 2) := by decide +kernel
theorem dX10_gust_13 : decode cX10_gust 13 = .ok (.imul, 1) := by decide +kernel
theorem dX10_gust_14 : decode cX10_gust 14 = .ok (.iload_n 0, 1) := by decide +kernel
theorem dX10_gust_15 : decode cX10_gust 15 = .ok (.iconst 1, 1) := by decide +kernel
theorem dX10_gust_16 : decode cX10_gust 16 = .ok (.iadd, 1) := by decide +kernel
theorem dX10_gust_17 : decode cX10_gust 17 = .ok (.iload_n 1, 1) := by decide +kernel
theorem dX10_gust_18 : decode cX10_gust 18 = .ok (.sipush 311, 3) := by decide +kernel
theorem dX10_gust_21 : decode cX10_gust 21 = .ok (.iadd, 1) := by decide +kernel
theorem dX10_gust_22 : decode cX10_gust 22 = .ok (.imul, 1) := by decide +kernel
theorem dX10_gust_23 : decode cX10_gust 23 = .ok (.bipush 13, 2) := by decide +kernel
theorem dX10_gust_25 : decode cX10_gust 25 = .ok (.imul, 1) := by decide +kernel
theorem dX10_gust_26 : decode cX10_gust 26 = .ok (.iadd, 1) := by decide +kernel
theorem dX10_gust_27 : decode cX10_gust 27 = .ok (.sipush 1009, 3) := by decide +kernel
theorem dX10_gust_30 : decode cX10_gust 30 = .ok (.irem, 1) := by decide +kernel
theorem dX10_gust_31 : decode cX10_gust 31 = .ok (.istore_n 2, 1) := by decide +kernel
theorem dX10_gust_32 : decode cX10_gust 32 = .ok (.iload_n 2, 1) := by decide +kernel
theorem dX10_gust_33 : decode cX10_gust 33 = .ok (.bipush 17, 2) := by decide +kernel
theorem dX10_gust_35 : decode cX10_gust 35 = .ok (.irem, 1) := by decide +kernel
theorem dX10_gust_36 : decode cX10_gust 36 = .ok (.bipush 8, 2) := by decide +kernel
theorem dX10_gust_38 : decode cX10_gust 38 = .ok (.isub, 1) := by decide +kernel
theorem dX10_gust_39 : decode cX10_gust 39 = .ok (.bipush 8, 2) := by decide +kernel
theorem dX10_gust_41 : decode cX10_gust 41 = .ok (.imul, 1) := by decide +kernel
theorem dX10_gust_42 : decode cX10_gust 42 = .ok (.ireturn, 1) := by decide +kernel
set_option maxHeartbeats 4000000 in
set_option maxRecDepth 100000 in
theorem c_Model_gust (l : Launch) (G : fm_G) (M : fm_M) (v0 : Int32) (v1 : Int32) (r : Int32) (hf : pModel_gust M v0 v1 = some r) : fm_Met l yX10_gust cX10_gust 3 (some .int) { frames := 0, cells := 0, slots := 0, locals := 0 } shM G [.int v0, .int v1] M (some (.int r)) M := by
  refine fm_enter (by decide) (Nat.le_of_ble_eq_true rfl) ?_
  intro p e s m args below meth c ls C E hl
  have hl : lv_has ls 3 [(0, .int v0), (1, .int v1)] := hl
  unfold pModel_gust at hf
  refine lv_iload_n C.1 C.2.1 dX10_gust_0 rfl (lv_at hl 1 rfl) ?_
  refine lv_sipush (v := 300) C.1 C.2.1 dX10_gust_1 (by decide) ?_
  refine lv_iadd C.1 C.2.1 dX10_gust_4 ?_
  refine lv_iload_n C.1 C.2.1 dX10_gust_5 rfl (lv_at hl 1 rfl) ?_
  refine lv_sipush (v := 300) C.1 C.2.1 dX10_gust_6 (by decide) ?_
  refine lv_iadd C.1 C.2.1 dX10_gust_9 ?_
  refine lv_imul C.1 C.2.1 dX10_gust_10 ?_
  refine lv_bipush (v := 7) C.1 C.2.1 dX10_gust_11 (by decide) ?_
  refine lv_imul C.1 C.2.1 dX10_gust_13 ?_
  refine lv_iload_n C.1 C.2.1 dX10_gust_14 rfl (lv_at hl 0 rfl) ?_
  refine lv_iconst (v := 1) C.1 C.2.1 dX10_gust_15 (by decide) ?_
  refine lv_iadd C.1 C.2.1 dX10_gust_16 ?_
  refine lv_iload_n C.1 C.2.1 dX10_gust_17 rfl (lv_at hl 1 rfl) ?_
  refine lv_sipush (v := 311) C.1 C.2.1 dX10_gust_18 (by decide) ?_
  refine lv_iadd C.1 C.2.1 dX10_gust_21 ?_
  refine lv_imul C.1 C.2.1 dX10_gust_22 ?_
  refine lv_bipush (v := 13) C.1 C.2.1 dX10_gust_23 (by decide) ?_
  refine lv_imul C.1 C.2.1 dX10_gust_25 ?_
  refine lv_iadd C.1 C.2.1 dX10_gust_26 ?_
  refine lv_sipush (v := 1009) C.1 C.2.1 dX10_gust_27 (by decide) ?_
  refine lv_irem C.1 C.2.1 dX10_gust_30 (by decide) ?_
  refine lv_istore_n (lv' := [(2, .int _), (0, .int _), (1, .int _)]) C.1 C.2.1 dX10_gust_31 rfl hl (by decide) rfl (fun ls hl => ?_)
  refine lv_iload_n C.1 C.2.1 dX10_gust_32 rfl (lv_at hl 0 rfl) ?_
  refine lv_bipush (v := 17) C.1 C.2.1 dX10_gust_33 (by decide) ?_
  refine lv_irem C.1 C.2.1 dX10_gust_35 (by decide) ?_
  refine lv_bipush (v := 8) C.1 C.2.1 dX10_gust_36 (by decide) ?_
  refine lv_isub C.1 C.2.1 dX10_gust_38 ?_
  refine lv_bipush (v := 8) C.1 C.2.1 dX10_gust_39 (by decide) ?_
  refine lv_imul C.1 C.2.1 dX10_gust_41 ?_
  obtain rfl := fm_rt1 hf
  exact fm_iret C E rfl rfl dX10_gust_42
theorem dX10_sampleOf_0 : decode cX10_sampleOf 0 = .ok (.aload_n 0, 1) := by decide +kernel
theorem dX10_sampleOf_1 : decode cX10_sampleOf 1 = .ok (.iload_n 1, 1) := by decide +kernel
theorem dX10_sampleOf_2 : decode cX10_sampleOf 2 = .ok (.iconst 4, 1) := by decide +kernel
theorem dX10_sampleOf_3 : decode cX10_sampleOf 3 = .ok (.invokevirtual 150, 3) := by decide +kernel
theorem dX10_sampleOf_6 : decode cX10_sampleOf 6 = .ok (.iconst 1, 1) := by decide +kernel
theorem dX10_sampleOf_7 : decode cX10_sampleOf 7 = .ok (.if_icmp .ne 5, 3) := by decide +kernel
theorem dX10_sampleOf_10 : decode cX10_sampleOf 10 = .ok (.iconst 0, 1) := by decide +kernel
theorem dX10_sampleOf_11 : decode cX10_sampleOf 11 = .ok (.ireturn, 1) := by decide +kernel
theorem dX10_sampleOf_12 : decode cX10_sampleOf 12 = .ok (.aload_n 0, 1) := by decide +kernel
theorem dX10_sampleOf_13 : decode cX10_sampleOf 13 = .ok (.iload_n 1, 1) := by decide +kernel
theorem dX10_sampleOf_14 : decode cX10_sampleOf 14 = .ok (.iconst 2, 1) := by decide +kernel
theorem dX10_sampleOf_15 : decode cX10_sampleOf 15 = .ok (.invokevirtual 150, 3) := by decide +kernel
theorem dX10_sampleOf_18 : decode cX10_sampleOf 18 = .ok (.iload_n 1, 1) := by decide +kernel
theorem dX10_sampleOf_19 : decode cX10_sampleOf 19 = .ok (.iload_n 2, 1) := by decide +kernel
theorem dX10_sampleOf_20 : decode cX10_sampleOf 20 = .ok (.invokestatic 169, 3) := by decide +kernel
theorem dX10_sampleOf_23 : decode cX10_sampleOf 23 = .ok (.imul, 1) := by decide +kernel
theorem dX10_sampleOf_24 : decode cX10_sampleOf 24 = .ok (.istore_n 3, 1) := by decide +kernel
theorem dX10_sampleOf_25 : decode cX10_sampleOf 25 = .ok (.iconst 0, 1) := by decide +kernel
theorem dX10_sampleOf_26 : decode cX10_sampleOf 26 = .ok (.istore 4, 2) := by decide +kernel
theorem dX10_sampleOf_28 : decode cX10_sampleOf 28 = .ok (.iload 4, 2) := by decide +kernel
theorem dX10_sampleOf_30 : decode cX10_sampleOf 30 = .ok (.aload_n 0, 1) := by decide +kernel
theorem dX10_sampleOf_31 : decode cX10_sampleOf 31 = .ok (.getfield 9, 3) := by decide +kernel
theorem dX10_sampleOf_34 : decode cX10_sampleOf 34 = .ok (.bipush 40, 2) := by decide +kernel
theorem dX10_sampleOf_36 : decode cX10_sampleOf 36 = .ok (.iaload, 1) := by decide +kernel
theorem dX10_sampleOf_37 : decode cX10_sampleOf 37 = .ok (.if_icmp .ge 79, 3) := by decide +kernel
theorem dX10_sampleOf_40 : decode cX10_sampleOf 40 = .ok (.iload_n 3, 1) := by decide +kernel
theorem dX10_sampleOf_41 : decode cX10_sampleOf 41 = .ok (.iload 4, 2) := by decide +kernel
theorem dX10_sampleOf_43 : decode cX10_sampleOf 43 = .ok (.aload_n 0, 1) := by decide +kernel
theorem dX10_sampleOf_44 : decode cX10_sampleOf 44 = .ok (.getfield 27, 3) := by decide +kernel
theorem dX10_sampleOf_47 : decode cX10_sampleOf 47 = .ok (.if_icmp .eq 44, 3) := by decide +kernel
theorem dX10_sampleOf_50 : decode cX10_sampleOf 50 = .ok (.aload_n 0, 1) := by decide +kernel
theorem dX10_sampleOf_51 : decode cX10_sampleOf 51 = .ok (.getfield 34, 3) := by decide +kernel
theorem dX10_sampleOf_54 : decode cX10_sampleOf 54 = .ok (.iconst (-1), 1) := by decide +kernel
theorem dX10_sampleOf_55 : decode cX10_sampleOf 55 = .ok (.if_icmp .eq 12, 3) := by decide +kernel
theorem dX10_sampleOf_58 : decode cX10_sampleOf 58 = .ok (.iload 4, 2) := by decide +kernel
theorem dX10_sampleOf_60 : decode cX10_sampleOf 60 = .ok (.aload_n 0, 1) := by decide +kernel
theorem dX10_sampleOf_61 : decode cX10_sampleOf 61 = .ok (.getfield 34, 3) := by decide +kernel
theorem dX10_sampleOf_64 : decode cX10_sampleOf 64 = .ok (.if_icmp .ne 27, 3) := by decide +kernel
theorem dX10_sampleOf_67 : decode cX10_sampleOf 67 = .ok (.aload_n 0, 1) := by decide +kernel
theorem dX10_sampleOf_68 : decode cX10_sampleOf 68 = .ok (.getfield 31, 3) := by decide +kernel
theorem dX10_sampleOf_71 : decode cX10_sampleOf 71 = .ok (.sipush 300, 3) := by decide +kernel
theorem dX10_sampleOf_74 : decode cX10_sampleOf 74 = .ok (.if_icmp .eq 21, 3) := by decide +kernel
theorem dX10_sampleOf_77 : decode cX10_sampleOf 77 = .ok (.aload_n 0, 1) := by decide +kernel
theorem dX10_sampleOf_78 : decode cX10_sampleOf 78 = .ok (.iload 4, 2) := by decide +kernel
theorem dX10_sampleOf_80 : decode cX10_sampleOf 80 = .ok (.iconst 0, 1) := by decide +kernel
theorem dX10_sampleOf_81 : decode cX10_sampleOf 81 = .ok (.invokevirtual 160, 3) := by decide +kernel
theorem dX10_sampleOf_84 : decode cX10_sampleOf 84 = .ok (.aload_n 0, 1) := by decide +kernel
theorem dX10_sampleOf_85 : decode cX10_sampleOf 85 = .ok (.getfield 31, 3) := by decide +kernel
theorem dX10_sampleOf_88 : decode cX10_sampleOf 88 = .ok (.if_icmp .eq 7, 3) := by decide +kernel
theorem dX10_sampleOf_91 : decode cX10_sampleOf 91 = .ok (.iconst 0, 1) := by decide +kernel
theorem dX10_sampleOf_92 : decode cX10_sampleOf 92 = .ok (.goto 16, 3) := by decide +kernel
theorem dX10_sampleOf_95 : decode cX10_sampleOf 95 = .ok (.aload_n 0, 1) := by decide +kernel
theorem dX10_sampleOf_96 : decode cX10_sampleOf 96 = .ok (.iload 4, 2) := by decide +kernel
theorem dX10_sampleOf_98 : decode cX10_sampleOf 98 = .ok (.aload_n 0, 1) := by decide +kernel
theorem dX10_sampleOf_99 : decode cX10_sampleOf 99 = .ok (.iload_n 1, 1) := by decide +kernel
theorem dX10_sampleOf_100 : decode cX10_sampleOf 100 = .ok (.iconst 0, 1) := by decide +kernel
theorem dX10_sampleOf_101 : decode cX10_sampleOf 101 = .ok (.invokevirtual 150, 3) := by decide +kernel
theorem dX10_sampleOf_104 : decode cX10_sampleOf 104 = .ok (.iload_n 2, 1) := by decide +kernel
theorem dX10_sampleOf_105 : decode cX10_sampleOf 105 = .ok (.invokevirtual 172, 3) := by decide +kernel
theorem dX10_sampleOf_108 : decode cX10_sampleOf 108 = .ok (.iadd, 1) := by decide +kernel
theorem dX10_sampleOf_109 : decode cX10_sampleOf 109 = .ok (.istore_n 3, 1) := by decide +kernel
theorem dX10_sampleOf_110 : decode cX10_sampleOf 110 = .ok (.iinc 4 1, 3) := by decide +kernel
theorem dX10_sampleOf_113 : decode cX10_sampleOf 113 = .ok (.goto (-85), 3) := by decide +kernel
theorem dX10_sampleOf_116 : decode cX10_sampleOf 116 = .ok (.iload_n 3, 1) := by decide +kernel
theorem dX10_sampleOf_117 : decode cX10_sampleOf 117 = .ok (.aload_n 0, 1) := by decide +kernel
theorem dX10_sampleOf_118 : decode cX10_sampleOf 118 = .ok (.iload_n 1, 1) := by decide +kernel
theorem dX10_sampleOf_119 : decode cX10_sampleOf 119 = .ok (.iconst 1, 1) := by decide +kernel
theorem dX10_sampleOf_120 : decode cX10_sampleOf 120 = .ok (.invokevirtual 150, 3) := by decide +kernel
theorem dX10_sampleOf_123 : decode cX10_sampleOf 123 = .ok (.imul, 1) := by decide +kernel
theorem dX10_sampleOf_124 : decode cX10_sampleOf 124 = .ok (.bipush 100, 2) := by decide +kernel
theorem dX10_sampleOf_126 : decode cX10_sampleOf 126 = .ok (.idiv, 1) := by decide +kernel
theorem dX10_sampleOf_127 : decode cX10_sampleOf 127 = .ok (.istore 4, 2) := by decide +kernel
theorem dX10_sampleOf_129 : decode cX10_sampleOf 129 = .ok (.aload_n 0, 1) := by decide +kernel
theorem dX10_sampleOf_130 : decode cX10_sampleOf 130 = .ok (.getfield 9, 3) := by decide +kernel
theorem dX10_sampleOf_133 : decode cX10_sampleOf 133 = .ok (.bipush 37, 2) := by decide +kernel
theorem dX10_sampleOf_135 : decode cX10_sampleOf 135 = .ok (.iaload, 1) := by decide +kernel
theorem dX10_sampleOf_136 : decode cX10_sampleOf 136 = .ok (.ineg, 1) := by decide +kernel
theorem dX10_sampleOf_137 : decode cX10_sampleOf 137 = .ok (.aload_n 0, 1) := by decide +kernel
theorem dX10_sampleOf_138 : decode cX10_sampleOf 138 = .ok (.getfield 9, 3) := by decide +kernel
theorem dX10_sampleOf_141 : decode cX10_sampleOf 141 = .ok (.bipush 37, 2) := by decide +kernel
theorem dX10_sampleOf_143 : decode cX10_sampleOf 143 = .ok (.iaload, 1) := by decide +kernel
theorem dX10_sampleOf_144 : decode cX10_sampleOf 144 = .ok (.iload 4, 2) := by decide +kernel
theorem dX10_sampleOf_146 : decode cX10_sampleOf 146 = .ok (.invokestatic 141, 3) := by decide +kernel
theorem dX10_sampleOf_149 : decode cX10_sampleOf 149 = .ok (.invokestatic 147, 3) := by decide +kernel
theorem dX10_sampleOf_152 : decode cX10_sampleOf 152 = .ok (.ireturn, 1) := by decide +kernel
set_option maxHeartbeats 4000000 in
set_option maxRecDepth 100000 in
theorem c_Model_sampleOf (l : Launch) (G : fm_G) (N : Nat) (M : fm_M) (v1 : Int32) (v2 : Int32) (r : Int32) (hf : pModel_sampleOf N M v1 v2 = some r) : fm_Met l yX10_sampleOf cX10_sampleOf 5 (some .int) { frames := 3, cells := 0, slots := 0, locals := 69 } shM G [.ref (G.2.1 0), .int v1, .int v2] M (some (.int r)) M := by
  refine fm_enter (by decide) (Nat.le_of_ble_eq_true rfl) ?_
  intro p e s m args below meth c ls C E hl
  have hl : lv_has ls 5 [(0, .ref (G.2.1 0)), (1, .int v1), (2, .int v2)] := hl
  have L28 : ∀ (w28_v1 : Int32) (w28_v2 : Int32) (n28 : Nat) (v3 : Int32) (v4 : Int32) (H : Heap) (locs : List Loc) (ls : Array Slot), fm_Wd shM G M s H locs → lv_has ls 5 [(0, .ref (G.2.1 0)), (1, .int w28_v1), (2, .int w28_v2), (3, .int v3), (4, .int v4)] → fm_lp (pModel_sampleOf_L28 N M w28_v1 w28_v2) n28 (v3, v4) = some r → W p l e { frames := 3, cells := 0, slots := 0, locals := 69 } s m args below meth c H locs 0 0 (fm_Z below shM G args s (some (.int r)) M) (F0 m 28 ls []) := by
    intro w28_v1 w28_v2 n28
    induction n28 with
    | zero => intro v3 v4 H locs ls E hl hf; exact fm_lp_0 hf
    | succ n28 ih28 =>
      have J95 : ∀ (v4 : Int32) (s0 : Int32) (H : Heap) (locs : List Loc) (ls : Array Slot), fm_Wd shM G M s H locs → lv_has ls 5 [(0, .ref (G.2.1 0)), (1, .int w28_v1), (2, .int w28_v2), (4, .int v4)] → pModel_sampleOf_J95 N M w28_v1 w28_v2 v4 (fm_lp (pModel_sampleOf_L28 N M w28_v1 w28_v2) n28) s0 = some r → W p l e { frames := 3, cells := 0, slots := 0, locals := 69 } s m args below meth c H locs 0 0 (fm_Z below shM G args s (some (.int r)) M) (F0 m 95 ls [.int s0]) := by
        intro v4 s0 H locs ls E hl hf
        unfold pModel_sampleOf_J95 at hf
        refine lv_aload_n C.1 C.2.1 dX10_sampleOf_95 rfl (lv_at hl 0 rfl) ?_
        refine lv_iload C.1 C.2.1 dX10_sampleOf_96 (lv_at hl 3 rfl) ?_
        refine lv_aload_n C.1 C.2.1 dX10_sampleOf_98 rfl (lv_at hl 0 rfl) ?_
        refine lv_iload_n C.1 C.2.1 dX10_sampleOf_99 rfl (lv_at hl 1 rfl) ?_
        refine lv_iconst (v := 0) C.1 C.2.1 dX10_sampleOf_100 (by decide) ?_
        obtain ⟨x101, hc101, hf⟩ := fm_bd hf
        refine fm_callV C E [.int _, .int _] [.int _, .ref _, .int _] lm_X10_150 wk_X10_of (c_Model_of l G _ _ _ _  hc101) hM_0 rfl rfl rfl hl.1 (by simp [Value.category]) ⟨⟨rfl, rfl⟩, by decide, by decide⟩ ⟨by decide, by decide⟩ dX10_sampleOf_101 rfl (fun H locs E => ?_)
        refine W.eq (g2 := F0 m 104 ls (.int x101 :: [.int _, .ref _, .int _])) rfl ?_
        refine lv_iload_n C.1 C.2.1 dX10_sampleOf_104 rfl (lv_at hl 2 rfl) ?_
        obtain ⟨x105, hc105, hf⟩ := fm_bd hf
        refine fm_callV C E [.int _, .int _, .int _] [.int _] lm_X10_172 wk_X10_heardOf (c_Model_heardOf l G _ _ _ _ _  hc105) hM_0 rfl rfl rfl hl.1 (by simp [Value.category]) ⟨⟨rfl, rfl⟩, by decide, by decide⟩ ⟨by decide, by decide⟩ dX10_sampleOf_105 rfl (fun H locs E => ?_)
        refine W.eq (g2 := F0 m 108 ls (.int x105 :: [.int _])) rfl ?_
        refine lv_iadd C.1 C.2.1 dX10_sampleOf_108 ?_
        refine lv_istore_n (lv' := [(3, .int _), (0, .ref _), (1, .int _), (2, .int _), (4, .int _)]) C.1 C.2.1 dX10_sampleOf_109 rfl hl (by decide) rfl (fun ls hl => ?_)
        refine fm_iinc C (v := 1) (lv' := [(4, .int _), (3, .int _), (0, .ref _), (1, .int _), (2, .int _)]) (k := 4) hl rfl (by decide) (by decide) rfl dX10_sampleOf_110 (fun ls hl => ?_)
        refine lv_goto (tgt := 28) C.1 C.2.1 dX10_sampleOf_113 (by decide) ?_
        exact ih28 _ _ _ _ _ E (lv_sub hl [2, 3, 4, 1, 0] rfl) hf
      have J67 : ∀ (v4 : Int32) (s0 : Int32) (H : Heap) (locs : List Loc) (ls : Array Slot), fm_Wd shM G M s H locs → lv_has ls 5 [(0, .ref (G.2.1 0)), (1, .int w28_v1), (2, .int w28_v2), (4, .int v4)] → pModel_sampleOf_J67 N M w28_v1 w28_v2 v4 (fm_lp (pModel_sampleOf_L28 N M w28_v1 w28_v2) n28) s0 = some r → W p l e { frames := 3, cells := 0, slots := 0, locals := 69 } s m args below meth c H locs 0 0 (fm_Z below shM G args s (some (.int r)) M) (F0 m 67 ls [.int s0]) := by
        intro v4 s0 H locs ls E hl hf
        unfold pModel_sampleOf_J67 at hf
        refine lv_aload_n C.1 C.2.1 dX10_sampleOf_67 rfl (lv_at hl 0 rfl) ?_
        refine fm_geti C E lf_X10_31 hM_0 rfl dX10_sampleOf_68 ?_
        refine lv_sipush (v := 300) C.1 C.2.1 dX10_sampleOf_71 (by decide) ?_
        refine lv_icmp_eq (tgt := 95) C.1 C.2.1 dX10_sampleOf_74 (by decide) (fun hc74 => ?_) (fun hc74 => ?_)
        · have hf := fm_ip hf hc74
          exact J95 _ _ _ _ _ E (lv_sub hl [0, 1, 2, 3] rfl) hf
        · have hf := fm_in' hf hc74
          refine lv_aload_n C.1 C.2.1 dX10_sampleOf_77 rfl (lv_at hl 0 rfl) ?_
          refine lv_iload C.1 C.2.1 dX10_sampleOf_78 (lv_at hl 3 rfl) ?_
          refine lv_iconst (v := 0) C.1 C.2.1 dX10_sampleOf_80 (by decide) ?_
          obtain ⟨x81, hc81, hf⟩ := fm_bd hf
          refine fm_callV C E [.int _, .int _] [.int _] lm_X10_160 wk_X10_ofSource (c_Model_ofSource l G _ _ _ _  hc81) hM_0 rfl rfl rfl hl.1 (by simp [Value.category]) ⟨⟨rfl, rfl⟩, by decide, by decide⟩ ⟨by decide, by decide⟩ dX10_sampleOf_81 rfl (fun H locs E => ?_)
          refine W.eq (g2 := F0 m 84 ls (.int x81 :: [.int _])) rfl ?_
          refine lv_aload_n C.1 C.2.1 dX10_sampleOf_84 rfl (lv_at hl 0 rfl) ?_
          refine fm_geti C E lf_X10_31 hM_0 rfl dX10_sampleOf_85 ?_
          refine lv_icmp_eq (tgt := 95) C.1 C.2.1 dX10_sampleOf_88 (by decide) (fun hc88 => ?_) (fun hc88 => ?_)
          · have hf := fm_ip hf hc88
            exact J95 _ _ _ _ _ E (lv_sub hl [0, 1, 2, 3] rfl) hf
          · have hf := fm_in' hf hc88
            refine lv_iconst (v := 0) C.1 C.2.1 dX10_sampleOf_91 (by decide) ?_
            refine lv_goto (tgt := 108) C.1 C.2.1 dX10_sampleOf_92 (by decide) ?_
            refine lv_iadd C.1 C.2.1 dX10_sampleOf_108 ?_
            refine lv_istore_n (lv' := [(3, .int _), (0, .ref _), (1, .int _), (2, .int _), (4, .int _)]) C.1 C.2.1 dX10_sampleOf_109 rfl hl (by decide) rfl (fun ls hl => ?_)
            refine fm_iinc C (v := 1) (lv' := [(4, .int _), (3, .int _), (0, .ref _), (1, .int _), (2, .int _)]) (k := 4) hl rfl (by decide) (by decide) rfl dX10_sampleOf_110 (fun ls hl => ?_)
            refine lv_goto (tgt := 28) C.1 C.2.1 dX10_sampleOf_113 (by decide) ?_
            exact ih28 _ _ _ _ _ E (lv_sub hl [2, 3, 4, 1, 0] rfl) hf
      intro v3 v4 H locs ls E hl hf
      have hf : pModel_sampleOf_L28b N M w28_v1 w28_v2 (fm_lp (pModel_sampleOf_L28 N M w28_v1 w28_v2) n28) v3 v4 = some r := hf
      unfold pModel_sampleOf_L28b at hf
      refine lv_iload C.1 C.2.1 dX10_sampleOf_28 (lv_at hl 4 rfl) ?_
      refine lv_aload_n C.1 C.2.1 dX10_sampleOf_30 rfl (lv_at hl 0 rfl) ?_
      refine fm_getr C E lf_X10_9 hM_0 rfl dX10_sampleOf_31 ?_
      refine lv_bipush (v := 40) C.1 C.2.1 dX10_sampleOf_34 (by decide) ?_
      refine fm_ialdc C E 40 (by decide) hM_1 (by decide) dX10_sampleOf_36 ?_
      refine lv_icmp_ge (tgt := 116) C.1 C.2.1 dX10_sampleOf_37 (by decide) (fun hc37 => ?_) (fun hc37 => ?_)
      · have hf := fm_ip hf hc37
        refine lv_iload_n C.1 C.2.1 dX10_sampleOf_116 rfl (lv_at hl 3 rfl) ?_
        refine lv_aload_n C.1 C.2.1 dX10_sampleOf_117 rfl (lv_at hl 0 rfl) ?_
        refine lv_iload_n C.1 C.2.1 dX10_sampleOf_118 rfl (lv_at hl 1 rfl) ?_
        refine lv_iconst (v := 1) C.1 C.2.1 dX10_sampleOf_119 (by decide) ?_
        obtain ⟨x120, hc120, hf⟩ := fm_bd hf
        refine fm_callV C E [.int _, .int _] [.int _] lm_X10_150 wk_X10_of (c_Model_of l G _ _ _ _  hc120) hM_0 rfl rfl rfl hl.1 (by simp [Value.category]) ⟨⟨rfl, rfl⟩, by decide, by decide⟩ ⟨by decide, by decide⟩ dX10_sampleOf_120 rfl (fun H locs E => ?_)
        refine W.eq (g2 := F0 m 123 ls (.int x120 :: [.int _])) rfl ?_
        refine lv_imul C.1 C.2.1 dX10_sampleOf_123 ?_
        refine lv_bipush (v := 100) C.1 C.2.1 dX10_sampleOf_124 (by decide) ?_
        refine lv_idiv C.1 C.2.1 dX10_sampleOf_126 (by decide) ?_
        refine lv_istore (lv' := [(4, .int _), (0, .ref _), (1, .int _), (2, .int _), (3, .int _)]) C.1 C.2.1 dX10_sampleOf_127 hl (by decide) rfl (fun ls hl => ?_)
        refine lv_aload_n C.1 C.2.1 dX10_sampleOf_129 rfl (lv_at hl 1 rfl) ?_
        refine fm_getr C E lf_X10_9 hM_0 rfl dX10_sampleOf_130 ?_
        refine lv_bipush (v := 37) C.1 C.2.1 dX10_sampleOf_133 (by decide) ?_
        refine fm_ialdc C E 37 (by decide) hM_1 (by decide) dX10_sampleOf_135 ?_
        refine lv_ineg C.1 C.2.1 dX10_sampleOf_136 ?_
        refine lv_aload_n C.1 C.2.1 dX10_sampleOf_137 rfl (lv_at hl 1 rfl) ?_
        refine fm_getr C E lf_X10_9 hM_0 rfl dX10_sampleOf_138 ?_
        refine lv_bipush (v := 37) C.1 C.2.1 dX10_sampleOf_141 (by decide) ?_
        refine fm_ialdc C E 37 (by decide) hM_1 (by decide) dX10_sampleOf_143 ?_
        refine lv_iload C.1 C.2.1 dX10_sampleOf_144 (lv_at hl 0 rfl) ?_
        refine fm_min C wv_min wm_1283 hl.1 ⟨by decide, by decide⟩ (by simp [Value.category]) ⟨by decide, by decide⟩ dX10_sampleOf_146 ?_
        refine fm_max C wv_max wm_1284 hl.1 ⟨by decide, by decide⟩ (by simp [Value.category]) ⟨by decide, by decide⟩ dX10_sampleOf_149 ?_
        obtain rfl := fm_rt1 hf
        exact fm_iret C E rfl rfl dX10_sampleOf_152
      · have hf := fm_in' hf hc37
        refine lv_iload_n C.1 C.2.1 dX10_sampleOf_40 rfl (lv_at hl 3 rfl) ?_
        refine lv_iload C.1 C.2.1 dX10_sampleOf_41 (lv_at hl 4 rfl) ?_
        refine lv_aload_n C.1 C.2.1 dX10_sampleOf_43 rfl (lv_at hl 0 rfl) ?_
        refine fm_geti C E lf_X10_27 hM_0 rfl dX10_sampleOf_44 ?_
        refine lv_icmp_eq (tgt := 91) C.1 C.2.1 dX10_sampleOf_47 (by decide) (fun hc47 => ?_) (fun hc47 => ?_)
        · have hf := fm_ip hf hc47
          refine lv_iconst (v := 0) C.1 C.2.1 dX10_sampleOf_91 (by decide) ?_
          refine lv_goto (tgt := 108) C.1 C.2.1 dX10_sampleOf_92 (by decide) ?_
          refine lv_iadd C.1 C.2.1 dX10_sampleOf_108 ?_
          refine lv_istore_n (lv' := [(3, .int _), (0, .ref _), (1, .int _), (2, .int _), (4, .int _)]) C.1 C.2.1 dX10_sampleOf_109 rfl hl (by decide) rfl (fun ls hl => ?_)
          refine fm_iinc C (v := 1) (lv' := [(4, .int _), (3, .int _), (0, .ref _), (1, .int _), (2, .int _)]) (k := 4) hl rfl (by decide) (by decide) rfl dX10_sampleOf_110 (fun ls hl => ?_)
          refine lv_goto (tgt := 28) C.1 C.2.1 dX10_sampleOf_113 (by decide) ?_
          exact ih28 _ _ _ _ _ E (lv_sub hl [2, 3, 4, 1, 0] rfl) hf
        · have hf := fm_in' hf hc47
          refine lv_aload_n C.1 C.2.1 dX10_sampleOf_50 rfl (lv_at hl 0 rfl) ?_
          refine fm_geti C E lf_X10_34 hM_0 rfl dX10_sampleOf_51 ?_
          refine lv_iconst (v := (-1)) C.1 C.2.1 dX10_sampleOf_54 (by decide) ?_
          refine lv_icmp_eq (tgt := 67) C.1 C.2.1 dX10_sampleOf_55 (by decide) (fun hc55 => ?_) (fun hc55 => ?_)
          · have hf := fm_ip hf hc55
            exact J67 _ _ _ _ _ E (lv_sub hl [0, 1, 2, 4] rfl) hf
          · have hf := fm_in' hf hc55
            refine lv_iload C.1 C.2.1 dX10_sampleOf_58 (lv_at hl 4 rfl) ?_
            refine lv_aload_n C.1 C.2.1 dX10_sampleOf_60 rfl (lv_at hl 0 rfl) ?_
            refine fm_geti C E lf_X10_34 hM_0 rfl dX10_sampleOf_61 ?_
            refine lv_icmp_ne (tgt := 91) C.1 C.2.1 dX10_sampleOf_64 (by decide) (fun hc64 => ?_) (fun hc64 => ?_)
            · have hf := fm_in' hf hc64
              refine lv_iconst (v := 0) C.1 C.2.1 dX10_sampleOf_91 (by decide) ?_
              refine lv_goto (tgt := 108) C.1 C.2.1 dX10_sampleOf_92 (by decide) ?_
              refine lv_iadd C.1 C.2.1 dX10_sampleOf_108 ?_
              refine lv_istore_n (lv' := [(3, .int _), (0, .ref _), (1, .int _), (2, .int _), (4, .int _)]) C.1 C.2.1 dX10_sampleOf_109 rfl hl (by decide) rfl (fun ls hl => ?_)
              refine fm_iinc C (v := 1) (lv' := [(4, .int _), (3, .int _), (0, .ref _), (1, .int _), (2, .int _)]) (k := 4) hl rfl (by decide) (by decide) rfl dX10_sampleOf_110 (fun ls hl => ?_)
              refine lv_goto (tgt := 28) C.1 C.2.1 dX10_sampleOf_113 (by decide) ?_
              exact ih28 _ _ _ _ _ E (lv_sub hl [2, 3, 4, 1, 0] rfl) hf
            · have hf := fm_ip hf hc64
              exact J67 _ _ _ _ _ E (lv_sub hl [0, 1, 2, 4] rfl) hf
  unfold pModel_sampleOf at hf
  refine lv_aload_n C.1 C.2.1 dX10_sampleOf_0 rfl (lv_at hl 0 rfl) ?_
  refine lv_iload_n C.1 C.2.1 dX10_sampleOf_1 rfl (lv_at hl 1 rfl) ?_
  refine lv_iconst (v := 4) C.1 C.2.1 dX10_sampleOf_2 (by decide) ?_
  obtain ⟨x3, hc3, hf⟩ := fm_bd hf
  refine fm_callV C E [.int _, .int _] [] lm_X10_150 wk_X10_of (c_Model_of l G _ _ _ _  hc3) hM_0 rfl rfl rfl hl.1 (by simp [Value.category]) ⟨⟨rfl, rfl⟩, by decide, by decide⟩ ⟨by decide, by decide⟩ dX10_sampleOf_3 rfl (fun H locs E => ?_)
  refine W.eq (g2 := F0 m 6 ls (.int x3 :: [])) rfl ?_
  refine lv_iconst (v := 1) C.1 C.2.1 dX10_sampleOf_6 (by decide) ?_
  refine lv_icmp_ne (tgt := 12) C.1 C.2.1 dX10_sampleOf_7 (by decide) (fun hc7 => ?_) (fun hc7 => ?_)
  · have hf := fm_in' hf hc7
    refine lv_aload_n C.1 C.2.1 dX10_sampleOf_12 rfl (lv_at hl 0 rfl) ?_
    refine lv_iload_n C.1 C.2.1 dX10_sampleOf_13 rfl (lv_at hl 1 rfl) ?_
    refine lv_iconst (v := 2) C.1 C.2.1 dX10_sampleOf_14 (by decide) ?_
    obtain ⟨x15, hc15, hf⟩ := fm_bd hf
    refine fm_callV C E [.int _, .int _] [] lm_X10_150 wk_X10_of (c_Model_of l G _ _ _ _  hc15) hM_0 rfl rfl rfl hl.1 (by simp [Value.category]) ⟨⟨rfl, rfl⟩, by decide, by decide⟩ ⟨by decide, by decide⟩ dX10_sampleOf_15 rfl (fun H locs E => ?_)
    refine W.eq (g2 := F0 m 18 ls (.int x15 :: [])) rfl ?_
    refine lv_iload_n C.1 C.2.1 dX10_sampleOf_18 rfl (lv_at hl 1 rfl) ?_
    refine lv_iload_n C.1 C.2.1 dX10_sampleOf_19 rfl (lv_at hl 2 rfl) ?_
    obtain ⟨x20, hc20, hf⟩ := fm_bd hf
    refine fm_callS C E [.int _, .int _] [.int _] lm_X10_169 wk_X10_gust (c_Model_gust l G _ _ _ _  hc20) rfl hl.1 (by simp [Value.category]) ⟨⟨rfl, rfl⟩, by decide, by decide⟩ ⟨by decide, by decide⟩ dX10_sampleOf_20 rfl (fun H locs E => ?_)
    refine W.eq (g2 := F0 m 23 ls (.int x20 :: [.int _])) rfl ?_
    refine lv_imul C.1 C.2.1 dX10_sampleOf_23 ?_
    refine lv_istore_n (lv' := [(3, .int _), (0, .ref _), (1, .int _), (2, .int _)]) C.1 C.2.1 dX10_sampleOf_24 rfl hl (by decide) rfl (fun ls hl => ?_)
    refine lv_iconst (v := 0) C.1 C.2.1 dX10_sampleOf_25 (by decide) ?_
    refine lv_istore (lv' := [(4, .int _), (3, .int _), (0, .ref _), (1, .int _), (2, .int _)]) C.1 C.2.1 dX10_sampleOf_26 hl (by decide) rfl (fun ls hl => ?_)
    exact L28 _ _ N _ _ _ _ _ E (lv_sub hl [2, 3, 4, 1, 0] rfl) hf
  · have hf := fm_ip hf hc7
    refine lv_iconst (v := 0) C.1 C.2.1 dX10_sampleOf_10 (by decide) ?_
    obtain rfl := fm_rt1 hf
    exact fm_iret C E rfl rfl dX10_sampleOf_11
theorem dX10_hear_0 : decode cX10_hear 0 = .ok (.iconst 0, 1) := by decide +kernel
theorem dX10_hear_1 : decode cX10_hear 1 = .ok (.istore_n 1, 1) := by decide +kernel
theorem dX10_hear_2 : decode cX10_hear 2 = .ok (.iload_n 1, 1) := by decide +kernel
theorem dX10_hear_3 : decode cX10_hear 3 = .ok (.aload_n 0, 1) := by decide +kernel
theorem dX10_hear_4 : decode cX10_hear 4 = .ok (.getfield 9, 3) := by decide +kernel
theorem dX10_hear_7 : decode cX10_hear 7 = .ok (.iconst 0, 1) := by decide +kernel
theorem dX10_hear_8 : decode cX10_hear 8 = .ok (.iaload, 1) := by decide +kernel
theorem dX10_hear_9 : decode cX10_hear 9 = .ok (.if_icmp .ge 48, 3) := by decide +kernel
theorem dX10_hear_12 : decode cX10_hear 12 = .ok (.sipush (-300), 3) := by decide +kernel
theorem dX10_hear_15 : decode cX10_hear 15 = .ok (.istore_n 2, 1) := by decide +kernel
theorem dX10_hear_16 : decode cX10_hear 16 = .ok (.iload_n 2, 1) := by decide +kernel
theorem dX10_hear_17 : decode cX10_hear 17 = .ok (.sipush 300, 3) := by decide +kernel
theorem dX10_hear_20 : decode cX10_hear 20 = .ok (.if_icmp .gt 31, 3) := by decide +kernel
theorem dX10_hear_23 : decode cX10_hear 23 = .ok (.aload_n 0, 1) := by decide +kernel
theorem dX10_hear_24 : decode cX10_hear 24 = .ok (.getfield 24, 3) := by decide +kernel
theorem dX10_hear_27 : decode cX10_hear 27 = .ok (.sipush 601, 3) := by decide +kernel
theorem dX10_hear_30 : decode cX10_hear 30 = .ok (.iload_n 1, 1) := by decide +kernel
theorem dX10_hear_31 : decode cX10_hear 31 = .ok (.imul, 1) := by decide +kernel
theorem dX10_hear_32 : decode cX10_hear 32 = .ok (.iload_n 2, 1) := by decide +kernel
theorem dX10_hear_33 : decode cX10_hear 33 = .ok (.iadd, 1) := by decide +kernel
theorem dX10_hear_34 : decode cX10_hear 34 = .ok (.sipush 300, 3) := by decide +kernel
theorem dX10_hear_37 : decode cX10_hear 37 = .ok (.iadd, 1) := by decide +kernel
theorem dX10_hear_38 : decode cX10_hear 38 = .ok (.aload_n 0, 1) := by decide +kernel
theorem dX10_hear_39 : decode cX10_hear 39 = .ok (.iload_n 1, 1) := by decide +kernel
theorem dX10_hear_40 : decode cX10_hear 40 = .ok (.iload_n 2, 1) := by decide +kernel
theorem dX10_hear_41 : decode cX10_hear 41 = .ok (.invokevirtual 176, 3) := by decide +kernel
theorem dX10_hear_44 : decode cX10_hear 44 = .ok (.iastore, 1) := by decide +kernel
theorem dX10_hear_45 : decode cX10_hear 45 = .ok (.iinc 2 1, 3) := by decide +kernel
theorem dX10_hear_48 : decode cX10_hear 48 = .ok (.goto (-32), 3) := by decide +kernel
theorem dX10_hear_51 : decode cX10_hear 51 = .ok (.iinc 1 1, 3) := by decide +kernel
theorem dX10_hear_54 : decode cX10_hear 54 = .ok (.goto (-52), 3) := by decide +kernel
theorem dX10_hear_57 : decode cX10_hear 57 = .ok (.return_, 1) := by decide +kernel
set_option maxHeartbeats 4000000 in
set_option maxRecDepth 100000 in
theorem c_Model_hear (l : Launch) (G : fm_G) (N : Nat) (M : fm_M) (M' : fm_M) (hf : pModel_hear N M = some M') : fm_Met l yX10_hear cX10_hear 3 none { frames := 4, cells := 0, slots := 0, locals := 93 } shM G [.ref (G.2.1 0)] M none M' := by
  refine fm_enter (by decide) (Nat.le_of_ble_eq_true rfl) ?_
  intro p e s m args below meth c ls C E hl
  have hl : lv_has ls 3 [(0, .ref (G.2.1 0))] := hl
  have L2 : ∀ (n2 : Nat) (v1 : Int32) (M : fm_M) (H : Heap) (locs : List Loc) (ls : Array Slot), fm_Wd shM G M s H locs → lv_has ls 3 [(0, .ref (G.2.1 0)), (1, .int v1)] → fm_lp (pModel_hear_L2 N) n2 (v1, M) = some M' → W p l e { frames := 4, cells := 0, slots := 0, locals := 93 } s m args below meth c H locs 0 0 (fm_Z below shM G args s none M') (F0 m 2 ls []) := by
    intro  n2
    induction n2 with
    | zero => intro v1 M H locs ls E hl hf; exact fm_lp_0 hf
    | succ n2 ih2 =>
      have L16 : ∀ (w16_v1 : Int32) (n16 : Nat) (v2 : Int32) (M : fm_M) (H : Heap) (locs : List Loc) (ls : Array Slot), fm_Wd shM G M s H locs → lv_has ls 3 [(0, .ref (G.2.1 0)), (1, .int w16_v1), (2, .int v2)] → fm_lp (pModel_hear_L16 N w16_v1 (fm_lp (pModel_hear_L2 N) n2)) n16 (v2, M) = some M' → W p l e { frames := 4, cells := 0, slots := 0, locals := 93 } s m args below meth c H locs 0 0 (fm_Z below shM G args s none M') (F0 m 16 ls []) := by
        intro w16_v1 n16
        induction n16 with
        | zero => intro v2 M H locs ls E hl hf; exact fm_lp_0 hf
        | succ n16 ih16 =>
          intro v2 M H locs ls E hl hf
          have hf : pModel_hear_L16b N w16_v1 (fm_lp (pModel_hear_L2 N) n2) (fm_lp (pModel_hear_L16 N w16_v1 (fm_lp (pModel_hear_L2 N) n2)) n16) v2 M = some M' := hf
          unfold pModel_hear_L16b at hf
          refine lv_iload_n C.1 C.2.1 dX10_hear_16 rfl (lv_at hl 2 rfl) ?_
          refine lv_sipush (v := 300) C.1 C.2.1 dX10_hear_17 (by decide) ?_
          refine lv_icmp_gt (tgt := 51) C.1 C.2.1 dX10_hear_20 (by decide) (fun hc20 => ?_) (fun hc20 => ?_)
          · have hf := fm_ip hf hc20
            refine fm_iinc C (v := 1) (lv' := [(1, .int _), (0, .ref _), (2, .int _)]) (k := 1) hl rfl (by decide) (by decide) rfl dX10_hear_51 (fun ls hl => ?_)
            refine lv_goto (tgt := 2) C.1 C.2.1 dX10_hear_54 (by decide) ?_
            exact ih2 _ _ _ _ _ E (lv_sub hl [1, 0] rfl) hf
          · have hf := fm_in' hf hc20
            refine lv_aload_n C.1 C.2.1 dX10_hear_23 rfl (lv_at hl 0 rfl) ?_
            refine fm_getr C E lf_X10_24 hM_0 rfl dX10_hear_24 ?_
            refine lv_sipush (v := 601) C.1 C.2.1 dX10_hear_27 (by decide) ?_
            refine lv_iload_n C.1 C.2.1 dX10_hear_30 rfl (lv_at hl 1 rfl) ?_
            refine lv_imul C.1 C.2.1 dX10_hear_31 ?_
            refine lv_iload_n C.1 C.2.1 dX10_hear_32 rfl (lv_at hl 2 rfl) ?_
            refine lv_iadd C.1 C.2.1 dX10_hear_33 ?_
            refine lv_sipush (v := 300) C.1 C.2.1 dX10_hear_34 (by decide) ?_
            refine lv_iadd C.1 C.2.1 dX10_hear_37 ?_
            refine lv_aload_n C.1 C.2.1 dX10_hear_38 rfl (lv_at hl 0 rfl) ?_
            refine lv_iload_n C.1 C.2.1 dX10_hear_39 rfl (lv_at hl 1 rfl) ?_
            refine lv_iload_n C.1 C.2.1 dX10_hear_40 rfl (lv_at hl 2 rfl) ?_
            obtain ⟨x41, hc41, hf⟩ := fm_bd hf
            refine fm_callV C E [.int _, .int _] [.int _, .ref _] lm_X10_176 wk_X10_sampleOf (c_Model_sampleOf l G N _ _ _ _  hc41) hM_0 rfl rfl rfl hl.1 (by simp [Value.category]) ⟨⟨rfl, rfl⟩, by decide, by decide⟩ ⟨by decide, by decide⟩ dX10_hear_41 rfl (fun H locs E => ?_)
            refine W.eq (g2 := F0 m 44 ls (.int x41 :: [.int _, .ref _])) rfl ?_
            obtain ⟨h44, M44, e44, hf⟩ := fm_st_e hf
            refine fm_iast' C E e44 hM_5 h44 dX10_hear_44 (fun H locs E => ?_)
            refine fm_iinc C (v := 1) (lv' := [(2, .int _), (0, .ref _), (1, .int _)]) (k := 2) hl rfl (by decide) (by decide) rfl dX10_hear_45 (fun ls hl => ?_)
            refine lv_goto (tgt := 16) C.1 C.2.1 dX10_hear_48 (by decide) ?_
            exact ih16 _ _ _ _ _ E (lv_sub hl [1, 2, 0] rfl) hf
      intro v1 M H locs ls E hl hf
      have hf : pModel_hear_L2b N (fm_lp (pModel_hear_L2 N) n2) v1 M = some M' := hf
      unfold pModel_hear_L2b at hf
      refine lv_iload_n C.1 C.2.1 dX10_hear_2 rfl (lv_at hl 1 rfl) ?_
      refine lv_aload_n C.1 C.2.1 dX10_hear_3 rfl (lv_at hl 0 rfl) ?_
      refine fm_getr C E lf_X10_9 hM_0 rfl dX10_hear_4 ?_
      refine lv_iconst (v := 0) C.1 C.2.1 dX10_hear_7 (by decide) ?_
      refine fm_ialdc C E 0 (by decide) hM_1 (by decide) dX10_hear_8 ?_
      refine lv_icmp_ge (tgt := 57) C.1 C.2.1 dX10_hear_9 (by decide) (fun hc9 => ?_) (fun hc9 => ?_)
      · have hf := fm_ip hf hc9
        obtain rfl := fm_rt1 hf
        exact fm_vret C E rfl dX10_hear_57
      · have hf := fm_in' hf hc9
        refine lv_sipush (v := (-300)) C.1 C.2.1 dX10_hear_12 (by decide) ?_
        refine lv_istore_n (lv' := [(2, .int _), (0, .ref _), (1, .int _)]) C.1 C.2.1 dX10_hear_15 rfl hl (by decide) rfl (fun ls hl => ?_)
        exact L16 _ N _ _ _ _ _ E (lv_sub hl [1, 2, 0] rfl) hf
  unfold pModel_hear at hf
  refine lv_iconst (v := 0) C.1 C.2.1 dX10_hear_0 (by decide) ?_
  refine lv_istore_n (lv' := [(1, .int _), (0, .ref _)]) C.1 C.2.1 dX10_hear_1 rfl hl (by decide) rfl (fun ls hl => ?_)
  exact L2  N _ _ _ _ _ E (lv_sub hl [1, 0] rfl) hf
