theorem dX0_bestWeight_0 : decode cX0_bestWeight 0 = .ok (.aload_n 0, 1) := by decide +kernel
theorem dX0_bestWeight_1 : decode cX0_bestWeight 1 = .ok (.iload_n 1, 1) := by decide +kernel
theorem dX0_bestWeight_2 : decode cX0_bestWeight 2 = .ok (.iload_n 2, 1) := by decide +kernel
theorem dX0_bestWeight_3 : decode cX0_bestWeight 3 = .ok (.ldc2_w 95, 3) := by decide +kernel
theorem dX0_bestWeight_6 : decode cX0_bestWeight 6 = .ok (.invokevirtual 97, 3) := by decide +kernel
theorem dX0_bestWeight_9 : decode cX0_bestWeight 9 = .ok (.aload_n 0, 1) := by decide +kernel
theorem dX0_bestWeight_10 : decode cX0_bestWeight 10 = .ok (.getfield 35, 3) := by decide +kernel
theorem dX0_bestWeight_13 : decode cX0_bestWeight 13 = .ok (.i2l, 1) := by decide +kernel
theorem dX0_bestWeight_14 : decode cX0_bestWeight 14 = .ok (.ldiv, 1) := by decide +kernel
theorem dX0_bestWeight_15 : decode cX0_bestWeight 15 = .ok (.lconst 1, 1) := by decide +kernel
theorem dX0_bestWeight_16 : decode cX0_bestWeight 16 = .ok (.ladd, 1) := by decide +kernel
theorem dX0_bestWeight_17 : decode cX0_bestWeight 17 = .ok (.aload_n 0, 1) := by decide +kernel
theorem dX0_bestWeight_18 : decode cX0_bestWeight 18 = .ok (.getfield 35, 3) := by decide +kernel
theorem dX0_bestWeight_21 : decode cX0_bestWeight 21 = .ok (.i2l, 1) := by decide +kernel
theorem dX0_bestWeight_22 : decode cX0_bestWeight 22 = .ok (.lmul, 1) := by decide +kernel
theorem dX0_bestWeight_23 : decode cX0_bestWeight 23 = .ok (.lstore_n 3, 1) := by decide +kernel
theorem dX0_bestWeight_24 : decode cX0_bestWeight 24 = .ok (.iload_n 2, 1) := by decide +kernel
theorem dX0_bestWeight_25 : decode cX0_bestWeight 25 = .ok (.istore 5, 2) := by decide +kernel
theorem dX0_bestWeight_27 : decode cX0_bestWeight 27 = .ok (.iconst 0, 1) := by decide +kernel
theorem dX0_bestWeight_28 : decode cX0_bestWeight 28 = .ok (.istore 6, 2) := by decide +kernel
theorem dX0_bestWeight_30 : decode cX0_bestWeight 30 = .ok (.iload 6, 2) := by decide +kernel
theorem dX0_bestWeight_32 : decode cX0_bestWeight 32 = .ok (.bipush 33, 2) := by decide +kernel
theorem dX0_bestWeight_34 : decode cX0_bestWeight 34 = .ok (.if_icmp .ge 52, 3) := by decide +kernel
theorem dX0_bestWeight_37 : decode cX0_bestWeight 37 = .ok (.iload 6, 2) := by decide +kernel
theorem dX0_bestWeight_39 : decode cX0_bestWeight 39 = .ok (.invokestatic 101, 3) := by decide +kernel
theorem dX0_bestWeight_42 : decode cX0_bestWeight 42 = .ok (.istore 7, 2) := by decide +kernel
theorem dX0_bestWeight_44 : decode cX0_bestWeight 44 = .ok (.aload_n 0, 1) := by decide +kernel
theorem dX0_bestWeight_45 : decode cX0_bestWeight 45 = .ok (.iload_n 1, 1) := by decide +kernel
theorem dX0_bestWeight_46 : decode cX0_bestWeight 46 = .ok (.iload 7, 2) := by decide +kernel
theorem dX0_bestWeight_48 : decode cX0_bestWeight 48 = .ok (.lload_n 3, 1) := by decide +kernel
theorem dX0_bestWeight_49 : decode cX0_bestWeight 49 = .ok (.invokevirtual 97, 3) := by decide +kernel
theorem dX0_bestWeight_52 : decode cX0_bestWeight 52 = .ok (.lstore 8, 2) := by decide +kernel
theorem dX0_bestWeight_54 : decode cX0_bestWeight 54 = .ok (.lload 8, 2) := by decide +kernel
theorem dX0_bestWeight_56 : decode cX0_bestWeight 56 = .ok (.lload_n 3, 1) := by decide +kernel
theorem dX0_bestWeight_57 : decode cX0_bestWeight 57 = .ok (.lcmp, 1) := by decide +kernel
theorem dX0_bestWeight_58 : decode cX0_bestWeight 58 = .ok (.ifCond .ge 22, 3) := by decide +kernel
theorem dX0_bestWeight_61 : decode cX0_bestWeight 61 = .ok (.lload 8, 2) := by decide +kernel
theorem dX0_bestWeight_63 : decode cX0_bestWeight 63 = .ok (.aload_n 0, 1) := by decide +kernel
theorem dX0_bestWeight_64 : decode cX0_bestWeight 64 = .ok (.getfield 35, 3) := by decide +kernel
theorem dX0_bestWeight_67 : decode cX0_bestWeight 67 = .ok (.i2l, 1) := by decide +kernel
theorem dX0_bestWeight_68 : decode cX0_bestWeight 68 = .ok (.ldiv, 1) := by decide +kernel
theorem dX0_bestWeight_69 : decode cX0_bestWeight 69 = .ok (.aload_n 0, 1) := by decide +kernel
theorem dX0_bestWeight_70 : decode cX0_bestWeight 70 = .ok (.getfield 35, 3) := by decide +kernel
theorem dX0_bestWeight_73 : decode cX0_bestWeight 73 = .ok (.i2l, 1) := by decide +kernel
theorem dX0_bestWeight_74 : decode cX0_bestWeight 74 = .ok (.lmul, 1) := by decide +kernel
theorem dX0_bestWeight_75 : decode cX0_bestWeight 75 = .ok (.lstore_n 3, 1) := by decide +kernel
theorem dX0_bestWeight_76 : decode cX0_bestWeight 76 = .ok (.iload 7, 2) := by decide +kernel
theorem dX0_bestWeight_78 : decode cX0_bestWeight 78 = .ok (.istore 5, 2) := by decide +kernel
theorem dX0_bestWeight_80 : decode cX0_bestWeight 80 = .ok (.iinc 6 1, 3) := by decide +kernel
theorem dX0_bestWeight_83 : decode cX0_bestWeight 83 = .ok (.goto (-53), 3) := by decide +kernel
theorem dX0_bestWeight_86 : decode cX0_bestWeight 86 = .ok (.iload 5, 2) := by decide +kernel
theorem dX0_bestWeight_88 : decode cX0_bestWeight 88 = .ok (.ireturn, 1) := by decide +kernel
set_option maxHeartbeats 4000000 in
set_option maxRecDepth 100000 in
theorem c_Bench_bestWeight (l : Launch) (G : fm_G) (N : Nat) (M : fm_M) (v1 : Int32) (v2 : Int32) (r : Int32) (hf : pBench_bestWeight N M v1 v2 = some r) : fm_Met l yX0_bestWeight cX0_bestWeight 10 (some .int) { frames := 1, cells := 0, slots := 0, locals := 29 } shC G [.ref (G.2.1 181), .int v1, .int v2] M (some (.int r)) M := by
  refine fm_enter (by decide) (Nat.le_of_ble_eq_true rfl) ?_
  intro p e s m args below meth c ls C E hl
  have hl : lv_has ls 10 [(0, .ref (G.2.1 181)), (1, .int v1), (2, .int v2)] := hl
  have L30 : ∀ (w30_v1 : Int32) (n30 : Nat) (v3 : Int64) (v5 : Int32) (v6 : Int32) (H : Heap) (locs : List Loc) (ls : Array Slot), fm_Wd shC G M s H locs → lv_has ls 10 [(0, .ref (G.2.1 181)), (1, .int w30_v1), (3, .long v3), (5, .int v5), (6, .int v6)] → fm_lp (pBench_bestWeight_L30 N M w30_v1) n30 (v3, v5, v6) = some r → W p l e { frames := 1, cells := 0, slots := 0, locals := 29 } s m args below meth c H locs 0 0 (fm_Z below shC G args s (some (.int r)) M) (F0 m 30 ls []) := by
    intro w30_v1 n30
    induction n30 with
    | zero => intro v3 v5 v6 H locs ls E hl hf; exact fm_lp_0 hf
    | succ n30 ih30 =>
      intro v3 v5 v6 H locs ls E hl hf
      have hf : pBench_bestWeight_L30b N M w30_v1 (fm_lp (pBench_bestWeight_L30 N M w30_v1) n30) v3 v5 v6 = some r := hf
      unfold pBench_bestWeight_L30b at hf
      refine lv_iload C.1 C.2.1 dX0_bestWeight_30 (lv_at hl 4 rfl) ?_
      refine lv_bipush (v := 33) C.1 C.2.1 dX0_bestWeight_32 (by decide) ?_
      refine lv_icmp_ge (tgt := 86) C.1 C.2.1 dX0_bestWeight_34 (by decide) (fun hc34 => ?_) (fun hc34 => ?_)
      · have hf := fm_ip hf hc34
        refine lv_iload C.1 C.2.1 dX0_bestWeight_86 (lv_at hl 3 rfl) ?_
        obtain rfl := fm_rt1 hf
        exact fm_iret C E rfl rfl dX0_bestWeight_88
      · have hf := fm_in' hf hc34
        refine lv_iload C.1 C.2.1 dX0_bestWeight_37 (lv_at hl 4 rfl) ?_
        obtain ⟨x39, hc39, hf⟩ := fm_bd hf
        refine fm_callS C E [.int _] [] lm_X0_101 wk_X9_bySize (c_MicRow_bySize l G _ _ _  hc39) rfl hl.1 (by simp [Value.category]) ⟨⟨rfl, rfl⟩, by decide, by decide⟩ ⟨by decide, by decide⟩ dX0_bestWeight_39 rfl (fun H locs E => ?_)
        refine W.eq (g2 := F0 m 42 ls (.int x39 :: [])) rfl ?_
        refine lv_istore (lv' := [(7, .int _), (0, .ref _), (1, .int _), (3, .long _), (5, .int _), (6, .int _)]) C.1 C.2.1 dX0_bestWeight_42 hl (by decide) rfl (fun ls hl => ?_)
        refine lv_aload_n C.1 C.2.1 dX0_bestWeight_44 rfl (lv_at hl 1 rfl) ?_
        refine lv_iload_n C.1 C.2.1 dX0_bestWeight_45 rfl (lv_at hl 2 rfl) ?_
        refine lv_iload C.1 C.2.1 dX0_bestWeight_46 (lv_at hl 0 rfl) ?_
        refine lv_lload_n C.1 C.2.1 dX0_bestWeight_48 rfl (lv_at hl 3 rfl) ?_
        obtain ⟨x49, hc49, hf⟩ := fm_bd hf
        refine fm_callV C E [.int _, .int _, .long _] [] lm_X0_97 wk_X0_squares (c_Bench_squares l G N _ _ _ _ _  hc49) hC_181 rfl rfl rfl hl.1 (by simp [Value.category]) ⟨⟨rfl, rfl⟩, by decide, by decide⟩ ⟨by decide, by decide⟩ dX0_bestWeight_49 rfl (fun H locs E => ?_)
        refine W.eq (g2 := F0 m 52 ls (.long x49 :: [])) rfl ?_
        refine lv_lstore (lv' := [(8, .long _), (7, .int _), (0, .ref _), (1, .int _), (3, .long _), (5, .int _), (6, .int _)]) C.1 C.2.1 dX0_bestWeight_52 hl (by decide) rfl (fun ls hl => ?_)
        refine lv_lload C.1 C.2.1 dX0_bestWeight_54 (lv_at hl 0 rfl) ?_
        refine lv_lload_n C.1 C.2.1 dX0_bestWeight_56 rfl (lv_at hl 4 rfl) ?_
        refine W.lcmp C.1 C.2.1 dX0_bestWeight_57 ?_
        refine lv_if_ge (tgt := 80) C.1 C.2.1 dX0_bestWeight_58 (by decide) (fun hc58 => ?_) (fun hc58 => ?_)
        · have hf := fm_ip hf hc58
          refine fm_iinc C (v := 1) (lv' := [(6, .int _), (8, .long _), (7, .int _), (0, .ref _), (1, .int _), (3, .long _), (5, .int _)]) (k := 6) hl rfl (by decide) (by decide) rfl dX0_bestWeight_80 (fun ls hl => ?_)
          refine lv_goto (tgt := 30) C.1 C.2.1 dX0_bestWeight_83 (by decide) ?_
          exact ih30 _ _ _ _ _ _ E (lv_sub hl [3, 4, 5, 6, 0] rfl) hf
        · have hf := fm_in' hf hc58
          refine lv_lload C.1 C.2.1 dX0_bestWeight_61 (lv_at hl 0 rfl) ?_
          refine lv_aload_n C.1 C.2.1 dX0_bestWeight_63 rfl (lv_at hl 2 rfl) ?_
          refine fm_geti C E lf_X0_35 hC_181 rfl dX0_bestWeight_64 ?_
          refine lv_i2l C.1 C.2.1 dX0_bestWeight_67 rfl ?_
          obtain ⟨hz68, hf⟩ := fm_nzl_s hf
          refine lv_ldiv C.1 C.2.1 dX0_bestWeight_68 hz68 ?_
          refine lv_aload_n C.1 C.2.1 dX0_bestWeight_69 rfl (lv_at hl 2 rfl) ?_
          refine fm_geti C E lf_X0_35 hC_181 rfl dX0_bestWeight_70 ?_
          refine lv_i2l C.1 C.2.1 dX0_bestWeight_73 rfl ?_
          refine lv_lmul C.1 C.2.1 dX0_bestWeight_74 ?_
          refine lv_lstore_n (lv' := [(3, .long _), (8, .long _), (7, .int _), (0, .ref _), (1, .int _), (5, .int _), (6, .int _)]) C.1 C.2.1 dX0_bestWeight_75 rfl hl (by decide) rfl (fun ls hl => ?_)
          refine lv_iload C.1 C.2.1 dX0_bestWeight_76 (lv_at hl 2 rfl) ?_
          refine lv_istore (lv' := [(5, .int _), (3, .long _), (8, .long _), (7, .int _), (0, .ref _), (1, .int _), (6, .int _)]) C.1 C.2.1 dX0_bestWeight_78 hl (by decide) rfl (fun ls hl => ?_)
          refine fm_iinc C (v := 1) (lv' := [(6, .int _), (5, .int _), (3, .long _), (8, .long _), (7, .int _), (0, .ref _), (1, .int _)]) (k := 6) hl rfl (by decide) (by decide) rfl dX0_bestWeight_80 (fun ls hl => ?_)
          refine lv_goto (tgt := 30) C.1 C.2.1 dX0_bestWeight_83 (by decide) ?_
          exact ih30 _ _ _ _ _ _ E (lv_sub hl [5, 6, 2, 1, 0] rfl) hf
  unfold pBench_bestWeight at hf
  refine lv_aload_n C.1 C.2.1 dX0_bestWeight_0 rfl (lv_at hl 0 rfl) ?_
  refine lv_iload_n C.1 C.2.1 dX0_bestWeight_1 rfl (lv_at hl 1 rfl) ?_
  refine lv_iload_n C.1 C.2.1 dX0_bestWeight_2 rfl (lv_at hl 2 rfl) ?_
  refine lv_ldc2 C.1 C.2.1 C.2.2.2.1 (C.2.2.2.2.1 _ wc_590) dX0_bestWeight_3 ?_
  obtain ⟨x6, hc6, hf⟩ := fm_bd hf
  refine fm_callV C E [.int _, .int _, .long _] [] lm_X0_97 wk_X0_squares (c_Bench_squares l G N _ _ _ _ _  hc6) hC_181 rfl rfl rfl hl.1 (by simp [Value.category]) ⟨⟨rfl, rfl⟩, by decide, by decide⟩ ⟨by decide, by decide⟩ dX0_bestWeight_6 rfl (fun H locs E => ?_)
  refine W.eq (g2 := F0 m 9 ls (.long x6 :: [])) rfl ?_
  refine lv_aload_n C.1 C.2.1 dX0_bestWeight_9 rfl (lv_at hl 0 rfl) ?_
  refine fm_geti C E lf_X0_35 hC_181 rfl dX0_bestWeight_10 ?_
  refine lv_i2l C.1 C.2.1 dX0_bestWeight_13 rfl ?_
  obtain ⟨hz14, hf⟩ := fm_nzl_s hf
  refine lv_ldiv C.1 C.2.1 dX0_bestWeight_14 hz14 ?_
  refine lv_lconst (v := 1) C.1 C.2.1 dX0_bestWeight_15 (by decide) ?_
  refine lv_ladd C.1 C.2.1 dX0_bestWeight_16 ?_
  refine lv_aload_n C.1 C.2.1 dX0_bestWeight_17 rfl (lv_at hl 0 rfl) ?_
  refine fm_geti C E lf_X0_35 hC_181 rfl dX0_bestWeight_18 ?_
  refine lv_i2l C.1 C.2.1 dX0_bestWeight_21 rfl ?_
  refine lv_lmul C.1 C.2.1 dX0_bestWeight_22 ?_
  refine lv_lstore_n (lv' := [(3, .long _), (0, .ref _), (1, .int _), (2, .int _)]) C.1 C.2.1 dX0_bestWeight_23 rfl hl (by decide) rfl (fun ls hl => ?_)
  refine lv_iload_n C.1 C.2.1 dX0_bestWeight_24 rfl (lv_at hl 3 rfl) ?_
  refine lv_istore (lv' := [(5, .int _), (3, .long _), (0, .ref _), (1, .int _), (2, .int _)]) C.1 C.2.1 dX0_bestWeight_25 hl (by decide) rfl (fun ls hl => ?_)
  refine lv_iconst (v := 0) C.1 C.2.1 dX0_bestWeight_27 (by decide) ?_
  refine lv_istore (lv' := [(6, .int _), (5, .int _), (3, .long _), (0, .ref _), (1, .int _), (2, .int _)]) C.1 C.2.1 dX0_bestWeight_28 hl (by decide) rfl (fun ls hl => ?_)
  exact L30 _ N _ _ _ _ _ _ E (lv_sub hl [3, 4, 2, 1, 0] rfl) hf
theorem dX1_agreement_0 : decode cX1_agreement 0 = .ok (.iload_n 1, 1) := by decide +kernel
theorem dX1_agreement_1 : decode cX1_agreement 1 = .ok (.invokestatic 24, 3) := by decide +kernel
theorem dX1_agreement_4 : decode cX1_agreement 4 = .ok (.ifCond .eq 15, 3) := by decide +kernel
theorem dX1_agreement_7 : decode cX1_agreement 7 = .ok (.aload_n 0, 1) := by decide +kernel
theorem dX1_agreement_8 : decode cX1_agreement 8 = .ok (.getfield 16, 3) := by decide +kernel
theorem dX1_agreement_11 : decode cX1_agreement 11 = .ok (.iload_n 1, 1) := by decide +kernel
theorem dX1_agreement_12 : decode cX1_agreement 12 = .ok (.bipush 8, 2) := by decide +kernel
theorem dX1_agreement_14 : decode cX1_agreement 14 = .ok (.iadd, 1) := by decide +kernel
theorem dX1_agreement_15 : decode cX1_agreement 15 = .ok (.iaload, 1) := by decide +kernel
theorem dX1_agreement_16 : decode cX1_agreement 16 = .ok (.goto 4, 3) := by decide +kernel
theorem dX1_agreement_19 : decode cX1_agreement 19 = .ok (.iconst 0, 1) := by decide +kernel
theorem dX1_agreement_20 : decode cX1_agreement 20 = .ok (.ireturn, 1) := by decide +kernel
set_option maxHeartbeats 4000000 in
set_option maxRecDepth 100000 in
theorem c_Compass_agreement (l : Launch) (G : fm_G) (M : fm_M) (v1 : Int32) (r : Int32) (hf : pCompass_agreement M v1 = some r) : fm_Met l yX1_agreement cX1_agreement 2 (some .int) { frames := 2, cells := 0, slots := 0, locals := 42 } shC G [.ref (G.2.1 200), .int v1] M (some (.int r)) M := by
  refine fm_enter (by decide) (Nat.le_of_ble_eq_true rfl) ?_
  intro p e s m args below meth c ls C E hl
  have hl : lv_has ls 2 [(0, .ref (G.2.1 200)), (1, .int v1)] := hl
  unfold pCompass_agreement at hf
  refine lv_iload_n C.1 C.2.1 dX1_agreement_0 rfl (lv_at hl 1 rfl) ?_
  obtain ⟨x1, hc1, hf⟩ := fm_bd hf
  refine fm_callS C E [.int _] [] lm_X1_24 wk_X9_isDirection (c_MicRow_isDirection l G _ _ _  hc1) rfl hl.1 (by simp [Value.category]) ⟨⟨rfl, rfl⟩, by decide, by decide⟩ ⟨by decide, by decide⟩ dX1_agreement_1 rfl (fun H locs E => ?_)
  refine W.eq (g2 := F0 m 4 ls (.int x1 :: [])) rfl ?_
  refine lv_if_eq (tgt := 19) C.1 C.2.1 dX1_agreement_4 (by decide) (fun hc4 => ?_) (fun hc4 => ?_)
  · have hf := fm_ip hf hc4
    refine lv_iconst (v := 0) C.1 C.2.1 dX1_agreement_19 (by decide) ?_
    obtain rfl := fm_rt1 hf
    exact fm_iret C E rfl rfl dX1_agreement_20
  · have hf := fm_in' hf hc4
    refine lv_aload_n C.1 C.2.1 dX1_agreement_7 rfl (lv_at hl 0 rfl) ?_
    refine fm_getr C E lf_X1_16 hC_200 rfl dX1_agreement_8 ?_
    refine lv_iload_n C.1 C.2.1 dX1_agreement_11 rfl (lv_at hl 1 rfl) ?_
    refine lv_bipush (v := 8) C.1 C.2.1 dX1_agreement_12 (by decide) ?_
    refine lv_iadd C.1 C.2.1 dX1_agreement_14 ?_
    obtain ⟨h15, x15, e15, hf⟩ := fm_ld_e hf
    refine fm_iald' C E e15 hC_219 h15 dX1_agreement_15 ?_
    refine lv_goto (tgt := 20) C.1 C.2.1 dX1_agreement_16 (by decide) ?_
    obtain rfl := fm_rt1 hf
    exact fm_iret C E rfl rfl dX1_agreement_20
theorem dX1_direction_0 : decode cX1_direction 0 = .ok (.iconst 0, 1) := by decide +kernel
theorem dX1_direction_1 : decode cX1_direction 1 = .ok (.istore_n 1, 1) := by decide +kernel
theorem dX1_direction_2 : decode cX1_direction 2 = .ok (.iconst 1, 1) := by decide +kernel
theorem dX1_direction_3 : decode cX1_direction 3 = .ok (.istore_n 2, 1) := by decide +kernel
theorem dX1_direction_4 : decode cX1_direction 4 = .ok (.iload_n 2, 1) := by decide +kernel
theorem dX1_direction_5 : decode cX1_direction 5 = .ok (.bipush 17, 2) := by decide +kernel
theorem dX1_direction_7 : decode cX1_direction 7 = .ok (.if_icmp .ge 30, 3) := by decide +kernel
theorem dX1_direction_10 : decode cX1_direction 10 = .ok (.aload_n 0, 1) := by decide +kernel
theorem dX1_direction_11 : decode cX1_direction 11 = .ok (.iload_n 2, 1) := by decide +kernel
theorem dX1_direction_12 : decode cX1_direction 12 = .ok (.invokestatic 59, 3) := by decide +kernel
theorem dX1_direction_15 : decode cX1_direction 15 = .ok (.invokevirtual 63, 3) := by decide +kernel
theorem dX1_direction_18 : decode cX1_direction 18 = .ok (.aload_n 0, 1) := by decide +kernel
theorem dX1_direction_19 : decode cX1_direction 19 = .ok (.iload_n 1, 1) := by decide +kernel
theorem dX1_direction_20 : decode cX1_direction 20 = .ok (.invokevirtual 63, 3) := by decide +kernel
theorem dX1_direction_23 : decode cX1_direction 23 = .ok (.if_icmp .le 8, 3) := by decide +kernel
theorem dX1_direction_26 : decode cX1_direction 26 = .ok (.iload_n 2, 1) := by decide +kernel
theorem dX1_direction_27 : decode cX1_direction 27 = .ok (.invokestatic 59, 3) := by decide +kernel
theorem dX1_direction_30 : decode cX1_direction 30 = .ok (.istore_n 1, 1) := by decide +kernel
theorem dX1_direction_31 : decode cX1_direction 31 = .ok (.iinc 2 1, 3) := by decide +kernel
theorem dX1_direction_34 : decode cX1_direction 34 = .ok (.goto (-30), 3) := by decide +kernel
theorem dX1_direction_37 : decode cX1_direction 37 = .ok (.iload_n 1, 1) := by decide +kernel
theorem dX1_direction_38 : decode cX1_direction 38 = .ok (.ireturn, 1) := by decide +kernel
set_option maxHeartbeats 4000000 in
set_option maxRecDepth 100000 in
theorem c_Compass_direction (l : Launch) (G : fm_G) (N : Nat) (M : fm_M) (r : Int32) (hf : pCompass_direction N M = some r) : fm_Met l yX1_direction cX1_direction 3 (some .int) { frames := 3, cells := 0, slots := 0, locals := 63 } shC G [.ref (G.2.1 200)] M (some (.int r)) M := by
  refine fm_enter (by decide) (Nat.le_of_ble_eq_true rfl) ?_
  intro p e s m args below meth c ls C E hl
  have hl : lv_has ls 3 [(0, .ref (G.2.1 200))] := hl
  have L4 : ∀ (n4 : Nat) (v1 : Int32) (v2 : Int32) (H : Heap) (locs : List Loc) (ls : Array Slot), fm_Wd shC G M s H locs → lv_has ls 3 [(0, .ref (G.2.1 200)), (1, .int v1), (2, .int v2)] → fm_lp (pCompass_direction_L4 N M) n4 (v1, v2) = some r → W p l e { frames := 3, cells := 0, slots := 0, locals := 63 } s m args below meth c H locs 0 0 (fm_Z below shC G args s (some (.int r)) M) (F0 m 4 ls []) := by
    intro  n4
    induction n4 with
    | zero => intro v1 v2 H locs ls E hl hf; exact fm_lp_0 hf
    | succ n4 ih4 =>
      intro v1 v2 H locs ls E hl hf
      have hf : pCompass_direction_L4b N M (fm_lp (pCompass_direction_L4 N M) n4) v1 v2 = some r := hf
      unfold pCompass_direction_L4b at hf
      refine lv_iload_n C.1 C.2.1 dX1_direction_4 rfl (lv_at hl 2 rfl) ?_
      refine lv_bipush (v := 17) C.1 C.2.1 dX1_direction_5 (by decide) ?_
      refine lv_icmp_ge (tgt := 37) C.1 C.2.1 dX1_direction_7 (by decide) (fun hc7 => ?_) (fun hc7 => ?_)
      · have hf := fm_ip hf hc7
        refine lv_iload_n C.1 C.2.1 dX1_direction_37 rfl (lv_at hl 1 rfl) ?_
        obtain rfl := fm_rt1 hf
        exact fm_iret C E rfl rfl dX1_direction_38
      · have hf := fm_in' hf hc7
        refine lv_aload_n C.1 C.2.1 dX1_direction_10 rfl (lv_at hl 0 rfl) ?_
        refine lv_iload_n C.1 C.2.1 dX1_direction_11 rfl (lv_at hl 2 rfl) ?_
        obtain ⟨x12, hc12, hf⟩ := fm_bd hf
        refine fm_callS C E [.int _] [.ref _] lm_X1_59 wk_X9_bySize (c_MicRow_bySize l G _ _ _  hc12) rfl hl.1 (by simp [Value.category]) ⟨⟨rfl, rfl⟩, by decide, by decide⟩ ⟨by decide, by decide⟩ dX1_direction_12 rfl (fun H locs E => ?_)
        refine W.eq (g2 := F0 m 15 ls (.int x12 :: [.ref _])) rfl ?_
        obtain ⟨x15, hc15, hf⟩ := fm_bd hf
        refine fm_callV C E [.int _] [] lm_X1_63 wk_X1_agreement (c_Compass_agreement l G _ _ _  hc15) hC_200 rfl rfl rfl hl.1 (by simp [Value.category]) ⟨⟨rfl, rfl⟩, by decide, by decide⟩ ⟨by decide, by decide⟩ dX1_direction_15 rfl (fun H locs E => ?_)
        refine W.eq (g2 := F0 m 18 ls (.int x15 :: [])) rfl ?_
        refine lv_aload_n C.1 C.2.1 dX1_direction_18 rfl (lv_at hl 0 rfl) ?_
        refine lv_iload_n C.1 C.2.1 dX1_direction_19 rfl (lv_at hl 1 rfl) ?_
        obtain ⟨x20, hc20, hf⟩ := fm_bd hf
        refine fm_callV C E [.int _] [.int _] lm_X1_63 wk_X1_agreement (c_Compass_agreement l G _ _ _  hc20) hC_200 rfl rfl rfl hl.1 (by simp [Value.category]) ⟨⟨rfl, rfl⟩, by decide, by decide⟩ ⟨by decide, by decide⟩ dX1_direction_20 rfl (fun H locs E => ?_)
        refine W.eq (g2 := F0 m 23 ls (.int x20 :: [.int _])) rfl ?_
        refine lv_icmp_le (tgt := 31) C.1 C.2.1 dX1_direction_23 (by decide) (fun hc23 => ?_) (fun hc23 => ?_)
        · have hf := fm_ip hf hc23
          refine fm_iinc C (v := 1) (lv' := [(2, .int _), (0, .ref _), (1, .int _)]) (k := 2) hl rfl (by decide) (by decide) rfl dX1_direction_31 (fun ls hl => ?_)
          refine lv_goto (tgt := 4) C.1 C.2.1 dX1_direction_34 (by decide) ?_
          exact ih4 _ _ _ _ _ E (lv_sub hl [1, 2, 0] rfl) hf
        · have hf := fm_in' hf hc23
          refine lv_iload_n C.1 C.2.1 dX1_direction_26 rfl (lv_at hl 2 rfl) ?_
          obtain ⟨x27, hc27, hf⟩ := fm_bd hf
          refine fm_callS C E [.int _] [] lm_X1_59 wk_X9_bySize (c_MicRow_bySize l G _ _ _  hc27) rfl hl.1 (by simp [Value.category]) ⟨⟨rfl, rfl⟩, by decide, by decide⟩ ⟨by decide, by decide⟩ dX1_direction_27 rfl (fun H locs E => ?_)
          refine W.eq (g2 := F0 m 30 ls (.int x27 :: [])) rfl ?_
          refine lv_istore_n (lv' := [(1, .int _), (0, .ref _), (2, .int _)]) C.1 C.2.1 dX1_direction_30 rfl hl (by decide) rfl (fun ls hl => ?_)
          refine fm_iinc C (v := 1) (lv' := [(2, .int _), (1, .int _), (0, .ref _)]) (k := 2) hl rfl (by decide) (by decide) rfl dX1_direction_31 (fun ls hl => ?_)
          refine lv_goto (tgt := 4) C.1 C.2.1 dX1_direction_34 (by decide) ?_
          exact ih4 _ _ _ _ _ E (lv_sub hl [2, 1, 0] rfl) hf
  unfold pCompass_direction at hf
  refine lv_iconst (v := 0) C.1 C.2.1 dX1_direction_0 (by decide) ?_
  refine lv_istore_n (lv' := [(1, .int _), (0, .ref _)]) C.1 C.2.1 dX1_direction_1 rfl hl (by decide) rfl (fun ls hl => ?_)
  refine lv_iconst (v := 1) C.1 C.2.1 dX1_direction_2 (by decide) ?_
  refine lv_istore_n (lv' := [(2, .int _), (1, .int _), (0, .ref _)]) C.1 C.2.1 dX1_direction_3 rfl hl (by decide) rfl (fun ls hl => ?_)
  exact L4  N _ _ _ _ _ E (lv_sub hl [2, 1, 0] rfl) hf
theorem dX3_waveAt_0 : decode cX3_waveAt 0 = .ok (.aload_n 0, 1) := by decide +kernel
theorem dX3_waveAt_1 : decode cX3_waveAt 1 = .ok (.iconst 2, 1) := by decide +kernel
theorem dX3_waveAt_2 : decode cX3_waveAt 2 = .ok (.iaload, 1) := by decide +kernel
theorem dX3_waveAt_3 : decode cX3_waveAt 3 = .ok (.istore_n 3, 1) := by decide +kernel
theorem dX3_waveAt_4 : decode cX3_waveAt 4 = .ok (.iload_n 3, 1) := by decide +kernel
theorem dX3_waveAt_5 : decode cX3_waveAt 5 = .ok (.iconst 1, 1) := by decide +kernel
theorem dX3_waveAt_6 : decode cX3_waveAt 6 = .ok (.bipush 12, 2) := by decide +kernel
theorem dX3_waveAt_8 : decode cX3_waveAt 8 = .ok (.invokestatic 35, 3) := by decide +kernel
theorem dX3_waveAt_11 : decode cX3_waveAt 11 = .ok (.ifCond .ne 5, 3) := by decide +kernel
theorem dX3_waveAt_14 : decode cX3_waveAt 14 = .ok (.iconst 0, 1) := by decide +kernel
theorem dX3_waveAt_15 : decode cX3_waveAt 15 = .ok (.ireturn, 1) := by decide +kernel
theorem dX3_waveAt_16 : decode cX3_waveAt 16 = .ok (.bipush 8, 2) := by decide +kernel
theorem dX3_waveAt_18 : decode cX3_waveAt 18 = .ok (.iload_n 2, 1) := by decide +kernel
theorem dX3_waveAt_19 : decode cX3_waveAt 19 = .ok (.imul, 1) := by decide +kernel
theorem dX3_waveAt_20 : decode cX3_waveAt 20 = .ok (.iload_n 1, 1) := by decide +kernel
theorem dX3_waveAt_21 : decode cX3_waveAt 21 = .ok (.aload_n 0, 1) := by decide +kernel
theorem dX3_waveAt_22 : decode cX3_waveAt 22 = .ok (.iconst 0, 1) := by decide +kernel
theorem dX3_waveAt_23 : decode cX3_waveAt 23 = .ok (.iaload, 1) := by decide +kernel
theorem dX3_waveAt_24 : decode cX3_waveAt 24 = .ok (.imul, 1) := by decide +kernel
theorem dX3_waveAt_25 : decode cX3_waveAt 25 = .ok (.isub, 1) := by decide +kernel
theorem dX3_waveAt_26 : decode cX3_waveAt 26 = .ok (.istore 4, 2) := by decide +kernel
theorem dX3_waveAt_28 : decode cX3_waveAt 28 = .ok (.iload 4, 2) := by decide +kernel
theorem dX3_waveAt_30 : decode cX3_waveAt 30 = .ok (.bipush 7, 2) := by decide +kernel
theorem dX3_waveAt_32 : decode cX3_waveAt 32 = .ok (.iand, 1) := by decide +kernel
theorem dX3_waveAt_33 : decode cX3_waveAt 33 = .ok (.istore 5, 2) := by decide +kernel
theorem dX3_waveAt_35 : decode cX3_waveAt 35 = .ok (.iload 4, 2) := by decide +kernel
theorem dX3_waveAt_37 : decode cX3_waveAt 37 = .ok (.iconst 3, 1) := by decide +kernel
theorem dX3_waveAt_38 : decode cX3_waveAt 38 = .ok (.ishr, 1) := by decide +kernel
theorem dX3_waveAt_39 : decode cX3_waveAt 39 = .ok (.iload_n 3, 1) := by decide +kernel
theorem dX3_waveAt_40 : decode cX3_waveAt 40 = .ok (.invokestatic 67, 3) := by decide +kernel
theorem dX3_waveAt_43 : decode cX3_waveAt 43 = .ok (.istore 6, 2) := by decide +kernel
theorem dX3_waveAt_45 : decode cX3_waveAt 45 = .ok (.iload 6, 2) := by decide +kernel
theorem dX3_waveAt_47 : decode cX3_waveAt 47 = .ok (.iconst 1, 1) := by decide +kernel
theorem dX3_waveAt_48 : decode cX3_waveAt 48 = .ok (.iadd, 1) := by decide +kernel
theorem dX3_waveAt_49 : decode cX3_waveAt 49 = .ok (.iload_n 3, 1) := by decide +kernel
theorem dX3_waveAt_50 : decode cX3_waveAt 50 = .ok (.if_icmp .ge 10, 3) := by decide +kernel
theorem dX3_waveAt_53 : decode cX3_waveAt 53 = .ok (.iload 6, 2) := by decide +kernel
theorem dX3_waveAt_55 : decode cX3_waveAt 55 = .ok (.iconst 1, 1) := by decide +kernel
theorem dX3_waveAt_56 : decode cX3_waveAt 56 = .ok (.iadd, 1) := by decide +kernel
theorem dX3_waveAt_57 : decode cX3_waveAt 57 = .ok (.goto 4, 3) := by decide +kernel
theorem dX3_waveAt_60 : decode cX3_waveAt 60 = .ok (.iconst 0, 1) := by decide +kernel
theorem dX3_waveAt_61 : decode cX3_waveAt 61 = .ok (.istore 7, 2) := by decide +kernel
theorem dX3_waveAt_63 : decode cX3_waveAt 63 = .ok (.aload_n 0, 1) := by decide +kernel
theorem dX3_waveAt_64 : decode cX3_waveAt 64 = .ok (.iconst 1, 1) := by decide +kernel
theorem dX3_waveAt_65 : decode cX3_waveAt 65 = .ok (.iaload, 1) := by decide +kernel
theorem dX3_waveAt_66 : decode cX3_waveAt 66 = .ok (.bipush 8, 2) := by decide +kernel
theorem dX3_waveAt_68 : decode cX3_waveAt 68 = .ok (.iload 5, 2) := by decide +kernel
theorem dX3_waveAt_70 : decode cX3_waveAt 70 = .ok (.isub, 1) := by decide +kernel
theorem dX3_waveAt_71 : decode cX3_waveAt 71 = .ok (.aload_n 0, 1) := by decide +kernel
theorem dX3_waveAt_72 : decode cX3_waveAt 72 = .ok (.iconst 3, 1) := by decide +kernel
theorem dX3_waveAt_73 : decode cX3_waveAt 73 = .ok (.iload 6, 2) := by decide +kernel
theorem dX3_waveAt_75 : decode cX3_waveAt 75 = .ok (.iadd, 1) := by decide +kernel
theorem dX3_waveAt_76 : decode cX3_waveAt 76 = .ok (.iaload, 1) := by decide +kernel
theorem dX3_waveAt_77 : decode cX3_waveAt 77 = .ok (.imul, 1) := by decide +kernel
theorem dX3_waveAt_78 : decode cX3_waveAt 78 = .ok (.iload 5, 2) := by decide +kernel
theorem dX3_waveAt_80 : decode cX3_waveAt 80 = .ok (.aload_n 0, 1) := by decide +kernel
theorem dX3_waveAt_81 : decode cX3_waveAt 81 = .ok (.iconst 3, 1) := by decide +kernel
theorem dX3_waveAt_82 : decode cX3_waveAt 82 = .ok (.iload 7, 2) := by decide +kernel
theorem dX3_waveAt_84 : decode cX3_waveAt 84 = .ok (.iadd, 1) := by decide +kernel
theorem dX3_waveAt_85 : decode cX3_waveAt 85 = .ok (.iaload, 1) := by decide +kernel
theorem dX3_waveAt_86 : decode cX3_waveAt 86 = .ok (.imul, 1) := by decide +kernel
theorem dX3_waveAt_87 : decode cX3_waveAt 87 = .ok (.iadd, 1) := by decide +kernel
theorem dX3_waveAt_88 : decode cX3_waveAt 88 = .ok (.imul, 1) := by decide +kernel
theorem dX3_waveAt_89 : decode cX3_waveAt 89 = .ok (.ireturn, 1) := by decide +kernel
set_option maxHeartbeats 4000000 in
set_option maxRecDepth 100000 in
theorem c_Ears_waveAt (l : Launch) (G : fm_G) (M : fm_M) (v0 : Nat) (v1 : Int32) (v2 : Int32) (r : Int32) (hf : pEars_waveAt M v0 v1 v2 = some r) : fm_Met l yX3_waveAt cX3_waveAt 8 (some .int) { frames := 1, cells := 0, slots := 0, locals := 22 } shC G [.ref (G.2.1 v0), .int v1, .int v2] M (some (.int r)) M := by
  refine fm_enter (by decide) (Nat.le_of_ble_eq_true rfl) ?_
  intro p e s m args below meth c ls C E hl
  have hl : lv_has ls 8 [(0, .ref (G.2.1 v0)), (1, .int v1), (2, .int v2)] := hl
  have J61 : ∀ (v0 : Nat) (v5 : Int32) (v6 : Int32) (s0 : Int32) (H : Heap) (locs : List Loc) (ls : Array Slot), fm_Wd shC G M s H locs → lv_has ls 8 [(0, .ref (G.2.1 v0)), (5, .int v5), (6, .int v6)] → pEars_waveAt_J61 M v0 v5 v6 s0 = some r → W p l e { frames := 1, cells := 0, slots := 0, locals := 22 } s m args below meth c H locs 0 0 (fm_Z below shC G args s (some (.int r)) M) (F0 m 61 ls [.int s0]) := by
    intro v0 v5 v6 s0 H locs ls E hl hf
    unfold pEars_waveAt_J61 at hf
    refine lv_istore (lv' := [(7, .int _), (0, .ref _), (5, .int _), (6, .int _)]) C.1 C.2.1 dX3_waveAt_61 hl (by decide) rfl (fun ls hl => ?_)
    refine lv_aload_n C.1 C.2.1 dX3_waveAt_63 rfl (lv_at hl 1 rfl) ?_
    refine lv_iconst (v := 1) C.1 C.2.1 dX3_waveAt_64 (by decide) ?_
    obtain ⟨h65, x65, e65, hf⟩ := fm_ld_e hf
    obtain ⟨_, hk65⟩ := fm_n_at h65
    refine fm_iald' C E e65 hk65 h65 dX3_waveAt_65 ?_
    refine lv_bipush (v := 8) C.1 C.2.1 dX3_waveAt_66 (by decide) ?_
    refine lv_iload C.1 C.2.1 dX3_waveAt_68 (lv_at hl 2 rfl) ?_
    refine lv_isub C.1 C.2.1 dX3_waveAt_70 ?_
    refine lv_aload_n C.1 C.2.1 dX3_waveAt_71 rfl (lv_at hl 1 rfl) ?_
    refine lv_iconst (v := 3) C.1 C.2.1 dX3_waveAt_72 (by decide) ?_
    refine lv_iload C.1 C.2.1 dX3_waveAt_73 (lv_at hl 3 rfl) ?_
    refine lv_iadd C.1 C.2.1 dX3_waveAt_75 ?_
    obtain ⟨h76, x76, e76, hf⟩ := fm_ld_e hf
    obtain ⟨_, hk76⟩ := fm_n_at h76
    refine fm_iald' C E e76 hk76 h76 dX3_waveAt_76 ?_
    refine lv_imul C.1 C.2.1 dX3_waveAt_77 ?_
    refine lv_iload C.1 C.2.1 dX3_waveAt_78 (lv_at hl 2 rfl) ?_
    refine lv_aload_n C.1 C.2.1 dX3_waveAt_80 rfl (lv_at hl 1 rfl) ?_
    refine lv_iconst (v := 3) C.1 C.2.1 dX3_waveAt_81 (by decide) ?_
    refine lv_iload C.1 C.2.1 dX3_waveAt_82 (lv_at hl 0 rfl) ?_
    refine lv_iadd C.1 C.2.1 dX3_waveAt_84 ?_
    obtain ⟨h85, x85, e85, hf⟩ := fm_ld_e hf
    obtain ⟨_, hk85⟩ := fm_n_at h85
    refine fm_iald' C E e85 hk85 h85 dX3_waveAt_85 ?_
    refine lv_imul C.1 C.2.1 dX3_waveAt_86 ?_
    refine lv_iadd C.1 C.2.1 dX3_waveAt_87 ?_
    refine lv_imul C.1 C.2.1 dX3_waveAt_88 ?_
    obtain rfl := fm_rt1 hf
    exact fm_iret C E rfl rfl dX3_waveAt_89
  unfold pEars_waveAt at hf
  refine lv_aload_n C.1 C.2.1 dX3_waveAt_0 rfl (lv_at hl 0 rfl) ?_
  refine lv_iconst (v := 2) C.1 C.2.1 dX3_waveAt_1 (by decide) ?_
  obtain ⟨h2, x2, e2, hf⟩ := fm_ld_e hf
  obtain ⟨_, hk2⟩ := fm_n_at h2
  refine fm_iald' C E e2 hk2 h2 dX3_waveAt_2 ?_
  refine lv_istore_n (lv' := [(3, .int _), (0, .ref _), (1, .int _), (2, .int _)]) C.1 C.2.1 dX3_waveAt_3 rfl hl (by decide) rfl (fun ls hl => ?_)
  refine lv_iload_n C.1 C.2.1 dX3_waveAt_4 rfl (lv_at hl 0 rfl) ?_
  refine lv_iconst (v := 1) C.1 C.2.1 dX3_waveAt_5 (by decide) ?_
  refine lv_bipush (v := 12) C.1 C.2.1 dX3_waveAt_6 (by decide) ?_
  obtain ⟨x8, hc8, hf⟩ := fm_bd hf
  refine fm_callS C E [.int _, .int _, .int _] [] lm_X3_35 wk_X9_within (c_MicRow_within l G _ _ _ _ _  hc8) rfl hl.1 (by simp [Value.category]) ⟨⟨rfl, rfl⟩, by decide, by decide⟩ ⟨by decide, by decide⟩ dX3_waveAt_8 rfl (fun H locs E => ?_)
  refine W.eq (g2 := F0 m 11 ls (.int x8 :: [])) rfl ?_
  refine lv_if_ne (tgt := 16) C.1 C.2.1 dX3_waveAt_11 (by decide) (fun hc11 => ?_) (fun hc11 => ?_)
  · have hf := fm_in' hf hc11
    refine lv_bipush (v := 8) C.1 C.2.1 dX3_waveAt_16 (by decide) ?_
    refine lv_iload_n C.1 C.2.1 dX3_waveAt_18 rfl (lv_at hl 3 rfl) ?_
    refine lv_imul C.1 C.2.1 dX3_waveAt_19 ?_
    refine lv_iload_n C.1 C.2.1 dX3_waveAt_20 rfl (lv_at hl 2 rfl) ?_
    refine lv_aload_n C.1 C.2.1 dX3_waveAt_21 rfl (lv_at hl 1 rfl) ?_
    refine lv_iconst (v := 0) C.1 C.2.1 dX3_waveAt_22 (by decide) ?_
    obtain ⟨h23, x23, e23, hf⟩ := fm_ld_e hf
    obtain ⟨_, hk23⟩ := fm_n_at h23
    refine fm_iald' C E e23 hk23 h23 dX3_waveAt_23 ?_
    refine lv_imul C.1 C.2.1 dX3_waveAt_24 ?_
    refine lv_isub C.1 C.2.1 dX3_waveAt_25 ?_
    refine lv_istore (lv' := [(4, .int _), (3, .int _), (0, .ref _), (1, .int _), (2, .int _)]) C.1 C.2.1 dX3_waveAt_26 hl (by decide) rfl (fun ls hl => ?_)
    refine lv_iload C.1 C.2.1 dX3_waveAt_28 (lv_at hl 0 rfl) ?_
    refine lv_bipush (v := 7) C.1 C.2.1 dX3_waveAt_30 (by decide) ?_
    refine lv_iand C.1 C.2.1 dX3_waveAt_32 ?_
    refine lv_istore (lv' := [(5, .int _), (4, .int _), (3, .int _), (0, .ref _), (1, .int _), (2, .int _)]) C.1 C.2.1 dX3_waveAt_33 hl (by decide) rfl (fun ls hl => ?_)
    refine lv_iload C.1 C.2.1 dX3_waveAt_35 (lv_at hl 1 rfl) ?_
    refine lv_iconst (v := 3) C.1 C.2.1 dX3_waveAt_37 (by decide) ?_
    refine lv_ishr C.1 C.2.1 dX3_waveAt_38 ?_
    refine lv_iload_n C.1 C.2.1 dX3_waveAt_39 rfl (lv_at hl 2 rfl) ?_
    obtain ⟨x40, hc40, hf⟩ := fm_bd hf
    refine fm_callS C E [.int _, .int _] [] lm_X3_67 wk_J9_floorMod_7cf53 (c_Math_floorMod l G _ _ _ _  hc40) rfl hl.1 (by simp [Value.category]) ⟨⟨rfl, rfl⟩, by decide, by decide⟩ ⟨by decide, by decide⟩ dX3_waveAt_40 rfl (fun H locs E => ?_)
    refine W.eq (g2 := F0 m 43 ls (.int x40 :: [])) rfl ?_
    refine lv_istore (lv' := [(6, .int _), (5, .int _), (4, .int _), (3, .int _), (0, .ref _), (1, .int _), (2, .int _)]) C.1 C.2.1 dX3_waveAt_43 hl (by decide) rfl (fun ls hl => ?_)
    refine lv_iload C.1 C.2.1 dX3_waveAt_45 (lv_at hl 0 rfl) ?_
    refine lv_iconst (v := 1) C.1 C.2.1 dX3_waveAt_47 (by decide) ?_
    refine lv_iadd C.1 C.2.1 dX3_waveAt_48 ?_
    refine lv_iload_n C.1 C.2.1 dX3_waveAt_49 rfl (lv_at hl 3 rfl) ?_
    refine lv_icmp_ge (tgt := 60) C.1 C.2.1 dX3_waveAt_50 (by decide) (fun hc50 => ?_) (fun hc50 => ?_)
    · have hf := fm_ip hf hc50
      refine lv_iconst (v := 0) C.1 C.2.1 dX3_waveAt_60 (by decide) ?_
      exact J61 _ _ _ _ _ _ _ E (lv_sub hl [4, 1, 0] rfl) hf
    · have hf := fm_in' hf hc50
      refine lv_iload C.1 C.2.1 dX3_waveAt_53 (lv_at hl 0 rfl) ?_
      refine lv_iconst (v := 1) C.1 C.2.1 dX3_waveAt_55 (by decide) ?_
      refine lv_iadd C.1 C.2.1 dX3_waveAt_56 ?_
      refine lv_goto (tgt := 61) C.1 C.2.1 dX3_waveAt_57 (by decide) ?_
      exact J61 _ _ _ _ _ _ _ E (lv_sub hl [4, 1, 0] rfl) hf
  · have hf := fm_ip hf hc11
    refine lv_iconst (v := 0) C.1 C.2.1 dX3_waveAt_14 (by decide) ?_
    obtain rfl := fm_rt1 hf
    exact fm_iret C E rfl rfl dX3_waveAt_15
theorem dX4_digit_0 : decode cX4_digit 0 = .ok (.aload_n 0, 1) := by decide +kernel
theorem dX4_digit_1 : decode cX4_digit 1 = .ok (.iload_n 1, 1) := by decide +kernel
theorem dX4_digit_2 : decode cX4_digit 2 = .ok (.invokevirtual 19, 3) := by decide +kernel
theorem dX4_digit_5 : decode cX4_digit 5 = .ok (.bipush 48, 2) := by decide +kernel
theorem dX4_digit_7 : decode cX4_digit 7 = .ok (.bipush 57, 2) := by decide +kernel
theorem dX4_digit_9 : decode cX4_digit 9 = .ok (.invokestatic 23, 3) := by decide +kernel
theorem dX4_digit_12 : decode cX4_digit 12 = .ok (.ifCond .eq 14, 3) := by decide +kernel
theorem dX4_digit_15 : decode cX4_digit 15 = .ok (.aload_n 0, 1) := by decide +kernel
theorem dX4_digit_16 : decode cX4_digit 16 = .ok (.iload_n 1, 1) := by decide +kernel
theorem dX4_digit_17 : decode cX4_digit 17 = .ok (.invokevirtual 19, 3) := by decide +kernel
theorem dX4_digit_20 : decode cX4_digit 20 = .ok (.bipush 48, 2) := by decide +kernel
theorem dX4_digit_22 : decode cX4_digit 22 = .ok (.isub, 1) := by decide +kernel
theorem dX4_digit_23 : decode cX4_digit 23 = .ok (.goto 4, 3) := by decide +kernel
theorem dX4_digit_26 : decode cX4_digit 26 = .ok (.iconst (-1), 1) := by decide +kernel
theorem dX4_digit_27 : decode cX4_digit 27 = .ok (.ireturn, 1) := by decide +kernel
set_option maxHeartbeats 4000000 in
set_option maxRecDepth 100000 in
theorem c_Letters_digit (l : Launch) (G : fm_G) (M : fm_M) (v1 : Int32) (r : Int32) (hf : pLetters_digit M v1 = some r) : fm_Met l yX4_digit cX4_digit 2 (some .int) { frames := 1, cells := 0, slots := 0, locals := 22 } shC G [.ref (G.2.1 173), .int v1] M (some (.int r)) M := by
  refine fm_enter (by decide) (Nat.le_of_ble_eq_true rfl) ?_
  intro p e s m args below meth c ls C E hl
  have hl : lv_has ls 2 [(0, .ref (G.2.1 173)), (1, .int v1)] := hl
  unfold pLetters_digit at hf
  refine lv_aload_n C.1 C.2.1 dX4_digit_0 rfl (lv_at hl 0 rfl) ?_
  refine lv_iload_n C.1 C.2.1 dX4_digit_1 rfl (lv_at hl 1 rfl) ?_
  obtain ⟨x2, hc2, hf⟩ := fm_bd hf
  refine fm_callV C E [.int _] [] lm_X4_19 wk_X4_at (c_Letters_at l G _ _ _  hc2) hC_173 rfl rfl rfl hl.1 (by simp [Value.category]) ⟨⟨rfl, rfl⟩, by decide, by decide⟩ ⟨by decide, by decide⟩ dX4_digit_2 rfl (fun H locs E => ?_)
  refine W.eq (g2 := F0 m 5 ls (.int x2 :: [])) rfl ?_
  refine lv_bipush (v := 48) C.1 C.2.1 dX4_digit_5 (by decide) ?_
  refine lv_bipush (v := 57) C.1 C.2.1 dX4_digit_7 (by decide) ?_
  obtain ⟨x9, hc9, hf⟩ := fm_bd hf
  refine fm_callS C E [.int _, .int _, .int _] [] lm_X4_23 wk_X9_within (c_MicRow_within l G _ _ _ _ _  hc9) rfl hl.1 (by simp [Value.category]) ⟨⟨rfl, rfl⟩, by decide, by decide⟩ ⟨by decide, by decide⟩ dX4_digit_9 rfl (fun H locs E => ?_)
  refine W.eq (g2 := F0 m 12 ls (.int x9 :: [])) rfl ?_
  refine lv_if_eq (tgt := 26) C.1 C.2.1 dX4_digit_12 (by decide) (fun hc12 => ?_) (fun hc12 => ?_)
  · have hf := fm_ip hf hc12
    refine lv_iconst (v := (-1)) C.1 C.2.1 dX4_digit_26 (by decide) ?_
    obtain rfl := fm_rt1 hf
    exact fm_iret C E rfl rfl dX4_digit_27
  · have hf := fm_in' hf hc12
    refine lv_aload_n C.1 C.2.1 dX4_digit_15 rfl (lv_at hl 0 rfl) ?_
    refine lv_iload_n C.1 C.2.1 dX4_digit_16 rfl (lv_at hl 1 rfl) ?_
    obtain ⟨x17, hc17, hf⟩ := fm_bd hf
    refine fm_callV C E [.int _] [] lm_X4_19 wk_X4_at (c_Letters_at l G _ _ _  hc17) hC_173 rfl rfl rfl hl.1 (by simp [Value.category]) ⟨⟨rfl, rfl⟩, by decide, by decide⟩ ⟨by decide, by decide⟩ dX4_digit_17 rfl (fun H locs E => ?_)
    refine W.eq (g2 := F0 m 20 ls (.int x17 :: [])) rfl ?_
    refine lv_bipush (v := 48) C.1 C.2.1 dX4_digit_20 (by decide) ?_
    refine lv_isub C.1 C.2.1 dX4_digit_22 ?_
    refine lv_goto (tgt := 27) C.1 C.2.1 dX4_digit_23 (by decide) ?_
    obtain rfl := fm_rt1 hf
    exact fm_iret C E rfl rfl dX4_digit_27
theorem dX4_number_0 : decode cX4_number 0 = .ok (.iconst 0, 1) := by decide +kernel
theorem dX4_number_1 : decode cX4_number 1 = .ok (.istore_n 3, 1) := by decide +kernel
theorem dX4_number_2 : decode cX4_number 2 = .ok (.iconst 0, 1) := by decide +kernel
theorem dX4_number_3 : decode cX4_number 3 = .ok (.istore 4, 2) := by decide +kernel
theorem dX4_number_5 : decode cX4_number 5 = .ok (.iload 4, 2) := by decide +kernel
theorem dX4_number_7 : decode cX4_number 7 = .ok (.iload_n 2, 1) := by decide +kernel
theorem dX4_number_8 : decode cX4_number 8 = .ok (.if_icmp .ge 23, 3) := by decide +kernel
theorem dX4_number_11 : decode cX4_number 11 = .ok (.bipush 10, 2) := by decide +kernel
theorem dX4_number_13 : decode cX4_number 13 = .ok (.iload_n 3, 1) := by decide +kernel
theorem dX4_number_14 : decode cX4_number 14 = .ok (.imul, 1) := by decide +kernel
theorem dX4_number_15 : decode cX4_number 15 = .ok (.aload_n 0, 1) := by decide +kernel
theorem dX4_number_16 : decode cX4_number 16 = .ok (.iload_n 1, 1) := by decide +kernel
theorem dX4_number_17 : decode cX4_number 17 = .ok (.iload 4, 2) := by decide +kernel
theorem dX4_number_19 : decode cX4_number 19 = .ok (.iadd, 1) := by decide +kernel
theorem dX4_number_20 : decode cX4_number 20 = .ok (.invokevirtual 27, 3) := by decide +kernel
theorem dX4_number_23 : decode cX4_number 23 = .ok (.iadd, 1) := by decide +kernel
theorem dX4_number_24 : decode cX4_number 24 = .ok (.istore_n 3, 1) := by decide +kernel
theorem dX4_number_25 : decode cX4_number 25 = .ok (.iinc 4 1, 3) := by decide +kernel
theorem dX4_number_28 : decode cX4_number 28 = .ok (.goto (-23), 3) := by decide +kernel
theorem dX4_number_31 : decode cX4_number 31 = .ok (.iload_n 3, 1) := by decide +kernel
theorem dX4_number_32 : decode cX4_number 32 = .ok (.ireturn, 1) := by decide +kernel
set_option maxHeartbeats 4000000 in
set_option maxRecDepth 100000 in
theorem c_Letters_number (l : Launch) (G : fm_G) (N : Nat) (M : fm_M) (v1 : Int32) (v2 : Int32) (r : Int32) (hf : pLetters_number N M v1 v2 = some r) : fm_Met l yX4_number cX4_number 5 (some .int) { frames := 2, cells := 0, slots := 0, locals := 43 } shC G [.ref (G.2.1 173), .int v1, .int v2] M (some (.int r)) M := by
  refine fm_enter (by decide) (Nat.le_of_ble_eq_true rfl) ?_
  intro p e s m args below meth c ls C E hl
  have hl : lv_has ls 5 [(0, .ref (G.2.1 173)), (1, .int v1), (2, .int v2)] := hl
  have L5 : ∀ (w5_v1 : Int32) (w5_v2 : Int32) (n5 : Nat) (v3 : Int32) (v4 : Int32) (H : Heap) (locs : List Loc) (ls : Array Slot), fm_Wd shC G M s H locs → lv_has ls 5 [(0, .ref (G.2.1 173)), (1, .int w5_v1), (2, .int w5_v2), (3, .int v3), (4, .int v4)] → fm_lp (pLetters_number_L5 N M w5_v1 w5_v2) n5 (v3, v4) = some r → W p l e { frames := 2, cells := 0, slots := 0, locals := 43 } s m args below meth c H locs 0 0 (fm_Z below shC G args s (some (.int r)) M) (F0 m 5 ls []) := by
    intro w5_v1 w5_v2 n5
    induction n5 with
    | zero => intro v3 v4 H locs ls E hl hf; exact fm_lp_0 hf
    | succ n5 ih5 =>
      intro v3 v4 H locs ls E hl hf
      have hf : pLetters_number_L5b N M w5_v1 w5_v2 (fm_lp (pLetters_number_L5 N M w5_v1 w5_v2) n5) v3 v4 = some r := hf
      unfold pLetters_number_L5b at hf
      refine lv_iload C.1 C.2.1 dX4_number_5 (lv_at hl 4 rfl) ?_
      refine lv_iload_n C.1 C.2.1 dX4_number_7 rfl (lv_at hl 2 rfl) ?_
      refine lv_icmp_ge (tgt := 31) C.1 C.2.1 dX4_number_8 (by decide) (fun hc8 => ?_) (fun hc8 => ?_)
      · have hf := fm_ip hf hc8
        refine lv_iload_n C.1 C.2.1 dX4_number_31 rfl (lv_at hl 3 rfl) ?_
        obtain rfl := fm_rt1 hf
        exact fm_iret C E rfl rfl dX4_number_32
      · have hf := fm_in' hf hc8
        refine lv_bipush (v := 10) C.1 C.2.1 dX4_number_11 (by decide) ?_
        refine lv_iload_n C.1 C.2.1 dX4_number_13 rfl (lv_at hl 3 rfl) ?_
        refine lv_imul C.1 C.2.1 dX4_number_14 ?_
        refine lv_aload_n C.1 C.2.1 dX4_number_15 rfl (lv_at hl 0 rfl) ?_
        refine lv_iload_n C.1 C.2.1 dX4_number_16 rfl (lv_at hl 1 rfl) ?_
        refine lv_iload C.1 C.2.1 dX4_number_17 (lv_at hl 4 rfl) ?_
        refine lv_iadd C.1 C.2.1 dX4_number_19 ?_
        obtain ⟨x20, hc20, hf⟩ := fm_bd hf
        refine fm_callV C E [.int _] [.int _] lm_X4_27 wk_X4_digit (c_Letters_digit l G _ _ _  hc20) hC_173 rfl rfl rfl hl.1 (by simp [Value.category]) ⟨⟨rfl, rfl⟩, by decide, by decide⟩ ⟨by decide, by decide⟩ dX4_number_20 rfl (fun H locs E => ?_)
        refine W.eq (g2 := F0 m 23 ls (.int x20 :: [.int _])) rfl ?_
        refine lv_iadd C.1 C.2.1 dX4_number_23 ?_
        refine lv_istore_n (lv' := [(3, .int _), (0, .ref _), (1, .int _), (2, .int _), (4, .int _)]) C.1 C.2.1 dX4_number_24 rfl hl (by decide) rfl (fun ls hl => ?_)
        refine fm_iinc C (v := 1) (lv' := [(4, .int _), (3, .int _), (0, .ref _), (1, .int _), (2, .int _)]) (k := 4) hl rfl (by decide) (by decide) rfl dX4_number_25 (fun ls hl => ?_)
        refine lv_goto (tgt := 5) C.1 C.2.1 dX4_number_28 (by decide) ?_
        exact ih5 _ _ _ _ _ E (lv_sub hl [2, 3, 4, 1, 0] rfl) hf
  unfold pLetters_number at hf
  refine lv_iconst (v := 0) C.1 C.2.1 dX4_number_0 (by decide) ?_
  refine lv_istore_n (lv' := [(3, .int _), (0, .ref _), (1, .int _), (2, .int _)]) C.1 C.2.1 dX4_number_1 rfl hl (by decide) rfl (fun ls hl => ?_)
  refine lv_iconst (v := 0) C.1 C.2.1 dX4_number_2 (by decide) ?_
  refine lv_istore (lv' := [(4, .int _), (3, .int _), (0, .ref _), (1, .int _), (2, .int _)]) C.1 C.2.1 dX4_number_3 hl (by decide) rfl (fun ls hl => ?_)
  exact L5 _ _ N _ _ _ _ _ E (lv_sub hl [2, 3, 4, 1, 0] rfl) hf
theorem dX4_signedDigit_0 : decode cX4_signedDigit 0 = .ok (.aload_n 0, 1) := by decide +kernel
theorem dX4_signedDigit_1 : decode cX4_signedDigit 1 = .ok (.iload_n 1, 1) := by decide +kernel
theorem dX4_signedDigit_2 : decode cX4_signedDigit 2 = .ok (.invokevirtual 19, 3) := by decide +kernel
theorem dX4_signedDigit_5 : decode cX4_signedDigit 5 = .ok (.bipush 45, 2) := by decide +kernel
theorem dX4_signedDigit_7 : decode cX4_signedDigit 7 = .ok (.if_icmp .ne 14, 3) := by decide +kernel
theorem dX4_signedDigit_10 : decode cX4_signedDigit 10 = .ok (.aload_n 0, 1) := by decide +kernel
theorem dX4_signedDigit_11 : decode cX4_signedDigit 11 = .ok (.iload_n 1, 1) := by decide +kernel
theorem dX4_signedDigit_12 : decode cX4_signedDigit 12 = .ok (.iconst 1, 1) := by decide +kernel
theorem dX4_signedDigit_13 : decode cX4_signedDigit 13 = .ok (.iadd, 1) := by decide +kernel
theorem dX4_signedDigit_14 : decode cX4_signedDigit 14 = .ok (.invokevirtual 27, 3) := by decide +kernel
theorem dX4_signedDigit_17 : decode cX4_signedDigit 17 = .ok (.ineg, 1) := by decide +kernel
theorem dX4_signedDigit_18 : decode cX4_signedDigit 18 = .ok (.goto 10, 3) := by decide +kernel
theorem dX4_signedDigit_21 : decode cX4_signedDigit 21 = .ok (.aload_n 0, 1) := by decide +kernel
theorem dX4_signedDigit_22 : decode cX4_signedDigit 22 = .ok (.iload_n 1, 1) := by decide +kernel
theorem dX4_signedDigit_23 : decode cX4_signedDigit 23 = .ok (.iconst 1, 1) := by decide +kernel
theorem dX4_signedDigit_24 : decode cX4_signedDigit 24 = .ok (.iadd, 1) := by decide +kernel
theorem dX4_signedDigit_25 : decode cX4_signedDigit 25 = .ok (.invokevirtual 27, 3) := by decide +kernel
theorem dX4_signedDigit_28 : decode cX4_signedDigit 28 = .ok (.ireturn, 1) := by decide +kernel
set_option maxHeartbeats 4000000 in
set_option maxRecDepth 100000 in
theorem c_Letters_signedDigit (l : Launch) (G : fm_G) (M : fm_M) (v1 : Int32) (r : Int32) (hf : pLetters_signedDigit M v1 = some r) : fm_Met l yX4_signedDigit cX4_signedDigit 2 (some .int) { frames := 2, cells := 0, slots := 0, locals := 43 } shC G [.ref (G.2.1 173), .int v1] M (some (.int r)) M := by
  refine fm_enter (by decide) (Nat.le_of_ble_eq_true rfl) ?_
  intro p e s m args below meth c ls C E hl
  have hl : lv_has ls 2 [(0, .ref (G.2.1 173)), (1, .int v1)] := hl
  unfold pLetters_signedDigit at hf
  refine lv_aload_n C.1 C.2.1 dX4_signedDigit_0 rfl (lv_at hl 0 rfl) ?_
  refine lv_iload_n C.1 C.2.1 dX4_signedDigit_1 rfl (lv_at hl 1 rfl) ?_
  obtain ⟨x2, hc2, hf⟩ := fm_bd hf
  refine fm_callV C E [.int _] [] lm_X4_19 wk_X4_at (c_Letters_at l G _ _ _  hc2) hC_173 rfl rfl rfl hl.1 (by simp [Value.category]) ⟨⟨rfl, rfl⟩, by decide, by decide⟩ ⟨by decide, by decide⟩ dX4_signedDigit_2 rfl (fun H locs E => ?_)
  refine W.eq (g2 := F0 m 5 ls (.int x2 :: [])) rfl ?_
  refine lv_bipush (v := 45) C.1 C.2.1 dX4_signedDigit_5 (by decide) ?_
  refine lv_icmp_ne (tgt := 21) C.1 C.2.1 dX4_signedDigit_7 (by decide) (fun hc7 => ?_) (fun hc7 => ?_)
  · have hf := fm_in' hf hc7
    refine lv_aload_n C.1 C.2.1 dX4_signedDigit_21 rfl (lv_at hl 0 rfl) ?_
    refine lv_iload_n C.1 C.2.1 dX4_signedDigit_22 rfl (lv_at hl 1 rfl) ?_
    refine lv_iconst (v := 1) C.1 C.2.1 dX4_signedDigit_23 (by decide) ?_
    refine lv_iadd C.1 C.2.1 dX4_signedDigit_24 ?_
    obtain ⟨x25, hc25, hf⟩ := fm_bd hf
    refine fm_callV C E [.int _] [] lm_X4_27 wk_X4_digit (c_Letters_digit l G _ _ _  hc25) hC_173 rfl rfl rfl hl.1 (by simp [Value.category]) ⟨⟨rfl, rfl⟩, by decide, by decide⟩ ⟨by decide, by decide⟩ dX4_signedDigit_25 rfl (fun H locs E => ?_)
    refine W.eq (g2 := F0 m 28 ls (.int x25 :: [])) rfl ?_
    obtain rfl := fm_rt1 hf
    exact fm_iret C E rfl rfl dX4_signedDigit_28
  · have hf := fm_ip hf hc7
    refine lv_aload_n C.1 C.2.1 dX4_signedDigit_10 rfl (lv_at hl 0 rfl) ?_
    refine lv_iload_n C.1 C.2.1 dX4_signedDigit_11 rfl (lv_at hl 1 rfl) ?_
    refine lv_iconst (v := 1) C.1 C.2.1 dX4_signedDigit_12 (by decide) ?_
    refine lv_iadd C.1 C.2.1 dX4_signedDigit_13 ?_
    obtain ⟨x14, hc14, hf⟩ := fm_bd hf
    refine fm_callV C E [.int _] [] lm_X4_27 wk_X4_digit (c_Letters_digit l G _ _ _  hc14) hC_173 rfl rfl rfl hl.1 (by simp [Value.category]) ⟨⟨rfl, rfl⟩, by decide, by decide⟩ ⟨by decide, by decide⟩ dX4_signedDigit_14 rfl (fun H locs E => ?_)
    refine W.eq (g2 := F0 m 17 ls (.int x14 :: [])) rfl ?_
    refine lv_ineg C.1 C.2.1 dX4_signedDigit_17 ?_
    refine lv_goto (tgt := 28) C.1 C.2.1 dX4_signedDigit_18 (by decide) ?_
    obtain rfl := fm_rt1 hf
    exact fm_iret C E rfl rfl dX4_signedDigit_28
theorem dX5_push_0 : decode cX5_push 0 = .ok (.aload_n 0, 1) := by decide +kernel
theorem dX5_push_1 : decode cX5_push 1 = .ok (.getfield 18, 3) := by decide +kernel
theorem dX5_push_4 : decode cX5_push 4 = .ok (.aload_n 0, 1) := by decide +kernel
theorem dX5_push_5 : decode cX5_push 5 = .ok (.getfield 12, 3) := by decide +kernel
theorem dX5_push_8 : decode cX5_push 8 = .ok (.arraylength, 1) := by decide +kernel
theorem dX5_push_9 : decode cX5_push 9 = .ok (.if_icmp .ne 7, 3) := by decide +kernel
theorem dX5_push_12 : decode cX5_push 12 = .ok (.aload_n 0, 1) := by decide +kernel
theorem dX5_push_13 : decode cX5_push 13 = .ok (.invokevirtual 22, 3) := by decide +kernel
theorem dX5_push_16 : decode cX5_push 16 = .ok (.aload_n 0, 1) := by decide +kernel
theorem dX5_push_17 : decode cX5_push 17 = .ok (.getfield 12, 3) := by decide +kernel
theorem dX5_push_20 : decode cX5_push 20 = .ok (.aload_n 0, 1) := by decide +kernel
theorem dX5_push_21 : decode cX5_push 21 = .ok (.getfield 18, 3) := by decide +kernel
theorem dX5_push_24 : decode cX5_push 24 = .ok (.aaload, 1) := by decide +kernel
theorem dX5_push_25 : decode cX5_push 25 = .ok (.aload_n 1, 1) := by decide +kernel
theorem dX5_push_26 : decode cX5_push 26 = .ok (.invokevirtual 25, 3) := by decide +kernel
theorem dX5_push_29 : decode cX5_push 29 = .ok (.aload_n 0, 1) := by decide +kernel
theorem dX5_push_30 : decode cX5_push 30 = .ok (.dup, 1) := by decide +kernel
theorem dX5_push_31 : decode cX5_push 31 = .ok (.getfield 18, 3) := by decide +kernel
theorem dX5_push_34 : decode cX5_push 34 = .ok (.iconst 1, 1) := by decide +kernel
theorem dX5_push_35 : decode cX5_push 35 = .ok (.iadd, 1) := by decide +kernel
theorem dX5_push_36 : decode cX5_push 36 = .ok (.putfield 18, 3) := by decide +kernel
theorem dX5_push_39 : decode cX5_push 39 = .ok (.return_, 1) := by decide +kernel
set_option maxHeartbeats 4000000 in
set_option maxRecDepth 100000 in
theorem c_Past_push (l : Launch) (G : fm_G) (N : Nat) (M : fm_M) (M' : fm_M) (hf : pPast_push N M = some M') : fm_Met l yX5_push cX5_push 2 none { frames := 2, cells := 0, slots := 0, locals := 48 } shC G [.ref (G.2.1 59), .ref (G.2.1 15)] M none M' := by
  refine fm_enter (by decide) (Nat.le_of_ble_eq_true rfl) ?_
  intro p e s m args below meth c ls C E hl
  have hl : lv_has ls 2 [(0, .ref (G.2.1 59)), (1, .ref (G.2.1 15))] := hl
  have J16 : ∀ (M : fm_M) (H : Heap) (locs : List Loc) (ls : Array Slot), fm_Wd shC G M s H locs → lv_has ls 2 [(0, .ref (G.2.1 59)), (1, .ref (G.2.1 15))] → pPast_push_J16 N M = some M' → W p l e { frames := 2, cells := 0, slots := 0, locals := 48 } s m args below meth c H locs 0 0 (fm_Z below shC G args s none M') (F0 m 16 ls []) := by
    intro M H locs ls E hl hf
    unfold pPast_push_J16 at hf
    refine lv_aload_n C.1 C.2.1 dX5_push_16 rfl (lv_at hl 0 rfl) ?_
    refine fm_getr C E lf_X5_12 hC_59 rfl dX5_push_17 ?_
    refine lv_aload_n C.1 C.2.1 dX5_push_20 rfl (lv_at hl 0 rfl) ?_
    refine fm_geti C E lf_X5_18 hC_59 rfl dX5_push_21 ?_
    obtain ⟨h24, q24, e24, hf⟩ := fm_ix_e hf
    refine fm_pald' C E e24 hC_60 h24 dX5_push_24 ?_
    refine lv_aload_n C.1 C.2.1 dX5_push_25 rfl (lv_at hl 1 rfl) ?_
    obtain ⟨M26, hc26, hf⟩ := fm_bd hf
    refine fm_callV C E [.ref _] [] lm_X5_25 wk_X7_copyFrom (c_Scene_copyFrom l G N _ _ _ _ hc26) (fm_sc_at (fm_cf_s hc26)) rfl rfl rfl hl.1 (by simp [Value.category]) ⟨⟨rfl, rfl⟩, by decide, by decide⟩ ⟨by decide, by decide⟩ dX5_push_26 rfl (fun H locs E => ?_)
    refine W.eq (g2 := F0 m 29 ls []) rfl ?_
    refine lv_aload_n C.1 C.2.1 dX5_push_29 rfl (lv_at hl 0 rfl) ?_
    refine lv_dup C.1 C.2.1 dX5_push_30 rfl ?_
    refine fm_geti C E lf_X5_18 hC_59 rfl dX5_push_31 ?_
    refine lv_iconst (v := 1) C.1 C.2.1 dX5_push_34 (by decide) ?_
    refine lv_iadd C.1 C.2.1 dX5_push_35 ?_
    obtain ⟨M36, e36, hf⟩ := fm_pt_s hf
    refine fm_put' C E e36 lp_X5_18 hC_59 rfl dX5_push_36 (fun H locs E => ?_)
    obtain rfl := fm_rt1 hf
    exact fm_vret C E rfl dX5_push_39
  unfold pPast_push at hf
  refine lv_aload_n C.1 C.2.1 dX5_push_0 rfl (lv_at hl 0 rfl) ?_
  refine fm_geti C E lf_X5_18 hC_59 rfl dX5_push_1 ?_
  refine lv_aload_n C.1 C.2.1 dX5_push_4 rfl (lv_at hl 0 rfl) ?_
  refine fm_getr C E lf_X5_12 hC_59 rfl dX5_push_5 ?_
  refine fm_alen C E hC_60 (by decide) (v := 8) (by decide) dX5_push_8 ?_
  refine lv_icmp_ne (tgt := 16) C.1 C.2.1 dX5_push_9 (by decide) (fun hc9 => ?_) (fun hc9 => ?_)
  · have hf := fm_in' hf hc9
    exact J16 _ _ _ _ E (lv_sub hl [0, 1] rfl) hf
  · have hf := fm_ip hf hc9
    refine lv_aload_n C.1 C.2.1 dX5_push_12 rfl (lv_at hl 0 rfl) ?_
    obtain ⟨M13, hc13, hf⟩ := fm_bd hf
    refine fm_callV C E [] [] lm_X5_22 wk_X5_dropOldest (c_Past_dropOldest l G N _ _ hc13) hC_59 rfl rfl rfl hl.1 (by simp [Value.category]) ⟨⟨rfl, rfl⟩, by decide, by decide⟩ ⟨by decide, by decide⟩ dX5_push_13 rfl (fun H locs E => ?_)
    refine W.eq (g2 := F0 m 16 ls []) rfl ?_
    exact J16 _ _ _ _ E (lv_sub hl [0, 1] rfl) hf
theorem dX5_pop_0 : decode cX5_pop 0 = .ok (.aload_n 0, 1) := by decide +kernel
theorem dX5_pop_1 : decode cX5_pop 1 = .ok (.getfield 18, 3) := by decide +kernel
theorem dX5_pop_4 : decode cX5_pop 4 = .ok (.ifCond .ne 5, 3) := by decide +kernel
theorem dX5_pop_7 : decode cX5_pop 7 = .ok (.iconst (-1), 1) := by decide +kernel
theorem dX5_pop_8 : decode cX5_pop 8 = .ok (.ireturn, 1) := by decide +kernel
theorem dX5_pop_9 : decode cX5_pop 9 = .ok (.aload_n 0, 1) := by decide +kernel
theorem dX5_pop_10 : decode cX5_pop 10 = .ok (.dup, 1) := by decide +kernel
theorem dX5_pop_11 : decode cX5_pop 11 = .ok (.getfield 18, 3) := by decide +kernel
theorem dX5_pop_14 : decode cX5_pop 14 = .ok (.iconst 1, 1) := by decide +kernel
theorem dX5_pop_15 : decode cX5_pop 15 = .ok (.isub, 1) := by decide +kernel
theorem dX5_pop_16 : decode cX5_pop 16 = .ok (.putfield 18, 3) := by decide +kernel
theorem dX5_pop_19 : decode cX5_pop 19 = .ok (.aload_n 1, 1) := by decide +kernel
theorem dX5_pop_20 : decode cX5_pop 20 = .ok (.aload_n 0, 1) := by decide +kernel
theorem dX5_pop_21 : decode cX5_pop 21 = .ok (.getfield 12, 3) := by decide +kernel
theorem dX5_pop_24 : decode cX5_pop 24 = .ok (.aload_n 0, 1) := by decide +kernel
theorem dX5_pop_25 : decode cX5_pop 25 = .ok (.getfield 18, 3) := by decide +kernel
theorem dX5_pop_28 : decode cX5_pop 28 = .ok (.aaload, 1) := by decide +kernel
theorem dX5_pop_29 : decode cX5_pop 29 = .ok (.invokevirtual 25, 3) := by decide +kernel
theorem dX5_pop_32 : decode cX5_pop 32 = .ok (.aload_n 0, 1) := by decide +kernel
theorem dX5_pop_33 : decode cX5_pop 33 = .ok (.getfield 18, 3) := by decide +kernel
theorem dX5_pop_36 : decode cX5_pop 36 = .ok (.ireturn, 1) := by decide +kernel
set_option maxHeartbeats 4000000 in
set_option maxRecDepth 100000 in
theorem c_Past_pop (l : Launch) (G : fm_G) (N : Nat) (M : fm_M) (r : Int32) (M' : fm_M) (hf : pPast_pop N M = some (r, M')) : fm_Met l yX5_pop cX5_pop 2 (some .int) { frames := 2, cells := 0, slots := 0, locals := 48 } shC G [.ref (G.2.1 59), .ref (G.2.1 1)] M (some (.int r)) M' := by
  refine fm_enter (by decide) (Nat.le_of_ble_eq_true rfl) ?_
  intro p e s m args below meth c ls C E hl
  have hl : lv_has ls 2 [(0, .ref (G.2.1 59)), (1, .ref (G.2.1 1))] := hl
  unfold pPast_pop at hf
  refine lv_aload_n C.1 C.2.1 dX5_pop_0 rfl (lv_at hl 0 rfl) ?_
  refine fm_geti C E lf_X5_18 hC_59 rfl dX5_pop_1 ?_
  refine lv_if_ne (tgt := 9) C.1 C.2.1 dX5_pop_4 (by decide) (fun hc4 => ?_) (fun hc4 => ?_)
  · have hf := fm_in' hf hc4
    refine lv_aload_n C.1 C.2.1 dX5_pop_9 rfl (lv_at hl 0 rfl) ?_
    refine lv_dup C.1 C.2.1 dX5_pop_10 rfl ?_
    refine fm_geti C E lf_X5_18 hC_59 rfl dX5_pop_11 ?_
    refine lv_iconst (v := 1) C.1 C.2.1 dX5_pop_14 (by decide) ?_
    refine lv_isub C.1 C.2.1 dX5_pop_15 ?_
    obtain ⟨M16, e16, hf⟩ := fm_pt_s hf
    refine fm_put' C E e16 lp_X5_18 hC_59 rfl dX5_pop_16 (fun H locs E => ?_)
    refine lv_aload_n C.1 C.2.1 dX5_pop_19 rfl (lv_at hl 1 rfl) ?_
    refine lv_aload_n C.1 C.2.1 dX5_pop_20 rfl (lv_at hl 0 rfl) ?_
    refine fm_getr C E lf_X5_12 hC_59 rfl dX5_pop_21 ?_
    refine lv_aload_n C.1 C.2.1 dX5_pop_24 rfl (lv_at hl 0 rfl) ?_
    refine fm_geti C E lf_X5_18 hC_59 rfl dX5_pop_25 ?_
    obtain ⟨h28, q28, e28, hf⟩ := fm_ix_e hf
    refine fm_pald' C E e28 hC_60 h28 dX5_pop_28 ?_
    obtain ⟨M29, hc29, hf⟩ := fm_bd hf
    refine fm_callV C E [.ref _] [] lm_X5_25 wk_X7_copyFrom (c_Scene_copyFrom l G N _ _ _ _ hc29) hC_1 rfl rfl rfl hl.1 (by simp [Value.category]) ⟨⟨rfl, rfl⟩, by decide, by decide⟩ ⟨by decide, by decide⟩ dX5_pop_29 rfl (fun H locs E => ?_)
    refine W.eq (g2 := F0 m 32 ls []) rfl ?_
    refine lv_aload_n C.1 C.2.1 dX5_pop_32 rfl (lv_at hl 0 rfl) ?_
    refine fm_geti C E lf_X5_18 hC_59 rfl dX5_pop_33 ?_
    obtain ⟨rfl, rfl⟩ := fm_rt2 hf
    exact fm_iret C E rfl rfl dX5_pop_36
  · have hf := fm_ip hf hc4
    refine lv_iconst (v := (-1)) C.1 C.2.1 dX5_pop_7 (by decide) ?_
    obtain ⟨rfl, rfl⟩ := fm_rt2 hf
    exact fm_iret C E rfl rfl dX5_pop_8
theorem dX6_readMics_0 : decode cX6_readMics 0 = .ok (.aload_n 1, 1) := by decide +kernel
theorem dX6_readMics_1 : decode cX6_readMics 1 = .ok (.iconst 0, 1) := by decide +kernel
theorem dX6_readMics_2 : decode cX6_readMics 2 = .ok (.putfield 15, 3) := by decide +kernel
theorem dX6_readMics_5 : decode cX6_readMics 5 = .ok (.iconst (-1), 1) := by decide +kernel
theorem dX6_readMics_6 : decode cX6_readMics 6 = .ok (.istore_n 2, 1) := by decide +kernel
theorem dX6_readMics_7 : decode cX6_readMics 7 = .ok (.iconst 0, 1) := by decide +kernel
theorem dX6_readMics_8 : decode cX6_readMics 8 = .ok (.istore_n 3, 1) := by decide +kernel
theorem dX6_readMics_9 : decode cX6_readMics 9 = .ok (.iload_n 3, 1) := by decide +kernel
theorem dX6_readMics_10 : decode cX6_readMics 10 = .ok (.aload_n 0, 1) := by decide +kernel
theorem dX6_readMics_11 : decode cX6_readMics 11 = .ok (.getfield 9, 3) := by decide +kernel
theorem dX6_readMics_14 : decode cX6_readMics 14 = .ok (.getfield 21, 3) := by decide +kernel
theorem dX6_readMics_17 : decode cX6_readMics 17 = .ok (.if_icmp .ge 126, 3) := by decide +kernel
theorem dX6_readMics_20 : decode cX6_readMics 20 = .ok (.aload_n 0, 1) := by decide +kernel
theorem dX6_readMics_21 : decode cX6_readMics 21 = .ok (.getfield 9, 3) := by decide +kernel
theorem dX6_readMics_24 : decode cX6_readMics 24 = .ok (.iload_n 3, 1) := by decide +kernel
theorem dX6_readMics_25 : decode cX6_readMics 25 = .ok (.invokevirtual 26, 3) := by decide +kernel
theorem dX6_readMics_28 : decode cX6_readMics 28 = .ok (.ifCond .ge 7, 3) := by decide +kernel
theorem dX6_readMics_31 : decode cX6_readMics 31 = .ok (.iconst (-1), 1) := by decide +kernel
theorem dX6_readMics_32 : decode cX6_readMics 32 = .ok (.iload_n 3, 1) := by decide +kernel
theorem dX6_readMics_33 : decode cX6_readMics 33 = .ok (.isub, 1) := by decide +kernel
theorem dX6_readMics_34 : decode cX6_readMics 34 = .ok (.ireturn, 1) := by decide +kernel
theorem dX6_readMics_35 : decode cX6_readMics 35 = .ok (.aload_n 0, 1) := by decide +kernel
theorem dX6_readMics_36 : decode cX6_readMics 36 = .ok (.getfield 9, 3) := by decide +kernel
theorem dX6_readMics_39 : decode cX6_readMics 39 = .ok (.iload_n 3, 1) := by decide +kernel
theorem dX6_readMics_40 : decode cX6_readMics 40 = .ok (.iconst 2, 1) := by decide +kernel
theorem dX6_readMics_41 : decode cX6_readMics 41 = .ok (.invokevirtual 30, 3) := by decide +kernel
theorem dX6_readMics_44 : decode cX6_readMics 44 = .ok (.istore 4, 2) := by decide +kernel
theorem dX6_readMics_46 : decode cX6_readMics 46 = .ok (.aload_n 0, 1) := by decide +kernel
theorem dX6_readMics_47 : decode cX6_readMics 47 = .ok (.getfield 9, 3) := by decide +kernel
theorem dX6_readMics_50 : decode cX6_readMics 50 = .ok (.iload_n 3, 1) := by decide +kernel
theorem dX6_readMics_51 : decode cX6_readMics 51 = .ok (.iconst 1, 1) := by decide +kernel
theorem dX6_readMics_52 : decode cX6_readMics 52 = .ok (.iadd, 1) := by decide +kernel
theorem dX6_readMics_53 : decode cX6_readMics 53 = .ok (.invokevirtual 26, 3) := by decide +kernel
theorem dX6_readMics_56 : decode cX6_readMics 56 = .ok (.ifCond .lt 19, 3) := by decide +kernel
theorem dX6_readMics_59 : decode cX6_readMics 59 = .ok (.iload 4, 2) := by decide +kernel
theorem dX6_readMics_61 : decode cX6_readMics 61 = .ok (.getstatic 34, 3) := by decide +kernel
theorem dX6_readMics_64 : decode cX6_readMics 64 = .ok (.iconst 0, 1) := by decide +kernel
theorem dX6_readMics_65 : decode cX6_readMics 65 = .ok (.iaload, 1) := by decide +kernel
theorem dX6_readMics_66 : decode cX6_readMics 66 = .ok (.if_icmp .gt 9, 3) := by decide +kernel
theorem dX6_readMics_69 : decode cX6_readMics 69 = .ok (.iload 4, 2) := by decide +kernel
theorem dX6_readMics_71 : decode cX6_readMics 71 = .ok (.iload_n 2, 1) := by decide +kernel
theorem dX6_readMics_72 : decode cX6_readMics 72 = .ok (.if_icmp .gt 8, 3) := by decide +kernel
theorem dX6_readMics_75 : decode cX6_readMics 75 = .ok (.bipush (-2), 2) := by decide +kernel
theorem dX6_readMics_77 : decode cX6_readMics 77 = .ok (.iload_n 3, 1) := by decide +kernel
theorem dX6_readMics_78 : decode cX6_readMics 78 = .ok (.isub, 1) := by decide +kernel
theorem dX6_readMics_79 : decode cX6_readMics 79 = .ok (.ireturn, 1) := by decide +kernel
theorem dX6_readMics_80 : decode cX6_readMics 80 = .ok (.aload_n 1, 1) := by decide +kernel
theorem dX6_readMics_81 : decode cX6_readMics 81 = .ok (.iload 4, 2) := by decide +kernel
theorem dX6_readMics_83 : decode cX6_readMics 83 = .ok (.invokevirtual 38, 3) := by decide +kernel
theorem dX6_readMics_86 : decode cX6_readMics 86 = .ok (.pop, 1) := by decide +kernel
theorem dX6_readMics_87 : decode cX6_readMics 87 = .ok (.iload 4, 2) := by decide +kernel
theorem dX6_readMics_89 : decode cX6_readMics 89 = .ok (.istore_n 2, 1) := by decide +kernel
theorem dX6_readMics_90 : decode cX6_readMics 90 = .ok (.iload_n 3, 1) := by decide +kernel
theorem dX6_readMics_91 : decode cX6_readMics 91 = .ok (.iconst 2, 1) := by decide +kernel
theorem dX6_readMics_92 : decode cX6_readMics 92 = .ok (.iadd, 1) := by decide +kernel
theorem dX6_readMics_93 : decode cX6_readMics 93 = .ok (.aload_n 0, 1) := by decide +kernel
theorem dX6_readMics_94 : decode cX6_readMics 94 = .ok (.getfield 9, 3) := by decide +kernel
theorem dX6_readMics_97 : decode cX6_readMics 97 = .ok (.getfield 21, 3) := by decide +kernel
theorem dX6_readMics_100 : decode cX6_readMics 100 = .ok (.if_icmp .ne 8, 3) := by decide +kernel
theorem dX6_readMics_103 : decode cX6_readMics 103 = .ok (.aload_n 1, 1) := by decide +kernel
theorem dX6_readMics_104 : decode cX6_readMics 104 = .ok (.getfield 15, 3) := by decide +kernel
theorem dX6_readMics_107 : decode cX6_readMics 107 = .ok (.ireturn, 1) := by decide +kernel
theorem dX6_readMics_108 : decode cX6_readMics 108 = .ok (.aload_n 0, 1) := by decide +kernel
theorem dX6_readMics_109 : decode cX6_readMics 109 = .ok (.getfield 9, 3) := by decide +kernel
theorem dX6_readMics_112 : decode cX6_readMics 112 = .ok (.iload_n 3, 1) := by decide +kernel
theorem dX6_readMics_113 : decode cX6_readMics 113 = .ok (.iconst 2, 1) := by decide +kernel
theorem dX6_readMics_114 : decode cX6_readMics 114 = .ok (.iadd, 1) := by decide +kernel
theorem dX6_readMics_115 : decode cX6_readMics 115 = .ok (.invokevirtual 42, 3) := by decide +kernel
theorem dX6_readMics_118 : decode cX6_readMics 118 = .ok (.bipush 44, 2) := by decide +kernel
theorem dX6_readMics_120 : decode cX6_readMics 120 = .ok (.if_icmp .ne 12, 3) := by decide +kernel
theorem dX6_readMics_123 : decode cX6_readMics 123 = .ok (.aload_n 1, 1) := by decide +kernel
theorem dX6_readMics_124 : decode cX6_readMics 124 = .ok (.getfield 15, 3) := by decide +kernel
theorem dX6_readMics_127 : decode cX6_readMics 127 = .ok (.bipush 6, 2) := by decide +kernel
theorem dX6_readMics_129 : decode cX6_readMics 129 = .ok (.if_icmp .ne 8, 3) := by decide +kernel
theorem dX6_readMics_132 : decode cX6_readMics 132 = .ok (.bipush (-3), 2) := by decide +kernel
theorem dX6_readMics_134 : decode cX6_readMics 134 = .ok (.iload_n 3, 1) := by decide +kernel
theorem dX6_readMics_135 : decode cX6_readMics 135 = .ok (.isub, 1) := by decide +kernel
theorem dX6_readMics_136 : decode cX6_readMics 136 = .ok (.ireturn, 1) := by decide +kernel
theorem dX6_readMics_137 : decode cX6_readMics 137 = .ok (.iinc 3 3, 3) := by decide +kernel
theorem dX6_readMics_140 : decode cX6_readMics 140 = .ok (.goto (-131), 3) := by decide +kernel
theorem dX6_readMics_143 : decode cX6_readMics 143 = .ok (.aload_n 0, 1) := by decide +kernel
theorem dX6_readMics_144 : decode cX6_readMics 144 = .ok (.getfield 9, 3) := by decide +kernel
theorem dX6_readMics_147 : decode cX6_readMics 147 = .ok (.getfield 21, 3) := by decide +kernel
theorem dX6_readMics_150 : decode cX6_readMics 150 = .ok (.ifCond .ne 7, 3) := by decide +kernel
theorem dX6_readMics_153 : decode cX6_readMics 153 = .ok (.iconst 0, 1) := by decide +kernel
theorem dX6_readMics_154 : decode cX6_readMics 154 = .ok (.goto 12, 3) := by decide +kernel
theorem dX6_readMics_157 : decode cX6_readMics 157 = .ok (.iconst (-1), 1) := by decide +kernel
theorem dX6_readMics_158 : decode cX6_readMics 158 = .ok (.aload_n 0, 1) := by decide +kernel
theorem dX6_readMics_159 : decode cX6_readMics 159 = .ok (.getfield 9, 3) := by decide +kernel
theorem dX6_readMics_162 : decode cX6_readMics 162 = .ok (.getfield 21, 3) := by decide +kernel
theorem dX6_readMics_165 : decode cX6_readMics 165 = .ok (.isub, 1) := by decide +kernel
theorem dX6_readMics_166 : decode cX6_readMics 166 = .ok (.ireturn, 1) := by decide +kernel
set_option maxHeartbeats 4000000 in
set_option maxRecDepth 100000 in
theorem c_Reader_readMics (l : Launch) (G : fm_G) (N : Nat) (M : fm_M) (r : Int32) (M' : fm_M) (hf : pReader_readMics N M = some (r, M')) : fm_Met l yX6_readMics cX6_readMics 5 (some .int) { frames := 3, cells := 0, slots := 0, locals := 67 } shC G [.ref (G.2.1 175), .ref (G.2.1 1)] M (some (.int r)) M' := by
  refine fm_enter (by decide) (Nat.le_of_ble_eq_true rfl) ?_
  intro p e s m args below meth c ls C E hl
  have hl : lv_has ls 5 [(0, .ref (G.2.1 175)), (1, .ref (G.2.1 1))] := hl
  have L9 : ∀ (n9 : Nat) (v2 : Int32) (v3 : Int32) (M : fm_M) (H : Heap) (locs : List Loc) (ls : Array Slot), fm_Wd shC G M s H locs → lv_has ls 5 [(0, .ref (G.2.1 175)), (1, .ref (G.2.1 1)), (2, .int v2), (3, .int v3)] → fm_lp (pReader_readMics_L9 N) n9 (v2, v3, M) = some (r, M') → W p l e { frames := 3, cells := 0, slots := 0, locals := 67 } s m args below meth c H locs 0 0 (fm_Z below shC G args s (some (.int r)) M') (F0 m 9 ls []) := by
    intro  n9
    induction n9 with
    | zero => intro v2 v3 M H locs ls E hl hf; exact fm_lp_0 hf
    | succ n9 ih9 =>
      intro v2 v3 M H locs ls E hl hf
      have hf : pReader_readMics_L9b N (fm_lp (pReader_readMics_L9 N) n9) v2 v3 M = some (r, M') := hf
      unfold pReader_readMics_L9b at hf
      refine lv_iload_n C.1 C.2.1 dX6_readMics_9 rfl (lv_at hl 3 rfl) ?_
      refine lv_aload_n C.1 C.2.1 dX6_readMics_10 rfl (lv_at hl 0 rfl) ?_
      refine fm_getr C E lf_X6_9 hC_175 rfl dX6_readMics_11 ?_
      refine fm_geti C E lf_X6_21 hC_173 rfl dX6_readMics_14 ?_
      refine lv_icmp_ge (tgt := 143) C.1 C.2.1 dX6_readMics_17 (by decide) (fun hc17 => ?_) (fun hc17 => ?_)
      · have hf := fm_ip hf hc17
        refine lv_aload_n C.1 C.2.1 dX6_readMics_143 rfl (lv_at hl 0 rfl) ?_
        refine fm_getr C E lf_X6_9 hC_175 rfl dX6_readMics_144 ?_
        refine fm_geti C E lf_X6_21 hC_173 rfl dX6_readMics_147 ?_
        refine lv_if_ne (tgt := 157) C.1 C.2.1 dX6_readMics_150 (by decide) (fun hc150 => ?_) (fun hc150 => ?_)
        · have hf := fm_in' hf hc150
          refine lv_iconst (v := (-1)) C.1 C.2.1 dX6_readMics_157 (by decide) ?_
          refine lv_aload_n C.1 C.2.1 dX6_readMics_158 rfl (lv_at hl 0 rfl) ?_
          refine fm_getr C E lf_X6_9 hC_175 rfl dX6_readMics_159 ?_
          refine fm_geti C E lf_X6_21 hC_173 rfl dX6_readMics_162 ?_
          refine lv_isub C.1 C.2.1 dX6_readMics_165 ?_
          obtain ⟨rfl, rfl⟩ := fm_rt2 hf
          exact fm_iret C E rfl rfl dX6_readMics_166
        · have hf := fm_ip hf hc150
          refine lv_iconst (v := 0) C.1 C.2.1 dX6_readMics_153 (by decide) ?_
          refine lv_goto (tgt := 166) C.1 C.2.1 dX6_readMics_154 (by decide) ?_
          obtain ⟨rfl, rfl⟩ := fm_rt2 hf
          exact fm_iret C E rfl rfl dX6_readMics_166
      · have hf := fm_in' hf hc17
        refine lv_aload_n C.1 C.2.1 dX6_readMics_20 rfl (lv_at hl 0 rfl) ?_
        refine fm_getr C E lf_X6_9 hC_175 rfl dX6_readMics_21 ?_
        refine lv_iload_n C.1 C.2.1 dX6_readMics_24 rfl (lv_at hl 3 rfl) ?_
        obtain ⟨x25, hc25, hf⟩ := fm_bd hf
        refine fm_callV C E [.int _] [] lm_X6_26 wk_X4_digit (c_Letters_digit l G _ _ _  hc25) hC_173 rfl rfl rfl hl.1 (by simp [Value.category]) ⟨⟨rfl, rfl⟩, by decide, by decide⟩ ⟨by decide, by decide⟩ dX6_readMics_25 rfl (fun H locs E => ?_)
        refine W.eq (g2 := F0 m 28 ls (.int x25 :: [])) rfl ?_
        refine lv_if_ge (tgt := 35) C.1 C.2.1 dX6_readMics_28 (by decide) (fun hc28 => ?_) (fun hc28 => ?_)
        · have hf := fm_ip hf hc28
          refine lv_aload_n C.1 C.2.1 dX6_readMics_35 rfl (lv_at hl 0 rfl) ?_
          refine fm_getr C E lf_X6_9 hC_175 rfl dX6_readMics_36 ?_
          refine lv_iload_n C.1 C.2.1 dX6_readMics_39 rfl (lv_at hl 3 rfl) ?_
          refine lv_iconst (v := 2) C.1 C.2.1 dX6_readMics_40 (by decide) ?_
          obtain ⟨x41, hc41, hf⟩ := fm_bd hf
          refine fm_callV C E [.int _, .int _] [] lm_X6_30 wk_X4_number (c_Letters_number l G N _ _ _ _  hc41) hC_173 rfl rfl rfl hl.1 (by simp [Value.category]) ⟨⟨rfl, rfl⟩, by decide, by decide⟩ ⟨by decide, by decide⟩ dX6_readMics_41 rfl (fun H locs E => ?_)
          refine W.eq (g2 := F0 m 44 ls (.int x41 :: [])) rfl ?_
          refine lv_istore (lv' := [(4, .int _), (0, .ref _), (1, .ref _), (2, .int _), (3, .int _)]) C.1 C.2.1 dX6_readMics_44 hl (by decide) rfl (fun ls hl => ?_)
          refine lv_aload_n C.1 C.2.1 dX6_readMics_46 rfl (lv_at hl 1 rfl) ?_
          refine fm_getr C E lf_X6_9 hC_175 rfl dX6_readMics_47 ?_
          refine lv_iload_n C.1 C.2.1 dX6_readMics_50 rfl (lv_at hl 4 rfl) ?_
          refine lv_iconst (v := 1) C.1 C.2.1 dX6_readMics_51 (by decide) ?_
          refine lv_iadd C.1 C.2.1 dX6_readMics_52 ?_
          obtain ⟨x53, hc53, hf⟩ := fm_bd hf
          refine fm_callV C E [.int _] [] lm_X6_26 wk_X4_digit (c_Letters_digit l G _ _ _  hc53) hC_173 rfl rfl rfl hl.1 (by simp [Value.category]) ⟨⟨rfl, rfl⟩, by decide, by decide⟩ ⟨by decide, by decide⟩ dX6_readMics_53 rfl (fun H locs E => ?_)
          refine W.eq (g2 := F0 m 56 ls (.int x53 :: [])) rfl ?_
          refine lv_if_lt (tgt := 75) C.1 C.2.1 dX6_readMics_56 (by decide) (fun hc56 => ?_) (fun hc56 => ?_)
          · have hf := fm_ip hf hc56
            refine lv_bipush (v := (-2)) C.1 C.2.1 dX6_readMics_75 (by decide) ?_
            refine lv_iload_n C.1 C.2.1 dX6_readMics_77 rfl (lv_at hl 4 rfl) ?_
            refine lv_isub C.1 C.2.1 dX6_readMics_78 ?_
            obtain ⟨rfl, rfl⟩ := fm_rt2 hf
            exact fm_iret C E rfl rfl dX6_readMics_79
          · have hf := fm_in' hf hc56
            refine lv_iload C.1 C.2.1 dX6_readMics_59 (lv_at hl 0 rfl) ?_
            refine fm_gets C E (List.mem_of_getElem? (l := fm_Zs) (i := 1) rfl) (Or.inr ⟨_, wf_390⟩) dX6_readMics_61 (fun t61 hT61 => ?_)
            refine lv_iconst (v := 0) C.1 C.2.1 dX6_readMics_64 (by decide) ?_
            refine fm_tldc C E hT61 40 (by decide) (by decide) dX6_readMics_65 ?_
            refine lv_icmp_gt (tgt := 75) C.1 C.2.1 dX6_readMics_66 (by decide) (fun hc66 => ?_) (fun hc66 => ?_)
            · have hf := fm_ip hf hc66
              refine lv_bipush (v := (-2)) C.1 C.2.1 dX6_readMics_75 (by decide) ?_
              refine lv_iload_n C.1 C.2.1 dX6_readMics_77 rfl (lv_at hl 4 rfl) ?_
              refine lv_isub C.1 C.2.1 dX6_readMics_78 ?_
              obtain ⟨rfl, rfl⟩ := fm_rt2 hf
              exact fm_iret C E rfl rfl dX6_readMics_79
            · have hf := fm_in' hf hc66
              refine lv_iload C.1 C.2.1 dX6_readMics_69 (lv_at hl 0 rfl) ?_
              refine lv_iload_n C.1 C.2.1 dX6_readMics_71 rfl (lv_at hl 3 rfl) ?_
              refine lv_icmp_gt (tgt := 80) C.1 C.2.1 dX6_readMics_72 (by decide) (fun hc72 => ?_) (fun hc72 => ?_)
              · have hf := fm_ip hf hc72
                refine lv_aload_n C.1 C.2.1 dX6_readMics_80 rfl (lv_at hl 2 rfl) ?_
                refine lv_iload C.1 C.2.1 dX6_readMics_81 (lv_at hl 0 rfl) ?_
                obtain ⟨⟨x83, M83⟩, hc83, hf⟩ := fm_bd hf
                dsimp only at hf
                refine fm_callV C E [.int _] [] lm_X6_38 wk_X7_addMic (c_Scene_addMic l G N _ _ _ _ hc83) hC_1 rfl rfl rfl hl.1 (by simp [Value.category]) ⟨⟨rfl, rfl⟩, by decide, by decide⟩ ⟨by decide, by decide⟩ dX6_readMics_83 rfl (fun H locs E => ?_)
                refine W.eq (g2 := F0 m 86 ls (.int x83 :: [])) rfl ?_
                refine lv_pop C.1 C.2.1 dX6_readMics_86 rfl ?_
                refine lv_iload C.1 C.2.1 dX6_readMics_87 (lv_at hl 0 rfl) ?_
                refine lv_istore_n (lv' := [(2, .int _), (4, .int _), (0, .ref _), (1, .ref _), (3, .int _)]) C.1 C.2.1 dX6_readMics_89 rfl hl (by decide) rfl (fun ls hl => ?_)
                refine lv_iload_n C.1 C.2.1 dX6_readMics_90 rfl (lv_at hl 4 rfl) ?_
                refine lv_iconst (v := 2) C.1 C.2.1 dX6_readMics_91 (by decide) ?_
                refine lv_iadd C.1 C.2.1 dX6_readMics_92 ?_
                refine lv_aload_n C.1 C.2.1 dX6_readMics_93 rfl (lv_at hl 2 rfl) ?_
                refine fm_getr C E lf_X6_9 hC_175 rfl dX6_readMics_94 ?_
                refine fm_geti C E lf_X6_21 hC_173 rfl dX6_readMics_97 ?_
                refine lv_icmp_ne (tgt := 108) C.1 C.2.1 dX6_readMics_100 (by decide) (fun hc100 => ?_) (fun hc100 => ?_)
                · have hf := fm_in' hf hc100
                  refine lv_aload_n C.1 C.2.1 dX6_readMics_108 rfl (lv_at hl 2 rfl) ?_
                  refine fm_getr C E lf_X6_9 hC_175 rfl dX6_readMics_109 ?_
                  refine lv_iload_n C.1 C.2.1 dX6_readMics_112 rfl (lv_at hl 4 rfl) ?_
                  refine lv_iconst (v := 2) C.1 C.2.1 dX6_readMics_113 (by decide) ?_
                  refine lv_iadd C.1 C.2.1 dX6_readMics_114 ?_
                  obtain ⟨x115, hc115, hf⟩ := fm_bd hf
                  refine fm_callV C E [.int _] [] lm_X6_42 wk_X4_at (c_Letters_at l G _ _ _  hc115) hC_173 rfl rfl rfl hl.1 (by simp [Value.category]) ⟨⟨rfl, rfl⟩, by decide, by decide⟩ ⟨by decide, by decide⟩ dX6_readMics_115 rfl (fun H locs E => ?_)
                  refine W.eq (g2 := F0 m 118 ls (.int x115 :: [])) rfl ?_
                  refine lv_bipush (v := 44) C.1 C.2.1 dX6_readMics_118 (by decide) ?_
                  refine lv_icmp_ne (tgt := 132) C.1 C.2.1 dX6_readMics_120 (by decide) (fun hc120 => ?_) (fun hc120 => ?_)
                  · have hf := fm_in' hf hc120
                    refine lv_bipush (v := (-3)) C.1 C.2.1 dX6_readMics_132 (by decide) ?_
                    refine lv_iload_n C.1 C.2.1 dX6_readMics_134 rfl (lv_at hl 4 rfl) ?_
                    refine lv_isub C.1 C.2.1 dX6_readMics_135 ?_
                    obtain ⟨rfl, rfl⟩ := fm_rt2 hf
                    exact fm_iret C E rfl rfl dX6_readMics_136
                  · have hf := fm_ip hf hc120
                    refine lv_aload_n C.1 C.2.1 dX6_readMics_123 rfl (lv_at hl 3 rfl) ?_
                    refine fm_geti C E lf_X6_15 hC_1 rfl dX6_readMics_124 ?_
                    refine lv_bipush (v := 6) C.1 C.2.1 dX6_readMics_127 (by decide) ?_
                    refine lv_icmp_ne (tgt := 137) C.1 C.2.1 dX6_readMics_129 (by decide) (fun hc129 => ?_) (fun hc129 => ?_)
                    · have hf := fm_in' hf hc129
                      refine fm_iinc C (v := 3) (lv' := [(3, .int _), (2, .int _), (4, .int _), (0, .ref _), (1, .ref _)]) (k := 4) hl rfl (by decide) (by decide) rfl dX6_readMics_137 (fun ls hl => ?_)
                      refine lv_goto (tgt := 9) C.1 C.2.1 dX6_readMics_140 (by decide) ?_
                      exact ih9 _ _ _ _ _ _ E (lv_sub hl [3, 4, 1, 0] rfl) hf
                    · have hf := fm_ip hf hc129
                      refine lv_bipush (v := (-3)) C.1 C.2.1 dX6_readMics_132 (by decide) ?_
                      refine lv_iload_n C.1 C.2.1 dX6_readMics_134 rfl (lv_at hl 4 rfl) ?_
                      refine lv_isub C.1 C.2.1 dX6_readMics_135 ?_
                      obtain ⟨rfl, rfl⟩ := fm_rt2 hf
                      exact fm_iret C E rfl rfl dX6_readMics_136
                · have hf := fm_ip hf hc100
                  refine lv_aload_n C.1 C.2.1 dX6_readMics_103 rfl (lv_at hl 3 rfl) ?_
                  refine fm_geti C E lf_X6_15 hC_1 rfl dX6_readMics_104 ?_
                  obtain ⟨rfl, rfl⟩ := fm_rt2 hf
                  exact fm_iret C E rfl rfl dX6_readMics_107
              · have hf := fm_in' hf hc72
                refine lv_bipush (v := (-2)) C.1 C.2.1 dX6_readMics_75 (by decide) ?_
                refine lv_iload_n C.1 C.2.1 dX6_readMics_77 rfl (lv_at hl 4 rfl) ?_
                refine lv_isub C.1 C.2.1 dX6_readMics_78 ?_
                obtain ⟨rfl, rfl⟩ := fm_rt2 hf
                exact fm_iret C E rfl rfl dX6_readMics_79
        · have hf := fm_in' hf hc28
          refine lv_iconst (v := (-1)) C.1 C.2.1 dX6_readMics_31 (by decide) ?_
          refine lv_iload_n C.1 C.2.1 dX6_readMics_32 rfl (lv_at hl 3 rfl) ?_
          refine lv_isub C.1 C.2.1 dX6_readMics_33 ?_
          obtain ⟨rfl, rfl⟩ := fm_rt2 hf
          exact fm_iret C E rfl rfl dX6_readMics_34
  unfold pReader_readMics at hf
  refine lv_aload_n C.1 C.2.1 dX6_readMics_0 rfl (lv_at hl 1 rfl) ?_
  refine lv_iconst (v := 0) C.1 C.2.1 dX6_readMics_1 (by decide) ?_
  obtain ⟨M2, e2, hf⟩ := fm_pt_s hf
  refine fm_put' C E e2 lp_X6_15 hC_1 rfl dX6_readMics_2 (fun H locs E => ?_)
  refine lv_iconst (v := (-1)) C.1 C.2.1 dX6_readMics_5 (by decide) ?_
  refine lv_istore_n (lv' := [(2, .int _), (0, .ref _), (1, .ref _)]) C.1 C.2.1 dX6_readMics_6 rfl hl (by decide) rfl (fun ls hl => ?_)
  refine lv_iconst (v := 0) C.1 C.2.1 dX6_readMics_7 (by decide) ?_
  refine lv_istore_n (lv' := [(3, .int _), (2, .int _), (0, .ref _), (1, .ref _)]) C.1 C.2.1 dX6_readMics_8 rfl hl (by decide) rfl (fun ls hl => ?_)
  exact L9  N _ _ _ _ _ _ E (lv_sub hl [2, 3, 1, 0] rfl) hf
theorem dX6_readSource_0 : decode cX6_readSource 0 = .ok (.aload_n 0, 1) := by decide +kernel
theorem dX6_readSource_1 : decode cX6_readSource 1 = .ok (.getfield 9, 3) := by decide +kernel
theorem dX6_readSource_4 : decode cX6_readSource 4 = .ok (.iload_n 2, 1) := by decide +kernel
theorem dX6_readSource_5 : decode cX6_readSource 5 = .ok (.invokevirtual 56, 3) := by decide +kernel
theorem dX6_readSource_8 : decode cX6_readSource 8 = .ok (.ifCond .ne 7, 3) := by decide +kernel
theorem dX6_readSource_11 : decode cX6_readSource 11 = .ok (.iconst (-1), 1) := by decide +kernel
theorem dX6_readSource_12 : decode cX6_readSource 12 = .ok (.iload_n 2, 1) := by decide +kernel
theorem dX6_readSource_13 : decode cX6_readSource 13 = .ok (.isub, 1) := by decide +kernel
theorem dX6_readSource_14 : decode cX6_readSource 14 = .ok (.ireturn, 1) := by decide +kernel
theorem dX6_readSource_15 : decode cX6_readSource 15 = .ok (.aload_n 0, 1) := by decide +kernel
theorem dX6_readSource_16 : decode cX6_readSource 16 = .ok (.getfield 9, 3) := by decide +kernel
theorem dX6_readSource_19 : decode cX6_readSource 19 = .ok (.iload_n 2, 1) := by decide +kernel
theorem dX6_readSource_20 : decode cX6_readSource 20 = .ok (.iconst 1, 1) := by decide +kernel
theorem dX6_readSource_21 : decode cX6_readSource 21 = .ok (.iadd, 1) := by decide +kernel
theorem dX6_readSource_22 : decode cX6_readSource 22 = .ok (.invokevirtual 26, 3) := by decide +kernel
theorem dX6_readSource_25 : decode cX6_readSource 25 = .ok (.iconst 0, 1) := by decide +kernel
theorem dX6_readSource_26 : decode cX6_readSource 26 = .ok (.bipush 8, 2) := by decide +kernel
theorem dX6_readSource_28 : decode cX6_readSource 28 = .ok (.invokestatic 59, 3) := by decide +kernel
theorem dX6_readSource_31 : decode cX6_readSource 31 = .ok (.ifCond .ne 8, 3) := by decide +kernel
theorem dX6_readSource_34 : decode cX6_readSource 34 = .ok (.bipush (-2), 2) := by decide +kernel
theorem dX6_readSource_36 : decode cX6_readSource 36 = .ok (.iload_n 2, 1) := by decide +kernel
theorem dX6_readSource_37 : decode cX6_readSource 37 = .ok (.isub, 1) := by decide +kernel
theorem dX6_readSource_38 : decode cX6_readSource 38 = .ok (.ireturn, 1) := by decide +kernel
theorem dX6_readSource_39 : decode cX6_readSource 39 = .ok (.aload_n 0, 1) := by decide +kernel
theorem dX6_readSource_40 : decode cX6_readSource 40 = .ok (.getfield 9, 3) := by decide +kernel
theorem dX6_readSource_43 : decode cX6_readSource 43 = .ok (.iload_n 2, 1) := by decide +kernel
theorem dX6_readSource_44 : decode cX6_readSource 44 = .ok (.iconst 2, 1) := by decide +kernel
theorem dX6_readSource_45 : decode cX6_readSource 45 = .ok (.iadd, 1) := by decide +kernel
theorem dX6_readSource_46 : decode cX6_readSource 46 = .ok (.invokevirtual 26, 3) := by decide +kernel
theorem dX6_readSource_49 : decode cX6_readSource 49 = .ok (.iconst 1, 1) := by decide +kernel
theorem dX6_readSource_50 : decode cX6_readSource 50 = .ok (.if_icmp .ge 8, 3) := by decide +kernel
theorem dX6_readSource_53 : decode cX6_readSource 53 = .ok (.bipush (-3), 2) := by decide +kernel
theorem dX6_readSource_55 : decode cX6_readSource 55 = .ok (.iload_n 2, 1) := by decide +kernel
theorem dX6_readSource_56 : decode cX6_readSource 56 = .ok (.isub, 1) := by decide +kernel
theorem dX6_readSource_57 : decode cX6_readSource 57 = .ok (.ireturn, 1) := by decide +kernel
theorem dX6_readSource_58 : decode cX6_readSource 58 = .ok (.aload_n 1, 1) := by decide +kernel
theorem dX6_readSource_59 : decode cX6_readSource 59 = .ok (.iconst 0, 1) := by decide +kernel
theorem dX6_readSource_60 : decode cX6_readSource 60 = .ok (.aload_n 0, 1) := by decide +kernel
theorem dX6_readSource_61 : decode cX6_readSource 61 = .ok (.getfield 9, 3) := by decide +kernel
theorem dX6_readSource_64 : decode cX6_readSource 64 = .ok (.iload_n 2, 1) := by decide +kernel
theorem dX6_readSource_65 : decode cX6_readSource 65 = .ok (.invokevirtual 63, 3) := by decide +kernel
theorem dX6_readSource_68 : decode cX6_readSource 68 = .ok (.iastore, 1) := by decide +kernel
theorem dX6_readSource_69 : decode cX6_readSource 69 = .ok (.aload_n 1, 1) := by decide +kernel
theorem dX6_readSource_70 : decode cX6_readSource 70 = .ok (.iconst 1, 1) := by decide +kernel
theorem dX6_readSource_71 : decode cX6_readSource 71 = .ok (.aload_n 0, 1) := by decide +kernel
theorem dX6_readSource_72 : decode cX6_readSource 72 = .ok (.getfield 9, 3) := by decide +kernel
theorem dX6_readSource_75 : decode cX6_readSource 75 = .ok (.iload_n 2, 1) := by decide +kernel
theorem dX6_readSource_76 : decode cX6_readSource 76 = .ok (.iconst 2, 1) := by decide +kernel
theorem dX6_readSource_77 : decode cX6_readSource 77 = .ok (.iadd, 1) := by decide +kernel
theorem dX6_readSource_78 : decode cX6_readSource 78 = .ok (.invokevirtual 26, 3) := by decide +kernel
theorem dX6_readSource_81 : decode cX6_readSource 81 = .ok (.iastore, 1) := by decide +kernel
theorem dX6_readSource_82 : decode cX6_readSource 82 = .ok (.iconst 0, 1) := by decide +kernel
theorem dX6_readSource_83 : decode cX6_readSource 83 = .ok (.istore_n 3, 1) := by decide +kernel
theorem dX6_readSource_84 : decode cX6_readSource 84 = .ok (.iload_n 3, 1) := by decide +kernel
theorem dX6_readSource_85 : decode cX6_readSource 85 = .ok (.bipush 12, 2) := by decide +kernel
theorem dX6_readSource_87 : decode cX6_readSource 87 = .ok (.if_icmp .ge 49, 3) := by decide +kernel
theorem dX6_readSource_90 : decode cX6_readSource 90 = .ok (.aload_n 0, 1) := by decide +kernel
theorem dX6_readSource_91 : decode cX6_readSource 91 = .ok (.getfield 9, 3) := by decide +kernel
theorem dX6_readSource_94 : decode cX6_readSource 94 = .ok (.iload_n 2, 1) := by decide +kernel
theorem dX6_readSource_95 : decode cX6_readSource 95 = .ok (.iconst 3, 1) := by decide +kernel
theorem dX6_readSource_96 : decode cX6_readSource 96 = .ok (.iadd, 1) := by decide +kernel
theorem dX6_readSource_97 : decode cX6_readSource 97 = .ok (.iload_n 3, 1) := by decide +kernel
theorem dX6_readSource_98 : decode cX6_readSource 98 = .ok (.iadd, 1) := by decide +kernel
theorem dX6_readSource_99 : decode cX6_readSource 99 = .ok (.invokevirtual 26, 3) := by decide +kernel
theorem dX6_readSource_102 : decode cX6_readSource 102 = .ok (.iconst 0, 1) := by decide +kernel
theorem dX6_readSource_103 : decode cX6_readSource 103 = .ok (.bipush 8, 2) := by decide +kernel
theorem dX6_readSource_105 : decode cX6_readSource 105 = .ok (.invokestatic 59, 3) := by decide +kernel
theorem dX6_readSource_108 : decode cX6_readSource 108 = .ok (.ifCond .eq 28, 3) := by decide +kernel
theorem dX6_readSource_111 : decode cX6_readSource 111 = .ok (.aload_n 1, 1) := by decide +kernel
theorem dX6_readSource_112 : decode cX6_readSource 112 = .ok (.iconst 3, 1) := by decide +kernel
theorem dX6_readSource_113 : decode cX6_readSource 113 = .ok (.iload_n 3, 1) := by decide +kernel
theorem dX6_readSource_114 : decode cX6_readSource 114 = .ok (.iadd, 1) := by decide +kernel
theorem dX6_readSource_115 : decode cX6_readSource 115 = .ok (.aload_n 0, 1) := by decide +kernel
theorem dX6_readSource_116 : decode cX6_readSource 116 = .ok (.getfield 9, 3) := by decide +kernel
theorem dX6_readSource_119 : decode cX6_readSource 119 = .ok (.iload_n 2, 1) := by decide +kernel
theorem dX6_readSource_120 : decode cX6_readSource 120 = .ok (.iconst 3, 1) := by decide +kernel
theorem dX6_readSource_121 : decode cX6_readSource 121 = .ok (.iadd, 1) := by decide +kernel
theorem dX6_readSource_122 : decode cX6_readSource 122 = .ok (.iload_n 3, 1) := by decide +kernel
theorem dX6_readSource_123 : decode cX6_readSource 123 = .ok (.iadd, 1) := by decide +kernel
theorem dX6_readSource_124 : decode cX6_readSource 124 = .ok (.invokevirtual 26, 3) := by decide +kernel
theorem dX6_readSource_127 : decode cX6_readSource 127 = .ok (.iconst 4, 1) := by decide +kernel
theorem dX6_readSource_128 : decode cX6_readSource 128 = .ok (.isub, 1) := by decide +kernel
theorem dX6_readSource_129 : decode cX6_readSource 129 = .ok (.iastore, 1) := by decide +kernel
theorem dX6_readSource_130 : decode cX6_readSource 130 = .ok (.iinc 3 1, 3) := by decide +kernel
theorem dX6_readSource_133 : decode cX6_readSource 133 = .ok (.goto (-49), 3) := by decide +kernel
theorem dX6_readSource_136 : decode cX6_readSource 136 = .ok (.aload_n 1, 1) := by decide +kernel
theorem dX6_readSource_137 : decode cX6_readSource 137 = .ok (.iconst 2, 1) := by decide +kernel
theorem dX6_readSource_138 : decode cX6_readSource 138 = .ok (.iload_n 3, 1) := by decide +kernel
theorem dX6_readSource_139 : decode cX6_readSource 139 = .ok (.iastore, 1) := by decide +kernel
theorem dX6_readSource_140 : decode cX6_readSource 140 = .ok (.iload_n 3, 1) := by decide +kernel
theorem dX6_readSource_141 : decode cX6_readSource 141 = .ok (.iconst 2, 1) := by decide +kernel
theorem dX6_readSource_142 : decode cX6_readSource 142 = .ok (.if_icmp .ge 13, 3) := by decide +kernel
theorem dX6_readSource_145 : decode cX6_readSource 145 = .ok (.iconst (-1), 1) := by decide +kernel
theorem dX6_readSource_146 : decode cX6_readSource 146 = .ok (.iload_n 2, 1) := by decide +kernel
theorem dX6_readSource_147 : decode cX6_readSource 147 = .ok (.iconst 3, 1) := by decide +kernel
theorem dX6_readSource_148 : decode cX6_readSource 148 = .ok (.iadd, 1) := by decide +kernel
theorem dX6_readSource_149 : decode cX6_readSource 149 = .ok (.iload_n 3, 1) := by decide +kernel
theorem dX6_readSource_150 : decode cX6_readSource 150 = .ok (.iadd, 1) := by decide +kernel
theorem dX6_readSource_151 : decode cX6_readSource 151 = .ok (.isub, 1) := by decide +kernel
theorem dX6_readSource_152 : decode cX6_readSource 152 = .ok (.goto 4, 3) := by decide +kernel
theorem dX6_readSource_155 : decode cX6_readSource 155 = .ok (.iload_n 3, 1) := by decide +kernel
theorem dX6_readSource_156 : decode cX6_readSource 156 = .ok (.ireturn, 1) := by decide +kernel
set_option maxHeartbeats 4000000 in
set_option maxRecDepth 100000 in
theorem c_Reader_readSource (l : Launch) (G : fm_G) (N : Nat) (M : fm_M) (v1 : Nat) (v2 : Int32) (r : Int32) (M' : fm_M) (hf : pReader_readSource N M v1 v2 = some (r, M')) : fm_Met l yX6_readSource cX6_readSource 4 (some .int) { frames := 3, cells := 0, slots := 0, locals := 64 } shC G [.ref (G.2.1 175), .ref (G.2.1 v1), .int v2] M (some (.int r)) M' := by
  refine fm_enter (by decide) (Nat.le_of_ble_eq_true rfl) ?_
  intro p e s m args below meth c ls C E hl
  have hl : lv_has ls 4 [(0, .ref (G.2.1 175)), (1, .ref (G.2.1 v1)), (2, .int v2)] := hl
  have J136 : ∀ (M : fm_M) (v1 : Nat) (v2 : Int32) (v3 : Int32) (H : Heap) (locs : List Loc) (ls : Array Slot), fm_Wd shC G M s H locs → lv_has ls 4 [(1, .ref (G.2.1 v1)), (2, .int v2), (3, .int v3)] → pReader_readSource_J136 N M v1 v2 v3 = some (r, M') → W p l e { frames := 3, cells := 0, slots := 0, locals := 64 } s m args below meth c H locs 0 0 (fm_Z below shC G args s (some (.int r)) M') (F0 m 136 ls []) := by
    intro M v1 v2 v3 H locs ls E hl hf
    unfold pReader_readSource_J136 at hf
    refine lv_aload_n C.1 C.2.1 dX6_readSource_136 rfl (lv_at hl 0 rfl) ?_
    refine lv_iconst (v := 2) C.1 C.2.1 dX6_readSource_137 (by decide) ?_
    refine lv_iload_n C.1 C.2.1 dX6_readSource_138 rfl (lv_at hl 2 rfl) ?_
    obtain ⟨h139, M139, e139, hf⟩ := fm_st_e hf
    obtain ⟨_, hk139⟩ := fm_n_at h139
    refine fm_iast' C E e139 hk139 h139 dX6_readSource_139 (fun H locs E => ?_)
    refine lv_iload_n C.1 C.2.1 dX6_readSource_140 rfl (lv_at hl 2 rfl) ?_
    refine lv_iconst (v := 2) C.1 C.2.1 dX6_readSource_141 (by decide) ?_
    refine lv_icmp_ge (tgt := 155) C.1 C.2.1 dX6_readSource_142 (by decide) (fun hc142 => ?_) (fun hc142 => ?_)
    · have hf := fm_ip hf hc142
      refine lv_iload_n C.1 C.2.1 dX6_readSource_155 rfl (lv_at hl 2 rfl) ?_
      obtain ⟨rfl, rfl⟩ := fm_rt2 hf
      exact fm_iret C E rfl rfl dX6_readSource_156
    · have hf := fm_in' hf hc142
      refine lv_iconst (v := (-1)) C.1 C.2.1 dX6_readSource_145 (by decide) ?_
      refine lv_iload_n C.1 C.2.1 dX6_readSource_146 rfl (lv_at hl 1 rfl) ?_
      refine lv_iconst (v := 3) C.1 C.2.1 dX6_readSource_147 (by decide) ?_
      refine lv_iadd C.1 C.2.1 dX6_readSource_148 ?_
      refine lv_iload_n C.1 C.2.1 dX6_readSource_149 rfl (lv_at hl 2 rfl) ?_
      refine lv_iadd C.1 C.2.1 dX6_readSource_150 ?_
      refine lv_isub C.1 C.2.1 dX6_readSource_151 ?_
      refine lv_goto (tgt := 156) C.1 C.2.1 dX6_readSource_152 (by decide) ?_
      obtain ⟨rfl, rfl⟩ := fm_rt2 hf
      exact fm_iret C E rfl rfl dX6_readSource_156
  have L84 : ∀ (w84_v1 : Nat) (w84_v2 : Int32) (n84 : Nat) (v3 : Int32) (M : fm_M) (H : Heap) (locs : List Loc) (ls : Array Slot), fm_Wd shC G M s H locs → lv_has ls 4 [(0, .ref (G.2.1 175)), (1, .ref (G.2.1 w84_v1)), (2, .int w84_v2), (3, .int v3)] → fm_lp (pReader_readSource_L84 N w84_v1 w84_v2) n84 (v3, M) = some (r, M') → W p l e { frames := 3, cells := 0, slots := 0, locals := 64 } s m args below meth c H locs 0 0 (fm_Z below shC G args s (some (.int r)) M') (F0 m 84 ls []) := by
    intro w84_v1 w84_v2 n84
    induction n84 with
    | zero => intro v3 M H locs ls E hl hf; exact fm_lp_0 hf
    | succ n84 ih84 =>
      intro v3 M H locs ls E hl hf
      have hf : pReader_readSource_L84b N w84_v1 w84_v2 (fm_lp (pReader_readSource_L84 N w84_v1 w84_v2) n84) v3 M = some (r, M') := hf
      unfold pReader_readSource_L84b at hf
      refine lv_iload_n C.1 C.2.1 dX6_readSource_84 rfl (lv_at hl 3 rfl) ?_
      refine lv_bipush (v := 12) C.1 C.2.1 dX6_readSource_85 (by decide) ?_
      refine lv_icmp_ge (tgt := 136) C.1 C.2.1 dX6_readSource_87 (by decide) (fun hc87 => ?_) (fun hc87 => ?_)
      · have hf := fm_ip hf hc87
        exact J136 _ _ _ _ _ _ _ E (lv_sub hl [1, 2, 3] rfl) hf
      · have hf := fm_in' hf hc87
        refine lv_aload_n C.1 C.2.1 dX6_readSource_90 rfl (lv_at hl 0 rfl) ?_
        refine fm_getr C E lf_X6_9 hC_175 rfl dX6_readSource_91 ?_
        refine lv_iload_n C.1 C.2.1 dX6_readSource_94 rfl (lv_at hl 2 rfl) ?_
        refine lv_iconst (v := 3) C.1 C.2.1 dX6_readSource_95 (by decide) ?_
        refine lv_iadd C.1 C.2.1 dX6_readSource_96 ?_
        refine lv_iload_n C.1 C.2.1 dX6_readSource_97 rfl (lv_at hl 3 rfl) ?_
        refine lv_iadd C.1 C.2.1 dX6_readSource_98 ?_
        obtain ⟨x99, hc99, hf⟩ := fm_bd hf
        refine fm_callV C E [.int _] [] lm_X6_26 wk_X4_digit (c_Letters_digit l G _ _ _  hc99) hC_173 rfl rfl rfl hl.1 (by simp [Value.category]) ⟨⟨rfl, rfl⟩, by decide, by decide⟩ ⟨by decide, by decide⟩ dX6_readSource_99 rfl (fun H locs E => ?_)
        refine W.eq (g2 := F0 m 102 ls (.int x99 :: [])) rfl ?_
        refine lv_iconst (v := 0) C.1 C.2.1 dX6_readSource_102 (by decide) ?_
        refine lv_bipush (v := 8) C.1 C.2.1 dX6_readSource_103 (by decide) ?_
        obtain ⟨x105, hc105, hf⟩ := fm_bd hf
        refine fm_callS C E [.int _, .int _, .int _] [] lm_X6_59 wk_X9_within (c_MicRow_within l G _ _ _ _ _  hc105) rfl hl.1 (by simp [Value.category]) ⟨⟨rfl, rfl⟩, by decide, by decide⟩ ⟨by decide, by decide⟩ dX6_readSource_105 rfl (fun H locs E => ?_)
        refine W.eq (g2 := F0 m 108 ls (.int x105 :: [])) rfl ?_
        refine lv_if_eq (tgt := 136) C.1 C.2.1 dX6_readSource_108 (by decide) (fun hc108 => ?_) (fun hc108 => ?_)
        · have hf := fm_ip hf hc108
          exact J136 _ _ _ _ _ _ _ E (lv_sub hl [1, 2, 3] rfl) hf
        · have hf := fm_in' hf hc108
          refine lv_aload_n C.1 C.2.1 dX6_readSource_111 rfl (lv_at hl 1 rfl) ?_
          refine lv_iconst (v := 3) C.1 C.2.1 dX6_readSource_112 (by decide) ?_
          refine lv_iload_n C.1 C.2.1 dX6_readSource_113 rfl (lv_at hl 3 rfl) ?_
          refine lv_iadd C.1 C.2.1 dX6_readSource_114 ?_
          refine lv_aload_n C.1 C.2.1 dX6_readSource_115 rfl (lv_at hl 0 rfl) ?_
          refine fm_getr C E lf_X6_9 hC_175 rfl dX6_readSource_116 ?_
          refine lv_iload_n C.1 C.2.1 dX6_readSource_119 rfl (lv_at hl 2 rfl) ?_
          refine lv_iconst (v := 3) C.1 C.2.1 dX6_readSource_120 (by decide) ?_
          refine lv_iadd C.1 C.2.1 dX6_readSource_121 ?_
          refine lv_iload_n C.1 C.2.1 dX6_readSource_122 rfl (lv_at hl 3 rfl) ?_
          refine lv_iadd C.1 C.2.1 dX6_readSource_123 ?_
          obtain ⟨x124, hc124, hf⟩ := fm_bd hf
          refine fm_callV C E [.int _] [.int _, .ref _] lm_X6_26 wk_X4_digit (c_Letters_digit l G _ _ _  hc124) hC_173 rfl rfl rfl hl.1 (by simp [Value.category]) ⟨⟨rfl, rfl⟩, by decide, by decide⟩ ⟨by decide, by decide⟩ dX6_readSource_124 rfl (fun H locs E => ?_)
          refine W.eq (g2 := F0 m 127 ls (.int x124 :: [.int _, .ref _])) rfl ?_
          refine lv_iconst (v := 4) C.1 C.2.1 dX6_readSource_127 (by decide) ?_
          refine lv_isub C.1 C.2.1 dX6_readSource_128 ?_
          obtain ⟨h129, M129, e129, hf⟩ := fm_st_e hf
          obtain ⟨_, hk129⟩ := fm_n_at h129
          refine fm_iast' C E e129 hk129 h129 dX6_readSource_129 (fun H locs E => ?_)
          refine fm_iinc C (v := 1) (lv' := [(3, .int _), (0, .ref _), (1, .ref _), (2, .int _)]) (k := 3) hl rfl (by decide) (by decide) rfl dX6_readSource_130 (fun ls hl => ?_)
          refine lv_goto (tgt := 84) C.1 C.2.1 dX6_readSource_133 (by decide) ?_
          exact ih84 _ _ _ _ _ E (lv_sub hl [1, 2, 3, 0] rfl) hf
  unfold pReader_readSource at hf
  refine lv_aload_n C.1 C.2.1 dX6_readSource_0 rfl (lv_at hl 0 rfl) ?_
  refine fm_getr C E lf_X6_9 hC_175 rfl dX6_readSource_1 ?_
  refine lv_iload_n C.1 C.2.1 dX6_readSource_4 rfl (lv_at hl 2 rfl) ?_
  obtain ⟨x5, hc5, hf⟩ := fm_bd hf
  refine fm_callV C E [.int _] [] lm_X6_56 wk_X4_isPlusOrMinus (c_Letters_isPlusOrMinus l G _ _ _  hc5) hC_173 rfl rfl rfl hl.1 (by simp [Value.category]) ⟨⟨rfl, rfl⟩, by decide, by decide⟩ ⟨by decide, by decide⟩ dX6_readSource_5 rfl (fun H locs E => ?_)
  refine W.eq (g2 := F0 m 8 ls (.int x5 :: [])) rfl ?_
  refine lv_if_ne (tgt := 15) C.1 C.2.1 dX6_readSource_8 (by decide) (fun hc8 => ?_) (fun hc8 => ?_)
  · have hf := fm_in' hf hc8
    refine lv_aload_n C.1 C.2.1 dX6_readSource_15 rfl (lv_at hl 0 rfl) ?_
    refine fm_getr C E lf_X6_9 hC_175 rfl dX6_readSource_16 ?_
    refine lv_iload_n C.1 C.2.1 dX6_readSource_19 rfl (lv_at hl 2 rfl) ?_
    refine lv_iconst (v := 1) C.1 C.2.1 dX6_readSource_20 (by decide) ?_
    refine lv_iadd C.1 C.2.1 dX6_readSource_21 ?_
    obtain ⟨x22, hc22, hf⟩ := fm_bd hf
    refine fm_callV C E [.int _] [] lm_X6_26 wk_X4_digit (c_Letters_digit l G _ _ _  hc22) hC_173 rfl rfl rfl hl.1 (by simp [Value.category]) ⟨⟨rfl, rfl⟩, by decide, by decide⟩ ⟨by decide, by decide⟩ dX6_readSource_22 rfl (fun H locs E => ?_)
    refine W.eq (g2 := F0 m 25 ls (.int x22 :: [])) rfl ?_
    refine lv_iconst (v := 0) C.1 C.2.1 dX6_readSource_25 (by decide) ?_
    refine lv_bipush (v := 8) C.1 C.2.1 dX6_readSource_26 (by decide) ?_
    obtain ⟨x28, hc28, hf⟩ := fm_bd hf
    refine fm_callS C E [.int _, .int _, .int _] [] lm_X6_59 wk_X9_within (c_MicRow_within l G _ _ _ _ _  hc28) rfl hl.1 (by simp [Value.category]) ⟨⟨rfl, rfl⟩, by decide, by decide⟩ ⟨by decide, by decide⟩ dX6_readSource_28 rfl (fun H locs E => ?_)
    refine W.eq (g2 := F0 m 31 ls (.int x28 :: [])) rfl ?_
    refine lv_if_ne (tgt := 39) C.1 C.2.1 dX6_readSource_31 (by decide) (fun hc31 => ?_) (fun hc31 => ?_)
    · have hf := fm_in' hf hc31
      refine lv_aload_n C.1 C.2.1 dX6_readSource_39 rfl (lv_at hl 0 rfl) ?_
      refine fm_getr C E lf_X6_9 hC_175 rfl dX6_readSource_40 ?_
      refine lv_iload_n C.1 C.2.1 dX6_readSource_43 rfl (lv_at hl 2 rfl) ?_
      refine lv_iconst (v := 2) C.1 C.2.1 dX6_readSource_44 (by decide) ?_
      refine lv_iadd C.1 C.2.1 dX6_readSource_45 ?_
      obtain ⟨x46, hc46, hf⟩ := fm_bd hf
      refine fm_callV C E [.int _] [] lm_X6_26 wk_X4_digit (c_Letters_digit l G _ _ _  hc46) hC_173 rfl rfl rfl hl.1 (by simp [Value.category]) ⟨⟨rfl, rfl⟩, by decide, by decide⟩ ⟨by decide, by decide⟩ dX6_readSource_46 rfl (fun H locs E => ?_)
      refine W.eq (g2 := F0 m 49 ls (.int x46 :: [])) rfl ?_
      refine lv_iconst (v := 1) C.1 C.2.1 dX6_readSource_49 (by decide) ?_
      refine lv_icmp_ge (tgt := 58) C.1 C.2.1 dX6_readSource_50 (by decide) (fun hc50 => ?_) (fun hc50 => ?_)
      · have hf := fm_ip hf hc50
        refine lv_aload_n C.1 C.2.1 dX6_readSource_58 rfl (lv_at hl 1 rfl) ?_
        refine lv_iconst (v := 0) C.1 C.2.1 dX6_readSource_59 (by decide) ?_
        refine lv_aload_n C.1 C.2.1 dX6_readSource_60 rfl (lv_at hl 0 rfl) ?_
        refine fm_getr C E lf_X6_9 hC_175 rfl dX6_readSource_61 ?_
        refine lv_iload_n C.1 C.2.1 dX6_readSource_64 rfl (lv_at hl 2 rfl) ?_
        obtain ⟨x65, hc65, hf⟩ := fm_bd hf
        refine fm_callV C E [.int _] [.int _, .ref _] lm_X6_63 wk_X4_signedDigit (c_Letters_signedDigit l G _ _ _  hc65) hC_173 rfl rfl rfl hl.1 (by simp [Value.category]) ⟨⟨rfl, rfl⟩, by decide, by decide⟩ ⟨by decide, by decide⟩ dX6_readSource_65 rfl (fun H locs E => ?_)
        refine W.eq (g2 := F0 m 68 ls (.int x65 :: [.int _, .ref _])) rfl ?_
        obtain ⟨h68, M68, e68, hf⟩ := fm_st_e hf
        obtain ⟨_, hk68⟩ := fm_n_at h68
        refine fm_iast' C E e68 hk68 h68 dX6_readSource_68 (fun H locs E => ?_)
        refine lv_aload_n C.1 C.2.1 dX6_readSource_69 rfl (lv_at hl 1 rfl) ?_
        refine lv_iconst (v := 1) C.1 C.2.1 dX6_readSource_70 (by decide) ?_
        refine lv_aload_n C.1 C.2.1 dX6_readSource_71 rfl (lv_at hl 0 rfl) ?_
        refine fm_getr C E lf_X6_9 hC_175 rfl dX6_readSource_72 ?_
        refine lv_iload_n C.1 C.2.1 dX6_readSource_75 rfl (lv_at hl 2 rfl) ?_
        refine lv_iconst (v := 2) C.1 C.2.1 dX6_readSource_76 (by decide) ?_
        refine lv_iadd C.1 C.2.1 dX6_readSource_77 ?_
        obtain ⟨x78, hc78, hf⟩ := fm_bd hf
        refine fm_callV C E [.int _] [.int _, .ref _] lm_X6_26 wk_X4_digit (c_Letters_digit l G _ _ _  hc78) hC_173 rfl rfl rfl hl.1 (by simp [Value.category]) ⟨⟨rfl, rfl⟩, by decide, by decide⟩ ⟨by decide, by decide⟩ dX6_readSource_78 rfl (fun H locs E => ?_)
        refine W.eq (g2 := F0 m 81 ls (.int x78 :: [.int _, .ref _])) rfl ?_
        obtain ⟨h81, M81, e81, hf⟩ := fm_st_e hf
        obtain ⟨_, hk81⟩ := fm_n_at h81
        refine fm_iast' C E e81 hk81 h81 dX6_readSource_81 (fun H locs E => ?_)
        refine lv_iconst (v := 0) C.1 C.2.1 dX6_readSource_82 (by decide) ?_
        refine lv_istore_n (lv' := [(3, .int _), (0, .ref _), (1, .ref _), (2, .int _)]) C.1 C.2.1 dX6_readSource_83 rfl hl (by decide) rfl (fun ls hl => ?_)
        exact L84 _ _ N _ _ _ _ _ E (lv_sub hl [1, 2, 3, 0] rfl) hf
      · have hf := fm_in' hf hc50
        refine lv_bipush (v := (-3)) C.1 C.2.1 dX6_readSource_53 (by decide) ?_
        refine lv_iload_n C.1 C.2.1 dX6_readSource_55 rfl (lv_at hl 2 rfl) ?_
        refine lv_isub C.1 C.2.1 dX6_readSource_56 ?_
        obtain ⟨rfl, rfl⟩ := fm_rt2 hf
        exact fm_iret C E rfl rfl dX6_readSource_57
    · have hf := fm_ip hf hc31
      refine lv_bipush (v := (-2)) C.1 C.2.1 dX6_readSource_34 (by decide) ?_
      refine lv_iload_n C.1 C.2.1 dX6_readSource_36 rfl (lv_at hl 2 rfl) ?_
      refine lv_isub C.1 C.2.1 dX6_readSource_37 ?_
      obtain ⟨rfl, rfl⟩ := fm_rt2 hf
      exact fm_iret C E rfl rfl dX6_readSource_38
  · have hf := fm_ip hf hc8
    refine lv_iconst (v := (-1)) C.1 C.2.1 dX6_readSource_11 (by decide) ?_
    refine lv_iload_n C.1 C.2.1 dX6_readSource_12 rfl (lv_at hl 2 rfl) ?_
    refine lv_isub C.1 C.2.1 dX6_readSource_13 ?_
    obtain ⟨rfl, rfl⟩ := fm_rt2 hf
    exact fm_iret C E rfl rfl dX6_readSource_14
theorem dX6_fits_0 : decode cX6_fits 0 = .ok (.iload_n 1, 1) := by decide +kernel
theorem dX6_fits_1 : decode cX6_fits 1 = .ok (.bipush 43, 2) := by decide +kernel
theorem dX6_fits_3 : decode cX6_fits 3 = .ok (.if_icmp .ne 12, 3) := by decide +kernel
theorem dX6_fits_6 : decode cX6_fits 6 = .ok (.aload_n 0, 1) := by decide +kernel
theorem dX6_fits_7 : decode cX6_fits 7 = .ok (.getfield 9, 3) := by decide +kernel
theorem dX6_fits_10 : decode cX6_fits 10 = .ok (.iload_n 2, 1) := by decide +kernel
theorem dX6_fits_11 : decode cX6_fits 11 = .ok (.invokevirtual 56, 3) := by decide +kernel
theorem dX6_fits_14 : decode cX6_fits 14 = .ok (.ireturn, 1) := by decide +kernel
theorem dX6_fits_15 : decode cX6_fits 15 = .ok (.aload_n 0, 1) := by decide +kernel
theorem dX6_fits_16 : decode cX6_fits 16 = .ok (.getfield 9, 3) := by decide +kernel
theorem dX6_fits_19 : decode cX6_fits 19 = .ok (.iload_n 2, 1) := by decide +kernel
theorem dX6_fits_20 : decode cX6_fits 20 = .ok (.invokevirtual 26, 3) := by decide +kernel
theorem dX6_fits_23 : decode cX6_fits 23 = .ok (.iconst 0, 1) := by decide +kernel
theorem dX6_fits_24 : decode cX6_fits 24 = .ok (.iload_n 1, 1) := by decide +kernel
theorem dX6_fits_25 : decode cX6_fits 25 = .ok (.bipush 48, 2) := by decide +kernel
theorem dX6_fits_27 : decode cX6_fits 27 = .ok (.isub, 1) := by decide +kernel
theorem dX6_fits_28 : decode cX6_fits 28 = .ok (.invokestatic 59, 3) := by decide +kernel
theorem dX6_fits_31 : decode cX6_fits 31 = .ok (.ireturn, 1) := by decide +kernel
set_option maxHeartbeats 4000000 in
set_option maxRecDepth 100000 in
theorem c_Reader_fits (l : Launch) (G : fm_G) (M : fm_M) (v1 : Int32) (v2 : Int32) (r : Int32) (hf : pReader_fits M v1 v2 = some r) : fm_Met l yX6_fits cX6_fits 3 (some .boolean) { frames := 2, cells := 0, slots := 0, locals := 43 } shC G [.ref (G.2.1 175), .int v1, .int v2] M (some (.int r)) M := by
  refine fm_enter (by decide) (Nat.le_of_ble_eq_true rfl) ?_
  intro p e s m args below meth c ls C E hl
  have hl : lv_has ls 3 [(0, .ref (G.2.1 175)), (1, .int v1), (2, .int v2)] := hl
  unfold pReader_fits at hf
  refine lv_iload_n C.1 C.2.1 dX6_fits_0 rfl (lv_at hl 1 rfl) ?_
  refine lv_bipush (v := 43) C.1 C.2.1 dX6_fits_1 (by decide) ?_
  refine lv_icmp_ne (tgt := 15) C.1 C.2.1 dX6_fits_3 (by decide) (fun hc3 => ?_) (fun hc3 => ?_)
  · have hf := fm_in' hf hc3
    refine lv_aload_n C.1 C.2.1 dX6_fits_15 rfl (lv_at hl 0 rfl) ?_
    refine fm_getr C E lf_X6_9 hC_175 rfl dX6_fits_16 ?_
    refine lv_iload_n C.1 C.2.1 dX6_fits_19 rfl (lv_at hl 2 rfl) ?_
    obtain ⟨x20, hc20, hf⟩ := fm_bd hf
    refine fm_callV C E [.int _] [] lm_X6_26 wk_X4_digit (c_Letters_digit l G _ _ _  hc20) hC_173 rfl rfl rfl hl.1 (by simp [Value.category]) ⟨⟨rfl, rfl⟩, by decide, by decide⟩ ⟨by decide, by decide⟩ dX6_fits_20 rfl (fun H locs E => ?_)
    refine W.eq (g2 := F0 m 23 ls (.int x20 :: [])) rfl ?_
    refine lv_iconst (v := 0) C.1 C.2.1 dX6_fits_23 (by decide) ?_
    refine lv_iload_n C.1 C.2.1 dX6_fits_24 rfl (lv_at hl 1 rfl) ?_
    refine lv_bipush (v := 48) C.1 C.2.1 dX6_fits_25 (by decide) ?_
    refine lv_isub C.1 C.2.1 dX6_fits_27 ?_
    obtain ⟨x28, hc28, hf⟩ := fm_bd hf
    refine fm_callS C E [.int _, .int _, .int _] [] lm_X6_59 wk_X9_within (c_MicRow_within l G _ _ _ _ _  hc28) rfl hl.1 (by simp [Value.category]) ⟨⟨rfl, rfl⟩, by decide, by decide⟩ ⟨by decide, by decide⟩ dX6_fits_28 rfl (fun H locs E => ?_)
    refine W.eq (g2 := F0 m 31 ls (.int x28 :: [])) rfl ?_
    obtain ⟨hn31, hf⟩ := fm_bo_s hf
    obtain rfl := fm_rt1 hf
    exact fm_iret C E rfl hn31 dX6_fits_31
  · have hf := fm_ip hf hc3
    refine lv_aload_n C.1 C.2.1 dX6_fits_6 rfl (lv_at hl 0 rfl) ?_
    refine fm_getr C E lf_X6_9 hC_175 rfl dX6_fits_7 ?_
    refine lv_iload_n C.1 C.2.1 dX6_fits_10 rfl (lv_at hl 2 rfl) ?_
    obtain ⟨x11, hc11, hf⟩ := fm_bd hf
    refine fm_callV C E [.int _] [] lm_X6_56 wk_X4_isPlusOrMinus (c_Letters_isPlusOrMinus l G _ _ _  hc11) hC_173 rfl rfl rfl hl.1 (by simp [Value.category]) ⟨⟨rfl, rfl⟩, by decide, by decide⟩ ⟨by decide, by decide⟩ dX6_fits_11 rfl (fun H locs E => ?_)
    refine W.eq (g2 := F0 m 14 ls (.int x11 :: [])) rfl ?_
    obtain ⟨hn14, hf⟩ := fm_bo_s hf
    obtain rfl := fm_rt1 hf
    exact fm_iret C E rfl hn14 dX6_fits_14
theorem dX7_ofMic_0 : decode cX7_ofMic 0 = .ok (.aload_n 0, 1) := by decide +kernel
theorem dX7_ofMic_1 : decode cX7_ofMic 1 = .ok (.iload_n 1, 1) := by decide +kernel
theorem dX7_ofMic_2 : decode cX7_ofMic 2 = .ok (.invokevirtual 36, 3) := by decide +kernel
theorem dX7_ofMic_5 : decode cX7_ofMic 5 = .ok (.ifCond .eq 23, 3) := by decide +kernel
theorem dX7_ofMic_8 : decode cX7_ofMic 8 = .ok (.iload_n 2, 1) := by decide +kernel
theorem dX7_ofMic_9 : decode cX7_ofMic 9 = .ok (.iconst 0, 1) := by decide +kernel
theorem dX7_ofMic_10 : decode cX7_ofMic 10 = .ok (.iconst 5, 1) := by decide +kernel
theorem dX7_ofMic_11 : decode cX7_ofMic 11 = .ok (.invokestatic 40, 3) := by decide +kernel
theorem dX7_ofMic_14 : decode cX7_ofMic 14 = .ok (.ifCond .eq 14, 3) := by decide +kernel
theorem dX7_ofMic_17 : decode cX7_ofMic 17 = .ok (.aload_n 0, 1) := by decide +kernel
theorem dX7_ofMic_18 : decode cX7_ofMic 18 = .ok (.getfield 11, 3) := by decide +kernel
theorem dX7_ofMic_21 : decode cX7_ofMic 21 = .ok (.iload_n 2, 1) := by decide +kernel
theorem dX7_ofMic_22 : decode cX7_ofMic 22 = .ok (.aaload, 1) := by decide +kernel
theorem dX7_ofMic_23 : decode cX7_ofMic 23 = .ok (.iload_n 1, 1) := by decide +kernel
theorem dX7_ofMic_24 : decode cX7_ofMic 24 = .ok (.iaload, 1) := by decide +kernel
theorem dX7_ofMic_25 : decode cX7_ofMic 25 = .ok (.goto 4, 3) := by decide +kernel
theorem dX7_ofMic_28 : decode cX7_ofMic 28 = .ok (.iconst 0, 1) := by decide +kernel
theorem dX7_ofMic_29 : decode cX7_ofMic 29 = .ok (.ireturn, 1) := by decide +kernel
set_option maxHeartbeats 4000000 in
set_option maxRecDepth 100000 in
theorem c_Scene_ofMic (l : Launch) (G : fm_G) (M : fm_M) (v1 : Int32) (v2 : Int32) (r : Int32) (hf : pScene_ofMic M v1 v2 = some r) : fm_Met l yX7_ofMic cX7_ofMic 3 (some .int) { frames := 1, cells := 0, slots := 0, locals := 22 } shC G [.ref (G.2.1 1), .int v1, .int v2] M (some (.int r)) M := by
  refine fm_enter (by decide) (Nat.le_of_ble_eq_true rfl) ?_
  intro p e s m args below meth c ls C E hl
  have hl : lv_has ls 3 [(0, .ref (G.2.1 1)), (1, .int v1), (2, .int v2)] := hl
  unfold pScene_ofMic at hf
  refine lv_aload_n C.1 C.2.1 dX7_ofMic_0 rfl (lv_at hl 0 rfl) ?_
  refine lv_iload_n C.1 C.2.1 dX7_ofMic_1 rfl (lv_at hl 1 rfl) ?_
  obtain ⟨x2, hc2, hf⟩ := fm_bd hf
  refine fm_callV C E [.int _] [] lm_X7_36 wk_X7_hasMic (c_Scene_hasMic l G _ _ _  hc2) hC_1 rfl rfl rfl hl.1 (by simp [Value.category]) ⟨⟨rfl, rfl⟩, by decide, by decide⟩ ⟨by decide, by decide⟩ dX7_ofMic_2 rfl (fun H locs E => ?_)
  refine W.eq (g2 := F0 m 5 ls (.int x2 :: [])) rfl ?_
  refine lv_if_eq (tgt := 28) C.1 C.2.1 dX7_ofMic_5 (by decide) (fun hc5 => ?_) (fun hc5 => ?_)
  · have hf := fm_ip hf hc5
    refine lv_iconst (v := 0) C.1 C.2.1 dX7_ofMic_28 (by decide) ?_
    obtain rfl := fm_rt1 hf
    exact fm_iret C E rfl rfl dX7_ofMic_29
  · have hf := fm_in' hf hc5
    refine lv_iload_n C.1 C.2.1 dX7_ofMic_8 rfl (lv_at hl 2 rfl) ?_
    refine lv_iconst (v := 0) C.1 C.2.1 dX7_ofMic_9 (by decide) ?_
    refine lv_iconst (v := 5) C.1 C.2.1 dX7_ofMic_10 (by decide) ?_
    obtain ⟨x11, hc11, hf⟩ := fm_bd hf
    refine fm_callS C E [.int _, .int _, .int _] [] lm_X7_40 wk_X9_within (c_MicRow_within l G _ _ _ _ _  hc11) rfl hl.1 (by simp [Value.category]) ⟨⟨rfl, rfl⟩, by decide, by decide⟩ ⟨by decide, by decide⟩ dX7_ofMic_11 rfl (fun H locs E => ?_)
    refine W.eq (g2 := F0 m 14 ls (.int x11 :: [])) rfl ?_
    refine lv_if_eq (tgt := 28) C.1 C.2.1 dX7_ofMic_14 (by decide) (fun hc14 => ?_) (fun hc14 => ?_)
    · have hf := fm_ip hf hc14
      refine lv_iconst (v := 0) C.1 C.2.1 dX7_ofMic_28 (by decide) ?_
      obtain rfl := fm_rt1 hf
      exact fm_iret C E rfl rfl dX7_ofMic_29
    · have hf := fm_in' hf hc14
      refine lv_aload_n C.1 C.2.1 dX7_ofMic_17 rfl (lv_at hl 0 rfl) ?_
      refine fm_getr C E lf_X7_11 hC_1 rfl dX7_ofMic_18 ?_
      refine lv_iload_n C.1 C.2.1 dX7_ofMic_21 rfl (lv_at hl 2 rfl) ?_
      obtain ⟨q22, h22, k22, e22, hf⟩ := fm_ix_t tC_3 hf
      refine fm_aald C E hC_2 h22 (r := q22) (by rw [e22]; exact rC_3 _ (fm_in_lt h22)) dX7_ofMic_22 ?_
      refine lv_iload_n C.1 C.2.1 dX7_ofMic_23 rfl (lv_at hl 1 rfl) ?_
      obtain ⟨h24, x24, e24, hf⟩ := fm_ld_e hf
      refine fm_iald' C E e24 k22 h24 dX7_ofMic_24 ?_
      refine lv_goto (tgt := 29) C.1 C.2.1 dX7_ofMic_25 (by decide) ?_
      obtain rfl := fm_rt1 hf
      exact fm_iret C E rfl rfl dX7_ofMic_29
theorem dX7_ofSource_0 : decode cX7_ofSource 0 = .ok (.aload_n 0, 1) := by decide +kernel
theorem dX7_ofSource_1 : decode cX7_ofSource 1 = .ok (.iload_n 1, 1) := by decide +kernel
theorem dX7_ofSource_2 : decode cX7_ofSource 2 = .ok (.invokevirtual 44, 3) := by decide +kernel
theorem dX7_ofSource_5 : decode cX7_ofSource 5 = .ok (.ifCond .eq 24, 3) := by decide +kernel
theorem dX7_ofSource_8 : decode cX7_ofSource 8 = .ok (.iload_n 2, 1) := by decide +kernel
theorem dX7_ofSource_9 : decode cX7_ofSource 9 = .ok (.iconst 0, 1) := by decide +kernel
theorem dX7_ofSource_10 : decode cX7_ofSource 10 = .ok (.bipush 14, 2) := by decide +kernel
theorem dX7_ofSource_12 : decode cX7_ofSource 12 = .ok (.invokestatic 40, 3) := by decide +kernel
theorem dX7_ofSource_15 : decode cX7_ofSource 15 = .ok (.ifCond .eq 14, 3) := by decide +kernel
theorem dX7_ofSource_18 : decode cX7_ofSource 18 = .ok (.aload_n 0, 1) := by decide +kernel
theorem dX7_ofSource_19 : decode cX7_ofSource 19 = .ok (.getfield 16, 3) := by decide +kernel
theorem dX7_ofSource_22 : decode cX7_ofSource 22 = .ok (.iload_n 1, 1) := by decide +kernel
theorem dX7_ofSource_23 : decode cX7_ofSource 23 = .ok (.aaload, 1) := by decide +kernel
theorem dX7_ofSource_24 : decode cX7_ofSource 24 = .ok (.iload_n 2, 1) := by decide +kernel
theorem dX7_ofSource_25 : decode cX7_ofSource 25 = .ok (.iaload, 1) := by decide +kernel
theorem dX7_ofSource_26 : decode cX7_ofSource 26 = .ok (.goto 4, 3) := by decide +kernel
theorem dX7_ofSource_29 : decode cX7_ofSource 29 = .ok (.iconst 0, 1) := by decide +kernel
theorem dX7_ofSource_30 : decode cX7_ofSource 30 = .ok (.ireturn, 1) := by decide +kernel
set_option maxHeartbeats 4000000 in
set_option maxRecDepth 100000 in
theorem c_Scene_ofSource (l : Launch) (G : fm_G) (M : fm_M) (v1 : Int32) (v2 : Int32) (r : Int32) (hf : pScene_ofSource M v1 v2 = some r) : fm_Met l yX7_ofSource cX7_ofSource 3 (some .int) { frames := 1, cells := 0, slots := 0, locals := 22 } shC G [.ref (G.2.1 1), .int v1, .int v2] M (some (.int r)) M := by
  refine fm_enter (by decide) (Nat.le_of_ble_eq_true rfl) ?_
  intro p e s m args below meth c ls C E hl
  have hl : lv_has ls 3 [(0, .ref (G.2.1 1)), (1, .int v1), (2, .int v2)] := hl
  unfold pScene_ofSource at hf
  refine lv_aload_n C.1 C.2.1 dX7_ofSource_0 rfl (lv_at hl 0 rfl) ?_
  refine lv_iload_n C.1 C.2.1 dX7_ofSource_1 rfl (lv_at hl 1 rfl) ?_
  obtain ⟨x2, hc2, hf⟩ := fm_bd hf
  refine fm_callV C E [.int _] [] lm_X7_44 wk_X7_hasSource (c_Scene_hasSource l G _ _ _  hc2) hC_1 rfl rfl rfl hl.1 (by simp [Value.category]) ⟨⟨rfl, rfl⟩, by decide, by decide⟩ ⟨by decide, by decide⟩ dX7_ofSource_2 rfl (fun H locs E => ?_)
  refine W.eq (g2 := F0 m 5 ls (.int x2 :: [])) rfl ?_
  refine lv_if_eq (tgt := 29) C.1 C.2.1 dX7_ofSource_5 (by decide) (fun hc5 => ?_) (fun hc5 => ?_)
  · have hf := fm_ip hf hc5
    refine lv_iconst (v := 0) C.1 C.2.1 dX7_ofSource_29 (by decide) ?_
    obtain rfl := fm_rt1 hf
    exact fm_iret C E rfl rfl dX7_ofSource_30
  · have hf := fm_in' hf hc5
    refine lv_iload_n C.1 C.2.1 dX7_ofSource_8 rfl (lv_at hl 2 rfl) ?_
    refine lv_iconst (v := 0) C.1 C.2.1 dX7_ofSource_9 (by decide) ?_
    refine lv_bipush (v := 14) C.1 C.2.1 dX7_ofSource_10 (by decide) ?_
    obtain ⟨x12, hc12, hf⟩ := fm_bd hf
    refine fm_callS C E [.int _, .int _, .int _] [] lm_X7_40 wk_X9_within (c_MicRow_within l G _ _ _ _ _  hc12) rfl hl.1 (by simp [Value.category]) ⟨⟨rfl, rfl⟩, by decide, by decide⟩ ⟨by decide, by decide⟩ dX7_ofSource_12 rfl (fun H locs E => ?_)
    refine W.eq (g2 := F0 m 15 ls (.int x12 :: [])) rfl ?_
    refine lv_if_eq (tgt := 29) C.1 C.2.1 dX7_ofSource_15 (by decide) (fun hc15 => ?_) (fun hc15 => ?_)
    · have hf := fm_ip hf hc15
      refine lv_iconst (v := 0) C.1 C.2.1 dX7_ofSource_29 (by decide) ?_
      obtain rfl := fm_rt1 hf
      exact fm_iret C E rfl rfl dX7_ofSource_30
    · have hf := fm_in' hf hc15
      refine lv_aload_n C.1 C.2.1 dX7_ofSource_18 rfl (lv_at hl 0 rfl) ?_
      refine fm_getr C E lf_X7_16 hC_1 rfl dX7_ofSource_19 ?_
      refine lv_iload_n C.1 C.2.1 dX7_ofSource_22 rfl (lv_at hl 1 rfl) ?_
      obtain ⟨q23, h23, k23, e23, hf⟩ := fm_ix_t tC_10 hf
      refine fm_aald C E hC_9 h23 (r := q23) (by rw [e23]; exact rC_10 _ (fm_in_lt h23)) dX7_ofSource_23 ?_
      refine lv_iload_n C.1 C.2.1 dX7_ofSource_24 rfl (lv_at hl 2 rfl) ?_
      obtain ⟨h25, x25, e25, hf⟩ := fm_ld_e hf
      refine fm_iald' C E e25 k23 h25 dX7_ofSource_25 ?_
      refine lv_goto (tgt := 30) C.1 C.2.1 dX7_ofSource_26 (by decide) ?_
      obtain rfl := fm_rt1 hf
      exact fm_iret C E rfl rfl dX7_ofSource_30
theorem dX7_liveCount_0 : decode cX7_liveCount 0 = .ok (.aload_n 0, 1) := by decide +kernel
theorem dX7_liveCount_1 : decode cX7_liveCount 1 = .ok (.invokevirtual 50, 3) := by decide +kernel
theorem dX7_liveCount_4 : decode cX7_liveCount 4 = .ok (.invokestatic 54, 3) := by decide +kernel
theorem dX7_liveCount_7 : decode cX7_liveCount 7 = .ok (.ireturn, 1) := by decide +kernel
set_option maxHeartbeats 4000000 in
set_option maxRecDepth 100000 in
theorem c_Scene_liveCount (l : Launch) (G : fm_G) (N : Nat) (M : fm_M) (r : Int32) (hf : pScene_liveCount N M = some r) : fm_Met l yX7_liveCount cX7_liveCount 1 (some .int) { frames := 3, cells := 0, slots := 0, locals := 64 } shC G [.ref (G.2.1 1)] M (some (.int r)) M := by
  refine fm_enter (by decide) (Nat.le_of_ble_eq_true rfl) ?_
  intro p e s m args below meth c ls C E hl
  have hl : lv_has ls 1 [(0, .ref (G.2.1 1))] := hl
  unfold pScene_liveCount at hf
  refine lv_aload_n C.1 C.2.1 dX7_liveCount_0 rfl (lv_at hl 0 rfl) ?_
  obtain ⟨x1, hc1, hf⟩ := fm_bd hf
  refine fm_callV C E [] [] lm_X7_50 wk_X7_liveSet (c_Scene_liveSet l G N _ _  hc1) hC_1 rfl rfl rfl hl.1 (by simp [Value.category]) ⟨⟨rfl, rfl⟩, by decide, by decide⟩ ⟨by decide, by decide⟩ dX7_liveCount_1 rfl (fun H locs E => ?_)
  refine W.eq (g2 := F0 m 4 ls (.int x1 :: [])) rfl ?_
  obtain ⟨x4, hc4, hf⟩ := fm_bd hf
  refine fm_callS C E [.int _] [] lm_X7_54 wk_J6_bitCount_0f7a4 (c_Integer_bitCount l G _ _ _  hc4) rfl hl.1 (by simp [Value.category]) ⟨⟨rfl, rfl⟩, by decide, by decide⟩ ⟨by decide, by decide⟩ dX7_liveCount_4 rfl (fun H locs E => ?_)
  refine W.eq (g2 := F0 m 7 ls (.int x4 :: [])) rfl ?_
  obtain rfl := fm_rt1 hf
  exact fm_iret C E rfl rfl dX7_liveCount_7
theorem dX7_put_0 : decode cX7_put 0 = .ok (.aload_n 0, 1) := by decide +kernel
theorem dX7_put_1 : decode cX7_put 1 = .ok (.iload_n 1, 1) := by decide +kernel
theorem dX7_put_2 : decode cX7_put 2 = .ok (.invokevirtual 36, 3) := by decide +kernel
theorem dX7_put_5 : decode cX7_put 5 = .ok (.ifCond .eq 29, 3) := by decide +kernel
theorem dX7_put_8 : decode cX7_put 8 = .ok (.iload_n 2, 1) := by decide +kernel
theorem dX7_put_9 : decode cX7_put 9 = .ok (.iconst 1, 1) := by decide +kernel
theorem dX7_put_10 : decode cX7_put 10 = .ok (.iconst 5, 1) := by decide +kernel
theorem dX7_put_11 : decode cX7_put 11 = .ok (.invokestatic 40, 3) := by decide +kernel
theorem dX7_put_14 : decode cX7_put 14 = .ok (.ifCond .eq 20, 3) := by decide +kernel
theorem dX7_put_17 : decode cX7_put 17 = .ok (.iload_n 3, 1) := by decide +kernel
theorem dX7_put_18 : decode cX7_put 18 = .ok (.getstatic 63, 3) := by decide +kernel
theorem dX7_put_21 : decode cX7_put 21 = .ok (.iload_n 2, 1) := by decide +kernel
theorem dX7_put_22 : decode cX7_put 22 = .ok (.iaload, 1) := by decide +kernel
theorem dX7_put_23 : decode cX7_put 23 = .ok (.getstatic 66, 3) := by decide +kernel
theorem dX7_put_26 : decode cX7_put 26 = .ok (.iload_n 2, 1) := by decide +kernel
theorem dX7_put_27 : decode cX7_put 27 = .ok (.iaload, 1) := by decide +kernel
theorem dX7_put_28 : decode cX7_put 28 = .ok (.invokestatic 40, 3) := by decide +kernel
theorem dX7_put_31 : decode cX7_put 31 = .ok (.ifCond .ne 5, 3) := by decide +kernel
theorem dX7_put_34 : decode cX7_put 34 = .ok (.iconst (-1), 1) := by decide +kernel
theorem dX7_put_35 : decode cX7_put 35 = .ok (.ireturn, 1) := by decide +kernel
theorem dX7_put_36 : decode cX7_put 36 = .ok (.aload_n 0, 1) := by decide +kernel
theorem dX7_put_37 : decode cX7_put 37 = .ok (.getfield 11, 3) := by decide +kernel
theorem dX7_put_40 : decode cX7_put 40 = .ok (.iload_n 2, 1) := by decide +kernel
theorem dX7_put_41 : decode cX7_put 41 = .ok (.aaload, 1) := by decide +kernel
theorem dX7_put_42 : decode cX7_put 42 = .ok (.iload_n 1, 1) := by decide +kernel
theorem dX7_put_43 : decode cX7_put 43 = .ok (.iaload, 1) := by decide +kernel
theorem dX7_put_44 : decode cX7_put 44 = .ok (.istore 4, 2) := by decide +kernel
theorem dX7_put_46 : decode cX7_put 46 = .ok (.aload_n 0, 1) := by decide +kernel
theorem dX7_put_47 : decode cX7_put 47 = .ok (.getfield 11, 3) := by decide +kernel
theorem dX7_put_50 : decode cX7_put 50 = .ok (.iload_n 2, 1) := by decide +kernel
theorem dX7_put_51 : decode cX7_put 51 = .ok (.aaload, 1) := by decide +kernel
theorem dX7_put_52 : decode cX7_put 52 = .ok (.iload_n 1, 1) := by decide +kernel
theorem dX7_put_53 : decode cX7_put 53 = .ok (.iload_n 3, 1) := by decide +kernel
theorem dX7_put_54 : decode cX7_put 54 = .ok (.iastore, 1) := by decide +kernel
theorem dX7_put_55 : decode cX7_put 55 = .ok (.iload 4, 2) := by decide +kernel
theorem dX7_put_57 : decode cX7_put 57 = .ok (.iload_n 3, 1) := by decide +kernel
theorem dX7_put_58 : decode cX7_put 58 = .ok (.if_icmp .ne 8, 3) := by decide +kernel
theorem dX7_put_61 : decode cX7_put 61 = .ok (.bipush (-2), 2) := by decide +kernel
theorem dX7_put_63 : decode cX7_put 63 = .ok (.goto 5, 3) := by decide +kernel
theorem dX7_put_66 : decode cX7_put 66 = .ok (.iload 4, 2) := by decide +kernel
theorem dX7_put_68 : decode cX7_put 68 = .ok (.ireturn, 1) := by decide +kernel
set_option maxHeartbeats 4000000 in
set_option maxRecDepth 100000 in
theorem c_Scene_put (l : Launch) (G : fm_G) (M : fm_M) (v1 : Int32) (v2 : Int32) (v3 : Int32) (r : Int32) (M' : fm_M) (hf : pScene_put M v1 v2 v3 = some (r, M')) : fm_Met l yX7_put cX7_put 5 (some .int) { frames := 1, cells := 0, slots := 0, locals := 22 } shC G [.ref (G.2.1 1), .int v1, .int v2, .int v3] M (some (.int r)) M' := by
  refine fm_enter (by decide) (Nat.le_of_ble_eq_true rfl) ?_
  intro p e s m args below meth c ls C E hl
  have hl : lv_has ls 5 [(0, .ref (G.2.1 1)), (1, .int v1), (2, .int v2), (3, .int v3)] := hl
  unfold pScene_put at hf
  refine lv_aload_n C.1 C.2.1 dX7_put_0 rfl (lv_at hl 0 rfl) ?_
  refine lv_iload_n C.1 C.2.1 dX7_put_1 rfl (lv_at hl 1 rfl) ?_
  obtain ⟨x2, hc2, hf⟩ := fm_bd hf
  refine fm_callV C E [.int _] [] lm_X7_36 wk_X7_hasMic (c_Scene_hasMic l G _ _ _  hc2) hC_1 rfl rfl rfl hl.1 (by simp [Value.category]) ⟨⟨rfl, rfl⟩, by decide, by decide⟩ ⟨by decide, by decide⟩ dX7_put_2 rfl (fun H locs E => ?_)
  refine W.eq (g2 := F0 m 5 ls (.int x2 :: [])) rfl ?_
  refine lv_if_eq (tgt := 34) C.1 C.2.1 dX7_put_5 (by decide) (fun hc5 => ?_) (fun hc5 => ?_)
  · have hf := fm_ip hf hc5
    refine lv_iconst (v := (-1)) C.1 C.2.1 dX7_put_34 (by decide) ?_
    obtain ⟨rfl, rfl⟩ := fm_rt2 hf
    exact fm_iret C E rfl rfl dX7_put_35
  · have hf := fm_in' hf hc5
    refine lv_iload_n C.1 C.2.1 dX7_put_8 rfl (lv_at hl 2 rfl) ?_
    refine lv_iconst (v := 1) C.1 C.2.1 dX7_put_9 (by decide) ?_
    refine lv_iconst (v := 5) C.1 C.2.1 dX7_put_10 (by decide) ?_
    obtain ⟨x11, hc11, hf⟩ := fm_bd hf
    refine fm_callS C E [.int _, .int _, .int _] [] lm_X7_40 wk_X9_within (c_MicRow_within l G _ _ _ _ _  hc11) rfl hl.1 (by simp [Value.category]) ⟨⟨rfl, rfl⟩, by decide, by decide⟩ ⟨by decide, by decide⟩ dX7_put_11 rfl (fun H locs E => ?_)
    refine W.eq (g2 := F0 m 14 ls (.int x11 :: [])) rfl ?_
    refine lv_if_eq (tgt := 34) C.1 C.2.1 dX7_put_14 (by decide) (fun hc14 => ?_) (fun hc14 => ?_)
    · have hf := fm_ip hf hc14
      refine lv_iconst (v := (-1)) C.1 C.2.1 dX7_put_34 (by decide) ?_
      obtain ⟨rfl, rfl⟩ := fm_rt2 hf
      exact fm_iret C E rfl rfl dX7_put_35
    · have hf := fm_in' hf hc14
      refine lv_iload_n C.1 C.2.1 dX7_put_17 rfl (lv_at hl 3 rfl) ?_
      refine fm_gets C E (List.mem_of_getElem? (l := fm_Zs) (i := 0) rfl) (Or.inr ⟨_, wf_463⟩) dX7_put_18 (fun t18 hT18 => ?_)
      refine lv_iload_n C.1 C.2.1 dX7_put_21 rfl (lv_at hl 2 rfl) ?_
      obtain ⟨h22, hf⟩ := fm_ix_s hf
      refine fm_tld C E hT18 h22 dX7_put_22 ?_
      refine fm_gets C E (List.mem_of_getElem? (l := fm_Zs) (i := 1) rfl) (Or.inr ⟨_, wf_464⟩) dX7_put_23 (fun t23 hT23 => ?_)
      refine lv_iload_n C.1 C.2.1 dX7_put_26 rfl (lv_at hl 2 rfl) ?_
      obtain ⟨h27, hf⟩ := fm_ix_s hf
      refine fm_tld C E hT23 h27 dX7_put_27 ?_
      obtain ⟨x28, hc28, hf⟩ := fm_bd hf
      refine fm_callS C E [.int _, .int _, .int _] [] lm_X7_40 wk_X9_within (c_MicRow_within l G _ _ _ _ _  hc28) rfl hl.1 (by simp [Value.category]) ⟨⟨rfl, rfl⟩, by decide, by decide⟩ ⟨by decide, by decide⟩ dX7_put_28 rfl (fun H locs E => ?_)
      refine W.eq (g2 := F0 m 31 ls (.int x28 :: [])) rfl ?_
      refine lv_if_ne (tgt := 36) C.1 C.2.1 dX7_put_31 (by decide) (fun hc31 => ?_) (fun hc31 => ?_)
      · have hf := fm_in' hf hc31
        refine lv_aload_n C.1 C.2.1 dX7_put_36 rfl (lv_at hl 0 rfl) ?_
        refine fm_getr C E lf_X7_11 hC_1 rfl dX7_put_37 ?_
        refine lv_iload_n C.1 C.2.1 dX7_put_40 rfl (lv_at hl 2 rfl) ?_
        obtain ⟨q41, h41, k41, e41, hf⟩ := fm_ix_t tC_3 hf
        refine fm_aald C E hC_2 h41 (r := q41) (by rw [e41]; exact rC_3 _ (fm_in_lt h41)) dX7_put_41 ?_
        refine lv_iload_n C.1 C.2.1 dX7_put_42 rfl (lv_at hl 1 rfl) ?_
        obtain ⟨h43, x43, e43, hf⟩ := fm_ld_e hf
        refine fm_iald' C E e43 k41 h43 dX7_put_43 ?_
        refine lv_istore (lv' := [(4, .int _), (0, .ref _), (1, .int _), (2, .int _), (3, .int _)]) C.1 C.2.1 dX7_put_44 hl (by decide) rfl (fun ls hl => ?_)
        refine lv_aload_n C.1 C.2.1 dX7_put_46 rfl (lv_at hl 1 rfl) ?_
        refine fm_getr C E lf_X7_11 hC_1 rfl dX7_put_47 ?_
        refine lv_iload_n C.1 C.2.1 dX7_put_50 rfl (lv_at hl 3 rfl) ?_
        obtain ⟨q51, h51, k51, e51, hf⟩ := fm_ix_t tC_3 hf
        refine fm_aald C E hC_2 h51 (r := q51) (by rw [e51]; exact rC_3 _ (fm_in_lt h51)) dX7_put_51 ?_
        refine lv_iload_n C.1 C.2.1 dX7_put_52 rfl (lv_at hl 2 rfl) ?_
        refine lv_iload_n C.1 C.2.1 dX7_put_53 rfl (lv_at hl 4 rfl) ?_
        obtain ⟨h54, M54, e54, hf⟩ := fm_st_e hf
        refine fm_iast' C E e54 k51 h54 dX7_put_54 (fun H locs E => ?_)
        refine lv_iload C.1 C.2.1 dX7_put_55 (lv_at hl 0 rfl) ?_
        refine lv_iload_n C.1 C.2.1 dX7_put_57 rfl (lv_at hl 4 rfl) ?_
        refine lv_icmp_ne (tgt := 66) C.1 C.2.1 dX7_put_58 (by decide) (fun hc58 => ?_) (fun hc58 => ?_)
        · have hf := fm_in' hf hc58
          refine lv_iload C.1 C.2.1 dX7_put_66 (lv_at hl 0 rfl) ?_
          obtain ⟨rfl, rfl⟩ := fm_rt2 hf
          exact fm_iret C E rfl rfl dX7_put_68
        · have hf := fm_ip hf hc58
          refine lv_bipush (v := (-2)) C.1 C.2.1 dX7_put_61 (by decide) ?_
          refine lv_goto (tgt := 68) C.1 C.2.1 dX7_put_63 (by decide) ?_
          obtain ⟨rfl, rfl⟩ := fm_rt2 hf
          exact fm_iret C E rfl rfl dX7_put_68
      · have hf := fm_ip hf hc31
        refine lv_iconst (v := (-1)) C.1 C.2.1 dX7_put_34 (by decide) ?_
        obtain ⟨rfl, rfl⟩ := fm_rt2 hf
        exact fm_iret C E rfl rfl dX7_put_35
theorem dX7_hold_0 : decode cX7_hold 0 = .ok (.iload_n 1, 1) := by decide +kernel
theorem dX7_hold_1 : decode cX7_hold 1 = .ok (.iconst 0, 1) := by decide +kernel
theorem dX7_hold_2 : decode cX7_hold 2 = .ok (.iconst 2, 1) := by decide +kernel
theorem dX7_hold_3 : decode cX7_hold 3 = .ok (.invokestatic 40, 3) := by decide +kernel
theorem dX7_hold_6 : decode cX7_hold 6 = .ok (.ifCond .eq 20, 3) := by decide +kernel
theorem dX7_hold_9 : decode cX7_hold 9 = .ok (.iload_n 2, 1) := by decide +kernel
theorem dX7_hold_10 : decode cX7_hold 10 = .ok (.getstatic 69, 3) := by decide +kernel
theorem dX7_hold_13 : decode cX7_hold 13 = .ok (.iload_n 1, 1) := by decide +kernel
theorem dX7_hold_14 : decode cX7_hold 14 = .ok (.iaload, 1) := by decide +kernel
theorem dX7_hold_15 : decode cX7_hold 15 = .ok (.getstatic 72, 3) := by decide +kernel
theorem dX7_hold_18 : decode cX7_hold 18 = .ok (.iload_n 1, 1) := by decide +kernel
theorem dX7_hold_19 : decode cX7_hold 19 = .ok (.iaload, 1) := by decide +kernel
theorem dX7_hold_20 : decode cX7_hold 20 = .ok (.invokestatic 40, 3) := by decide +kernel
theorem dX7_hold_23 : decode cX7_hold 23 = .ok (.ifCond .ne 5, 3) := by decide +kernel
theorem dX7_hold_26 : decode cX7_hold 26 = .ok (.iconst (-1), 1) := by decide +kernel
theorem dX7_hold_27 : decode cX7_hold 27 = .ok (.ireturn, 1) := by decide +kernel
theorem dX7_hold_28 : decode cX7_hold 28 = .ok (.aload_n 0, 1) := by decide +kernel
theorem dX7_hold_29 : decode cX7_hold 29 = .ok (.getfield 19, 3) := by decide +kernel
theorem dX7_hold_32 : decode cX7_hold 32 = .ok (.iload_n 1, 1) := by decide +kernel
theorem dX7_hold_33 : decode cX7_hold 33 = .ok (.iaload, 1) := by decide +kernel
theorem dX7_hold_34 : decode cX7_hold 34 = .ok (.istore_n 3, 1) := by decide +kernel
theorem dX7_hold_35 : decode cX7_hold 35 = .ok (.aload_n 0, 1) := by decide +kernel
theorem dX7_hold_36 : decode cX7_hold 36 = .ok (.getfield 19, 3) := by decide +kernel
theorem dX7_hold_39 : decode cX7_hold 39 = .ok (.iload_n 1, 1) := by decide +kernel
theorem dX7_hold_40 : decode cX7_hold 40 = .ok (.iload_n 2, 1) := by decide +kernel
theorem dX7_hold_41 : decode cX7_hold 41 = .ok (.iastore, 1) := by decide +kernel
theorem dX7_hold_42 : decode cX7_hold 42 = .ok (.iload_n 3, 1) := by decide +kernel
theorem dX7_hold_43 : decode cX7_hold 43 = .ok (.iload_n 2, 1) := by decide +kernel
theorem dX7_hold_44 : decode cX7_hold 44 = .ok (.if_icmp .ne 8, 3) := by decide +kernel
theorem dX7_hold_47 : decode cX7_hold 47 = .ok (.bipush (-2), 2) := by decide +kernel
theorem dX7_hold_49 : decode cX7_hold 49 = .ok (.goto 4, 3) := by decide +kernel
theorem dX7_hold_52 : decode cX7_hold 52 = .ok (.iload_n 3, 1) := by decide +kernel
theorem dX7_hold_53 : decode cX7_hold 53 = .ok (.ireturn, 1) := by decide +kernel
set_option maxHeartbeats 4000000 in
set_option maxRecDepth 100000 in
theorem c_Scene_hold (l : Launch) (G : fm_G) (M : fm_M) (v1 : Int32) (v2 : Int32) (r : Int32) (M' : fm_M) (hf : pScene_hold M v1 v2 = some (r, M')) : fm_Met l yX7_hold cX7_hold 4 (some .int) { frames := 1, cells := 0, slots := 0, locals := 22 } shC G [.ref (G.2.1 1), .int v1, .int v2] M (some (.int r)) M' := by
  refine fm_enter (by decide) (Nat.le_of_ble_eq_true rfl) ?_
  intro p e s m args below meth c ls C E hl
  have hl : lv_has ls 4 [(0, .ref (G.2.1 1)), (1, .int v1), (2, .int v2)] := hl
  unfold pScene_hold at hf
  refine lv_iload_n C.1 C.2.1 dX7_hold_0 rfl (lv_at hl 1 rfl) ?_
  refine lv_iconst (v := 0) C.1 C.2.1 dX7_hold_1 (by decide) ?_
  refine lv_iconst (v := 2) C.1 C.2.1 dX7_hold_2 (by decide) ?_
  obtain ⟨x3, hc3, hf⟩ := fm_bd hf
  refine fm_callS C E [.int _, .int _, .int _] [] lm_X7_40 wk_X9_within (c_MicRow_within l G _ _ _ _ _  hc3) rfl hl.1 (by simp [Value.category]) ⟨⟨rfl, rfl⟩, by decide, by decide⟩ ⟨by decide, by decide⟩ dX7_hold_3 rfl (fun H locs E => ?_)
  refine W.eq (g2 := F0 m 6 ls (.int x3 :: [])) rfl ?_
  refine lv_if_eq (tgt := 26) C.1 C.2.1 dX7_hold_6 (by decide) (fun hc6 => ?_) (fun hc6 => ?_)
  · have hf := fm_ip hf hc6
    refine lv_iconst (v := (-1)) C.1 C.2.1 dX7_hold_26 (by decide) ?_
    obtain ⟨rfl, rfl⟩ := fm_rt2 hf
    exact fm_iret C E rfl rfl dX7_hold_27
  · have hf := fm_in' hf hc6
    refine lv_iload_n C.1 C.2.1 dX7_hold_9 rfl (lv_at hl 2 rfl) ?_
    refine fm_gets C E (List.mem_of_getElem? (l := fm_Zs) (i := 5) rfl) (Or.inr ⟨_, wf_786⟩) dX7_hold_10 (fun t10 hT10 => ?_)
    refine lv_iload_n C.1 C.2.1 dX7_hold_13 rfl (lv_at hl 1 rfl) ?_
    obtain ⟨h14, hf⟩ := fm_ix_s hf
    refine fm_tld C E hT10 h14 dX7_hold_14 ?_
    refine fm_gets C E (List.mem_of_getElem? (l := fm_Zs) (i := 6) rfl) (Or.inr ⟨_, wf_788⟩) dX7_hold_15 (fun t15 hT15 => ?_)
    refine lv_iload_n C.1 C.2.1 dX7_hold_18 rfl (lv_at hl 1 rfl) ?_
    obtain ⟨h19, hf⟩ := fm_ix_s hf
    refine fm_tld C E hT15 h19 dX7_hold_19 ?_
    obtain ⟨x20, hc20, hf⟩ := fm_bd hf
    refine fm_callS C E [.int _, .int _, .int _] [] lm_X7_40 wk_X9_within (c_MicRow_within l G _ _ _ _ _  hc20) rfl hl.1 (by simp [Value.category]) ⟨⟨rfl, rfl⟩, by decide, by decide⟩ ⟨by decide, by decide⟩ dX7_hold_20 rfl (fun H locs E => ?_)
    refine W.eq (g2 := F0 m 23 ls (.int x20 :: [])) rfl ?_
    refine lv_if_ne (tgt := 28) C.1 C.2.1 dX7_hold_23 (by decide) (fun hc23 => ?_) (fun hc23 => ?_)
    · have hf := fm_in' hf hc23
      refine lv_aload_n C.1 C.2.1 dX7_hold_28 rfl (lv_at hl 0 rfl) ?_
      refine fm_getr C E lf_X7_19 hC_1 rfl dX7_hold_29 ?_
      refine lv_iload_n C.1 C.2.1 dX7_hold_32 rfl (lv_at hl 1 rfl) ?_
      obtain ⟨h33, x33, e33, hf⟩ := fm_ld_e hf
      refine fm_iald' C E e33 hC_14 h33 dX7_hold_33 ?_
      refine lv_istore_n (lv' := [(3, .int _), (0, .ref _), (1, .int _), (2, .int _)]) C.1 C.2.1 dX7_hold_34 rfl hl (by decide) rfl (fun ls hl => ?_)
      refine lv_aload_n C.1 C.2.1 dX7_hold_35 rfl (lv_at hl 1 rfl) ?_
      refine fm_getr C E lf_X7_19 hC_1 rfl dX7_hold_36 ?_
      refine lv_iload_n C.1 C.2.1 dX7_hold_39 rfl (lv_at hl 2 rfl) ?_
      refine lv_iload_n C.1 C.2.1 dX7_hold_40 rfl (lv_at hl 3 rfl) ?_
      obtain ⟨h41, M41, e41, hf⟩ := fm_st_e hf
      refine fm_iast' C E e41 hC_14 h41 dX7_hold_41 (fun H locs E => ?_)
      refine lv_iload_n C.1 C.2.1 dX7_hold_42 rfl (lv_at hl 0 rfl) ?_
      refine lv_iload_n C.1 C.2.1 dX7_hold_43 rfl (lv_at hl 3 rfl) ?_
      refine lv_icmp_ne (tgt := 52) C.1 C.2.1 dX7_hold_44 (by decide) (fun hc44 => ?_) (fun hc44 => ?_)
      · have hf := fm_in' hf hc44
        refine lv_iload_n C.1 C.2.1 dX7_hold_52 rfl (lv_at hl 0 rfl) ?_
        obtain ⟨rfl, rfl⟩ := fm_rt2 hf
        exact fm_iret C E rfl rfl dX7_hold_53
      · have hf := fm_ip hf hc44
        refine lv_bipush (v := (-2)) C.1 C.2.1 dX7_hold_47 (by decide) ?_
        refine lv_goto (tgt := 53) C.1 C.2.1 dX7_hold_49 (by decide) ?_
        obtain ⟨rfl, rfl⟩ := fm_rt2 hf
        exact fm_iret C E rfl rfl dX7_hold_53
    · have hf := fm_ip hf hc23
      refine lv_iconst (v := (-1)) C.1 C.2.1 dX7_hold_26 (by decide) ?_
      obtain ⟨rfl, rfl⟩ := fm_rt2 hf
      exact fm_iret C E rfl rfl dX7_hold_27
theorem dX7_move_0 : decode cX7_move 0 = .ok (.aload_n 0, 1) := by decide +kernel
theorem dX7_move_1 : decode cX7_move 1 = .ok (.iload_n 1, 1) := by decide +kernel
theorem dX7_move_2 : decode cX7_move 2 = .ok (.invokevirtual 36, 3) := by decide +kernel
theorem dX7_move_5 : decode cX7_move 5 = .ok (.ifCond .eq 20, 3) := by decide +kernel
theorem dX7_move_8 : decode cX7_move 8 = .ok (.iload_n 2, 1) := by decide +kernel
theorem dX7_move_9 : decode cX7_move 9 = .ok (.getstatic 63, 3) := by decide +kernel
theorem dX7_move_12 : decode cX7_move 12 = .ok (.iconst 0, 1) := by decide +kernel
theorem dX7_move_13 : decode cX7_move 13 = .ok (.iaload, 1) := by decide +kernel
theorem dX7_move_14 : decode cX7_move 14 = .ok (.getstatic 66, 3) := by decide +kernel
theorem dX7_move_17 : decode cX7_move 17 = .ok (.iconst 0, 1) := by decide +kernel
theorem dX7_move_18 : decode cX7_move 18 = .ok (.iaload, 1) := by decide +kernel
theorem dX7_move_19 : decode cX7_move 19 = .ok (.invokestatic 40, 3) := by decide +kernel
theorem dX7_move_22 : decode cX7_move 22 = .ok (.ifCond .ne 5, 3) := by decide +kernel
theorem dX7_move_25 : decode cX7_move 25 = .ok (.iconst (-1), 1) := by decide +kernel
theorem dX7_move_26 : decode cX7_move 26 = .ok (.ireturn, 1) := by decide +kernel
theorem dX7_move_27 : decode cX7_move 27 = .ok (.aload_n 0, 1) := by decide +kernel
theorem dX7_move_28 : decode cX7_move 28 = .ok (.getfield 11, 3) := by decide +kernel
theorem dX7_move_31 : decode cX7_move 31 = .ok (.iconst 0, 1) := by decide +kernel
theorem dX7_move_32 : decode cX7_move 32 = .ok (.aaload, 1) := by decide +kernel
theorem dX7_move_33 : decode cX7_move 33 = .ok (.astore_n 3, 1) := by decide +kernel
theorem dX7_move_34 : decode cX7_move 34 = .ok (.aload_n 3, 1) := by decide +kernel
theorem dX7_move_35 : decode cX7_move 35 = .ok (.iload_n 1, 1) := by decide +kernel
theorem dX7_move_36 : decode cX7_move 36 = .ok (.iaload, 1) := by decide +kernel
theorem dX7_move_37 : decode cX7_move 37 = .ok (.istore 4, 2) := by decide +kernel
theorem dX7_move_39 : decode cX7_move 39 = .ok (.iload 4, 2) := by decide +kernel
theorem dX7_move_41 : decode cX7_move 41 = .ok (.iload_n 2, 1) := by decide +kernel
theorem dX7_move_42 : decode cX7_move 42 = .ok (.if_icmp .ne 6, 3) := by decide +kernel
theorem dX7_move_45 : decode cX7_move 45 = .ok (.bipush (-2), 2) := by decide +kernel
theorem dX7_move_47 : decode cX7_move 47 = .ok (.ireturn, 1) := by decide +kernel
theorem dX7_move_48 : decode cX7_move 48 = .ok (.iload_n 1, 1) := by decide +kernel
theorem dX7_move_49 : decode cX7_move 49 = .ok (.ifCond .le 16, 3) := by decide +kernel
theorem dX7_move_52 : decode cX7_move 52 = .ok (.iload_n 2, 1) := by decide +kernel
theorem dX7_move_53 : decode cX7_move 53 = .ok (.aload_n 3, 1) := by decide +kernel
theorem dX7_move_54 : decode cX7_move 54 = .ok (.iload_n 1, 1) := by decide +kernel
theorem dX7_move_55 : decode cX7_move 55 = .ok (.iconst 1, 1) := by decide +kernel
theorem dX7_move_56 : decode cX7_move 56 = .ok (.isub, 1) := by decide +kernel
theorem dX7_move_57 : decode cX7_move 57 = .ok (.iaload, 1) := by decide +kernel
theorem dX7_move_58 : decode cX7_move 58 = .ok (.if_icmp .gt 7, 3) := by decide +kernel
theorem dX7_move_61 : decode cX7_move 61 = .ok (.iconst 1, 1) := by decide +kernel
theorem dX7_move_62 : decode cX7_move 62 = .ok (.goto 4, 3) := by decide +kernel
theorem dX7_move_65 : decode cX7_move 65 = .ok (.iconst 0, 1) := by decide +kernel
theorem dX7_move_66 : decode cX7_move 66 = .ok (.istore 5, 2) := by decide +kernel
theorem dX7_move_68 : decode cX7_move 68 = .ok (.iload_n 1, 1) := by decide +kernel
theorem dX7_move_69 : decode cX7_move 69 = .ok (.iconst 1, 1) := by decide +kernel
theorem dX7_move_70 : decode cX7_move 70 = .ok (.iadd, 1) := by decide +kernel
theorem dX7_move_71 : decode cX7_move 71 = .ok (.aload_n 0, 1) := by decide +kernel
theorem dX7_move_72 : decode cX7_move 72 = .ok (.getfield 23, 3) := by decide +kernel
theorem dX7_move_75 : decode cX7_move 75 = .ok (.if_icmp .ge 16, 3) := by decide +kernel
theorem dX7_move_78 : decode cX7_move 78 = .ok (.iload_n 2, 1) := by decide +kernel
theorem dX7_move_79 : decode cX7_move 79 = .ok (.aload_n 3, 1) := by decide +kernel
theorem dX7_move_80 : decode cX7_move 80 = .ok (.iload_n 1, 1) := by decide +kernel
theorem dX7_move_81 : decode cX7_move 81 = .ok (.iconst 1, 1) := by decide +kernel
theorem dX7_move_82 : decode cX7_move 82 = .ok (.iadd, 1) := by decide +kernel
theorem dX7_move_83 : decode cX7_move 83 = .ok (.iaload, 1) := by decide +kernel
theorem dX7_move_84 : decode cX7_move 84 = .ok (.if_icmp .lt 7, 3) := by decide +kernel
theorem dX7_move_87 : decode cX7_move 87 = .ok (.iconst 1, 1) := by decide +kernel
theorem dX7_move_88 : decode cX7_move 88 = .ok (.goto 4, 3) := by decide +kernel
theorem dX7_move_91 : decode cX7_move 91 = .ok (.iconst 0, 1) := by decide +kernel
theorem dX7_move_92 : decode cX7_move 92 = .ok (.istore 6, 2) := by decide +kernel
theorem dX7_move_94 : decode cX7_move 94 = .ok (.iload 5, 2) := by decide +kernel
theorem dX7_move_96 : decode cX7_move 96 = .ok (.ifCond .ne 8, 3) := by decide +kernel
theorem dX7_move_99 : decode cX7_move 99 = .ok (.iload 6, 2) := by decide +kernel
theorem dX7_move_101 : decode cX7_move 101 = .ok (.ifCond .eq 6, 3) := by decide +kernel
theorem dX7_move_104 : decode cX7_move 104 = .ok (.bipush (-3), 2) := by decide +kernel
theorem dX7_move_106 : decode cX7_move 106 = .ok (.ireturn, 1) := by decide +kernel
theorem dX7_move_107 : decode cX7_move 107 = .ok (.aload_n 3, 1) := by decide +kernel
theorem dX7_move_108 : decode cX7_move 108 = .ok (.iload_n 1, 1) := by decide +kernel
theorem dX7_move_109 : decode cX7_move 109 = .ok (.iload_n 2, 1) := by decide +kernel
theorem dX7_move_110 : decode cX7_move 110 = .ok (.iastore, 1) := by decide +kernel
theorem dX7_move_111 : decode cX7_move 111 = .ok (.iload 4, 2) := by decide +kernel
theorem dX7_move_113 : decode cX7_move 113 = .ok (.ireturn, 1) := by decide +kernel
set_option maxHeartbeats 4000000 in
set_option maxRecDepth 100000 in
theorem c_Scene_move (l : Launch) (G : fm_G) (M : fm_M) (v1 : Int32) (v2 : Int32) (r : Int32) (M' : fm_M) (hf : pScene_move M v1 v2 = some (r, M')) : fm_Met l yX7_move cX7_move 7 (some .int) { frames := 1, cells := 0, slots := 0, locals := 22 } shC G [.ref (G.2.1 1), .int v1, .int v2] M (some (.int r)) M' := by
  refine fm_enter (by decide) (Nat.le_of_ble_eq_true rfl) ?_
  intro p e s m args below meth c ls C E hl
  have hl : lv_has ls 7 [(0, .ref (G.2.1 1)), (1, .int v1), (2, .int v2)] := hl
  have J92 : ∀ (M : fm_M) (v1 : Int32) (v2 : Int32) (v4 : Int32) (v5 : Int32) (s0 : Int32) (H : Heap) (locs : List Loc) (ls : Array Slot), fm_Wd shC G M s H locs → lv_has ls 7 [(1, .int v1), (2, .int v2), (3, .ref (G.2.1 3)), (4, .int v4), (5, .int v5)] → pScene_move_J92 M v1 v2 v4 v5 s0 = some (r, M') → W p l e { frames := 1, cells := 0, slots := 0, locals := 22 } s m args below meth c H locs 0 0 (fm_Z below shC G args s (some (.int r)) M') (F0 m 92 ls [.int s0]) := by
    intro M v1 v2 v4 v5 s0 H locs ls E hl hf
    unfold pScene_move_J92 at hf
    refine lv_istore (lv' := [(6, .int _), (1, .int _), (2, .int _), (3, .ref _), (4, .int _), (5, .int _)]) C.1 C.2.1 dX7_move_92 hl (by decide) rfl (fun ls hl => ?_)
    refine lv_iload C.1 C.2.1 dX7_move_94 (lv_at hl 5 rfl) ?_
    refine lv_if_ne (tgt := 104) C.1 C.2.1 dX7_move_96 (by decide) (fun hc96 => ?_) (fun hc96 => ?_)
    · have hf := fm_in' hf hc96
      refine lv_bipush (v := (-3)) C.1 C.2.1 dX7_move_104 (by decide) ?_
      obtain ⟨rfl, rfl⟩ := fm_rt2 hf
      exact fm_iret C E rfl rfl dX7_move_106
    · have hf := fm_ip hf hc96
      refine lv_iload C.1 C.2.1 dX7_move_99 (lv_at hl 0 rfl) ?_
      refine lv_if_eq (tgt := 107) C.1 C.2.1 dX7_move_101 (by decide) (fun hc101 => ?_) (fun hc101 => ?_)
      · have hf := fm_ip hf hc101
        refine lv_aload_n C.1 C.2.1 dX7_move_107 rfl (lv_at hl 3 rfl) ?_
        refine lv_iload_n C.1 C.2.1 dX7_move_108 rfl (lv_at hl 1 rfl) ?_
        refine lv_iload_n C.1 C.2.1 dX7_move_109 rfl (lv_at hl 2 rfl) ?_
        obtain ⟨h110, M110, e110, hf⟩ := fm_st_e hf
        refine fm_iast' C E e110 hC_3 h110 dX7_move_110 (fun H locs E => ?_)
        refine lv_iload C.1 C.2.1 dX7_move_111 (lv_at hl 4 rfl) ?_
        obtain ⟨rfl, rfl⟩ := fm_rt2 hf
        exact fm_iret C E rfl rfl dX7_move_113
      · have hf := fm_in' hf hc101
        refine lv_bipush (v := (-3)) C.1 C.2.1 dX7_move_104 (by decide) ?_
        obtain ⟨rfl, rfl⟩ := fm_rt2 hf
        exact fm_iret C E rfl rfl dX7_move_106
  have J91 : ∀ (M : fm_M) (v1 : Int32) (v2 : Int32) (v4 : Int32) (v5 : Int32) (H : Heap) (locs : List Loc) (ls : Array Slot), fm_Wd shC G M s H locs → lv_has ls 7 [(1, .int v1), (2, .int v2), (3, .ref (G.2.1 3)), (4, .int v4), (5, .int v5)] → pScene_move_J91 M v1 v2 v4 v5 = some (r, M') → W p l e { frames := 1, cells := 0, slots := 0, locals := 22 } s m args below meth c H locs 0 0 (fm_Z below shC G args s (some (.int r)) M') (F0 m 91 ls []) := by
    intro M v1 v2 v4 v5 H locs ls E hl hf
    unfold pScene_move_J91 at hf
    refine lv_iconst (v := 0) C.1 C.2.1 dX7_move_91 (by decide) ?_
    exact J92 _ _ _ _ _ _ _ _ _ E (lv_sub hl [0, 1, 2, 3, 4] rfl) hf
  have J66 : ∀ (M : fm_M) (v1 : Int32) (v2 : Int32) (v4 : Int32) (s0 : Int32) (H : Heap) (locs : List Loc) (ls : Array Slot), fm_Wd shC G M s H locs → lv_has ls 7 [(0, .ref (G.2.1 1)), (1, .int v1), (2, .int v2), (3, .ref (G.2.1 3)), (4, .int v4)] → pScene_move_J66 M v1 v2 v4 s0 = some (r, M') → W p l e { frames := 1, cells := 0, slots := 0, locals := 22 } s m args below meth c H locs 0 0 (fm_Z below shC G args s (some (.int r)) M') (F0 m 66 ls [.int s0]) := by
    intro M v1 v2 v4 s0 H locs ls E hl hf
    unfold pScene_move_J66 at hf
    refine lv_istore (lv' := [(5, .int _), (0, .ref _), (1, .int _), (2, .int _), (3, .ref _), (4, .int _)]) C.1 C.2.1 dX7_move_66 hl (by decide) rfl (fun ls hl => ?_)
    refine lv_iload_n C.1 C.2.1 dX7_move_68 rfl (lv_at hl 2 rfl) ?_
    refine lv_iconst (v := 1) C.1 C.2.1 dX7_move_69 (by decide) ?_
    refine lv_iadd C.1 C.2.1 dX7_move_70 ?_
    refine lv_aload_n C.1 C.2.1 dX7_move_71 rfl (lv_at hl 1 rfl) ?_
    refine fm_geti C E lf_X7_23 hC_1 rfl dX7_move_72 ?_
    refine lv_icmp_ge (tgt := 91) C.1 C.2.1 dX7_move_75 (by decide) (fun hc75 => ?_) (fun hc75 => ?_)
    · have hf := fm_ip hf hc75
      exact J91 _ _ _ _ _ _ _ _ E (lv_sub hl [2, 3, 4, 5, 0] rfl) hf
    · have hf := fm_in' hf hc75
      refine lv_iload_n C.1 C.2.1 dX7_move_78 rfl (lv_at hl 3 rfl) ?_
      refine lv_aload_n C.1 C.2.1 dX7_move_79 rfl (lv_at hl 4 rfl) ?_
      refine lv_iload_n C.1 C.2.1 dX7_move_80 rfl (lv_at hl 2 rfl) ?_
      refine lv_iconst (v := 1) C.1 C.2.1 dX7_move_81 (by decide) ?_
      refine lv_iadd C.1 C.2.1 dX7_move_82 ?_
      obtain ⟨h83, x83, e83, hf⟩ := fm_ld_e hf
      refine fm_iald' C E e83 hC_3 h83 dX7_move_83 ?_
      refine lv_icmp_lt (tgt := 91) C.1 C.2.1 dX7_move_84 (by decide) (fun hc84 => ?_) (fun hc84 => ?_)
      · have hf := fm_ip hf hc84
        exact J91 _ _ _ _ _ _ _ _ E (lv_sub hl [2, 3, 4, 5, 0] rfl) hf
      · have hf := fm_in' hf hc84
        refine lv_iconst (v := 1) C.1 C.2.1 dX7_move_87 (by decide) ?_
        refine lv_goto (tgt := 92) C.1 C.2.1 dX7_move_88 (by decide) ?_
        exact J92 _ _ _ _ _ _ _ _ _ E (lv_sub hl [2, 3, 4, 5, 0] rfl) hf
  have J65 : ∀ (M : fm_M) (v1 : Int32) (v2 : Int32) (v4 : Int32) (H : Heap) (locs : List Loc) (ls : Array Slot), fm_Wd shC G M s H locs → lv_has ls 7 [(0, .ref (G.2.1 1)), (1, .int v1), (2, .int v2), (3, .ref (G.2.1 3)), (4, .int v4)] → pScene_move_J65 M v1 v2 v4 = some (r, M') → W p l e { frames := 1, cells := 0, slots := 0, locals := 22 } s m args below meth c H locs 0 0 (fm_Z below shC G args s (some (.int r)) M') (F0 m 65 ls []) := by
    intro M v1 v2 v4 H locs ls E hl hf
    unfold pScene_move_J65 at hf
    refine lv_iconst (v := 0) C.1 C.2.1 dX7_move_65 (by decide) ?_
    exact J66 _ _ _ _ _ _ _ _ E (lv_sub hl [0, 1, 2, 3, 4] rfl) hf
  unfold pScene_move at hf
  refine lv_aload_n C.1 C.2.1 dX7_move_0 rfl (lv_at hl 0 rfl) ?_
  refine lv_iload_n C.1 C.2.1 dX7_move_1 rfl (lv_at hl 1 rfl) ?_
  obtain ⟨x2, hc2, hf⟩ := fm_bd hf
  refine fm_callV C E [.int _] [] lm_X7_36 wk_X7_hasMic (c_Scene_hasMic l G _ _ _  hc2) hC_1 rfl rfl rfl hl.1 (by simp [Value.category]) ⟨⟨rfl, rfl⟩, by decide, by decide⟩ ⟨by decide, by decide⟩ dX7_move_2 rfl (fun H locs E => ?_)
  refine W.eq (g2 := F0 m 5 ls (.int x2 :: [])) rfl ?_
  refine lv_if_eq (tgt := 25) C.1 C.2.1 dX7_move_5 (by decide) (fun hc5 => ?_) (fun hc5 => ?_)
  · have hf := fm_ip hf hc5
    refine lv_iconst (v := (-1)) C.1 C.2.1 dX7_move_25 (by decide) ?_
    obtain ⟨rfl, rfl⟩ := fm_rt2 hf
    exact fm_iret C E rfl rfl dX7_move_26
  · have hf := fm_in' hf hc5
    refine lv_iload_n C.1 C.2.1 dX7_move_8 rfl (lv_at hl 2 rfl) ?_
    refine fm_gets C E (List.mem_of_getElem? (l := fm_Zs) (i := 0) rfl) (Or.inr ⟨_, wf_463⟩) dX7_move_9 (fun t9 hT9 => ?_)
    refine lv_iconst (v := 0) C.1 C.2.1 dX7_move_12 (by decide) ?_
    refine fm_tldc C E hT9 0 (by decide) (by decide) dX7_move_13 ?_
    refine fm_gets C E (List.mem_of_getElem? (l := fm_Zs) (i := 1) rfl) (Or.inr ⟨_, wf_464⟩) dX7_move_14 (fun t14 hT14 => ?_)
    refine lv_iconst (v := 0) C.1 C.2.1 dX7_move_17 (by decide) ?_
    refine fm_tldc C E hT14 40 (by decide) (by decide) dX7_move_18 ?_
    obtain ⟨x19, hc19, hf⟩ := fm_bd hf
    refine fm_callS C E [.int _, .int _, .int _] [] lm_X7_40 wk_X9_within (c_MicRow_within l G _ _ _ _ _  hc19) rfl hl.1 (by simp [Value.category]) ⟨⟨rfl, rfl⟩, by decide, by decide⟩ ⟨by decide, by decide⟩ dX7_move_19 rfl (fun H locs E => ?_)
    refine W.eq (g2 := F0 m 22 ls (.int x19 :: [])) rfl ?_
    refine lv_if_ne (tgt := 27) C.1 C.2.1 dX7_move_22 (by decide) (fun hc22 => ?_) (fun hc22 => ?_)
    · have hf := fm_in' hf hc22
      refine lv_aload_n C.1 C.2.1 dX7_move_27 rfl (lv_at hl 0 rfl) ?_
      refine fm_getr C E lf_X7_11 hC_1 rfl dX7_move_28 ?_
      refine lv_iconst (v := 0) C.1 C.2.1 dX7_move_31 (by decide) ?_
      refine fm_aald C E hC_2 (by decide) (r := 3) (by decide) dX7_move_32 ?_
      refine lv_astore_n (lv' := [(3, .ref _), (0, .ref _), (1, .int _), (2, .int _)]) C.1 C.2.1 dX7_move_33 rfl hl (by decide) rfl (fun ls hl => ?_)
      refine lv_aload_n C.1 C.2.1 dX7_move_34 rfl (lv_at hl 0 rfl) ?_
      refine lv_iload_n C.1 C.2.1 dX7_move_35 rfl (lv_at hl 2 rfl) ?_
      obtain ⟨h36, x36, e36, hf⟩ := fm_ld_e hf
      refine fm_iald' C E e36 hC_3 h36 dX7_move_36 ?_
      refine lv_istore (lv' := [(4, .int _), (3, .ref _), (0, .ref _), (1, .int _), (2, .int _)]) C.1 C.2.1 dX7_move_37 hl (by decide) rfl (fun ls hl => ?_)
      refine lv_iload C.1 C.2.1 dX7_move_39 (lv_at hl 0 rfl) ?_
      refine lv_iload_n C.1 C.2.1 dX7_move_41 rfl (lv_at hl 4 rfl) ?_
      refine lv_icmp_ne (tgt := 48) C.1 C.2.1 dX7_move_42 (by decide) (fun hc42 => ?_) (fun hc42 => ?_)
      · have hf := fm_in' hf hc42
        refine lv_iload_n C.1 C.2.1 dX7_move_48 rfl (lv_at hl 3 rfl) ?_
        refine lv_if_le (tgt := 65) C.1 C.2.1 dX7_move_49 (by decide) (fun hc49 => ?_) (fun hc49 => ?_)
        · have hf := fm_ip hf hc49
          exact J65 _ _ _ _ _ _ _ E (lv_sub hl [2, 3, 4, 1, 0] rfl) hf
        · have hf := fm_in' hf hc49
          refine lv_iload_n C.1 C.2.1 dX7_move_52 rfl (lv_at hl 4 rfl) ?_
          refine lv_aload_n C.1 C.2.1 dX7_move_53 rfl (lv_at hl 1 rfl) ?_
          refine lv_iload_n C.1 C.2.1 dX7_move_54 rfl (lv_at hl 3 rfl) ?_
          refine lv_iconst (v := 1) C.1 C.2.1 dX7_move_55 (by decide) ?_
          refine lv_isub C.1 C.2.1 dX7_move_56 ?_
          obtain ⟨h57, x57, e57, hf⟩ := fm_ld_e hf
          refine fm_iald' C E e57 hC_3 h57 dX7_move_57 ?_
          refine lv_icmp_gt (tgt := 65) C.1 C.2.1 dX7_move_58 (by decide) (fun hc58 => ?_) (fun hc58 => ?_)
          · have hf := fm_ip hf hc58
            exact J65 _ _ _ _ _ _ _ E (lv_sub hl [2, 3, 4, 1, 0] rfl) hf
          · have hf := fm_in' hf hc58
            refine lv_iconst (v := 1) C.1 C.2.1 dX7_move_61 (by decide) ?_
            refine lv_goto (tgt := 66) C.1 C.2.1 dX7_move_62 (by decide) ?_
            exact J66 _ _ _ _ _ _ _ _ E (lv_sub hl [2, 3, 4, 1, 0] rfl) hf
      · have hf := fm_ip hf hc42
        refine lv_bipush (v := (-2)) C.1 C.2.1 dX7_move_45 (by decide) ?_
        obtain ⟨rfl, rfl⟩ := fm_rt2 hf
        exact fm_iret C E rfl rfl dX7_move_47
    · have hf := fm_ip hf hc22
      refine lv_iconst (v := (-1)) C.1 C.2.1 dX7_move_25 (by decide) ?_
      obtain ⟨rfl, rfl⟩ := fm_rt2 hf
      exact fm_iret C E rfl rfl dX7_move_26
theorem dX7_aim_0 : decode cX7_aim 0 = .ok (.aload_n 0, 1) := by decide +kernel
theorem dX7_aim_1 : decode cX7_aim 1 = .ok (.iload_n 1, 1) := by decide +kernel
theorem dX7_aim_2 : decode cX7_aim 2 = .ok (.invokevirtual 44, 3) := by decide +kernel
theorem dX7_aim_5 : decode cX7_aim 5 = .ok (.ifCond .eq 29, 3) := by decide +kernel
theorem dX7_aim_8 : decode cX7_aim 8 = .ok (.iload_n 2, 1) := by decide +kernel
theorem dX7_aim_9 : decode cX7_aim 9 = .ok (.iconst 0, 1) := by decide +kernel
theorem dX7_aim_10 : decode cX7_aim 10 = .ok (.iconst 1, 1) := by decide +kernel
theorem dX7_aim_11 : decode cX7_aim 11 = .ok (.invokestatic 40, 3) := by decide +kernel
theorem dX7_aim_14 : decode cX7_aim 14 = .ok (.ifCond .eq 20, 3) := by decide +kernel
theorem dX7_aim_17 : decode cX7_aim 17 = .ok (.iload_n 3, 1) := by decide +kernel
theorem dX7_aim_18 : decode cX7_aim 18 = .ok (.getstatic 75, 3) := by decide +kernel
theorem dX7_aim_21 : decode cX7_aim 21 = .ok (.iload_n 2, 1) := by decide +kernel
theorem dX7_aim_22 : decode cX7_aim 22 = .ok (.iaload, 1) := by decide +kernel
theorem dX7_aim_23 : decode cX7_aim 23 = .ok (.getstatic 78, 3) := by decide +kernel
theorem dX7_aim_26 : decode cX7_aim 26 = .ok (.iload_n 2, 1) := by decide +kernel
theorem dX7_aim_27 : decode cX7_aim 27 = .ok (.iaload, 1) := by decide +kernel
theorem dX7_aim_28 : decode cX7_aim 28 = .ok (.invokestatic 40, 3) := by decide +kernel
theorem dX7_aim_31 : decode cX7_aim 31 = .ok (.ifCond .ne 5, 3) := by decide +kernel
theorem dX7_aim_34 : decode cX7_aim 34 = .ok (.iconst (-1), 1) := by decide +kernel
theorem dX7_aim_35 : decode cX7_aim 35 = .ok (.ireturn, 1) := by decide +kernel
theorem dX7_aim_36 : decode cX7_aim 36 = .ok (.aload_n 0, 1) := by decide +kernel
theorem dX7_aim_37 : decode cX7_aim 37 = .ok (.getfield 16, 3) := by decide +kernel
theorem dX7_aim_40 : decode cX7_aim 40 = .ok (.iload_n 1, 1) := by decide +kernel
theorem dX7_aim_41 : decode cX7_aim 41 = .ok (.aaload, 1) := by decide +kernel
theorem dX7_aim_42 : decode cX7_aim 42 = .ok (.iload_n 2, 1) := by decide +kernel
theorem dX7_aim_43 : decode cX7_aim 43 = .ok (.iaload, 1) := by decide +kernel
theorem dX7_aim_44 : decode cX7_aim 44 = .ok (.istore 4, 2) := by decide +kernel
theorem dX7_aim_46 : decode cX7_aim 46 = .ok (.iload 4, 2) := by decide +kernel
theorem dX7_aim_48 : decode cX7_aim 48 = .ok (.iload_n 3, 1) := by decide +kernel
theorem dX7_aim_49 : decode cX7_aim 49 = .ok (.if_icmp .ne 6, 3) := by decide +kernel
theorem dX7_aim_52 : decode cX7_aim 52 = .ok (.bipush (-2), 2) := by decide +kernel
theorem dX7_aim_54 : decode cX7_aim 54 = .ok (.ireturn, 1) := by decide +kernel
theorem dX7_aim_55 : decode cX7_aim 55 = .ok (.aload_n 0, 1) := by decide +kernel
theorem dX7_aim_56 : decode cX7_aim 56 = .ok (.getfield 16, 3) := by decide +kernel
theorem dX7_aim_59 : decode cX7_aim 59 = .ok (.iload_n 1, 1) := by decide +kernel
theorem dX7_aim_60 : decode cX7_aim 60 = .ok (.aaload, 1) := by decide +kernel
theorem dX7_aim_61 : decode cX7_aim 61 = .ok (.iload_n 2, 1) := by decide +kernel
theorem dX7_aim_62 : decode cX7_aim 62 = .ok (.iload_n 3, 1) := by decide +kernel
theorem dX7_aim_63 : decode cX7_aim 63 = .ok (.iastore, 1) := by decide +kernel
theorem dX7_aim_64 : decode cX7_aim 64 = .ok (.iload_n 2, 1) := by decide +kernel
theorem dX7_aim_65 : decode cX7_aim 65 = .ok (.ifCond .ne 11, 3) := by decide +kernel
theorem dX7_aim_68 : decode cX7_aim 68 = .ok (.iload 4, 2) := by decide +kernel
theorem dX7_aim_70 : decode cX7_aim 70 = .ok (.bipush 8, 2) := by decide +kernel
theorem dX7_aim_72 : decode cX7_aim 72 = .ok (.iadd, 1) := by decide +kernel
theorem dX7_aim_73 : decode cX7_aim 73 = .ok (.goto 5, 3) := by decide +kernel
theorem dX7_aim_76 : decode cX7_aim 76 = .ok (.iload 4, 2) := by decide +kernel
theorem dX7_aim_78 : decode cX7_aim 78 = .ok (.ireturn, 1) := by decide +kernel
set_option maxHeartbeats 4000000 in
set_option maxRecDepth 100000 in
theorem c_Scene_aim (l : Launch) (G : fm_G) (M : fm_M) (v1 : Int32) (v2 : Int32) (v3 : Int32) (r : Int32) (M' : fm_M) (hf : pScene_aim M v1 v2 v3 = some (r, M')) : fm_Met l yX7_aim cX7_aim 5 (some .int) { frames := 1, cells := 0, slots := 0, locals := 22 } shC G [.ref (G.2.1 1), .int v1, .int v2, .int v3] M (some (.int r)) M' := by
  refine fm_enter (by decide) (Nat.le_of_ble_eq_true rfl) ?_
  intro p e s m args below meth c ls C E hl
  have hl : lv_has ls 5 [(0, .ref (G.2.1 1)), (1, .int v1), (2, .int v2), (3, .int v3)] := hl
  unfold pScene_aim at hf
  refine lv_aload_n C.1 C.2.1 dX7_aim_0 rfl (lv_at hl 0 rfl) ?_
  refine lv_iload_n C.1 C.2.1 dX7_aim_1 rfl (lv_at hl 1 rfl) ?_
  obtain ⟨x2, hc2, hf⟩ := fm_bd hf
  refine fm_callV C E [.int _] [] lm_X7_44 wk_X7_hasSource (c_Scene_hasSource l G _ _ _  hc2) hC_1 rfl rfl rfl hl.1 (by simp [Value.category]) ⟨⟨rfl, rfl⟩, by decide, by decide⟩ ⟨by decide, by decide⟩ dX7_aim_2 rfl (fun H locs E => ?_)
  refine W.eq (g2 := F0 m 5 ls (.int x2 :: [])) rfl ?_
  refine lv_if_eq (tgt := 34) C.1 C.2.1 dX7_aim_5 (by decide) (fun hc5 => ?_) (fun hc5 => ?_)
  · have hf := fm_ip hf hc5
    refine lv_iconst (v := (-1)) C.1 C.2.1 dX7_aim_34 (by decide) ?_
    obtain ⟨rfl, rfl⟩ := fm_rt2 hf
    exact fm_iret C E rfl rfl dX7_aim_35
  · have hf := fm_in' hf hc5
    refine lv_iload_n C.1 C.2.1 dX7_aim_8 rfl (lv_at hl 2 rfl) ?_
    refine lv_iconst (v := 0) C.1 C.2.1 dX7_aim_9 (by decide) ?_
    refine lv_iconst (v := 1) C.1 C.2.1 dX7_aim_10 (by decide) ?_
    obtain ⟨x11, hc11, hf⟩ := fm_bd hf
    refine fm_callS C E [.int _, .int _, .int _] [] lm_X7_40 wk_X9_within (c_MicRow_within l G _ _ _ _ _  hc11) rfl hl.1 (by simp [Value.category]) ⟨⟨rfl, rfl⟩, by decide, by decide⟩ ⟨by decide, by decide⟩ dX7_aim_11 rfl (fun H locs E => ?_)
    refine W.eq (g2 := F0 m 14 ls (.int x11 :: [])) rfl ?_
    refine lv_if_eq (tgt := 34) C.1 C.2.1 dX7_aim_14 (by decide) (fun hc14 => ?_) (fun hc14 => ?_)
    · have hf := fm_ip hf hc14
      refine lv_iconst (v := (-1)) C.1 C.2.1 dX7_aim_34 (by decide) ?_
      obtain ⟨rfl, rfl⟩ := fm_rt2 hf
      exact fm_iret C E rfl rfl dX7_aim_35
    · have hf := fm_in' hf hc14
      refine lv_iload_n C.1 C.2.1 dX7_aim_17 rfl (lv_at hl 3 rfl) ?_
      refine fm_gets C E (List.mem_of_getElem? (l := fm_Zs) (i := 3) rfl) (Or.inr ⟨_, wf_830⟩) dX7_aim_18 (fun t18 hT18 => ?_)
      refine lv_iload_n C.1 C.2.1 dX7_aim_21 rfl (lv_at hl 2 rfl) ?_
      obtain ⟨h22, hf⟩ := fm_ix_s hf
      refine fm_tld C E hT18 h22 dX7_aim_22 ?_
      refine fm_gets C E (List.mem_of_getElem? (l := fm_Zs) (i := 4) rfl) (Or.inr ⟨_, wf_832⟩) dX7_aim_23 (fun t23 hT23 => ?_)
      refine lv_iload_n C.1 C.2.1 dX7_aim_26 rfl (lv_at hl 2 rfl) ?_
      obtain ⟨h27, hf⟩ := fm_ix_s hf
      refine fm_tld C E hT23 h27 dX7_aim_27 ?_
      obtain ⟨x28, hc28, hf⟩ := fm_bd hf
      refine fm_callS C E [.int _, .int _, .int _] [] lm_X7_40 wk_X9_within (c_MicRow_within l G _ _ _ _ _  hc28) rfl hl.1 (by simp [Value.category]) ⟨⟨rfl, rfl⟩, by decide, by decide⟩ ⟨by decide, by decide⟩ dX7_aim_28 rfl (fun H locs E => ?_)
      refine W.eq (g2 := F0 m 31 ls (.int x28 :: [])) rfl ?_
      refine lv_if_ne (tgt := 36) C.1 C.2.1 dX7_aim_31 (by decide) (fun hc31 => ?_) (fun hc31 => ?_)
      · have hf := fm_in' hf hc31
        refine lv_aload_n C.1 C.2.1 dX7_aim_36 rfl (lv_at hl 0 rfl) ?_
        refine fm_getr C E lf_X7_16 hC_1 rfl dX7_aim_37 ?_
        refine lv_iload_n C.1 C.2.1 dX7_aim_40 rfl (lv_at hl 1 rfl) ?_
        obtain ⟨q41, h41, k41, e41, hf⟩ := fm_ix_t tC_10 hf
        refine fm_aald C E hC_9 h41 (r := q41) (by rw [e41]; exact rC_10 _ (fm_in_lt h41)) dX7_aim_41 ?_
        refine lv_iload_n C.1 C.2.1 dX7_aim_42 rfl (lv_at hl 2 rfl) ?_
        obtain ⟨h43, x43, e43, hf⟩ := fm_ld_e hf
        refine fm_iald' C E e43 k41 h43 dX7_aim_43 ?_
        refine lv_istore (lv' := [(4, .int _), (0, .ref _), (1, .int _), (2, .int _), (3, .int _)]) C.1 C.2.1 dX7_aim_44 hl (by decide) rfl (fun ls hl => ?_)
        refine lv_iload C.1 C.2.1 dX7_aim_46 (lv_at hl 0 rfl) ?_
        refine lv_iload_n C.1 C.2.1 dX7_aim_48 rfl (lv_at hl 4 rfl) ?_
        refine lv_icmp_ne (tgt := 55) C.1 C.2.1 dX7_aim_49 (by decide) (fun hc49 => ?_) (fun hc49 => ?_)
        · have hf := fm_in' hf hc49
          refine lv_aload_n C.1 C.2.1 dX7_aim_55 rfl (lv_at hl 1 rfl) ?_
          refine fm_getr C E lf_X7_16 hC_1 rfl dX7_aim_56 ?_
          refine lv_iload_n C.1 C.2.1 dX7_aim_59 rfl (lv_at hl 2 rfl) ?_
          obtain ⟨q60, h60, k60, e60, hf⟩ := fm_ix_t tC_10 hf
          refine fm_aald C E hC_9 h60 (r := q60) (by rw [e60]; exact rC_10 _ (fm_in_lt h60)) dX7_aim_60 ?_
          refine lv_iload_n C.1 C.2.1 dX7_aim_61 rfl (lv_at hl 3 rfl) ?_
          refine lv_iload_n C.1 C.2.1 dX7_aim_62 rfl (lv_at hl 4 rfl) ?_
          obtain ⟨h63, M63, e63, hf⟩ := fm_st_e hf
          refine fm_iast' C E e63 k60 h63 dX7_aim_63 (fun H locs E => ?_)
          refine lv_iload_n C.1 C.2.1 dX7_aim_64 rfl (lv_at hl 3 rfl) ?_
          refine lv_if_ne (tgt := 76) C.1 C.2.1 dX7_aim_65 (by decide) (fun hc65 => ?_) (fun hc65 => ?_)
          · have hf := fm_in' hf hc65
            refine lv_iload C.1 C.2.1 dX7_aim_76 (lv_at hl 0 rfl) ?_
            obtain ⟨rfl, rfl⟩ := fm_rt2 hf
            exact fm_iret C E rfl rfl dX7_aim_78
          · have hf := fm_ip hf hc65
            refine lv_iload C.1 C.2.1 dX7_aim_68 (lv_at hl 0 rfl) ?_
            refine lv_bipush (v := 8) C.1 C.2.1 dX7_aim_70 (by decide) ?_
            refine lv_iadd C.1 C.2.1 dX7_aim_72 ?_
            refine lv_goto (tgt := 78) C.1 C.2.1 dX7_aim_73 (by decide) ?_
            obtain ⟨rfl, rfl⟩ := fm_rt2 hf
            exact fm_iret C E rfl rfl dX7_aim_78
        · have hf := fm_ip hf hc49
          refine lv_bipush (v := (-2)) C.1 C.2.1 dX7_aim_52 (by decide) ?_
          obtain ⟨rfl, rfl⟩ := fm_rt2 hf
          exact fm_iret C E rfl rfl dX7_aim_54
      · have hf := fm_ip hf hc31
        refine lv_iconst (v := (-1)) C.1 C.2.1 dX7_aim_34 (by decide) ?_
        obtain ⟨rfl, rfl⟩ := fm_rt2 hf
        exact fm_iret C E rfl rfl dX7_aim_35
theorem dX9_sheet_0 : decode cX9_sheet 0 = .ok (.iload_n 1, 1) := by decide +kernel
theorem dX9_sheet_1 : decode cX9_sheet 1 = .ok (.iconst 0, 1) := by decide +kernel
theorem dX9_sheet_2 : decode cX9_sheet 2 = .ok (.iconst 3, 1) := by decide +kernel
theorem dX9_sheet_3 : decode cX9_sheet 3 = .ok (.invokestatic 112, 3) := by decide +kernel
theorem dX9_sheet_6 : decode cX9_sheet 6 = .ok (.ifCond .eq 9, 3) := by decide +kernel
theorem dX9_sheet_9 : decode cX9_sheet 9 = .ok (.iload_n 2, 1) := by decide +kernel
theorem dX9_sheet_10 : decode cX9_sheet 10 = .ok (.bipush 6, 2) := by decide +kernel
theorem dX9_sheet_12 : decode cX9_sheet 12 = .ok (.if_icmp .le 5, 3) := by decide +kernel
theorem dX9_sheet_15 : decode cX9_sheet 15 = .ok (.iconst (-1), 1) := by decide +kernel
theorem dX9_sheet_16 : decode cX9_sheet 16 = .ok (.ireturn, 1) := by decide +kernel
theorem dX9_sheet_17 : decode cX9_sheet 17 = .ok (.iload_n 1, 1) := by decide +kernel
theorem dX9_sheet_18 : decode cX9_sheet 18 = .ok (.iconst 3, 1) := by decide +kernel
theorem dX9_sheet_19 : decode cX9_sheet 19 = .ok (.if_icmp .ne 6, 3) := by decide +kernel
theorem dX9_sheet_22 : decode cX9_sheet 22 = .ok (.bipush (-3), 2) := by decide +kernel
theorem dX9_sheet_24 : decode cX9_sheet 24 = .ok (.ireturn, 1) := by decide +kernel
theorem dX9_sheet_25 : decode cX9_sheet 25 = .ok (.iload_n 2, 1) := by decide +kernel
theorem dX9_sheet_26 : decode cX9_sheet 26 = .ok (.ifCond .ge 6, 3) := by decide +kernel
theorem dX9_sheet_29 : decode cX9_sheet 29 = .ok (.bipush (-2), 2) := by decide +kernel
theorem dX9_sheet_31 : decode cX9_sheet 31 = .ok (.ireturn, 1) := by decide +kernel
theorem dX9_sheet_32 : decode cX9_sheet 32 = .ok (.iconst 0, 1) := by decide +kernel
theorem dX9_sheet_33 : decode cX9_sheet 33 = .ok (.istore 5, 2) := by decide +kernel
theorem dX9_sheet_35 : decode cX9_sheet 35 = .ok (.iload_n 3, 1) := by decide +kernel
theorem dX9_sheet_36 : decode cX9_sheet 36 = .ok (.istore 6, 2) := by decide +kernel
theorem dX9_sheet_38 : decode cX9_sheet 38 = .ok (.iconst 0, 1) := by decide +kernel
theorem dX9_sheet_39 : decode cX9_sheet 39 = .ok (.istore 7, 2) := by decide +kernel
theorem dX9_sheet_41 : decode cX9_sheet 41 = .ok (.iload 7, 2) := by decide +kernel
theorem dX9_sheet_43 : decode cX9_sheet 43 = .ok (.iload_n 2, 1) := by decide +kernel
theorem dX9_sheet_44 : decode cX9_sheet 44 = .ok (.if_icmp .ge 67, 3) := by decide +kernel
theorem dX9_sheet_47 : decode cX9_sheet 47 = .ok (.aload_n 0, 1) := by decide +kernel
theorem dX9_sheet_48 : decode cX9_sheet 48 = .ok (.getfield 10, 3) := by decide +kernel
theorem dX9_sheet_51 : decode cX9_sheet 51 = .ok (.iload 7, 2) := by decide +kernel
theorem dX9_sheet_53 : decode cX9_sheet 53 = .ok (.invokevirtual 116, 3) := by decide +kernel
theorem dX9_sheet_56 : decode cX9_sheet 56 = .ok (.ifCond .eq 55, 3) := by decide +kernel
theorem dX9_sheet_59 : decode cX9_sheet 59 = .ok (.iload_n 1, 1) := by decide +kernel
theorem dX9_sheet_60 : decode cX9_sheet 60 = .ok (.iload 6, 2) := by decide +kernel
theorem dX9_sheet_62 : decode cX9_sheet 62 = .ok (.invokestatic 119, 3) := by decide +kernel
theorem dX9_sheet_65 : decode cX9_sheet 65 = .ok (.getstatic 123, 3) := by decide +kernel
theorem dX9_sheet_68 : decode cX9_sheet 68 = .ok (.iconst 1, 1) := by decide +kernel
theorem dX9_sheet_69 : decode cX9_sheet 69 = .ok (.iaload, 1) := by decide +kernel
theorem dX9_sheet_70 : decode cX9_sheet 70 = .ok (.getstatic 127, 3) := by decide +kernel
theorem dX9_sheet_73 : decode cX9_sheet 73 = .ok (.iconst 1, 1) := by decide +kernel
theorem dX9_sheet_74 : decode cX9_sheet 74 = .ok (.iaload, 1) := by decide +kernel
theorem dX9_sheet_75 : decode cX9_sheet 75 = .ok (.invokestatic 130, 3) := by decide +kernel
theorem dX9_sheet_78 : decode cX9_sheet 78 = .ok (.istore 8, 2) := by decide +kernel
theorem dX9_sheet_80 : decode cX9_sheet 80 = .ok (.aload_n 0, 1) := by decide +kernel
theorem dX9_sheet_81 : decode cX9_sheet 81 = .ok (.getfield 10, 3) := by decide +kernel
theorem dX9_sheet_84 : decode cX9_sheet 84 = .ok (.iload 7, 2) := by decide +kernel
theorem dX9_sheet_86 : decode cX9_sheet 86 = .ok (.iconst 1, 1) := by decide +kernel
theorem dX9_sheet_87 : decode cX9_sheet 87 = .ok (.iload 8, 2) := by decide +kernel
theorem dX9_sheet_89 : decode cX9_sheet 89 = .ok (.invokevirtual 134, 3) := by decide +kernel
theorem dX9_sheet_92 : decode cX9_sheet 92 = .ok (.ifCond .lt 6, 3) := by decide +kernel
theorem dX9_sheet_95 : decode cX9_sheet 95 = .ok (.iinc 5 1, 3) := by decide +kernel
theorem dX9_sheet_98 : decode cX9_sheet 98 = .ok (.iload 6, 2) := by decide +kernel
theorem dX9_sheet_100 : decode cX9_sheet 100 = .ok (.iload 4, 2) := by decide +kernel
theorem dX9_sheet_102 : decode cX9_sheet 102 = .ok (.iadd, 1) := by decide +kernel
theorem dX9_sheet_103 : decode cX9_sheet 103 = .ok (.istore 6, 2) := by decide +kernel
theorem dX9_sheet_105 : decode cX9_sheet 105 = .ok (.iinc 7 1, 3) := by decide +kernel
theorem dX9_sheet_108 : decode cX9_sheet 108 = .ok (.goto (-67), 3) := by decide +kernel
theorem dX9_sheet_111 : decode cX9_sheet 111 = .ok (.iload 5, 2) := by decide +kernel
theorem dX9_sheet_113 : decode cX9_sheet 113 = .ok (.ireturn, 1) := by decide +kernel
set_option maxHeartbeats 4000000 in
set_option maxRecDepth 100000 in
theorem c_MicRow_sheet (l : Launch) (G : fm_G) (N : Nat) (M : fm_M) (v1 : Int32) (v2 : Int32) (v3 : Int32) (v4 : Int32) (r : Int32) (M' : fm_M) (hf : pMicRow_sheet N M v1 v2 v3 v4 = some (r, M')) : fm_Met l yX9_sheet cX9_sheet 9 (some .int) { frames := 2, cells := 0, slots := 0, locals := 46 } shC G [.ref (G.2.1 0), .int v1, .int v2, .int v3, .int v4] M (some (.int r)) M' := by
  refine fm_enter (by decide) (Nat.le_of_ble_eq_true rfl) ?_
  intro p e s m args below meth c ls C E hl
  have hl : lv_has ls 9 [(0, .ref (G.2.1 0)), (1, .int v1), (2, .int v2), (3, .int v3), (4, .int v4)] := hl
  have L41 : ∀ (w41_v1 : Int32) (w41_v2 : Int32) (w41_v4 : Int32) (n41 : Nat) (v5 : Int32) (v6 : Int32) (v7 : Int32) (M : fm_M) (H : Heap) (locs : List Loc) (ls : Array Slot), fm_Wd shC G M s H locs → lv_has ls 9 [(0, .ref (G.2.1 0)), (1, .int w41_v1), (2, .int w41_v2), (4, .int w41_v4), (5, .int v5), (6, .int v6), (7, .int v7)] → fm_lp (pMicRow_sheet_L41 N w41_v1 w41_v2 w41_v4) n41 (v5, v6, v7, M) = some (r, M') → W p l e { frames := 2, cells := 0, slots := 0, locals := 46 } s m args below meth c H locs 0 0 (fm_Z below shC G args s (some (.int r)) M') (F0 m 41 ls []) := by
    intro w41_v1 w41_v2 w41_v4 n41
    induction n41 with
    | zero => intro v5 v6 v7 M H locs ls E hl hf; exact fm_lp_0 hf
    | succ n41 ih41 =>
      intro v5 v6 v7 M H locs ls E hl hf
      have hf : pMicRow_sheet_L41b N w41_v1 w41_v2 w41_v4 (fm_lp (pMicRow_sheet_L41 N w41_v1 w41_v2 w41_v4) n41) v5 v6 v7 M = some (r, M') := hf
      unfold pMicRow_sheet_L41b at hf
      refine lv_iload C.1 C.2.1 dX9_sheet_41 (lv_at hl 6 rfl) ?_
      refine lv_iload_n C.1 C.2.1 dX9_sheet_43 rfl (lv_at hl 2 rfl) ?_
      refine lv_icmp_ge (tgt := 111) C.1 C.2.1 dX9_sheet_44 (by decide) (fun hc44 => ?_) (fun hc44 => ?_)
      · have hf := fm_ip hf hc44
        refine lv_iload C.1 C.2.1 dX9_sheet_111 (lv_at hl 4 rfl) ?_
        obtain ⟨rfl, rfl⟩ := fm_rt2 hf
        exact fm_iret C E rfl rfl dX9_sheet_113
      · have hf := fm_in' hf hc44
        refine lv_aload_n C.1 C.2.1 dX9_sheet_47 rfl (lv_at hl 0 rfl) ?_
        refine fm_getr C E lf_X9_10 hC_0 rfl dX9_sheet_48 ?_
        refine lv_iload C.1 C.2.1 dX9_sheet_51 (lv_at hl 6 rfl) ?_
        obtain ⟨x53, hc53, hf⟩ := fm_bd hf
        refine fm_callV C E [.int _] [] lm_X9_116 wk_X7_hasMic (c_Scene_hasMic l G _ _ _  hc53) hC_1 rfl rfl rfl hl.1 (by simp [Value.category]) ⟨⟨rfl, rfl⟩, by decide, by decide⟩ ⟨by decide, by decide⟩ dX9_sheet_53 rfl (fun H locs E => ?_)
        refine W.eq (g2 := F0 m 56 ls (.int x53 :: [])) rfl ?_
        refine lv_if_eq (tgt := 111) C.1 C.2.1 dX9_sheet_56 (by decide) (fun hc56 => ?_) (fun hc56 => ?_)
        · have hf := fm_ip hf hc56
          refine lv_iload C.1 C.2.1 dX9_sheet_111 (lv_at hl 4 rfl) ?_
          obtain ⟨rfl, rfl⟩ := fm_rt2 hf
          exact fm_iret C E rfl rfl dX9_sheet_113
        · have hf := fm_in' hf hc56
          refine lv_iload_n C.1 C.2.1 dX9_sheet_59 rfl (lv_at hl 1 rfl) ?_
          refine lv_iload C.1 C.2.1 dX9_sheet_60 (lv_at hl 5 rfl) ?_
          obtain ⟨x62, hc62, hf⟩ := fm_bd hf
          refine fm_callS C E [.int _, .int _] [] lm_X9_119 wk_X9_narrowed (c_MicRow_narrowed l G _ _ _ _  hc62) rfl hl.1 (by simp [Value.category]) ⟨⟨rfl, rfl⟩, by decide, by decide⟩ ⟨by decide, by decide⟩ dX9_sheet_62 rfl (fun H locs E => ?_)
          refine W.eq (g2 := F0 m 65 ls (.int x62 :: [])) rfl ?_
          refine fm_gets C E (List.mem_of_getElem? (l := fm_Zs) (i := 0) rfl) (Or.inl wf_445) dX9_sheet_65 (fun t65 hT65 => ?_)
          refine lv_iconst (v := 1) C.1 C.2.1 dX9_sheet_68 (by decide) ?_
          refine fm_tldc C E hT65 1 (by decide) (by decide) dX9_sheet_69 ?_
          refine fm_gets C E (List.mem_of_getElem? (l := fm_Zs) (i := 1) rfl) (Or.inl wf_447) dX9_sheet_70 (fun t70 hT70 => ?_)
          refine lv_iconst (v := 1) C.1 C.2.1 dX9_sheet_73 (by decide) ?_
          refine fm_tldc C E hT70 400 (by decide) (by decide) dX9_sheet_74 ?_
          obtain ⟨x75, hc75, hf⟩ := fm_bd hf
          refine fm_callS C E [.int _, .int _, .int _] [] lm_X9_130 wk_X9_clamp (c_MicRow_clamp l G _ _ _ _ _  hc75) rfl hl.1 (by simp [Value.category]) ⟨⟨rfl, rfl⟩, by decide, by decide⟩ ⟨by decide, by decide⟩ dX9_sheet_75 rfl (fun H locs E => ?_)
          refine W.eq (g2 := F0 m 78 ls (.int x75 :: [])) rfl ?_
          refine lv_istore (lv' := [(8, .int _), (0, .ref _), (1, .int _), (2, .int _), (4, .int _), (5, .int _), (6, .int _), (7, .int _)]) C.1 C.2.1 dX9_sheet_78 hl (by decide) rfl (fun ls hl => ?_)
          refine lv_aload_n C.1 C.2.1 dX9_sheet_80 rfl (lv_at hl 1 rfl) ?_
          refine fm_getr C E lf_X9_10 hC_0 rfl dX9_sheet_81 ?_
          refine lv_iload C.1 C.2.1 dX9_sheet_84 (lv_at hl 7 rfl) ?_
          refine lv_iconst (v := 1) C.1 C.2.1 dX9_sheet_86 (by decide) ?_
          refine lv_iload C.1 C.2.1 dX9_sheet_87 (lv_at hl 0 rfl) ?_
          obtain ⟨⟨x89, M89⟩, hc89, hf⟩ := fm_bd hf
          dsimp only at hf
          refine fm_callV C E [.int _, .int _, .int _] [] lm_X9_134 wk_X7_put (c_Scene_put l G _ _ _ _ _ _ hc89) hC_1 rfl rfl rfl hl.1 (by simp [Value.category]) ⟨⟨rfl, rfl⟩, by decide, by decide⟩ ⟨by decide, by decide⟩ dX9_sheet_89 rfl (fun H locs E => ?_)
          refine W.eq (g2 := F0 m 92 ls (.int x89 :: [])) rfl ?_
          refine lv_if_lt (tgt := 98) C.1 C.2.1 dX9_sheet_92 (by decide) (fun hc92 => ?_) (fun hc92 => ?_)
          · have hf := fm_ip hf hc92
            refine lv_iload C.1 C.2.1 dX9_sheet_98 (lv_at hl 6 rfl) ?_
            refine lv_iload C.1 C.2.1 dX9_sheet_100 (lv_at hl 4 rfl) ?_
            refine lv_iadd C.1 C.2.1 dX9_sheet_102 ?_
            refine lv_istore (lv' := [(6, .int _), (8, .int _), (0, .ref _), (1, .int _), (2, .int _), (4, .int _), (5, .int _), (7, .int _)]) C.1 C.2.1 dX9_sheet_103 hl (by decide) rfl (fun ls hl => ?_)
            refine fm_iinc C (v := 1) (lv' := [(7, .int _), (6, .int _), (8, .int _), (0, .ref _), (1, .int _), (2, .int _), (4, .int _), (5, .int _)]) (k := 7) hl rfl (by decide) (by decide) rfl dX9_sheet_105 (fun ls hl => ?_)
            refine lv_goto (tgt := 41) C.1 C.2.1 dX9_sheet_108 (by decide) ?_
            exact ih41 _ _ _ _ _ _ _ E (lv_sub hl [3, 4, 5, 6, 7, 1, 0] rfl) hf
          · have hf := fm_in' hf hc92
            refine fm_iinc C (v := 1) (lv' := [(5, .int _), (8, .int _), (0, .ref _), (1, .int _), (2, .int _), (4, .int _), (6, .int _), (7, .int _)]) (k := 5) hl rfl (by decide) (by decide) rfl dX9_sheet_95 (fun ls hl => ?_)
            refine lv_iload C.1 C.2.1 dX9_sheet_98 (lv_at hl 6 rfl) ?_
            refine lv_iload C.1 C.2.1 dX9_sheet_100 (lv_at hl 5 rfl) ?_
            refine lv_iadd C.1 C.2.1 dX9_sheet_102 ?_
            refine lv_istore (lv' := [(6, .int _), (5, .int _), (8, .int _), (0, .ref _), (1, .int _), (2, .int _), (4, .int _), (7, .int _)]) C.1 C.2.1 dX9_sheet_103 hl (by decide) rfl (fun ls hl => ?_)
            refine fm_iinc C (v := 1) (lv' := [(7, .int _), (6, .int _), (5, .int _), (8, .int _), (0, .ref _), (1, .int _), (2, .int _), (4, .int _)]) (k := 7) hl rfl (by decide) (by decide) rfl dX9_sheet_105 (fun ls hl => ?_)
            refine lv_goto (tgt := 41) C.1 C.2.1 dX9_sheet_108 (by decide) ?_
            exact ih41 _ _ _ _ _ _ _ E (lv_sub hl [4, 5, 6, 7, 2, 1, 0] rfl) hf
  unfold pMicRow_sheet at hf
  refine lv_iload_n C.1 C.2.1 dX9_sheet_0 rfl (lv_at hl 1 rfl) ?_
  refine lv_iconst (v := 0) C.1 C.2.1 dX9_sheet_1 (by decide) ?_
  refine lv_iconst (v := 3) C.1 C.2.1 dX9_sheet_2 (by decide) ?_
  obtain ⟨x3, hc3, hf⟩ := fm_bd hf
  refine fm_callS C E [.int _, .int _, .int _] [] lm_X9_112 wk_X9_within (c_MicRow_within l G _ _ _ _ _  hc3) rfl hl.1 (by simp [Value.category]) ⟨⟨rfl, rfl⟩, by decide, by decide⟩ ⟨by decide, by decide⟩ dX9_sheet_3 rfl (fun H locs E => ?_)
  refine W.eq (g2 := F0 m 6 ls (.int x3 :: [])) rfl ?_
  refine lv_if_eq (tgt := 15) C.1 C.2.1 dX9_sheet_6 (by decide) (fun hc6 => ?_) (fun hc6 => ?_)
  · have hf := fm_ip hf hc6
    refine lv_iconst (v := (-1)) C.1 C.2.1 dX9_sheet_15 (by decide) ?_
    obtain ⟨rfl, rfl⟩ := fm_rt2 hf
    exact fm_iret C E rfl rfl dX9_sheet_16
  · have hf := fm_in' hf hc6
    refine lv_iload_n C.1 C.2.1 dX9_sheet_9 rfl (lv_at hl 2 rfl) ?_
    refine lv_bipush (v := 6) C.1 C.2.1 dX9_sheet_10 (by decide) ?_
    refine lv_icmp_le (tgt := 17) C.1 C.2.1 dX9_sheet_12 (by decide) (fun hc12 => ?_) (fun hc12 => ?_)
    · have hf := fm_ip hf hc12
      refine lv_iload_n C.1 C.2.1 dX9_sheet_17 rfl (lv_at hl 1 rfl) ?_
      refine lv_iconst (v := 3) C.1 C.2.1 dX9_sheet_18 (by decide) ?_
      refine lv_icmp_ne (tgt := 25) C.1 C.2.1 dX9_sheet_19 (by decide) (fun hc19 => ?_) (fun hc19 => ?_)
      · have hf := fm_in' hf hc19
        refine lv_iload_n C.1 C.2.1 dX9_sheet_25 rfl (lv_at hl 2 rfl) ?_
        refine lv_if_ge (tgt := 32) C.1 C.2.1 dX9_sheet_26 (by decide) (fun hc26 => ?_) (fun hc26 => ?_)
        · have hf := fm_ip hf hc26
          refine lv_iconst (v := 0) C.1 C.2.1 dX9_sheet_32 (by decide) ?_
          refine lv_istore (lv' := [(5, .int _), (0, .ref _), (1, .int _), (2, .int _), (3, .int _), (4, .int _)]) C.1 C.2.1 dX9_sheet_33 hl (by decide) rfl (fun ls hl => ?_)
          refine lv_iload_n C.1 C.2.1 dX9_sheet_35 rfl (lv_at hl 4 rfl) ?_
          refine lv_istore (lv' := [(6, .int _), (5, .int _), (0, .ref _), (1, .int _), (2, .int _), (3, .int _), (4, .int _)]) C.1 C.2.1 dX9_sheet_36 hl (by decide) rfl (fun ls hl => ?_)
          refine lv_iconst (v := 0) C.1 C.2.1 dX9_sheet_38 (by decide) ?_
          refine lv_istore (lv' := [(7, .int _), (6, .int _), (5, .int _), (0, .ref _), (1, .int _), (2, .int _), (3, .int _), (4, .int _)]) C.1 C.2.1 dX9_sheet_39 hl (by decide) rfl (fun ls hl => ?_)
          exact L41 _ _ _ N _ _ _ _ _ _ _ E (lv_sub hl [3, 4, 5, 7, 2, 1, 0] rfl) hf
        · have hf := fm_in' hf hc26
          refine lv_bipush (v := (-2)) C.1 C.2.1 dX9_sheet_29 (by decide) ?_
          obtain ⟨rfl, rfl⟩ := fm_rt2 hf
          exact fm_iret C E rfl rfl dX9_sheet_31
      · have hf := fm_ip hf hc19
        refine lv_bipush (v := (-3)) C.1 C.2.1 dX9_sheet_22 (by decide) ?_
        obtain ⟨rfl, rfl⟩ := fm_rt2 hf
        exact fm_iret C E rfl rfl dX9_sheet_24
    · have hf := fm_in' hf hc12
      refine lv_iconst (v := (-1)) C.1 C.2.1 dX9_sheet_15 (by decide) ?_
      obtain ⟨rfl, rfl⟩ := fm_rt2 hf
      exact fm_iret C E rfl rfl dX9_sheet_16
