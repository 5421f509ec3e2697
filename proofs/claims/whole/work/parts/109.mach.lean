theorem dX3_reckon_0 : decode cX3_reckon 0 = .ok (.aload_n 0, 1) := by decide +kernel
theorem dX3_reckon_1 : decode cX3_reckon 1 = .ok (.getfield 18, 3) := by decide +kernel
theorem dX3_reckon_4 : decode cX3_reckon 4 = .ok (.getfield 43, 3) := by decide +kernel
theorem dX3_reckon_7 : decode cX3_reckon 7 = .ok (.iconst 4, 1) := by decide +kernel
theorem dX3_reckon_8 : decode cX3_reckon 8 = .ok (.aaload, 1) := by decide +kernel
theorem dX3_reckon_9 : decode cX3_reckon 9 = .ok (.iload_n 1, 1) := by decide +kernel
theorem dX3_reckon_10 : decode cX3_reckon 10 = .ok (.iaload, 1) := by decide +kernel
theorem dX3_reckon_11 : decode cX3_reckon 11 = .ok (.ifCond .eq 5, 3) := by decide +kernel
theorem dX3_reckon_14 : decode cX3_reckon 14 = .ok (.iconst 0, 1) := by decide +kernel
theorem dX3_reckon_15 : decode cX3_reckon 15 = .ok (.ireturn, 1) := by decide +kernel
theorem dX3_reckon_16 : decode cX3_reckon 16 = .ok (.aload_n 0, 1) := by decide +kernel
theorem dX3_reckon_17 : decode cX3_reckon 17 = .ok (.getfield 18, 3) := by decide +kernel
theorem dX3_reckon_20 : decode cX3_reckon 20 = .ok (.getfield 43, 3) := by decide +kernel
theorem dX3_reckon_23 : decode cX3_reckon 23 = .ok (.iconst 2, 1) := by decide +kernel
theorem dX3_reckon_24 : decode cX3_reckon 24 = .ok (.aaload, 1) := by decide +kernel
theorem dX3_reckon_25 : decode cX3_reckon 25 = .ok (.iload_n 1, 1) := by decide +kernel
theorem dX3_reckon_26 : decode cX3_reckon 26 = .ok (.iaload, 1) := by decide +kernel
theorem dX3_reckon_27 : decode cX3_reckon 27 = .ok (.iload_n 1, 1) := by decide +kernel
theorem dX3_reckon_28 : decode cX3_reckon 28 = .ok (.iload_n 2, 1) := by decide +kernel
theorem dX3_reckon_29 : decode cX3_reckon 29 = .ok (.invokestatic 47, 3) := by decide +kernel
theorem dX3_reckon_32 : decode cX3_reckon 32 = .ok (.imul, 1) := by decide +kernel
theorem dX3_reckon_33 : decode cX3_reckon 33 = .ok (.istore_n 3, 1) := by decide +kernel
theorem dX3_reckon_34 : decode cX3_reckon 34 = .ok (.iconst 0, 1) := by decide +kernel
theorem dX3_reckon_35 : decode cX3_reckon 35 = .ok (.istore 4, 2) := by decide +kernel
theorem dX3_reckon_37 : decode cX3_reckon 37 = .ok (.iload 4, 2) := by decide +kernel
theorem dX3_reckon_39 : decode cX3_reckon 39 = .ok (.aload_n 0, 1) := by decide +kernel
theorem dX3_reckon_40 : decode cX3_reckon 40 = .ok (.getfield 18, 3) := by decide +kernel
theorem dX3_reckon_43 : decode cX3_reckon 43 = .ok (.getfield 50, 3) := by decide +kernel
theorem dX3_reckon_46 : decode cX3_reckon 46 = .ok (.if_icmp .ge 49, 3) := by decide +kernel
theorem dX3_reckon_49 : decode cX3_reckon 49 = .ok (.aload_n 0, 1) := by decide +kernel
theorem dX3_reckon_50 : decode cX3_reckon 50 = .ok (.getfield 22, 3) := by decide +kernel
theorem dX3_reckon_53 : decode cX3_reckon 53 = .ok (.iload 4, 2) := by decide +kernel
theorem dX3_reckon_55 : decode cX3_reckon 55 = .ok (.ishr, 1) := by decide +kernel
theorem dX3_reckon_56 : decode cX3_reckon 56 = .ok (.iconst 1, 1) := by decide +kernel
theorem dX3_reckon_57 : decode cX3_reckon 57 = .ok (.iand, 1) := by decide +kernel
theorem dX3_reckon_58 : decode cX3_reckon 58 = .ok (.ifCond .eq 31, 3) := by decide +kernel
theorem dX3_reckon_61 : decode cX3_reckon 61 = .ok (.iload_n 3, 1) := by decide +kernel
theorem dX3_reckon_62 : decode cX3_reckon 62 = .ok (.aload_n 0, 1) := by decide +kernel
theorem dX3_reckon_63 : decode cX3_reckon 63 = .ok (.getfield 18, 3) := by decide +kernel
theorem dX3_reckon_66 : decode cX3_reckon 66 = .ok (.getfield 53, 3) := by decide +kernel
theorem dX3_reckon_69 : decode cX3_reckon 69 = .ok (.iload 4, 2) := by decide +kernel
theorem dX3_reckon_71 : decode cX3_reckon 71 = .ok (.aaload, 1) := by decide +kernel
theorem dX3_reckon_72 : decode cX3_reckon 72 = .ok (.aload_n 0, 1) := by decide +kernel
theorem dX3_reckon_73 : decode cX3_reckon 73 = .ok (.getfield 18, 3) := by decide +kernel
theorem dX3_reckon_76 : decode cX3_reckon 76 = .ok (.getfield 43, 3) := by decide +kernel
theorem dX3_reckon_79 : decode cX3_reckon 79 = .ok (.iconst 0, 1) := by decide +kernel
theorem dX3_reckon_80 : decode cX3_reckon 80 = .ok (.aaload, 1) := by decide +kernel
theorem dX3_reckon_81 : decode cX3_reckon 81 = .ok (.iload_n 1, 1) := by decide +kernel
theorem dX3_reckon_82 : decode cX3_reckon 82 = .ok (.iaload, 1) := by decide +kernel
theorem dX3_reckon_83 : decode cX3_reckon 83 = .ok (.iload_n 2, 1) := by decide +kernel
theorem dX3_reckon_84 : decode cX3_reckon 84 = .ok (.invokestatic 56, 3) := by decide +kernel
theorem dX3_reckon_87 : decode cX3_reckon 87 = .ok (.iadd, 1) := by decide +kernel
theorem dX3_reckon_88 : decode cX3_reckon 88 = .ok (.istore_n 3, 1) := by decide +kernel
theorem dX3_reckon_89 : decode cX3_reckon 89 = .ok (.iinc 4 1, 3) := by decide +kernel
theorem dX3_reckon_92 : decode cX3_reckon 92 = .ok (.goto (-55), 3) := by decide +kernel
theorem dX3_reckon_95 : decode cX3_reckon 95 = .ok (.aload_n 0, 1) := by decide +kernel
theorem dX3_reckon_96 : decode cX3_reckon 96 = .ok (.getfield 18, 3) := by decide +kernel
theorem dX3_reckon_99 : decode cX3_reckon 99 = .ok (.getfield 60, 3) := by decide +kernel
theorem dX3_reckon_102 : decode cX3_reckon 102 = .ok (.iconst 0, 1) := by decide +kernel
theorem dX3_reckon_103 : decode cX3_reckon 103 = .ok (.iaload, 1) := by decide +kernel
theorem dX3_reckon_104 : decode cX3_reckon 104 = .ok (.istore 4, 2) := by decide +kernel
theorem dX3_reckon_106 : decode cX3_reckon 106 = .ok (.iload_n 3, 1) := by decide +kernel
theorem dX3_reckon_107 : decode cX3_reckon 107 = .ok (.aload_n 0, 1) := by decide +kernel
theorem dX3_reckon_108 : decode cX3_reckon 108 = .ok (.getfield 18, 3) := by decide +kernel
theorem dX3_reckon_111 : decode cX3_reckon 111 = .ok (.getfield 43, 3) := by decide +kernel
theorem dX3_reckon_114 : decode cX3_reckon 114 = .ok (.iconst 1, 1) := by decide +kernel
theorem dX3_reckon_115 : decode cX3_reckon 115 = .ok (.aaload, 1) := by decide +kernel
theorem dX3_reckon_116 : decode cX3_reckon 116 = .ok (.iload_n 1, 1) := by decide +kernel
theorem dX3_reckon_117 : decode cX3_reckon 117 = .ok (.iaload, 1) := by decide +kernel
theorem dX3_reckon_118 : decode cX3_reckon 118 = .ok (.imul, 1) := by decide +kernel
theorem dX3_reckon_119 : decode cX3_reckon 119 = .ok (.bipush 100, 2) := by decide +kernel
theorem dX3_reckon_121 : decode cX3_reckon 121 = .ok (.idiv, 1) := by decide +kernel
theorem dX3_reckon_122 : decode cX3_reckon 122 = .ok (.iload 4, 2) := by decide +kernel
theorem dX3_reckon_124 : decode cX3_reckon 124 = .ok (.ineg, 1) := by decide +kernel
theorem dX3_reckon_125 : decode cX3_reckon 125 = .ok (.iload 4, 2) := by decide +kernel
theorem dX3_reckon_127 : decode cX3_reckon 127 = .ok (.invokestatic 63, 3) := by decide +kernel
theorem dX3_reckon_130 : decode cX3_reckon 130 = .ok (.ireturn, 1) := by decide +kernel
set_option maxHeartbeats 4000000 in
set_option maxRecDepth 100000 in
theorem c_Ears_reckon (l : Launch) (G : fm_G) (N : Nat) (M : fm_M) (v1 : Int32) (v2 : Int32) (r : Int32) (hf : pEars_reckon N M v1 v2 = some r) : fm_Met l yX3_reckon cX3_reckon 5 (some .int) { frames := 2, cells := 0, slots := 0, locals := 49 } shC G [.ref (G.2.1 178), .int v1, .int v2] M (some (.int r)) M := by
  refine fm_enter (by decide) (Nat.le_of_ble_eq_true rfl) ?_
  intro p e s m args below meth c ls C E hl
  have hl : lv_has ls 5 [(0, .ref (G.2.1 178)), (1, .int v1), (2, .int v2)] := hl
  have L37 : ∀ (w37_v1 : Int32) (w37_v2 : Int32) (n37 : Nat) (v3 : Int32) (v4 : Int32) (H : Heap) (locs : List Loc) (ls : Array Slot), fm_Wd shC G M s H locs → lv_has ls 5 [(0, .ref (G.2.1 178)), (1, .int w37_v1), (2, .int w37_v2), (3, .int v3), (4, .int v4)] → fm_lp (pEars_reckon_L37 N M w37_v1 w37_v2) n37 (v3, v4) = some r → W p l e { frames := 2, cells := 0, slots := 0, locals := 49 } s m args below meth c H locs 0 0 (fm_Z below shC G args s (some (.int r)) M) (F0 m 37 ls []) := by
    intro w37_v1 w37_v2 n37
    induction n37 with
    | zero => intro v3 v4 H locs ls E hl hf; exact fm_lp_0 hf
    | succ n37 ih37 =>
      intro v3 v4 H locs ls E hl hf
      have hf : pEars_reckon_L37b N M w37_v1 w37_v2 (fm_lp (pEars_reckon_L37 N M w37_v1 w37_v2) n37) v3 v4 = some r := hf
      unfold pEars_reckon_L37b at hf
      refine lv_iload C.1 C.2.1 dX3_reckon_37 (lv_at hl 4 rfl) ?_
      refine lv_aload_n C.1 C.2.1 dX3_reckon_39 rfl (lv_at hl 0 rfl) ?_
      refine fm_getr C E lf_X3_18 hC_178 rfl dX3_reckon_40 ?_
      refine fm_geti C E lf_X3_50 hC_1 rfl dX3_reckon_43 ?_
      refine lv_icmp_ge (tgt := 95) C.1 C.2.1 dX3_reckon_46 (by decide) (fun hc46 => ?_) (fun hc46 => ?_)
      · have hf := fm_ip hf hc46
        refine lv_aload_n C.1 C.2.1 dX3_reckon_95 rfl (lv_at hl 0 rfl) ?_
        refine fm_getr C E lf_X3_18 hC_178 rfl dX3_reckon_96 ?_
        refine fm_getr C E lf_X3_60 hC_1 rfl dX3_reckon_99 ?_
        refine lv_iconst (v := 0) C.1 C.2.1 dX3_reckon_102 (by decide) ?_
        refine fm_ialdc C E 0 (by decide) hC_14 (by decide) dX3_reckon_103 ?_
        refine lv_istore (lv' := [(4, .int _), (0, .ref _), (1, .int _), (2, .int _), (3, .int _)]) C.1 C.2.1 dX3_reckon_104 hl (by decide) rfl (fun ls hl => ?_)
        refine lv_iload_n C.1 C.2.1 dX3_reckon_106 rfl (lv_at hl 4 rfl) ?_
        refine lv_aload_n C.1 C.2.1 dX3_reckon_107 rfl (lv_at hl 1 rfl) ?_
        refine fm_getr C E lf_X3_18 hC_178 rfl dX3_reckon_108 ?_
        refine fm_getr C E lf_X3_43 hC_1 rfl dX3_reckon_111 ?_
        refine lv_iconst (v := 1) C.1 C.2.1 dX3_reckon_114 (by decide) ?_
        refine fm_aald C E hC_2 (by decide) (r := 4) (by decide) dX3_reckon_115 ?_
        refine lv_iload_n C.1 C.2.1 dX3_reckon_116 rfl (lv_at hl 2 rfl) ?_
        obtain ⟨h117, x117, e117, hf⟩ := fm_ld_e hf
        refine fm_iald' C E e117 hC_4 h117 dX3_reckon_117 ?_
        refine lv_imul C.1 C.2.1 dX3_reckon_118 ?_
        refine lv_bipush (v := 100) C.1 C.2.1 dX3_reckon_119 (by decide) ?_
        refine lv_idiv C.1 C.2.1 dX3_reckon_121 (by decide) ?_
        refine lv_iload C.1 C.2.1 dX3_reckon_122 (lv_at hl 0 rfl) ?_
        refine lv_ineg C.1 C.2.1 dX3_reckon_124 ?_
        refine lv_iload C.1 C.2.1 dX3_reckon_125 (lv_at hl 0 rfl) ?_
        obtain ⟨x127, hc127, hf⟩ := fm_bd hf
        refine fm_callS C E [.int _, .int _, .int _] [] lm_X3_63 wk_X9_clamp (c_MicRow_clamp l G _ _ _ _ _  hc127) rfl hl.1 (by simp [Value.category]) ⟨⟨rfl, rfl⟩, by decide, by decide⟩ ⟨by decide, by decide⟩ dX3_reckon_127 rfl (fun H locs E => ?_)
        refine W.eq (g2 := F0 m 130 ls (.int x127 :: [])) rfl ?_
        obtain rfl := fm_rt1 hf
        exact fm_iret C E rfl rfl dX3_reckon_130
      · have hf := fm_in' hf hc46
        refine lv_aload_n C.1 C.2.1 dX3_reckon_49 rfl (lv_at hl 0 rfl) ?_
        refine fm_geti C E lf_X3_22 hC_178 rfl dX3_reckon_50 ?_
        refine lv_iload C.1 C.2.1 dX3_reckon_53 (lv_at hl 4 rfl) ?_
        refine lv_ishr C.1 C.2.1 dX3_reckon_55 ?_
        refine lv_iconst (v := 1) C.1 C.2.1 dX3_reckon_56 (by decide) ?_
        refine lv_iand C.1 C.2.1 dX3_reckon_57 ?_
        refine lv_if_eq (tgt := 89) C.1 C.2.1 dX3_reckon_58 (by decide) (fun hc58 => ?_) (fun hc58 => ?_)
        · have hf := fm_ip hf hc58
          refine fm_iinc C (v := 1) (lv' := [(4, .int _), (0, .ref _), (1, .int _), (2, .int _), (3, .int _)]) (k := 4) hl rfl (by decide) (by decide) rfl dX3_reckon_89 (fun ls hl => ?_)
          refine lv_goto (tgt := 37) C.1 C.2.1 dX3_reckon_92 (by decide) ?_
          exact ih37 _ _ _ _ _ E (lv_sub hl [1, 2, 3, 4, 0] rfl) hf
        · have hf := fm_in' hf hc58
          refine lv_iload_n C.1 C.2.1 dX3_reckon_61 rfl (lv_at hl 3 rfl) ?_
          refine lv_aload_n C.1 C.2.1 dX3_reckon_62 rfl (lv_at hl 0 rfl) ?_
          refine fm_getr C E lf_X3_18 hC_178 rfl dX3_reckon_63 ?_
          refine fm_getr C E lf_X3_53 hC_1 rfl dX3_reckon_66 ?_
          refine lv_iload C.1 C.2.1 dX3_reckon_69 (lv_at hl 4 rfl) ?_
          obtain ⟨q71, h71, k71, e71, hf⟩ := fm_ix_t tC_10 hf
          refine fm_aald C E hC_9 h71 (r := q71) (by rw [e71]; exact rC_10 _ (fm_in_lt h71)) dX3_reckon_71 ?_
          refine lv_aload_n C.1 C.2.1 dX3_reckon_72 rfl (lv_at hl 0 rfl) ?_
          refine fm_getr C E lf_X3_18 hC_178 rfl dX3_reckon_73 ?_
          refine fm_getr C E lf_X3_43 hC_1 rfl dX3_reckon_76 ?_
          refine lv_iconst (v := 0) C.1 C.2.1 dX3_reckon_79 (by decide) ?_
          refine fm_aald C E hC_2 (by decide) (r := 3) (by decide) dX3_reckon_80 ?_
          refine lv_iload_n C.1 C.2.1 dX3_reckon_81 rfl (lv_at hl 1 rfl) ?_
          obtain ⟨h82, x82, e82, hf⟩ := fm_ld_e hf
          refine fm_iald' C E e82 hC_3 h82 dX3_reckon_82 ?_
          refine lv_iload_n C.1 C.2.1 dX3_reckon_83 rfl (lv_at hl 2 rfl) ?_
          obtain ⟨x84, hc84, hf⟩ := fm_bd hf
          refine fm_callS C E [.ref _, .int _, .int _] [.int _] lm_X3_56 wk_X3_waveAt (c_Ears_waveAt l G _ _ _ _ _  hc84) rfl hl.1 (by simp [Value.category]) ⟨⟨rfl, rfl⟩, by decide, by decide⟩ ⟨by decide, by decide⟩ dX3_reckon_84 rfl (fun H locs E => ?_)
          refine W.eq (g2 := F0 m 87 ls (.int x84 :: [.int _])) rfl ?_
          refine lv_iadd C.1 C.2.1 dX3_reckon_87 ?_
          refine lv_istore_n (lv' := [(3, .int _), (0, .ref _), (1, .int _), (2, .int _), (4, .int _)]) C.1 C.2.1 dX3_reckon_88 rfl hl (by decide) rfl (fun ls hl => ?_)
          refine fm_iinc C (v := 1) (lv' := [(4, .int _), (3, .int _), (0, .ref _), (1, .int _), (2, .int _)]) (k := 4) hl rfl (by decide) (by decide) rfl dX3_reckon_89 (fun ls hl => ?_)
          refine lv_goto (tgt := 37) C.1 C.2.1 dX3_reckon_92 (by decide) ?_
          exact ih37 _ _ _ _ _ E (lv_sub hl [2, 3, 4, 1, 0] rfl) hf
  unfold pEars_reckon at hf
  refine lv_aload_n C.1 C.2.1 dX3_reckon_0 rfl (lv_at hl 0 rfl) ?_
  refine fm_getr C E lf_X3_18 hC_178 rfl dX3_reckon_1 ?_
  refine fm_getr C E lf_X3_43 hC_1 rfl dX3_reckon_4 ?_
  refine lv_iconst (v := 4) C.1 C.2.1 dX3_reckon_7 (by decide) ?_
  refine fm_aald C E hC_2 (by decide) (r := 7) (by decide) dX3_reckon_8 ?_
  refine lv_iload_n C.1 C.2.1 dX3_reckon_9 rfl (lv_at hl 1 rfl) ?_
  obtain ⟨h10, x10, e10, hf⟩ := fm_ld_e hf
  refine fm_iald' C E e10 hC_7 h10 dX3_reckon_10 ?_
  refine lv_if_eq (tgt := 16) C.1 C.2.1 dX3_reckon_11 (by decide) (fun hc11 => ?_) (fun hc11 => ?_)
  · have hf := fm_ip hf hc11
    refine lv_aload_n C.1 C.2.1 dX3_reckon_16 rfl (lv_at hl 0 rfl) ?_
    refine fm_getr C E lf_X3_18 hC_178 rfl dX3_reckon_17 ?_
    refine fm_getr C E lf_X3_43 hC_1 rfl dX3_reckon_20 ?_
    refine lv_iconst (v := 2) C.1 C.2.1 dX3_reckon_23 (by decide) ?_
    refine fm_aald C E hC_2 (by decide) (r := 5) (by decide) dX3_reckon_24 ?_
    refine lv_iload_n C.1 C.2.1 dX3_reckon_25 rfl (lv_at hl 1 rfl) ?_
    obtain ⟨h26, x26, e26, hf⟩ := fm_ld_e hf
    refine fm_iald' C E e26 hC_5 h26 dX3_reckon_26 ?_
    refine lv_iload_n C.1 C.2.1 dX3_reckon_27 rfl (lv_at hl 1 rfl) ?_
    refine lv_iload_n C.1 C.2.1 dX3_reckon_28 rfl (lv_at hl 2 rfl) ?_
    obtain ⟨x29, hc29, hf⟩ := fm_bd hf
    refine fm_callS C E [.int _, .int _] [.int _] lm_X3_47 wk_X3_gust (c_Ears_gust l G _ _ _ _  hc29) rfl hl.1 (by simp [Value.category]) ⟨⟨rfl, rfl⟩, by decide, by decide⟩ ⟨by decide, by decide⟩ dX3_reckon_29 rfl (fun H locs E => ?_)
    refine W.eq (g2 := F0 m 32 ls (.int x29 :: [.int _])) rfl ?_
    refine lv_imul C.1 C.2.1 dX3_reckon_32 ?_
    refine lv_istore_n (lv' := [(3, .int _), (0, .ref _), (1, .int _), (2, .int _)]) C.1 C.2.1 dX3_reckon_33 rfl hl (by decide) rfl (fun ls hl => ?_)
    refine lv_iconst (v := 0) C.1 C.2.1 dX3_reckon_34 (by decide) ?_
    refine lv_istore (lv' := [(4, .int _), (3, .int _), (0, .ref _), (1, .int _), (2, .int _)]) C.1 C.2.1 dX3_reckon_35 hl (by decide) rfl (fun ls hl => ?_)
    exact L37 _ _ N _ _ _ _ _ E (lv_sub hl [2, 3, 4, 1, 0] rfl) hf
  · have hf := fm_in' hf hc11
    refine lv_iconst (v := 0) C.1 C.2.1 dX3_reckon_14 (by decide) ?_
    obtain rfl := fm_rt1 hf
    exact fm_iret C E rfl rfl dX3_reckon_15
theorem dX6_readSources_0 : decode cX6_readSources 0 = .ok (.aload_n 1, 1) := by decide +kernel
theorem dX6_readSources_1 : decode cX6_readSources 1 = .ok (.iconst 0, 1) := by decide +kernel
theorem dX6_readSources_2 : decode cX6_readSources 2 = .ok (.putfield 45, 3) := by decide +kernel
theorem dX6_readSources_5 : decode cX6_readSources 5 = .ok (.iconst 0, 1) := by decide +kernel
theorem dX6_readSources_6 : decode cX6_readSources 6 = .ok (.istore_n 2, 1) := by decide +kernel
theorem dX6_readSources_7 : decode cX6_readSources 7 = .ok (.iconst 0, 1) := by decide +kernel
theorem dX6_readSources_8 : decode cX6_readSources 8 = .ok (.istore_n 3, 1) := by decide +kernel
theorem dX6_readSources_9 : decode cX6_readSources 9 = .ok (.iload_n 3, 1) := by decide +kernel
theorem dX6_readSources_10 : decode cX6_readSources 10 = .ok (.iconst 4, 1) := by decide +kernel
theorem dX6_readSources_11 : decode cX6_readSources 11 = .ok (.if_icmp .ge 102, 3) := by decide +kernel
theorem dX6_readSources_14 : decode cX6_readSources 14 = .ok (.iload_n 2, 1) := by decide +kernel
theorem dX6_readSources_15 : decode cX6_readSources 15 = .ok (.aload_n 0, 1) := by decide +kernel
theorem dX6_readSources_16 : decode cX6_readSources 16 = .ok (.getfield 9, 3) := by decide +kernel
theorem dX6_readSources_19 : decode cX6_readSources 19 = .ok (.getfield 21, 3) := by decide +kernel
theorem dX6_readSources_22 : decode cX6_readSources 22 = .ok (.if_icmp .ge 91, 3) := by decide +kernel
theorem dX6_readSources_25 : decode cX6_readSources 25 = .ok (.aload_n 0, 1) := by decide +kernel
theorem dX6_readSources_26 : decode cX6_readSources 26 = .ok (.aload_n 1, 1) := by decide +kernel
theorem dX6_readSources_27 : decode cX6_readSources 27 = .ok (.getfield 48, 3) := by decide +kernel
theorem dX6_readSources_30 : decode cX6_readSources 30 = .ok (.iload_n 3, 1) := by decide +kernel
theorem dX6_readSources_31 : decode cX6_readSources 31 = .ok (.aaload, 1) := by decide +kernel
theorem dX6_readSources_32 : decode cX6_readSources 32 = .ok (.iload_n 2, 1) := by decide +kernel
theorem dX6_readSources_33 : decode cX6_readSources 33 = .ok (.invokevirtual 52, 3) := by decide +kernel
theorem dX6_readSources_36 : decode cX6_readSources 36 = .ok (.istore 4, 2) := by decide +kernel
theorem dX6_readSources_38 : decode cX6_readSources 38 = .ok (.iload 4, 2) := by decide +kernel
theorem dX6_readSources_40 : decode cX6_readSources 40 = .ok (.ifCond .ge 6, 3) := by decide +kernel
theorem dX6_readSources_43 : decode cX6_readSources 43 = .ok (.iload 4, 2) := by decide +kernel
theorem dX6_readSources_45 : decode cX6_readSources 45 = .ok (.ireturn, 1) := by decide +kernel
theorem dX6_readSources_46 : decode cX6_readSources 46 = .ok (.iload_n 2, 1) := by decide +kernel
theorem dX6_readSources_47 : decode cX6_readSources 47 = .ok (.iconst 3, 1) := by decide +kernel
theorem dX6_readSources_48 : decode cX6_readSources 48 = .ok (.iload 4, 2) := by decide +kernel
theorem dX6_readSources_50 : decode cX6_readSources 50 = .ok (.iadd, 1) := by decide +kernel
theorem dX6_readSources_51 : decode cX6_readSources 51 = .ok (.iadd, 1) := by decide +kernel
theorem dX6_readSources_52 : decode cX6_readSources 52 = .ok (.istore_n 2, 1) := by decide +kernel
theorem dX6_readSources_53 : decode cX6_readSources 53 = .ok (.aload_n 1, 1) := by decide +kernel
theorem dX6_readSources_54 : decode cX6_readSources 54 = .ok (.dup, 1) := by decide +kernel
theorem dX6_readSources_55 : decode cX6_readSources 55 = .ok (.getfield 45, 3) := by decide +kernel
theorem dX6_readSources_58 : decode cX6_readSources 58 = .ok (.iconst 1, 1) := by decide +kernel
theorem dX6_readSources_59 : decode cX6_readSources 59 = .ok (.iadd, 1) := by decide +kernel
theorem dX6_readSources_60 : decode cX6_readSources 60 = .ok (.putfield 45, 3) := by decide +kernel
theorem dX6_readSources_63 : decode cX6_readSources 63 = .ok (.iload_n 2, 1) := by decide +kernel
theorem dX6_readSources_64 : decode cX6_readSources 64 = .ok (.aload_n 0, 1) := by decide +kernel
theorem dX6_readSources_65 : decode cX6_readSources 65 = .ok (.getfield 9, 3) := by decide +kernel
theorem dX6_readSources_68 : decode cX6_readSources 68 = .ok (.getfield 21, 3) := by decide +kernel
theorem dX6_readSources_71 : decode cX6_readSources 71 = .ok (.if_icmp .ne 8, 3) := by decide +kernel
theorem dX6_readSources_74 : decode cX6_readSources 74 = .ok (.aload_n 1, 1) := by decide +kernel
theorem dX6_readSources_75 : decode cX6_readSources 75 = .ok (.getfield 45, 3) := by decide +kernel
theorem dX6_readSources_78 : decode cX6_readSources 78 = .ok (.ireturn, 1) := by decide +kernel
theorem dX6_readSources_79 : decode cX6_readSources 79 = .ok (.aload_n 0, 1) := by decide +kernel
theorem dX6_readSources_80 : decode cX6_readSources 80 = .ok (.getfield 9, 3) := by decide +kernel
theorem dX6_readSources_83 : decode cX6_readSources 83 = .ok (.iload_n 2, 1) := by decide +kernel
theorem dX6_readSources_84 : decode cX6_readSources 84 = .ok (.invokevirtual 42, 3) := by decide +kernel
theorem dX6_readSources_87 : decode cX6_readSources 87 = .ok (.bipush 59, 2) := by decide +kernel
theorem dX6_readSources_89 : decode cX6_readSources 89 = .ok (.if_icmp .ne 11, 3) := by decide +kernel
theorem dX6_readSources_92 : decode cX6_readSources 92 = .ok (.aload_n 1, 1) := by decide +kernel
theorem dX6_readSources_93 : decode cX6_readSources 93 = .ok (.getfield 45, 3) := by decide +kernel
theorem dX6_readSources_96 : decode cX6_readSources 96 = .ok (.iconst 4, 1) := by decide +kernel
theorem dX6_readSources_97 : decode cX6_readSources 97 = .ok (.if_icmp .ne 7, 3) := by decide +kernel
theorem dX6_readSources_100 : decode cX6_readSources 100 = .ok (.iconst (-1), 1) := by decide +kernel
theorem dX6_readSources_101 : decode cX6_readSources 101 = .ok (.iload_n 2, 1) := by decide +kernel
theorem dX6_readSources_102 : decode cX6_readSources 102 = .ok (.isub, 1) := by decide +kernel
theorem dX6_readSources_103 : decode cX6_readSources 103 = .ok (.ireturn, 1) := by decide +kernel
theorem dX6_readSources_104 : decode cX6_readSources 104 = .ok (.iinc 2 1, 3) := by decide +kernel
theorem dX6_readSources_107 : decode cX6_readSources 107 = .ok (.iinc 3 1, 3) := by decide +kernel
theorem dX6_readSources_110 : decode cX6_readSources 110 = .ok (.goto (-101), 3) := by decide +kernel
theorem dX6_readSources_113 : decode cX6_readSources 113 = .ok (.aload_n 0, 1) := by decide +kernel
theorem dX6_readSources_114 : decode cX6_readSources 114 = .ok (.getfield 9, 3) := by decide +kernel
theorem dX6_readSources_117 : decode cX6_readSources 117 = .ok (.getfield 21, 3) := by decide +kernel
theorem dX6_readSources_120 : decode cX6_readSources 120 = .ok (.ifCond .ne 7, 3) := by decide +kernel
theorem dX6_readSources_123 : decode cX6_readSources 123 = .ok (.iconst 0, 1) := by decide +kernel
theorem dX6_readSources_124 : decode cX6_readSources 124 = .ok (.goto 6, 3) := by decide +kernel
theorem dX6_readSources_127 : decode cX6_readSources 127 = .ok (.iconst (-1), 1) := by decide +kernel
theorem dX6_readSources_128 : decode cX6_readSources 128 = .ok (.iload_n 2, 1) := by decide +kernel
theorem dX6_readSources_129 : decode cX6_readSources 129 = .ok (.isub, 1) := by decide +kernel
theorem dX6_readSources_130 : decode cX6_readSources 130 = .ok (.ireturn, 1) := by decide +kernel
set_option maxHeartbeats 4000000 in
set_option maxRecDepth 100000 in
theorem c_Reader_readSources (l : Launch) (G : fm_G) (N : Nat) (M : fm_M) (r : Int32) (M' : fm_M) (hf : pReader_readSources N M = some (r, M')) : fm_Met l yX6_readSources cX6_readSources 5 (some .int) { frames := 4, cells := 0, slots := 0, locals := 87 } shC G [.ref (G.2.1 175), .ref (G.2.1 1)] M (some (.int r)) M' := by
  refine fm_enter (by decide) (Nat.le_of_ble_eq_true rfl) ?_
  intro p e s m args below meth c ls C E hl
  have hl : lv_has ls 5 [(0, .ref (G.2.1 175)), (1, .ref (G.2.1 1))] := hl
  have J113 : ∀ (M : fm_M) (v2 : Int32) (H : Heap) (locs : List Loc) (ls : Array Slot), fm_Wd shC G M s H locs → lv_has ls 5 [(0, .ref (G.2.1 175)), (2, .int v2)] → pReader_readSources_J113 N M v2 = some (r, M') → W p l e { frames := 4, cells := 0, slots := 0, locals := 87 } s m args below meth c H locs 0 0 (fm_Z below shC G args s (some (.int r)) M') (F0 m 113 ls []) := by
    intro M v2 H locs ls E hl hf
    unfold pReader_readSources_J113 at hf
    refine lv_aload_n C.1 C.2.1 dX6_readSources_113 rfl (lv_at hl 0 rfl) ?_
    refine fm_getr C E lf_X6_9 hC_175 rfl dX6_readSources_114 ?_
    refine fm_geti C E lf_X6_21 hC_173 rfl dX6_readSources_117 ?_
    refine lv_if_ne (tgt := 127) C.1 C.2.1 dX6_readSources_120 (by decide) (fun hc120 => ?_) (fun hc120 => ?_)
    · have hf := fm_in' hf hc120
      refine lv_iconst (v := (-1)) C.1 C.2.1 dX6_readSources_127 (by decide) ?_
      refine lv_iload_n C.1 C.2.1 dX6_readSources_128 rfl (lv_at hl 1 rfl) ?_
      refine lv_isub C.1 C.2.1 dX6_readSources_129 ?_
      obtain ⟨rfl, rfl⟩ := fm_rt2 hf
      exact fm_iret C E rfl rfl dX6_readSources_130
    · have hf := fm_ip hf hc120
      refine lv_iconst (v := 0) C.1 C.2.1 dX6_readSources_123 (by decide) ?_
      refine lv_goto (tgt := 130) C.1 C.2.1 dX6_readSources_124 (by decide) ?_
      obtain ⟨rfl, rfl⟩ := fm_rt2 hf
      exact fm_iret C E rfl rfl dX6_readSources_130
  have L9 : ∀ (n9 : Nat) (v2 : Int32) (v3 : Int32) (M : fm_M) (H : Heap) (locs : List Loc) (ls : Array Slot), fm_Wd shC G M s H locs → lv_has ls 5 [(0, .ref (G.2.1 175)), (1, .ref (G.2.1 1)), (2, .int v2), (3, .int v3)] → fm_lp (pReader_readSources_L9 N) n9 (v2, v3, M) = some (r, M') → W p l e { frames := 4, cells := 0, slots := 0, locals := 87 } s m args below meth c H locs 0 0 (fm_Z below shC G args s (some (.int r)) M') (F0 m 9 ls []) := by
    intro  n9
    induction n9 with
    | zero => intro v2 v3 M H locs ls E hl hf; exact fm_lp_0 hf
    | succ n9 ih9 =>
      intro v2 v3 M H locs ls E hl hf
      have hf : pReader_readSources_L9b N (fm_lp (pReader_readSources_L9 N) n9) v2 v3 M = some (r, M') := hf
      unfold pReader_readSources_L9b at hf
      refine lv_iload_n C.1 C.2.1 dX6_readSources_9 rfl (lv_at hl 3 rfl) ?_
      refine lv_iconst (v := 4) C.1 C.2.1 dX6_readSources_10 (by decide) ?_
      refine lv_icmp_ge (tgt := 113) C.1 C.2.1 dX6_readSources_11 (by decide) (fun hc11 => ?_) (fun hc11 => ?_)
      · have hf := fm_ip hf hc11
        exact J113 _ _ _ _ _ E (lv_sub hl [0, 2] rfl) hf
      · have hf := fm_in' hf hc11
        refine lv_iload_n C.1 C.2.1 dX6_readSources_14 rfl (lv_at hl 2 rfl) ?_
        refine lv_aload_n C.1 C.2.1 dX6_readSources_15 rfl (lv_at hl 0 rfl) ?_
        refine fm_getr C E lf_X6_9 hC_175 rfl dX6_readSources_16 ?_
        refine fm_geti C E lf_X6_21 hC_173 rfl dX6_readSources_19 ?_
        refine lv_icmp_ge (tgt := 113) C.1 C.2.1 dX6_readSources_22 (by decide) (fun hc22 => ?_) (fun hc22 => ?_)
        · have hf := fm_ip hf hc22
          exact J113 _ _ _ _ _ E (lv_sub hl [0, 2] rfl) hf
        · have hf := fm_in' hf hc22
          refine lv_aload_n C.1 C.2.1 dX6_readSources_25 rfl (lv_at hl 0 rfl) ?_
          refine lv_aload_n C.1 C.2.1 dX6_readSources_26 rfl (lv_at hl 1 rfl) ?_
          refine fm_getr C E lf_X6_48 hC_1 rfl dX6_readSources_27 ?_
          refine lv_iload_n C.1 C.2.1 dX6_readSources_30 rfl (lv_at hl 3 rfl) ?_
          obtain ⟨q31, h31, k31, e31, hf⟩ := fm_ix_t tC_10 hf
          refine fm_aald C E hC_9 h31 (r := q31) (by rw [e31]; exact rC_10 _ (fm_in_lt h31)) dX6_readSources_31 ?_
          refine lv_iload_n C.1 C.2.1 dX6_readSources_32 rfl (lv_at hl 2 rfl) ?_
          obtain ⟨⟨x33, M33⟩, hc33, hf⟩ := fm_bd hf
          dsimp only at hf
          refine fm_callV C E [.ref _, .int _] [] lm_X6_52 wk_X6_readSource (c_Reader_readSource l G N _ _ _ _ _ hc33) hC_175 rfl rfl rfl hl.1 (by simp [Value.category]) ⟨⟨rfl, rfl⟩, by decide, by decide⟩ ⟨by decide, by decide⟩ dX6_readSources_33 rfl (fun H locs E => ?_)
          refine W.eq (g2 := F0 m 36 ls (.int x33 :: [])) rfl ?_
          refine lv_istore (lv' := [(4, .int _), (0, .ref _), (1, .ref _), (2, .int _), (3, .int _)]) C.1 C.2.1 dX6_readSources_36 hl (by decide) rfl (fun ls hl => ?_)
          refine lv_iload C.1 C.2.1 dX6_readSources_38 (lv_at hl 0 rfl) ?_
          refine lv_if_ge (tgt := 46) C.1 C.2.1 dX6_readSources_40 (by decide) (fun hc40 => ?_) (fun hc40 => ?_)
          · have hf := fm_ip hf hc40
            refine lv_iload_n C.1 C.2.1 dX6_readSources_46 rfl (lv_at hl 3 rfl) ?_
            refine lv_iconst (v := 3) C.1 C.2.1 dX6_readSources_47 (by decide) ?_
            refine lv_iload C.1 C.2.1 dX6_readSources_48 (lv_at hl 0 rfl) ?_
            refine lv_iadd C.1 C.2.1 dX6_readSources_50 ?_
            refine lv_iadd C.1 C.2.1 dX6_readSources_51 ?_
            refine lv_istore_n (lv' := [(2, .int _), (4, .int _), (0, .ref _), (1, .ref _), (3, .int _)]) C.1 C.2.1 dX6_readSources_52 rfl hl (by decide) rfl (fun ls hl => ?_)
            refine lv_aload_n C.1 C.2.1 dX6_readSources_53 rfl (lv_at hl 3 rfl) ?_
            refine lv_dup C.1 C.2.1 dX6_readSources_54 rfl ?_
            refine fm_geti C E lf_X6_45 hC_1 rfl dX6_readSources_55 ?_
            refine lv_iconst (v := 1) C.1 C.2.1 dX6_readSources_58 (by decide) ?_
            refine lv_iadd C.1 C.2.1 dX6_readSources_59 ?_
            obtain ⟨M60, e60, hf⟩ := fm_pt_s hf
            refine fm_put' C E e60 lp_X6_45 hC_1 rfl dX6_readSources_60 (fun H locs E => ?_)
            refine lv_iload_n C.1 C.2.1 dX6_readSources_63 rfl (lv_at hl 0 rfl) ?_
            refine lv_aload_n C.1 C.2.1 dX6_readSources_64 rfl (lv_at hl 2 rfl) ?_
            refine fm_getr C E lf_X6_9 hC_175 rfl dX6_readSources_65 ?_
            refine fm_geti C E lf_X6_21 hC_173 rfl dX6_readSources_68 ?_
            refine lv_icmp_ne (tgt := 79) C.1 C.2.1 dX6_readSources_71 (by decide) (fun hc71 => ?_) (fun hc71 => ?_)
            · have hf := fm_in' hf hc71
              refine lv_aload_n C.1 C.2.1 dX6_readSources_79 rfl (lv_at hl 2 rfl) ?_
              refine fm_getr C E lf_X6_9 hC_175 rfl dX6_readSources_80 ?_
              refine lv_iload_n C.1 C.2.1 dX6_readSources_83 rfl (lv_at hl 0 rfl) ?_
              obtain ⟨x84, hc84, hf⟩ := fm_bd hf
              refine fm_callV C E [.int _] [] lm_X6_42 wk_X4_at (c_Letters_at l G _ _ _  hc84) hC_173 rfl rfl rfl hl.1 (by simp [Value.category]) ⟨⟨rfl, rfl⟩, by decide, by decide⟩ ⟨by decide, by decide⟩ dX6_readSources_84 rfl (fun H locs E => ?_)
              refine W.eq (g2 := F0 m 87 ls (.int x84 :: [])) rfl ?_
              refine lv_bipush (v := 59) C.1 C.2.1 dX6_readSources_87 (by decide) ?_
              refine lv_icmp_ne (tgt := 100) C.1 C.2.1 dX6_readSources_89 (by decide) (fun hc89 => ?_) (fun hc89 => ?_)
              · have hf := fm_in' hf hc89
                refine lv_iconst (v := (-1)) C.1 C.2.1 dX6_readSources_100 (by decide) ?_
                refine lv_iload_n C.1 C.2.1 dX6_readSources_101 rfl (lv_at hl 0 rfl) ?_
                refine lv_isub C.1 C.2.1 dX6_readSources_102 ?_
                obtain ⟨rfl, rfl⟩ := fm_rt2 hf
                exact fm_iret C E rfl rfl dX6_readSources_103
              · have hf := fm_ip hf hc89
                refine lv_aload_n C.1 C.2.1 dX6_readSources_92 rfl (lv_at hl 3 rfl) ?_
                refine fm_geti C E lf_X6_45 hC_1 rfl dX6_readSources_93 ?_
                refine lv_iconst (v := 4) C.1 C.2.1 dX6_readSources_96 (by decide) ?_
                refine lv_icmp_ne (tgt := 104) C.1 C.2.1 dX6_readSources_97 (by decide) (fun hc97 => ?_) (fun hc97 => ?_)
                · have hf := fm_in' hf hc97
                  refine fm_iinc C (v := 1) (lv' := [(2, .int _), (4, .int _), (0, .ref _), (1, .ref _), (3, .int _)]) (k := 0) hl rfl (by decide) (by decide) rfl dX6_readSources_104 (fun ls hl => ?_)
                  refine fm_iinc C (v := 1) (lv' := [(3, .int _), (2, .int _), (4, .int _), (0, .ref _), (1, .ref _)]) (k := 4) hl rfl (by decide) (by decide) rfl dX6_readSources_107 (fun ls hl => ?_)
                  refine lv_goto (tgt := 9) C.1 C.2.1 dX6_readSources_110 (by decide) ?_
                  exact ih9 _ _ _ _ _ _ E (lv_sub hl [3, 4, 1, 0] rfl) hf
                · have hf := fm_ip hf hc97
                  refine lv_iconst (v := (-1)) C.1 C.2.1 dX6_readSources_100 (by decide) ?_
                  refine lv_iload_n C.1 C.2.1 dX6_readSources_101 rfl (lv_at hl 0 rfl) ?_
                  refine lv_isub C.1 C.2.1 dX6_readSources_102 ?_
                  obtain ⟨rfl, rfl⟩ := fm_rt2 hf
                  exact fm_iret C E rfl rfl dX6_readSources_103
            · have hf := fm_ip hf hc71
              refine lv_aload_n C.1 C.2.1 dX6_readSources_74 rfl (lv_at hl 3 rfl) ?_
              refine fm_geti C E lf_X6_45 hC_1 rfl dX6_readSources_75 ?_
              obtain ⟨rfl, rfl⟩ := fm_rt2 hf
              exact fm_iret C E rfl rfl dX6_readSources_78
          · have hf := fm_in' hf hc40
            refine lv_iload C.1 C.2.1 dX6_readSources_43 (lv_at hl 0 rfl) ?_
            obtain ⟨rfl, rfl⟩ := fm_rt2 hf
            exact fm_iret C E rfl rfl dX6_readSources_45
  unfold pReader_readSources at hf
  refine lv_aload_n C.1 C.2.1 dX6_readSources_0 rfl (lv_at hl 1 rfl) ?_
  refine lv_iconst (v := 0) C.1 C.2.1 dX6_readSources_1 (by decide) ?_
  obtain ⟨M2, e2, hf⟩ := fm_pt_s hf
  refine fm_put' C E e2 lp_X6_45 hC_1 rfl dX6_readSources_2 (fun H locs E => ?_)
  refine lv_iconst (v := 0) C.1 C.2.1 dX6_readSources_5 (by decide) ?_
  refine lv_istore_n (lv' := [(2, .int _), (0, .ref _), (1, .ref _)]) C.1 C.2.1 dX6_readSources_6 rfl hl (by decide) rfl (fun ls hl => ?_)
  refine lv_iconst (v := 0) C.1 C.2.1 dX6_readSources_7 (by decide) ?_
  refine lv_istore_n (lv' := [(3, .int _), (2, .int _), (0, .ref _), (1, .ref _)]) C.1 C.2.1 dX6_readSources_8 rfl hl (by decide) rfl (fun ls hl => ?_)
  exact L9  N _ _ _ _ _ _ E (lv_sub hl [2, 3, 1, 0] rfl) hf
theorem dX6_isAct_0 : decode cX6_isAct 0 = .ok (.iload_n 0, 1) := by decide +kernel
theorem dX6_isAct_1 : decode cX6_isAct 1 = .ok (.bipush 108, 2) := by decide +kernel
theorem dX6_isAct_3 : decode cX6_isAct 3 = .ok (.if_icmp .eq 13, 3) := by decide +kernel
theorem dX6_isAct_6 : decode cX6_isAct 6 = .ok (.iload_n 0, 1) := by decide +kernel
theorem dX6_isAct_7 : decode cX6_isAct 7 = .ok (.invokestatic 69, 3) := by decide +kernel
theorem dX6_isAct_10 : decode cX6_isAct 10 = .ok (.invokevirtual 73, 3) := by decide +kernel
theorem dX6_isAct_13 : decode cX6_isAct 13 = .ok (.ifCond .le 7, 3) := by decide +kernel
theorem dX6_isAct_16 : decode cX6_isAct 16 = .ok (.iconst 1, 1) := by decide +kernel
theorem dX6_isAct_17 : decode cX6_isAct 17 = .ok (.goto 4, 3) := by decide +kernel
theorem dX6_isAct_20 : decode cX6_isAct 20 = .ok (.iconst 0, 1) := by decide +kernel
theorem dX6_isAct_21 : decode cX6_isAct 21 = .ok (.ireturn, 1) := by decide +kernel
set_option maxHeartbeats 4000000 in
set_option maxRecDepth 100000 in
theorem c_Reader_isAct (l : Launch) (G : fm_G) (M : fm_M) (v0 : Int32) (r : Int32) (hf : pReader_isAct M v0 = some r) : fm_Met l yX6_isAct cX6_isAct 1 (some .boolean) { frames := 2, cells := 0, slots := 0, locals := 40 } shC G [.int v0] M (some (.int r)) M := by
  refine fm_enter (by decide) (Nat.le_of_ble_eq_true rfl) ?_
  intro p e s m args below meth c ls C E hl
  have hl : lv_has ls 1 [(0, .int v0)] := hl
  unfold pReader_isAct at hf
  refine lv_iload_n C.1 C.2.1 dX6_isAct_0 rfl (lv_at hl 0 rfl) ?_
  refine lv_bipush (v := 108) C.1 C.2.1 dX6_isAct_1 (by decide) ?_
  refine lv_icmp_eq (tgt := 16) C.1 C.2.1 dX6_isAct_3 (by decide) (fun hc3 => ?_) (fun hc3 => ?_)
  · have hf := fm_ip hf hc3
    refine lv_iconst (v := 1) C.1 C.2.1 dX6_isAct_16 (by decide) ?_
    refine lv_goto (tgt := 21) C.1 C.2.1 dX6_isAct_17 (by decide) ?_
    obtain rfl := fm_rt1 hf
    exact fm_iret C E rfl rfl dX6_isAct_21
  · have hf := fm_in' hf hc3
    refine lv_iload_n C.1 C.2.1 dX6_isAct_6 rfl (lv_at hl 0 rfl) ?_
    obtain ⟨x7, hc7, hf⟩ := fm_bd hf
    refine fm_callS C E [.int _] [] lm_X6_69 wk_X6_shapeOf (c_Reader_shapeOf l G _ _ _  hc7) rfl hl.1 (by simp [Value.category]) ⟨⟨rfl, rfl⟩, by decide, by decide⟩ ⟨by decide, by decide⟩ dX6_isAct_7 rfl (fun H locs E => ?_)
    refine W.eq (g2 := F0 m 10 ls (.ref (G.2.2.2.1 x7) :: [])) rfl ?_
    obtain ⟨x10, hc10, hf⟩ := fm_bd hf
    refine fm_callT C E [] [] lm_X6_73 wk_J0_length_8abf5 (c_String_length l _ G _ _ _  hc10) (of_decide_eq_true (fm_rq_s hc10).1) rfl rfl hl.1 (by simp [Value.category]) ⟨⟨rfl, rfl⟩, by decide, by decide⟩ ⟨by decide, by decide⟩ dX6_isAct_10 rfl (fun H locs E => ?_)
    refine W.eq (g2 := F0 m 13 ls (.int x10 :: [])) rfl ?_
    refine lv_if_le (tgt := 20) C.1 C.2.1 dX6_isAct_13 (by decide) (fun hc13 => ?_) (fun hc13 => ?_)
    · have hf := fm_ip hf hc13
      refine lv_iconst (v := 0) C.1 C.2.1 dX6_isAct_20 (by decide) ?_
      obtain rfl := fm_rt1 hf
      exact fm_iret C E rfl rfl dX6_isAct_21
    · have hf := fm_in' hf hc13
      refine lv_iconst (v := 1) C.1 C.2.1 dX6_isAct_16 (by decide) ?_
      refine lv_goto (tgt := 21) C.1 C.2.1 dX6_isAct_17 (by decide) ?_
      obtain rfl := fm_rt1 hf
      exact fm_iret C E rfl rfl dX6_isAct_21
theorem dX9_mics_0 : decode cX9_mics 0 = .ok (.aload_n 0, 1) := by decide +kernel
theorem dX9_mics_1 : decode cX9_mics 1 = .ok (.getfield 16, 3) := by decide +kernel
theorem dX9_mics_4 : decode cX9_mics 4 = .ok (.aload_n 0, 1) := by decide +kernel
theorem dX9_mics_5 : decode cX9_mics 5 = .ok (.getfield 10, 3) := by decide +kernel
theorem dX9_mics_8 : decode cX9_mics 8 = .ok (.invokevirtual 99, 3) := by decide +kernel
theorem dX9_mics_11 : decode cX9_mics 11 = .ok (.aload_n 0, 1) := by decide +kernel
theorem dX9_mics_12 : decode cX9_mics 12 = .ok (.getfield 46, 3) := by decide +kernel
theorem dX9_mics_15 : decode cX9_mics 15 = .ok (.aload_n 0, 1) := by decide +kernel
theorem dX9_mics_16 : decode cX9_mics 16 = .ok (.getfield 10, 3) := by decide +kernel
theorem dX9_mics_19 : decode cX9_mics 19 = .ok (.invokevirtual 102, 3) := by decide +kernel
theorem dX9_mics_22 : decode cX9_mics 22 = .ok (.istore_n 1, 1) := by decide +kernel
theorem dX9_mics_23 : decode cX9_mics 23 = .ok (.aload_n 0, 1) := by decide +kernel
theorem dX9_mics_24 : decode cX9_mics 24 = .ok (.getfield 37, 3) := by decide +kernel
theorem dX9_mics_27 : decode cX9_mics 27 = .ok (.iconst 0, 1) := by decide +kernel
theorem dX9_mics_28 : decode cX9_mics 28 = .ok (.invokevirtual 95, 3) := by decide +kernel
theorem dX9_mics_31 : decode cX9_mics 31 = .ok (.pop, 1) := by decide +kernel
theorem dX9_mics_32 : decode cX9_mics 32 = .ok (.aload_n 0, 1) := by decide +kernel
theorem dX9_mics_33 : decode cX9_mics 33 = .ok (.iload_n 1, 1) := by decide +kernel
theorem dX9_mics_34 : decode cX9_mics 34 = .ok (.invokevirtual 106, 3) := by decide +kernel
theorem dX9_mics_37 : decode cX9_mics 37 = .ok (.ireturn, 1) := by decide +kernel
set_option maxHeartbeats 4000000 in
set_option maxRecDepth 100000 in
theorem c_MicRow_mics (l : Launch) (G : fm_G) (N : Nat) (M : fm_M) (r : Int32) (M' : fm_M) (hf : pMicRow_mics N M = some (r, M')) : fm_Met l yX9_mics cX9_mics 2 (some .int) { frames := 4, cells := 0, slots := 0, locals := 91 } shC G [.ref (G.2.1 0)] M (some (.int r)) M' := by
  refine fm_enter (by decide) (Nat.le_of_ble_eq_true rfl) ?_
  intro p e s m args below meth c ls C E hl
  have hl : lv_has ls 2 [(0, .ref (G.2.1 0))] := hl
  unfold pMicRow_mics at hf
  refine lv_aload_n C.1 C.2.1 dX9_mics_0 rfl (lv_at hl 0 rfl) ?_
  refine fm_getr C E lf_X9_16 hC_0 rfl dX9_mics_1 ?_
  refine lv_aload_n C.1 C.2.1 dX9_mics_4 rfl (lv_at hl 0 rfl) ?_
  refine fm_getr C E lf_X9_10 hC_0 rfl dX9_mics_5 ?_
  obtain ⟨M8, hc8, hf⟩ := fm_bd hf
  refine fm_callV C E [.ref _] [] lm_X9_99 wk_X7_copyFrom (c_Scene_copyFrom l G N _ _ _ _ hc8) hC_15 rfl rfl rfl hl.1 (by simp [Value.category]) ⟨⟨rfl, rfl⟩, by decide, by decide⟩ ⟨by decide, by decide⟩ dX9_mics_8 rfl (fun H locs E => ?_)
  refine W.eq (g2 := F0 m 11 ls []) rfl ?_
  refine lv_aload_n C.1 C.2.1 dX9_mics_11 rfl (lv_at hl 0 rfl) ?_
  refine fm_getr C E lf_X9_46 hC_0 rfl dX9_mics_12 ?_
  refine lv_aload_n C.1 C.2.1 dX9_mics_15 rfl (lv_at hl 0 rfl) ?_
  refine fm_getr C E lf_X9_10 hC_0 rfl dX9_mics_16 ?_
  obtain ⟨⟨x19, M19⟩, hc19, hf⟩ := fm_bd hf
  dsimp only at hf
  refine fm_callV C E [.ref _] [] lm_X9_102 wk_X6_readMics (c_Reader_readMics l G N _ _ _ hc19) hC_175 rfl rfl rfl hl.1 (by simp [Value.category]) ⟨⟨rfl, rfl⟩, by decide, by decide⟩ ⟨by decide, by decide⟩ dX9_mics_19 rfl (fun H locs E => ?_)
  refine W.eq (g2 := F0 m 22 ls (.int x19 :: [])) rfl ?_
  refine lv_istore_n (lv' := [(1, .int _), (0, .ref _)]) C.1 C.2.1 dX9_mics_22 rfl hl (by decide) rfl (fun ls hl => ?_)
  refine lv_aload_n C.1 C.2.1 dX9_mics_23 rfl (lv_at hl 1 rfl) ?_
  refine fm_getr C E lf_X9_37 hC_0 rfl dX9_mics_24 ?_
  refine lv_iconst (v := 0) C.1 C.2.1 dX9_mics_27 (by decide) ?_
  obtain ⟨⟨x28, M28⟩, hc28, hf⟩ := fm_bd hf
  dsimp only at hf
  refine fm_callV C E [.int _] [] lm_X9_95 wk_X4_cutTo (c_Letters_cutTo l G _ _ _ _ hc28) hC_173 rfl rfl rfl hl.1 (by simp [Value.category]) ⟨⟨rfl, rfl⟩, by decide, by decide⟩ ⟨by decide, by decide⟩ dX9_mics_28 rfl (fun H locs E => ?_)
  refine W.eq (g2 := F0 m 31 ls (.int x28 :: [])) rfl ?_
  refine lv_pop C.1 C.2.1 dX9_mics_31 rfl ?_
  refine lv_aload_n C.1 C.2.1 dX9_mics_32 rfl (lv_at hl 1 rfl) ?_
  refine lv_iload_n C.1 C.2.1 dX9_mics_33 rfl (lv_at hl 0 rfl) ?_
  obtain ⟨⟨x34, M34⟩, hc34, hf⟩ := fm_bd hf
  dsimp only at hf
  refine fm_callV C E [.int _] [] lm_X9_106 wk_X9_settleChange (c_MicRow_settleChange l G N _ _ _ _ hc34) hC_0 rfl rfl rfl hl.1 (by simp [Value.category]) ⟨⟨rfl, rfl⟩, by decide, by decide⟩ ⟨by decide, by decide⟩ dX9_mics_34 rfl (fun H locs E => ?_)
  refine W.eq (g2 := F0 m 37 ls (.int x34 :: [])) rfl ?_
  obtain ⟨rfl, rfl⟩ := fm_rt2 hf
  exact fm_iret C E rfl rfl dX9_mics_37
theorem dX9_sources_0 : decode cX9_sources 0 = .ok (.aload_n 0, 1) := by decide +kernel
theorem dX9_sources_1 : decode cX9_sources 1 = .ok (.getfield 16, 3) := by decide +kernel
theorem dX9_sources_4 : decode cX9_sources 4 = .ok (.aload_n 0, 1) := by decide +kernel
theorem dX9_sources_5 : decode cX9_sources 5 = .ok (.getfield 10, 3) := by decide +kernel
theorem dX9_sources_8 : decode cX9_sources 8 = .ok (.invokevirtual 99, 3) := by decide +kernel
theorem dX9_sources_11 : decode cX9_sources 11 = .ok (.aload_n 0, 1) := by decide +kernel
theorem dX9_sources_12 : decode cX9_sources 12 = .ok (.getfield 46, 3) := by decide +kernel
theorem dX9_sources_15 : decode cX9_sources 15 = .ok (.aload_n 0, 1) := by decide +kernel
theorem dX9_sources_16 : decode cX9_sources 16 = .ok (.getfield 10, 3) := by decide +kernel
theorem dX9_sources_19 : decode cX9_sources 19 = .ok (.invokevirtual 109, 3) := by decide +kernel
theorem dX9_sources_22 : decode cX9_sources 22 = .ok (.istore_n 1, 1) := by decide +kernel
theorem dX9_sources_23 : decode cX9_sources 23 = .ok (.aload_n 0, 1) := by decide +kernel
theorem dX9_sources_24 : decode cX9_sources 24 = .ok (.getfield 37, 3) := by decide +kernel
theorem dX9_sources_27 : decode cX9_sources 27 = .ok (.iconst 0, 1) := by decide +kernel
theorem dX9_sources_28 : decode cX9_sources 28 = .ok (.invokevirtual 95, 3) := by decide +kernel
theorem dX9_sources_31 : decode cX9_sources 31 = .ok (.pop, 1) := by decide +kernel
theorem dX9_sources_32 : decode cX9_sources 32 = .ok (.aload_n 0, 1) := by decide +kernel
theorem dX9_sources_33 : decode cX9_sources 33 = .ok (.iload_n 1, 1) := by decide +kernel
theorem dX9_sources_34 : decode cX9_sources 34 = .ok (.invokevirtual 106, 3) := by decide +kernel
theorem dX9_sources_37 : decode cX9_sources 37 = .ok (.ireturn, 1) := by decide +kernel
set_option maxHeartbeats 4000000 in
set_option maxRecDepth 100000 in
theorem c_MicRow_sources (l : Launch) (G : fm_G) (N : Nat) (M : fm_M) (r : Int32) (M' : fm_M) (hf : pMicRow_sources N M = some (r, M')) : fm_Met l yX9_sources cX9_sources 2 (some .int) { frames := 5, cells := 0, slots := 0, locals := 111 } shC G [.ref (G.2.1 0)] M (some (.int r)) M' := by
  refine fm_enter (by decide) (Nat.le_of_ble_eq_true rfl) ?_
  intro p e s m args below meth c ls C E hl
  have hl : lv_has ls 2 [(0, .ref (G.2.1 0))] := hl
  unfold pMicRow_sources at hf
  refine lv_aload_n C.1 C.2.1 dX9_sources_0 rfl (lv_at hl 0 rfl) ?_
  refine fm_getr C E lf_X9_16 hC_0 rfl dX9_sources_1 ?_
  refine lv_aload_n C.1 C.2.1 dX9_sources_4 rfl (lv_at hl 0 rfl) ?_
  refine fm_getr C E lf_X9_10 hC_0 rfl dX9_sources_5 ?_
  obtain ⟨M8, hc8, hf⟩ := fm_bd hf
  refine fm_callV C E [.ref _] [] lm_X9_99 wk_X7_copyFrom (c_Scene_copyFrom l G N _ _ _ _ hc8) hC_15 rfl rfl rfl hl.1 (by simp [Value.category]) ⟨⟨rfl, rfl⟩, by decide, by decide⟩ ⟨by decide, by decide⟩ dX9_sources_8 rfl (fun H locs E => ?_)
  refine W.eq (g2 := F0 m 11 ls []) rfl ?_
  refine lv_aload_n C.1 C.2.1 dX9_sources_11 rfl (lv_at hl 0 rfl) ?_
  refine fm_getr C E lf_X9_46 hC_0 rfl dX9_sources_12 ?_
  refine lv_aload_n C.1 C.2.1 dX9_sources_15 rfl (lv_at hl 0 rfl) ?_
  refine fm_getr C E lf_X9_10 hC_0 rfl dX9_sources_16 ?_
  obtain ⟨⟨x19, M19⟩, hc19, hf⟩ := fm_bd hf
  dsimp only at hf
  refine fm_callV C E [.ref _] [] lm_X9_109 wk_X6_readSources (c_Reader_readSources l G N _ _ _ hc19) hC_175 rfl rfl rfl hl.1 (by simp [Value.category]) ⟨⟨rfl, rfl⟩, by decide, by decide⟩ ⟨by decide, by decide⟩ dX9_sources_19 rfl (fun H locs E => ?_)
  refine W.eq (g2 := F0 m 22 ls (.int x19 :: [])) rfl ?_
  refine lv_istore_n (lv' := [(1, .int _), (0, .ref _)]) C.1 C.2.1 dX9_sources_22 rfl hl (by decide) rfl (fun ls hl => ?_)
  refine lv_aload_n C.1 C.2.1 dX9_sources_23 rfl (lv_at hl 1 rfl) ?_
  refine fm_getr C E lf_X9_37 hC_0 rfl dX9_sources_24 ?_
  refine lv_iconst (v := 0) C.1 C.2.1 dX9_sources_27 (by decide) ?_
  obtain ⟨⟨x28, M28⟩, hc28, hf⟩ := fm_bd hf
  dsimp only at hf
  refine fm_callV C E [.int _] [] lm_X9_95 wk_X4_cutTo (c_Letters_cutTo l G _ _ _ _ hc28) hC_173 rfl rfl rfl hl.1 (by simp [Value.category]) ⟨⟨rfl, rfl⟩, by decide, by decide⟩ ⟨by decide, by decide⟩ dX9_sources_28 rfl (fun H locs E => ?_)
  refine W.eq (g2 := F0 m 31 ls (.int x28 :: [])) rfl ?_
  refine lv_pop C.1 C.2.1 dX9_sources_31 rfl ?_
  refine lv_aload_n C.1 C.2.1 dX9_sources_32 rfl (lv_at hl 1 rfl) ?_
  refine lv_iload_n C.1 C.2.1 dX9_sources_33 rfl (lv_at hl 0 rfl) ?_
  obtain ⟨⟨x34, M34⟩, hc34, hf⟩ := fm_bd hf
  dsimp only at hf
  refine fm_callV C E [.int _] [] lm_X9_106 wk_X9_settleChange (c_MicRow_settleChange l G N _ _ _ _ hc34) hC_0 rfl rfl rfl hl.1 (by simp [Value.category]) ⟨⟨rfl, rfl⟩, by decide, by decide⟩ ⟨by decide, by decide⟩ dX9_sources_34 rfl (fun H locs E => ?_)
  refine W.eq (g2 := F0 m 37 ls (.int x34 :: [])) rfl ?_
  obtain ⟨rfl, rfl⟩ := fm_rt2 hf
  exact fm_iret C E rfl rfl dX9_sources_37
theorem dX9_sets_0 : decode cX9_sets 0 = .ok (.aload_n 0, 1) := by decide +kernel
theorem dX9_sets_1 : decode cX9_sets 1 = .ok (.getfield 16, 3) := by decide +kernel
theorem dX9_sets_4 : decode cX9_sets 4 = .ok (.aload_n 0, 1) := by decide +kernel
theorem dX9_sets_5 : decode cX9_sets 5 = .ok (.getfield 10, 3) := by decide +kernel
theorem dX9_sets_8 : decode cX9_sets 8 = .ok (.invokevirtual 99, 3) := by decide +kernel
theorem dX9_sets_11 : decode cX9_sets 11 = .ok (.aload_n 0, 1) := by decide +kernel
theorem dX9_sets_12 : decode cX9_sets 12 = .ok (.iload_n 2, 1) := by decide +kernel
theorem dX9_sets_13 : decode cX9_sets 13 = .ok (.iconst 0, 1) := by decide +kernel
theorem dX9_sets_14 : decode cX9_sets 14 = .ok (.iconst 4, 1) := by decide +kernel
theorem dX9_sets_15 : decode cX9_sets 15 = .ok (.invokestatic 112, 3) := by decide +kernel
theorem dX9_sets_18 : decode cX9_sets 18 = .ok (.ifCond .eq 18, 3) := by decide +kernel
theorem dX9_sets_21 : decode cX9_sets 21 = .ok (.aload_n 0, 1) := by decide +kernel
theorem dX9_sets_22 : decode cX9_sets 22 = .ok (.getfield 10, 3) := by decide +kernel
theorem dX9_sets_25 : decode cX9_sets 25 = .ok (.iload_n 1, 1) := by decide +kernel
theorem dX9_sets_26 : decode cX9_sets 26 = .ok (.iload_n 2, 1) := by decide +kernel
theorem dX9_sets_27 : decode cX9_sets 27 = .ok (.iconst 1, 1) := by decide +kernel
theorem dX9_sets_28 : decode cX9_sets 28 = .ok (.iadd, 1) := by decide +kernel
theorem dX9_sets_29 : decode cX9_sets 29 = .ok (.iload_n 3, 1) := by decide +kernel
theorem dX9_sets_30 : decode cX9_sets 30 = .ok (.invokevirtual 134, 3) := by decide +kernel
theorem dX9_sets_33 : decode cX9_sets 33 = .ok (.goto 4, 3) := by decide +kernel
theorem dX9_sets_36 : decode cX9_sets 36 = .ok (.iconst (-1), 1) := by decide +kernel
theorem dX9_sets_37 : decode cX9_sets 37 = .ok (.invokevirtual 106, 3) := by decide +kernel
theorem dX9_sets_40 : decode cX9_sets 40 = .ok (.ireturn, 1) := by decide +kernel
set_option maxHeartbeats 4000000 in
set_option maxRecDepth 100000 in
theorem c_MicRow_sets (l : Launch) (G : fm_G) (N : Nat) (M : fm_M) (v1 : Int32) (v2 : Int32) (v3 : Int32) (r : Int32) (M' : fm_M) (hf : pMicRow_sets N M v1 v2 v3 = some (r, M')) : fm_Met l yX9_sets cX9_sets 4 (some .int) { frames := 4, cells := 0, slots := 0, locals := 90 } shC G [.ref (G.2.1 0), .int v1, .int v2, .int v3] M (some (.int r)) M' := by
  refine fm_enter (by decide) (Nat.le_of_ble_eq_true rfl) ?_
  intro p e s m args below meth c ls C E hl
  have hl : lv_has ls 4 [(0, .ref (G.2.1 0)), (1, .int v1), (2, .int v2), (3, .int v3)] := hl
  have J37 : ∀ (M : fm_M) (s1 : Int32) (H : Heap) (locs : List Loc) (ls : Array Slot), fm_Wd shC G M s H locs → lv_has ls 4 [] → pMicRow_sets_J37 N M s1 = some (r, M') → W p l e { frames := 4, cells := 0, slots := 0, locals := 90 } s m args below meth c H locs 0 0 (fm_Z below shC G args s (some (.int r)) M') (F0 m 37 ls [.int s1, .ref (G.2.1 0)]) := by
    intro M s1 H locs ls E hl hf
    unfold pMicRow_sets_J37 at hf
    obtain ⟨⟨x37, M37⟩, hc37, hf⟩ := fm_bd hf
    dsimp only at hf
    refine fm_callV C E [.int _] [] lm_X9_106 wk_X9_settleChange (c_MicRow_settleChange l G N _ _ _ _ hc37) hC_0 rfl rfl rfl hl.1 (by simp [Value.category]) ⟨⟨rfl, rfl⟩, by decide, by decide⟩ ⟨by decide, by decide⟩ dX9_sets_37 rfl (fun H locs E => ?_)
    refine W.eq (g2 := F0 m 40 ls (.int x37 :: [])) rfl ?_
    obtain ⟨rfl, rfl⟩ := fm_rt2 hf
    exact fm_iret C E rfl rfl dX9_sets_40
  unfold pMicRow_sets at hf
  refine lv_aload_n C.1 C.2.1 dX9_sets_0 rfl (lv_at hl 0 rfl) ?_
  refine fm_getr C E lf_X9_16 hC_0 rfl dX9_sets_1 ?_
  refine lv_aload_n C.1 C.2.1 dX9_sets_4 rfl (lv_at hl 0 rfl) ?_
  refine fm_getr C E lf_X9_10 hC_0 rfl dX9_sets_5 ?_
  obtain ⟨M8, hc8, hf⟩ := fm_bd hf
  refine fm_callV C E [.ref _] [] lm_X9_99 wk_X7_copyFrom (c_Scene_copyFrom l G N _ _ _ _ hc8) hC_15 rfl rfl rfl hl.1 (by simp [Value.category]) ⟨⟨rfl, rfl⟩, by decide, by decide⟩ ⟨by decide, by decide⟩ dX9_sets_8 rfl (fun H locs E => ?_)
  refine W.eq (g2 := F0 m 11 ls []) rfl ?_
  refine lv_aload_n C.1 C.2.1 dX9_sets_11 rfl (lv_at hl 0 rfl) ?_
  refine lv_iload_n C.1 C.2.1 dX9_sets_12 rfl (lv_at hl 2 rfl) ?_
  refine lv_iconst (v := 0) C.1 C.2.1 dX9_sets_13 (by decide) ?_
  refine lv_iconst (v := 4) C.1 C.2.1 dX9_sets_14 (by decide) ?_
  obtain ⟨x15, hc15, hf⟩ := fm_bd hf
  refine fm_callS C E [.int _, .int _, .int _] [.ref _] lm_X9_112 wk_X9_within (c_MicRow_within l G _ _ _ _ _  hc15) rfl hl.1 (by simp [Value.category]) ⟨⟨rfl, rfl⟩, by decide, by decide⟩ ⟨by decide, by decide⟩ dX9_sets_15 rfl (fun H locs E => ?_)
  refine W.eq (g2 := F0 m 18 ls (.int x15 :: [.ref _])) rfl ?_
  refine lv_if_eq (tgt := 36) C.1 C.2.1 dX9_sets_18 (by decide) (fun hc18 => ?_) (fun hc18 => ?_)
  · have hf := fm_ip hf hc18
    refine lv_iconst (v := (-1)) C.1 C.2.1 dX9_sets_36 (by decide) ?_
    exact J37 _ _ _ _ _ E (lv_sub hl [] rfl) hf
  · have hf := fm_in' hf hc18
    refine lv_aload_n C.1 C.2.1 dX9_sets_21 rfl (lv_at hl 0 rfl) ?_
    refine fm_getr C E lf_X9_10 hC_0 rfl dX9_sets_22 ?_
    refine lv_iload_n C.1 C.2.1 dX9_sets_25 rfl (lv_at hl 1 rfl) ?_
    refine lv_iload_n C.1 C.2.1 dX9_sets_26 rfl (lv_at hl 2 rfl) ?_
    refine lv_iconst (v := 1) C.1 C.2.1 dX9_sets_27 (by decide) ?_
    refine lv_iadd C.1 C.2.1 dX9_sets_28 ?_
    refine lv_iload_n C.1 C.2.1 dX9_sets_29 rfl (lv_at hl 3 rfl) ?_
    obtain ⟨⟨x30, M30⟩, hc30, hf⟩ := fm_bd hf
    dsimp only at hf
    refine fm_callV C E [.int _, .int _, .int _] [.ref _] lm_X9_134 wk_X7_put (c_Scene_put l G _ _ _ _ _ _ hc30) hC_1 rfl rfl rfl hl.1 (by simp [Value.category]) ⟨⟨rfl, rfl⟩, by decide, by decide⟩ ⟨by decide, by decide⟩ dX9_sets_30 rfl (fun H locs E => ?_)
    refine W.eq (g2 := F0 m 33 ls (.int x30 :: [.ref _])) rfl ?_
    refine lv_goto (tgt := 37) C.1 C.2.1 dX9_sets_33 (by decide) ?_
    exact J37 _ _ _ _ _ E (lv_sub hl [] rfl) hf
theorem dX9_holds_0 : decode cX9_holds 0 = .ok (.aload_n 0, 1) := by decide +kernel
theorem dX9_holds_1 : decode cX9_holds 1 = .ok (.getfield 16, 3) := by decide +kernel
theorem dX9_holds_4 : decode cX9_holds 4 = .ok (.aload_n 0, 1) := by decide +kernel
theorem dX9_holds_5 : decode cX9_holds 5 = .ok (.getfield 10, 3) := by decide +kernel
theorem dX9_holds_8 : decode cX9_holds 8 = .ok (.invokevirtual 99, 3) := by decide +kernel
theorem dX9_holds_11 : decode cX9_holds 11 = .ok (.aload_n 0, 1) := by decide +kernel
theorem dX9_holds_12 : decode cX9_holds 12 = .ok (.aload_n 0, 1) := by decide +kernel
theorem dX9_holds_13 : decode cX9_holds 13 = .ok (.getfield 10, 3) := by decide +kernel
theorem dX9_holds_16 : decode cX9_holds 16 = .ok (.iload_n 1, 1) := by decide +kernel
theorem dX9_holds_17 : decode cX9_holds 17 = .ok (.iload_n 2, 1) := by decide +kernel
theorem dX9_holds_18 : decode cX9_holds 18 = .ok (.invokevirtual 320, 3) := by decide +kernel
theorem dX9_holds_21 : decode cX9_holds 21 = .ok (.invokevirtual 106, 3) := by decide +kernel
theorem dX9_holds_24 : decode cX9_holds 24 = .ok (.ireturn, 1) := by decide +kernel
set_option maxHeartbeats 4000000 in
set_option maxRecDepth 100000 in
theorem c_MicRow_holds (l : Launch) (G : fm_G) (N : Nat) (M : fm_M) (v1 : Int32) (v2 : Int32) (r : Int32) (M' : fm_M) (hf : pMicRow_holds N M v1 v2 = some (r, M')) : fm_Met l yX9_holds cX9_holds 3 (some .int) { frames := 4, cells := 0, slots := 0, locals := 90 } shC G [.ref (G.2.1 0), .int v1, .int v2] M (some (.int r)) M' := by
  refine fm_enter (by decide) (Nat.le_of_ble_eq_true rfl) ?_
  intro p e s m args below meth c ls C E hl
  have hl : lv_has ls 3 [(0, .ref (G.2.1 0)), (1, .int v1), (2, .int v2)] := hl
  unfold pMicRow_holds at hf
  refine lv_aload_n C.1 C.2.1 dX9_holds_0 rfl (lv_at hl 0 rfl) ?_
  refine fm_getr C E lf_X9_16 hC_0 rfl dX9_holds_1 ?_
  refine lv_aload_n C.1 C.2.1 dX9_holds_4 rfl (lv_at hl 0 rfl) ?_
  refine fm_getr C E lf_X9_10 hC_0 rfl dX9_holds_5 ?_
  obtain ⟨M8, hc8, hf⟩ := fm_bd hf
  refine fm_callV C E [.ref _] [] lm_X9_99 wk_X7_copyFrom (c_Scene_copyFrom l G N _ _ _ _ hc8) hC_15 rfl rfl rfl hl.1 (by simp [Value.category]) ⟨⟨rfl, rfl⟩, by decide, by decide⟩ ⟨by decide, by decide⟩ dX9_holds_8 rfl (fun H locs E => ?_)
  refine W.eq (g2 := F0 m 11 ls []) rfl ?_
  refine lv_aload_n C.1 C.2.1 dX9_holds_11 rfl (lv_at hl 0 rfl) ?_
  refine lv_aload_n C.1 C.2.1 dX9_holds_12 rfl (lv_at hl 0 rfl) ?_
  refine fm_getr C E lf_X9_10 hC_0 rfl dX9_holds_13 ?_
  refine lv_iload_n C.1 C.2.1 dX9_holds_16 rfl (lv_at hl 1 rfl) ?_
  refine lv_iload_n C.1 C.2.1 dX9_holds_17 rfl (lv_at hl 2 rfl) ?_
  obtain ⟨⟨x18, M18⟩, hc18, hf⟩ := fm_bd hf
  dsimp only at hf
  refine fm_callV C E [.int _, .int _] [.ref _] lm_X9_320 wk_X7_hold (c_Scene_hold l G _ _ _ _ _ hc18) hC_1 rfl rfl rfl hl.1 (by simp [Value.category]) ⟨⟨rfl, rfl⟩, by decide, by decide⟩ ⟨by decide, by decide⟩ dX9_holds_18 rfl (fun H locs E => ?_)
  refine W.eq (g2 := F0 m 21 ls (.int x18 :: [.ref _])) rfl ?_
  obtain ⟨⟨x21, M21⟩, hc21, hf⟩ := fm_bd hf
  dsimp only at hf
  refine fm_callV C E [.int _] [] lm_X9_106 wk_X9_settleChange (c_MicRow_settleChange l G N _ _ _ _ hc21) hC_0 rfl rfl rfl hl.1 (by simp [Value.category]) ⟨⟨rfl, rfl⟩, by decide, by decide⟩ ⟨by decide, by decide⟩ dX9_holds_21 rfl (fun H locs E => ?_)
  refine W.eq (g2 := F0 m 24 ls (.int x21 :: [])) rfl ?_
  obtain ⟨rfl, rfl⟩ := fm_rt2 hf
  exact fm_iret C E rfl rfl dX9_holds_24
theorem dX9_moves_0 : decode cX9_moves 0 = .ok (.aload_n 0, 1) := by decide +kernel
theorem dX9_moves_1 : decode cX9_moves 1 = .ok (.getfield 16, 3) := by decide +kernel
theorem dX9_moves_4 : decode cX9_moves 4 = .ok (.aload_n 0, 1) := by decide +kernel
theorem dX9_moves_5 : decode cX9_moves 5 = .ok (.getfield 10, 3) := by decide +kernel
theorem dX9_moves_8 : decode cX9_moves 8 = .ok (.invokevirtual 99, 3) := by decide +kernel
theorem dX9_moves_11 : decode cX9_moves 11 = .ok (.aload_n 0, 1) := by decide +kernel
theorem dX9_moves_12 : decode cX9_moves 12 = .ok (.aload_n 0, 1) := by decide +kernel
theorem dX9_moves_13 : decode cX9_moves 13 = .ok (.getfield 10, 3) := by decide +kernel
theorem dX9_moves_16 : decode cX9_moves 16 = .ok (.iload_n 1, 1) := by decide +kernel
theorem dX9_moves_17 : decode cX9_moves 17 = .ok (.iload_n 2, 1) := by decide +kernel
theorem dX9_moves_18 : decode cX9_moves 18 = .ok (.invokevirtual 323, 3) := by decide +kernel
theorem dX9_moves_21 : decode cX9_moves 21 = .ok (.invokevirtual 106, 3) := by decide +kernel
theorem dX9_moves_24 : decode cX9_moves 24 = .ok (.ireturn, 1) := by decide +kernel
set_option maxHeartbeats 4000000 in
set_option maxRecDepth 100000 in
theorem c_MicRow_moves (l : Launch) (G : fm_G) (N : Nat) (M : fm_M) (v1 : Int32) (v2 : Int32) (r : Int32) (M' : fm_M) (hf : pMicRow_moves N M v1 v2 = some (r, M')) : fm_Met l yX9_moves cX9_moves 3 (some .int) { frames := 4, cells := 0, slots := 0, locals := 90 } shC G [.ref (G.2.1 0), .int v1, .int v2] M (some (.int r)) M' := by
  refine fm_enter (by decide) (Nat.le_of_ble_eq_true rfl) ?_
  intro p e s m args below meth c ls C E hl
  have hl : lv_has ls 3 [(0, .ref (G.2.1 0)), (1, .int v1), (2, .int v2)] := hl
  unfold pMicRow_moves at hf
  refine lv_aload_n C.1 C.2.1 dX9_moves_0 rfl (lv_at hl 0 rfl) ?_
  refine fm_getr C E lf_X9_16 hC_0 rfl dX9_moves_1 ?_
  refine lv_aload_n C.1 C.2.1 dX9_moves_4 rfl (lv_at hl 0 rfl) ?_
  refine fm_getr C E lf_X9_10 hC_0 rfl dX9_moves_5 ?_
  obtain ⟨M8, hc8, hf⟩ := fm_bd hf
  refine fm_callV C E [.ref _] [] lm_X9_99 wk_X7_copyFrom (c_Scene_copyFrom l G N _ _ _ _ hc8) hC_15 rfl rfl rfl hl.1 (by simp [Value.category]) ⟨⟨rfl, rfl⟩, by decide, by decide⟩ ⟨by decide, by decide⟩ dX9_moves_8 rfl (fun H locs E => ?_)
  refine W.eq (g2 := F0 m 11 ls []) rfl ?_
  refine lv_aload_n C.1 C.2.1 dX9_moves_11 rfl (lv_at hl 0 rfl) ?_
  refine lv_aload_n C.1 C.2.1 dX9_moves_12 rfl (lv_at hl 0 rfl) ?_
  refine fm_getr C E lf_X9_10 hC_0 rfl dX9_moves_13 ?_
  refine lv_iload_n C.1 C.2.1 dX9_moves_16 rfl (lv_at hl 1 rfl) ?_
  refine lv_iload_n C.1 C.2.1 dX9_moves_17 rfl (lv_at hl 2 rfl) ?_
  obtain ⟨⟨x18, M18⟩, hc18, hf⟩ := fm_bd hf
  dsimp only at hf
  refine fm_callV C E [.int _, .int _] [.ref _] lm_X9_323 wk_X7_move (c_Scene_move l G _ _ _ _ _ hc18) hC_1 rfl rfl rfl hl.1 (by simp [Value.category]) ⟨⟨rfl, rfl⟩, by decide, by decide⟩ ⟨by decide, by decide⟩ dX9_moves_18 rfl (fun H locs E => ?_)
  refine W.eq (g2 := F0 m 21 ls (.int x18 :: [.ref _])) rfl ?_
  obtain ⟨⟨x21, M21⟩, hc21, hf⟩ := fm_bd hf
  dsimp only at hf
  refine fm_callV C E [.int _] [] lm_X9_106 wk_X9_settleChange (c_MicRow_settleChange l G N _ _ _ _ hc21) hC_0 rfl rfl rfl hl.1 (by simp [Value.category]) ⟨⟨rfl, rfl⟩, by decide, by decide⟩ ⟨by decide, by decide⟩ dX9_moves_21 rfl (fun H locs E => ?_)
  refine W.eq (g2 := F0 m 24 ls (.int x21 :: [])) rfl ?_
  obtain ⟨rfl, rfl⟩ := fm_rt2 hf
  exact fm_iret C E rfl rfl dX9_moves_24
theorem dX9_aims_0 : decode cX9_aims 0 = .ok (.aload_n 0, 1) := by decide +kernel
theorem dX9_aims_1 : decode cX9_aims 1 = .ok (.getfield 16, 3) := by decide +kernel
theorem dX9_aims_4 : decode cX9_aims 4 = .ok (.aload_n 0, 1) := by decide +kernel
theorem dX9_aims_5 : decode cX9_aims 5 = .ok (.getfield 10, 3) := by decide +kernel
theorem dX9_aims_8 : decode cX9_aims 8 = .ok (.invokevirtual 99, 3) := by decide +kernel
theorem dX9_aims_11 : decode cX9_aims 11 = .ok (.aload_n 0, 1) := by decide +kernel
theorem dX9_aims_12 : decode cX9_aims 12 = .ok (.aload_n 0, 1) := by decide +kernel
theorem dX9_aims_13 : decode cX9_aims 13 = .ok (.getfield 10, 3) := by decide +kernel
theorem dX9_aims_16 : decode cX9_aims 16 = .ok (.iload_n 1, 1) := by decide +kernel
theorem dX9_aims_17 : decode cX9_aims 17 = .ok (.iload_n 2, 1) := by decide +kernel
theorem dX9_aims_18 : decode cX9_aims 18 = .ok (.iload_n 3, 1) := by decide +kernel
theorem dX9_aims_19 : decode cX9_aims 19 = .ok (.invokevirtual 332, 3) := by decide +kernel
theorem dX9_aims_22 : decode cX9_aims 22 = .ok (.invokevirtual 106, 3) := by decide +kernel
theorem dX9_aims_25 : decode cX9_aims 25 = .ok (.ireturn, 1) := by decide +kernel
set_option maxHeartbeats 4000000 in
set_option maxRecDepth 100000 in
theorem c_MicRow_aims (l : Launch) (G : fm_G) (N : Nat) (M : fm_M) (v1 : Int32) (v2 : Int32) (v3 : Int32) (r : Int32) (M' : fm_M) (hf : pMicRow_aims N M v1 v2 v3 = some (r, M')) : fm_Met l yX9_aims cX9_aims 4 (some .int) { frames := 4, cells := 0, slots := 0, locals := 90 } shC G [.ref (G.2.1 0), .int v1, .int v2, .int v3] M (some (.int r)) M' := by
  refine fm_enter (by decide) (Nat.le_of_ble_eq_true rfl) ?_
  intro p e s m args below meth c ls C E hl
  have hl : lv_has ls 4 [(0, .ref (G.2.1 0)), (1, .int v1), (2, .int v2), (3, .int v3)] := hl
  unfold pMicRow_aims at hf
  refine lv_aload_n C.1 C.2.1 dX9_aims_0 rfl (lv_at hl 0 rfl) ?_
  refine fm_getr C E lf_X9_16 hC_0 rfl dX9_aims_1 ?_
  refine lv_aload_n C.1 C.2.1 dX9_aims_4 rfl (lv_at hl 0 rfl) ?_
  refine fm_getr C E lf_X9_10 hC_0 rfl dX9_aims_5 ?_
  obtain ⟨M8, hc8, hf⟩ := fm_bd hf
  refine fm_callV C E [.ref _] [] lm_X9_99 wk_X7_copyFrom (c_Scene_copyFrom l G N _ _ _ _ hc8) hC_15 rfl rfl rfl hl.1 (by simp [Value.category]) ⟨⟨rfl, rfl⟩, by decide, by decide⟩ ⟨by decide, by decide⟩ dX9_aims_8 rfl (fun H locs E => ?_)
  refine W.eq (g2 := F0 m 11 ls []) rfl ?_
  refine lv_aload_n C.1 C.2.1 dX9_aims_11 rfl (lv_at hl 0 rfl) ?_
  refine lv_aload_n C.1 C.2.1 dX9_aims_12 rfl (lv_at hl 0 rfl) ?_
  refine fm_getr C E lf_X9_10 hC_0 rfl dX9_aims_13 ?_
  refine lv_iload_n C.1 C.2.1 dX9_aims_16 rfl (lv_at hl 1 rfl) ?_
  refine lv_iload_n C.1 C.2.1 dX9_aims_17 rfl (lv_at hl 2 rfl) ?_
  refine lv_iload_n C.1 C.2.1 dX9_aims_18 rfl (lv_at hl 3 rfl) ?_
  obtain ⟨⟨x19, M19⟩, hc19, hf⟩ := fm_bd hf
  dsimp only at hf
  refine fm_callV C E [.int _, .int _, .int _] [.ref _] lm_X9_332 wk_X7_aim (c_Scene_aim l G _ _ _ _ _ _ hc19) hC_1 rfl rfl rfl hl.1 (by simp [Value.category]) ⟨⟨rfl, rfl⟩, by decide, by decide⟩ ⟨by decide, by decide⟩ dX9_aims_19 rfl (fun H locs E => ?_)
  refine W.eq (g2 := F0 m 22 ls (.int x19 :: [.ref _])) rfl ?_
  obtain ⟨⟨x22, M22⟩, hc22, hf⟩ := fm_bd hf
  dsimp only at hf
  refine fm_callV C E [.int _] [] lm_X9_106 wk_X9_settleChange (c_MicRow_settleChange l G N _ _ _ _ hc22) hC_0 rfl rfl rfl hl.1 (by simp [Value.category]) ⟨⟨rfl, rfl⟩, by decide, by decide⟩ ⟨by decide, by decide⟩ dX9_aims_22 rfl (fun H locs E => ?_)
  refine W.eq (g2 := F0 m 25 ls (.int x22 :: [])) rfl ?_
  obtain ⟨rfl, rfl⟩ := fm_rt2 hf
  exact fm_iret C E rfl rfl dX9_aims_25
theorem dX9_goes_0 : decode cX9_goes 0 = .ok (.aload_n 0, 1) := by decide +kernel
theorem dX9_goes_1 : decode cX9_goes 1 = .ok (.getfield 16, 3) := by decide +kernel
theorem dX9_goes_4 : decode cX9_goes 4 = .ok (.aload_n 0, 1) := by decide +kernel
theorem dX9_goes_5 : decode cX9_goes 5 = .ok (.getfield 10, 3) := by decide +kernel
theorem dX9_goes_8 : decode cX9_goes 8 = .ok (.invokevirtual 99, 3) := by decide +kernel
theorem dX9_goes_11 : decode cX9_goes 11 = .ok (.aload_n 0, 1) := by decide +kernel
theorem dX9_goes_12 : decode cX9_goes 12 = .ok (.aload_n 0, 1) := by decide +kernel
theorem dX9_goes_13 : decode cX9_goes 13 = .ok (.getfield 10, 3) := by decide +kernel
theorem dX9_goes_16 : decode cX9_goes 16 = .ok (.iload_n 1, 1) := by decide +kernel
theorem dX9_goes_17 : decode cX9_goes 17 = .ok (.invokevirtual 335, 3) := by decide +kernel
theorem dX9_goes_20 : decode cX9_goes 20 = .ok (.invokevirtual 106, 3) := by decide +kernel
theorem dX9_goes_23 : decode cX9_goes 23 = .ok (.ireturn, 1) := by decide +kernel
set_option maxHeartbeats 4000000 in
set_option maxRecDepth 100000 in
theorem c_MicRow_goes (l : Launch) (G : fm_G) (N : Nat) (M : fm_M) (v1 : Int32) (r : Int32) (M' : fm_M) (hf : pMicRow_goes N M v1 = some (r, M')) : fm_Met l yX9_goes cX9_goes 2 (some .int) { frames := 4, cells := 0, slots := 0, locals := 90 } shC G [.ref (G.2.1 0), .int v1] M (some (.int r)) M' := by
  refine fm_enter (by decide) (Nat.le_of_ble_eq_true rfl) ?_
  intro p e s m args below meth c ls C E hl
  have hl : lv_has ls 2 [(0, .ref (G.2.1 0)), (1, .int v1)] := hl
  unfold pMicRow_goes at hf
  refine lv_aload_n C.1 C.2.1 dX9_goes_0 rfl (lv_at hl 0 rfl) ?_
  refine fm_getr C E lf_X9_16 hC_0 rfl dX9_goes_1 ?_
  refine lv_aload_n C.1 C.2.1 dX9_goes_4 rfl (lv_at hl 0 rfl) ?_
  refine fm_getr C E lf_X9_10 hC_0 rfl dX9_goes_5 ?_
  obtain ⟨M8, hc8, hf⟩ := fm_bd hf
  refine fm_callV C E [.ref _] [] lm_X9_99 wk_X7_copyFrom (c_Scene_copyFrom l G N _ _ _ _ hc8) hC_15 rfl rfl rfl hl.1 (by simp [Value.category]) ⟨⟨rfl, rfl⟩, by decide, by decide⟩ ⟨by decide, by decide⟩ dX9_goes_8 rfl (fun H locs E => ?_)
  refine W.eq (g2 := F0 m 11 ls []) rfl ?_
  refine lv_aload_n C.1 C.2.1 dX9_goes_11 rfl (lv_at hl 0 rfl) ?_
  refine lv_aload_n C.1 C.2.1 dX9_goes_12 rfl (lv_at hl 0 rfl) ?_
  refine fm_getr C E lf_X9_10 hC_0 rfl dX9_goes_13 ?_
  refine lv_iload_n C.1 C.2.1 dX9_goes_16 rfl (lv_at hl 1 rfl) ?_
  obtain ⟨⟨x17, M17⟩, hc17, hf⟩ := fm_bd hf
  dsimp only at hf
  refine fm_callV C E [.int _] [.ref _] lm_X9_335 wk_X7_drop (c_Scene_drop l G N _ _ _ _ hc17) hC_1 rfl rfl rfl hl.1 (by simp [Value.category]) ⟨⟨rfl, rfl⟩, by decide, by decide⟩ ⟨by decide, by decide⟩ dX9_goes_17 rfl (fun H locs E => ?_)
  refine W.eq (g2 := F0 m 20 ls (.int x17 :: [.ref _])) rfl ?_
  obtain ⟨⟨x20, M20⟩, hc20, hf⟩ := fm_bd hf
  dsimp only at hf
  refine fm_callV C E [.int _] [] lm_X9_106 wk_X9_settleChange (c_MicRow_settleChange l G N _ _ _ _ hc20) hC_0 rfl rfl rfl hl.1 (by simp [Value.category]) ⟨⟨rfl, rfl⟩, by decide, by decide⟩ ⟨by decide, by decide⟩ dX9_goes_20 rfl (fun H locs E => ?_)
  refine W.eq (g2 := F0 m 23 ls (.int x20 :: [])) rfl ?_
  obtain ⟨rfl, rfl⟩ := fm_rt2 hf
  exact fm_iret C E rfl rfl dX9_goes_23
theorem dJ0_indexOf_7cf53_0 : decode cJ0_indexOf_7cf53 0 = .ok (.aload_n 0, 1) := by decide +kernel
theorem dJ0_indexOf_7cf53_1 : decode cJ0_indexOf_7cf53 1 = .ok (.invokevirtual 492, 3) := by decide +kernel
theorem dJ0_indexOf_7cf53_4 : decode cJ0_indexOf_7cf53 4 = .ok (.ifCond .eq 19, 3) := by decide +kernel
theorem dJ0_indexOf_7cf53_7 : decode cJ0_indexOf_7cf53 7 = .ok (.aload_n 0, 1) := by decide +kernel
theorem dJ0_indexOf_7cf53_8 : decode cJ0_indexOf_7cf53 8 = .ok (.getfield 9, 3) := by decide +kernel
theorem dJ0_indexOf_7cf53_11 : decode cJ0_indexOf_7cf53 11 = .ok (.iload_n 1, 1) := by decide +kernel
theorem dJ0_indexOf_7cf53_12 : decode cJ0_indexOf_7cf53 12 = .ok (.iload_n 2, 1) := by decide +kernel
theorem dJ0_indexOf_7cf53_13 : decode cJ0_indexOf_7cf53 13 = .ok (.aload_n 0, 1) := by decide +kernel
theorem dJ0_indexOf_7cf53_14 : decode cJ0_indexOf_7cf53 14 = .ok (.invokevirtual 505, 3) := by decide +kernel
theorem dJ0_indexOf_7cf53_17 : decode cJ0_indexOf_7cf53 17 = .ok (.invokestatic 637, 3) := by decide +kernel
theorem dJ0_indexOf_7cf53_20 : decode cJ0_indexOf_7cf53 20 = .ok (.goto 16, 3) := by decide +kernel
theorem dJ0_indexOf_7cf53_23 : decode cJ0_indexOf_7cf53 23 = .ok (.aload_n 0, 1) := by decide +kernel
theorem dJ0_indexOf_7cf53_24 : decode cJ0_indexOf_7cf53 24 = .ok (.getfield 9, 3) := by decide +kernel
theorem dJ0_indexOf_7cf53_27 : decode cJ0_indexOf_7cf53 27 = .ok (.iload_n 1, 1) := by decide +kernel
theorem dJ0_indexOf_7cf53_28 : decode cJ0_indexOf_7cf53 28 = .ok (.iload_n 2, 1) := by decide +kernel
theorem dJ0_indexOf_7cf53_29 : decode cJ0_indexOf_7cf53 29 = .ok (.aload_n 0, 1) := by decide +kernel
theorem dJ0_indexOf_7cf53_30 : decode cJ0_indexOf_7cf53 30 = .ok (.invokevirtual 505, 3) := by decide +kernel
theorem dJ0_indexOf_7cf53_33 : decode cJ0_indexOf_7cf53 33 = .ok (.invokestatic 640, 3) := by decide +kernel
theorem dJ0_indexOf_7cf53_36 : decode cJ0_indexOf_7cf53 36 = .ok (.ireturn, 1) := by decide +kernel
set_option maxHeartbeats 4000000 in
set_option maxRecDepth 100000 in
theorem c_String_indexOf2 (l : Launch) (SH : List fm_Sh) (G : fm_G) (N : Nat) (M : fm_M) (v0 : Nat) (v1 : Int32) (v2 : Int32) (r : Int32) (hf : pString_indexOf2 N M v0 v1 v2 = some r) : fm_Met l yJ0_indexOf_7cf53 cJ0_indexOf_7cf53 3 (some .int) { frames := 2, cells := 0, slots := 0, locals := 48 } SH G [.ref (G.2.2.2.1 v0), .int v1, .int v2] M (some (.int r)) M := by
  refine fm_enterF (by decide +kernel) (Nat.le_of_ble_eq_true rfl) ?_
  intro p e s m args below meth c ls C E hl
  have hl : lv_has ls 3 [(0, .ref (G.2.2.2.1 v0)), (1, .int v1), (2, .int v2)] := hl
  unfold pString_indexOf2 at hf
  obtain ⟨hi_v0, hf⟩ := fm_rq_s hf
  have hi_v0 := of_decide_eq_true hi_v0
  refine lv_aload_n C.1 C.2.1 dJ0_indexOf_7cf53_0 rfl (lv_at hl 0 rfl) ?_
  obtain ⟨x1, hc1, hf⟩ := fm_bd hf
  refine fm_callT C E [] [] lm_J0_492 wk_J0_isLatin1_aae02 (c_String_isLatin1 l _ G _ _ _  hc1) (of_decide_eq_true (fm_rq_s hc1).1) rfl rfl hl.1 (by simp [Value.category]) ⟨⟨rfl, rfl⟩, by decide, by decide⟩ ⟨by decide, by decide⟩ dJ0_indexOf_7cf53_1 rfl (fun H locs E => ?_)
  refine W.eq (g2 := F0 m 4 ls (.int x1 :: [])) rfl ?_
  refine lv_if_eq (tgt := 23) C.1 C.2.1 dJ0_indexOf_7cf53_4 (by decide) (fun hc4 => ?_) (fun hc4 => ?_)
  · have hf := fm_ip hf hc4
    refine lv_aload_n C.1 C.2.1 dJ0_indexOf_7cf53_23 rfl (lv_at hl 0 rfl) ?_
    refine fm_sva C E hi_v0 wf_1713 dJ0_indexOf_7cf53_24 ?_
    refine lv_iload_n C.1 C.2.1 dJ0_indexOf_7cf53_27 rfl (lv_at hl 1 rfl) ?_
    refine lv_iload_n C.1 C.2.1 dJ0_indexOf_7cf53_28 rfl (lv_at hl 2 rfl) ?_
    refine lv_aload_n C.1 C.2.1 dJ0_indexOf_7cf53_29 rfl (lv_at hl 0 rfl) ?_
    obtain ⟨x30, hc30, hf⟩ := fm_bd hf
    refine fm_callT C E [] [.int _, .int _, .ref _] lm_J0_505 wk_J0_length_8abf5 (c_String_length l _ G _ _ _  hc30) (of_decide_eq_true (fm_rq_s hc30).1) rfl rfl hl.1 (by simp [Value.category]) ⟨⟨rfl, rfl⟩, by decide, by decide⟩ ⟨by decide, by decide⟩ dJ0_indexOf_7cf53_30 rfl (fun H locs E => ?_)
    refine W.eq (g2 := F0 m 33 ls (.int x30 :: [.int _, .int _, .ref _])) rfl ?_
    cases hf
  · have hf := fm_in' hf hc4
    refine lv_aload_n C.1 C.2.1 dJ0_indexOf_7cf53_7 rfl (lv_at hl 0 rfl) ?_
    refine fm_sva C E hi_v0 wf_1713 dJ0_indexOf_7cf53_8 ?_
    refine lv_iload_n C.1 C.2.1 dJ0_indexOf_7cf53_11 rfl (lv_at hl 1 rfl) ?_
    refine lv_iload_n C.1 C.2.1 dJ0_indexOf_7cf53_12 rfl (lv_at hl 2 rfl) ?_
    refine lv_aload_n C.1 C.2.1 dJ0_indexOf_7cf53_13 rfl (lv_at hl 0 rfl) ?_
    obtain ⟨x14, hc14, hf⟩ := fm_bd hf
    refine fm_callT C E [] [.int _, .int _, .ref _] lm_J0_505 wk_J0_length_8abf5 (c_String_length l _ G _ _ _  hc14) (of_decide_eq_true (fm_rq_s hc14).1) rfl rfl hl.1 (by simp [Value.category]) ⟨⟨rfl, rfl⟩, by decide, by decide⟩ ⟨by decide, by decide⟩ dJ0_indexOf_7cf53_14 rfl (fun H locs E => ?_)
    refine W.eq (g2 := F0 m 17 ls (.int x14 :: [.int _, .int _, .ref _])) rfl ?_
    obtain ⟨x17, hc17, hf⟩ := fm_bd hf
    refine fm_callS C E [.ref _, .int _, .int _, .int _] [] lm_J0_637 wk_J1_indexOf_4cfef (c_Latin1_indexOf l _ G N _ _ _ _ _ _  hc17) rfl hl.1 (by simp [Value.category]) ⟨⟨rfl, rfl⟩, by decide, by decide⟩ ⟨by decide, by decide⟩ dJ0_indexOf_7cf53_17 rfl (fun H locs E => ?_)
    refine W.eq (g2 := F0 m 20 ls (.int x17 :: [])) rfl ?_
    refine lv_goto (tgt := 36) C.1 C.2.1 dJ0_indexOf_7cf53_20 (by decide) ?_
    obtain rfl := fm_rt1 hf
    exact fm_iret C E rfl rfl dJ0_indexOf_7cf53_36
theorem dX3_at_0 : decode cX3_at 0 = .ok (.aload_n 0, 1) := by decide +kernel
theorem dX3_at_1 : decode cX3_at 1 = .ok (.getfield 18, 3) := by decide +kernel
theorem dX3_at_4 : decode cX3_at 4 = .ok (.iload_n 1, 1) := by decide +kernel
theorem dX3_at_5 : decode cX3_at 5 = .ok (.invokevirtual 29, 3) := by decide +kernel
theorem dX3_at_8 : decode cX3_at 8 = .ok (.ifCond .eq 16, 3) := by decide +kernel
theorem dX3_at_11 : decode cX3_at 11 = .ok (.iload_n 2, 1) := by decide +kernel
theorem dX3_at_12 : decode cX3_at 12 = .ok (.sipush (-300), 3) := by decide +kernel
theorem dX3_at_15 : decode cX3_at 15 = .ok (.sipush 300, 3) := by decide +kernel
theorem dX3_at_18 : decode cX3_at 18 = .ok (.invokestatic 35, 3) := by decide +kernel
theorem dX3_at_21 : decode cX3_at 21 = .ok (.ifCond .ne 5, 3) := by decide +kernel
theorem dX3_at_24 : decode cX3_at 24 = .ok (.iconst 0, 1) := by decide +kernel
theorem dX3_at_25 : decode cX3_at 25 = .ok (.ireturn, 1) := by decide +kernel
theorem dX3_at_26 : decode cX3_at 26 = .ok (.iload_n 1, 1) := by decide +kernel
theorem dX3_at_27 : decode cX3_at 27 = .ok (.sipush 601, 3) := by decide +kernel
theorem dX3_at_30 : decode cX3_at 30 = .ok (.imul, 1) := by decide +kernel
theorem dX3_at_31 : decode cX3_at 31 = .ok (.sipush 300, 3) := by decide +kernel
theorem dX3_at_34 : decode cX3_at 34 = .ok (.iadd, 1) := by decide +kernel
theorem dX3_at_35 : decode cX3_at 35 = .ok (.iload_n 2, 1) := by decide +kernel
theorem dX3_at_36 : decode cX3_at 36 = .ok (.iadd, 1) := by decide +kernel
theorem dX3_at_37 : decode cX3_at 37 = .ok (.istore_n 3, 1) := by decide +kernel
theorem dX3_at_38 : decode cX3_at 38 = .ok (.aload_n 0, 1) := by decide +kernel
theorem dX3_at_39 : decode cX3_at 39 = .ok (.getfield 15, 3) := by decide +kernel
theorem dX3_at_42 : decode cX3_at 42 = .ok (.iload_n 3, 1) := by decide +kernel
theorem dX3_at_43 : decode cX3_at 43 = .ok (.iaload, 1) := by decide +kernel
theorem dX3_at_44 : decode cX3_at 44 = .ok (.aload_n 0, 1) := by decide +kernel
theorem dX3_at_45 : decode cX3_at 45 = .ok (.getfield 26, 3) := by decide +kernel
theorem dX3_at_48 : decode cX3_at 48 = .ok (.if_icmp .eq 25, 3) := by decide +kernel
theorem dX3_at_51 : decode cX3_at 51 = .ok (.aload_n 0, 1) := by decide +kernel
theorem dX3_at_52 : decode cX3_at 52 = .ok (.getfield 15, 3) := by decide +kernel
theorem dX3_at_55 : decode cX3_at 55 = .ok (.iload_n 3, 1) := by decide +kernel
theorem dX3_at_56 : decode cX3_at 56 = .ok (.aload_n 0, 1) := by decide +kernel
theorem dX3_at_57 : decode cX3_at 57 = .ok (.getfield 26, 3) := by decide +kernel
theorem dX3_at_60 : decode cX3_at 60 = .ok (.iastore, 1) := by decide +kernel
theorem dX3_at_61 : decode cX3_at 61 = .ok (.aload_n 0, 1) := by decide +kernel
theorem dX3_at_62 : decode cX3_at 62 = .ok (.getfield 11, 3) := by decide +kernel
theorem dX3_at_65 : decode cX3_at 65 = .ok (.iload_n 3, 1) := by decide +kernel
theorem dX3_at_66 : decode cX3_at 66 = .ok (.aload_n 0, 1) := by decide +kernel
theorem dX3_at_67 : decode cX3_at 67 = .ok (.iload_n 1, 1) := by decide +kernel
theorem dX3_at_68 : decode cX3_at 68 = .ok (.iload_n 2, 1) := by decide +kernel
theorem dX3_at_69 : decode cX3_at 69 = .ok (.invokevirtual 39, 3) := by decide +kernel
theorem dX3_at_72 : decode cX3_at 72 = .ok (.iastore, 1) := by decide +kernel
theorem dX3_at_73 : decode cX3_at 73 = .ok (.aload_n 0, 1) := by decide +kernel
theorem dX3_at_74 : decode cX3_at 74 = .ok (.getfield 11, 3) := by decide +kernel
theorem dX3_at_77 : decode cX3_at 77 = .ok (.iload_n 3, 1) := by decide +kernel
theorem dX3_at_78 : decode cX3_at 78 = .ok (.iaload, 1) := by decide +kernel
theorem dX3_at_79 : decode cX3_at 79 = .ok (.ireturn, 1) := by decide +kernel
set_option maxHeartbeats 4000000 in
set_option maxRecDepth 100000 in
theorem c_Ears_at (l : Launch) (G : fm_G) (N : Nat) (M : fm_M) (v1 : Int32) (v2 : Int32) (r : Int32) (M' : fm_M) (hf : pEars_at N M v1 v2 = some (r, M')) : fm_Met l yX3_at cX3_at 4 (some .int) { frames := 3, cells := 0, slots := 0, locals := 73 } shC G [.ref (G.2.1 178), .int v1, .int v2] M (some (.int r)) M' := by
  refine fm_enter (by decide) (Nat.le_of_ble_eq_true rfl) ?_
  intro p e s m args below meth c ls C E hl
  have hl : lv_has ls 4 [(0, .ref (G.2.1 178)), (1, .int v1), (2, .int v2)] := hl
  have J73 : ∀ (M : fm_M) (v3 : Int32) (H : Heap) (locs : List Loc) (ls : Array Slot), fm_Wd shC G M s H locs → lv_has ls 4 [(0, .ref (G.2.1 178)), (3, .int v3)] → pEars_at_J73 N M v3 = some (r, M') → W p l e { frames := 3, cells := 0, slots := 0, locals := 73 } s m args below meth c H locs 0 0 (fm_Z below shC G args s (some (.int r)) M') (F0 m 73 ls []) := by
    intro M v3 H locs ls E hl hf
    unfold pEars_at_J73 at hf
    refine lv_aload_n C.1 C.2.1 dX3_at_73 rfl (lv_at hl 0 rfl) ?_
    refine fm_getr C E lf_X3_11 hC_178 rfl dX3_at_74 ?_
    refine lv_iload_n C.1 C.2.1 dX3_at_77 rfl (lv_at hl 1 rfl) ?_
    obtain ⟨h78, x78, e78, hf⟩ := fm_ld_e hf
    refine fm_iald' C E e78 hC_179 h78 dX3_at_78 ?_
    obtain ⟨rfl, rfl⟩ := fm_rt2 hf
    exact fm_iret C E rfl rfl dX3_at_79
  unfold pEars_at at hf
  refine lv_aload_n C.1 C.2.1 dX3_at_0 rfl (lv_at hl 0 rfl) ?_
  refine fm_getr C E lf_X3_18 hC_178 rfl dX3_at_1 ?_
  refine lv_iload_n C.1 C.2.1 dX3_at_4 rfl (lv_at hl 1 rfl) ?_
  obtain ⟨x5, hc5, hf⟩ := fm_bd hf
  refine fm_callV C E [.int _] [] lm_X3_29 wk_X7_hasMic (c_Scene_hasMic l G _ _ _  hc5) hC_1 rfl rfl rfl hl.1 (by simp [Value.category]) ⟨⟨rfl, rfl⟩, by decide, by decide⟩ ⟨by decide, by decide⟩ dX3_at_5 rfl (fun H locs E => ?_)
  refine W.eq (g2 := F0 m 8 ls (.int x5 :: [])) rfl ?_
  refine lv_if_eq (tgt := 24) C.1 C.2.1 dX3_at_8 (by decide) (fun hc8 => ?_) (fun hc8 => ?_)
  · have hf := fm_ip hf hc8
    refine lv_iconst (v := 0) C.1 C.2.1 dX3_at_24 (by decide) ?_
    obtain ⟨rfl, rfl⟩ := fm_rt2 hf
    exact fm_iret C E rfl rfl dX3_at_25
  · have hf := fm_in' hf hc8
    refine lv_iload_n C.1 C.2.1 dX3_at_11 rfl (lv_at hl 2 rfl) ?_
    refine lv_sipush (v := (-300)) C.1 C.2.1 dX3_at_12 (by decide) ?_
    refine lv_sipush (v := 300) C.1 C.2.1 dX3_at_15 (by decide) ?_
    obtain ⟨x18, hc18, hf⟩ := fm_bd hf
    refine fm_callS C E [.int _, .int _, .int _] [] lm_X3_35 wk_X9_within (c_MicRow_within l G _ _ _ _ _  hc18) rfl hl.1 (by simp [Value.category]) ⟨⟨rfl, rfl⟩, by decide, by decide⟩ ⟨by decide, by decide⟩ dX3_at_18 rfl (fun H locs E => ?_)
    refine W.eq (g2 := F0 m 21 ls (.int x18 :: [])) rfl ?_
    refine lv_if_ne (tgt := 26) C.1 C.2.1 dX3_at_21 (by decide) (fun hc21 => ?_) (fun hc21 => ?_)
    · have hf := fm_in' hf hc21
      refine lv_iload_n C.1 C.2.1 dX3_at_26 rfl (lv_at hl 1 rfl) ?_
      refine lv_sipush (v := 601) C.1 C.2.1 dX3_at_27 (by decide) ?_
      refine lv_imul C.1 C.2.1 dX3_at_30 ?_
      refine lv_sipush (v := 300) C.1 C.2.1 dX3_at_31 (by decide) ?_
      refine lv_iadd C.1 C.2.1 dX3_at_34 ?_
      refine lv_iload_n C.1 C.2.1 dX3_at_35 rfl (lv_at hl 2 rfl) ?_
      refine lv_iadd C.1 C.2.1 dX3_at_36 ?_
      refine lv_istore_n (lv' := [(3, .int _), (0, .ref _), (1, .int _), (2, .int _)]) C.1 C.2.1 dX3_at_37 rfl hl (by decide) rfl (fun ls hl => ?_)
      refine lv_aload_n C.1 C.2.1 dX3_at_38 rfl (lv_at hl 1 rfl) ?_
      refine fm_getr C E lf_X3_15 hC_178 rfl dX3_at_39 ?_
      refine lv_iload_n C.1 C.2.1 dX3_at_42 rfl (lv_at hl 0 rfl) ?_
      obtain ⟨h43, x43, e43, hf⟩ := fm_ld_e hf
      refine fm_iald' C E e43 hC_180 h43 dX3_at_43 ?_
      refine lv_aload_n C.1 C.2.1 dX3_at_44 rfl (lv_at hl 1 rfl) ?_
      refine fm_geti C E lf_X3_26 hC_178 rfl dX3_at_45 ?_
      refine lv_icmp_eq (tgt := 73) C.1 C.2.1 dX3_at_48 (by decide) (fun hc48 => ?_) (fun hc48 => ?_)
      · have hf := fm_ip hf hc48
        exact J73 _ _ _ _ _ E (lv_sub hl [1, 0] rfl) hf
      · have hf := fm_in' hf hc48
        refine lv_aload_n C.1 C.2.1 dX3_at_51 rfl (lv_at hl 1 rfl) ?_
        refine fm_getr C E lf_X3_15 hC_178 rfl dX3_at_52 ?_
        refine lv_iload_n C.1 C.2.1 dX3_at_55 rfl (lv_at hl 0 rfl) ?_
        refine lv_aload_n C.1 C.2.1 dX3_at_56 rfl (lv_at hl 1 rfl) ?_
        refine fm_geti C E lf_X3_26 hC_178 rfl dX3_at_57 ?_
        obtain ⟨h60, M60, e60, hf⟩ := fm_st_e hf
        refine fm_iast' C E e60 hC_180 h60 dX3_at_60 (fun H locs E => ?_)
        refine lv_aload_n C.1 C.2.1 dX3_at_61 rfl (lv_at hl 1 rfl) ?_
        refine fm_getr C E lf_X3_11 hC_178 rfl dX3_at_62 ?_
        refine lv_iload_n C.1 C.2.1 dX3_at_65 rfl (lv_at hl 0 rfl) ?_
        refine lv_aload_n C.1 C.2.1 dX3_at_66 rfl (lv_at hl 1 rfl) ?_
        refine lv_iload_n C.1 C.2.1 dX3_at_67 rfl (lv_at hl 2 rfl) ?_
        refine lv_iload_n C.1 C.2.1 dX3_at_68 rfl (lv_at hl 3 rfl) ?_
        obtain ⟨x69, hc69, hf⟩ := fm_bd hf
        refine fm_callV C E [.int _, .int _] [.int _, .ref _] lm_X3_39 wk_X3_reckon (c_Ears_reckon l G N _ _ _ _  hc69) hC_178 rfl rfl rfl hl.1 (by simp [Value.category]) ⟨⟨rfl, rfl⟩, by decide, by decide⟩ ⟨by decide, by decide⟩ dX3_at_69 rfl (fun H locs E => ?_)
        refine W.eq (g2 := F0 m 72 ls (.int x69 :: [.int _, .ref _])) rfl ?_
        obtain ⟨h72, M72, e72, hf⟩ := fm_st_e hf
        refine fm_iast' C E e72 hC_179 h72 dX3_at_72 (fun H locs E => ?_)
        exact J73 _ _ _ _ _ E (lv_sub hl [1, 0] rfl) hf
    · have hf := fm_ip hf hc21
      refine lv_iconst (v := 0) C.1 C.2.1 dX3_at_24 (by decide) ?_
      obtain ⟨rfl, rfl⟩ := fm_rt2 hf
      exact fm_iret C E rfl rfl dX3_at_25
theorem dX6_faultInDay_0 : decode cX6_faultInDay 0 = .ok (.iconst 0, 1) := by decide +kernel
theorem dX6_faultInDay_1 : decode cX6_faultInDay 1 = .ok (.istore_n 1, 1) := by decide +kernel
theorem dX6_faultInDay_2 : decode cX6_faultInDay 2 = .ok (.iload_n 1, 1) := by decide +kernel
theorem dX6_faultInDay_3 : decode cX6_faultInDay 3 = .ok (.aload_n 0, 1) := by decide +kernel
theorem dX6_faultInDay_4 : decode cX6_faultInDay 4 = .ok (.getfield 9, 3) := by decide +kernel
theorem dX6_faultInDay_7 : decode cX6_faultInDay 7 = .ok (.getfield 21, 3) := by decide +kernel
theorem dX6_faultInDay_10 : decode cX6_faultInDay 10 = .ok (.if_icmp .ge 69, 3) := by decide +kernel
theorem dX6_faultInDay_13 : decode cX6_faultInDay 13 = .ok (.aload_n 0, 1) := by decide +kernel
theorem dX6_faultInDay_14 : decode cX6_faultInDay 14 = .ok (.getfield 9, 3) := by decide +kernel
theorem dX6_faultInDay_17 : decode cX6_faultInDay 17 = .ok (.iload_n 1, 1) := by decide +kernel
theorem dX6_faultInDay_18 : decode cX6_faultInDay 18 = .ok (.invokevirtual 42, 3) := by decide +kernel
theorem dX6_faultInDay_21 : decode cX6_faultInDay 21 = .ok (.istore_n 2, 1) := by decide +kernel
theorem dX6_faultInDay_22 : decode cX6_faultInDay 22 = .ok (.iload_n 2, 1) := by decide +kernel
theorem dX6_faultInDay_23 : decode cX6_faultInDay 23 = .ok (.invokestatic 66, 3) := by decide +kernel
theorem dX6_faultInDay_26 : decode cX6_faultInDay 26 = .ok (.ifCond .ne 5, 3) := by decide +kernel
theorem dX6_faultInDay_29 : decode cX6_faultInDay 29 = .ok (.iload_n 1, 1) := by decide +kernel
theorem dX6_faultInDay_30 : decode cX6_faultInDay 30 = .ok (.ireturn, 1) := by decide +kernel
theorem dX6_faultInDay_31 : decode cX6_faultInDay 31 = .ok (.iload_n 2, 1) := by decide +kernel
theorem dX6_faultInDay_32 : decode cX6_faultInDay 32 = .ok (.invokestatic 69, 3) := by decide +kernel
theorem dX6_faultInDay_35 : decode cX6_faultInDay 35 = .ok (.astore_n 3, 1) := by decide +kernel
theorem dX6_faultInDay_36 : decode cX6_faultInDay 36 = .ok (.iinc 1 1, 3) := by decide +kernel
theorem dX6_faultInDay_39 : decode cX6_faultInDay 39 = .ok (.iconst 0, 1) := by decide +kernel
theorem dX6_faultInDay_40 : decode cX6_faultInDay 40 = .ok (.istore 4, 2) := by decide +kernel
theorem dX6_faultInDay_42 : decode cX6_faultInDay 42 = .ok (.iload 4, 2) := by decide +kernel
theorem dX6_faultInDay_44 : decode cX6_faultInDay 44 = .ok (.aload_n 3, 1) := by decide +kernel
theorem dX6_faultInDay_45 : decode cX6_faultInDay 45 = .ok (.invokevirtual 73, 3) := by decide +kernel
theorem dX6_faultInDay_48 : decode cX6_faultInDay 48 = .ok (.if_icmp .ge 28, 3) := by decide +kernel
theorem dX6_faultInDay_51 : decode cX6_faultInDay 51 = .ok (.aload_n 0, 1) := by decide +kernel
theorem dX6_faultInDay_52 : decode cX6_faultInDay 52 = .ok (.aload_n 3, 1) := by decide +kernel
theorem dX6_faultInDay_53 : decode cX6_faultInDay 53 = .ok (.iload 4, 2) := by decide +kernel
theorem dX6_faultInDay_55 : decode cX6_faultInDay 55 = .ok (.invokevirtual 78, 3) := by decide +kernel
theorem dX6_faultInDay_58 : decode cX6_faultInDay 58 = .ok (.iload_n 1, 1) := by decide +kernel
theorem dX6_faultInDay_59 : decode cX6_faultInDay 59 = .ok (.invokevirtual 82, 3) := by decide +kernel
theorem dX6_faultInDay_62 : decode cX6_faultInDay 62 = .ok (.ifCond .ne 5, 3) := by decide +kernel
theorem dX6_faultInDay_65 : decode cX6_faultInDay 65 = .ok (.iload_n 1, 1) := by decide +kernel
theorem dX6_faultInDay_66 : decode cX6_faultInDay 66 = .ok (.ireturn, 1) := by decide +kernel
theorem dX6_faultInDay_67 : decode cX6_faultInDay 67 = .ok (.iinc 1 1, 3) := by decide +kernel
theorem dX6_faultInDay_70 : decode cX6_faultInDay 70 = .ok (.iinc 4 1, 3) := by decide +kernel
theorem dX6_faultInDay_73 : decode cX6_faultInDay 73 = .ok (.goto (-31), 3) := by decide +kernel
theorem dX6_faultInDay_76 : decode cX6_faultInDay 76 = .ok (.goto (-74), 3) := by decide +kernel
theorem dX6_faultInDay_79 : decode cX6_faultInDay 79 = .ok (.iconst (-1), 1) := by decide +kernel
theorem dX6_faultInDay_80 : decode cX6_faultInDay 80 = .ok (.ireturn, 1) := by decide +kernel
set_option maxHeartbeats 4000000 in
set_option maxRecDepth 100000 in
theorem c_Reader_faultInDay (l : Launch) (G : fm_G) (N : Nat) (M : fm_M) (r : Int32) (hf : pReader_faultInDay N M = some r) : fm_Met l yX6_faultInDay cX6_faultInDay 5 (some .int) { frames := 4, cells := 0, slots := 0, locals := 85 } shC G [.ref (G.2.1 175)] M (some (.int r)) M := by
  refine fm_enter (by decide) (Nat.le_of_ble_eq_true rfl) ?_
  intro p e s m args below meth c ls C E hl
  have hl : lv_has ls 5 [(0, .ref (G.2.1 175))] := hl
  have L2 : ∀ (n2 : Nat) (v1 : Int32) (H : Heap) (locs : List Loc) (ls : Array Slot), fm_Wd shC G M s H locs → lv_has ls 5 [(0, .ref (G.2.1 175)), (1, .int v1)] → fm_lp (pReader_faultInDay_L2 N M) n2 v1 = some r → W p l e { frames := 4, cells := 0, slots := 0, locals := 85 } s m args below meth c H locs 0 0 (fm_Z below shC G args s (some (.int r)) M) (F0 m 2 ls []) := by
    intro  n2
    induction n2 with
    | zero => intro v1 H locs ls E hl hf; exact fm_lp_0 hf
    | succ n2 ih2 =>
      have L42 : ∀ (w42_v3 : Nat) (n42 : Nat) (v1 : Int32) (v4 : Int32) (H : Heap) (locs : List Loc) (ls : Array Slot), fm_Wd shC G M s H locs → lv_has ls 5 [(0, .ref (G.2.1 175)), (1, .int v1), (3, .ref (G.2.2.2.1 w42_v3)), (4, .int v4)] → fm_lp (pReader_faultInDay_L42 N M w42_v3 (fm_lp (pReader_faultInDay_L2 N M) n2)) n42 (v1, v4) = some r → W p l e { frames := 4, cells := 0, slots := 0, locals := 85 } s m args below meth c H locs 0 0 (fm_Z below shC G args s (some (.int r)) M) (F0 m 42 ls []) := by
        intro w42_v3 n42
        induction n42 with
        | zero => intro v1 v4 H locs ls E hl hf; exact fm_lp_0 hf
        | succ n42 ih42 =>
          intro v1 v4 H locs ls E hl hf
          have hf : pReader_faultInDay_L42b N M w42_v3 (fm_lp (pReader_faultInDay_L2 N M) n2) (fm_lp (pReader_faultInDay_L42 N M w42_v3 (fm_lp (pReader_faultInDay_L2 N M) n2)) n42) v1 v4 = some r := hf
          unfold pReader_faultInDay_L42b at hf
          refine lv_iload C.1 C.2.1 dX6_faultInDay_42 (lv_at hl 3 rfl) ?_
          refine lv_aload_n C.1 C.2.1 dX6_faultInDay_44 rfl (lv_at hl 2 rfl) ?_
          obtain ⟨x45, hc45, hf⟩ := fm_bd hf
          refine fm_callT C E [] [.int _] lm_X6_73 wk_J0_length_8abf5 (c_String_length l _ G _ _ _  hc45) (of_decide_eq_true (fm_rq_s hc45).1) rfl rfl hl.1 (by simp [Value.category]) ⟨⟨rfl, rfl⟩, by decide, by decide⟩ ⟨by decide, by decide⟩ dX6_faultInDay_45 rfl (fun H locs E => ?_)
          refine W.eq (g2 := F0 m 48 ls (.int x45 :: [.int _])) rfl ?_
          refine lv_icmp_ge (tgt := 76) C.1 C.2.1 dX6_faultInDay_48 (by decide) (fun hc48 => ?_) (fun hc48 => ?_)
          · have hf := fm_ip hf hc48
            refine lv_goto (tgt := 2) C.1 C.2.1 dX6_faultInDay_76 (by decide) ?_
            exact ih2 _ _ _ _ E (lv_sub hl [0, 1] rfl) hf
          · have hf := fm_in' hf hc48
            refine lv_aload_n C.1 C.2.1 dX6_faultInDay_51 rfl (lv_at hl 0 rfl) ?_
            refine lv_aload_n C.1 C.2.1 dX6_faultInDay_52 rfl (lv_at hl 2 rfl) ?_
            refine lv_iload C.1 C.2.1 dX6_faultInDay_53 (lv_at hl 3 rfl) ?_
            obtain ⟨x55, hc55, hf⟩ := fm_bd hf
            refine fm_callT C E [.int _] [.ref _] lm_X6_78 wk_J0_charAt_5068e (c_String_charAt l _ G _ _ _ _  hc55) (of_decide_eq_true (fm_rq_s hc55).1) rfl rfl hl.1 (by simp [Value.category]) ⟨⟨rfl, rfl⟩, by decide, by decide⟩ ⟨by decide, by decide⟩ dX6_faultInDay_55 rfl (fun H locs E => ?_)
            refine W.eq (g2 := F0 m 58 ls (.int x55 :: [.ref _])) rfl ?_
            refine lv_iload_n C.1 C.2.1 dX6_faultInDay_58 rfl (lv_at hl 1 rfl) ?_
            obtain ⟨x59, hc59, hf⟩ := fm_bd hf
            refine fm_callV C E [.int _, .int _] [] lm_X6_82 wk_X6_fits (c_Reader_fits l G _ _ _ _  hc59) hC_175 rfl rfl rfl hl.1 (by simp [Value.category]) ⟨⟨rfl, rfl⟩, by decide, by decide⟩ ⟨by decide, by decide⟩ dX6_faultInDay_59 rfl (fun H locs E => ?_)
            refine W.eq (g2 := F0 m 62 ls (.int x59 :: [])) rfl ?_
            refine lv_if_ne (tgt := 67) C.1 C.2.1 dX6_faultInDay_62 (by decide) (fun hc62 => ?_) (fun hc62 => ?_)
            · have hf := fm_in' hf hc62
              refine fm_iinc C (v := 1) (lv' := [(1, .int _), (0, .ref _), (3, .ref _), (4, .int _)]) (k := 1) hl rfl (by decide) (by decide) rfl dX6_faultInDay_67 (fun ls hl => ?_)
              refine fm_iinc C (v := 1) (lv' := [(4, .int _), (1, .int _), (0, .ref _), (3, .ref _)]) (k := 3) hl rfl (by decide) (by decide) rfl dX6_faultInDay_70 (fun ls hl => ?_)
              refine lv_goto (tgt := 42) C.1 C.2.1 dX6_faultInDay_73 (by decide) ?_
              exact ih42 _ _ _ _ _ E (lv_sub hl [2, 1, 3, 0] rfl) hf
            · have hf := fm_ip hf hc62
              refine lv_iload_n C.1 C.2.1 dX6_faultInDay_65 rfl (lv_at hl 1 rfl) ?_
              obtain rfl := fm_rt1 hf
              exact fm_iret C E rfl rfl dX6_faultInDay_66
      intro v1 H locs ls E hl hf
      have hf : pReader_faultInDay_L2b N M (fm_lp (pReader_faultInDay_L2 N M) n2) v1 = some r := hf
      unfold pReader_faultInDay_L2b at hf
      refine lv_iload_n C.1 C.2.1 dX6_faultInDay_2 rfl (lv_at hl 1 rfl) ?_
      refine lv_aload_n C.1 C.2.1 dX6_faultInDay_3 rfl (lv_at hl 0 rfl) ?_
      refine fm_getr C E lf_X6_9 hC_175 rfl dX6_faultInDay_4 ?_
      refine fm_geti C E lf_X6_21 hC_173 rfl dX6_faultInDay_7 ?_
      refine lv_icmp_ge (tgt := 79) C.1 C.2.1 dX6_faultInDay_10 (by decide) (fun hc10 => ?_) (fun hc10 => ?_)
      · have hf := fm_ip hf hc10
        refine lv_iconst (v := (-1)) C.1 C.2.1 dX6_faultInDay_79 (by decide) ?_
        obtain rfl := fm_rt1 hf
        exact fm_iret C E rfl rfl dX6_faultInDay_80
      · have hf := fm_in' hf hc10
        refine lv_aload_n C.1 C.2.1 dX6_faultInDay_13 rfl (lv_at hl 0 rfl) ?_
        refine fm_getr C E lf_X6_9 hC_175 rfl dX6_faultInDay_14 ?_
        refine lv_iload_n C.1 C.2.1 dX6_faultInDay_17 rfl (lv_at hl 1 rfl) ?_
        obtain ⟨x18, hc18, hf⟩ := fm_bd hf
        refine fm_callV C E [.int _] [] lm_X6_42 wk_X4_at (c_Letters_at l G _ _ _  hc18) hC_173 rfl rfl rfl hl.1 (by simp [Value.category]) ⟨⟨rfl, rfl⟩, by decide, by decide⟩ ⟨by decide, by decide⟩ dX6_faultInDay_18 rfl (fun H locs E => ?_)
        refine W.eq (g2 := F0 m 21 ls (.int x18 :: [])) rfl ?_
        refine lv_istore_n (lv' := [(2, .int _), (0, .ref _), (1, .int _)]) C.1 C.2.1 dX6_faultInDay_21 rfl hl (by decide) rfl (fun ls hl => ?_)
        refine lv_iload_n C.1 C.2.1 dX6_faultInDay_22 rfl (lv_at hl 0 rfl) ?_
        obtain ⟨x23, hc23, hf⟩ := fm_bd hf
        refine fm_callS C E [.int _] [] lm_X6_66 wk_X6_isAct (c_Reader_isAct l G _ _ _  hc23) rfl hl.1 (by simp [Value.category]) ⟨⟨rfl, rfl⟩, by decide, by decide⟩ ⟨by decide, by decide⟩ dX6_faultInDay_23 rfl (fun H locs E => ?_)
        refine W.eq (g2 := F0 m 26 ls (.int x23 :: [])) rfl ?_
        refine lv_if_ne (tgt := 31) C.1 C.2.1 dX6_faultInDay_26 (by decide) (fun hc26 => ?_) (fun hc26 => ?_)
        · have hf := fm_in' hf hc26
          refine lv_iload_n C.1 C.2.1 dX6_faultInDay_31 rfl (lv_at hl 0 rfl) ?_
          obtain ⟨x32, hc32, hf⟩ := fm_bd hf
          refine fm_callS C E [.int _] [] lm_X6_69 wk_X6_shapeOf (c_Reader_shapeOf l G _ _ _  hc32) rfl hl.1 (by simp [Value.category]) ⟨⟨rfl, rfl⟩, by decide, by decide⟩ ⟨by decide, by decide⟩ dX6_faultInDay_32 rfl (fun H locs E => ?_)
          refine W.eq (g2 := F0 m 35 ls (.ref (G.2.2.2.1 x32) :: [])) rfl ?_
          refine lv_astore_n (lv' := [(3, .ref _), (2, .int _), (0, .ref _), (1, .int _)]) C.1 C.2.1 dX6_faultInDay_35 rfl hl (by decide) rfl (fun ls hl => ?_)
          refine fm_iinc C (v := 1) (lv' := [(1, .int _), (3, .ref _), (2, .int _), (0, .ref _)]) (k := 3) hl rfl (by decide) (by decide) rfl dX6_faultInDay_36 (fun ls hl => ?_)
          refine lv_iconst (v := 0) C.1 C.2.1 dX6_faultInDay_39 (by decide) ?_
          refine lv_istore (lv' := [(4, .int _), (1, .int _), (3, .ref _), (2, .int _), (0, .ref _)]) C.1 C.2.1 dX6_faultInDay_40 hl (by decide) rfl (fun ls hl => ?_)
          exact L42 _ N _ _ _ _ _ E (lv_sub hl [4, 1, 2, 0] rfl) hf
        · have hf := fm_ip hf hc26
          refine lv_iload_n C.1 C.2.1 dX6_faultInDay_29 rfl (lv_at hl 2 rfl) ?_
          obtain rfl := fm_rt1 hf
          exact fm_iret C E rfl rfl dX6_faultInDay_30
  unfold pReader_faultInDay at hf
  refine lv_iconst (v := 0) C.1 C.2.1 dX6_faultInDay_0 (by decide) ?_
  refine lv_istore_n (lv' := [(1, .int _), (0, .ref _)]) C.1 C.2.1 dX6_faultInDay_1 rfl hl (by decide) rfl (fun ls hl => ?_)
  exact L2  N _ _ _ _ E (lv_sub hl [1, 0] rfl) hf
theorem dX9_sample_0 : decode cX9_sample 0 = .ok (.aload_n 0, 1) := by decide +kernel
theorem dX9_sample_1 : decode cX9_sample 1 = .ok (.getfield 10, 3) := by decide +kernel
theorem dX9_sample_4 : decode cX9_sample 4 = .ok (.iload_n 1, 1) := by decide +kernel
theorem dX9_sample_5 : decode cX9_sample 5 = .ok (.invokevirtual 116, 3) := by decide +kernel
theorem dX9_sample_8 : decode cX9_sample 8 = .ok (.ifCond .eq 20, 3) := by decide +kernel
theorem dX9_sample_11 : decode cX9_sample 11 = .ok (.iload_n 2, 1) := by decide +kernel
theorem dX9_sample_12 : decode cX9_sample 12 = .ok (.sipush (-300), 3) := by decide +kernel
theorem dX9_sample_15 : decode cX9_sample 15 = .ok (.sipush 300, 3) := by decide +kernel
theorem dX9_sample_18 : decode cX9_sample 18 = .ok (.invokestatic 112, 3) := by decide +kernel
theorem dX9_sample_21 : decode cX9_sample 21 = .ok (.ifCond .eq 7, 3) := by decide +kernel
theorem dX9_sample_24 : decode cX9_sample 24 = .ok (.iconst 1, 1) := by decide +kernel
theorem dX9_sample_25 : decode cX9_sample 25 = .ok (.goto 4, 3) := by decide +kernel
theorem dX9_sample_28 : decode cX9_sample 28 = .ok (.iconst 0, 1) := by decide +kernel
theorem dX9_sample_29 : decode cX9_sample 29 = .ok (.invokestatic 137, 3) := by decide +kernel
theorem dX9_sample_32 : decode cX9_sample 32 = .ok (.aload_n 0, 1) := by decide +kernel
theorem dX9_sample_33 : decode cX9_sample 33 = .ok (.getfield 62, 3) := by decide +kernel
theorem dX9_sample_36 : decode cX9_sample 36 = .ok (.iconst (-1), 1) := by decide +kernel
theorem dX9_sample_37 : decode cX9_sample 37 = .ok (.invokevirtual 150, 3) := by decide +kernel
theorem dX9_sample_40 : decode cX9_sample 40 = .ok (.aload_n 0, 1) := by decide +kernel
theorem dX9_sample_41 : decode cX9_sample 41 = .ok (.getfield 62, 3) := by decide +kernel
theorem dX9_sample_44 : decode cX9_sample 44 = .ok (.iload_n 1, 1) := by decide +kernel
theorem dX9_sample_45 : decode cX9_sample 45 = .ok (.iload_n 2, 1) := by decide +kernel
theorem dX9_sample_46 : decode cX9_sample 46 = .ok (.invokevirtual 154, 3) := by decide +kernel
theorem dX9_sample_49 : decode cX9_sample 49 = .ok (.ireturn, 1) := by decide +kernel
set_option maxHeartbeats 4000000 in
set_option maxRecDepth 100000 in
theorem c_MicRow_sample (l : Launch) (G : fm_G) (N : Nat) (M : fm_M) (v1 : Int32) (v2 : Int32) (r : Int32) (M' : fm_M) (hf : pMicRow_sample N M v1 v2 = some (r, M')) : fm_Met l yX9_sample cX9_sample 3 (some .int) { frames := 4, cells := 0, slots := 0, locals := 96 } shC G [.ref (G.2.1 0), .int v1, .int v2] M (some (.int r)) M' := by
  refine fm_enter (by decide) (Nat.le_of_ble_eq_true rfl) ?_
  intro p e s m args below meth c ls C E hl
  have hl : lv_has ls 3 [(0, .ref (G.2.1 0)), (1, .int v1), (2, .int v2)] := hl
  have J29 : ∀ (M : fm_M) (v1 : Int32) (v2 : Int32) (s0 : Int32) (H : Heap) (locs : List Loc) (ls : Array Slot), fm_Wd shC G M s H locs → lv_has ls 3 [(0, .ref (G.2.1 0)), (1, .int v1), (2, .int v2)] → pMicRow_sample_J29 N M v1 v2 s0 = some (r, M') → W p l e { frames := 4, cells := 0, slots := 0, locals := 96 } s m args below meth c H locs 0 0 (fm_Z below shC G args s (some (.int r)) M') (F0 m 29 ls [.int s0]) := by
    intro M v1 v2 s0 H locs ls E hl hf
    unfold pMicRow_sample_J29 at hf
    obtain ⟨x29, hc29, hf⟩ := fm_bd hf
    refine fm_callS C E [.int _] [] lm_X9_137 wk_X9_demand (c_MicRow_demand l G _ _  hc29) rfl hl.1 (by simp [Value.category]) ⟨⟨rfl, rfl⟩, by decide, by decide⟩ ⟨by decide, by decide⟩ dX9_sample_29 rfl (fun H locs E => ?_)
    refine W.eq (g2 := F0 m 32 ls []) rfl ?_
    refine lv_aload_n C.1 C.2.1 dX9_sample_32 rfl (lv_at hl 0 rfl) ?_
    refine fm_getr C E lf_X9_62 hC_0 rfl dX9_sample_33 ?_
    refine lv_iconst (v := (-1)) C.1 C.2.1 dX9_sample_36 (by decide) ?_
    obtain ⟨M37, hc37, hf⟩ := fm_bd hf
    refine fm_callV C E [.int _] [] lm_X9_150 wk_X3_listenTo (c_Ears_listenTo l G _ _ _ hc37) hC_178 rfl rfl rfl hl.1 (by simp [Value.category]) ⟨⟨rfl, rfl⟩, by decide, by decide⟩ ⟨by decide, by decide⟩ dX9_sample_37 rfl (fun H locs E => ?_)
    refine W.eq (g2 := F0 m 40 ls []) rfl ?_
    refine lv_aload_n C.1 C.2.1 dX9_sample_40 rfl (lv_at hl 0 rfl) ?_
    refine fm_getr C E lf_X9_62 hC_0 rfl dX9_sample_41 ?_
    refine lv_iload_n C.1 C.2.1 dX9_sample_44 rfl (lv_at hl 1 rfl) ?_
    refine lv_iload_n C.1 C.2.1 dX9_sample_45 rfl (lv_at hl 2 rfl) ?_
    obtain ⟨⟨x46, M46⟩, hc46, hf⟩ := fm_bd hf
    dsimp only at hf
    refine fm_callV C E [.int _, .int _] [] lm_X9_154 wk_X3_at (c_Ears_at l G N _ _ _ _ _ hc46) hC_178 rfl rfl rfl hl.1 (by simp [Value.category]) ⟨⟨rfl, rfl⟩, by decide, by decide⟩ ⟨by decide, by decide⟩ dX9_sample_46 rfl (fun H locs E => ?_)
    refine W.eq (g2 := F0 m 49 ls (.int x46 :: [])) rfl ?_
    obtain ⟨rfl, rfl⟩ := fm_rt2 hf
    exact fm_iret C E rfl rfl dX9_sample_49
  have J28 : ∀ (M : fm_M) (v1 : Int32) (v2 : Int32) (H : Heap) (locs : List Loc) (ls : Array Slot), fm_Wd shC G M s H locs → lv_has ls 3 [(0, .ref (G.2.1 0)), (1, .int v1), (2, .int v2)] → pMicRow_sample_J28 N M v1 v2 = some (r, M') → W p l e { frames := 4, cells := 0, slots := 0, locals := 96 } s m args below meth c H locs 0 0 (fm_Z below shC G args s (some (.int r)) M') (F0 m 28 ls []) := by
    intro M v1 v2 H locs ls E hl hf
    unfold pMicRow_sample_J28 at hf
    refine lv_iconst (v := 0) C.1 C.2.1 dX9_sample_28 (by decide) ?_
    exact J29 _ _ _ _ _ _ _ E (lv_sub hl [0, 1, 2] rfl) hf
  unfold pMicRow_sample at hf
  refine lv_aload_n C.1 C.2.1 dX9_sample_0 rfl (lv_at hl 0 rfl) ?_
  refine fm_getr C E lf_X9_10 hC_0 rfl dX9_sample_1 ?_
  refine lv_iload_n C.1 C.2.1 dX9_sample_4 rfl (lv_at hl 1 rfl) ?_
  obtain ⟨x5, hc5, hf⟩ := fm_bd hf
  refine fm_callV C E [.int _] [] lm_X9_116 wk_X7_hasMic (c_Scene_hasMic l G _ _ _  hc5) hC_1 rfl rfl rfl hl.1 (by simp [Value.category]) ⟨⟨rfl, rfl⟩, by decide, by decide⟩ ⟨by decide, by decide⟩ dX9_sample_5 rfl (fun H locs E => ?_)
  refine W.eq (g2 := F0 m 8 ls (.int x5 :: [])) rfl ?_
  refine lv_if_eq (tgt := 28) C.1 C.2.1 dX9_sample_8 (by decide) (fun hc8 => ?_) (fun hc8 => ?_)
  · have hf := fm_ip hf hc8
    exact J28 _ _ _ _ _ _ E (lv_sub hl [0, 1, 2] rfl) hf
  · have hf := fm_in' hf hc8
    refine lv_iload_n C.1 C.2.1 dX9_sample_11 rfl (lv_at hl 2 rfl) ?_
    refine lv_sipush (v := (-300)) C.1 C.2.1 dX9_sample_12 (by decide) ?_
    refine lv_sipush (v := 300) C.1 C.2.1 dX9_sample_15 (by decide) ?_
    obtain ⟨x18, hc18, hf⟩ := fm_bd hf
    refine fm_callS C E [.int _, .int _, .int _] [] lm_X9_112 wk_X9_within (c_MicRow_within l G _ _ _ _ _  hc18) rfl hl.1 (by simp [Value.category]) ⟨⟨rfl, rfl⟩, by decide, by decide⟩ ⟨by decide, by decide⟩ dX9_sample_18 rfl (fun H locs E => ?_)
    refine W.eq (g2 := F0 m 21 ls (.int x18 :: [])) rfl ?_
    refine lv_if_eq (tgt := 28) C.1 C.2.1 dX9_sample_21 (by decide) (fun hc21 => ?_) (fun hc21 => ?_)
    · have hf := fm_ip hf hc21
      exact J28 _ _ _ _ _ _ E (lv_sub hl [0, 1, 2] rfl) hf
    · have hf := fm_in' hf hc21
      refine lv_iconst (v := 1) C.1 C.2.1 dX9_sample_24 (by decide) ?_
      refine lv_goto (tgt := 29) C.1 C.2.1 dX9_sample_25 (by decide) ?_
      exact J29 _ _ _ _ _ _ _ E (lv_sub hl [0, 1, 2] rfl) hf
theorem dX9_alikeWhenShifted_0 : decode cX9_alikeWhenShifted 0 = .ok (.iconst 0, 1) := by decide +kernel
theorem dX9_alikeWhenShifted_1 : decode cX9_alikeWhenShifted 1 = .ok (.istore 4, 2) := by decide +kernel
theorem dX9_alikeWhenShifted_3 : decode cX9_alikeWhenShifted 3 = .ok (.iconst 0, 1) := by decide +kernel
theorem dX9_alikeWhenShifted_4 : decode cX9_alikeWhenShifted 4 = .ok (.istore 5, 2) := by decide +kernel
theorem dX9_alikeWhenShifted_6 : decode cX9_alikeWhenShifted 6 = .ok (.iload 5, 2) := by decide +kernel
theorem dX9_alikeWhenShifted_8 : decode cX9_alikeWhenShifted 8 = .ok (.aload_n 0, 1) := by decide +kernel
theorem dX9_alikeWhenShifted_9 : decode cX9_alikeWhenShifted 9 = .ok (.getfield 10, 3) := by decide +kernel
theorem dX9_alikeWhenShifted_12 : decode cX9_alikeWhenShifted 12 = .ok (.invokevirtual 211, 3) := by decide +kernel
theorem dX9_alikeWhenShifted_15 : decode cX9_alikeWhenShifted 15 = .ok (.if_icmp .ge 55, 3) := by decide +kernel
theorem dX9_alikeWhenShifted_18 : decode cX9_alikeWhenShifted 18 = .ok (.aload_n 0, 1) := by decide +kernel
theorem dX9_alikeWhenShifted_19 : decode cX9_alikeWhenShifted 19 = .ok (.getfield 10, 3) := by decide +kernel
theorem dX9_alikeWhenShifted_22 : decode cX9_alikeWhenShifted 22 = .ok (.invokevirtual 208, 3) := by decide +kernel
theorem dX9_alikeWhenShifted_25 : decode cX9_alikeWhenShifted 25 = .ok (.iload 5, 2) := by decide +kernel
theorem dX9_alikeWhenShifted_27 : decode cX9_alikeWhenShifted 27 = .ok (.iadd, 1) := by decide +kernel
theorem dX9_alikeWhenShifted_28 : decode cX9_alikeWhenShifted 28 = .ok (.istore 6, 2) := by decide +kernel
theorem dX9_alikeWhenShifted_30 : decode cX9_alikeWhenShifted 30 = .ok (.aload_n 0, 1) := by decide +kernel
theorem dX9_alikeWhenShifted_31 : decode cX9_alikeWhenShifted 31 = .ok (.getfield 62, 3) := by decide +kernel
theorem dX9_alikeWhenShifted_34 : decode cX9_alikeWhenShifted 34 = .ok (.iload_n 1, 1) := by decide +kernel
theorem dX9_alikeWhenShifted_35 : decode cX9_alikeWhenShifted 35 = .ok (.iload 6, 2) := by decide +kernel
theorem dX9_alikeWhenShifted_37 : decode cX9_alikeWhenShifted 37 = .ok (.iload_n 3, 1) := by decide +kernel
theorem dX9_alikeWhenShifted_38 : decode cX9_alikeWhenShifted 38 = .ok (.iadd, 1) := by decide +kernel
theorem dX9_alikeWhenShifted_39 : decode cX9_alikeWhenShifted 39 = .ok (.invokevirtual 154, 3) := by decide +kernel
theorem dX9_alikeWhenShifted_42 : decode cX9_alikeWhenShifted 42 = .ok (.invokestatic 263, 3) := by decide +kernel
theorem dX9_alikeWhenShifted_45 : decode cX9_alikeWhenShifted 45 = .ok (.aload_n 0, 1) := by decide +kernel
theorem dX9_alikeWhenShifted_46 : decode cX9_alikeWhenShifted 46 = .ok (.getfield 62, 3) := by decide +kernel
theorem dX9_alikeWhenShifted_49 : decode cX9_alikeWhenShifted 49 = .ok (.iload_n 2, 1) := by decide +kernel
theorem dX9_alikeWhenShifted_50 : decode cX9_alikeWhenShifted 50 = .ok (.iload 6, 2) := by decide +kernel
theorem dX9_alikeWhenShifted_52 : decode cX9_alikeWhenShifted 52 = .ok (.invokevirtual 154, 3) := by decide +kernel
theorem dX9_alikeWhenShifted_55 : decode cX9_alikeWhenShifted 55 = .ok (.invokestatic 263, 3) := by decide +kernel
theorem dX9_alikeWhenShifted_58 : decode cX9_alikeWhenShifted 58 = .ok (.if_icmp .ne 6, 3) := by decide +kernel
theorem dX9_alikeWhenShifted_61 : decode cX9_alikeWhenShifted 61 = .ok (.iinc 4 1, 3) := by decide +kernel
theorem dX9_alikeWhenShifted_64 : decode cX9_alikeWhenShifted 64 = .ok (.iinc 5 1, 3) := by decide +kernel
theorem dX9_alikeWhenShifted_67 : decode cX9_alikeWhenShifted 67 = .ok (.goto (-61), 3) := by decide +kernel
theorem dX9_alikeWhenShifted_70 : decode cX9_alikeWhenShifted 70 = .ok (.iload 4, 2) := by decide +kernel
theorem dX9_alikeWhenShifted_72 : decode cX9_alikeWhenShifted 72 = .ok (.ireturn, 1) := by decide +kernel
set_option maxHeartbeats 4000000 in
set_option maxRecDepth 100000 in
theorem c_MicRow_alikeWhenShifted (l : Launch) (G : fm_G) (N : Nat) (M : fm_M) (v1 : Int32) (v2 : Int32) (v3 : Int32) (r : Int32) (M' : fm_M) (hf : pMicRow_alikeWhenShifted N M v1 v2 v3 = some (r, M')) : fm_Met l yX9_alikeWhenShifted cX9_alikeWhenShifted 7 (some .int) { frames := 4, cells := 0, slots := 0, locals := 96 } shC G [.ref (G.2.1 0), .int v1, .int v2, .int v3] M (some (.int r)) M' := by
  refine fm_enter (by decide) (Nat.le_of_ble_eq_true rfl) ?_
  intro p e s m args below meth c ls C E hl
  have hl : lv_has ls 7 [(0, .ref (G.2.1 0)), (1, .int v1), (2, .int v2), (3, .int v3)] := hl
  have L6 : ∀ (w6_v1 : Int32) (w6_v2 : Int32) (w6_v3 : Int32) (n6 : Nat) (v4 : Int32) (v5 : Int32) (M : fm_M) (H : Heap) (locs : List Loc) (ls : Array Slot), fm_Wd shC G M s H locs → lv_has ls 7 [(0, .ref (G.2.1 0)), (1, .int w6_v1), (2, .int w6_v2), (3, .int w6_v3), (4, .int v4), (5, .int v5)] → fm_lp (pMicRow_alikeWhenShifted_L6 N w6_v1 w6_v2 w6_v3) n6 (v4, v5, M) = some (r, M') → W p l e { frames := 4, cells := 0, slots := 0, locals := 96 } s m args below meth c H locs 0 0 (fm_Z below shC G args s (some (.int r)) M') (F0 m 6 ls []) := by
    intro w6_v1 w6_v2 w6_v3 n6
    induction n6 with
    | zero => intro v4 v5 M H locs ls E hl hf; exact fm_lp_0 hf
    | succ n6 ih6 =>
      intro v4 v5 M H locs ls E hl hf
      have hf : pMicRow_alikeWhenShifted_L6b N w6_v1 w6_v2 w6_v3 (fm_lp (pMicRow_alikeWhenShifted_L6 N w6_v1 w6_v2 w6_v3) n6) v4 v5 M = some (r, M') := hf
      unfold pMicRow_alikeWhenShifted_L6b at hf
      refine lv_iload C.1 C.2.1 dX9_alikeWhenShifted_6 (lv_at hl 5 rfl) ?_
      refine lv_aload_n C.1 C.2.1 dX9_alikeWhenShifted_8 rfl (lv_at hl 0 rfl) ?_
      refine fm_getr C E lf_X9_10 hC_0 rfl dX9_alikeWhenShifted_9 ?_
      obtain ⟨x12, hc12, hf⟩ := fm_bd hf
      refine fm_callV C E [] [.int _] lm_X9_211 wk_X7_length (c_Scene_length l G _ _  hc12) hC_1 rfl rfl rfl hl.1 (by simp [Value.category]) ⟨⟨rfl, rfl⟩, by decide, by decide⟩ ⟨by decide, by decide⟩ dX9_alikeWhenShifted_12 rfl (fun H locs E => ?_)
      refine W.eq (g2 := F0 m 15 ls (.int x12 :: [.int _])) rfl ?_
      refine lv_icmp_ge (tgt := 70) C.1 C.2.1 dX9_alikeWhenShifted_15 (by decide) (fun hc15 => ?_) (fun hc15 => ?_)
      · have hf := fm_ip hf hc15
        refine lv_iload C.1 C.2.1 dX9_alikeWhenShifted_70 (lv_at hl 4 rfl) ?_
        obtain ⟨rfl, rfl⟩ := fm_rt2 hf
        exact fm_iret C E rfl rfl dX9_alikeWhenShifted_72
      · have hf := fm_in' hf hc15
        refine lv_aload_n C.1 C.2.1 dX9_alikeWhenShifted_18 rfl (lv_at hl 0 rfl) ?_
        refine fm_getr C E lf_X9_10 hC_0 rfl dX9_alikeWhenShifted_19 ?_
        obtain ⟨x22, hc22, hf⟩ := fm_bd hf
        refine fm_callV C E [] [] lm_X9_208 wk_X7_begin (c_Scene_begin l G _ _  hc22) hC_1 rfl rfl rfl hl.1 (by simp [Value.category]) ⟨⟨rfl, rfl⟩, by decide, by decide⟩ ⟨by decide, by decide⟩ dX9_alikeWhenShifted_22 rfl (fun H locs E => ?_)
        refine W.eq (g2 := F0 m 25 ls (.int x22 :: [])) rfl ?_
        refine lv_iload C.1 C.2.1 dX9_alikeWhenShifted_25 (lv_at hl 5 rfl) ?_
        refine lv_iadd C.1 C.2.1 dX9_alikeWhenShifted_27 ?_
        refine lv_istore (lv' := [(6, .int _), (0, .ref _), (1, .int _), (2, .int _), (3, .int _), (4, .int _), (5, .int _)]) C.1 C.2.1 dX9_alikeWhenShifted_28 hl (by decide) rfl (fun ls hl => ?_)
        refine lv_aload_n C.1 C.2.1 dX9_alikeWhenShifted_30 rfl (lv_at hl 1 rfl) ?_
        refine fm_getr C E lf_X9_62 hC_0 rfl dX9_alikeWhenShifted_31 ?_
        refine lv_iload_n C.1 C.2.1 dX9_alikeWhenShifted_34 rfl (lv_at hl 2 rfl) ?_
        refine lv_iload C.1 C.2.1 dX9_alikeWhenShifted_35 (lv_at hl 0 rfl) ?_
        refine lv_iload_n C.1 C.2.1 dX9_alikeWhenShifted_37 rfl (lv_at hl 4 rfl) ?_
        refine lv_iadd C.1 C.2.1 dX9_alikeWhenShifted_38 ?_
        obtain ⟨⟨x39, M39⟩, hc39, hf⟩ := fm_bd hf
        dsimp only at hf
        refine fm_callV C E [.int _, .int _] [] lm_X9_154 wk_X3_at (c_Ears_at l G N _ _ _ _ _ hc39) hC_178 rfl rfl rfl hl.1 (by simp [Value.category]) ⟨⟨rfl, rfl⟩, by decide, by decide⟩ ⟨by decide, by decide⟩ dX9_alikeWhenShifted_39 rfl (fun H locs E => ?_)
        refine W.eq (g2 := F0 m 42 ls (.int x39 :: [])) rfl ?_
        obtain ⟨x42, hc42, hf⟩ := fm_bd hf
        refine fm_callS C E [.int _] [] lm_X9_263 wk_X9_signOf (c_MicRow_signOf l G _ _ _  hc42) rfl hl.1 (by simp [Value.category]) ⟨⟨rfl, rfl⟩, by decide, by decide⟩ ⟨by decide, by decide⟩ dX9_alikeWhenShifted_42 rfl (fun H locs E => ?_)
        refine W.eq (g2 := F0 m 45 ls (.int x42 :: [])) rfl ?_
        refine lv_aload_n C.1 C.2.1 dX9_alikeWhenShifted_45 rfl (lv_at hl 1 rfl) ?_
        refine fm_getr C E lf_X9_62 hC_0 rfl dX9_alikeWhenShifted_46 ?_
        refine lv_iload_n C.1 C.2.1 dX9_alikeWhenShifted_49 rfl (lv_at hl 3 rfl) ?_
        refine lv_iload C.1 C.2.1 dX9_alikeWhenShifted_50 (lv_at hl 0 rfl) ?_
        obtain ⟨⟨x52, M52⟩, hc52, hf⟩ := fm_bd hf
        dsimp only at hf
        refine fm_callV C E [.int _, .int _] [.int _] lm_X9_154 wk_X3_at (c_Ears_at l G N _ _ _ _ _ hc52) hC_178 rfl rfl rfl hl.1 (by simp [Value.category]) ⟨⟨rfl, rfl⟩, by decide, by decide⟩ ⟨by decide, by decide⟩ dX9_alikeWhenShifted_52 rfl (fun H locs E => ?_)
        refine W.eq (g2 := F0 m 55 ls (.int x52 :: [.int _])) rfl ?_
        obtain ⟨x55, hc55, hf⟩ := fm_bd hf
        refine fm_callS C E [.int _] [.int _] lm_X9_263 wk_X9_signOf (c_MicRow_signOf l G _ _ _  hc55) rfl hl.1 (by simp [Value.category]) ⟨⟨rfl, rfl⟩, by decide, by decide⟩ ⟨by decide, by decide⟩ dX9_alikeWhenShifted_55 rfl (fun H locs E => ?_)
        refine W.eq (g2 := F0 m 58 ls (.int x55 :: [.int _])) rfl ?_
        refine lv_icmp_ne (tgt := 64) C.1 C.2.1 dX9_alikeWhenShifted_58 (by decide) (fun hc58 => ?_) (fun hc58 => ?_)
        · have hf := fm_in' hf hc58
          refine fm_iinc C (v := 1) (lv' := [(5, .int _), (6, .int _), (0, .ref _), (1, .int _), (2, .int _), (3, .int _), (4, .int _)]) (k := 6) hl rfl (by decide) (by decide) rfl dX9_alikeWhenShifted_64 (fun ls hl => ?_)
          refine lv_goto (tgt := 6) C.1 C.2.1 dX9_alikeWhenShifted_67 (by decide) ?_
          exact ih6 _ _ _ _ _ _ E (lv_sub hl [2, 3, 4, 5, 6, 0] rfl) hf
        · have hf := fm_ip hf hc58
          refine fm_iinc C (v := 1) (lv' := [(4, .int _), (6, .int _), (0, .ref _), (1, .int _), (2, .int _), (3, .int _), (5, .int _)]) (k := 5) hl rfl (by decide) (by decide) rfl dX9_alikeWhenShifted_61 (fun ls hl => ?_)
          refine fm_iinc C (v := 1) (lv' := [(5, .int _), (4, .int _), (6, .int _), (0, .ref _), (1, .int _), (2, .int _), (3, .int _)]) (k := 6) hl rfl (by decide) (by decide) rfl dX9_alikeWhenShifted_64 (fun ls hl => ?_)
          refine lv_goto (tgt := 6) C.1 C.2.1 dX9_alikeWhenShifted_67 (by decide) ?_
          exact ih6 _ _ _ _ _ _ E (lv_sub hl [3, 4, 5, 6, 1, 0] rfl) hf
  unfold pMicRow_alikeWhenShifted at hf
  refine lv_iconst (v := 0) C.1 C.2.1 dX9_alikeWhenShifted_0 (by decide) ?_
  refine lv_istore (lv' := [(4, .int _), (0, .ref _), (1, .int _), (2, .int _), (3, .int _)]) C.1 C.2.1 dX9_alikeWhenShifted_1 hl (by decide) rfl (fun ls hl => ?_)
  refine lv_iconst (v := 0) C.1 C.2.1 dX9_alikeWhenShifted_3 (by decide) ?_
  refine lv_istore (lv' := [(5, .int _), (4, .int _), (0, .ref _), (1, .int _), (2, .int _), (3, .int _)]) C.1 C.2.1 dX9_alikeWhenShifted_4 hl (by decide) rfl (fun ls hl => ?_)
  exact L6 _ _ _ N _ _ _ _ _ _ E (lv_sub hl [2, 3, 4, 5, 1, 0] rfl) hf
theorem dJ0_indexOf_0f7a4_0 : decode cJ0_indexOf_0f7a4 0 = .ok (.aload_n 0, 1) := by decide +kernel
theorem dJ0_indexOf_0f7a4_1 : decode cJ0_indexOf_0f7a4 1 = .ok (.iload_n 1, 1) := by decide +kernel
theorem dJ0_indexOf_0f7a4_2 : decode cJ0_indexOf_0f7a4 2 = .ok (.iconst 0, 1) := by decide +kernel
theorem dJ0_indexOf_0f7a4_3 : decode cJ0_indexOf_0f7a4 3 = .ok (.invokevirtual 633, 3) := by decide +kernel
theorem dJ0_indexOf_0f7a4_6 : decode cJ0_indexOf_0f7a4 6 = .ok (.ireturn, 1) := by decide +kernel
set_option maxHeartbeats 4000000 in
set_option maxRecDepth 100000 in
theorem c_String_indexOf (l : Launch) (SH : List fm_Sh) (G : fm_G) (N : Nat) (M : fm_M) (v0 : Nat) (v1 : Int32) (r : Int32) (hf : pString_indexOf N M v0 v1 = some r) : fm_Met l yJ0_indexOf_0f7a4 cJ0_indexOf_0f7a4 2 (some .int) { frames := 3, cells := 0, slots := 0, locals := 70 } SH G [.ref (G.2.2.2.1 v0), .int v1] M (some (.int r)) M := by
  refine fm_enterF (by decide +kernel) (Nat.le_of_ble_eq_true rfl) ?_
  intro p e s m args below meth c ls C E hl
  have hl : lv_has ls 2 [(0, .ref (G.2.2.2.1 v0)), (1, .int v1)] := hl
  unfold pString_indexOf at hf
  obtain ⟨hi_v0, hf⟩ := fm_rq_s hf
  have hi_v0 := of_decide_eq_true hi_v0
  refine lv_aload_n C.1 C.2.1 dJ0_indexOf_0f7a4_0 rfl (lv_at hl 0 rfl) ?_
  refine lv_iload_n C.1 C.2.1 dJ0_indexOf_0f7a4_1 rfl (lv_at hl 1 rfl) ?_
  refine lv_iconst (v := 0) C.1 C.2.1 dJ0_indexOf_0f7a4_2 (by decide) ?_
  obtain ⟨x3, hc3, hf⟩ := fm_bd hf
  refine fm_callT C E [.int _, .int _] [] lm_J0_633 wk_J0_indexOf_7cf53 (c_String_indexOf2 l _ G N _ _ _ _ _  hc3) (of_decide_eq_true (fm_rq_s hc3).1) rfl rfl hl.1 (by simp [Value.category]) ⟨⟨rfl, rfl⟩, by decide, by decide⟩ ⟨by decide, by decide⟩ dJ0_indexOf_0f7a4_3 rfl (fun H locs E => ?_)
  refine W.eq (g2 := F0 m 6 ls (.int x3 :: [])) rfl ?_
  obtain rfl := fm_rt1 hf
  exact fm_iret C E rfl rfl dJ0_indexOf_0f7a4_6
theorem dX0_hear_0 : decode cX0_hear 0 = .ok (.aload_n 0, 1) := by decide +kernel
theorem dX0_hear_1 : decode cX0_hear 1 = .ok (.iload_n 3, 1) := by decide +kernel
theorem dX0_hear_2 : decode cX0_hear 2 = .ok (.invokevirtual 51, 3) := by decide +kernel
theorem dX0_hear_5 : decode cX0_hear 5 = .ok (.iconst 0, 1) := by decide +kernel
theorem dX0_hear_6 : decode cX0_hear 6 = .ok (.istore 4, 2) := by decide +kernel
theorem dX0_hear_8 : decode cX0_hear 8 = .ok (.iload 4, 2) := by decide +kernel
theorem dX0_hear_10 : decode cX0_hear 10 = .ok (.aload_n 0, 1) := by decide +kernel
theorem dX0_hear_11 : decode cX0_hear 11 = .ok (.getfield 35, 3) := by decide +kernel
theorem dX0_hear_14 : decode cX0_hear 14 = .ok (.if_icmp .ge 28, 3) := by decide +kernel
theorem dX0_hear_17 : decode cX0_hear 17 = .ok (.aload_n 0, 1) := by decide +kernel
theorem dX0_hear_18 : decode cX0_hear 18 = .ok (.getfield 16, 3) := by decide +kernel
theorem dX0_hear_21 : decode cX0_hear 21 = .ok (.iload 4, 2) := by decide +kernel
theorem dX0_hear_23 : decode cX0_hear 23 = .ok (.aload_n 0, 1) := by decide +kernel
theorem dX0_hear_24 : decode cX0_hear 24 = .ok (.getfield 43, 3) := by decide +kernel
theorem dX0_hear_27 : decode cX0_hear 27 = .ok (.iload_n 1, 1) := by decide +kernel
theorem dX0_hear_28 : decode cX0_hear 28 = .ok (.iload_n 2, 1) := by decide +kernel
theorem dX0_hear_29 : decode cX0_hear 29 = .ok (.iload 4, 2) := by decide +kernel
theorem dX0_hear_31 : decode cX0_hear 31 = .ok (.iadd, 1) := by decide +kernel
theorem dX0_hear_32 : decode cX0_hear 32 = .ok (.invokevirtual 55, 3) := by decide +kernel
theorem dX0_hear_35 : decode cX0_hear 35 = .ok (.iastore, 1) := by decide +kernel
theorem dX0_hear_36 : decode cX0_hear 36 = .ok (.iinc 4 1, 3) := by decide +kernel
theorem dX0_hear_39 : decode cX0_hear 39 = .ok (.goto (-31), 3) := by decide +kernel
theorem dX0_hear_42 : decode cX0_hear 42 = .ok (.return_, 1) := by decide +kernel
set_option maxHeartbeats 4000000 in
set_option maxRecDepth 100000 in
theorem c_Bench_hear (l : Launch) (G : fm_G) (N : Nat) (M : fm_M) (v1 : Int32) (v2 : Int32) (v3 : Int32) (M' : fm_M) (hf : pBench_hear N M v1 v2 v3 = some M') : fm_Met l yX0_hear cX0_hear 5 none { frames := 4, cells := 0, slots := 0, locals := 96 } shC G [.ref (G.2.1 181), .int v1, .int v2, .int v3] M none M' := by
  refine fm_enter (by decide) (Nat.le_of_ble_eq_true rfl) ?_
  intro p e s m args below meth c ls C E hl
  have hl : lv_has ls 5 [(0, .ref (G.2.1 181)), (1, .int v1), (2, .int v2), (3, .int v3)] := hl
  have L8 : ∀ (w8_v1 : Int32) (w8_v2 : Int32) (n8 : Nat) (v4 : Int32) (M : fm_M) (H : Heap) (locs : List Loc) (ls : Array Slot), fm_Wd shC G M s H locs → lv_has ls 5 [(0, .ref (G.2.1 181)), (1, .int w8_v1), (2, .int w8_v2), (4, .int v4)] → fm_lp (pBench_hear_L8 N w8_v1 w8_v2) n8 (v4, M) = some M' → W p l e { frames := 4, cells := 0, slots := 0, locals := 96 } s m args below meth c H locs 0 0 (fm_Z below shC G args s none M') (F0 m 8 ls []) := by
    intro w8_v1 w8_v2 n8
    induction n8 with
    | zero => intro v4 M H locs ls E hl hf; exact fm_lp_0 hf
    | succ n8 ih8 =>
      intro v4 M H locs ls E hl hf
      have hf : pBench_hear_L8b N w8_v1 w8_v2 (fm_lp (pBench_hear_L8 N w8_v1 w8_v2) n8) v4 M = some M' := hf
      unfold pBench_hear_L8b at hf
      refine lv_iload C.1 C.2.1 dX0_hear_8 (lv_at hl 3 rfl) ?_
      refine lv_aload_n C.1 C.2.1 dX0_hear_10 rfl (lv_at hl 0 rfl) ?_
      refine fm_geti C E lf_X0_35 hC_181 rfl dX0_hear_11 ?_
      refine lv_icmp_ge (tgt := 42) C.1 C.2.1 dX0_hear_14 (by decide) (fun hc14 => ?_) (fun hc14 => ?_)
      · have hf := fm_ip hf hc14
        obtain rfl := fm_rt1 hf
        exact fm_vret C E rfl dX0_hear_42
      · have hf := fm_in' hf hc14
        refine lv_aload_n C.1 C.2.1 dX0_hear_17 rfl (lv_at hl 0 rfl) ?_
        refine fm_getr C E lf_X0_16 hC_181 rfl dX0_hear_18 ?_
        refine lv_iload C.1 C.2.1 dX0_hear_21 (lv_at hl 3 rfl) ?_
        refine lv_aload_n C.1 C.2.1 dX0_hear_23 rfl (lv_at hl 0 rfl) ?_
        refine fm_getr C E lf_X0_43 hC_181 rfl dX0_hear_24 ?_
        refine lv_iload_n C.1 C.2.1 dX0_hear_27 rfl (lv_at hl 1 rfl) ?_
        refine lv_iload_n C.1 C.2.1 dX0_hear_28 rfl (lv_at hl 2 rfl) ?_
        refine lv_iload C.1 C.2.1 dX0_hear_29 (lv_at hl 3 rfl) ?_
        refine lv_iadd C.1 C.2.1 dX0_hear_31 ?_
        obtain ⟨⟨x32, M32⟩, hc32, hf⟩ := fm_bd hf
        dsimp only at hf
        refine fm_callV C E [.int _, .int _] [.int _, .ref _] lm_X0_55 wk_X3_at (c_Ears_at l G N _ _ _ _ _ hc32) hC_178 rfl rfl rfl hl.1 (by simp [Value.category]) ⟨⟨rfl, rfl⟩, by decide, by decide⟩ ⟨by decide, by decide⟩ dX0_hear_32 rfl (fun H locs E => ?_)
        refine W.eq (g2 := F0 m 35 ls (.int x32 :: [.int _, .ref _])) rfl ?_
        obtain ⟨h35, M35, e35, hf⟩ := fm_st_e hf
        refine fm_iast' C E e35 hC_189 h35 dX0_hear_35 (fun H locs E => ?_)
        refine fm_iinc C (v := 1) (lv' := [(4, .int _), (0, .ref _), (1, .int _), (2, .int _)]) (k := 3) hl rfl (by decide) (by decide) rfl dX0_hear_36 (fun ls hl => ?_)
        refine lv_goto (tgt := 8) C.1 C.2.1 dX0_hear_39 (by decide) ?_
        exact ih8 _ _ _ _ _ E (lv_sub hl [1, 2, 3, 0] rfl) hf
  unfold pBench_hear at hf
  refine lv_aload_n C.1 C.2.1 dX0_hear_0 rfl (lv_at hl 0 rfl) ?_
  refine lv_iload_n C.1 C.2.1 dX0_hear_1 rfl (lv_at hl 3 rfl) ?_
  obtain ⟨M2, hc2, hf⟩ := fm_bd hf
  refine fm_callV C E [.int _] [] lm_X0_51 wk_X0_setLength (c_Bench_setLength l G _ _ _ hc2) hC_181 rfl rfl rfl hl.1 (by simp [Value.category]) ⟨⟨rfl, rfl⟩, by decide, by decide⟩ ⟨by decide, by decide⟩ dX0_hear_2 rfl (fun H locs E => ?_)
  refine W.eq (g2 := F0 m 5 ls []) rfl ?_
  refine lv_iconst (v := 0) C.1 C.2.1 dX0_hear_5 (by decide) ?_
  refine lv_istore (lv' := [(4, .int _), (0, .ref _), (1, .int _), (2, .int _), (3, .int _)]) C.1 C.2.1 dX0_hear_6 hl (by decide) rfl (fun ls hl => ?_)
  exact L8 _ _ N _ _ _ _ _ E (lv_sub hl [1, 2, 3, 0] rfl) hf
theorem dX0_turnTo_0 : decode cX0_turnTo 0 = .ok (.aload_n 0, 1) := by decide +kernel
theorem dX0_turnTo_1 : decode cX0_turnTo 1 = .ok (.iload_n 3, 1) := by decide +kernel
theorem dX0_turnTo_2 : decode cX0_turnTo 2 = .ok (.invokevirtual 51, 3) := by decide +kernel
theorem dX0_turnTo_5 : decode cX0_turnTo 5 = .ok (.iconst 0, 1) := by decide +kernel
theorem dX0_turnTo_6 : decode cX0_turnTo 6 = .ok (.istore 4, 2) := by decide +kernel
theorem dX0_turnTo_8 : decode cX0_turnTo 8 = .ok (.iload 4, 2) := by decide +kernel
theorem dX0_turnTo_10 : decode cX0_turnTo 10 = .ok (.aload_n 0, 1) := by decide +kernel
theorem dX0_turnTo_11 : decode cX0_turnTo 11 = .ok (.getfield 39, 3) := by decide +kernel
theorem dX0_turnTo_14 : decode cX0_turnTo 14 = .ok (.getfield 61, 3) := by decide +kernel
theorem dX0_turnTo_17 : decode cX0_turnTo 17 = .ok (.if_icmp .ge 136, 3) := by decide +kernel
theorem dX0_turnTo_20 : decode cX0_turnTo 20 = .ok (.aload_n 0, 1) := by decide +kernel
theorem dX0_turnTo_21 : decode cX0_turnTo 21 = .ok (.getfield 39, 3) := by decide +kernel
theorem dX0_turnTo_24 : decode cX0_turnTo 24 = .ok (.getfield 66, 3) := by decide +kernel
theorem dX0_turnTo_27 : decode cX0_turnTo 27 = .ok (.iconst 0, 1) := by decide +kernel
theorem dX0_turnTo_28 : decode cX0_turnTo 28 = .ok (.aaload, 1) := by decide +kernel
theorem dX0_turnTo_29 : decode cX0_turnTo 29 = .ok (.iload 4, 2) := by decide +kernel
theorem dX0_turnTo_31 : decode cX0_turnTo 31 = .ok (.iaload, 1) := by decide +kernel
theorem dX0_turnTo_32 : decode cX0_turnTo 32 = .ok (.iload_n 1, 1) := by decide +kernel
theorem dX0_turnTo_33 : decode cX0_turnTo 33 = .ok (.imul, 1) := by decide +kernel
theorem dX0_turnTo_34 : decode cX0_turnTo 34 = .ok (.istore 5, 2) := by decide +kernel
theorem dX0_turnTo_36 : decode cX0_turnTo 36 = .ok (.iload_n 2, 1) := by decide +kernel
theorem dX0_turnTo_37 : decode cX0_turnTo 37 = .ok (.iload 5, 2) := by decide +kernel
theorem dX0_turnTo_39 : decode cX0_turnTo 39 = .ok (.iconst 3, 1) := by decide +kernel
theorem dX0_turnTo_40 : decode cX0_turnTo 40 = .ok (.ishr, 1) := by decide +kernel
theorem dX0_turnTo_41 : decode cX0_turnTo 41 = .ok (.iadd, 1) := by decide +kernel
theorem dX0_turnTo_42 : decode cX0_turnTo 42 = .ok (.istore 6, 2) := by decide +kernel
theorem dX0_turnTo_44 : decode cX0_turnTo 44 = .ok (.iload 5, 2) := by decide +kernel
theorem dX0_turnTo_46 : decode cX0_turnTo 46 = .ok (.bipush 7, 2) := by decide +kernel
theorem dX0_turnTo_48 : decode cX0_turnTo 48 = .ok (.iand, 1) := by decide +kernel
theorem dX0_turnTo_49 : decode cX0_turnTo 49 = .ok (.istore 7, 2) := by decide +kernel
theorem dX0_turnTo_51 : decode cX0_turnTo 51 = .ok (.aload_n 0, 1) := by decide +kernel
theorem dX0_turnTo_52 : decode cX0_turnTo 52 = .ok (.getfield 43, 3) := by decide +kernel
theorem dX0_turnTo_55 : decode cX0_turnTo 55 = .ok (.iload 4, 2) := by decide +kernel
theorem dX0_turnTo_57 : decode cX0_turnTo 57 = .ok (.iload 6, 2) := by decide +kernel
theorem dX0_turnTo_59 : decode cX0_turnTo 59 = .ok (.invokevirtual 55, 3) := by decide +kernel
theorem dX0_turnTo_62 : decode cX0_turnTo 62 = .ok (.istore 8, 2) := by decide +kernel
theorem dX0_turnTo_64 : decode cX0_turnTo 64 = .ok (.iconst 0, 1) := by decide +kernel
theorem dX0_turnTo_65 : decode cX0_turnTo 65 = .ok (.istore 9, 2) := by decide +kernel
theorem dX0_turnTo_67 : decode cX0_turnTo 67 = .ok (.iload 9, 2) := by decide +kernel
theorem dX0_turnTo_69 : decode cX0_turnTo 69 = .ok (.aload_n 0, 1) := by decide +kernel
theorem dX0_turnTo_70 : decode cX0_turnTo 70 = .ok (.getfield 35, 3) := by decide +kernel
theorem dX0_turnTo_73 : decode cX0_turnTo 73 = .ok (.if_icmp .ge 74, 3) := by decide +kernel
theorem dX0_turnTo_76 : decode cX0_turnTo 76 = .ok (.iload 8, 2) := by decide +kernel
theorem dX0_turnTo_78 : decode cX0_turnTo 78 = .ok (.istore 10, 2) := by decide +kernel
theorem dX0_turnTo_80 : decode cX0_turnTo 80 = .ok (.aload_n 0, 1) := by decide +kernel
theorem dX0_turnTo_81 : decode cX0_turnTo 81 = .ok (.getfield 43, 3) := by decide +kernel
theorem dX0_turnTo_84 : decode cX0_turnTo 84 = .ok (.iload 4, 2) := by decide +kernel
theorem dX0_turnTo_86 : decode cX0_turnTo 86 = .ok (.iload 6, 2) := by decide +kernel
theorem dX0_turnTo_88 : decode cX0_turnTo 88 = .ok (.iload 9, 2) := by decide +kernel
theorem dX0_turnTo_90 : decode cX0_turnTo 90 = .ok (.iadd, 1) := by decide +kernel
theorem dX0_turnTo_91 : decode cX0_turnTo 91 = .ok (.iconst 1, 1) := by decide +kernel
theorem dX0_turnTo_92 : decode cX0_turnTo 92 = .ok (.iadd, 1) := by decide +kernel
theorem dX0_turnTo_93 : decode cX0_turnTo 93 = .ok (.invokevirtual 55, 3) := by decide +kernel
theorem dX0_turnTo_96 : decode cX0_turnTo 96 = .ok (.istore 8, 2) := by decide +kernel
theorem dX0_turnTo_98 : decode cX0_turnTo 98 = .ok (.aload_n 0, 1) := by decide +kernel
theorem dX0_turnTo_99 : decode cX0_turnTo 99 = .ok (.getfield 11, 3) := by decide +kernel
theorem dX0_turnTo_102 : decode cX0_turnTo 102 = .ok (.iload 4, 2) := by decide +kernel
theorem dX0_turnTo_104 : decode cX0_turnTo 104 = .ok (.aaload, 1) := by decide +kernel
theorem dX0_turnTo_105 : decode cX0_turnTo 105 = .ok (.iload 9, 2) := by decide +kernel
theorem dX0_turnTo_107 : decode cX0_turnTo 107 = .ok (.bipush 8, 2) := by decide +kernel
theorem dX0_turnTo_109 : decode cX0_turnTo 109 = .ok (.iload 7, 2) := by decide +kernel
theorem dX0_turnTo_111 : decode cX0_turnTo 111 = .ok (.isub, 1) := by decide +kernel
theorem dX0_turnTo_112 : decode cX0_turnTo 112 = .ok (.iload 10, 2) := by decide +kernel
theorem dX0_turnTo_114 : decode cX0_turnTo 114 = .ok (.imul, 1) := by decide +kernel
theorem dX0_turnTo_115 : decode cX0_turnTo 115 = .ok (.iload 7, 2) := by decide +kernel
theorem dX0_turnTo_117 : decode cX0_turnTo 117 = .ok (.iload 8, 2) := by decide +kernel
theorem dX0_turnTo_119 : decode cX0_turnTo 119 = .ok (.imul, 1) := by decide +kernel
theorem dX0_turnTo_120 : decode cX0_turnTo 120 = .ok (.iadd, 1) := by decide +kernel
theorem dX0_turnTo_121 : decode cX0_turnTo 121 = .ok (.bipush 8, 2) := by decide +kernel
theorem dX0_turnTo_123 : decode cX0_turnTo 123 = .ok (.idiv, 1) := by decide +kernel
theorem dX0_turnTo_124 : decode cX0_turnTo 124 = .ok (.aload_n 0, 1) := by decide +kernel
theorem dX0_turnTo_125 : decode cX0_turnTo 125 = .ok (.getfield 39, 3) := by decide +kernel
theorem dX0_turnTo_128 : decode cX0_turnTo 128 = .ok (.getfield 66, 3) := by decide +kernel
theorem dX0_turnTo_131 : decode cX0_turnTo 131 = .ok (.iconst 3, 1) := by decide +kernel
theorem dX0_turnTo_132 : decode cX0_turnTo 132 = .ok (.aaload, 1) := by decide +kernel
theorem dX0_turnTo_133 : decode cX0_turnTo 133 = .ok (.iload 4, 2) := by decide +kernel
theorem dX0_turnTo_135 : decode cX0_turnTo 135 = .ok (.iaload, 1) := by decide +kernel
theorem dX0_turnTo_136 : decode cX0_turnTo 136 = .ok (.imul, 1) := by decide +kernel
theorem dX0_turnTo_137 : decode cX0_turnTo 137 = .ok (.bipush 100, 2) := by decide +kernel
theorem dX0_turnTo_139 : decode cX0_turnTo 139 = .ok (.idiv, 1) := by decide +kernel
theorem dX0_turnTo_140 : decode cX0_turnTo 140 = .ok (.iastore, 1) := by decide +kernel
theorem dX0_turnTo_141 : decode cX0_turnTo 141 = .ok (.iinc 9 1, 3) := by decide +kernel
theorem dX0_turnTo_144 : decode cX0_turnTo 144 = .ok (.goto (-77), 3) := by decide +kernel
theorem dX0_turnTo_147 : decode cX0_turnTo 147 = .ok (.iinc 4 1, 3) := by decide +kernel
theorem dX0_turnTo_150 : decode cX0_turnTo 150 = .ok (.goto (-142), 3) := by decide +kernel
theorem dX0_turnTo_153 : decode cX0_turnTo 153 = .ok (.return_, 1) := by decide +kernel
set_option maxHeartbeats 4000000 in
set_option maxRecDepth 100000 in
theorem c_Bench_turnTo (l : Launch) (G : fm_G) (N : Nat) (M : fm_M) (v1 : Int32) (v2 : Int32) (v3 : Int32) (M' : fm_M) (hf : pBench_turnTo N M v1 v2 v3 = some M') : fm_Met l yX0_turnTo cX0_turnTo 11 none { frames := 4, cells := 0, slots := 0, locals := 96 } shC G [.ref (G.2.1 181), .int v1, .int v2, .int v3] M none M' := by
  refine fm_enter (by decide) (Nat.le_of_ble_eq_true rfl) ?_
  intro p e s m args below meth c ls C E hl
  have hl : lv_has ls 11 [(0, .ref (G.2.1 181)), (1, .int v1), (2, .int v2), (3, .int v3)] := hl
  have L8 : ∀ (w8_v1 : Int32) (w8_v2 : Int32) (n8 : Nat) (v4 : Int32) (M : fm_M) (H : Heap) (locs : List Loc) (ls : Array Slot), fm_Wd shC G M s H locs → lv_has ls 11 [(0, .ref (G.2.1 181)), (1, .int w8_v1), (2, .int w8_v2), (4, .int v4)] → fm_lp (pBench_turnTo_L8 N w8_v1 w8_v2) n8 (v4, M) = some M' → W p l e { frames := 4, cells := 0, slots := 0, locals := 96 } s m args below meth c H locs 0 0 (fm_Z below shC G args s none M') (F0 m 8 ls []) := by
    intro w8_v1 w8_v2 n8
    induction n8 with
    | zero => intro v4 M H locs ls E hl hf; exact fm_lp_0 hf
    | succ n8 ih8 =>
      have L67 : ∀ (w67_v4 : Int32) (w67_v6 : Int32) (w67_v7 : Int32) (n67 : Nat) (v8 : Int32) (v9 : Int32) (M : fm_M) (H : Heap) (locs : List Loc) (ls : Array Slot), fm_Wd shC G M s H locs → lv_has ls 11 [(0, .ref (G.2.1 181)), (1, .int w8_v1), (2, .int w8_v2), (4, .int w67_v4), (6, .int w67_v6), (7, .int w67_v7), (8, .int v8), (9, .int v9)] → fm_lp (pBench_turnTo_L67 N w8_v1 w8_v2 w67_v4 w67_v6 w67_v7 (fm_lp (pBench_turnTo_L8 N w8_v1 w8_v2) n8)) n67 (v8, v9, M) = some M' → W p l e { frames := 4, cells := 0, slots := 0, locals := 96 } s m args below meth c H locs 0 0 (fm_Z below shC G args s none M') (F0 m 67 ls []) := by
        intro w67_v4 w67_v6 w67_v7 n67
        induction n67 with
        | zero => intro v8 v9 M H locs ls E hl hf; exact fm_lp_0 hf
        | succ n67 ih67 =>
          intro v8 v9 M H locs ls E hl hf
          have hf : pBench_turnTo_L67b N w8_v1 w8_v2 w67_v4 w67_v6 w67_v7 (fm_lp (pBench_turnTo_L8 N w8_v1 w8_v2) n8) (fm_lp (pBench_turnTo_L67 N w8_v1 w8_v2 w67_v4 w67_v6 w67_v7 (fm_lp (pBench_turnTo_L8 N w8_v1 w8_v2) n8)) n67) v8 v9 M = some M' := hf
          unfold pBench_turnTo_L67b at hf
          refine lv_iload C.1 C.2.1 dX0_turnTo_67 (lv_at hl 7 rfl) ?_
          refine lv_aload_n C.1 C.2.1 dX0_turnTo_69 rfl (lv_at hl 0 rfl) ?_
          refine fm_geti C E lf_X0_35 hC_181 rfl dX0_turnTo_70 ?_
          refine lv_icmp_ge (tgt := 147) C.1 C.2.1 dX0_turnTo_73 (by decide) (fun hc73 => ?_) (fun hc73 => ?_)
          · have hf := fm_ip hf hc73
            refine fm_iinc C (v := 1) (lv' := [(4, .int _), (0, .ref _), (1, .int _), (2, .int _), (6, .int _), (7, .int _), (8, .int _), (9, .int _)]) (k := 3) hl rfl (by decide) (by decide) rfl dX0_turnTo_147 (fun ls hl => ?_)
            refine lv_goto (tgt := 8) C.1 C.2.1 dX0_turnTo_150 (by decide) ?_
            exact ih8 _ _ _ _ _ E (lv_sub hl [1, 2, 3, 0] rfl) hf
          · have hf := fm_in' hf hc73
            refine lv_iload C.1 C.2.1 dX0_turnTo_76 (lv_at hl 6 rfl) ?_
            refine lv_istore (lv' := [(10, .int _), (0, .ref _), (1, .int _), (2, .int _), (4, .int _), (6, .int _), (7, .int _), (8, .int _), (9, .int _)]) C.1 C.2.1 dX0_turnTo_78 hl (by decide) rfl (fun ls hl => ?_)
            refine lv_aload_n C.1 C.2.1 dX0_turnTo_80 rfl (lv_at hl 1 rfl) ?_
            refine fm_getr C E lf_X0_43 hC_181 rfl dX0_turnTo_81 ?_
            refine lv_iload C.1 C.2.1 dX0_turnTo_84 (lv_at hl 4 rfl) ?_
            refine lv_iload C.1 C.2.1 dX0_turnTo_86 (lv_at hl 5 rfl) ?_
            refine lv_iload C.1 C.2.1 dX0_turnTo_88 (lv_at hl 8 rfl) ?_
            refine lv_iadd C.1 C.2.1 dX0_turnTo_90 ?_
            refine lv_iconst (v := 1) C.1 C.2.1 dX0_turnTo_91 (by decide) ?_
            refine lv_iadd C.1 C.2.1 dX0_turnTo_92 ?_
            obtain ⟨⟨x93, M93⟩, hc93, hf⟩ := fm_bd hf
            dsimp only at hf
            refine fm_callV C E [.int _, .int _] [] lm_X0_55 wk_X3_at (c_Ears_at l G N _ _ _ _ _ hc93) hC_178 rfl rfl rfl hl.1 (by simp [Value.category]) ⟨⟨rfl, rfl⟩, by decide, by decide⟩ ⟨by decide, by decide⟩ dX0_turnTo_93 rfl (fun H locs E => ?_)
            refine W.eq (g2 := F0 m 96 ls (.int x93 :: [])) rfl ?_
            refine lv_istore (lv' := [(8, .int _), (10, .int _), (0, .ref _), (1, .int _), (2, .int _), (4, .int _), (6, .int _), (7, .int _), (9, .int _)]) C.1 C.2.1 dX0_turnTo_96 hl (by decide) rfl (fun ls hl => ?_)
            refine lv_aload_n C.1 C.2.1 dX0_turnTo_98 rfl (lv_at hl 2 rfl) ?_
            refine fm_getr C E lf_X0_11 hC_181 rfl dX0_turnTo_99 ?_
            refine lv_iload C.1 C.2.1 dX0_turnTo_102 (lv_at hl 5 rfl) ?_
            obtain ⟨q104, h104, k104, e104, hf⟩ := fm_ix_t tC_183 hf
            refine fm_aald C E hC_182 h104 (r := q104) (by rw [e104]; exact rC_183 _ (fm_in_lt h104)) dX0_turnTo_104 ?_
            refine lv_iload C.1 C.2.1 dX0_turnTo_105 (lv_at hl 8 rfl) ?_
            refine lv_bipush (v := 8) C.1 C.2.1 dX0_turnTo_107 (by decide) ?_
            refine lv_iload C.1 C.2.1 dX0_turnTo_109 (lv_at hl 7 rfl) ?_
            refine lv_isub C.1 C.2.1 dX0_turnTo_111 ?_
            refine lv_iload C.1 C.2.1 dX0_turnTo_112 (lv_at hl 1 rfl) ?_
            refine lv_imul C.1 C.2.1 dX0_turnTo_114 ?_
            refine lv_iload C.1 C.2.1 dX0_turnTo_115 (lv_at hl 7 rfl) ?_
            refine lv_iload C.1 C.2.1 dX0_turnTo_117 (lv_at hl 0 rfl) ?_
            refine lv_imul C.1 C.2.1 dX0_turnTo_119 ?_
            refine lv_iadd C.1 C.2.1 dX0_turnTo_120 ?_
            refine lv_bipush (v := 8) C.1 C.2.1 dX0_turnTo_121 (by decide) ?_
            refine lv_idiv C.1 C.2.1 dX0_turnTo_123 (by decide) ?_
            refine lv_aload_n C.1 C.2.1 dX0_turnTo_124 rfl (lv_at hl 2 rfl) ?_
            refine fm_getr C E lf_X0_39 hC_181 rfl dX0_turnTo_125 ?_
            refine fm_getr C E lf_X0_66 hC_1 rfl dX0_turnTo_128 ?_
            refine lv_iconst (v := 3) C.1 C.2.1 dX0_turnTo_131 (by decide) ?_
            refine fm_aald C E hC_2 (by decide) (r := 6) (by decide) dX0_turnTo_132 ?_
            refine lv_iload C.1 C.2.1 dX0_turnTo_133 (lv_at hl 5 rfl) ?_
            obtain ⟨h135, x135, e135, hf⟩ := fm_ld_e hf
            refine fm_iald' C E e135 hC_6 h135 dX0_turnTo_135 ?_
            refine lv_imul C.1 C.2.1 dX0_turnTo_136 ?_
            refine lv_bipush (v := 100) C.1 C.2.1 dX0_turnTo_137 (by decide) ?_
            refine lv_idiv C.1 C.2.1 dX0_turnTo_139 (by decide) ?_
            obtain ⟨h140, M140, e140, hf⟩ := fm_st_e hf
            refine fm_iast' C E e140 k104 h140 dX0_turnTo_140 (fun H locs E => ?_)
            refine fm_iinc C (v := 1) (lv' := [(9, .int _), (8, .int _), (10, .int _), (0, .ref _), (1, .int _), (2, .int _), (4, .int _), (6, .int _), (7, .int _)]) (k := 8) hl rfl (by decide) (by decide) rfl dX0_turnTo_141 (fun ls hl => ?_)
            refine lv_goto (tgt := 67) C.1 C.2.1 dX0_turnTo_144 (by decide) ?_
            exact ih67 _ _ _ _ _ _ E (lv_sub hl [3, 4, 5, 6, 7, 8, 1, 0] rfl) hf
      intro v4 M H locs ls E hl hf
      have hf : pBench_turnTo_L8b N w8_v1 w8_v2 (fm_lp (pBench_turnTo_L8 N w8_v1 w8_v2) n8) v4 M = some M' := hf
      unfold pBench_turnTo_L8b at hf
      refine lv_iload C.1 C.2.1 dX0_turnTo_8 (lv_at hl 3 rfl) ?_
      refine lv_aload_n C.1 C.2.1 dX0_turnTo_10 rfl (lv_at hl 0 rfl) ?_
      refine fm_getr C E lf_X0_39 hC_181 rfl dX0_turnTo_11 ?_
      refine fm_geti C E lf_X0_61 hC_1 rfl dX0_turnTo_14 ?_
      refine lv_icmp_ge (tgt := 153) C.1 C.2.1 dX0_turnTo_17 (by decide) (fun hc17 => ?_) (fun hc17 => ?_)
      · have hf := fm_ip hf hc17
        obtain rfl := fm_rt1 hf
        exact fm_vret C E rfl dX0_turnTo_153
      · have hf := fm_in' hf hc17
        refine lv_aload_n C.1 C.2.1 dX0_turnTo_20 rfl (lv_at hl 0 rfl) ?_
        refine fm_getr C E lf_X0_39 hC_181 rfl dX0_turnTo_21 ?_
        refine fm_getr C E lf_X0_66 hC_1 rfl dX0_turnTo_24 ?_
        refine lv_iconst (v := 0) C.1 C.2.1 dX0_turnTo_27 (by decide) ?_
        refine fm_aald C E hC_2 (by decide) (r := 3) (by decide) dX0_turnTo_28 ?_
        refine lv_iload C.1 C.2.1 dX0_turnTo_29 (lv_at hl 3 rfl) ?_
        obtain ⟨h31, x31, e31, hf⟩ := fm_ld_e hf
        refine fm_iald' C E e31 hC_3 h31 dX0_turnTo_31 ?_
        refine lv_iload_n C.1 C.2.1 dX0_turnTo_32 rfl (lv_at hl 1 rfl) ?_
        refine lv_imul C.1 C.2.1 dX0_turnTo_33 ?_
        refine lv_istore (lv' := [(5, .int _), (0, .ref _), (1, .int _), (2, .int _), (4, .int _)]) C.1 C.2.1 dX0_turnTo_34 hl (by decide) rfl (fun ls hl => ?_)
        refine lv_iload_n C.1 C.2.1 dX0_turnTo_36 rfl (lv_at hl 3 rfl) ?_
        refine lv_iload C.1 C.2.1 dX0_turnTo_37 (lv_at hl 0 rfl) ?_
        refine lv_iconst (v := 3) C.1 C.2.1 dX0_turnTo_39 (by decide) ?_
        refine lv_ishr C.1 C.2.1 dX0_turnTo_40 ?_
        refine lv_iadd C.1 C.2.1 dX0_turnTo_41 ?_
        refine lv_istore (lv' := [(6, .int _), (5, .int _), (0, .ref _), (1, .int _), (2, .int _), (4, .int _)]) C.1 C.2.1 dX0_turnTo_42 hl (by decide) rfl (fun ls hl => ?_)
        refine lv_iload C.1 C.2.1 dX0_turnTo_44 (lv_at hl 1 rfl) ?_
        refine lv_bipush (v := 7) C.1 C.2.1 dX0_turnTo_46 (by decide) ?_
        refine lv_iand C.1 C.2.1 dX0_turnTo_48 ?_
        refine lv_istore (lv' := [(7, .int _), (6, .int _), (5, .int _), (0, .ref _), (1, .int _), (2, .int _), (4, .int _)]) C.1 C.2.1 dX0_turnTo_49 hl (by decide) rfl (fun ls hl => ?_)
        refine lv_aload_n C.1 C.2.1 dX0_turnTo_51 rfl (lv_at hl 3 rfl) ?_
        refine fm_getr C E lf_X0_43 hC_181 rfl dX0_turnTo_52 ?_
        refine lv_iload C.1 C.2.1 dX0_turnTo_55 (lv_at hl 6 rfl) ?_
        refine lv_iload C.1 C.2.1 dX0_turnTo_57 (lv_at hl 1 rfl) ?_
        obtain ⟨⟨x59, M59⟩, hc59, hf⟩ := fm_bd hf
        dsimp only at hf
        refine fm_callV C E [.int _, .int _] [] lm_X0_55 wk_X3_at (c_Ears_at l G N _ _ _ _ _ hc59) hC_178 rfl rfl rfl hl.1 (by simp [Value.category]) ⟨⟨rfl, rfl⟩, by decide, by decide⟩ ⟨by decide, by decide⟩ dX0_turnTo_59 rfl (fun H locs E => ?_)
        refine W.eq (g2 := F0 m 62 ls (.int x59 :: [])) rfl ?_
        refine lv_istore (lv' := [(8, .int _), (7, .int _), (6, .int _), (5, .int _), (0, .ref _), (1, .int _), (2, .int _), (4, .int _)]) C.1 C.2.1 dX0_turnTo_62 hl (by decide) rfl (fun ls hl => ?_)
        refine lv_iconst (v := 0) C.1 C.2.1 dX0_turnTo_64 (by decide) ?_
        refine lv_istore (lv' := [(9, .int _), (8, .int _), (7, .int _), (6, .int _), (5, .int _), (0, .ref _), (1, .int _), (2, .int _), (4, .int _)]) C.1 C.2.1 dX0_turnTo_65 hl (by decide) rfl (fun ls hl => ?_)
        exact L67 _ _ _ N _ _ _ _ _ _ E (lv_sub hl [5, 6, 7, 8, 3, 2, 1, 0] rfl) hf
  unfold pBench_turnTo at hf
  refine lv_aload_n C.1 C.2.1 dX0_turnTo_0 rfl (lv_at hl 0 rfl) ?_
  refine lv_iload_n C.1 C.2.1 dX0_turnTo_1 rfl (lv_at hl 3 rfl) ?_
  obtain ⟨M2, hc2, hf⟩ := fm_bd hf
  refine fm_callV C E [.int _] [] lm_X0_51 wk_X0_setLength (c_Bench_setLength l G _ _ _ hc2) hC_181 rfl rfl rfl hl.1 (by simp [Value.category]) ⟨⟨rfl, rfl⟩, by decide, by decide⟩ ⟨by decide, by decide⟩ dX0_turnTo_2 rfl (fun H locs E => ?_)
  refine W.eq (g2 := F0 m 5 ls []) rfl ?_
  refine lv_iconst (v := 0) C.1 C.2.1 dX0_turnTo_5 (by decide) ?_
  refine lv_istore (lv' := [(4, .int _), (0, .ref _), (1, .int _), (2, .int _), (3, .int _)]) C.1 C.2.1 dX0_turnTo_6 hl (by decide) rfl (fun ls hl => ?_)
  exact L8 _ _ N _ _ _ _ _ E (lv_sub hl [1, 2, 3, 0] rfl) hf
theorem dX1_measure_0 : decode cX1_measure 0 = .ok (.aload_n 0, 1) := by decide +kernel
theorem dX1_measure_1 : decode cX1_measure 1 = .ok (.getfield 16, 3) := by decide +kernel
theorem dX1_measure_4 : decode cX1_measure 4 = .ok (.iconst 0, 1) := by decide +kernel
theorem dX1_measure_5 : decode cX1_measure 5 = .ok (.invokestatic 44, 3) := by decide +kernel
theorem dX1_measure_8 : decode cX1_measure 8 = .ok (.bipush (-8), 2) := by decide +kernel
theorem dX1_measure_10 : decode cX1_measure 10 = .ok (.istore 4, 2) := by decide +kernel
theorem dX1_measure_12 : decode cX1_measure 12 = .ok (.iload 4, 2) := by decide +kernel
theorem dX1_measure_14 : decode cX1_measure 14 = .ok (.bipush 8, 2) := by decide +kernel
theorem dX1_measure_16 : decode cX1_measure 16 = .ok (.if_icmp .gt 58, 3) := by decide +kernel
theorem dX1_measure_19 : decode cX1_measure 19 = .ok (.aload_n 0, 1) := by decide +kernel
theorem dX1_measure_20 : decode cX1_measure 20 = .ok (.getfield 20, 3) := by decide +kernel
theorem dX1_measure_23 : decode cX1_measure 23 = .ok (.iload 4, 2) := by decide +kernel
theorem dX1_measure_25 : decode cX1_measure 25 = .ok (.iload_n 1, 1) := by decide +kernel
theorem dX1_measure_26 : decode cX1_measure 26 = .ok (.iload_n 2, 1) := by decide +kernel
theorem dX1_measure_27 : decode cX1_measure 27 = .ok (.invokevirtual 50, 3) := by decide +kernel
theorem dX1_measure_30 : decode cX1_measure 30 = .ok (.iconst 0, 1) := by decide +kernel
theorem dX1_measure_31 : decode cX1_measure 31 = .ok (.istore 5, 2) := by decide +kernel
theorem dX1_measure_33 : decode cX1_measure 33 = .ok (.iload 5, 2) := by decide +kernel
theorem dX1_measure_35 : decode cX1_measure 35 = .ok (.iload_n 2, 1) := by decide +kernel
theorem dX1_measure_36 : decode cX1_measure 36 = .ok (.if_icmp .ge 32, 3) := by decide +kernel
theorem dX1_measure_39 : decode cX1_measure 39 = .ok (.aload_n 0, 1) := by decide +kernel
theorem dX1_measure_40 : decode cX1_measure 40 = .ok (.getfield 11, 3) := by decide +kernel
theorem dX1_measure_43 : decode cX1_measure 43 = .ok (.iload 4, 2) := by decide +kernel
theorem dX1_measure_45 : decode cX1_measure 45 = .ok (.bipush 8, 2) := by decide +kernel
theorem dX1_measure_47 : decode cX1_measure 47 = .ok (.iadd, 1) := by decide +kernel
theorem dX1_measure_48 : decode cX1_measure 48 = .ok (.aaload, 1) := by decide +kernel
theorem dX1_measure_49 : decode cX1_measure 49 = .ok (.iload 5, 2) := by decide +kernel
theorem dX1_measure_51 : decode cX1_measure 51 = .ok (.aload_n 0, 1) := by decide +kernel
theorem dX1_measure_52 : decode cX1_measure 52 = .ok (.getfield 20, 3) := by decide +kernel
theorem dX1_measure_55 : decode cX1_measure 55 = .ok (.iload_n 3, 1) := by decide +kernel
theorem dX1_measure_56 : decode cX1_measure 56 = .ok (.iload 5, 2) := by decide +kernel
theorem dX1_measure_58 : decode cX1_measure 58 = .ok (.invokevirtual 55, 3) := by decide +kernel
theorem dX1_measure_61 : decode cX1_measure 61 = .ok (.iastore, 1) := by decide +kernel
theorem dX1_measure_62 : decode cX1_measure 62 = .ok (.iinc 5 1, 3) := by decide +kernel
theorem dX1_measure_65 : decode cX1_measure 65 = .ok (.goto (-32), 3) := by decide +kernel
theorem dX1_measure_68 : decode cX1_measure 68 = .ok (.iinc 4 1, 3) := by decide +kernel
theorem dX1_measure_71 : decode cX1_measure 71 = .ok (.goto (-59), 3) := by decide +kernel
theorem dX1_measure_74 : decode cX1_measure 74 = .ok (.return_, 1) := by decide +kernel
set_option maxHeartbeats 4000000 in
set_option maxRecDepth 100000 in
theorem c_Compass_measure (l : Launch) (G : fm_G) (N : Nat) (M : fm_M) (v1 : Int32) (v2 : Int32) (v3 : Int32) (M' : fm_M) (hf : pCompass_measure N M v1 v2 v3 = some M') : fm_Met l yX1_measure cX1_measure 6 none { frames := 5, cells := 0, slots := 0, locals := 126 } shC G [.ref (G.2.1 200), .int v1, .int v2, .int v3] M none M' := by
  refine fm_enter (by decide) (Nat.le_of_ble_eq_true rfl) ?_
  intro p e s m args below meth c ls C E hl
  have hl : lv_has ls 6 [(0, .ref (G.2.1 200)), (1, .int v1), (2, .int v2), (3, .int v3)] := hl
  have L12 : ∀ (w12_v1 : Int32) (w12_v2 : Int32) (w12_v3 : Int32) (n12 : Nat) (v4 : Int32) (M : fm_M) (H : Heap) (locs : List Loc) (ls : Array Slot), fm_Wd shC G M s H locs → lv_has ls 6 [(0, .ref (G.2.1 200)), (1, .int w12_v1), (2, .int w12_v2), (3, .int w12_v3), (4, .int v4)] → fm_lp (pCompass_measure_L12 N w12_v1 w12_v2 w12_v3) n12 (v4, M) = some M' → W p l e { frames := 5, cells := 0, slots := 0, locals := 126 } s m args below meth c H locs 0 0 (fm_Z below shC G args s none M') (F0 m 12 ls []) := by
    intro w12_v1 w12_v2 w12_v3 n12
    induction n12 with
    | zero => intro v4 M H locs ls E hl hf; exact fm_lp_0 hf
    | succ n12 ih12 =>
      have L33 : ∀ (w33_v4 : Int32) (n33 : Nat) (v5 : Int32) (M : fm_M) (H : Heap) (locs : List Loc) (ls : Array Slot), fm_Wd shC G M s H locs → lv_has ls 6 [(0, .ref (G.2.1 200)), (1, .int w12_v1), (2, .int w12_v2), (3, .int w12_v3), (4, .int w33_v4), (5, .int v5)] → fm_lp (pCompass_measure_L33 N w12_v1 w12_v2 w12_v3 w33_v4 (fm_lp (pCompass_measure_L12 N w12_v1 w12_v2 w12_v3) n12)) n33 (v5, M) = some M' → W p l e { frames := 5, cells := 0, slots := 0, locals := 126 } s m args below meth c H locs 0 0 (fm_Z below shC G args s none M') (F0 m 33 ls []) := by
        intro w33_v4 n33
        induction n33 with
        | zero => intro v5 M H locs ls E hl hf; exact fm_lp_0 hf
        | succ n33 ih33 =>
          intro v5 M H locs ls E hl hf
          have hf : pCompass_measure_L33b N w12_v1 w12_v2 w12_v3 w33_v4 (fm_lp (pCompass_measure_L12 N w12_v1 w12_v2 w12_v3) n12) (fm_lp (pCompass_measure_L33 N w12_v1 w12_v2 w12_v3 w33_v4 (fm_lp (pCompass_measure_L12 N w12_v1 w12_v2 w12_v3) n12)) n33) v5 M = some M' := hf
          unfold pCompass_measure_L33b at hf
          refine lv_iload C.1 C.2.1 dX1_measure_33 (lv_at hl 5 rfl) ?_
          refine lv_iload_n C.1 C.2.1 dX1_measure_35 rfl (lv_at hl 2 rfl) ?_
          refine lv_icmp_ge (tgt := 68) C.1 C.2.1 dX1_measure_36 (by decide) (fun hc36 => ?_) (fun hc36 => ?_)
          · have hf := fm_ip hf hc36
            refine fm_iinc C (v := 1) (lv' := [(4, .int _), (0, .ref _), (1, .int _), (2, .int _), (3, .int _), (5, .int _)]) (k := 4) hl rfl (by decide) (by decide) rfl dX1_measure_68 (fun ls hl => ?_)
            refine lv_goto (tgt := 12) C.1 C.2.1 dX1_measure_71 (by decide) ?_
            exact ih12 _ _ _ _ _ E (lv_sub hl [1, 2, 3, 4, 0] rfl) hf
          · have hf := fm_in' hf hc36
            refine lv_aload_n C.1 C.2.1 dX1_measure_39 rfl (lv_at hl 0 rfl) ?_
            refine fm_getr C E lf_X1_11 hC_200 rfl dX1_measure_40 ?_
            refine lv_iload C.1 C.2.1 dX1_measure_43 (lv_at hl 4 rfl) ?_
            refine lv_bipush (v := 8) C.1 C.2.1 dX1_measure_45 (by decide) ?_
            refine lv_iadd C.1 C.2.1 dX1_measure_47 ?_
            obtain ⟨q48, h48, k48, e48, hf⟩ := fm_ix_t tC_202 hf
            refine fm_aald C E hC_201 h48 (r := q48) (by rw [e48]; exact rC_202 _ (fm_in_lt h48)) dX1_measure_48 ?_
            refine lv_iload C.1 C.2.1 dX1_measure_49 (lv_at hl 5 rfl) ?_
            refine lv_aload_n C.1 C.2.1 dX1_measure_51 rfl (lv_at hl 0 rfl) ?_
            refine fm_getr C E lf_X1_20 hC_200 rfl dX1_measure_52 ?_
            refine lv_iload_n C.1 C.2.1 dX1_measure_55 rfl (lv_at hl 3 rfl) ?_
            refine lv_iload C.1 C.2.1 dX1_measure_56 (lv_at hl 5 rfl) ?_
            obtain ⟨x58, hc58, hf⟩ := fm_bd hf
            refine fm_callV C E [.int _, .int _] [.int _, .ref _] lm_X1_55 wk_X0_pairsAlike (c_Bench_pairsAlike l G N _ _ _ _  hc58) hC_181 rfl rfl rfl hl.1 (by simp [Value.category]) ⟨⟨rfl, rfl⟩, by decide, by decide⟩ ⟨by decide, by decide⟩ dX1_measure_58 rfl (fun H locs E => ?_)
            refine W.eq (g2 := F0 m 61 ls (.int x58 :: [.int _, .ref _])) rfl ?_
            obtain ⟨h61, M61, e61, hf⟩ := fm_st_e hf
            refine fm_iast' C E e61 k48 h61 dX1_measure_61 (fun H locs E => ?_)
            refine fm_iinc C (v := 1) (lv' := [(5, .int _), (0, .ref _), (1, .int _), (2, .int _), (3, .int _), (4, .int _)]) (k := 5) hl rfl (by decide) (by decide) rfl dX1_measure_62 (fun ls hl => ?_)
            refine lv_goto (tgt := 33) C.1 C.2.1 dX1_measure_65 (by decide) ?_
            exact ih33 _ _ _ _ _ E (lv_sub hl [1, 2, 3, 4, 5, 0] rfl) hf
      intro v4 M H locs ls E hl hf
      have hf : pCompass_measure_L12b N w12_v1 w12_v2 w12_v3 (fm_lp (pCompass_measure_L12 N w12_v1 w12_v2 w12_v3) n12) v4 M = some M' := hf
      unfold pCompass_measure_L12b at hf
      refine lv_iload C.1 C.2.1 dX1_measure_12 (lv_at hl 4 rfl) ?_
      refine lv_bipush (v := 8) C.1 C.2.1 dX1_measure_14 (by decide) ?_
      refine lv_icmp_gt (tgt := 74) C.1 C.2.1 dX1_measure_16 (by decide) (fun hc16 => ?_) (fun hc16 => ?_)
      · have hf := fm_ip hf hc16
        obtain rfl := fm_rt1 hf
        exact fm_vret C E rfl dX1_measure_74
      · have hf := fm_in' hf hc16
        refine lv_aload_n C.1 C.2.1 dX1_measure_19 rfl (lv_at hl 0 rfl) ?_
        refine fm_getr C E lf_X1_20 hC_200 rfl dX1_measure_20 ?_
        refine lv_iload C.1 C.2.1 dX1_measure_23 (lv_at hl 4 rfl) ?_
        refine lv_iload_n C.1 C.2.1 dX1_measure_25 rfl (lv_at hl 1 rfl) ?_
        refine lv_iload_n C.1 C.2.1 dX1_measure_26 rfl (lv_at hl 2 rfl) ?_
        obtain ⟨M27, hc27, hf⟩ := fm_bd hf
        refine fm_callV C E [.int _, .int _, .int _] [] lm_X1_50 wk_X0_turnTo (c_Bench_turnTo l G N _ _ _ _ _ hc27) hC_181 rfl rfl rfl hl.1 (by simp [Value.category]) ⟨⟨rfl, rfl⟩, by decide, by decide⟩ ⟨by decide, by decide⟩ dX1_measure_27 rfl (fun H locs E => ?_)
        refine W.eq (g2 := F0 m 30 ls []) rfl ?_
        refine lv_iconst (v := 0) C.1 C.2.1 dX1_measure_30 (by decide) ?_
        refine lv_istore (lv' := [(5, .int _), (0, .ref _), (1, .int _), (2, .int _), (3, .int _), (4, .int _)]) C.1 C.2.1 dX1_measure_31 hl (by decide) rfl (fun ls hl => ?_)
        exact L33 _ N _ _ _ _ _ E (lv_sub hl [1, 2, 3, 4, 5, 0] rfl) hf
  unfold pCompass_measure at hf
  refine lv_aload_n C.1 C.2.1 dX1_measure_0 rfl (lv_at hl 0 rfl) ?_
  refine fm_getr C E lf_X1_16 hC_200 rfl dX1_measure_1 ?_
  refine lv_iconst (v := 0) C.1 C.2.1 dX1_measure_4 (by decide) ?_
  obtain ⟨M5, hc5, hf⟩ := fm_bd hf
  refine fm_callS C E [.ref _, .int _] [] lm_X1_44 wk_J7_fill_53178 (c_Arrays_fill l G N _ _ _ _ hc5) rfl hl.1 (by simp [Value.category]) ⟨⟨rfl, rfl⟩, by decide, by decide⟩ ⟨by decide, by decide⟩ dX1_measure_5 rfl (fun H locs E => ?_)
  refine W.eq (g2 := F0 m 8 ls []) rfl ?_
  refine lv_bipush (v := (-8)) C.1 C.2.1 dX1_measure_8 (by decide) ?_
  refine lv_istore (lv' := [(4, .int _), (0, .ref _), (1, .int _), (2, .int _), (3, .int _)]) C.1 C.2.1 dX1_measure_10 hl (by decide) rfl (fun ls hl => ?_)
  exact L12 _ _ _ N _ _ _ _ _ E (lv_sub hl [1, 2, 3, 4, 0] rfl) hf
theorem dX9_turned_0 : decode cX9_turned 0 = .ok (.aload_n 0, 1) := by decide +kernel
theorem dX9_turned_1 : decode cX9_turned 1 = .ok (.getfield 10, 3) := by decide +kernel
theorem dX9_turned_4 : decode cX9_turned 4 = .ok (.iload_n 1, 1) := by decide +kernel
theorem dX9_turned_5 : decode cX9_turned 5 = .ok (.invokevirtual 116, 3) := by decide +kernel
theorem dX9_turned_8 : decode cX9_turned 8 = .ok (.ifCond .eq 21, 3) := by decide +kernel
theorem dX9_turned_11 : decode cX9_turned 11 = .ok (.iload_n 2, 1) := by decide +kernel
theorem dX9_turned_12 : decode cX9_turned 12 = .ok (.invokestatic 157, 3) := by decide +kernel
theorem dX9_turned_15 : decode cX9_turned 15 = .ok (.ifCond .eq 14, 3) := by decide +kernel
theorem dX9_turned_18 : decode cX9_turned 18 = .ok (.iload_n 3, 1) := by decide +kernel
theorem dX9_turned_19 : decode cX9_turned 19 = .ok (.invokestatic 160, 3) := by decide +kernel
theorem dX9_turned_22 : decode cX9_turned 22 = .ok (.ifCond .eq 7, 3) := by decide +kernel
theorem dX9_turned_25 : decode cX9_turned 25 = .ok (.iconst 1, 1) := by decide +kernel
theorem dX9_turned_26 : decode cX9_turned 26 = .ok (.goto 4, 3) := by decide +kernel
theorem dX9_turned_29 : decode cX9_turned 29 = .ok (.iconst 0, 1) := by decide +kernel
theorem dX9_turned_30 : decode cX9_turned 30 = .ok (.invokestatic 137, 3) := by decide +kernel
theorem dX9_turned_33 : decode cX9_turned 33 = .ok (.aload_n 0, 1) := by decide +kernel
theorem dX9_turned_34 : decode cX9_turned 34 = .ok (.getfield 62, 3) := by decide +kernel
theorem dX9_turned_37 : decode cX9_turned 37 = .ok (.iconst (-1), 1) := by decide +kernel
theorem dX9_turned_38 : decode cX9_turned 38 = .ok (.invokevirtual 150, 3) := by decide +kernel
theorem dX9_turned_41 : decode cX9_turned 41 = .ok (.aload_n 0, 1) := by decide +kernel
theorem dX9_turned_42 : decode cX9_turned 42 = .ok (.getfield 71, 3) := by decide +kernel
theorem dX9_turned_45 : decode cX9_turned 45 = .ok (.iload_n 2, 1) := by decide +kernel
theorem dX9_turned_46 : decode cX9_turned 46 = .ok (.iload_n 3, 1) := by decide +kernel
theorem dX9_turned_47 : decode cX9_turned 47 = .ok (.iconst 1, 1) := by decide +kernel
theorem dX9_turned_48 : decode cX9_turned 48 = .ok (.invokevirtual 163, 3) := by decide +kernel
theorem dX9_turned_51 : decode cX9_turned 51 = .ok (.aload_n 0, 1) := by decide +kernel
theorem dX9_turned_52 : decode cX9_turned 52 = .ok (.getfield 71, 3) := by decide +kernel
theorem dX9_turned_55 : decode cX9_turned 55 = .ok (.iload_n 1, 1) := by decide +kernel
theorem dX9_turned_56 : decode cX9_turned 56 = .ok (.invokevirtual 167, 3) := by decide +kernel
theorem dX9_turned_59 : decode cX9_turned 59 = .ok (.iconst 0, 1) := by decide +kernel
theorem dX9_turned_60 : decode cX9_turned 60 = .ok (.iaload, 1) := by decide +kernel
theorem dX9_turned_61 : decode cX9_turned 61 = .ok (.ireturn, 1) := by decide +kernel
set_option maxHeartbeats 4000000 in
set_option maxRecDepth 100000 in
theorem c_MicRow_turned (l : Launch) (G : fm_G) (N : Nat) (M : fm_M) (v1 : Int32) (v2 : Int32) (v3 : Int32) (r : Int32) (M' : fm_M) (hf : pMicRow_turned N M v1 v2 v3 = some (r, M')) : fm_Met l yX9_turned cX9_turned 4 (some .int) { frames := 5, cells := 0, slots := 0, locals := 126 } shC G [.ref (G.2.1 0), .int v1, .int v2, .int v3] M (some (.int r)) M' := by
  refine fm_enter (by decide) (Nat.le_of_ble_eq_true rfl) ?_
  intro p e s m args below meth c ls C E hl
  have hl : lv_has ls 4 [(0, .ref (G.2.1 0)), (1, .int v1), (2, .int v2), (3, .int v3)] := hl
  have J30 : ∀ (M : fm_M) (v1 : Int32) (v2 : Int32) (v3 : Int32) (s0 : Int32) (H : Heap) (locs : List Loc) (ls : Array Slot), fm_Wd shC G M s H locs → lv_has ls 4 [(0, .ref (G.2.1 0)), (1, .int v1), (2, .int v2), (3, .int v3)] → pMicRow_turned_J30 N M v1 v2 v3 s0 = some (r, M') → W p l e { frames := 5, cells := 0, slots := 0, locals := 126 } s m args below meth c H locs 0 0 (fm_Z below shC G args s (some (.int r)) M') (F0 m 30 ls [.int s0]) := by
    intro M v1 v2 v3 s0 H locs ls E hl hf
    unfold pMicRow_turned_J30 at hf
    obtain ⟨x30, hc30, hf⟩ := fm_bd hf
    refine fm_callS C E [.int _] [] lm_X9_137 wk_X9_demand (c_MicRow_demand l G _ _  hc30) rfl hl.1 (by simp [Value.category]) ⟨⟨rfl, rfl⟩, by decide, by decide⟩ ⟨by decide, by decide⟩ dX9_turned_30 rfl (fun H locs E => ?_)
    refine W.eq (g2 := F0 m 33 ls []) rfl ?_
    refine lv_aload_n C.1 C.2.1 dX9_turned_33 rfl (lv_at hl 0 rfl) ?_
    refine fm_getr C E lf_X9_62 hC_0 rfl dX9_turned_34 ?_
    refine lv_iconst (v := (-1)) C.1 C.2.1 dX9_turned_37 (by decide) ?_
    obtain ⟨M38, hc38, hf⟩ := fm_bd hf
    refine fm_callV C E [.int _] [] lm_X9_150 wk_X3_listenTo (c_Ears_listenTo l G _ _ _ hc38) hC_178 rfl rfl rfl hl.1 (by simp [Value.category]) ⟨⟨rfl, rfl⟩, by decide, by decide⟩ ⟨by decide, by decide⟩ dX9_turned_38 rfl (fun H locs E => ?_)
    refine W.eq (g2 := F0 m 41 ls []) rfl ?_
    refine lv_aload_n C.1 C.2.1 dX9_turned_41 rfl (lv_at hl 0 rfl) ?_
    refine fm_getr C E lf_X9_71 hC_0 rfl dX9_turned_42 ?_
    refine lv_iload_n C.1 C.2.1 dX9_turned_45 rfl (lv_at hl 2 rfl) ?_
    refine lv_iload_n C.1 C.2.1 dX9_turned_46 rfl (lv_at hl 3 rfl) ?_
    refine lv_iconst (v := 1) C.1 C.2.1 dX9_turned_47 (by decide) ?_
    obtain ⟨M48, hc48, hf⟩ := fm_bd hf
    refine fm_callV C E [.int _, .int _, .int _] [] lm_X9_163 wk_X0_turnTo (c_Bench_turnTo l G N _ _ _ _ _ hc48) hC_181 rfl rfl rfl hl.1 (by simp [Value.category]) ⟨⟨rfl, rfl⟩, by decide, by decide⟩ ⟨by decide, by decide⟩ dX9_turned_48 rfl (fun H locs E => ?_)
    refine W.eq (g2 := F0 m 51 ls []) rfl ?_
    refine lv_aload_n C.1 C.2.1 dX9_turned_51 rfl (lv_at hl 0 rfl) ?_
    refine fm_getr C E lf_X9_71 hC_0 rfl dX9_turned_52 ?_
    refine lv_iload_n C.1 C.2.1 dX9_turned_55 rfl (lv_at hl 1 rfl) ?_
    obtain ⟨x56, hc56, hf⟩ := fm_bd hf
    refine fm_callV C E [.int _] [] lm_X9_167 wk_X0_turnedRow (c_Bench_turnedRow l G _ _ _  hc56) hC_181 rfl rfl rfl hl.1 (by simp [Value.category]) ⟨⟨rfl, rfl⟩, by decide, by decide⟩ ⟨by decide, by decide⟩ dX9_turned_56 rfl (fun H locs E => ?_)
    refine W.eq (g2 := F0 m 59 ls (.ref (G.2.1 x56) :: [])) rfl ?_
    refine lv_iconst (v := 0) C.1 C.2.1 dX9_turned_59 (by decide) ?_
    obtain ⟨h60, x60, e60, hf⟩ := fm_ld_e hf
    obtain ⟨_, hk60⟩ := fm_n_at h60
    refine fm_iald' C E e60 hk60 h60 dX9_turned_60 ?_
    obtain ⟨rfl, rfl⟩ := fm_rt2 hf
    exact fm_iret C E rfl rfl dX9_turned_61
  have J29 : ∀ (M : fm_M) (v1 : Int32) (v2 : Int32) (v3 : Int32) (H : Heap) (locs : List Loc) (ls : Array Slot), fm_Wd shC G M s H locs → lv_has ls 4 [(0, .ref (G.2.1 0)), (1, .int v1), (2, .int v2), (3, .int v3)] → pMicRow_turned_J29 N M v1 v2 v3 = some (r, M') → W p l e { frames := 5, cells := 0, slots := 0, locals := 126 } s m args below meth c H locs 0 0 (fm_Z below shC G args s (some (.int r)) M') (F0 m 29 ls []) := by
    intro M v1 v2 v3 H locs ls E hl hf
    unfold pMicRow_turned_J29 at hf
    refine lv_iconst (v := 0) C.1 C.2.1 dX9_turned_29 (by decide) ?_
    exact J30 _ _ _ _ _ _ _ _ E (lv_sub hl [0, 1, 2, 3] rfl) hf
  unfold pMicRow_turned at hf
  refine lv_aload_n C.1 C.2.1 dX9_turned_0 rfl (lv_at hl 0 rfl) ?_
  refine fm_getr C E lf_X9_10 hC_0 rfl dX9_turned_1 ?_
  refine lv_iload_n C.1 C.2.1 dX9_turned_4 rfl (lv_at hl 1 rfl) ?_
  obtain ⟨x5, hc5, hf⟩ := fm_bd hf
  refine fm_callV C E [.int _] [] lm_X9_116 wk_X7_hasMic (c_Scene_hasMic l G _ _ _  hc5) hC_1 rfl rfl rfl hl.1 (by simp [Value.category]) ⟨⟨rfl, rfl⟩, by decide, by decide⟩ ⟨by decide, by decide⟩ dX9_turned_5 rfl (fun H locs E => ?_)
  refine W.eq (g2 := F0 m 8 ls (.int x5 :: [])) rfl ?_
  refine lv_if_eq (tgt := 29) C.1 C.2.1 dX9_turned_8 (by decide) (fun hc8 => ?_) (fun hc8 => ?_)
  · have hf := fm_ip hf hc8
    exact J29 _ _ _ _ _ _ _ E (lv_sub hl [0, 1, 2, 3] rfl) hf
  · have hf := fm_in' hf hc8
    refine lv_iload_n C.1 C.2.1 dX9_turned_11 rfl (lv_at hl 2 rfl) ?_
    obtain ⟨x12, hc12, hf⟩ := fm_bd hf
    refine fm_callS C E [.int _] [] lm_X9_157 wk_X9_isDirection (c_MicRow_isDirection l G _ _ _  hc12) rfl hl.1 (by simp [Value.category]) ⟨⟨rfl, rfl⟩, by decide, by decide⟩ ⟨by decide, by decide⟩ dX9_turned_12 rfl (fun H locs E => ?_)
    refine W.eq (g2 := F0 m 15 ls (.int x12 :: [])) rfl ?_
    refine lv_if_eq (tgt := 29) C.1 C.2.1 dX9_turned_15 (by decide) (fun hc15 => ?_) (fun hc15 => ?_)
    · have hf := fm_ip hf hc15
      exact J29 _ _ _ _ _ _ _ E (lv_sub hl [0, 1, 2, 3] rfl) hf
    · have hf := fm_in' hf hc15
      refine lv_iload_n C.1 C.2.1 dX9_turned_18 rfl (lv_at hl 3 rfl) ?_
      obtain ⟨x19, hc19, hf⟩ := fm_bd hf
      refine fm_callS C E [.int _] [] lm_X9_160 wk_X9_isTurnedTime (c_MicRow_isTurnedTime l G _ _ _  hc19) rfl hl.1 (by simp [Value.category]) ⟨⟨rfl, rfl⟩, by decide, by decide⟩ ⟨by decide, by decide⟩ dX9_turned_19 rfl (fun H locs E => ?_)
      refine W.eq (g2 := F0 m 22 ls (.int x19 :: [])) rfl ?_
      refine lv_if_eq (tgt := 29) C.1 C.2.1 dX9_turned_22 (by decide) (fun hc22 => ?_) (fun hc22 => ?_)
      · have hf := fm_ip hf hc22
        exact J29 _ _ _ _ _ _ _ E (lv_sub hl [0, 1, 2, 3] rfl) hf
      · have hf := fm_in' hf hc22
        refine lv_iconst (v := 1) C.1 C.2.1 dX9_turned_25 (by decide) ?_
        refine lv_goto (tgt := 30) C.1 C.2.1 dX9_turned_26 (by decide) ?_
        exact J30 _ _ _ _ _ _ _ _ E (lv_sub hl [0, 1, 2, 3] rfl) hf
theorem dX9_beam_0 : decode cX9_beam 0 = .ok (.iload_n 1, 1) := by decide +kernel
theorem dX9_beam_1 : decode cX9_beam 1 = .ok (.invokestatic 157, 3) := by decide +kernel
theorem dX9_beam_4 : decode cX9_beam 4 = .ok (.ifCond .eq 14, 3) := by decide +kernel
theorem dX9_beam_7 : decode cX9_beam 7 = .ok (.iload_n 2, 1) := by decide +kernel
theorem dX9_beam_8 : decode cX9_beam 8 = .ok (.invokestatic 160, 3) := by decide +kernel
theorem dX9_beam_11 : decode cX9_beam 11 = .ok (.ifCond .eq 7, 3) := by decide +kernel
theorem dX9_beam_14 : decode cX9_beam 14 = .ok (.iconst 1, 1) := by decide +kernel
theorem dX9_beam_15 : decode cX9_beam 15 = .ok (.goto 4, 3) := by decide +kernel
theorem dX9_beam_18 : decode cX9_beam 18 = .ok (.iconst 0, 1) := by decide +kernel
theorem dX9_beam_19 : decode cX9_beam 19 = .ok (.invokestatic 137, 3) := by decide +kernel
theorem dX9_beam_22 : decode cX9_beam 22 = .ok (.aload_n 0, 1) := by decide +kernel
theorem dX9_beam_23 : decode cX9_beam 23 = .ok (.getfield 62, 3) := by decide +kernel
theorem dX9_beam_26 : decode cX9_beam 26 = .ok (.iconst (-1), 1) := by decide +kernel
theorem dX9_beam_27 : decode cX9_beam 27 = .ok (.invokevirtual 150, 3) := by decide +kernel
theorem dX9_beam_30 : decode cX9_beam 30 = .ok (.aload_n 0, 1) := by decide +kernel
theorem dX9_beam_31 : decode cX9_beam 31 = .ok (.getfield 71, 3) := by decide +kernel
theorem dX9_beam_34 : decode cX9_beam 34 = .ok (.iload_n 1, 1) := by decide +kernel
theorem dX9_beam_35 : decode cX9_beam 35 = .ok (.iload_n 2, 1) := by decide +kernel
theorem dX9_beam_36 : decode cX9_beam 36 = .ok (.iconst 1, 1) := by decide +kernel
theorem dX9_beam_37 : decode cX9_beam 37 = .ok (.invokevirtual 163, 3) := by decide +kernel
theorem dX9_beam_40 : decode cX9_beam 40 = .ok (.aload_n 0, 1) := by decide +kernel
theorem dX9_beam_41 : decode cX9_beam 41 = .ok (.getfield 71, 3) := by decide +kernel
theorem dX9_beam_44 : decode cX9_beam 44 = .ok (.aload_n 0, 1) := by decide +kernel
theorem dX9_beam_45 : decode cX9_beam 45 = .ok (.getfield 10, 3) := by decide +kernel
theorem dX9_beam_48 : decode cX9_beam 48 = .ok (.invokevirtual 171, 3) := by decide +kernel
theorem dX9_beam_51 : decode cX9_beam 51 = .ok (.invokevirtual 175, 3) := by decide +kernel
theorem dX9_beam_54 : decode cX9_beam 54 = .ok (.aload_n 0, 1) := by decide +kernel
theorem dX9_beam_55 : decode cX9_beam 55 = .ok (.getfield 71, 3) := by decide +kernel
theorem dX9_beam_58 : decode cX9_beam 58 = .ok (.getfield 178, 3) := by decide +kernel
theorem dX9_beam_61 : decode cX9_beam 61 = .ok (.iconst 0, 1) := by decide +kernel
theorem dX9_beam_62 : decode cX9_beam 62 = .ok (.iaload, 1) := by decide +kernel
theorem dX9_beam_63 : decode cX9_beam 63 = .ok (.ireturn, 1) := by decide +kernel
set_option maxHeartbeats 4000000 in
set_option maxRecDepth 100000 in
theorem c_MicRow_beam (l : Launch) (G : fm_G) (N : Nat) (M : fm_M) (v1 : Int32) (v2 : Int32) (r : Int32) (M' : fm_M) (hf : pMicRow_beam N M v1 v2 = some (r, M')) : fm_Met l yX9_beam cX9_beam 3 (some .int) { frames := 5, cells := 0, slots := 0, locals := 126 } shC G [.ref (G.2.1 0), .int v1, .int v2] M (some (.int r)) M' := by
  refine fm_enter (by decide) (Nat.le_of_ble_eq_true rfl) ?_
  intro p e s m args below meth c ls C E hl
  have hl : lv_has ls 3 [(0, .ref (G.2.1 0)), (1, .int v1), (2, .int v2)] := hl
  have J19 : ∀ (M : fm_M) (v1 : Int32) (v2 : Int32) (s0 : Int32) (H : Heap) (locs : List Loc) (ls : Array Slot), fm_Wd shC G M s H locs → lv_has ls 3 [(0, .ref (G.2.1 0)), (1, .int v1), (2, .int v2)] → pMicRow_beam_J19 N M v1 v2 s0 = some (r, M') → W p l e { frames := 5, cells := 0, slots := 0, locals := 126 } s m args below meth c H locs 0 0 (fm_Z below shC G args s (some (.int r)) M') (F0 m 19 ls [.int s0]) := by
    intro M v1 v2 s0 H locs ls E hl hf
    unfold pMicRow_beam_J19 at hf
    obtain ⟨x19, hc19, hf⟩ := fm_bd hf
    refine fm_callS C E [.int _] [] lm_X9_137 wk_X9_demand (c_MicRow_demand l G _ _  hc19) rfl hl.1 (by simp [Value.category]) ⟨⟨rfl, rfl⟩, by decide, by decide⟩ ⟨by decide, by decide⟩ dX9_beam_19 rfl (fun H locs E => ?_)
    refine W.eq (g2 := F0 m 22 ls []) rfl ?_
    refine lv_aload_n C.1 C.2.1 dX9_beam_22 rfl (lv_at hl 0 rfl) ?_
    refine fm_getr C E lf_X9_62 hC_0 rfl dX9_beam_23 ?_
    refine lv_iconst (v := (-1)) C.1 C.2.1 dX9_beam_26 (by decide) ?_
    obtain ⟨M27, hc27, hf⟩ := fm_bd hf
    refine fm_callV C E [.int _] [] lm_X9_150 wk_X3_listenTo (c_Ears_listenTo l G _ _ _ hc27) hC_178 rfl rfl rfl hl.1 (by simp [Value.category]) ⟨⟨rfl, rfl⟩, by decide, by decide⟩ ⟨by decide, by decide⟩ dX9_beam_27 rfl (fun H locs E => ?_)
    refine W.eq (g2 := F0 m 30 ls []) rfl ?_
    refine lv_aload_n C.1 C.2.1 dX9_beam_30 rfl (lv_at hl 0 rfl) ?_
    refine fm_getr C E lf_X9_71 hC_0 rfl dX9_beam_31 ?_
    refine lv_iload_n C.1 C.2.1 dX9_beam_34 rfl (lv_at hl 1 rfl) ?_
    refine lv_iload_n C.1 C.2.1 dX9_beam_35 rfl (lv_at hl 2 rfl) ?_
    refine lv_iconst (v := 1) C.1 C.2.1 dX9_beam_36 (by decide) ?_
    obtain ⟨M37, hc37, hf⟩ := fm_bd hf
    refine fm_callV C E [.int _, .int _, .int _] [] lm_X9_163 wk_X0_turnTo (c_Bench_turnTo l G N _ _ _ _ _ hc37) hC_181 rfl rfl rfl hl.1 (by simp [Value.category]) ⟨⟨rfl, rfl⟩, by decide, by decide⟩ ⟨by decide, by decide⟩ dX9_beam_37 rfl (fun H locs E => ?_)
    refine W.eq (g2 := F0 m 40 ls []) rfl ?_
    refine lv_aload_n C.1 C.2.1 dX9_beam_40 rfl (lv_at hl 0 rfl) ?_
    refine fm_getr C E lf_X9_71 hC_0 rfl dX9_beam_41 ?_
    refine lv_aload_n C.1 C.2.1 dX9_beam_44 rfl (lv_at hl 0 rfl) ?_
    refine fm_getr C E lf_X9_10 hC_0 rfl dX9_beam_45 ?_
    obtain ⟨x48, hc48, hf⟩ := fm_bd hf
    refine fm_callV C E [] [.ref _] lm_X9_171 wk_X7_liveSet (c_Scene_liveSet l G N _ _  hc48) hC_1 rfl rfl rfl hl.1 (by simp [Value.category]) ⟨⟨rfl, rfl⟩, by decide, by decide⟩ ⟨by decide, by decide⟩ dX9_beam_48 rfl (fun H locs E => ?_)
    refine W.eq (g2 := F0 m 51 ls (.int x48 :: [.ref _])) rfl ?_
    obtain ⟨M51, hc51, hf⟩ := fm_bd hf
    refine fm_callV C E [.int _] [] lm_X9_175 wk_X0_mix (c_Bench_mix l G N _ _ _ hc51) hC_181 rfl rfl rfl hl.1 (by simp [Value.category]) ⟨⟨rfl, rfl⟩, by decide, by decide⟩ ⟨by decide, by decide⟩ dX9_beam_51 rfl (fun H locs E => ?_)
    refine W.eq (g2 := F0 m 54 ls []) rfl ?_
    refine lv_aload_n C.1 C.2.1 dX9_beam_54 rfl (lv_at hl 0 rfl) ?_
    refine fm_getr C E lf_X9_71 hC_0 rfl dX9_beam_55 ?_
    refine fm_getr C E lf_X9_178 hC_181 rfl dX9_beam_58 ?_
    refine lv_iconst (v := 0) C.1 C.2.1 dX9_beam_61 (by decide) ?_
    refine fm_ialdc C E 0 (by decide) hC_190 (by decide) dX9_beam_62 ?_
    obtain ⟨rfl, rfl⟩ := fm_rt2 hf
    exact fm_iret C E rfl rfl dX9_beam_63
  have J18 : ∀ (M : fm_M) (v1 : Int32) (v2 : Int32) (H : Heap) (locs : List Loc) (ls : Array Slot), fm_Wd shC G M s H locs → lv_has ls 3 [(0, .ref (G.2.1 0)), (1, .int v1), (2, .int v2)] → pMicRow_beam_J18 N M v1 v2 = some (r, M') → W p l e { frames := 5, cells := 0, slots := 0, locals := 126 } s m args below meth c H locs 0 0 (fm_Z below shC G args s (some (.int r)) M') (F0 m 18 ls []) := by
    intro M v1 v2 H locs ls E hl hf
    unfold pMicRow_beam_J18 at hf
    refine lv_iconst (v := 0) C.1 C.2.1 dX9_beam_18 (by decide) ?_
    exact J19 _ _ _ _ _ _ _ E (lv_sub hl [0, 1, 2] rfl) hf
  unfold pMicRow_beam at hf
  refine lv_iload_n C.1 C.2.1 dX9_beam_0 rfl (lv_at hl 1 rfl) ?_
  obtain ⟨x1, hc1, hf⟩ := fm_bd hf
  refine fm_callS C E [.int _] [] lm_X9_157 wk_X9_isDirection (c_MicRow_isDirection l G _ _ _  hc1) rfl hl.1 (by simp [Value.category]) ⟨⟨rfl, rfl⟩, by decide, by decide⟩ ⟨by decide, by decide⟩ dX9_beam_1 rfl (fun H locs E => ?_)
  refine W.eq (g2 := F0 m 4 ls (.int x1 :: [])) rfl ?_
  refine lv_if_eq (tgt := 18) C.1 C.2.1 dX9_beam_4 (by decide) (fun hc4 => ?_) (fun hc4 => ?_)
  · have hf := fm_ip hf hc4
    exact J18 _ _ _ _ _ _ E (lv_sub hl [0, 1, 2] rfl) hf
  · have hf := fm_in' hf hc4
    refine lv_iload_n C.1 C.2.1 dX9_beam_7 rfl (lv_at hl 2 rfl) ?_
    obtain ⟨x8, hc8, hf⟩ := fm_bd hf
    refine fm_callS C E [.int _] [] lm_X9_160 wk_X9_isTurnedTime (c_MicRow_isTurnedTime l G _ _ _  hc8) rfl hl.1 (by simp [Value.category]) ⟨⟨rfl, rfl⟩, by decide, by decide⟩ ⟨by decide, by decide⟩ dX9_beam_8 rfl (fun H locs E => ?_)
    refine W.eq (g2 := F0 m 11 ls (.int x8 :: [])) rfl ?_
    refine lv_if_eq (tgt := 18) C.1 C.2.1 dX9_beam_11 (by decide) (fun hc11 => ?_) (fun hc11 => ?_)
    · have hf := fm_ip hf hc11
      exact J18 _ _ _ _ _ _ E (lv_sub hl [0, 1, 2] rfl) hf
    · have hf := fm_in' hf hc11
      refine lv_iconst (v := 1) C.1 C.2.1 dX9_beam_14 (by decide) ?_
      refine lv_goto (tgt := 19) C.1 C.2.1 dX9_beam_15 (by decide) ?_
      exact J19 _ _ _ _ _ _ _ E (lv_sub hl [0, 1, 2] rfl) hf
theorem dX9_blocked_0 : decode cX9_blocked 0 = .ok (.iload_n 1, 1) := by decide +kernel
theorem dX9_blocked_1 : decode cX9_blocked 1 = .ok (.invokestatic 157, 3) := by decide +kernel
theorem dX9_blocked_4 : decode cX9_blocked 4 = .ok (.ifCond .eq 14, 3) := by decide +kernel
theorem dX9_blocked_7 : decode cX9_blocked 7 = .ok (.iload_n 3, 1) := by decide +kernel
theorem dX9_blocked_8 : decode cX9_blocked 8 = .ok (.invokestatic 160, 3) := by decide +kernel
theorem dX9_blocked_11 : decode cX9_blocked 11 = .ok (.ifCond .eq 7, 3) := by decide +kernel
theorem dX9_blocked_14 : decode cX9_blocked 14 = .ok (.iconst 1, 1) := by decide +kernel
theorem dX9_blocked_15 : decode cX9_blocked 15 = .ok (.goto 4, 3) := by decide +kernel
theorem dX9_blocked_18 : decode cX9_blocked 18 = .ok (.iconst 0, 1) := by decide +kernel
theorem dX9_blocked_19 : decode cX9_blocked 19 = .ok (.invokestatic 137, 3) := by decide +kernel
theorem dX9_blocked_22 : decode cX9_blocked 22 = .ok (.aload_n 0, 1) := by decide +kernel
theorem dX9_blocked_23 : decode cX9_blocked 23 = .ok (.getfield 62, 3) := by decide +kernel
theorem dX9_blocked_26 : decode cX9_blocked 26 = .ok (.iconst (-1), 1) := by decide +kernel
theorem dX9_blocked_27 : decode cX9_blocked 27 = .ok (.invokevirtual 150, 3) := by decide +kernel
theorem dX9_blocked_30 : decode cX9_blocked 30 = .ok (.aload_n 0, 1) := by decide +kernel
theorem dX9_blocked_31 : decode cX9_blocked 31 = .ok (.getfield 71, 3) := by decide +kernel
theorem dX9_blocked_34 : decode cX9_blocked 34 = .ok (.iload_n 1, 1) := by decide +kernel
theorem dX9_blocked_35 : decode cX9_blocked 35 = .ok (.iload_n 3, 1) := by decide +kernel
theorem dX9_blocked_36 : decode cX9_blocked 36 = .ok (.iconst 1, 1) := by decide +kernel
theorem dX9_blocked_37 : decode cX9_blocked 37 = .ok (.invokevirtual 163, 3) := by decide +kernel
theorem dX9_blocked_40 : decode cX9_blocked 40 = .ok (.aload_n 0, 1) := by decide +kernel
theorem dX9_blocked_41 : decode cX9_blocked 41 = .ok (.getfield 71, 3) := by decide +kernel
theorem dX9_blocked_44 : decode cX9_blocked 44 = .ok (.aload_n 0, 1) := by decide +kernel
theorem dX9_blocked_45 : decode cX9_blocked 45 = .ok (.getfield 10, 3) := by decide +kernel
theorem dX9_blocked_48 : decode cX9_blocked 48 = .ok (.invokevirtual 171, 3) := by decide +kernel
theorem dX9_blocked_51 : decode cX9_blocked 51 = .ok (.invokevirtual 181, 3) := by decide +kernel
theorem dX9_blocked_54 : decode cX9_blocked 54 = .ok (.iload_n 2, 1) := by decide +kernel
theorem dX9_blocked_55 : decode cX9_blocked 55 = .ok (.ifCond .lt 18, 3) := by decide +kernel
theorem dX9_blocked_58 : decode cX9_blocked 58 = .ok (.iload_n 2, 1) := by decide +kernel
theorem dX9_blocked_59 : decode cX9_blocked 59 = .ok (.aload_n 0, 1) := by decide +kernel
theorem dX9_blocked_60 : decode cX9_blocked 60 = .ok (.getfield 71, 3) := by decide +kernel
theorem dX9_blocked_63 : decode cX9_blocked 63 = .ok (.getfield 184, 3) := by decide +kernel
theorem dX9_blocked_66 : decode cX9_blocked 66 = .ok (.if_icmp .ge 7, 3) := by decide +kernel
theorem dX9_blocked_69 : decode cX9_blocked 69 = .ok (.iconst 1, 1) := by decide +kernel
theorem dX9_blocked_70 : decode cX9_blocked 70 = .ok (.goto 4, 3) := by decide +kernel
theorem dX9_blocked_73 : decode cX9_blocked 73 = .ok (.iconst 0, 1) := by decide +kernel
theorem dX9_blocked_74 : decode cX9_blocked 74 = .ok (.invokestatic 137, 3) := by decide +kernel
theorem dX9_blocked_77 : decode cX9_blocked 77 = .ok (.aload_n 0, 1) := by decide +kernel
theorem dX9_blocked_78 : decode cX9_blocked 78 = .ok (.getfield 71, 3) := by decide +kernel
theorem dX9_blocked_81 : decode cX9_blocked 81 = .ok (.getfield 188, 3) := by decide +kernel
theorem dX9_blocked_84 : decode cX9_blocked 84 = .ok (.iload_n 2, 1) := by decide +kernel
theorem dX9_blocked_85 : decode cX9_blocked 85 = .ok (.aaload, 1) := by decide +kernel
theorem dX9_blocked_86 : decode cX9_blocked 86 = .ok (.iconst 0, 1) := by decide +kernel
theorem dX9_blocked_87 : decode cX9_blocked 87 = .ok (.iaload, 1) := by decide +kernel
theorem dX9_blocked_88 : decode cX9_blocked 88 = .ok (.ireturn, 1) := by decide +kernel
set_option maxHeartbeats 4000000 in
set_option maxRecDepth 100000 in
theorem c_MicRow_blocked (l : Launch) (G : fm_G) (N : Nat) (M : fm_M) (v1 : Int32) (v2 : Int32) (v3 : Int32) (r : Int32) (M' : fm_M) (hf : pMicRow_blocked N M v1 v2 v3 = some (r, M')) : fm_Met l yX9_blocked cX9_blocked 4 (some .int) { frames := 5, cells := 0, slots := 0, locals := 126 } shC G [.ref (G.2.1 0), .int v1, .int v2, .int v3] M (some (.int r)) M' := by
  refine fm_enter (by decide) (Nat.le_of_ble_eq_true rfl) ?_
  intro p e s m args below meth c ls C E hl
  have hl : lv_has ls 4 [(0, .ref (G.2.1 0)), (1, .int v1), (2, .int v2), (3, .int v3)] := hl
  have J74 : ∀ (M : fm_M) (v2 : Int32) (s0 : Int32) (H : Heap) (locs : List Loc) (ls : Array Slot), fm_Wd shC G M s H locs → lv_has ls 4 [(0, .ref (G.2.1 0)), (2, .int v2)] → pMicRow_blocked_J74 N M v2 s0 = some (r, M') → W p l e { frames := 5, cells := 0, slots := 0, locals := 126 } s m args below meth c H locs 0 0 (fm_Z below shC G args s (some (.int r)) M') (F0 m 74 ls [.int s0]) := by
    intro M v2 s0 H locs ls E hl hf
    unfold pMicRow_blocked_J74 at hf
    obtain ⟨x74, hc74, hf⟩ := fm_bd hf
    refine fm_callS C E [.int _] [] lm_X9_137 wk_X9_demand (c_MicRow_demand l G _ _  hc74) rfl hl.1 (by simp [Value.category]) ⟨⟨rfl, rfl⟩, by decide, by decide⟩ ⟨by decide, by decide⟩ dX9_blocked_74 rfl (fun H locs E => ?_)
    refine W.eq (g2 := F0 m 77 ls []) rfl ?_
    refine lv_aload_n C.1 C.2.1 dX9_blocked_77 rfl (lv_at hl 0 rfl) ?_
    refine fm_getr C E lf_X9_71 hC_0 rfl dX9_blocked_78 ?_
    refine fm_getr C E lf_X9_188 hC_181 rfl dX9_blocked_81 ?_
    refine lv_iload_n C.1 C.2.1 dX9_blocked_84 rfl (lv_at hl 1 rfl) ?_
    obtain ⟨q85, h85, k85, e85, hf⟩ := fm_ix_t tC_192 hf
    refine fm_aald C E hC_191 h85 (r := q85) (by rw [e85]; exact rC_192 _ (fm_in_lt h85)) dX9_blocked_85 ?_
    refine lv_iconst (v := 0) C.1 C.2.1 dX9_blocked_86 (by decide) ?_
    refine fm_ialdc C E 0 (by decide) k85 (by decide) dX9_blocked_87 ?_
    obtain ⟨rfl, rfl⟩ := fm_rt2 hf
    exact fm_iret C E rfl rfl dX9_blocked_88
  have J73 : ∀ (M : fm_M) (v2 : Int32) (H : Heap) (locs : List Loc) (ls : Array Slot), fm_Wd shC G M s H locs → lv_has ls 4 [(0, .ref (G.2.1 0)), (2, .int v2)] → pMicRow_blocked_J73 N M v2 = some (r, M') → W p l e { frames := 5, cells := 0, slots := 0, locals := 126 } s m args below meth c H locs 0 0 (fm_Z below shC G args s (some (.int r)) M') (F0 m 73 ls []) := by
    intro M v2 H locs ls E hl hf
    unfold pMicRow_blocked_J73 at hf
    refine lv_iconst (v := 0) C.1 C.2.1 dX9_blocked_73 (by decide) ?_
    exact J74 _ _ _ _ _ _ E (lv_sub hl [0, 1] rfl) hf
  have J19 : ∀ (M : fm_M) (v1 : Int32) (v2 : Int32) (v3 : Int32) (s0 : Int32) (H : Heap) (locs : List Loc) (ls : Array Slot), fm_Wd shC G M s H locs → lv_has ls 4 [(0, .ref (G.2.1 0)), (1, .int v1), (2, .int v2), (3, .int v3)] → pMicRow_blocked_J19 N M v1 v2 v3 s0 = some (r, M') → W p l e { frames := 5, cells := 0, slots := 0, locals := 126 } s m args below meth c H locs 0 0 (fm_Z below shC G args s (some (.int r)) M') (F0 m 19 ls [.int s0]) := by
    intro M v1 v2 v3 s0 H locs ls E hl hf
    unfold pMicRow_blocked_J19 at hf
    obtain ⟨x19, hc19, hf⟩ := fm_bd hf
    refine fm_callS C E [.int _] [] lm_X9_137 wk_X9_demand (c_MicRow_demand l G _ _  hc19) rfl hl.1 (by simp [Value.category]) ⟨⟨rfl, rfl⟩, by decide, by decide⟩ ⟨by decide, by decide⟩ dX9_blocked_19 rfl (fun H locs E => ?_)
    refine W.eq (g2 := F0 m 22 ls []) rfl ?_
    refine lv_aload_n C.1 C.2.1 dX9_blocked_22 rfl (lv_at hl 0 rfl) ?_
    refine fm_getr C E lf_X9_62 hC_0 rfl dX9_blocked_23 ?_
    refine lv_iconst (v := (-1)) C.1 C.2.1 dX9_blocked_26 (by decide) ?_
    obtain ⟨M27, hc27, hf⟩ := fm_bd hf
    refine fm_callV C E [.int _] [] lm_X9_150 wk_X3_listenTo (c_Ears_listenTo l G _ _ _ hc27) hC_178 rfl rfl rfl hl.1 (by simp [Value.category]) ⟨⟨rfl, rfl⟩, by decide, by decide⟩ ⟨by decide, by decide⟩ dX9_blocked_27 rfl (fun H locs E => ?_)
    refine W.eq (g2 := F0 m 30 ls []) rfl ?_
    refine lv_aload_n C.1 C.2.1 dX9_blocked_30 rfl (lv_at hl 0 rfl) ?_
    refine fm_getr C E lf_X9_71 hC_0 rfl dX9_blocked_31 ?_
    refine lv_iload_n C.1 C.2.1 dX9_blocked_34 rfl (lv_at hl 1 rfl) ?_
    refine lv_iload_n C.1 C.2.1 dX9_blocked_35 rfl (lv_at hl 3 rfl) ?_
    refine lv_iconst (v := 1) C.1 C.2.1 dX9_blocked_36 (by decide) ?_
    obtain ⟨M37, hc37, hf⟩ := fm_bd hf
    refine fm_callV C E [.int _, .int _, .int _] [] lm_X9_163 wk_X0_turnTo (c_Bench_turnTo l G N _ _ _ _ _ hc37) hC_181 rfl rfl rfl hl.1 (by simp [Value.category]) ⟨⟨rfl, rfl⟩, by decide, by decide⟩ ⟨by decide, by decide⟩ dX9_blocked_37 rfl (fun H locs E => ?_)
    refine W.eq (g2 := F0 m 40 ls []) rfl ?_
    refine lv_aload_n C.1 C.2.1 dX9_blocked_40 rfl (lv_at hl 0 rfl) ?_
    refine fm_getr C E lf_X9_71 hC_0 rfl dX9_blocked_41 ?_
    refine lv_aload_n C.1 C.2.1 dX9_blocked_44 rfl (lv_at hl 0 rfl) ?_
    refine fm_getr C E lf_X9_10 hC_0 rfl dX9_blocked_45 ?_
    obtain ⟨x48, hc48, hf⟩ := fm_bd hf
    refine fm_callV C E [] [.ref _] lm_X9_171 wk_X7_liveSet (c_Scene_liveSet l G N _ _  hc48) hC_1 rfl rfl rfl hl.1 (by simp [Value.category]) ⟨⟨rfl, rfl⟩, by decide, by decide⟩ ⟨by decide, by decide⟩ dX9_blocked_48 rfl (fun H locs E => ?_)
    refine W.eq (g2 := F0 m 51 ls (.int x48 :: [.ref _])) rfl ?_
    obtain ⟨M51, hc51, hf⟩ := fm_bd hf
    refine fm_callV C E [.int _] [] lm_X9_181 wk_X0_block (c_Bench_block l G N _ _ _ hc51) hC_181 rfl rfl rfl hl.1 (by simp [Value.category]) ⟨⟨rfl, rfl⟩, by decide, by decide⟩ ⟨by decide, by decide⟩ dX9_blocked_51 rfl (fun H locs E => ?_)
    refine W.eq (g2 := F0 m 54 ls []) rfl ?_
    refine lv_iload_n C.1 C.2.1 dX9_blocked_54 rfl (lv_at hl 2 rfl) ?_
    refine lv_if_lt (tgt := 73) C.1 C.2.1 dX9_blocked_55 (by decide) (fun hc55 => ?_) (fun hc55 => ?_)
    · have hf := fm_ip hf hc55
      exact J73 _ _ _ _ _ E (lv_sub hl [0, 2] rfl) hf
    · have hf := fm_in' hf hc55
      refine lv_iload_n C.1 C.2.1 dX9_blocked_58 rfl (lv_at hl 2 rfl) ?_
      refine lv_aload_n C.1 C.2.1 dX9_blocked_59 rfl (lv_at hl 0 rfl) ?_
      refine fm_getr C E lf_X9_71 hC_0 rfl dX9_blocked_60 ?_
      refine fm_geti C E lf_X9_184 hC_181 rfl dX9_blocked_63 ?_
      refine lv_icmp_ge (tgt := 73) C.1 C.2.1 dX9_blocked_66 (by decide) (fun hc66 => ?_) (fun hc66 => ?_)
      · have hf := fm_ip hf hc66
        exact J73 _ _ _ _ _ E (lv_sub hl [0, 2] rfl) hf
      · have hf := fm_in' hf hc66
        refine lv_iconst (v := 1) C.1 C.2.1 dX9_blocked_69 (by decide) ?_
        refine lv_goto (tgt := 74) C.1 C.2.1 dX9_blocked_70 (by decide) ?_
        exact J74 _ _ _ _ _ _ E (lv_sub hl [0, 2] rfl) hf
  have J18 : ∀ (M : fm_M) (v1 : Int32) (v2 : Int32) (v3 : Int32) (H : Heap) (locs : List Loc) (ls : Array Slot), fm_Wd shC G M s H locs → lv_has ls 4 [(0, .ref (G.2.1 0)), (1, .int v1), (2, .int v2), (3, .int v3)] → pMicRow_blocked_J18 N M v1 v2 v3 = some (r, M') → W p l e { frames := 5, cells := 0, slots := 0, locals := 126 } s m args below meth c H locs 0 0 (fm_Z below shC G args s (some (.int r)) M') (F0 m 18 ls []) := by
    intro M v1 v2 v3 H locs ls E hl hf
    unfold pMicRow_blocked_J18 at hf
    refine lv_iconst (v := 0) C.1 C.2.1 dX9_blocked_18 (by decide) ?_
    exact J19 _ _ _ _ _ _ _ _ E (lv_sub hl [0, 1, 2, 3] rfl) hf
  unfold pMicRow_blocked at hf
  refine lv_iload_n C.1 C.2.1 dX9_blocked_0 rfl (lv_at hl 1 rfl) ?_
  obtain ⟨x1, hc1, hf⟩ := fm_bd hf
  refine fm_callS C E [.int _] [] lm_X9_157 wk_X9_isDirection (c_MicRow_isDirection l G _ _ _  hc1) rfl hl.1 (by simp [Value.category]) ⟨⟨rfl, rfl⟩, by decide, by decide⟩ ⟨by decide, by decide⟩ dX9_blocked_1 rfl (fun H locs E => ?_)
  refine W.eq (g2 := F0 m 4 ls (.int x1 :: [])) rfl ?_
  refine lv_if_eq (tgt := 18) C.1 C.2.1 dX9_blocked_4 (by decide) (fun hc4 => ?_) (fun hc4 => ?_)
  · have hf := fm_ip hf hc4
    exact J18 _ _ _ _ _ _ _ E (lv_sub hl [0, 1, 2, 3] rfl) hf
  · have hf := fm_in' hf hc4
    refine lv_iload_n C.1 C.2.1 dX9_blocked_7 rfl (lv_at hl 3 rfl) ?_
    obtain ⟨x8, hc8, hf⟩ := fm_bd hf
    refine fm_callS C E [.int _] [] lm_X9_160 wk_X9_isTurnedTime (c_MicRow_isTurnedTime l G _ _ _  hc8) rfl hl.1 (by simp [Value.category]) ⟨⟨rfl, rfl⟩, by decide, by decide⟩ ⟨by decide, by decide⟩ dX9_blocked_8 rfl (fun H locs E => ?_)
    refine W.eq (g2 := F0 m 11 ls (.int x8 :: [])) rfl ?_
    refine lv_if_eq (tgt := 18) C.1 C.2.1 dX9_blocked_11 (by decide) (fun hc11 => ?_) (fun hc11 => ?_)
    · have hf := fm_ip hf hc11
      exact J18 _ _ _ _ _ _ _ E (lv_sub hl [0, 1, 2, 3] rfl) hf
    · have hf := fm_in' hf hc11
      refine lv_iconst (v := 1) C.1 C.2.1 dX9_blocked_14 (by decide) ?_
      refine lv_goto (tgt := 19) C.1 C.2.1 dX9_blocked_15 (by decide) ?_
      exact J19 _ _ _ _ _ _ _ _ E (lv_sub hl [0, 1, 2, 3] rfl) hf
