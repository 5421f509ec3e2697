theorem dX9_best_0 : decode cX9_best 0 = .ok (.iload_n 1, 1) := by decide +kernel
theorem dX9_best_1 : decode cX9_best 1 = .ok (.iconst 1, 1) := by decide +kernel
theorem dX9_best_2 : decode cX9_best 2 = .ok (.bipush 6, 2) := by decide +kernel
theorem dX9_best_4 : decode cX9_best 4 = .ok (.invokestatic 112, 3) := by decide +kernel
theorem dX9_best_7 : decode cX9_best 7 = .ok (.ifCond .eq 10, 3) := by decide +kernel
theorem dX9_best_10 : decode cX9_best 10 = .ok (.iload_n 2, 1) := by decide +kernel
theorem dX9_best_11 : decode cX9_best 11 = .ok (.invokestatic 157, 3) := by decide +kernel
theorem dX9_best_14 : decode cX9_best 14 = .ok (.ifCond .ne 5, 3) := by decide +kernel
theorem dX9_best_17 : decode cX9_best 17 = .ok (.iconst (-1), 1) := by decide +kernel
theorem dX9_best_18 : decode cX9_best 18 = .ok (.ireturn, 1) := by decide +kernel
theorem dX9_best_19 : decode cX9_best 19 = .ok (.aload_n 0, 1) := by decide +kernel
theorem dX9_best_20 : decode cX9_best 20 = .ok (.getfield 10, 3) := by decide +kernel
theorem dX9_best_23 : decode cX9_best 23 = .ok (.getfield 284, 3) := by decide +kernel
theorem dX9_best_26 : decode cX9_best 26 = .ok (.iload_n 1, 1) := by decide +kernel
theorem dX9_best_27 : decode cX9_best 27 = .ok (.if_icmp .ge 6, 3) := by decide +kernel
theorem dX9_best_30 : decode cX9_best 30 = .ok (.bipush (-2), 2) := by decide +kernel
theorem dX9_best_32 : decode cX9_best 32 = .ok (.ireturn, 1) := by decide +kernel
theorem dX9_best_33 : decode cX9_best 33 = .ok (.aload_n 0, 1) := by decide +kernel
theorem dX9_best_34 : decode cX9_best 34 = .ok (.getfield 62, 3) := by decide +kernel
theorem dX9_best_37 : decode cX9_best 37 = .ok (.iconst (-1), 1) := by decide +kernel
theorem dX9_best_38 : decode cX9_best 38 = .ok (.invokevirtual 150, 3) := by decide +kernel
theorem dX9_best_41 : decode cX9_best 41 = .ok (.aload_n 0, 1) := by decide +kernel
theorem dX9_best_42 : decode cX9_best 42 = .ok (.iload_n 2, 1) := by decide +kernel
theorem dX9_best_43 : decode cX9_best 43 = .ok (.invokevirtual 256, 3) := by decide +kernel
theorem dX9_best_46 : decode cX9_best 46 = .ok (.iconst (-1), 1) := by decide +kernel
theorem dX9_best_47 : decode cX9_best 47 = .ok (.istore_n 3, 1) := by decide +kernel
theorem dX9_best_48 : decode cX9_best 48 = .ok (.lconst 0, 1) := by decide +kernel
theorem dX9_best_49 : decode cX9_best 49 = .ok (.lstore 4, 2) := by decide +kernel
theorem dX9_best_51 : decode cX9_best 51 = .ok (.iconst 1, 1) := by decide +kernel
theorem dX9_best_52 : decode cX9_best 52 = .ok (.istore 6, 2) := by decide +kernel
theorem dX9_best_54 : decode cX9_best 54 = .ok (.iload 6, 2) := by decide +kernel
theorem dX9_best_56 : decode cX9_best 56 = .ok (.iconst 1, 1) := by decide +kernel
theorem dX9_best_57 : decode cX9_best 57 = .ok (.aload_n 0, 1) := by decide +kernel
theorem dX9_best_58 : decode cX9_best 58 = .ok (.getfield 10, 3) := by decide +kernel
theorem dX9_best_61 : decode cX9_best 61 = .ok (.getfield 284, 3) := by decide +kernel
theorem dX9_best_64 : decode cX9_best 64 = .ok (.ishl, 1) := by decide +kernel
theorem dX9_best_65 : decode cX9_best 65 = .ok (.if_icmp .ge 49, 3) := by decide +kernel
theorem dX9_best_68 : decode cX9_best 68 = .ok (.iload 6, 2) := by decide +kernel
theorem dX9_best_70 : decode cX9_best 70 = .ok (.invokestatic 303, 3) := by decide +kernel
theorem dX9_best_73 : decode cX9_best 73 = .ok (.iload_n 1, 1) := by decide +kernel
theorem dX9_best_74 : decode cX9_best 74 = .ok (.if_icmp .eq 6, 3) := by decide +kernel
theorem dX9_best_77 : decode cX9_best 77 = .ok (.goto 31, 3) := by decide +kernel
theorem dX9_best_80 : decode cX9_best 80 = .ok (.aload_n 0, 1) := by decide +kernel
theorem dX9_best_81 : decode cX9_best 81 = .ok (.iload 6, 2) := by decide +kernel
theorem dX9_best_83 : decode cX9_best 83 = .ok (.invokevirtual 300, 3) := by decide +kernel
theorem dX9_best_86 : decode cX9_best 86 = .ok (.lstore 7, 2) := by decide +kernel
theorem dX9_best_88 : decode cX9_best 88 = .ok (.iload_n 3, 1) := by decide +kernel
theorem dX9_best_89 : decode cX9_best 89 = .ok (.iconst (-1), 1) := by decide +kernel
theorem dX9_best_90 : decode cX9_best 90 = .ok (.if_icmp .eq 11, 3) := by decide +kernel
theorem dX9_best_93 : decode cX9_best 93 = .ok (.lload 7, 2) := by decide +kernel
theorem dX9_best_95 : decode cX9_best 95 = .ok (.lload 4, 2) := by decide +kernel
theorem dX9_best_97 : decode cX9_best 97 = .ok (.lcmp, 1) := by decide +kernel
theorem dX9_best_98 : decode cX9_best 98 = .ok (.ifCond .ge 10, 3) := by decide +kernel
theorem dX9_best_101 : decode cX9_best 101 = .ok (.lload 7, 2) := by decide +kernel
theorem dX9_best_103 : decode cX9_best 103 = .ok (.lstore 4, 2) := by decide +kernel
theorem dX9_best_105 : decode cX9_best 105 = .ok (.iload 6, 2) := by decide +kernel
theorem dX9_best_107 : decode cX9_best 107 = .ok (.istore_n 3, 1) := by decide +kernel
theorem dX9_best_108 : decode cX9_best 108 = .ok (.iinc 6 1, 3) := by decide +kernel
theorem dX9_best_111 : decode cX9_best 111 = .ok (.goto (-57), 3) := by decide +kernel
theorem dX9_best_114 : decode cX9_best 114 = .ok (.aload_n 0, 1) := by decide +kernel
theorem dX9_best_115 : decode cX9_best 115 = .ok (.getfield 53, 3) := by decide +kernel
theorem dX9_best_118 : decode cX9_best 118 = .ok (.invokevirtual 225, 3) := by decide +kernel
theorem dX9_best_121 : decode cX9_best 121 = .ok (.aload_n 0, 1) := by decide +kernel
theorem dX9_best_122 : decode cX9_best 122 = .ok (.getfield 53, 3) := by decide +kernel
theorem dX9_best_125 : decode cX9_best 125 = .ok (.lload 4, 2) := by decide +kernel
theorem dX9_best_127 : decode cX9_best 127 = .ok (.invokevirtual 232, 3) := by decide +kernel
theorem dX9_best_130 : decode cX9_best 130 = .ok (.iload_n 3, 1) := by decide +kernel
theorem dX9_best_131 : decode cX9_best 131 = .ok (.ireturn, 1) := by decide +kernel
set_option maxHeartbeats 4000000 in
set_option maxRecDepth 100000 in
theorem c_MicRow_best (l : Launch) (G : fm_G) (N : Nat) (M : fm_M) (v1 : Int32) (v2 : Int32) (r : Int32) (M' : fm_M) (hf : pMicRow_best N M v1 v2 = some (r, M')) : fm_Met l yX9_best cX9_best 9 (some .int) { frames := 6, cells := 0, slots := 0, locals := 147 } shC G [.ref (G.2.1 0), .int v1, .int v2] M (some (.int r)) M' := by
  refine fm_enter (by decide) (Nat.le_of_ble_eq_true rfl) ?_
  intro p e s m args below meth c ls C E hl
  have hl : lv_has ls 9 [(0, .ref (G.2.1 0)), (1, .int v1), (2, .int v2)] := hl
  have L54 : ∀ (w54_v1 : Int32) (n54 : Nat) (v3 : Int32) (v4 : Int64) (v6 : Int32) (M : fm_M) (H : Heap) (locs : List Loc) (ls : Array Slot), fm_Wd shC G M s H locs → lv_has ls 9 [(0, .ref (G.2.1 0)), (1, .int w54_v1), (3, .int v3), (4, .long v4), (6, .int v6)] → fm_lp (pMicRow_best_L54 N w54_v1) n54 (v3, v4, v6, M) = some (r, M') → W p l e { frames := 6, cells := 0, slots := 0, locals := 147 } s m args below meth c H locs 0 0 (fm_Z below shC G args s (some (.int r)) M') (F0 m 54 ls []) := by
    intro w54_v1 n54
    induction n54 with
    | zero => intro v3 v4 v6 M H locs ls E hl hf; exact fm_lp_0 hf
    | succ n54 ih54 =>
      intro v3 v4 v6 M H locs ls E hl hf
      have hf : pMicRow_best_L54b N w54_v1 (fm_lp (pMicRow_best_L54 N w54_v1) n54) v3 v4 v6 M = some (r, M') := hf
      unfold pMicRow_best_L54b at hf
      refine lv_iload C.1 C.2.1 dX9_best_54 (lv_at hl 4 rfl) ?_
      refine lv_iconst (v := 1) C.1 C.2.1 dX9_best_56 (by decide) ?_
      refine lv_aload_n C.1 C.2.1 dX9_best_57 rfl (lv_at hl 0 rfl) ?_
      refine fm_getr C E lf_X9_10 hC_0 rfl dX9_best_58 ?_
      refine fm_geti C E lf_X9_284 hC_1 rfl dX9_best_61 ?_
      refine lv_ishl C.1 C.2.1 dX9_best_64 ?_
      refine lv_icmp_ge (tgt := 114) C.1 C.2.1 dX9_best_65 (by decide) (fun hc65 => ?_) (fun hc65 => ?_)
      · have hf := fm_ip hf hc65
        refine lv_aload_n C.1 C.2.1 dX9_best_114 rfl (lv_at hl 0 rfl) ?_
        refine fm_getr C E lf_X9_53 hC_0 rfl dX9_best_115 ?_
        obtain ⟨M118, hc118, hf⟩ := fm_bd hf
        refine fm_callV C E [] [] lm_X9_225 wk_X8_clear (c_Told_clear l G _ _ hc118) hC_176 rfl rfl rfl hl.1 (by simp [Value.category]) ⟨⟨rfl, rfl⟩, by decide, by decide⟩ ⟨by decide, by decide⟩ dX9_best_118 rfl (fun H locs E => ?_)
        refine W.eq (g2 := F0 m 121 ls []) rfl ?_
        refine lv_aload_n C.1 C.2.1 dX9_best_121 rfl (lv_at hl 0 rfl) ?_
        refine fm_getr C E lf_X9_53 hC_0 rfl dX9_best_122 ?_
        refine lv_lload C.1 C.2.1 dX9_best_125 (lv_at hl 3 rfl) ?_
        obtain ⟨M127, hc127, hf⟩ := fm_bd hf
        refine fm_callV C E [.long _] [] lm_X9_232 wk_X8_add (c_Told_add l G _ _ _ hc127) hC_176 rfl rfl rfl hl.1 (by simp [Value.category]) ⟨⟨rfl, rfl⟩, by decide, by decide⟩ ⟨by decide, by decide⟩ dX9_best_127 rfl (fun H locs E => ?_)
        refine W.eq (g2 := F0 m 130 ls []) rfl ?_
        refine lv_iload_n C.1 C.2.1 dX9_best_130 rfl (lv_at hl 2 rfl) ?_
        obtain ⟨rfl, rfl⟩ := fm_rt2 hf
        exact fm_iret C E rfl rfl dX9_best_131
      · have hf := fm_in' hf hc65
        refine lv_iload C.1 C.2.1 dX9_best_68 (lv_at hl 4 rfl) ?_
        obtain ⟨x70, hc70, hf⟩ := fm_bd hf
        refine fm_callS C E [.int _] [] lm_X9_303 wk_J6_bitCount_0f7a4 (c_Integer_bitCount l G _ _ _  hc70) rfl hl.1 (by simp [Value.category]) ⟨⟨rfl, rfl⟩, by decide, by decide⟩ ⟨by decide, by decide⟩ dX9_best_70 rfl (fun H locs E => ?_)
        refine W.eq (g2 := F0 m 73 ls (.int x70 :: [])) rfl ?_
        refine lv_iload_n C.1 C.2.1 dX9_best_73 rfl (lv_at hl 1 rfl) ?_
        refine lv_icmp_eq (tgt := 80) C.1 C.2.1 dX9_best_74 (by decide) (fun hc74 => ?_) (fun hc74 => ?_)
        · have hf := fm_ip hf hc74
          refine lv_aload_n C.1 C.2.1 dX9_best_80 rfl (lv_at hl 0 rfl) ?_
          refine lv_iload C.1 C.2.1 dX9_best_81 (lv_at hl 4 rfl) ?_
          obtain ⟨⟨x83, M83⟩, hc83, hf⟩ := fm_bd hf
          dsimp only at hf
          refine fm_callV C E [.int _] [] lm_X9_300 wk_X9_mixedPower (c_MicRow_mixedPower l G N _ _ _ _ hc83) hC_0 rfl rfl rfl hl.1 (by simp [Value.category]) ⟨⟨rfl, rfl⟩, by decide, by decide⟩ ⟨by decide, by decide⟩ dX9_best_83 rfl (fun H locs E => ?_)
          refine W.eq (g2 := F0 m 86 ls (.long x83 :: [])) rfl ?_
          refine lv_lstore (lv' := [(7, .long _), (0, .ref _), (1, .int _), (3, .int _), (4, .long _), (6, .int _)]) C.1 C.2.1 dX9_best_86 hl (by decide) rfl (fun ls hl => ?_)
          refine lv_iload_n C.1 C.2.1 dX9_best_88 rfl (lv_at hl 3 rfl) ?_
          refine lv_iconst (v := (-1)) C.1 C.2.1 dX9_best_89 (by decide) ?_
          refine lv_icmp_eq (tgt := 101) C.1 C.2.1 dX9_best_90 (by decide) (fun hc90 => ?_) (fun hc90 => ?_)
          · have hf := fm_ip hf hc90
            refine lv_lload C.1 C.2.1 dX9_best_101 (lv_at hl 0 rfl) ?_
            refine lv_lstore (lv' := [(4, .long _), (7, .long _), (0, .ref _), (1, .int _), (3, .int _), (6, .int _)]) C.1 C.2.1 dX9_best_103 hl (by decide) rfl (fun ls hl => ?_)
            refine lv_iload C.1 C.2.1 dX9_best_105 (lv_at hl 5 rfl) ?_
            refine lv_istore_n (lv' := [(3, .int _), (4, .long _), (7, .long _), (0, .ref _), (1, .int _), (6, .int _)]) C.1 C.2.1 dX9_best_107 rfl hl (by decide) rfl (fun ls hl => ?_)
            refine fm_iinc C (v := 1) (lv' := [(6, .int _), (3, .int _), (4, .long _), (7, .long _), (0, .ref _), (1, .int _)]) (k := 5) hl rfl (by decide) (by decide) rfl dX9_best_108 (fun ls hl => ?_)
            refine lv_goto (tgt := 54) C.1 C.2.1 dX9_best_111 (by decide) ?_
            exact ih54 _ _ _ _ _ _ _ E (lv_sub hl [4, 5, 1, 2, 0] rfl) hf
          · have hf := fm_in' hf hc90
            refine lv_lload C.1 C.2.1 dX9_best_93 (lv_at hl 0 rfl) ?_
            refine lv_lload C.1 C.2.1 dX9_best_95 (lv_at hl 4 rfl) ?_
            refine W.lcmp C.1 C.2.1 dX9_best_97 ?_
            refine lv_if_ge (tgt := 108) C.1 C.2.1 dX9_best_98 (by decide) (fun hc98 => ?_) (fun hc98 => ?_)
            · have hf := fm_ip hf hc98
              refine fm_iinc C (v := 1) (lv' := [(6, .int _), (7, .long _), (0, .ref _), (1, .int _), (3, .int _), (4, .long _)]) (k := 5) hl rfl (by decide) (by decide) rfl dX9_best_108 (fun ls hl => ?_)
              refine lv_goto (tgt := 54) C.1 C.2.1 dX9_best_111 (by decide) ?_
              exact ih54 _ _ _ _ _ _ _ E (lv_sub hl [2, 3, 4, 5, 0] rfl) hf
            · have hf := fm_in' hf hc98
              refine lv_lload C.1 C.2.1 dX9_best_101 (lv_at hl 0 rfl) ?_
              refine lv_lstore (lv' := [(4, .long _), (7, .long _), (0, .ref _), (1, .int _), (3, .int _), (6, .int _)]) C.1 C.2.1 dX9_best_103 hl (by decide) rfl (fun ls hl => ?_)
              refine lv_iload C.1 C.2.1 dX9_best_105 (lv_at hl 5 rfl) ?_
              refine lv_istore_n (lv' := [(3, .int _), (4, .long _), (7, .long _), (0, .ref _), (1, .int _), (6, .int _)]) C.1 C.2.1 dX9_best_107 rfl hl (by decide) rfl (fun ls hl => ?_)
              refine fm_iinc C (v := 1) (lv' := [(6, .int _), (3, .int _), (4, .long _), (7, .long _), (0, .ref _), (1, .int _)]) (k := 5) hl rfl (by decide) (by decide) rfl dX9_best_108 (fun ls hl => ?_)
              refine lv_goto (tgt := 54) C.1 C.2.1 dX9_best_111 (by decide) ?_
              exact ih54 _ _ _ _ _ _ _ E (lv_sub hl [4, 5, 1, 2, 0] rfl) hf
        · have hf := fm_in' hf hc74
          refine lv_goto (tgt := 108) C.1 C.2.1 dX9_best_77 (by decide) ?_
          refine fm_iinc C (v := 1) (lv' := [(6, .int _), (0, .ref _), (1, .int _), (3, .int _), (4, .long _)]) (k := 4) hl rfl (by decide) (by decide) rfl dX9_best_108 (fun ls hl => ?_)
          refine lv_goto (tgt := 54) C.1 C.2.1 dX9_best_111 (by decide) ?_
          exact ih54 _ _ _ _ _ _ _ E (lv_sub hl [1, 2, 3, 4, 0] rfl) hf
  unfold pMicRow_best at hf
  refine lv_iload_n C.1 C.2.1 dX9_best_0 rfl (lv_at hl 1 rfl) ?_
  refine lv_iconst (v := 1) C.1 C.2.1 dX9_best_1 (by decide) ?_
  refine lv_bipush (v := 6) C.1 C.2.1 dX9_best_2 (by decide) ?_
  obtain ⟨x4, hc4, hf⟩ := fm_bd hf
  refine fm_callS C E [.int _, .int _, .int _] [] lm_X9_112 wk_X9_within (c_MicRow_within l G _ _ _ _ _  hc4) rfl hl.1 (by simp [Value.category]) ⟨⟨rfl, rfl⟩, by decide, by decide⟩ ⟨by decide, by decide⟩ dX9_best_4 rfl (fun H locs E => ?_)
  refine W.eq (g2 := F0 m 7 ls (.int x4 :: [])) rfl ?_
  refine lv_if_eq (tgt := 17) C.1 C.2.1 dX9_best_7 (by decide) (fun hc7 => ?_) (fun hc7 => ?_)
  · have hf := fm_ip hf hc7
    refine lv_iconst (v := (-1)) C.1 C.2.1 dX9_best_17 (by decide) ?_
    obtain ⟨rfl, rfl⟩ := fm_rt2 hf
    exact fm_iret C E rfl rfl dX9_best_18
  · have hf := fm_in' hf hc7
    refine lv_iload_n C.1 C.2.1 dX9_best_10 rfl (lv_at hl 2 rfl) ?_
    obtain ⟨x11, hc11, hf⟩ := fm_bd hf
    refine fm_callS C E [.int _] [] lm_X9_157 wk_X9_isDirection (c_MicRow_isDirection l G _ _ _  hc11) rfl hl.1 (by simp [Value.category]) ⟨⟨rfl, rfl⟩, by decide, by decide⟩ ⟨by decide, by decide⟩ dX9_best_11 rfl (fun H locs E => ?_)
    refine W.eq (g2 := F0 m 14 ls (.int x11 :: [])) rfl ?_
    refine lv_if_ne (tgt := 19) C.1 C.2.1 dX9_best_14 (by decide) (fun hc14 => ?_) (fun hc14 => ?_)
    · have hf := fm_in' hf hc14
      refine lv_aload_n C.1 C.2.1 dX9_best_19 rfl (lv_at hl 0 rfl) ?_
      refine fm_getr C E lf_X9_10 hC_0 rfl dX9_best_20 ?_
      refine fm_geti C E lf_X9_284 hC_1 rfl dX9_best_23 ?_
      refine lv_iload_n C.1 C.2.1 dX9_best_26 rfl (lv_at hl 1 rfl) ?_
      refine lv_icmp_ge (tgt := 33) C.1 C.2.1 dX9_best_27 (by decide) (fun hc27 => ?_) (fun hc27 => ?_)
      · have hf := fm_ip hf hc27
        refine lv_aload_n C.1 C.2.1 dX9_best_33 rfl (lv_at hl 0 rfl) ?_
        refine fm_getr C E lf_X9_62 hC_0 rfl dX9_best_34 ?_
        refine lv_iconst (v := (-1)) C.1 C.2.1 dX9_best_37 (by decide) ?_
        obtain ⟨M38, hc38, hf⟩ := fm_bd hf
        refine fm_callV C E [.int _] [] lm_X9_150 wk_X3_listenTo (c_Ears_listenTo l G _ _ _ hc38) hC_178 rfl rfl rfl hl.1 (by simp [Value.category]) ⟨⟨rfl, rfl⟩, by decide, by decide⟩ ⟨by decide, by decide⟩ dX9_best_38 rfl (fun H locs E => ?_)
        refine W.eq (g2 := F0 m 41 ls []) rfl ?_
        refine lv_aload_n C.1 C.2.1 dX9_best_41 rfl (lv_at hl 0 rfl) ?_
        refine lv_iload_n C.1 C.2.1 dX9_best_42 rfl (lv_at hl 2 rfl) ?_
        obtain ⟨M43, hc43, hf⟩ := fm_bd hf
        refine fm_callV C E [.int _] [] lm_X9_256 wk_X9_turnOverSpan (c_MicRow_turnOverSpan l G N _ _ _ hc43) hC_0 rfl rfl rfl hl.1 (by simp [Value.category]) ⟨⟨rfl, rfl⟩, by decide, by decide⟩ ⟨by decide, by decide⟩ dX9_best_43 rfl (fun H locs E => ?_)
        refine W.eq (g2 := F0 m 46 ls []) rfl ?_
        refine lv_iconst (v := (-1)) C.1 C.2.1 dX9_best_46 (by decide) ?_
        refine lv_istore_n (lv' := [(3, .int _), (0, .ref _), (1, .int _), (2, .int _)]) C.1 C.2.1 dX9_best_47 rfl hl (by decide) rfl (fun ls hl => ?_)
        refine lv_lconst (v := 0) C.1 C.2.1 dX9_best_48 (by decide) ?_
        refine lv_lstore (lv' := [(4, .long _), (3, .int _), (0, .ref _), (1, .int _), (2, .int _)]) C.1 C.2.1 dX9_best_49 hl (by decide) rfl (fun ls hl => ?_)
        refine lv_iconst (v := 1) C.1 C.2.1 dX9_best_51 (by decide) ?_
        refine lv_istore (lv' := [(6, .int _), (4, .long _), (3, .int _), (0, .ref _), (1, .int _), (2, .int _)]) C.1 C.2.1 dX9_best_52 hl (by decide) rfl (fun ls hl => ?_)
        exact L54 _ N _ _ _ _ _ _ _ E (lv_sub hl [3, 4, 2, 1, 0] rfl) hf
      · have hf := fm_in' hf hc27
        refine lv_bipush (v := (-2)) C.1 C.2.1 dX9_best_30 (by decide) ?_
        obtain ⟨rfl, rfl⟩ := fm_rt2 hf
        exact fm_iret C E rfl rfl dX9_best_32
    · have hf := fm_ip hf hc14
      refine lv_iconst (v := (-1)) C.1 C.2.1 dX9_best_17 (by decide) ?_
      obtain ⟨rfl, rfl⟩ := fm_rt2 hf
      exact fm_iret C E rfl rfl dX9_best_18
theorem dX9_masks_0 : decode cX9_masks 0 = .ok (.iload_n 1, 1) := by decide +kernel
theorem dX9_masks_1 : decode cX9_masks 1 = .ok (.invokestatic 157, 3) := by decide +kernel
theorem dX9_masks_4 : decode cX9_masks 4 = .ok (.ifCond .ne 5, 3) := by decide +kernel
theorem dX9_masks_7 : decode cX9_masks 7 = .ok (.iconst (-1), 1) := by decide +kernel
theorem dX9_masks_8 : decode cX9_masks 8 = .ok (.ireturn, 1) := by decide +kernel
theorem dX9_masks_9 : decode cX9_masks 9 = .ok (.aload_n 0, 1) := by decide +kernel
theorem dX9_masks_10 : decode cX9_masks 10 = .ok (.getfield 10, 3) := by decide +kernel
theorem dX9_masks_13 : decode cX9_masks 13 = .ok (.getfield 278, 3) := by decide +kernel
theorem dX9_masks_16 : decode cX9_masks 16 = .ok (.ifCond .ne 6, 3) := by decide +kernel
theorem dX9_masks_19 : decode cX9_masks 19 = .ok (.bipush (-2), 2) := by decide +kernel
theorem dX9_masks_21 : decode cX9_masks 21 = .ok (.ireturn, 1) := by decide +kernel
theorem dX9_masks_22 : decode cX9_masks 22 = .ok (.iconst (-1), 1) := by decide +kernel
theorem dX9_masks_23 : decode cX9_masks 23 = .ok (.istore_n 2, 1) := by decide +kernel
theorem dX9_masks_24 : decode cX9_masks 24 = .ok (.lconst 0, 1) := by decide +kernel
theorem dX9_masks_25 : decode cX9_masks 25 = .ok (.lstore_n 3, 1) := by decide +kernel
theorem dX9_masks_26 : decode cX9_masks 26 = .ok (.iconst 0, 1) := by decide +kernel
theorem dX9_masks_27 : decode cX9_masks 27 = .ok (.istore 5, 2) := by decide +kernel
theorem dX9_masks_29 : decode cX9_masks 29 = .ok (.iload 5, 2) := by decide +kernel
theorem dX9_masks_31 : decode cX9_masks 31 = .ok (.aload_n 0, 1) := by decide +kernel
theorem dX9_masks_32 : decode cX9_masks 32 = .ok (.getfield 10, 3) := by decide +kernel
theorem dX9_masks_35 : decode cX9_masks 35 = .ok (.getfield 278, 3) := by decide +kernel
theorem dX9_masks_38 : decode cX9_masks 38 = .ok (.if_icmp .ge 47, 3) := by decide +kernel
theorem dX9_masks_41 : decode cX9_masks 41 = .ok (.aload_n 0, 1) := by decide +kernel
theorem dX9_masks_42 : decode cX9_masks 42 = .ok (.getfield 62, 3) := by decide +kernel
theorem dX9_masks_45 : decode cX9_masks 45 = .ok (.iconst 1, 1) := by decide +kernel
theorem dX9_masks_46 : decode cX9_masks 46 = .ok (.iload 5, 2) := by decide +kernel
theorem dX9_masks_48 : decode cX9_masks 48 = .ok (.ishl, 1) := by decide +kernel
theorem dX9_masks_49 : decode cX9_masks 49 = .ok (.iconst (-1), 1) := by decide +kernel
theorem dX9_masks_50 : decode cX9_masks 50 = .ok (.ixor, 1) := by decide +kernel
theorem dX9_masks_51 : decode cX9_masks 51 = .ok (.invokevirtual 150, 3) := by decide +kernel
theorem dX9_masks_54 : decode cX9_masks 54 = .ok (.aload_n 0, 1) := by decide +kernel
theorem dX9_masks_55 : decode cX9_masks 55 = .ok (.iload_n 1, 1) := by decide +kernel
theorem dX9_masks_56 : decode cX9_masks 56 = .ok (.invokevirtual 248, 3) := by decide +kernel
theorem dX9_masks_59 : decode cX9_masks 59 = .ok (.lstore 6, 2) := by decide +kernel
theorem dX9_masks_61 : decode cX9_masks 61 = .ok (.iload_n 2, 1) := by decide +kernel
theorem dX9_masks_62 : decode cX9_masks 62 = .ok (.iconst (-1), 1) := by decide +kernel
theorem dX9_masks_63 : decode cX9_masks 63 = .ok (.if_icmp .eq 10, 3) := by decide +kernel
theorem dX9_masks_66 : decode cX9_masks 66 = .ok (.lload 6, 2) := by decide +kernel
theorem dX9_masks_68 : decode cX9_masks 68 = .ok (.lload_n 3, 1) := by decide +kernel
theorem dX9_masks_69 : decode cX9_masks 69 = .ok (.lcmp, 1) := by decide +kernel
theorem dX9_masks_70 : decode cX9_masks 70 = .ok (.ifCond .ge 9, 3) := by decide +kernel
theorem dX9_masks_73 : decode cX9_masks 73 = .ok (.lload 6, 2) := by decide +kernel
theorem dX9_masks_75 : decode cX9_masks 75 = .ok (.lstore_n 3, 1) := by decide +kernel
theorem dX9_masks_76 : decode cX9_masks 76 = .ok (.iload 5, 2) := by decide +kernel
theorem dX9_masks_78 : decode cX9_masks 78 = .ok (.istore_n 2, 1) := by decide +kernel
theorem dX9_masks_79 : decode cX9_masks 79 = .ok (.iinc 5 1, 3) := by decide +kernel
theorem dX9_masks_82 : decode cX9_masks 82 = .ok (.goto (-53), 3) := by decide +kernel
theorem dX9_masks_85 : decode cX9_masks 85 = .ok (.aload_n 0, 1) := by decide +kernel
theorem dX9_masks_86 : decode cX9_masks 86 = .ok (.getfield 53, 3) := by decide +kernel
theorem dX9_masks_89 : decode cX9_masks 89 = .ok (.invokevirtual 225, 3) := by decide +kernel
theorem dX9_masks_92 : decode cX9_masks 92 = .ok (.aload_n 0, 1) := by decide +kernel
theorem dX9_masks_93 : decode cX9_masks 93 = .ok (.getfield 53, 3) := by decide +kernel
theorem dX9_masks_96 : decode cX9_masks 96 = .ok (.lload_n 3, 1) := by decide +kernel
theorem dX9_masks_97 : decode cX9_masks 97 = .ok (.invokevirtual 232, 3) := by decide +kernel
theorem dX9_masks_100 : decode cX9_masks 100 = .ok (.iload_n 2, 1) := by decide +kernel
theorem dX9_masks_101 : decode cX9_masks 101 = .ok (.ireturn, 1) := by decide +kernel
set_option maxHeartbeats 4000000 in
set_option maxRecDepth 100000 in
theorem c_MicRow_masks (l : Launch) (G : fm_G) (N : Nat) (M : fm_M) (v1 : Int32) (r : Int32) (M' : fm_M) (hf : pMicRow_masks N M v1 = some (r, M')) : fm_Met l yX9_masks cX9_masks 8 (some .int) { frames := 7, cells := 0, slots := 0, locals := 168 } shC G [.ref (G.2.1 0), .int v1] M (some (.int r)) M' := by
  refine fm_enter (by decide) (Nat.le_of_ble_eq_true rfl) ?_
  intro p e s m args below meth c ls C E hl
  have hl : lv_has ls 8 [(0, .ref (G.2.1 0)), (1, .int v1)] := hl
  have L29 : ∀ (w29_v1 : Int32) (n29 : Nat) (v2 : Int32) (v3 : Int64) (v5 : Int32) (M : fm_M) (H : Heap) (locs : List Loc) (ls : Array Slot), fm_Wd shC G M s H locs → lv_has ls 8 [(0, .ref (G.2.1 0)), (1, .int w29_v1), (2, .int v2), (3, .long v3), (5, .int v5)] → fm_lp (pMicRow_masks_L29 N w29_v1) n29 (v2, v3, v5, M) = some (r, M') → W p l e { frames := 7, cells := 0, slots := 0, locals := 168 } s m args below meth c H locs 0 0 (fm_Z below shC G args s (some (.int r)) M') (F0 m 29 ls []) := by
    intro w29_v1 n29
    induction n29 with
    | zero => intro v2 v3 v5 M H locs ls E hl hf; exact fm_lp_0 hf
    | succ n29 ih29 =>
      intro v2 v3 v5 M H locs ls E hl hf
      have hf : pMicRow_masks_L29b N w29_v1 (fm_lp (pMicRow_masks_L29 N w29_v1) n29) v2 v3 v5 M = some (r, M') := hf
      unfold pMicRow_masks_L29b at hf
      refine lv_iload C.1 C.2.1 dX9_masks_29 (lv_at hl 4 rfl) ?_
      refine lv_aload_n C.1 C.2.1 dX9_masks_31 rfl (lv_at hl 0 rfl) ?_
      refine fm_getr C E lf_X9_10 hC_0 rfl dX9_masks_32 ?_
      refine fm_geti C E lf_X9_278 hC_1 rfl dX9_masks_35 ?_
      refine lv_icmp_ge (tgt := 85) C.1 C.2.1 dX9_masks_38 (by decide) (fun hc38 => ?_) (fun hc38 => ?_)
      · have hf := fm_ip hf hc38
        refine lv_aload_n C.1 C.2.1 dX9_masks_85 rfl (lv_at hl 0 rfl) ?_
        refine fm_getr C E lf_X9_53 hC_0 rfl dX9_masks_86 ?_
        obtain ⟨M89, hc89, hf⟩ := fm_bd hf
        refine fm_callV C E [] [] lm_X9_225 wk_X8_clear (c_Told_clear l G _ _ hc89) hC_176 rfl rfl rfl hl.1 (by simp [Value.category]) ⟨⟨rfl, rfl⟩, by decide, by decide⟩ ⟨by decide, by decide⟩ dX9_masks_89 rfl (fun H locs E => ?_)
        refine W.eq (g2 := F0 m 92 ls []) rfl ?_
        refine lv_aload_n C.1 C.2.1 dX9_masks_92 rfl (lv_at hl 0 rfl) ?_
        refine fm_getr C E lf_X9_53 hC_0 rfl dX9_masks_93 ?_
        refine lv_lload_n C.1 C.2.1 dX9_masks_96 rfl (lv_at hl 3 rfl) ?_
        obtain ⟨M97, hc97, hf⟩ := fm_bd hf
        refine fm_callV C E [.long _] [] lm_X9_232 wk_X8_add (c_Told_add l G _ _ _ hc97) hC_176 rfl rfl rfl hl.1 (by simp [Value.category]) ⟨⟨rfl, rfl⟩, by decide, by decide⟩ ⟨by decide, by decide⟩ dX9_masks_97 rfl (fun H locs E => ?_)
        refine W.eq (g2 := F0 m 100 ls []) rfl ?_
        refine lv_iload_n C.1 C.2.1 dX9_masks_100 rfl (lv_at hl 2 rfl) ?_
        obtain ⟨rfl, rfl⟩ := fm_rt2 hf
        exact fm_iret C E rfl rfl dX9_masks_101
      · have hf := fm_in' hf hc38
        refine lv_aload_n C.1 C.2.1 dX9_masks_41 rfl (lv_at hl 0 rfl) ?_
        refine fm_getr C E lf_X9_62 hC_0 rfl dX9_masks_42 ?_
        refine lv_iconst (v := 1) C.1 C.2.1 dX9_masks_45 (by decide) ?_
        refine lv_iload C.1 C.2.1 dX9_masks_46 (lv_at hl 4 rfl) ?_
        refine lv_ishl C.1 C.2.1 dX9_masks_48 ?_
        refine lv_iconst (v := (-1)) C.1 C.2.1 dX9_masks_49 (by decide) ?_
        refine lv_ixor C.1 C.2.1 dX9_masks_50 ?_
        obtain ⟨M51, hc51, hf⟩ := fm_bd hf
        refine fm_callV C E [.int _] [] lm_X9_150 wk_X3_listenTo (c_Ears_listenTo l G _ _ _ hc51) hC_178 rfl rfl rfl hl.1 (by simp [Value.category]) ⟨⟨rfl, rfl⟩, by decide, by decide⟩ ⟨by decide, by decide⟩ dX9_masks_51 rfl (fun H locs E => ?_)
        refine W.eq (g2 := F0 m 54 ls []) rfl ?_
        refine lv_aload_n C.1 C.2.1 dX9_masks_54 rfl (lv_at hl 0 rfl) ?_
        refine lv_iload_n C.1 C.2.1 dX9_masks_55 rfl (lv_at hl 1 rfl) ?_
        obtain ⟨⟨x56, M56⟩, hc56, hf⟩ := fm_bd hf
        dsimp only at hf
        refine fm_callV C E [.int _] [] lm_X9_248 wk_X9_beamPower (c_MicRow_beamPower l G N _ _ _ _ hc56) hC_0 rfl rfl rfl hl.1 (by simp [Value.category]) ⟨⟨rfl, rfl⟩, by decide, by decide⟩ ⟨by decide, by decide⟩ dX9_masks_56 rfl (fun H locs E => ?_)
        refine W.eq (g2 := F0 m 59 ls (.long x56 :: [])) rfl ?_
        refine lv_lstore (lv' := [(6, .long _), (0, .ref _), (1, .int _), (2, .int _), (3, .long _), (5, .int _)]) C.1 C.2.1 dX9_masks_59 hl (by decide) rfl (fun ls hl => ?_)
        refine lv_iload_n C.1 C.2.1 dX9_masks_61 rfl (lv_at hl 3 rfl) ?_
        refine lv_iconst (v := (-1)) C.1 C.2.1 dX9_masks_62 (by decide) ?_
        refine lv_icmp_eq (tgt := 73) C.1 C.2.1 dX9_masks_63 (by decide) (fun hc63 => ?_) (fun hc63 => ?_)
        · have hf := fm_ip hf hc63
          refine lv_lload C.1 C.2.1 dX9_masks_73 (lv_at hl 0 rfl) ?_
          refine lv_lstore_n (lv' := [(3, .long _), (6, .long _), (0, .ref _), (1, .int _), (2, .int _), (5, .int _)]) C.1 C.2.1 dX9_masks_75 rfl hl (by decide) rfl (fun ls hl => ?_)
          refine lv_iload C.1 C.2.1 dX9_masks_76 (lv_at hl 5 rfl) ?_
          refine lv_istore_n (lv' := [(2, .int _), (3, .long _), (6, .long _), (0, .ref _), (1, .int _), (5, .int _)]) C.1 C.2.1 dX9_masks_78 rfl hl (by decide) rfl (fun ls hl => ?_)
          refine fm_iinc C (v := 1) (lv' := [(5, .int _), (2, .int _), (3, .long _), (6, .long _), (0, .ref _), (1, .int _)]) (k := 5) hl rfl (by decide) (by decide) rfl dX9_masks_79 (fun ls hl => ?_)
          refine lv_goto (tgt := 29) C.1 C.2.1 dX9_masks_82 (by decide) ?_
          exact ih29 _ _ _ _ _ _ _ E (lv_sub hl [4, 5, 1, 2, 0] rfl) hf
        · have hf := fm_in' hf hc63
          refine lv_lload C.1 C.2.1 dX9_masks_66 (lv_at hl 0 rfl) ?_
          refine lv_lload_n C.1 C.2.1 dX9_masks_68 rfl (lv_at hl 4 rfl) ?_
          refine W.lcmp C.1 C.2.1 dX9_masks_69 ?_
          refine lv_if_ge (tgt := 79) C.1 C.2.1 dX9_masks_70 (by decide) (fun hc70 => ?_) (fun hc70 => ?_)
          · have hf := fm_ip hf hc70
            refine fm_iinc C (v := 1) (lv' := [(5, .int _), (6, .long _), (0, .ref _), (1, .int _), (2, .int _), (3, .long _)]) (k := 5) hl rfl (by decide) (by decide) rfl dX9_masks_79 (fun ls hl => ?_)
            refine lv_goto (tgt := 29) C.1 C.2.1 dX9_masks_82 (by decide) ?_
            exact ih29 _ _ _ _ _ _ _ E (lv_sub hl [2, 3, 4, 5, 0] rfl) hf
          · have hf := fm_in' hf hc70
            refine lv_lload C.1 C.2.1 dX9_masks_73 (lv_at hl 0 rfl) ?_
            refine lv_lstore_n (lv' := [(3, .long _), (6, .long _), (0, .ref _), (1, .int _), (2, .int _), (5, .int _)]) C.1 C.2.1 dX9_masks_75 rfl hl (by decide) rfl (fun ls hl => ?_)
            refine lv_iload C.1 C.2.1 dX9_masks_76 (lv_at hl 5 rfl) ?_
            refine lv_istore_n (lv' := [(2, .int _), (3, .long _), (6, .long _), (0, .ref _), (1, .int _), (5, .int _)]) C.1 C.2.1 dX9_masks_78 rfl hl (by decide) rfl (fun ls hl => ?_)
            refine fm_iinc C (v := 1) (lv' := [(5, .int _), (2, .int _), (3, .long _), (6, .long _), (0, .ref _), (1, .int _)]) (k := 5) hl rfl (by decide) (by decide) rfl dX9_masks_79 (fun ls hl => ?_)
            refine lv_goto (tgt := 29) C.1 C.2.1 dX9_masks_82 (by decide) ?_
            exact ih29 _ _ _ _ _ _ _ E (lv_sub hl [4, 5, 1, 2, 0] rfl) hf
  unfold pMicRow_masks at hf
  refine lv_iload_n C.1 C.2.1 dX9_masks_0 rfl (lv_at hl 1 rfl) ?_
  obtain ⟨x1, hc1, hf⟩ := fm_bd hf
  refine fm_callS C E [.int _] [] lm_X9_157 wk_X9_isDirection (c_MicRow_isDirection l G _ _ _  hc1) rfl hl.1 (by simp [Value.category]) ⟨⟨rfl, rfl⟩, by decide, by decide⟩ ⟨by decide, by decide⟩ dX9_masks_1 rfl (fun H locs E => ?_)
  refine W.eq (g2 := F0 m 4 ls (.int x1 :: [])) rfl ?_
  refine lv_if_ne (tgt := 9) C.1 C.2.1 dX9_masks_4 (by decide) (fun hc4 => ?_) (fun hc4 => ?_)
  · have hf := fm_in' hf hc4
    refine lv_aload_n C.1 C.2.1 dX9_masks_9 rfl (lv_at hl 0 rfl) ?_
    refine fm_getr C E lf_X9_10 hC_0 rfl dX9_masks_10 ?_
    refine fm_geti C E lf_X9_278 hC_1 rfl dX9_masks_13 ?_
    refine lv_if_ne (tgt := 22) C.1 C.2.1 dX9_masks_16 (by decide) (fun hc16 => ?_) (fun hc16 => ?_)
    · have hf := fm_in' hf hc16
      refine lv_iconst (v := (-1)) C.1 C.2.1 dX9_masks_22 (by decide) ?_
      refine lv_istore_n (lv' := [(2, .int _), (0, .ref _), (1, .int _)]) C.1 C.2.1 dX9_masks_23 rfl hl (by decide) rfl (fun ls hl => ?_)
      refine lv_lconst (v := 0) C.1 C.2.1 dX9_masks_24 (by decide) ?_
      refine lv_lstore_n (lv' := [(3, .long _), (2, .int _), (0, .ref _), (1, .int _)]) C.1 C.2.1 dX9_masks_25 rfl hl (by decide) rfl (fun ls hl => ?_)
      refine lv_iconst (v := 0) C.1 C.2.1 dX9_masks_26 (by decide) ?_
      refine lv_istore (lv' := [(5, .int _), (3, .long _), (2, .int _), (0, .ref _), (1, .int _)]) C.1 C.2.1 dX9_masks_27 hl (by decide) rfl (fun ls hl => ?_)
      exact L29 _ N _ _ _ _ _ _ _ E (lv_sub hl [3, 4, 2, 1, 0] rfl) hf
    · have hf := fm_ip hf hc16
      refine lv_bipush (v := (-2)) C.1 C.2.1 dX9_masks_19 (by decide) ?_
      obtain ⟨rfl, rfl⟩ := fm_rt2 hf
      exact fm_iret C E rfl rfl dX9_masks_21
  · have hf := fm_ip hf hc4
    refine lv_iconst (v := (-1)) C.1 C.2.1 dX9_masks_7 (by decide) ?_
    obtain ⟨rfl, rfl⟩ := fm_rt2 hf
    exact fm_iret C E rfl rfl dX9_masks_8
theorem dX9_nulled_0 : decode cX9_nulled 0 = .ok (.iload_n 1, 1) := by decide +kernel
theorem dX9_nulled_1 : decode cX9_nulled 1 = .ok (.invokestatic 157, 3) := by decide +kernel
theorem dX9_nulled_4 : decode cX9_nulled 4 = .ok (.ifCond .eq 10, 3) := by decide +kernel
theorem dX9_nulled_7 : decode cX9_nulled 7 = .ok (.iload_n 2, 1) := by decide +kernel
theorem dX9_nulled_8 : decode cX9_nulled 8 = .ok (.invokestatic 157, 3) := by decide +kernel
theorem dX9_nulled_11 : decode cX9_nulled 11 = .ok (.ifCond .ne 5, 3) := by decide +kernel
theorem dX9_nulled_14 : decode cX9_nulled 14 = .ok (.iconst (-1), 1) := by decide +kernel
theorem dX9_nulled_15 : decode cX9_nulled 15 = .ok (.ireturn, 1) := by decide +kernel
theorem dX9_nulled_16 : decode cX9_nulled 16 = .ok (.aload_n 0, 1) := by decide +kernel
theorem dX9_nulled_17 : decode cX9_nulled 17 = .ok (.getfield 10, 3) := by decide +kernel
theorem dX9_nulled_20 : decode cX9_nulled 20 = .ok (.iload_n 2, 1) := by decide +kernel
theorem dX9_nulled_21 : decode cX9_nulled 21 = .ok (.invokevirtual 308, 3) := by decide +kernel
theorem dX9_nulled_24 : decode cX9_nulled 24 = .ok (.istore_n 3, 1) := by decide +kernel
theorem dX9_nulled_25 : decode cX9_nulled 25 = .ok (.aload_n 0, 1) := by decide +kernel
theorem dX9_nulled_26 : decode cX9_nulled 26 = .ok (.getfield 62, 3) := by decide +kernel
theorem dX9_nulled_29 : decode cX9_nulled 29 = .ok (.iload_n 3, 1) := by decide +kernel
theorem dX9_nulled_30 : decode cX9_nulled 30 = .ok (.invokevirtual 150, 3) := by decide +kernel
theorem dX9_nulled_33 : decode cX9_nulled 33 = .ok (.aload_n 0, 1) := by decide +kernel
theorem dX9_nulled_34 : decode cX9_nulled 34 = .ok (.iload_n 1, 1) := by decide +kernel
theorem dX9_nulled_35 : decode cX9_nulled 35 = .ok (.invokevirtual 192, 3) := by decide +kernel
theorem dX9_nulled_38 : decode cX9_nulled 38 = .ok (.aload_n 0, 1) := by decide +kernel
theorem dX9_nulled_39 : decode cX9_nulled 39 = .ok (.getfield 62, 3) := by decide +kernel
theorem dX9_nulled_42 : decode cX9_nulled 42 = .ok (.iconst (-1), 1) := by decide +kernel
theorem dX9_nulled_43 : decode cX9_nulled 43 = .ok (.invokevirtual 150, 3) := by decide +kernel
theorem dX9_nulled_46 : decode cX9_nulled 46 = .ok (.aload_n 0, 1) := by decide +kernel
theorem dX9_nulled_47 : decode cX9_nulled 47 = .ok (.iload_n 1, 1) := by decide +kernel
theorem dX9_nulled_48 : decode cX9_nulled 48 = .ok (.invokevirtual 256, 3) := by decide +kernel
theorem dX9_nulled_51 : decode cX9_nulled 51 = .ok (.aload_n 0, 1) := by decide +kernel
theorem dX9_nulled_52 : decode cX9_nulled 52 = .ok (.getfield 71, 3) := by decide +kernel
theorem dX9_nulled_55 : decode cX9_nulled 55 = .ok (.aload_n 0, 1) := by decide +kernel
theorem dX9_nulled_56 : decode cX9_nulled 56 = .ok (.getfield 10, 3) := by decide +kernel
theorem dX9_nulled_59 : decode cX9_nulled 59 = .ok (.invokevirtual 171, 3) := by decide +kernel
theorem dX9_nulled_62 : decode cX9_nulled 62 = .ok (.invokevirtual 175, 3) := by decide +kernel
theorem dX9_nulled_65 : decode cX9_nulled 65 = .ok (.aload_n 0, 1) := by decide +kernel
theorem dX9_nulled_66 : decode cX9_nulled 66 = .ok (.getfield 71, 3) := by decide +kernel
theorem dX9_nulled_69 : decode cX9_nulled 69 = .ok (.aload_n 0, 1) := by decide +kernel
theorem dX9_nulled_70 : decode cX9_nulled 70 = .ok (.getfield 10, 3) := by decide +kernel
theorem dX9_nulled_73 : decode cX9_nulled 73 = .ok (.invokevirtual 171, 3) := by decide +kernel
theorem dX9_nulled_76 : decode cX9_nulled 76 = .ok (.invokevirtual 181, 3) := by decide +kernel
theorem dX9_nulled_79 : decode cX9_nulled 79 = .ok (.aload_n 0, 1) := by decide +kernel
theorem dX9_nulled_80 : decode cX9_nulled 80 = .ok (.getfield 71, 3) := by decide +kernel
theorem dX9_nulled_83 : decode cX9_nulled 83 = .ok (.invokevirtual 195, 3) := by decide +kernel
theorem dX9_nulled_86 : decode cX9_nulled 86 = .ok (.aload_n 0, 1) := by decide +kernel
theorem dX9_nulled_87 : decode cX9_nulled 87 = .ok (.getfield 53, 3) := by decide +kernel
theorem dX9_nulled_90 : decode cX9_nulled 90 = .ok (.invokevirtual 225, 3) := by decide +kernel
theorem dX9_nulled_93 : decode cX9_nulled 93 = .ok (.aload_n 0, 1) := by decide +kernel
theorem dX9_nulled_94 : decode cX9_nulled 94 = .ok (.getfield 53, 3) := by decide +kernel
theorem dX9_nulled_97 : decode cX9_nulled 97 = .ok (.aload_n 0, 1) := by decide +kernel
theorem dX9_nulled_98 : decode cX9_nulled 98 = .ok (.getfield 71, 3) := by decide +kernel
theorem dX9_nulled_101 : decode cX9_nulled 101 = .ok (.aload_n 0, 1) := by decide +kernel
theorem dX9_nulled_102 : decode cX9_nulled 102 = .ok (.getfield 71, 3) := by decide +kernel
theorem dX9_nulled_105 : decode cX9_nulled 105 = .ok (.getfield 198, 3) := by decide +kernel
theorem dX9_nulled_108 : decode cX9_nulled 108 = .ok (.invokevirtual 228, 3) := by decide +kernel
theorem dX9_nulled_111 : decode cX9_nulled 111 = .ok (.invokevirtual 232, 3) := by decide +kernel
theorem dX9_nulled_114 : decode cX9_nulled 114 = .ok (.aload_n 0, 1) := by decide +kernel
theorem dX9_nulled_115 : decode cX9_nulled 115 = .ok (.getfield 53, 3) := by decide +kernel
theorem dX9_nulled_118 : decode cX9_nulled 118 = .ok (.aload_n 0, 1) := by decide +kernel
theorem dX9_nulled_119 : decode cX9_nulled 119 = .ok (.getfield 71, 3) := by decide +kernel
theorem dX9_nulled_122 : decode cX9_nulled 122 = .ok (.aload_n 0, 1) := by decide +kernel
theorem dX9_nulled_123 : decode cX9_nulled 123 = .ok (.getfield 71, 3) := by decide +kernel
theorem dX9_nulled_126 : decode cX9_nulled 126 = .ok (.getfield 178, 3) := by decide +kernel
theorem dX9_nulled_129 : decode cX9_nulled 129 = .ok (.invokevirtual 228, 3) := by decide +kernel
theorem dX9_nulled_132 : decode cX9_nulled 132 = .ok (.invokevirtual 232, 3) := by decide +kernel
theorem dX9_nulled_135 : decode cX9_nulled 135 = .ok (.iload_n 3, 1) := by decide +kernel
theorem dX9_nulled_136 : decode cX9_nulled 136 = .ok (.invokestatic 303, 3) := by decide +kernel
theorem dX9_nulled_139 : decode cX9_nulled 139 = .ok (.ireturn, 1) := by decide +kernel
set_option maxHeartbeats 4000000 in
set_option maxRecDepth 100000 in
theorem c_MicRow_nulled (l : Launch) (G : fm_G) (N : Nat) (M : fm_M) (v1 : Int32) (v2 : Int32) (r : Int32) (M' : fm_M) (hf : pMicRow_nulled N M v1 v2 = some (r, M')) : fm_Met l yX9_nulled cX9_nulled 4 (some .int) { frames := 7, cells := 0, slots := 0, locals := 168 } shC G [.ref (G.2.1 0), .int v1, .int v2] M (some (.int r)) M' := by
  refine fm_enter (by decide) (Nat.le_of_ble_eq_true rfl) ?_
  intro p e s m args below meth c ls C E hl
  have hl : lv_has ls 4 [(0, .ref (G.2.1 0)), (1, .int v1), (2, .int v2)] := hl
  unfold pMicRow_nulled at hf
  refine lv_iload_n C.1 C.2.1 dX9_nulled_0 rfl (lv_at hl 1 rfl) ?_
  obtain ⟨x1, hc1, hf⟩ := fm_bd hf
  refine fm_callS C E [.int _] [] lm_X9_157 wk_X9_isDirection (c_MicRow_isDirection l G _ _ _  hc1) rfl hl.1 (by simp [Value.category]) ⟨⟨rfl, rfl⟩, by decide, by decide⟩ ⟨by decide, by decide⟩ dX9_nulled_1 rfl (fun H locs E => ?_)
  refine W.eq (g2 := F0 m 4 ls (.int x1 :: [])) rfl ?_
  refine lv_if_eq (tgt := 14) C.1 C.2.1 dX9_nulled_4 (by decide) (fun hc4 => ?_) (fun hc4 => ?_)
  · have hf := fm_ip hf hc4
    refine lv_iconst (v := (-1)) C.1 C.2.1 dX9_nulled_14 (by decide) ?_
    obtain ⟨rfl, rfl⟩ := fm_rt2 hf
    exact fm_iret C E rfl rfl dX9_nulled_15
  · have hf := fm_in' hf hc4
    refine lv_iload_n C.1 C.2.1 dX9_nulled_7 rfl (lv_at hl 2 rfl) ?_
    obtain ⟨x8, hc8, hf⟩ := fm_bd hf
    refine fm_callS C E [.int _] [] lm_X9_157 wk_X9_isDirection (c_MicRow_isDirection l G _ _ _  hc8) rfl hl.1 (by simp [Value.category]) ⟨⟨rfl, rfl⟩, by decide, by decide⟩ ⟨by decide, by decide⟩ dX9_nulled_8 rfl (fun H locs E => ?_)
    refine W.eq (g2 := F0 m 11 ls (.int x8 :: [])) rfl ?_
    refine lv_if_ne (tgt := 16) C.1 C.2.1 dX9_nulled_11 (by decide) (fun hc11 => ?_) (fun hc11 => ?_)
    · have hf := fm_in' hf hc11
      refine lv_aload_n C.1 C.2.1 dX9_nulled_16 rfl (lv_at hl 0 rfl) ?_
      refine fm_getr C E lf_X9_10 hC_0 rfl dX9_nulled_17 ?_
      refine lv_iload_n C.1 C.2.1 dX9_nulled_20 rfl (lv_at hl 2 rfl) ?_
      obtain ⟨x21, hc21, hf⟩ := fm_bd hf
      refine fm_callV C E [.int _] [] lm_X9_308 wk_X7_sourcesFrom (c_Scene_sourcesFrom l G N _ _ _  hc21) hC_1 rfl rfl rfl hl.1 (by simp [Value.category]) ⟨⟨rfl, rfl⟩, by decide, by decide⟩ ⟨by decide, by decide⟩ dX9_nulled_21 rfl (fun H locs E => ?_)
      refine W.eq (g2 := F0 m 24 ls (.int x21 :: [])) rfl ?_
      refine lv_istore_n (lv' := [(3, .int _), (0, .ref _), (1, .int _), (2, .int _)]) C.1 C.2.1 dX9_nulled_24 rfl hl (by decide) rfl (fun ls hl => ?_)
      refine lv_aload_n C.1 C.2.1 dX9_nulled_25 rfl (lv_at hl 1 rfl) ?_
      refine fm_getr C E lf_X9_62 hC_0 rfl dX9_nulled_26 ?_
      refine lv_iload_n C.1 C.2.1 dX9_nulled_29 rfl (lv_at hl 0 rfl) ?_
      obtain ⟨M30, hc30, hf⟩ := fm_bd hf
      refine fm_callV C E [.int _] [] lm_X9_150 wk_X3_listenTo (c_Ears_listenTo l G _ _ _ hc30) hC_178 rfl rfl rfl hl.1 (by simp [Value.category]) ⟨⟨rfl, rfl⟩, by decide, by decide⟩ ⟨by decide, by decide⟩ dX9_nulled_30 rfl (fun H locs E => ?_)
      refine W.eq (g2 := F0 m 33 ls []) rfl ?_
      refine lv_aload_n C.1 C.2.1 dX9_nulled_33 rfl (lv_at hl 1 rfl) ?_
      refine lv_iload_n C.1 C.2.1 dX9_nulled_34 rfl (lv_at hl 2 rfl) ?_
      obtain ⟨M35, hc35, hf⟩ := fm_bd hf
      refine fm_callV C E [.int _] [] lm_X9_192 wk_X9_learnWeights (c_MicRow_learnWeights l G N _ _ _ hc35) hC_0 rfl rfl rfl hl.1 (by simp [Value.category]) ⟨⟨rfl, rfl⟩, by decide, by decide⟩ ⟨by decide, by decide⟩ dX9_nulled_35 rfl (fun H locs E => ?_)
      refine W.eq (g2 := F0 m 38 ls []) rfl ?_
      refine lv_aload_n C.1 C.2.1 dX9_nulled_38 rfl (lv_at hl 1 rfl) ?_
      refine fm_getr C E lf_X9_62 hC_0 rfl dX9_nulled_39 ?_
      refine lv_iconst (v := (-1)) C.1 C.2.1 dX9_nulled_42 (by decide) ?_
      obtain ⟨M43, hc43, hf⟩ := fm_bd hf
      refine fm_callV C E [.int _] [] lm_X9_150 wk_X3_listenTo (c_Ears_listenTo l G _ _ _ hc43) hC_178 rfl rfl rfl hl.1 (by simp [Value.category]) ⟨⟨rfl, rfl⟩, by decide, by decide⟩ ⟨by decide, by decide⟩ dX9_nulled_43 rfl (fun H locs E => ?_)
      refine W.eq (g2 := F0 m 46 ls []) rfl ?_
      refine lv_aload_n C.1 C.2.1 dX9_nulled_46 rfl (lv_at hl 1 rfl) ?_
      refine lv_iload_n C.1 C.2.1 dX9_nulled_47 rfl (lv_at hl 2 rfl) ?_
      obtain ⟨M48, hc48, hf⟩ := fm_bd hf
      refine fm_callV C E [.int _] [] lm_X9_256 wk_X9_turnOverSpan (c_MicRow_turnOverSpan l G N _ _ _ hc48) hC_0 rfl rfl rfl hl.1 (by simp [Value.category]) ⟨⟨rfl, rfl⟩, by decide, by decide⟩ ⟨by decide, by decide⟩ dX9_nulled_48 rfl (fun H locs E => ?_)
      refine W.eq (g2 := F0 m 51 ls []) rfl ?_
      refine lv_aload_n C.1 C.2.1 dX9_nulled_51 rfl (lv_at hl 1 rfl) ?_
      refine fm_getr C E lf_X9_71 hC_0 rfl dX9_nulled_52 ?_
      refine lv_aload_n C.1 C.2.1 dX9_nulled_55 rfl (lv_at hl 1 rfl) ?_
      refine fm_getr C E lf_X9_10 hC_0 rfl dX9_nulled_56 ?_
      obtain ⟨x59, hc59, hf⟩ := fm_bd hf
      refine fm_callV C E [] [.ref _] lm_X9_171 wk_X7_liveSet (c_Scene_liveSet l G N _ _  hc59) hC_1 rfl rfl rfl hl.1 (by simp [Value.category]) ⟨⟨rfl, rfl⟩, by decide, by decide⟩ ⟨by decide, by decide⟩ dX9_nulled_59 rfl (fun H locs E => ?_)
      refine W.eq (g2 := F0 m 62 ls (.int x59 :: [.ref _])) rfl ?_
      obtain ⟨M62, hc62, hf⟩ := fm_bd hf
      refine fm_callV C E [.int _] [] lm_X9_175 wk_X0_mix (c_Bench_mix l G N _ _ _ hc62) hC_181 rfl rfl rfl hl.1 (by simp [Value.category]) ⟨⟨rfl, rfl⟩, by decide, by decide⟩ ⟨by decide, by decide⟩ dX9_nulled_62 rfl (fun H locs E => ?_)
      refine W.eq (g2 := F0 m 65 ls []) rfl ?_
      refine lv_aload_n C.1 C.2.1 dX9_nulled_65 rfl (lv_at hl 1 rfl) ?_
      refine fm_getr C E lf_X9_71 hC_0 rfl dX9_nulled_66 ?_
      refine lv_aload_n C.1 C.2.1 dX9_nulled_69 rfl (lv_at hl 1 rfl) ?_
      refine fm_getr C E lf_X9_10 hC_0 rfl dX9_nulled_70 ?_
      obtain ⟨x73, hc73, hf⟩ := fm_bd hf
      refine fm_callV C E [] [.ref _] lm_X9_171 wk_X7_liveSet (c_Scene_liveSet l G N _ _  hc73) hC_1 rfl rfl rfl hl.1 (by simp [Value.category]) ⟨⟨rfl, rfl⟩, by decide, by decide⟩ ⟨by decide, by decide⟩ dX9_nulled_73 rfl (fun H locs E => ?_)
      refine W.eq (g2 := F0 m 76 ls (.int x73 :: [.ref _])) rfl ?_
      obtain ⟨M76, hc76, hf⟩ := fm_bd hf
      refine fm_callV C E [.int _] [] lm_X9_181 wk_X0_block (c_Bench_block l G N _ _ _ hc76) hC_181 rfl rfl rfl hl.1 (by simp [Value.category]) ⟨⟨rfl, rfl⟩, by decide, by decide⟩ ⟨by decide, by decide⟩ dX9_nulled_76 rfl (fun H locs E => ?_)
      refine W.eq (g2 := F0 m 79 ls []) rfl ?_
      refine lv_aload_n C.1 C.2.1 dX9_nulled_79 rfl (lv_at hl 1 rfl) ?_
      refine fm_getr C E lf_X9_71 hC_0 rfl dX9_nulled_80 ?_
      obtain ⟨M83, hc83, hf⟩ := fm_bd hf
      refine fm_callV C E [] [] lm_X9_195 wk_X0_takeOff (c_Bench_takeOff l G N _ _ hc83) hC_181 rfl rfl rfl hl.1 (by simp [Value.category]) ⟨⟨rfl, rfl⟩, by decide, by decide⟩ ⟨by decide, by decide⟩ dX9_nulled_83 rfl (fun H locs E => ?_)
      refine W.eq (g2 := F0 m 86 ls []) rfl ?_
      refine lv_aload_n C.1 C.2.1 dX9_nulled_86 rfl (lv_at hl 1 rfl) ?_
      refine fm_getr C E lf_X9_53 hC_0 rfl dX9_nulled_87 ?_
      obtain ⟨M90, hc90, hf⟩ := fm_bd hf
      refine fm_callV C E [] [] lm_X9_225 wk_X8_clear (c_Told_clear l G _ _ hc90) hC_176 rfl rfl rfl hl.1 (by simp [Value.category]) ⟨⟨rfl, rfl⟩, by decide, by decide⟩ ⟨by decide, by decide⟩ dX9_nulled_90 rfl (fun H locs E => ?_)
      refine W.eq (g2 := F0 m 93 ls []) rfl ?_
      refine lv_aload_n C.1 C.2.1 dX9_nulled_93 rfl (lv_at hl 1 rfl) ?_
      refine fm_getr C E lf_X9_53 hC_0 rfl dX9_nulled_94 ?_
      refine lv_aload_n C.1 C.2.1 dX9_nulled_97 rfl (lv_at hl 1 rfl) ?_
      refine fm_getr C E lf_X9_71 hC_0 rfl dX9_nulled_98 ?_
      refine lv_aload_n C.1 C.2.1 dX9_nulled_101 rfl (lv_at hl 1 rfl) ?_
      refine fm_getr C E lf_X9_71 hC_0 rfl dX9_nulled_102 ?_
      refine fm_getr C E lf_X9_198 hC_181 rfl dX9_nulled_105 ?_
      obtain ⟨x108, hc108, hf⟩ := fm_bd hf
      refine fm_callV C E [.ref _] [.ref _] lm_X9_228 wk_X0_powerOf (c_Bench_powerOf l G N _ _ _  hc108) hC_181 rfl rfl rfl hl.1 (by simp [Value.category]) ⟨⟨rfl, rfl⟩, by decide, by decide⟩ ⟨by decide, by decide⟩ dX9_nulled_108 rfl (fun H locs E => ?_)
      refine W.eq (g2 := F0 m 111 ls (.long x108 :: [.ref _])) rfl ?_
      obtain ⟨M111, hc111, hf⟩ := fm_bd hf
      refine fm_callV C E [.long _] [] lm_X9_232 wk_X8_add (c_Told_add l G _ _ _ hc111) hC_176 rfl rfl rfl hl.1 (by simp [Value.category]) ⟨⟨rfl, rfl⟩, by decide, by decide⟩ ⟨by decide, by decide⟩ dX9_nulled_111 rfl (fun H locs E => ?_)
      refine W.eq (g2 := F0 m 114 ls []) rfl ?_
      refine lv_aload_n C.1 C.2.1 dX9_nulled_114 rfl (lv_at hl 1 rfl) ?_
      refine fm_getr C E lf_X9_53 hC_0 rfl dX9_nulled_115 ?_
      refine lv_aload_n C.1 C.2.1 dX9_nulled_118 rfl (lv_at hl 1 rfl) ?_
      refine fm_getr C E lf_X9_71 hC_0 rfl dX9_nulled_119 ?_
      refine lv_aload_n C.1 C.2.1 dX9_nulled_122 rfl (lv_at hl 1 rfl) ?_
      refine fm_getr C E lf_X9_71 hC_0 rfl dX9_nulled_123 ?_
      refine fm_getr C E lf_X9_178 hC_181 rfl dX9_nulled_126 ?_
      obtain ⟨x129, hc129, hf⟩ := fm_bd hf
      refine fm_callV C E [.ref _] [.ref _] lm_X9_228 wk_X0_powerOf (c_Bench_powerOf l G N _ _ _  hc129) hC_181 rfl rfl rfl hl.1 (by simp [Value.category]) ⟨⟨rfl, rfl⟩, by decide, by decide⟩ ⟨by decide, by decide⟩ dX9_nulled_129 rfl (fun H locs E => ?_)
      refine W.eq (g2 := F0 m 132 ls (.long x129 :: [.ref _])) rfl ?_
      obtain ⟨M132, hc132, hf⟩ := fm_bd hf
      refine fm_callV C E [.long _] [] lm_X9_232 wk_X8_add (c_Told_add l G _ _ _ hc132) hC_176 rfl rfl rfl hl.1 (by simp [Value.category]) ⟨⟨rfl, rfl⟩, by decide, by decide⟩ ⟨by decide, by decide⟩ dX9_nulled_132 rfl (fun H locs E => ?_)
      refine W.eq (g2 := F0 m 135 ls []) rfl ?_
      refine lv_iload_n C.1 C.2.1 dX9_nulled_135 rfl (lv_at hl 0 rfl) ?_
      obtain ⟨x136, hc136, hf⟩ := fm_bd hf
      refine fm_callS C E [.int _] [] lm_X9_303 wk_J6_bitCount_0f7a4 (c_Integer_bitCount l G _ _ _  hc136) rfl hl.1 (by simp [Value.category]) ⟨⟨rfl, rfl⟩, by decide, by decide⟩ ⟨by decide, by decide⟩ dX9_nulled_136 rfl (fun H locs E => ?_)
      refine W.eq (g2 := F0 m 139 ls (.int x136 :: [])) rfl ?_
      obtain ⟨rfl, rfl⟩ := fm_rt2 hf
      exact fm_iret C E rfl rfl dX9_nulled_139
    · have hf := fm_ip hf hc11
      refine lv_iconst (v := (-1)) C.1 C.2.1 dX9_nulled_14 (by decide) ?_
      obtain ⟨rfl, rfl⟩ := fm_rt2 hf
      exact fm_iret C E rfl rfl dX9_nulled_15
theorem dX9_later_0 : decode cX9_later 0 = .ok (.iload_n 1, 1) := by decide +kernel
theorem dX9_later_1 : decode cX9_later 1 = .ok (.iconst 0, 1) := by decide +kernel
theorem dX9_later_2 : decode cX9_later 2 = .ok (.sipush 200, 3) := by decide +kernel
theorem dX9_later_5 : decode cX9_later 5 = .ok (.invokestatic 112, 3) := by decide +kernel
theorem dX9_later_8 : decode cX9_later 8 = .ok (.ifCond .ne 5, 3) := by decide +kernel
theorem dX9_later_11 : decode cX9_later 11 = .ok (.iconst (-1), 1) := by decide +kernel
theorem dX9_later_12 : decode cX9_later 12 = .ok (.ireturn, 1) := by decide +kernel
theorem dX9_later_13 : decode cX9_later 13 = .ok (.aload_n 0, 1) := by decide +kernel
theorem dX9_later_14 : decode cX9_later 14 = .ok (.getfield 10, 3) := by decide +kernel
theorem dX9_later_17 : decode cX9_later 17 = .ok (.invokevirtual 266, 3) := by decide +kernel
theorem dX9_later_20 : decode cX9_later 20 = .ok (.iconst 2, 1) := by decide +kernel
theorem dX9_later_21 : decode cX9_later 21 = .ok (.if_icmp .ge 6, 3) := by decide +kernel
theorem dX9_later_24 : decode cX9_later 24 = .ok (.bipush (-2), 2) := by decide +kernel
theorem dX9_later_26 : decode cX9_later 26 = .ok (.ireturn, 1) := by decide +kernel
theorem dX9_later_27 : decode cX9_later 27 = .ok (.aload_n 0, 1) := by decide +kernel
theorem dX9_later_28 : decode cX9_later 28 = .ok (.getfield 62, 3) := by decide +kernel
theorem dX9_later_31 : decode cX9_later 31 = .ok (.iconst (-1), 1) := by decide +kernel
theorem dX9_later_32 : decode cX9_later 32 = .ok (.invokevirtual 150, 3) := by decide +kernel
theorem dX9_later_35 : decode cX9_later 35 = .ok (.aload_n 0, 1) := by decide +kernel
theorem dX9_later_36 : decode cX9_later 36 = .ok (.getfield 80, 3) := by decide +kernel
theorem dX9_later_39 : decode cX9_later 39 = .ok (.iload_n 1, 1) := by decide +kernel
theorem dX9_later_40 : decode cX9_later 40 = .ok (.aload_n 0, 1) := by decide +kernel
theorem dX9_later_41 : decode cX9_later 41 = .ok (.getfield 10, 3) := by decide +kernel
theorem dX9_later_44 : decode cX9_later 44 = .ok (.invokevirtual 211, 3) := by decide +kernel
theorem dX9_later_47 : decode cX9_later 47 = .ok (.aload_n 0, 1) := by decide +kernel
theorem dX9_later_48 : decode cX9_later 48 = .ok (.getfield 10, 3) := by decide +kernel
theorem dX9_later_51 : decode cX9_later 51 = .ok (.invokevirtual 171, 3) := by decide +kernel
theorem dX9_later_54 : decode cX9_later 54 = .ok (.invokevirtual 269, 3) := by decide +kernel
theorem dX9_later_57 : decode cX9_later 57 = .ok (.istore_n 2, 1) := by decide +kernel
theorem dX9_later_58 : decode cX9_later 58 = .ok (.aload_n 0, 1) := by decide +kernel
theorem dX9_later_59 : decode cX9_later 59 = .ok (.getfield 53, 3) := by decide +kernel
theorem dX9_later_62 : decode cX9_later 62 = .ok (.invokevirtual 225, 3) := by decide +kernel
theorem dX9_later_65 : decode cX9_later 65 = .ok (.aload_n 0, 1) := by decide +kernel
theorem dX9_later_66 : decode cX9_later 66 = .ok (.getfield 53, 3) := by decide +kernel
theorem dX9_later_69 : decode cX9_later 69 = .ok (.aload_n 0, 1) := by decide +kernel
theorem dX9_later_70 : decode cX9_later 70 = .ok (.getfield 80, 3) := by decide +kernel
theorem dX9_later_73 : decode cX9_later 73 = .ok (.iload_n 2, 1) := by decide +kernel
theorem dX9_later_74 : decode cX9_later 74 = .ok (.invokevirtual 272, 3) := by decide +kernel
theorem dX9_later_77 : decode cX9_later 77 = .ok (.i2l, 1) := by decide +kernel
theorem dX9_later_78 : decode cX9_later 78 = .ok (.invokevirtual 232, 3) := by decide +kernel
theorem dX9_later_81 : decode cX9_later 81 = .ok (.iload_n 2, 1) := by decide +kernel
theorem dX9_later_82 : decode cX9_later 82 = .ok (.bipush 8, 2) := by decide +kernel
theorem dX9_later_84 : decode cX9_later 84 = .ok (.iadd, 1) := by decide +kernel
theorem dX9_later_85 : decode cX9_later 85 = .ok (.ireturn, 1) := by decide +kernel
set_option maxHeartbeats 4000000 in
set_option maxRecDepth 100000 in
theorem c_MicRow_later (l : Launch) (G : fm_G) (N : Nat) (M : fm_M) (v1 : Int32) (r : Int32) (M' : fm_M) (hf : pMicRow_later N M v1 = some (r, M')) : fm_Met l yX9_later cX9_later 3 (some .int) { frames := 7, cells := 0, slots := 0, locals := 176 } shC G [.ref (G.2.1 0), .int v1] M (some (.int r)) M' := by
  refine fm_enter (by decide) (Nat.le_of_ble_eq_true rfl) ?_
  intro p e s m args below meth c ls C E hl
  have hl : lv_has ls 3 [(0, .ref (G.2.1 0)), (1, .int v1)] := hl
  unfold pMicRow_later at hf
  refine lv_iload_n C.1 C.2.1 dX9_later_0 rfl (lv_at hl 1 rfl) ?_
  refine lv_iconst (v := 0) C.1 C.2.1 dX9_later_1 (by decide) ?_
  refine lv_sipush (v := 200) C.1 C.2.1 dX9_later_2 (by decide) ?_
  obtain ⟨x5, hc5, hf⟩ := fm_bd hf
  refine fm_callS C E [.int _, .int _, .int _] [] lm_X9_112 wk_X9_within (c_MicRow_within l G _ _ _ _ _  hc5) rfl hl.1 (by simp [Value.category]) ⟨⟨rfl, rfl⟩, by decide, by decide⟩ ⟨by decide, by decide⟩ dX9_later_5 rfl (fun H locs E => ?_)
  refine W.eq (g2 := F0 m 8 ls (.int x5 :: [])) rfl ?_
  refine lv_if_ne (tgt := 13) C.1 C.2.1 dX9_later_8 (by decide) (fun hc8 => ?_) (fun hc8 => ?_)
  · have hf := fm_in' hf hc8
    refine lv_aload_n C.1 C.2.1 dX9_later_13 rfl (lv_at hl 0 rfl) ?_
    refine fm_getr C E lf_X9_10 hC_0 rfl dX9_later_14 ?_
    obtain ⟨x17, hc17, hf⟩ := fm_bd hf
    refine fm_callV C E [] [] lm_X9_266 wk_X7_liveCount (c_Scene_liveCount l G N _ _  hc17) hC_1 rfl rfl rfl hl.1 (by simp [Value.category]) ⟨⟨rfl, rfl⟩, by decide, by decide⟩ ⟨by decide, by decide⟩ dX9_later_17 rfl (fun H locs E => ?_)
    refine W.eq (g2 := F0 m 20 ls (.int x17 :: [])) rfl ?_
    refine lv_iconst (v := 2) C.1 C.2.1 dX9_later_20 (by decide) ?_
    refine lv_icmp_ge (tgt := 27) C.1 C.2.1 dX9_later_21 (by decide) (fun hc21 => ?_) (fun hc21 => ?_)
    · have hf := fm_ip hf hc21
      refine lv_aload_n C.1 C.2.1 dX9_later_27 rfl (lv_at hl 0 rfl) ?_
      refine fm_getr C E lf_X9_62 hC_0 rfl dX9_later_28 ?_
      refine lv_iconst (v := (-1)) C.1 C.2.1 dX9_later_31 (by decide) ?_
      obtain ⟨M32, hc32, hf⟩ := fm_bd hf
      refine fm_callV C E [.int _] [] lm_X9_150 wk_X3_listenTo (c_Ears_listenTo l G _ _ _ hc32) hC_178 rfl rfl rfl hl.1 (by simp [Value.category]) ⟨⟨rfl, rfl⟩, by decide, by decide⟩ ⟨by decide, by decide⟩ dX9_later_32 rfl (fun H locs E => ?_)
      refine W.eq (g2 := F0 m 35 ls []) rfl ?_
      refine lv_aload_n C.1 C.2.1 dX9_later_35 rfl (lv_at hl 0 rfl) ?_
      refine fm_getr C E lf_X9_80 hC_0 rfl dX9_later_36 ?_
      refine lv_iload_n C.1 C.2.1 dX9_later_39 rfl (lv_at hl 1 rfl) ?_
      refine lv_aload_n C.1 C.2.1 dX9_later_40 rfl (lv_at hl 0 rfl) ?_
      refine fm_getr C E lf_X9_10 hC_0 rfl dX9_later_41 ?_
      obtain ⟨x44, hc44, hf⟩ := fm_bd hf
      refine fm_callV C E [] [.int _, .ref _] lm_X9_211 wk_X7_length (c_Scene_length l G _ _  hc44) hC_1 rfl rfl rfl hl.1 (by simp [Value.category]) ⟨⟨rfl, rfl⟩, by decide, by decide⟩ ⟨by decide, by decide⟩ dX9_later_44 rfl (fun H locs E => ?_)
      refine W.eq (g2 := F0 m 47 ls (.int x44 :: [.int _, .ref _])) rfl ?_
      refine lv_aload_n C.1 C.2.1 dX9_later_47 rfl (lv_at hl 0 rfl) ?_
      refine fm_getr C E lf_X9_10 hC_0 rfl dX9_later_48 ?_
      obtain ⟨x51, hc51, hf⟩ := fm_bd hf
      refine fm_callV C E [] [.int _, .int _, .ref _] lm_X9_171 wk_X7_liveSet (c_Scene_liveSet l G N _ _  hc51) hC_1 rfl rfl rfl hl.1 (by simp [Value.category]) ⟨⟨rfl, rfl⟩, by decide, by decide⟩ ⟨by decide, by decide⟩ dX9_later_51 rfl (fun H locs E => ?_)
      refine W.eq (g2 := F0 m 54 ls (.int x51 :: [.int _, .int _, .ref _])) rfl ?_
      obtain ⟨⟨x54, M54⟩, hc54, hf⟩ := fm_bd hf
      dsimp only at hf
      refine fm_callV C E [.int _, .int _, .int _] [] lm_X9_269 wk_X1_find (c_Compass_find l G N _ _ _ _ _ _ hc54) hC_200 rfl rfl rfl hl.1 (by simp [Value.category]) ⟨⟨rfl, rfl⟩, by decide, by decide⟩ ⟨by decide, by decide⟩ dX9_later_54 rfl (fun H locs E => ?_)
      refine W.eq (g2 := F0 m 57 ls (.int x54 :: [])) rfl ?_
      refine lv_istore_n (lv' := [(2, .int _), (0, .ref _), (1, .int _)]) C.1 C.2.1 dX9_later_57 rfl hl (by decide) rfl (fun ls hl => ?_)
      refine lv_aload_n C.1 C.2.1 dX9_later_58 rfl (lv_at hl 1 rfl) ?_
      refine fm_getr C E lf_X9_53 hC_0 rfl dX9_later_59 ?_
      obtain ⟨M62, hc62, hf⟩ := fm_bd hf
      refine fm_callV C E [] [] lm_X9_225 wk_X8_clear (c_Told_clear l G _ _ hc62) hC_176 rfl rfl rfl hl.1 (by simp [Value.category]) ⟨⟨rfl, rfl⟩, by decide, by decide⟩ ⟨by decide, by decide⟩ dX9_later_62 rfl (fun H locs E => ?_)
      refine W.eq (g2 := F0 m 65 ls []) rfl ?_
      refine lv_aload_n C.1 C.2.1 dX9_later_65 rfl (lv_at hl 1 rfl) ?_
      refine fm_getr C E lf_X9_53 hC_0 rfl dX9_later_66 ?_
      refine lv_aload_n C.1 C.2.1 dX9_later_69 rfl (lv_at hl 1 rfl) ?_
      refine fm_getr C E lf_X9_80 hC_0 rfl dX9_later_70 ?_
      refine lv_iload_n C.1 C.2.1 dX9_later_73 rfl (lv_at hl 0 rfl) ?_
      obtain ⟨x74, hc74, hf⟩ := fm_bd hf
      refine fm_callV C E [.int _] [.ref _] lm_X9_272 wk_X1_agreement (c_Compass_agreement l G _ _ _  hc74) hC_200 rfl rfl rfl hl.1 (by simp [Value.category]) ⟨⟨rfl, rfl⟩, by decide, by decide⟩ ⟨by decide, by decide⟩ dX9_later_74 rfl (fun H locs E => ?_)
      refine W.eq (g2 := F0 m 77 ls (.int x74 :: [.ref _])) rfl ?_
      refine lv_i2l C.1 C.2.1 dX9_later_77 rfl ?_
      obtain ⟨M78, hc78, hf⟩ := fm_bd hf
      refine fm_callV C E [.long _] [] lm_X9_232 wk_X8_add (c_Told_add l G _ _ _ hc78) hC_176 rfl rfl rfl hl.1 (by simp [Value.category]) ⟨⟨rfl, rfl⟩, by decide, by decide⟩ ⟨by decide, by decide⟩ dX9_later_78 rfl (fun H locs E => ?_)
      refine W.eq (g2 := F0 m 81 ls []) rfl ?_
      refine lv_iload_n C.1 C.2.1 dX9_later_81 rfl (lv_at hl 0 rfl) ?_
      refine lv_bipush (v := 8) C.1 C.2.1 dX9_later_82 (by decide) ?_
      refine lv_iadd C.1 C.2.1 dX9_later_84 ?_
      obtain ⟨rfl, rfl⟩ := fm_rt2 hf
      exact fm_iret C E rfl rfl dX9_later_85
    · have hf := fm_in' hf hc21
      refine lv_bipush (v := (-2)) C.1 C.2.1 dX9_later_24 (by decide) ?_
      obtain ⟨rfl, rfl⟩ := fm_rt2 hf
      exact fm_iret C E rfl rfl dX9_later_26
  · have hf := fm_ip hf hc8
    refine lv_iconst (v := (-1)) C.1 C.2.1 dX9_later_11 (by decide) ?_
    obtain ⟨rfl, rfl⟩ := fm_rt2 hf
    exact fm_iret C E rfl rfl dX9_later_12
theorem dX9_settles_0 : decode cX9_settles 0 = .ok (.iload_n 1, 1) := by decide +kernel
theorem dX9_settles_1 : decode cX9_settles 1 = .ok (.invokestatic 157, 3) := by decide +kernel
theorem dX9_settles_4 : decode cX9_settles 4 = .ok (.ifCond .ne 5, 3) := by decide +kernel
theorem dX9_settles_7 : decode cX9_settles 7 = .ok (.iconst (-1), 1) := by decide +kernel
theorem dX9_settles_8 : decode cX9_settles 8 = .ok (.ireturn, 1) := by decide +kernel
theorem dX9_settles_9 : decode cX9_settles 9 = .ok (.aload_n 0, 1) := by decide +kernel
theorem dX9_settles_10 : decode cX9_settles 10 = .ok (.getfield 10, 3) := by decide +kernel
theorem dX9_settles_13 : decode cX9_settles 13 = .ok (.invokevirtual 266, 3) := by decide +kernel
theorem dX9_settles_16 : decode cX9_settles 16 = .ok (.iconst 2, 1) := by decide +kernel
theorem dX9_settles_17 : decode cX9_settles 17 = .ok (.if_icmp .ge 6, 3) := by decide +kernel
theorem dX9_settles_20 : decode cX9_settles 20 = .ok (.bipush (-2), 2) := by decide +kernel
theorem dX9_settles_22 : decode cX9_settles 22 = .ok (.ireturn, 1) := by decide +kernel
theorem dX9_settles_23 : decode cX9_settles 23 = .ok (.aload_n 0, 1) := by decide +kernel
theorem dX9_settles_24 : decode cX9_settles 24 = .ok (.getfield 62, 3) := by decide +kernel
theorem dX9_settles_27 : decode cX9_settles 27 = .ok (.iconst (-1), 1) := by decide +kernel
theorem dX9_settles_28 : decode cX9_settles 28 = .ok (.invokevirtual 150, 3) := by decide +kernel
theorem dX9_settles_31 : decode cX9_settles 31 = .ok (.aload_n 0, 1) := by decide +kernel
theorem dX9_settles_32 : decode cX9_settles 32 = .ok (.getfield 80, 3) := by decide +kernel
theorem dX9_settles_35 : decode cX9_settles 35 = .ok (.iload_n 1, 1) := by decide +kernel
theorem dX9_settles_36 : decode cX9_settles 36 = .ok (.aload_n 0, 1) := by decide +kernel
theorem dX9_settles_37 : decode cX9_settles 37 = .ok (.getfield 10, 3) := by decide +kernel
theorem dX9_settles_40 : decode cX9_settles 40 = .ok (.invokevirtual 208, 3) := by decide +kernel
theorem dX9_settles_43 : decode cX9_settles 43 = .ok (.aload_n 0, 1) := by decide +kernel
theorem dX9_settles_44 : decode cX9_settles 44 = .ok (.getfield 10, 3) := by decide +kernel
theorem dX9_settles_47 : decode cX9_settles 47 = .ok (.invokevirtual 171, 3) := by decide +kernel
theorem dX9_settles_50 : decode cX9_settles 50 = .ok (.invokevirtual 314, 3) := by decide +kernel
theorem dX9_settles_53 : decode cX9_settles 53 = .ok (.istore_n 2, 1) := by decide +kernel
theorem dX9_settles_54 : decode cX9_settles 54 = .ok (.iload_n 2, 1) := by decide +kernel
theorem dX9_settles_55 : decode cX9_settles 55 = .ok (.iconst (-1), 1) := by decide +kernel
theorem dX9_settles_56 : decode cX9_settles 56 = .ok (.if_icmp .ne 8, 3) := by decide +kernel
theorem dX9_settles_59 : decode cX9_settles 59 = .ok (.bipush (-2), 2) := by decide +kernel
theorem dX9_settles_61 : decode cX9_settles 61 = .ok (.goto 4, 3) := by decide +kernel
theorem dX9_settles_64 : decode cX9_settles 64 = .ok (.iload_n 2, 1) := by decide +kernel
theorem dX9_settles_65 : decode cX9_settles 65 = .ok (.ireturn, 1) := by decide +kernel
set_option maxHeartbeats 4000000 in
set_option maxRecDepth 100000 in
theorem c_MicRow_settles (l : Launch) (G : fm_G) (N : Nat) (M : fm_M) (v1 : Int32) (r : Int32) (M' : fm_M) (hf : pMicRow_settles N M v1 = some (r, M')) : fm_Met l yX9_settles cX9_settles 3 (some .int) { frames := 7, cells := 0, slots := 0, locals := 176 } shC G [.ref (G.2.1 0), .int v1] M (some (.int r)) M' := by
  refine fm_enter (by decide) (Nat.le_of_ble_eq_true rfl) ?_
  intro p e s m args below meth c ls C E hl
  have hl : lv_has ls 3 [(0, .ref (G.2.1 0)), (1, .int v1)] := hl
  unfold pMicRow_settles at hf
  refine lv_iload_n C.1 C.2.1 dX9_settles_0 rfl (lv_at hl 1 rfl) ?_
  obtain ⟨x1, hc1, hf⟩ := fm_bd hf
  refine fm_callS C E [.int _] [] lm_X9_157 wk_X9_isDirection (c_MicRow_isDirection l G _ _ _  hc1) rfl hl.1 (by simp [Value.category]) ⟨⟨rfl, rfl⟩, by decide, by decide⟩ ⟨by decide, by decide⟩ dX9_settles_1 rfl (fun H locs E => ?_)
  refine W.eq (g2 := F0 m 4 ls (.int x1 :: [])) rfl ?_
  refine lv_if_ne (tgt := 9) C.1 C.2.1 dX9_settles_4 (by decide) (fun hc4 => ?_) (fun hc4 => ?_)
  · have hf := fm_in' hf hc4
    refine lv_aload_n C.1 C.2.1 dX9_settles_9 rfl (lv_at hl 0 rfl) ?_
    refine fm_getr C E lf_X9_10 hC_0 rfl dX9_settles_10 ?_
    obtain ⟨x13, hc13, hf⟩ := fm_bd hf
    refine fm_callV C E [] [] lm_X9_266 wk_X7_liveCount (c_Scene_liveCount l G N _ _  hc13) hC_1 rfl rfl rfl hl.1 (by simp [Value.category]) ⟨⟨rfl, rfl⟩, by decide, by decide⟩ ⟨by decide, by decide⟩ dX9_settles_13 rfl (fun H locs E => ?_)
    refine W.eq (g2 := F0 m 16 ls (.int x13 :: [])) rfl ?_
    refine lv_iconst (v := 2) C.1 C.2.1 dX9_settles_16 (by decide) ?_
    refine lv_icmp_ge (tgt := 23) C.1 C.2.1 dX9_settles_17 (by decide) (fun hc17 => ?_) (fun hc17 => ?_)
    · have hf := fm_ip hf hc17
      refine lv_aload_n C.1 C.2.1 dX9_settles_23 rfl (lv_at hl 0 rfl) ?_
      refine fm_getr C E lf_X9_62 hC_0 rfl dX9_settles_24 ?_
      refine lv_iconst (v := (-1)) C.1 C.2.1 dX9_settles_27 (by decide) ?_
      obtain ⟨M28, hc28, hf⟩ := fm_bd hf
      refine fm_callV C E [.int _] [] lm_X9_150 wk_X3_listenTo (c_Ears_listenTo l G _ _ _ hc28) hC_178 rfl rfl rfl hl.1 (by simp [Value.category]) ⟨⟨rfl, rfl⟩, by decide, by decide⟩ ⟨by decide, by decide⟩ dX9_settles_28 rfl (fun H locs E => ?_)
      refine W.eq (g2 := F0 m 31 ls []) rfl ?_
      refine lv_aload_n C.1 C.2.1 dX9_settles_31 rfl (lv_at hl 0 rfl) ?_
      refine fm_getr C E lf_X9_80 hC_0 rfl dX9_settles_32 ?_
      refine lv_iload_n C.1 C.2.1 dX9_settles_35 rfl (lv_at hl 1 rfl) ?_
      refine lv_aload_n C.1 C.2.1 dX9_settles_36 rfl (lv_at hl 0 rfl) ?_
      refine fm_getr C E lf_X9_10 hC_0 rfl dX9_settles_37 ?_
      obtain ⟨x40, hc40, hf⟩ := fm_bd hf
      refine fm_callV C E [] [.int _, .ref _] lm_X9_208 wk_X7_begin (c_Scene_begin l G _ _  hc40) hC_1 rfl rfl rfl hl.1 (by simp [Value.category]) ⟨⟨rfl, rfl⟩, by decide, by decide⟩ ⟨by decide, by decide⟩ dX9_settles_40 rfl (fun H locs E => ?_)
      refine W.eq (g2 := F0 m 43 ls (.int x40 :: [.int _, .ref _])) rfl ?_
      refine lv_aload_n C.1 C.2.1 dX9_settles_43 rfl (lv_at hl 0 rfl) ?_
      refine fm_getr C E lf_X9_10 hC_0 rfl dX9_settles_44 ?_
      obtain ⟨x47, hc47, hf⟩ := fm_bd hf
      refine fm_callV C E [] [.int _, .int _, .ref _] lm_X9_171 wk_X7_liveSet (c_Scene_liveSet l G N _ _  hc47) hC_1 rfl rfl rfl hl.1 (by simp [Value.category]) ⟨⟨rfl, rfl⟩, by decide, by decide⟩ ⟨by decide, by decide⟩ dX9_settles_47 rfl (fun H locs E => ?_)
      refine W.eq (g2 := F0 m 50 ls (.int x47 :: [.int _, .int _, .ref _])) rfl ?_
      obtain ⟨⟨x50, M50⟩, hc50, hf⟩ := fm_bd hf
      dsimp only at hf
      refine fm_callV C E [.int _, .int _, .int _] [] lm_X9_314 wk_X1_leastLong (c_Compass_leastLong l G N _ _ _ _ _ _ hc50) hC_200 rfl rfl rfl hl.1 (by simp [Value.category]) ⟨⟨rfl, rfl⟩, by decide, by decide⟩ ⟨by decide, by decide⟩ dX9_settles_50 rfl (fun H locs E => ?_)
      refine W.eq (g2 := F0 m 53 ls (.int x50 :: [])) rfl ?_
      refine lv_istore_n (lv' := [(2, .int _), (0, .ref _), (1, .int _)]) C.1 C.2.1 dX9_settles_53 rfl hl (by decide) rfl (fun ls hl => ?_)
      refine lv_iload_n C.1 C.2.1 dX9_settles_54 rfl (lv_at hl 0 rfl) ?_
      refine lv_iconst (v := (-1)) C.1 C.2.1 dX9_settles_55 (by decide) ?_
      refine lv_icmp_ne (tgt := 64) C.1 C.2.1 dX9_settles_56 (by decide) (fun hc56 => ?_) (fun hc56 => ?_)
      · have hf := fm_in' hf hc56
        refine lv_iload_n C.1 C.2.1 dX9_settles_64 rfl (lv_at hl 0 rfl) ?_
        obtain ⟨rfl, rfl⟩ := fm_rt2 hf
        exact fm_iret C E rfl rfl dX9_settles_65
      · have hf := fm_ip hf hc56
        refine lv_bipush (v := (-2)) C.1 C.2.1 dX9_settles_59 (by decide) ?_
        refine lv_goto (tgt := 65) C.1 C.2.1 dX9_settles_61 (by decide) ?_
        obtain ⟨rfl, rfl⟩ := fm_rt2 hf
        exact fm_iret C E rfl rfl dX9_settles_65
    · have hf := fm_in' hf hc17
      refine lv_bipush (v := (-2)) C.1 C.2.1 dX9_settles_20 (by decide) ?_
      obtain ⟨rfl, rfl⟩ := fm_rt2 hf
      exact fm_iret C E rfl rfl dX9_settles_22
  · have hf := fm_ip hf hc4
    refine lv_iconst (v := (-1)) C.1 C.2.1 dX9_settles_7 (by decide) ?_
    obtain ⟨rfl, rfl⟩ := fm_rt2 hf
    exact fm_iret C E rfl rfl dX9_settles_8
theorem dX9_learns_0 : decode cX9_learns 0 = .ok (.aload_n 0, 1) := by decide +kernel
theorem dX9_learns_1 : decode cX9_learns 1 = .ok (.getfield 16, 3) := by decide +kernel
theorem dX9_learns_4 : decode cX9_learns 4 = .ok (.aload_n 0, 1) := by decide +kernel
theorem dX9_learns_5 : decode cX9_learns 5 = .ok (.getfield 10, 3) := by decide +kernel
theorem dX9_learns_8 : decode cX9_learns 8 = .ok (.invokevirtual 99, 3) := by decide +kernel
theorem dX9_learns_11 : decode cX9_learns 11 = .ok (.aload_n 0, 1) := by decide +kernel
theorem dX9_learns_12 : decode cX9_learns 12 = .ok (.aload_n 0, 1) := by decide +kernel
theorem dX9_learns_13 : decode cX9_learns 13 = .ok (.invokevirtual 326, 3) := by decide +kernel
theorem dX9_learns_16 : decode cX9_learns 16 = .ok (.invokevirtual 106, 3) := by decide +kernel
theorem dX9_learns_19 : decode cX9_learns 19 = .ok (.ireturn, 1) := by decide +kernel
set_option maxHeartbeats 4000000 in
set_option maxRecDepth 100000 in
theorem c_MicRow_learns (l : Launch) (G : fm_G) (N : Nat) (M : fm_M) (r : Int32) (M' : fm_M) (hf : pMicRow_learns N M = some (r, M')) : fm_Met l yX9_learns cX9_learns 1 (some .int) { frames := 6, cells := 0, slots := 0, locals := 143 } shC G [.ref (G.2.1 0)] M (some (.int r)) M' := by
  refine fm_enter (by decide) (Nat.le_of_ble_eq_true rfl) ?_
  intro p e s m args below meth c ls C E hl
  have hl : lv_has ls 1 [(0, .ref (G.2.1 0))] := hl
  unfold pMicRow_learns at hf
  refine lv_aload_n C.1 C.2.1 dX9_learns_0 rfl (lv_at hl 0 rfl) ?_
  refine fm_getr C E lf_X9_16 hC_0 rfl dX9_learns_1 ?_
  refine lv_aload_n C.1 C.2.1 dX9_learns_4 rfl (lv_at hl 0 rfl) ?_
  refine fm_getr C E lf_X9_10 hC_0 rfl dX9_learns_5 ?_
  obtain ⟨M8, hc8, hf⟩ := fm_bd hf
  refine fm_callV C E [.ref _] [] lm_X9_99 wk_X7_copyFrom (c_Scene_copyFrom l G N _ _ _ _ hc8) hC_15 rfl rfl rfl hl.1 (by simp [Value.category]) ⟨⟨rfl, rfl⟩, by decide, by decide⟩ ⟨by decide, by decide⟩ dX9_learns_8 rfl (fun H locs E => ?_)
  refine W.eq (g2 := F0 m 11 ls []) rfl ?_
  refine lv_aload_n C.1 C.2.1 dX9_learns_11 rfl (lv_at hl 0 rfl) ?_
  refine lv_aload_n C.1 C.2.1 dX9_learns_12 rfl (lv_at hl 0 rfl) ?_
  obtain ⟨⟨x13, M13⟩, hc13, hf⟩ := fm_bd hf
  dsimp only at hf
  refine fm_callV C E [] [.ref _] lm_X9_326 wk_X9_learnEqual (c_MicRow_learnEqual l G N _ _ _ hc13) hC_0 rfl rfl rfl hl.1 (by simp [Value.category]) ⟨⟨rfl, rfl⟩, by decide, by decide⟩ ⟨by decide, by decide⟩ dX9_learns_13 rfl (fun H locs E => ?_)
  refine W.eq (g2 := F0 m 16 ls (.int x13 :: [.ref _])) rfl ?_
  obtain ⟨⟨x16, M16⟩, hc16, hf⟩ := fm_bd hf
  dsimp only at hf
  refine fm_callV C E [.int _] [] lm_X9_106 wk_X9_settleChange (c_MicRow_settleChange l G N _ _ _ _ hc16) hC_0 rfl rfl rfl hl.1 (by simp [Value.category]) ⟨⟨rfl, rfl⟩, by decide, by decide⟩ ⟨by decide, by decide⟩ dX9_learns_16 rfl (fun H locs E => ?_)
  refine W.eq (g2 := F0 m 19 ls (.int x16 :: [])) rfl ?_
  obtain ⟨rfl, rfl⟩ := fm_rt2 hf
  exact fm_iret C E rfl rfl dX9_learns_19
theorem dX9_sorts_0 : decode cX9_sorts 0 = .ok (.aload_n 0, 1) := by decide +kernel
theorem dX9_sorts_1 : decode cX9_sorts 1 = .ok (.getfield 16, 3) := by decide +kernel
theorem dX9_sorts_4 : decode cX9_sorts 4 = .ok (.aload_n 0, 1) := by decide +kernel
theorem dX9_sorts_5 : decode cX9_sorts 5 = .ok (.getfield 10, 3) := by decide +kernel
theorem dX9_sorts_8 : decode cX9_sorts 8 = .ok (.invokevirtual 99, 3) := by decide +kernel
theorem dX9_sorts_11 : decode cX9_sorts 11 = .ok (.aload_n 0, 1) := by decide +kernel
theorem dX9_sorts_12 : decode cX9_sorts 12 = .ok (.aload_n 0, 1) := by decide +kernel
theorem dX9_sorts_13 : decode cX9_sorts 13 = .ok (.iload_n 1, 1) := by decide +kernel
theorem dX9_sorts_14 : decode cX9_sorts 14 = .ok (.invokevirtual 329, 3) := by decide +kernel
theorem dX9_sorts_17 : decode cX9_sorts 17 = .ok (.invokevirtual 106, 3) := by decide +kernel
theorem dX9_sorts_20 : decode cX9_sorts 20 = .ok (.ireturn, 1) := by decide +kernel
set_option maxHeartbeats 4000000 in
set_option maxRecDepth 100000 in
theorem c_MicRow_sorts (l : Launch) (G : fm_G) (N : Nat) (M : fm_M) (v1 : Int32) (r : Int32) (M' : fm_M) (hf : pMicRow_sorts N M v1 = some (r, M')) : fm_Met l yX9_sorts cX9_sorts 2 (some .int) { frames := 6, cells := 0, slots := 0, locals := 144 } shC G [.ref (G.2.1 0), .int v1] M (some (.int r)) M' := by
  refine fm_enter (by decide) (Nat.le_of_ble_eq_true rfl) ?_
  intro p e s m args below meth c ls C E hl
  have hl : lv_has ls 2 [(0, .ref (G.2.1 0)), (1, .int v1)] := hl
  unfold pMicRow_sorts at hf
  refine lv_aload_n C.1 C.2.1 dX9_sorts_0 rfl (lv_at hl 0 rfl) ?_
  refine fm_getr C E lf_X9_16 hC_0 rfl dX9_sorts_1 ?_
  refine lv_aload_n C.1 C.2.1 dX9_sorts_4 rfl (lv_at hl 0 rfl) ?_
  refine fm_getr C E lf_X9_10 hC_0 rfl dX9_sorts_5 ?_
  obtain ⟨M8, hc8, hf⟩ := fm_bd hf
  refine fm_callV C E [.ref _] [] lm_X9_99 wk_X7_copyFrom (c_Scene_copyFrom l G N _ _ _ _ hc8) hC_15 rfl rfl rfl hl.1 (by simp [Value.category]) ⟨⟨rfl, rfl⟩, by decide, by decide⟩ ⟨by decide, by decide⟩ dX9_sorts_8 rfl (fun H locs E => ?_)
  refine W.eq (g2 := F0 m 11 ls []) rfl ?_
  refine lv_aload_n C.1 C.2.1 dX9_sorts_11 rfl (lv_at hl 0 rfl) ?_
  refine lv_aload_n C.1 C.2.1 dX9_sorts_12 rfl (lv_at hl 0 rfl) ?_
  refine lv_iload_n C.1 C.2.1 dX9_sorts_13 rfl (lv_at hl 1 rfl) ?_
  obtain ⟨⟨x14, M14⟩, hc14, hf⟩ := fm_bd hf
  dsimp only at hf
  refine fm_callV C E [.int _] [.ref _] lm_X9_329 wk_X9_sortOut (c_MicRow_sortOut l G N _ _ _ _ hc14) hC_0 rfl rfl rfl hl.1 (by simp [Value.category]) ⟨⟨rfl, rfl⟩, by decide, by decide⟩ ⟨by decide, by decide⟩ dX9_sorts_14 rfl (fun H locs E => ?_)
  refine W.eq (g2 := F0 m 17 ls (.int x14 :: [.ref _])) rfl ?_
  obtain ⟨⟨x17, M17⟩, hc17, hf⟩ := fm_bd hf
  dsimp only at hf
  refine fm_callV C E [.int _] [] lm_X9_106 wk_X9_settleChange (c_MicRow_settleChange l G N _ _ _ _ hc17) hC_0 rfl rfl rfl hl.1 (by simp [Value.category]) ⟨⟨rfl, rfl⟩, by decide, by decide⟩ ⟨by decide, by decide⟩ dX9_sorts_17 rfl (fun H locs E => ?_)
  refine W.eq (g2 := F0 m 20 ls (.int x17 :: [])) rfl ?_
  obtain ⟨rfl, rfl⟩ := fm_rt2 hf
  exact fm_iret C E rfl rfl dX9_sorts_20
theorem dX9_act_0 : decode cX9_act 0 = .ok (.aload_n 0, 1) := by decide +kernel
theorem dX9_act_1 : decode cX9_act 1 = .ok (.getfield 37, 3) := by decide +kernel
theorem dX9_act_4 : decode cX9_act 4 = .ok (.iload_n 1, 1) := by decide +kernel
theorem dX9_act_5 : decode cX9_act 5 = .ok (.iconst 1, 1) := by decide +kernel
theorem dX9_act_6 : decode cX9_act 6 = .ok (.iadd, 1) := by decide +kernel
theorem dX9_act_7 : decode cX9_act 7 = .ok (.invokevirtual 358, 3) := by decide +kernel
theorem dX9_act_10 : decode cX9_act 10 = .ok (.istore_n 2, 1) := by decide +kernel
theorem dX9_act_11 : decode cX9_act 11 = .ok (.aload_n 0, 1) := by decide +kernel
theorem dX9_act_12 : decode cX9_act 12 = .ok (.getfield 37, 3) := by decide +kernel
theorem dX9_act_15 : decode cX9_act 15 = .ok (.iload_n 1, 1) := by decide +kernel
theorem dX9_act_16 : decode cX9_act 16 = .ok (.invokevirtual 346, 3) := by decide +kernel
theorem dX9_act_19 : decode cX9_act 19 = .ok (.tableswitch 267 97 119 #[247, 206, 186, 146, 267, 267, 105, 267, 267, 267, 267, 226, 267, 267, 166, 267, 267, 267, 231, 267, 267, 267, 126], 105) := by decide +kernel
theorem dX9_act_124 : decode cX9_act 124 = .ok (.aload_n 0, 1) := by decide +kernel
theorem dX9_act_125 : decode cX9_act 125 = .ok (.getfield 10, 3) := by decide +kernel
theorem dX9_act_128 : decode cX9_act 128 = .ok (.iload_n 2, 1) := by decide +kernel
theorem dX9_act_129 : decode cX9_act 129 = .ok (.iconst 1, 1) := by decide +kernel
theorem dX9_act_130 : decode cX9_act 130 = .ok (.aload_n 0, 1) := by decide +kernel
theorem dX9_act_131 : decode cX9_act 131 = .ok (.getfield 37, 3) := by decide +kernel
theorem dX9_act_134 : decode cX9_act 134 = .ok (.iload_n 1, 1) := by decide +kernel
theorem dX9_act_135 : decode cX9_act 135 = .ok (.iconst 2, 1) := by decide +kernel
theorem dX9_act_136 : decode cX9_act 136 = .ok (.iadd, 1) := by decide +kernel
theorem dX9_act_137 : decode cX9_act 137 = .ok (.iconst 3, 1) := by decide +kernel
theorem dX9_act_138 : decode cX9_act 138 = .ok (.invokevirtual 361, 3) := by decide +kernel
theorem dX9_act_141 : decode cX9_act 141 = .ok (.invokevirtual 134, 3) := by decide +kernel
theorem dX9_act_144 : decode cX9_act 144 = .ok (.ireturn, 1) := by decide +kernel
theorem dX9_act_145 : decode cX9_act 145 = .ok (.aload_n 0, 1) := by decide +kernel
theorem dX9_act_146 : decode cX9_act 146 = .ok (.getfield 10, 3) := by decide +kernel
theorem dX9_act_149 : decode cX9_act 149 = .ok (.iload_n 2, 1) := by decide +kernel
theorem dX9_act_150 : decode cX9_act 150 = .ok (.iconst 2, 1) := by decide +kernel
theorem dX9_act_151 : decode cX9_act 151 = .ok (.aload_n 0, 1) := by decide +kernel
theorem dX9_act_152 : decode cX9_act 152 = .ok (.getfield 37, 3) := by decide +kernel
theorem dX9_act_155 : decode cX9_act 155 = .ok (.iload_n 1, 1) := by decide +kernel
theorem dX9_act_156 : decode cX9_act 156 = .ok (.iconst 2, 1) := by decide +kernel
theorem dX9_act_157 : decode cX9_act 157 = .ok (.iadd, 1) := by decide +kernel
theorem dX9_act_158 : decode cX9_act 158 = .ok (.invokevirtual 358, 3) := by decide +kernel
theorem dX9_act_161 : decode cX9_act 161 = .ok (.invokevirtual 134, 3) := by decide +kernel
theorem dX9_act_164 : decode cX9_act 164 = .ok (.ireturn, 1) := by decide +kernel
theorem dX9_act_165 : decode cX9_act 165 = .ok (.aload_n 0, 1) := by decide +kernel
theorem dX9_act_166 : decode cX9_act 166 = .ok (.getfield 10, 3) := by decide +kernel
theorem dX9_act_169 : decode cX9_act 169 = .ok (.iload_n 2, 1) := by decide +kernel
theorem dX9_act_170 : decode cX9_act 170 = .ok (.iconst 4, 1) := by decide +kernel
theorem dX9_act_171 : decode cX9_act 171 = .ok (.aload_n 0, 1) := by decide +kernel
theorem dX9_act_172 : decode cX9_act 172 = .ok (.getfield 37, 3) := by decide +kernel
theorem dX9_act_175 : decode cX9_act 175 = .ok (.iload_n 1, 1) := by decide +kernel
theorem dX9_act_176 : decode cX9_act 176 = .ok (.iconst 2, 1) := by decide +kernel
theorem dX9_act_177 : decode cX9_act 177 = .ok (.iadd, 1) := by decide +kernel
theorem dX9_act_178 : decode cX9_act 178 = .ok (.invokevirtual 358, 3) := by decide +kernel
theorem dX9_act_181 : decode cX9_act 181 = .ok (.invokevirtual 134, 3) := by decide +kernel
theorem dX9_act_184 : decode cX9_act 184 = .ok (.ireturn, 1) := by decide +kernel
theorem dX9_act_185 : decode cX9_act 185 = .ok (.aload_n 0, 1) := by decide +kernel
theorem dX9_act_186 : decode cX9_act 186 = .ok (.getfield 10, 3) := by decide +kernel
theorem dX9_act_189 : decode cX9_act 189 = .ok (.iload_n 2, 1) := by decide +kernel
theorem dX9_act_190 : decode cX9_act 190 = .ok (.iconst 5, 1) := by decide +kernel
theorem dX9_act_191 : decode cX9_act 191 = .ok (.aload_n 0, 1) := by decide +kernel
theorem dX9_act_192 : decode cX9_act 192 = .ok (.getfield 37, 3) := by decide +kernel
theorem dX9_act_195 : decode cX9_act 195 = .ok (.iload_n 1, 1) := by decide +kernel
theorem dX9_act_196 : decode cX9_act 196 = .ok (.iconst 2, 1) := by decide +kernel
theorem dX9_act_197 : decode cX9_act 197 = .ok (.iadd, 1) := by decide +kernel
theorem dX9_act_198 : decode cX9_act 198 = .ok (.invokevirtual 358, 3) := by decide +kernel
theorem dX9_act_201 : decode cX9_act 201 = .ok (.invokevirtual 134, 3) := by decide +kernel
theorem dX9_act_204 : decode cX9_act 204 = .ok (.ireturn, 1) := by decide +kernel
theorem dX9_act_205 : decode cX9_act 205 = .ok (.aload_n 0, 1) := by decide +kernel
theorem dX9_act_206 : decode cX9_act 206 = .ok (.getfield 10, 3) := by decide +kernel
theorem dX9_act_209 : decode cX9_act 209 = .ok (.iconst 0, 1) := by decide +kernel
theorem dX9_act_210 : decode cX9_act 210 = .ok (.aload_n 0, 1) := by decide +kernel
theorem dX9_act_211 : decode cX9_act 211 = .ok (.getfield 37, 3) := by decide +kernel
theorem dX9_act_214 : decode cX9_act 214 = .ok (.iload_n 1, 1) := by decide +kernel
theorem dX9_act_215 : decode cX9_act 215 = .ok (.iconst 1, 1) := by decide +kernel
theorem dX9_act_216 : decode cX9_act 216 = .ok (.iadd, 1) := by decide +kernel
theorem dX9_act_217 : decode cX9_act 217 = .ok (.iconst 4, 1) := by decide +kernel
theorem dX9_act_218 : decode cX9_act 218 = .ok (.invokevirtual 361, 3) := by decide +kernel
theorem dX9_act_221 : decode cX9_act 221 = .ok (.invokevirtual 320, 3) := by decide +kernel
theorem dX9_act_224 : decode cX9_act 224 = .ok (.ireturn, 1) := by decide +kernel
theorem dX9_act_225 : decode cX9_act 225 = .ok (.aload_n 0, 1) := by decide +kernel
theorem dX9_act_226 : decode cX9_act 226 = .ok (.getfield 10, 3) := by decide +kernel
theorem dX9_act_229 : decode cX9_act 229 = .ok (.iconst 1, 1) := by decide +kernel
theorem dX9_act_230 : decode cX9_act 230 = .ok (.aload_n 0, 1) := by decide +kernel
theorem dX9_act_231 : decode cX9_act 231 = .ok (.getfield 37, 3) := by decide +kernel
theorem dX9_act_234 : decode cX9_act 234 = .ok (.iload_n 1, 1) := by decide +kernel
theorem dX9_act_235 : decode cX9_act 235 = .ok (.iconst 1, 1) := by decide +kernel
theorem dX9_act_236 : decode cX9_act 236 = .ok (.iadd, 1) := by decide +kernel
theorem dX9_act_237 : decode cX9_act 237 = .ok (.iconst 3, 1) := by decide +kernel
theorem dX9_act_238 : decode cX9_act 238 = .ok (.invokevirtual 361, 3) := by decide +kernel
theorem dX9_act_241 : decode cX9_act 241 = .ok (.invokevirtual 320, 3) := by decide +kernel
theorem dX9_act_244 : decode cX9_act 244 = .ok (.ireturn, 1) := by decide +kernel
theorem dX9_act_245 : decode cX9_act 245 = .ok (.aload_n 0, 1) := by decide +kernel
theorem dX9_act_246 : decode cX9_act 246 = .ok (.invokevirtual 326, 3) := by decide +kernel
theorem dX9_act_249 : decode cX9_act 249 = .ok (.ireturn, 1) := by decide +kernel
theorem dX9_act_250 : decode cX9_act 250 = .ok (.aload_n 0, 1) := by decide +kernel
theorem dX9_act_251 : decode cX9_act 251 = .ok (.aload_n 0, 1) := by decide +kernel
theorem dX9_act_252 : decode cX9_act 252 = .ok (.getfield 37, 3) := by decide +kernel
theorem dX9_act_255 : decode cX9_act 255 = .ok (.iload_n 1, 1) := by decide +kernel
theorem dX9_act_256 : decode cX9_act 256 = .ok (.iconst 1, 1) := by decide +kernel
theorem dX9_act_257 : decode cX9_act 257 = .ok (.iadd, 1) := by decide +kernel
theorem dX9_act_258 : decode cX9_act 258 = .ok (.iconst 2, 1) := by decide +kernel
theorem dX9_act_259 : decode cX9_act 259 = .ok (.invokevirtual 361, 3) := by decide +kernel
theorem dX9_act_262 : decode cX9_act 262 = .ok (.invokevirtual 329, 3) := by decide +kernel
theorem dX9_act_265 : decode cX9_act 265 = .ok (.ireturn, 1) := by decide +kernel
theorem dX9_act_266 : decode cX9_act 266 = .ok (.aload_n 0, 1) := by decide +kernel
theorem dX9_act_267 : decode cX9_act 267 = .ok (.getfield 10, 3) := by decide +kernel
theorem dX9_act_270 : decode cX9_act 270 = .ok (.iload_n 2, 1) := by decide +kernel
theorem dX9_act_271 : decode cX9_act 271 = .ok (.iconst 0, 1) := by decide +kernel
theorem dX9_act_272 : decode cX9_act 272 = .ok (.aload_n 0, 1) := by decide +kernel
theorem dX9_act_273 : decode cX9_act 273 = .ok (.getfield 37, 3) := by decide +kernel
theorem dX9_act_276 : decode cX9_act 276 = .ok (.iload_n 1, 1) := by decide +kernel
theorem dX9_act_277 : decode cX9_act 277 = .ok (.iconst 2, 1) := by decide +kernel
theorem dX9_act_278 : decode cX9_act 278 = .ok (.iadd, 1) := by decide +kernel
theorem dX9_act_279 : decode cX9_act 279 = .ok (.invokevirtual 364, 3) := by decide +kernel
theorem dX9_act_282 : decode cX9_act 282 = .ok (.invokevirtual 332, 3) := by decide +kernel
theorem dX9_act_285 : decode cX9_act 285 = .ok (.ireturn, 1) := by decide +kernel
theorem dX9_act_286 : decode cX9_act 286 = .ok (.iconst (-1), 1) := by decide +kernel
theorem dX9_act_287 : decode cX9_act 287 = .ok (.ireturn, 1) := by decide +kernel
set_option maxHeartbeats 4000000 in
set_option maxRecDepth 100000 in
theorem c_MicRow_act (l : Launch) (G : fm_G) (N : Nat) (M : fm_M) (v1 : Int32) (r : Int32) (M' : fm_M) (hf : pMicRow_act N M v1 = some (r, M')) : fm_Met l yX9_act cX9_act 3 (some .int) { frames := 6, cells := 0, slots := 0, locals := 144 } shC G [.ref (G.2.1 0), .int v1] M (some (.int r)) M' := by
  refine fm_enter (by decide) (Nat.le_of_ble_eq_true rfl) ?_
  intro p e s m args below meth c ls C E hl
  have hl : lv_has ls 3 [(0, .ref (G.2.1 0)), (1, .int v1)] := hl
  unfold pMicRow_act at hf
  refine lv_aload_n C.1 C.2.1 dX9_act_0 rfl (lv_at hl 0 rfl) ?_
  refine fm_getr C E lf_X9_37 hC_0 rfl dX9_act_1 ?_
  refine lv_iload_n C.1 C.2.1 dX9_act_4 rfl (lv_at hl 1 rfl) ?_
  refine lv_iconst (v := 1) C.1 C.2.1 dX9_act_5 (by decide) ?_
  refine lv_iadd C.1 C.2.1 dX9_act_6 ?_
  obtain ⟨x7, hc7, hf⟩ := fm_bd hf
  refine fm_callV C E [.int _] [] lm_X9_358 wk_X4_digit (c_Letters_digit l G _ _ _  hc7) hC_173 rfl rfl rfl hl.1 (by simp [Value.category]) ⟨⟨rfl, rfl⟩, by decide, by decide⟩ ⟨by decide, by decide⟩ dX9_act_7 rfl (fun H locs E => ?_)
  refine W.eq (g2 := F0 m 10 ls (.int x7 :: [])) rfl ?_
  refine lv_istore_n (lv' := [(2, .int _), (0, .ref _), (1, .int _)]) C.1 C.2.1 dX9_act_10 rfl hl (by decide) rfl (fun ls hl => ?_)
  refine lv_aload_n C.1 C.2.1 dX9_act_11 rfl (lv_at hl 1 rfl) ?_
  refine fm_getr C E lf_X9_37 hC_0 rfl dX9_act_12 ?_
  refine lv_iload_n C.1 C.2.1 dX9_act_15 rfl (lv_at hl 2 rfl) ?_
  obtain ⟨x16, hc16, hf⟩ := fm_bd hf
  refine fm_callV C E [.int _] [] lm_X9_346 wk_X4_at (c_Letters_at l G _ _ _  hc16) hC_173 rfl rfl rfl hl.1 (by simp [Value.category]) ⟨⟨rfl, rfl⟩, by decide, by decide⟩ ⟨by decide, by decide⟩ dX9_act_16 rfl (fun H locs E => ?_)
  refine W.eq (g2 := F0 m 19 ls (.int x16 :: [])) rfl ?_
  rcases fm_io hf with ⟨hs19_97, hf⟩ | ⟨hs19_97, hf⟩
  · refine fm_tcase C dX9_act_19 hs19_97 (by decide) (by decide) (off := 247) (by decide) (tgt := 266) (by decide) ?_
    refine lv_aload_n C.1 C.2.1 dX9_act_266 rfl (lv_at hl 1 rfl) ?_
    refine fm_getr C E lf_X9_10 hC_0 rfl dX9_act_267 ?_
    refine lv_iload_n C.1 C.2.1 dX9_act_270 rfl (lv_at hl 0 rfl) ?_
    refine lv_iconst (v := 0) C.1 C.2.1 dX9_act_271 (by decide) ?_
    refine lv_aload_n C.1 C.2.1 dX9_act_272 rfl (lv_at hl 1 rfl) ?_
    refine fm_getr C E lf_X9_37 hC_0 rfl dX9_act_273 ?_
    refine lv_iload_n C.1 C.2.1 dX9_act_276 rfl (lv_at hl 2 rfl) ?_
    refine lv_iconst (v := 2) C.1 C.2.1 dX9_act_277 (by decide) ?_
    refine lv_iadd C.1 C.2.1 dX9_act_278 ?_
    obtain ⟨x279, hc279, hf⟩ := fm_bd hf
    refine fm_callV C E [.int _] [.int _, .int _, .ref _] lm_X9_364 wk_X4_signedDigit (c_Letters_signedDigit l G _ _ _  hc279) hC_173 rfl rfl rfl hl.1 (by simp [Value.category]) ⟨⟨rfl, rfl⟩, by decide, by decide⟩ ⟨by decide, by decide⟩ dX9_act_279 rfl (fun H locs E => ?_)
    refine W.eq (g2 := F0 m 282 ls (.int x279 :: [.int _, .int _, .ref _])) rfl ?_
    obtain ⟨⟨x282, M282⟩, hc282, hf⟩ := fm_bd hf
    dsimp only at hf
    refine fm_callV C E [.int _, .int _, .int _] [] lm_X9_332 wk_X7_aim (c_Scene_aim l G _ _ _ _ _ _ hc282) hC_1 rfl rfl rfl hl.1 (by simp [Value.category]) ⟨⟨rfl, rfl⟩, by decide, by decide⟩ ⟨by decide, by decide⟩ dX9_act_282 rfl (fun H locs E => ?_)
    refine W.eq (g2 := F0 m 285 ls (.int x282 :: [])) rfl ?_
    obtain ⟨rfl, rfl⟩ := fm_rt2 hf
    exact fm_iret C E rfl rfl dX9_act_285
  · rcases fm_io hf with ⟨hs19_98, hf⟩ | ⟨hs19_98, hf⟩
    · refine fm_tcase C dX9_act_19 hs19_98 (by decide) (by decide) (off := 206) (by decide) (tgt := 225) (by decide) ?_
      refine lv_aload_n C.1 C.2.1 dX9_act_225 rfl (lv_at hl 1 rfl) ?_
      refine fm_getr C E lf_X9_10 hC_0 rfl dX9_act_226 ?_
      refine lv_iconst (v := 1) C.1 C.2.1 dX9_act_229 (by decide) ?_
      refine lv_aload_n C.1 C.2.1 dX9_act_230 rfl (lv_at hl 1 rfl) ?_
      refine fm_getr C E lf_X9_37 hC_0 rfl dX9_act_231 ?_
      refine lv_iload_n C.1 C.2.1 dX9_act_234 rfl (lv_at hl 2 rfl) ?_
      refine lv_iconst (v := 1) C.1 C.2.1 dX9_act_235 (by decide) ?_
      refine lv_iadd C.1 C.2.1 dX9_act_236 ?_
      refine lv_iconst (v := 3) C.1 C.2.1 dX9_act_237 (by decide) ?_
      obtain ⟨x238, hc238, hf⟩ := fm_bd hf
      refine fm_callV C E [.int _, .int _] [.int _, .ref _] lm_X9_361 wk_X4_number (c_Letters_number l G N _ _ _ _  hc238) hC_173 rfl rfl rfl hl.1 (by simp [Value.category]) ⟨⟨rfl, rfl⟩, by decide, by decide⟩ ⟨by decide, by decide⟩ dX9_act_238 rfl (fun H locs E => ?_)
      refine W.eq (g2 := F0 m 241 ls (.int x238 :: [.int _, .ref _])) rfl ?_
      obtain ⟨⟨x241, M241⟩, hc241, hf⟩ := fm_bd hf
      dsimp only at hf
      refine fm_callV C E [.int _, .int _] [] lm_X9_320 wk_X7_hold (c_Scene_hold l G _ _ _ _ _ hc241) hC_1 rfl rfl rfl hl.1 (by simp [Value.category]) ⟨⟨rfl, rfl⟩, by decide, by decide⟩ ⟨by decide, by decide⟩ dX9_act_241 rfl (fun H locs E => ?_)
      refine W.eq (g2 := F0 m 244 ls (.int x241 :: [])) rfl ?_
      obtain ⟨rfl, rfl⟩ := fm_rt2 hf
      exact fm_iret C E rfl rfl dX9_act_244
    · rcases fm_io hf with ⟨hs19_99, hf⟩ | ⟨hs19_99, hf⟩
      · refine fm_tcase C dX9_act_19 hs19_99 (by decide) (by decide) (off := 186) (by decide) (tgt := 205) (by decide) ?_
        refine lv_aload_n C.1 C.2.1 dX9_act_205 rfl (lv_at hl 1 rfl) ?_
        refine fm_getr C E lf_X9_10 hC_0 rfl dX9_act_206 ?_
        refine lv_iconst (v := 0) C.1 C.2.1 dX9_act_209 (by decide) ?_
        refine lv_aload_n C.1 C.2.1 dX9_act_210 rfl (lv_at hl 1 rfl) ?_
        refine fm_getr C E lf_X9_37 hC_0 rfl dX9_act_211 ?_
        refine lv_iload_n C.1 C.2.1 dX9_act_214 rfl (lv_at hl 2 rfl) ?_
        refine lv_iconst (v := 1) C.1 C.2.1 dX9_act_215 (by decide) ?_
        refine lv_iadd C.1 C.2.1 dX9_act_216 ?_
        refine lv_iconst (v := 4) C.1 C.2.1 dX9_act_217 (by decide) ?_
        obtain ⟨x218, hc218, hf⟩ := fm_bd hf
        refine fm_callV C E [.int _, .int _] [.int _, .ref _] lm_X9_361 wk_X4_number (c_Letters_number l G N _ _ _ _  hc218) hC_173 rfl rfl rfl hl.1 (by simp [Value.category]) ⟨⟨rfl, rfl⟩, by decide, by decide⟩ ⟨by decide, by decide⟩ dX9_act_218 rfl (fun H locs E => ?_)
        refine W.eq (g2 := F0 m 221 ls (.int x218 :: [.int _, .ref _])) rfl ?_
        obtain ⟨⟨x221, M221⟩, hc221, hf⟩ := fm_bd hf
        dsimp only at hf
        refine fm_callV C E [.int _, .int _] [] lm_X9_320 wk_X7_hold (c_Scene_hold l G _ _ _ _ _ hc221) hC_1 rfl rfl rfl hl.1 (by simp [Value.category]) ⟨⟨rfl, rfl⟩, by decide, by decide⟩ ⟨by decide, by decide⟩ dX9_act_221 rfl (fun H locs E => ?_)
        refine W.eq (g2 := F0 m 224 ls (.int x221 :: [])) rfl ?_
        obtain ⟨rfl, rfl⟩ := fm_rt2 hf
        exact fm_iret C E rfl rfl dX9_act_224
      · rcases fm_io hf with ⟨hs19_100, hf⟩ | ⟨hs19_100, hf⟩
        · refine fm_tcase C dX9_act_19 hs19_100 (by decide) (by decide) (off := 146) (by decide) (tgt := 165) (by decide) ?_
          refine lv_aload_n C.1 C.2.1 dX9_act_165 rfl (lv_at hl 1 rfl) ?_
          refine fm_getr C E lf_X9_10 hC_0 rfl dX9_act_166 ?_
          refine lv_iload_n C.1 C.2.1 dX9_act_169 rfl (lv_at hl 0 rfl) ?_
          refine lv_iconst (v := 4) C.1 C.2.1 dX9_act_170 (by decide) ?_
          refine lv_aload_n C.1 C.2.1 dX9_act_171 rfl (lv_at hl 1 rfl) ?_
          refine fm_getr C E lf_X9_37 hC_0 rfl dX9_act_172 ?_
          refine lv_iload_n C.1 C.2.1 dX9_act_175 rfl (lv_at hl 2 rfl) ?_
          refine lv_iconst (v := 2) C.1 C.2.1 dX9_act_176 (by decide) ?_
          refine lv_iadd C.1 C.2.1 dX9_act_177 ?_
          obtain ⟨x178, hc178, hf⟩ := fm_bd hf
          refine fm_callV C E [.int _] [.int _, .int _, .ref _] lm_X9_358 wk_X4_digit (c_Letters_digit l G _ _ _  hc178) hC_173 rfl rfl rfl hl.1 (by simp [Value.category]) ⟨⟨rfl, rfl⟩, by decide, by decide⟩ ⟨by decide, by decide⟩ dX9_act_178 rfl (fun H locs E => ?_)
          refine W.eq (g2 := F0 m 181 ls (.int x178 :: [.int _, .int _, .ref _])) rfl ?_
          obtain ⟨⟨x181, M181⟩, hc181, hf⟩ := fm_bd hf
          dsimp only at hf
          refine fm_callV C E [.int _, .int _, .int _] [] lm_X9_134 wk_X7_put (c_Scene_put l G _ _ _ _ _ _ hc181) hC_1 rfl rfl rfl hl.1 (by simp [Value.category]) ⟨⟨rfl, rfl⟩, by decide, by decide⟩ ⟨by decide, by decide⟩ dX9_act_181 rfl (fun H locs E => ?_)
          refine W.eq (g2 := F0 m 184 ls (.int x181 :: [])) rfl ?_
          obtain ⟨rfl, rfl⟩ := fm_rt2 hf
          exact fm_iret C E rfl rfl dX9_act_184
        · rcases fm_io hf with ⟨hs19_103, hf⟩ | ⟨hs19_103, hf⟩
          · refine fm_tcase C dX9_act_19 hs19_103 (by decide) (by decide) (off := 105) (by decide) (tgt := 124) (by decide) ?_
            refine lv_aload_n C.1 C.2.1 dX9_act_124 rfl (lv_at hl 1 rfl) ?_
            refine fm_getr C E lf_X9_10 hC_0 rfl dX9_act_125 ?_
            refine lv_iload_n C.1 C.2.1 dX9_act_128 rfl (lv_at hl 0 rfl) ?_
            refine lv_iconst (v := 1) C.1 C.2.1 dX9_act_129 (by decide) ?_
            refine lv_aload_n C.1 C.2.1 dX9_act_130 rfl (lv_at hl 1 rfl) ?_
            refine fm_getr C E lf_X9_37 hC_0 rfl dX9_act_131 ?_
            refine lv_iload_n C.1 C.2.1 dX9_act_134 rfl (lv_at hl 2 rfl) ?_
            refine lv_iconst (v := 2) C.1 C.2.1 dX9_act_135 (by decide) ?_
            refine lv_iadd C.1 C.2.1 dX9_act_136 ?_
            refine lv_iconst (v := 3) C.1 C.2.1 dX9_act_137 (by decide) ?_
            obtain ⟨x138, hc138, hf⟩ := fm_bd hf
            refine fm_callV C E [.int _, .int _] [.int _, .int _, .ref _] lm_X9_361 wk_X4_number (c_Letters_number l G N _ _ _ _  hc138) hC_173 rfl rfl rfl hl.1 (by simp [Value.category]) ⟨⟨rfl, rfl⟩, by decide, by decide⟩ ⟨by decide, by decide⟩ dX9_act_138 rfl (fun H locs E => ?_)
            refine W.eq (g2 := F0 m 141 ls (.int x138 :: [.int _, .int _, .ref _])) rfl ?_
            obtain ⟨⟨x141, M141⟩, hc141, hf⟩ := fm_bd hf
            dsimp only at hf
            refine fm_callV C E [.int _, .int _, .int _] [] lm_X9_134 wk_X7_put (c_Scene_put l G _ _ _ _ _ _ hc141) hC_1 rfl rfl rfl hl.1 (by simp [Value.category]) ⟨⟨rfl, rfl⟩, by decide, by decide⟩ ⟨by decide, by decide⟩ dX9_act_141 rfl (fun H locs E => ?_)
            refine W.eq (g2 := F0 m 144 ls (.int x141 :: [])) rfl ?_
            obtain ⟨rfl, rfl⟩ := fm_rt2 hf
            exact fm_iret C E rfl rfl dX9_act_144
          · rcases fm_io hf with ⟨hs19_108, hf⟩ | ⟨hs19_108, hf⟩
            · refine fm_tcase C dX9_act_19 hs19_108 (by decide) (by decide) (off := 226) (by decide) (tgt := 245) (by decide) ?_
              refine lv_aload_n C.1 C.2.1 dX9_act_245 rfl (lv_at hl 1 rfl) ?_
              obtain ⟨⟨x246, M246⟩, hc246, hf⟩ := fm_bd hf
              dsimp only at hf
              refine fm_callV C E [] [] lm_X9_326 wk_X9_learnEqual (c_MicRow_learnEqual l G N _ _ _ hc246) hC_0 rfl rfl rfl hl.1 (by simp [Value.category]) ⟨⟨rfl, rfl⟩, by decide, by decide⟩ ⟨by decide, by decide⟩ dX9_act_246 rfl (fun H locs E => ?_)
              refine W.eq (g2 := F0 m 249 ls (.int x246 :: [])) rfl ?_
              obtain ⟨rfl, rfl⟩ := fm_rt2 hf
              exact fm_iret C E rfl rfl dX9_act_249
            · rcases fm_io hf with ⟨hs19_111, hf⟩ | ⟨hs19_111, hf⟩
              · refine fm_tcase C dX9_act_19 hs19_111 (by decide) (by decide) (off := 166) (by decide) (tgt := 185) (by decide) ?_
                refine lv_aload_n C.1 C.2.1 dX9_act_185 rfl (lv_at hl 1 rfl) ?_
                refine fm_getr C E lf_X9_10 hC_0 rfl dX9_act_186 ?_
                refine lv_iload_n C.1 C.2.1 dX9_act_189 rfl (lv_at hl 0 rfl) ?_
                refine lv_iconst (v := 5) C.1 C.2.1 dX9_act_190 (by decide) ?_
                refine lv_aload_n C.1 C.2.1 dX9_act_191 rfl (lv_at hl 1 rfl) ?_
                refine fm_getr C E lf_X9_37 hC_0 rfl dX9_act_192 ?_
                refine lv_iload_n C.1 C.2.1 dX9_act_195 rfl (lv_at hl 2 rfl) ?_
                refine lv_iconst (v := 2) C.1 C.2.1 dX9_act_196 (by decide) ?_
                refine lv_iadd C.1 C.2.1 dX9_act_197 ?_
                obtain ⟨x198, hc198, hf⟩ := fm_bd hf
                refine fm_callV C E [.int _] [.int _, .int _, .ref _] lm_X9_358 wk_X4_digit (c_Letters_digit l G _ _ _  hc198) hC_173 rfl rfl rfl hl.1 (by simp [Value.category]) ⟨⟨rfl, rfl⟩, by decide, by decide⟩ ⟨by decide, by decide⟩ dX9_act_198 rfl (fun H locs E => ?_)
                refine W.eq (g2 := F0 m 201 ls (.int x198 :: [.int _, .int _, .ref _])) rfl ?_
                obtain ⟨⟨x201, M201⟩, hc201, hf⟩ := fm_bd hf
                dsimp only at hf
                refine fm_callV C E [.int _, .int _, .int _] [] lm_X9_134 wk_X7_put (c_Scene_put l G _ _ _ _ _ _ hc201) hC_1 rfl rfl rfl hl.1 (by simp [Value.category]) ⟨⟨rfl, rfl⟩, by decide, by decide⟩ ⟨by decide, by decide⟩ dX9_act_201 rfl (fun H locs E => ?_)
                refine W.eq (g2 := F0 m 204 ls (.int x201 :: [])) rfl ?_
                obtain ⟨rfl, rfl⟩ := fm_rt2 hf
                exact fm_iret C E rfl rfl dX9_act_204
              · rcases fm_io hf with ⟨hs19_115, hf⟩ | ⟨hs19_115, hf⟩
                · refine fm_tcase C dX9_act_19 hs19_115 (by decide) (by decide) (off := 231) (by decide) (tgt := 250) (by decide) ?_
                  refine lv_aload_n C.1 C.2.1 dX9_act_250 rfl (lv_at hl 1 rfl) ?_
                  refine lv_aload_n C.1 C.2.1 dX9_act_251 rfl (lv_at hl 1 rfl) ?_
                  refine fm_getr C E lf_X9_37 hC_0 rfl dX9_act_252 ?_
                  refine lv_iload_n C.1 C.2.1 dX9_act_255 rfl (lv_at hl 2 rfl) ?_
                  refine lv_iconst (v := 1) C.1 C.2.1 dX9_act_256 (by decide) ?_
                  refine lv_iadd C.1 C.2.1 dX9_act_257 ?_
                  refine lv_iconst (v := 2) C.1 C.2.1 dX9_act_258 (by decide) ?_
                  obtain ⟨x259, hc259, hf⟩ := fm_bd hf
                  refine fm_callV C E [.int _, .int _] [.ref _] lm_X9_361 wk_X4_number (c_Letters_number l G N _ _ _ _  hc259) hC_173 rfl rfl rfl hl.1 (by simp [Value.category]) ⟨⟨rfl, rfl⟩, by decide, by decide⟩ ⟨by decide, by decide⟩ dX9_act_259 rfl (fun H locs E => ?_)
                  refine W.eq (g2 := F0 m 262 ls (.int x259 :: [.ref _])) rfl ?_
                  obtain ⟨⟨x262, M262⟩, hc262, hf⟩ := fm_bd hf
                  dsimp only at hf
                  refine fm_callV C E [.int _] [] lm_X9_329 wk_X9_sortOut (c_MicRow_sortOut l G N _ _ _ _ hc262) hC_0 rfl rfl rfl hl.1 (by simp [Value.category]) ⟨⟨rfl, rfl⟩, by decide, by decide⟩ ⟨by decide, by decide⟩ dX9_act_262 rfl (fun H locs E => ?_)
                  refine W.eq (g2 := F0 m 265 ls (.int x262 :: [])) rfl ?_
                  obtain ⟨rfl, rfl⟩ := fm_rt2 hf
                  exact fm_iret C E rfl rfl dX9_act_265
                · rcases fm_io hf with ⟨hs19_119, hf⟩ | ⟨hs19_119, hf⟩
                  · refine fm_tcase C dX9_act_19 hs19_119 (by decide) (by decide) (off := 126) (by decide) (tgt := 145) (by decide) ?_
                    refine lv_aload_n C.1 C.2.1 dX9_act_145 rfl (lv_at hl 1 rfl) ?_
                    refine fm_getr C E lf_X9_10 hC_0 rfl dX9_act_146 ?_
                    refine lv_iload_n C.1 C.2.1 dX9_act_149 rfl (lv_at hl 0 rfl) ?_
                    refine lv_iconst (v := 2) C.1 C.2.1 dX9_act_150 (by decide) ?_
                    refine lv_aload_n C.1 C.2.1 dX9_act_151 rfl (lv_at hl 1 rfl) ?_
                    refine fm_getr C E lf_X9_37 hC_0 rfl dX9_act_152 ?_
                    refine lv_iload_n C.1 C.2.1 dX9_act_155 rfl (lv_at hl 2 rfl) ?_
                    refine lv_iconst (v := 2) C.1 C.2.1 dX9_act_156 (by decide) ?_
                    refine lv_iadd C.1 C.2.1 dX9_act_157 ?_
                    obtain ⟨x158, hc158, hf⟩ := fm_bd hf
                    refine fm_callV C E [.int _] [.int _, .int _, .ref _] lm_X9_358 wk_X4_digit (c_Letters_digit l G _ _ _  hc158) hC_173 rfl rfl rfl hl.1 (by simp [Value.category]) ⟨⟨rfl, rfl⟩, by decide, by decide⟩ ⟨by decide, by decide⟩ dX9_act_158 rfl (fun H locs E => ?_)
                    refine W.eq (g2 := F0 m 161 ls (.int x158 :: [.int _, .int _, .ref _])) rfl ?_
                    obtain ⟨⟨x161, M161⟩, hc161, hf⟩ := fm_bd hf
                    dsimp only at hf
                    refine fm_callV C E [.int _, .int _, .int _] [] lm_X9_134 wk_X7_put (c_Scene_put l G _ _ _ _ _ _ hc161) hC_1 rfl rfl rfl hl.1 (by simp [Value.category]) ⟨⟨rfl, rfl⟩, by decide, by decide⟩ ⟨by decide, by decide⟩ dX9_act_161 rfl (fun H locs E => ?_)
                    refine W.eq (g2 := F0 m 164 ls (.int x161 :: [])) rfl ?_
                    obtain ⟨rfl, rfl⟩ := fm_rt2 hf
                    exact fm_iret C E rfl rfl dX9_act_164
                  · refine fm_tdef C dX9_act_19 [97, 98, 99, 100, 103, 108, 111, 115, 119] (by intro v hv; rcases List.mem_cons.mp hv with rfl | hv; exact lv_neT hs19_97 (by decide); rcases List.mem_cons.mp hv with rfl | hv; exact lv_neT hs19_98 (by decide); rcases List.mem_cons.mp hv with rfl | hv; exact lv_neT hs19_99 (by decide); rcases List.mem_cons.mp hv with rfl | hv; exact lv_neT hs19_100 (by decide); rcases List.mem_cons.mp hv with rfl | hv; exact lv_neT hs19_103 (by decide); rcases List.mem_cons.mp hv with rfl | hv; exact lv_neT hs19_108 (by decide); rcases List.mem_cons.mp hv with rfl | hv; exact lv_neT hs19_111 (by decide); rcases List.mem_cons.mp hv with rfl | hv; exact lv_neT hs19_115 (by decide); rcases List.mem_cons.mp hv with rfl | hv; exact lv_neT hs19_119 (by decide); exact absurd hv (by simp)) (by decide) (by decide) (tgt := 286) (by decide) ?_
                    refine lv_iconst (v := (-1)) C.1 C.2.1 dX9_act_286 (by decide) ?_
                    obtain ⟨rfl, rfl⟩ := fm_rt2 hf
                    exact fm_iret C E rfl rfl dX9_act_287
theorem dX9_day_0 : decode cX9_day 0 = .ok (.aload_n 0, 1) := by decide +kernel
theorem dX9_day_1 : decode cX9_day 1 = .ok (.getfield 46, 3) := by decide +kernel
theorem dX9_day_4 : decode cX9_day 4 = .ok (.invokevirtual 338, 3) := by decide +kernel
theorem dX9_day_7 : decode cX9_day 7 = .ok (.istore_n 1, 1) := by decide +kernel
theorem dX9_day_8 : decode cX9_day 8 = .ok (.iload_n 1, 1) := by decide +kernel
theorem dX9_day_9 : decode cX9_day 9 = .ok (.iconst (-1), 1) := by decide +kernel
theorem dX9_day_10 : decode cX9_day 10 = .ok (.if_icmp .eq 16, 3) := by decide +kernel
theorem dX9_day_13 : decode cX9_day 13 = .ok (.aload_n 0, 1) := by decide +kernel
theorem dX9_day_14 : decode cX9_day 14 = .ok (.getfield 37, 3) := by decide +kernel
theorem dX9_day_17 : decode cX9_day 17 = .ok (.iconst 0, 1) := by decide +kernel
theorem dX9_day_18 : decode cX9_day 18 = .ok (.invokevirtual 95, 3) := by decide +kernel
theorem dX9_day_21 : decode cX9_day 21 = .ok (.pop, 1) := by decide +kernel
theorem dX9_day_22 : decode cX9_day 22 = .ok (.iconst (-1), 1) := by decide +kernel
theorem dX9_day_23 : decode cX9_day 23 = .ok (.iload_n 1, 1) := by decide +kernel
theorem dX9_day_24 : decode cX9_day 24 = .ok (.isub, 1) := by decide +kernel
theorem dX9_day_25 : decode cX9_day 25 = .ok (.ireturn, 1) := by decide +kernel
theorem dX9_day_26 : decode cX9_day 26 = .ok (.aload_n 0, 1) := by decide +kernel
theorem dX9_day_27 : decode cX9_day 27 = .ok (.getfield 16, 3) := by decide +kernel
theorem dX9_day_30 : decode cX9_day 30 = .ok (.aload_n 0, 1) := by decide +kernel
theorem dX9_day_31 : decode cX9_day 31 = .ok (.getfield 10, 3) := by decide +kernel
theorem dX9_day_34 : decode cX9_day 34 = .ok (.invokevirtual 99, 3) := by decide +kernel
theorem dX9_day_37 : decode cX9_day 37 = .ok (.iconst 0, 1) := by decide +kernel
theorem dX9_day_38 : decode cX9_day 38 = .ok (.istore_n 2, 1) := by decide +kernel
theorem dX9_day_39 : decode cX9_day 39 = .ok (.iconst 0, 1) := by decide +kernel
theorem dX9_day_40 : decode cX9_day 40 = .ok (.istore_n 3, 1) := by decide +kernel
theorem dX9_day_41 : decode cX9_day 41 = .ok (.iconst 0, 1) := by decide +kernel
theorem dX9_day_42 : decode cX9_day 42 = .ok (.istore 4, 2) := by decide +kernel
theorem dX9_day_44 : decode cX9_day 44 = .ok (.iload 4, 2) := by decide +kernel
theorem dX9_day_46 : decode cX9_day 46 = .ok (.aload_n 0, 1) := by decide +kernel
theorem dX9_day_47 : decode cX9_day 47 = .ok (.getfield 37, 3) := by decide +kernel
theorem dX9_day_50 : decode cX9_day 50 = .ok (.getfield 341, 3) := by decide +kernel
theorem dX9_day_53 : decode cX9_day 53 = .ok (.if_icmp .ge 59, 3) := by decide +kernel
theorem dX9_day_56 : decode cX9_day 56 = .ok (.iload_n 3, 1) := by decide +kernel
theorem dX9_day_57 : decode cX9_day 57 = .ok (.ifCond .ne 55, 3) := by decide +kernel
theorem dX9_day_60 : decode cX9_day 60 = .ok (.aload_n 0, 1) := by decide +kernel
theorem dX9_day_61 : decode cX9_day 61 = .ok (.iload 4, 2) := by decide +kernel
theorem dX9_day_63 : decode cX9_day 63 = .ok (.invokevirtual 343, 3) := by decide +kernel
theorem dX9_day_66 : decode cX9_day 66 = .ok (.ifCond .ge 7, 3) := by decide +kernel
theorem dX9_day_69 : decode cX9_day 69 = .ok (.iconst 1, 1) := by decide +kernel
theorem dX9_day_70 : decode cX9_day 70 = .ok (.goto 4, 3) := by decide +kernel
theorem dX9_day_73 : decode cX9_day 73 = .ok (.iconst 0, 1) := by decide +kernel
theorem dX9_day_74 : decode cX9_day 74 = .ok (.istore_n 3, 1) := by decide +kernel
theorem dX9_day_75 : decode cX9_day 75 = .ok (.iload_n 2, 1) := by decide +kernel
theorem dX9_day_76 : decode cX9_day 76 = .ok (.iload_n 3, 1) := by decide +kernel
theorem dX9_day_77 : decode cX9_day 77 = .ok (.ifCond .eq 7, 3) := by decide +kernel
theorem dX9_day_80 : decode cX9_day 80 = .ok (.iconst 0, 1) := by decide +kernel
theorem dX9_day_81 : decode cX9_day 81 = .ok (.goto 4, 3) := by decide +kernel
theorem dX9_day_84 : decode cX9_day 84 = .ok (.iconst 1, 1) := by decide +kernel
theorem dX9_day_85 : decode cX9_day 85 = .ok (.iadd, 1) := by decide +kernel
theorem dX9_day_86 : decode cX9_day 86 = .ok (.istore_n 2, 1) := by decide +kernel
theorem dX9_day_87 : decode cX9_day 87 = .ok (.iload 4, 2) := by decide +kernel
theorem dX9_day_89 : decode cX9_day 89 = .ok (.iconst 1, 1) := by decide +kernel
theorem dX9_day_90 : decode cX9_day 90 = .ok (.aload_n 0, 1) := by decide +kernel
theorem dX9_day_91 : decode cX9_day 91 = .ok (.getfield 37, 3) := by decide +kernel
theorem dX9_day_94 : decode cX9_day 94 = .ok (.iload 4, 2) := by decide +kernel
theorem dX9_day_96 : decode cX9_day 96 = .ok (.invokevirtual 346, 3) := by decide +kernel
theorem dX9_day_99 : decode cX9_day 99 = .ok (.invokestatic 348, 3) := by decide +kernel
theorem dX9_day_102 : decode cX9_day 102 = .ok (.invokevirtual 352, 3) := by decide +kernel
theorem dX9_day_105 : decode cX9_day 105 = .ok (.iadd, 1) := by decide +kernel
theorem dX9_day_106 : decode cX9_day 106 = .ok (.iadd, 1) := by decide +kernel
theorem dX9_day_107 : decode cX9_day 107 = .ok (.istore 4, 2) := by decide +kernel
theorem dX9_day_109 : decode cX9_day 109 = .ok (.goto (-65), 3) := by decide +kernel
theorem dX9_day_112 : decode cX9_day 112 = .ok (.aload_n 0, 1) := by decide +kernel
theorem dX9_day_113 : decode cX9_day 113 = .ok (.getfield 37, 3) := by decide +kernel
theorem dX9_day_116 : decode cX9_day 116 = .ok (.iconst 0, 1) := by decide +kernel
theorem dX9_day_117 : decode cX9_day 117 = .ok (.invokevirtual 95, 3) := by decide +kernel
theorem dX9_day_120 : decode cX9_day 120 = .ok (.pop, 1) := by decide +kernel
theorem dX9_day_121 : decode cX9_day 121 = .ok (.iload_n 2, 1) := by decide +kernel
theorem dX9_day_122 : decode cX9_day 122 = .ok (.ifCond .le 14, 3) := by decide +kernel
theorem dX9_day_125 : decode cX9_day 125 = .ok (.aload_n 0, 1) := by decide +kernel
theorem dX9_day_126 : decode cX9_day 126 = .ok (.getfield 30, 3) := by decide +kernel
theorem dX9_day_129 : decode cX9_day 129 = .ok (.aload_n 0, 1) := by decide +kernel
theorem dX9_day_130 : decode cX9_day 130 = .ok (.getfield 16, 3) := by decide +kernel
theorem dX9_day_133 : decode cX9_day 133 = .ok (.invokevirtual 355, 3) := by decide +kernel
theorem dX9_day_136 : decode cX9_day 136 = .ok (.aload_n 0, 1) := by decide +kernel
theorem dX9_day_137 : decode cX9_day 137 = .ok (.getfield 53, 3) := by decide +kernel
theorem dX9_day_140 : decode cX9_day 140 = .ok (.invokevirtual 225, 3) := by decide +kernel
theorem dX9_day_143 : decode cX9_day 143 = .ok (.aload_n 0, 1) := by decide +kernel
theorem dX9_day_144 : decode cX9_day 144 = .ok (.getfield 53, 3) := by decide +kernel
theorem dX9_day_147 : decode cX9_day 147 = .ok (.iload_n 3, 1) := by decide +kernel
theorem dX9_day_148 : decode cX9_day 148 = .ok (.ifCond .eq 7, 3) := by decide +kernel
theorem dX9_day_151 : decode cX9_day 151 = .ok (.lconst 1, 1) := by decide +kernel
theorem dX9_day_152 : decode cX9_day 152 = .ok (.goto 4, 3) := by decide +kernel
theorem dX9_day_155 : decode cX9_day 155 = .ok (.lconst 0, 1) := by decide +kernel
theorem dX9_day_156 : decode cX9_day 156 = .ok (.invokevirtual 232, 3) := by decide +kernel
theorem dX9_day_159 : decode cX9_day 159 = .ok (.aload_n 0, 1) := by decide +kernel
theorem dX9_day_160 : decode cX9_day 160 = .ok (.getfield 53, 3) := by decide +kernel
theorem dX9_day_163 : decode cX9_day 163 = .ok (.aload_n 0, 1) := by decide +kernel
theorem dX9_day_164 : decode cX9_day 164 = .ok (.getfield 10, 3) := by decide +kernel
theorem dX9_day_167 : decode cX9_day 167 = .ok (.invokevirtual 171, 3) := by decide +kernel
theorem dX9_day_170 : decode cX9_day 170 = .ok (.i2l, 1) := by decide +kernel
theorem dX9_day_171 : decode cX9_day 171 = .ok (.invokevirtual 232, 3) := by decide +kernel
theorem dX9_day_174 : decode cX9_day 174 = .ok (.iload_n 2, 1) := by decide +kernel
theorem dX9_day_175 : decode cX9_day 175 = .ok (.ireturn, 1) := by decide +kernel
set_option maxHeartbeats 4000000 in
set_option maxRecDepth 100000 in
theorem c_MicRow_day (l : Launch) (G : fm_G) (N : Nat) (M : fm_M) (r : Int32) (M' : fm_M) (hf : pMicRow_day N M = some (r, M')) : fm_Met l yX9_day cX9_day 5 (some .int) { frames := 7, cells := 0, slots := 0, locals := 166 } shC G [.ref (G.2.1 0)] M (some (.int r)) M' := by
  refine fm_enter (by decide) (Nat.le_of_ble_eq_true rfl) ?_
  intro p e s m args below meth c ls C E hl
  have hl : lv_has ls 5 [(0, .ref (G.2.1 0))] := hl
  have J156 : ∀ (M : fm_M) (v2 : Int32) (s1 : Int64) (H : Heap) (locs : List Loc) (ls : Array Slot), fm_Wd shC G M s H locs → lv_has ls 5 [(0, .ref (G.2.1 0)), (2, .int v2)] → pMicRow_day_J156 N M v2 s1 = some (r, M') → W p l e { frames := 7, cells := 0, slots := 0, locals := 166 } s m args below meth c H locs 0 0 (fm_Z below shC G args s (some (.int r)) M') (F0 m 156 ls [.long s1, .ref (G.2.1 176)]) := by
    intro M v2 s1 H locs ls E hl hf
    unfold pMicRow_day_J156 at hf
    obtain ⟨M156, hc156, hf⟩ := fm_bd hf
    refine fm_callV C E [.long _] [] lm_X9_232 wk_X8_add (c_Told_add l G _ _ _ hc156) hC_176 rfl rfl rfl hl.1 (by simp [Value.category]) ⟨⟨rfl, rfl⟩, by decide, by decide⟩ ⟨by decide, by decide⟩ dX9_day_156 rfl (fun H locs E => ?_)
    refine W.eq (g2 := F0 m 159 ls []) rfl ?_
    refine lv_aload_n C.1 C.2.1 dX9_day_159 rfl (lv_at hl 0 rfl) ?_
    refine fm_getr C E lf_X9_53 hC_0 rfl dX9_day_160 ?_
    refine lv_aload_n C.1 C.2.1 dX9_day_163 rfl (lv_at hl 0 rfl) ?_
    refine fm_getr C E lf_X9_10 hC_0 rfl dX9_day_164 ?_
    obtain ⟨x167, hc167, hf⟩ := fm_bd hf
    refine fm_callV C E [] [.ref _] lm_X9_171 wk_X7_liveSet (c_Scene_liveSet l G N _ _  hc167) hC_1 rfl rfl rfl hl.1 (by simp [Value.category]) ⟨⟨rfl, rfl⟩, by decide, by decide⟩ ⟨by decide, by decide⟩ dX9_day_167 rfl (fun H locs E => ?_)
    refine W.eq (g2 := F0 m 170 ls (.int x167 :: [.ref _])) rfl ?_
    refine lv_i2l C.1 C.2.1 dX9_day_170 rfl ?_
    obtain ⟨M171, hc171, hf⟩ := fm_bd hf
    refine fm_callV C E [.long _] [] lm_X9_232 wk_X8_add (c_Told_add l G _ _ _ hc171) hC_176 rfl rfl rfl hl.1 (by simp [Value.category]) ⟨⟨rfl, rfl⟩, by decide, by decide⟩ ⟨by decide, by decide⟩ dX9_day_171 rfl (fun H locs E => ?_)
    refine W.eq (g2 := F0 m 174 ls []) rfl ?_
    refine lv_iload_n C.1 C.2.1 dX9_day_174 rfl (lv_at hl 1 rfl) ?_
    obtain ⟨rfl, rfl⟩ := fm_rt2 hf
    exact fm_iret C E rfl rfl dX9_day_175
  have J136 : ∀ (M : fm_M) (v2 : Int32) (v3 : Int32) (H : Heap) (locs : List Loc) (ls : Array Slot), fm_Wd shC G M s H locs → lv_has ls 5 [(0, .ref (G.2.1 0)), (2, .int v2), (3, .int v3)] → pMicRow_day_J136 N M v2 v3 = some (r, M') → W p l e { frames := 7, cells := 0, slots := 0, locals := 166 } s m args below meth c H locs 0 0 (fm_Z below shC G args s (some (.int r)) M') (F0 m 136 ls []) := by
    intro M v2 v3 H locs ls E hl hf
    unfold pMicRow_day_J136 at hf
    refine lv_aload_n C.1 C.2.1 dX9_day_136 rfl (lv_at hl 0 rfl) ?_
    refine fm_getr C E lf_X9_53 hC_0 rfl dX9_day_137 ?_
    obtain ⟨M140, hc140, hf⟩ := fm_bd hf
    refine fm_callV C E [] [] lm_X9_225 wk_X8_clear (c_Told_clear l G _ _ hc140) hC_176 rfl rfl rfl hl.1 (by simp [Value.category]) ⟨⟨rfl, rfl⟩, by decide, by decide⟩ ⟨by decide, by decide⟩ dX9_day_140 rfl (fun H locs E => ?_)
    refine W.eq (g2 := F0 m 143 ls []) rfl ?_
    refine lv_aload_n C.1 C.2.1 dX9_day_143 rfl (lv_at hl 0 rfl) ?_
    refine fm_getr C E lf_X9_53 hC_0 rfl dX9_day_144 ?_
    refine lv_iload_n C.1 C.2.1 dX9_day_147 rfl (lv_at hl 2 rfl) ?_
    refine lv_if_eq (tgt := 155) C.1 C.2.1 dX9_day_148 (by decide) (fun hc148 => ?_) (fun hc148 => ?_)
    · have hf := fm_ip hf hc148
      refine lv_lconst (v := 0) C.1 C.2.1 dX9_day_155 (by decide) ?_
      exact J156 _ _ _ _ _ _ E (lv_sub hl [0, 1] rfl) hf
    · have hf := fm_in' hf hc148
      refine lv_lconst (v := 1) C.1 C.2.1 dX9_day_151 (by decide) ?_
      refine lv_goto (tgt := 156) C.1 C.2.1 dX9_day_152 (by decide) ?_
      exact J156 _ _ _ _ _ _ E (lv_sub hl [0, 1] rfl) hf
  have J112 : ∀ (M : fm_M) (v2 : Int32) (v3 : Int32) (H : Heap) (locs : List Loc) (ls : Array Slot), fm_Wd shC G M s H locs → lv_has ls 5 [(0, .ref (G.2.1 0)), (2, .int v2), (3, .int v3)] → pMicRow_day_J112 N M v2 v3 = some (r, M') → W p l e { frames := 7, cells := 0, slots := 0, locals := 166 } s m args below meth c H locs 0 0 (fm_Z below shC G args s (some (.int r)) M') (F0 m 112 ls []) := by
    intro M v2 v3 H locs ls E hl hf
    unfold pMicRow_day_J112 at hf
    refine lv_aload_n C.1 C.2.1 dX9_day_112 rfl (lv_at hl 0 rfl) ?_
    refine fm_getr C E lf_X9_37 hC_0 rfl dX9_day_113 ?_
    refine lv_iconst (v := 0) C.1 C.2.1 dX9_day_116 (by decide) ?_
    obtain ⟨⟨x117, M117⟩, hc117, hf⟩ := fm_bd hf
    dsimp only at hf
    refine fm_callV C E [.int _] [] lm_X9_95 wk_X4_cutTo (c_Letters_cutTo l G _ _ _ _ hc117) hC_173 rfl rfl rfl hl.1 (by simp [Value.category]) ⟨⟨rfl, rfl⟩, by decide, by decide⟩ ⟨by decide, by decide⟩ dX9_day_117 rfl (fun H locs E => ?_)
    refine W.eq (g2 := F0 m 120 ls (.int x117 :: [])) rfl ?_
    refine lv_pop C.1 C.2.1 dX9_day_120 rfl ?_
    refine lv_iload_n C.1 C.2.1 dX9_day_121 rfl (lv_at hl 1 rfl) ?_
    refine lv_if_le (tgt := 136) C.1 C.2.1 dX9_day_122 (by decide) (fun hc122 => ?_) (fun hc122 => ?_)
    · have hf := fm_ip hf hc122
      exact J136 _ _ _ _ _ _ E (lv_sub hl [0, 1, 2] rfl) hf
    · have hf := fm_in' hf hc122
      refine lv_aload_n C.1 C.2.1 dX9_day_125 rfl (lv_at hl 0 rfl) ?_
      refine fm_getr C E lf_X9_30 hC_0 rfl dX9_day_126 ?_
      refine lv_aload_n C.1 C.2.1 dX9_day_129 rfl (lv_at hl 0 rfl) ?_
      refine fm_getr C E lf_X9_16 hC_0 rfl dX9_day_130 ?_
      obtain ⟨M133, hc133, hf⟩ := fm_bd hf
      refine fm_callV C E [.ref _] [] lm_X9_355 wk_X5_push (c_Past_push l G N _ _ hc133) hC_59 rfl rfl rfl hl.1 (by simp [Value.category]) ⟨⟨rfl, rfl⟩, by decide, by decide⟩ ⟨by decide, by decide⟩ dX9_day_133 rfl (fun H locs E => ?_)
      refine W.eq (g2 := F0 m 136 ls []) rfl ?_
      exact J136 _ _ _ _ _ _ E (lv_sub hl [0, 1, 2] rfl) hf
  have L44 : ∀ (n44 : Nat) (v2 : Int32) (v3 : Int32) (v4 : Int32) (M : fm_M) (H : Heap) (locs : List Loc) (ls : Array Slot), fm_Wd shC G M s H locs → lv_has ls 5 [(0, .ref (G.2.1 0)), (2, .int v2), (3, .int v3), (4, .int v4)] → fm_lp (pMicRow_day_L44 N) n44 (v2, v3, v4, M) = some (r, M') → W p l e { frames := 7, cells := 0, slots := 0, locals := 166 } s m args below meth c H locs 0 0 (fm_Z below shC G args s (some (.int r)) M') (F0 m 44 ls []) := by
    intro  n44
    induction n44 with
    | zero => intro v2 v3 v4 M H locs ls E hl hf; exact fm_lp_0 hf
    | succ n44 ih44 =>
      have J85 : ∀ (M : fm_M) (v3 : Int32) (v4 : Int32) (s0 : Int32) (s1 : Int32) (H : Heap) (locs : List Loc) (ls : Array Slot), fm_Wd shC G M s H locs → lv_has ls 5 [(0, .ref (G.2.1 0)), (3, .int v3), (4, .int v4)] → pMicRow_day_J85 N M v3 v4 (fm_lp (pMicRow_day_L44 N) n44) s0 s1 = some (r, M') → W p l e { frames := 7, cells := 0, slots := 0, locals := 166 } s m args below meth c H locs 0 0 (fm_Z below shC G args s (some (.int r)) M') (F0 m 85 ls [.int s1, .int s0]) := by
        intro M v3 v4 s0 s1 H locs ls E hl hf
        unfold pMicRow_day_J85 at hf
        refine lv_iadd C.1 C.2.1 dX9_day_85 ?_
        refine lv_istore_n (lv' := [(2, .int _), (0, .ref _), (3, .int _), (4, .int _)]) C.1 C.2.1 dX9_day_86 rfl hl (by decide) rfl (fun ls hl => ?_)
        refine lv_iload C.1 C.2.1 dX9_day_87 (lv_at hl 3 rfl) ?_
        refine lv_iconst (v := 1) C.1 C.2.1 dX9_day_89 (by decide) ?_
        refine lv_aload_n C.1 C.2.1 dX9_day_90 rfl (lv_at hl 1 rfl) ?_
        refine fm_getr C E lf_X9_37 hC_0 rfl dX9_day_91 ?_
        refine lv_iload C.1 C.2.1 dX9_day_94 (lv_at hl 3 rfl) ?_
        obtain ⟨x96, hc96, hf⟩ := fm_bd hf
        refine fm_callV C E [.int _] [.int _, .int _] lm_X9_346 wk_X4_at (c_Letters_at l G _ _ _  hc96) hC_173 rfl rfl rfl hl.1 (by simp [Value.category]) ⟨⟨rfl, rfl⟩, by decide, by decide⟩ ⟨by decide, by decide⟩ dX9_day_96 rfl (fun H locs E => ?_)
        refine W.eq (g2 := F0 m 99 ls (.int x96 :: [.int _, .int _])) rfl ?_
        obtain ⟨x99, hc99, hf⟩ := fm_bd hf
        refine fm_callS C E [.int _] [.int _, .int _] lm_X9_348 wk_X6_shapeOf (c_Reader_shapeOf l G _ _ _  hc99) rfl hl.1 (by simp [Value.category]) ⟨⟨rfl, rfl⟩, by decide, by decide⟩ ⟨by decide, by decide⟩ dX9_day_99 rfl (fun H locs E => ?_)
        refine W.eq (g2 := F0 m 102 ls (.ref (G.2.2.2.1 x99) :: [.int _, .int _])) rfl ?_
        obtain ⟨x102, hc102, hf⟩ := fm_bd hf
        refine fm_callT C E [] [.int _, .int _] lm_X9_352 wk_J0_length_8abf5 (c_String_length l _ G _ _ _  hc102) (of_decide_eq_true (fm_rq_s hc102).1) rfl rfl hl.1 (by simp [Value.category]) ⟨⟨rfl, rfl⟩, by decide, by decide⟩ ⟨by decide, by decide⟩ dX9_day_102 rfl (fun H locs E => ?_)
        refine W.eq (g2 := F0 m 105 ls (.int x102 :: [.int _, .int _])) rfl ?_
        refine lv_iadd C.1 C.2.1 dX9_day_105 ?_
        refine lv_iadd C.1 C.2.1 dX9_day_106 ?_
        refine lv_istore (lv' := [(4, .int _), (2, .int _), (0, .ref _), (3, .int _)]) C.1 C.2.1 dX9_day_107 hl (by decide) rfl (fun ls hl => ?_)
        refine lv_goto (tgt := 44) C.1 C.2.1 dX9_day_109 (by decide) ?_
        exact ih44 _ _ _ _ _ _ _ E (lv_sub hl [2, 1, 3, 0] rfl) hf
      have J74 : ∀ (M : fm_M) (v2 : Int32) (v4 : Int32) (s0 : Int32) (H : Heap) (locs : List Loc) (ls : Array Slot), fm_Wd shC G M s H locs → lv_has ls 5 [(0, .ref (G.2.1 0)), (2, .int v2), (4, .int v4)] → pMicRow_day_J74 N M v2 v4 (fm_lp (pMicRow_day_L44 N) n44) s0 = some (r, M') → W p l e { frames := 7, cells := 0, slots := 0, locals := 166 } s m args below meth c H locs 0 0 (fm_Z below shC G args s (some (.int r)) M') (F0 m 74 ls [.int s0]) := by
        intro M v2 v4 s0 H locs ls E hl hf
        unfold pMicRow_day_J74 at hf
        refine lv_istore_n (lv' := [(3, .int _), (0, .ref _), (2, .int _), (4, .int _)]) C.1 C.2.1 dX9_day_74 rfl hl (by decide) rfl (fun ls hl => ?_)
        refine lv_iload_n C.1 C.2.1 dX9_day_75 rfl (lv_at hl 2 rfl) ?_
        refine lv_iload_n C.1 C.2.1 dX9_day_76 rfl (lv_at hl 0 rfl) ?_
        refine lv_if_eq (tgt := 84) C.1 C.2.1 dX9_day_77 (by decide) (fun hc77 => ?_) (fun hc77 => ?_)
        · have hf := fm_ip hf hc77
          refine lv_iconst (v := 1) C.1 C.2.1 dX9_day_84 (by decide) ?_
          exact J85 _ _ _ _ _ _ _ _ E (lv_sub hl [1, 0, 3] rfl) hf
        · have hf := fm_in' hf hc77
          refine lv_iconst (v := 0) C.1 C.2.1 dX9_day_80 (by decide) ?_
          refine lv_goto (tgt := 85) C.1 C.2.1 dX9_day_81 (by decide) ?_
          exact J85 _ _ _ _ _ _ _ _ E (lv_sub hl [1, 0, 3] rfl) hf
      intro v2 v3 v4 M H locs ls E hl hf
      have hf : pMicRow_day_L44b N (fm_lp (pMicRow_day_L44 N) n44) v2 v3 v4 M = some (r, M') := hf
      unfold pMicRow_day_L44b at hf
      refine lv_iload C.1 C.2.1 dX9_day_44 (lv_at hl 3 rfl) ?_
      refine lv_aload_n C.1 C.2.1 dX9_day_46 rfl (lv_at hl 0 rfl) ?_
      refine fm_getr C E lf_X9_37 hC_0 rfl dX9_day_47 ?_
      refine fm_geti C E lf_X9_341 hC_173 rfl dX9_day_50 ?_
      refine lv_icmp_ge (tgt := 112) C.1 C.2.1 dX9_day_53 (by decide) (fun hc53 => ?_) (fun hc53 => ?_)
      · have hf := fm_ip hf hc53
        exact J112 _ _ _ _ _ _ E (lv_sub hl [0, 1, 2] rfl) hf
      · have hf := fm_in' hf hc53
        refine lv_iload_n C.1 C.2.1 dX9_day_56 rfl (lv_at hl 2 rfl) ?_
        refine lv_if_ne (tgt := 112) C.1 C.2.1 dX9_day_57 (by decide) (fun hc57 => ?_) (fun hc57 => ?_)
        · have hf := fm_in' hf hc57
          exact J112 _ _ _ _ _ _ E (lv_sub hl [0, 1, 2] rfl) hf
        · have hf := fm_ip hf hc57
          refine lv_aload_n C.1 C.2.1 dX9_day_60 rfl (lv_at hl 0 rfl) ?_
          refine lv_iload C.1 C.2.1 dX9_day_61 (lv_at hl 3 rfl) ?_
          obtain ⟨⟨x63, M63⟩, hc63, hf⟩ := fm_bd hf
          dsimp only at hf
          refine fm_callV C E [.int _] [] lm_X9_343 wk_X9_act (c_MicRow_act l G N _ _ _ _ hc63) hC_0 rfl rfl rfl hl.1 (by simp [Value.category]) ⟨⟨rfl, rfl⟩, by decide, by decide⟩ ⟨by decide, by decide⟩ dX9_day_63 rfl (fun H locs E => ?_)
          refine W.eq (g2 := F0 m 66 ls (.int x63 :: [])) rfl ?_
          refine lv_if_ge (tgt := 73) C.1 C.2.1 dX9_day_66 (by decide) (fun hc66 => ?_) (fun hc66 => ?_)
          · have hf := fm_ip hf hc66
            refine lv_iconst (v := 0) C.1 C.2.1 dX9_day_73 (by decide) ?_
            exact J74 _ _ _ _ _ _ _ E (lv_sub hl [0, 1, 3] rfl) hf
          · have hf := fm_in' hf hc66
            refine lv_iconst (v := 1) C.1 C.2.1 dX9_day_69 (by decide) ?_
            refine lv_goto (tgt := 74) C.1 C.2.1 dX9_day_70 (by decide) ?_
            exact J74 _ _ _ _ _ _ _ E (lv_sub hl [0, 1, 3] rfl) hf
  unfold pMicRow_day at hf
  refine lv_aload_n C.1 C.2.1 dX9_day_0 rfl (lv_at hl 0 rfl) ?_
  refine fm_getr C E lf_X9_46 hC_0 rfl dX9_day_1 ?_
  obtain ⟨x4, hc4, hf⟩ := fm_bd hf
  refine fm_callV C E [] [] lm_X9_338 wk_X6_faultInDay (c_Reader_faultInDay l G N _ _  hc4) hC_175 rfl rfl rfl hl.1 (by simp [Value.category]) ⟨⟨rfl, rfl⟩, by decide, by decide⟩ ⟨by decide, by decide⟩ dX9_day_4 rfl (fun H locs E => ?_)
  refine W.eq (g2 := F0 m 7 ls (.int x4 :: [])) rfl ?_
  refine lv_istore_n (lv' := [(1, .int _), (0, .ref _)]) C.1 C.2.1 dX9_day_7 rfl hl (by decide) rfl (fun ls hl => ?_)
  refine lv_iload_n C.1 C.2.1 dX9_day_8 rfl (lv_at hl 0 rfl) ?_
  refine lv_iconst (v := (-1)) C.1 C.2.1 dX9_day_9 (by decide) ?_
  refine lv_icmp_eq (tgt := 26) C.1 C.2.1 dX9_day_10 (by decide) (fun hc10 => ?_) (fun hc10 => ?_)
  · have hf := fm_ip hf hc10
    refine lv_aload_n C.1 C.2.1 dX9_day_26 rfl (lv_at hl 1 rfl) ?_
    refine fm_getr C E lf_X9_16 hC_0 rfl dX9_day_27 ?_
    refine lv_aload_n C.1 C.2.1 dX9_day_30 rfl (lv_at hl 1 rfl) ?_
    refine fm_getr C E lf_X9_10 hC_0 rfl dX9_day_31 ?_
    obtain ⟨M34, hc34, hf⟩ := fm_bd hf
    refine fm_callV C E [.ref _] [] lm_X9_99 wk_X7_copyFrom (c_Scene_copyFrom l G N _ _ _ _ hc34) hC_15 rfl rfl rfl hl.1 (by simp [Value.category]) ⟨⟨rfl, rfl⟩, by decide, by decide⟩ ⟨by decide, by decide⟩ dX9_day_34 rfl (fun H locs E => ?_)
    refine W.eq (g2 := F0 m 37 ls []) rfl ?_
    refine lv_iconst (v := 0) C.1 C.2.1 dX9_day_37 (by decide) ?_
    refine lv_istore_n (lv' := [(2, .int _), (1, .int _), (0, .ref _)]) C.1 C.2.1 dX9_day_38 rfl hl (by decide) rfl (fun ls hl => ?_)
    refine lv_iconst (v := 0) C.1 C.2.1 dX9_day_39 (by decide) ?_
    refine lv_istore_n (lv' := [(3, .int _), (2, .int _), (1, .int _), (0, .ref _)]) C.1 C.2.1 dX9_day_40 rfl hl (by decide) rfl (fun ls hl => ?_)
    refine lv_iconst (v := 0) C.1 C.2.1 dX9_day_41 (by decide) ?_
    refine lv_istore (lv' := [(4, .int _), (3, .int _), (2, .int _), (1, .int _), (0, .ref _)]) C.1 C.2.1 dX9_day_42 hl (by decide) rfl (fun ls hl => ?_)
    exact L44  N _ _ _ _ _ _ _ E (lv_sub hl [4, 2, 1, 0] rfl) hf
  · have hf := fm_in' hf hc10
    refine lv_aload_n C.1 C.2.1 dX9_day_13 rfl (lv_at hl 1 rfl) ?_
    refine fm_getr C E lf_X9_37 hC_0 rfl dX9_day_14 ?_
    refine lv_iconst (v := 0) C.1 C.2.1 dX9_day_17 (by decide) ?_
    obtain ⟨⟨x18, M18⟩, hc18, hf⟩ := fm_bd hf
    dsimp only at hf
    refine fm_callV C E [.int _] [] lm_X9_95 wk_X4_cutTo (c_Letters_cutTo l G _ _ _ _ hc18) hC_173 rfl rfl rfl hl.1 (by simp [Value.category]) ⟨⟨rfl, rfl⟩, by decide, by decide⟩ ⟨by decide, by decide⟩ dX9_day_18 rfl (fun H locs E => ?_)
    refine W.eq (g2 := F0 m 21 ls (.int x18 :: [])) rfl ?_
    refine lv_pop C.1 C.2.1 dX9_day_21 rfl ?_
    refine lv_iconst (v := (-1)) C.1 C.2.1 dX9_day_22 (by decide) ?_
    refine lv_iload_n C.1 C.2.1 dX9_day_23 rfl (lv_at hl 0 rfl) ?_
    refine lv_isub C.1 C.2.1 dX9_day_24 ?_
    obtain ⟨rfl, rfl⟩ := fm_rt2 hf
    exact fm_iret C E rfl rfl dX9_day_25
