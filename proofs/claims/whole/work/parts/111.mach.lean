theorem dX1_leastLong_0 : decode cX1_leastLong 0 = .ok (.aload_n 0, 1) := by decide +kernel
theorem dX1_leastLong_1 : decode cX1_leastLong 1 = .ok (.iload_n 2, 1) := by decide +kernel
theorem dX1_leastLong_2 : decode cX1_leastLong 2 = .ok (.bipush 48, 2) := by decide +kernel
theorem dX1_leastLong_4 : decode cX1_leastLong 4 = .ok (.iload_n 3, 1) := by decide +kernel
theorem dX1_leastLong_5 : decode cX1_leastLong 5 = .ok (.invokevirtual 32, 3) := by decide +kernel
theorem dX1_leastLong_8 : decode cX1_leastLong 8 = .ok (.iconst (-1), 1) := by decide +kernel
theorem dX1_leastLong_9 : decode cX1_leastLong 9 = .ok (.istore 4, 2) := by decide +kernel
theorem dX1_leastLong_11 : decode cX1_leastLong 11 = .ok (.iconst 1, 1) := by decide +kernel
theorem dX1_leastLong_12 : decode cX1_leastLong 12 = .ok (.istore 5, 2) := by decide +kernel
theorem dX1_leastLong_14 : decode cX1_leastLong 14 = .ok (.iload 5, 2) := by decide +kernel
theorem dX1_leastLong_16 : decode cX1_leastLong 16 = .ok (.bipush 48, 2) := by decide +kernel
theorem dX1_leastLong_18 : decode cX1_leastLong 18 = .ok (.if_icmp .gt 62, 3) := by decide +kernel
theorem dX1_leastLong_21 : decode cX1_leastLong 21 = .ok (.aload_n 0, 1) := by decide +kernel
theorem dX1_leastLong_22 : decode cX1_leastLong 22 = .ok (.iload 5, 2) := by decide +kernel
theorem dX1_leastLong_24 : decode cX1_leastLong 24 = .ok (.iconst 1, 1) := by decide +kernel
theorem dX1_leastLong_25 : decode cX1_leastLong 25 = .ok (.isub, 1) := by decide +kernel
theorem dX1_leastLong_26 : decode cX1_leastLong 26 = .ok (.invokevirtual 36, 3) := by decide +kernel
theorem dX1_leastLong_29 : decode cX1_leastLong 29 = .ok (.iload 5, 2) := by decide +kernel
theorem dX1_leastLong_31 : decode cX1_leastLong 31 = .ok (.iconst 4, 1) := by decide +kernel
theorem dX1_leastLong_32 : decode cX1_leastLong 32 = .ok (.if_icmp .lt 11, 3) := by decide +kernel
theorem dX1_leastLong_35 : decode cX1_leastLong 35 = .ok (.aload_n 0, 1) := by decide +kernel
theorem dX1_leastLong_36 : decode cX1_leastLong 36 = .ok (.invokevirtual 40, 3) := by decide +kernel
theorem dX1_leastLong_39 : decode cX1_leastLong 39 = .ok (.iload_n 1, 1) := by decide +kernel
theorem dX1_leastLong_40 : decode cX1_leastLong 40 = .ok (.if_icmp .eq 9, 3) := by decide +kernel
theorem dX1_leastLong_43 : decode cX1_leastLong 43 = .ok (.iconst (-1), 1) := by decide +kernel
theorem dX1_leastLong_44 : decode cX1_leastLong 44 = .ok (.istore 4, 2) := by decide +kernel
theorem dX1_leastLong_46 : decode cX1_leastLong 46 = .ok (.goto 28, 3) := by decide +kernel
theorem dX1_leastLong_49 : decode cX1_leastLong 49 = .ok (.iload 4, 2) := by decide +kernel
theorem dX1_leastLong_51 : decode cX1_leastLong 51 = .ok (.iconst (-1), 1) := by decide +kernel
theorem dX1_leastLong_52 : decode cX1_leastLong 52 = .ok (.if_icmp .ne 10, 3) := by decide +kernel
theorem dX1_leastLong_55 : decode cX1_leastLong 55 = .ok (.iload 5, 2) := by decide +kernel
theorem dX1_leastLong_57 : decode cX1_leastLong 57 = .ok (.istore 4, 2) := by decide +kernel
theorem dX1_leastLong_59 : decode cX1_leastLong 59 = .ok (.goto 15, 3) := by decide +kernel
theorem dX1_leastLong_62 : decode cX1_leastLong 62 = .ok (.iload 5, 2) := by decide +kernel
theorem dX1_leastLong_64 : decode cX1_leastLong 64 = .ok (.iload 4, 2) := by decide +kernel
theorem dX1_leastLong_66 : decode cX1_leastLong 66 = .ok (.iconst 4, 1) := by decide +kernel
theorem dX1_leastLong_67 : decode cX1_leastLong 67 = .ok (.iadd, 1) := by decide +kernel
theorem dX1_leastLong_68 : decode cX1_leastLong 68 = .ok (.if_icmp .ne 6, 3) := by decide +kernel
theorem dX1_leastLong_71 : decode cX1_leastLong 71 = .ok (.iload 4, 2) := by decide +kernel
theorem dX1_leastLong_73 : decode cX1_leastLong 73 = .ok (.ireturn, 1) := by decide +kernel
theorem dX1_leastLong_74 : decode cX1_leastLong 74 = .ok (.iinc 5 1, 3) := by decide +kernel
theorem dX1_leastLong_77 : decode cX1_leastLong 77 = .ok (.goto (-63), 3) := by decide +kernel
theorem dX1_leastLong_80 : decode cX1_leastLong 80 = .ok (.iload 4, 2) := by decide +kernel
theorem dX1_leastLong_82 : decode cX1_leastLong 82 = .ok (.ireturn, 1) := by decide +kernel
set_option maxHeartbeats 4000000 in
set_option maxRecDepth 100000 in
theorem c_Compass_leastLong (l : Launch) (G : fm_G) (N : Nat) (M : fm_M) (v1 : Int32) (v2 : Int32) (v3 : Int32) (r : Int32) (M' : fm_M) (hf : pCompass_leastLong N M v1 v2 v3 = some (r, M')) : fm_Met l yX1_leastLong cX1_leastLong 6 (some .int) { frames := 6, cells := 0, slots := 0, locals := 151 } shC G [.ref (G.2.1 200), .int v1, .int v2, .int v3] M (some (.int r)) M' := by
  refine fm_enter (by decide) (Nat.le_of_ble_eq_true rfl) ?_
  intro p e s m args below meth c ls C E hl
  have hl : lv_has ls 6 [(0, .ref (G.2.1 200)), (1, .int v1), (2, .int v2), (3, .int v3)] := hl
  have L14 : ∀ (w14_v1 : Int32) (n14 : Nat) (v4 : Int32) (v5 : Int32) (M : fm_M) (H : Heap) (locs : List Loc) (ls : Array Slot), fm_Wd shC G M s H locs → lv_has ls 6 [(0, .ref (G.2.1 200)), (1, .int w14_v1), (4, .int v4), (5, .int v5)] → fm_lp (pCompass_leastLong_L14 N w14_v1) n14 (v4, v5, M) = some (r, M') → W p l e { frames := 6, cells := 0, slots := 0, locals := 151 } s m args below meth c H locs 0 0 (fm_Z below shC G args s (some (.int r)) M') (F0 m 14 ls []) := by
    intro w14_v1 n14
    induction n14 with
    | zero => intro v4 v5 M H locs ls E hl hf; exact fm_lp_0 hf
    | succ n14 ih14 =>
      intro v4 v5 M H locs ls E hl hf
      have hf : pCompass_leastLong_L14b N w14_v1 (fm_lp (pCompass_leastLong_L14 N w14_v1) n14) v4 v5 M = some (r, M') := hf
      unfold pCompass_leastLong_L14b at hf
      refine lv_iload C.1 C.2.1 dX1_leastLong_14 (lv_at hl 3 rfl) ?_
      refine lv_bipush (v := 48) C.1 C.2.1 dX1_leastLong_16 (by decide) ?_
      refine lv_icmp_gt (tgt := 80) C.1 C.2.1 dX1_leastLong_18 (by decide) (fun hc18 => ?_) (fun hc18 => ?_)
      · have hf := fm_ip hf hc18
        refine lv_iload C.1 C.2.1 dX1_leastLong_80 (lv_at hl 2 rfl) ?_
        obtain ⟨rfl, rfl⟩ := fm_rt2 hf
        exact fm_iret C E rfl rfl dX1_leastLong_82
      · have hf := fm_in' hf hc18
        refine lv_aload_n C.1 C.2.1 dX1_leastLong_21 rfl (lv_at hl 0 rfl) ?_
        refine lv_iload C.1 C.2.1 dX1_leastLong_22 (lv_at hl 3 rfl) ?_
        refine lv_iconst (v := 1) C.1 C.2.1 dX1_leastLong_24 (by decide) ?_
        refine lv_isub C.1 C.2.1 dX1_leastLong_25 ?_
        obtain ⟨M26, hc26, hf⟩ := fm_bd hf
        refine fm_callV C E [.int _] [] lm_X1_36 wk_X1_addToTotals (c_Compass_addToTotals l G N _ _ _ hc26) hC_200 rfl rfl rfl hl.1 (by simp [Value.category]) ⟨⟨rfl, rfl⟩, by decide, by decide⟩ ⟨by decide, by decide⟩ dX1_leastLong_26 rfl (fun H locs E => ?_)
        refine W.eq (g2 := F0 m 29 ls []) rfl ?_
        refine lv_iload C.1 C.2.1 dX1_leastLong_29 (lv_at hl 3 rfl) ?_
        refine lv_iconst (v := 4) C.1 C.2.1 dX1_leastLong_31 (by decide) ?_
        refine lv_icmp_lt (tgt := 43) C.1 C.2.1 dX1_leastLong_32 (by decide) (fun hc32 => ?_) (fun hc32 => ?_)
        · have hf := fm_ip hf hc32
          refine lv_iconst (v := (-1)) C.1 C.2.1 dX1_leastLong_43 (by decide) ?_
          refine lv_istore (lv' := [(4, .int _), (0, .ref _), (1, .int _), (5, .int _)]) C.1 C.2.1 dX1_leastLong_44 hl (by decide) rfl (fun ls hl => ?_)
          refine lv_goto (tgt := 74) C.1 C.2.1 dX1_leastLong_46 (by decide) ?_
          refine fm_iinc C (v := 1) (lv' := [(5, .int _), (4, .int _), (0, .ref _), (1, .int _)]) (k := 3) hl rfl (by decide) (by decide) rfl dX1_leastLong_74 (fun ls hl => ?_)
          refine lv_goto (tgt := 14) C.1 C.2.1 dX1_leastLong_77 (by decide) ?_
          exact ih14 _ _ _ _ _ _ E (lv_sub hl [2, 3, 1, 0] rfl) hf
        · have hf := fm_in' hf hc32
          refine lv_aload_n C.1 C.2.1 dX1_leastLong_35 rfl (lv_at hl 0 rfl) ?_
          obtain ⟨x36, hc36, hf⟩ := fm_bd hf
          refine fm_callV C E [] [] lm_X1_40 wk_X1_direction (c_Compass_direction l G N _ _  hc36) hC_200 rfl rfl rfl hl.1 (by simp [Value.category]) ⟨⟨rfl, rfl⟩, by decide, by decide⟩ ⟨by decide, by decide⟩ dX1_leastLong_36 rfl (fun H locs E => ?_)
          refine W.eq (g2 := F0 m 39 ls (.int x36 :: [])) rfl ?_
          refine lv_iload_n C.1 C.2.1 dX1_leastLong_39 rfl (lv_at hl 1 rfl) ?_
          refine lv_icmp_eq (tgt := 49) C.1 C.2.1 dX1_leastLong_40 (by decide) (fun hc40 => ?_) (fun hc40 => ?_)
          · have hf := fm_ip hf hc40
            refine lv_iload C.1 C.2.1 dX1_leastLong_49 (lv_at hl 2 rfl) ?_
            refine lv_iconst (v := (-1)) C.1 C.2.1 dX1_leastLong_51 (by decide) ?_
            refine lv_icmp_ne (tgt := 62) C.1 C.2.1 dX1_leastLong_52 (by decide) (fun hc52 => ?_) (fun hc52 => ?_)
            · have hf := fm_in' hf hc52
              refine lv_iload C.1 C.2.1 dX1_leastLong_62 (lv_at hl 3 rfl) ?_
              refine lv_iload C.1 C.2.1 dX1_leastLong_64 (lv_at hl 2 rfl) ?_
              refine lv_iconst (v := 4) C.1 C.2.1 dX1_leastLong_66 (by decide) ?_
              refine lv_iadd C.1 C.2.1 dX1_leastLong_67 ?_
              refine lv_icmp_ne (tgt := 74) C.1 C.2.1 dX1_leastLong_68 (by decide) (fun hc68 => ?_) (fun hc68 => ?_)
              · have hf := fm_in' hf hc68
                refine fm_iinc C (v := 1) (lv' := [(5, .int _), (0, .ref _), (1, .int _), (4, .int _)]) (k := 3) hl rfl (by decide) (by decide) rfl dX1_leastLong_74 (fun ls hl => ?_)
                refine lv_goto (tgt := 14) C.1 C.2.1 dX1_leastLong_77 (by decide) ?_
                exact ih14 _ _ _ _ _ _ E (lv_sub hl [1, 2, 3, 0] rfl) hf
              · have hf := fm_ip hf hc68
                refine lv_iload C.1 C.2.1 dX1_leastLong_71 (lv_at hl 2 rfl) ?_
                obtain ⟨rfl, rfl⟩ := fm_rt2 hf
                exact fm_iret C E rfl rfl dX1_leastLong_73
            · have hf := fm_ip hf hc52
              refine lv_iload C.1 C.2.1 dX1_leastLong_55 (lv_at hl 3 rfl) ?_
              refine lv_istore (lv' := [(4, .int _), (0, .ref _), (1, .int _), (5, .int _)]) C.1 C.2.1 dX1_leastLong_57 hl (by decide) rfl (fun ls hl => ?_)
              refine lv_goto (tgt := 74) C.1 C.2.1 dX1_leastLong_59 (by decide) ?_
              refine fm_iinc C (v := 1) (lv' := [(5, .int _), (4, .int _), (0, .ref _), (1, .int _)]) (k := 3) hl rfl (by decide) (by decide) rfl dX1_leastLong_74 (fun ls hl => ?_)
              refine lv_goto (tgt := 14) C.1 C.2.1 dX1_leastLong_77 (by decide) ?_
              exact ih14 _ _ _ _ _ _ E (lv_sub hl [2, 3, 1, 0] rfl) hf
          · have hf := fm_in' hf hc40
            refine lv_iconst (v := (-1)) C.1 C.2.1 dX1_leastLong_43 (by decide) ?_
            refine lv_istore (lv' := [(4, .int _), (0, .ref _), (1, .int _), (5, .int _)]) C.1 C.2.1 dX1_leastLong_44 hl (by decide) rfl (fun ls hl => ?_)
            refine lv_goto (tgt := 74) C.1 C.2.1 dX1_leastLong_46 (by decide) ?_
            refine fm_iinc C (v := 1) (lv' := [(5, .int _), (4, .int _), (0, .ref _), (1, .int _)]) (k := 3) hl rfl (by decide) (by decide) rfl dX1_leastLong_74 (fun ls hl => ?_)
            refine lv_goto (tgt := 14) C.1 C.2.1 dX1_leastLong_77 (by decide) ?_
            exact ih14 _ _ _ _ _ _ E (lv_sub hl [2, 3, 1, 0] rfl) hf
  unfold pCompass_leastLong at hf
  refine lv_aload_n C.1 C.2.1 dX1_leastLong_0 rfl (lv_at hl 0 rfl) ?_
  refine lv_iload_n C.1 C.2.1 dX1_leastLong_1 rfl (lv_at hl 2 rfl) ?_
  refine lv_bipush (v := 48) C.1 C.2.1 dX1_leastLong_2 (by decide) ?_
  refine lv_iload_n C.1 C.2.1 dX1_leastLong_4 rfl (lv_at hl 3 rfl) ?_
  obtain ⟨M5, hc5, hf⟩ := fm_bd hf
  refine fm_callV C E [.int _, .int _, .int _] [] lm_X1_32 wk_X1_measure (c_Compass_measure l G N _ _ _ _ _ hc5) hC_200 rfl rfl rfl hl.1 (by simp [Value.category]) ⟨⟨rfl, rfl⟩, by decide, by decide⟩ ⟨by decide, by decide⟩ dX1_leastLong_5 rfl (fun H locs E => ?_)
  refine W.eq (g2 := F0 m 8 ls []) rfl ?_
  refine lv_iconst (v := (-1)) C.1 C.2.1 dX1_leastLong_8 (by decide) ?_
  refine lv_istore (lv' := [(4, .int _), (0, .ref _), (1, .int _), (2, .int _), (3, .int _)]) C.1 C.2.1 dX1_leastLong_9 hl (by decide) rfl (fun ls hl => ?_)
  refine lv_iconst (v := 1) C.1 C.2.1 dX1_leastLong_11 (by decide) ?_
  refine lv_istore (lv' := [(5, .int _), (4, .int _), (0, .ref _), (1, .int _), (2, .int _), (3, .int _)]) C.1 C.2.1 dX1_leastLong_12 hl (by decide) rfl (fun ls hl => ?_)
  exact L14 _ N _ _ _ _ _ _ E (lv_sub hl [2, 3, 1, 0] rfl) hf
theorem dX9_clean_0 : decode cX9_clean 0 = .ok (.iload_n 1, 1) := by decide +kernel
theorem dX9_clean_1 : decode cX9_clean 1 = .ok (.invokestatic 157, 3) := by decide +kernel
theorem dX9_clean_4 : decode cX9_clean 4 = .ok (.ifCond .eq 14, 3) := by decide +kernel
theorem dX9_clean_7 : decode cX9_clean 7 = .ok (.iload_n 2, 1) := by decide +kernel
theorem dX9_clean_8 : decode cX9_clean 8 = .ok (.invokestatic 160, 3) := by decide +kernel
theorem dX9_clean_11 : decode cX9_clean 11 = .ok (.ifCond .eq 7, 3) := by decide +kernel
theorem dX9_clean_14 : decode cX9_clean 14 = .ok (.iconst 1, 1) := by decide +kernel
theorem dX9_clean_15 : decode cX9_clean 15 = .ok (.goto 4, 3) := by decide +kernel
theorem dX9_clean_18 : decode cX9_clean 18 = .ok (.iconst 0, 1) := by decide +kernel
theorem dX9_clean_19 : decode cX9_clean 19 = .ok (.invokestatic 137, 3) := by decide +kernel
theorem dX9_clean_22 : decode cX9_clean 22 = .ok (.aload_n 0, 1) := by decide +kernel
theorem dX9_clean_23 : decode cX9_clean 23 = .ok (.getfield 62, 3) := by decide +kernel
theorem dX9_clean_26 : decode cX9_clean 26 = .ok (.iconst (-1), 1) := by decide +kernel
theorem dX9_clean_27 : decode cX9_clean 27 = .ok (.invokevirtual 150, 3) := by decide +kernel
theorem dX9_clean_30 : decode cX9_clean 30 = .ok (.aload_n 0, 1) := by decide +kernel
theorem dX9_clean_31 : decode cX9_clean 31 = .ok (.iload_n 1, 1) := by decide +kernel
theorem dX9_clean_32 : decode cX9_clean 32 = .ok (.invokevirtual 192, 3) := by decide +kernel
theorem dX9_clean_35 : decode cX9_clean 35 = .ok (.aload_n 0, 1) := by decide +kernel
theorem dX9_clean_36 : decode cX9_clean 36 = .ok (.getfield 71, 3) := by decide +kernel
theorem dX9_clean_39 : decode cX9_clean 39 = .ok (.iload_n 1, 1) := by decide +kernel
theorem dX9_clean_40 : decode cX9_clean 40 = .ok (.iload_n 2, 1) := by decide +kernel
theorem dX9_clean_41 : decode cX9_clean 41 = .ok (.iconst 1, 1) := by decide +kernel
theorem dX9_clean_42 : decode cX9_clean 42 = .ok (.invokevirtual 163, 3) := by decide +kernel
theorem dX9_clean_45 : decode cX9_clean 45 = .ok (.aload_n 0, 1) := by decide +kernel
theorem dX9_clean_46 : decode cX9_clean 46 = .ok (.getfield 71, 3) := by decide +kernel
theorem dX9_clean_49 : decode cX9_clean 49 = .ok (.aload_n 0, 1) := by decide +kernel
theorem dX9_clean_50 : decode cX9_clean 50 = .ok (.getfield 10, 3) := by decide +kernel
theorem dX9_clean_53 : decode cX9_clean 53 = .ok (.invokevirtual 171, 3) := by decide +kernel
theorem dX9_clean_56 : decode cX9_clean 56 = .ok (.invokevirtual 175, 3) := by decide +kernel
theorem dX9_clean_59 : decode cX9_clean 59 = .ok (.aload_n 0, 1) := by decide +kernel
theorem dX9_clean_60 : decode cX9_clean 60 = .ok (.getfield 71, 3) := by decide +kernel
theorem dX9_clean_63 : decode cX9_clean 63 = .ok (.aload_n 0, 1) := by decide +kernel
theorem dX9_clean_64 : decode cX9_clean 64 = .ok (.getfield 10, 3) := by decide +kernel
theorem dX9_clean_67 : decode cX9_clean 67 = .ok (.invokevirtual 171, 3) := by decide +kernel
theorem dX9_clean_70 : decode cX9_clean 70 = .ok (.invokevirtual 181, 3) := by decide +kernel
theorem dX9_clean_73 : decode cX9_clean 73 = .ok (.aload_n 0, 1) := by decide +kernel
theorem dX9_clean_74 : decode cX9_clean 74 = .ok (.getfield 71, 3) := by decide +kernel
theorem dX9_clean_77 : decode cX9_clean 77 = .ok (.invokevirtual 195, 3) := by decide +kernel
theorem dX9_clean_80 : decode cX9_clean 80 = .ok (.aload_n 0, 1) := by decide +kernel
theorem dX9_clean_81 : decode cX9_clean 81 = .ok (.getfield 71, 3) := by decide +kernel
theorem dX9_clean_84 : decode cX9_clean 84 = .ok (.getfield 198, 3) := by decide +kernel
theorem dX9_clean_87 : decode cX9_clean 87 = .ok (.iconst 0, 1) := by decide +kernel
theorem dX9_clean_88 : decode cX9_clean 88 = .ok (.iaload, 1) := by decide +kernel
theorem dX9_clean_89 : decode cX9_clean 89 = .ok (.ireturn, 1) := by decide +kernel
set_option maxHeartbeats 4000000 in
set_option maxRecDepth 100000 in
theorem c_MicRow_clean (l : Launch) (G : fm_G) (N : Nat) (M : fm_M) (v1 : Int32) (v2 : Int32) (r : Int32) (M' : fm_M) (hf : pMicRow_clean N M v1 v2 = some (r, M')) : fm_Met l yX9_clean cX9_clean 3 (some .int) { frames := 7, cells := 0, slots := 0, locals := 168 } shC G [.ref (G.2.1 0), .int v1, .int v2] M (some (.int r)) M' := by
  refine fm_enter (by decide) (Nat.le_of_ble_eq_true rfl) ?_
  intro p e s m args below meth c ls C E hl
  have hl : lv_has ls 3 [(0, .ref (G.2.1 0)), (1, .int v1), (2, .int v2)] := hl
  have J19 : ∀ (M : fm_M) (v1 : Int32) (v2 : Int32) (s0 : Int32) (H : Heap) (locs : List Loc) (ls : Array Slot), fm_Wd shC G M s H locs → lv_has ls 3 [(0, .ref (G.2.1 0)), (1, .int v1), (2, .int v2)] → pMicRow_clean_J19 N M v1 v2 s0 = some (r, M') → W p l e { frames := 7, cells := 0, slots := 0, locals := 168 } s m args below meth c H locs 0 0 (fm_Z below shC G args s (some (.int r)) M') (F0 m 19 ls [.int s0]) := by
    intro M v1 v2 s0 H locs ls E hl hf
    unfold pMicRow_clean_J19 at hf
    obtain ⟨x19, hc19, hf⟩ := fm_bd hf
    refine fm_callS C E [.int _] [] lm_X9_137 wk_X9_demand (c_MicRow_demand l G _ _  hc19) rfl hl.1 (by simp [Value.category]) ⟨⟨rfl, rfl⟩, by decide, by decide⟩ ⟨by decide, by decide⟩ dX9_clean_19 rfl (fun H locs E => ?_)
    refine W.eq (g2 := F0 m 22 ls []) rfl ?_
    refine lv_aload_n C.1 C.2.1 dX9_clean_22 rfl (lv_at hl 0 rfl) ?_
    refine fm_getr C E lf_X9_62 hC_0 rfl dX9_clean_23 ?_
    refine lv_iconst (v := (-1)) C.1 C.2.1 dX9_clean_26 (by decide) ?_
    obtain ⟨M27, hc27, hf⟩ := fm_bd hf
    refine fm_callV C E [.int _] [] lm_X9_150 wk_X3_listenTo (c_Ears_listenTo l G _ _ _ hc27) hC_178 rfl rfl rfl hl.1 (by simp [Value.category]) ⟨⟨rfl, rfl⟩, by decide, by decide⟩ ⟨by decide, by decide⟩ dX9_clean_27 rfl (fun H locs E => ?_)
    refine W.eq (g2 := F0 m 30 ls []) rfl ?_
    refine lv_aload_n C.1 C.2.1 dX9_clean_30 rfl (lv_at hl 0 rfl) ?_
    refine lv_iload_n C.1 C.2.1 dX9_clean_31 rfl (lv_at hl 1 rfl) ?_
    obtain ⟨M32, hc32, hf⟩ := fm_bd hf
    refine fm_callV C E [.int _] [] lm_X9_192 wk_X9_learnWeights (c_MicRow_learnWeights l G N _ _ _ hc32) hC_0 rfl rfl rfl hl.1 (by simp [Value.category]) ⟨⟨rfl, rfl⟩, by decide, by decide⟩ ⟨by decide, by decide⟩ dX9_clean_32 rfl (fun H locs E => ?_)
    refine W.eq (g2 := F0 m 35 ls []) rfl ?_
    refine lv_aload_n C.1 C.2.1 dX9_clean_35 rfl (lv_at hl 0 rfl) ?_
    refine fm_getr C E lf_X9_71 hC_0 rfl dX9_clean_36 ?_
    refine lv_iload_n C.1 C.2.1 dX9_clean_39 rfl (lv_at hl 1 rfl) ?_
    refine lv_iload_n C.1 C.2.1 dX9_clean_40 rfl (lv_at hl 2 rfl) ?_
    refine lv_iconst (v := 1) C.1 C.2.1 dX9_clean_41 (by decide) ?_
    obtain ⟨M42, hc42, hf⟩ := fm_bd hf
    refine fm_callV C E [.int _, .int _, .int _] [] lm_X9_163 wk_X0_turnTo (c_Bench_turnTo l G N _ _ _ _ _ hc42) hC_181 rfl rfl rfl hl.1 (by simp [Value.category]) ⟨⟨rfl, rfl⟩, by decide, by decide⟩ ⟨by decide, by decide⟩ dX9_clean_42 rfl (fun H locs E => ?_)
    refine W.eq (g2 := F0 m 45 ls []) rfl ?_
    refine lv_aload_n C.1 C.2.1 dX9_clean_45 rfl (lv_at hl 0 rfl) ?_
    refine fm_getr C E lf_X9_71 hC_0 rfl dX9_clean_46 ?_
    refine lv_aload_n C.1 C.2.1 dX9_clean_49 rfl (lv_at hl 0 rfl) ?_
    refine fm_getr C E lf_X9_10 hC_0 rfl dX9_clean_50 ?_
    obtain ⟨x53, hc53, hf⟩ := fm_bd hf
    refine fm_callV C E [] [.ref _] lm_X9_171 wk_X7_liveSet (c_Scene_liveSet l G N _ _  hc53) hC_1 rfl rfl rfl hl.1 (by simp [Value.category]) ⟨⟨rfl, rfl⟩, by decide, by decide⟩ ⟨by decide, by decide⟩ dX9_clean_53 rfl (fun H locs E => ?_)
    refine W.eq (g2 := F0 m 56 ls (.int x53 :: [.ref _])) rfl ?_
    obtain ⟨M56, hc56, hf⟩ := fm_bd hf
    refine fm_callV C E [.int _] [] lm_X9_175 wk_X0_mix (c_Bench_mix l G N _ _ _ hc56) hC_181 rfl rfl rfl hl.1 (by simp [Value.category]) ⟨⟨rfl, rfl⟩, by decide, by decide⟩ ⟨by decide, by decide⟩ dX9_clean_56 rfl (fun H locs E => ?_)
    refine W.eq (g2 := F0 m 59 ls []) rfl ?_
    refine lv_aload_n C.1 C.2.1 dX9_clean_59 rfl (lv_at hl 0 rfl) ?_
    refine fm_getr C E lf_X9_71 hC_0 rfl dX9_clean_60 ?_
    refine lv_aload_n C.1 C.2.1 dX9_clean_63 rfl (lv_at hl 0 rfl) ?_
    refine fm_getr C E lf_X9_10 hC_0 rfl dX9_clean_64 ?_
    obtain ⟨x67, hc67, hf⟩ := fm_bd hf
    refine fm_callV C E [] [.ref _] lm_X9_171 wk_X7_liveSet (c_Scene_liveSet l G N _ _  hc67) hC_1 rfl rfl rfl hl.1 (by simp [Value.category]) ⟨⟨rfl, rfl⟩, by decide, by decide⟩ ⟨by decide, by decide⟩ dX9_clean_67 rfl (fun H locs E => ?_)
    refine W.eq (g2 := F0 m 70 ls (.int x67 :: [.ref _])) rfl ?_
    obtain ⟨M70, hc70, hf⟩ := fm_bd hf
    refine fm_callV C E [.int _] [] lm_X9_181 wk_X0_block (c_Bench_block l G N _ _ _ hc70) hC_181 rfl rfl rfl hl.1 (by simp [Value.category]) ⟨⟨rfl, rfl⟩, by decide, by decide⟩ ⟨by decide, by decide⟩ dX9_clean_70 rfl (fun H locs E => ?_)
    refine W.eq (g2 := F0 m 73 ls []) rfl ?_
    refine lv_aload_n C.1 C.2.1 dX9_clean_73 rfl (lv_at hl 0 rfl) ?_
    refine fm_getr C E lf_X9_71 hC_0 rfl dX9_clean_74 ?_
    obtain ⟨M77, hc77, hf⟩ := fm_bd hf
    refine fm_callV C E [] [] lm_X9_195 wk_X0_takeOff (c_Bench_takeOff l G N _ _ hc77) hC_181 rfl rfl rfl hl.1 (by simp [Value.category]) ⟨⟨rfl, rfl⟩, by decide, by decide⟩ ⟨by decide, by decide⟩ dX9_clean_77 rfl (fun H locs E => ?_)
    refine W.eq (g2 := F0 m 80 ls []) rfl ?_
    refine lv_aload_n C.1 C.2.1 dX9_clean_80 rfl (lv_at hl 0 rfl) ?_
    refine fm_getr C E lf_X9_71 hC_0 rfl dX9_clean_81 ?_
    refine fm_getr C E lf_X9_198 hC_181 rfl dX9_clean_84 ?_
    refine lv_iconst (v := 0) C.1 C.2.1 dX9_clean_87 (by decide) ?_
    refine fm_ialdc C E 0 (by decide) hC_197 (by decide) dX9_clean_88 ?_
    obtain ⟨rfl, rfl⟩ := fm_rt2 hf
    exact fm_iret C E rfl rfl dX9_clean_89
  have J18 : ∀ (M : fm_M) (v1 : Int32) (v2 : Int32) (H : Heap) (locs : List Loc) (ls : Array Slot), fm_Wd shC G M s H locs → lv_has ls 3 [(0, .ref (G.2.1 0)), (1, .int v1), (2, .int v2)] → pMicRow_clean_J18 N M v1 v2 = some (r, M') → W p l e { frames := 7, cells := 0, slots := 0, locals := 168 } s m args below meth c H locs 0 0 (fm_Z below shC G args s (some (.int r)) M') (F0 m 18 ls []) := by
    intro M v1 v2 H locs ls E hl hf
    unfold pMicRow_clean_J18 at hf
    refine lv_iconst (v := 0) C.1 C.2.1 dX9_clean_18 (by decide) ?_
    exact J19 _ _ _ _ _ _ _ E (lv_sub hl [0, 1, 2] rfl) hf
  unfold pMicRow_clean at hf
  refine lv_iload_n C.1 C.2.1 dX9_clean_0 rfl (lv_at hl 1 rfl) ?_
  obtain ⟨x1, hc1, hf⟩ := fm_bd hf
  refine fm_callS C E [.int _] [] lm_X9_157 wk_X9_isDirection (c_MicRow_isDirection l G _ _ _  hc1) rfl hl.1 (by simp [Value.category]) ⟨⟨rfl, rfl⟩, by decide, by decide⟩ ⟨by decide, by decide⟩ dX9_clean_1 rfl (fun H locs E => ?_)
  refine W.eq (g2 := F0 m 4 ls (.int x1 :: [])) rfl ?_
  refine lv_if_eq (tgt := 18) C.1 C.2.1 dX9_clean_4 (by decide) (fun hc4 => ?_) (fun hc4 => ?_)
  · have hf := fm_ip hf hc4
    exact J18 _ _ _ _ _ _ E (lv_sub hl [0, 1, 2] rfl) hf
  · have hf := fm_in' hf hc4
    refine lv_iload_n C.1 C.2.1 dX9_clean_7 rfl (lv_at hl 2 rfl) ?_
    obtain ⟨x8, hc8, hf⟩ := fm_bd hf
    refine fm_callS C E [.int _] [] lm_X9_160 wk_X9_isTurnedTime (c_MicRow_isTurnedTime l G _ _ _  hc8) rfl hl.1 (by simp [Value.category]) ⟨⟨rfl, rfl⟩, by decide, by decide⟩ ⟨by decide, by decide⟩ dX9_clean_8 rfl (fun H locs E => ?_)
    refine W.eq (g2 := F0 m 11 ls (.int x8 :: [])) rfl ?_
    refine lv_if_eq (tgt := 18) C.1 C.2.1 dX9_clean_11 (by decide) (fun hc11 => ?_) (fun hc11 => ?_)
    · have hf := fm_ip hf hc11
      exact J18 _ _ _ _ _ _ E (lv_sub hl [0, 1, 2] rfl) hf
    · have hf := fm_in' hf hc11
      refine lv_iconst (v := 1) C.1 C.2.1 dX9_clean_14 (by decide) ?_
      refine lv_goto (tgt := 19) C.1 C.2.1 dX9_clean_15 (by decide) ?_
      exact J19 _ _ _ _ _ _ _ E (lv_sub hl [0, 1, 2] rfl) hf
theorem dX9_beams_0 : decode cX9_beams 0 = .ok (.iload_n 1, 1) := by decide +kernel
theorem dX9_beams_1 : decode cX9_beams 1 = .ok (.invokestatic 157, 3) := by decide +kernel
theorem dX9_beams_4 : decode cX9_beams 4 = .ok (.ifCond .ne 5, 3) := by decide +kernel
theorem dX9_beams_7 : decode cX9_beams 7 = .ok (.iconst (-1), 1) := by decide +kernel
theorem dX9_beams_8 : decode cX9_beams 8 = .ok (.ireturn, 1) := by decide +kernel
theorem dX9_beams_9 : decode cX9_beams 9 = .ok (.aload_n 0, 1) := by decide +kernel
theorem dX9_beams_10 : decode cX9_beams 10 = .ok (.getfield 62, 3) := by decide +kernel
theorem dX9_beams_13 : decode cX9_beams 13 = .ok (.iconst (-1), 1) := by decide +kernel
theorem dX9_beams_14 : decode cX9_beams 14 = .ok (.invokevirtual 150, 3) := by decide +kernel
theorem dX9_beams_17 : decode cX9_beams 17 = .ok (.aload_n 0, 1) := by decide +kernel
theorem dX9_beams_18 : decode cX9_beams 18 = .ok (.iload_n 1, 1) := by decide +kernel
theorem dX9_beams_19 : decode cX9_beams 19 = .ok (.invokevirtual 192, 3) := by decide +kernel
theorem dX9_beams_22 : decode cX9_beams 22 = .ok (.aload_n 0, 1) := by decide +kernel
theorem dX9_beams_23 : decode cX9_beams 23 = .ok (.getfield 71, 3) := by decide +kernel
theorem dX9_beams_26 : decode cX9_beams 26 = .ok (.invokevirtual 195, 3) := by decide +kernel
theorem dX9_beams_29 : decode cX9_beams 29 = .ok (.aload_n 0, 1) := by decide +kernel
theorem dX9_beams_30 : decode cX9_beams 30 = .ok (.getfield 53, 3) := by decide +kernel
theorem dX9_beams_33 : decode cX9_beams 33 = .ok (.invokevirtual 225, 3) := by decide +kernel
theorem dX9_beams_36 : decode cX9_beams 36 = .ok (.aload_n 0, 1) := by decide +kernel
theorem dX9_beams_37 : decode cX9_beams 37 = .ok (.getfield 53, 3) := by decide +kernel
theorem dX9_beams_40 : decode cX9_beams 40 = .ok (.aload_n 0, 1) := by decide +kernel
theorem dX9_beams_41 : decode cX9_beams 41 = .ok (.getfield 71, 3) := by decide +kernel
theorem dX9_beams_44 : decode cX9_beams 44 = .ok (.aload_n 0, 1) := by decide +kernel
theorem dX9_beams_45 : decode cX9_beams 45 = .ok (.getfield 71, 3) := by decide +kernel
theorem dX9_beams_48 : decode cX9_beams 48 = .ok (.getfield 178, 3) := by decide +kernel
theorem dX9_beams_51 : decode cX9_beams 51 = .ok (.invokevirtual 228, 3) := by decide +kernel
theorem dX9_beams_54 : decode cX9_beams 54 = .ok (.invokevirtual 232, 3) := by decide +kernel
theorem dX9_beams_57 : decode cX9_beams 57 = .ok (.aload_n 0, 1) := by decide +kernel
theorem dX9_beams_58 : decode cX9_beams 58 = .ok (.getfield 53, 3) := by decide +kernel
theorem dX9_beams_61 : decode cX9_beams 61 = .ok (.aload_n 0, 1) := by decide +kernel
theorem dX9_beams_62 : decode cX9_beams 62 = .ok (.getfield 71, 3) := by decide +kernel
theorem dX9_beams_65 : decode cX9_beams 65 = .ok (.aload_n 0, 1) := by decide +kernel
theorem dX9_beams_66 : decode cX9_beams 66 = .ok (.getfield 71, 3) := by decide +kernel
theorem dX9_beams_69 : decode cX9_beams 69 = .ok (.getfield 198, 3) := by decide +kernel
theorem dX9_beams_72 : decode cX9_beams 72 = .ok (.invokevirtual 236, 3) := by decide +kernel
theorem dX9_beams_75 : decode cX9_beams 75 = .ok (.i2l, 1) := by decide +kernel
theorem dX9_beams_76 : decode cX9_beams 76 = .ok (.invokevirtual 232, 3) := by decide +kernel
theorem dX9_beams_79 : decode cX9_beams 79 = .ok (.aload_n 0, 1) := by decide +kernel
theorem dX9_beams_80 : decode cX9_beams 80 = .ok (.getfield 53, 3) := by decide +kernel
theorem dX9_beams_83 : decode cX9_beams 83 = .ok (.aload_n 0, 1) := by decide +kernel
theorem dX9_beams_84 : decode cX9_beams 84 = .ok (.getfield 71, 3) := by decide +kernel
theorem dX9_beams_87 : decode cX9_beams 87 = .ok (.aload_n 0, 1) := by decide +kernel
theorem dX9_beams_88 : decode cX9_beams 88 = .ok (.getfield 71, 3) := by decide +kernel
theorem dX9_beams_91 : decode cX9_beams 91 = .ok (.getfield 198, 3) := by decide +kernel
theorem dX9_beams_94 : decode cX9_beams 94 = .ok (.invokevirtual 228, 3) := by decide +kernel
theorem dX9_beams_97 : decode cX9_beams 97 = .ok (.invokevirtual 232, 3) := by decide +kernel
theorem dX9_beams_100 : decode cX9_beams 100 = .ok (.aload_n 0, 1) := by decide +kernel
theorem dX9_beams_101 : decode cX9_beams 101 = .ok (.getfield 71, 3) := by decide +kernel
theorem dX9_beams_104 : decode cX9_beams 104 = .ok (.aload_n 0, 1) := by decide +kernel
theorem dX9_beams_105 : decode cX9_beams 105 = .ok (.getfield 71, 3) := by decide +kernel
theorem dX9_beams_108 : decode cX9_beams 108 = .ok (.getfield 178, 3) := by decide +kernel
theorem dX9_beams_111 : decode cX9_beams 111 = .ok (.invokevirtual 236, 3) := by decide +kernel
theorem dX9_beams_114 : decode cX9_beams 114 = .ok (.ireturn, 1) := by decide +kernel
set_option maxHeartbeats 4000000 in
set_option maxRecDepth 100000 in
theorem c_MicRow_beams (l : Launch) (G : fm_G) (N : Nat) (M : fm_M) (v1 : Int32) (r : Int32) (M' : fm_M) (hf : pMicRow_beams N M v1 = some (r, M')) : fm_Met l yX9_beams cX9_beams 2 (some .int) { frames := 7, cells := 0, slots := 0, locals := 168 } shC G [.ref (G.2.1 0), .int v1] M (some (.int r)) M' := by
  refine fm_enter (by decide) (Nat.le_of_ble_eq_true rfl) ?_
  intro p e s m args below meth c ls C E hl
  have hl : lv_has ls 2 [(0, .ref (G.2.1 0)), (1, .int v1)] := hl
  unfold pMicRow_beams at hf
  refine lv_iload_n C.1 C.2.1 dX9_beams_0 rfl (lv_at hl 1 rfl) ?_
  obtain ⟨x1, hc1, hf⟩ := fm_bd hf
  refine fm_callS C E [.int _] [] lm_X9_157 wk_X9_isDirection (c_MicRow_isDirection l G _ _ _  hc1) rfl hl.1 (by simp [Value.category]) ⟨⟨rfl, rfl⟩, by decide, by decide⟩ ⟨by decide, by decide⟩ dX9_beams_1 rfl (fun H locs E => ?_)
  refine W.eq (g2 := F0 m 4 ls (.int x1 :: [])) rfl ?_
  refine lv_if_ne (tgt := 9) C.1 C.2.1 dX9_beams_4 (by decide) (fun hc4 => ?_) (fun hc4 => ?_)
  · have hf := fm_in' hf hc4
    refine lv_aload_n C.1 C.2.1 dX9_beams_9 rfl (lv_at hl 0 rfl) ?_
    refine fm_getr C E lf_X9_62 hC_0 rfl dX9_beams_10 ?_
    refine lv_iconst (v := (-1)) C.1 C.2.1 dX9_beams_13 (by decide) ?_
    obtain ⟨M14, hc14, hf⟩ := fm_bd hf
    refine fm_callV C E [.int _] [] lm_X9_150 wk_X3_listenTo (c_Ears_listenTo l G _ _ _ hc14) hC_178 rfl rfl rfl hl.1 (by simp [Value.category]) ⟨⟨rfl, rfl⟩, by decide, by decide⟩ ⟨by decide, by decide⟩ dX9_beams_14 rfl (fun H locs E => ?_)
    refine W.eq (g2 := F0 m 17 ls []) rfl ?_
    refine lv_aload_n C.1 C.2.1 dX9_beams_17 rfl (lv_at hl 0 rfl) ?_
    refine lv_iload_n C.1 C.2.1 dX9_beams_18 rfl (lv_at hl 1 rfl) ?_
    obtain ⟨M19, hc19, hf⟩ := fm_bd hf
    refine fm_callV C E [.int _] [] lm_X9_192 wk_X9_learnWeights (c_MicRow_learnWeights l G N _ _ _ hc19) hC_0 rfl rfl rfl hl.1 (by simp [Value.category]) ⟨⟨rfl, rfl⟩, by decide, by decide⟩ ⟨by decide, by decide⟩ dX9_beams_19 rfl (fun H locs E => ?_)
    refine W.eq (g2 := F0 m 22 ls []) rfl ?_
    refine lv_aload_n C.1 C.2.1 dX9_beams_22 rfl (lv_at hl 0 rfl) ?_
    refine fm_getr C E lf_X9_71 hC_0 rfl dX9_beams_23 ?_
    obtain ⟨M26, hc26, hf⟩ := fm_bd hf
    refine fm_callV C E [] [] lm_X9_195 wk_X0_takeOff (c_Bench_takeOff l G N _ _ hc26) hC_181 rfl rfl rfl hl.1 (by simp [Value.category]) ⟨⟨rfl, rfl⟩, by decide, by decide⟩ ⟨by decide, by decide⟩ dX9_beams_26 rfl (fun H locs E => ?_)
    refine W.eq (g2 := F0 m 29 ls []) rfl ?_
    refine lv_aload_n C.1 C.2.1 dX9_beams_29 rfl (lv_at hl 0 rfl) ?_
    refine fm_getr C E lf_X9_53 hC_0 rfl dX9_beams_30 ?_
    obtain ⟨M33, hc33, hf⟩ := fm_bd hf
    refine fm_callV C E [] [] lm_X9_225 wk_X8_clear (c_Told_clear l G _ _ hc33) hC_176 rfl rfl rfl hl.1 (by simp [Value.category]) ⟨⟨rfl, rfl⟩, by decide, by decide⟩ ⟨by decide, by decide⟩ dX9_beams_33 rfl (fun H locs E => ?_)
    refine W.eq (g2 := F0 m 36 ls []) rfl ?_
    refine lv_aload_n C.1 C.2.1 dX9_beams_36 rfl (lv_at hl 0 rfl) ?_
    refine fm_getr C E lf_X9_53 hC_0 rfl dX9_beams_37 ?_
    refine lv_aload_n C.1 C.2.1 dX9_beams_40 rfl (lv_at hl 0 rfl) ?_
    refine fm_getr C E lf_X9_71 hC_0 rfl dX9_beams_41 ?_
    refine lv_aload_n C.1 C.2.1 dX9_beams_44 rfl (lv_at hl 0 rfl) ?_
    refine fm_getr C E lf_X9_71 hC_0 rfl dX9_beams_45 ?_
    refine fm_getr C E lf_X9_178 hC_181 rfl dX9_beams_48 ?_
    obtain ⟨x51, hc51, hf⟩ := fm_bd hf
    refine fm_callV C E [.ref _] [.ref _] lm_X9_228 wk_X0_powerOf (c_Bench_powerOf l G N _ _ _  hc51) hC_181 rfl rfl rfl hl.1 (by simp [Value.category]) ⟨⟨rfl, rfl⟩, by decide, by decide⟩ ⟨by decide, by decide⟩ dX9_beams_51 rfl (fun H locs E => ?_)
    refine W.eq (g2 := F0 m 54 ls (.long x51 :: [.ref _])) rfl ?_
    obtain ⟨M54, hc54, hf⟩ := fm_bd hf
    refine fm_callV C E [.long _] [] lm_X9_232 wk_X8_add (c_Told_add l G _ _ _ hc54) hC_176 rfl rfl rfl hl.1 (by simp [Value.category]) ⟨⟨rfl, rfl⟩, by decide, by decide⟩ ⟨by decide, by decide⟩ dX9_beams_54 rfl (fun H locs E => ?_)
    refine W.eq (g2 := F0 m 57 ls []) rfl ?_
    refine lv_aload_n C.1 C.2.1 dX9_beams_57 rfl (lv_at hl 0 rfl) ?_
    refine fm_getr C E lf_X9_53 hC_0 rfl dX9_beams_58 ?_
    refine lv_aload_n C.1 C.2.1 dX9_beams_61 rfl (lv_at hl 0 rfl) ?_
    refine fm_getr C E lf_X9_71 hC_0 rfl dX9_beams_62 ?_
    refine lv_aload_n C.1 C.2.1 dX9_beams_65 rfl (lv_at hl 0 rfl) ?_
    refine fm_getr C E lf_X9_71 hC_0 rfl dX9_beams_66 ?_
    refine fm_getr C E lf_X9_198 hC_181 rfl dX9_beams_69 ?_
    obtain ⟨x72, hc72, hf⟩ := fm_bd hf
    refine fm_callV C E [.ref _] [.ref _] lm_X9_236 wk_X0_levelOf (c_Bench_levelOf l G N _ _ _  hc72) hC_181 rfl rfl rfl hl.1 (by simp [Value.category]) ⟨⟨rfl, rfl⟩, by decide, by decide⟩ ⟨by decide, by decide⟩ dX9_beams_72 rfl (fun H locs E => ?_)
    refine W.eq (g2 := F0 m 75 ls (.int x72 :: [.ref _])) rfl ?_
    refine lv_i2l C.1 C.2.1 dX9_beams_75 rfl ?_
    obtain ⟨M76, hc76, hf⟩ := fm_bd hf
    refine fm_callV C E [.long _] [] lm_X9_232 wk_X8_add (c_Told_add l G _ _ _ hc76) hC_176 rfl rfl rfl hl.1 (by simp [Value.category]) ⟨⟨rfl, rfl⟩, by decide, by decide⟩ ⟨by decide, by decide⟩ dX9_beams_76 rfl (fun H locs E => ?_)
    refine W.eq (g2 := F0 m 79 ls []) rfl ?_
    refine lv_aload_n C.1 C.2.1 dX9_beams_79 rfl (lv_at hl 0 rfl) ?_
    refine fm_getr C E lf_X9_53 hC_0 rfl dX9_beams_80 ?_
    refine lv_aload_n C.1 C.2.1 dX9_beams_83 rfl (lv_at hl 0 rfl) ?_
    refine fm_getr C E lf_X9_71 hC_0 rfl dX9_beams_84 ?_
    refine lv_aload_n C.1 C.2.1 dX9_beams_87 rfl (lv_at hl 0 rfl) ?_
    refine fm_getr C E lf_X9_71 hC_0 rfl dX9_beams_88 ?_
    refine fm_getr C E lf_X9_198 hC_181 rfl dX9_beams_91 ?_
    obtain ⟨x94, hc94, hf⟩ := fm_bd hf
    refine fm_callV C E [.ref _] [.ref _] lm_X9_228 wk_X0_powerOf (c_Bench_powerOf l G N _ _ _  hc94) hC_181 rfl rfl rfl hl.1 (by simp [Value.category]) ⟨⟨rfl, rfl⟩, by decide, by decide⟩ ⟨by decide, by decide⟩ dX9_beams_94 rfl (fun H locs E => ?_)
    refine W.eq (g2 := F0 m 97 ls (.long x94 :: [.ref _])) rfl ?_
    obtain ⟨M97, hc97, hf⟩ := fm_bd hf
    refine fm_callV C E [.long _] [] lm_X9_232 wk_X8_add (c_Told_add l G _ _ _ hc97) hC_176 rfl rfl rfl hl.1 (by simp [Value.category]) ⟨⟨rfl, rfl⟩, by decide, by decide⟩ ⟨by decide, by decide⟩ dX9_beams_97 rfl (fun H locs E => ?_)
    refine W.eq (g2 := F0 m 100 ls []) rfl ?_
    refine lv_aload_n C.1 C.2.1 dX9_beams_100 rfl (lv_at hl 0 rfl) ?_
    refine fm_getr C E lf_X9_71 hC_0 rfl dX9_beams_101 ?_
    refine lv_aload_n C.1 C.2.1 dX9_beams_104 rfl (lv_at hl 0 rfl) ?_
    refine fm_getr C E lf_X9_71 hC_0 rfl dX9_beams_105 ?_
    refine fm_getr C E lf_X9_178 hC_181 rfl dX9_beams_108 ?_
    obtain ⟨x111, hc111, hf⟩ := fm_bd hf
    refine fm_callV C E [.ref _] [] lm_X9_236 wk_X0_levelOf (c_Bench_levelOf l G N _ _ _  hc111) hC_181 rfl rfl rfl hl.1 (by simp [Value.category]) ⟨⟨rfl, rfl⟩, by decide, by decide⟩ ⟨by decide, by decide⟩ dX9_beams_111 rfl (fun H locs E => ?_)
    refine W.eq (g2 := F0 m 114 ls (.int x111 :: [])) rfl ?_
    obtain ⟨rfl, rfl⟩ := fm_rt2 hf
    exact fm_iret C E rfl rfl dX9_beams_114
  · have hf := fm_ip hf hc4
    refine lv_iconst (v := (-1)) C.1 C.2.1 dX9_beams_7 (by decide) ?_
    obtain ⟨rfl, rfl⟩ := fm_rt2 hf
    exact fm_iret C E rfl rfl dX9_beams_8
theorem dX9_weights_0 : decode cX9_weights 0 = .ok (.iload_n 1, 1) := by decide +kernel
theorem dX9_weights_1 : decode cX9_weights 1 = .ok (.invokestatic 157, 3) := by decide +kernel
theorem dX9_weights_4 : decode cX9_weights 4 = .ok (.ifCond .ne 5, 3) := by decide +kernel
theorem dX9_weights_7 : decode cX9_weights 7 = .ok (.iconst (-1), 1) := by decide +kernel
theorem dX9_weights_8 : decode cX9_weights 8 = .ok (.ireturn, 1) := by decide +kernel
theorem dX9_weights_9 : decode cX9_weights 9 = .ok (.aload_n 0, 1) := by decide +kernel
theorem dX9_weights_10 : decode cX9_weights 10 = .ok (.getfield 62, 3) := by decide +kernel
theorem dX9_weights_13 : decode cX9_weights 13 = .ok (.iconst (-1), 1) := by decide +kernel
theorem dX9_weights_14 : decode cX9_weights 14 = .ok (.invokevirtual 150, 3) := by decide +kernel
theorem dX9_weights_17 : decode cX9_weights 17 = .ok (.aload_n 0, 1) := by decide +kernel
theorem dX9_weights_18 : decode cX9_weights 18 = .ok (.iload_n 1, 1) := by decide +kernel
theorem dX9_weights_19 : decode cX9_weights 19 = .ok (.invokevirtual 192, 3) := by decide +kernel
theorem dX9_weights_22 : decode cX9_weights 22 = .ok (.aload_n 0, 1) := by decide +kernel
theorem dX9_weights_23 : decode cX9_weights 23 = .ok (.getfield 53, 3) := by decide +kernel
theorem dX9_weights_26 : decode cX9_weights 26 = .ok (.invokevirtual 225, 3) := by decide +kernel
theorem dX9_weights_29 : decode cX9_weights 29 = .ok (.iconst 0, 1) := by decide +kernel
theorem dX9_weights_30 : decode cX9_weights 30 = .ok (.istore_n 2, 1) := by decide +kernel
theorem dX9_weights_31 : decode cX9_weights 31 = .ok (.iload_n 2, 1) := by decide +kernel
theorem dX9_weights_32 : decode cX9_weights 32 = .ok (.aload_n 0, 1) := by decide +kernel
theorem dX9_weights_33 : decode cX9_weights 33 = .ok (.getfield 71, 3) := by decide +kernel
theorem dX9_weights_36 : decode cX9_weights 36 = .ok (.getfield 184, 3) := by decide +kernel
theorem dX9_weights_39 : decode cX9_weights 39 = .ok (.if_icmp .ge 26, 3) := by decide +kernel
theorem dX9_weights_42 : decode cX9_weights 42 = .ok (.aload_n 0, 1) := by decide +kernel
theorem dX9_weights_43 : decode cX9_weights 43 = .ok (.getfield 53, 3) := by decide +kernel
theorem dX9_weights_46 : decode cX9_weights 46 = .ok (.aload_n 0, 1) := by decide +kernel
theorem dX9_weights_47 : decode cX9_weights 47 = .ok (.getfield 71, 3) := by decide +kernel
theorem dX9_weights_50 : decode cX9_weights 50 = .ok (.getfield 240, 3) := by decide +kernel
theorem dX9_weights_53 : decode cX9_weights 53 = .ok (.iload_n 2, 1) := by decide +kernel
theorem dX9_weights_54 : decode cX9_weights 54 = .ok (.iaload, 1) := by decide +kernel
theorem dX9_weights_55 : decode cX9_weights 55 = .ok (.i2l, 1) := by decide +kernel
theorem dX9_weights_56 : decode cX9_weights 56 = .ok (.invokevirtual 232, 3) := by decide +kernel
theorem dX9_weights_59 : decode cX9_weights 59 = .ok (.iinc 2 1, 3) := by decide +kernel
theorem dX9_weights_62 : decode cX9_weights 62 = .ok (.goto (-31), 3) := by decide +kernel
theorem dX9_weights_65 : decode cX9_weights 65 = .ok (.aload_n 0, 1) := by decide +kernel
theorem dX9_weights_66 : decode cX9_weights 66 = .ok (.getfield 71, 3) := by decide +kernel
theorem dX9_weights_69 : decode cX9_weights 69 = .ok (.getfield 184, 3) := by decide +kernel
theorem dX9_weights_72 : decode cX9_weights 72 = .ok (.ireturn, 1) := by decide +kernel
set_option maxHeartbeats 4000000 in
set_option maxRecDepth 100000 in
theorem c_MicRow_weights (l : Launch) (G : fm_G) (N : Nat) (M : fm_M) (v1 : Int32) (r : Int32) (M' : fm_M) (hf : pMicRow_weights N M v1 = some (r, M')) : fm_Met l yX9_weights cX9_weights 3 (some .int) { frames := 7, cells := 0, slots := 0, locals := 168 } shC G [.ref (G.2.1 0), .int v1] M (some (.int r)) M' := by
  refine fm_enter (by decide) (Nat.le_of_ble_eq_true rfl) ?_
  intro p e s m args below meth c ls C E hl
  have hl : lv_has ls 3 [(0, .ref (G.2.1 0)), (1, .int v1)] := hl
  have L31 : ∀ (n31 : Nat) (v2 : Int32) (M : fm_M) (H : Heap) (locs : List Loc) (ls : Array Slot), fm_Wd shC G M s H locs → lv_has ls 3 [(0, .ref (G.2.1 0)), (2, .int v2)] → fm_lp (pMicRow_weights_L31 N) n31 (v2, M) = some (r, M') → W p l e { frames := 7, cells := 0, slots := 0, locals := 168 } s m args below meth c H locs 0 0 (fm_Z below shC G args s (some (.int r)) M') (F0 m 31 ls []) := by
    intro  n31
    induction n31 with
    | zero => intro v2 M H locs ls E hl hf; exact fm_lp_0 hf
    | succ n31 ih31 =>
      intro v2 M H locs ls E hl hf
      have hf : pMicRow_weights_L31b N (fm_lp (pMicRow_weights_L31 N) n31) v2 M = some (r, M') := hf
      unfold pMicRow_weights_L31b at hf
      refine lv_iload_n C.1 C.2.1 dX9_weights_31 rfl (lv_at hl 1 rfl) ?_
      refine lv_aload_n C.1 C.2.1 dX9_weights_32 rfl (lv_at hl 0 rfl) ?_
      refine fm_getr C E lf_X9_71 hC_0 rfl dX9_weights_33 ?_
      refine fm_geti C E lf_X9_184 hC_181 rfl dX9_weights_36 ?_
      refine lv_icmp_ge (tgt := 65) C.1 C.2.1 dX9_weights_39 (by decide) (fun hc39 => ?_) (fun hc39 => ?_)
      · have hf := fm_ip hf hc39
        refine lv_aload_n C.1 C.2.1 dX9_weights_65 rfl (lv_at hl 0 rfl) ?_
        refine fm_getr C E lf_X9_71 hC_0 rfl dX9_weights_66 ?_
        refine fm_geti C E lf_X9_184 hC_181 rfl dX9_weights_69 ?_
        obtain ⟨rfl, rfl⟩ := fm_rt2 hf
        exact fm_iret C E rfl rfl dX9_weights_72
      · have hf := fm_in' hf hc39
        refine lv_aload_n C.1 C.2.1 dX9_weights_42 rfl (lv_at hl 0 rfl) ?_
        refine fm_getr C E lf_X9_53 hC_0 rfl dX9_weights_43 ?_
        refine lv_aload_n C.1 C.2.1 dX9_weights_46 rfl (lv_at hl 0 rfl) ?_
        refine fm_getr C E lf_X9_71 hC_0 rfl dX9_weights_47 ?_
        refine fm_getr C E lf_X9_240 hC_181 rfl dX9_weights_50 ?_
        refine lv_iload_n C.1 C.2.1 dX9_weights_53 rfl (lv_at hl 1 rfl) ?_
        obtain ⟨h54, x54, e54, hf⟩ := fm_ld_e hf
        refine fm_iald' C E e54 hC_198 h54 dX9_weights_54 ?_
        refine lv_i2l C.1 C.2.1 dX9_weights_55 rfl ?_
        obtain ⟨M56, hc56, hf⟩ := fm_bd hf
        refine fm_callV C E [.long _] [] lm_X9_232 wk_X8_add (c_Told_add l G _ _ _ hc56) hC_176 rfl rfl rfl hl.1 (by simp [Value.category]) ⟨⟨rfl, rfl⟩, by decide, by decide⟩ ⟨by decide, by decide⟩ dX9_weights_56 rfl (fun H locs E => ?_)
        refine W.eq (g2 := F0 m 59 ls []) rfl ?_
        refine fm_iinc C (v := 1) (lv' := [(2, .int _), (0, .ref _)]) (k := 1) hl rfl (by decide) (by decide) rfl dX9_weights_59 (fun ls hl => ?_)
        refine lv_goto (tgt := 31) C.1 C.2.1 dX9_weights_62 (by decide) ?_
        exact ih31 _ _ _ _ _ E (lv_sub hl [1, 0] rfl) hf
  unfold pMicRow_weights at hf
  refine lv_iload_n C.1 C.2.1 dX9_weights_0 rfl (lv_at hl 1 rfl) ?_
  obtain ⟨x1, hc1, hf⟩ := fm_bd hf
  refine fm_callS C E [.int _] [] lm_X9_157 wk_X9_isDirection (c_MicRow_isDirection l G _ _ _  hc1) rfl hl.1 (by simp [Value.category]) ⟨⟨rfl, rfl⟩, by decide, by decide⟩ ⟨by decide, by decide⟩ dX9_weights_1 rfl (fun H locs E => ?_)
  refine W.eq (g2 := F0 m 4 ls (.int x1 :: [])) rfl ?_
  refine lv_if_ne (tgt := 9) C.1 C.2.1 dX9_weights_4 (by decide) (fun hc4 => ?_) (fun hc4 => ?_)
  · have hf := fm_in' hf hc4
    refine lv_aload_n C.1 C.2.1 dX9_weights_9 rfl (lv_at hl 0 rfl) ?_
    refine fm_getr C E lf_X9_62 hC_0 rfl dX9_weights_10 ?_
    refine lv_iconst (v := (-1)) C.1 C.2.1 dX9_weights_13 (by decide) ?_
    obtain ⟨M14, hc14, hf⟩ := fm_bd hf
    refine fm_callV C E [.int _] [] lm_X9_150 wk_X3_listenTo (c_Ears_listenTo l G _ _ _ hc14) hC_178 rfl rfl rfl hl.1 (by simp [Value.category]) ⟨⟨rfl, rfl⟩, by decide, by decide⟩ ⟨by decide, by decide⟩ dX9_weights_14 rfl (fun H locs E => ?_)
    refine W.eq (g2 := F0 m 17 ls []) rfl ?_
    refine lv_aload_n C.1 C.2.1 dX9_weights_17 rfl (lv_at hl 0 rfl) ?_
    refine lv_iload_n C.1 C.2.1 dX9_weights_18 rfl (lv_at hl 1 rfl) ?_
    obtain ⟨M19, hc19, hf⟩ := fm_bd hf
    refine fm_callV C E [.int _] [] lm_X9_192 wk_X9_learnWeights (c_MicRow_learnWeights l G N _ _ _ hc19) hC_0 rfl rfl rfl hl.1 (by simp [Value.category]) ⟨⟨rfl, rfl⟩, by decide, by decide⟩ ⟨by decide, by decide⟩ dX9_weights_19 rfl (fun H locs E => ?_)
    refine W.eq (g2 := F0 m 22 ls []) rfl ?_
    refine lv_aload_n C.1 C.2.1 dX9_weights_22 rfl (lv_at hl 0 rfl) ?_
    refine fm_getr C E lf_X9_53 hC_0 rfl dX9_weights_23 ?_
    obtain ⟨M26, hc26, hf⟩ := fm_bd hf
    refine fm_callV C E [] [] lm_X9_225 wk_X8_clear (c_Told_clear l G _ _ hc26) hC_176 rfl rfl rfl hl.1 (by simp [Value.category]) ⟨⟨rfl, rfl⟩, by decide, by decide⟩ ⟨by decide, by decide⟩ dX9_weights_26 rfl (fun H locs E => ?_)
    refine W.eq (g2 := F0 m 29 ls []) rfl ?_
    refine lv_iconst (v := 0) C.1 C.2.1 dX9_weights_29 (by decide) ?_
    refine lv_istore_n (lv' := [(2, .int _), (0, .ref _), (1, .int _)]) C.1 C.2.1 dX9_weights_30 rfl hl (by decide) rfl (fun ls hl => ?_)
    exact L31  N _ _ _ _ _ E (lv_sub hl [1, 0] rfl) hf
  · have hf := fm_ip hf hc4
    refine lv_iconst (v := (-1)) C.1 C.2.1 dX9_weights_7 (by decide) ?_
    obtain ⟨rfl, rfl⟩ := fm_rt2 hf
    exact fm_iret C E rfl rfl dX9_weights_8
theorem dX9_loudest_0 : decode cX9_loudest 0 = .ok (.iload_n 1, 1) := by decide +kernel
theorem dX9_loudest_1 : decode cX9_loudest 1 = .ok (.iconst 0, 1) := by decide +kernel
theorem dX9_loudest_2 : decode cX9_loudest 2 = .ok (.iconst 1, 1) := by decide +kernel
theorem dX9_loudest_3 : decode cX9_loudest 3 = .ok (.invokestatic 112, 3) := by decide +kernel
theorem dX9_loudest_6 : decode cX9_loudest 6 = .ok (.ifCond .ne 5, 3) := by decide +kernel
theorem dX9_loudest_9 : decode cX9_loudest 9 = .ok (.iconst (-1), 1) := by decide +kernel
theorem dX9_loudest_10 : decode cX9_loudest 10 = .ok (.ireturn, 1) := by decide +kernel
theorem dX9_loudest_11 : decode cX9_loudest 11 = .ok (.aload_n 0, 1) := by decide +kernel
theorem dX9_loudest_12 : decode cX9_loudest 12 = .ok (.getfield 10, 3) := by decide +kernel
theorem dX9_loudest_15 : decode cX9_loudest 15 = .ok (.invokevirtual 171, 3) := by decide +kernel
theorem dX9_loudest_18 : decode cX9_loudest 18 = .ok (.ifCond .ne 6, 3) := by decide +kernel
theorem dX9_loudest_21 : decode cX9_loudest 21 = .ok (.bipush (-2), 2) := by decide +kernel
theorem dX9_loudest_23 : decode cX9_loudest 23 = .ok (.ireturn, 1) := by decide +kernel
theorem dX9_loudest_24 : decode cX9_loudest 24 = .ok (.aload_n 0, 1) := by decide +kernel
theorem dX9_loudest_25 : decode cX9_loudest 25 = .ok (.getfield 62, 3) := by decide +kernel
theorem dX9_loudest_28 : decode cX9_loudest 28 = .ok (.iconst (-1), 1) := by decide +kernel
theorem dX9_loudest_29 : decode cX9_loudest 29 = .ok (.invokevirtual 150, 3) := by decide +kernel
theorem dX9_loudest_32 : decode cX9_loudest 32 = .ok (.iconst 0, 1) := by decide +kernel
theorem dX9_loudest_33 : decode cX9_loudest 33 = .ok (.istore_n 2, 1) := by decide +kernel
theorem dX9_loudest_34 : decode cX9_loudest 34 = .ok (.ldc2_w 243, 3) := by decide +kernel
theorem dX9_loudest_37 : decode cX9_loudest 37 = .ok (.lstore_n 3, 1) := by decide +kernel
theorem dX9_loudest_38 : decode cX9_loudest 38 = .ok (.iconst 0, 1) := by decide +kernel
theorem dX9_loudest_39 : decode cX9_loudest 39 = .ok (.istore 5, 2) := by decide +kernel
theorem dX9_loudest_41 : decode cX9_loudest 41 = .ok (.iload 5, 2) := by decide +kernel
theorem dX9_loudest_43 : decode cX9_loudest 43 = .ok (.bipush 17, 2) := by decide +kernel
theorem dX9_loudest_45 : decode cX9_loudest 45 = .ok (.if_icmp .ge 57, 3) := by decide +kernel
theorem dX9_loudest_48 : decode cX9_loudest 48 = .ok (.iload 5, 2) := by decide +kernel
theorem dX9_loudest_50 : decode cX9_loudest 50 = .ok (.invokestatic 245, 3) := by decide +kernel
theorem dX9_loudest_53 : decode cX9_loudest 53 = .ok (.istore 6, 2) := by decide +kernel
theorem dX9_loudest_55 : decode cX9_loudest 55 = .ok (.iload_n 1, 1) := by decide +kernel
theorem dX9_loudest_56 : decode cX9_loudest 56 = .ok (.ifCond .ne 12, 3) := by decide +kernel
theorem dX9_loudest_59 : decode cX9_loudest 59 = .ok (.aload_n 0, 1) := by decide +kernel
theorem dX9_loudest_60 : decode cX9_loudest 60 = .ok (.iload 6, 2) := by decide +kernel
theorem dX9_loudest_62 : decode cX9_loudest 62 = .ok (.invokevirtual 248, 3) := by decide +kernel
theorem dX9_loudest_65 : decode cX9_loudest 65 = .ok (.goto 16, 3) := by decide +kernel
theorem dX9_loudest_68 : decode cX9_loudest 68 = .ok (.aload_n 0, 1) := by decide +kernel
theorem dX9_loudest_69 : decode cX9_loudest 69 = .ok (.iload 6, 2) := by decide +kernel
theorem dX9_loudest_71 : decode cX9_loudest 71 = .ok (.aload_n 0, 1) := by decide +kernel
theorem dX9_loudest_72 : decode cX9_loudest 72 = .ok (.getfield 10, 3) := by decide +kernel
theorem dX9_loudest_75 : decode cX9_loudest 75 = .ok (.invokevirtual 171, 3) := by decide +kernel
theorem dX9_loudest_78 : decode cX9_loudest 78 = .ok (.invokevirtual 252, 3) := by decide +kernel
theorem dX9_loudest_81 : decode cX9_loudest 81 = .ok (.lstore 7, 2) := by decide +kernel
theorem dX9_loudest_83 : decode cX9_loudest 83 = .ok (.lload 7, 2) := by decide +kernel
theorem dX9_loudest_85 : decode cX9_loudest 85 = .ok (.lload_n 3, 1) := by decide +kernel
theorem dX9_loudest_86 : decode cX9_loudest 86 = .ok (.lcmp, 1) := by decide +kernel
theorem dX9_loudest_87 : decode cX9_loudest 87 = .ok (.ifCond .le 9, 3) := by decide +kernel
theorem dX9_loudest_90 : decode cX9_loudest 90 = .ok (.lload 7, 2) := by decide +kernel
theorem dX9_loudest_92 : decode cX9_loudest 92 = .ok (.lstore_n 3, 1) := by decide +kernel
theorem dX9_loudest_93 : decode cX9_loudest 93 = .ok (.iload 6, 2) := by decide +kernel
theorem dX9_loudest_95 : decode cX9_loudest 95 = .ok (.istore_n 2, 1) := by decide +kernel
theorem dX9_loudest_96 : decode cX9_loudest 96 = .ok (.iinc 5 1, 3) := by decide +kernel
theorem dX9_loudest_99 : decode cX9_loudest 99 = .ok (.goto (-58), 3) := by decide +kernel
theorem dX9_loudest_102 : decode cX9_loudest 102 = .ok (.aload_n 0, 1) := by decide +kernel
theorem dX9_loudest_103 : decode cX9_loudest 103 = .ok (.getfield 53, 3) := by decide +kernel
theorem dX9_loudest_106 : decode cX9_loudest 106 = .ok (.invokevirtual 225, 3) := by decide +kernel
theorem dX9_loudest_109 : decode cX9_loudest 109 = .ok (.aload_n 0, 1) := by decide +kernel
theorem dX9_loudest_110 : decode cX9_loudest 110 = .ok (.getfield 53, 3) := by decide +kernel
theorem dX9_loudest_113 : decode cX9_loudest 113 = .ok (.lload_n 3, 1) := by decide +kernel
theorem dX9_loudest_114 : decode cX9_loudest 114 = .ok (.invokevirtual 232, 3) := by decide +kernel
theorem dX9_loudest_117 : decode cX9_loudest 117 = .ok (.iload_n 2, 1) := by decide +kernel
theorem dX9_loudest_118 : decode cX9_loudest 118 = .ok (.bipush 8, 2) := by decide +kernel
theorem dX9_loudest_120 : decode cX9_loudest 120 = .ok (.iadd, 1) := by decide +kernel
theorem dX9_loudest_121 : decode cX9_loudest 121 = .ok (.ireturn, 1) := by decide +kernel
set_option maxHeartbeats 4000000 in
set_option maxRecDepth 100000 in
theorem c_MicRow_loudest (l : Launch) (G : fm_G) (N : Nat) (M : fm_M) (v1 : Int32) (r : Int32) (M' : fm_M) (hf : pMicRow_loudest N M v1 = some (r, M')) : fm_Met l yX9_loudest cX9_loudest 9 (some .int) { frames := 7, cells := 0, slots := 0, locals := 169 } shC G [.ref (G.2.1 0), .int v1] M (some (.int r)) M' := by
  refine fm_enter (by decide) (Nat.le_of_ble_eq_true rfl) ?_
  intro p e s m args below meth c ls C E hl
  have hl : lv_has ls 9 [(0, .ref (G.2.1 0)), (1, .int v1)] := hl
  have L41 : ∀ (w41_v1 : Int32) (n41 : Nat) (v2 : Int32) (v3 : Int64) (v5 : Int32) (M : fm_M) (H : Heap) (locs : List Loc) (ls : Array Slot), fm_Wd shC G M s H locs → lv_has ls 9 [(0, .ref (G.2.1 0)), (1, .int w41_v1), (2, .int v2), (3, .long v3), (5, .int v5)] → fm_lp (pMicRow_loudest_L41 N w41_v1) n41 (v2, v3, v5, M) = some (r, M') → W p l e { frames := 7, cells := 0, slots := 0, locals := 169 } s m args below meth c H locs 0 0 (fm_Z below shC G args s (some (.int r)) M') (F0 m 41 ls []) := by
    intro w41_v1 n41
    induction n41 with
    | zero => intro v2 v3 v5 M H locs ls E hl hf; exact fm_lp_0 hf
    | succ n41 ih41 =>
      have J81 : ∀ (M : fm_M) (v2 : Int32) (v3 : Int64) (v5 : Int32) (v6 : Int32) (s0 : Int64) (H : Heap) (locs : List Loc) (ls : Array Slot), fm_Wd shC G M s H locs → lv_has ls 9 [(0, .ref (G.2.1 0)), (1, .int w41_v1), (2, .int v2), (3, .long v3), (5, .int v5), (6, .int v6)] → pMicRow_loudest_J81 N M w41_v1 v2 v3 v5 v6 (fm_lp (pMicRow_loudest_L41 N w41_v1) n41) s0 = some (r, M') → W p l e { frames := 7, cells := 0, slots := 0, locals := 169 } s m args below meth c H locs 0 0 (fm_Z below shC G args s (some (.int r)) M') (F0 m 81 ls [.long s0]) := by
        intro M v2 v3 v5 v6 s0 H locs ls E hl hf
        unfold pMicRow_loudest_J81 at hf
        refine lv_lstore (lv' := [(7, .long _), (0, .ref _), (1, .int _), (2, .int _), (3, .long _), (5, .int _), (6, .int _)]) C.1 C.2.1 dX9_loudest_81 hl (by decide) rfl (fun ls hl => ?_)
        refine lv_lload C.1 C.2.1 dX9_loudest_83 (lv_at hl 0 rfl) ?_
        refine lv_lload_n C.1 C.2.1 dX9_loudest_85 rfl (lv_at hl 4 rfl) ?_
        refine W.lcmp C.1 C.2.1 dX9_loudest_86 ?_
        refine lv_if_le (tgt := 96) C.1 C.2.1 dX9_loudest_87 (by decide) (fun hc87 => ?_) (fun hc87 => ?_)
        · have hf := fm_ip hf hc87
          refine fm_iinc C (v := 1) (lv' := [(5, .int _), (7, .long _), (0, .ref _), (1, .int _), (2, .int _), (3, .long _), (6, .int _)]) (k := 5) hl rfl (by decide) (by decide) rfl dX9_loudest_96 (fun ls hl => ?_)
          refine lv_goto (tgt := 41) C.1 C.2.1 dX9_loudest_99 (by decide) ?_
          exact ih41 _ _ _ _ _ _ _ E (lv_sub hl [2, 3, 4, 5, 0] rfl) hf
        · have hf := fm_in' hf hc87
          refine lv_lload C.1 C.2.1 dX9_loudest_90 (lv_at hl 0 rfl) ?_
          refine lv_lstore_n (lv' := [(3, .long _), (7, .long _), (0, .ref _), (1, .int _), (2, .int _), (5, .int _), (6, .int _)]) C.1 C.2.1 dX9_loudest_92 rfl hl (by decide) rfl (fun ls hl => ?_)
          refine lv_iload C.1 C.2.1 dX9_loudest_93 (lv_at hl 6 rfl) ?_
          refine lv_istore_n (lv' := [(2, .int _), (3, .long _), (7, .long _), (0, .ref _), (1, .int _), (5, .int _), (6, .int _)]) C.1 C.2.1 dX9_loudest_95 rfl hl (by decide) rfl (fun ls hl => ?_)
          refine fm_iinc C (v := 1) (lv' := [(5, .int _), (2, .int _), (3, .long _), (7, .long _), (0, .ref _), (1, .int _), (6, .int _)]) (k := 5) hl rfl (by decide) (by decide) rfl dX9_loudest_96 (fun ls hl => ?_)
          refine lv_goto (tgt := 41) C.1 C.2.1 dX9_loudest_99 (by decide) ?_
          exact ih41 _ _ _ _ _ _ _ E (lv_sub hl [4, 5, 1, 2, 0] rfl) hf
      intro v2 v3 v5 M H locs ls E hl hf
      have hf : pMicRow_loudest_L41b N w41_v1 (fm_lp (pMicRow_loudest_L41 N w41_v1) n41) v2 v3 v5 M = some (r, M') := hf
      unfold pMicRow_loudest_L41b at hf
      refine lv_iload C.1 C.2.1 dX9_loudest_41 (lv_at hl 4 rfl) ?_
      refine lv_bipush (v := 17) C.1 C.2.1 dX9_loudest_43 (by decide) ?_
      refine lv_icmp_ge (tgt := 102) C.1 C.2.1 dX9_loudest_45 (by decide) (fun hc45 => ?_) (fun hc45 => ?_)
      · have hf := fm_ip hf hc45
        refine lv_aload_n C.1 C.2.1 dX9_loudest_102 rfl (lv_at hl 0 rfl) ?_
        refine fm_getr C E lf_X9_53 hC_0 rfl dX9_loudest_103 ?_
        obtain ⟨M106, hc106, hf⟩ := fm_bd hf
        refine fm_callV C E [] [] lm_X9_225 wk_X8_clear (c_Told_clear l G _ _ hc106) hC_176 rfl rfl rfl hl.1 (by simp [Value.category]) ⟨⟨rfl, rfl⟩, by decide, by decide⟩ ⟨by decide, by decide⟩ dX9_loudest_106 rfl (fun H locs E => ?_)
        refine W.eq (g2 := F0 m 109 ls []) rfl ?_
        refine lv_aload_n C.1 C.2.1 dX9_loudest_109 rfl (lv_at hl 0 rfl) ?_
        refine fm_getr C E lf_X9_53 hC_0 rfl dX9_loudest_110 ?_
        refine lv_lload_n C.1 C.2.1 dX9_loudest_113 rfl (lv_at hl 3 rfl) ?_
        obtain ⟨M114, hc114, hf⟩ := fm_bd hf
        refine fm_callV C E [.long _] [] lm_X9_232 wk_X8_add (c_Told_add l G _ _ _ hc114) hC_176 rfl rfl rfl hl.1 (by simp [Value.category]) ⟨⟨rfl, rfl⟩, by decide, by decide⟩ ⟨by decide, by decide⟩ dX9_loudest_114 rfl (fun H locs E => ?_)
        refine W.eq (g2 := F0 m 117 ls []) rfl ?_
        refine lv_iload_n C.1 C.2.1 dX9_loudest_117 rfl (lv_at hl 2 rfl) ?_
        refine lv_bipush (v := 8) C.1 C.2.1 dX9_loudest_118 (by decide) ?_
        refine lv_iadd C.1 C.2.1 dX9_loudest_120 ?_
        obtain ⟨rfl, rfl⟩ := fm_rt2 hf
        exact fm_iret C E rfl rfl dX9_loudest_121
      · have hf := fm_in' hf hc45
        refine lv_iload C.1 C.2.1 dX9_loudest_48 (lv_at hl 4 rfl) ?_
        obtain ⟨x50, hc50, hf⟩ := fm_bd hf
        refine fm_callS C E [.int _] [] lm_X9_245 wk_X9_bySize (c_MicRow_bySize l G _ _ _  hc50) rfl hl.1 (by simp [Value.category]) ⟨⟨rfl, rfl⟩, by decide, by decide⟩ ⟨by decide, by decide⟩ dX9_loudest_50 rfl (fun H locs E => ?_)
        refine W.eq (g2 := F0 m 53 ls (.int x50 :: [])) rfl ?_
        refine lv_istore (lv' := [(6, .int _), (0, .ref _), (1, .int _), (2, .int _), (3, .long _), (5, .int _)]) C.1 C.2.1 dX9_loudest_53 hl (by decide) rfl (fun ls hl => ?_)
        refine lv_iload_n C.1 C.2.1 dX9_loudest_55 rfl (lv_at hl 2 rfl) ?_
        refine lv_if_ne (tgt := 68) C.1 C.2.1 dX9_loudest_56 (by decide) (fun hc56 => ?_) (fun hc56 => ?_)
        · have hf := fm_in' hf hc56
          refine lv_aload_n C.1 C.2.1 dX9_loudest_68 rfl (lv_at hl 1 rfl) ?_
          refine lv_iload C.1 C.2.1 dX9_loudest_69 (lv_at hl 0 rfl) ?_
          refine lv_aload_n C.1 C.2.1 dX9_loudest_71 rfl (lv_at hl 1 rfl) ?_
          refine fm_getr C E lf_X9_10 hC_0 rfl dX9_loudest_72 ?_
          obtain ⟨x75, hc75, hf⟩ := fm_bd hf
          refine fm_callV C E [] [.int _, .ref _] lm_X9_171 wk_X7_liveSet (c_Scene_liveSet l G N _ _  hc75) hC_1 rfl rfl rfl hl.1 (by simp [Value.category]) ⟨⟨rfl, rfl⟩, by decide, by decide⟩ ⟨by decide, by decide⟩ dX9_loudest_75 rfl (fun H locs E => ?_)
          refine W.eq (g2 := F0 m 78 ls (.int x75 :: [.int _, .ref _])) rfl ?_
          obtain ⟨⟨x78, M78⟩, hc78, hf⟩ := fm_bd hf
          dsimp only at hf
          refine fm_callV C E [.int _, .int _] [] lm_X9_252 wk_X9_cleanPower (c_MicRow_cleanPower l G N _ _ _ _ _ hc78) hC_0 rfl rfl rfl hl.1 (by simp [Value.category]) ⟨⟨rfl, rfl⟩, by decide, by decide⟩ ⟨by decide, by decide⟩ dX9_loudest_78 rfl (fun H locs E => ?_)
          refine W.eq (g2 := F0 m 81 ls (.long x78 :: [])) rfl ?_
          exact J81 _ _ _ _ _ _ _ _ _ E (lv_sub hl [1, 2, 3, 4, 5, 0] rfl) hf
        · have hf := fm_ip hf hc56
          refine lv_aload_n C.1 C.2.1 dX9_loudest_59 rfl (lv_at hl 1 rfl) ?_
          refine lv_iload C.1 C.2.1 dX9_loudest_60 (lv_at hl 0 rfl) ?_
          obtain ⟨⟨x62, M62⟩, hc62, hf⟩ := fm_bd hf
          dsimp only at hf
          refine fm_callV C E [.int _] [] lm_X9_248 wk_X9_beamPower (c_MicRow_beamPower l G N _ _ _ _ hc62) hC_0 rfl rfl rfl hl.1 (by simp [Value.category]) ⟨⟨rfl, rfl⟩, by decide, by decide⟩ ⟨by decide, by decide⟩ dX9_loudest_62 rfl (fun H locs E => ?_)
          refine W.eq (g2 := F0 m 65 ls (.long x62 :: [])) rfl ?_
          refine lv_goto (tgt := 81) C.1 C.2.1 dX9_loudest_65 (by decide) ?_
          exact J81 _ _ _ _ _ _ _ _ _ E (lv_sub hl [1, 2, 3, 4, 5, 0] rfl) hf
  unfold pMicRow_loudest at hf
  refine lv_iload_n C.1 C.2.1 dX9_loudest_0 rfl (lv_at hl 1 rfl) ?_
  refine lv_iconst (v := 0) C.1 C.2.1 dX9_loudest_1 (by decide) ?_
  refine lv_iconst (v := 1) C.1 C.2.1 dX9_loudest_2 (by decide) ?_
  obtain ⟨x3, hc3, hf⟩ := fm_bd hf
  refine fm_callS C E [.int _, .int _, .int _] [] lm_X9_112 wk_X9_within (c_MicRow_within l G _ _ _ _ _  hc3) rfl hl.1 (by simp [Value.category]) ⟨⟨rfl, rfl⟩, by decide, by decide⟩ ⟨by decide, by decide⟩ dX9_loudest_3 rfl (fun H locs E => ?_)
  refine W.eq (g2 := F0 m 6 ls (.int x3 :: [])) rfl ?_
  refine lv_if_ne (tgt := 11) C.1 C.2.1 dX9_loudest_6 (by decide) (fun hc6 => ?_) (fun hc6 => ?_)
  · have hf := fm_in' hf hc6
    refine lv_aload_n C.1 C.2.1 dX9_loudest_11 rfl (lv_at hl 0 rfl) ?_
    refine fm_getr C E lf_X9_10 hC_0 rfl dX9_loudest_12 ?_
    obtain ⟨x15, hc15, hf⟩ := fm_bd hf
    refine fm_callV C E [] [] lm_X9_171 wk_X7_liveSet (c_Scene_liveSet l G N _ _  hc15) hC_1 rfl rfl rfl hl.1 (by simp [Value.category]) ⟨⟨rfl, rfl⟩, by decide, by decide⟩ ⟨by decide, by decide⟩ dX9_loudest_15 rfl (fun H locs E => ?_)
    refine W.eq (g2 := F0 m 18 ls (.int x15 :: [])) rfl ?_
    refine lv_if_ne (tgt := 24) C.1 C.2.1 dX9_loudest_18 (by decide) (fun hc18 => ?_) (fun hc18 => ?_)
    · have hf := fm_in' hf hc18
      refine lv_aload_n C.1 C.2.1 dX9_loudest_24 rfl (lv_at hl 0 rfl) ?_
      refine fm_getr C E lf_X9_62 hC_0 rfl dX9_loudest_25 ?_
      refine lv_iconst (v := (-1)) C.1 C.2.1 dX9_loudest_28 (by decide) ?_
      obtain ⟨M29, hc29, hf⟩ := fm_bd hf
      refine fm_callV C E [.int _] [] lm_X9_150 wk_X3_listenTo (c_Ears_listenTo l G _ _ _ hc29) hC_178 rfl rfl rfl hl.1 (by simp [Value.category]) ⟨⟨rfl, rfl⟩, by decide, by decide⟩ ⟨by decide, by decide⟩ dX9_loudest_29 rfl (fun H locs E => ?_)
      refine W.eq (g2 := F0 m 32 ls []) rfl ?_
      refine lv_iconst (v := 0) C.1 C.2.1 dX9_loudest_32 (by decide) ?_
      refine lv_istore_n (lv' := [(2, .int _), (0, .ref _), (1, .int _)]) C.1 C.2.1 dX9_loudest_33 rfl hl (by decide) rfl (fun ls hl => ?_)
      refine lv_ldc2 C.1 C.2.1 C.2.2.2.1 (C.2.2.2.2.1 _ wc_610) dX9_loudest_34 ?_
      refine lv_lstore_n (lv' := [(3, .long _), (2, .int _), (0, .ref _), (1, .int _)]) C.1 C.2.1 dX9_loudest_37 rfl hl (by decide) rfl (fun ls hl => ?_)
      refine lv_iconst (v := 0) C.1 C.2.1 dX9_loudest_38 (by decide) ?_
      refine lv_istore (lv' := [(5, .int _), (3, .long _), (2, .int _), (0, .ref _), (1, .int _)]) C.1 C.2.1 dX9_loudest_39 hl (by decide) rfl (fun ls hl => ?_)
      exact L41 _ N _ _ _ _ _ _ _ E (lv_sub hl [3, 4, 2, 1, 0] rfl) hf
    · have hf := fm_ip hf hc18
      refine lv_bipush (v := (-2)) C.1 C.2.1 dX9_loudest_21 (by decide) ?_
      obtain ⟨rfl, rfl⟩ := fm_rt2 hf
      exact fm_iret C E rfl rfl dX9_loudest_23
  · have hf := fm_ip hf hc6
    refine lv_iconst (v := (-1)) C.1 C.2.1 dX9_loudest_9 (by decide) ?_
    obtain ⟨rfl, rfl⟩ := fm_rt2 hf
    exact fm_iret C E rfl rfl dX9_loudest_10
theorem dX9_pattern_0 : decode cX9_pattern 0 = .ok (.aload_n 0, 1) := by decide +kernel
theorem dX9_pattern_1 : decode cX9_pattern 1 = .ok (.getfield 10, 3) := by decide +kernel
theorem dX9_pattern_4 : decode cX9_pattern 4 = .ok (.invokevirtual 171, 3) := by decide +kernel
theorem dX9_pattern_7 : decode cX9_pattern 7 = .ok (.ifCond .ne 6, 3) := by decide +kernel
theorem dX9_pattern_10 : decode cX9_pattern 10 = .ok (.bipush (-2), 2) := by decide +kernel
theorem dX9_pattern_12 : decode cX9_pattern 12 = .ok (.ireturn, 1) := by decide +kernel
theorem dX9_pattern_13 : decode cX9_pattern 13 = .ok (.aload_n 0, 1) := by decide +kernel
theorem dX9_pattern_14 : decode cX9_pattern 14 = .ok (.getfield 62, 3) := by decide +kernel
theorem dX9_pattern_17 : decode cX9_pattern 17 = .ok (.iconst (-1), 1) := by decide +kernel
theorem dX9_pattern_18 : decode cX9_pattern 18 = .ok (.invokevirtual 150, 3) := by decide +kernel
theorem dX9_pattern_21 : decode cX9_pattern 21 = .ok (.aload_n 0, 1) := by decide +kernel
theorem dX9_pattern_22 : decode cX9_pattern 22 = .ok (.getfield 53, 3) := by decide +kernel
theorem dX9_pattern_25 : decode cX9_pattern 25 = .ok (.invokevirtual 225, 3) := by decide +kernel
theorem dX9_pattern_28 : decode cX9_pattern 28 = .ok (.bipush (-8), 2) := by decide +kernel
theorem dX9_pattern_30 : decode cX9_pattern 30 = .ok (.istore_n 1, 1) := by decide +kernel
theorem dX9_pattern_31 : decode cX9_pattern 31 = .ok (.iconst (-1), 1) := by decide +kernel
theorem dX9_pattern_32 : decode cX9_pattern 32 = .ok (.istore_n 2, 1) := by decide +kernel
theorem dX9_pattern_33 : decode cX9_pattern 33 = .ok (.bipush (-8), 2) := by decide +kernel
theorem dX9_pattern_35 : decode cX9_pattern 35 = .ok (.istore_n 3, 1) := by decide +kernel
theorem dX9_pattern_36 : decode cX9_pattern 36 = .ok (.iload_n 3, 1) := by decide +kernel
theorem dX9_pattern_37 : decode cX9_pattern 37 = .ok (.bipush 8, 2) := by decide +kernel
theorem dX9_pattern_39 : decode cX9_pattern 39 = .ok (.if_icmp .gt 69, 3) := by decide +kernel
theorem dX9_pattern_42 : decode cX9_pattern 42 = .ok (.aload_n 0, 1) := by decide +kernel
theorem dX9_pattern_43 : decode cX9_pattern 43 = .ok (.iload_n 3, 1) := by decide +kernel
theorem dX9_pattern_44 : decode cX9_pattern 44 = .ok (.invokevirtual 256, 3) := by decide +kernel
theorem dX9_pattern_47 : decode cX9_pattern 47 = .ok (.aload_n 0, 1) := by decide +kernel
theorem dX9_pattern_48 : decode cX9_pattern 48 = .ok (.getfield 71, 3) := by decide +kernel
theorem dX9_pattern_51 : decode cX9_pattern 51 = .ok (.aload_n 0, 1) := by decide +kernel
theorem dX9_pattern_52 : decode cX9_pattern 52 = .ok (.getfield 10, 3) := by decide +kernel
theorem dX9_pattern_55 : decode cX9_pattern 55 = .ok (.invokevirtual 171, 3) := by decide +kernel
theorem dX9_pattern_58 : decode cX9_pattern 58 = .ok (.invokevirtual 175, 3) := by decide +kernel
theorem dX9_pattern_61 : decode cX9_pattern 61 = .ok (.aload_n 0, 1) := by decide +kernel
theorem dX9_pattern_62 : decode cX9_pattern 62 = .ok (.getfield 71, 3) := by decide +kernel
theorem dX9_pattern_65 : decode cX9_pattern 65 = .ok (.aload_n 0, 1) := by decide +kernel
theorem dX9_pattern_66 : decode cX9_pattern 66 = .ok (.getfield 71, 3) := by decide +kernel
theorem dX9_pattern_69 : decode cX9_pattern 69 = .ok (.getfield 178, 3) := by decide +kernel
theorem dX9_pattern_72 : decode cX9_pattern 72 = .ok (.invokevirtual 236, 3) := by decide +kernel
theorem dX9_pattern_75 : decode cX9_pattern 75 = .ok (.istore 4, 2) := by decide +kernel
theorem dX9_pattern_77 : decode cX9_pattern 77 = .ok (.aload_n 0, 1) := by decide +kernel
theorem dX9_pattern_78 : decode cX9_pattern 78 = .ok (.getfield 53, 3) := by decide +kernel
theorem dX9_pattern_81 : decode cX9_pattern 81 = .ok (.iload 4, 2) := by decide +kernel
theorem dX9_pattern_83 : decode cX9_pattern 83 = .ok (.i2l, 1) := by decide +kernel
theorem dX9_pattern_84 : decode cX9_pattern 84 = .ok (.invokevirtual 232, 3) := by decide +kernel
theorem dX9_pattern_87 : decode cX9_pattern 87 = .ok (.iload_n 2, 1) := by decide +kernel
theorem dX9_pattern_88 : decode cX9_pattern 88 = .ok (.ifCond .lt 9, 3) := by decide +kernel
theorem dX9_pattern_91 : decode cX9_pattern 91 = .ok (.iload 4, 2) := by decide +kernel
theorem dX9_pattern_93 : decode cX9_pattern 93 = .ok (.iload_n 2, 1) := by decide +kernel
theorem dX9_pattern_94 : decode cX9_pattern 94 = .ok (.if_icmp .ge 8, 3) := by decide +kernel
theorem dX9_pattern_97 : decode cX9_pattern 97 = .ok (.iload 4, 2) := by decide +kernel
theorem dX9_pattern_99 : decode cX9_pattern 99 = .ok (.istore_n 2, 1) := by decide +kernel
theorem dX9_pattern_100 : decode cX9_pattern 100 = .ok (.iload_n 3, 1) := by decide +kernel
theorem dX9_pattern_101 : decode cX9_pattern 101 = .ok (.istore_n 1, 1) := by decide +kernel
theorem dX9_pattern_102 : decode cX9_pattern 102 = .ok (.iinc 3 1, 3) := by decide +kernel
theorem dX9_pattern_105 : decode cX9_pattern 105 = .ok (.goto (-69), 3) := by decide +kernel
theorem dX9_pattern_108 : decode cX9_pattern 108 = .ok (.iload_n 1, 1) := by decide +kernel
theorem dX9_pattern_109 : decode cX9_pattern 109 = .ok (.bipush 8, 2) := by decide +kernel
theorem dX9_pattern_111 : decode cX9_pattern 111 = .ok (.iadd, 1) := by decide +kernel
theorem dX9_pattern_112 : decode cX9_pattern 112 = .ok (.ireturn, 1) := by decide +kernel
set_option maxHeartbeats 4000000 in
set_option maxRecDepth 100000 in
theorem c_MicRow_pattern (l : Launch) (G : fm_G) (N : Nat) (M : fm_M) (r : Int32) (M' : fm_M) (hf : pMicRow_pattern N M = some (r, M')) : fm_Met l yX9_pattern cX9_pattern 5 (some .int) { frames := 6, cells := 0, slots := 0, locals := 147 } shC G [.ref (G.2.1 0)] M (some (.int r)) M' := by
  refine fm_enter (by decide) (Nat.le_of_ble_eq_true rfl) ?_
  intro p e s m args below meth c ls C E hl
  have hl : lv_has ls 5 [(0, .ref (G.2.1 0))] := hl
  have L36 : ∀ (n36 : Nat) (v1 : Int32) (v2 : Int32) (v3 : Int32) (M : fm_M) (H : Heap) (locs : List Loc) (ls : Array Slot), fm_Wd shC G M s H locs → lv_has ls 5 [(0, .ref (G.2.1 0)), (1, .int v1), (2, .int v2), (3, .int v3)] → fm_lp (pMicRow_pattern_L36 N) n36 (v1, v2, v3, M) = some (r, M') → W p l e { frames := 6, cells := 0, slots := 0, locals := 147 } s m args below meth c H locs 0 0 (fm_Z below shC G args s (some (.int r)) M') (F0 m 36 ls []) := by
    intro  n36
    induction n36 with
    | zero => intro v1 v2 v3 M H locs ls E hl hf; exact fm_lp_0 hf
    | succ n36 ih36 =>
      intro v1 v2 v3 M H locs ls E hl hf
      have hf : pMicRow_pattern_L36b N (fm_lp (pMicRow_pattern_L36 N) n36) v1 v2 v3 M = some (r, M') := hf
      unfold pMicRow_pattern_L36b at hf
      refine lv_iload_n C.1 C.2.1 dX9_pattern_36 rfl (lv_at hl 3 rfl) ?_
      refine lv_bipush (v := 8) C.1 C.2.1 dX9_pattern_37 (by decide) ?_
      refine lv_icmp_gt (tgt := 108) C.1 C.2.1 dX9_pattern_39 (by decide) (fun hc39 => ?_) (fun hc39 => ?_)
      · have hf := fm_ip hf hc39
        refine lv_iload_n C.1 C.2.1 dX9_pattern_108 rfl (lv_at hl 1 rfl) ?_
        refine lv_bipush (v := 8) C.1 C.2.1 dX9_pattern_109 (by decide) ?_
        refine lv_iadd C.1 C.2.1 dX9_pattern_111 ?_
        obtain ⟨rfl, rfl⟩ := fm_rt2 hf
        exact fm_iret C E rfl rfl dX9_pattern_112
      · have hf := fm_in' hf hc39
        refine lv_aload_n C.1 C.2.1 dX9_pattern_42 rfl (lv_at hl 0 rfl) ?_
        refine lv_iload_n C.1 C.2.1 dX9_pattern_43 rfl (lv_at hl 3 rfl) ?_
        obtain ⟨M44, hc44, hf⟩ := fm_bd hf
        refine fm_callV C E [.int _] [] lm_X9_256 wk_X9_turnOverSpan (c_MicRow_turnOverSpan l G N _ _ _ hc44) hC_0 rfl rfl rfl hl.1 (by simp [Value.category]) ⟨⟨rfl, rfl⟩, by decide, by decide⟩ ⟨by decide, by decide⟩ dX9_pattern_44 rfl (fun H locs E => ?_)
        refine W.eq (g2 := F0 m 47 ls []) rfl ?_
        refine lv_aload_n C.1 C.2.1 dX9_pattern_47 rfl (lv_at hl 0 rfl) ?_
        refine fm_getr C E lf_X9_71 hC_0 rfl dX9_pattern_48 ?_
        refine lv_aload_n C.1 C.2.1 dX9_pattern_51 rfl (lv_at hl 0 rfl) ?_
        refine fm_getr C E lf_X9_10 hC_0 rfl dX9_pattern_52 ?_
        obtain ⟨x55, hc55, hf⟩ := fm_bd hf
        refine fm_callV C E [] [.ref _] lm_X9_171 wk_X7_liveSet (c_Scene_liveSet l G N _ _  hc55) hC_1 rfl rfl rfl hl.1 (by simp [Value.category]) ⟨⟨rfl, rfl⟩, by decide, by decide⟩ ⟨by decide, by decide⟩ dX9_pattern_55 rfl (fun H locs E => ?_)
        refine W.eq (g2 := F0 m 58 ls (.int x55 :: [.ref _])) rfl ?_
        obtain ⟨M58, hc58, hf⟩ := fm_bd hf
        refine fm_callV C E [.int _] [] lm_X9_175 wk_X0_mix (c_Bench_mix l G N _ _ _ hc58) hC_181 rfl rfl rfl hl.1 (by simp [Value.category]) ⟨⟨rfl, rfl⟩, by decide, by decide⟩ ⟨by decide, by decide⟩ dX9_pattern_58 rfl (fun H locs E => ?_)
        refine W.eq (g2 := F0 m 61 ls []) rfl ?_
        refine lv_aload_n C.1 C.2.1 dX9_pattern_61 rfl (lv_at hl 0 rfl) ?_
        refine fm_getr C E lf_X9_71 hC_0 rfl dX9_pattern_62 ?_
        refine lv_aload_n C.1 C.2.1 dX9_pattern_65 rfl (lv_at hl 0 rfl) ?_
        refine fm_getr C E lf_X9_71 hC_0 rfl dX9_pattern_66 ?_
        refine fm_getr C E lf_X9_178 hC_181 rfl dX9_pattern_69 ?_
        obtain ⟨x72, hc72, hf⟩ := fm_bd hf
        refine fm_callV C E [.ref _] [] lm_X9_236 wk_X0_levelOf (c_Bench_levelOf l G N _ _ _  hc72) hC_181 rfl rfl rfl hl.1 (by simp [Value.category]) ⟨⟨rfl, rfl⟩, by decide, by decide⟩ ⟨by decide, by decide⟩ dX9_pattern_72 rfl (fun H locs E => ?_)
        refine W.eq (g2 := F0 m 75 ls (.int x72 :: [])) rfl ?_
        refine lv_istore (lv' := [(4, .int _), (0, .ref _), (1, .int _), (2, .int _), (3, .int _)]) C.1 C.2.1 dX9_pattern_75 hl (by decide) rfl (fun ls hl => ?_)
        refine lv_aload_n C.1 C.2.1 dX9_pattern_77 rfl (lv_at hl 1 rfl) ?_
        refine fm_getr C E lf_X9_53 hC_0 rfl dX9_pattern_78 ?_
        refine lv_iload C.1 C.2.1 dX9_pattern_81 (lv_at hl 0 rfl) ?_
        refine lv_i2l C.1 C.2.1 dX9_pattern_83 rfl ?_
        obtain ⟨M84, hc84, hf⟩ := fm_bd hf
        refine fm_callV C E [.long _] [] lm_X9_232 wk_X8_add (c_Told_add l G _ _ _ hc84) hC_176 rfl rfl rfl hl.1 (by simp [Value.category]) ⟨⟨rfl, rfl⟩, by decide, by decide⟩ ⟨by decide, by decide⟩ dX9_pattern_84 rfl (fun H locs E => ?_)
        refine W.eq (g2 := F0 m 87 ls []) rfl ?_
        refine lv_iload_n C.1 C.2.1 dX9_pattern_87 rfl (lv_at hl 3 rfl) ?_
        refine lv_if_lt (tgt := 97) C.1 C.2.1 dX9_pattern_88 (by decide) (fun hc88 => ?_) (fun hc88 => ?_)
        · have hf := fm_ip hf hc88
          refine lv_iload C.1 C.2.1 dX9_pattern_97 (lv_at hl 0 rfl) ?_
          refine lv_istore_n (lv' := [(2, .int _), (4, .int _), (0, .ref _), (1, .int _), (3, .int _)]) C.1 C.2.1 dX9_pattern_99 rfl hl (by decide) rfl (fun ls hl => ?_)
          refine lv_iload_n C.1 C.2.1 dX9_pattern_100 rfl (lv_at hl 4 rfl) ?_
          refine lv_istore_n (lv' := [(1, .int _), (2, .int _), (4, .int _), (0, .ref _), (3, .int _)]) C.1 C.2.1 dX9_pattern_101 rfl hl (by decide) rfl (fun ls hl => ?_)
          refine fm_iinc C (v := 1) (lv' := [(3, .int _), (1, .int _), (2, .int _), (4, .int _), (0, .ref _)]) (k := 4) hl rfl (by decide) (by decide) rfl dX9_pattern_102 (fun ls hl => ?_)
          refine lv_goto (tgt := 36) C.1 C.2.1 dX9_pattern_105 (by decide) ?_
          exact ih36 _ _ _ _ _ _ _ E (lv_sub hl [4, 1, 2, 0] rfl) hf
        · have hf := fm_in' hf hc88
          refine lv_iload C.1 C.2.1 dX9_pattern_91 (lv_at hl 0 rfl) ?_
          refine lv_iload_n C.1 C.2.1 dX9_pattern_93 rfl (lv_at hl 3 rfl) ?_
          refine lv_icmp_ge (tgt := 102) C.1 C.2.1 dX9_pattern_94 (by decide) (fun hc94 => ?_) (fun hc94 => ?_)
          · have hf := fm_ip hf hc94
            refine fm_iinc C (v := 1) (lv' := [(3, .int _), (4, .int _), (0, .ref _), (1, .int _), (2, .int _)]) (k := 4) hl rfl (by decide) (by decide) rfl dX9_pattern_102 (fun ls hl => ?_)
            refine lv_goto (tgt := 36) C.1 C.2.1 dX9_pattern_105 (by decide) ?_
            exact ih36 _ _ _ _ _ _ _ E (lv_sub hl [2, 3, 4, 0] rfl) hf
          · have hf := fm_in' hf hc94
            refine lv_iload C.1 C.2.1 dX9_pattern_97 (lv_at hl 0 rfl) ?_
            refine lv_istore_n (lv' := [(2, .int _), (4, .int _), (0, .ref _), (1, .int _), (3, .int _)]) C.1 C.2.1 dX9_pattern_99 rfl hl (by decide) rfl (fun ls hl => ?_)
            refine lv_iload_n C.1 C.2.1 dX9_pattern_100 rfl (lv_at hl 4 rfl) ?_
            refine lv_istore_n (lv' := [(1, .int _), (2, .int _), (4, .int _), (0, .ref _), (3, .int _)]) C.1 C.2.1 dX9_pattern_101 rfl hl (by decide) rfl (fun ls hl => ?_)
            refine fm_iinc C (v := 1) (lv' := [(3, .int _), (1, .int _), (2, .int _), (4, .int _), (0, .ref _)]) (k := 4) hl rfl (by decide) (by decide) rfl dX9_pattern_102 (fun ls hl => ?_)
            refine lv_goto (tgt := 36) C.1 C.2.1 dX9_pattern_105 (by decide) ?_
            exact ih36 _ _ _ _ _ _ _ E (lv_sub hl [4, 1, 2, 0] rfl) hf
  unfold pMicRow_pattern at hf
  refine lv_aload_n C.1 C.2.1 dX9_pattern_0 rfl (lv_at hl 0 rfl) ?_
  refine fm_getr C E lf_X9_10 hC_0 rfl dX9_pattern_1 ?_
  obtain ⟨x4, hc4, hf⟩ := fm_bd hf
  refine fm_callV C E [] [] lm_X9_171 wk_X7_liveSet (c_Scene_liveSet l G N _ _  hc4) hC_1 rfl rfl rfl hl.1 (by simp [Value.category]) ⟨⟨rfl, rfl⟩, by decide, by decide⟩ ⟨by decide, by decide⟩ dX9_pattern_4 rfl (fun H locs E => ?_)
  refine W.eq (g2 := F0 m 7 ls (.int x4 :: [])) rfl ?_
  refine lv_if_ne (tgt := 13) C.1 C.2.1 dX9_pattern_7 (by decide) (fun hc7 => ?_) (fun hc7 => ?_)
  · have hf := fm_in' hf hc7
    refine lv_aload_n C.1 C.2.1 dX9_pattern_13 rfl (lv_at hl 0 rfl) ?_
    refine fm_getr C E lf_X9_62 hC_0 rfl dX9_pattern_14 ?_
    refine lv_iconst (v := (-1)) C.1 C.2.1 dX9_pattern_17 (by decide) ?_
    obtain ⟨M18, hc18, hf⟩ := fm_bd hf
    refine fm_callV C E [.int _] [] lm_X9_150 wk_X3_listenTo (c_Ears_listenTo l G _ _ _ hc18) hC_178 rfl rfl rfl hl.1 (by simp [Value.category]) ⟨⟨rfl, rfl⟩, by decide, by decide⟩ ⟨by decide, by decide⟩ dX9_pattern_18 rfl (fun H locs E => ?_)
    refine W.eq (g2 := F0 m 21 ls []) rfl ?_
    refine lv_aload_n C.1 C.2.1 dX9_pattern_21 rfl (lv_at hl 0 rfl) ?_
    refine fm_getr C E lf_X9_53 hC_0 rfl dX9_pattern_22 ?_
    obtain ⟨M25, hc25, hf⟩ := fm_bd hf
    refine fm_callV C E [] [] lm_X9_225 wk_X8_clear (c_Told_clear l G _ _ hc25) hC_176 rfl rfl rfl hl.1 (by simp [Value.category]) ⟨⟨rfl, rfl⟩, by decide, by decide⟩ ⟨by decide, by decide⟩ dX9_pattern_25 rfl (fun H locs E => ?_)
    refine W.eq (g2 := F0 m 28 ls []) rfl ?_
    refine lv_bipush (v := (-8)) C.1 C.2.1 dX9_pattern_28 (by decide) ?_
    refine lv_istore_n (lv' := [(1, .int _), (0, .ref _)]) C.1 C.2.1 dX9_pattern_30 rfl hl (by decide) rfl (fun ls hl => ?_)
    refine lv_iconst (v := (-1)) C.1 C.2.1 dX9_pattern_31 (by decide) ?_
    refine lv_istore_n (lv' := [(2, .int _), (1, .int _), (0, .ref _)]) C.1 C.2.1 dX9_pattern_32 rfl hl (by decide) rfl (fun ls hl => ?_)
    refine lv_bipush (v := (-8)) C.1 C.2.1 dX9_pattern_33 (by decide) ?_
    refine lv_istore_n (lv' := [(3, .int _), (2, .int _), (1, .int _), (0, .ref _)]) C.1 C.2.1 dX9_pattern_35 rfl hl (by decide) rfl (fun ls hl => ?_)
    exact L36  N _ _ _ _ _ _ _ E (lv_sub hl [3, 2, 1, 0] rfl) hf
  · have hf := fm_ip hf hc7
    refine lv_bipush (v := (-2)) C.1 C.2.1 dX9_pattern_10 (by decide) ?_
    obtain ⟨rfl, rfl⟩ := fm_rt2 hf
    exact fm_iret C E rfl rfl dX9_pattern_12
theorem dX9_agree_0 : decode cX9_agree 0 = .ok (.aload_n 0, 1) := by decide +kernel
theorem dX9_agree_1 : decode cX9_agree 1 = .ok (.iload_n 1, 1) := by decide +kernel
theorem dX9_agree_2 : decode cX9_agree 2 = .ok (.iload_n 2, 1) := by decide +kernel
theorem dX9_agree_3 : decode cX9_agree 3 = .ok (.invokevirtual 259, 3) := by decide +kernel
theorem dX9_agree_6 : decode cX9_agree 6 = .ok (.ifCond .eq 10, 3) := by decide +kernel
theorem dX9_agree_9 : decode cX9_agree 9 = .ok (.iload_n 3, 1) := by decide +kernel
theorem dX9_agree_10 : decode cX9_agree 10 = .ok (.invokestatic 157, 3) := by decide +kernel
theorem dX9_agree_13 : decode cX9_agree 13 = .ok (.ifCond .ne 5, 3) := by decide +kernel
theorem dX9_agree_16 : decode cX9_agree 16 = .ok (.iconst (-1), 1) := by decide +kernel
theorem dX9_agree_17 : decode cX9_agree 17 = .ok (.ireturn, 1) := by decide +kernel
theorem dX9_agree_18 : decode cX9_agree 18 = .ok (.aload_n 0, 1) := by decide +kernel
theorem dX9_agree_19 : decode cX9_agree 19 = .ok (.getfield 62, 3) := by decide +kernel
theorem dX9_agree_22 : decode cX9_agree 22 = .ok (.iconst (-1), 1) := by decide +kernel
theorem dX9_agree_23 : decode cX9_agree 23 = .ok (.invokevirtual 150, 3) := by decide +kernel
theorem dX9_agree_26 : decode cX9_agree 26 = .ok (.aload_n 0, 1) := by decide +kernel
theorem dX9_agree_27 : decode cX9_agree 27 = .ok (.iload_n 3, 1) := by decide +kernel
theorem dX9_agree_28 : decode cX9_agree 28 = .ok (.invokevirtual 256, 3) := by decide +kernel
theorem dX9_agree_31 : decode cX9_agree 31 = .ok (.iconst 0, 1) := by decide +kernel
theorem dX9_agree_32 : decode cX9_agree 32 = .ok (.istore 4, 2) := by decide +kernel
theorem dX9_agree_34 : decode cX9_agree 34 = .ok (.iconst 0, 1) := by decide +kernel
theorem dX9_agree_35 : decode cX9_agree 35 = .ok (.istore 5, 2) := by decide +kernel
theorem dX9_agree_37 : decode cX9_agree 37 = .ok (.iload 5, 2) := by decide +kernel
theorem dX9_agree_39 : decode cX9_agree 39 = .ok (.aload_n 0, 1) := by decide +kernel
theorem dX9_agree_40 : decode cX9_agree 40 = .ok (.getfield 10, 3) := by decide +kernel
theorem dX9_agree_43 : decode cX9_agree 43 = .ok (.invokevirtual 211, 3) := by decide +kernel
theorem dX9_agree_46 : decode cX9_agree 46 = .ok (.if_icmp .ge 43, 3) := by decide +kernel
theorem dX9_agree_49 : decode cX9_agree 49 = .ok (.aload_n 0, 1) := by decide +kernel
theorem dX9_agree_50 : decode cX9_agree 50 = .ok (.getfield 71, 3) := by decide +kernel
theorem dX9_agree_53 : decode cX9_agree 53 = .ok (.iload_n 1, 1) := by decide +kernel
theorem dX9_agree_54 : decode cX9_agree 54 = .ok (.invokevirtual 167, 3) := by decide +kernel
theorem dX9_agree_57 : decode cX9_agree 57 = .ok (.iload 5, 2) := by decide +kernel
theorem dX9_agree_59 : decode cX9_agree 59 = .ok (.iaload, 1) := by decide +kernel
theorem dX9_agree_60 : decode cX9_agree 60 = .ok (.invokestatic 263, 3) := by decide +kernel
theorem dX9_agree_63 : decode cX9_agree 63 = .ok (.aload_n 0, 1) := by decide +kernel
theorem dX9_agree_64 : decode cX9_agree 64 = .ok (.getfield 71, 3) := by decide +kernel
theorem dX9_agree_67 : decode cX9_agree 67 = .ok (.iload_n 2, 1) := by decide +kernel
theorem dX9_agree_68 : decode cX9_agree 68 = .ok (.invokevirtual 167, 3) := by decide +kernel
theorem dX9_agree_71 : decode cX9_agree 71 = .ok (.iload 5, 2) := by decide +kernel
theorem dX9_agree_73 : decode cX9_agree 73 = .ok (.iaload, 1) := by decide +kernel
theorem dX9_agree_74 : decode cX9_agree 74 = .ok (.invokestatic 263, 3) := by decide +kernel
theorem dX9_agree_77 : decode cX9_agree 77 = .ok (.if_icmp .ne 6, 3) := by decide +kernel
theorem dX9_agree_80 : decode cX9_agree 80 = .ok (.iinc 4 1, 3) := by decide +kernel
theorem dX9_agree_83 : decode cX9_agree 83 = .ok (.iinc 5 1, 3) := by decide +kernel
theorem dX9_agree_86 : decode cX9_agree 86 = .ok (.goto (-49), 3) := by decide +kernel
theorem dX9_agree_89 : decode cX9_agree 89 = .ok (.aload_n 0, 1) := by decide +kernel
theorem dX9_agree_90 : decode cX9_agree 90 = .ok (.getfield 53, 3) := by decide +kernel
theorem dX9_agree_93 : decode cX9_agree 93 = .ok (.invokevirtual 225, 3) := by decide +kernel
theorem dX9_agree_96 : decode cX9_agree 96 = .ok (.aload_n 0, 1) := by decide +kernel
theorem dX9_agree_97 : decode cX9_agree 97 = .ok (.getfield 53, 3) := by decide +kernel
theorem dX9_agree_100 : decode cX9_agree 100 = .ok (.aload_n 0, 1) := by decide +kernel
theorem dX9_agree_101 : decode cX9_agree 101 = .ok (.getfield 10, 3) := by decide +kernel
theorem dX9_agree_104 : decode cX9_agree 104 = .ok (.invokevirtual 211, 3) := by decide +kernel
theorem dX9_agree_107 : decode cX9_agree 107 = .ok (.i2l, 1) := by decide +kernel
theorem dX9_agree_108 : decode cX9_agree 108 = .ok (.invokevirtual 232, 3) := by decide +kernel
theorem dX9_agree_111 : decode cX9_agree 111 = .ok (.iload 4, 2) := by decide +kernel
theorem dX9_agree_113 : decode cX9_agree 113 = .ok (.ireturn, 1) := by decide +kernel
set_option maxHeartbeats 4000000 in
set_option maxRecDepth 100000 in
theorem c_MicRow_agree (l : Launch) (G : fm_G) (N : Nat) (M : fm_M) (v1 : Int32) (v2 : Int32) (v3 : Int32) (r : Int32) (M' : fm_M) (hf : pMicRow_agree N M v1 v2 v3 = some (r, M')) : fm_Met l yX9_agree cX9_agree 6 (some .int) { frames := 6, cells := 0, slots := 0, locals := 147 } shC G [.ref (G.2.1 0), .int v1, .int v2, .int v3] M (some (.int r)) M' := by
  refine fm_enter (by decide) (Nat.le_of_ble_eq_true rfl) ?_
  intro p e s m args below meth c ls C E hl
  have hl : lv_has ls 6 [(0, .ref (G.2.1 0)), (1, .int v1), (2, .int v2), (3, .int v3)] := hl
  have L37 : ∀ (w37_M : fm_M) (w37_v1 : Int32) (w37_v2 : Int32) (n37 : Nat) (v4 : Int32) (v5 : Int32) (H : Heap) (locs : List Loc) (ls : Array Slot), fm_Wd shC G w37_M s H locs → lv_has ls 6 [(0, .ref (G.2.1 0)), (1, .int w37_v1), (2, .int w37_v2), (4, .int v4), (5, .int v5)] → fm_lp (pMicRow_agree_L37 N w37_M w37_v1 w37_v2) n37 (v4, v5) = some (r, M') → W p l e { frames := 6, cells := 0, slots := 0, locals := 147 } s m args below meth c H locs 0 0 (fm_Z below shC G args s (some (.int r)) M') (F0 m 37 ls []) := by
    intro w37_M w37_v1 w37_v2 n37
    induction n37 with
    | zero => intro v4 v5 H locs ls E hl hf; exact fm_lp_0 hf
    | succ n37 ih37 =>
      intro v4 v5 H locs ls E hl hf
      have hf : pMicRow_agree_L37b N w37_M w37_v1 w37_v2 (fm_lp (pMicRow_agree_L37 N w37_M w37_v1 w37_v2) n37) v4 v5 = some (r, M') := hf
      unfold pMicRow_agree_L37b at hf
      refine lv_iload C.1 C.2.1 dX9_agree_37 (lv_at hl 4 rfl) ?_
      refine lv_aload_n C.1 C.2.1 dX9_agree_39 rfl (lv_at hl 0 rfl) ?_
      refine fm_getr C E lf_X9_10 hC_0 rfl dX9_agree_40 ?_
      obtain ⟨x43, hc43, hf⟩ := fm_bd hf
      refine fm_callV C E [] [.int _] lm_X9_211 wk_X7_length (c_Scene_length l G _ _  hc43) hC_1 rfl rfl rfl hl.1 (by simp [Value.category]) ⟨⟨rfl, rfl⟩, by decide, by decide⟩ ⟨by decide, by decide⟩ dX9_agree_43 rfl (fun H locs E => ?_)
      refine W.eq (g2 := F0 m 46 ls (.int x43 :: [.int _])) rfl ?_
      refine lv_icmp_ge (tgt := 89) C.1 C.2.1 dX9_agree_46 (by decide) (fun hc46 => ?_) (fun hc46 => ?_)
      · have hf := fm_ip hf hc46
        refine lv_aload_n C.1 C.2.1 dX9_agree_89 rfl (lv_at hl 0 rfl) ?_
        refine fm_getr C E lf_X9_53 hC_0 rfl dX9_agree_90 ?_
        obtain ⟨M93, hc93, hf⟩ := fm_bd hf
        refine fm_callV C E [] [] lm_X9_225 wk_X8_clear (c_Told_clear l G _ _ hc93) hC_176 rfl rfl rfl hl.1 (by simp [Value.category]) ⟨⟨rfl, rfl⟩, by decide, by decide⟩ ⟨by decide, by decide⟩ dX9_agree_93 rfl (fun H locs E => ?_)
        refine W.eq (g2 := F0 m 96 ls []) rfl ?_
        refine lv_aload_n C.1 C.2.1 dX9_agree_96 rfl (lv_at hl 0 rfl) ?_
        refine fm_getr C E lf_X9_53 hC_0 rfl dX9_agree_97 ?_
        refine lv_aload_n C.1 C.2.1 dX9_agree_100 rfl (lv_at hl 0 rfl) ?_
        refine fm_getr C E lf_X9_10 hC_0 rfl dX9_agree_101 ?_
        obtain ⟨x104, hc104, hf⟩ := fm_bd hf
        refine fm_callV C E [] [.ref _] lm_X9_211 wk_X7_length (c_Scene_length l G _ _  hc104) hC_1 rfl rfl rfl hl.1 (by simp [Value.category]) ⟨⟨rfl, rfl⟩, by decide, by decide⟩ ⟨by decide, by decide⟩ dX9_agree_104 rfl (fun H locs E => ?_)
        refine W.eq (g2 := F0 m 107 ls (.int x104 :: [.ref _])) rfl ?_
        refine lv_i2l C.1 C.2.1 dX9_agree_107 rfl ?_
        obtain ⟨M108, hc108, hf⟩ := fm_bd hf
        refine fm_callV C E [.long _] [] lm_X9_232 wk_X8_add (c_Told_add l G _ _ _ hc108) hC_176 rfl rfl rfl hl.1 (by simp [Value.category]) ⟨⟨rfl, rfl⟩, by decide, by decide⟩ ⟨by decide, by decide⟩ dX9_agree_108 rfl (fun H locs E => ?_)
        refine W.eq (g2 := F0 m 111 ls []) rfl ?_
        refine lv_iload C.1 C.2.1 dX9_agree_111 (lv_at hl 3 rfl) ?_
        obtain ⟨rfl, rfl⟩ := fm_rt2 hf
        exact fm_iret C E rfl rfl dX9_agree_113
      · have hf := fm_in' hf hc46
        refine lv_aload_n C.1 C.2.1 dX9_agree_49 rfl (lv_at hl 0 rfl) ?_
        refine fm_getr C E lf_X9_71 hC_0 rfl dX9_agree_50 ?_
        refine lv_iload_n C.1 C.2.1 dX9_agree_53 rfl (lv_at hl 1 rfl) ?_
        obtain ⟨x54, hc54, hf⟩ := fm_bd hf
        refine fm_callV C E [.int _] [] lm_X9_167 wk_X0_turnedRow (c_Bench_turnedRow l G _ _ _  hc54) hC_181 rfl rfl rfl hl.1 (by simp [Value.category]) ⟨⟨rfl, rfl⟩, by decide, by decide⟩ ⟨by decide, by decide⟩ dX9_agree_54 rfl (fun H locs E => ?_)
        refine W.eq (g2 := F0 m 57 ls (.ref (G.2.1 x54) :: [])) rfl ?_
        refine lv_iload C.1 C.2.1 dX9_agree_57 (lv_at hl 4 rfl) ?_
        obtain ⟨h59, x59, e59, hf⟩ := fm_ld_e hf
        obtain ⟨_, hk59⟩ := fm_n_at h59
        refine fm_iald' C E e59 hk59 h59 dX9_agree_59 ?_
        obtain ⟨x60, hc60, hf⟩ := fm_bd hf
        refine fm_callS C E [.int _] [] lm_X9_263 wk_X9_signOf (c_MicRow_signOf l G _ _ _  hc60) rfl hl.1 (by simp [Value.category]) ⟨⟨rfl, rfl⟩, by decide, by decide⟩ ⟨by decide, by decide⟩ dX9_agree_60 rfl (fun H locs E => ?_)
        refine W.eq (g2 := F0 m 63 ls (.int x60 :: [])) rfl ?_
        refine lv_aload_n C.1 C.2.1 dX9_agree_63 rfl (lv_at hl 0 rfl) ?_
        refine fm_getr C E lf_X9_71 hC_0 rfl dX9_agree_64 ?_
        refine lv_iload_n C.1 C.2.1 dX9_agree_67 rfl (lv_at hl 2 rfl) ?_
        obtain ⟨x68, hc68, hf⟩ := fm_bd hf
        refine fm_callV C E [.int _] [.int _] lm_X9_167 wk_X0_turnedRow (c_Bench_turnedRow l G _ _ _  hc68) hC_181 rfl rfl rfl hl.1 (by simp [Value.category]) ⟨⟨rfl, rfl⟩, by decide, by decide⟩ ⟨by decide, by decide⟩ dX9_agree_68 rfl (fun H locs E => ?_)
        refine W.eq (g2 := F0 m 71 ls (.ref (G.2.1 x68) :: [.int _])) rfl ?_
        refine lv_iload C.1 C.2.1 dX9_agree_71 (lv_at hl 4 rfl) ?_
        obtain ⟨h73, x73, e73, hf⟩ := fm_ld_e hf
        obtain ⟨_, hk73⟩ := fm_n_at h73
        refine fm_iald' C E e73 hk73 h73 dX9_agree_73 ?_
        obtain ⟨x74, hc74, hf⟩ := fm_bd hf
        refine fm_callS C E [.int _] [.int _] lm_X9_263 wk_X9_signOf (c_MicRow_signOf l G _ _ _  hc74) rfl hl.1 (by simp [Value.category]) ⟨⟨rfl, rfl⟩, by decide, by decide⟩ ⟨by decide, by decide⟩ dX9_agree_74 rfl (fun H locs E => ?_)
        refine W.eq (g2 := F0 m 77 ls (.int x74 :: [.int _])) rfl ?_
        refine lv_icmp_ne (tgt := 83) C.1 C.2.1 dX9_agree_77 (by decide) (fun hc77 => ?_) (fun hc77 => ?_)
        · have hf := fm_in' hf hc77
          refine fm_iinc C (v := 1) (lv' := [(5, .int _), (0, .ref _), (1, .int _), (2, .int _), (4, .int _)]) (k := 4) hl rfl (by decide) (by decide) rfl dX9_agree_83 (fun ls hl => ?_)
          refine lv_goto (tgt := 37) C.1 C.2.1 dX9_agree_86 (by decide) ?_
          exact ih37 _ _ _ _ _ E (lv_sub hl [1, 2, 3, 4, 0] rfl) hf
        · have hf := fm_ip hf hc77
          refine fm_iinc C (v := 1) (lv' := [(4, .int _), (0, .ref _), (1, .int _), (2, .int _), (5, .int _)]) (k := 3) hl rfl (by decide) (by decide) rfl dX9_agree_80 (fun ls hl => ?_)
          refine fm_iinc C (v := 1) (lv' := [(5, .int _), (4, .int _), (0, .ref _), (1, .int _), (2, .int _)]) (k := 4) hl rfl (by decide) (by decide) rfl dX9_agree_83 (fun ls hl => ?_)
          refine lv_goto (tgt := 37) C.1 C.2.1 dX9_agree_86 (by decide) ?_
          exact ih37 _ _ _ _ _ E (lv_sub hl [2, 3, 4, 1, 0] rfl) hf
  unfold pMicRow_agree at hf
  refine lv_aload_n C.1 C.2.1 dX9_agree_0 rfl (lv_at hl 0 rfl) ?_
  refine lv_iload_n C.1 C.2.1 dX9_agree_1 rfl (lv_at hl 1 rfl) ?_
  refine lv_iload_n C.1 C.2.1 dX9_agree_2 rfl (lv_at hl 2 rfl) ?_
  obtain ⟨x3, hc3, hf⟩ := fm_bd hf
  refine fm_callV C E [.int _, .int _] [] lm_X9_259 wk_X9_areTwoMics (c_MicRow_areTwoMics l G _ _ _ _  hc3) hC_0 rfl rfl rfl hl.1 (by simp [Value.category]) ⟨⟨rfl, rfl⟩, by decide, by decide⟩ ⟨by decide, by decide⟩ dX9_agree_3 rfl (fun H locs E => ?_)
  refine W.eq (g2 := F0 m 6 ls (.int x3 :: [])) rfl ?_
  refine lv_if_eq (tgt := 16) C.1 C.2.1 dX9_agree_6 (by decide) (fun hc6 => ?_) (fun hc6 => ?_)
  · have hf := fm_ip hf hc6
    refine lv_iconst (v := (-1)) C.1 C.2.1 dX9_agree_16 (by decide) ?_
    obtain ⟨rfl, rfl⟩ := fm_rt2 hf
    exact fm_iret C E rfl rfl dX9_agree_17
  · have hf := fm_in' hf hc6
    refine lv_iload_n C.1 C.2.1 dX9_agree_9 rfl (lv_at hl 3 rfl) ?_
    obtain ⟨x10, hc10, hf⟩ := fm_bd hf
    refine fm_callS C E [.int _] [] lm_X9_157 wk_X9_isDirection (c_MicRow_isDirection l G _ _ _  hc10) rfl hl.1 (by simp [Value.category]) ⟨⟨rfl, rfl⟩, by decide, by decide⟩ ⟨by decide, by decide⟩ dX9_agree_10 rfl (fun H locs E => ?_)
    refine W.eq (g2 := F0 m 13 ls (.int x10 :: [])) rfl ?_
    refine lv_if_ne (tgt := 18) C.1 C.2.1 dX9_agree_13 (by decide) (fun hc13 => ?_) (fun hc13 => ?_)
    · have hf := fm_in' hf hc13
      refine lv_aload_n C.1 C.2.1 dX9_agree_18 rfl (lv_at hl 0 rfl) ?_
      refine fm_getr C E lf_X9_62 hC_0 rfl dX9_agree_19 ?_
      refine lv_iconst (v := (-1)) C.1 C.2.1 dX9_agree_22 (by decide) ?_
      obtain ⟨M23, hc23, hf⟩ := fm_bd hf
      refine fm_callV C E [.int _] [] lm_X9_150 wk_X3_listenTo (c_Ears_listenTo l G _ _ _ hc23) hC_178 rfl rfl rfl hl.1 (by simp [Value.category]) ⟨⟨rfl, rfl⟩, by decide, by decide⟩ ⟨by decide, by decide⟩ dX9_agree_23 rfl (fun H locs E => ?_)
      refine W.eq (g2 := F0 m 26 ls []) rfl ?_
      refine lv_aload_n C.1 C.2.1 dX9_agree_26 rfl (lv_at hl 0 rfl) ?_
      refine lv_iload_n C.1 C.2.1 dX9_agree_27 rfl (lv_at hl 3 rfl) ?_
      obtain ⟨M28, hc28, hf⟩ := fm_bd hf
      refine fm_callV C E [.int _] [] lm_X9_256 wk_X9_turnOverSpan (c_MicRow_turnOverSpan l G N _ _ _ hc28) hC_0 rfl rfl rfl hl.1 (by simp [Value.category]) ⟨⟨rfl, rfl⟩, by decide, by decide⟩ ⟨by decide, by decide⟩ dX9_agree_28 rfl (fun H locs E => ?_)
      refine W.eq (g2 := F0 m 31 ls []) rfl ?_
      refine lv_iconst (v := 0) C.1 C.2.1 dX9_agree_31 (by decide) ?_
      refine lv_istore (lv' := [(4, .int _), (0, .ref _), (1, .int _), (2, .int _), (3, .int _)]) C.1 C.2.1 dX9_agree_32 hl (by decide) rfl (fun ls hl => ?_)
      refine lv_iconst (v := 0) C.1 C.2.1 dX9_agree_34 (by decide) ?_
      refine lv_istore (lv' := [(5, .int _), (4, .int _), (0, .ref _), (1, .int _), (2, .int _), (3, .int _)]) C.1 C.2.1 dX9_agree_35 hl (by decide) rfl (fun ls hl => ?_)
      exact L37 _ _ _ N _ _ _ _ _ E (lv_sub hl [2, 3, 4, 1, 0] rfl) hf
    · have hf := fm_ip hf hc13
      refine lv_iconst (v := (-1)) C.1 C.2.1 dX9_agree_16 (by decide) ?_
      obtain ⟨rfl, rfl⟩ := fm_rt2 hf
      exact fm_iret C E rfl rfl dX9_agree_17
theorem dX9_from_0 : decode cX9_from 0 = .ok (.aload_n 0, 1) := by decide +kernel
theorem dX9_from_1 : decode cX9_from 1 = .ok (.getfield 10, 3) := by decide +kernel
theorem dX9_from_4 : decode cX9_from 4 = .ok (.invokevirtual 266, 3) := by decide +kernel
theorem dX9_from_7 : decode cX9_from 7 = .ok (.iconst 2, 1) := by decide +kernel
theorem dX9_from_8 : decode cX9_from 8 = .ok (.if_icmp .ge 6, 3) := by decide +kernel
theorem dX9_from_11 : decode cX9_from 11 = .ok (.bipush (-2), 2) := by decide +kernel
theorem dX9_from_13 : decode cX9_from 13 = .ok (.ireturn, 1) := by decide +kernel
theorem dX9_from_14 : decode cX9_from 14 = .ok (.aload_n 0, 1) := by decide +kernel
theorem dX9_from_15 : decode cX9_from 15 = .ok (.getfield 62, 3) := by decide +kernel
theorem dX9_from_18 : decode cX9_from 18 = .ok (.iconst (-1), 1) := by decide +kernel
theorem dX9_from_19 : decode cX9_from 19 = .ok (.invokevirtual 150, 3) := by decide +kernel
theorem dX9_from_22 : decode cX9_from 22 = .ok (.aload_n 0, 1) := by decide +kernel
theorem dX9_from_23 : decode cX9_from 23 = .ok (.getfield 80, 3) := by decide +kernel
theorem dX9_from_26 : decode cX9_from 26 = .ok (.aload_n 0, 1) := by decide +kernel
theorem dX9_from_27 : decode cX9_from 27 = .ok (.getfield 10, 3) := by decide +kernel
theorem dX9_from_30 : decode cX9_from 30 = .ok (.invokevirtual 208, 3) := by decide +kernel
theorem dX9_from_33 : decode cX9_from 33 = .ok (.aload_n 0, 1) := by decide +kernel
theorem dX9_from_34 : decode cX9_from 34 = .ok (.getfield 10, 3) := by decide +kernel
theorem dX9_from_37 : decode cX9_from 37 = .ok (.invokevirtual 211, 3) := by decide +kernel
theorem dX9_from_40 : decode cX9_from 40 = .ok (.aload_n 0, 1) := by decide +kernel
theorem dX9_from_41 : decode cX9_from 41 = .ok (.getfield 10, 3) := by decide +kernel
theorem dX9_from_44 : decode cX9_from 44 = .ok (.invokevirtual 171, 3) := by decide +kernel
theorem dX9_from_47 : decode cX9_from 47 = .ok (.invokevirtual 269, 3) := by decide +kernel
theorem dX9_from_50 : decode cX9_from 50 = .ok (.istore_n 1, 1) := by decide +kernel
theorem dX9_from_51 : decode cX9_from 51 = .ok (.aload_n 0, 1) := by decide +kernel
theorem dX9_from_52 : decode cX9_from 52 = .ok (.getfield 53, 3) := by decide +kernel
theorem dX9_from_55 : decode cX9_from 55 = .ok (.invokevirtual 225, 3) := by decide +kernel
theorem dX9_from_58 : decode cX9_from 58 = .ok (.aload_n 0, 1) := by decide +kernel
theorem dX9_from_59 : decode cX9_from 59 = .ok (.getfield 53, 3) := by decide +kernel
theorem dX9_from_62 : decode cX9_from 62 = .ok (.aload_n 0, 1) := by decide +kernel
theorem dX9_from_63 : decode cX9_from 63 = .ok (.getfield 80, 3) := by decide +kernel
theorem dX9_from_66 : decode cX9_from 66 = .ok (.iload_n 1, 1) := by decide +kernel
theorem dX9_from_67 : decode cX9_from 67 = .ok (.invokevirtual 272, 3) := by decide +kernel
theorem dX9_from_70 : decode cX9_from 70 = .ok (.i2l, 1) := by decide +kernel
theorem dX9_from_71 : decode cX9_from 71 = .ok (.invokevirtual 232, 3) := by decide +kernel
theorem dX9_from_74 : decode cX9_from 74 = .ok (.aload_n 0, 1) := by decide +kernel
theorem dX9_from_75 : decode cX9_from 75 = .ok (.getfield 53, 3) := by decide +kernel
theorem dX9_from_78 : decode cX9_from 78 = .ok (.aload_n 0, 1) := by decide +kernel
theorem dX9_from_79 : decode cX9_from 79 = .ok (.getfield 10, 3) := by decide +kernel
theorem dX9_from_82 : decode cX9_from 82 = .ok (.invokevirtual 266, 3) := by decide +kernel
theorem dX9_from_85 : decode cX9_from 85 = .ok (.invokestatic 275, 3) := by decide +kernel
theorem dX9_from_88 : decode cX9_from 88 = .ok (.i2l, 1) := by decide +kernel
theorem dX9_from_89 : decode cX9_from 89 = .ok (.invokevirtual 232, 3) := by decide +kernel
theorem dX9_from_92 : decode cX9_from 92 = .ok (.iload_n 1, 1) := by decide +kernel
theorem dX9_from_93 : decode cX9_from 93 = .ok (.bipush 8, 2) := by decide +kernel
theorem dX9_from_95 : decode cX9_from 95 = .ok (.iadd, 1) := by decide +kernel
theorem dX9_from_96 : decode cX9_from 96 = .ok (.ireturn, 1) := by decide +kernel
set_option maxHeartbeats 4000000 in
set_option maxRecDepth 100000 in
theorem c_MicRow_from (l : Launch) (G : fm_G) (N : Nat) (M : fm_M) (r : Int32) (M' : fm_M) (hf : pMicRow_from N M = some (r, M')) : fm_Met l yX9_from cX9_from 2 (some .int) { frames := 7, cells := 0, slots := 0, locals := 176 } shC G [.ref (G.2.1 0)] M (some (.int r)) M' := by
  refine fm_enter (by decide) (Nat.le_of_ble_eq_true rfl) ?_
  intro p e s m args below meth c ls C E hl
  have hl : lv_has ls 2 [(0, .ref (G.2.1 0))] := hl
  unfold pMicRow_from at hf
  refine lv_aload_n C.1 C.2.1 dX9_from_0 rfl (lv_at hl 0 rfl) ?_
  refine fm_getr C E lf_X9_10 hC_0 rfl dX9_from_1 ?_
  obtain ⟨x4, hc4, hf⟩ := fm_bd hf
  refine fm_callV C E [] [] lm_X9_266 wk_X7_liveCount (c_Scene_liveCount l G N _ _  hc4) hC_1 rfl rfl rfl hl.1 (by simp [Value.category]) ⟨⟨rfl, rfl⟩, by decide, by decide⟩ ⟨by decide, by decide⟩ dX9_from_4 rfl (fun H locs E => ?_)
  refine W.eq (g2 := F0 m 7 ls (.int x4 :: [])) rfl ?_
  refine lv_iconst (v := 2) C.1 C.2.1 dX9_from_7 (by decide) ?_
  refine lv_icmp_ge (tgt := 14) C.1 C.2.1 dX9_from_8 (by decide) (fun hc8 => ?_) (fun hc8 => ?_)
  · have hf := fm_ip hf hc8
    refine lv_aload_n C.1 C.2.1 dX9_from_14 rfl (lv_at hl 0 rfl) ?_
    refine fm_getr C E lf_X9_62 hC_0 rfl dX9_from_15 ?_
    refine lv_iconst (v := (-1)) C.1 C.2.1 dX9_from_18 (by decide) ?_
    obtain ⟨M19, hc19, hf⟩ := fm_bd hf
    refine fm_callV C E [.int _] [] lm_X9_150 wk_X3_listenTo (c_Ears_listenTo l G _ _ _ hc19) hC_178 rfl rfl rfl hl.1 (by simp [Value.category]) ⟨⟨rfl, rfl⟩, by decide, by decide⟩ ⟨by decide, by decide⟩ dX9_from_19 rfl (fun H locs E => ?_)
    refine W.eq (g2 := F0 m 22 ls []) rfl ?_
    refine lv_aload_n C.1 C.2.1 dX9_from_22 rfl (lv_at hl 0 rfl) ?_
    refine fm_getr C E lf_X9_80 hC_0 rfl dX9_from_23 ?_
    refine lv_aload_n C.1 C.2.1 dX9_from_26 rfl (lv_at hl 0 rfl) ?_
    refine fm_getr C E lf_X9_10 hC_0 rfl dX9_from_27 ?_
    obtain ⟨x30, hc30, hf⟩ := fm_bd hf
    refine fm_callV C E [] [.ref _] lm_X9_208 wk_X7_begin (c_Scene_begin l G _ _  hc30) hC_1 rfl rfl rfl hl.1 (by simp [Value.category]) ⟨⟨rfl, rfl⟩, by decide, by decide⟩ ⟨by decide, by decide⟩ dX9_from_30 rfl (fun H locs E => ?_)
    refine W.eq (g2 := F0 m 33 ls (.int x30 :: [.ref _])) rfl ?_
    refine lv_aload_n C.1 C.2.1 dX9_from_33 rfl (lv_at hl 0 rfl) ?_
    refine fm_getr C E lf_X9_10 hC_0 rfl dX9_from_34 ?_
    obtain ⟨x37, hc37, hf⟩ := fm_bd hf
    refine fm_callV C E [] [.int _, .ref _] lm_X9_211 wk_X7_length (c_Scene_length l G _ _  hc37) hC_1 rfl rfl rfl hl.1 (by simp [Value.category]) ⟨⟨rfl, rfl⟩, by decide, by decide⟩ ⟨by decide, by decide⟩ dX9_from_37 rfl (fun H locs E => ?_)
    refine W.eq (g2 := F0 m 40 ls (.int x37 :: [.int _, .ref _])) rfl ?_
    refine lv_aload_n C.1 C.2.1 dX9_from_40 rfl (lv_at hl 0 rfl) ?_
    refine fm_getr C E lf_X9_10 hC_0 rfl dX9_from_41 ?_
    obtain ⟨x44, hc44, hf⟩ := fm_bd hf
    refine fm_callV C E [] [.int _, .int _, .ref _] lm_X9_171 wk_X7_liveSet (c_Scene_liveSet l G N _ _  hc44) hC_1 rfl rfl rfl hl.1 (by simp [Value.category]) ⟨⟨rfl, rfl⟩, by decide, by decide⟩ ⟨by decide, by decide⟩ dX9_from_44 rfl (fun H locs E => ?_)
    refine W.eq (g2 := F0 m 47 ls (.int x44 :: [.int _, .int _, .ref _])) rfl ?_
    obtain ⟨⟨x47, M47⟩, hc47, hf⟩ := fm_bd hf
    dsimp only at hf
    refine fm_callV C E [.int _, .int _, .int _] [] lm_X9_269 wk_X1_find (c_Compass_find l G N _ _ _ _ _ _ hc47) hC_200 rfl rfl rfl hl.1 (by simp [Value.category]) ⟨⟨rfl, rfl⟩, by decide, by decide⟩ ⟨by decide, by decide⟩ dX9_from_47 rfl (fun H locs E => ?_)
    refine W.eq (g2 := F0 m 50 ls (.int x47 :: [])) rfl ?_
    refine lv_istore_n (lv' := [(1, .int _), (0, .ref _)]) C.1 C.2.1 dX9_from_50 rfl hl (by decide) rfl (fun ls hl => ?_)
    refine lv_aload_n C.1 C.2.1 dX9_from_51 rfl (lv_at hl 1 rfl) ?_
    refine fm_getr C E lf_X9_53 hC_0 rfl dX9_from_52 ?_
    obtain ⟨M55, hc55, hf⟩ := fm_bd hf
    refine fm_callV C E [] [] lm_X9_225 wk_X8_clear (c_Told_clear l G _ _ hc55) hC_176 rfl rfl rfl hl.1 (by simp [Value.category]) ⟨⟨rfl, rfl⟩, by decide, by decide⟩ ⟨by decide, by decide⟩ dX9_from_55 rfl (fun H locs E => ?_)
    refine W.eq (g2 := F0 m 58 ls []) rfl ?_
    refine lv_aload_n C.1 C.2.1 dX9_from_58 rfl (lv_at hl 1 rfl) ?_
    refine fm_getr C E lf_X9_53 hC_0 rfl dX9_from_59 ?_
    refine lv_aload_n C.1 C.2.1 dX9_from_62 rfl (lv_at hl 1 rfl) ?_
    refine fm_getr C E lf_X9_80 hC_0 rfl dX9_from_63 ?_
    refine lv_iload_n C.1 C.2.1 dX9_from_66 rfl (lv_at hl 0 rfl) ?_
    obtain ⟨x67, hc67, hf⟩ := fm_bd hf
    refine fm_callV C E [.int _] [.ref _] lm_X9_272 wk_X1_agreement (c_Compass_agreement l G _ _ _  hc67) hC_200 rfl rfl rfl hl.1 (by simp [Value.category]) ⟨⟨rfl, rfl⟩, by decide, by decide⟩ ⟨by decide, by decide⟩ dX9_from_67 rfl (fun H locs E => ?_)
    refine W.eq (g2 := F0 m 70 ls (.int x67 :: [.ref _])) rfl ?_
    refine lv_i2l C.1 C.2.1 dX9_from_70 rfl ?_
    obtain ⟨M71, hc71, hf⟩ := fm_bd hf
    refine fm_callV C E [.long _] [] lm_X9_232 wk_X8_add (c_Told_add l G _ _ _ hc71) hC_176 rfl rfl rfl hl.1 (by simp [Value.category]) ⟨⟨rfl, rfl⟩, by decide, by decide⟩ ⟨by decide, by decide⟩ dX9_from_71 rfl (fun H locs E => ?_)
    refine W.eq (g2 := F0 m 74 ls []) rfl ?_
    refine lv_aload_n C.1 C.2.1 dX9_from_74 rfl (lv_at hl 1 rfl) ?_
    refine fm_getr C E lf_X9_53 hC_0 rfl dX9_from_75 ?_
    refine lv_aload_n C.1 C.2.1 dX9_from_78 rfl (lv_at hl 1 rfl) ?_
    refine fm_getr C E lf_X9_10 hC_0 rfl dX9_from_79 ?_
    obtain ⟨x82, hc82, hf⟩ := fm_bd hf
    refine fm_callV C E [] [.ref _] lm_X9_266 wk_X7_liveCount (c_Scene_liveCount l G N _ _  hc82) hC_1 rfl rfl rfl hl.1 (by simp [Value.category]) ⟨⟨rfl, rfl⟩, by decide, by decide⟩ ⟨by decide, by decide⟩ dX9_from_82 rfl (fun H locs E => ?_)
    refine W.eq (g2 := F0 m 85 ls (.int x82 :: [.ref _])) rfl ?_
    obtain ⟨x85, hc85, hf⟩ := fm_bd hf
    refine fm_callS C E [.int _] [.ref _] lm_X9_275 wk_X9_pairsOf (c_MicRow_pairsOf l G _ _ _  hc85) rfl hl.1 (by simp [Value.category]) ⟨⟨rfl, rfl⟩, by decide, by decide⟩ ⟨by decide, by decide⟩ dX9_from_85 rfl (fun H locs E => ?_)
    refine W.eq (g2 := F0 m 88 ls (.int x85 :: [.ref _])) rfl ?_
    refine lv_i2l C.1 C.2.1 dX9_from_88 rfl ?_
    obtain ⟨M89, hc89, hf⟩ := fm_bd hf
    refine fm_callV C E [.long _] [] lm_X9_232 wk_X8_add (c_Told_add l G _ _ _ hc89) hC_176 rfl rfl rfl hl.1 (by simp [Value.category]) ⟨⟨rfl, rfl⟩, by decide, by decide⟩ ⟨by decide, by decide⟩ dX9_from_89 rfl (fun H locs E => ?_)
    refine W.eq (g2 := F0 m 92 ls []) rfl ?_
    refine lv_iload_n C.1 C.2.1 dX9_from_92 rfl (lv_at hl 0 rfl) ?_
    refine lv_bipush (v := 8) C.1 C.2.1 dX9_from_93 (by decide) ?_
    refine lv_iadd C.1 C.2.1 dX9_from_95 ?_
    obtain ⟨rfl, rfl⟩ := fm_rt2 hf
    exact fm_iret C E rfl rfl dX9_from_96
  · have hf := fm_in' hf hc8
    refine lv_bipush (v := (-2)) C.1 C.2.1 dX9_from_11 (by decide) ?_
    obtain ⟨rfl, rfl⟩ := fm_rt2 hf
    exact fm_iret C E rfl rfl dX9_from_13
theorem dX9_doubtful_0 : decode cX9_doubtful 0 = .ok (.aload_n 0, 1) := by decide +kernel
theorem dX9_doubtful_1 : decode cX9_doubtful 1 = .ok (.getfield 10, 3) := by decide +kernel
theorem dX9_doubtful_4 : decode cX9_doubtful 4 = .ok (.invokevirtual 266, 3) := by decide +kernel
theorem dX9_doubtful_7 : decode cX9_doubtful 7 = .ok (.iconst 2, 1) := by decide +kernel
theorem dX9_doubtful_8 : decode cX9_doubtful 8 = .ok (.if_icmp .ge 6, 3) := by decide +kernel
theorem dX9_doubtful_11 : decode cX9_doubtful 11 = .ok (.bipush (-2), 2) := by decide +kernel
theorem dX9_doubtful_13 : decode cX9_doubtful 13 = .ok (.ireturn, 1) := by decide +kernel
theorem dX9_doubtful_14 : decode cX9_doubtful 14 = .ok (.aload_n 0, 1) := by decide +kernel
theorem dX9_doubtful_15 : decode cX9_doubtful 15 = .ok (.getfield 62, 3) := by decide +kernel
theorem dX9_doubtful_18 : decode cX9_doubtful 18 = .ok (.iconst (-1), 1) := by decide +kernel
theorem dX9_doubtful_19 : decode cX9_doubtful 19 = .ok (.invokevirtual 150, 3) := by decide +kernel
theorem dX9_doubtful_22 : decode cX9_doubtful 22 = .ok (.aload_n 0, 1) := by decide +kernel
theorem dX9_doubtful_23 : decode cX9_doubtful 23 = .ok (.getfield 80, 3) := by decide +kernel
theorem dX9_doubtful_26 : decode cX9_doubtful 26 = .ok (.aload_n 0, 1) := by decide +kernel
theorem dX9_doubtful_27 : decode cX9_doubtful 27 = .ok (.getfield 80, 3) := by decide +kernel
theorem dX9_doubtful_30 : decode cX9_doubtful 30 = .ok (.aload_n 0, 1) := by decide +kernel
theorem dX9_doubtful_31 : decode cX9_doubtful 31 = .ok (.getfield 10, 3) := by decide +kernel
theorem dX9_doubtful_34 : decode cX9_doubtful 34 = .ok (.invokevirtual 208, 3) := by decide +kernel
theorem dX9_doubtful_37 : decode cX9_doubtful 37 = .ok (.aload_n 0, 1) := by decide +kernel
theorem dX9_doubtful_38 : decode cX9_doubtful 38 = .ok (.getfield 10, 3) := by decide +kernel
theorem dX9_doubtful_41 : decode cX9_doubtful 41 = .ok (.invokevirtual 211, 3) := by decide +kernel
theorem dX9_doubtful_44 : decode cX9_doubtful 44 = .ok (.aload_n 0, 1) := by decide +kernel
theorem dX9_doubtful_45 : decode cX9_doubtful 45 = .ok (.getfield 10, 3) := by decide +kernel
theorem dX9_doubtful_48 : decode cX9_doubtful 48 = .ok (.invokevirtual 171, 3) := by decide +kernel
theorem dX9_doubtful_51 : decode cX9_doubtful 51 = .ok (.invokevirtual 269, 3) := by decide +kernel
theorem dX9_doubtful_54 : decode cX9_doubtful 54 = .ok (.invokevirtual 272, 3) := by decide +kernel
theorem dX9_doubtful_57 : decode cX9_doubtful 57 = .ok (.istore_n 1, 1) := by decide +kernel
theorem dX9_doubtful_58 : decode cX9_doubtful 58 = .ok (.iconst 0, 1) := by decide +kernel
theorem dX9_doubtful_59 : decode cX9_doubtful 59 = .ok (.istore_n 2, 1) := by decide +kernel
theorem dX9_doubtful_60 : decode cX9_doubtful 60 = .ok (.aload_n 0, 1) := by decide +kernel
theorem dX9_doubtful_61 : decode cX9_doubtful 61 = .ok (.getfield 53, 3) := by decide +kernel
theorem dX9_doubtful_64 : decode cX9_doubtful 64 = .ok (.invokevirtual 225, 3) := by decide +kernel
theorem dX9_doubtful_67 : decode cX9_doubtful 67 = .ok (.bipush (-8), 2) := by decide +kernel
theorem dX9_doubtful_69 : decode cX9_doubtful 69 = .ok (.istore_n 3, 1) := by decide +kernel
theorem dX9_doubtful_70 : decode cX9_doubtful 70 = .ok (.iload_n 3, 1) := by decide +kernel
theorem dX9_doubtful_71 : decode cX9_doubtful 71 = .ok (.bipush 8, 2) := by decide +kernel
theorem dX9_doubtful_73 : decode cX9_doubtful 73 = .ok (.if_icmp .gt 36, 3) := by decide +kernel
theorem dX9_doubtful_76 : decode cX9_doubtful 76 = .ok (.aload_n 0, 1) := by decide +kernel
theorem dX9_doubtful_77 : decode cX9_doubtful 77 = .ok (.getfield 80, 3) := by decide +kernel
theorem dX9_doubtful_80 : decode cX9_doubtful 80 = .ok (.iload_n 3, 1) := by decide +kernel
theorem dX9_doubtful_81 : decode cX9_doubtful 81 = .ok (.invokevirtual 272, 3) := by decide +kernel
theorem dX9_doubtful_84 : decode cX9_doubtful 84 = .ok (.iload_n 1, 1) := by decide +kernel
theorem dX9_doubtful_85 : decode cX9_doubtful 85 = .ok (.if_icmp .ne 18, 3) := by decide +kernel
theorem dX9_doubtful_88 : decode cX9_doubtful 88 = .ok (.aload_n 0, 1) := by decide +kernel
theorem dX9_doubtful_89 : decode cX9_doubtful 89 = .ok (.getfield 53, 3) := by decide +kernel
theorem dX9_doubtful_92 : decode cX9_doubtful 92 = .ok (.iload_n 3, 1) := by decide +kernel
theorem dX9_doubtful_93 : decode cX9_doubtful 93 = .ok (.bipush 8, 2) := by decide +kernel
theorem dX9_doubtful_95 : decode cX9_doubtful 95 = .ok (.iadd, 1) := by decide +kernel
theorem dX9_doubtful_96 : decode cX9_doubtful 96 = .ok (.i2l, 1) := by decide +kernel
theorem dX9_doubtful_97 : decode cX9_doubtful 97 = .ok (.invokevirtual 232, 3) := by decide +kernel
theorem dX9_doubtful_100 : decode cX9_doubtful 100 = .ok (.iinc 2 1, 3) := by decide +kernel
theorem dX9_doubtful_103 : decode cX9_doubtful 103 = .ok (.iinc 3 1, 3) := by decide +kernel
theorem dX9_doubtful_106 : decode cX9_doubtful 106 = .ok (.goto (-36), 3) := by decide +kernel
theorem dX9_doubtful_109 : decode cX9_doubtful 109 = .ok (.iload_n 2, 1) := by decide +kernel
theorem dX9_doubtful_110 : decode cX9_doubtful 110 = .ok (.ireturn, 1) := by decide +kernel
set_option maxHeartbeats 4000000 in
set_option maxRecDepth 100000 in
theorem c_MicRow_doubtful (l : Launch) (G : fm_G) (N : Nat) (M : fm_M) (r : Int32) (M' : fm_M) (hf : pMicRow_doubtful N M = some (r, M')) : fm_Met l yX9_doubtful cX9_doubtful 4 (some .int) { frames := 7, cells := 0, slots := 0, locals := 176 } shC G [.ref (G.2.1 0)] M (some (.int r)) M' := by
  refine fm_enter (by decide) (Nat.le_of_ble_eq_true rfl) ?_
  intro p e s m args below meth c ls C E hl
  have hl : lv_has ls 4 [(0, .ref (G.2.1 0))] := hl
  have L70 : ∀ (w70_v1 : Int32) (n70 : Nat) (v2 : Int32) (v3 : Int32) (M : fm_M) (H : Heap) (locs : List Loc) (ls : Array Slot), fm_Wd shC G M s H locs → lv_has ls 4 [(0, .ref (G.2.1 0)), (1, .int w70_v1), (2, .int v2), (3, .int v3)] → fm_lp (pMicRow_doubtful_L70 N w70_v1) n70 (v2, v3, M) = some (r, M') → W p l e { frames := 7, cells := 0, slots := 0, locals := 176 } s m args below meth c H locs 0 0 (fm_Z below shC G args s (some (.int r)) M') (F0 m 70 ls []) := by
    intro w70_v1 n70
    induction n70 with
    | zero => intro v2 v3 M H locs ls E hl hf; exact fm_lp_0 hf
    | succ n70 ih70 =>
      intro v2 v3 M H locs ls E hl hf
      have hf : pMicRow_doubtful_L70b N w70_v1 (fm_lp (pMicRow_doubtful_L70 N w70_v1) n70) v2 v3 M = some (r, M') := hf
      unfold pMicRow_doubtful_L70b at hf
      refine lv_iload_n C.1 C.2.1 dX9_doubtful_70 rfl (lv_at hl 3 rfl) ?_
      refine lv_bipush (v := 8) C.1 C.2.1 dX9_doubtful_71 (by decide) ?_
      refine lv_icmp_gt (tgt := 109) C.1 C.2.1 dX9_doubtful_73 (by decide) (fun hc73 => ?_) (fun hc73 => ?_)
      · have hf := fm_ip hf hc73
        refine lv_iload_n C.1 C.2.1 dX9_doubtful_109 rfl (lv_at hl 2 rfl) ?_
        obtain ⟨rfl, rfl⟩ := fm_rt2 hf
        exact fm_iret C E rfl rfl dX9_doubtful_110
      · have hf := fm_in' hf hc73
        refine lv_aload_n C.1 C.2.1 dX9_doubtful_76 rfl (lv_at hl 0 rfl) ?_
        refine fm_getr C E lf_X9_80 hC_0 rfl dX9_doubtful_77 ?_
        refine lv_iload_n C.1 C.2.1 dX9_doubtful_80 rfl (lv_at hl 3 rfl) ?_
        obtain ⟨x81, hc81, hf⟩ := fm_bd hf
        refine fm_callV C E [.int _] [] lm_X9_272 wk_X1_agreement (c_Compass_agreement l G _ _ _  hc81) hC_200 rfl rfl rfl hl.1 (by simp [Value.category]) ⟨⟨rfl, rfl⟩, by decide, by decide⟩ ⟨by decide, by decide⟩ dX9_doubtful_81 rfl (fun H locs E => ?_)
        refine W.eq (g2 := F0 m 84 ls (.int x81 :: [])) rfl ?_
        refine lv_iload_n C.1 C.2.1 dX9_doubtful_84 rfl (lv_at hl 1 rfl) ?_
        refine lv_icmp_ne (tgt := 103) C.1 C.2.1 dX9_doubtful_85 (by decide) (fun hc85 => ?_) (fun hc85 => ?_)
        · have hf := fm_in' hf hc85
          refine fm_iinc C (v := 1) (lv' := [(3, .int _), (0, .ref _), (1, .int _), (2, .int _)]) (k := 3) hl rfl (by decide) (by decide) rfl dX9_doubtful_103 (fun ls hl => ?_)
          refine lv_goto (tgt := 70) C.1 C.2.1 dX9_doubtful_106 (by decide) ?_
          exact ih70 _ _ _ _ _ _ E (lv_sub hl [1, 2, 3, 0] rfl) hf
        · have hf := fm_ip hf hc85
          refine lv_aload_n C.1 C.2.1 dX9_doubtful_88 rfl (lv_at hl 0 rfl) ?_
          refine fm_getr C E lf_X9_53 hC_0 rfl dX9_doubtful_89 ?_
          refine lv_iload_n C.1 C.2.1 dX9_doubtful_92 rfl (lv_at hl 3 rfl) ?_
          refine lv_bipush (v := 8) C.1 C.2.1 dX9_doubtful_93 (by decide) ?_
          refine lv_iadd C.1 C.2.1 dX9_doubtful_95 ?_
          refine lv_i2l C.1 C.2.1 dX9_doubtful_96 rfl ?_
          obtain ⟨M97, hc97, hf⟩ := fm_bd hf
          refine fm_callV C E [.long _] [] lm_X9_232 wk_X8_add (c_Told_add l G _ _ _ hc97) hC_176 rfl rfl rfl hl.1 (by simp [Value.category]) ⟨⟨rfl, rfl⟩, by decide, by decide⟩ ⟨by decide, by decide⟩ dX9_doubtful_97 rfl (fun H locs E => ?_)
          refine W.eq (g2 := F0 m 100 ls []) rfl ?_
          refine fm_iinc C (v := 1) (lv' := [(2, .int _), (0, .ref _), (1, .int _), (3, .int _)]) (k := 2) hl rfl (by decide) (by decide) rfl dX9_doubtful_100 (fun ls hl => ?_)
          refine fm_iinc C (v := 1) (lv' := [(3, .int _), (2, .int _), (0, .ref _), (1, .int _)]) (k := 3) hl rfl (by decide) (by decide) rfl dX9_doubtful_103 (fun ls hl => ?_)
          refine lv_goto (tgt := 70) C.1 C.2.1 dX9_doubtful_106 (by decide) ?_
          exact ih70 _ _ _ _ _ _ E (lv_sub hl [2, 3, 1, 0] rfl) hf
  unfold pMicRow_doubtful at hf
  refine lv_aload_n C.1 C.2.1 dX9_doubtful_0 rfl (lv_at hl 0 rfl) ?_
  refine fm_getr C E lf_X9_10 hC_0 rfl dX9_doubtful_1 ?_
  obtain ⟨x4, hc4, hf⟩ := fm_bd hf
  refine fm_callV C E [] [] lm_X9_266 wk_X7_liveCount (c_Scene_liveCount l G N _ _  hc4) hC_1 rfl rfl rfl hl.1 (by simp [Value.category]) ⟨⟨rfl, rfl⟩, by decide, by decide⟩ ⟨by decide, by decide⟩ dX9_doubtful_4 rfl (fun H locs E => ?_)
  refine W.eq (g2 := F0 m 7 ls (.int x4 :: [])) rfl ?_
  refine lv_iconst (v := 2) C.1 C.2.1 dX9_doubtful_7 (by decide) ?_
  refine lv_icmp_ge (tgt := 14) C.1 C.2.1 dX9_doubtful_8 (by decide) (fun hc8 => ?_) (fun hc8 => ?_)
  · have hf := fm_ip hf hc8
    refine lv_aload_n C.1 C.2.1 dX9_doubtful_14 rfl (lv_at hl 0 rfl) ?_
    refine fm_getr C E lf_X9_62 hC_0 rfl dX9_doubtful_15 ?_
    refine lv_iconst (v := (-1)) C.1 C.2.1 dX9_doubtful_18 (by decide) ?_
    obtain ⟨M19, hc19, hf⟩ := fm_bd hf
    refine fm_callV C E [.int _] [] lm_X9_150 wk_X3_listenTo (c_Ears_listenTo l G _ _ _ hc19) hC_178 rfl rfl rfl hl.1 (by simp [Value.category]) ⟨⟨rfl, rfl⟩, by decide, by decide⟩ ⟨by decide, by decide⟩ dX9_doubtful_19 rfl (fun H locs E => ?_)
    refine W.eq (g2 := F0 m 22 ls []) rfl ?_
    refine lv_aload_n C.1 C.2.1 dX9_doubtful_22 rfl (lv_at hl 0 rfl) ?_
    refine fm_getr C E lf_X9_80 hC_0 rfl dX9_doubtful_23 ?_
    refine lv_aload_n C.1 C.2.1 dX9_doubtful_26 rfl (lv_at hl 0 rfl) ?_
    refine fm_getr C E lf_X9_80 hC_0 rfl dX9_doubtful_27 ?_
    refine lv_aload_n C.1 C.2.1 dX9_doubtful_30 rfl (lv_at hl 0 rfl) ?_
    refine fm_getr C E lf_X9_10 hC_0 rfl dX9_doubtful_31 ?_
    obtain ⟨x34, hc34, hf⟩ := fm_bd hf
    refine fm_callV C E [] [.ref _, .ref _] lm_X9_208 wk_X7_begin (c_Scene_begin l G _ _  hc34) hC_1 rfl rfl rfl hl.1 (by simp [Value.category]) ⟨⟨rfl, rfl⟩, by decide, by decide⟩ ⟨by decide, by decide⟩ dX9_doubtful_34 rfl (fun H locs E => ?_)
    refine W.eq (g2 := F0 m 37 ls (.int x34 :: [.ref _, .ref _])) rfl ?_
    refine lv_aload_n C.1 C.2.1 dX9_doubtful_37 rfl (lv_at hl 0 rfl) ?_
    refine fm_getr C E lf_X9_10 hC_0 rfl dX9_doubtful_38 ?_
    obtain ⟨x41, hc41, hf⟩ := fm_bd hf
    refine fm_callV C E [] [.int _, .ref _, .ref _] lm_X9_211 wk_X7_length (c_Scene_length l G _ _  hc41) hC_1 rfl rfl rfl hl.1 (by simp [Value.category]) ⟨⟨rfl, rfl⟩, by decide, by decide⟩ ⟨by decide, by decide⟩ dX9_doubtful_41 rfl (fun H locs E => ?_)
    refine W.eq (g2 := F0 m 44 ls (.int x41 :: [.int _, .ref _, .ref _])) rfl ?_
    refine lv_aload_n C.1 C.2.1 dX9_doubtful_44 rfl (lv_at hl 0 rfl) ?_
    refine fm_getr C E lf_X9_10 hC_0 rfl dX9_doubtful_45 ?_
    obtain ⟨x48, hc48, hf⟩ := fm_bd hf
    refine fm_callV C E [] [.int _, .int _, .ref _, .ref _] lm_X9_171 wk_X7_liveSet (c_Scene_liveSet l G N _ _  hc48) hC_1 rfl rfl rfl hl.1 (by simp [Value.category]) ⟨⟨rfl, rfl⟩, by decide, by decide⟩ ⟨by decide, by decide⟩ dX9_doubtful_48 rfl (fun H locs E => ?_)
    refine W.eq (g2 := F0 m 51 ls (.int x48 :: [.int _, .int _, .ref _, .ref _])) rfl ?_
    obtain ⟨⟨x51, M51⟩, hc51, hf⟩ := fm_bd hf
    dsimp only at hf
    refine fm_callV C E [.int _, .int _, .int _] [.ref _] lm_X9_269 wk_X1_find (c_Compass_find l G N _ _ _ _ _ _ hc51) hC_200 rfl rfl rfl hl.1 (by simp [Value.category]) ⟨⟨rfl, rfl⟩, by decide, by decide⟩ ⟨by decide, by decide⟩ dX9_doubtful_51 rfl (fun H locs E => ?_)
    refine W.eq (g2 := F0 m 54 ls (.int x51 :: [.ref _])) rfl ?_
    obtain ⟨x54, hc54, hf⟩ := fm_bd hf
    refine fm_callV C E [.int _] [] lm_X9_272 wk_X1_agreement (c_Compass_agreement l G _ _ _  hc54) hC_200 rfl rfl rfl hl.1 (by simp [Value.category]) ⟨⟨rfl, rfl⟩, by decide, by decide⟩ ⟨by decide, by decide⟩ dX9_doubtful_54 rfl (fun H locs E => ?_)
    refine W.eq (g2 := F0 m 57 ls (.int x54 :: [])) rfl ?_
    refine lv_istore_n (lv' := [(1, .int _), (0, .ref _)]) C.1 C.2.1 dX9_doubtful_57 rfl hl (by decide) rfl (fun ls hl => ?_)
    refine lv_iconst (v := 0) C.1 C.2.1 dX9_doubtful_58 (by decide) ?_
    refine lv_istore_n (lv' := [(2, .int _), (1, .int _), (0, .ref _)]) C.1 C.2.1 dX9_doubtful_59 rfl hl (by decide) rfl (fun ls hl => ?_)
    refine lv_aload_n C.1 C.2.1 dX9_doubtful_60 rfl (lv_at hl 2 rfl) ?_
    refine fm_getr C E lf_X9_53 hC_0 rfl dX9_doubtful_61 ?_
    obtain ⟨M64, hc64, hf⟩ := fm_bd hf
    refine fm_callV C E [] [] lm_X9_225 wk_X8_clear (c_Told_clear l G _ _ hc64) hC_176 rfl rfl rfl hl.1 (by simp [Value.category]) ⟨⟨rfl, rfl⟩, by decide, by decide⟩ ⟨by decide, by decide⟩ dX9_doubtful_64 rfl (fun H locs E => ?_)
    refine W.eq (g2 := F0 m 67 ls []) rfl ?_
    refine lv_bipush (v := (-8)) C.1 C.2.1 dX9_doubtful_67 (by decide) ?_
    refine lv_istore_n (lv' := [(3, .int _), (2, .int _), (1, .int _), (0, .ref _)]) C.1 C.2.1 dX9_doubtful_69 rfl hl (by decide) rfl (fun ls hl => ?_)
    exact L70 _ N _ _ _ _ _ _ E (lv_sub hl [3, 2, 1, 0] rfl) hf
  · have hf := fm_in' hf hc8
    refine lv_bipush (v := (-2)) C.1 C.2.1 dX9_doubtful_11 (by decide) ?_
    obtain ⟨rfl, rfl⟩ := fm_rt2 hf
    exact fm_iret C E rfl rfl dX9_doubtful_13
theorem dX9_tracks_0 : decode cX9_tracks 0 = .ok (.iload_n 1, 1) := by decide +kernel
theorem dX9_tracks_1 : decode cX9_tracks 1 = .ok (.iconst 1, 1) := by decide +kernel
theorem dX9_tracks_2 : decode cX9_tracks 2 = .ok (.bipush 12, 2) := by decide +kernel
theorem dX9_tracks_4 : decode cX9_tracks 4 = .ok (.invokestatic 112, 3) := by decide +kernel
theorem dX9_tracks_7 : decode cX9_tracks 7 = .ok (.ifCond .eq 28, 3) := by decide +kernel
theorem dX9_tracks_10 : decode cX9_tracks 10 = .ok (.aload_n 0, 1) := by decide +kernel
theorem dX9_tracks_11 : decode cX9_tracks 11 = .ok (.getfield 10, 3) := by decide +kernel
theorem dX9_tracks_14 : decode cX9_tracks 14 = .ok (.invokevirtual 208, 3) := by decide +kernel
theorem dX9_tracks_17 : decode cX9_tracks 17 = .ok (.iload_n 1, 1) := by decide +kernel
theorem dX9_tracks_18 : decode cX9_tracks 18 = .ok (.iconst 1, 1) := by decide +kernel
theorem dX9_tracks_19 : decode cX9_tracks 19 = .ok (.isub, 1) := by decide +kernel
theorem dX9_tracks_20 : decode cX9_tracks 20 = .ok (.aload_n 0, 1) := by decide +kernel
theorem dX9_tracks_21 : decode cX9_tracks 21 = .ok (.getfield 10, 3) := by decide +kernel
theorem dX9_tracks_24 : decode cX9_tracks 24 = .ok (.invokevirtual 211, 3) := by decide +kernel
theorem dX9_tracks_27 : decode cX9_tracks 27 = .ok (.imul, 1) := by decide +kernel
theorem dX9_tracks_28 : decode cX9_tracks 28 = .ok (.iadd, 1) := by decide +kernel
theorem dX9_tracks_29 : decode cX9_tracks 29 = .ok (.sipush 200, 3) := by decide +kernel
theorem dX9_tracks_32 : decode cX9_tracks 32 = .ok (.if_icmp .le 5, 3) := by decide +kernel
theorem dX9_tracks_35 : decode cX9_tracks 35 = .ok (.iconst (-1), 1) := by decide +kernel
theorem dX9_tracks_36 : decode cX9_tracks 36 = .ok (.ireturn, 1) := by decide +kernel
theorem dX9_tracks_37 : decode cX9_tracks 37 = .ok (.aload_n 0, 1) := by decide +kernel
theorem dX9_tracks_38 : decode cX9_tracks 38 = .ok (.getfield 10, 3) := by decide +kernel
theorem dX9_tracks_41 : decode cX9_tracks 41 = .ok (.invokevirtual 266, 3) := by decide +kernel
theorem dX9_tracks_44 : decode cX9_tracks 44 = .ok (.iconst 2, 1) := by decide +kernel
theorem dX9_tracks_45 : decode cX9_tracks 45 = .ok (.if_icmp .ge 6, 3) := by decide +kernel
theorem dX9_tracks_48 : decode cX9_tracks 48 = .ok (.bipush (-2), 2) := by decide +kernel
theorem dX9_tracks_50 : decode cX9_tracks 50 = .ok (.ireturn, 1) := by decide +kernel
theorem dX9_tracks_51 : decode cX9_tracks 51 = .ok (.aload_n 0, 1) := by decide +kernel
theorem dX9_tracks_52 : decode cX9_tracks 52 = .ok (.getfield 62, 3) := by decide +kernel
theorem dX9_tracks_55 : decode cX9_tracks 55 = .ok (.iconst (-1), 1) := by decide +kernel
theorem dX9_tracks_56 : decode cX9_tracks 56 = .ok (.invokevirtual 150, 3) := by decide +kernel
theorem dX9_tracks_59 : decode cX9_tracks 59 = .ok (.aload_n 0, 1) := by decide +kernel
theorem dX9_tracks_60 : decode cX9_tracks 60 = .ok (.getfield 53, 3) := by decide +kernel
theorem dX9_tracks_63 : decode cX9_tracks 63 = .ok (.invokevirtual 225, 3) := by decide +kernel
theorem dX9_tracks_66 : decode cX9_tracks 66 = .ok (.iconst 0, 1) := by decide +kernel
theorem dX9_tracks_67 : decode cX9_tracks 67 = .ok (.istore_n 2, 1) := by decide +kernel
theorem dX9_tracks_68 : decode cX9_tracks 68 = .ok (.iconst 0, 1) := by decide +kernel
theorem dX9_tracks_69 : decode cX9_tracks 69 = .ok (.istore_n 3, 1) := by decide +kernel
theorem dX9_tracks_70 : decode cX9_tracks 70 = .ok (.iconst 0, 1) := by decide +kernel
theorem dX9_tracks_71 : decode cX9_tracks 71 = .ok (.istore 4, 2) := by decide +kernel
theorem dX9_tracks_73 : decode cX9_tracks 73 = .ok (.iload 4, 2) := by decide +kernel
theorem dX9_tracks_75 : decode cX9_tracks 75 = .ok (.iload_n 1, 1) := by decide +kernel
theorem dX9_tracks_76 : decode cX9_tracks 76 = .ok (.if_icmp .ge 84, 3) := by decide +kernel
theorem dX9_tracks_79 : decode cX9_tracks 79 = .ok (.aload_n 0, 1) := by decide +kernel
theorem dX9_tracks_80 : decode cX9_tracks 80 = .ok (.getfield 10, 3) := by decide +kernel
theorem dX9_tracks_83 : decode cX9_tracks 83 = .ok (.invokevirtual 208, 3) := by decide +kernel
theorem dX9_tracks_86 : decode cX9_tracks 86 = .ok (.iload 4, 2) := by decide +kernel
theorem dX9_tracks_88 : decode cX9_tracks 88 = .ok (.aload_n 0, 1) := by decide +kernel
theorem dX9_tracks_89 : decode cX9_tracks 89 = .ok (.getfield 10, 3) := by decide +kernel
theorem dX9_tracks_92 : decode cX9_tracks 92 = .ok (.invokevirtual 211, 3) := by decide +kernel
theorem dX9_tracks_95 : decode cX9_tracks 95 = .ok (.imul, 1) := by decide +kernel
theorem dX9_tracks_96 : decode cX9_tracks 96 = .ok (.iadd, 1) := by decide +kernel
theorem dX9_tracks_97 : decode cX9_tracks 97 = .ok (.istore 5, 2) := by decide +kernel
theorem dX9_tracks_99 : decode cX9_tracks 99 = .ok (.aload_n 0, 1) := by decide +kernel
theorem dX9_tracks_100 : decode cX9_tracks 100 = .ok (.getfield 80, 3) := by decide +kernel
theorem dX9_tracks_103 : decode cX9_tracks 103 = .ok (.iload 5, 2) := by decide +kernel
theorem dX9_tracks_105 : decode cX9_tracks 105 = .ok (.aload_n 0, 1) := by decide +kernel
theorem dX9_tracks_106 : decode cX9_tracks 106 = .ok (.getfield 10, 3) := by decide +kernel
theorem dX9_tracks_109 : decode cX9_tracks 109 = .ok (.invokevirtual 211, 3) := by decide +kernel
theorem dX9_tracks_112 : decode cX9_tracks 112 = .ok (.aload_n 0, 1) := by decide +kernel
theorem dX9_tracks_113 : decode cX9_tracks 113 = .ok (.getfield 10, 3) := by decide +kernel
theorem dX9_tracks_116 : decode cX9_tracks 116 = .ok (.invokevirtual 171, 3) := by decide +kernel
theorem dX9_tracks_119 : decode cX9_tracks 119 = .ok (.invokevirtual 269, 3) := by decide +kernel
theorem dX9_tracks_122 : decode cX9_tracks 122 = .ok (.istore 6, 2) := by decide +kernel
theorem dX9_tracks_124 : decode cX9_tracks 124 = .ok (.aload_n 0, 1) := by decide +kernel
theorem dX9_tracks_125 : decode cX9_tracks 125 = .ok (.getfield 53, 3) := by decide +kernel
theorem dX9_tracks_128 : decode cX9_tracks 128 = .ok (.iload 6, 2) := by decide +kernel
theorem dX9_tracks_130 : decode cX9_tracks 130 = .ok (.bipush 8, 2) := by decide +kernel
theorem dX9_tracks_132 : decode cX9_tracks 132 = .ok (.iadd, 1) := by decide +kernel
theorem dX9_tracks_133 : decode cX9_tracks 133 = .ok (.i2l, 1) := by decide +kernel
theorem dX9_tracks_134 : decode cX9_tracks 134 = .ok (.invokevirtual 232, 3) := by decide +kernel
theorem dX9_tracks_137 : decode cX9_tracks 137 = .ok (.iload 4, 2) := by decide +kernel
theorem dX9_tracks_139 : decode cX9_tracks 139 = .ok (.ifCond .le 12, 3) := by decide +kernel
theorem dX9_tracks_142 : decode cX9_tracks 142 = .ok (.iload 6, 2) := by decide +kernel
theorem dX9_tracks_144 : decode cX9_tracks 144 = .ok (.iload_n 3, 1) := by decide +kernel
theorem dX9_tracks_145 : decode cX9_tracks 145 = .ok (.if_icmp .eq 6, 3) := by decide +kernel
theorem dX9_tracks_148 : decode cX9_tracks 148 = .ok (.iinc 2 1, 3) := by decide +kernel
theorem dX9_tracks_151 : decode cX9_tracks 151 = .ok (.iload 6, 2) := by decide +kernel
theorem dX9_tracks_153 : decode cX9_tracks 153 = .ok (.istore_n 3, 1) := by decide +kernel
theorem dX9_tracks_154 : decode cX9_tracks 154 = .ok (.iinc 4 1, 3) := by decide +kernel
theorem dX9_tracks_157 : decode cX9_tracks 157 = .ok (.goto (-84), 3) := by decide +kernel
theorem dX9_tracks_160 : decode cX9_tracks 160 = .ok (.iload_n 2, 1) := by decide +kernel
theorem dX9_tracks_161 : decode cX9_tracks 161 = .ok (.ireturn, 1) := by decide +kernel
set_option maxHeartbeats 4000000 in
set_option maxRecDepth 100000 in
theorem c_MicRow_tracks (l : Launch) (G : fm_G) (N : Nat) (M : fm_M) (v1 : Int32) (r : Int32) (M' : fm_M) (hf : pMicRow_tracks N M v1 = some (r, M')) : fm_Met l yX9_tracks cX9_tracks 7 (some .int) { frames := 7, cells := 0, slots := 0, locals := 176 } shC G [.ref (G.2.1 0), .int v1] M (some (.int r)) M' := by
  refine fm_enter (by decide) (Nat.le_of_ble_eq_true rfl) ?_
  intro p e s m args below meth c ls C E hl
  have hl : lv_has ls 7 [(0, .ref (G.2.1 0)), (1, .int v1)] := hl
  have L73 : ∀ (w73_v1 : Int32) (n73 : Nat) (v2 : Int32) (v3 : Int32) (v4 : Int32) (M : fm_M) (H : Heap) (locs : List Loc) (ls : Array Slot), fm_Wd shC G M s H locs → lv_has ls 7 [(0, .ref (G.2.1 0)), (1, .int w73_v1), (2, .int v2), (3, .int v3), (4, .int v4)] → fm_lp (pMicRow_tracks_L73 N w73_v1) n73 (v2, v3, v4, M) = some (r, M') → W p l e { frames := 7, cells := 0, slots := 0, locals := 176 } s m args below meth c H locs 0 0 (fm_Z below shC G args s (some (.int r)) M') (F0 m 73 ls []) := by
    intro w73_v1 n73
    induction n73 with
    | zero => intro v2 v3 v4 M H locs ls E hl hf; exact fm_lp_0 hf
    | succ n73 ih73 =>
      intro v2 v3 v4 M H locs ls E hl hf
      have hf : pMicRow_tracks_L73b N w73_v1 (fm_lp (pMicRow_tracks_L73 N w73_v1) n73) v2 v3 v4 M = some (r, M') := hf
      unfold pMicRow_tracks_L73b at hf
      refine lv_iload C.1 C.2.1 dX9_tracks_73 (lv_at hl 4 rfl) ?_
      refine lv_iload_n C.1 C.2.1 dX9_tracks_75 rfl (lv_at hl 1 rfl) ?_
      refine lv_icmp_ge (tgt := 160) C.1 C.2.1 dX9_tracks_76 (by decide) (fun hc76 => ?_) (fun hc76 => ?_)
      · have hf := fm_ip hf hc76
        refine lv_iload_n C.1 C.2.1 dX9_tracks_160 rfl (lv_at hl 2 rfl) ?_
        obtain ⟨rfl, rfl⟩ := fm_rt2 hf
        exact fm_iret C E rfl rfl dX9_tracks_161
      · have hf := fm_in' hf hc76
        refine lv_aload_n C.1 C.2.1 dX9_tracks_79 rfl (lv_at hl 0 rfl) ?_
        refine fm_getr C E lf_X9_10 hC_0 rfl dX9_tracks_80 ?_
        obtain ⟨x83, hc83, hf⟩ := fm_bd hf
        refine fm_callV C E [] [] lm_X9_208 wk_X7_begin (c_Scene_begin l G _ _  hc83) hC_1 rfl rfl rfl hl.1 (by simp [Value.category]) ⟨⟨rfl, rfl⟩, by decide, by decide⟩ ⟨by decide, by decide⟩ dX9_tracks_83 rfl (fun H locs E => ?_)
        refine W.eq (g2 := F0 m 86 ls (.int x83 :: [])) rfl ?_
        refine lv_iload C.1 C.2.1 dX9_tracks_86 (lv_at hl 4 rfl) ?_
        refine lv_aload_n C.1 C.2.1 dX9_tracks_88 rfl (lv_at hl 0 rfl) ?_
        refine fm_getr C E lf_X9_10 hC_0 rfl dX9_tracks_89 ?_
        obtain ⟨x92, hc92, hf⟩ := fm_bd hf
        refine fm_callV C E [] [.int _, .int _] lm_X9_211 wk_X7_length (c_Scene_length l G _ _  hc92) hC_1 rfl rfl rfl hl.1 (by simp [Value.category]) ⟨⟨rfl, rfl⟩, by decide, by decide⟩ ⟨by decide, by decide⟩ dX9_tracks_92 rfl (fun H locs E => ?_)
        refine W.eq (g2 := F0 m 95 ls (.int x92 :: [.int _, .int _])) rfl ?_
        refine lv_imul C.1 C.2.1 dX9_tracks_95 ?_
        refine lv_iadd C.1 C.2.1 dX9_tracks_96 ?_
        refine lv_istore (lv' := [(5, .int _), (0, .ref _), (1, .int _), (2, .int _), (3, .int _), (4, .int _)]) C.1 C.2.1 dX9_tracks_97 hl (by decide) rfl (fun ls hl => ?_)
        refine lv_aload_n C.1 C.2.1 dX9_tracks_99 rfl (lv_at hl 1 rfl) ?_
        refine fm_getr C E lf_X9_80 hC_0 rfl dX9_tracks_100 ?_
        refine lv_iload C.1 C.2.1 dX9_tracks_103 (lv_at hl 0 rfl) ?_
        refine lv_aload_n C.1 C.2.1 dX9_tracks_105 rfl (lv_at hl 1 rfl) ?_
        refine fm_getr C E lf_X9_10 hC_0 rfl dX9_tracks_106 ?_
        obtain ⟨x109, hc109, hf⟩ := fm_bd hf
        refine fm_callV C E [] [.int _, .ref _] lm_X9_211 wk_X7_length (c_Scene_length l G _ _  hc109) hC_1 rfl rfl rfl hl.1 (by simp [Value.category]) ⟨⟨rfl, rfl⟩, by decide, by decide⟩ ⟨by decide, by decide⟩ dX9_tracks_109 rfl (fun H locs E => ?_)
        refine W.eq (g2 := F0 m 112 ls (.int x109 :: [.int _, .ref _])) rfl ?_
        refine lv_aload_n C.1 C.2.1 dX9_tracks_112 rfl (lv_at hl 1 rfl) ?_
        refine fm_getr C E lf_X9_10 hC_0 rfl dX9_tracks_113 ?_
        obtain ⟨x116, hc116, hf⟩ := fm_bd hf
        refine fm_callV C E [] [.int _, .int _, .ref _] lm_X9_171 wk_X7_liveSet (c_Scene_liveSet l G N _ _  hc116) hC_1 rfl rfl rfl hl.1 (by simp [Value.category]) ⟨⟨rfl, rfl⟩, by decide, by decide⟩ ⟨by decide, by decide⟩ dX9_tracks_116 rfl (fun H locs E => ?_)
        refine W.eq (g2 := F0 m 119 ls (.int x116 :: [.int _, .int _, .ref _])) rfl ?_
        obtain ⟨⟨x119, M119⟩, hc119, hf⟩ := fm_bd hf
        dsimp only at hf
        refine fm_callV C E [.int _, .int _, .int _] [] lm_X9_269 wk_X1_find (c_Compass_find l G N _ _ _ _ _ _ hc119) hC_200 rfl rfl rfl hl.1 (by simp [Value.category]) ⟨⟨rfl, rfl⟩, by decide, by decide⟩ ⟨by decide, by decide⟩ dX9_tracks_119 rfl (fun H locs E => ?_)
        refine W.eq (g2 := F0 m 122 ls (.int x119 :: [])) rfl ?_
        refine lv_istore (lv' := [(6, .int _), (5, .int _), (0, .ref _), (1, .int _), (2, .int _), (3, .int _), (4, .int _)]) C.1 C.2.1 dX9_tracks_122 hl (by decide) rfl (fun ls hl => ?_)
        refine lv_aload_n C.1 C.2.1 dX9_tracks_124 rfl (lv_at hl 2 rfl) ?_
        refine fm_getr C E lf_X9_53 hC_0 rfl dX9_tracks_125 ?_
        refine lv_iload C.1 C.2.1 dX9_tracks_128 (lv_at hl 0 rfl) ?_
        refine lv_bipush (v := 8) C.1 C.2.1 dX9_tracks_130 (by decide) ?_
        refine lv_iadd C.1 C.2.1 dX9_tracks_132 ?_
        refine lv_i2l C.1 C.2.1 dX9_tracks_133 rfl ?_
        obtain ⟨M134, hc134, hf⟩ := fm_bd hf
        refine fm_callV C E [.long _] [] lm_X9_232 wk_X8_add (c_Told_add l G _ _ _ hc134) hC_176 rfl rfl rfl hl.1 (by simp [Value.category]) ⟨⟨rfl, rfl⟩, by decide, by decide⟩ ⟨by decide, by decide⟩ dX9_tracks_134 rfl (fun H locs E => ?_)
        refine W.eq (g2 := F0 m 137 ls []) rfl ?_
        refine lv_iload C.1 C.2.1 dX9_tracks_137 (lv_at hl 6 rfl) ?_
        refine lv_if_le (tgt := 151) C.1 C.2.1 dX9_tracks_139 (by decide) (fun hc139 => ?_) (fun hc139 => ?_)
        · have hf := fm_ip hf hc139
          refine lv_iload C.1 C.2.1 dX9_tracks_151 (lv_at hl 0 rfl) ?_
          refine lv_istore_n (lv' := [(3, .int _), (6, .int _), (5, .int _), (0, .ref _), (1, .int _), (2, .int _), (4, .int _)]) C.1 C.2.1 dX9_tracks_153 rfl hl (by decide) rfl (fun ls hl => ?_)
          refine fm_iinc C (v := 1) (lv' := [(4, .int _), (3, .int _), (6, .int _), (5, .int _), (0, .ref _), (1, .int _), (2, .int _)]) (k := 6) hl rfl (by decide) (by decide) rfl dX9_tracks_154 (fun ls hl => ?_)
          refine lv_goto (tgt := 73) C.1 C.2.1 dX9_tracks_157 (by decide) ?_
          exact ih73 _ _ _ _ _ _ _ E (lv_sub hl [4, 5, 6, 1, 0] rfl) hf
        · have hf := fm_in' hf hc139
          refine lv_iload C.1 C.2.1 dX9_tracks_142 (lv_at hl 0 rfl) ?_
          refine lv_iload_n C.1 C.2.1 dX9_tracks_144 rfl (lv_at hl 5 rfl) ?_
          refine lv_icmp_eq (tgt := 151) C.1 C.2.1 dX9_tracks_145 (by decide) (fun hc145 => ?_) (fun hc145 => ?_)
          · have hf := fm_ip hf hc145
            refine lv_iload C.1 C.2.1 dX9_tracks_151 (lv_at hl 0 rfl) ?_
            refine lv_istore_n (lv' := [(3, .int _), (6, .int _), (5, .int _), (0, .ref _), (1, .int _), (2, .int _), (4, .int _)]) C.1 C.2.1 dX9_tracks_153 rfl hl (by decide) rfl (fun ls hl => ?_)
            refine fm_iinc C (v := 1) (lv' := [(4, .int _), (3, .int _), (6, .int _), (5, .int _), (0, .ref _), (1, .int _), (2, .int _)]) (k := 6) hl rfl (by decide) (by decide) rfl dX9_tracks_154 (fun ls hl => ?_)
            refine lv_goto (tgt := 73) C.1 C.2.1 dX9_tracks_157 (by decide) ?_
            exact ih73 _ _ _ _ _ _ _ E (lv_sub hl [4, 5, 6, 1, 0] rfl) hf
          · have hf := fm_in' hf hc145
            refine fm_iinc C (v := 1) (lv' := [(2, .int _), (6, .int _), (5, .int _), (0, .ref _), (1, .int _), (3, .int _), (4, .int _)]) (k := 4) hl rfl (by decide) (by decide) rfl dX9_tracks_148 (fun ls hl => ?_)
            refine lv_iload C.1 C.2.1 dX9_tracks_151 (lv_at hl 1 rfl) ?_
            refine lv_istore_n (lv' := [(3, .int _), (2, .int _), (6, .int _), (5, .int _), (0, .ref _), (1, .int _), (4, .int _)]) C.1 C.2.1 dX9_tracks_153 rfl hl (by decide) rfl (fun ls hl => ?_)
            refine fm_iinc C (v := 1) (lv' := [(4, .int _), (3, .int _), (2, .int _), (6, .int _), (5, .int _), (0, .ref _), (1, .int _)]) (k := 6) hl rfl (by decide) (by decide) rfl dX9_tracks_154 (fun ls hl => ?_)
            refine lv_goto (tgt := 73) C.1 C.2.1 dX9_tracks_157 (by decide) ?_
            exact ih73 _ _ _ _ _ _ _ E (lv_sub hl [5, 6, 2, 1, 0] rfl) hf
  unfold pMicRow_tracks at hf
  refine lv_iload_n C.1 C.2.1 dX9_tracks_0 rfl (lv_at hl 1 rfl) ?_
  refine lv_iconst (v := 1) C.1 C.2.1 dX9_tracks_1 (by decide) ?_
  refine lv_bipush (v := 12) C.1 C.2.1 dX9_tracks_2 (by decide) ?_
  obtain ⟨x4, hc4, hf⟩ := fm_bd hf
  refine fm_callS C E [.int _, .int _, .int _] [] lm_X9_112 wk_X9_within (c_MicRow_within l G _ _ _ _ _  hc4) rfl hl.1 (by simp [Value.category]) ⟨⟨rfl, rfl⟩, by decide, by decide⟩ ⟨by decide, by decide⟩ dX9_tracks_4 rfl (fun H locs E => ?_)
  refine W.eq (g2 := F0 m 7 ls (.int x4 :: [])) rfl ?_
  refine lv_if_eq (tgt := 35) C.1 C.2.1 dX9_tracks_7 (by decide) (fun hc7 => ?_) (fun hc7 => ?_)
  · have hf := fm_ip hf hc7
    refine lv_iconst (v := (-1)) C.1 C.2.1 dX9_tracks_35 (by decide) ?_
    obtain ⟨rfl, rfl⟩ := fm_rt2 hf
    exact fm_iret C E rfl rfl dX9_tracks_36
  · have hf := fm_in' hf hc7
    refine lv_aload_n C.1 C.2.1 dX9_tracks_10 rfl (lv_at hl 0 rfl) ?_
    refine fm_getr C E lf_X9_10 hC_0 rfl dX9_tracks_11 ?_
    obtain ⟨x14, hc14, hf⟩ := fm_bd hf
    refine fm_callV C E [] [] lm_X9_208 wk_X7_begin (c_Scene_begin l G _ _  hc14) hC_1 rfl rfl rfl hl.1 (by simp [Value.category]) ⟨⟨rfl, rfl⟩, by decide, by decide⟩ ⟨by decide, by decide⟩ dX9_tracks_14 rfl (fun H locs E => ?_)
    refine W.eq (g2 := F0 m 17 ls (.int x14 :: [])) rfl ?_
    refine lv_iload_n C.1 C.2.1 dX9_tracks_17 rfl (lv_at hl 1 rfl) ?_
    refine lv_iconst (v := 1) C.1 C.2.1 dX9_tracks_18 (by decide) ?_
    refine lv_isub C.1 C.2.1 dX9_tracks_19 ?_
    refine lv_aload_n C.1 C.2.1 dX9_tracks_20 rfl (lv_at hl 0 rfl) ?_
    refine fm_getr C E lf_X9_10 hC_0 rfl dX9_tracks_21 ?_
    obtain ⟨x24, hc24, hf⟩ := fm_bd hf
    refine fm_callV C E [] [.int _, .int _] lm_X9_211 wk_X7_length (c_Scene_length l G _ _  hc24) hC_1 rfl rfl rfl hl.1 (by simp [Value.category]) ⟨⟨rfl, rfl⟩, by decide, by decide⟩ ⟨by decide, by decide⟩ dX9_tracks_24 rfl (fun H locs E => ?_)
    refine W.eq (g2 := F0 m 27 ls (.int x24 :: [.int _, .int _])) rfl ?_
    refine lv_imul C.1 C.2.1 dX9_tracks_27 ?_
    refine lv_iadd C.1 C.2.1 dX9_tracks_28 ?_
    refine lv_sipush (v := 200) C.1 C.2.1 dX9_tracks_29 (by decide) ?_
    refine lv_icmp_le (tgt := 37) C.1 C.2.1 dX9_tracks_32 (by decide) (fun hc32 => ?_) (fun hc32 => ?_)
    · have hf := fm_ip hf hc32
      refine lv_aload_n C.1 C.2.1 dX9_tracks_37 rfl (lv_at hl 0 rfl) ?_
      refine fm_getr C E lf_X9_10 hC_0 rfl dX9_tracks_38 ?_
      obtain ⟨x41, hc41, hf⟩ := fm_bd hf
      refine fm_callV C E [] [] lm_X9_266 wk_X7_liveCount (c_Scene_liveCount l G N _ _  hc41) hC_1 rfl rfl rfl hl.1 (by simp [Value.category]) ⟨⟨rfl, rfl⟩, by decide, by decide⟩ ⟨by decide, by decide⟩ dX9_tracks_41 rfl (fun H locs E => ?_)
      refine W.eq (g2 := F0 m 44 ls (.int x41 :: [])) rfl ?_
      refine lv_iconst (v := 2) C.1 C.2.1 dX9_tracks_44 (by decide) ?_
      refine lv_icmp_ge (tgt := 51) C.1 C.2.1 dX9_tracks_45 (by decide) (fun hc45 => ?_) (fun hc45 => ?_)
      · have hf := fm_ip hf hc45
        refine lv_aload_n C.1 C.2.1 dX9_tracks_51 rfl (lv_at hl 0 rfl) ?_
        refine fm_getr C E lf_X9_62 hC_0 rfl dX9_tracks_52 ?_
        refine lv_iconst (v := (-1)) C.1 C.2.1 dX9_tracks_55 (by decide) ?_
        obtain ⟨M56, hc56, hf⟩ := fm_bd hf
        refine fm_callV C E [.int _] [] lm_X9_150 wk_X3_listenTo (c_Ears_listenTo l G _ _ _ hc56) hC_178 rfl rfl rfl hl.1 (by simp [Value.category]) ⟨⟨rfl, rfl⟩, by decide, by decide⟩ ⟨by decide, by decide⟩ dX9_tracks_56 rfl (fun H locs E => ?_)
        refine W.eq (g2 := F0 m 59 ls []) rfl ?_
        refine lv_aload_n C.1 C.2.1 dX9_tracks_59 rfl (lv_at hl 0 rfl) ?_
        refine fm_getr C E lf_X9_53 hC_0 rfl dX9_tracks_60 ?_
        obtain ⟨M63, hc63, hf⟩ := fm_bd hf
        refine fm_callV C E [] [] lm_X9_225 wk_X8_clear (c_Told_clear l G _ _ hc63) hC_176 rfl rfl rfl hl.1 (by simp [Value.category]) ⟨⟨rfl, rfl⟩, by decide, by decide⟩ ⟨by decide, by decide⟩ dX9_tracks_63 rfl (fun H locs E => ?_)
        refine W.eq (g2 := F0 m 66 ls []) rfl ?_
        refine lv_iconst (v := 0) C.1 C.2.1 dX9_tracks_66 (by decide) ?_
        refine lv_istore_n (lv' := [(2, .int _), (0, .ref _), (1, .int _)]) C.1 C.2.1 dX9_tracks_67 rfl hl (by decide) rfl (fun ls hl => ?_)
        refine lv_iconst (v := 0) C.1 C.2.1 dX9_tracks_68 (by decide) ?_
        refine lv_istore_n (lv' := [(3, .int _), (2, .int _), (0, .ref _), (1, .int _)]) C.1 C.2.1 dX9_tracks_69 rfl hl (by decide) rfl (fun ls hl => ?_)
        refine lv_iconst (v := 0) C.1 C.2.1 dX9_tracks_70 (by decide) ?_
        refine lv_istore (lv' := [(4, .int _), (3, .int _), (2, .int _), (0, .ref _), (1, .int _)]) C.1 C.2.1 dX9_tracks_71 hl (by decide) rfl (fun ls hl => ?_)
        exact L73 _ N _ _ _ _ _ _ _ E (lv_sub hl [3, 4, 2, 1, 0] rfl) hf
      · have hf := fm_in' hf hc45
        refine lv_bipush (v := (-2)) C.1 C.2.1 dX9_tracks_48 (by decide) ?_
        obtain ⟨rfl, rfl⟩ := fm_rt2 hf
        exact fm_iret C E rfl rfl dX9_tracks_50
    · have hf := fm_in' hf hc32
      refine lv_iconst (v := (-1)) C.1 C.2.1 dX9_tracks_35 (by decide) ?_
      obtain ⟨rfl, rfl⟩ := fm_rt2 hf
      exact fm_iret C E rfl rfl dX9_tracks_36
theorem dX9_strongest_0 : decode cX9_strongest 0 = .ok (.aload_n 0, 1) := by decide +kernel
theorem dX9_strongest_1 : decode cX9_strongest 1 = .ok (.getfield 10, 3) := by decide +kernel
theorem dX9_strongest_4 : decode cX9_strongest 4 = .ok (.iload_n 1, 1) := by decide +kernel
theorem dX9_strongest_5 : decode cX9_strongest 5 = .ok (.invokevirtual 116, 3) := by decide +kernel
theorem dX9_strongest_8 : decode cX9_strongest 8 = .ok (.ifCond .ne 5, 3) := by decide +kernel
theorem dX9_strongest_11 : decode cX9_strongest 11 = .ok (.iconst (-1), 1) := by decide +kernel
theorem dX9_strongest_12 : decode cX9_strongest 12 = .ok (.ireturn, 1) := by decide +kernel
theorem dX9_strongest_13 : decode cX9_strongest 13 = .ok (.aload_n 0, 1) := by decide +kernel
theorem dX9_strongest_14 : decode cX9_strongest 14 = .ok (.getfield 10, 3) := by decide +kernel
theorem dX9_strongest_17 : decode cX9_strongest 17 = .ok (.getfield 278, 3) := by decide +kernel
theorem dX9_strongest_20 : decode cX9_strongest 20 = .ok (.ifCond .ne 6, 3) := by decide +kernel
theorem dX9_strongest_23 : decode cX9_strongest 23 = .ok (.bipush (-2), 2) := by decide +kernel
theorem dX9_strongest_25 : decode cX9_strongest 25 = .ok (.ireturn, 1) := by decide +kernel
theorem dX9_strongest_26 : decode cX9_strongest 26 = .ok (.iconst 0, 1) := by decide +kernel
theorem dX9_strongest_27 : decode cX9_strongest 27 = .ok (.istore_n 2, 1) := by decide +kernel
theorem dX9_strongest_28 : decode cX9_strongest 28 = .ok (.ldc2_w 243, 3) := by decide +kernel
theorem dX9_strongest_31 : decode cX9_strongest 31 = .ok (.lstore_n 3, 1) := by decide +kernel
theorem dX9_strongest_32 : decode cX9_strongest 32 = .ok (.iconst 0, 1) := by decide +kernel
theorem dX9_strongest_33 : decode cX9_strongest 33 = .ok (.istore 5, 2) := by decide +kernel
theorem dX9_strongest_35 : decode cX9_strongest 35 = .ok (.iload 5, 2) := by decide +kernel
theorem dX9_strongest_37 : decode cX9_strongest 37 = .ok (.aload_n 0, 1) := by decide +kernel
theorem dX9_strongest_38 : decode cX9_strongest 38 = .ok (.getfield 10, 3) := by decide +kernel
theorem dX9_strongest_41 : decode cX9_strongest 41 = .ok (.getfield 278, 3) := by decide +kernel
theorem dX9_strongest_44 : decode cX9_strongest 44 = .ok (.if_icmp .ge 33, 3) := by decide +kernel
theorem dX9_strongest_47 : decode cX9_strongest 47 = .ok (.aload_n 0, 1) := by decide +kernel
theorem dX9_strongest_48 : decode cX9_strongest 48 = .ok (.iload_n 1, 1) := by decide +kernel
theorem dX9_strongest_49 : decode cX9_strongest 49 = .ok (.iconst 1, 1) := by decide +kernel
theorem dX9_strongest_50 : decode cX9_strongest 50 = .ok (.iload 5, 2) := by decide +kernel
theorem dX9_strongest_52 : decode cX9_strongest 52 = .ok (.ishl, 1) := by decide +kernel
theorem dX9_strongest_53 : decode cX9_strongest 53 = .ok (.invokevirtual 281, 3) := by decide +kernel
theorem dX9_strongest_56 : decode cX9_strongest 56 = .ok (.lstore 6, 2) := by decide +kernel
theorem dX9_strongest_58 : decode cX9_strongest 58 = .ok (.lload 6, 2) := by decide +kernel
theorem dX9_strongest_60 : decode cX9_strongest 60 = .ok (.lload_n 3, 1) := by decide +kernel
theorem dX9_strongest_61 : decode cX9_strongest 61 = .ok (.lcmp, 1) := by decide +kernel
theorem dX9_strongest_62 : decode cX9_strongest 62 = .ok (.ifCond .le 9, 3) := by decide +kernel
theorem dX9_strongest_65 : decode cX9_strongest 65 = .ok (.lload 6, 2) := by decide +kernel
theorem dX9_strongest_67 : decode cX9_strongest 67 = .ok (.lstore_n 3, 1) := by decide +kernel
theorem dX9_strongest_68 : decode cX9_strongest 68 = .ok (.iload 5, 2) := by decide +kernel
theorem dX9_strongest_70 : decode cX9_strongest 70 = .ok (.istore_n 2, 1) := by decide +kernel
theorem dX9_strongest_71 : decode cX9_strongest 71 = .ok (.iinc 5 1, 3) := by decide +kernel
theorem dX9_strongest_74 : decode cX9_strongest 74 = .ok (.goto (-39), 3) := by decide +kernel
theorem dX9_strongest_77 : decode cX9_strongest 77 = .ok (.aload_n 0, 1) := by decide +kernel
theorem dX9_strongest_78 : decode cX9_strongest 78 = .ok (.getfield 53, 3) := by decide +kernel
theorem dX9_strongest_81 : decode cX9_strongest 81 = .ok (.invokevirtual 225, 3) := by decide +kernel
theorem dX9_strongest_84 : decode cX9_strongest 84 = .ok (.aload_n 0, 1) := by decide +kernel
theorem dX9_strongest_85 : decode cX9_strongest 85 = .ok (.getfield 53, 3) := by decide +kernel
theorem dX9_strongest_88 : decode cX9_strongest 88 = .ok (.lload_n 3, 1) := by decide +kernel
theorem dX9_strongest_89 : decode cX9_strongest 89 = .ok (.invokevirtual 232, 3) := by decide +kernel
theorem dX9_strongest_92 : decode cX9_strongest 92 = .ok (.aload_n 0, 1) := by decide +kernel
theorem dX9_strongest_93 : decode cX9_strongest 93 = .ok (.getfield 53, 3) := by decide +kernel
theorem dX9_strongest_96 : decode cX9_strongest 96 = .ok (.aload_n 0, 1) := by decide +kernel
theorem dX9_strongest_97 : decode cX9_strongest 97 = .ok (.iload_n 1, 1) := by decide +kernel
theorem dX9_strongest_98 : decode cX9_strongest 98 = .ok (.iconst (-1), 1) := by decide +kernel
theorem dX9_strongest_99 : decode cX9_strongest 99 = .ok (.invokevirtual 281, 3) := by decide +kernel
theorem dX9_strongest_102 : decode cX9_strongest 102 = .ok (.invokevirtual 232, 3) := by decide +kernel
theorem dX9_strongest_105 : decode cX9_strongest 105 = .ok (.iload_n 2, 1) := by decide +kernel
theorem dX9_strongest_106 : decode cX9_strongest 106 = .ok (.ireturn, 1) := by decide +kernel
set_option maxHeartbeats 4000000 in
set_option maxRecDepth 100000 in
theorem c_MicRow_strongest (l : Launch) (G : fm_G) (N : Nat) (M : fm_M) (v1 : Int32) (r : Int32) (M' : fm_M) (hf : pMicRow_strongest N M v1 = some (r, M')) : fm_Met l yX9_strongest cX9_strongest 8 (some .int) { frames := 6, cells := 0, slots := 0, locals := 142 } shC G [.ref (G.2.1 0), .int v1] M (some (.int r)) M' := by
  refine fm_enter (by decide) (Nat.le_of_ble_eq_true rfl) ?_
  intro p e s m args below meth c ls C E hl
  have hl : lv_has ls 8 [(0, .ref (G.2.1 0)), (1, .int v1)] := hl
  have L35 : ∀ (w35_v1 : Int32) (n35 : Nat) (v2 : Int32) (v3 : Int64) (v5 : Int32) (M : fm_M) (H : Heap) (locs : List Loc) (ls : Array Slot), fm_Wd shC G M s H locs → lv_has ls 8 [(0, .ref (G.2.1 0)), (1, .int w35_v1), (2, .int v2), (3, .long v3), (5, .int v5)] → fm_lp (pMicRow_strongest_L35 N w35_v1) n35 (v2, v3, v5, M) = some (r, M') → W p l e { frames := 6, cells := 0, slots := 0, locals := 142 } s m args below meth c H locs 0 0 (fm_Z below shC G args s (some (.int r)) M') (F0 m 35 ls []) := by
    intro w35_v1 n35
    induction n35 with
    | zero => intro v2 v3 v5 M H locs ls E hl hf; exact fm_lp_0 hf
    | succ n35 ih35 =>
      intro v2 v3 v5 M H locs ls E hl hf
      have hf : pMicRow_strongest_L35b N w35_v1 (fm_lp (pMicRow_strongest_L35 N w35_v1) n35) v2 v3 v5 M = some (r, M') := hf
      unfold pMicRow_strongest_L35b at hf
      refine lv_iload C.1 C.2.1 dX9_strongest_35 (lv_at hl 4 rfl) ?_
      refine lv_aload_n C.1 C.2.1 dX9_strongest_37 rfl (lv_at hl 0 rfl) ?_
      refine fm_getr C E lf_X9_10 hC_0 rfl dX9_strongest_38 ?_
      refine fm_geti C E lf_X9_278 hC_1 rfl dX9_strongest_41 ?_
      refine lv_icmp_ge (tgt := 77) C.1 C.2.1 dX9_strongest_44 (by decide) (fun hc44 => ?_) (fun hc44 => ?_)
      · have hf := fm_ip hf hc44
        refine lv_aload_n C.1 C.2.1 dX9_strongest_77 rfl (lv_at hl 0 rfl) ?_
        refine fm_getr C E lf_X9_53 hC_0 rfl dX9_strongest_78 ?_
        obtain ⟨M81, hc81, hf⟩ := fm_bd hf
        refine fm_callV C E [] [] lm_X9_225 wk_X8_clear (c_Told_clear l G _ _ hc81) hC_176 rfl rfl rfl hl.1 (by simp [Value.category]) ⟨⟨rfl, rfl⟩, by decide, by decide⟩ ⟨by decide, by decide⟩ dX9_strongest_81 rfl (fun H locs E => ?_)
        refine W.eq (g2 := F0 m 84 ls []) rfl ?_
        refine lv_aload_n C.1 C.2.1 dX9_strongest_84 rfl (lv_at hl 0 rfl) ?_
        refine fm_getr C E lf_X9_53 hC_0 rfl dX9_strongest_85 ?_
        refine lv_lload_n C.1 C.2.1 dX9_strongest_88 rfl (lv_at hl 3 rfl) ?_
        obtain ⟨M89, hc89, hf⟩ := fm_bd hf
        refine fm_callV C E [.long _] [] lm_X9_232 wk_X8_add (c_Told_add l G _ _ _ hc89) hC_176 rfl rfl rfl hl.1 (by simp [Value.category]) ⟨⟨rfl, rfl⟩, by decide, by decide⟩ ⟨by decide, by decide⟩ dX9_strongest_89 rfl (fun H locs E => ?_)
        refine W.eq (g2 := F0 m 92 ls []) rfl ?_
        refine lv_aload_n C.1 C.2.1 dX9_strongest_92 rfl (lv_at hl 0 rfl) ?_
        refine fm_getr C E lf_X9_53 hC_0 rfl dX9_strongest_93 ?_
        refine lv_aload_n C.1 C.2.1 dX9_strongest_96 rfl (lv_at hl 0 rfl) ?_
        refine lv_iload_n C.1 C.2.1 dX9_strongest_97 rfl (lv_at hl 1 rfl) ?_
        refine lv_iconst (v := (-1)) C.1 C.2.1 dX9_strongest_98 (by decide) ?_
        obtain ⟨⟨x99, M99⟩, hc99, hf⟩ := fm_bd hf
        dsimp only at hf
        refine fm_callV C E [.int _, .int _] [.ref _] lm_X9_281 wk_X9_heardPower (c_MicRow_heardPower l G N _ _ _ _ _ hc99) hC_0 rfl rfl rfl hl.1 (by simp [Value.category]) ⟨⟨rfl, rfl⟩, by decide, by decide⟩ ⟨by decide, by decide⟩ dX9_strongest_99 rfl (fun H locs E => ?_)
        refine W.eq (g2 := F0 m 102 ls (.long x99 :: [.ref _])) rfl ?_
        obtain ⟨M102, hc102, hf⟩ := fm_bd hf
        refine fm_callV C E [.long _] [] lm_X9_232 wk_X8_add (c_Told_add l G _ _ _ hc102) hC_176 rfl rfl rfl hl.1 (by simp [Value.category]) ⟨⟨rfl, rfl⟩, by decide, by decide⟩ ⟨by decide, by decide⟩ dX9_strongest_102 rfl (fun H locs E => ?_)
        refine W.eq (g2 := F0 m 105 ls []) rfl ?_
        refine lv_iload_n C.1 C.2.1 dX9_strongest_105 rfl (lv_at hl 2 rfl) ?_
        obtain ⟨rfl, rfl⟩ := fm_rt2 hf
        exact fm_iret C E rfl rfl dX9_strongest_106
      · have hf := fm_in' hf hc44
        refine lv_aload_n C.1 C.2.1 dX9_strongest_47 rfl (lv_at hl 0 rfl) ?_
        refine lv_iload_n C.1 C.2.1 dX9_strongest_48 rfl (lv_at hl 1 rfl) ?_
        refine lv_iconst (v := 1) C.1 C.2.1 dX9_strongest_49 (by decide) ?_
        refine lv_iload C.1 C.2.1 dX9_strongest_50 (lv_at hl 4 rfl) ?_
        refine lv_ishl C.1 C.2.1 dX9_strongest_52 ?_
        obtain ⟨⟨x53, M53⟩, hc53, hf⟩ := fm_bd hf
        dsimp only at hf
        refine fm_callV C E [.int _, .int _] [] lm_X9_281 wk_X9_heardPower (c_MicRow_heardPower l G N _ _ _ _ _ hc53) hC_0 rfl rfl rfl hl.1 (by simp [Value.category]) ⟨⟨rfl, rfl⟩, by decide, by decide⟩ ⟨by decide, by decide⟩ dX9_strongest_53 rfl (fun H locs E => ?_)
        refine W.eq (g2 := F0 m 56 ls (.long x53 :: [])) rfl ?_
        refine lv_lstore (lv' := [(6, .long _), (0, .ref _), (1, .int _), (2, .int _), (3, .long _), (5, .int _)]) C.1 C.2.1 dX9_strongest_56 hl (by decide) rfl (fun ls hl => ?_)
        refine lv_lload C.1 C.2.1 dX9_strongest_58 (lv_at hl 0 rfl) ?_
        refine lv_lload_n C.1 C.2.1 dX9_strongest_60 rfl (lv_at hl 4 rfl) ?_
        refine W.lcmp C.1 C.2.1 dX9_strongest_61 ?_
        refine lv_if_le (tgt := 71) C.1 C.2.1 dX9_strongest_62 (by decide) (fun hc62 => ?_) (fun hc62 => ?_)
        · have hf := fm_ip hf hc62
          refine fm_iinc C (v := 1) (lv' := [(5, .int _), (6, .long _), (0, .ref _), (1, .int _), (2, .int _), (3, .long _)]) (k := 5) hl rfl (by decide) (by decide) rfl dX9_strongest_71 (fun ls hl => ?_)
          refine lv_goto (tgt := 35) C.1 C.2.1 dX9_strongest_74 (by decide) ?_
          exact ih35 _ _ _ _ _ _ _ E (lv_sub hl [2, 3, 4, 5, 0] rfl) hf
        · have hf := fm_in' hf hc62
          refine lv_lload C.1 C.2.1 dX9_strongest_65 (lv_at hl 0 rfl) ?_
          refine lv_lstore_n (lv' := [(3, .long _), (6, .long _), (0, .ref _), (1, .int _), (2, .int _), (5, .int _)]) C.1 C.2.1 dX9_strongest_67 rfl hl (by decide) rfl (fun ls hl => ?_)
          refine lv_iload C.1 C.2.1 dX9_strongest_68 (lv_at hl 5 rfl) ?_
          refine lv_istore_n (lv' := [(2, .int _), (3, .long _), (6, .long _), (0, .ref _), (1, .int _), (5, .int _)]) C.1 C.2.1 dX9_strongest_70 rfl hl (by decide) rfl (fun ls hl => ?_)
          refine fm_iinc C (v := 1) (lv' := [(5, .int _), (2, .int _), (3, .long _), (6, .long _), (0, .ref _), (1, .int _)]) (k := 5) hl rfl (by decide) (by decide) rfl dX9_strongest_71 (fun ls hl => ?_)
          refine lv_goto (tgt := 35) C.1 C.2.1 dX9_strongest_74 (by decide) ?_
          exact ih35 _ _ _ _ _ _ _ E (lv_sub hl [4, 5, 1, 2, 0] rfl) hf
  unfold pMicRow_strongest at hf
  refine lv_aload_n C.1 C.2.1 dX9_strongest_0 rfl (lv_at hl 0 rfl) ?_
  refine fm_getr C E lf_X9_10 hC_0 rfl dX9_strongest_1 ?_
  refine lv_iload_n C.1 C.2.1 dX9_strongest_4 rfl (lv_at hl 1 rfl) ?_
  obtain ⟨x5, hc5, hf⟩ := fm_bd hf
  refine fm_callV C E [.int _] [] lm_X9_116 wk_X7_hasMic (c_Scene_hasMic l G _ _ _  hc5) hC_1 rfl rfl rfl hl.1 (by simp [Value.category]) ⟨⟨rfl, rfl⟩, by decide, by decide⟩ ⟨by decide, by decide⟩ dX9_strongest_5 rfl (fun H locs E => ?_)
  refine W.eq (g2 := F0 m 8 ls (.int x5 :: [])) rfl ?_
  refine lv_if_ne (tgt := 13) C.1 C.2.1 dX9_strongest_8 (by decide) (fun hc8 => ?_) (fun hc8 => ?_)
  · have hf := fm_in' hf hc8
    refine lv_aload_n C.1 C.2.1 dX9_strongest_13 rfl (lv_at hl 0 rfl) ?_
    refine fm_getr C E lf_X9_10 hC_0 rfl dX9_strongest_14 ?_
    refine fm_geti C E lf_X9_278 hC_1 rfl dX9_strongest_17 ?_
    refine lv_if_ne (tgt := 26) C.1 C.2.1 dX9_strongest_20 (by decide) (fun hc20 => ?_) (fun hc20 => ?_)
    · have hf := fm_in' hf hc20
      refine lv_iconst (v := 0) C.1 C.2.1 dX9_strongest_26 (by decide) ?_
      refine lv_istore_n (lv' := [(2, .int _), (0, .ref _), (1, .int _)]) C.1 C.2.1 dX9_strongest_27 rfl hl (by decide) rfl (fun ls hl => ?_)
      refine lv_ldc2 C.1 C.2.1 C.2.2.2.1 (C.2.2.2.2.1 _ wc_610) dX9_strongest_28 ?_
      refine lv_lstore_n (lv' := [(3, .long _), (2, .int _), (0, .ref _), (1, .int _)]) C.1 C.2.1 dX9_strongest_31 rfl hl (by decide) rfl (fun ls hl => ?_)
      refine lv_iconst (v := 0) C.1 C.2.1 dX9_strongest_32 (by decide) ?_
      refine lv_istore (lv' := [(5, .int _), (3, .long _), (2, .int _), (0, .ref _), (1, .int _)]) C.1 C.2.1 dX9_strongest_33 hl (by decide) rfl (fun ls hl => ?_)
      exact L35 _ N _ _ _ _ _ _ _ E (lv_sub hl [3, 4, 2, 1, 0] rfl) hf
    · have hf := fm_ip hf hc20
      refine lv_bipush (v := (-2)) C.1 C.2.1 dX9_strongest_23 (by decide) ?_
      obtain ⟨rfl, rfl⟩ := fm_rt2 hf
      exact fm_iret C E rfl rfl dX9_strongest_25
  · have hf := fm_ip hf hc8
    refine lv_iconst (v := (-1)) C.1 C.2.1 dX9_strongest_11 (by decide) ?_
    obtain ⟨rfl, rfl⟩ := fm_rt2 hf
    exact fm_iret C E rfl rfl dX9_strongest_12
theorem dX9_without_0 : decode cX9_without 0 = .ok (.aload_n 0, 1) := by decide +kernel
theorem dX9_without_1 : decode cX9_without 1 = .ok (.getfield 10, 3) := by decide +kernel
theorem dX9_without_4 : decode cX9_without 4 = .ok (.iload_n 1, 1) := by decide +kernel
theorem dX9_without_5 : decode cX9_without 5 = .ok (.invokevirtual 297, 3) := by decide +kernel
theorem dX9_without_8 : decode cX9_without 8 = .ok (.ifCond .eq 10, 3) := by decide +kernel
theorem dX9_without_11 : decode cX9_without 11 = .ok (.iload_n 2, 1) := by decide +kernel
theorem dX9_without_12 : decode cX9_without 12 = .ok (.invokestatic 157, 3) := by decide +kernel
theorem dX9_without_15 : decode cX9_without 15 = .ok (.ifCond .ne 5, 3) := by decide +kernel
theorem dX9_without_18 : decode cX9_without 18 = .ok (.iconst (-1), 1) := by decide +kernel
theorem dX9_without_19 : decode cX9_without 19 = .ok (.ireturn, 1) := by decide +kernel
theorem dX9_without_20 : decode cX9_without 20 = .ok (.aload_n 0, 1) := by decide +kernel
theorem dX9_without_21 : decode cX9_without 21 = .ok (.getfield 10, 3) := by decide +kernel
theorem dX9_without_24 : decode cX9_without 24 = .ok (.invokevirtual 266, 3) := by decide +kernel
theorem dX9_without_27 : decode cX9_without 27 = .ok (.iconst 1, 1) := by decide +kernel
theorem dX9_without_28 : decode cX9_without 28 = .ok (.if_icmp .ne 6, 3) := by decide +kernel
theorem dX9_without_31 : decode cX9_without 31 = .ok (.bipush (-2), 2) := by decide +kernel
theorem dX9_without_33 : decode cX9_without 33 = .ok (.ireturn, 1) := by decide +kernel
theorem dX9_without_34 : decode cX9_without 34 = .ok (.aload_n 0, 1) := by decide +kernel
theorem dX9_without_35 : decode cX9_without 35 = .ok (.getfield 62, 3) := by decide +kernel
theorem dX9_without_38 : decode cX9_without 38 = .ok (.iconst (-1), 1) := by decide +kernel
theorem dX9_without_39 : decode cX9_without 39 = .ok (.invokevirtual 150, 3) := by decide +kernel
theorem dX9_without_42 : decode cX9_without 42 = .ok (.aload_n 0, 1) := by decide +kernel
theorem dX9_without_43 : decode cX9_without 43 = .ok (.iload_n 2, 1) := by decide +kernel
theorem dX9_without_44 : decode cX9_without 44 = .ok (.invokevirtual 256, 3) := by decide +kernel
theorem dX9_without_47 : decode cX9_without 47 = .ok (.aload_n 0, 1) := by decide +kernel
theorem dX9_without_48 : decode cX9_without 48 = .ok (.aload_n 0, 1) := by decide +kernel
theorem dX9_without_49 : decode cX9_without 49 = .ok (.getfield 10, 3) := by decide +kernel
theorem dX9_without_52 : decode cX9_without 52 = .ok (.invokevirtual 171, 3) := by decide +kernel
theorem dX9_without_55 : decode cX9_without 55 = .ok (.invokevirtual 300, 3) := by decide +kernel
theorem dX9_without_58 : decode cX9_without 58 = .ok (.lstore_n 3, 1) := by decide +kernel
theorem dX9_without_59 : decode cX9_without 59 = .ok (.aload_n 0, 1) := by decide +kernel
theorem dX9_without_60 : decode cX9_without 60 = .ok (.getfield 53, 3) := by decide +kernel
theorem dX9_without_63 : decode cX9_without 63 = .ok (.invokevirtual 225, 3) := by decide +kernel
theorem dX9_without_66 : decode cX9_without 66 = .ok (.aload_n 0, 1) := by decide +kernel
theorem dX9_without_67 : decode cX9_without 67 = .ok (.getfield 53, 3) := by decide +kernel
theorem dX9_without_70 : decode cX9_without 70 = .ok (.lload_n 3, 1) := by decide +kernel
theorem dX9_without_71 : decode cX9_without 71 = .ok (.invokevirtual 232, 3) := by decide +kernel
theorem dX9_without_74 : decode cX9_without 74 = .ok (.aload_n 0, 1) := by decide +kernel
theorem dX9_without_75 : decode cX9_without 75 = .ok (.aload_n 0, 1) := by decide +kernel
theorem dX9_without_76 : decode cX9_without 76 = .ok (.getfield 10, 3) := by decide +kernel
theorem dX9_without_79 : decode cX9_without 79 = .ok (.invokevirtual 171, 3) := by decide +kernel
theorem dX9_without_82 : decode cX9_without 82 = .ok (.iconst 1, 1) := by decide +kernel
theorem dX9_without_83 : decode cX9_without 83 = .ok (.iload_n 1, 1) := by decide +kernel
theorem dX9_without_84 : decode cX9_without 84 = .ok (.ishl, 1) := by decide +kernel
theorem dX9_without_85 : decode cX9_without 85 = .ok (.iconst (-1), 1) := by decide +kernel
theorem dX9_without_86 : decode cX9_without 86 = .ok (.ixor, 1) := by decide +kernel
theorem dX9_without_87 : decode cX9_without 87 = .ok (.iand, 1) := by decide +kernel
theorem dX9_without_88 : decode cX9_without 88 = .ok (.invokevirtual 300, 3) := by decide +kernel
theorem dX9_without_91 : decode cX9_without 91 = .ok (.l2i, 1) := by decide +kernel
theorem dX9_without_92 : decode cX9_without 92 = .ok (.ireturn, 1) := by decide +kernel
set_option maxHeartbeats 4000000 in
set_option maxRecDepth 100000 in
theorem c_MicRow_without (l : Launch) (G : fm_G) (N : Nat) (M : fm_M) (v1 : Int32) (v2 : Int32) (r : Int32) (M' : fm_M) (hf : pMicRow_without N M v1 v2 = some (r, M')) : fm_Met l yX9_without cX9_without 5 (some .int) { frames := 6, cells := 0, slots := 0, locals := 147 } shC G [.ref (G.2.1 0), .int v1, .int v2] M (some (.int r)) M' := by
  refine fm_enter (by decide) (Nat.le_of_ble_eq_true rfl) ?_
  intro p e s m args below meth c ls C E hl
  have hl : lv_has ls 5 [(0, .ref (G.2.1 0)), (1, .int v1), (2, .int v2)] := hl
  unfold pMicRow_without at hf
  refine lv_aload_n C.1 C.2.1 dX9_without_0 rfl (lv_at hl 0 rfl) ?_
  refine fm_getr C E lf_X9_10 hC_0 rfl dX9_without_1 ?_
  refine lv_iload_n C.1 C.2.1 dX9_without_4 rfl (lv_at hl 1 rfl) ?_
  obtain ⟨x5, hc5, hf⟩ := fm_bd hf
  refine fm_callV C E [.int _] [] lm_X9_297 wk_X7_isLive (c_Scene_isLive l G _ _ _  hc5) hC_1 rfl rfl rfl hl.1 (by simp [Value.category]) ⟨⟨rfl, rfl⟩, by decide, by decide⟩ ⟨by decide, by decide⟩ dX9_without_5 rfl (fun H locs E => ?_)
  refine W.eq (g2 := F0 m 8 ls (.int x5 :: [])) rfl ?_
  refine lv_if_eq (tgt := 18) C.1 C.2.1 dX9_without_8 (by decide) (fun hc8 => ?_) (fun hc8 => ?_)
  · have hf := fm_ip hf hc8
    refine lv_iconst (v := (-1)) C.1 C.2.1 dX9_without_18 (by decide) ?_
    obtain ⟨rfl, rfl⟩ := fm_rt2 hf
    exact fm_iret C E rfl rfl dX9_without_19
  · have hf := fm_in' hf hc8
    refine lv_iload_n C.1 C.2.1 dX9_without_11 rfl (lv_at hl 2 rfl) ?_
    obtain ⟨x12, hc12, hf⟩ := fm_bd hf
    refine fm_callS C E [.int _] [] lm_X9_157 wk_X9_isDirection (c_MicRow_isDirection l G _ _ _  hc12) rfl hl.1 (by simp [Value.category]) ⟨⟨rfl, rfl⟩, by decide, by decide⟩ ⟨by decide, by decide⟩ dX9_without_12 rfl (fun H locs E => ?_)
    refine W.eq (g2 := F0 m 15 ls (.int x12 :: [])) rfl ?_
    refine lv_if_ne (tgt := 20) C.1 C.2.1 dX9_without_15 (by decide) (fun hc15 => ?_) (fun hc15 => ?_)
    · have hf := fm_in' hf hc15
      refine lv_aload_n C.1 C.2.1 dX9_without_20 rfl (lv_at hl 0 rfl) ?_
      refine fm_getr C E lf_X9_10 hC_0 rfl dX9_without_21 ?_
      obtain ⟨x24, hc24, hf⟩ := fm_bd hf
      refine fm_callV C E [] [] lm_X9_266 wk_X7_liveCount (c_Scene_liveCount l G N _ _  hc24) hC_1 rfl rfl rfl hl.1 (by simp [Value.category]) ⟨⟨rfl, rfl⟩, by decide, by decide⟩ ⟨by decide, by decide⟩ dX9_without_24 rfl (fun H locs E => ?_)
      refine W.eq (g2 := F0 m 27 ls (.int x24 :: [])) rfl ?_
      refine lv_iconst (v := 1) C.1 C.2.1 dX9_without_27 (by decide) ?_
      refine lv_icmp_ne (tgt := 34) C.1 C.2.1 dX9_without_28 (by decide) (fun hc28 => ?_) (fun hc28 => ?_)
      · have hf := fm_in' hf hc28
        refine lv_aload_n C.1 C.2.1 dX9_without_34 rfl (lv_at hl 0 rfl) ?_
        refine fm_getr C E lf_X9_62 hC_0 rfl dX9_without_35 ?_
        refine lv_iconst (v := (-1)) C.1 C.2.1 dX9_without_38 (by decide) ?_
        obtain ⟨M39, hc39, hf⟩ := fm_bd hf
        refine fm_callV C E [.int _] [] lm_X9_150 wk_X3_listenTo (c_Ears_listenTo l G _ _ _ hc39) hC_178 rfl rfl rfl hl.1 (by simp [Value.category]) ⟨⟨rfl, rfl⟩, by decide, by decide⟩ ⟨by decide, by decide⟩ dX9_without_39 rfl (fun H locs E => ?_)
        refine W.eq (g2 := F0 m 42 ls []) rfl ?_
        refine lv_aload_n C.1 C.2.1 dX9_without_42 rfl (lv_at hl 0 rfl) ?_
        refine lv_iload_n C.1 C.2.1 dX9_without_43 rfl (lv_at hl 2 rfl) ?_
        obtain ⟨M44, hc44, hf⟩ := fm_bd hf
        refine fm_callV C E [.int _] [] lm_X9_256 wk_X9_turnOverSpan (c_MicRow_turnOverSpan l G N _ _ _ hc44) hC_0 rfl rfl rfl hl.1 (by simp [Value.category]) ⟨⟨rfl, rfl⟩, by decide, by decide⟩ ⟨by decide, by decide⟩ dX9_without_44 rfl (fun H locs E => ?_)
        refine W.eq (g2 := F0 m 47 ls []) rfl ?_
        refine lv_aload_n C.1 C.2.1 dX9_without_47 rfl (lv_at hl 0 rfl) ?_
        refine lv_aload_n C.1 C.2.1 dX9_without_48 rfl (lv_at hl 0 rfl) ?_
        refine fm_getr C E lf_X9_10 hC_0 rfl dX9_without_49 ?_
        obtain ⟨x52, hc52, hf⟩ := fm_bd hf
        refine fm_callV C E [] [.ref _] lm_X9_171 wk_X7_liveSet (c_Scene_liveSet l G N _ _  hc52) hC_1 rfl rfl rfl hl.1 (by simp [Value.category]) ⟨⟨rfl, rfl⟩, by decide, by decide⟩ ⟨by decide, by decide⟩ dX9_without_52 rfl (fun H locs E => ?_)
        refine W.eq (g2 := F0 m 55 ls (.int x52 :: [.ref _])) rfl ?_
        obtain ⟨⟨x55, M55⟩, hc55, hf⟩ := fm_bd hf
        dsimp only at hf
        refine fm_callV C E [.int _] [] lm_X9_300 wk_X9_mixedPower (c_MicRow_mixedPower l G N _ _ _ _ hc55) hC_0 rfl rfl rfl hl.1 (by simp [Value.category]) ⟨⟨rfl, rfl⟩, by decide, by decide⟩ ⟨by decide, by decide⟩ dX9_without_55 rfl (fun H locs E => ?_)
        refine W.eq (g2 := F0 m 58 ls (.long x55 :: [])) rfl ?_
        refine lv_lstore_n (lv' := [(3, .long _), (0, .ref _), (1, .int _), (2, .int _)]) C.1 C.2.1 dX9_without_58 rfl hl (by decide) rfl (fun ls hl => ?_)
        refine lv_aload_n C.1 C.2.1 dX9_without_59 rfl (lv_at hl 1 rfl) ?_
        refine fm_getr C E lf_X9_53 hC_0 rfl dX9_without_60 ?_
        obtain ⟨M63, hc63, hf⟩ := fm_bd hf
        refine fm_callV C E [] [] lm_X9_225 wk_X8_clear (c_Told_clear l G _ _ hc63) hC_176 rfl rfl rfl hl.1 (by simp [Value.category]) ⟨⟨rfl, rfl⟩, by decide, by decide⟩ ⟨by decide, by decide⟩ dX9_without_63 rfl (fun H locs E => ?_)
        refine W.eq (g2 := F0 m 66 ls []) rfl ?_
        refine lv_aload_n C.1 C.2.1 dX9_without_66 rfl (lv_at hl 1 rfl) ?_
        refine fm_getr C E lf_X9_53 hC_0 rfl dX9_without_67 ?_
        refine lv_lload_n C.1 C.2.1 dX9_without_70 rfl (lv_at hl 0 rfl) ?_
        obtain ⟨M71, hc71, hf⟩ := fm_bd hf
        refine fm_callV C E [.long _] [] lm_X9_232 wk_X8_add (c_Told_add l G _ _ _ hc71) hC_176 rfl rfl rfl hl.1 (by simp [Value.category]) ⟨⟨rfl, rfl⟩, by decide, by decide⟩ ⟨by decide, by decide⟩ dX9_without_71 rfl (fun H locs E => ?_)
        refine W.eq (g2 := F0 m 74 ls []) rfl ?_
        refine lv_aload_n C.1 C.2.1 dX9_without_74 rfl (lv_at hl 1 rfl) ?_
        refine lv_aload_n C.1 C.2.1 dX9_without_75 rfl (lv_at hl 1 rfl) ?_
        refine fm_getr C E lf_X9_10 hC_0 rfl dX9_without_76 ?_
        obtain ⟨x79, hc79, hf⟩ := fm_bd hf
        refine fm_callV C E [] [.ref _] lm_X9_171 wk_X7_liveSet (c_Scene_liveSet l G N _ _  hc79) hC_1 rfl rfl rfl hl.1 (by simp [Value.category]) ⟨⟨rfl, rfl⟩, by decide, by decide⟩ ⟨by decide, by decide⟩ dX9_without_79 rfl (fun H locs E => ?_)
        refine W.eq (g2 := F0 m 82 ls (.int x79 :: [.ref _])) rfl ?_
        refine lv_iconst (v := 1) C.1 C.2.1 dX9_without_82 (by decide) ?_
        refine lv_iload_n C.1 C.2.1 dX9_without_83 rfl (lv_at hl 2 rfl) ?_
        refine lv_ishl C.1 C.2.1 dX9_without_84 ?_
        refine lv_iconst (v := (-1)) C.1 C.2.1 dX9_without_85 (by decide) ?_
        refine lv_ixor C.1 C.2.1 dX9_without_86 ?_
        refine lv_iand C.1 C.2.1 dX9_without_87 ?_
        obtain ⟨⟨x88, M88⟩, hc88, hf⟩ := fm_bd hf
        dsimp only at hf
        refine fm_callV C E [.int _] [] lm_X9_300 wk_X9_mixedPower (c_MicRow_mixedPower l G N _ _ _ _ hc88) hC_0 rfl rfl rfl hl.1 (by simp [Value.category]) ⟨⟨rfl, rfl⟩, by decide, by decide⟩ ⟨by decide, by decide⟩ dX9_without_88 rfl (fun H locs E => ?_)
        refine W.eq (g2 := F0 m 91 ls (.long x88 :: [])) rfl ?_
        refine lv_l2i C.1 C.2.1 dX9_without_91 rfl ?_
        obtain ⟨rfl, rfl⟩ := fm_rt2 hf
        exact fm_iret C E rfl rfl dX9_without_92
      · have hf := fm_ip hf hc28
        refine lv_bipush (v := (-2)) C.1 C.2.1 dX9_without_31 (by decide) ?_
        obtain ⟨rfl, rfl⟩ := fm_rt2 hf
        exact fm_iret C E rfl rfl dX9_without_33
    · have hf := fm_ip hf hc15
      refine lv_iconst (v := (-1)) C.1 C.2.1 dX9_without_18 (by decide) ?_
      obtain ⟨rfl, rfl⟩ := fm_rt2 hf
      exact fm_iret C E rfl rfl dX9_without_19
theorem dX9_worst_0 : decode cX9_worst 0 = .ok (.iload_n 1, 1) := by decide +kernel
theorem dX9_worst_1 : decode cX9_worst 1 = .ok (.invokestatic 157, 3) := by decide +kernel
theorem dX9_worst_4 : decode cX9_worst 4 = .ok (.ifCond .ne 5, 3) := by decide +kernel
theorem dX9_worst_7 : decode cX9_worst 7 = .ok (.iconst (-1), 1) := by decide +kernel
theorem dX9_worst_8 : decode cX9_worst 8 = .ok (.ireturn, 1) := by decide +kernel
theorem dX9_worst_9 : decode cX9_worst 9 = .ok (.aload_n 0, 1) := by decide +kernel
theorem dX9_worst_10 : decode cX9_worst 10 = .ok (.getfield 10, 3) := by decide +kernel
theorem dX9_worst_13 : decode cX9_worst 13 = .ok (.invokevirtual 266, 3) := by decide +kernel
theorem dX9_worst_16 : decode cX9_worst 16 = .ok (.iconst 2, 1) := by decide +kernel
theorem dX9_worst_17 : decode cX9_worst 17 = .ok (.if_icmp .ge 6, 3) := by decide +kernel
theorem dX9_worst_20 : decode cX9_worst 20 = .ok (.bipush (-2), 2) := by decide +kernel
theorem dX9_worst_22 : decode cX9_worst 22 = .ok (.ireturn, 1) := by decide +kernel
theorem dX9_worst_23 : decode cX9_worst 23 = .ok (.aload_n 0, 1) := by decide +kernel
theorem dX9_worst_24 : decode cX9_worst 24 = .ok (.getfield 62, 3) := by decide +kernel
theorem dX9_worst_27 : decode cX9_worst 27 = .ok (.iconst (-1), 1) := by decide +kernel
theorem dX9_worst_28 : decode cX9_worst 28 = .ok (.invokevirtual 150, 3) := by decide +kernel
theorem dX9_worst_31 : decode cX9_worst 31 = .ok (.iconst (-1), 1) := by decide +kernel
theorem dX9_worst_32 : decode cX9_worst 32 = .ok (.istore_n 2, 1) := by decide +kernel
theorem dX9_worst_33 : decode cX9_worst 33 = .ok (.lconst 0, 1) := by decide +kernel
theorem dX9_worst_34 : decode cX9_worst 34 = .ok (.lstore_n 3, 1) := by decide +kernel
theorem dX9_worst_35 : decode cX9_worst 35 = .ok (.iconst 0, 1) := by decide +kernel
theorem dX9_worst_36 : decode cX9_worst 36 = .ok (.istore 5, 2) := by decide +kernel
theorem dX9_worst_38 : decode cX9_worst 38 = .ok (.iload 5, 2) := by decide +kernel
theorem dX9_worst_40 : decode cX9_worst 40 = .ok (.aload_n 0, 1) := by decide +kernel
theorem dX9_worst_41 : decode cX9_worst 41 = .ok (.getfield 10, 3) := by decide +kernel
theorem dX9_worst_44 : decode cX9_worst 44 = .ok (.getfield 284, 3) := by decide +kernel
theorem dX9_worst_47 : decode cX9_worst 47 = .ok (.if_icmp .ge 63, 3) := by decide +kernel
theorem dX9_worst_50 : decode cX9_worst 50 = .ok (.aload_n 0, 1) := by decide +kernel
theorem dX9_worst_51 : decode cX9_worst 51 = .ok (.getfield 10, 3) := by decide +kernel
theorem dX9_worst_54 : decode cX9_worst 54 = .ok (.iload 5, 2) := by decide +kernel
theorem dX9_worst_56 : decode cX9_worst 56 = .ok (.invokevirtual 297, 3) := by decide +kernel
theorem dX9_worst_59 : decode cX9_worst 59 = .ok (.ifCond .ne 6, 3) := by decide +kernel
theorem dX9_worst_62 : decode cX9_worst 62 = .ok (.goto 42, 3) := by decide +kernel
theorem dX9_worst_65 : decode cX9_worst 65 = .ok (.aload_n 0, 1) := by decide +kernel
theorem dX9_worst_66 : decode cX9_worst 66 = .ok (.iload_n 1, 1) := by decide +kernel
theorem dX9_worst_67 : decode cX9_worst 67 = .ok (.aload_n 0, 1) := by decide +kernel
theorem dX9_worst_68 : decode cX9_worst 68 = .ok (.getfield 10, 3) := by decide +kernel
theorem dX9_worst_71 : decode cX9_worst 71 = .ok (.invokevirtual 171, 3) := by decide +kernel
theorem dX9_worst_74 : decode cX9_worst 74 = .ok (.iconst 1, 1) := by decide +kernel
theorem dX9_worst_75 : decode cX9_worst 75 = .ok (.iload 5, 2) := by decide +kernel
theorem dX9_worst_77 : decode cX9_worst 77 = .ok (.ishl, 1) := by decide +kernel
theorem dX9_worst_78 : decode cX9_worst 78 = .ok (.iconst (-1), 1) := by decide +kernel
theorem dX9_worst_79 : decode cX9_worst 79 = .ok (.ixor, 1) := by decide +kernel
theorem dX9_worst_80 : decode cX9_worst 80 = .ok (.iand, 1) := by decide +kernel
theorem dX9_worst_81 : decode cX9_worst 81 = .ok (.invokevirtual 252, 3) := by decide +kernel
theorem dX9_worst_84 : decode cX9_worst 84 = .ok (.lstore 6, 2) := by decide +kernel
theorem dX9_worst_86 : decode cX9_worst 86 = .ok (.iload_n 2, 1) := by decide +kernel
theorem dX9_worst_87 : decode cX9_worst 87 = .ok (.iconst (-1), 1) := by decide +kernel
theorem dX9_worst_88 : decode cX9_worst 88 = .ok (.if_icmp .eq 10, 3) := by decide +kernel
theorem dX9_worst_91 : decode cX9_worst 91 = .ok (.lload 6, 2) := by decide +kernel
theorem dX9_worst_93 : decode cX9_worst 93 = .ok (.lload_n 3, 1) := by decide +kernel
theorem dX9_worst_94 : decode cX9_worst 94 = .ok (.lcmp, 1) := by decide +kernel
theorem dX9_worst_95 : decode cX9_worst 95 = .ok (.ifCond .ge 9, 3) := by decide +kernel
theorem dX9_worst_98 : decode cX9_worst 98 = .ok (.lload 6, 2) := by decide +kernel
theorem dX9_worst_100 : decode cX9_worst 100 = .ok (.lstore_n 3, 1) := by decide +kernel
theorem dX9_worst_101 : decode cX9_worst 101 = .ok (.iload 5, 2) := by decide +kernel
theorem dX9_worst_103 : decode cX9_worst 103 = .ok (.istore_n 2, 1) := by decide +kernel
theorem dX9_worst_104 : decode cX9_worst 104 = .ok (.iinc 5 1, 3) := by decide +kernel
theorem dX9_worst_107 : decode cX9_worst 107 = .ok (.goto (-69), 3) := by decide +kernel
theorem dX9_worst_110 : decode cX9_worst 110 = .ok (.aload_n 0, 1) := by decide +kernel
theorem dX9_worst_111 : decode cX9_worst 111 = .ok (.getfield 53, 3) := by decide +kernel
theorem dX9_worst_114 : decode cX9_worst 114 = .ok (.invokevirtual 225, 3) := by decide +kernel
theorem dX9_worst_117 : decode cX9_worst 117 = .ok (.aload_n 0, 1) := by decide +kernel
theorem dX9_worst_118 : decode cX9_worst 118 = .ok (.getfield 53, 3) := by decide +kernel
theorem dX9_worst_121 : decode cX9_worst 121 = .ok (.lload_n 3, 1) := by decide +kernel
theorem dX9_worst_122 : decode cX9_worst 122 = .ok (.invokevirtual 232, 3) := by decide +kernel
theorem dX9_worst_125 : decode cX9_worst 125 = .ok (.iload_n 2, 1) := by decide +kernel
theorem dX9_worst_126 : decode cX9_worst 126 = .ok (.ireturn, 1) := by decide +kernel
set_option maxHeartbeats 4000000 in
set_option maxRecDepth 100000 in
theorem c_MicRow_worst (l : Launch) (G : fm_G) (N : Nat) (M : fm_M) (v1 : Int32) (r : Int32) (M' : fm_M) (hf : pMicRow_worst N M v1 = some (r, M')) : fm_Met l yX9_worst cX9_worst 8 (some .int) { frames := 7, cells := 0, slots := 0, locals := 169 } shC G [.ref (G.2.1 0), .int v1] M (some (.int r)) M' := by
  refine fm_enter (by decide) (Nat.le_of_ble_eq_true rfl) ?_
  intro p e s m args below meth c ls C E hl
  have hl : lv_has ls 8 [(0, .ref (G.2.1 0)), (1, .int v1)] := hl
  have L38 : ∀ (w38_v1 : Int32) (n38 : Nat) (v2 : Int32) (v3 : Int64) (v5 : Int32) (M : fm_M) (H : Heap) (locs : List Loc) (ls : Array Slot), fm_Wd shC G M s H locs → lv_has ls 8 [(0, .ref (G.2.1 0)), (1, .int w38_v1), (2, .int v2), (3, .long v3), (5, .int v5)] → fm_lp (pMicRow_worst_L38 N w38_v1) n38 (v2, v3, v5, M) = some (r, M') → W p l e { frames := 7, cells := 0, slots := 0, locals := 169 } s m args below meth c H locs 0 0 (fm_Z below shC G args s (some (.int r)) M') (F0 m 38 ls []) := by
    intro w38_v1 n38
    induction n38 with
    | zero => intro v2 v3 v5 M H locs ls E hl hf; exact fm_lp_0 hf
    | succ n38 ih38 =>
      intro v2 v3 v5 M H locs ls E hl hf
      have hf : pMicRow_worst_L38b N w38_v1 (fm_lp (pMicRow_worst_L38 N w38_v1) n38) v2 v3 v5 M = some (r, M') := hf
      unfold pMicRow_worst_L38b at hf
      refine lv_iload C.1 C.2.1 dX9_worst_38 (lv_at hl 4 rfl) ?_
      refine lv_aload_n C.1 C.2.1 dX9_worst_40 rfl (lv_at hl 0 rfl) ?_
      refine fm_getr C E lf_X9_10 hC_0 rfl dX9_worst_41 ?_
      refine fm_geti C E lf_X9_284 hC_1 rfl dX9_worst_44 ?_
      refine lv_icmp_ge (tgt := 110) C.1 C.2.1 dX9_worst_47 (by decide) (fun hc47 => ?_) (fun hc47 => ?_)
      · have hf := fm_ip hf hc47
        refine lv_aload_n C.1 C.2.1 dX9_worst_110 rfl (lv_at hl 0 rfl) ?_
        refine fm_getr C E lf_X9_53 hC_0 rfl dX9_worst_111 ?_
        obtain ⟨M114, hc114, hf⟩ := fm_bd hf
        refine fm_callV C E [] [] lm_X9_225 wk_X8_clear (c_Told_clear l G _ _ hc114) hC_176 rfl rfl rfl hl.1 (by simp [Value.category]) ⟨⟨rfl, rfl⟩, by decide, by decide⟩ ⟨by decide, by decide⟩ dX9_worst_114 rfl (fun H locs E => ?_)
        refine W.eq (g2 := F0 m 117 ls []) rfl ?_
        refine lv_aload_n C.1 C.2.1 dX9_worst_117 rfl (lv_at hl 0 rfl) ?_
        refine fm_getr C E lf_X9_53 hC_0 rfl dX9_worst_118 ?_
        refine lv_lload_n C.1 C.2.1 dX9_worst_121 rfl (lv_at hl 3 rfl) ?_
        obtain ⟨M122, hc122, hf⟩ := fm_bd hf
        refine fm_callV C E [.long _] [] lm_X9_232 wk_X8_add (c_Told_add l G _ _ _ hc122) hC_176 rfl rfl rfl hl.1 (by simp [Value.category]) ⟨⟨rfl, rfl⟩, by decide, by decide⟩ ⟨by decide, by decide⟩ dX9_worst_122 rfl (fun H locs E => ?_)
        refine W.eq (g2 := F0 m 125 ls []) rfl ?_
        refine lv_iload_n C.1 C.2.1 dX9_worst_125 rfl (lv_at hl 2 rfl) ?_
        obtain ⟨rfl, rfl⟩ := fm_rt2 hf
        exact fm_iret C E rfl rfl dX9_worst_126
      · have hf := fm_in' hf hc47
        refine lv_aload_n C.1 C.2.1 dX9_worst_50 rfl (lv_at hl 0 rfl) ?_
        refine fm_getr C E lf_X9_10 hC_0 rfl dX9_worst_51 ?_
        refine lv_iload C.1 C.2.1 dX9_worst_54 (lv_at hl 4 rfl) ?_
        obtain ⟨x56, hc56, hf⟩ := fm_bd hf
        refine fm_callV C E [.int _] [] lm_X9_297 wk_X7_isLive (c_Scene_isLive l G _ _ _  hc56) hC_1 rfl rfl rfl hl.1 (by simp [Value.category]) ⟨⟨rfl, rfl⟩, by decide, by decide⟩ ⟨by decide, by decide⟩ dX9_worst_56 rfl (fun H locs E => ?_)
        refine W.eq (g2 := F0 m 59 ls (.int x56 :: [])) rfl ?_
        refine lv_if_ne (tgt := 65) C.1 C.2.1 dX9_worst_59 (by decide) (fun hc59 => ?_) (fun hc59 => ?_)
        · have hf := fm_in' hf hc59
          refine lv_aload_n C.1 C.2.1 dX9_worst_65 rfl (lv_at hl 0 rfl) ?_
          refine lv_iload_n C.1 C.2.1 dX9_worst_66 rfl (lv_at hl 1 rfl) ?_
          refine lv_aload_n C.1 C.2.1 dX9_worst_67 rfl (lv_at hl 0 rfl) ?_
          refine fm_getr C E lf_X9_10 hC_0 rfl dX9_worst_68 ?_
          obtain ⟨x71, hc71, hf⟩ := fm_bd hf
          refine fm_callV C E [] [.int _, .ref _] lm_X9_171 wk_X7_liveSet (c_Scene_liveSet l G N _ _  hc71) hC_1 rfl rfl rfl hl.1 (by simp [Value.category]) ⟨⟨rfl, rfl⟩, by decide, by decide⟩ ⟨by decide, by decide⟩ dX9_worst_71 rfl (fun H locs E => ?_)
          refine W.eq (g2 := F0 m 74 ls (.int x71 :: [.int _, .ref _])) rfl ?_
          refine lv_iconst (v := 1) C.1 C.2.1 dX9_worst_74 (by decide) ?_
          refine lv_iload C.1 C.2.1 dX9_worst_75 (lv_at hl 4 rfl) ?_
          refine lv_ishl C.1 C.2.1 dX9_worst_77 ?_
          refine lv_iconst (v := (-1)) C.1 C.2.1 dX9_worst_78 (by decide) ?_
          refine lv_ixor C.1 C.2.1 dX9_worst_79 ?_
          refine lv_iand C.1 C.2.1 dX9_worst_80 ?_
          obtain ⟨⟨x81, M81⟩, hc81, hf⟩ := fm_bd hf
          dsimp only at hf
          refine fm_callV C E [.int _, .int _] [] lm_X9_252 wk_X9_cleanPower (c_MicRow_cleanPower l G N _ _ _ _ _ hc81) hC_0 rfl rfl rfl hl.1 (by simp [Value.category]) ⟨⟨rfl, rfl⟩, by decide, by decide⟩ ⟨by decide, by decide⟩ dX9_worst_81 rfl (fun H locs E => ?_)
          refine W.eq (g2 := F0 m 84 ls (.long x81 :: [])) rfl ?_
          refine lv_lstore (lv' := [(6, .long _), (0, .ref _), (1, .int _), (2, .int _), (3, .long _), (5, .int _)]) C.1 C.2.1 dX9_worst_84 hl (by decide) rfl (fun ls hl => ?_)
          refine lv_iload_n C.1 C.2.1 dX9_worst_86 rfl (lv_at hl 3 rfl) ?_
          refine lv_iconst (v := (-1)) C.1 C.2.1 dX9_worst_87 (by decide) ?_
          refine lv_icmp_eq (tgt := 98) C.1 C.2.1 dX9_worst_88 (by decide) (fun hc88 => ?_) (fun hc88 => ?_)
          · have hf := fm_ip hf hc88
            refine lv_lload C.1 C.2.1 dX9_worst_98 (lv_at hl 0 rfl) ?_
            refine lv_lstore_n (lv' := [(3, .long _), (6, .long _), (0, .ref _), (1, .int _), (2, .int _), (5, .int _)]) C.1 C.2.1 dX9_worst_100 rfl hl (by decide) rfl (fun ls hl => ?_)
            refine lv_iload C.1 C.2.1 dX9_worst_101 (lv_at hl 5 rfl) ?_
            refine lv_istore_n (lv' := [(2, .int _), (3, .long _), (6, .long _), (0, .ref _), (1, .int _), (5, .int _)]) C.1 C.2.1 dX9_worst_103 rfl hl (by decide) rfl (fun ls hl => ?_)
            refine fm_iinc C (v := 1) (lv' := [(5, .int _), (2, .int _), (3, .long _), (6, .long _), (0, .ref _), (1, .int _)]) (k := 5) hl rfl (by decide) (by decide) rfl dX9_worst_104 (fun ls hl => ?_)
            refine lv_goto (tgt := 38) C.1 C.2.1 dX9_worst_107 (by decide) ?_
            exact ih38 _ _ _ _ _ _ _ E (lv_sub hl [4, 5, 1, 2, 0] rfl) hf
          · have hf := fm_in' hf hc88
            refine lv_lload C.1 C.2.1 dX9_worst_91 (lv_at hl 0 rfl) ?_
            refine lv_lload_n C.1 C.2.1 dX9_worst_93 rfl (lv_at hl 4 rfl) ?_
            refine W.lcmp C.1 C.2.1 dX9_worst_94 ?_
            refine lv_if_ge (tgt := 104) C.1 C.2.1 dX9_worst_95 (by decide) (fun hc95 => ?_) (fun hc95 => ?_)
            · have hf := fm_ip hf hc95
              refine fm_iinc C (v := 1) (lv' := [(5, .int _), (6, .long _), (0, .ref _), (1, .int _), (2, .int _), (3, .long _)]) (k := 5) hl rfl (by decide) (by decide) rfl dX9_worst_104 (fun ls hl => ?_)
              refine lv_goto (tgt := 38) C.1 C.2.1 dX9_worst_107 (by decide) ?_
              exact ih38 _ _ _ _ _ _ _ E (lv_sub hl [2, 3, 4, 5, 0] rfl) hf
            · have hf := fm_in' hf hc95
              refine lv_lload C.1 C.2.1 dX9_worst_98 (lv_at hl 0 rfl) ?_
              refine lv_lstore_n (lv' := [(3, .long _), (6, .long _), (0, .ref _), (1, .int _), (2, .int _), (5, .int _)]) C.1 C.2.1 dX9_worst_100 rfl hl (by decide) rfl (fun ls hl => ?_)
              refine lv_iload C.1 C.2.1 dX9_worst_101 (lv_at hl 5 rfl) ?_
              refine lv_istore_n (lv' := [(2, .int _), (3, .long _), (6, .long _), (0, .ref _), (1, .int _), (5, .int _)]) C.1 C.2.1 dX9_worst_103 rfl hl (by decide) rfl (fun ls hl => ?_)
              refine fm_iinc C (v := 1) (lv' := [(5, .int _), (2, .int _), (3, .long _), (6, .long _), (0, .ref _), (1, .int _)]) (k := 5) hl rfl (by decide) (by decide) rfl dX9_worst_104 (fun ls hl => ?_)
              refine lv_goto (tgt := 38) C.1 C.2.1 dX9_worst_107 (by decide) ?_
              exact ih38 _ _ _ _ _ _ _ E (lv_sub hl [4, 5, 1, 2, 0] rfl) hf
        · have hf := fm_ip hf hc59
          refine lv_goto (tgt := 104) C.1 C.2.1 dX9_worst_62 (by decide) ?_
          refine fm_iinc C (v := 1) (lv' := [(5, .int _), (0, .ref _), (1, .int _), (2, .int _), (3, .long _)]) (k := 4) hl rfl (by decide) (by decide) rfl dX9_worst_104 (fun ls hl => ?_)
          refine lv_goto (tgt := 38) C.1 C.2.1 dX9_worst_107 (by decide) ?_
          exact ih38 _ _ _ _ _ _ _ E (lv_sub hl [1, 2, 3, 4, 0] rfl) hf
  unfold pMicRow_worst at hf
  refine lv_iload_n C.1 C.2.1 dX9_worst_0 rfl (lv_at hl 1 rfl) ?_
  obtain ⟨x1, hc1, hf⟩ := fm_bd hf
  refine fm_callS C E [.int _] [] lm_X9_157 wk_X9_isDirection (c_MicRow_isDirection l G _ _ _  hc1) rfl hl.1 (by simp [Value.category]) ⟨⟨rfl, rfl⟩, by decide, by decide⟩ ⟨by decide, by decide⟩ dX9_worst_1 rfl (fun H locs E => ?_)
  refine W.eq (g2 := F0 m 4 ls (.int x1 :: [])) rfl ?_
  refine lv_if_ne (tgt := 9) C.1 C.2.1 dX9_worst_4 (by decide) (fun hc4 => ?_) (fun hc4 => ?_)
  · have hf := fm_in' hf hc4
    refine lv_aload_n C.1 C.2.1 dX9_worst_9 rfl (lv_at hl 0 rfl) ?_
    refine fm_getr C E lf_X9_10 hC_0 rfl dX9_worst_10 ?_
    obtain ⟨x13, hc13, hf⟩ := fm_bd hf
    refine fm_callV C E [] [] lm_X9_266 wk_X7_liveCount (c_Scene_liveCount l G N _ _  hc13) hC_1 rfl rfl rfl hl.1 (by simp [Value.category]) ⟨⟨rfl, rfl⟩, by decide, by decide⟩ ⟨by decide, by decide⟩ dX9_worst_13 rfl (fun H locs E => ?_)
    refine W.eq (g2 := F0 m 16 ls (.int x13 :: [])) rfl ?_
    refine lv_iconst (v := 2) C.1 C.2.1 dX9_worst_16 (by decide) ?_
    refine lv_icmp_ge (tgt := 23) C.1 C.2.1 dX9_worst_17 (by decide) (fun hc17 => ?_) (fun hc17 => ?_)
    · have hf := fm_ip hf hc17
      refine lv_aload_n C.1 C.2.1 dX9_worst_23 rfl (lv_at hl 0 rfl) ?_
      refine fm_getr C E lf_X9_62 hC_0 rfl dX9_worst_24 ?_
      refine lv_iconst (v := (-1)) C.1 C.2.1 dX9_worst_27 (by decide) ?_
      obtain ⟨M28, hc28, hf⟩ := fm_bd hf
      refine fm_callV C E [.int _] [] lm_X9_150 wk_X3_listenTo (c_Ears_listenTo l G _ _ _ hc28) hC_178 rfl rfl rfl hl.1 (by simp [Value.category]) ⟨⟨rfl, rfl⟩, by decide, by decide⟩ ⟨by decide, by decide⟩ dX9_worst_28 rfl (fun H locs E => ?_)
      refine W.eq (g2 := F0 m 31 ls []) rfl ?_
      refine lv_iconst (v := (-1)) C.1 C.2.1 dX9_worst_31 (by decide) ?_
      refine lv_istore_n (lv' := [(2, .int _), (0, .ref _), (1, .int _)]) C.1 C.2.1 dX9_worst_32 rfl hl (by decide) rfl (fun ls hl => ?_)
      refine lv_lconst (v := 0) C.1 C.2.1 dX9_worst_33 (by decide) ?_
      refine lv_lstore_n (lv' := [(3, .long _), (2, .int _), (0, .ref _), (1, .int _)]) C.1 C.2.1 dX9_worst_34 rfl hl (by decide) rfl (fun ls hl => ?_)
      refine lv_iconst (v := 0) C.1 C.2.1 dX9_worst_35 (by decide) ?_
      refine lv_istore (lv' := [(5, .int _), (3, .long _), (2, .int _), (0, .ref _), (1, .int _)]) C.1 C.2.1 dX9_worst_36 hl (by decide) rfl (fun ls hl => ?_)
      exact L38 _ N _ _ _ _ _ _ _ E (lv_sub hl [3, 4, 2, 1, 0] rfl) hf
    · have hf := fm_in' hf hc17
      refine lv_bipush (v := (-2)) C.1 C.2.1 dX9_worst_20 (by decide) ?_
      obtain ⟨rfl, rfl⟩ := fm_rt2 hf
      exact fm_iret C E rfl rfl dX9_worst_22
  · have hf := fm_ip hf hc4
    refine lv_iconst (v := (-1)) C.1 C.2.1 dX9_worst_7 (by decide) ?_
    obtain ⟨rfl, rfl⟩ := fm_rt2 hf
    exact fm_iret C E rfl rfl dX9_worst_8
