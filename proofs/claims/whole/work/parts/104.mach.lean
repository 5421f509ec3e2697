theorem dX10_clippedOf_0 : decode cX10_clippedOf 0 = .ok (.iconst 0, 1) := by decide +kernel
theorem dX10_clippedOf_1 : decode cX10_clippedOf 1 = .ok (.istore_n 2, 1) := by decide +kernel
theorem dX10_clippedOf_2 : decode cX10_clippedOf 2 = .ok (.aload_n 0, 1) := by decide +kernel
theorem dX10_clippedOf_3 : decode cX10_clippedOf 3 = .ok (.getfield 9, 3) := by decide +kernel
theorem dX10_clippedOf_6 : decode cX10_clippedOf 6 = .ok (.bipush 38, 2) := by decide +kernel
theorem dX10_clippedOf_8 : decode cX10_clippedOf 8 = .ok (.iaload, 1) := by decide +kernel
theorem dX10_clippedOf_9 : decode cX10_clippedOf 9 = .ok (.istore_n 3, 1) := by decide +kernel
theorem dX10_clippedOf_10 : decode cX10_clippedOf 10 = .ok (.iload_n 3, 1) := by decide +kernel
theorem dX10_clippedOf_11 : decode cX10_clippedOf 11 = .ok (.aload_n 0, 1) := by decide +kernel
theorem dX10_clippedOf_12 : decode cX10_clippedOf 12 = .ok (.getfield 9, 3) := by decide +kernel
theorem dX10_clippedOf_15 : decode cX10_clippedOf 15 = .ok (.bipush 38, 2) := by decide +kernel
theorem dX10_clippedOf_17 : decode cX10_clippedOf 17 = .ok (.iaload, 1) := by decide +kernel
theorem dX10_clippedOf_18 : decode cX10_clippedOf 18 = .ok (.aload_n 0, 1) := by decide +kernel
theorem dX10_clippedOf_19 : decode cX10_clippedOf 19 = .ok (.getfield 9, 3) := by decide +kernel
theorem dX10_clippedOf_22 : decode cX10_clippedOf 22 = .ok (.bipush 39, 2) := by decide +kernel
theorem dX10_clippedOf_24 : decode cX10_clippedOf 24 = .ok (.iaload, 1) := by decide +kernel
theorem dX10_clippedOf_25 : decode cX10_clippedOf 25 = .ok (.iadd, 1) := by decide +kernel
theorem dX10_clippedOf_26 : decode cX10_clippedOf 26 = .ok (.if_icmp .ge 36, 3) := by decide +kernel
theorem dX10_clippedOf_29 : decode cX10_clippedOf 29 = .ok (.iload_n 2, 1) := by decide +kernel
theorem dX10_clippedOf_30 : decode cX10_clippedOf 30 = .ok (.aload_n 0, 1) := by decide +kernel
theorem dX10_clippedOf_31 : decode cX10_clippedOf 31 = .ok (.iload_n 1, 1) := by decide +kernel
theorem dX10_clippedOf_32 : decode cX10_clippedOf 32 = .ok (.iload_n 3, 1) := by decide +kernel
theorem dX10_clippedOf_33 : decode cX10_clippedOf 33 = .ok (.invokevirtual 179, 3) := by decide +kernel
theorem dX10_clippedOf_36 : decode cX10_clippedOf 36 = .ok (.invokestatic 217, 3) := by decide +kernel
theorem dX10_clippedOf_39 : decode cX10_clippedOf 39 = .ok (.aload_n 0, 1) := by decide +kernel
theorem dX10_clippedOf_40 : decode cX10_clippedOf 40 = .ok (.getfield 9, 3) := by decide +kernel
theorem dX10_clippedOf_43 : decode cX10_clippedOf 43 = .ok (.bipush 37, 2) := by decide +kernel
theorem dX10_clippedOf_45 : decode cX10_clippedOf 45 = .ok (.iaload, 1) := by decide +kernel
theorem dX10_clippedOf_46 : decode cX10_clippedOf 46 = .ok (.if_icmp .ne 7, 3) := by decide +kernel
theorem dX10_clippedOf_49 : decode cX10_clippedOf 49 = .ok (.iconst 1, 1) := by decide +kernel
theorem dX10_clippedOf_50 : decode cX10_clippedOf 50 = .ok (.goto 4, 3) := by decide +kernel
theorem dX10_clippedOf_53 : decode cX10_clippedOf 53 = .ok (.iconst 0, 1) := by decide +kernel
theorem dX10_clippedOf_54 : decode cX10_clippedOf 54 = .ok (.iadd, 1) := by decide +kernel
theorem dX10_clippedOf_55 : decode cX10_clippedOf 55 = .ok (.istore_n 2, 1) := by decide +kernel
theorem dX10_clippedOf_56 : decode cX10_clippedOf 56 = .ok (.iinc 3 1, 3) := by decide +kernel
theorem dX10_clippedOf_59 : decode cX10_clippedOf 59 = .ok (.goto (-49), 3) := by decide +kernel
theorem dX10_clippedOf_62 : decode cX10_clippedOf 62 = .ok (.iload_n 2, 1) := by decide +kernel
theorem dX10_clippedOf_63 : decode cX10_clippedOf 63 = .ok (.ireturn, 1) := by decide +kernel
set_option maxHeartbeats 4000000 in
set_option maxRecDepth 100000 in
theorem c_Model_clippedOf (l : Launch) (G : fm_G) (N : Nat) (M : fm_M) (v1 : Int32) (r : Int32) (hf : pModel_clippedOf N M v1 = some r) : fm_Met l yX10_clippedOf cX10_clippedOf 4 (some .int) { frames := 1, cells := 0, slots := 0, locals := 22 } shM G [.ref (G.2.1 0), .int v1] M (some (.int r)) M := by
  refine fm_enter (by decide) (Nat.le_of_ble_eq_true rfl) ?_
  intro p e s m args below meth c ls C E hl
  have hl : lv_has ls 4 [(0, .ref (G.2.1 0)), (1, .int v1)] := hl
  have L10 : ∀ (w10_v1 : Int32) (n10 : Nat) (v2 : Int32) (v3 : Int32) (H : Heap) (locs : List Loc) (ls : Array Slot), fm_Wd shM G M s H locs → lv_has ls 4 [(0, .ref (G.2.1 0)), (1, .int w10_v1), (2, .int v2), (3, .int v3)] → fm_lp (pModel_clippedOf_L10 N M w10_v1) n10 (v2, v3) = some r → W p l e { frames := 1, cells := 0, slots := 0, locals := 22 } s m args below meth c H locs 0 0 (fm_Z below shM G args s (some (.int r)) M) (F0 m 10 ls []) := by
    intro w10_v1 n10
    induction n10 with
    | zero => intro v2 v3 H locs ls E hl hf; exact fm_lp_0 hf
    | succ n10 ih10 =>
      intro v2 v3 H locs ls E hl hf
      have hf : pModel_clippedOf_L10b N M w10_v1 (fm_lp (pModel_clippedOf_L10 N M w10_v1) n10) v2 v3 = some r := hf
      unfold pModel_clippedOf_L10b at hf
      refine lv_iload_n C.1 C.2.1 dX10_clippedOf_10 rfl (lv_at hl 3 rfl) ?_
      refine lv_aload_n C.1 C.2.1 dX10_clippedOf_11 rfl (lv_at hl 0 rfl) ?_
      refine fm_getr C E lf_X10_9 hM_0 rfl dX10_clippedOf_12 ?_
      refine lv_bipush (v := 38) C.1 C.2.1 dX10_clippedOf_15 (by decide) ?_
      refine fm_ialdc C E 38 (by decide) hM_1 (by decide) dX10_clippedOf_17 ?_
      refine lv_aload_n C.1 C.2.1 dX10_clippedOf_18 rfl (lv_at hl 0 rfl) ?_
      refine fm_getr C E lf_X10_9 hM_0 rfl dX10_clippedOf_19 ?_
      refine lv_bipush (v := 39) C.1 C.2.1 dX10_clippedOf_22 (by decide) ?_
      refine fm_ialdc C E 39 (by decide) hM_1 (by decide) dX10_clippedOf_24 ?_
      refine lv_iadd C.1 C.2.1 dX10_clippedOf_25 ?_
      refine lv_icmp_ge (tgt := 62) C.1 C.2.1 dX10_clippedOf_26 (by decide) (fun hc26 => ?_) (fun hc26 => ?_)
      · have hf := fm_ip hf hc26
        refine lv_iload_n C.1 C.2.1 dX10_clippedOf_62 rfl (lv_at hl 2 rfl) ?_
        obtain rfl := fm_rt1 hf
        exact fm_iret C E rfl rfl dX10_clippedOf_63
      · have hf := fm_in' hf hc26
        refine lv_iload_n C.1 C.2.1 dX10_clippedOf_29 rfl (lv_at hl 2 rfl) ?_
        refine lv_aload_n C.1 C.2.1 dX10_clippedOf_30 rfl (lv_at hl 0 rfl) ?_
        refine lv_iload_n C.1 C.2.1 dX10_clippedOf_31 rfl (lv_at hl 1 rfl) ?_
        refine lv_iload_n C.1 C.2.1 dX10_clippedOf_32 rfl (lv_at hl 3 rfl) ?_
        obtain ⟨x33, hc33, hf⟩ := fm_bd hf
        refine fm_callV C E [.int _, .int _] [.int _] lm_X10_179 wk_X10_heard (c_Model_heard l G _ _ _ _  hc33) hM_0 rfl rfl rfl hl.1 (by simp [Value.category]) ⟨⟨rfl, rfl⟩, by decide, by decide⟩ ⟨by decide, by decide⟩ dX10_clippedOf_33 rfl (fun H locs E => ?_)
        refine W.eq (g2 := F0 m 36 ls (.int x33 :: [.int _])) rfl ?_
        refine fm_abs C wv_abs wm_1417 hl.1 ⟨by decide, by decide⟩ (by simp [Value.category]) ⟨by decide, by decide⟩ dX10_clippedOf_36 ?_
        refine lv_aload_n C.1 C.2.1 dX10_clippedOf_39 rfl (lv_at hl 0 rfl) ?_
        refine fm_getr C E lf_X10_9 hM_0 rfl dX10_clippedOf_40 ?_
        refine lv_bipush (v := 37) C.1 C.2.1 dX10_clippedOf_43 (by decide) ?_
        refine fm_ialdc C E 37 (by decide) hM_1 (by decide) dX10_clippedOf_45 ?_
        refine lv_icmp_ne (tgt := 53) C.1 C.2.1 dX10_clippedOf_46 (by decide) (fun hc46 => ?_) (fun hc46 => ?_)
        · have hf := fm_in' hf hc46
          refine lv_iconst (v := 0) C.1 C.2.1 dX10_clippedOf_53 (by decide) ?_
          refine lv_iadd C.1 C.2.1 dX10_clippedOf_54 ?_
          refine lv_istore_n (lv' := [(2, .int _), (0, .ref _), (1, .int _), (3, .int _)]) C.1 C.2.1 dX10_clippedOf_55 rfl hl (by decide) rfl (fun ls hl => ?_)
          refine fm_iinc C (v := 1) (lv' := [(3, .int _), (2, .int _), (0, .ref _), (1, .int _)]) (k := 3) hl rfl (by decide) (by decide) rfl dX10_clippedOf_56 (fun ls hl => ?_)
          refine lv_goto (tgt := 10) C.1 C.2.1 dX10_clippedOf_59 (by decide) ?_
          exact ih10 _ _ _ _ _ E (lv_sub hl [2, 3, 1, 0] rfl) hf
        · have hf := fm_ip hf hc46
          refine lv_iconst (v := 1) C.1 C.2.1 dX10_clippedOf_49 (by decide) ?_
          refine lv_goto (tgt := 54) C.1 C.2.1 dX10_clippedOf_50 (by decide) ?_
          refine lv_iadd C.1 C.2.1 dX10_clippedOf_54 ?_
          refine lv_istore_n (lv' := [(2, .int _), (0, .ref _), (1, .int _), (3, .int _)]) C.1 C.2.1 dX10_clippedOf_55 rfl hl (by decide) rfl (fun ls hl => ?_)
          refine fm_iinc C (v := 1) (lv' := [(3, .int _), (2, .int _), (0, .ref _), (1, .int _)]) (k := 3) hl rfl (by decide) (by decide) rfl dX10_clippedOf_56 (fun ls hl => ?_)
          refine lv_goto (tgt := 10) C.1 C.2.1 dX10_clippedOf_59 (by decide) ?_
          exact ih10 _ _ _ _ _ E (lv_sub hl [2, 3, 1, 0] rfl) hf
  unfold pModel_clippedOf at hf
  refine lv_iconst (v := 0) C.1 C.2.1 dX10_clippedOf_0 (by decide) ?_
  refine lv_istore_n (lv' := [(2, .int _), (0, .ref _), (1, .int _)]) C.1 C.2.1 dX10_clippedOf_1 rfl hl (by decide) rfl (fun ls hl => ?_)
  refine lv_aload_n C.1 C.2.1 dX10_clippedOf_2 rfl (lv_at hl 1 rfl) ?_
  refine fm_getr C E lf_X10_9 hM_0 rfl dX10_clippedOf_3 ?_
  refine lv_bipush (v := 38) C.1 C.2.1 dX10_clippedOf_6 (by decide) ?_
  refine fm_ialdc C E 38 (by decide) hM_1 (by decide) dX10_clippedOf_8 ?_
  refine lv_istore_n (lv' := [(3, .int _), (2, .int _), (0, .ref _), (1, .int _)]) C.1 C.2.1 dX10_clippedOf_9 rfl hl (by decide) rfl (fun ls hl => ?_)
  exact L10 _ N _ _ _ _ _ E (lv_sub hl [2, 3, 1, 0] rfl) hf
theorem dX10_roughOf_0 : decode cX10_roughOf 0 = .ok (.iconst 0, 1) := by decide +kernel
theorem dX10_roughOf_1 : decode cX10_roughOf 1 = .ok (.istore_n 2, 1) := by decide +kernel
theorem dX10_roughOf_2 : decode cX10_roughOf 2 = .ok (.aload_n 0, 1) := by decide +kernel
theorem dX10_roughOf_3 : decode cX10_roughOf 3 = .ok (.getfield 9, 3) := by decide +kernel
theorem dX10_roughOf_6 : decode cX10_roughOf 6 = .ok (.bipush 38, 2) := by decide +kernel
theorem dX10_roughOf_8 : decode cX10_roughOf 8 = .ok (.iaload, 1) := by decide +kernel
theorem dX10_roughOf_9 : decode cX10_roughOf 9 = .ok (.iconst 1, 1) := by decide +kernel
theorem dX10_roughOf_10 : decode cX10_roughOf 10 = .ok (.iadd, 1) := by decide +kernel
theorem dX10_roughOf_11 : decode cX10_roughOf 11 = .ok (.istore_n 3, 1) := by decide +kernel
theorem dX10_roughOf_12 : decode cX10_roughOf 12 = .ok (.iload_n 3, 1) := by decide +kernel
theorem dX10_roughOf_13 : decode cX10_roughOf 13 = .ok (.aload_n 0, 1) := by decide +kernel
theorem dX10_roughOf_14 : decode cX10_roughOf 14 = .ok (.getfield 9, 3) := by decide +kernel
theorem dX10_roughOf_17 : decode cX10_roughOf 17 = .ok (.bipush 38, 2) := by decide +kernel
theorem dX10_roughOf_19 : decode cX10_roughOf 19 = .ok (.iaload, 1) := by decide +kernel
theorem dX10_roughOf_20 : decode cX10_roughOf 20 = .ok (.aload_n 0, 1) := by decide +kernel
theorem dX10_roughOf_21 : decode cX10_roughOf 21 = .ok (.getfield 9, 3) := by decide +kernel
theorem dX10_roughOf_24 : decode cX10_roughOf 24 = .ok (.bipush 39, 2) := by decide +kernel
theorem dX10_roughOf_26 : decode cX10_roughOf 26 = .ok (.iaload, 1) := by decide +kernel
theorem dX10_roughOf_27 : decode cX10_roughOf 27 = .ok (.iadd, 1) := by decide +kernel
theorem dX10_roughOf_28 : decode cX10_roughOf 28 = .ok (.if_icmp .ge 40, 3) := by decide +kernel
theorem dX10_roughOf_31 : decode cX10_roughOf 31 = .ok (.iload_n 2, 1) := by decide +kernel
theorem dX10_roughOf_32 : decode cX10_roughOf 32 = .ok (.aload_n 0, 1) := by decide +kernel
theorem dX10_roughOf_33 : decode cX10_roughOf 33 = .ok (.iload_n 1, 1) := by decide +kernel
theorem dX10_roughOf_34 : decode cX10_roughOf 34 = .ok (.iload_n 3, 1) := by decide +kernel
theorem dX10_roughOf_35 : decode cX10_roughOf 35 = .ok (.invokevirtual 179, 3) := by decide +kernel
theorem dX10_roughOf_38 : decode cX10_roughOf 38 = .ok (.invokestatic 260, 3) := by decide +kernel
theorem dX10_roughOf_41 : decode cX10_roughOf 41 = .ok (.aload_n 0, 1) := by decide +kernel
theorem dX10_roughOf_42 : decode cX10_roughOf 42 = .ok (.iload_n 1, 1) := by decide +kernel
theorem dX10_roughOf_43 : decode cX10_roughOf 43 = .ok (.iload_n 3, 1) := by decide +kernel
theorem dX10_roughOf_44 : decode cX10_roughOf 44 = .ok (.iconst 1, 1) := by decide +kernel
theorem dX10_roughOf_45 : decode cX10_roughOf 45 = .ok (.isub, 1) := by decide +kernel
theorem dX10_roughOf_46 : decode cX10_roughOf 46 = .ok (.invokevirtual 179, 3) := by decide +kernel
theorem dX10_roughOf_49 : decode cX10_roughOf 49 = .ok (.invokestatic 260, 3) := by decide +kernel
theorem dX10_roughOf_52 : decode cX10_roughOf 52 = .ok (.if_icmp .eq 7, 3) := by decide +kernel
theorem dX10_roughOf_55 : decode cX10_roughOf 55 = .ok (.iconst 1, 1) := by decide +kernel
theorem dX10_roughOf_56 : decode cX10_roughOf 56 = .ok (.goto 4, 3) := by decide +kernel
theorem dX10_roughOf_59 : decode cX10_roughOf 59 = .ok (.iconst 0, 1) := by decide +kernel
theorem dX10_roughOf_60 : decode cX10_roughOf 60 = .ok (.iadd, 1) := by decide +kernel
theorem dX10_roughOf_61 : decode cX10_roughOf 61 = .ok (.istore_n 2, 1) := by decide +kernel
theorem dX10_roughOf_62 : decode cX10_roughOf 62 = .ok (.iinc 3 1, 3) := by decide +kernel
theorem dX10_roughOf_65 : decode cX10_roughOf 65 = .ok (.goto (-53), 3) := by decide +kernel
theorem dX10_roughOf_68 : decode cX10_roughOf 68 = .ok (.iload_n 2, 1) := by decide +kernel
theorem dX10_roughOf_69 : decode cX10_roughOf 69 = .ok (.ireturn, 1) := by decide +kernel
set_option maxHeartbeats 4000000 in
set_option maxRecDepth 100000 in
theorem c_Model_roughOf (l : Launch) (G : fm_G) (N : Nat) (M : fm_M) (v1 : Int32) (r : Int32) (hf : pModel_roughOf N M v1 = some r) : fm_Met l yX10_roughOf cX10_roughOf 4 (some .int) { frames := 1, cells := 0, slots := 0, locals := 22 } shM G [.ref (G.2.1 0), .int v1] M (some (.int r)) M := by
  refine fm_enter (by decide) (Nat.le_of_ble_eq_true rfl) ?_
  intro p e s m args below meth c ls C E hl
  have hl : lv_has ls 4 [(0, .ref (G.2.1 0)), (1, .int v1)] := hl
  have L12 : ∀ (w12_v1 : Int32) (n12 : Nat) (v2 : Int32) (v3 : Int32) (H : Heap) (locs : List Loc) (ls : Array Slot), fm_Wd shM G M s H locs → lv_has ls 4 [(0, .ref (G.2.1 0)), (1, .int w12_v1), (2, .int v2), (3, .int v3)] → fm_lp (pModel_roughOf_L12 N M w12_v1) n12 (v2, v3) = some r → W p l e { frames := 1, cells := 0, slots := 0, locals := 22 } s m args below meth c H locs 0 0 (fm_Z below shM G args s (some (.int r)) M) (F0 m 12 ls []) := by
    intro w12_v1 n12
    induction n12 with
    | zero => intro v2 v3 H locs ls E hl hf; exact fm_lp_0 hf
    | succ n12 ih12 =>
      intro v2 v3 H locs ls E hl hf
      have hf : pModel_roughOf_L12b N M w12_v1 (fm_lp (pModel_roughOf_L12 N M w12_v1) n12) v2 v3 = some r := hf
      unfold pModel_roughOf_L12b at hf
      refine lv_iload_n C.1 C.2.1 dX10_roughOf_12 rfl (lv_at hl 3 rfl) ?_
      refine lv_aload_n C.1 C.2.1 dX10_roughOf_13 rfl (lv_at hl 0 rfl) ?_
      refine fm_getr C E lf_X10_9 hM_0 rfl dX10_roughOf_14 ?_
      refine lv_bipush (v := 38) C.1 C.2.1 dX10_roughOf_17 (by decide) ?_
      refine fm_ialdc C E 38 (by decide) hM_1 (by decide) dX10_roughOf_19 ?_
      refine lv_aload_n C.1 C.2.1 dX10_roughOf_20 rfl (lv_at hl 0 rfl) ?_
      refine fm_getr C E lf_X10_9 hM_0 rfl dX10_roughOf_21 ?_
      refine lv_bipush (v := 39) C.1 C.2.1 dX10_roughOf_24 (by decide) ?_
      refine fm_ialdc C E 39 (by decide) hM_1 (by decide) dX10_roughOf_26 ?_
      refine lv_iadd C.1 C.2.1 dX10_roughOf_27 ?_
      refine lv_icmp_ge (tgt := 68) C.1 C.2.1 dX10_roughOf_28 (by decide) (fun hc28 => ?_) (fun hc28 => ?_)
      · have hf := fm_ip hf hc28
        refine lv_iload_n C.1 C.2.1 dX10_roughOf_68 rfl (lv_at hl 2 rfl) ?_
        obtain rfl := fm_rt1 hf
        exact fm_iret C E rfl rfl dX10_roughOf_69
      · have hf := fm_in' hf hc28
        refine lv_iload_n C.1 C.2.1 dX10_roughOf_31 rfl (lv_at hl 2 rfl) ?_
        refine lv_aload_n C.1 C.2.1 dX10_roughOf_32 rfl (lv_at hl 0 rfl) ?_
        refine lv_iload_n C.1 C.2.1 dX10_roughOf_33 rfl (lv_at hl 1 rfl) ?_
        refine lv_iload_n C.1 C.2.1 dX10_roughOf_34 rfl (lv_at hl 3 rfl) ?_
        obtain ⟨x35, hc35, hf⟩ := fm_bd hf
        refine fm_callV C E [.int _, .int _] [.int _] lm_X10_179 wk_X10_heard (c_Model_heard l G _ _ _ _  hc35) hM_0 rfl rfl rfl hl.1 (by simp [Value.category]) ⟨⟨rfl, rfl⟩, by decide, by decide⟩ ⟨by decide, by decide⟩ dX10_roughOf_35 rfl (fun H locs E => ?_)
        refine W.eq (g2 := F0 m 38 ls (.int x35 :: [.int _])) rfl ?_
        obtain ⟨x38, hc38, hf⟩ := fm_bd hf
        refine fm_callS C E [.int _] [.int _] lm_X10_260 wk_X10_signOf (c_Model_signOf l G _ _ _  hc38) rfl hl.1 (by simp [Value.category]) ⟨⟨rfl, rfl⟩, by decide, by decide⟩ ⟨by decide, by decide⟩ dX10_roughOf_38 rfl (fun H locs E => ?_)
        refine W.eq (g2 := F0 m 41 ls (.int x38 :: [.int _])) rfl ?_
        refine lv_aload_n C.1 C.2.1 dX10_roughOf_41 rfl (lv_at hl 0 rfl) ?_
        refine lv_iload_n C.1 C.2.1 dX10_roughOf_42 rfl (lv_at hl 1 rfl) ?_
        refine lv_iload_n C.1 C.2.1 dX10_roughOf_43 rfl (lv_at hl 3 rfl) ?_
        refine lv_iconst (v := 1) C.1 C.2.1 dX10_roughOf_44 (by decide) ?_
        refine lv_isub C.1 C.2.1 dX10_roughOf_45 ?_
        obtain ⟨x46, hc46, hf⟩ := fm_bd hf
        refine fm_callV C E [.int _, .int _] [.int _, .int _] lm_X10_179 wk_X10_heard (c_Model_heard l G _ _ _ _  hc46) hM_0 rfl rfl rfl hl.1 (by simp [Value.category]) ⟨⟨rfl, rfl⟩, by decide, by decide⟩ ⟨by decide, by decide⟩ dX10_roughOf_46 rfl (fun H locs E => ?_)
        refine W.eq (g2 := F0 m 49 ls (.int x46 :: [.int _, .int _])) rfl ?_
        obtain ⟨x49, hc49, hf⟩ := fm_bd hf
        refine fm_callS C E [.int _] [.int _, .int _] lm_X10_260 wk_X10_signOf (c_Model_signOf l G _ _ _  hc49) rfl hl.1 (by simp [Value.category]) ⟨⟨rfl, rfl⟩, by decide, by decide⟩ ⟨by decide, by decide⟩ dX10_roughOf_49 rfl (fun H locs E => ?_)
        refine W.eq (g2 := F0 m 52 ls (.int x49 :: [.int _, .int _])) rfl ?_
        refine lv_icmp_eq (tgt := 59) C.1 C.2.1 dX10_roughOf_52 (by decide) (fun hc52 => ?_) (fun hc52 => ?_)
        · have hf := fm_ip hf hc52
          refine lv_iconst (v := 0) C.1 C.2.1 dX10_roughOf_59 (by decide) ?_
          refine lv_iadd C.1 C.2.1 dX10_roughOf_60 ?_
          refine lv_istore_n (lv' := [(2, .int _), (0, .ref _), (1, .int _), (3, .int _)]) C.1 C.2.1 dX10_roughOf_61 rfl hl (by decide) rfl (fun ls hl => ?_)
          refine fm_iinc C (v := 1) (lv' := [(3, .int _), (2, .int _), (0, .ref _), (1, .int _)]) (k := 3) hl rfl (by decide) (by decide) rfl dX10_roughOf_62 (fun ls hl => ?_)
          refine lv_goto (tgt := 12) C.1 C.2.1 dX10_roughOf_65 (by decide) ?_
          exact ih12 _ _ _ _ _ E (lv_sub hl [2, 3, 1, 0] rfl) hf
        · have hf := fm_in' hf hc52
          refine lv_iconst (v := 1) C.1 C.2.1 dX10_roughOf_55 (by decide) ?_
          refine lv_goto (tgt := 60) C.1 C.2.1 dX10_roughOf_56 (by decide) ?_
          refine lv_iadd C.1 C.2.1 dX10_roughOf_60 ?_
          refine lv_istore_n (lv' := [(2, .int _), (0, .ref _), (1, .int _), (3, .int _)]) C.1 C.2.1 dX10_roughOf_61 rfl hl (by decide) rfl (fun ls hl => ?_)
          refine fm_iinc C (v := 1) (lv' := [(3, .int _), (2, .int _), (0, .ref _), (1, .int _)]) (k := 3) hl rfl (by decide) (by decide) rfl dX10_roughOf_62 (fun ls hl => ?_)
          refine lv_goto (tgt := 12) C.1 C.2.1 dX10_roughOf_65 (by decide) ?_
          exact ih12 _ _ _ _ _ E (lv_sub hl [2, 3, 1, 0] rfl) hf
  unfold pModel_roughOf at hf
  refine lv_iconst (v := 0) C.1 C.2.1 dX10_roughOf_0 (by decide) ?_
  refine lv_istore_n (lv' := [(2, .int _), (0, .ref _), (1, .int _)]) C.1 C.2.1 dX10_roughOf_1 rfl hl (by decide) rfl (fun ls hl => ?_)
  refine lv_aload_n C.1 C.2.1 dX10_roughOf_2 rfl (lv_at hl 1 rfl) ?_
  refine fm_getr C E lf_X10_9 hM_0 rfl dX10_roughOf_3 ?_
  refine lv_bipush (v := 38) C.1 C.2.1 dX10_roughOf_6 (by decide) ?_
  refine fm_ialdc C E 38 (by decide) hM_1 (by decide) dX10_roughOf_8 ?_
  refine lv_iconst (v := 1) C.1 C.2.1 dX10_roughOf_9 (by decide) ?_
  refine lv_iadd C.1 C.2.1 dX10_roughOf_10 ?_
  refine lv_istore_n (lv' := [(3, .int _), (2, .int _), (0, .ref _), (1, .int _)]) C.1 C.2.1 dX10_roughOf_11 rfl hl (by decide) rfl (fun ls hl => ?_)
  exact L12 _ N _ _ _ _ _ E (lv_sub hl [2, 3, 1, 0] rfl) hf
theorem dX10_faults_0 : decode cX10_faults 0 = .ok (.aload_n 0, 1) := by decide +kernel
theorem dX10_faults_1 : decode cX10_faults 1 = .ok (.iconst 0, 1) := by decide +kernel
theorem dX10_faults_2 : decode cX10_faults 2 = .ok (.putfield 77, 3) := by decide +kernel
theorem dX10_faults_5 : decode cX10_faults 5 = .ok (.iload_n 1, 1) := by decide +kernel
theorem dX10_faults_6 : decode cX10_faults 6 = .ok (.iconst 0, 1) := by decide +kernel
theorem dX10_faults_7 : decode cX10_faults 7 = .ok (.bipush 48, 2) := by decide +kernel
theorem dX10_faults_9 : decode cX10_faults 9 = .ok (.invokestatic 83, 3) := by decide +kernel
theorem dX10_faults_12 : decode cX10_faults 12 = .ok (.ifCond .ne 5, 3) := by decide +kernel
theorem dX10_faults_15 : decode cX10_faults 15 = .ok (.iconst (-1), 1) := by decide +kernel
theorem dX10_faults_16 : decode cX10_faults 16 = .ok (.ireturn, 1) := by decide +kernel
theorem dX10_faults_17 : decode cX10_faults 17 = .ok (.aload_n 0, 1) := by decide +kernel
theorem dX10_faults_18 : decode cX10_faults 18 = .ok (.invokevirtual 188, 3) := by decide +kernel
theorem dX10_faults_21 : decode cX10_faults 21 = .ok (.iconst 0, 1) := by decide +kernel
theorem dX10_faults_22 : decode cX10_faults 22 = .ok (.istore_n 2, 1) := by decide +kernel
theorem dX10_faults_23 : decode cX10_faults 23 = .ok (.iconst 0, 1) := by decide +kernel
theorem dX10_faults_24 : decode cX10_faults 24 = .ok (.istore_n 3, 1) := by decide +kernel
theorem dX10_faults_25 : decode cX10_faults 25 = .ok (.iconst 0, 1) := by decide +kernel
theorem dX10_faults_26 : decode cX10_faults 26 = .ok (.istore 4, 2) := by decide +kernel
theorem dX10_faults_28 : decode cX10_faults 28 = .ok (.iconst 0, 1) := by decide +kernel
theorem dX10_faults_29 : decode cX10_faults 29 = .ok (.istore 5, 2) := by decide +kernel
theorem dX10_faults_31 : decode cX10_faults 31 = .ok (.iload 5, 2) := by decide +kernel
theorem dX10_faults_33 : decode cX10_faults 33 = .ok (.aload_n 0, 1) := by decide +kernel
theorem dX10_faults_34 : decode cX10_faults 34 = .ok (.getfield 9, 3) := by decide +kernel
theorem dX10_faults_37 : decode cX10_faults 37 = .ok (.iconst 0, 1) := by decide +kernel
theorem dX10_faults_38 : decode cX10_faults 38 = .ok (.iaload, 1) := by decide +kernel
theorem dX10_faults_39 : decode cX10_faults 39 = .ok (.if_icmp .ge 73, 3) := by decide +kernel
theorem dX10_faults_42 : decode cX10_faults 42 = .ok (.iload_n 2, 1) := by decide +kernel
theorem dX10_faults_43 : decode cX10_faults 43 = .ok (.aload_n 0, 1) := by decide +kernel
theorem dX10_faults_44 : decode cX10_faults 44 = .ok (.iload 5, 2) := by decide +kernel
theorem dX10_faults_46 : decode cX10_faults 46 = .ok (.invokevirtual 279, 3) := by decide +kernel
theorem dX10_faults_49 : decode cX10_faults 49 = .ok (.ifCond .eq 10, 3) := by decide +kernel
theorem dX10_faults_52 : decode cX10_faults 52 = .ok (.iconst 1, 1) := by decide +kernel
theorem dX10_faults_53 : decode cX10_faults 53 = .ok (.iload 5, 2) := by decide +kernel
theorem dX10_faults_55 : decode cX10_faults 55 = .ok (.ishl, 1) := by decide +kernel
theorem dX10_faults_56 : decode cX10_faults 56 = .ok (.goto 4, 3) := by decide +kernel
theorem dX10_faults_59 : decode cX10_faults 59 = .ok (.iconst 0, 1) := by decide +kernel
theorem dX10_faults_60 : decode cX10_faults 60 = .ok (.ior, 1) := by decide +kernel
theorem dX10_faults_61 : decode cX10_faults 61 = .ok (.istore_n 2, 1) := by decide +kernel
theorem dX10_faults_62 : decode cX10_faults 62 = .ok (.iload_n 3, 1) := by decide +kernel
theorem dX10_faults_63 : decode cX10_faults 63 = .ok (.aload_n 0, 1) := by decide +kernel
theorem dX10_faults_64 : decode cX10_faults 64 = .ok (.iload 5, 2) := by decide +kernel
theorem dX10_faults_66 : decode cX10_faults 66 = .ok (.invokevirtual 282, 3) := by decide +kernel
theorem dX10_faults_69 : decode cX10_faults 69 = .ok (.iload_n 1, 1) := by decide +kernel
theorem dX10_faults_70 : decode cX10_faults 70 = .ok (.if_icmp .lt 10, 3) := by decide +kernel
theorem dX10_faults_73 : decode cX10_faults 73 = .ok (.iconst 1, 1) := by decide +kernel
theorem dX10_faults_74 : decode cX10_faults 74 = .ok (.iload 5, 2) := by decide +kernel
theorem dX10_faults_76 : decode cX10_faults 76 = .ok (.ishl, 1) := by decide +kernel
theorem dX10_faults_77 : decode cX10_faults 77 = .ok (.goto 4, 3) := by decide +kernel
theorem dX10_faults_80 : decode cX10_faults 80 = .ok (.iconst 0, 1) := by decide +kernel
theorem dX10_faults_81 : decode cX10_faults 81 = .ok (.ior, 1) := by decide +kernel
theorem dX10_faults_82 : decode cX10_faults 82 = .ok (.istore_n 3, 1) := by decide +kernel
theorem dX10_faults_83 : decode cX10_faults 83 = .ok (.iload 4, 2) := by decide +kernel
theorem dX10_faults_85 : decode cX10_faults 85 = .ok (.aload_n 0, 1) := by decide +kernel
theorem dX10_faults_86 : decode cX10_faults 86 = .ok (.iload 5, 2) := by decide +kernel
theorem dX10_faults_88 : decode cX10_faults 88 = .ok (.invokevirtual 285, 3) := by decide +kernel
theorem dX10_faults_91 : decode cX10_faults 91 = .ok (.iload_n 1, 1) := by decide +kernel
theorem dX10_faults_92 : decode cX10_faults 92 = .ok (.if_icmp .lt 10, 3) := by decide +kernel
theorem dX10_faults_95 : decode cX10_faults 95 = .ok (.iconst 1, 1) := by decide +kernel
theorem dX10_faults_96 : decode cX10_faults 96 = .ok (.iload 5, 2) := by decide +kernel
theorem dX10_faults_98 : decode cX10_faults 98 = .ok (.ishl, 1) := by decide +kernel
theorem dX10_faults_99 : decode cX10_faults 99 = .ok (.goto 4, 3) := by decide +kernel
theorem dX10_faults_102 : decode cX10_faults 102 = .ok (.iconst 0, 1) := by decide +kernel
theorem dX10_faults_103 : decode cX10_faults 103 = .ok (.ior, 1) := by decide +kernel
theorem dX10_faults_104 : decode cX10_faults 104 = .ok (.istore 4, 2) := by decide +kernel
theorem dX10_faults_106 : decode cX10_faults 106 = .ok (.iinc 5 1, 3) := by decide +kernel
theorem dX10_faults_109 : decode cX10_faults 109 = .ok (.goto (-78), 3) := by decide +kernel
theorem dX10_faults_112 : decode cX10_faults 112 = .ok (.aload_n 0, 1) := by decide +kernel
theorem dX10_faults_113 : decode cX10_faults 113 = .ok (.iconst 0, 1) := by decide +kernel
theorem dX10_faults_114 : decode cX10_faults 114 = .ok (.putfield 80, 3) := by decide +kernel
theorem dX10_faults_117 : decode cX10_faults 117 = .ok (.aload_n 0, 1) := by decide +kernel
theorem dX10_faults_118 : decode cX10_faults 118 = .ok (.iload_n 3, 1) := by decide +kernel
theorem dX10_faults_119 : decode cX10_faults 119 = .ok (.i2l, 1) := by decide +kernel
theorem dX10_faults_120 : decode cX10_faults 120 = .ok (.invokevirtual 245, 3) := by decide +kernel
theorem dX10_faults_123 : decode cX10_faults 123 = .ok (.aload_n 0, 1) := by decide +kernel
theorem dX10_faults_124 : decode cX10_faults 124 = .ok (.iload 4, 2) := by decide +kernel
theorem dX10_faults_126 : decode cX10_faults 126 = .ok (.i2l, 1) := by decide +kernel
theorem dX10_faults_127 : decode cX10_faults 127 = .ok (.invokevirtual 245, 3) := by decide +kernel
theorem dX10_faults_130 : decode cX10_faults 130 = .ok (.iload_n 2, 1) := by decide +kernel
theorem dX10_faults_131 : decode cX10_faults 131 = .ok (.ireturn, 1) := by decide +kernel
set_option maxHeartbeats 4000000 in
set_option maxRecDepth 100000 in
theorem c_Model_faults (l : Launch) (G : fm_G) (N : Nat) (M : fm_M) (v1 : Int32) (r : Int32) (M' : fm_M) (hf : pModel_faults N M v1 = some (r, M')) : fm_Met l yX10_faults cX10_faults 6 (some .int) { frames := 5, cells := 0, slots := 0, locals := 115 } shM G [.ref (G.2.1 0), .int v1] M (some (.int r)) M' := by
  refine fm_enter (by decide) (Nat.le_of_ble_eq_true rfl) ?_
  intro p e s m args below meth c ls C E hl
  have hl : lv_has ls 6 [(0, .ref (G.2.1 0)), (1, .int v1)] := hl
  have L31 : ∀ (w31_M : fm_M) (w31_v1 : Int32) (n31 : Nat) (v2 : Int32) (v3 : Int32) (v4 : Int32) (v5 : Int32) (H : Heap) (locs : List Loc) (ls : Array Slot), fm_Wd shM G w31_M s H locs → lv_has ls 6 [(0, .ref (G.2.1 0)), (1, .int w31_v1), (2, .int v2), (3, .int v3), (4, .int v4), (5, .int v5)] → fm_lp (pModel_faults_L31 N w31_M w31_v1) n31 (v2, v3, v4, v5) = some (r, M') → W p l e { frames := 5, cells := 0, slots := 0, locals := 115 } s m args below meth c H locs 0 0 (fm_Z below shM G args s (some (.int r)) M') (F0 m 31 ls []) := by
    intro w31_M w31_v1 n31
    induction n31 with
    | zero => intro v2 v3 v4 v5 H locs ls E hl hf; exact fm_lp_0 hf
    | succ n31 ih31 =>
      have J81 : ∀ (v2 : Int32) (v4 : Int32) (v5 : Int32) (s0 : Int32) (s1 : Int32) (H : Heap) (locs : List Loc) (ls : Array Slot), fm_Wd shM G w31_M s H locs → lv_has ls 6 [(0, .ref (G.2.1 0)), (1, .int w31_v1), (2, .int v2), (4, .int v4), (5, .int v5)] → pModel_faults_J81 N w31_M w31_v1 v2 v4 v5 (fm_lp (pModel_faults_L31 N w31_M w31_v1) n31) s0 s1 = some (r, M') → W p l e { frames := 5, cells := 0, slots := 0, locals := 115 } s m args below meth c H locs 0 0 (fm_Z below shM G args s (some (.int r)) M') (F0 m 81 ls [.int s1, .int s0]) := by
        intro v2 v4 v5 s0 s1 H locs ls E hl hf
        unfold pModel_faults_J81 at hf
        refine lv_ior C.1 C.2.1 dX10_faults_81 ?_
        refine lv_istore_n (lv' := [(3, .int _), (0, .ref _), (1, .int _), (2, .int _), (4, .int _), (5, .int _)]) C.1 C.2.1 dX10_faults_82 rfl hl (by decide) rfl (fun ls hl => ?_)
        refine lv_iload C.1 C.2.1 dX10_faults_83 (lv_at hl 4 rfl) ?_
        refine lv_aload_n C.1 C.2.1 dX10_faults_85 rfl (lv_at hl 1 rfl) ?_
        refine lv_iload C.1 C.2.1 dX10_faults_86 (lv_at hl 5 rfl) ?_
        obtain ⟨x88, hc88, hf⟩ := fm_bd hf
        refine fm_callV C E [.int _] [.int _] lm_X10_285 wk_X10_roughOf (c_Model_roughOf l G N _ _ _  hc88) hM_0 rfl rfl rfl hl.1 (by simp [Value.category]) ⟨⟨rfl, rfl⟩, by decide, by decide⟩ ⟨by decide, by decide⟩ dX10_faults_88 rfl (fun H locs E => ?_)
        refine W.eq (g2 := F0 m 91 ls (.int x88 :: [.int _])) rfl ?_
        refine lv_iload_n C.1 C.2.1 dX10_faults_91 rfl (lv_at hl 2 rfl) ?_
        refine lv_icmp_lt (tgt := 102) C.1 C.2.1 dX10_faults_92 (by decide) (fun hc92 => ?_) (fun hc92 => ?_)
        · have hf := fm_ip hf hc92
          refine lv_iconst (v := 0) C.1 C.2.1 dX10_faults_102 (by decide) ?_
          refine lv_ior C.1 C.2.1 dX10_faults_103 ?_
          refine lv_istore (lv' := [(4, .int _), (3, .int _), (0, .ref _), (1, .int _), (2, .int _), (5, .int _)]) C.1 C.2.1 dX10_faults_104 hl (by decide) rfl (fun ls hl => ?_)
          refine fm_iinc C (v := 1) (lv' := [(5, .int _), (4, .int _), (3, .int _), (0, .ref _), (1, .int _), (2, .int _)]) (k := 5) hl rfl (by decide) (by decide) rfl dX10_faults_106 (fun ls hl => ?_)
          refine lv_goto (tgt := 31) C.1 C.2.1 dX10_faults_109 (by decide) ?_
          exact ih31 _ _ _ _ _ _ _ E (lv_sub hl [3, 4, 5, 2, 1, 0] rfl) hf
        · have hf := fm_in' hf hc92
          refine lv_iconst (v := 1) C.1 C.2.1 dX10_faults_95 (by decide) ?_
          refine lv_iload C.1 C.2.1 dX10_faults_96 (lv_at hl 5 rfl) ?_
          refine lv_ishl C.1 C.2.1 dX10_faults_98 ?_
          refine lv_goto (tgt := 103) C.1 C.2.1 dX10_faults_99 (by decide) ?_
          refine lv_ior C.1 C.2.1 dX10_faults_103 ?_
          refine lv_istore (lv' := [(4, .int _), (3, .int _), (0, .ref _), (1, .int _), (2, .int _), (5, .int _)]) C.1 C.2.1 dX10_faults_104 hl (by decide) rfl (fun ls hl => ?_)
          refine fm_iinc C (v := 1) (lv' := [(5, .int _), (4, .int _), (3, .int _), (0, .ref _), (1, .int _), (2, .int _)]) (k := 5) hl rfl (by decide) (by decide) rfl dX10_faults_106 (fun ls hl => ?_)
          refine lv_goto (tgt := 31) C.1 C.2.1 dX10_faults_109 (by decide) ?_
          exact ih31 _ _ _ _ _ _ _ E (lv_sub hl [3, 4, 5, 2, 1, 0] rfl) hf
      have J60 : ∀ (v3 : Int32) (v4 : Int32) (v5 : Int32) (s0 : Int32) (s1 : Int32) (H : Heap) (locs : List Loc) (ls : Array Slot), fm_Wd shM G w31_M s H locs → lv_has ls 6 [(0, .ref (G.2.1 0)), (1, .int w31_v1), (3, .int v3), (4, .int v4), (5, .int v5)] → pModel_faults_J60 N w31_M w31_v1 v3 v4 v5 (fm_lp (pModel_faults_L31 N w31_M w31_v1) n31) s0 s1 = some (r, M') → W p l e { frames := 5, cells := 0, slots := 0, locals := 115 } s m args below meth c H locs 0 0 (fm_Z below shM G args s (some (.int r)) M') (F0 m 60 ls [.int s1, .int s0]) := by
        intro v3 v4 v5 s0 s1 H locs ls E hl hf
        unfold pModel_faults_J60 at hf
        refine lv_ior C.1 C.2.1 dX10_faults_60 ?_
        refine lv_istore_n (lv' := [(2, .int _), (0, .ref _), (1, .int _), (3, .int _), (4, .int _), (5, .int _)]) C.1 C.2.1 dX10_faults_61 rfl hl (by decide) rfl (fun ls hl => ?_)
        refine lv_iload_n C.1 C.2.1 dX10_faults_62 rfl (lv_at hl 3 rfl) ?_
        refine lv_aload_n C.1 C.2.1 dX10_faults_63 rfl (lv_at hl 1 rfl) ?_
        refine lv_iload C.1 C.2.1 dX10_faults_64 (lv_at hl 5 rfl) ?_
        obtain ⟨x66, hc66, hf⟩ := fm_bd hf
        refine fm_callV C E [.int _] [.int _] lm_X10_282 wk_X10_clippedOf (c_Model_clippedOf l G N _ _ _  hc66) hM_0 rfl rfl rfl hl.1 (by simp [Value.category]) ⟨⟨rfl, rfl⟩, by decide, by decide⟩ ⟨by decide, by decide⟩ dX10_faults_66 rfl (fun H locs E => ?_)
        refine W.eq (g2 := F0 m 69 ls (.int x66 :: [.int _])) rfl ?_
        refine lv_iload_n C.1 C.2.1 dX10_faults_69 rfl (lv_at hl 2 rfl) ?_
        refine lv_icmp_lt (tgt := 80) C.1 C.2.1 dX10_faults_70 (by decide) (fun hc70 => ?_) (fun hc70 => ?_)
        · have hf := fm_ip hf hc70
          refine lv_iconst (v := 0) C.1 C.2.1 dX10_faults_80 (by decide) ?_
          exact J81 _ _ _ _ _ _ _ _ E (lv_sub hl [1, 2, 0, 4, 5] rfl) hf
        · have hf := fm_in' hf hc70
          refine lv_iconst (v := 1) C.1 C.2.1 dX10_faults_73 (by decide) ?_
          refine lv_iload C.1 C.2.1 dX10_faults_74 (lv_at hl 5 rfl) ?_
          refine lv_ishl C.1 C.2.1 dX10_faults_76 ?_
          refine lv_goto (tgt := 81) C.1 C.2.1 dX10_faults_77 (by decide) ?_
          exact J81 _ _ _ _ _ _ _ _ E (lv_sub hl [1, 2, 0, 4, 5] rfl) hf
      intro v2 v3 v4 v5 H locs ls E hl hf
      have hf : pModel_faults_L31b N w31_M w31_v1 (fm_lp (pModel_faults_L31 N w31_M w31_v1) n31) v2 v3 v4 v5 = some (r, M') := hf
      unfold pModel_faults_L31b at hf
      refine lv_iload C.1 C.2.1 dX10_faults_31 (lv_at hl 5 rfl) ?_
      refine lv_aload_n C.1 C.2.1 dX10_faults_33 rfl (lv_at hl 0 rfl) ?_
      refine fm_getr C E lf_X10_9 hM_0 rfl dX10_faults_34 ?_
      refine lv_iconst (v := 0) C.1 C.2.1 dX10_faults_37 (by decide) ?_
      refine fm_ialdc C E 0 (by decide) hM_1 (by decide) dX10_faults_38 ?_
      refine lv_icmp_ge (tgt := 112) C.1 C.2.1 dX10_faults_39 (by decide) (fun hc39 => ?_) (fun hc39 => ?_)
      · have hf := fm_ip hf hc39
        refine lv_aload_n C.1 C.2.1 dX10_faults_112 rfl (lv_at hl 0 rfl) ?_
        refine lv_iconst (v := 0) C.1 C.2.1 dX10_faults_113 (by decide) ?_
        obtain ⟨M114, e114, hf⟩ := fm_pt_s hf
        refine fm_put' C E e114 lp_X10_80 hM_0 rfl dX10_faults_114 (fun H locs E => ?_)
        refine lv_aload_n C.1 C.2.1 dX10_faults_117 rfl (lv_at hl 0 rfl) ?_
        refine lv_iload_n C.1 C.2.1 dX10_faults_118 rfl (lv_at hl 3 rfl) ?_
        refine lv_i2l C.1 C.2.1 dX10_faults_119 rfl ?_
        obtain ⟨M120, hc120, hf⟩ := fm_bd hf
        refine fm_callV C E [.long _] [] lm_X10_245 wk_X10_tell (c_Model_tell l G _ _ _ hc120) hM_0 rfl rfl rfl hl.1 (by simp [Value.category]) ⟨⟨rfl, rfl⟩, by decide, by decide⟩ ⟨by decide, by decide⟩ dX10_faults_120 rfl (fun H locs E => ?_)
        refine W.eq (g2 := F0 m 123 ls []) rfl ?_
        refine lv_aload_n C.1 C.2.1 dX10_faults_123 rfl (lv_at hl 0 rfl) ?_
        refine lv_iload C.1 C.2.1 dX10_faults_124 (lv_at hl 4 rfl) ?_
        refine lv_i2l C.1 C.2.1 dX10_faults_126 rfl ?_
        obtain ⟨M127, hc127, hf⟩ := fm_bd hf
        refine fm_callV C E [.long _] [] lm_X10_245 wk_X10_tell (c_Model_tell l G _ _ _ hc127) hM_0 rfl rfl rfl hl.1 (by simp [Value.category]) ⟨⟨rfl, rfl⟩, by decide, by decide⟩ ⟨by decide, by decide⟩ dX10_faults_127 rfl (fun H locs E => ?_)
        refine W.eq (g2 := F0 m 130 ls []) rfl ?_
        refine lv_iload_n C.1 C.2.1 dX10_faults_130 rfl (lv_at hl 2 rfl) ?_
        obtain ⟨rfl, rfl⟩ := fm_rt2 hf
        exact fm_iret C E rfl rfl dX10_faults_131
      · have hf := fm_in' hf hc39
        refine lv_iload_n C.1 C.2.1 dX10_faults_42 rfl (lv_at hl 2 rfl) ?_
        refine lv_aload_n C.1 C.2.1 dX10_faults_43 rfl (lv_at hl 0 rfl) ?_
        refine lv_iload C.1 C.2.1 dX10_faults_44 (lv_at hl 5 rfl) ?_
        obtain ⟨x46, hc46, hf⟩ := fm_bd hf
        refine fm_callV C E [.int _] [.int _] lm_X10_279 wk_X10_isQuiet (c_Model_isQuiet l G N _ _ _  hc46) hM_0 rfl rfl rfl hl.1 (by simp [Value.category]) ⟨⟨rfl, rfl⟩, by decide, by decide⟩ ⟨by decide, by decide⟩ dX10_faults_46 rfl (fun H locs E => ?_)
        refine W.eq (g2 := F0 m 49 ls (.int x46 :: [.int _])) rfl ?_
        refine lv_if_eq (tgt := 59) C.1 C.2.1 dX10_faults_49 (by decide) (fun hc49 => ?_) (fun hc49 => ?_)
        · have hf := fm_ip hf hc49
          refine lv_iconst (v := 0) C.1 C.2.1 dX10_faults_59 (by decide) ?_
          exact J60 _ _ _ _ _ _ _ _ E (lv_sub hl [0, 1, 3, 4, 5] rfl) hf
        · have hf := fm_in' hf hc49
          refine lv_iconst (v := 1) C.1 C.2.1 dX10_faults_52 (by decide) ?_
          refine lv_iload C.1 C.2.1 dX10_faults_53 (lv_at hl 5 rfl) ?_
          refine lv_ishl C.1 C.2.1 dX10_faults_55 ?_
          refine lv_goto (tgt := 60) C.1 C.2.1 dX10_faults_56 (by decide) ?_
          exact J60 _ _ _ _ _ _ _ _ E (lv_sub hl [0, 1, 3, 4, 5] rfl) hf
  unfold pModel_faults at hf
  refine lv_aload_n C.1 C.2.1 dX10_faults_0 rfl (lv_at hl 0 rfl) ?_
  refine lv_iconst (v := 0) C.1 C.2.1 dX10_faults_1 (by decide) ?_
  obtain ⟨M2, e2, hf⟩ := fm_pt_s hf
  refine fm_put' C E e2 lp_X10_77 hM_0 rfl dX10_faults_2 (fun H locs E => ?_)
  refine lv_iload_n C.1 C.2.1 dX10_faults_5 rfl (lv_at hl 1 rfl) ?_
  refine lv_iconst (v := 0) C.1 C.2.1 dX10_faults_6 (by decide) ?_
  refine lv_bipush (v := 48) C.1 C.2.1 dX10_faults_7 (by decide) ?_
  obtain ⟨x9, hc9, hf⟩ := fm_bd hf
  refine fm_callS C E [.int _, .int _, .int _] [] lm_X10_83 wk_X10_in (c_Model_in l G _ _ _ _ _  hc9) rfl hl.1 (by simp [Value.category]) ⟨⟨rfl, rfl⟩, by decide, by decide⟩ ⟨by decide, by decide⟩ dX10_faults_9 rfl (fun H locs E => ?_)
  refine W.eq (g2 := F0 m 12 ls (.int x9 :: [])) rfl ?_
  refine lv_if_ne (tgt := 17) C.1 C.2.1 dX10_faults_12 (by decide) (fun hc12 => ?_) (fun hc12 => ?_)
  · have hf := fm_in' hf hc12
    refine lv_aload_n C.1 C.2.1 dX10_faults_17 rfl (lv_at hl 0 rfl) ?_
    obtain ⟨M18, hc18, hf⟩ := fm_bd hf
    refine fm_callV C E [] [] lm_X10_188 wk_X10_hear (c_Model_hear l G N _ _ hc18) hM_0 rfl rfl rfl hl.1 (by simp [Value.category]) ⟨⟨rfl, rfl⟩, by decide, by decide⟩ ⟨by decide, by decide⟩ dX10_faults_18 rfl (fun H locs E => ?_)
    refine W.eq (g2 := F0 m 21 ls []) rfl ?_
    refine lv_iconst (v := 0) C.1 C.2.1 dX10_faults_21 (by decide) ?_
    refine lv_istore_n (lv' := [(2, .int _), (0, .ref _), (1, .int _)]) C.1 C.2.1 dX10_faults_22 rfl hl (by decide) rfl (fun ls hl => ?_)
    refine lv_iconst (v := 0) C.1 C.2.1 dX10_faults_23 (by decide) ?_
    refine lv_istore_n (lv' := [(3, .int _), (2, .int _), (0, .ref _), (1, .int _)]) C.1 C.2.1 dX10_faults_24 rfl hl (by decide) rfl (fun ls hl => ?_)
    refine lv_iconst (v := 0) C.1 C.2.1 dX10_faults_25 (by decide) ?_
    refine lv_istore (lv' := [(4, .int _), (3, .int _), (2, .int _), (0, .ref _), (1, .int _)]) C.1 C.2.1 dX10_faults_26 hl (by decide) rfl (fun ls hl => ?_)
    refine lv_iconst (v := 0) C.1 C.2.1 dX10_faults_28 (by decide) ?_
    refine lv_istore (lv' := [(5, .int _), (4, .int _), (3, .int _), (2, .int _), (0, .ref _), (1, .int _)]) C.1 C.2.1 dX10_faults_29 hl (by decide) rfl (fun ls hl => ?_)
    exact L31 _ _ N _ _ _ _ _ _ _ E (lv_sub hl [4, 5, 3, 2, 1, 0] rfl) hf
  · have hf := fm_ip hf hc12
    refine lv_iconst (v := (-1)) C.1 C.2.1 dX10_faults_15 (by decide) ?_
    obtain ⟨rfl, rfl⟩ := fm_rt2 hf
    exact fm_iret C E rfl rfl dX10_faults_16
theorem dX10_clipped_0 : decode cX10_clipped 0 = .ok (.aload_n 0, 1) := by decide +kernel
theorem dX10_clipped_1 : decode cX10_clipped 1 = .ok (.iconst 0, 1) := by decide +kernel
theorem dX10_clipped_2 : decode cX10_clipped 2 = .ok (.putfield 77, 3) := by decide +kernel
theorem dX10_clipped_5 : decode cX10_clipped 5 = .ok (.aload_n 0, 1) := by decide +kernel
theorem dX10_clipped_6 : decode cX10_clipped 6 = .ok (.iload_n 1, 1) := by decide +kernel
theorem dX10_clipped_7 : decode cX10_clipped 7 = .ok (.invokevirtual 153, 3) := by decide +kernel
theorem dX10_clipped_10 : decode cX10_clipped 10 = .ok (.ifCond .ne 5, 3) := by decide +kernel
theorem dX10_clipped_13 : decode cX10_clipped 13 = .ok (.iconst (-1), 1) := by decide +kernel
theorem dX10_clipped_14 : decode cX10_clipped 14 = .ok (.ireturn, 1) := by decide +kernel
theorem dX10_clipped_15 : decode cX10_clipped 15 = .ok (.aload_n 0, 1) := by decide +kernel
theorem dX10_clipped_16 : decode cX10_clipped 16 = .ok (.invokevirtual 188, 3) := by decide +kernel
theorem dX10_clipped_19 : decode cX10_clipped 19 = .ok (.aload_n 0, 1) := by decide +kernel
theorem dX10_clipped_20 : decode cX10_clipped 20 = .ok (.iconst 0, 1) := by decide +kernel
theorem dX10_clipped_21 : decode cX10_clipped 21 = .ok (.putfield 80, 3) := by decide +kernel
theorem dX10_clipped_24 : decode cX10_clipped 24 = .ok (.aload_n 0, 1) := by decide +kernel
theorem dX10_clipped_25 : decode cX10_clipped 25 = .ok (.aload_n 0, 1) := by decide +kernel
theorem dX10_clipped_26 : decode cX10_clipped 26 = .ok (.iload_n 1, 1) := by decide +kernel
theorem dX10_clipped_27 : decode cX10_clipped 27 = .ok (.invokevirtual 285, 3) := by decide +kernel
theorem dX10_clipped_30 : decode cX10_clipped 30 = .ok (.i2l, 1) := by decide +kernel
theorem dX10_clipped_31 : decode cX10_clipped 31 = .ok (.invokevirtual 245, 3) := by decide +kernel
theorem dX10_clipped_34 : decode cX10_clipped 34 = .ok (.aload_n 0, 1) := by decide +kernel
theorem dX10_clipped_35 : decode cX10_clipped 35 = .ok (.aload_n 0, 1) := by decide +kernel
theorem dX10_clipped_36 : decode cX10_clipped 36 = .ok (.iload_n 1, 1) := by decide +kernel
theorem dX10_clipped_37 : decode cX10_clipped 37 = .ok (.invokevirtual 279, 3) := by decide +kernel
theorem dX10_clipped_40 : decode cX10_clipped 40 = .ok (.ifCond .eq 7, 3) := by decide +kernel
theorem dX10_clipped_43 : decode cX10_clipped 43 = .ok (.lconst 1, 1) := by decide +kernel
theorem dX10_clipped_44 : decode cX10_clipped 44 = .ok (.goto 4, 3) := by decide +kernel
theorem dX10_clipped_47 : decode cX10_clipped 47 = .ok (.lconst 0, 1) := by decide +kernel
theorem dX10_clipped_48 : decode cX10_clipped 48 = .ok (.invokevirtual 245, 3) := by decide +kernel
theorem dX10_clipped_51 : decode cX10_clipped 51 = .ok (.aload_n 0, 1) := by decide +kernel
theorem dX10_clipped_52 : decode cX10_clipped 52 = .ok (.iload_n 1, 1) := by decide +kernel
theorem dX10_clipped_53 : decode cX10_clipped 53 = .ok (.invokevirtual 282, 3) := by decide +kernel
theorem dX10_clipped_56 : decode cX10_clipped 56 = .ok (.ireturn, 1) := by decide +kernel
set_option maxHeartbeats 4000000 in
set_option maxRecDepth 100000 in
theorem c_Model_clipped (l : Launch) (G : fm_G) (N : Nat) (M : fm_M) (v1 : Int32) (r : Int32) (M' : fm_M) (hf : pModel_clipped N M v1 = some (r, M')) : fm_Met l yX10_clipped cX10_clipped 2 (some .int) { frames := 5, cells := 0, slots := 0, locals := 115 } shM G [.ref (G.2.1 0), .int v1] M (some (.int r)) M' := by
  refine fm_enter (by decide) (Nat.le_of_ble_eq_true rfl) ?_
  intro p e s m args below meth c ls C E hl
  have hl : lv_has ls 2 [(0, .ref (G.2.1 0)), (1, .int v1)] := hl
  have J48 : ∀ (M : fm_M) (v1 : Int32) (s1 : Int64) (H : Heap) (locs : List Loc) (ls : Array Slot), fm_Wd shM G M s H locs → lv_has ls 2 [(0, .ref (G.2.1 0)), (1, .int v1)] → pModel_clipped_J48 N M v1 s1 = some (r, M') → W p l e { frames := 5, cells := 0, slots := 0, locals := 115 } s m args below meth c H locs 0 0 (fm_Z below shM G args s (some (.int r)) M') (F0 m 48 ls [.long s1, .ref (G.2.1 0)]) := by
    intro M v1 s1 H locs ls E hl hf
    unfold pModel_clipped_J48 at hf
    obtain ⟨M48, hc48, hf⟩ := fm_bd hf
    refine fm_callV C E [.long _] [] lm_X10_245 wk_X10_tell (c_Model_tell l G _ _ _ hc48) hM_0 rfl rfl rfl hl.1 (by simp [Value.category]) ⟨⟨rfl, rfl⟩, by decide, by decide⟩ ⟨by decide, by decide⟩ dX10_clipped_48 rfl (fun H locs E => ?_)
    refine W.eq (g2 := F0 m 51 ls []) rfl ?_
    refine lv_aload_n C.1 C.2.1 dX10_clipped_51 rfl (lv_at hl 0 rfl) ?_
    refine lv_iload_n C.1 C.2.1 dX10_clipped_52 rfl (lv_at hl 1 rfl) ?_
    obtain ⟨x53, hc53, hf⟩ := fm_bd hf
    refine fm_callV C E [.int _] [] lm_X10_282 wk_X10_clippedOf (c_Model_clippedOf l G N _ _ _  hc53) hM_0 rfl rfl rfl hl.1 (by simp [Value.category]) ⟨⟨rfl, rfl⟩, by decide, by decide⟩ ⟨by decide, by decide⟩ dX10_clipped_53 rfl (fun H locs E => ?_)
    refine W.eq (g2 := F0 m 56 ls (.int x53 :: [])) rfl ?_
    obtain ⟨rfl, rfl⟩ := fm_rt2 hf
    exact fm_iret C E rfl rfl dX10_clipped_56
  unfold pModel_clipped at hf
  refine lv_aload_n C.1 C.2.1 dX10_clipped_0 rfl (lv_at hl 0 rfl) ?_
  refine lv_iconst (v := 0) C.1 C.2.1 dX10_clipped_1 (by decide) ?_
  obtain ⟨M2, e2, hf⟩ := fm_pt_s hf
  refine fm_put' C E e2 lp_X10_77 hM_0 rfl dX10_clipped_2 (fun H locs E => ?_)
  refine lv_aload_n C.1 C.2.1 dX10_clipped_5 rfl (lv_at hl 0 rfl) ?_
  refine lv_iload_n C.1 C.2.1 dX10_clipped_6 rfl (lv_at hl 1 rfl) ?_
  obtain ⟨x7, hc7, hf⟩ := fm_bd hf
  refine fm_callV C E [.int _] [] lm_X10_153 wk_X10_isMic (c_Model_isMic l G _ _ _  hc7) hM_0 rfl rfl rfl hl.1 (by simp [Value.category]) ⟨⟨rfl, rfl⟩, by decide, by decide⟩ ⟨by decide, by decide⟩ dX10_clipped_7 rfl (fun H locs E => ?_)
  refine W.eq (g2 := F0 m 10 ls (.int x7 :: [])) rfl ?_
  refine lv_if_ne (tgt := 15) C.1 C.2.1 dX10_clipped_10 (by decide) (fun hc10 => ?_) (fun hc10 => ?_)
  · have hf := fm_in' hf hc10
    refine lv_aload_n C.1 C.2.1 dX10_clipped_15 rfl (lv_at hl 0 rfl) ?_
    obtain ⟨M16, hc16, hf⟩ := fm_bd hf
    refine fm_callV C E [] [] lm_X10_188 wk_X10_hear (c_Model_hear l G N _ _ hc16) hM_0 rfl rfl rfl hl.1 (by simp [Value.category]) ⟨⟨rfl, rfl⟩, by decide, by decide⟩ ⟨by decide, by decide⟩ dX10_clipped_16 rfl (fun H locs E => ?_)
    refine W.eq (g2 := F0 m 19 ls []) rfl ?_
    refine lv_aload_n C.1 C.2.1 dX10_clipped_19 rfl (lv_at hl 0 rfl) ?_
    refine lv_iconst (v := 0) C.1 C.2.1 dX10_clipped_20 (by decide) ?_
    obtain ⟨M21, e21, hf⟩ := fm_pt_s hf
    refine fm_put' C E e21 lp_X10_80 hM_0 rfl dX10_clipped_21 (fun H locs E => ?_)
    refine lv_aload_n C.1 C.2.1 dX10_clipped_24 rfl (lv_at hl 0 rfl) ?_
    refine lv_aload_n C.1 C.2.1 dX10_clipped_25 rfl (lv_at hl 0 rfl) ?_
    refine lv_iload_n C.1 C.2.1 dX10_clipped_26 rfl (lv_at hl 1 rfl) ?_
    obtain ⟨x27, hc27, hf⟩ := fm_bd hf
    refine fm_callV C E [.int _] [.ref _] lm_X10_285 wk_X10_roughOf (c_Model_roughOf l G N _ _ _  hc27) hM_0 rfl rfl rfl hl.1 (by simp [Value.category]) ⟨⟨rfl, rfl⟩, by decide, by decide⟩ ⟨by decide, by decide⟩ dX10_clipped_27 rfl (fun H locs E => ?_)
    refine W.eq (g2 := F0 m 30 ls (.int x27 :: [.ref _])) rfl ?_
    refine lv_i2l C.1 C.2.1 dX10_clipped_30 rfl ?_
    obtain ⟨M31, hc31, hf⟩ := fm_bd hf
    refine fm_callV C E [.long _] [] lm_X10_245 wk_X10_tell (c_Model_tell l G _ _ _ hc31) hM_0 rfl rfl rfl hl.1 (by simp [Value.category]) ⟨⟨rfl, rfl⟩, by decide, by decide⟩ ⟨by decide, by decide⟩ dX10_clipped_31 rfl (fun H locs E => ?_)
    refine W.eq (g2 := F0 m 34 ls []) rfl ?_
    refine lv_aload_n C.1 C.2.1 dX10_clipped_34 rfl (lv_at hl 0 rfl) ?_
    refine lv_aload_n C.1 C.2.1 dX10_clipped_35 rfl (lv_at hl 0 rfl) ?_
    refine lv_iload_n C.1 C.2.1 dX10_clipped_36 rfl (lv_at hl 1 rfl) ?_
    obtain ⟨x37, hc37, hf⟩ := fm_bd hf
    refine fm_callV C E [.int _] [.ref _] lm_X10_279 wk_X10_isQuiet (c_Model_isQuiet l G N _ _ _  hc37) hM_0 rfl rfl rfl hl.1 (by simp [Value.category]) ⟨⟨rfl, rfl⟩, by decide, by decide⟩ ⟨by decide, by decide⟩ dX10_clipped_37 rfl (fun H locs E => ?_)
    refine W.eq (g2 := F0 m 40 ls (.int x37 :: [.ref _])) rfl ?_
    refine lv_if_eq (tgt := 47) C.1 C.2.1 dX10_clipped_40 (by decide) (fun hc40 => ?_) (fun hc40 => ?_)
    · have hf := fm_ip hf hc40
      refine lv_lconst (v := 0) C.1 C.2.1 dX10_clipped_47 (by decide) ?_
      exact J48 _ _ _ _ _ _ E (lv_sub hl [0, 1] rfl) hf
    · have hf := fm_in' hf hc40
      refine lv_lconst (v := 1) C.1 C.2.1 dX10_clipped_43 (by decide) ?_
      refine lv_goto (tgt := 48) C.1 C.2.1 dX10_clipped_44 (by decide) ?_
      exact J48 _ _ _ _ _ _ E (lv_sub hl [0, 1] rfl) hf
  · have hf := fm_ip hf hc10
    refine lv_iconst (v := (-1)) C.1 C.2.1 dX10_clipped_13 (by decide) ?_
    obtain ⟨rfl, rfl⟩ := fm_rt2 hf
    exact fm_iret C E rfl rfl dX10_clipped_14
theorem dX10_without_0 : decode cX10_without 0 = .ok (.aload_n 0, 1) := by decide +kernel
theorem dX10_without_1 : decode cX10_without 1 = .ok (.iconst 0, 1) := by decide +kernel
theorem dX10_without_2 : decode cX10_without 2 = .ok (.putfield 77, 3) := by decide +kernel
theorem dX10_without_5 : decode cX10_without 5 = .ok (.aload_n 0, 1) := by decide +kernel
theorem dX10_without_6 : decode cX10_without 6 = .ok (.invokevirtual 204, 3) := by decide +kernel
theorem dX10_without_9 : decode cX10_without 9 = .ok (.istore_n 3, 1) := by decide +kernel
theorem dX10_without_10 : decode cX10_without 10 = .ok (.aload_n 0, 1) := by decide +kernel
theorem dX10_without_11 : decode cX10_without 11 = .ok (.iload_n 1, 1) := by decide +kernel
theorem dX10_without_12 : decode cX10_without 12 = .ok (.invokevirtual 153, 3) := by decide +kernel
theorem dX10_without_15 : decode cX10_without 15 = .ok (.ifCond .eq 18, 3) := by decide +kernel
theorem dX10_without_18 : decode cX10_without 18 = .ok (.iload_n 3, 1) := by decide +kernel
theorem dX10_without_19 : decode cX10_without 19 = .ok (.iload_n 1, 1) := by decide +kernel
theorem dX10_without_20 : decode cX10_without 20 = .ok (.invokestatic 194, 3) := by decide +kernel
theorem dX10_without_23 : decode cX10_without 23 = .ok (.ifCond .eq 10, 3) := by decide +kernel
theorem dX10_without_26 : decode cX10_without 26 = .ok (.iload_n 2, 1) := by decide +kernel
theorem dX10_without_27 : decode cX10_without 27 = .ok (.invokestatic 182, 3) := by decide +kernel
theorem dX10_without_30 : decode cX10_without 30 = .ok (.ifCond .ne 5, 3) := by decide +kernel
theorem dX10_without_33 : decode cX10_without 33 = .ok (.iconst (-1), 1) := by decide +kernel
theorem dX10_without_34 : decode cX10_without 34 = .ok (.ireturn, 1) := by decide +kernel
theorem dX10_without_35 : decode cX10_without 35 = .ok (.iload_n 3, 1) := by decide +kernel
theorem dX10_without_36 : decode cX10_without 36 = .ok (.invokestatic 198, 3) := by decide +kernel
theorem dX10_without_39 : decode cX10_without 39 = .ok (.iconst 1, 1) := by decide +kernel
theorem dX10_without_40 : decode cX10_without 40 = .ok (.if_icmp .ne 6, 3) := by decide +kernel
theorem dX10_without_43 : decode cX10_without 43 = .ok (.bipush (-2), 2) := by decide +kernel
theorem dX10_without_45 : decode cX10_without 45 = .ok (.ireturn, 1) := by decide +kernel
theorem dX10_without_46 : decode cX10_without 46 = .ok (.aload_n 0, 1) := by decide +kernel
theorem dX10_without_47 : decode cX10_without 47 = .ok (.invokevirtual 188, 3) := by decide +kernel
theorem dX10_without_50 : decode cX10_without 50 = .ok (.aload_n 0, 1) := by decide +kernel
theorem dX10_without_51 : decode cX10_without 51 = .ok (.iconst 0, 1) := by decide +kernel
theorem dX10_without_52 : decode cX10_without 52 = .ok (.putfield 80, 3) := by decide +kernel
theorem dX10_without_55 : decode cX10_without 55 = .ok (.aload_n 0, 1) := by decide +kernel
theorem dX10_without_56 : decode cX10_without 56 = .ok (.aload_n 0, 1) := by decide +kernel
theorem dX10_without_57 : decode cX10_without 57 = .ok (.iload_n 3, 1) := by decide +kernel
theorem dX10_without_58 : decode cX10_without 58 = .ok (.iload_n 2, 1) := by decide +kernel
theorem dX10_without_59 : decode cX10_without 59 = .ok (.invokevirtual 253, 3) := by decide +kernel
theorem dX10_without_62 : decode cX10_without 62 = .ok (.invokevirtual 245, 3) := by decide +kernel
theorem dX10_without_65 : decode cX10_without 65 = .ok (.aload_n 0, 1) := by decide +kernel
theorem dX10_without_66 : decode cX10_without 66 = .ok (.iload_n 3, 1) := by decide +kernel
theorem dX10_without_67 : decode cX10_without 67 = .ok (.iconst 1, 1) := by decide +kernel
theorem dX10_without_68 : decode cX10_without 68 = .ok (.iload_n 1, 1) := by decide +kernel
theorem dX10_without_69 : decode cX10_without 69 = .ok (.ishl, 1) := by decide +kernel
theorem dX10_without_70 : decode cX10_without 70 = .ok (.iconst (-1), 1) := by decide +kernel
theorem dX10_without_71 : decode cX10_without 71 = .ok (.ixor, 1) := by decide +kernel
theorem dX10_without_72 : decode cX10_without 72 = .ok (.iand, 1) := by decide +kernel
theorem dX10_without_73 : decode cX10_without 73 = .ok (.iload_n 2, 1) := by decide +kernel
theorem dX10_without_74 : decode cX10_without 74 = .ok (.invokevirtual 253, 3) := by decide +kernel
theorem dX10_without_77 : decode cX10_without 77 = .ok (.l2i, 1) := by decide +kernel
theorem dX10_without_78 : decode cX10_without 78 = .ok (.ireturn, 1) := by decide +kernel
set_option maxHeartbeats 4000000 in
set_option maxRecDepth 100000 in
theorem c_Model_without (l : Launch) (G : fm_G) (N : Nat) (M : fm_M) (v1 : Int32) (v2 : Int32) (r : Int32) (M' : fm_M) (hf : pModel_without N M v1 v2 = some (r, M')) : fm_Met l yX10_without cX10_without 4 (some .int) { frames := 6, cells := 0, slots := 0, locals := 139 } shM G [.ref (G.2.1 0), .int v1, .int v2] M (some (.int r)) M' := by
  refine fm_enter (by decide) (Nat.le_of_ble_eq_true rfl) ?_
  intro p e s m args below meth c ls C E hl
  have hl : lv_has ls 4 [(0, .ref (G.2.1 0)), (1, .int v1), (2, .int v2)] := hl
  unfold pModel_without at hf
  refine lv_aload_n C.1 C.2.1 dX10_without_0 rfl (lv_at hl 0 rfl) ?_
  refine lv_iconst (v := 0) C.1 C.2.1 dX10_without_1 (by decide) ?_
  obtain ⟨M2, e2, hf⟩ := fm_pt_s hf
  refine fm_put' C E e2 lp_X10_77 hM_0 rfl dX10_without_2 (fun H locs E => ?_)
  refine lv_aload_n C.1 C.2.1 dX10_without_5 rfl (lv_at hl 0 rfl) ?_
  obtain ⟨x6, hc6, hf⟩ := fm_bd hf
  refine fm_callV C E [] [] lm_X10_204 wk_X10_liveBits (c_Model_liveBits l G N _ _  hc6) hM_0 rfl rfl rfl hl.1 (by simp [Value.category]) ⟨⟨rfl, rfl⟩, by decide, by decide⟩ ⟨by decide, by decide⟩ dX10_without_6 rfl (fun H locs E => ?_)
  refine W.eq (g2 := F0 m 9 ls (.int x6 :: [])) rfl ?_
  refine lv_istore_n (lv' := [(3, .int _), (0, .ref _), (1, .int _), (2, .int _)]) C.1 C.2.1 dX10_without_9 rfl hl (by decide) rfl (fun ls hl => ?_)
  refine lv_aload_n C.1 C.2.1 dX10_without_10 rfl (lv_at hl 1 rfl) ?_
  refine lv_iload_n C.1 C.2.1 dX10_without_11 rfl (lv_at hl 2 rfl) ?_
  obtain ⟨x12, hc12, hf⟩ := fm_bd hf
  refine fm_callV C E [.int _] [] lm_X10_153 wk_X10_isMic (c_Model_isMic l G _ _ _  hc12) hM_0 rfl rfl rfl hl.1 (by simp [Value.category]) ⟨⟨rfl, rfl⟩, by decide, by decide⟩ ⟨by decide, by decide⟩ dX10_without_12 rfl (fun H locs E => ?_)
  refine W.eq (g2 := F0 m 15 ls (.int x12 :: [])) rfl ?_
  refine lv_if_eq (tgt := 33) C.1 C.2.1 dX10_without_15 (by decide) (fun hc15 => ?_) (fun hc15 => ?_)
  · have hf := fm_ip hf hc15
    refine lv_iconst (v := (-1)) C.1 C.2.1 dX10_without_33 (by decide) ?_
    obtain ⟨rfl, rfl⟩ := fm_rt2 hf
    exact fm_iret C E rfl rfl dX10_without_34
  · have hf := fm_in' hf hc15
    refine lv_iload_n C.1 C.2.1 dX10_without_18 rfl (lv_at hl 0 rfl) ?_
    refine lv_iload_n C.1 C.2.1 dX10_without_19 rfl (lv_at hl 2 rfl) ?_
    obtain ⟨x20, hc20, hf⟩ := fm_bd hf
    refine fm_callS C E [.int _, .int _] [] lm_X10_194 wk_X10_has (c_Model_has l G _ _ _ _  hc20) rfl hl.1 (by simp [Value.category]) ⟨⟨rfl, rfl⟩, by decide, by decide⟩ ⟨by decide, by decide⟩ dX10_without_20 rfl (fun H locs E => ?_)
    refine W.eq (g2 := F0 m 23 ls (.int x20 :: [])) rfl ?_
    refine lv_if_eq (tgt := 33) C.1 C.2.1 dX10_without_23 (by decide) (fun hc23 => ?_) (fun hc23 => ?_)
    · have hf := fm_ip hf hc23
      refine lv_iconst (v := (-1)) C.1 C.2.1 dX10_without_33 (by decide) ?_
      obtain ⟨rfl, rfl⟩ := fm_rt2 hf
      exact fm_iret C E rfl rfl dX10_without_34
    · have hf := fm_in' hf hc23
      refine lv_iload_n C.1 C.2.1 dX10_without_26 rfl (lv_at hl 3 rfl) ?_
      obtain ⟨x27, hc27, hf⟩ := fm_bd hf
      refine fm_callS C E [.int _] [] lm_X10_182 wk_X10_isSide (c_Model_isSide l G _ _ _  hc27) rfl hl.1 (by simp [Value.category]) ⟨⟨rfl, rfl⟩, by decide, by decide⟩ ⟨by decide, by decide⟩ dX10_without_27 rfl (fun H locs E => ?_)
      refine W.eq (g2 := F0 m 30 ls (.int x27 :: [])) rfl ?_
      refine lv_if_ne (tgt := 35) C.1 C.2.1 dX10_without_30 (by decide) (fun hc30 => ?_) (fun hc30 => ?_)
      · have hf := fm_in' hf hc30
        refine lv_iload_n C.1 C.2.1 dX10_without_35 rfl (lv_at hl 0 rfl) ?_
        obtain ⟨x36, hc36, hf⟩ := fm_bd hf
        refine fm_callS C E [.int _] [] lm_X10_198 wk_X10_countBits (c_Model_countBits l G N _ _ _  hc36) rfl hl.1 (by simp [Value.category]) ⟨⟨rfl, rfl⟩, by decide, by decide⟩ ⟨by decide, by decide⟩ dX10_without_36 rfl (fun H locs E => ?_)
        refine W.eq (g2 := F0 m 39 ls (.int x36 :: [])) rfl ?_
        refine lv_iconst (v := 1) C.1 C.2.1 dX10_without_39 (by decide) ?_
        refine lv_icmp_ne (tgt := 46) C.1 C.2.1 dX10_without_40 (by decide) (fun hc40 => ?_) (fun hc40 => ?_)
        · have hf := fm_in' hf hc40
          refine lv_aload_n C.1 C.2.1 dX10_without_46 rfl (lv_at hl 1 rfl) ?_
          obtain ⟨M47, hc47, hf⟩ := fm_bd hf
          refine fm_callV C E [] [] lm_X10_188 wk_X10_hear (c_Model_hear l G N _ _ hc47) hM_0 rfl rfl rfl hl.1 (by simp [Value.category]) ⟨⟨rfl, rfl⟩, by decide, by decide⟩ ⟨by decide, by decide⟩ dX10_without_47 rfl (fun H locs E => ?_)
          refine W.eq (g2 := F0 m 50 ls []) rfl ?_
          refine lv_aload_n C.1 C.2.1 dX10_without_50 rfl (lv_at hl 1 rfl) ?_
          refine lv_iconst (v := 0) C.1 C.2.1 dX10_without_51 (by decide) ?_
          obtain ⟨M52, e52, hf⟩ := fm_pt_s hf
          refine fm_put' C E e52 lp_X10_80 hM_0 rfl dX10_without_52 (fun H locs E => ?_)
          refine lv_aload_n C.1 C.2.1 dX10_without_55 rfl (lv_at hl 1 rfl) ?_
          refine lv_aload_n C.1 C.2.1 dX10_without_56 rfl (lv_at hl 1 rfl) ?_
          refine lv_iload_n C.1 C.2.1 dX10_without_57 rfl (lv_at hl 0 rfl) ?_
          refine lv_iload_n C.1 C.2.1 dX10_without_58 rfl (lv_at hl 3 rfl) ?_
          obtain ⟨⟨x59, M59⟩, hc59, hf⟩ := fm_bd hf
          dsimp only at hf
          refine fm_callV C E [.int _, .int _] [.ref _] lm_X10_253 wk_X10_beamPower (c_Model_beamPower l G N _ _ _ _ _ hc59) hM_0 rfl rfl rfl hl.1 (by simp [Value.category]) ⟨⟨rfl, rfl⟩, by decide, by decide⟩ ⟨by decide, by decide⟩ dX10_without_59 rfl (fun H locs E => ?_)
          refine W.eq (g2 := F0 m 62 ls (.long x59 :: [.ref _])) rfl ?_
          obtain ⟨M62, hc62, hf⟩ := fm_bd hf
          refine fm_callV C E [.long _] [] lm_X10_245 wk_X10_tell (c_Model_tell l G _ _ _ hc62) hM_0 rfl rfl rfl hl.1 (by simp [Value.category]) ⟨⟨rfl, rfl⟩, by decide, by decide⟩ ⟨by decide, by decide⟩ dX10_without_62 rfl (fun H locs E => ?_)
          refine W.eq (g2 := F0 m 65 ls []) rfl ?_
          refine lv_aload_n C.1 C.2.1 dX10_without_65 rfl (lv_at hl 1 rfl) ?_
          refine lv_iload_n C.1 C.2.1 dX10_without_66 rfl (lv_at hl 0 rfl) ?_
          refine lv_iconst (v := 1) C.1 C.2.1 dX10_without_67 (by decide) ?_
          refine lv_iload_n C.1 C.2.1 dX10_without_68 rfl (lv_at hl 2 rfl) ?_
          refine lv_ishl C.1 C.2.1 dX10_without_69 ?_
          refine lv_iconst (v := (-1)) C.1 C.2.1 dX10_without_70 (by decide) ?_
          refine lv_ixor C.1 C.2.1 dX10_without_71 ?_
          refine lv_iand C.1 C.2.1 dX10_without_72 ?_
          refine lv_iload_n C.1 C.2.1 dX10_without_73 rfl (lv_at hl 3 rfl) ?_
          obtain ⟨⟨x74, M74⟩, hc74, hf⟩ := fm_bd hf
          dsimp only at hf
          refine fm_callV C E [.int _, .int _] [] lm_X10_253 wk_X10_beamPower (c_Model_beamPower l G N _ _ _ _ _ hc74) hM_0 rfl rfl rfl hl.1 (by simp [Value.category]) ⟨⟨rfl, rfl⟩, by decide, by decide⟩ ⟨by decide, by decide⟩ dX10_without_74 rfl (fun H locs E => ?_)
          refine W.eq (g2 := F0 m 77 ls (.long x74 :: [])) rfl ?_
          refine lv_l2i C.1 C.2.1 dX10_without_77 rfl ?_
          obtain ⟨rfl, rfl⟩ := fm_rt2 hf
          exact fm_iret C E rfl rfl dX10_without_78
        · have hf := fm_ip hf hc40
          refine lv_bipush (v := (-2)) C.1 C.2.1 dX10_without_43 (by decide) ?_
          obtain ⟨rfl, rfl⟩ := fm_rt2 hf
          exact fm_iret C E rfl rfl dX10_without_45
      · have hf := fm_ip hf hc30
        refine lv_iconst (v := (-1)) C.1 C.2.1 dX10_without_33 (by decide) ?_
        obtain ⟨rfl, rfl⟩ := fm_rt2 hf
        exact fm_iret C E rfl rfl dX10_without_34
theorem dX10_worst_0 : decode cX10_worst 0 = .ok (.aload_n 0, 1) := by decide +kernel
theorem dX10_worst_1 : decode cX10_worst 1 = .ok (.iconst 0, 1) := by decide +kernel
theorem dX10_worst_2 : decode cX10_worst 2 = .ok (.putfield 77, 3) := by decide +kernel
theorem dX10_worst_5 : decode cX10_worst 5 = .ok (.iload_n 1, 1) := by decide +kernel
theorem dX10_worst_6 : decode cX10_worst 6 = .ok (.invokestatic 182, 3) := by decide +kernel
theorem dX10_worst_9 : decode cX10_worst 9 = .ok (.ifCond .ne 5, 3) := by decide +kernel
theorem dX10_worst_12 : decode cX10_worst 12 = .ok (.iconst (-1), 1) := by decide +kernel
theorem dX10_worst_13 : decode cX10_worst 13 = .ok (.ireturn, 1) := by decide +kernel
theorem dX10_worst_14 : decode cX10_worst 14 = .ok (.aload_n 0, 1) := by decide +kernel
theorem dX10_worst_15 : decode cX10_worst 15 = .ok (.invokevirtual 204, 3) := by decide +kernel
theorem dX10_worst_18 : decode cX10_worst 18 = .ok (.istore_n 2, 1) := by decide +kernel
theorem dX10_worst_19 : decode cX10_worst 19 = .ok (.iload_n 2, 1) := by decide +kernel
theorem dX10_worst_20 : decode cX10_worst 20 = .ok (.invokestatic 198, 3) := by decide +kernel
theorem dX10_worst_23 : decode cX10_worst 23 = .ok (.iconst 2, 1) := by decide +kernel
theorem dX10_worst_24 : decode cX10_worst 24 = .ok (.if_icmp .ge 6, 3) := by decide +kernel
theorem dX10_worst_27 : decode cX10_worst 27 = .ok (.bipush (-2), 2) := by decide +kernel
theorem dX10_worst_29 : decode cX10_worst 29 = .ok (.ireturn, 1) := by decide +kernel
theorem dX10_worst_30 : decode cX10_worst 30 = .ok (.aload_n 0, 1) := by decide +kernel
theorem dX10_worst_31 : decode cX10_worst 31 = .ok (.invokevirtual 188, 3) := by decide +kernel
theorem dX10_worst_34 : decode cX10_worst 34 = .ok (.iconst (-1), 1) := by decide +kernel
theorem dX10_worst_35 : decode cX10_worst 35 = .ok (.istore_n 3, 1) := by decide +kernel
theorem dX10_worst_36 : decode cX10_worst 36 = .ok (.lconst 0, 1) := by decide +kernel
theorem dX10_worst_37 : decode cX10_worst 37 = .ok (.lstore 4, 2) := by decide +kernel
theorem dX10_worst_39 : decode cX10_worst 39 = .ok (.iconst 0, 1) := by decide +kernel
theorem dX10_worst_40 : decode cX10_worst 40 = .ok (.istore 6, 2) := by decide +kernel
theorem dX10_worst_42 : decode cX10_worst 42 = .ok (.iload 6, 2) := by decide +kernel
theorem dX10_worst_44 : decode cX10_worst 44 = .ok (.aload_n 0, 1) := by decide +kernel
theorem dX10_worst_45 : decode cX10_worst 45 = .ok (.getfield 9, 3) := by decide +kernel
theorem dX10_worst_48 : decode cX10_worst 48 = .ok (.iconst 0, 1) := by decide +kernel
theorem dX10_worst_49 : decode cX10_worst 49 = .ok (.iaload, 1) := by decide +kernel
theorem dX10_worst_50 : decode cX10_worst 50 = .ok (.if_icmp .ge 59, 3) := by decide +kernel
theorem dX10_worst_53 : decode cX10_worst 53 = .ok (.iload_n 2, 1) := by decide +kernel
theorem dX10_worst_54 : decode cX10_worst 54 = .ok (.iload 6, 2) := by decide +kernel
theorem dX10_worst_56 : decode cX10_worst 56 = .ok (.invokestatic 194, 3) := by decide +kernel
theorem dX10_worst_59 : decode cX10_worst 59 = .ok (.ifCond .ne 6, 3) := by decide +kernel
theorem dX10_worst_62 : decode cX10_worst 62 = .ok (.goto 41, 3) := by decide +kernel
theorem dX10_worst_65 : decode cX10_worst 65 = .ok (.aload_n 0, 1) := by decide +kernel
theorem dX10_worst_66 : decode cX10_worst 66 = .ok (.iload_n 2, 1) := by decide +kernel
theorem dX10_worst_67 : decode cX10_worst 67 = .ok (.iconst 1, 1) := by decide +kernel
theorem dX10_worst_68 : decode cX10_worst 68 = .ok (.iload 6, 2) := by decide +kernel
theorem dX10_worst_70 : decode cX10_worst 70 = .ok (.ishl, 1) := by decide +kernel
theorem dX10_worst_71 : decode cX10_worst 71 = .ok (.iconst (-1), 1) := by decide +kernel
theorem dX10_worst_72 : decode cX10_worst 72 = .ok (.ixor, 1) := by decide +kernel
theorem dX10_worst_73 : decode cX10_worst 73 = .ok (.iand, 1) := by decide +kernel
theorem dX10_worst_74 : decode cX10_worst 74 = .ok (.iload_n 1, 1) := by decide +kernel
theorem dX10_worst_75 : decode cX10_worst 75 = .ok (.invokevirtual 257, 3) := by decide +kernel
theorem dX10_worst_78 : decode cX10_worst 78 = .ok (.lstore 7, 2) := by decide +kernel
theorem dX10_worst_80 : decode cX10_worst 80 = .ok (.iload_n 3, 1) := by decide +kernel
theorem dX10_worst_81 : decode cX10_worst 81 = .ok (.iconst (-1), 1) := by decide +kernel
theorem dX10_worst_82 : decode cX10_worst 82 = .ok (.if_icmp .eq 14, 3) := by decide +kernel
theorem dX10_worst_85 : decode cX10_worst 85 = .ok (.lload 7, 2) := by decide +kernel
theorem dX10_worst_87 : decode cX10_worst 87 = .ok (.lload 4, 2) := by decide +kernel
theorem dX10_worst_89 : decode cX10_worst 89 = .ok (.lcmp, 1) := by decide +kernel
theorem dX10_worst_90 : decode cX10_worst 90 = .ok (.ifCond .lt 6, 3) := by decide +kernel
theorem dX10_worst_93 : decode cX10_worst 93 = .ok (.goto 10, 3) := by decide +kernel
theorem dX10_worst_96 : decode cX10_worst 96 = .ok (.iload 6, 2) := by decide +kernel
theorem dX10_worst_98 : decode cX10_worst 98 = .ok (.istore_n 3, 1) := by decide +kernel
theorem dX10_worst_99 : decode cX10_worst 99 = .ok (.lload 7, 2) := by decide +kernel
theorem dX10_worst_101 : decode cX10_worst 101 = .ok (.lstore 4, 2) := by decide +kernel
theorem dX10_worst_103 : decode cX10_worst 103 = .ok (.iinc 6 1, 3) := by decide +kernel
theorem dX10_worst_106 : decode cX10_worst 106 = .ok (.goto (-64), 3) := by decide +kernel
theorem dX10_worst_109 : decode cX10_worst 109 = .ok (.aload_n 0, 1) := by decide +kernel
theorem dX10_worst_110 : decode cX10_worst 110 = .ok (.iconst 0, 1) := by decide +kernel
theorem dX10_worst_111 : decode cX10_worst 111 = .ok (.putfield 80, 3) := by decide +kernel
theorem dX10_worst_114 : decode cX10_worst 114 = .ok (.aload_n 0, 1) := by decide +kernel
theorem dX10_worst_115 : decode cX10_worst 115 = .ok (.lload 4, 2) := by decide +kernel
theorem dX10_worst_117 : decode cX10_worst 117 = .ok (.invokevirtual 245, 3) := by decide +kernel
theorem dX10_worst_120 : decode cX10_worst 120 = .ok (.iload_n 3, 1) := by decide +kernel
theorem dX10_worst_121 : decode cX10_worst 121 = .ok (.ireturn, 1) := by decide +kernel
set_option maxHeartbeats 4000000 in
set_option maxRecDepth 100000 in
theorem c_Model_worst (l : Launch) (G : fm_G) (N : Nat) (M : fm_M) (v1 : Int32) (r : Int32) (M' : fm_M) (hf : pModel_worst N M v1 = some (r, M')) : fm_Met l yX10_worst cX10_worst 9 (some .int) { frames := 7, cells := 0, slots := 0, locals := 163 } shM G [.ref (G.2.1 0), .int v1] M (some (.int r)) M' := by
  refine fm_enter (by decide) (Nat.le_of_ble_eq_true rfl) ?_
  intro p e s m args below meth c ls C E hl
  have hl : lv_has ls 9 [(0, .ref (G.2.1 0)), (1, .int v1)] := hl
  have L42 : ∀ (w42_v1 : Int32) (w42_v2 : Int32) (n42 : Nat) (v3 : Int32) (v4 : Int64) (v6 : Int32) (M : fm_M) (H : Heap) (locs : List Loc) (ls : Array Slot), fm_Wd shM G M s H locs → lv_has ls 9 [(0, .ref (G.2.1 0)), (1, .int w42_v1), (2, .int w42_v2), (3, .int v3), (4, .long v4), (6, .int v6)] → fm_lp (pModel_worst_L42 N w42_v1 w42_v2) n42 (v3, v4, v6, M) = some (r, M') → W p l e { frames := 7, cells := 0, slots := 0, locals := 163 } s m args below meth c H locs 0 0 (fm_Z below shM G args s (some (.int r)) M') (F0 m 42 ls []) := by
    intro w42_v1 w42_v2 n42
    induction n42 with
    | zero => intro v3 v4 v6 M H locs ls E hl hf; exact fm_lp_0 hf
    | succ n42 ih42 =>
      intro v3 v4 v6 M H locs ls E hl hf
      have hf : pModel_worst_L42b N w42_v1 w42_v2 (fm_lp (pModel_worst_L42 N w42_v1 w42_v2) n42) v3 v4 v6 M = some (r, M') := hf
      unfold pModel_worst_L42b at hf
      refine lv_iload C.1 C.2.1 dX10_worst_42 (lv_at hl 5 rfl) ?_
      refine lv_aload_n C.1 C.2.1 dX10_worst_44 rfl (lv_at hl 0 rfl) ?_
      refine fm_getr C E lf_X10_9 hM_0 rfl dX10_worst_45 ?_
      refine lv_iconst (v := 0) C.1 C.2.1 dX10_worst_48 (by decide) ?_
      refine fm_ialdc C E 0 (by decide) hM_1 (by decide) dX10_worst_49 ?_
      refine lv_icmp_ge (tgt := 109) C.1 C.2.1 dX10_worst_50 (by decide) (fun hc50 => ?_) (fun hc50 => ?_)
      · have hf := fm_ip hf hc50
        refine lv_aload_n C.1 C.2.1 dX10_worst_109 rfl (lv_at hl 0 rfl) ?_
        refine lv_iconst (v := 0) C.1 C.2.1 dX10_worst_110 (by decide) ?_
        obtain ⟨M111, e111, hf⟩ := fm_pt_s hf
        refine fm_put' C E e111 lp_X10_80 hM_0 rfl dX10_worst_111 (fun H locs E => ?_)
        refine lv_aload_n C.1 C.2.1 dX10_worst_114 rfl (lv_at hl 0 rfl) ?_
        refine lv_lload C.1 C.2.1 dX10_worst_115 (lv_at hl 4 rfl) ?_
        obtain ⟨M117, hc117, hf⟩ := fm_bd hf
        refine fm_callV C E [.long _] [] lm_X10_245 wk_X10_tell (c_Model_tell l G _ _ _ hc117) hM_0 rfl rfl rfl hl.1 (by simp [Value.category]) ⟨⟨rfl, rfl⟩, by decide, by decide⟩ ⟨by decide, by decide⟩ dX10_worst_117 rfl (fun H locs E => ?_)
        refine W.eq (g2 := F0 m 120 ls []) rfl ?_
        refine lv_iload_n C.1 C.2.1 dX10_worst_120 rfl (lv_at hl 3 rfl) ?_
        obtain ⟨rfl, rfl⟩ := fm_rt2 hf
        exact fm_iret C E rfl rfl dX10_worst_121
      · have hf := fm_in' hf hc50
        refine lv_iload_n C.1 C.2.1 dX10_worst_53 rfl (lv_at hl 2 rfl) ?_
        refine lv_iload C.1 C.2.1 dX10_worst_54 (lv_at hl 5 rfl) ?_
        obtain ⟨x56, hc56, hf⟩ := fm_bd hf
        refine fm_callS C E [.int _, .int _] [] lm_X10_194 wk_X10_has (c_Model_has l G _ _ _ _  hc56) rfl hl.1 (by simp [Value.category]) ⟨⟨rfl, rfl⟩, by decide, by decide⟩ ⟨by decide, by decide⟩ dX10_worst_56 rfl (fun H locs E => ?_)
        refine W.eq (g2 := F0 m 59 ls (.int x56 :: [])) rfl ?_
        refine lv_if_ne (tgt := 65) C.1 C.2.1 dX10_worst_59 (by decide) (fun hc59 => ?_) (fun hc59 => ?_)
        · have hf := fm_in' hf hc59
          refine lv_aload_n C.1 C.2.1 dX10_worst_65 rfl (lv_at hl 0 rfl) ?_
          refine lv_iload_n C.1 C.2.1 dX10_worst_66 rfl (lv_at hl 2 rfl) ?_
          refine lv_iconst (v := 1) C.1 C.2.1 dX10_worst_67 (by decide) ?_
          refine lv_iload C.1 C.2.1 dX10_worst_68 (lv_at hl 5 rfl) ?_
          refine lv_ishl C.1 C.2.1 dX10_worst_70 ?_
          refine lv_iconst (v := (-1)) C.1 C.2.1 dX10_worst_71 (by decide) ?_
          refine lv_ixor C.1 C.2.1 dX10_worst_72 ?_
          refine lv_iand C.1 C.2.1 dX10_worst_73 ?_
          refine lv_iload_n C.1 C.2.1 dX10_worst_74 rfl (lv_at hl 1 rfl) ?_
          obtain ⟨⟨x75, M75⟩, hc75, hf⟩ := fm_bd hf
          dsimp only at hf
          refine fm_callV C E [.int _, .int _] [] lm_X10_257 wk_X10_cleanPower (c_Model_cleanPower l G N _ _ _ _ _ hc75) hM_0 rfl rfl rfl hl.1 (by simp [Value.category]) ⟨⟨rfl, rfl⟩, by decide, by decide⟩ ⟨by decide, by decide⟩ dX10_worst_75 rfl (fun H locs E => ?_)
          refine W.eq (g2 := F0 m 78 ls (.long x75 :: [])) rfl ?_
          refine lv_lstore (lv' := [(7, .long _), (0, .ref _), (1, .int _), (2, .int _), (3, .int _), (4, .long _), (6, .int _)]) C.1 C.2.1 dX10_worst_78 hl (by decide) rfl (fun ls hl => ?_)
          refine lv_iload_n C.1 C.2.1 dX10_worst_80 rfl (lv_at hl 4 rfl) ?_
          refine lv_iconst (v := (-1)) C.1 C.2.1 dX10_worst_81 (by decide) ?_
          refine lv_icmp_eq (tgt := 96) C.1 C.2.1 dX10_worst_82 (by decide) (fun hc82 => ?_) (fun hc82 => ?_)
          · have hf := fm_ip hf hc82
            refine lv_iload C.1 C.2.1 dX10_worst_96 (lv_at hl 6 rfl) ?_
            refine lv_istore_n (lv' := [(3, .int _), (7, .long _), (0, .ref _), (1, .int _), (2, .int _), (4, .long _), (6, .int _)]) C.1 C.2.1 dX10_worst_98 rfl hl (by decide) rfl (fun ls hl => ?_)
            refine lv_lload C.1 C.2.1 dX10_worst_99 (lv_at hl 1 rfl) ?_
            refine lv_lstore (lv' := [(4, .long _), (3, .int _), (7, .long _), (0, .ref _), (1, .int _), (2, .int _), (6, .int _)]) C.1 C.2.1 dX10_worst_101 hl (by decide) rfl (fun ls hl => ?_)
            refine fm_iinc C (v := 1) (lv' := [(6, .int _), (4, .long _), (3, .int _), (7, .long _), (0, .ref _), (1, .int _), (2, .int _)]) (k := 6) hl rfl (by decide) (by decide) rfl dX10_worst_103 (fun ls hl => ?_)
            refine lv_goto (tgt := 42) C.1 C.2.1 dX10_worst_106 (by decide) ?_
            exact ih42 _ _ _ _ _ _ _ E (lv_sub hl [4, 5, 6, 2, 1, 0] rfl) hf
          · have hf := fm_in' hf hc82
            refine lv_lload C.1 C.2.1 dX10_worst_85 (lv_at hl 0 rfl) ?_
            refine lv_lload C.1 C.2.1 dX10_worst_87 (lv_at hl 5 rfl) ?_
            refine W.lcmp C.1 C.2.1 dX10_worst_89 ?_
            refine lv_if_lt (tgt := 96) C.1 C.2.1 dX10_worst_90 (by decide) (fun hc90 => ?_) (fun hc90 => ?_)
            · have hf := fm_ip hf hc90
              refine lv_iload C.1 C.2.1 dX10_worst_96 (lv_at hl 6 rfl) ?_
              refine lv_istore_n (lv' := [(3, .int _), (7, .long _), (0, .ref _), (1, .int _), (2, .int _), (4, .long _), (6, .int _)]) C.1 C.2.1 dX10_worst_98 rfl hl (by decide) rfl (fun ls hl => ?_)
              refine lv_lload C.1 C.2.1 dX10_worst_99 (lv_at hl 1 rfl) ?_
              refine lv_lstore (lv' := [(4, .long _), (3, .int _), (7, .long _), (0, .ref _), (1, .int _), (2, .int _), (6, .int _)]) C.1 C.2.1 dX10_worst_101 hl (by decide) rfl (fun ls hl => ?_)
              refine fm_iinc C (v := 1) (lv' := [(6, .int _), (4, .long _), (3, .int _), (7, .long _), (0, .ref _), (1, .int _), (2, .int _)]) (k := 6) hl rfl (by decide) (by decide) rfl dX10_worst_103 (fun ls hl => ?_)
              refine lv_goto (tgt := 42) C.1 C.2.1 dX10_worst_106 (by decide) ?_
              exact ih42 _ _ _ _ _ _ _ E (lv_sub hl [4, 5, 6, 2, 1, 0] rfl) hf
            · have hf := fm_in' hf hc90
              refine lv_goto (tgt := 103) C.1 C.2.1 dX10_worst_93 (by decide) ?_
              refine fm_iinc C (v := 1) (lv' := [(6, .int _), (7, .long _), (0, .ref _), (1, .int _), (2, .int _), (3, .int _), (4, .long _)]) (k := 6) hl rfl (by decide) (by decide) rfl dX10_worst_103 (fun ls hl => ?_)
              refine lv_goto (tgt := 42) C.1 C.2.1 dX10_worst_106 (by decide) ?_
              exact ih42 _ _ _ _ _ _ _ E (lv_sub hl [2, 3, 4, 5, 6, 0] rfl) hf
        · have hf := fm_ip hf hc59
          refine lv_goto (tgt := 103) C.1 C.2.1 dX10_worst_62 (by decide) ?_
          refine fm_iinc C (v := 1) (lv' := [(6, .int _), (0, .ref _), (1, .int _), (2, .int _), (3, .int _), (4, .long _)]) (k := 5) hl rfl (by decide) (by decide) rfl dX10_worst_103 (fun ls hl => ?_)
          refine lv_goto (tgt := 42) C.1 C.2.1 dX10_worst_106 (by decide) ?_
          exact ih42 _ _ _ _ _ _ _ E (lv_sub hl [1, 2, 3, 4, 5, 0] rfl) hf
  unfold pModel_worst at hf
  refine lv_aload_n C.1 C.2.1 dX10_worst_0 rfl (lv_at hl 0 rfl) ?_
  refine lv_iconst (v := 0) C.1 C.2.1 dX10_worst_1 (by decide) ?_
  obtain ⟨M2, e2, hf⟩ := fm_pt_s hf
  refine fm_put' C E e2 lp_X10_77 hM_0 rfl dX10_worst_2 (fun H locs E => ?_)
  refine lv_iload_n C.1 C.2.1 dX10_worst_5 rfl (lv_at hl 1 rfl) ?_
  obtain ⟨x6, hc6, hf⟩ := fm_bd hf
  refine fm_callS C E [.int _] [] lm_X10_182 wk_X10_isSide (c_Model_isSide l G _ _ _  hc6) rfl hl.1 (by simp [Value.category]) ⟨⟨rfl, rfl⟩, by decide, by decide⟩ ⟨by decide, by decide⟩ dX10_worst_6 rfl (fun H locs E => ?_)
  refine W.eq (g2 := F0 m 9 ls (.int x6 :: [])) rfl ?_
  refine lv_if_ne (tgt := 14) C.1 C.2.1 dX10_worst_9 (by decide) (fun hc9 => ?_) (fun hc9 => ?_)
  · have hf := fm_in' hf hc9
    refine lv_aload_n C.1 C.2.1 dX10_worst_14 rfl (lv_at hl 0 rfl) ?_
    obtain ⟨x15, hc15, hf⟩ := fm_bd hf
    refine fm_callV C E [] [] lm_X10_204 wk_X10_liveBits (c_Model_liveBits l G N _ _  hc15) hM_0 rfl rfl rfl hl.1 (by simp [Value.category]) ⟨⟨rfl, rfl⟩, by decide, by decide⟩ ⟨by decide, by decide⟩ dX10_worst_15 rfl (fun H locs E => ?_)
    refine W.eq (g2 := F0 m 18 ls (.int x15 :: [])) rfl ?_
    refine lv_istore_n (lv' := [(2, .int _), (0, .ref _), (1, .int _)]) C.1 C.2.1 dX10_worst_18 rfl hl (by decide) rfl (fun ls hl => ?_)
    refine lv_iload_n C.1 C.2.1 dX10_worst_19 rfl (lv_at hl 0 rfl) ?_
    obtain ⟨x20, hc20, hf⟩ := fm_bd hf
    refine fm_callS C E [.int _] [] lm_X10_198 wk_X10_countBits (c_Model_countBits l G N _ _ _  hc20) rfl hl.1 (by simp [Value.category]) ⟨⟨rfl, rfl⟩, by decide, by decide⟩ ⟨by decide, by decide⟩ dX10_worst_20 rfl (fun H locs E => ?_)
    refine W.eq (g2 := F0 m 23 ls (.int x20 :: [])) rfl ?_
    refine lv_iconst (v := 2) C.1 C.2.1 dX10_worst_23 (by decide) ?_
    refine lv_icmp_ge (tgt := 30) C.1 C.2.1 dX10_worst_24 (by decide) (fun hc24 => ?_) (fun hc24 => ?_)
    · have hf := fm_ip hf hc24
      refine lv_aload_n C.1 C.2.1 dX10_worst_30 rfl (lv_at hl 1 rfl) ?_
      obtain ⟨M31, hc31, hf⟩ := fm_bd hf
      refine fm_callV C E [] [] lm_X10_188 wk_X10_hear (c_Model_hear l G N _ _ hc31) hM_0 rfl rfl rfl hl.1 (by simp [Value.category]) ⟨⟨rfl, rfl⟩, by decide, by decide⟩ ⟨by decide, by decide⟩ dX10_worst_31 rfl (fun H locs E => ?_)
      refine W.eq (g2 := F0 m 34 ls []) rfl ?_
      refine lv_iconst (v := (-1)) C.1 C.2.1 dX10_worst_34 (by decide) ?_
      refine lv_istore_n (lv' := [(3, .int _), (2, .int _), (0, .ref _), (1, .int _)]) C.1 C.2.1 dX10_worst_35 rfl hl (by decide) rfl (fun ls hl => ?_)
      refine lv_lconst (v := 0) C.1 C.2.1 dX10_worst_36 (by decide) ?_
      refine lv_lstore (lv' := [(4, .long _), (3, .int _), (2, .int _), (0, .ref _), (1, .int _)]) C.1 C.2.1 dX10_worst_37 hl (by decide) rfl (fun ls hl => ?_)
      refine lv_iconst (v := 0) C.1 C.2.1 dX10_worst_39 (by decide) ?_
      refine lv_istore (lv' := [(6, .int _), (4, .long _), (3, .int _), (2, .int _), (0, .ref _), (1, .int _)]) C.1 C.2.1 dX10_worst_40 hl (by decide) rfl (fun ls hl => ?_)
      exact L42 _ _ N _ _ _ _ _ _ _ E (lv_sub hl [4, 5, 3, 2, 1, 0] rfl) hf
    · have hf := fm_in' hf hc24
      refine lv_bipush (v := (-2)) C.1 C.2.1 dX10_worst_27 (by decide) ?_
      obtain ⟨rfl, rfl⟩ := fm_rt2 hf
      exact fm_iret C E rfl rfl dX10_worst_29
  · have hf := fm_ip hf hc9
    refine lv_iconst (v := (-1)) C.1 C.2.1 dX10_worst_12 (by decide) ?_
    obtain ⟨rfl, rfl⟩ := fm_rt2 hf
    exact fm_iret C E rfl rfl dX10_worst_13
theorem dX10_best_0 : decode cX10_best 0 = .ok (.aload_n 0, 1) := by decide +kernel
theorem dX10_best_1 : decode cX10_best 1 = .ok (.iconst 0, 1) := by decide +kernel
theorem dX10_best_2 : decode cX10_best 2 = .ok (.putfield 77, 3) := by decide +kernel
theorem dX10_best_5 : decode cX10_best 5 = .ok (.iload_n 1, 1) := by decide +kernel
theorem dX10_best_6 : decode cX10_best 6 = .ok (.iconst 1, 1) := by decide +kernel
theorem dX10_best_7 : decode cX10_best 7 = .ok (.bipush 6, 2) := by decide +kernel
theorem dX10_best_9 : decode cX10_best 9 = .ok (.invokestatic 83, 3) := by decide +kernel
theorem dX10_best_12 : decode cX10_best 12 = .ok (.ifCond .eq 10, 3) := by decide +kernel
theorem dX10_best_15 : decode cX10_best 15 = .ok (.iload_n 2, 1) := by decide +kernel
theorem dX10_best_16 : decode cX10_best 16 = .ok (.invokestatic 182, 3) := by decide +kernel
theorem dX10_best_19 : decode cX10_best 19 = .ok (.ifCond .ne 5, 3) := by decide +kernel
theorem dX10_best_22 : decode cX10_best 22 = .ok (.iconst (-1), 1) := by decide +kernel
theorem dX10_best_23 : decode cX10_best 23 = .ok (.ireturn, 1) := by decide +kernel
theorem dX10_best_24 : decode cX10_best 24 = .ok (.aload_n 0, 1) := by decide +kernel
theorem dX10_best_25 : decode cX10_best 25 = .ok (.getfield 9, 3) := by decide +kernel
theorem dX10_best_28 : decode cX10_best 28 = .ok (.iconst 0, 1) := by decide +kernel
theorem dX10_best_29 : decode cX10_best 29 = .ok (.iaload, 1) := by decide +kernel
theorem dX10_best_30 : decode cX10_best 30 = .ok (.iload_n 1, 1) := by decide +kernel
theorem dX10_best_31 : decode cX10_best 31 = .ok (.if_icmp .ge 6, 3) := by decide +kernel
theorem dX10_best_34 : decode cX10_best 34 = .ok (.bipush (-2), 2) := by decide +kernel
theorem dX10_best_36 : decode cX10_best 36 = .ok (.ireturn, 1) := by decide +kernel
theorem dX10_best_37 : decode cX10_best 37 = .ok (.aload_n 0, 1) := by decide +kernel
theorem dX10_best_38 : decode cX10_best 38 = .ok (.invokevirtual 188, 3) := by decide +kernel
theorem dX10_best_41 : decode cX10_best 41 = .ok (.iconst (-1), 1) := by decide +kernel
theorem dX10_best_42 : decode cX10_best 42 = .ok (.istore_n 3, 1) := by decide +kernel
theorem dX10_best_43 : decode cX10_best 43 = .ok (.lconst 0, 1) := by decide +kernel
theorem dX10_best_44 : decode cX10_best 44 = .ok (.lstore 4, 2) := by decide +kernel
theorem dX10_best_46 : decode cX10_best 46 = .ok (.iconst 1, 1) := by decide +kernel
theorem dX10_best_47 : decode cX10_best 47 = .ok (.istore 6, 2) := by decide +kernel
theorem dX10_best_49 : decode cX10_best 49 = .ok (.iload 6, 2) := by decide +kernel
theorem dX10_best_51 : decode cX10_best 51 = .ok (.iconst 1, 1) := by decide +kernel
theorem dX10_best_52 : decode cX10_best 52 = .ok (.aload_n 0, 1) := by decide +kernel
theorem dX10_best_53 : decode cX10_best 53 = .ok (.getfield 9, 3) := by decide +kernel
theorem dX10_best_56 : decode cX10_best 56 = .ok (.iconst 0, 1) := by decide +kernel
theorem dX10_best_57 : decode cX10_best 57 = .ok (.iaload, 1) := by decide +kernel
theorem dX10_best_58 : decode cX10_best 58 = .ok (.ishl, 1) := by decide +kernel
theorem dX10_best_59 : decode cX10_best 59 = .ok (.if_icmp .ge 53, 3) := by decide +kernel
theorem dX10_best_62 : decode cX10_best 62 = .ok (.iload 6, 2) := by decide +kernel
theorem dX10_best_64 : decode cX10_best 64 = .ok (.invokestatic 198, 3) := by decide +kernel
theorem dX10_best_67 : decode cX10_best 67 = .ok (.iload_n 1, 1) := by decide +kernel
theorem dX10_best_68 : decode cX10_best 68 = .ok (.if_icmp .eq 6, 3) := by decide +kernel
theorem dX10_best_71 : decode cX10_best 71 = .ok (.goto 35, 3) := by decide +kernel
theorem dX10_best_74 : decode cX10_best 74 = .ok (.aload_n 0, 1) := by decide +kernel
theorem dX10_best_75 : decode cX10_best 75 = .ok (.iload 6, 2) := by decide +kernel
theorem dX10_best_77 : decode cX10_best 77 = .ok (.iload_n 2, 1) := by decide +kernel
theorem dX10_best_78 : decode cX10_best 78 = .ok (.invokevirtual 253, 3) := by decide +kernel
theorem dX10_best_81 : decode cX10_best 81 = .ok (.lstore 7, 2) := by decide +kernel
theorem dX10_best_83 : decode cX10_best 83 = .ok (.iload_n 3, 1) := by decide +kernel
theorem dX10_best_84 : decode cX10_best 84 = .ok (.iconst (-1), 1) := by decide +kernel
theorem dX10_best_85 : decode cX10_best 85 = .ok (.if_icmp .eq 14, 3) := by decide +kernel
theorem dX10_best_88 : decode cX10_best 88 = .ok (.lload 7, 2) := by decide +kernel
theorem dX10_best_90 : decode cX10_best 90 = .ok (.lload 4, 2) := by decide +kernel
theorem dX10_best_92 : decode cX10_best 92 = .ok (.lcmp, 1) := by decide +kernel
theorem dX10_best_93 : decode cX10_best 93 = .ok (.ifCond .lt 6, 3) := by decide +kernel
theorem dX10_best_96 : decode cX10_best 96 = .ok (.goto 10, 3) := by decide +kernel
theorem dX10_best_99 : decode cX10_best 99 = .ok (.iload 6, 2) := by decide +kernel
theorem dX10_best_101 : decode cX10_best 101 = .ok (.istore_n 3, 1) := by decide +kernel
theorem dX10_best_102 : decode cX10_best 102 = .ok (.lload 7, 2) := by decide +kernel
theorem dX10_best_104 : decode cX10_best 104 = .ok (.lstore 4, 2) := by decide +kernel
theorem dX10_best_106 : decode cX10_best 106 = .ok (.iinc 6 1, 3) := by decide +kernel
theorem dX10_best_109 : decode cX10_best 109 = .ok (.goto (-60), 3) := by decide +kernel
theorem dX10_best_112 : decode cX10_best 112 = .ok (.aload_n 0, 1) := by decide +kernel
theorem dX10_best_113 : decode cX10_best 113 = .ok (.iconst 0, 1) := by decide +kernel
theorem dX10_best_114 : decode cX10_best 114 = .ok (.putfield 80, 3) := by decide +kernel
theorem dX10_best_117 : decode cX10_best 117 = .ok (.aload_n 0, 1) := by decide +kernel
theorem dX10_best_118 : decode cX10_best 118 = .ok (.lload 4, 2) := by decide +kernel
theorem dX10_best_120 : decode cX10_best 120 = .ok (.invokevirtual 245, 3) := by decide +kernel
theorem dX10_best_123 : decode cX10_best 123 = .ok (.iload_n 3, 1) := by decide +kernel
theorem dX10_best_124 : decode cX10_best 124 = .ok (.ireturn, 1) := by decide +kernel
set_option maxHeartbeats 4000000 in
set_option maxRecDepth 100000 in
theorem c_Model_best (l : Launch) (G : fm_G) (N : Nat) (M : fm_M) (v1 : Int32) (v2 : Int32) (r : Int32) (M' : fm_M) (hf : pModel_best N M v1 v2 = some (r, M')) : fm_Met l yX10_best cX10_best 9 (some .int) { frames := 6, cells := 0, slots := 0, locals := 139 } shM G [.ref (G.2.1 0), .int v1, .int v2] M (some (.int r)) M' := by
  refine fm_enter (by decide) (Nat.le_of_ble_eq_true rfl) ?_
  intro p e s m args below meth c ls C E hl
  have hl : lv_has ls 9 [(0, .ref (G.2.1 0)), (1, .int v1), (2, .int v2)] := hl
  have L49 : ∀ (w49_v1 : Int32) (w49_v2 : Int32) (n49 : Nat) (v3 : Int32) (v4 : Int64) (v6 : Int32) (M : fm_M) (H : Heap) (locs : List Loc) (ls : Array Slot), fm_Wd shM G M s H locs → lv_has ls 9 [(0, .ref (G.2.1 0)), (1, .int w49_v1), (2, .int w49_v2), (3, .int v3), (4, .long v4), (6, .int v6)] → fm_lp (pModel_best_L49 N w49_v1 w49_v2) n49 (v3, v4, v6, M) = some (r, M') → W p l e { frames := 6, cells := 0, slots := 0, locals := 139 } s m args below meth c H locs 0 0 (fm_Z below shM G args s (some (.int r)) M') (F0 m 49 ls []) := by
    intro w49_v1 w49_v2 n49
    induction n49 with
    | zero => intro v3 v4 v6 M H locs ls E hl hf; exact fm_lp_0 hf
    | succ n49 ih49 =>
      intro v3 v4 v6 M H locs ls E hl hf
      have hf : pModel_best_L49b N w49_v1 w49_v2 (fm_lp (pModel_best_L49 N w49_v1 w49_v2) n49) v3 v4 v6 M = some (r, M') := hf
      unfold pModel_best_L49b at hf
      refine lv_iload C.1 C.2.1 dX10_best_49 (lv_at hl 5 rfl) ?_
      refine lv_iconst (v := 1) C.1 C.2.1 dX10_best_51 (by decide) ?_
      refine lv_aload_n C.1 C.2.1 dX10_best_52 rfl (lv_at hl 0 rfl) ?_
      refine fm_getr C E lf_X10_9 hM_0 rfl dX10_best_53 ?_
      refine lv_iconst (v := 0) C.1 C.2.1 dX10_best_56 (by decide) ?_
      refine fm_ialdc C E 0 (by decide) hM_1 (by decide) dX10_best_57 ?_
      refine lv_ishl C.1 C.2.1 dX10_best_58 ?_
      refine lv_icmp_ge (tgt := 112) C.1 C.2.1 dX10_best_59 (by decide) (fun hc59 => ?_) (fun hc59 => ?_)
      · have hf := fm_ip hf hc59
        refine lv_aload_n C.1 C.2.1 dX10_best_112 rfl (lv_at hl 0 rfl) ?_
        refine lv_iconst (v := 0) C.1 C.2.1 dX10_best_113 (by decide) ?_
        obtain ⟨M114, e114, hf⟩ := fm_pt_s hf
        refine fm_put' C E e114 lp_X10_80 hM_0 rfl dX10_best_114 (fun H locs E => ?_)
        refine lv_aload_n C.1 C.2.1 dX10_best_117 rfl (lv_at hl 0 rfl) ?_
        refine lv_lload C.1 C.2.1 dX10_best_118 (lv_at hl 4 rfl) ?_
        obtain ⟨M120, hc120, hf⟩ := fm_bd hf
        refine fm_callV C E [.long _] [] lm_X10_245 wk_X10_tell (c_Model_tell l G _ _ _ hc120) hM_0 rfl rfl rfl hl.1 (by simp [Value.category]) ⟨⟨rfl, rfl⟩, by decide, by decide⟩ ⟨by decide, by decide⟩ dX10_best_120 rfl (fun H locs E => ?_)
        refine W.eq (g2 := F0 m 123 ls []) rfl ?_
        refine lv_iload_n C.1 C.2.1 dX10_best_123 rfl (lv_at hl 3 rfl) ?_
        obtain ⟨rfl, rfl⟩ := fm_rt2 hf
        exact fm_iret C E rfl rfl dX10_best_124
      · have hf := fm_in' hf hc59
        refine lv_iload C.1 C.2.1 dX10_best_62 (lv_at hl 5 rfl) ?_
        obtain ⟨x64, hc64, hf⟩ := fm_bd hf
        refine fm_callS C E [.int _] [] lm_X10_198 wk_X10_countBits (c_Model_countBits l G N _ _ _  hc64) rfl hl.1 (by simp [Value.category]) ⟨⟨rfl, rfl⟩, by decide, by decide⟩ ⟨by decide, by decide⟩ dX10_best_64 rfl (fun H locs E => ?_)
        refine W.eq (g2 := F0 m 67 ls (.int x64 :: [])) rfl ?_
        refine lv_iload_n C.1 C.2.1 dX10_best_67 rfl (lv_at hl 1 rfl) ?_
        refine lv_icmp_eq (tgt := 74) C.1 C.2.1 dX10_best_68 (by decide) (fun hc68 => ?_) (fun hc68 => ?_)
        · have hf := fm_ip hf hc68
          refine lv_aload_n C.1 C.2.1 dX10_best_74 rfl (lv_at hl 0 rfl) ?_
          refine lv_iload C.1 C.2.1 dX10_best_75 (lv_at hl 5 rfl) ?_
          refine lv_iload_n C.1 C.2.1 dX10_best_77 rfl (lv_at hl 2 rfl) ?_
          obtain ⟨⟨x78, M78⟩, hc78, hf⟩ := fm_bd hf
          dsimp only at hf
          refine fm_callV C E [.int _, .int _] [] lm_X10_253 wk_X10_beamPower (c_Model_beamPower l G N _ _ _ _ _ hc78) hM_0 rfl rfl rfl hl.1 (by simp [Value.category]) ⟨⟨rfl, rfl⟩, by decide, by decide⟩ ⟨by decide, by decide⟩ dX10_best_78 rfl (fun H locs E => ?_)
          refine W.eq (g2 := F0 m 81 ls (.long x78 :: [])) rfl ?_
          refine lv_lstore (lv' := [(7, .long _), (0, .ref _), (1, .int _), (2, .int _), (3, .int _), (4, .long _), (6, .int _)]) C.1 C.2.1 dX10_best_81 hl (by decide) rfl (fun ls hl => ?_)
          refine lv_iload_n C.1 C.2.1 dX10_best_83 rfl (lv_at hl 4 rfl) ?_
          refine lv_iconst (v := (-1)) C.1 C.2.1 dX10_best_84 (by decide) ?_
          refine lv_icmp_eq (tgt := 99) C.1 C.2.1 dX10_best_85 (by decide) (fun hc85 => ?_) (fun hc85 => ?_)
          · have hf := fm_ip hf hc85
            refine lv_iload C.1 C.2.1 dX10_best_99 (lv_at hl 6 rfl) ?_
            refine lv_istore_n (lv' := [(3, .int _), (7, .long _), (0, .ref _), (1, .int _), (2, .int _), (4, .long _), (6, .int _)]) C.1 C.2.1 dX10_best_101 rfl hl (by decide) rfl (fun ls hl => ?_)
            refine lv_lload C.1 C.2.1 dX10_best_102 (lv_at hl 1 rfl) ?_
            refine lv_lstore (lv' := [(4, .long _), (3, .int _), (7, .long _), (0, .ref _), (1, .int _), (2, .int _), (6, .int _)]) C.1 C.2.1 dX10_best_104 hl (by decide) rfl (fun ls hl => ?_)
            refine fm_iinc C (v := 1) (lv' := [(6, .int _), (4, .long _), (3, .int _), (7, .long _), (0, .ref _), (1, .int _), (2, .int _)]) (k := 6) hl rfl (by decide) (by decide) rfl dX10_best_106 (fun ls hl => ?_)
            refine lv_goto (tgt := 49) C.1 C.2.1 dX10_best_109 (by decide) ?_
            exact ih49 _ _ _ _ _ _ _ E (lv_sub hl [4, 5, 6, 2, 1, 0] rfl) hf
          · have hf := fm_in' hf hc85
            refine lv_lload C.1 C.2.1 dX10_best_88 (lv_at hl 0 rfl) ?_
            refine lv_lload C.1 C.2.1 dX10_best_90 (lv_at hl 5 rfl) ?_
            refine W.lcmp C.1 C.2.1 dX10_best_92 ?_
            refine lv_if_lt (tgt := 99) C.1 C.2.1 dX10_best_93 (by decide) (fun hc93 => ?_) (fun hc93 => ?_)
            · have hf := fm_ip hf hc93
              refine lv_iload C.1 C.2.1 dX10_best_99 (lv_at hl 6 rfl) ?_
              refine lv_istore_n (lv' := [(3, .int _), (7, .long _), (0, .ref _), (1, .int _), (2, .int _), (4, .long _), (6, .int _)]) C.1 C.2.1 dX10_best_101 rfl hl (by decide) rfl (fun ls hl => ?_)
              refine lv_lload C.1 C.2.1 dX10_best_102 (lv_at hl 1 rfl) ?_
              refine lv_lstore (lv' := [(4, .long _), (3, .int _), (7, .long _), (0, .ref _), (1, .int _), (2, .int _), (6, .int _)]) C.1 C.2.1 dX10_best_104 hl (by decide) rfl (fun ls hl => ?_)
              refine fm_iinc C (v := 1) (lv' := [(6, .int _), (4, .long _), (3, .int _), (7, .long _), (0, .ref _), (1, .int _), (2, .int _)]) (k := 6) hl rfl (by decide) (by decide) rfl dX10_best_106 (fun ls hl => ?_)
              refine lv_goto (tgt := 49) C.1 C.2.1 dX10_best_109 (by decide) ?_
              exact ih49 _ _ _ _ _ _ _ E (lv_sub hl [4, 5, 6, 2, 1, 0] rfl) hf
            · have hf := fm_in' hf hc93
              refine lv_goto (tgt := 106) C.1 C.2.1 dX10_best_96 (by decide) ?_
              refine fm_iinc C (v := 1) (lv' := [(6, .int _), (7, .long _), (0, .ref _), (1, .int _), (2, .int _), (3, .int _), (4, .long _)]) (k := 6) hl rfl (by decide) (by decide) rfl dX10_best_106 (fun ls hl => ?_)
              refine lv_goto (tgt := 49) C.1 C.2.1 dX10_best_109 (by decide) ?_
              exact ih49 _ _ _ _ _ _ _ E (lv_sub hl [2, 3, 4, 5, 6, 0] rfl) hf
        · have hf := fm_in' hf hc68
          refine lv_goto (tgt := 106) C.1 C.2.1 dX10_best_71 (by decide) ?_
          refine fm_iinc C (v := 1) (lv' := [(6, .int _), (0, .ref _), (1, .int _), (2, .int _), (3, .int _), (4, .long _)]) (k := 5) hl rfl (by decide) (by decide) rfl dX10_best_106 (fun ls hl => ?_)
          refine lv_goto (tgt := 49) C.1 C.2.1 dX10_best_109 (by decide) ?_
          exact ih49 _ _ _ _ _ _ _ E (lv_sub hl [1, 2, 3, 4, 5, 0] rfl) hf
  unfold pModel_best at hf
  refine lv_aload_n C.1 C.2.1 dX10_best_0 rfl (lv_at hl 0 rfl) ?_
  refine lv_iconst (v := 0) C.1 C.2.1 dX10_best_1 (by decide) ?_
  obtain ⟨M2, e2, hf⟩ := fm_pt_s hf
  refine fm_put' C E e2 lp_X10_77 hM_0 rfl dX10_best_2 (fun H locs E => ?_)
  refine lv_iload_n C.1 C.2.1 dX10_best_5 rfl (lv_at hl 1 rfl) ?_
  refine lv_iconst (v := 1) C.1 C.2.1 dX10_best_6 (by decide) ?_
  refine lv_bipush (v := 6) C.1 C.2.1 dX10_best_7 (by decide) ?_
  obtain ⟨x9, hc9, hf⟩ := fm_bd hf
  refine fm_callS C E [.int _, .int _, .int _] [] lm_X10_83 wk_X10_in (c_Model_in l G _ _ _ _ _  hc9) rfl hl.1 (by simp [Value.category]) ⟨⟨rfl, rfl⟩, by decide, by decide⟩ ⟨by decide, by decide⟩ dX10_best_9 rfl (fun H locs E => ?_)
  refine W.eq (g2 := F0 m 12 ls (.int x9 :: [])) rfl ?_
  refine lv_if_eq (tgt := 22) C.1 C.2.1 dX10_best_12 (by decide) (fun hc12 => ?_) (fun hc12 => ?_)
  · have hf := fm_ip hf hc12
    refine lv_iconst (v := (-1)) C.1 C.2.1 dX10_best_22 (by decide) ?_
    obtain ⟨rfl, rfl⟩ := fm_rt2 hf
    exact fm_iret C E rfl rfl dX10_best_23
  · have hf := fm_in' hf hc12
    refine lv_iload_n C.1 C.2.1 dX10_best_15 rfl (lv_at hl 2 rfl) ?_
    obtain ⟨x16, hc16, hf⟩ := fm_bd hf
    refine fm_callS C E [.int _] [] lm_X10_182 wk_X10_isSide (c_Model_isSide l G _ _ _  hc16) rfl hl.1 (by simp [Value.category]) ⟨⟨rfl, rfl⟩, by decide, by decide⟩ ⟨by decide, by decide⟩ dX10_best_16 rfl (fun H locs E => ?_)
    refine W.eq (g2 := F0 m 19 ls (.int x16 :: [])) rfl ?_
    refine lv_if_ne (tgt := 24) C.1 C.2.1 dX10_best_19 (by decide) (fun hc19 => ?_) (fun hc19 => ?_)
    · have hf := fm_in' hf hc19
      refine lv_aload_n C.1 C.2.1 dX10_best_24 rfl (lv_at hl 0 rfl) ?_
      refine fm_getr C E lf_X10_9 hM_0 rfl dX10_best_25 ?_
      refine lv_iconst (v := 0) C.1 C.2.1 dX10_best_28 (by decide) ?_
      refine fm_ialdc C E 0 (by decide) hM_1 (by decide) dX10_best_29 ?_
      refine lv_iload_n C.1 C.2.1 dX10_best_30 rfl (lv_at hl 1 rfl) ?_
      refine lv_icmp_ge (tgt := 37) C.1 C.2.1 dX10_best_31 (by decide) (fun hc31 => ?_) (fun hc31 => ?_)
      · have hf := fm_ip hf hc31
        refine lv_aload_n C.1 C.2.1 dX10_best_37 rfl (lv_at hl 0 rfl) ?_
        obtain ⟨M38, hc38, hf⟩ := fm_bd hf
        refine fm_callV C E [] [] lm_X10_188 wk_X10_hear (c_Model_hear l G N _ _ hc38) hM_0 rfl rfl rfl hl.1 (by simp [Value.category]) ⟨⟨rfl, rfl⟩, by decide, by decide⟩ ⟨by decide, by decide⟩ dX10_best_38 rfl (fun H locs E => ?_)
        refine W.eq (g2 := F0 m 41 ls []) rfl ?_
        refine lv_iconst (v := (-1)) C.1 C.2.1 dX10_best_41 (by decide) ?_
        refine lv_istore_n (lv' := [(3, .int _), (0, .ref _), (1, .int _), (2, .int _)]) C.1 C.2.1 dX10_best_42 rfl hl (by decide) rfl (fun ls hl => ?_)
        refine lv_lconst (v := 0) C.1 C.2.1 dX10_best_43 (by decide) ?_
        refine lv_lstore (lv' := [(4, .long _), (3, .int _), (0, .ref _), (1, .int _), (2, .int _)]) C.1 C.2.1 dX10_best_44 hl (by decide) rfl (fun ls hl => ?_)
        refine lv_iconst (v := 1) C.1 C.2.1 dX10_best_46 (by decide) ?_
        refine lv_istore (lv' := [(6, .int _), (4, .long _), (3, .int _), (0, .ref _), (1, .int _), (2, .int _)]) C.1 C.2.1 dX10_best_47 hl (by decide) rfl (fun ls hl => ?_)
        exact L49 _ _ N _ _ _ _ _ _ _ E (lv_sub hl [3, 4, 5, 2, 1, 0] rfl) hf
      · have hf := fm_in' hf hc31
        refine lv_bipush (v := (-2)) C.1 C.2.1 dX10_best_34 (by decide) ?_
        obtain ⟨rfl, rfl⟩ := fm_rt2 hf
        exact fm_iret C E rfl rfl dX10_best_36
    · have hf := fm_ip hf hc19
      refine lv_iconst (v := (-1)) C.1 C.2.1 dX10_best_22 (by decide) ?_
      obtain ⟨rfl, rfl⟩ := fm_rt2 hf
      exact fm_iret C E rfl rfl dX10_best_23
theorem dX10_masks_0 : decode cX10_masks 0 = .ok (.aload_n 0, 1) := by decide +kernel
theorem dX10_masks_1 : decode cX10_masks 1 = .ok (.iconst 0, 1) := by decide +kernel
theorem dX10_masks_2 : decode cX10_masks 2 = .ok (.putfield 77, 3) := by decide +kernel
theorem dX10_masks_5 : decode cX10_masks 5 = .ok (.iload_n 1, 1) := by decide +kernel
theorem dX10_masks_6 : decode cX10_masks 6 = .ok (.invokestatic 182, 3) := by decide +kernel
theorem dX10_masks_9 : decode cX10_masks 9 = .ok (.ifCond .ne 5, 3) := by decide +kernel
theorem dX10_masks_12 : decode cX10_masks 12 = .ok (.iconst (-1), 1) := by decide +kernel
theorem dX10_masks_13 : decode cX10_masks 13 = .ok (.ireturn, 1) := by decide +kernel
theorem dX10_masks_14 : decode cX10_masks 14 = .ok (.aload_n 0, 1) := by decide +kernel
theorem dX10_masks_15 : decode cX10_masks 15 = .ok (.getfield 9, 3) := by decide +kernel
theorem dX10_masks_18 : decode cX10_masks 18 = .ok (.bipush 40, 2) := by decide +kernel
theorem dX10_masks_20 : decode cX10_masks 20 = .ok (.iaload, 1) := by decide +kernel
theorem dX10_masks_21 : decode cX10_masks 21 = .ok (.ifCond .ne 6, 3) := by decide +kernel
theorem dX10_masks_24 : decode cX10_masks 24 = .ok (.bipush (-2), 2) := by decide +kernel
theorem dX10_masks_26 : decode cX10_masks 26 = .ok (.ireturn, 1) := by decide +kernel
theorem dX10_masks_27 : decode cX10_masks 27 = .ok (.iconst (-1), 1) := by decide +kernel
theorem dX10_masks_28 : decode cX10_masks 28 = .ok (.istore_n 2, 1) := by decide +kernel
theorem dX10_masks_29 : decode cX10_masks 29 = .ok (.lconst 0, 1) := by decide +kernel
theorem dX10_masks_30 : decode cX10_masks 30 = .ok (.lstore_n 3, 1) := by decide +kernel
theorem dX10_masks_31 : decode cX10_masks 31 = .ok (.iconst 0, 1) := by decide +kernel
theorem dX10_masks_32 : decode cX10_masks 32 = .ok (.istore 5, 2) := by decide +kernel
theorem dX10_masks_34 : decode cX10_masks 34 = .ok (.iload 5, 2) := by decide +kernel
theorem dX10_masks_36 : decode cX10_masks 36 = .ok (.aload_n 0, 1) := by decide +kernel
theorem dX10_masks_37 : decode cX10_masks 37 = .ok (.getfield 9, 3) := by decide +kernel
theorem dX10_masks_40 : decode cX10_masks 40 = .ok (.bipush 40, 2) := by decide +kernel
theorem dX10_masks_42 : decode cX10_masks 42 = .ok (.iaload, 1) := by decide +kernel
theorem dX10_masks_43 : decode cX10_masks 43 = .ok (.if_icmp .ge 51, 3) := by decide +kernel
theorem dX10_masks_46 : decode cX10_masks 46 = .ok (.aload_n 0, 1) := by decide +kernel
theorem dX10_masks_47 : decode cX10_masks 47 = .ok (.iload 5, 2) := by decide +kernel
theorem dX10_masks_49 : decode cX10_masks 49 = .ok (.putfield 27, 3) := by decide +kernel
theorem dX10_masks_52 : decode cX10_masks 52 = .ok (.aload_n 0, 1) := by decide +kernel
theorem dX10_masks_53 : decode cX10_masks 53 = .ok (.invokevirtual 188, 3) := by decide +kernel
theorem dX10_masks_56 : decode cX10_masks 56 = .ok (.aload_n 0, 1) := by decide +kernel
theorem dX10_masks_57 : decode cX10_masks 57 = .ok (.aload_n 0, 1) := by decide +kernel
theorem dX10_masks_58 : decode cX10_masks 58 = .ok (.invokevirtual 204, 3) := by decide +kernel
theorem dX10_masks_61 : decode cX10_masks 61 = .ok (.iload_n 1, 1) := by decide +kernel
theorem dX10_masks_62 : decode cX10_masks 62 = .ok (.invokevirtual 253, 3) := by decide +kernel
theorem dX10_masks_65 : decode cX10_masks 65 = .ok (.lstore 6, 2) := by decide +kernel
theorem dX10_masks_67 : decode cX10_masks 67 = .ok (.iload_n 2, 1) := by decide +kernel
theorem dX10_masks_68 : decode cX10_masks 68 = .ok (.iconst (-1), 1) := by decide +kernel
theorem dX10_masks_69 : decode cX10_masks 69 = .ok (.if_icmp .eq 13, 3) := by decide +kernel
theorem dX10_masks_72 : decode cX10_masks 72 = .ok (.lload 6, 2) := by decide +kernel
theorem dX10_masks_74 : decode cX10_masks 74 = .ok (.lload_n 3, 1) := by decide +kernel
theorem dX10_masks_75 : decode cX10_masks 75 = .ok (.lcmp, 1) := by decide +kernel
theorem dX10_masks_76 : decode cX10_masks 76 = .ok (.ifCond .lt 6, 3) := by decide +kernel
theorem dX10_masks_79 : decode cX10_masks 79 = .ok (.goto 9, 3) := by decide +kernel
theorem dX10_masks_82 : decode cX10_masks 82 = .ok (.iload 5, 2) := by decide +kernel
theorem dX10_masks_84 : decode cX10_masks 84 = .ok (.istore_n 2, 1) := by decide +kernel
theorem dX10_masks_85 : decode cX10_masks 85 = .ok (.lload 6, 2) := by decide +kernel
theorem dX10_masks_87 : decode cX10_masks 87 = .ok (.lstore_n 3, 1) := by decide +kernel
theorem dX10_masks_88 : decode cX10_masks 88 = .ok (.iinc 5 1, 3) := by decide +kernel
theorem dX10_masks_91 : decode cX10_masks 91 = .ok (.goto (-57), 3) := by decide +kernel
theorem dX10_masks_94 : decode cX10_masks 94 = .ok (.aload_n 0, 1) := by decide +kernel
theorem dX10_masks_95 : decode cX10_masks 95 = .ok (.iconst (-1), 1) := by decide +kernel
theorem dX10_masks_96 : decode cX10_masks 96 = .ok (.putfield 27, 3) := by decide +kernel
theorem dX10_masks_99 : decode cX10_masks 99 = .ok (.aload_n 0, 1) := by decide +kernel
theorem dX10_masks_100 : decode cX10_masks 100 = .ok (.iconst 0, 1) := by decide +kernel
theorem dX10_masks_101 : decode cX10_masks 101 = .ok (.putfield 80, 3) := by decide +kernel
theorem dX10_masks_104 : decode cX10_masks 104 = .ok (.aload_n 0, 1) := by decide +kernel
theorem dX10_masks_105 : decode cX10_masks 105 = .ok (.lload_n 3, 1) := by decide +kernel
theorem dX10_masks_106 : decode cX10_masks 106 = .ok (.invokevirtual 245, 3) := by decide +kernel
theorem dX10_masks_109 : decode cX10_masks 109 = .ok (.iload_n 2, 1) := by decide +kernel
theorem dX10_masks_110 : decode cX10_masks 110 = .ok (.ireturn, 1) := by decide +kernel
set_option maxHeartbeats 4000000 in
set_option maxRecDepth 100000 in
theorem c_Model_masks (l : Launch) (G : fm_G) (N : Nat) (M : fm_M) (v1 : Int32) (r : Int32) (M' : fm_M) (hf : pModel_masks N M v1 = some (r, M')) : fm_Met l yX10_masks cX10_masks 8 (some .int) { frames := 6, cells := 0, slots := 0, locals := 139 } shM G [.ref (G.2.1 0), .int v1] M (some (.int r)) M' := by
  refine fm_enter (by decide) (Nat.le_of_ble_eq_true rfl) ?_
  intro p e s m args below meth c ls C E hl
  have hl : lv_has ls 8 [(0, .ref (G.2.1 0)), (1, .int v1)] := hl
  have L34 : ∀ (w34_v1 : Int32) (n34 : Nat) (v2 : Int32) (v3 : Int64) (v5 : Int32) (M : fm_M) (H : Heap) (locs : List Loc) (ls : Array Slot), fm_Wd shM G M s H locs → lv_has ls 8 [(0, .ref (G.2.1 0)), (1, .int w34_v1), (2, .int v2), (3, .long v3), (5, .int v5)] → fm_lp (pModel_masks_L34 N w34_v1) n34 (v2, v3, v5, M) = some (r, M') → W p l e { frames := 6, cells := 0, slots := 0, locals := 139 } s m args below meth c H locs 0 0 (fm_Z below shM G args s (some (.int r)) M') (F0 m 34 ls []) := by
    intro w34_v1 n34
    induction n34 with
    | zero => intro v2 v3 v5 M H locs ls E hl hf; exact fm_lp_0 hf
    | succ n34 ih34 =>
      intro v2 v3 v5 M H locs ls E hl hf
      have hf : pModel_masks_L34b N w34_v1 (fm_lp (pModel_masks_L34 N w34_v1) n34) v2 v3 v5 M = some (r, M') := hf
      unfold pModel_masks_L34b at hf
      refine lv_iload C.1 C.2.1 dX10_masks_34 (lv_at hl 4 rfl) ?_
      refine lv_aload_n C.1 C.2.1 dX10_masks_36 rfl (lv_at hl 0 rfl) ?_
      refine fm_getr C E lf_X10_9 hM_0 rfl dX10_masks_37 ?_
      refine lv_bipush (v := 40) C.1 C.2.1 dX10_masks_40 (by decide) ?_
      refine fm_ialdc C E 40 (by decide) hM_1 (by decide) dX10_masks_42 ?_
      refine lv_icmp_ge (tgt := 94) C.1 C.2.1 dX10_masks_43 (by decide) (fun hc43 => ?_) (fun hc43 => ?_)
      · have hf := fm_ip hf hc43
        refine lv_aload_n C.1 C.2.1 dX10_masks_94 rfl (lv_at hl 0 rfl) ?_
        refine lv_iconst (v := (-1)) C.1 C.2.1 dX10_masks_95 (by decide) ?_
        obtain ⟨M96, e96, hf⟩ := fm_pt_s hf
        refine fm_put' C E e96 lp_X10_27 hM_0 rfl dX10_masks_96 (fun H locs E => ?_)
        refine lv_aload_n C.1 C.2.1 dX10_masks_99 rfl (lv_at hl 0 rfl) ?_
        refine lv_iconst (v := 0) C.1 C.2.1 dX10_masks_100 (by decide) ?_
        obtain ⟨M101, e101, hf⟩ := fm_pt_s hf
        refine fm_put' C E e101 lp_X10_80 hM_0 rfl dX10_masks_101 (fun H locs E => ?_)
        refine lv_aload_n C.1 C.2.1 dX10_masks_104 rfl (lv_at hl 0 rfl) ?_
        refine lv_lload_n C.1 C.2.1 dX10_masks_105 rfl (lv_at hl 3 rfl) ?_
        obtain ⟨M106, hc106, hf⟩ := fm_bd hf
        refine fm_callV C E [.long _] [] lm_X10_245 wk_X10_tell (c_Model_tell l G _ _ _ hc106) hM_0 rfl rfl rfl hl.1 (by simp [Value.category]) ⟨⟨rfl, rfl⟩, by decide, by decide⟩ ⟨by decide, by decide⟩ dX10_masks_106 rfl (fun H locs E => ?_)
        refine W.eq (g2 := F0 m 109 ls []) rfl ?_
        refine lv_iload_n C.1 C.2.1 dX10_masks_109 rfl (lv_at hl 2 rfl) ?_
        obtain ⟨rfl, rfl⟩ := fm_rt2 hf
        exact fm_iret C E rfl rfl dX10_masks_110
      · have hf := fm_in' hf hc43
        refine lv_aload_n C.1 C.2.1 dX10_masks_46 rfl (lv_at hl 0 rfl) ?_
        refine lv_iload C.1 C.2.1 dX10_masks_47 (lv_at hl 4 rfl) ?_
        obtain ⟨M49, e49, hf⟩ := fm_pt_s hf
        refine fm_put' C E e49 lp_X10_27 hM_0 rfl dX10_masks_49 (fun H locs E => ?_)
        refine lv_aload_n C.1 C.2.1 dX10_masks_52 rfl (lv_at hl 0 rfl) ?_
        obtain ⟨M53, hc53, hf⟩ := fm_bd hf
        refine fm_callV C E [] [] lm_X10_188 wk_X10_hear (c_Model_hear l G N _ _ hc53) hM_0 rfl rfl rfl hl.1 (by simp [Value.category]) ⟨⟨rfl, rfl⟩, by decide, by decide⟩ ⟨by decide, by decide⟩ dX10_masks_53 rfl (fun H locs E => ?_)
        refine W.eq (g2 := F0 m 56 ls []) rfl ?_
        refine lv_aload_n C.1 C.2.1 dX10_masks_56 rfl (lv_at hl 0 rfl) ?_
        refine lv_aload_n C.1 C.2.1 dX10_masks_57 rfl (lv_at hl 0 rfl) ?_
        obtain ⟨x58, hc58, hf⟩ := fm_bd hf
        refine fm_callV C E [] [.ref _] lm_X10_204 wk_X10_liveBits (c_Model_liveBits l G N _ _  hc58) hM_0 rfl rfl rfl hl.1 (by simp [Value.category]) ⟨⟨rfl, rfl⟩, by decide, by decide⟩ ⟨by decide, by decide⟩ dX10_masks_58 rfl (fun H locs E => ?_)
        refine W.eq (g2 := F0 m 61 ls (.int x58 :: [.ref _])) rfl ?_
        refine lv_iload_n C.1 C.2.1 dX10_masks_61 rfl (lv_at hl 1 rfl) ?_
        obtain ⟨⟨x62, M62⟩, hc62, hf⟩ := fm_bd hf
        dsimp only at hf
        refine fm_callV C E [.int _, .int _] [] lm_X10_253 wk_X10_beamPower (c_Model_beamPower l G N _ _ _ _ _ hc62) hM_0 rfl rfl rfl hl.1 (by simp [Value.category]) ⟨⟨rfl, rfl⟩, by decide, by decide⟩ ⟨by decide, by decide⟩ dX10_masks_62 rfl (fun H locs E => ?_)
        refine W.eq (g2 := F0 m 65 ls (.long x62 :: [])) rfl ?_
        refine lv_lstore (lv' := [(6, .long _), (0, .ref _), (1, .int _), (2, .int _), (3, .long _), (5, .int _)]) C.1 C.2.1 dX10_masks_65 hl (by decide) rfl (fun ls hl => ?_)
        refine lv_iload_n C.1 C.2.1 dX10_masks_67 rfl (lv_at hl 3 rfl) ?_
        refine lv_iconst (v := (-1)) C.1 C.2.1 dX10_masks_68 (by decide) ?_
        refine lv_icmp_eq (tgt := 82) C.1 C.2.1 dX10_masks_69 (by decide) (fun hc69 => ?_) (fun hc69 => ?_)
        · have hf := fm_ip hf hc69
          refine lv_iload C.1 C.2.1 dX10_masks_82 (lv_at hl 5 rfl) ?_
          refine lv_istore_n (lv' := [(2, .int _), (6, .long _), (0, .ref _), (1, .int _), (3, .long _), (5, .int _)]) C.1 C.2.1 dX10_masks_84 rfl hl (by decide) rfl (fun ls hl => ?_)
          refine lv_lload C.1 C.2.1 dX10_masks_85 (lv_at hl 1 rfl) ?_
          refine lv_lstore_n (lv' := [(3, .long _), (2, .int _), (6, .long _), (0, .ref _), (1, .int _), (5, .int _)]) C.1 C.2.1 dX10_masks_87 rfl hl (by decide) rfl (fun ls hl => ?_)
          refine fm_iinc C (v := 1) (lv' := [(5, .int _), (3, .long _), (2, .int _), (6, .long _), (0, .ref _), (1, .int _)]) (k := 5) hl rfl (by decide) (by decide) rfl dX10_masks_88 (fun ls hl => ?_)
          refine lv_goto (tgt := 34) C.1 C.2.1 dX10_masks_91 (by decide) ?_
          exact ih34 _ _ _ _ _ _ _ E (lv_sub hl [4, 5, 2, 1, 0] rfl) hf
        · have hf := fm_in' hf hc69
          refine lv_lload C.1 C.2.1 dX10_masks_72 (lv_at hl 0 rfl) ?_
          refine lv_lload_n C.1 C.2.1 dX10_masks_74 rfl (lv_at hl 4 rfl) ?_
          refine W.lcmp C.1 C.2.1 dX10_masks_75 ?_
          refine lv_if_lt (tgt := 82) C.1 C.2.1 dX10_masks_76 (by decide) (fun hc76 => ?_) (fun hc76 => ?_)
          · have hf := fm_ip hf hc76
            refine lv_iload C.1 C.2.1 dX10_masks_82 (lv_at hl 5 rfl) ?_
            refine lv_istore_n (lv' := [(2, .int _), (6, .long _), (0, .ref _), (1, .int _), (3, .long _), (5, .int _)]) C.1 C.2.1 dX10_masks_84 rfl hl (by decide) rfl (fun ls hl => ?_)
            refine lv_lload C.1 C.2.1 dX10_masks_85 (lv_at hl 1 rfl) ?_
            refine lv_lstore_n (lv' := [(3, .long _), (2, .int _), (6, .long _), (0, .ref _), (1, .int _), (5, .int _)]) C.1 C.2.1 dX10_masks_87 rfl hl (by decide) rfl (fun ls hl => ?_)
            refine fm_iinc C (v := 1) (lv' := [(5, .int _), (3, .long _), (2, .int _), (6, .long _), (0, .ref _), (1, .int _)]) (k := 5) hl rfl (by decide) (by decide) rfl dX10_masks_88 (fun ls hl => ?_)
            refine lv_goto (tgt := 34) C.1 C.2.1 dX10_masks_91 (by decide) ?_
            exact ih34 _ _ _ _ _ _ _ E (lv_sub hl [4, 5, 2, 1, 0] rfl) hf
          · have hf := fm_in' hf hc76
            refine lv_goto (tgt := 88) C.1 C.2.1 dX10_masks_79 (by decide) ?_
            refine fm_iinc C (v := 1) (lv' := [(5, .int _), (6, .long _), (0, .ref _), (1, .int _), (2, .int _), (3, .long _)]) (k := 5) hl rfl (by decide) (by decide) rfl dX10_masks_88 (fun ls hl => ?_)
            refine lv_goto (tgt := 34) C.1 C.2.1 dX10_masks_91 (by decide) ?_
            exact ih34 _ _ _ _ _ _ _ E (lv_sub hl [2, 3, 4, 5, 0] rfl) hf
  unfold pModel_masks at hf
  refine lv_aload_n C.1 C.2.1 dX10_masks_0 rfl (lv_at hl 0 rfl) ?_
  refine lv_iconst (v := 0) C.1 C.2.1 dX10_masks_1 (by decide) ?_
  obtain ⟨M2, e2, hf⟩ := fm_pt_s hf
  refine fm_put' C E e2 lp_X10_77 hM_0 rfl dX10_masks_2 (fun H locs E => ?_)
  refine lv_iload_n C.1 C.2.1 dX10_masks_5 rfl (lv_at hl 1 rfl) ?_
  obtain ⟨x6, hc6, hf⟩ := fm_bd hf
  refine fm_callS C E [.int _] [] lm_X10_182 wk_X10_isSide (c_Model_isSide l G _ _ _  hc6) rfl hl.1 (by simp [Value.category]) ⟨⟨rfl, rfl⟩, by decide, by decide⟩ ⟨by decide, by decide⟩ dX10_masks_6 rfl (fun H locs E => ?_)
  refine W.eq (g2 := F0 m 9 ls (.int x6 :: [])) rfl ?_
  refine lv_if_ne (tgt := 14) C.1 C.2.1 dX10_masks_9 (by decide) (fun hc9 => ?_) (fun hc9 => ?_)
  · have hf := fm_in' hf hc9
    refine lv_aload_n C.1 C.2.1 dX10_masks_14 rfl (lv_at hl 0 rfl) ?_
    refine fm_getr C E lf_X10_9 hM_0 rfl dX10_masks_15 ?_
    refine lv_bipush (v := 40) C.1 C.2.1 dX10_masks_18 (by decide) ?_
    refine fm_ialdc C E 40 (by decide) hM_1 (by decide) dX10_masks_20 ?_
    refine lv_if_ne (tgt := 27) C.1 C.2.1 dX10_masks_21 (by decide) (fun hc21 => ?_) (fun hc21 => ?_)
    · have hf := fm_in' hf hc21
      refine lv_iconst (v := (-1)) C.1 C.2.1 dX10_masks_27 (by decide) ?_
      refine lv_istore_n (lv' := [(2, .int _), (0, .ref _), (1, .int _)]) C.1 C.2.1 dX10_masks_28 rfl hl (by decide) rfl (fun ls hl => ?_)
      refine lv_lconst (v := 0) C.1 C.2.1 dX10_masks_29 (by decide) ?_
      refine lv_lstore_n (lv' := [(3, .long _), (2, .int _), (0, .ref _), (1, .int _)]) C.1 C.2.1 dX10_masks_30 rfl hl (by decide) rfl (fun ls hl => ?_)
      refine lv_iconst (v := 0) C.1 C.2.1 dX10_masks_31 (by decide) ?_
      refine lv_istore (lv' := [(5, .int _), (3, .long _), (2, .int _), (0, .ref _), (1, .int _)]) C.1 C.2.1 dX10_masks_32 hl (by decide) rfl (fun ls hl => ?_)
      exact L34 _ N _ _ _ _ _ _ _ E (lv_sub hl [3, 4, 2, 1, 0] rfl) hf
    · have hf := fm_ip hf hc21
      refine lv_bipush (v := (-2)) C.1 C.2.1 dX10_masks_24 (by decide) ?_
      obtain ⟨rfl, rfl⟩ := fm_rt2 hf
      exact fm_iret C E rfl rfl dX10_masks_26
  · have hf := fm_ip hf hc9
    refine lv_iconst (v := (-1)) C.1 C.2.1 dX10_masks_12 (by decide) ?_
    obtain ⟨rfl, rfl⟩ := fm_rt2 hf
    exact fm_iret C E rfl rfl dX10_masks_13
theorem dX10_nulled_0 : decode cX10_nulled 0 = .ok (.aload_n 0, 1) := by decide +kernel
theorem dX10_nulled_1 : decode cX10_nulled 1 = .ok (.iconst 0, 1) := by decide +kernel
theorem dX10_nulled_2 : decode cX10_nulled 2 = .ok (.putfield 77, 3) := by decide +kernel
theorem dX10_nulled_5 : decode cX10_nulled 5 = .ok (.iload_n 1, 1) := by decide +kernel
theorem dX10_nulled_6 : decode cX10_nulled 6 = .ok (.invokestatic 182, 3) := by decide +kernel
theorem dX10_nulled_9 : decode cX10_nulled 9 = .ok (.ifCond .eq 10, 3) := by decide +kernel
theorem dX10_nulled_12 : decode cX10_nulled 12 = .ok (.iload_n 2, 1) := by decide +kernel
theorem dX10_nulled_13 : decode cX10_nulled 13 = .ok (.invokestatic 182, 3) := by decide +kernel
theorem dX10_nulled_16 : decode cX10_nulled 16 = .ok (.ifCond .ne 5, 3) := by decide +kernel
theorem dX10_nulled_19 : decode cX10_nulled 19 = .ok (.iconst (-1), 1) := by decide +kernel
theorem dX10_nulled_20 : decode cX10_nulled 20 = .ok (.ireturn, 1) := by decide +kernel
theorem dX10_nulled_21 : decode cX10_nulled 21 = .ok (.iconst 0, 1) := by decide +kernel
theorem dX10_nulled_22 : decode cX10_nulled 22 = .ok (.istore_n 3, 1) := by decide +kernel
theorem dX10_nulled_23 : decode cX10_nulled 23 = .ok (.iconst 0, 1) := by decide +kernel
theorem dX10_nulled_24 : decode cX10_nulled 24 = .ok (.istore 4, 2) := by decide +kernel
theorem dX10_nulled_26 : decode cX10_nulled 26 = .ok (.iload 4, 2) := by decide +kernel
theorem dX10_nulled_28 : decode cX10_nulled 28 = .ok (.aload_n 0, 1) := by decide +kernel
theorem dX10_nulled_29 : decode cX10_nulled 29 = .ok (.getfield 9, 3) := by decide +kernel
theorem dX10_nulled_32 : decode cX10_nulled 32 = .ok (.bipush 40, 2) := by decide +kernel
theorem dX10_nulled_34 : decode cX10_nulled 34 = .ok (.iaload, 1) := by decide +kernel
theorem dX10_nulled_35 : decode cX10_nulled 35 = .ok (.if_icmp .ge 28, 3) := by decide +kernel
theorem dX10_nulled_38 : decode cX10_nulled 38 = .ok (.iload_n 3, 1) := by decide +kernel
theorem dX10_nulled_39 : decode cX10_nulled 39 = .ok (.aload_n 0, 1) := by decide +kernel
theorem dX10_nulled_40 : decode cX10_nulled 40 = .ok (.iload 4, 2) := by decide +kernel
theorem dX10_nulled_42 : decode cX10_nulled 42 = .ok (.iconst 0, 1) := by decide +kernel
theorem dX10_nulled_43 : decode cX10_nulled 43 = .ok (.invokevirtual 160, 3) := by decide +kernel
theorem dX10_nulled_46 : decode cX10_nulled 46 = .ok (.iload_n 2, 1) := by decide +kernel
theorem dX10_nulled_47 : decode cX10_nulled 47 = .ok (.if_icmp .ne 7, 3) := by decide +kernel
theorem dX10_nulled_50 : decode cX10_nulled 50 = .ok (.iconst 1, 1) := by decide +kernel
theorem dX10_nulled_51 : decode cX10_nulled 51 = .ok (.goto 4, 3) := by decide +kernel
theorem dX10_nulled_54 : decode cX10_nulled 54 = .ok (.iconst 0, 1) := by decide +kernel
theorem dX10_nulled_55 : decode cX10_nulled 55 = .ok (.iadd, 1) := by decide +kernel
theorem dX10_nulled_56 : decode cX10_nulled 56 = .ok (.istore_n 3, 1) := by decide +kernel
theorem dX10_nulled_57 : decode cX10_nulled 57 = .ok (.iinc 4 1, 3) := by decide +kernel
theorem dX10_nulled_60 : decode cX10_nulled 60 = .ok (.goto (-34), 3) := by decide +kernel
theorem dX10_nulled_63 : decode cX10_nulled 63 = .ok (.aload_n 0, 1) := by decide +kernel
theorem dX10_nulled_64 : decode cX10_nulled 64 = .ok (.invokevirtual 204, 3) := by decide +kernel
theorem dX10_nulled_67 : decode cX10_nulled 67 = .ok (.istore 4, 2) := by decide +kernel
theorem dX10_nulled_69 : decode cX10_nulled 69 = .ok (.aload_n 0, 1) := by decide +kernel
theorem dX10_nulled_70 : decode cX10_nulled 70 = .ok (.iload_n 2, 1) := by decide +kernel
theorem dX10_nulled_71 : decode cX10_nulled 71 = .ok (.putfield 31, 3) := by decide +kernel
theorem dX10_nulled_74 : decode cX10_nulled 74 = .ok (.aload_n 0, 1) := by decide +kernel
theorem dX10_nulled_75 : decode cX10_nulled 75 = .ok (.invokevirtual 188, 3) := by decide +kernel
theorem dX10_nulled_78 : decode cX10_nulled 78 = .ok (.aload_n 0, 1) := by decide +kernel
theorem dX10_nulled_79 : decode cX10_nulled 79 = .ok (.iload 4, 2) := by decide +kernel
theorem dX10_nulled_81 : decode cX10_nulled 81 = .ok (.iload_n 1, 1) := by decide +kernel
theorem dX10_nulled_82 : decode cX10_nulled 82 = .ok (.invokevirtual 239, 3) := by decide +kernel
theorem dX10_nulled_85 : decode cX10_nulled 85 = .ok (.aload_n 0, 1) := by decide +kernel
theorem dX10_nulled_86 : decode cX10_nulled 86 = .ok (.sipush 300, 3) := by decide +kernel
theorem dX10_nulled_89 : decode cX10_nulled 89 = .ok (.putfield 31, 3) := by decide +kernel
theorem dX10_nulled_92 : decode cX10_nulled 92 = .ok (.aload_n 0, 1) := by decide +kernel
theorem dX10_nulled_93 : decode cX10_nulled 93 = .ok (.invokevirtual 188, 3) := by decide +kernel
theorem dX10_nulled_96 : decode cX10_nulled 96 = .ok (.aload_n 0, 1) := by decide +kernel
theorem dX10_nulled_97 : decode cX10_nulled 97 = .ok (.iload 4, 2) := by decide +kernel
theorem dX10_nulled_99 : decode cX10_nulled 99 = .ok (.iload_n 1, 1) := by decide +kernel
theorem dX10_nulled_100 : decode cX10_nulled 100 = .ok (.invokevirtual 232, 3) := by decide +kernel
theorem dX10_nulled_103 : decode cX10_nulled 103 = .ok (.iconst 0, 1) := by decide +kernel
theorem dX10_nulled_104 : decode cX10_nulled 104 = .ok (.istore 5, 2) := by decide +kernel
theorem dX10_nulled_106 : decode cX10_nulled 106 = .ok (.iload 5, 2) := by decide +kernel
theorem dX10_nulled_108 : decode cX10_nulled 108 = .ok (.aload_n 0, 1) := by decide +kernel
theorem dX10_nulled_109 : decode cX10_nulled 109 = .ok (.getfield 214, 3) := by decide +kernel
theorem dX10_nulled_112 : decode cX10_nulled 112 = .ok (.if_icmp .ge 62, 3) := by decide +kernel
theorem dX10_nulled_115 : decode cX10_nulled 115 = .ok (.iconst 0, 1) := by decide +kernel
theorem dX10_nulled_116 : decode cX10_nulled 116 = .ok (.istore 6, 2) := by decide +kernel
theorem dX10_nulled_118 : decode cX10_nulled 118 = .ok (.iload 6, 2) := by decide +kernel
theorem dX10_nulled_120 : decode cX10_nulled 120 = .ok (.aload_n 0, 1) := by decide +kernel
theorem dX10_nulled_121 : decode cX10_nulled 121 = .ok (.getfield 9, 3) := by decide +kernel
theorem dX10_nulled_124 : decode cX10_nulled 124 = .ok (.bipush 39, 2) := by decide +kernel
theorem dX10_nulled_126 : decode cX10_nulled 126 = .ok (.iaload, 1) := by decide +kernel
theorem dX10_nulled_127 : decode cX10_nulled 127 = .ok (.if_icmp .ge 41, 3) := by decide +kernel
theorem dX10_nulled_130 : decode cX10_nulled 130 = .ok (.aload_n 0, 1) := by decide +kernel
theorem dX10_nulled_131 : decode cX10_nulled 131 = .ok (.getfield 43, 3) := by decide +kernel
theorem dX10_nulled_134 : decode cX10_nulled 134 = .ok (.bipush 48, 2) := by decide +kernel
theorem dX10_nulled_136 : decode cX10_nulled 136 = .ok (.iload 5, 2) := by decide +kernel
theorem dX10_nulled_138 : decode cX10_nulled 138 = .ok (.imul, 1) := by decide +kernel
theorem dX10_nulled_139 : decode cX10_nulled 139 = .ok (.iload 6, 2) := by decide +kernel
theorem dX10_nulled_141 : decode cX10_nulled 141 = .ok (.iadd, 1) := by decide +kernel
theorem dX10_nulled_142 : decode cX10_nulled 142 = .ok (.aload_n 0, 1) := by decide +kernel
theorem dX10_nulled_143 : decode cX10_nulled 143 = .ok (.iload 4, 2) := by decide +kernel
theorem dX10_nulled_145 : decode cX10_nulled 145 = .ok (.iload_n 1, 1) := by decide +kernel
theorem dX10_nulled_146 : decode cX10_nulled 146 = .ok (.iload 5, 2) := by decide +kernel
theorem dX10_nulled_148 : decode cX10_nulled 148 = .ok (.aload_n 0, 1) := by decide +kernel
theorem dX10_nulled_149 : decode cX10_nulled 149 = .ok (.getfield 9, 3) := by decide +kernel
theorem dX10_nulled_152 : decode cX10_nulled 152 = .ok (.bipush 38, 2) := by decide +kernel
theorem dX10_nulled_154 : decode cX10_nulled 154 = .ok (.iaload, 1) := by decide +kernel
theorem dX10_nulled_155 : decode cX10_nulled 155 = .ok (.iload 6, 2) := by decide +kernel
theorem dX10_nulled_157 : decode cX10_nulled 157 = .ok (.iadd, 1) := by decide +kernel
theorem dX10_nulled_158 : decode cX10_nulled 158 = .ok (.invokevirtual 210, 3) := by decide +kernel
theorem dX10_nulled_161 : decode cX10_nulled 161 = .ok (.iastore, 1) := by decide +kernel
theorem dX10_nulled_162 : decode cX10_nulled 162 = .ok (.iinc 6 1, 3) := by decide +kernel
theorem dX10_nulled_165 : decode cX10_nulled 165 = .ok (.goto (-47), 3) := by decide +kernel
theorem dX10_nulled_168 : decode cX10_nulled 168 = .ok (.iinc 5 1, 3) := by decide +kernel
theorem dX10_nulled_171 : decode cX10_nulled 171 = .ok (.goto (-65), 3) := by decide +kernel
theorem dX10_nulled_174 : decode cX10_nulled 174 = .ok (.aload_n 0, 1) := by decide +kernel
theorem dX10_nulled_175 : decode cX10_nulled 175 = .ok (.invokevirtual 225, 3) := by decide +kernel
theorem dX10_nulled_178 : decode cX10_nulled 178 = .ok (.aload_n 0, 1) := by decide +kernel
theorem dX10_nulled_179 : decode cX10_nulled 179 = .ok (.iconst 0, 1) := by decide +kernel
theorem dX10_nulled_180 : decode cX10_nulled 180 = .ok (.putfield 80, 3) := by decide +kernel
theorem dX10_nulled_183 : decode cX10_nulled 183 = .ok (.aload_n 0, 1) := by decide +kernel
theorem dX10_nulled_184 : decode cX10_nulled 184 = .ok (.aload_n 0, 1) := by decide +kernel
theorem dX10_nulled_185 : decode cX10_nulled 185 = .ok (.aload_n 0, 1) := by decide +kernel
theorem dX10_nulled_186 : decode cX10_nulled 186 = .ok (.getfield 46, 3) := by decide +kernel
theorem dX10_nulled_189 : decode cX10_nulled 189 = .ok (.invokevirtual 228, 3) := by decide +kernel
theorem dX10_nulled_192 : decode cX10_nulled 192 = .ok (.invokevirtual 245, 3) := by decide +kernel
theorem dX10_nulled_195 : decode cX10_nulled 195 = .ok (.aload_n 0, 1) := by decide +kernel
theorem dX10_nulled_196 : decode cX10_nulled 196 = .ok (.aload_n 0, 1) := by decide +kernel
theorem dX10_nulled_197 : decode cX10_nulled 197 = .ok (.aload_n 0, 1) := by decide +kernel
theorem dX10_nulled_198 : decode cX10_nulled 198 = .ok (.getfield 40, 3) := by decide +kernel
theorem dX10_nulled_201 : decode cX10_nulled 201 = .ok (.invokevirtual 228, 3) := by decide +kernel
theorem dX10_nulled_204 : decode cX10_nulled 204 = .ok (.invokevirtual 245, 3) := by decide +kernel
theorem dX10_nulled_207 : decode cX10_nulled 207 = .ok (.iload_n 3, 1) := by decide +kernel
theorem dX10_nulled_208 : decode cX10_nulled 208 = .ok (.ireturn, 1) := by decide +kernel
set_option maxHeartbeats 4000000 in
set_option maxRecDepth 100000 in
theorem c_Model_nulled (l : Launch) (G : fm_G) (N : Nat) (M : fm_M) (v1 : Int32) (v2 : Int32) (r : Int32) (M' : fm_M) (hf : pModel_nulled N M v1 v2 = some (r, M')) : fm_Met l yX10_nulled cX10_nulled 7 (some .int) { frames := 6, cells := 0, slots := 0, locals := 141 } shM G [.ref (G.2.1 0), .int v1, .int v2] M (some (.int r)) M' := by
  refine fm_enter (by decide) (Nat.le_of_ble_eq_true rfl) ?_
  intro p e s m args below meth c ls C E hl
  have hl : lv_has ls 7 [(0, .ref (G.2.1 0)), (1, .int v1), (2, .int v2)] := hl
  have L106 : ∀ (w106_v1 : Int32) (w106_v3 : Int32) (w106_v4 : Int32) (n106 : Nat) (v5 : Int32) (M : fm_M) (H : Heap) (locs : List Loc) (ls : Array Slot), fm_Wd shM G M s H locs → lv_has ls 7 [(0, .ref (G.2.1 0)), (1, .int w106_v1), (3, .int w106_v3), (4, .int w106_v4), (5, .int v5)] → fm_lp (pModel_nulled_L106 N w106_v1 w106_v3 w106_v4) n106 (v5, M) = some (r, M') → W p l e { frames := 6, cells := 0, slots := 0, locals := 141 } s m args below meth c H locs 0 0 (fm_Z below shM G args s (some (.int r)) M') (F0 m 106 ls []) := by
    intro w106_v1 w106_v3 w106_v4 n106
    induction n106 with
    | zero => intro v5 M H locs ls E hl hf; exact fm_lp_0 hf
    | succ n106 ih106 =>
      have L118 : ∀ (w118_v5 : Int32) (n118 : Nat) (v6 : Int32) (M : fm_M) (H : Heap) (locs : List Loc) (ls : Array Slot), fm_Wd shM G M s H locs → lv_has ls 7 [(0, .ref (G.2.1 0)), (1, .int w106_v1), (3, .int w106_v3), (4, .int w106_v4), (5, .int w118_v5), (6, .int v6)] → fm_lp (pModel_nulled_L118 N w106_v1 w106_v3 w106_v4 w118_v5 (fm_lp (pModel_nulled_L106 N w106_v1 w106_v3 w106_v4) n106)) n118 (v6, M) = some (r, M') → W p l e { frames := 6, cells := 0, slots := 0, locals := 141 } s m args below meth c H locs 0 0 (fm_Z below shM G args s (some (.int r)) M') (F0 m 118 ls []) := by
        intro w118_v5 n118
        induction n118 with
        | zero => intro v6 M H locs ls E hl hf; exact fm_lp_0 hf
        | succ n118 ih118 =>
          intro v6 M H locs ls E hl hf
          have hf : pModel_nulled_L118b N w106_v1 w106_v3 w106_v4 w118_v5 (fm_lp (pModel_nulled_L106 N w106_v1 w106_v3 w106_v4) n106) (fm_lp (pModel_nulled_L118 N w106_v1 w106_v3 w106_v4 w118_v5 (fm_lp (pModel_nulled_L106 N w106_v1 w106_v3 w106_v4) n106)) n118) v6 M = some (r, M') := hf
          unfold pModel_nulled_L118b at hf
          refine lv_iload C.1 C.2.1 dX10_nulled_118 (lv_at hl 5 rfl) ?_
          refine lv_aload_n C.1 C.2.1 dX10_nulled_120 rfl (lv_at hl 0 rfl) ?_
          refine fm_getr C E lf_X10_9 hM_0 rfl dX10_nulled_121 ?_
          refine lv_bipush (v := 39) C.1 C.2.1 dX10_nulled_124 (by decide) ?_
          refine fm_ialdc C E 39 (by decide) hM_1 (by decide) dX10_nulled_126 ?_
          refine lv_icmp_ge (tgt := 168) C.1 C.2.1 dX10_nulled_127 (by decide) (fun hc127 => ?_) (fun hc127 => ?_)
          · have hf := fm_ip hf hc127
            refine fm_iinc C (v := 1) (lv' := [(5, .int _), (0, .ref _), (1, .int _), (3, .int _), (4, .int _), (6, .int _)]) (k := 4) hl rfl (by decide) (by decide) rfl dX10_nulled_168 (fun ls hl => ?_)
            refine lv_goto (tgt := 106) C.1 C.2.1 dX10_nulled_171 (by decide) ?_
            exact ih106 _ _ _ _ _ E (lv_sub hl [1, 2, 3, 4, 0] rfl) hf
          · have hf := fm_in' hf hc127
            refine lv_aload_n C.1 C.2.1 dX10_nulled_130 rfl (lv_at hl 0 rfl) ?_
            refine fm_getr C E lf_X10_43 hM_0 rfl dX10_nulled_131 ?_
            refine lv_bipush (v := 48) C.1 C.2.1 dX10_nulled_134 (by decide) ?_
            refine lv_iload C.1 C.2.1 dX10_nulled_136 (lv_at hl 4 rfl) ?_
            refine lv_imul C.1 C.2.1 dX10_nulled_138 ?_
            refine lv_iload C.1 C.2.1 dX10_nulled_139 (lv_at hl 5 rfl) ?_
            refine lv_iadd C.1 C.2.1 dX10_nulled_141 ?_
            refine lv_aload_n C.1 C.2.1 dX10_nulled_142 rfl (lv_at hl 0 rfl) ?_
            refine lv_iload C.1 C.2.1 dX10_nulled_143 (lv_at hl 3 rfl) ?_
            refine lv_iload_n C.1 C.2.1 dX10_nulled_145 rfl (lv_at hl 1 rfl) ?_
            refine lv_iload C.1 C.2.1 dX10_nulled_146 (lv_at hl 4 rfl) ?_
            refine lv_aload_n C.1 C.2.1 dX10_nulled_148 rfl (lv_at hl 0 rfl) ?_
            refine fm_getr C E lf_X10_9 hM_0 rfl dX10_nulled_149 ?_
            refine lv_bipush (v := 38) C.1 C.2.1 dX10_nulled_152 (by decide) ?_
            refine fm_ialdc C E 38 (by decide) hM_1 (by decide) dX10_nulled_154 ?_
            refine lv_iload C.1 C.2.1 dX10_nulled_155 (lv_at hl 5 rfl) ?_
            refine lv_iadd C.1 C.2.1 dX10_nulled_157 ?_
            obtain ⟨x158, hc158, hf⟩ := fm_bd hf
            refine fm_callV C E [.int _, .int _, .int _, .int _] [.int _, .ref _] lm_X10_210 wk_X10_blockedOf (c_Model_blockedOf l G N _ _ _ _ _ _  hc158) hM_0 rfl rfl rfl hl.1 (by simp [Value.category]) ⟨⟨rfl, rfl⟩, by decide, by decide⟩ ⟨by decide, by decide⟩ dX10_nulled_158 rfl (fun H locs E => ?_)
            refine W.eq (g2 := F0 m 161 ls (.int x158 :: [.int _, .ref _])) rfl ?_
            obtain ⟨h161, M161, e161, hf⟩ := fm_st_e hf
            refine fm_iast' C E e161 hM_8 h161 dX10_nulled_161 (fun H locs E => ?_)
            refine fm_iinc C (v := 1) (lv' := [(6, .int _), (0, .ref _), (1, .int _), (3, .int _), (4, .int _), (5, .int _)]) (k := 5) hl rfl (by decide) (by decide) rfl dX10_nulled_162 (fun ls hl => ?_)
            refine lv_goto (tgt := 118) C.1 C.2.1 dX10_nulled_165 (by decide) ?_
            exact ih118 _ _ _ _ _ E (lv_sub hl [1, 2, 3, 4, 5, 0] rfl) hf
      intro v5 M H locs ls E hl hf
      have hf : pModel_nulled_L106b N w106_v1 w106_v3 w106_v4 (fm_lp (pModel_nulled_L106 N w106_v1 w106_v3 w106_v4) n106) v5 M = some (r, M') := hf
      unfold pModel_nulled_L106b at hf
      refine lv_iload C.1 C.2.1 dX10_nulled_106 (lv_at hl 4 rfl) ?_
      refine lv_aload_n C.1 C.2.1 dX10_nulled_108 rfl (lv_at hl 0 rfl) ?_
      refine fm_geti C E lf_X10_214 hM_0 rfl dX10_nulled_109 ?_
      refine lv_icmp_ge (tgt := 174) C.1 C.2.1 dX10_nulled_112 (by decide) (fun hc112 => ?_) (fun hc112 => ?_)
      · have hf := fm_ip hf hc112
        refine lv_aload_n C.1 C.2.1 dX10_nulled_174 rfl (lv_at hl 0 rfl) ?_
        obtain ⟨M175, hc175, hf⟩ := fm_bd hf
        refine fm_callV C E [] [] lm_X10_225 wk_X10_layClean (c_Model_layClean l G N _ _ hc175) hM_0 rfl rfl rfl hl.1 (by simp [Value.category]) ⟨⟨rfl, rfl⟩, by decide, by decide⟩ ⟨by decide, by decide⟩ dX10_nulled_175 rfl (fun H locs E => ?_)
        refine W.eq (g2 := F0 m 178 ls []) rfl ?_
        refine lv_aload_n C.1 C.2.1 dX10_nulled_178 rfl (lv_at hl 0 rfl) ?_
        refine lv_iconst (v := 0) C.1 C.2.1 dX10_nulled_179 (by decide) ?_
        obtain ⟨M180, e180, hf⟩ := fm_pt_s hf
        refine fm_put' C E e180 lp_X10_80 hM_0 rfl dX10_nulled_180 (fun H locs E => ?_)
        refine lv_aload_n C.1 C.2.1 dX10_nulled_183 rfl (lv_at hl 0 rfl) ?_
        refine lv_aload_n C.1 C.2.1 dX10_nulled_184 rfl (lv_at hl 0 rfl) ?_
        refine lv_aload_n C.1 C.2.1 dX10_nulled_185 rfl (lv_at hl 0 rfl) ?_
        refine fm_getr C E lf_X10_46 hM_0 rfl dX10_nulled_186 ?_
        obtain ⟨x189, hc189, hf⟩ := fm_bd hf
        refine fm_callV C E [.ref _] [.ref _] lm_X10_228 wk_X10_powerOf (c_Model_powerOf l G N _ _ _  hc189) hM_0 rfl rfl rfl hl.1 (by simp [Value.category]) ⟨⟨rfl, rfl⟩, by decide, by decide⟩ ⟨by decide, by decide⟩ dX10_nulled_189 rfl (fun H locs E => ?_)
        refine W.eq (g2 := F0 m 192 ls (.long x189 :: [.ref _])) rfl ?_
        obtain ⟨M192, hc192, hf⟩ := fm_bd hf
        refine fm_callV C E [.long _] [] lm_X10_245 wk_X10_tell (c_Model_tell l G _ _ _ hc192) hM_0 rfl rfl rfl hl.1 (by simp [Value.category]) ⟨⟨rfl, rfl⟩, by decide, by decide⟩ ⟨by decide, by decide⟩ dX10_nulled_192 rfl (fun H locs E => ?_)
        refine W.eq (g2 := F0 m 195 ls []) rfl ?_
        refine lv_aload_n C.1 C.2.1 dX10_nulled_195 rfl (lv_at hl 0 rfl) ?_
        refine lv_aload_n C.1 C.2.1 dX10_nulled_196 rfl (lv_at hl 0 rfl) ?_
        refine lv_aload_n C.1 C.2.1 dX10_nulled_197 rfl (lv_at hl 0 rfl) ?_
        refine fm_getr C E lf_X10_40 hM_0 rfl dX10_nulled_198 ?_
        obtain ⟨x201, hc201, hf⟩ := fm_bd hf
        refine fm_callV C E [.ref _] [.ref _] lm_X10_228 wk_X10_powerOf (c_Model_powerOf l G N _ _ _  hc201) hM_0 rfl rfl rfl hl.1 (by simp [Value.category]) ⟨⟨rfl, rfl⟩, by decide, by decide⟩ ⟨by decide, by decide⟩ dX10_nulled_201 rfl (fun H locs E => ?_)
        refine W.eq (g2 := F0 m 204 ls (.long x201 :: [.ref _])) rfl ?_
        obtain ⟨M204, hc204, hf⟩ := fm_bd hf
        refine fm_callV C E [.long _] [] lm_X10_245 wk_X10_tell (c_Model_tell l G _ _ _ hc204) hM_0 rfl rfl rfl hl.1 (by simp [Value.category]) ⟨⟨rfl, rfl⟩, by decide, by decide⟩ ⟨by decide, by decide⟩ dX10_nulled_204 rfl (fun H locs E => ?_)
        refine W.eq (g2 := F0 m 207 ls []) rfl ?_
        refine lv_iload_n C.1 C.2.1 dX10_nulled_207 rfl (lv_at hl 2 rfl) ?_
        obtain ⟨rfl, rfl⟩ := fm_rt2 hf
        exact fm_iret C E rfl rfl dX10_nulled_208
      · have hf := fm_in' hf hc112
        refine lv_iconst (v := 0) C.1 C.2.1 dX10_nulled_115 (by decide) ?_
        refine lv_istore (lv' := [(6, .int _), (0, .ref _), (1, .int _), (3, .int _), (4, .int _), (5, .int _)]) C.1 C.2.1 dX10_nulled_116 hl (by decide) rfl (fun ls hl => ?_)
        exact L118 _ N _ _ _ _ _ E (lv_sub hl [1, 2, 3, 4, 5, 0] rfl) hf
  have L26 : ∀ (w26_M : fm_M) (w26_v1 : Int32) (w26_v2 : Int32) (n26 : Nat) (v3 : Int32) (v4 : Int32) (H : Heap) (locs : List Loc) (ls : Array Slot), fm_Wd shM G w26_M s H locs → lv_has ls 7 [(0, .ref (G.2.1 0)), (1, .int w26_v1), (2, .int w26_v2), (3, .int v3), (4, .int v4)] → fm_lp (pModel_nulled_L26 N w26_M w26_v1 w26_v2) n26 (v3, v4) = some (r, M') → W p l e { frames := 6, cells := 0, slots := 0, locals := 141 } s m args below meth c H locs 0 0 (fm_Z below shM G args s (some (.int r)) M') (F0 m 26 ls []) := by
    intro w26_M w26_v1 w26_v2 n26
    induction n26 with
    | zero => intro v3 v4 H locs ls E hl hf; exact fm_lp_0 hf
    | succ n26 ih26 =>
      intro v3 v4 H locs ls E hl hf
      have hf : pModel_nulled_L26b N w26_M w26_v1 w26_v2 (fm_lp (pModel_nulled_L26 N w26_M w26_v1 w26_v2) n26) v3 v4 = some (r, M') := hf
      unfold pModel_nulled_L26b at hf
      refine lv_iload C.1 C.2.1 dX10_nulled_26 (lv_at hl 4 rfl) ?_
      refine lv_aload_n C.1 C.2.1 dX10_nulled_28 rfl (lv_at hl 0 rfl) ?_
      refine fm_getr C E lf_X10_9 hM_0 rfl dX10_nulled_29 ?_
      refine lv_bipush (v := 40) C.1 C.2.1 dX10_nulled_32 (by decide) ?_
      refine fm_ialdc C E 40 (by decide) hM_1 (by decide) dX10_nulled_34 ?_
      refine lv_icmp_ge (tgt := 63) C.1 C.2.1 dX10_nulled_35 (by decide) (fun hc35 => ?_) (fun hc35 => ?_)
      · have hf := fm_ip hf hc35
        refine lv_aload_n C.1 C.2.1 dX10_nulled_63 rfl (lv_at hl 0 rfl) ?_
        obtain ⟨x64, hc64, hf⟩ := fm_bd hf
        refine fm_callV C E [] [] lm_X10_204 wk_X10_liveBits (c_Model_liveBits l G N _ _  hc64) hM_0 rfl rfl rfl hl.1 (by simp [Value.category]) ⟨⟨rfl, rfl⟩, by decide, by decide⟩ ⟨by decide, by decide⟩ dX10_nulled_64 rfl (fun H locs E => ?_)
        refine W.eq (g2 := F0 m 67 ls (.int x64 :: [])) rfl ?_
        refine lv_istore (lv' := [(4, .int _), (0, .ref _), (1, .int _), (2, .int _), (3, .int _)]) C.1 C.2.1 dX10_nulled_67 hl (by decide) rfl (fun ls hl => ?_)
        refine lv_aload_n C.1 C.2.1 dX10_nulled_69 rfl (lv_at hl 1 rfl) ?_
        refine lv_iload_n C.1 C.2.1 dX10_nulled_70 rfl (lv_at hl 3 rfl) ?_
        obtain ⟨M71, e71, hf⟩ := fm_pt_s hf
        refine fm_put' C E e71 lp_X10_31 hM_0 rfl dX10_nulled_71 (fun H locs E => ?_)
        refine lv_aload_n C.1 C.2.1 dX10_nulled_74 rfl (lv_at hl 1 rfl) ?_
        obtain ⟨M75, hc75, hf⟩ := fm_bd hf
        refine fm_callV C E [] [] lm_X10_188 wk_X10_hear (c_Model_hear l G N _ _ hc75) hM_0 rfl rfl rfl hl.1 (by simp [Value.category]) ⟨⟨rfl, rfl⟩, by decide, by decide⟩ ⟨by decide, by decide⟩ dX10_nulled_75 rfl (fun H locs E => ?_)
        refine W.eq (g2 := F0 m 78 ls []) rfl ?_
        refine lv_aload_n C.1 C.2.1 dX10_nulled_78 rfl (lv_at hl 1 rfl) ?_
        refine lv_iload C.1 C.2.1 dX10_nulled_79 (lv_at hl 0 rfl) ?_
        refine lv_iload_n C.1 C.2.1 dX10_nulled_81 rfl (lv_at hl 2 rfl) ?_
        obtain ⟨M82, hc82, hf⟩ := fm_bd hf
        refine fm_callV C E [.int _, .int _] [] lm_X10_239 wk_X10_layWeights (c_Model_layWeights l G N _ _ _ _ hc82) hM_0 rfl rfl rfl hl.1 (by simp [Value.category]) ⟨⟨rfl, rfl⟩, by decide, by decide⟩ ⟨by decide, by decide⟩ dX10_nulled_82 rfl (fun H locs E => ?_)
        refine W.eq (g2 := F0 m 85 ls []) rfl ?_
        refine lv_aload_n C.1 C.2.1 dX10_nulled_85 rfl (lv_at hl 1 rfl) ?_
        refine lv_sipush (v := 300) C.1 C.2.1 dX10_nulled_86 (by decide) ?_
        obtain ⟨M89, e89, hf⟩ := fm_pt_s hf
        refine fm_put' C E e89 lp_X10_31 hM_0 rfl dX10_nulled_89 (fun H locs E => ?_)
        refine lv_aload_n C.1 C.2.1 dX10_nulled_92 rfl (lv_at hl 1 rfl) ?_
        obtain ⟨M93, hc93, hf⟩ := fm_bd hf
        refine fm_callV C E [] [] lm_X10_188 wk_X10_hear (c_Model_hear l G N _ _ hc93) hM_0 rfl rfl rfl hl.1 (by simp [Value.category]) ⟨⟨rfl, rfl⟩, by decide, by decide⟩ ⟨by decide, by decide⟩ dX10_nulled_93 rfl (fun H locs E => ?_)
        refine W.eq (g2 := F0 m 96 ls []) rfl ?_
        refine lv_aload_n C.1 C.2.1 dX10_nulled_96 rfl (lv_at hl 1 rfl) ?_
        refine lv_iload C.1 C.2.1 dX10_nulled_97 (lv_at hl 0 rfl) ?_
        refine lv_iload_n C.1 C.2.1 dX10_nulled_99 rfl (lv_at hl 2 rfl) ?_
        obtain ⟨M100, hc100, hf⟩ := fm_bd hf
        refine fm_callV C E [.int _, .int _] [] lm_X10_232 wk_X10_layBeam (c_Model_layBeam l G N _ _ _ _ hc100) hM_0 rfl rfl rfl hl.1 (by simp [Value.category]) ⟨⟨rfl, rfl⟩, by decide, by decide⟩ ⟨by decide, by decide⟩ dX10_nulled_100 rfl (fun H locs E => ?_)
        refine W.eq (g2 := F0 m 103 ls []) rfl ?_
        refine lv_iconst (v := 0) C.1 C.2.1 dX10_nulled_103 (by decide) ?_
        refine lv_istore (lv' := [(5, .int _), (4, .int _), (0, .ref _), (1, .int _), (2, .int _), (3, .int _)]) C.1 C.2.1 dX10_nulled_104 hl (by decide) rfl (fun ls hl => ?_)
        exact L106 _ _ _ N _ _ _ _ _ E (lv_sub hl [2, 3, 5, 1, 0] rfl) hf
      · have hf := fm_in' hf hc35
        refine lv_iload_n C.1 C.2.1 dX10_nulled_38 rfl (lv_at hl 3 rfl) ?_
        refine lv_aload_n C.1 C.2.1 dX10_nulled_39 rfl (lv_at hl 0 rfl) ?_
        refine lv_iload C.1 C.2.1 dX10_nulled_40 (lv_at hl 4 rfl) ?_
        refine lv_iconst (v := 0) C.1 C.2.1 dX10_nulled_42 (by decide) ?_
        obtain ⟨x43, hc43, hf⟩ := fm_bd hf
        refine fm_callV C E [.int _, .int _] [.int _] lm_X10_160 wk_X10_ofSource (c_Model_ofSource l G _ _ _ _  hc43) hM_0 rfl rfl rfl hl.1 (by simp [Value.category]) ⟨⟨rfl, rfl⟩, by decide, by decide⟩ ⟨by decide, by decide⟩ dX10_nulled_43 rfl (fun H locs E => ?_)
        refine W.eq (g2 := F0 m 46 ls (.int x43 :: [.int _])) rfl ?_
        refine lv_iload_n C.1 C.2.1 dX10_nulled_46 rfl (lv_at hl 2 rfl) ?_
        refine lv_icmp_ne (tgt := 54) C.1 C.2.1 dX10_nulled_47 (by decide) (fun hc47 => ?_) (fun hc47 => ?_)
        · have hf := fm_in' hf hc47
          refine lv_iconst (v := 0) C.1 C.2.1 dX10_nulled_54 (by decide) ?_
          refine lv_iadd C.1 C.2.1 dX10_nulled_55 ?_
          refine lv_istore_n (lv' := [(3, .int _), (0, .ref _), (1, .int _), (2, .int _), (4, .int _)]) C.1 C.2.1 dX10_nulled_56 rfl hl (by decide) rfl (fun ls hl => ?_)
          refine fm_iinc C (v := 1) (lv' := [(4, .int _), (3, .int _), (0, .ref _), (1, .int _), (2, .int _)]) (k := 4) hl rfl (by decide) (by decide) rfl dX10_nulled_57 (fun ls hl => ?_)
          refine lv_goto (tgt := 26) C.1 C.2.1 dX10_nulled_60 (by decide) ?_
          exact ih26 _ _ _ _ _ E (lv_sub hl [2, 3, 4, 1, 0] rfl) hf
        · have hf := fm_ip hf hc47
          refine lv_iconst (v := 1) C.1 C.2.1 dX10_nulled_50 (by decide) ?_
          refine lv_goto (tgt := 55) C.1 C.2.1 dX10_nulled_51 (by decide) ?_
          refine lv_iadd C.1 C.2.1 dX10_nulled_55 ?_
          refine lv_istore_n (lv' := [(3, .int _), (0, .ref _), (1, .int _), (2, .int _), (4, .int _)]) C.1 C.2.1 dX10_nulled_56 rfl hl (by decide) rfl (fun ls hl => ?_)
          refine fm_iinc C (v := 1) (lv' := [(4, .int _), (3, .int _), (0, .ref _), (1, .int _), (2, .int _)]) (k := 4) hl rfl (by decide) (by decide) rfl dX10_nulled_57 (fun ls hl => ?_)
          refine lv_goto (tgt := 26) C.1 C.2.1 dX10_nulled_60 (by decide) ?_
          exact ih26 _ _ _ _ _ E (lv_sub hl [2, 3, 4, 1, 0] rfl) hf
  unfold pModel_nulled at hf
  refine lv_aload_n C.1 C.2.1 dX10_nulled_0 rfl (lv_at hl 0 rfl) ?_
  refine lv_iconst (v := 0) C.1 C.2.1 dX10_nulled_1 (by decide) ?_
  obtain ⟨M2, e2, hf⟩ := fm_pt_s hf
  refine fm_put' C E e2 lp_X10_77 hM_0 rfl dX10_nulled_2 (fun H locs E => ?_)
  refine lv_iload_n C.1 C.2.1 dX10_nulled_5 rfl (lv_at hl 1 rfl) ?_
  obtain ⟨x6, hc6, hf⟩ := fm_bd hf
  refine fm_callS C E [.int _] [] lm_X10_182 wk_X10_isSide (c_Model_isSide l G _ _ _  hc6) rfl hl.1 (by simp [Value.category]) ⟨⟨rfl, rfl⟩, by decide, by decide⟩ ⟨by decide, by decide⟩ dX10_nulled_6 rfl (fun H locs E => ?_)
  refine W.eq (g2 := F0 m 9 ls (.int x6 :: [])) rfl ?_
  refine lv_if_eq (tgt := 19) C.1 C.2.1 dX10_nulled_9 (by decide) (fun hc9 => ?_) (fun hc9 => ?_)
  · have hf := fm_ip hf hc9
    refine lv_iconst (v := (-1)) C.1 C.2.1 dX10_nulled_19 (by decide) ?_
    obtain ⟨rfl, rfl⟩ := fm_rt2 hf
    exact fm_iret C E rfl rfl dX10_nulled_20
  · have hf := fm_in' hf hc9
    refine lv_iload_n C.1 C.2.1 dX10_nulled_12 rfl (lv_at hl 2 rfl) ?_
    obtain ⟨x13, hc13, hf⟩ := fm_bd hf
    refine fm_callS C E [.int _] [] lm_X10_182 wk_X10_isSide (c_Model_isSide l G _ _ _  hc13) rfl hl.1 (by simp [Value.category]) ⟨⟨rfl, rfl⟩, by decide, by decide⟩ ⟨by decide, by decide⟩ dX10_nulled_13 rfl (fun H locs E => ?_)
    refine W.eq (g2 := F0 m 16 ls (.int x13 :: [])) rfl ?_
    refine lv_if_ne (tgt := 21) C.1 C.2.1 dX10_nulled_16 (by decide) (fun hc16 => ?_) (fun hc16 => ?_)
    · have hf := fm_in' hf hc16
      refine lv_iconst (v := 0) C.1 C.2.1 dX10_nulled_21 (by decide) ?_
      refine lv_istore_n (lv' := [(3, .int _), (0, .ref _), (1, .int _), (2, .int _)]) C.1 C.2.1 dX10_nulled_22 rfl hl (by decide) rfl (fun ls hl => ?_)
      refine lv_iconst (v := 0) C.1 C.2.1 dX10_nulled_23 (by decide) ?_
      refine lv_istore (lv' := [(4, .int _), (3, .int _), (0, .ref _), (1, .int _), (2, .int _)]) C.1 C.2.1 dX10_nulled_24 hl (by decide) rfl (fun ls hl => ?_)
      exact L26 _ _ _ N _ _ _ _ _ E (lv_sub hl [2, 3, 4, 1, 0] rfl) hf
    · have hf := fm_ip hf hc16
      refine lv_iconst (v := (-1)) C.1 C.2.1 dX10_nulled_19 (by decide) ?_
      obtain ⟨rfl, rfl⟩ := fm_rt2 hf
      exact fm_iret C E rfl rfl dX10_nulled_20
theorem dX10_behind_0 : decode cX10_behind 0 = .ok (.aload_n 0, 1) := by decide +kernel
theorem dX10_behind_1 : decode cX10_behind 1 = .ok (.iconst 0, 1) := by decide +kernel
theorem dX10_behind_2 : decode cX10_behind 2 = .ok (.putfield 77, 3) := by decide +kernel
theorem dX10_behind_5 : decode cX10_behind 5 = .ok (.aload_n 0, 1) := by decide +kernel
theorem dX10_behind_6 : decode cX10_behind 6 = .ok (.iload_n 1, 1) := by decide +kernel
theorem dX10_behind_7 : decode cX10_behind 7 = .ok (.invokevirtual 153, 3) := by decide +kernel
theorem dX10_behind_10 : decode cX10_behind 10 = .ok (.ifCond .eq 16, 3) := by decide +kernel
theorem dX10_behind_13 : decode cX10_behind 13 = .ok (.aload_n 0, 1) := by decide +kernel
theorem dX10_behind_14 : decode cX10_behind 14 = .ok (.iload_n 2, 1) := by decide +kernel
theorem dX10_behind_15 : decode cX10_behind 15 = .ok (.invokevirtual 153, 3) := by decide +kernel
theorem dX10_behind_18 : decode cX10_behind 18 = .ok (.ifCond .eq 8, 3) := by decide +kernel
theorem dX10_behind_21 : decode cX10_behind 21 = .ok (.iload_n 1, 1) := by decide +kernel
theorem dX10_behind_22 : decode cX10_behind 22 = .ok (.iload_n 2, 1) := by decide +kernel
theorem dX10_behind_23 : decode cX10_behind 23 = .ok (.if_icmp .ne 5, 3) := by decide +kernel
theorem dX10_behind_26 : decode cX10_behind 26 = .ok (.iconst (-1), 1) := by decide +kernel
theorem dX10_behind_27 : decode cX10_behind 27 = .ok (.ireturn, 1) := by decide +kernel
theorem dX10_behind_28 : decode cX10_behind 28 = .ok (.aload_n 0, 1) := by decide +kernel
theorem dX10_behind_29 : decode cX10_behind 29 = .ok (.invokevirtual 188, 3) := by decide +kernel
theorem dX10_behind_32 : decode cX10_behind 32 = .ok (.iconst 0, 1) := by decide +kernel
theorem dX10_behind_33 : decode cX10_behind 33 = .ok (.istore_n 3, 1) := by decide +kernel
theorem dX10_behind_34 : decode cX10_behind 34 = .ok (.iconst (-1), 1) := by decide +kernel
theorem dX10_behind_35 : decode cX10_behind 35 = .ok (.istore 4, 2) := by decide +kernel
theorem dX10_behind_37 : decode cX10_behind 37 = .ok (.iconst 0, 1) := by decide +kernel
theorem dX10_behind_38 : decode cX10_behind 38 = .ok (.istore 5, 2) := by decide +kernel
theorem dX10_behind_40 : decode cX10_behind 40 = .ok (.iload 5, 2) := by decide +kernel
theorem dX10_behind_42 : decode cX10_behind 42 = .ok (.bipush 16, 2) := by decide +kernel
theorem dX10_behind_44 : decode cX10_behind 44 = .ok (.if_icmp .gt 106, 3) := by decide +kernel
theorem dX10_behind_47 : decode cX10_behind 47 = .ok (.iconst 0, 1) := by decide +kernel
theorem dX10_behind_48 : decode cX10_behind 48 = .ok (.istore 6, 2) := by decide +kernel
theorem dX10_behind_50 : decode cX10_behind 50 = .ok (.aload_n 0, 1) := by decide +kernel
theorem dX10_behind_51 : decode cX10_behind 51 = .ok (.getfield 9, 3) := by decide +kernel
theorem dX10_behind_54 : decode cX10_behind 54 = .ok (.bipush 38, 2) := by decide +kernel
theorem dX10_behind_56 : decode cX10_behind 56 = .ok (.iaload, 1) := by decide +kernel
theorem dX10_behind_57 : decode cX10_behind 57 = .ok (.istore 7, 2) := by decide +kernel
theorem dX10_behind_59 : decode cX10_behind 59 = .ok (.iload 7, 2) := by decide +kernel
theorem dX10_behind_61 : decode cX10_behind 61 = .ok (.aload_n 0, 1) := by decide +kernel
theorem dX10_behind_62 : decode cX10_behind 62 = .ok (.getfield 9, 3) := by decide +kernel
theorem dX10_behind_65 : decode cX10_behind 65 = .ok (.bipush 38, 2) := by decide +kernel
theorem dX10_behind_67 : decode cX10_behind 67 = .ok (.iaload, 1) := by decide +kernel
theorem dX10_behind_68 : decode cX10_behind 68 = .ok (.aload_n 0, 1) := by decide +kernel
theorem dX10_behind_69 : decode cX10_behind 69 = .ok (.getfield 9, 3) := by decide +kernel
theorem dX10_behind_72 : decode cX10_behind 72 = .ok (.bipush 39, 2) := by decide +kernel
theorem dX10_behind_74 : decode cX10_behind 74 = .ok (.iaload, 1) := by decide +kernel
theorem dX10_behind_75 : decode cX10_behind 75 = .ok (.iadd, 1) := by decide +kernel
theorem dX10_behind_76 : decode cX10_behind 76 = .ok (.if_icmp .ge 48, 3) := by decide +kernel
theorem dX10_behind_79 : decode cX10_behind 79 = .ok (.iload 6, 2) := by decide +kernel
theorem dX10_behind_81 : decode cX10_behind 81 = .ok (.aload_n 0, 1) := by decide +kernel
theorem dX10_behind_82 : decode cX10_behind 82 = .ok (.iload_n 1, 1) := by decide +kernel
theorem dX10_behind_83 : decode cX10_behind 83 = .ok (.iload 7, 2) := by decide +kernel
theorem dX10_behind_85 : decode cX10_behind 85 = .ok (.iload 5, 2) := by decide +kernel
theorem dX10_behind_87 : decode cX10_behind 87 = .ok (.invokestatic 222, 3) := by decide +kernel
theorem dX10_behind_90 : decode cX10_behind 90 = .ok (.iadd, 1) := by decide +kernel
theorem dX10_behind_91 : decode cX10_behind 91 = .ok (.invokevirtual 179, 3) := by decide +kernel
theorem dX10_behind_94 : decode cX10_behind 94 = .ok (.invokestatic 260, 3) := by decide +kernel
theorem dX10_behind_97 : decode cX10_behind 97 = .ok (.aload_n 0, 1) := by decide +kernel
theorem dX10_behind_98 : decode cX10_behind 98 = .ok (.iload_n 2, 1) := by decide +kernel
theorem dX10_behind_99 : decode cX10_behind 99 = .ok (.iload 7, 2) := by decide +kernel
theorem dX10_behind_101 : decode cX10_behind 101 = .ok (.invokevirtual 179, 3) := by decide +kernel
theorem dX10_behind_104 : decode cX10_behind 104 = .ok (.invokestatic 260, 3) := by decide +kernel
theorem dX10_behind_107 : decode cX10_behind 107 = .ok (.if_icmp .ne 7, 3) := by decide +kernel
theorem dX10_behind_110 : decode cX10_behind 110 = .ok (.iconst 1, 1) := by decide +kernel
theorem dX10_behind_111 : decode cX10_behind 111 = .ok (.goto 4, 3) := by decide +kernel
theorem dX10_behind_114 : decode cX10_behind 114 = .ok (.iconst 0, 1) := by decide +kernel
theorem dX10_behind_115 : decode cX10_behind 115 = .ok (.iadd, 1) := by decide +kernel
theorem dX10_behind_116 : decode cX10_behind 116 = .ok (.istore 6, 2) := by decide +kernel
theorem dX10_behind_118 : decode cX10_behind 118 = .ok (.iinc 7 1, 3) := by decide +kernel
theorem dX10_behind_121 : decode cX10_behind 121 = .ok (.goto (-62), 3) := by decide +kernel
theorem dX10_behind_124 : decode cX10_behind 124 = .ok (.iload 6, 2) := by decide +kernel
theorem dX10_behind_126 : decode cX10_behind 126 = .ok (.iload 4, 2) := by decide +kernel
theorem dX10_behind_128 : decode cX10_behind 128 = .ok (.if_icmp .gt 6, 3) := by decide +kernel
theorem dX10_behind_131 : decode cX10_behind 131 = .ok (.goto 13, 3) := by decide +kernel
theorem dX10_behind_134 : decode cX10_behind 134 = .ok (.iload 6, 2) := by decide +kernel
theorem dX10_behind_136 : decode cX10_behind 136 = .ok (.istore 4, 2) := by decide +kernel
theorem dX10_behind_138 : decode cX10_behind 138 = .ok (.iload 5, 2) := by decide +kernel
theorem dX10_behind_140 : decode cX10_behind 140 = .ok (.invokestatic 222, 3) := by decide +kernel
theorem dX10_behind_143 : decode cX10_behind 143 = .ok (.istore_n 3, 1) := by decide +kernel
theorem dX10_behind_144 : decode cX10_behind 144 = .ok (.iinc 5 1, 3) := by decide +kernel
theorem dX10_behind_147 : decode cX10_behind 147 = .ok (.goto (-107), 3) := by decide +kernel
theorem dX10_behind_150 : decode cX10_behind 150 = .ok (.aload_n 0, 1) := by decide +kernel
theorem dX10_behind_151 : decode cX10_behind 151 = .ok (.iconst 0, 1) := by decide +kernel
theorem dX10_behind_152 : decode cX10_behind 152 = .ok (.putfield 80, 3) := by decide +kernel
theorem dX10_behind_155 : decode cX10_behind 155 = .ok (.aload_n 0, 1) := by decide +kernel
theorem dX10_behind_156 : decode cX10_behind 156 = .ok (.iload 4, 2) := by decide +kernel
theorem dX10_behind_158 : decode cX10_behind 158 = .ok (.i2l, 1) := by decide +kernel
theorem dX10_behind_159 : decode cX10_behind 159 = .ok (.invokevirtual 245, 3) := by decide +kernel
theorem dX10_behind_162 : decode cX10_behind 162 = .ok (.bipush 8, 2) := by decide +kernel
theorem dX10_behind_164 : decode cX10_behind 164 = .ok (.iload_n 3, 1) := by decide +kernel
theorem dX10_behind_165 : decode cX10_behind 165 = .ok (.iadd, 1) := by decide +kernel
theorem dX10_behind_166 : decode cX10_behind 166 = .ok (.ireturn, 1) := by decide +kernel
set_option maxHeartbeats 4000000 in
set_option maxRecDepth 100000 in
theorem c_Model_behind (l : Launch) (G : fm_G) (N : Nat) (M : fm_M) (v1 : Int32) (v2 : Int32) (r : Int32) (M' : fm_M) (hf : pModel_behind N M v1 v2 = some (r, M')) : fm_Met l yX10_behind cX10_behind 8 (some .int) { frames := 5, cells := 0, slots := 0, locals := 115 } shM G [.ref (G.2.1 0), .int v1, .int v2] M (some (.int r)) M' := by
  refine fm_enter (by decide) (Nat.le_of_ble_eq_true rfl) ?_
  intro p e s m args below meth c ls C E hl
  have hl : lv_has ls 8 [(0, .ref (G.2.1 0)), (1, .int v1), (2, .int v2)] := hl
  have L40 : ∀ (w40_M : fm_M) (w40_v1 : Int32) (w40_v2 : Int32) (n40 : Nat) (v3 : Int32) (v4 : Int32) (v5 : Int32) (H : Heap) (locs : List Loc) (ls : Array Slot), fm_Wd shM G w40_M s H locs → lv_has ls 8 [(0, .ref (G.2.1 0)), (1, .int w40_v1), (2, .int w40_v2), (3, .int v3), (4, .int v4), (5, .int v5)] → fm_lp (pModel_behind_L40 N w40_M w40_v1 w40_v2) n40 (v3, v4, v5) = some (r, M') → W p l e { frames := 5, cells := 0, slots := 0, locals := 115 } s m args below meth c H locs 0 0 (fm_Z below shM G args s (some (.int r)) M') (F0 m 40 ls []) := by
    intro w40_M w40_v1 w40_v2 n40
    induction n40 with
    | zero => intro v3 v4 v5 H locs ls E hl hf; exact fm_lp_0 hf
    | succ n40 ih40 =>
      have L59 : ∀ (w59_v3 : Int32) (w59_v4 : Int32) (w59_v5 : Int32) (n59 : Nat) (v6 : Int32) (v7 : Int32) (H : Heap) (locs : List Loc) (ls : Array Slot), fm_Wd shM G w40_M s H locs → lv_has ls 8 [(0, .ref (G.2.1 0)), (1, .int w40_v1), (2, .int w40_v2), (3, .int w59_v3), (4, .int w59_v4), (5, .int w59_v5), (6, .int v6), (7, .int v7)] → fm_lp (pModel_behind_L59 N w40_M w40_v1 w40_v2 w59_v3 w59_v4 w59_v5 (fm_lp (pModel_behind_L40 N w40_M w40_v1 w40_v2) n40)) n59 (v6, v7) = some (r, M') → W p l e { frames := 5, cells := 0, slots := 0, locals := 115 } s m args below meth c H locs 0 0 (fm_Z below shM G args s (some (.int r)) M') (F0 m 59 ls []) := by
        intro w59_v3 w59_v4 w59_v5 n59
        induction n59 with
        | zero => intro v6 v7 H locs ls E hl hf; exact fm_lp_0 hf
        | succ n59 ih59 =>
          intro v6 v7 H locs ls E hl hf
          have hf : pModel_behind_L59b N w40_M w40_v1 w40_v2 w59_v3 w59_v4 w59_v5 (fm_lp (pModel_behind_L40 N w40_M w40_v1 w40_v2) n40) (fm_lp (pModel_behind_L59 N w40_M w40_v1 w40_v2 w59_v3 w59_v4 w59_v5 (fm_lp (pModel_behind_L40 N w40_M w40_v1 w40_v2) n40)) n59) v6 v7 = some (r, M') := hf
          unfold pModel_behind_L59b at hf
          refine lv_iload C.1 C.2.1 dX10_behind_59 (lv_at hl 7 rfl) ?_
          refine lv_aload_n C.1 C.2.1 dX10_behind_61 rfl (lv_at hl 0 rfl) ?_
          refine fm_getr C E lf_X10_9 hM_0 rfl dX10_behind_62 ?_
          refine lv_bipush (v := 38) C.1 C.2.1 dX10_behind_65 (by decide) ?_
          refine fm_ialdc C E 38 (by decide) hM_1 (by decide) dX10_behind_67 ?_
          refine lv_aload_n C.1 C.2.1 dX10_behind_68 rfl (lv_at hl 0 rfl) ?_
          refine fm_getr C E lf_X10_9 hM_0 rfl dX10_behind_69 ?_
          refine lv_bipush (v := 39) C.1 C.2.1 dX10_behind_72 (by decide) ?_
          refine fm_ialdc C E 39 (by decide) hM_1 (by decide) dX10_behind_74 ?_
          refine lv_iadd C.1 C.2.1 dX10_behind_75 ?_
          refine lv_icmp_ge (tgt := 124) C.1 C.2.1 dX10_behind_76 (by decide) (fun hc76 => ?_) (fun hc76 => ?_)
          · have hf := fm_ip hf hc76
            refine lv_iload C.1 C.2.1 dX10_behind_124 (lv_at hl 6 rfl) ?_
            refine lv_iload C.1 C.2.1 dX10_behind_126 (lv_at hl 4 rfl) ?_
            refine lv_icmp_gt (tgt := 134) C.1 C.2.1 dX10_behind_128 (by decide) (fun hc128 => ?_) (fun hc128 => ?_)
            · have hf := fm_ip hf hc128
              refine lv_iload C.1 C.2.1 dX10_behind_134 (lv_at hl 6 rfl) ?_
              refine lv_istore (lv' := [(4, .int _), (0, .ref _), (1, .int _), (2, .int _), (3, .int _), (5, .int _), (6, .int _), (7, .int _)]) C.1 C.2.1 dX10_behind_136 hl (by decide) rfl (fun ls hl => ?_)
              refine lv_iload C.1 C.2.1 dX10_behind_138 (lv_at hl 5 rfl) ?_
              obtain ⟨x140, hc140, hf⟩ := fm_bd hf
              refine fm_callS C E [.int _] [] lm_X10_222 wk_X10_turn (c_Model_turn l G _ _ _  hc140) rfl hl.1 (by simp [Value.category]) ⟨⟨rfl, rfl⟩, by decide, by decide⟩ ⟨by decide, by decide⟩ dX10_behind_140 rfl (fun H locs E => ?_)
              refine W.eq (g2 := F0 m 143 ls (.int x140 :: [])) rfl ?_
              refine lv_istore_n (lv' := [(3, .int _), (4, .int _), (0, .ref _), (1, .int _), (2, .int _), (5, .int _), (6, .int _), (7, .int _)]) C.1 C.2.1 dX10_behind_143 rfl hl (by decide) rfl (fun ls hl => ?_)
              refine fm_iinc C (v := 1) (lv' := [(5, .int _), (3, .int _), (4, .int _), (0, .ref _), (1, .int _), (2, .int _), (6, .int _), (7, .int _)]) (k := 5) hl rfl (by decide) (by decide) rfl dX10_behind_144 (fun ls hl => ?_)
              refine lv_goto (tgt := 40) C.1 C.2.1 dX10_behind_147 (by decide) ?_
              exact ih40 _ _ _ _ _ _ E (lv_sub hl [3, 4, 5, 1, 2, 0] rfl) hf
            · have hf := fm_in' hf hc128
              refine lv_goto (tgt := 144) C.1 C.2.1 dX10_behind_131 (by decide) ?_
              refine fm_iinc C (v := 1) (lv' := [(5, .int _), (0, .ref _), (1, .int _), (2, .int _), (3, .int _), (4, .int _), (6, .int _), (7, .int _)]) (k := 5) hl rfl (by decide) (by decide) rfl dX10_behind_144 (fun ls hl => ?_)
              refine lv_goto (tgt := 40) C.1 C.2.1 dX10_behind_147 (by decide) ?_
              exact ih40 _ _ _ _ _ _ E (lv_sub hl [1, 2, 3, 4, 5, 0] rfl) hf
          · have hf := fm_in' hf hc76
            refine lv_iload C.1 C.2.1 dX10_behind_79 (lv_at hl 6 rfl) ?_
            refine lv_aload_n C.1 C.2.1 dX10_behind_81 rfl (lv_at hl 0 rfl) ?_
            refine lv_iload_n C.1 C.2.1 dX10_behind_82 rfl (lv_at hl 1 rfl) ?_
            refine lv_iload C.1 C.2.1 dX10_behind_83 (lv_at hl 7 rfl) ?_
            refine lv_iload C.1 C.2.1 dX10_behind_85 (lv_at hl 5 rfl) ?_
            obtain ⟨x87, hc87, hf⟩ := fm_bd hf
            refine fm_callS C E [.int _] [.int _, .int _, .ref _, .int _] lm_X10_222 wk_X10_turn (c_Model_turn l G _ _ _  hc87) rfl hl.1 (by simp [Value.category]) ⟨⟨rfl, rfl⟩, by decide, by decide⟩ ⟨by decide, by decide⟩ dX10_behind_87 rfl (fun H locs E => ?_)
            refine W.eq (g2 := F0 m 90 ls (.int x87 :: [.int _, .int _, .ref _, .int _])) rfl ?_
            refine lv_iadd C.1 C.2.1 dX10_behind_90 ?_
            obtain ⟨x91, hc91, hf⟩ := fm_bd hf
            refine fm_callV C E [.int _, .int _] [.int _] lm_X10_179 wk_X10_heard (c_Model_heard l G _ _ _ _  hc91) hM_0 rfl rfl rfl hl.1 (by simp [Value.category]) ⟨⟨rfl, rfl⟩, by decide, by decide⟩ ⟨by decide, by decide⟩ dX10_behind_91 rfl (fun H locs E => ?_)
            refine W.eq (g2 := F0 m 94 ls (.int x91 :: [.int _])) rfl ?_
            obtain ⟨x94, hc94, hf⟩ := fm_bd hf
            refine fm_callS C E [.int _] [.int _] lm_X10_260 wk_X10_signOf (c_Model_signOf l G _ _ _  hc94) rfl hl.1 (by simp [Value.category]) ⟨⟨rfl, rfl⟩, by decide, by decide⟩ ⟨by decide, by decide⟩ dX10_behind_94 rfl (fun H locs E => ?_)
            refine W.eq (g2 := F0 m 97 ls (.int x94 :: [.int _])) rfl ?_
            refine lv_aload_n C.1 C.2.1 dX10_behind_97 rfl (lv_at hl 0 rfl) ?_
            refine lv_iload_n C.1 C.2.1 dX10_behind_98 rfl (lv_at hl 2 rfl) ?_
            refine lv_iload C.1 C.2.1 dX10_behind_99 (lv_at hl 7 rfl) ?_
            obtain ⟨x101, hc101, hf⟩ := fm_bd hf
            refine fm_callV C E [.int _, .int _] [.int _, .int _] lm_X10_179 wk_X10_heard (c_Model_heard l G _ _ _ _  hc101) hM_0 rfl rfl rfl hl.1 (by simp [Value.category]) ⟨⟨rfl, rfl⟩, by decide, by decide⟩ ⟨by decide, by decide⟩ dX10_behind_101 rfl (fun H locs E => ?_)
            refine W.eq (g2 := F0 m 104 ls (.int x101 :: [.int _, .int _])) rfl ?_
            obtain ⟨x104, hc104, hf⟩ := fm_bd hf
            refine fm_callS C E [.int _] [.int _, .int _] lm_X10_260 wk_X10_signOf (c_Model_signOf l G _ _ _  hc104) rfl hl.1 (by simp [Value.category]) ⟨⟨rfl, rfl⟩, by decide, by decide⟩ ⟨by decide, by decide⟩ dX10_behind_104 rfl (fun H locs E => ?_)
            refine W.eq (g2 := F0 m 107 ls (.int x104 :: [.int _, .int _])) rfl ?_
            refine lv_icmp_ne (tgt := 114) C.1 C.2.1 dX10_behind_107 (by decide) (fun hc107 => ?_) (fun hc107 => ?_)
            · have hf := fm_in' hf hc107
              refine lv_iconst (v := 0) C.1 C.2.1 dX10_behind_114 (by decide) ?_
              refine lv_iadd C.1 C.2.1 dX10_behind_115 ?_
              refine lv_istore (lv' := [(6, .int _), (0, .ref _), (1, .int _), (2, .int _), (3, .int _), (4, .int _), (5, .int _), (7, .int _)]) C.1 C.2.1 dX10_behind_116 hl (by decide) rfl (fun ls hl => ?_)
              refine fm_iinc C (v := 1) (lv' := [(7, .int _), (6, .int _), (0, .ref _), (1, .int _), (2, .int _), (3, .int _), (4, .int _), (5, .int _)]) (k := 7) hl rfl (by decide) (by decide) rfl dX10_behind_118 (fun ls hl => ?_)
              refine lv_goto (tgt := 59) C.1 C.2.1 dX10_behind_121 (by decide) ?_
              exact ih59 _ _ _ _ _ E (lv_sub hl [2, 3, 4, 5, 6, 7, 1, 0] rfl) hf
            · have hf := fm_ip hf hc107
              refine lv_iconst (v := 1) C.1 C.2.1 dX10_behind_110 (by decide) ?_
              refine lv_goto (tgt := 115) C.1 C.2.1 dX10_behind_111 (by decide) ?_
              refine lv_iadd C.1 C.2.1 dX10_behind_115 ?_
              refine lv_istore (lv' := [(6, .int _), (0, .ref _), (1, .int _), (2, .int _), (3, .int _), (4, .int _), (5, .int _), (7, .int _)]) C.1 C.2.1 dX10_behind_116 hl (by decide) rfl (fun ls hl => ?_)
              refine fm_iinc C (v := 1) (lv' := [(7, .int _), (6, .int _), (0, .ref _), (1, .int _), (2, .int _), (3, .int _), (4, .int _), (5, .int _)]) (k := 7) hl rfl (by decide) (by decide) rfl dX10_behind_118 (fun ls hl => ?_)
              refine lv_goto (tgt := 59) C.1 C.2.1 dX10_behind_121 (by decide) ?_
              exact ih59 _ _ _ _ _ E (lv_sub hl [2, 3, 4, 5, 6, 7, 1, 0] rfl) hf
      intro v3 v4 v5 H locs ls E hl hf
      have hf : pModel_behind_L40b N w40_M w40_v1 w40_v2 (fm_lp (pModel_behind_L40 N w40_M w40_v1 w40_v2) n40) v3 v4 v5 = some (r, M') := hf
      unfold pModel_behind_L40b at hf
      refine lv_iload C.1 C.2.1 dX10_behind_40 (lv_at hl 5 rfl) ?_
      refine lv_bipush (v := 16) C.1 C.2.1 dX10_behind_42 (by decide) ?_
      refine lv_icmp_gt (tgt := 150) C.1 C.2.1 dX10_behind_44 (by decide) (fun hc44 => ?_) (fun hc44 => ?_)
      · have hf := fm_ip hf hc44
        refine lv_aload_n C.1 C.2.1 dX10_behind_150 rfl (lv_at hl 0 rfl) ?_
        refine lv_iconst (v := 0) C.1 C.2.1 dX10_behind_151 (by decide) ?_
        obtain ⟨M152, e152, hf⟩ := fm_pt_s hf
        refine fm_put' C E e152 lp_X10_80 hM_0 rfl dX10_behind_152 (fun H locs E => ?_)
        refine lv_aload_n C.1 C.2.1 dX10_behind_155 rfl (lv_at hl 0 rfl) ?_
        refine lv_iload C.1 C.2.1 dX10_behind_156 (lv_at hl 4 rfl) ?_
        refine lv_i2l C.1 C.2.1 dX10_behind_158 rfl ?_
        obtain ⟨M159, hc159, hf⟩ := fm_bd hf
        refine fm_callV C E [.long _] [] lm_X10_245 wk_X10_tell (c_Model_tell l G _ _ _ hc159) hM_0 rfl rfl rfl hl.1 (by simp [Value.category]) ⟨⟨rfl, rfl⟩, by decide, by decide⟩ ⟨by decide, by decide⟩ dX10_behind_159 rfl (fun H locs E => ?_)
        refine W.eq (g2 := F0 m 162 ls []) rfl ?_
        refine lv_bipush (v := 8) C.1 C.2.1 dX10_behind_162 (by decide) ?_
        refine lv_iload_n C.1 C.2.1 dX10_behind_164 rfl (lv_at hl 3 rfl) ?_
        refine lv_iadd C.1 C.2.1 dX10_behind_165 ?_
        obtain ⟨rfl, rfl⟩ := fm_rt2 hf
        exact fm_iret C E rfl rfl dX10_behind_166
      · have hf := fm_in' hf hc44
        refine lv_iconst (v := 0) C.1 C.2.1 dX10_behind_47 (by decide) ?_
        refine lv_istore (lv' := [(6, .int _), (0, .ref _), (1, .int _), (2, .int _), (3, .int _), (4, .int _), (5, .int _)]) C.1 C.2.1 dX10_behind_48 hl (by decide) rfl (fun ls hl => ?_)
        refine lv_aload_n C.1 C.2.1 dX10_behind_50 rfl (lv_at hl 1 rfl) ?_
        refine fm_getr C E lf_X10_9 hM_0 rfl dX10_behind_51 ?_
        refine lv_bipush (v := 38) C.1 C.2.1 dX10_behind_54 (by decide) ?_
        refine fm_ialdc C E 38 (by decide) hM_1 (by decide) dX10_behind_56 ?_
        refine lv_istore (lv' := [(7, .int _), (6, .int _), (0, .ref _), (1, .int _), (2, .int _), (3, .int _), (4, .int _), (5, .int _)]) C.1 C.2.1 dX10_behind_57 hl (by decide) rfl (fun ls hl => ?_)
        exact L59 _ _ _ N _ _ _ _ _ E (lv_sub hl [2, 3, 4, 5, 6, 7, 1, 0] rfl) hf
  unfold pModel_behind at hf
  refine lv_aload_n C.1 C.2.1 dX10_behind_0 rfl (lv_at hl 0 rfl) ?_
  refine lv_iconst (v := 0) C.1 C.2.1 dX10_behind_1 (by decide) ?_
  obtain ⟨M2, e2, hf⟩ := fm_pt_s hf
  refine fm_put' C E e2 lp_X10_77 hM_0 rfl dX10_behind_2 (fun H locs E => ?_)
  refine lv_aload_n C.1 C.2.1 dX10_behind_5 rfl (lv_at hl 0 rfl) ?_
  refine lv_iload_n C.1 C.2.1 dX10_behind_6 rfl (lv_at hl 1 rfl) ?_
  obtain ⟨x7, hc7, hf⟩ := fm_bd hf
  refine fm_callV C E [.int _] [] lm_X10_153 wk_X10_isMic (c_Model_isMic l G _ _ _  hc7) hM_0 rfl rfl rfl hl.1 (by simp [Value.category]) ⟨⟨rfl, rfl⟩, by decide, by decide⟩ ⟨by decide, by decide⟩ dX10_behind_7 rfl (fun H locs E => ?_)
  refine W.eq (g2 := F0 m 10 ls (.int x7 :: [])) rfl ?_
  refine lv_if_eq (tgt := 26) C.1 C.2.1 dX10_behind_10 (by decide) (fun hc10 => ?_) (fun hc10 => ?_)
  · have hf := fm_ip hf hc10
    refine lv_iconst (v := (-1)) C.1 C.2.1 dX10_behind_26 (by decide) ?_
    obtain ⟨rfl, rfl⟩ := fm_rt2 hf
    exact fm_iret C E rfl rfl dX10_behind_27
  · have hf := fm_in' hf hc10
    refine lv_aload_n C.1 C.2.1 dX10_behind_13 rfl (lv_at hl 0 rfl) ?_
    refine lv_iload_n C.1 C.2.1 dX10_behind_14 rfl (lv_at hl 2 rfl) ?_
    obtain ⟨x15, hc15, hf⟩ := fm_bd hf
    refine fm_callV C E [.int _] [] lm_X10_153 wk_X10_isMic (c_Model_isMic l G _ _ _  hc15) hM_0 rfl rfl rfl hl.1 (by simp [Value.category]) ⟨⟨rfl, rfl⟩, by decide, by decide⟩ ⟨by decide, by decide⟩ dX10_behind_15 rfl (fun H locs E => ?_)
    refine W.eq (g2 := F0 m 18 ls (.int x15 :: [])) rfl ?_
    refine lv_if_eq (tgt := 26) C.1 C.2.1 dX10_behind_18 (by decide) (fun hc18 => ?_) (fun hc18 => ?_)
    · have hf := fm_ip hf hc18
      refine lv_iconst (v := (-1)) C.1 C.2.1 dX10_behind_26 (by decide) ?_
      obtain ⟨rfl, rfl⟩ := fm_rt2 hf
      exact fm_iret C E rfl rfl dX10_behind_27
    · have hf := fm_in' hf hc18
      refine lv_iload_n C.1 C.2.1 dX10_behind_21 rfl (lv_at hl 1 rfl) ?_
      refine lv_iload_n C.1 C.2.1 dX10_behind_22 rfl (lv_at hl 2 rfl) ?_
      refine lv_icmp_ne (tgt := 28) C.1 C.2.1 dX10_behind_23 (by decide) (fun hc23 => ?_) (fun hc23 => ?_)
      · have hf := fm_in' hf hc23
        refine lv_aload_n C.1 C.2.1 dX10_behind_28 rfl (lv_at hl 0 rfl) ?_
        obtain ⟨M29, hc29, hf⟩ := fm_bd hf
        refine fm_callV C E [] [] lm_X10_188 wk_X10_hear (c_Model_hear l G N _ _ hc29) hM_0 rfl rfl rfl hl.1 (by simp [Value.category]) ⟨⟨rfl, rfl⟩, by decide, by decide⟩ ⟨by decide, by decide⟩ dX10_behind_29 rfl (fun H locs E => ?_)
        refine W.eq (g2 := F0 m 32 ls []) rfl ?_
        refine lv_iconst (v := 0) C.1 C.2.1 dX10_behind_32 (by decide) ?_
        refine lv_istore_n (lv' := [(3, .int _), (0, .ref _), (1, .int _), (2, .int _)]) C.1 C.2.1 dX10_behind_33 rfl hl (by decide) rfl (fun ls hl => ?_)
        refine lv_iconst (v := (-1)) C.1 C.2.1 dX10_behind_34 (by decide) ?_
        refine lv_istore (lv' := [(4, .int _), (3, .int _), (0, .ref _), (1, .int _), (2, .int _)]) C.1 C.2.1 dX10_behind_35 hl (by decide) rfl (fun ls hl => ?_)
        refine lv_iconst (v := 0) C.1 C.2.1 dX10_behind_37 (by decide) ?_
        refine lv_istore (lv' := [(5, .int _), (4, .int _), (3, .int _), (0, .ref _), (1, .int _), (2, .int _)]) C.1 C.2.1 dX10_behind_38 hl (by decide) rfl (fun ls hl => ?_)
        exact L40 _ _ _ N _ _ _ _ _ _ E (lv_sub hl [3, 4, 5, 2, 1, 0] rfl) hf
      · have hf := fm_ip hf hc23
        refine lv_iconst (v := (-1)) C.1 C.2.1 dX10_behind_26 (by decide) ?_
        obtain ⟨rfl, rfl⟩ := fm_rt2 hf
        exact fm_iret C E rfl rfl dX10_behind_27
theorem dX10_later_0 : decode cX10_later 0 = .ok (.aload_n 0, 1) := by decide +kernel
theorem dX10_later_1 : decode cX10_later 1 = .ok (.iconst 0, 1) := by decide +kernel
theorem dX10_later_2 : decode cX10_later 2 = .ok (.putfield 77, 3) := by decide +kernel
theorem dX10_later_5 : decode cX10_later 5 = .ok (.iload_n 1, 1) := by decide +kernel
theorem dX10_later_6 : decode cX10_later 6 = .ok (.iconst 0, 1) := by decide +kernel
theorem dX10_later_7 : decode cX10_later 7 = .ok (.sipush 200, 3) := by decide +kernel
theorem dX10_later_10 : decode cX10_later 10 = .ok (.invokestatic 83, 3) := by decide +kernel
theorem dX10_later_13 : decode cX10_later 13 = .ok (.ifCond .ne 5, 3) := by decide +kernel
theorem dX10_later_16 : decode cX10_later 16 = .ok (.iconst (-1), 1) := by decide +kernel
theorem dX10_later_17 : decode cX10_later 17 = .ok (.ireturn, 1) := by decide +kernel
theorem dX10_later_18 : decode cX10_later 18 = .ok (.aload_n 0, 1) := by decide +kernel
theorem dX10_later_19 : decode cX10_later 19 = .ok (.invokevirtual 204, 3) := by decide +kernel
theorem dX10_later_22 : decode cX10_later 22 = .ok (.istore_n 2, 1) := by decide +kernel
theorem dX10_later_23 : decode cX10_later 23 = .ok (.iload_n 2, 1) := by decide +kernel
theorem dX10_later_24 : decode cX10_later 24 = .ok (.invokestatic 198, 3) := by decide +kernel
theorem dX10_later_27 : decode cX10_later 27 = .ok (.iconst 2, 1) := by decide +kernel
theorem dX10_later_28 : decode cX10_later 28 = .ok (.if_icmp .ge 6, 3) := by decide +kernel
theorem dX10_later_31 : decode cX10_later 31 = .ok (.bipush (-2), 2) := by decide +kernel
theorem dX10_later_33 : decode cX10_later 33 = .ok (.ireturn, 1) := by decide +kernel
theorem dX10_later_34 : decode cX10_later 34 = .ok (.aload_n 0, 1) := by decide +kernel
theorem dX10_later_35 : decode cX10_later 35 = .ok (.invokevirtual 188, 3) := by decide +kernel
theorem dX10_later_38 : decode cX10_later 38 = .ok (.aload_n 0, 1) := by decide +kernel
theorem dX10_later_39 : decode cX10_later 39 = .ok (.getfield 9, 3) := by decide +kernel
theorem dX10_later_42 : decode cX10_later 42 = .ok (.bipush 38, 2) := by decide +kernel
theorem dX10_later_44 : decode cX10_later 44 = .ok (.iaload, 1) := by decide +kernel
theorem dX10_later_45 : decode cX10_later 45 = .ok (.istore_n 3, 1) := by decide +kernel
theorem dX10_later_46 : decode cX10_later 46 = .ok (.aload_n 0, 1) := by decide +kernel
theorem dX10_later_47 : decode cX10_later 47 = .ok (.getfield 9, 3) := by decide +kernel
theorem dX10_later_50 : decode cX10_later 50 = .ok (.bipush 38, 2) := by decide +kernel
theorem dX10_later_52 : decode cX10_later 52 = .ok (.iload_n 1, 1) := by decide +kernel
theorem dX10_later_53 : decode cX10_later 53 = .ok (.iastore, 1) := by decide +kernel
theorem dX10_later_54 : decode cX10_later 54 = .ok (.aload_n 0, 1) := by decide +kernel
theorem dX10_later_55 : decode cX10_later 55 = .ok (.iload_n 2, 1) := by decide +kernel
theorem dX10_later_56 : decode cX10_later 56 = .ok (.invokevirtual 269, 3) := by decide +kernel
theorem dX10_later_59 : decode cX10_later 59 = .ok (.istore 4, 2) := by decide +kernel
theorem dX10_later_61 : decode cX10_later 61 = .ok (.aload_n 0, 1) := by decide +kernel
theorem dX10_later_62 : decode cX10_later 62 = .ok (.getfield 9, 3) := by decide +kernel
theorem dX10_later_65 : decode cX10_later 65 = .ok (.bipush 38, 2) := by decide +kernel
theorem dX10_later_67 : decode cX10_later 67 = .ok (.iload_n 3, 1) := by decide +kernel
theorem dX10_later_68 : decode cX10_later 68 = .ok (.iastore, 1) := by decide +kernel
theorem dX10_later_69 : decode cX10_later 69 = .ok (.aload_n 0, 1) := by decide +kernel
theorem dX10_later_70 : decode cX10_later 70 = .ok (.iconst 0, 1) := by decide +kernel
theorem dX10_later_71 : decode cX10_later 71 = .ok (.putfield 80, 3) := by decide +kernel
theorem dX10_later_74 : decode cX10_later 74 = .ok (.aload_n 0, 1) := by decide +kernel
theorem dX10_later_75 : decode cX10_later 75 = .ok (.aload_n 0, 1) := by decide +kernel
theorem dX10_later_76 : decode cX10_later 76 = .ok (.getfield 266, 3) := by decide +kernel
theorem dX10_later_79 : decode cX10_later 79 = .ok (.i2l, 1) := by decide +kernel
theorem dX10_later_80 : decode cX10_later 80 = .ok (.invokevirtual 245, 3) := by decide +kernel
theorem dX10_later_83 : decode cX10_later 83 = .ok (.bipush 8, 2) := by decide +kernel
theorem dX10_later_85 : decode cX10_later 85 = .ok (.iload 4, 2) := by decide +kernel
theorem dX10_later_87 : decode cX10_later 87 = .ok (.iadd, 1) := by decide +kernel
theorem dX10_later_88 : decode cX10_later 88 = .ok (.ireturn, 1) := by decide +kernel
set_option maxHeartbeats 4000000 in
set_option maxRecDepth 100000 in
theorem c_Model_later (l : Launch) (G : fm_G) (N : Nat) (M : fm_M) (v1 : Int32) (r : Int32) (M' : fm_M) (hf : pModel_later N M v1 = some (r, M')) : fm_Met l yX10_later cX10_later 5 (some .int) { frames := 5, cells := 0, slots := 0, locals := 120 } shM G [.ref (G.2.1 0), .int v1] M (some (.int r)) M' := by
  refine fm_enter (by decide) (Nat.le_of_ble_eq_true rfl) ?_
  intro p e s m args below meth c ls C E hl
  have hl : lv_has ls 5 [(0, .ref (G.2.1 0)), (1, .int v1)] := hl
  unfold pModel_later at hf
  refine lv_aload_n C.1 C.2.1 dX10_later_0 rfl (lv_at hl 0 rfl) ?_
  refine lv_iconst (v := 0) C.1 C.2.1 dX10_later_1 (by decide) ?_
  obtain ⟨M2, e2, hf⟩ := fm_pt_s hf
  refine fm_put' C E e2 lp_X10_77 hM_0 rfl dX10_later_2 (fun H locs E => ?_)
  refine lv_iload_n C.1 C.2.1 dX10_later_5 rfl (lv_at hl 1 rfl) ?_
  refine lv_iconst (v := 0) C.1 C.2.1 dX10_later_6 (by decide) ?_
  refine lv_sipush (v := 200) C.1 C.2.1 dX10_later_7 (by decide) ?_
  obtain ⟨x10, hc10, hf⟩ := fm_bd hf
  refine fm_callS C E [.int _, .int _, .int _] [] lm_X10_83 wk_X10_in (c_Model_in l G _ _ _ _ _  hc10) rfl hl.1 (by simp [Value.category]) ⟨⟨rfl, rfl⟩, by decide, by decide⟩ ⟨by decide, by decide⟩ dX10_later_10 rfl (fun H locs E => ?_)
  refine W.eq (g2 := F0 m 13 ls (.int x10 :: [])) rfl ?_
  refine lv_if_ne (tgt := 18) C.1 C.2.1 dX10_later_13 (by decide) (fun hc13 => ?_) (fun hc13 => ?_)
  · have hf := fm_in' hf hc13
    refine lv_aload_n C.1 C.2.1 dX10_later_18 rfl (lv_at hl 0 rfl) ?_
    obtain ⟨x19, hc19, hf⟩ := fm_bd hf
    refine fm_callV C E [] [] lm_X10_204 wk_X10_liveBits (c_Model_liveBits l G N _ _  hc19) hM_0 rfl rfl rfl hl.1 (by simp [Value.category]) ⟨⟨rfl, rfl⟩, by decide, by decide⟩ ⟨by decide, by decide⟩ dX10_later_19 rfl (fun H locs E => ?_)
    refine W.eq (g2 := F0 m 22 ls (.int x19 :: [])) rfl ?_
    refine lv_istore_n (lv' := [(2, .int _), (0, .ref _), (1, .int _)]) C.1 C.2.1 dX10_later_22 rfl hl (by decide) rfl (fun ls hl => ?_)
    refine lv_iload_n C.1 C.2.1 dX10_later_23 rfl (lv_at hl 0 rfl) ?_
    obtain ⟨x24, hc24, hf⟩ := fm_bd hf
    refine fm_callS C E [.int _] [] lm_X10_198 wk_X10_countBits (c_Model_countBits l G N _ _ _  hc24) rfl hl.1 (by simp [Value.category]) ⟨⟨rfl, rfl⟩, by decide, by decide⟩ ⟨by decide, by decide⟩ dX10_later_24 rfl (fun H locs E => ?_)
    refine W.eq (g2 := F0 m 27 ls (.int x24 :: [])) rfl ?_
    refine lv_iconst (v := 2) C.1 C.2.1 dX10_later_27 (by decide) ?_
    refine lv_icmp_ge (tgt := 34) C.1 C.2.1 dX10_later_28 (by decide) (fun hc28 => ?_) (fun hc28 => ?_)
    · have hf := fm_ip hf hc28
      refine lv_aload_n C.1 C.2.1 dX10_later_34 rfl (lv_at hl 1 rfl) ?_
      obtain ⟨M35, hc35, hf⟩ := fm_bd hf
      refine fm_callV C E [] [] lm_X10_188 wk_X10_hear (c_Model_hear l G N _ _ hc35) hM_0 rfl rfl rfl hl.1 (by simp [Value.category]) ⟨⟨rfl, rfl⟩, by decide, by decide⟩ ⟨by decide, by decide⟩ dX10_later_35 rfl (fun H locs E => ?_)
      refine W.eq (g2 := F0 m 38 ls []) rfl ?_
      refine lv_aload_n C.1 C.2.1 dX10_later_38 rfl (lv_at hl 1 rfl) ?_
      refine fm_getr C E lf_X10_9 hM_0 rfl dX10_later_39 ?_
      refine lv_bipush (v := 38) C.1 C.2.1 dX10_later_42 (by decide) ?_
      refine fm_ialdc C E 38 (by decide) hM_1 (by decide) dX10_later_44 ?_
      refine lv_istore_n (lv' := [(3, .int _), (2, .int _), (0, .ref _), (1, .int _)]) C.1 C.2.1 dX10_later_45 rfl hl (by decide) rfl (fun ls hl => ?_)
      refine lv_aload_n C.1 C.2.1 dX10_later_46 rfl (lv_at hl 2 rfl) ?_
      refine fm_getr C E lf_X10_9 hM_0 rfl dX10_later_47 ?_
      refine lv_bipush (v := 38) C.1 C.2.1 dX10_later_50 (by decide) ?_
      refine lv_iload_n C.1 C.2.1 dX10_later_52 rfl (lv_at hl 3 rfl) ?_
      obtain ⟨M53, e53, hf⟩ := fm_pt_s hf
      refine fm_iastc' C E 38 (by decide) e53 hM_1 (by decide) dX10_later_53 (fun H locs E => ?_)
      refine lv_aload_n C.1 C.2.1 dX10_later_54 rfl (lv_at hl 2 rfl) ?_
      refine lv_iload_n C.1 C.2.1 dX10_later_55 rfl (lv_at hl 1 rfl) ?_
      obtain ⟨⟨x56, M56⟩, hc56, hf⟩ := fm_bd hf
      dsimp only at hf
      refine fm_callV C E [.int _] [] lm_X10_269 wk_X10_fromOf (c_Model_fromOf l G N _ _ _ _ hc56) hM_0 rfl rfl rfl hl.1 (by simp [Value.category]) ⟨⟨rfl, rfl⟩, by decide, by decide⟩ ⟨by decide, by decide⟩ dX10_later_56 rfl (fun H locs E => ?_)
      refine W.eq (g2 := F0 m 59 ls (.int x56 :: [])) rfl ?_
      refine lv_istore (lv' := [(4, .int _), (3, .int _), (2, .int _), (0, .ref _), (1, .int _)]) C.1 C.2.1 dX10_later_59 hl (by decide) rfl (fun ls hl => ?_)
      refine lv_aload_n C.1 C.2.1 dX10_later_61 rfl (lv_at hl 3 rfl) ?_
      refine fm_getr C E lf_X10_9 hM_0 rfl dX10_later_62 ?_
      refine lv_bipush (v := 38) C.1 C.2.1 dX10_later_65 (by decide) ?_
      refine lv_iload_n C.1 C.2.1 dX10_later_67 rfl (lv_at hl 1 rfl) ?_
      obtain ⟨M68, e68, hf⟩ := fm_pt_s hf
      refine fm_iastc' C E 38 (by decide) e68 hM_1 (by decide) dX10_later_68 (fun H locs E => ?_)
      refine lv_aload_n C.1 C.2.1 dX10_later_69 rfl (lv_at hl 3 rfl) ?_
      refine lv_iconst (v := 0) C.1 C.2.1 dX10_later_70 (by decide) ?_
      obtain ⟨M71, e71, hf⟩ := fm_pt_s hf
      refine fm_put' C E e71 lp_X10_80 hM_0 rfl dX10_later_71 (fun H locs E => ?_)
      refine lv_aload_n C.1 C.2.1 dX10_later_74 rfl (lv_at hl 3 rfl) ?_
      refine lv_aload_n C.1 C.2.1 dX10_later_75 rfl (lv_at hl 3 rfl) ?_
      refine fm_geti C E lf_X10_266 hM_0 rfl dX10_later_76 ?_
      refine lv_i2l C.1 C.2.1 dX10_later_79 rfl ?_
      obtain ⟨M80, hc80, hf⟩ := fm_bd hf
      refine fm_callV C E [.long _] [] lm_X10_245 wk_X10_tell (c_Model_tell l G _ _ _ hc80) hM_0 rfl rfl rfl hl.1 (by simp [Value.category]) ⟨⟨rfl, rfl⟩, by decide, by decide⟩ ⟨by decide, by decide⟩ dX10_later_80 rfl (fun H locs E => ?_)
      refine W.eq (g2 := F0 m 83 ls []) rfl ?_
      refine lv_bipush (v := 8) C.1 C.2.1 dX10_later_83 (by decide) ?_
      refine lv_iload C.1 C.2.1 dX10_later_85 (lv_at hl 0 rfl) ?_
      refine lv_iadd C.1 C.2.1 dX10_later_87 ?_
      obtain ⟨rfl, rfl⟩ := fm_rt2 hf
      exact fm_iret C E rfl rfl dX10_later_88
    · have hf := fm_in' hf hc28
      refine lv_bipush (v := (-2)) C.1 C.2.1 dX10_later_31 (by decide) ?_
      obtain ⟨rfl, rfl⟩ := fm_rt2 hf
      exact fm_iret C E rfl rfl dX10_later_33
  · have hf := fm_ip hf hc13
    refine lv_iconst (v := (-1)) C.1 C.2.1 dX10_later_16 (by decide) ?_
    obtain ⟨rfl, rfl⟩ := fm_rt2 hf
    exact fm_iret C E rfl rfl dX10_later_17
theorem dX10_doesSettle_0 : decode cX10_doesSettle 0 = .ok (.iload_n 1, 1) := by decide +kernel
theorem dX10_doesSettle_1 : decode cX10_doesSettle 1 = .ok (.istore_n 3, 1) := by decide +kernel
theorem dX10_doesSettle_2 : decode cX10_doesSettle 2 = .ok (.iload_n 3, 1) := by decide +kernel
theorem dX10_doesSettle_3 : decode cX10_doesSettle 3 = .ok (.bipush 48, 2) := by decide +kernel
theorem dX10_doesSettle_5 : decode cX10_doesSettle 5 = .ok (.iload_n 1, 1) := by decide +kernel
theorem dX10_doesSettle_6 : decode cX10_doesSettle 6 = .ok (.iconst 4, 1) := by decide +kernel
theorem dX10_doesSettle_7 : decode cX10_doesSettle 7 = .ok (.iadd, 1) := by decide +kernel
theorem dX10_doesSettle_8 : decode cX10_doesSettle 8 = .ok (.invokestatic 141, 3) := by decide +kernel
theorem dX10_doesSettle_11 : decode cX10_doesSettle 11 = .ok (.if_icmp .gt 21, 3) := by decide +kernel
theorem dX10_doesSettle_14 : decode cX10_doesSettle 14 = .ok (.aload_n 0, 1) := by decide +kernel
theorem dX10_doesSettle_15 : decode cX10_doesSettle 15 = .ok (.getfield 55, 3) := by decide +kernel
theorem dX10_doesSettle_18 : decode cX10_doesSettle 18 = .ok (.iload_n 3, 1) := by decide +kernel
theorem dX10_doesSettle_19 : decode cX10_doesSettle 19 = .ok (.iaload, 1) := by decide +kernel
theorem dX10_doesSettle_20 : decode cX10_doesSettle 20 = .ok (.iload_n 2, 1) := by decide +kernel
theorem dX10_doesSettle_21 : decode cX10_doesSettle 21 = .ok (.if_icmp .eq 5, 3) := by decide +kernel
theorem dX10_doesSettle_24 : decode cX10_doesSettle 24 = .ok (.iconst 0, 1) := by decide +kernel
theorem dX10_doesSettle_25 : decode cX10_doesSettle 25 = .ok (.ireturn, 1) := by decide +kernel
theorem dX10_doesSettle_26 : decode cX10_doesSettle 26 = .ok (.iinc 3 1, 3) := by decide +kernel
theorem dX10_doesSettle_29 : decode cX10_doesSettle 29 = .ok (.goto (-27), 3) := by decide +kernel
theorem dX10_doesSettle_32 : decode cX10_doesSettle 32 = .ok (.iconst 1, 1) := by decide +kernel
theorem dX10_doesSettle_33 : decode cX10_doesSettle 33 = .ok (.ireturn, 1) := by decide +kernel
set_option maxHeartbeats 4000000 in
set_option maxRecDepth 100000 in
theorem c_Model_doesSettle (l : Launch) (G : fm_G) (N : Nat) (M : fm_M) (v1 : Int32) (v2 : Int32) (r : Int32) (hf : pModel_doesSettle N M v1 v2 = some r) : fm_Met l yX10_doesSettle cX10_doesSettle 4 (some .boolean) { frames := 1, cells := 0, slots := 0, locals := 21 } shM G [.ref (G.2.1 0), .int v1, .int v2] M (some (.int r)) M := by
  refine fm_enter (by decide) (Nat.le_of_ble_eq_true rfl) ?_
  intro p e s m args below meth c ls C E hl
  have hl : lv_has ls 4 [(0, .ref (G.2.1 0)), (1, .int v1), (2, .int v2)] := hl
  have L2 : ∀ (w2_v1 : Int32) (w2_v2 : Int32) (n2 : Nat) (v3 : Int32) (H : Heap) (locs : List Loc) (ls : Array Slot), fm_Wd shM G M s H locs → lv_has ls 4 [(0, .ref (G.2.1 0)), (1, .int w2_v1), (2, .int w2_v2), (3, .int v3)] → fm_lp (pModel_doesSettle_L2 N M w2_v1 w2_v2) n2 v3 = some r → W p l e { frames := 1, cells := 0, slots := 0, locals := 21 } s m args below meth c H locs 0 0 (fm_Z below shM G args s (some (.int r)) M) (F0 m 2 ls []) := by
    intro w2_v1 w2_v2 n2
    induction n2 with
    | zero => intro v3 H locs ls E hl hf; exact fm_lp_0 hf
    | succ n2 ih2 =>
      intro v3 H locs ls E hl hf
      have hf : pModel_doesSettle_L2b N M w2_v1 w2_v2 (fm_lp (pModel_doesSettle_L2 N M w2_v1 w2_v2) n2) v3 = some r := hf
      unfold pModel_doesSettle_L2b at hf
      refine lv_iload_n C.1 C.2.1 dX10_doesSettle_2 rfl (lv_at hl 3 rfl) ?_
      refine lv_bipush (v := 48) C.1 C.2.1 dX10_doesSettle_3 (by decide) ?_
      refine lv_iload_n C.1 C.2.1 dX10_doesSettle_5 rfl (lv_at hl 1 rfl) ?_
      refine lv_iconst (v := 4) C.1 C.2.1 dX10_doesSettle_6 (by decide) ?_
      refine lv_iadd C.1 C.2.1 dX10_doesSettle_7 ?_
      refine fm_min C wv_min wm_1283 hl.1 ⟨by decide, by decide⟩ (by simp [Value.category]) ⟨by decide, by decide⟩ dX10_doesSettle_8 ?_
      refine lv_icmp_gt (tgt := 32) C.1 C.2.1 dX10_doesSettle_11 (by decide) (fun hc11 => ?_) (fun hc11 => ?_)
      · have hf := fm_ip hf hc11
        refine lv_iconst (v := 1) C.1 C.2.1 dX10_doesSettle_32 (by decide) ?_
        obtain rfl := fm_rt1 hf
        exact fm_iret C E rfl rfl dX10_doesSettle_33
      · have hf := fm_in' hf hc11
        refine lv_aload_n C.1 C.2.1 dX10_doesSettle_14 rfl (lv_at hl 0 rfl) ?_
        refine fm_getr C E lf_X10_55 hM_0 rfl dX10_doesSettle_15 ?_
        refine lv_iload_n C.1 C.2.1 dX10_doesSettle_18 rfl (lv_at hl 3 rfl) ?_
        obtain ⟨h19, x19, e19, hf⟩ := fm_ld_e hf
        refine fm_iald' C E e19 hM_12 h19 dX10_doesSettle_19 ?_
        refine lv_iload_n C.1 C.2.1 dX10_doesSettle_20 rfl (lv_at hl 2 rfl) ?_
        refine lv_icmp_eq (tgt := 26) C.1 C.2.1 dX10_doesSettle_21 (by decide) (fun hc21 => ?_) (fun hc21 => ?_)
        · have hf := fm_ip hf hc21
          refine fm_iinc C (v := 1) (lv' := [(3, .int _), (0, .ref _), (1, .int _), (2, .int _)]) (k := 3) hl rfl (by decide) (by decide) rfl dX10_doesSettle_26 (fun ls hl => ?_)
          refine lv_goto (tgt := 2) C.1 C.2.1 dX10_doesSettle_29 (by decide) ?_
          exact ih2 _ _ _ _ E (lv_sub hl [1, 2, 3, 0] rfl) hf
        · have hf := fm_in' hf hc21
          refine lv_iconst (v := 0) C.1 C.2.1 dX10_doesSettle_24 (by decide) ?_
          obtain rfl := fm_rt1 hf
          exact fm_iret C E rfl rfl dX10_doesSettle_25
  unfold pModel_doesSettle at hf
  refine lv_iload_n C.1 C.2.1 dX10_doesSettle_0 rfl (lv_at hl 1 rfl) ?_
  refine lv_istore_n (lv' := [(3, .int _), (0, .ref _), (1, .int _), (2, .int _)]) C.1 C.2.1 dX10_doesSettle_1 rfl hl (by decide) rfl (fun ls hl => ?_)
  exact L2 _ _ N _ _ _ _ E (lv_sub hl [1, 2, 3, 0] rfl) hf
