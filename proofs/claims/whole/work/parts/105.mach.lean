theorem dX10_settles_0 : decode cX10_settles 0 = .ok (.aload_n 0, 1) := by decide +kernel
theorem dX10_settles_1 : decode cX10_settles 1 = .ok (.iconst 0, 1) := by decide +kernel
theorem dX10_settles_2 : decode cX10_settles 2 = .ok (.putfield 77, 3) := by decide +kernel
theorem dX10_settles_5 : decode cX10_settles 5 = .ok (.iload_n 1, 1) := by decide +kernel
theorem dX10_settles_6 : decode cX10_settles 6 = .ok (.invokestatic 182, 3) := by decide +kernel
theorem dX10_settles_9 : decode cX10_settles 9 = .ok (.ifCond .ne 5, 3) := by decide +kernel
theorem dX10_settles_12 : decode cX10_settles 12 = .ok (.iconst (-1), 1) := by decide +kernel
theorem dX10_settles_13 : decode cX10_settles 13 = .ok (.ireturn, 1) := by decide +kernel
theorem dX10_settles_14 : decode cX10_settles 14 = .ok (.aload_n 0, 1) := by decide +kernel
theorem dX10_settles_15 : decode cX10_settles 15 = .ok (.invokevirtual 204, 3) := by decide +kernel
theorem dX10_settles_18 : decode cX10_settles 18 = .ok (.istore_n 2, 1) := by decide +kernel
theorem dX10_settles_19 : decode cX10_settles 19 = .ok (.iload_n 2, 1) := by decide +kernel
theorem dX10_settles_20 : decode cX10_settles 20 = .ok (.invokestatic 198, 3) := by decide +kernel
theorem dX10_settles_23 : decode cX10_settles 23 = .ok (.iconst 2, 1) := by decide +kernel
theorem dX10_settles_24 : decode cX10_settles 24 = .ok (.if_icmp .ge 6, 3) := by decide +kernel
theorem dX10_settles_27 : decode cX10_settles 27 = .ok (.bipush (-2), 2) := by decide +kernel
theorem dX10_settles_29 : decode cX10_settles 29 = .ok (.ireturn, 1) := by decide +kernel
theorem dX10_settles_30 : decode cX10_settles 30 = .ok (.aload_n 0, 1) := by decide +kernel
theorem dX10_settles_31 : decode cX10_settles 31 = .ok (.invokevirtual 188, 3) := by decide +kernel
theorem dX10_settles_34 : decode cX10_settles 34 = .ok (.aload_n 0, 1) := by decide +kernel
theorem dX10_settles_35 : decode cX10_settles 35 = .ok (.getfield 9, 3) := by decide +kernel
theorem dX10_settles_38 : decode cX10_settles 38 = .ok (.bipush 39, 2) := by decide +kernel
theorem dX10_settles_40 : decode cX10_settles 40 = .ok (.iaload, 1) := by decide +kernel
theorem dX10_settles_41 : decode cX10_settles 41 = .ok (.istore_n 3, 1) := by decide +kernel
theorem dX10_settles_42 : decode cX10_settles 42 = .ok (.iconst 4, 1) := by decide +kernel
theorem dX10_settles_43 : decode cX10_settles 43 = .ok (.istore 4, 2) := by decide +kernel
theorem dX10_settles_45 : decode cX10_settles 45 = .ok (.iload 4, 2) := by decide +kernel
theorem dX10_settles_47 : decode cX10_settles 47 = .ok (.bipush 48, 2) := by decide +kernel
theorem dX10_settles_49 : decode cX10_settles 49 = .ok (.if_icmp .gt 30, 3) := by decide +kernel
theorem dX10_settles_52 : decode cX10_settles 52 = .ok (.aload_n 0, 1) := by decide +kernel
theorem dX10_settles_53 : decode cX10_settles 53 = .ok (.getfield 9, 3) := by decide +kernel
theorem dX10_settles_56 : decode cX10_settles 56 = .ok (.bipush 39, 2) := by decide +kernel
theorem dX10_settles_58 : decode cX10_settles 58 = .ok (.iload 4, 2) := by decide +kernel
theorem dX10_settles_60 : decode cX10_settles 60 = .ok (.iastore, 1) := by decide +kernel
theorem dX10_settles_61 : decode cX10_settles 61 = .ok (.aload_n 0, 1) := by decide +kernel
theorem dX10_settles_62 : decode cX10_settles 62 = .ok (.getfield 55, 3) := by decide +kernel
theorem dX10_settles_65 : decode cX10_settles 65 = .ok (.iload 4, 2) := by decide +kernel
theorem dX10_settles_67 : decode cX10_settles 67 = .ok (.aload_n 0, 1) := by decide +kernel
theorem dX10_settles_68 : decode cX10_settles 68 = .ok (.iload_n 2, 1) := by decide +kernel
theorem dX10_settles_69 : decode cX10_settles 69 = .ok (.invokevirtual 269, 3) := by decide +kernel
theorem dX10_settles_72 : decode cX10_settles 72 = .ok (.iastore, 1) := by decide +kernel
theorem dX10_settles_73 : decode cX10_settles 73 = .ok (.iinc 4 1, 3) := by decide +kernel
theorem dX10_settles_76 : decode cX10_settles 76 = .ok (.goto (-31), 3) := by decide +kernel
theorem dX10_settles_79 : decode cX10_settles 79 = .ok (.aload_n 0, 1) := by decide +kernel
theorem dX10_settles_80 : decode cX10_settles 80 = .ok (.getfield 9, 3) := by decide +kernel
theorem dX10_settles_83 : decode cX10_settles 83 = .ok (.bipush 39, 2) := by decide +kernel
theorem dX10_settles_85 : decode cX10_settles 85 = .ok (.iload_n 3, 1) := by decide +kernel
theorem dX10_settles_86 : decode cX10_settles 86 = .ok (.iastore, 1) := by decide +kernel
theorem dX10_settles_87 : decode cX10_settles 87 = .ok (.iconst 4, 1) := by decide +kernel
theorem dX10_settles_88 : decode cX10_settles 88 = .ok (.istore 4, 2) := by decide +kernel
theorem dX10_settles_90 : decode cX10_settles 90 = .ok (.iload 4, 2) := by decide +kernel
theorem dX10_settles_92 : decode cX10_settles 92 = .ok (.bipush 48, 2) := by decide +kernel
theorem dX10_settles_94 : decode cX10_settles 94 = .ok (.if_icmp .gt 22, 3) := by decide +kernel
theorem dX10_settles_97 : decode cX10_settles 97 = .ok (.aload_n 0, 1) := by decide +kernel
theorem dX10_settles_98 : decode cX10_settles 98 = .ok (.iload 4, 2) := by decide +kernel
theorem dX10_settles_100 : decode cX10_settles 100 = .ok (.iload_n 1, 1) := by decide +kernel
theorem dX10_settles_101 : decode cX10_settles 101 = .ok (.invokevirtual 288, 3) := by decide +kernel
theorem dX10_settles_104 : decode cX10_settles 104 = .ok (.ifCond .eq 6, 3) := by decide +kernel
theorem dX10_settles_107 : decode cX10_settles 107 = .ok (.iload 4, 2) := by decide +kernel
theorem dX10_settles_109 : decode cX10_settles 109 = .ok (.ireturn, 1) := by decide +kernel
theorem dX10_settles_110 : decode cX10_settles 110 = .ok (.iinc 4 1, 3) := by decide +kernel
theorem dX10_settles_113 : decode cX10_settles 113 = .ok (.goto (-23), 3) := by decide +kernel
theorem dX10_settles_116 : decode cX10_settles 116 = .ok (.bipush (-2), 2) := by decide +kernel
theorem dX10_settles_118 : decode cX10_settles 118 = .ok (.ireturn, 1) := by decide +kernel
set_option maxHeartbeats 4000000 in
set_option maxRecDepth 100000 in
theorem c_Model_settles (l : Launch) (G : fm_G) (N : Nat) (M : fm_M) (v1 : Int32) (r : Int32) (M' : fm_M) (hf : pModel_settles N M v1 = some (r, M')) : fm_Met l yX10_settles cX10_settles 5 (some .int) { frames := 5, cells := 0, slots := 0, locals := 120 } shM G [.ref (G.2.1 0), .int v1] M (some (.int r)) M' := by
  refine fm_enter (by decide) (Nat.le_of_ble_eq_true rfl) ?_
  intro p e s m args below meth c ls C E hl
  have hl : lv_has ls 5 [(0, .ref (G.2.1 0)), (1, .int v1)] := hl
  have L90 : ∀ (w90_M : fm_M) (w90_v1 : Int32) (n90 : Nat) (v4 : Int32) (H : Heap) (locs : List Loc) (ls : Array Slot), fm_Wd shM G w90_M s H locs → lv_has ls 5 [(0, .ref (G.2.1 0)), (1, .int w90_v1), (4, .int v4)] → fm_lp (pModel_settles_L90 N w90_M w90_v1) n90 v4 = some (r, M') → W p l e { frames := 5, cells := 0, slots := 0, locals := 120 } s m args below meth c H locs 0 0 (fm_Z below shM G args s (some (.int r)) M') (F0 m 90 ls []) := by
    intro w90_M w90_v1 n90
    induction n90 with
    | zero => intro v4 H locs ls E hl hf; exact fm_lp_0 hf
    | succ n90 ih90 =>
      intro v4 H locs ls E hl hf
      have hf : pModel_settles_L90b N w90_M w90_v1 (fm_lp (pModel_settles_L90 N w90_M w90_v1) n90) v4 = some (r, M') := hf
      unfold pModel_settles_L90b at hf
      refine lv_iload C.1 C.2.1 dX10_settles_90 (lv_at hl 2 rfl) ?_
      refine lv_bipush (v := 48) C.1 C.2.1 dX10_settles_92 (by decide) ?_
      refine lv_icmp_gt (tgt := 116) C.1 C.2.1 dX10_settles_94 (by decide) (fun hc94 => ?_) (fun hc94 => ?_)
      · have hf := fm_ip hf hc94
        refine lv_bipush (v := (-2)) C.1 C.2.1 dX10_settles_116 (by decide) ?_
        obtain ⟨rfl, rfl⟩ := fm_rt2 hf
        exact fm_iret C E rfl rfl dX10_settles_118
      · have hf := fm_in' hf hc94
        refine lv_aload_n C.1 C.2.1 dX10_settles_97 rfl (lv_at hl 0 rfl) ?_
        refine lv_iload C.1 C.2.1 dX10_settles_98 (lv_at hl 2 rfl) ?_
        refine lv_iload_n C.1 C.2.1 dX10_settles_100 rfl (lv_at hl 1 rfl) ?_
        obtain ⟨x101, hc101, hf⟩ := fm_bd hf
        refine fm_callV C E [.int _, .int _] [] lm_X10_288 wk_X10_doesSettle (c_Model_doesSettle l G N _ _ _ _  hc101) hM_0 rfl rfl rfl hl.1 (by simp [Value.category]) ⟨⟨rfl, rfl⟩, by decide, by decide⟩ ⟨by decide, by decide⟩ dX10_settles_101 rfl (fun H locs E => ?_)
        refine W.eq (g2 := F0 m 104 ls (.int x101 :: [])) rfl ?_
        refine lv_if_eq (tgt := 110) C.1 C.2.1 dX10_settles_104 (by decide) (fun hc104 => ?_) (fun hc104 => ?_)
        · have hf := fm_ip hf hc104
          refine fm_iinc C (v := 1) (lv' := [(4, .int _), (0, .ref _), (1, .int _)]) (k := 2) hl rfl (by decide) (by decide) rfl dX10_settles_110 (fun ls hl => ?_)
          refine lv_goto (tgt := 90) C.1 C.2.1 dX10_settles_113 (by decide) ?_
          exact ih90 _ _ _ _ E (lv_sub hl [1, 2, 0] rfl) hf
        · have hf := fm_in' hf hc104
          refine lv_iload C.1 C.2.1 dX10_settles_107 (lv_at hl 2 rfl) ?_
          obtain ⟨rfl, rfl⟩ := fm_rt2 hf
          exact fm_iret C E rfl rfl dX10_settles_109
  have L45 : ∀ (w45_v1 : Int32) (w45_v2 : Int32) (w45_v3 : Int32) (n45 : Nat) (v4 : Int32) (M : fm_M) (H : Heap) (locs : List Loc) (ls : Array Slot), fm_Wd shM G M s H locs → lv_has ls 5 [(0, .ref (G.2.1 0)), (1, .int w45_v1), (2, .int w45_v2), (3, .int w45_v3), (4, .int v4)] → fm_lp (pModel_settles_L45 N w45_v1 w45_v2 w45_v3) n45 (v4, M) = some (r, M') → W p l e { frames := 5, cells := 0, slots := 0, locals := 120 } s m args below meth c H locs 0 0 (fm_Z below shM G args s (some (.int r)) M') (F0 m 45 ls []) := by
    intro w45_v1 w45_v2 w45_v3 n45
    induction n45 with
    | zero => intro v4 M H locs ls E hl hf; exact fm_lp_0 hf
    | succ n45 ih45 =>
      intro v4 M H locs ls E hl hf
      have hf : pModel_settles_L45b N w45_v1 w45_v2 w45_v3 (fm_lp (pModel_settles_L45 N w45_v1 w45_v2 w45_v3) n45) v4 M = some (r, M') := hf
      unfold pModel_settles_L45b at hf
      refine lv_iload C.1 C.2.1 dX10_settles_45 (lv_at hl 4 rfl) ?_
      refine lv_bipush (v := 48) C.1 C.2.1 dX10_settles_47 (by decide) ?_
      refine lv_icmp_gt (tgt := 79) C.1 C.2.1 dX10_settles_49 (by decide) (fun hc49 => ?_) (fun hc49 => ?_)
      · have hf := fm_ip hf hc49
        refine lv_aload_n C.1 C.2.1 dX10_settles_79 rfl (lv_at hl 0 rfl) ?_
        refine fm_getr C E lf_X10_9 hM_0 rfl dX10_settles_80 ?_
        refine lv_bipush (v := 39) C.1 C.2.1 dX10_settles_83 (by decide) ?_
        refine lv_iload_n C.1 C.2.1 dX10_settles_85 rfl (lv_at hl 3 rfl) ?_
        obtain ⟨M86, e86, hf⟩ := fm_pt_s hf
        refine fm_iastc' C E 39 (by decide) e86 hM_1 (by decide) dX10_settles_86 (fun H locs E => ?_)
        refine lv_iconst (v := 4) C.1 C.2.1 dX10_settles_87 (by decide) ?_
        refine lv_istore (lv' := [(4, .int _), (0, .ref _), (1, .int _), (2, .int _), (3, .int _)]) C.1 C.2.1 dX10_settles_88 hl (by decide) rfl (fun ls hl => ?_)
        exact L90 _ _ N _ _ _ _ E (lv_sub hl [1, 2, 0] rfl) hf
      · have hf := fm_in' hf hc49
        refine lv_aload_n C.1 C.2.1 dX10_settles_52 rfl (lv_at hl 0 rfl) ?_
        refine fm_getr C E lf_X10_9 hM_0 rfl dX10_settles_53 ?_
        refine lv_bipush (v := 39) C.1 C.2.1 dX10_settles_56 (by decide) ?_
        refine lv_iload C.1 C.2.1 dX10_settles_58 (lv_at hl 4 rfl) ?_
        obtain ⟨M60, e60, hf⟩ := fm_pt_s hf
        refine fm_iastc' C E 39 (by decide) e60 hM_1 (by decide) dX10_settles_60 (fun H locs E => ?_)
        refine lv_aload_n C.1 C.2.1 dX10_settles_61 rfl (lv_at hl 0 rfl) ?_
        refine fm_getr C E lf_X10_55 hM_0 rfl dX10_settles_62 ?_
        refine lv_iload C.1 C.2.1 dX10_settles_65 (lv_at hl 4 rfl) ?_
        refine lv_aload_n C.1 C.2.1 dX10_settles_67 rfl (lv_at hl 0 rfl) ?_
        refine lv_iload_n C.1 C.2.1 dX10_settles_68 rfl (lv_at hl 2 rfl) ?_
        obtain ⟨⟨x69, M69⟩, hc69, hf⟩ := fm_bd hf
        dsimp only at hf
        refine fm_callV C E [.int _] [.int _, .ref _] lm_X10_269 wk_X10_fromOf (c_Model_fromOf l G N _ _ _ _ hc69) hM_0 rfl rfl rfl hl.1 (by simp [Value.category]) ⟨⟨rfl, rfl⟩, by decide, by decide⟩ ⟨by decide, by decide⟩ dX10_settles_69 rfl (fun H locs E => ?_)
        refine W.eq (g2 := F0 m 72 ls (.int x69 :: [.int _, .ref _])) rfl ?_
        obtain ⟨h72, M72, e72, hf⟩ := fm_st_e hf
        refine fm_iast' C E e72 hM_12 h72 dX10_settles_72 (fun H locs E => ?_)
        refine fm_iinc C (v := 1) (lv' := [(4, .int _), (0, .ref _), (1, .int _), (2, .int _), (3, .int _)]) (k := 4) hl rfl (by decide) (by decide) rfl dX10_settles_73 (fun ls hl => ?_)
        refine lv_goto (tgt := 45) C.1 C.2.1 dX10_settles_76 (by decide) ?_
        exact ih45 _ _ _ _ _ E (lv_sub hl [1, 2, 3, 4, 0] rfl) hf
  unfold pModel_settles at hf
  refine lv_aload_n C.1 C.2.1 dX10_settles_0 rfl (lv_at hl 0 rfl) ?_
  refine lv_iconst (v := 0) C.1 C.2.1 dX10_settles_1 (by decide) ?_
  obtain ⟨M2, e2, hf⟩ := fm_pt_s hf
  refine fm_put' C E e2 lp_X10_77 hM_0 rfl dX10_settles_2 (fun H locs E => ?_)
  refine lv_iload_n C.1 C.2.1 dX10_settles_5 rfl (lv_at hl 1 rfl) ?_
  obtain ⟨x6, hc6, hf⟩ := fm_bd hf
  refine fm_callS C E [.int _] [] lm_X10_182 wk_X10_isSide (c_Model_isSide l G _ _ _  hc6) rfl hl.1 (by simp [Value.category]) ⟨⟨rfl, rfl⟩, by decide, by decide⟩ ⟨by decide, by decide⟩ dX10_settles_6 rfl (fun H locs E => ?_)
  refine W.eq (g2 := F0 m 9 ls (.int x6 :: [])) rfl ?_
  refine lv_if_ne (tgt := 14) C.1 C.2.1 dX10_settles_9 (by decide) (fun hc9 => ?_) (fun hc9 => ?_)
  · have hf := fm_in' hf hc9
    refine lv_aload_n C.1 C.2.1 dX10_settles_14 rfl (lv_at hl 0 rfl) ?_
    obtain ⟨x15, hc15, hf⟩ := fm_bd hf
    refine fm_callV C E [] [] lm_X10_204 wk_X10_liveBits (c_Model_liveBits l G N _ _  hc15) hM_0 rfl rfl rfl hl.1 (by simp [Value.category]) ⟨⟨rfl, rfl⟩, by decide, by decide⟩ ⟨by decide, by decide⟩ dX10_settles_15 rfl (fun H locs E => ?_)
    refine W.eq (g2 := F0 m 18 ls (.int x15 :: [])) rfl ?_
    refine lv_istore_n (lv' := [(2, .int _), (0, .ref _), (1, .int _)]) C.1 C.2.1 dX10_settles_18 rfl hl (by decide) rfl (fun ls hl => ?_)
    refine lv_iload_n C.1 C.2.1 dX10_settles_19 rfl (lv_at hl 0 rfl) ?_
    obtain ⟨x20, hc20, hf⟩ := fm_bd hf
    refine fm_callS C E [.int _] [] lm_X10_198 wk_X10_countBits (c_Model_countBits l G N _ _ _  hc20) rfl hl.1 (by simp [Value.category]) ⟨⟨rfl, rfl⟩, by decide, by decide⟩ ⟨by decide, by decide⟩ dX10_settles_20 rfl (fun H locs E => ?_)
    refine W.eq (g2 := F0 m 23 ls (.int x20 :: [])) rfl ?_
    refine lv_iconst (v := 2) C.1 C.2.1 dX10_settles_23 (by decide) ?_
    refine lv_icmp_ge (tgt := 30) C.1 C.2.1 dX10_settles_24 (by decide) (fun hc24 => ?_) (fun hc24 => ?_)
    · have hf := fm_ip hf hc24
      refine lv_aload_n C.1 C.2.1 dX10_settles_30 rfl (lv_at hl 1 rfl) ?_
      obtain ⟨M31, hc31, hf⟩ := fm_bd hf
      refine fm_callV C E [] [] lm_X10_188 wk_X10_hear (c_Model_hear l G N _ _ hc31) hM_0 rfl rfl rfl hl.1 (by simp [Value.category]) ⟨⟨rfl, rfl⟩, by decide, by decide⟩ ⟨by decide, by decide⟩ dX10_settles_31 rfl (fun H locs E => ?_)
      refine W.eq (g2 := F0 m 34 ls []) rfl ?_
      refine lv_aload_n C.1 C.2.1 dX10_settles_34 rfl (lv_at hl 1 rfl) ?_
      refine fm_getr C E lf_X10_9 hM_0 rfl dX10_settles_35 ?_
      refine lv_bipush (v := 39) C.1 C.2.1 dX10_settles_38 (by decide) ?_
      refine fm_ialdc C E 39 (by decide) hM_1 (by decide) dX10_settles_40 ?_
      refine lv_istore_n (lv' := [(3, .int _), (2, .int _), (0, .ref _), (1, .int _)]) C.1 C.2.1 dX10_settles_41 rfl hl (by decide) rfl (fun ls hl => ?_)
      refine lv_iconst (v := 4) C.1 C.2.1 dX10_settles_42 (by decide) ?_
      refine lv_istore (lv' := [(4, .int _), (3, .int _), (2, .int _), (0, .ref _), (1, .int _)]) C.1 C.2.1 dX10_settles_43 hl (by decide) rfl (fun ls hl => ?_)
      exact L45 _ _ _ N _ _ _ _ _ E (lv_sub hl [3, 4, 2, 1, 0] rfl) hf
    · have hf := fm_in' hf hc24
      refine lv_bipush (v := (-2)) C.1 C.2.1 dX10_settles_27 (by decide) ?_
      obtain ⟨rfl, rfl⟩ := fm_rt2 hf
      exact fm_iret C E rfl rfl dX10_settles_29
  · have hf := fm_ip hf hc9
    refine lv_iconst (v := (-1)) C.1 C.2.1 dX10_settles_12 (by decide) ?_
    obtain ⟨rfl, rfl⟩ := fm_rt2 hf
    exact fm_iret C E rfl rfl dX10_settles_13
theorem dX10_lay_0 : decode cX10_lay 0 = .ok (.iconst 0, 1) := by decide +kernel
theorem dX10_lay_1 : decode cX10_lay 1 = .ok (.istore_n 1, 1) := by decide +kernel
theorem dX10_lay_2 : decode cX10_lay 2 = .ok (.iload_n 1, 1) := by decide +kernel
theorem dX10_lay_3 : decode cX10_lay 3 = .ok (.bipush 101, 2) := by decide +kernel
theorem dX10_lay_5 : decode cX10_lay 5 = .ok (.if_icmp .ge 21, 3) := by decide +kernel
theorem dX10_lay_8 : decode cX10_lay 8 = .ok (.aload_n 0, 1) := by decide +kernel
theorem dX10_lay_9 : decode cX10_lay 9 = .ok (.getfield 61, 3) := by decide +kernel
theorem dX10_lay_12 : decode cX10_lay 12 = .ok (.iload_n 1, 1) := by decide +kernel
theorem dX10_lay_13 : decode cX10_lay 13 = .ok (.aload_n 0, 1) := by decide +kernel
theorem dX10_lay_14 : decode cX10_lay 14 = .ok (.getfield 9, 3) := by decide +kernel
theorem dX10_lay_17 : decode cX10_lay 17 = .ok (.iload_n 1, 1) := by decide +kernel
theorem dX10_lay_18 : decode cX10_lay 18 = .ok (.iaload, 1) := by decide +kernel
theorem dX10_lay_19 : decode cX10_lay 19 = .ok (.iastore, 1) := by decide +kernel
theorem dX10_lay_20 : decode cX10_lay 20 = .ok (.iinc 1 1, 3) := by decide +kernel
theorem dX10_lay_23 : decode cX10_lay 23 = .ok (.goto (-21), 3) := by decide +kernel
theorem dX10_lay_26 : decode cX10_lay 26 = .ok (.return_, 1) := by decide +kernel
set_option maxHeartbeats 4000000 in
set_option maxRecDepth 100000 in
theorem c_Model_lay (l : Launch) (G : fm_G) (N : Nat) (M : fm_M) (M' : fm_M) (hf : pModel_lay N M = some M') : fm_Met l yX10_lay cX10_lay 2 none { frames := 0, cells := 0, slots := 0, locals := 0 } shM G [.ref (G.2.1 0)] M none M' := by
  refine fm_enter (by decide) (Nat.le_of_ble_eq_true rfl) ?_
  intro p e s m args below meth c ls C E hl
  have hl : lv_has ls 2 [(0, .ref (G.2.1 0))] := hl
  have L2 : ∀ (n2 : Nat) (v1 : Int32) (M : fm_M) (H : Heap) (locs : List Loc) (ls : Array Slot), fm_Wd shM G M s H locs → lv_has ls 2 [(0, .ref (G.2.1 0)), (1, .int v1)] → fm_lp (pModel_lay_L2 N) n2 (v1, M) = some M' → W p l e { frames := 0, cells := 0, slots := 0, locals := 0 } s m args below meth c H locs 0 0 (fm_Z below shM G args s none M') (F0 m 2 ls []) := by
    intro  n2
    induction n2 with
    | zero => intro v1 M H locs ls E hl hf; exact fm_lp_0 hf
    | succ n2 ih2 =>
      intro v1 M H locs ls E hl hf
      have hf : pModel_lay_L2b N (fm_lp (pModel_lay_L2 N) n2) v1 M = some M' := hf
      unfold pModel_lay_L2b at hf
      refine lv_iload_n C.1 C.2.1 dX10_lay_2 rfl (lv_at hl 1 rfl) ?_
      refine lv_bipush (v := 101) C.1 C.2.1 dX10_lay_3 (by decide) ?_
      refine lv_icmp_ge (tgt := 26) C.1 C.2.1 dX10_lay_5 (by decide) (fun hc5 => ?_) (fun hc5 => ?_)
      · have hf := fm_ip hf hc5
        obtain rfl := fm_rt1 hf
        exact fm_vret C E rfl dX10_lay_26
      · have hf := fm_in' hf hc5
        refine lv_aload_n C.1 C.2.1 dX10_lay_8 rfl (lv_at hl 0 rfl) ?_
        refine fm_getr C E lf_X10_61 hM_0 rfl dX10_lay_9 ?_
        refine lv_iload_n C.1 C.2.1 dX10_lay_12 rfl (lv_at hl 1 rfl) ?_
        refine lv_aload_n C.1 C.2.1 dX10_lay_13 rfl (lv_at hl 0 rfl) ?_
        refine fm_getr C E lf_X10_9 hM_0 rfl dX10_lay_14 ?_
        refine lv_iload_n C.1 C.2.1 dX10_lay_17 rfl (lv_at hl 1 rfl) ?_
        obtain ⟨h18, x18, e18, hf⟩ := fm_ld_e hf
        refine fm_iald' C E e18 hM_1 h18 dX10_lay_18 ?_
        obtain ⟨h19, M19, e19, hf⟩ := fm_st_e hf
        refine fm_iast' C E e19 hM_14 h19 dX10_lay_19 (fun H locs E => ?_)
        refine fm_iinc C (v := 1) (lv' := [(1, .int _), (0, .ref _)]) (k := 1) hl rfl (by decide) (by decide) rfl dX10_lay_20 (fun ls hl => ?_)
        refine lv_goto (tgt := 2) C.1 C.2.1 dX10_lay_23 (by decide) ?_
        exact ih2 _ _ _ _ _ E (lv_sub hl [1, 0] rfl) hf
  unfold pModel_lay at hf
  refine lv_iconst (v := 0) C.1 C.2.1 dX10_lay_0 (by decide) ?_
  refine lv_istore_n (lv' := [(1, .int _), (0, .ref _)]) C.1 C.2.1 dX10_lay_1 rfl hl (by decide) rfl (fun ls hl => ?_)
  exact L2  N _ _ _ _ _ E (lv_sub hl [1, 0] rfl) hf
theorem dX10_note_0 : decode cX10_note 0 = .ok (.aload_n 0, 1) := by decide +kernel
theorem dX10_note_1 : decode cX10_note 1 = .ok (.getfield 291, 3) := by decide +kernel
theorem dX10_note_4 : decode cX10_note 4 = .ok (.bipush 8, 2) := by decide +kernel
theorem dX10_note_6 : decode cX10_note 6 = .ok (.if_icmp .ne 43, 3) := by decide +kernel
theorem dX10_note_9 : decode cX10_note 9 = .ok (.iconst 0, 1) := by decide +kernel
theorem dX10_note_10 : decode cX10_note 10 = .ok (.istore_n 1, 1) := by decide +kernel
theorem dX10_note_11 : decode cX10_note 11 = .ok (.iload_n 1, 1) := by decide +kernel
theorem dX10_note_12 : decode cX10_note 12 = .ok (.sipush 707, 3) := by decide +kernel
theorem dX10_note_15 : decode cX10_note 15 = .ok (.if_icmp .ge 24, 3) := by decide +kernel
theorem dX10_note_18 : decode cX10_note 18 = .ok (.aload_n 0, 1) := by decide +kernel
theorem dX10_note_19 : decode cX10_note 19 = .ok (.getfield 58, 3) := by decide +kernel
theorem dX10_note_22 : decode cX10_note 22 = .ok (.iload_n 1, 1) := by decide +kernel
theorem dX10_note_23 : decode cX10_note 23 = .ok (.aload_n 0, 1) := by decide +kernel
theorem dX10_note_24 : decode cX10_note 24 = .ok (.getfield 58, 3) := by decide +kernel
theorem dX10_note_27 : decode cX10_note 27 = .ok (.iload_n 1, 1) := by decide +kernel
theorem dX10_note_28 : decode cX10_note 28 = .ok (.bipush 101, 2) := by decide +kernel
theorem dX10_note_30 : decode cX10_note 30 = .ok (.iadd, 1) := by decide +kernel
theorem dX10_note_31 : decode cX10_note 31 = .ok (.iaload, 1) := by decide +kernel
theorem dX10_note_32 : decode cX10_note 32 = .ok (.iastore, 1) := by decide +kernel
theorem dX10_note_33 : decode cX10_note 33 = .ok (.iinc 1 1, 3) := by decide +kernel
theorem dX10_note_36 : decode cX10_note 36 = .ok (.goto (-25), 3) := by decide +kernel
theorem dX10_note_39 : decode cX10_note 39 = .ok (.aload_n 0, 1) := by decide +kernel
theorem dX10_note_40 : decode cX10_note 40 = .ok (.dup, 1) := by decide +kernel
theorem dX10_note_41 : decode cX10_note 41 = .ok (.getfield 291, 3) := by decide +kernel
theorem dX10_note_44 : decode cX10_note 44 = .ok (.iconst 1, 1) := by decide +kernel
theorem dX10_note_45 : decode cX10_note 45 = .ok (.isub, 1) := by decide +kernel
theorem dX10_note_46 : decode cX10_note 46 = .ok (.putfield 291, 3) := by decide +kernel
theorem dX10_note_49 : decode cX10_note 49 = .ok (.iconst 0, 1) := by decide +kernel
theorem dX10_note_50 : decode cX10_note 50 = .ok (.istore_n 1, 1) := by decide +kernel
theorem dX10_note_51 : decode cX10_note 51 = .ok (.iload_n 1, 1) := by decide +kernel
theorem dX10_note_52 : decode cX10_note 52 = .ok (.bipush 101, 2) := by decide +kernel
theorem dX10_note_54 : decode cX10_note 54 = .ok (.if_icmp .ge 29, 3) := by decide +kernel
theorem dX10_note_57 : decode cX10_note 57 = .ok (.aload_n 0, 1) := by decide +kernel
theorem dX10_note_58 : decode cX10_note 58 = .ok (.getfield 58, 3) := by decide +kernel
theorem dX10_note_61 : decode cX10_note 61 = .ok (.bipush 101, 2) := by decide +kernel
theorem dX10_note_63 : decode cX10_note 63 = .ok (.aload_n 0, 1) := by decide +kernel
theorem dX10_note_64 : decode cX10_note 64 = .ok (.getfield 291, 3) := by decide +kernel
theorem dX10_note_67 : decode cX10_note 67 = .ok (.imul, 1) := by decide +kernel
theorem dX10_note_68 : decode cX10_note 68 = .ok (.iload_n 1, 1) := by decide +kernel
theorem dX10_note_69 : decode cX10_note 69 = .ok (.iadd, 1) := by decide +kernel
theorem dX10_note_70 : decode cX10_note 70 = .ok (.aload_n 0, 1) := by decide +kernel
theorem dX10_note_71 : decode cX10_note 71 = .ok (.getfield 61, 3) := by decide +kernel
theorem dX10_note_74 : decode cX10_note 74 = .ok (.iload_n 1, 1) := by decide +kernel
theorem dX10_note_75 : decode cX10_note 75 = .ok (.iaload, 1) := by decide +kernel
theorem dX10_note_76 : decode cX10_note 76 = .ok (.iastore, 1) := by decide +kernel
theorem dX10_note_77 : decode cX10_note 77 = .ok (.iinc 1 1, 3) := by decide +kernel
theorem dX10_note_80 : decode cX10_note 80 = .ok (.goto (-29), 3) := by decide +kernel
theorem dX10_note_83 : decode cX10_note 83 = .ok (.aload_n 0, 1) := by decide +kernel
theorem dX10_note_84 : decode cX10_note 84 = .ok (.dup, 1) := by decide +kernel
theorem dX10_note_85 : decode cX10_note 85 = .ok (.getfield 291, 3) := by decide +kernel
theorem dX10_note_88 : decode cX10_note 88 = .ok (.iconst 1, 1) := by decide +kernel
theorem dX10_note_89 : decode cX10_note 89 = .ok (.iadd, 1) := by decide +kernel
theorem dX10_note_90 : decode cX10_note 90 = .ok (.putfield 291, 3) := by decide +kernel
theorem dX10_note_93 : decode cX10_note 93 = .ok (.return_, 1) := by decide +kernel
set_option maxHeartbeats 4000000 in
set_option maxRecDepth 100000 in
theorem c_Model_note (l : Launch) (G : fm_G) (N : Nat) (M : fm_M) (M' : fm_M) (hf : pModel_note N M = some M') : fm_Met l yX10_note cX10_note 2 none { frames := 0, cells := 0, slots := 0, locals := 0 } shM G [.ref (G.2.1 0)] M none M' := by
  refine fm_enter (by decide) (Nat.le_of_ble_eq_true rfl) ?_
  intro p e s m args below meth c ls C E hl
  have hl : lv_has ls 2 [(0, .ref (G.2.1 0))] := hl
  have L51 : ∀ (n51 : Nat) (v1 : Int32) (M : fm_M) (H : Heap) (locs : List Loc) (ls : Array Slot), fm_Wd shM G M s H locs → lv_has ls 2 [(0, .ref (G.2.1 0)), (1, .int v1)] → fm_lp (pModel_note_L51 N) n51 (v1, M) = some M' → W p l e { frames := 0, cells := 0, slots := 0, locals := 0 } s m args below meth c H locs 0 0 (fm_Z below shM G args s none M') (F0 m 51 ls []) := by
    intro  n51
    induction n51 with
    | zero => intro v1 M H locs ls E hl hf; exact fm_lp_0 hf
    | succ n51 ih51 =>
      intro v1 M H locs ls E hl hf
      have hf : pModel_note_L51b N (fm_lp (pModel_note_L51 N) n51) v1 M = some M' := hf
      unfold pModel_note_L51b at hf
      refine lv_iload_n C.1 C.2.1 dX10_note_51 rfl (lv_at hl 1 rfl) ?_
      refine lv_bipush (v := 101) C.1 C.2.1 dX10_note_52 (by decide) ?_
      refine lv_icmp_ge (tgt := 83) C.1 C.2.1 dX10_note_54 (by decide) (fun hc54 => ?_) (fun hc54 => ?_)
      · have hf := fm_ip hf hc54
        refine lv_aload_n C.1 C.2.1 dX10_note_83 rfl (lv_at hl 0 rfl) ?_
        refine lv_dup C.1 C.2.1 dX10_note_84 rfl ?_
        refine fm_geti C E lf_X10_291 hM_0 rfl dX10_note_85 ?_
        refine lv_iconst (v := 1) C.1 C.2.1 dX10_note_88 (by decide) ?_
        refine lv_iadd C.1 C.2.1 dX10_note_89 ?_
        obtain ⟨M90, e90, hf⟩ := fm_pt_s hf
        refine fm_put' C E e90 lp_X10_291 hM_0 rfl dX10_note_90 (fun H locs E => ?_)
        obtain rfl := fm_rt1 hf
        exact fm_vret C E rfl dX10_note_93
      · have hf := fm_in' hf hc54
        refine lv_aload_n C.1 C.2.1 dX10_note_57 rfl (lv_at hl 0 rfl) ?_
        refine fm_getr C E lf_X10_58 hM_0 rfl dX10_note_58 ?_
        refine lv_bipush (v := 101) C.1 C.2.1 dX10_note_61 (by decide) ?_
        refine lv_aload_n C.1 C.2.1 dX10_note_63 rfl (lv_at hl 0 rfl) ?_
        refine fm_geti C E lf_X10_291 hM_0 rfl dX10_note_64 ?_
        refine lv_imul C.1 C.2.1 dX10_note_67 ?_
        refine lv_iload_n C.1 C.2.1 dX10_note_68 rfl (lv_at hl 1 rfl) ?_
        refine lv_iadd C.1 C.2.1 dX10_note_69 ?_
        refine lv_aload_n C.1 C.2.1 dX10_note_70 rfl (lv_at hl 0 rfl) ?_
        refine fm_getr C E lf_X10_61 hM_0 rfl dX10_note_71 ?_
        refine lv_iload_n C.1 C.2.1 dX10_note_74 rfl (lv_at hl 1 rfl) ?_
        obtain ⟨h75, x75, e75, hf⟩ := fm_ld_e hf
        refine fm_iald' C E e75 hM_14 h75 dX10_note_75 ?_
        obtain ⟨h76, M76, e76, hf⟩ := fm_st_e hf
        refine fm_iast' C E e76 hM_13 h76 dX10_note_76 (fun H locs E => ?_)
        refine fm_iinc C (v := 1) (lv' := [(1, .int _), (0, .ref _)]) (k := 1) hl rfl (by decide) (by decide) rfl dX10_note_77 (fun ls hl => ?_)
        refine lv_goto (tgt := 51) C.1 C.2.1 dX10_note_80 (by decide) ?_
        exact ih51 _ _ _ _ _ E (lv_sub hl [1, 0] rfl) hf
  have J49 : ∀ (M : fm_M) (H : Heap) (locs : List Loc) (ls : Array Slot), fm_Wd shM G M s H locs → lv_has ls 2 [(0, .ref (G.2.1 0))] → pModel_note_J49 N M = some M' → W p l e { frames := 0, cells := 0, slots := 0, locals := 0 } s m args below meth c H locs 0 0 (fm_Z below shM G args s none M') (F0 m 49 ls []) := by
    intro M H locs ls E hl hf
    unfold pModel_note_J49 at hf
    refine lv_iconst (v := 0) C.1 C.2.1 dX10_note_49 (by decide) ?_
    refine lv_istore_n (lv' := [(1, .int _), (0, .ref _)]) C.1 C.2.1 dX10_note_50 rfl hl (by decide) rfl (fun ls hl => ?_)
    exact L51  N _ _ _ _ _ E (lv_sub hl [1, 0] rfl) hf
  have L11 : ∀ (n11 : Nat) (v1 : Int32) (M : fm_M) (H : Heap) (locs : List Loc) (ls : Array Slot), fm_Wd shM G M s H locs → lv_has ls 2 [(0, .ref (G.2.1 0)), (1, .int v1)] → fm_lp (pModel_note_L11 N) n11 (v1, M) = some M' → W p l e { frames := 0, cells := 0, slots := 0, locals := 0 } s m args below meth c H locs 0 0 (fm_Z below shM G args s none M') (F0 m 11 ls []) := by
    intro  n11
    induction n11 with
    | zero => intro v1 M H locs ls E hl hf; exact fm_lp_0 hf
    | succ n11 ih11 =>
      intro v1 M H locs ls E hl hf
      have hf : pModel_note_L11b N (fm_lp (pModel_note_L11 N) n11) v1 M = some M' := hf
      unfold pModel_note_L11b at hf
      refine lv_iload_n C.1 C.2.1 dX10_note_11 rfl (lv_at hl 1 rfl) ?_
      refine lv_sipush (v := 707) C.1 C.2.1 dX10_note_12 (by decide) ?_
      refine lv_icmp_ge (tgt := 39) C.1 C.2.1 dX10_note_15 (by decide) (fun hc15 => ?_) (fun hc15 => ?_)
      · have hf := fm_ip hf hc15
        refine lv_aload_n C.1 C.2.1 dX10_note_39 rfl (lv_at hl 0 rfl) ?_
        refine lv_dup C.1 C.2.1 dX10_note_40 rfl ?_
        refine fm_geti C E lf_X10_291 hM_0 rfl dX10_note_41 ?_
        refine lv_iconst (v := 1) C.1 C.2.1 dX10_note_44 (by decide) ?_
        refine lv_isub C.1 C.2.1 dX10_note_45 ?_
        obtain ⟨M46, e46, hf⟩ := fm_pt_s hf
        refine fm_put' C E e46 lp_X10_291 hM_0 rfl dX10_note_46 (fun H locs E => ?_)
        exact J49 _ _ _ _ E (lv_sub hl [0] rfl) hf
      · have hf := fm_in' hf hc15
        refine lv_aload_n C.1 C.2.1 dX10_note_18 rfl (lv_at hl 0 rfl) ?_
        refine fm_getr C E lf_X10_58 hM_0 rfl dX10_note_19 ?_
        refine lv_iload_n C.1 C.2.1 dX10_note_22 rfl (lv_at hl 1 rfl) ?_
        refine lv_aload_n C.1 C.2.1 dX10_note_23 rfl (lv_at hl 0 rfl) ?_
        refine fm_getr C E lf_X10_58 hM_0 rfl dX10_note_24 ?_
        refine lv_iload_n C.1 C.2.1 dX10_note_27 rfl (lv_at hl 1 rfl) ?_
        refine lv_bipush (v := 101) C.1 C.2.1 dX10_note_28 (by decide) ?_
        refine lv_iadd C.1 C.2.1 dX10_note_30 ?_
        obtain ⟨h31, x31, e31, hf⟩ := fm_ld_e hf
        refine fm_iald' C E e31 hM_13 h31 dX10_note_31 ?_
        obtain ⟨h32, M32, e32, hf⟩ := fm_st_e hf
        refine fm_iast' C E e32 hM_13 h32 dX10_note_32 (fun H locs E => ?_)
        refine fm_iinc C (v := 1) (lv' := [(1, .int _), (0, .ref _)]) (k := 1) hl rfl (by decide) (by decide) rfl dX10_note_33 (fun ls hl => ?_)
        refine lv_goto (tgt := 11) C.1 C.2.1 dX10_note_36 (by decide) ?_
        exact ih11 _ _ _ _ _ E (lv_sub hl [1, 0] rfl) hf
  unfold pModel_note at hf
  refine lv_aload_n C.1 C.2.1 dX10_note_0 rfl (lv_at hl 0 rfl) ?_
  refine fm_geti C E lf_X10_291 hM_0 rfl dX10_note_1 ?_
  refine lv_bipush (v := 8) C.1 C.2.1 dX10_note_4 (by decide) ?_
  refine lv_icmp_ne (tgt := 49) C.1 C.2.1 dX10_note_6 (by decide) (fun hc6 => ?_) (fun hc6 => ?_)
  · have hf := fm_in' hf hc6
    exact J49 _ _ _ _ E (lv_sub hl [0] rfl) hf
  · have hf := fm_ip hf hc6
    refine lv_iconst (v := 0) C.1 C.2.1 dX10_note_9 (by decide) ?_
    refine lv_istore_n (lv' := [(1, .int _), (0, .ref _)]) C.1 C.2.1 dX10_note_10 rfl hl (by decide) rfl (fun ls hl => ?_)
    exact L11  N _ _ _ _ _ E (lv_sub hl [1, 0] rfl) hf
theorem dX10_change_0 : decode cX10_change 0 = .ok (.aload_n 0, 1) := by decide +kernel
theorem dX10_change_1 : decode cX10_change 1 = .ok (.invokevirtual 294, 3) := by decide +kernel
theorem dX10_change_4 : decode cX10_change 4 = .ok (.aload_n 0, 1) := by decide +kernel
theorem dX10_change_5 : decode cX10_change 5 = .ok (.invokevirtual 297, 3) := by decide +kernel
theorem dX10_change_8 : decode cX10_change 8 = .ok (.return_, 1) := by decide +kernel
set_option maxHeartbeats 4000000 in
set_option maxRecDepth 100000 in
theorem c_Model_change (l : Launch) (G : fm_G) (N : Nat) (M : fm_M) (M' : fm_M) (hf : pModel_change N M = some M') : fm_Met l yX10_change cX10_change 1 none { frames := 1, cells := 0, slots := 0, locals := 21 } shM G [.ref (G.2.1 0)] M none M' := by
  refine fm_enter (by decide) (Nat.le_of_ble_eq_true rfl) ?_
  intro p e s m args below meth c ls C E hl
  have hl : lv_has ls 1 [(0, .ref (G.2.1 0))] := hl
  unfold pModel_change at hf
  refine lv_aload_n C.1 C.2.1 dX10_change_0 rfl (lv_at hl 0 rfl) ?_
  obtain ⟨M1, hc1, hf⟩ := fm_bd hf
  refine fm_callV C E [] [] lm_X10_294 wk_X10_lay (c_Model_lay l G N _ _ hc1) hM_0 rfl rfl rfl hl.1 (by simp [Value.category]) ⟨⟨rfl, rfl⟩, by decide, by decide⟩ ⟨by decide, by decide⟩ dX10_change_1 rfl (fun H locs E => ?_)
  refine W.eq (g2 := F0 m 4 ls []) rfl ?_
  refine lv_aload_n C.1 C.2.1 dX10_change_4 rfl (lv_at hl 0 rfl) ?_
  obtain ⟨M5, hc5, hf⟩ := fm_bd hf
  refine fm_callV C E [] [] lm_X10_297 wk_X10_note (c_Model_note l G N _ _ hc5) hM_0 rfl rfl rfl hl.1 (by simp [Value.category]) ⟨⟨rfl, rfl⟩, by decide, by decide⟩ ⟨by decide, by decide⟩ dX10_change_5 rfl (fun H locs E => ?_)
  refine W.eq (g2 := F0 m 8 ls []) rfl ?_
  obtain rfl := fm_rt1 hf
  exact fm_vret C E rfl dX10_change_8
theorem dX10_refusesSet_0 : decode cX10_refusesSet 0 = .ok (.aload_n 0, 1) := by decide +kernel
theorem dX10_refusesSet_1 : decode cX10_refusesSet 1 = .ok (.iload_n 1, 1) := by decide +kernel
theorem dX10_refusesSet_2 : decode cX10_refusesSet 2 = .ok (.invokevirtual 153, 3) := by decide +kernel
theorem dX10_refusesSet_5 : decode cX10_refusesSet 5 = .ok (.ifCond .eq 40, 3) := by decide +kernel
theorem dX10_refusesSet_8 : decode cX10_refusesSet 8 = .ok (.iload_n 2, 1) := by decide +kernel
theorem dX10_refusesSet_9 : decode cX10_refusesSet 9 = .ok (.iconst 0, 1) := by decide +kernel
theorem dX10_refusesSet_10 : decode cX10_refusesSet 10 = .ok (.iconst 4, 1) := by decide +kernel
theorem dX10_refusesSet_11 : decode cX10_refusesSet 11 = .ok (.invokestatic 83, 3) := by decide +kernel
theorem dX10_refusesSet_14 : decode cX10_refusesSet 14 = .ok (.ifCond .eq 31, 3) := by decide +kernel
theorem dX10_refusesSet_17 : decode cX10_refusesSet 17 = .ok (.iload_n 3, 1) := by decide +kernel
theorem dX10_refusesSet_18 : decode cX10_refusesSet 18 = .ok (.iload_n 2, 1) := by decide +kernel
theorem dX10_refusesSet_19 : decode cX10_refusesSet 19 = .ok (.ifCond .eq 8, 3) := by decide +kernel
theorem dX10_refusesSet_22 : decode cX10_refusesSet 22 = .ok (.iload_n 2, 1) := by decide +kernel
theorem dX10_refusesSet_23 : decode cX10_refusesSet 23 = .ok (.iconst 2, 1) := by decide +kernel
theorem dX10_refusesSet_24 : decode cX10_refusesSet 24 = .ok (.if_icmp .ne 7, 3) := by decide +kernel
theorem dX10_refusesSet_27 : decode cX10_refusesSet 27 = .ok (.iconst 1, 1) := by decide +kernel
theorem dX10_refusesSet_28 : decode cX10_refusesSet 28 = .ok (.goto 4, 3) := by decide +kernel
theorem dX10_refusesSet_31 : decode cX10_refusesSet 31 = .ok (.iconst 0, 1) := by decide +kernel
theorem dX10_refusesSet_32 : decode cX10_refusesSet 32 = .ok (.getstatic 122, 3) := by decide +kernel
theorem dX10_refusesSet_35 : decode cX10_refusesSet 35 = .ok (.iconst 1, 1) := by decide +kernel
theorem dX10_refusesSet_36 : decode cX10_refusesSet 36 = .ok (.iload_n 2, 1) := by decide +kernel
theorem dX10_refusesSet_37 : decode cX10_refusesSet 37 = .ok (.iadd, 1) := by decide +kernel
theorem dX10_refusesSet_38 : decode cX10_refusesSet 38 = .ok (.iaload, 1) := by decide +kernel
theorem dX10_refusesSet_39 : decode cX10_refusesSet 39 = .ok (.invokestatic 83, 3) := by decide +kernel
theorem dX10_refusesSet_42 : decode cX10_refusesSet 42 = .ok (.ifCond .ne 5, 3) := by decide +kernel
theorem dX10_refusesSet_45 : decode cX10_refusesSet 45 = .ok (.iconst (-1), 1) := by decide +kernel
theorem dX10_refusesSet_46 : decode cX10_refusesSet 46 = .ok (.ireturn, 1) := by decide +kernel
theorem dX10_refusesSet_47 : decode cX10_refusesSet 47 = .ok (.aload_n 0, 1) := by decide +kernel
theorem dX10_refusesSet_48 : decode cX10_refusesSet 48 = .ok (.iload_n 1, 1) := by decide +kernel
theorem dX10_refusesSet_49 : decode cX10_refusesSet 49 = .ok (.iconst 1, 1) := by decide +kernel
theorem dX10_refusesSet_50 : decode cX10_refusesSet 50 = .ok (.iload_n 2, 1) := by decide +kernel
theorem dX10_refusesSet_51 : decode cX10_refusesSet 51 = .ok (.iadd, 1) := by decide +kernel
theorem dX10_refusesSet_52 : decode cX10_refusesSet 52 = .ok (.invokevirtual 150, 3) := by decide +kernel
theorem dX10_refusesSet_55 : decode cX10_refusesSet 55 = .ok (.iload_n 3, 1) := by decide +kernel
theorem dX10_refusesSet_56 : decode cX10_refusesSet 56 = .ok (.if_icmp .ne 8, 3) := by decide +kernel
theorem dX10_refusesSet_59 : decode cX10_refusesSet 59 = .ok (.bipush (-2), 2) := by decide +kernel
theorem dX10_refusesSet_61 : decode cX10_refusesSet 61 = .ok (.goto 4, 3) := by decide +kernel
theorem dX10_refusesSet_64 : decode cX10_refusesSet 64 = .ok (.iconst 0, 1) := by decide +kernel
theorem dX10_refusesSet_65 : decode cX10_refusesSet 65 = .ok (.ireturn, 1) := by decide +kernel
set_option maxHeartbeats 4000000 in
set_option maxRecDepth 100000 in
theorem c_Model_refusesSet (l : Launch) (G : fm_G) (M : fm_M) (v1 : Int32) (v2 : Int32) (v3 : Int32) (r : Int32) (hf : pModel_refusesSet M v1 v2 v3 = some r) : fm_Met l yX10_refusesSet cX10_refusesSet 4 (some .int) { frames := 2, cells := 0, slots := 0, locals := 43 } shM G [.ref (G.2.1 0), .int v1, .int v2, .int v3] M (some (.int r)) M := by
  refine fm_enter (by decide) (Nat.le_of_ble_eq_true rfl) ?_
  intro p e s m args below meth c ls C E hl
  have hl : lv_has ls 4 [(0, .ref (G.2.1 0)), (1, .int v1), (2, .int v2), (3, .int v3)] := hl
  have J32 : ∀ (v1 : Int32) (v2 : Int32) (v3 : Int32) (s0 : Int32) (s1 : Int32) (H : Heap) (locs : List Loc) (ls : Array Slot), fm_Wd shM G M s H locs → lv_has ls 4 [(0, .ref (G.2.1 0)), (1, .int v1), (2, .int v2), (3, .int v3)] → pModel_refusesSet_J32 M v1 v2 v3 s0 s1 = some r → W p l e { frames := 2, cells := 0, slots := 0, locals := 43 } s m args below meth c H locs 0 0 (fm_Z below shM G args s (some (.int r)) M) (F0 m 32 ls [.int s1, .int s0]) := by
    intro v1 v2 v3 s0 s1 H locs ls E hl hf
    unfold pModel_refusesSet_J32 at hf
    refine fm_gets C E (List.mem_of_getElem? (l := fm_Zs) (i := 7) rfl) (Or.inl wf_1245) dX10_refusesSet_32 (fun t32 hT32 => ?_)
    refine lv_iconst (v := 1) C.1 C.2.1 dX10_refusesSet_35 (by decide) ?_
    refine lv_iload_n C.1 C.2.1 dX10_refusesSet_36 rfl (lv_at hl 2 rfl) ?_
    refine lv_iadd C.1 C.2.1 dX10_refusesSet_37 ?_
    obtain ⟨h38, hf⟩ := fm_ix_s hf
    refine fm_tld C E hT32 h38 dX10_refusesSet_38 ?_
    obtain ⟨x39, hc39, hf⟩ := fm_bd hf
    refine fm_callS C E [.int _, .int _, .int _] [] lm_X10_83 wk_X10_in (c_Model_in l G _ _ _ _ _  hc39) rfl hl.1 (by simp [Value.category]) ⟨⟨rfl, rfl⟩, by decide, by decide⟩ ⟨by decide, by decide⟩ dX10_refusesSet_39 rfl (fun H locs E => ?_)
    refine W.eq (g2 := F0 m 42 ls (.int x39 :: [])) rfl ?_
    refine lv_if_ne (tgt := 47) C.1 C.2.1 dX10_refusesSet_42 (by decide) (fun hc42 => ?_) (fun hc42 => ?_)
    · have hf := fm_in' hf hc42
      refine lv_aload_n C.1 C.2.1 dX10_refusesSet_47 rfl (lv_at hl 0 rfl) ?_
      refine lv_iload_n C.1 C.2.1 dX10_refusesSet_48 rfl (lv_at hl 1 rfl) ?_
      refine lv_iconst (v := 1) C.1 C.2.1 dX10_refusesSet_49 (by decide) ?_
      refine lv_iload_n C.1 C.2.1 dX10_refusesSet_50 rfl (lv_at hl 2 rfl) ?_
      refine lv_iadd C.1 C.2.1 dX10_refusesSet_51 ?_
      obtain ⟨x52, hc52, hf⟩ := fm_bd hf
      refine fm_callV C E [.int _, .int _] [] lm_X10_150 wk_X10_of (c_Model_of l G _ _ _ _  hc52) hM_0 rfl rfl rfl hl.1 (by simp [Value.category]) ⟨⟨rfl, rfl⟩, by decide, by decide⟩ ⟨by decide, by decide⟩ dX10_refusesSet_52 rfl (fun H locs E => ?_)
      refine W.eq (g2 := F0 m 55 ls (.int x52 :: [])) rfl ?_
      refine lv_iload_n C.1 C.2.1 dX10_refusesSet_55 rfl (lv_at hl 3 rfl) ?_
      refine lv_icmp_ne (tgt := 64) C.1 C.2.1 dX10_refusesSet_56 (by decide) (fun hc56 => ?_) (fun hc56 => ?_)
      · have hf := fm_in' hf hc56
        refine lv_iconst (v := 0) C.1 C.2.1 dX10_refusesSet_64 (by decide) ?_
        obtain rfl := fm_rt1 hf
        exact fm_iret C E rfl rfl dX10_refusesSet_65
      · have hf := fm_ip hf hc56
        refine lv_bipush (v := (-2)) C.1 C.2.1 dX10_refusesSet_59 (by decide) ?_
        refine lv_goto (tgt := 65) C.1 C.2.1 dX10_refusesSet_61 (by decide) ?_
        obtain rfl := fm_rt1 hf
        exact fm_iret C E rfl rfl dX10_refusesSet_65
    · have hf := fm_ip hf hc42
      refine lv_iconst (v := (-1)) C.1 C.2.1 dX10_refusesSet_45 (by decide) ?_
      obtain rfl := fm_rt1 hf
      exact fm_iret C E rfl rfl dX10_refusesSet_46
  have J27 : ∀ (v1 : Int32) (v2 : Int32) (v3 : Int32) (s0 : Int32) (H : Heap) (locs : List Loc) (ls : Array Slot), fm_Wd shM G M s H locs → lv_has ls 4 [(0, .ref (G.2.1 0)), (1, .int v1), (2, .int v2), (3, .int v3)] → pModel_refusesSet_J27 M v1 v2 v3 s0 = some r → W p l e { frames := 2, cells := 0, slots := 0, locals := 43 } s m args below meth c H locs 0 0 (fm_Z below shM G args s (some (.int r)) M) (F0 m 27 ls [.int s0]) := by
    intro v1 v2 v3 s0 H locs ls E hl hf
    unfold pModel_refusesSet_J27 at hf
    refine lv_iconst (v := 1) C.1 C.2.1 dX10_refusesSet_27 (by decide) ?_
    refine lv_goto (tgt := 32) C.1 C.2.1 dX10_refusesSet_28 (by decide) ?_
    exact J32 _ _ _ _ _ _ _ _ E (lv_sub hl [0, 1, 2, 3] rfl) hf
  unfold pModel_refusesSet at hf
  refine lv_aload_n C.1 C.2.1 dX10_refusesSet_0 rfl (lv_at hl 0 rfl) ?_
  refine lv_iload_n C.1 C.2.1 dX10_refusesSet_1 rfl (lv_at hl 1 rfl) ?_
  obtain ⟨x2, hc2, hf⟩ := fm_bd hf
  refine fm_callV C E [.int _] [] lm_X10_153 wk_X10_isMic (c_Model_isMic l G _ _ _  hc2) hM_0 rfl rfl rfl hl.1 (by simp [Value.category]) ⟨⟨rfl, rfl⟩, by decide, by decide⟩ ⟨by decide, by decide⟩ dX10_refusesSet_2 rfl (fun H locs E => ?_)
  refine W.eq (g2 := F0 m 5 ls (.int x2 :: [])) rfl ?_
  refine lv_if_eq (tgt := 45) C.1 C.2.1 dX10_refusesSet_5 (by decide) (fun hc5 => ?_) (fun hc5 => ?_)
  · have hf := fm_ip hf hc5
    refine lv_iconst (v := (-1)) C.1 C.2.1 dX10_refusesSet_45 (by decide) ?_
    obtain rfl := fm_rt1 hf
    exact fm_iret C E rfl rfl dX10_refusesSet_46
  · have hf := fm_in' hf hc5
    refine lv_iload_n C.1 C.2.1 dX10_refusesSet_8 rfl (lv_at hl 2 rfl) ?_
    refine lv_iconst (v := 0) C.1 C.2.1 dX10_refusesSet_9 (by decide) ?_
    refine lv_iconst (v := 4) C.1 C.2.1 dX10_refusesSet_10 (by decide) ?_
    obtain ⟨x11, hc11, hf⟩ := fm_bd hf
    refine fm_callS C E [.int _, .int _, .int _] [] lm_X10_83 wk_X10_in (c_Model_in l G _ _ _ _ _  hc11) rfl hl.1 (by simp [Value.category]) ⟨⟨rfl, rfl⟩, by decide, by decide⟩ ⟨by decide, by decide⟩ dX10_refusesSet_11 rfl (fun H locs E => ?_)
    refine W.eq (g2 := F0 m 14 ls (.int x11 :: [])) rfl ?_
    refine lv_if_eq (tgt := 45) C.1 C.2.1 dX10_refusesSet_14 (by decide) (fun hc14 => ?_) (fun hc14 => ?_)
    · have hf := fm_ip hf hc14
      refine lv_iconst (v := (-1)) C.1 C.2.1 dX10_refusesSet_45 (by decide) ?_
      obtain rfl := fm_rt1 hf
      exact fm_iret C E rfl rfl dX10_refusesSet_46
    · have hf := fm_in' hf hc14
      refine lv_iload_n C.1 C.2.1 dX10_refusesSet_17 rfl (lv_at hl 3 rfl) ?_
      refine lv_iload_n C.1 C.2.1 dX10_refusesSet_18 rfl (lv_at hl 2 rfl) ?_
      refine lv_if_eq (tgt := 27) C.1 C.2.1 dX10_refusesSet_19 (by decide) (fun hc19 => ?_) (fun hc19 => ?_)
      · have hf := fm_ip hf hc19
        exact J27 _ _ _ _ _ _ _ E (lv_sub hl [0, 1, 2, 3] rfl) hf
      · have hf := fm_in' hf hc19
        refine lv_iload_n C.1 C.2.1 dX10_refusesSet_22 rfl (lv_at hl 2 rfl) ?_
        refine lv_iconst (v := 2) C.1 C.2.1 dX10_refusesSet_23 (by decide) ?_
        refine lv_icmp_ne (tgt := 31) C.1 C.2.1 dX10_refusesSet_24 (by decide) (fun hc24 => ?_) (fun hc24 => ?_)
        · have hf := fm_in' hf hc24
          refine lv_iconst (v := 0) C.1 C.2.1 dX10_refusesSet_31 (by decide) ?_
          exact J32 _ _ _ _ _ _ _ _ E (lv_sub hl [0, 1, 2, 3] rfl) hf
        · have hf := fm_ip hf hc24
          exact J27 _ _ _ _ _ _ _ E (lv_sub hl [0, 1, 2, 3] rfl) hf
theorem dX10_sets_0 : decode cX10_sets 0 = .ok (.aload_n 0, 1) := by decide +kernel
theorem dX10_sets_1 : decode cX10_sets 1 = .ok (.iconst 0, 1) := by decide +kernel
theorem dX10_sets_2 : decode cX10_sets 2 = .ok (.putfield 77, 3) := by decide +kernel
theorem dX10_sets_5 : decode cX10_sets 5 = .ok (.aload_n 0, 1) := by decide +kernel
theorem dX10_sets_6 : decode cX10_sets 6 = .ok (.iload_n 1, 1) := by decide +kernel
theorem dX10_sets_7 : decode cX10_sets 7 = .ok (.iload_n 2, 1) := by decide +kernel
theorem dX10_sets_8 : decode cX10_sets 8 = .ok (.iload_n 3, 1) := by decide +kernel
theorem dX10_sets_9 : decode cX10_sets 9 = .ok (.invokevirtual 300, 3) := by decide +kernel
theorem dX10_sets_12 : decode cX10_sets 12 = .ok (.istore 4, 2) := by decide +kernel
theorem dX10_sets_14 : decode cX10_sets 14 = .ok (.iload 4, 2) := by decide +kernel
theorem dX10_sets_16 : decode cX10_sets 16 = .ok (.ifCond .ge 6, 3) := by decide +kernel
theorem dX10_sets_19 : decode cX10_sets 19 = .ok (.iload 4, 2) := by decide +kernel
theorem dX10_sets_21 : decode cX10_sets 21 = .ok (.ireturn, 1) := by decide +kernel
theorem dX10_sets_22 : decode cX10_sets 22 = .ok (.aload_n 0, 1) := by decide +kernel
theorem dX10_sets_23 : decode cX10_sets 23 = .ok (.invokevirtual 132, 3) := by decide +kernel
theorem dX10_sets_26 : decode cX10_sets 26 = .ok (.aload_n 0, 1) := by decide +kernel
theorem dX10_sets_27 : decode cX10_sets 27 = .ok (.iload_n 1, 1) := by decide +kernel
theorem dX10_sets_28 : decode cX10_sets 28 = .ok (.iconst 1, 1) := by decide +kernel
theorem dX10_sets_29 : decode cX10_sets 29 = .ok (.iload_n 2, 1) := by decide +kernel
theorem dX10_sets_30 : decode cX10_sets 30 = .ok (.iadd, 1) := by decide +kernel
theorem dX10_sets_31 : decode cX10_sets 31 = .ok (.invokevirtual 150, 3) := by decide +kernel
theorem dX10_sets_34 : decode cX10_sets 34 = .ok (.istore 5, 2) := by decide +kernel
theorem dX10_sets_36 : decode cX10_sets 36 = .ok (.aload_n 0, 1) := by decide +kernel
theorem dX10_sets_37 : decode cX10_sets 37 = .ok (.getfield 9, 3) := by decide +kernel
theorem dX10_sets_40 : decode cX10_sets 40 = .ok (.iconst 1, 1) := by decide +kernel
theorem dX10_sets_41 : decode cX10_sets 41 = .ok (.bipush 6, 2) := by decide +kernel
theorem dX10_sets_43 : decode cX10_sets 43 = .ok (.iload_n 1, 1) := by decide +kernel
theorem dX10_sets_44 : decode cX10_sets 44 = .ok (.imul, 1) := by decide +kernel
theorem dX10_sets_45 : decode cX10_sets 45 = .ok (.iadd, 1) := by decide +kernel
theorem dX10_sets_46 : decode cX10_sets 46 = .ok (.iconst 1, 1) := by decide +kernel
theorem dX10_sets_47 : decode cX10_sets 47 = .ok (.iadd, 1) := by decide +kernel
theorem dX10_sets_48 : decode cX10_sets 48 = .ok (.iload_n 2, 1) := by decide +kernel
theorem dX10_sets_49 : decode cX10_sets 49 = .ok (.iadd, 1) := by decide +kernel
theorem dX10_sets_50 : decode cX10_sets 50 = .ok (.iload_n 3, 1) := by decide +kernel
theorem dX10_sets_51 : decode cX10_sets 51 = .ok (.iastore, 1) := by decide +kernel
theorem dX10_sets_52 : decode cX10_sets 52 = .ok (.iload 5, 2) := by decide +kernel
theorem dX10_sets_54 : decode cX10_sets 54 = .ok (.ireturn, 1) := by decide +kernel
set_option maxHeartbeats 4000000 in
set_option maxRecDepth 100000 in
theorem c_Model_sets (l : Launch) (G : fm_G) (N : Nat) (M : fm_M) (v1 : Int32) (v2 : Int32) (v3 : Int32) (r : Int32) (M' : fm_M) (hf : pModel_sets N M v1 v2 v3 = some (r, M')) : fm_Met l yX10_sets cX10_sets 6 (some .int) { frames := 3, cells := 0, slots := 0, locals := 66 } shM G [.ref (G.2.1 0), .int v1, .int v2, .int v3] M (some (.int r)) M' := by
  refine fm_enter (by decide) (Nat.le_of_ble_eq_true rfl) ?_
  intro p e s m args below meth c ls C E hl
  have hl : lv_has ls 6 [(0, .ref (G.2.1 0)), (1, .int v1), (2, .int v2), (3, .int v3)] := hl
  unfold pModel_sets at hf
  refine lv_aload_n C.1 C.2.1 dX10_sets_0 rfl (lv_at hl 0 rfl) ?_
  refine lv_iconst (v := 0) C.1 C.2.1 dX10_sets_1 (by decide) ?_
  obtain ⟨M2, e2, hf⟩ := fm_pt_s hf
  refine fm_put' C E e2 lp_X10_77 hM_0 rfl dX10_sets_2 (fun H locs E => ?_)
  refine lv_aload_n C.1 C.2.1 dX10_sets_5 rfl (lv_at hl 0 rfl) ?_
  refine lv_iload_n C.1 C.2.1 dX10_sets_6 rfl (lv_at hl 1 rfl) ?_
  refine lv_iload_n C.1 C.2.1 dX10_sets_7 rfl (lv_at hl 2 rfl) ?_
  refine lv_iload_n C.1 C.2.1 dX10_sets_8 rfl (lv_at hl 3 rfl) ?_
  obtain ⟨x9, hc9, hf⟩ := fm_bd hf
  refine fm_callV C E [.int _, .int _, .int _] [] lm_X10_300 wk_X10_refusesSet (c_Model_refusesSet l G _ _ _ _ _  hc9) hM_0 rfl rfl rfl hl.1 (by simp [Value.category]) ⟨⟨rfl, rfl⟩, by decide, by decide⟩ ⟨by decide, by decide⟩ dX10_sets_9 rfl (fun H locs E => ?_)
  refine W.eq (g2 := F0 m 12 ls (.int x9 :: [])) rfl ?_
  refine lv_istore (lv' := [(4, .int _), (0, .ref _), (1, .int _), (2, .int _), (3, .int _)]) C.1 C.2.1 dX10_sets_12 hl (by decide) rfl (fun ls hl => ?_)
  refine lv_iload C.1 C.2.1 dX10_sets_14 (lv_at hl 0 rfl) ?_
  refine lv_if_ge (tgt := 22) C.1 C.2.1 dX10_sets_16 (by decide) (fun hc16 => ?_) (fun hc16 => ?_)
  · have hf := fm_ip hf hc16
    refine lv_aload_n C.1 C.2.1 dX10_sets_22 rfl (lv_at hl 1 rfl) ?_
    obtain ⟨M23, hc23, hf⟩ := fm_bd hf
    refine fm_callV C E [] [] lm_X10_132 wk_X10_change (c_Model_change l G N _ _ hc23) hM_0 rfl rfl rfl hl.1 (by simp [Value.category]) ⟨⟨rfl, rfl⟩, by decide, by decide⟩ ⟨by decide, by decide⟩ dX10_sets_23 rfl (fun H locs E => ?_)
    refine W.eq (g2 := F0 m 26 ls []) rfl ?_
    refine lv_aload_n C.1 C.2.1 dX10_sets_26 rfl (lv_at hl 1 rfl) ?_
    refine lv_iload_n C.1 C.2.1 dX10_sets_27 rfl (lv_at hl 2 rfl) ?_
    refine lv_iconst (v := 1) C.1 C.2.1 dX10_sets_28 (by decide) ?_
    refine lv_iload_n C.1 C.2.1 dX10_sets_29 rfl (lv_at hl 3 rfl) ?_
    refine lv_iadd C.1 C.2.1 dX10_sets_30 ?_
    obtain ⟨x31, hc31, hf⟩ := fm_bd hf
    refine fm_callV C E [.int _, .int _] [] lm_X10_150 wk_X10_of (c_Model_of l G _ _ _ _  hc31) hM_0 rfl rfl rfl hl.1 (by simp [Value.category]) ⟨⟨rfl, rfl⟩, by decide, by decide⟩ ⟨by decide, by decide⟩ dX10_sets_31 rfl (fun H locs E => ?_)
    refine W.eq (g2 := F0 m 34 ls (.int x31 :: [])) rfl ?_
    refine lv_istore (lv' := [(5, .int _), (4, .int _), (0, .ref _), (1, .int _), (2, .int _), (3, .int _)]) C.1 C.2.1 dX10_sets_34 hl (by decide) rfl (fun ls hl => ?_)
    refine lv_aload_n C.1 C.2.1 dX10_sets_36 rfl (lv_at hl 2 rfl) ?_
    refine fm_getr C E lf_X10_9 hM_0 rfl dX10_sets_37 ?_
    refine lv_iconst (v := 1) C.1 C.2.1 dX10_sets_40 (by decide) ?_
    refine lv_bipush (v := 6) C.1 C.2.1 dX10_sets_41 (by decide) ?_
    refine lv_iload_n C.1 C.2.1 dX10_sets_43 rfl (lv_at hl 3 rfl) ?_
    refine lv_imul C.1 C.2.1 dX10_sets_44 ?_
    refine lv_iadd C.1 C.2.1 dX10_sets_45 ?_
    refine lv_iconst (v := 1) C.1 C.2.1 dX10_sets_46 (by decide) ?_
    refine lv_iadd C.1 C.2.1 dX10_sets_47 ?_
    refine lv_iload_n C.1 C.2.1 dX10_sets_48 rfl (lv_at hl 4 rfl) ?_
    refine lv_iadd C.1 C.2.1 dX10_sets_49 ?_
    refine lv_iload_n C.1 C.2.1 dX10_sets_50 rfl (lv_at hl 5 rfl) ?_
    obtain ⟨h51, M51, e51, hf⟩ := fm_st_e hf
    refine fm_iast' C E e51 hM_1 h51 dX10_sets_51 (fun H locs E => ?_)
    refine lv_iload C.1 C.2.1 dX10_sets_52 (lv_at hl 0 rfl) ?_
    obtain ⟨rfl, rfl⟩ := fm_rt2 hf
    exact fm_iret C E rfl rfl dX10_sets_54
  · have hf := fm_in' hf hc16
    refine lv_iload C.1 C.2.1 dX10_sets_19 (lv_at hl 0 rfl) ?_
    obtain ⟨rfl, rfl⟩ := fm_rt2 hf
    exact fm_iret C E rfl rfl dX10_sets_21
theorem dX10_refusesHold_0 : decode cX10_refusesHold 0 = .ok (.iload_n 1, 1) := by decide +kernel
theorem dX10_refusesHold_1 : decode cX10_refusesHold 1 = .ok (.iconst 0, 1) := by decide +kernel
theorem dX10_refusesHold_2 : decode cX10_refusesHold 2 = .ok (.iconst 2, 1) := by decide +kernel
theorem dX10_refusesHold_3 : decode cX10_refusesHold 3 = .ok (.invokestatic 83, 3) := by decide +kernel
theorem dX10_refusesHold_6 : decode cX10_refusesHold 6 = .ok (.ifCond .eq 51, 3) := by decide +kernel
theorem dX10_refusesHold_9 : decode cX10_refusesHold 9 = .ok (.iload_n 2, 1) := by decide +kernel
theorem dX10_refusesHold_10 : decode cX10_refusesHold 10 = .ok (.iload_n 1, 1) := by decide +kernel
theorem dX10_refusesHold_11 : decode cX10_refusesHold 11 = .ok (.ifCond .ne 7, 3) := by decide +kernel
theorem dX10_refusesHold_14 : decode cX10_refusesHold 14 = .ok (.iconst 1, 1) := by decide +kernel
theorem dX10_refusesHold_15 : decode cX10_refusesHold 15 = .ok (.goto 13, 3) := by decide +kernel
theorem dX10_refusesHold_18 : decode cX10_refusesHold 18 = .ok (.iload_n 1, 1) := by decide +kernel
theorem dX10_refusesHold_19 : decode cX10_refusesHold 19 = .ok (.iconst 1, 1) := by decide +kernel
theorem dX10_refusesHold_20 : decode cX10_refusesHold 20 = .ok (.if_icmp .ne 7, 3) := by decide +kernel
theorem dX10_refusesHold_23 : decode cX10_refusesHold 23 = .ok (.iconst 0, 1) := by decide +kernel
theorem dX10_refusesHold_24 : decode cX10_refusesHold 24 = .ok (.goto 4, 3) := by decide +kernel
theorem dX10_refusesHold_27 : decode cX10_refusesHold 27 = .ok (.iconst 4, 1) := by decide +kernel
theorem dX10_refusesHold_28 : decode cX10_refusesHold 28 = .ok (.iload_n 1, 1) := by decide +kernel
theorem dX10_refusesHold_29 : decode cX10_refusesHold 29 = .ok (.ifCond .ne 9, 3) := by decide +kernel
theorem dX10_refusesHold_32 : decode cX10_refusesHold 32 = .ok (.sipush 9999, 3) := by decide +kernel
theorem dX10_refusesHold_35 : decode cX10_refusesHold 35 = .ok (.goto 16, 3) := by decide +kernel
theorem dX10_refusesHold_38 : decode cX10_refusesHold 38 = .ok (.iload_n 1, 1) := by decide +kernel
theorem dX10_refusesHold_39 : decode cX10_refusesHold 39 = .ok (.iconst 1, 1) := by decide +kernel
theorem dX10_refusesHold_40 : decode cX10_refusesHold 40 = .ok (.if_icmp .ne 9, 3) := by decide +kernel
theorem dX10_refusesHold_43 : decode cX10_refusesHold 43 = .ok (.sipush 200, 3) := by decide +kernel
theorem dX10_refusesHold_46 : decode cX10_refusesHold 46 = .ok (.goto 5, 3) := by decide +kernel
theorem dX10_refusesHold_49 : decode cX10_refusesHold 49 = .ok (.bipush 48, 2) := by decide +kernel
theorem dX10_refusesHold_51 : decode cX10_refusesHold 51 = .ok (.invokestatic 83, 3) := by decide +kernel
theorem dX10_refusesHold_54 : decode cX10_refusesHold 54 = .ok (.ifCond .ne 5, 3) := by decide +kernel
theorem dX10_refusesHold_57 : decode cX10_refusesHold 57 = .ok (.iconst (-1), 1) := by decide +kernel
theorem dX10_refusesHold_58 : decode cX10_refusesHold 58 = .ok (.ireturn, 1) := by decide +kernel
theorem dX10_refusesHold_59 : decode cX10_refusesHold 59 = .ok (.aload_n 0, 1) := by decide +kernel
theorem dX10_refusesHold_60 : decode cX10_refusesHold 60 = .ok (.getfield 9, 3) := by decide +kernel
theorem dX10_refusesHold_63 : decode cX10_refusesHold 63 = .ok (.bipush 37, 2) := by decide +kernel
theorem dX10_refusesHold_65 : decode cX10_refusesHold 65 = .ok (.iload_n 1, 1) := by decide +kernel
theorem dX10_refusesHold_66 : decode cX10_refusesHold 66 = .ok (.iadd, 1) := by decide +kernel
theorem dX10_refusesHold_67 : decode cX10_refusesHold 67 = .ok (.iaload, 1) := by decide +kernel
theorem dX10_refusesHold_68 : decode cX10_refusesHold 68 = .ok (.iload_n 2, 1) := by decide +kernel
theorem dX10_refusesHold_69 : decode cX10_refusesHold 69 = .ok (.if_icmp .ne 8, 3) := by decide +kernel
theorem dX10_refusesHold_72 : decode cX10_refusesHold 72 = .ok (.bipush (-2), 2) := by decide +kernel
theorem dX10_refusesHold_74 : decode cX10_refusesHold 74 = .ok (.goto 4, 3) := by decide +kernel
theorem dX10_refusesHold_77 : decode cX10_refusesHold 77 = .ok (.iconst 0, 1) := by decide +kernel
theorem dX10_refusesHold_78 : decode cX10_refusesHold 78 = .ok (.ireturn, 1) := by decide +kernel
set_option maxHeartbeats 4000000 in
set_option maxRecDepth 100000 in
theorem c_Model_refusesHold (l : Launch) (G : fm_G) (M : fm_M) (v1 : Int32) (v2 : Int32) (r : Int32) (hf : pModel_refusesHold M v1 v2 = some r) : fm_Met l yX10_refusesHold cX10_refusesHold 3 (some .int) { frames := 1, cells := 0, slots := 0, locals := 22 } shM G [.ref (G.2.1 0), .int v1, .int v2] M (some (.int r)) M := by
  refine fm_enter (by decide) (Nat.le_of_ble_eq_true rfl) ?_
  intro p e s m args below meth c ls C E hl
  have hl : lv_has ls 3 [(0, .ref (G.2.1 0)), (1, .int v1), (2, .int v2)] := hl
  have J51 : ∀ (v1 : Int32) (v2 : Int32) (s0 : Int32) (s1 : Int32) (s2 : Int32) (H : Heap) (locs : List Loc) (ls : Array Slot), fm_Wd shM G M s H locs → lv_has ls 3 [(0, .ref (G.2.1 0)), (1, .int v1), (2, .int v2)] → pModel_refusesHold_J51 M v1 v2 s0 s1 s2 = some r → W p l e { frames := 1, cells := 0, slots := 0, locals := 22 } s m args below meth c H locs 0 0 (fm_Z below shM G args s (some (.int r)) M) (F0 m 51 ls [.int s2, .int s1, .int s0]) := by
    intro v1 v2 s0 s1 s2 H locs ls E hl hf
    unfold pModel_refusesHold_J51 at hf
    obtain ⟨x51, hc51, hf⟩ := fm_bd hf
    refine fm_callS C E [.int _, .int _, .int _] [] lm_X10_83 wk_X10_in (c_Model_in l G _ _ _ _ _  hc51) rfl hl.1 (by simp [Value.category]) ⟨⟨rfl, rfl⟩, by decide, by decide⟩ ⟨by decide, by decide⟩ dX10_refusesHold_51 rfl (fun H locs E => ?_)
    refine W.eq (g2 := F0 m 54 ls (.int x51 :: [])) rfl ?_
    refine lv_if_ne (tgt := 59) C.1 C.2.1 dX10_refusesHold_54 (by decide) (fun hc54 => ?_) (fun hc54 => ?_)
    · have hf := fm_in' hf hc54
      refine lv_aload_n C.1 C.2.1 dX10_refusesHold_59 rfl (lv_at hl 0 rfl) ?_
      refine fm_getr C E lf_X10_9 hM_0 rfl dX10_refusesHold_60 ?_
      refine lv_bipush (v := 37) C.1 C.2.1 dX10_refusesHold_63 (by decide) ?_
      refine lv_iload_n C.1 C.2.1 dX10_refusesHold_65 rfl (lv_at hl 1 rfl) ?_
      refine lv_iadd C.1 C.2.1 dX10_refusesHold_66 ?_
      obtain ⟨h67, x67, e67, hf⟩ := fm_ld_e hf
      refine fm_iald' C E e67 hM_1 h67 dX10_refusesHold_67 ?_
      refine lv_iload_n C.1 C.2.1 dX10_refusesHold_68 rfl (lv_at hl 2 rfl) ?_
      refine lv_icmp_ne (tgt := 77) C.1 C.2.1 dX10_refusesHold_69 (by decide) (fun hc69 => ?_) (fun hc69 => ?_)
      · have hf := fm_in' hf hc69
        refine lv_iconst (v := 0) C.1 C.2.1 dX10_refusesHold_77 (by decide) ?_
        obtain rfl := fm_rt1 hf
        exact fm_iret C E rfl rfl dX10_refusesHold_78
      · have hf := fm_ip hf hc69
        refine lv_bipush (v := (-2)) C.1 C.2.1 dX10_refusesHold_72 (by decide) ?_
        refine lv_goto (tgt := 78) C.1 C.2.1 dX10_refusesHold_74 (by decide) ?_
        obtain rfl := fm_rt1 hf
        exact fm_iret C E rfl rfl dX10_refusesHold_78
    · have hf := fm_ip hf hc54
      refine lv_iconst (v := (-1)) C.1 C.2.1 dX10_refusesHold_57 (by decide) ?_
      obtain rfl := fm_rt1 hf
      exact fm_iret C E rfl rfl dX10_refusesHold_58
  have J28 : ∀ (v1 : Int32) (v2 : Int32) (s0 : Int32) (s1 : Int32) (H : Heap) (locs : List Loc) (ls : Array Slot), fm_Wd shM G M s H locs → lv_has ls 3 [(0, .ref (G.2.1 0)), (1, .int v1), (2, .int v2)] → pModel_refusesHold_J28 M v1 v2 s0 s1 = some r → W p l e { frames := 1, cells := 0, slots := 0, locals := 22 } s m args below meth c H locs 0 0 (fm_Z below shM G args s (some (.int r)) M) (F0 m 28 ls [.int s1, .int s0]) := by
    intro v1 v2 s0 s1 H locs ls E hl hf
    unfold pModel_refusesHold_J28 at hf
    refine lv_iload_n C.1 C.2.1 dX10_refusesHold_28 rfl (lv_at hl 1 rfl) ?_
    refine lv_if_ne (tgt := 38) C.1 C.2.1 dX10_refusesHold_29 (by decide) (fun hc29 => ?_) (fun hc29 => ?_)
    · have hf := fm_in' hf hc29
      refine lv_iload_n C.1 C.2.1 dX10_refusesHold_38 rfl (lv_at hl 1 rfl) ?_
      refine lv_iconst (v := 1) C.1 C.2.1 dX10_refusesHold_39 (by decide) ?_
      refine lv_icmp_ne (tgt := 49) C.1 C.2.1 dX10_refusesHold_40 (by decide) (fun hc40 => ?_) (fun hc40 => ?_)
      · have hf := fm_in' hf hc40
        refine lv_bipush (v := 48) C.1 C.2.1 dX10_refusesHold_49 (by decide) ?_
        exact J51 _ _ _ _ _ _ _ _ E (lv_sub hl [0, 1, 2] rfl) hf
      · have hf := fm_ip hf hc40
        refine lv_sipush (v := 200) C.1 C.2.1 dX10_refusesHold_43 (by decide) ?_
        refine lv_goto (tgt := 51) C.1 C.2.1 dX10_refusesHold_46 (by decide) ?_
        exact J51 _ _ _ _ _ _ _ _ E (lv_sub hl [0, 1, 2] rfl) hf
    · have hf := fm_ip hf hc29
      refine lv_sipush (v := 9999) C.1 C.2.1 dX10_refusesHold_32 (by decide) ?_
      refine lv_goto (tgt := 51) C.1 C.2.1 dX10_refusesHold_35 (by decide) ?_
      exact J51 _ _ _ _ _ _ _ _ E (lv_sub hl [0, 1, 2] rfl) hf
  unfold pModel_refusesHold at hf
  refine lv_iload_n C.1 C.2.1 dX10_refusesHold_0 rfl (lv_at hl 1 rfl) ?_
  refine lv_iconst (v := 0) C.1 C.2.1 dX10_refusesHold_1 (by decide) ?_
  refine lv_iconst (v := 2) C.1 C.2.1 dX10_refusesHold_2 (by decide) ?_
  obtain ⟨x3, hc3, hf⟩ := fm_bd hf
  refine fm_callS C E [.int _, .int _, .int _] [] lm_X10_83 wk_X10_in (c_Model_in l G _ _ _ _ _  hc3) rfl hl.1 (by simp [Value.category]) ⟨⟨rfl, rfl⟩, by decide, by decide⟩ ⟨by decide, by decide⟩ dX10_refusesHold_3 rfl (fun H locs E => ?_)
  refine W.eq (g2 := F0 m 6 ls (.int x3 :: [])) rfl ?_
  refine lv_if_eq (tgt := 57) C.1 C.2.1 dX10_refusesHold_6 (by decide) (fun hc6 => ?_) (fun hc6 => ?_)
  · have hf := fm_ip hf hc6
    refine lv_iconst (v := (-1)) C.1 C.2.1 dX10_refusesHold_57 (by decide) ?_
    obtain rfl := fm_rt1 hf
    exact fm_iret C E rfl rfl dX10_refusesHold_58
  · have hf := fm_in' hf hc6
    refine lv_iload_n C.1 C.2.1 dX10_refusesHold_9 rfl (lv_at hl 2 rfl) ?_
    refine lv_iload_n C.1 C.2.1 dX10_refusesHold_10 rfl (lv_at hl 1 rfl) ?_
    refine lv_if_ne (tgt := 18) C.1 C.2.1 dX10_refusesHold_11 (by decide) (fun hc11 => ?_) (fun hc11 => ?_)
    · have hf := fm_in' hf hc11
      refine lv_iload_n C.1 C.2.1 dX10_refusesHold_18 rfl (lv_at hl 1 rfl) ?_
      refine lv_iconst (v := 1) C.1 C.2.1 dX10_refusesHold_19 (by decide) ?_
      refine lv_icmp_ne (tgt := 27) C.1 C.2.1 dX10_refusesHold_20 (by decide) (fun hc20 => ?_) (fun hc20 => ?_)
      · have hf := fm_in' hf hc20
        refine lv_iconst (v := 4) C.1 C.2.1 dX10_refusesHold_27 (by decide) ?_
        exact J28 _ _ _ _ _ _ _ E (lv_sub hl [0, 1, 2] rfl) hf
      · have hf := fm_ip hf hc20
        refine lv_iconst (v := 0) C.1 C.2.1 dX10_refusesHold_23 (by decide) ?_
        refine lv_goto (tgt := 28) C.1 C.2.1 dX10_refusesHold_24 (by decide) ?_
        exact J28 _ _ _ _ _ _ _ E (lv_sub hl [0, 1, 2] rfl) hf
    · have hf := fm_ip hf hc11
      refine lv_iconst (v := 1) C.1 C.2.1 dX10_refusesHold_14 (by decide) ?_
      refine lv_goto (tgt := 28) C.1 C.2.1 dX10_refusesHold_15 (by decide) ?_
      exact J28 _ _ _ _ _ _ _ E (lv_sub hl [0, 1, 2] rfl) hf
theorem dX10_holds_0 : decode cX10_holds 0 = .ok (.aload_n 0, 1) := by decide +kernel
theorem dX10_holds_1 : decode cX10_holds 1 = .ok (.iconst 0, 1) := by decide +kernel
theorem dX10_holds_2 : decode cX10_holds 2 = .ok (.putfield 77, 3) := by decide +kernel
theorem dX10_holds_5 : decode cX10_holds 5 = .ok (.aload_n 0, 1) := by decide +kernel
theorem dX10_holds_6 : decode cX10_holds 6 = .ok (.iload_n 1, 1) := by decide +kernel
theorem dX10_holds_7 : decode cX10_holds 7 = .ok (.iload_n 2, 1) := by decide +kernel
theorem dX10_holds_8 : decode cX10_holds 8 = .ok (.invokevirtual 303, 3) := by decide +kernel
theorem dX10_holds_11 : decode cX10_holds 11 = .ok (.istore_n 3, 1) := by decide +kernel
theorem dX10_holds_12 : decode cX10_holds 12 = .ok (.iload_n 3, 1) := by decide +kernel
theorem dX10_holds_13 : decode cX10_holds 13 = .ok (.ifCond .ge 5, 3) := by decide +kernel
theorem dX10_holds_16 : decode cX10_holds 16 = .ok (.iload_n 3, 1) := by decide +kernel
theorem dX10_holds_17 : decode cX10_holds 17 = .ok (.ireturn, 1) := by decide +kernel
theorem dX10_holds_18 : decode cX10_holds 18 = .ok (.aload_n 0, 1) := by decide +kernel
theorem dX10_holds_19 : decode cX10_holds 19 = .ok (.invokevirtual 132, 3) := by decide +kernel
theorem dX10_holds_22 : decode cX10_holds 22 = .ok (.aload_n 0, 1) := by decide +kernel
theorem dX10_holds_23 : decode cX10_holds 23 = .ok (.getfield 9, 3) := by decide +kernel
theorem dX10_holds_26 : decode cX10_holds 26 = .ok (.bipush 37, 2) := by decide +kernel
theorem dX10_holds_28 : decode cX10_holds 28 = .ok (.iload_n 1, 1) := by decide +kernel
theorem dX10_holds_29 : decode cX10_holds 29 = .ok (.iadd, 1) := by decide +kernel
theorem dX10_holds_30 : decode cX10_holds 30 = .ok (.iaload, 1) := by decide +kernel
theorem dX10_holds_31 : decode cX10_holds 31 = .ok (.istore 4, 2) := by decide +kernel
theorem dX10_holds_33 : decode cX10_holds 33 = .ok (.aload_n 0, 1) := by decide +kernel
theorem dX10_holds_34 : decode cX10_holds 34 = .ok (.getfield 9, 3) := by decide +kernel
theorem dX10_holds_37 : decode cX10_holds 37 = .ok (.bipush 37, 2) := by decide +kernel
theorem dX10_holds_39 : decode cX10_holds 39 = .ok (.iload_n 1, 1) := by decide +kernel
theorem dX10_holds_40 : decode cX10_holds 40 = .ok (.iadd, 1) := by decide +kernel
theorem dX10_holds_41 : decode cX10_holds 41 = .ok (.iload_n 2, 1) := by decide +kernel
theorem dX10_holds_42 : decode cX10_holds 42 = .ok (.iastore, 1) := by decide +kernel
theorem dX10_holds_43 : decode cX10_holds 43 = .ok (.iload 4, 2) := by decide +kernel
theorem dX10_holds_45 : decode cX10_holds 45 = .ok (.ireturn, 1) := by decide +kernel
set_option maxHeartbeats 4000000 in
set_option maxRecDepth 100000 in
theorem c_Model_holds (l : Launch) (G : fm_G) (N : Nat) (M : fm_M) (v1 : Int32) (v2 : Int32) (r : Int32) (M' : fm_M) (hf : pModel_holds N M v1 v2 = some (r, M')) : fm_Met l yX10_holds cX10_holds 5 (some .int) { frames := 2, cells := 0, slots := 0, locals := 44 } shM G [.ref (G.2.1 0), .int v1, .int v2] M (some (.int r)) M' := by
  refine fm_enter (by decide) (Nat.le_of_ble_eq_true rfl) ?_
  intro p e s m args below meth c ls C E hl
  have hl : lv_has ls 5 [(0, .ref (G.2.1 0)), (1, .int v1), (2, .int v2)] := hl
  unfold pModel_holds at hf
  refine lv_aload_n C.1 C.2.1 dX10_holds_0 rfl (lv_at hl 0 rfl) ?_
  refine lv_iconst (v := 0) C.1 C.2.1 dX10_holds_1 (by decide) ?_
  obtain ⟨M2, e2, hf⟩ := fm_pt_s hf
  refine fm_put' C E e2 lp_X10_77 hM_0 rfl dX10_holds_2 (fun H locs E => ?_)
  refine lv_aload_n C.1 C.2.1 dX10_holds_5 rfl (lv_at hl 0 rfl) ?_
  refine lv_iload_n C.1 C.2.1 dX10_holds_6 rfl (lv_at hl 1 rfl) ?_
  refine lv_iload_n C.1 C.2.1 dX10_holds_7 rfl (lv_at hl 2 rfl) ?_
  obtain ⟨x8, hc8, hf⟩ := fm_bd hf
  refine fm_callV C E [.int _, .int _] [] lm_X10_303 wk_X10_refusesHold (c_Model_refusesHold l G _ _ _ _  hc8) hM_0 rfl rfl rfl hl.1 (by simp [Value.category]) ⟨⟨rfl, rfl⟩, by decide, by decide⟩ ⟨by decide, by decide⟩ dX10_holds_8 rfl (fun H locs E => ?_)
  refine W.eq (g2 := F0 m 11 ls (.int x8 :: [])) rfl ?_
  refine lv_istore_n (lv' := [(3, .int _), (0, .ref _), (1, .int _), (2, .int _)]) C.1 C.2.1 dX10_holds_11 rfl hl (by decide) rfl (fun ls hl => ?_)
  refine lv_iload_n C.1 C.2.1 dX10_holds_12 rfl (lv_at hl 0 rfl) ?_
  refine lv_if_ge (tgt := 18) C.1 C.2.1 dX10_holds_13 (by decide) (fun hc13 => ?_) (fun hc13 => ?_)
  · have hf := fm_ip hf hc13
    refine lv_aload_n C.1 C.2.1 dX10_holds_18 rfl (lv_at hl 1 rfl) ?_
    obtain ⟨M19, hc19, hf⟩ := fm_bd hf
    refine fm_callV C E [] [] lm_X10_132 wk_X10_change (c_Model_change l G N _ _ hc19) hM_0 rfl rfl rfl hl.1 (by simp [Value.category]) ⟨⟨rfl, rfl⟩, by decide, by decide⟩ ⟨by decide, by decide⟩ dX10_holds_19 rfl (fun H locs E => ?_)
    refine W.eq (g2 := F0 m 22 ls []) rfl ?_
    refine lv_aload_n C.1 C.2.1 dX10_holds_22 rfl (lv_at hl 1 rfl) ?_
    refine fm_getr C E lf_X10_9 hM_0 rfl dX10_holds_23 ?_
    refine lv_bipush (v := 37) C.1 C.2.1 dX10_holds_26 (by decide) ?_
    refine lv_iload_n C.1 C.2.1 dX10_holds_28 rfl (lv_at hl 2 rfl) ?_
    refine lv_iadd C.1 C.2.1 dX10_holds_29 ?_
    obtain ⟨h30, x30, e30, hf⟩ := fm_ld_e hf
    refine fm_iald' C E e30 hM_1 h30 dX10_holds_30 ?_
    refine lv_istore (lv' := [(4, .int _), (3, .int _), (0, .ref _), (1, .int _), (2, .int _)]) C.1 C.2.1 dX10_holds_31 hl (by decide) rfl (fun ls hl => ?_)
    refine lv_aload_n C.1 C.2.1 dX10_holds_33 rfl (lv_at hl 2 rfl) ?_
    refine fm_getr C E lf_X10_9 hM_0 rfl dX10_holds_34 ?_
    refine lv_bipush (v := 37) C.1 C.2.1 dX10_holds_37 (by decide) ?_
    refine lv_iload_n C.1 C.2.1 dX10_holds_39 rfl (lv_at hl 3 rfl) ?_
    refine lv_iadd C.1 C.2.1 dX10_holds_40 ?_
    refine lv_iload_n C.1 C.2.1 dX10_holds_41 rfl (lv_at hl 4 rfl) ?_
    obtain ⟨h42, M42, e42, hf⟩ := fm_st_e hf
    refine fm_iast' C E e42 hM_1 h42 dX10_holds_42 (fun H locs E => ?_)
    refine lv_iload C.1 C.2.1 dX10_holds_43 (lv_at hl 0 rfl) ?_
    obtain ⟨rfl, rfl⟩ := fm_rt2 hf
    exact fm_iret C E rfl rfl dX10_holds_45
  · have hf := fm_in' hf hc13
    refine lv_iload_n C.1 C.2.1 dX10_holds_16 rfl (lv_at hl 0 rfl) ?_
    obtain ⟨rfl, rfl⟩ := fm_rt2 hf
    exact fm_iret C E rfl rfl dX10_holds_17
theorem dX10_moves_0 : decode cX10_moves 0 = .ok (.aload_n 0, 1) := by decide +kernel
theorem dX10_moves_1 : decode cX10_moves 1 = .ok (.iconst 0, 1) := by decide +kernel
theorem dX10_moves_2 : decode cX10_moves 2 = .ok (.putfield 77, 3) := by decide +kernel
theorem dX10_moves_5 : decode cX10_moves 5 = .ok (.aload_n 0, 1) := by decide +kernel
theorem dX10_moves_6 : decode cX10_moves 6 = .ok (.iload_n 1, 1) := by decide +kernel
theorem dX10_moves_7 : decode cX10_moves 7 = .ok (.invokevirtual 153, 3) := by decide +kernel
theorem dX10_moves_10 : decode cX10_moves 10 = .ok (.ifCond .eq 16, 3) := by decide +kernel
theorem dX10_moves_13 : decode cX10_moves 13 = .ok (.iload_n 2, 1) := by decide +kernel
theorem dX10_moves_14 : decode cX10_moves 14 = .ok (.iconst 0, 1) := by decide +kernel
theorem dX10_moves_15 : decode cX10_moves 15 = .ok (.getstatic 122, 3) := by decide +kernel
theorem dX10_moves_18 : decode cX10_moves 18 = .ok (.iconst 0, 1) := by decide +kernel
theorem dX10_moves_19 : decode cX10_moves 19 = .ok (.iaload, 1) := by decide +kernel
theorem dX10_moves_20 : decode cX10_moves 20 = .ok (.invokestatic 83, 3) := by decide +kernel
theorem dX10_moves_23 : decode cX10_moves 23 = .ok (.ifCond .ne 5, 3) := by decide +kernel
theorem dX10_moves_26 : decode cX10_moves 26 = .ok (.iconst (-1), 1) := by decide +kernel
theorem dX10_moves_27 : decode cX10_moves 27 = .ok (.ireturn, 1) := by decide +kernel
theorem dX10_moves_28 : decode cX10_moves 28 = .ok (.aload_n 0, 1) := by decide +kernel
theorem dX10_moves_29 : decode cX10_moves 29 = .ok (.iload_n 1, 1) := by decide +kernel
theorem dX10_moves_30 : decode cX10_moves 30 = .ok (.iconst 0, 1) := by decide +kernel
theorem dX10_moves_31 : decode cX10_moves 31 = .ok (.invokevirtual 150, 3) := by decide +kernel
theorem dX10_moves_34 : decode cX10_moves 34 = .ok (.istore_n 3, 1) := by decide +kernel
theorem dX10_moves_35 : decode cX10_moves 35 = .ok (.iload_n 3, 1) := by decide +kernel
theorem dX10_moves_36 : decode cX10_moves 36 = .ok (.iload_n 2, 1) := by decide +kernel
theorem dX10_moves_37 : decode cX10_moves 37 = .ok (.if_icmp .ne 6, 3) := by decide +kernel
theorem dX10_moves_40 : decode cX10_moves 40 = .ok (.bipush (-2), 2) := by decide +kernel
theorem dX10_moves_42 : decode cX10_moves 42 = .ok (.ireturn, 1) := by decide +kernel
theorem dX10_moves_43 : decode cX10_moves 43 = .ok (.iload_n 1, 1) := by decide +kernel
theorem dX10_moves_44 : decode cX10_moves 44 = .ok (.ifCond .le 15, 3) := by decide +kernel
theorem dX10_moves_47 : decode cX10_moves 47 = .ok (.iload_n 2, 1) := by decide +kernel
theorem dX10_moves_48 : decode cX10_moves 48 = .ok (.aload_n 0, 1) := by decide +kernel
theorem dX10_moves_49 : decode cX10_moves 49 = .ok (.iload_n 1, 1) := by decide +kernel
theorem dX10_moves_50 : decode cX10_moves 50 = .ok (.iconst 1, 1) := by decide +kernel
theorem dX10_moves_51 : decode cX10_moves 51 = .ok (.isub, 1) := by decide +kernel
theorem dX10_moves_52 : decode cX10_moves 52 = .ok (.iconst 0, 1) := by decide +kernel
theorem dX10_moves_53 : decode cX10_moves 53 = .ok (.invokevirtual 150, 3) := by decide +kernel
theorem dX10_moves_56 : decode cX10_moves 56 = .ok (.if_icmp .le 27, 3) := by decide +kernel
theorem dX10_moves_59 : decode cX10_moves 59 = .ok (.iload_n 1, 1) := by decide +kernel
theorem dX10_moves_60 : decode cX10_moves 60 = .ok (.iconst 1, 1) := by decide +kernel
theorem dX10_moves_61 : decode cX10_moves 61 = .ok (.iadd, 1) := by decide +kernel
theorem dX10_moves_62 : decode cX10_moves 62 = .ok (.aload_n 0, 1) := by decide +kernel
theorem dX10_moves_63 : decode cX10_moves 63 = .ok (.getfield 9, 3) := by decide +kernel
theorem dX10_moves_66 : decode cX10_moves 66 = .ok (.iconst 0, 1) := by decide +kernel
theorem dX10_moves_67 : decode cX10_moves 67 = .ok (.iaload, 1) := by decide +kernel
theorem dX10_moves_68 : decode cX10_moves 68 = .ok (.if_icmp .ge 18, 3) := by decide +kernel
theorem dX10_moves_71 : decode cX10_moves 71 = .ok (.iload_n 2, 1) := by decide +kernel
theorem dX10_moves_72 : decode cX10_moves 72 = .ok (.aload_n 0, 1) := by decide +kernel
theorem dX10_moves_73 : decode cX10_moves 73 = .ok (.iload_n 1, 1) := by decide +kernel
theorem dX10_moves_74 : decode cX10_moves 74 = .ok (.iconst 1, 1) := by decide +kernel
theorem dX10_moves_75 : decode cX10_moves 75 = .ok (.iadd, 1) := by decide +kernel
theorem dX10_moves_76 : decode cX10_moves 76 = .ok (.iconst 0, 1) := by decide +kernel
theorem dX10_moves_77 : decode cX10_moves 77 = .ok (.invokevirtual 150, 3) := by decide +kernel
theorem dX10_moves_80 : decode cX10_moves 80 = .ok (.if_icmp .lt 6, 3) := by decide +kernel
theorem dX10_moves_83 : decode cX10_moves 83 = .ok (.bipush (-3), 2) := by decide +kernel
theorem dX10_moves_85 : decode cX10_moves 85 = .ok (.ireturn, 1) := by decide +kernel
theorem dX10_moves_86 : decode cX10_moves 86 = .ok (.aload_n 0, 1) := by decide +kernel
theorem dX10_moves_87 : decode cX10_moves 87 = .ok (.invokevirtual 132, 3) := by decide +kernel
theorem dX10_moves_90 : decode cX10_moves 90 = .ok (.aload_n 0, 1) := by decide +kernel
theorem dX10_moves_91 : decode cX10_moves 91 = .ok (.getfield 9, 3) := by decide +kernel
theorem dX10_moves_94 : decode cX10_moves 94 = .ok (.iconst 1, 1) := by decide +kernel
theorem dX10_moves_95 : decode cX10_moves 95 = .ok (.bipush 6, 2) := by decide +kernel
theorem dX10_moves_97 : decode cX10_moves 97 = .ok (.iload_n 1, 1) := by decide +kernel
theorem dX10_moves_98 : decode cX10_moves 98 = .ok (.imul, 1) := by decide +kernel
theorem dX10_moves_99 : decode cX10_moves 99 = .ok (.iadd, 1) := by decide +kernel
theorem dX10_moves_100 : decode cX10_moves 100 = .ok (.iconst 0, 1) := by decide +kernel
theorem dX10_moves_101 : decode cX10_moves 101 = .ok (.iadd, 1) := by decide +kernel
theorem dX10_moves_102 : decode cX10_moves 102 = .ok (.iload_n 2, 1) := by decide +kernel
theorem dX10_moves_103 : decode cX10_moves 103 = .ok (.iastore, 1) := by decide +kernel
theorem dX10_moves_104 : decode cX10_moves 104 = .ok (.iload_n 3, 1) := by decide +kernel
theorem dX10_moves_105 : decode cX10_moves 105 = .ok (.ireturn, 1) := by decide +kernel
set_option maxHeartbeats 4000000 in
set_option maxRecDepth 100000 in
theorem c_Model_moves (l : Launch) (G : fm_G) (N : Nat) (M : fm_M) (v1 : Int32) (v2 : Int32) (r : Int32) (M' : fm_M) (hf : pModel_moves N M v1 v2 = some (r, M')) : fm_Met l yX10_moves cX10_moves 4 (some .int) { frames := 2, cells := 0, slots := 0, locals := 43 } shM G [.ref (G.2.1 0), .int v1, .int v2] M (some (.int r)) M' := by
  refine fm_enter (by decide) (Nat.le_of_ble_eq_true rfl) ?_
  intro p e s m args below meth c ls C E hl
  have hl : lv_has ls 4 [(0, .ref (G.2.1 0)), (1, .int v1), (2, .int v2)] := hl
  have J86 : ∀ (M : fm_M) (v1 : Int32) (v2 : Int32) (v3 : Int32) (H : Heap) (locs : List Loc) (ls : Array Slot), fm_Wd shM G M s H locs → lv_has ls 4 [(0, .ref (G.2.1 0)), (1, .int v1), (2, .int v2), (3, .int v3)] → pModel_moves_J86 N M v1 v2 v3 = some (r, M') → W p l e { frames := 2, cells := 0, slots := 0, locals := 43 } s m args below meth c H locs 0 0 (fm_Z below shM G args s (some (.int r)) M') (F0 m 86 ls []) := by
    intro M v1 v2 v3 H locs ls E hl hf
    unfold pModel_moves_J86 at hf
    refine lv_aload_n C.1 C.2.1 dX10_moves_86 rfl (lv_at hl 0 rfl) ?_
    obtain ⟨M87, hc87, hf⟩ := fm_bd hf
    refine fm_callV C E [] [] lm_X10_132 wk_X10_change (c_Model_change l G N _ _ hc87) hM_0 rfl rfl rfl hl.1 (by simp [Value.category]) ⟨⟨rfl, rfl⟩, by decide, by decide⟩ ⟨by decide, by decide⟩ dX10_moves_87 rfl (fun H locs E => ?_)
    refine W.eq (g2 := F0 m 90 ls []) rfl ?_
    refine lv_aload_n C.1 C.2.1 dX10_moves_90 rfl (lv_at hl 0 rfl) ?_
    refine fm_getr C E lf_X10_9 hM_0 rfl dX10_moves_91 ?_
    refine lv_iconst (v := 1) C.1 C.2.1 dX10_moves_94 (by decide) ?_
    refine lv_bipush (v := 6) C.1 C.2.1 dX10_moves_95 (by decide) ?_
    refine lv_iload_n C.1 C.2.1 dX10_moves_97 rfl (lv_at hl 1 rfl) ?_
    refine lv_imul C.1 C.2.1 dX10_moves_98 ?_
    refine lv_iadd C.1 C.2.1 dX10_moves_99 ?_
    refine lv_iconst (v := 0) C.1 C.2.1 dX10_moves_100 (by decide) ?_
    refine lv_iadd C.1 C.2.1 dX10_moves_101 ?_
    refine lv_iload_n C.1 C.2.1 dX10_moves_102 rfl (lv_at hl 2 rfl) ?_
    obtain ⟨h103, M103, e103, hf⟩ := fm_st_e hf
    refine fm_iast' C E e103 hM_1 h103 dX10_moves_103 (fun H locs E => ?_)
    refine lv_iload_n C.1 C.2.1 dX10_moves_104 rfl (lv_at hl 3 rfl) ?_
    obtain ⟨rfl, rfl⟩ := fm_rt2 hf
    exact fm_iret C E rfl rfl dX10_moves_105
  have J59 : ∀ (M : fm_M) (v1 : Int32) (v2 : Int32) (v3 : Int32) (H : Heap) (locs : List Loc) (ls : Array Slot), fm_Wd shM G M s H locs → lv_has ls 4 [(0, .ref (G.2.1 0)), (1, .int v1), (2, .int v2), (3, .int v3)] → pModel_moves_J59 N M v1 v2 v3 = some (r, M') → W p l e { frames := 2, cells := 0, slots := 0, locals := 43 } s m args below meth c H locs 0 0 (fm_Z below shM G args s (some (.int r)) M') (F0 m 59 ls []) := by
    intro M v1 v2 v3 H locs ls E hl hf
    unfold pModel_moves_J59 at hf
    refine lv_iload_n C.1 C.2.1 dX10_moves_59 rfl (lv_at hl 1 rfl) ?_
    refine lv_iconst (v := 1) C.1 C.2.1 dX10_moves_60 (by decide) ?_
    refine lv_iadd C.1 C.2.1 dX10_moves_61 ?_
    refine lv_aload_n C.1 C.2.1 dX10_moves_62 rfl (lv_at hl 0 rfl) ?_
    refine fm_getr C E lf_X10_9 hM_0 rfl dX10_moves_63 ?_
    refine lv_iconst (v := 0) C.1 C.2.1 dX10_moves_66 (by decide) ?_
    refine fm_ialdc C E 0 (by decide) hM_1 (by decide) dX10_moves_67 ?_
    refine lv_icmp_ge (tgt := 86) C.1 C.2.1 dX10_moves_68 (by decide) (fun hc68 => ?_) (fun hc68 => ?_)
    · have hf := fm_ip hf hc68
      exact J86 _ _ _ _ _ _ _ E (lv_sub hl [0, 1, 2, 3] rfl) hf
    · have hf := fm_in' hf hc68
      refine lv_iload_n C.1 C.2.1 dX10_moves_71 rfl (lv_at hl 2 rfl) ?_
      refine lv_aload_n C.1 C.2.1 dX10_moves_72 rfl (lv_at hl 0 rfl) ?_
      refine lv_iload_n C.1 C.2.1 dX10_moves_73 rfl (lv_at hl 1 rfl) ?_
      refine lv_iconst (v := 1) C.1 C.2.1 dX10_moves_74 (by decide) ?_
      refine lv_iadd C.1 C.2.1 dX10_moves_75 ?_
      refine lv_iconst (v := 0) C.1 C.2.1 dX10_moves_76 (by decide) ?_
      obtain ⟨x77, hc77, hf⟩ := fm_bd hf
      refine fm_callV C E [.int _, .int _] [.int _] lm_X10_150 wk_X10_of (c_Model_of l G _ _ _ _  hc77) hM_0 rfl rfl rfl hl.1 (by simp [Value.category]) ⟨⟨rfl, rfl⟩, by decide, by decide⟩ ⟨by decide, by decide⟩ dX10_moves_77 rfl (fun H locs E => ?_)
      refine W.eq (g2 := F0 m 80 ls (.int x77 :: [.int _])) rfl ?_
      refine lv_icmp_lt (tgt := 86) C.1 C.2.1 dX10_moves_80 (by decide) (fun hc80 => ?_) (fun hc80 => ?_)
      · have hf := fm_ip hf hc80
        exact J86 _ _ _ _ _ _ _ E (lv_sub hl [0, 1, 2, 3] rfl) hf
      · have hf := fm_in' hf hc80
        refine lv_bipush (v := (-3)) C.1 C.2.1 dX10_moves_83 (by decide) ?_
        obtain ⟨rfl, rfl⟩ := fm_rt2 hf
        exact fm_iret C E rfl rfl dX10_moves_85
  unfold pModel_moves at hf
  refine lv_aload_n C.1 C.2.1 dX10_moves_0 rfl (lv_at hl 0 rfl) ?_
  refine lv_iconst (v := 0) C.1 C.2.1 dX10_moves_1 (by decide) ?_
  obtain ⟨M2, e2, hf⟩ := fm_pt_s hf
  refine fm_put' C E e2 lp_X10_77 hM_0 rfl dX10_moves_2 (fun H locs E => ?_)
  refine lv_aload_n C.1 C.2.1 dX10_moves_5 rfl (lv_at hl 0 rfl) ?_
  refine lv_iload_n C.1 C.2.1 dX10_moves_6 rfl (lv_at hl 1 rfl) ?_
  obtain ⟨x7, hc7, hf⟩ := fm_bd hf
  refine fm_callV C E [.int _] [] lm_X10_153 wk_X10_isMic (c_Model_isMic l G _ _ _  hc7) hM_0 rfl rfl rfl hl.1 (by simp [Value.category]) ⟨⟨rfl, rfl⟩, by decide, by decide⟩ ⟨by decide, by decide⟩ dX10_moves_7 rfl (fun H locs E => ?_)
  refine W.eq (g2 := F0 m 10 ls (.int x7 :: [])) rfl ?_
  refine lv_if_eq (tgt := 26) C.1 C.2.1 dX10_moves_10 (by decide) (fun hc10 => ?_) (fun hc10 => ?_)
  · have hf := fm_ip hf hc10
    refine lv_iconst (v := (-1)) C.1 C.2.1 dX10_moves_26 (by decide) ?_
    obtain ⟨rfl, rfl⟩ := fm_rt2 hf
    exact fm_iret C E rfl rfl dX10_moves_27
  · have hf := fm_in' hf hc10
    refine lv_iload_n C.1 C.2.1 dX10_moves_13 rfl (lv_at hl 2 rfl) ?_
    refine lv_iconst (v := 0) C.1 C.2.1 dX10_moves_14 (by decide) ?_
    refine fm_gets C E (List.mem_of_getElem? (l := fm_Zs) (i := 7) rfl) (Or.inl wf_1245) dX10_moves_15 (fun t15 hT15 => ?_)
    refine lv_iconst (v := 0) C.1 C.2.1 dX10_moves_18 (by decide) ?_
    refine fm_tldc C E hT15 40 (by decide) (by decide) dX10_moves_19 ?_
    obtain ⟨x20, hc20, hf⟩ := fm_bd hf
    refine fm_callS C E [.int _, .int _, .int _] [] lm_X10_83 wk_X10_in (c_Model_in l G _ _ _ _ _  hc20) rfl hl.1 (by simp [Value.category]) ⟨⟨rfl, rfl⟩, by decide, by decide⟩ ⟨by decide, by decide⟩ dX10_moves_20 rfl (fun H locs E => ?_)
    refine W.eq (g2 := F0 m 23 ls (.int x20 :: [])) rfl ?_
    refine lv_if_ne (tgt := 28) C.1 C.2.1 dX10_moves_23 (by decide) (fun hc23 => ?_) (fun hc23 => ?_)
    · have hf := fm_in' hf hc23
      refine lv_aload_n C.1 C.2.1 dX10_moves_28 rfl (lv_at hl 0 rfl) ?_
      refine lv_iload_n C.1 C.2.1 dX10_moves_29 rfl (lv_at hl 1 rfl) ?_
      refine lv_iconst (v := 0) C.1 C.2.1 dX10_moves_30 (by decide) ?_
      obtain ⟨x31, hc31, hf⟩ := fm_bd hf
      refine fm_callV C E [.int _, .int _] [] lm_X10_150 wk_X10_of (c_Model_of l G _ _ _ _  hc31) hM_0 rfl rfl rfl hl.1 (by simp [Value.category]) ⟨⟨rfl, rfl⟩, by decide, by decide⟩ ⟨by decide, by decide⟩ dX10_moves_31 rfl (fun H locs E => ?_)
      refine W.eq (g2 := F0 m 34 ls (.int x31 :: [])) rfl ?_
      refine lv_istore_n (lv' := [(3, .int _), (0, .ref _), (1, .int _), (2, .int _)]) C.1 C.2.1 dX10_moves_34 rfl hl (by decide) rfl (fun ls hl => ?_)
      refine lv_iload_n C.1 C.2.1 dX10_moves_35 rfl (lv_at hl 0 rfl) ?_
      refine lv_iload_n C.1 C.2.1 dX10_moves_36 rfl (lv_at hl 3 rfl) ?_
      refine lv_icmp_ne (tgt := 43) C.1 C.2.1 dX10_moves_37 (by decide) (fun hc37 => ?_) (fun hc37 => ?_)
      · have hf := fm_in' hf hc37
        refine lv_iload_n C.1 C.2.1 dX10_moves_43 rfl (lv_at hl 2 rfl) ?_
        refine lv_if_le (tgt := 59) C.1 C.2.1 dX10_moves_44 (by decide) (fun hc44 => ?_) (fun hc44 => ?_)
        · have hf := fm_ip hf hc44
          exact J59 _ _ _ _ _ _ _ E (lv_sub hl [1, 2, 3, 0] rfl) hf
        · have hf := fm_in' hf hc44
          refine lv_iload_n C.1 C.2.1 dX10_moves_47 rfl (lv_at hl 3 rfl) ?_
          refine lv_aload_n C.1 C.2.1 dX10_moves_48 rfl (lv_at hl 1 rfl) ?_
          refine lv_iload_n C.1 C.2.1 dX10_moves_49 rfl (lv_at hl 2 rfl) ?_
          refine lv_iconst (v := 1) C.1 C.2.1 dX10_moves_50 (by decide) ?_
          refine lv_isub C.1 C.2.1 dX10_moves_51 ?_
          refine lv_iconst (v := 0) C.1 C.2.1 dX10_moves_52 (by decide) ?_
          obtain ⟨x53, hc53, hf⟩ := fm_bd hf
          refine fm_callV C E [.int _, .int _] [.int _] lm_X10_150 wk_X10_of (c_Model_of l G _ _ _ _  hc53) hM_0 rfl rfl rfl hl.1 (by simp [Value.category]) ⟨⟨rfl, rfl⟩, by decide, by decide⟩ ⟨by decide, by decide⟩ dX10_moves_53 rfl (fun H locs E => ?_)
          refine W.eq (g2 := F0 m 56 ls (.int x53 :: [.int _])) rfl ?_
          refine lv_icmp_le (tgt := 83) C.1 C.2.1 dX10_moves_56 (by decide) (fun hc56 => ?_) (fun hc56 => ?_)
          · have hf := fm_ip hf hc56
            refine lv_bipush (v := (-3)) C.1 C.2.1 dX10_moves_83 (by decide) ?_
            obtain ⟨rfl, rfl⟩ := fm_rt2 hf
            exact fm_iret C E rfl rfl dX10_moves_85
          · have hf := fm_in' hf hc56
            exact J59 _ _ _ _ _ _ _ E (lv_sub hl [1, 2, 3, 0] rfl) hf
      · have hf := fm_ip hf hc37
        refine lv_bipush (v := (-2)) C.1 C.2.1 dX10_moves_40 (by decide) ?_
        obtain ⟨rfl, rfl⟩ := fm_rt2 hf
        exact fm_iret C E rfl rfl dX10_moves_42
    · have hf := fm_ip hf hc23
      refine lv_iconst (v := (-1)) C.1 C.2.1 dX10_moves_26 (by decide) ?_
      obtain ⟨rfl, rfl⟩ := fm_rt2 hf
      exact fm_iret C E rfl rfl dX10_moves_27
theorem dX10_goLearn_0 : decode cX10_goLearn 0 = .ok (.aload_n 0, 1) := by decide +kernel
theorem dX10_goLearn_1 : decode cX10_goLearn 1 = .ok (.invokevirtual 188, 3) := by decide +kernel
theorem dX10_goLearn_4 : decode cX10_goLearn 4 = .ok (.iconst 0, 1) := by decide +kernel
theorem dX10_goLearn_5 : decode cX10_goLearn 5 = .ok (.istore_n 1, 1) := by decide +kernel
theorem dX10_goLearn_6 : decode cX10_goLearn 6 = .ok (.iconst 0, 1) := by decide +kernel
theorem dX10_goLearn_7 : decode cX10_goLearn 7 = .ok (.istore_n 2, 1) := by decide +kernel
theorem dX10_goLearn_8 : decode cX10_goLearn 8 = .ok (.iconst 0, 1) := by decide +kernel
theorem dX10_goLearn_9 : decode cX10_goLearn 9 = .ok (.istore_n 3, 1) := by decide +kernel
theorem dX10_goLearn_10 : decode cX10_goLearn 10 = .ok (.iload_n 3, 1) := by decide +kernel
theorem dX10_goLearn_11 : decode cX10_goLearn 11 = .ok (.aload_n 0, 1) := by decide +kernel
theorem dX10_goLearn_12 : decode cX10_goLearn 12 = .ok (.getfield 9, 3) := by decide +kernel
theorem dX10_goLearn_15 : decode cX10_goLearn 15 = .ok (.iconst 0, 1) := by decide +kernel
theorem dX10_goLearn_16 : decode cX10_goLearn 16 = .ok (.iaload, 1) := by decide +kernel
theorem dX10_goLearn_17 : decode cX10_goLearn 17 = .ok (.if_icmp .ge 57, 3) := by decide +kernel
theorem dX10_goLearn_20 : decode cX10_goLearn 20 = .ok (.aload_n 0, 1) := by decide +kernel
theorem dX10_goLearn_21 : decode cX10_goLearn 21 = .ok (.iload_n 3, 1) := by decide +kernel
theorem dX10_goLearn_22 : decode cX10_goLearn 22 = .ok (.invokevirtual 242, 3) := by decide +kernel
theorem dX10_goLearn_25 : decode cX10_goLearn 25 = .ok (.aload_n 0, 1) := by decide +kernel
theorem dX10_goLearn_26 : decode cX10_goLearn 26 = .ok (.getfield 64, 3) := by decide +kernel
theorem dX10_goLearn_29 : decode cX10_goLearn 29 = .ok (.iload_n 3, 1) := by decide +kernel
theorem dX10_goLearn_30 : decode cX10_goLearn 30 = .ok (.aload_n 0, 1) := by decide +kernel
theorem dX10_goLearn_31 : decode cX10_goLearn 31 = .ok (.aload_n 0, 1) := by decide +kernel
theorem dX10_goLearn_32 : decode cX10_goLearn 32 = .ok (.getfield 49, 3) := by decide +kernel
theorem dX10_goLearn_35 : decode cX10_goLearn 35 = .ok (.invokevirtual 249, 3) := by decide +kernel
theorem dX10_goLearn_38 : decode cX10_goLearn 38 = .ok (.iastore, 1) := by decide +kernel
theorem dX10_goLearn_39 : decode cX10_goLearn 39 = .ok (.iload_n 1, 1) := by decide +kernel
theorem dX10_goLearn_40 : decode cX10_goLearn 40 = .ok (.aload_n 0, 1) := by decide +kernel
theorem dX10_goLearn_41 : decode cX10_goLearn 41 = .ok (.getfield 64, 3) := by decide +kernel
theorem dX10_goLearn_44 : decode cX10_goLearn 44 = .ok (.iload_n 3, 1) := by decide +kernel
theorem dX10_goLearn_45 : decode cX10_goLearn 45 = .ok (.iaload, 1) := by decide +kernel
theorem dX10_goLearn_46 : decode cX10_goLearn 46 = .ok (.invokestatic 147, 3) := by decide +kernel
theorem dX10_goLearn_49 : decode cX10_goLearn 49 = .ok (.istore_n 1, 1) := by decide +kernel
theorem dX10_goLearn_50 : decode cX10_goLearn 50 = .ok (.iload_n 2, 1) := by decide +kernel
theorem dX10_goLearn_51 : decode cX10_goLearn 51 = .ok (.ifCond .ne 11, 3) := by decide +kernel
theorem dX10_goLearn_54 : decode cX10_goLearn 54 = .ok (.aload_n 0, 1) := by decide +kernel
theorem dX10_goLearn_55 : decode cX10_goLearn 55 = .ok (.iload_n 3, 1) := by decide +kernel
theorem dX10_goLearn_56 : decode cX10_goLearn 56 = .ok (.invokevirtual 279, 3) := by decide +kernel
theorem dX10_goLearn_59 : decode cX10_goLearn 59 = .ok (.ifCond .ne 7, 3) := by decide +kernel
theorem dX10_goLearn_62 : decode cX10_goLearn 62 = .ok (.iconst 1, 1) := by decide +kernel
theorem dX10_goLearn_63 : decode cX10_goLearn 63 = .ok (.goto 4, 3) := by decide +kernel
theorem dX10_goLearn_66 : decode cX10_goLearn 66 = .ok (.iconst 0, 1) := by decide +kernel
theorem dX10_goLearn_67 : decode cX10_goLearn 67 = .ok (.istore_n 2, 1) := by decide +kernel
theorem dX10_goLearn_68 : decode cX10_goLearn 68 = .ok (.iinc 3 1, 3) := by decide +kernel
theorem dX10_goLearn_71 : decode cX10_goLearn 71 = .ok (.goto (-61), 3) := by decide +kernel
theorem dX10_goLearn_74 : decode cX10_goLearn 74 = .ok (.iload_n 2, 1) := by decide +kernel
theorem dX10_goLearn_75 : decode cX10_goLearn 75 = .ok (.ifCond .ne 6, 3) := by decide +kernel
theorem dX10_goLearn_78 : decode cX10_goLearn 78 = .ok (.bipush (-2), 2) := by decide +kernel
theorem dX10_goLearn_80 : decode cX10_goLearn 80 = .ok (.ireturn, 1) := by decide +kernel
theorem dX10_goLearn_81 : decode cX10_goLearn 81 = .ok (.iconst 0, 1) := by decide +kernel
theorem dX10_goLearn_82 : decode cX10_goLearn 82 = .ok (.istore_n 3, 1) := by decide +kernel
theorem dX10_goLearn_83 : decode cX10_goLearn 83 = .ok (.iconst 0, 1) := by decide +kernel
theorem dX10_goLearn_84 : decode cX10_goLearn 84 = .ok (.istore 4, 2) := by decide +kernel
theorem dX10_goLearn_86 : decode cX10_goLearn 86 = .ok (.iload 4, 2) := by decide +kernel
theorem dX10_goLearn_88 : decode cX10_goLearn 88 = .ok (.aload_n 0, 1) := by decide +kernel
theorem dX10_goLearn_89 : decode cX10_goLearn 89 = .ok (.getfield 9, 3) := by decide +kernel
theorem dX10_goLearn_92 : decode cX10_goLearn 92 = .ok (.iconst 0, 1) := by decide +kernel
theorem dX10_goLearn_93 : decode cX10_goLearn 93 = .ok (.iaload, 1) := by decide +kernel
theorem dX10_goLearn_94 : decode cX10_goLearn 94 = .ok (.if_icmp .ge 101, 3) := by decide +kernel
theorem dX10_goLearn_97 : decode cX10_goLearn 97 = .ok (.aload_n 0, 1) := by decide +kernel
theorem dX10_goLearn_98 : decode cX10_goLearn 98 = .ok (.iload 4, 2) := by decide +kernel
theorem dX10_goLearn_100 : decode cX10_goLearn 100 = .ok (.invokevirtual 279, 3) := by decide +kernel
theorem dX10_goLearn_103 : decode cX10_goLearn 103 = .ok (.ifCond .eq 6, 3) := by decide +kernel
theorem dX10_goLearn_106 : decode cX10_goLearn 106 = .ok (.goto 83, 3) := by decide +kernel
theorem dX10_goLearn_109 : decode cX10_goLearn 109 = .ok (.aload_n 0, 1) := by decide +kernel
theorem dX10_goLearn_110 : decode cX10_goLearn 110 = .ok (.getfield 64, 3) := by decide +kernel
theorem dX10_goLearn_113 : decode cX10_goLearn 113 = .ok (.iload 4, 2) := by decide +kernel
theorem dX10_goLearn_115 : decode cX10_goLearn 115 = .ok (.iaload, 1) := by decide +kernel
theorem dX10_goLearn_116 : decode cX10_goLearn 116 = .ok (.ifCond .ne 11, 3) := by decide +kernel
theorem dX10_goLearn_119 : decode cX10_goLearn 119 = .ok (.getstatic 122, 3) := by decide +kernel
theorem dX10_goLearn_122 : decode cX10_goLearn 122 = .ok (.iconst 3, 1) := by decide +kernel
theorem dX10_goLearn_123 : decode cX10_goLearn 123 = .ok (.iaload, 1) := by decide +kernel
theorem dX10_goLearn_124 : decode cX10_goLearn 124 = .ok (.goto 27, 3) := by decide +kernel
theorem dX10_goLearn_127 : decode cX10_goLearn 127 = .ok (.iconst 1, 1) := by decide +kernel
theorem dX10_goLearn_128 : decode cX10_goLearn 128 = .ok (.getstatic 122, 3) := by decide +kernel
theorem dX10_goLearn_131 : decode cX10_goLearn 131 = .ok (.iconst 3, 1) := by decide +kernel
theorem dX10_goLearn_132 : decode cX10_goLearn 132 = .ok (.iaload, 1) := by decide +kernel
theorem dX10_goLearn_133 : decode cX10_goLearn 133 = .ok (.bipush 100, 2) := by decide +kernel
theorem dX10_goLearn_135 : decode cX10_goLearn 135 = .ok (.iload_n 1, 1) := by decide +kernel
theorem dX10_goLearn_136 : decode cX10_goLearn 136 = .ok (.imul, 1) := by decide +kernel
theorem dX10_goLearn_137 : decode cX10_goLearn 137 = .ok (.aload_n 0, 1) := by decide +kernel
theorem dX10_goLearn_138 : decode cX10_goLearn 138 = .ok (.getfield 64, 3) := by decide +kernel
theorem dX10_goLearn_141 : decode cX10_goLearn 141 = .ok (.iload 4, 2) := by decide +kernel
theorem dX10_goLearn_143 : decode cX10_goLearn 143 = .ok (.iaload, 1) := by decide +kernel
theorem dX10_goLearn_144 : decode cX10_goLearn 144 = .ok (.idiv, 1) := by decide +kernel
theorem dX10_goLearn_145 : decode cX10_goLearn 145 = .ok (.invokestatic 141, 3) := by decide +kernel
theorem dX10_goLearn_148 : decode cX10_goLearn 148 = .ok (.invokestatic 147, 3) := by decide +kernel
theorem dX10_goLearn_151 : decode cX10_goLearn 151 = .ok (.istore 5, 2) := by decide +kernel
theorem dX10_goLearn_153 : decode cX10_goLearn 153 = .ok (.iload_n 3, 1) := by decide +kernel
theorem dX10_goLearn_154 : decode cX10_goLearn 154 = .ok (.aload_n 0, 1) := by decide +kernel
theorem dX10_goLearn_155 : decode cX10_goLearn 155 = .ok (.iload 4, 2) := by decide +kernel
theorem dX10_goLearn_157 : decode cX10_goLearn 157 = .ok (.iconst 3, 1) := by decide +kernel
theorem dX10_goLearn_158 : decode cX10_goLearn 158 = .ok (.invokevirtual 150, 3) := by decide +kernel
theorem dX10_goLearn_161 : decode cX10_goLearn 161 = .ok (.iload 5, 2) := by decide +kernel
theorem dX10_goLearn_163 : decode cX10_goLearn 163 = .ok (.if_icmp .eq 7, 3) := by decide +kernel
theorem dX10_goLearn_166 : decode cX10_goLearn 166 = .ok (.iconst 1, 1) := by decide +kernel
theorem dX10_goLearn_167 : decode cX10_goLearn 167 = .ok (.goto 4, 3) := by decide +kernel
theorem dX10_goLearn_170 : decode cX10_goLearn 170 = .ok (.iconst 0, 1) := by decide +kernel
theorem dX10_goLearn_171 : decode cX10_goLearn 171 = .ok (.iadd, 1) := by decide +kernel
theorem dX10_goLearn_172 : decode cX10_goLearn 172 = .ok (.istore_n 3, 1) := by decide +kernel
theorem dX10_goLearn_173 : decode cX10_goLearn 173 = .ok (.aload_n 0, 1) := by decide +kernel
theorem dX10_goLearn_174 : decode cX10_goLearn 174 = .ok (.getfield 9, 3) := by decide +kernel
theorem dX10_goLearn_177 : decode cX10_goLearn 177 = .ok (.iconst 1, 1) := by decide +kernel
theorem dX10_goLearn_178 : decode cX10_goLearn 178 = .ok (.bipush 6, 2) := by decide +kernel
theorem dX10_goLearn_180 : decode cX10_goLearn 180 = .ok (.iload 4, 2) := by decide +kernel
theorem dX10_goLearn_182 : decode cX10_goLearn 182 = .ok (.imul, 1) := by decide +kernel
theorem dX10_goLearn_183 : decode cX10_goLearn 183 = .ok (.iadd, 1) := by decide +kernel
theorem dX10_goLearn_184 : decode cX10_goLearn 184 = .ok (.iconst 3, 1) := by decide +kernel
theorem dX10_goLearn_185 : decode cX10_goLearn 185 = .ok (.iadd, 1) := by decide +kernel
theorem dX10_goLearn_186 : decode cX10_goLearn 186 = .ok (.iload 5, 2) := by decide +kernel
theorem dX10_goLearn_188 : decode cX10_goLearn 188 = .ok (.iastore, 1) := by decide +kernel
theorem dX10_goLearn_189 : decode cX10_goLearn 189 = .ok (.iinc 4 1, 3) := by decide +kernel
theorem dX10_goLearn_192 : decode cX10_goLearn 192 = .ok (.goto (-106), 3) := by decide +kernel
theorem dX10_goLearn_195 : decode cX10_goLearn 195 = .ok (.iload_n 3, 1) := by decide +kernel
theorem dX10_goLearn_196 : decode cX10_goLearn 196 = .ok (.ireturn, 1) := by decide +kernel
set_option maxHeartbeats 4000000 in
set_option maxRecDepth 100000 in
theorem c_Model_goLearn (l : Launch) (G : fm_G) (N : Nat) (M : fm_M) (r : Int32) (M' : fm_M) (hf : pModel_goLearn N M = some (r, M')) : fm_Met l yX10_goLearn cX10_goLearn 6 (some .int) { frames := 5, cells := 0, slots := 0, locals := 115 } shM G [.ref (G.2.1 0)] M (some (.int r)) M' := by
  refine fm_enter (by decide) (Nat.le_of_ble_eq_true rfl) ?_
  intro p e s m args below meth c ls C E hl
  have hl : lv_has ls 6 [(0, .ref (G.2.1 0))] := hl
  have L86 : ∀ (w86_v1 : Int32) (n86 : Nat) (v3 : Int32) (v4 : Int32) (M : fm_M) (H : Heap) (locs : List Loc) (ls : Array Slot), fm_Wd shM G M s H locs → lv_has ls 6 [(0, .ref (G.2.1 0)), (1, .int w86_v1), (3, .int v3), (4, .int v4)] → fm_lp (pModel_goLearn_L86 N w86_v1) n86 (v3, v4, M) = some (r, M') → W p l e { frames := 5, cells := 0, slots := 0, locals := 115 } s m args below meth c H locs 0 0 (fm_Z below shM G args s (some (.int r)) M') (F0 m 86 ls []) := by
    intro w86_v1 n86
    induction n86 with
    | zero => intro v3 v4 M H locs ls E hl hf; exact fm_lp_0 hf
    | succ n86 ih86 =>
      have J171 : ∀ (M : fm_M) (v4 : Int32) (v5 : Int32) (s0 : Int32) (s1 : Int32) (H : Heap) (locs : List Loc) (ls : Array Slot), fm_Wd shM G M s H locs → lv_has ls 6 [(0, .ref (G.2.1 0)), (1, .int w86_v1), (4, .int v4), (5, .int v5)] → pModel_goLearn_J171 N M w86_v1 v4 v5 (fm_lp (pModel_goLearn_L86 N w86_v1) n86) s0 s1 = some (r, M') → W p l e { frames := 5, cells := 0, slots := 0, locals := 115 } s m args below meth c H locs 0 0 (fm_Z below shM G args s (some (.int r)) M') (F0 m 171 ls [.int s1, .int s0]) := by
        intro M v4 v5 s0 s1 H locs ls E hl hf
        unfold pModel_goLearn_J171 at hf
        refine lv_iadd C.1 C.2.1 dX10_goLearn_171 ?_
        refine lv_istore_n (lv' := [(3, .int _), (0, .ref _), (1, .int _), (4, .int _), (5, .int _)]) C.1 C.2.1 dX10_goLearn_172 rfl hl (by decide) rfl (fun ls hl => ?_)
        refine lv_aload_n C.1 C.2.1 dX10_goLearn_173 rfl (lv_at hl 1 rfl) ?_
        refine fm_getr C E lf_X10_9 hM_0 rfl dX10_goLearn_174 ?_
        refine lv_iconst (v := 1) C.1 C.2.1 dX10_goLearn_177 (by decide) ?_
        refine lv_bipush (v := 6) C.1 C.2.1 dX10_goLearn_178 (by decide) ?_
        refine lv_iload C.1 C.2.1 dX10_goLearn_180 (lv_at hl 3 rfl) ?_
        refine lv_imul C.1 C.2.1 dX10_goLearn_182 ?_
        refine lv_iadd C.1 C.2.1 dX10_goLearn_183 ?_
        refine lv_iconst (v := 3) C.1 C.2.1 dX10_goLearn_184 (by decide) ?_
        refine lv_iadd C.1 C.2.1 dX10_goLearn_185 ?_
        refine lv_iload C.1 C.2.1 dX10_goLearn_186 (lv_at hl 4 rfl) ?_
        obtain ⟨h188, M188, e188, hf⟩ := fm_st_e hf
        refine fm_iast' C E e188 hM_1 h188 dX10_goLearn_188 (fun H locs E => ?_)
        refine fm_iinc C (v := 1) (lv' := [(4, .int _), (3, .int _), (0, .ref _), (1, .int _), (5, .int _)]) (k := 3) hl rfl (by decide) (by decide) rfl dX10_goLearn_189 (fun ls hl => ?_)
        refine lv_goto (tgt := 86) C.1 C.2.1 dX10_goLearn_192 (by decide) ?_
        exact ih86 _ _ _ _ _ _ E (lv_sub hl [2, 3, 1, 0] rfl) hf
      have J151 : ∀ (M : fm_M) (v3 : Int32) (v4 : Int32) (s0 : Int32) (H : Heap) (locs : List Loc) (ls : Array Slot), fm_Wd shM G M s H locs → lv_has ls 6 [(0, .ref (G.2.1 0)), (1, .int w86_v1), (3, .int v3), (4, .int v4)] → pModel_goLearn_J151 N M w86_v1 v3 v4 (fm_lp (pModel_goLearn_L86 N w86_v1) n86) s0 = some (r, M') → W p l e { frames := 5, cells := 0, slots := 0, locals := 115 } s m args below meth c H locs 0 0 (fm_Z below shM G args s (some (.int r)) M') (F0 m 151 ls [.int s0]) := by
        intro M v3 v4 s0 H locs ls E hl hf
        unfold pModel_goLearn_J151 at hf
        refine lv_istore (lv' := [(5, .int _), (0, .ref _), (1, .int _), (3, .int _), (4, .int _)]) C.1 C.2.1 dX10_goLearn_151 hl (by decide) rfl (fun ls hl => ?_)
        refine lv_iload_n C.1 C.2.1 dX10_goLearn_153 rfl (lv_at hl 3 rfl) ?_
        refine lv_aload_n C.1 C.2.1 dX10_goLearn_154 rfl (lv_at hl 1 rfl) ?_
        refine lv_iload C.1 C.2.1 dX10_goLearn_155 (lv_at hl 4 rfl) ?_
        refine lv_iconst (v := 3) C.1 C.2.1 dX10_goLearn_157 (by decide) ?_
        obtain ⟨x158, hc158, hf⟩ := fm_bd hf
        refine fm_callV C E [.int _, .int _] [.int _] lm_X10_150 wk_X10_of (c_Model_of l G _ _ _ _  hc158) hM_0 rfl rfl rfl hl.1 (by simp [Value.category]) ⟨⟨rfl, rfl⟩, by decide, by decide⟩ ⟨by decide, by decide⟩ dX10_goLearn_158 rfl (fun H locs E => ?_)
        refine W.eq (g2 := F0 m 161 ls (.int x158 :: [.int _])) rfl ?_
        refine lv_iload C.1 C.2.1 dX10_goLearn_161 (lv_at hl 0 rfl) ?_
        refine lv_icmp_eq (tgt := 170) C.1 C.2.1 dX10_goLearn_163 (by decide) (fun hc163 => ?_) (fun hc163 => ?_)
        · have hf := fm_ip hf hc163
          refine lv_iconst (v := 0) C.1 C.2.1 dX10_goLearn_170 (by decide) ?_
          exact J171 _ _ _ _ _ _ _ _ E (lv_sub hl [1, 2, 4, 0] rfl) hf
        · have hf := fm_in' hf hc163
          refine lv_iconst (v := 1) C.1 C.2.1 dX10_goLearn_166 (by decide) ?_
          refine lv_goto (tgt := 171) C.1 C.2.1 dX10_goLearn_167 (by decide) ?_
          exact J171 _ _ _ _ _ _ _ _ E (lv_sub hl [1, 2, 4, 0] rfl) hf
      intro v3 v4 M H locs ls E hl hf
      have hf : pModel_goLearn_L86b N w86_v1 (fm_lp (pModel_goLearn_L86 N w86_v1) n86) v3 v4 M = some (r, M') := hf
      unfold pModel_goLearn_L86b at hf
      refine lv_iload C.1 C.2.1 dX10_goLearn_86 (lv_at hl 3 rfl) ?_
      refine lv_aload_n C.1 C.2.1 dX10_goLearn_88 rfl (lv_at hl 0 rfl) ?_
      refine fm_getr C E lf_X10_9 hM_0 rfl dX10_goLearn_89 ?_
      refine lv_iconst (v := 0) C.1 C.2.1 dX10_goLearn_92 (by decide) ?_
      refine fm_ialdc C E 0 (by decide) hM_1 (by decide) dX10_goLearn_93 ?_
      refine lv_icmp_ge (tgt := 195) C.1 C.2.1 dX10_goLearn_94 (by decide) (fun hc94 => ?_) (fun hc94 => ?_)
      · have hf := fm_ip hf hc94
        refine lv_iload_n C.1 C.2.1 dX10_goLearn_195 rfl (lv_at hl 2 rfl) ?_
        obtain ⟨rfl, rfl⟩ := fm_rt2 hf
        exact fm_iret C E rfl rfl dX10_goLearn_196
      · have hf := fm_in' hf hc94
        refine lv_aload_n C.1 C.2.1 dX10_goLearn_97 rfl (lv_at hl 0 rfl) ?_
        refine lv_iload C.1 C.2.1 dX10_goLearn_98 (lv_at hl 3 rfl) ?_
        obtain ⟨x100, hc100, hf⟩ := fm_bd hf
        refine fm_callV C E [.int _] [] lm_X10_279 wk_X10_isQuiet (c_Model_isQuiet l G N _ _ _  hc100) hM_0 rfl rfl rfl hl.1 (by simp [Value.category]) ⟨⟨rfl, rfl⟩, by decide, by decide⟩ ⟨by decide, by decide⟩ dX10_goLearn_100 rfl (fun H locs E => ?_)
        refine W.eq (g2 := F0 m 103 ls (.int x100 :: [])) rfl ?_
        refine lv_if_eq (tgt := 109) C.1 C.2.1 dX10_goLearn_103 (by decide) (fun hc103 => ?_) (fun hc103 => ?_)
        · have hf := fm_ip hf hc103
          refine lv_aload_n C.1 C.2.1 dX10_goLearn_109 rfl (lv_at hl 0 rfl) ?_
          refine fm_getr C E lf_X10_64 hM_0 rfl dX10_goLearn_110 ?_
          refine lv_iload C.1 C.2.1 dX10_goLearn_113 (lv_at hl 3 rfl) ?_
          obtain ⟨h115, x115, e115, hf⟩ := fm_ld_e hf
          refine fm_iald' C E e115 hM_15 h115 dX10_goLearn_115 ?_
          refine lv_if_ne (tgt := 127) C.1 C.2.1 dX10_goLearn_116 (by decide) (fun hc116 => ?_) (fun hc116 => ?_)
          · have hf := fm_in' hf hc116
            refine lv_iconst (v := 1) C.1 C.2.1 dX10_goLearn_127 (by decide) ?_
            refine fm_gets C E (List.mem_of_getElem? (l := fm_Zs) (i := 7) rfl) (Or.inl wf_1245) dX10_goLearn_128 (fun t128 hT128 => ?_)
            refine lv_iconst (v := 3) C.1 C.2.1 dX10_goLearn_131 (by decide) ?_
            refine fm_tldc C E hT128 200 (by decide) (by decide) dX10_goLearn_132 ?_
            refine lv_bipush (v := 100) C.1 C.2.1 dX10_goLearn_133 (by decide) ?_
            refine lv_iload_n C.1 C.2.1 dX10_goLearn_135 rfl (lv_at hl 1 rfl) ?_
            refine lv_imul C.1 C.2.1 dX10_goLearn_136 ?_
            refine lv_aload_n C.1 C.2.1 dX10_goLearn_137 rfl (lv_at hl 0 rfl) ?_
            refine fm_getr C E lf_X10_64 hM_0 rfl dX10_goLearn_138 ?_
            refine lv_iload C.1 C.2.1 dX10_goLearn_141 (lv_at hl 3 rfl) ?_
            obtain ⟨h143, x143, e143, hf⟩ := fm_ld_e hf
            refine fm_iald' C E e143 hM_15 h143 dX10_goLearn_143 ?_
            obtain ⟨hz144, hf⟩ := fm_nz_s hf
            refine lv_idiv C.1 C.2.1 dX10_goLearn_144 hz144 ?_
            refine fm_min C wv_min wm_1283 hl.1 ⟨by decide, by decide⟩ (by simp [Value.category]) ⟨by decide, by decide⟩ dX10_goLearn_145 ?_
            refine fm_max C wv_max wm_1284 hl.1 ⟨by decide, by decide⟩ (by simp [Value.category]) ⟨by decide, by decide⟩ dX10_goLearn_148 ?_
            exact J151 _ _ _ _ _ _ _ E (lv_sub hl [0, 1, 2, 3] rfl) hf
          · have hf := fm_ip hf hc116
            refine fm_gets C E (List.mem_of_getElem? (l := fm_Zs) (i := 7) rfl) (Or.inl wf_1245) dX10_goLearn_119 (fun t119 hT119 => ?_)
            refine lv_iconst (v := 3) C.1 C.2.1 dX10_goLearn_122 (by decide) ?_
            refine fm_tldc C E hT119 200 (by decide) (by decide) dX10_goLearn_123 ?_
            refine lv_goto (tgt := 151) C.1 C.2.1 dX10_goLearn_124 (by decide) ?_
            exact J151 _ _ _ _ _ _ _ E (lv_sub hl [0, 1, 2, 3] rfl) hf
        · have hf := fm_in' hf hc103
          refine lv_goto (tgt := 189) C.1 C.2.1 dX10_goLearn_106 (by decide) ?_
          refine fm_iinc C (v := 1) (lv' := [(4, .int _), (0, .ref _), (1, .int _), (3, .int _)]) (k := 3) hl rfl (by decide) (by decide) rfl dX10_goLearn_189 (fun ls hl => ?_)
          refine lv_goto (tgt := 86) C.1 C.2.1 dX10_goLearn_192 (by decide) ?_
          exact ih86 _ _ _ _ _ _ E (lv_sub hl [1, 2, 3, 0] rfl) hf
  have L10 : ∀ (n10 : Nat) (v1 : Int32) (v2 : Int32) (v3 : Int32) (M : fm_M) (H : Heap) (locs : List Loc) (ls : Array Slot), fm_Wd shM G M s H locs → lv_has ls 6 [(0, .ref (G.2.1 0)), (1, .int v1), (2, .int v2), (3, .int v3)] → fm_lp (pModel_goLearn_L10 N) n10 (v1, v2, v3, M) = some (r, M') → W p l e { frames := 5, cells := 0, slots := 0, locals := 115 } s m args below meth c H locs 0 0 (fm_Z below shM G args s (some (.int r)) M') (F0 m 10 ls []) := by
    intro  n10
    induction n10 with
    | zero => intro v1 v2 v3 M H locs ls E hl hf; exact fm_lp_0 hf
    | succ n10 ih10 =>
      intro v1 v2 v3 M H locs ls E hl hf
      have hf : pModel_goLearn_L10b N (fm_lp (pModel_goLearn_L10 N) n10) v1 v2 v3 M = some (r, M') := hf
      unfold pModel_goLearn_L10b at hf
      refine lv_iload_n C.1 C.2.1 dX10_goLearn_10 rfl (lv_at hl 3 rfl) ?_
      refine lv_aload_n C.1 C.2.1 dX10_goLearn_11 rfl (lv_at hl 0 rfl) ?_
      refine fm_getr C E lf_X10_9 hM_0 rfl dX10_goLearn_12 ?_
      refine lv_iconst (v := 0) C.1 C.2.1 dX10_goLearn_15 (by decide) ?_
      refine fm_ialdc C E 0 (by decide) hM_1 (by decide) dX10_goLearn_16 ?_
      refine lv_icmp_ge (tgt := 74) C.1 C.2.1 dX10_goLearn_17 (by decide) (fun hc17 => ?_) (fun hc17 => ?_)
      · have hf := fm_ip hf hc17
        refine lv_iload_n C.1 C.2.1 dX10_goLearn_74 rfl (lv_at hl 2 rfl) ?_
        refine lv_if_ne (tgt := 81) C.1 C.2.1 dX10_goLearn_75 (by decide) (fun hc75 => ?_) (fun hc75 => ?_)
        · have hf := fm_in' hf hc75
          refine lv_iconst (v := 0) C.1 C.2.1 dX10_goLearn_81 (by decide) ?_
          refine lv_istore_n (lv' := [(3, .int _), (0, .ref _), (1, .int _), (2, .int _)]) C.1 C.2.1 dX10_goLearn_82 rfl hl (by decide) rfl (fun ls hl => ?_)
          refine lv_iconst (v := 0) C.1 C.2.1 dX10_goLearn_83 (by decide) ?_
          refine lv_istore (lv' := [(4, .int _), (3, .int _), (0, .ref _), (1, .int _), (2, .int _)]) C.1 C.2.1 dX10_goLearn_84 hl (by decide) rfl (fun ls hl => ?_)
          exact L86 _ N _ _ _ _ _ _ E (lv_sub hl [2, 3, 1, 0] rfl) hf
        · have hf := fm_ip hf hc75
          refine lv_bipush (v := (-2)) C.1 C.2.1 dX10_goLearn_78 (by decide) ?_
          obtain ⟨rfl, rfl⟩ := fm_rt2 hf
          exact fm_iret C E rfl rfl dX10_goLearn_80
      · have hf := fm_in' hf hc17
        refine lv_aload_n C.1 C.2.1 dX10_goLearn_20 rfl (lv_at hl 0 rfl) ?_
        refine lv_iload_n C.1 C.2.1 dX10_goLearn_21 rfl (lv_at hl 3 rfl) ?_
        obtain ⟨M22, hc22, hf⟩ := fm_bd hf
        refine fm_callV C E [.int _] [] lm_X10_242 wk_X10_layMic (c_Model_layMic l G N _ _ _ hc22) hM_0 rfl rfl rfl hl.1 (by simp [Value.category]) ⟨⟨rfl, rfl⟩, by decide, by decide⟩ ⟨by decide, by decide⟩ dX10_goLearn_22 rfl (fun H locs E => ?_)
        refine W.eq (g2 := F0 m 25 ls []) rfl ?_
        refine lv_aload_n C.1 C.2.1 dX10_goLearn_25 rfl (lv_at hl 0 rfl) ?_
        refine fm_getr C E lf_X10_64 hM_0 rfl dX10_goLearn_26 ?_
        refine lv_iload_n C.1 C.2.1 dX10_goLearn_29 rfl (lv_at hl 3 rfl) ?_
        refine lv_aload_n C.1 C.2.1 dX10_goLearn_30 rfl (lv_at hl 0 rfl) ?_
        refine lv_aload_n C.1 C.2.1 dX10_goLearn_31 rfl (lv_at hl 0 rfl) ?_
        refine fm_getr C E lf_X10_49 hM_0 rfl dX10_goLearn_32 ?_
        obtain ⟨x35, hc35, hf⟩ := fm_bd hf
        refine fm_callV C E [.ref _] [.int _, .ref _] lm_X10_249 wk_X10_levelOf (c_Model_levelOf l G N _ _ _  hc35) hM_0 rfl rfl rfl hl.1 (by simp [Value.category]) ⟨⟨rfl, rfl⟩, by decide, by decide⟩ ⟨by decide, by decide⟩ dX10_goLearn_35 rfl (fun H locs E => ?_)
        refine W.eq (g2 := F0 m 38 ls (.int x35 :: [.int _, .ref _])) rfl ?_
        obtain ⟨h38, M38, e38, hf⟩ := fm_st_e hf
        refine fm_iast' C E e38 hM_15 h38 dX10_goLearn_38 (fun H locs E => ?_)
        refine lv_iload_n C.1 C.2.1 dX10_goLearn_39 rfl (lv_at hl 1 rfl) ?_
        refine lv_aload_n C.1 C.2.1 dX10_goLearn_40 rfl (lv_at hl 0 rfl) ?_
        refine fm_getr C E lf_X10_64 hM_0 rfl dX10_goLearn_41 ?_
        refine lv_iload_n C.1 C.2.1 dX10_goLearn_44 rfl (lv_at hl 3 rfl) ?_
        obtain ⟨h45, x45, e45, hf⟩ := fm_ld_e hf
        refine fm_iald' C E e45 hM_15 h45 dX10_goLearn_45 ?_
        refine fm_max C wv_max wm_1284 hl.1 ⟨by decide, by decide⟩ (by simp [Value.category]) ⟨by decide, by decide⟩ dX10_goLearn_46 ?_
        refine lv_istore_n (lv' := [(1, .int _), (0, .ref _), (2, .int _), (3, .int _)]) C.1 C.2.1 dX10_goLearn_49 rfl hl (by decide) rfl (fun ls hl => ?_)
        refine lv_iload_n C.1 C.2.1 dX10_goLearn_50 rfl (lv_at hl 2 rfl) ?_
        refine lv_if_ne (tgt := 62) C.1 C.2.1 dX10_goLearn_51 (by decide) (fun hc51 => ?_) (fun hc51 => ?_)
        · have hf := fm_in' hf hc51
          refine lv_iconst (v := 1) C.1 C.2.1 dX10_goLearn_62 (by decide) ?_
          refine lv_goto (tgt := 67) C.1 C.2.1 dX10_goLearn_63 (by decide) ?_
          refine lv_istore_n (lv' := [(2, .int _), (1, .int _), (0, .ref _), (3, .int _)]) C.1 C.2.1 dX10_goLearn_67 rfl hl (by decide) rfl (fun ls hl => ?_)
          refine fm_iinc C (v := 1) (lv' := [(3, .int _), (2, .int _), (1, .int _), (0, .ref _)]) (k := 3) hl rfl (by decide) (by decide) rfl dX10_goLearn_68 (fun ls hl => ?_)
          refine lv_goto (tgt := 10) C.1 C.2.1 dX10_goLearn_71 (by decide) ?_
          exact ih10 _ _ _ _ _ _ _ E (lv_sub hl [3, 2, 1, 0] rfl) hf
        · have hf := fm_ip hf hc51
          refine lv_aload_n C.1 C.2.1 dX10_goLearn_54 rfl (lv_at hl 1 rfl) ?_
          refine lv_iload_n C.1 C.2.1 dX10_goLearn_55 rfl (lv_at hl 3 rfl) ?_
          obtain ⟨x56, hc56, hf⟩ := fm_bd hf
          refine fm_callV C E [.int _] [] lm_X10_279 wk_X10_isQuiet (c_Model_isQuiet l G N _ _ _  hc56) hM_0 rfl rfl rfl hl.1 (by simp [Value.category]) ⟨⟨rfl, rfl⟩, by decide, by decide⟩ ⟨by decide, by decide⟩ dX10_goLearn_56 rfl (fun H locs E => ?_)
          refine W.eq (g2 := F0 m 59 ls (.int x56 :: [])) rfl ?_
          refine lv_if_ne (tgt := 66) C.1 C.2.1 dX10_goLearn_59 (by decide) (fun hc59 => ?_) (fun hc59 => ?_)
          · have hf := fm_in' hf hc59
            refine lv_iconst (v := 0) C.1 C.2.1 dX10_goLearn_66 (by decide) ?_
            refine lv_istore_n (lv' := [(2, .int _), (1, .int _), (0, .ref _), (3, .int _)]) C.1 C.2.1 dX10_goLearn_67 rfl hl (by decide) rfl (fun ls hl => ?_)
            refine fm_iinc C (v := 1) (lv' := [(3, .int _), (2, .int _), (1, .int _), (0, .ref _)]) (k := 3) hl rfl (by decide) (by decide) rfl dX10_goLearn_68 (fun ls hl => ?_)
            refine lv_goto (tgt := 10) C.1 C.2.1 dX10_goLearn_71 (by decide) ?_
            exact ih10 _ _ _ _ _ _ _ E (lv_sub hl [3, 2, 1, 0] rfl) hf
          · have hf := fm_ip hf hc59
            refine lv_iconst (v := 1) C.1 C.2.1 dX10_goLearn_62 (by decide) ?_
            refine lv_goto (tgt := 67) C.1 C.2.1 dX10_goLearn_63 (by decide) ?_
            refine lv_istore_n (lv' := [(2, .int _), (1, .int _), (0, .ref _), (3, .int _)]) C.1 C.2.1 dX10_goLearn_67 rfl hl (by decide) rfl (fun ls hl => ?_)
            refine fm_iinc C (v := 1) (lv' := [(3, .int _), (2, .int _), (1, .int _), (0, .ref _)]) (k := 3) hl rfl (by decide) (by decide) rfl dX10_goLearn_68 (fun ls hl => ?_)
            refine lv_goto (tgt := 10) C.1 C.2.1 dX10_goLearn_71 (by decide) ?_
            exact ih10 _ _ _ _ _ _ _ E (lv_sub hl [3, 2, 1, 0] rfl) hf
  unfold pModel_goLearn at hf
  refine lv_aload_n C.1 C.2.1 dX10_goLearn_0 rfl (lv_at hl 0 rfl) ?_
  obtain ⟨M1, hc1, hf⟩ := fm_bd hf
  refine fm_callV C E [] [] lm_X10_188 wk_X10_hear (c_Model_hear l G N _ _ hc1) hM_0 rfl rfl rfl hl.1 (by simp [Value.category]) ⟨⟨rfl, rfl⟩, by decide, by decide⟩ ⟨by decide, by decide⟩ dX10_goLearn_1 rfl (fun H locs E => ?_)
  refine W.eq (g2 := F0 m 4 ls []) rfl ?_
  refine lv_iconst (v := 0) C.1 C.2.1 dX10_goLearn_4 (by decide) ?_
  refine lv_istore_n (lv' := [(1, .int _), (0, .ref _)]) C.1 C.2.1 dX10_goLearn_5 rfl hl (by decide) rfl (fun ls hl => ?_)
  refine lv_iconst (v := 0) C.1 C.2.1 dX10_goLearn_6 (by decide) ?_
  refine lv_istore_n (lv' := [(2, .int _), (1, .int _), (0, .ref _)]) C.1 C.2.1 dX10_goLearn_7 rfl hl (by decide) rfl (fun ls hl => ?_)
  refine lv_iconst (v := 0) C.1 C.2.1 dX10_goLearn_8 (by decide) ?_
  refine lv_istore_n (lv' := [(3, .int _), (2, .int _), (1, .int _), (0, .ref _)]) C.1 C.2.1 dX10_goLearn_9 rfl hl (by decide) rfl (fun ls hl => ?_)
  exact L10  N _ _ _ _ _ _ _ E (lv_sub hl [3, 2, 1, 0] rfl) hf
theorem dX10_learns_0 : decode cX10_learns 0 = .ok (.aload_n 0, 1) := by decide +kernel
theorem dX10_learns_1 : decode cX10_learns 1 = .ok (.iconst 0, 1) := by decide +kernel
theorem dX10_learns_2 : decode cX10_learns 2 = .ok (.putfield 77, 3) := by decide +kernel
theorem dX10_learns_5 : decode cX10_learns 5 = .ok (.aload_n 0, 1) := by decide +kernel
theorem dX10_learns_6 : decode cX10_learns 6 = .ok (.invokevirtual 294, 3) := by decide +kernel
theorem dX10_learns_9 : decode cX10_learns 9 = .ok (.aload_n 0, 1) := by decide +kernel
theorem dX10_learns_10 : decode cX10_learns 10 = .ok (.invokevirtual 306, 3) := by decide +kernel
theorem dX10_learns_13 : decode cX10_learns 13 = .ok (.istore_n 1, 1) := by decide +kernel
theorem dX10_learns_14 : decode cX10_learns 14 = .ok (.iload_n 1, 1) := by decide +kernel
theorem dX10_learns_15 : decode cX10_learns 15 = .ok (.ifCond .ge 5, 3) := by decide +kernel
theorem dX10_learns_18 : decode cX10_learns 18 = .ok (.iload_n 1, 1) := by decide +kernel
theorem dX10_learns_19 : decode cX10_learns 19 = .ok (.ireturn, 1) := by decide +kernel
theorem dX10_learns_20 : decode cX10_learns 20 = .ok (.aload_n 0, 1) := by decide +kernel
theorem dX10_learns_21 : decode cX10_learns 21 = .ok (.invokevirtual 297, 3) := by decide +kernel
theorem dX10_learns_24 : decode cX10_learns 24 = .ok (.iload_n 1, 1) := by decide +kernel
theorem dX10_learns_25 : decode cX10_learns 25 = .ok (.ireturn, 1) := by decide +kernel
set_option maxHeartbeats 4000000 in
set_option maxRecDepth 100000 in
theorem c_Model_learns (l : Launch) (G : fm_G) (N : Nat) (M : fm_M) (r : Int32) (M' : fm_M) (hf : pModel_learns N M = some (r, M')) : fm_Met l yX10_learns cX10_learns 2 (some .int) { frames := 6, cells := 0, slots := 0, locals := 140 } shM G [.ref (G.2.1 0)] M (some (.int r)) M' := by
  refine fm_enter (by decide) (Nat.le_of_ble_eq_true rfl) ?_
  intro p e s m args below meth c ls C E hl
  have hl : lv_has ls 2 [(0, .ref (G.2.1 0))] := hl
  unfold pModel_learns at hf
  refine lv_aload_n C.1 C.2.1 dX10_learns_0 rfl (lv_at hl 0 rfl) ?_
  refine lv_iconst (v := 0) C.1 C.2.1 dX10_learns_1 (by decide) ?_
  obtain ⟨M2, e2, hf⟩ := fm_pt_s hf
  refine fm_put' C E e2 lp_X10_77 hM_0 rfl dX10_learns_2 (fun H locs E => ?_)
  refine lv_aload_n C.1 C.2.1 dX10_learns_5 rfl (lv_at hl 0 rfl) ?_
  obtain ⟨M6, hc6, hf⟩ := fm_bd hf
  refine fm_callV C E [] [] lm_X10_294 wk_X10_lay (c_Model_lay l G N _ _ hc6) hM_0 rfl rfl rfl hl.1 (by simp [Value.category]) ⟨⟨rfl, rfl⟩, by decide, by decide⟩ ⟨by decide, by decide⟩ dX10_learns_6 rfl (fun H locs E => ?_)
  refine W.eq (g2 := F0 m 9 ls []) rfl ?_
  refine lv_aload_n C.1 C.2.1 dX10_learns_9 rfl (lv_at hl 0 rfl) ?_
  obtain ⟨⟨x10, M10⟩, hc10, hf⟩ := fm_bd hf
  dsimp only at hf
  refine fm_callV C E [] [] lm_X10_306 wk_X10_goLearn (c_Model_goLearn l G N _ _ _ hc10) hM_0 rfl rfl rfl hl.1 (by simp [Value.category]) ⟨⟨rfl, rfl⟩, by decide, by decide⟩ ⟨by decide, by decide⟩ dX10_learns_10 rfl (fun H locs E => ?_)
  refine W.eq (g2 := F0 m 13 ls (.int x10 :: [])) rfl ?_
  refine lv_istore_n (lv' := [(1, .int _), (0, .ref _)]) C.1 C.2.1 dX10_learns_13 rfl hl (by decide) rfl (fun ls hl => ?_)
  refine lv_iload_n C.1 C.2.1 dX10_learns_14 rfl (lv_at hl 0 rfl) ?_
  refine lv_if_ge (tgt := 20) C.1 C.2.1 dX10_learns_15 (by decide) (fun hc15 => ?_) (fun hc15 => ?_)
  · have hf := fm_ip hf hc15
    refine lv_aload_n C.1 C.2.1 dX10_learns_20 rfl (lv_at hl 1 rfl) ?_
    obtain ⟨M21, hc21, hf⟩ := fm_bd hf
    refine fm_callV C E [] [] lm_X10_297 wk_X10_note (c_Model_note l G N _ _ hc21) hM_0 rfl rfl rfl hl.1 (by simp [Value.category]) ⟨⟨rfl, rfl⟩, by decide, by decide⟩ ⟨by decide, by decide⟩ dX10_learns_21 rfl (fun H locs E => ?_)
    refine W.eq (g2 := F0 m 24 ls []) rfl ?_
    refine lv_iload_n C.1 C.2.1 dX10_learns_24 rfl (lv_at hl 0 rfl) ?_
    obtain ⟨rfl, rfl⟩ := fm_rt2 hf
    exact fm_iret C E rfl rfl dX10_learns_25
  · have hf := fm_in' hf hc15
    refine lv_iload_n C.1 C.2.1 dX10_learns_18 rfl (lv_at hl 0 rfl) ?_
    obtain ⟨rfl, rfl⟩ := fm_rt2 hf
    exact fm_iret C E rfl rfl dX10_learns_19
theorem dX10_goSort_0 : decode cX10_goSort 0 = .ok (.aload_n 0, 1) := by decide +kernel
theorem dX10_goSort_1 : decode cX10_goSort 1 = .ok (.invokevirtual 188, 3) := by decide +kernel
theorem dX10_goSort_4 : decode cX10_goSort 4 = .ok (.iconst 0, 1) := by decide +kernel
theorem dX10_goSort_5 : decode cX10_goSort 5 = .ok (.istore_n 2, 1) := by decide +kernel
theorem dX10_goSort_6 : decode cX10_goSort 6 = .ok (.iconst 0, 1) := by decide +kernel
theorem dX10_goSort_7 : decode cX10_goSort 7 = .ok (.istore_n 3, 1) := by decide +kernel
theorem dX10_goSort_8 : decode cX10_goSort 8 = .ok (.iconst 0, 1) := by decide +kernel
theorem dX10_goSort_9 : decode cX10_goSort 9 = .ok (.istore 4, 2) := by decide +kernel
theorem dX10_goSort_11 : decode cX10_goSort 11 = .ok (.iload 4, 2) := by decide +kernel
theorem dX10_goSort_13 : decode cX10_goSort 13 = .ok (.aload_n 0, 1) := by decide +kernel
theorem dX10_goSort_14 : decode cX10_goSort 14 = .ok (.getfield 9, 3) := by decide +kernel
theorem dX10_goSort_17 : decode cX10_goSort 17 = .ok (.iconst 0, 1) := by decide +kernel
theorem dX10_goSort_18 : decode cX10_goSort 18 = .ok (.iaload, 1) := by decide +kernel
theorem dX10_goSort_19 : decode cX10_goSort 19 = .ok (.if_icmp .ge 76, 3) := by decide +kernel
theorem dX10_goSort_22 : decode cX10_goSort 22 = .ok (.aload_n 0, 1) := by decide +kernel
theorem dX10_goSort_23 : decode cX10_goSort 23 = .ok (.iload 4, 2) := by decide +kernel
theorem dX10_goSort_25 : decode cX10_goSort 25 = .ok (.invokevirtual 279, 3) := by decide +kernel
theorem dX10_goSort_28 : decode cX10_goSort 28 = .ok (.ifCond .ne 13, 3) := by decide +kernel
theorem dX10_goSort_31 : decode cX10_goSort 31 = .ok (.aload_n 0, 1) := by decide +kernel
theorem dX10_goSort_32 : decode cX10_goSort 32 = .ok (.iload 4, 2) := by decide +kernel
theorem dX10_goSort_34 : decode cX10_goSort 34 = .ok (.invokevirtual 282, 3) := by decide +kernel
theorem dX10_goSort_37 : decode cX10_goSort 37 = .ok (.iload_n 1, 1) := by decide +kernel
theorem dX10_goSort_38 : decode cX10_goSort 38 = .ok (.if_icmp .lt 7, 3) := by decide +kernel
theorem dX10_goSort_41 : decode cX10_goSort 41 = .ok (.iconst 1, 1) := by decide +kernel
theorem dX10_goSort_42 : decode cX10_goSort 42 = .ok (.goto 4, 3) := by decide +kernel
theorem dX10_goSort_45 : decode cX10_goSort 45 = .ok (.iconst 0, 1) := by decide +kernel
theorem dX10_goSort_46 : decode cX10_goSort 46 = .ok (.istore 5, 2) := by decide +kernel
theorem dX10_goSort_48 : decode cX10_goSort 48 = .ok (.iload_n 2, 1) := by decide +kernel
theorem dX10_goSort_49 : decode cX10_goSort 49 = .ok (.aload_n 0, 1) := by decide +kernel
theorem dX10_goSort_50 : decode cX10_goSort 50 = .ok (.iload 4, 2) := by decide +kernel
theorem dX10_goSort_52 : decode cX10_goSort 52 = .ok (.iconst 5, 1) := by decide +kernel
theorem dX10_goSort_53 : decode cX10_goSort 53 = .ok (.invokevirtual 150, 3) := by decide +kernel
theorem dX10_goSort_56 : decode cX10_goSort 56 = .ok (.iload 5, 2) := by decide +kernel
theorem dX10_goSort_58 : decode cX10_goSort 58 = .ok (.if_icmp .eq 7, 3) := by decide +kernel
theorem dX10_goSort_61 : decode cX10_goSort 61 = .ok (.iconst 1, 1) := by decide +kernel
theorem dX10_goSort_62 : decode cX10_goSort 62 = .ok (.goto 4, 3) := by decide +kernel
theorem dX10_goSort_65 : decode cX10_goSort 65 = .ok (.iconst 0, 1) := by decide +kernel
theorem dX10_goSort_66 : decode cX10_goSort 66 = .ok (.iadd, 1) := by decide +kernel
theorem dX10_goSort_67 : decode cX10_goSort 67 = .ok (.istore_n 2, 1) := by decide +kernel
theorem dX10_goSort_68 : decode cX10_goSort 68 = .ok (.aload_n 0, 1) := by decide +kernel
theorem dX10_goSort_69 : decode cX10_goSort 69 = .ok (.getfield 9, 3) := by decide +kernel
theorem dX10_goSort_72 : decode cX10_goSort 72 = .ok (.iconst 1, 1) := by decide +kernel
theorem dX10_goSort_73 : decode cX10_goSort 73 = .ok (.bipush 6, 2) := by decide +kernel
theorem dX10_goSort_75 : decode cX10_goSort 75 = .ok (.iload 4, 2) := by decide +kernel
theorem dX10_goSort_77 : decode cX10_goSort 77 = .ok (.imul, 1) := by decide +kernel
theorem dX10_goSort_78 : decode cX10_goSort 78 = .ok (.iadd, 1) := by decide +kernel
theorem dX10_goSort_79 : decode cX10_goSort 79 = .ok (.iconst 5, 1) := by decide +kernel
theorem dX10_goSort_80 : decode cX10_goSort 80 = .ok (.iadd, 1) := by decide +kernel
theorem dX10_goSort_81 : decode cX10_goSort 81 = .ok (.iload 5, 2) := by decide +kernel
theorem dX10_goSort_83 : decode cX10_goSort 83 = .ok (.iastore, 1) := by decide +kernel
theorem dX10_goSort_84 : decode cX10_goSort 84 = .ok (.iload_n 3, 1) := by decide +kernel
theorem dX10_goSort_85 : decode cX10_goSort 85 = .ok (.iload 5, 2) := by decide +kernel
theorem dX10_goSort_87 : decode cX10_goSort 87 = .ok (.iadd, 1) := by decide +kernel
theorem dX10_goSort_88 : decode cX10_goSort 88 = .ok (.istore_n 3, 1) := by decide +kernel
theorem dX10_goSort_89 : decode cX10_goSort 89 = .ok (.iinc 4 1, 3) := by decide +kernel
theorem dX10_goSort_92 : decode cX10_goSort 92 = .ok (.goto (-81), 3) := by decide +kernel
theorem dX10_goSort_95 : decode cX10_goSort 95 = .ok (.iload_n 2, 1) := by decide +kernel
theorem dX10_goSort_96 : decode cX10_goSort 96 = .ok (.ifCond .ne 8, 3) := by decide +kernel
theorem dX10_goSort_99 : decode cX10_goSort 99 = .ok (.bipush (-2), 2) := by decide +kernel
theorem dX10_goSort_101 : decode cX10_goSort 101 = .ok (.goto 4, 3) := by decide +kernel
theorem dX10_goSort_104 : decode cX10_goSort 104 = .ok (.iload_n 3, 1) := by decide +kernel
theorem dX10_goSort_105 : decode cX10_goSort 105 = .ok (.ireturn, 1) := by decide +kernel
set_option maxHeartbeats 4000000 in
set_option maxRecDepth 100000 in
theorem c_Model_goSort (l : Launch) (G : fm_G) (N : Nat) (M : fm_M) (v1 : Int32) (r : Int32) (M' : fm_M) (hf : pModel_goSort N M v1 = some (r, M')) : fm_Met l yX10_goSort cX10_goSort 6 (some .int) { frames := 5, cells := 0, slots := 0, locals := 115 } shM G [.ref (G.2.1 0), .int v1] M (some (.int r)) M' := by
  refine fm_enter (by decide) (Nat.le_of_ble_eq_true rfl) ?_
  intro p e s m args below meth c ls C E hl
  have hl : lv_has ls 6 [(0, .ref (G.2.1 0)), (1, .int v1)] := hl
  have L11 : ∀ (w11_v1 : Int32) (n11 : Nat) (v2 : Int32) (v3 : Int32) (v4 : Int32) (M : fm_M) (H : Heap) (locs : List Loc) (ls : Array Slot), fm_Wd shM G M s H locs → lv_has ls 6 [(0, .ref (G.2.1 0)), (1, .int w11_v1), (2, .int v2), (3, .int v3), (4, .int v4)] → fm_lp (pModel_goSort_L11 N w11_v1) n11 (v2, v3, v4, M) = some (r, M') → W p l e { frames := 5, cells := 0, slots := 0, locals := 115 } s m args below meth c H locs 0 0 (fm_Z below shM G args s (some (.int r)) M') (F0 m 11 ls []) := by
    intro w11_v1 n11
    induction n11 with
    | zero => intro v2 v3 v4 M H locs ls E hl hf; exact fm_lp_0 hf
    | succ n11 ih11 =>
      have J66 : ∀ (M : fm_M) (v3 : Int32) (v4 : Int32) (v5 : Int32) (s0 : Int32) (s1 : Int32) (H : Heap) (locs : List Loc) (ls : Array Slot), fm_Wd shM G M s H locs → lv_has ls 6 [(0, .ref (G.2.1 0)), (1, .int w11_v1), (3, .int v3), (4, .int v4), (5, .int v5)] → pModel_goSort_J66 N M w11_v1 v3 v4 v5 (fm_lp (pModel_goSort_L11 N w11_v1) n11) s0 s1 = some (r, M') → W p l e { frames := 5, cells := 0, slots := 0, locals := 115 } s m args below meth c H locs 0 0 (fm_Z below shM G args s (some (.int r)) M') (F0 m 66 ls [.int s1, .int s0]) := by
        intro M v3 v4 v5 s0 s1 H locs ls E hl hf
        unfold pModel_goSort_J66 at hf
        refine lv_iadd C.1 C.2.1 dX10_goSort_66 ?_
        refine lv_istore_n (lv' := [(2, .int _), (0, .ref _), (1, .int _), (3, .int _), (4, .int _), (5, .int _)]) C.1 C.2.1 dX10_goSort_67 rfl hl (by decide) rfl (fun ls hl => ?_)
        refine lv_aload_n C.1 C.2.1 dX10_goSort_68 rfl (lv_at hl 1 rfl) ?_
        refine fm_getr C E lf_X10_9 hM_0 rfl dX10_goSort_69 ?_
        refine lv_iconst (v := 1) C.1 C.2.1 dX10_goSort_72 (by decide) ?_
        refine lv_bipush (v := 6) C.1 C.2.1 dX10_goSort_73 (by decide) ?_
        refine lv_iload C.1 C.2.1 dX10_goSort_75 (lv_at hl 4 rfl) ?_
        refine lv_imul C.1 C.2.1 dX10_goSort_77 ?_
        refine lv_iadd C.1 C.2.1 dX10_goSort_78 ?_
        refine lv_iconst (v := 5) C.1 C.2.1 dX10_goSort_79 (by decide) ?_
        refine lv_iadd C.1 C.2.1 dX10_goSort_80 ?_
        refine lv_iload C.1 C.2.1 dX10_goSort_81 (lv_at hl 5 rfl) ?_
        obtain ⟨h83, M83, e83, hf⟩ := fm_st_e hf
        refine fm_iast' C E e83 hM_1 h83 dX10_goSort_83 (fun H locs E => ?_)
        refine lv_iload_n C.1 C.2.1 dX10_goSort_84 rfl (lv_at hl 3 rfl) ?_
        refine lv_iload C.1 C.2.1 dX10_goSort_85 (lv_at hl 5 rfl) ?_
        refine lv_iadd C.1 C.2.1 dX10_goSort_87 ?_
        refine lv_istore_n (lv' := [(3, .int _), (2, .int _), (0, .ref _), (1, .int _), (4, .int _), (5, .int _)]) C.1 C.2.1 dX10_goSort_88 rfl hl (by decide) rfl (fun ls hl => ?_)
        refine fm_iinc C (v := 1) (lv' := [(4, .int _), (3, .int _), (2, .int _), (0, .ref _), (1, .int _), (5, .int _)]) (k := 4) hl rfl (by decide) (by decide) rfl dX10_goSort_89 (fun ls hl => ?_)
        refine lv_goto (tgt := 11) C.1 C.2.1 dX10_goSort_92 (by decide) ?_
        exact ih11 _ _ _ _ _ _ _ E (lv_sub hl [3, 4, 2, 1, 0] rfl) hf
      have J46 : ∀ (M : fm_M) (v2 : Int32) (v3 : Int32) (v4 : Int32) (s0 : Int32) (H : Heap) (locs : List Loc) (ls : Array Slot), fm_Wd shM G M s H locs → lv_has ls 6 [(0, .ref (G.2.1 0)), (1, .int w11_v1), (2, .int v2), (3, .int v3), (4, .int v4)] → pModel_goSort_J46 N M w11_v1 v2 v3 v4 (fm_lp (pModel_goSort_L11 N w11_v1) n11) s0 = some (r, M') → W p l e { frames := 5, cells := 0, slots := 0, locals := 115 } s m args below meth c H locs 0 0 (fm_Z below shM G args s (some (.int r)) M') (F0 m 46 ls [.int s0]) := by
        intro M v2 v3 v4 s0 H locs ls E hl hf
        unfold pModel_goSort_J46 at hf
        refine lv_istore (lv' := [(5, .int _), (0, .ref _), (1, .int _), (2, .int _), (3, .int _), (4, .int _)]) C.1 C.2.1 dX10_goSort_46 hl (by decide) rfl (fun ls hl => ?_)
        refine lv_iload_n C.1 C.2.1 dX10_goSort_48 rfl (lv_at hl 3 rfl) ?_
        refine lv_aload_n C.1 C.2.1 dX10_goSort_49 rfl (lv_at hl 1 rfl) ?_
        refine lv_iload C.1 C.2.1 dX10_goSort_50 (lv_at hl 5 rfl) ?_
        refine lv_iconst (v := 5) C.1 C.2.1 dX10_goSort_52 (by decide) ?_
        obtain ⟨x53, hc53, hf⟩ := fm_bd hf
        refine fm_callV C E [.int _, .int _] [.int _] lm_X10_150 wk_X10_of (c_Model_of l G _ _ _ _  hc53) hM_0 rfl rfl rfl hl.1 (by simp [Value.category]) ⟨⟨rfl, rfl⟩, by decide, by decide⟩ ⟨by decide, by decide⟩ dX10_goSort_53 rfl (fun H locs E => ?_)
        refine W.eq (g2 := F0 m 56 ls (.int x53 :: [.int _])) rfl ?_
        refine lv_iload C.1 C.2.1 dX10_goSort_56 (lv_at hl 0 rfl) ?_
        refine lv_icmp_eq (tgt := 65) C.1 C.2.1 dX10_goSort_58 (by decide) (fun hc58 => ?_) (fun hc58 => ?_)
        · have hf := fm_ip hf hc58
          refine lv_iconst (v := 0) C.1 C.2.1 dX10_goSort_65 (by decide) ?_
          exact J66 _ _ _ _ _ _ _ _ _ E (lv_sub hl [1, 2, 4, 5, 0] rfl) hf
        · have hf := fm_in' hf hc58
          refine lv_iconst (v := 1) C.1 C.2.1 dX10_goSort_61 (by decide) ?_
          refine lv_goto (tgt := 66) C.1 C.2.1 dX10_goSort_62 (by decide) ?_
          exact J66 _ _ _ _ _ _ _ _ _ E (lv_sub hl [1, 2, 4, 5, 0] rfl) hf
      have J41 : ∀ (M : fm_M) (v2 : Int32) (v3 : Int32) (v4 : Int32) (H : Heap) (locs : List Loc) (ls : Array Slot), fm_Wd shM G M s H locs → lv_has ls 6 [(0, .ref (G.2.1 0)), (1, .int w11_v1), (2, .int v2), (3, .int v3), (4, .int v4)] → pModel_goSort_J41 N M w11_v1 v2 v3 v4 (fm_lp (pModel_goSort_L11 N w11_v1) n11) = some (r, M') → W p l e { frames := 5, cells := 0, slots := 0, locals := 115 } s m args below meth c H locs 0 0 (fm_Z below shM G args s (some (.int r)) M') (F0 m 41 ls []) := by
        intro M v2 v3 v4 H locs ls E hl hf
        unfold pModel_goSort_J41 at hf
        refine lv_iconst (v := 1) C.1 C.2.1 dX10_goSort_41 (by decide) ?_
        refine lv_goto (tgt := 46) C.1 C.2.1 dX10_goSort_42 (by decide) ?_
        exact J46 _ _ _ _ _ _ _ _ E (lv_sub hl [0, 1, 2, 3, 4] rfl) hf
      intro v2 v3 v4 M H locs ls E hl hf
      have hf : pModel_goSort_L11b N w11_v1 (fm_lp (pModel_goSort_L11 N w11_v1) n11) v2 v3 v4 M = some (r, M') := hf
      unfold pModel_goSort_L11b at hf
      refine lv_iload C.1 C.2.1 dX10_goSort_11 (lv_at hl 4 rfl) ?_
      refine lv_aload_n C.1 C.2.1 dX10_goSort_13 rfl (lv_at hl 0 rfl) ?_
      refine fm_getr C E lf_X10_9 hM_0 rfl dX10_goSort_14 ?_
      refine lv_iconst (v := 0) C.1 C.2.1 dX10_goSort_17 (by decide) ?_
      refine fm_ialdc C E 0 (by decide) hM_1 (by decide) dX10_goSort_18 ?_
      refine lv_icmp_ge (tgt := 95) C.1 C.2.1 dX10_goSort_19 (by decide) (fun hc19 => ?_) (fun hc19 => ?_)
      · have hf := fm_ip hf hc19
        refine lv_iload_n C.1 C.2.1 dX10_goSort_95 rfl (lv_at hl 2 rfl) ?_
        refine lv_if_ne (tgt := 104) C.1 C.2.1 dX10_goSort_96 (by decide) (fun hc96 => ?_) (fun hc96 => ?_)
        · have hf := fm_in' hf hc96
          refine lv_iload_n C.1 C.2.1 dX10_goSort_104 rfl (lv_at hl 3 rfl) ?_
          obtain ⟨rfl, rfl⟩ := fm_rt2 hf
          exact fm_iret C E rfl rfl dX10_goSort_105
        · have hf := fm_ip hf hc96
          refine lv_bipush (v := (-2)) C.1 C.2.1 dX10_goSort_99 (by decide) ?_
          refine lv_goto (tgt := 105) C.1 C.2.1 dX10_goSort_101 (by decide) ?_
          obtain ⟨rfl, rfl⟩ := fm_rt2 hf
          exact fm_iret C E rfl rfl dX10_goSort_105
      · have hf := fm_in' hf hc19
        refine lv_aload_n C.1 C.2.1 dX10_goSort_22 rfl (lv_at hl 0 rfl) ?_
        refine lv_iload C.1 C.2.1 dX10_goSort_23 (lv_at hl 4 rfl) ?_
        obtain ⟨x25, hc25, hf⟩ := fm_bd hf
        refine fm_callV C E [.int _] [] lm_X10_279 wk_X10_isQuiet (c_Model_isQuiet l G N _ _ _  hc25) hM_0 rfl rfl rfl hl.1 (by simp [Value.category]) ⟨⟨rfl, rfl⟩, by decide, by decide⟩ ⟨by decide, by decide⟩ dX10_goSort_25 rfl (fun H locs E => ?_)
        refine W.eq (g2 := F0 m 28 ls (.int x25 :: [])) rfl ?_
        refine lv_if_ne (tgt := 41) C.1 C.2.1 dX10_goSort_28 (by decide) (fun hc28 => ?_) (fun hc28 => ?_)
        · have hf := fm_in' hf hc28
          exact J41 _ _ _ _ _ _ _ E (lv_sub hl [0, 1, 2, 3, 4] rfl) hf
        · have hf := fm_ip hf hc28
          refine lv_aload_n C.1 C.2.1 dX10_goSort_31 rfl (lv_at hl 0 rfl) ?_
          refine lv_iload C.1 C.2.1 dX10_goSort_32 (lv_at hl 4 rfl) ?_
          obtain ⟨x34, hc34, hf⟩ := fm_bd hf
          refine fm_callV C E [.int _] [] lm_X10_282 wk_X10_clippedOf (c_Model_clippedOf l G N _ _ _  hc34) hM_0 rfl rfl rfl hl.1 (by simp [Value.category]) ⟨⟨rfl, rfl⟩, by decide, by decide⟩ ⟨by decide, by decide⟩ dX10_goSort_34 rfl (fun H locs E => ?_)
          refine W.eq (g2 := F0 m 37 ls (.int x34 :: [])) rfl ?_
          refine lv_iload_n C.1 C.2.1 dX10_goSort_37 rfl (lv_at hl 1 rfl) ?_
          refine lv_icmp_lt (tgt := 45) C.1 C.2.1 dX10_goSort_38 (by decide) (fun hc38 => ?_) (fun hc38 => ?_)
          · have hf := fm_ip hf hc38
            refine lv_iconst (v := 0) C.1 C.2.1 dX10_goSort_45 (by decide) ?_
            exact J46 _ _ _ _ _ _ _ _ E (lv_sub hl [0, 1, 2, 3, 4] rfl) hf
          · have hf := fm_in' hf hc38
            exact J41 _ _ _ _ _ _ _ E (lv_sub hl [0, 1, 2, 3, 4] rfl) hf
  unfold pModel_goSort at hf
  refine lv_aload_n C.1 C.2.1 dX10_goSort_0 rfl (lv_at hl 0 rfl) ?_
  obtain ⟨M1, hc1, hf⟩ := fm_bd hf
  refine fm_callV C E [] [] lm_X10_188 wk_X10_hear (c_Model_hear l G N _ _ hc1) hM_0 rfl rfl rfl hl.1 (by simp [Value.category]) ⟨⟨rfl, rfl⟩, by decide, by decide⟩ ⟨by decide, by decide⟩ dX10_goSort_1 rfl (fun H locs E => ?_)
  refine W.eq (g2 := F0 m 4 ls []) rfl ?_
  refine lv_iconst (v := 0) C.1 C.2.1 dX10_goSort_4 (by decide) ?_
  refine lv_istore_n (lv' := [(2, .int _), (0, .ref _), (1, .int _)]) C.1 C.2.1 dX10_goSort_5 rfl hl (by decide) rfl (fun ls hl => ?_)
  refine lv_iconst (v := 0) C.1 C.2.1 dX10_goSort_6 (by decide) ?_
  refine lv_istore_n (lv' := [(3, .int _), (2, .int _), (0, .ref _), (1, .int _)]) C.1 C.2.1 dX10_goSort_7 rfl hl (by decide) rfl (fun ls hl => ?_)
  refine lv_iconst (v := 0) C.1 C.2.1 dX10_goSort_8 (by decide) ?_
  refine lv_istore (lv' := [(4, .int _), (3, .int _), (2, .int _), (0, .ref _), (1, .int _)]) C.1 C.2.1 dX10_goSort_9 hl (by decide) rfl (fun ls hl => ?_)
  exact L11 _ N _ _ _ _ _ _ _ E (lv_sub hl [3, 4, 2, 1, 0] rfl) hf
theorem dX10_sorts_0 : decode cX10_sorts 0 = .ok (.aload_n 0, 1) := by decide +kernel
theorem dX10_sorts_1 : decode cX10_sorts 1 = .ok (.iconst 0, 1) := by decide +kernel
theorem dX10_sorts_2 : decode cX10_sorts 2 = .ok (.putfield 77, 3) := by decide +kernel
theorem dX10_sorts_5 : decode cX10_sorts 5 = .ok (.iload_n 1, 1) := by decide +kernel
theorem dX10_sorts_6 : decode cX10_sorts 6 = .ok (.iconst 1, 1) := by decide +kernel
theorem dX10_sorts_7 : decode cX10_sorts 7 = .ok (.bipush 48, 2) := by decide +kernel
theorem dX10_sorts_9 : decode cX10_sorts 9 = .ok (.invokestatic 83, 3) := by decide +kernel
theorem dX10_sorts_12 : decode cX10_sorts 12 = .ok (.ifCond .ne 5, 3) := by decide +kernel
theorem dX10_sorts_15 : decode cX10_sorts 15 = .ok (.iconst (-1), 1) := by decide +kernel
theorem dX10_sorts_16 : decode cX10_sorts 16 = .ok (.ireturn, 1) := by decide +kernel
theorem dX10_sorts_17 : decode cX10_sorts 17 = .ok (.aload_n 0, 1) := by decide +kernel
theorem dX10_sorts_18 : decode cX10_sorts 18 = .ok (.invokevirtual 294, 3) := by decide +kernel
theorem dX10_sorts_21 : decode cX10_sorts 21 = .ok (.aload_n 0, 1) := by decide +kernel
theorem dX10_sorts_22 : decode cX10_sorts 22 = .ok (.iload_n 1, 1) := by decide +kernel
theorem dX10_sorts_23 : decode cX10_sorts 23 = .ok (.invokevirtual 309, 3) := by decide +kernel
theorem dX10_sorts_26 : decode cX10_sorts 26 = .ok (.istore_n 2, 1) := by decide +kernel
theorem dX10_sorts_27 : decode cX10_sorts 27 = .ok (.iload_n 2, 1) := by decide +kernel
theorem dX10_sorts_28 : decode cX10_sorts 28 = .ok (.ifCond .ge 5, 3) := by decide +kernel
theorem dX10_sorts_31 : decode cX10_sorts 31 = .ok (.iload_n 2, 1) := by decide +kernel
theorem dX10_sorts_32 : decode cX10_sorts 32 = .ok (.ireturn, 1) := by decide +kernel
theorem dX10_sorts_33 : decode cX10_sorts 33 = .ok (.aload_n 0, 1) := by decide +kernel
theorem dX10_sorts_34 : decode cX10_sorts 34 = .ok (.invokevirtual 297, 3) := by decide +kernel
theorem dX10_sorts_37 : decode cX10_sorts 37 = .ok (.iload_n 2, 1) := by decide +kernel
theorem dX10_sorts_38 : decode cX10_sorts 38 = .ok (.ireturn, 1) := by decide +kernel
set_option maxHeartbeats 4000000 in
set_option maxRecDepth 100000 in
theorem c_Model_sorts (l : Launch) (G : fm_G) (N : Nat) (M : fm_M) (v1 : Int32) (r : Int32) (M' : fm_M) (hf : pModel_sorts N M v1 = some (r, M')) : fm_Met l yX10_sorts cX10_sorts 3 (some .int) { frames := 6, cells := 0, slots := 0, locals := 140 } shM G [.ref (G.2.1 0), .int v1] M (some (.int r)) M' := by
  refine fm_enter (by decide) (Nat.le_of_ble_eq_true rfl) ?_
  intro p e s m args below meth c ls C E hl
  have hl : lv_has ls 3 [(0, .ref (G.2.1 0)), (1, .int v1)] := hl
  unfold pModel_sorts at hf
  refine lv_aload_n C.1 C.2.1 dX10_sorts_0 rfl (lv_at hl 0 rfl) ?_
  refine lv_iconst (v := 0) C.1 C.2.1 dX10_sorts_1 (by decide) ?_
  obtain ⟨M2, e2, hf⟩ := fm_pt_s hf
  refine fm_put' C E e2 lp_X10_77 hM_0 rfl dX10_sorts_2 (fun H locs E => ?_)
  refine lv_iload_n C.1 C.2.1 dX10_sorts_5 rfl (lv_at hl 1 rfl) ?_
  refine lv_iconst (v := 1) C.1 C.2.1 dX10_sorts_6 (by decide) ?_
  refine lv_bipush (v := 48) C.1 C.2.1 dX10_sorts_7 (by decide) ?_
  obtain ⟨x9, hc9, hf⟩ := fm_bd hf
  refine fm_callS C E [.int _, .int _, .int _] [] lm_X10_83 wk_X10_in (c_Model_in l G _ _ _ _ _  hc9) rfl hl.1 (by simp [Value.category]) ⟨⟨rfl, rfl⟩, by decide, by decide⟩ ⟨by decide, by decide⟩ dX10_sorts_9 rfl (fun H locs E => ?_)
  refine W.eq (g2 := F0 m 12 ls (.int x9 :: [])) rfl ?_
  refine lv_if_ne (tgt := 17) C.1 C.2.1 dX10_sorts_12 (by decide) (fun hc12 => ?_) (fun hc12 => ?_)
  · have hf := fm_in' hf hc12
    refine lv_aload_n C.1 C.2.1 dX10_sorts_17 rfl (lv_at hl 0 rfl) ?_
    obtain ⟨M18, hc18, hf⟩ := fm_bd hf
    refine fm_callV C E [] [] lm_X10_294 wk_X10_lay (c_Model_lay l G N _ _ hc18) hM_0 rfl rfl rfl hl.1 (by simp [Value.category]) ⟨⟨rfl, rfl⟩, by decide, by decide⟩ ⟨by decide, by decide⟩ dX10_sorts_18 rfl (fun H locs E => ?_)
    refine W.eq (g2 := F0 m 21 ls []) rfl ?_
    refine lv_aload_n C.1 C.2.1 dX10_sorts_21 rfl (lv_at hl 0 rfl) ?_
    refine lv_iload_n C.1 C.2.1 dX10_sorts_22 rfl (lv_at hl 1 rfl) ?_
    obtain ⟨⟨x23, M23⟩, hc23, hf⟩ := fm_bd hf
    dsimp only at hf
    refine fm_callV C E [.int _] [] lm_X10_309 wk_X10_goSort (c_Model_goSort l G N _ _ _ _ hc23) hM_0 rfl rfl rfl hl.1 (by simp [Value.category]) ⟨⟨rfl, rfl⟩, by decide, by decide⟩ ⟨by decide, by decide⟩ dX10_sorts_23 rfl (fun H locs E => ?_)
    refine W.eq (g2 := F0 m 26 ls (.int x23 :: [])) rfl ?_
    refine lv_istore_n (lv' := [(2, .int _), (0, .ref _), (1, .int _)]) C.1 C.2.1 dX10_sorts_26 rfl hl (by decide) rfl (fun ls hl => ?_)
    refine lv_iload_n C.1 C.2.1 dX10_sorts_27 rfl (lv_at hl 0 rfl) ?_
    refine lv_if_ge (tgt := 33) C.1 C.2.1 dX10_sorts_28 (by decide) (fun hc28 => ?_) (fun hc28 => ?_)
    · have hf := fm_ip hf hc28
      refine lv_aload_n C.1 C.2.1 dX10_sorts_33 rfl (lv_at hl 1 rfl) ?_
      obtain ⟨M34, hc34, hf⟩ := fm_bd hf
      refine fm_callV C E [] [] lm_X10_297 wk_X10_note (c_Model_note l G N _ _ hc34) hM_0 rfl rfl rfl hl.1 (by simp [Value.category]) ⟨⟨rfl, rfl⟩, by decide, by decide⟩ ⟨by decide, by decide⟩ dX10_sorts_34 rfl (fun H locs E => ?_)
      refine W.eq (g2 := F0 m 37 ls []) rfl ?_
      refine lv_iload_n C.1 C.2.1 dX10_sorts_37 rfl (lv_at hl 0 rfl) ?_
      obtain ⟨rfl, rfl⟩ := fm_rt2 hf
      exact fm_iret C E rfl rfl dX10_sorts_38
    · have hf := fm_in' hf hc28
      refine lv_iload_n C.1 C.2.1 dX10_sorts_31 rfl (lv_at hl 0 rfl) ?_
      obtain ⟨rfl, rfl⟩ := fm_rt2 hf
      exact fm_iret C E rfl rfl dX10_sorts_32
  · have hf := fm_ip hf hc12
    refine lv_iconst (v := (-1)) C.1 C.2.1 dX10_sorts_15 (by decide) ?_
    obtain ⟨rfl, rfl⟩ := fm_rt2 hf
    exact fm_iret C E rfl rfl dX10_sorts_16
theorem dX10_goes_0 : decode cX10_goes 0 = .ok (.aload_n 0, 1) := by decide +kernel
theorem dX10_goes_1 : decode cX10_goes 1 = .ok (.iconst 0, 1) := by decide +kernel
theorem dX10_goes_2 : decode cX10_goes 2 = .ok (.putfield 77, 3) := by decide +kernel
theorem dX10_goes_5 : decode cX10_goes 5 = .ok (.iload_n 1, 1) := by decide +kernel
theorem dX10_goes_6 : decode cX10_goes 6 = .ok (.iconst 0, 1) := by decide +kernel
theorem dX10_goes_7 : decode cX10_goes 7 = .ok (.aload_n 0, 1) := by decide +kernel
theorem dX10_goes_8 : decode cX10_goes 8 = .ok (.getfield 9, 3) := by decide +kernel
theorem dX10_goes_11 : decode cX10_goes 11 = .ok (.bipush 40, 2) := by decide +kernel
theorem dX10_goes_13 : decode cX10_goes 13 = .ok (.iaload, 1) := by decide +kernel
theorem dX10_goes_14 : decode cX10_goes 14 = .ok (.iconst 1, 1) := by decide +kernel
theorem dX10_goes_15 : decode cX10_goes 15 = .ok (.isub, 1) := by decide +kernel
theorem dX10_goes_16 : decode cX10_goes 16 = .ok (.invokestatic 83, 3) := by decide +kernel
theorem dX10_goes_19 : decode cX10_goes 19 = .ok (.ifCond .ne 5, 3) := by decide +kernel
theorem dX10_goes_22 : decode cX10_goes 22 = .ok (.iconst (-1), 1) := by decide +kernel
theorem dX10_goes_23 : decode cX10_goes 23 = .ok (.ireturn, 1) := by decide +kernel
theorem dX10_goes_24 : decode cX10_goes 24 = .ok (.aload_n 0, 1) := by decide +kernel
theorem dX10_goes_25 : decode cX10_goes 25 = .ok (.invokevirtual 132, 3) := by decide +kernel
theorem dX10_goes_28 : decode cX10_goes 28 = .ok (.aload_n 0, 1) := by decide +kernel
theorem dX10_goes_29 : decode cX10_goes 29 = .ok (.getfield 9, 3) := by decide +kernel
theorem dX10_goes_32 : decode cX10_goes 32 = .ok (.bipush 40, 2) := by decide +kernel
theorem dX10_goes_34 : decode cX10_goes 34 = .ok (.dup2, 1) := by decide +kernel
theorem dX10_goes_35 : decode cX10_goes 35 = .ok (.iaload, 1) := by decide +kernel
theorem dX10_goes_36 : decode cX10_goes 36 = .ok (.iconst 1, 1) := by decide +kernel
theorem dX10_goes_37 : decode cX10_goes 37 = .ok (.isub, 1) := by decide +kernel
theorem dX10_goes_38 : decode cX10_goes 38 = .ok (.iastore, 1) := by decide +kernel
theorem dX10_goes_39 : decode cX10_goes 39 = .ok (.bipush 41, 2) := by decide +kernel
theorem dX10_goes_41 : decode cX10_goes 41 = .ok (.bipush 15, 2) := by decide +kernel
theorem dX10_goes_43 : decode cX10_goes 43 = .ok (.iload_n 1, 1) := by decide +kernel
theorem dX10_goes_44 : decode cX10_goes 44 = .ok (.imul, 1) := by decide +kernel
theorem dX10_goes_45 : decode cX10_goes 45 = .ok (.iadd, 1) := by decide +kernel
theorem dX10_goes_46 : decode cX10_goes 46 = .ok (.istore_n 2, 1) := by decide +kernel
theorem dX10_goes_47 : decode cX10_goes 47 = .ok (.iload_n 2, 1) := by decide +kernel
theorem dX10_goes_48 : decode cX10_goes 48 = .ok (.bipush 41, 2) := by decide +kernel
theorem dX10_goes_50 : decode cX10_goes 50 = .ok (.bipush 15, 2) := by decide +kernel
theorem dX10_goes_52 : decode cX10_goes 52 = .ok (.aload_n 0, 1) := by decide +kernel
theorem dX10_goes_53 : decode cX10_goes 53 = .ok (.getfield 9, 3) := by decide +kernel
theorem dX10_goes_56 : decode cX10_goes 56 = .ok (.bipush 40, 2) := by decide +kernel
theorem dX10_goes_58 : decode cX10_goes 58 = .ok (.iaload, 1) := by decide +kernel
theorem dX10_goes_59 : decode cX10_goes 59 = .ok (.imul, 1) := by decide +kernel
theorem dX10_goes_60 : decode cX10_goes 60 = .ok (.iadd, 1) := by decide +kernel
theorem dX10_goes_61 : decode cX10_goes 61 = .ok (.if_icmp .ge 24, 3) := by decide +kernel
theorem dX10_goes_64 : decode cX10_goes 64 = .ok (.aload_n 0, 1) := by decide +kernel
theorem dX10_goes_65 : decode cX10_goes 65 = .ok (.getfield 9, 3) := by decide +kernel
theorem dX10_goes_68 : decode cX10_goes 68 = .ok (.iload_n 2, 1) := by decide +kernel
theorem dX10_goes_69 : decode cX10_goes 69 = .ok (.aload_n 0, 1) := by decide +kernel
theorem dX10_goes_70 : decode cX10_goes 70 = .ok (.getfield 9, 3) := by decide +kernel
theorem dX10_goes_73 : decode cX10_goes 73 = .ok (.iload_n 2, 1) := by decide +kernel
theorem dX10_goes_74 : decode cX10_goes 74 = .ok (.bipush 15, 2) := by decide +kernel
theorem dX10_goes_76 : decode cX10_goes 76 = .ok (.iadd, 1) := by decide +kernel
theorem dX10_goes_77 : decode cX10_goes 77 = .ok (.iaload, 1) := by decide +kernel
theorem dX10_goes_78 : decode cX10_goes 78 = .ok (.iastore, 1) := by decide +kernel
theorem dX10_goes_79 : decode cX10_goes 79 = .ok (.iinc 2 1, 3) := by decide +kernel
theorem dX10_goes_82 : decode cX10_goes 82 = .ok (.goto (-35), 3) := by decide +kernel
theorem dX10_goes_85 : decode cX10_goes 85 = .ok (.iconst 0, 1) := by decide +kernel
theorem dX10_goes_86 : decode cX10_goes 86 = .ok (.istore_n 2, 1) := by decide +kernel
theorem dX10_goes_87 : decode cX10_goes 87 = .ok (.iload_n 2, 1) := by decide +kernel
theorem dX10_goes_88 : decode cX10_goes 88 = .ok (.bipush 15, 2) := by decide +kernel
theorem dX10_goes_90 : decode cX10_goes 90 = .ok (.if_icmp .ge 30, 3) := by decide +kernel
theorem dX10_goes_93 : decode cX10_goes 93 = .ok (.aload_n 0, 1) := by decide +kernel
theorem dX10_goes_94 : decode cX10_goes 94 = .ok (.getfield 9, 3) := by decide +kernel
theorem dX10_goes_97 : decode cX10_goes 97 = .ok (.bipush 41, 2) := by decide +kernel
theorem dX10_goes_99 : decode cX10_goes 99 = .ok (.bipush 15, 2) := by decide +kernel
theorem dX10_goes_101 : decode cX10_goes 101 = .ok (.aload_n 0, 1) := by decide +kernel
theorem dX10_goes_102 : decode cX10_goes 102 = .ok (.getfield 9, 3) := by decide +kernel
theorem dX10_goes_105 : decode cX10_goes 105 = .ok (.bipush 40, 2) := by decide +kernel
theorem dX10_goes_107 : decode cX10_goes 107 = .ok (.iaload, 1) := by decide +kernel
theorem dX10_goes_108 : decode cX10_goes 108 = .ok (.imul, 1) := by decide +kernel
theorem dX10_goes_109 : decode cX10_goes 109 = .ok (.iadd, 1) := by decide +kernel
theorem dX10_goes_110 : decode cX10_goes 110 = .ok (.iload_n 2, 1) := by decide +kernel
theorem dX10_goes_111 : decode cX10_goes 111 = .ok (.iadd, 1) := by decide +kernel
theorem dX10_goes_112 : decode cX10_goes 112 = .ok (.iconst 0, 1) := by decide +kernel
theorem dX10_goes_113 : decode cX10_goes 113 = .ok (.iastore, 1) := by decide +kernel
theorem dX10_goes_114 : decode cX10_goes 114 = .ok (.iinc 2 1, 3) := by decide +kernel
theorem dX10_goes_117 : decode cX10_goes 117 = .ok (.goto (-30), 3) := by decide +kernel
theorem dX10_goes_120 : decode cX10_goes 120 = .ok (.aload_n 0, 1) := by decide +kernel
theorem dX10_goes_121 : decode cX10_goes 121 = .ok (.getfield 9, 3) := by decide +kernel
theorem dX10_goes_124 : decode cX10_goes 124 = .ok (.bipush 40, 2) := by decide +kernel
theorem dX10_goes_126 : decode cX10_goes 126 = .ok (.iaload, 1) := by decide +kernel
theorem dX10_goes_127 : decode cX10_goes 127 = .ok (.ireturn, 1) := by decide +kernel
set_option maxHeartbeats 4000000 in
set_option maxRecDepth 100000 in
theorem c_Model_goes (l : Launch) (G : fm_G) (N : Nat) (M : fm_M) (v1 : Int32) (r : Int32) (M' : fm_M) (hf : pModel_goes N M v1 = some (r, M')) : fm_Met l yX10_goes cX10_goes 3 (some .int) { frames := 2, cells := 0, slots := 0, locals := 41 } shM G [.ref (G.2.1 0), .int v1] M (some (.int r)) M' := by
  refine fm_enter (by decide) (Nat.le_of_ble_eq_true rfl) ?_
  intro p e s m args below meth c ls C E hl
  have hl : lv_has ls 3 [(0, .ref (G.2.1 0)), (1, .int v1)] := hl
  have L87 : ∀ (n87 : Nat) (v2 : Int32) (M : fm_M) (H : Heap) (locs : List Loc) (ls : Array Slot), fm_Wd shM G M s H locs → lv_has ls 3 [(0, .ref (G.2.1 0)), (2, .int v2)] → fm_lp (pModel_goes_L87 N) n87 (v2, M) = some (r, M') → W p l e { frames := 2, cells := 0, slots := 0, locals := 41 } s m args below meth c H locs 0 0 (fm_Z below shM G args s (some (.int r)) M') (F0 m 87 ls []) := by
    intro  n87
    induction n87 with
    | zero => intro v2 M H locs ls E hl hf; exact fm_lp_0 hf
    | succ n87 ih87 =>
      intro v2 M H locs ls E hl hf
      have hf : pModel_goes_L87b N (fm_lp (pModel_goes_L87 N) n87) v2 M = some (r, M') := hf
      unfold pModel_goes_L87b at hf
      refine lv_iload_n C.1 C.2.1 dX10_goes_87 rfl (lv_at hl 1 rfl) ?_
      refine lv_bipush (v := 15) C.1 C.2.1 dX10_goes_88 (by decide) ?_
      refine lv_icmp_ge (tgt := 120) C.1 C.2.1 dX10_goes_90 (by decide) (fun hc90 => ?_) (fun hc90 => ?_)
      · have hf := fm_ip hf hc90
        refine lv_aload_n C.1 C.2.1 dX10_goes_120 rfl (lv_at hl 0 rfl) ?_
        refine fm_getr C E lf_X10_9 hM_0 rfl dX10_goes_121 ?_
        refine lv_bipush (v := 40) C.1 C.2.1 dX10_goes_124 (by decide) ?_
        refine fm_ialdc C E 40 (by decide) hM_1 (by decide) dX10_goes_126 ?_
        obtain ⟨rfl, rfl⟩ := fm_rt2 hf
        exact fm_iret C E rfl rfl dX10_goes_127
      · have hf := fm_in' hf hc90
        refine lv_aload_n C.1 C.2.1 dX10_goes_93 rfl (lv_at hl 0 rfl) ?_
        refine fm_getr C E lf_X10_9 hM_0 rfl dX10_goes_94 ?_
        refine lv_bipush (v := 41) C.1 C.2.1 dX10_goes_97 (by decide) ?_
        refine lv_bipush (v := 15) C.1 C.2.1 dX10_goes_99 (by decide) ?_
        refine lv_aload_n C.1 C.2.1 dX10_goes_101 rfl (lv_at hl 0 rfl) ?_
        refine fm_getr C E lf_X10_9 hM_0 rfl dX10_goes_102 ?_
        refine lv_bipush (v := 40) C.1 C.2.1 dX10_goes_105 (by decide) ?_
        refine fm_ialdc C E 40 (by decide) hM_1 (by decide) dX10_goes_107 ?_
        refine lv_imul C.1 C.2.1 dX10_goes_108 ?_
        refine lv_iadd C.1 C.2.1 dX10_goes_109 ?_
        refine lv_iload_n C.1 C.2.1 dX10_goes_110 rfl (lv_at hl 1 rfl) ?_
        refine lv_iadd C.1 C.2.1 dX10_goes_111 ?_
        refine lv_iconst (v := 0) C.1 C.2.1 dX10_goes_112 (by decide) ?_
        obtain ⟨h113, M113, e113, hf⟩ := fm_st_e hf
        refine fm_iast' C E e113 hM_1 h113 dX10_goes_113 (fun H locs E => ?_)
        refine fm_iinc C (v := 1) (lv' := [(2, .int _), (0, .ref _)]) (k := 1) hl rfl (by decide) (by decide) rfl dX10_goes_114 (fun ls hl => ?_)
        refine lv_goto (tgt := 87) C.1 C.2.1 dX10_goes_117 (by decide) ?_
        exact ih87 _ _ _ _ _ E (lv_sub hl [1, 0] rfl) hf
  have L47 : ∀ (n47 : Nat) (v2 : Int32) (M : fm_M) (H : Heap) (locs : List Loc) (ls : Array Slot), fm_Wd shM G M s H locs → lv_has ls 3 [(0, .ref (G.2.1 0)), (2, .int v2)] → fm_lp (pModel_goes_L47 N) n47 (v2, M) = some (r, M') → W p l e { frames := 2, cells := 0, slots := 0, locals := 41 } s m args below meth c H locs 0 0 (fm_Z below shM G args s (some (.int r)) M') (F0 m 47 ls []) := by
    intro  n47
    induction n47 with
    | zero => intro v2 M H locs ls E hl hf; exact fm_lp_0 hf
    | succ n47 ih47 =>
      intro v2 M H locs ls E hl hf
      have hf : pModel_goes_L47b N (fm_lp (pModel_goes_L47 N) n47) v2 M = some (r, M') := hf
      unfold pModel_goes_L47b at hf
      refine lv_iload_n C.1 C.2.1 dX10_goes_47 rfl (lv_at hl 1 rfl) ?_
      refine lv_bipush (v := 41) C.1 C.2.1 dX10_goes_48 (by decide) ?_
      refine lv_bipush (v := 15) C.1 C.2.1 dX10_goes_50 (by decide) ?_
      refine lv_aload_n C.1 C.2.1 dX10_goes_52 rfl (lv_at hl 0 rfl) ?_
      refine fm_getr C E lf_X10_9 hM_0 rfl dX10_goes_53 ?_
      refine lv_bipush (v := 40) C.1 C.2.1 dX10_goes_56 (by decide) ?_
      refine fm_ialdc C E 40 (by decide) hM_1 (by decide) dX10_goes_58 ?_
      refine lv_imul C.1 C.2.1 dX10_goes_59 ?_
      refine lv_iadd C.1 C.2.1 dX10_goes_60 ?_
      refine lv_icmp_ge (tgt := 85) C.1 C.2.1 dX10_goes_61 (by decide) (fun hc61 => ?_) (fun hc61 => ?_)
      · have hf := fm_ip hf hc61
        refine lv_iconst (v := 0) C.1 C.2.1 dX10_goes_85 (by decide) ?_
        refine lv_istore_n (lv' := [(2, .int _), (0, .ref _)]) C.1 C.2.1 dX10_goes_86 rfl hl (by decide) rfl (fun ls hl => ?_)
        exact L87  N _ _ _ _ _ E (lv_sub hl [1, 0] rfl) hf
      · have hf := fm_in' hf hc61
        refine lv_aload_n C.1 C.2.1 dX10_goes_64 rfl (lv_at hl 0 rfl) ?_
        refine fm_getr C E lf_X10_9 hM_0 rfl dX10_goes_65 ?_
        refine lv_iload_n C.1 C.2.1 dX10_goes_68 rfl (lv_at hl 1 rfl) ?_
        refine lv_aload_n C.1 C.2.1 dX10_goes_69 rfl (lv_at hl 0 rfl) ?_
        refine fm_getr C E lf_X10_9 hM_0 rfl dX10_goes_70 ?_
        refine lv_iload_n C.1 C.2.1 dX10_goes_73 rfl (lv_at hl 1 rfl) ?_
        refine lv_bipush (v := 15) C.1 C.2.1 dX10_goes_74 (by decide) ?_
        refine lv_iadd C.1 C.2.1 dX10_goes_76 ?_
        obtain ⟨h77, x77, e77, hf⟩ := fm_ld_e hf
        refine fm_iald' C E e77 hM_1 h77 dX10_goes_77 ?_
        obtain ⟨h78, M78, e78, hf⟩ := fm_st_e hf
        refine fm_iast' C E e78 hM_1 h78 dX10_goes_78 (fun H locs E => ?_)
        refine fm_iinc C (v := 1) (lv' := [(2, .int _), (0, .ref _)]) (k := 1) hl rfl (by decide) (by decide) rfl dX10_goes_79 (fun ls hl => ?_)
        refine lv_goto (tgt := 47) C.1 C.2.1 dX10_goes_82 (by decide) ?_
        exact ih47 _ _ _ _ _ E (lv_sub hl [1, 0] rfl) hf
  unfold pModel_goes at hf
  refine lv_aload_n C.1 C.2.1 dX10_goes_0 rfl (lv_at hl 0 rfl) ?_
  refine lv_iconst (v := 0) C.1 C.2.1 dX10_goes_1 (by decide) ?_
  obtain ⟨M2, e2, hf⟩ := fm_pt_s hf
  refine fm_put' C E e2 lp_X10_77 hM_0 rfl dX10_goes_2 (fun H locs E => ?_)
  refine lv_iload_n C.1 C.2.1 dX10_goes_5 rfl (lv_at hl 1 rfl) ?_
  refine lv_iconst (v := 0) C.1 C.2.1 dX10_goes_6 (by decide) ?_
  refine lv_aload_n C.1 C.2.1 dX10_goes_7 rfl (lv_at hl 0 rfl) ?_
  refine fm_getr C E lf_X10_9 hM_0 rfl dX10_goes_8 ?_
  refine lv_bipush (v := 40) C.1 C.2.1 dX10_goes_11 (by decide) ?_
  refine fm_ialdc C E 40 (by decide) hM_1 (by decide) dX10_goes_13 ?_
  refine lv_iconst (v := 1) C.1 C.2.1 dX10_goes_14 (by decide) ?_
  refine lv_isub C.1 C.2.1 dX10_goes_15 ?_
  obtain ⟨x16, hc16, hf⟩ := fm_bd hf
  refine fm_callS C E [.int _, .int _, .int _] [] lm_X10_83 wk_X10_in (c_Model_in l G _ _ _ _ _  hc16) rfl hl.1 (by simp [Value.category]) ⟨⟨rfl, rfl⟩, by decide, by decide⟩ ⟨by decide, by decide⟩ dX10_goes_16 rfl (fun H locs E => ?_)
  refine W.eq (g2 := F0 m 19 ls (.int x16 :: [])) rfl ?_
  refine lv_if_ne (tgt := 24) C.1 C.2.1 dX10_goes_19 (by decide) (fun hc19 => ?_) (fun hc19 => ?_)
  · have hf := fm_in' hf hc19
    refine lv_aload_n C.1 C.2.1 dX10_goes_24 rfl (lv_at hl 0 rfl) ?_
    obtain ⟨M25, hc25, hf⟩ := fm_bd hf
    refine fm_callV C E [] [] lm_X10_132 wk_X10_change (c_Model_change l G N _ _ hc25) hM_0 rfl rfl rfl hl.1 (by simp [Value.category]) ⟨⟨rfl, rfl⟩, by decide, by decide⟩ ⟨by decide, by decide⟩ dX10_goes_25 rfl (fun H locs E => ?_)
    refine W.eq (g2 := F0 m 28 ls []) rfl ?_
    refine lv_aload_n C.1 C.2.1 dX10_goes_28 rfl (lv_at hl 0 rfl) ?_
    refine fm_getr C E lf_X10_9 hM_0 rfl dX10_goes_29 ?_
    refine lv_bipush (v := 40) C.1 C.2.1 dX10_goes_32 (by decide) ?_
    refine lv_dup2_11 C.1 C.2.1 dX10_goes_34 rfl rfl ?_
    refine fm_ialdc C E 40 (by decide) hM_1 (by decide) dX10_goes_35 ?_
    refine lv_iconst (v := 1) C.1 C.2.1 dX10_goes_36 (by decide) ?_
    refine lv_isub C.1 C.2.1 dX10_goes_37 ?_
    obtain ⟨M38, e38, hf⟩ := fm_pt_s hf
    refine fm_iastc' C E 40 (by decide) e38 hM_1 (by decide) dX10_goes_38 (fun H locs E => ?_)
    refine lv_bipush (v := 41) C.1 C.2.1 dX10_goes_39 (by decide) ?_
    refine lv_bipush (v := 15) C.1 C.2.1 dX10_goes_41 (by decide) ?_
    refine lv_iload_n C.1 C.2.1 dX10_goes_43 rfl (lv_at hl 1 rfl) ?_
    refine lv_imul C.1 C.2.1 dX10_goes_44 ?_
    refine lv_iadd C.1 C.2.1 dX10_goes_45 ?_
    refine lv_istore_n (lv' := [(2, .int _), (0, .ref _), (1, .int _)]) C.1 C.2.1 dX10_goes_46 rfl hl (by decide) rfl (fun ls hl => ?_)
    exact L47  N _ _ _ _ _ E (lv_sub hl [1, 0] rfl) hf
  · have hf := fm_ip hf hc19
    refine lv_iconst (v := (-1)) C.1 C.2.1 dX10_goes_22 (by decide) ?_
    obtain ⟨rfl, rfl⟩ := fm_rt2 hf
    exact fm_iret C E rfl rfl dX10_goes_23
theorem dX10_refusesAim_0 : decode cX10_refusesAim 0 = .ok (.iload_n 1, 1) := by decide +kernel
theorem dX10_refusesAim_1 : decode cX10_refusesAim 1 = .ok (.iconst 0, 1) := by decide +kernel
theorem dX10_refusesAim_2 : decode cX10_refusesAim 2 = .ok (.aload_n 0, 1) := by decide +kernel
theorem dX10_refusesAim_3 : decode cX10_refusesAim 3 = .ok (.getfield 9, 3) := by decide +kernel
theorem dX10_refusesAim_6 : decode cX10_refusesAim 6 = .ok (.bipush 40, 2) := by decide +kernel
theorem dX10_refusesAim_8 : decode cX10_refusesAim 8 = .ok (.iaload, 1) := by decide +kernel
theorem dX10_refusesAim_9 : decode cX10_refusesAim 9 = .ok (.iconst 1, 1) := by decide +kernel
theorem dX10_refusesAim_10 : decode cX10_refusesAim 10 = .ok (.isub, 1) := by decide +kernel
theorem dX10_refusesAim_11 : decode cX10_refusesAim 11 = .ok (.invokestatic 83, 3) := by decide +kernel
theorem dX10_refusesAim_14 : decode cX10_refusesAim 14 = .ok (.ifCond .eq 36, 3) := by decide +kernel
theorem dX10_refusesAim_17 : decode cX10_refusesAim 17 = .ok (.iload_n 2, 1) := by decide +kernel
theorem dX10_refusesAim_18 : decode cX10_refusesAim 18 = .ok (.iconst 0, 1) := by decide +kernel
theorem dX10_refusesAim_19 : decode cX10_refusesAim 19 = .ok (.iconst 1, 1) := by decide +kernel
theorem dX10_refusesAim_20 : decode cX10_refusesAim 20 = .ok (.invokestatic 83, 3) := by decide +kernel
theorem dX10_refusesAim_23 : decode cX10_refusesAim 23 = .ok (.ifCond .eq 27, 3) := by decide +kernel
theorem dX10_refusesAim_26 : decode cX10_refusesAim 26 = .ok (.iload_n 2, 1) := by decide +kernel
theorem dX10_refusesAim_27 : decode cX10_refusesAim 27 = .ok (.ifCond .ne 13, 3) := by decide +kernel
theorem dX10_refusesAim_30 : decode cX10_refusesAim 30 = .ok (.iload_n 3, 1) := by decide +kernel
theorem dX10_refusesAim_31 : decode cX10_refusesAim 31 = .ok (.invokestatic 182, 3) := by decide +kernel
theorem dX10_refusesAim_34 : decode cX10_refusesAim 34 = .ok (.ifCond .eq 16, 3) := by decide +kernel
theorem dX10_refusesAim_37 : decode cX10_refusesAim 37 = .ok (.goto 15, 3) := by decide +kernel
theorem dX10_refusesAim_40 : decode cX10_refusesAim 40 = .ok (.iload_n 3, 1) := by decide +kernel
theorem dX10_refusesAim_41 : decode cX10_refusesAim 41 = .ok (.iconst 1, 1) := by decide +kernel
theorem dX10_refusesAim_42 : decode cX10_refusesAim 42 = .ok (.bipush 9, 2) := by decide +kernel
theorem dX10_refusesAim_44 : decode cX10_refusesAim 44 = .ok (.invokestatic 83, 3) := by decide +kernel
theorem dX10_refusesAim_47 : decode cX10_refusesAim 47 = .ok (.ifCond .ne 5, 3) := by decide +kernel
theorem dX10_refusesAim_50 : decode cX10_refusesAim 50 = .ok (.iconst (-1), 1) := by decide +kernel
theorem dX10_refusesAim_51 : decode cX10_refusesAim 51 = .ok (.ireturn, 1) := by decide +kernel
theorem dX10_refusesAim_52 : decode cX10_refusesAim 52 = .ok (.aload_n 0, 1) := by decide +kernel
theorem dX10_refusesAim_53 : decode cX10_refusesAim 53 = .ok (.iload_n 1, 1) := by decide +kernel
theorem dX10_refusesAim_54 : decode cX10_refusesAim 54 = .ok (.iload_n 2, 1) := by decide +kernel
theorem dX10_refusesAim_55 : decode cX10_refusesAim 55 = .ok (.invokevirtual 160, 3) := by decide +kernel
theorem dX10_refusesAim_58 : decode cX10_refusesAim 58 = .ok (.iload_n 3, 1) := by decide +kernel
theorem dX10_refusesAim_59 : decode cX10_refusesAim 59 = .ok (.if_icmp .ne 8, 3) := by decide +kernel
theorem dX10_refusesAim_62 : decode cX10_refusesAim 62 = .ok (.bipush (-2), 2) := by decide +kernel
theorem dX10_refusesAim_64 : decode cX10_refusesAim 64 = .ok (.goto 4, 3) := by decide +kernel
theorem dX10_refusesAim_67 : decode cX10_refusesAim 67 = .ok (.iconst 0, 1) := by decide +kernel
theorem dX10_refusesAim_68 : decode cX10_refusesAim 68 = .ok (.ireturn, 1) := by decide +kernel
set_option maxHeartbeats 4000000 in
set_option maxRecDepth 100000 in
theorem c_Model_refusesAim (l : Launch) (G : fm_G) (M : fm_M) (v1 : Int32) (v2 : Int32) (v3 : Int32) (r : Int32) (hf : pModel_refusesAim M v1 v2 v3 = some r) : fm_Met l yX10_refusesAim cX10_refusesAim 4 (some .int) { frames := 2, cells := 0, slots := 0, locals := 42 } shM G [.ref (G.2.1 0), .int v1, .int v2, .int v3] M (some (.int r)) M := by
  refine fm_enter (by decide) (Nat.le_of_ble_eq_true rfl) ?_
  intro p e s m args below meth c ls C E hl
  have hl : lv_has ls 4 [(0, .ref (G.2.1 0)), (1, .int v1), (2, .int v2), (3, .int v3)] := hl
  have J52 : ∀ (v1 : Int32) (v2 : Int32) (v3 : Int32) (H : Heap) (locs : List Loc) (ls : Array Slot), fm_Wd shM G M s H locs → lv_has ls 4 [(0, .ref (G.2.1 0)), (1, .int v1), (2, .int v2), (3, .int v3)] → pModel_refusesAim_J52 M v1 v2 v3 = some r → W p l e { frames := 2, cells := 0, slots := 0, locals := 42 } s m args below meth c H locs 0 0 (fm_Z below shM G args s (some (.int r)) M) (F0 m 52 ls []) := by
    intro v1 v2 v3 H locs ls E hl hf
    unfold pModel_refusesAim_J52 at hf
    refine lv_aload_n C.1 C.2.1 dX10_refusesAim_52 rfl (lv_at hl 0 rfl) ?_
    refine lv_iload_n C.1 C.2.1 dX10_refusesAim_53 rfl (lv_at hl 1 rfl) ?_
    refine lv_iload_n C.1 C.2.1 dX10_refusesAim_54 rfl (lv_at hl 2 rfl) ?_
    obtain ⟨x55, hc55, hf⟩ := fm_bd hf
    refine fm_callV C E [.int _, .int _] [] lm_X10_160 wk_X10_ofSource (c_Model_ofSource l G _ _ _ _  hc55) hM_0 rfl rfl rfl hl.1 (by simp [Value.category]) ⟨⟨rfl, rfl⟩, by decide, by decide⟩ ⟨by decide, by decide⟩ dX10_refusesAim_55 rfl (fun H locs E => ?_)
    refine W.eq (g2 := F0 m 58 ls (.int x55 :: [])) rfl ?_
    refine lv_iload_n C.1 C.2.1 dX10_refusesAim_58 rfl (lv_at hl 3 rfl) ?_
    refine lv_icmp_ne (tgt := 67) C.1 C.2.1 dX10_refusesAim_59 (by decide) (fun hc59 => ?_) (fun hc59 => ?_)
    · have hf := fm_in' hf hc59
      refine lv_iconst (v := 0) C.1 C.2.1 dX10_refusesAim_67 (by decide) ?_
      obtain rfl := fm_rt1 hf
      exact fm_iret C E rfl rfl dX10_refusesAim_68
    · have hf := fm_ip hf hc59
      refine lv_bipush (v := (-2)) C.1 C.2.1 dX10_refusesAim_62 (by decide) ?_
      refine lv_goto (tgt := 68) C.1 C.2.1 dX10_refusesAim_64 (by decide) ?_
      obtain rfl := fm_rt1 hf
      exact fm_iret C E rfl rfl dX10_refusesAim_68
  unfold pModel_refusesAim at hf
  refine lv_iload_n C.1 C.2.1 dX10_refusesAim_0 rfl (lv_at hl 1 rfl) ?_
  refine lv_iconst (v := 0) C.1 C.2.1 dX10_refusesAim_1 (by decide) ?_
  refine lv_aload_n C.1 C.2.1 dX10_refusesAim_2 rfl (lv_at hl 0 rfl) ?_
  refine fm_getr C E lf_X10_9 hM_0 rfl dX10_refusesAim_3 ?_
  refine lv_bipush (v := 40) C.1 C.2.1 dX10_refusesAim_6 (by decide) ?_
  refine fm_ialdc C E 40 (by decide) hM_1 (by decide) dX10_refusesAim_8 ?_
  refine lv_iconst (v := 1) C.1 C.2.1 dX10_refusesAim_9 (by decide) ?_
  refine lv_isub C.1 C.2.1 dX10_refusesAim_10 ?_
  obtain ⟨x11, hc11, hf⟩ := fm_bd hf
  refine fm_callS C E [.int _, .int _, .int _] [] lm_X10_83 wk_X10_in (c_Model_in l G _ _ _ _ _  hc11) rfl hl.1 (by simp [Value.category]) ⟨⟨rfl, rfl⟩, by decide, by decide⟩ ⟨by decide, by decide⟩ dX10_refusesAim_11 rfl (fun H locs E => ?_)
  refine W.eq (g2 := F0 m 14 ls (.int x11 :: [])) rfl ?_
  refine lv_if_eq (tgt := 50) C.1 C.2.1 dX10_refusesAim_14 (by decide) (fun hc14 => ?_) (fun hc14 => ?_)
  · have hf := fm_ip hf hc14
    refine lv_iconst (v := (-1)) C.1 C.2.1 dX10_refusesAim_50 (by decide) ?_
    obtain rfl := fm_rt1 hf
    exact fm_iret C E rfl rfl dX10_refusesAim_51
  · have hf := fm_in' hf hc14
    refine lv_iload_n C.1 C.2.1 dX10_refusesAim_17 rfl (lv_at hl 2 rfl) ?_
    refine lv_iconst (v := 0) C.1 C.2.1 dX10_refusesAim_18 (by decide) ?_
    refine lv_iconst (v := 1) C.1 C.2.1 dX10_refusesAim_19 (by decide) ?_
    obtain ⟨x20, hc20, hf⟩ := fm_bd hf
    refine fm_callS C E [.int _, .int _, .int _] [] lm_X10_83 wk_X10_in (c_Model_in l G _ _ _ _ _  hc20) rfl hl.1 (by simp [Value.category]) ⟨⟨rfl, rfl⟩, by decide, by decide⟩ ⟨by decide, by decide⟩ dX10_refusesAim_20 rfl (fun H locs E => ?_)
    refine W.eq (g2 := F0 m 23 ls (.int x20 :: [])) rfl ?_
    refine lv_if_eq (tgt := 50) C.1 C.2.1 dX10_refusesAim_23 (by decide) (fun hc23 => ?_) (fun hc23 => ?_)
    · have hf := fm_ip hf hc23
      refine lv_iconst (v := (-1)) C.1 C.2.1 dX10_refusesAim_50 (by decide) ?_
      obtain rfl := fm_rt1 hf
      exact fm_iret C E rfl rfl dX10_refusesAim_51
    · have hf := fm_in' hf hc23
      refine lv_iload_n C.1 C.2.1 dX10_refusesAim_26 rfl (lv_at hl 2 rfl) ?_
      refine lv_if_ne (tgt := 40) C.1 C.2.1 dX10_refusesAim_27 (by decide) (fun hc27 => ?_) (fun hc27 => ?_)
      · have hf := fm_in' hf hc27
        refine lv_iload_n C.1 C.2.1 dX10_refusesAim_40 rfl (lv_at hl 3 rfl) ?_
        refine lv_iconst (v := 1) C.1 C.2.1 dX10_refusesAim_41 (by decide) ?_
        refine lv_bipush (v := 9) C.1 C.2.1 dX10_refusesAim_42 (by decide) ?_
        obtain ⟨x44, hc44, hf⟩ := fm_bd hf
        refine fm_callS C E [.int _, .int _, .int _] [] lm_X10_83 wk_X10_in (c_Model_in l G _ _ _ _ _  hc44) rfl hl.1 (by simp [Value.category]) ⟨⟨rfl, rfl⟩, by decide, by decide⟩ ⟨by decide, by decide⟩ dX10_refusesAim_44 rfl (fun H locs E => ?_)
        refine W.eq (g2 := F0 m 47 ls (.int x44 :: [])) rfl ?_
        refine lv_if_ne (tgt := 52) C.1 C.2.1 dX10_refusesAim_47 (by decide) (fun hc47 => ?_) (fun hc47 => ?_)
        · have hf := fm_in' hf hc47
          exact J52 _ _ _ _ _ _ E (lv_sub hl [0, 1, 2, 3] rfl) hf
        · have hf := fm_ip hf hc47
          refine lv_iconst (v := (-1)) C.1 C.2.1 dX10_refusesAim_50 (by decide) ?_
          obtain rfl := fm_rt1 hf
          exact fm_iret C E rfl rfl dX10_refusesAim_51
      · have hf := fm_ip hf hc27
        refine lv_iload_n C.1 C.2.1 dX10_refusesAim_30 rfl (lv_at hl 3 rfl) ?_
        obtain ⟨x31, hc31, hf⟩ := fm_bd hf
        refine fm_callS C E [.int _] [] lm_X10_182 wk_X10_isSide (c_Model_isSide l G _ _ _  hc31) rfl hl.1 (by simp [Value.category]) ⟨⟨rfl, rfl⟩, by decide, by decide⟩ ⟨by decide, by decide⟩ dX10_refusesAim_31 rfl (fun H locs E => ?_)
        refine W.eq (g2 := F0 m 34 ls (.int x31 :: [])) rfl ?_
        refine lv_if_eq (tgt := 50) C.1 C.2.1 dX10_refusesAim_34 (by decide) (fun hc34 => ?_) (fun hc34 => ?_)
        · have hf := fm_ip hf hc34
          refine lv_iconst (v := (-1)) C.1 C.2.1 dX10_refusesAim_50 (by decide) ?_
          obtain rfl := fm_rt1 hf
          exact fm_iret C E rfl rfl dX10_refusesAim_51
        · have hf := fm_in' hf hc34
          refine lv_goto (tgt := 52) C.1 C.2.1 dX10_refusesAim_37 (by decide) ?_
          exact J52 _ _ _ _ _ _ E (lv_sub hl [0, 1, 2, 3] rfl) hf
theorem dX10_aims_0 : decode cX10_aims 0 = .ok (.aload_n 0, 1) := by decide +kernel
theorem dX10_aims_1 : decode cX10_aims 1 = .ok (.iconst 0, 1) := by decide +kernel
theorem dX10_aims_2 : decode cX10_aims 2 = .ok (.putfield 77, 3) := by decide +kernel
theorem dX10_aims_5 : decode cX10_aims 5 = .ok (.aload_n 0, 1) := by decide +kernel
theorem dX10_aims_6 : decode cX10_aims 6 = .ok (.iload_n 1, 1) := by decide +kernel
theorem dX10_aims_7 : decode cX10_aims 7 = .ok (.iload_n 2, 1) := by decide +kernel
theorem dX10_aims_8 : decode cX10_aims 8 = .ok (.iload_n 3, 1) := by decide +kernel
theorem dX10_aims_9 : decode cX10_aims 9 = .ok (.invokevirtual 312, 3) := by decide +kernel
theorem dX10_aims_12 : decode cX10_aims 12 = .ok (.istore 4, 2) := by decide +kernel
theorem dX10_aims_14 : decode cX10_aims 14 = .ok (.iload 4, 2) := by decide +kernel
theorem dX10_aims_16 : decode cX10_aims 16 = .ok (.ifCond .ge 6, 3) := by decide +kernel
theorem dX10_aims_19 : decode cX10_aims 19 = .ok (.iload 4, 2) := by decide +kernel
theorem dX10_aims_21 : decode cX10_aims 21 = .ok (.ireturn, 1) := by decide +kernel
theorem dX10_aims_22 : decode cX10_aims 22 = .ok (.aload_n 0, 1) := by decide +kernel
theorem dX10_aims_23 : decode cX10_aims 23 = .ok (.invokevirtual 132, 3) := by decide +kernel
theorem dX10_aims_26 : decode cX10_aims 26 = .ok (.aload_n 0, 1) := by decide +kernel
theorem dX10_aims_27 : decode cX10_aims 27 = .ok (.iload_n 1, 1) := by decide +kernel
theorem dX10_aims_28 : decode cX10_aims 28 = .ok (.iload_n 2, 1) := by decide +kernel
theorem dX10_aims_29 : decode cX10_aims 29 = .ok (.invokevirtual 160, 3) := by decide +kernel
theorem dX10_aims_32 : decode cX10_aims 32 = .ok (.istore 5, 2) := by decide +kernel
theorem dX10_aims_34 : decode cX10_aims 34 = .ok (.aload_n 0, 1) := by decide +kernel
theorem dX10_aims_35 : decode cX10_aims 35 = .ok (.getfield 9, 3) := by decide +kernel
theorem dX10_aims_38 : decode cX10_aims 38 = .ok (.bipush 41, 2) := by decide +kernel
theorem dX10_aims_40 : decode cX10_aims 40 = .ok (.bipush 15, 2) := by decide +kernel
theorem dX10_aims_42 : decode cX10_aims 42 = .ok (.iload_n 1, 1) := by decide +kernel
theorem dX10_aims_43 : decode cX10_aims 43 = .ok (.imul, 1) := by decide +kernel
theorem dX10_aims_44 : decode cX10_aims 44 = .ok (.iadd, 1) := by decide +kernel
theorem dX10_aims_45 : decode cX10_aims 45 = .ok (.iload_n 2, 1) := by decide +kernel
theorem dX10_aims_46 : decode cX10_aims 46 = .ok (.iadd, 1) := by decide +kernel
theorem dX10_aims_47 : decode cX10_aims 47 = .ok (.iload_n 3, 1) := by decide +kernel
theorem dX10_aims_48 : decode cX10_aims 48 = .ok (.iastore, 1) := by decide +kernel
theorem dX10_aims_49 : decode cX10_aims 49 = .ok (.iload_n 2, 1) := by decide +kernel
theorem dX10_aims_50 : decode cX10_aims 50 = .ok (.ifCond .ne 11, 3) := by decide +kernel
theorem dX10_aims_53 : decode cX10_aims 53 = .ok (.bipush 8, 2) := by decide +kernel
theorem dX10_aims_55 : decode cX10_aims 55 = .ok (.iload 5, 2) := by decide +kernel
theorem dX10_aims_57 : decode cX10_aims 57 = .ok (.iadd, 1) := by decide +kernel
theorem dX10_aims_58 : decode cX10_aims 58 = .ok (.goto 5, 3) := by decide +kernel
theorem dX10_aims_61 : decode cX10_aims 61 = .ok (.iload 5, 2) := by decide +kernel
theorem dX10_aims_63 : decode cX10_aims 63 = .ok (.ireturn, 1) := by decide +kernel
set_option maxHeartbeats 4000000 in
set_option maxRecDepth 100000 in
theorem c_Model_aims (l : Launch) (G : fm_G) (N : Nat) (M : fm_M) (v1 : Int32) (v2 : Int32) (v3 : Int32) (r : Int32) (M' : fm_M) (hf : pModel_aims N M v1 v2 v3 = some (r, M')) : fm_Met l yX10_aims cX10_aims 6 (some .int) { frames := 3, cells := 0, slots := 0, locals := 65 } shM G [.ref (G.2.1 0), .int v1, .int v2, .int v3] M (some (.int r)) M' := by
  refine fm_enter (by decide) (Nat.le_of_ble_eq_true rfl) ?_
  intro p e s m args below meth c ls C E hl
  have hl : lv_has ls 6 [(0, .ref (G.2.1 0)), (1, .int v1), (2, .int v2), (3, .int v3)] := hl
  unfold pModel_aims at hf
  refine lv_aload_n C.1 C.2.1 dX10_aims_0 rfl (lv_at hl 0 rfl) ?_
  refine lv_iconst (v := 0) C.1 C.2.1 dX10_aims_1 (by decide) ?_
  obtain ⟨M2, e2, hf⟩ := fm_pt_s hf
  refine fm_put' C E e2 lp_X10_77 hM_0 rfl dX10_aims_2 (fun H locs E => ?_)
  refine lv_aload_n C.1 C.2.1 dX10_aims_5 rfl (lv_at hl 0 rfl) ?_
  refine lv_iload_n C.1 C.2.1 dX10_aims_6 rfl (lv_at hl 1 rfl) ?_
  refine lv_iload_n C.1 C.2.1 dX10_aims_7 rfl (lv_at hl 2 rfl) ?_
  refine lv_iload_n C.1 C.2.1 dX10_aims_8 rfl (lv_at hl 3 rfl) ?_
  obtain ⟨x9, hc9, hf⟩ := fm_bd hf
  refine fm_callV C E [.int _, .int _, .int _] [] lm_X10_312 wk_X10_refusesAim (c_Model_refusesAim l G _ _ _ _ _  hc9) hM_0 rfl rfl rfl hl.1 (by simp [Value.category]) ⟨⟨rfl, rfl⟩, by decide, by decide⟩ ⟨by decide, by decide⟩ dX10_aims_9 rfl (fun H locs E => ?_)
  refine W.eq (g2 := F0 m 12 ls (.int x9 :: [])) rfl ?_
  refine lv_istore (lv' := [(4, .int _), (0, .ref _), (1, .int _), (2, .int _), (3, .int _)]) C.1 C.2.1 dX10_aims_12 hl (by decide) rfl (fun ls hl => ?_)
  refine lv_iload C.1 C.2.1 dX10_aims_14 (lv_at hl 0 rfl) ?_
  refine lv_if_ge (tgt := 22) C.1 C.2.1 dX10_aims_16 (by decide) (fun hc16 => ?_) (fun hc16 => ?_)
  · have hf := fm_ip hf hc16
    refine lv_aload_n C.1 C.2.1 dX10_aims_22 rfl (lv_at hl 1 rfl) ?_
    obtain ⟨M23, hc23, hf⟩ := fm_bd hf
    refine fm_callV C E [] [] lm_X10_132 wk_X10_change (c_Model_change l G N _ _ hc23) hM_0 rfl rfl rfl hl.1 (by simp [Value.category]) ⟨⟨rfl, rfl⟩, by decide, by decide⟩ ⟨by decide, by decide⟩ dX10_aims_23 rfl (fun H locs E => ?_)
    refine W.eq (g2 := F0 m 26 ls []) rfl ?_
    refine lv_aload_n C.1 C.2.1 dX10_aims_26 rfl (lv_at hl 1 rfl) ?_
    refine lv_iload_n C.1 C.2.1 dX10_aims_27 rfl (lv_at hl 2 rfl) ?_
    refine lv_iload_n C.1 C.2.1 dX10_aims_28 rfl (lv_at hl 3 rfl) ?_
    obtain ⟨x29, hc29, hf⟩ := fm_bd hf
    refine fm_callV C E [.int _, .int _] [] lm_X10_160 wk_X10_ofSource (c_Model_ofSource l G _ _ _ _  hc29) hM_0 rfl rfl rfl hl.1 (by simp [Value.category]) ⟨⟨rfl, rfl⟩, by decide, by decide⟩ ⟨by decide, by decide⟩ dX10_aims_29 rfl (fun H locs E => ?_)
    refine W.eq (g2 := F0 m 32 ls (.int x29 :: [])) rfl ?_
    refine lv_istore (lv' := [(5, .int _), (4, .int _), (0, .ref _), (1, .int _), (2, .int _), (3, .int _)]) C.1 C.2.1 dX10_aims_32 hl (by decide) rfl (fun ls hl => ?_)
    refine lv_aload_n C.1 C.2.1 dX10_aims_34 rfl (lv_at hl 2 rfl) ?_
    refine fm_getr C E lf_X10_9 hM_0 rfl dX10_aims_35 ?_
    refine lv_bipush (v := 41) C.1 C.2.1 dX10_aims_38 (by decide) ?_
    refine lv_bipush (v := 15) C.1 C.2.1 dX10_aims_40 (by decide) ?_
    refine lv_iload_n C.1 C.2.1 dX10_aims_42 rfl (lv_at hl 3 rfl) ?_
    refine lv_imul C.1 C.2.1 dX10_aims_43 ?_
    refine lv_iadd C.1 C.2.1 dX10_aims_44 ?_
    refine lv_iload_n C.1 C.2.1 dX10_aims_45 rfl (lv_at hl 4 rfl) ?_
    refine lv_iadd C.1 C.2.1 dX10_aims_46 ?_
    refine lv_iload_n C.1 C.2.1 dX10_aims_47 rfl (lv_at hl 5 rfl) ?_
    obtain ⟨h48, M48, e48, hf⟩ := fm_st_e hf
    refine fm_iast' C E e48 hM_1 h48 dX10_aims_48 (fun H locs E => ?_)
    refine lv_iload_n C.1 C.2.1 dX10_aims_49 rfl (lv_at hl 4 rfl) ?_
    refine lv_if_ne (tgt := 61) C.1 C.2.1 dX10_aims_50 (by decide) (fun hc50 => ?_) (fun hc50 => ?_)
    · have hf := fm_in' hf hc50
      refine lv_iload C.1 C.2.1 dX10_aims_61 (lv_at hl 0 rfl) ?_
      obtain ⟨rfl, rfl⟩ := fm_rt2 hf
      exact fm_iret C E rfl rfl dX10_aims_63
    · have hf := fm_ip hf hc50
      refine lv_bipush (v := 8) C.1 C.2.1 dX10_aims_53 (by decide) ?_
      refine lv_iload C.1 C.2.1 dX10_aims_55 (lv_at hl 0 rfl) ?_
      refine lv_iadd C.1 C.2.1 dX10_aims_57 ?_
      refine lv_goto (tgt := 63) C.1 C.2.1 dX10_aims_58 (by decide) ?_
      obtain ⟨rfl, rfl⟩ := fm_rt2 hf
      exact fm_iret C E rfl rfl dX10_aims_63
  · have hf := fm_in' hf hc16
    refine lv_iload C.1 C.2.1 dX10_aims_19 (lv_at hl 0 rfl) ?_
    obtain ⟨rfl, rfl⟩ := fm_rt2 hf
    exact fm_iret C E rfl rfl dX10_aims_21
