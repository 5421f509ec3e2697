theorem dX0_blockBetween_0 : decode cX0_blockBetween 0 = .ok (.iconst 0, 1) := by decide +kernel
theorem dX0_blockBetween_1 : decode cX0_blockBetween 1 = .ok (.istore 4, 2) := by decide +kernel
theorem dX0_blockBetween_3 : decode cX0_blockBetween 3 = .ok (.iload 4, 2) := by decide +kernel
theorem dX0_blockBetween_5 : decode cX0_blockBetween 5 = .ok (.aload_n 0, 1) := by decide +kernel
theorem dX0_blockBetween_6 : decode cX0_blockBetween 6 = .ok (.getfield 35, 3) := by decide +kernel
theorem dX0_blockBetween_9 : decode cX0_blockBetween 9 = .ok (.if_icmp .ge 22, 3) := by decide +kernel
theorem dX0_blockBetween_12 : decode cX0_blockBetween 12 = .ok (.aload_n 3, 1) := by decide +kernel
theorem dX0_blockBetween_13 : decode cX0_blockBetween 13 = .ok (.iload 4, 2) := by decide +kernel
theorem dX0_blockBetween_15 : decode cX0_blockBetween 15 = .ok (.aload_n 1, 1) := by decide +kernel
theorem dX0_blockBetween_16 : decode cX0_blockBetween 16 = .ok (.iload 4, 2) := by decide +kernel
theorem dX0_blockBetween_18 : decode cX0_blockBetween 18 = .ok (.iaload, 1) := by decide +kernel
theorem dX0_blockBetween_19 : decode cX0_blockBetween 19 = .ok (.aload_n 2, 1) := by decide +kernel
theorem dX0_blockBetween_20 : decode cX0_blockBetween 20 = .ok (.iload 4, 2) := by decide +kernel
theorem dX0_blockBetween_22 : decode cX0_blockBetween 22 = .ok (.iaload, 1) := by decide +kernel
theorem dX0_blockBetween_23 : decode cX0_blockBetween 23 = .ok (.isub, 1) := by decide +kernel
theorem dX0_blockBetween_24 : decode cX0_blockBetween 24 = .ok (.iastore, 1) := by decide +kernel
theorem dX0_blockBetween_25 : decode cX0_blockBetween 25 = .ok (.iinc 4 1, 3) := by decide +kernel
theorem dX0_blockBetween_28 : decode cX0_blockBetween 28 = .ok (.goto (-25), 3) := by decide +kernel
theorem dX0_blockBetween_31 : decode cX0_blockBetween 31 = .ok (.return_, 1) := by decide +kernel
set_option maxHeartbeats 4000000 in
set_option maxRecDepth 100000 in
theorem c_Bench_blockBetween (l : Launch) (G : fm_G) (N : Nat) (M : fm_M) (v1 : Nat) (v2 : Nat) (v3 : Nat) (M' : fm_M) (hf : pBench_blockBetween N M v1 v2 v3 = some M') : fm_Met l yX0_blockBetween cX0_blockBetween 5 none { frames := 0, cells := 0, slots := 0, locals := 0 } shC G [.ref (G.2.1 181), .ref (G.2.1 v1), .ref (G.2.1 v2), .ref (G.2.1 v3)] M none M' := by
  refine fm_enter (by decide) (Nat.le_of_ble_eq_true rfl) ?_
  intro p e s m args below meth c ls C E hl
  have hl : lv_has ls 5 [(0, .ref (G.2.1 181)), (1, .ref (G.2.1 v1)), (2, .ref (G.2.1 v2)), (3, .ref (G.2.1 v3))] := hl
  have L3 : ∀ (w3_v1 : Nat) (w3_v2 : Nat) (w3_v3 : Nat) (n3 : Nat) (v4 : Int32) (M : fm_M) (H : Heap) (locs : List Loc) (ls : Array Slot), fm_Wd shC G M s H locs → lv_has ls 5 [(0, .ref (G.2.1 181)), (1, .ref (G.2.1 w3_v1)), (2, .ref (G.2.1 w3_v2)), (3, .ref (G.2.1 w3_v3)), (4, .int v4)] → fm_lp (pBench_blockBetween_L3 N w3_v1 w3_v2 w3_v3) n3 (v4, M) = some M' → W p l e { frames := 0, cells := 0, slots := 0, locals := 0 } s m args below meth c H locs 0 0 (fm_Z below shC G args s none M') (F0 m 3 ls []) := by
    intro w3_v1 w3_v2 w3_v3 n3
    induction n3 with
    | zero => intro v4 M H locs ls E hl hf; exact fm_lp_0 hf
    | succ n3 ih3 =>
      intro v4 M H locs ls E hl hf
      have hf : pBench_blockBetween_L3b N w3_v1 w3_v2 w3_v3 (fm_lp (pBench_blockBetween_L3 N w3_v1 w3_v2 w3_v3) n3) v4 M = some M' := hf
      unfold pBench_blockBetween_L3b at hf
      refine lv_iload C.1 C.2.1 dX0_blockBetween_3 (lv_at hl 4 rfl) ?_
      refine lv_aload_n C.1 C.2.1 dX0_blockBetween_5 rfl (lv_at hl 0 rfl) ?_
      refine fm_geti C E lf_X0_35 hC_181 rfl dX0_blockBetween_6 ?_
      refine lv_icmp_ge (tgt := 31) C.1 C.2.1 dX0_blockBetween_9 (by decide) (fun hc9 => ?_) (fun hc9 => ?_)
      · have hf := fm_ip hf hc9
        obtain rfl := fm_rt1 hf
        exact fm_vret C E rfl dX0_blockBetween_31
      · have hf := fm_in' hf hc9
        refine lv_aload_n C.1 C.2.1 dX0_blockBetween_12 rfl (lv_at hl 3 rfl) ?_
        refine lv_iload C.1 C.2.1 dX0_blockBetween_13 (lv_at hl 4 rfl) ?_
        refine lv_aload_n C.1 C.2.1 dX0_blockBetween_15 rfl (lv_at hl 1 rfl) ?_
        refine lv_iload C.1 C.2.1 dX0_blockBetween_16 (lv_at hl 4 rfl) ?_
        obtain ⟨h18, x18, e18, hf⟩ := fm_ld_e hf
        obtain ⟨_, hk18⟩ := fm_n_at h18
        refine fm_iald' C E e18 hk18 h18 dX0_blockBetween_18 ?_
        refine lv_aload_n C.1 C.2.1 dX0_blockBetween_19 rfl (lv_at hl 2 rfl) ?_
        refine lv_iload C.1 C.2.1 dX0_blockBetween_20 (lv_at hl 4 rfl) ?_
        obtain ⟨h22, x22, e22, hf⟩ := fm_ld_e hf
        obtain ⟨_, hk22⟩ := fm_n_at h22
        refine fm_iald' C E e22 hk22 h22 dX0_blockBetween_22 ?_
        refine lv_isub C.1 C.2.1 dX0_blockBetween_23 ?_
        obtain ⟨h24, M24, e24, hf⟩ := fm_st_e hf
        obtain ⟨_, hk24⟩ := fm_n_at h24
        refine fm_iast' C E e24 hk24 h24 dX0_blockBetween_24 (fun H locs E => ?_)
        refine fm_iinc C (v := 1) (lv' := [(4, .int _), (0, .ref _), (1, .ref _), (2, .ref _), (3, .ref _)]) (k := 4) hl rfl (by decide) (by decide) rfl dX0_blockBetween_25 (fun ls hl => ?_)
        refine lv_goto (tgt := 3) C.1 C.2.1 dX0_blockBetween_28 (by decide) ?_
        exact ih3 _ _ _ _ _ E (lv_sub hl [1, 2, 3, 4, 0] rfl) hf
  unfold pBench_blockBetween at hf
  refine lv_iconst (v := 0) C.1 C.2.1 dX0_blockBetween_0 (by decide) ?_
  refine lv_istore (lv' := [(4, .int _), (0, .ref _), (1, .ref _), (2, .ref _), (3, .ref _)]) C.1 C.2.1 dX0_blockBetween_1 hl (by decide) rfl (fun ls hl => ?_)
  exact L3 _ _ _ N _ _ _ _ _ E (lv_sub hl [1, 2, 3, 4, 0] rfl) hf
theorem dX0_addToTaken_0 : decode cX0_addToTaken 0 = .ok (.iconst 0, 1) := by decide +kernel
theorem dX0_addToTaken_1 : decode cX0_addToTaken 1 = .ok (.istore_n 3, 1) := by decide +kernel
theorem dX0_addToTaken_2 : decode cX0_addToTaken 2 = .ok (.iload_n 3, 1) := by decide +kernel
theorem dX0_addToTaken_3 : decode cX0_addToTaken 3 = .ok (.aload_n 0, 1) := by decide +kernel
theorem dX0_addToTaken_4 : decode cX0_addToTaken 4 = .ok (.getfield 35, 3) := by decide +kernel
theorem dX0_addToTaken_7 : decode cX0_addToTaken 7 = .ok (.if_icmp .ge 28, 3) := by decide +kernel
theorem dX0_addToTaken_10 : decode cX0_addToTaken 10 = .ok (.aload_n 0, 1) := by decide +kernel
theorem dX0_addToTaken_11 : decode cX0_addToTaken 11 = .ok (.getfield 32, 3) := by decide +kernel
theorem dX0_addToTaken_14 : decode cX0_addToTaken 14 = .ok (.iload_n 3, 1) := by decide +kernel
theorem dX0_addToTaken_15 : decode cX0_addToTaken 15 = .ok (.dup2, 1) := by decide +kernel
theorem dX0_addToTaken_16 : decode cX0_addToTaken 16 = .ok (.iaload, 1) := by decide +kernel
theorem dX0_addToTaken_17 : decode cX0_addToTaken 17 = .ok (.iload_n 2, 1) := by decide +kernel
theorem dX0_addToTaken_18 : decode cX0_addToTaken 18 = .ok (.aload_n 0, 1) := by decide +kernel
theorem dX0_addToTaken_19 : decode cX0_addToTaken 19 = .ok (.getfield 23, 3) := by decide +kernel
theorem dX0_addToTaken_22 : decode cX0_addToTaken 22 = .ok (.iload_n 1, 1) := by decide +kernel
theorem dX0_addToTaken_23 : decode cX0_addToTaken 23 = .ok (.aaload, 1) := by decide +kernel
theorem dX0_addToTaken_24 : decode cX0_addToTaken 24 = .ok (.iload_n 3, 1) := by decide +kernel
theorem dX0_addToTaken_25 : decode cX0_addToTaken 25 = .ok (.iaload, 1) := by decide +kernel
theorem dX0_addToTaken_26 : decode cX0_addToTaken 26 = .ok (.imul, 1) := by decide +kernel
theorem dX0_addToTaken_27 : decode cX0_addToTaken 27 = .ok (.iadd, 1) := by decide +kernel
theorem dX0_addToTaken_28 : decode cX0_addToTaken 28 = .ok (.iastore, 1) := by decide +kernel
theorem dX0_addToTaken_29 : decode cX0_addToTaken 29 = .ok (.iinc 3 1, 3) := by decide +kernel
theorem dX0_addToTaken_32 : decode cX0_addToTaken 32 = .ok (.goto (-30), 3) := by decide +kernel
theorem dX0_addToTaken_35 : decode cX0_addToTaken 35 = .ok (.return_, 1) := by decide +kernel
set_option maxHeartbeats 4000000 in
set_option maxRecDepth 100000 in
theorem c_Bench_addToTaken (l : Launch) (G : fm_G) (N : Nat) (M : fm_M) (v1 : Int32) (v2 : Int32) (M' : fm_M) (hf : pBench_addToTaken N M v1 v2 = some M') : fm_Met l yX0_addToTaken cX0_addToTaken 4 none { frames := 0, cells := 0, slots := 0, locals := 0 } shC G [.ref (G.2.1 181), .int v1, .int v2] M none M' := by
  refine fm_enter (by decide) (Nat.le_of_ble_eq_true rfl) ?_
  intro p e s m args below meth c ls C E hl
  have hl : lv_has ls 4 [(0, .ref (G.2.1 181)), (1, .int v1), (2, .int v2)] := hl
  have L2 : ∀ (w2_v1 : Int32) (w2_v2 : Int32) (n2 : Nat) (v3 : Int32) (M : fm_M) (H : Heap) (locs : List Loc) (ls : Array Slot), fm_Wd shC G M s H locs → lv_has ls 4 [(0, .ref (G.2.1 181)), (1, .int w2_v1), (2, .int w2_v2), (3, .int v3)] → fm_lp (pBench_addToTaken_L2 N w2_v1 w2_v2) n2 (v3, M) = some M' → W p l e { frames := 0, cells := 0, slots := 0, locals := 0 } s m args below meth c H locs 0 0 (fm_Z below shC G args s none M') (F0 m 2 ls []) := by
    intro w2_v1 w2_v2 n2
    induction n2 with
    | zero => intro v3 M H locs ls E hl hf; exact fm_lp_0 hf
    | succ n2 ih2 =>
      intro v3 M H locs ls E hl hf
      have hf : pBench_addToTaken_L2b N w2_v1 w2_v2 (fm_lp (pBench_addToTaken_L2 N w2_v1 w2_v2) n2) v3 M = some M' := hf
      unfold pBench_addToTaken_L2b at hf
      refine lv_iload_n C.1 C.2.1 dX0_addToTaken_2 rfl (lv_at hl 3 rfl) ?_
      refine lv_aload_n C.1 C.2.1 dX0_addToTaken_3 rfl (lv_at hl 0 rfl) ?_
      refine fm_geti C E lf_X0_35 hC_181 rfl dX0_addToTaken_4 ?_
      refine lv_icmp_ge (tgt := 35) C.1 C.2.1 dX0_addToTaken_7 (by decide) (fun hc7 => ?_) (fun hc7 => ?_)
      · have hf := fm_ip hf hc7
        obtain rfl := fm_rt1 hf
        exact fm_vret C E rfl dX0_addToTaken_35
      · have hf := fm_in' hf hc7
        refine lv_aload_n C.1 C.2.1 dX0_addToTaken_10 rfl (lv_at hl 0 rfl) ?_
        refine fm_getr C E lf_X0_32 hC_181 rfl dX0_addToTaken_11 ?_
        refine lv_iload_n C.1 C.2.1 dX0_addToTaken_14 rfl (lv_at hl 3 rfl) ?_
        refine lv_dup2_11 C.1 C.2.1 dX0_addToTaken_15 rfl rfl ?_
        obtain ⟨h16, x16, e16, hf⟩ := fm_ld_e hf
        refine fm_iald' C E e16 hC_199 h16 dX0_addToTaken_16 ?_
        refine lv_iload_n C.1 C.2.1 dX0_addToTaken_17 rfl (lv_at hl 2 rfl) ?_
        refine lv_aload_n C.1 C.2.1 dX0_addToTaken_18 rfl (lv_at hl 0 rfl) ?_
        refine fm_getr C E lf_X0_23 hC_181 rfl dX0_addToTaken_19 ?_
        refine lv_iload_n C.1 C.2.1 dX0_addToTaken_22 rfl (lv_at hl 1 rfl) ?_
        obtain ⟨q23, h23, k23, e23, hf⟩ := fm_ix_t tC_192 hf
        refine fm_aald C E hC_191 h23 (r := q23) (by rw [e23]; exact rC_192 _ (fm_in_lt h23)) dX0_addToTaken_23 ?_
        refine lv_iload_n C.1 C.2.1 dX0_addToTaken_24 rfl (lv_at hl 3 rfl) ?_
        obtain ⟨h25, x25, e25, hf⟩ := fm_ld_e hf
        refine fm_iald' C E e25 k23 h25 dX0_addToTaken_25 ?_
        refine lv_imul C.1 C.2.1 dX0_addToTaken_26 ?_
        refine lv_iadd C.1 C.2.1 dX0_addToTaken_27 ?_
        obtain ⟨h28, M28, e28, hf⟩ := fm_st_e hf
        refine fm_iast' C E e28 hC_199 h28 dX0_addToTaken_28 (fun H locs E => ?_)
        refine fm_iinc C (v := 1) (lv' := [(3, .int _), (0, .ref _), (1, .int _), (2, .int _)]) (k := 3) hl rfl (by decide) (by decide) rfl dX0_addToTaken_29 (fun ls hl => ?_)
        refine lv_goto (tgt := 2) C.1 C.2.1 dX0_addToTaken_32 (by decide) ?_
        exact ih2 _ _ _ _ _ E (lv_sub hl [1, 2, 3, 0] rfl) hf
  unfold pBench_addToTaken at hf
  refine lv_iconst (v := 0) C.1 C.2.1 dX0_addToTaken_0 (by decide) ?_
  refine lv_istore_n (lv' := [(3, .int _), (0, .ref _), (1, .int _), (2, .int _)]) C.1 C.2.1 dX0_addToTaken_1 rfl hl (by decide) rfl (fun ls hl => ?_)
  exact L2 _ _ N _ _ _ _ _ E (lv_sub hl [1, 2, 3, 0] rfl) hf
theorem dX0_squares_0 : decode cX0_squares 0 = .ok (.lconst 0, 1) := by decide +kernel
theorem dX0_squares_1 : decode cX0_squares 1 = .ok (.lstore 5, 2) := by decide +kernel
theorem dX0_squares_3 : decode cX0_squares 3 = .ok (.iconst 0, 1) := by decide +kernel
theorem dX0_squares_4 : decode cX0_squares 4 = .ok (.istore 7, 2) := by decide +kernel
theorem dX0_squares_6 : decode cX0_squares 6 = .ok (.iload 7, 2) := by decide +kernel
theorem dX0_squares_8 : decode cX0_squares 8 = .ok (.aload_n 0, 1) := by decide +kernel
theorem dX0_squares_9 : decode cX0_squares 9 = .ok (.getfield 35, 3) := by decide +kernel
theorem dX0_squares_12 : decode cX0_squares 12 = .ok (.if_icmp .ge 59, 3) := by decide +kernel
theorem dX0_squares_15 : decode cX0_squares 15 = .ok (.lload 5, 2) := by decide +kernel
theorem dX0_squares_17 : decode cX0_squares 17 = .ok (.lload_n 3, 1) := by decide +kernel
theorem dX0_squares_18 : decode cX0_squares 18 = .ok (.lcmp, 1) := by decide +kernel
theorem dX0_squares_19 : decode cX0_squares 19 = .ok (.ifCond .ge 52, 3) := by decide +kernel
theorem dX0_squares_22 : decode cX0_squares 22 = .ok (.aload_n 0, 1) := by decide +kernel
theorem dX0_squares_23 : decode cX0_squares 23 = .ok (.getfield 20, 3) := by decide +kernel
theorem dX0_squares_26 : decode cX0_squares 26 = .ok (.iload 7, 2) := by decide +kernel
theorem dX0_squares_28 : decode cX0_squares 28 = .ok (.iaload, 1) := by decide +kernel
theorem dX0_squares_29 : decode cX0_squares 29 = .ok (.aload_n 0, 1) := by decide +kernel
theorem dX0_squares_30 : decode cX0_squares 30 = .ok (.getfield 32, 3) := by decide +kernel
theorem dX0_squares_33 : decode cX0_squares 33 = .ok (.iload 7, 2) := by decide +kernel
theorem dX0_squares_35 : decode cX0_squares 35 = .ok (.iaload, 1) := by decide +kernel
theorem dX0_squares_36 : decode cX0_squares 36 = .ok (.iload_n 2, 1) := by decide +kernel
theorem dX0_squares_37 : decode cX0_squares 37 = .ok (.aload_n 0, 1) := by decide +kernel
theorem dX0_squares_38 : decode cX0_squares 38 = .ok (.getfield 23, 3) := by decide +kernel
theorem dX0_squares_41 : decode cX0_squares 41 = .ok (.iload_n 1, 1) := by decide +kernel
theorem dX0_squares_42 : decode cX0_squares 42 = .ok (.aaload, 1) := by decide +kernel
theorem dX0_squares_43 : decode cX0_squares 43 = .ok (.iload 7, 2) := by decide +kernel
theorem dX0_squares_45 : decode cX0_squares 45 = .ok (.iaload, 1) := by decide +kernel
theorem dX0_squares_46 : decode cX0_squares 46 = .ok (.imul, 1) := by decide +kernel
theorem dX0_squares_47 : decode cX0_squares 47 = .ok (.iadd, 1) := by decide +kernel
theorem dX0_squares_48 : decode cX0_squares 48 = .ok (.bipush 16, 2) := by decide +kernel
theorem dX0_squares_50 : decode cX0_squares 50 = .ok (.idiv, 1) := by decide +kernel
theorem dX0_squares_51 : decode cX0_squares 51 = .ok (.isub, 1) := by decide +kernel
theorem dX0_squares_52 : decode cX0_squares 52 = .ok (.i2l, 1) := by decide +kernel
theorem dX0_squares_53 : decode cX0_squares 53 = .ok (.lstore 8, 2) := by decide +kernel
theorem dX0_squares_55 : decode cX0_squares 55 = .ok (.lload 5, 2) := by decide +kernel
theorem dX0_squares_57 : decode cX0_squares 57 = .ok (.lload 8, 2) := by decide +kernel
theorem dX0_squares_59 : decode cX0_squares 59 = .ok (.lload 8, 2) := by decide +kernel
theorem dX0_squares_61 : decode cX0_squares 61 = .ok (.lmul, 1) := by decide +kernel
theorem dX0_squares_62 : decode cX0_squares 62 = .ok (.ladd, 1) := by decide +kernel
theorem dX0_squares_63 : decode cX0_squares 63 = .ok (.lstore 5, 2) := by decide +kernel
theorem dX0_squares_65 : decode cX0_squares 65 = .ok (.iinc 7 1, 3) := by decide +kernel
theorem dX0_squares_68 : decode cX0_squares 68 = .ok (.goto (-62), 3) := by decide +kernel
theorem dX0_squares_71 : decode cX0_squares 71 = .ok (.lload 5, 2) := by decide +kernel
theorem dX0_squares_73 : decode cX0_squares 73 = .ok (.lreturn, 1) := by decide +kernel
set_option maxHeartbeats 4000000 in
set_option maxRecDepth 100000 in
theorem c_Bench_squares (l : Launch) (G : fm_G) (N : Nat) (M : fm_M) (v1 : Int32) (v2 : Int32) (v3 : Int64) (r : Int64) (hf : pBench_squares N M v1 v2 v3 = some r) : fm_Met l yX0_squares cX0_squares 10 (some .long) { frames := 0, cells := 0, slots := 0, locals := 0 } shC G [.ref (G.2.1 181), .int v1, .int v2, .long v3] M (some (.long r)) M := by
  refine fm_enter (by decide) (Nat.le_of_ble_eq_true rfl) ?_
  intro p e s m args below meth c ls C E hl
  have hl : lv_has ls 10 [(0, .ref (G.2.1 181)), (1, .int v1), (2, .int v2), (3, .long v3)] := hl
  have L6 : ∀ (w6_v1 : Int32) (w6_v2 : Int32) (w6_v3 : Int64) (n6 : Nat) (v5 : Int64) (v7 : Int32) (H : Heap) (locs : List Loc) (ls : Array Slot), fm_Wd shC G M s H locs → lv_has ls 10 [(0, .ref (G.2.1 181)), (1, .int w6_v1), (2, .int w6_v2), (3, .long w6_v3), (5, .long v5), (7, .int v7)] → fm_lp (pBench_squares_L6 N M w6_v1 w6_v2 w6_v3) n6 (v5, v7) = some r → W p l e { frames := 0, cells := 0, slots := 0, locals := 0 } s m args below meth c H locs 0 0 (fm_Z below shC G args s (some (.long r)) M) (F0 m 6 ls []) := by
    intro w6_v1 w6_v2 w6_v3 n6
    induction n6 with
    | zero => intro v5 v7 H locs ls E hl hf; exact fm_lp_0 hf
    | succ n6 ih6 =>
      intro v5 v7 H locs ls E hl hf
      have hf : pBench_squares_L6b N M w6_v1 w6_v2 w6_v3 (fm_lp (pBench_squares_L6 N M w6_v1 w6_v2 w6_v3) n6) v5 v7 = some r := hf
      unfold pBench_squares_L6b at hf
      refine lv_iload C.1 C.2.1 dX0_squares_6 (lv_at hl 5 rfl) ?_
      refine lv_aload_n C.1 C.2.1 dX0_squares_8 rfl (lv_at hl 0 rfl) ?_
      refine fm_geti C E lf_X0_35 hC_181 rfl dX0_squares_9 ?_
      refine lv_icmp_ge (tgt := 71) C.1 C.2.1 dX0_squares_12 (by decide) (fun hc12 => ?_) (fun hc12 => ?_)
      · have hf := fm_ip hf hc12
        refine lv_lload C.1 C.2.1 dX0_squares_71 (lv_at hl 4 rfl) ?_
        obtain rfl := fm_rt1 hf
        exact fm_lret C E rfl dX0_squares_73
      · have hf := fm_in' hf hc12
        refine lv_lload C.1 C.2.1 dX0_squares_15 (lv_at hl 4 rfl) ?_
        refine lv_lload_n C.1 C.2.1 dX0_squares_17 rfl (lv_at hl 3 rfl) ?_
        refine W.lcmp C.1 C.2.1 dX0_squares_18 ?_
        refine lv_if_ge (tgt := 71) C.1 C.2.1 dX0_squares_19 (by decide) (fun hc19 => ?_) (fun hc19 => ?_)
        · have hf := fm_ip hf hc19
          refine lv_lload C.1 C.2.1 dX0_squares_71 (lv_at hl 4 rfl) ?_
          obtain rfl := fm_rt1 hf
          exact fm_lret C E rfl dX0_squares_73
        · have hf := fm_in' hf hc19
          refine lv_aload_n C.1 C.2.1 dX0_squares_22 rfl (lv_at hl 0 rfl) ?_
          refine fm_getr C E lf_X0_20 hC_181 rfl dX0_squares_23 ?_
          refine lv_iload C.1 C.2.1 dX0_squares_26 (lv_at hl 5 rfl) ?_
          obtain ⟨h28, x28, e28, hf⟩ := fm_ld_e hf
          refine fm_iald' C E e28 hC_190 h28 dX0_squares_28 ?_
          refine lv_aload_n C.1 C.2.1 dX0_squares_29 rfl (lv_at hl 0 rfl) ?_
          refine fm_getr C E lf_X0_32 hC_181 rfl dX0_squares_30 ?_
          refine lv_iload C.1 C.2.1 dX0_squares_33 (lv_at hl 5 rfl) ?_
          obtain ⟨h35, x35, e35, hf⟩ := fm_ld_e hf
          refine fm_iald' C E e35 hC_199 h35 dX0_squares_35 ?_
          refine lv_iload_n C.1 C.2.1 dX0_squares_36 rfl (lv_at hl 2 rfl) ?_
          refine lv_aload_n C.1 C.2.1 dX0_squares_37 rfl (lv_at hl 0 rfl) ?_
          refine fm_getr C E lf_X0_23 hC_181 rfl dX0_squares_38 ?_
          refine lv_iload_n C.1 C.2.1 dX0_squares_41 rfl (lv_at hl 1 rfl) ?_
          obtain ⟨q42, h42, k42, e42, hf⟩ := fm_ix_t tC_192 hf
          refine fm_aald C E hC_191 h42 (r := q42) (by rw [e42]; exact rC_192 _ (fm_in_lt h42)) dX0_squares_42 ?_
          refine lv_iload C.1 C.2.1 dX0_squares_43 (lv_at hl 5 rfl) ?_
          obtain ⟨h45, x45, e45, hf⟩ := fm_ld_e hf
          refine fm_iald' C E e45 k42 h45 dX0_squares_45 ?_
          refine lv_imul C.1 C.2.1 dX0_squares_46 ?_
          refine lv_iadd C.1 C.2.1 dX0_squares_47 ?_
          refine lv_bipush (v := 16) C.1 C.2.1 dX0_squares_48 (by decide) ?_
          refine lv_idiv C.1 C.2.1 dX0_squares_50 (by decide) ?_
          refine lv_isub C.1 C.2.1 dX0_squares_51 ?_
          refine lv_i2l C.1 C.2.1 dX0_squares_52 rfl ?_
          refine lv_lstore (lv' := [(8, .long _), (0, .ref _), (1, .int _), (2, .int _), (3, .long _), (5, .long _), (7, .int _)]) C.1 C.2.1 dX0_squares_53 hl (by decide) rfl (fun ls hl => ?_)
          refine lv_lload C.1 C.2.1 dX0_squares_55 (lv_at hl 5 rfl) ?_
          refine lv_lload C.1 C.2.1 dX0_squares_57 (lv_at hl 0 rfl) ?_
          refine lv_lload C.1 C.2.1 dX0_squares_59 (lv_at hl 0 rfl) ?_
          refine lv_lmul C.1 C.2.1 dX0_squares_61 ?_
          refine lv_ladd C.1 C.2.1 dX0_squares_62 ?_
          refine lv_lstore (lv' := [(5, .long _), (8, .long _), (0, .ref _), (1, .int _), (2, .int _), (3, .long _), (7, .int _)]) C.1 C.2.1 dX0_squares_63 hl (by decide) rfl (fun ls hl => ?_)
          refine fm_iinc C (v := 1) (lv' := [(7, .int _), (5, .long _), (8, .long _), (0, .ref _), (1, .int _), (2, .int _), (3, .long _)]) (k := 6) hl rfl (by decide) (by decide) rfl dX0_squares_65 (fun ls hl => ?_)
          refine lv_goto (tgt := 6) C.1 C.2.1 dX0_squares_68 (by decide) ?_
          exact ih6 _ _ _ _ _ E (lv_sub hl [3, 4, 5, 6, 1, 0] rfl) hf
  unfold pBench_squares at hf
  refine lv_lconst (v := 0) C.1 C.2.1 dX0_squares_0 (by decide) ?_
  refine lv_lstore (lv' := [(5, .long _), (0, .ref _), (1, .int _), (2, .int _), (3, .long _)]) C.1 C.2.1 dX0_squares_1 hl (by decide) rfl (fun ls hl => ?_)
  refine lv_iconst (v := 0) C.1 C.2.1 dX0_squares_3 (by decide) ?_
  refine lv_istore (lv' := [(7, .int _), (5, .long _), (0, .ref _), (1, .int _), (2, .int _), (3, .long _)]) C.1 C.2.1 dX0_squares_4 hl (by decide) rfl (fun ls hl => ?_)
  exact L6 _ _ _ N _ _ _ _ _ E (lv_sub hl [2, 3, 4, 5, 1, 0] rfl) hf
theorem dX0_takeOff_0 : decode cX0_takeOff 0 = .ok (.iconst 0, 1) := by decide +kernel
theorem dX0_takeOff_1 : decode cX0_takeOff 1 = .ok (.istore_n 1, 1) := by decide +kernel
theorem dX0_takeOff_2 : decode cX0_takeOff 2 = .ok (.iload_n 1, 1) := by decide +kernel
theorem dX0_takeOff_3 : decode cX0_takeOff 3 = .ok (.aload_n 0, 1) := by decide +kernel
theorem dX0_takeOff_4 : decode cX0_takeOff 4 = .ok (.getfield 35, 3) := by decide +kernel
theorem dX0_takeOff_7 : decode cX0_takeOff 7 = .ok (.if_icmp .ge 62, 3) := by decide +kernel
theorem dX0_takeOff_10 : decode cX0_takeOff 10 = .ok (.iconst 0, 1) := by decide +kernel
theorem dX0_takeOff_11 : decode cX0_takeOff 11 = .ok (.istore_n 2, 1) := by decide +kernel
theorem dX0_takeOff_12 : decode cX0_takeOff 12 = .ok (.iconst 0, 1) := by decide +kernel
theorem dX0_takeOff_13 : decode cX0_takeOff 13 = .ok (.istore_n 3, 1) := by decide +kernel
theorem dX0_takeOff_14 : decode cX0_takeOff 14 = .ok (.iload_n 3, 1) := by decide +kernel
theorem dX0_takeOff_15 : decode cX0_takeOff 15 = .ok (.aload_n 0, 1) := by decide +kernel
theorem dX0_takeOff_16 : decode cX0_takeOff 16 = .ok (.getfield 75, 3) := by decide +kernel
theorem dX0_takeOff_19 : decode cX0_takeOff 19 = .ok (.if_icmp .ge 27, 3) := by decide +kernel
theorem dX0_takeOff_22 : decode cX0_takeOff 22 = .ok (.iload_n 2, 1) := by decide +kernel
theorem dX0_takeOff_23 : decode cX0_takeOff 23 = .ok (.aload_n 0, 1) := by decide +kernel
theorem dX0_takeOff_24 : decode cX0_takeOff 24 = .ok (.getfield 29, 3) := by decide +kernel
theorem dX0_takeOff_27 : decode cX0_takeOff 27 = .ok (.iload_n 3, 1) := by decide +kernel
theorem dX0_takeOff_28 : decode cX0_takeOff 28 = .ok (.iaload, 1) := by decide +kernel
theorem dX0_takeOff_29 : decode cX0_takeOff 29 = .ok (.aload_n 0, 1) := by decide +kernel
theorem dX0_takeOff_30 : decode cX0_takeOff 30 = .ok (.getfield 23, 3) := by decide +kernel
theorem dX0_takeOff_33 : decode cX0_takeOff 33 = .ok (.iload_n 3, 1) := by decide +kernel
theorem dX0_takeOff_34 : decode cX0_takeOff 34 = .ok (.aaload, 1) := by decide +kernel
theorem dX0_takeOff_35 : decode cX0_takeOff 35 = .ok (.iload_n 1, 1) := by decide +kernel
theorem dX0_takeOff_36 : decode cX0_takeOff 36 = .ok (.iaload, 1) := by decide +kernel
theorem dX0_takeOff_37 : decode cX0_takeOff 37 = .ok (.imul, 1) := by decide +kernel
theorem dX0_takeOff_38 : decode cX0_takeOff 38 = .ok (.iadd, 1) := by decide +kernel
theorem dX0_takeOff_39 : decode cX0_takeOff 39 = .ok (.istore_n 2, 1) := by decide +kernel
theorem dX0_takeOff_40 : decode cX0_takeOff 40 = .ok (.iinc 3 1, 3) := by decide +kernel
theorem dX0_takeOff_43 : decode cX0_takeOff 43 = .ok (.goto (-29), 3) := by decide +kernel
theorem dX0_takeOff_46 : decode cX0_takeOff 46 = .ok (.aload_n 0, 1) := by decide +kernel
theorem dX0_takeOff_47 : decode cX0_takeOff 47 = .ok (.getfield 26, 3) := by decide +kernel
theorem dX0_takeOff_50 : decode cX0_takeOff 50 = .ok (.iload_n 1, 1) := by decide +kernel
theorem dX0_takeOff_51 : decode cX0_takeOff 51 = .ok (.aload_n 0, 1) := by decide +kernel
theorem dX0_takeOff_52 : decode cX0_takeOff 52 = .ok (.getfield 20, 3) := by decide +kernel
theorem dX0_takeOff_55 : decode cX0_takeOff 55 = .ok (.iload_n 1, 1) := by decide +kernel
theorem dX0_takeOff_56 : decode cX0_takeOff 56 = .ok (.iaload, 1) := by decide +kernel
theorem dX0_takeOff_57 : decode cX0_takeOff 57 = .ok (.iload_n 2, 1) := by decide +kernel
theorem dX0_takeOff_58 : decode cX0_takeOff 58 = .ok (.bipush 16, 2) := by decide +kernel
theorem dX0_takeOff_60 : decode cX0_takeOff 60 = .ok (.idiv, 1) := by decide +kernel
theorem dX0_takeOff_61 : decode cX0_takeOff 61 = .ok (.isub, 1) := by decide +kernel
theorem dX0_takeOff_62 : decode cX0_takeOff 62 = .ok (.iastore, 1) := by decide +kernel
theorem dX0_takeOff_63 : decode cX0_takeOff 63 = .ok (.iinc 1 1, 3) := by decide +kernel
theorem dX0_takeOff_66 : decode cX0_takeOff 66 = .ok (.goto (-64), 3) := by decide +kernel
theorem dX0_takeOff_69 : decode cX0_takeOff 69 = .ok (.return_, 1) := by decide +kernel
set_option maxHeartbeats 4000000 in
set_option maxRecDepth 100000 in
theorem c_Bench_takeOff (l : Launch) (G : fm_G) (N : Nat) (M : fm_M) (M' : fm_M) (hf : pBench_takeOff N M = some M') : fm_Met l yX0_takeOff cX0_takeOff 4 none { frames := 0, cells := 0, slots := 0, locals := 0 } shC G [.ref (G.2.1 181)] M none M' := by
  refine fm_enter (by decide) (Nat.le_of_ble_eq_true rfl) ?_
  intro p e s m args below meth c ls C E hl
  have hl : lv_has ls 4 [(0, .ref (G.2.1 181))] := hl
  have L2 : ∀ (n2 : Nat) (v1 : Int32) (M : fm_M) (H : Heap) (locs : List Loc) (ls : Array Slot), fm_Wd shC G M s H locs → lv_has ls 4 [(0, .ref (G.2.1 181)), (1, .int v1)] → fm_lp (pBench_takeOff_L2 N) n2 (v1, M) = some M' → W p l e { frames := 0, cells := 0, slots := 0, locals := 0 } s m args below meth c H locs 0 0 (fm_Z below shC G args s none M') (F0 m 2 ls []) := by
    intro  n2
    induction n2 with
    | zero => intro v1 M H locs ls E hl hf; exact fm_lp_0 hf
    | succ n2 ih2 =>
      have L14 : ∀ (w14_M : fm_M) (w14_v1 : Int32) (n14 : Nat) (v2 : Int32) (v3 : Int32) (H : Heap) (locs : List Loc) (ls : Array Slot), fm_Wd shC G w14_M s H locs → lv_has ls 4 [(0, .ref (G.2.1 181)), (1, .int w14_v1), (2, .int v2), (3, .int v3)] → fm_lp (pBench_takeOff_L14 N w14_M w14_v1 (fm_lp (pBench_takeOff_L2 N) n2)) n14 (v2, v3) = some M' → W p l e { frames := 0, cells := 0, slots := 0, locals := 0 } s m args below meth c H locs 0 0 (fm_Z below shC G args s none M') (F0 m 14 ls []) := by
        intro w14_M w14_v1 n14
        induction n14 with
        | zero => intro v2 v3 H locs ls E hl hf; exact fm_lp_0 hf
        | succ n14 ih14 =>
          intro v2 v3 H locs ls E hl hf
          have hf : pBench_takeOff_L14b N w14_M w14_v1 (fm_lp (pBench_takeOff_L2 N) n2) (fm_lp (pBench_takeOff_L14 N w14_M w14_v1 (fm_lp (pBench_takeOff_L2 N) n2)) n14) v2 v3 = some M' := hf
          unfold pBench_takeOff_L14b at hf
          refine lv_iload_n C.1 C.2.1 dX0_takeOff_14 rfl (lv_at hl 3 rfl) ?_
          refine lv_aload_n C.1 C.2.1 dX0_takeOff_15 rfl (lv_at hl 0 rfl) ?_
          refine fm_geti C E lf_X0_75 hC_181 rfl dX0_takeOff_16 ?_
          refine lv_icmp_ge (tgt := 46) C.1 C.2.1 dX0_takeOff_19 (by decide) (fun hc19 => ?_) (fun hc19 => ?_)
          · have hf := fm_ip hf hc19
            refine lv_aload_n C.1 C.2.1 dX0_takeOff_46 rfl (lv_at hl 0 rfl) ?_
            refine fm_getr C E lf_X0_26 hC_181 rfl dX0_takeOff_47 ?_
            refine lv_iload_n C.1 C.2.1 dX0_takeOff_50 rfl (lv_at hl 1 rfl) ?_
            refine lv_aload_n C.1 C.2.1 dX0_takeOff_51 rfl (lv_at hl 0 rfl) ?_
            refine fm_getr C E lf_X0_20 hC_181 rfl dX0_takeOff_52 ?_
            refine lv_iload_n C.1 C.2.1 dX0_takeOff_55 rfl (lv_at hl 1 rfl) ?_
            obtain ⟨h56, x56, e56, hf⟩ := fm_ld_e hf
            refine fm_iald' C E e56 hC_190 h56 dX0_takeOff_56 ?_
            refine lv_iload_n C.1 C.2.1 dX0_takeOff_57 rfl (lv_at hl 2 rfl) ?_
            refine lv_bipush (v := 16) C.1 C.2.1 dX0_takeOff_58 (by decide) ?_
            refine lv_idiv C.1 C.2.1 dX0_takeOff_60 (by decide) ?_
            refine lv_isub C.1 C.2.1 dX0_takeOff_61 ?_
            obtain ⟨h62, M62, e62, hf⟩ := fm_st_e hf
            refine fm_iast' C E e62 hC_197 h62 dX0_takeOff_62 (fun H locs E => ?_)
            refine fm_iinc C (v := 1) (lv' := [(1, .int _), (0, .ref _), (2, .int _), (3, .int _)]) (k := 1) hl rfl (by decide) (by decide) rfl dX0_takeOff_63 (fun ls hl => ?_)
            refine lv_goto (tgt := 2) C.1 C.2.1 dX0_takeOff_66 (by decide) ?_
            exact ih2 _ _ _ _ _ E (lv_sub hl [1, 0] rfl) hf
          · have hf := fm_in' hf hc19
            refine lv_iload_n C.1 C.2.1 dX0_takeOff_22 rfl (lv_at hl 2 rfl) ?_
            refine lv_aload_n C.1 C.2.1 dX0_takeOff_23 rfl (lv_at hl 0 rfl) ?_
            refine fm_getr C E lf_X0_29 hC_181 rfl dX0_takeOff_24 ?_
            refine lv_iload_n C.1 C.2.1 dX0_takeOff_27 rfl (lv_at hl 3 rfl) ?_
            obtain ⟨h28, x28, e28, hf⟩ := fm_ld_e hf
            refine fm_iald' C E e28 hC_198 h28 dX0_takeOff_28 ?_
            refine lv_aload_n C.1 C.2.1 dX0_takeOff_29 rfl (lv_at hl 0 rfl) ?_
            refine fm_getr C E lf_X0_23 hC_181 rfl dX0_takeOff_30 ?_
            refine lv_iload_n C.1 C.2.1 dX0_takeOff_33 rfl (lv_at hl 3 rfl) ?_
            obtain ⟨q34, h34, k34, e34, hf⟩ := fm_ix_t tC_192 hf
            refine fm_aald C E hC_191 h34 (r := q34) (by rw [e34]; exact rC_192 _ (fm_in_lt h34)) dX0_takeOff_34 ?_
            refine lv_iload_n C.1 C.2.1 dX0_takeOff_35 rfl (lv_at hl 1 rfl) ?_
            obtain ⟨h36, x36, e36, hf⟩ := fm_ld_e hf
            refine fm_iald' C E e36 k34 h36 dX0_takeOff_36 ?_
            refine lv_imul C.1 C.2.1 dX0_takeOff_37 ?_
            refine lv_iadd C.1 C.2.1 dX0_takeOff_38 ?_
            refine lv_istore_n (lv' := [(2, .int _), (0, .ref _), (1, .int _), (3, .int _)]) C.1 C.2.1 dX0_takeOff_39 rfl hl (by decide) rfl (fun ls hl => ?_)
            refine fm_iinc C (v := 1) (lv' := [(3, .int _), (2, .int _), (0, .ref _), (1, .int _)]) (k := 3) hl rfl (by decide) (by decide) rfl dX0_takeOff_40 (fun ls hl => ?_)
            refine lv_goto (tgt := 14) C.1 C.2.1 dX0_takeOff_43 (by decide) ?_
            exact ih14 _ _ _ _ _ E (lv_sub hl [2, 3, 1, 0] rfl) hf
      intro v1 M H locs ls E hl hf
      have hf : pBench_takeOff_L2b N (fm_lp (pBench_takeOff_L2 N) n2) v1 M = some M' := hf
      unfold pBench_takeOff_L2b at hf
      refine lv_iload_n C.1 C.2.1 dX0_takeOff_2 rfl (lv_at hl 1 rfl) ?_
      refine lv_aload_n C.1 C.2.1 dX0_takeOff_3 rfl (lv_at hl 0 rfl) ?_
      refine fm_geti C E lf_X0_35 hC_181 rfl dX0_takeOff_4 ?_
      refine lv_icmp_ge (tgt := 69) C.1 C.2.1 dX0_takeOff_7 (by decide) (fun hc7 => ?_) (fun hc7 => ?_)
      · have hf := fm_ip hf hc7
        obtain rfl := fm_rt1 hf
        exact fm_vret C E rfl dX0_takeOff_69
      · have hf := fm_in' hf hc7
        refine lv_iconst (v := 0) C.1 C.2.1 dX0_takeOff_10 (by decide) ?_
        refine lv_istore_n (lv' := [(2, .int _), (0, .ref _), (1, .int _)]) C.1 C.2.1 dX0_takeOff_11 rfl hl (by decide) rfl (fun ls hl => ?_)
        refine lv_iconst (v := 0) C.1 C.2.1 dX0_takeOff_12 (by decide) ?_
        refine lv_istore_n (lv' := [(3, .int _), (2, .int _), (0, .ref _), (1, .int _)]) C.1 C.2.1 dX0_takeOff_13 rfl hl (by decide) rfl (fun ls hl => ?_)
        exact L14 _ _ N _ _ _ _ _ E (lv_sub hl [2, 3, 1, 0] rfl) hf
  unfold pBench_takeOff at hf
  refine lv_iconst (v := 0) C.1 C.2.1 dX0_takeOff_0 (by decide) ?_
  refine lv_istore_n (lv' := [(1, .int _), (0, .ref _)]) C.1 C.2.1 dX0_takeOff_1 rfl hl (by decide) rfl (fun ls hl => ?_)
  exact L2  N _ _ _ _ _ E (lv_sub hl [1, 0] rfl) hf
theorem dX0_powerOf_0 : decode cX0_powerOf 0 = .ok (.lconst 0, 1) := by decide +kernel
theorem dX0_powerOf_1 : decode cX0_powerOf 1 = .ok (.lstore_n 2, 1) := by decide +kernel
theorem dX0_powerOf_2 : decode cX0_powerOf 2 = .ok (.iconst 0, 1) := by decide +kernel
theorem dX0_powerOf_3 : decode cX0_powerOf 3 = .ok (.istore 4, 2) := by decide +kernel
theorem dX0_powerOf_5 : decode cX0_powerOf 5 = .ok (.iload 4, 2) := by decide +kernel
theorem dX0_powerOf_7 : decode cX0_powerOf 7 = .ok (.aload_n 0, 1) := by decide +kernel
theorem dX0_powerOf_8 : decode cX0_powerOf 8 = .ok (.getfield 35, 3) := by decide +kernel
theorem dX0_powerOf_11 : decode cX0_powerOf 11 = .ok (.if_icmp .ge 30, 3) := by decide +kernel
theorem dX0_powerOf_14 : decode cX0_powerOf 14 = .ok (.iload 4, 2) := by decide +kernel
theorem dX0_powerOf_16 : decode cX0_powerOf 16 = .ok (.aload_n 1, 1) := by decide +kernel
theorem dX0_powerOf_17 : decode cX0_powerOf 17 = .ok (.arraylength, 1) := by decide +kernel
theorem dX0_powerOf_18 : decode cX0_powerOf 18 = .ok (.if_icmp .ge 23, 3) := by decide +kernel
theorem dX0_powerOf_21 : decode cX0_powerOf 21 = .ok (.lload_n 2, 1) := by decide +kernel
theorem dX0_powerOf_22 : decode cX0_powerOf 22 = .ok (.aload_n 1, 1) := by decide +kernel
theorem dX0_powerOf_23 : decode cX0_powerOf 23 = .ok (.iload 4, 2) := by decide +kernel
theorem dX0_powerOf_25 : decode cX0_powerOf 25 = .ok (.iaload, 1) := by decide +kernel
theorem dX0_powerOf_26 : decode cX0_powerOf 26 = .ok (.i2l, 1) := by decide +kernel
theorem dX0_powerOf_27 : decode cX0_powerOf 27 = .ok (.aload_n 1, 1) := by decide +kernel
theorem dX0_powerOf_28 : decode cX0_powerOf 28 = .ok (.iload 4, 2) := by decide +kernel
theorem dX0_powerOf_30 : decode cX0_powerOf 30 = .ok (.iaload, 1) := by decide +kernel
theorem dX0_powerOf_31 : decode cX0_powerOf 31 = .ok (.i2l, 1) := by decide +kernel
theorem dX0_powerOf_32 : decode cX0_powerOf 32 = .ok (.lmul, 1) := by decide +kernel
theorem dX0_powerOf_33 : decode cX0_powerOf 33 = .ok (.ladd, 1) := by decide +kernel
theorem dX0_powerOf_34 : decode cX0_powerOf 34 = .ok (.lstore_n 2, 1) := by decide +kernel
theorem dX0_powerOf_35 : decode cX0_powerOf 35 = .ok (.iinc 4 1, 3) := by decide +kernel
theorem dX0_powerOf_38 : decode cX0_powerOf 38 = .ok (.goto (-33), 3) := by decide +kernel
theorem dX0_powerOf_41 : decode cX0_powerOf 41 = .ok (.lload_n 2, 1) := by decide +kernel
theorem dX0_powerOf_42 : decode cX0_powerOf 42 = .ok (.aload_n 0, 1) := by decide +kernel
theorem dX0_powerOf_43 : decode cX0_powerOf 43 = .ok (.getfield 35, 3) := by decide +kernel
theorem dX0_powerOf_46 : decode cX0_powerOf 46 = .ok (.i2l, 1) := by decide +kernel
theorem dX0_powerOf_47 : decode cX0_powerOf 47 = .ok (.ldiv, 1) := by decide +kernel
theorem dX0_powerOf_48 : decode cX0_powerOf 48 = .ok (.lreturn, 1) := by decide +kernel
set_option maxHeartbeats 4000000 in
set_option maxRecDepth 100000 in
theorem c_Bench_powerOf (l : Launch) (G : fm_G) (N : Nat) (M : fm_M) (v1 : Nat) (r : Int64) (hf : pBench_powerOf N M v1 = some r) : fm_Met l yX0_powerOf cX0_powerOf 5 (some .long) { frames := 0, cells := 0, slots := 0, locals := 0 } shC G [.ref (G.2.1 181), .ref (G.2.1 v1)] M (some (.long r)) M := by
  refine fm_enter (by decide) (Nat.le_of_ble_eq_true rfl) ?_
  intro p e s m args below meth c ls C E hl
  have hl : lv_has ls 5 [(0, .ref (G.2.1 181)), (1, .ref (G.2.1 v1))] := hl
  have J41 : ∀ (v2 : Int64) (H : Heap) (locs : List Loc) (ls : Array Slot), fm_Wd shC G M s H locs → lv_has ls 5 [(0, .ref (G.2.1 181)), (2, .long v2)] → pBench_powerOf_J41 N M v2 = some r → W p l e { frames := 0, cells := 0, slots := 0, locals := 0 } s m args below meth c H locs 0 0 (fm_Z below shC G args s (some (.long r)) M) (F0 m 41 ls []) := by
    intro v2 H locs ls E hl hf
    unfold pBench_powerOf_J41 at hf
    refine lv_lload_n C.1 C.2.1 dX0_powerOf_41 rfl (lv_at hl 1 rfl) ?_
    refine lv_aload_n C.1 C.2.1 dX0_powerOf_42 rfl (lv_at hl 0 rfl) ?_
    refine fm_geti C E lf_X0_35 hC_181 rfl dX0_powerOf_43 ?_
    refine lv_i2l C.1 C.2.1 dX0_powerOf_46 rfl ?_
    obtain ⟨hz47, hf⟩ := fm_nzl_s hf
    refine lv_ldiv C.1 C.2.1 dX0_powerOf_47 hz47 ?_
    obtain rfl := fm_rt1 hf
    exact fm_lret C E rfl dX0_powerOf_48
  have L5 : ∀ (w5_v1 : Nat) (n5 : Nat) (v2 : Int64) (v4 : Int32) (H : Heap) (locs : List Loc) (ls : Array Slot), fm_Wd shC G M s H locs → lv_has ls 5 [(0, .ref (G.2.1 181)), (1, .ref (G.2.1 w5_v1)), (2, .long v2), (4, .int v4)] → fm_lp (pBench_powerOf_L5 N M w5_v1) n5 (v2, v4) = some r → W p l e { frames := 0, cells := 0, slots := 0, locals := 0 } s m args below meth c H locs 0 0 (fm_Z below shC G args s (some (.long r)) M) (F0 m 5 ls []) := by
    intro w5_v1 n5
    induction n5 with
    | zero => intro v2 v4 H locs ls E hl hf; exact fm_lp_0 hf
    | succ n5 ih5 =>
      intro v2 v4 H locs ls E hl hf
      have hf : pBench_powerOf_L5b N M w5_v1 (fm_lp (pBench_powerOf_L5 N M w5_v1) n5) v2 v4 = some r := hf
      unfold pBench_powerOf_L5b at hf
      refine lv_iload C.1 C.2.1 dX0_powerOf_5 (lv_at hl 3 rfl) ?_
      refine lv_aload_n C.1 C.2.1 dX0_powerOf_7 rfl (lv_at hl 0 rfl) ?_
      refine fm_geti C E lf_X0_35 hC_181 rfl dX0_powerOf_8 ?_
      refine lv_icmp_ge (tgt := 41) C.1 C.2.1 dX0_powerOf_11 (by decide) (fun hc11 => ?_) (fun hc11 => ?_)
      · have hf := fm_ip hf hc11
        exact J41 _ _ _ _ E (lv_sub hl [0, 2] rfl) hf
      · have hf := fm_in' hf hc11
        refine lv_iload C.1 C.2.1 dX0_powerOf_14 (lv_at hl 3 rfl) ?_
        refine lv_aload_n C.1 C.2.1 dX0_powerOf_16 rfl (lv_at hl 1 rfl) ?_
        obtain ⟨h17, hf⟩ := fm_rq_s hf
        obtain ⟨_, hk17⟩ := fm_ia_at h17
        refine fm_alen C E hk17 (by decide) rfl dX0_powerOf_17 ?_
        refine lv_icmp_ge (tgt := 41) C.1 C.2.1 dX0_powerOf_18 (by decide) (fun hc18 => ?_) (fun hc18 => ?_)
        · have hf := fm_ip hf hc18
          exact J41 _ _ _ _ E (lv_sub hl [0, 2] rfl) hf
        · have hf := fm_in' hf hc18
          refine lv_lload_n C.1 C.2.1 dX0_powerOf_21 rfl (lv_at hl 2 rfl) ?_
          refine lv_aload_n C.1 C.2.1 dX0_powerOf_22 rfl (lv_at hl 1 rfl) ?_
          refine lv_iload C.1 C.2.1 dX0_powerOf_23 (lv_at hl 3 rfl) ?_
          obtain ⟨h25, x25, e25, hf⟩ := fm_ld_e hf
          obtain ⟨_, hk25⟩ := fm_n_at h25
          refine fm_iald' C E e25 hk25 h25 dX0_powerOf_25 ?_
          refine lv_i2l C.1 C.2.1 dX0_powerOf_26 rfl ?_
          refine lv_aload_n C.1 C.2.1 dX0_powerOf_27 rfl (lv_at hl 1 rfl) ?_
          refine lv_iload C.1 C.2.1 dX0_powerOf_28 (lv_at hl 3 rfl) ?_
          obtain ⟨h30, x30, e30, hf⟩ := fm_ld_e hf
          obtain ⟨_, hk30⟩ := fm_n_at h30
          refine fm_iald' C E e30 hk30 h30 dX0_powerOf_30 ?_
          refine lv_i2l C.1 C.2.1 dX0_powerOf_31 rfl ?_
          refine lv_lmul C.1 C.2.1 dX0_powerOf_32 ?_
          refine lv_ladd C.1 C.2.1 dX0_powerOf_33 ?_
          refine lv_lstore_n (lv' := [(2, .long _), (0, .ref _), (1, .ref _), (4, .int _)]) C.1 C.2.1 dX0_powerOf_34 rfl hl (by decide) rfl (fun ls hl => ?_)
          refine fm_iinc C (v := 1) (lv' := [(4, .int _), (2, .long _), (0, .ref _), (1, .ref _)]) (k := 3) hl rfl (by decide) (by decide) rfl dX0_powerOf_35 (fun ls hl => ?_)
          refine lv_goto (tgt := 5) C.1 C.2.1 dX0_powerOf_38 (by decide) ?_
          exact ih5 _ _ _ _ _ E (lv_sub hl [2, 3, 1, 0] rfl) hf
  unfold pBench_powerOf at hf
  refine lv_lconst (v := 0) C.1 C.2.1 dX0_powerOf_0 (by decide) ?_
  refine lv_lstore_n (lv' := [(2, .long _), (0, .ref _), (1, .ref _)]) C.1 C.2.1 dX0_powerOf_1 rfl hl (by decide) rfl (fun ls hl => ?_)
  refine lv_iconst (v := 0) C.1 C.2.1 dX0_powerOf_2 (by decide) ?_
  refine lv_istore (lv' := [(4, .int _), (2, .long _), (0, .ref _), (1, .ref _)]) C.1 C.2.1 dX0_powerOf_3 hl (by decide) rfl (fun ls hl => ?_)
  exact L5 _ N _ _ _ _ _ E (lv_sub hl [2, 3, 1, 0] rfl) hf
theorem dX0_levelOf_0 : decode cX0_levelOf 0 = .ok (.iconst 0, 1) := by decide +kernel
theorem dX0_levelOf_1 : decode cX0_levelOf 1 = .ok (.istore_n 2, 1) := by decide +kernel
theorem dX0_levelOf_2 : decode cX0_levelOf 2 = .ok (.iconst 0, 1) := by decide +kernel
theorem dX0_levelOf_3 : decode cX0_levelOf 3 = .ok (.istore_n 3, 1) := by decide +kernel
theorem dX0_levelOf_4 : decode cX0_levelOf 4 = .ok (.iload_n 3, 1) := by decide +kernel
theorem dX0_levelOf_5 : decode cX0_levelOf 5 = .ok (.aload_n 0, 1) := by decide +kernel
theorem dX0_levelOf_6 : decode cX0_levelOf 6 = .ok (.getfield 35, 3) := by decide +kernel
theorem dX0_levelOf_9 : decode cX0_levelOf 9 = .ok (.if_icmp .ge 24, 3) := by decide +kernel
theorem dX0_levelOf_12 : decode cX0_levelOf 12 = .ok (.iload_n 3, 1) := by decide +kernel
theorem dX0_levelOf_13 : decode cX0_levelOf 13 = .ok (.aload_n 1, 1) := by decide +kernel
theorem dX0_levelOf_14 : decode cX0_levelOf 14 = .ok (.arraylength, 1) := by decide +kernel
theorem dX0_levelOf_15 : decode cX0_levelOf 15 = .ok (.if_icmp .ge 18, 3) := by decide +kernel
theorem dX0_levelOf_18 : decode cX0_levelOf 18 = .ok (.iload_n 2, 1) := by decide +kernel
theorem dX0_levelOf_19 : decode cX0_levelOf 19 = .ok (.aload_n 1, 1) := by decide +kernel
theorem dX0_levelOf_20 : decode cX0_levelOf 20 = .ok (.iload_n 3, 1) := by decide +kernel
theorem dX0_levelOf_21 : decode cX0_levelOf 21 = .ok (.iaload, 1) := by decide +kernel
theorem dX0_levelOf_22 : decode cX0_levelOf 22 = .ok (.invokestatic 104, 3) := by decide +kernel
theorem dX0_levelOf_25 : decode cX0_levelOf 25 = .ok (.iadd, 1) := by decide +kernel
theorem dX0_levelOf_26 : decode cX0_levelOf 26 = .ok (.istore_n 2, 1) := by decide +kernel
theorem dX0_levelOf_27 : decode cX0_levelOf 27 = .ok (.iinc 3 1, 3) := by decide +kernel
theorem dX0_levelOf_30 : decode cX0_levelOf 30 = .ok (.goto (-26), 3) := by decide +kernel
theorem dX0_levelOf_33 : decode cX0_levelOf 33 = .ok (.iload_n 2, 1) := by decide +kernel
theorem dX0_levelOf_34 : decode cX0_levelOf 34 = .ok (.aload_n 0, 1) := by decide +kernel
theorem dX0_levelOf_35 : decode cX0_levelOf 35 = .ok (.getfield 35, 3) := by decide +kernel
theorem dX0_levelOf_38 : decode cX0_levelOf 38 = .ok (.idiv, 1) := by decide +kernel
theorem dX0_levelOf_39 : decode cX0_levelOf 39 = .ok (.ireturn, 1) := by decide +kernel
set_option maxHeartbeats 4000000 in
set_option maxRecDepth 100000 in
theorem c_Bench_levelOf (l : Launch) (G : fm_G) (N : Nat) (M : fm_M) (v1 : Nat) (r : Int32) (hf : pBench_levelOf N M v1 = some r) : fm_Met l yX0_levelOf cX0_levelOf 4 (some .int) { frames := 1, cells := 0, slots := 0, locals := 21 } shC G [.ref (G.2.1 181), .ref (G.2.1 v1)] M (some (.int r)) M := by
  refine fm_enter (by decide) (Nat.le_of_ble_eq_true rfl) ?_
  intro p e s m args below meth c ls C E hl
  have hl : lv_has ls 4 [(0, .ref (G.2.1 181)), (1, .ref (G.2.1 v1))] := hl
  have J33 : ∀ (v2 : Int32) (H : Heap) (locs : List Loc) (ls : Array Slot), fm_Wd shC G M s H locs → lv_has ls 4 [(0, .ref (G.2.1 181)), (2, .int v2)] → pBench_levelOf_J33 N M v2 = some r → W p l e { frames := 1, cells := 0, slots := 0, locals := 21 } s m args below meth c H locs 0 0 (fm_Z below shC G args s (some (.int r)) M) (F0 m 33 ls []) := by
    intro v2 H locs ls E hl hf
    unfold pBench_levelOf_J33 at hf
    refine lv_iload_n C.1 C.2.1 dX0_levelOf_33 rfl (lv_at hl 1 rfl) ?_
    refine lv_aload_n C.1 C.2.1 dX0_levelOf_34 rfl (lv_at hl 0 rfl) ?_
    refine fm_geti C E lf_X0_35 hC_181 rfl dX0_levelOf_35 ?_
    obtain ⟨hz38, hf⟩ := fm_nz_s hf
    refine lv_idiv C.1 C.2.1 dX0_levelOf_38 hz38 ?_
    obtain rfl := fm_rt1 hf
    exact fm_iret C E rfl rfl dX0_levelOf_39
  have L4 : ∀ (w4_v1 : Nat) (n4 : Nat) (v2 : Int32) (v3 : Int32) (H : Heap) (locs : List Loc) (ls : Array Slot), fm_Wd shC G M s H locs → lv_has ls 4 [(0, .ref (G.2.1 181)), (1, .ref (G.2.1 w4_v1)), (2, .int v2), (3, .int v3)] → fm_lp (pBench_levelOf_L4 N M w4_v1) n4 (v2, v3) = some r → W p l e { frames := 1, cells := 0, slots := 0, locals := 21 } s m args below meth c H locs 0 0 (fm_Z below shC G args s (some (.int r)) M) (F0 m 4 ls []) := by
    intro w4_v1 n4
    induction n4 with
    | zero => intro v2 v3 H locs ls E hl hf; exact fm_lp_0 hf
    | succ n4 ih4 =>
      intro v2 v3 H locs ls E hl hf
      have hf : pBench_levelOf_L4b N M w4_v1 (fm_lp (pBench_levelOf_L4 N M w4_v1) n4) v2 v3 = some r := hf
      unfold pBench_levelOf_L4b at hf
      refine lv_iload_n C.1 C.2.1 dX0_levelOf_4 rfl (lv_at hl 3 rfl) ?_
      refine lv_aload_n C.1 C.2.1 dX0_levelOf_5 rfl (lv_at hl 0 rfl) ?_
      refine fm_geti C E lf_X0_35 hC_181 rfl dX0_levelOf_6 ?_
      refine lv_icmp_ge (tgt := 33) C.1 C.2.1 dX0_levelOf_9 (by decide) (fun hc9 => ?_) (fun hc9 => ?_)
      · have hf := fm_ip hf hc9
        exact J33 _ _ _ _ E (lv_sub hl [0, 2] rfl) hf
      · have hf := fm_in' hf hc9
        refine lv_iload_n C.1 C.2.1 dX0_levelOf_12 rfl (lv_at hl 3 rfl) ?_
        refine lv_aload_n C.1 C.2.1 dX0_levelOf_13 rfl (lv_at hl 1 rfl) ?_
        obtain ⟨h14, hf⟩ := fm_rq_s hf
        obtain ⟨_, hk14⟩ := fm_ia_at h14
        refine fm_alen C E hk14 (by decide) rfl dX0_levelOf_14 ?_
        refine lv_icmp_ge (tgt := 33) C.1 C.2.1 dX0_levelOf_15 (by decide) (fun hc15 => ?_) (fun hc15 => ?_)
        · have hf := fm_ip hf hc15
          exact J33 _ _ _ _ E (lv_sub hl [0, 2] rfl) hf
        · have hf := fm_in' hf hc15
          refine lv_iload_n C.1 C.2.1 dX0_levelOf_18 rfl (lv_at hl 2 rfl) ?_
          refine lv_aload_n C.1 C.2.1 dX0_levelOf_19 rfl (lv_at hl 1 rfl) ?_
          refine lv_iload_n C.1 C.2.1 dX0_levelOf_20 rfl (lv_at hl 3 rfl) ?_
          obtain ⟨h21, x21, e21, hf⟩ := fm_ld_e hf
          obtain ⟨_, hk21⟩ := fm_n_at h21
          refine fm_iald' C E e21 hk21 h21 dX0_levelOf_21 ?_
          refine fm_abs C wv_abs wm_529 hl.1 ⟨by decide, by decide⟩ (by simp [Value.category]) ⟨by decide, by decide⟩ dX0_levelOf_22 ?_
          refine lv_iadd C.1 C.2.1 dX0_levelOf_25 ?_
          refine lv_istore_n (lv' := [(2, .int _), (0, .ref _), (1, .ref _), (3, .int _)]) C.1 C.2.1 dX0_levelOf_26 rfl hl (by decide) rfl (fun ls hl => ?_)
          refine fm_iinc C (v := 1) (lv' := [(3, .int _), (2, .int _), (0, .ref _), (1, .ref _)]) (k := 3) hl rfl (by decide) (by decide) rfl dX0_levelOf_27 (fun ls hl => ?_)
          refine lv_goto (tgt := 4) C.1 C.2.1 dX0_levelOf_30 (by decide) ?_
          exact ih4 _ _ _ _ _ E (lv_sub hl [2, 3, 1, 0] rfl) hf
  unfold pBench_levelOf at hf
  refine lv_iconst (v := 0) C.1 C.2.1 dX0_levelOf_0 (by decide) ?_
  refine lv_istore_n (lv' := [(2, .int _), (0, .ref _), (1, .ref _)]) C.1 C.2.1 dX0_levelOf_1 rfl hl (by decide) rfl (fun ls hl => ?_)
  refine lv_iconst (v := 0) C.1 C.2.1 dX0_levelOf_2 (by decide) ?_
  refine lv_istore_n (lv' := [(3, .int _), (2, .int _), (0, .ref _), (1, .ref _)]) C.1 C.2.1 dX0_levelOf_3 rfl hl (by decide) rfl (fun ls hl => ?_)
  exact L4 _ N _ _ _ _ _ E (lv_sub hl [2, 3, 1, 0] rfl) hf
theorem dX0_isQuiet_0 : decode cX0_isQuiet 0 = .ok (.iconst 0, 1) := by decide +kernel
theorem dX0_isQuiet_1 : decode cX0_isQuiet 1 = .ok (.istore_n 1, 1) := by decide +kernel
theorem dX0_isQuiet_2 : decode cX0_isQuiet 2 = .ok (.iload_n 1, 1) := by decide +kernel
theorem dX0_isQuiet_3 : decode cX0_isQuiet 3 = .ok (.aload_n 0, 1) := by decide +kernel
theorem dX0_isQuiet_4 : decode cX0_isQuiet 4 = .ok (.getfield 35, 3) := by decide +kernel
theorem dX0_isQuiet_7 : decode cX0_isQuiet 7 = .ok (.if_icmp .ge 20, 3) := by decide +kernel
theorem dX0_isQuiet_10 : decode cX0_isQuiet 10 = .ok (.aload_n 0, 1) := by decide +kernel
theorem dX0_isQuiet_11 : decode cX0_isQuiet 11 = .ok (.getfield 16, 3) := by decide +kernel
theorem dX0_isQuiet_14 : decode cX0_isQuiet 14 = .ok (.iload_n 1, 1) := by decide +kernel
theorem dX0_isQuiet_15 : decode cX0_isQuiet 15 = .ok (.iaload, 1) := by decide +kernel
theorem dX0_isQuiet_16 : decode cX0_isQuiet 16 = .ok (.ifCond .eq 5, 3) := by decide +kernel
theorem dX0_isQuiet_19 : decode cX0_isQuiet 19 = .ok (.iconst 0, 1) := by decide +kernel
theorem dX0_isQuiet_20 : decode cX0_isQuiet 20 = .ok (.ireturn, 1) := by decide +kernel
theorem dX0_isQuiet_21 : decode cX0_isQuiet 21 = .ok (.iinc 1 1, 3) := by decide +kernel
theorem dX0_isQuiet_24 : decode cX0_isQuiet 24 = .ok (.goto (-22), 3) := by decide +kernel
theorem dX0_isQuiet_27 : decode cX0_isQuiet 27 = .ok (.iconst 1, 1) := by decide +kernel
theorem dX0_isQuiet_28 : decode cX0_isQuiet 28 = .ok (.ireturn, 1) := by decide +kernel
set_option maxHeartbeats 4000000 in
set_option maxRecDepth 100000 in
theorem c_Bench_isQuiet (l : Launch) (G : fm_G) (N : Nat) (M : fm_M) (r : Int32) (hf : pBench_isQuiet N M = some r) : fm_Met l yX0_isQuiet cX0_isQuiet 2 (some .boolean) { frames := 0, cells := 0, slots := 0, locals := 0 } shC G [.ref (G.2.1 181)] M (some (.int r)) M := by
  refine fm_enter (by decide) (Nat.le_of_ble_eq_true rfl) ?_
  intro p e s m args below meth c ls C E hl
  have hl : lv_has ls 2 [(0, .ref (G.2.1 181))] := hl
  have L2 : ∀ (n2 : Nat) (v1 : Int32) (H : Heap) (locs : List Loc) (ls : Array Slot), fm_Wd shC G M s H locs → lv_has ls 2 [(0, .ref (G.2.1 181)), (1, .int v1)] → fm_lp (pBench_isQuiet_L2 N M) n2 v1 = some r → W p l e { frames := 0, cells := 0, slots := 0, locals := 0 } s m args below meth c H locs 0 0 (fm_Z below shC G args s (some (.int r)) M) (F0 m 2 ls []) := by
    intro  n2
    induction n2 with
    | zero => intro v1 H locs ls E hl hf; exact fm_lp_0 hf
    | succ n2 ih2 =>
      intro v1 H locs ls E hl hf
      have hf : pBench_isQuiet_L2b N M (fm_lp (pBench_isQuiet_L2 N M) n2) v1 = some r := hf
      unfold pBench_isQuiet_L2b at hf
      refine lv_iload_n C.1 C.2.1 dX0_isQuiet_2 rfl (lv_at hl 1 rfl) ?_
      refine lv_aload_n C.1 C.2.1 dX0_isQuiet_3 rfl (lv_at hl 0 rfl) ?_
      refine fm_geti C E lf_X0_35 hC_181 rfl dX0_isQuiet_4 ?_
      refine lv_icmp_ge (tgt := 27) C.1 C.2.1 dX0_isQuiet_7 (by decide) (fun hc7 => ?_) (fun hc7 => ?_)
      · have hf := fm_ip hf hc7
        refine lv_iconst (v := 1) C.1 C.2.1 dX0_isQuiet_27 (by decide) ?_
        obtain rfl := fm_rt1 hf
        exact fm_iret C E rfl rfl dX0_isQuiet_28
      · have hf := fm_in' hf hc7
        refine lv_aload_n C.1 C.2.1 dX0_isQuiet_10 rfl (lv_at hl 0 rfl) ?_
        refine fm_getr C E lf_X0_16 hC_181 rfl dX0_isQuiet_11 ?_
        refine lv_iload_n C.1 C.2.1 dX0_isQuiet_14 rfl (lv_at hl 1 rfl) ?_
        obtain ⟨h15, x15, e15, hf⟩ := fm_ld_e hf
        refine fm_iald' C E e15 hC_189 h15 dX0_isQuiet_15 ?_
        refine lv_if_eq (tgt := 21) C.1 C.2.1 dX0_isQuiet_16 (by decide) (fun hc16 => ?_) (fun hc16 => ?_)
        · have hf := fm_ip hf hc16
          refine fm_iinc C (v := 1) (lv' := [(1, .int _), (0, .ref _)]) (k := 1) hl rfl (by decide) (by decide) rfl dX0_isQuiet_21 (fun ls hl => ?_)
          refine lv_goto (tgt := 2) C.1 C.2.1 dX0_isQuiet_24 (by decide) ?_
          exact ih2 _ _ _ _ E (lv_sub hl [1, 0] rfl) hf
        · have hf := fm_in' hf hc16
          refine lv_iconst (v := 0) C.1 C.2.1 dX0_isQuiet_19 (by decide) ?_
          obtain rfl := fm_rt1 hf
          exact fm_iret C E rfl rfl dX0_isQuiet_20
  unfold pBench_isQuiet at hf
  refine lv_iconst (v := 0) C.1 C.2.1 dX0_isQuiet_0 (by decide) ?_
  refine lv_istore_n (lv' := [(1, .int _), (0, .ref _)]) C.1 C.2.1 dX0_isQuiet_1 rfl hl (by decide) rfl (fun ls hl => ?_)
  exact L2  N _ _ _ _ E (lv_sub hl [1, 0] rfl) hf
theorem dX0_clips_0 : decode cX0_clips 0 = .ok (.iconst 0, 1) := by decide +kernel
theorem dX0_clips_1 : decode cX0_clips 1 = .ok (.istore_n 1, 1) := by decide +kernel
theorem dX0_clips_2 : decode cX0_clips 2 = .ok (.iconst 0, 1) := by decide +kernel
theorem dX0_clips_3 : decode cX0_clips 3 = .ok (.istore_n 2, 1) := by decide +kernel
theorem dX0_clips_4 : decode cX0_clips 4 = .ok (.iload_n 2, 1) := by decide +kernel
theorem dX0_clips_5 : decode cX0_clips 5 = .ok (.aload_n 0, 1) := by decide +kernel
theorem dX0_clips_6 : decode cX0_clips 6 = .ok (.getfield 35, 3) := by decide +kernel
theorem dX0_clips_9 : decode cX0_clips 9 = .ok (.if_icmp .ge 33, 3) := by decide +kernel
theorem dX0_clips_12 : decode cX0_clips 12 = .ok (.aload_n 0, 1) := by decide +kernel
theorem dX0_clips_13 : decode cX0_clips 13 = .ok (.getfield 16, 3) := by decide +kernel
theorem dX0_clips_16 : decode cX0_clips 16 = .ok (.iload_n 2, 1) := by decide +kernel
theorem dX0_clips_17 : decode cX0_clips 17 = .ok (.iaload, 1) := by decide +kernel
theorem dX0_clips_18 : decode cX0_clips 18 = .ok (.invokestatic 104, 3) := by decide +kernel
theorem dX0_clips_21 : decode cX0_clips 21 = .ok (.aload_n 0, 1) := by decide +kernel
theorem dX0_clips_22 : decode cX0_clips 22 = .ok (.getfield 39, 3) := by decide +kernel
theorem dX0_clips_25 : decode cX0_clips 25 = .ok (.getfield 109, 3) := by decide +kernel
theorem dX0_clips_28 : decode cX0_clips 28 = .ok (.iconst 0, 1) := by decide +kernel
theorem dX0_clips_29 : decode cX0_clips 29 = .ok (.iaload, 1) := by decide +kernel
theorem dX0_clips_30 : decode cX0_clips 30 = .ok (.if_icmp .ne 6, 3) := by decide +kernel
theorem dX0_clips_33 : decode cX0_clips 33 = .ok (.iinc 1 1, 3) := by decide +kernel
theorem dX0_clips_36 : decode cX0_clips 36 = .ok (.iinc 2 1, 3) := by decide +kernel
theorem dX0_clips_39 : decode cX0_clips 39 = .ok (.goto (-35), 3) := by decide +kernel
theorem dX0_clips_42 : decode cX0_clips 42 = .ok (.iload_n 1, 1) := by decide +kernel
theorem dX0_clips_43 : decode cX0_clips 43 = .ok (.ireturn, 1) := by decide +kernel
set_option maxHeartbeats 4000000 in
set_option maxRecDepth 100000 in
theorem c_Bench_clips (l : Launch) (G : fm_G) (N : Nat) (M : fm_M) (r : Int32) (hf : pBench_clips N M = some r) : fm_Met l yX0_clips cX0_clips 3 (some .int) { frames := 1, cells := 0, slots := 0, locals := 21 } shC G [.ref (G.2.1 181)] M (some (.int r)) M := by
  refine fm_enter (by decide) (Nat.le_of_ble_eq_true rfl) ?_
  intro p e s m args below meth c ls C E hl
  have hl : lv_has ls 3 [(0, .ref (G.2.1 181))] := hl
  have L4 : ∀ (n4 : Nat) (v1 : Int32) (v2 : Int32) (H : Heap) (locs : List Loc) (ls : Array Slot), fm_Wd shC G M s H locs → lv_has ls 3 [(0, .ref (G.2.1 181)), (1, .int v1), (2, .int v2)] → fm_lp (pBench_clips_L4 N M) n4 (v1, v2) = some r → W p l e { frames := 1, cells := 0, slots := 0, locals := 21 } s m args below meth c H locs 0 0 (fm_Z below shC G args s (some (.int r)) M) (F0 m 4 ls []) := by
    intro  n4
    induction n4 with
    | zero => intro v1 v2 H locs ls E hl hf; exact fm_lp_0 hf
    | succ n4 ih4 =>
      intro v1 v2 H locs ls E hl hf
      have hf : pBench_clips_L4b N M (fm_lp (pBench_clips_L4 N M) n4) v1 v2 = some r := hf
      unfold pBench_clips_L4b at hf
      refine lv_iload_n C.1 C.2.1 dX0_clips_4 rfl (lv_at hl 2 rfl) ?_
      refine lv_aload_n C.1 C.2.1 dX0_clips_5 rfl (lv_at hl 0 rfl) ?_
      refine fm_geti C E lf_X0_35 hC_181 rfl dX0_clips_6 ?_
      refine lv_icmp_ge (tgt := 42) C.1 C.2.1 dX0_clips_9 (by decide) (fun hc9 => ?_) (fun hc9 => ?_)
      · have hf := fm_ip hf hc9
        refine lv_iload_n C.1 C.2.1 dX0_clips_42 rfl (lv_at hl 1 rfl) ?_
        obtain rfl := fm_rt1 hf
        exact fm_iret C E rfl rfl dX0_clips_43
      · have hf := fm_in' hf hc9
        refine lv_aload_n C.1 C.2.1 dX0_clips_12 rfl (lv_at hl 0 rfl) ?_
        refine fm_getr C E lf_X0_16 hC_181 rfl dX0_clips_13 ?_
        refine lv_iload_n C.1 C.2.1 dX0_clips_16 rfl (lv_at hl 2 rfl) ?_
        obtain ⟨h17, x17, e17, hf⟩ := fm_ld_e hf
        refine fm_iald' C E e17 hC_189 h17 dX0_clips_17 ?_
        refine fm_abs C wv_abs wm_529 hl.1 ⟨by decide, by decide⟩ (by simp [Value.category]) ⟨by decide, by decide⟩ dX0_clips_18 ?_
        refine lv_aload_n C.1 C.2.1 dX0_clips_21 rfl (lv_at hl 0 rfl) ?_
        refine fm_getr C E lf_X0_39 hC_181 rfl dX0_clips_22 ?_
        refine fm_getr C E lf_X0_109 hC_1 rfl dX0_clips_25 ?_
        refine lv_iconst (v := 0) C.1 C.2.1 dX0_clips_28 (by decide) ?_
        refine fm_ialdc C E 0 (by decide) hC_14 (by decide) dX0_clips_29 ?_
        refine lv_icmp_ne (tgt := 36) C.1 C.2.1 dX0_clips_30 (by decide) (fun hc30 => ?_) (fun hc30 => ?_)
        · have hf := fm_in' hf hc30
          refine fm_iinc C (v := 1) (lv' := [(2, .int _), (0, .ref _), (1, .int _)]) (k := 2) hl rfl (by decide) (by decide) rfl dX0_clips_36 (fun ls hl => ?_)
          refine lv_goto (tgt := 4) C.1 C.2.1 dX0_clips_39 (by decide) ?_
          exact ih4 _ _ _ _ _ E (lv_sub hl [1, 2, 0] rfl) hf
        · have hf := fm_ip hf hc30
          refine fm_iinc C (v := 1) (lv' := [(1, .int _), (0, .ref _), (2, .int _)]) (k := 1) hl rfl (by decide) (by decide) rfl dX0_clips_33 (fun ls hl => ?_)
          refine fm_iinc C (v := 1) (lv' := [(2, .int _), (1, .int _), (0, .ref _)]) (k := 2) hl rfl (by decide) (by decide) rfl dX0_clips_36 (fun ls hl => ?_)
          refine lv_goto (tgt := 4) C.1 C.2.1 dX0_clips_39 (by decide) ?_
          exact ih4 _ _ _ _ _ E (lv_sub hl [2, 1, 0] rfl) hf
  unfold pBench_clips at hf
  refine lv_iconst (v := 0) C.1 C.2.1 dX0_clips_0 (by decide) ?_
  refine lv_istore_n (lv' := [(1, .int _), (0, .ref _)]) C.1 C.2.1 dX0_clips_1 rfl hl (by decide) rfl (fun ls hl => ?_)
  refine lv_iconst (v := 0) C.1 C.2.1 dX0_clips_2 (by decide) ?_
  refine lv_istore_n (lv' := [(2, .int _), (1, .int _), (0, .ref _)]) C.1 C.2.1 dX0_clips_3 rfl hl (by decide) rfl (fun ls hl => ?_)
  exact L4  N _ _ _ _ _ E (lv_sub hl [2, 1, 0] rfl) hf
theorem dX1_addToTotals_0 : decode cX1_addToTotals 0 = .ok (.iconst 0, 1) := by decide +kernel
theorem dX1_addToTotals_1 : decode cX1_addToTotals 1 = .ok (.istore_n 2, 1) := by decide +kernel
theorem dX1_addToTotals_2 : decode cX1_addToTotals 2 = .ok (.iload_n 2, 1) := by decide +kernel
theorem dX1_addToTotals_3 : decode cX1_addToTotals 3 = .ok (.bipush 17, 2) := by decide +kernel
theorem dX1_addToTotals_5 : decode cX1_addToTotals 5 = .ok (.if_icmp .ge 26, 3) := by decide +kernel
theorem dX1_addToTotals_8 : decode cX1_addToTotals 8 = .ok (.aload_n 0, 1) := by decide +kernel
theorem dX1_addToTotals_9 : decode cX1_addToTotals 9 = .ok (.getfield 16, 3) := by decide +kernel
theorem dX1_addToTotals_12 : decode cX1_addToTotals 12 = .ok (.iload_n 2, 1) := by decide +kernel
theorem dX1_addToTotals_13 : decode cX1_addToTotals 13 = .ok (.dup2, 1) := by decide +kernel
theorem dX1_addToTotals_14 : decode cX1_addToTotals 14 = .ok (.iaload, 1) := by decide +kernel
theorem dX1_addToTotals_15 : decode cX1_addToTotals 15 = .ok (.aload_n 0, 1) := by decide +kernel
theorem dX1_addToTotals_16 : decode cX1_addToTotals 16 = .ok (.getfield 11, 3) := by decide +kernel
theorem dX1_addToTotals_19 : decode cX1_addToTotals 19 = .ok (.iload_n 2, 1) := by decide +kernel
theorem dX1_addToTotals_20 : decode cX1_addToTotals 20 = .ok (.aaload, 1) := by decide +kernel
theorem dX1_addToTotals_21 : decode cX1_addToTotals 21 = .ok (.iload_n 1, 1) := by decide +kernel
theorem dX1_addToTotals_22 : decode cX1_addToTotals 22 = .ok (.iaload, 1) := by decide +kernel
theorem dX1_addToTotals_23 : decode cX1_addToTotals 23 = .ok (.iadd, 1) := by decide +kernel
theorem dX1_addToTotals_24 : decode cX1_addToTotals 24 = .ok (.iastore, 1) := by decide +kernel
theorem dX1_addToTotals_25 : decode cX1_addToTotals 25 = .ok (.iinc 2 1, 3) := by decide +kernel
theorem dX1_addToTotals_28 : decode cX1_addToTotals 28 = .ok (.goto (-26), 3) := by decide +kernel
theorem dX1_addToTotals_31 : decode cX1_addToTotals 31 = .ok (.return_, 1) := by decide +kernel
set_option maxHeartbeats 4000000 in
set_option maxRecDepth 100000 in
theorem c_Compass_addToTotals (l : Launch) (G : fm_G) (N : Nat) (M : fm_M) (v1 : Int32) (M' : fm_M) (hf : pCompass_addToTotals N M v1 = some M') : fm_Met l yX1_addToTotals cX1_addToTotals 3 none { frames := 0, cells := 0, slots := 0, locals := 0 } shC G [.ref (G.2.1 200), .int v1] M none M' := by
  refine fm_enter (by decide) (Nat.le_of_ble_eq_true rfl) ?_
  intro p e s m args below meth c ls C E hl
  have hl : lv_has ls 3 [(0, .ref (G.2.1 200)), (1, .int v1)] := hl
  have L2 : ∀ (w2_v1 : Int32) (n2 : Nat) (v2 : Int32) (M : fm_M) (H : Heap) (locs : List Loc) (ls : Array Slot), fm_Wd shC G M s H locs → lv_has ls 3 [(0, .ref (G.2.1 200)), (1, .int w2_v1), (2, .int v2)] → fm_lp (pCompass_addToTotals_L2 N w2_v1) n2 (v2, M) = some M' → W p l e { frames := 0, cells := 0, slots := 0, locals := 0 } s m args below meth c H locs 0 0 (fm_Z below shC G args s none M') (F0 m 2 ls []) := by
    intro w2_v1 n2
    induction n2 with
    | zero => intro v2 M H locs ls E hl hf; exact fm_lp_0 hf
    | succ n2 ih2 =>
      intro v2 M H locs ls E hl hf
      have hf : pCompass_addToTotals_L2b N w2_v1 (fm_lp (pCompass_addToTotals_L2 N w2_v1) n2) v2 M = some M' := hf
      unfold pCompass_addToTotals_L2b at hf
      refine lv_iload_n C.1 C.2.1 dX1_addToTotals_2 rfl (lv_at hl 2 rfl) ?_
      refine lv_bipush (v := 17) C.1 C.2.1 dX1_addToTotals_3 (by decide) ?_
      refine lv_icmp_ge (tgt := 31) C.1 C.2.1 dX1_addToTotals_5 (by decide) (fun hc5 => ?_) (fun hc5 => ?_)
      · have hf := fm_ip hf hc5
        obtain rfl := fm_rt1 hf
        exact fm_vret C E rfl dX1_addToTotals_31
      · have hf := fm_in' hf hc5
        refine lv_aload_n C.1 C.2.1 dX1_addToTotals_8 rfl (lv_at hl 0 rfl) ?_
        refine fm_getr C E lf_X1_16 hC_200 rfl dX1_addToTotals_9 ?_
        refine lv_iload_n C.1 C.2.1 dX1_addToTotals_12 rfl (lv_at hl 2 rfl) ?_
        refine lv_dup2_11 C.1 C.2.1 dX1_addToTotals_13 rfl rfl ?_
        obtain ⟨h14, x14, e14, hf⟩ := fm_ld_e hf
        refine fm_iald' C E e14 hC_219 h14 dX1_addToTotals_14 ?_
        refine lv_aload_n C.1 C.2.1 dX1_addToTotals_15 rfl (lv_at hl 0 rfl) ?_
        refine fm_getr C E lf_X1_11 hC_200 rfl dX1_addToTotals_16 ?_
        refine lv_iload_n C.1 C.2.1 dX1_addToTotals_19 rfl (lv_at hl 2 rfl) ?_
        obtain ⟨q20, h20, k20, e20, hf⟩ := fm_ix_t tC_202 hf
        refine fm_aald C E hC_201 h20 (r := q20) (by rw [e20]; exact rC_202 _ (fm_in_lt h20)) dX1_addToTotals_20 ?_
        refine lv_iload_n C.1 C.2.1 dX1_addToTotals_21 rfl (lv_at hl 1 rfl) ?_
        obtain ⟨h22, x22, e22, hf⟩ := fm_ld_e hf
        refine fm_iald' C E e22 k20 h22 dX1_addToTotals_22 ?_
        refine lv_iadd C.1 C.2.1 dX1_addToTotals_23 ?_
        obtain ⟨h24, M24, e24, hf⟩ := fm_st_e hf
        refine fm_iast' C E e24 hC_219 h24 dX1_addToTotals_24 (fun H locs E => ?_)
        refine fm_iinc C (v := 1) (lv' := [(2, .int _), (0, .ref _), (1, .int _)]) (k := 2) hl rfl (by decide) (by decide) rfl dX1_addToTotals_25 (fun ls hl => ?_)
        refine lv_goto (tgt := 2) C.1 C.2.1 dX1_addToTotals_28 (by decide) ?_
        exact ih2 _ _ _ _ _ E (lv_sub hl [1, 2, 0] rfl) hf
  unfold pCompass_addToTotals at hf
  refine lv_iconst (v := 0) C.1 C.2.1 dX1_addToTotals_0 (by decide) ?_
  refine lv_istore_n (lv' := [(2, .int _), (0, .ref _), (1, .int _)]) C.1 C.2.1 dX1_addToTotals_1 rfl hl (by decide) rfl (fun ls hl => ?_)
  exact L2 _ N _ _ _ _ _ E (lv_sub hl [1, 2, 0] rfl) hf
theorem dX2_start_0 : decode cX2_start 0 = .ok (.aload_n 0, 1) := by decide +kernel
theorem dX2_start_1 : decode cX2_start 1 = .ok (.iload_n 1, 1) := by decide +kernel
theorem dX2_start_2 : decode cX2_start 2 = .ok (.putfield 7, 3) := by decide +kernel
theorem dX2_start_5 : decode cX2_start 5 = .ok (.return_, 1) := by decide +kernel
set_option maxHeartbeats 4000000 in
set_option maxRecDepth 100000 in
theorem c_Dice_start (l : Launch) (G : fm_G) (M : fm_M) (v1 : Int32) (M' : fm_M) (hf : pDice_start M v1 = some M') : fm_Met l yX2_start cX2_start 2 none { frames := 0, cells := 0, slots := 0, locals := 0 } shC G [.ref (G.2.1 220), .int v1] M none M' := by
  refine fm_enter (by decide) (Nat.le_of_ble_eq_true rfl) ?_
  intro p e s m args below meth c ls C E hl
  have hl : lv_has ls 2 [(0, .ref (G.2.1 220)), (1, .int v1)] := hl
  unfold pDice_start at hf
  refine lv_aload_n C.1 C.2.1 dX2_start_0 rfl (lv_at hl 0 rfl) ?_
  refine lv_iload_n C.1 C.2.1 dX2_start_1 rfl (lv_at hl 1 rfl) ?_
  obtain ⟨M2, e2, hf⟩ := fm_pt_s hf
  refine fm_put' C E e2 lp_X2_7 hC_220 rfl dX2_start_2 (fun H locs E => ?_)
  obtain rfl := fm_rt1 hf
  exact fm_vret C E rfl dX2_start_5
theorem dX2_draw_0 : decode cX2_draw 0 = .ok (.aload_n 0, 1) := by decide +kernel
theorem dX2_draw_1 : decode cX2_draw 1 = .ok (.aload_n 0, 1) := by decide +kernel
theorem dX2_draw_2 : decode cX2_draw 2 = .ok (.getfield 7, 3) := by decide +kernel
theorem dX2_draw_5 : decode cX2_draw 5 = .ok (.ldc 13, 2) := by decide +kernel
theorem dX2_draw_7 : decode cX2_draw 7 = .ok (.imul, 1) := by decide +kernel
theorem dX2_draw_8 : decode cX2_draw 8 = .ok (.sipush 12345, 3) := by decide +kernel
theorem dX2_draw_11 : decode cX2_draw 11 = .ok (.iadd, 1) := by decide +kernel
theorem dX2_draw_12 : decode cX2_draw 12 = .ok (.putfield 7, 3) := by decide +kernel
theorem dX2_draw_15 : decode cX2_draw 15 = .ok (.iload_n 1, 1) := by decide +kernel
theorem dX2_draw_16 : decode cX2_draw 16 = .ok (.iconst 1, 1) := by decide +kernel
theorem dX2_draw_17 : decode cX2_draw 17 = .ok (.if_icmp .ge 7, 3) := by decide +kernel
theorem dX2_draw_20 : decode cX2_draw 20 = .ok (.iconst 0, 1) := by decide +kernel
theorem dX2_draw_21 : decode cX2_draw 21 = .ok (.goto 12, 3) := by decide +kernel
theorem dX2_draw_24 : decode cX2_draw 24 = .ok (.aload_n 0, 1) := by decide +kernel
theorem dX2_draw_25 : decode cX2_draw 25 = .ok (.getfield 7, 3) := by decide +kernel
theorem dX2_draw_28 : decode cX2_draw 28 = .ok (.bipush 16, 2) := by decide +kernel
theorem dX2_draw_30 : decode cX2_draw 30 = .ok (.iushr, 1) := by decide +kernel
theorem dX2_draw_31 : decode cX2_draw 31 = .ok (.iload_n 1, 1) := by decide +kernel
theorem dX2_draw_32 : decode cX2_draw 32 = .ok (.irem, 1) := by decide +kernel
theorem dX2_draw_33 : decode cX2_draw 33 = .ok (.ireturn, 1) := by decide +kernel
set_option maxHeartbeats 4000000 in
set_option maxRecDepth 100000 in
theorem c_Dice_draw (l : Launch) (G : fm_G) (M : fm_M) (v1 : Int32) (r : Int32) (M' : fm_M) (hf : pDice_draw M v1 = some (r, M')) : fm_Met l yX2_draw cX2_draw 2 (some .int) { frames := 0, cells := 0, slots := 0, locals := 0 } shC G [.ref (G.2.1 220), .int v1] M (some (.int r)) M' := by
  refine fm_enter (by decide) (Nat.le_of_ble_eq_true rfl) ?_
  intro p e s m args below meth c ls C E hl
  have hl : lv_has ls 2 [(0, .ref (G.2.1 220)), (1, .int v1)] := hl
  unfold pDice_draw at hf
  refine lv_aload_n C.1 C.2.1 dX2_draw_0 rfl (lv_at hl 0 rfl) ?_
  refine lv_aload_n C.1 C.2.1 dX2_draw_1 rfl (lv_at hl 0 rfl) ?_
  refine fm_geti C E lf_X2_7 hC_220 rfl dX2_draw_2 ?_
  refine lv_ldc C.1 C.2.1 C.2.2.2.1 (C.2.2.2.2.1 _ wc_948) dX2_draw_5 ?_
  refine lv_imul C.1 C.2.1 dX2_draw_7 ?_
  refine lv_sipush (v := 12345) C.1 C.2.1 dX2_draw_8 (by decide) ?_
  refine lv_iadd C.1 C.2.1 dX2_draw_11 ?_
  obtain ⟨M12, e12, hf⟩ := fm_pt_s hf
  refine fm_put' C E e12 lp_X2_7 hC_220 rfl dX2_draw_12 (fun H locs E => ?_)
  refine lv_iload_n C.1 C.2.1 dX2_draw_15 rfl (lv_at hl 1 rfl) ?_
  refine lv_iconst (v := 1) C.1 C.2.1 dX2_draw_16 (by decide) ?_
  refine lv_icmp_ge (tgt := 24) C.1 C.2.1 dX2_draw_17 (by decide) (fun hc17 => ?_) (fun hc17 => ?_)
  · have hf := fm_ip hf hc17
    refine lv_aload_n C.1 C.2.1 dX2_draw_24 rfl (lv_at hl 0 rfl) ?_
    refine fm_geti C E lf_X2_7 hC_220 rfl dX2_draw_25 ?_
    refine lv_bipush (v := 16) C.1 C.2.1 dX2_draw_28 (by decide) ?_
    refine lv_iushr C.1 C.2.1 dX2_draw_30 rfl ?_
    refine lv_iload_n C.1 C.2.1 dX2_draw_31 rfl (lv_at hl 1 rfl) ?_
    obtain ⟨hz32, hf⟩ := fm_nz_s hf
    refine lv_irem C.1 C.2.1 dX2_draw_32 hz32 ?_
    obtain ⟨rfl, rfl⟩ := fm_rt2 hf
    exact fm_iret C E rfl rfl dX2_draw_33
  · have hf := fm_in' hf hc17
    refine lv_iconst (v := 0) C.1 C.2.1 dX2_draw_20 (by decide) ?_
    refine lv_goto (tgt := 33) C.1 C.2.1 dX2_draw_21 (by decide) ?_
    obtain ⟨rfl, rfl⟩ := fm_rt2 hf
    exact fm_iret C E rfl rfl dX2_draw_33
theorem dX3_listenTo_0 : decode cX3_listenTo 0 = .ok (.aload_n 0, 1) := by decide +kernel
theorem dX3_listenTo_1 : decode cX3_listenTo 1 = .ok (.iload_n 1, 1) := by decide +kernel
theorem dX3_listenTo_2 : decode cX3_listenTo 2 = .ok (.putfield 22, 3) := by decide +kernel
theorem dX3_listenTo_5 : decode cX3_listenTo 5 = .ok (.aload_n 0, 1) := by decide +kernel
theorem dX3_listenTo_6 : decode cX3_listenTo 6 = .ok (.dup, 1) := by decide +kernel
theorem dX3_listenTo_7 : decode cX3_listenTo 7 = .ok (.getfield 26, 3) := by decide +kernel
theorem dX3_listenTo_10 : decode cX3_listenTo 10 = .ok (.iconst 1, 1) := by decide +kernel
theorem dX3_listenTo_11 : decode cX3_listenTo 11 = .ok (.iadd, 1) := by decide +kernel
theorem dX3_listenTo_12 : decode cX3_listenTo 12 = .ok (.putfield 26, 3) := by decide +kernel
theorem dX3_listenTo_15 : decode cX3_listenTo 15 = .ok (.return_, 1) := by decide +kernel
set_option maxHeartbeats 4000000 in
set_option maxRecDepth 100000 in
theorem c_Ears_listenTo (l : Launch) (G : fm_G) (M : fm_M) (v1 : Int32) (M' : fm_M) (hf : pEars_listenTo M v1 = some M') : fm_Met l yX3_listenTo cX3_listenTo 2 none { frames := 0, cells := 0, slots := 0, locals := 0 } shC G [.ref (G.2.1 178), .int v1] M none M' := by
  refine fm_enter (by decide) (Nat.le_of_ble_eq_true rfl) ?_
  intro p e s m args below meth c ls C E hl
  have hl : lv_has ls 2 [(0, .ref (G.2.1 178)), (1, .int v1)] := hl
  unfold pEars_listenTo at hf
  refine lv_aload_n C.1 C.2.1 dX3_listenTo_0 rfl (lv_at hl 0 rfl) ?_
  refine lv_iload_n C.1 C.2.1 dX3_listenTo_1 rfl (lv_at hl 1 rfl) ?_
  obtain ⟨M2, e2, hf⟩ := fm_pt_s hf
  refine fm_put' C E e2 lp_X3_22 hC_178 rfl dX3_listenTo_2 (fun H locs E => ?_)
  refine lv_aload_n C.1 C.2.1 dX3_listenTo_5 rfl (lv_at hl 0 rfl) ?_
  refine lv_dup C.1 C.2.1 dX3_listenTo_6 rfl ?_
  refine fm_geti C E lf_X3_26 hC_178 rfl dX3_listenTo_7 ?_
  refine lv_iconst (v := 1) C.1 C.2.1 dX3_listenTo_10 (by decide) ?_
  refine lv_iadd C.1 C.2.1 dX3_listenTo_11 ?_
  obtain ⟨M12, e12, hf⟩ := fm_pt_s hf
  refine fm_put' C E e12 lp_X3_26 hC_178 rfl dX3_listenTo_12 (fun H locs E => ?_)
  obtain rfl := fm_rt1 hf
  exact fm_vret C E rfl dX3_listenTo_15
theorem dX3_gust_0 : decode cX3_gust 0 = .ok (.iload_n 1, 1) := by decide +kernel
theorem dX3_gust_1 : decode cX3_gust 1 = .ok (.sipush 300, 3) := by decide +kernel
theorem dX3_gust_4 : decode cX3_gust 4 = .ok (.iadd, 1) := by decide +kernel
theorem dX3_gust_5 : decode cX3_gust 5 = .ok (.iload_n 1, 1) := by decide +kernel
theorem dX3_gust_6 : decode cX3_gust 6 = .ok (.sipush 300, 3) := by decide +kernel
theorem dX3_gust_9 : decode cX3_gust 9 = .ok (.iadd, 1) := by decide +kernel
theorem dX3_gust_10 : decode cX3_gust 10 = .ok (.imul, 1) := by decide +kernel
theorem dX3_gust_11 : decode cX3_gust 11 = .ok (.bipush 7, 2) := by decide +kernel
theorem dX3_gust_13 : decode cX3_gust 13 = .ok (.imul, 1) := by decide +kernel
theorem dX3_gust_14 : decode cX3_gust 14 = .ok (.iload_n 0, 1) := by decide +kernel
theorem dX3_gust_15 : decode cX3_gust 15 = .ok (.iconst 1, 1) := by decide +kernel
theorem dX3_gust_16 : decode cX3_gust 16 = .ok (.iadd, 1) := by decide +kernel
theorem dX3_gust_17 : decode cX3_gust 17 = .ok (.iload_n 1, 1) := by decide +kernel
theorem dX3_gust_18 : decode cX3_gust 18 = .ok (.sipush 311, 3) := by decide +kernel
theorem dX3_gust_21 : decode cX3_gust 21 = .ok (.iadd, 1) := by decide +kernel
theorem dX3_gust_22 : decode cX3_gust 22 = .ok (.imul, 1) := by decide +kernel
theorem dX3_gust_23 : decode cX3_gust 23 = .ok (.bipush 13, 2) := by decide +kernel
theorem dX3_gust_25 : decode cX3_gust 25 = .ok (.imul, 1) := by decide +kernel
theorem dX3_gust_26 : decode cX3_gust 26 = .ok (.iadd, 1) := by decide +kernel
theorem dX3_gust_27 : decode cX3_gust 27 = .ok (.sipush 1009, 3) := by decide +kernel
theorem dX3_gust_30 : decode cX3_gust 30 = .ok (.irem, 1) := by decide +kernel
theorem dX3_gust_31 : decode cX3_gust 31 = .ok (.istore_n 2, 1) := by decide +kernel
theorem dX3_gust_32 : decode cX3_gust 32 = .ok (.iload_n 2, 1) := by decide +kernel
theorem dX3_gust_33 : decode cX3_gust 33 = .ok (.bipush 17, 2) := by decide +kernel
theorem dX3_gust_35 : decode cX3_gust 35 = .ok (.irem, 1) := by decide +kernel
theorem dX3_gust_36 : decode cX3_gust 36 = .ok (.bipush 8, 2) := by decide +kernel
theorem dX3_gust_38 : decode cX3_gust 38 = .ok (.isub, 1) := by decide +kernel
theorem dX3_gust_39 : decode cX3_gust 39 = .ok (.bipush 8, 2) := by decide +kernel
theorem dX3_gust_41 : decode cX3_gust 41 = .ok (.imul, 1) := by decide +kernel
theorem dX3_gust_42 : decode cX3_gust 42 = .ok (.ireturn, 1) := by decide +kernel
set_option maxHeartbeats 4000000 in
set_option maxRecDepth 100000 in
theorem c_Ears_gust (l : Launch) (G : fm_G) (M : fm_M) (v0 : Int32) (v1 : Int32) (r : Int32) (hf : pEars_gust M v0 v1 = some r) : fm_Met l yX3_gust cX3_gust 3 (some .int) { frames := 0, cells := 0, slots := 0, locals := 0 } shC G [.int v0, .int v1] M (some (.int r)) M := by
  refine fm_enter (by decide) (Nat.le_of_ble_eq_true rfl) ?_
  intro p e s m args below meth c ls C E hl
  have hl : lv_has ls 3 [(0, .int v0), (1, .int v1)] := hl
  unfold pEars_gust at hf
  refine lv_iload_n C.1 C.2.1 dX3_gust_0 rfl (lv_at hl 1 rfl) ?_
  refine lv_sipush (v := 300) C.1 C.2.1 dX3_gust_1 (by decide) ?_
  refine lv_iadd C.1 C.2.1 dX3_gust_4 ?_
  refine lv_iload_n C.1 C.2.1 dX3_gust_5 rfl (lv_at hl 1 rfl) ?_
  refine lv_sipush (v := 300) C.1 C.2.1 dX3_gust_6 (by decide) ?_
  refine lv_iadd C.1 C.2.1 dX3_gust_9 ?_
  refine lv_imul C.1 C.2.1 dX3_gust_10 ?_
  refine lv_bipush (v := 7) C.1 C.2.1 dX3_gust_11 (by decide) ?_
  refine lv_imul C.1 C.2.1 dX3_gust_13 ?_
  refine lv_iload_n C.1 C.2.1 dX3_gust_14 rfl (lv_at hl 0 rfl) ?_
  refine lv_iconst (v := 1) C.1 C.2.1 dX3_gust_15 (by decide) ?_
  refine lv_iadd C.1 C.2.1 dX3_gust_16 ?_
  refine lv_iload_n C.1 C.2.1 dX3_gust_17 rfl (lv_at hl 1 rfl) ?_
  refine lv_sipush (v := 311) C.1 C.2.1 dX3_gust_18 (by decide) ?_
  refine lv_iadd C.1 C.2.1 dX3_gust_21 ?_
  refine lv_imul C.1 C.2.1 dX3_gust_22 ?_
  refine lv_bipush (v := 13) C.1 C.2.1 dX3_gust_23 (by decide) ?_
  refine lv_imul C.1 C.2.1 dX3_gust_25 ?_
  refine lv_iadd C.1 C.2.1 dX3_gust_26 ?_
  refine lv_sipush (v := 1009) C.1 C.2.1 dX3_gust_27 (by decide) ?_
  refine lv_irem C.1 C.2.1 dX3_gust_30 (by decide) ?_
  refine lv_istore_n (lv' := [(2, .int _), (0, .int _), (1, .int _)]) C.1 C.2.1 dX3_gust_31 rfl hl (by decide) rfl (fun ls hl => ?_)
  refine lv_iload_n C.1 C.2.1 dX3_gust_32 rfl (lv_at hl 0 rfl) ?_
  refine lv_bipush (v := 17) C.1 C.2.1 dX3_gust_33 (by decide) ?_
  refine lv_irem C.1 C.2.1 dX3_gust_35 (by decide) ?_
  refine lv_bipush (v := 8) C.1 C.2.1 dX3_gust_36 (by decide) ?_
  refine lv_isub C.1 C.2.1 dX3_gust_38 ?_
  refine lv_bipush (v := 8) C.1 C.2.1 dX3_gust_39 (by decide) ?_
  refine lv_imul C.1 C.2.1 dX3_gust_41 ?_
  obtain rfl := fm_rt1 hf
  exact fm_iret C E rfl rfl dX3_gust_42
theorem dX4_addFour_0 : decode cX4_addFour 0 = .ok (.aload_n 0, 1) := by decide +kernel
theorem dX4_addFour_1 : decode cX4_addFour 1 = .ok (.getfield 15, 3) := by decide +kernel
theorem dX4_addFour_4 : decode cX4_addFour 4 = .ok (.iconst 4, 1) := by decide +kernel
theorem dX4_addFour_5 : decode cX4_addFour 5 = .ok (.iadd, 1) := by decide +kernel
theorem dX4_addFour_6 : decode cX4_addFour 6 = .ok (.bipush 80, 2) := by decide +kernel
theorem dX4_addFour_8 : decode cX4_addFour 8 = .ok (.if_icmp .le 5, 3) := by decide +kernel
theorem dX4_addFour_11 : decode cX4_addFour 11 = .ok (.iconst (-1), 1) := by decide +kernel
theorem dX4_addFour_12 : decode cX4_addFour 12 = .ok (.ireturn, 1) := by decide +kernel
theorem dX4_addFour_13 : decode cX4_addFour 13 = .ok (.bipush 24, 2) := by decide +kernel
theorem dX4_addFour_15 : decode cX4_addFour 15 = .ok (.istore_n 2, 1) := by decide +kernel
theorem dX4_addFour_16 : decode cX4_addFour 16 = .ok (.iload_n 2, 1) := by decide +kernel
theorem dX4_addFour_17 : decode cX4_addFour 17 = .ok (.ifCond .lt 35, 3) := by decide +kernel
theorem dX4_addFour_20 : decode cX4_addFour 20 = .ok (.aload_n 0, 1) := by decide +kernel
theorem dX4_addFour_21 : decode cX4_addFour 21 = .ok (.getfield 9, 3) := by decide +kernel
theorem dX4_addFour_24 : decode cX4_addFour 24 = .ok (.aload_n 0, 1) := by decide +kernel
theorem dX4_addFour_25 : decode cX4_addFour 25 = .ok (.getfield 15, 3) := by decide +kernel
theorem dX4_addFour_28 : decode cX4_addFour 28 = .ok (.iload_n 1, 1) := by decide +kernel
theorem dX4_addFour_29 : decode cX4_addFour 29 = .ok (.iload_n 2, 1) := by decide +kernel
theorem dX4_addFour_30 : decode cX4_addFour 30 = .ok (.iushr, 1) := by decide +kernel
theorem dX4_addFour_31 : decode cX4_addFour 31 = .ok (.sipush 255, 3) := by decide +kernel
theorem dX4_addFour_34 : decode cX4_addFour 34 = .ok (.iand, 1) := by decide +kernel
theorem dX4_addFour_35 : decode cX4_addFour 35 = .ok (.iastore, 1) := by decide +kernel
theorem dX4_addFour_36 : decode cX4_addFour 36 = .ok (.aload_n 0, 1) := by decide +kernel
theorem dX4_addFour_37 : decode cX4_addFour 37 = .ok (.dup, 1) := by decide +kernel
theorem dX4_addFour_38 : decode cX4_addFour 38 = .ok (.getfield 15, 3) := by decide +kernel
theorem dX4_addFour_41 : decode cX4_addFour 41 = .ok (.iconst 1, 1) := by decide +kernel
theorem dX4_addFour_42 : decode cX4_addFour 42 = .ok (.iadd, 1) := by decide +kernel
theorem dX4_addFour_43 : decode cX4_addFour 43 = .ok (.putfield 15, 3) := by decide +kernel
theorem dX4_addFour_46 : decode cX4_addFour 46 = .ok (.iinc 2 (-8), 3) := by decide +kernel
theorem dX4_addFour_49 : decode cX4_addFour 49 = .ok (.goto (-33), 3) := by decide +kernel
theorem dX4_addFour_52 : decode cX4_addFour 52 = .ok (.aload_n 0, 1) := by decide +kernel
theorem dX4_addFour_53 : decode cX4_addFour 53 = .ok (.getfield 15, 3) := by decide +kernel
theorem dX4_addFour_56 : decode cX4_addFour 56 = .ok (.ireturn, 1) := by decide +kernel
set_option maxHeartbeats 4000000 in
set_option maxRecDepth 100000 in
theorem c_Letters_addFour (l : Launch) (G : fm_G) (N : Nat) (M : fm_M) (v1 : Int32) (r : Int32) (M' : fm_M) (hf : pLetters_addFour N M v1 = some (r, M')) : fm_Met l yX4_addFour cX4_addFour 3 (some .int) { frames := 0, cells := 0, slots := 0, locals := 0 } shC G [.ref (G.2.1 173), .int v1] M (some (.int r)) M' := by
  refine fm_enter (by decide) (Nat.le_of_ble_eq_true rfl) ?_
  intro p e s m args below meth c ls C E hl
  have hl : lv_has ls 3 [(0, .ref (G.2.1 173)), (1, .int v1)] := hl
  have L16 : ∀ (w16_v1 : Int32) (n16 : Nat) (v2 : Int32) (M : fm_M) (H : Heap) (locs : List Loc) (ls : Array Slot), fm_Wd shC G M s H locs → lv_has ls 3 [(0, .ref (G.2.1 173)), (1, .int w16_v1), (2, .int v2)] → fm_lp (pLetters_addFour_L16 N w16_v1) n16 (v2, M) = some (r, M') → W p l e { frames := 0, cells := 0, slots := 0, locals := 0 } s m args below meth c H locs 0 0 (fm_Z below shC G args s (some (.int r)) M') (F0 m 16 ls []) := by
    intro w16_v1 n16
    induction n16 with
    | zero => intro v2 M H locs ls E hl hf; exact fm_lp_0 hf
    | succ n16 ih16 =>
      intro v2 M H locs ls E hl hf
      have hf : pLetters_addFour_L16b N w16_v1 (fm_lp (pLetters_addFour_L16 N w16_v1) n16) v2 M = some (r, M') := hf
      unfold pLetters_addFour_L16b at hf
      refine lv_iload_n C.1 C.2.1 dX4_addFour_16 rfl (lv_at hl 2 rfl) ?_
      refine lv_if_lt (tgt := 52) C.1 C.2.1 dX4_addFour_17 (by decide) (fun hc17 => ?_) (fun hc17 => ?_)
      · have hf := fm_ip hf hc17
        refine lv_aload_n C.1 C.2.1 dX4_addFour_52 rfl (lv_at hl 0 rfl) ?_
        refine fm_geti C E lf_X4_15 hC_173 rfl dX4_addFour_53 ?_
        obtain ⟨rfl, rfl⟩ := fm_rt2 hf
        exact fm_iret C E rfl rfl dX4_addFour_56
      · have hf := fm_in' hf hc17
        refine lv_aload_n C.1 C.2.1 dX4_addFour_20 rfl (lv_at hl 0 rfl) ?_
        refine fm_getr C E lf_X4_9 hC_173 rfl dX4_addFour_21 ?_
        refine lv_aload_n C.1 C.2.1 dX4_addFour_24 rfl (lv_at hl 0 rfl) ?_
        refine fm_geti C E lf_X4_15 hC_173 rfl dX4_addFour_25 ?_
        refine lv_iload_n C.1 C.2.1 dX4_addFour_28 rfl (lv_at hl 1 rfl) ?_
        refine lv_iload_n C.1 C.2.1 dX4_addFour_29 rfl (lv_at hl 2 rfl) ?_
        refine lv_iushr C.1 C.2.1 dX4_addFour_30 rfl ?_
        refine lv_sipush (v := 255) C.1 C.2.1 dX4_addFour_31 (by decide) ?_
        refine lv_iand C.1 C.2.1 dX4_addFour_34 ?_
        obtain ⟨h35, M35, e35, hf⟩ := fm_st_e hf
        refine fm_iast' C E e35 hC_174 h35 dX4_addFour_35 (fun H locs E => ?_)
        refine lv_aload_n C.1 C.2.1 dX4_addFour_36 rfl (lv_at hl 0 rfl) ?_
        refine lv_dup C.1 C.2.1 dX4_addFour_37 rfl ?_
        refine fm_geti C E lf_X4_15 hC_173 rfl dX4_addFour_38 ?_
        refine lv_iconst (v := 1) C.1 C.2.1 dX4_addFour_41 (by decide) ?_
        refine lv_iadd C.1 C.2.1 dX4_addFour_42 ?_
        obtain ⟨M43, e43, hf⟩ := fm_pt_s hf
        refine fm_put' C E e43 lp_X4_15 hC_173 rfl dX4_addFour_43 (fun H locs E => ?_)
        refine fm_iinc C (v := (-8)) (lv' := [(2, .int _), (0, .ref _), (1, .int _)]) (k := 2) hl rfl (by decide) (by decide) rfl dX4_addFour_46 (fun ls hl => ?_)
        refine lv_goto (tgt := 16) C.1 C.2.1 dX4_addFour_49 (by decide) ?_
        exact ih16 _ _ _ _ _ E (lv_sub hl [1, 2, 0] rfl) hf
  unfold pLetters_addFour at hf
  refine lv_aload_n C.1 C.2.1 dX4_addFour_0 rfl (lv_at hl 0 rfl) ?_
  refine fm_geti C E lf_X4_15 hC_173 rfl dX4_addFour_1 ?_
  refine lv_iconst (v := 4) C.1 C.2.1 dX4_addFour_4 (by decide) ?_
  refine lv_iadd C.1 C.2.1 dX4_addFour_5 ?_
  refine lv_bipush (v := 80) C.1 C.2.1 dX4_addFour_6 (by decide) ?_
  refine lv_icmp_le (tgt := 13) C.1 C.2.1 dX4_addFour_8 (by decide) (fun hc8 => ?_) (fun hc8 => ?_)
  · have hf := fm_ip hf hc8
    refine lv_bipush (v := 24) C.1 C.2.1 dX4_addFour_13 (by decide) ?_
    refine lv_istore_n (lv' := [(2, .int _), (0, .ref _), (1, .int _)]) C.1 C.2.1 dX4_addFour_15 rfl hl (by decide) rfl (fun ls hl => ?_)
    exact L16 _ N _ _ _ _ _ E (lv_sub hl [1, 2, 0] rfl) hf
  · have hf := fm_in' hf hc8
    refine lv_iconst (v := (-1)) C.1 C.2.1 dX4_addFour_11 (by decide) ?_
    obtain ⟨rfl, rfl⟩ := fm_rt2 hf
    exact fm_iret C E rfl rfl dX4_addFour_12
theorem dX4_cutTo_0 : decode cX4_cutTo 0 = .ok (.iload_n 1, 1) := by decide +kernel
theorem dX4_cutTo_1 : decode cX4_cutTo 1 = .ok (.ifCond .lt 11, 3) := by decide +kernel
theorem dX4_cutTo_4 : decode cX4_cutTo 4 = .ok (.iload_n 1, 1) := by decide +kernel
theorem dX4_cutTo_5 : decode cX4_cutTo 5 = .ok (.aload_n 0, 1) := by decide +kernel
theorem dX4_cutTo_6 : decode cX4_cutTo 6 = .ok (.getfield 15, 3) := by decide +kernel
theorem dX4_cutTo_9 : decode cX4_cutTo 9 = .ok (.if_icmp .le 5, 3) := by decide +kernel
theorem dX4_cutTo_12 : decode cX4_cutTo 12 = .ok (.iconst 0, 1) := by decide +kernel
theorem dX4_cutTo_13 : decode cX4_cutTo 13 = .ok (.ireturn, 1) := by decide +kernel
theorem dX4_cutTo_14 : decode cX4_cutTo 14 = .ok (.aload_n 0, 1) := by decide +kernel
theorem dX4_cutTo_15 : decode cX4_cutTo 15 = .ok (.iload_n 1, 1) := by decide +kernel
theorem dX4_cutTo_16 : decode cX4_cutTo 16 = .ok (.putfield 15, 3) := by decide +kernel
theorem dX4_cutTo_19 : decode cX4_cutTo 19 = .ok (.iconst 1, 1) := by decide +kernel
theorem dX4_cutTo_20 : decode cX4_cutTo 20 = .ok (.ireturn, 1) := by decide +kernel
set_option maxHeartbeats 4000000 in
set_option maxRecDepth 100000 in
theorem c_Letters_cutTo (l : Launch) (G : fm_G) (M : fm_M) (v1 : Int32) (r : Int32) (M' : fm_M) (hf : pLetters_cutTo M v1 = some (r, M')) : fm_Met l yX4_cutTo cX4_cutTo 2 (some .boolean) { frames := 0, cells := 0, slots := 0, locals := 0 } shC G [.ref (G.2.1 173), .int v1] M (some (.int r)) M' := by
  refine fm_enter (by decide) (Nat.le_of_ble_eq_true rfl) ?_
  intro p e s m args below meth c ls C E hl
  have hl : lv_has ls 2 [(0, .ref (G.2.1 173)), (1, .int v1)] := hl
  unfold pLetters_cutTo at hf
  refine lv_iload_n C.1 C.2.1 dX4_cutTo_0 rfl (lv_at hl 1 rfl) ?_
  refine lv_if_lt (tgt := 12) C.1 C.2.1 dX4_cutTo_1 (by decide) (fun hc1 => ?_) (fun hc1 => ?_)
  · have hf := fm_ip hf hc1
    refine lv_iconst (v := 0) C.1 C.2.1 dX4_cutTo_12 (by decide) ?_
    obtain ⟨rfl, rfl⟩ := fm_rt2 hf
    exact fm_iret C E rfl rfl dX4_cutTo_13
  · have hf := fm_in' hf hc1
    refine lv_iload_n C.1 C.2.1 dX4_cutTo_4 rfl (lv_at hl 1 rfl) ?_
    refine lv_aload_n C.1 C.2.1 dX4_cutTo_5 rfl (lv_at hl 0 rfl) ?_
    refine fm_geti C E lf_X4_15 hC_173 rfl dX4_cutTo_6 ?_
    refine lv_icmp_le (tgt := 14) C.1 C.2.1 dX4_cutTo_9 (by decide) (fun hc9 => ?_) (fun hc9 => ?_)
    · have hf := fm_ip hf hc9
      refine lv_aload_n C.1 C.2.1 dX4_cutTo_14 rfl (lv_at hl 0 rfl) ?_
      refine lv_iload_n C.1 C.2.1 dX4_cutTo_15 rfl (lv_at hl 1 rfl) ?_
      obtain ⟨M16, e16, hf⟩ := fm_pt_s hf
      refine fm_put' C E e16 lp_X4_15 hC_173 rfl dX4_cutTo_16 (fun H locs E => ?_)
      refine lv_iconst (v := 1) C.1 C.2.1 dX4_cutTo_19 (by decide) ?_
      obtain ⟨rfl, rfl⟩ := fm_rt2 hf
      exact fm_iret C E rfl rfl dX4_cutTo_20
    · have hf := fm_in' hf hc9
      refine lv_iconst (v := 0) C.1 C.2.1 dX4_cutTo_12 (by decide) ?_
      obtain ⟨rfl, rfl⟩ := fm_rt2 hf
      exact fm_iret C E rfl rfl dX4_cutTo_13
theorem dX4_at_0 : decode cX4_at 0 = .ok (.iload_n 1, 1) := by decide +kernel
theorem dX4_at_1 : decode cX4_at 1 = .ok (.ifCond .lt 20, 3) := by decide +kernel
theorem dX4_at_4 : decode cX4_at 4 = .ok (.iload_n 1, 1) := by decide +kernel
theorem dX4_at_5 : decode cX4_at 5 = .ok (.aload_n 0, 1) := by decide +kernel
theorem dX4_at_6 : decode cX4_at 6 = .ok (.getfield 15, 3) := by decide +kernel
theorem dX4_at_9 : decode cX4_at 9 = .ok (.if_icmp .ge 12, 3) := by decide +kernel
theorem dX4_at_12 : decode cX4_at 12 = .ok (.aload_n 0, 1) := by decide +kernel
theorem dX4_at_13 : decode cX4_at 13 = .ok (.getfield 9, 3) := by decide +kernel
theorem dX4_at_16 : decode cX4_at 16 = .ok (.iload_n 1, 1) := by decide +kernel
theorem dX4_at_17 : decode cX4_at 17 = .ok (.iaload, 1) := by decide +kernel
theorem dX4_at_18 : decode cX4_at 18 = .ok (.goto 4, 3) := by decide +kernel
theorem dX4_at_21 : decode cX4_at 21 = .ok (.iconst (-1), 1) := by decide +kernel
theorem dX4_at_22 : decode cX4_at 22 = .ok (.ireturn, 1) := by decide +kernel
set_option maxHeartbeats 4000000 in
set_option maxRecDepth 100000 in
theorem c_Letters_at (l : Launch) (G : fm_G) (M : fm_M) (v1 : Int32) (r : Int32) (hf : pLetters_at M v1 = some r) : fm_Met l yX4_at cX4_at 2 (some .int) { frames := 0, cells := 0, slots := 0, locals := 0 } shC G [.ref (G.2.1 173), .int v1] M (some (.int r)) M := by
  refine fm_enter (by decide) (Nat.le_of_ble_eq_true rfl) ?_
  intro p e s m args below meth c ls C E hl
  have hl : lv_has ls 2 [(0, .ref (G.2.1 173)), (1, .int v1)] := hl
  unfold pLetters_at at hf
  refine lv_iload_n C.1 C.2.1 dX4_at_0 rfl (lv_at hl 1 rfl) ?_
  refine lv_if_lt (tgt := 21) C.1 C.2.1 dX4_at_1 (by decide) (fun hc1 => ?_) (fun hc1 => ?_)
  · have hf := fm_ip hf hc1
    refine lv_iconst (v := (-1)) C.1 C.2.1 dX4_at_21 (by decide) ?_
    obtain rfl := fm_rt1 hf
    exact fm_iret C E rfl rfl dX4_at_22
  · have hf := fm_in' hf hc1
    refine lv_iload_n C.1 C.2.1 dX4_at_4 rfl (lv_at hl 1 rfl) ?_
    refine lv_aload_n C.1 C.2.1 dX4_at_5 rfl (lv_at hl 0 rfl) ?_
    refine fm_geti C E lf_X4_15 hC_173 rfl dX4_at_6 ?_
    refine lv_icmp_ge (tgt := 21) C.1 C.2.1 dX4_at_9 (by decide) (fun hc9 => ?_) (fun hc9 => ?_)
    · have hf := fm_ip hf hc9
      refine lv_iconst (v := (-1)) C.1 C.2.1 dX4_at_21 (by decide) ?_
      obtain rfl := fm_rt1 hf
      exact fm_iret C E rfl rfl dX4_at_22
    · have hf := fm_in' hf hc9
      refine lv_aload_n C.1 C.2.1 dX4_at_12 rfl (lv_at hl 0 rfl) ?_
      refine fm_getr C E lf_X4_9 hC_173 rfl dX4_at_13 ?_
      refine lv_iload_n C.1 C.2.1 dX4_at_16 rfl (lv_at hl 1 rfl) ?_
      obtain ⟨h17, x17, e17, hf⟩ := fm_ld_e hf
      refine fm_iald' C E e17 hC_174 h17 dX4_at_17 ?_
      refine lv_goto (tgt := 22) C.1 C.2.1 dX4_at_18 (by decide) ?_
      obtain rfl := fm_rt1 hf
      exact fm_iret C E rfl rfl dX4_at_22
theorem dX4_isPlusOrMinus_0 : decode cX4_isPlusOrMinus 0 = .ok (.aload_n 0, 1) := by decide +kernel
theorem dX4_isPlusOrMinus_1 : decode cX4_isPlusOrMinus 1 = .ok (.iload_n 1, 1) := by decide +kernel
theorem dX4_isPlusOrMinus_2 : decode cX4_isPlusOrMinus 2 = .ok (.invokevirtual 19, 3) := by decide +kernel
theorem dX4_isPlusOrMinus_5 : decode cX4_isPlusOrMinus 5 = .ok (.bipush 43, 2) := by decide +kernel
theorem dX4_isPlusOrMinus_7 : decode cX4_isPlusOrMinus 7 = .ok (.if_icmp .eq 13, 3) := by decide +kernel
theorem dX4_isPlusOrMinus_10 : decode cX4_isPlusOrMinus 10 = .ok (.aload_n 0, 1) := by decide +kernel
theorem dX4_isPlusOrMinus_11 : decode cX4_isPlusOrMinus 11 = .ok (.iload_n 1, 1) := by decide +kernel
theorem dX4_isPlusOrMinus_12 : decode cX4_isPlusOrMinus 12 = .ok (.invokevirtual 19, 3) := by decide +kernel
theorem dX4_isPlusOrMinus_15 : decode cX4_isPlusOrMinus 15 = .ok (.bipush 45, 2) := by decide +kernel
theorem dX4_isPlusOrMinus_17 : decode cX4_isPlusOrMinus 17 = .ok (.if_icmp .ne 7, 3) := by decide +kernel
theorem dX4_isPlusOrMinus_20 : decode cX4_isPlusOrMinus 20 = .ok (.iconst 1, 1) := by decide +kernel
theorem dX4_isPlusOrMinus_21 : decode cX4_isPlusOrMinus 21 = .ok (.goto 4, 3) := by decide +kernel
theorem dX4_isPlusOrMinus_24 : decode cX4_isPlusOrMinus 24 = .ok (.iconst 0, 1) := by decide +kernel
theorem dX4_isPlusOrMinus_25 : decode cX4_isPlusOrMinus 25 = .ok (.ireturn, 1) := by decide +kernel
set_option maxHeartbeats 4000000 in
set_option maxRecDepth 100000 in
theorem c_Letters_isPlusOrMinus (l : Launch) (G : fm_G) (M : fm_M) (v1 : Int32) (r : Int32) (hf : pLetters_isPlusOrMinus M v1 = some r) : fm_Met l yX4_isPlusOrMinus cX4_isPlusOrMinus 2 (some .boolean) { frames := 1, cells := 0, slots := 0, locals := 21 } shC G [.ref (G.2.1 173), .int v1] M (some (.int r)) M := by
  refine fm_enter (by decide) (Nat.le_of_ble_eq_true rfl) ?_
  intro p e s m args below meth c ls C E hl
  have hl : lv_has ls 2 [(0, .ref (G.2.1 173)), (1, .int v1)] := hl
  unfold pLetters_isPlusOrMinus at hf
  refine lv_aload_n C.1 C.2.1 dX4_isPlusOrMinus_0 rfl (lv_at hl 0 rfl) ?_
  refine lv_iload_n C.1 C.2.1 dX4_isPlusOrMinus_1 rfl (lv_at hl 1 rfl) ?_
  obtain ⟨x2, hc2, hf⟩ := fm_bd hf
  refine fm_callV C E [.int _] [] lm_X4_19 wk_X4_at (c_Letters_at l G _ _ _  hc2) hC_173 rfl rfl rfl hl.1 (by simp [Value.category]) ⟨⟨rfl, rfl⟩, by decide, by decide⟩ ⟨by decide, by decide⟩ dX4_isPlusOrMinus_2 rfl (fun H locs E => ?_)
  refine W.eq (g2 := F0 m 5 ls (.int x2 :: [])) rfl ?_
  refine lv_bipush (v := 43) C.1 C.2.1 dX4_isPlusOrMinus_5 (by decide) ?_
  refine lv_icmp_eq (tgt := 20) C.1 C.2.1 dX4_isPlusOrMinus_7 (by decide) (fun hc7 => ?_) (fun hc7 => ?_)
  · have hf := fm_ip hf hc7
    refine lv_iconst (v := 1) C.1 C.2.1 dX4_isPlusOrMinus_20 (by decide) ?_
    refine lv_goto (tgt := 25) C.1 C.2.1 dX4_isPlusOrMinus_21 (by decide) ?_
    obtain rfl := fm_rt1 hf
    exact fm_iret C E rfl rfl dX4_isPlusOrMinus_25
  · have hf := fm_in' hf hc7
    refine lv_aload_n C.1 C.2.1 dX4_isPlusOrMinus_10 rfl (lv_at hl 0 rfl) ?_
    refine lv_iload_n C.1 C.2.1 dX4_isPlusOrMinus_11 rfl (lv_at hl 1 rfl) ?_
    obtain ⟨x12, hc12, hf⟩ := fm_bd hf
    refine fm_callV C E [.int _] [] lm_X4_19 wk_X4_at (c_Letters_at l G _ _ _  hc12) hC_173 rfl rfl rfl hl.1 (by simp [Value.category]) ⟨⟨rfl, rfl⟩, by decide, by decide⟩ ⟨by decide, by decide⟩ dX4_isPlusOrMinus_12 rfl (fun H locs E => ?_)
    refine W.eq (g2 := F0 m 15 ls (.int x12 :: [])) rfl ?_
    refine lv_bipush (v := 45) C.1 C.2.1 dX4_isPlusOrMinus_15 (by decide) ?_
    refine lv_icmp_ne (tgt := 24) C.1 C.2.1 dX4_isPlusOrMinus_17 (by decide) (fun hc17 => ?_) (fun hc17 => ?_)
    · have hf := fm_in' hf hc17
      refine lv_iconst (v := 0) C.1 C.2.1 dX4_isPlusOrMinus_24 (by decide) ?_
      obtain rfl := fm_rt1 hf
      exact fm_iret C E rfl rfl dX4_isPlusOrMinus_25
    · have hf := fm_ip hf hc17
      refine lv_iconst (v := 1) C.1 C.2.1 dX4_isPlusOrMinus_20 (by decide) ?_
      refine lv_goto (tgt := 25) C.1 C.2.1 dX4_isPlusOrMinus_21 (by decide) ?_
      obtain rfl := fm_rt1 hf
      exact fm_iret C E rfl rfl dX4_isPlusOrMinus_25
theorem dX5_dropOldest_0 : decode cX5_dropOldest 0 = .ok (.aload_n 0, 1) := by decide +kernel
theorem dX5_dropOldest_1 : decode cX5_dropOldest 1 = .ok (.getfield 12, 3) := by decide +kernel
theorem dX5_dropOldest_4 : decode cX5_dropOldest 4 = .ok (.iconst 0, 1) := by decide +kernel
theorem dX5_dropOldest_5 : decode cX5_dropOldest 5 = .ok (.aaload, 1) := by decide +kernel
theorem dX5_dropOldest_6 : decode cX5_dropOldest 6 = .ok (.astore_n 1, 1) := by decide +kernel
theorem dX5_dropOldest_7 : decode cX5_dropOldest 7 = .ok (.iconst 1, 1) := by decide +kernel
theorem dX5_dropOldest_8 : decode cX5_dropOldest 8 = .ok (.istore_n 2, 1) := by decide +kernel
theorem dX5_dropOldest_9 : decode cX5_dropOldest 9 = .ok (.iload_n 2, 1) := by decide +kernel
theorem dX5_dropOldest_10 : decode cX5_dropOldest 10 = .ok (.aload_n 0, 1) := by decide +kernel
theorem dX5_dropOldest_11 : decode cX5_dropOldest 11 = .ok (.getfield 12, 3) := by decide +kernel
theorem dX5_dropOldest_14 : decode cX5_dropOldest 14 = .ok (.arraylength, 1) := by decide +kernel
theorem dX5_dropOldest_15 : decode cX5_dropOldest 15 = .ok (.if_icmp .ge 23, 3) := by decide +kernel
theorem dX5_dropOldest_18 : decode cX5_dropOldest 18 = .ok (.aload_n 0, 1) := by decide +kernel
theorem dX5_dropOldest_19 : decode cX5_dropOldest 19 = .ok (.getfield 12, 3) := by decide +kernel
theorem dX5_dropOldest_22 : decode cX5_dropOldest 22 = .ok (.iload_n 2, 1) := by decide +kernel
theorem dX5_dropOldest_23 : decode cX5_dropOldest 23 = .ok (.iconst 1, 1) := by decide +kernel
theorem dX5_dropOldest_24 : decode cX5_dropOldest 24 = .ok (.isub, 1) := by decide +kernel
theorem dX5_dropOldest_25 : decode cX5_dropOldest 25 = .ok (.aload_n 0, 1) := by decide +kernel
theorem dX5_dropOldest_26 : decode cX5_dropOldest 26 = .ok (.getfield 12, 3) := by decide +kernel
theorem dX5_dropOldest_29 : decode cX5_dropOldest 29 = .ok (.iload_n 2, 1) := by decide +kernel
theorem dX5_dropOldest_30 : decode cX5_dropOldest 30 = .ok (.aaload, 1) := by decide +kernel
theorem dX5_dropOldest_31 : decode cX5_dropOldest 31 = .ok (.aastore, 1) := by decide +kernel
theorem dX5_dropOldest_32 : decode cX5_dropOldest 32 = .ok (.iinc 2 1, 3) := by decide +kernel
theorem dX5_dropOldest_35 : decode cX5_dropOldest 35 = .ok (.goto (-26), 3) := by decide +kernel
theorem dX5_dropOldest_38 : decode cX5_dropOldest 38 = .ok (.aload_n 0, 1) := by decide +kernel
theorem dX5_dropOldest_39 : decode cX5_dropOldest 39 = .ok (.getfield 12, 3) := by decide +kernel
theorem dX5_dropOldest_42 : decode cX5_dropOldest 42 = .ok (.aload_n 0, 1) := by decide +kernel
theorem dX5_dropOldest_43 : decode cX5_dropOldest 43 = .ok (.getfield 12, 3) := by decide +kernel
theorem dX5_dropOldest_46 : decode cX5_dropOldest 46 = .ok (.arraylength, 1) := by decide +kernel
theorem dX5_dropOldest_47 : decode cX5_dropOldest 47 = .ok (.iconst 1, 1) := by decide +kernel
theorem dX5_dropOldest_48 : decode cX5_dropOldest 48 = .ok (.isub, 1) := by decide +kernel
theorem dX5_dropOldest_49 : decode cX5_dropOldest 49 = .ok (.aload_n 1, 1) := by decide +kernel
theorem dX5_dropOldest_50 : decode cX5_dropOldest 50 = .ok (.aastore, 1) := by decide +kernel
theorem dX5_dropOldest_51 : decode cX5_dropOldest 51 = .ok (.aload_n 0, 1) := by decide +kernel
theorem dX5_dropOldest_52 : decode cX5_dropOldest 52 = .ok (.dup, 1) := by decide +kernel
theorem dX5_dropOldest_53 : decode cX5_dropOldest 53 = .ok (.getfield 18, 3) := by decide +kernel
theorem dX5_dropOldest_56 : decode cX5_dropOldest 56 = .ok (.iconst 1, 1) := by decide +kernel
theorem dX5_dropOldest_57 : decode cX5_dropOldest 57 = .ok (.isub, 1) := by decide +kernel
theorem dX5_dropOldest_58 : decode cX5_dropOldest 58 = .ok (.putfield 18, 3) := by decide +kernel
theorem dX5_dropOldest_61 : decode cX5_dropOldest 61 = .ok (.return_, 1) := by decide +kernel
set_option maxHeartbeats 4000000 in
set_option maxRecDepth 100000 in
theorem c_Past_dropOldest (l : Launch) (G : fm_G) (N : Nat) (M : fm_M) (M' : fm_M) (hf : pPast_dropOldest N M = some M') : fm_Met l yX5_dropOldest cX5_dropOldest 3 none { frames := 0, cells := 0, slots := 0, locals := 0 } shC G [.ref (G.2.1 59)] M none M' := by
  refine fm_enter (by decide) (Nat.le_of_ble_eq_true rfl) ?_
  intro p e s m args below meth c ls C E hl
  have hl : lv_has ls 3 [(0, .ref (G.2.1 59))] := hl
  have L9 : ∀ (w9_v1 : Nat) (n9 : Nat) (v2 : Int32) (M : fm_M) (H : Heap) (locs : List Loc) (ls : Array Slot), fm_Wd shC G M s H locs → lv_has ls 3 [(0, .ref (G.2.1 59)), (1, .ref (G.2.1 w9_v1)), (2, .int v2)] → fm_lp (pPast_dropOldest_L9 N w9_v1) n9 (v2, M) = some M' → W p l e { frames := 0, cells := 0, slots := 0, locals := 0 } s m args below meth c H locs 0 0 (fm_Z below shC G args s none M') (F0 m 9 ls []) := by
    intro w9_v1 n9
    induction n9 with
    | zero => intro v2 M H locs ls E hl hf; exact fm_lp_0 hf
    | succ n9 ih9 =>
      intro v2 M H locs ls E hl hf
      have hf : pPast_dropOldest_L9b N w9_v1 (fm_lp (pPast_dropOldest_L9 N w9_v1) n9) v2 M = some M' := hf
      unfold pPast_dropOldest_L9b at hf
      refine lv_iload_n C.1 C.2.1 dX5_dropOldest_9 rfl (lv_at hl 2 rfl) ?_
      refine lv_aload_n C.1 C.2.1 dX5_dropOldest_10 rfl (lv_at hl 0 rfl) ?_
      refine fm_getr C E lf_X5_12 hC_59 rfl dX5_dropOldest_11 ?_
      refine fm_alen C E hC_60 (by decide) (v := 8) (by decide) dX5_dropOldest_14 ?_
      refine lv_icmp_ge (tgt := 38) C.1 C.2.1 dX5_dropOldest_15 (by decide) (fun hc15 => ?_) (fun hc15 => ?_)
      · have hf := fm_ip hf hc15
        refine lv_aload_n C.1 C.2.1 dX5_dropOldest_38 rfl (lv_at hl 0 rfl) ?_
        refine fm_getr C E lf_X5_12 hC_59 rfl dX5_dropOldest_39 ?_
        refine lv_aload_n C.1 C.2.1 dX5_dropOldest_42 rfl (lv_at hl 0 rfl) ?_
        refine fm_getr C E lf_X5_12 hC_59 rfl dX5_dropOldest_43 ?_
        refine fm_alen C E hC_60 (by decide) (v := 8) (by decide) dX5_dropOldest_46 ?_
        refine lv_iconst (v := 1) C.1 C.2.1 dX5_dropOldest_47 (by decide) ?_
        refine lv_isub C.1 C.2.1 dX5_dropOldest_48 ?_
        refine lv_aload_n C.1 C.2.1 dX5_dropOldest_49 rfl (lv_at hl 1 rfl) ?_
        obtain ⟨hs50, hf⟩ := fm_rq_s hf
        obtain ⟨h50, M50, e50, hf⟩ := fm_sp_e hf
        refine fm_past' C E e50 hC_60 hC_six (fm_sc_at hs50) h50 dX5_dropOldest_50 (fun H locs E => ?_)
        refine lv_aload_n C.1 C.2.1 dX5_dropOldest_51 rfl (lv_at hl 0 rfl) ?_
        refine lv_dup C.1 C.2.1 dX5_dropOldest_52 rfl ?_
        refine fm_geti C E lf_X5_18 hC_59 rfl dX5_dropOldest_53 ?_
        refine lv_iconst (v := 1) C.1 C.2.1 dX5_dropOldest_56 (by decide) ?_
        refine lv_isub C.1 C.2.1 dX5_dropOldest_57 ?_
        obtain ⟨M58, e58, hf⟩ := fm_pt_s hf
        refine fm_put' C E e58 lp_X5_18 hC_59 rfl dX5_dropOldest_58 (fun H locs E => ?_)
        obtain rfl := fm_rt1 hf
        exact fm_vret C E rfl dX5_dropOldest_61
      · have hf := fm_in' hf hc15
        refine lv_aload_n C.1 C.2.1 dX5_dropOldest_18 rfl (lv_at hl 0 rfl) ?_
        refine fm_getr C E lf_X5_12 hC_59 rfl dX5_dropOldest_19 ?_
        refine lv_iload_n C.1 C.2.1 dX5_dropOldest_22 rfl (lv_at hl 2 rfl) ?_
        refine lv_iconst (v := 1) C.1 C.2.1 dX5_dropOldest_23 (by decide) ?_
        refine lv_isub C.1 C.2.1 dX5_dropOldest_24 ?_
        refine lv_aload_n C.1 C.2.1 dX5_dropOldest_25 rfl (lv_at hl 0 rfl) ?_
        refine fm_getr C E lf_X5_12 hC_59 rfl dX5_dropOldest_26 ?_
        refine lv_iload_n C.1 C.2.1 dX5_dropOldest_29 rfl (lv_at hl 2 rfl) ?_
        obtain ⟨h30, q30, e30, hf⟩ := fm_ix_e hf
        refine fm_pald' C E e30 hC_60 h30 dX5_dropOldest_30 ?_
        obtain ⟨hs31, hf⟩ := fm_rq_s hf
        obtain ⟨h31, M31, e31, hf⟩ := fm_sp_e hf
        refine fm_past' C E e31 hC_60 hC_six (fm_sc_at hs31) h31 dX5_dropOldest_31 (fun H locs E => ?_)
        refine fm_iinc C (v := 1) (lv' := [(2, .int _), (0, .ref _), (1, .ref _)]) (k := 2) hl rfl (by decide) (by decide) rfl dX5_dropOldest_32 (fun ls hl => ?_)
        refine lv_goto (tgt := 9) C.1 C.2.1 dX5_dropOldest_35 (by decide) ?_
        exact ih9 _ _ _ _ _ E (lv_sub hl [1, 2, 0] rfl) hf
  unfold pPast_dropOldest at hf
  refine lv_aload_n C.1 C.2.1 dX5_dropOldest_0 rfl (lv_at hl 0 rfl) ?_
  refine fm_getr C E lf_X5_12 hC_59 rfl dX5_dropOldest_1 ?_
  refine lv_iconst (v := 0) C.1 C.2.1 dX5_dropOldest_4 (by decide) ?_
  refine fm_paldc C E 0 (by decide) hC_60 (by decide) dX5_dropOldest_5 ?_
  refine lv_astore_n (lv' := [(1, .ref _), (0, .ref _)]) C.1 C.2.1 dX5_dropOldest_6 rfl hl (by decide) rfl (fun ls hl => ?_)
  refine lv_iconst (v := 1) C.1 C.2.1 dX5_dropOldest_7 (by decide) ?_
  refine lv_istore_n (lv' := [(2, .int _), (1, .ref _), (0, .ref _)]) C.1 C.2.1 dX5_dropOldest_8 rfl hl (by decide) rfl (fun ls hl => ?_)
  exact L9 _ N _ _ _ _ _ E (lv_sub hl [2, 1, 0] rfl) hf
theorem dX5_forget_0 : decode cX5_forget 0 = .ok (.aload_n 0, 1) := by decide +kernel
theorem dX5_forget_1 : decode cX5_forget 1 = .ok (.iconst 0, 1) := by decide +kernel
theorem dX5_forget_2 : decode cX5_forget 2 = .ok (.putfield 18, 3) := by decide +kernel
theorem dX5_forget_5 : decode cX5_forget 5 = .ok (.return_, 1) := by decide +kernel
set_option maxHeartbeats 4000000 in
set_option maxRecDepth 100000 in
theorem c_Past_forget (l : Launch) (G : fm_G) (M : fm_M) (M' : fm_M) (hf : pPast_forget M = some M') : fm_Met l yX5_forget cX5_forget 1 none { frames := 0, cells := 0, slots := 0, locals := 0 } shC G [.ref (G.2.1 59)] M none M' := by
  refine fm_enter (by decide) (Nat.le_of_ble_eq_true rfl) ?_
  intro p e s m args below meth c ls C E hl
  have hl : lv_has ls 1 [(0, .ref (G.2.1 59))] := hl
  unfold pPast_forget at hf
  refine lv_aload_n C.1 C.2.1 dX5_forget_0 rfl (lv_at hl 0 rfl) ?_
  refine lv_iconst (v := 0) C.1 C.2.1 dX5_forget_1 (by decide) ?_
  obtain ⟨M2, e2, hf⟩ := fm_pt_s hf
  refine fm_put' C E e2 lp_X5_18 hC_59 rfl dX5_forget_2 (fun H locs E => ?_)
  obtain rfl := fm_rt1 hf
  exact fm_vret C E rfl dX5_forget_5
theorem dX6_shapeOf_0 : decode cX6_shapeOf 0 = .ok (.iload_n 0, 1) := by decide +kernel
theorem dX6_shapeOf_1 : decode cX6_shapeOf 1 = .ok (.tableswitch 119 97 119 #[116, 110, 107, 113, 119, 119, 107, 119, 119, 119, 119, 119, 119, 119, 113, 119, 119, 119, 113, 119, 119, 119, 113], 107) := by decide +kernel
theorem dX6_shapeOf_108 : decode cX6_shapeOf 108 = .ok (.ldc 86, 2) := by decide +kernel
theorem dX6_shapeOf_110 : decode cX6_shapeOf 110 = .ok (.areturn, 1) := by decide +kernel
theorem dX6_shapeOf_111 : decode cX6_shapeOf 111 = .ok (.ldc 88, 2) := by decide +kernel
theorem dX6_shapeOf_113 : decode cX6_shapeOf 113 = .ok (.areturn, 1) := by decide +kernel
theorem dX6_shapeOf_114 : decode cX6_shapeOf 114 = .ok (.ldc 90, 2) := by decide +kernel
theorem dX6_shapeOf_116 : decode cX6_shapeOf 116 = .ok (.areturn, 1) := by decide +kernel
theorem dX6_shapeOf_117 : decode cX6_shapeOf 117 = .ok (.ldc 92, 2) := by decide +kernel
theorem dX6_shapeOf_119 : decode cX6_shapeOf 119 = .ok (.areturn, 1) := by decide +kernel
theorem dX6_shapeOf_120 : decode cX6_shapeOf 120 = .ok (.ldc 94, 2) := by decide +kernel
theorem dX6_shapeOf_122 : decode cX6_shapeOf 122 = .ok (.areturn, 1) := by decide +kernel
set_option maxHeartbeats 4000000 in
set_option maxRecDepth 100000 in
theorem c_Reader_shapeOf (l : Launch) (G : fm_G) (M : fm_M) (v0 : Int32) (r : Nat) (hf : pReader_shapeOf M v0 = some r) : fm_Met l yX6_shapeOf cX6_shapeOf 1 (some (.object "java/lang/String")) { frames := 0, cells := 0, slots := 0, locals := 0 } shC G [.int v0] M (some (.ref (G.2.2.2.1 r))) M := by
  refine fm_enter (by decide) (Nat.le_of_ble_eq_true rfl) ?_
  intro p e s m args below meth c ls C E hl
  have hl : lv_has ls 1 [(0, .int v0)] := hl
  unfold pReader_shapeOf at hf
  refine lv_iload_n C.1 C.2.1 dX6_shapeOf_0 rfl (lv_at hl 0 rfl) ?_
  rcases fm_io hf with ⟨hs1_97, hf⟩ | ⟨hs1_97, hf⟩
  · refine fm_tcase C dX6_shapeOf_1 hs1_97 (by decide) (by decide) (off := 116) (by decide) (tgt := 117) (by decide) ?_
    refine fm_lds C (i := 3) rfl dX6_shapeOf_117 ?_
    obtain rfl := fm_rt1 hf
    exact fm_aret C E rfl (Or.inl ⟨_, rfl⟩) dX6_shapeOf_119
  · rcases fm_io hf with ⟨hs1_98, hf⟩ | ⟨hs1_98, hf⟩
    · refine fm_tcase C dX6_shapeOf_1 hs1_98 (by decide) (by decide) (off := 110) (by decide) (tgt := 111) (by decide) ?_
      refine fm_lds C (i := 1) rfl dX6_shapeOf_111 ?_
      obtain rfl := fm_rt1 hf
      exact fm_aret C E rfl (Or.inl ⟨_, rfl⟩) dX6_shapeOf_113
    · rcases fm_io hf with ⟨hs1_99, hf⟩ | ⟨hs1_99, hf⟩
      · refine fm_tcase C dX6_shapeOf_1 hs1_99 (by decide) (by decide) (off := 107) (by decide) (tgt := 108) (by decide) ?_
        refine fm_lds C (i := 0) rfl dX6_shapeOf_108 ?_
        obtain rfl := fm_rt1 hf
        exact fm_aret C E rfl (Or.inl ⟨_, rfl⟩) dX6_shapeOf_110
      · rcases fm_io hf with ⟨hs1_100, hf⟩ | ⟨hs1_100, hf⟩
        · refine fm_tcase C dX6_shapeOf_1 hs1_100 (by decide) (by decide) (off := 113) (by decide) (tgt := 114) (by decide) ?_
          refine fm_lds C (i := 2) rfl dX6_shapeOf_114 ?_
          obtain rfl := fm_rt1 hf
          exact fm_aret C E rfl (Or.inl ⟨_, rfl⟩) dX6_shapeOf_116
        · rcases fm_io hf with ⟨hs1_103, hf⟩ | ⟨hs1_103, hf⟩
          · refine fm_tcase C dX6_shapeOf_1 hs1_103 (by decide) (by decide) (off := 107) (by decide) (tgt := 108) (by decide) ?_
            refine fm_lds C (i := 0) rfl dX6_shapeOf_108 ?_
            obtain rfl := fm_rt1 hf
            exact fm_aret C E rfl (Or.inl ⟨_, rfl⟩) dX6_shapeOf_110
          · rcases fm_io hf with ⟨hs1_111, hf⟩ | ⟨hs1_111, hf⟩
            · refine fm_tcase C dX6_shapeOf_1 hs1_111 (by decide) (by decide) (off := 113) (by decide) (tgt := 114) (by decide) ?_
              refine fm_lds C (i := 2) rfl dX6_shapeOf_114 ?_
              obtain rfl := fm_rt1 hf
              exact fm_aret C E rfl (Or.inl ⟨_, rfl⟩) dX6_shapeOf_116
            · rcases fm_io hf with ⟨hs1_115, hf⟩ | ⟨hs1_115, hf⟩
              · refine fm_tcase C dX6_shapeOf_1 hs1_115 (by decide) (by decide) (off := 113) (by decide) (tgt := 114) (by decide) ?_
                refine fm_lds C (i := 2) rfl dX6_shapeOf_114 ?_
                obtain rfl := fm_rt1 hf
                exact fm_aret C E rfl (Or.inl ⟨_, rfl⟩) dX6_shapeOf_116
              · rcases fm_io hf with ⟨hs1_119, hf⟩ | ⟨hs1_119, hf⟩
                · refine fm_tcase C dX6_shapeOf_1 hs1_119 (by decide) (by decide) (off := 113) (by decide) (tgt := 114) (by decide) ?_
                  refine fm_lds C (i := 2) rfl dX6_shapeOf_114 ?_
                  obtain rfl := fm_rt1 hf
                  exact fm_aret C E rfl (Or.inl ⟨_, rfl⟩) dX6_shapeOf_116
                · refine fm_tdef C dX6_shapeOf_1 [97, 98, 99, 100, 103, 111, 115, 119] (by intro v hv; rcases List.mem_cons.mp hv with rfl | hv; exact lv_neT hs1_97 (by decide); rcases List.mem_cons.mp hv with rfl | hv; exact lv_neT hs1_98 (by decide); rcases List.mem_cons.mp hv with rfl | hv; exact lv_neT hs1_99 (by decide); rcases List.mem_cons.mp hv with rfl | hv; exact lv_neT hs1_100 (by decide); rcases List.mem_cons.mp hv with rfl | hv; exact lv_neT hs1_103 (by decide); rcases List.mem_cons.mp hv with rfl | hv; exact lv_neT hs1_111 (by decide); rcases List.mem_cons.mp hv with rfl | hv; exact lv_neT hs1_115 (by decide); rcases List.mem_cons.mp hv with rfl | hv; exact lv_neT hs1_119 (by decide); exact absurd hv (by simp)) (by decide) (by decide) (tgt := 120) (by decide) ?_
                  refine fm_lds C (i := 4) rfl dX6_shapeOf_120 ?_
                  obtain rfl := fm_rt1 hf
                  exact fm_aret C E rfl (Or.inl ⟨_, rfl⟩) dX6_shapeOf_122
theorem dX7_copyFrom_0 : decode cX7_copyFrom 0 = .ok (.aload_n 0, 1) := by decide +kernel
theorem dX7_copyFrom_1 : decode cX7_copyFrom 1 = .ok (.aload_n 1, 1) := by decide +kernel
theorem dX7_copyFrom_2 : decode cX7_copyFrom 2 = .ok (.getfield 23, 3) := by decide +kernel
theorem dX7_copyFrom_5 : decode cX7_copyFrom 5 = .ok (.putfield 23, 3) := by decide +kernel
theorem dX7_copyFrom_8 : decode cX7_copyFrom 8 = .ok (.aload_n 0, 1) := by decide +kernel
theorem dX7_copyFrom_9 : decode cX7_copyFrom 9 = .ok (.aload_n 1, 1) := by decide +kernel
theorem dX7_copyFrom_10 : decode cX7_copyFrom 10 = .ok (.getfield 27, 3) := by decide +kernel
theorem dX7_copyFrom_13 : decode cX7_copyFrom 13 = .ok (.putfield 27, 3) := by decide +kernel
theorem dX7_copyFrom_16 : decode cX7_copyFrom 16 = .ok (.iconst 0, 1) := by decide +kernel
theorem dX7_copyFrom_17 : decode cX7_copyFrom 17 = .ok (.istore_n 2, 1) := by decide +kernel
theorem dX7_copyFrom_18 : decode cX7_copyFrom 18 = .ok (.iload_n 2, 1) := by decide +kernel
theorem dX7_copyFrom_19 : decode cX7_copyFrom 19 = .ok (.aload_n 0, 1) := by decide +kernel
theorem dX7_copyFrom_20 : decode cX7_copyFrom 20 = .ok (.getfield 11, 3) := by decide +kernel
theorem dX7_copyFrom_23 : decode cX7_copyFrom 23 = .ok (.arraylength, 1) := by decide +kernel
theorem dX7_copyFrom_24 : decode cX7_copyFrom 24 = .ok (.if_icmp .ge 28, 3) := by decide +kernel
theorem dX7_copyFrom_27 : decode cX7_copyFrom 27 = .ok (.aload_n 1, 1) := by decide +kernel
theorem dX7_copyFrom_28 : decode cX7_copyFrom 28 = .ok (.getfield 11, 3) := by decide +kernel
theorem dX7_copyFrom_31 : decode cX7_copyFrom 31 = .ok (.iload_n 2, 1) := by decide +kernel
theorem dX7_copyFrom_32 : decode cX7_copyFrom 32 = .ok (.aaload, 1) := by decide +kernel
theorem dX7_copyFrom_33 : decode cX7_copyFrom 33 = .ok (.iconst 0, 1) := by decide +kernel
theorem dX7_copyFrom_34 : decode cX7_copyFrom 34 = .ok (.aload_n 0, 1) := by decide +kernel
theorem dX7_copyFrom_35 : decode cX7_copyFrom 35 = .ok (.getfield 11, 3) := by decide +kernel
theorem dX7_copyFrom_38 : decode cX7_copyFrom 38 = .ok (.iload_n 2, 1) := by decide +kernel
theorem dX7_copyFrom_39 : decode cX7_copyFrom 39 = .ok (.aaload, 1) := by decide +kernel
theorem dX7_copyFrom_40 : decode cX7_copyFrom 40 = .ok (.iconst 0, 1) := by decide +kernel
theorem dX7_copyFrom_41 : decode cX7_copyFrom 41 = .ok (.bipush 6, 2) := by decide +kernel
theorem dX7_copyFrom_43 : decode cX7_copyFrom 43 = .ok (.invokestatic 30, 3) := by decide +kernel
theorem dX7_copyFrom_46 : decode cX7_copyFrom 46 = .ok (.iinc 2 1, 3) := by decide +kernel
theorem dX7_copyFrom_49 : decode cX7_copyFrom 49 = .ok (.goto (-31), 3) := by decide +kernel
theorem dX7_copyFrom_52 : decode cX7_copyFrom 52 = .ok (.iconst 0, 1) := by decide +kernel
theorem dX7_copyFrom_53 : decode cX7_copyFrom 53 = .ok (.istore_n 2, 1) := by decide +kernel
theorem dX7_copyFrom_54 : decode cX7_copyFrom 54 = .ok (.iload_n 2, 1) := by decide +kernel
theorem dX7_copyFrom_55 : decode cX7_copyFrom 55 = .ok (.iconst 4, 1) := by decide +kernel
theorem dX7_copyFrom_56 : decode cX7_copyFrom 56 = .ok (.if_icmp .ge 28, 3) := by decide +kernel
theorem dX7_copyFrom_59 : decode cX7_copyFrom 59 = .ok (.aload_n 1, 1) := by decide +kernel
theorem dX7_copyFrom_60 : decode cX7_copyFrom 60 = .ok (.getfield 16, 3) := by decide +kernel
theorem dX7_copyFrom_63 : decode cX7_copyFrom 63 = .ok (.iload_n 2, 1) := by decide +kernel
theorem dX7_copyFrom_64 : decode cX7_copyFrom 64 = .ok (.aaload, 1) := by decide +kernel
theorem dX7_copyFrom_65 : decode cX7_copyFrom 65 = .ok (.iconst 0, 1) := by decide +kernel
theorem dX7_copyFrom_66 : decode cX7_copyFrom 66 = .ok (.aload_n 0, 1) := by decide +kernel
theorem dX7_copyFrom_67 : decode cX7_copyFrom 67 = .ok (.getfield 16, 3) := by decide +kernel
theorem dX7_copyFrom_70 : decode cX7_copyFrom 70 = .ok (.iload_n 2, 1) := by decide +kernel
theorem dX7_copyFrom_71 : decode cX7_copyFrom 71 = .ok (.aaload, 1) := by decide +kernel
theorem dX7_copyFrom_72 : decode cX7_copyFrom 72 = .ok (.iconst 0, 1) := by decide +kernel
theorem dX7_copyFrom_73 : decode cX7_copyFrom 73 = .ok (.bipush 15, 2) := by decide +kernel
theorem dX7_copyFrom_75 : decode cX7_copyFrom 75 = .ok (.invokestatic 30, 3) := by decide +kernel
theorem dX7_copyFrom_78 : decode cX7_copyFrom 78 = .ok (.iinc 2 1, 3) := by decide +kernel
theorem dX7_copyFrom_81 : decode cX7_copyFrom 81 = .ok (.goto (-27), 3) := by decide +kernel
theorem dX7_copyFrom_84 : decode cX7_copyFrom 84 = .ok (.aload_n 1, 1) := by decide +kernel
theorem dX7_copyFrom_85 : decode cX7_copyFrom 85 = .ok (.getfield 19, 3) := by decide +kernel
theorem dX7_copyFrom_88 : decode cX7_copyFrom 88 = .ok (.iconst 0, 1) := by decide +kernel
theorem dX7_copyFrom_89 : decode cX7_copyFrom 89 = .ok (.aload_n 0, 1) := by decide +kernel
theorem dX7_copyFrom_90 : decode cX7_copyFrom 90 = .ok (.getfield 19, 3) := by decide +kernel
theorem dX7_copyFrom_93 : decode cX7_copyFrom 93 = .ok (.iconst 0, 1) := by decide +kernel
theorem dX7_copyFrom_94 : decode cX7_copyFrom 94 = .ok (.aload_n 0, 1) := by decide +kernel
theorem dX7_copyFrom_95 : decode cX7_copyFrom 95 = .ok (.getfield 19, 3) := by decide +kernel
theorem dX7_copyFrom_98 : decode cX7_copyFrom 98 = .ok (.arraylength, 1) := by decide +kernel
theorem dX7_copyFrom_99 : decode cX7_copyFrom 99 = .ok (.invokestatic 30, 3) := by decide +kernel
theorem dX7_copyFrom_102 : decode cX7_copyFrom 102 = .ok (.return_, 1) := by decide +kernel
set_option maxHeartbeats 4000000 in
set_option maxRecDepth 100000 in
theorem c_Scene_copyFrom (l : Launch) (G : fm_G) (N : Nat) (M : fm_M) (v0 : Nat) (v1 : Nat) (M' : fm_M) (hf : pScene_copyFrom N M v0 v1 = some M') : fm_Met l yX7_copyFrom cX7_copyFrom 3 none { frames := 1, cells := 0, slots := 0, locals := 26 } shC G [.ref (G.2.1 v0), .ref (G.2.1 v1)] M none M' := by
  refine fm_enter (by decide) (Nat.le_of_ble_eq_true rfl) ?_
  intro p e s m args below meth c ls C E hl
  have hl : lv_has ls 3 [(0, .ref (G.2.1 v0)), (1, .ref (G.2.1 v1))] := hl
  unfold pScene_copyFrom at hf
  obtain ⟨hs_v0, hf⟩ := fm_rq_s hf
  obtain ⟨hs_v1, hf⟩ := fm_rq_s hf
  have L54 : ∀ (n54 : Nat) (v2 : Int32) (M : fm_M) (H : Heap) (locs : List Loc) (ls : Array Slot), fm_Wd shC G M s H locs → lv_has ls 3 [(0, .ref (G.2.1 v0)), (1, .ref (G.2.1 v1)), (2, .int v2)] → fm_lp (pScene_copyFrom_L54 N v0 v1) n54 (v2, M) = some M' → W p l e { frames := 1, cells := 0, slots := 0, locals := 26 } s m args below meth c H locs 0 0 (fm_Z below shC G args s none M') (F0 m 54 ls []) := by
    intro  n54
    induction n54 with
    | zero => intro v2 M H locs ls E hl hf; exact fm_lp_0 hf
    | succ n54 ih54 =>
      intro v2 M H locs ls E hl hf
      have hf : pScene_copyFrom_L54b N v0 v1 (fm_lp (pScene_copyFrom_L54 N v0 v1) n54) v2 M = some M' := hf
      unfold pScene_copyFrom_L54b at hf
      refine lv_iload_n C.1 C.2.1 dX7_copyFrom_54 rfl (lv_at hl 2 rfl) ?_
      refine lv_iconst (v := 4) C.1 C.2.1 dX7_copyFrom_55 (by decide) ?_
      refine lv_icmp_ge (tgt := 84) C.1 C.2.1 dX7_copyFrom_56 (by decide) (fun hc56 => ?_) (fun hc56 => ?_)
      · have hf := fm_ip hf hc56
        refine lv_aload_n C.1 C.2.1 dX7_copyFrom_84 rfl (lv_at hl 1 rfl) ?_
        refine fm_getr C E lf_X7_19 (fm_sc_at hs_v1) rfl dX7_copyFrom_85 ?_
        refine lv_iconst (v := 0) C.1 C.2.1 dX7_copyFrom_88 (by decide) ?_
        refine lv_aload_n C.1 C.2.1 dX7_copyFrom_89 rfl (lv_at hl 0 rfl) ?_
        refine fm_getr C E lf_X7_19 (fm_sc_at hs_v0) rfl dX7_copyFrom_90 ?_
        refine lv_iconst (v := 0) C.1 C.2.1 dX7_copyFrom_93 (by decide) ?_
        refine lv_aload_n C.1 C.2.1 dX7_copyFrom_94 rfl (lv_at hl 0 rfl) ?_
        refine fm_getr C E lf_X7_19 (fm_sc_at hs_v0) rfl dX7_copyFrom_95 ?_
        refine fm_alen C E (fm_sc_13 hs_v0) (by decide) (v := 3) (by decide) dX7_copyFrom_98 ?_
        obtain ⟨M99, e99, hf⟩ := fm_cp_s hf
        refine fm_copy' C E e99 wv_copy wm_367 hl.1 ⟨by decide, by decide⟩ (by simp [Value.category]) (fm_sc_13 hs_v1) (fm_sc_13 hs_v0) (by decide) (by decide) (by decide) (by decide) dX7_copyFrom_99 (fun H locs E => ?_)
        obtain rfl := fm_rt1 hf
        exact fm_vret C E rfl dX7_copyFrom_102
      · have hf := fm_in' hf hc56
        refine lv_aload_n C.1 C.2.1 dX7_copyFrom_59 rfl (lv_at hl 1 rfl) ?_
        refine fm_getr C E lf_X7_16 (fm_sc_at hs_v1) rfl dX7_copyFrom_60 ?_
        refine lv_iload_n C.1 C.2.1 dX7_copyFrom_63 rfl (lv_at hl 2 rfl) ?_
        obtain ⟨q64, h64, k64, e64, hf⟩ := fm_ix_t (fm_sc_t8 hs_v1) hf
        refine fm_aald C E (fm_sc_8 hs_v1) h64 (r := q64) (by rw [e64]; exact fm_sc_l8 _ _ (fm_in_lt h64)) dX7_copyFrom_64 ?_
        refine lv_iconst (v := 0) C.1 C.2.1 dX7_copyFrom_65 (by decide) ?_
        refine lv_aload_n C.1 C.2.1 dX7_copyFrom_66 rfl (lv_at hl 0 rfl) ?_
        refine fm_getr C E lf_X7_16 (fm_sc_at hs_v0) rfl dX7_copyFrom_67 ?_
        refine lv_iload_n C.1 C.2.1 dX7_copyFrom_70 rfl (lv_at hl 2 rfl) ?_
        obtain ⟨q71, h71, k71, e71, hf⟩ := fm_ix_t (fm_sc_t8 hs_v0) hf
        refine fm_aald C E (fm_sc_8 hs_v0) h71 (r := q71) (by rw [e71]; exact fm_sc_l8 _ _ (fm_in_lt h71)) dX7_copyFrom_71 ?_
        refine lv_iconst (v := 0) C.1 C.2.1 dX7_copyFrom_72 (by decide) ?_
        refine lv_bipush (v := 15) C.1 C.2.1 dX7_copyFrom_73 (by decide) ?_
        obtain ⟨M75, e75, hf⟩ := fm_cp_s hf
        refine fm_copy' C E e75 wv_copy wm_367 hl.1 ⟨by decide, by decide⟩ (by simp [Value.category]) k64 k71 (by decide) (by decide) (by decide) (by decide) dX7_copyFrom_75 (fun H locs E => ?_)
        refine fm_iinc C (v := 1) (lv' := [(2, .int _), (0, .ref _), (1, .ref _)]) (k := 2) hl rfl (by decide) (by decide) rfl dX7_copyFrom_78 (fun ls hl => ?_)
        refine lv_goto (tgt := 54) C.1 C.2.1 dX7_copyFrom_81 (by decide) ?_
        exact ih54 _ _ _ _ _ E (lv_sub hl [1, 2, 0] rfl) hf
  have L18 : ∀ (n18 : Nat) (v2 : Int32) (M : fm_M) (H : Heap) (locs : List Loc) (ls : Array Slot), fm_Wd shC G M s H locs → lv_has ls 3 [(0, .ref (G.2.1 v0)), (1, .ref (G.2.1 v1)), (2, .int v2)] → fm_lp (pScene_copyFrom_L18 N v0 v1) n18 (v2, M) = some M' → W p l e { frames := 1, cells := 0, slots := 0, locals := 26 } s m args below meth c H locs 0 0 (fm_Z below shC G args s none M') (F0 m 18 ls []) := by
    intro  n18
    induction n18 with
    | zero => intro v2 M H locs ls E hl hf; exact fm_lp_0 hf
    | succ n18 ih18 =>
      intro v2 M H locs ls E hl hf
      have hf : pScene_copyFrom_L18b N v0 v1 (fm_lp (pScene_copyFrom_L18 N v0 v1) n18) v2 M = some M' := hf
      unfold pScene_copyFrom_L18b at hf
      refine lv_iload_n C.1 C.2.1 dX7_copyFrom_18 rfl (lv_at hl 2 rfl) ?_
      refine lv_aload_n C.1 C.2.1 dX7_copyFrom_19 rfl (lv_at hl 0 rfl) ?_
      refine fm_getr C E lf_X7_11 (fm_sc_at hs_v0) rfl dX7_copyFrom_20 ?_
      refine fm_alen C E (fm_sc_1 hs_v0) (by decide) (v := 6) (by decide) dX7_copyFrom_23 ?_
      refine lv_icmp_ge (tgt := 52) C.1 C.2.1 dX7_copyFrom_24 (by decide) (fun hc24 => ?_) (fun hc24 => ?_)
      · have hf := fm_ip hf hc24
        refine lv_iconst (v := 0) C.1 C.2.1 dX7_copyFrom_52 (by decide) ?_
        refine lv_istore_n (lv' := [(2, .int _), (0, .ref _), (1, .ref _)]) C.1 C.2.1 dX7_copyFrom_53 rfl hl (by decide) rfl (fun ls hl => ?_)
        exact L54  N _ _ _ _ _ E (lv_sub hl [1, 2, 0] rfl) hf
      · have hf := fm_in' hf hc24
        refine lv_aload_n C.1 C.2.1 dX7_copyFrom_27 rfl (lv_at hl 1 rfl) ?_
        refine fm_getr C E lf_X7_11 (fm_sc_at hs_v1) rfl dX7_copyFrom_28 ?_
        refine lv_iload_n C.1 C.2.1 dX7_copyFrom_31 rfl (lv_at hl 2 rfl) ?_
        obtain ⟨q32, h32, k32, e32, hf⟩ := fm_ix_t (fm_sc_t1 hs_v1) hf
        refine fm_aald C E (fm_sc_1 hs_v1) h32 (r := q32) (by rw [e32]; exact fm_sc_l1 _ _ (fm_in_lt h32)) dX7_copyFrom_32 ?_
        refine lv_iconst (v := 0) C.1 C.2.1 dX7_copyFrom_33 (by decide) ?_
        refine lv_aload_n C.1 C.2.1 dX7_copyFrom_34 rfl (lv_at hl 0 rfl) ?_
        refine fm_getr C E lf_X7_11 (fm_sc_at hs_v0) rfl dX7_copyFrom_35 ?_
        refine lv_iload_n C.1 C.2.1 dX7_copyFrom_38 rfl (lv_at hl 2 rfl) ?_
        obtain ⟨q39, h39, k39, e39, hf⟩ := fm_ix_t (fm_sc_t1 hs_v0) hf
        refine fm_aald C E (fm_sc_1 hs_v0) h39 (r := q39) (by rw [e39]; exact fm_sc_l1 _ _ (fm_in_lt h39)) dX7_copyFrom_39 ?_
        refine lv_iconst (v := 0) C.1 C.2.1 dX7_copyFrom_40 (by decide) ?_
        refine lv_bipush (v := 6) C.1 C.2.1 dX7_copyFrom_41 (by decide) ?_
        obtain ⟨M43, e43, hf⟩ := fm_cp_s hf
        refine fm_copy' C E e43 wv_copy wm_367 hl.1 ⟨by decide, by decide⟩ (by simp [Value.category]) k32 k39 (by decide) (by decide) (by decide) (by decide) dX7_copyFrom_43 (fun H locs E => ?_)
        refine fm_iinc C (v := 1) (lv' := [(2, .int _), (0, .ref _), (1, .ref _)]) (k := 2) hl rfl (by decide) (by decide) rfl dX7_copyFrom_46 (fun ls hl => ?_)
        refine lv_goto (tgt := 18) C.1 C.2.1 dX7_copyFrom_49 (by decide) ?_
        exact ih18 _ _ _ _ _ E (lv_sub hl [1, 2, 0] rfl) hf
  refine lv_aload_n C.1 C.2.1 dX7_copyFrom_0 rfl (lv_at hl 0 rfl) ?_
  refine lv_aload_n C.1 C.2.1 dX7_copyFrom_1 rfl (lv_at hl 1 rfl) ?_
  refine fm_geti C E lf_X7_23 (fm_sc_at hs_v1) rfl dX7_copyFrom_2 ?_
  obtain ⟨M5, e5, hf⟩ := fm_pt_s hf
  refine fm_put' C E e5 lp_X7_23 (fm_sc_at hs_v0) rfl dX7_copyFrom_5 (fun H locs E => ?_)
  refine lv_aload_n C.1 C.2.1 dX7_copyFrom_8 rfl (lv_at hl 0 rfl) ?_
  refine lv_aload_n C.1 C.2.1 dX7_copyFrom_9 rfl (lv_at hl 1 rfl) ?_
  refine fm_geti C E lf_X7_27 (fm_sc_at hs_v1) rfl dX7_copyFrom_10 ?_
  obtain ⟨M13, e13, hf⟩ := fm_pt_s hf
  refine fm_put' C E e13 lp_X7_27 (fm_sc_at hs_v0) rfl dX7_copyFrom_13 (fun H locs E => ?_)
  refine lv_iconst (v := 0) C.1 C.2.1 dX7_copyFrom_16 (by decide) ?_
  refine lv_istore_n (lv' := [(2, .int _), (0, .ref _), (1, .ref _)]) C.1 C.2.1 dX7_copyFrom_17 rfl hl (by decide) rfl (fun ls hl => ?_)
  exact L18  N _ _ _ _ _ E (lv_sub hl [1, 2, 0] rfl) hf
theorem dX7_hasMic_0 : decode cX7_hasMic 0 = .ok (.iload_n 1, 1) := by decide +kernel
theorem dX7_hasMic_1 : decode cX7_hasMic 1 = .ok (.ifCond .lt 15, 3) := by decide +kernel
theorem dX7_hasMic_4 : decode cX7_hasMic 4 = .ok (.iload_n 1, 1) := by decide +kernel
theorem dX7_hasMic_5 : decode cX7_hasMic 5 = .ok (.aload_n 0, 1) := by decide +kernel
theorem dX7_hasMic_6 : decode cX7_hasMic 6 = .ok (.getfield 23, 3) := by decide +kernel
theorem dX7_hasMic_9 : decode cX7_hasMic 9 = .ok (.if_icmp .ge 7, 3) := by decide +kernel
theorem dX7_hasMic_12 : decode cX7_hasMic 12 = .ok (.iconst 1, 1) := by decide +kernel
theorem dX7_hasMic_13 : decode cX7_hasMic 13 = .ok (.goto 4, 3) := by decide +kernel
theorem dX7_hasMic_16 : decode cX7_hasMic 16 = .ok (.iconst 0, 1) := by decide +kernel
theorem dX7_hasMic_17 : decode cX7_hasMic 17 = .ok (.ireturn, 1) := by decide +kernel
set_option maxHeartbeats 4000000 in
set_option maxRecDepth 100000 in
theorem c_Scene_hasMic (l : Launch) (G : fm_G) (M : fm_M) (v1 : Int32) (r : Int32) (hf : pScene_hasMic M v1 = some r) : fm_Met l yX7_hasMic cX7_hasMic 2 (some .boolean) { frames := 0, cells := 0, slots := 0, locals := 0 } shC G [.ref (G.2.1 1), .int v1] M (some (.int r)) M := by
  refine fm_enter (by decide) (Nat.le_of_ble_eq_true rfl) ?_
  intro p e s m args below meth c ls C E hl
  have hl : lv_has ls 2 [(0, .ref (G.2.1 1)), (1, .int v1)] := hl
  unfold pScene_hasMic at hf
  refine lv_iload_n C.1 C.2.1 dX7_hasMic_0 rfl (lv_at hl 1 rfl) ?_
  refine lv_if_lt (tgt := 16) C.1 C.2.1 dX7_hasMic_1 (by decide) (fun hc1 => ?_) (fun hc1 => ?_)
  · have hf := fm_ip hf hc1
    refine lv_iconst (v := 0) C.1 C.2.1 dX7_hasMic_16 (by decide) ?_
    obtain rfl := fm_rt1 hf
    exact fm_iret C E rfl rfl dX7_hasMic_17
  · have hf := fm_in' hf hc1
    refine lv_iload_n C.1 C.2.1 dX7_hasMic_4 rfl (lv_at hl 1 rfl) ?_
    refine lv_aload_n C.1 C.2.1 dX7_hasMic_5 rfl (lv_at hl 0 rfl) ?_
    refine fm_geti C E lf_X7_23 hC_1 rfl dX7_hasMic_6 ?_
    refine lv_icmp_ge (tgt := 16) C.1 C.2.1 dX7_hasMic_9 (by decide) (fun hc9 => ?_) (fun hc9 => ?_)
    · have hf := fm_ip hf hc9
      refine lv_iconst (v := 0) C.1 C.2.1 dX7_hasMic_16 (by decide) ?_
      obtain rfl := fm_rt1 hf
      exact fm_iret C E rfl rfl dX7_hasMic_17
    · have hf := fm_in' hf hc9
      refine lv_iconst (v := 1) C.1 C.2.1 dX7_hasMic_12 (by decide) ?_
      refine lv_goto (tgt := 17) C.1 C.2.1 dX7_hasMic_13 (by decide) ?_
      obtain rfl := fm_rt1 hf
      exact fm_iret C E rfl rfl dX7_hasMic_17
theorem dX7_hasSource_0 : decode cX7_hasSource 0 = .ok (.iload_n 1, 1) := by decide +kernel
theorem dX7_hasSource_1 : decode cX7_hasSource 1 = .ok (.ifCond .lt 15, 3) := by decide +kernel
theorem dX7_hasSource_4 : decode cX7_hasSource 4 = .ok (.iload_n 1, 1) := by decide +kernel
theorem dX7_hasSource_5 : decode cX7_hasSource 5 = .ok (.aload_n 0, 1) := by decide +kernel
theorem dX7_hasSource_6 : decode cX7_hasSource 6 = .ok (.getfield 27, 3) := by decide +kernel
theorem dX7_hasSource_9 : decode cX7_hasSource 9 = .ok (.if_icmp .ge 7, 3) := by decide +kernel
theorem dX7_hasSource_12 : decode cX7_hasSource 12 = .ok (.iconst 1, 1) := by decide +kernel
theorem dX7_hasSource_13 : decode cX7_hasSource 13 = .ok (.goto 4, 3) := by decide +kernel
theorem dX7_hasSource_16 : decode cX7_hasSource 16 = .ok (.iconst 0, 1) := by decide +kernel
theorem dX7_hasSource_17 : decode cX7_hasSource 17 = .ok (.ireturn, 1) := by decide +kernel
set_option maxHeartbeats 4000000 in
set_option maxRecDepth 100000 in
theorem c_Scene_hasSource (l : Launch) (G : fm_G) (M : fm_M) (v1 : Int32) (r : Int32) (hf : pScene_hasSource M v1 = some r) : fm_Met l yX7_hasSource cX7_hasSource 2 (some .boolean) { frames := 0, cells := 0, slots := 0, locals := 0 } shC G [.ref (G.2.1 1), .int v1] M (some (.int r)) M := by
  refine fm_enter (by decide) (Nat.le_of_ble_eq_true rfl) ?_
  intro p e s m args below meth c ls C E hl
  have hl : lv_has ls 2 [(0, .ref (G.2.1 1)), (1, .int v1)] := hl
  unfold pScene_hasSource at hf
  refine lv_iload_n C.1 C.2.1 dX7_hasSource_0 rfl (lv_at hl 1 rfl) ?_
  refine lv_if_lt (tgt := 16) C.1 C.2.1 dX7_hasSource_1 (by decide) (fun hc1 => ?_) (fun hc1 => ?_)
  · have hf := fm_ip hf hc1
    refine lv_iconst (v := 0) C.1 C.2.1 dX7_hasSource_16 (by decide) ?_
    obtain rfl := fm_rt1 hf
    exact fm_iret C E rfl rfl dX7_hasSource_17
  · have hf := fm_in' hf hc1
    refine lv_iload_n C.1 C.2.1 dX7_hasSource_4 rfl (lv_at hl 1 rfl) ?_
    refine lv_aload_n C.1 C.2.1 dX7_hasSource_5 rfl (lv_at hl 0 rfl) ?_
    refine fm_geti C E lf_X7_27 hC_1 rfl dX7_hasSource_6 ?_
    refine lv_icmp_ge (tgt := 16) C.1 C.2.1 dX7_hasSource_9 (by decide) (fun hc9 => ?_) (fun hc9 => ?_)
    · have hf := fm_ip hf hc9
      refine lv_iconst (v := 0) C.1 C.2.1 dX7_hasSource_16 (by decide) ?_
      obtain rfl := fm_rt1 hf
      exact fm_iret C E rfl rfl dX7_hasSource_17
    · have hf := fm_in' hf hc9
      refine lv_iconst (v := 1) C.1 C.2.1 dX7_hasSource_12 (by decide) ?_
      refine lv_goto (tgt := 17) C.1 C.2.1 dX7_hasSource_13 (by decide) ?_
      obtain rfl := fm_rt1 hf
      exact fm_iret C E rfl rfl dX7_hasSource_17
theorem dX7_begin_0 : decode cX7_begin 0 = .ok (.aload_n 0, 1) := by decide +kernel
theorem dX7_begin_1 : decode cX7_begin 1 = .ok (.getfield 19, 3) := by decide +kernel
theorem dX7_begin_4 : decode cX7_begin 4 = .ok (.iconst 1, 1) := by decide +kernel
theorem dX7_begin_5 : decode cX7_begin 5 = .ok (.iaload, 1) := by decide +kernel
theorem dX7_begin_6 : decode cX7_begin 6 = .ok (.ireturn, 1) := by decide +kernel
set_option maxHeartbeats 4000000 in
set_option maxRecDepth 100000 in
theorem c_Scene_begin (l : Launch) (G : fm_G) (M : fm_M) (r : Int32) (hf : pScene_begin M = some r) : fm_Met l yX7_begin cX7_begin 1 (some .int) { frames := 0, cells := 0, slots := 0, locals := 0 } shC G [.ref (G.2.1 1)] M (some (.int r)) M := by
  refine fm_enter (by decide) (Nat.le_of_ble_eq_true rfl) ?_
  intro p e s m args below meth c ls C E hl
  have hl : lv_has ls 1 [(0, .ref (G.2.1 1))] := hl
  unfold pScene_begin at hf
  refine lv_aload_n C.1 C.2.1 dX7_begin_0 rfl (lv_at hl 0 rfl) ?_
  refine fm_getr C E lf_X7_19 hC_1 rfl dX7_begin_1 ?_
  refine lv_iconst (v := 1) C.1 C.2.1 dX7_begin_4 (by decide) ?_
  refine fm_ialdc C E 1 (by decide) hC_14 (by decide) dX7_begin_5 ?_
  obtain rfl := fm_rt1 hf
  exact fm_iret C E rfl rfl dX7_begin_6
theorem dX7_length_0 : decode cX7_length 0 = .ok (.aload_n 0, 1) := by decide +kernel
theorem dX7_length_1 : decode cX7_length 1 = .ok (.getfield 19, 3) := by decide +kernel
theorem dX7_length_4 : decode cX7_length 4 = .ok (.iconst 2, 1) := by decide +kernel
theorem dX7_length_5 : decode cX7_length 5 = .ok (.iaload, 1) := by decide +kernel
theorem dX7_length_6 : decode cX7_length 6 = .ok (.ireturn, 1) := by decide +kernel
set_option maxHeartbeats 4000000 in
set_option maxRecDepth 100000 in
theorem c_Scene_length (l : Launch) (G : fm_G) (M : fm_M) (r : Int32) (hf : pScene_length M = some r) : fm_Met l yX7_length cX7_length 1 (some .int) { frames := 0, cells := 0, slots := 0, locals := 0 } shC G [.ref (G.2.1 1)] M (some (.int r)) M := by
  refine fm_enter (by decide) (Nat.le_of_ble_eq_true rfl) ?_
  intro p e s m args below meth c ls C E hl
  have hl : lv_has ls 1 [(0, .ref (G.2.1 1))] := hl
  unfold pScene_length at hf
  refine lv_aload_n C.1 C.2.1 dX7_length_0 rfl (lv_at hl 0 rfl) ?_
  refine fm_getr C E lf_X7_19 hC_1 rfl dX7_length_1 ?_
  refine lv_iconst (v := 2) C.1 C.2.1 dX7_length_4 (by decide) ?_
  refine fm_ialdc C E 2 (by decide) hC_14 (by decide) dX7_length_5 ?_
  obtain rfl := fm_rt1 hf
  exact fm_iret C E rfl rfl dX7_length_6
theorem dX7_isLive_0 : decode cX7_isLive 0 = .ok (.aload_n 0, 1) := by decide +kernel
theorem dX7_isLive_1 : decode cX7_isLive 1 = .ok (.iload_n 1, 1) := by decide +kernel
theorem dX7_isLive_2 : decode cX7_isLive 2 = .ok (.invokevirtual 36, 3) := by decide +kernel
theorem dX7_isLive_5 : decode cX7_isLive 5 = .ok (.ifCond .eq 18, 3) := by decide +kernel
theorem dX7_isLive_8 : decode cX7_isLive 8 = .ok (.aload_n 0, 1) := by decide +kernel
theorem dX7_isLive_9 : decode cX7_isLive 9 = .ok (.getfield 11, 3) := by decide +kernel
theorem dX7_isLive_12 : decode cX7_isLive 12 = .ok (.iconst 5, 1) := by decide +kernel
theorem dX7_isLive_13 : decode cX7_isLive 13 = .ok (.aaload, 1) := by decide +kernel
theorem dX7_isLive_14 : decode cX7_isLive 14 = .ok (.iload_n 1, 1) := by decide +kernel
theorem dX7_isLive_15 : decode cX7_isLive 15 = .ok (.iaload, 1) := by decide +kernel
theorem dX7_isLive_16 : decode cX7_isLive 16 = .ok (.ifCond .ne 7, 3) := by decide +kernel
theorem dX7_isLive_19 : decode cX7_isLive 19 = .ok (.iconst 1, 1) := by decide +kernel
theorem dX7_isLive_20 : decode cX7_isLive 20 = .ok (.goto 4, 3) := by decide +kernel
theorem dX7_isLive_23 : decode cX7_isLive 23 = .ok (.iconst 0, 1) := by decide +kernel
theorem dX7_isLive_24 : decode cX7_isLive 24 = .ok (.ireturn, 1) := by decide +kernel
set_option maxHeartbeats 4000000 in
set_option maxRecDepth 100000 in
theorem c_Scene_isLive (l : Launch) (G : fm_G) (M : fm_M) (v1 : Int32) (r : Int32) (hf : pScene_isLive M v1 = some r) : fm_Met l yX7_isLive cX7_isLive 2 (some .boolean) { frames := 1, cells := 0, slots := 0, locals := 21 } shC G [.ref (G.2.1 1), .int v1] M (some (.int r)) M := by
  refine fm_enter (by decide) (Nat.le_of_ble_eq_true rfl) ?_
  intro p e s m args below meth c ls C E hl
  have hl : lv_has ls 2 [(0, .ref (G.2.1 1)), (1, .int v1)] := hl
  unfold pScene_isLive at hf
  refine lv_aload_n C.1 C.2.1 dX7_isLive_0 rfl (lv_at hl 0 rfl) ?_
  refine lv_iload_n C.1 C.2.1 dX7_isLive_1 rfl (lv_at hl 1 rfl) ?_
  obtain ⟨x2, hc2, hf⟩ := fm_bd hf
  refine fm_callV C E [.int _] [] lm_X7_36 wk_X7_hasMic (c_Scene_hasMic l G _ _ _  hc2) hC_1 rfl rfl rfl hl.1 (by simp [Value.category]) ⟨⟨rfl, rfl⟩, by decide, by decide⟩ ⟨by decide, by decide⟩ dX7_isLive_2 rfl (fun H locs E => ?_)
  refine W.eq (g2 := F0 m 5 ls (.int x2 :: [])) rfl ?_
  refine lv_if_eq (tgt := 23) C.1 C.2.1 dX7_isLive_5 (by decide) (fun hc5 => ?_) (fun hc5 => ?_)
  · have hf := fm_ip hf hc5
    refine lv_iconst (v := 0) C.1 C.2.1 dX7_isLive_23 (by decide) ?_
    obtain rfl := fm_rt1 hf
    exact fm_iret C E rfl rfl dX7_isLive_24
  · have hf := fm_in' hf hc5
    refine lv_aload_n C.1 C.2.1 dX7_isLive_8 rfl (lv_at hl 0 rfl) ?_
    refine fm_getr C E lf_X7_11 hC_1 rfl dX7_isLive_9 ?_
    refine lv_iconst (v := 5) C.1 C.2.1 dX7_isLive_12 (by decide) ?_
    refine fm_aald C E hC_2 (by decide) (r := 8) (by decide) dX7_isLive_13 ?_
    refine lv_iload_n C.1 C.2.1 dX7_isLive_14 rfl (lv_at hl 1 rfl) ?_
    obtain ⟨h15, x15, e15, hf⟩ := fm_ld_e hf
    refine fm_iald' C E e15 hC_8 h15 dX7_isLive_15 ?_
    refine lv_if_ne (tgt := 23) C.1 C.2.1 dX7_isLive_16 (by decide) (fun hc16 => ?_) (fun hc16 => ?_)
    · have hf := fm_in' hf hc16
      refine lv_iconst (v := 0) C.1 C.2.1 dX7_isLive_23 (by decide) ?_
      obtain rfl := fm_rt1 hf
      exact fm_iret C E rfl rfl dX7_isLive_24
    · have hf := fm_ip hf hc16
      refine lv_iconst (v := 1) C.1 C.2.1 dX7_isLive_19 (by decide) ?_
      refine lv_goto (tgt := 24) C.1 C.2.1 dX7_isLive_20 (by decide) ?_
      obtain rfl := fm_rt1 hf
      exact fm_iret C E rfl rfl dX7_isLive_24
theorem dX7_liveSet_0 : decode cX7_liveSet 0 = .ok (.iconst 0, 1) := by decide +kernel
theorem dX7_liveSet_1 : decode cX7_liveSet 1 = .ok (.istore_n 1, 1) := by decide +kernel
theorem dX7_liveSet_2 : decode cX7_liveSet 2 = .ok (.iconst 0, 1) := by decide +kernel
theorem dX7_liveSet_3 : decode cX7_liveSet 3 = .ok (.istore_n 2, 1) := by decide +kernel
theorem dX7_liveSet_4 : decode cX7_liveSet 4 = .ok (.iload_n 2, 1) := by decide +kernel
theorem dX7_liveSet_5 : decode cX7_liveSet 5 = .ok (.aload_n 0, 1) := by decide +kernel
theorem dX7_liveSet_6 : decode cX7_liveSet 6 = .ok (.getfield 23, 3) := by decide +kernel
theorem dX7_liveSet_9 : decode cX7_liveSet 9 = .ok (.if_icmp .ge 27, 3) := by decide +kernel
theorem dX7_liveSet_12 : decode cX7_liveSet 12 = .ok (.iload_n 1, 1) := by decide +kernel
theorem dX7_liveSet_13 : decode cX7_liveSet 13 = .ok (.aload_n 0, 1) := by decide +kernel
theorem dX7_liveSet_14 : decode cX7_liveSet 14 = .ok (.iload_n 2, 1) := by decide +kernel
theorem dX7_liveSet_15 : decode cX7_liveSet 15 = .ok (.invokevirtual 47, 3) := by decide +kernel
theorem dX7_liveSet_18 : decode cX7_liveSet 18 = .ok (.ifCond .eq 9, 3) := by decide +kernel
theorem dX7_liveSet_21 : decode cX7_liveSet 21 = .ok (.iconst 1, 1) := by decide +kernel
theorem dX7_liveSet_22 : decode cX7_liveSet 22 = .ok (.iload_n 2, 1) := by decide +kernel
theorem dX7_liveSet_23 : decode cX7_liveSet 23 = .ok (.ishl, 1) := by decide +kernel
theorem dX7_liveSet_24 : decode cX7_liveSet 24 = .ok (.goto 4, 3) := by decide +kernel
theorem dX7_liveSet_27 : decode cX7_liveSet 27 = .ok (.iconst 0, 1) := by decide +kernel
theorem dX7_liveSet_28 : decode cX7_liveSet 28 = .ok (.ior, 1) := by decide +kernel
theorem dX7_liveSet_29 : decode cX7_liveSet 29 = .ok (.istore_n 1, 1) := by decide +kernel
theorem dX7_liveSet_30 : decode cX7_liveSet 30 = .ok (.iinc 2 1, 3) := by decide +kernel
theorem dX7_liveSet_33 : decode cX7_liveSet 33 = .ok (.goto (-29), 3) := by decide +kernel
theorem dX7_liveSet_36 : decode cX7_liveSet 36 = .ok (.iload_n 1, 1) := by decide +kernel
theorem dX7_liveSet_37 : decode cX7_liveSet 37 = .ok (.ireturn, 1) := by decide +kernel
set_option maxHeartbeats 4000000 in
set_option maxRecDepth 100000 in
theorem c_Scene_liveSet (l : Launch) (G : fm_G) (N : Nat) (M : fm_M) (r : Int32) (hf : pScene_liveSet N M = some r) : fm_Met l yX7_liveSet cX7_liveSet 3 (some .int) { frames := 2, cells := 0, slots := 0, locals := 42 } shC G [.ref (G.2.1 1)] M (some (.int r)) M := by
  refine fm_enter (by decide) (Nat.le_of_ble_eq_true rfl) ?_
  intro p e s m args below meth c ls C E hl
  have hl : lv_has ls 3 [(0, .ref (G.2.1 1))] := hl
  have L4 : ∀ (n4 : Nat) (v1 : Int32) (v2 : Int32) (H : Heap) (locs : List Loc) (ls : Array Slot), fm_Wd shC G M s H locs → lv_has ls 3 [(0, .ref (G.2.1 1)), (1, .int v1), (2, .int v2)] → fm_lp (pScene_liveSet_L4 N M) n4 (v1, v2) = some r → W p l e { frames := 2, cells := 0, slots := 0, locals := 42 } s m args below meth c H locs 0 0 (fm_Z below shC G args s (some (.int r)) M) (F0 m 4 ls []) := by
    intro  n4
    induction n4 with
    | zero => intro v1 v2 H locs ls E hl hf; exact fm_lp_0 hf
    | succ n4 ih4 =>
      intro v1 v2 H locs ls E hl hf
      have hf : pScene_liveSet_L4b N M (fm_lp (pScene_liveSet_L4 N M) n4) v1 v2 = some r := hf
      unfold pScene_liveSet_L4b at hf
      refine lv_iload_n C.1 C.2.1 dX7_liveSet_4 rfl (lv_at hl 2 rfl) ?_
      refine lv_aload_n C.1 C.2.1 dX7_liveSet_5 rfl (lv_at hl 0 rfl) ?_
      refine fm_geti C E lf_X7_23 hC_1 rfl dX7_liveSet_6 ?_
      refine lv_icmp_ge (tgt := 36) C.1 C.2.1 dX7_liveSet_9 (by decide) (fun hc9 => ?_) (fun hc9 => ?_)
      · have hf := fm_ip hf hc9
        refine lv_iload_n C.1 C.2.1 dX7_liveSet_36 rfl (lv_at hl 1 rfl) ?_
        obtain rfl := fm_rt1 hf
        exact fm_iret C E rfl rfl dX7_liveSet_37
      · have hf := fm_in' hf hc9
        refine lv_iload_n C.1 C.2.1 dX7_liveSet_12 rfl (lv_at hl 1 rfl) ?_
        refine lv_aload_n C.1 C.2.1 dX7_liveSet_13 rfl (lv_at hl 0 rfl) ?_
        refine lv_iload_n C.1 C.2.1 dX7_liveSet_14 rfl (lv_at hl 2 rfl) ?_
        obtain ⟨x15, hc15, hf⟩ := fm_bd hf
        refine fm_callV C E [.int _] [.int _] lm_X7_47 wk_X7_isLive (c_Scene_isLive l G _ _ _  hc15) hC_1 rfl rfl rfl hl.1 (by simp [Value.category]) ⟨⟨rfl, rfl⟩, by decide, by decide⟩ ⟨by decide, by decide⟩ dX7_liveSet_15 rfl (fun H locs E => ?_)
        refine W.eq (g2 := F0 m 18 ls (.int x15 :: [.int _])) rfl ?_
        refine lv_if_eq (tgt := 27) C.1 C.2.1 dX7_liveSet_18 (by decide) (fun hc18 => ?_) (fun hc18 => ?_)
        · have hf := fm_ip hf hc18
          refine lv_iconst (v := 0) C.1 C.2.1 dX7_liveSet_27 (by decide) ?_
          refine lv_ior C.1 C.2.1 dX7_liveSet_28 ?_
          refine lv_istore_n (lv' := [(1, .int _), (0, .ref _), (2, .int _)]) C.1 C.2.1 dX7_liveSet_29 rfl hl (by decide) rfl (fun ls hl => ?_)
          refine fm_iinc C (v := 1) (lv' := [(2, .int _), (1, .int _), (0, .ref _)]) (k := 2) hl rfl (by decide) (by decide) rfl dX7_liveSet_30 (fun ls hl => ?_)
          refine lv_goto (tgt := 4) C.1 C.2.1 dX7_liveSet_33 (by decide) ?_
          exact ih4 _ _ _ _ _ E (lv_sub hl [2, 1, 0] rfl) hf
        · have hf := fm_in' hf hc18
          refine lv_iconst (v := 1) C.1 C.2.1 dX7_liveSet_21 (by decide) ?_
          refine lv_iload_n C.1 C.2.1 dX7_liveSet_22 rfl (lv_at hl 2 rfl) ?_
          refine lv_ishl C.1 C.2.1 dX7_liveSet_23 ?_
          refine lv_goto (tgt := 28) C.1 C.2.1 dX7_liveSet_24 (by decide) ?_
          refine lv_ior C.1 C.2.1 dX7_liveSet_28 ?_
          refine lv_istore_n (lv' := [(1, .int _), (0, .ref _), (2, .int _)]) C.1 C.2.1 dX7_liveSet_29 rfl hl (by decide) rfl (fun ls hl => ?_)
          refine fm_iinc C (v := 1) (lv' := [(2, .int _), (1, .int _), (0, .ref _)]) (k := 2) hl rfl (by decide) (by decide) rfl dX7_liveSet_30 (fun ls hl => ?_)
          refine lv_goto (tgt := 4) C.1 C.2.1 dX7_liveSet_33 (by decide) ?_
          exact ih4 _ _ _ _ _ E (lv_sub hl [2, 1, 0] rfl) hf
  unfold pScene_liveSet at hf
  refine lv_iconst (v := 0) C.1 C.2.1 dX7_liveSet_0 (by decide) ?_
  refine lv_istore_n (lv' := [(1, .int _), (0, .ref _)]) C.1 C.2.1 dX7_liveSet_1 rfl hl (by decide) rfl (fun ls hl => ?_)
  refine lv_iconst (v := 0) C.1 C.2.1 dX7_liveSet_2 (by decide) ?_
  refine lv_istore_n (lv' := [(2, .int _), (1, .int _), (0, .ref _)]) C.1 C.2.1 dX7_liveSet_3 rfl hl (by decide) rfl (fun ls hl => ?_)
  exact L4  N _ _ _ _ _ E (lv_sub hl [2, 1, 0] rfl) hf
theorem dX7_sourcesFrom_0 : decode cX7_sourcesFrom 0 = .ok (.iconst 0, 1) := by decide +kernel
theorem dX7_sourcesFrom_1 : decode cX7_sourcesFrom 1 = .ok (.istore_n 2, 1) := by decide +kernel
theorem dX7_sourcesFrom_2 : decode cX7_sourcesFrom 2 = .ok (.iconst 0, 1) := by decide +kernel
theorem dX7_sourcesFrom_3 : decode cX7_sourcesFrom 3 = .ok (.istore_n 3, 1) := by decide +kernel
theorem dX7_sourcesFrom_4 : decode cX7_sourcesFrom 4 = .ok (.iload_n 3, 1) := by decide +kernel
theorem dX7_sourcesFrom_5 : decode cX7_sourcesFrom 5 = .ok (.aload_n 0, 1) := by decide +kernel
theorem dX7_sourcesFrom_6 : decode cX7_sourcesFrom 6 = .ok (.getfield 27, 3) := by decide +kernel
theorem dX7_sourcesFrom_9 : decode cX7_sourcesFrom 9 = .ok (.if_icmp .ge 31, 3) := by decide +kernel
theorem dX7_sourcesFrom_12 : decode cX7_sourcesFrom 12 = .ok (.iload_n 2, 1) := by decide +kernel
theorem dX7_sourcesFrom_13 : decode cX7_sourcesFrom 13 = .ok (.aload_n 0, 1) := by decide +kernel
theorem dX7_sourcesFrom_14 : decode cX7_sourcesFrom 14 = .ok (.getfield 16, 3) := by decide +kernel
theorem dX7_sourcesFrom_17 : decode cX7_sourcesFrom 17 = .ok (.iload_n 3, 1) := by decide +kernel
theorem dX7_sourcesFrom_18 : decode cX7_sourcesFrom 18 = .ok (.aaload, 1) := by decide +kernel
theorem dX7_sourcesFrom_19 : decode cX7_sourcesFrom 19 = .ok (.iconst 0, 1) := by decide +kernel
theorem dX7_sourcesFrom_20 : decode cX7_sourcesFrom 20 = .ok (.iaload, 1) := by decide +kernel
theorem dX7_sourcesFrom_21 : decode cX7_sourcesFrom 21 = .ok (.iload_n 1, 1) := by decide +kernel
theorem dX7_sourcesFrom_22 : decode cX7_sourcesFrom 22 = .ok (.if_icmp .ne 9, 3) := by decide +kernel
theorem dX7_sourcesFrom_25 : decode cX7_sourcesFrom 25 = .ok (.iconst 1, 1) := by decide +kernel
theorem dX7_sourcesFrom_26 : decode cX7_sourcesFrom 26 = .ok (.iload_n 3, 1) := by decide +kernel
theorem dX7_sourcesFrom_27 : decode cX7_sourcesFrom 27 = .ok (.ishl, 1) := by decide +kernel
theorem dX7_sourcesFrom_28 : decode cX7_sourcesFrom 28 = .ok (.goto 4, 3) := by decide +kernel
theorem dX7_sourcesFrom_31 : decode cX7_sourcesFrom 31 = .ok (.iconst 0, 1) := by decide +kernel
theorem dX7_sourcesFrom_32 : decode cX7_sourcesFrom 32 = .ok (.ior, 1) := by decide +kernel
theorem dX7_sourcesFrom_33 : decode cX7_sourcesFrom 33 = .ok (.istore_n 2, 1) := by decide +kernel
theorem dX7_sourcesFrom_34 : decode cX7_sourcesFrom 34 = .ok (.iinc 3 1, 3) := by decide +kernel
theorem dX7_sourcesFrom_37 : decode cX7_sourcesFrom 37 = .ok (.goto (-33), 3) := by decide +kernel
theorem dX7_sourcesFrom_40 : decode cX7_sourcesFrom 40 = .ok (.iload_n 2, 1) := by decide +kernel
theorem dX7_sourcesFrom_41 : decode cX7_sourcesFrom 41 = .ok (.ireturn, 1) := by decide +kernel
set_option maxHeartbeats 4000000 in
set_option maxRecDepth 100000 in
theorem c_Scene_sourcesFrom (l : Launch) (G : fm_G) (N : Nat) (M : fm_M) (v1 : Int32) (r : Int32) (hf : pScene_sourcesFrom N M v1 = some r) : fm_Met l yX7_sourcesFrom cX7_sourcesFrom 4 (some .int) { frames := 0, cells := 0, slots := 0, locals := 0 } shC G [.ref (G.2.1 1), .int v1] M (some (.int r)) M := by
  refine fm_enter (by decide) (Nat.le_of_ble_eq_true rfl) ?_
  intro p e s m args below meth c ls C E hl
  have hl : lv_has ls 4 [(0, .ref (G.2.1 1)), (1, .int v1)] := hl
  have L4 : ∀ (w4_v1 : Int32) (n4 : Nat) (v2 : Int32) (v3 : Int32) (H : Heap) (locs : List Loc) (ls : Array Slot), fm_Wd shC G M s H locs → lv_has ls 4 [(0, .ref (G.2.1 1)), (1, .int w4_v1), (2, .int v2), (3, .int v3)] → fm_lp (pScene_sourcesFrom_L4 N M w4_v1) n4 (v2, v3) = some r → W p l e { frames := 0, cells := 0, slots := 0, locals := 0 } s m args below meth c H locs 0 0 (fm_Z below shC G args s (some (.int r)) M) (F0 m 4 ls []) := by
    intro w4_v1 n4
    induction n4 with
    | zero => intro v2 v3 H locs ls E hl hf; exact fm_lp_0 hf
    | succ n4 ih4 =>
      intro v2 v3 H locs ls E hl hf
      have hf : pScene_sourcesFrom_L4b N M w4_v1 (fm_lp (pScene_sourcesFrom_L4 N M w4_v1) n4) v2 v3 = some r := hf
      unfold pScene_sourcesFrom_L4b at hf
      refine lv_iload_n C.1 C.2.1 dX7_sourcesFrom_4 rfl (lv_at hl 3 rfl) ?_
      refine lv_aload_n C.1 C.2.1 dX7_sourcesFrom_5 rfl (lv_at hl 0 rfl) ?_
      refine fm_geti C E lf_X7_27 hC_1 rfl dX7_sourcesFrom_6 ?_
      refine lv_icmp_ge (tgt := 40) C.1 C.2.1 dX7_sourcesFrom_9 (by decide) (fun hc9 => ?_) (fun hc9 => ?_)
      · have hf := fm_ip hf hc9
        refine lv_iload_n C.1 C.2.1 dX7_sourcesFrom_40 rfl (lv_at hl 2 rfl) ?_
        obtain rfl := fm_rt1 hf
        exact fm_iret C E rfl rfl dX7_sourcesFrom_41
      · have hf := fm_in' hf hc9
        refine lv_iload_n C.1 C.2.1 dX7_sourcesFrom_12 rfl (lv_at hl 2 rfl) ?_
        refine lv_aload_n C.1 C.2.1 dX7_sourcesFrom_13 rfl (lv_at hl 0 rfl) ?_
        refine fm_getr C E lf_X7_16 hC_1 rfl dX7_sourcesFrom_14 ?_
        refine lv_iload_n C.1 C.2.1 dX7_sourcesFrom_17 rfl (lv_at hl 3 rfl) ?_
        obtain ⟨q18, h18, k18, e18, hf⟩ := fm_ix_t tC_10 hf
        refine fm_aald C E hC_9 h18 (r := q18) (by rw [e18]; exact rC_10 _ (fm_in_lt h18)) dX7_sourcesFrom_18 ?_
        refine lv_iconst (v := 0) C.1 C.2.1 dX7_sourcesFrom_19 (by decide) ?_
        refine fm_ialdc C E 0 (by decide) k18 (by decide) dX7_sourcesFrom_20 ?_
        refine lv_iload_n C.1 C.2.1 dX7_sourcesFrom_21 rfl (lv_at hl 1 rfl) ?_
        refine lv_icmp_ne (tgt := 31) C.1 C.2.1 dX7_sourcesFrom_22 (by decide) (fun hc22 => ?_) (fun hc22 => ?_)
        · have hf := fm_in' hf hc22
          refine lv_iconst (v := 0) C.1 C.2.1 dX7_sourcesFrom_31 (by decide) ?_
          refine lv_ior C.1 C.2.1 dX7_sourcesFrom_32 ?_
          refine lv_istore_n (lv' := [(2, .int _), (0, .ref _), (1, .int _), (3, .int _)]) C.1 C.2.1 dX7_sourcesFrom_33 rfl hl (by decide) rfl (fun ls hl => ?_)
          refine fm_iinc C (v := 1) (lv' := [(3, .int _), (2, .int _), (0, .ref _), (1, .int _)]) (k := 3) hl rfl (by decide) (by decide) rfl dX7_sourcesFrom_34 (fun ls hl => ?_)
          refine lv_goto (tgt := 4) C.1 C.2.1 dX7_sourcesFrom_37 (by decide) ?_
          exact ih4 _ _ _ _ _ E (lv_sub hl [2, 3, 1, 0] rfl) hf
        · have hf := fm_ip hf hc22
          refine lv_iconst (v := 1) C.1 C.2.1 dX7_sourcesFrom_25 (by decide) ?_
          refine lv_iload_n C.1 C.2.1 dX7_sourcesFrom_26 rfl (lv_at hl 3 rfl) ?_
          refine lv_ishl C.1 C.2.1 dX7_sourcesFrom_27 ?_
          refine lv_goto (tgt := 32) C.1 C.2.1 dX7_sourcesFrom_28 (by decide) ?_
          refine lv_ior C.1 C.2.1 dX7_sourcesFrom_32 ?_
          refine lv_istore_n (lv' := [(2, .int _), (0, .ref _), (1, .int _), (3, .int _)]) C.1 C.2.1 dX7_sourcesFrom_33 rfl hl (by decide) rfl (fun ls hl => ?_)
          refine fm_iinc C (v := 1) (lv' := [(3, .int _), (2, .int _), (0, .ref _), (1, .int _)]) (k := 3) hl rfl (by decide) (by decide) rfl dX7_sourcesFrom_34 (fun ls hl => ?_)
          refine lv_goto (tgt := 4) C.1 C.2.1 dX7_sourcesFrom_37 (by decide) ?_
          exact ih4 _ _ _ _ _ E (lv_sub hl [2, 3, 1, 0] rfl) hf
  unfold pScene_sourcesFrom at hf
  refine lv_iconst (v := 0) C.1 C.2.1 dX7_sourcesFrom_0 (by decide) ?_
  refine lv_istore_n (lv' := [(2, .int _), (0, .ref _), (1, .int _)]) C.1 C.2.1 dX7_sourcesFrom_1 rfl hl (by decide) rfl (fun ls hl => ?_)
  refine lv_iconst (v := 0) C.1 C.2.1 dX7_sourcesFrom_2 (by decide) ?_
  refine lv_istore_n (lv' := [(3, .int _), (2, .int _), (0, .ref _), (1, .int _)]) C.1 C.2.1 dX7_sourcesFrom_3 rfl hl (by decide) rfl (fun ls hl => ?_)
  exact L4 _ N _ _ _ _ _ E (lv_sub hl [2, 3, 1, 0] rfl) hf
theorem dX7_addMic_0 : decode cX7_addMic 0 = .ok (.aload_n 0, 1) := by decide +kernel
theorem dX7_addMic_1 : decode cX7_addMic 1 = .ok (.getfield 23, 3) := by decide +kernel
theorem dX7_addMic_4 : decode cX7_addMic 4 = .ok (.bipush 6, 2) := by decide +kernel
theorem dX7_addMic_6 : decode cX7_addMic 6 = .ok (.if_icmp .lt 5, 3) := by decide +kernel
theorem dX7_addMic_9 : decode cX7_addMic 9 = .ok (.iconst 0, 1) := by decide +kernel
theorem dX7_addMic_10 : decode cX7_addMic 10 = .ok (.ireturn, 1) := by decide +kernel
theorem dX7_addMic_11 : decode cX7_addMic 11 = .ok (.iconst 1, 1) := by decide +kernel
theorem dX7_addMic_12 : decode cX7_addMic 12 = .ok (.istore_n 2, 1) := by decide +kernel
theorem dX7_addMic_13 : decode cX7_addMic 13 = .ok (.iload_n 2, 1) := by decide +kernel
theorem dX7_addMic_14 : decode cX7_addMic 14 = .ok (.iconst 5, 1) := by decide +kernel
theorem dX7_addMic_15 : decode cX7_addMic 15 = .ok (.if_icmp .gt 25, 3) := by decide +kernel
theorem dX7_addMic_18 : decode cX7_addMic 18 = .ok (.aload_n 0, 1) := by decide +kernel
theorem dX7_addMic_19 : decode cX7_addMic 19 = .ok (.getfield 11, 3) := by decide +kernel
theorem dX7_addMic_22 : decode cX7_addMic 22 = .ok (.iload_n 2, 1) := by decide +kernel
theorem dX7_addMic_23 : decode cX7_addMic 23 = .ok (.aaload, 1) := by decide +kernel
theorem dX7_addMic_24 : decode cX7_addMic 24 = .ok (.aload_n 0, 1) := by decide +kernel
theorem dX7_addMic_25 : decode cX7_addMic 25 = .ok (.getfield 23, 3) := by decide +kernel
theorem dX7_addMic_28 : decode cX7_addMic 28 = .ok (.getstatic 60, 3) := by decide +kernel
theorem dX7_addMic_31 : decode cX7_addMic 31 = .ok (.iload_n 2, 1) := by decide +kernel
theorem dX7_addMic_32 : decode cX7_addMic 32 = .ok (.iaload, 1) := by decide +kernel
theorem dX7_addMic_33 : decode cX7_addMic 33 = .ok (.iastore, 1) := by decide +kernel
theorem dX7_addMic_34 : decode cX7_addMic 34 = .ok (.iinc 2 1, 3) := by decide +kernel
theorem dX7_addMic_37 : decode cX7_addMic 37 = .ok (.goto (-24), 3) := by decide +kernel
theorem dX7_addMic_40 : decode cX7_addMic 40 = .ok (.aload_n 0, 1) := by decide +kernel
theorem dX7_addMic_41 : decode cX7_addMic 41 = .ok (.getfield 11, 3) := by decide +kernel
theorem dX7_addMic_44 : decode cX7_addMic 44 = .ok (.iconst 0, 1) := by decide +kernel
theorem dX7_addMic_45 : decode cX7_addMic 45 = .ok (.aaload, 1) := by decide +kernel
theorem dX7_addMic_46 : decode cX7_addMic 46 = .ok (.aload_n 0, 1) := by decide +kernel
theorem dX7_addMic_47 : decode cX7_addMic 47 = .ok (.getfield 23, 3) := by decide +kernel
theorem dX7_addMic_50 : decode cX7_addMic 50 = .ok (.iload_n 1, 1) := by decide +kernel
theorem dX7_addMic_51 : decode cX7_addMic 51 = .ok (.iastore, 1) := by decide +kernel
theorem dX7_addMic_52 : decode cX7_addMic 52 = .ok (.aload_n 0, 1) := by decide +kernel
theorem dX7_addMic_53 : decode cX7_addMic 53 = .ok (.dup, 1) := by decide +kernel
theorem dX7_addMic_54 : decode cX7_addMic 54 = .ok (.getfield 23, 3) := by decide +kernel
theorem dX7_addMic_57 : decode cX7_addMic 57 = .ok (.iconst 1, 1) := by decide +kernel
theorem dX7_addMic_58 : decode cX7_addMic 58 = .ok (.iadd, 1) := by decide +kernel
theorem dX7_addMic_59 : decode cX7_addMic 59 = .ok (.putfield 23, 3) := by decide +kernel
theorem dX7_addMic_62 : decode cX7_addMic 62 = .ok (.iconst 1, 1) := by decide +kernel
theorem dX7_addMic_63 : decode cX7_addMic 63 = .ok (.ireturn, 1) := by decide +kernel
set_option maxHeartbeats 4000000 in
set_option maxRecDepth 100000 in
theorem c_Scene_addMic (l : Launch) (G : fm_G) (N : Nat) (M : fm_M) (v1 : Int32) (r : Int32) (M' : fm_M) (hf : pScene_addMic N M v1 = some (r, M')) : fm_Met l yX7_addMic cX7_addMic 3 (some .boolean) { frames := 0, cells := 0, slots := 0, locals := 0 } shC G [.ref (G.2.1 1), .int v1] M (some (.int r)) M' := by
  refine fm_enter (by decide) (Nat.le_of_ble_eq_true rfl) ?_
  intro p e s m args below meth c ls C E hl
  have hl : lv_has ls 3 [(0, .ref (G.2.1 1)), (1, .int v1)] := hl
  have L13 : ∀ (w13_v1 : Int32) (n13 : Nat) (v2 : Int32) (M : fm_M) (H : Heap) (locs : List Loc) (ls : Array Slot), fm_Wd shC G M s H locs → lv_has ls 3 [(0, .ref (G.2.1 1)), (1, .int w13_v1), (2, .int v2)] → fm_lp (pScene_addMic_L13 N w13_v1) n13 (v2, M) = some (r, M') → W p l e { frames := 0, cells := 0, slots := 0, locals := 0 } s m args below meth c H locs 0 0 (fm_Z below shC G args s (some (.int r)) M') (F0 m 13 ls []) := by
    intro w13_v1 n13
    induction n13 with
    | zero => intro v2 M H locs ls E hl hf; exact fm_lp_0 hf
    | succ n13 ih13 =>
      intro v2 M H locs ls E hl hf
      have hf : pScene_addMic_L13b N w13_v1 (fm_lp (pScene_addMic_L13 N w13_v1) n13) v2 M = some (r, M') := hf
      unfold pScene_addMic_L13b at hf
      refine lv_iload_n C.1 C.2.1 dX7_addMic_13 rfl (lv_at hl 2 rfl) ?_
      refine lv_iconst (v := 5) C.1 C.2.1 dX7_addMic_14 (by decide) ?_
      refine lv_icmp_gt (tgt := 40) C.1 C.2.1 dX7_addMic_15 (by decide) (fun hc15 => ?_) (fun hc15 => ?_)
      · have hf := fm_ip hf hc15
        refine lv_aload_n C.1 C.2.1 dX7_addMic_40 rfl (lv_at hl 0 rfl) ?_
        refine fm_getr C E lf_X7_11 hC_1 rfl dX7_addMic_41 ?_
        refine lv_iconst (v := 0) C.1 C.2.1 dX7_addMic_44 (by decide) ?_
        refine fm_aald C E hC_2 (by decide) (r := 3) (by decide) dX7_addMic_45 ?_
        refine lv_aload_n C.1 C.2.1 dX7_addMic_46 rfl (lv_at hl 0 rfl) ?_
        refine fm_geti C E lf_X7_23 hC_1 rfl dX7_addMic_47 ?_
        refine lv_iload_n C.1 C.2.1 dX7_addMic_50 rfl (lv_at hl 1 rfl) ?_
        obtain ⟨h51, M51, e51, hf⟩ := fm_st_e hf
        refine fm_iast' C E e51 hC_3 h51 dX7_addMic_51 (fun H locs E => ?_)
        refine lv_aload_n C.1 C.2.1 dX7_addMic_52 rfl (lv_at hl 0 rfl) ?_
        refine lv_dup C.1 C.2.1 dX7_addMic_53 rfl ?_
        refine fm_geti C E lf_X7_23 hC_1 rfl dX7_addMic_54 ?_
        refine lv_iconst (v := 1) C.1 C.2.1 dX7_addMic_57 (by decide) ?_
        refine lv_iadd C.1 C.2.1 dX7_addMic_58 ?_
        obtain ⟨M59, e59, hf⟩ := fm_pt_s hf
        refine fm_put' C E e59 lp_X7_23 hC_1 rfl dX7_addMic_59 (fun H locs E => ?_)
        refine lv_iconst (v := 1) C.1 C.2.1 dX7_addMic_62 (by decide) ?_
        obtain ⟨rfl, rfl⟩ := fm_rt2 hf
        exact fm_iret C E rfl rfl dX7_addMic_63
      · have hf := fm_in' hf hc15
        refine lv_aload_n C.1 C.2.1 dX7_addMic_18 rfl (lv_at hl 0 rfl) ?_
        refine fm_getr C E lf_X7_11 hC_1 rfl dX7_addMic_19 ?_
        refine lv_iload_n C.1 C.2.1 dX7_addMic_22 rfl (lv_at hl 2 rfl) ?_
        obtain ⟨q23, h23, k23, e23, hf⟩ := fm_ix_t tC_3 hf
        refine fm_aald C E hC_2 h23 (r := q23) (by rw [e23]; exact rC_3 _ (fm_in_lt h23)) dX7_addMic_23 ?_
        refine lv_aload_n C.1 C.2.1 dX7_addMic_24 rfl (lv_at hl 0 rfl) ?_
        refine fm_geti C E lf_X7_23 hC_1 rfl dX7_addMic_25 ?_
        refine fm_gets C E (List.mem_of_getElem? (l := fm_Zs) (i := 2) rfl) (Or.inr ⟨_, wf_396⟩) dX7_addMic_28 (fun t28 hT28 => ?_)
        refine lv_iload_n C.1 C.2.1 dX7_addMic_31 rfl (lv_at hl 2 rfl) ?_
        obtain ⟨h32, hf⟩ := fm_ix_s hf
        refine fm_tld C E hT28 h32 dX7_addMic_32 ?_
        obtain ⟨h33, M33, e33, hf⟩ := fm_st_e hf
        refine fm_iast' C E e33 k23 h33 dX7_addMic_33 (fun H locs E => ?_)
        refine fm_iinc C (v := 1) (lv' := [(2, .int _), (0, .ref _), (1, .int _)]) (k := 2) hl rfl (by decide) (by decide) rfl dX7_addMic_34 (fun ls hl => ?_)
        refine lv_goto (tgt := 13) C.1 C.2.1 dX7_addMic_37 (by decide) ?_
        exact ih13 _ _ _ _ _ E (lv_sub hl [1, 2, 0] rfl) hf
  unfold pScene_addMic at hf
  refine lv_aload_n C.1 C.2.1 dX7_addMic_0 rfl (lv_at hl 0 rfl) ?_
  refine fm_geti C E lf_X7_23 hC_1 rfl dX7_addMic_1 ?_
  refine lv_bipush (v := 6) C.1 C.2.1 dX7_addMic_4 (by decide) ?_
  refine lv_icmp_lt (tgt := 11) C.1 C.2.1 dX7_addMic_6 (by decide) (fun hc6 => ?_) (fun hc6 => ?_)
  · have hf := fm_ip hf hc6
    refine lv_iconst (v := 1) C.1 C.2.1 dX7_addMic_11 (by decide) ?_
    refine lv_istore_n (lv' := [(2, .int _), (0, .ref _), (1, .int _)]) C.1 C.2.1 dX7_addMic_12 rfl hl (by decide) rfl (fun ls hl => ?_)
    exact L13 _ N _ _ _ _ _ E (lv_sub hl [1, 2, 0] rfl) hf
  · have hf := fm_in' hf hc6
    refine lv_iconst (v := 0) C.1 C.2.1 dX7_addMic_9 (by decide) ?_
    obtain ⟨rfl, rfl⟩ := fm_rt2 hf
    exact fm_iret C E rfl rfl dX7_addMic_10
theorem dX7_drop_0 : decode cX7_drop 0 = .ok (.aload_n 0, 1) := by decide +kernel
theorem dX7_drop_1 : decode cX7_drop 1 = .ok (.iload_n 1, 1) := by decide +kernel
theorem dX7_drop_2 : decode cX7_drop 2 = .ok (.invokevirtual 44, 3) := by decide +kernel
theorem dX7_drop_5 : decode cX7_drop 5 = .ok (.ifCond .ne 5, 3) := by decide +kernel
theorem dX7_drop_8 : decode cX7_drop 8 = .ok (.iconst (-1), 1) := by decide +kernel
theorem dX7_drop_9 : decode cX7_drop 9 = .ok (.ireturn, 1) := by decide +kernel
theorem dX7_drop_10 : decode cX7_drop 10 = .ok (.iload_n 1, 1) := by decide +kernel
theorem dX7_drop_11 : decode cX7_drop 11 = .ok (.istore_n 2, 1) := by decide +kernel
theorem dX7_drop_12 : decode cX7_drop 12 = .ok (.iload_n 2, 1) := by decide +kernel
theorem dX7_drop_13 : decode cX7_drop 13 = .ok (.iconst 1, 1) := by decide +kernel
theorem dX7_drop_14 : decode cX7_drop 14 = .ok (.iadd, 1) := by decide +kernel
theorem dX7_drop_15 : decode cX7_drop 15 = .ok (.aload_n 0, 1) := by decide +kernel
theorem dX7_drop_16 : decode cX7_drop 16 = .ok (.getfield 27, 3) := by decide +kernel
theorem dX7_drop_19 : decode cX7_drop 19 = .ok (.if_icmp .ge 30, 3) := by decide +kernel
theorem dX7_drop_22 : decode cX7_drop 22 = .ok (.aload_n 0, 1) := by decide +kernel
theorem dX7_drop_23 : decode cX7_drop 23 = .ok (.getfield 16, 3) := by decide +kernel
theorem dX7_drop_26 : decode cX7_drop 26 = .ok (.iload_n 2, 1) := by decide +kernel
theorem dX7_drop_27 : decode cX7_drop 27 = .ok (.iconst 1, 1) := by decide +kernel
theorem dX7_drop_28 : decode cX7_drop 28 = .ok (.iadd, 1) := by decide +kernel
theorem dX7_drop_29 : decode cX7_drop 29 = .ok (.aaload, 1) := by decide +kernel
theorem dX7_drop_30 : decode cX7_drop 30 = .ok (.iconst 0, 1) := by decide +kernel
theorem dX7_drop_31 : decode cX7_drop 31 = .ok (.aload_n 0, 1) := by decide +kernel
theorem dX7_drop_32 : decode cX7_drop 32 = .ok (.getfield 16, 3) := by decide +kernel
theorem dX7_drop_35 : decode cX7_drop 35 = .ok (.iload_n 2, 1) := by decide +kernel
theorem dX7_drop_36 : decode cX7_drop 36 = .ok (.aaload, 1) := by decide +kernel
theorem dX7_drop_37 : decode cX7_drop 37 = .ok (.iconst 0, 1) := by decide +kernel
theorem dX7_drop_38 : decode cX7_drop 38 = .ok (.bipush 15, 2) := by decide +kernel
theorem dX7_drop_40 : decode cX7_drop 40 = .ok (.invokestatic 30, 3) := by decide +kernel
theorem dX7_drop_43 : decode cX7_drop 43 = .ok (.iinc 2 1, 3) := by decide +kernel
theorem dX7_drop_46 : decode cX7_drop 46 = .ok (.goto (-34), 3) := by decide +kernel
theorem dX7_drop_49 : decode cX7_drop 49 = .ok (.aload_n 0, 1) := by decide +kernel
theorem dX7_drop_50 : decode cX7_drop 50 = .ok (.dup, 1) := by decide +kernel
theorem dX7_drop_51 : decode cX7_drop 51 = .ok (.getfield 27, 3) := by decide +kernel
theorem dX7_drop_54 : decode cX7_drop 54 = .ok (.iconst 1, 1) := by decide +kernel
theorem dX7_drop_55 : decode cX7_drop 55 = .ok (.isub, 1) := by decide +kernel
theorem dX7_drop_56 : decode cX7_drop 56 = .ok (.putfield 27, 3) := by decide +kernel
theorem dX7_drop_59 : decode cX7_drop 59 = .ok (.aload_n 0, 1) := by decide +kernel
theorem dX7_drop_60 : decode cX7_drop 60 = .ok (.getfield 27, 3) := by decide +kernel
theorem dX7_drop_63 : decode cX7_drop 63 = .ok (.ireturn, 1) := by decide +kernel
set_option maxHeartbeats 4000000 in
set_option maxRecDepth 100000 in
theorem c_Scene_drop (l : Launch) (G : fm_G) (N : Nat) (M : fm_M) (v1 : Int32) (r : Int32) (M' : fm_M) (hf : pScene_drop N M v1 = some (r, M')) : fm_Met l yX7_drop cX7_drop 3 (some .int) { frames := 1, cells := 0, slots := 0, locals := 26 } shC G [.ref (G.2.1 1), .int v1] M (some (.int r)) M' := by
  refine fm_enter (by decide) (Nat.le_of_ble_eq_true rfl) ?_
  intro p e s m args below meth c ls C E hl
  have hl : lv_has ls 3 [(0, .ref (G.2.1 1)), (1, .int v1)] := hl
  have L12 : ∀ (n12 : Nat) (v2 : Int32) (M : fm_M) (H : Heap) (locs : List Loc) (ls : Array Slot), fm_Wd shC G M s H locs → lv_has ls 3 [(0, .ref (G.2.1 1)), (2, .int v2)] → fm_lp (pScene_drop_L12 N) n12 (v2, M) = some (r, M') → W p l e { frames := 1, cells := 0, slots := 0, locals := 26 } s m args below meth c H locs 0 0 (fm_Z below shC G args s (some (.int r)) M') (F0 m 12 ls []) := by
    intro  n12
    induction n12 with
    | zero => intro v2 M H locs ls E hl hf; exact fm_lp_0 hf
    | succ n12 ih12 =>
      intro v2 M H locs ls E hl hf
      have hf : pScene_drop_L12b N (fm_lp (pScene_drop_L12 N) n12) v2 M = some (r, M') := hf
      unfold pScene_drop_L12b at hf
      refine lv_iload_n C.1 C.2.1 dX7_drop_12 rfl (lv_at hl 1 rfl) ?_
      refine lv_iconst (v := 1) C.1 C.2.1 dX7_drop_13 (by decide) ?_
      refine lv_iadd C.1 C.2.1 dX7_drop_14 ?_
      refine lv_aload_n C.1 C.2.1 dX7_drop_15 rfl (lv_at hl 0 rfl) ?_
      refine fm_geti C E lf_X7_27 hC_1 rfl dX7_drop_16 ?_
      refine lv_icmp_ge (tgt := 49) C.1 C.2.1 dX7_drop_19 (by decide) (fun hc19 => ?_) (fun hc19 => ?_)
      · have hf := fm_ip hf hc19
        refine lv_aload_n C.1 C.2.1 dX7_drop_49 rfl (lv_at hl 0 rfl) ?_
        refine lv_dup C.1 C.2.1 dX7_drop_50 rfl ?_
        refine fm_geti C E lf_X7_27 hC_1 rfl dX7_drop_51 ?_
        refine lv_iconst (v := 1) C.1 C.2.1 dX7_drop_54 (by decide) ?_
        refine lv_isub C.1 C.2.1 dX7_drop_55 ?_
        obtain ⟨M56, e56, hf⟩ := fm_pt_s hf
        refine fm_put' C E e56 lp_X7_27 hC_1 rfl dX7_drop_56 (fun H locs E => ?_)
        refine lv_aload_n C.1 C.2.1 dX7_drop_59 rfl (lv_at hl 0 rfl) ?_
        refine fm_geti C E lf_X7_27 hC_1 rfl dX7_drop_60 ?_
        obtain ⟨rfl, rfl⟩ := fm_rt2 hf
        exact fm_iret C E rfl rfl dX7_drop_63
      · have hf := fm_in' hf hc19
        refine lv_aload_n C.1 C.2.1 dX7_drop_22 rfl (lv_at hl 0 rfl) ?_
        refine fm_getr C E lf_X7_16 hC_1 rfl dX7_drop_23 ?_
        refine lv_iload_n C.1 C.2.1 dX7_drop_26 rfl (lv_at hl 1 rfl) ?_
        refine lv_iconst (v := 1) C.1 C.2.1 dX7_drop_27 (by decide) ?_
        refine lv_iadd C.1 C.2.1 dX7_drop_28 ?_
        obtain ⟨q29, h29, k29, e29, hf⟩ := fm_ix_t tC_10 hf
        refine fm_aald C E hC_9 h29 (r := q29) (by rw [e29]; exact rC_10 _ (fm_in_lt h29)) dX7_drop_29 ?_
        refine lv_iconst (v := 0) C.1 C.2.1 dX7_drop_30 (by decide) ?_
        refine lv_aload_n C.1 C.2.1 dX7_drop_31 rfl (lv_at hl 0 rfl) ?_
        refine fm_getr C E lf_X7_16 hC_1 rfl dX7_drop_32 ?_
        refine lv_iload_n C.1 C.2.1 dX7_drop_35 rfl (lv_at hl 1 rfl) ?_
        obtain ⟨q36, h36, k36, e36, hf⟩ := fm_ix_t tC_10 hf
        refine fm_aald C E hC_9 h36 (r := q36) (by rw [e36]; exact rC_10 _ (fm_in_lt h36)) dX7_drop_36 ?_
        refine lv_iconst (v := 0) C.1 C.2.1 dX7_drop_37 (by decide) ?_
        refine lv_bipush (v := 15) C.1 C.2.1 dX7_drop_38 (by decide) ?_
        obtain ⟨M40, e40, hf⟩ := fm_cp_s hf
        refine fm_copy' C E e40 wv_copy wm_367 hl.1 ⟨by decide, by decide⟩ (by simp [Value.category]) k29 k36 (by decide) (by decide) (by decide) (by decide) dX7_drop_40 (fun H locs E => ?_)
        refine fm_iinc C (v := 1) (lv' := [(2, .int _), (0, .ref _)]) (k := 1) hl rfl (by decide) (by decide) rfl dX7_drop_43 (fun ls hl => ?_)
        refine lv_goto (tgt := 12) C.1 C.2.1 dX7_drop_46 (by decide) ?_
        exact ih12 _ _ _ _ _ E (lv_sub hl [1, 0] rfl) hf
  unfold pScene_drop at hf
  refine lv_aload_n C.1 C.2.1 dX7_drop_0 rfl (lv_at hl 0 rfl) ?_
  refine lv_iload_n C.1 C.2.1 dX7_drop_1 rfl (lv_at hl 1 rfl) ?_
  obtain ⟨x2, hc2, hf⟩ := fm_bd hf
  refine fm_callV C E [.int _] [] lm_X7_44 wk_X7_hasSource (c_Scene_hasSource l G _ _ _  hc2) hC_1 rfl rfl rfl hl.1 (by simp [Value.category]) ⟨⟨rfl, rfl⟩, by decide, by decide⟩ ⟨by decide, by decide⟩ dX7_drop_2 rfl (fun H locs E => ?_)
  refine W.eq (g2 := F0 m 5 ls (.int x2 :: [])) rfl ?_
  refine lv_if_ne (tgt := 10) C.1 C.2.1 dX7_drop_5 (by decide) (fun hc5 => ?_) (fun hc5 => ?_)
  · have hf := fm_in' hf hc5
    refine lv_iload_n C.1 C.2.1 dX7_drop_10 rfl (lv_at hl 1 rfl) ?_
    refine lv_istore_n (lv' := [(2, .int _), (0, .ref _), (1, .int _)]) C.1 C.2.1 dX7_drop_11 rfl hl (by decide) rfl (fun ls hl => ?_)
    exact L12  N _ _ _ _ _ E (lv_sub hl [1, 0] rfl) hf
  · have hf := fm_ip hf hc5
    refine lv_iconst (v := (-1)) C.1 C.2.1 dX7_drop_8 (by decide) ?_
    obtain ⟨rfl, rfl⟩ := fm_rt2 hf
    exact fm_iret C E rfl rfl dX7_drop_9
theorem dX8_clear_0 : decode cX8_clear 0 = .ok (.aload_n 0, 1) := by decide +kernel
theorem dX8_clear_1 : decode cX8_clear 1 = .ok (.iconst 0, 1) := by decide +kernel
theorem dX8_clear_2 : decode cX8_clear 2 = .ok (.putfield 15, 3) := by decide +kernel
theorem dX8_clear_5 : decode cX8_clear 5 = .ok (.return_, 1) := by decide +kernel
set_option maxHeartbeats 4000000 in
set_option maxRecDepth 100000 in
theorem c_Told_clear (l : Launch) (G : fm_G) (M : fm_M) (M' : fm_M) (hf : pTold_clear M = some M') : fm_Met l yX8_clear cX8_clear 1 none { frames := 0, cells := 0, slots := 0, locals := 0 } shC G [.ref (G.2.1 176)] M none M' := by
  refine fm_enter (by decide) (Nat.le_of_ble_eq_true rfl) ?_
  intro p e s m args below meth c ls C E hl
  have hl : lv_has ls 1 [(0, .ref (G.2.1 176))] := hl
  unfold pTold_clear at hf
  refine lv_aload_n C.1 C.2.1 dX8_clear_0 rfl (lv_at hl 0 rfl) ?_
  refine lv_iconst (v := 0) C.1 C.2.1 dX8_clear_1 (by decide) ?_
  obtain ⟨M2, e2, hf⟩ := fm_pt_s hf
  refine fm_put' C E e2 lp_X8_15 hC_176 rfl dX8_clear_2 (fun H locs E => ?_)
  obtain rfl := fm_rt1 hf
  exact fm_vret C E rfl dX8_clear_5
theorem dX8_add_0 : decode cX8_add 0 = .ok (.aload_n 0, 1) := by decide +kernel
theorem dX8_add_1 : decode cX8_add 1 = .ok (.getfield 15, 3) := by decide +kernel
theorem dX8_add_4 : decode cX8_add 4 = .ok (.aload_n 0, 1) := by decide +kernel
theorem dX8_add_5 : decode cX8_add 5 = .ok (.getfield 9, 3) := by decide +kernel
theorem dX8_add_8 : decode cX8_add 8 = .ok (.arraylength, 1) := by decide +kernel
theorem dX8_add_9 : decode cX8_add 9 = .ok (.if_icmp .ge 23, 3) := by decide +kernel
theorem dX8_add_12 : decode cX8_add 12 = .ok (.aload_n 0, 1) := by decide +kernel
theorem dX8_add_13 : decode cX8_add 13 = .ok (.getfield 9, 3) := by decide +kernel
theorem dX8_add_16 : decode cX8_add 16 = .ok (.aload_n 0, 1) := by decide +kernel
theorem dX8_add_17 : decode cX8_add 17 = .ok (.getfield 15, 3) := by decide +kernel
theorem dX8_add_20 : decode cX8_add 20 = .ok (.lload_n 1, 1) := by decide +kernel
theorem dX8_add_21 : decode cX8_add 21 = .ok (.lastore, 1) := by decide +kernel
theorem dX8_add_22 : decode cX8_add 22 = .ok (.aload_n 0, 1) := by decide +kernel
theorem dX8_add_23 : decode cX8_add 23 = .ok (.dup, 1) := by decide +kernel
theorem dX8_add_24 : decode cX8_add 24 = .ok (.getfield 15, 3) := by decide +kernel
theorem dX8_add_27 : decode cX8_add 27 = .ok (.iconst 1, 1) := by decide +kernel
theorem dX8_add_28 : decode cX8_add 28 = .ok (.iadd, 1) := by decide +kernel
theorem dX8_add_29 : decode cX8_add 29 = .ok (.putfield 15, 3) := by decide +kernel
theorem dX8_add_32 : decode cX8_add 32 = .ok (.return_, 1) := by decide +kernel
set_option maxHeartbeats 4000000 in
set_option maxRecDepth 100000 in
theorem c_Told_add (l : Launch) (G : fm_G) (M : fm_M) (v1 : Int64) (M' : fm_M) (hf : pTold_add M v1 = some M') : fm_Met l yX8_add cX8_add 3 none { frames := 0, cells := 0, slots := 0, locals := 0 } shC G [.ref (G.2.1 176), .long v1] M none M' := by
  refine fm_enter (by decide) (Nat.le_of_ble_eq_true rfl) ?_
  intro p e s m args below meth c ls C E hl
  have hl : lv_has ls 3 [(0, .ref (G.2.1 176)), (1, .long v1)] := hl
  unfold pTold_add at hf
  refine lv_aload_n C.1 C.2.1 dX8_add_0 rfl (lv_at hl 0 rfl) ?_
  refine fm_geti C E lf_X8_15 hC_176 rfl dX8_add_1 ?_
  refine lv_aload_n C.1 C.2.1 dX8_add_4 rfl (lv_at hl 0 rfl) ?_
  refine fm_getr C E lf_X8_9 hC_176 rfl dX8_add_5 ?_
  refine fm_alen C E hC_177 (by decide) (v := 17) (by decide) dX8_add_8 ?_
  refine lv_icmp_ge (tgt := 32) C.1 C.2.1 dX8_add_9 (by decide) (fun hc9 => ?_) (fun hc9 => ?_)
  · have hf := fm_ip hf hc9
    obtain rfl := fm_rt1 hf
    exact fm_vret C E rfl dX8_add_32
  · have hf := fm_in' hf hc9
    refine lv_aload_n C.1 C.2.1 dX8_add_12 rfl (lv_at hl 0 rfl) ?_
    refine fm_getr C E lf_X8_9 hC_176 rfl dX8_add_13 ?_
    refine lv_aload_n C.1 C.2.1 dX8_add_16 rfl (lv_at hl 0 rfl) ?_
    refine fm_geti C E lf_X8_15 hC_176 rfl dX8_add_17 ?_
    refine lv_lload_n C.1 C.2.1 dX8_add_20 rfl (lv_at hl 1 rfl) ?_
    obtain ⟨h21, M21, e21, hf⟩ := fm_stl_e hf
    refine fm_last' C E e21 hC_177 h21 dX8_add_21 (fun H locs E => ?_)
    refine lv_aload_n C.1 C.2.1 dX8_add_22 rfl (lv_at hl 0 rfl) ?_
    refine lv_dup C.1 C.2.1 dX8_add_23 rfl ?_
    refine fm_geti C E lf_X8_15 hC_176 rfl dX8_add_24 ?_
    refine lv_iconst (v := 1) C.1 C.2.1 dX8_add_27 (by decide) ?_
    refine lv_iadd C.1 C.2.1 dX8_add_28 ?_
    obtain ⟨M29, e29, hf⟩ := fm_pt_s hf
    refine fm_put' C E e29 lp_X8_15 hC_176 rfl dX8_add_29 (fun H locs E => ?_)
    obtain rfl := fm_rt1 hf
    exact fm_vret C E rfl dX8_add_32
theorem dX9_sign_0 : decode cX9_sign 0 = .ok (.aload_n 0, 1) := by decide +kernel
theorem dX9_sign_1 : decode cX9_sign 1 = .ok (.getfield 37, 3) := by decide +kernel
theorem dX9_sign_4 : decode cX9_sign 4 = .ok (.iload_n 1, 1) := by decide +kernel
theorem dX9_sign_5 : decode cX9_sign 5 = .ok (.invokevirtual 91, 3) := by decide +kernel
theorem dX9_sign_8 : decode cX9_sign 8 = .ok (.ireturn, 1) := by decide +kernel
set_option maxHeartbeats 4000000 in
set_option maxRecDepth 100000 in
theorem c_MicRow_sign (l : Launch) (G : fm_G) (N : Nat) (M : fm_M) (v1 : Int32) (r : Int32) (M' : fm_M) (hf : pMicRow_sign N M v1 = some (r, M')) : fm_Met l yX9_sign cX9_sign 2 (some .int) { frames := 1, cells := 0, slots := 0, locals := 22 } shC G [.ref (G.2.1 0), .int v1] M (some (.int r)) M' := by
  refine fm_enter (by decide) (Nat.le_of_ble_eq_true rfl) ?_
  intro p e s m args below meth c ls C E hl
  have hl : lv_has ls 2 [(0, .ref (G.2.1 0)), (1, .int v1)] := hl
  unfold pMicRow_sign at hf
  refine lv_aload_n C.1 C.2.1 dX9_sign_0 rfl (lv_at hl 0 rfl) ?_
  refine fm_getr C E lf_X9_37 hC_0 rfl dX9_sign_1 ?_
  refine lv_iload_n C.1 C.2.1 dX9_sign_4 rfl (lv_at hl 1 rfl) ?_
  obtain ⟨⟨x5, M5⟩, hc5, hf⟩ := fm_bd hf
  dsimp only at hf
  refine fm_callV C E [.int _] [] lm_X9_91 wk_X4_addFour (c_Letters_addFour l G N _ _ _ _ hc5) hC_173 rfl rfl rfl hl.1 (by simp [Value.category]) ⟨⟨rfl, rfl⟩, by decide, by decide⟩ ⟨by decide, by decide⟩ dX9_sign_5 rfl (fun H locs E => ?_)
  refine W.eq (g2 := F0 m 8 ls (.int x5 :: [])) rfl ?_
  obtain ⟨rfl, rfl⟩ := fm_rt2 hf
  exact fm_iret C E rfl rfl dX9_sign_8
theorem dX9_end_0 : decode cX9_end 0 = .ok (.aload_n 0, 1) := by decide +kernel
theorem dX9_end_1 : decode cX9_end 1 = .ok (.getfield 37, 3) := by decide +kernel
theorem dX9_end_4 : decode cX9_end 4 = .ok (.iload_n 1, 1) := by decide +kernel
theorem dX9_end_5 : decode cX9_end 5 = .ok (.invokevirtual 95, 3) := by decide +kernel
theorem dX9_end_8 : decode cX9_end 8 = .ok (.ireturn, 1) := by decide +kernel
set_option maxHeartbeats 4000000 in
set_option maxRecDepth 100000 in
theorem c_MicRow_end (l : Launch) (G : fm_G) (M : fm_M) (v1 : Int32) (r : Int32) (M' : fm_M) (hf : pMicRow_end M v1 = some (r, M')) : fm_Met l yX9_end cX9_end 2 (some .boolean) { frames := 1, cells := 0, slots := 0, locals := 21 } shC G [.ref (G.2.1 0), .int v1] M (some (.int r)) M' := by
  refine fm_enter (by decide) (Nat.le_of_ble_eq_true rfl) ?_
  intro p e s m args below meth c ls C E hl
  have hl : lv_has ls 2 [(0, .ref (G.2.1 0)), (1, .int v1)] := hl
  unfold pMicRow_end at hf
  refine lv_aload_n C.1 C.2.1 dX9_end_0 rfl (lv_at hl 0 rfl) ?_
  refine fm_getr C E lf_X9_37 hC_0 rfl dX9_end_1 ?_
  refine lv_iload_n C.1 C.2.1 dX9_end_4 rfl (lv_at hl 1 rfl) ?_
  obtain ⟨⟨x5, M5⟩, hc5, hf⟩ := fm_bd hf
  dsimp only at hf
  refine fm_callV C E [.int _] [] lm_X9_95 wk_X4_cutTo (c_Letters_cutTo l G _ _ _ _ hc5) hC_173 rfl rfl rfl hl.1 (by simp [Value.category]) ⟨⟨rfl, rfl⟩, by decide, by decide⟩ ⟨by decide, by decide⟩ dX9_end_5 rfl (fun H locs E => ?_)
  refine W.eq (g2 := F0 m 8 ls (.int x5 :: [])) rfl ?_
  obtain ⟨hn8, hf⟩ := fm_bo_s hf
  obtain ⟨rfl, rfl⟩ := fm_rt2 hf
  exact fm_iret C E rfl hn8 dX9_end_8
theorem dX9_narrowed_0 : decode cX9_narrowed 0 = .ok (.iload_n 0, 1) := by decide +kernel
theorem dX9_narrowed_1 : decode cX9_narrowed 1 = .ok (.ifCond .ne 6, 3) := by decide +kernel
theorem dX9_narrowed_4 : decode cX9_narrowed 4 = .ok (.iload_n 1, 1) := by decide +kernel
theorem dX9_narrowed_5 : decode cX9_narrowed 5 = .ok (.i2b, 1) := by decide +kernel
theorem dX9_narrowed_6 : decode cX9_narrowed 6 = .ok (.ireturn, 1) := by decide +kernel
theorem dX9_narrowed_7 : decode cX9_narrowed 7 = .ok (.iload_n 0, 1) := by decide +kernel
theorem dX9_narrowed_8 : decode cX9_narrowed 8 = .ok (.iconst 1, 1) := by decide +kernel
theorem dX9_narrowed_9 : decode cX9_narrowed 9 = .ok (.if_icmp .ne 8, 3) := by decide +kernel
theorem dX9_narrowed_12 : decode cX9_narrowed 12 = .ok (.iload_n 1, 1) := by decide +kernel
theorem dX9_narrowed_13 : decode cX9_narrowed 13 = .ok (.i2s, 1) := by decide +kernel
theorem dX9_narrowed_14 : decode cX9_narrowed 14 = .ok (.goto 4, 3) := by decide +kernel
theorem dX9_narrowed_17 : decode cX9_narrowed 17 = .ok (.iload_n 1, 1) := by decide +kernel
theorem dX9_narrowed_18 : decode cX9_narrowed 18 = .ok (.ireturn, 1) := by decide +kernel
set_option maxHeartbeats 4000000 in
set_option maxRecDepth 100000 in
theorem c_MicRow_narrowed (l : Launch) (G : fm_G) (M : fm_M) (v0 : Int32) (v1 : Int32) (r : Int32) (hf : pMicRow_narrowed M v0 v1 = some r) : fm_Met l yX9_narrowed cX9_narrowed 2 (some .int) { frames := 0, cells := 0, slots := 0, locals := 0 } shC G [.int v0, .int v1] M (some (.int r)) M := by
  refine fm_enter (by decide) (Nat.le_of_ble_eq_true rfl) ?_
  intro p e s m args below meth c ls C E hl
  have hl : lv_has ls 2 [(0, .int v0), (1, .int v1)] := hl
  unfold pMicRow_narrowed at hf
  refine lv_iload_n C.1 C.2.1 dX9_narrowed_0 rfl (lv_at hl 0 rfl) ?_
  refine lv_if_ne (tgt := 7) C.1 C.2.1 dX9_narrowed_1 (by decide) (fun hc1 => ?_) (fun hc1 => ?_)
  · have hf := fm_in' hf hc1
    refine lv_iload_n C.1 C.2.1 dX9_narrowed_7 rfl (lv_at hl 0 rfl) ?_
    refine lv_iconst (v := 1) C.1 C.2.1 dX9_narrowed_8 (by decide) ?_
    refine lv_icmp_ne (tgt := 17) C.1 C.2.1 dX9_narrowed_9 (by decide) (fun hc9 => ?_) (fun hc9 => ?_)
    · have hf := fm_in' hf hc9
      refine lv_iload_n C.1 C.2.1 dX9_narrowed_17 rfl (lv_at hl 1 rfl) ?_
      obtain rfl := fm_rt1 hf
      exact fm_iret C E rfl rfl dX9_narrowed_18
    · have hf := fm_ip hf hc9
      refine lv_iload_n C.1 C.2.1 dX9_narrowed_12 rfl (lv_at hl 1 rfl) ?_
      refine lv_i2s C.1 C.2.1 dX9_narrowed_13 rfl ?_
      refine lv_goto (tgt := 18) C.1 C.2.1 dX9_narrowed_14 (by decide) ?_
      obtain rfl := fm_rt1 hf
      exact fm_iret C E rfl rfl dX9_narrowed_18
  · have hf := fm_ip hf hc1
    refine lv_iload_n C.1 C.2.1 dX9_narrowed_4 rfl (lv_at hl 1 rfl) ?_
    refine lv_i2b C.1 C.2.1 dX9_narrowed_5 rfl ?_
    obtain rfl := fm_rt1 hf
    exact fm_iret C E rfl rfl dX9_narrowed_6
