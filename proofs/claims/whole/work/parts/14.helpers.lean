/-! ===== contracts of the law's helpers ===== -/
theorem fm_hl13 : Cond.classLink "MicRowLaw" 13 fm_NSE ∈ fm_TT := fm_wd 968 (by decide +kernel) (by decide +kernel)
theorem fm_hcast1 : Cond.castable fm_NSE fm_NSE ∈ fm_NW := fm_nw 978 (by decide +kernel) (by decide +kernel)
theorem dL_mic_0 : decode cL_mic 0 = .ok (.aload_n 3, 1) := by decide +kernel
theorem dL_mic_1 : decode cL_mic 1 = .ok (.iconst 0, 1) := by decide +kernel
theorem dL_mic_2 : decode cL_mic 2 = .ok (.aload_n 0, 1) := by decide +kernel
theorem dL_mic_3 : decode cL_mic 3 = .ok (.iload_n 1, 1) := by decide +kernel
theorem dL_mic_4 : decode cL_mic 4 = .ok (.iload_n 2, 1) := by decide +kernel
theorem dL_mic_5 : decode cL_mic 5 = .ok (.invokevirtual 7, 3) := by decide +kernel
theorem dL_mic_8 : decode cL_mic 8 = .ok (.i2l, 1) := by decide +kernel
theorem dL_mic_9 : decode cL_mic 9 = .ok (.lastore, 1) := by decide +kernel
theorem dL_mic_10 : decode cL_mic 10 = .ok (.goto 7, 3) := by decide +kernel
theorem dL_mic_13 : decode cL_mic 13 = .ok (.astore 4, 2) := by decide +kernel
theorem dL_mic_15 : decode cL_mic 15 = .ok (.iconst 1, 1) := by decide +kernel
theorem dL_mic_16 : decode cL_mic 16 = .ok (.ireturn, 1) := by decide +kernel
theorem dL_mic_17 : decode cL_mic 17 = .ok (.iconst 0, 1) := by decide +kernel
theorem dL_mic_18 : decode cL_mic 18 = .ok (.ireturn, 1) := by decide +kernel
theorem lm_L_mic : fm_V "MicRowLaw" 7 yX9_mic 2 := ⟨Or.inl (fm_wd 969 (by decide +kernel) (by decide +kernel)), fm_wd 970 (by decide +kernel) (by decide +kernel), fm_wd 971 (by decide +kernel) (by decide +kernel), fm_wd 81 (by decide +kernel) (by decide +kernel), ⟨by decide, by decide, by decide +kernel⟩⟩
theorem ll_L_mic : Cond.methodLink "MicRowLaw" 7 yX9_mic ∈ fm_TT := fm_wd 969 (by decide +kernel) (by decide +kernel)
theorem wk_L_mic : Cond.code yX9_mic cX9_mic 3 (some .int) ∈ fm_TT := fm_wd 972 (by decide +kernel) (by decide +kernel)
theorem ch_mic (l : Launch) (G : fm_G) (M : fm_M) (v1 : Int32) (v2 : Int32) (qo : Nat) (f : Nat → Int64) (r : Int32) (hf : pMicRow_mic M v1 v2 = some r) : fm_hMet l yL_mic cL_mic 5 [(0, 10, 13, 13)] { frames := 8, cells := 1, slots := 6, locals := 124 } G [.ref (G.2.1 0), .int v1, .int v2, .ref qo] M qo f 0 M (vp_updL f 0 r.toInt64) := by
  refine fm_henter (by decide) rfl (Nat.le_of_ble_eq_true rfl) ?_
  intro p e s m args below meth c ls C E hl
  have hl : lv_has ls 5 [(0, .ref (G.2.1 0)), (1, .int v1), (2, .int v2), (3, .ref qo)] := hl
  refine lv_aload_n C.1 C.2.1 dL_mic_0 rfl (lv_at hl 3 rfl) ?_
  refine lv_iconst (v := 0) C.1 C.2.1 dL_mic_1 (by decide) ?_
  refine lv_aload_n C.1 C.2.1 dL_mic_2 rfl (lv_at hl 0 rfl) ?_
  refine lv_iload_n C.1 C.2.1 dL_mic_3 rfl (lv_at hl 1 rfl) ?_
  refine lv_iload_n C.1 C.2.1 dL_mic_4 rfl (lv_at hl 2 rfl) ?_
  refine fm_hcall C E [.int _, .int _] [.int _, .ref _] ll_L_mic lm_L_mic wk_L_mic (c_MicRow_mic l G _ _ _ _ hf) rfl rfl hl.1 (by simp [Value.category]) ⟨⟨rfl, rfl⟩, by decide, by decide⟩ ⟨by decide, by decide⟩ dL_mic_5 rfl (fun H locs E => ?_)
  refine W.eq (g2 := F0 m 8 ls (.int r :: [.int 0, .ref qo])) rfl ?_
  refine lv_i2l C.1 C.2.1 dL_mic_8 rfl ?_
  refine fm_hst C E dL_mic_9 (fun H locs E => ?_)
  refine lv_goto (tgt := 17) C.1 C.2.1 dL_mic_10 (by decide) ?_
  refine lv_iconst (v := 0) C.1 C.2.1 dL_mic_17 (by decide) ?_
  exact W.widen (by decide) (by decide) (fm_hret C E dL_mic_18)
theorem ct_mic (l : Launch) (hfl : l.stackTraces = false) (G : fm_G) (M : fm_M) (v1 : Int32) (v2 : Int32) (qo : Nat) (f : Nat → Int64) (M' : fm_M) (hf : tMicRow_mic M v1 v2 = some M') : fm_hMet l yL_mic cL_mic 5 [(0, 10, 13, 13)] { frames := 8, cells := 1, slots := 6, locals := 124 } G [.ref (G.2.1 0), .int v1, .int v2, .ref qo] M qo f 1 M' f := by
  refine fm_henter (by decide) rfl (Nat.le_of_ble_eq_true rfl) ?_
  intro p e s m args below meth c ls C E hl
  have hl : lv_has ls 5 [(0, .ref (G.2.1 0)), (1, .int v1), (2, .int v2), (3, .ref qo)] := hl
  refine lv_aload_n C.1 C.2.1 dL_mic_0 rfl (lv_at hl 3 rfl) ?_
  refine lv_iconst (v := 0) C.1 C.2.1 dL_mic_1 (by decide) ?_
  refine lv_aload_n C.1 C.2.1 dL_mic_2 rfl (lv_at hl 0 rfl) ?_
  refine lv_iload_n C.1 C.2.1 dL_mic_3 rfl (lv_at hl 1 rfl) ?_
  refine lv_iload_n C.1 C.2.1 dL_mic_4 rfl (lv_at hl 2 rfl) ?_
  refine fm_hcatch C E [.int _, .int _] [.int _, .ref _] ll_L_mic lm_L_mic wk_L_mic (cx_MicRow_mic l hfl G _ _ _ _ hf) rfl rfl hl.1 (by simp [Value.category]) ⟨⟨rfl, rfl⟩, by decide, by decide⟩ ⟨by decide, by decide⟩ dL_mic_5 rfl ⟨by decide, by decide⟩ (by decide) fm_hl13 fm_hcast1 (fun H locs q E => ?_)
  refine lv_astore C.1 C.2.1 dL_mic_13 hl (by decide) (lv' := [(4, .ref q), (0, .ref (G.2.1 0)), (1, .int v1), (2, .int v2), (3, .ref qo)]) rfl (fun ls hl => ?_)
  refine lv_iconst (v := 1) C.1 C.2.1 dL_mic_15 (by decide) ?_
  exact fm_hret C E dL_mic_16
theorem dL_source_0 : decode cL_source 0 = .ok (.aload_n 3, 1) := by decide +kernel
theorem dL_source_1 : decode cL_source 1 = .ok (.iconst 0, 1) := by decide +kernel
theorem dL_source_2 : decode cL_source 2 = .ok (.aload_n 0, 1) := by decide +kernel
theorem dL_source_3 : decode cL_source 3 = .ok (.iload_n 1, 1) := by decide +kernel
theorem dL_source_4 : decode cL_source 4 = .ok (.iload_n 2, 1) := by decide +kernel
theorem dL_source_5 : decode cL_source 5 = .ok (.invokevirtual 15, 3) := by decide +kernel
theorem dL_source_8 : decode cL_source 8 = .ok (.i2l, 1) := by decide +kernel
theorem dL_source_9 : decode cL_source 9 = .ok (.lastore, 1) := by decide +kernel
theorem dL_source_10 : decode cL_source 10 = .ok (.goto 7, 3) := by decide +kernel
theorem dL_source_13 : decode cL_source 13 = .ok (.astore 4, 2) := by decide +kernel
theorem dL_source_15 : decode cL_source 15 = .ok (.iconst 1, 1) := by decide +kernel
theorem dL_source_16 : decode cL_source 16 = .ok (.ireturn, 1) := by decide +kernel
theorem dL_source_17 : decode cL_source 17 = .ok (.iconst 0, 1) := by decide +kernel
theorem dL_source_18 : decode cL_source 18 = .ok (.ireturn, 1) := by decide +kernel
theorem lm_L_source : fm_V "MicRowLaw" 15 yX9_source 2 := ⟨Or.inl (fm_wd 1048 (by decide +kernel) (by decide +kernel)), fm_wd 1049 (by decide +kernel) (by decide +kernel), fm_wd 1050 (by decide +kernel) (by decide +kernel), fm_wd 81 (by decide +kernel) (by decide +kernel), ⟨by decide, by decide, by decide +kernel⟩⟩
theorem ll_L_source : Cond.methodLink "MicRowLaw" 15 yX9_source ∈ fm_TT := fm_wd 1048 (by decide +kernel) (by decide +kernel)
theorem wk_L_source : Cond.code yX9_source cX9_source 3 (some .int) ∈ fm_TT := fm_wd 1051 (by decide +kernel) (by decide +kernel)
theorem ch_source (l : Launch) (G : fm_G) (M : fm_M) (v1 : Int32) (v2 : Int32) (qo : Nat) (f : Nat → Int64) (r : Int32) (hf : pMicRow_source M v1 v2 = some r) : fm_hMet l yL_source cL_source 5 [(0, 10, 13, 13)] { frames := 8, cells := 1, slots := 6, locals := 124 } G [.ref (G.2.1 0), .int v1, .int v2, .ref qo] M qo f 0 M (vp_updL f 0 r.toInt64) := by
  refine fm_henter (by decide) rfl (Nat.le_of_ble_eq_true rfl) ?_
  intro p e s m args below meth c ls C E hl
  have hl : lv_has ls 5 [(0, .ref (G.2.1 0)), (1, .int v1), (2, .int v2), (3, .ref qo)] := hl
  refine lv_aload_n C.1 C.2.1 dL_source_0 rfl (lv_at hl 3 rfl) ?_
  refine lv_iconst (v := 0) C.1 C.2.1 dL_source_1 (by decide) ?_
  refine lv_aload_n C.1 C.2.1 dL_source_2 rfl (lv_at hl 0 rfl) ?_
  refine lv_iload_n C.1 C.2.1 dL_source_3 rfl (lv_at hl 1 rfl) ?_
  refine lv_iload_n C.1 C.2.1 dL_source_4 rfl (lv_at hl 2 rfl) ?_
  refine fm_hcall C E [.int _, .int _] [.int _, .ref _] ll_L_source lm_L_source wk_L_source (c_MicRow_source l G _ _ _ _ hf) rfl rfl hl.1 (by simp [Value.category]) ⟨⟨rfl, rfl⟩, by decide, by decide⟩ ⟨by decide, by decide⟩ dL_source_5 rfl (fun H locs E => ?_)
  refine W.eq (g2 := F0 m 8 ls (.int r :: [.int 0, .ref qo])) rfl ?_
  refine lv_i2l C.1 C.2.1 dL_source_8 rfl ?_
  refine fm_hst C E dL_source_9 (fun H locs E => ?_)
  refine lv_goto (tgt := 17) C.1 C.2.1 dL_source_10 (by decide) ?_
  refine lv_iconst (v := 0) C.1 C.2.1 dL_source_17 (by decide) ?_
  exact W.widen (by decide) (by decide) (fm_hret C E dL_source_18)
theorem ct_source (l : Launch) (hfl : l.stackTraces = false) (G : fm_G) (M : fm_M) (v1 : Int32) (v2 : Int32) (qo : Nat) (f : Nat → Int64) (M' : fm_M) (hf : tMicRow_source M v1 v2 = some M') : fm_hMet l yL_source cL_source 5 [(0, 10, 13, 13)] { frames := 8, cells := 1, slots := 6, locals := 124 } G [.ref (G.2.1 0), .int v1, .int v2, .ref qo] M qo f 1 M' f := by
  refine fm_henter (by decide) rfl (Nat.le_of_ble_eq_true rfl) ?_
  intro p e s m args below meth c ls C E hl
  have hl : lv_has ls 5 [(0, .ref (G.2.1 0)), (1, .int v1), (2, .int v2), (3, .ref qo)] := hl
  refine lv_aload_n C.1 C.2.1 dL_source_0 rfl (lv_at hl 3 rfl) ?_
  refine lv_iconst (v := 0) C.1 C.2.1 dL_source_1 (by decide) ?_
  refine lv_aload_n C.1 C.2.1 dL_source_2 rfl (lv_at hl 0 rfl) ?_
  refine lv_iload_n C.1 C.2.1 dL_source_3 rfl (lv_at hl 1 rfl) ?_
  refine lv_iload_n C.1 C.2.1 dL_source_4 rfl (lv_at hl 2 rfl) ?_
  refine fm_hcatch C E [.int _, .int _] [.int _, .ref _] ll_L_source lm_L_source wk_L_source (cx_MicRow_source l hfl G _ _ _ _ hf) rfl rfl hl.1 (by simp [Value.category]) ⟨⟨rfl, rfl⟩, by decide, by decide⟩ ⟨by decide, by decide⟩ dL_source_5 rfl ⟨by decide, by decide⟩ (by decide) fm_hl13 fm_hcast1 (fun H locs q E => ?_)
  refine lv_astore C.1 C.2.1 dL_source_13 hl (by decide) (lv' := [(4, .ref q), (0, .ref (G.2.1 0)), (1, .int v1), (2, .int v2), (3, .ref qo)]) rfl (fun ls hl => ?_)
  refine lv_iconst (v := 1) C.1 C.2.1 dL_source_15 (by decide) ?_
  exact fm_hret C E dL_source_16
theorem dL_sample_0 : decode cL_sample 0 = .ok (.aload_n 3, 1) := by decide +kernel
theorem dL_sample_1 : decode cL_sample 1 = .ok (.iconst 0, 1) := by decide +kernel
theorem dL_sample_2 : decode cL_sample 2 = .ok (.aload_n 0, 1) := by decide +kernel
theorem dL_sample_3 : decode cL_sample 3 = .ok (.iload_n 1, 1) := by decide +kernel
theorem dL_sample_4 : decode cL_sample 4 = .ok (.iload_n 2, 1) := by decide +kernel
theorem dL_sample_5 : decode cL_sample 5 = .ok (.invokevirtual 18, 3) := by decide +kernel
theorem dL_sample_8 : decode cL_sample 8 = .ok (.i2l, 1) := by decide +kernel
theorem dL_sample_9 : decode cL_sample 9 = .ok (.lastore, 1) := by decide +kernel
theorem dL_sample_10 : decode cL_sample 10 = .ok (.goto 7, 3) := by decide +kernel
theorem dL_sample_13 : decode cL_sample 13 = .ok (.astore 4, 2) := by decide +kernel
theorem dL_sample_15 : decode cL_sample 15 = .ok (.iconst 1, 1) := by decide +kernel
theorem dL_sample_16 : decode cL_sample 16 = .ok (.ireturn, 1) := by decide +kernel
theorem dL_sample_17 : decode cL_sample 17 = .ok (.iconst 0, 1) := by decide +kernel
theorem dL_sample_18 : decode cL_sample 18 = .ok (.ireturn, 1) := by decide +kernel
theorem lm_L_sample : fm_V "MicRowLaw" 18 yX9_sample 2 := ⟨Or.inl (fm_wd 1060 (by decide +kernel) (by decide +kernel)), fm_wd 1061 (by decide +kernel) (by decide +kernel), fm_wd 1062 (by decide +kernel) (by decide +kernel), fm_wd 81 (by decide +kernel) (by decide +kernel), ⟨by decide, by decide, by decide +kernel⟩⟩
theorem ll_L_sample : Cond.methodLink "MicRowLaw" 18 yX9_sample ∈ fm_TT := fm_wd 1060 (by decide +kernel) (by decide +kernel)
theorem wk_L_sample : Cond.code yX9_sample cX9_sample 3 (some .int) ∈ fm_TT := fm_wd 1063 (by decide +kernel) (by decide +kernel)
theorem ch_sample (l : Launch) (G : fm_G) (N : Nat) (M : fm_M) (v1 : Int32) (v2 : Int32) (qo : Nat) (f : Nat → Int64) (r : Int32) (M' : fm_M) (hf : pMicRow_sample N M v1 v2 = some (r, M')) : fm_hMet l yL_sample cL_sample 5 [(0, 10, 13, 13)] { frames := 8, cells := 1, slots := 6, locals := 124 } G [.ref (G.2.1 0), .int v1, .int v2, .ref qo] M qo f 0 M' (vp_updL f 0 r.toInt64) := by
  refine fm_henter (by decide) rfl (Nat.le_of_ble_eq_true rfl) ?_
  intro p e s m args below meth c ls C E hl
  have hl : lv_has ls 5 [(0, .ref (G.2.1 0)), (1, .int v1), (2, .int v2), (3, .ref qo)] := hl
  refine lv_aload_n C.1 C.2.1 dL_sample_0 rfl (lv_at hl 3 rfl) ?_
  refine lv_iconst (v := 0) C.1 C.2.1 dL_sample_1 (by decide) ?_
  refine lv_aload_n C.1 C.2.1 dL_sample_2 rfl (lv_at hl 0 rfl) ?_
  refine lv_iload_n C.1 C.2.1 dL_sample_3 rfl (lv_at hl 1 rfl) ?_
  refine lv_iload_n C.1 C.2.1 dL_sample_4 rfl (lv_at hl 2 rfl) ?_
  refine fm_hcall C E [.int _, .int _] [.int _, .ref _] ll_L_sample lm_L_sample wk_L_sample (c_MicRow_sample l G N _ _ _ _ _ hf) rfl rfl hl.1 (by simp [Value.category]) ⟨⟨rfl, rfl⟩, by decide, by decide⟩ ⟨by decide, by decide⟩ dL_sample_5 rfl (fun H locs E => ?_)
  refine W.eq (g2 := F0 m 8 ls (.int r :: [.int 0, .ref qo])) rfl ?_
  refine lv_i2l C.1 C.2.1 dL_sample_8 rfl ?_
  refine fm_hst C E dL_sample_9 (fun H locs E => ?_)
  refine lv_goto (tgt := 17) C.1 C.2.1 dL_sample_10 (by decide) ?_
  refine lv_iconst (v := 0) C.1 C.2.1 dL_sample_17 (by decide) ?_
  exact W.widen (by decide) (by decide) (fm_hret C E dL_sample_18)
theorem ct_sample (l : Launch) (hfl : l.stackTraces = false) (G : fm_G) (N : Nat) (M : fm_M) (v1 : Int32) (v2 : Int32) (qo : Nat) (f : Nat → Int64) (M' : fm_M) (hf : tMicRow_sample N M v1 v2 = some M') : fm_hMet l yL_sample cL_sample 5 [(0, 10, 13, 13)] { frames := 8, cells := 1, slots := 6, locals := 124 } G [.ref (G.2.1 0), .int v1, .int v2, .ref qo] M qo f 1 M' f := by
  refine fm_henter (by decide) rfl (Nat.le_of_ble_eq_true rfl) ?_
  intro p e s m args below meth c ls C E hl
  have hl : lv_has ls 5 [(0, .ref (G.2.1 0)), (1, .int v1), (2, .int v2), (3, .ref qo)] := hl
  refine lv_aload_n C.1 C.2.1 dL_sample_0 rfl (lv_at hl 3 rfl) ?_
  refine lv_iconst (v := 0) C.1 C.2.1 dL_sample_1 (by decide) ?_
  refine lv_aload_n C.1 C.2.1 dL_sample_2 rfl (lv_at hl 0 rfl) ?_
  refine lv_iload_n C.1 C.2.1 dL_sample_3 rfl (lv_at hl 1 rfl) ?_
  refine lv_iload_n C.1 C.2.1 dL_sample_4 rfl (lv_at hl 2 rfl) ?_
  refine fm_hcatch C E [.int _, .int _] [.int _, .ref _] ll_L_sample lm_L_sample wk_L_sample (cx_MicRow_sample l hfl G N _ _ _ _ hf) rfl rfl hl.1 (by simp [Value.category]) ⟨⟨rfl, rfl⟩, by decide, by decide⟩ ⟨by decide, by decide⟩ dL_sample_5 rfl ⟨by decide, by decide⟩ (by decide) fm_hl13 fm_hcast1 (fun H locs q E => ?_)
  refine lv_astore C.1 C.2.1 dL_sample_13 hl (by decide) (lv' := [(4, .ref q), (0, .ref (G.2.1 0)), (1, .int v1), (2, .int v2), (3, .ref qo)]) rfl (fun ls hl => ?_)
  refine lv_iconst (v := 1) C.1 C.2.1 dL_sample_15 (by decide) ?_
  exact fm_hret C E dL_sample_16
theorem dL_turned_0 : decode cL_turned 0 = .ok (.aload 4, 2) := by decide +kernel
theorem dL_turned_2 : decode cL_turned 2 = .ok (.iconst 0, 1) := by decide +kernel
theorem dL_turned_3 : decode cL_turned 3 = .ok (.aload_n 0, 1) := by decide +kernel
theorem dL_turned_4 : decode cL_turned 4 = .ok (.iload_n 1, 1) := by decide +kernel
theorem dL_turned_5 : decode cL_turned 5 = .ok (.iload_n 2, 1) := by decide +kernel
theorem dL_turned_6 : decode cL_turned 6 = .ok (.iload_n 3, 1) := by decide +kernel
theorem dL_turned_7 : decode cL_turned 7 = .ok (.invokevirtual 21, 3) := by decide +kernel
theorem dL_turned_10 : decode cL_turned 10 = .ok (.i2l, 1) := by decide +kernel
theorem dL_turned_11 : decode cL_turned 11 = .ok (.lastore, 1) := by decide +kernel
theorem dL_turned_12 : decode cL_turned 12 = .ok (.goto 7, 3) := by decide +kernel
theorem dL_turned_15 : decode cL_turned 15 = .ok (.astore 5, 2) := by decide +kernel
theorem dL_turned_17 : decode cL_turned 17 = .ok (.iconst 1, 1) := by decide +kernel
theorem dL_turned_18 : decode cL_turned 18 = .ok (.ireturn, 1) := by decide +kernel
theorem dL_turned_19 : decode cL_turned 19 = .ok (.iconst 0, 1) := by decide +kernel
theorem dL_turned_20 : decode cL_turned 20 = .ok (.ireturn, 1) := by decide +kernel
theorem lm_L_turned : fm_V "MicRowLaw" 21 yX9_turned 3 := ⟨Or.inl (fm_wd 1067 (by decide +kernel) (by decide +kernel)), fm_wd 1068 (by decide +kernel) (by decide +kernel), fm_wd 1069 (by decide +kernel) (by decide +kernel), fm_wd 81 (by decide +kernel) (by decide +kernel), ⟨by decide, by decide, by decide +kernel⟩⟩
theorem ll_L_turned : Cond.methodLink "MicRowLaw" 21 yX9_turned ∈ fm_TT := fm_wd 1067 (by decide +kernel) (by decide +kernel)
theorem wk_L_turned : Cond.code yX9_turned cX9_turned 4 (some .int) ∈ fm_TT := fm_wd 1070 (by decide +kernel) (by decide +kernel)
theorem ch_turned (l : Launch) (G : fm_G) (N : Nat) (M : fm_M) (v1 : Int32) (v2 : Int32) (v3 : Int32) (qo : Nat) (f : Nat → Int64) (r : Int32) (M' : fm_M) (hf : pMicRow_turned N M v1 v2 v3 = some (r, M')) : fm_hMet l yL_turned cL_turned 6 [(0, 12, 15, 13)] { frames := 8, cells := 1, slots := 6, locals := 149 } G [.ref (G.2.1 0), .int v1, .int v2, .int v3, .ref qo] M qo f 0 M' (vp_updL f 0 r.toInt64) := by
  refine fm_henter (by decide) rfl (Nat.le_of_ble_eq_true rfl) ?_
  intro p e s m args below meth c ls C E hl
  have hl : lv_has ls 6 [(0, .ref (G.2.1 0)), (1, .int v1), (2, .int v2), (3, .int v3), (4, .ref qo)] := hl
  refine lv_aload C.1 C.2.1 dL_turned_0 (lv_at hl 4 rfl) ?_
  refine lv_iconst (v := 0) C.1 C.2.1 dL_turned_2 (by decide) ?_
  refine lv_aload_n C.1 C.2.1 dL_turned_3 rfl (lv_at hl 0 rfl) ?_
  refine lv_iload_n C.1 C.2.1 dL_turned_4 rfl (lv_at hl 1 rfl) ?_
  refine lv_iload_n C.1 C.2.1 dL_turned_5 rfl (lv_at hl 2 rfl) ?_
  refine lv_iload_n C.1 C.2.1 dL_turned_6 rfl (lv_at hl 3 rfl) ?_
  refine fm_hcall C E [.int _, .int _, .int _] [.int _, .ref _] ll_L_turned lm_L_turned wk_L_turned (c_MicRow_turned l G N _ _ _ _ _ _ hf) rfl rfl hl.1 (by simp [Value.category]) ⟨⟨rfl, rfl⟩, by decide, by decide⟩ ⟨by decide, by decide⟩ dL_turned_7 rfl (fun H locs E => ?_)
  refine W.eq (g2 := F0 m 10 ls (.int r :: [.int 0, .ref qo])) rfl ?_
  refine lv_i2l C.1 C.2.1 dL_turned_10 rfl ?_
  refine fm_hst C E dL_turned_11 (fun H locs E => ?_)
  refine lv_goto (tgt := 19) C.1 C.2.1 dL_turned_12 (by decide) ?_
  refine lv_iconst (v := 0) C.1 C.2.1 dL_turned_19 (by decide) ?_
  exact W.widen (by decide) (by decide) (fm_hret C E dL_turned_20)
theorem ct_turned (l : Launch) (hfl : l.stackTraces = false) (G : fm_G) (N : Nat) (M : fm_M) (v1 : Int32) (v2 : Int32) (v3 : Int32) (qo : Nat) (f : Nat → Int64) (M' : fm_M) (hf : tMicRow_turned N M v1 v2 v3 = some M') : fm_hMet l yL_turned cL_turned 6 [(0, 12, 15, 13)] { frames := 8, cells := 1, slots := 6, locals := 149 } G [.ref (G.2.1 0), .int v1, .int v2, .int v3, .ref qo] M qo f 1 M' f := by
  refine fm_henter (by decide) rfl (Nat.le_of_ble_eq_true rfl) ?_
  intro p e s m args below meth c ls C E hl
  have hl : lv_has ls 6 [(0, .ref (G.2.1 0)), (1, .int v1), (2, .int v2), (3, .int v3), (4, .ref qo)] := hl
  refine lv_aload C.1 C.2.1 dL_turned_0 (lv_at hl 4 rfl) ?_
  refine lv_iconst (v := 0) C.1 C.2.1 dL_turned_2 (by decide) ?_
  refine lv_aload_n C.1 C.2.1 dL_turned_3 rfl (lv_at hl 0 rfl) ?_
  refine lv_iload_n C.1 C.2.1 dL_turned_4 rfl (lv_at hl 1 rfl) ?_
  refine lv_iload_n C.1 C.2.1 dL_turned_5 rfl (lv_at hl 2 rfl) ?_
  refine lv_iload_n C.1 C.2.1 dL_turned_6 rfl (lv_at hl 3 rfl) ?_
  refine fm_hcatch C E [.int _, .int _, .int _] [.int _, .ref _] ll_L_turned lm_L_turned wk_L_turned (cx_MicRow_turned l hfl G N _ _ _ _ _ hf) rfl rfl hl.1 (by simp [Value.category]) ⟨⟨rfl, rfl⟩, by decide, by decide⟩ ⟨by decide, by decide⟩ dL_turned_7 rfl ⟨by decide, by decide⟩ (by decide) fm_hl13 fm_hcast1 (fun H locs q E => ?_)
  refine lv_astore C.1 C.2.1 dL_turned_15 hl (by decide) (lv' := [(5, .ref q), (0, .ref (G.2.1 0)), (1, .int v1), (2, .int v2), (3, .int v3), (4, .ref qo)]) rfl (fun ls hl => ?_)
  refine lv_iconst (v := 1) C.1 C.2.1 dL_turned_17 (by decide) ?_
  exact fm_hret C E dL_turned_18
theorem dL_beam_0 : decode cL_beam 0 = .ok (.aload_n 3, 1) := by decide +kernel
theorem dL_beam_1 : decode cL_beam 1 = .ok (.iconst 0, 1) := by decide +kernel
theorem dL_beam_2 : decode cL_beam 2 = .ok (.aload_n 0, 1) := by decide +kernel
theorem dL_beam_3 : decode cL_beam 3 = .ok (.iload_n 1, 1) := by decide +kernel
theorem dL_beam_4 : decode cL_beam 4 = .ok (.iload_n 2, 1) := by decide +kernel
theorem dL_beam_5 : decode cL_beam 5 = .ok (.invokevirtual 25, 3) := by decide +kernel
theorem dL_beam_8 : decode cL_beam 8 = .ok (.i2l, 1) := by decide +kernel
theorem dL_beam_9 : decode cL_beam 9 = .ok (.lastore, 1) := by decide +kernel
theorem dL_beam_10 : decode cL_beam 10 = .ok (.goto 7, 3) := by decide +kernel
theorem dL_beam_13 : decode cL_beam 13 = .ok (.astore 4, 2) := by decide +kernel
theorem dL_beam_15 : decode cL_beam 15 = .ok (.iconst 1, 1) := by decide +kernel
theorem dL_beam_16 : decode cL_beam 16 = .ok (.ireturn, 1) := by decide +kernel
theorem dL_beam_17 : decode cL_beam 17 = .ok (.iconst 0, 1) := by decide +kernel
theorem dL_beam_18 : decode cL_beam 18 = .ok (.ireturn, 1) := by decide +kernel
theorem lm_L_beam : fm_V "MicRowLaw" 25 yX9_beam 2 := ⟨Or.inl (fm_wd 1077 (by decide +kernel) (by decide +kernel)), fm_wd 1078 (by decide +kernel) (by decide +kernel), fm_wd 1079 (by decide +kernel) (by decide +kernel), fm_wd 81 (by decide +kernel) (by decide +kernel), ⟨by decide, by decide, by decide +kernel⟩⟩
theorem ll_L_beam : Cond.methodLink "MicRowLaw" 25 yX9_beam ∈ fm_TT := fm_wd 1077 (by decide +kernel) (by decide +kernel)
theorem wk_L_beam : Cond.code yX9_beam cX9_beam 3 (some .int) ∈ fm_TT := fm_wd 1080 (by decide +kernel) (by decide +kernel)
theorem ch_beam (l : Launch) (G : fm_G) (N : Nat) (M : fm_M) (v1 : Int32) (v2 : Int32) (qo : Nat) (f : Nat → Int64) (r : Int32) (M' : fm_M) (hf : pMicRow_beam N M v1 v2 = some (r, M')) : fm_hMet l yL_beam cL_beam 5 [(0, 10, 13, 13)] { frames := 8, cells := 1, slots := 6, locals := 148 } G [.ref (G.2.1 0), .int v1, .int v2, .ref qo] M qo f 0 M' (vp_updL f 0 r.toInt64) := by
  refine fm_henter (by decide) rfl (Nat.le_of_ble_eq_true rfl) ?_
  intro p e s m args below meth c ls C E hl
  have hl : lv_has ls 5 [(0, .ref (G.2.1 0)), (1, .int v1), (2, .int v2), (3, .ref qo)] := hl
  refine lv_aload_n C.1 C.2.1 dL_beam_0 rfl (lv_at hl 3 rfl) ?_
  refine lv_iconst (v := 0) C.1 C.2.1 dL_beam_1 (by decide) ?_
  refine lv_aload_n C.1 C.2.1 dL_beam_2 rfl (lv_at hl 0 rfl) ?_
  refine lv_iload_n C.1 C.2.1 dL_beam_3 rfl (lv_at hl 1 rfl) ?_
  refine lv_iload_n C.1 C.2.1 dL_beam_4 rfl (lv_at hl 2 rfl) ?_
  refine fm_hcall C E [.int _, .int _] [.int _, .ref _] ll_L_beam lm_L_beam wk_L_beam (c_MicRow_beam l G N _ _ _ _ _ hf) rfl rfl hl.1 (by simp [Value.category]) ⟨⟨rfl, rfl⟩, by decide, by decide⟩ ⟨by decide, by decide⟩ dL_beam_5 rfl (fun H locs E => ?_)
  refine W.eq (g2 := F0 m 8 ls (.int r :: [.int 0, .ref qo])) rfl ?_
  refine lv_i2l C.1 C.2.1 dL_beam_8 rfl ?_
  refine fm_hst C E dL_beam_9 (fun H locs E => ?_)
  refine lv_goto (tgt := 17) C.1 C.2.1 dL_beam_10 (by decide) ?_
  refine lv_iconst (v := 0) C.1 C.2.1 dL_beam_17 (by decide) ?_
  exact W.widen (by decide) (by decide) (fm_hret C E dL_beam_18)
theorem ct_beam (l : Launch) (hfl : l.stackTraces = false) (G : fm_G) (N : Nat) (M : fm_M) (v1 : Int32) (v2 : Int32) (qo : Nat) (f : Nat → Int64) (M' : fm_M) (hf : tMicRow_beam N M v1 v2 = some M') : fm_hMet l yL_beam cL_beam 5 [(0, 10, 13, 13)] { frames := 8, cells := 1, slots := 6, locals := 148 } G [.ref (G.2.1 0), .int v1, .int v2, .ref qo] M qo f 1 M' f := by
  refine fm_henter (by decide) rfl (Nat.le_of_ble_eq_true rfl) ?_
  intro p e s m args below meth c ls C E hl
  have hl : lv_has ls 5 [(0, .ref (G.2.1 0)), (1, .int v1), (2, .int v2), (3, .ref qo)] := hl
  refine lv_aload_n C.1 C.2.1 dL_beam_0 rfl (lv_at hl 3 rfl) ?_
  refine lv_iconst (v := 0) C.1 C.2.1 dL_beam_1 (by decide) ?_
  refine lv_aload_n C.1 C.2.1 dL_beam_2 rfl (lv_at hl 0 rfl) ?_
  refine lv_iload_n C.1 C.2.1 dL_beam_3 rfl (lv_at hl 1 rfl) ?_
  refine lv_iload_n C.1 C.2.1 dL_beam_4 rfl (lv_at hl 2 rfl) ?_
  refine fm_hcatch C E [.int _, .int _] [.int _, .ref _] ll_L_beam lm_L_beam wk_L_beam (cx_MicRow_beam l hfl G N _ _ _ _ hf) rfl rfl hl.1 (by simp [Value.category]) ⟨⟨rfl, rfl⟩, by decide, by decide⟩ ⟨by decide, by decide⟩ dL_beam_5 rfl ⟨by decide, by decide⟩ (by decide) fm_hl13 fm_hcast1 (fun H locs q E => ?_)
  refine lv_astore C.1 C.2.1 dL_beam_13 hl (by decide) (lv' := [(4, .ref q), (0, .ref (G.2.1 0)), (1, .int v1), (2, .int v2), (3, .ref qo)]) rfl (fun ls hl => ?_)
  refine lv_iconst (v := 1) C.1 C.2.1 dL_beam_15 (by decide) ?_
  exact fm_hret C E dL_beam_16
theorem dL_blocked_0 : decode cL_blocked 0 = .ok (.aload 4, 2) := by decide +kernel
theorem dL_blocked_2 : decode cL_blocked 2 = .ok (.iconst 0, 1) := by decide +kernel
theorem dL_blocked_3 : decode cL_blocked 3 = .ok (.aload_n 0, 1) := by decide +kernel
theorem dL_blocked_4 : decode cL_blocked 4 = .ok (.iload_n 1, 1) := by decide +kernel
theorem dL_blocked_5 : decode cL_blocked 5 = .ok (.iload_n 2, 1) := by decide +kernel
theorem dL_blocked_6 : decode cL_blocked 6 = .ok (.iload_n 3, 1) := by decide +kernel
theorem dL_blocked_7 : decode cL_blocked 7 = .ok (.invokevirtual 28, 3) := by decide +kernel
theorem dL_blocked_10 : decode cL_blocked 10 = .ok (.i2l, 1) := by decide +kernel
theorem dL_blocked_11 : decode cL_blocked 11 = .ok (.lastore, 1) := by decide +kernel
theorem dL_blocked_12 : decode cL_blocked 12 = .ok (.goto 7, 3) := by decide +kernel
theorem dL_blocked_15 : decode cL_blocked 15 = .ok (.astore 5, 2) := by decide +kernel
theorem dL_blocked_17 : decode cL_blocked 17 = .ok (.iconst 1, 1) := by decide +kernel
theorem dL_blocked_18 : decode cL_blocked 18 = .ok (.ireturn, 1) := by decide +kernel
theorem dL_blocked_19 : decode cL_blocked 19 = .ok (.iconst 0, 1) := by decide +kernel
theorem dL_blocked_20 : decode cL_blocked 20 = .ok (.ireturn, 1) := by decide +kernel
theorem lm_L_blocked : fm_V "MicRowLaw" 28 yX9_blocked 3 := ⟨Or.inl (fm_wd 1084 (by decide +kernel) (by decide +kernel)), fm_wd 1085 (by decide +kernel) (by decide +kernel), fm_wd 1086 (by decide +kernel) (by decide +kernel), fm_wd 81 (by decide +kernel) (by decide +kernel), ⟨by decide, by decide, by decide +kernel⟩⟩
theorem ll_L_blocked : Cond.methodLink "MicRowLaw" 28 yX9_blocked ∈ fm_TT := fm_wd 1084 (by decide +kernel) (by decide +kernel)
theorem wk_L_blocked : Cond.code yX9_blocked cX9_blocked 4 (some .int) ∈ fm_TT := fm_wd 1087 (by decide +kernel) (by decide +kernel)
theorem ch_blocked (l : Launch) (G : fm_G) (N : Nat) (M : fm_M) (v1 : Int32) (v2 : Int32) (v3 : Int32) (qo : Nat) (f : Nat → Int64) (r : Int32) (M' : fm_M) (hf : pMicRow_blocked N M v1 v2 v3 = some (r, M')) : fm_hMet l yL_blocked cL_blocked 6 [(0, 12, 15, 13)] { frames := 8, cells := 1, slots := 6, locals := 149 } G [.ref (G.2.1 0), .int v1, .int v2, .int v3, .ref qo] M qo f 0 M' (vp_updL f 0 r.toInt64) := by
  refine fm_henter (by decide) rfl (Nat.le_of_ble_eq_true rfl) ?_
  intro p e s m args below meth c ls C E hl
  have hl : lv_has ls 6 [(0, .ref (G.2.1 0)), (1, .int v1), (2, .int v2), (3, .int v3), (4, .ref qo)] := hl
  refine lv_aload C.1 C.2.1 dL_blocked_0 (lv_at hl 4 rfl) ?_
  refine lv_iconst (v := 0) C.1 C.2.1 dL_blocked_2 (by decide) ?_
  refine lv_aload_n C.1 C.2.1 dL_blocked_3 rfl (lv_at hl 0 rfl) ?_
  refine lv_iload_n C.1 C.2.1 dL_blocked_4 rfl (lv_at hl 1 rfl) ?_
  refine lv_iload_n C.1 C.2.1 dL_blocked_5 rfl (lv_at hl 2 rfl) ?_
  refine lv_iload_n C.1 C.2.1 dL_blocked_6 rfl (lv_at hl 3 rfl) ?_
  refine fm_hcall C E [.int _, .int _, .int _] [.int _, .ref _] ll_L_blocked lm_L_blocked wk_L_blocked (c_MicRow_blocked l G N _ _ _ _ _ _ hf) rfl rfl hl.1 (by simp [Value.category]) ⟨⟨rfl, rfl⟩, by decide, by decide⟩ ⟨by decide, by decide⟩ dL_blocked_7 rfl (fun H locs E => ?_)
  refine W.eq (g2 := F0 m 10 ls (.int r :: [.int 0, .ref qo])) rfl ?_
  refine lv_i2l C.1 C.2.1 dL_blocked_10 rfl ?_
  refine fm_hst C E dL_blocked_11 (fun H locs E => ?_)
  refine lv_goto (tgt := 19) C.1 C.2.1 dL_blocked_12 (by decide) ?_
  refine lv_iconst (v := 0) C.1 C.2.1 dL_blocked_19 (by decide) ?_
  exact W.widen (by decide) (by decide) (fm_hret C E dL_blocked_20)
theorem ct_blocked (l : Launch) (hfl : l.stackTraces = false) (G : fm_G) (N : Nat) (M : fm_M) (v1 : Int32) (v2 : Int32) (v3 : Int32) (qo : Nat) (f : Nat → Int64) (M' : fm_M) (hf : tMicRow_blocked N M v1 v2 v3 = some M') : fm_hMet l yL_blocked cL_blocked 6 [(0, 12, 15, 13)] { frames := 8, cells := 1, slots := 6, locals := 149 } G [.ref (G.2.1 0), .int v1, .int v2, .int v3, .ref qo] M qo f 1 M' f := by
  refine fm_henter (by decide) rfl (Nat.le_of_ble_eq_true rfl) ?_
  intro p e s m args below meth c ls C E hl
  have hl : lv_has ls 6 [(0, .ref (G.2.1 0)), (1, .int v1), (2, .int v2), (3, .int v3), (4, .ref qo)] := hl
  refine lv_aload C.1 C.2.1 dL_blocked_0 (lv_at hl 4 rfl) ?_
  refine lv_iconst (v := 0) C.1 C.2.1 dL_blocked_2 (by decide) ?_
  refine lv_aload_n C.1 C.2.1 dL_blocked_3 rfl (lv_at hl 0 rfl) ?_
  refine lv_iload_n C.1 C.2.1 dL_blocked_4 rfl (lv_at hl 1 rfl) ?_
  refine lv_iload_n C.1 C.2.1 dL_blocked_5 rfl (lv_at hl 2 rfl) ?_
  refine lv_iload_n C.1 C.2.1 dL_blocked_6 rfl (lv_at hl 3 rfl) ?_
  refine fm_hcatch C E [.int _, .int _, .int _] [.int _, .ref _] ll_L_blocked lm_L_blocked wk_L_blocked (cx_MicRow_blocked l hfl G N _ _ _ _ _ hf) rfl rfl hl.1 (by simp [Value.category]) ⟨⟨rfl, rfl⟩, by decide, by decide⟩ ⟨by decide, by decide⟩ dL_blocked_7 rfl ⟨by decide, by decide⟩ (by decide) fm_hl13 fm_hcast1 (fun H locs q E => ?_)
  refine lv_astore C.1 C.2.1 dL_blocked_15 hl (by decide) (lv' := [(5, .ref q), (0, .ref (G.2.1 0)), (1, .int v1), (2, .int v2), (3, .int v3), (4, .ref qo)]) rfl (fun ls hl => ?_)
  refine lv_iconst (v := 1) C.1 C.2.1 dL_blocked_17 (by decide) ?_
  exact fm_hret C E dL_blocked_18
theorem dL_clean_0 : decode cL_clean 0 = .ok (.aload_n 3, 1) := by decide +kernel
theorem dL_clean_1 : decode cL_clean 1 = .ok (.iconst 0, 1) := by decide +kernel
theorem dL_clean_2 : decode cL_clean 2 = .ok (.aload_n 0, 1) := by decide +kernel
theorem dL_clean_3 : decode cL_clean 3 = .ok (.iload_n 1, 1) := by decide +kernel
theorem dL_clean_4 : decode cL_clean 4 = .ok (.iload_n 2, 1) := by decide +kernel
theorem dL_clean_5 : decode cL_clean 5 = .ok (.invokevirtual 31, 3) := by decide +kernel
theorem dL_clean_8 : decode cL_clean 8 = .ok (.i2l, 1) := by decide +kernel
theorem dL_clean_9 : decode cL_clean 9 = .ok (.lastore, 1) := by decide +kernel
theorem dL_clean_10 : decode cL_clean 10 = .ok (.goto 7, 3) := by decide +kernel
theorem dL_clean_13 : decode cL_clean 13 = .ok (.astore 4, 2) := by decide +kernel
theorem dL_clean_15 : decode cL_clean 15 = .ok (.iconst 1, 1) := by decide +kernel
theorem dL_clean_16 : decode cL_clean 16 = .ok (.ireturn, 1) := by decide +kernel
theorem dL_clean_17 : decode cL_clean 17 = .ok (.iconst 0, 1) := by decide +kernel
theorem dL_clean_18 : decode cL_clean 18 = .ok (.ireturn, 1) := by decide +kernel
theorem lm_L_clean : fm_V "MicRowLaw" 31 yX9_clean 2 := ⟨Or.inl (fm_wd 1091 (by decide +kernel) (by decide +kernel)), fm_wd 1092 (by decide +kernel) (by decide +kernel), fm_wd 1093 (by decide +kernel) (by decide +kernel), fm_wd 81 (by decide +kernel) (by decide +kernel), ⟨by decide, by decide, by decide +kernel⟩⟩
theorem ll_L_clean : Cond.methodLink "MicRowLaw" 31 yX9_clean ∈ fm_TT := fm_wd 1091 (by decide +kernel) (by decide +kernel)
theorem wk_L_clean : Cond.code yX9_clean cX9_clean 3 (some .int) ∈ fm_TT := fm_wd 1094 (by decide +kernel) (by decide +kernel)
theorem ch_clean (l : Launch) (G : fm_G) (N : Nat) (M : fm_M) (v1 : Int32) (v2 : Int32) (qo : Nat) (f : Nat → Int64) (r : Int32) (M' : fm_M) (hf : pMicRow_clean N M v1 v2 = some (r, M')) : fm_hMet l yL_clean cL_clean 5 [(0, 10, 13, 13)] { frames := 8, cells := 1, slots := 6, locals := 190 } G [.ref (G.2.1 0), .int v1, .int v2, .ref qo] M qo f 0 M' (vp_updL f 0 r.toInt64) := by
  refine fm_henter (by decide) rfl (Nat.le_of_ble_eq_true rfl) ?_
  intro p e s m args below meth c ls C E hl
  have hl : lv_has ls 5 [(0, .ref (G.2.1 0)), (1, .int v1), (2, .int v2), (3, .ref qo)] := hl
  refine lv_aload_n C.1 C.2.1 dL_clean_0 rfl (lv_at hl 3 rfl) ?_
  refine lv_iconst (v := 0) C.1 C.2.1 dL_clean_1 (by decide) ?_
  refine lv_aload_n C.1 C.2.1 dL_clean_2 rfl (lv_at hl 0 rfl) ?_
  refine lv_iload_n C.1 C.2.1 dL_clean_3 rfl (lv_at hl 1 rfl) ?_
  refine lv_iload_n C.1 C.2.1 dL_clean_4 rfl (lv_at hl 2 rfl) ?_
  refine fm_hcall C E [.int _, .int _] [.int _, .ref _] ll_L_clean lm_L_clean wk_L_clean (c_MicRow_clean l G N _ _ _ _ _ hf) rfl rfl hl.1 (by simp [Value.category]) ⟨⟨rfl, rfl⟩, by decide, by decide⟩ ⟨by decide, by decide⟩ dL_clean_5 rfl (fun H locs E => ?_)
  refine W.eq (g2 := F0 m 8 ls (.int r :: [.int 0, .ref qo])) rfl ?_
  refine lv_i2l C.1 C.2.1 dL_clean_8 rfl ?_
  refine fm_hst C E dL_clean_9 (fun H locs E => ?_)
  refine lv_goto (tgt := 17) C.1 C.2.1 dL_clean_10 (by decide) ?_
  refine lv_iconst (v := 0) C.1 C.2.1 dL_clean_17 (by decide) ?_
  exact W.widen (by decide) (by decide) (fm_hret C E dL_clean_18)
theorem ct_clean (l : Launch) (hfl : l.stackTraces = false) (G : fm_G) (N : Nat) (M : fm_M) (v1 : Int32) (v2 : Int32) (qo : Nat) (f : Nat → Int64) (M' : fm_M) (hf : tMicRow_clean N M v1 v2 = some M') : fm_hMet l yL_clean cL_clean 5 [(0, 10, 13, 13)] { frames := 8, cells := 1, slots := 6, locals := 190 } G [.ref (G.2.1 0), .int v1, .int v2, .ref qo] M qo f 1 M' f := by
  refine fm_henter (by decide) rfl (Nat.le_of_ble_eq_true rfl) ?_
  intro p e s m args below meth c ls C E hl
  have hl : lv_has ls 5 [(0, .ref (G.2.1 0)), (1, .int v1), (2, .int v2), (3, .ref qo)] := hl
  refine lv_aload_n C.1 C.2.1 dL_clean_0 rfl (lv_at hl 3 rfl) ?_
  refine lv_iconst (v := 0) C.1 C.2.1 dL_clean_1 (by decide) ?_
  refine lv_aload_n C.1 C.2.1 dL_clean_2 rfl (lv_at hl 0 rfl) ?_
  refine lv_iload_n C.1 C.2.1 dL_clean_3 rfl (lv_at hl 1 rfl) ?_
  refine lv_iload_n C.1 C.2.1 dL_clean_4 rfl (lv_at hl 2 rfl) ?_
  refine fm_hcatch C E [.int _, .int _] [.int _, .ref _] ll_L_clean lm_L_clean wk_L_clean (cx_MicRow_clean l hfl G N _ _ _ _ hf) rfl rfl hl.1 (by simp [Value.category]) ⟨⟨rfl, rfl⟩, by decide, by decide⟩ ⟨by decide, by decide⟩ dL_clean_5 rfl ⟨by decide, by decide⟩ (by decide) fm_hl13 fm_hcast1 (fun H locs q E => ?_)
  refine lv_astore C.1 C.2.1 dL_clean_13 hl (by decide) (lv' := [(4, .ref q), (0, .ref (G.2.1 0)), (1, .int v1), (2, .int v2), (3, .ref qo)]) rfl (fun ls hl => ?_)
  refine lv_iconst (v := 1) C.1 C.2.1 dL_clean_15 (by decide) ?_
  exact fm_hret C E dL_clean_16
theorem dL_row_0 : decode cL_row 0 = .ok (.aload_n 2, 1) := by decide +kernel
theorem dL_row_1 : decode cL_row 1 = .ok (.iconst 0, 1) := by decide +kernel
theorem dL_row_2 : decode cL_row 2 = .ok (.aload_n 0, 1) := by decide +kernel
theorem dL_row_3 : decode cL_row 3 = .ok (.iload_n 1, 1) := by decide +kernel
theorem dL_row_4 : decode cL_row 4 = .ok (.invokevirtual 34, 3) := by decide +kernel
theorem dL_row_7 : decode cL_row 7 = .ok (.lastore, 1) := by decide +kernel
theorem dL_row_8 : decode cL_row 8 = .ok (.goto 6, 3) := by decide +kernel
theorem dL_row_11 : decode cL_row 11 = .ok (.astore_n 3, 1) := by decide +kernel
theorem dL_row_12 : decode cL_row 12 = .ok (.iconst 1, 1) := by decide +kernel
theorem dL_row_13 : decode cL_row 13 = .ok (.ireturn, 1) := by decide +kernel
theorem dL_row_14 : decode cL_row 14 = .ok (.iconst 0, 1) := by decide +kernel
theorem dL_row_15 : decode cL_row 15 = .ok (.ireturn, 1) := by decide +kernel
theorem lm_L_row : fm_V "MicRowLaw" 34 yX9_row 1 := ⟨Or.inl (fm_wd 1098 (by decide +kernel) (by decide +kernel)), fm_wd 1099 (by decide +kernel) (by decide +kernel), fm_wd 1100 (by decide +kernel) (by decide +kernel), fm_wd 81 (by decide +kernel) (by decide +kernel), ⟨by decide, by decide, by decide +kernel⟩⟩
theorem ll_L_row : Cond.methodLink "MicRowLaw" 34 yX9_row ∈ fm_TT := fm_wd 1098 (by decide +kernel) (by decide +kernel)
theorem wk_L_row : Cond.code yX9_row cX9_row 2 (some .long) ∈ fm_TT := fm_wd 1101 (by decide +kernel) (by decide +kernel)
theorem ch_row (l : Launch) (G : fm_G) (M : fm_M) (v1 : Int32) (qo : Nat) (f : Nat → Int64) (r : Int64) (hf : pMicRow_row M v1 = some r) : fm_hMet l yL_row cL_row 4 [(0, 8, 11, 13)] { frames := 8, cells := 1, slots := 6, locals := 123 } G [.ref (G.2.1 0), .int v1, .ref qo] M qo f 0 M (vp_updL f 0 r) := by
  refine fm_henter (by decide) rfl (Nat.le_of_ble_eq_true rfl) ?_
  intro p e s m args below meth c ls C E hl
  have hl : lv_has ls 4 [(0, .ref (G.2.1 0)), (1, .int v1), (2, .ref qo)] := hl
  refine lv_aload_n C.1 C.2.1 dL_row_0 rfl (lv_at hl 2 rfl) ?_
  refine lv_iconst (v := 0) C.1 C.2.1 dL_row_1 (by decide) ?_
  refine lv_aload_n C.1 C.2.1 dL_row_2 rfl (lv_at hl 0 rfl) ?_
  refine lv_iload_n C.1 C.2.1 dL_row_3 rfl (lv_at hl 1 rfl) ?_
  refine fm_hcall C E [.int _] [.int _, .ref _] ll_L_row lm_L_row wk_L_row (c_MicRow_row l G _ _ _ hf) rfl rfl hl.1 (by simp [Value.category]) ⟨⟨rfl, rfl⟩, by decide, by decide⟩ ⟨by decide, by decide⟩ dL_row_4 rfl (fun H locs E => ?_)
  refine W.eq (g2 := F0 m 7 ls (.long r :: [.int 0, .ref qo])) rfl ?_
  refine fm_hst C E dL_row_7 (fun H locs E => ?_)
  refine lv_goto (tgt := 14) C.1 C.2.1 dL_row_8 (by decide) ?_
  refine lv_iconst (v := 0) C.1 C.2.1 dL_row_14 (by decide) ?_
  exact W.widen (by decide) (by decide) (fm_hret C E dL_row_15)
theorem ct_row (l : Launch) (hfl : l.stackTraces = false) (G : fm_G) (M : fm_M) (v1 : Int32) (qo : Nat) (f : Nat → Int64) (M' : fm_M) (hf : tMicRow_row M v1 = some M') : fm_hMet l yL_row cL_row 4 [(0, 8, 11, 13)] { frames := 8, cells := 1, slots := 6, locals := 123 } G [.ref (G.2.1 0), .int v1, .ref qo] M qo f 1 M' f := by
  refine fm_henter (by decide) rfl (Nat.le_of_ble_eq_true rfl) ?_
  intro p e s m args below meth c ls C E hl
  have hl : lv_has ls 4 [(0, .ref (G.2.1 0)), (1, .int v1), (2, .ref qo)] := hl
  refine lv_aload_n C.1 C.2.1 dL_row_0 rfl (lv_at hl 2 rfl) ?_
  refine lv_iconst (v := 0) C.1 C.2.1 dL_row_1 (by decide) ?_
  refine lv_aload_n C.1 C.2.1 dL_row_2 rfl (lv_at hl 0 rfl) ?_
  refine lv_iload_n C.1 C.2.1 dL_row_3 rfl (lv_at hl 1 rfl) ?_
  refine fm_hcatch C E [.int _] [.int _, .ref _] ll_L_row lm_L_row wk_L_row (cx_MicRow_row l hfl G _ _ _ hf) rfl rfl hl.1 (by simp [Value.category]) ⟨⟨rfl, rfl⟩, by decide, by decide⟩ ⟨by decide, by decide⟩ dL_row_4 rfl ⟨by decide, by decide⟩ (by decide) fm_hl13 fm_hcast1 (fun H locs q E => ?_)
  refine lv_astore_n C.1 C.2.1 dL_row_11 rfl hl (by decide) (lv' := [(3, .ref q), (0, .ref (G.2.1 0)), (1, .int v1), (2, .ref qo)]) rfl (fun ls hl => ?_)
  refine lv_iconst (v := 1) C.1 C.2.1 dL_row_12 (by decide) ?_
  exact fm_hret C E dL_row_13
