section LWC
variable {p : Program} {l : Launch} {e : Env} {s : State} {m : MethodId} {below : List Frame} {meth : Method} {c : Code} {H : Heap} {locs : List Loc} {cells slots : Nat} {Q : State → Prop}
variable {qo b L N n : Nat} {xs : Nat → Int32} {ls : Array Slot} {G : fm_G} {M1 M2 : fm_M} {f : Nat → Int64} {ad1 ad2 : Nat → Nat} {i : Int32} {R : Nat → fm_M → fm_M → Prop}
theorem dL_law_236 : decode cL_law 236 = .ok (.aload_n 1, 1) := by decide +kernel
theorem dL_law_237 : decode cL_law 237 = .ok (.aload_n 0, 1) := by decide +kernel
theorem dL_law_238 : decode cL_law 238 = .ok (.iload 4, 2) := by decide +kernel
theorem dL_law_240 : decode cL_law 240 = .ok (.iconst 1, 1) := by decide +kernel
theorem dL_law_241 : decode cL_law 241 = .ok (.iadd, 1) := by decide +kernel
theorem dL_law_242 : decode cL_law 242 = .ok (.iaload, 1) := by decide +kernel
theorem dL_law_243 : decode cL_law 243 = .ok (.invokevirtual 42, 3) := by decide +kernel
theorem dL_law_246 : decode cL_law 246 = .ok (.aload_n 2, 1) := by decide +kernel
theorem dL_law_247 : decode cL_law 247 = .ok (.aload_n 0, 1) := by decide +kernel
theorem dL_law_248 : decode cL_law 248 = .ok (.iload 4, 2) := by decide +kernel
theorem dL_law_250 : decode cL_law 250 = .ok (.iconst 1, 1) := by decide +kernel
theorem dL_law_251 : decode cL_law 251 = .ok (.iadd, 1) := by decide +kernel
theorem dL_law_252 : decode cL_law 252 = .ok (.iaload, 1) := by decide +kernel
theorem dL_law_253 : decode cL_law 253 = .ok (.invokevirtual 46, 3) := by decide +kernel
theorem dL_law_256 : decode cL_law 256 = .ok (.if_icmp .eq 1581, 3) := by decide +kernel
theorem dL_law_259 : decode cL_law 259 = .ok (.iconst 0, 1) := by decide +kernel
theorem dL_law_260 : decode cL_law 260 = .ok (.ireturn, 1) := by decide +kernel
set_option maxHeartbeats 2000000 in
theorem lq_X9_sign : fm_V "MicRowLaw" 42 yX9_sign 1 := ⟨Or.inl (fm_wd 343 (by decide +kernel) (by decide +kernel)), fm_wd 344 (by decide +kernel) (by decide +kernel), fm_wd 345 (by decide +kernel) (by decide +kernel), fm_wd 81 (by decide +kernel) (by decide +kernel), ⟨by decide, by decide, by decide +kernel⟩⟩
theorem ln_X9_sign : Cond.methodLink "MicRowLaw" 42 yX9_sign ∈ fm_TT := fm_wd 343 (by decide +kernel) (by decide +kernel)
theorem lk_X9_sign : Cond.code yX9_sign cX9_sign 2 (some .int) ∈ fm_TT := fm_wd 346 (by decide +kernel) (by decide +kernel)
theorem lq_X10_sign : fm_V "MicRowLaw" 46 yX10_sign 1 := ⟨Or.inl (fm_wd 1206 (by decide +kernel) (by decide +kernel)), fm_wd 1207 (by decide +kernel) (by decide +kernel), fm_wd 1208 (by decide +kernel) (by decide +kernel), fm_wd 91 (by decide +kernel) (by decide +kernel), ⟨by decide, by decide, by decide +kernel⟩⟩
theorem ln_X10_sign : Cond.methodLink "MicRowLaw" 46 yX10_sign ∈ fm_TT := fm_wd 1206 (by decide +kernel) (by decide +kernel)
theorem lk_X10_sign : Cond.code yX10_sign cX10_sign 3 (some .int) ∈ fm_TT := fm_wd 1209 (by decide +kernel) (by decide +kernel)
theorem lw_case_sign (C : fm_LC G ad1 ad2 qo p s m meth c b L xs) (hfl : l.stackTraces = false) (hcs : cells + 1 ≤ room_1.cells ∧ slots + 6 ≤ room_1.slots) (E : fm_LW G ad1 ad2 qo M1 M2 f s H locs) (hl : lv_has ls 8 [(0, .ref b), (1, .ref (ad1 0)), (2, .ref (ad2 0)), (3, .ref qo), (4, .int i)]) (h1 : fm_in (i + 1) L = true) (h2 : fm_in (i + 2) L = true) (h3 : fm_in (i + 3) L = true) (h4 : fm_in (i + 4) L = true) (hn : n < 512) (hR : R n M1 M2) (hc : cp_sign N R) (kk : fm_KK p l e s m below meth c cells slots Q qo b n G ad1 ad2 i R) : W p l e room_1 s m #[Value.ref b] below meth c H locs cells slots Q (F0 m 236 ls []) := by
  obtain ⟨hc1, hc2⟩ := hcs
  have hc0 : cells ≤ room_1.cells ∧ slots ≤ room_1.slots := ⟨by omega, by omega⟩
  obtain ⟨r, M1', M2', hf1, hf2, hR'⟩ := hc n M1 M2 (xs (i + 1).toNatClampNeg) hn hR
  refine lv_aload_n C.1.1 C.1.2.1 dL_law_236 rfl (lv_at hl 1 rfl) ?_
  refine lv_aload_n C.1.1 C.1.2.1 dL_law_237 rfl (lv_at hl 0 rfl) ?_
  refine lv_iload C.1.1 C.1.2.1 dL_law_238 (lv_at hl 4 rfl) ?_
  refine lv_iconst (v := 1) C.1.1 C.1.2.1 dL_law_240 (by decide) ?_
  refine lv_iadd C.1.1 C.1.2.1 dL_law_241 ?_
  refine fm_lsld C E h1 dL_law_242 ?_
  refine fm_lcallC C E [.int _] [] lq_X9_sign ln_X9_sign lk_X9_sign (c_MicRow_sign l _ N _ _ _ _ hf1) rfl rfl hl.1 (by simp) ⟨⟨rfl, rfl⟩, Nat.le_of_ble_eq_true rfl, Nat.le_of_ble_eq_true rfl⟩ hc0 dL_law_243 rfl (fun H locs E => ?_)
  refine W.eq (g2 := F0 m 246 ls [.int r]) rfl ?_
  refine lv_aload_n C.1.1 C.1.2.1 dL_law_246 rfl (lv_at hl 2 rfl) ?_
  refine lv_aload_n C.1.1 C.1.2.1 dL_law_247 rfl (lv_at hl 0 rfl) ?_
  refine lv_iload C.1.1 C.1.2.1 dL_law_248 (lv_at hl 4 rfl) ?_
  refine lv_iconst (v := 1) C.1.1 C.1.2.1 dL_law_250 (by decide) ?_
  refine lv_iadd C.1.1 C.1.2.1 dL_law_251 ?_
  refine fm_lsld C E h1 dL_law_252 ?_
  refine fm_lcallM C E [.int _] [.int r] lq_X10_sign ln_X10_sign lk_X10_sign (c_Model_sign l _ N _ _ _ _ hf2) rfl rfl hl.1 (by simp [Value.category]) ⟨⟨rfl, rfl⟩, Nat.le_of_ble_eq_true rfl, Nat.le_of_ble_eq_true rfl⟩ hc0 dL_law_253 rfl (fun H locs E => ?_)
  refine W.eq (g2 := F0 m 256 ls [.int r, .int r]) rfl ?_
  refine lv_icmp_eq (tgt := 1837) C.1.1 C.1.2.1 dL_law_256 (by decide) (fun _ => ?_) (fun h => absurd rfl h)
  exact W.widen (Nat.le_succ _) (Nat.le_add_right _ 6) (kk M1' M2' f H locs ls hR' E hl)
theorem dL_law_261 : decode cL_law 261 = .ok (.aload_n 1, 1) := by decide +kernel
theorem dL_law_262 : decode cL_law 262 = .ok (.aload_n 0, 1) := by decide +kernel
theorem dL_law_263 : decode cL_law 263 = .ok (.iload 4, 2) := by decide +kernel
theorem dL_law_265 : decode cL_law 265 = .ok (.iconst 1, 1) := by decide +kernel
theorem dL_law_266 : decode cL_law 266 = .ok (.iadd, 1) := by decide +kernel
theorem dL_law_267 : decode cL_law 267 = .ok (.iaload, 1) := by decide +kernel
theorem dL_law_268 : decode cL_law 268 = .ok (.invokevirtual 47, 3) := by decide +kernel
theorem dL_law_271 : decode cL_law 271 = .ok (.aload_n 2, 1) := by decide +kernel
theorem dL_law_272 : decode cL_law 272 = .ok (.aload_n 0, 1) := by decide +kernel
theorem dL_law_273 : decode cL_law 273 = .ok (.iload 4, 2) := by decide +kernel
theorem dL_law_275 : decode cL_law 275 = .ok (.iconst 1, 1) := by decide +kernel
theorem dL_law_276 : decode cL_law 276 = .ok (.iadd, 1) := by decide +kernel
theorem dL_law_277 : decode cL_law 277 = .ok (.iaload, 1) := by decide +kernel
theorem dL_law_278 : decode cL_law 278 = .ok (.invokevirtual 51, 3) := by decide +kernel
theorem dL_law_281 : decode cL_law 281 = .ok (.if_icmp .eq 1556, 3) := by decide +kernel
theorem dL_law_284 : decode cL_law 284 = .ok (.iconst 0, 1) := by decide +kernel
theorem dL_law_285 : decode cL_law 285 = .ok (.ireturn, 1) := by decide +kernel
set_option maxHeartbeats 2000000 in
theorem lq_X9_end : fm_V "MicRowLaw" 47 yX9_end 1 := ⟨Or.inl (fm_wd 351 (by decide +kernel) (by decide +kernel)), fm_wd 352 (by decide +kernel) (by decide +kernel), fm_wd 353 (by decide +kernel) (by decide +kernel), fm_wd 81 (by decide +kernel) (by decide +kernel), ⟨by decide, by decide, by decide +kernel⟩⟩
theorem ln_X9_end : Cond.methodLink "MicRowLaw" 47 yX9_end ∈ fm_TT := fm_wd 351 (by decide +kernel) (by decide +kernel)
theorem lk_X9_end : Cond.code yX9_end cX9_end 2 (some .boolean) ∈ fm_TT := fm_wd 354 (by decide +kernel) (by decide +kernel)
theorem lq_X10_end : fm_V "MicRowLaw" 51 yX10_end 1 := ⟨Or.inl (fm_wd 1210 (by decide +kernel) (by decide +kernel)), fm_wd 1211 (by decide +kernel) (by decide +kernel), fm_wd 1212 (by decide +kernel) (by decide +kernel), fm_wd 91 (by decide +kernel) (by decide +kernel), ⟨by decide, by decide, by decide +kernel⟩⟩
theorem ln_X10_end : Cond.methodLink "MicRowLaw" 51 yX10_end ∈ fm_TT := fm_wd 1210 (by decide +kernel) (by decide +kernel)
theorem lk_X10_end : Cond.code yX10_end cX10_end 2 (some .boolean) ∈ fm_TT := fm_wd 1213 (by decide +kernel) (by decide +kernel)
theorem lw_case_end (C : fm_LC G ad1 ad2 qo p s m meth c b L xs) (hfl : l.stackTraces = false) (hcs : cells + 1 ≤ room_1.cells ∧ slots + 6 ≤ room_1.slots) (E : fm_LW G ad1 ad2 qo M1 M2 f s H locs) (hl : lv_has ls 8 [(0, .ref b), (1, .ref (ad1 0)), (2, .ref (ad2 0)), (3, .ref qo), (4, .int i)]) (h1 : fm_in (i + 1) L = true) (h2 : fm_in (i + 2) L = true) (h3 : fm_in (i + 3) L = true) (h4 : fm_in (i + 4) L = true) (hn : n < 512) (hR : R n M1 M2) (hc : cp_end N R) (kk : fm_KK p l e s m below meth c cells slots Q qo b n G ad1 ad2 i R) : W p l e room_1 s m #[Value.ref b] below meth c H locs cells slots Q (F0 m 261 ls []) := by
  obtain ⟨hc1, hc2⟩ := hcs
  have hc0 : cells ≤ room_1.cells ∧ slots ≤ room_1.slots := ⟨by omega, by omega⟩
  obtain ⟨r, M1', M2', hf1, hf2, hR'⟩ := hc n M1 M2 (xs (i + 1).toNatClampNeg) hn hR
  refine lv_aload_n C.1.1 C.1.2.1 dL_law_261 rfl (lv_at hl 1 rfl) ?_
  refine lv_aload_n C.1.1 C.1.2.1 dL_law_262 rfl (lv_at hl 0 rfl) ?_
  refine lv_iload C.1.1 C.1.2.1 dL_law_263 (lv_at hl 4 rfl) ?_
  refine lv_iconst (v := 1) C.1.1 C.1.2.1 dL_law_265 (by decide) ?_
  refine lv_iadd C.1.1 C.1.2.1 dL_law_266 ?_
  refine fm_lsld C E h1 dL_law_267 ?_
  refine fm_lcallC C E [.int _] [] lq_X9_end ln_X9_end lk_X9_end (c_MicRow_end l _ _ _ _ _ hf1) rfl rfl hl.1 (by simp) ⟨⟨rfl, rfl⟩, Nat.le_of_ble_eq_true rfl, Nat.le_of_ble_eq_true rfl⟩ hc0 dL_law_268 rfl (fun H locs E => ?_)
  refine W.eq (g2 := F0 m 271 ls [.int r]) rfl ?_
  refine lv_aload_n C.1.1 C.1.2.1 dL_law_271 rfl (lv_at hl 2 rfl) ?_
  refine lv_aload_n C.1.1 C.1.2.1 dL_law_272 rfl (lv_at hl 0 rfl) ?_
  refine lv_iload C.1.1 C.1.2.1 dL_law_273 (lv_at hl 4 rfl) ?_
  refine lv_iconst (v := 1) C.1.1 C.1.2.1 dL_law_275 (by decide) ?_
  refine lv_iadd C.1.1 C.1.2.1 dL_law_276 ?_
  refine fm_lsld C E h1 dL_law_277 ?_
  refine fm_lcallM C E [.int _] [.int r] lq_X10_end ln_X10_end lk_X10_end (c_Model_end l _ _ _ _ _ hf2) rfl rfl hl.1 (by simp [Value.category]) ⟨⟨rfl, rfl⟩, Nat.le_of_ble_eq_true rfl, Nat.le_of_ble_eq_true rfl⟩ hc0 dL_law_278 rfl (fun H locs E => ?_)
  refine W.eq (g2 := F0 m 281 ls [.int r, .int r]) rfl ?_
  refine lv_icmp_eq (tgt := 1837) C.1.1 C.1.2.1 dL_law_281 (by decide) (fun _ => ?_) (fun h => absurd rfl h)
  exact W.widen (Nat.le_succ _) (Nat.le_add_right _ 6) (kk M1' M2' f H locs ls hR' E hl)
theorem dL_law_286 : decode cL_law 286 = .ok (.aload_n 1, 1) := by decide +kernel
theorem dL_law_287 : decode cL_law 287 = .ok (.invokevirtual 52, 3) := by decide +kernel
theorem dL_law_290 : decode cL_law 290 = .ok (.aload_n 2, 1) := by decide +kernel
theorem dL_law_291 : decode cL_law 291 = .ok (.invokevirtual 56, 3) := by decide +kernel
theorem dL_law_294 : decode cL_law 294 = .ok (.if_icmp .eq 1543, 3) := by decide +kernel
theorem dL_law_297 : decode cL_law 297 = .ok (.iconst 0, 1) := by decide +kernel
theorem dL_law_298 : decode cL_law 298 = .ok (.ireturn, 1) := by decide +kernel
set_option maxHeartbeats 2000000 in
theorem lq_X9_mics : fm_V "MicRowLaw" 52 yX9_mics 0 := ⟨Or.inl (fm_wd 359 (by decide +kernel) (by decide +kernel)), fm_wd 360 (by decide +kernel) (by decide +kernel), fm_wd 361 (by decide +kernel) (by decide +kernel), fm_wd 81 (by decide +kernel) (by decide +kernel), ⟨by decide, by decide, by decide +kernel⟩⟩
theorem ln_X9_mics : Cond.methodLink "MicRowLaw" 52 yX9_mics ∈ fm_TT := fm_wd 359 (by decide +kernel) (by decide +kernel)
theorem lk_X9_mics : Cond.code yX9_mics cX9_mics 2 (some .int) ∈ fm_TT := fm_wd 362 (by decide +kernel) (by decide +kernel)
theorem lq_X10_mics : fm_V "MicRowLaw" 56 yX10_mics 0 := ⟨Or.inl (fm_wd 1217 (by decide +kernel) (by decide +kernel)), fm_wd 1218 (by decide +kernel) (by decide +kernel), fm_wd 1219 (by decide +kernel) (by decide +kernel), fm_wd 91 (by decide +kernel) (by decide +kernel), ⟨by decide, by decide, by decide +kernel⟩⟩
theorem ln_X10_mics : Cond.methodLink "MicRowLaw" 56 yX10_mics ∈ fm_TT := fm_wd 1217 (by decide +kernel) (by decide +kernel)
theorem lk_X10_mics : Cond.code yX10_mics cX10_mics 5 (some .int) ∈ fm_TT := fm_wd 1220 (by decide +kernel) (by decide +kernel)
theorem lw_case_mics (C : fm_LC G ad1 ad2 qo p s m meth c b L xs) (hfl : l.stackTraces = false) (hcs : cells + 1 ≤ room_1.cells ∧ slots + 6 ≤ room_1.slots) (E : fm_LW G ad1 ad2 qo M1 M2 f s H locs) (hl : lv_has ls 8 [(0, .ref b), (1, .ref (ad1 0)), (2, .ref (ad2 0)), (3, .ref qo), (4, .int i)]) (h1 : fm_in (i + 1) L = true) (h2 : fm_in (i + 2) L = true) (h3 : fm_in (i + 3) L = true) (h4 : fm_in (i + 4) L = true) (hn : n < 512) (hR : R n M1 M2) (hc : cp_mics N R) (kk : fm_KK p l e s m below meth c cells slots Q qo b n G ad1 ad2 i R) : W p l e room_1 s m #[Value.ref b] below meth c H locs cells slots Q (F0 m 286 ls []) := by
  obtain ⟨hc1, hc2⟩ := hcs
  have hc0 : cells ≤ room_1.cells ∧ slots ≤ room_1.slots := ⟨by omega, by omega⟩
  obtain ⟨r, M1', M2', hf1, hf2, hR'⟩ := hc n M1 M2  hn hR
  refine lv_aload_n C.1.1 C.1.2.1 dL_law_286 rfl (lv_at hl 1 rfl) ?_
  refine fm_lcallC C E [] [] lq_X9_mics ln_X9_mics lk_X9_mics (c_MicRow_mics l _ N _ _ _ hf1) rfl rfl hl.1 (by simp) ⟨⟨rfl, rfl⟩, Nat.le_of_ble_eq_true rfl, Nat.le_of_ble_eq_true rfl⟩ hc0 dL_law_287 rfl (fun H locs E => ?_)
  refine W.eq (g2 := F0 m 290 ls [.int r]) rfl ?_
  refine lv_aload_n C.1.1 C.1.2.1 dL_law_290 rfl (lv_at hl 2 rfl) ?_
  refine fm_lcallM C E [] [.int r] lq_X10_mics ln_X10_mics lk_X10_mics (c_Model_mics l _ N _ _ _ hf2) rfl rfl hl.1 (by simp [Value.category]) ⟨⟨rfl, rfl⟩, Nat.le_of_ble_eq_true rfl, Nat.le_of_ble_eq_true rfl⟩ hc0 dL_law_291 rfl (fun H locs E => ?_)
  refine W.eq (g2 := F0 m 294 ls [.int r, .int r]) rfl ?_
  refine lv_icmp_eq (tgt := 1837) C.1.1 C.1.2.1 dL_law_294 (by decide) (fun _ => ?_) (fun h => absurd rfl h)
  exact W.widen (Nat.le_succ _) (Nat.le_add_right _ 6) (kk M1' M2' f H locs ls hR' E hl)
theorem dL_law_299 : decode cL_law 299 = .ok (.aload_n 1, 1) := by decide +kernel
theorem dL_law_300 : decode cL_law 300 = .ok (.invokevirtual 57, 3) := by decide +kernel
theorem dL_law_303 : decode cL_law 303 = .ok (.aload_n 2, 1) := by decide +kernel
theorem dL_law_304 : decode cL_law 304 = .ok (.invokevirtual 60, 3) := by decide +kernel
theorem dL_law_307 : decode cL_law 307 = .ok (.if_icmp .eq 1530, 3) := by decide +kernel
theorem dL_law_310 : decode cL_law 310 = .ok (.iconst 0, 1) := by decide +kernel
theorem dL_law_311 : decode cL_law 311 = .ok (.ireturn, 1) := by decide +kernel
set_option maxHeartbeats 2000000 in
theorem lq_X9_sources : fm_V "MicRowLaw" 57 yX9_sources 0 := ⟨Or.inl (fm_wd 412 (by decide +kernel) (by decide +kernel)), fm_wd 413 (by decide +kernel) (by decide +kernel), fm_wd 414 (by decide +kernel) (by decide +kernel), fm_wd 81 (by decide +kernel) (by decide +kernel), ⟨by decide, by decide, by decide +kernel⟩⟩
theorem ln_X9_sources : Cond.methodLink "MicRowLaw" 57 yX9_sources ∈ fm_TT := fm_wd 412 (by decide +kernel) (by decide +kernel)
theorem lk_X9_sources : Cond.code yX9_sources cX9_sources 2 (some .int) ∈ fm_TT := fm_wd 415 (by decide +kernel) (by decide +kernel)
theorem lq_X10_sources : fm_V "MicRowLaw" 60 yX10_sources 0 := ⟨Or.inl (fm_wd 1267 (by decide +kernel) (by decide +kernel)), fm_wd 1268 (by decide +kernel) (by decide +kernel), fm_wd 1269 (by decide +kernel) (by decide +kernel), fm_wd 91 (by decide +kernel) (by decide +kernel), ⟨by decide, by decide, by decide +kernel⟩⟩
theorem ln_X10_sources : Cond.methodLink "MicRowLaw" 60 yX10_sources ∈ fm_TT := fm_wd 1267 (by decide +kernel) (by decide +kernel)
theorem lk_X10_sources : Cond.code yX10_sources cX10_sources 4 (some .int) ∈ fm_TT := fm_wd 1270 (by decide +kernel) (by decide +kernel)
theorem lw_case_sources (C : fm_LC G ad1 ad2 qo p s m meth c b L xs) (hfl : l.stackTraces = false) (hcs : cells + 1 ≤ room_1.cells ∧ slots + 6 ≤ room_1.slots) (E : fm_LW G ad1 ad2 qo M1 M2 f s H locs) (hl : lv_has ls 8 [(0, .ref b), (1, .ref (ad1 0)), (2, .ref (ad2 0)), (3, .ref qo), (4, .int i)]) (h1 : fm_in (i + 1) L = true) (h2 : fm_in (i + 2) L = true) (h3 : fm_in (i + 3) L = true) (h4 : fm_in (i + 4) L = true) (hn : n < 512) (hR : R n M1 M2) (hc : cp_sources N R) (kk : fm_KK p l e s m below meth c cells slots Q qo b n G ad1 ad2 i R) : W p l e room_1 s m #[Value.ref b] below meth c H locs cells slots Q (F0 m 299 ls []) := by
  obtain ⟨hc1, hc2⟩ := hcs
  have hc0 : cells ≤ room_1.cells ∧ slots ≤ room_1.slots := ⟨by omega, by omega⟩
  obtain ⟨r, M1', M2', hf1, hf2, hR'⟩ := hc n M1 M2  hn hR
  refine lv_aload_n C.1.1 C.1.2.1 dL_law_299 rfl (lv_at hl 1 rfl) ?_
  refine fm_lcallC C E [] [] lq_X9_sources ln_X9_sources lk_X9_sources (c_MicRow_sources l _ N _ _ _ hf1) rfl rfl hl.1 (by simp) ⟨⟨rfl, rfl⟩, Nat.le_of_ble_eq_true rfl, Nat.le_of_ble_eq_true rfl⟩ hc0 dL_law_300 rfl (fun H locs E => ?_)
  refine W.eq (g2 := F0 m 303 ls [.int r]) rfl ?_
  refine lv_aload_n C.1.1 C.1.2.1 dL_law_303 rfl (lv_at hl 2 rfl) ?_
  refine fm_lcallM C E [] [.int r] lq_X10_sources ln_X10_sources lk_X10_sources (c_Model_sources l _ N _ _ _ hf2) rfl rfl hl.1 (by simp [Value.category]) ⟨⟨rfl, rfl⟩, Nat.le_of_ble_eq_true rfl, Nat.le_of_ble_eq_true rfl⟩ hc0 dL_law_304 rfl (fun H locs E => ?_)
  refine W.eq (g2 := F0 m 307 ls [.int r, .int r]) rfl ?_
  refine lv_icmp_eq (tgt := 1837) C.1.1 C.1.2.1 dL_law_307 (by decide) (fun _ => ?_) (fun h => absurd rfl h)
  exact W.widen (Nat.le_succ _) (Nat.le_add_right _ 6) (kk M1' M2' f H locs ls hR' E hl)
theorem dL_law_312 : decode cL_law 312 = .ok (.aload_n 1, 1) := by decide +kernel
theorem dL_law_313 : decode cL_law 313 = .ok (.aload_n 0, 1) := by decide +kernel
theorem dL_law_314 : decode cL_law 314 = .ok (.iload 4, 2) := by decide +kernel
theorem dL_law_316 : decode cL_law 316 = .ok (.iconst 1, 1) := by decide +kernel
theorem dL_law_317 : decode cL_law 317 = .ok (.iadd, 1) := by decide +kernel
theorem dL_law_318 : decode cL_law 318 = .ok (.iaload, 1) := by decide +kernel
theorem dL_law_319 : decode cL_law 319 = .ok (.aload_n 0, 1) := by decide +kernel
theorem dL_law_320 : decode cL_law 320 = .ok (.iload 4, 2) := by decide +kernel
theorem dL_law_322 : decode cL_law 322 = .ok (.iconst 2, 1) := by decide +kernel
theorem dL_law_323 : decode cL_law 323 = .ok (.iadd, 1) := by decide +kernel
theorem dL_law_324 : decode cL_law 324 = .ok (.iaload, 1) := by decide +kernel
theorem dL_law_325 : decode cL_law 325 = .ok (.aload_n 0, 1) := by decide +kernel
theorem dL_law_326 : decode cL_law 326 = .ok (.iload 4, 2) := by decide +kernel
theorem dL_law_328 : decode cL_law 328 = .ok (.iconst 3, 1) := by decide +kernel
theorem dL_law_329 : decode cL_law 329 = .ok (.iadd, 1) := by decide +kernel
theorem dL_law_330 : decode cL_law 330 = .ok (.iaload, 1) := by decide +kernel
theorem dL_law_331 : decode cL_law 331 = .ok (.aload_n 0, 1) := by decide +kernel
theorem dL_law_332 : decode cL_law 332 = .ok (.iload 4, 2) := by decide +kernel
theorem dL_law_334 : decode cL_law 334 = .ok (.iconst 4, 1) := by decide +kernel
theorem dL_law_335 : decode cL_law 335 = .ok (.iadd, 1) := by decide +kernel
theorem dL_law_336 : decode cL_law 336 = .ok (.iaload, 1) := by decide +kernel
theorem dL_law_337 : decode cL_law 337 = .ok (.invokevirtual 61, 3) := by decide +kernel
theorem dL_law_340 : decode cL_law 340 = .ok (.aload_n 2, 1) := by decide +kernel
theorem dL_law_341 : decode cL_law 341 = .ok (.aload_n 0, 1) := by decide +kernel
theorem dL_law_342 : decode cL_law 342 = .ok (.iload 4, 2) := by decide +kernel
theorem dL_law_344 : decode cL_law 344 = .ok (.iconst 1, 1) := by decide +kernel
theorem dL_law_345 : decode cL_law 345 = .ok (.iadd, 1) := by decide +kernel
theorem dL_law_346 : decode cL_law 346 = .ok (.iaload, 1) := by decide +kernel
theorem dL_law_347 : decode cL_law 347 = .ok (.aload_n 0, 1) := by decide +kernel
theorem dL_law_348 : decode cL_law 348 = .ok (.iload 4, 2) := by decide +kernel
theorem dL_law_350 : decode cL_law 350 = .ok (.iconst 2, 1) := by decide +kernel
theorem dL_law_351 : decode cL_law 351 = .ok (.iadd, 1) := by decide +kernel
theorem dL_law_352 : decode cL_law 352 = .ok (.iaload, 1) := by decide +kernel
theorem dL_law_353 : decode cL_law 353 = .ok (.aload_n 0, 1) := by decide +kernel
theorem dL_law_354 : decode cL_law 354 = .ok (.iload 4, 2) := by decide +kernel
theorem dL_law_356 : decode cL_law 356 = .ok (.iconst 3, 1) := by decide +kernel
theorem dL_law_357 : decode cL_law 357 = .ok (.iadd, 1) := by decide +kernel
theorem dL_law_358 : decode cL_law 358 = .ok (.iaload, 1) := by decide +kernel
theorem dL_law_359 : decode cL_law 359 = .ok (.aload_n 0, 1) := by decide +kernel
theorem dL_law_360 : decode cL_law 360 = .ok (.iload 4, 2) := by decide +kernel
theorem dL_law_362 : decode cL_law 362 = .ok (.iconst 4, 1) := by decide +kernel
theorem dL_law_363 : decode cL_law 363 = .ok (.iadd, 1) := by decide +kernel
theorem dL_law_364 : decode cL_law 364 = .ok (.iaload, 1) := by decide +kernel
theorem dL_law_365 : decode cL_law 365 = .ok (.invokevirtual 65, 3) := by decide +kernel
theorem dL_law_368 : decode cL_law 368 = .ok (.if_icmp .eq 1469, 3) := by decide +kernel
theorem dL_law_371 : decode cL_law 371 = .ok (.iconst 0, 1) := by decide +kernel
theorem dL_law_372 : decode cL_law 372 = .ok (.ireturn, 1) := by decide +kernel
set_option maxHeartbeats 2000000 in
theorem lq_X9_sheet : fm_V "MicRowLaw" 61 yX9_sheet 4 := ⟨Or.inl (fm_wd 433 (by decide +kernel) (by decide +kernel)), fm_wd 434 (by decide +kernel) (by decide +kernel), fm_wd 435 (by decide +kernel) (by decide +kernel), fm_wd 81 (by decide +kernel) (by decide +kernel), ⟨by decide, by decide, by decide +kernel⟩⟩
theorem ln_X9_sheet : Cond.methodLink "MicRowLaw" 61 yX9_sheet ∈ fm_TT := fm_wd 433 (by decide +kernel) (by decide +kernel)
theorem lk_X9_sheet : Cond.code yX9_sheet cX9_sheet 9 (some .int) ∈ fm_TT := fm_wd 436 (by decide +kernel) (by decide +kernel)
theorem lq_X10_sheet : fm_V "MicRowLaw" 65 yX10_sheet 4 := ⟨Or.inl (fm_wd 1279 (by decide +kernel) (by decide +kernel)), fm_wd 1280 (by decide +kernel) (by decide +kernel), fm_wd 1281 (by decide +kernel) (by decide +kernel), fm_wd 91 (by decide +kernel) (by decide +kernel), ⟨by decide, by decide, by decide +kernel⟩⟩
theorem ln_X10_sheet : Cond.methodLink "MicRowLaw" 65 yX10_sheet ∈ fm_TT := fm_wd 1279 (by decide +kernel) (by decide +kernel)
theorem lk_X10_sheet : Cond.code yX10_sheet cX10_sheet 10 (some .int) ∈ fm_TT := fm_wd 1282 (by decide +kernel) (by decide +kernel)
theorem lw_case_sheet (C : fm_LC G ad1 ad2 qo p s m meth c b L xs) (hfl : l.stackTraces = false) (hcs : cells + 1 ≤ room_1.cells ∧ slots + 6 ≤ room_1.slots) (E : fm_LW G ad1 ad2 qo M1 M2 f s H locs) (hl : lv_has ls 8 [(0, .ref b), (1, .ref (ad1 0)), (2, .ref (ad2 0)), (3, .ref qo), (4, .int i)]) (h1 : fm_in (i + 1) L = true) (h2 : fm_in (i + 2) L = true) (h3 : fm_in (i + 3) L = true) (h4 : fm_in (i + 4) L = true) (hn : n < 512) (hR : R n M1 M2) (hc : cp_sheet N R) (kk : fm_KK p l e s m below meth c cells slots Q qo b n G ad1 ad2 i R) : W p l e room_1 s m #[Value.ref b] below meth c H locs cells slots Q (F0 m 312 ls []) := by
  obtain ⟨hc1, hc2⟩ := hcs
  have hc0 : cells ≤ room_1.cells ∧ slots ≤ room_1.slots := ⟨by omega, by omega⟩
  obtain ⟨r, M1', M2', hf1, hf2, hR'⟩ := hc n M1 M2 (xs (i + 1).toNatClampNeg) (xs (i + 2).toNatClampNeg) (xs (i + 3).toNatClampNeg) (xs (i + 4).toNatClampNeg) hn hR
  refine lv_aload_n C.1.1 C.1.2.1 dL_law_312 rfl (lv_at hl 1 rfl) ?_
  refine lv_aload_n C.1.1 C.1.2.1 dL_law_313 rfl (lv_at hl 0 rfl) ?_
  refine lv_iload C.1.1 C.1.2.1 dL_law_314 (lv_at hl 4 rfl) ?_
  refine lv_iconst (v := 1) C.1.1 C.1.2.1 dL_law_316 (by decide) ?_
  refine lv_iadd C.1.1 C.1.2.1 dL_law_317 ?_
  refine fm_lsld C E h1 dL_law_318 ?_
  refine lv_aload_n C.1.1 C.1.2.1 dL_law_319 rfl (lv_at hl 0 rfl) ?_
  refine lv_iload C.1.1 C.1.2.1 dL_law_320 (lv_at hl 4 rfl) ?_
  refine lv_iconst (v := 2) C.1.1 C.1.2.1 dL_law_322 (by decide) ?_
  refine lv_iadd C.1.1 C.1.2.1 dL_law_323 ?_
  refine fm_lsld C E h2 dL_law_324 ?_
  refine lv_aload_n C.1.1 C.1.2.1 dL_law_325 rfl (lv_at hl 0 rfl) ?_
  refine lv_iload C.1.1 C.1.2.1 dL_law_326 (lv_at hl 4 rfl) ?_
  refine lv_iconst (v := 3) C.1.1 C.1.2.1 dL_law_328 (by decide) ?_
  refine lv_iadd C.1.1 C.1.2.1 dL_law_329 ?_
  refine fm_lsld C E h3 dL_law_330 ?_
  refine lv_aload_n C.1.1 C.1.2.1 dL_law_331 rfl (lv_at hl 0 rfl) ?_
  refine lv_iload C.1.1 C.1.2.1 dL_law_332 (lv_at hl 4 rfl) ?_
  refine lv_iconst (v := 4) C.1.1 C.1.2.1 dL_law_334 (by decide) ?_
  refine lv_iadd C.1.1 C.1.2.1 dL_law_335 ?_
  refine fm_lsld C E h4 dL_law_336 ?_
  refine fm_lcallC C E [.int _, .int _, .int _, .int _] [] lq_X9_sheet ln_X9_sheet lk_X9_sheet (c_MicRow_sheet l _ N _ _ _ _ _ _ _ hf1) rfl rfl hl.1 (by simp) ⟨⟨rfl, rfl⟩, Nat.le_of_ble_eq_true rfl, Nat.le_of_ble_eq_true rfl⟩ hc0 dL_law_337 rfl (fun H locs E => ?_)
  refine W.eq (g2 := F0 m 340 ls [.int r]) rfl ?_
  refine lv_aload_n C.1.1 C.1.2.1 dL_law_340 rfl (lv_at hl 2 rfl) ?_
  refine lv_aload_n C.1.1 C.1.2.1 dL_law_341 rfl (lv_at hl 0 rfl) ?_
  refine lv_iload C.1.1 C.1.2.1 dL_law_342 (lv_at hl 4 rfl) ?_
  refine lv_iconst (v := 1) C.1.1 C.1.2.1 dL_law_344 (by decide) ?_
  refine lv_iadd C.1.1 C.1.2.1 dL_law_345 ?_
  refine fm_lsld C E h1 dL_law_346 ?_
  refine lv_aload_n C.1.1 C.1.2.1 dL_law_347 rfl (lv_at hl 0 rfl) ?_
  refine lv_iload C.1.1 C.1.2.1 dL_law_348 (lv_at hl 4 rfl) ?_
  refine lv_iconst (v := 2) C.1.1 C.1.2.1 dL_law_350 (by decide) ?_
  refine lv_iadd C.1.1 C.1.2.1 dL_law_351 ?_
  refine fm_lsld C E h2 dL_law_352 ?_
  refine lv_aload_n C.1.1 C.1.2.1 dL_law_353 rfl (lv_at hl 0 rfl) ?_
  refine lv_iload C.1.1 C.1.2.1 dL_law_354 (lv_at hl 4 rfl) ?_
  refine lv_iconst (v := 3) C.1.1 C.1.2.1 dL_law_356 (by decide) ?_
  refine lv_iadd C.1.1 C.1.2.1 dL_law_357 ?_
  refine fm_lsld C E h3 dL_law_358 ?_
  refine lv_aload_n C.1.1 C.1.2.1 dL_law_359 rfl (lv_at hl 0 rfl) ?_
  refine lv_iload C.1.1 C.1.2.1 dL_law_360 (lv_at hl 4 rfl) ?_
  refine lv_iconst (v := 4) C.1.1 C.1.2.1 dL_law_362 (by decide) ?_
  refine lv_iadd C.1.1 C.1.2.1 dL_law_363 ?_
  refine fm_lsld C E h4 dL_law_364 ?_
  refine fm_lcallM C E [.int _, .int _, .int _, .int _] [.int r] lq_X10_sheet ln_X10_sheet lk_X10_sheet (c_Model_sheet l _ N _ _ _ _ _ _ _ hf2) rfl rfl hl.1 (by simp [Value.category]) ⟨⟨rfl, rfl⟩, Nat.le_of_ble_eq_true rfl, Nat.le_of_ble_eq_true rfl⟩ hc0 dL_law_365 rfl (fun H locs E => ?_)
  refine W.eq (g2 := F0 m 368 ls [.int r, .int r]) rfl ?_
  refine lv_icmp_eq (tgt := 1837) C.1.1 C.1.2.1 dL_law_368 (by decide) (fun _ => ?_) (fun h => absurd rfl h)
  exact W.widen (Nat.le_succ _) (Nat.le_add_right _ 6) (kk M1' M2' f H locs ls hR' E hl)
theorem dL_law_373 : decode cL_law 373 = .ok (.aload_n 1, 1) := by decide +kernel
theorem dL_law_374 : decode cL_law 374 = .ok (.aload_n 0, 1) := by decide +kernel
theorem dL_law_375 : decode cL_law 375 = .ok (.iload 4, 2) := by decide +kernel
theorem dL_law_377 : decode cL_law 377 = .ok (.iconst 1, 1) := by decide +kernel
theorem dL_law_378 : decode cL_law 378 = .ok (.iadd, 1) := by decide +kernel
theorem dL_law_379 : decode cL_law 379 = .ok (.iaload, 1) := by decide +kernel
theorem dL_law_380 : decode cL_law 380 = .ok (.aload_n 0, 1) := by decide +kernel
theorem dL_law_381 : decode cL_law 381 = .ok (.iload 4, 2) := by decide +kernel
theorem dL_law_383 : decode cL_law 383 = .ok (.iconst 2, 1) := by decide +kernel
theorem dL_law_384 : decode cL_law 384 = .ok (.iadd, 1) := by decide +kernel
theorem dL_law_385 : decode cL_law 385 = .ok (.iaload, 1) := by decide +kernel
theorem dL_law_386 : decode cL_law 386 = .ok (.aload_n 3, 1) := by decide +kernel
theorem dL_law_387 : decode cL_law 387 = .ok (.invokestatic 66, 3) := by decide +kernel
theorem dL_law_390 : decode cL_law 390 = .ok (.istore 5, 2) := by decide +kernel
theorem dL_law_392 : decode cL_law 392 = .ok (.aload_n 2, 1) := by decide +kernel
theorem dL_law_393 : decode cL_law 393 = .ok (.aload_n 0, 1) := by decide +kernel
theorem dL_law_394 : decode cL_law 394 = .ok (.iload 4, 2) := by decide +kernel
theorem dL_law_396 : decode cL_law 396 = .ok (.iconst 1, 1) := by decide +kernel
theorem dL_law_397 : decode cL_law 397 = .ok (.iadd, 1) := by decide +kernel
theorem dL_law_398 : decode cL_law 398 = .ok (.iaload, 1) := by decide +kernel
theorem dL_law_399 : decode cL_law 399 = .ok (.aload_n 0, 1) := by decide +kernel
theorem dL_law_400 : decode cL_law 400 = .ok (.iload 4, 2) := by decide +kernel
theorem dL_law_402 : decode cL_law 402 = .ok (.iconst 2, 1) := by decide +kernel
theorem dL_law_403 : decode cL_law 403 = .ok (.iadd, 1) := by decide +kernel
theorem dL_law_404 : decode cL_law 404 = .ok (.iaload, 1) := by decide +kernel
theorem dL_law_405 : decode cL_law 405 = .ok (.invokevirtual 71, 3) := by decide +kernel
theorem dL_law_408 : decode cL_law 408 = .ok (.istore 6, 2) := by decide +kernel
theorem dL_law_410 : decode cL_law 410 = .ok (.aload_n 2, 1) := by decide +kernel
theorem dL_law_411 : decode cL_law 411 = .ok (.invokevirtual 72, 3) := by decide +kernel
theorem dL_law_414 : decode cL_law 414 = .ok (.iload 5, 2) := by decide +kernel
theorem dL_law_416 : decode cL_law 416 = .ok (.if_icmp .eq 5, 3) := by decide +kernel
theorem dL_law_419 : decode cL_law 419 = .ok (.iconst 0, 1) := by decide +kernel
theorem dL_law_420 : decode cL_law 420 = .ok (.ireturn, 1) := by decide +kernel
theorem dL_law_421 : decode cL_law 421 = .ok (.iload 5, 2) := by decide +kernel
theorem dL_law_423 : decode cL_law 423 = .ok (.ifCond .ne 15, 3) := by decide +kernel
theorem dL_law_426 : decode cL_law 426 = .ok (.aload_n 3, 1) := by decide +kernel
theorem dL_law_427 : decode cL_law 427 = .ok (.iconst 0, 1) := by decide +kernel
theorem dL_law_428 : decode cL_law 428 = .ok (.laload, 1) := by decide +kernel
theorem dL_law_429 : decode cL_law 429 = .ok (.iload 6, 2) := by decide +kernel
theorem dL_law_431 : decode cL_law 431 = .ok (.i2l, 1) := by decide +kernel
theorem dL_law_432 : decode cL_law 432 = .ok (.lcmp, 1) := by decide +kernel
theorem dL_law_433 : decode cL_law 433 = .ok (.ifCond .eq 5, 3) := by decide +kernel
theorem dL_law_436 : decode cL_law 436 = .ok (.iconst 0, 1) := by decide +kernel
theorem dL_law_437 : decode cL_law 437 = .ok (.ireturn, 1) := by decide +kernel
theorem dL_law_438 : decode cL_law 438 = .ok (.goto 1399, 3) := by decide +kernel
set_option maxHeartbeats 2000000 in
theorem lq_L_mic : fm_S "MicRowLaw" 66 yL_mic 4 := ⟨Or.inl (fm_wd 965 (by decide +kernel) (by decide +kernel)), fm_wd 966 (by decide +kernel) (by decide +kernel), fm_wd 80 (by decide +kernel) (by decide +kernel), ⟨by decide, by decide, by decide +kernel⟩⟩
theorem ln_L_mic : Cond.methodLink "MicRowLaw" 66 yL_mic ∈ fm_TT := fm_wd 965 (by decide +kernel) (by decide +kernel)
theorem lk_L_mic : Cond.codeWith yL_mic cL_mic 5 (some .int) [(0, 10, 13, 13)] ∈ fm_TT := fm_wd 967 (by decide +kernel) (by decide +kernel)
theorem lq_X10_mic : fm_V "MicRowLaw" 71 yX10_mic 2 := ⟨Or.inl (fm_wd 1289 (by decide +kernel) (by decide +kernel)), fm_wd 1290 (by decide +kernel) (by decide +kernel), fm_wd 1291 (by decide +kernel) (by decide +kernel), fm_wd 91 (by decide +kernel) (by decide +kernel), ⟨by decide, by decide, by decide +kernel⟩⟩
theorem ln_X10_mic : Cond.methodLink "MicRowLaw" 71 yX10_mic ∈ fm_TT := fm_wd 1289 (by decide +kernel) (by decide +kernel)
theorem lk_X10_mic : Cond.code yX10_mic cX10_mic 3 (some .int) ∈ fm_TT := fm_wd 1292 (by decide +kernel) (by decide +kernel)
theorem lq_X10_thrown : fm_V "MicRowLaw" 72 yX10_thrown 0 := ⟨Or.inl (fm_wd 1202 (by decide +kernel) (by decide +kernel)), fm_wd 1203 (by decide +kernel) (by decide +kernel), fm_wd 1204 (by decide +kernel) (by decide +kernel), fm_wd 91 (by decide +kernel) (by decide +kernel), ⟨by decide, by decide, by decide +kernel⟩⟩
theorem ln_X10_thrown : Cond.methodLink "MicRowLaw" 72 yX10_thrown ∈ fm_TT := fm_wd 1202 (by decide +kernel) (by decide +kernel)
theorem lk_X10_thrown : Cond.code yX10_thrown cX10_thrown 1 (some .int) ∈ fm_TT := fm_wd 1205 (by decide +kernel) (by decide +kernel)
theorem lw_case_mic (C : fm_LC G ad1 ad2 qo p s m meth c b L xs) (hfl : l.stackTraces = false) (hcs : cells + 1 ≤ room_1.cells ∧ slots + 6 ≤ room_1.slots) (E : fm_LW G ad1 ad2 qo M1 M2 f s H locs) (hl : lv_has ls 8 [(0, .ref b), (1, .ref (ad1 0)), (2, .ref (ad2 0)), (3, .ref qo), (4, .int i)]) (h1 : fm_in (i + 1) L = true) (h2 : fm_in (i + 2) L = true) (h3 : fm_in (i + 3) L = true) (h4 : fm_in (i + 4) L = true) (hn : n < 512) (hR : R n M1 M2) (hc : cp_mic N R) (kk : fm_KK p l e s m below meth c cells slots Q qo b n G ad1 ad2 i R) : W p l e room_1 s m #[Value.ref b] below meth c H locs cells slots Q (F0 m 373 ls []) := by
  obtain ⟨hc1, hc2⟩ := hcs
  have hc0 : cells ≤ room_1.cells ∧ slots ≤ room_1.slots := ⟨by omega, by omega⟩
  rcases hc n M1 M2 (xs (i + 1).toNatClampNeg) (xs (i + 2).toNatClampNeg) hn hR with ⟨r, M2', hf1, hf2, hf3, hR'⟩ | ⟨r, M1', M2', hf1, hf2, hf3, hR'⟩
  · refine lv_aload_n C.1.1 C.1.2.1 dL_law_373 rfl (lv_at hl 1 rfl) ?_
    refine lv_aload_n C.1.1 C.1.2.1 dL_law_374 rfl (lv_at hl 0 rfl) ?_
    refine lv_iload C.1.1 C.1.2.1 dL_law_375 (lv_at hl 4 rfl) ?_
    refine lv_iconst (v := 1) C.1.1 C.1.2.1 dL_law_377 (by decide) ?_
    refine lv_iadd C.1.1 C.1.2.1 dL_law_378 ?_
    refine fm_lsld C E h1 dL_law_379 ?_
    refine lv_aload_n C.1.1 C.1.2.1 dL_law_380 rfl (lv_at hl 0 rfl) ?_
    refine lv_iload C.1.1 C.1.2.1 dL_law_381 (lv_at hl 4 rfl) ?_
    refine lv_iconst (v := 2) C.1.1 C.1.2.1 dL_law_383 (by decide) ?_
    refine lv_iadd C.1.1 C.1.2.1 dL_law_384 ?_
    refine fm_lsld C E h2 dL_law_385 ?_
    refine lv_aload_n C.1.1 C.1.2.1 dL_law_386 rfl (lv_at hl 3 rfl) ?_
    refine fm_lcallH C E [.ref _, .int _, .int _, .ref _] [] lq_L_mic ln_L_mic lk_L_mic (ch_mic l _ _ _ _ _ _ _ hf1) rfl hl.1 (by simp) ⟨⟨rfl, rfl⟩, Nat.le_of_ble_eq_true rfl, Nat.le_of_ble_eq_true rfl⟩ ⟨hc1, hc2⟩ dL_law_387 rfl (fun H locs E => ?_)
    refine lv_istore (lv' := [(5, .int _), (0, .ref _), (1, .ref _), (2, .ref _), (3, .ref _), (4, .int _)]) C.1.1 C.1.2.1 dL_law_390 hl (by decide) rfl (fun ls hl => ?_)
    refine lv_aload_n C.1.1 C.1.2.1 dL_law_392 rfl (lv_at hl 3 rfl) ?_
    refine lv_aload_n C.1.1 C.1.2.1 dL_law_393 rfl (lv_at hl 1 rfl) ?_
    refine lv_iload C.1.1 C.1.2.1 dL_law_394 (lv_at hl 5 rfl) ?_
    refine lv_iconst (v := 1) C.1.1 C.1.2.1 dL_law_396 (by decide) ?_
    refine lv_iadd C.1.1 C.1.2.1 dL_law_397 ?_
    refine fm_lsld C E h1 dL_law_398 ?_
    refine lv_aload_n C.1.1 C.1.2.1 dL_law_399 rfl (lv_at hl 1 rfl) ?_
    refine lv_iload C.1.1 C.1.2.1 dL_law_400 (lv_at hl 5 rfl) ?_
    refine lv_iconst (v := 2) C.1.1 C.1.2.1 dL_law_402 (by decide) ?_
    refine lv_iadd C.1.1 C.1.2.1 dL_law_403 ?_
    refine fm_lsld C E h2 dL_law_404 ?_
    refine fm_lcallM C E [.int _, .int _] [] lq_X10_mic ln_X10_mic lk_X10_mic (c_Model_mic l _ _ _ _ _ _ hf2) rfl rfl hl.1 (by simp) ⟨⟨rfl, rfl⟩, Nat.le_of_ble_eq_true rfl, Nat.le_of_ble_eq_true rfl⟩ ⟨hc1, hc2⟩ dL_law_405 rfl (fun H locs E => ?_)
    refine W.eq (g2 := F0 m 408 ls [.int r]) rfl ?_
    refine lv_istore (lv' := [(6, .int _), (5, .int _), (0, .ref _), (1, .ref _), (2, .ref _), (3, .ref _), (4, .int _)]) C.1.1 C.1.2.1 dL_law_408 hl (by decide) rfl (fun ls hl => ?_)
    refine lv_aload_n C.1.1 C.1.2.1 dL_law_410 rfl (lv_at hl 4 rfl) ?_
    refine fm_lcallM C E [] [] lq_X10_thrown ln_X10_thrown lk_X10_thrown (c_Model_thrown l _ _ _ hf3) rfl rfl hl.1 (by simp) ⟨⟨rfl, rfl⟩, Nat.le_of_ble_eq_true rfl, Nat.le_of_ble_eq_true rfl⟩ ⟨hc1, hc2⟩ dL_law_411 rfl (fun H locs E => ?_)
    refine W.eq (g2 := F0 m 414 ls [.int 0]) rfl ?_
    refine lv_iload C.1.1 C.1.2.1 dL_law_414 (lv_at hl 1 rfl) ?_
    refine lv_icmp_eq (tgt := 421) C.1.1 C.1.2.1 dL_law_416 (by decide) (fun _ => ?_) (fun h => absurd rfl h)
    refine lv_iload C.1.1 C.1.2.1 dL_law_421 (lv_at hl 1 rfl) ?_
    refine lv_if_ne (tgt := 438) C.1.1 C.1.2.1 dL_law_423 (by decide) (fun h => absurd rfl h) (fun _ => ?_)
    refine lv_aload_n C.1.1 C.1.2.1 dL_law_426 rfl (lv_at hl 5 rfl) ?_
    refine lv_iconst (v := 0) C.1.1 C.1.2.1 dL_law_427 (by decide) ?_
    refine fm_lout C E dL_law_428 ?_
    refine lv_iload C.1.1 C.1.2.1 dL_law_429 (lv_at hl 0 rfl) ?_
    refine lv_i2l C.1.1 C.1.2.1 dL_law_431 rfl ?_
    refine W.lcmp C.1.1 C.1.2.1 dL_law_432 ?_
    refine lv_if_eq (tgt := 438) C.1.1 C.1.2.1 dL_law_433 (by decide) (fun _ => ?_) (fun h => absurd (fm_cmp0 fm_upd0) h)
    refine lv_goto (tgt := 1837) C.1.1 C.1.2.1 dL_law_438 (by decide) ?_
    exact kk M1 M2' _ H locs ls hR' E (lv_sub hl [2, 3, 4, 5, 6] rfl)
  · refine lv_aload_n C.1.1 C.1.2.1 dL_law_373 rfl (lv_at hl 1 rfl) ?_
    refine lv_aload_n C.1.1 C.1.2.1 dL_law_374 rfl (lv_at hl 0 rfl) ?_
    refine lv_iload C.1.1 C.1.2.1 dL_law_375 (lv_at hl 4 rfl) ?_
    refine lv_iconst (v := 1) C.1.1 C.1.2.1 dL_law_377 (by decide) ?_
    refine lv_iadd C.1.1 C.1.2.1 dL_law_378 ?_
    refine fm_lsld C E h1 dL_law_379 ?_
    refine lv_aload_n C.1.1 C.1.2.1 dL_law_380 rfl (lv_at hl 0 rfl) ?_
    refine lv_iload C.1.1 C.1.2.1 dL_law_381 (lv_at hl 4 rfl) ?_
    refine lv_iconst (v := 2) C.1.1 C.1.2.1 dL_law_383 (by decide) ?_
    refine lv_iadd C.1.1 C.1.2.1 dL_law_384 ?_
    refine fm_lsld C E h2 dL_law_385 ?_
    refine lv_aload_n C.1.1 C.1.2.1 dL_law_386 rfl (lv_at hl 3 rfl) ?_
    refine fm_lcallH C E [.ref _, .int _, .int _, .ref _] [] lq_L_mic ln_L_mic lk_L_mic (ct_mic l hfl _ _ _ _ _ _ _ hf1) rfl hl.1 (by simp) ⟨⟨rfl, rfl⟩, Nat.le_of_ble_eq_true rfl, Nat.le_of_ble_eq_true rfl⟩ ⟨hc1, hc2⟩ dL_law_387 rfl (fun H locs E => ?_)
    refine lv_istore (lv' := [(5, .int _), (0, .ref _), (1, .ref _), (2, .ref _), (3, .ref _), (4, .int _)]) C.1.1 C.1.2.1 dL_law_390 hl (by decide) rfl (fun ls hl => ?_)
    refine lv_aload_n C.1.1 C.1.2.1 dL_law_392 rfl (lv_at hl 3 rfl) ?_
    refine lv_aload_n C.1.1 C.1.2.1 dL_law_393 rfl (lv_at hl 1 rfl) ?_
    refine lv_iload C.1.1 C.1.2.1 dL_law_394 (lv_at hl 5 rfl) ?_
    refine lv_iconst (v := 1) C.1.1 C.1.2.1 dL_law_396 (by decide) ?_
    refine lv_iadd C.1.1 C.1.2.1 dL_law_397 ?_
    refine fm_lsld C E h1 dL_law_398 ?_
    refine lv_aload_n C.1.1 C.1.2.1 dL_law_399 rfl (lv_at hl 1 rfl) ?_
    refine lv_iload C.1.1 C.1.2.1 dL_law_400 (lv_at hl 5 rfl) ?_
    refine lv_iconst (v := 2) C.1.1 C.1.2.1 dL_law_402 (by decide) ?_
    refine lv_iadd C.1.1 C.1.2.1 dL_law_403 ?_
    refine fm_lsld C E h2 dL_law_404 ?_
    refine fm_lcallM C E [.int _, .int _] [] lq_X10_mic ln_X10_mic lk_X10_mic (c_Model_mic l _ _ _ _ _ _ hf2) rfl rfl hl.1 (by simp) ⟨⟨rfl, rfl⟩, Nat.le_of_ble_eq_true rfl, Nat.le_of_ble_eq_true rfl⟩ ⟨hc1, hc2⟩ dL_law_405 rfl (fun H locs E => ?_)
    refine W.eq (g2 := F0 m 408 ls [.int r]) rfl ?_
    refine lv_istore (lv' := [(6, .int _), (5, .int _), (0, .ref _), (1, .ref _), (2, .ref _), (3, .ref _), (4, .int _)]) C.1.1 C.1.2.1 dL_law_408 hl (by decide) rfl (fun ls hl => ?_)
    refine lv_aload_n C.1.1 C.1.2.1 dL_law_410 rfl (lv_at hl 4 rfl) ?_
    refine fm_lcallM C E [] [] lq_X10_thrown ln_X10_thrown lk_X10_thrown (c_Model_thrown l _ _ _ hf3) rfl rfl hl.1 (by simp) ⟨⟨rfl, rfl⟩, Nat.le_of_ble_eq_true rfl, Nat.le_of_ble_eq_true rfl⟩ ⟨hc1, hc2⟩ dL_law_411 rfl (fun H locs E => ?_)
    refine W.eq (g2 := F0 m 414 ls [.int 1]) rfl ?_
    refine lv_iload C.1.1 C.1.2.1 dL_law_414 (lv_at hl 1 rfl) ?_
    refine lv_icmp_eq (tgt := 421) C.1.1 C.1.2.1 dL_law_416 (by decide) (fun _ => ?_) (fun h => absurd rfl h)
    refine lv_iload C.1.1 C.1.2.1 dL_law_421 (lv_at hl 1 rfl) ?_
    refine lv_if_ne (tgt := 438) C.1.1 C.1.2.1 dL_law_423 (by decide) (fun _ => ?_) (fun h => absurd h (by decide))
    refine lv_goto (tgt := 1837) C.1.1 C.1.2.1 dL_law_438 (by decide) ?_
    exact kk M1' M2' _ H locs ls hR' E (lv_sub hl [2, 3, 4, 5, 6] rfl)
theorem dL_law_441 : decode cL_law 441 = .ok (.aload_n 1, 1) := by decide +kernel
theorem dL_law_442 : decode cL_law 442 = .ok (.aload_n 0, 1) := by decide +kernel
theorem dL_law_443 : decode cL_law 443 = .ok (.iload 4, 2) := by decide +kernel
theorem dL_law_445 : decode cL_law 445 = .ok (.iconst 1, 1) := by decide +kernel
theorem dL_law_446 : decode cL_law 446 = .ok (.iadd, 1) := by decide +kernel
theorem dL_law_447 : decode cL_law 447 = .ok (.iaload, 1) := by decide +kernel
theorem dL_law_448 : decode cL_law 448 = .ok (.aload_n 0, 1) := by decide +kernel
theorem dL_law_449 : decode cL_law 449 = .ok (.iload 4, 2) := by decide +kernel
theorem dL_law_451 : decode cL_law 451 = .ok (.iconst 2, 1) := by decide +kernel
theorem dL_law_452 : decode cL_law 452 = .ok (.iadd, 1) := by decide +kernel
theorem dL_law_453 : decode cL_law 453 = .ok (.iaload, 1) := by decide +kernel
theorem dL_law_454 : decode cL_law 454 = .ok (.aload_n 3, 1) := by decide +kernel
theorem dL_law_455 : decode cL_law 455 = .ok (.invokestatic 75, 3) := by decide +kernel
theorem dL_law_458 : decode cL_law 458 = .ok (.istore 5, 2) := by decide +kernel
theorem dL_law_460 : decode cL_law 460 = .ok (.aload_n 2, 1) := by decide +kernel
theorem dL_law_461 : decode cL_law 461 = .ok (.aload_n 0, 1) := by decide +kernel
theorem dL_law_462 : decode cL_law 462 = .ok (.iload 4, 2) := by decide +kernel
theorem dL_law_464 : decode cL_law 464 = .ok (.iconst 1, 1) := by decide +kernel
theorem dL_law_465 : decode cL_law 465 = .ok (.iadd, 1) := by decide +kernel
theorem dL_law_466 : decode cL_law 466 = .ok (.iaload, 1) := by decide +kernel
theorem dL_law_467 : decode cL_law 467 = .ok (.aload_n 0, 1) := by decide +kernel
theorem dL_law_468 : decode cL_law 468 = .ok (.iload 4, 2) := by decide +kernel
theorem dL_law_470 : decode cL_law 470 = .ok (.iconst 2, 1) := by decide +kernel
theorem dL_law_471 : decode cL_law 471 = .ok (.iadd, 1) := by decide +kernel
theorem dL_law_472 : decode cL_law 472 = .ok (.iaload, 1) := by decide +kernel
theorem dL_law_473 : decode cL_law 473 = .ok (.invokevirtual 77, 3) := by decide +kernel
theorem dL_law_476 : decode cL_law 476 = .ok (.istore 6, 2) := by decide +kernel
theorem dL_law_478 : decode cL_law 478 = .ok (.aload_n 2, 1) := by decide +kernel
theorem dL_law_479 : decode cL_law 479 = .ok (.invokevirtual 72, 3) := by decide +kernel
theorem dL_law_482 : decode cL_law 482 = .ok (.iload 5, 2) := by decide +kernel
theorem dL_law_484 : decode cL_law 484 = .ok (.if_icmp .eq 5, 3) := by decide +kernel
theorem dL_law_487 : decode cL_law 487 = .ok (.iconst 0, 1) := by decide +kernel
theorem dL_law_488 : decode cL_law 488 = .ok (.ireturn, 1) := by decide +kernel
theorem dL_law_489 : decode cL_law 489 = .ok (.iload 5, 2) := by decide +kernel
theorem dL_law_491 : decode cL_law 491 = .ok (.ifCond .ne 15, 3) := by decide +kernel
theorem dL_law_494 : decode cL_law 494 = .ok (.aload_n 3, 1) := by decide +kernel
theorem dL_law_495 : decode cL_law 495 = .ok (.iconst 0, 1) := by decide +kernel
theorem dL_law_496 : decode cL_law 496 = .ok (.laload, 1) := by decide +kernel
theorem dL_law_497 : decode cL_law 497 = .ok (.iload 6, 2) := by decide +kernel
theorem dL_law_499 : decode cL_law 499 = .ok (.i2l, 1) := by decide +kernel
theorem dL_law_500 : decode cL_law 500 = .ok (.lcmp, 1) := by decide +kernel
theorem dL_law_501 : decode cL_law 501 = .ok (.ifCond .eq 5, 3) := by decide +kernel
theorem dL_law_504 : decode cL_law 504 = .ok (.iconst 0, 1) := by decide +kernel
theorem dL_law_505 : decode cL_law 505 = .ok (.ireturn, 1) := by decide +kernel
theorem dL_law_506 : decode cL_law 506 = .ok (.goto 1331, 3) := by decide +kernel
set_option maxHeartbeats 2000000 in
theorem lq_L_source : fm_S "MicRowLaw" 75 yL_source 4 := ⟨Or.inl (fm_wd 1045 (by decide +kernel) (by decide +kernel)), fm_wd 1046 (by decide +kernel) (by decide +kernel), fm_wd 80 (by decide +kernel) (by decide +kernel), ⟨by decide, by decide, by decide +kernel⟩⟩
theorem ln_L_source : Cond.methodLink "MicRowLaw" 75 yL_source ∈ fm_TT := fm_wd 1045 (by decide +kernel) (by decide +kernel)
theorem lk_L_source : Cond.codeWith yL_source cL_source 5 (some .int) [(0, 10, 13, 13)] ∈ fm_TT := fm_wd 1047 (by decide +kernel) (by decide +kernel)
theorem lq_X10_source : fm_V "MicRowLaw" 77 yX10_source 2 := ⟨Or.inl (fm_wd 1301 (by decide +kernel) (by decide +kernel)), fm_wd 1302 (by decide +kernel) (by decide +kernel), fm_wd 1303 (by decide +kernel) (by decide +kernel), fm_wd 91 (by decide +kernel) (by decide +kernel), ⟨by decide, by decide, by decide +kernel⟩⟩
theorem ln_X10_source : Cond.methodLink "MicRowLaw" 77 yX10_source ∈ fm_TT := fm_wd 1301 (by decide +kernel) (by decide +kernel)
theorem lk_X10_source : Cond.code yX10_source cX10_source 3 (some .int) ∈ fm_TT := fm_wd 1304 (by decide +kernel) (by decide +kernel)
theorem lw_case_source (C : fm_LC G ad1 ad2 qo p s m meth c b L xs) (hfl : l.stackTraces = false) (hcs : cells + 1 ≤ room_1.cells ∧ slots + 6 ≤ room_1.slots) (E : fm_LW G ad1 ad2 qo M1 M2 f s H locs) (hl : lv_has ls 8 [(0, .ref b), (1, .ref (ad1 0)), (2, .ref (ad2 0)), (3, .ref qo), (4, .int i)]) (h1 : fm_in (i + 1) L = true) (h2 : fm_in (i + 2) L = true) (h3 : fm_in (i + 3) L = true) (h4 : fm_in (i + 4) L = true) (hn : n < 512) (hR : R n M1 M2) (hc : cp_source N R) (kk : fm_KK p l e s m below meth c cells slots Q qo b n G ad1 ad2 i R) : W p l e room_1 s m #[Value.ref b] below meth c H locs cells slots Q (F0 m 441 ls []) := by
  obtain ⟨hc1, hc2⟩ := hcs
  have hc0 : cells ≤ room_1.cells ∧ slots ≤ room_1.slots := ⟨by omega, by omega⟩
  rcases hc n M1 M2 (xs (i + 1).toNatClampNeg) (xs (i + 2).toNatClampNeg) hn hR with ⟨r, M2', hf1, hf2, hf3, hR'⟩ | ⟨r, M1', M2', hf1, hf2, hf3, hR'⟩
  · refine lv_aload_n C.1.1 C.1.2.1 dL_law_441 rfl (lv_at hl 1 rfl) ?_
    refine lv_aload_n C.1.1 C.1.2.1 dL_law_442 rfl (lv_at hl 0 rfl) ?_
    refine lv_iload C.1.1 C.1.2.1 dL_law_443 (lv_at hl 4 rfl) ?_
    refine lv_iconst (v := 1) C.1.1 C.1.2.1 dL_law_445 (by decide) ?_
    refine lv_iadd C.1.1 C.1.2.1 dL_law_446 ?_
    refine fm_lsld C E h1 dL_law_447 ?_
    refine lv_aload_n C.1.1 C.1.2.1 dL_law_448 rfl (lv_at hl 0 rfl) ?_
    refine lv_iload C.1.1 C.1.2.1 dL_law_449 (lv_at hl 4 rfl) ?_
    refine lv_iconst (v := 2) C.1.1 C.1.2.1 dL_law_451 (by decide) ?_
    refine lv_iadd C.1.1 C.1.2.1 dL_law_452 ?_
    refine fm_lsld C E h2 dL_law_453 ?_
    refine lv_aload_n C.1.1 C.1.2.1 dL_law_454 rfl (lv_at hl 3 rfl) ?_
    refine fm_lcallH C E [.ref _, .int _, .int _, .ref _] [] lq_L_source ln_L_source lk_L_source (ch_source l _ _ _ _ _ _ _ hf1) rfl hl.1 (by simp) ⟨⟨rfl, rfl⟩, Nat.le_of_ble_eq_true rfl, Nat.le_of_ble_eq_true rfl⟩ ⟨hc1, hc2⟩ dL_law_455 rfl (fun H locs E => ?_)
    refine lv_istore (lv' := [(5, .int _), (0, .ref _), (1, .ref _), (2, .ref _), (3, .ref _), (4, .int _)]) C.1.1 C.1.2.1 dL_law_458 hl (by decide) rfl (fun ls hl => ?_)
    refine lv_aload_n C.1.1 C.1.2.1 dL_law_460 rfl (lv_at hl 3 rfl) ?_
    refine lv_aload_n C.1.1 C.1.2.1 dL_law_461 rfl (lv_at hl 1 rfl) ?_
    refine lv_iload C.1.1 C.1.2.1 dL_law_462 (lv_at hl 5 rfl) ?_
    refine lv_iconst (v := 1) C.1.1 C.1.2.1 dL_law_464 (by decide) ?_
    refine lv_iadd C.1.1 C.1.2.1 dL_law_465 ?_
    refine fm_lsld C E h1 dL_law_466 ?_
    refine lv_aload_n C.1.1 C.1.2.1 dL_law_467 rfl (lv_at hl 1 rfl) ?_
    refine lv_iload C.1.1 C.1.2.1 dL_law_468 (lv_at hl 5 rfl) ?_
    refine lv_iconst (v := 2) C.1.1 C.1.2.1 dL_law_470 (by decide) ?_
    refine lv_iadd C.1.1 C.1.2.1 dL_law_471 ?_
    refine fm_lsld C E h2 dL_law_472 ?_
    refine fm_lcallM C E [.int _, .int _] [] lq_X10_source ln_X10_source lk_X10_source (c_Model_source l _ _ _ _ _ _ hf2) rfl rfl hl.1 (by simp) ⟨⟨rfl, rfl⟩, Nat.le_of_ble_eq_true rfl, Nat.le_of_ble_eq_true rfl⟩ ⟨hc1, hc2⟩ dL_law_473 rfl (fun H locs E => ?_)
    refine W.eq (g2 := F0 m 476 ls [.int r]) rfl ?_
    refine lv_istore (lv' := [(6, .int _), (5, .int _), (0, .ref _), (1, .ref _), (2, .ref _), (3, .ref _), (4, .int _)]) C.1.1 C.1.2.1 dL_law_476 hl (by decide) rfl (fun ls hl => ?_)
    refine lv_aload_n C.1.1 C.1.2.1 dL_law_478 rfl (lv_at hl 4 rfl) ?_
    refine fm_lcallM C E [] [] lq_X10_thrown ln_X10_thrown lk_X10_thrown (c_Model_thrown l _ _ _ hf3) rfl rfl hl.1 (by simp) ⟨⟨rfl, rfl⟩, Nat.le_of_ble_eq_true rfl, Nat.le_of_ble_eq_true rfl⟩ ⟨hc1, hc2⟩ dL_law_479 rfl (fun H locs E => ?_)
    refine W.eq (g2 := F0 m 482 ls [.int 0]) rfl ?_
    refine lv_iload C.1.1 C.1.2.1 dL_law_482 (lv_at hl 1 rfl) ?_
    refine lv_icmp_eq (tgt := 489) C.1.1 C.1.2.1 dL_law_484 (by decide) (fun _ => ?_) (fun h => absurd rfl h)
    refine lv_iload C.1.1 C.1.2.1 dL_law_489 (lv_at hl 1 rfl) ?_
    refine lv_if_ne (tgt := 506) C.1.1 C.1.2.1 dL_law_491 (by decide) (fun h => absurd rfl h) (fun _ => ?_)
    refine lv_aload_n C.1.1 C.1.2.1 dL_law_494 rfl (lv_at hl 5 rfl) ?_
    refine lv_iconst (v := 0) C.1.1 C.1.2.1 dL_law_495 (by decide) ?_
    refine fm_lout C E dL_law_496 ?_
    refine lv_iload C.1.1 C.1.2.1 dL_law_497 (lv_at hl 0 rfl) ?_
    refine lv_i2l C.1.1 C.1.2.1 dL_law_499 rfl ?_
    refine W.lcmp C.1.1 C.1.2.1 dL_law_500 ?_
    refine lv_if_eq (tgt := 506) C.1.1 C.1.2.1 dL_law_501 (by decide) (fun _ => ?_) (fun h => absurd (fm_cmp0 fm_upd0) h)
    refine lv_goto (tgt := 1837) C.1.1 C.1.2.1 dL_law_506 (by decide) ?_
    exact kk M1 M2' _ H locs ls hR' E (lv_sub hl [2, 3, 4, 5, 6] rfl)
  · refine lv_aload_n C.1.1 C.1.2.1 dL_law_441 rfl (lv_at hl 1 rfl) ?_
    refine lv_aload_n C.1.1 C.1.2.1 dL_law_442 rfl (lv_at hl 0 rfl) ?_
    refine lv_iload C.1.1 C.1.2.1 dL_law_443 (lv_at hl 4 rfl) ?_
    refine lv_iconst (v := 1) C.1.1 C.1.2.1 dL_law_445 (by decide) ?_
    refine lv_iadd C.1.1 C.1.2.1 dL_law_446 ?_
    refine fm_lsld C E h1 dL_law_447 ?_
    refine lv_aload_n C.1.1 C.1.2.1 dL_law_448 rfl (lv_at hl 0 rfl) ?_
    refine lv_iload C.1.1 C.1.2.1 dL_law_449 (lv_at hl 4 rfl) ?_
    refine lv_iconst (v := 2) C.1.1 C.1.2.1 dL_law_451 (by decide) ?_
    refine lv_iadd C.1.1 C.1.2.1 dL_law_452 ?_
    refine fm_lsld C E h2 dL_law_453 ?_
    refine lv_aload_n C.1.1 C.1.2.1 dL_law_454 rfl (lv_at hl 3 rfl) ?_
    refine fm_lcallH C E [.ref _, .int _, .int _, .ref _] [] lq_L_source ln_L_source lk_L_source (ct_source l hfl _ _ _ _ _ _ _ hf1) rfl hl.1 (by simp) ⟨⟨rfl, rfl⟩, Nat.le_of_ble_eq_true rfl, Nat.le_of_ble_eq_true rfl⟩ ⟨hc1, hc2⟩ dL_law_455 rfl (fun H locs E => ?_)
    refine lv_istore (lv' := [(5, .int _), (0, .ref _), (1, .ref _), (2, .ref _), (3, .ref _), (4, .int _)]) C.1.1 C.1.2.1 dL_law_458 hl (by decide) rfl (fun ls hl => ?_)
    refine lv_aload_n C.1.1 C.1.2.1 dL_law_460 rfl (lv_at hl 3 rfl) ?_
    refine lv_aload_n C.1.1 C.1.2.1 dL_law_461 rfl (lv_at hl 1 rfl) ?_
    refine lv_iload C.1.1 C.1.2.1 dL_law_462 (lv_at hl 5 rfl) ?_
    refine lv_iconst (v := 1) C.1.1 C.1.2.1 dL_law_464 (by decide) ?_
    refine lv_iadd C.1.1 C.1.2.1 dL_law_465 ?_
    refine fm_lsld C E h1 dL_law_466 ?_
    refine lv_aload_n C.1.1 C.1.2.1 dL_law_467 rfl (lv_at hl 1 rfl) ?_
    refine lv_iload C.1.1 C.1.2.1 dL_law_468 (lv_at hl 5 rfl) ?_
    refine lv_iconst (v := 2) C.1.1 C.1.2.1 dL_law_470 (by decide) ?_
    refine lv_iadd C.1.1 C.1.2.1 dL_law_471 ?_
    refine fm_lsld C E h2 dL_law_472 ?_
    refine fm_lcallM C E [.int _, .int _] [] lq_X10_source ln_X10_source lk_X10_source (c_Model_source l _ _ _ _ _ _ hf2) rfl rfl hl.1 (by simp) ⟨⟨rfl, rfl⟩, Nat.le_of_ble_eq_true rfl, Nat.le_of_ble_eq_true rfl⟩ ⟨hc1, hc2⟩ dL_law_473 rfl (fun H locs E => ?_)
    refine W.eq (g2 := F0 m 476 ls [.int r]) rfl ?_
    refine lv_istore (lv' := [(6, .int _), (5, .int _), (0, .ref _), (1, .ref _), (2, .ref _), (3, .ref _), (4, .int _)]) C.1.1 C.1.2.1 dL_law_476 hl (by decide) rfl (fun ls hl => ?_)
    refine lv_aload_n C.1.1 C.1.2.1 dL_law_478 rfl (lv_at hl 4 rfl) ?_
    refine fm_lcallM C E [] [] lq_X10_thrown ln_X10_thrown lk_X10_thrown (c_Model_thrown l _ _ _ hf3) rfl rfl hl.1 (by simp) ⟨⟨rfl, rfl⟩, Nat.le_of_ble_eq_true rfl, Nat.le_of_ble_eq_true rfl⟩ ⟨hc1, hc2⟩ dL_law_479 rfl (fun H locs E => ?_)
    refine W.eq (g2 := F0 m 482 ls [.int 1]) rfl ?_
    refine lv_iload C.1.1 C.1.2.1 dL_law_482 (lv_at hl 1 rfl) ?_
    refine lv_icmp_eq (tgt := 489) C.1.1 C.1.2.1 dL_law_484 (by decide) (fun _ => ?_) (fun h => absurd rfl h)
    refine lv_iload C.1.1 C.1.2.1 dL_law_489 (lv_at hl 1 rfl) ?_
    refine lv_if_ne (tgt := 506) C.1.1 C.1.2.1 dL_law_491 (by decide) (fun _ => ?_) (fun h => absurd h (by decide))
    refine lv_goto (tgt := 1837) C.1.1 C.1.2.1 dL_law_506 (by decide) ?_
    exact kk M1' M2' _ H locs ls hR' E (lv_sub hl [2, 3, 4, 5, 6] rfl)
theorem dL_law_509 : decode cL_law 509 = .ok (.aload_n 1, 1) := by decide +kernel
theorem dL_law_510 : decode cL_law 510 = .ok (.aload_n 0, 1) := by decide +kernel
theorem dL_law_511 : decode cL_law 511 = .ok (.iload 4, 2) := by decide +kernel
theorem dL_law_513 : decode cL_law 513 = .ok (.iconst 1, 1) := by decide +kernel
theorem dL_law_514 : decode cL_law 514 = .ok (.iadd, 1) := by decide +kernel
theorem dL_law_515 : decode cL_law 515 = .ok (.iaload, 1) := by decide +kernel
theorem dL_law_516 : decode cL_law 516 = .ok (.aload_n 0, 1) := by decide +kernel
theorem dL_law_517 : decode cL_law 517 = .ok (.iload 4, 2) := by decide +kernel
theorem dL_law_519 : decode cL_law 519 = .ok (.iconst 2, 1) := by decide +kernel
theorem dL_law_520 : decode cL_law 520 = .ok (.iadd, 1) := by decide +kernel
theorem dL_law_521 : decode cL_law 521 = .ok (.iaload, 1) := by decide +kernel
theorem dL_law_522 : decode cL_law 522 = .ok (.aload_n 3, 1) := by decide +kernel
theorem dL_law_523 : decode cL_law 523 = .ok (.invokestatic 78, 3) := by decide +kernel
theorem dL_law_526 : decode cL_law 526 = .ok (.istore 5, 2) := by decide +kernel
theorem dL_law_528 : decode cL_law 528 = .ok (.aload_n 2, 1) := by decide +kernel
theorem dL_law_529 : decode cL_law 529 = .ok (.aload_n 0, 1) := by decide +kernel
theorem dL_law_530 : decode cL_law 530 = .ok (.iload 4, 2) := by decide +kernel
theorem dL_law_532 : decode cL_law 532 = .ok (.iconst 1, 1) := by decide +kernel
theorem dL_law_533 : decode cL_law 533 = .ok (.iadd, 1) := by decide +kernel
theorem dL_law_534 : decode cL_law 534 = .ok (.iaload, 1) := by decide +kernel
theorem dL_law_535 : decode cL_law 535 = .ok (.aload_n 0, 1) := by decide +kernel
theorem dL_law_536 : decode cL_law 536 = .ok (.iload 4, 2) := by decide +kernel
theorem dL_law_538 : decode cL_law 538 = .ok (.iconst 2, 1) := by decide +kernel
theorem dL_law_539 : decode cL_law 539 = .ok (.iadd, 1) := by decide +kernel
theorem dL_law_540 : decode cL_law 540 = .ok (.iaload, 1) := by decide +kernel
theorem dL_law_541 : decode cL_law 541 = .ok (.invokevirtual 80, 3) := by decide +kernel
theorem dL_law_544 : decode cL_law 544 = .ok (.istore 6, 2) := by decide +kernel
theorem dL_law_546 : decode cL_law 546 = .ok (.aload_n 2, 1) := by decide +kernel
theorem dL_law_547 : decode cL_law 547 = .ok (.invokevirtual 72, 3) := by decide +kernel
theorem dL_law_550 : decode cL_law 550 = .ok (.iload 5, 2) := by decide +kernel
theorem dL_law_552 : decode cL_law 552 = .ok (.if_icmp .eq 5, 3) := by decide +kernel
theorem dL_law_555 : decode cL_law 555 = .ok (.iconst 0, 1) := by decide +kernel
theorem dL_law_556 : decode cL_law 556 = .ok (.ireturn, 1) := by decide +kernel
theorem dL_law_557 : decode cL_law 557 = .ok (.iload 5, 2) := by decide +kernel
theorem dL_law_559 : decode cL_law 559 = .ok (.ifCond .ne 15, 3) := by decide +kernel
theorem dL_law_562 : decode cL_law 562 = .ok (.aload_n 3, 1) := by decide +kernel
theorem dL_law_563 : decode cL_law 563 = .ok (.iconst 0, 1) := by decide +kernel
theorem dL_law_564 : decode cL_law 564 = .ok (.laload, 1) := by decide +kernel
theorem dL_law_565 : decode cL_law 565 = .ok (.iload 6, 2) := by decide +kernel
theorem dL_law_567 : decode cL_law 567 = .ok (.i2l, 1) := by decide +kernel
theorem dL_law_568 : decode cL_law 568 = .ok (.lcmp, 1) := by decide +kernel
theorem dL_law_569 : decode cL_law 569 = .ok (.ifCond .eq 5, 3) := by decide +kernel
theorem dL_law_572 : decode cL_law 572 = .ok (.iconst 0, 1) := by decide +kernel
theorem dL_law_573 : decode cL_law 573 = .ok (.ireturn, 1) := by decide +kernel
theorem dL_law_574 : decode cL_law 574 = .ok (.goto 1263, 3) := by decide +kernel
set_option maxHeartbeats 2000000 in
theorem lq_L_sample : fm_S "MicRowLaw" 78 yL_sample 4 := ⟨Or.inl (fm_wd 1057 (by decide +kernel) (by decide +kernel)), fm_wd 1058 (by decide +kernel) (by decide +kernel), fm_wd 80 (by decide +kernel) (by decide +kernel), ⟨by decide, by decide, by decide +kernel⟩⟩
theorem ln_L_sample : Cond.methodLink "MicRowLaw" 78 yL_sample ∈ fm_TT := fm_wd 1057 (by decide +kernel) (by decide +kernel)
theorem lk_L_sample : Cond.codeWith yL_sample cL_sample 5 (some .int) [(0, 10, 13, 13)] ∈ fm_TT := fm_wd 1059 (by decide +kernel) (by decide +kernel)
theorem lq_X10_sample : fm_V "MicRowLaw" 80 yX10_sample 2 := ⟨Or.inl (fm_wd 1309 (by decide +kernel) (by decide +kernel)), fm_wd 1310 (by decide +kernel) (by decide +kernel), fm_wd 1311 (by decide +kernel) (by decide +kernel), fm_wd 91 (by decide +kernel) (by decide +kernel), ⟨by decide, by decide, by decide +kernel⟩⟩
theorem ln_X10_sample : Cond.methodLink "MicRowLaw" 80 yX10_sample ∈ fm_TT := fm_wd 1309 (by decide +kernel) (by decide +kernel)
theorem lk_X10_sample : Cond.code yX10_sample cX10_sample 3 (some .int) ∈ fm_TT := fm_wd 1312 (by decide +kernel) (by decide +kernel)
theorem lw_case_sample (C : fm_LC G ad1 ad2 qo p s m meth c b L xs) (hfl : l.stackTraces = false) (hcs : cells + 1 ≤ room_1.cells ∧ slots + 6 ≤ room_1.slots) (E : fm_LW G ad1 ad2 qo M1 M2 f s H locs) (hl : lv_has ls 8 [(0, .ref b), (1, .ref (ad1 0)), (2, .ref (ad2 0)), (3, .ref qo), (4, .int i)]) (h1 : fm_in (i + 1) L = true) (h2 : fm_in (i + 2) L = true) (h3 : fm_in (i + 3) L = true) (h4 : fm_in (i + 4) L = true) (hn : n < 512) (hR : R n M1 M2) (hc : cp_sample N R) (kk : fm_KK p l e s m below meth c cells slots Q qo b n G ad1 ad2 i R) : W p l e room_1 s m #[Value.ref b] below meth c H locs cells slots Q (F0 m 509 ls []) := by
  obtain ⟨hc1, hc2⟩ := hcs
  have hc0 : cells ≤ room_1.cells ∧ slots ≤ room_1.slots := ⟨by omega, by omega⟩
  rcases hc n M1 M2 (xs (i + 1).toNatClampNeg) (xs (i + 2).toNatClampNeg) hn hR with ⟨r, M1', M2', hf1, hf2, hf3, hR'⟩ | ⟨r, M1', M2', hf1, hf2, hf3, hR'⟩
  · refine lv_aload_n C.1.1 C.1.2.1 dL_law_509 rfl (lv_at hl 1 rfl) ?_
    refine lv_aload_n C.1.1 C.1.2.1 dL_law_510 rfl (lv_at hl 0 rfl) ?_
    refine lv_iload C.1.1 C.1.2.1 dL_law_511 (lv_at hl 4 rfl) ?_
    refine lv_iconst (v := 1) C.1.1 C.1.2.1 dL_law_513 (by decide) ?_
    refine lv_iadd C.1.1 C.1.2.1 dL_law_514 ?_
    refine fm_lsld C E h1 dL_law_515 ?_
    refine lv_aload_n C.1.1 C.1.2.1 dL_law_516 rfl (lv_at hl 0 rfl) ?_
    refine lv_iload C.1.1 C.1.2.1 dL_law_517 (lv_at hl 4 rfl) ?_
    refine lv_iconst (v := 2) C.1.1 C.1.2.1 dL_law_519 (by decide) ?_
    refine lv_iadd C.1.1 C.1.2.1 dL_law_520 ?_
    refine fm_lsld C E h2 dL_law_521 ?_
    refine lv_aload_n C.1.1 C.1.2.1 dL_law_522 rfl (lv_at hl 3 rfl) ?_
    refine fm_lcallH C E [.ref _, .int _, .int _, .ref _] [] lq_L_sample ln_L_sample lk_L_sample (ch_sample l _ N _ _ _ _ _ _ _ hf1) rfl hl.1 (by simp) ⟨⟨rfl, rfl⟩, Nat.le_of_ble_eq_true rfl, Nat.le_of_ble_eq_true rfl⟩ ⟨hc1, hc2⟩ dL_law_523 rfl (fun H locs E => ?_)
    refine lv_istore (lv' := [(5, .int _), (0, .ref _), (1, .ref _), (2, .ref _), (3, .ref _), (4, .int _)]) C.1.1 C.1.2.1 dL_law_526 hl (by decide) rfl (fun ls hl => ?_)
    refine lv_aload_n C.1.1 C.1.2.1 dL_law_528 rfl (lv_at hl 3 rfl) ?_
    refine lv_aload_n C.1.1 C.1.2.1 dL_law_529 rfl (lv_at hl 1 rfl) ?_
    refine lv_iload C.1.1 C.1.2.1 dL_law_530 (lv_at hl 5 rfl) ?_
    refine lv_iconst (v := 1) C.1.1 C.1.2.1 dL_law_532 (by decide) ?_
    refine lv_iadd C.1.1 C.1.2.1 dL_law_533 ?_
    refine fm_lsld C E h1 dL_law_534 ?_
    refine lv_aload_n C.1.1 C.1.2.1 dL_law_535 rfl (lv_at hl 1 rfl) ?_
    refine lv_iload C.1.1 C.1.2.1 dL_law_536 (lv_at hl 5 rfl) ?_
    refine lv_iconst (v := 2) C.1.1 C.1.2.1 dL_law_538 (by decide) ?_
    refine lv_iadd C.1.1 C.1.2.1 dL_law_539 ?_
    refine fm_lsld C E h2 dL_law_540 ?_
    refine fm_lcallM C E [.int _, .int _] [] lq_X10_sample ln_X10_sample lk_X10_sample (c_Model_sample l _ N _ _ _ _ _ hf2) rfl rfl hl.1 (by simp) ⟨⟨rfl, rfl⟩, Nat.le_of_ble_eq_true rfl, Nat.le_of_ble_eq_true rfl⟩ ⟨hc1, hc2⟩ dL_law_541 rfl (fun H locs E => ?_)
    refine W.eq (g2 := F0 m 544 ls [.int r]) rfl ?_
    refine lv_istore (lv' := [(6, .int _), (5, .int _), (0, .ref _), (1, .ref _), (2, .ref _), (3, .ref _), (4, .int _)]) C.1.1 C.1.2.1 dL_law_544 hl (by decide) rfl (fun ls hl => ?_)
    refine lv_aload_n C.1.1 C.1.2.1 dL_law_546 rfl (lv_at hl 4 rfl) ?_
    refine fm_lcallM C E [] [] lq_X10_thrown ln_X10_thrown lk_X10_thrown (c_Model_thrown l _ _ _ hf3) rfl rfl hl.1 (by simp) ⟨⟨rfl, rfl⟩, Nat.le_of_ble_eq_true rfl, Nat.le_of_ble_eq_true rfl⟩ ⟨hc1, hc2⟩ dL_law_547 rfl (fun H locs E => ?_)
    refine W.eq (g2 := F0 m 550 ls [.int 0]) rfl ?_
    refine lv_iload C.1.1 C.1.2.1 dL_law_550 (lv_at hl 1 rfl) ?_
    refine lv_icmp_eq (tgt := 557) C.1.1 C.1.2.1 dL_law_552 (by decide) (fun _ => ?_) (fun h => absurd rfl h)
    refine lv_iload C.1.1 C.1.2.1 dL_law_557 (lv_at hl 1 rfl) ?_
    refine lv_if_ne (tgt := 574) C.1.1 C.1.2.1 dL_law_559 (by decide) (fun h => absurd rfl h) (fun _ => ?_)
    refine lv_aload_n C.1.1 C.1.2.1 dL_law_562 rfl (lv_at hl 5 rfl) ?_
    refine lv_iconst (v := 0) C.1.1 C.1.2.1 dL_law_563 (by decide) ?_
    refine fm_lout C E dL_law_564 ?_
    refine lv_iload C.1.1 C.1.2.1 dL_law_565 (lv_at hl 0 rfl) ?_
    refine lv_i2l C.1.1 C.1.2.1 dL_law_567 rfl ?_
    refine W.lcmp C.1.1 C.1.2.1 dL_law_568 ?_
    refine lv_if_eq (tgt := 574) C.1.1 C.1.2.1 dL_law_569 (by decide) (fun _ => ?_) (fun h => absurd (fm_cmp0 fm_upd0) h)
    refine lv_goto (tgt := 1837) C.1.1 C.1.2.1 dL_law_574 (by decide) ?_
    exact kk M1' M2' _ H locs ls hR' E (lv_sub hl [2, 3, 4, 5, 6] rfl)
  · refine lv_aload_n C.1.1 C.1.2.1 dL_law_509 rfl (lv_at hl 1 rfl) ?_
    refine lv_aload_n C.1.1 C.1.2.1 dL_law_510 rfl (lv_at hl 0 rfl) ?_
    refine lv_iload C.1.1 C.1.2.1 dL_law_511 (lv_at hl 4 rfl) ?_
    refine lv_iconst (v := 1) C.1.1 C.1.2.1 dL_law_513 (by decide) ?_
    refine lv_iadd C.1.1 C.1.2.1 dL_law_514 ?_
    refine fm_lsld C E h1 dL_law_515 ?_
    refine lv_aload_n C.1.1 C.1.2.1 dL_law_516 rfl (lv_at hl 0 rfl) ?_
    refine lv_iload C.1.1 C.1.2.1 dL_law_517 (lv_at hl 4 rfl) ?_
    refine lv_iconst (v := 2) C.1.1 C.1.2.1 dL_law_519 (by decide) ?_
    refine lv_iadd C.1.1 C.1.2.1 dL_law_520 ?_
    refine fm_lsld C E h2 dL_law_521 ?_
    refine lv_aload_n C.1.1 C.1.2.1 dL_law_522 rfl (lv_at hl 3 rfl) ?_
    refine fm_lcallH C E [.ref _, .int _, .int _, .ref _] [] lq_L_sample ln_L_sample lk_L_sample (ct_sample l hfl _ N _ _ _ _ _ _ hf1) rfl hl.1 (by simp) ⟨⟨rfl, rfl⟩, Nat.le_of_ble_eq_true rfl, Nat.le_of_ble_eq_true rfl⟩ ⟨hc1, hc2⟩ dL_law_523 rfl (fun H locs E => ?_)
    refine lv_istore (lv' := [(5, .int _), (0, .ref _), (1, .ref _), (2, .ref _), (3, .ref _), (4, .int _)]) C.1.1 C.1.2.1 dL_law_526 hl (by decide) rfl (fun ls hl => ?_)
    refine lv_aload_n C.1.1 C.1.2.1 dL_law_528 rfl (lv_at hl 3 rfl) ?_
    refine lv_aload_n C.1.1 C.1.2.1 dL_law_529 rfl (lv_at hl 1 rfl) ?_
    refine lv_iload C.1.1 C.1.2.1 dL_law_530 (lv_at hl 5 rfl) ?_
    refine lv_iconst (v := 1) C.1.1 C.1.2.1 dL_law_532 (by decide) ?_
    refine lv_iadd C.1.1 C.1.2.1 dL_law_533 ?_
    refine fm_lsld C E h1 dL_law_534 ?_
    refine lv_aload_n C.1.1 C.1.2.1 dL_law_535 rfl (lv_at hl 1 rfl) ?_
    refine lv_iload C.1.1 C.1.2.1 dL_law_536 (lv_at hl 5 rfl) ?_
    refine lv_iconst (v := 2) C.1.1 C.1.2.1 dL_law_538 (by decide) ?_
    refine lv_iadd C.1.1 C.1.2.1 dL_law_539 ?_
    refine fm_lsld C E h2 dL_law_540 ?_
    refine fm_lcallM C E [.int _, .int _] [] lq_X10_sample ln_X10_sample lk_X10_sample (c_Model_sample l _ N _ _ _ _ _ hf2) rfl rfl hl.1 (by simp) ⟨⟨rfl, rfl⟩, Nat.le_of_ble_eq_true rfl, Nat.le_of_ble_eq_true rfl⟩ ⟨hc1, hc2⟩ dL_law_541 rfl (fun H locs E => ?_)
    refine W.eq (g2 := F0 m 544 ls [.int r]) rfl ?_
    refine lv_istore (lv' := [(6, .int _), (5, .int _), (0, .ref _), (1, .ref _), (2, .ref _), (3, .ref _), (4, .int _)]) C.1.1 C.1.2.1 dL_law_544 hl (by decide) rfl (fun ls hl => ?_)
    refine lv_aload_n C.1.1 C.1.2.1 dL_law_546 rfl (lv_at hl 4 rfl) ?_
    refine fm_lcallM C E [] [] lq_X10_thrown ln_X10_thrown lk_X10_thrown (c_Model_thrown l _ _ _ hf3) rfl rfl hl.1 (by simp) ⟨⟨rfl, rfl⟩, Nat.le_of_ble_eq_true rfl, Nat.le_of_ble_eq_true rfl⟩ ⟨hc1, hc2⟩ dL_law_547 rfl (fun H locs E => ?_)
    refine W.eq (g2 := F0 m 550 ls [.int 1]) rfl ?_
    refine lv_iload C.1.1 C.1.2.1 dL_law_550 (lv_at hl 1 rfl) ?_
    refine lv_icmp_eq (tgt := 557) C.1.1 C.1.2.1 dL_law_552 (by decide) (fun _ => ?_) (fun h => absurd rfl h)
    refine lv_iload C.1.1 C.1.2.1 dL_law_557 (lv_at hl 1 rfl) ?_
    refine lv_if_ne (tgt := 574) C.1.1 C.1.2.1 dL_law_559 (by decide) (fun _ => ?_) (fun h => absurd h (by decide))
    refine lv_goto (tgt := 1837) C.1.1 C.1.2.1 dL_law_574 (by decide) ?_
    exact kk M1' M2' _ H locs ls hR' E (lv_sub hl [2, 3, 4, 5, 6] rfl)
theorem dL_law_577 : decode cL_law 577 = .ok (.aload_n 1, 1) := by decide +kernel
theorem dL_law_578 : decode cL_law 578 = .ok (.aload_n 0, 1) := by decide +kernel
theorem dL_law_579 : decode cL_law 579 = .ok (.iload 4, 2) := by decide +kernel
theorem dL_law_581 : decode cL_law 581 = .ok (.iconst 1, 1) := by decide +kernel
theorem dL_law_582 : decode cL_law 582 = .ok (.iadd, 1) := by decide +kernel
theorem dL_law_583 : decode cL_law 583 = .ok (.iaload, 1) := by decide +kernel
theorem dL_law_584 : decode cL_law 584 = .ok (.aload_n 0, 1) := by decide +kernel
theorem dL_law_585 : decode cL_law 585 = .ok (.iload 4, 2) := by decide +kernel
theorem dL_law_587 : decode cL_law 587 = .ok (.iconst 2, 1) := by decide +kernel
theorem dL_law_588 : decode cL_law 588 = .ok (.iadd, 1) := by decide +kernel
theorem dL_law_589 : decode cL_law 589 = .ok (.iaload, 1) := by decide +kernel
theorem dL_law_590 : decode cL_law 590 = .ok (.aload_n 0, 1) := by decide +kernel
theorem dL_law_591 : decode cL_law 591 = .ok (.iload 4, 2) := by decide +kernel
theorem dL_law_593 : decode cL_law 593 = .ok (.iconst 3, 1) := by decide +kernel
theorem dL_law_594 : decode cL_law 594 = .ok (.iadd, 1) := by decide +kernel
theorem dL_law_595 : decode cL_law 595 = .ok (.iaload, 1) := by decide +kernel
theorem dL_law_596 : decode cL_law 596 = .ok (.aload_n 3, 1) := by decide +kernel
theorem dL_law_597 : decode cL_law 597 = .ok (.invokestatic 81, 3) := by decide +kernel
theorem dL_law_600 : decode cL_law 600 = .ok (.istore 5, 2) := by decide +kernel
theorem dL_law_602 : decode cL_law 602 = .ok (.aload_n 2, 1) := by decide +kernel
theorem dL_law_603 : decode cL_law 603 = .ok (.aload_n 0, 1) := by decide +kernel
theorem dL_law_604 : decode cL_law 604 = .ok (.iload 4, 2) := by decide +kernel
theorem dL_law_606 : decode cL_law 606 = .ok (.iconst 1, 1) := by decide +kernel
theorem dL_law_607 : decode cL_law 607 = .ok (.iadd, 1) := by decide +kernel
theorem dL_law_608 : decode cL_law 608 = .ok (.iaload, 1) := by decide +kernel
theorem dL_law_609 : decode cL_law 609 = .ok (.aload_n 0, 1) := by decide +kernel
theorem dL_law_610 : decode cL_law 610 = .ok (.iload 4, 2) := by decide +kernel
theorem dL_law_612 : decode cL_law 612 = .ok (.iconst 2, 1) := by decide +kernel
theorem dL_law_613 : decode cL_law 613 = .ok (.iadd, 1) := by decide +kernel
theorem dL_law_614 : decode cL_law 614 = .ok (.iaload, 1) := by decide +kernel
theorem dL_law_615 : decode cL_law 615 = .ok (.aload_n 0, 1) := by decide +kernel
theorem dL_law_616 : decode cL_law 616 = .ok (.iload 4, 2) := by decide +kernel
theorem dL_law_618 : decode cL_law 618 = .ok (.iconst 3, 1) := by decide +kernel
theorem dL_law_619 : decode cL_law 619 = .ok (.iadd, 1) := by decide +kernel
theorem dL_law_620 : decode cL_law 620 = .ok (.iaload, 1) := by decide +kernel
theorem dL_law_621 : decode cL_law 621 = .ok (.invokevirtual 84, 3) := by decide +kernel
theorem dL_law_624 : decode cL_law 624 = .ok (.istore 6, 2) := by decide +kernel
theorem dL_law_626 : decode cL_law 626 = .ok (.aload_n 2, 1) := by decide +kernel
theorem dL_law_627 : decode cL_law 627 = .ok (.invokevirtual 72, 3) := by decide +kernel
theorem dL_law_630 : decode cL_law 630 = .ok (.iload 5, 2) := by decide +kernel
theorem dL_law_632 : decode cL_law 632 = .ok (.if_icmp .eq 5, 3) := by decide +kernel
theorem dL_law_635 : decode cL_law 635 = .ok (.iconst 0, 1) := by decide +kernel
theorem dL_law_636 : decode cL_law 636 = .ok (.ireturn, 1) := by decide +kernel
theorem dL_law_637 : decode cL_law 637 = .ok (.iload 5, 2) := by decide +kernel
theorem dL_law_639 : decode cL_law 639 = .ok (.ifCond .ne 15, 3) := by decide +kernel
theorem dL_law_642 : decode cL_law 642 = .ok (.aload_n 3, 1) := by decide +kernel
theorem dL_law_643 : decode cL_law 643 = .ok (.iconst 0, 1) := by decide +kernel
theorem dL_law_644 : decode cL_law 644 = .ok (.laload, 1) := by decide +kernel
theorem dL_law_645 : decode cL_law 645 = .ok (.iload 6, 2) := by decide +kernel
theorem dL_law_647 : decode cL_law 647 = .ok (.i2l, 1) := by decide +kernel
theorem dL_law_648 : decode cL_law 648 = .ok (.lcmp, 1) := by decide +kernel
theorem dL_law_649 : decode cL_law 649 = .ok (.ifCond .eq 5, 3) := by decide +kernel
theorem dL_law_652 : decode cL_law 652 = .ok (.iconst 0, 1) := by decide +kernel
theorem dL_law_653 : decode cL_law 653 = .ok (.ireturn, 1) := by decide +kernel
theorem dL_law_654 : decode cL_law 654 = .ok (.goto 1183, 3) := by decide +kernel
set_option maxHeartbeats 2000000 in
theorem lq_L_turned : fm_S "MicRowLaw" 81 yL_turned 5 := ⟨Or.inl (fm_wd 1064 (by decide +kernel) (by decide +kernel)), fm_wd 1065 (by decide +kernel) (by decide +kernel), fm_wd 80 (by decide +kernel) (by decide +kernel), ⟨by decide, by decide, by decide +kernel⟩⟩
theorem ln_L_turned : Cond.methodLink "MicRowLaw" 81 yL_turned ∈ fm_TT := fm_wd 1064 (by decide +kernel) (by decide +kernel)
theorem lk_L_turned : Cond.codeWith yL_turned cL_turned 6 (some .int) [(0, 12, 15, 13)] ∈ fm_TT := fm_wd 1066 (by decide +kernel) (by decide +kernel)
theorem lq_X10_turned : fm_V "MicRowLaw" 84 yX10_turned 3 := ⟨Or.inl (fm_wd 1330 (by decide +kernel) (by decide +kernel)), fm_wd 1331 (by decide +kernel) (by decide +kernel), fm_wd 1332 (by decide +kernel) (by decide +kernel), fm_wd 91 (by decide +kernel) (by decide +kernel), ⟨by decide, by decide, by decide +kernel⟩⟩
theorem ln_X10_turned : Cond.methodLink "MicRowLaw" 84 yX10_turned ∈ fm_TT := fm_wd 1330 (by decide +kernel) (by decide +kernel)
theorem lk_X10_turned : Cond.code yX10_turned cX10_turned 4 (some .int) ∈ fm_TT := fm_wd 1333 (by decide +kernel) (by decide +kernel)
theorem lw_case_turned (C : fm_LC G ad1 ad2 qo p s m meth c b L xs) (hfl : l.stackTraces = false) (hcs : cells + 1 ≤ room_1.cells ∧ slots + 6 ≤ room_1.slots) (E : fm_LW G ad1 ad2 qo M1 M2 f s H locs) (hl : lv_has ls 8 [(0, .ref b), (1, .ref (ad1 0)), (2, .ref (ad2 0)), (3, .ref qo), (4, .int i)]) (h1 : fm_in (i + 1) L = true) (h2 : fm_in (i + 2) L = true) (h3 : fm_in (i + 3) L = true) (h4 : fm_in (i + 4) L = true) (hn : n < 512) (hR : R n M1 M2) (hc : cp_turned N R) (kk : fm_KK p l e s m below meth c cells slots Q qo b n G ad1 ad2 i R) : W p l e room_1 s m #[Value.ref b] below meth c H locs cells slots Q (F0 m 577 ls []) := by
  obtain ⟨hc1, hc2⟩ := hcs
  have hc0 : cells ≤ room_1.cells ∧ slots ≤ room_1.slots := ⟨by omega, by omega⟩
  rcases hc n M1 M2 (xs (i + 1).toNatClampNeg) (xs (i + 2).toNatClampNeg) (xs (i + 3).toNatClampNeg) hn hR with ⟨r, M1', M2', hf1, hf2, hf3, hR'⟩ | ⟨r, M1', M2', hf1, hf2, hf3, hR'⟩
  · refine lv_aload_n C.1.1 C.1.2.1 dL_law_577 rfl (lv_at hl 1 rfl) ?_
    refine lv_aload_n C.1.1 C.1.2.1 dL_law_578 rfl (lv_at hl 0 rfl) ?_
    refine lv_iload C.1.1 C.1.2.1 dL_law_579 (lv_at hl 4 rfl) ?_
    refine lv_iconst (v := 1) C.1.1 C.1.2.1 dL_law_581 (by decide) ?_
    refine lv_iadd C.1.1 C.1.2.1 dL_law_582 ?_
    refine fm_lsld C E h1 dL_law_583 ?_
    refine lv_aload_n C.1.1 C.1.2.1 dL_law_584 rfl (lv_at hl 0 rfl) ?_
    refine lv_iload C.1.1 C.1.2.1 dL_law_585 (lv_at hl 4 rfl) ?_
    refine lv_iconst (v := 2) C.1.1 C.1.2.1 dL_law_587 (by decide) ?_
    refine lv_iadd C.1.1 C.1.2.1 dL_law_588 ?_
    refine fm_lsld C E h2 dL_law_589 ?_
    refine lv_aload_n C.1.1 C.1.2.1 dL_law_590 rfl (lv_at hl 0 rfl) ?_
    refine lv_iload C.1.1 C.1.2.1 dL_law_591 (lv_at hl 4 rfl) ?_
    refine lv_iconst (v := 3) C.1.1 C.1.2.1 dL_law_593 (by decide) ?_
    refine lv_iadd C.1.1 C.1.2.1 dL_law_594 ?_
    refine fm_lsld C E h3 dL_law_595 ?_
    refine lv_aload_n C.1.1 C.1.2.1 dL_law_596 rfl (lv_at hl 3 rfl) ?_
    refine fm_lcallH C E [.ref _, .int _, .int _, .int _, .ref _] [] lq_L_turned ln_L_turned lk_L_turned (ch_turned l _ N _ _ _ _ _ _ _ _ hf1) rfl hl.1 (by simp) ⟨⟨rfl, rfl⟩, Nat.le_of_ble_eq_true rfl, Nat.le_of_ble_eq_true rfl⟩ ⟨hc1, hc2⟩ dL_law_597 rfl (fun H locs E => ?_)
    refine lv_istore (lv' := [(5, .int _), (0, .ref _), (1, .ref _), (2, .ref _), (3, .ref _), (4, .int _)]) C.1.1 C.1.2.1 dL_law_600 hl (by decide) rfl (fun ls hl => ?_)
    refine lv_aload_n C.1.1 C.1.2.1 dL_law_602 rfl (lv_at hl 3 rfl) ?_
    refine lv_aload_n C.1.1 C.1.2.1 dL_law_603 rfl (lv_at hl 1 rfl) ?_
    refine lv_iload C.1.1 C.1.2.1 dL_law_604 (lv_at hl 5 rfl) ?_
    refine lv_iconst (v := 1) C.1.1 C.1.2.1 dL_law_606 (by decide) ?_
    refine lv_iadd C.1.1 C.1.2.1 dL_law_607 ?_
    refine fm_lsld C E h1 dL_law_608 ?_
    refine lv_aload_n C.1.1 C.1.2.1 dL_law_609 rfl (lv_at hl 1 rfl) ?_
    refine lv_iload C.1.1 C.1.2.1 dL_law_610 (lv_at hl 5 rfl) ?_
    refine lv_iconst (v := 2) C.1.1 C.1.2.1 dL_law_612 (by decide) ?_
    refine lv_iadd C.1.1 C.1.2.1 dL_law_613 ?_
    refine fm_lsld C E h2 dL_law_614 ?_
    refine lv_aload_n C.1.1 C.1.2.1 dL_law_615 rfl (lv_at hl 1 rfl) ?_
    refine lv_iload C.1.1 C.1.2.1 dL_law_616 (lv_at hl 5 rfl) ?_
    refine lv_iconst (v := 3) C.1.1 C.1.2.1 dL_law_618 (by decide) ?_
    refine lv_iadd C.1.1 C.1.2.1 dL_law_619 ?_
    refine fm_lsld C E h3 dL_law_620 ?_
    refine fm_lcallM C E [.int _, .int _, .int _] [] lq_X10_turned ln_X10_turned lk_X10_turned (c_Model_turned l _ N _ _ _ _ _ _ hf2) rfl rfl hl.1 (by simp) ⟨⟨rfl, rfl⟩, Nat.le_of_ble_eq_true rfl, Nat.le_of_ble_eq_true rfl⟩ ⟨hc1, hc2⟩ dL_law_621 rfl (fun H locs E => ?_)
    refine W.eq (g2 := F0 m 624 ls [.int r]) rfl ?_
    refine lv_istore (lv' := [(6, .int _), (5, .int _), (0, .ref _), (1, .ref _), (2, .ref _), (3, .ref _), (4, .int _)]) C.1.1 C.1.2.1 dL_law_624 hl (by decide) rfl (fun ls hl => ?_)
    refine lv_aload_n C.1.1 C.1.2.1 dL_law_626 rfl (lv_at hl 4 rfl) ?_
    refine fm_lcallM C E [] [] lq_X10_thrown ln_X10_thrown lk_X10_thrown (c_Model_thrown l _ _ _ hf3) rfl rfl hl.1 (by simp) ⟨⟨rfl, rfl⟩, Nat.le_of_ble_eq_true rfl, Nat.le_of_ble_eq_true rfl⟩ ⟨hc1, hc2⟩ dL_law_627 rfl (fun H locs E => ?_)
    refine W.eq (g2 := F0 m 630 ls [.int 0]) rfl ?_
    refine lv_iload C.1.1 C.1.2.1 dL_law_630 (lv_at hl 1 rfl) ?_
    refine lv_icmp_eq (tgt := 637) C.1.1 C.1.2.1 dL_law_632 (by decide) (fun _ => ?_) (fun h => absurd rfl h)
    refine lv_iload C.1.1 C.1.2.1 dL_law_637 (lv_at hl 1 rfl) ?_
    refine lv_if_ne (tgt := 654) C.1.1 C.1.2.1 dL_law_639 (by decide) (fun h => absurd rfl h) (fun _ => ?_)
    refine lv_aload_n C.1.1 C.1.2.1 dL_law_642 rfl (lv_at hl 5 rfl) ?_
    refine lv_iconst (v := 0) C.1.1 C.1.2.1 dL_law_643 (by decide) ?_
    refine fm_lout C E dL_law_644 ?_
    refine lv_iload C.1.1 C.1.2.1 dL_law_645 (lv_at hl 0 rfl) ?_
    refine lv_i2l C.1.1 C.1.2.1 dL_law_647 rfl ?_
    refine W.lcmp C.1.1 C.1.2.1 dL_law_648 ?_
    refine lv_if_eq (tgt := 654) C.1.1 C.1.2.1 dL_law_649 (by decide) (fun _ => ?_) (fun h => absurd (fm_cmp0 fm_upd0) h)
    refine lv_goto (tgt := 1837) C.1.1 C.1.2.1 dL_law_654 (by decide) ?_
    exact kk M1' M2' _ H locs ls hR' E (lv_sub hl [2, 3, 4, 5, 6] rfl)
  · refine lv_aload_n C.1.1 C.1.2.1 dL_law_577 rfl (lv_at hl 1 rfl) ?_
    refine lv_aload_n C.1.1 C.1.2.1 dL_law_578 rfl (lv_at hl 0 rfl) ?_
    refine lv_iload C.1.1 C.1.2.1 dL_law_579 (lv_at hl 4 rfl) ?_
    refine lv_iconst (v := 1) C.1.1 C.1.2.1 dL_law_581 (by decide) ?_
    refine lv_iadd C.1.1 C.1.2.1 dL_law_582 ?_
    refine fm_lsld C E h1 dL_law_583 ?_
    refine lv_aload_n C.1.1 C.1.2.1 dL_law_584 rfl (lv_at hl 0 rfl) ?_
    refine lv_iload C.1.1 C.1.2.1 dL_law_585 (lv_at hl 4 rfl) ?_
    refine lv_iconst (v := 2) C.1.1 C.1.2.1 dL_law_587 (by decide) ?_
    refine lv_iadd C.1.1 C.1.2.1 dL_law_588 ?_
    refine fm_lsld C E h2 dL_law_589 ?_
    refine lv_aload_n C.1.1 C.1.2.1 dL_law_590 rfl (lv_at hl 0 rfl) ?_
    refine lv_iload C.1.1 C.1.2.1 dL_law_591 (lv_at hl 4 rfl) ?_
    refine lv_iconst (v := 3) C.1.1 C.1.2.1 dL_law_593 (by decide) ?_
    refine lv_iadd C.1.1 C.1.2.1 dL_law_594 ?_
    refine fm_lsld C E h3 dL_law_595 ?_
    refine lv_aload_n C.1.1 C.1.2.1 dL_law_596 rfl (lv_at hl 3 rfl) ?_
    refine fm_lcallH C E [.ref _, .int _, .int _, .int _, .ref _] [] lq_L_turned ln_L_turned lk_L_turned (ct_turned l hfl _ N _ _ _ _ _ _ _ hf1) rfl hl.1 (by simp) ⟨⟨rfl, rfl⟩, Nat.le_of_ble_eq_true rfl, Nat.le_of_ble_eq_true rfl⟩ ⟨hc1, hc2⟩ dL_law_597 rfl (fun H locs E => ?_)
    refine lv_istore (lv' := [(5, .int _), (0, .ref _), (1, .ref _), (2, .ref _), (3, .ref _), (4, .int _)]) C.1.1 C.1.2.1 dL_law_600 hl (by decide) rfl (fun ls hl => ?_)
    refine lv_aload_n C.1.1 C.1.2.1 dL_law_602 rfl (lv_at hl 3 rfl) ?_
    refine lv_aload_n C.1.1 C.1.2.1 dL_law_603 rfl (lv_at hl 1 rfl) ?_
    refine lv_iload C.1.1 C.1.2.1 dL_law_604 (lv_at hl 5 rfl) ?_
    refine lv_iconst (v := 1) C.1.1 C.1.2.1 dL_law_606 (by decide) ?_
    refine lv_iadd C.1.1 C.1.2.1 dL_law_607 ?_
    refine fm_lsld C E h1 dL_law_608 ?_
    refine lv_aload_n C.1.1 C.1.2.1 dL_law_609 rfl (lv_at hl 1 rfl) ?_
    refine lv_iload C.1.1 C.1.2.1 dL_law_610 (lv_at hl 5 rfl) ?_
    refine lv_iconst (v := 2) C.1.1 C.1.2.1 dL_law_612 (by decide) ?_
    refine lv_iadd C.1.1 C.1.2.1 dL_law_613 ?_
    refine fm_lsld C E h2 dL_law_614 ?_
    refine lv_aload_n C.1.1 C.1.2.1 dL_law_615 rfl (lv_at hl 1 rfl) ?_
    refine lv_iload C.1.1 C.1.2.1 dL_law_616 (lv_at hl 5 rfl) ?_
    refine lv_iconst (v := 3) C.1.1 C.1.2.1 dL_law_618 (by decide) ?_
    refine lv_iadd C.1.1 C.1.2.1 dL_law_619 ?_
    refine fm_lsld C E h3 dL_law_620 ?_
    refine fm_lcallM C E [.int _, .int _, .int _] [] lq_X10_turned ln_X10_turned lk_X10_turned (c_Model_turned l _ N _ _ _ _ _ _ hf2) rfl rfl hl.1 (by simp) ⟨⟨rfl, rfl⟩, Nat.le_of_ble_eq_true rfl, Nat.le_of_ble_eq_true rfl⟩ ⟨hc1, hc2⟩ dL_law_621 rfl (fun H locs E => ?_)
    refine W.eq (g2 := F0 m 624 ls [.int r]) rfl ?_
    refine lv_istore (lv' := [(6, .int _), (5, .int _), (0, .ref _), (1, .ref _), (2, .ref _), (3, .ref _), (4, .int _)]) C.1.1 C.1.2.1 dL_law_624 hl (by decide) rfl (fun ls hl => ?_)
    refine lv_aload_n C.1.1 C.1.2.1 dL_law_626 rfl (lv_at hl 4 rfl) ?_
    refine fm_lcallM C E [] [] lq_X10_thrown ln_X10_thrown lk_X10_thrown (c_Model_thrown l _ _ _ hf3) rfl rfl hl.1 (by simp) ⟨⟨rfl, rfl⟩, Nat.le_of_ble_eq_true rfl, Nat.le_of_ble_eq_true rfl⟩ ⟨hc1, hc2⟩ dL_law_627 rfl (fun H locs E => ?_)
    refine W.eq (g2 := F0 m 630 ls [.int 1]) rfl ?_
    refine lv_iload C.1.1 C.1.2.1 dL_law_630 (lv_at hl 1 rfl) ?_
    refine lv_icmp_eq (tgt := 637) C.1.1 C.1.2.1 dL_law_632 (by decide) (fun _ => ?_) (fun h => absurd rfl h)
    refine lv_iload C.1.1 C.1.2.1 dL_law_637 (lv_at hl 1 rfl) ?_
    refine lv_if_ne (tgt := 654) C.1.1 C.1.2.1 dL_law_639 (by decide) (fun _ => ?_) (fun h => absurd h (by decide))
    refine lv_goto (tgt := 1837) C.1.1 C.1.2.1 dL_law_654 (by decide) ?_
    exact kk M1' M2' _ H locs ls hR' E (lv_sub hl [2, 3, 4, 5, 6] rfl)
theorem dL_law_657 : decode cL_law 657 = .ok (.aload_n 1, 1) := by decide +kernel
theorem dL_law_658 : decode cL_law 658 = .ok (.aload_n 0, 1) := by decide +kernel
theorem dL_law_659 : decode cL_law 659 = .ok (.iload 4, 2) := by decide +kernel
theorem dL_law_661 : decode cL_law 661 = .ok (.iconst 1, 1) := by decide +kernel
theorem dL_law_662 : decode cL_law 662 = .ok (.iadd, 1) := by decide +kernel
theorem dL_law_663 : decode cL_law 663 = .ok (.iaload, 1) := by decide +kernel
theorem dL_law_664 : decode cL_law 664 = .ok (.aload_n 0, 1) := by decide +kernel
theorem dL_law_665 : decode cL_law 665 = .ok (.iload 4, 2) := by decide +kernel
theorem dL_law_667 : decode cL_law 667 = .ok (.iconst 2, 1) := by decide +kernel
theorem dL_law_668 : decode cL_law 668 = .ok (.iadd, 1) := by decide +kernel
theorem dL_law_669 : decode cL_law 669 = .ok (.iaload, 1) := by decide +kernel
theorem dL_law_670 : decode cL_law 670 = .ok (.aload_n 3, 1) := by decide +kernel
theorem dL_law_671 : decode cL_law 671 = .ok (.invokestatic 85, 3) := by decide +kernel
theorem dL_law_674 : decode cL_law 674 = .ok (.istore 5, 2) := by decide +kernel
theorem dL_law_676 : decode cL_law 676 = .ok (.aload_n 2, 1) := by decide +kernel
theorem dL_law_677 : decode cL_law 677 = .ok (.aload_n 0, 1) := by decide +kernel
theorem dL_law_678 : decode cL_law 678 = .ok (.iload 4, 2) := by decide +kernel
theorem dL_law_680 : decode cL_law 680 = .ok (.iconst 1, 1) := by decide +kernel
theorem dL_law_681 : decode cL_law 681 = .ok (.iadd, 1) := by decide +kernel
theorem dL_law_682 : decode cL_law 682 = .ok (.iaload, 1) := by decide +kernel
theorem dL_law_683 : decode cL_law 683 = .ok (.aload_n 0, 1) := by decide +kernel
theorem dL_law_684 : decode cL_law 684 = .ok (.iload 4, 2) := by decide +kernel
theorem dL_law_686 : decode cL_law 686 = .ok (.iconst 2, 1) := by decide +kernel
theorem dL_law_687 : decode cL_law 687 = .ok (.iadd, 1) := by decide +kernel
theorem dL_law_688 : decode cL_law 688 = .ok (.iaload, 1) := by decide +kernel
theorem dL_law_689 : decode cL_law 689 = .ok (.invokevirtual 87, 3) := by decide +kernel
theorem dL_law_692 : decode cL_law 692 = .ok (.istore 6, 2) := by decide +kernel
theorem dL_law_694 : decode cL_law 694 = .ok (.aload_n 2, 1) := by decide +kernel
theorem dL_law_695 : decode cL_law 695 = .ok (.invokevirtual 72, 3) := by decide +kernel
theorem dL_law_698 : decode cL_law 698 = .ok (.iload 5, 2) := by decide +kernel
theorem dL_law_700 : decode cL_law 700 = .ok (.if_icmp .eq 5, 3) := by decide +kernel
theorem dL_law_703 : decode cL_law 703 = .ok (.iconst 0, 1) := by decide +kernel
theorem dL_law_704 : decode cL_law 704 = .ok (.ireturn, 1) := by decide +kernel
theorem dL_law_705 : decode cL_law 705 = .ok (.iload 5, 2) := by decide +kernel
theorem dL_law_707 : decode cL_law 707 = .ok (.ifCond .ne 15, 3) := by decide +kernel
theorem dL_law_710 : decode cL_law 710 = .ok (.aload_n 3, 1) := by decide +kernel
theorem dL_law_711 : decode cL_law 711 = .ok (.iconst 0, 1) := by decide +kernel
theorem dL_law_712 : decode cL_law 712 = .ok (.laload, 1) := by decide +kernel
theorem dL_law_713 : decode cL_law 713 = .ok (.iload 6, 2) := by decide +kernel
theorem dL_law_715 : decode cL_law 715 = .ok (.i2l, 1) := by decide +kernel
theorem dL_law_716 : decode cL_law 716 = .ok (.lcmp, 1) := by decide +kernel
theorem dL_law_717 : decode cL_law 717 = .ok (.ifCond .eq 5, 3) := by decide +kernel
theorem dL_law_720 : decode cL_law 720 = .ok (.iconst 0, 1) := by decide +kernel
theorem dL_law_721 : decode cL_law 721 = .ok (.ireturn, 1) := by decide +kernel
theorem dL_law_722 : decode cL_law 722 = .ok (.goto 1115, 3) := by decide +kernel
set_option maxHeartbeats 2000000 in
theorem lq_L_beam : fm_S "MicRowLaw" 85 yL_beam 4 := ⟨Or.inl (fm_wd 1074 (by decide +kernel) (by decide +kernel)), fm_wd 1075 (by decide +kernel) (by decide +kernel), fm_wd 80 (by decide +kernel) (by decide +kernel), ⟨by decide, by decide, by decide +kernel⟩⟩
theorem ln_L_beam : Cond.methodLink "MicRowLaw" 85 yL_beam ∈ fm_TT := fm_wd 1074 (by decide +kernel) (by decide +kernel)
theorem lk_L_beam : Cond.codeWith yL_beam cL_beam 5 (some .int) [(0, 10, 13, 13)] ∈ fm_TT := fm_wd 1076 (by decide +kernel) (by decide +kernel)
theorem lq_X10_beam : fm_V "MicRowLaw" 87 yX10_beam 2 := ⟨Or.inl (fm_wd 1352 (by decide +kernel) (by decide +kernel)), fm_wd 1353 (by decide +kernel) (by decide +kernel), fm_wd 1354 (by decide +kernel) (by decide +kernel), fm_wd 91 (by decide +kernel) (by decide +kernel), ⟨by decide, by decide, by decide +kernel⟩⟩
theorem ln_X10_beam : Cond.methodLink "MicRowLaw" 87 yX10_beam ∈ fm_TT := fm_wd 1352 (by decide +kernel) (by decide +kernel)
theorem lk_X10_beam : Cond.code yX10_beam cX10_beam 3 (some .int) ∈ fm_TT := fm_wd 1355 (by decide +kernel) (by decide +kernel)
theorem lw_case_beam (C : fm_LC G ad1 ad2 qo p s m meth c b L xs) (hfl : l.stackTraces = false) (hcs : cells + 1 ≤ room_1.cells ∧ slots + 6 ≤ room_1.slots) (E : fm_LW G ad1 ad2 qo M1 M2 f s H locs) (hl : lv_has ls 8 [(0, .ref b), (1, .ref (ad1 0)), (2, .ref (ad2 0)), (3, .ref qo), (4, .int i)]) (h1 : fm_in (i + 1) L = true) (h2 : fm_in (i + 2) L = true) (h3 : fm_in (i + 3) L = true) (h4 : fm_in (i + 4) L = true) (hn : n < 512) (hR : R n M1 M2) (hc : cp_beam N R) (kk : fm_KK p l e s m below meth c cells slots Q qo b n G ad1 ad2 i R) : W p l e room_1 s m #[Value.ref b] below meth c H locs cells slots Q (F0 m 657 ls []) := by
  obtain ⟨hc1, hc2⟩ := hcs
  have hc0 : cells ≤ room_1.cells ∧ slots ≤ room_1.slots := ⟨by omega, by omega⟩
  rcases hc n M1 M2 (xs (i + 1).toNatClampNeg) (xs (i + 2).toNatClampNeg) hn hR with ⟨r, M1', M2', hf1, hf2, hf3, hR'⟩ | ⟨r, M1', M2', hf1, hf2, hf3, hR'⟩
  · refine lv_aload_n C.1.1 C.1.2.1 dL_law_657 rfl (lv_at hl 1 rfl) ?_
    refine lv_aload_n C.1.1 C.1.2.1 dL_law_658 rfl (lv_at hl 0 rfl) ?_
    refine lv_iload C.1.1 C.1.2.1 dL_law_659 (lv_at hl 4 rfl) ?_
    refine lv_iconst (v := 1) C.1.1 C.1.2.1 dL_law_661 (by decide) ?_
    refine lv_iadd C.1.1 C.1.2.1 dL_law_662 ?_
    refine fm_lsld C E h1 dL_law_663 ?_
    refine lv_aload_n C.1.1 C.1.2.1 dL_law_664 rfl (lv_at hl 0 rfl) ?_
    refine lv_iload C.1.1 C.1.2.1 dL_law_665 (lv_at hl 4 rfl) ?_
    refine lv_iconst (v := 2) C.1.1 C.1.2.1 dL_law_667 (by decide) ?_
    refine lv_iadd C.1.1 C.1.2.1 dL_law_668 ?_
    refine fm_lsld C E h2 dL_law_669 ?_
    refine lv_aload_n C.1.1 C.1.2.1 dL_law_670 rfl (lv_at hl 3 rfl) ?_
    refine fm_lcallH C E [.ref _, .int _, .int _, .ref _] [] lq_L_beam ln_L_beam lk_L_beam (ch_beam l _ N _ _ _ _ _ _ _ hf1) rfl hl.1 (by simp) ⟨⟨rfl, rfl⟩, Nat.le_of_ble_eq_true rfl, Nat.le_of_ble_eq_true rfl⟩ ⟨hc1, hc2⟩ dL_law_671 rfl (fun H locs E => ?_)
    refine lv_istore (lv' := [(5, .int _), (0, .ref _), (1, .ref _), (2, .ref _), (3, .ref _), (4, .int _)]) C.1.1 C.1.2.1 dL_law_674 hl (by decide) rfl (fun ls hl => ?_)
    refine lv_aload_n C.1.1 C.1.2.1 dL_law_676 rfl (lv_at hl 3 rfl) ?_
    refine lv_aload_n C.1.1 C.1.2.1 dL_law_677 rfl (lv_at hl 1 rfl) ?_
    refine lv_iload C.1.1 C.1.2.1 dL_law_678 (lv_at hl 5 rfl) ?_
    refine lv_iconst (v := 1) C.1.1 C.1.2.1 dL_law_680 (by decide) ?_
    refine lv_iadd C.1.1 C.1.2.1 dL_law_681 ?_
    refine fm_lsld C E h1 dL_law_682 ?_
    refine lv_aload_n C.1.1 C.1.2.1 dL_law_683 rfl (lv_at hl 1 rfl) ?_
    refine lv_iload C.1.1 C.1.2.1 dL_law_684 (lv_at hl 5 rfl) ?_
    refine lv_iconst (v := 2) C.1.1 C.1.2.1 dL_law_686 (by decide) ?_
    refine lv_iadd C.1.1 C.1.2.1 dL_law_687 ?_
    refine fm_lsld C E h2 dL_law_688 ?_
    refine fm_lcallM C E [.int _, .int _] [] lq_X10_beam ln_X10_beam lk_X10_beam (c_Model_beam l _ N _ _ _ _ _ hf2) rfl rfl hl.1 (by simp) ⟨⟨rfl, rfl⟩, Nat.le_of_ble_eq_true rfl, Nat.le_of_ble_eq_true rfl⟩ ⟨hc1, hc2⟩ dL_law_689 rfl (fun H locs E => ?_)
    refine W.eq (g2 := F0 m 692 ls [.int r]) rfl ?_
    refine lv_istore (lv' := [(6, .int _), (5, .int _), (0, .ref _), (1, .ref _), (2, .ref _), (3, .ref _), (4, .int _)]) C.1.1 C.1.2.1 dL_law_692 hl (by decide) rfl (fun ls hl => ?_)
    refine lv_aload_n C.1.1 C.1.2.1 dL_law_694 rfl (lv_at hl 4 rfl) ?_
    refine fm_lcallM C E [] [] lq_X10_thrown ln_X10_thrown lk_X10_thrown (c_Model_thrown l _ _ _ hf3) rfl rfl hl.1 (by simp) ⟨⟨rfl, rfl⟩, Nat.le_of_ble_eq_true rfl, Nat.le_of_ble_eq_true rfl⟩ ⟨hc1, hc2⟩ dL_law_695 rfl (fun H locs E => ?_)
    refine W.eq (g2 := F0 m 698 ls [.int 0]) rfl ?_
    refine lv_iload C.1.1 C.1.2.1 dL_law_698 (lv_at hl 1 rfl) ?_
    refine lv_icmp_eq (tgt := 705) C.1.1 C.1.2.1 dL_law_700 (by decide) (fun _ => ?_) (fun h => absurd rfl h)
    refine lv_iload C.1.1 C.1.2.1 dL_law_705 (lv_at hl 1 rfl) ?_
    refine lv_if_ne (tgt := 722) C.1.1 C.1.2.1 dL_law_707 (by decide) (fun h => absurd rfl h) (fun _ => ?_)
    refine lv_aload_n C.1.1 C.1.2.1 dL_law_710 rfl (lv_at hl 5 rfl) ?_
    refine lv_iconst (v := 0) C.1.1 C.1.2.1 dL_law_711 (by decide) ?_
    refine fm_lout C E dL_law_712 ?_
    refine lv_iload C.1.1 C.1.2.1 dL_law_713 (lv_at hl 0 rfl) ?_
    refine lv_i2l C.1.1 C.1.2.1 dL_law_715 rfl ?_
    refine W.lcmp C.1.1 C.1.2.1 dL_law_716 ?_
    refine lv_if_eq (tgt := 722) C.1.1 C.1.2.1 dL_law_717 (by decide) (fun _ => ?_) (fun h => absurd (fm_cmp0 fm_upd0) h)
    refine lv_goto (tgt := 1837) C.1.1 C.1.2.1 dL_law_722 (by decide) ?_
    exact kk M1' M2' _ H locs ls hR' E (lv_sub hl [2, 3, 4, 5, 6] rfl)
  · refine lv_aload_n C.1.1 C.1.2.1 dL_law_657 rfl (lv_at hl 1 rfl) ?_
    refine lv_aload_n C.1.1 C.1.2.1 dL_law_658 rfl (lv_at hl 0 rfl) ?_
    refine lv_iload C.1.1 C.1.2.1 dL_law_659 (lv_at hl 4 rfl) ?_
    refine lv_iconst (v := 1) C.1.1 C.1.2.1 dL_law_661 (by decide) ?_
    refine lv_iadd C.1.1 C.1.2.1 dL_law_662 ?_
    refine fm_lsld C E h1 dL_law_663 ?_
    refine lv_aload_n C.1.1 C.1.2.1 dL_law_664 rfl (lv_at hl 0 rfl) ?_
    refine lv_iload C.1.1 C.1.2.1 dL_law_665 (lv_at hl 4 rfl) ?_
    refine lv_iconst (v := 2) C.1.1 C.1.2.1 dL_law_667 (by decide) ?_
    refine lv_iadd C.1.1 C.1.2.1 dL_law_668 ?_
    refine fm_lsld C E h2 dL_law_669 ?_
    refine lv_aload_n C.1.1 C.1.2.1 dL_law_670 rfl (lv_at hl 3 rfl) ?_
    refine fm_lcallH C E [.ref _, .int _, .int _, .ref _] [] lq_L_beam ln_L_beam lk_L_beam (ct_beam l hfl _ N _ _ _ _ _ _ hf1) rfl hl.1 (by simp) ⟨⟨rfl, rfl⟩, Nat.le_of_ble_eq_true rfl, Nat.le_of_ble_eq_true rfl⟩ ⟨hc1, hc2⟩ dL_law_671 rfl (fun H locs E => ?_)
    refine lv_istore (lv' := [(5, .int _), (0, .ref _), (1, .ref _), (2, .ref _), (3, .ref _), (4, .int _)]) C.1.1 C.1.2.1 dL_law_674 hl (by decide) rfl (fun ls hl => ?_)
    refine lv_aload_n C.1.1 C.1.2.1 dL_law_676 rfl (lv_at hl 3 rfl) ?_
    refine lv_aload_n C.1.1 C.1.2.1 dL_law_677 rfl (lv_at hl 1 rfl) ?_
    refine lv_iload C.1.1 C.1.2.1 dL_law_678 (lv_at hl 5 rfl) ?_
    refine lv_iconst (v := 1) C.1.1 C.1.2.1 dL_law_680 (by decide) ?_
    refine lv_iadd C.1.1 C.1.2.1 dL_law_681 ?_
    refine fm_lsld C E h1 dL_law_682 ?_
    refine lv_aload_n C.1.1 C.1.2.1 dL_law_683 rfl (lv_at hl 1 rfl) ?_
    refine lv_iload C.1.1 C.1.2.1 dL_law_684 (lv_at hl 5 rfl) ?_
    refine lv_iconst (v := 2) C.1.1 C.1.2.1 dL_law_686 (by decide) ?_
    refine lv_iadd C.1.1 C.1.2.1 dL_law_687 ?_
    refine fm_lsld C E h2 dL_law_688 ?_
    refine fm_lcallM C E [.int _, .int _] [] lq_X10_beam ln_X10_beam lk_X10_beam (c_Model_beam l _ N _ _ _ _ _ hf2) rfl rfl hl.1 (by simp) ⟨⟨rfl, rfl⟩, Nat.le_of_ble_eq_true rfl, Nat.le_of_ble_eq_true rfl⟩ ⟨hc1, hc2⟩ dL_law_689 rfl (fun H locs E => ?_)
    refine W.eq (g2 := F0 m 692 ls [.int r]) rfl ?_
    refine lv_istore (lv' := [(6, .int _), (5, .int _), (0, .ref _), (1, .ref _), (2, .ref _), (3, .ref _), (4, .int _)]) C.1.1 C.1.2.1 dL_law_692 hl (by decide) rfl (fun ls hl => ?_)
    refine lv_aload_n C.1.1 C.1.2.1 dL_law_694 rfl (lv_at hl 4 rfl) ?_
    refine fm_lcallM C E [] [] lq_X10_thrown ln_X10_thrown lk_X10_thrown (c_Model_thrown l _ _ _ hf3) rfl rfl hl.1 (by simp) ⟨⟨rfl, rfl⟩, Nat.le_of_ble_eq_true rfl, Nat.le_of_ble_eq_true rfl⟩ ⟨hc1, hc2⟩ dL_law_695 rfl (fun H locs E => ?_)
    refine W.eq (g2 := F0 m 698 ls [.int 1]) rfl ?_
    refine lv_iload C.1.1 C.1.2.1 dL_law_698 (lv_at hl 1 rfl) ?_
    refine lv_icmp_eq (tgt := 705) C.1.1 C.1.2.1 dL_law_700 (by decide) (fun _ => ?_) (fun h => absurd rfl h)
    refine lv_iload C.1.1 C.1.2.1 dL_law_705 (lv_at hl 1 rfl) ?_
    refine lv_if_ne (tgt := 722) C.1.1 C.1.2.1 dL_law_707 (by decide) (fun _ => ?_) (fun h => absurd h (by decide))
    refine lv_goto (tgt := 1837) C.1.1 C.1.2.1 dL_law_722 (by decide) ?_
    exact kk M1' M2' _ H locs ls hR' E (lv_sub hl [2, 3, 4, 5, 6] rfl)
theorem dL_law_725 : decode cL_law 725 = .ok (.aload_n 1, 1) := by decide +kernel
theorem dL_law_726 : decode cL_law 726 = .ok (.aload_n 0, 1) := by decide +kernel
theorem dL_law_727 : decode cL_law 727 = .ok (.iload 4, 2) := by decide +kernel
theorem dL_law_729 : decode cL_law 729 = .ok (.iconst 1, 1) := by decide +kernel
theorem dL_law_730 : decode cL_law 730 = .ok (.iadd, 1) := by decide +kernel
theorem dL_law_731 : decode cL_law 731 = .ok (.iaload, 1) := by decide +kernel
theorem dL_law_732 : decode cL_law 732 = .ok (.aload_n 0, 1) := by decide +kernel
theorem dL_law_733 : decode cL_law 733 = .ok (.iload 4, 2) := by decide +kernel
theorem dL_law_735 : decode cL_law 735 = .ok (.iconst 2, 1) := by decide +kernel
theorem dL_law_736 : decode cL_law 736 = .ok (.iadd, 1) := by decide +kernel
theorem dL_law_737 : decode cL_law 737 = .ok (.iaload, 1) := by decide +kernel
theorem dL_law_738 : decode cL_law 738 = .ok (.aload_n 0, 1) := by decide +kernel
theorem dL_law_739 : decode cL_law 739 = .ok (.iload 4, 2) := by decide +kernel
theorem dL_law_741 : decode cL_law 741 = .ok (.iconst 3, 1) := by decide +kernel
theorem dL_law_742 : decode cL_law 742 = .ok (.iadd, 1) := by decide +kernel
theorem dL_law_743 : decode cL_law 743 = .ok (.iaload, 1) := by decide +kernel
theorem dL_law_744 : decode cL_law 744 = .ok (.aload_n 3, 1) := by decide +kernel
theorem dL_law_745 : decode cL_law 745 = .ok (.invokestatic 88, 3) := by decide +kernel
theorem dL_law_748 : decode cL_law 748 = .ok (.istore 5, 2) := by decide +kernel
theorem dL_law_750 : decode cL_law 750 = .ok (.aload_n 2, 1) := by decide +kernel
theorem dL_law_751 : decode cL_law 751 = .ok (.aload_n 0, 1) := by decide +kernel
theorem dL_law_752 : decode cL_law 752 = .ok (.iload 4, 2) := by decide +kernel
theorem dL_law_754 : decode cL_law 754 = .ok (.iconst 1, 1) := by decide +kernel
theorem dL_law_755 : decode cL_law 755 = .ok (.iadd, 1) := by decide +kernel
theorem dL_law_756 : decode cL_law 756 = .ok (.iaload, 1) := by decide +kernel
theorem dL_law_757 : decode cL_law 757 = .ok (.aload_n 0, 1) := by decide +kernel
theorem dL_law_758 : decode cL_law 758 = .ok (.iload 4, 2) := by decide +kernel
theorem dL_law_760 : decode cL_law 760 = .ok (.iconst 2, 1) := by decide +kernel
theorem dL_law_761 : decode cL_law 761 = .ok (.iadd, 1) := by decide +kernel
theorem dL_law_762 : decode cL_law 762 = .ok (.iaload, 1) := by decide +kernel
theorem dL_law_763 : decode cL_law 763 = .ok (.aload_n 0, 1) := by decide +kernel
theorem dL_law_764 : decode cL_law 764 = .ok (.iload 4, 2) := by decide +kernel
theorem dL_law_766 : decode cL_law 766 = .ok (.iconst 3, 1) := by decide +kernel
theorem dL_law_767 : decode cL_law 767 = .ok (.iadd, 1) := by decide +kernel
theorem dL_law_768 : decode cL_law 768 = .ok (.iaload, 1) := by decide +kernel
theorem dL_law_769 : decode cL_law 769 = .ok (.invokevirtual 90, 3) := by decide +kernel
theorem dL_law_772 : decode cL_law 772 = .ok (.istore 6, 2) := by decide +kernel
theorem dL_law_774 : decode cL_law 774 = .ok (.aload_n 2, 1) := by decide +kernel
theorem dL_law_775 : decode cL_law 775 = .ok (.invokevirtual 72, 3) := by decide +kernel
theorem dL_law_778 : decode cL_law 778 = .ok (.iload 5, 2) := by decide +kernel
theorem dL_law_780 : decode cL_law 780 = .ok (.if_icmp .eq 5, 3) := by decide +kernel
theorem dL_law_783 : decode cL_law 783 = .ok (.iconst 0, 1) := by decide +kernel
theorem dL_law_784 : decode cL_law 784 = .ok (.ireturn, 1) := by decide +kernel
theorem dL_law_785 : decode cL_law 785 = .ok (.iload 5, 2) := by decide +kernel
theorem dL_law_787 : decode cL_law 787 = .ok (.ifCond .ne 15, 3) := by decide +kernel
theorem dL_law_790 : decode cL_law 790 = .ok (.aload_n 3, 1) := by decide +kernel
theorem dL_law_791 : decode cL_law 791 = .ok (.iconst 0, 1) := by decide +kernel
theorem dL_law_792 : decode cL_law 792 = .ok (.laload, 1) := by decide +kernel
theorem dL_law_793 : decode cL_law 793 = .ok (.iload 6, 2) := by decide +kernel
theorem dL_law_795 : decode cL_law 795 = .ok (.i2l, 1) := by decide +kernel
theorem dL_law_796 : decode cL_law 796 = .ok (.lcmp, 1) := by decide +kernel
theorem dL_law_797 : decode cL_law 797 = .ok (.ifCond .eq 5, 3) := by decide +kernel
theorem dL_law_800 : decode cL_law 800 = .ok (.iconst 0, 1) := by decide +kernel
theorem dL_law_801 : decode cL_law 801 = .ok (.ireturn, 1) := by decide +kernel
theorem dL_law_802 : decode cL_law 802 = .ok (.goto 1035, 3) := by decide +kernel
set_option maxHeartbeats 2000000 in
theorem lq_L_blocked : fm_S "MicRowLaw" 88 yL_blocked 5 := ⟨Or.inl (fm_wd 1081 (by decide +kernel) (by decide +kernel)), fm_wd 1082 (by decide +kernel) (by decide +kernel), fm_wd 80 (by decide +kernel) (by decide +kernel), ⟨by decide, by decide, by decide +kernel⟩⟩
theorem ln_L_blocked : Cond.methodLink "MicRowLaw" 88 yL_blocked ∈ fm_TT := fm_wd 1081 (by decide +kernel) (by decide +kernel)
theorem lk_L_blocked : Cond.codeWith yL_blocked cL_blocked 6 (some .int) [(0, 12, 15, 13)] ∈ fm_TT := fm_wd 1083 (by decide +kernel) (by decide +kernel)
theorem lq_X10_blocked : fm_V "MicRowLaw" 90 yX10_blocked 3 := ⟨Or.inl (fm_wd 1370 (by decide +kernel) (by decide +kernel)), fm_wd 1371 (by decide +kernel) (by decide +kernel), fm_wd 1372 (by decide +kernel) (by decide +kernel), fm_wd 91 (by decide +kernel) (by decide +kernel), ⟨by decide, by decide, by decide +kernel⟩⟩
theorem ln_X10_blocked : Cond.methodLink "MicRowLaw" 90 yX10_blocked ∈ fm_TT := fm_wd 1370 (by decide +kernel) (by decide +kernel)
theorem lk_X10_blocked : Cond.code yX10_blocked cX10_blocked 5 (some .int) ∈ fm_TT := fm_wd 1373 (by decide +kernel) (by decide +kernel)
theorem lw_case_blocked (C : fm_LC G ad1 ad2 qo p s m meth c b L xs) (hfl : l.stackTraces = false) (hcs : cells + 1 ≤ room_1.cells ∧ slots + 6 ≤ room_1.slots) (E : fm_LW G ad1 ad2 qo M1 M2 f s H locs) (hl : lv_has ls 8 [(0, .ref b), (1, .ref (ad1 0)), (2, .ref (ad2 0)), (3, .ref qo), (4, .int i)]) (h1 : fm_in (i + 1) L = true) (h2 : fm_in (i + 2) L = true) (h3 : fm_in (i + 3) L = true) (h4 : fm_in (i + 4) L = true) (hn : n < 512) (hR : R n M1 M2) (hc : cp_blocked N R) (kk : fm_KK p l e s m below meth c cells slots Q qo b n G ad1 ad2 i R) : W p l e room_1 s m #[Value.ref b] below meth c H locs cells slots Q (F0 m 725 ls []) := by
  obtain ⟨hc1, hc2⟩ := hcs
  have hc0 : cells ≤ room_1.cells ∧ slots ≤ room_1.slots := ⟨by omega, by omega⟩
  rcases hc n M1 M2 (xs (i + 1).toNatClampNeg) (xs (i + 2).toNatClampNeg) (xs (i + 3).toNatClampNeg) hn hR with ⟨r, M1', M2', hf1, hf2, hf3, hR'⟩ | ⟨r, M1', M2', hf1, hf2, hf3, hR'⟩
  · refine lv_aload_n C.1.1 C.1.2.1 dL_law_725 rfl (lv_at hl 1 rfl) ?_
    refine lv_aload_n C.1.1 C.1.2.1 dL_law_726 rfl (lv_at hl 0 rfl) ?_
    refine lv_iload C.1.1 C.1.2.1 dL_law_727 (lv_at hl 4 rfl) ?_
    refine lv_iconst (v := 1) C.1.1 C.1.2.1 dL_law_729 (by decide) ?_
    refine lv_iadd C.1.1 C.1.2.1 dL_law_730 ?_
    refine fm_lsld C E h1 dL_law_731 ?_
    refine lv_aload_n C.1.1 C.1.2.1 dL_law_732 rfl (lv_at hl 0 rfl) ?_
    refine lv_iload C.1.1 C.1.2.1 dL_law_733 (lv_at hl 4 rfl) ?_
    refine lv_iconst (v := 2) C.1.1 C.1.2.1 dL_law_735 (by decide) ?_
    refine lv_iadd C.1.1 C.1.2.1 dL_law_736 ?_
    refine fm_lsld C E h2 dL_law_737 ?_
    refine lv_aload_n C.1.1 C.1.2.1 dL_law_738 rfl (lv_at hl 0 rfl) ?_
    refine lv_iload C.1.1 C.1.2.1 dL_law_739 (lv_at hl 4 rfl) ?_
    refine lv_iconst (v := 3) C.1.1 C.1.2.1 dL_law_741 (by decide) ?_
    refine lv_iadd C.1.1 C.1.2.1 dL_law_742 ?_
    refine fm_lsld C E h3 dL_law_743 ?_
    refine lv_aload_n C.1.1 C.1.2.1 dL_law_744 rfl (lv_at hl 3 rfl) ?_
    refine fm_lcallH C E [.ref _, .int _, .int _, .int _, .ref _] [] lq_L_blocked ln_L_blocked lk_L_blocked (ch_blocked l _ N _ _ _ _ _ _ _ _ hf1) rfl hl.1 (by simp) ⟨⟨rfl, rfl⟩, Nat.le_of_ble_eq_true rfl, Nat.le_of_ble_eq_true rfl⟩ ⟨hc1, hc2⟩ dL_law_745 rfl (fun H locs E => ?_)
    refine lv_istore (lv' := [(5, .int _), (0, .ref _), (1, .ref _), (2, .ref _), (3, .ref _), (4, .int _)]) C.1.1 C.1.2.1 dL_law_748 hl (by decide) rfl (fun ls hl => ?_)
    refine lv_aload_n C.1.1 C.1.2.1 dL_law_750 rfl (lv_at hl 3 rfl) ?_
    refine lv_aload_n C.1.1 C.1.2.1 dL_law_751 rfl (lv_at hl 1 rfl) ?_
    refine lv_iload C.1.1 C.1.2.1 dL_law_752 (lv_at hl 5 rfl) ?_
    refine lv_iconst (v := 1) C.1.1 C.1.2.1 dL_law_754 (by decide) ?_
    refine lv_iadd C.1.1 C.1.2.1 dL_law_755 ?_
    refine fm_lsld C E h1 dL_law_756 ?_
    refine lv_aload_n C.1.1 C.1.2.1 dL_law_757 rfl (lv_at hl 1 rfl) ?_
    refine lv_iload C.1.1 C.1.2.1 dL_law_758 (lv_at hl 5 rfl) ?_
    refine lv_iconst (v := 2) C.1.1 C.1.2.1 dL_law_760 (by decide) ?_
    refine lv_iadd C.1.1 C.1.2.1 dL_law_761 ?_
    refine fm_lsld C E h2 dL_law_762 ?_
    refine lv_aload_n C.1.1 C.1.2.1 dL_law_763 rfl (lv_at hl 1 rfl) ?_
    refine lv_iload C.1.1 C.1.2.1 dL_law_764 (lv_at hl 5 rfl) ?_
    refine lv_iconst (v := 3) C.1.1 C.1.2.1 dL_law_766 (by decide) ?_
    refine lv_iadd C.1.1 C.1.2.1 dL_law_767 ?_
    refine fm_lsld C E h3 dL_law_768 ?_
    refine fm_lcallM C E [.int _, .int _, .int _] [] lq_X10_blocked ln_X10_blocked lk_X10_blocked (c_Model_blocked l _ N _ _ _ _ _ _ hf2) rfl rfl hl.1 (by simp) ⟨⟨rfl, rfl⟩, Nat.le_of_ble_eq_true rfl, Nat.le_of_ble_eq_true rfl⟩ ⟨hc1, hc2⟩ dL_law_769 rfl (fun H locs E => ?_)
    refine W.eq (g2 := F0 m 772 ls [.int r]) rfl ?_
    refine lv_istore (lv' := [(6, .int _), (5, .int _), (0, .ref _), (1, .ref _), (2, .ref _), (3, .ref _), (4, .int _)]) C.1.1 C.1.2.1 dL_law_772 hl (by decide) rfl (fun ls hl => ?_)
    refine lv_aload_n C.1.1 C.1.2.1 dL_law_774 rfl (lv_at hl 4 rfl) ?_
    refine fm_lcallM C E [] [] lq_X10_thrown ln_X10_thrown lk_X10_thrown (c_Model_thrown l _ _ _ hf3) rfl rfl hl.1 (by simp) ⟨⟨rfl, rfl⟩, Nat.le_of_ble_eq_true rfl, Nat.le_of_ble_eq_true rfl⟩ ⟨hc1, hc2⟩ dL_law_775 rfl (fun H locs E => ?_)
    refine W.eq (g2 := F0 m 778 ls [.int 0]) rfl ?_
    refine lv_iload C.1.1 C.1.2.1 dL_law_778 (lv_at hl 1 rfl) ?_
    refine lv_icmp_eq (tgt := 785) C.1.1 C.1.2.1 dL_law_780 (by decide) (fun _ => ?_) (fun h => absurd rfl h)
    refine lv_iload C.1.1 C.1.2.1 dL_law_785 (lv_at hl 1 rfl) ?_
    refine lv_if_ne (tgt := 802) C.1.1 C.1.2.1 dL_law_787 (by decide) (fun h => absurd rfl h) (fun _ => ?_)
    refine lv_aload_n C.1.1 C.1.2.1 dL_law_790 rfl (lv_at hl 5 rfl) ?_
    refine lv_iconst (v := 0) C.1.1 C.1.2.1 dL_law_791 (by decide) ?_
    refine fm_lout C E dL_law_792 ?_
    refine lv_iload C.1.1 C.1.2.1 dL_law_793 (lv_at hl 0 rfl) ?_
    refine lv_i2l C.1.1 C.1.2.1 dL_law_795 rfl ?_
    refine W.lcmp C.1.1 C.1.2.1 dL_law_796 ?_
    refine lv_if_eq (tgt := 802) C.1.1 C.1.2.1 dL_law_797 (by decide) (fun _ => ?_) (fun h => absurd (fm_cmp0 fm_upd0) h)
    refine lv_goto (tgt := 1837) C.1.1 C.1.2.1 dL_law_802 (by decide) ?_
    exact kk M1' M2' _ H locs ls hR' E (lv_sub hl [2, 3, 4, 5, 6] rfl)
  · refine lv_aload_n C.1.1 C.1.2.1 dL_law_725 rfl (lv_at hl 1 rfl) ?_
    refine lv_aload_n C.1.1 C.1.2.1 dL_law_726 rfl (lv_at hl 0 rfl) ?_
    refine lv_iload C.1.1 C.1.2.1 dL_law_727 (lv_at hl 4 rfl) ?_
    refine lv_iconst (v := 1) C.1.1 C.1.2.1 dL_law_729 (by decide) ?_
    refine lv_iadd C.1.1 C.1.2.1 dL_law_730 ?_
    refine fm_lsld C E h1 dL_law_731 ?_
    refine lv_aload_n C.1.1 C.1.2.1 dL_law_732 rfl (lv_at hl 0 rfl) ?_
    refine lv_iload C.1.1 C.1.2.1 dL_law_733 (lv_at hl 4 rfl) ?_
    refine lv_iconst (v := 2) C.1.1 C.1.2.1 dL_law_735 (by decide) ?_
    refine lv_iadd C.1.1 C.1.2.1 dL_law_736 ?_
    refine fm_lsld C E h2 dL_law_737 ?_
    refine lv_aload_n C.1.1 C.1.2.1 dL_law_738 rfl (lv_at hl 0 rfl) ?_
    refine lv_iload C.1.1 C.1.2.1 dL_law_739 (lv_at hl 4 rfl) ?_
    refine lv_iconst (v := 3) C.1.1 C.1.2.1 dL_law_741 (by decide) ?_
    refine lv_iadd C.1.1 C.1.2.1 dL_law_742 ?_
    refine fm_lsld C E h3 dL_law_743 ?_
    refine lv_aload_n C.1.1 C.1.2.1 dL_law_744 rfl (lv_at hl 3 rfl) ?_
    refine fm_lcallH C E [.ref _, .int _, .int _, .int _, .ref _] [] lq_L_blocked ln_L_blocked lk_L_blocked (ct_blocked l hfl _ N _ _ _ _ _ _ _ hf1) rfl hl.1 (by simp) ⟨⟨rfl, rfl⟩, Nat.le_of_ble_eq_true rfl, Nat.le_of_ble_eq_true rfl⟩ ⟨hc1, hc2⟩ dL_law_745 rfl (fun H locs E => ?_)
    refine lv_istore (lv' := [(5, .int _), (0, .ref _), (1, .ref _), (2, .ref _), (3, .ref _), (4, .int _)]) C.1.1 C.1.2.1 dL_law_748 hl (by decide) rfl (fun ls hl => ?_)
    refine lv_aload_n C.1.1 C.1.2.1 dL_law_750 rfl (lv_at hl 3 rfl) ?_
    refine lv_aload_n C.1.1 C.1.2.1 dL_law_751 rfl (lv_at hl 1 rfl) ?_
    refine lv_iload C.1.1 C.1.2.1 dL_law_752 (lv_at hl 5 rfl) ?_
    refine lv_iconst (v := 1) C.1.1 C.1.2.1 dL_law_754 (by decide) ?_
    refine lv_iadd C.1.1 C.1.2.1 dL_law_755 ?_
    refine fm_lsld C E h1 dL_law_756 ?_
    refine lv_aload_n C.1.1 C.1.2.1 dL_law_757 rfl (lv_at hl 1 rfl) ?_
    refine lv_iload C.1.1 C.1.2.1 dL_law_758 (lv_at hl 5 rfl) ?_
    refine lv_iconst (v := 2) C.1.1 C.1.2.1 dL_law_760 (by decide) ?_
    refine lv_iadd C.1.1 C.1.2.1 dL_law_761 ?_
    refine fm_lsld C E h2 dL_law_762 ?_
    refine lv_aload_n C.1.1 C.1.2.1 dL_law_763 rfl (lv_at hl 1 rfl) ?_
    refine lv_iload C.1.1 C.1.2.1 dL_law_764 (lv_at hl 5 rfl) ?_
    refine lv_iconst (v := 3) C.1.1 C.1.2.1 dL_law_766 (by decide) ?_
    refine lv_iadd C.1.1 C.1.2.1 dL_law_767 ?_
    refine fm_lsld C E h3 dL_law_768 ?_
    refine fm_lcallM C E [.int _, .int _, .int _] [] lq_X10_blocked ln_X10_blocked lk_X10_blocked (c_Model_blocked l _ N _ _ _ _ _ _ hf2) rfl rfl hl.1 (by simp) ⟨⟨rfl, rfl⟩, Nat.le_of_ble_eq_true rfl, Nat.le_of_ble_eq_true rfl⟩ ⟨hc1, hc2⟩ dL_law_769 rfl (fun H locs E => ?_)
    refine W.eq (g2 := F0 m 772 ls [.int r]) rfl ?_
    refine lv_istore (lv' := [(6, .int _), (5, .int _), (0, .ref _), (1, .ref _), (2, .ref _), (3, .ref _), (4, .int _)]) C.1.1 C.1.2.1 dL_law_772 hl (by decide) rfl (fun ls hl => ?_)
    refine lv_aload_n C.1.1 C.1.2.1 dL_law_774 rfl (lv_at hl 4 rfl) ?_
    refine fm_lcallM C E [] [] lq_X10_thrown ln_X10_thrown lk_X10_thrown (c_Model_thrown l _ _ _ hf3) rfl rfl hl.1 (by simp) ⟨⟨rfl, rfl⟩, Nat.le_of_ble_eq_true rfl, Nat.le_of_ble_eq_true rfl⟩ ⟨hc1, hc2⟩ dL_law_775 rfl (fun H locs E => ?_)
    refine W.eq (g2 := F0 m 778 ls [.int 1]) rfl ?_
    refine lv_iload C.1.1 C.1.2.1 dL_law_778 (lv_at hl 1 rfl) ?_
    refine lv_icmp_eq (tgt := 785) C.1.1 C.1.2.1 dL_law_780 (by decide) (fun _ => ?_) (fun h => absurd rfl h)
    refine lv_iload C.1.1 C.1.2.1 dL_law_785 (lv_at hl 1 rfl) ?_
    refine lv_if_ne (tgt := 802) C.1.1 C.1.2.1 dL_law_787 (by decide) (fun _ => ?_) (fun h => absurd h (by decide))
    refine lv_goto (tgt := 1837) C.1.1 C.1.2.1 dL_law_802 (by decide) ?_
    exact kk M1' M2' _ H locs ls hR' E (lv_sub hl [2, 3, 4, 5, 6] rfl)
theorem dL_law_805 : decode cL_law 805 = .ok (.aload_n 1, 1) := by decide +kernel
theorem dL_law_806 : decode cL_law 806 = .ok (.aload_n 0, 1) := by decide +kernel
theorem dL_law_807 : decode cL_law 807 = .ok (.iload 4, 2) := by decide +kernel
theorem dL_law_809 : decode cL_law 809 = .ok (.iconst 1, 1) := by decide +kernel
theorem dL_law_810 : decode cL_law 810 = .ok (.iadd, 1) := by decide +kernel
theorem dL_law_811 : decode cL_law 811 = .ok (.iaload, 1) := by decide +kernel
theorem dL_law_812 : decode cL_law 812 = .ok (.aload_n 0, 1) := by decide +kernel
theorem dL_law_813 : decode cL_law 813 = .ok (.iload 4, 2) := by decide +kernel
theorem dL_law_815 : decode cL_law 815 = .ok (.iconst 2, 1) := by decide +kernel
theorem dL_law_816 : decode cL_law 816 = .ok (.iadd, 1) := by decide +kernel
theorem dL_law_817 : decode cL_law 817 = .ok (.iaload, 1) := by decide +kernel
theorem dL_law_818 : decode cL_law 818 = .ok (.aload_n 3, 1) := by decide +kernel
theorem dL_law_819 : decode cL_law 819 = .ok (.invokestatic 91, 3) := by decide +kernel
theorem dL_law_822 : decode cL_law 822 = .ok (.istore 5, 2) := by decide +kernel
theorem dL_law_824 : decode cL_law 824 = .ok (.aload_n 2, 1) := by decide +kernel
theorem dL_law_825 : decode cL_law 825 = .ok (.aload_n 0, 1) := by decide +kernel
theorem dL_law_826 : decode cL_law 826 = .ok (.iload 4, 2) := by decide +kernel
theorem dL_law_828 : decode cL_law 828 = .ok (.iconst 1, 1) := by decide +kernel
theorem dL_law_829 : decode cL_law 829 = .ok (.iadd, 1) := by decide +kernel
theorem dL_law_830 : decode cL_law 830 = .ok (.iaload, 1) := by decide +kernel
theorem dL_law_831 : decode cL_law 831 = .ok (.aload_n 0, 1) := by decide +kernel
theorem dL_law_832 : decode cL_law 832 = .ok (.iload 4, 2) := by decide +kernel
theorem dL_law_834 : decode cL_law 834 = .ok (.iconst 2, 1) := by decide +kernel
theorem dL_law_835 : decode cL_law 835 = .ok (.iadd, 1) := by decide +kernel
theorem dL_law_836 : decode cL_law 836 = .ok (.iaload, 1) := by decide +kernel
theorem dL_law_837 : decode cL_law 837 = .ok (.invokevirtual 93, 3) := by decide +kernel
theorem dL_law_840 : decode cL_law 840 = .ok (.istore 6, 2) := by decide +kernel
theorem dL_law_842 : decode cL_law 842 = .ok (.aload_n 2, 1) := by decide +kernel
theorem dL_law_843 : decode cL_law 843 = .ok (.invokevirtual 72, 3) := by decide +kernel
theorem dL_law_846 : decode cL_law 846 = .ok (.iload 5, 2) := by decide +kernel
theorem dL_law_848 : decode cL_law 848 = .ok (.if_icmp .eq 5, 3) := by decide +kernel
theorem dL_law_851 : decode cL_law 851 = .ok (.iconst 0, 1) := by decide +kernel
theorem dL_law_852 : decode cL_law 852 = .ok (.ireturn, 1) := by decide +kernel
theorem dL_law_853 : decode cL_law 853 = .ok (.iload 5, 2) := by decide +kernel
theorem dL_law_855 : decode cL_law 855 = .ok (.ifCond .ne 15, 3) := by decide +kernel
theorem dL_law_858 : decode cL_law 858 = .ok (.aload_n 3, 1) := by decide +kernel
theorem dL_law_859 : decode cL_law 859 = .ok (.iconst 0, 1) := by decide +kernel
theorem dL_law_860 : decode cL_law 860 = .ok (.laload, 1) := by decide +kernel
theorem dL_law_861 : decode cL_law 861 = .ok (.iload 6, 2) := by decide +kernel
theorem dL_law_863 : decode cL_law 863 = .ok (.i2l, 1) := by decide +kernel
theorem dL_law_864 : decode cL_law 864 = .ok (.lcmp, 1) := by decide +kernel
theorem dL_law_865 : decode cL_law 865 = .ok (.ifCond .eq 5, 3) := by decide +kernel
theorem dL_law_868 : decode cL_law 868 = .ok (.iconst 0, 1) := by decide +kernel
theorem dL_law_869 : decode cL_law 869 = .ok (.ireturn, 1) := by decide +kernel
theorem dL_law_870 : decode cL_law 870 = .ok (.goto 967, 3) := by decide +kernel
set_option maxHeartbeats 2000000 in
theorem lq_L_clean : fm_S "MicRowLaw" 91 yL_clean 4 := ⟨Or.inl (fm_wd 1088 (by decide +kernel) (by decide +kernel)), fm_wd 1089 (by decide +kernel) (by decide +kernel), fm_wd 80 (by decide +kernel) (by decide +kernel), ⟨by decide, by decide, by decide +kernel⟩⟩
theorem ln_L_clean : Cond.methodLink "MicRowLaw" 91 yL_clean ∈ fm_TT := fm_wd 1088 (by decide +kernel) (by decide +kernel)
theorem lk_L_clean : Cond.codeWith yL_clean cL_clean 5 (some .int) [(0, 10, 13, 13)] ∈ fm_TT := fm_wd 1090 (by decide +kernel) (by decide +kernel)
theorem lq_X10_clean : fm_V "MicRowLaw" 93 yX10_clean 2 := ⟨Or.inl (fm_wd 1381 (by decide +kernel) (by decide +kernel)), fm_wd 1382 (by decide +kernel) (by decide +kernel), fm_wd 1383 (by decide +kernel) (by decide +kernel), fm_wd 91 (by decide +kernel) (by decide +kernel), ⟨by decide, by decide, by decide +kernel⟩⟩
theorem ln_X10_clean : Cond.methodLink "MicRowLaw" 93 yX10_clean ∈ fm_TT := fm_wd 1381 (by decide +kernel) (by decide +kernel)
theorem lk_X10_clean : Cond.code yX10_clean cX10_clean 6 (some .int) ∈ fm_TT := fm_wd 1384 (by decide +kernel) (by decide +kernel)
theorem lw_case_clean (C : fm_LC G ad1 ad2 qo p s m meth c b L xs) (hfl : l.stackTraces = false) (hcs : cells + 1 ≤ room_1.cells ∧ slots + 6 ≤ room_1.slots) (E : fm_LW G ad1 ad2 qo M1 M2 f s H locs) (hl : lv_has ls 8 [(0, .ref b), (1, .ref (ad1 0)), (2, .ref (ad2 0)), (3, .ref qo), (4, .int i)]) (h1 : fm_in (i + 1) L = true) (h2 : fm_in (i + 2) L = true) (h3 : fm_in (i + 3) L = true) (h4 : fm_in (i + 4) L = true) (hn : n < 512) (hR : R n M1 M2) (hc : cp_clean N R) (kk : fm_KK p l e s m below meth c cells slots Q qo b n G ad1 ad2 i R) : W p l e room_1 s m #[Value.ref b] below meth c H locs cells slots Q (F0 m 805 ls []) := by
  obtain ⟨hc1, hc2⟩ := hcs
  have hc0 : cells ≤ room_1.cells ∧ slots ≤ room_1.slots := ⟨by omega, by omega⟩
  rcases hc n M1 M2 (xs (i + 1).toNatClampNeg) (xs (i + 2).toNatClampNeg) hn hR with ⟨r, M1', M2', hf1, hf2, hf3, hR'⟩ | ⟨r, M1', M2', hf1, hf2, hf3, hR'⟩
  · refine lv_aload_n C.1.1 C.1.2.1 dL_law_805 rfl (lv_at hl 1 rfl) ?_
    refine lv_aload_n C.1.1 C.1.2.1 dL_law_806 rfl (lv_at hl 0 rfl) ?_
    refine lv_iload C.1.1 C.1.2.1 dL_law_807 (lv_at hl 4 rfl) ?_
    refine lv_iconst (v := 1) C.1.1 C.1.2.1 dL_law_809 (by decide) ?_
    refine lv_iadd C.1.1 C.1.2.1 dL_law_810 ?_
    refine fm_lsld C E h1 dL_law_811 ?_
    refine lv_aload_n C.1.1 C.1.2.1 dL_law_812 rfl (lv_at hl 0 rfl) ?_
    refine lv_iload C.1.1 C.1.2.1 dL_law_813 (lv_at hl 4 rfl) ?_
    refine lv_iconst (v := 2) C.1.1 C.1.2.1 dL_law_815 (by decide) ?_
    refine lv_iadd C.1.1 C.1.2.1 dL_law_816 ?_
    refine fm_lsld C E h2 dL_law_817 ?_
    refine lv_aload_n C.1.1 C.1.2.1 dL_law_818 rfl (lv_at hl 3 rfl) ?_
    refine fm_lcallH C E [.ref _, .int _, .int _, .ref _] [] lq_L_clean ln_L_clean lk_L_clean (ch_clean l _ N _ _ _ _ _ _ _ hf1) rfl hl.1 (by simp) ⟨⟨rfl, rfl⟩, Nat.le_of_ble_eq_true rfl, Nat.le_of_ble_eq_true rfl⟩ ⟨hc1, hc2⟩ dL_law_819 rfl (fun H locs E => ?_)
    refine lv_istore (lv' := [(5, .int _), (0, .ref _), (1, .ref _), (2, .ref _), (3, .ref _), (4, .int _)]) C.1.1 C.1.2.1 dL_law_822 hl (by decide) rfl (fun ls hl => ?_)
    refine lv_aload_n C.1.1 C.1.2.1 dL_law_824 rfl (lv_at hl 3 rfl) ?_
    refine lv_aload_n C.1.1 C.1.2.1 dL_law_825 rfl (lv_at hl 1 rfl) ?_
    refine lv_iload C.1.1 C.1.2.1 dL_law_826 (lv_at hl 5 rfl) ?_
    refine lv_iconst (v := 1) C.1.1 C.1.2.1 dL_law_828 (by decide) ?_
    refine lv_iadd C.1.1 C.1.2.1 dL_law_829 ?_
    refine fm_lsld C E h1 dL_law_830 ?_
    refine lv_aload_n C.1.1 C.1.2.1 dL_law_831 rfl (lv_at hl 1 rfl) ?_
    refine lv_iload C.1.1 C.1.2.1 dL_law_832 (lv_at hl 5 rfl) ?_
    refine lv_iconst (v := 2) C.1.1 C.1.2.1 dL_law_834 (by decide) ?_
    refine lv_iadd C.1.1 C.1.2.1 dL_law_835 ?_
    refine fm_lsld C E h2 dL_law_836 ?_
    refine fm_lcallM C E [.int _, .int _] [] lq_X10_clean ln_X10_clean lk_X10_clean (c_Model_clean l _ N _ _ _ _ _ hf2) rfl rfl hl.1 (by simp) ⟨⟨rfl, rfl⟩, Nat.le_of_ble_eq_true rfl, Nat.le_of_ble_eq_true rfl⟩ ⟨hc1, hc2⟩ dL_law_837 rfl (fun H locs E => ?_)
    refine W.eq (g2 := F0 m 840 ls [.int r]) rfl ?_
    refine lv_istore (lv' := [(6, .int _), (5, .int _), (0, .ref _), (1, .ref _), (2, .ref _), (3, .ref _), (4, .int _)]) C.1.1 C.1.2.1 dL_law_840 hl (by decide) rfl (fun ls hl => ?_)
    refine lv_aload_n C.1.1 C.1.2.1 dL_law_842 rfl (lv_at hl 4 rfl) ?_
    refine fm_lcallM C E [] [] lq_X10_thrown ln_X10_thrown lk_X10_thrown (c_Model_thrown l _ _ _ hf3) rfl rfl hl.1 (by simp) ⟨⟨rfl, rfl⟩, Nat.le_of_ble_eq_true rfl, Nat.le_of_ble_eq_true rfl⟩ ⟨hc1, hc2⟩ dL_law_843 rfl (fun H locs E => ?_)
    refine W.eq (g2 := F0 m 846 ls [.int 0]) rfl ?_
    refine lv_iload C.1.1 C.1.2.1 dL_law_846 (lv_at hl 1 rfl) ?_
    refine lv_icmp_eq (tgt := 853) C.1.1 C.1.2.1 dL_law_848 (by decide) (fun _ => ?_) (fun h => absurd rfl h)
    refine lv_iload C.1.1 C.1.2.1 dL_law_853 (lv_at hl 1 rfl) ?_
    refine lv_if_ne (tgt := 870) C.1.1 C.1.2.1 dL_law_855 (by decide) (fun h => absurd rfl h) (fun _ => ?_)
    refine lv_aload_n C.1.1 C.1.2.1 dL_law_858 rfl (lv_at hl 5 rfl) ?_
    refine lv_iconst (v := 0) C.1.1 C.1.2.1 dL_law_859 (by decide) ?_
    refine fm_lout C E dL_law_860 ?_
    refine lv_iload C.1.1 C.1.2.1 dL_law_861 (lv_at hl 0 rfl) ?_
    refine lv_i2l C.1.1 C.1.2.1 dL_law_863 rfl ?_
    refine W.lcmp C.1.1 C.1.2.1 dL_law_864 ?_
    refine lv_if_eq (tgt := 870) C.1.1 C.1.2.1 dL_law_865 (by decide) (fun _ => ?_) (fun h => absurd (fm_cmp0 fm_upd0) h)
    refine lv_goto (tgt := 1837) C.1.1 C.1.2.1 dL_law_870 (by decide) ?_
    exact kk M1' M2' _ H locs ls hR' E (lv_sub hl [2, 3, 4, 5, 6] rfl)
  · refine lv_aload_n C.1.1 C.1.2.1 dL_law_805 rfl (lv_at hl 1 rfl) ?_
    refine lv_aload_n C.1.1 C.1.2.1 dL_law_806 rfl (lv_at hl 0 rfl) ?_
    refine lv_iload C.1.1 C.1.2.1 dL_law_807 (lv_at hl 4 rfl) ?_
    refine lv_iconst (v := 1) C.1.1 C.1.2.1 dL_law_809 (by decide) ?_
    refine lv_iadd C.1.1 C.1.2.1 dL_law_810 ?_
    refine fm_lsld C E h1 dL_law_811 ?_
    refine lv_aload_n C.1.1 C.1.2.1 dL_law_812 rfl (lv_at hl 0 rfl) ?_
    refine lv_iload C.1.1 C.1.2.1 dL_law_813 (lv_at hl 4 rfl) ?_
    refine lv_iconst (v := 2) C.1.1 C.1.2.1 dL_law_815 (by decide) ?_
    refine lv_iadd C.1.1 C.1.2.1 dL_law_816 ?_
    refine fm_lsld C E h2 dL_law_817 ?_
    refine lv_aload_n C.1.1 C.1.2.1 dL_law_818 rfl (lv_at hl 3 rfl) ?_
    refine fm_lcallH C E [.ref _, .int _, .int _, .ref _] [] lq_L_clean ln_L_clean lk_L_clean (ct_clean l hfl _ N _ _ _ _ _ _ hf1) rfl hl.1 (by simp) ⟨⟨rfl, rfl⟩, Nat.le_of_ble_eq_true rfl, Nat.le_of_ble_eq_true rfl⟩ ⟨hc1, hc2⟩ dL_law_819 rfl (fun H locs E => ?_)
    refine lv_istore (lv' := [(5, .int _), (0, .ref _), (1, .ref _), (2, .ref _), (3, .ref _), (4, .int _)]) C.1.1 C.1.2.1 dL_law_822 hl (by decide) rfl (fun ls hl => ?_)
    refine lv_aload_n C.1.1 C.1.2.1 dL_law_824 rfl (lv_at hl 3 rfl) ?_
    refine lv_aload_n C.1.1 C.1.2.1 dL_law_825 rfl (lv_at hl 1 rfl) ?_
    refine lv_iload C.1.1 C.1.2.1 dL_law_826 (lv_at hl 5 rfl) ?_
    refine lv_iconst (v := 1) C.1.1 C.1.2.1 dL_law_828 (by decide) ?_
    refine lv_iadd C.1.1 C.1.2.1 dL_law_829 ?_
    refine fm_lsld C E h1 dL_law_830 ?_
    refine lv_aload_n C.1.1 C.1.2.1 dL_law_831 rfl (lv_at hl 1 rfl) ?_
    refine lv_iload C.1.1 C.1.2.1 dL_law_832 (lv_at hl 5 rfl) ?_
    refine lv_iconst (v := 2) C.1.1 C.1.2.1 dL_law_834 (by decide) ?_
    refine lv_iadd C.1.1 C.1.2.1 dL_law_835 ?_
    refine fm_lsld C E h2 dL_law_836 ?_
    refine fm_lcallM C E [.int _, .int _] [] lq_X10_clean ln_X10_clean lk_X10_clean (c_Model_clean l _ N _ _ _ _ _ hf2) rfl rfl hl.1 (by simp) ⟨⟨rfl, rfl⟩, Nat.le_of_ble_eq_true rfl, Nat.le_of_ble_eq_true rfl⟩ ⟨hc1, hc2⟩ dL_law_837 rfl (fun H locs E => ?_)
    refine W.eq (g2 := F0 m 840 ls [.int r]) rfl ?_
    refine lv_istore (lv' := [(6, .int _), (5, .int _), (0, .ref _), (1, .ref _), (2, .ref _), (3, .ref _), (4, .int _)]) C.1.1 C.1.2.1 dL_law_840 hl (by decide) rfl (fun ls hl => ?_)
    refine lv_aload_n C.1.1 C.1.2.1 dL_law_842 rfl (lv_at hl 4 rfl) ?_
    refine fm_lcallM C E [] [] lq_X10_thrown ln_X10_thrown lk_X10_thrown (c_Model_thrown l _ _ _ hf3) rfl rfl hl.1 (by simp) ⟨⟨rfl, rfl⟩, Nat.le_of_ble_eq_true rfl, Nat.le_of_ble_eq_true rfl⟩ ⟨hc1, hc2⟩ dL_law_843 rfl (fun H locs E => ?_)
    refine W.eq (g2 := F0 m 846 ls [.int 1]) rfl ?_
    refine lv_iload C.1.1 C.1.2.1 dL_law_846 (lv_at hl 1 rfl) ?_
    refine lv_icmp_eq (tgt := 853) C.1.1 C.1.2.1 dL_law_848 (by decide) (fun _ => ?_) (fun h => absurd rfl h)
    refine lv_iload C.1.1 C.1.2.1 dL_law_853 (lv_at hl 1 rfl) ?_
    refine lv_if_ne (tgt := 870) C.1.1 C.1.2.1 dL_law_855 (by decide) (fun _ => ?_) (fun h => absurd h (by decide))
    refine lv_goto (tgt := 1837) C.1.1 C.1.2.1 dL_law_870 (by decide) ?_
    exact kk M1' M2' _ H locs ls hR' E (lv_sub hl [2, 3, 4, 5, 6] rfl)
end LWC
