section LWC
variable {p : Program} {l : Launch} {e : Env} {s : State} {m : MethodId} {below : List Frame} {meth : Method} {c : Code} {H : Heap} {locs : List Loc} {cells slots : Nat} {Q : State → Prop}
variable {qo b L N n : Nat} {xs : Nat → Int32} {ls : Array Slot} {G : fm_G} {M1 M2 : fm_M} {f : Nat → Int64} {ad1 ad2 : Nat → Nat} {i : Int32} {R : Nat → fm_M → fm_M → Prop}
theorem dL_law_1161 : decode cL_law 1161 = .ok (.aload_n 1, 1) := by decide +kernel
theorem dL_law_1162 : decode cL_law 1162 = .ok (.aload_n 0, 1) := by decide +kernel
theorem dL_law_1163 : decode cL_law 1163 = .ok (.iload 4, 2) := by decide +kernel
theorem dL_law_1165 : decode cL_law 1165 = .ok (.iconst 1, 1) := by decide +kernel
theorem dL_law_1166 : decode cL_law 1166 = .ok (.iadd, 1) := by decide +kernel
theorem dL_law_1167 : decode cL_law 1167 = .ok (.iaload, 1) := by decide +kernel
theorem dL_law_1168 : decode cL_law 1168 = .ok (.aload_n 0, 1) := by decide +kernel
theorem dL_law_1169 : decode cL_law 1169 = .ok (.iload 4, 2) := by decide +kernel
theorem dL_law_1171 : decode cL_law 1171 = .ok (.iconst 2, 1) := by decide +kernel
theorem dL_law_1172 : decode cL_law 1172 = .ok (.iadd, 1) := by decide +kernel
theorem dL_law_1173 : decode cL_law 1173 = .ok (.iaload, 1) := by decide +kernel
theorem dL_law_1174 : decode cL_law 1174 = .ok (.invokevirtual 142, 3) := by decide +kernel
theorem dL_law_1177 : decode cL_law 1177 = .ok (.aload_n 2, 1) := by decide +kernel
theorem dL_law_1178 : decode cL_law 1178 = .ok (.aload_n 0, 1) := by decide +kernel
theorem dL_law_1179 : decode cL_law 1179 = .ok (.iload 4, 2) := by decide +kernel
theorem dL_law_1181 : decode cL_law 1181 = .ok (.iconst 1, 1) := by decide +kernel
theorem dL_law_1182 : decode cL_law 1182 = .ok (.iadd, 1) := by decide +kernel
theorem dL_law_1183 : decode cL_law 1183 = .ok (.iaload, 1) := by decide +kernel
theorem dL_law_1184 : decode cL_law 1184 = .ok (.aload_n 0, 1) := by decide +kernel
theorem dL_law_1185 : decode cL_law 1185 = .ok (.iload 4, 2) := by decide +kernel
theorem dL_law_1187 : decode cL_law 1187 = .ok (.iconst 2, 1) := by decide +kernel
theorem dL_law_1188 : decode cL_law 1188 = .ok (.iadd, 1) := by decide +kernel
theorem dL_law_1189 : decode cL_law 1189 = .ok (.iaload, 1) := by decide +kernel
theorem dL_law_1190 : decode cL_law 1190 = .ok (.invokevirtual 145, 3) := by decide +kernel
theorem dL_law_1193 : decode cL_law 1193 = .ok (.if_icmp .eq 644, 3) := by decide +kernel
theorem dL_law_1196 : decode cL_law 1196 = .ok (.iconst 0, 1) := by decide +kernel
theorem dL_law_1197 : decode cL_law 1197 = .ok (.ireturn, 1) := by decide +kernel
set_option maxHeartbeats 2000000 in
theorem lq_X9_without : fm_V "MicRowLaw" 142 yX9_without 2 := ⟨Or.inl (fm_wd 727 (by decide +kernel) (by decide +kernel)), fm_wd 728 (by decide +kernel) (by decide +kernel), fm_wd 729 (by decide +kernel) (by decide +kernel), fm_wd 81 (by decide +kernel) (by decide +kernel), ⟨by decide, by decide, by decide +kernel⟩⟩
theorem ln_X9_without : Cond.methodLink "MicRowLaw" 142 yX9_without ∈ fm_TT := fm_wd 727 (by decide +kernel) (by decide +kernel)
theorem lk_X9_without : Cond.code yX9_without cX9_without 5 (some .int) ∈ fm_TT := fm_wd 730 (by decide +kernel) (by decide +kernel)
theorem lq_X10_without : fm_V "MicRowLaw" 145 yX10_without 2 := ⟨Or.inl (fm_wd 1509 (by decide +kernel) (by decide +kernel)), fm_wd 1510 (by decide +kernel) (by decide +kernel), fm_wd 1511 (by decide +kernel) (by decide +kernel), fm_wd 91 (by decide +kernel) (by decide +kernel), ⟨by decide, by decide, by decide +kernel⟩⟩
theorem ln_X10_without : Cond.methodLink "MicRowLaw" 145 yX10_without ∈ fm_TT := fm_wd 1509 (by decide +kernel) (by decide +kernel)
theorem lk_X10_without : Cond.code yX10_without cX10_without 4 (some .int) ∈ fm_TT := fm_wd 1512 (by decide +kernel) (by decide +kernel)
theorem lw_case_without (C : fm_LC G ad1 ad2 qo p s m meth c b L xs) (hfl : l.stackTraces = false) (hcs : cells + 1 ≤ room_1.cells ∧ slots + 6 ≤ room_1.slots) (E : fm_LW G ad1 ad2 qo M1 M2 f s H locs) (hl : lv_has ls 8 [(0, .ref b), (1, .ref (ad1 0)), (2, .ref (ad2 0)), (3, .ref qo), (4, .int i)]) (h1 : fm_in (i + 1) L = true) (h2 : fm_in (i + 2) L = true) (h3 : fm_in (i + 3) L = true) (h4 : fm_in (i + 4) L = true) (hn : n < 512) (hR : R n M1 M2) (hc : cp_without N R) (kk : fm_KK p l e s m below meth c cells slots Q qo b n G ad1 ad2 i R) : W p l e room_1 s m #[Value.ref b] below meth c H locs cells slots Q (F0 m 1161 ls []) := by
  obtain ⟨hc1, hc2⟩ := hcs
  have hc0 : cells ≤ room_1.cells ∧ slots ≤ room_1.slots := ⟨by omega, by omega⟩
  obtain ⟨r, M1', M2', hf1, hf2, hR'⟩ := hc n M1 M2 (xs (i + 1).toNatClampNeg) (xs (i + 2).toNatClampNeg) hn hR
  refine lv_aload_n C.1.1 C.1.2.1 dL_law_1161 rfl (lv_at hl 1 rfl) ?_
  refine lv_aload_n C.1.1 C.1.2.1 dL_law_1162 rfl (lv_at hl 0 rfl) ?_
  refine lv_iload C.1.1 C.1.2.1 dL_law_1163 (lv_at hl 4 rfl) ?_
  refine lv_iconst (v := 1) C.1.1 C.1.2.1 dL_law_1165 (by decide) ?_
  refine lv_iadd C.1.1 C.1.2.1 dL_law_1166 ?_
  refine fm_lsld C E h1 dL_law_1167 ?_
  refine lv_aload_n C.1.1 C.1.2.1 dL_law_1168 rfl (lv_at hl 0 rfl) ?_
  refine lv_iload C.1.1 C.1.2.1 dL_law_1169 (lv_at hl 4 rfl) ?_
  refine lv_iconst (v := 2) C.1.1 C.1.2.1 dL_law_1171 (by decide) ?_
  refine lv_iadd C.1.1 C.1.2.1 dL_law_1172 ?_
  refine fm_lsld C E h2 dL_law_1173 ?_
  refine fm_lcallC C E [.int _, .int _] [] lq_X9_without ln_X9_without lk_X9_without (c_MicRow_without l _ N _ _ _ _ _ hf1) rfl rfl hl.1 (by simp) ⟨⟨rfl, rfl⟩, Nat.le_of_ble_eq_true rfl, Nat.le_of_ble_eq_true rfl⟩ hc0 dL_law_1174 rfl (fun H locs E => ?_)
  refine W.eq (g2 := F0 m 1177 ls [.int r]) rfl ?_
  refine lv_aload_n C.1.1 C.1.2.1 dL_law_1177 rfl (lv_at hl 2 rfl) ?_
  refine lv_aload_n C.1.1 C.1.2.1 dL_law_1178 rfl (lv_at hl 0 rfl) ?_
  refine lv_iload C.1.1 C.1.2.1 dL_law_1179 (lv_at hl 4 rfl) ?_
  refine lv_iconst (v := 1) C.1.1 C.1.2.1 dL_law_1181 (by decide) ?_
  refine lv_iadd C.1.1 C.1.2.1 dL_law_1182 ?_
  refine fm_lsld C E h1 dL_law_1183 ?_
  refine lv_aload_n C.1.1 C.1.2.1 dL_law_1184 rfl (lv_at hl 0 rfl) ?_
  refine lv_iload C.1.1 C.1.2.1 dL_law_1185 (lv_at hl 4 rfl) ?_
  refine lv_iconst (v := 2) C.1.1 C.1.2.1 dL_law_1187 (by decide) ?_
  refine lv_iadd C.1.1 C.1.2.1 dL_law_1188 ?_
  refine fm_lsld C E h2 dL_law_1189 ?_
  refine fm_lcallM C E [.int _, .int _] [.int r] lq_X10_without ln_X10_without lk_X10_without (c_Model_without l _ N _ _ _ _ _ hf2) rfl rfl hl.1 (by simp [Value.category]) ⟨⟨rfl, rfl⟩, Nat.le_of_ble_eq_true rfl, Nat.le_of_ble_eq_true rfl⟩ hc0 dL_law_1190 rfl (fun H locs E => ?_)
  refine W.eq (g2 := F0 m 1193 ls [.int r, .int r]) rfl ?_
  refine lv_icmp_eq (tgt := 1837) C.1.1 C.1.2.1 dL_law_1193 (by decide) (fun _ => ?_) (fun h => absurd rfl h)
  exact W.widen (Nat.le_succ _) (Nat.le_add_right _ 6) (kk M1' M2' f H locs ls hR' E hl)
theorem dL_law_1198 : decode cL_law 1198 = .ok (.aload_n 1, 1) := by decide +kernel
theorem dL_law_1199 : decode cL_law 1199 = .ok (.aload_n 0, 1) := by decide +kernel
theorem dL_law_1200 : decode cL_law 1200 = .ok (.iload 4, 2) := by decide +kernel
theorem dL_law_1202 : decode cL_law 1202 = .ok (.iconst 1, 1) := by decide +kernel
theorem dL_law_1203 : decode cL_law 1203 = .ok (.iadd, 1) := by decide +kernel
theorem dL_law_1204 : decode cL_law 1204 = .ok (.iaload, 1) := by decide +kernel
theorem dL_law_1205 : decode cL_law 1205 = .ok (.invokevirtual 146, 3) := by decide +kernel
theorem dL_law_1208 : decode cL_law 1208 = .ok (.aload_n 2, 1) := by decide +kernel
theorem dL_law_1209 : decode cL_law 1209 = .ok (.aload_n 0, 1) := by decide +kernel
theorem dL_law_1210 : decode cL_law 1210 = .ok (.iload 4, 2) := by decide +kernel
theorem dL_law_1212 : decode cL_law 1212 = .ok (.iconst 1, 1) := by decide +kernel
theorem dL_law_1213 : decode cL_law 1213 = .ok (.iadd, 1) := by decide +kernel
theorem dL_law_1214 : decode cL_law 1214 = .ok (.iaload, 1) := by decide +kernel
theorem dL_law_1215 : decode cL_law 1215 = .ok (.invokevirtual 149, 3) := by decide +kernel
theorem dL_law_1218 : decode cL_law 1218 = .ok (.if_icmp .eq 619, 3) := by decide +kernel
theorem dL_law_1221 : decode cL_law 1221 = .ok (.iconst 0, 1) := by decide +kernel
theorem dL_law_1222 : decode cL_law 1222 = .ok (.ireturn, 1) := by decide +kernel
set_option maxHeartbeats 2000000 in
theorem lq_X9_worst : fm_V "MicRowLaw" 146 yX9_worst 1 := ⟨Or.inl (fm_wd 732 (by decide +kernel) (by decide +kernel)), fm_wd 733 (by decide +kernel) (by decide +kernel), fm_wd 734 (by decide +kernel) (by decide +kernel), fm_wd 81 (by decide +kernel) (by decide +kernel), ⟨by decide, by decide, by decide +kernel⟩⟩
theorem ln_X9_worst : Cond.methodLink "MicRowLaw" 146 yX9_worst ∈ fm_TT := fm_wd 732 (by decide +kernel) (by decide +kernel)
theorem lk_X9_worst : Cond.code yX9_worst cX9_worst 8 (some .int) ∈ fm_TT := fm_wd 735 (by decide +kernel) (by decide +kernel)
theorem lq_X10_worst : fm_V "MicRowLaw" 149 yX10_worst 1 := ⟨Or.inl (fm_wd 1513 (by decide +kernel) (by decide +kernel)), fm_wd 1514 (by decide +kernel) (by decide +kernel), fm_wd 1515 (by decide +kernel) (by decide +kernel), fm_wd 91 (by decide +kernel) (by decide +kernel), ⟨by decide, by decide, by decide +kernel⟩⟩
theorem ln_X10_worst : Cond.methodLink "MicRowLaw" 149 yX10_worst ∈ fm_TT := fm_wd 1513 (by decide +kernel) (by decide +kernel)
theorem lk_X10_worst : Cond.code yX10_worst cX10_worst 9 (some .int) ∈ fm_TT := fm_wd 1516 (by decide +kernel) (by decide +kernel)
theorem lw_case_worst (C : fm_LC G ad1 ad2 qo p s m meth c b L xs) (hfl : l.stackTraces = false) (hcs : cells + 1 ≤ room_1.cells ∧ slots + 6 ≤ room_1.slots) (E : fm_LW G ad1 ad2 qo M1 M2 f s H locs) (hl : lv_has ls 8 [(0, .ref b), (1, .ref (ad1 0)), (2, .ref (ad2 0)), (3, .ref qo), (4, .int i)]) (h1 : fm_in (i + 1) L = true) (h2 : fm_in (i + 2) L = true) (h3 : fm_in (i + 3) L = true) (h4 : fm_in (i + 4) L = true) (hn : n < 512) (hR : R n M1 M2) (hc : cp_worst N R) (kk : fm_KK p l e s m below meth c cells slots Q qo b n G ad1 ad2 i R) : W p l e room_1 s m #[Value.ref b] below meth c H locs cells slots Q (F0 m 1198 ls []) := by
  obtain ⟨hc1, hc2⟩ := hcs
  have hc0 : cells ≤ room_1.cells ∧ slots ≤ room_1.slots := ⟨by omega, by omega⟩
  obtain ⟨r, M1', M2', hf1, hf2, hR'⟩ := hc n M1 M2 (xs (i + 1).toNatClampNeg) hn hR
  refine lv_aload_n C.1.1 C.1.2.1 dL_law_1198 rfl (lv_at hl 1 rfl) ?_
  refine lv_aload_n C.1.1 C.1.2.1 dL_law_1199 rfl (lv_at hl 0 rfl) ?_
  refine lv_iload C.1.1 C.1.2.1 dL_law_1200 (lv_at hl 4 rfl) ?_
  refine lv_iconst (v := 1) C.1.1 C.1.2.1 dL_law_1202 (by decide) ?_
  refine lv_iadd C.1.1 C.1.2.1 dL_law_1203 ?_
  refine fm_lsld C E h1 dL_law_1204 ?_
  refine fm_lcallC C E [.int _] [] lq_X9_worst ln_X9_worst lk_X9_worst (c_MicRow_worst l _ N _ _ _ _ hf1) rfl rfl hl.1 (by simp) ⟨⟨rfl, rfl⟩, Nat.le_of_ble_eq_true rfl, Nat.le_of_ble_eq_true rfl⟩ hc0 dL_law_1205 rfl (fun H locs E => ?_)
  refine W.eq (g2 := F0 m 1208 ls [.int r]) rfl ?_
  refine lv_aload_n C.1.1 C.1.2.1 dL_law_1208 rfl (lv_at hl 2 rfl) ?_
  refine lv_aload_n C.1.1 C.1.2.1 dL_law_1209 rfl (lv_at hl 0 rfl) ?_
  refine lv_iload C.1.1 C.1.2.1 dL_law_1210 (lv_at hl 4 rfl) ?_
  refine lv_iconst (v := 1) C.1.1 C.1.2.1 dL_law_1212 (by decide) ?_
  refine lv_iadd C.1.1 C.1.2.1 dL_law_1213 ?_
  refine fm_lsld C E h1 dL_law_1214 ?_
  refine fm_lcallM C E [.int _] [.int r] lq_X10_worst ln_X10_worst lk_X10_worst (c_Model_worst l _ N _ _ _ _ hf2) rfl rfl hl.1 (by simp [Value.category]) ⟨⟨rfl, rfl⟩, Nat.le_of_ble_eq_true rfl, Nat.le_of_ble_eq_true rfl⟩ hc0 dL_law_1215 rfl (fun H locs E => ?_)
  refine W.eq (g2 := F0 m 1218 ls [.int r, .int r]) rfl ?_
  refine lv_icmp_eq (tgt := 1837) C.1.1 C.1.2.1 dL_law_1218 (by decide) (fun _ => ?_) (fun h => absurd rfl h)
  exact W.widen (Nat.le_succ _) (Nat.le_add_right _ 6) (kk M1' M2' f H locs ls hR' E hl)
theorem dL_law_1223 : decode cL_law 1223 = .ok (.aload_n 1, 1) := by decide +kernel
theorem dL_law_1224 : decode cL_law 1224 = .ok (.aload_n 0, 1) := by decide +kernel
theorem dL_law_1225 : decode cL_law 1225 = .ok (.iload 4, 2) := by decide +kernel
theorem dL_law_1227 : decode cL_law 1227 = .ok (.iconst 1, 1) := by decide +kernel
theorem dL_law_1228 : decode cL_law 1228 = .ok (.iadd, 1) := by decide +kernel
theorem dL_law_1229 : decode cL_law 1229 = .ok (.iaload, 1) := by decide +kernel
theorem dL_law_1230 : decode cL_law 1230 = .ok (.aload_n 0, 1) := by decide +kernel
theorem dL_law_1231 : decode cL_law 1231 = .ok (.iload 4, 2) := by decide +kernel
theorem dL_law_1233 : decode cL_law 1233 = .ok (.iconst 2, 1) := by decide +kernel
theorem dL_law_1234 : decode cL_law 1234 = .ok (.iadd, 1) := by decide +kernel
theorem dL_law_1235 : decode cL_law 1235 = .ok (.iaload, 1) := by decide +kernel
theorem dL_law_1236 : decode cL_law 1236 = .ok (.invokevirtual 150, 3) := by decide +kernel
theorem dL_law_1239 : decode cL_law 1239 = .ok (.aload_n 2, 1) := by decide +kernel
theorem dL_law_1240 : decode cL_law 1240 = .ok (.aload_n 0, 1) := by decide +kernel
theorem dL_law_1241 : decode cL_law 1241 = .ok (.iload 4, 2) := by decide +kernel
theorem dL_law_1243 : decode cL_law 1243 = .ok (.iconst 1, 1) := by decide +kernel
theorem dL_law_1244 : decode cL_law 1244 = .ok (.iadd, 1) := by decide +kernel
theorem dL_law_1245 : decode cL_law 1245 = .ok (.iaload, 1) := by decide +kernel
theorem dL_law_1246 : decode cL_law 1246 = .ok (.aload_n 0, 1) := by decide +kernel
theorem dL_law_1247 : decode cL_law 1247 = .ok (.iload 4, 2) := by decide +kernel
theorem dL_law_1249 : decode cL_law 1249 = .ok (.iconst 2, 1) := by decide +kernel
theorem dL_law_1250 : decode cL_law 1250 = .ok (.iadd, 1) := by decide +kernel
theorem dL_law_1251 : decode cL_law 1251 = .ok (.iaload, 1) := by decide +kernel
theorem dL_law_1252 : decode cL_law 1252 = .ok (.invokevirtual 153, 3) := by decide +kernel
theorem dL_law_1255 : decode cL_law 1255 = .ok (.if_icmp .eq 582, 3) := by decide +kernel
theorem dL_law_1258 : decode cL_law 1258 = .ok (.iconst 0, 1) := by decide +kernel
theorem dL_law_1259 : decode cL_law 1259 = .ok (.ireturn, 1) := by decide +kernel
set_option maxHeartbeats 2000000 in
theorem lq_X9_best : fm_V "MicRowLaw" 150 yX9_best 2 := ⟨Or.inl (fm_wd 736 (by decide +kernel) (by decide +kernel)), fm_wd 737 (by decide +kernel) (by decide +kernel), fm_wd 738 (by decide +kernel) (by decide +kernel), fm_wd 81 (by decide +kernel) (by decide +kernel), ⟨by decide, by decide, by decide +kernel⟩⟩
theorem ln_X9_best : Cond.methodLink "MicRowLaw" 150 yX9_best ∈ fm_TT := fm_wd 736 (by decide +kernel) (by decide +kernel)
theorem lk_X9_best : Cond.code yX9_best cX9_best 9 (some .int) ∈ fm_TT := fm_wd 739 (by decide +kernel) (by decide +kernel)
theorem lq_X10_best : fm_V "MicRowLaw" 153 yX10_best 2 := ⟨Or.inl (fm_wd 1517 (by decide +kernel) (by decide +kernel)), fm_wd 1518 (by decide +kernel) (by decide +kernel), fm_wd 1519 (by decide +kernel) (by decide +kernel), fm_wd 91 (by decide +kernel) (by decide +kernel), ⟨by decide, by decide, by decide +kernel⟩⟩
theorem ln_X10_best : Cond.methodLink "MicRowLaw" 153 yX10_best ∈ fm_TT := fm_wd 1517 (by decide +kernel) (by decide +kernel)
theorem lk_X10_best : Cond.code yX10_best cX10_best 9 (some .int) ∈ fm_TT := fm_wd 1520 (by decide +kernel) (by decide +kernel)
theorem lw_case_best (C : fm_LC G ad1 ad2 qo p s m meth c b L xs) (hfl : l.stackTraces = false) (hcs : cells + 1 ≤ room_1.cells ∧ slots + 6 ≤ room_1.slots) (E : fm_LW G ad1 ad2 qo M1 M2 f s H locs) (hl : lv_has ls 8 [(0, .ref b), (1, .ref (ad1 0)), (2, .ref (ad2 0)), (3, .ref qo), (4, .int i)]) (h1 : fm_in (i + 1) L = true) (h2 : fm_in (i + 2) L = true) (h3 : fm_in (i + 3) L = true) (h4 : fm_in (i + 4) L = true) (hn : n < 512) (hR : R n M1 M2) (hc : cp_best N R) (kk : fm_KK p l e s m below meth c cells slots Q qo b n G ad1 ad2 i R) : W p l e room_1 s m #[Value.ref b] below meth c H locs cells slots Q (F0 m 1223 ls []) := by
  obtain ⟨hc1, hc2⟩ := hcs
  have hc0 : cells ≤ room_1.cells ∧ slots ≤ room_1.slots := ⟨by omega, by omega⟩
  obtain ⟨r, M1', M2', hf1, hf2, hR'⟩ := hc n M1 M2 (xs (i + 1).toNatClampNeg) (xs (i + 2).toNatClampNeg) hn hR
  refine lv_aload_n C.1.1 C.1.2.1 dL_law_1223 rfl (lv_at hl 1 rfl) ?_
  refine lv_aload_n C.1.1 C.1.2.1 dL_law_1224 rfl (lv_at hl 0 rfl) ?_
  refine lv_iload C.1.1 C.1.2.1 dL_law_1225 (lv_at hl 4 rfl) ?_
  refine lv_iconst (v := 1) C.1.1 C.1.2.1 dL_law_1227 (by decide) ?_
  refine lv_iadd C.1.1 C.1.2.1 dL_law_1228 ?_
  refine fm_lsld C E h1 dL_law_1229 ?_
  refine lv_aload_n C.1.1 C.1.2.1 dL_law_1230 rfl (lv_at hl 0 rfl) ?_
  refine lv_iload C.1.1 C.1.2.1 dL_law_1231 (lv_at hl 4 rfl) ?_
  refine lv_iconst (v := 2) C.1.1 C.1.2.1 dL_law_1233 (by decide) ?_
  refine lv_iadd C.1.1 C.1.2.1 dL_law_1234 ?_
  refine fm_lsld C E h2 dL_law_1235 ?_
  refine fm_lcallC C E [.int _, .int _] [] lq_X9_best ln_X9_best lk_X9_best (c_MicRow_best l _ N _ _ _ _ _ hf1) rfl rfl hl.1 (by simp) ⟨⟨rfl, rfl⟩, Nat.le_of_ble_eq_true rfl, Nat.le_of_ble_eq_true rfl⟩ hc0 dL_law_1236 rfl (fun H locs E => ?_)
  refine W.eq (g2 := F0 m 1239 ls [.int r]) rfl ?_
  refine lv_aload_n C.1.1 C.1.2.1 dL_law_1239 rfl (lv_at hl 2 rfl) ?_
  refine lv_aload_n C.1.1 C.1.2.1 dL_law_1240 rfl (lv_at hl 0 rfl) ?_
  refine lv_iload C.1.1 C.1.2.1 dL_law_1241 (lv_at hl 4 rfl) ?_
  refine lv_iconst (v := 1) C.1.1 C.1.2.1 dL_law_1243 (by decide) ?_
  refine lv_iadd C.1.1 C.1.2.1 dL_law_1244 ?_
  refine fm_lsld C E h1 dL_law_1245 ?_
  refine lv_aload_n C.1.1 C.1.2.1 dL_law_1246 rfl (lv_at hl 0 rfl) ?_
  refine lv_iload C.1.1 C.1.2.1 dL_law_1247 (lv_at hl 4 rfl) ?_
  refine lv_iconst (v := 2) C.1.1 C.1.2.1 dL_law_1249 (by decide) ?_
  refine lv_iadd C.1.1 C.1.2.1 dL_law_1250 ?_
  refine fm_lsld C E h2 dL_law_1251 ?_
  refine fm_lcallM C E [.int _, .int _] [.int r] lq_X10_best ln_X10_best lk_X10_best (c_Model_best l _ N _ _ _ _ _ hf2) rfl rfl hl.1 (by simp [Value.category]) ⟨⟨rfl, rfl⟩, Nat.le_of_ble_eq_true rfl, Nat.le_of_ble_eq_true rfl⟩ hc0 dL_law_1252 rfl (fun H locs E => ?_)
  refine W.eq (g2 := F0 m 1255 ls [.int r, .int r]) rfl ?_
  refine lv_icmp_eq (tgt := 1837) C.1.1 C.1.2.1 dL_law_1255 (by decide) (fun _ => ?_) (fun h => absurd rfl h)
  exact W.widen (Nat.le_succ _) (Nat.le_add_right _ 6) (kk M1' M2' f H locs ls hR' E hl)
theorem dL_law_1260 : decode cL_law 1260 = .ok (.aload_n 1, 1) := by decide +kernel
theorem dL_law_1261 : decode cL_law 1261 = .ok (.aload_n 0, 1) := by decide +kernel
theorem dL_law_1262 : decode cL_law 1262 = .ok (.iload 4, 2) := by decide +kernel
theorem dL_law_1264 : decode cL_law 1264 = .ok (.iconst 1, 1) := by decide +kernel
theorem dL_law_1265 : decode cL_law 1265 = .ok (.iadd, 1) := by decide +kernel
theorem dL_law_1266 : decode cL_law 1266 = .ok (.iaload, 1) := by decide +kernel
theorem dL_law_1267 : decode cL_law 1267 = .ok (.invokevirtual 154, 3) := by decide +kernel
theorem dL_law_1270 : decode cL_law 1270 = .ok (.aload_n 2, 1) := by decide +kernel
theorem dL_law_1271 : decode cL_law 1271 = .ok (.aload_n 0, 1) := by decide +kernel
theorem dL_law_1272 : decode cL_law 1272 = .ok (.iload 4, 2) := by decide +kernel
theorem dL_law_1274 : decode cL_law 1274 = .ok (.iconst 1, 1) := by decide +kernel
theorem dL_law_1275 : decode cL_law 1275 = .ok (.iadd, 1) := by decide +kernel
theorem dL_law_1276 : decode cL_law 1276 = .ok (.iaload, 1) := by decide +kernel
theorem dL_law_1277 : decode cL_law 1277 = .ok (.invokevirtual 157, 3) := by decide +kernel
theorem dL_law_1280 : decode cL_law 1280 = .ok (.if_icmp .eq 557, 3) := by decide +kernel
theorem dL_law_1283 : decode cL_law 1283 = .ok (.iconst 0, 1) := by decide +kernel
theorem dL_law_1284 : decode cL_law 1284 = .ok (.ireturn, 1) := by decide +kernel
set_option maxHeartbeats 2000000 in
theorem lq_X9_masks : fm_V "MicRowLaw" 154 yX9_masks 1 := ⟨Or.inl (fm_wd 741 (by decide +kernel) (by decide +kernel)), fm_wd 742 (by decide +kernel) (by decide +kernel), fm_wd 743 (by decide +kernel) (by decide +kernel), fm_wd 81 (by decide +kernel) (by decide +kernel), ⟨by decide, by decide, by decide +kernel⟩⟩
theorem ln_X9_masks : Cond.methodLink "MicRowLaw" 154 yX9_masks ∈ fm_TT := fm_wd 741 (by decide +kernel) (by decide +kernel)
theorem lk_X9_masks : Cond.code yX9_masks cX9_masks 8 (some .int) ∈ fm_TT := fm_wd 744 (by decide +kernel) (by decide +kernel)
theorem lq_X10_masks : fm_V "MicRowLaw" 157 yX10_masks 1 := ⟨Or.inl (fm_wd 1521 (by decide +kernel) (by decide +kernel)), fm_wd 1522 (by decide +kernel) (by decide +kernel), fm_wd 1523 (by decide +kernel) (by decide +kernel), fm_wd 91 (by decide +kernel) (by decide +kernel), ⟨by decide, by decide, by decide +kernel⟩⟩
theorem ln_X10_masks : Cond.methodLink "MicRowLaw" 157 yX10_masks ∈ fm_TT := fm_wd 1521 (by decide +kernel) (by decide +kernel)
theorem lk_X10_masks : Cond.code yX10_masks cX10_masks 8 (some .int) ∈ fm_TT := fm_wd 1524 (by decide +kernel) (by decide +kernel)
theorem lw_case_masks (C : fm_LC G ad1 ad2 qo p s m meth c b L xs) (hfl : l.stackTraces = false) (hcs : cells + 1 ≤ room_1.cells ∧ slots + 6 ≤ room_1.slots) (E : fm_LW G ad1 ad2 qo M1 M2 f s H locs) (hl : lv_has ls 8 [(0, .ref b), (1, .ref (ad1 0)), (2, .ref (ad2 0)), (3, .ref qo), (4, .int i)]) (h1 : fm_in (i + 1) L = true) (h2 : fm_in (i + 2) L = true) (h3 : fm_in (i + 3) L = true) (h4 : fm_in (i + 4) L = true) (hn : n < 512) (hR : R n M1 M2) (hc : cp_masks N R) (kk : fm_KK p l e s m below meth c cells slots Q qo b n G ad1 ad2 i R) : W p l e room_1 s m #[Value.ref b] below meth c H locs cells slots Q (F0 m 1260 ls []) := by
  obtain ⟨hc1, hc2⟩ := hcs
  have hc0 : cells ≤ room_1.cells ∧ slots ≤ room_1.slots := ⟨by omega, by omega⟩
  obtain ⟨r, M1', M2', hf1, hf2, hR'⟩ := hc n M1 M2 (xs (i + 1).toNatClampNeg) hn hR
  refine lv_aload_n C.1.1 C.1.2.1 dL_law_1260 rfl (lv_at hl 1 rfl) ?_
  refine lv_aload_n C.1.1 C.1.2.1 dL_law_1261 rfl (lv_at hl 0 rfl) ?_
  refine lv_iload C.1.1 C.1.2.1 dL_law_1262 (lv_at hl 4 rfl) ?_
  refine lv_iconst (v := 1) C.1.1 C.1.2.1 dL_law_1264 (by decide) ?_
  refine lv_iadd C.1.1 C.1.2.1 dL_law_1265 ?_
  refine fm_lsld C E h1 dL_law_1266 ?_
  refine fm_lcallC C E [.int _] [] lq_X9_masks ln_X9_masks lk_X9_masks (c_MicRow_masks l _ N _ _ _ _ hf1) rfl rfl hl.1 (by simp) ⟨⟨rfl, rfl⟩, Nat.le_of_ble_eq_true rfl, Nat.le_of_ble_eq_true rfl⟩ hc0 dL_law_1267 rfl (fun H locs E => ?_)
  refine W.eq (g2 := F0 m 1270 ls [.int r]) rfl ?_
  refine lv_aload_n C.1.1 C.1.2.1 dL_law_1270 rfl (lv_at hl 2 rfl) ?_
  refine lv_aload_n C.1.1 C.1.2.1 dL_law_1271 rfl (lv_at hl 0 rfl) ?_
  refine lv_iload C.1.1 C.1.2.1 dL_law_1272 (lv_at hl 4 rfl) ?_
  refine lv_iconst (v := 1) C.1.1 C.1.2.1 dL_law_1274 (by decide) ?_
  refine lv_iadd C.1.1 C.1.2.1 dL_law_1275 ?_
  refine fm_lsld C E h1 dL_law_1276 ?_
  refine fm_lcallM C E [.int _] [.int r] lq_X10_masks ln_X10_masks lk_X10_masks (c_Model_masks l _ N _ _ _ _ hf2) rfl rfl hl.1 (by simp [Value.category]) ⟨⟨rfl, rfl⟩, Nat.le_of_ble_eq_true rfl, Nat.le_of_ble_eq_true rfl⟩ hc0 dL_law_1277 rfl (fun H locs E => ?_)
  refine W.eq (g2 := F0 m 1280 ls [.int r, .int r]) rfl ?_
  refine lv_icmp_eq (tgt := 1837) C.1.1 C.1.2.1 dL_law_1280 (by decide) (fun _ => ?_) (fun h => absurd rfl h)
  exact W.widen (Nat.le_succ _) (Nat.le_add_right _ 6) (kk M1' M2' f H locs ls hR' E hl)
theorem dL_law_1285 : decode cL_law 1285 = .ok (.aload_n 1, 1) := by decide +kernel
theorem dL_law_1286 : decode cL_law 1286 = .ok (.aload_n 0, 1) := by decide +kernel
theorem dL_law_1287 : decode cL_law 1287 = .ok (.iload 4, 2) := by decide +kernel
theorem dL_law_1289 : decode cL_law 1289 = .ok (.iconst 1, 1) := by decide +kernel
theorem dL_law_1290 : decode cL_law 1290 = .ok (.iadd, 1) := by decide +kernel
theorem dL_law_1291 : decode cL_law 1291 = .ok (.iaload, 1) := by decide +kernel
theorem dL_law_1292 : decode cL_law 1292 = .ok (.aload_n 0, 1) := by decide +kernel
theorem dL_law_1293 : decode cL_law 1293 = .ok (.iload 4, 2) := by decide +kernel
theorem dL_law_1295 : decode cL_law 1295 = .ok (.iconst 2, 1) := by decide +kernel
theorem dL_law_1296 : decode cL_law 1296 = .ok (.iadd, 1) := by decide +kernel
theorem dL_law_1297 : decode cL_law 1297 = .ok (.iaload, 1) := by decide +kernel
theorem dL_law_1298 : decode cL_law 1298 = .ok (.invokevirtual 158, 3) := by decide +kernel
theorem dL_law_1301 : decode cL_law 1301 = .ok (.aload_n 2, 1) := by decide +kernel
theorem dL_law_1302 : decode cL_law 1302 = .ok (.aload_n 0, 1) := by decide +kernel
theorem dL_law_1303 : decode cL_law 1303 = .ok (.iload 4, 2) := by decide +kernel
theorem dL_law_1305 : decode cL_law 1305 = .ok (.iconst 1, 1) := by decide +kernel
theorem dL_law_1306 : decode cL_law 1306 = .ok (.iadd, 1) := by decide +kernel
theorem dL_law_1307 : decode cL_law 1307 = .ok (.iaload, 1) := by decide +kernel
theorem dL_law_1308 : decode cL_law 1308 = .ok (.aload_n 0, 1) := by decide +kernel
theorem dL_law_1309 : decode cL_law 1309 = .ok (.iload 4, 2) := by decide +kernel
theorem dL_law_1311 : decode cL_law 1311 = .ok (.iconst 2, 1) := by decide +kernel
theorem dL_law_1312 : decode cL_law 1312 = .ok (.iadd, 1) := by decide +kernel
theorem dL_law_1313 : decode cL_law 1313 = .ok (.iaload, 1) := by decide +kernel
theorem dL_law_1314 : decode cL_law 1314 = .ok (.invokevirtual 161, 3) := by decide +kernel
theorem dL_law_1317 : decode cL_law 1317 = .ok (.if_icmp .eq 520, 3) := by decide +kernel
theorem dL_law_1320 : decode cL_law 1320 = .ok (.iconst 0, 1) := by decide +kernel
theorem dL_law_1321 : decode cL_law 1321 = .ok (.ireturn, 1) := by decide +kernel
set_option maxHeartbeats 2000000 in
theorem lq_X9_nulled : fm_V "MicRowLaw" 158 yX9_nulled 2 := ⟨Or.inl (fm_wd 745 (by decide +kernel) (by decide +kernel)), fm_wd 746 (by decide +kernel) (by decide +kernel), fm_wd 747 (by decide +kernel) (by decide +kernel), fm_wd 81 (by decide +kernel) (by decide +kernel), ⟨by decide, by decide, by decide +kernel⟩⟩
theorem ln_X9_nulled : Cond.methodLink "MicRowLaw" 158 yX9_nulled ∈ fm_TT := fm_wd 745 (by decide +kernel) (by decide +kernel)
theorem lk_X9_nulled : Cond.code yX9_nulled cX9_nulled 4 (some .int) ∈ fm_TT := fm_wd 748 (by decide +kernel) (by decide +kernel)
theorem lq_X10_nulled : fm_V "MicRowLaw" 161 yX10_nulled 2 := ⟨Or.inl (fm_wd 1525 (by decide +kernel) (by decide +kernel)), fm_wd 1526 (by decide +kernel) (by decide +kernel), fm_wd 1527 (by decide +kernel) (by decide +kernel), fm_wd 91 (by decide +kernel) (by decide +kernel), ⟨by decide, by decide, by decide +kernel⟩⟩
theorem ln_X10_nulled : Cond.methodLink "MicRowLaw" 161 yX10_nulled ∈ fm_TT := fm_wd 1525 (by decide +kernel) (by decide +kernel)
theorem lk_X10_nulled : Cond.code yX10_nulled cX10_nulled 7 (some .int) ∈ fm_TT := fm_wd 1528 (by decide +kernel) (by decide +kernel)
theorem lw_case_nulled (C : fm_LC G ad1 ad2 qo p s m meth c b L xs) (hfl : l.stackTraces = false) (hcs : cells + 1 ≤ room_1.cells ∧ slots + 6 ≤ room_1.slots) (E : fm_LW G ad1 ad2 qo M1 M2 f s H locs) (hl : lv_has ls 8 [(0, .ref b), (1, .ref (ad1 0)), (2, .ref (ad2 0)), (3, .ref qo), (4, .int i)]) (h1 : fm_in (i + 1) L = true) (h2 : fm_in (i + 2) L = true) (h3 : fm_in (i + 3) L = true) (h4 : fm_in (i + 4) L = true) (hn : n < 512) (hR : R n M1 M2) (hc : cp_nulled N R) (kk : fm_KK p l e s m below meth c cells slots Q qo b n G ad1 ad2 i R) : W p l e room_1 s m #[Value.ref b] below meth c H locs cells slots Q (F0 m 1285 ls []) := by
  obtain ⟨hc1, hc2⟩ := hcs
  have hc0 : cells ≤ room_1.cells ∧ slots ≤ room_1.slots := ⟨by omega, by omega⟩
  obtain ⟨r, M1', M2', hf1, hf2, hR'⟩ := hc n M1 M2 (xs (i + 1).toNatClampNeg) (xs (i + 2).toNatClampNeg) hn hR
  refine lv_aload_n C.1.1 C.1.2.1 dL_law_1285 rfl (lv_at hl 1 rfl) ?_
  refine lv_aload_n C.1.1 C.1.2.1 dL_law_1286 rfl (lv_at hl 0 rfl) ?_
  refine lv_iload C.1.1 C.1.2.1 dL_law_1287 (lv_at hl 4 rfl) ?_
  refine lv_iconst (v := 1) C.1.1 C.1.2.1 dL_law_1289 (by decide) ?_
  refine lv_iadd C.1.1 C.1.2.1 dL_law_1290 ?_
  refine fm_lsld C E h1 dL_law_1291 ?_
  refine lv_aload_n C.1.1 C.1.2.1 dL_law_1292 rfl (lv_at hl 0 rfl) ?_
  refine lv_iload C.1.1 C.1.2.1 dL_law_1293 (lv_at hl 4 rfl) ?_
  refine lv_iconst (v := 2) C.1.1 C.1.2.1 dL_law_1295 (by decide) ?_
  refine lv_iadd C.1.1 C.1.2.1 dL_law_1296 ?_
  refine fm_lsld C E h2 dL_law_1297 ?_
  refine fm_lcallC C E [.int _, .int _] [] lq_X9_nulled ln_X9_nulled lk_X9_nulled (c_MicRow_nulled l _ N _ _ _ _ _ hf1) rfl rfl hl.1 (by simp) ⟨⟨rfl, rfl⟩, Nat.le_of_ble_eq_true rfl, Nat.le_of_ble_eq_true rfl⟩ hc0 dL_law_1298 rfl (fun H locs E => ?_)
  refine W.eq (g2 := F0 m 1301 ls [.int r]) rfl ?_
  refine lv_aload_n C.1.1 C.1.2.1 dL_law_1301 rfl (lv_at hl 2 rfl) ?_
  refine lv_aload_n C.1.1 C.1.2.1 dL_law_1302 rfl (lv_at hl 0 rfl) ?_
  refine lv_iload C.1.1 C.1.2.1 dL_law_1303 (lv_at hl 4 rfl) ?_
  refine lv_iconst (v := 1) C.1.1 C.1.2.1 dL_law_1305 (by decide) ?_
  refine lv_iadd C.1.1 C.1.2.1 dL_law_1306 ?_
  refine fm_lsld C E h1 dL_law_1307 ?_
  refine lv_aload_n C.1.1 C.1.2.1 dL_law_1308 rfl (lv_at hl 0 rfl) ?_
  refine lv_iload C.1.1 C.1.2.1 dL_law_1309 (lv_at hl 4 rfl) ?_
  refine lv_iconst (v := 2) C.1.1 C.1.2.1 dL_law_1311 (by decide) ?_
  refine lv_iadd C.1.1 C.1.2.1 dL_law_1312 ?_
  refine fm_lsld C E h2 dL_law_1313 ?_
  refine fm_lcallM C E [.int _, .int _] [.int r] lq_X10_nulled ln_X10_nulled lk_X10_nulled (c_Model_nulled l _ N _ _ _ _ _ hf2) rfl rfl hl.1 (by simp [Value.category]) ⟨⟨rfl, rfl⟩, Nat.le_of_ble_eq_true rfl, Nat.le_of_ble_eq_true rfl⟩ hc0 dL_law_1314 rfl (fun H locs E => ?_)
  refine W.eq (g2 := F0 m 1317 ls [.int r, .int r]) rfl ?_
  refine lv_icmp_eq (tgt := 1837) C.1.1 C.1.2.1 dL_law_1317 (by decide) (fun _ => ?_) (fun h => absurd rfl h)
  exact W.widen (Nat.le_succ _) (Nat.le_add_right _ 6) (kk M1' M2' f H locs ls hR' E hl)
theorem dL_law_1322 : decode cL_law 1322 = .ok (.aload_n 1, 1) := by decide +kernel
theorem dL_law_1323 : decode cL_law 1323 = .ok (.aload_n 0, 1) := by decide +kernel
theorem dL_law_1324 : decode cL_law 1324 = .ok (.iload 4, 2) := by decide +kernel
theorem dL_law_1326 : decode cL_law 1326 = .ok (.iconst 1, 1) := by decide +kernel
theorem dL_law_1327 : decode cL_law 1327 = .ok (.iadd, 1) := by decide +kernel
theorem dL_law_1328 : decode cL_law 1328 = .ok (.iaload, 1) := by decide +kernel
theorem dL_law_1329 : decode cL_law 1329 = .ok (.aload_n 0, 1) := by decide +kernel
theorem dL_law_1330 : decode cL_law 1330 = .ok (.iload 4, 2) := by decide +kernel
theorem dL_law_1332 : decode cL_law 1332 = .ok (.iconst 2, 1) := by decide +kernel
theorem dL_law_1333 : decode cL_law 1333 = .ok (.iadd, 1) := by decide +kernel
theorem dL_law_1334 : decode cL_law 1334 = .ok (.iaload, 1) := by decide +kernel
theorem dL_law_1335 : decode cL_law 1335 = .ok (.invokevirtual 162, 3) := by decide +kernel
theorem dL_law_1338 : decode cL_law 1338 = .ok (.aload_n 2, 1) := by decide +kernel
theorem dL_law_1339 : decode cL_law 1339 = .ok (.aload_n 0, 1) := by decide +kernel
theorem dL_law_1340 : decode cL_law 1340 = .ok (.iload 4, 2) := by decide +kernel
theorem dL_law_1342 : decode cL_law 1342 = .ok (.iconst 1, 1) := by decide +kernel
theorem dL_law_1343 : decode cL_law 1343 = .ok (.iadd, 1) := by decide +kernel
theorem dL_law_1344 : decode cL_law 1344 = .ok (.iaload, 1) := by decide +kernel
theorem dL_law_1345 : decode cL_law 1345 = .ok (.aload_n 0, 1) := by decide +kernel
theorem dL_law_1346 : decode cL_law 1346 = .ok (.iload 4, 2) := by decide +kernel
theorem dL_law_1348 : decode cL_law 1348 = .ok (.iconst 2, 1) := by decide +kernel
theorem dL_law_1349 : decode cL_law 1349 = .ok (.iadd, 1) := by decide +kernel
theorem dL_law_1350 : decode cL_law 1350 = .ok (.iaload, 1) := by decide +kernel
theorem dL_law_1351 : decode cL_law 1351 = .ok (.invokevirtual 165, 3) := by decide +kernel
theorem dL_law_1354 : decode cL_law 1354 = .ok (.if_icmp .eq 483, 3) := by decide +kernel
theorem dL_law_1357 : decode cL_law 1357 = .ok (.iconst 0, 1) := by decide +kernel
theorem dL_law_1358 : decode cL_law 1358 = .ok (.ireturn, 1) := by decide +kernel
set_option maxHeartbeats 2000000 in
theorem lq_X9_behind : fm_V "MicRowLaw" 162 yX9_behind 2 := ⟨Or.inl (fm_wd 753 (by decide +kernel) (by decide +kernel)), fm_wd 754 (by decide +kernel) (by decide +kernel), fm_wd 755 (by decide +kernel) (by decide +kernel), fm_wd 81 (by decide +kernel) (by decide +kernel), ⟨by decide, by decide, by decide +kernel⟩⟩
theorem ln_X9_behind : Cond.methodLink "MicRowLaw" 162 yX9_behind ∈ fm_TT := fm_wd 753 (by decide +kernel) (by decide +kernel)
theorem lk_X9_behind : Cond.code yX9_behind cX9_behind 8 (some .int) ∈ fm_TT := fm_wd 756 (by decide +kernel) (by decide +kernel)
theorem lq_X10_behind : fm_V "MicRowLaw" 165 yX10_behind 2 := ⟨Or.inl (fm_wd 1529 (by decide +kernel) (by decide +kernel)), fm_wd 1530 (by decide +kernel) (by decide +kernel), fm_wd 1531 (by decide +kernel) (by decide +kernel), fm_wd 91 (by decide +kernel) (by decide +kernel), ⟨by decide, by decide, by decide +kernel⟩⟩
theorem ln_X10_behind : Cond.methodLink "MicRowLaw" 165 yX10_behind ∈ fm_TT := fm_wd 1529 (by decide +kernel) (by decide +kernel)
theorem lk_X10_behind : Cond.code yX10_behind cX10_behind 8 (some .int) ∈ fm_TT := fm_wd 1532 (by decide +kernel) (by decide +kernel)
theorem lw_case_behind (C : fm_LC G ad1 ad2 qo p s m meth c b L xs) (hfl : l.stackTraces = false) (hcs : cells + 1 ≤ room_1.cells ∧ slots + 6 ≤ room_1.slots) (E : fm_LW G ad1 ad2 qo M1 M2 f s H locs) (hl : lv_has ls 8 [(0, .ref b), (1, .ref (ad1 0)), (2, .ref (ad2 0)), (3, .ref qo), (4, .int i)]) (h1 : fm_in (i + 1) L = true) (h2 : fm_in (i + 2) L = true) (h3 : fm_in (i + 3) L = true) (h4 : fm_in (i + 4) L = true) (hn : n < 512) (hR : R n M1 M2) (hc : cp_behind N R) (kk : fm_KK p l e s m below meth c cells slots Q qo b n G ad1 ad2 i R) : W p l e room_1 s m #[Value.ref b] below meth c H locs cells slots Q (F0 m 1322 ls []) := by
  obtain ⟨hc1, hc2⟩ := hcs
  have hc0 : cells ≤ room_1.cells ∧ slots ≤ room_1.slots := ⟨by omega, by omega⟩
  obtain ⟨r, M1', M2', hf1, hf2, hR'⟩ := hc n M1 M2 (xs (i + 1).toNatClampNeg) (xs (i + 2).toNatClampNeg) hn hR
  refine lv_aload_n C.1.1 C.1.2.1 dL_law_1322 rfl (lv_at hl 1 rfl) ?_
  refine lv_aload_n C.1.1 C.1.2.1 dL_law_1323 rfl (lv_at hl 0 rfl) ?_
  refine lv_iload C.1.1 C.1.2.1 dL_law_1324 (lv_at hl 4 rfl) ?_
  refine lv_iconst (v := 1) C.1.1 C.1.2.1 dL_law_1326 (by decide) ?_
  refine lv_iadd C.1.1 C.1.2.1 dL_law_1327 ?_
  refine fm_lsld C E h1 dL_law_1328 ?_
  refine lv_aload_n C.1.1 C.1.2.1 dL_law_1329 rfl (lv_at hl 0 rfl) ?_
  refine lv_iload C.1.1 C.1.2.1 dL_law_1330 (lv_at hl 4 rfl) ?_
  refine lv_iconst (v := 2) C.1.1 C.1.2.1 dL_law_1332 (by decide) ?_
  refine lv_iadd C.1.1 C.1.2.1 dL_law_1333 ?_
  refine fm_lsld C E h2 dL_law_1334 ?_
  refine fm_lcallC C E [.int _, .int _] [] lq_X9_behind ln_X9_behind lk_X9_behind (c_MicRow_behind l _ N _ _ _ _ _ hf1) rfl rfl hl.1 (by simp) ⟨⟨rfl, rfl⟩, Nat.le_of_ble_eq_true rfl, Nat.le_of_ble_eq_true rfl⟩ hc0 dL_law_1335 rfl (fun H locs E => ?_)
  refine W.eq (g2 := F0 m 1338 ls [.int r]) rfl ?_
  refine lv_aload_n C.1.1 C.1.2.1 dL_law_1338 rfl (lv_at hl 2 rfl) ?_
  refine lv_aload_n C.1.1 C.1.2.1 dL_law_1339 rfl (lv_at hl 0 rfl) ?_
  refine lv_iload C.1.1 C.1.2.1 dL_law_1340 (lv_at hl 4 rfl) ?_
  refine lv_iconst (v := 1) C.1.1 C.1.2.1 dL_law_1342 (by decide) ?_
  refine lv_iadd C.1.1 C.1.2.1 dL_law_1343 ?_
  refine fm_lsld C E h1 dL_law_1344 ?_
  refine lv_aload_n C.1.1 C.1.2.1 dL_law_1345 rfl (lv_at hl 0 rfl) ?_
  refine lv_iload C.1.1 C.1.2.1 dL_law_1346 (lv_at hl 4 rfl) ?_
  refine lv_iconst (v := 2) C.1.1 C.1.2.1 dL_law_1348 (by decide) ?_
  refine lv_iadd C.1.1 C.1.2.1 dL_law_1349 ?_
  refine fm_lsld C E h2 dL_law_1350 ?_
  refine fm_lcallM C E [.int _, .int _] [.int r] lq_X10_behind ln_X10_behind lk_X10_behind (c_Model_behind l _ N _ _ _ _ _ hf2) rfl rfl hl.1 (by simp [Value.category]) ⟨⟨rfl, rfl⟩, Nat.le_of_ble_eq_true rfl, Nat.le_of_ble_eq_true rfl⟩ hc0 dL_law_1351 rfl (fun H locs E => ?_)
  refine W.eq (g2 := F0 m 1354 ls [.int r, .int r]) rfl ?_
  refine lv_icmp_eq (tgt := 1837) C.1.1 C.1.2.1 dL_law_1354 (by decide) (fun _ => ?_) (fun h => absurd rfl h)
  exact W.widen (Nat.le_succ _) (Nat.le_add_right _ 6) (kk M1' M2' f H locs ls hR' E hl)
theorem dL_law_1359 : decode cL_law 1359 = .ok (.aload_n 1, 1) := by decide +kernel
theorem dL_law_1360 : decode cL_law 1360 = .ok (.aload_n 0, 1) := by decide +kernel
theorem dL_law_1361 : decode cL_law 1361 = .ok (.iload 4, 2) := by decide +kernel
theorem dL_law_1363 : decode cL_law 1363 = .ok (.iconst 1, 1) := by decide +kernel
theorem dL_law_1364 : decode cL_law 1364 = .ok (.iadd, 1) := by decide +kernel
theorem dL_law_1365 : decode cL_law 1365 = .ok (.iaload, 1) := by decide +kernel
theorem dL_law_1366 : decode cL_law 1366 = .ok (.invokevirtual 166, 3) := by decide +kernel
theorem dL_law_1369 : decode cL_law 1369 = .ok (.aload_n 2, 1) := by decide +kernel
theorem dL_law_1370 : decode cL_law 1370 = .ok (.aload_n 0, 1) := by decide +kernel
theorem dL_law_1371 : decode cL_law 1371 = .ok (.iload 4, 2) := by decide +kernel
theorem dL_law_1373 : decode cL_law 1373 = .ok (.iconst 1, 1) := by decide +kernel
theorem dL_law_1374 : decode cL_law 1374 = .ok (.iadd, 1) := by decide +kernel
theorem dL_law_1375 : decode cL_law 1375 = .ok (.iaload, 1) := by decide +kernel
theorem dL_law_1376 : decode cL_law 1376 = .ok (.invokevirtual 169, 3) := by decide +kernel
theorem dL_law_1379 : decode cL_law 1379 = .ok (.if_icmp .eq 458, 3) := by decide +kernel
theorem dL_law_1382 : decode cL_law 1382 = .ok (.iconst 0, 1) := by decide +kernel
theorem dL_law_1383 : decode cL_law 1383 = .ok (.ireturn, 1) := by decide +kernel
set_option maxHeartbeats 2000000 in
theorem lq_X9_later : fm_V "MicRowLaw" 166 yX9_later 1 := ⟨Or.inl (fm_wd 762 (by decide +kernel) (by decide +kernel)), fm_wd 763 (by decide +kernel) (by decide +kernel), fm_wd 764 (by decide +kernel) (by decide +kernel), fm_wd 81 (by decide +kernel) (by decide +kernel), ⟨by decide, by decide, by decide +kernel⟩⟩
theorem ln_X9_later : Cond.methodLink "MicRowLaw" 166 yX9_later ∈ fm_TT := fm_wd 762 (by decide +kernel) (by decide +kernel)
theorem lk_X9_later : Cond.code yX9_later cX9_later 3 (some .int) ∈ fm_TT := fm_wd 765 (by decide +kernel) (by decide +kernel)
theorem lq_X10_later : fm_V "MicRowLaw" 169 yX10_later 1 := ⟨Or.inl (fm_wd 1533 (by decide +kernel) (by decide +kernel)), fm_wd 1534 (by decide +kernel) (by decide +kernel), fm_wd 1535 (by decide +kernel) (by decide +kernel), fm_wd 91 (by decide +kernel) (by decide +kernel), ⟨by decide, by decide, by decide +kernel⟩⟩
theorem ln_X10_later : Cond.methodLink "MicRowLaw" 169 yX10_later ∈ fm_TT := fm_wd 1533 (by decide +kernel) (by decide +kernel)
theorem lk_X10_later : Cond.code yX10_later cX10_later 5 (some .int) ∈ fm_TT := fm_wd 1536 (by decide +kernel) (by decide +kernel)
theorem lw_case_later (C : fm_LC G ad1 ad2 qo p s m meth c b L xs) (hfl : l.stackTraces = false) (hcs : cells + 1 ≤ room_1.cells ∧ slots + 6 ≤ room_1.slots) (E : fm_LW G ad1 ad2 qo M1 M2 f s H locs) (hl : lv_has ls 8 [(0, .ref b), (1, .ref (ad1 0)), (2, .ref (ad2 0)), (3, .ref qo), (4, .int i)]) (h1 : fm_in (i + 1) L = true) (h2 : fm_in (i + 2) L = true) (h3 : fm_in (i + 3) L = true) (h4 : fm_in (i + 4) L = true) (hn : n < 512) (hR : R n M1 M2) (hc : cp_later N R) (kk : fm_KK p l e s m below meth c cells slots Q qo b n G ad1 ad2 i R) : W p l e room_1 s m #[Value.ref b] below meth c H locs cells slots Q (F0 m 1359 ls []) := by
  obtain ⟨hc1, hc2⟩ := hcs
  have hc0 : cells ≤ room_1.cells ∧ slots ≤ room_1.slots := ⟨by omega, by omega⟩
  obtain ⟨r, M1', M2', hf1, hf2, hR'⟩ := hc n M1 M2 (xs (i + 1).toNatClampNeg) hn hR
  refine lv_aload_n C.1.1 C.1.2.1 dL_law_1359 rfl (lv_at hl 1 rfl) ?_
  refine lv_aload_n C.1.1 C.1.2.1 dL_law_1360 rfl (lv_at hl 0 rfl) ?_
  refine lv_iload C.1.1 C.1.2.1 dL_law_1361 (lv_at hl 4 rfl) ?_
  refine lv_iconst (v := 1) C.1.1 C.1.2.1 dL_law_1363 (by decide) ?_
  refine lv_iadd C.1.1 C.1.2.1 dL_law_1364 ?_
  refine fm_lsld C E h1 dL_law_1365 ?_
  refine fm_lcallC C E [.int _] [] lq_X9_later ln_X9_later lk_X9_later (c_MicRow_later l _ N _ _ _ _ hf1) rfl rfl hl.1 (by simp) ⟨⟨rfl, rfl⟩, Nat.le_of_ble_eq_true rfl, Nat.le_of_ble_eq_true rfl⟩ hc0 dL_law_1366 rfl (fun H locs E => ?_)
  refine W.eq (g2 := F0 m 1369 ls [.int r]) rfl ?_
  refine lv_aload_n C.1.1 C.1.2.1 dL_law_1369 rfl (lv_at hl 2 rfl) ?_
  refine lv_aload_n C.1.1 C.1.2.1 dL_law_1370 rfl (lv_at hl 0 rfl) ?_
  refine lv_iload C.1.1 C.1.2.1 dL_law_1371 (lv_at hl 4 rfl) ?_
  refine lv_iconst (v := 1) C.1.1 C.1.2.1 dL_law_1373 (by decide) ?_
  refine lv_iadd C.1.1 C.1.2.1 dL_law_1374 ?_
  refine fm_lsld C E h1 dL_law_1375 ?_
  refine fm_lcallM C E [.int _] [.int r] lq_X10_later ln_X10_later lk_X10_later (c_Model_later l _ N _ _ _ _ hf2) rfl rfl hl.1 (by simp [Value.category]) ⟨⟨rfl, rfl⟩, Nat.le_of_ble_eq_true rfl, Nat.le_of_ble_eq_true rfl⟩ hc0 dL_law_1376 rfl (fun H locs E => ?_)
  refine W.eq (g2 := F0 m 1379 ls [.int r, .int r]) rfl ?_
  refine lv_icmp_eq (tgt := 1837) C.1.1 C.1.2.1 dL_law_1379 (by decide) (fun _ => ?_) (fun h => absurd rfl h)
  exact W.widen (Nat.le_succ _) (Nat.le_add_right _ 6) (kk M1' M2' f H locs ls hR' E hl)
theorem dL_law_1384 : decode cL_law 1384 = .ok (.aload_n 1, 1) := by decide +kernel
theorem dL_law_1385 : decode cL_law 1385 = .ok (.aload_n 0, 1) := by decide +kernel
theorem dL_law_1386 : decode cL_law 1386 = .ok (.iload 4, 2) := by decide +kernel
theorem dL_law_1388 : decode cL_law 1388 = .ok (.iconst 1, 1) := by decide +kernel
theorem dL_law_1389 : decode cL_law 1389 = .ok (.iadd, 1) := by decide +kernel
theorem dL_law_1390 : decode cL_law 1390 = .ok (.iaload, 1) := by decide +kernel
theorem dL_law_1391 : decode cL_law 1391 = .ok (.invokevirtual 170, 3) := by decide +kernel
theorem dL_law_1394 : decode cL_law 1394 = .ok (.aload_n 2, 1) := by decide +kernel
theorem dL_law_1395 : decode cL_law 1395 = .ok (.aload_n 0, 1) := by decide +kernel
theorem dL_law_1396 : decode cL_law 1396 = .ok (.iload 4, 2) := by decide +kernel
theorem dL_law_1398 : decode cL_law 1398 = .ok (.iconst 1, 1) := by decide +kernel
theorem dL_law_1399 : decode cL_law 1399 = .ok (.iadd, 1) := by decide +kernel
theorem dL_law_1400 : decode cL_law 1400 = .ok (.iaload, 1) := by decide +kernel
theorem dL_law_1401 : decode cL_law 1401 = .ok (.invokevirtual 173, 3) := by decide +kernel
theorem dL_law_1404 : decode cL_law 1404 = .ok (.if_icmp .eq 433, 3) := by decide +kernel
theorem dL_law_1407 : decode cL_law 1407 = .ok (.iconst 0, 1) := by decide +kernel
theorem dL_law_1408 : decode cL_law 1408 = .ok (.ireturn, 1) := by decide +kernel
set_option maxHeartbeats 2000000 in
theorem lq_X9_settles : fm_V "MicRowLaw" 170 yX9_settles 1 := ⟨Or.inl (fm_wd 766 (by decide +kernel) (by decide +kernel)), fm_wd 767 (by decide +kernel) (by decide +kernel), fm_wd 768 (by decide +kernel) (by decide +kernel), fm_wd 81 (by decide +kernel) (by decide +kernel), ⟨by decide, by decide, by decide +kernel⟩⟩
theorem ln_X9_settles : Cond.methodLink "MicRowLaw" 170 yX9_settles ∈ fm_TT := fm_wd 766 (by decide +kernel) (by decide +kernel)
theorem lk_X9_settles : Cond.code yX9_settles cX9_settles 3 (some .int) ∈ fm_TT := fm_wd 769 (by decide +kernel) (by decide +kernel)
theorem lq_X10_settles : fm_V "MicRowLaw" 173 yX10_settles 1 := ⟨Or.inl (fm_wd 1537 (by decide +kernel) (by decide +kernel)), fm_wd 1538 (by decide +kernel) (by decide +kernel), fm_wd 1539 (by decide +kernel) (by decide +kernel), fm_wd 91 (by decide +kernel) (by decide +kernel), ⟨by decide, by decide, by decide +kernel⟩⟩
theorem ln_X10_settles : Cond.methodLink "MicRowLaw" 173 yX10_settles ∈ fm_TT := fm_wd 1537 (by decide +kernel) (by decide +kernel)
theorem lk_X10_settles : Cond.code yX10_settles cX10_settles 5 (some .int) ∈ fm_TT := fm_wd 1540 (by decide +kernel) (by decide +kernel)
theorem lw_case_settles (C : fm_LC G ad1 ad2 qo p s m meth c b L xs) (hfl : l.stackTraces = false) (hcs : cells + 1 ≤ room_1.cells ∧ slots + 6 ≤ room_1.slots) (E : fm_LW G ad1 ad2 qo M1 M2 f s H locs) (hl : lv_has ls 8 [(0, .ref b), (1, .ref (ad1 0)), (2, .ref (ad2 0)), (3, .ref qo), (4, .int i)]) (h1 : fm_in (i + 1) L = true) (h2 : fm_in (i + 2) L = true) (h3 : fm_in (i + 3) L = true) (h4 : fm_in (i + 4) L = true) (hn : n < 512) (hR : R n M1 M2) (hc : cp_settles N R) (kk : fm_KK p l e s m below meth c cells slots Q qo b n G ad1 ad2 i R) : W p l e room_1 s m #[Value.ref b] below meth c H locs cells slots Q (F0 m 1384 ls []) := by
  obtain ⟨hc1, hc2⟩ := hcs
  have hc0 : cells ≤ room_1.cells ∧ slots ≤ room_1.slots := ⟨by omega, by omega⟩
  obtain ⟨r, M1', M2', hf1, hf2, hR'⟩ := hc n M1 M2 (xs (i + 1).toNatClampNeg) hn hR
  refine lv_aload_n C.1.1 C.1.2.1 dL_law_1384 rfl (lv_at hl 1 rfl) ?_
  refine lv_aload_n C.1.1 C.1.2.1 dL_law_1385 rfl (lv_at hl 0 rfl) ?_
  refine lv_iload C.1.1 C.1.2.1 dL_law_1386 (lv_at hl 4 rfl) ?_
  refine lv_iconst (v := 1) C.1.1 C.1.2.1 dL_law_1388 (by decide) ?_
  refine lv_iadd C.1.1 C.1.2.1 dL_law_1389 ?_
  refine fm_lsld C E h1 dL_law_1390 ?_
  refine fm_lcallC C E [.int _] [] lq_X9_settles ln_X9_settles lk_X9_settles (c_MicRow_settles l _ N _ _ _ _ hf1) rfl rfl hl.1 (by simp) ⟨⟨rfl, rfl⟩, Nat.le_of_ble_eq_true rfl, Nat.le_of_ble_eq_true rfl⟩ hc0 dL_law_1391 rfl (fun H locs E => ?_)
  refine W.eq (g2 := F0 m 1394 ls [.int r]) rfl ?_
  refine lv_aload_n C.1.1 C.1.2.1 dL_law_1394 rfl (lv_at hl 2 rfl) ?_
  refine lv_aload_n C.1.1 C.1.2.1 dL_law_1395 rfl (lv_at hl 0 rfl) ?_
  refine lv_iload C.1.1 C.1.2.1 dL_law_1396 (lv_at hl 4 rfl) ?_
  refine lv_iconst (v := 1) C.1.1 C.1.2.1 dL_law_1398 (by decide) ?_
  refine lv_iadd C.1.1 C.1.2.1 dL_law_1399 ?_
  refine fm_lsld C E h1 dL_law_1400 ?_
  refine fm_lcallM C E [.int _] [.int r] lq_X10_settles ln_X10_settles lk_X10_settles (c_Model_settles l _ N _ _ _ _ hf2) rfl rfl hl.1 (by simp [Value.category]) ⟨⟨rfl, rfl⟩, Nat.le_of_ble_eq_true rfl, Nat.le_of_ble_eq_true rfl⟩ hc0 dL_law_1401 rfl (fun H locs E => ?_)
  refine W.eq (g2 := F0 m 1404 ls [.int r, .int r]) rfl ?_
  refine lv_icmp_eq (tgt := 1837) C.1.1 C.1.2.1 dL_law_1404 (by decide) (fun _ => ?_) (fun h => absurd rfl h)
  exact W.widen (Nat.le_succ _) (Nat.le_add_right _ 6) (kk M1' M2' f H locs ls hR' E hl)
theorem dL_law_1409 : decode cL_law 1409 = .ok (.aload_n 1, 1) := by decide +kernel
theorem dL_law_1410 : decode cL_law 1410 = .ok (.aload_n 0, 1) := by decide +kernel
theorem dL_law_1411 : decode cL_law 1411 = .ok (.iload 4, 2) := by decide +kernel
theorem dL_law_1413 : decode cL_law 1413 = .ok (.iconst 1, 1) := by decide +kernel
theorem dL_law_1414 : decode cL_law 1414 = .ok (.iadd, 1) := by decide +kernel
theorem dL_law_1415 : decode cL_law 1415 = .ok (.iaload, 1) := by decide +kernel
theorem dL_law_1416 : decode cL_law 1416 = .ok (.aload_n 0, 1) := by decide +kernel
theorem dL_law_1417 : decode cL_law 1417 = .ok (.iload 4, 2) := by decide +kernel
theorem dL_law_1419 : decode cL_law 1419 = .ok (.iconst 2, 1) := by decide +kernel
theorem dL_law_1420 : decode cL_law 1420 = .ok (.iadd, 1) := by decide +kernel
theorem dL_law_1421 : decode cL_law 1421 = .ok (.iaload, 1) := by decide +kernel
theorem dL_law_1422 : decode cL_law 1422 = .ok (.aload_n 0, 1) := by decide +kernel
theorem dL_law_1423 : decode cL_law 1423 = .ok (.iload 4, 2) := by decide +kernel
theorem dL_law_1425 : decode cL_law 1425 = .ok (.iconst 3, 1) := by decide +kernel
theorem dL_law_1426 : decode cL_law 1426 = .ok (.iadd, 1) := by decide +kernel
theorem dL_law_1427 : decode cL_law 1427 = .ok (.iaload, 1) := by decide +kernel
theorem dL_law_1428 : decode cL_law 1428 = .ok (.invokevirtual 174, 3) := by decide +kernel
theorem dL_law_1431 : decode cL_law 1431 = .ok (.aload_n 2, 1) := by decide +kernel
theorem dL_law_1432 : decode cL_law 1432 = .ok (.aload_n 0, 1) := by decide +kernel
theorem dL_law_1433 : decode cL_law 1433 = .ok (.iload 4, 2) := by decide +kernel
theorem dL_law_1435 : decode cL_law 1435 = .ok (.iconst 1, 1) := by decide +kernel
theorem dL_law_1436 : decode cL_law 1436 = .ok (.iadd, 1) := by decide +kernel
theorem dL_law_1437 : decode cL_law 1437 = .ok (.iaload, 1) := by decide +kernel
theorem dL_law_1438 : decode cL_law 1438 = .ok (.aload_n 0, 1) := by decide +kernel
theorem dL_law_1439 : decode cL_law 1439 = .ok (.iload 4, 2) := by decide +kernel
theorem dL_law_1441 : decode cL_law 1441 = .ok (.iconst 2, 1) := by decide +kernel
theorem dL_law_1442 : decode cL_law 1442 = .ok (.iadd, 1) := by decide +kernel
theorem dL_law_1443 : decode cL_law 1443 = .ok (.iaload, 1) := by decide +kernel
theorem dL_law_1444 : decode cL_law 1444 = .ok (.aload_n 0, 1) := by decide +kernel
theorem dL_law_1445 : decode cL_law 1445 = .ok (.iload 4, 2) := by decide +kernel
theorem dL_law_1447 : decode cL_law 1447 = .ok (.iconst 3, 1) := by decide +kernel
theorem dL_law_1448 : decode cL_law 1448 = .ok (.iadd, 1) := by decide +kernel
theorem dL_law_1449 : decode cL_law 1449 = .ok (.iaload, 1) := by decide +kernel
theorem dL_law_1450 : decode cL_law 1450 = .ok (.invokevirtual 177, 3) := by decide +kernel
theorem dL_law_1453 : decode cL_law 1453 = .ok (.if_icmp .eq 384, 3) := by decide +kernel
theorem dL_law_1456 : decode cL_law 1456 = .ok (.iconst 0, 1) := by decide +kernel
theorem dL_law_1457 : decode cL_law 1457 = .ok (.ireturn, 1) := by decide +kernel
set_option maxHeartbeats 2000000 in
theorem lq_X9_sets : fm_V "MicRowLaw" 174 yX9_sets 3 := ⟨Or.inl (fm_wd 774 (by decide +kernel) (by decide +kernel)), fm_wd 775 (by decide +kernel) (by decide +kernel), fm_wd 776 (by decide +kernel) (by decide +kernel), fm_wd 81 (by decide +kernel) (by decide +kernel), ⟨by decide, by decide, by decide +kernel⟩⟩
theorem ln_X9_sets : Cond.methodLink "MicRowLaw" 174 yX9_sets ∈ fm_TT := fm_wd 774 (by decide +kernel) (by decide +kernel)
theorem lk_X9_sets : Cond.code yX9_sets cX9_sets 4 (some .int) ∈ fm_TT := fm_wd 777 (by decide +kernel) (by decide +kernel)
theorem lq_X10_sets : fm_V "MicRowLaw" 177 yX10_sets 3 := ⟨Or.inl (fm_wd 1545 (by decide +kernel) (by decide +kernel)), fm_wd 1546 (by decide +kernel) (by decide +kernel), fm_wd 1547 (by decide +kernel) (by decide +kernel), fm_wd 91 (by decide +kernel) (by decide +kernel), ⟨by decide, by decide, by decide +kernel⟩⟩
theorem ln_X10_sets : Cond.methodLink "MicRowLaw" 177 yX10_sets ∈ fm_TT := fm_wd 1545 (by decide +kernel) (by decide +kernel)
theorem lk_X10_sets : Cond.code yX10_sets cX10_sets 6 (some .int) ∈ fm_TT := fm_wd 1548 (by decide +kernel) (by decide +kernel)
theorem lw_case_sets (C : fm_LC G ad1 ad2 qo p s m meth c b L xs) (hfl : l.stackTraces = false) (hcs : cells + 1 ≤ room_1.cells ∧ slots + 6 ≤ room_1.slots) (E : fm_LW G ad1 ad2 qo M1 M2 f s H locs) (hl : lv_has ls 8 [(0, .ref b), (1, .ref (ad1 0)), (2, .ref (ad2 0)), (3, .ref qo), (4, .int i)]) (h1 : fm_in (i + 1) L = true) (h2 : fm_in (i + 2) L = true) (h3 : fm_in (i + 3) L = true) (h4 : fm_in (i + 4) L = true) (hn : n < 512) (hR : R n M1 M2) (hc : cp_sets N R) (kk : fm_KK p l e s m below meth c cells slots Q qo b n G ad1 ad2 i R) : W p l e room_1 s m #[Value.ref b] below meth c H locs cells slots Q (F0 m 1409 ls []) := by
  obtain ⟨hc1, hc2⟩ := hcs
  have hc0 : cells ≤ room_1.cells ∧ slots ≤ room_1.slots := ⟨by omega, by omega⟩
  obtain ⟨r, M1', M2', hf1, hf2, hR'⟩ := hc n M1 M2 (xs (i + 1).toNatClampNeg) (xs (i + 2).toNatClampNeg) (xs (i + 3).toNatClampNeg) hn hR
  refine lv_aload_n C.1.1 C.1.2.1 dL_law_1409 rfl (lv_at hl 1 rfl) ?_
  refine lv_aload_n C.1.1 C.1.2.1 dL_law_1410 rfl (lv_at hl 0 rfl) ?_
  refine lv_iload C.1.1 C.1.2.1 dL_law_1411 (lv_at hl 4 rfl) ?_
  refine lv_iconst (v := 1) C.1.1 C.1.2.1 dL_law_1413 (by decide) ?_
  refine lv_iadd C.1.1 C.1.2.1 dL_law_1414 ?_
  refine fm_lsld C E h1 dL_law_1415 ?_
  refine lv_aload_n C.1.1 C.1.2.1 dL_law_1416 rfl (lv_at hl 0 rfl) ?_
  refine lv_iload C.1.1 C.1.2.1 dL_law_1417 (lv_at hl 4 rfl) ?_
  refine lv_iconst (v := 2) C.1.1 C.1.2.1 dL_law_1419 (by decide) ?_
  refine lv_iadd C.1.1 C.1.2.1 dL_law_1420 ?_
  refine fm_lsld C E h2 dL_law_1421 ?_
  refine lv_aload_n C.1.1 C.1.2.1 dL_law_1422 rfl (lv_at hl 0 rfl) ?_
  refine lv_iload C.1.1 C.1.2.1 dL_law_1423 (lv_at hl 4 rfl) ?_
  refine lv_iconst (v := 3) C.1.1 C.1.2.1 dL_law_1425 (by decide) ?_
  refine lv_iadd C.1.1 C.1.2.1 dL_law_1426 ?_
  refine fm_lsld C E h3 dL_law_1427 ?_
  refine fm_lcallC C E [.int _, .int _, .int _] [] lq_X9_sets ln_X9_sets lk_X9_sets (c_MicRow_sets l _ N _ _ _ _ _ _ hf1) rfl rfl hl.1 (by simp) ⟨⟨rfl, rfl⟩, Nat.le_of_ble_eq_true rfl, Nat.le_of_ble_eq_true rfl⟩ hc0 dL_law_1428 rfl (fun H locs E => ?_)
  refine W.eq (g2 := F0 m 1431 ls [.int r]) rfl ?_
  refine lv_aload_n C.1.1 C.1.2.1 dL_law_1431 rfl (lv_at hl 2 rfl) ?_
  refine lv_aload_n C.1.1 C.1.2.1 dL_law_1432 rfl (lv_at hl 0 rfl) ?_
  refine lv_iload C.1.1 C.1.2.1 dL_law_1433 (lv_at hl 4 rfl) ?_
  refine lv_iconst (v := 1) C.1.1 C.1.2.1 dL_law_1435 (by decide) ?_
  refine lv_iadd C.1.1 C.1.2.1 dL_law_1436 ?_
  refine fm_lsld C E h1 dL_law_1437 ?_
  refine lv_aload_n C.1.1 C.1.2.1 dL_law_1438 rfl (lv_at hl 0 rfl) ?_
  refine lv_iload C.1.1 C.1.2.1 dL_law_1439 (lv_at hl 4 rfl) ?_
  refine lv_iconst (v := 2) C.1.1 C.1.2.1 dL_law_1441 (by decide) ?_
  refine lv_iadd C.1.1 C.1.2.1 dL_law_1442 ?_
  refine fm_lsld C E h2 dL_law_1443 ?_
  refine lv_aload_n C.1.1 C.1.2.1 dL_law_1444 rfl (lv_at hl 0 rfl) ?_
  refine lv_iload C.1.1 C.1.2.1 dL_law_1445 (lv_at hl 4 rfl) ?_
  refine lv_iconst (v := 3) C.1.1 C.1.2.1 dL_law_1447 (by decide) ?_
  refine lv_iadd C.1.1 C.1.2.1 dL_law_1448 ?_
  refine fm_lsld C E h3 dL_law_1449 ?_
  refine fm_lcallM C E [.int _, .int _, .int _] [.int r] lq_X10_sets ln_X10_sets lk_X10_sets (c_Model_sets l _ N _ _ _ _ _ _ hf2) rfl rfl hl.1 (by simp [Value.category]) ⟨⟨rfl, rfl⟩, Nat.le_of_ble_eq_true rfl, Nat.le_of_ble_eq_true rfl⟩ hc0 dL_law_1450 rfl (fun H locs E => ?_)
  refine W.eq (g2 := F0 m 1453 ls [.int r, .int r]) rfl ?_
  refine lv_icmp_eq (tgt := 1837) C.1.1 C.1.2.1 dL_law_1453 (by decide) (fun _ => ?_) (fun h => absurd rfl h)
  exact W.widen (Nat.le_succ _) (Nat.le_add_right _ 6) (kk M1' M2' f H locs ls hR' E hl)
theorem dL_law_1458 : decode cL_law 1458 = .ok (.aload_n 1, 1) := by decide +kernel
theorem dL_law_1459 : decode cL_law 1459 = .ok (.aload_n 0, 1) := by decide +kernel
theorem dL_law_1460 : decode cL_law 1460 = .ok (.iload 4, 2) := by decide +kernel
theorem dL_law_1462 : decode cL_law 1462 = .ok (.iconst 1, 1) := by decide +kernel
theorem dL_law_1463 : decode cL_law 1463 = .ok (.iadd, 1) := by decide +kernel
theorem dL_law_1464 : decode cL_law 1464 = .ok (.iaload, 1) := by decide +kernel
theorem dL_law_1465 : decode cL_law 1465 = .ok (.aload_n 0, 1) := by decide +kernel
theorem dL_law_1466 : decode cL_law 1466 = .ok (.iload 4, 2) := by decide +kernel
theorem dL_law_1468 : decode cL_law 1468 = .ok (.iconst 2, 1) := by decide +kernel
theorem dL_law_1469 : decode cL_law 1469 = .ok (.iadd, 1) := by decide +kernel
theorem dL_law_1470 : decode cL_law 1470 = .ok (.iaload, 1) := by decide +kernel
theorem dL_law_1471 : decode cL_law 1471 = .ok (.invokevirtual 178, 3) := by decide +kernel
theorem dL_law_1474 : decode cL_law 1474 = .ok (.aload_n 2, 1) := by decide +kernel
theorem dL_law_1475 : decode cL_law 1475 = .ok (.aload_n 0, 1) := by decide +kernel
theorem dL_law_1476 : decode cL_law 1476 = .ok (.iload 4, 2) := by decide +kernel
theorem dL_law_1478 : decode cL_law 1478 = .ok (.iconst 1, 1) := by decide +kernel
theorem dL_law_1479 : decode cL_law 1479 = .ok (.iadd, 1) := by decide +kernel
theorem dL_law_1480 : decode cL_law 1480 = .ok (.iaload, 1) := by decide +kernel
theorem dL_law_1481 : decode cL_law 1481 = .ok (.aload_n 0, 1) := by decide +kernel
theorem dL_law_1482 : decode cL_law 1482 = .ok (.iload 4, 2) := by decide +kernel
theorem dL_law_1484 : decode cL_law 1484 = .ok (.iconst 2, 1) := by decide +kernel
theorem dL_law_1485 : decode cL_law 1485 = .ok (.iadd, 1) := by decide +kernel
theorem dL_law_1486 : decode cL_law 1486 = .ok (.iaload, 1) := by decide +kernel
theorem dL_law_1487 : decode cL_law 1487 = .ok (.invokevirtual 181, 3) := by decide +kernel
theorem dL_law_1490 : decode cL_law 1490 = .ok (.if_icmp .eq 347, 3) := by decide +kernel
theorem dL_law_1493 : decode cL_law 1493 = .ok (.iconst 0, 1) := by decide +kernel
theorem dL_law_1494 : decode cL_law 1494 = .ok (.ireturn, 1) := by decide +kernel
set_option maxHeartbeats 2000000 in
theorem lq_X9_holds : fm_V "MicRowLaw" 178 yX9_holds 2 := ⟨Or.inl (fm_wd 778 (by decide +kernel) (by decide +kernel)), fm_wd 779 (by decide +kernel) (by decide +kernel), fm_wd 780 (by decide +kernel) (by decide +kernel), fm_wd 81 (by decide +kernel) (by decide +kernel), ⟨by decide, by decide, by decide +kernel⟩⟩
theorem ln_X9_holds : Cond.methodLink "MicRowLaw" 178 yX9_holds ∈ fm_TT := fm_wd 778 (by decide +kernel) (by decide +kernel)
theorem lk_X9_holds : Cond.code yX9_holds cX9_holds 3 (some .int) ∈ fm_TT := fm_wd 781 (by decide +kernel) (by decide +kernel)
theorem lq_X10_holds : fm_V "MicRowLaw" 181 yX10_holds 2 := ⟨Or.inl (fm_wd 1553 (by decide +kernel) (by decide +kernel)), fm_wd 1554 (by decide +kernel) (by decide +kernel), fm_wd 1555 (by decide +kernel) (by decide +kernel), fm_wd 91 (by decide +kernel) (by decide +kernel), ⟨by decide, by decide, by decide +kernel⟩⟩
theorem ln_X10_holds : Cond.methodLink "MicRowLaw" 181 yX10_holds ∈ fm_TT := fm_wd 1553 (by decide +kernel) (by decide +kernel)
theorem lk_X10_holds : Cond.code yX10_holds cX10_holds 5 (some .int) ∈ fm_TT := fm_wd 1556 (by decide +kernel) (by decide +kernel)
theorem lw_case_holds (C : fm_LC G ad1 ad2 qo p s m meth c b L xs) (hfl : l.stackTraces = false) (hcs : cells + 1 ≤ room_1.cells ∧ slots + 6 ≤ room_1.slots) (E : fm_LW G ad1 ad2 qo M1 M2 f s H locs) (hl : lv_has ls 8 [(0, .ref b), (1, .ref (ad1 0)), (2, .ref (ad2 0)), (3, .ref qo), (4, .int i)]) (h1 : fm_in (i + 1) L = true) (h2 : fm_in (i + 2) L = true) (h3 : fm_in (i + 3) L = true) (h4 : fm_in (i + 4) L = true) (hn : n < 512) (hR : R n M1 M2) (hc : cp_holds N R) (kk : fm_KK p l e s m below meth c cells slots Q qo b n G ad1 ad2 i R) : W p l e room_1 s m #[Value.ref b] below meth c H locs cells slots Q (F0 m 1458 ls []) := by
  obtain ⟨hc1, hc2⟩ := hcs
  have hc0 : cells ≤ room_1.cells ∧ slots ≤ room_1.slots := ⟨by omega, by omega⟩
  obtain ⟨r, M1', M2', hf1, hf2, hR'⟩ := hc n M1 M2 (xs (i + 1).toNatClampNeg) (xs (i + 2).toNatClampNeg) hn hR
  refine lv_aload_n C.1.1 C.1.2.1 dL_law_1458 rfl (lv_at hl 1 rfl) ?_
  refine lv_aload_n C.1.1 C.1.2.1 dL_law_1459 rfl (lv_at hl 0 rfl) ?_
  refine lv_iload C.1.1 C.1.2.1 dL_law_1460 (lv_at hl 4 rfl) ?_
  refine lv_iconst (v := 1) C.1.1 C.1.2.1 dL_law_1462 (by decide) ?_
  refine lv_iadd C.1.1 C.1.2.1 dL_law_1463 ?_
  refine fm_lsld C E h1 dL_law_1464 ?_
  refine lv_aload_n C.1.1 C.1.2.1 dL_law_1465 rfl (lv_at hl 0 rfl) ?_
  refine lv_iload C.1.1 C.1.2.1 dL_law_1466 (lv_at hl 4 rfl) ?_
  refine lv_iconst (v := 2) C.1.1 C.1.2.1 dL_law_1468 (by decide) ?_
  refine lv_iadd C.1.1 C.1.2.1 dL_law_1469 ?_
  refine fm_lsld C E h2 dL_law_1470 ?_
  refine fm_lcallC C E [.int _, .int _] [] lq_X9_holds ln_X9_holds lk_X9_holds (c_MicRow_holds l _ N _ _ _ _ _ hf1) rfl rfl hl.1 (by simp) ⟨⟨rfl, rfl⟩, Nat.le_of_ble_eq_true rfl, Nat.le_of_ble_eq_true rfl⟩ hc0 dL_law_1471 rfl (fun H locs E => ?_)
  refine W.eq (g2 := F0 m 1474 ls [.int r]) rfl ?_
  refine lv_aload_n C.1.1 C.1.2.1 dL_law_1474 rfl (lv_at hl 2 rfl) ?_
  refine lv_aload_n C.1.1 C.1.2.1 dL_law_1475 rfl (lv_at hl 0 rfl) ?_
  refine lv_iload C.1.1 C.1.2.1 dL_law_1476 (lv_at hl 4 rfl) ?_
  refine lv_iconst (v := 1) C.1.1 C.1.2.1 dL_law_1478 (by decide) ?_
  refine lv_iadd C.1.1 C.1.2.1 dL_law_1479 ?_
  refine fm_lsld C E h1 dL_law_1480 ?_
  refine lv_aload_n C.1.1 C.1.2.1 dL_law_1481 rfl (lv_at hl 0 rfl) ?_
  refine lv_iload C.1.1 C.1.2.1 dL_law_1482 (lv_at hl 4 rfl) ?_
  refine lv_iconst (v := 2) C.1.1 C.1.2.1 dL_law_1484 (by decide) ?_
  refine lv_iadd C.1.1 C.1.2.1 dL_law_1485 ?_
  refine fm_lsld C E h2 dL_law_1486 ?_
  refine fm_lcallM C E [.int _, .int _] [.int r] lq_X10_holds ln_X10_holds lk_X10_holds (c_Model_holds l _ N _ _ _ _ _ hf2) rfl rfl hl.1 (by simp [Value.category]) ⟨⟨rfl, rfl⟩, Nat.le_of_ble_eq_true rfl, Nat.le_of_ble_eq_true rfl⟩ hc0 dL_law_1487 rfl (fun H locs E => ?_)
  refine W.eq (g2 := F0 m 1490 ls [.int r, .int r]) rfl ?_
  refine lv_icmp_eq (tgt := 1837) C.1.1 C.1.2.1 dL_law_1490 (by decide) (fun _ => ?_) (fun h => absurd rfl h)
  exact W.widen (Nat.le_succ _) (Nat.le_add_right _ 6) (kk M1' M2' f H locs ls hR' E hl)
theorem dL_law_1495 : decode cL_law 1495 = .ok (.aload_n 1, 1) := by decide +kernel
theorem dL_law_1496 : decode cL_law 1496 = .ok (.aload_n 0, 1) := by decide +kernel
theorem dL_law_1497 : decode cL_law 1497 = .ok (.iload 4, 2) := by decide +kernel
theorem dL_law_1499 : decode cL_law 1499 = .ok (.iconst 1, 1) := by decide +kernel
theorem dL_law_1500 : decode cL_law 1500 = .ok (.iadd, 1) := by decide +kernel
theorem dL_law_1501 : decode cL_law 1501 = .ok (.iaload, 1) := by decide +kernel
theorem dL_law_1502 : decode cL_law 1502 = .ok (.aload_n 0, 1) := by decide +kernel
theorem dL_law_1503 : decode cL_law 1503 = .ok (.iload 4, 2) := by decide +kernel
theorem dL_law_1505 : decode cL_law 1505 = .ok (.iconst 2, 1) := by decide +kernel
theorem dL_law_1506 : decode cL_law 1506 = .ok (.iadd, 1) := by decide +kernel
theorem dL_law_1507 : decode cL_law 1507 = .ok (.iaload, 1) := by decide +kernel
theorem dL_law_1508 : decode cL_law 1508 = .ok (.invokevirtual 182, 3) := by decide +kernel
theorem dL_law_1511 : decode cL_law 1511 = .ok (.aload_n 2, 1) := by decide +kernel
theorem dL_law_1512 : decode cL_law 1512 = .ok (.aload_n 0, 1) := by decide +kernel
theorem dL_law_1513 : decode cL_law 1513 = .ok (.iload 4, 2) := by decide +kernel
theorem dL_law_1515 : decode cL_law 1515 = .ok (.iconst 1, 1) := by decide +kernel
theorem dL_law_1516 : decode cL_law 1516 = .ok (.iadd, 1) := by decide +kernel
theorem dL_law_1517 : decode cL_law 1517 = .ok (.iaload, 1) := by decide +kernel
theorem dL_law_1518 : decode cL_law 1518 = .ok (.aload_n 0, 1) := by decide +kernel
theorem dL_law_1519 : decode cL_law 1519 = .ok (.iload 4, 2) := by decide +kernel
theorem dL_law_1521 : decode cL_law 1521 = .ok (.iconst 2, 1) := by decide +kernel
theorem dL_law_1522 : decode cL_law 1522 = .ok (.iadd, 1) := by decide +kernel
theorem dL_law_1523 : decode cL_law 1523 = .ok (.iaload, 1) := by decide +kernel
theorem dL_law_1524 : decode cL_law 1524 = .ok (.invokevirtual 185, 3) := by decide +kernel
theorem dL_law_1527 : decode cL_law 1527 = .ok (.if_icmp .eq 310, 3) := by decide +kernel
theorem dL_law_1530 : decode cL_law 1530 = .ok (.iconst 0, 1) := by decide +kernel
theorem dL_law_1531 : decode cL_law 1531 = .ok (.ireturn, 1) := by decide +kernel
set_option maxHeartbeats 2000000 in
theorem lq_X9_moves : fm_V "MicRowLaw" 182 yX9_moves 2 := ⟨Or.inl (fm_wd 790 (by decide +kernel) (by decide +kernel)), fm_wd 791 (by decide +kernel) (by decide +kernel), fm_wd 792 (by decide +kernel) (by decide +kernel), fm_wd 81 (by decide +kernel) (by decide +kernel), ⟨by decide, by decide, by decide +kernel⟩⟩
theorem ln_X9_moves : Cond.methodLink "MicRowLaw" 182 yX9_moves ∈ fm_TT := fm_wd 790 (by decide +kernel) (by decide +kernel)
theorem lk_X9_moves : Cond.code yX9_moves cX9_moves 3 (some .int) ∈ fm_TT := fm_wd 793 (by decide +kernel) (by decide +kernel)
theorem lq_X10_moves : fm_V "MicRowLaw" 185 yX10_moves 2 := ⟨Or.inl (fm_wd 1561 (by decide +kernel) (by decide +kernel)), fm_wd 1562 (by decide +kernel) (by decide +kernel), fm_wd 1563 (by decide +kernel) (by decide +kernel), fm_wd 91 (by decide +kernel) (by decide +kernel), ⟨by decide, by decide, by decide +kernel⟩⟩
theorem ln_X10_moves : Cond.methodLink "MicRowLaw" 185 yX10_moves ∈ fm_TT := fm_wd 1561 (by decide +kernel) (by decide +kernel)
theorem lk_X10_moves : Cond.code yX10_moves cX10_moves 4 (some .int) ∈ fm_TT := fm_wd 1564 (by decide +kernel) (by decide +kernel)
theorem lw_case_moves (C : fm_LC G ad1 ad2 qo p s m meth c b L xs) (hfl : l.stackTraces = false) (hcs : cells + 1 ≤ room_1.cells ∧ slots + 6 ≤ room_1.slots) (E : fm_LW G ad1 ad2 qo M1 M2 f s H locs) (hl : lv_has ls 8 [(0, .ref b), (1, .ref (ad1 0)), (2, .ref (ad2 0)), (3, .ref qo), (4, .int i)]) (h1 : fm_in (i + 1) L = true) (h2 : fm_in (i + 2) L = true) (h3 : fm_in (i + 3) L = true) (h4 : fm_in (i + 4) L = true) (hn : n < 512) (hR : R n M1 M2) (hc : cp_moves N R) (kk : fm_KK p l e s m below meth c cells slots Q qo b n G ad1 ad2 i R) : W p l e room_1 s m #[Value.ref b] below meth c H locs cells slots Q (F0 m 1495 ls []) := by
  obtain ⟨hc1, hc2⟩ := hcs
  have hc0 : cells ≤ room_1.cells ∧ slots ≤ room_1.slots := ⟨by omega, by omega⟩
  obtain ⟨r, M1', M2', hf1, hf2, hR'⟩ := hc n M1 M2 (xs (i + 1).toNatClampNeg) (xs (i + 2).toNatClampNeg) hn hR
  refine lv_aload_n C.1.1 C.1.2.1 dL_law_1495 rfl (lv_at hl 1 rfl) ?_
  refine lv_aload_n C.1.1 C.1.2.1 dL_law_1496 rfl (lv_at hl 0 rfl) ?_
  refine lv_iload C.1.1 C.1.2.1 dL_law_1497 (lv_at hl 4 rfl) ?_
  refine lv_iconst (v := 1) C.1.1 C.1.2.1 dL_law_1499 (by decide) ?_
  refine lv_iadd C.1.1 C.1.2.1 dL_law_1500 ?_
  refine fm_lsld C E h1 dL_law_1501 ?_
  refine lv_aload_n C.1.1 C.1.2.1 dL_law_1502 rfl (lv_at hl 0 rfl) ?_
  refine lv_iload C.1.1 C.1.2.1 dL_law_1503 (lv_at hl 4 rfl) ?_
  refine lv_iconst (v := 2) C.1.1 C.1.2.1 dL_law_1505 (by decide) ?_
  refine lv_iadd C.1.1 C.1.2.1 dL_law_1506 ?_
  refine fm_lsld C E h2 dL_law_1507 ?_
  refine fm_lcallC C E [.int _, .int _] [] lq_X9_moves ln_X9_moves lk_X9_moves (c_MicRow_moves l _ N _ _ _ _ _ hf1) rfl rfl hl.1 (by simp) ⟨⟨rfl, rfl⟩, Nat.le_of_ble_eq_true rfl, Nat.le_of_ble_eq_true rfl⟩ hc0 dL_law_1508 rfl (fun H locs E => ?_)
  refine W.eq (g2 := F0 m 1511 ls [.int r]) rfl ?_
  refine lv_aload_n C.1.1 C.1.2.1 dL_law_1511 rfl (lv_at hl 2 rfl) ?_
  refine lv_aload_n C.1.1 C.1.2.1 dL_law_1512 rfl (lv_at hl 0 rfl) ?_
  refine lv_iload C.1.1 C.1.2.1 dL_law_1513 (lv_at hl 4 rfl) ?_
  refine lv_iconst (v := 1) C.1.1 C.1.2.1 dL_law_1515 (by decide) ?_
  refine lv_iadd C.1.1 C.1.2.1 dL_law_1516 ?_
  refine fm_lsld C E h1 dL_law_1517 ?_
  refine lv_aload_n C.1.1 C.1.2.1 dL_law_1518 rfl (lv_at hl 0 rfl) ?_
  refine lv_iload C.1.1 C.1.2.1 dL_law_1519 (lv_at hl 4 rfl) ?_
  refine lv_iconst (v := 2) C.1.1 C.1.2.1 dL_law_1521 (by decide) ?_
  refine lv_iadd C.1.1 C.1.2.1 dL_law_1522 ?_
  refine fm_lsld C E h2 dL_law_1523 ?_
  refine fm_lcallM C E [.int _, .int _] [.int r] lq_X10_moves ln_X10_moves lk_X10_moves (c_Model_moves l _ N _ _ _ _ _ hf2) rfl rfl hl.1 (by simp [Value.category]) ⟨⟨rfl, rfl⟩, Nat.le_of_ble_eq_true rfl, Nat.le_of_ble_eq_true rfl⟩ hc0 dL_law_1524 rfl (fun H locs E => ?_)
  refine W.eq (g2 := F0 m 1527 ls [.int r, .int r]) rfl ?_
  refine lv_icmp_eq (tgt := 1837) C.1.1 C.1.2.1 dL_law_1527 (by decide) (fun _ => ?_) (fun h => absurd rfl h)
  exact W.widen (Nat.le_succ _) (Nat.le_add_right _ 6) (kk M1' M2' f H locs ls hR' E hl)
theorem dL_law_1532 : decode cL_law 1532 = .ok (.aload_n 1, 1) := by decide +kernel
theorem dL_law_1533 : decode cL_law 1533 = .ok (.invokevirtual 186, 3) := by decide +kernel
theorem dL_law_1536 : decode cL_law 1536 = .ok (.aload_n 2, 1) := by decide +kernel
theorem dL_law_1537 : decode cL_law 1537 = .ok (.invokevirtual 189, 3) := by decide +kernel
theorem dL_law_1540 : decode cL_law 1540 = .ok (.if_icmp .eq 297, 3) := by decide +kernel
theorem dL_law_1543 : decode cL_law 1543 = .ok (.iconst 0, 1) := by decide +kernel
theorem dL_law_1544 : decode cL_law 1544 = .ok (.ireturn, 1) := by decide +kernel
set_option maxHeartbeats 2000000 in
theorem lq_X9_learns : fm_V "MicRowLaw" 186 yX9_learns 0 := ⟨Or.inl (fm_wd 798 (by decide +kernel) (by decide +kernel)), fm_wd 799 (by decide +kernel) (by decide +kernel), fm_wd 800 (by decide +kernel) (by decide +kernel), fm_wd 81 (by decide +kernel) (by decide +kernel), ⟨by decide, by decide, by decide +kernel⟩⟩
theorem ln_X9_learns : Cond.methodLink "MicRowLaw" 186 yX9_learns ∈ fm_TT := fm_wd 798 (by decide +kernel) (by decide +kernel)
theorem lk_X9_learns : Cond.code yX9_learns cX9_learns 1 (some .int) ∈ fm_TT := fm_wd 801 (by decide +kernel) (by decide +kernel)
theorem lq_X10_learns : fm_V "MicRowLaw" 189 yX10_learns 0 := ⟨Or.inl (fm_wd 1565 (by decide +kernel) (by decide +kernel)), fm_wd 1566 (by decide +kernel) (by decide +kernel), fm_wd 1567 (by decide +kernel) (by decide +kernel), fm_wd 91 (by decide +kernel) (by decide +kernel), ⟨by decide, by decide, by decide +kernel⟩⟩
theorem ln_X10_learns : Cond.methodLink "MicRowLaw" 189 yX10_learns ∈ fm_TT := fm_wd 1565 (by decide +kernel) (by decide +kernel)
theorem lk_X10_learns : Cond.code yX10_learns cX10_learns 2 (some .int) ∈ fm_TT := fm_wd 1568 (by decide +kernel) (by decide +kernel)
theorem lw_case_learns (C : fm_LC G ad1 ad2 qo p s m meth c b L xs) (hfl : l.stackTraces = false) (hcs : cells + 1 ≤ room_1.cells ∧ slots + 6 ≤ room_1.slots) (E : fm_LW G ad1 ad2 qo M1 M2 f s H locs) (hl : lv_has ls 8 [(0, .ref b), (1, .ref (ad1 0)), (2, .ref (ad2 0)), (3, .ref qo), (4, .int i)]) (h1 : fm_in (i + 1) L = true) (h2 : fm_in (i + 2) L = true) (h3 : fm_in (i + 3) L = true) (h4 : fm_in (i + 4) L = true) (hn : n < 512) (hR : R n M1 M2) (hc : cp_learns N R) (kk : fm_KK p l e s m below meth c cells slots Q qo b n G ad1 ad2 i R) : W p l e room_1 s m #[Value.ref b] below meth c H locs cells slots Q (F0 m 1532 ls []) := by
  obtain ⟨hc1, hc2⟩ := hcs
  have hc0 : cells ≤ room_1.cells ∧ slots ≤ room_1.slots := ⟨by omega, by omega⟩
  obtain ⟨r, M1', M2', hf1, hf2, hR'⟩ := hc n M1 M2  hn hR
  refine lv_aload_n C.1.1 C.1.2.1 dL_law_1532 rfl (lv_at hl 1 rfl) ?_
  refine fm_lcallC C E [] [] lq_X9_learns ln_X9_learns lk_X9_learns (c_MicRow_learns l _ N _ _ _ hf1) rfl rfl hl.1 (by simp) ⟨⟨rfl, rfl⟩, Nat.le_of_ble_eq_true rfl, Nat.le_of_ble_eq_true rfl⟩ hc0 dL_law_1533 rfl (fun H locs E => ?_)
  refine W.eq (g2 := F0 m 1536 ls [.int r]) rfl ?_
  refine lv_aload_n C.1.1 C.1.2.1 dL_law_1536 rfl (lv_at hl 2 rfl) ?_
  refine fm_lcallM C E [] [.int r] lq_X10_learns ln_X10_learns lk_X10_learns (c_Model_learns l _ N _ _ _ hf2) rfl rfl hl.1 (by simp [Value.category]) ⟨⟨rfl, rfl⟩, Nat.le_of_ble_eq_true rfl, Nat.le_of_ble_eq_true rfl⟩ hc0 dL_law_1537 rfl (fun H locs E => ?_)
  refine W.eq (g2 := F0 m 1540 ls [.int r, .int r]) rfl ?_
  refine lv_icmp_eq (tgt := 1837) C.1.1 C.1.2.1 dL_law_1540 (by decide) (fun _ => ?_) (fun h => absurd rfl h)
  exact W.widen (Nat.le_succ _) (Nat.le_add_right _ 6) (kk M1' M2' f H locs ls hR' E hl)
end LWC
