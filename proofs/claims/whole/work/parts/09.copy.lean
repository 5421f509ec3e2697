theorem fm_cf_s {N : Nat} {M : fm_M} {k o : Nat} {M' : fm_M} (h : pScene_copyFrom N M k o = some M') : fm_sc k = true := (fm_rq_s h).1
theorem fm_enterF {l : Launch} {y : MethodName} {cc : ByteArray} {maxL : Nat} {ret : Option FieldType} {rm : Room} {SH : List fm_Sh} {G : fm_G} {av : List Value} {M : fm_M} {o : Option Value} {M' : fm_M} (hy : plainFor y = true) (hlen : (lg_sl av).length ≤ maxL)
    (body : ∀ (p : Program) (e : Env) (s : State) (m : MethodId) (args : Array Value) (below : List Frame) (meth : Method) (c : Code) (ls : Array Slot), fm_Cx SH G p s m args meth c cc maxL y.cls ret → fm_Wd SH G M s s.heap [] → lv_has ls maxL (lv_args 0 av) →
      W p l e rm s m args below meth c s.heap [] 0 0 (MQ below (fm_Q o SH G M' (fm_A SH G s.heap.size)) args s 0 0 (fm_A SH G s.heap.size)) (F0 m 0 ls [])) : fm_Met l y cc maxL ret rm SH G av M o M' := by
  intro sz
  refine va_MetF (cc := cc) (maxL := maxL) (ret := ret) hy rfl ?_
  intro p e s m args below meth c s₁ B hml hv
  obtain ⟨rfl, hsz, hP, hD0, hg⟩ := hv
  subst hsz
  have hts := atoms_spec (ws := .code y cc maxL ret :: fm_TT) B.pre
  have hown : s.vm.findClass y.cls = some m.cls := findClass_of_methodNamed B.named
  have hl := lv_entry av (n := maxL) hlen
  rw [lg_entry_eq]
  exact body p e s m _ below meth c _ ⟨B.exec, B.bytes, hml, hown, fun w hw => hts w (List.mem_cons_of_mem _ hw), B.returns, B.notSynchronized, hg⟩ ⟨hP, fm_D_any hD0 (fun k hk => Or.inl ⟨k, hk, rfl⟩), va_S.rf⟩ hl
theorem fm_rt1 {α : Type} {a r : α} (h : some a = some r) : r = a := (Option.some.inj h).symm
theorem fm_rt2 {α β : Type} {a r : α} {b t : β} (h : some (a, b) = some (r, t)) : r = a ∧ t = b := ⟨(Prod.mk.inj (Option.some.inj h)).1.symm, (Prod.mk.inj (Option.some.inj h)).2.symm⟩
/-! texts: an index is checked -/
theorem dJ3_checkIndex_8e157_0 : decode cJ3_checkIndex_8e157 0 = .ok (.iload_n 0, 1) := by decide +kernel
theorem dJ3_checkIndex_8e157_1 : decode cJ3_checkIndex_8e157 1 = .ok (.ifCond .lt 8, 3) := by decide +kernel
theorem dJ3_checkIndex_8e157_4 : decode cJ3_checkIndex_8e157 4 = .ok (.iload_n 0, 1) := by decide +kernel
theorem dJ3_checkIndex_8e157_5 : decode cJ3_checkIndex_8e157 5 = .ok (.iload_n 1, 1) := by decide +kernel
theorem dJ3_checkIndex_8e157_6 : decode cJ3_checkIndex_8e157 6 = .ok (.if_icmp .lt 10, 3) := by decide +kernel
theorem dJ3_checkIndex_8e157_9 : decode cJ3_checkIndex_8e157 9 = .ok (.aload_n 2, 1) := by decide +kernel
theorem dJ3_checkIndex_8e157_10 : decode cJ3_checkIndex_8e157 10 = .ok (.iload_n 0, 1) := by decide +kernel
theorem dJ3_checkIndex_8e157_11 : decode cJ3_checkIndex_8e157 11 = .ok (.iload_n 1, 1) := by decide +kernel
theorem dJ3_checkIndex_8e157_12 : decode cJ3_checkIndex_8e157 12 = .ok (.invokestatic 95, 3) := by decide +kernel
theorem dJ3_checkIndex_8e157_15 : decode cJ3_checkIndex_8e157 15 = .ok (.athrow, 1) := by decide +kernel
theorem dJ3_checkIndex_8e157_16 : decode cJ3_checkIndex_8e157 16 = .ok (.iload_n 0, 1) := by decide +kernel
theorem dJ3_checkIndex_8e157_17 : decode cJ3_checkIndex_8e157 17 = .ok (.ireturn, 1) := by decide +kernel
theorem dJ0_checkIndex_df160_0 : decode cJ0_checkIndex_df160 0 = .ok (.iload_n 0, 1) := by decide +kernel
theorem dJ0_checkIndex_df160_1 : decode cJ0_checkIndex_df160 1 = .ok (.iload_n 1, 1) := by decide +kernel
theorem dJ0_checkIndex_df160_2 : decode cJ0_checkIndex_df160 2 = .ok (.getstatic 1053, 3) := by decide +kernel
theorem dJ0_checkIndex_df160_5 : decode cJ0_checkIndex_df160 5 = .ok (.invokestatic 1059, 3) := by decide +kernel
theorem dJ0_checkIndex_df160_8 : decode cJ0_checkIndex_df160 8 = .ok (.pop, 1) := by decide +kernel
theorem dJ0_checkIndex_df160_9 : decode cJ0_checkIndex_df160 9 = .ok (.return_, 1) := by decide +kernel
set_option maxHeartbeats 4000000 in
theorem c_Pre_checkIndex (l : Launch) (SH : List fm_Sh) (G : fm_G) (M : fm_M) (v0 v1 : Int32) (o : Option Nat) (h0 : ¬ v0 < 0) (h1 : v0 < v1) : fm_Met l yJ3_checkIndex_8e157 cJ3_checkIndex_8e157 3 (some .int) { frames := 0, cells := 0, slots := 0, locals := 0 } SH G [.int v0, .int v1, va_rf o] M (some (.int v0)) M := by
  have hl0 : (lg_sl [.int v0, .int v1, va_rf o]).length ≤ 3 := by cases o <;> exact Nat.le_of_ble_eq_true rfl
  refine fm_enterF (by decide +kernel) hl0 ?_
  intro p e s m args below meth c ls C E hl
  have hl : lv_has ls 3 [(0, .int v0), (1, .int v1)] := by
    cases o
    · exact lv_sub (l := [(0, .int v0), (1, .int v1), (2, .null)]) hl [0, 1] rfl
    · exact lv_sub (l := [(0, .int v0), (1, .int v1), (2, .ref _)]) hl [0, 1] rfl
  refine lv_iload_n C.1 C.2.1 dJ3_checkIndex_8e157_0 rfl (lv_at hl 0 rfl) ?_
  refine lv_if_lt (tgt := 9) C.1 C.2.1 dJ3_checkIndex_8e157_1 (by decide) (fun hc => absurd hc h0) (fun _ => ?_)
  refine lv_iload_n C.1 C.2.1 dJ3_checkIndex_8e157_4 rfl (lv_at hl 0 rfl) ?_
  refine lv_iload_n C.1 C.2.1 dJ3_checkIndex_8e157_5 rfl (lv_at hl 1 rfl) ?_
  refine lv_icmp_lt (tgt := 16) C.1 C.2.1 dJ3_checkIndex_8e157_6 (by decide) (fun _ => ?_) (fun hc => absurd h1 hc)
  refine lv_iload_n C.1 C.2.1 dJ3_checkIndex_8e157_16 rfl (lv_at hl 0 rfl) ?_
  exact fm_iret C E rfl rfl dJ3_checkIndex_8e157_17
theorem wk_J3_checkIndex_8e157 : Cond.code yJ3_checkIndex_8e157 cJ3_checkIndex_8e157 3 (some .int) ∈ fm_TT := fm_wd 889 (by decide +kernel) (by decide +kernel)
theorem lm_J0_1059 : fm_S "java/lang/String" 1059 yJ3_checkIndex_8e157 3 := ⟨Or.inl (fm_wd 887 (by decide +kernel) (by decide +kernel)), fm_wd 888 (by decide +kernel) (by decide +kernel), fm_wd 102 (by decide +kernel) (by decide +kernel), ⟨by decide, by decide, by decide +kernel⟩⟩
theorem wf_sio : Cond.fieldLink "java/lang/String" 1053 "jdk/internal/util/Preconditions" "SIOOBE_FORMATTER" "Ljava/util/function/BiFunction;" ∈ fm_TT := fm_wd 885 (by decide +kernel) (by decide +kernel)
set_option maxHeartbeats 4000000 in
theorem c_String_checkIndex (l : Launch) (SH : List fm_Sh) (G : fm_G) (M : fm_M) (v0 v1 : Int32) (hf : pString_checkIndex M v0 v1 = some ()) : fm_Met l yJ0_checkIndex_df160 cJ0_checkIndex_df160 2 none { frames := 1, cells := 0, slots := 0, locals := 22 } SH G [.int v0, .int v1] M none M := by
  refine fm_enterF (by decide +kernel) (Nat.le_of_ble_eq_true rfl) ?_
  intro p e s m args below meth c ls C E hl
  have hl : lv_has ls 2 [(0, .int v0), (1, .int v1)] := hl
  unfold pString_checkIndex at hf
  have hn : ¬ v0 < 0 := fun q => by rw [if_pos q] at hf; cases hf
  have hf := fm_in' hf hn
  have hy : v0 < v1 := by
    by_cases q : v0 < v1
    · exact q
    · have := fm_in' hf q; cases this
  refine lv_iload_n C.1 C.2.1 dJ0_checkIndex_df160_0 rfl (lv_at hl 0 rfl) ?_
  refine lv_iload_n C.1 C.2.1 dJ0_checkIndex_df160_1 rfl (lv_at hl 1 rfl) ?_
  refine fm_gtq C E wf_sio dJ0_checkIndex_df160_2 (fun o => ?_)
  refine fm_callS C E [.int v0, .int v1, va_rf o] [] lm_J0_1059 wk_J3_checkIndex_8e157 (c_Pre_checkIndex l SH G M v0 v1 o hn hy) rfl hl.1 (by simp) ⟨⟨rfl, rfl⟩, by decide, by decide⟩ ⟨by decide, by decide⟩ dJ0_checkIndex_df160_5 rfl (fun H locs E => ?_)
  refine W.eq (g2 := F0 m 8 ls [.int v0]) rfl ?_
  refine lv_pop C.1 C.2.1 dJ0_checkIndex_df160_8 rfl ?_
  exact fm_vret C E rfl dJ0_checkIndex_df160_9
theorem fm_ldsw {p : Program} {l : Launch} {e : Env} {R : Room} {s : State} {m : MethodId} {args : Array Value} {below : List Frame} {meth : Method} {c : Code} {H : Heap} {locs : List Loc} {cells slots : Nat} {Q : State → Prop} {cc : ByteArray} {pc nL : Nat} {ls : Array Slot} {rest : List Value} {own : String} {ret : Option FieldType} {SH : List fm_Sh} {G : fm_G}
    (C : fm_Cx SH G p s m args meth c cc nL own ret) {i index : Nat} {tx : String} (hs : fm_Ss[i]? = some (own, index, tx)) (hdg : decode cc pc = .ok (.ldc_w index, 3))
    (kk : W p l e R s m args below meth c H locs cells slots Q (F0 m (pc + 3) ls (.ref (G.2.2.2.1 i) :: rest))) : W p l e R s m args below meth c H locs cells slots Q (F0 m pc ls rest) := by
  intro T hT X
  obtain ⟨t, a1, b1⟩ := kk T hT X
  have hZ := C.2.2.2.2.2.2.2.2.2.2.2.1 i _ hs
  exact ⟨t, X.ldcStringW C.1 C.2.2.2.1 (text := tx) (a := G.2.2.2.1 i) hZ.1 hZ.2 (g := F0 m pc ls rest) rfl (by rw [C.2.1]; exact hdg) t a1, b1⟩
