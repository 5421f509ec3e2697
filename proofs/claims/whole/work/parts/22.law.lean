/-! ===== the law: its loop, its start ===== -/
theorem dL_law_0 : decode cL_law 0 = .ok (.new 8, 3) := by decide +kernel
theorem dL_law_3 : decode cL_law 3 = .ok (.dup, 1) := by decide +kernel
theorem dL_law_4 : decode cL_law 4 = .ok (.invokespecial 38, 3) := by decide +kernel
theorem dL_law_7 : decode cL_law 7 = .ok (.astore_n 1, 1) := by decide +kernel
theorem dL_law_8 : decode cL_law 8 = .ok (.new 39, 3) := by decide +kernel
theorem dL_law_11 : decode cL_law 11 = .ok (.dup, 1) := by decide +kernel
theorem dL_law_12 : decode cL_law 12 = .ok (.invokespecial 41, 3) := by decide +kernel
theorem dL_law_15 : decode cL_law 15 = .ok (.astore_n 2, 1) := by decide +kernel
theorem dL_law_16 : decode cL_law 16 = .ok (.iconst 1, 1) := by decide +kernel
theorem dL_law_17 : decode cL_law 17 = .ok (.newarray .long, 2) := by decide +kernel
theorem dL_law_19 : decode cL_law 19 = .ok (.astore_n 3, 1) := by decide +kernel
theorem dL_law_20 : decode cL_law 20 = .ok (.iconst 0, 1) := by decide +kernel
theorem dL_law_21 : decode cL_law 21 = .ok (.istore 4, 2) := by decide +kernel
theorem dL_law_23 : decode cL_law 23 = .ok (.iload 4, 2) := by decide +kernel
theorem dL_law_25 : decode cL_law 25 = .ok (.aload_n 0, 1) := by decide +kernel
theorem dL_law_26 : decode cL_law 26 = .ok (.arraylength, 1) := by decide +kernel
theorem dL_law_27 : decode cL_law 27 = .ok (.iconst 5, 1) := by decide +kernel
theorem dL_law_28 : decode cL_law 28 = .ok (.isub, 1) := by decide +kernel
theorem dL_law_29 : decode cL_law 29 = .ok (.if_icmp .gt 1814, 3) := by decide +kernel
theorem dL_law_32 : decode cL_law 32 = .ok (.aload_n 0, 1) := by decide +kernel
theorem dL_law_33 : decode cL_law 33 = .ok (.iload 4, 2) := by decide +kernel
theorem dL_law_35 : decode cL_law 35 = .ok (.iaload, 1) := by decide +kernel
theorem dL_law_36 : decode cL_law 36 = .ok (.bipush 63, 2) := by decide +kernel
theorem dL_law_38 : decode cL_law 38 = .ok (.iand, 1) := by decide +kernel
theorem dL_law_39 : decode cL_law 39 = .ok (.tableswitch 1798 0 45 #[197, 222, 247, 260, 273, 334, 402, 470, 538, 618, 686, 766, 834, 859, 884, 909, 934, 947, 996, 1009, 1022, 1047, 1072, 1097, 1122, 1159, 1184, 1221, 1246, 1283, 1320, 1345, 1370, 1419, 1456, 1493, 1506, 1531, 1580, 1605, 1618, 1631, 1668, 1693, 1718, 1743], 197) := by decide +kernel
theorem dL_law_1837 : decode cL_law 1837 = .ok (.iinc 4 5, 3) := by decide +kernel
theorem dL_law_1840 : decode cL_law 1840 = .ok (.goto (-1817), 3) := by decide +kernel
theorem dL_law_1843 : decode cL_law 1843 = .ok (.iconst 1, 1) := by decide +kernel
theorem dL_law_1844 : decode cL_law 1844 = .ok (.ireturn, 1) := by decide +kernel
def R_law : String := "MicRowLaw"
def lw_P (b : Addr) (xs : List Int32) (args : Array Value) (s : State) : Prop := args = #[.ref b] ∧ s.IntsAt b xs ∧ xs.length ≤ 2560 ∧ (Jvm.Cond.and given_1 narrow_1).before args s = true
def lw_Q (_ : Array Value) (s : State) (o : Outcome) (t : State) : Prop := o = .returned (some (.int 1)) ∧ Framed s o t [] 601024 7293034
def lw_Z (below : List Frame) (a : Array Value) (s : State) : State → Prop := fun t => ∃ o, t.status = .running ∧ Ended t below o ∧ lw_Q a s o t
/-- the law's own end, with 1 on the stack, nothing written that was there before, its room as the claim has it -/
theorem lw_ret {p : Program} {l : Launch} {e : Env} {s : State} {m : MethodId} {below : List Frame} {meth : Method} {c : Code} {b : Nat} (hx : p.tables.exec = Jvm.exec) (hb : c.code = code) (hr : meth.sig.returnType = ret) (hlocks : meth.locks = false) {pc : Nat} {H : Heap} {ls : Array Slot} (hdg : decode code pc = .ok (.ireturn, 1)) : W p l e room_1 s m #[Value.ref b] below meth c H [] 601024 7293034 (lw_Z below #[Value.ref b] s) (F0 m pc ls [.int 1]) := by
  intro T hT X
  obtain ⟨fs, hret, hrun, hended, hW, hframe⟩ := X.leave (v := some (.int 1)) (hlocks := hlocks) (fun h => by rw [hr] at h; cases h)
  have hmeth' : T.vm.method? m = some meth := X.method'
  refine ⟨T.setFrames fs, ?_, .returned (some (.int 1)), hrun, hended, rfl, ⟨_, rfl⟩, hW, hframe⟩
  jvm_step X.here [X.here.top, hx, hb, hdg, hmeth', hr, ret, narrow_b1]
  (try refine ⟨rfl, ?_⟩); (try refine ⟨rfl, ?_⟩)
  first | (intro acts; rw [hret _ acts rfl rfl rfl]) | rw [hret _ _ rfl rfl rfl]
  exact Steps.refl _
/-- what holds at the law's entry: the machine, the code, the tables' words (any of lw_tbl by 'hts w (by decide +kernel)'), the script of L ints xs at the cell b, what the Statement gives of the start (any of its parts by flat_of_before) -/
def lw_At (p : Program) (s : State) (m : MethodId) (meth : Method) (c : Code) (b L : Nat) (xs : Nat → Int32) : Prop :=
  p.tables.exec = Jvm.exec ∧ c.code = code ∧ meth.sig.returnType = ret ∧ c.maxLocals = 8 ∧ s.vm.findClass R_law = some m.cls ∧ (∀ w ∈ lw_tbl, w.before #[Value.ref b] s = true) ∧ va_X b L xs s s.heap ∧ b < s.heap.size ∧ meth.locks = false ∧ (Jvm.Cond.and given_1 narrow_1).before #[Value.ref b] s = true
theorem fm_in_nat {x L : Nat} (hx : x < L) (hL : L ≤ 2560) : fm_in (Int32.ofNat x) L = true := by
  have h1 : x < 2 ^ 31 := by omega
  have e1 : (Int32.ofNat x).toNatClampNeg = x := Int32.toNatClampNeg_ofNat_of_lt h1
  have e2 : ¬ Int32.ofNat x < 0 := by
    rw [Int32.lt_iff_toInt_lt, Int32.toInt_ofNat_of_lt h1]
    show ¬ ((x : Int) < 0)
    omega
  unfold fm_in
  rw [e1]
  simp [e2, hx]
theorem fm_head {n L : Nat} (hL : L ≤ 2560) (hn : n ≤ 512) (h : ¬ Int32.ofNat (5 * n) > Int32.ofNat L - 5) : 5 * n + 5 ≤ L := by
  have e1 : (Int32.ofNat L).toInt = L := Int32.toInt_ofNat_of_lt (by omega)
  have e2 : (Int32.ofNat (5 * n)).toInt = (5 * n : Nat) := Int32.toInt_ofNat_of_lt (by omega)
  have e3 : (5 : Int32).toInt = 5 := rfl
  have h1 : ¬ (Int32.ofNat L - 5 < Int32.ofNat (5 * n)) := h
  rw [Int32.lt_iff_toInt_lt, Int32.toInt_sub, e1, e2, e3] at h1
  rw [Int.bmod_eq_of_le (by omega) (by omega)] at h1
  omega
section LWL
variable {p : Program} {e : Env} {s : State} {m : MethodId} {below : List Frame} {meth : Method} {c : Code}
variable {qo b L N : Nat} {xs : Nat → Int32} {G : fm_G} {ad1 ad2 : Nat → Nat} {R : Nat → fm_M → fm_M → Prop}
set_option maxHeartbeats 8000000 in
theorem lw_body (l : Launch) (hfl : l.stackTraces = false) (hc : cp_all N R) (C : fm_LC G ad1 ad2 qo p s m meth c b L xs) {n : Nat} {M1 M2 : fm_M} {f : Nat → Int64} {H : Heap} {locs : List Loc} {ls : Array Slot} {cells slots : Nat} {Q : State → Prop} {i : Int32} (hcs : cells + 1 ≤ room_1.cells ∧ slots + 6 ≤ room_1.slots) (E : fm_LW G ad1 ad2 qo M1 M2 f s H locs) (hl : lv_has ls 8 [(0, .ref b), (1, .ref (ad1 0)), (2, .ref (ad2 0)), (3, .ref qo), (4, .int i)]) (hR1 : R (n + 1) M1 M2) (h0 : fm_in i L = true) (h1 : fm_in (i + 1) L = true) (h2 : fm_in (i + 2) L = true) (h3 : fm_in (i + 3) L = true) (h4 : fm_in (i + 4) L = true) (hn : n < 512) (hR : R n M1 M2) (kk : fm_KK p l e s m below meth c cells slots Q qo b n G ad1 ad2 i R) : W p l e room_1 s m #[Value.ref b] below meth c H locs cells slots Q (F0 m 32 ls []) := by
  obtain ⟨k_sign, k_end, k_mics, k_sources, k_sheet, k_mic, k_source, k_sample, k_turned, k_beam, k_blocked, k_clean, k_level, k_beams, k_weights, k_loudest, k_pattern, k_agree, k_from, k_doubtful, k_tracks, k_strongest, k_faults, k_clipped, k_without, k_worst, k_best, k_masks, k_nulled, k_behind, k_later, k_settles, k_sets, k_holds, k_moves, k_learns, k_sorts, k_aims, k_goes, k_day, k_undo, k_years, k_keep, k_again, k_count, k_row⟩ := hc
  refine lv_aload_n C.1.1 C.1.2.1 dL_law_32 rfl (lv_at hl 0 rfl) ?_
  refine lv_iload C.1.1 C.1.2.1 dL_law_33 (lv_at hl 4 rfl) ?_
  refine fm_lsld C E h0 dL_law_35 ?_
  refine lv_bipush (v := 63) C.1.1 C.1.2.1 dL_law_36 (by decide) ?_
  refine lv_iand C.1.1 C.1.2.1 dL_law_38 ?_
  generalize xs i.toNatClampNeg &&& 63 = x
  by_cases e0 : x = 0
  · subst e0
    exact lv_tableIn (tgt := 236) (off := 197) C.1.1 C.1.2.1 dL_law_39 (by decide) (by decide) (by decide) (by decide) (lw_case_sign C hfl hcs E hl h1 h2 h3 h4 hn hR k_sign kk)
  by_cases e1 : x = 1
  · subst e1
    exact lv_tableIn (tgt := 261) (off := 222) C.1.1 C.1.2.1 dL_law_39 (by decide) (by decide) (by decide) (by decide) (lw_case_end C hfl hcs E hl h1 h2 h3 h4 hn hR k_end kk)
  by_cases e2 : x = 2
  · subst e2
    exact lv_tableIn (tgt := 286) (off := 247) C.1.1 C.1.2.1 dL_law_39 (by decide) (by decide) (by decide) (by decide) (lw_case_mics C hfl hcs E hl h1 h2 h3 h4 hn hR k_mics kk)
  by_cases e3 : x = 3
  · subst e3
    exact lv_tableIn (tgt := 299) (off := 260) C.1.1 C.1.2.1 dL_law_39 (by decide) (by decide) (by decide) (by decide) (lw_case_sources C hfl hcs E hl h1 h2 h3 h4 hn hR k_sources kk)
  by_cases e4 : x = 4
  · subst e4
    exact lv_tableIn (tgt := 312) (off := 273) C.1.1 C.1.2.1 dL_law_39 (by decide) (by decide) (by decide) (by decide) (lw_case_sheet C hfl hcs E hl h1 h2 h3 h4 hn hR k_sheet kk)
  by_cases e5 : x = 5
  · subst e5
    exact lv_tableIn (tgt := 373) (off := 334) C.1.1 C.1.2.1 dL_law_39 (by decide) (by decide) (by decide) (by decide) (lw_case_mic C hfl hcs E hl h1 h2 h3 h4 hn hR k_mic kk)
  by_cases e6 : x = 6
  · subst e6
    exact lv_tableIn (tgt := 441) (off := 402) C.1.1 C.1.2.1 dL_law_39 (by decide) (by decide) (by decide) (by decide) (lw_case_source C hfl hcs E hl h1 h2 h3 h4 hn hR k_source kk)
  by_cases e7 : x = 7
  · subst e7
    exact lv_tableIn (tgt := 509) (off := 470) C.1.1 C.1.2.1 dL_law_39 (by decide) (by decide) (by decide) (by decide) (lw_case_sample C hfl hcs E hl h1 h2 h3 h4 hn hR k_sample kk)
  by_cases e8 : x = 8
  · subst e8
    exact lv_tableIn (tgt := 577) (off := 538) C.1.1 C.1.2.1 dL_law_39 (by decide) (by decide) (by decide) (by decide) (lw_case_turned C hfl hcs E hl h1 h2 h3 h4 hn hR k_turned kk)
  by_cases e9 : x = 9
  · subst e9
    exact lv_tableIn (tgt := 657) (off := 618) C.1.1 C.1.2.1 dL_law_39 (by decide) (by decide) (by decide) (by decide) (lw_case_beam C hfl hcs E hl h1 h2 h3 h4 hn hR k_beam kk)
  by_cases e10 : x = 10
  · subst e10
    exact lv_tableIn (tgt := 725) (off := 686) C.1.1 C.1.2.1 dL_law_39 (by decide) (by decide) (by decide) (by decide) (lw_case_blocked C hfl hcs E hl h1 h2 h3 h4 hn hR k_blocked kk)
  by_cases e11 : x = 11
  · subst e11
    exact lv_tableIn (tgt := 805) (off := 766) C.1.1 C.1.2.1 dL_law_39 (by decide) (by decide) (by decide) (by decide) (lw_case_clean C hfl hcs E hl h1 h2 h3 h4 hn hR k_clean kk)
  by_cases e12 : x = 12
  · subst e12
    exact lv_tableIn (tgt := 873) (off := 834) C.1.1 C.1.2.1 dL_law_39 (by decide) (by decide) (by decide) (by decide) (lw_case_level C hfl hcs E hl h1 h2 h3 h4 hn hR k_level kk)
  by_cases e13 : x = 13
  · subst e13
    exact lv_tableIn (tgt := 898) (off := 859) C.1.1 C.1.2.1 dL_law_39 (by decide) (by decide) (by decide) (by decide) (lw_case_beams C hfl hcs E hl h1 h2 h3 h4 hn hR k_beams kk)
  by_cases e14 : x = 14
  · subst e14
    exact lv_tableIn (tgt := 923) (off := 884) C.1.1 C.1.2.1 dL_law_39 (by decide) (by decide) (by decide) (by decide) (lw_case_weights C hfl hcs E hl h1 h2 h3 h4 hn hR k_weights kk)
  by_cases e15 : x = 15
  · subst e15
    exact lv_tableIn (tgt := 948) (off := 909) C.1.1 C.1.2.1 dL_law_39 (by decide) (by decide) (by decide) (by decide) (lw_case_loudest C hfl hcs E hl h1 h2 h3 h4 hn hR k_loudest kk)
  by_cases e16 : x = 16
  · subst e16
    exact lv_tableIn (tgt := 973) (off := 934) C.1.1 C.1.2.1 dL_law_39 (by decide) (by decide) (by decide) (by decide) (lw_case_pattern C hfl hcs E hl h1 h2 h3 h4 hn hR k_pattern kk)
  by_cases e17 : x = 17
  · subst e17
    exact lv_tableIn (tgt := 986) (off := 947) C.1.1 C.1.2.1 dL_law_39 (by decide) (by decide) (by decide) (by decide) (lw_case_agree C hfl hcs E hl h1 h2 h3 h4 hn hR k_agree kk)
  by_cases e18 : x = 18
  · subst e18
    exact lv_tableIn (tgt := 1035) (off := 996) C.1.1 C.1.2.1 dL_law_39 (by decide) (by decide) (by decide) (by decide) (lw_case_from C hfl hcs E hl h1 h2 h3 h4 hn hR k_from kk)
  by_cases e19 : x = 19
  · subst e19
    exact lv_tableIn (tgt := 1048) (off := 1009) C.1.1 C.1.2.1 dL_law_39 (by decide) (by decide) (by decide) (by decide) (lw_case_doubtful C hfl hcs E hl h1 h2 h3 h4 hn hR k_doubtful kk)
  by_cases e20 : x = 20
  · subst e20
    exact lv_tableIn (tgt := 1061) (off := 1022) C.1.1 C.1.2.1 dL_law_39 (by decide) (by decide) (by decide) (by decide) (lw_case_tracks C hfl hcs E hl h1 h2 h3 h4 hn hR k_tracks kk)
  by_cases e21 : x = 21
  · subst e21
    exact lv_tableIn (tgt := 1086) (off := 1047) C.1.1 C.1.2.1 dL_law_39 (by decide) (by decide) (by decide) (by decide) (lw_case_strongest C hfl hcs E hl h1 h2 h3 h4 hn hR k_strongest kk)
  by_cases e22 : x = 22
  · subst e22
    exact lv_tableIn (tgt := 1111) (off := 1072) C.1.1 C.1.2.1 dL_law_39 (by decide) (by decide) (by decide) (by decide) (lw_case_faults C hfl hcs E hl h1 h2 h3 h4 hn hR k_faults kk)
  by_cases e23 : x = 23
  · subst e23
    exact lv_tableIn (tgt := 1136) (off := 1097) C.1.1 C.1.2.1 dL_law_39 (by decide) (by decide) (by decide) (by decide) (lw_case_clipped C hfl hcs E hl h1 h2 h3 h4 hn hR k_clipped kk)
  by_cases e24 : x = 24
  · subst e24
    exact lv_tableIn (tgt := 1161) (off := 1122) C.1.1 C.1.2.1 dL_law_39 (by decide) (by decide) (by decide) (by decide) (lw_case_without C hfl hcs E hl h1 h2 h3 h4 hn hR k_without kk)
  by_cases e25 : x = 25
  · subst e25
    exact lv_tableIn (tgt := 1198) (off := 1159) C.1.1 C.1.2.1 dL_law_39 (by decide) (by decide) (by decide) (by decide) (lw_case_worst C hfl hcs E hl h1 h2 h3 h4 hn hR k_worst kk)
  by_cases e26 : x = 26
  · subst e26
    exact lv_tableIn (tgt := 1223) (off := 1184) C.1.1 C.1.2.1 dL_law_39 (by decide) (by decide) (by decide) (by decide) (lw_case_best C hfl hcs E hl h1 h2 h3 h4 hn hR k_best kk)
  by_cases e27 : x = 27
  · subst e27
    exact lv_tableIn (tgt := 1260) (off := 1221) C.1.1 C.1.2.1 dL_law_39 (by decide) (by decide) (by decide) (by decide) (lw_case_masks C hfl hcs E hl h1 h2 h3 h4 hn hR k_masks kk)
  by_cases e28 : x = 28
  · subst e28
    exact lv_tableIn (tgt := 1285) (off := 1246) C.1.1 C.1.2.1 dL_law_39 (by decide) (by decide) (by decide) (by decide) (lw_case_nulled C hfl hcs E hl h1 h2 h3 h4 hn hR k_nulled kk)
  by_cases e29 : x = 29
  · subst e29
    exact lv_tableIn (tgt := 1322) (off := 1283) C.1.1 C.1.2.1 dL_law_39 (by decide) (by decide) (by decide) (by decide) (lw_case_behind C hfl hcs E hl h1 h2 h3 h4 hn hR k_behind kk)
  by_cases e30 : x = 30
  · subst e30
    exact lv_tableIn (tgt := 1359) (off := 1320) C.1.1 C.1.2.1 dL_law_39 (by decide) (by decide) (by decide) (by decide) (lw_case_later C hfl hcs E hl h1 h2 h3 h4 hn hR k_later kk)
  by_cases e31 : x = 31
  · subst e31
    exact lv_tableIn (tgt := 1384) (off := 1345) C.1.1 C.1.2.1 dL_law_39 (by decide) (by decide) (by decide) (by decide) (lw_case_settles C hfl hcs E hl h1 h2 h3 h4 hn hR k_settles kk)
  by_cases e32 : x = 32
  · subst e32
    exact lv_tableIn (tgt := 1409) (off := 1370) C.1.1 C.1.2.1 dL_law_39 (by decide) (by decide) (by decide) (by decide) (lw_case_sets C hfl hcs E hl h1 h2 h3 h4 hn hR k_sets kk)
  by_cases e33 : x = 33
  · subst e33
    exact lv_tableIn (tgt := 1458) (off := 1419) C.1.1 C.1.2.1 dL_law_39 (by decide) (by decide) (by decide) (by decide) (lw_case_holds C hfl hcs E hl h1 h2 h3 h4 hn hR k_holds kk)
  by_cases e34 : x = 34
  · subst e34
    exact lv_tableIn (tgt := 1495) (off := 1456) C.1.1 C.1.2.1 dL_law_39 (by decide) (by decide) (by decide) (by decide) (lw_case_moves C hfl hcs E hl h1 h2 h3 h4 hn hR k_moves kk)
  by_cases e35 : x = 35
  · subst e35
    exact lv_tableIn (tgt := 1532) (off := 1493) C.1.1 C.1.2.1 dL_law_39 (by decide) (by decide) (by decide) (by decide) (lw_case_learns C hfl hcs E hl h1 h2 h3 h4 hn hR k_learns kk)
  by_cases e36 : x = 36
  · subst e36
    exact lv_tableIn (tgt := 1545) (off := 1506) C.1.1 C.1.2.1 dL_law_39 (by decide) (by decide) (by decide) (by decide) (lw_case_sorts C hfl hcs E hl h1 h2 h3 h4 hn hR k_sorts kk)
  by_cases e37 : x = 37
  · subst e37
    exact lv_tableIn (tgt := 1570) (off := 1531) C.1.1 C.1.2.1 dL_law_39 (by decide) (by decide) (by decide) (by decide) (lw_case_aims C hfl hcs E hl h1 h2 h3 h4 hn hR k_aims kk)
  by_cases e38 : x = 38
  · subst e38
    exact lv_tableIn (tgt := 1619) (off := 1580) C.1.1 C.1.2.1 dL_law_39 (by decide) (by decide) (by decide) (by decide) (lw_case_goes C hfl hcs E hl h1 h2 h3 h4 hn hR k_goes kk)
  by_cases e39 : x = 39
  · subst e39
    exact lv_tableIn (tgt := 1644) (off := 1605) C.1.1 C.1.2.1 dL_law_39 (by decide) (by decide) (by decide) (by decide) (lw_case_day C hfl hcs E hl h1 h2 h3 h4 hn hR k_day kk)
  by_cases e40 : x = 40
  · subst e40
    exact lv_tableIn (tgt := 1657) (off := 1618) C.1.1 C.1.2.1 dL_law_39 (by decide) (by decide) (by decide) (by decide) (lw_case_undo C hfl hcs E hl h1 h2 h3 h4 hn hR k_undo kk)
  by_cases e41 : x = 41
  · subst e41
    exact lv_tableIn (tgt := 1670) (off := 1631) C.1.1 C.1.2.1 dL_law_39 (by decide) (by decide) (by decide) (by decide) (lw_case_years C hfl hcs E hl h1 h2 h3 h4 hn hR k_years kk)
  by_cases e42 : x = 42
  · subst e42
    exact lv_tableIn (tgt := 1707) (off := 1668) C.1.1 C.1.2.1 dL_law_39 (by decide) (by decide) (by decide) (by decide) (lw_case_keep C hfl hcs E hl h1 h2 h3 h4 hn hR k_keep kk)
  by_cases e43 : x = 43
  · subst e43
    exact lv_tableIn (tgt := 1732) (off := 1693) C.1.1 C.1.2.1 dL_law_39 (by decide) (by decide) (by decide) (by decide) (lw_case_again C hfl hcs E hl h1 h2 h3 h4 hn hR k_again kk)
  by_cases e44 : x = 44
  · subst e44
    exact lv_tableIn (tgt := 1757) (off := 1718) C.1.1 C.1.2.1 dL_law_39 (by decide) (by decide) (by decide) (by decide) (lw_case_count C hfl hcs E hl h1 h2 h3 h4 hn hR k_count kk)
  by_cases e45 : x = 45
  · subst e45
    exact lv_tableIn (tgt := 1782) (off := 1743) C.1.1 C.1.2.1 dL_law_39 (by decide) (by decide) (by decide) (by decide) (lw_case_row C hfl hcs E hl h1 h2 h3 h4 hn hR k_row kk)
  have g0 : x.toInt ≠ 0 := fun h => e0 (Int32.toInt_inj.mp (h.trans rfl))
  have g1 : x.toInt ≠ 1 := fun h => e1 (Int32.toInt_inj.mp (h.trans rfl))
  have g2 : x.toInt ≠ 2 := fun h => e2 (Int32.toInt_inj.mp (h.trans rfl))
  have g3 : x.toInt ≠ 3 := fun h => e3 (Int32.toInt_inj.mp (h.trans rfl))
  have g4 : x.toInt ≠ 4 := fun h => e4 (Int32.toInt_inj.mp (h.trans rfl))
  have g5 : x.toInt ≠ 5 := fun h => e5 (Int32.toInt_inj.mp (h.trans rfl))
  have g6 : x.toInt ≠ 6 := fun h => e6 (Int32.toInt_inj.mp (h.trans rfl))
  have g7 : x.toInt ≠ 7 := fun h => e7 (Int32.toInt_inj.mp (h.trans rfl))
  have g8 : x.toInt ≠ 8 := fun h => e8 (Int32.toInt_inj.mp (h.trans rfl))
  have g9 : x.toInt ≠ 9 := fun h => e9 (Int32.toInt_inj.mp (h.trans rfl))
  have g10 : x.toInt ≠ 10 := fun h => e10 (Int32.toInt_inj.mp (h.trans rfl))
  have g11 : x.toInt ≠ 11 := fun h => e11 (Int32.toInt_inj.mp (h.trans rfl))
  have g12 : x.toInt ≠ 12 := fun h => e12 (Int32.toInt_inj.mp (h.trans rfl))
  have g13 : x.toInt ≠ 13 := fun h => e13 (Int32.toInt_inj.mp (h.trans rfl))
  have g14 : x.toInt ≠ 14 := fun h => e14 (Int32.toInt_inj.mp (h.trans rfl))
  have g15 : x.toInt ≠ 15 := fun h => e15 (Int32.toInt_inj.mp (h.trans rfl))
  have g16 : x.toInt ≠ 16 := fun h => e16 (Int32.toInt_inj.mp (h.trans rfl))
  have g17 : x.toInt ≠ 17 := fun h => e17 (Int32.toInt_inj.mp (h.trans rfl))
  have g18 : x.toInt ≠ 18 := fun h => e18 (Int32.toInt_inj.mp (h.trans rfl))
  have g19 : x.toInt ≠ 19 := fun h => e19 (Int32.toInt_inj.mp (h.trans rfl))
  have g20 : x.toInt ≠ 20 := fun h => e20 (Int32.toInt_inj.mp (h.trans rfl))
  have g21 : x.toInt ≠ 21 := fun h => e21 (Int32.toInt_inj.mp (h.trans rfl))
  have g22 : x.toInt ≠ 22 := fun h => e22 (Int32.toInt_inj.mp (h.trans rfl))
  have g23 : x.toInt ≠ 23 := fun h => e23 (Int32.toInt_inj.mp (h.trans rfl))
  have g24 : x.toInt ≠ 24 := fun h => e24 (Int32.toInt_inj.mp (h.trans rfl))
  have g25 : x.toInt ≠ 25 := fun h => e25 (Int32.toInt_inj.mp (h.trans rfl))
  have g26 : x.toInt ≠ 26 := fun h => e26 (Int32.toInt_inj.mp (h.trans rfl))
  have g27 : x.toInt ≠ 27 := fun h => e27 (Int32.toInt_inj.mp (h.trans rfl))
  have g28 : x.toInt ≠ 28 := fun h => e28 (Int32.toInt_inj.mp (h.trans rfl))
  have g29 : x.toInt ≠ 29 := fun h => e29 (Int32.toInt_inj.mp (h.trans rfl))
  have g30 : x.toInt ≠ 30 := fun h => e30 (Int32.toInt_inj.mp (h.trans rfl))
  have g31 : x.toInt ≠ 31 := fun h => e31 (Int32.toInt_inj.mp (h.trans rfl))
  have g32 : x.toInt ≠ 32 := fun h => e32 (Int32.toInt_inj.mp (h.trans rfl))
  have g33 : x.toInt ≠ 33 := fun h => e33 (Int32.toInt_inj.mp (h.trans rfl))
  have g34 : x.toInt ≠ 34 := fun h => e34 (Int32.toInt_inj.mp (h.trans rfl))
  have g35 : x.toInt ≠ 35 := fun h => e35 (Int32.toInt_inj.mp (h.trans rfl))
  have g36 : x.toInt ≠ 36 := fun h => e36 (Int32.toInt_inj.mp (h.trans rfl))
  have g37 : x.toInt ≠ 37 := fun h => e37 (Int32.toInt_inj.mp (h.trans rfl))
  have g38 : x.toInt ≠ 38 := fun h => e38 (Int32.toInt_inj.mp (h.trans rfl))
  have g39 : x.toInt ≠ 39 := fun h => e39 (Int32.toInt_inj.mp (h.trans rfl))
  have g40 : x.toInt ≠ 40 := fun h => e40 (Int32.toInt_inj.mp (h.trans rfl))
  have g41 : x.toInt ≠ 41 := fun h => e41 (Int32.toInt_inj.mp (h.trans rfl))
  have g42 : x.toInt ≠ 42 := fun h => e42 (Int32.toInt_inj.mp (h.trans rfl))
  have g43 : x.toInt ≠ 43 := fun h => e43 (Int32.toInt_inj.mp (h.trans rfl))
  have g44 : x.toInt ≠ 44 := fun h => e44 (Int32.toInt_inj.mp (h.trans rfl))
  have g45 : x.toInt ≠ 45 := fun h => e45 (Int32.toInt_inj.mp (h.trans rfl))
  refine lv_tableOut (tgt := 1837) C.1.1 C.1.2.1 dL_law_39 (by omega) (by decide) ?_
  exact W.widen (Nat.le_succ _) (Nat.le_add_right _ 6) (kk M1 M2 f H locs ls hR1 E hl)
theorem lw_loop (l : Launch) (hfl : l.stackTraces = false) (hc : cp_all N R) (hup : ∀ n M1 M2, R n M1 M2 → R (n + 1) M1 M2) (C : fm_LC G ad1 ad2 qo p s m meth c b L xs) (hL : L ≤ 2560) : ∀ (k n : Nat) (M1 M2 : fm_M) (f : Nat → Int64) (H : Heap) (locs : List Loc) (ls : Array Slot), L ≤ 5 * (n + k) → n ≤ 512 → R n M1 M2 → fm_LW G ad1 ad2 qo M1 M2 f s H locs → lv_has ls 8 [(0, .ref b), (1, .ref (ad1 0)), (2, .ref (ad2 0)), (3, .ref qo), (4, .int (Int32.ofNat (5 * n)))] → W p l e room_1 s m #[Value.ref b] below meth c H locs (241 + n) (16209 + 6 * n) (lw_Z below #[Value.ref b] s) (F0 m 23 ls []) := by
  intro k
  induction k with
  | zero =>
    intro n M1 M2 f H locs ls hk hn hR E hl
    refine lv_iload C.1.1 C.1.2.1 dL_law_23 (lv_at hl 4 rfl) ?_
    refine lv_aload_n C.1.1 C.1.2.1 dL_law_25 rfl (lv_at hl 0 rfl) ?_
    refine fm_lslen C E dL_law_26 ?_
    refine lv_iconst (v := 5) C.1.1 C.1.2.1 dL_law_27 (by decide) ?_
    refine lv_isub C.1.1 C.1.2.1 dL_law_28 ?_
    refine lv_icmp_gt (tgt := 1843) C.1.1 C.1.2.1 dL_law_29 (by decide) (fun _ => ?_) (fun h => ?_)
    · refine lv_iconst (v := 1) C.1.1 C.1.2.1 dL_law_1843 (by decide) ?_
      refine va_forget E.2.2.2.1.2.2 (W.widen (k := 601024) (n := 7293034) (by omega) (by omega) ?_)
      exact lw_ret C.1.1 C.1.2.1 C.2.1 C.2.2.1 dL_law_1844
    · have := fm_head hL hn h
      omega
  | succ k ih =>
    intro n M1 M2 f H locs ls hk hn hR E hl
    refine lv_iload C.1.1 C.1.2.1 dL_law_23 (lv_at hl 4 rfl) ?_
    refine lv_aload_n C.1.1 C.1.2.1 dL_law_25 rfl (lv_at hl 0 rfl) ?_
    refine fm_lslen C E dL_law_26 ?_
    refine lv_iconst (v := 5) C.1.1 C.1.2.1 dL_law_27 (by decide) ?_
    refine lv_isub C.1.1 C.1.2.1 dL_law_28 ?_
    refine lv_icmp_gt (tgt := 1843) C.1.1 C.1.2.1 dL_law_29 (by decide) (fun _ => ?_) (fun h => ?_)
    · refine lv_iconst (v := 1) C.1.1 C.1.2.1 dL_law_1843 (by decide) ?_
      refine va_forget E.2.2.2.1.2.2 (W.widen (k := 601024) (n := 7293034) (by omega) (by omega) ?_)
      exact lw_ret C.1.1 C.1.2.1 C.2.1 C.2.2.1 dL_law_1844
    · have hx := fm_head hL hn h
      have hd : ∀ d, d < 5 → fm_in (Int32.ofNat (5 * n) + Int32.ofNat d) L = true := fun d hd => by
        rw [← Int32.ofNat_add]
        exact fm_in_nat (by omega) hL
      refine lw_body (n := n) l hfl hc C ⟨by show _ ≤ 601024; omega, by show _ ≤ 7293034; omega⟩ E hl (hup n M1 M2 hR) (fm_in_nat (by omega) hL) (hd 1 (by decide)) (hd 2 (by decide)) (hd 3 (by decide)) (hd 4 (by decide)) (by omega) hR ?_
      intro M1 M2 f H locs ls hR E hl
      refine lv_iinc (k := 4) (v := Int32.ofNat (5 * (n + 1))) (lv' := [(4, .int _), (0, .ref _), (1, .ref _), (2, .ref _), (3, .ref _)]) C.1.1 C.1.2.1 dL_law_1837 hl rfl ?_ (by decide) rfl (fun ls hl => ?_)
      · rw [Nat.mul_succ, Int32.ofNat_add]
        rfl
      refine lv_goto (tgt := 23) C.1.1 C.1.2.1 dL_law_1840 (by decide) ?_
      have := ih (n + 1) M1 M2 f H locs ls (by omega) (by omega) hR E (lv_sub hl [1, 2, 3, 4, 0] rfl)
      exact this
end LWL
theorem kn_L_X9 : fm_N "MicRowLaw" 8 9 12 [.null, .null, .null, .null, .null, .null, .null, .null, .null, .null, .null, .null] := ⟨RX9, TX9, tyX9, rfl, inX9, tyX9_ok, fm_wd 105 (by decide +kernel) (by decide +kernel), fm_wd 106 (by decide +kernel) (by decide +kernel), fm_wd 81 (by decide +kernel) (by decide +kernel), by decide +kernel⟩
theorem kn_L_X10 : fm_N "MicRowLaw" 39 10 31 [.null, .null, .int 0, .null, .int 0, .int 0, .int 0, .int 0, .int 0, .null, .null, .int 0, .int 0, .int 0, .null, .int 0, .null, .null, .null, .null, .int 0, .null, .null, .null, .null, .int 0, .null, .int 0, .null, .null, .null] := ⟨RX10, TX10, tyX10, rfl, inX10, tyX10_ok, fm_wd 1102 (by decide +kernel) (by decide +kernel), fm_wd 1103 (by decide +kernel) (by decide +kernel), fm_wd 91 (by decide +kernel) (by decide +kernel), by decide +kernel⟩
theorem ki_L_X9 : fm_I "MicRowLaw" 38 yX9_init 0 := ⟨Or.inl (fm_wd 107 (by decide +kernel) (by decide +kernel)), fm_wd 108 (by decide +kernel) (by decide +kernel), fm_wd 81 (by decide +kernel) (by decide +kernel), rfl, ⟨by decide, by decide, by decide +kernel⟩⟩
theorem kk_L_X9 : Cond.code yX9_init cX9_init 1 none ∈ fm_TT := fm_wd 109 (by decide +kernel) (by decide +kernel)
theorem ki_L_X10 : fm_I "MicRowLaw" 41 yX10_init 0 := ⟨Or.inl (fm_wd 1104 (by decide +kernel) (by decide +kernel)), fm_wd 1105 (by decide +kernel) (by decide +kernel), fm_wd 91 (by decide +kernel) (by decide +kernel), rfl, ⟨by decide, by decide, by decide +kernel⟩⟩
theorem kk_L_X10 : Cond.code yX10_init cX10_init 1 none ∈ fm_TT := fm_wd 1106 (by decide +kernel) (by decide +kernel)
theorem fm_shB : (List.range 221).all (fun k => decide (k = 60) || decide (shC[k]? = shB_X9[k]?)) = true := by decide +kernel
theorem fm_conv {G : fm_G} {H : Heap} (h : va_P G.1 vwCl (fm_enS 0 shB_X9 G fm_m0) H) : va_P G.1 vwCl (fm_en shC G fm_m0) H := by
  intro k q hq
  obtain ⟨l1, -⟩ := fm_en_fst hq
  have l2 : k < 221 := l1
  obtain ⟨sh, hs⟩ : ∃ sh, shC[k]? = some sh := ⟨shC[k], List.getElem?_eq_getElem l1⟩
  rw [fm_en_at hs] at hq
  cases hq
  by_cases h6 : k = 60
  · subst h6
    have e1 : shB_X9[60]? = some (5, 8, [some 61, some 75, some 89, some 103, some 117, some 131, some 145, some 159]) := by decide +kernel
    have e2 := h 60 _ (fm_enS_at e1)
    obtain rfl : (6, 8, []) = sh := Option.some.inj (hC_60.symm.trans hs)
    have e3 : H[G.2.1 (0 + 60)]? = some (vp_cell (G.2.2.1 5) (8, .inr (.inr (.inr (.inr (fun i => (([some 61, some 75, some 89, some 103, some 117, some 131, some 145, some 159] : List (Option Nat)).getD i none).map G.2.1)))))) := e2
    show H[G.2.1 60]? = some (vp_cell (G.2.2.1 5) (8, .inr (.inr (.inr (.inr (fun i => some (G.2.1 (61 + 14 * i))))))))
    rw [Nat.zero_add] at e3
    rw [e3]
    rw [vp_cell_q, vp_cell_q]
    refine congrArg (fun z => some ({ cls := G.2.2.1 5, slots := Array.ofFn (n := 8) z, vm := .none } : Cell)) (funext fun j => ?_)
    match j with
    | 0 => rfl
    | 1 => rfl
    | 2 => rfl
    | 3 => rfl
    | 4 => rfl
    | 5 => rfl
    | 6 => rfl
    | 7 => rfl
  · have e1 := List.all_eq_true.mp fm_shB k (List.mem_range.mpr l2)
    simp only [Bool.or_eq_true, decide_eq_true_eq, h6, false_or] at e1
    have e2 := h k _ (fm_enS_at (e1.symm.trans hs))
    rw [Nat.zero_add] at e2
    exact e2
theorem fm_law {N : Nat} {R : Nat → fm_M → fm_M → Prop} (hR0 : R 0 fm_m0 fm_m1) (hup : ∀ n M1 M2, R n M1 M2 → R (n + 1) M1 M2) (hc : cp_all N R) {p : Program} {e : Env} {s : State} {m : MethodId} {below : List Frame} {meth : Method} {c : Code} (l : Launch) (hflags : l.flags = flags0) {b L : Nat} {xs : Nat → Int32} (hL : L ≤ 2560) (C0 : lw_At p s m meth c b L xs) : W p l e room_1 s m #[Value.ref b] below meth c s.heap [] 0 0 (lw_Z below #[Value.ref b] s) (entryFrame m ([Value.ref b] : List Value).toArray 8) := by
  obtain ⟨x1, x2, x3, x4, x5, x6, x7, x8, x9, x10⟩ := C0
  have hfl : l.stackTraces = false := by
    unfold Launch.stackTraces
    rw [hflags]
    decide +kernel
  obtain ⟨G, hgv, hkg⟩ := fm_start x6 x10
  have hT : ∀ w ∈ fm_TT, w.before #[Value.ref b] s = true := fun w h => x6 w (List.mem_filter.mp h).1
  have C : fm_kc G p s m #[Value.ref b] c code 8 "MicRowLaw" := ⟨x1, x2, x4, x5, hT, hkg⟩
  have hl := lv_entry [.ref b] (n := 8) (Nat.le_of_ble_eq_true rfl)
  rw [lg_entry_eq]
  generalize (lg_sl [Value.ref b] ++ List.replicate (8 - (lg_sl [Value.ref b]).length) Slot.unset).toArray = ls at hl
  have hl : lv_has ls 8 [(0, .ref b)] := hl
  have E : fm_kW G (fm_A0 s) [] s s.heap [] := ⟨(fun k q h => by cases h), ⟨(fun i j x y h => by cases h), (fun k q h => by cases h)⟩, va_S.rf, fun q h => h⟩
  refine fm_knew C E kn_L_X9 ⟨Nat.le_of_ble_eq_true rfl, Nat.le_of_ble_eq_true rfl⟩ dL_law_0 (fun q1 H E => ?_)
  refine lv_dup x1 x2 dL_law_3 rfl ?_
  refine fm_kinit0 (ad := fun _ => 0) (rest := [.ref _]) C E [] ki_L_X9 kk_L_X9 (k_X9 l G) rfl rfl hl.1 (by simp [Value.category]) ⟨⟨rfl, rfl⟩, Nat.le_of_ble_eq_true rfl, Nat.le_of_ble_eq_true rfl⟩ ⟨Nat.le_of_ble_eq_true rfl, Nat.le_of_ble_eq_true rfl⟩ dL_law_4 rfl (fun ad1 H locs h1 g1 E => ?_)
  rw [List.nil_append] at E
  refine lv_astore_n (lv' := [(1, .ref q1), (0, .ref b)]) x1 x2 dL_law_7 rfl hl (by decide) rfl (fun ls hl => ?_)
  refine fm_knew C E kn_L_X10 ⟨Nat.le_of_ble_eq_true rfl, Nat.le_of_ble_eq_true rfl⟩ dL_law_8 (fun q2 H E => ?_)
  refine lv_dup x1 x2 dL_law_11 rfl ?_
  refine fm_kinit0 (ad := fun _ => 0) (rest := [.ref _]) C E [] ki_L_X10 kk_L_X10 (k_X10 l G) rfl rfl hl.1 (by simp [Value.category]) ⟨⟨rfl, rfl⟩, Nat.le_of_ble_eq_true rfl, Nat.le_of_ble_eq_true rfl⟩ ⟨Nat.le_of_ble_eq_true rfl, Nat.le_of_ble_eq_true rfl⟩ dL_law_12 rfl (fun ad2 H locs h2 g2 E => ?_)
  refine lv_astore_n (lv' := [(2, .ref q2), (1, .ref q1), (0, .ref b)]) x1 x2 dL_law_15 rfl hl (by decide) rfl (fun ls hl => ?_)
  refine lv_iconst (v := 1) x1 x2 dL_law_16 (by decide) ?_
  refine fm_knewa (atype := .long) (t := 3) (N' := 1) (a0 := (1, .inr (.inl (fun _ => 0)))) C E rfl rfl fm_ka_long (fun _ => rfl) (by decide) (by decide) (Nat.le_of_ble_eq_true rfl) ⟨Nat.le_of_ble_eq_true rfl, Nat.le_of_ble_eq_true rfl⟩ dL_law_17 (fun qo H E => ?_)
  refine lv_astore_n (lv' := [(3, .ref qo), (2, .ref q2), (1, .ref q1), (0, .ref b)]) x1 x2 dL_law_19 rfl hl (by decide) rfl (fun ls hl => ?_)
  refine lv_iconst (v := 0) x1 x2 dL_law_20 (by decide) ?_
  refine lv_istore (lv' := [(4, .int 0), (3, .ref qo), (2, .ref q2), (1, .ref q1), (0, .ref b)]) x1 x2 dL_law_21 hl (by decide) rfl (fun ls hl => ?_)
  -- the world, taken apart
  have lC : (fm_enS 0 shB_X9 (fm_ga G ad1) fm_m0).length = 221 := by rw [fm_enS_len]; rfl
  have lM : (fm_enS 0 shB_X10 (fm_ga G ad2) fm_m1).length = 19 := by rw [fm_enS_len]; rfl
  have c221 : shC.length = 221 := rfl
  have m19 : shM.length = 19 := rfl
  have pC : ∀ k, k < 221 → ∃ z, (fm_enS 0 shB_X9 (fm_ga G ad1) fm_m0 ++ fm_enS 0 shB_X10 (fm_ga G ad2) fm_m1 ++ [(qo, .inl (G.2.2.1 3, (1, .inr (.inl (fun _ => 0)))))])[k]? = some (ad1 k, z) := fun k hk => by
    obtain ⟨sh, hs⟩ : ∃ sh, shB_X9[k]? = some sh := ⟨shB_X9[k]'(by have : shB_X9.length = 221 := rfl; omega), List.getElem?_eq_getElem _⟩
    have := fm_enS_at (b := 0) (G := fm_ga G ad1) (M := fm_m0) hs
    rw [Nat.zero_add] at this
    exact ⟨_, by rw [List.getElem?_append_left (by rw [List.length_append, lC]; omega), List.getElem?_append_left (by rw [lC]; omega)]; exact this⟩
  have pM : ∀ k, k < 19 → ∃ z, (fm_enS 0 shB_X9 (fm_ga G ad1) fm_m0 ++ fm_enS 0 shB_X10 (fm_ga G ad2) fm_m1 ++ [(qo, .inl (G.2.2.1 3, (1, .inr (.inl (fun _ => 0)))))])[221 + k]? = some (ad2 k, z) := fun k hk => by
    obtain ⟨sh, hs⟩ : ∃ sh, shB_X10[k]? = some sh := ⟨shB_X10[k]'(by have : shB_X10.length = 19 := rfl; omega), List.getElem?_eq_getElem _⟩
    have := fm_enS_at (b := 0) (G := fm_ga G ad2) (M := fm_m1) hs
    rw [Nat.zero_add] at this
    exact ⟨_, by rw [List.getElem?_append_left (by rw [List.length_append, lC, lM]; omega), List.getElem?_append_right (by rw [lC]; omega), lC, Nat.add_sub_cancel_left]; exact this⟩
  have pO : (fm_enS 0 shB_X9 (fm_ga G ad1) fm_m0 ++ fm_enS 0 shB_X10 (fm_ga G ad2) fm_m1 ++ [(qo, .inl (G.2.2.1 3, (1, .inr (.inl (fun _ => 0)))))])[240]? = some (qo, .inl (G.2.2.1 3, (1, .inr (.inl (fun _ => 0))))) := by
    rw [List.getElem?_append_right (by rw [List.length_append, lC, lM]; omega), List.length_append, lC, lM]
    rfl
  have AP : fm_AP ad1 ad2 qo s.heap.size := by
    refine ⟨fun i j hi hj hij => ?_, fun i hi hij => ?_, fun j hj hij => ?_, fun i hi => ?_, fun j hj => ?_, ?_⟩
    · rw [c221] at hi
      rw [m19] at hj
      obtain ⟨_, u1⟩ := pC i hi
      obtain ⟨_, u2⟩ := pM j hj
      have := E.2.1.1 _ _ _ _ u1 u2 hij
      omega
    · rw [c221] at hi
      obtain ⟨_, u1⟩ := pC i hi
      have := E.2.1.1 _ _ _ _ u1 pO hij
      omega
    · rw [m19] at hj
      obtain ⟨_, u2⟩ := pM j hj
      have := E.2.1.1 _ _ _ _ u2 pO hij
      omega
    · rw [c221] at hi
      obtain ⟨_, u1⟩ := pC i hi
      exact E.2.1.2 _ _ u1
    · rw [m19] at hj
      obtain ⟨_, u2⟩ := pM j hj
      exact E.2.1.2 _ _ u2
    · exact E.2.1.2 _ _ pO
  have PC : va_P G.1 vwCl (fm_en shC (fm_ga G ad1) fm_m0) H := fm_conv (G := fm_ga G ad1) (fun k q hq => E.1 k q (by
    have hk := (List.getElem?_eq_some_iff.mp hq).1
    rw [List.getElem?_append_left (by rw [List.length_append]; omega), List.getElem?_append_left hk]
    exact hq))
  have PM : va_P G.1 vwCl (fm_en shM (fm_ga G ad2) fm_m1) H := fun k q hq => E.1 (221 + k) q (by
    have e0 : fm_en shM (fm_ga G ad2) fm_m1 = fm_enS 0 shB_X10 (fm_ga G ad2) fm_m1 := by rw [fm_enS_zero, show shB_X10 = shM from by decide +kernel]
    rw [e0] at hq
    have hk := (List.getElem?_eq_some_iff.mp hq).1
    rw [List.getElem?_append_left (by rw [List.length_append, lC]; omega), List.getElem?_append_right (by rw [lC]; omega), lC, Nat.add_sub_cancel_left]
    exact hq)
  have PO : fm_out G qo (fun _ => 0) H := E.1 240 _ pO
  have DC : va_D (fun _ => True) (fm_en shC (fm_ga G ad1) fm_m0) := ⟨fun i j x y hi hj hxy => by
    obtain ⟨i1, i2⟩ := fm_en_fst hi
    obtain ⟨j1, j2⟩ := fm_en_fst hj
    rw [c221] at i1 j1
    obtain ⟨_, u1⟩ := pC i i1
    obtain ⟨_, u2⟩ := pC j j1
    exact E.2.1.1 _ _ _ _ u1 u2 (i2.symm.trans (hxy.trans j2)), fun _ _ _ => trivial⟩
  have DM : va_D (fun _ => True) (fm_en shM (fm_ga G ad2) fm_m1) := ⟨fun i j x y hi hj hxy => by
    obtain ⟨i1, i2⟩ := fm_en_fst hi
    obtain ⟨j1, j2⟩ := fm_en_fst hj
    rw [m19] at i1 j1
    obtain ⟨_, u1⟩ := pM i i1
    obtain ⟨_, u2⟩ := pM j j1
    have := E.2.1.1 _ _ _ _ u1 u2 (i2.symm.trans (hxy.trans j2))
    omega, fun _ _ _ => trivial⟩
  have CL : fm_LC G ad1 ad2 qo p s m meth c b L xs := ⟨⟨x1, x2, x4, x5, hT⟩, x3, x9, x7, x8, hgv, AP⟩
  have hl : lv_has ls 8 [(4, .int 0), (3, .ref qo), (2, .ref (ad2 0)), (1, .ref (ad1 0)), (0, .ref b)] := by rw [g1, g2]; exact hl
  exact lw_loop l hfl hc hup CL hL 512 0 fm_m0 fm_m1 (fun _ => 0) H locs ls (by omega) (by omega) hR0 ⟨PC, PM, PO, E.2.2.1, DC, DM⟩ (lv_sub hl [4, 3, 2, 1, 0] rfl)
