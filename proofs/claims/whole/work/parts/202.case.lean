section LWC
variable {p : Program} {l : Launch} {e : Env} {s : State} {m : MethodId} {below : List Frame} {meth : Method} {c : Code} {H : Heap} {locs : List Loc} {cells slots : Nat} {Q : State → Prop}
variable {qo b L N n : Nat} {xs : Nat → Int32} {ls : Array Slot} {G : fm_G} {M1 M2 : fm_M} {f : Nat → Int64} {ad1 ad2 : Nat → Nat} {i : Int32} {R : Nat → fm_M → fm_M → Prop}
theorem dL_law_873 : decode cL_law 873 = .ok (.aload_n 1, 1) := by decide +kernel
theorem dL_law_874 : decode cL_law 874 = .ok (.aload_n 0, 1) := by decide +kernel
theorem dL_law_875 : decode cL_law 875 = .ok (.iload 4, 2) := by decide +kernel
theorem dL_law_877 : decode cL_law 877 = .ok (.iconst 1, 1) := by decide +kernel
theorem dL_law_878 : decode cL_law 878 = .ok (.iadd, 1) := by decide +kernel
theorem dL_law_879 : decode cL_law 879 = .ok (.iaload, 1) := by decide +kernel
theorem dL_law_880 : decode cL_law 880 = .ok (.invokevirtual 94, 3) := by decide +kernel
theorem dL_law_883 : decode cL_law 883 = .ok (.aload_n 2, 1) := by decide +kernel
theorem dL_law_884 : decode cL_law 884 = .ok (.aload_n 0, 1) := by decide +kernel
theorem dL_law_885 : decode cL_law 885 = .ok (.iload 4, 2) := by decide +kernel
theorem dL_law_887 : decode cL_law 887 = .ok (.iconst 1, 1) := by decide +kernel
theorem dL_law_888 : decode cL_law 888 = .ok (.iadd, 1) := by decide +kernel
theorem dL_law_889 : decode cL_law 889 = .ok (.iaload, 1) := by decide +kernel
theorem dL_law_890 : decode cL_law 890 = .ok (.invokevirtual 97, 3) := by decide +kernel
theorem dL_law_893 : decode cL_law 893 = .ok (.if_icmp .eq 944, 3) := by decide +kernel
theorem dL_law_896 : decode cL_law 896 = .ok (.iconst 0, 1) := by decide +kernel
theorem dL_law_897 : decode cL_law 897 = .ok (.ireturn, 1) := by decide +kernel
set_option maxHeartbeats 2000000 in
theorem lq_X9_level : fm_V "MicRowLaw" 94 yX9_level 1 := ⟨Or.inl (fm_wd 465 (by decide +kernel) (by decide +kernel)), fm_wd 466 (by decide +kernel) (by decide +kernel), fm_wd 467 (by decide +kernel) (by decide +kernel), fm_wd 81 (by decide +kernel) (by decide +kernel), ⟨by decide, by decide, by decide +kernel⟩⟩
theorem ln_X9_level : Cond.methodLink "MicRowLaw" 94 yX9_level ∈ fm_TT := fm_wd 465 (by decide +kernel) (by decide +kernel)
theorem lk_X9_level : Cond.code yX9_level cX9_level 4 (some .int) ∈ fm_TT := fm_wd 468 (by decide +kernel) (by decide +kernel)
theorem lq_X10_level : fm_V "MicRowLaw" 97 yX10_level 1 := ⟨Or.inl (fm_wd 1409 (by decide +kernel) (by decide +kernel)), fm_wd 1410 (by decide +kernel) (by decide +kernel), fm_wd 1411 (by decide +kernel) (by decide +kernel), fm_wd 91 (by decide +kernel) (by decide +kernel), ⟨by decide, by decide, by decide +kernel⟩⟩
theorem ln_X10_level : Cond.methodLink "MicRowLaw" 97 yX10_level ∈ fm_TT := fm_wd 1409 (by decide +kernel) (by decide +kernel)
theorem lk_X10_level : Cond.code yX10_level cX10_level 5 (some .int) ∈ fm_TT := fm_wd 1412 (by decide +kernel) (by decide +kernel)
theorem lw_case_level (C : fm_LC G ad1 ad2 qo p s m meth c b L xs) (hfl : l.stackTraces = false) (hcs : cells + 1 ≤ room_1.cells ∧ slots + 6 ≤ room_1.slots) (E : fm_LW G ad1 ad2 qo M1 M2 f s H locs) (hl : lv_has ls 8 [(0, .ref b), (1, .ref (ad1 0)), (2, .ref (ad2 0)), (3, .ref qo), (4, .int i)]) (h1 : fm_in (i + 1) L = true) (h2 : fm_in (i + 2) L = true) (h3 : fm_in (i + 3) L = true) (h4 : fm_in (i + 4) L = true) (hn : n < 512) (hR : R n M1 M2) (hc : cp_level N R) (kk : fm_KK p l e s m below meth c cells slots Q qo b n G ad1 ad2 i R) : W p l e room_1 s m #[Value.ref b] below meth c H locs cells slots Q (F0 m 873 ls []) := by
  obtain ⟨hc1, hc2⟩ := hcs
  have hc0 : cells ≤ room_1.cells ∧ slots ≤ room_1.slots := ⟨by omega, by omega⟩
  obtain ⟨r, M1', M2', hf1, hf2, hR'⟩ := hc n M1 M2 (xs (i + 1).toNatClampNeg) hn hR
  refine lv_aload_n C.1.1 C.1.2.1 dL_law_873 rfl (lv_at hl 1 rfl) ?_
  refine lv_aload_n C.1.1 C.1.2.1 dL_law_874 rfl (lv_at hl 0 rfl) ?_
  refine lv_iload C.1.1 C.1.2.1 dL_law_875 (lv_at hl 4 rfl) ?_
  refine lv_iconst (v := 1) C.1.1 C.1.2.1 dL_law_877 (by decide) ?_
  refine lv_iadd C.1.1 C.1.2.1 dL_law_878 ?_
  refine fm_lsld C E h1 dL_law_879 ?_
  refine fm_lcallC C E [.int _] [] lq_X9_level ln_X9_level lk_X9_level (c_MicRow_level l _ N _ _ _ _ hf1) rfl rfl hl.1 (by simp) ⟨⟨rfl, rfl⟩, Nat.le_of_ble_eq_true rfl, Nat.le_of_ble_eq_true rfl⟩ hc0 dL_law_880 rfl (fun H locs E => ?_)
  refine W.eq (g2 := F0 m 883 ls [.int r]) rfl ?_
  refine lv_aload_n C.1.1 C.1.2.1 dL_law_883 rfl (lv_at hl 2 rfl) ?_
  refine lv_aload_n C.1.1 C.1.2.1 dL_law_884 rfl (lv_at hl 0 rfl) ?_
  refine lv_iload C.1.1 C.1.2.1 dL_law_885 (lv_at hl 4 rfl) ?_
  refine lv_iconst (v := 1) C.1.1 C.1.2.1 dL_law_887 (by decide) ?_
  refine lv_iadd C.1.1 C.1.2.1 dL_law_888 ?_
  refine fm_lsld C E h1 dL_law_889 ?_
  refine fm_lcallM C E [.int _] [.int r] lq_X10_level ln_X10_level lk_X10_level (c_Model_level l _ N _ _ _ _ hf2) rfl rfl hl.1 (by simp [Value.category]) ⟨⟨rfl, rfl⟩, Nat.le_of_ble_eq_true rfl, Nat.le_of_ble_eq_true rfl⟩ hc0 dL_law_890 rfl (fun H locs E => ?_)
  refine W.eq (g2 := F0 m 893 ls [.int r, .int r]) rfl ?_
  refine lv_icmp_eq (tgt := 1837) C.1.1 C.1.2.1 dL_law_893 (by decide) (fun _ => ?_) (fun h => absurd rfl h)
  exact W.widen (Nat.le_succ _) (Nat.le_add_right _ 6) (kk M1' M2' f H locs ls hR' E hl)
theorem dL_law_898 : decode cL_law 898 = .ok (.aload_n 1, 1) := by decide +kernel
theorem dL_law_899 : decode cL_law 899 = .ok (.aload_n 0, 1) := by decide +kernel
theorem dL_law_900 : decode cL_law 900 = .ok (.iload 4, 2) := by decide +kernel
theorem dL_law_902 : decode cL_law 902 = .ok (.iconst 1, 1) := by decide +kernel
theorem dL_law_903 : decode cL_law 903 = .ok (.iadd, 1) := by decide +kernel
theorem dL_law_904 : decode cL_law 904 = .ok (.iaload, 1) := by decide +kernel
theorem dL_law_905 : decode cL_law 905 = .ok (.invokevirtual 98, 3) := by decide +kernel
theorem dL_law_908 : decode cL_law 908 = .ok (.aload_n 2, 1) := by decide +kernel
theorem dL_law_909 : decode cL_law 909 = .ok (.aload_n 0, 1) := by decide +kernel
theorem dL_law_910 : decode cL_law 910 = .ok (.iload 4, 2) := by decide +kernel
theorem dL_law_912 : decode cL_law 912 = .ok (.iconst 1, 1) := by decide +kernel
theorem dL_law_913 : decode cL_law 913 = .ok (.iadd, 1) := by decide +kernel
theorem dL_law_914 : decode cL_law 914 = .ok (.iaload, 1) := by decide +kernel
theorem dL_law_915 : decode cL_law 915 = .ok (.invokevirtual 101, 3) := by decide +kernel
theorem dL_law_918 : decode cL_law 918 = .ok (.if_icmp .eq 919, 3) := by decide +kernel
theorem dL_law_921 : decode cL_law 921 = .ok (.iconst 0, 1) := by decide +kernel
theorem dL_law_922 : decode cL_law 922 = .ok (.ireturn, 1) := by decide +kernel
set_option maxHeartbeats 2000000 in
theorem lq_X9_beams : fm_V "MicRowLaw" 98 yX9_beams 1 := ⟨Or.inl (fm_wd 530 (by decide +kernel) (by decide +kernel)), fm_wd 531 (by decide +kernel) (by decide +kernel), fm_wd 532 (by decide +kernel) (by decide +kernel), fm_wd 81 (by decide +kernel) (by decide +kernel), ⟨by decide, by decide, by decide +kernel⟩⟩
theorem ln_X9_beams : Cond.methodLink "MicRowLaw" 98 yX9_beams ∈ fm_TT := fm_wd 530 (by decide +kernel) (by decide +kernel)
theorem lk_X9_beams : Cond.code yX9_beams cX9_beams 2 (some .int) ∈ fm_TT := fm_wd 533 (by decide +kernel) (by decide +kernel)
theorem lq_X10_beams : fm_V "MicRowLaw" 101 yX10_beams 1 := ⟨Or.inl (fm_wd 1426 (by decide +kernel) (by decide +kernel)), fm_wd 1427 (by decide +kernel) (by decide +kernel), fm_wd 1428 (by decide +kernel) (by decide +kernel), fm_wd 91 (by decide +kernel) (by decide +kernel), ⟨by decide, by decide, by decide +kernel⟩⟩
theorem ln_X10_beams : Cond.methodLink "MicRowLaw" 101 yX10_beams ∈ fm_TT := fm_wd 1426 (by decide +kernel) (by decide +kernel)
theorem lk_X10_beams : Cond.code yX10_beams cX10_beams 2 (some .int) ∈ fm_TT := fm_wd 1429 (by decide +kernel) (by decide +kernel)
theorem lw_case_beams (C : fm_LC G ad1 ad2 qo p s m meth c b L xs) (hfl : l.stackTraces = false) (hcs : cells + 1 ≤ room_1.cells ∧ slots + 6 ≤ room_1.slots) (E : fm_LW G ad1 ad2 qo M1 M2 f s H locs) (hl : lv_has ls 8 [(0, .ref b), (1, .ref (ad1 0)), (2, .ref (ad2 0)), (3, .ref qo), (4, .int i)]) (h1 : fm_in (i + 1) L = true) (h2 : fm_in (i + 2) L = true) (h3 : fm_in (i + 3) L = true) (h4 : fm_in (i + 4) L = true) (hn : n < 512) (hR : R n M1 M2) (hc : cp_beams N R) (kk : fm_KK p l e s m below meth c cells slots Q qo b n G ad1 ad2 i R) : W p l e room_1 s m #[Value.ref b] below meth c H locs cells slots Q (F0 m 898 ls []) := by
  obtain ⟨hc1, hc2⟩ := hcs
  have hc0 : cells ≤ room_1.cells ∧ slots ≤ room_1.slots := ⟨by omega, by omega⟩
  obtain ⟨r, M1', M2', hf1, hf2, hR'⟩ := hc n M1 M2 (xs (i + 1).toNatClampNeg) hn hR
  refine lv_aload_n C.1.1 C.1.2.1 dL_law_898 rfl (lv_at hl 1 rfl) ?_
  refine lv_aload_n C.1.1 C.1.2.1 dL_law_899 rfl (lv_at hl 0 rfl) ?_
  refine lv_iload C.1.1 C.1.2.1 dL_law_900 (lv_at hl 4 rfl) ?_
  refine lv_iconst (v := 1) C.1.1 C.1.2.1 dL_law_902 (by decide) ?_
  refine lv_iadd C.1.1 C.1.2.1 dL_law_903 ?_
  refine fm_lsld C E h1 dL_law_904 ?_
  refine fm_lcallC C E [.int _] [] lq_X9_beams ln_X9_beams lk_X9_beams (c_MicRow_beams l _ N _ _ _ _ hf1) rfl rfl hl.1 (by simp) ⟨⟨rfl, rfl⟩, Nat.le_of_ble_eq_true rfl, Nat.le_of_ble_eq_true rfl⟩ hc0 dL_law_905 rfl (fun H locs E => ?_)
  refine W.eq (g2 := F0 m 908 ls [.int r]) rfl ?_
  refine lv_aload_n C.1.1 C.1.2.1 dL_law_908 rfl (lv_at hl 2 rfl) ?_
  refine lv_aload_n C.1.1 C.1.2.1 dL_law_909 rfl (lv_at hl 0 rfl) ?_
  refine lv_iload C.1.1 C.1.2.1 dL_law_910 (lv_at hl 4 rfl) ?_
  refine lv_iconst (v := 1) C.1.1 C.1.2.1 dL_law_912 (by decide) ?_
  refine lv_iadd C.1.1 C.1.2.1 dL_law_913 ?_
  refine fm_lsld C E h1 dL_law_914 ?_
  refine fm_lcallM C E [.int _] [.int r] lq_X10_beams ln_X10_beams lk_X10_beams (c_Model_beams l _ N _ _ _ _ hf2) rfl rfl hl.1 (by simp [Value.category]) ⟨⟨rfl, rfl⟩, Nat.le_of_ble_eq_true rfl, Nat.le_of_ble_eq_true rfl⟩ hc0 dL_law_915 rfl (fun H locs E => ?_)
  refine W.eq (g2 := F0 m 918 ls [.int r, .int r]) rfl ?_
  refine lv_icmp_eq (tgt := 1837) C.1.1 C.1.2.1 dL_law_918 (by decide) (fun _ => ?_) (fun h => absurd rfl h)
  exact W.widen (Nat.le_succ _) (Nat.le_add_right _ 6) (kk M1' M2' f H locs ls hR' E hl)
theorem dL_law_923 : decode cL_law 923 = .ok (.aload_n 1, 1) := by decide +kernel
theorem dL_law_924 : decode cL_law 924 = .ok (.aload_n 0, 1) := by decide +kernel
theorem dL_law_925 : decode cL_law 925 = .ok (.iload 4, 2) := by decide +kernel
theorem dL_law_927 : decode cL_law 927 = .ok (.iconst 1, 1) := by decide +kernel
theorem dL_law_928 : decode cL_law 928 = .ok (.iadd, 1) := by decide +kernel
theorem dL_law_929 : decode cL_law 929 = .ok (.iaload, 1) := by decide +kernel
theorem dL_law_930 : decode cL_law 930 = .ok (.invokevirtual 102, 3) := by decide +kernel
theorem dL_law_933 : decode cL_law 933 = .ok (.aload_n 2, 1) := by decide +kernel
theorem dL_law_934 : decode cL_law 934 = .ok (.aload_n 0, 1) := by decide +kernel
theorem dL_law_935 : decode cL_law 935 = .ok (.iload 4, 2) := by decide +kernel
theorem dL_law_937 : decode cL_law 937 = .ok (.iconst 1, 1) := by decide +kernel
theorem dL_law_938 : decode cL_law 938 = .ok (.iadd, 1) := by decide +kernel
theorem dL_law_939 : decode cL_law 939 = .ok (.iaload, 1) := by decide +kernel
theorem dL_law_940 : decode cL_law 940 = .ok (.invokevirtual 105, 3) := by decide +kernel
theorem dL_law_943 : decode cL_law 943 = .ok (.if_icmp .eq 894, 3) := by decide +kernel
theorem dL_law_946 : decode cL_law 946 = .ok (.iconst 0, 1) := by decide +kernel
theorem dL_law_947 : decode cL_law 947 = .ok (.ireturn, 1) := by decide +kernel
set_option maxHeartbeats 2000000 in
theorem lq_X9_weights : fm_V "MicRowLaw" 102 yX9_weights 1 := ⟨Or.inl (fm_wd 602 (by decide +kernel) (by decide +kernel)), fm_wd 603 (by decide +kernel) (by decide +kernel), fm_wd 604 (by decide +kernel) (by decide +kernel), fm_wd 81 (by decide +kernel) (by decide +kernel), ⟨by decide, by decide, by decide +kernel⟩⟩
theorem ln_X9_weights : Cond.methodLink "MicRowLaw" 102 yX9_weights ∈ fm_TT := fm_wd 602 (by decide +kernel) (by decide +kernel)
theorem lk_X9_weights : Cond.code yX9_weights cX9_weights 3 (some .int) ∈ fm_TT := fm_wd 605 (by decide +kernel) (by decide +kernel)
theorem lq_X10_weights : fm_V "MicRowLaw" 105 yX10_weights 1 := ⟨Or.inl (fm_wd 1430 (by decide +kernel) (by decide +kernel)), fm_wd 1431 (by decide +kernel) (by decide +kernel), fm_wd 1432 (by decide +kernel) (by decide +kernel), fm_wd 91 (by decide +kernel) (by decide +kernel), ⟨by decide, by decide, by decide +kernel⟩⟩
theorem ln_X10_weights : Cond.methodLink "MicRowLaw" 105 yX10_weights ∈ fm_TT := fm_wd 1430 (by decide +kernel) (by decide +kernel)
theorem lk_X10_weights : Cond.code yX10_weights cX10_weights 3 (some .int) ∈ fm_TT := fm_wd 1433 (by decide +kernel) (by decide +kernel)
theorem lw_case_weights (C : fm_LC G ad1 ad2 qo p s m meth c b L xs) (hfl : l.stackTraces = false) (hcs : cells + 1 ≤ room_1.cells ∧ slots + 6 ≤ room_1.slots) (E : fm_LW G ad1 ad2 qo M1 M2 f s H locs) (hl : lv_has ls 8 [(0, .ref b), (1, .ref (ad1 0)), (2, .ref (ad2 0)), (3, .ref qo), (4, .int i)]) (h1 : fm_in (i + 1) L = true) (h2 : fm_in (i + 2) L = true) (h3 : fm_in (i + 3) L = true) (h4 : fm_in (i + 4) L = true) (hn : n < 512) (hR : R n M1 M2) (hc : cp_weights N R) (kk : fm_KK p l e s m below meth c cells slots Q qo b n G ad1 ad2 i R) : W p l e room_1 s m #[Value.ref b] below meth c H locs cells slots Q (F0 m 923 ls []) := by
  obtain ⟨hc1, hc2⟩ := hcs
  have hc0 : cells ≤ room_1.cells ∧ slots ≤ room_1.slots := ⟨by omega, by omega⟩
  obtain ⟨r, M1', M2', hf1, hf2, hR'⟩ := hc n M1 M2 (xs (i + 1).toNatClampNeg) hn hR
  refine lv_aload_n C.1.1 C.1.2.1 dL_law_923 rfl (lv_at hl 1 rfl) ?_
  refine lv_aload_n C.1.1 C.1.2.1 dL_law_924 rfl (lv_at hl 0 rfl) ?_
  refine lv_iload C.1.1 C.1.2.1 dL_law_925 (lv_at hl 4 rfl) ?_
  refine lv_iconst (v := 1) C.1.1 C.1.2.1 dL_law_927 (by decide) ?_
  refine lv_iadd C.1.1 C.1.2.1 dL_law_928 ?_
  refine fm_lsld C E h1 dL_law_929 ?_
  refine fm_lcallC C E [.int _] [] lq_X9_weights ln_X9_weights lk_X9_weights (c_MicRow_weights l _ N _ _ _ _ hf1) rfl rfl hl.1 (by simp) ⟨⟨rfl, rfl⟩, Nat.le_of_ble_eq_true rfl, Nat.le_of_ble_eq_true rfl⟩ hc0 dL_law_930 rfl (fun H locs E => ?_)
  refine W.eq (g2 := F0 m 933 ls [.int r]) rfl ?_
  refine lv_aload_n C.1.1 C.1.2.1 dL_law_933 rfl (lv_at hl 2 rfl) ?_
  refine lv_aload_n C.1.1 C.1.2.1 dL_law_934 rfl (lv_at hl 0 rfl) ?_
  refine lv_iload C.1.1 C.1.2.1 dL_law_935 (lv_at hl 4 rfl) ?_
  refine lv_iconst (v := 1) C.1.1 C.1.2.1 dL_law_937 (by decide) ?_
  refine lv_iadd C.1.1 C.1.2.1 dL_law_938 ?_
  refine fm_lsld C E h1 dL_law_939 ?_
  refine fm_lcallM C E [.int _] [.int r] lq_X10_weights ln_X10_weights lk_X10_weights (c_Model_weights l _ N _ _ _ _ hf2) rfl rfl hl.1 (by simp [Value.category]) ⟨⟨rfl, rfl⟩, Nat.le_of_ble_eq_true rfl, Nat.le_of_ble_eq_true rfl⟩ hc0 dL_law_940 rfl (fun H locs E => ?_)
  refine W.eq (g2 := F0 m 943 ls [.int r, .int r]) rfl ?_
  refine lv_icmp_eq (tgt := 1837) C.1.1 C.1.2.1 dL_law_943 (by decide) (fun _ => ?_) (fun h => absurd rfl h)
  exact W.widen (Nat.le_succ _) (Nat.le_add_right _ 6) (kk M1' M2' f H locs ls hR' E hl)
theorem dL_law_948 : decode cL_law 948 = .ok (.aload_n 1, 1) := by decide +kernel
theorem dL_law_949 : decode cL_law 949 = .ok (.aload_n 0, 1) := by decide +kernel
theorem dL_law_950 : decode cL_law 950 = .ok (.iload 4, 2) := by decide +kernel
theorem dL_law_952 : decode cL_law 952 = .ok (.iconst 1, 1) := by decide +kernel
theorem dL_law_953 : decode cL_law 953 = .ok (.iadd, 1) := by decide +kernel
theorem dL_law_954 : decode cL_law 954 = .ok (.iaload, 1) := by decide +kernel
theorem dL_law_955 : decode cL_law 955 = .ok (.invokevirtual 106, 3) := by decide +kernel
theorem dL_law_958 : decode cL_law 958 = .ok (.aload_n 2, 1) := by decide +kernel
theorem dL_law_959 : decode cL_law 959 = .ok (.aload_n 0, 1) := by decide +kernel
theorem dL_law_960 : decode cL_law 960 = .ok (.iload 4, 2) := by decide +kernel
theorem dL_law_962 : decode cL_law 962 = .ok (.iconst 1, 1) := by decide +kernel
theorem dL_law_963 : decode cL_law 963 = .ok (.iadd, 1) := by decide +kernel
theorem dL_law_964 : decode cL_law 964 = .ok (.iaload, 1) := by decide +kernel
theorem dL_law_965 : decode cL_law 965 = .ok (.invokevirtual 109, 3) := by decide +kernel
theorem dL_law_968 : decode cL_law 968 = .ok (.if_icmp .eq 869, 3) := by decide +kernel
theorem dL_law_971 : decode cL_law 971 = .ok (.iconst 0, 1) := by decide +kernel
theorem dL_law_972 : decode cL_law 972 = .ok (.ireturn, 1) := by decide +kernel
set_option maxHeartbeats 2000000 in
theorem lq_X9_loudest : fm_V "MicRowLaw" 106 yX9_loudest 1 := ⟨Or.inl (fm_wd 606 (by decide +kernel) (by decide +kernel)), fm_wd 607 (by decide +kernel) (by decide +kernel), fm_wd 608 (by decide +kernel) (by decide +kernel), fm_wd 81 (by decide +kernel) (by decide +kernel), ⟨by decide, by decide, by decide +kernel⟩⟩
theorem ln_X9_loudest : Cond.methodLink "MicRowLaw" 106 yX9_loudest ∈ fm_TT := fm_wd 606 (by decide +kernel) (by decide +kernel)
theorem lk_X9_loudest : Cond.code yX9_loudest cX9_loudest 9 (some .int) ∈ fm_TT := fm_wd 609 (by decide +kernel) (by decide +kernel)
theorem lq_X10_loudest : fm_V "MicRowLaw" 109 yX10_loudest 1 := ⟨Or.inl (fm_wd 1434 (by decide +kernel) (by decide +kernel)), fm_wd 1435 (by decide +kernel) (by decide +kernel), fm_wd 1436 (by decide +kernel) (by decide +kernel), fm_wd 91 (by decide +kernel) (by decide +kernel), ⟨by decide, by decide, by decide +kernel⟩⟩
theorem ln_X10_loudest : Cond.methodLink "MicRowLaw" 109 yX10_loudest ∈ fm_TT := fm_wd 1434 (by decide +kernel) (by decide +kernel)
theorem lk_X10_loudest : Cond.code yX10_loudest cX10_loudest 9 (some .int) ∈ fm_TT := fm_wd 1437 (by decide +kernel) (by decide +kernel)
theorem lw_case_loudest (C : fm_LC G ad1 ad2 qo p s m meth c b L xs) (hfl : l.stackTraces = false) (hcs : cells + 1 ≤ room_1.cells ∧ slots + 6 ≤ room_1.slots) (E : fm_LW G ad1 ad2 qo M1 M2 f s H locs) (hl : lv_has ls 8 [(0, .ref b), (1, .ref (ad1 0)), (2, .ref (ad2 0)), (3, .ref qo), (4, .int i)]) (h1 : fm_in (i + 1) L = true) (h2 : fm_in (i + 2) L = true) (h3 : fm_in (i + 3) L = true) (h4 : fm_in (i + 4) L = true) (hn : n < 512) (hR : R n M1 M2) (hc : cp_loudest N R) (kk : fm_KK p l e s m below meth c cells slots Q qo b n G ad1 ad2 i R) : W p l e room_1 s m #[Value.ref b] below meth c H locs cells slots Q (F0 m 948 ls []) := by
  obtain ⟨hc1, hc2⟩ := hcs
  have hc0 : cells ≤ room_1.cells ∧ slots ≤ room_1.slots := ⟨by omega, by omega⟩
  obtain ⟨r, M1', M2', hf1, hf2, hR'⟩ := hc n M1 M2 (xs (i + 1).toNatClampNeg) hn hR
  refine lv_aload_n C.1.1 C.1.2.1 dL_law_948 rfl (lv_at hl 1 rfl) ?_
  refine lv_aload_n C.1.1 C.1.2.1 dL_law_949 rfl (lv_at hl 0 rfl) ?_
  refine lv_iload C.1.1 C.1.2.1 dL_law_950 (lv_at hl 4 rfl) ?_
  refine lv_iconst (v := 1) C.1.1 C.1.2.1 dL_law_952 (by decide) ?_
  refine lv_iadd C.1.1 C.1.2.1 dL_law_953 ?_
  refine fm_lsld C E h1 dL_law_954 ?_
  refine fm_lcallC C E [.int _] [] lq_X9_loudest ln_X9_loudest lk_X9_loudest (c_MicRow_loudest l _ N _ _ _ _ hf1) rfl rfl hl.1 (by simp) ⟨⟨rfl, rfl⟩, Nat.le_of_ble_eq_true rfl, Nat.le_of_ble_eq_true rfl⟩ hc0 dL_law_955 rfl (fun H locs E => ?_)
  refine W.eq (g2 := F0 m 958 ls [.int r]) rfl ?_
  refine lv_aload_n C.1.1 C.1.2.1 dL_law_958 rfl (lv_at hl 2 rfl) ?_
  refine lv_aload_n C.1.1 C.1.2.1 dL_law_959 rfl (lv_at hl 0 rfl) ?_
  refine lv_iload C.1.1 C.1.2.1 dL_law_960 (lv_at hl 4 rfl) ?_
  refine lv_iconst (v := 1) C.1.1 C.1.2.1 dL_law_962 (by decide) ?_
  refine lv_iadd C.1.1 C.1.2.1 dL_law_963 ?_
  refine fm_lsld C E h1 dL_law_964 ?_
  refine fm_lcallM C E [.int _] [.int r] lq_X10_loudest ln_X10_loudest lk_X10_loudest (c_Model_loudest l _ N _ _ _ _ hf2) rfl rfl hl.1 (by simp [Value.category]) ⟨⟨rfl, rfl⟩, Nat.le_of_ble_eq_true rfl, Nat.le_of_ble_eq_true rfl⟩ hc0 dL_law_965 rfl (fun H locs E => ?_)
  refine W.eq (g2 := F0 m 968 ls [.int r, .int r]) rfl ?_
  refine lv_icmp_eq (tgt := 1837) C.1.1 C.1.2.1 dL_law_968 (by decide) (fun _ => ?_) (fun h => absurd rfl h)
  exact W.widen (Nat.le_succ _) (Nat.le_add_right _ 6) (kk M1' M2' f H locs ls hR' E hl)
theorem dL_law_973 : decode cL_law 973 = .ok (.aload_n 1, 1) := by decide +kernel
theorem dL_law_974 : decode cL_law 974 = .ok (.invokevirtual 110, 3) := by decide +kernel
theorem dL_law_977 : decode cL_law 977 = .ok (.aload_n 2, 1) := by decide +kernel
theorem dL_law_978 : decode cL_law 978 = .ok (.invokevirtual 113, 3) := by decide +kernel
theorem dL_law_981 : decode cL_law 981 = .ok (.if_icmp .eq 856, 3) := by decide +kernel
theorem dL_law_984 : decode cL_law 984 = .ok (.iconst 0, 1) := by decide +kernel
theorem dL_law_985 : decode cL_law 985 = .ok (.ireturn, 1) := by decide +kernel
set_option maxHeartbeats 2000000 in
theorem lq_X9_pattern : fm_V "MicRowLaw" 110 yX9_pattern 0 := ⟨Or.inl (fm_wd 624 (by decide +kernel) (by decide +kernel)), fm_wd 625 (by decide +kernel) (by decide +kernel), fm_wd 626 (by decide +kernel) (by decide +kernel), fm_wd 81 (by decide +kernel) (by decide +kernel), ⟨by decide, by decide, by decide +kernel⟩⟩
theorem ln_X9_pattern : Cond.methodLink "MicRowLaw" 110 yX9_pattern ∈ fm_TT := fm_wd 624 (by decide +kernel) (by decide +kernel)
theorem lk_X9_pattern : Cond.code yX9_pattern cX9_pattern 5 (some .int) ∈ fm_TT := fm_wd 627 (by decide +kernel) (by decide +kernel)
theorem lq_X10_pattern : fm_V "MicRowLaw" 113 yX10_pattern 0 := ⟨Or.inl (fm_wd 1446 (by decide +kernel) (by decide +kernel)), fm_wd 1447 (by decide +kernel) (by decide +kernel), fm_wd 1448 (by decide +kernel) (by decide +kernel), fm_wd 91 (by decide +kernel) (by decide +kernel), ⟨by decide, by decide, by decide +kernel⟩⟩
theorem ln_X10_pattern : Cond.methodLink "MicRowLaw" 113 yX10_pattern ∈ fm_TT := fm_wd 1446 (by decide +kernel) (by decide +kernel)
theorem lk_X10_pattern : Cond.code yX10_pattern cX10_pattern 6 (some .int) ∈ fm_TT := fm_wd 1449 (by decide +kernel) (by decide +kernel)
theorem lw_case_pattern (C : fm_LC G ad1 ad2 qo p s m meth c b L xs) (hfl : l.stackTraces = false) (hcs : cells + 1 ≤ room_1.cells ∧ slots + 6 ≤ room_1.slots) (E : fm_LW G ad1 ad2 qo M1 M2 f s H locs) (hl : lv_has ls 8 [(0, .ref b), (1, .ref (ad1 0)), (2, .ref (ad2 0)), (3, .ref qo), (4, .int i)]) (h1 : fm_in (i + 1) L = true) (h2 : fm_in (i + 2) L = true) (h3 : fm_in (i + 3) L = true) (h4 : fm_in (i + 4) L = true) (hn : n < 512) (hR : R n M1 M2) (hc : cp_pattern N R) (kk : fm_KK p l e s m below meth c cells slots Q qo b n G ad1 ad2 i R) : W p l e room_1 s m #[Value.ref b] below meth c H locs cells slots Q (F0 m 973 ls []) := by
  obtain ⟨hc1, hc2⟩ := hcs
  have hc0 : cells ≤ room_1.cells ∧ slots ≤ room_1.slots := ⟨by omega, by omega⟩
  obtain ⟨r, M1', M2', hf1, hf2, hR'⟩ := hc n M1 M2  hn hR
  refine lv_aload_n C.1.1 C.1.2.1 dL_law_973 rfl (lv_at hl 1 rfl) ?_
  refine fm_lcallC C E [] [] lq_X9_pattern ln_X9_pattern lk_X9_pattern (c_MicRow_pattern l _ N _ _ _ hf1) rfl rfl hl.1 (by simp) ⟨⟨rfl, rfl⟩, Nat.le_of_ble_eq_true rfl, Nat.le_of_ble_eq_true rfl⟩ hc0 dL_law_974 rfl (fun H locs E => ?_)
  refine W.eq (g2 := F0 m 977 ls [.int r]) rfl ?_
  refine lv_aload_n C.1.1 C.1.2.1 dL_law_977 rfl (lv_at hl 2 rfl) ?_
  refine fm_lcallM C E [] [.int r] lq_X10_pattern ln_X10_pattern lk_X10_pattern (c_Model_pattern l _ N _ _ _ hf2) rfl rfl hl.1 (by simp [Value.category]) ⟨⟨rfl, rfl⟩, Nat.le_of_ble_eq_true rfl, Nat.le_of_ble_eq_true rfl⟩ hc0 dL_law_978 rfl (fun H locs E => ?_)
  refine W.eq (g2 := F0 m 981 ls [.int r, .int r]) rfl ?_
  refine lv_icmp_eq (tgt := 1837) C.1.1 C.1.2.1 dL_law_981 (by decide) (fun _ => ?_) (fun h => absurd rfl h)
  exact W.widen (Nat.le_succ _) (Nat.le_add_right _ 6) (kk M1' M2' f H locs ls hR' E hl)
theorem dL_law_986 : decode cL_law 986 = .ok (.aload_n 1, 1) := by decide +kernel
theorem dL_law_987 : decode cL_law 987 = .ok (.aload_n 0, 1) := by decide +kernel
theorem dL_law_988 : decode cL_law 988 = .ok (.iload 4, 2) := by decide +kernel
theorem dL_law_990 : decode cL_law 990 = .ok (.iconst 1, 1) := by decide +kernel
theorem dL_law_991 : decode cL_law 991 = .ok (.iadd, 1) := by decide +kernel
theorem dL_law_992 : decode cL_law 992 = .ok (.iaload, 1) := by decide +kernel
theorem dL_law_993 : decode cL_law 993 = .ok (.aload_n 0, 1) := by decide +kernel
theorem dL_law_994 : decode cL_law 994 = .ok (.iload 4, 2) := by decide +kernel
theorem dL_law_996 : decode cL_law 996 = .ok (.iconst 2, 1) := by decide +kernel
theorem dL_law_997 : decode cL_law 997 = .ok (.iadd, 1) := by decide +kernel
theorem dL_law_998 : decode cL_law 998 = .ok (.iaload, 1) := by decide +kernel
theorem dL_law_999 : decode cL_law 999 = .ok (.aload_n 0, 1) := by decide +kernel
theorem dL_law_1000 : decode cL_law 1000 = .ok (.iload 4, 2) := by decide +kernel
theorem dL_law_1002 : decode cL_law 1002 = .ok (.iconst 3, 1) := by decide +kernel
theorem dL_law_1003 : decode cL_law 1003 = .ok (.iadd, 1) := by decide +kernel
theorem dL_law_1004 : decode cL_law 1004 = .ok (.iaload, 1) := by decide +kernel
theorem dL_law_1005 : decode cL_law 1005 = .ok (.invokevirtual 114, 3) := by decide +kernel
theorem dL_law_1008 : decode cL_law 1008 = .ok (.aload_n 2, 1) := by decide +kernel
theorem dL_law_1009 : decode cL_law 1009 = .ok (.aload_n 0, 1) := by decide +kernel
theorem dL_law_1010 : decode cL_law 1010 = .ok (.iload 4, 2) := by decide +kernel
theorem dL_law_1012 : decode cL_law 1012 = .ok (.iconst 1, 1) := by decide +kernel
theorem dL_law_1013 : decode cL_law 1013 = .ok (.iadd, 1) := by decide +kernel
theorem dL_law_1014 : decode cL_law 1014 = .ok (.iaload, 1) := by decide +kernel
theorem dL_law_1015 : decode cL_law 1015 = .ok (.aload_n 0, 1) := by decide +kernel
theorem dL_law_1016 : decode cL_law 1016 = .ok (.iload 4, 2) := by decide +kernel
theorem dL_law_1018 : decode cL_law 1018 = .ok (.iconst 2, 1) := by decide +kernel
theorem dL_law_1019 : decode cL_law 1019 = .ok (.iadd, 1) := by decide +kernel
theorem dL_law_1020 : decode cL_law 1020 = .ok (.iaload, 1) := by decide +kernel
theorem dL_law_1021 : decode cL_law 1021 = .ok (.aload_n 0, 1) := by decide +kernel
theorem dL_law_1022 : decode cL_law 1022 = .ok (.iload 4, 2) := by decide +kernel
theorem dL_law_1024 : decode cL_law 1024 = .ok (.iconst 3, 1) := by decide +kernel
theorem dL_law_1025 : decode cL_law 1025 = .ok (.iadd, 1) := by decide +kernel
theorem dL_law_1026 : decode cL_law 1026 = .ok (.iaload, 1) := by decide +kernel
theorem dL_law_1027 : decode cL_law 1027 = .ok (.invokevirtual 117, 3) := by decide +kernel
theorem dL_law_1030 : decode cL_law 1030 = .ok (.if_icmp .eq 807, 3) := by decide +kernel
theorem dL_law_1033 : decode cL_law 1033 = .ok (.iconst 0, 1) := by decide +kernel
theorem dL_law_1034 : decode cL_law 1034 = .ok (.ireturn, 1) := by decide +kernel
set_option maxHeartbeats 2000000 in
theorem lq_X9_agree : fm_V "MicRowLaw" 114 yX9_agree 3 := ⟨Or.inl (fm_wd 628 (by decide +kernel) (by decide +kernel)), fm_wd 629 (by decide +kernel) (by decide +kernel), fm_wd 630 (by decide +kernel) (by decide +kernel), fm_wd 81 (by decide +kernel) (by decide +kernel), ⟨by decide, by decide, by decide +kernel⟩⟩
theorem ln_X9_agree : Cond.methodLink "MicRowLaw" 114 yX9_agree ∈ fm_TT := fm_wd 628 (by decide +kernel) (by decide +kernel)
theorem lk_X9_agree : Cond.code yX9_agree cX9_agree 6 (some .int) ∈ fm_TT := fm_wd 631 (by decide +kernel) (by decide +kernel)
theorem lq_X10_agree : fm_V "MicRowLaw" 117 yX10_agree 3 := ⟨Or.inl (fm_wd 1450 (by decide +kernel) (by decide +kernel)), fm_wd 1451 (by decide +kernel) (by decide +kernel), fm_wd 1452 (by decide +kernel) (by decide +kernel), fm_wd 91 (by decide +kernel) (by decide +kernel), ⟨by decide, by decide, by decide +kernel⟩⟩
theorem ln_X10_agree : Cond.methodLink "MicRowLaw" 117 yX10_agree ∈ fm_TT := fm_wd 1450 (by decide +kernel) (by decide +kernel)
theorem lk_X10_agree : Cond.code yX10_agree cX10_agree 4 (some .int) ∈ fm_TT := fm_wd 1453 (by decide +kernel) (by decide +kernel)
theorem lw_case_agree (C : fm_LC G ad1 ad2 qo p s m meth c b L xs) (hfl : l.stackTraces = false) (hcs : cells + 1 ≤ room_1.cells ∧ slots + 6 ≤ room_1.slots) (E : fm_LW G ad1 ad2 qo M1 M2 f s H locs) (hl : lv_has ls 8 [(0, .ref b), (1, .ref (ad1 0)), (2, .ref (ad2 0)), (3, .ref qo), (4, .int i)]) (h1 : fm_in (i + 1) L = true) (h2 : fm_in (i + 2) L = true) (h3 : fm_in (i + 3) L = true) (h4 : fm_in (i + 4) L = true) (hn : n < 512) (hR : R n M1 M2) (hc : cp_agree N R) (kk : fm_KK p l e s m below meth c cells slots Q qo b n G ad1 ad2 i R) : W p l e room_1 s m #[Value.ref b] below meth c H locs cells slots Q (F0 m 986 ls []) := by
  obtain ⟨hc1, hc2⟩ := hcs
  have hc0 : cells ≤ room_1.cells ∧ slots ≤ room_1.slots := ⟨by omega, by omega⟩
  obtain ⟨r, M1', M2', hf1, hf2, hR'⟩ := hc n M1 M2 (xs (i + 1).toNatClampNeg) (xs (i + 2).toNatClampNeg) (xs (i + 3).toNatClampNeg) hn hR
  refine lv_aload_n C.1.1 C.1.2.1 dL_law_986 rfl (lv_at hl 1 rfl) ?_
  refine lv_aload_n C.1.1 C.1.2.1 dL_law_987 rfl (lv_at hl 0 rfl) ?_
  refine lv_iload C.1.1 C.1.2.1 dL_law_988 (lv_at hl 4 rfl) ?_
  refine lv_iconst (v := 1) C.1.1 C.1.2.1 dL_law_990 (by decide) ?_
  refine lv_iadd C.1.1 C.1.2.1 dL_law_991 ?_
  refine fm_lsld C E h1 dL_law_992 ?_
  refine lv_aload_n C.1.1 C.1.2.1 dL_law_993 rfl (lv_at hl 0 rfl) ?_
  refine lv_iload C.1.1 C.1.2.1 dL_law_994 (lv_at hl 4 rfl) ?_
  refine lv_iconst (v := 2) C.1.1 C.1.2.1 dL_law_996 (by decide) ?_
  refine lv_iadd C.1.1 C.1.2.1 dL_law_997 ?_
  refine fm_lsld C E h2 dL_law_998 ?_
  refine lv_aload_n C.1.1 C.1.2.1 dL_law_999 rfl (lv_at hl 0 rfl) ?_
  refine lv_iload C.1.1 C.1.2.1 dL_law_1000 (lv_at hl 4 rfl) ?_
  refine lv_iconst (v := 3) C.1.1 C.1.2.1 dL_law_1002 (by decide) ?_
  refine lv_iadd C.1.1 C.1.2.1 dL_law_1003 ?_
  refine fm_lsld C E h3 dL_law_1004 ?_
  refine fm_lcallC C E [.int _, .int _, .int _] [] lq_X9_agree ln_X9_agree lk_X9_agree (c_MicRow_agree l _ N _ _ _ _ _ _ hf1) rfl rfl hl.1 (by simp) ⟨⟨rfl, rfl⟩, Nat.le_of_ble_eq_true rfl, Nat.le_of_ble_eq_true rfl⟩ hc0 dL_law_1005 rfl (fun H locs E => ?_)
  refine W.eq (g2 := F0 m 1008 ls [.int r]) rfl ?_
  refine lv_aload_n C.1.1 C.1.2.1 dL_law_1008 rfl (lv_at hl 2 rfl) ?_
  refine lv_aload_n C.1.1 C.1.2.1 dL_law_1009 rfl (lv_at hl 0 rfl) ?_
  refine lv_iload C.1.1 C.1.2.1 dL_law_1010 (lv_at hl 4 rfl) ?_
  refine lv_iconst (v := 1) C.1.1 C.1.2.1 dL_law_1012 (by decide) ?_
  refine lv_iadd C.1.1 C.1.2.1 dL_law_1013 ?_
  refine fm_lsld C E h1 dL_law_1014 ?_
  refine lv_aload_n C.1.1 C.1.2.1 dL_law_1015 rfl (lv_at hl 0 rfl) ?_
  refine lv_iload C.1.1 C.1.2.1 dL_law_1016 (lv_at hl 4 rfl) ?_
  refine lv_iconst (v := 2) C.1.1 C.1.2.1 dL_law_1018 (by decide) ?_
  refine lv_iadd C.1.1 C.1.2.1 dL_law_1019 ?_
  refine fm_lsld C E h2 dL_law_1020 ?_
  refine lv_aload_n C.1.1 C.1.2.1 dL_law_1021 rfl (lv_at hl 0 rfl) ?_
  refine lv_iload C.1.1 C.1.2.1 dL_law_1022 (lv_at hl 4 rfl) ?_
  refine lv_iconst (v := 3) C.1.1 C.1.2.1 dL_law_1024 (by decide) ?_
  refine lv_iadd C.1.1 C.1.2.1 dL_law_1025 ?_
  refine fm_lsld C E h3 dL_law_1026 ?_
  refine fm_lcallM C E [.int _, .int _, .int _] [.int r] lq_X10_agree ln_X10_agree lk_X10_agree (c_Model_agree l _ N _ _ _ _ _ _ hf2) rfl rfl hl.1 (by simp [Value.category]) ⟨⟨rfl, rfl⟩, Nat.le_of_ble_eq_true rfl, Nat.le_of_ble_eq_true rfl⟩ hc0 dL_law_1027 rfl (fun H locs E => ?_)
  refine W.eq (g2 := F0 m 1030 ls [.int r, .int r]) rfl ?_
  refine lv_icmp_eq (tgt := 1837) C.1.1 C.1.2.1 dL_law_1030 (by decide) (fun _ => ?_) (fun h => absurd rfl h)
  exact W.widen (Nat.le_succ _) (Nat.le_add_right _ 6) (kk M1' M2' f H locs ls hR' E hl)
theorem dL_law_1035 : decode cL_law 1035 = .ok (.aload_n 1, 1) := by decide +kernel
theorem dL_law_1036 : decode cL_law 1036 = .ok (.invokevirtual 118, 3) := by decide +kernel
theorem dL_law_1039 : decode cL_law 1039 = .ok (.aload_n 2, 1) := by decide +kernel
theorem dL_law_1040 : decode cL_law 1040 = .ok (.invokevirtual 121, 3) := by decide +kernel
theorem dL_law_1043 : decode cL_law 1043 = .ok (.if_icmp .eq 794, 3) := by decide +kernel
theorem dL_law_1046 : decode cL_law 1046 = .ok (.iconst 0, 1) := by decide +kernel
theorem dL_law_1047 : decode cL_law 1047 = .ok (.ireturn, 1) := by decide +kernel
set_option maxHeartbeats 2000000 in
theorem lq_X9_from : fm_V "MicRowLaw" 118 yX9_from 0 := ⟨Or.inl (fm_wd 646 (by decide +kernel) (by decide +kernel)), fm_wd 647 (by decide +kernel) (by decide +kernel), fm_wd 648 (by decide +kernel) (by decide +kernel), fm_wd 81 (by decide +kernel) (by decide +kernel), ⟨by decide, by decide, by decide +kernel⟩⟩
theorem ln_X9_from : Cond.methodLink "MicRowLaw" 118 yX9_from ∈ fm_TT := fm_wd 646 (by decide +kernel) (by decide +kernel)
theorem lk_X9_from : Cond.code yX9_from cX9_from 2 (some .int) ∈ fm_TT := fm_wd 649 (by decide +kernel) (by decide +kernel)
theorem lq_X10_from : fm_V "MicRowLaw" 121 yX10_from 0 := ⟨Or.inl (fm_wd 1461 (by decide +kernel) (by decide +kernel)), fm_wd 1462 (by decide +kernel) (by decide +kernel), fm_wd 1463 (by decide +kernel) (by decide +kernel), fm_wd 91 (by decide +kernel) (by decide +kernel), ⟨by decide, by decide, by decide +kernel⟩⟩
theorem ln_X10_from : Cond.methodLink "MicRowLaw" 121 yX10_from ∈ fm_TT := fm_wd 1461 (by decide +kernel) (by decide +kernel)
theorem lk_X10_from : Cond.code yX10_from cX10_from 4 (some .int) ∈ fm_TT := fm_wd 1464 (by decide +kernel) (by decide +kernel)
theorem lw_case_from (C : fm_LC G ad1 ad2 qo p s m meth c b L xs) (hfl : l.stackTraces = false) (hcs : cells + 1 ≤ room_1.cells ∧ slots + 6 ≤ room_1.slots) (E : fm_LW G ad1 ad2 qo M1 M2 f s H locs) (hl : lv_has ls 8 [(0, .ref b), (1, .ref (ad1 0)), (2, .ref (ad2 0)), (3, .ref qo), (4, .int i)]) (h1 : fm_in (i + 1) L = true) (h2 : fm_in (i + 2) L = true) (h3 : fm_in (i + 3) L = true) (h4 : fm_in (i + 4) L = true) (hn : n < 512) (hR : R n M1 M2) (hc : cp_from N R) (kk : fm_KK p l e s m below meth c cells slots Q qo b n G ad1 ad2 i R) : W p l e room_1 s m #[Value.ref b] below meth c H locs cells slots Q (F0 m 1035 ls []) := by
  obtain ⟨hc1, hc2⟩ := hcs
  have hc0 : cells ≤ room_1.cells ∧ slots ≤ room_1.slots := ⟨by omega, by omega⟩
  obtain ⟨r, M1', M2', hf1, hf2, hR'⟩ := hc n M1 M2  hn hR
  refine lv_aload_n C.1.1 C.1.2.1 dL_law_1035 rfl (lv_at hl 1 rfl) ?_
  refine fm_lcallC C E [] [] lq_X9_from ln_X9_from lk_X9_from (c_MicRow_from l _ N _ _ _ hf1) rfl rfl hl.1 (by simp) ⟨⟨rfl, rfl⟩, Nat.le_of_ble_eq_true rfl, Nat.le_of_ble_eq_true rfl⟩ hc0 dL_law_1036 rfl (fun H locs E => ?_)
  refine W.eq (g2 := F0 m 1039 ls [.int r]) rfl ?_
  refine lv_aload_n C.1.1 C.1.2.1 dL_law_1039 rfl (lv_at hl 2 rfl) ?_
  refine fm_lcallM C E [] [.int r] lq_X10_from ln_X10_from lk_X10_from (c_Model_from l _ N _ _ _ hf2) rfl rfl hl.1 (by simp [Value.category]) ⟨⟨rfl, rfl⟩, Nat.le_of_ble_eq_true rfl, Nat.le_of_ble_eq_true rfl⟩ hc0 dL_law_1040 rfl (fun H locs E => ?_)
  refine W.eq (g2 := F0 m 1043 ls [.int r, .int r]) rfl ?_
  refine lv_icmp_eq (tgt := 1837) C.1.1 C.1.2.1 dL_law_1043 (by decide) (fun _ => ?_) (fun h => absurd rfl h)
  exact W.widen (Nat.le_succ _) (Nat.le_add_right _ 6) (kk M1' M2' f H locs ls hR' E hl)
theorem dL_law_1048 : decode cL_law 1048 = .ok (.aload_n 1, 1) := by decide +kernel
theorem dL_law_1049 : decode cL_law 1049 = .ok (.invokevirtual 122, 3) := by decide +kernel
theorem dL_law_1052 : decode cL_law 1052 = .ok (.aload_n 2, 1) := by decide +kernel
theorem dL_law_1053 : decode cL_law 1053 = .ok (.invokevirtual 125, 3) := by decide +kernel
theorem dL_law_1056 : decode cL_law 1056 = .ok (.if_icmp .eq 781, 3) := by decide +kernel
theorem dL_law_1059 : decode cL_law 1059 = .ok (.iconst 0, 1) := by decide +kernel
theorem dL_law_1060 : decode cL_law 1060 = .ok (.ireturn, 1) := by decide +kernel
set_option maxHeartbeats 2000000 in
theorem lq_X9_doubtful : fm_V "MicRowLaw" 122 yX9_doubtful 0 := ⟨Or.inl (fm_wd 691 (by decide +kernel) (by decide +kernel)), fm_wd 692 (by decide +kernel) (by decide +kernel), fm_wd 693 (by decide +kernel) (by decide +kernel), fm_wd 81 (by decide +kernel) (by decide +kernel), ⟨by decide, by decide, by decide +kernel⟩⟩
theorem ln_X9_doubtful : Cond.methodLink "MicRowLaw" 122 yX9_doubtful ∈ fm_TT := fm_wd 691 (by decide +kernel) (by decide +kernel)
theorem lk_X9_doubtful : Cond.code yX9_doubtful cX9_doubtful 4 (some .int) ∈ fm_TT := fm_wd 694 (by decide +kernel) (by decide +kernel)
theorem lq_X10_doubtful : fm_V "MicRowLaw" 125 yX10_doubtful 0 := ⟨Or.inl (fm_wd 1469 (by decide +kernel) (by decide +kernel)), fm_wd 1470 (by decide +kernel) (by decide +kernel), fm_wd 1471 (by decide +kernel) (by decide +kernel), fm_wd 91 (by decide +kernel) (by decide +kernel), ⟨by decide, by decide, by decide +kernel⟩⟩
theorem ln_X10_doubtful : Cond.methodLink "MicRowLaw" 125 yX10_doubtful ∈ fm_TT := fm_wd 1469 (by decide +kernel) (by decide +kernel)
theorem lk_X10_doubtful : Cond.code yX10_doubtful cX10_doubtful 4 (some .int) ∈ fm_TT := fm_wd 1472 (by decide +kernel) (by decide +kernel)
theorem lw_case_doubtful (C : fm_LC G ad1 ad2 qo p s m meth c b L xs) (hfl : l.stackTraces = false) (hcs : cells + 1 ≤ room_1.cells ∧ slots + 6 ≤ room_1.slots) (E : fm_LW G ad1 ad2 qo M1 M2 f s H locs) (hl : lv_has ls 8 [(0, .ref b), (1, .ref (ad1 0)), (2, .ref (ad2 0)), (3, .ref qo), (4, .int i)]) (h1 : fm_in (i + 1) L = true) (h2 : fm_in (i + 2) L = true) (h3 : fm_in (i + 3) L = true) (h4 : fm_in (i + 4) L = true) (hn : n < 512) (hR : R n M1 M2) (hc : cp_doubtful N R) (kk : fm_KK p l e s m below meth c cells slots Q qo b n G ad1 ad2 i R) : W p l e room_1 s m #[Value.ref b] below meth c H locs cells slots Q (F0 m 1048 ls []) := by
  obtain ⟨hc1, hc2⟩ := hcs
  have hc0 : cells ≤ room_1.cells ∧ slots ≤ room_1.slots := ⟨by omega, by omega⟩
  obtain ⟨r, M1', M2', hf1, hf2, hR'⟩ := hc n M1 M2  hn hR
  refine lv_aload_n C.1.1 C.1.2.1 dL_law_1048 rfl (lv_at hl 1 rfl) ?_
  refine fm_lcallC C E [] [] lq_X9_doubtful ln_X9_doubtful lk_X9_doubtful (c_MicRow_doubtful l _ N _ _ _ hf1) rfl rfl hl.1 (by simp) ⟨⟨rfl, rfl⟩, Nat.le_of_ble_eq_true rfl, Nat.le_of_ble_eq_true rfl⟩ hc0 dL_law_1049 rfl (fun H locs E => ?_)
  refine W.eq (g2 := F0 m 1052 ls [.int r]) rfl ?_
  refine lv_aload_n C.1.1 C.1.2.1 dL_law_1052 rfl (lv_at hl 2 rfl) ?_
  refine fm_lcallM C E [] [.int r] lq_X10_doubtful ln_X10_doubtful lk_X10_doubtful (c_Model_doubtful l _ N _ _ _ hf2) rfl rfl hl.1 (by simp [Value.category]) ⟨⟨rfl, rfl⟩, Nat.le_of_ble_eq_true rfl, Nat.le_of_ble_eq_true rfl⟩ hc0 dL_law_1053 rfl (fun H locs E => ?_)
  refine W.eq (g2 := F0 m 1056 ls [.int r, .int r]) rfl ?_
  refine lv_icmp_eq (tgt := 1837) C.1.1 C.1.2.1 dL_law_1056 (by decide) (fun _ => ?_) (fun h => absurd rfl h)
  exact W.widen (Nat.le_succ _) (Nat.le_add_right _ 6) (kk M1' M2' f H locs ls hR' E hl)
theorem dL_law_1061 : decode cL_law 1061 = .ok (.aload_n 1, 1) := by decide +kernel
theorem dL_law_1062 : decode cL_law 1062 = .ok (.aload_n 0, 1) := by decide +kernel
theorem dL_law_1063 : decode cL_law 1063 = .ok (.iload 4, 2) := by decide +kernel
theorem dL_law_1065 : decode cL_law 1065 = .ok (.iconst 1, 1) := by decide +kernel
theorem dL_law_1066 : decode cL_law 1066 = .ok (.iadd, 1) := by decide +kernel
theorem dL_law_1067 : decode cL_law 1067 = .ok (.iaload, 1) := by decide +kernel
theorem dL_law_1068 : decode cL_law 1068 = .ok (.invokevirtual 126, 3) := by decide +kernel
theorem dL_law_1071 : decode cL_law 1071 = .ok (.aload_n 2, 1) := by decide +kernel
theorem dL_law_1072 : decode cL_law 1072 = .ok (.aload_n 0, 1) := by decide +kernel
theorem dL_law_1073 : decode cL_law 1073 = .ok (.iload 4, 2) := by decide +kernel
theorem dL_law_1075 : decode cL_law 1075 = .ok (.iconst 1, 1) := by decide +kernel
theorem dL_law_1076 : decode cL_law 1076 = .ok (.iadd, 1) := by decide +kernel
theorem dL_law_1077 : decode cL_law 1077 = .ok (.iaload, 1) := by decide +kernel
theorem dL_law_1078 : decode cL_law 1078 = .ok (.invokevirtual 129, 3) := by decide +kernel
theorem dL_law_1081 : decode cL_law 1081 = .ok (.if_icmp .eq 756, 3) := by decide +kernel
theorem dL_law_1084 : decode cL_law 1084 = .ok (.iconst 0, 1) := by decide +kernel
theorem dL_law_1085 : decode cL_law 1085 = .ok (.ireturn, 1) := by decide +kernel
set_option maxHeartbeats 2000000 in
theorem lq_X9_tracks : fm_V "MicRowLaw" 126 yX9_tracks 1 := ⟨Or.inl (fm_wd 695 (by decide +kernel) (by decide +kernel)), fm_wd 696 (by decide +kernel) (by decide +kernel), fm_wd 697 (by decide +kernel) (by decide +kernel), fm_wd 81 (by decide +kernel) (by decide +kernel), ⟨by decide, by decide, by decide +kernel⟩⟩
theorem ln_X9_tracks : Cond.methodLink "MicRowLaw" 126 yX9_tracks ∈ fm_TT := fm_wd 695 (by decide +kernel) (by decide +kernel)
theorem lk_X9_tracks : Cond.code yX9_tracks cX9_tracks 7 (some .int) ∈ fm_TT := fm_wd 698 (by decide +kernel) (by decide +kernel)
theorem lq_X10_tracks : fm_V "MicRowLaw" 129 yX10_tracks 1 := ⟨Or.inl (fm_wd 1477 (by decide +kernel) (by decide +kernel)), fm_wd 1478 (by decide +kernel) (by decide +kernel), fm_wd 1479 (by decide +kernel) (by decide +kernel), fm_wd 91 (by decide +kernel) (by decide +kernel), ⟨by decide, by decide, by decide +kernel⟩⟩
theorem ln_X10_tracks : Cond.methodLink "MicRowLaw" 129 yX10_tracks ∈ fm_TT := fm_wd 1477 (by decide +kernel) (by decide +kernel)
theorem lk_X10_tracks : Cond.code yX10_tracks cX10_tracks 6 (some .int) ∈ fm_TT := fm_wd 1480 (by decide +kernel) (by decide +kernel)
theorem lw_case_tracks (C : fm_LC G ad1 ad2 qo p s m meth c b L xs) (hfl : l.stackTraces = false) (hcs : cells + 1 ≤ room_1.cells ∧ slots + 6 ≤ room_1.slots) (E : fm_LW G ad1 ad2 qo M1 M2 f s H locs) (hl : lv_has ls 8 [(0, .ref b), (1, .ref (ad1 0)), (2, .ref (ad2 0)), (3, .ref qo), (4, .int i)]) (h1 : fm_in (i + 1) L = true) (h2 : fm_in (i + 2) L = true) (h3 : fm_in (i + 3) L = true) (h4 : fm_in (i + 4) L = true) (hn : n < 512) (hR : R n M1 M2) (hc : cp_tracks N R) (kk : fm_KK p l e s m below meth c cells slots Q qo b n G ad1 ad2 i R) : W p l e room_1 s m #[Value.ref b] below meth c H locs cells slots Q (F0 m 1061 ls []) := by
  obtain ⟨hc1, hc2⟩ := hcs
  have hc0 : cells ≤ room_1.cells ∧ slots ≤ room_1.slots := ⟨by omega, by omega⟩
  obtain ⟨r, M1', M2', hf1, hf2, hR'⟩ := hc n M1 M2 (xs (i + 1).toNatClampNeg) hn hR
  refine lv_aload_n C.1.1 C.1.2.1 dL_law_1061 rfl (lv_at hl 1 rfl) ?_
  refine lv_aload_n C.1.1 C.1.2.1 dL_law_1062 rfl (lv_at hl 0 rfl) ?_
  refine lv_iload C.1.1 C.1.2.1 dL_law_1063 (lv_at hl 4 rfl) ?_
  refine lv_iconst (v := 1) C.1.1 C.1.2.1 dL_law_1065 (by decide) ?_
  refine lv_iadd C.1.1 C.1.2.1 dL_law_1066 ?_
  refine fm_lsld C E h1 dL_law_1067 ?_
  refine fm_lcallC C E [.int _] [] lq_X9_tracks ln_X9_tracks lk_X9_tracks (c_MicRow_tracks l _ N _ _ _ _ hf1) rfl rfl hl.1 (by simp) ⟨⟨rfl, rfl⟩, Nat.le_of_ble_eq_true rfl, Nat.le_of_ble_eq_true rfl⟩ hc0 dL_law_1068 rfl (fun H locs E => ?_)
  refine W.eq (g2 := F0 m 1071 ls [.int r]) rfl ?_
  refine lv_aload_n C.1.1 C.1.2.1 dL_law_1071 rfl (lv_at hl 2 rfl) ?_
  refine lv_aload_n C.1.1 C.1.2.1 dL_law_1072 rfl (lv_at hl 0 rfl) ?_
  refine lv_iload C.1.1 C.1.2.1 dL_law_1073 (lv_at hl 4 rfl) ?_
  refine lv_iconst (v := 1) C.1.1 C.1.2.1 dL_law_1075 (by decide) ?_
  refine lv_iadd C.1.1 C.1.2.1 dL_law_1076 ?_
  refine fm_lsld C E h1 dL_law_1077 ?_
  refine fm_lcallM C E [.int _] [.int r] lq_X10_tracks ln_X10_tracks lk_X10_tracks (c_Model_tracks l _ N _ _ _ _ hf2) rfl rfl hl.1 (by simp [Value.category]) ⟨⟨rfl, rfl⟩, Nat.le_of_ble_eq_true rfl, Nat.le_of_ble_eq_true rfl⟩ hc0 dL_law_1078 rfl (fun H locs E => ?_)
  refine W.eq (g2 := F0 m 1081 ls [.int r, .int r]) rfl ?_
  refine lv_icmp_eq (tgt := 1837) C.1.1 C.1.2.1 dL_law_1081 (by decide) (fun _ => ?_) (fun h => absurd rfl h)
  exact W.widen (Nat.le_succ _) (Nat.le_add_right _ 6) (kk M1' M2' f H locs ls hR' E hl)
theorem dL_law_1086 : decode cL_law 1086 = .ok (.aload_n 1, 1) := by decide +kernel
theorem dL_law_1087 : decode cL_law 1087 = .ok (.aload_n 0, 1) := by decide +kernel
theorem dL_law_1088 : decode cL_law 1088 = .ok (.iload 4, 2) := by decide +kernel
theorem dL_law_1090 : decode cL_law 1090 = .ok (.iconst 1, 1) := by decide +kernel
theorem dL_law_1091 : decode cL_law 1091 = .ok (.iadd, 1) := by decide +kernel
theorem dL_law_1092 : decode cL_law 1092 = .ok (.iaload, 1) := by decide +kernel
theorem dL_law_1093 : decode cL_law 1093 = .ok (.invokevirtual 130, 3) := by decide +kernel
theorem dL_law_1096 : decode cL_law 1096 = .ok (.aload_n 2, 1) := by decide +kernel
theorem dL_law_1097 : decode cL_law 1097 = .ok (.aload_n 0, 1) := by decide +kernel
theorem dL_law_1098 : decode cL_law 1098 = .ok (.iload 4, 2) := by decide +kernel
theorem dL_law_1100 : decode cL_law 1100 = .ok (.iconst 1, 1) := by decide +kernel
theorem dL_law_1101 : decode cL_law 1101 = .ok (.iadd, 1) := by decide +kernel
theorem dL_law_1102 : decode cL_law 1102 = .ok (.iaload, 1) := by decide +kernel
theorem dL_law_1103 : decode cL_law 1103 = .ok (.invokevirtual 133, 3) := by decide +kernel
theorem dL_law_1106 : decode cL_law 1106 = .ok (.if_icmp .eq 731, 3) := by decide +kernel
theorem dL_law_1109 : decode cL_law 1109 = .ok (.iconst 0, 1) := by decide +kernel
theorem dL_law_1110 : decode cL_law 1110 = .ok (.ireturn, 1) := by decide +kernel
set_option maxHeartbeats 2000000 in
theorem lq_X9_strongest : fm_V "MicRowLaw" 130 yX9_strongest 1 := ⟨Or.inl (fm_wd 699 (by decide +kernel) (by decide +kernel)), fm_wd 700 (by decide +kernel) (by decide +kernel), fm_wd 701 (by decide +kernel) (by decide +kernel), fm_wd 81 (by decide +kernel) (by decide +kernel), ⟨by decide, by decide, by decide +kernel⟩⟩
theorem ln_X9_strongest : Cond.methodLink "MicRowLaw" 130 yX9_strongest ∈ fm_TT := fm_wd 699 (by decide +kernel) (by decide +kernel)
theorem lk_X9_strongest : Cond.code yX9_strongest cX9_strongest 8 (some .int) ∈ fm_TT := fm_wd 702 (by decide +kernel) (by decide +kernel)
theorem lq_X10_strongest : fm_V "MicRowLaw" 133 yX10_strongest 1 := ⟨Or.inl (fm_wd 1481 (by decide +kernel) (by decide +kernel)), fm_wd 1482 (by decide +kernel) (by decide +kernel), fm_wd 1483 (by decide +kernel) (by decide +kernel), fm_wd 91 (by decide +kernel) (by decide +kernel), ⟨by decide, by decide, by decide +kernel⟩⟩
theorem ln_X10_strongest : Cond.methodLink "MicRowLaw" 133 yX10_strongest ∈ fm_TT := fm_wd 1481 (by decide +kernel) (by decide +kernel)
theorem lk_X10_strongest : Cond.code yX10_strongest cX10_strongest 8 (some .int) ∈ fm_TT := fm_wd 1484 (by decide +kernel) (by decide +kernel)
theorem lw_case_strongest (C : fm_LC G ad1 ad2 qo p s m meth c b L xs) (hfl : l.stackTraces = false) (hcs : cells + 1 ≤ room_1.cells ∧ slots + 6 ≤ room_1.slots) (E : fm_LW G ad1 ad2 qo M1 M2 f s H locs) (hl : lv_has ls 8 [(0, .ref b), (1, .ref (ad1 0)), (2, .ref (ad2 0)), (3, .ref qo), (4, .int i)]) (h1 : fm_in (i + 1) L = true) (h2 : fm_in (i + 2) L = true) (h3 : fm_in (i + 3) L = true) (h4 : fm_in (i + 4) L = true) (hn : n < 512) (hR : R n M1 M2) (hc : cp_strongest N R) (kk : fm_KK p l e s m below meth c cells slots Q qo b n G ad1 ad2 i R) : W p l e room_1 s m #[Value.ref b] below meth c H locs cells slots Q (F0 m 1086 ls []) := by
  obtain ⟨hc1, hc2⟩ := hcs
  have hc0 : cells ≤ room_1.cells ∧ slots ≤ room_1.slots := ⟨by omega, by omega⟩
  obtain ⟨r, M1', M2', hf1, hf2, hR'⟩ := hc n M1 M2 (xs (i + 1).toNatClampNeg) hn hR
  refine lv_aload_n C.1.1 C.1.2.1 dL_law_1086 rfl (lv_at hl 1 rfl) ?_
  refine lv_aload_n C.1.1 C.1.2.1 dL_law_1087 rfl (lv_at hl 0 rfl) ?_
  refine lv_iload C.1.1 C.1.2.1 dL_law_1088 (lv_at hl 4 rfl) ?_
  refine lv_iconst (v := 1) C.1.1 C.1.2.1 dL_law_1090 (by decide) ?_
  refine lv_iadd C.1.1 C.1.2.1 dL_law_1091 ?_
  refine fm_lsld C E h1 dL_law_1092 ?_
  refine fm_lcallC C E [.int _] [] lq_X9_strongest ln_X9_strongest lk_X9_strongest (c_MicRow_strongest l _ N _ _ _ _ hf1) rfl rfl hl.1 (by simp) ⟨⟨rfl, rfl⟩, Nat.le_of_ble_eq_true rfl, Nat.le_of_ble_eq_true rfl⟩ hc0 dL_law_1093 rfl (fun H locs E => ?_)
  refine W.eq (g2 := F0 m 1096 ls [.int r]) rfl ?_
  refine lv_aload_n C.1.1 C.1.2.1 dL_law_1096 rfl (lv_at hl 2 rfl) ?_
  refine lv_aload_n C.1.1 C.1.2.1 dL_law_1097 rfl (lv_at hl 0 rfl) ?_
  refine lv_iload C.1.1 C.1.2.1 dL_law_1098 (lv_at hl 4 rfl) ?_
  refine lv_iconst (v := 1) C.1.1 C.1.2.1 dL_law_1100 (by decide) ?_
  refine lv_iadd C.1.1 C.1.2.1 dL_law_1101 ?_
  refine fm_lsld C E h1 dL_law_1102 ?_
  refine fm_lcallM C E [.int _] [.int r] lq_X10_strongest ln_X10_strongest lk_X10_strongest (c_Model_strongest l _ N _ _ _ _ hf2) rfl rfl hl.1 (by simp [Value.category]) ⟨⟨rfl, rfl⟩, Nat.le_of_ble_eq_true rfl, Nat.le_of_ble_eq_true rfl⟩ hc0 dL_law_1103 rfl (fun H locs E => ?_)
  refine W.eq (g2 := F0 m 1106 ls [.int r, .int r]) rfl ?_
  refine lv_icmp_eq (tgt := 1837) C.1.1 C.1.2.1 dL_law_1106 (by decide) (fun _ => ?_) (fun h => absurd rfl h)
  exact W.widen (Nat.le_succ _) (Nat.le_add_right _ 6) (kk M1' M2' f H locs ls hR' E hl)
theorem dL_law_1111 : decode cL_law 1111 = .ok (.aload_n 1, 1) := by decide +kernel
theorem dL_law_1112 : decode cL_law 1112 = .ok (.aload_n 0, 1) := by decide +kernel
theorem dL_law_1113 : decode cL_law 1113 = .ok (.iload 4, 2) := by decide +kernel
theorem dL_law_1115 : decode cL_law 1115 = .ok (.iconst 1, 1) := by decide +kernel
theorem dL_law_1116 : decode cL_law 1116 = .ok (.iadd, 1) := by decide +kernel
theorem dL_law_1117 : decode cL_law 1117 = .ok (.iaload, 1) := by decide +kernel
theorem dL_law_1118 : decode cL_law 1118 = .ok (.invokevirtual 134, 3) := by decide +kernel
theorem dL_law_1121 : decode cL_law 1121 = .ok (.aload_n 2, 1) := by decide +kernel
theorem dL_law_1122 : decode cL_law 1122 = .ok (.aload_n 0, 1) := by decide +kernel
theorem dL_law_1123 : decode cL_law 1123 = .ok (.iload 4, 2) := by decide +kernel
theorem dL_law_1125 : decode cL_law 1125 = .ok (.iconst 1, 1) := by decide +kernel
theorem dL_law_1126 : decode cL_law 1126 = .ok (.iadd, 1) := by decide +kernel
theorem dL_law_1127 : decode cL_law 1127 = .ok (.iaload, 1) := by decide +kernel
theorem dL_law_1128 : decode cL_law 1128 = .ok (.invokevirtual 137, 3) := by decide +kernel
theorem dL_law_1131 : decode cL_law 1131 = .ok (.if_icmp .eq 706, 3) := by decide +kernel
theorem dL_law_1134 : decode cL_law 1134 = .ok (.iconst 0, 1) := by decide +kernel
theorem dL_law_1135 : decode cL_law 1135 = .ok (.ireturn, 1) := by decide +kernel
set_option maxHeartbeats 2000000 in
theorem lq_X9_faults : fm_V "MicRowLaw" 134 yX9_faults 1 := ⟨Or.inl (fm_wd 707 (by decide +kernel) (by decide +kernel)), fm_wd 708 (by decide +kernel) (by decide +kernel), fm_wd 709 (by decide +kernel) (by decide +kernel), fm_wd 81 (by decide +kernel) (by decide +kernel), ⟨by decide, by decide, by decide +kernel⟩⟩
theorem ln_X9_faults : Cond.methodLink "MicRowLaw" 134 yX9_faults ∈ fm_TT := fm_wd 707 (by decide +kernel) (by decide +kernel)
theorem lk_X9_faults : Cond.code yX9_faults cX9_faults 6 (some .int) ∈ fm_TT := fm_wd 710 (by decide +kernel) (by decide +kernel)
theorem lq_X10_faults : fm_V "MicRowLaw" 137 yX10_faults 1 := ⟨Or.inl (fm_wd 1489 (by decide +kernel) (by decide +kernel)), fm_wd 1490 (by decide +kernel) (by decide +kernel), fm_wd 1491 (by decide +kernel) (by decide +kernel), fm_wd 91 (by decide +kernel) (by decide +kernel), ⟨by decide, by decide, by decide +kernel⟩⟩
theorem ln_X10_faults : Cond.methodLink "MicRowLaw" 137 yX10_faults ∈ fm_TT := fm_wd 1489 (by decide +kernel) (by decide +kernel)
theorem lk_X10_faults : Cond.code yX10_faults cX10_faults 6 (some .int) ∈ fm_TT := fm_wd 1492 (by decide +kernel) (by decide +kernel)
theorem lw_case_faults (C : fm_LC G ad1 ad2 qo p s m meth c b L xs) (hfl : l.stackTraces = false) (hcs : cells + 1 ≤ room_1.cells ∧ slots + 6 ≤ room_1.slots) (E : fm_LW G ad1 ad2 qo M1 M2 f s H locs) (hl : lv_has ls 8 [(0, .ref b), (1, .ref (ad1 0)), (2, .ref (ad2 0)), (3, .ref qo), (4, .int i)]) (h1 : fm_in (i + 1) L = true) (h2 : fm_in (i + 2) L = true) (h3 : fm_in (i + 3) L = true) (h4 : fm_in (i + 4) L = true) (hn : n < 512) (hR : R n M1 M2) (hc : cp_faults N R) (kk : fm_KK p l e s m below meth c cells slots Q qo b n G ad1 ad2 i R) : W p l e room_1 s m #[Value.ref b] below meth c H locs cells slots Q (F0 m 1111 ls []) := by
  obtain ⟨hc1, hc2⟩ := hcs
  have hc0 : cells ≤ room_1.cells ∧ slots ≤ room_1.slots := ⟨by omega, by omega⟩
  obtain ⟨r, M1', M2', hf1, hf2, hR'⟩ := hc n M1 M2 (xs (i + 1).toNatClampNeg) hn hR
  refine lv_aload_n C.1.1 C.1.2.1 dL_law_1111 rfl (lv_at hl 1 rfl) ?_
  refine lv_aload_n C.1.1 C.1.2.1 dL_law_1112 rfl (lv_at hl 0 rfl) ?_
  refine lv_iload C.1.1 C.1.2.1 dL_law_1113 (lv_at hl 4 rfl) ?_
  refine lv_iconst (v := 1) C.1.1 C.1.2.1 dL_law_1115 (by decide) ?_
  refine lv_iadd C.1.1 C.1.2.1 dL_law_1116 ?_
  refine fm_lsld C E h1 dL_law_1117 ?_
  refine fm_lcallC C E [.int _] [] lq_X9_faults ln_X9_faults lk_X9_faults (c_MicRow_faults l _ N _ _ _ _ hf1) rfl rfl hl.1 (by simp) ⟨⟨rfl, rfl⟩, Nat.le_of_ble_eq_true rfl, Nat.le_of_ble_eq_true rfl⟩ hc0 dL_law_1118 rfl (fun H locs E => ?_)
  refine W.eq (g2 := F0 m 1121 ls [.int r]) rfl ?_
  refine lv_aload_n C.1.1 C.1.2.1 dL_law_1121 rfl (lv_at hl 2 rfl) ?_
  refine lv_aload_n C.1.1 C.1.2.1 dL_law_1122 rfl (lv_at hl 0 rfl) ?_
  refine lv_iload C.1.1 C.1.2.1 dL_law_1123 (lv_at hl 4 rfl) ?_
  refine lv_iconst (v := 1) C.1.1 C.1.2.1 dL_law_1125 (by decide) ?_
  refine lv_iadd C.1.1 C.1.2.1 dL_law_1126 ?_
  refine fm_lsld C E h1 dL_law_1127 ?_
  refine fm_lcallM C E [.int _] [.int r] lq_X10_faults ln_X10_faults lk_X10_faults (c_Model_faults l _ N _ _ _ _ hf2) rfl rfl hl.1 (by simp [Value.category]) ⟨⟨rfl, rfl⟩, Nat.le_of_ble_eq_true rfl, Nat.le_of_ble_eq_true rfl⟩ hc0 dL_law_1128 rfl (fun H locs E => ?_)
  refine W.eq (g2 := F0 m 1131 ls [.int r, .int r]) rfl ?_
  refine lv_icmp_eq (tgt := 1837) C.1.1 C.1.2.1 dL_law_1131 (by decide) (fun _ => ?_) (fun h => absurd rfl h)
  exact W.widen (Nat.le_succ _) (Nat.le_add_right _ 6) (kk M1' M2' f H locs ls hR' E hl)
theorem dL_law_1136 : decode cL_law 1136 = .ok (.aload_n 1, 1) := by decide +kernel
theorem dL_law_1137 : decode cL_law 1137 = .ok (.aload_n 0, 1) := by decide +kernel
theorem dL_law_1138 : decode cL_law 1138 = .ok (.iload 4, 2) := by decide +kernel
theorem dL_law_1140 : decode cL_law 1140 = .ok (.iconst 1, 1) := by decide +kernel
theorem dL_law_1141 : decode cL_law 1141 = .ok (.iadd, 1) := by decide +kernel
theorem dL_law_1142 : decode cL_law 1142 = .ok (.iaload, 1) := by decide +kernel
theorem dL_law_1143 : decode cL_law 1143 = .ok (.invokevirtual 138, 3) := by decide +kernel
theorem dL_law_1146 : decode cL_law 1146 = .ok (.aload_n 2, 1) := by decide +kernel
theorem dL_law_1147 : decode cL_law 1147 = .ok (.aload_n 0, 1) := by decide +kernel
theorem dL_law_1148 : decode cL_law 1148 = .ok (.iload 4, 2) := by decide +kernel
theorem dL_law_1150 : decode cL_law 1150 = .ok (.iconst 1, 1) := by decide +kernel
theorem dL_law_1151 : decode cL_law 1151 = .ok (.iadd, 1) := by decide +kernel
theorem dL_law_1152 : decode cL_law 1152 = .ok (.iaload, 1) := by decide +kernel
theorem dL_law_1153 : decode cL_law 1153 = .ok (.invokevirtual 141, 3) := by decide +kernel
theorem dL_law_1156 : decode cL_law 1156 = .ok (.if_icmp .eq 681, 3) := by decide +kernel
theorem dL_law_1159 : decode cL_law 1159 = .ok (.iconst 0, 1) := by decide +kernel
theorem dL_law_1160 : decode cL_law 1160 = .ok (.ireturn, 1) := by decide +kernel
set_option maxHeartbeats 2000000 in
theorem lq_X9_clipped : fm_V "MicRowLaw" 138 yX9_clipped 1 := ⟨Or.inl (fm_wd 723 (by decide +kernel) (by decide +kernel)), fm_wd 724 (by decide +kernel) (by decide +kernel), fm_wd 725 (by decide +kernel) (by decide +kernel), fm_wd 81 (by decide +kernel) (by decide +kernel), ⟨by decide, by decide, by decide +kernel⟩⟩
theorem ln_X9_clipped : Cond.methodLink "MicRowLaw" 138 yX9_clipped ∈ fm_TT := fm_wd 723 (by decide +kernel) (by decide +kernel)
theorem lk_X9_clipped : Cond.code yX9_clipped cX9_clipped 2 (some .int) ∈ fm_TT := fm_wd 726 (by decide +kernel) (by decide +kernel)
theorem lq_X10_clipped : fm_V "MicRowLaw" 141 yX10_clipped 1 := ⟨Or.inl (fm_wd 1505 (by decide +kernel) (by decide +kernel)), fm_wd 1506 (by decide +kernel) (by decide +kernel), fm_wd 1507 (by decide +kernel) (by decide +kernel), fm_wd 91 (by decide +kernel) (by decide +kernel), ⟨by decide, by decide, by decide +kernel⟩⟩
theorem ln_X10_clipped : Cond.methodLink "MicRowLaw" 141 yX10_clipped ∈ fm_TT := fm_wd 1505 (by decide +kernel) (by decide +kernel)
theorem lk_X10_clipped : Cond.code yX10_clipped cX10_clipped 2 (some .int) ∈ fm_TT := fm_wd 1508 (by decide +kernel) (by decide +kernel)
theorem lw_case_clipped (C : fm_LC G ad1 ad2 qo p s m meth c b L xs) (hfl : l.stackTraces = false) (hcs : cells + 1 ≤ room_1.cells ∧ slots + 6 ≤ room_1.slots) (E : fm_LW G ad1 ad2 qo M1 M2 f s H locs) (hl : lv_has ls 8 [(0, .ref b), (1, .ref (ad1 0)), (2, .ref (ad2 0)), (3, .ref qo), (4, .int i)]) (h1 : fm_in (i + 1) L = true) (h2 : fm_in (i + 2) L = true) (h3 : fm_in (i + 3) L = true) (h4 : fm_in (i + 4) L = true) (hn : n < 512) (hR : R n M1 M2) (hc : cp_clipped N R) (kk : fm_KK p l e s m below meth c cells slots Q qo b n G ad1 ad2 i R) : W p l e room_1 s m #[Value.ref b] below meth c H locs cells slots Q (F0 m 1136 ls []) := by
  obtain ⟨hc1, hc2⟩ := hcs
  have hc0 : cells ≤ room_1.cells ∧ slots ≤ room_1.slots := ⟨by omega, by omega⟩
  obtain ⟨r, M1', M2', hf1, hf2, hR'⟩ := hc n M1 M2 (xs (i + 1).toNatClampNeg) hn hR
  refine lv_aload_n C.1.1 C.1.2.1 dL_law_1136 rfl (lv_at hl 1 rfl) ?_
  refine lv_aload_n C.1.1 C.1.2.1 dL_law_1137 rfl (lv_at hl 0 rfl) ?_
  refine lv_iload C.1.1 C.1.2.1 dL_law_1138 (lv_at hl 4 rfl) ?_
  refine lv_iconst (v := 1) C.1.1 C.1.2.1 dL_law_1140 (by decide) ?_
  refine lv_iadd C.1.1 C.1.2.1 dL_law_1141 ?_
  refine fm_lsld C E h1 dL_law_1142 ?_
  refine fm_lcallC C E [.int _] [] lq_X9_clipped ln_X9_clipped lk_X9_clipped (c_MicRow_clipped l _ N _ _ _ _ hf1) rfl rfl hl.1 (by simp) ⟨⟨rfl, rfl⟩, Nat.le_of_ble_eq_true rfl, Nat.le_of_ble_eq_true rfl⟩ hc0 dL_law_1143 rfl (fun H locs E => ?_)
  refine W.eq (g2 := F0 m 1146 ls [.int r]) rfl ?_
  refine lv_aload_n C.1.1 C.1.2.1 dL_law_1146 rfl (lv_at hl 2 rfl) ?_
  refine lv_aload_n C.1.1 C.1.2.1 dL_law_1147 rfl (lv_at hl 0 rfl) ?_
  refine lv_iload C.1.1 C.1.2.1 dL_law_1148 (lv_at hl 4 rfl) ?_
  refine lv_iconst (v := 1) C.1.1 C.1.2.1 dL_law_1150 (by decide) ?_
  refine lv_iadd C.1.1 C.1.2.1 dL_law_1151 ?_
  refine fm_lsld C E h1 dL_law_1152 ?_
  refine fm_lcallM C E [.int _] [.int r] lq_X10_clipped ln_X10_clipped lk_X10_clipped (c_Model_clipped l _ N _ _ _ _ hf2) rfl rfl hl.1 (by simp [Value.category]) ⟨⟨rfl, rfl⟩, Nat.le_of_ble_eq_true rfl, Nat.le_of_ble_eq_true rfl⟩ hc0 dL_law_1153 rfl (fun H locs E => ?_)
  refine W.eq (g2 := F0 m 1156 ls [.int r, .int r]) rfl ?_
  refine lv_icmp_eq (tgt := 1837) C.1.1 C.1.2.1 dL_law_1156 (by decide) (fun _ => ?_) (fun h => absurd rfl h)
  exact W.widen (Nat.le_succ _) (Nat.le_add_right _ 6) (kk M1' M2' f H locs ls hR' E hl)
end LWC
