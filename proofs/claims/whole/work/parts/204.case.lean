section LWC
variable {p : Program} {l : Launch} {e : Env} {s : State} {m : MethodId} {below : List Frame} {meth : Method} {c : Code} {H : Heap} {locs : List Loc} {cells slots : Nat} {Q : State → Prop}
variable {qo b L N n : Nat} {xs : Nat → Int32} {ls : Array Slot} {G : fm_G} {M1 M2 : fm_M} {f : Nat → Int64} {ad1 ad2 : Nat → Nat} {i : Int32} {R : Nat → fm_M → fm_M → Prop}
theorem dL_law_1545 : decode cL_law 1545 = .ok (.aload_n 1, 1) := by decide +kernel
theorem dL_law_1546 : decode cL_law 1546 = .ok (.aload_n 0, 1) := by decide +kernel
theorem dL_law_1547 : decode cL_law 1547 = .ok (.iload 4, 2) := by decide +kernel
theorem dL_law_1549 : decode cL_law 1549 = .ok (.iconst 1, 1) := by decide +kernel
theorem dL_law_1550 : decode cL_law 1550 = .ok (.iadd, 1) := by decide +kernel
theorem dL_law_1551 : decode cL_law 1551 = .ok (.iaload, 1) := by decide +kernel
theorem dL_law_1552 : decode cL_law 1552 = .ok (.invokevirtual 190, 3) := by decide +kernel
theorem dL_law_1555 : decode cL_law 1555 = .ok (.aload_n 2, 1) := by decide +kernel
theorem dL_law_1556 : decode cL_law 1556 = .ok (.aload_n 0, 1) := by decide +kernel
theorem dL_law_1557 : decode cL_law 1557 = .ok (.iload 4, 2) := by decide +kernel
theorem dL_law_1559 : decode cL_law 1559 = .ok (.iconst 1, 1) := by decide +kernel
theorem dL_law_1560 : decode cL_law 1560 = .ok (.iadd, 1) := by decide +kernel
theorem dL_law_1561 : decode cL_law 1561 = .ok (.iaload, 1) := by decide +kernel
theorem dL_law_1562 : decode cL_law 1562 = .ok (.invokevirtual 193, 3) := by decide +kernel
theorem dL_law_1565 : decode cL_law 1565 = .ok (.if_icmp .eq 272, 3) := by decide +kernel
theorem dL_law_1568 : decode cL_law 1568 = .ok (.iconst 0, 1) := by decide +kernel
theorem dL_law_1569 : decode cL_law 1569 = .ok (.ireturn, 1) := by decide +kernel
set_option maxHeartbeats 2000000 in
theorem lq_X9_sorts : fm_V "MicRowLaw" 190 yX9_sorts 1 := ⟨Or.inl (fm_wd 810 (by decide +kernel) (by decide +kernel)), fm_wd 811 (by decide +kernel) (by decide +kernel), fm_wd 812 (by decide +kernel) (by decide +kernel), fm_wd 81 (by decide +kernel) (by decide +kernel), ⟨by decide, by decide, by decide +kernel⟩⟩
theorem ln_X9_sorts : Cond.methodLink "MicRowLaw" 190 yX9_sorts ∈ fm_TT := fm_wd 810 (by decide +kernel) (by decide +kernel)
theorem lk_X9_sorts : Cond.code yX9_sorts cX9_sorts 2 (some .int) ∈ fm_TT := fm_wd 813 (by decide +kernel) (by decide +kernel)
theorem lq_X10_sorts : fm_V "MicRowLaw" 193 yX10_sorts 1 := ⟨Or.inl (fm_wd 1573 (by decide +kernel) (by decide +kernel)), fm_wd 1574 (by decide +kernel) (by decide +kernel), fm_wd 1575 (by decide +kernel) (by decide +kernel), fm_wd 91 (by decide +kernel) (by decide +kernel), ⟨by decide, by decide, by decide +kernel⟩⟩
theorem ln_X10_sorts : Cond.methodLink "MicRowLaw" 193 yX10_sorts ∈ fm_TT := fm_wd 1573 (by decide +kernel) (by decide +kernel)
theorem lk_X10_sorts : Cond.code yX10_sorts cX10_sorts 3 (some .int) ∈ fm_TT := fm_wd 1576 (by decide +kernel) (by decide +kernel)
theorem lw_case_sorts (C : fm_LC G ad1 ad2 qo p s m meth c b L xs) (hfl : l.stackTraces = false) (hcs : cells + 1 ≤ room_1.cells ∧ slots + 6 ≤ room_1.slots) (E : fm_LW G ad1 ad2 qo M1 M2 f s H locs) (hl : lv_has ls 8 [(0, .ref b), (1, .ref (ad1 0)), (2, .ref (ad2 0)), (3, .ref qo), (4, .int i)]) (h1 : fm_in (i + 1) L = true) (h2 : fm_in (i + 2) L = true) (h3 : fm_in (i + 3) L = true) (h4 : fm_in (i + 4) L = true) (hn : n < 512) (hR : R n M1 M2) (hc : cp_sorts N R) (kk : fm_KK p l e s m below meth c cells slots Q qo b n G ad1 ad2 i R) : W p l e room_1 s m #[Value.ref b] below meth c H locs cells slots Q (F0 m 1545 ls []) := by
  obtain ⟨hc1, hc2⟩ := hcs
  have hc0 : cells ≤ room_1.cells ∧ slots ≤ room_1.slots := ⟨by omega, by omega⟩
  obtain ⟨r, M1', M2', hf1, hf2, hR'⟩ := hc n M1 M2 (xs (i + 1).toNatClampNeg) hn hR
  refine lv_aload_n C.1.1 C.1.2.1 dL_law_1545 rfl (lv_at hl 1 rfl) ?_
  refine lv_aload_n C.1.1 C.1.2.1 dL_law_1546 rfl (lv_at hl 0 rfl) ?_
  refine lv_iload C.1.1 C.1.2.1 dL_law_1547 (lv_at hl 4 rfl) ?_
  refine lv_iconst (v := 1) C.1.1 C.1.2.1 dL_law_1549 (by decide) ?_
  refine lv_iadd C.1.1 C.1.2.1 dL_law_1550 ?_
  refine fm_lsld C E h1 dL_law_1551 ?_
  refine fm_lcallC C E [.int _] [] lq_X9_sorts ln_X9_sorts lk_X9_sorts (c_MicRow_sorts l _ N _ _ _ _ hf1) rfl rfl hl.1 (by simp) ⟨⟨rfl, rfl⟩, Nat.le_of_ble_eq_true rfl, Nat.le_of_ble_eq_true rfl⟩ hc0 dL_law_1552 rfl (fun H locs E => ?_)
  refine W.eq (g2 := F0 m 1555 ls [.int r]) rfl ?_
  refine lv_aload_n C.1.1 C.1.2.1 dL_law_1555 rfl (lv_at hl 2 rfl) ?_
  refine lv_aload_n C.1.1 C.1.2.1 dL_law_1556 rfl (lv_at hl 0 rfl) ?_
  refine lv_iload C.1.1 C.1.2.1 dL_law_1557 (lv_at hl 4 rfl) ?_
  refine lv_iconst (v := 1) C.1.1 C.1.2.1 dL_law_1559 (by decide) ?_
  refine lv_iadd C.1.1 C.1.2.1 dL_law_1560 ?_
  refine fm_lsld C E h1 dL_law_1561 ?_
  refine fm_lcallM C E [.int _] [.int r] lq_X10_sorts ln_X10_sorts lk_X10_sorts (c_Model_sorts l _ N _ _ _ _ hf2) rfl rfl hl.1 (by simp [Value.category]) ⟨⟨rfl, rfl⟩, Nat.le_of_ble_eq_true rfl, Nat.le_of_ble_eq_true rfl⟩ hc0 dL_law_1562 rfl (fun H locs E => ?_)
  refine W.eq (g2 := F0 m 1565 ls [.int r, .int r]) rfl ?_
  refine lv_icmp_eq (tgt := 1837) C.1.1 C.1.2.1 dL_law_1565 (by decide) (fun _ => ?_) (fun h => absurd rfl h)
  exact W.widen (Nat.le_succ _) (Nat.le_add_right _ 6) (kk M1' M2' f H locs ls hR' E hl)
theorem dL_law_1570 : decode cL_law 1570 = .ok (.aload_n 1, 1) := by decide +kernel
theorem dL_law_1571 : decode cL_law 1571 = .ok (.aload_n 0, 1) := by decide +kernel
theorem dL_law_1572 : decode cL_law 1572 = .ok (.iload 4, 2) := by decide +kernel
theorem dL_law_1574 : decode cL_law 1574 = .ok (.iconst 1, 1) := by decide +kernel
theorem dL_law_1575 : decode cL_law 1575 = .ok (.iadd, 1) := by decide +kernel
theorem dL_law_1576 : decode cL_law 1576 = .ok (.iaload, 1) := by decide +kernel
theorem dL_law_1577 : decode cL_law 1577 = .ok (.aload_n 0, 1) := by decide +kernel
theorem dL_law_1578 : decode cL_law 1578 = .ok (.iload 4, 2) := by decide +kernel
theorem dL_law_1580 : decode cL_law 1580 = .ok (.iconst 2, 1) := by decide +kernel
theorem dL_law_1581 : decode cL_law 1581 = .ok (.iadd, 1) := by decide +kernel
theorem dL_law_1582 : decode cL_law 1582 = .ok (.iaload, 1) := by decide +kernel
theorem dL_law_1583 : decode cL_law 1583 = .ok (.aload_n 0, 1) := by decide +kernel
theorem dL_law_1584 : decode cL_law 1584 = .ok (.iload 4, 2) := by decide +kernel
theorem dL_law_1586 : decode cL_law 1586 = .ok (.iconst 3, 1) := by decide +kernel
theorem dL_law_1587 : decode cL_law 1587 = .ok (.iadd, 1) := by decide +kernel
theorem dL_law_1588 : decode cL_law 1588 = .ok (.iaload, 1) := by decide +kernel
theorem dL_law_1589 : decode cL_law 1589 = .ok (.invokevirtual 194, 3) := by decide +kernel
theorem dL_law_1592 : decode cL_law 1592 = .ok (.aload_n 2, 1) := by decide +kernel
theorem dL_law_1593 : decode cL_law 1593 = .ok (.aload_n 0, 1) := by decide +kernel
theorem dL_law_1594 : decode cL_law 1594 = .ok (.iload 4, 2) := by decide +kernel
theorem dL_law_1596 : decode cL_law 1596 = .ok (.iconst 1, 1) := by decide +kernel
theorem dL_law_1597 : decode cL_law 1597 = .ok (.iadd, 1) := by decide +kernel
theorem dL_law_1598 : decode cL_law 1598 = .ok (.iaload, 1) := by decide +kernel
theorem dL_law_1599 : decode cL_law 1599 = .ok (.aload_n 0, 1) := by decide +kernel
theorem dL_law_1600 : decode cL_law 1600 = .ok (.iload 4, 2) := by decide +kernel
theorem dL_law_1602 : decode cL_law 1602 = .ok (.iconst 2, 1) := by decide +kernel
theorem dL_law_1603 : decode cL_law 1603 = .ok (.iadd, 1) := by decide +kernel
theorem dL_law_1604 : decode cL_law 1604 = .ok (.iaload, 1) := by decide +kernel
theorem dL_law_1605 : decode cL_law 1605 = .ok (.aload_n 0, 1) := by decide +kernel
theorem dL_law_1606 : decode cL_law 1606 = .ok (.iload 4, 2) := by decide +kernel
theorem dL_law_1608 : decode cL_law 1608 = .ok (.iconst 3, 1) := by decide +kernel
theorem dL_law_1609 : decode cL_law 1609 = .ok (.iadd, 1) := by decide +kernel
theorem dL_law_1610 : decode cL_law 1610 = .ok (.iaload, 1) := by decide +kernel
theorem dL_law_1611 : decode cL_law 1611 = .ok (.invokevirtual 197, 3) := by decide +kernel
theorem dL_law_1614 : decode cL_law 1614 = .ok (.if_icmp .eq 223, 3) := by decide +kernel
theorem dL_law_1617 : decode cL_law 1617 = .ok (.iconst 0, 1) := by decide +kernel
theorem dL_law_1618 : decode cL_law 1618 = .ok (.ireturn, 1) := by decide +kernel
set_option maxHeartbeats 2000000 in
theorem lq_X9_aims : fm_V "MicRowLaw" 194 yX9_aims 3 := ⟨Or.inl (fm_wd 818 (by decide +kernel) (by decide +kernel)), fm_wd 819 (by decide +kernel) (by decide +kernel), fm_wd 820 (by decide +kernel) (by decide +kernel), fm_wd 81 (by decide +kernel) (by decide +kernel), ⟨by decide, by decide, by decide +kernel⟩⟩
theorem ln_X9_aims : Cond.methodLink "MicRowLaw" 194 yX9_aims ∈ fm_TT := fm_wd 818 (by decide +kernel) (by decide +kernel)
theorem lk_X9_aims : Cond.code yX9_aims cX9_aims 4 (some .int) ∈ fm_TT := fm_wd 821 (by decide +kernel) (by decide +kernel)
theorem lq_X10_aims : fm_V "MicRowLaw" 197 yX10_aims 3 := ⟨Or.inl (fm_wd 1585 (by decide +kernel) (by decide +kernel)), fm_wd 1586 (by decide +kernel) (by decide +kernel), fm_wd 1587 (by decide +kernel) (by decide +kernel), fm_wd 91 (by decide +kernel) (by decide +kernel), ⟨by decide, by decide, by decide +kernel⟩⟩
theorem ln_X10_aims : Cond.methodLink "MicRowLaw" 197 yX10_aims ∈ fm_TT := fm_wd 1585 (by decide +kernel) (by decide +kernel)
theorem lk_X10_aims : Cond.code yX10_aims cX10_aims 6 (some .int) ∈ fm_TT := fm_wd 1588 (by decide +kernel) (by decide +kernel)
theorem lw_case_aims (C : fm_LC G ad1 ad2 qo p s m meth c b L xs) (hfl : l.stackTraces = false) (hcs : cells + 1 ≤ room_1.cells ∧ slots + 6 ≤ room_1.slots) (E : fm_LW G ad1 ad2 qo M1 M2 f s H locs) (hl : lv_has ls 8 [(0, .ref b), (1, .ref (ad1 0)), (2, .ref (ad2 0)), (3, .ref qo), (4, .int i)]) (h1 : fm_in (i + 1) L = true) (h2 : fm_in (i + 2) L = true) (h3 : fm_in (i + 3) L = true) (h4 : fm_in (i + 4) L = true) (hn : n < 512) (hR : R n M1 M2) (hc : cp_aims N R) (kk : fm_KK p l e s m below meth c cells slots Q qo b n G ad1 ad2 i R) : W p l e room_1 s m #[Value.ref b] below meth c H locs cells slots Q (F0 m 1570 ls []) := by
  obtain ⟨hc1, hc2⟩ := hcs
  have hc0 : cells ≤ room_1.cells ∧ slots ≤ room_1.slots := ⟨by omega, by omega⟩
  obtain ⟨r, M1', M2', hf1, hf2, hR'⟩ := hc n M1 M2 (xs (i + 1).toNatClampNeg) (xs (i + 2).toNatClampNeg) (xs (i + 3).toNatClampNeg) hn hR
  refine lv_aload_n C.1.1 C.1.2.1 dL_law_1570 rfl (lv_at hl 1 rfl) ?_
  refine lv_aload_n C.1.1 C.1.2.1 dL_law_1571 rfl (lv_at hl 0 rfl) ?_
  refine lv_iload C.1.1 C.1.2.1 dL_law_1572 (lv_at hl 4 rfl) ?_
  refine lv_iconst (v := 1) C.1.1 C.1.2.1 dL_law_1574 (by decide) ?_
  refine lv_iadd C.1.1 C.1.2.1 dL_law_1575 ?_
  refine fm_lsld C E h1 dL_law_1576 ?_
  refine lv_aload_n C.1.1 C.1.2.1 dL_law_1577 rfl (lv_at hl 0 rfl) ?_
  refine lv_iload C.1.1 C.1.2.1 dL_law_1578 (lv_at hl 4 rfl) ?_
  refine lv_iconst (v := 2) C.1.1 C.1.2.1 dL_law_1580 (by decide) ?_
  refine lv_iadd C.1.1 C.1.2.1 dL_law_1581 ?_
  refine fm_lsld C E h2 dL_law_1582 ?_
  refine lv_aload_n C.1.1 C.1.2.1 dL_law_1583 rfl (lv_at hl 0 rfl) ?_
  refine lv_iload C.1.1 C.1.2.1 dL_law_1584 (lv_at hl 4 rfl) ?_
  refine lv_iconst (v := 3) C.1.1 C.1.2.1 dL_law_1586 (by decide) ?_
  refine lv_iadd C.1.1 C.1.2.1 dL_law_1587 ?_
  refine fm_lsld C E h3 dL_law_1588 ?_
  refine fm_lcallC C E [.int _, .int _, .int _] [] lq_X9_aims ln_X9_aims lk_X9_aims (c_MicRow_aims l _ N _ _ _ _ _ _ hf1) rfl rfl hl.1 (by simp) ⟨⟨rfl, rfl⟩, Nat.le_of_ble_eq_true rfl, Nat.le_of_ble_eq_true rfl⟩ hc0 dL_law_1589 rfl (fun H locs E => ?_)
  refine W.eq (g2 := F0 m 1592 ls [.int r]) rfl ?_
  refine lv_aload_n C.1.1 C.1.2.1 dL_law_1592 rfl (lv_at hl 2 rfl) ?_
  refine lv_aload_n C.1.1 C.1.2.1 dL_law_1593 rfl (lv_at hl 0 rfl) ?_
  refine lv_iload C.1.1 C.1.2.1 dL_law_1594 (lv_at hl 4 rfl) ?_
  refine lv_iconst (v := 1) C.1.1 C.1.2.1 dL_law_1596 (by decide) ?_
  refine lv_iadd C.1.1 C.1.2.1 dL_law_1597 ?_
  refine fm_lsld C E h1 dL_law_1598 ?_
  refine lv_aload_n C.1.1 C.1.2.1 dL_law_1599 rfl (lv_at hl 0 rfl) ?_
  refine lv_iload C.1.1 C.1.2.1 dL_law_1600 (lv_at hl 4 rfl) ?_
  refine lv_iconst (v := 2) C.1.1 C.1.2.1 dL_law_1602 (by decide) ?_
  refine lv_iadd C.1.1 C.1.2.1 dL_law_1603 ?_
  refine fm_lsld C E h2 dL_law_1604 ?_
  refine lv_aload_n C.1.1 C.1.2.1 dL_law_1605 rfl (lv_at hl 0 rfl) ?_
  refine lv_iload C.1.1 C.1.2.1 dL_law_1606 (lv_at hl 4 rfl) ?_
  refine lv_iconst (v := 3) C.1.1 C.1.2.1 dL_law_1608 (by decide) ?_
  refine lv_iadd C.1.1 C.1.2.1 dL_law_1609 ?_
  refine fm_lsld C E h3 dL_law_1610 ?_
  refine fm_lcallM C E [.int _, .int _, .int _] [.int r] lq_X10_aims ln_X10_aims lk_X10_aims (c_Model_aims l _ N _ _ _ _ _ _ hf2) rfl rfl hl.1 (by simp [Value.category]) ⟨⟨rfl, rfl⟩, Nat.le_of_ble_eq_true rfl, Nat.le_of_ble_eq_true rfl⟩ hc0 dL_law_1611 rfl (fun H locs E => ?_)
  refine W.eq (g2 := F0 m 1614 ls [.int r, .int r]) rfl ?_
  refine lv_icmp_eq (tgt := 1837) C.1.1 C.1.2.1 dL_law_1614 (by decide) (fun _ => ?_) (fun h => absurd rfl h)
  exact W.widen (Nat.le_succ _) (Nat.le_add_right _ 6) (kk M1' M2' f H locs ls hR' E hl)
theorem dL_law_1619 : decode cL_law 1619 = .ok (.aload_n 1, 1) := by decide +kernel
theorem dL_law_1620 : decode cL_law 1620 = .ok (.aload_n 0, 1) := by decide +kernel
theorem dL_law_1621 : decode cL_law 1621 = .ok (.iload 4, 2) := by decide +kernel
theorem dL_law_1623 : decode cL_law 1623 = .ok (.iconst 1, 1) := by decide +kernel
theorem dL_law_1624 : decode cL_law 1624 = .ok (.iadd, 1) := by decide +kernel
theorem dL_law_1625 : decode cL_law 1625 = .ok (.iaload, 1) := by decide +kernel
theorem dL_law_1626 : decode cL_law 1626 = .ok (.invokevirtual 198, 3) := by decide +kernel
theorem dL_law_1629 : decode cL_law 1629 = .ok (.aload_n 2, 1) := by decide +kernel
theorem dL_law_1630 : decode cL_law 1630 = .ok (.aload_n 0, 1) := by decide +kernel
theorem dL_law_1631 : decode cL_law 1631 = .ok (.iload 4, 2) := by decide +kernel
theorem dL_law_1633 : decode cL_law 1633 = .ok (.iconst 1, 1) := by decide +kernel
theorem dL_law_1634 : decode cL_law 1634 = .ok (.iadd, 1) := by decide +kernel
theorem dL_law_1635 : decode cL_law 1635 = .ok (.iaload, 1) := by decide +kernel
theorem dL_law_1636 : decode cL_law 1636 = .ok (.invokevirtual 201, 3) := by decide +kernel
theorem dL_law_1639 : decode cL_law 1639 = .ok (.if_icmp .eq 198, 3) := by decide +kernel
theorem dL_law_1642 : decode cL_law 1642 = .ok (.iconst 0, 1) := by decide +kernel
theorem dL_law_1643 : decode cL_law 1643 = .ok (.ireturn, 1) := by decide +kernel
set_option maxHeartbeats 2000000 in
theorem lq_X9_goes : fm_V "MicRowLaw" 198 yX9_goes 1 := ⟨Or.inl (fm_wd 834 (by decide +kernel) (by decide +kernel)), fm_wd 835 (by decide +kernel) (by decide +kernel), fm_wd 836 (by decide +kernel) (by decide +kernel), fm_wd 81 (by decide +kernel) (by decide +kernel), ⟨by decide, by decide, by decide +kernel⟩⟩
theorem ln_X9_goes : Cond.methodLink "MicRowLaw" 198 yX9_goes ∈ fm_TT := fm_wd 834 (by decide +kernel) (by decide +kernel)
theorem lk_X9_goes : Cond.code yX9_goes cX9_goes 2 (some .int) ∈ fm_TT := fm_wd 837 (by decide +kernel) (by decide +kernel)
theorem lq_X10_goes : fm_V "MicRowLaw" 201 yX10_goes 1 := ⟨Or.inl (fm_wd 1581 (by decide +kernel) (by decide +kernel)), fm_wd 1582 (by decide +kernel) (by decide +kernel), fm_wd 1583 (by decide +kernel) (by decide +kernel), fm_wd 91 (by decide +kernel) (by decide +kernel), ⟨by decide, by decide, by decide +kernel⟩⟩
theorem ln_X10_goes : Cond.methodLink "MicRowLaw" 201 yX10_goes ∈ fm_TT := fm_wd 1581 (by decide +kernel) (by decide +kernel)
theorem lk_X10_goes : Cond.code yX10_goes cX10_goes 3 (some .int) ∈ fm_TT := fm_wd 1584 (by decide +kernel) (by decide +kernel)
theorem lw_case_goes (C : fm_LC G ad1 ad2 qo p s m meth c b L xs) (hfl : l.stackTraces = false) (hcs : cells + 1 ≤ room_1.cells ∧ slots + 6 ≤ room_1.slots) (E : fm_LW G ad1 ad2 qo M1 M2 f s H locs) (hl : lv_has ls 8 [(0, .ref b), (1, .ref (ad1 0)), (2, .ref (ad2 0)), (3, .ref qo), (4, .int i)]) (h1 : fm_in (i + 1) L = true) (h2 : fm_in (i + 2) L = true) (h3 : fm_in (i + 3) L = true) (h4 : fm_in (i + 4) L = true) (hn : n < 512) (hR : R n M1 M2) (hc : cp_goes N R) (kk : fm_KK p l e s m below meth c cells slots Q qo b n G ad1 ad2 i R) : W p l e room_1 s m #[Value.ref b] below meth c H locs cells slots Q (F0 m 1619 ls []) := by
  obtain ⟨hc1, hc2⟩ := hcs
  have hc0 : cells ≤ room_1.cells ∧ slots ≤ room_1.slots := ⟨by omega, by omega⟩
  obtain ⟨r, M1', M2', hf1, hf2, hR'⟩ := hc n M1 M2 (xs (i + 1).toNatClampNeg) hn hR
  refine lv_aload_n C.1.1 C.1.2.1 dL_law_1619 rfl (lv_at hl 1 rfl) ?_
  refine lv_aload_n C.1.1 C.1.2.1 dL_law_1620 rfl (lv_at hl 0 rfl) ?_
  refine lv_iload C.1.1 C.1.2.1 dL_law_1621 (lv_at hl 4 rfl) ?_
  refine lv_iconst (v := 1) C.1.1 C.1.2.1 dL_law_1623 (by decide) ?_
  refine lv_iadd C.1.1 C.1.2.1 dL_law_1624 ?_
  refine fm_lsld C E h1 dL_law_1625 ?_
  refine fm_lcallC C E [.int _] [] lq_X9_goes ln_X9_goes lk_X9_goes (c_MicRow_goes l _ N _ _ _ _ hf1) rfl rfl hl.1 (by simp) ⟨⟨rfl, rfl⟩, Nat.le_of_ble_eq_true rfl, Nat.le_of_ble_eq_true rfl⟩ hc0 dL_law_1626 rfl (fun H locs E => ?_)
  refine W.eq (g2 := F0 m 1629 ls [.int r]) rfl ?_
  refine lv_aload_n C.1.1 C.1.2.1 dL_law_1629 rfl (lv_at hl 2 rfl) ?_
  refine lv_aload_n C.1.1 C.1.2.1 dL_law_1630 rfl (lv_at hl 0 rfl) ?_
  refine lv_iload C.1.1 C.1.2.1 dL_law_1631 (lv_at hl 4 rfl) ?_
  refine lv_iconst (v := 1) C.1.1 C.1.2.1 dL_law_1633 (by decide) ?_
  refine lv_iadd C.1.1 C.1.2.1 dL_law_1634 ?_
  refine fm_lsld C E h1 dL_law_1635 ?_
  refine fm_lcallM C E [.int _] [.int r] lq_X10_goes ln_X10_goes lk_X10_goes (c_Model_goes l _ N _ _ _ _ hf2) rfl rfl hl.1 (by simp [Value.category]) ⟨⟨rfl, rfl⟩, Nat.le_of_ble_eq_true rfl, Nat.le_of_ble_eq_true rfl⟩ hc0 dL_law_1636 rfl (fun H locs E => ?_)
  refine W.eq (g2 := F0 m 1639 ls [.int r, .int r]) rfl ?_
  refine lv_icmp_eq (tgt := 1837) C.1.1 C.1.2.1 dL_law_1639 (by decide) (fun _ => ?_) (fun h => absurd rfl h)
  exact W.widen (Nat.le_succ _) (Nat.le_add_right _ 6) (kk M1' M2' f H locs ls hR' E hl)
theorem dL_law_1644 : decode cL_law 1644 = .ok (.aload_n 1, 1) := by decide +kernel
theorem dL_law_1645 : decode cL_law 1645 = .ok (.invokevirtual 202, 3) := by decide +kernel
theorem dL_law_1648 : decode cL_law 1648 = .ok (.aload_n 2, 1) := by decide +kernel
theorem dL_law_1649 : decode cL_law 1649 = .ok (.invokevirtual 205, 3) := by decide +kernel
theorem dL_law_1652 : decode cL_law 1652 = .ok (.if_icmp .eq 185, 3) := by decide +kernel
theorem dL_law_1655 : decode cL_law 1655 = .ok (.iconst 0, 1) := by decide +kernel
theorem dL_law_1656 : decode cL_law 1656 = .ok (.ireturn, 1) := by decide +kernel
set_option maxHeartbeats 2000000 in
theorem lq_X9_day : fm_V "MicRowLaw" 202 yX9_day 0 := ⟨Or.inl (fm_wd 842 (by decide +kernel) (by decide +kernel)), fm_wd 843 (by decide +kernel) (by decide +kernel), fm_wd 844 (by decide +kernel) (by decide +kernel), fm_wd 81 (by decide +kernel) (by decide +kernel), ⟨by decide, by decide, by decide +kernel⟩⟩
theorem ln_X9_day : Cond.methodLink "MicRowLaw" 202 yX9_day ∈ fm_TT := fm_wd 842 (by decide +kernel) (by decide +kernel)
theorem lk_X9_day : Cond.code yX9_day cX9_day 5 (some .int) ∈ fm_TT := fm_wd 845 (by decide +kernel) (by decide +kernel)
theorem lq_X10_day : fm_V "MicRowLaw" 205 yX10_day 0 := ⟨Or.inl (fm_wd 1593 (by decide +kernel) (by decide +kernel)), fm_wd 1594 (by decide +kernel) (by decide +kernel), fm_wd 1595 (by decide +kernel) (by decide +kernel), fm_wd 91 (by decide +kernel) (by decide +kernel), ⟨by decide, by decide, by decide +kernel⟩⟩
theorem ln_X10_day : Cond.methodLink "MicRowLaw" 205 yX10_day ∈ fm_TT := fm_wd 1593 (by decide +kernel) (by decide +kernel)
theorem lk_X10_day : Cond.code yX10_day cX10_day 3 (some .int) ∈ fm_TT := fm_wd 1596 (by decide +kernel) (by decide +kernel)
theorem lw_case_day (C : fm_LC G ad1 ad2 qo p s m meth c b L xs) (hfl : l.stackTraces = false) (hcs : cells + 1 ≤ room_1.cells ∧ slots + 6 ≤ room_1.slots) (E : fm_LW G ad1 ad2 qo M1 M2 f s H locs) (hl : lv_has ls 8 [(0, .ref b), (1, .ref (ad1 0)), (2, .ref (ad2 0)), (3, .ref qo), (4, .int i)]) (h1 : fm_in (i + 1) L = true) (h2 : fm_in (i + 2) L = true) (h3 : fm_in (i + 3) L = true) (h4 : fm_in (i + 4) L = true) (hn : n < 512) (hR : R n M1 M2) (hc : cp_day N R) (kk : fm_KK p l e s m below meth c cells slots Q qo b n G ad1 ad2 i R) : W p l e room_1 s m #[Value.ref b] below meth c H locs cells slots Q (F0 m 1644 ls []) := by
  obtain ⟨hc1, hc2⟩ := hcs
  have hc0 : cells ≤ room_1.cells ∧ slots ≤ room_1.slots := ⟨by omega, by omega⟩
  obtain ⟨r, M1', M2', hf1, hf2, hR'⟩ := hc n M1 M2  hn hR
  refine lv_aload_n C.1.1 C.1.2.1 dL_law_1644 rfl (lv_at hl 1 rfl) ?_
  refine fm_lcallC C E [] [] lq_X9_day ln_X9_day lk_X9_day (c_MicRow_day l _ N _ _ _ hf1) rfl rfl hl.1 (by simp) ⟨⟨rfl, rfl⟩, Nat.le_of_ble_eq_true rfl, Nat.le_of_ble_eq_true rfl⟩ hc0 dL_law_1645 rfl (fun H locs E => ?_)
  refine W.eq (g2 := F0 m 1648 ls [.int r]) rfl ?_
  refine lv_aload_n C.1.1 C.1.2.1 dL_law_1648 rfl (lv_at hl 2 rfl) ?_
  refine fm_lcallM C E [] [.int r] lq_X10_day ln_X10_day lk_X10_day (c_Model_day l _ N _ _ _ hf2) rfl rfl hl.1 (by simp [Value.category]) ⟨⟨rfl, rfl⟩, Nat.le_of_ble_eq_true rfl, Nat.le_of_ble_eq_true rfl⟩ hc0 dL_law_1649 rfl (fun H locs E => ?_)
  refine W.eq (g2 := F0 m 1652 ls [.int r, .int r]) rfl ?_
  refine lv_icmp_eq (tgt := 1837) C.1.1 C.1.2.1 dL_law_1652 (by decide) (fun _ => ?_) (fun h => absurd rfl h)
  exact W.widen (Nat.le_succ _) (Nat.le_add_right _ 6) (kk M1' M2' f H locs ls hR' E hl)
theorem dL_law_1657 : decode cL_law 1657 = .ok (.aload_n 1, 1) := by decide +kernel
theorem dL_law_1658 : decode cL_law 1658 = .ok (.invokevirtual 206, 3) := by decide +kernel
theorem dL_law_1661 : decode cL_law 1661 = .ok (.aload_n 2, 1) := by decide +kernel
theorem dL_law_1662 : decode cL_law 1662 = .ok (.invokevirtual 209, 3) := by decide +kernel
theorem dL_law_1665 : decode cL_law 1665 = .ok (.if_icmp .eq 172, 3) := by decide +kernel
theorem dL_law_1668 : decode cL_law 1668 = .ok (.iconst 0, 1) := by decide +kernel
theorem dL_law_1669 : decode cL_law 1669 = .ok (.ireturn, 1) := by decide +kernel
set_option maxHeartbeats 2000000 in
theorem lq_X9_undo : fm_V "MicRowLaw" 206 yX9_undo 0 := ⟨Or.inl (fm_wd 924 (by decide +kernel) (by decide +kernel)), fm_wd 925 (by decide +kernel) (by decide +kernel), fm_wd 926 (by decide +kernel) (by decide +kernel), fm_wd 81 (by decide +kernel) (by decide +kernel), ⟨by decide, by decide, by decide +kernel⟩⟩
theorem ln_X9_undo : Cond.methodLink "MicRowLaw" 206 yX9_undo ∈ fm_TT := fm_wd 924 (by decide +kernel) (by decide +kernel)
theorem lk_X9_undo : Cond.code yX9_undo cX9_undo 1 (some .int) ∈ fm_TT := fm_wd 927 (by decide +kernel) (by decide +kernel)
theorem lq_X10_undo : fm_V "MicRowLaw" 209 yX10_undo 0 := ⟨Or.inl (fm_wd 1669 (by decide +kernel) (by decide +kernel)), fm_wd 1670 (by decide +kernel) (by decide +kernel), fm_wd 1671 (by decide +kernel) (by decide +kernel), fm_wd 91 (by decide +kernel) (by decide +kernel), ⟨by decide, by decide, by decide +kernel⟩⟩
theorem ln_X10_undo : Cond.methodLink "MicRowLaw" 209 yX10_undo ∈ fm_TT := fm_wd 1669 (by decide +kernel) (by decide +kernel)
theorem lk_X10_undo : Cond.code yX10_undo cX10_undo 2 (some .int) ∈ fm_TT := fm_wd 1672 (by decide +kernel) (by decide +kernel)
theorem lw_case_undo (C : fm_LC G ad1 ad2 qo p s m meth c b L xs) (hfl : l.stackTraces = false) (hcs : cells + 1 ≤ room_1.cells ∧ slots + 6 ≤ room_1.slots) (E : fm_LW G ad1 ad2 qo M1 M2 f s H locs) (hl : lv_has ls 8 [(0, .ref b), (1, .ref (ad1 0)), (2, .ref (ad2 0)), (3, .ref qo), (4, .int i)]) (h1 : fm_in (i + 1) L = true) (h2 : fm_in (i + 2) L = true) (h3 : fm_in (i + 3) L = true) (h4 : fm_in (i + 4) L = true) (hn : n < 512) (hR : R n M1 M2) (hc : cp_undo N R) (kk : fm_KK p l e s m below meth c cells slots Q qo b n G ad1 ad2 i R) : W p l e room_1 s m #[Value.ref b] below meth c H locs cells slots Q (F0 m 1657 ls []) := by
  obtain ⟨hc1, hc2⟩ := hcs
  have hc0 : cells ≤ room_1.cells ∧ slots ≤ room_1.slots := ⟨by omega, by omega⟩
  obtain ⟨r, M1', M2', hf1, hf2, hR'⟩ := hc n M1 M2  hn hR
  refine lv_aload_n C.1.1 C.1.2.1 dL_law_1657 rfl (lv_at hl 1 rfl) ?_
  refine fm_lcallC C E [] [] lq_X9_undo ln_X9_undo lk_X9_undo (c_MicRow_undo l _ N _ _ _ hf1) rfl rfl hl.1 (by simp) ⟨⟨rfl, rfl⟩, Nat.le_of_ble_eq_true rfl, Nat.le_of_ble_eq_true rfl⟩ hc0 dL_law_1658 rfl (fun H locs E => ?_)
  refine W.eq (g2 := F0 m 1661 ls [.int r]) rfl ?_
  refine lv_aload_n C.1.1 C.1.2.1 dL_law_1661 rfl (lv_at hl 2 rfl) ?_
  refine fm_lcallM C E [] [.int r] lq_X10_undo ln_X10_undo lk_X10_undo (c_Model_undo l _ N _ _ _ hf2) rfl rfl hl.1 (by simp [Value.category]) ⟨⟨rfl, rfl⟩, Nat.le_of_ble_eq_true rfl, Nat.le_of_ble_eq_true rfl⟩ hc0 dL_law_1662 rfl (fun H locs E => ?_)
  refine W.eq (g2 := F0 m 1665 ls [.int r, .int r]) rfl ?_
  refine lv_icmp_eq (tgt := 1837) C.1.1 C.1.2.1 dL_law_1665 (by decide) (fun _ => ?_) (fun h => absurd rfl h)
  exact W.widen (Nat.le_succ _) (Nat.le_add_right _ 6) (kk M1' M2' f H locs ls hR' E hl)
theorem dL_law_1670 : decode cL_law 1670 = .ok (.aload_n 1, 1) := by decide +kernel
theorem dL_law_1671 : decode cL_law 1671 = .ok (.aload_n 0, 1) := by decide +kernel
theorem dL_law_1672 : decode cL_law 1672 = .ok (.iload 4, 2) := by decide +kernel
theorem dL_law_1674 : decode cL_law 1674 = .ok (.iconst 1, 1) := by decide +kernel
theorem dL_law_1675 : decode cL_law 1675 = .ok (.iadd, 1) := by decide +kernel
theorem dL_law_1676 : decode cL_law 1676 = .ok (.iaload, 1) := by decide +kernel
theorem dL_law_1677 : decode cL_law 1677 = .ok (.aload_n 0, 1) := by decide +kernel
theorem dL_law_1678 : decode cL_law 1678 = .ok (.iload 4, 2) := by decide +kernel
theorem dL_law_1680 : decode cL_law 1680 = .ok (.iconst 2, 1) := by decide +kernel
theorem dL_law_1681 : decode cL_law 1681 = .ok (.iadd, 1) := by decide +kernel
theorem dL_law_1682 : decode cL_law 1682 = .ok (.iaload, 1) := by decide +kernel
theorem dL_law_1683 : decode cL_law 1683 = .ok (.invokevirtual 210, 3) := by decide +kernel
theorem dL_law_1686 : decode cL_law 1686 = .ok (.aload_n 2, 1) := by decide +kernel
theorem dL_law_1687 : decode cL_law 1687 = .ok (.aload_n 0, 1) := by decide +kernel
theorem dL_law_1688 : decode cL_law 1688 = .ok (.iload 4, 2) := by decide +kernel
theorem dL_law_1690 : decode cL_law 1690 = .ok (.iconst 1, 1) := by decide +kernel
theorem dL_law_1691 : decode cL_law 1691 = .ok (.iadd, 1) := by decide +kernel
theorem dL_law_1692 : decode cL_law 1692 = .ok (.iaload, 1) := by decide +kernel
theorem dL_law_1693 : decode cL_law 1693 = .ok (.aload_n 0, 1) := by decide +kernel
theorem dL_law_1694 : decode cL_law 1694 = .ok (.iload 4, 2) := by decide +kernel
theorem dL_law_1696 : decode cL_law 1696 = .ok (.iconst 2, 1) := by decide +kernel
theorem dL_law_1697 : decode cL_law 1697 = .ok (.iadd, 1) := by decide +kernel
theorem dL_law_1698 : decode cL_law 1698 = .ok (.iaload, 1) := by decide +kernel
theorem dL_law_1699 : decode cL_law 1699 = .ok (.invokevirtual 213, 3) := by decide +kernel
theorem dL_law_1702 : decode cL_law 1702 = .ok (.if_icmp .eq 135, 3) := by decide +kernel
theorem dL_law_1705 : decode cL_law 1705 = .ok (.iconst 0, 1) := by decide +kernel
theorem dL_law_1706 : decode cL_law 1706 = .ok (.ireturn, 1) := by decide +kernel
set_option maxHeartbeats 2000000 in
theorem lq_X9_years : fm_V "MicRowLaw" 210 yX9_years 2 := ⟨Or.inl (fm_wd 932 (by decide +kernel) (by decide +kernel)), fm_wd 933 (by decide +kernel) (by decide +kernel), fm_wd 934 (by decide +kernel) (by decide +kernel), fm_wd 81 (by decide +kernel) (by decide +kernel), ⟨by decide, by decide, by decide +kernel⟩⟩
theorem ln_X9_years : Cond.methodLink "MicRowLaw" 210 yX9_years ∈ fm_TT := fm_wd 932 (by decide +kernel) (by decide +kernel)
theorem lk_X9_years : Cond.code yX9_years cX9_years 4 (some .int) ∈ fm_TT := fm_wd 935 (by decide +kernel) (by decide +kernel)
theorem lq_X10_years : fm_V "MicRowLaw" 213 yX10_years 2 := ⟨Or.inl (fm_wd 1673 (by decide +kernel) (by decide +kernel)), fm_wd 1674 (by decide +kernel) (by decide +kernel), fm_wd 1675 (by decide +kernel) (by decide +kernel), fm_wd 91 (by decide +kernel) (by decide +kernel), ⟨by decide, by decide, by decide +kernel⟩⟩
theorem ln_X10_years : Cond.methodLink "MicRowLaw" 213 yX10_years ∈ fm_TT := fm_wd 1673 (by decide +kernel) (by decide +kernel)
theorem lk_X10_years : Cond.code yX10_years cX10_years 8 (some .int) ∈ fm_TT := fm_wd 1676 (by decide +kernel) (by decide +kernel)
theorem lw_case_years (C : fm_LC G ad1 ad2 qo p s m meth c b L xs) (hfl : l.stackTraces = false) (hcs : cells + 1 ≤ room_1.cells ∧ slots + 6 ≤ room_1.slots) (E : fm_LW G ad1 ad2 qo M1 M2 f s H locs) (hl : lv_has ls 8 [(0, .ref b), (1, .ref (ad1 0)), (2, .ref (ad2 0)), (3, .ref qo), (4, .int i)]) (h1 : fm_in (i + 1) L = true) (h2 : fm_in (i + 2) L = true) (h3 : fm_in (i + 3) L = true) (h4 : fm_in (i + 4) L = true) (hn : n < 512) (hR : R n M1 M2) (hc : cp_years N R) (kk : fm_KK p l e s m below meth c cells slots Q qo b n G ad1 ad2 i R) : W p l e room_1 s m #[Value.ref b] below meth c H locs cells slots Q (F0 m 1670 ls []) := by
  obtain ⟨hc1, hc2⟩ := hcs
  have hc0 : cells ≤ room_1.cells ∧ slots ≤ room_1.slots := ⟨by omega, by omega⟩
  obtain ⟨r, M1', M2', hf1, hf2, hR'⟩ := hc n M1 M2 (xs (i + 1).toNatClampNeg) (xs (i + 2).toNatClampNeg) hn hR
  refine lv_aload_n C.1.1 C.1.2.1 dL_law_1670 rfl (lv_at hl 1 rfl) ?_
  refine lv_aload_n C.1.1 C.1.2.1 dL_law_1671 rfl (lv_at hl 0 rfl) ?_
  refine lv_iload C.1.1 C.1.2.1 dL_law_1672 (lv_at hl 4 rfl) ?_
  refine lv_iconst (v := 1) C.1.1 C.1.2.1 dL_law_1674 (by decide) ?_
  refine lv_iadd C.1.1 C.1.2.1 dL_law_1675 ?_
  refine fm_lsld C E h1 dL_law_1676 ?_
  refine lv_aload_n C.1.1 C.1.2.1 dL_law_1677 rfl (lv_at hl 0 rfl) ?_
  refine lv_iload C.1.1 C.1.2.1 dL_law_1678 (lv_at hl 4 rfl) ?_
  refine lv_iconst (v := 2) C.1.1 C.1.2.1 dL_law_1680 (by decide) ?_
  refine lv_iadd C.1.1 C.1.2.1 dL_law_1681 ?_
  refine fm_lsld C E h2 dL_law_1682 ?_
  refine fm_lcallC C E [.int _, .int _] [] lq_X9_years ln_X9_years lk_X9_years (c_MicRow_years l _ N _ _ _ _ _ hf1) rfl rfl hl.1 (by simp) ⟨⟨rfl, rfl⟩, Nat.le_of_ble_eq_true rfl, Nat.le_of_ble_eq_true rfl⟩ hc0 dL_law_1683 rfl (fun H locs E => ?_)
  refine W.eq (g2 := F0 m 1686 ls [.int r]) rfl ?_
  refine lv_aload_n C.1.1 C.1.2.1 dL_law_1686 rfl (lv_at hl 2 rfl) ?_
  refine lv_aload_n C.1.1 C.1.2.1 dL_law_1687 rfl (lv_at hl 0 rfl) ?_
  refine lv_iload C.1.1 C.1.2.1 dL_law_1688 (lv_at hl 4 rfl) ?_
  refine lv_iconst (v := 1) C.1.1 C.1.2.1 dL_law_1690 (by decide) ?_
  refine lv_iadd C.1.1 C.1.2.1 dL_law_1691 ?_
  refine fm_lsld C E h1 dL_law_1692 ?_
  refine lv_aload_n C.1.1 C.1.2.1 dL_law_1693 rfl (lv_at hl 0 rfl) ?_
  refine lv_iload C.1.1 C.1.2.1 dL_law_1694 (lv_at hl 4 rfl) ?_
  refine lv_iconst (v := 2) C.1.1 C.1.2.1 dL_law_1696 (by decide) ?_
  refine lv_iadd C.1.1 C.1.2.1 dL_law_1697 ?_
  refine fm_lsld C E h2 dL_law_1698 ?_
  refine fm_lcallM C E [.int _, .int _] [.int r] lq_X10_years ln_X10_years lk_X10_years (c_Model_years l _ N _ _ _ _ _ hf2) rfl rfl hl.1 (by simp [Value.category]) ⟨⟨rfl, rfl⟩, Nat.le_of_ble_eq_true rfl, Nat.le_of_ble_eq_true rfl⟩ hc0 dL_law_1699 rfl (fun H locs E => ?_)
  refine W.eq (g2 := F0 m 1702 ls [.int r, .int r]) rfl ?_
  refine lv_icmp_eq (tgt := 1837) C.1.1 C.1.2.1 dL_law_1702 (by decide) (fun _ => ?_) (fun h => absurd rfl h)
  exact W.widen (Nat.le_succ _) (Nat.le_add_right _ 6) (kk M1' M2' f H locs ls hR' E hl)
theorem dL_law_1707 : decode cL_law 1707 = .ok (.aload_n 1, 1) := by decide +kernel
theorem dL_law_1708 : decode cL_law 1708 = .ok (.aload_n 0, 1) := by decide +kernel
theorem dL_law_1709 : decode cL_law 1709 = .ok (.iload 4, 2) := by decide +kernel
theorem dL_law_1711 : decode cL_law 1711 = .ok (.iconst 1, 1) := by decide +kernel
theorem dL_law_1712 : decode cL_law 1712 = .ok (.iadd, 1) := by decide +kernel
theorem dL_law_1713 : decode cL_law 1713 = .ok (.iaload, 1) := by decide +kernel
theorem dL_law_1714 : decode cL_law 1714 = .ok (.invokevirtual 214, 3) := by decide +kernel
theorem dL_law_1717 : decode cL_law 1717 = .ok (.aload_n 2, 1) := by decide +kernel
theorem dL_law_1718 : decode cL_law 1718 = .ok (.aload_n 0, 1) := by decide +kernel
theorem dL_law_1719 : decode cL_law 1719 = .ok (.iload 4, 2) := by decide +kernel
theorem dL_law_1721 : decode cL_law 1721 = .ok (.iconst 1, 1) := by decide +kernel
theorem dL_law_1722 : decode cL_law 1722 = .ok (.iadd, 1) := by decide +kernel
theorem dL_law_1723 : decode cL_law 1723 = .ok (.iaload, 1) := by decide +kernel
theorem dL_law_1724 : decode cL_law 1724 = .ok (.invokevirtual 217, 3) := by decide +kernel
theorem dL_law_1727 : decode cL_law 1727 = .ok (.if_icmp .eq 110, 3) := by decide +kernel
theorem dL_law_1730 : decode cL_law 1730 = .ok (.iconst 0, 1) := by decide +kernel
theorem dL_law_1731 : decode cL_law 1731 = .ok (.ireturn, 1) := by decide +kernel
set_option maxHeartbeats 2000000 in
theorem lq_X9_keep : fm_V "MicRowLaw" 214 yX9_keep 1 := ⟨Or.inl (fm_wd 949 (by decide +kernel) (by decide +kernel)), fm_wd 950 (by decide +kernel) (by decide +kernel), fm_wd 951 (by decide +kernel) (by decide +kernel), fm_wd 81 (by decide +kernel) (by decide +kernel), ⟨by decide, by decide, by decide +kernel⟩⟩
theorem ln_X9_keep : Cond.methodLink "MicRowLaw" 214 yX9_keep ∈ fm_TT := fm_wd 949 (by decide +kernel) (by decide +kernel)
theorem lk_X9_keep : Cond.code yX9_keep cX9_keep 2 (some .boolean) ∈ fm_TT := fm_wd 952 (by decide +kernel) (by decide +kernel)
theorem lq_X10_keep : fm_V "MicRowLaw" 217 yX10_keep 1 := ⟨Or.inl (fm_wd 1682 (by decide +kernel) (by decide +kernel)), fm_wd 1683 (by decide +kernel) (by decide +kernel), fm_wd 1684 (by decide +kernel) (by decide +kernel), fm_wd 91 (by decide +kernel) (by decide +kernel), ⟨by decide, by decide, by decide +kernel⟩⟩
theorem ln_X10_keep : Cond.methodLink "MicRowLaw" 217 yX10_keep ∈ fm_TT := fm_wd 1682 (by decide +kernel) (by decide +kernel)
theorem lk_X10_keep : Cond.code yX10_keep cX10_keep 3 (some .boolean) ∈ fm_TT := fm_wd 1685 (by decide +kernel) (by decide +kernel)
theorem lw_case_keep (C : fm_LC G ad1 ad2 qo p s m meth c b L xs) (hfl : l.stackTraces = false) (hcs : cells + 1 ≤ room_1.cells ∧ slots + 6 ≤ room_1.slots) (E : fm_LW G ad1 ad2 qo M1 M2 f s H locs) (hl : lv_has ls 8 [(0, .ref b), (1, .ref (ad1 0)), (2, .ref (ad2 0)), (3, .ref qo), (4, .int i)]) (h1 : fm_in (i + 1) L = true) (h2 : fm_in (i + 2) L = true) (h3 : fm_in (i + 3) L = true) (h4 : fm_in (i + 4) L = true) (hn : n < 512) (hR : R n M1 M2) (hc : cp_keep N R) (kk : fm_KK p l e s m below meth c cells slots Q qo b n G ad1 ad2 i R) : W p l e room_1 s m #[Value.ref b] below meth c H locs cells slots Q (F0 m 1707 ls []) := by
  obtain ⟨hc1, hc2⟩ := hcs
  have hc0 : cells ≤ room_1.cells ∧ slots ≤ room_1.slots := ⟨by omega, by omega⟩
  obtain ⟨r, M1', M2', hf1, hf2, hR'⟩ := hc n M1 M2 (xs (i + 1).toNatClampNeg) hn hR
  refine lv_aload_n C.1.1 C.1.2.1 dL_law_1707 rfl (lv_at hl 1 rfl) ?_
  refine lv_aload_n C.1.1 C.1.2.1 dL_law_1708 rfl (lv_at hl 0 rfl) ?_
  refine lv_iload C.1.1 C.1.2.1 dL_law_1709 (lv_at hl 4 rfl) ?_
  refine lv_iconst (v := 1) C.1.1 C.1.2.1 dL_law_1711 (by decide) ?_
  refine lv_iadd C.1.1 C.1.2.1 dL_law_1712 ?_
  refine fm_lsld C E h1 dL_law_1713 ?_
  refine fm_lcallC C E [.int _] [] lq_X9_keep ln_X9_keep lk_X9_keep (c_MicRow_keep l _ N _ _ _ _ hf1) rfl rfl hl.1 (by simp) ⟨⟨rfl, rfl⟩, Nat.le_of_ble_eq_true rfl, Nat.le_of_ble_eq_true rfl⟩ hc0 dL_law_1714 rfl (fun H locs E => ?_)
  refine W.eq (g2 := F0 m 1717 ls [.int r]) rfl ?_
  refine lv_aload_n C.1.1 C.1.2.1 dL_law_1717 rfl (lv_at hl 2 rfl) ?_
  refine lv_aload_n C.1.1 C.1.2.1 dL_law_1718 rfl (lv_at hl 0 rfl) ?_
  refine lv_iload C.1.1 C.1.2.1 dL_law_1719 (lv_at hl 4 rfl) ?_
  refine lv_iconst (v := 1) C.1.1 C.1.2.1 dL_law_1721 (by decide) ?_
  refine lv_iadd C.1.1 C.1.2.1 dL_law_1722 ?_
  refine fm_lsld C E h1 dL_law_1723 ?_
  refine fm_lcallM C E [.int _] [.int r] lq_X10_keep ln_X10_keep lk_X10_keep (c_Model_keep l _ N _ _ _ _ hf2) rfl rfl hl.1 (by simp [Value.category]) ⟨⟨rfl, rfl⟩, Nat.le_of_ble_eq_true rfl, Nat.le_of_ble_eq_true rfl⟩ hc0 dL_law_1724 rfl (fun H locs E => ?_)
  refine W.eq (g2 := F0 m 1727 ls [.int r, .int r]) rfl ?_
  refine lv_icmp_eq (tgt := 1837) C.1.1 C.1.2.1 dL_law_1727 (by decide) (fun _ => ?_) (fun h => absurd rfl h)
  exact W.widen (Nat.le_succ _) (Nat.le_add_right _ 6) (kk M1' M2' f H locs ls hR' E hl)
theorem dL_law_1732 : decode cL_law 1732 = .ok (.aload_n 1, 1) := by decide +kernel
theorem dL_law_1733 : decode cL_law 1733 = .ok (.aload_n 0, 1) := by decide +kernel
theorem dL_law_1734 : decode cL_law 1734 = .ok (.iload 4, 2) := by decide +kernel
theorem dL_law_1736 : decode cL_law 1736 = .ok (.iconst 1, 1) := by decide +kernel
theorem dL_law_1737 : decode cL_law 1737 = .ok (.iadd, 1) := by decide +kernel
theorem dL_law_1738 : decode cL_law 1738 = .ok (.iaload, 1) := by decide +kernel
theorem dL_law_1739 : decode cL_law 1739 = .ok (.invokevirtual 218, 3) := by decide +kernel
theorem dL_law_1742 : decode cL_law 1742 = .ok (.aload_n 2, 1) := by decide +kernel
theorem dL_law_1743 : decode cL_law 1743 = .ok (.aload_n 0, 1) := by decide +kernel
theorem dL_law_1744 : decode cL_law 1744 = .ok (.iload 4, 2) := by decide +kernel
theorem dL_law_1746 : decode cL_law 1746 = .ok (.iconst 1, 1) := by decide +kernel
theorem dL_law_1747 : decode cL_law 1747 = .ok (.iadd, 1) := by decide +kernel
theorem dL_law_1748 : decode cL_law 1748 = .ok (.iaload, 1) := by decide +kernel
theorem dL_law_1749 : decode cL_law 1749 = .ok (.invokevirtual 221, 3) := by decide +kernel
theorem dL_law_1752 : decode cL_law 1752 = .ok (.if_icmp .eq 85, 3) := by decide +kernel
theorem dL_law_1755 : decode cL_law 1755 = .ok (.iconst 0, 1) := by decide +kernel
theorem dL_law_1756 : decode cL_law 1756 = .ok (.ireturn, 1) := by decide +kernel
set_option maxHeartbeats 2000000 in
theorem lq_X9_again : fm_V "MicRowLaw" 218 yX9_again 1 := ⟨Or.inl (fm_wd 953 (by decide +kernel) (by decide +kernel)), fm_wd 954 (by decide +kernel) (by decide +kernel), fm_wd 955 (by decide +kernel) (by decide +kernel), fm_wd 81 (by decide +kernel) (by decide +kernel), ⟨by decide, by decide, by decide +kernel⟩⟩
theorem ln_X9_again : Cond.methodLink "MicRowLaw" 218 yX9_again ∈ fm_TT := fm_wd 953 (by decide +kernel) (by decide +kernel)
theorem lk_X9_again : Cond.code yX9_again cX9_again 2 (some .boolean) ∈ fm_TT := fm_wd 956 (by decide +kernel) (by decide +kernel)
theorem lq_X10_again : fm_V "MicRowLaw" 221 yX10_again 1 := ⟨Or.inl (fm_wd 1686 (by decide +kernel) (by decide +kernel)), fm_wd 1687 (by decide +kernel) (by decide +kernel), fm_wd 1688 (by decide +kernel) (by decide +kernel), fm_wd 91 (by decide +kernel) (by decide +kernel), ⟨by decide, by decide, by decide +kernel⟩⟩
theorem ln_X10_again : Cond.methodLink "MicRowLaw" 221 yX10_again ∈ fm_TT := fm_wd 1686 (by decide +kernel) (by decide +kernel)
theorem lk_X10_again : Cond.code yX10_again cX10_again 3 (some .boolean) ∈ fm_TT := fm_wd 1689 (by decide +kernel) (by decide +kernel)
theorem lw_case_again (C : fm_LC G ad1 ad2 qo p s m meth c b L xs) (hfl : l.stackTraces = false) (hcs : cells + 1 ≤ room_1.cells ∧ slots + 6 ≤ room_1.slots) (E : fm_LW G ad1 ad2 qo M1 M2 f s H locs) (hl : lv_has ls 8 [(0, .ref b), (1, .ref (ad1 0)), (2, .ref (ad2 0)), (3, .ref qo), (4, .int i)]) (h1 : fm_in (i + 1) L = true) (h2 : fm_in (i + 2) L = true) (h3 : fm_in (i + 3) L = true) (h4 : fm_in (i + 4) L = true) (hn : n < 512) (hR : R n M1 M2) (hc : cp_again N R) (kk : fm_KK p l e s m below meth c cells slots Q qo b n G ad1 ad2 i R) : W p l e room_1 s m #[Value.ref b] below meth c H locs cells slots Q (F0 m 1732 ls []) := by
  obtain ⟨hc1, hc2⟩ := hcs
  have hc0 : cells ≤ room_1.cells ∧ slots ≤ room_1.slots := ⟨by omega, by omega⟩
  obtain ⟨r, M1', M2', hf1, hf2, hR'⟩ := hc n M1 M2 (xs (i + 1).toNatClampNeg) hn hR
  refine lv_aload_n C.1.1 C.1.2.1 dL_law_1732 rfl (lv_at hl 1 rfl) ?_
  refine lv_aload_n C.1.1 C.1.2.1 dL_law_1733 rfl (lv_at hl 0 rfl) ?_
  refine lv_iload C.1.1 C.1.2.1 dL_law_1734 (lv_at hl 4 rfl) ?_
  refine lv_iconst (v := 1) C.1.1 C.1.2.1 dL_law_1736 (by decide) ?_
  refine lv_iadd C.1.1 C.1.2.1 dL_law_1737 ?_
  refine fm_lsld C E h1 dL_law_1738 ?_
  refine fm_lcallC C E [.int _] [] lq_X9_again ln_X9_again lk_X9_again (c_MicRow_again l _ N _ _ _ _ hf1) rfl rfl hl.1 (by simp) ⟨⟨rfl, rfl⟩, Nat.le_of_ble_eq_true rfl, Nat.le_of_ble_eq_true rfl⟩ hc0 dL_law_1739 rfl (fun H locs E => ?_)
  refine W.eq (g2 := F0 m 1742 ls [.int r]) rfl ?_
  refine lv_aload_n C.1.1 C.1.2.1 dL_law_1742 rfl (lv_at hl 2 rfl) ?_
  refine lv_aload_n C.1.1 C.1.2.1 dL_law_1743 rfl (lv_at hl 0 rfl) ?_
  refine lv_iload C.1.1 C.1.2.1 dL_law_1744 (lv_at hl 4 rfl) ?_
  refine lv_iconst (v := 1) C.1.1 C.1.2.1 dL_law_1746 (by decide) ?_
  refine lv_iadd C.1.1 C.1.2.1 dL_law_1747 ?_
  refine fm_lsld C E h1 dL_law_1748 ?_
  refine fm_lcallM C E [.int _] [.int r] lq_X10_again ln_X10_again lk_X10_again (c_Model_again l _ N _ _ _ _ hf2) rfl rfl hl.1 (by simp [Value.category]) ⟨⟨rfl, rfl⟩, Nat.le_of_ble_eq_true rfl, Nat.le_of_ble_eq_true rfl⟩ hc0 dL_law_1749 rfl (fun H locs E => ?_)
  refine W.eq (g2 := F0 m 1752 ls [.int r, .int r]) rfl ?_
  refine lv_icmp_eq (tgt := 1837) C.1.1 C.1.2.1 dL_law_1752 (by decide) (fun _ => ?_) (fun h => absurd rfl h)
  exact W.widen (Nat.le_succ _) (Nat.le_add_right _ 6) (kk M1' M2' f H locs ls hR' E hl)
theorem dL_law_1757 : decode cL_law 1757 = .ok (.aload_n 1, 1) := by decide +kernel
theorem dL_law_1758 : decode cL_law 1758 = .ok (.aload_n 0, 1) := by decide +kernel
theorem dL_law_1759 : decode cL_law 1759 = .ok (.iload 4, 2) := by decide +kernel
theorem dL_law_1761 : decode cL_law 1761 = .ok (.iconst 1, 1) := by decide +kernel
theorem dL_law_1762 : decode cL_law 1762 = .ok (.iadd, 1) := by decide +kernel
theorem dL_law_1763 : decode cL_law 1763 = .ok (.iaload, 1) := by decide +kernel
theorem dL_law_1764 : decode cL_law 1764 = .ok (.invokevirtual 222, 3) := by decide +kernel
theorem dL_law_1767 : decode cL_law 1767 = .ok (.aload_n 2, 1) := by decide +kernel
theorem dL_law_1768 : decode cL_law 1768 = .ok (.aload_n 0, 1) := by decide +kernel
theorem dL_law_1769 : decode cL_law 1769 = .ok (.iload 4, 2) := by decide +kernel
theorem dL_law_1771 : decode cL_law 1771 = .ok (.iconst 1, 1) := by decide +kernel
theorem dL_law_1772 : decode cL_law 1772 = .ok (.iadd, 1) := by decide +kernel
theorem dL_law_1773 : decode cL_law 1773 = .ok (.iaload, 1) := by decide +kernel
theorem dL_law_1774 : decode cL_law 1774 = .ok (.invokevirtual 225, 3) := by decide +kernel
theorem dL_law_1777 : decode cL_law 1777 = .ok (.if_icmp .eq 60, 3) := by decide +kernel
theorem dL_law_1780 : decode cL_law 1780 = .ok (.iconst 0, 1) := by decide +kernel
theorem dL_law_1781 : decode cL_law 1781 = .ok (.ireturn, 1) := by decide +kernel
set_option maxHeartbeats 2000000 in
theorem lq_X9_count : fm_V "MicRowLaw" 222 yX9_count 1 := ⟨Or.inl (fm_wd 961 (by decide +kernel) (by decide +kernel)), fm_wd 962 (by decide +kernel) (by decide +kernel), fm_wd 963 (by decide +kernel) (by decide +kernel), fm_wd 81 (by decide +kernel) (by decide +kernel), ⟨by decide, by decide, by decide +kernel⟩⟩
theorem ln_X9_count : Cond.methodLink "MicRowLaw" 222 yX9_count ∈ fm_TT := fm_wd 961 (by decide +kernel) (by decide +kernel)
theorem lk_X9_count : Cond.code yX9_count cX9_count 2 (some .int) ∈ fm_TT := fm_wd 964 (by decide +kernel) (by decide +kernel)
theorem lq_X10_count : fm_V "MicRowLaw" 225 yX10_count 1 := ⟨Or.inl (fm_wd 1690 (by decide +kernel) (by decide +kernel)), fm_wd 1691 (by decide +kernel) (by decide +kernel), fm_wd 1692 (by decide +kernel) (by decide +kernel), fm_wd 91 (by decide +kernel) (by decide +kernel), ⟨by decide, by decide, by decide +kernel⟩⟩
theorem ln_X10_count : Cond.methodLink "MicRowLaw" 225 yX10_count ∈ fm_TT := fm_wd 1690 (by decide +kernel) (by decide +kernel)
theorem lk_X10_count : Cond.code yX10_count cX10_count 2 (some .int) ∈ fm_TT := fm_wd 1693 (by decide +kernel) (by decide +kernel)
theorem lw_case_count (C : fm_LC G ad1 ad2 qo p s m meth c b L xs) (hfl : l.stackTraces = false) (hcs : cells + 1 ≤ room_1.cells ∧ slots + 6 ≤ room_1.slots) (E : fm_LW G ad1 ad2 qo M1 M2 f s H locs) (hl : lv_has ls 8 [(0, .ref b), (1, .ref (ad1 0)), (2, .ref (ad2 0)), (3, .ref qo), (4, .int i)]) (h1 : fm_in (i + 1) L = true) (h2 : fm_in (i + 2) L = true) (h3 : fm_in (i + 3) L = true) (h4 : fm_in (i + 4) L = true) (hn : n < 512) (hR : R n M1 M2) (hc : cp_count N R) (kk : fm_KK p l e s m below meth c cells slots Q qo b n G ad1 ad2 i R) : W p l e room_1 s m #[Value.ref b] below meth c H locs cells slots Q (F0 m 1757 ls []) := by
  obtain ⟨hc1, hc2⟩ := hcs
  have hc0 : cells ≤ room_1.cells ∧ slots ≤ room_1.slots := ⟨by omega, by omega⟩
  obtain ⟨r, M2', hf1, hf2, hR'⟩ := hc n M1 M2 (xs (i + 1).toNatClampNeg) hn hR
  refine lv_aload_n C.1.1 C.1.2.1 dL_law_1757 rfl (lv_at hl 1 rfl) ?_
  refine lv_aload_n C.1.1 C.1.2.1 dL_law_1758 rfl (lv_at hl 0 rfl) ?_
  refine lv_iload C.1.1 C.1.2.1 dL_law_1759 (lv_at hl 4 rfl) ?_
  refine lv_iconst (v := 1) C.1.1 C.1.2.1 dL_law_1761 (by decide) ?_
  refine lv_iadd C.1.1 C.1.2.1 dL_law_1762 ?_
  refine fm_lsld C E h1 dL_law_1763 ?_
  refine fm_lcallC C E [.int _] [] lq_X9_count ln_X9_count lk_X9_count (c_MicRow_count l _ N _ _ _ hf1) rfl rfl hl.1 (by simp) ⟨⟨rfl, rfl⟩, Nat.le_of_ble_eq_true rfl, Nat.le_of_ble_eq_true rfl⟩ hc0 dL_law_1764 rfl (fun H locs E => ?_)
  refine W.eq (g2 := F0 m 1767 ls [.int r]) rfl ?_
  refine lv_aload_n C.1.1 C.1.2.1 dL_law_1767 rfl (lv_at hl 2 rfl) ?_
  refine lv_aload_n C.1.1 C.1.2.1 dL_law_1768 rfl (lv_at hl 0 rfl) ?_
  refine lv_iload C.1.1 C.1.2.1 dL_law_1769 (lv_at hl 4 rfl) ?_
  refine lv_iconst (v := 1) C.1.1 C.1.2.1 dL_law_1771 (by decide) ?_
  refine lv_iadd C.1.1 C.1.2.1 dL_law_1772 ?_
  refine fm_lsld C E h1 dL_law_1773 ?_
  refine fm_lcallM C E [.int _] [.int r] lq_X10_count ln_X10_count lk_X10_count (c_Model_count l _ N _ _ _ _ hf2) rfl rfl hl.1 (by simp [Value.category]) ⟨⟨rfl, rfl⟩, Nat.le_of_ble_eq_true rfl, Nat.le_of_ble_eq_true rfl⟩ hc0 dL_law_1774 rfl (fun H locs E => ?_)
  refine W.eq (g2 := F0 m 1777 ls [.int r, .int r]) rfl ?_
  refine lv_icmp_eq (tgt := 1837) C.1.1 C.1.2.1 dL_law_1777 (by decide) (fun _ => ?_) (fun h => absurd rfl h)
  exact W.widen (Nat.le_succ _) (Nat.le_add_right _ 6) (kk M1 M2' f H locs ls hR' E hl)
theorem dL_law_1782 : decode cL_law 1782 = .ok (.aload_n 1, 1) := by decide +kernel
theorem dL_law_1783 : decode cL_law 1783 = .ok (.aload_n 0, 1) := by decide +kernel
theorem dL_law_1784 : decode cL_law 1784 = .ok (.iload 4, 2) := by decide +kernel
theorem dL_law_1786 : decode cL_law 1786 = .ok (.iconst 1, 1) := by decide +kernel
theorem dL_law_1787 : decode cL_law 1787 = .ok (.iadd, 1) := by decide +kernel
theorem dL_law_1788 : decode cL_law 1788 = .ok (.iaload, 1) := by decide +kernel
theorem dL_law_1789 : decode cL_law 1789 = .ok (.aload_n 3, 1) := by decide +kernel
theorem dL_law_1790 : decode cL_law 1790 = .ok (.invokestatic 226, 3) := by decide +kernel
theorem dL_law_1793 : decode cL_law 1793 = .ok (.istore 5, 2) := by decide +kernel
theorem dL_law_1795 : decode cL_law 1795 = .ok (.aload_n 2, 1) := by decide +kernel
theorem dL_law_1796 : decode cL_law 1796 = .ok (.aload_n 0, 1) := by decide +kernel
theorem dL_law_1797 : decode cL_law 1797 = .ok (.iload 4, 2) := by decide +kernel
theorem dL_law_1799 : decode cL_law 1799 = .ok (.iconst 1, 1) := by decide +kernel
theorem dL_law_1800 : decode cL_law 1800 = .ok (.iadd, 1) := by decide +kernel
theorem dL_law_1801 : decode cL_law 1801 = .ok (.iaload, 1) := by decide +kernel
theorem dL_law_1802 : decode cL_law 1802 = .ok (.invokevirtual 229, 3) := by decide +kernel
theorem dL_law_1805 : decode cL_law 1805 = .ok (.lstore 6, 2) := by decide +kernel
theorem dL_law_1807 : decode cL_law 1807 = .ok (.aload_n 2, 1) := by decide +kernel
theorem dL_law_1808 : decode cL_law 1808 = .ok (.invokevirtual 72, 3) := by decide +kernel
theorem dL_law_1811 : decode cL_law 1811 = .ok (.iload 5, 2) := by decide +kernel
theorem dL_law_1813 : decode cL_law 1813 = .ok (.if_icmp .eq 5, 3) := by decide +kernel
theorem dL_law_1816 : decode cL_law 1816 = .ok (.iconst 0, 1) := by decide +kernel
theorem dL_law_1817 : decode cL_law 1817 = .ok (.ireturn, 1) := by decide +kernel
theorem dL_law_1818 : decode cL_law 1818 = .ok (.iload 5, 2) := by decide +kernel
theorem dL_law_1820 : decode cL_law 1820 = .ok (.ifCond .ne 14, 3) := by decide +kernel
theorem dL_law_1823 : decode cL_law 1823 = .ok (.aload_n 3, 1) := by decide +kernel
theorem dL_law_1824 : decode cL_law 1824 = .ok (.iconst 0, 1) := by decide +kernel
theorem dL_law_1825 : decode cL_law 1825 = .ok (.laload, 1) := by decide +kernel
theorem dL_law_1826 : decode cL_law 1826 = .ok (.lload 6, 2) := by decide +kernel
theorem dL_law_1828 : decode cL_law 1828 = .ok (.lcmp, 1) := by decide +kernel
theorem dL_law_1829 : decode cL_law 1829 = .ok (.ifCond .eq 5, 3) := by decide +kernel
theorem dL_law_1832 : decode cL_law 1832 = .ok (.iconst 0, 1) := by decide +kernel
theorem dL_law_1833 : decode cL_law 1833 = .ok (.ireturn, 1) := by decide +kernel
theorem dL_law_1834 : decode cL_law 1834 = .ok (.goto 3, 3) := by decide +kernel
set_option maxHeartbeats 2000000 in
theorem lq_L_row : fm_S "MicRowLaw" 226 yL_row 3 := ⟨Or.inl (fm_wd 1095 (by decide +kernel) (by decide +kernel)), fm_wd 1096 (by decide +kernel) (by decide +kernel), fm_wd 80 (by decide +kernel) (by decide +kernel), ⟨by decide, by decide, by decide +kernel⟩⟩
theorem ln_L_row : Cond.methodLink "MicRowLaw" 226 yL_row ∈ fm_TT := fm_wd 1095 (by decide +kernel) (by decide +kernel)
theorem lk_L_row : Cond.codeWith yL_row cL_row 4 (some .int) [(0, 8, 11, 13)] ∈ fm_TT := fm_wd 1097 (by decide +kernel) (by decide +kernel)
theorem lq_X10_row : fm_V "MicRowLaw" 229 yX10_row 1 := ⟨Or.inl (fm_wd 1694 (by decide +kernel) (by decide +kernel)), fm_wd 1695 (by decide +kernel) (by decide +kernel), fm_wd 1696 (by decide +kernel) (by decide +kernel), fm_wd 91 (by decide +kernel) (by decide +kernel), ⟨by decide, by decide, by decide +kernel⟩⟩
theorem ln_X10_row : Cond.methodLink "MicRowLaw" 229 yX10_row ∈ fm_TT := fm_wd 1694 (by decide +kernel) (by decide +kernel)
theorem lk_X10_row : Cond.code yX10_row cX10_row 2 (some .long) ∈ fm_TT := fm_wd 1697 (by decide +kernel) (by decide +kernel)
theorem lw_case_row (C : fm_LC G ad1 ad2 qo p s m meth c b L xs) (hfl : l.stackTraces = false) (hcs : cells + 1 ≤ room_1.cells ∧ slots + 6 ≤ room_1.slots) (E : fm_LW G ad1 ad2 qo M1 M2 f s H locs) (hl : lv_has ls 8 [(0, .ref b), (1, .ref (ad1 0)), (2, .ref (ad2 0)), (3, .ref qo), (4, .int i)]) (h1 : fm_in (i + 1) L = true) (h2 : fm_in (i + 2) L = true) (h3 : fm_in (i + 3) L = true) (h4 : fm_in (i + 4) L = true) (hn : n < 512) (hR : R n M1 M2) (hc : cp_row N R) (kk : fm_KK p l e s m below meth c cells slots Q qo b n G ad1 ad2 i R) : W p l e room_1 s m #[Value.ref b] below meth c H locs cells slots Q (F0 m 1782 ls []) := by
  obtain ⟨hc1, hc2⟩ := hcs
  have hc0 : cells ≤ room_1.cells ∧ slots ≤ room_1.slots := ⟨by omega, by omega⟩
  rcases hc n M1 M2 (xs (i + 1).toNatClampNeg) hn hR with ⟨r, M2', hf1, hf2, hf3, hR'⟩ | ⟨r, M1', M2', hf1, hf2, hf3, hR'⟩
  · refine lv_aload_n C.1.1 C.1.2.1 dL_law_1782 rfl (lv_at hl 1 rfl) ?_
    refine lv_aload_n C.1.1 C.1.2.1 dL_law_1783 rfl (lv_at hl 0 rfl) ?_
    refine lv_iload C.1.1 C.1.2.1 dL_law_1784 (lv_at hl 4 rfl) ?_
    refine lv_iconst (v := 1) C.1.1 C.1.2.1 dL_law_1786 (by decide) ?_
    refine lv_iadd C.1.1 C.1.2.1 dL_law_1787 ?_
    refine fm_lsld C E h1 dL_law_1788 ?_
    refine lv_aload_n C.1.1 C.1.2.1 dL_law_1789 rfl (lv_at hl 3 rfl) ?_
    refine fm_lcallH C E [.ref _, .int _, .ref _] [] lq_L_row ln_L_row lk_L_row (ch_row l _ _ _ _ _ _ hf1) rfl hl.1 (by simp) ⟨⟨rfl, rfl⟩, Nat.le_of_ble_eq_true rfl, Nat.le_of_ble_eq_true rfl⟩ ⟨hc1, hc2⟩ dL_law_1790 rfl (fun H locs E => ?_)
    refine lv_istore (lv' := [(5, .int _), (0, .ref _), (1, .ref _), (2, .ref _), (3, .ref _), (4, .int _)]) C.1.1 C.1.2.1 dL_law_1793 hl (by decide) rfl (fun ls hl => ?_)
    refine lv_aload_n C.1.1 C.1.2.1 dL_law_1795 rfl (lv_at hl 3 rfl) ?_
    refine lv_aload_n C.1.1 C.1.2.1 dL_law_1796 rfl (lv_at hl 1 rfl) ?_
    refine lv_iload C.1.1 C.1.2.1 dL_law_1797 (lv_at hl 5 rfl) ?_
    refine lv_iconst (v := 1) C.1.1 C.1.2.1 dL_law_1799 (by decide) ?_
    refine lv_iadd C.1.1 C.1.2.1 dL_law_1800 ?_
    refine fm_lsld C E h1 dL_law_1801 ?_
    refine fm_lcallM C E [.int _] [] lq_X10_row ln_X10_row lk_X10_row (c_Model_row l _ _ _ _ _ hf2) rfl rfl hl.1 (by simp) ⟨⟨rfl, rfl⟩, Nat.le_of_ble_eq_true rfl, Nat.le_of_ble_eq_true rfl⟩ ⟨hc1, hc2⟩ dL_law_1802 rfl (fun H locs E => ?_)
    refine W.eq (g2 := F0 m 1805 ls [.long r]) rfl ?_
    refine lv_lstore (lv' := [(6, .long _), (5, .int _), (0, .ref _), (1, .ref _), (2, .ref _), (3, .ref _), (4, .int _)]) C.1.1 C.1.2.1 dL_law_1805 hl (by decide) rfl (fun ls hl => ?_)
    refine lv_aload_n C.1.1 C.1.2.1 dL_law_1807 rfl (lv_at hl 4 rfl) ?_
    refine fm_lcallM C E [] [] lq_X10_thrown ln_X10_thrown lk_X10_thrown (c_Model_thrown l _ _ _ hf3) rfl rfl hl.1 (by simp) ⟨⟨rfl, rfl⟩, Nat.le_of_ble_eq_true rfl, Nat.le_of_ble_eq_true rfl⟩ ⟨hc1, hc2⟩ dL_law_1808 rfl (fun H locs E => ?_)
    refine W.eq (g2 := F0 m 1811 ls [.int 0]) rfl ?_
    refine lv_iload C.1.1 C.1.2.1 dL_law_1811 (lv_at hl 1 rfl) ?_
    refine lv_icmp_eq (tgt := 1818) C.1.1 C.1.2.1 dL_law_1813 (by decide) (fun _ => ?_) (fun h => absurd rfl h)
    refine lv_iload C.1.1 C.1.2.1 dL_law_1818 (lv_at hl 1 rfl) ?_
    refine lv_if_ne (tgt := 1834) C.1.1 C.1.2.1 dL_law_1820 (by decide) (fun h => absurd rfl h) (fun _ => ?_)
    refine lv_aload_n C.1.1 C.1.2.1 dL_law_1823 rfl (lv_at hl 5 rfl) ?_
    refine lv_iconst (v := 0) C.1.1 C.1.2.1 dL_law_1824 (by decide) ?_
    refine fm_lout C E dL_law_1825 ?_
    refine lv_lload C.1.1 C.1.2.1 dL_law_1826 (lv_at hl 0 rfl) ?_
    refine W.lcmp C.1.1 C.1.2.1 dL_law_1828 ?_
    refine lv_if_eq (tgt := 1834) C.1.1 C.1.2.1 dL_law_1829 (by decide) (fun _ => ?_) (fun h => absurd (fm_cmp0 fm_upd0) h)
    refine lv_goto (tgt := 1837) C.1.1 C.1.2.1 dL_law_1834 (by decide) ?_
    exact kk M1 M2' _ H locs ls hR' E (lv_sub hl [2, 3, 4, 5, 6] rfl)
  · refine lv_aload_n C.1.1 C.1.2.1 dL_law_1782 rfl (lv_at hl 1 rfl) ?_
    refine lv_aload_n C.1.1 C.1.2.1 dL_law_1783 rfl (lv_at hl 0 rfl) ?_
    refine lv_iload C.1.1 C.1.2.1 dL_law_1784 (lv_at hl 4 rfl) ?_
    refine lv_iconst (v := 1) C.1.1 C.1.2.1 dL_law_1786 (by decide) ?_
    refine lv_iadd C.1.1 C.1.2.1 dL_law_1787 ?_
    refine fm_lsld C E h1 dL_law_1788 ?_
    refine lv_aload_n C.1.1 C.1.2.1 dL_law_1789 rfl (lv_at hl 3 rfl) ?_
    refine fm_lcallH C E [.ref _, .int _, .ref _] [] lq_L_row ln_L_row lk_L_row (ct_row l hfl _ _ _ _ _ _ hf1) rfl hl.1 (by simp) ⟨⟨rfl, rfl⟩, Nat.le_of_ble_eq_true rfl, Nat.le_of_ble_eq_true rfl⟩ ⟨hc1, hc2⟩ dL_law_1790 rfl (fun H locs E => ?_)
    refine lv_istore (lv' := [(5, .int _), (0, .ref _), (1, .ref _), (2, .ref _), (3, .ref _), (4, .int _)]) C.1.1 C.1.2.1 dL_law_1793 hl (by decide) rfl (fun ls hl => ?_)
    refine lv_aload_n C.1.1 C.1.2.1 dL_law_1795 rfl (lv_at hl 3 rfl) ?_
    refine lv_aload_n C.1.1 C.1.2.1 dL_law_1796 rfl (lv_at hl 1 rfl) ?_
    refine lv_iload C.1.1 C.1.2.1 dL_law_1797 (lv_at hl 5 rfl) ?_
    refine lv_iconst (v := 1) C.1.1 C.1.2.1 dL_law_1799 (by decide) ?_
    refine lv_iadd C.1.1 C.1.2.1 dL_law_1800 ?_
    refine fm_lsld C E h1 dL_law_1801 ?_
    refine fm_lcallM C E [.int _] [] lq_X10_row ln_X10_row lk_X10_row (c_Model_row l _ _ _ _ _ hf2) rfl rfl hl.1 (by simp) ⟨⟨rfl, rfl⟩, Nat.le_of_ble_eq_true rfl, Nat.le_of_ble_eq_true rfl⟩ ⟨hc1, hc2⟩ dL_law_1802 rfl (fun H locs E => ?_)
    refine W.eq (g2 := F0 m 1805 ls [.long r]) rfl ?_
    refine lv_lstore (lv' := [(6, .long _), (5, .int _), (0, .ref _), (1, .ref _), (2, .ref _), (3, .ref _), (4, .int _)]) C.1.1 C.1.2.1 dL_law_1805 hl (by decide) rfl (fun ls hl => ?_)
    refine lv_aload_n C.1.1 C.1.2.1 dL_law_1807 rfl (lv_at hl 4 rfl) ?_
    refine fm_lcallM C E [] [] lq_X10_thrown ln_X10_thrown lk_X10_thrown (c_Model_thrown l _ _ _ hf3) rfl rfl hl.1 (by simp) ⟨⟨rfl, rfl⟩, Nat.le_of_ble_eq_true rfl, Nat.le_of_ble_eq_true rfl⟩ ⟨hc1, hc2⟩ dL_law_1808 rfl (fun H locs E => ?_)
    refine W.eq (g2 := F0 m 1811 ls [.int 1]) rfl ?_
    refine lv_iload C.1.1 C.1.2.1 dL_law_1811 (lv_at hl 1 rfl) ?_
    refine lv_icmp_eq (tgt := 1818) C.1.1 C.1.2.1 dL_law_1813 (by decide) (fun _ => ?_) (fun h => absurd rfl h)
    refine lv_iload C.1.1 C.1.2.1 dL_law_1818 (lv_at hl 1 rfl) ?_
    refine lv_if_ne (tgt := 1834) C.1.1 C.1.2.1 dL_law_1820 (by decide) (fun _ => ?_) (fun h => absurd h (by decide))
    refine lv_goto (tgt := 1837) C.1.1 C.1.2.1 dL_law_1834 (by decide) ?_
    exact kk M1' M2' _ H locs ls hR' E (lv_sub hl [2, 3, 4, 5, 6] rfl)
end LWC
