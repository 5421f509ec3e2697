/-! ===== the start ===== -/
def fm_A0 (s : State) : Nat → Prop := fun q => s.heap.size ≤ q
theorem fm_A0n {s : State} : ∀ a : Nat, a < s.heap.size → ¬ fm_A0 s a := fun _ h => Nat.not_le.mpr h
def fm_flat : List Cond := flatC (Jvm.Cond.and given_1 narrow_1)
section FMS
variable {s : State} {args : Array Value}
theorem fm_zof {C n : String} {vs : List Int32} (hN : vs.length < 2 ^ 31) (hs : ∀ w ∈ fm_flat, w.before args s = true) (hl : (Cond.laysStatic C n "[I").before args s = true) (hi : (Cond.initialized C).before args s = true) (h1 : Cond.arrayOf (.static C n "[I") .int ∈ fm_flat) (h2 : Cond.eq (.length (.static C n "[I")) (.int (Int32.ofNat vs.length)) ∈ fm_flat) (h3 : ∀ j, j < vs.length → Cond.eq (.elem (.static C n "[I") (.int (Int32.ofNat j))) (.int (vs.getD j 0)) ∈ fm_flat) : fm_z (C, n, vs) (fm_A0 s) s s.heap := by
  obtain ⟨t, ht, hT⟩ := va_Tof (tm := .static C n "[I") (ty := .int) (N := vs.length) (f := fun j => .int (vs.getD j 0)) (A := fm_A0 s) hN (hs _ h1) (va_eqt (hs _ h2)) (fun j hj => va_eqt (hs _ (h3 j hj))) fm_A0n
  exact ⟨t, va_Zof hl hi ht fm_A0n, hT⟩
theorem fm_z0 (hts : ∀ w ∈ lw_tbl, w.before args s = true) (hs : ∀ w ∈ fm_flat, w.before args s = true) : fm_z ("MicRow", "MIC_LEAST", [0, 1, 0, 1, 0, 0]) (fm_A0 s) s s.heap := fm_zof (by decide) hs (hts _ (List.mem_of_getElem? (i := 446) (by decide +kernel))) (hts _ (List.mem_of_getElem? (i := 81) (by decide +kernel))) (by decide +kernel) (by decide +kernel) (by decide +kernel)
theorem fm_z1 (hts : ∀ w ∈ lw_tbl, w.before args s = true) (hs : ∀ w ∈ fm_flat, w.before args s = true) : fm_z ("MicRow", "MIC_MOST", [40, 400, 9, 200, 1, 1]) (fm_A0 s) s s.heap := fm_zof (by decide) hs (hts _ (List.mem_of_getElem? (i := 391) (by decide +kernel))) (hts _ (List.mem_of_getElem? (i := 81) (by decide +kernel))) (by decide +kernel) (by decide +kernel) (by decide +kernel)
theorem fm_z2 (hts : ∀ w ∈ lw_tbl, w.before args s = true) (hs : ∀ w ∈ fm_flat, w.before args s = true) : fm_z ("MicRow", "MIC_FIRST", [0, 100, 0, 100, 0, 0]) (fm_A0 s) s s.heap := fm_zof (by decide) hs (hts _ (List.mem_of_getElem? (i := 397) (by decide +kernel))) (hts _ (List.mem_of_getElem? (i := 81) (by decide +kernel))) (by decide +kernel) (by decide +kernel) (by decide +kernel)
theorem fm_z3 (hts : ∀ w ∈ lw_tbl, w.before args s = true) (hs : ∀ w ∈ fm_flat, w.before args s = true) : fm_z ("MicRow", "AIM_LEAST", [-8, 1]) (fm_A0 s) s s.heap := fm_zof (by decide) hs (hts _ (List.mem_of_getElem? (i := 831) (by decide +kernel))) (hts _ (List.mem_of_getElem? (i := 81) (by decide +kernel))) (by decide +kernel) (by decide +kernel) (by decide +kernel)
theorem fm_z4 (hts : ∀ w ∈ lw_tbl, w.before args s = true) (hs : ∀ w ∈ fm_flat, w.before args s = true) : fm_z ("MicRow", "AIM_MOST", [8, 9]) (fm_A0 s) s s.heap := fm_zof (by decide) hs (hts _ (List.mem_of_getElem? (i := 833) (by decide +kernel))) (hts _ (List.mem_of_getElem? (i := 81) (by decide +kernel))) (by decide +kernel) (by decide +kernel) (by decide +kernel)
theorem fm_z5 (hts : ∀ w ∈ lw_tbl, w.before args s = true) (hs : ∀ w ∈ fm_flat, w.before args s = true) : fm_z ("MicRow", "HELD_LEAST", [1, 0, 4]) (fm_A0 s) s s.heap := fm_zof (by decide) hs (hts _ (List.mem_of_getElem? (i := 787) (by decide +kernel))) (hts _ (List.mem_of_getElem? (i := 81) (by decide +kernel))) (by decide +kernel) (by decide +kernel) (by decide +kernel)
theorem fm_z6 (hts : ∀ w ∈ lw_tbl, w.before args s = true) (hs : ∀ w ∈ fm_flat, w.before args s = true) : fm_z ("MicRow", "HELD_MOST", [9999, 200, 48]) (fm_A0 s) s s.heap := fm_zof (by decide) hs (hts _ (List.mem_of_getElem? (i := 789) (by decide +kernel))) (hts _ (List.mem_of_getElem? (i := 81) (by decide +kernel))) (by decide +kernel) (by decide +kernel) (by decide +kernel)
theorem fm_z7 (hts : ∀ w ∈ lw_tbl, w.before args s = true) (hs : ∀ w ∈ fm_flat, w.before args s = true) : fm_z ("MicRowModel", "MOSTS", [40, 400, 9, 200, 1, 1]) (fm_A0 s) s s.heap := fm_zof (by decide) hs (hts _ (List.mem_of_getElem? (i := 1246) (by decide +kernel))) (hts _ (List.mem_of_getElem? (i := 91) (by decide +kernel))) (by decide +kernel) (by decide +kernel) (by decide +kernel)
theorem fm_zall8 (hts : ∀ w ∈ lw_tbl, w.before args s = true) (hs : ∀ w ∈ fm_flat, w.before args s = true) : ∀ q ∈ fm_Zs, fm_z q (fm_A0 s) s s.heap := by
  unfold fm_Zs
  exact (List.forall_mem_cons.mpr ⟨fm_z0 hts hs, (List.forall_mem_cons.mpr ⟨fm_z1 hts hs, (List.forall_mem_cons.mpr ⟨fm_z2 hts hs, (List.forall_mem_cons.mpr ⟨fm_z3 hts hs, (List.forall_mem_cons.mpr ⟨fm_z4 hts hs, (List.forall_mem_cons.mpr ⟨fm_z5 hts hs, (List.forall_mem_cons.mpr ⟨fm_z6 hts hs, (List.forall_mem_cons.mpr ⟨fm_z7 hts hs, List.forall_mem_nil _⟩)⟩)⟩)⟩)⟩)⟩)⟩)⟩)
def fm_tm (i : Nat) : Term := .string (fm_Ss.getD i ("", 0, "")).1 (fm_Ss.getD i ("", 0, "")).2.1
theorem fm_tx (hs : ∀ w ∈ fm_flat, w.before args s = true) : ∃ adK adV : Nat → Nat, vk_S 7 fm_Sl fm_Sb adK adV (fm_A0 s) s s.heap ∧ ∀ i : Nat, i < 7 → (fm_tm i).eval args s none [] s = some (.ref (adK i)) := by
  refine vk_Sof (tm := fm_tm) (by decide) (fun i hi => hs _ ?_) (fun i hi => hs _ ?_) (fun i hi => hs _ ?_) (fun i hi => hs _ ?_) (fun i hi j hj => hs _ ?_) (fun i j hi hj hij => ?_) fm_A0n
  · exact (by decide +kernel : ∀ i, i < 7 → Cond.exactly (fm_tm i) "java/lang/String" ∈ fm_flat) i hi
  · exact (by decide +kernel : ∀ i, i < 7 → Cond.eq (.field (fm_tm i) "java/lang/String" "code\x72" "B") (.int 0) ∈ fm_flat) i hi
  · exact (by decide +kernel : ∀ i, i < 7 → Cond.arrayOf (.field (fm_tm i) "java/lang/String" "value" "[B") .byte ∈ fm_flat) i hi
  · exact (by decide +kernel : ∀ i, i < 7 → Cond.eq (.length (.field (fm_tm i) "java/lang/String" "value" "[B")) (.int (Int32.ofNat (fm_Sl.getD i 0))) ∈ fm_flat) i hi
  · exact (by decide +kernel : ∀ i, i < 7 → ∀ j, j < fm_Sl.getD i 0 → Cond.eq (.elem (.field (fm_tm i) "java/lang/String" "value" "[B") (.int (Int32.ofNat j))) (.int ((fm_Sb.getD i []).getD j 0)) ∈ fm_flat) i hi j hj
  · rcases (by decide +kernel : ∀ i, i < 7 → ∀ j, j < 7 → i ≠ j → (Cond.not (Cond.eq (fm_tm i) (fm_tm j)) ∈ fm_flat ∨ Cond.not (Cond.eq (fm_tm j) (fm_tm i)) ∈ fm_flat)) i hi j hj hij with h | h
    · exact Or.inl (hs _ h)
    · exact Or.inr (hs _ h)
theorem fm_sr0 (hts : ∀ w ∈ lw_tbl, w.before args s = true) : (Cond.stringRef "MicRow$Reade\x72" 86 "9999").before args s = true := (hts _ (List.mem_of_getElem? (i := 856) (by decide +kernel)))
theorem fm_sr1 (hts : ∀ w ∈ lw_tbl, w.before args s = true) : (Cond.stringRef "MicRow$Reade\x72" 88 "999").before args s = true := (hts _ (List.mem_of_getElem? (i := 857) (by decide +kernel)))
theorem fm_sr2 (hts : ∀ w ∈ lw_tbl, w.before args s = true) : (Cond.stringRef "MicRow$Reade\x72" 90 "99").before args s = true := (hts _ (List.mem_of_getElem? (i := 858) (by decide +kernel)))
theorem fm_sr3 (hts : ∀ w ∈ lw_tbl, w.before args s = true) : (Cond.stringRef "MicRow$Reade\x72" 92 "9+8").before args s = true := (hts _ (List.mem_of_getElem? (i := 859) (by decide +kernel)))
theorem fm_sr4 (hts : ∀ w ∈ lw_tbl, w.before args s = true) : (Cond.stringRef "MicRow$Reade\x72" 94 "").before args s = true := (hts _ (List.mem_of_getElem? (i := 860) (by decide +kernel)))
theorem fm_sr5 (hts : ∀ w ∈ lw_tbl, w.before args s = true) : (Cond.stringRef "MicRow" 203 "there is none such").before args s = true := (hts _ (List.mem_of_getElem? (i := 1015) (by decide +kernel)))
theorem fm_sr6 (hts : ∀ w ∈ lw_tbl, w.before args s = true) : (Cond.stringRef "MicRowModel" 315 "gwdocblsa").before args s = true := (hts _ (List.mem_of_getElem? (i := 1601) (by decide +kernel)))
theorem fm_tev {i : Nat} {v : Value} (h : (fm_tm i).eval args s none [] s = some v) : (fm_tm i).eval #[] s none [] s = some v := h
theorem fm_txR (hts : ∀ w ∈ lw_tbl, w.before args s = true) {adK : Nat → Nat} (h : ∀ i : Nat, i < 7 → (fm_tm i).eval args s none [] s = some (.ref (adK i))) : ∀ (i : Nat) (q : String × Nat × String), fm_Ss[i]? = some q → vk_R q.1 q.2.1 q.2.2 (adK i) s := by
  intro i q hq
  have hi : i < 7 := (List.getElem?_eq_some_iff.mp hq).1
  have e := h i hi
  match i, hi with
  | 0, _ => cases hq; exact vk_R.of (fm_sr0 hts) e
  | 1, _ => cases hq; exact vk_R.of (fm_sr1 hts) e
  | 2, _ => cases hq; exact vk_R.of (fm_sr2 hts) e
  | 3, _ => cases hq; exact vk_R.of (fm_sr3 hts) e
  | 4, _ => cases hq; exact vk_R.of (fm_sr4 hts) e
  | 5, _ => cases hq; exact vk_R.of (fm_sr5 hts) e
  | 6, _ => cases hq; exact vk_R.of (fm_sr6 hts) e
  | n + 7, hi => omega
theorem fm_clok : ∀ q ∈ vwCl, (∀ w ∈ u_ws q.1 q.2.1 q.2.2, w ∈ fm_TT) ∧ Cond.instantiable q.1 q.2.2 ∈ fm_TT := by
  exact (List.forall_mem_cons.mpr ⟨⟨inX0, fm_wd 233 (by decide +kernel) (by decide +kernel)⟩, (List.forall_mem_cons.mpr ⟨⟨inX1, fm_wd 280 (by decide +kernel) (by decide +kernel)⟩, (List.forall_mem_cons.mpr ⟨⟨inX2, fm_wd 297 (by decide +kernel) (by decide +kernel)⟩, (List.forall_mem_cons.mpr ⟨⟨inX3, fm_wd 211 (by decide +kernel) (by decide +kernel)⟩, (List.forall_mem_cons.mpr ⟨⟨inX4, fm_wd 170 (by decide +kernel) (by decide +kernel)⟩, (List.forall_mem_cons.mpr ⟨⟨inX5, fm_wd 153 (by decide +kernel) (by decide +kernel)⟩, (List.forall_mem_cons.mpr ⟨⟨inX6, fm_wd 185 (by decide +kernel) (by decide +kernel)⟩, (List.forall_mem_cons.mpr ⟨⟨inX7, fm_wd 114 (by decide +kernel) (by decide +kernel)⟩, (List.forall_mem_cons.mpr ⟨⟨inX8, fm_wd 195 (by decide +kernel) (by decide +kernel)⟩, (List.forall_mem_cons.mpr ⟨⟨inX9, fm_wd 106 (by decide +kernel) (by decide +kernel)⟩, (List.forall_mem_cons.mpr ⟨⟨inX10, fm_wd 1103 (by decide +kernel) (by decide +kernel)⟩, List.forall_mem_nil _⟩)⟩)⟩)⟩)⟩)⟩)⟩)⟩)⟩)⟩)⟩)
theorem fm_cls (hts : ∀ w ∈ fm_TT, w.before args s = true) : ∃ D : va_G, ∀ (c : Nat) (q : vw_C), vwCl[c]? = some q → u_Kn s q.1 q.2.1 q.2.2 (D.1 c) (D.2 c) := by
  have h0 : ∀ c : Nat, ∃ d : ClassId × (Nat → Nat), ∀ q : vw_C, vwCl[c]? = some q → u_Kn s q.1 q.2.1 q.2.2 d.1 d.2 := fun c => by
    cases hc : vwCl[c]? with
    | none => exact ⟨(0, fun _ => 0), fun q hq => by cases hq⟩
    | some q =>
      obtain ⟨h1, h2⟩ := fm_clok q (List.mem_of_getElem? hc)
      obtain ⟨cC, iS, hk⟩ := u_known hts h1 (hts _ h2)
      exact ⟨(cC, iS), fun q' hq' => by cases hq'; exact hk⟩
  obtain ⟨d, hd⟩ := Classical.axiomOfChoice h0
  exact ⟨(fun c => (d c).1, fun c => (d c).2), fun c q hq => hd c q hq⟩
theorem fm_arr1 {ty : FieldType} (h : (Cond.arrayClass ty).before args s = true) : ∃ c : ClassId, ArrOfT s c ty ∧ s.vm.findClass ("[" ++ ty.toString) = some c := by
  obtain ⟨c, k, comp, h1, h2, h3⟩ := Cond.arrayClass_spec h
  exact ⟨c, fun N z => ⟨(fun k h => by cases h), k, h2, comp, h3⟩, h1⟩
theorem fm_arr4 (h : (Cond.arrayOver (.array .int)).before args s = true) : ∃ c : ClassId, ArrOfT s c (.array .int) ∧ s.vm.findClass ("[" ++ (FieldType.array .int).toString) = some c := by
  obtain ⟨comp, c, k, h1, h2, h3, h4⟩ := Cond.arrayOver_specA h
  exact ⟨c, fun N z => ⟨(fun k h => by cases h), k, h2, comp, h3⟩, h4⟩
theorem fm_arr5 {C : String} (h : (Cond.arrayOver (.object C)).before args s = true) : ∃ c : ClassId, ArrOfT s c (.object C) ∧ va_RA s c (.object C) := by
  obtain ⟨comp, c, k, h1, h2, h3, h4, h5⟩ := Cond.arrayOver_spec h
  exact ⟨c, fun N z => ⟨(fun k h => by cases h), k, h3, comp, h4⟩, k, comp, h3, h4, h1, h5⟩
set_option maxHeartbeats 1000000 in
/-- all that is given at the start -/
theorem fm_start (hts : ∀ w ∈ lw_tbl, w.before args s = true) (hg : (Jvm.Cond.and given_1 narrow_1).before args s = true) : ∃ G : fm_G, fm_gv G (fm_A0 s) s s.heap ∧ fm_kg G s := by
  have hs : ∀ w ∈ fm_flat, w.before args s = true := flat_of_before _ hg
  have hT : ∀ w ∈ fm_TT, w.before args s = true := fun w h => hts w (List.mem_filter.mp h).1
  obtain ⟨D, hD⟩ := fm_cls hT
  obtain ⟨c0, a0, b0⟩ := fm_arr1 (ty := .int) (hts _ (List.mem_of_getElem? (i := 150) (by decide +kernel)))
  obtain ⟨c1, a1, b1⟩ := fm_arr1 (ty := .byte) (hts _ (List.mem_of_getElem? (i := 923) (by decide +kernel)))
  obtain ⟨c2, a2, b2⟩ := fm_arr1 (ty := .boolean) (hts _ (List.mem_of_getElem? (i := 168) (by decide +kernel)))
  obtain ⟨c3, a3, b3⟩ := fm_arr1 (ty := .long) (hts _ (List.mem_of_getElem? (i := 209) (by decide +kernel)))
  have hAOA : (Cond.arrayOver (.array .int)).before args s = true := (hts _ (List.mem_of_getElem? (i := 120) (by decide +kernel)))
  have hAO : (Cond.arrayOver (.object "MicRow$Scene")).before args s = true := (hts _ (List.mem_of_getElem? (i := 151) (by decide +kernel)))
  obtain ⟨c4, a4, b4⟩ := fm_arr4 hAOA
  obtain ⟨c5, a5, b5⟩ := fm_arr5 hAO
  obtain ⟨adK, adV, hS, hE⟩ := fm_tx hs
  let G : fm_G := (D, (fun _ => 0), (fun t => match t with | 0 => c0 | 1 => c1 | 2 => c2 | 3 => c3 | 4 => c4 | _ => c5), adK, adV)
  have hK : va_K G.1 vwCl (fm_ty G) s := ⟨hD, fun k q hq => by
    have hk : k < 6 := (List.getElem?_eq_some_iff.mp hq).1
    match k, hk with
    | 0, _ => cases hq; exact ⟨a0, b0⟩
    | 1, _ => cases hq; exact ⟨a1, b1⟩
    | 2, _ => cases hq; exact ⟨a2, b2⟩
    | 3, _ => cases hq; exact ⟨a3, b3⟩
    | 4, _ => cases hq; exact ⟨a4, b4⟩
    | 5, _ => cases hq; exact ⟨a5, b5⟩
    | n + 6, hk => omega⟩
  have hN : fm_nest s := fun w hw => by
    have h1 := hts w (List.mem_filter.mp hw).1
    have h2 := (List.mem_filter.mp hw).2
    cases w <;> first | (cases h2; done) | exact va_Nw.of rfl h1
  refine ⟨G, ⟨hK, hN, fm_zall8 hts hs, hS, fm_txR hts hE, va_Zof (hts _ (List.mem_of_getElem? (i := 870) (by decide +kernel))) (hts _ (List.mem_of_getElem? (i := 100) (by decide +kernel))) (va_eqt (hs (.eq (.static "java/lang/String" "COMPACT_STRINGS" "Z") (.int 1)) (by decide +kernel))) fm_A0n, va_Zqof (hts _ (List.mem_of_getElem? (i := 886) (by decide +kernel))) (hts _ (List.mem_of_getElem? (i := 102) (by decide +kernel))) (hs (.isRef (.static "jdk/internal/util/Preconditions" "SIOOBE_FORMATTER" "Ljava/util/function/BiFunction;")) (by decide +kernel)) fm_A0n, vx_Zqof (hts _ (List.mem_of_getElem? (i := 1003) (by decide +kernel))) (hts _ (List.mem_of_getElem? (i := 94) (by decide +kernel))) (hs (.isRef (.static Bundle.tN "UNASSIGNED_STACK" Bundle.steD)) (by decide +kernel)) fm_A0n, vx_Zqof (hts _ (List.mem_of_getElem? (i := 1005) (by decide +kernel))) (hts _ (List.mem_of_getElem? (i := 94) (by decide +kernel))) (hs (.isRef (.static Bundle.tN "SUPPRESSED_SENTINEL" Bundle.listD)) (by decide +kernel)) fm_A0n⟩, hK, hN, va_AO.of hAO, va_AOA.of hAOA⟩
end FMS
