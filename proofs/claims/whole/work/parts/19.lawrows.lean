/-! ===== the law's world and its calls ===== -/
def fm_AP (ad1 ad2 : Nat → Nat) (qo z : Nat) : Prop := (∀ i j, i < shC.length → j < shM.length → ad1 i ≠ ad2 j) ∧ (∀ i, i < shC.length → ad1 i ≠ qo) ∧ (∀ j, j < shM.length → ad2 j ≠ qo) ∧ (∀ i, i < shC.length → z ≤ ad1 i) ∧ (∀ j, j < shM.length → z ≤ ad2 j) ∧ z ≤ qo
def fm_LC (G : fm_G) (ad1 ad2 : Nat → Nat) (qo : Nat) (p : Program) (s : State) (m : MethodId) (meth : Method) (c : Code) (b L : Nat) (xs : Nat → Int32) : Prop :=
  (p.tables.exec = Jvm.exec ∧ c.code = code ∧ c.maxLocals = 8 ∧ s.vm.findClass "MicRowLaw" = some m.cls ∧ (∀ w ∈ fm_TT, w.before #[Value.ref b] s = true)) ∧ meth.sig.returnType = ret ∧ meth.locks = false ∧ va_X b L xs s s.heap ∧ b < s.heap.size ∧ fm_gv G (fun q => s.heap.size ≤ q) s s.heap ∧ fm_AP ad1 ad2 qo s.heap.size
def fm_LW (G : fm_G) (ad1 ad2 : Nat → Nat) (qo : Nat) (M1 M2 : fm_M) (f : Nat → Int64) (s : State) (H : Heap) (locs : List Loc) : Prop :=
  va_P G.1 vwCl (fm_en shC (fm_ga G ad1) M1) H ∧ va_P G.1 vwCl (fm_en shM (fm_ga G ad2) M2) H ∧ fm_out G qo f H ∧ va_S (fun q => s.heap.size ≤ q) s.heap H locs ∧ va_D (fun _ => True) (fm_en shC (fm_ga G ad1) M1) ∧ va_D (fun _ => True) (fm_en shM (fm_ga G ad2) M2)
theorem fm_en_kept {SH : List fm_Sh} {G : fm_G} {M : fm_M} {H H1 : Heap} {B : Nat → Prop} (h : va_P G.1 vwCl (fm_en SH G M) H) (hB : ∀ k, k < SH.length → G.2.1 k < H.size → ¬ B (G.2.1 k)) (hk : ∀ q : Nat, q < H.size → ¬ B q → H1[q]? = H[q]?) : va_P G.1 vwCl (fm_en SH G M) H1 := by
  refine h.kept (fun k q hq => ?_)
  obtain ⟨l1, e1⟩ := fm_en_fst hq
  have l2 := (h k q hq).lt
  rw [e1] at l2 ⊢
  exact hk _ l2 (hB k l1 l2)
theorem fm_hblind {G : fm_G} {M : fm_M} {qo : Nat} {f : Nat → Int64} {sz : Nat} {av : List Value} : FrameBlind (va_Pc av (fm_hpre G M qo f sz)) := fun a U g mk q => ⟨q.1, q.2.1, q.2.2.1, q.2.2.2.1, q.2.2.2.2.1.same rfl, q.2.2.2.2.2.1, q.2.2.2.2.2.2⟩
section FML
variable {p : Program} {l : Launch} {e : Env} {R : Room} {s : State} {m : MethodId} {below : List Frame} {meth : Method} {c : Code} {H : Heap} {locs : List Loc} {cells slots : Nat} {Q : State → Prop}
variable {pc qo b L : Nat} {xs : Nat → Int32} {ls : Array Slot} {rest : List Value} {G : fm_G} {M1 M2 : fm_M} {f : Nat → Int64} {ad1 ad2 : Nat → Nat}
theorem fm_lg (C : fm_LC G ad1 ad2 qo p s m meth c b L xs) (E : fm_LW G ad1 ad2 qo M1 M2 f s H locs) {U : State} (hU : U.heap = H) (hW : s.WarmedH U.vm) {B : Nat → Prop} (hB : ∀ q, B q → s.heap.size ≤ q) : fm_gv G B U U.heap := by
  rw [hU]
  exact C.2.2.2.2.2.1.go hW E.2.2.2.1.2.1 hB
theorem fm_lS (E : fm_LW G ad1 ad2 qo M1 M2 f s H locs) {H1 : Heap} {Lc : List Loc} {B : Nat → Prop} (hB : ∀ q, B q → s.heap.size ≤ q) (hz : H.size ≤ H1.size) (hk : ∀ q : Nat, q < H.size → ¬ B q → H1[q]? = H[q]?) (hL : ∀ q ∈ Lc, B q.base) : va_S (fun q => s.heap.size ≤ q) s.heap H1 (locs ++ Lc) := by
  refine ⟨Nat.le_trans E.2.2.2.1.1 hz, fun q h1 h2 => ?_, fun q hq => ?_⟩
  · rw [hk q (Nat.lt_of_lt_of_le h1 E.2.2.2.1.1) (fun w => h2 (hB q w))]
    exact E.2.2.2.1.2.1 q h1 h2
  · rcases List.mem_append.mp hq with h | h
    · exact E.2.2.2.1.2.2 q h
    · exact hB _ (hL q h)
/-- a call of the class -/
theorem fm_lcallC (C : fm_LC G ad1 ad2 qo p s m meth c b L xs) (E : fm_LW G ad1 ad2 qo M1 M2 f s H locs) {index n maxL : Nat} {y : MethodName} {bytes : ByteArray} {rt : Option FieldType} {rm : Room} {o : Option Value} {M' : fm_M} {st0 : List Value} (As rest : List Value) (V : fm_V "MicRowLaw" index y n) (hlk : Cond.methodLink "MicRowLaw" index y ∈ fm_TT) (K : Cond.code y bytes maxL rt ∈ fm_TT)
    (hM : fm_Met l y bytes maxL rt rm shC (fm_ga G ad1) (.ref (ad1 0) :: As) M1 o M') (hq : y.cls = "MicRow") (hn : As.length = n) (hsz : ls.size = 8) (hst : (rest.map fun v => v.category).sum ≤ 8) (hR : (rm.cells = 0 ∧ rm.slots = 0) ∧ rm.frames + 1 ≤ R.frames ∧ 8 + (maxL + 11) + rm.locals ≤ R.locals) (hcs : cells ≤ R.cells ∧ slots ≤ R.slots) (hdg : decode code pc = .ok (.invokevirtual index, 3)) (stk : st0 = As.reverse ++ .ref (ad1 0) :: rest)
    (kk : ∀ (H1 : Heap) (locs1 : List Loc), fm_LW G ad1 ad2 qo M' M2 f s H1 locs1 → W p l e R s m #[Value.ref b] below meth c H1 locs1 cells slots Q (F0 m (pc + 3) ls (o.toList ++ rest))) : W p l e R s m #[Value.ref b] below meth c H locs cells slots Q (F0 m pc ls st0) := by
  obtain ⟨-, v2, v3, v4, v5⟩ := V
  have hts := C.1.2.2.2.2
  have hA := C.2.2.2.2.2.2
  have hrecv := va_recv C.2.2.2.2.2.1.1 E.1 (ci := 9) (q := (RX9, TX9, 12)) rfl (fm_en_at (G := fm_ga G ad1) hC_0)
  rw [show (RX9, TX9, 12).1 = y.cls from hq.symm] at hrecv
  have hB : ∀ q, fm_A shC (fm_ga G ad1) H.size q → s.heap.size ≤ q := by
    rintro q (⟨k, hk, rfl⟩ | h)
    · exact hA.2.2.2.1 k hk
    · exact Nat.le_trans E.2.2.2.1.1 h
  have hpre : ∀ U : State, U.heap = H → s.WarmedH U.vm → va_Pc (.ref (ad1 0) :: As) (fm_pre shC (fm_ga G ad1) M1 H.size) (Value.ref (ad1 0) :: As).toArray U := fun U hU hW => ⟨rfl, by rw [hU], by rw [hU]; exact E.1, E.2.2.2.2.1, fm_lg C E hU hW hB⟩
  intro T hT X
  obtain ⟨v, st₀, t, T', Lc, h0, X', hL, e1, e2, ⟨⟨hv, hp⟩, hz, hk⟩, st⟩ := va_runV (Ts := fm_TT) (own := "MicRowLaw") (C := y.cls) (As := As) (rest := rest) (g := F0 m pc ls st0) (below := below) C.1 (hM H.size) ⟨callB_of n hts (fm_goodC K) rfl hR.1.1 hR.1.2 (hts _ v4) (hts _ hlk) v5 hR.2, hts _ v2, hts _ v3⟩ ⟨fm_blind, hrecv, hpre⟩ rfl hn hsz stk (lv_room (pc := pc) hst) hdg hcs T hT X
  cases hv
  rw [h0] at hz hk
  have hk' : ∀ q : Nat, q < H.size → ¬ fm_A shC (fm_ga G ad1) H.size q → T'.heap[q]? = H[q]? := fun q h1 h2 => by rw [e1]; exact hk q h1 h2
  obtain ⟨t2, a1, b1⟩ := kk T'.heap (locs ++ Lc) ⟨by rw [e1]; exact hp, fm_en_kept (G := fm_ga G ad2) E.2.1 (fun k hk lt => by
      rintro (⟨j, hj, w⟩ | w)
      · exact hA.1 j k hj hk w.symm
      · exact absurd lt (by omega)) hk', (hk' qo (Array.getElem?_eq_some_iff.mp E.2.2.1).1 (by
      rintro (⟨j, hj, w⟩ | w)
      · exact hA.2.1 j hj w.symm
      · exact absurd (Array.getElem?_eq_some_iff.mp E.2.2.1).1 (by omega))).trans E.2.2.1, fm_lS E hB (by rw [e1]; exact hz) hk' hL, fm_D_any E.2.2.2.2.1 (fun _ _ => trivial), E.2.2.2.2.2⟩ T' rfl X'
  exact ⟨t2, st t2 a1, b1⟩
/-- a call of the model -/
theorem fm_lcallM (C : fm_LC G ad1 ad2 qo p s m meth c b L xs) (E : fm_LW G ad1 ad2 qo M1 M2 f s H locs) {index n maxL : Nat} {y : MethodName} {bytes : ByteArray} {rt : Option FieldType} {rm : Room} {o : Option Value} {M' : fm_M} {st0 : List Value} (As rest : List Value) (V : fm_V "MicRowLaw" index y n) (hlk : Cond.methodLink "MicRowLaw" index y ∈ fm_TT) (K : Cond.code y bytes maxL rt ∈ fm_TT)
    (hM : fm_Met l y bytes maxL rt rm shM (fm_ga G ad2) (.ref (ad2 0) :: As) M2 o M') (hq : y.cls = "MicRowModel") (hn : As.length = n) (hsz : ls.size = 8) (hst : (rest.map fun v => v.category).sum ≤ 8) (hR : (rm.cells = 0 ∧ rm.slots = 0) ∧ rm.frames + 1 ≤ R.frames ∧ 8 + (maxL + 11) + rm.locals ≤ R.locals) (hcs : cells ≤ R.cells ∧ slots ≤ R.slots) (hdg : decode code pc = .ok (.invokevirtual index, 3)) (stk : st0 = As.reverse ++ .ref (ad2 0) :: rest)
    (kk : ∀ (H1 : Heap) (locs1 : List Loc), fm_LW G ad1 ad2 qo M1 M' f s H1 locs1 → W p l e R s m #[Value.ref b] below meth c H1 locs1 cells slots Q (F0 m (pc + 3) ls (o.toList ++ rest))) : W p l e R s m #[Value.ref b] below meth c H locs cells slots Q (F0 m pc ls st0) := by
  obtain ⟨-, v2, v3, v4, v5⟩ := V
  have hts := C.1.2.2.2.2
  have hA := C.2.2.2.2.2.2
  have hrecv := va_recv C.2.2.2.2.2.1.1 E.2.1 (ci := 10) (q := (RX10, TX10, 31)) rfl (fm_en_at (G := fm_ga G ad2) hM_0)
  rw [show (RX10, TX10, 31).1 = y.cls from hq.symm] at hrecv
  have hB : ∀ q, fm_A shM (fm_ga G ad2) H.size q → s.heap.size ≤ q := by
    rintro q (⟨k, hk, rfl⟩ | h)
    · exact hA.2.2.2.2.1 k hk
    · exact Nat.le_trans E.2.2.2.1.1 h
  have hpre : ∀ U : State, U.heap = H → s.WarmedH U.vm → va_Pc (.ref (ad2 0) :: As) (fm_pre shM (fm_ga G ad2) M2 H.size) (Value.ref (ad2 0) :: As).toArray U := fun U hU hW => ⟨rfl, by rw [hU], by rw [hU]; exact E.2.1, E.2.2.2.2.2, fm_lg C E hU hW hB⟩
  intro T hT X
  obtain ⟨v, st₀, t, T', Lc, h0, X', hL, e1, e2, ⟨⟨hv, hp⟩, hz, hk⟩, st⟩ := va_runV (Ts := fm_TT) (own := "MicRowLaw") (C := y.cls) (As := As) (rest := rest) (g := F0 m pc ls st0) (below := below) C.1 (hM H.size) ⟨callB_of n hts (fm_goodC K) rfl hR.1.1 hR.1.2 (hts _ v4) (hts _ hlk) v5 hR.2, hts _ v2, hts _ v3⟩ ⟨fm_blind, hrecv, hpre⟩ rfl hn hsz stk (lv_room (pc := pc) hst) hdg hcs T hT X
  cases hv
  rw [h0] at hz hk
  have hk' : ∀ q : Nat, q < H.size → ¬ fm_A shM (fm_ga G ad2) H.size q → T'.heap[q]? = H[q]? := fun q h1 h2 => by rw [e1]; exact hk q h1 h2
  obtain ⟨t2, a1, b1⟩ := kk T'.heap (locs ++ Lc) ⟨fm_en_kept (G := fm_ga G ad1) E.1 (fun k hk lt => by
      rintro (⟨j, hj, w⟩ | w)
      · exact hA.1 k j hk hj w
      · exact absurd lt (by omega)) hk', by rw [e1]; exact hp, (hk' qo (Array.getElem?_eq_some_iff.mp E.2.2.1).1 (by
      rintro (⟨j, hj, w⟩ | w)
      · exact hA.2.2.1 j hj w.symm
      · exact absurd (Array.getElem?_eq_some_iff.mp E.2.2.1).1 (by omega))).trans E.2.2.1, fm_lS E hB (by rw [e1]; exact hz) hk' hL, E.2.2.2.2.1, fm_D_any E.2.2.2.2.2 (fun _ _ => trivial)⟩ T' rfl X'
  exact ⟨t2, st t2 a1, b1⟩
/-- a call of a helper -/
theorem fm_lcallH (C : fm_LC G ad1 ad2 qo p s m meth c b L xs) (E : fm_LW G ad1 ad2 qo M1 M2 f s H locs) {index n maxL : Nat} {y : MethodName} {bytes : ByteArray} {hh : List (Nat × Nat × Nat × Nat)} {rm : Room} {r : Int32} {M' : fm_M} {f' : Nat → Int64} {st0 : List Value} (As rest : List Value) (V : fm_S "MicRowLaw" index y n) (hlk : Cond.methodLink "MicRowLaw" index y ∈ fm_TT) (K : Cond.codeWith y bytes maxL (some .int) hh ∈ fm_TT)
    (hM : fm_hMet l y bytes maxL hh rm (fm_ga G ad1) As M1 qo f r M' f') (hn : As.length = n) (hsz : ls.size = 8) (hst : (rest.map fun v => v.category).sum ≤ 8) (hR : (rm.cells = 1 ∧ rm.slots = 6) ∧ rm.frames + 1 ≤ R.frames ∧ 8 + (maxL + 11) + rm.locals ≤ R.locals) (hcs : cells + 1 ≤ R.cells ∧ slots + 6 ≤ R.slots) (hdg : decode code pc = .ok (.invokestatic index, 3)) (stk : st0 = As.reverse ++ rest)
    (kk : ∀ (H1 : Heap) (locs1 : List Loc), fm_LW G ad1 ad2 qo M' M2 f' s H1 locs1 → W p l e R s m #[Value.ref b] below meth c H1 locs1 (cells + 1) (slots + 6) Q (F0 m (pc + 3) ls (.int r :: rest))) : W p l e R s m #[Value.ref b] below meth c H locs cells slots Q (F0 m pc ls st0) := by
  obtain ⟨-, v2, v4, v5⟩ := V
  have hts := C.1.2.2.2.2
  have hA := C.2.2.2.2.2.2
  have hB : ∀ q, fm_hA (fm_ga G ad1) qo H.size q → s.heap.size ≤ q := by
    rintro q ((⟨k, hk, rfl⟩ | h) | rfl)
    · exact hA.2.2.2.1 k hk
    · exact Nat.le_trans E.2.2.2.1.1 h
    · exact hA.2.2.2.2.2
  have hpre : ∀ U : State, U.heap = H → s.WarmedH U.vm → va_Pc As (fm_hpre (fm_ga G ad1) M1 qo f H.size) As.toArray U := fun U hU hW => ⟨rfl, by rw [hU], by rw [hU]; exact E.1, E.2.2.2.2.1, fm_lg C E hU hW hB, by rw [hU]; exact E.2.2.1, hA.2.1⟩
  have hG : GoodIn fm_TT (Cond.codeWith y bytes maxL (some .int) hh :: fm_TT) := fun w h => (List.mem_cons.mp h).elim (fun e => e ▸ fm_good _ K) (fun h => fm_good _ h)
  have cw : vx_CSW R s #[Value.ref b] "MicRowLaw" index y bytes maxL (some .int) hh (Cond.codeWith y bytes maxL (some .int) hh :: fm_TT) rm 1 6 n := ⟨⟨hR.1.1, hR.1.2, hR.2.1, hR.2.2, pay_in hts hG, List.mem_cons_self⟩, hts _ K, hts _ v4, ⟨v5.1, v5.2.1⟩, fun sig h => by
    have h2 := v5.2.2
    rw [h] at h2
    exact (Option.some.inj h2).symm, hts _ hlk, hts _ v2⟩
  intro T hT X
  obtain ⟨v, st₀, t, T', Lc, h0, X', hL, e1, e2, ⟨⟨hv, hp, ho⟩, hz, hk⟩, st⟩ := vx_runSW (Ts := fm_TT) (own := "MicRowLaw") (As := As) (rest := rest) (g := F0 m pc ls st0) (below := below) C.1 (hM H.size) cw ⟨fm_hblind, hpre⟩ rfl hn hsz stk (lv_room (pc := pc) hst) hdg hcs T hT X
  cases hv
  rw [h0] at hz hk
  have hk' : ∀ q : Nat, q < H.size → ¬ fm_hA (fm_ga G ad1) qo H.size q → T'.heap[q]? = H[q]? := fun q h1 h2 => by rw [e1]; exact hk q h1 h2
  obtain ⟨t2, a1, b1⟩ := kk T'.heap (locs ++ Lc) ⟨by rw [e1]; exact hp, fm_en_kept (G := fm_ga G ad2) E.2.1 (fun k hk lt => by
      rintro ((⟨j, hj, w⟩ | w) | w)
      · exact hA.1 j k hj hk w.symm
      · exact absurd lt (by omega)
      · exact hA.2.2.1 k hk w) hk', by rw [e1]; exact ho, fm_lS E hB (by rw [e1]; exact hz) hk' hL, fm_D_any E.2.2.2.2.1 (fun _ _ => trivial), E.2.2.2.2.2⟩ T' rfl X'
  exact ⟨t2, st t2 a1, b1⟩
/-- the script is read -/
theorem fm_lsld (C : fm_LC G ad1 ad2 qo p s m meth c b L xs) (E : fm_LW G ad1 ad2 qo M1 M2 f s H locs) {i : Int32} (hin : fm_in i L = true) (hdg : decode code pc = .ok (.iaload, 1))
    (kk : W p l e R s m #[Value.ref b] below meth c H locs cells slots Q (F0 m (pc + 1) ls (.int (xs i.toNatClampNeg) :: rest))) : W p l e R s m #[Value.ref b] below meth c H locs cells slots Q (F0 m pc ls (.int i :: .ref b :: rest)) :=
  va_sld C.1.1 C.1.2.1 C.2.2.2.1 C.2.2.2.2.1 (Nat.not_le.mpr C.2.2.2.2.1) E.2.2.2.1 (fm_in_vp hin) hdg kk
theorem fm_lslen (C : fm_LC G ad1 ad2 qo p s m meth c b L xs) (E : fm_LW G ad1 ad2 qo M1 M2 f s H locs) (hdg : decode code pc = .ok (.arraylength, 1))
    (kk : W p l e R s m #[Value.ref b] below meth c H locs cells slots Q (F0 m (pc + 1) ls (.int (Int32.ofNat L) :: rest))) : W p l e R s m #[Value.ref b] below meth c H locs cells slots Q (F0 m pc ls (.ref b :: rest)) :=
  va_slen C.1.1 C.1.2.1 C.2.2.2.1 C.2.2.2.2.1 (Nat.not_le.mpr C.2.2.2.2.1) E.2.2.2.1 hdg kk
/-- out[0] is read -/
theorem fm_lout (C : fm_LC G ad1 ad2 qo p s m meth c b L xs) (E : fm_LW G ad1 ad2 qo M1 M2 f s H locs) (hdg : decode code pc = .ok (.laload, 1))
    (kk : W p l e R s m #[Value.ref b] below meth c H locs cells slots Q (F0 m (pc + 1) ls (.long (f 0) :: rest))) : W p l e R s m #[Value.ref b] below meth c H locs cells slots Q (F0 m pc ls (.int 0 :: .ref qo :: rest)) := by
  have hP1 : va_P G.1 vwCl [fm_oc G qo f] H := fun k q hk => by
    have h0 : k < 1 := (List.getElem?_eq_some_iff.mp hk).1
    obtain rfl : k = 0 := by omega
    obtain rfl := (Option.some.inj hk).symm
    exact E.2.2.1
  exact va_lald C.1.1 C.1.2.1 C.2.2.2.2.2.1.1 hP1 0 3 (f := f) (n := 1) (a := qo) rfl rfl (fm_in_vp (by decide)) hdg kk
end FML
