/-! ===== methods that throw NoSuchElementException ===== -/
def fm_NSE : String := "java/util/NoSuchElementException"
def fm_X (SH : List fm_Sh) (G : fm_G) (M : fm_M) (A : Nat → Prop) : String → State → State → Prop := fun E st t => E = fm_NSE ∧ va_P G.1 vwCl (fm_en SH G M) t.heap ∧ va_F A st t
abbrev fm_nev : Array Value → State → Outcome → State → Prop := fun _ _ _ _ => False
/-- from the memory M the method throws, at the memory M' -/
def fm_xMet (l : Launch) (y : MethodName) (cc : ByteArray) (maxL : Nat) (ret : Option FieldType) (rm : Room) (SH : List fm_Sh) (G : fm_G) (av : List Value) (M M' : fm_M) : Prop :=
  ∀ sz : Nat, vx_Met l y (.code y cc maxL ret :: fm_TT) rm (va_Pc av (fm_pre SH G M sz)) fm_nev (fm_X SH G M' (fm_A SH G sz)) 1 6 (fm_A SH G sz)
abbrev fm_ZX (below : List Frame) (SH : List fm_Sh) (G : fm_G) (args : Array Value) (s : State) (M : fm_M) : State → Prop := vx_MQ below fm_nev (fm_X SH G M (fm_A SH G s.heap.size)) args s 1 6 (fm_A SH G s.heap.size)
theorem fm_xenter {l : Launch} {y : MethodName} {cc : ByteArray} {maxL : Nat} {ret : Option FieldType} {rm : Room} {SH : List fm_Sh} {G : fm_G} {av : List Value} {M : fm_M} {M' : fm_M} (hy : plainName y.cls = true) (hlen : (lg_sl av).length ≤ maxL)
    (body : ∀ (p : Program) (e : Env) (s : State) (m : MethodId) (args : Array Value) (below : List Frame) (meth : Method) (c : Code) (ls : Array Slot), (∀ x ∈ c.exceptionTable.toList, False) → fm_Cx SH G p s m args meth c cc maxL y.cls ret → fm_Wd SH G M s s.heap [] → lv_has ls maxL (lv_args 0 av) →
      W p l e rm s m args below meth c s.heap [] 0 0 (fm_ZX below SH G args s M') (F0 m 0 ls [])) : fm_xMet l y cc maxL ret rm SH G av M M' := by
  intro sz
  refine vx_ofW (cc := cc) (maxL := maxL) (ret := ret) hy rfl ?_
  intro p e s m args below meth c s₁ B hml hout hv
  obtain ⟨rfl, hsz, hP, hD0, hg⟩ := hv
  subst hsz
  have hts := atoms_spec (ws := .code y cc maxL ret :: fm_TT) B.pre
  have hown : s.vm.findClass y.cls = some m.cls := findClass_of_methodNamed B.named
  have hl := lv_entry av (n := maxL) hlen
  rw [lg_entry_eq]
  exact body p e s m _ below meth c _ hout ⟨B.exec, B.bytes, hml, hown, fun w hw => hts w (List.mem_cons_of_mem _ hw), B.returns, B.notSynchronized, hg⟩ ⟨hP, fm_D_any hD0 (fun k hk => Or.inl ⟨k, hk, rfl⟩), va_S.rf⟩ hl
section FMX
variable {p : Program} {l : Launch} {e : Env} {R : Room} {s : State} {m : MethodId} {args : Array Value} {below : List Frame} {meth : Method} {c : Code} {H : Heap} {locs : List Loc}
variable {cc : ByteArray} {pc nL : Nat} {ls : Array Slot} {own : String} {ret : Option FieldType} {SH : List fm_Sh} {G : fm_G} {M : fm_M}
/-- a static call that throws: it goes on to the caller -/
theorem fm_xcallS (hout : ∀ x ∈ c.exceptionTable.toList, False) (C : fm_Cx SH G p s m args meth c cc nL own ret) (E : fm_Wd SH G M s H locs) {index n maxL : Nat} {y : MethodName} {bytes : ByteArray} {rt : Option FieldType} {rm : Room} {M' : fm_M} {st0 : List Value} (As rest : List Value) (hl : Cond.methodLink own index y ∈ fm_TT) (V : fm_S own index y n) (K : Cond.code y bytes maxL rt ∈ fm_TT)
    (hM : fm_xMet l y bytes maxL rt rm SH G As M M') (hn : As.length = n) (hsz : ls.size = nL) (hst : (rest.map fun v => v.category).sum ≤ 8) (hR : (rm.cells = 1 ∧ rm.slots = 6) ∧ rm.frames + 1 ≤ R.frames ∧ 8 + (maxL + 11) + rm.locals ≤ R.locals) (hcs : 1 ≤ R.cells ∧ 6 ≤ R.slots) (hdg : decode cc pc = .ok (.invokestatic index, 3)) (stk : st0 = As.reverse ++ rest) :
    W p l e R s m args below meth c H locs 0 0 (fm_ZX below SH G args s M') (F0 m pc ls st0) := by
  obtain ⟨-, v2, v4, v5⟩ := V
  have hts := C.2.2.2.2.1
  intro T hT X
  rcases vx_runS (Ts := fm_TT) (own := own) (As := As) (rest := rest) (g := F0 m pc ls st0) (below := below) ⟨C.1, C.2.1, C.2.2.1, C.2.2.2.1, hts⟩ (hM H.size) ⟨callB_of n hts (fm_goodC K) rfl hR.1.1 hR.1.2 (hts _ v4) (hts _ hl) v5 hR.2, hts _ v2⟩ ⟨fm_blind, fm_pc C E _⟩ rfl hn hsz stk (lv_room (pc := pc) hst) hdg (by omega) T hT X with ⟨v, st₀, t, T', L, h0, X', hL, e1, e2, hq, st⟩ | ⟨q, st₀, t, T', L, E9, ce, h0, X', hL, e1, e2, ⟨hE, hp, hz, hk⟩, hce, hcv, hcl, st⟩
  · exact hq.elim
  · rw [h0] at hz hk
    have hS : va_S (fm_A SH G s.heap.size) s.heap T'.heap (locs ++ L) := by
      refine ⟨Nat.le_trans E.2.2.1 (by rw [e1]; exact hz), fun q h1 h2 => ?_, fun q hq => ?_⟩
      · rw [e1, hk q (Nat.lt_of_lt_of_le h1 E.2.2.1) (fun z => h2 (fm_A_up E z))]
        exact E.2.2.2.1 q h1 h2
      · rcases List.mem_append.mp hq with h | h
        · exact E.2.2.2.2 q h
        · exact fm_A_up E (hL q h)
    obtain ⟨t2, a1, b1⟩ := vx_out (p := p) (l := l) (e := e) (R := R) (s := s) (m := m) (args := args) (below := below) (meth := meth) (c := c) (H := T'.heap) (locs := locs ++ L) (cells := 0 + 1) (slots := 0 + 6) (Qc := fm_nev) (XC := fm_X SH G M' (fm_A SH G s.heap.size)) (free := fm_A SH G s.heap.size) (mc := 1) (ms := 6) (pc := pc) (ls := ls) (rest := rest) (E := E9) (ce := ce) (q := q) (fun x hx => (hout x hx).elim) C.2.2.2.2.2.2.1 (by rw [e1]; exact hce) hcv hcl (fun t' ht' _ => ⟨hE, by rw [ht', e1]; exact hp, hS.F ht'⟩) hS.2.2 (Nat.le_refl _) (Nat.le_refl _) T' rfl X'
    exact ⟨t2, st.trans a1, b1⟩
end FMX
/-! the throw itself: the kit's chain of constructors asks for link 7 at every step; NoSuchElementException's own is 13: the first step by itself -/
def fm_b13 : ByteArray := ⟨#[0x2a, 0x2b, 0xb7, 0x00, 0x0d, 0xb1]⟩
theorem fm_b13_0 : decode fm_b13 0 = .ok (.aload_n 0, 1) := by decide +kernel
theorem fm_b13_1 : decode fm_b13 1 = .ok (.aload_n 1, 1) := by decide +kernel
theorem fm_b13_2 : decode fm_b13 2 = .ok (.invokespecial 13, 3) := by decide +kernel
theorem fm_b13_5 : decode fm_b13 5 = .ok (.return_, 1) := by decide +kernel
def fm_nR : String := "java/lang/RuntimeException"
def fm_na : List Cond := Bundle.throwableAtoms ++ (Bundle.throwableSAtoms ++ (Bundle.passSAtoms fm_NSE fm_nR 13 fm_b13 ++ (Bundle.chainSAtoms fm_nR ["java/lang/Exception"] ++ [.methodLink "MicRow" 205 (Bundle.initS fm_NSE), .instantiable fm_NSE 6, .castable fm_NSE fm_NSE, .selects fm_NSE Bundle.tFill0 Bundle.tFill0, .selects fm_NSE Bundle.tFill Bundle.tFill,
   .lays fm_NSE Bundle.tN "cause" "Ljava/lang/Throwable;", .lays fm_NSE Bundle.tN "stackTrace" Bundle.steD, .lays fm_NSE Bundle.tN "suppressedExceptions" Bundle.listD, .lays fm_NSE Bundle.tN "detailMessage" "Ljava/lang/String;",
   .isRef (.static Bundle.tN "UNASSIGNED_STACK" Bundle.steD), .isRef (.static Bundle.tN "SUPPRESSED_SENTINEL" Bundle.listD),
   .fieldLink Bundle.tN 198 Bundle.tN "backtrace" "Ljava/lang/Object;", .lays Bundle.tN Bundle.tN "backtrace" "Ljava/lang/Object;", .lays fm_NSE Bundle.tN "backtrace" "Ljava/lang/Object;"])))
theorem fm_xw1 : ∀ w ∈ (fm_na.filter vx_no).filter goodWord, w ∈ lw_tbl := by decide +kernel
theorem fm_xw3 : ∀ w ∈ (fm_na.filter vx_no).filter (fun w => !goodWord w), w ∈ lw_tbl ∧ fm_isN w = true := by decide +kernel
theorem fm_isN_on {w : Cond} (h : fm_isN w = true) : w.onTables = true := by cases w <;> first | rfl | cases h
theorem fm_xg : (Cond.classLink "MicRow" 201 fm_NSE :: Cond.initialized fm_NSE :: fm_na.filter vx_no).all (fun w => vx_ot w) = true := by decide +kernel
theorem fm_xat {SH : List fm_Sh} {G : fm_G} {p : Program} {s : State} {m : MethodId} {args : Array Value} {meth : Method} {c : Code} {cc : ByteArray} {nL : Nat} {own : String} {ret : Option FieldType} (C : fm_Cx SH G p s m args meth c cc nL own ret) : ∀ w ∈ fm_na.filter vx_no, w.before args s = true := by
  intro w hw
  by_cases hg : goodWord w = true
  · exact C.2.2.2.2.1 w (fm_tt (fm_xw1 w (List.mem_filter.mpr ⟨hw, hg⟩)) hg)
  · have h := fm_xw3 w (List.mem_filter.mpr ⟨hw, by simpa using hg⟩)
    exact va_Nw.use (fm_isN_on h.2) (C.2.2.2.2.2.2.2.2.1 w (List.mem_filter.mpr h))
set_option maxHeartbeats 4000000 in
theorem fm_ctor {p : Program} {l : Launch} {e : Env} {R : Room} {s : State} {m₀ : MethodId} {args : Array Value} {below : List Frame} {meth : Method} {c : Code} {W : State} {locs : List Loc} {cells slots : Nat}
    (X : Stand p l e R s m₀ args below meth c W locs cells slots) (hexec : p.tables.exec = Jvm.exec) (htr : e.platform.stackTraces = false)
    (hown : s.vm.findClass "MicRow" = some m₀.cls) (h : ∀ a ∈ fm_na, a.before args s = true)
    (hlocs : ∀ x ∈ locs, ∀ cell, s.heap[x.base]? = some cell → cell.vm.isStatics = false)
    {a : Addr} {cX : ClassId} {kX : Class} (hfoundX : s.vm.findClass fm_NSE = some cX) (hkX : s.vm.classes[cX]? = some kX) (hcell : W.heap[a]? = some (freshCell cX kX)) (hnew : s.heap.size ≤ a)
    {msg : Value} (hmsg : msg.isRef = true)
    {g : JFrame} (hg : g.method = m₀) (hsize : g.locals.size = c.maxLocals) (hlocked : g.locked = none) (hentered : g.entered = []) {rest : List Value} (hstack : g.stack = msg :: .ref a :: .ref a :: rest)
    (hd6 : decode c.code g.pc = .ok (.invokespecial 205, 3)) (hd9 : decode c.code (g.pc + 3) = .ok (.athrow, 1)) (hout : ∀ x ∈ c.exceptionTable.toList, covers x (g.pc + 3) = false)
    (hRframes : 5 < R.frames) (hRlocals : 2 * g.monitorRoom + ((Value.ref a :: rest).map fun v => v.category).sum + 81 ≤ R.locals) (hlocks : meth.locks = false) :
    ∃ U : State, Steps p.tables e below (W.setTop g) U ∧ U.status = .running ∧ Ended U below (.threw a) ∧ s.WarmedH U.vm ∧ s.sameButNew ({ U with vm := s.vm } : State) locs cells slots ∧
      ∃ ce : Cell, U.heap[a]? = some ce ∧ s.vm.findClass fm_NSE = some ce.cls ∧ ce.vm = .none := by
  have howns : e.platform.frameOwnsMonitors = true := by rw [X.admits.platform]
  have hfin : e.platform.finalization = false := by rw [X.admits.platform]
  have hpl : e.platform.magicAccessors = ({} : Platform).magicAccessors := by rw [X.admits.platform]
  have a' : ∀ x, x ∈ fm_na → x.holds args s none s [] = true := fun x hx => h x hx
  obtain ⟨T, Z0, L, -, Y⟩ := ThrowableC.of_atoms (args := args) howns hfin hpl (fun x hx => h x (by simp [fm_na, hx]))
  obtain ⟨Z, M, LZ, LM, hnZ⟩ := Init0T.ofS_atoms (args := args) hpl L Y (fun x hx => h x (by simp [fm_na, hx]))
  obtain ⟨P1, L1, hP1m, hP1s⟩ := PassC.ofS_atoms (args := args) (s := s) hpl (X := fm_NSE) (Y := fm_nR) (by decide) (by decide) fm_b13_0 fm_b13_1 fm_b13_2 fm_b13_5 (fun x hx => h x (by simp [fm_na, hx]))
  obtain ⟨P2, Ps, hlen, L2, hL, hP2m, hlink2, hlink⟩ := Bundle.chainS (args := args) hpl hnZ ["java/lang/Exception"] fm_nR (by decide) (by decide) (fun x hx => h x (by simp [fm_na, hx]))
  have hfound : s.vm.findClass fm_NSE = some P1.m.cls := findClass_of_methodNamed hP1m
  have hlink1 : P1.sup = P2.m := Option.some.inj (hP1s.symm.trans hP2m)
  cases Option.some.inj (hfoundX.symm.trans hfound)
  obtain ⟨c1, kX', hc1, hk, hord, -, -, hn6⟩ := Cond.instantiable_spec (a' (.instantiable fm_NSE 6) (by simp [fm_na]))
  cases Option.some.inj (hc1.symm.trans hfound)
  cases Option.some.inj (hkX.symm.trans hk)
  have hsel0 : selectMethod e.platform s.vm P1.m.cls T.fill0 = .method T.fill0 := by
    obtain ⟨c2, r2, m2, q1, q2, q3, q4, -⟩ := Cond.selects_spec (a' (.selects fm_NSE Bundle.tFill0 Bundle.tFill0) (by simp [fm_na]))
    cases Option.some.inj (q1.symm.trans hfound)
    cases Option.some.inj (q2.symm.trans (State.methodFound?_of_named Y.fill0 (by decide)))
    cases Option.some.inj (q3.symm.trans Y.fill0)
    rw [Launch.admits_selectMethod X.admits]; exact q4
  have hselF : selectMethod e.platform s.vm P1.m.cls T.fill = .method T.fill := by
    obtain ⟨c2, r2, m2, q1, q2, q3, q4, -⟩ := Cond.selects_spec (a' (.selects fm_NSE Bundle.tFill Bundle.tFill) (by simp [fm_na]))
    cases Option.some.inj (q1.symm.trans hfound)
    cases Option.some.inj (q2.symm.trans (State.methodFound?_of_named Y.fill (by decide)))
    cases Option.some.inj (q3.symm.trans Y.fill)
    rw [Launch.admits_selectMethod X.admits]; exact q4
  obtain ⟨cellS0, hcS0, hiss⟩ := Y.statics
  obtain ⟨u0, hu0⟩ := Cond.staticRefV Y.unassigned L.unassignedStatic L.statics hcS0 hiss (a' (.isRef (.static Bundle.tN "UNASSIGNED_STACK" Bundle.steD)) (by simp [fm_na]))
  obtain ⟨sen, hsen⟩ := Cond.staticRefV Y.sentinel L.sentinelStatic L.statics hcS0 hiss (a' (.isRef (.static Bundle.tN "SUPPRESSED_SENTINEL" Bundle.listD)) (by simp [fm_na]))
  obtain ⟨ci198, i198, fB, hk198, hg198, ha198, hsB, -, hnB, htB, hffB⟩ := Cond.ownField (t := .object "java/lang/Object") Y.found L.cls (by decide +kernel) (a' (.fieldLink Bundle.tN 198 Bundle.tN "backtrace" "Ljava/lang/Object;") (by simp [fm_na])) (a' (.lays Bundle.tN Bundle.tN "backtrace" "Ljava/lang/Object;") (by simp [fm_na])) e.platform hpl
  obtain ⟨cellS, hcS', heS, -, hkeep⟩ := X.same.2.2.2.2.2 T.aS cellS0 hcS0
  have hcellS : W.heap[T.aS]? = some cellS := hcS'
  have hout' : ∀ i, (⟨T.aS, i⟩ : Loc) ∉ locs := fun i hmem => by
    have := hlocs _ hmem cellS0 hcS0
    rw [hiss] at this; cases this
  have hknownS : cellS.vm ≠ .unknown := by
    rw [heS]; intro hu
    rw [show cellS0.vm = .unknown from hu] at hiss
    cases hiss
  have hneS : T.aS ≠ a := Nat.ne_of_lt (Nat.lt_of_lt_of_le (Array.getElem?_eq_some_iff.mp hcS0).1 hnew)
  obtain ⟨iM, hffM⟩ := Y.msg
  obtain ⟨tyC, dC, hdC, hdnC⟩ := Cond.laysAt hfound hk Y.cause (a' (.lays fm_NSE Bundle.tN "cause" "Ljava/lang/Throwable;") (by simp [fm_na]))
  obtain ⟨tyS, dS, hdS, hdnS⟩ := Cond.laysAt hfound hk Y.stack (a' (.lays fm_NSE Bundle.tN "stackTrace" Bundle.steD) (by simp [fm_na]))
  obtain ⟨tyP, dP, hdP, hdnP⟩ := Cond.laysAt hfound hk Y.supp (a' (.lays fm_NSE Bundle.tN "suppressedExceptions" Bundle.listD) (by simp [fm_na]))
  obtain ⟨tyM, dM, hdM, hdnM⟩ := Cond.laysAt hfound hk hffM (a' (.lays fm_NSE Bundle.tN "detailMessage" "Ljava/lang/String;") (by simp [fm_na]))
  obtain ⟨tyB, dB, hdB, hdnB⟩ := Cond.laysAt hfound hk hffB (a' (.lays fm_NSE Bundle.tN "backtrace" "Ljava/lang/Object;") (by simp [fm_na]))
  have bC := Cond.laysApart hdB hdC hdnB hdnC (by rw [hnB, Y.causeName]; decide)
  have bS := Cond.laysApart hdB hdS hdnB hdnS (by rw [hnB, Y.stackName]; decide)
  have bP := Cond.laysApart hdB hdP hdnB hdnP (by rw [hnB, Y.suppName]; decide)
  have hskip : SkipFacts T e.platform s (fun u => u) u0 ((preparedCellV T.toThrowableT (freshCell P1.m.cls kX) a u0 sen).withEntry W.cur) :=
    ⟨{ ci198 := ci198, i198 := i198, fBack := fB }, ⟨hk198, hg198, ha198, hsB⟩, by
      have := fresh_default (c := P1.m.cls) tyB
      rw [htB] at this
      simpa [preparedCellV, Cell.setSlot, Cell.withEntry, Array.getElem?_setIfInBounds, bC, bS, bP, bC.symm, bS.symm, bP.symm, defaultValue] using this, fun _ _ => rfl⟩
  obtain ⟨tm, methC, cdC, kC, vm₁, hnC, -, -, -, -, -, -, -, hW₁, st1⟩ := Steps.initColdS (tb := p.tables) (e := e) (below := below) (s := s) (U := W) X.here hexec X.warmed hpl hown (t := Bundle.initS fm_NSE) rfl rfl (by decide)
    (a' (.methodLink "MicRow" 205 (Bundle.initS fm_NSE)) (by simp [fm_na])) (h (.instanceMethod (Bundle.initS fm_NSE)) (by simp [fm_na, Bundle.passSAtoms])) (bytes := fm_b13) (maxL := 2) (h (.code (Bundle.initS fm_NSE) fm_b13 2 none) (by simp [fm_na, Bundle.passSAtoms]))
    (f := g) hg (a := a) (msg := msg) (rest := .ref a :: rest) hstack hd6
  cases Option.some.inj (hnC.symm.trans hP1m)
  have X₁ := X.noted hW₁
  obtain ⟨vm₂, X₂, st2⟩ := X₁.ctorMessageOffV hexec (g := { g with stack := .ref a :: rest }) hg hsize T L Z LZ M LM (P1 :: P2 :: Ps)
    (fun P hP => by
      rcases List.mem_cons.mp hP with rfl | hP
      · exact L1
      · rcases List.mem_cons.mp hP with rfl | hP
        · exact L2
        · exact hL P hP) ⟨hlink1, hlink2, hlink⟩ (u0 := u0) (sen := sen) (self := a) hmsg (cell := freshCell P1.m.cls kX) (cellS := cellS)
    hcell (fun _ => by simp) (by simp) rfl rfl hsel0 hselF hcellS hneS hknownS (by rw [hkeep _ (hout' _)]; exact hu0) (by rw [hkeep _ (hout' _)]; exact hsen)
    (Takes.of_laid hk hord tyC (by rw [Y.causeType]; rfl)) (Takes.of_laid hk hord tyS (by rw [Y.stackType]; exact fits_refV_array _ u0)) (Takes.of_laid hk hord tyP (by rw [Y.suppType]; exact fits_refV_object _ sen))
    (Takes.of_laid hk hord tyM (by rw [Y.msgType]; exact fits_refV_object _ ⟨msg, hmsg⟩)) Y.objLocals hskip htr [] hd6
    (by simp only [List.length_cons, hlen, List.length_nil]; omega) (by simp only [List.length_cons, hlen, List.length_nil]; exact hRlocals)
  obtain ⟨hwalk, hrun, hended, hWU, hsame⟩ := X₂.athrowLeaves hexec (g := { g with stack := .ref a :: rest, pc := g.pc + 3 }) hg hlocked hentered hout (a := a) (rest := rest) rfl hd9
  have hlt : a < ((W.setVm vm₁).setVm vm₂).heap.size := (Array.getElem?_eq_some_iff.mp hcell).1
  have hU := heapAt_setCell_self (s := (W.setVm vm₁).setVm vm₂) (plainBareV T.toThrowableT (freshCell P1.m.cls kX) a u0 sen msg) hlt
  refine ⟨_, st1 _ (fun acts => ?_), hrun, hended, hWU, hsame.weaken (fun y hy hlt' => ?_) (Nat.le_refl _) (Nat.le_refl _), _, hU, hfound, rfl⟩
  · rw [doInvoke_state]
    exact st2 _ hwalk
  · rcases List.mem_append.mp hy with h1 | h1
    · exact h1
    · exfalso
      have hb : y.base = a := by
        simp only [List.mem_cons, List.not_mem_nil, or_false] at h1
        rcases h1 with rfl | rfl | rfl | rfl | rfl <;> rfl
      rw [hb] at hlt'
      exact Nat.not_lt.mpr hnew hlt'
set_option maxHeartbeats 4000000 in
/-- 'throw new NoSuchElementException(text)' in MicRow, at pc -/
theorem fm_throw {p : Program} {l : Launch} {e : Env} {R : Room} {s : State} {m : MethodId} {args : Array Value} {below : List Frame} {meth : Method} {c : Code} {H : Heap} {locs : List Loc} {cells slots : Nat} {free : Addr → Prop} {ls : Array Slot} {rest : List Value}
    {Qc : Array Value → State → Outcome → State → Prop} {XC : String → State → State → Prop} {cc : ByteArray} {pc : Nat} (hexec : p.tables.exec = Jvm.exec) (hb : c.code = cc) (hl : l.stackTraces = false) {text : String} {mc ms sa : Nat} {A : Nat → Prop}
    (hown : s.vm.findClass "MicRow" = some m.cls) (hk : (Cond.classLink "MicRow" 201 fm_NSE).before args s = true) (hini : (Cond.initialized fm_NSE).before args s = true) (hstr : vk_R "MicRow" 203 text sa s) (hat : ∀ w ∈ fm_na.filter vx_no, w.before args s = true)
    (hU : vx_Zq Bundle.tN "UNASSIGNED_STACK" Bundle.steD A s s.heap) (hN : vx_Zq Bundle.tN "SUPPRESSED_SENTINEL" Bundle.listD A s s.heap) (hS : va_S A s.heap H locs) (hsize : ls.size = c.maxLocals)
    (d0 : decode cc pc = .ok (.new 201, 3)) (d3 : decode cc (pc + 3) = .ok (.dup, 1)) (d4 : decode cc (pc + 4) = .ok (.ldc 203, 2)) (d6 : decode cc (pc + 6) = .ok (.invokespecial 205, 3)) (d9 : decode cc (pc + 9) = .ok (.athrow, 1))
    (hout : ∀ x ∈ c.exceptionTable.toList, covers x (pc + 9) = false)
    (hRframes : 5 < R.frames) (hRlocals : (rest.map fun v => v.category).sum + 82 ≤ R.locals) (hRcells : cells + 1 ≤ R.cells) (hRslots : slots + 6 ≤ R.slots) (hlocks : meth.locks = false)
    (hx : ∀ t : State, s.vm.Alike t.vm → H.size ≤ t.heap.size → (∀ q : Nat, q < H.size → t.heap[q]? = H[q]?) → XC fm_NSE s t)
    (hf : ∀ z ∈ locs, free z.base) (hc : cells + 1 ≤ mc) (hs : slots + 6 ≤ ms) :
    W p l e R s m args below meth c H locs cells slots (vx_MQ below Qc XC args s mc ms free) (F0 m pc ls rest) := by
  intro T hT X
  have htr : e.platform.stackTraces = false := (show e.platform.stackTraces = l.stackTraces by rw [X.admits.platform]).trans hl
  have Y := vx_rebase X (R' := { frames := R.frames, locals := R.locals, cells := 1, slots := 6 }) (Nat.le_refl _) (Nat.le_refl _) hRcells hRslots
  obtain ⟨s', hA⟩ : ∃ z, z = (T.setVm s.vm).setFrames (.invoking m args :: below) := ⟨_, rfl⟩
  rw [← hA] at Y
  have hvm : s'.vm = s.vm := by rw [hA]; rfl
  have hhp : s'.heap = H := by rw [hA]; exact hT
  have hW0 : s.WarmedH s'.vm := by rw [hvm]; exact State.WarmedH.refl s
  have hot : ∀ w ∈ (Cond.classLink "MicRow" 201 fm_NSE :: Cond.initialized fm_NSE :: fm_na.filter vx_no), vx_ot w = true := fun w hw => List.all_eq_true.mp fm_xg w hw
  have hat' : ∀ w ∈ fm_na.filter vx_no, w.before args s' = true := fun w hw => vx_ot_at hW0 hvm.symm (hot w (List.mem_cons_of_mem _ (List.mem_cons_of_mem _ hw))) (hat w hw)
  have hk' : (Cond.classLink "MicRow" 201 fm_NSE).before args s' = true := vx_ot_at hW0 hvm.symm (hot _ List.mem_cons_self) hk
  have hini' : (Cond.initialized fm_NSE).before args s' = true := vx_ot_at hW0 hvm.symm (hot _ (List.mem_cons_of_mem _ List.mem_cons_self)) hini
  have hU' : vx_Zq Bundle.tN "UNASSIGNED_STACK" Bundle.steD A s' s'.heap := by rw [hhp]; exact vx_Zq.moved hW0.alike (hU.kept hS.2.1)
  have hN' : vx_Zq Bundle.tN "SUPPRESSED_SENTINEL" Bundle.listD A s' s'.heap := by rw [hhp]; exact vx_Zq.moved hW0.alike (hN.kept hS.2.1)
  have h : ∀ w ∈ fm_na, w.before args s' = true := vx_own hat' (vx_isRefq hU'.1) (vx_isRefq hN'.1) hU'.2.word hN'.2.word
  have hown' : s'.vm.findClass "MicRow" = some m.cls := by rw [hvm]; exact hown
  have hins : (Cond.instantiable fm_NSE 6).before args s' = true := h _ (by simp [fm_na])
  obtain ⟨vm₁, cX, kX, hfX, hkX, -, -, X₁, st1⟩ := Y.newCold hexec (own := "MicRow") (C := fm_NSE) (index := 201) (n := 6) hown' hk' hins hini'
    (g := F0 m pc ls rest) rfl (by rw [hb]; exact d0) (Nat.le_refl _) (Nat.le_refl _)
  generalize hT1 : (T.setVm vm₁).pushCell { cls := cX, slots := kX.instanceTypes.map defaultValue, vm := .none } = T1 at X₁ st1
  have hcat : (Value.ref T.heap.size).category = 1 := rfl
  have hcellA : T1.heap[T.heap.size]? = some (freshCell cX kX) := by rw [← hT1]; exact State.heap_pushCell_size _ _
  have d3' : decode c.code (pc + 3) = .ok (.dup, 1) := by rw [hb]; exact d3
  have d4' : decode c.code (pc + 4) = .ok (.ldc 203, 2) := by rw [hb]; exact d4
  have hstr' : vk_R "MicRow" 203 text sa s' := vk_R.warm hW0 hstr
  obtain ⟨U, hsteps, hrun, hend, hW, hsame, ce, hce, hcl9, hcv⟩ := fm_ctor X₁ hexec htr hown' h (fun x hx => nomatch hx) hfX hkX hcellA (by rw [hhp, hT]; exact Nat.le_refl _) (msg := .ref sa) rfl
    (g := { method := m, pc := pc + 6, locals := ls, stack := .ref sa :: .ref T.heap.size :: .ref T.heap.size :: rest, locked := none }) rfl hsize rfl rfl (rest := rest) rfl
    (by rw [hb]; exact d6) (by rw [hb]; exact d9) hout hRframes (by simp only [List.map_cons, List.sum_cons, hcat]; show 2 * 0 + _ + _ ≤ _; omega) hlocks
  obtain ⟨f1, f2⟩ := vx_frame hsame
  rw [hhp] at f1 f2
  have hWs : s.WarmedH U.vm := State.WarmedH.trans hW0 hW
  have hcl : s.vm.findClass fm_NSE = some ce.cls := by
    rw [hvm] at hcl9
    exact hcl9
  have hall : s.sameButNew ({ U with vm := s.vm } : State) locs mc ms := by
    subst hA
    obtain ⟨e1, e2⟩ := hsame
    rw [State.setFrames_setFrames] at e1
    have h2 : (T.setVm s.vm).sameButNew ({ U with vm := s.vm } : State) [] (0 + 1) (0 + 6) := ⟨e1, e2⟩
    have h3 := X.same.trans h2
    rw [List.append_nil] at h3
    exact h3.mono hc hs
  refine ⟨U, ?_, .threw T.heap.size, hrun, hend, Or.inr ⟨T.heap.size, rfl, fm_NSE, ce, locs, hx U hWs.alike f1 (fun q hq => f2 q hq (fun z hz => nomatch hz)), hce, hcv, hcl, hWs, hall, hf⟩⟩
  refine st1 _ ?_
  show Steps p.tables e below (T1.setTop { method := m, pc := pc + 3, locals := ls, stack := .ref T.heap.size :: rest, locked := none }) _
  jvm_step X₁.here [X₁.here.top, hexec, d3', Value.category]
  exact X₁.ldcString hexec (own := "MicRow") (text := text) (index := 203) (a := sa) hown' hstr'.1 hstr'.2
    (g := { method := m, pc := pc + 4, locals := ls, stack := .ref T.heap.size :: .ref T.heap.size :: rest, locked := none }) rfl d4' _ hsteps
theorem fm_x201 : Cond.classLink "MicRow" 201 fm_NSE ∈ fm_TT := fm_wd 976 (by decide +kernel) (by decide +kernel)
theorem fm_xini : Cond.initialized fm_NSE ∈ fm_TT := fm_wd 97 (by decide +kernel) (by decide +kernel)
set_option maxHeartbeats 4000000 in
theorem cx_MicRow_demand (l : Launch) (hfl : l.stackTraces = false) (SH : List fm_Sh) (G : fm_G) (M : fm_M) (x : Int32) (hx : x = 0) : fm_xMet l yX9_demand cX9_demand 1 none { frames := 6, cells := 1, slots := 6, locals := 82 } SH G [.int x] M M := by
  refine fm_xenter (by decide) (Nat.le_of_ble_eq_true rfl) ?_
  intro p e s m args below meth c ls hout C E hl
  have hl : lv_has ls 1 [(0, .int x)] := hl
  refine lv_iload_n C.1 C.2.1 dX9_demand_0 rfl (lv_at hl 0 rfl) ?_
  refine lv_if_ne (tgt := 14) C.1 C.2.1 dX9_demand_1 (by decide) (fun hc => absurd hx hc) (fun _ => ?_)
  exact fm_throw (A := fm_A SH G s.heap.size) (sa := G.2.2.2.1 5) C.1 C.2.1 hfl C.2.2.2.1 (C.2.2.2.2.1 _ fm_x201) (C.2.2.2.2.1 _ fm_xini) (C.2.2.2.2.2.2.2.2.2.2.2.1 5 _ rfl) (fm_xat C) C.2.2.2.2.2.2.2.2.2.2.2.2.2.2.1 C.2.2.2.2.2.2.2.2.2.2.2.2.2.2.2 E.2.2 (hl.1.trans C.2.2.1.symm) dX9_demand_4 dX9_demand_7 dX9_demand_8 dX9_demand_10 dX9_demand_13 (fun x hx => (hout x hx).elim) (by decide) (by decide) (by decide) (by decide) C.2.2.2.2.2.2.1 (fun t ht hz hk => ⟨rfl, E.1.kept (fun k q hq => hk q.1 (E.1 k q hq).lt), Nat.le_trans E.2.2.1 hz, fun q h1 h2 => (hk q (Nat.lt_of_lt_of_le h1 E.2.2.1)).trans (E.2.2.2.1 q h1 h2)⟩) E.2.2.2.2 (by decide) (by decide)

def tMicRow_row_J20 (M : fm_M) (v1 : Int32) (s0 : Int32) : Option fm_M :=
  if s0 = 0 then some M else fm_ldl 17 M 177 v1 (fun x31 => none)
def tMicRow_row_J19 (M : fm_M) (v1 : Int32) : Option fm_M :=
  tMicRow_row_J20 M v1 0
def tMicRow_row (M : fm_M) (v1 : Int32) : Option fm_M :=
  if v1 < 0 then tMicRow_row_J19 M v1 else if (M.1 176 1) ≤ v1 then tMicRow_row_J19 M v1 else tMicRow_row_J20 M v1 1
def tMicRow_mic_J25 (M : fm_M) (v1 : Int32) (v2 : Int32) (s0 : Int32) : Option fm_M :=
  if s0 = 0 then some M else (pScene_ofMic M v1 v2).bind (fun x34 => none)
def tMicRow_mic_J24 (M : fm_M) (v1 : Int32) (v2 : Int32) : Option fm_M :=
  tMicRow_mic_J25 M v1 v2 0
def tMicRow_mic (M : fm_M) (v1 : Int32) (v2 : Int32) : Option fm_M :=
  (pScene_hasMic M v1).bind (fun x5 => if x5 = 0 then tMicRow_mic_J24 M v1 v2 else (pMicRow_within M v2 0 5).bind (fun x14 => if x14 = 0 then tMicRow_mic_J24 M v1 v2 else tMicRow_mic_J25 M v1 v2 1))
def tMicRow_source_J48 (M : fm_M) (v1 : Int32) (v2 : Int32) (s0 : Int32) : Option fm_M :=
  if s0 = 0 then some M else (pScene_ofSource M v1 v2).bind (fun x57 => none)
def tMicRow_source_J43 (M : fm_M) (v1 : Int32) (v2 : Int32) : Option fm_M :=
  tMicRow_source_J48 M v1 v2 1
def tMicRow_source_J20 (M : fm_M) (v1 : Int32) (v2 : Int32) (s0 : Int32) : Option fm_M :=
  if s0 = 0 then some M else if v2 < 3 then tMicRow_source_J43 M v1 v2 else (pScene_ofSource M v1 2).bind (fun x37 => if x37 ≤ (v2 - 3) then tMicRow_source_J48 M v1 v2 0 else tMicRow_source_J43 M v1 v2)
def tMicRow_source_J19 (M : fm_M) (v1 : Int32) (v2 : Int32) : Option fm_M :=
  tMicRow_source_J20 M v1 v2 0
def tMicRow_source (M : fm_M) (v1 : Int32) (v2 : Int32) : Option fm_M :=
  (pScene_hasSource M v1).bind (fun x5 => if x5 = 0 then tMicRow_source_J19 M v1 v2 else if v2 < 0 then tMicRow_source_J19 M v1 v2 else tMicRow_source_J20 M v1 v2 1)
def tMicRow_sample_J29 (N : Nat) (M : fm_M) (v1 : Int32) (v2 : Int32) (s0 : Int32) : Option fm_M :=
  if s0 = 0 then some M else (pEars_listenTo M (-1)).bind (fun M37 => (pEars_at N M37 v1 v2).bind (fun (x46, M46) => none))
def tMicRow_sample_J28 (N : Nat) (M : fm_M) (v1 : Int32) (v2 : Int32) : Option fm_M :=
  tMicRow_sample_J29 N M v1 v2 0
def tMicRow_sample (N : Nat) (M : fm_M) (v1 : Int32) (v2 : Int32) : Option fm_M :=
  (pScene_hasMic M v1).bind (fun x5 => if x5 = 0 then tMicRow_sample_J28 N M v1 v2 else (pMicRow_within M v2 (-300) 300).bind (fun x18 => if x18 = 0 then tMicRow_sample_J28 N M v1 v2 else tMicRow_sample_J29 N M v1 v2 1))
def tMicRow_turned_J30 (N : Nat) (M : fm_M) (v1 : Int32) (v2 : Int32) (v3 : Int32) (s0 : Int32) : Option fm_M :=
  if s0 = 0 then some M else (pEars_listenTo M (-1)).bind (fun M38 => (pBench_turnTo N M38 v2 v3 1).bind (fun M48 => (pBench_turnedRow M48 v1).bind (fun x56 => fm_ld (fm_n shC x56) M48 x56 0 (fun x60 => none))))
def tMicRow_turned_J29 (N : Nat) (M : fm_M) (v1 : Int32) (v2 : Int32) (v3 : Int32) : Option fm_M :=
  tMicRow_turned_J30 N M v1 v2 v3 0
def tMicRow_turned (N : Nat) (M : fm_M) (v1 : Int32) (v2 : Int32) (v3 : Int32) : Option fm_M :=
  (pScene_hasMic M v1).bind (fun x5 => if x5 = 0 then tMicRow_turned_J29 N M v1 v2 v3 else (pMicRow_isDirection M v2).bind (fun x12 => if x12 = 0 then tMicRow_turned_J29 N M v1 v2 v3 else (pMicRow_isTurnedTime M v3).bind (fun x19 => if x19 = 0 then tMicRow_turned_J29 N M v1 v2 v3 else tMicRow_turned_J30 N M v1 v2 v3 1)))
def tMicRow_beam_J19 (N : Nat) (M : fm_M) (v1 : Int32) (v2 : Int32) (s0 : Int32) : Option fm_M :=
  if s0 = 0 then some M else (pEars_listenTo M (-1)).bind (fun M27 => (pBench_turnTo N M27 v1 v2 1).bind (fun M37 => (pScene_liveSet N M37).bind (fun x48 => (pBench_mix N M37 x48).bind (fun M51 => none))))
def tMicRow_beam_J18 (N : Nat) (M : fm_M) (v1 : Int32) (v2 : Int32) : Option fm_M :=
  tMicRow_beam_J19 N M v1 v2 0
def tMicRow_beam (N : Nat) (M : fm_M) (v1 : Int32) (v2 : Int32) : Option fm_M :=
  (pMicRow_isDirection M v1).bind (fun x1 => if x1 = 0 then tMicRow_beam_J18 N M v1 v2 else (pMicRow_isTurnedTime M v2).bind (fun x8 => if x8 = 0 then tMicRow_beam_J18 N M v1 v2 else tMicRow_beam_J19 N M v1 v2 1))
def tMicRow_blocked_J74 (N : Nat) (M : fm_M) (v2 : Int32) (s0 : Int32) : Option fm_M :=
  if s0 = 0 then some M else fm_ix 5 (fun j => 192 + j) v2 (fun q85 => none)
def tMicRow_blocked_J73 (N : Nat) (M : fm_M) (v2 : Int32) : Option fm_M :=
  tMicRow_blocked_J74 N M v2 0
def tMicRow_blocked_J19 (N : Nat) (M : fm_M) (v1 : Int32) (v2 : Int32) (v3 : Int32) (s0 : Int32) : Option fm_M :=
  if s0 = 0 then some M else (pEars_listenTo M (-1)).bind (fun M27 => (pBench_turnTo N M27 v1 v3 1).bind (fun M37 => (pScene_liveSet N M37).bind (fun x48 => (pBench_block N M37 x48).bind (fun M51 => if v2 < 0 then tMicRow_blocked_J73 N M51 v2 else if (M51.1 181 9) ≤ v2 then tMicRow_blocked_J73 N M51 v2 else tMicRow_blocked_J74 N M51 v2 1))))
def tMicRow_blocked_J18 (N : Nat) (M : fm_M) (v1 : Int32) (v2 : Int32) (v3 : Int32) : Option fm_M :=
  tMicRow_blocked_J19 N M v1 v2 v3 0
def tMicRow_blocked (N : Nat) (M : fm_M) (v1 : Int32) (v2 : Int32) (v3 : Int32) : Option fm_M :=
  (pMicRow_isDirection M v1).bind (fun x1 => if x1 = 0 then tMicRow_blocked_J18 N M v1 v2 v3 else (pMicRow_isTurnedTime M v3).bind (fun x8 => if x8 = 0 then tMicRow_blocked_J18 N M v1 v2 v3 else tMicRow_blocked_J19 N M v1 v2 v3 1))
def tMicRow_clean_J19 (N : Nat) (M : fm_M) (v1 : Int32) (v2 : Int32) (s0 : Int32) : Option fm_M :=
  if s0 = 0 then some M else (pEars_listenTo M (-1)).bind (fun M27 => (pMicRow_learnWeights N M27 v1).bind (fun M32 => (pBench_turnTo N M32 v1 v2 1).bind (fun M42 => (pScene_liveSet N M42).bind (fun x53 => (pBench_mix N M42 x53).bind (fun M56 => (pScene_liveSet N M56).bind (fun x67 => (pBench_block N M56 x67).bind (fun M70 => (pBench_takeOff N M70).bind (fun M77 => none))))))))
def tMicRow_clean_J18 (N : Nat) (M : fm_M) (v1 : Int32) (v2 : Int32) : Option fm_M :=
  tMicRow_clean_J19 N M v1 v2 0
def tMicRow_clean (N : Nat) (M : fm_M) (v1 : Int32) (v2 : Int32) : Option fm_M :=
  (pMicRow_isDirection M v1).bind (fun x1 => if x1 = 0 then tMicRow_clean_J18 N M v1 v2 else (pMicRow_isTurnedTime M v2).bind (fun x8 => if x8 = 0 then tMicRow_clean_J18 N M v1 v2 else tMicRow_clean_J19 N M v1 v2 1))
set_option maxHeartbeats 4000000 in
set_option maxRecDepth 100000 in
theorem cx_MicRow_row (l : Launch) (hfl : l.stackTraces = false) (G : fm_G) (M : fm_M) (v1 : Int32) (M' : fm_M) (hf : tMicRow_row M v1 = some M') : fm_xMet l yX9_row cX9_row 2 (some .long) { frames := 7, cells := 1, slots := 6, locals := 102 } shC G [.ref (G.2.1 0), .int v1] M M' := by
  refine fm_xenter (by decide) (Nat.le_of_ble_eq_true rfl) ?_
  intro p e s m args below meth c ls hout C E hl
  have hl : lv_has ls 2 [(0, .ref (G.2.1 0)), (1, .int v1)] := hl
  have J20 : ∀ (v1 : Int32) (s0 : Int32) (H : Heap) (locs : List Loc) (ls : Array Slot), fm_Wd shC G M s H locs → lv_has ls 2 [(0, .ref (G.2.1 0)), (1, .int v1)] → tMicRow_row_J20 M v1 s0 = some M' → W p l e { frames := 7, cells := 1, slots := 6, locals := 102 } s m args below meth c H locs 0 0 (fm_ZX below shC G args s M') (F0 m 20 ls [.int s0]) := by
    intro v1 s0 H locs ls E hl hf
    unfold tMicRow_row_J20 at hf
    rcases fm_io hf with ⟨hd20, hf⟩ | ⟨hd20, hf⟩
    · obtain rfl := fm_rt1 hf
      exact fm_xcallS hout C E [.int _] [] (fm_wd 973 (by decide +kernel) (by decide +kernel)) lm_X9_137 wk_X9_demand (cx_MicRow_demand l hfl shC G _ _ hd20) rfl hl.1 (by simp [Value.category]) ⟨⟨rfl, rfl⟩, by decide, by decide⟩ ⟨by decide, by decide⟩ dX9_row_20 rfl
    refine fm_callS C E [.int _] [] lm_X9_137 wk_X9_demand (c_MicRow_demand l G _ _ (by unfold pMicRow_demand; exact if_neg hd20)) rfl hl.1 (by simp [Value.category]) ⟨⟨rfl, rfl⟩, by decide, by decide⟩ ⟨by decide, by decide⟩ dX9_row_20 rfl (fun H locs E => ?_)
    refine W.eq (g2 := F0 m 23 ls []) rfl ?_
    refine lv_aload_n C.1 C.2.1 dX9_row_23 rfl (lv_at hl 0 rfl) ?_
    refine fm_getr C E lf_X9_53 hC_0 rfl dX9_row_24 ?_
    refine fm_getr C E lf_X9_395 hC_176 rfl dX9_row_27 ?_
    refine lv_iload_n C.1 C.2.1 dX9_row_30 rfl (lv_at hl 1 rfl) ?_
    obtain ⟨h31, x31, e31, hf⟩ := fm_ldl_e hf
    refine fm_lald' C E e31 hC_177 h31 dX9_row_31 ?_
    cases hf
  have J19 : ∀ (v1 : Int32) (H : Heap) (locs : List Loc) (ls : Array Slot), fm_Wd shC G M s H locs → lv_has ls 2 [(0, .ref (G.2.1 0)), (1, .int v1)] → tMicRow_row_J19 M v1 = some M' → W p l e { frames := 7, cells := 1, slots := 6, locals := 102 } s m args below meth c H locs 0 0 (fm_ZX below shC G args s M') (F0 m 19 ls []) := by
    intro v1 H locs ls E hl hf
    unfold tMicRow_row_J19 at hf
    refine lv_iconst (v := 0) C.1 C.2.1 dX9_row_19 (by decide) ?_
    exact J20 _ _ _ _ _ E (lv_sub hl [0, 1] rfl) hf
  unfold tMicRow_row at hf
  refine lv_iload_n C.1 C.2.1 dX9_row_0 rfl (lv_at hl 1 rfl) ?_
  refine lv_if_lt (tgt := 19) C.1 C.2.1 dX9_row_1 (by decide) (fun hc1 => ?_) (fun hc1 => ?_)
  · have hf := fm_ip hf hc1
    exact J19 _ _ _ _ E (lv_sub hl [0, 1] rfl) hf
  · have hf := fm_in' hf hc1
    refine lv_iload_n C.1 C.2.1 dX9_row_4 rfl (lv_at hl 1 rfl) ?_
    refine lv_aload_n C.1 C.2.1 dX9_row_5 rfl (lv_at hl 0 rfl) ?_
    refine fm_getr C E lf_X9_53 hC_0 rfl dX9_row_6 ?_
    refine fm_geti C E lf_X9_394 hC_176 rfl dX9_row_9 ?_
    refine lv_icmp_ge (tgt := 19) C.1 C.2.1 dX9_row_12 (by decide) (fun hc12 => ?_) (fun hc12 => ?_)
    · have hf := fm_ip hf hc12
      exact J19 _ _ _ _ E (lv_sub hl [0, 1] rfl) hf
    · have hf := fm_in' hf hc12
      refine lv_iconst (v := 1) C.1 C.2.1 dX9_row_15 (by decide) ?_
      refine lv_goto (tgt := 20) C.1 C.2.1 dX9_row_16 (by decide) ?_
      exact J20 _ _ _ _ _ E (lv_sub hl [0, 1] rfl) hf
set_option maxHeartbeats 4000000 in
set_option maxRecDepth 100000 in
theorem cx_MicRow_mic (l : Launch) (hfl : l.stackTraces = false) (G : fm_G) (M : fm_M) (v1 : Int32) (v2 : Int32) (M' : fm_M) (hf : tMicRow_mic M v1 v2 = some M') : fm_xMet l yX9_mic cX9_mic 3 (some .int) { frames := 7, cells := 1, slots := 6, locals := 102 } shC G [.ref (G.2.1 0), .int v1, .int v2] M M' := by
  refine fm_xenter (by decide) (Nat.le_of_ble_eq_true rfl) ?_
  intro p e s m args below meth c ls hout C E hl
  have hl : lv_has ls 3 [(0, .ref (G.2.1 0)), (1, .int v1), (2, .int v2)] := hl
  have J25 : ∀ (v1 : Int32) (v2 : Int32) (s0 : Int32) (H : Heap) (locs : List Loc) (ls : Array Slot), fm_Wd shC G M s H locs → lv_has ls 3 [(0, .ref (G.2.1 0)), (1, .int v1), (2, .int v2)] → tMicRow_mic_J25 M v1 v2 s0 = some M' → W p l e { frames := 7, cells := 1, slots := 6, locals := 102 } s m args below meth c H locs 0 0 (fm_ZX below shC G args s M') (F0 m 25 ls [.int s0]) := by
    intro v1 v2 s0 H locs ls E hl hf
    unfold tMicRow_mic_J25 at hf
    rcases fm_io hf with ⟨hd25, hf⟩ | ⟨hd25, hf⟩
    · obtain rfl := fm_rt1 hf
      exact fm_xcallS hout C E [.int _] [] (fm_wd 973 (by decide +kernel) (by decide +kernel)) lm_X9_137 wk_X9_demand (cx_MicRow_demand l hfl shC G _ _ hd25) rfl hl.1 (by simp [Value.category]) ⟨⟨rfl, rfl⟩, by decide, by decide⟩ ⟨by decide, by decide⟩ dX9_mic_25 rfl
    refine fm_callS C E [.int _] [] lm_X9_137 wk_X9_demand (c_MicRow_demand l G _ _ (by unfold pMicRow_demand; exact if_neg hd25)) rfl hl.1 (by simp [Value.category]) ⟨⟨rfl, rfl⟩, by decide, by decide⟩ ⟨by decide, by decide⟩ dX9_mic_25 rfl (fun H locs E => ?_)
    refine W.eq (g2 := F0 m 28 ls []) rfl ?_
    refine lv_aload_n C.1 C.2.1 dX9_mic_28 rfl (lv_at hl 0 rfl) ?_
    refine fm_getr C E lf_X9_10 hC_0 rfl dX9_mic_29 ?_
    refine lv_iload_n C.1 C.2.1 dX9_mic_32 rfl (lv_at hl 1 rfl) ?_
    refine lv_iload_n C.1 C.2.1 dX9_mic_33 rfl (lv_at hl 2 rfl) ?_
    obtain ⟨x34, hc34, hf⟩ := fm_bd hf
    refine fm_callV C E [.int _, .int _] [] lm_X9_141 wk_X7_ofMic (c_Scene_ofMic l G _ _ _ _  hc34) hC_1 rfl rfl rfl hl.1 (by simp [Value.category]) ⟨⟨rfl, rfl⟩, by decide, by decide⟩ ⟨by decide, by decide⟩ dX9_mic_34 rfl (fun H locs E => ?_)
    refine W.eq (g2 := F0 m 37 ls (.int x34 :: [])) rfl ?_
    cases hf
  have J24 : ∀ (v1 : Int32) (v2 : Int32) (H : Heap) (locs : List Loc) (ls : Array Slot), fm_Wd shC G M s H locs → lv_has ls 3 [(0, .ref (G.2.1 0)), (1, .int v1), (2, .int v2)] → tMicRow_mic_J24 M v1 v2 = some M' → W p l e { frames := 7, cells := 1, slots := 6, locals := 102 } s m args below meth c H locs 0 0 (fm_ZX below shC G args s M') (F0 m 24 ls []) := by
    intro v1 v2 H locs ls E hl hf
    unfold tMicRow_mic_J24 at hf
    refine lv_iconst (v := 0) C.1 C.2.1 dX9_mic_24 (by decide) ?_
    exact J25 _ _ _ _ _ _ E (lv_sub hl [0, 1, 2] rfl) hf
  unfold tMicRow_mic at hf
  refine lv_aload_n C.1 C.2.1 dX9_mic_0 rfl (lv_at hl 0 rfl) ?_
  refine fm_getr C E lf_X9_10 hC_0 rfl dX9_mic_1 ?_
  refine lv_iload_n C.1 C.2.1 dX9_mic_4 rfl (lv_at hl 1 rfl) ?_
  obtain ⟨x5, hc5, hf⟩ := fm_bd hf
  refine fm_callV C E [.int _] [] lm_X9_116 wk_X7_hasMic (c_Scene_hasMic l G _ _ _  hc5) hC_1 rfl rfl rfl hl.1 (by simp [Value.category]) ⟨⟨rfl, rfl⟩, by decide, by decide⟩ ⟨by decide, by decide⟩ dX9_mic_5 rfl (fun H locs E => ?_)
  refine W.eq (g2 := F0 m 8 ls (.int x5 :: [])) rfl ?_
  refine lv_if_eq (tgt := 24) C.1 C.2.1 dX9_mic_8 (by decide) (fun hc8 => ?_) (fun hc8 => ?_)
  · have hf := fm_ip hf hc8
    exact J24 _ _ _ _ _ E (lv_sub hl [0, 1, 2] rfl) hf
  · have hf := fm_in' hf hc8
    refine lv_iload_n C.1 C.2.1 dX9_mic_11 rfl (lv_at hl 2 rfl) ?_
    refine lv_iconst (v := 0) C.1 C.2.1 dX9_mic_12 (by decide) ?_
    refine lv_iconst (v := 5) C.1 C.2.1 dX9_mic_13 (by decide) ?_
    obtain ⟨x14, hc14, hf⟩ := fm_bd hf
    refine fm_callS C E [.int _, .int _, .int _] [] lm_X9_112 wk_X9_within (c_MicRow_within l G _ _ _ _ _  hc14) rfl hl.1 (by simp [Value.category]) ⟨⟨rfl, rfl⟩, by decide, by decide⟩ ⟨by decide, by decide⟩ dX9_mic_14 rfl (fun H locs E => ?_)
    refine W.eq (g2 := F0 m 17 ls (.int x14 :: [])) rfl ?_
    refine lv_if_eq (tgt := 24) C.1 C.2.1 dX9_mic_17 (by decide) (fun hc17 => ?_) (fun hc17 => ?_)
    · have hf := fm_ip hf hc17
      exact J24 _ _ _ _ _ E (lv_sub hl [0, 1, 2] rfl) hf
    · have hf := fm_in' hf hc17
      refine lv_iconst (v := 1) C.1 C.2.1 dX9_mic_20 (by decide) ?_
      refine lv_goto (tgt := 25) C.1 C.2.1 dX9_mic_21 (by decide) ?_
      exact J25 _ _ _ _ _ _ E (lv_sub hl [0, 1, 2] rfl) hf
set_option maxHeartbeats 4000000 in
set_option maxRecDepth 100000 in
theorem cx_MicRow_source (l : Launch) (hfl : l.stackTraces = false) (G : fm_G) (M : fm_M) (v1 : Int32) (v2 : Int32) (M' : fm_M) (hf : tMicRow_source M v1 v2 = some M') : fm_xMet l yX9_source cX9_source 3 (some .int) { frames := 7, cells := 1, slots := 6, locals := 102 } shC G [.ref (G.2.1 0), .int v1, .int v2] M M' := by
  refine fm_xenter (by decide) (Nat.le_of_ble_eq_true rfl) ?_
  intro p e s m args below meth c ls hout C E hl
  have hl : lv_has ls 3 [(0, .ref (G.2.1 0)), (1, .int v1), (2, .int v2)] := hl
  have J48 : ∀ (v1 : Int32) (v2 : Int32) (s0 : Int32) (H : Heap) (locs : List Loc) (ls : Array Slot), fm_Wd shC G M s H locs → lv_has ls 3 [(0, .ref (G.2.1 0)), (1, .int v1), (2, .int v2)] → tMicRow_source_J48 M v1 v2 s0 = some M' → W p l e { frames := 7, cells := 1, slots := 6, locals := 102 } s m args below meth c H locs 0 0 (fm_ZX below shC G args s M') (F0 m 48 ls [.int s0]) := by
    intro v1 v2 s0 H locs ls E hl hf
    unfold tMicRow_source_J48 at hf
    rcases fm_io hf with ⟨hd48, hf⟩ | ⟨hd48, hf⟩
    · obtain rfl := fm_rt1 hf
      exact fm_xcallS hout C E [.int _] [] (fm_wd 973 (by decide +kernel) (by decide +kernel)) lm_X9_137 wk_X9_demand (cx_MicRow_demand l hfl shC G _ _ hd48) rfl hl.1 (by simp [Value.category]) ⟨⟨rfl, rfl⟩, by decide, by decide⟩ ⟨by decide, by decide⟩ dX9_source_48 rfl
    refine fm_callS C E [.int _] [] lm_X9_137 wk_X9_demand (c_MicRow_demand l G _ _ (by unfold pMicRow_demand; exact if_neg hd48)) rfl hl.1 (by simp [Value.category]) ⟨⟨rfl, rfl⟩, by decide, by decide⟩ ⟨by decide, by decide⟩ dX9_source_48 rfl (fun H locs E => ?_)
    refine W.eq (g2 := F0 m 51 ls []) rfl ?_
    refine lv_aload_n C.1 C.2.1 dX9_source_51 rfl (lv_at hl 0 rfl) ?_
    refine fm_getr C E lf_X9_10 hC_0 rfl dX9_source_52 ?_
    refine lv_iload_n C.1 C.2.1 dX9_source_55 rfl (lv_at hl 1 rfl) ?_
    refine lv_iload_n C.1 C.2.1 dX9_source_56 rfl (lv_at hl 2 rfl) ?_
    obtain ⟨x57, hc57, hf⟩ := fm_bd hf
    refine fm_callV C E [.int _, .int _] [] lm_X9_147 wk_X7_ofSource (c_Scene_ofSource l G _ _ _ _  hc57) hC_1 rfl rfl rfl hl.1 (by simp [Value.category]) ⟨⟨rfl, rfl⟩, by decide, by decide⟩ ⟨by decide, by decide⟩ dX9_source_57 rfl (fun H locs E => ?_)
    refine W.eq (g2 := F0 m 60 ls (.int x57 :: [])) rfl ?_
    cases hf
  have J43 : ∀ (v1 : Int32) (v2 : Int32) (H : Heap) (locs : List Loc) (ls : Array Slot), fm_Wd shC G M s H locs → lv_has ls 3 [(0, .ref (G.2.1 0)), (1, .int v1), (2, .int v2)] → tMicRow_source_J43 M v1 v2 = some M' → W p l e { frames := 7, cells := 1, slots := 6, locals := 102 } s m args below meth c H locs 0 0 (fm_ZX below shC G args s M') (F0 m 43 ls []) := by
    intro v1 v2 H locs ls E hl hf
    unfold tMicRow_source_J43 at hf
    refine lv_iconst (v := 1) C.1 C.2.1 dX9_source_43 (by decide) ?_
    refine lv_goto (tgt := 48) C.1 C.2.1 dX9_source_44 (by decide) ?_
    exact J48 _ _ _ _ _ _ E (lv_sub hl [0, 1, 2] rfl) hf
  have J20 : ∀ (v1 : Int32) (v2 : Int32) (s0 : Int32) (H : Heap) (locs : List Loc) (ls : Array Slot), fm_Wd shC G M s H locs → lv_has ls 3 [(0, .ref (G.2.1 0)), (1, .int v1), (2, .int v2)] → tMicRow_source_J20 M v1 v2 s0 = some M' → W p l e { frames := 7, cells := 1, slots := 6, locals := 102 } s m args below meth c H locs 0 0 (fm_ZX below shC G args s M') (F0 m 20 ls [.int s0]) := by
    intro v1 v2 s0 H locs ls E hl hf
    unfold tMicRow_source_J20 at hf
    rcases fm_io hf with ⟨hd20, hf⟩ | ⟨hd20, hf⟩
    · obtain rfl := fm_rt1 hf
      exact fm_xcallS hout C E [.int _] [] (fm_wd 973 (by decide +kernel) (by decide +kernel)) lm_X9_137 wk_X9_demand (cx_MicRow_demand l hfl shC G _ _ hd20) rfl hl.1 (by simp [Value.category]) ⟨⟨rfl, rfl⟩, by decide, by decide⟩ ⟨by decide, by decide⟩ dX9_source_20 rfl
    refine fm_callS C E [.int _] [] lm_X9_137 wk_X9_demand (c_MicRow_demand l G _ _ (by unfold pMicRow_demand; exact if_neg hd20)) rfl hl.1 (by simp [Value.category]) ⟨⟨rfl, rfl⟩, by decide, by decide⟩ ⟨by decide, by decide⟩ dX9_source_20 rfl (fun H locs E => ?_)
    refine W.eq (g2 := F0 m 23 ls []) rfl ?_
    refine lv_iload_n C.1 C.2.1 dX9_source_23 rfl (lv_at hl 2 rfl) ?_
    refine lv_iconst (v := 3) C.1 C.2.1 dX9_source_24 (by decide) ?_
    refine lv_icmp_lt (tgt := 43) C.1 C.2.1 dX9_source_25 (by decide) (fun hc25 => ?_) (fun hc25 => ?_)
    · have hf := fm_ip hf hc25
      exact J43 _ _ _ _ _ E (lv_sub hl [0, 1, 2] rfl) hf
    · have hf := fm_in' hf hc25
      refine lv_iload_n C.1 C.2.1 dX9_source_28 rfl (lv_at hl 2 rfl) ?_
      refine lv_iconst (v := 3) C.1 C.2.1 dX9_source_29 (by decide) ?_
      refine lv_isub C.1 C.2.1 dX9_source_30 ?_
      refine lv_aload_n C.1 C.2.1 dX9_source_31 rfl (lv_at hl 0 rfl) ?_
      refine fm_getr C E lf_X9_10 hC_0 rfl dX9_source_32 ?_
      refine lv_iload_n C.1 C.2.1 dX9_source_35 rfl (lv_at hl 1 rfl) ?_
      refine lv_iconst (v := 2) C.1 C.2.1 dX9_source_36 (by decide) ?_
      obtain ⟨x37, hc37, hf⟩ := fm_bd hf
      refine fm_callV C E [.int _, .int _] [.int _] lm_X9_147 wk_X7_ofSource (c_Scene_ofSource l G _ _ _ _  hc37) hC_1 rfl rfl rfl hl.1 (by simp [Value.category]) ⟨⟨rfl, rfl⟩, by decide, by decide⟩ ⟨by decide, by decide⟩ dX9_source_37 rfl (fun H locs E => ?_)
      refine W.eq (g2 := F0 m 40 ls (.int x37 :: [.int _])) rfl ?_
      refine lv_icmp_ge (tgt := 47) C.1 C.2.1 dX9_source_40 (by decide) (fun hc40 => ?_) (fun hc40 => ?_)
      · have hf := fm_ip hf hc40
        refine lv_iconst (v := 0) C.1 C.2.1 dX9_source_47 (by decide) ?_
        exact J48 _ _ _ _ _ _ E (lv_sub hl [0, 1, 2] rfl) hf
      · have hf := fm_in' hf hc40
        exact J43 _ _ _ _ _ E (lv_sub hl [0, 1, 2] rfl) hf
  have J19 : ∀ (v1 : Int32) (v2 : Int32) (H : Heap) (locs : List Loc) (ls : Array Slot), fm_Wd shC G M s H locs → lv_has ls 3 [(0, .ref (G.2.1 0)), (1, .int v1), (2, .int v2)] → tMicRow_source_J19 M v1 v2 = some M' → W p l e { frames := 7, cells := 1, slots := 6, locals := 102 } s m args below meth c H locs 0 0 (fm_ZX below shC G args s M') (F0 m 19 ls []) := by
    intro v1 v2 H locs ls E hl hf
    unfold tMicRow_source_J19 at hf
    refine lv_iconst (v := 0) C.1 C.2.1 dX9_source_19 (by decide) ?_
    exact J20 _ _ _ _ _ _ E (lv_sub hl [0, 1, 2] rfl) hf
  unfold tMicRow_source at hf
  refine lv_aload_n C.1 C.2.1 dX9_source_0 rfl (lv_at hl 0 rfl) ?_
  refine fm_getr C E lf_X9_10 hC_0 rfl dX9_source_1 ?_
  refine lv_iload_n C.1 C.2.1 dX9_source_4 rfl (lv_at hl 1 rfl) ?_
  obtain ⟨x5, hc5, hf⟩ := fm_bd hf
  refine fm_callV C E [.int _] [] lm_X9_144 wk_X7_hasSource (c_Scene_hasSource l G _ _ _  hc5) hC_1 rfl rfl rfl hl.1 (by simp [Value.category]) ⟨⟨rfl, rfl⟩, by decide, by decide⟩ ⟨by decide, by decide⟩ dX9_source_5 rfl (fun H locs E => ?_)
  refine W.eq (g2 := F0 m 8 ls (.int x5 :: [])) rfl ?_
  refine lv_if_eq (tgt := 19) C.1 C.2.1 dX9_source_8 (by decide) (fun hc8 => ?_) (fun hc8 => ?_)
  · have hf := fm_ip hf hc8
    exact J19 _ _ _ _ _ E (lv_sub hl [0, 1, 2] rfl) hf
  · have hf := fm_in' hf hc8
    refine lv_iload_n C.1 C.2.1 dX9_source_11 rfl (lv_at hl 2 rfl) ?_
    refine lv_if_lt (tgt := 19) C.1 C.2.1 dX9_source_12 (by decide) (fun hc12 => ?_) (fun hc12 => ?_)
    · have hf := fm_ip hf hc12
      exact J19 _ _ _ _ _ E (lv_sub hl [0, 1, 2] rfl) hf
    · have hf := fm_in' hf hc12
      refine lv_iconst (v := 1) C.1 C.2.1 dX9_source_15 (by decide) ?_
      refine lv_goto (tgt := 20) C.1 C.2.1 dX9_source_16 (by decide) ?_
      exact J20 _ _ _ _ _ _ E (lv_sub hl [0, 1, 2] rfl) hf
set_option maxHeartbeats 4000000 in
set_option maxRecDepth 100000 in
theorem cx_MicRow_sample (l : Launch) (hfl : l.stackTraces = false) (G : fm_G) (N : Nat) (M : fm_M) (v1 : Int32) (v2 : Int32) (M' : fm_M) (hf : tMicRow_sample N M v1 v2 = some M') : fm_xMet l yX9_sample cX9_sample 3 (some .int) { frames := 7, cells := 1, slots := 6, locals := 102 } shC G [.ref (G.2.1 0), .int v1, .int v2] M M' := by
  refine fm_xenter (by decide) (Nat.le_of_ble_eq_true rfl) ?_
  intro p e s m args below meth c ls hout C E hl
  have hl : lv_has ls 3 [(0, .ref (G.2.1 0)), (1, .int v1), (2, .int v2)] := hl
  have J29 : ∀ (M : fm_M) (v1 : Int32) (v2 : Int32) (s0 : Int32) (H : Heap) (locs : List Loc) (ls : Array Slot), fm_Wd shC G M s H locs → lv_has ls 3 [(0, .ref (G.2.1 0)), (1, .int v1), (2, .int v2)] → tMicRow_sample_J29 N M v1 v2 s0 = some M' → W p l e { frames := 7, cells := 1, slots := 6, locals := 102 } s m args below meth c H locs 0 0 (fm_ZX below shC G args s M') (F0 m 29 ls [.int s0]) := by
    intro M v1 v2 s0 H locs ls E hl hf
    unfold tMicRow_sample_J29 at hf
    rcases fm_io hf with ⟨hd29, hf⟩ | ⟨hd29, hf⟩
    · obtain rfl := fm_rt1 hf
      exact fm_xcallS hout C E [.int _] [] (fm_wd 973 (by decide +kernel) (by decide +kernel)) lm_X9_137 wk_X9_demand (cx_MicRow_demand l hfl shC G _ _ hd29) rfl hl.1 (by simp [Value.category]) ⟨⟨rfl, rfl⟩, by decide, by decide⟩ ⟨by decide, by decide⟩ dX9_sample_29 rfl
    refine fm_callS C E [.int _] [] lm_X9_137 wk_X9_demand (c_MicRow_demand l G _ _ (by unfold pMicRow_demand; exact if_neg hd29)) rfl hl.1 (by simp [Value.category]) ⟨⟨rfl, rfl⟩, by decide, by decide⟩ ⟨by decide, by decide⟩ dX9_sample_29 rfl (fun H locs E => ?_)
    refine W.eq (g2 := F0 m 32 ls []) rfl ?_
    refine lv_aload_n C.1 C.2.1 dX9_sample_32 rfl (lv_at hl 0 rfl) ?_
    refine fm_getr C E lf_X9_62 hC_0 rfl dX9_sample_33 ?_
    refine lv_iconst (v := (-1)) C.1 C.2.1 dX9_sample_36 (by decide) ?_
    obtain ⟨M37, hc37, hf⟩ := fm_bd hf
    refine fm_callV C E [.int _] [] lm_X9_150 wk_X3_listenTo (c_Ears_listenTo l G _ _ _ hc37) hC_178 rfl rfl rfl hl.1 (by simp [Value.category]) ⟨⟨rfl, rfl⟩, by decide, by decide⟩ ⟨by decide, by decide⟩ dX9_sample_37 rfl (fun H locs E => ?_)
    refine W.eq (g2 := F0 m 40 ls []) rfl ?_
    refine lv_aload_n C.1 C.2.1 dX9_sample_40 rfl (lv_at hl 0 rfl) ?_
    refine fm_getr C E lf_X9_62 hC_0 rfl dX9_sample_41 ?_
    refine lv_iload_n C.1 C.2.1 dX9_sample_44 rfl (lv_at hl 1 rfl) ?_
    refine lv_iload_n C.1 C.2.1 dX9_sample_45 rfl (lv_at hl 2 rfl) ?_
    obtain ⟨⟨x46, M46⟩, hc46, hf⟩ := fm_bd hf
    dsimp only at hf
    refine fm_callV C E [.int _, .int _] [] lm_X9_154 wk_X3_at (c_Ears_at l G N _ _ _ _ _ hc46) hC_178 rfl rfl rfl hl.1 (by simp [Value.category]) ⟨⟨rfl, rfl⟩, by decide, by decide⟩ ⟨by decide, by decide⟩ dX9_sample_46 rfl (fun H locs E => ?_)
    refine W.eq (g2 := F0 m 49 ls (.int x46 :: [])) rfl ?_
    cases hf
  have J28 : ∀ (M : fm_M) (v1 : Int32) (v2 : Int32) (H : Heap) (locs : List Loc) (ls : Array Slot), fm_Wd shC G M s H locs → lv_has ls 3 [(0, .ref (G.2.1 0)), (1, .int v1), (2, .int v2)] → tMicRow_sample_J28 N M v1 v2 = some M' → W p l e { frames := 7, cells := 1, slots := 6, locals := 102 } s m args below meth c H locs 0 0 (fm_ZX below shC G args s M') (F0 m 28 ls []) := by
    intro M v1 v2 H locs ls E hl hf
    unfold tMicRow_sample_J28 at hf
    refine lv_iconst (v := 0) C.1 C.2.1 dX9_sample_28 (by decide) ?_
    exact J29 _ _ _ _ _ _ _ E (lv_sub hl [0, 1, 2] rfl) hf
  unfold tMicRow_sample at hf
  refine lv_aload_n C.1 C.2.1 dX9_sample_0 rfl (lv_at hl 0 rfl) ?_
  refine fm_getr C E lf_X9_10 hC_0 rfl dX9_sample_1 ?_
  refine lv_iload_n C.1 C.2.1 dX9_sample_4 rfl (lv_at hl 1 rfl) ?_
  obtain ⟨x5, hc5, hf⟩ := fm_bd hf
  refine fm_callV C E [.int _] [] lm_X9_116 wk_X7_hasMic (c_Scene_hasMic l G _ _ _  hc5) hC_1 rfl rfl rfl hl.1 (by simp [Value.category]) ⟨⟨rfl, rfl⟩, by decide, by decide⟩ ⟨by decide, by decide⟩ dX9_sample_5 rfl (fun H locs E => ?_)
  refine W.eq (g2 := F0 m 8 ls (.int x5 :: [])) rfl ?_
  refine lv_if_eq (tgt := 28) C.1 C.2.1 dX9_sample_8 (by decide) (fun hc8 => ?_) (fun hc8 => ?_)
  · have hf := fm_ip hf hc8
    exact J28 _ _ _ _ _ _ E (lv_sub hl [0, 1, 2] rfl) hf
  · have hf := fm_in' hf hc8
    refine lv_iload_n C.1 C.2.1 dX9_sample_11 rfl (lv_at hl 2 rfl) ?_
    refine lv_sipush (v := (-300)) C.1 C.2.1 dX9_sample_12 (by decide) ?_
    refine lv_sipush (v := 300) C.1 C.2.1 dX9_sample_15 (by decide) ?_
    obtain ⟨x18, hc18, hf⟩ := fm_bd hf
    refine fm_callS C E [.int _, .int _, .int _] [] lm_X9_112 wk_X9_within (c_MicRow_within l G _ _ _ _ _  hc18) rfl hl.1 (by simp [Value.category]) ⟨⟨rfl, rfl⟩, by decide, by decide⟩ ⟨by decide, by decide⟩ dX9_sample_18 rfl (fun H locs E => ?_)
    refine W.eq (g2 := F0 m 21 ls (.int x18 :: [])) rfl ?_
    refine lv_if_eq (tgt := 28) C.1 C.2.1 dX9_sample_21 (by decide) (fun hc21 => ?_) (fun hc21 => ?_)
    · have hf := fm_ip hf hc21
      exact J28 _ _ _ _ _ _ E (lv_sub hl [0, 1, 2] rfl) hf
    · have hf := fm_in' hf hc21
      refine lv_iconst (v := 1) C.1 C.2.1 dX9_sample_24 (by decide) ?_
      refine lv_goto (tgt := 29) C.1 C.2.1 dX9_sample_25 (by decide) ?_
      exact J29 _ _ _ _ _ _ _ E (lv_sub hl [0, 1, 2] rfl) hf
set_option maxHeartbeats 4000000 in
set_option maxRecDepth 100000 in
theorem cx_MicRow_turned (l : Launch) (hfl : l.stackTraces = false) (G : fm_G) (N : Nat) (M : fm_M) (v1 : Int32) (v2 : Int32) (v3 : Int32) (M' : fm_M) (hf : tMicRow_turned N M v1 v2 v3 = some M') : fm_xMet l yX9_turned cX9_turned 4 (some .int) { frames := 7, cells := 1, slots := 6, locals := 126 } shC G [.ref (G.2.1 0), .int v1, .int v2, .int v3] M M' := by
  refine fm_xenter (by decide) (Nat.le_of_ble_eq_true rfl) ?_
  intro p e s m args below meth c ls hout C E hl
  have hl : lv_has ls 4 [(0, .ref (G.2.1 0)), (1, .int v1), (2, .int v2), (3, .int v3)] := hl
  have J30 : ∀ (M : fm_M) (v1 : Int32) (v2 : Int32) (v3 : Int32) (s0 : Int32) (H : Heap) (locs : List Loc) (ls : Array Slot), fm_Wd shC G M s H locs → lv_has ls 4 [(0, .ref (G.2.1 0)), (1, .int v1), (2, .int v2), (3, .int v3)] → tMicRow_turned_J30 N M v1 v2 v3 s0 = some M' → W p l e { frames := 7, cells := 1, slots := 6, locals := 126 } s m args below meth c H locs 0 0 (fm_ZX below shC G args s M') (F0 m 30 ls [.int s0]) := by
    intro M v1 v2 v3 s0 H locs ls E hl hf
    unfold tMicRow_turned_J30 at hf
    rcases fm_io hf with ⟨hd30, hf⟩ | ⟨hd30, hf⟩
    · obtain rfl := fm_rt1 hf
      exact fm_xcallS hout C E [.int _] [] (fm_wd 973 (by decide +kernel) (by decide +kernel)) lm_X9_137 wk_X9_demand (cx_MicRow_demand l hfl shC G _ _ hd30) rfl hl.1 (by simp [Value.category]) ⟨⟨rfl, rfl⟩, by decide, by decide⟩ ⟨by decide, by decide⟩ dX9_turned_30 rfl
    refine fm_callS C E [.int _] [] lm_X9_137 wk_X9_demand (c_MicRow_demand l G _ _ (by unfold pMicRow_demand; exact if_neg hd30)) rfl hl.1 (by simp [Value.category]) ⟨⟨rfl, rfl⟩, by decide, by decide⟩ ⟨by decide, by decide⟩ dX9_turned_30 rfl (fun H locs E => ?_)
    refine W.eq (g2 := F0 m 33 ls []) rfl ?_
    refine lv_aload_n C.1 C.2.1 dX9_turned_33 rfl (lv_at hl 0 rfl) ?_
    refine fm_getr C E lf_X9_62 hC_0 rfl dX9_turned_34 ?_
    refine lv_iconst (v := (-1)) C.1 C.2.1 dX9_turned_37 (by decide) ?_
    obtain ⟨M38, hc38, hf⟩ := fm_bd hf
    refine fm_callV C E [.int _] [] lm_X9_150 wk_X3_listenTo (c_Ears_listenTo l G _ _ _ hc38) hC_178 rfl rfl rfl hl.1 (by simp [Value.category]) ⟨⟨rfl, rfl⟩, by decide, by decide⟩ ⟨by decide, by decide⟩ dX9_turned_38 rfl (fun H locs E => ?_)
    refine W.eq (g2 := F0 m 41 ls []) rfl ?_
    refine lv_aload_n C.1 C.2.1 dX9_turned_41 rfl (lv_at hl 0 rfl) ?_
    refine fm_getr C E lf_X9_71 hC_0 rfl dX9_turned_42 ?_
    refine lv_iload_n C.1 C.2.1 dX9_turned_45 rfl (lv_at hl 2 rfl) ?_
    refine lv_iload_n C.1 C.2.1 dX9_turned_46 rfl (lv_at hl 3 rfl) ?_
    refine lv_iconst (v := 1) C.1 C.2.1 dX9_turned_47 (by decide) ?_
    obtain ⟨M48, hc48, hf⟩ := fm_bd hf
    refine fm_callV C E [.int _, .int _, .int _] [] lm_X9_163 wk_X0_turnTo (c_Bench_turnTo l G N _ _ _ _ _ hc48) hC_181 rfl rfl rfl hl.1 (by simp [Value.category]) ⟨⟨rfl, rfl⟩, by decide, by decide⟩ ⟨by decide, by decide⟩ dX9_turned_48 rfl (fun H locs E => ?_)
    refine W.eq (g2 := F0 m 51 ls []) rfl ?_
    refine lv_aload_n C.1 C.2.1 dX9_turned_51 rfl (lv_at hl 0 rfl) ?_
    refine fm_getr C E lf_X9_71 hC_0 rfl dX9_turned_52 ?_
    refine lv_iload_n C.1 C.2.1 dX9_turned_55 rfl (lv_at hl 1 rfl) ?_
    obtain ⟨x56, hc56, hf⟩ := fm_bd hf
    refine fm_callV C E [.int _] [] lm_X9_167 wk_X0_turnedRow (c_Bench_turnedRow l G _ _ _  hc56) hC_181 rfl rfl rfl hl.1 (by simp [Value.category]) ⟨⟨rfl, rfl⟩, by decide, by decide⟩ ⟨by decide, by decide⟩ dX9_turned_56 rfl (fun H locs E => ?_)
    refine W.eq (g2 := F0 m 59 ls (.ref (G.2.1 x56) :: [])) rfl ?_
    refine lv_iconst (v := 0) C.1 C.2.1 dX9_turned_59 (by decide) ?_
    obtain ⟨h60, x60, e60, hf⟩ := fm_ld_e hf
    obtain ⟨_, hk60⟩ := fm_n_at h60
    refine fm_iald' C E e60 hk60 h60 dX9_turned_60 ?_
    cases hf
  have J29 : ∀ (M : fm_M) (v1 : Int32) (v2 : Int32) (v3 : Int32) (H : Heap) (locs : List Loc) (ls : Array Slot), fm_Wd shC G M s H locs → lv_has ls 4 [(0, .ref (G.2.1 0)), (1, .int v1), (2, .int v2), (3, .int v3)] → tMicRow_turned_J29 N M v1 v2 v3 = some M' → W p l e { frames := 7, cells := 1, slots := 6, locals := 126 } s m args below meth c H locs 0 0 (fm_ZX below shC G args s M') (F0 m 29 ls []) := by
    intro M v1 v2 v3 H locs ls E hl hf
    unfold tMicRow_turned_J29 at hf
    refine lv_iconst (v := 0) C.1 C.2.1 dX9_turned_29 (by decide) ?_
    exact J30 _ _ _ _ _ _ _ _ E (lv_sub hl [0, 1, 2, 3] rfl) hf
  unfold tMicRow_turned at hf
  refine lv_aload_n C.1 C.2.1 dX9_turned_0 rfl (lv_at hl 0 rfl) ?_
  refine fm_getr C E lf_X9_10 hC_0 rfl dX9_turned_1 ?_
  refine lv_iload_n C.1 C.2.1 dX9_turned_4 rfl (lv_at hl 1 rfl) ?_
  obtain ⟨x5, hc5, hf⟩ := fm_bd hf
  refine fm_callV C E [.int _] [] lm_X9_116 wk_X7_hasMic (c_Scene_hasMic l G _ _ _  hc5) hC_1 rfl rfl rfl hl.1 (by simp [Value.category]) ⟨⟨rfl, rfl⟩, by decide, by decide⟩ ⟨by decide, by decide⟩ dX9_turned_5 rfl (fun H locs E => ?_)
  refine W.eq (g2 := F0 m 8 ls (.int x5 :: [])) rfl ?_
  refine lv_if_eq (tgt := 29) C.1 C.2.1 dX9_turned_8 (by decide) (fun hc8 => ?_) (fun hc8 => ?_)
  · have hf := fm_ip hf hc8
    exact J29 _ _ _ _ _ _ _ E (lv_sub hl [0, 1, 2, 3] rfl) hf
  · have hf := fm_in' hf hc8
    refine lv_iload_n C.1 C.2.1 dX9_turned_11 rfl (lv_at hl 2 rfl) ?_
    obtain ⟨x12, hc12, hf⟩ := fm_bd hf
    refine fm_callS C E [.int _] [] lm_X9_157 wk_X9_isDirection (c_MicRow_isDirection l G _ _ _  hc12) rfl hl.1 (by simp [Value.category]) ⟨⟨rfl, rfl⟩, by decide, by decide⟩ ⟨by decide, by decide⟩ dX9_turned_12 rfl (fun H locs E => ?_)
    refine W.eq (g2 := F0 m 15 ls (.int x12 :: [])) rfl ?_
    refine lv_if_eq (tgt := 29) C.1 C.2.1 dX9_turned_15 (by decide) (fun hc15 => ?_) (fun hc15 => ?_)
    · have hf := fm_ip hf hc15
      exact J29 _ _ _ _ _ _ _ E (lv_sub hl [0, 1, 2, 3] rfl) hf
    · have hf := fm_in' hf hc15
      refine lv_iload_n C.1 C.2.1 dX9_turned_18 rfl (lv_at hl 3 rfl) ?_
      obtain ⟨x19, hc19, hf⟩ := fm_bd hf
      refine fm_callS C E [.int _] [] lm_X9_160 wk_X9_isTurnedTime (c_MicRow_isTurnedTime l G _ _ _  hc19) rfl hl.1 (by simp [Value.category]) ⟨⟨rfl, rfl⟩, by decide, by decide⟩ ⟨by decide, by decide⟩ dX9_turned_19 rfl (fun H locs E => ?_)
      refine W.eq (g2 := F0 m 22 ls (.int x19 :: [])) rfl ?_
      refine lv_if_eq (tgt := 29) C.1 C.2.1 dX9_turned_22 (by decide) (fun hc22 => ?_) (fun hc22 => ?_)
      · have hf := fm_ip hf hc22
        exact J29 _ _ _ _ _ _ _ E (lv_sub hl [0, 1, 2, 3] rfl) hf
      · have hf := fm_in' hf hc22
        refine lv_iconst (v := 1) C.1 C.2.1 dX9_turned_25 (by decide) ?_
        refine lv_goto (tgt := 30) C.1 C.2.1 dX9_turned_26 (by decide) ?_
        exact J30 _ _ _ _ _ _ _ _ E (lv_sub hl [0, 1, 2, 3] rfl) hf
set_option maxHeartbeats 4000000 in
set_option maxRecDepth 100000 in
theorem cx_MicRow_beam (l : Launch) (hfl : l.stackTraces = false) (G : fm_G) (N : Nat) (M : fm_M) (v1 : Int32) (v2 : Int32) (M' : fm_M) (hf : tMicRow_beam N M v1 v2 = some M') : fm_xMet l yX9_beam cX9_beam 3 (some .int) { frames := 7, cells := 1, slots := 6, locals := 126 } shC G [.ref (G.2.1 0), .int v1, .int v2] M M' := by
  refine fm_xenter (by decide) (Nat.le_of_ble_eq_true rfl) ?_
  intro p e s m args below meth c ls hout C E hl
  have hl : lv_has ls 3 [(0, .ref (G.2.1 0)), (1, .int v1), (2, .int v2)] := hl
  have J19 : ∀ (M : fm_M) (v1 : Int32) (v2 : Int32) (s0 : Int32) (H : Heap) (locs : List Loc) (ls : Array Slot), fm_Wd shC G M s H locs → lv_has ls 3 [(0, .ref (G.2.1 0)), (1, .int v1), (2, .int v2)] → tMicRow_beam_J19 N M v1 v2 s0 = some M' → W p l e { frames := 7, cells := 1, slots := 6, locals := 126 } s m args below meth c H locs 0 0 (fm_ZX below shC G args s M') (F0 m 19 ls [.int s0]) := by
    intro M v1 v2 s0 H locs ls E hl hf
    unfold tMicRow_beam_J19 at hf
    rcases fm_io hf with ⟨hd19, hf⟩ | ⟨hd19, hf⟩
    · obtain rfl := fm_rt1 hf
      exact fm_xcallS hout C E [.int _] [] (fm_wd 973 (by decide +kernel) (by decide +kernel)) lm_X9_137 wk_X9_demand (cx_MicRow_demand l hfl shC G _ _ hd19) rfl hl.1 (by simp [Value.category]) ⟨⟨rfl, rfl⟩, by decide, by decide⟩ ⟨by decide, by decide⟩ dX9_beam_19 rfl
    refine fm_callS C E [.int _] [] lm_X9_137 wk_X9_demand (c_MicRow_demand l G _ _ (by unfold pMicRow_demand; exact if_neg hd19)) rfl hl.1 (by simp [Value.category]) ⟨⟨rfl, rfl⟩, by decide, by decide⟩ ⟨by decide, by decide⟩ dX9_beam_19 rfl (fun H locs E => ?_)
    refine W.eq (g2 := F0 m 22 ls []) rfl ?_
    refine lv_aload_n C.1 C.2.1 dX9_beam_22 rfl (lv_at hl 0 rfl) ?_
    refine fm_getr C E lf_X9_62 hC_0 rfl dX9_beam_23 ?_
    refine lv_iconst (v := (-1)) C.1 C.2.1 dX9_beam_26 (by decide) ?_
    obtain ⟨M27, hc27, hf⟩ := fm_bd hf
    refine fm_callV C E [.int _] [] lm_X9_150 wk_X3_listenTo (c_Ears_listenTo l G _ _ _ hc27) hC_178 rfl rfl rfl hl.1 (by simp [Value.category]) ⟨⟨rfl, rfl⟩, by decide, by decide⟩ ⟨by decide, by decide⟩ dX9_beam_27 rfl (fun H locs E => ?_)
    refine W.eq (g2 := F0 m 30 ls []) rfl ?_
    refine lv_aload_n C.1 C.2.1 dX9_beam_30 rfl (lv_at hl 0 rfl) ?_
    refine fm_getr C E lf_X9_71 hC_0 rfl dX9_beam_31 ?_
    refine lv_iload_n C.1 C.2.1 dX9_beam_34 rfl (lv_at hl 1 rfl) ?_
    refine lv_iload_n C.1 C.2.1 dX9_beam_35 rfl (lv_at hl 2 rfl) ?_
    refine lv_iconst (v := 1) C.1 C.2.1 dX9_beam_36 (by decide) ?_
    obtain ⟨M37, hc37, hf⟩ := fm_bd hf
    refine fm_callV C E [.int _, .int _, .int _] [] lm_X9_163 wk_X0_turnTo (c_Bench_turnTo l G N _ _ _ _ _ hc37) hC_181 rfl rfl rfl hl.1 (by simp [Value.category]) ⟨⟨rfl, rfl⟩, by decide, by decide⟩ ⟨by decide, by decide⟩ dX9_beam_37 rfl (fun H locs E => ?_)
    refine W.eq (g2 := F0 m 40 ls []) rfl ?_
    refine lv_aload_n C.1 C.2.1 dX9_beam_40 rfl (lv_at hl 0 rfl) ?_
    refine fm_getr C E lf_X9_71 hC_0 rfl dX9_beam_41 ?_
    refine lv_aload_n C.1 C.2.1 dX9_beam_44 rfl (lv_at hl 0 rfl) ?_
    refine fm_getr C E lf_X9_10 hC_0 rfl dX9_beam_45 ?_
    obtain ⟨x48, hc48, hf⟩ := fm_bd hf
    refine fm_callV C E [] [.ref _] lm_X9_171 wk_X7_liveSet (c_Scene_liveSet l G N _ _  hc48) hC_1 rfl rfl rfl hl.1 (by simp [Value.category]) ⟨⟨rfl, rfl⟩, by decide, by decide⟩ ⟨by decide, by decide⟩ dX9_beam_48 rfl (fun H locs E => ?_)
    refine W.eq (g2 := F0 m 51 ls (.int x48 :: [.ref _])) rfl ?_
    obtain ⟨M51, hc51, hf⟩ := fm_bd hf
    refine fm_callV C E [.int _] [] lm_X9_175 wk_X0_mix (c_Bench_mix l G N _ _ _ hc51) hC_181 rfl rfl rfl hl.1 (by simp [Value.category]) ⟨⟨rfl, rfl⟩, by decide, by decide⟩ ⟨by decide, by decide⟩ dX9_beam_51 rfl (fun H locs E => ?_)
    refine W.eq (g2 := F0 m 54 ls []) rfl ?_
    refine lv_aload_n C.1 C.2.1 dX9_beam_54 rfl (lv_at hl 0 rfl) ?_
    refine fm_getr C E lf_X9_71 hC_0 rfl dX9_beam_55 ?_
    refine fm_getr C E lf_X9_178 hC_181 rfl dX9_beam_58 ?_
    refine lv_iconst (v := 0) C.1 C.2.1 dX9_beam_61 (by decide) ?_
    refine fm_ialdc C E 0 (by decide) hC_190 (by decide) dX9_beam_62 ?_
    cases hf
  have J18 : ∀ (M : fm_M) (v1 : Int32) (v2 : Int32) (H : Heap) (locs : List Loc) (ls : Array Slot), fm_Wd shC G M s H locs → lv_has ls 3 [(0, .ref (G.2.1 0)), (1, .int v1), (2, .int v2)] → tMicRow_beam_J18 N M v1 v2 = some M' → W p l e { frames := 7, cells := 1, slots := 6, locals := 126 } s m args below meth c H locs 0 0 (fm_ZX below shC G args s M') (F0 m 18 ls []) := by
    intro M v1 v2 H locs ls E hl hf
    unfold tMicRow_beam_J18 at hf
    refine lv_iconst (v := 0) C.1 C.2.1 dX9_beam_18 (by decide) ?_
    exact J19 _ _ _ _ _ _ _ E (lv_sub hl [0, 1, 2] rfl) hf
  unfold tMicRow_beam at hf
  refine lv_iload_n C.1 C.2.1 dX9_beam_0 rfl (lv_at hl 1 rfl) ?_
  obtain ⟨x1, hc1, hf⟩ := fm_bd hf
  refine fm_callS C E [.int _] [] lm_X9_157 wk_X9_isDirection (c_MicRow_isDirection l G _ _ _  hc1) rfl hl.1 (by simp [Value.category]) ⟨⟨rfl, rfl⟩, by decide, by decide⟩ ⟨by decide, by decide⟩ dX9_beam_1 rfl (fun H locs E => ?_)
  refine W.eq (g2 := F0 m 4 ls (.int x1 :: [])) rfl ?_
  refine lv_if_eq (tgt := 18) C.1 C.2.1 dX9_beam_4 (by decide) (fun hc4 => ?_) (fun hc4 => ?_)
  · have hf := fm_ip hf hc4
    exact J18 _ _ _ _ _ _ E (lv_sub hl [0, 1, 2] rfl) hf
  · have hf := fm_in' hf hc4
    refine lv_iload_n C.1 C.2.1 dX9_beam_7 rfl (lv_at hl 2 rfl) ?_
    obtain ⟨x8, hc8, hf⟩ := fm_bd hf
    refine fm_callS C E [.int _] [] lm_X9_160 wk_X9_isTurnedTime (c_MicRow_isTurnedTime l G _ _ _  hc8) rfl hl.1 (by simp [Value.category]) ⟨⟨rfl, rfl⟩, by decide, by decide⟩ ⟨by decide, by decide⟩ dX9_beam_8 rfl (fun H locs E => ?_)
    refine W.eq (g2 := F0 m 11 ls (.int x8 :: [])) rfl ?_
    refine lv_if_eq (tgt := 18) C.1 C.2.1 dX9_beam_11 (by decide) (fun hc11 => ?_) (fun hc11 => ?_)
    · have hf := fm_ip hf hc11
      exact J18 _ _ _ _ _ _ E (lv_sub hl [0, 1, 2] rfl) hf
    · have hf := fm_in' hf hc11
      refine lv_iconst (v := 1) C.1 C.2.1 dX9_beam_14 (by decide) ?_
      refine lv_goto (tgt := 19) C.1 C.2.1 dX9_beam_15 (by decide) ?_
      exact J19 _ _ _ _ _ _ _ E (lv_sub hl [0, 1, 2] rfl) hf
set_option maxHeartbeats 4000000 in
set_option maxRecDepth 100000 in
theorem cx_MicRow_blocked (l : Launch) (hfl : l.stackTraces = false) (G : fm_G) (N : Nat) (M : fm_M) (v1 : Int32) (v2 : Int32) (v3 : Int32) (M' : fm_M) (hf : tMicRow_blocked N M v1 v2 v3 = some M') : fm_xMet l yX9_blocked cX9_blocked 4 (some .int) { frames := 7, cells := 1, slots := 6, locals := 126 } shC G [.ref (G.2.1 0), .int v1, .int v2, .int v3] M M' := by
  refine fm_xenter (by decide) (Nat.le_of_ble_eq_true rfl) ?_
  intro p e s m args below meth c ls hout C E hl
  have hl : lv_has ls 4 [(0, .ref (G.2.1 0)), (1, .int v1), (2, .int v2), (3, .int v3)] := hl
  have J74 : ∀ (M : fm_M) (v2 : Int32) (s0 : Int32) (H : Heap) (locs : List Loc) (ls : Array Slot), fm_Wd shC G M s H locs → lv_has ls 4 [(0, .ref (G.2.1 0)), (2, .int v2)] → tMicRow_blocked_J74 N M v2 s0 = some M' → W p l e { frames := 7, cells := 1, slots := 6, locals := 126 } s m args below meth c H locs 0 0 (fm_ZX below shC G args s M') (F0 m 74 ls [.int s0]) := by
    intro M v2 s0 H locs ls E hl hf
    unfold tMicRow_blocked_J74 at hf
    rcases fm_io hf with ⟨hd74, hf⟩ | ⟨hd74, hf⟩
    · obtain rfl := fm_rt1 hf
      exact fm_xcallS hout C E [.int _] [] (fm_wd 973 (by decide +kernel) (by decide +kernel)) lm_X9_137 wk_X9_demand (cx_MicRow_demand l hfl shC G _ _ hd74) rfl hl.1 (by simp [Value.category]) ⟨⟨rfl, rfl⟩, by decide, by decide⟩ ⟨by decide, by decide⟩ dX9_blocked_74 rfl
    refine fm_callS C E [.int _] [] lm_X9_137 wk_X9_demand (c_MicRow_demand l G _ _ (by unfold pMicRow_demand; exact if_neg hd74)) rfl hl.1 (by simp [Value.category]) ⟨⟨rfl, rfl⟩, by decide, by decide⟩ ⟨by decide, by decide⟩ dX9_blocked_74 rfl (fun H locs E => ?_)
    refine W.eq (g2 := F0 m 77 ls []) rfl ?_
    refine lv_aload_n C.1 C.2.1 dX9_blocked_77 rfl (lv_at hl 0 rfl) ?_
    refine fm_getr C E lf_X9_71 hC_0 rfl dX9_blocked_78 ?_
    refine fm_getr C E lf_X9_188 hC_181 rfl dX9_blocked_81 ?_
    refine lv_iload_n C.1 C.2.1 dX9_blocked_84 rfl (lv_at hl 1 rfl) ?_
    obtain ⟨q85, h85, k85, e85, hf⟩ := fm_ix_t tC_192 hf
    refine fm_aald C E hC_191 h85 (r := q85) (by rw [e85]; exact rC_192 _ (fm_in_lt h85)) dX9_blocked_85 ?_
    refine lv_iconst (v := 0) C.1 C.2.1 dX9_blocked_86 (by decide) ?_
    refine fm_ialdc C E 0 (by decide) k85 (by decide) dX9_blocked_87 ?_
    cases hf
  have J73 : ∀ (M : fm_M) (v2 : Int32) (H : Heap) (locs : List Loc) (ls : Array Slot), fm_Wd shC G M s H locs → lv_has ls 4 [(0, .ref (G.2.1 0)), (2, .int v2)] → tMicRow_blocked_J73 N M v2 = some M' → W p l e { frames := 7, cells := 1, slots := 6, locals := 126 } s m args below meth c H locs 0 0 (fm_ZX below shC G args s M') (F0 m 73 ls []) := by
    intro M v2 H locs ls E hl hf
    unfold tMicRow_blocked_J73 at hf
    refine lv_iconst (v := 0) C.1 C.2.1 dX9_blocked_73 (by decide) ?_
    exact J74 _ _ _ _ _ _ E (lv_sub hl [0, 1] rfl) hf
  have J19 : ∀ (M : fm_M) (v1 : Int32) (v2 : Int32) (v3 : Int32) (s0 : Int32) (H : Heap) (locs : List Loc) (ls : Array Slot), fm_Wd shC G M s H locs → lv_has ls 4 [(0, .ref (G.2.1 0)), (1, .int v1), (2, .int v2), (3, .int v3)] → tMicRow_blocked_J19 N M v1 v2 v3 s0 = some M' → W p l e { frames := 7, cells := 1, slots := 6, locals := 126 } s m args below meth c H locs 0 0 (fm_ZX below shC G args s M') (F0 m 19 ls [.int s0]) := by
    intro M v1 v2 v3 s0 H locs ls E hl hf
    unfold tMicRow_blocked_J19 at hf
    rcases fm_io hf with ⟨hd19, hf⟩ | ⟨hd19, hf⟩
    · obtain rfl := fm_rt1 hf
      exact fm_xcallS hout C E [.int _] [] (fm_wd 973 (by decide +kernel) (by decide +kernel)) lm_X9_137 wk_X9_demand (cx_MicRow_demand l hfl shC G _ _ hd19) rfl hl.1 (by simp [Value.category]) ⟨⟨rfl, rfl⟩, by decide, by decide⟩ ⟨by decide, by decide⟩ dX9_blocked_19 rfl
    refine fm_callS C E [.int _] [] lm_X9_137 wk_X9_demand (c_MicRow_demand l G _ _ (by unfold pMicRow_demand; exact if_neg hd19)) rfl hl.1 (by simp [Value.category]) ⟨⟨rfl, rfl⟩, by decide, by decide⟩ ⟨by decide, by decide⟩ dX9_blocked_19 rfl (fun H locs E => ?_)
    refine W.eq (g2 := F0 m 22 ls []) rfl ?_
    refine lv_aload_n C.1 C.2.1 dX9_blocked_22 rfl (lv_at hl 0 rfl) ?_
    refine fm_getr C E lf_X9_62 hC_0 rfl dX9_blocked_23 ?_
    refine lv_iconst (v := (-1)) C.1 C.2.1 dX9_blocked_26 (by decide) ?_
    obtain ⟨M27, hc27, hf⟩ := fm_bd hf
    refine fm_callV C E [.int _] [] lm_X9_150 wk_X3_listenTo (c_Ears_listenTo l G _ _ _ hc27) hC_178 rfl rfl rfl hl.1 (by simp [Value.category]) ⟨⟨rfl, rfl⟩, by decide, by decide⟩ ⟨by decide, by decide⟩ dX9_blocked_27 rfl (fun H locs E => ?_)
    refine W.eq (g2 := F0 m 30 ls []) rfl ?_
    refine lv_aload_n C.1 C.2.1 dX9_blocked_30 rfl (lv_at hl 0 rfl) ?_
    refine fm_getr C E lf_X9_71 hC_0 rfl dX9_blocked_31 ?_
    refine lv_iload_n C.1 C.2.1 dX9_blocked_34 rfl (lv_at hl 1 rfl) ?_
    refine lv_iload_n C.1 C.2.1 dX9_blocked_35 rfl (lv_at hl 3 rfl) ?_
    refine lv_iconst (v := 1) C.1 C.2.1 dX9_blocked_36 (by decide) ?_
    obtain ⟨M37, hc37, hf⟩ := fm_bd hf
    refine fm_callV C E [.int _, .int _, .int _] [] lm_X9_163 wk_X0_turnTo (c_Bench_turnTo l G N _ _ _ _ _ hc37) hC_181 rfl rfl rfl hl.1 (by simp [Value.category]) ⟨⟨rfl, rfl⟩, by decide, by decide⟩ ⟨by decide, by decide⟩ dX9_blocked_37 rfl (fun H locs E => ?_)
    refine W.eq (g2 := F0 m 40 ls []) rfl ?_
    refine lv_aload_n C.1 C.2.1 dX9_blocked_40 rfl (lv_at hl 0 rfl) ?_
    refine fm_getr C E lf_X9_71 hC_0 rfl dX9_blocked_41 ?_
    refine lv_aload_n C.1 C.2.1 dX9_blocked_44 rfl (lv_at hl 0 rfl) ?_
    refine fm_getr C E lf_X9_10 hC_0 rfl dX9_blocked_45 ?_
    obtain ⟨x48, hc48, hf⟩ := fm_bd hf
    refine fm_callV C E [] [.ref _] lm_X9_171 wk_X7_liveSet (c_Scene_liveSet l G N _ _  hc48) hC_1 rfl rfl rfl hl.1 (by simp [Value.category]) ⟨⟨rfl, rfl⟩, by decide, by decide⟩ ⟨by decide, by decide⟩ dX9_blocked_48 rfl (fun H locs E => ?_)
    refine W.eq (g2 := F0 m 51 ls (.int x48 :: [.ref _])) rfl ?_
    obtain ⟨M51, hc51, hf⟩ := fm_bd hf
    refine fm_callV C E [.int _] [] lm_X9_181 wk_X0_block (c_Bench_block l G N _ _ _ hc51) hC_181 rfl rfl rfl hl.1 (by simp [Value.category]) ⟨⟨rfl, rfl⟩, by decide, by decide⟩ ⟨by decide, by decide⟩ dX9_blocked_51 rfl (fun H locs E => ?_)
    refine W.eq (g2 := F0 m 54 ls []) rfl ?_
    refine lv_iload_n C.1 C.2.1 dX9_blocked_54 rfl (lv_at hl 2 rfl) ?_
    refine lv_if_lt (tgt := 73) C.1 C.2.1 dX9_blocked_55 (by decide) (fun hc55 => ?_) (fun hc55 => ?_)
    · have hf := fm_ip hf hc55
      exact J73 _ _ _ _ _ E (lv_sub hl [0, 2] rfl) hf
    · have hf := fm_in' hf hc55
      refine lv_iload_n C.1 C.2.1 dX9_blocked_58 rfl (lv_at hl 2 rfl) ?_
      refine lv_aload_n C.1 C.2.1 dX9_blocked_59 rfl (lv_at hl 0 rfl) ?_
      refine fm_getr C E lf_X9_71 hC_0 rfl dX9_blocked_60 ?_
      refine fm_geti C E lf_X9_184 hC_181 rfl dX9_blocked_63 ?_
      refine lv_icmp_ge (tgt := 73) C.1 C.2.1 dX9_blocked_66 (by decide) (fun hc66 => ?_) (fun hc66 => ?_)
      · have hf := fm_ip hf hc66
        exact J73 _ _ _ _ _ E (lv_sub hl [0, 2] rfl) hf
      · have hf := fm_in' hf hc66
        refine lv_iconst (v := 1) C.1 C.2.1 dX9_blocked_69 (by decide) ?_
        refine lv_goto (tgt := 74) C.1 C.2.1 dX9_blocked_70 (by decide) ?_
        exact J74 _ _ _ _ _ _ E (lv_sub hl [0, 2] rfl) hf
  have J18 : ∀ (M : fm_M) (v1 : Int32) (v2 : Int32) (v3 : Int32) (H : Heap) (locs : List Loc) (ls : Array Slot), fm_Wd shC G M s H locs → lv_has ls 4 [(0, .ref (G.2.1 0)), (1, .int v1), (2, .int v2), (3, .int v3)] → tMicRow_blocked_J18 N M v1 v2 v3 = some M' → W p l e { frames := 7, cells := 1, slots := 6, locals := 126 } s m args below meth c H locs 0 0 (fm_ZX below shC G args s M') (F0 m 18 ls []) := by
    intro M v1 v2 v3 H locs ls E hl hf
    unfold tMicRow_blocked_J18 at hf
    refine lv_iconst (v := 0) C.1 C.2.1 dX9_blocked_18 (by decide) ?_
    exact J19 _ _ _ _ _ _ _ _ E (lv_sub hl [0, 1, 2, 3] rfl) hf
  unfold tMicRow_blocked at hf
  refine lv_iload_n C.1 C.2.1 dX9_blocked_0 rfl (lv_at hl 1 rfl) ?_
  obtain ⟨x1, hc1, hf⟩ := fm_bd hf
  refine fm_callS C E [.int _] [] lm_X9_157 wk_X9_isDirection (c_MicRow_isDirection l G _ _ _  hc1) rfl hl.1 (by simp [Value.category]) ⟨⟨rfl, rfl⟩, by decide, by decide⟩ ⟨by decide, by decide⟩ dX9_blocked_1 rfl (fun H locs E => ?_)
  refine W.eq (g2 := F0 m 4 ls (.int x1 :: [])) rfl ?_
  refine lv_if_eq (tgt := 18) C.1 C.2.1 dX9_blocked_4 (by decide) (fun hc4 => ?_) (fun hc4 => ?_)
  · have hf := fm_ip hf hc4
    exact J18 _ _ _ _ _ _ _ E (lv_sub hl [0, 1, 2, 3] rfl) hf
  · have hf := fm_in' hf hc4
    refine lv_iload_n C.1 C.2.1 dX9_blocked_7 rfl (lv_at hl 3 rfl) ?_
    obtain ⟨x8, hc8, hf⟩ := fm_bd hf
    refine fm_callS C E [.int _] [] lm_X9_160 wk_X9_isTurnedTime (c_MicRow_isTurnedTime l G _ _ _  hc8) rfl hl.1 (by simp [Value.category]) ⟨⟨rfl, rfl⟩, by decide, by decide⟩ ⟨by decide, by decide⟩ dX9_blocked_8 rfl (fun H locs E => ?_)
    refine W.eq (g2 := F0 m 11 ls (.int x8 :: [])) rfl ?_
    refine lv_if_eq (tgt := 18) C.1 C.2.1 dX9_blocked_11 (by decide) (fun hc11 => ?_) (fun hc11 => ?_)
    · have hf := fm_ip hf hc11
      exact J18 _ _ _ _ _ _ _ E (lv_sub hl [0, 1, 2, 3] rfl) hf
    · have hf := fm_in' hf hc11
      refine lv_iconst (v := 1) C.1 C.2.1 dX9_blocked_14 (by decide) ?_
      refine lv_goto (tgt := 19) C.1 C.2.1 dX9_blocked_15 (by decide) ?_
      exact J19 _ _ _ _ _ _ _ _ E (lv_sub hl [0, 1, 2, 3] rfl) hf
set_option maxHeartbeats 4000000 in
set_option maxRecDepth 100000 in
theorem cx_MicRow_clean (l : Launch) (hfl : l.stackTraces = false) (G : fm_G) (N : Nat) (M : fm_M) (v1 : Int32) (v2 : Int32) (M' : fm_M) (hf : tMicRow_clean N M v1 v2 = some M') : fm_xMet l yX9_clean cX9_clean 3 (some .int) { frames := 7, cells := 1, slots := 6, locals := 168 } shC G [.ref (G.2.1 0), .int v1, .int v2] M M' := by
  refine fm_xenter (by decide) (Nat.le_of_ble_eq_true rfl) ?_
  intro p e s m args below meth c ls hout C E hl
  have hl : lv_has ls 3 [(0, .ref (G.2.1 0)), (1, .int v1), (2, .int v2)] := hl
  have J19 : ∀ (M : fm_M) (v1 : Int32) (v2 : Int32) (s0 : Int32) (H : Heap) (locs : List Loc) (ls : Array Slot), fm_Wd shC G M s H locs → lv_has ls 3 [(0, .ref (G.2.1 0)), (1, .int v1), (2, .int v2)] → tMicRow_clean_J19 N M v1 v2 s0 = some M' → W p l e { frames := 7, cells := 1, slots := 6, locals := 168 } s m args below meth c H locs 0 0 (fm_ZX below shC G args s M') (F0 m 19 ls [.int s0]) := by
    intro M v1 v2 s0 H locs ls E hl hf
    unfold tMicRow_clean_J19 at hf
    rcases fm_io hf with ⟨hd19, hf⟩ | ⟨hd19, hf⟩
    · obtain rfl := fm_rt1 hf
      exact fm_xcallS hout C E [.int _] [] (fm_wd 973 (by decide +kernel) (by decide +kernel)) lm_X9_137 wk_X9_demand (cx_MicRow_demand l hfl shC G _ _ hd19) rfl hl.1 (by simp [Value.category]) ⟨⟨rfl, rfl⟩, by decide, by decide⟩ ⟨by decide, by decide⟩ dX9_clean_19 rfl
    refine fm_callS C E [.int _] [] lm_X9_137 wk_X9_demand (c_MicRow_demand l G _ _ (by unfold pMicRow_demand; exact if_neg hd19)) rfl hl.1 (by simp [Value.category]) ⟨⟨rfl, rfl⟩, by decide, by decide⟩ ⟨by decide, by decide⟩ dX9_clean_19 rfl (fun H locs E => ?_)
    refine W.eq (g2 := F0 m 22 ls []) rfl ?_
    refine lv_aload_n C.1 C.2.1 dX9_clean_22 rfl (lv_at hl 0 rfl) ?_
    refine fm_getr C E lf_X9_62 hC_0 rfl dX9_clean_23 ?_
    refine lv_iconst (v := (-1)) C.1 C.2.1 dX9_clean_26 (by decide) ?_
    obtain ⟨M27, hc27, hf⟩ := fm_bd hf
    refine fm_callV C E [.int _] [] lm_X9_150 wk_X3_listenTo (c_Ears_listenTo l G _ _ _ hc27) hC_178 rfl rfl rfl hl.1 (by simp [Value.category]) ⟨⟨rfl, rfl⟩, by decide, by decide⟩ ⟨by decide, by decide⟩ dX9_clean_27 rfl (fun H locs E => ?_)
    refine W.eq (g2 := F0 m 30 ls []) rfl ?_
    refine lv_aload_n C.1 C.2.1 dX9_clean_30 rfl (lv_at hl 0 rfl) ?_
    refine lv_iload_n C.1 C.2.1 dX9_clean_31 rfl (lv_at hl 1 rfl) ?_
    obtain ⟨M32, hc32, hf⟩ := fm_bd hf
    refine fm_callV C E [.int _] [] lm_X9_192 wk_X9_learnWeights (c_MicRow_learnWeights l G N _ _ _ hc32) hC_0 rfl rfl rfl hl.1 (by simp [Value.category]) ⟨⟨rfl, rfl⟩, by decide, by decide⟩ ⟨by decide, by decide⟩ dX9_clean_32 rfl (fun H locs E => ?_)
    refine W.eq (g2 := F0 m 35 ls []) rfl ?_
    refine lv_aload_n C.1 C.2.1 dX9_clean_35 rfl (lv_at hl 0 rfl) ?_
    refine fm_getr C E lf_X9_71 hC_0 rfl dX9_clean_36 ?_
    refine lv_iload_n C.1 C.2.1 dX9_clean_39 rfl (lv_at hl 1 rfl) ?_
    refine lv_iload_n C.1 C.2.1 dX9_clean_40 rfl (lv_at hl 2 rfl) ?_
    refine lv_iconst (v := 1) C.1 C.2.1 dX9_clean_41 (by decide) ?_
    obtain ⟨M42, hc42, hf⟩ := fm_bd hf
    refine fm_callV C E [.int _, .int _, .int _] [] lm_X9_163 wk_X0_turnTo (c_Bench_turnTo l G N _ _ _ _ _ hc42) hC_181 rfl rfl rfl hl.1 (by simp [Value.category]) ⟨⟨rfl, rfl⟩, by decide, by decide⟩ ⟨by decide, by decide⟩ dX9_clean_42 rfl (fun H locs E => ?_)
    refine W.eq (g2 := F0 m 45 ls []) rfl ?_
    refine lv_aload_n C.1 C.2.1 dX9_clean_45 rfl (lv_at hl 0 rfl) ?_
    refine fm_getr C E lf_X9_71 hC_0 rfl dX9_clean_46 ?_
    refine lv_aload_n C.1 C.2.1 dX9_clean_49 rfl (lv_at hl 0 rfl) ?_
    refine fm_getr C E lf_X9_10 hC_0 rfl dX9_clean_50 ?_
    obtain ⟨x53, hc53, hf⟩ := fm_bd hf
    refine fm_callV C E [] [.ref _] lm_X9_171 wk_X7_liveSet (c_Scene_liveSet l G N _ _  hc53) hC_1 rfl rfl rfl hl.1 (by simp [Value.category]) ⟨⟨rfl, rfl⟩, by decide, by decide⟩ ⟨by decide, by decide⟩ dX9_clean_53 rfl (fun H locs E => ?_)
    refine W.eq (g2 := F0 m 56 ls (.int x53 :: [.ref _])) rfl ?_
    obtain ⟨M56, hc56, hf⟩ := fm_bd hf
    refine fm_callV C E [.int _] [] lm_X9_175 wk_X0_mix (c_Bench_mix l G N _ _ _ hc56) hC_181 rfl rfl rfl hl.1 (by simp [Value.category]) ⟨⟨rfl, rfl⟩, by decide, by decide⟩ ⟨by decide, by decide⟩ dX9_clean_56 rfl (fun H locs E => ?_)
    refine W.eq (g2 := F0 m 59 ls []) rfl ?_
    refine lv_aload_n C.1 C.2.1 dX9_clean_59 rfl (lv_at hl 0 rfl) ?_
    refine fm_getr C E lf_X9_71 hC_0 rfl dX9_clean_60 ?_
    refine lv_aload_n C.1 C.2.1 dX9_clean_63 rfl (lv_at hl 0 rfl) ?_
    refine fm_getr C E lf_X9_10 hC_0 rfl dX9_clean_64 ?_
    obtain ⟨x67, hc67, hf⟩ := fm_bd hf
    refine fm_callV C E [] [.ref _] lm_X9_171 wk_X7_liveSet (c_Scene_liveSet l G N _ _  hc67) hC_1 rfl rfl rfl hl.1 (by simp [Value.category]) ⟨⟨rfl, rfl⟩, by decide, by decide⟩ ⟨by decide, by decide⟩ dX9_clean_67 rfl (fun H locs E => ?_)
    refine W.eq (g2 := F0 m 70 ls (.int x67 :: [.ref _])) rfl ?_
    obtain ⟨M70, hc70, hf⟩ := fm_bd hf
    refine fm_callV C E [.int _] [] lm_X9_181 wk_X0_block (c_Bench_block l G N _ _ _ hc70) hC_181 rfl rfl rfl hl.1 (by simp [Value.category]) ⟨⟨rfl, rfl⟩, by decide, by decide⟩ ⟨by decide, by decide⟩ dX9_clean_70 rfl (fun H locs E => ?_)
    refine W.eq (g2 := F0 m 73 ls []) rfl ?_
    refine lv_aload_n C.1 C.2.1 dX9_clean_73 rfl (lv_at hl 0 rfl) ?_
    refine fm_getr C E lf_X9_71 hC_0 rfl dX9_clean_74 ?_
    obtain ⟨M77, hc77, hf⟩ := fm_bd hf
    refine fm_callV C E [] [] lm_X9_195 wk_X0_takeOff (c_Bench_takeOff l G N _ _ hc77) hC_181 rfl rfl rfl hl.1 (by simp [Value.category]) ⟨⟨rfl, rfl⟩, by decide, by decide⟩ ⟨by decide, by decide⟩ dX9_clean_77 rfl (fun H locs E => ?_)
    refine W.eq (g2 := F0 m 80 ls []) rfl ?_
    refine lv_aload_n C.1 C.2.1 dX9_clean_80 rfl (lv_at hl 0 rfl) ?_
    refine fm_getr C E lf_X9_71 hC_0 rfl dX9_clean_81 ?_
    refine fm_getr C E lf_X9_198 hC_181 rfl dX9_clean_84 ?_
    refine lv_iconst (v := 0) C.1 C.2.1 dX9_clean_87 (by decide) ?_
    refine fm_ialdc C E 0 (by decide) hC_197 (by decide) dX9_clean_88 ?_
    cases hf
  have J18 : ∀ (M : fm_M) (v1 : Int32) (v2 : Int32) (H : Heap) (locs : List Loc) (ls : Array Slot), fm_Wd shC G M s H locs → lv_has ls 3 [(0, .ref (G.2.1 0)), (1, .int v1), (2, .int v2)] → tMicRow_clean_J18 N M v1 v2 = some M' → W p l e { frames := 7, cells := 1, slots := 6, locals := 168 } s m args below meth c H locs 0 0 (fm_ZX below shC G args s M') (F0 m 18 ls []) := by
    intro M v1 v2 H locs ls E hl hf
    unfold tMicRow_clean_J18 at hf
    refine lv_iconst (v := 0) C.1 C.2.1 dX9_clean_18 (by decide) ?_
    exact J19 _ _ _ _ _ _ _ E (lv_sub hl [0, 1, 2] rfl) hf
  unfold tMicRow_clean at hf
  refine lv_iload_n C.1 C.2.1 dX9_clean_0 rfl (lv_at hl 1 rfl) ?_
  obtain ⟨x1, hc1, hf⟩ := fm_bd hf
  refine fm_callS C E [.int _] [] lm_X9_157 wk_X9_isDirection (c_MicRow_isDirection l G _ _ _  hc1) rfl hl.1 (by simp [Value.category]) ⟨⟨rfl, rfl⟩, by decide, by decide⟩ ⟨by decide, by decide⟩ dX9_clean_1 rfl (fun H locs E => ?_)
  refine W.eq (g2 := F0 m 4 ls (.int x1 :: [])) rfl ?_
  refine lv_if_eq (tgt := 18) C.1 C.2.1 dX9_clean_4 (by decide) (fun hc4 => ?_) (fun hc4 => ?_)
  · have hf := fm_ip hf hc4
    exact J18 _ _ _ _ _ _ E (lv_sub hl [0, 1, 2] rfl) hf
  · have hf := fm_in' hf hc4
    refine lv_iload_n C.1 C.2.1 dX9_clean_7 rfl (lv_at hl 2 rfl) ?_
    obtain ⟨x8, hc8, hf⟩ := fm_bd hf
    refine fm_callS C E [.int _] [] lm_X9_160 wk_X9_isTurnedTime (c_MicRow_isTurnedTime l G _ _ _  hc8) rfl hl.1 (by simp [Value.category]) ⟨⟨rfl, rfl⟩, by decide, by decide⟩ ⟨by decide, by decide⟩ dX9_clean_8 rfl (fun H locs E => ?_)
    refine W.eq (g2 := F0 m 11 ls (.int x8 :: [])) rfl ?_
    refine lv_if_eq (tgt := 18) C.1 C.2.1 dX9_clean_11 (by decide) (fun hc11 => ?_) (fun hc11 => ?_)
    · have hf := fm_ip hf hc11
      exact J18 _ _ _ _ _ _ E (lv_sub hl [0, 1, 2] rfl) hf
    · have hf := fm_in' hf hc11
      refine lv_iconst (v := 1) C.1 C.2.1 dX9_clean_14 (by decide) ?_
      refine lv_goto (tgt := 19) C.1 C.2.1 dX9_clean_15 (by decide) ?_
      exact J19 _ _ _ _ _ _ _ E (lv_sub hl [0, 1, 2] rfl) hf
