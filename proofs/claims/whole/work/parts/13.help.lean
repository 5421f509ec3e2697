/-! ===== the law's helpers: try { out[0] = x.f(..) } catch (NoSuchElementException) { return 1 } return 0 ===== -/
def fm_hA (G : fm_G) (qo sz : Nat) : Nat → Prop := fun q => fm_A shC G sz q ∨ q = qo
def fm_out (G : fm_G) (qo : Nat) (f : Nat → Int64) (H : Heap) : Prop := H[qo]? = some (vp_cell (G.2.2.1 3) (1, .inr (.inl f)))
def fm_hpre (G : fm_G) (M : fm_M) (qo : Nat) (f : Nat → Int64) (sz : Nat) : State → Prop := fun U =>
  U.heap.size = sz ∧ va_P G.1 vwCl (fm_en shC G M) U.heap ∧ va_D (fun _ => True) (fm_en shC G M) ∧ fm_gv G (fm_hA G qo sz) U U.heap ∧ fm_out G qo f U.heap ∧ ∀ k, k < shC.length → G.2.1 k ≠ qo
def fm_hQ (r : Int32) (G : fm_G) (M : fm_M) (qo : Nat) (f : Nat → Int64) (A : Nat → Prop) : Array Value → State → Outcome → State → Prop := fun _ st oc t => (oc = .returned (some (.int r)) ∧ va_P G.1 vwCl (fm_en shC G M) t.heap ∧ fm_out G qo f t.heap) ∧ va_F A st t
abbrev fm_hh (y : MethodName) (cc : ByteArray) (maxL : Nat) (hh : List (Nat × Nat × Nat × Nat)) : Cond := .codeWith y cc maxL (some .int) hh
def fm_hMet (l : Launch) (y : MethodName) (cc : ByteArray) (maxL : Nat) (hh : List (Nat × Nat × Nat × Nat)) (rm : Room) (G : fm_G) (av : List Value) (M : fm_M) (qo : Nat) (f : Nat → Int64) (r : Int32) (M' : fm_M) (f' : Nat → Int64) : Prop :=
  ∀ sz : Nat, Met l y (fm_hh y cc maxL hh :: fm_TT) rm (va_Pc av (fm_hpre G M qo f sz)) (fm_hQ r G M' qo f' (fm_hA G qo sz)) 1 6 (fm_hA G qo sz)
def fm_hC (G : fm_G) (qo : Nat) (p : Program) (s : State) (m : MethodId) (args : Array Value) (meth : Method) (c : Code) (cc : ByteArray) (nL : Nat) (hh : List (Nat × Nat × Nat × Nat)) : Prop :=
  p.tables.exec = Jvm.exec ∧ c.code = cc ∧ c.maxLocals = nL ∧ s.vm.findClass "MicRowLaw" = some m.cls ∧ (∀ w ∈ fm_TT, w.before args s = true) ∧ meth.sig.returnType = some .int ∧ meth.locks = false ∧ fm_gv G (fm_hA G qo s.heap.size) s s.heap ∧ c.exceptionTable.toList = tableOf hh ∧ ∀ k, k < shC.length → G.2.1 k ≠ qo
def fm_hW (G : fm_G) (qo : Nat) (M : fm_M) (f : Nat → Int64) (s : State) (H : Heap) (locs : List Loc) : Prop :=
  va_P G.1 vwCl (fm_en shC G M) H ∧ va_D (fm_hA G qo s.heap.size) (fm_en shC G M) ∧ va_S (fm_hA G qo s.heap.size) s.heap H locs ∧ fm_out G qo f H
abbrev fm_hZ (below : List Frame) (G : fm_G) (qo : Nat) (args : Array Value) (s : State) (r : Int32) (M : fm_M) (f : Nat → Int64) : State → Prop := MQ below (fm_hQ r G M qo f (fm_hA G qo s.heap.size)) args s 1 6 (fm_hA G qo s.heap.size)
theorem fm_henter {l : Launch} {y : MethodName} {cc : ByteArray} {maxL : Nat} {hh : List (Nat × Nat × Nat × Nat)} {rm : Room} {G : fm_G} {av : List Value} {M : fm_M} {qo : Nat} {f : Nat → Int64} {r : Int32} {M' : fm_M} {f' : Nat → Int64} (hy : plainName y.cls = true) (hyc : y.cls = "MicRowLaw") (hlen : (lg_sl av).length ≤ maxL)
    (body : ∀ (p : Program) (e : Env) (s : State) (m : MethodId) (args : Array Value) (below : List Frame) (meth : Method) (c : Code) (ls : Array Slot), fm_hC G qo p s m args meth c cc maxL hh → fm_hW G qo M f s s.heap [] → lv_has ls maxL (lv_args 0 av) →
      W p l e rm s m args below meth c s.heap [] 0 0 (fm_hZ below G qo args s r M' f') (F0 m 0 ls [])) : fm_hMet l y cc maxL hh rm G av M qo f r M' f' := by
  intro sz
  refine va_MetW (cc := cc) (maxL := maxL) (ret := some .int) (hh := hh) hy rfl ?_
  intro p e s m args below meth c s₁ B hml hv
  obtain ⟨rfl, hsz, hP, hD0, hg, ho, hap⟩ := hv
  subst hsz
  have hts := atoms_spec (ws := fm_hh y cc maxL hh :: fm_TT) B.pre
  have hown : s.vm.findClass "MicRowLaw" = some m.cls := by rw [← hyc]; exact findClass_of_methodNamed B.named
  have htab := vx_table (x := y) B (hts _ List.mem_cons_self)
  have hl := lv_entry av (n := maxL) hlen
  rw [lg_entry_eq]
  exact body p e s m _ below meth c _ ⟨B.exec, B.bytes, hml, hown, fun w hw => hts w (List.mem_cons_of_mem _ hw), B.returns, B.notSynchronized, hg, htab, hap⟩ ⟨hP, fm_D_any hD0 (fun k hk => Or.inl (Or.inl ⟨k, hk, rfl⟩)), va_S.rf, ho⟩ hl
def va_E_oc (G : fm_G) (f : Nat → Int64) : va_E := .inl (G.2.2.1 3, 1, .inr (.inl f))
def fm_oc (G : fm_G) (qo : Nat) (f : Nat → Int64) : Nat × va_E := (qo, va_E_oc G f)
theorem fm_snoc_at {α : Type} (l : List α) (z : α) : (l ++ [z])[l.length]? = some z := by
  rw [List.getElem?_append_right (Nat.le_refl _), Nat.sub_self]
  rfl
section FMH
variable {p : Program} {l : Launch} {e : Env} {R : Room} {s : State} {m : MethodId} {args : Array Value} {below : List Frame} {meth : Method} {c : Code} {H : Heap} {locs : List Loc} {cells slots : Nat} {Q : State → Prop}
variable {cc : ByteArray} {pc nL qo : Nat} {ls : Array Slot} {hh : List (Nat × Nat × Nat × Nat)} {G : fm_G} {M : fm_M} {f : Nat → Int64}
theorem fm_hA_up (E : fm_hW G qo M f s H locs) {q : Nat} (h : fm_A shC G H.size q) : fm_hA G qo s.heap.size q := Or.inl (h.elim Or.inl (fun z => Or.inr (Nat.le_trans E.2.2.1.1 z)))
theorem fm_hpc (C : fm_hC G qo p s m args meth c cc nL hh) (E : fm_hW G qo M f s H locs) (av : List Value) : ∀ U : State, U.heap = H → s.WarmedH U.vm → va_Pc av (fm_pre shC G M H.size) av.toArray U := by
  intro U hU hW
  refine ⟨rfl, by rw [hU], by rw [hU]; exact E.1, fm_D_any E.2.1 (fun _ _ => trivial), ?_⟩
  rw [hU]
  exact C.2.2.2.2.2.2.2.1.go hW E.2.2.1.2.1 (fun q h => fm_hA_up E h)
theorem fm_hkeep (C : fm_hC G qo p s m args meth c cc nL hh) (E : fm_hW G qo M f s H locs) {M' : fm_M} {H1 : Heap} {L : List Loc} (hp : va_P G.1 vwCl (fm_en shC G M') H1) (hz : H.size ≤ H1.size) (hk : ∀ q : Nat, q < H.size → ¬ fm_A shC G H.size q → H1[q]? = H[q]?) (hL : ∀ q ∈ L, fm_A shC G H.size q.base) : fm_hW G qo M' f s H1 (locs ++ L) := by
  have hq : qo < H.size := (Array.getElem?_eq_some_iff.mp E.2.2.2).1
  have hn : ¬ fm_A shC G H.size qo := by
    rintro (⟨k, hk, e⟩ | h)
    · exact C.2.2.2.2.2.2.2.2.2 k hk e.symm
    · omega
  refine ⟨hp, fm_D_any E.2.1 (fun k hk => Or.inl (Or.inl ⟨k, hk, rfl⟩)), ⟨Nat.le_trans E.2.2.1.1 hz, fun q h1 h2 => ?_, fun q hq => ?_⟩, (hk qo hq hn).trans E.2.2.2⟩
  · rw [hk q (Nat.lt_of_lt_of_le h1 E.2.2.1.1) (fun z => h2 (fm_hA_up E z))]
    exact E.2.2.1.2.1 q h1 h2
  · rcases List.mem_append.mp hq with h | h
    · exact E.2.2.1.2.2 q h
    · exact fm_hA_up E (hL q h)
/-- the call that returns -/
theorem fm_hcall (C : fm_hC G qo p s m args meth c cc nL hh) (E : fm_hW G qo M f s H locs) {index n maxL : Nat} {y : MethodName} {bytes : ByteArray} {rt : Option FieldType} {rm : Room} {o : Option Value} {M' : fm_M} {st0 : List Value} (As rest : List Value) (hl : Cond.methodLink "MicRowLaw" index y ∈ fm_TT) (V : fm_V "MicRowLaw" index y n) (K : Cond.code y bytes maxL rt ∈ fm_TT)
    (hM : fm_Met l y bytes maxL rt rm shC G (.ref (G.2.1 0) :: As) M o M') (hq : y.cls = "MicRow") (hn : As.length = n) (hsz : ls.size = nL) (hst : (rest.map fun v => v.category).sum ≤ 8) (hR : (rm.cells = 0 ∧ rm.slots = 0) ∧ rm.frames + 1 ≤ R.frames ∧ 8 + (maxL + 11) + rm.locals ≤ R.locals) (hcs : cells ≤ R.cells ∧ slots ≤ R.slots) (hdg : decode cc pc = .ok (.invokevirtual index, 3)) (stk : st0 = As.reverse ++ .ref (G.2.1 0) :: rest)
    (kk : ∀ (H1 : Heap) (locs1 : List Loc), fm_hW G qo M' f s H1 locs1 → W p l e R s m args below meth c H1 locs1 cells slots Q (F0 m (pc + 3) ls (o.toList ++ rest))) : W p l e R s m args below meth c H locs cells slots Q (F0 m pc ls st0) := by
  obtain ⟨-, v2, v3, v4, v5⟩ := V
  have hts := C.2.2.2.2.1
  have hrecv := va_recv C.2.2.2.2.2.2.2.1.1 E.1 (ci := 9) (q := (RX9, TX9, 12)) rfl (fm_en_at hC_0)
  rw [show (RX9, TX9, 12).1 = y.cls from hq.symm] at hrecv
  intro T hT X
  obtain ⟨v, st₀, t, T', L, h0, X', hL, e1, e2, ⟨⟨hv, hp⟩, hz, hk⟩, st⟩ := va_runV (Ts := fm_TT) (own := "MicRowLaw") (C := y.cls) (As := As) (rest := rest) (g := F0 m pc ls st0) (below := below) ⟨C.1, C.2.1, C.2.2.1, C.2.2.2.1, hts⟩ (hM H.size) ⟨callB_of n hts (fm_goodC K) rfl hR.1.1 hR.1.2 (hts _ v4) (hts _ hl) v5 hR.2, hts _ v2, hts _ v3⟩ ⟨fm_blind, hrecv, fm_hpc C E _⟩ rfl hn hsz stk (lv_room (pc := pc) hst) hdg hcs T hT X
  cases hv
  rw [h0] at hz hk
  obtain ⟨t2, a1, b1⟩ := kk T'.heap (locs ++ L) (fm_hkeep C E (by rw [e1]; exact hp) (by rw [e1]; exact hz) (fun q h1 h2 => by rw [e1]; exact hk q h1 h2) hL) T' rfl X'
  exact ⟨t2, st t2 a1, b1⟩
/-- the call that throws, caught -/
theorem fm_hcatch {b0 b1 b2 ct : Nat} (C : fm_hC G qo p s m args meth c cc nL [(b0, b1, b2, ct)]) (E : fm_hW G qo M f s H locs) {index n maxL : Nat} {y : MethodName} {bytes : ByteArray} {rt : Option FieldType} {rm : Room} {M' : fm_M} {st0 : List Value} (As rest : List Value) (hl : Cond.methodLink "MicRowLaw" index y ∈ fm_TT) (V : fm_V "MicRowLaw" index y n) (K : Cond.code y bytes maxL rt ∈ fm_TT)
    (hM : fm_xMet l y bytes maxL rt rm shC G (.ref (G.2.1 0) :: As) M M') (hq : y.cls = "MicRow") (hn : As.length = n) (hsz : ls.size = nL) (hst : (rest.map fun v => v.category).sum ≤ 8) (hR : (rm.cells = 1 ∧ rm.slots = 6) ∧ rm.frames + 1 ≤ R.frames ∧ 8 + (maxL + 11) + rm.locals ≤ R.locals) (hcs : cells + 1 ≤ R.cells ∧ slots + 6 ≤ R.slots) (hdg : decode cc pc = .ok (.invokevirtual index, 3)) (stk : st0 = As.reverse ++ .ref (G.2.1 0) :: rest)
    (hcov : b0 ≤ pc ∧ pc < b1) (hct : ct ≠ 0) (hlk : Cond.classLink "MicRowLaw" ct fm_NSE ∈ fm_TT) (hcast : Cond.castable fm_NSE fm_NSE ∈ fm_NW)
    (kk : ∀ (H1 : Heap) (locs1 : List Loc) (q : Nat), fm_hW G qo M' f s H1 locs1 → W p l e R s m args below meth c H1 locs1 (cells + 1) (slots + 6) Q (F0 m b2 ls [.ref q])) : W p l e R s m args below meth c H locs cells slots Q (F0 m pc ls st0) := by
  obtain ⟨-, v2, v3, v4, v5⟩ := V
  have hts := C.2.2.2.2.1
  have hrecv := va_recv C.2.2.2.2.2.2.2.1.1 E.1 (ci := 9) (q := (RX9, TX9, 12)) rfl (fm_en_at hC_0)
  rw [show (RX9, TX9, 12).1 = y.cls from hq.symm] at hrecv
  intro T hT X
  rcases vx_runV (Ts := fm_TT) (own := "MicRowLaw") (C := y.cls) (As := As) (rest := rest) (g := F0 m pc ls st0) (below := below) ⟨C.1, C.2.1, C.2.2.1, C.2.2.2.1, hts⟩ (hM H.size) ⟨callB_of n hts (fm_goodC K) rfl hR.1.1 hR.1.2 (hts _ v4) (hts _ hl) v5 hR.2, hts _ v2, hts _ v3⟩ ⟨fm_blind, hrecv, fm_hpc C E _⟩ rfl hn hsz stk (lv_room (pc := pc) hst) hdg hcs T hT X with ⟨v, st₀, t, T', L, h0, X', hL, e1, e2, hq, st⟩ | ⟨q, st₀, t, T', L, E9, ce, h0, X', hL, e1, e2, ⟨hE, hp, hz, hk⟩, hce, hcv, hcl, st⟩
  · exact hq.elim
  · rw [h0] at hz hk
    subst hE
    have hE1 := fm_hkeep (L := L) (H1 := T'.heap) (M' := M') C E (by rw [e1]; exact hp) (by rw [e1]; exact hz) (fun q h1 h2 => by rw [e1]; exact hk q h1 h2) hL
    obtain ⟨t2, a1, b9⟩ := vx_catch (p := p) (l := l) (e := e) (R := R) (s := s) (m := m) (args := args) (below := below) (meth := meth) (c := c) (H := T'.heap) (locs := locs ++ L) (cells := cells + 1) (slots := slots + 6) (Q := Q) (pc := pc) (ls := ls) (rest := rest) (own := "MicRowLaw") (name := fm_NSE) (E := fm_NSE) (ce := ce) (q := q) C.2.2.2.1 [] { startPc := b0, endPc := b1, handlerPc := b2, catchType := ct } [] (by rw [C.2.2.2.2.2.2.2.2.1]; rfl) (fun z hz => nomatch hz) (by simp [covers, hcov.1, hcov.2]) hct (hts _ hlk) (va_Nw.use rfl (C.2.2.2.2.2.2.2.1.2.1 _ hcast)) (by rw [e1]; exact hce) hcv hcl (kk T'.heap (locs ++ L) q hE1) T' rfl X'
    exact ⟨t2, st.trans a1, b9⟩
/-- out[0] is written -/
theorem fm_hst (C : fm_hC G qo p s m args meth c cc nL hh) (E : fm_hW G qo M f s H locs) {x : Int64} {rest : List Value} (hdg : decode cc pc = .ok (.lastore, 1))
    (kk : ∀ (H1 : Heap) (locs1 : List Loc), fm_hW G qo M (vp_updL f 0 x) s H1 locs1 → W p l e R s m args below meth c H1 locs1 cells slots Q (F0 m (pc + 1) ls rest)) : W p l e R s m args below meth c H locs cells slots Q (F0 m pc ls (.long x :: .int 0 :: .ref qo :: rest)) := by
  have hat1 : ∀ {k : Nat} {q : Nat × va_E} {g : Nat → Int64}, ([fm_oc G qo g] : va_W)[k]? = some q → k = 0 ∧ q = fm_oc G qo g := fun {k q g} hk => by
    have h0 : k < 1 := (List.getElem?_eq_some_iff.mp hk).1
    obtain rfl : k = 0 := by omega
    exact ⟨rfl, (Option.some.inj hk).symm⟩
  have hP1 : va_P G.1 vwCl (fm_en shC G M ++ [fm_oc G qo f]) H := E.1.app (fun k q hk => by
    obtain ⟨-, rfl⟩ := hat1 hk
    exact E.2.2.2)
  have hlen : (fm_en shC G M).length = shC.length := by simp [fm_en]
  have hD1 : va_D (fm_hA G qo s.heap.size) (fm_en shC G M ++ [fm_oc G qo f]) := va_D.app E.2.1 ⟨fun i j x y hi hj _ => by
      rw [(hat1 hi).1, (hat1 hj).1], fun k q hk => by
      obtain ⟨-, rfl⟩ := hat1 hk
      exact Or.inr rfl⟩ (fun i j x y hi hj hxy => by
      obtain ⟨-, rfl⟩ := hat1 hj
      obtain ⟨l1, e1⟩ := fm_en_fst hi
      exact C.2.2.2.2.2.2.2.2.2 i l1 (e1.symm.trans hxy))
  have hat : (fm_en shC G M ++ [fm_oc G qo f])[(fm_en shC G M).length]? = some (qo, va_E_oc G f) := by
    rw [List.getElem?_append_right (Nat.le_refl _), Nat.sub_self]
    rfl
  refine va_last C.1 C.2.1 C.2.2.2.2.2.2.2.1.1 hP1 hD1 E.2.2.1 (fm_en shC G M).length 3 hat rfl (fm_in_vp (by decide)) hdg (fun H1 locs1 hP _ hS => ?_)
  have hset : ∀ z, (fm_en shC G M ++ [fm_oc G qo f]).set (fm_en shC G M).length z = fm_en shC G M ++ [z] := fun z => by
    rw [List.set_append_right _ _ (Nat.le_refl _), Nat.sub_self]
    rfl
  have hP2 := hP
  rw [hset] at hP2
  refine kk H1 locs1 ⟨fun k q hk => hP2 k q ?_, E.2.1, hS, hP2 (fm_en shC G M).length _ (fm_snoc_at _ _)⟩
  rw [List.getElem?_append_left (List.getElem?_eq_some_iff.mp hk).1]
  exact hk
theorem fm_hret (C : fm_hC G qo p s m args meth c cc nL hh) (E : fm_hW G qo M f s H locs) {v : Int32} (hdg : decode cc pc = .ok (.ireturn, 1)) : W p l e R s m args below meth c H locs 1 6 (fm_hZ below G qo args s v M f) (F0 m pc ls [.int v]) :=
  W.iret C.1 C.2.1 C.2.2.2.2.2.1 (fun t ht _ => ⟨⟨rfl, by rw [ht]; exact E.1, by rw [fm_out, ht]; exact E.2.2.2⟩, E.2.2.1.F ht⟩) E.2.2.1.2.2 hdg C.2.2.2.2.2.2.1
end FMH
