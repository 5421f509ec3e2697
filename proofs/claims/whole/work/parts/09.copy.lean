theorem fm_cf_s {N : Nat} {M : fm_M} {k o : Nat} {M' : fm_M} (h : pScene_copyFrom N M k o = some M') : fm_sc k = true := (fm_rq_s h).1
theorem fm_enterF {l : Launch} {y : MethodName} {cc : ByteArray} {maxL : Nat} {ret : Option FieldType} {rm : Room} {SH : List fm_Sh} {G : fm_G} {av : List Value} {M : fm_M} {o : Option Value} {M' : fm_M} (hy : plainFor y = true) (hlen : (lg_sl av).length ≤ maxL)
    (body : ∀ (p : Program) (e : Env) (s : State) (m : MethodId) (args : Array Value) (below : List Frame) (meth : Method) (c : Code) (ls : Array Slot), fm_Cx SH G p s m args meth c cc maxL y.cls ret → fm_Wd SH G M s s.heap [] → lv_has ls maxL (lv_args 0 av) →
      W p l e rm s m args below meth c s.heap [] 0 0 (MQ below (fm_Q o SH G M' (fm_A SH G s.heap.size)) args s 0 0 (fm_A SH G s.heap.size)) (F0 m 0 ls [])) : fm_Met l y cc maxL ret rm SH G av M o M' := by
  intro sz
  refine va_MetF (cc := cc) (maxL := maxL) (ret := ret) hy rfl ?_
  intro p e s m args below meth c s₁ B hml hv
  obtain ⟨rfl, hsz, hP, hD0, hg⟩ := hv
  subst hsz
  have hts := atoms_spec (ws := .code y cc maxL ret :: fm_TT) B.pre
  have hown : s.vm.findClass y.cls = some m.cls := findClass_of_methodNamed B.named
  have hl := lv_entry av (n := maxL) hlen
  rw [lg_entry_eq]
  exact body p e s m _ below meth c _ ⟨B.exec, B.bytes, hml, hown, fun w hw => hts w (List.mem_cons_of_mem _ hw), B.returns, B.notSynchronized, hg⟩ ⟨hP, fm_D_any hD0 (fun k hk => Or.inl ⟨k, hk, rfl⟩), va_S.rf⟩ hl
theorem fm_rt1 {α : Type} {a r : α} (h : some a = some r) : r = a := (Option.some.inj h).symm
theorem fm_rt2 {α β : Type} {a r : α} {b t : β} (h : some (a, b) = some (r, t)) : r = a ∧ t = b := ⟨(Prod.mk.inj (Option.some.inj h)).1.symm, (Prod.mk.inj (Option.some.inj h)).2.symm⟩
