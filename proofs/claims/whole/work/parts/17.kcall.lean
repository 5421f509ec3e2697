/-! ===== rows of rows, calls of constructors, their ends ===== -/
theorem fm_enS_set {b i : Nat} {SH : List fm_Sh} {G : fm_G} {M : fm_M} {sh : fm_Sh} : (fm_enS b SH G M).set i (G.2.1 (b + i), fm_cell G M sh (b + i)) = fm_enS b (SH.set i sh) G M := by
  apply List.ext_getElem?
  intro j
  by_cases hj : j < SH.length
  · obtain ⟨s1, hs1⟩ : ∃ s1, (SH.set i sh)[j]? = some s1 := ⟨(SH.set i sh)[j]'(by simpa using hj), List.getElem?_eq_getElem _⟩
    rw [fm_enS_at hs1, List.getElem?_set, fm_enS_len]
    by_cases hij : i = j
    · subst hij
      rw [List.getElem?_set, if_pos rfl, if_pos hj] at hs1
      cases hs1
      rw [if_pos rfl, if_pos hj]
    · rw [if_neg hij]
      rw [List.getElem?_set, if_neg hij] at hs1
      rw [fm_enS_at hs1]
  · rw [List.getElem?_eq_none (by rw [List.length_set, fm_enS_len]; omega), List.getElem?_eq_none (by rw [fm_enS_len, List.length_set]; omega)]
/-- the rows of a row -/
theorem fm_kfoldT {G : fm_G} {M : fm_M} {b ci : Nat} {hl : List Nat} {SH : List fm_Sh} {ad : Nat → Nat} {q k N K : Nat} {r : Nat → Nat} (hk : k = b + 1 + SH.length) (h0 : fm_okh k hl = true) (h1 : fm_okS k SH = true) (hM : ∀ i, i < N → M.1 (k + 1 + i) = fun _ => 0) :
    ∃ ad' : Nat → Nat, (∀ j, j < k → ad' j = ad j) ∧ ad' k = q ∧ (fm_kw G M b ci hl SH ad ++ [(q, .inl (G.2.2.1 4, N, .inr (.inr (.inr (.inr (fun i => if i < N then some (r i) else none))))))]) ++ (List.range N).map (fun i => (r i, .inl (G.2.2.1 0, K, .inl (fun _ => 0)))) = fm_kw G M b ci hl (SH ++ ((4, N, (List.range N).map (fun i => some (k + 1 + i))) :: List.replicate N (0, K, []))) ad' := by
  let ad' : Nat → Nat := fun j => if j < k then ad j else if j = k then q else r (j - (k + 1))
  have a1 : ∀ j, j < k → ad' j = ad j := fun j hj => if_pos hj
  have a2 : ad' k = q := by
    show (if k < k then ad k else if k = k then q else r (k - (k + 1))) = q
    rw [if_neg (Nat.lt_irrefl k), if_pos rfl]
  have a3 : ∀ i, ad' (k + 1 + i) = r i := fun i => by
    show (if k + 1 + i < k then ad (k + 1 + i) else if k + 1 + i = k then q else r (k + 1 + i - (k + 1))) = r i
    rw [if_neg (by omega), if_neg (by omega), Nat.add_sub_cancel_left]
  refine ⟨ad', a1, a2, ?_⟩
  rw [← fm_kw_ad (ad' := ad') h0 h1 (by omega) a1]
  unfold fm_kw
  rw [fm_enS_app, ← hk, List.cons_append, List.cons_append, List.append_assoc]
  have e1 : fm_enS k ((4, N, (List.range N).map (fun i => some (k + 1 + i))) :: List.replicate N (0, K, [])) (fm_ga G ad') M = [(q, .inl (G.2.2.1 4, N, .inr (.inr (.inr (.inr (fun i => if i < N then some (r i) else none))))))] ++ (List.range N).map (fun i => (r i, .inl (G.2.2.1 0, K, .inl (fun _ => 0)))) := by
    rw [show ((4, N, (List.range N).map (fun i => some (k + 1 + i))) :: List.replicate N (0, K, []) : List fm_Sh) = [(4, N, (List.range N).map (fun i => some (k + 1 + i)))] ++ List.replicate N (0, K, []) from rfl, fm_enS_app]
    congr 1
    · show [(ad' (k + 0), fm_cell (fm_ga G ad') M (4, N, (List.range N).map (fun i => some (k + 1 + i))) (k + 0))] = _
      rw [Nat.add_zero, a2]
      refine congrArg (fun f => [((q, Sum.inl (G.2.2.1 4, N, .inr (.inr (.inr (.inr f))))) : Nat × va_E)]) (funext fun i => ?_)
      show (((List.range N).map (fun i => some (k + 1 + i))).getD i none).map ad' = _
      rw [List.getD_eq_getElem?_getD, List.getElem?_map]
      by_cases hi : i < N
      · rw [List.getElem?_range hi, if_pos hi]
        show some (ad' (k + 1 + i)) = some (r i)
        rw [a3]
      · rw [List.getElem?_eq_none (by simpa using hi), if_neg hi]
        rfl
    · unfold fm_enS
      rw [List.length_replicate]
      apply List.map_congr_left
      intro i hi
      have hi : i < N := List.mem_range.mp hi
      have hz : (List.replicate N ((0, K, []) : fm_Sh)).getD i (0, 0, []) = (0, K, []) := by
        rw [List.getD_eq_getElem?_getD, List.getElem?_replicate, if_pos hi]
        rfl
      rw [hz]
      show (ad' (k + 1 + i), (Sum.inl (G.2.2.1 0, K, Sum.inl (M.1 (k + 1 + i))) : va_E)) = _
      rw [a3, hM i hi]
  rw [e1]
def fm_kA (a sz : Nat) : Nat → Prop := fun q => q = a ∨ sz ≤ q
def fm_kpre (G : fm_G) (a ci : Nat) (fs : List Value) (sz : Nat) : State → Prop := fun U => U.heap.size = sz ∧ va_P G.1 vwCl [(a, .inr (ci, fs))] U.heap ∧ fm_kg G U
def fm_kQ (G : fm_G) (M : fm_M) (b : Nat) (SHb : List fm_Sh) (ad : Nat → Nat) (sz : Nat) : Array Value → State → Outcome → State → Prop := fun _ st oc t => (oc = .returned none ∧ ∃ ad' : Nat → Nat, (∀ j, j < b + 1 → ad' j = ad j) ∧ va_P G.1 vwCl (fm_enS b SHb (fm_ga G ad') M) t.heap ∧ va_D (fm_kA (ad b) sz) (fm_enS b SHb (fm_ga G ad') M)) ∧ va_F (fm_kA (ad b) sz) st t
/-- a constructor's contract: out of the bare cell b it makes the cells b .. of the shapes SHb, with the memory M -/
def fm_kMet (l : Launch) (y : MethodName) (cc : ByteArray) (maxL : Nat) (rm : Room) (G : fm_G) (M : fm_M) (b ci : Nat) (fs : List Value) (SHb : List fm_Sh) (As : (Nat → Nat) → List Value) (mc ms : Nat) : Prop :=
  ∀ (sz : Nat) (ad : Nat → Nat), Met l y (.code y cc maxL none :: fm_TT) rm (va_Pc (.ref (ad b) :: As ad) (fm_kpre G (ad b) ci fs sz)) (fm_kQ G M b SHb ad sz) mc ms (fm_kA (ad b) sz)
theorem fm_kblind {G : fm_G} {a ci sz : Nat} {fs : List Value} {av : List Value} : FrameBlind (va_Pc av (fm_kpre G a ci fs sz)) := fun a U g mk q => ⟨q.1, q.2.1, q.2.2.1, q.2.2.2.same rfl⟩
theorem fm_kenter {l : Launch} {y : MethodName} {cc : ByteArray} {maxL : Nat} {rm : Room} {G : fm_G} {M : fm_M} {b ci : Nat} {fs : List Value} {SHb : List fm_Sh} {As : (Nat → Nat) → List Value} {mc ms : Nat} (hy : plainName y.cls = true) (hyi : y.name = "<init>") (hlen : ∀ ad, (lg_sl (.ref (ad b) :: As ad)).length ≤ maxL)
    (body : ∀ (ad : Nat → Nat) (p : Program) (e : Env) (s : State) (m : MethodId) (args : Array Value) (below : List Frame) (meth : Method) (c : Code) (ls : Array Slot), fm_kc G p s m args c cc maxL y.cls → (meth.name = "<init>" ∧ meth.sig.returnType = none ∧ meth.locks = false) → fm_kW G (fm_kA (ad b) s.heap.size) [(ad b, .inr (ci, fs))] s s.heap [] → lv_has ls maxL (lv_args 0 (.ref (ad b) :: As ad)) →
      W p l e rm s m args below meth c s.heap [] 0 0 (MQ below (fm_kQ G M b SHb ad s.heap.size) args s mc ms (fm_kA (ad b) s.heap.size)) (F0 m 0 ls [])) : fm_kMet l y cc maxL rm G M b ci fs SHb As mc ms := by
  intro sz ad
  refine Met.ofW (cc := cc) (maxL := maxL) (ret := none) hy rfl ?_
  intro p e s m args below meth c s₁ B hml hv
  obtain ⟨rfl, hsz, hP, hg⟩ := hv
  subst hsz
  have hts := atoms_spec (ws := .code y cc maxL none :: fm_TT) B.pre
  have hown : s.vm.findClass y.cls = some m.cls := findClass_of_methodNamed B.named
  have hl := lv_entry (.ref (ad b) :: As ad) (n := maxL) (hlen ad)
  rw [lg_entry_eq]
  refine body ad p e s m _ below meth c _ ⟨B.exec, B.bytes, hml, hown, fun w hw => hts w (List.mem_cons_of_mem _ hw), hg⟩ ⟨(name_of_methodNamed B.named B.method).1.trans hyi, B.returns, B.notSynchronized⟩ ⟨hP, ⟨fun i j x y hi hj _ => ?_, fun k q hk => ?_⟩, va_S.rf, fun q h => Or.inr h⟩ hl
  · have h1 : i < 1 := (List.getElem?_eq_some_iff.mp hi).1
    have h2 : j < 1 := (List.getElem?_eq_some_iff.mp hj).1
    omega
  · have h1 : k < 1 := (List.getElem?_eq_some_iff.mp hk).1
    rw [show k = 0 by omega] at hk
    cases hk
    exact Or.inl rfl
/-- the words of a constructor's call -/
def fm_I (own : String) (index : Nat) (y : MethodName) (n : Nat) : Prop := (Cond.methodLink own index y ∈ fm_TT ∨ ∃ host, Cond.methodLinkNest own index y host ∈ fm_NW) ∧ Cond.instanceMethod y ∈ fm_TT ∧ Cond.initialized y.cls ∈ fm_TT ∧ y.name = "<init>" ∧ (y.cls ≠ "java/lang/invoke/MethodHandle" ∧ y.cls ≠ "java/lang/invoke/VarHandle" ∧ (parseMethodDescriptor y.desc).map (fun d => d.parameters.length) = some n)
section FMJ
variable {p : Program} {l : Launch} {e : Env} {R : Room} {s : State} {m : MethodId} {args : Array Value} {below : List Frame} {meth : Method} {c : Code} {H : Heap} {locs : List Loc} {cells slots : Nat} {Q : State → Prop}
variable {cc : ByteArray} {pc nL : Nat} {ls : Array Slot} {rest : List Value} {own : String} {G : fm_G} {M : fm_M} {A : Nat → Prop} {ws : va_W} {ad : Nat → Nat} {b ci : Nat} {hl : List Nat} {SH : List fm_Sh}
theorem fm_kmna (C : fm_kc G p s m args c cc nL own) (E : fm_kW G A (fm_kw G M b ci hl SH ad) s H locs) {index : Nat} (hw : Cond.classLink own index "[[I" ∈ fm_TT) (hw2 : Cond.arrayClass .int ∈ fm_TT) {n k1 : Int32} {N K k : Nat} (hn : ¬ n < 0) (hkn : ¬ k1 < 0) (hN : n.toNatClampNeg = N) (hK : k1.toNatClampNeg = K) (hb1 : N * 4 ≤ 536870912 ∧ K * 4 ≤ 536870912) (hcs : cells + (1 + N) ≤ R.cells ∧ slots + (N + N * K) ≤ R.slots) (hdg : decode cc pc = .ok (.multianewarray index 2, 4))
    (SHt : List fm_Sh) (hSH : SHt = SH ++ ((4, N, (List.range N).map (fun i => some (k + 1 + i))) :: List.replicate N (0, K, []))) (hk : k = b + 1 + SH.length) (h0 : fm_okh k hl = true) (h1 : fm_okS k SH = true) (hM : ∀ i, i < N → M.1 (k + 1 + i) = fun _ => 0)
    (kk : ∀ (ad' : Nat → Nat) (H1 : Heap), (∀ j, j < k → ad' j = ad j) → fm_kW G A (fm_kw G M b ci hl SHt ad') s H1 locs → W p l e R s m args below meth c H1 locs (cells + 1 + N) (slots + N + N * K) Q (F0 m (pc + 4) ls (.ref (ad' k) :: rest))) : W p l e R s m args below meth c H locs cells slots Q (F0 m pc ls (.int k1 :: .int n :: rest)) := by
  have hcy : s.vm.findClass (FieldType.array .int).toString = some (G.2.2.1 0) := (C.2.2.2.2.2.1.2 0 _ rfl).2
  refine va_mna (X := fm_kw G M b ci hl SH ad) (L := []) (f := fun _ => .inl (0, 0, .inl (fun _ => 0))) (z := (K, .inl (fun _ => 0))) C.1 C.2.1 C.2.2.2.1 (C.2.2.2.2.1 _ hw) C.2.2.2.2.2.2.2.2 (C.2.2.2.2.1 _ hw2) hcy C.2.2.2.2.2.1 (by simpa [va_pl] using E.1) (by simpa [va_pl] using E.2.1) E.2.2.1 E.2.2.2 hn hkn hN hK hb1.1 hb1.2 (by omega) rfl rfl hcs.1 hcs.2 ?_ hdg (fun q r cA H1 hr hr2 k1 a1 a2 a3 => ?_)
  · intro c
    exact arrV_new c K (Value.int 0)
  obtain rfl : cA = G.2.2.1 4 := fm_kcA C.2.2.2.2.2.1 k1 rfl
  obtain ⟨ad', d1, d2, d3⟩ := fm_kfoldT (G := G) (M := M) (ci := ci) (hl := hl) (SH := SH) (ad := ad) (q := q) (K := K) (r := r) hk h0 h1 hM
  have e1 : va_pl ([] ++ (List.range N).map r) (vr_up (fun _ => .inl (0, 0, .inl (fun _ => 0))) ((List.range N).map r) (.inl (G.2.2.1 0, (K, .inl (fun _ => 0))))) = (List.range N).map (fun i => (r i, .inl (G.2.2.1 0, K, .inl (fun _ => 0)))) := by
    rw [List.nil_append]
    unfold va_pl
    rw [List.map_map]
    apply List.map_congr_left
    intro i hi
    have : r i ∈ (List.range N).map r := List.mem_map.mpr ⟨i, hi, rfl⟩
    show (r i, vr_up _ _ _ (r i)) = _
    rw [vr_up_in this]
  rw [e1, d3, ← hSH] at a1 a2
  have := kk ad' H1 d1 ⟨a1, a2, a3, E.2.2.2⟩
  rw [d2] at this
  exact this
/-- a Scene into a row of Scenes -/
theorem fm_kaast (C : fm_kc G p s m args c cc nL own) (E : fm_kW G A (fm_kw G M b ci hl SH ad) s H locs) {i iv n nv a x kv : Nat} {fl flv : List (Option Nat)} {j : Int32} {J : Nat} (hi : SH[i]? = some (5, n, fl)) (hiv : SH[iv]? = some (14, nv, flv)) (hkv : kv = b + 1 + iv) (ha : ad (b + 1 + i) = a) (hx : ad kv = x) (hin : fm_in j n = true) (hJ : j.toNatClampNeg = J) (hJ2 : J < fl.length) (hdg : decode cc pc = .ok (.aastore, 1))
    (SH' : List fm_Sh) (hS' : SH.set i (5, n, fl.set J (some kv)) = SH')
    (kk : ∀ (H1 : Heap) (locs1 : List Loc), fm_kW G A (fm_kw G M b ci hl SH' ad) s H1 locs1 → W p l e R s m args below meth c H1 locs1 cells slots Q (F0 m (pc + 1) ls rest)) : W p l e R s m args below meth c H locs cells slots Q (F0 m pc ls (.ref x :: .int j :: .ref a :: rest)) := by
  subst ha
  subst hx
  subst hkv
  subst hJ
  have w1 : (fm_kw G M b ci hl SH ad)[i + 1]? = some (ad (b + 1 + i), fm_cell (fm_ga G ad) M (5, n, fl) (b + 1 + i)) := fm_enS_at hi
  have w2 : (fm_kw G M b ci hl SH ad)[iv + 1]? = some (ad (b + 1 + iv), fm_cell (fm_ga G ad) M (14, nv, flv) (b + 1 + iv)) := fm_enS_at hiv
  refine va_astq C.1 C.2.1 C.2.2.2.2.2.1 E.1 E.2.1 E.2.2.1 (i + 1) 5 (iv + 1) 7 (r := (RX7, TX7, 5)) w1 rfl w2 rfl (fm_in_vp hin) hdg (fun H1 locs1 a1 a2 a3 => ?_)
  have hf : va_up (fun i => (fl.getD i none).map ad) j.toNatClampNeg (some (ad (b + 1 + iv))) = fun i => ((fl.set j.toNatClampNeg (some (b + 1 + iv))).getD i none).map ad := by
    funext i
    rw [List.getD_eq_getElem?_getD, List.getElem?_set]
    unfold va_up
    by_cases h : i = j.toNatClampNeg
    · rw [if_pos h, if_pos h.symm, if_pos (by omega)]
      rfl
    · rw [if_neg h, if_neg (fun z => h z.symm), ← List.getD_eq_getElem?_getD]
  have e1 : (fm_kw G M b ci hl SH ad).set (i + 1) (ad (b + 1 + i), .inl (G.2.2.1 5, n, .inr (.inr (.inr (.inr (va_up (fun i => (fl.getD i none).map ad) j.toNatClampNeg (some (ad (b + 1 + iv))))))))) = fm_kw G M b ci hl SH' ad := by
    rw [hf, ← hS']
    unfold fm_kw
    rw [List.set_cons_succ, ← fm_enS_set]
    rfl
  exact kk H1 locs1 ⟨by rw [← e1]; exact a1, by rw [← e1]; exact a2, a3, E.2.2.2⟩
/-- the call of a constructor over the bare cell that was just made -/
theorem fm_kinit0 (C : fm_kc G p s m args c cc nL own) {q k cj : Nat} {fs : List Value} (E : fm_kW G A (ws ++ [(q, .inr (cj, fs))]) s H locs) {index n maxL mc ms : Nat} {y : MethodName} {bytes : ByteArray} {rm : Room} {SHb : List fm_Sh} {As : (Nat → Nat) → List Value} {st0 : List Value} (As' : List Value) (V : fm_I own index y n) (K : Cond.code y bytes maxL none ∈ fm_TT)
    (hM : fm_kMet l y bytes maxL rm G M k cj fs SHb As mc ms) (hAs : As (fm_au ad k q) = As') (hn : As'.length = n) (hsz : ls.size = nL) (hst : (rest.map fun v => v.category).sum ≤ 8) (hR : (rm.cells = mc ∧ rm.slots = ms) ∧ rm.frames + 1 ≤ R.frames ∧ 8 + (maxL + 11) + rm.locals ≤ R.locals) (hcs : cells + mc ≤ R.cells ∧ slots + ms ≤ R.slots) (hdg : decode cc pc = .ok (.invokespecial index, 3)) (stk : st0 = As'.reverse ++ .ref q :: rest)
    (kk : ∀ (ad' : Nat → Nat) (H1 : Heap) (locs1 : List Loc), (∀ j, j < k → ad' j = ad j) → ad' k = q → fm_kW G A (ws ++ fm_enS k SHb (fm_ga G ad') M) s H1 locs1 → W p l e R s m args below meth c H1 locs1 (cells + mc) (slots + ms) Q (F0 m (pc + 3) ls rest)) : W p l e R s m args below meth c H locs cells slots Q (F0 m pc ls st0) := by
  obtain ⟨hlk, v2, v4, v6, v5⟩ := V
  have hts := C.2.2.2.2.1
  have hq1 : va_P G.1 vwCl [(q, .inr (cj, fs))] H := fun i x hx => by
    have h1 : i < 1 := (List.getElem?_eq_some_iff.mp hx).1
    rw [show i = 0 by omega] at hx
    cases hx
    exact E.1 ws.length _ (fm_snoc_at _ _)
  have hMq := hM H.size (fm_au ad k q)
  rw [fm_au_at, hAs] at hMq
  have hpre : ∀ U : State, U.heap = H → s.WarmedH U.vm → va_Pc (.ref q :: As') (fm_kpre G q cj fs H.size) (Value.ref q :: As').toArray U := fun U hU hW => ⟨rfl, by rw [hU], by rw [hU]; exact hq1, C.2.2.2.2.2.warm hW⟩
  have hr : va_Run p l e R s m args below meth c H locs cells slots mc ms (F0 m pc ls st0) rest (fm_kQ G M k SHb (fm_au ad k q) H.size (Value.ref q :: As').toArray) (fm_kA q H.size) := by
    rcases hlk with hlk | ⟨host, hlk⟩
    · exact va_runI (Ts := fm_TT) (own := own) (As := As') (rest := rest) (bytes := bytes) (maxL := maxL) (n := n) ⟨C.1, C.2.1, C.2.2.1, C.2.2.2.1, hts⟩ hMq ⟨callB_of n hts (fm_goodC K) rfl hR.1.1 hR.1.2 (hts _ v4) (hts _ hlk) v5 hR.2, v6, hts _ v2⟩ ⟨fm_kblind, hpre⟩ rfl hn hsz stk (lv_room (pc := pc) hst) hdg hcs
    · exact va_runIN (Ts := fm_TT) (own := own) (host := host) (As := As') (rest := rest) (bytes := bytes) (maxL := maxL) (n := n) ⟨C.1, C.2.1, C.2.2.1, C.2.2.2.1, hts⟩ hMq ⟨va_cnB n hts (fm_goodC K) rfl hR.1.1 hR.1.2 (C.2.2.2.2.2.2.1 _ hlk) (hts _ v4) v5 hR.2, v6, hts _ v2⟩ ⟨fm_kblind, hpre⟩ rfl hn hsz stk (lv_room (pc := pc) hst) hdg hcs
  intro T hT X
  obtain ⟨v, st₀, t, T', L, h0, X', hL, e1, e2, ⟨⟨hv, ad', d1, hp, hd⟩, hz, hk⟩, st⟩ := hr T hT X
  cases hv
  rw [h0] at hz hk
  rw [fm_au_at] at hd hk
  have hqA : A q := E.2.1.2 ws.length _ (fm_snoc_at _ _)
  have hup : ∀ z, fm_kA q H.size z → A z := fun z h => h.elim (fun w => w ▸ hqA) (fun w => E.2.2.2 z (Nat.le_trans E.2.2.1.1 w))
  have hws : ∀ (i : Nat) (x : Nat × va_E), ws[i]? = some x → x.1 < H.size ∧ ¬ fm_kA q H.size x.1 := fun i x hx => by
    have hi : i < ws.length := (List.getElem?_eq_some_iff.mp hx).1
    have hx' : (ws ++ [(q, (.inr (cj, fs) : va_E))])[i]? = some x := by rw [List.getElem?_append_left hi]; exact hx
    have l1 := (E.1 i x hx').lt
    refine ⟨l1, ?_⟩
    rintro (w | w)
    · have := E.2.1.1 i ws.length x _ hx' (fm_snoc_at _ _) w
      omega
    · omega
  have hPw : va_P G.1 vwCl ws T'.heap := by
    have h1 : va_P G.1 vwCl ws H := fun i x hx => E.1 i x (by rw [List.getElem?_append_left (List.getElem?_eq_some_iff.mp hx).1]; exact hx)
    refine h1.kept (fun i x hx => ?_)
    rw [e1]
    exact hk x.1 (hws i x hx).1 (hws i x hx).2
  have hDw : va_D A ws := ⟨fun i j x y hi hj hxy => E.2.1.1 i j x y (by rw [List.getElem?_append_left (List.getElem?_eq_some_iff.mp hi).1]; exact hi) (by rw [List.getElem?_append_left (List.getElem?_eq_some_iff.mp hj).1]; exact hj) hxy, fun i x hx => E.2.1.2 i x (by rw [List.getElem?_append_left (List.getElem?_eq_some_iff.mp hx).1]; exact hx)⟩
  have hDb : va_D A (fm_enS k SHb (fm_ga G ad') M) := ⟨hd.1, fun i x hx => hup _ (hd.2 i x hx)⟩
  have hS : va_S A s.heap T'.heap (locs ++ L) := by
    refine ⟨Nat.le_trans E.2.2.1.1 (by rw [e1]; exact hz), fun z h1 h2 => ?_, fun z hz => ?_⟩
    · rw [e1, hk z (Nat.lt_of_lt_of_le h1 E.2.2.1.1) (fun w => h2 (hup z w))]
      exact E.2.2.1.2.1 z h1 h2
    · rcases List.mem_append.mp hz with h | h
      · exact E.2.2.1.2.2 z h
      · exact hup _ (by have := hL z h; exact this)
  obtain ⟨t2, a1, b1⟩ := kk ad' T'.heap (locs ++ L) (fun j hj => (d1 j (by omega)).trans (fm_au_lt j hj)) ((d1 k (by omega)).trans fm_au_at) ⟨hPw.app (by rw [e1]; exact hp), hDw.app hDb (fun i j x y hx hy hxy => (hws i x hx).2 (hxy ▸ hd.2 j y hy)), hS, E.2.2.2⟩ T' rfl X'
  exact ⟨t2, st t2 a1, b1⟩
theorem fm_kinit (C : fm_kc G p s m args c cc nL own) {q k cj : Nat} {fs : List Value} (E : fm_kW G A (fm_kw G M b ci hl SH ad ++ [(q, .inr (cj, fs))]) s H locs) {index n maxL mc ms : Nat} {y : MethodName} {bytes : ByteArray} {rm : Room} {SHb : List fm_Sh} {As : (Nat → Nat) → List Value} {st0 : List Value} (As' : List Value) (V : fm_I own index y n) (K : Cond.code y bytes maxL none ∈ fm_TT)
    (hM : fm_kMet l y bytes maxL rm G M k cj fs SHb As mc ms) (hk : k = b + 1 + SH.length) (h0 : fm_okh k hl = true) (h1 : fm_okS k SH = true) (hAs : As (fm_au ad k q) = As') (hn : As'.length = n) (hsz : ls.size = nL) (hst : (rest.map fun v => v.category).sum ≤ 8) (hR : (rm.cells = mc ∧ rm.slots = ms) ∧ rm.frames + 1 ≤ R.frames ∧ 8 + (maxL + 11) + rm.locals ≤ R.locals) (hcs : cells + mc ≤ R.cells ∧ slots + ms ≤ R.slots) (hdg : decode cc pc = .ok (.invokespecial index, 3)) (stk : st0 = As'.reverse ++ .ref q :: rest)
    (kk : ∀ (ad' : Nat → Nat) (H1 : Heap) (locs1 : List Loc), (∀ j, j < k → ad' j = ad j) → ad' k = q → fm_kW G A (fm_kw G M b ci hl (SH ++ SHb) ad') s H1 locs1 → W p l e R s m args below meth c H1 locs1 (cells + mc) (slots + ms) Q (F0 m (pc + 3) ls rest)) : W p l e R s m args below meth c H locs cells slots Q (F0 m pc ls st0) := by
  refine fm_kinit0 (ad := ad) C E As' V K hM hAs hn hsz hst hR hcs hdg stk (fun ad' H1 locs1 a1 a2 E1 => kk ad' H1 locs1 a1 a2 ?_)
  rw [← fm_kw_ad (ad' := ad') h0 h1 (by omega) a1] at E1
  have e1 : fm_kw G M b ci hl (SH ++ SHb) ad' = fm_kw G M b ci hl SH ad' ++ fm_enS k SHb (fm_ga G ad') M := by
    unfold fm_kw
    rw [fm_enS_app, List.cons_append, ← hk]
  rw [e1]
  exact E1
theorem fm_kret {SHb : List fm_Sh} {ad0 : Nat → Nat} {n : Nat} {fl : List (Option Nat)} (C : fm_kc G p s m args c cc nL own) (N : meth.name = "<init>" ∧ meth.sig.returnType = none ∧ meth.locks = false) (E : fm_kW G (fm_kA (ad0 b) s.heap.size) (fm_kw G M b ci hl SH ad) s H locs) (hfs : fm_hfs ad (M.1 b) hl = fm_fs ad (M.1 b) fl) (hSH : SHb = (ci + 7, n, fl) :: SH) (had : ∀ j, j < b + 1 → ad j = ad0 j) (hdg : decode cc pc = .ok (.return_, 1)) :
    W p l e R s m args below meth c H locs cells slots (MQ below (fm_kQ G M b SHb ad0 s.heap.size) args s cells slots (fm_kA (ad0 b) s.heap.size)) (F0 m pc ls []) := by
  have e1 : fm_enS b SHb (fm_ga G ad) M = fm_kw G M b ci hl SH ad := by
    rw [hSH, show ((ci + 7, n, fl) :: SH : List fm_Sh) = [(ci + 7, n, fl)] ++ SH from rfl, fm_enS_app]
    unfold fm_kw
    rw [hfs]
    rfl
  exact W.vret C.1 C.2.1 N.2.1 (fun t ht _ => ⟨⟨rfl, ad, had, by rw [ht, e1]; exact E.1, by rw [e1]; exact E.2.1⟩, E.2.2.1.F ht⟩) E.2.2.1.2.2 hdg N.2.2
end FMJ
