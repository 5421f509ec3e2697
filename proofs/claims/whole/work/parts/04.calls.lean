/-! ===== calls over the flat memory; Math; arraycopy; tables of cases ===== -/
abbrev fm_Z (below : List Frame) (SH : List fm_Sh) (G : fm_G) (args : Array Value) (s : State) (o : Option Value) (M : fm_M) : State → Prop := MQ below (fm_Q o SH G M (fm_A SH G s.heap.size)) args s 0 0 (fm_A SH G s.heap.size)
abbrev jrem (x y : Int32) : Int32 := x - x / y * y
abbrev jshl (x y : Int32) : Int32 := x <<< (y &&& 31)
abbrev jshr (x y : Int32) : Int32 := x >>> (y &&& 31)
abbrev jushr (x y : Int32) : Int32 := (x.toUInt32 >>> (y.toUInt32 &&& Int32.toUInt32 31)).toInt32
abbrev jmax (x y : Int32) : Int32 := if x < y then y else x
abbrev jmin (x y : Int32) : Int32 := if y < x then y else x
abbrev jabs (x : Int32) : Int32 := if 0 ≤ x then x else 0 - x
/-- an answer that must be a truth -/
def fm_bo {α : Type} (v : Int32) (K : Option α) : Option α := if v = 0 ∨ v = 1 then K else none
theorem fm_bo_s {α : Type} {v : Int32} {K : Option α} {r : α} (h : fm_bo v K = some r) : narrow .boolean (.int v) = .int v ∧ K = some r := by
  unfold fm_bo at h
  split at h
  · rename_i hv
    refine ⟨?_, h⟩
    rcases hv with rfl | rfl
    · exact narrow_b0
    · exact narrow_b1
  · cases h
/-- a divisor that isn't 0 -/
def fm_nz {α : Type} (y : Int32) (K : Option α) : Option α := if y = 0 then none else K
theorem fm_nz_s {α : Type} {y : Int32} {K : Option α} {r : α} (h : fm_nz y K = some r) : ¬ y = 0 ∧ K = some r := by
  unfold fm_nz at h
  split at h
  · cases h
  · exact ⟨by assumption, h⟩
def fm_nzl {α : Type} (y : Int64) (K : Option α) : Option α := if y = 0 then none else K
theorem fm_nzl_s {α : Type} {y : Int64} {K : Option α} {r : α} (h : fm_nzl y K = some r) : ¬ y = 0 ∧ K = some r := by
  unfold fm_nzl at h
  split at h
  · cases h
  · exact ⟨by assumption, h⟩
/-- a truth that is asked for -/
def fm_rq {α : Type} (b : Bool) (K : Option α) : Option α := if b = true then K else none
theorem fm_rq_s {α : Type} {b : Bool} {K : Option α} {r : α} (h : fm_rq b K = some r) : b = true ∧ K = some r := by
  unfold fm_rq at h
  split at h
  · exact ⟨by assumption, h⟩
  · cases h
/-- the length of an int[] by its number; is it one -/
def fm_n (SH : List fm_Sh) (k : Nat) : Nat := match SH[k]? with
  | some (0, n, _) => n
  | _ => 0
def fm_ia (SH : List fm_Sh) (k : Nat) : Bool := match SH[k]? with
  | some (0, _, _) => true
  | _ => false
theorem fm_ia_at {SH : List fm_Sh} {k : Nat} (h : fm_ia SH k = true) : ∃ fl, SH[k]? = some (0, fm_n SH k, fl) := by
  unfold fm_ia at h
  unfold fm_n
  split at h
  · rename_i n fl e
    exact ⟨fl, by rw [e]⟩
  · cases h
theorem fm_n_at {SH : List fm_Sh} {k : Nat} {i : Int32} (h : fm_in i (fm_n SH k) = true) : ∃ fl, SH[k]? = some (0, fm_n SH k, fl) := by
  have hl := fm_in_lt h
  unfold fm_n at hl ⊢
  split at hl
  · rename_i n fl e
    exact ⟨fl, by rw [e]⟩
  · omega
/-- how a method is linked from own -/
def fm_V (own : String) (index : Nat) (y : MethodName) (n : Nat) : Prop := (Cond.methodLink own index y ∈ fm_TT ∨ ∃ host, Cond.methodLinkNest own index y host ∈ fm_NW) ∧ Cond.instanceMethod y ∈ fm_TT ∧ Cond.selects y.cls y y ∈ fm_TT ∧ Cond.initialized y.cls ∈ fm_TT ∧ (y.cls ≠ "java/lang/invoke/MethodHandle" ∧ y.cls ≠ "java/lang/invoke/VarHandle" ∧ (parseMethodDescriptor y.desc).map (fun d => d.parameters.length) = some n)
def fm_S (own : String) (index : Nat) (y : MethodName) (n : Nat) : Prop := (Cond.methodLink own index y ∈ fm_TT ∨ ∃ host, Cond.methodLinkNest own index y host ∈ fm_NW) ∧ Cond.static y ∈ fm_TT ∧ Cond.initialized y.cls ∈ fm_TT ∧ (y.cls ≠ "java/lang/invoke/MethodHandle" ∧ y.cls ≠ "java/lang/invoke/VarHandle" ∧ (parseMethodDescriptor y.desc).map (fun d => d.parameters.length) = some n)
theorem fm_blind {SH : List fm_Sh} {G : fm_G} {M : fm_M} {sz : Nat} {av : List Value} : FrameBlind (va_Pc av (fm_pre SH G M sz)) := fun a U g mk q => ⟨q.1, q.2.1, q.2.2.1, q.2.2.2.1, q.2.2.2.2.same rfl⟩
section FMC
variable {p : Program} {l : Launch} {e : Env} {R : Room} {s : State} {m : MethodId} {args : Array Value} {below : List Frame} {meth : Method} {c : Code} {H : Heap} {locs : List Loc} {cells slots : Nat} {Q : State → Prop}
variable {cc : ByteArray} {pc nL : Nat} {ls : Array Slot} {rest : List Value} {own : String} {ret : Option FieldType} {SH : List fm_Sh} {G : fm_G} {M : fm_M}
theorem fm_A_up (E : fm_Wd SH G M s H locs) {q : Nat} (h : fm_A SH G H.size q) : fm_A SH G s.heap.size q := h.elim Or.inl (fun z => Or.inr (Nat.le_trans E.2.2.1 z))
theorem fm_pc (C : fm_Cx SH G p s m args meth c cc nL own ret) (E : fm_Wd SH G M s H locs) (av : List Value) : ∀ U : State, U.heap = H → s.WarmedH U.vm → va_Pc av (fm_pre SH G M H.size) av.toArray U := by
  intro U hU hW
  refine ⟨rfl, by rw [hU], by rw [hU]; exact E.1, fm_D_any E.2.1 (fun _ _ => trivial), ?_⟩
  rw [hU]
  exact C.2.2.2.2.2.2.2.go hW E.2.2.2.1 (fun q h => fm_A_up E h)
theorem fm_back {o : Option Value} {M' : fm_M} {st0 : List Value} {a : Array Value} (E : fm_Wd SH G M s H locs) (hr : va_Run p l e R s m args below meth c H locs cells slots 0 0 (F0 m pc ls st0) rest (fm_Q o SH G M' (fm_A SH G H.size) a) (fm_A SH G H.size))
    (kk : ∀ (H1 : Heap) (locs1 : List Loc), fm_Wd SH G M' s H1 locs1 → W p l e R s m args below meth c H1 locs1 cells slots Q (F0 m (pc + 3) ls (o.toList ++ rest))) : W p l e R s m args below meth c H locs cells slots Q (F0 m pc ls st0) := by
  intro T hT X
  obtain ⟨v, st₀, t, T', L, h0, X', hL, e1, e2, ⟨⟨hv, hp⟩, hz, hk⟩, st⟩ := hr T hT X
  cases hv
  rw [h0] at hz hk
  have hS : va_S (fm_A SH G s.heap.size) s.heap T'.heap (locs ++ L) := by
    refine ⟨Nat.le_trans E.2.2.1 (by rw [e1]; exact hz), fun q h1 h2 => ?_, fun q hq => ?_⟩
    · rw [e1, hk q (Nat.lt_of_lt_of_le h1 E.2.2.1) (fun z => h2 (fm_A_up E z))]
      exact E.2.2.2.1 q h1 h2
    · rcases List.mem_append.mp hq with h | h
      · exact E.2.2.2.2 q h
      · exact fm_A_up E (hL q h)
  obtain ⟨t2, a1, b1⟩ := kk T'.heap (locs ++ L) ⟨by rw [e1]; exact hp, fm_D_any E.2.1 (fun k hk => Or.inl ⟨k, hk, rfl⟩), hS⟩ T' rfl X'
  exact ⟨t2, st t2 a1, b1⟩
theorem fm_callV (C : fm_Cx SH G p s m args meth c cc nL own ret) (E : fm_Wd SH G M s H locs) {index n k ci n' maxL : Nat} {y : MethodName} {bytes : ByteArray} {rt : Option FieldType} {rm : Room} {fl : List (Option Nat)} {o : Option Value} {M' : fm_M} {st0 : List Value} {q : vw_C} (As rest : List Value) (V : fm_V own index y n) (K : Cond.code y bytes maxL rt ∈ fm_TT)
    (hM : fm_Met l y bytes maxL rt rm SH G (.ref (G.2.1 k) :: As) M o M') (hk : SH[k]? = some (ci + 7, n', fl)) (hc : vwCl[ci]? = some q) (hq : q.1 = y.cls) (hn : As.length = n) (hsz : ls.size = nL) (hst : (rest.map fun v => v.category).sum ≤ 8) (hR : (rm.cells = 0 ∧ rm.slots = 0) ∧ rm.frames + 1 ≤ R.frames ∧ 8 + (maxL + 11) + rm.locals ≤ R.locals) (hcs : cells ≤ R.cells ∧ slots ≤ R.slots) (hdg : decode cc pc = .ok (.invokevirtual index, 3)) (stk : st0 = As.reverse ++ .ref (G.2.1 k) :: rest)
    (kk : ∀ (H1 : Heap) (locs1 : List Loc), fm_Wd SH G M' s H1 locs1 → W p l e R s m args below meth c H1 locs1 cells slots Q (F0 m (pc + 3) ls (o.toList ++ rest))) : W p l e R s m args below meth c H locs cells slots Q (F0 m pc ls st0) := by
  obtain ⟨hl, v2, v3, v4, v5⟩ := V
  have hts := C.2.2.2.2.1
  have hrecv := va_recv C.2.2.2.2.2.2.2.1 E.1 hc (fm_en_at hk)
  rw [hq] at hrecv
  rcases hl with hl | ⟨host, hl⟩
  · exact fm_back E (va_runV (Ts := fm_TT) (own := own) (C := y.cls) (As := As) (rest := rest) ⟨C.1, C.2.1, C.2.2.1, C.2.2.2.1, hts⟩ (hM H.size) ⟨callB_of n hts (fm_goodC K) rfl hR.1.1 hR.1.2 (hts _ v4) (hts _ hl) v5 hR.2, hts _ v2, hts _ v3⟩ ⟨fm_blind, hrecv, fm_pc C E _⟩ rfl hn hsz stk (lv_room (pc := pc) hst) hdg hcs) kk
  · exact fm_back E (va_runVN (Ts := fm_TT) (own := own) (C := y.cls) (host := host) (As := As) (rest := rest) ⟨C.1, C.2.1, C.2.2.1, C.2.2.2.1, hts⟩ (hM H.size) ⟨va_cnB n hts (fm_goodC K) rfl hR.1.1 hR.1.2 (C.2.2.2.2.2.2.2.2.1 _ hl) (hts _ v4) v5 hR.2, hts _ v2, hts _ v3⟩ ⟨fm_blind, hrecv, fm_pc C E _⟩ rfl hn hsz stk (lv_room (pc := pc) hst) hdg hcs) kk
theorem fm_callS (C : fm_Cx SH G p s m args meth c cc nL own ret) (E : fm_Wd SH G M s H locs) {index n maxL : Nat} {y : MethodName} {bytes : ByteArray} {rt : Option FieldType} {rm : Room} {o : Option Value} {M' : fm_M} {st0 : List Value} (As rest : List Value) (V : fm_S own index y n) (K : Cond.code y bytes maxL rt ∈ fm_TT)
    (hM : fm_Met l y bytes maxL rt rm SH G As M o M') (hn : As.length = n) (hsz : ls.size = nL) (hst : (rest.map fun v => v.category).sum ≤ 8) (hR : (rm.cells = 0 ∧ rm.slots = 0) ∧ rm.frames + 1 ≤ R.frames ∧ 8 + (maxL + 11) + rm.locals ≤ R.locals) (hcs : cells ≤ R.cells ∧ slots ≤ R.slots) (hdg : decode cc pc = .ok (.invokestatic index, 3)) (stk : st0 = As.reverse ++ rest)
    (kk : ∀ (H1 : Heap) (locs1 : List Loc), fm_Wd SH G M' s H1 locs1 → W p l e R s m args below meth c H1 locs1 cells slots Q (F0 m (pc + 3) ls (o.toList ++ rest))) : W p l e R s m args below meth c H locs cells slots Q (F0 m pc ls st0) := by
  obtain ⟨hl, v2, v4, v5⟩ := V
  have hts := C.2.2.2.2.1
  rcases hl with hl | ⟨host, hl⟩
  · exact fm_back E (va_runS (Ts := fm_TT) (own := own) (As := As) (rest := rest) ⟨C.1, C.2.1, C.2.2.1, C.2.2.2.1, hts⟩ (hM H.size) ⟨callB_of n hts (fm_goodC K) rfl hR.1.1 hR.1.2 (hts _ v4) (hts _ hl) v5 hR.2, hts _ v2⟩ ⟨fm_blind, fm_pc C E _⟩ rfl hn hsz stk (lv_room (pc := pc) hst) hdg hcs) kk
  · exact fm_back E (va_runSN (Ts := fm_TT) (own := own) (host := host) (As := As) (rest := rest) ⟨C.1, C.2.1, C.2.2.1, C.2.2.2.1, hts⟩ (hM H.size) ⟨va_cnB n hts (fm_goodC K) rfl hR.1.1 hR.1.2 (C.2.2.2.2.2.2.2.2.1 _ hl) (hts _ v4) v5 hR.2, hts _ v2, trivial⟩ ⟨fm_blind, fm_pc C E _⟩ rfl hn hsz stk (lv_room (pc := pc) hst) hdg hcs) kk
/-- Math's words -/
def fm_mw (y : MethodName) (b : ByteArray) (n : Nat) : Prop := Cond.static y ∈ fm_TT ∧ Cond.initialized "java/lang/Math" ∈ fm_TT ∧ Cond.code y b n (some .int) ∈ fm_TT
theorem fm_max (C : fm_Cx SH G p s m args meth c cc nL own ret) (V : fm_mw Lib.Math.max.name Lib.Math.max.code 2) {index : Nat} (hl : Cond.methodLink own index Lib.Math.max.name ∈ fm_TT) (hsz : ls.size = nL) (hR : 1 ≤ R.frames ∧ 21 ≤ R.locals) (hst : (rest.map fun v => v.category).sum ≤ 8) (hcs : cells ≤ R.cells ∧ slots ≤ R.slots) {x y : Int32} (hdg : decode cc pc = .ok (.invokestatic index, 3))
    (kk : W p l e R s m args below meth c H locs cells slots Q (F0 m (pc + 3) ls (.int (jmax x y) :: rest))) : W p l e R s m args below meth c H locs cells slots Q (F0 m pc ls (.int y :: .int x :: rest)) :=
  va_mmax C.1 C.2.1 (C.2.2.1.trans hsz.symm) C.2.2.2.1 (C.2.2.2.2.1 _ hl) (C.2.2.2.2.1 _ V.1) (C.2.2.2.2.1 _ V.2.1) (C.2.2.2.2.1 _ V.2.2) hR.1 (by omega) hcs.1 hcs.2 hdg kk
theorem fm_min (C : fm_Cx SH G p s m args meth c cc nL own ret) (V : fm_mw Lib.Math.min.name Lib.Math.min.code 2) {index : Nat} (hl : Cond.methodLink own index Lib.Math.min.name ∈ fm_TT) (hsz : ls.size = nL) (hR : 1 ≤ R.frames ∧ 21 ≤ R.locals) (hst : (rest.map fun v => v.category).sum ≤ 8) (hcs : cells ≤ R.cells ∧ slots ≤ R.slots) {x y : Int32} (hdg : decode cc pc = .ok (.invokestatic index, 3))
    (kk : W p l e R s m args below meth c H locs cells slots Q (F0 m (pc + 3) ls (.int (jmin x y) :: rest))) : W p l e R s m args below meth c H locs cells slots Q (F0 m pc ls (.int y :: .int x :: rest)) :=
  va_mmin C.1 C.2.1 (C.2.2.1.trans hsz.symm) C.2.2.2.1 (C.2.2.2.2.1 _ hl) (C.2.2.2.2.1 _ V.1) (C.2.2.2.2.1 _ V.2.1) (C.2.2.2.2.1 _ V.2.2) hR.1 (by omega) hcs.1 hcs.2 hdg kk
theorem fm_abs (C : fm_Cx SH G p s m args meth c cc nL own ret) (V : fm_mw Lib.Math.abs.name Lib.Math.abs.code 1) {index : Nat} (hl : Cond.methodLink own index Lib.Math.abs.name ∈ fm_TT) (hsz : ls.size = nL) (hR : 1 ≤ R.frames ∧ 21 ≤ R.locals) (hst : (rest.map fun v => v.category).sum ≤ 8) (hcs : cells ≤ R.cells ∧ slots ≤ R.slots) {x : Int32} (hdg : decode cc pc = .ok (.invokestatic index, 3))
    (kk : W p l e R s m args below meth c H locs cells slots Q (F0 m (pc + 3) ls (.int (jabs x) :: rest))) : W p l e R s m args below meth c H locs cells slots Q (F0 m pc ls (.int x :: rest)) :=
  va_mabs C.1 C.2.1 (C.2.2.1.trans hsz.symm) C.2.2.2.1 (C.2.2.2.2.1 _ hl) (C.2.2.2.2.1 _ V.1) (C.2.2.2.2.1 _ V.2.1) (C.2.2.2.2.1 _ V.2.2) hR.1 (by omega) hcs.1 hcs.2 hdg kk
/-- System.arraycopy between int[]s from their beginnings -/
theorem fm_copy (C : fm_Cx SH G p s m args meth c cc nL own ret) (E : fm_Wd SH G M s H locs) (V : Cond.native arraycopyName ∈ fm_TT ∧ Cond.static arraycopyName ∈ fm_TT ∧ Cond.initialized "java/lang/System" ∈ fm_TT) {index : Nat} (hl : Cond.methodLink own index arraycopyName ∈ fm_TT) (hsz : ls.size = nL) (hR : 1 ≤ R.frames ∧ 26 ≤ R.locals) (hst : (rest.map fun v => v.category).sum ≤ 8)
    {a b na nb : Nat} {fa fb : List (Option Nat)} {n : Int32} {N : Nat} (ha : SH[a]? = some (0, na, fa)) (hb : SH[b]? = some (0, nb, fb)) (hn : ¬ n < 0) (hN : n.toNatClampNeg = N) (h1 : N ≤ na) (h2 : N ≤ nb) (hdg : decode cc pc = .ok (.invokestatic index, 3))
    (kk : ∀ (H1 : Heap) (locs1 : List Loc), fm_Wd SH G (fm_row M b (va_cpy (M.1 a) (M.1 b) 0 0 N)) s H1 locs1 → W p l e R s m args below meth c H1 locs1 cells slots Q (F0 m (pc + 3) ls rest)) : W p l e R s m args below meth c H locs cells slots Q (F0 m pc ls (.int n :: .int 0 :: .ref (G.2.1 b) :: .int 0 :: .ref (G.2.1 a) :: rest)) := by
  have hts := C.2.2.2.2.1
  subst hN
  have z0 : (0 : Int32).toNatClampNeg = 0 := by decide
  have z1 : nativeFrameWords "java/lang/System" "arraycopy" 5 = 7 := by decide +kernel
  have z2 : ¬ (0 : Int32) < 0 := by decide
  have hlo : (rest.map fun v => v.category).sum + (nativeFrameWords "java/lang/System" "arraycopy" 5 + 11) ≤ R.locals := by rw [z1]; omega
  refine va_copyi (rest := rest) (sp := 0) (dp := 0) (n := n) (ty := .int) C.1 C.2.1 (C.2.2.1.trans hsz.symm) C.2.2.2.1 (hts _ hl) (hts _ V.1) (hts _ V.2.1) (hts _ V.2.2) C.2.2.2.2.2.2.2.1 E.1 E.2.1 E.2.2 a b 0 0 (fm_en_at ha) (fm_en_at hb) rfl rfl rfl z2 z2 hn (by rw [z0, Nat.zero_add]; exact h1) (by rw [z0, Nat.zero_add]; exact h2) (fun _ _ => rfl) hR.1 hlo hdg (fun H1 locs1 hP _ hS => kk H1 locs1 (E.to hb ?_ (fun j sj _ hj => fm_cell_off (fm_row_ne hj) rfl (fun _ => rfl)) hP hS))
  simp only [fm_cell, fm_row_eq]
  rw [z0]
/-- a table of cases: none of them -/
theorem fm_tdef (C : fm_Cx SH G p s m args meth c cc nL own ret) {dflt lo hi : Int} {offs : Array Int} {len : Nat} {x : Int32} {tgt : Nat} (hdg : decode cc pc = .ok (.tableswitch dflt lo hi offs, len)) (cs : List Int) (hcs : ∀ v ∈ cs, ¬ x.toInt = v) (hoff : ∀ j : Nat, j < offs.size → offs[j]? = some dflt ∨ (lo + j) ∈ cs) (hsz : lo + offs.size = hi + 1) (ht : (pc : Int) + dflt = (tgt : Int))
    (k : W p l e R s m args below meth c H locs cells slots Q (F0 m tgt ls rest)) : W p l e R s m args below meth c H locs cells slots Q (F0 m pc ls (.int x :: rest)) := by
  by_cases h1 : x.toInt < lo
  · exact lv_tableOut C.1 C.2.1 hdg (Or.inl h1) ht k
  · by_cases h2 : hi < x.toInt
    · exact lv_tableOut C.1 C.2.1 hdg (Or.inr h2) ht k
    · have hj : (x.toInt - lo).toNat < offs.size := by omega
      rcases hoff _ hj with h | h
      · exact lv_tableIn C.1 C.2.1 hdg h1 h2 h ht k
      · exact absurd (by omega) (hcs _ h)
theorem fm_tcase (C : fm_Cx SH G p s m args meth c cc nL own ret) {dflt lo hi off : Int} {offs : Array Int} {len : Nat} {x : Int32} {tgt : Nat} (hdg : decode cc pc = .ok (.tableswitch dflt lo hi offs, len)) {v : Int32} (hx : x = v) (h1 : ¬ v.toInt < lo) (h2 : ¬ hi < v.toInt) (ho : offs[(v.toInt - lo).toNat]? = some off) (ht : (pc : Int) + off = (tgt : Int))
    (k : W p l e R s m args below meth c H locs cells slots Q (F0 m tgt ls rest)) : W p l e R s m args below meth c H locs cells slots Q (F0 m pc ls (.int x :: rest)) := by
  subst hx
  exact lv_tableIn C.1 C.2.1 hdg h1 h2 ho ht k
/-- places that are written numbers -/
theorem fm_ialdc (C : fm_Cx SH G p s m args meth c cc nL own ret) (E : fm_Wd SH G M s H locs) {k n : Nat} {fl : List (Option Nat)} {i : Int32} (j : Nat) (hj : i.toNatClampNeg = j) (hk : SH[k]? = some (0, n, fl)) (hin : fm_in i n = true) (hdg : decode cc pc = .ok (.iaload, 1))
    (kk : W p l e R s m args below meth c H locs cells slots Q (F0 m (pc + 1) ls (.int (M.1 k j) :: rest))) : W p l e R s m args below meth c H locs cells slots Q (F0 m pc ls (.int i :: .ref (G.2.1 k) :: rest)) := by
  subst hj
  exact fm_iald C E hk hin hdg kk
theorem fm_iastc (C : fm_Cx SH G p s m args meth c cc nL own ret) (E : fm_Wd SH G M s H locs) {k n : Nat} {fl : List (Option Nat)} {i x : Int32} (j : Nat) (hj : i.toNatClampNeg = j) (hk : SH[k]? = some (0, n, fl)) (hin : fm_in i n = true) (hdg : decode cc pc = .ok (.iastore, 1))
    (kk : ∀ (H1 : Heap) (locs1 : List Loc), fm_Wd SH G (fm_si M k j x) s H1 locs1 → W p l e R s m args below meth c H1 locs1 cells slots Q (F0 m (pc + 1) ls rest)) : W p l e R s m args below meth c H locs cells slots Q (F0 m pc ls (.int x :: .int i :: .ref (G.2.1 k) :: rest)) := by
  subst hj
  exact fm_iast C E hk hin hdg kk
theorem fm_tldc (C : fm_Cx SH G p s m args meth c cc nL own ret) (E : fm_Wd SH G M s H locs) {t : Nat} {xs : List Int32} (hT : va_T .int t xs.length (fun j => .int (xs.getD j 0)) (fm_A SH G s.heap.size) s s.heap) {i : Int32} (v : Int32) (hv : xs.getD i.toNatClampNeg 0 = v) (hin : fm_in i xs.length = true) (hdg : decode cc pc = .ok (.iaload, 1))
    (kk : W p l e R s m args below meth c H locs cells slots Q (F0 m (pc + 1) ls (.int v :: rest))) : W p l e R s m args below meth c H locs cells slots Q (F0 m pc ls (.int i :: .ref t :: rest)) := by
  subst hv
  exact fm_tld C E hT hin hdg kk
theorem fm_paldc (C : fm_Cx SH G p s m args meth c cc nL own ret) (E : fm_Wd SH G M s H locs) {k n : Nat} {fl : List (Option Nat)} {i : Int32} (j : Nat) (hj : i.toNatClampNeg = j) (hk : SH[k]? = some (6, n, fl)) (hin : fm_in i n = true) (hdg : decode cc pc = .ok (.aaload, 1))
    (kk : W p l e R s m args below meth c H locs cells slots Q (F0 m (pc + 1) ls (.ref (G.2.1 (M.2.2 j)) :: rest))) : W p l e R s m args below meth c H locs cells slots Q (F0 m pc ls (.int i :: .ref (G.2.1 k) :: rest)) := by
  subst hj
  exact fm_pald C E hk hin hdg kk
theorem fm_iinc (C : fm_Cx SH G p s m args meth c cc nL own ret) {i k : Nat} {n : Int} {x v : Int32} {lv lv' : List (Nat × Value)} (h : lv_has ls nL lv) (hk : lv[k]? = some (i, .int x)) (hv : Int32.ofInt n = v) (hn : i < nL) (hl : (i, Value.int (x + v)) :: lv.filter (fun q => !(q.1 == i) && !(q.1 + 1 == i && q.2.category == 2)) = lv') (hdg : decode cc pc = .ok (.iinc i n, 3))
    (kk : ∀ ls' : Array Slot, lv_has ls' nL lv' → W p l e R s m args below meth c H locs cells slots Q (F0 m (pc + 3) ls' rest)) : W p l e R s m args below meth c H locs cells slots Q (F0 m pc ls rest) := by
  subst hv
  exact lv_iinc C.1 C.2.1 hdg h hk rfl hn hl kk
/-- a changing row of Scenes is written -/
theorem fm_past (C : fm_Cx SH G p s m args meth c cc nL own ret) (E : fm_Wd SH G M s H locs) {k n r n' : Nat} {fl fl' : List (Option Nat)} {i : Int32} (hk : SH[k]? = some (6, n, fl)) (h1 : ∀ (j : Nat) (sj : fm_Sh), SH[j]? = some sj → sj.1 = 6 → j = k) (hr : SH[r]? = some (14, n', fl')) (hin : fm_in i n = true) (hdg : decode cc pc = .ok (.aastore, 1))
    (kk : ∀ (H1 : Heap) (locs1 : List Loc), fm_Wd SH G (fm_sr M i.toNatClampNeg r) s H1 locs1 → W p l e R s m args below meth c H1 locs1 cells slots Q (F0 m (pc + 1) ls rest)) : W p l e R s m args below meth c H locs cells slots Q (F0 m pc ls (.ref (G.2.1 r) :: .int i :: .ref (G.2.1 k) :: rest)) := by
  refine va_astq (r := (RX7, TX7, 5)) C.1 C.2.1 C.2.2.2.2.2.2.2.1 E.1 E.2.1 E.2.2 k 5 r 7 (fm_en_at hk) rfl (fm_en_at hr) rfl (fm_in_vp hin) hdg (fun H1 locs1 hP _ hS => kk H1 locs1 (E.to hk ?_ (fun j sj hsj hj => fm_cell_off rfl rfl (fun h6 => absurd (h1 j sj hsj h6) hj)) hP hS))
  simp only [fm_cell, fm_sr]
  refine congrArg (fun z : Nat → Option Nat => (Sum.inl (G.2.2.1 5, n, .inr (.inr (.inr (.inr z)))) : va_E)) ?_
  funext q
  by_cases hq : q = i.toNatClampNeg
  · subst hq; simp [va_up]
  · simp [va_up, hq]
end FMC
