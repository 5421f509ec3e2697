/-! ===== the rows: instructions over the flat memory ===== -/
def fm_TT : List Cond := lw_tbl.filter goodWord
theorem fm_tt {w : Cond} (h : w ∈ lw_tbl) (hg : goodWord w = true) : w ∈ fm_TT := List.mem_filter.mpr ⟨h, hg⟩
/-- a word of the tables, by its place -/
theorem fm_wd {w : Cond} (i : Nat) (h : lw_tbl[i]? = some w) (hg : goodWord w = true) : w ∈ fm_TT := fm_tt (List.mem_of_getElem? h) hg
theorem fm_good : GoodIn fm_TT fm_TT := fun w h => ⟨h, good_of_word (List.mem_filter.mp h).2⟩
theorem fm_goodC {w : Cond} (h : w ∈ fm_TT) : GoodIn fm_TT (w :: fm_TT) := fun v hv => (List.mem_cons.mp hv).elim (fun e => by rw [e]; exact fm_good w h) (fm_good v)
def fm_isN (w : Cond) : Bool := match w with
  | .fieldLinkNest _ _ _ _ _ _ => true
  | .methodLinkNest _ _ _ _ => true
  | .castable _ _ => true
  | .declares _ => true
  | _ => false
def fm_NW : List Cond := lw_tbl.filter fm_isN
theorem fm_nw {w : Cond} (i : Nat) (h : lw_tbl[i]? = some w) (hg : fm_isN w = true) : w ∈ fm_NW := List.mem_filter.mpr ⟨List.mem_of_getElem? h, hg⟩
def fm_nest (U : State) : Prop := ∀ w ∈ fm_NW, va_Nw w U
theorem fm_nest.warm {s U : State} (hW : s.WarmedH U.vm) (h : fm_nest s) : fm_nest U := by
  intro w hw
  have h1 := h w hw
  have h2 := (List.mem_filter.mp hw).2
  cases w <;> first | (cases h2; done) | exact va_Nw.warmF hW h1 | exact va_Nw.warmM hW h1 | exact va_Nw.warmD hW h1 | exact va_tabs rfl (rfl : (s.setVm U.vm).vm = U.vm) ((Cond.castable_setVm (args := #[]) hW.alike _ _).trans h1)
theorem fm_nest.same {s U : State} (hv : s.vm = U.vm) (h : fm_nest s) : fm_nest U := by
  intro w hw
  have h1 := h w hw
  have h2 := (List.mem_filter.mp hw).2
  cases w <;> first | (cases h2; done) | exact va_Nw.same rfl hv h1
/-- the static rows of ints, the texts -/
def fm_Zs : List (String × String × List Int32) := [("MicRow", "MIC_LEAST", [0, 1, 0, 1, 0, 0]), ("MicRow", "MIC_MOST", [40, 400, 9, 200, 1, 1]), ("MicRow", "MIC_FIRST", [0, 100, 0, 100, 0, 0]), ("MicRow", "AIM_LEAST", [-8, 1]), ("MicRow", "AIM_MOST", [8, 9]), ("MicRow", "HELD_LEAST", [1, 0, 4]), ("MicRow", "HELD_MOST", [9999, 200, 48]), ("MicRowModel", "MOSTS", [40, 400, 9, 200, 1, 1])]
def fm_Ss : List (String × Nat × String) := [("MicRow$Reade\x72", 86, "9999"), ("MicRow$Reade\x72", 88, "999"), ("MicRow$Reade\x72", 90, "99"), ("MicRow$Reade\x72", 92, "9+8"), ("MicRow$Reade\x72", 94, ""), ("MicRow", 203, "there is none such"), ("MicRowModel", 315, "gwdocblsa")]
def fm_Sl : List Nat := [4, 3, 2, 3, 0, 18, 9]
def fm_Sb : List (List Int32) := [[57, 57, 57, 57], [57, 57, 57], [57, 57], [57, 43, 56], [], [116, 104, 101, 114, 101, 32, 105, 115, 32, 110, 111, 110, 101, 32, 115, 117, 99, 104], [103, 119, 100, 111, 99, 98, 108, 115, 97]]
def fm_z (q : String × String × List Int32) (A : Nat → Prop) (U : State) (H : Heap) : Prop := ∃ t : Nat, va_Z q.1 q.2.1 "[I" (.ref t) A U H ∧ va_T .int t q.2.2.length (fun j => .int (q.2.2.getD j 0)) A U H
/-- what a method may take as given of the machine beside the good words -/
def fm_gv (G : fm_G) (A : Nat → Prop) (U : State) (H : Heap) : Prop :=
  va_K G.1 vwCl (fm_ty G) U ∧ fm_nest U ∧ (∀ q ∈ fm_Zs, fm_z q A U H) ∧ vk_S 7 fm_Sl fm_Sb G.2.2.2.1 G.2.2.2.2 A U H ∧ (∀ (i : Nat) (q : String × Nat × String), (fm_Ss[i]? = some q → vk_R q.1 q.2.1 q.2.2 (G.2.2.2.1 i) U)) ∧ va_Z "java/lang/String" "COMPACT_STRINGS" "Z" (.int 1) A U H ∧ va_Zq "jdk/internal/util/Preconditions" "SIOOBE_FORMATTER" "Ljava/util/function/BiFunction;" A U H ∧ vx_Zq Bundle.tN "UNASSIGNED_STACK" Bundle.steD A U H ∧ vx_Zq Bundle.tN "SUPPRESSED_SENTINEL" Bundle.listD A U H
theorem fm_gv.go {G : fm_G} {A B : Nat → Prop} {s U : State} {H H1 : Heap} (h : fm_gv G A s H) (hW : s.WarmedH U.vm) (hq : ∀ a : Nat, a < H.size → ¬ A a → H1[a]? = H[a]?) (hAB : ∀ q, B q → A q) : fm_gv G B U H1 := by
  obtain ⟨h1, h2, h3, h4, h5, h6, h7, h8, h9⟩ := h
  refine ⟨va_K.moved hW.alike h1, h2.warm hW, fun q hm => ?_, ((h4.moved hW.alike).kept hq).narrow hAB, fun i q hi => (h5 i q hi).warm hW, ((h6.moved hW.alike).kept hq).narrow hAB, ((h7.moved hW.alike).kept hq).narrow hAB, ((h8.moved hW.alike).kept hq).narrow hAB, ((h9.moved hW.alike).kept hq).narrow hAB⟩
  obtain ⟨t, z1, z2⟩ := h3 q hm
  exact ⟨t, ((z1.moved hW.alike).kept hq).narrow hAB, ((z2.moved hW.alike).kept hq).narrow hAB⟩
theorem fm_gv.same {G : fm_G} {A : Nat → Prop} {s U : State} {H : Heap} (h : fm_gv G A s H) (hv : s.vm = U.vm) : fm_gv G A U H := by
  have ha : s.vm.Alike U.vm := hv ▸ Vm.Alike.refl s.vm
  obtain ⟨h1, h2, h3, h4, h5, h6, h7, h8, h9⟩ := h
  refine ⟨va_K.moved ha h1, h2.same hv, fun q hm => ?_, h4.moved ha, fun i q hi => (h5 i q hi).same hv.symm, h6.moved ha, h7.moved ha, h8.moved ha, h9.moved ha⟩
  obtain ⟨t, z1, z2⟩ := h3 q hm
  exact ⟨t, z1.moved ha, z2.moved ha⟩
/-- the cells that a method may write: the world's, and new ones -/
def fm_A (SH : List fm_Sh) (G : fm_G) (sz : Nat) : Nat → Prop := fun q => (∃ k, k < SH.length ∧ q = G.2.1 k) ∨ sz ≤ q
def fm_pre (SH : List fm_Sh) (G : fm_G) (M : fm_M) (sz : Nat) : State → Prop := fun U =>
  U.heap.size = sz ∧ va_P G.1 vwCl (fm_en SH G M) U.heap ∧ va_D (fun _ => True) (fm_en SH G M) ∧ fm_gv G (fm_A SH G sz) U U.heap
def fm_Q (o : Option Value) (SH : List fm_Sh) (G : fm_G) (M : fm_M) (A : Nat → Prop) : Array Value → State → Outcome → State → Prop := fun _ st oc t => (oc = .returned o ∧ va_P G.1 vwCl (fm_en SH G M) t.heap) ∧ va_F A st t
/-- a method's contract: from the memory M it comes to M', with the answer o; it makes nothing -/
def fm_Met (l : Launch) (y : MethodName) (cc : ByteArray) (maxL : Nat) (ret : Option FieldType) (rm : Room) (SH : List fm_Sh) (G : fm_G) (av : List Value) (M : fm_M) (o : Option Value) (M' : fm_M) : Prop :=
  ∀ sz : Nat, Met l y (.code y cc maxL ret :: fm_TT) rm (va_Pc av (fm_pre SH G M sz)) (fm_Q o SH G M' (fm_A SH G sz)) 0 0 (fm_A SH G sz)
def fm_Cx (SH : List fm_Sh) (G : fm_G) (p : Program) (s : State) (m : MethodId) (args : Array Value) (meth : Method) (c : Code) (cc : ByteArray) (nL : Nat) (own : String) (ret : Option FieldType) : Prop :=
  p.tables.exec = Jvm.exec ∧ c.code = cc ∧ c.maxLocals = nL ∧ s.vm.findClass own = some m.cls ∧ (∀ w ∈ fm_TT, w.before args s = true) ∧ meth.sig.returnType = ret ∧ meth.locks = false ∧ fm_gv G (fm_A SH G s.heap.size) s s.heap
def fm_Wd (SH : List fm_Sh) (G : fm_G) (M : fm_M) (s : State) (H : Heap) (locs : List Loc) : Prop :=
  va_P G.1 vwCl (fm_en SH G M) H ∧ va_D (fm_A SH G s.heap.size) (fm_en SH G M) ∧ va_S (fm_A SH G s.heap.size) s.heap H locs
theorem fm_en_fst {SH : List fm_Sh} {G : fm_G} {M : fm_M} {k : Nat} {q : Nat × va_E} (h : (fm_en SH G M)[k]? = some q) : k < SH.length ∧ q.1 = G.2.1 k := by
  have hl : k < (fm_en SH G M).length := (List.getElem?_eq_some_iff.mp h).1
  have hl : k < SH.length := by simpa [fm_en] using hl
  refine ⟨hl, ?_⟩
  unfold fm_en at h
  rw [List.getElem?_map, List.getElem?_range hl] at h
  cases h
  rfl
theorem fm_D_any {SH : List fm_Sh} {G : fm_G} {M M' : fm_M} {A B : Nat → Prop} (h : va_D A (fm_en SH G M)) (hB : ∀ k, k < SH.length → B (G.2.1 k)) : va_D B (fm_en SH G M') := by
  have key : ∀ (k : Nat), k < SH.length → ∃ e, (fm_en SH G M)[k]? = some (G.2.1 k, e) := fun k hk => by
    refine ⟨fm_cell G M (SH.getD k (0, 0, [])) k, ?_⟩
    unfold fm_en
    rw [List.getElem?_map, List.getElem?_range hk]
    rfl
  refine ⟨fun i j x y hi hj hxy => ?_, fun k q hk => ?_⟩
  · obtain ⟨l1, e1⟩ := fm_en_fst hi
    obtain ⟨l2, e2⟩ := fm_en_fst hj
    obtain ⟨a, ha⟩ := key i l1
    obtain ⟨b, hb⟩ := key j l2
    exact h.1 i j _ _ ha hb (by rw [← e1, ← e2]; exact hxy)
  · obtain ⟨l1, e1⟩ := fm_en_fst hk
    rw [e1]
    exact hB k l1
theorem fm_enter {l : Launch} {y : MethodName} {cc : ByteArray} {maxL : Nat} {ret : Option FieldType} {rm : Room} {SH : List fm_Sh} {G : fm_G} {av : List Value} {M : fm_M} {o : Option Value} {M' : fm_M} (hy : plainName y.cls = true) (hlen : (lg_sl av).length ≤ maxL)
    (body : ∀ (p : Program) (e : Env) (s : State) (m : MethodId) (args : Array Value) (below : List Frame) (meth : Method) (c : Code) (ls : Array Slot), fm_Cx SH G p s m args meth c cc maxL y.cls ret → fm_Wd SH G M s s.heap [] → lv_has ls maxL (lv_args 0 av) →
      W p l e rm s m args below meth c s.heap [] 0 0 (MQ below (fm_Q o SH G M' (fm_A SH G s.heap.size)) args s 0 0 (fm_A SH G s.heap.size)) (F0 m 0 ls [])) : fm_Met l y cc maxL ret rm SH G av M o M' := by
  intro sz
  refine Met.ofW (cc := cc) (maxL := maxL) (ret := ret) hy rfl ?_
  intro p e s m args below meth c s₁ B hml hv
  obtain ⟨rfl, hsz, hP, hD0, hg⟩ := hv
  subst hsz
  have hts := atoms_spec (ws := .code y cc maxL ret :: fm_TT) B.pre
  have hown : s.vm.findClass y.cls = some m.cls := findClass_of_methodNamed B.named
  have hl := lv_entry av (n := maxL) hlen
  rw [lg_entry_eq]
  exact body p e s m _ below meth c _ ⟨B.exec, B.bytes, hml, hown, fun w hw => hts w (List.mem_cons_of_mem _ hw), B.returns, B.notSynchronized, hg⟩ ⟨hP, fm_D_any hD0 (fun k hk => Or.inl ⟨k, hk, rfl⟩), va_S.rf⟩ hl
section FMR
variable {p : Program} {l : Launch} {e : Env} {R : Room} {s : State} {m : MethodId} {args : Array Value} {below : List Frame} {meth : Method} {c : Code} {H : Heap} {locs : List Loc} {cells slots : Nat} {Q : State → Prop}
variable {cc : ByteArray} {pc nL : Nat} {ls : Array Slot} {rest : List Value} {own : String} {ret : Option FieldType} {SH : List fm_Sh} {G : fm_G} {M : fm_M}
theorem fm_iald (C : fm_Cx SH G p s m args meth c cc nL own ret) (E : fm_Wd SH G M s H locs) {k n : Nat} {fl : List (Option Nat)} {i : Int32} (hk : SH[k]? = some (0, n, fl)) (hin : fm_in i n = true) (hdg : decode cc pc = .ok (.iaload, 1))
    (kk : W p l e R s m args below meth c H locs cells slots Q (F0 m (pc + 1) ls (.int (M.1 k i.toNatClampNeg) :: rest))) : W p l e R s m args below meth c H locs cells slots Q (F0 m pc ls (.int i :: .ref (G.2.1 k) :: rest)) :=
  va_iald C.1 C.2.1 C.2.2.2.2.2.2.2.1 E.1 k 0 (fm_en_at hk) rfl (fm_in_vp hin) hdg kk
theorem fm_bald (C : fm_Cx SH G p s m args meth c cc nL own ret) (E : fm_Wd SH G M s H locs) {k n : Nat} {fl : List (Option Nat)} {i : Int32} (hk : SH[k]? = some (1, n, fl)) (hin : fm_in i n = true) (hdg : decode cc pc = .ok (.baload, 1))
    (kk : W p l e R s m args below meth c H locs cells slots Q (F0 m (pc + 1) ls (.int (M.1 k i.toNatClampNeg) :: rest))) : W p l e R s m args below meth c H locs cells slots Q (F0 m pc ls (.int i :: .ref (G.2.1 k) :: rest)) :=
  va_bald C.1 C.2.1 C.2.2.2.2.2.2.2.1 E.1 k 1 (fm_en_at hk) rfl (fm_in_vp hin) hdg kk
theorem fm_zald (C : fm_Cx SH G p s m args meth c cc nL own ret) (E : fm_Wd SH G M s H locs) {k n : Nat} {fl : List (Option Nat)} {i : Int32} (hk : SH[k]? = some (2, n, fl)) (hin : fm_in i n = true) (hdg : decode cc pc = .ok (.baload, 1))
    (kk : W p l e R s m args below meth c H locs cells slots Q (F0 m (pc + 1) ls (.int (M.1 k i.toNatClampNeg) :: rest))) : W p l e R s m args below meth c H locs cells slots Q (F0 m pc ls (.int i :: .ref (G.2.1 k) :: rest)) :=
  va_zald C.1 C.2.1 C.2.2.2.2.2.2.2.1 E.1 k 2 (fm_en_at hk) rfl (fm_in_vp hin) hdg kk
theorem fm_lald (C : fm_Cx SH G p s m args meth c cc nL own ret) (E : fm_Wd SH G M s H locs) {k n : Nat} {fl : List (Option Nat)} {i : Int32} (hk : SH[k]? = some (3, n, fl)) (hin : fm_in i n = true) (hdg : decode cc pc = .ok (.laload, 1))
    (kk : W p l e R s m args below meth c H locs cells slots Q (F0 m (pc + 1) ls (.long (M.2.1 k i.toNatClampNeg) :: rest))) : W p l e R s m args below meth c H locs cells slots Q (F0 m pc ls (.int i :: .ref (G.2.1 k) :: rest)) :=
  va_lald C.1 C.2.1 C.2.2.2.2.2.2.2.1 E.1 k 3 (fm_en_at hk) rfl (fm_in_vp hin) hdg kk
theorem fm_aald (C : fm_Cx SH G p s m args meth c cc nL own ret) (E : fm_Wd SH G M s H locs) {k n : Nat} {fl : List (Option Nat)} {i : Int32} (hk : SH[k]? = some (4, n, fl)) (hin : fm_in i n = true) {r : Nat} (hr : fl[i.toNatClampNeg]? = some (some r)) (hdg : decode cc pc = .ok (.aaload, 1))
    (kk : W p l e R s m args below meth c H locs cells slots Q (F0 m (pc + 1) ls (.ref (G.2.1 r) :: rest))) : W p l e R s m args below meth c H locs cells slots Q (F0 m pc ls (.int i :: .ref (G.2.1 k) :: rest)) := by
  have hin' := fm_in_vp hin
  have hlt := fm_in_lt hin
  have hf : va_rf ((fl.getD i.toNatClampNeg none).map G.2.1) = .ref (G.2.1 r) := by
    rw [List.getD_eq_getElem?_getD, hr]; rfl
  exact W.aald (v := .ref (G.2.1 r)) (ty := .array .int) C.1 C.2.1 (E.1 k _ (fm_en_at hk)) ((C.2.2.2.2.2.2.2.1.2 4 _ rfl).1 n (fun j => va_rf ((fl.getD j none).map G.2.1))) rfl (fun q => by cases q) (by show ¬ (i < 0 ∨ (arrV _ _ _).slots.size ≤ _); rw [arrV_size]; exact hin') (by show (arrV _ _ _).slots[_]? = _; rw [arrV_read _ _ hlt, hf]) rfl rfl hdg kk
theorem fm_sald (C : fm_Cx SH G p s m args meth c cc nL own ret) (E : fm_Wd SH G M s H locs) {k n : Nat} {fl : List (Option Nat)} {i : Int32} (hk : SH[k]? = some (5, n, fl)) (hin : fm_in i n = true) {r : Nat} (hr : fl[i.toNatClampNeg]? = some (some r)) (hdg : decode cc pc = .ok (.aaload, 1))
    (kk : W p l e R s m args below meth c H locs cells slots Q (F0 m (pc + 1) ls (.ref (G.2.1 r) :: rest))) : W p l e R s m args below meth c H locs cells slots Q (F0 m pc ls (.int i :: .ref (G.2.1 k) :: rest)) := by
  have hf : va_rf ((fl.getD i.toNatClampNeg none).map G.2.1) = .ref (G.2.1 r) := by
    rw [List.getD_eq_getElem?_getD, hr]; rfl
  exact va_aldq C.1 C.2.1 C.2.2.2.2.2.2.2.1 E.1 k 5 (fm_en_at hk) rfl (fm_in_vp hin) hdg (by rw [hf]; exact kk)
theorem fm_pald (C : fm_Cx SH G p s m args meth c cc nL own ret) (E : fm_Wd SH G M s H locs) {k n : Nat} {fl : List (Option Nat)} {i : Int32} (hk : SH[k]? = some (6, n, fl)) (hin : fm_in i n = true) (hdg : decode cc pc = .ok (.aaload, 1))
    (kk : W p l e R s m args below meth c H locs cells slots Q (F0 m (pc + 1) ls (.ref (G.2.1 (M.2.2 i.toNatClampNeg)) :: rest))) : W p l e R s m args below meth c H locs cells slots Q (F0 m pc ls (.int i :: .ref (G.2.1 k) :: rest)) :=
  va_aldq C.1 C.2.1 C.2.2.2.2.2.2.2.1 E.1 k 5 (fm_en_at hk) rfl (fm_in_vp hin) hdg kk
theorem fm_Wd.to {M' : fm_M} {H1 : Heap} {locs1 : List Loc} (E : fm_Wd SH G M s H locs) {k : Nat} {sh : fm_Sh} (hk : SH[k]? = some sh) {x : va_E} (he : fm_cell G M' sh k = x) (ho : ∀ (j : Nat) (sj : fm_Sh), SH[j]? = some sj → j ≠ k → fm_cell G M' sj j = fm_cell G M sj j)
    (hP : va_P G.1 vwCl ((fm_en SH G M).set k (G.2.1 k, x)) H1) (hS : va_S (fm_A SH G s.heap.size) s.heap H1 locs1) : fm_Wd SH G M' s H1 locs1 := by
  rw [fm_en_set hk he ho] at hP
  exact ⟨hP, fm_D_any E.2.1 (fun k hk => Or.inl ⟨k, hk, rfl⟩), hS⟩
theorem fm_iast (C : fm_Cx SH G p s m args meth c cc nL own ret) (E : fm_Wd SH G M s H locs) {k n : Nat} {fl : List (Option Nat)} {i x : Int32} (hk : SH[k]? = some (0, n, fl)) (hin : fm_in i n = true) (hdg : decode cc pc = .ok (.iastore, 1))
    (kk : ∀ (H1 : Heap) (locs1 : List Loc), fm_Wd SH G (fm_si M k i.toNatClampNeg x) s H1 locs1 → W p l e R s m args below meth c H1 locs1 cells slots Q (F0 m (pc + 1) ls rest)) : W p l e R s m args below meth c H locs cells slots Q (F0 m pc ls (.int x :: .int i :: .ref (G.2.1 k) :: rest)) :=
  va_iast C.1 C.2.1 C.2.2.2.2.2.2.2.1 E.1 E.2.1 E.2.2 k 0 (fm_en_at hk) rfl (fm_in_vp hin) hdg (fun H1 locs1 hP _ hS => kk H1 locs1 (E.to hk (by simp only [fm_cell, fm_si_eq]) (fun j sj _ hj => fm_cell_off (fm_si_ne hj) rfl (fun _ => rfl)) hP hS))
theorem fm_bast (C : fm_Cx SH G p s m args meth c cc nL own ret) (E : fm_Wd SH G M s H locs) {k n : Nat} {fl : List (Option Nat)} {i x : Int32} (hk : SH[k]? = some (1, n, fl)) (hin : fm_in i n = true) (hdg : decode cc pc = .ok (.bastore, 1))
    (kk : ∀ (H1 : Heap) (locs1 : List Loc), fm_Wd SH G (fm_si M k i.toNatClampNeg (vp_nar .byte x)) s H1 locs1 → W p l e R s m args below meth c H1 locs1 cells slots Q (F0 m (pc + 1) ls rest)) : W p l e R s m args below meth c H locs cells slots Q (F0 m pc ls (.int x :: .int i :: .ref (G.2.1 k) :: rest)) :=
  va_bast C.1 C.2.1 C.2.2.2.2.2.2.2.1 E.1 E.2.1 E.2.2 k 1 (fm_en_at hk) rfl (fm_in_vp hin) hdg (fun H1 locs1 hP _ hS => kk H1 locs1 (E.to hk (by simp only [fm_cell, fm_si_eq]) (fun j sj _ hj => fm_cell_off (fm_si_ne hj) rfl (fun _ => rfl)) hP hS))
theorem fm_zast (C : fm_Cx SH G p s m args meth c cc nL own ret) (E : fm_Wd SH G M s H locs) {k n : Nat} {fl : List (Option Nat)} {i x : Int32} (hk : SH[k]? = some (2, n, fl)) (hin : fm_in i n = true) (hdg : decode cc pc = .ok (.bastore, 1))
    (kk : ∀ (H1 : Heap) (locs1 : List Loc), fm_Wd SH G (fm_si M k i.toNatClampNeg (vp_nar .boolean x)) s H1 locs1 → W p l e R s m args below meth c H1 locs1 cells slots Q (F0 m (pc + 1) ls rest)) : W p l e R s m args below meth c H locs cells slots Q (F0 m pc ls (.int x :: .int i :: .ref (G.2.1 k) :: rest)) :=
  va_zast C.1 C.2.1 C.2.2.2.2.2.2.2.1 E.1 E.2.1 E.2.2 k 2 (fm_en_at hk) rfl (fm_in_vp hin) hdg (fun H1 locs1 hP _ hS => kk H1 locs1 (E.to hk (by simp only [fm_cell, fm_si_eq]) (fun j sj _ hj => fm_cell_off (fm_si_ne hj) rfl (fun _ => rfl)) hP hS))
theorem fm_last (C : fm_Cx SH G p s m args meth c cc nL own ret) (E : fm_Wd SH G M s H locs) {k n : Nat} {fl : List (Option Nat)} {i : Int32} {x : Int64} (hk : SH[k]? = some (3, n, fl)) (hin : fm_in i n = true) (hdg : decode cc pc = .ok (.lastore, 1))
    (kk : ∀ (H1 : Heap) (locs1 : List Loc), fm_Wd SH G (fm_sl M k i.toNatClampNeg x) s H1 locs1 → W p l e R s m args below meth c H1 locs1 cells slots Q (F0 m (pc + 1) ls rest)) : W p l e R s m args below meth c H locs cells slots Q (F0 m pc ls (.long x :: .int i :: .ref (G.2.1 k) :: rest)) :=
  va_last C.1 C.2.1 C.2.2.2.2.2.2.2.1 E.1 E.2.1 E.2.2 k 3 (fm_en_at hk) rfl (fm_in_vp hin) hdg (fun H1 locs1 hP _ hS => kk H1 locs1 (E.to hk (by simp only [fm_cell, fm_sl_eq]) (fun j sj _ hj => fm_cell_off rfl (fm_sl_ne hj) (fun _ => rfl)) hP hS))
/-- a field of a class, as a method of 'own' links it -/
def fm_F (own : String) (index ci j : Nat) : Prop := ∃ (C : String) (T : u_T) (N : Nat), vwCl[ci]? = some (C, T, N) ∧ (∀ w ∈ u_ws C T N, w ∈ fm_TT) ∧ j < N ∧ (T j).1 = C ∧ (Cond.fieldLink own index C (T j).2.1 (T j).2.2.1 ∈ fm_TT ∨ ∃ host, Cond.fieldLinkNest own index C (T j).2.1 (T j).2.2.1 host ∈ fm_NW)
/-- .. one that holds an int and may be written -/
def fm_Fp (own : String) (index ci j : Nat) : Prop := ∃ (C : String) (T : u_T) (N : Nat) (ty : Nat → FieldType), (vwCl[ci]? = some (C, T, N) ∧ (∀ w ∈ u_ws C T N, w ∈ fm_TT) ∧ j < N ∧ (T j).1 = C ∧ (Cond.fieldLink own index C (T j).2.1 (T j).2.2.1 ∈ fm_TT ∨ ∃ host, Cond.fieldLinkNest own index C (T j).2.1 (T j).2.2.1 host ∈ fm_NW)) ∧ (∀ k, k < N → parseFieldDescriptor (T k).2.2.1 = some (ty k)) ∧ (∀ a, a < N → ∀ b, b < N → a ≠ b → (T a).2.1 ≠ (T b).2.1) ∧ (T j).2.2.2 = false ∧ parseFieldDescriptor (T j).2.2.1 = some .int
theorem fm_get (C : fm_Cx SH G p s m args meth c cc nL own ret) (E : fm_Wd SH G M s H locs) {ci k n j index : Nat} {fl : List (Option Nat)} {v : Value} (F : fm_F own index ci j) (hk : SH[k]? = some (ci + 7, n, fl)) {x : Option Nat} (hj : fl[j]? = some x) (hv : fm_v G.2.1 (M.1 k j) x = v) (hdg : decode cc pc = .ok (.getfield index, 3))
    (kk : W p l e R s m args below meth c H locs cells slots Q (F0 m (pc + 3) ls (v :: rest))) : W p l e R s m args below meth c H locs cells slots Q (F0 m pc ls (.ref (G.2.1 k) :: rest)) := by
  obtain ⟨C1, T, N, h1, h2, h3, h4, h5⟩ := F
  have hfs : (fm_fs G.2.1 (M.1 k) fl)[j]? = some v := by rw [fm_fs_at hj, hv]
  rcases h5 with h5 | ⟨host, h5⟩
  · exact va_get (C := C1) (T := T) (N := N) (ref := C1) C.1 C.2.1 C.2.2.2.2.1 h2 C.2.2.2.1 C.2.2.2.2.2.2.2.1 E.1 k (fm_en_at hk) h1 j h3 (C.2.2.2.2.1 _ h5) (fun x hx => by rw [h4] at hx; exact hx) hfs hdg kk
  · exact va_getN (C := C1) (T := T) (N := N) (ref := C1) (host := host) C.1 C.2.1 C.2.2.2.2.1 h2 C.2.2.2.1 C.2.2.2.2.2.2.2.1 E.1 k (fm_en_at hk) h1 j h3 (va_Nw.use rfl (C.2.2.2.2.2.2.2.2.1 _ h5)) (fun x hx => by rw [h4] at hx; exact hx) hfs hdg kk
theorem fm_geti (C : fm_Cx SH G p s m args meth c cc nL own ret) (E : fm_Wd SH G M s H locs) {ci k n j index : Nat} {fl : List (Option Nat)} (F : fm_F own index ci j) (hk : SH[k]? = some (ci + 7, n, fl)) (hj : fl[j]? = some none) (hdg : decode cc pc = .ok (.getfield index, 3))
    (kk : W p l e R s m args below meth c H locs cells slots Q (F0 m (pc + 3) ls (.int (M.1 k j) :: rest))) : W p l e R s m args below meth c H locs cells slots Q (F0 m pc ls (.ref (G.2.1 k) :: rest)) := fm_get C E F hk hj rfl hdg kk
theorem fm_getr (C : fm_Cx SH G p s m args meth c cc nL own ret) (E : fm_Wd SH G M s H locs) {ci k n j index r : Nat} {fl : List (Option Nat)} (F : fm_F own index ci j) (hk : SH[k]? = some (ci + 7, n, fl)) (hj : fl[j]? = some (some r)) (hdg : decode cc pc = .ok (.getfield index, 3))
    (kk : W p l e R s m args below meth c H locs cells slots Q (F0 m (pc + 3) ls (.ref (G.2.1 r) :: rest))) : W p l e R s m args below meth c H locs cells slots Q (F0 m pc ls (.ref (G.2.1 k) :: rest)) := fm_get C E F hk hj rfl hdg kk
theorem fm_put (C : fm_Cx SH G p s m args meth c cc nL own ret) (E : fm_Wd SH G M s H locs) {ci k n j index : Nat} {fl : List (Option Nat)} {x : Int32} (F : fm_Fp own index ci j) (hk : SH[k]? = some (ci + 7, n, fl)) (hj : fl[j]? = some none) (hdg : decode cc pc = .ok (.putfield index, 3))
    (kk : ∀ (H1 : Heap) (locs1 : List Loc), fm_Wd SH G (fm_si M k j x) s H1 locs1 → W p l e R s m args below meth c H1 locs1 cells slots Q (F0 m (pc + 3) ls rest)) : W p l e R s m args below meth c H locs cells slots Q (F0 m pc ls (.int x :: .ref (G.2.1 k) :: rest)) := by
  obtain ⟨C1, T, N, ty, ⟨h1, h2, h3, h4, h5⟩, h6, h7, h8, h9⟩ := F
  have hfl : j < (fm_fs G.2.1 (M.1 k) fl).length := by rw [fm_fs_len]; exact (List.getElem?_eq_some_iff.mp hj).1
  have fin : ∀ (H1 : Heap) (locs1 : List Loc), va_P G.1 vwCl ((fm_en SH G M).set k (G.2.1 k, .inr (ci, (fm_fs G.2.1 (M.1 k) fl).set j (.int x)))) H1 → va_D (fm_A SH G s.heap.size) ((fm_en SH G M).set k (G.2.1 k, .inr (ci, (fm_fs G.2.1 (M.1 k) fl).set j (.int x)))) → va_S (fm_A SH G s.heap.size) s.heap H1 locs1 → W p l e R s m args below meth c H1 locs1 cells slots Q (F0 m (pc + 3) ls rest) :=
    fun H1 locs1 hP _ hS => kk H1 locs1 (E.to hk (by simp only [fm_cell, fm_si_eq, fm_fs_set hj]) (fun j sj _ hj => fm_cell_off (fm_si_ne hj) rfl (fun _ => rfl)) hP hS)
  rcases h5 with h5 | ⟨host, h5⟩
  · exact va_put (C := C1) (T := T) (N := N) (ref := C1) (ty := .int) C.1 C.2.1 C.2.2.2.2.1 h2 ty h6 h7 C.2.2.2.1 C.2.2.2.2.2.2.2.1 E.1 E.2.1 E.2.2 k (fm_en_at hk) h1 j h3 (C.2.2.2.2.1 _ h5) (fun x hx => by rw [h4] at hx; exact hx) h8 h9 rfl rfl hfl hdg fin
  · exact va_putN (C := C1) (T := T) (N := N) (ref := C1) (host := host) (ty := .int) C.1 C.2.1 C.2.2.2.2.1 h2 ty h6 h7 C.2.2.2.1 C.2.2.2.2.2.2.2.1 E.1 E.2.1 E.2.2 k (fm_en_at hk) h1 j h3 (va_Nw.use rfl (C.2.2.2.2.2.2.2.2.1 _ h5)) (fun x hx => by rw [h4] at hx; exact hx) h8 h9 rfl rfl hfl hdg fin
theorem fm_alen (C : fm_Cx SH G p s m args meth c cc nL own ret) (E : fm_Wd SH G M s H locs) {k t n : Nat} {fl : List (Option Nat)} {v : Int32} (hk : SH[k]? = some (t, n, fl)) (ht : t < 7) (hv : Int32.ofNat n = v) (hdg : decode cc pc = .ok (.arraylength, 1))
    (kk : W p l e R s m args below meth c H locs cells slots Q (F0 m (pc + 1) ls (.int v :: rest))) : W p l e R s m args below meth c H locs cells slots Q (F0 m pc ls (.ref (G.2.1 k) :: rest)) := by
  have h := fm_en_at (G := G) (M := M) hk
  match t, ht, h with
  | 0, _, h => exact va_alen C.1 C.2.1 C.2.2.2.2.2.2.2.1 E.1 k 0 h rfl hv hdg kk
  | 1, _, h => exact va_alen C.1 C.2.1 C.2.2.2.2.2.2.2.1 E.1 k 1 h rfl hv hdg kk
  | 2, _, h => exact va_alen C.1 C.2.1 C.2.2.2.2.2.2.2.1 E.1 k 2 h rfl hv hdg kk
  | 3, _, h => exact va_alen C.1 C.2.1 C.2.2.2.2.2.2.2.1 E.1 k 3 h rfl hv hdg kk
  | 4, _, h => exact va_alen C.1 C.2.1 C.2.2.2.2.2.2.2.1 E.1 k 4 h rfl hv hdg kk
  | 5, _, h => exact va_alen C.1 C.2.1 C.2.2.2.2.2.2.2.1 E.1 k 5 h rfl hv hdg kk
  | 6, _, h => exact va_alen C.1 C.2.1 C.2.2.2.2.2.2.2.1 E.1 k 5 h rfl hv hdg kk
  | t + 7, ht, _ => exact absurd ht (by omega)
/-- a static row of ints: its reference, its places -/
theorem fm_gets (C : fm_Cx SH G p s m args meth c cc nL own ret) (E : fm_Wd SH G M s H locs) {q : String × String × List Int32} {index : Nat} (hq : q ∈ fm_Zs) (hl : Cond.fieldLink own index q.1 q.2.1 "[I" ∈ fm_TT ∨ ∃ host, Cond.fieldLinkNest own index q.1 q.2.1 "[I" host ∈ fm_NW) (hdg : decode cc pc = .ok (.getstatic index, 3))
    (kk : ∀ t : Nat, va_T .int t q.2.2.length (fun j => .int (q.2.2.getD j 0)) (fm_A SH G s.heap.size) s s.heap → W p l e R s m args below meth c H locs cells slots Q (F0 m (pc + 3) ls (.ref t :: rest))) : W p l e R s m args below meth c H locs cells slots Q (F0 m pc ls rest) := by
  obtain ⟨t, h1, h2⟩ := C.2.2.2.2.2.2.2.2.2.1 q hq
  rcases hl with hl | ⟨host, hl⟩
  · exact va_gets C.1 C.2.1 h1 E.2.2 C.2.2.2.1 (C.2.2.2.2.1 _ hl) (fun x hx => hx) hdg (kk t h2)
  · exact va_getsN C.1 C.2.1 h1 E.2.2 C.2.2.2.1 (va_Nw.use rfl (C.2.2.2.2.2.2.2.2.1 _ hl)) (fun x hx => hx) hdg (kk t h2)
theorem fm_tld (C : fm_Cx SH G p s m args meth c cc nL own ret) (E : fm_Wd SH G M s H locs) {t : Nat} {xs : List Int32} (hT : va_T .int t xs.length (fun j => .int (xs.getD j 0)) (fm_A SH G s.heap.size) s s.heap) {i : Int32} (hin : fm_in i xs.length = true) (hdg : decode cc pc = .ok (.iaload, 1))
    (kk : W p l e R s m args below meth c H locs cells slots Q (F0 m (pc + 1) ls (.int (xs.getD i.toNatClampNeg 0) :: rest))) : W p l e R s m args below meth c H locs cells slots Q (F0 m pc ls (.int i :: .ref t :: rest)) :=
  va_ti C.1 C.2.1 hT E.2.2 (fm_in_vp hin) rfl hdg kk
/-- the ends -/
theorem fm_iret (C : fm_Cx SH G p s m args meth c cc nL own ret) (E : fm_Wd SH G M s H locs) {v : Int32} {ty : FieldType} (hr : ret = some ty) (hn : narrow ty (.int v) = .int v) (hdg : decode cc pc = .ok (.ireturn, 1)) : W p l e R s m args below meth c H locs 0 0 (MQ below (fm_Q (some (.int v)) SH G M (fm_A SH G s.heap.size)) args s 0 0 (fm_A SH G s.heap.size)) (F0 m pc ls [.int v]) :=
  W.zret C.1 C.2.1 (C.2.2.2.2.2.1.trans hr) hn (fun t ht _ => ⟨⟨rfl, by rw [ht]; exact E.1⟩, E.2.2.F ht⟩) E.2.2.2.2 hdg C.2.2.2.2.2.2.1
theorem fm_vret (C : fm_Cx SH G p s m args meth c cc nL own ret) (E : fm_Wd SH G M s H locs) (hr : ret = none) (hdg : decode cc pc = .ok (.return_, 1)) : W p l e R s m args below meth c H locs 0 0 (MQ below (fm_Q none SH G M (fm_A SH G s.heap.size)) args s 0 0 (fm_A SH G s.heap.size)) (F0 m pc ls []) :=
  W.vret C.1 C.2.1 (C.2.2.2.2.2.1.trans hr) (fun t ht _ => ⟨⟨rfl, by rw [ht]; exact E.1⟩, E.2.2.F ht⟩) E.2.2.2.2 hdg C.2.2.2.2.2.2.1
theorem fm_lret (C : fm_Cx SH G p s m args meth c cc nL own ret) (E : fm_Wd SH G M s H locs) {v : Int64} (hr : ret = some .long) (hdg : decode cc pc = .ok (.lreturn, 1)) : W p l e R s m args below meth c H locs 0 0 (MQ below (fm_Q (some (.long v)) SH G M (fm_A SH G s.heap.size)) args s 0 0 (fm_A SH G s.heap.size)) (F0 m pc ls [.long v]) :=
  W.lret C.1 C.2.1 (C.2.2.2.2.2.1.trans hr) (fun t ht _ => ⟨⟨rfl, by rw [ht]; exact E.1⟩, E.2.2.F ht⟩) E.2.2.2.2 hdg C.2.2.2.2.2.2.1
theorem fm_aret (C : fm_Cx SH G p s m args meth c cc nL own ret) (E : fm_Wd SH G M s H locs) {a : Nat} {rt : FieldType} (hr : ret = some rt) (hrt : (∃ n, rt = .object n) ∨ ∃ t, rt = .array t) (hdg : decode cc pc = .ok (.areturn, 1)) : W p l e R s m args below meth c H locs 0 0 (MQ below (fm_Q (some (.ref a)) SH G M (fm_A SH G s.heap.size)) args s 0 0 (fm_A SH G s.heap.size)) (F0 m pc ls [.ref a]) :=
  W.aret C.1 C.2.1 (C.2.2.2.2.2.1.trans hr) hrt (Or.inr ⟨a, rfl⟩) (fun t ht _ => ⟨⟨rfl, by rw [ht]; exact E.1⟩, E.2.2.F ht⟩) E.2.2.2.2 hdg C.2.2.2.2.2.2.1
end FMR
