/-! ===== rows of the constructors ===== -/
theorem fm_RA_one {s : State} {a b : ClassId} {ty : FieldType} (h1 : va_RA s a ty) (h2 : va_RA s b ty) : b = a := by
  cases ty with
  | object C =>
    obtain ⟨_, _, -, -, -, f1⟩ := h1
    obtain ⟨_, _, -, -, -, f2⟩ := h2
    exact Option.some.inj (f2.symm.trans f1)
  | _ => exact Option.some.inj (Eq.trans (Eq.symm h2) h1)
theorem fm_kcA {G : fm_G} {s : State} {cA : ClassId} {ty : FieldType} {t : Nat} (hK : va_K G.1 vwCl (fm_ty G) s) (h2 : va_K G.1 vwCl (fm_ty G ++ [(cA, ty)]) s) (ht : (fm_ty G)[t]? = some (G.2.2.1 t, ty)) : cA = G.2.2.1 t :=
  fm_RA_one (hK.2 t _ ht).2 (h2.2 6 (cA, ty) rfl).2
def fm_kc (G : fm_G) (p : Program) (s : State) (m : MethodId) (args : Array Value) (c : Code) (cc : ByteArray) (nL : Nat) (own : String) : Prop :=
  p.tables.exec = Jvm.exec ∧ c.code = cc ∧ c.maxLocals = nL ∧ s.vm.findClass own = some m.cls ∧ (∀ w ∈ fm_TT, w.before args s = true) ∧ fm_kg G s
def fm_kW (G : fm_G) (A : Nat → Prop) (ws : va_W) (s : State) (H : Heap) (locs : List Loc) : Prop := va_P G.1 vwCl ws H ∧ va_D A ws ∧ va_S A s.heap H locs ∧ ∀ q, s.heap.size ≤ q → A q
/-- a class that is made -/
def fm_N (own : String) (index ci N : Nat) (fs : List Value) : Prop := ∃ (Cn : String) (T : u_T) (ty : Nat → FieldType), vwCl[ci]? = some (Cn, T, N) ∧ (∀ w ∈ u_ws Cn T N, w ∈ fm_TT) ∧ (∀ k, k < N → parseFieldDescriptor (T k).2.2.1 = some (ty k)) ∧ Cond.classLink own index Cn ∈ fm_TT ∧ Cond.instantiable Cn N ∈ fm_TT ∧ Cond.initialized Cn ∈ fm_TT ∧ ∀ j, j < N → defaultValue (ty j) = vp_V fs j
/-- a field of the class's own that a constructor writes, its finality fi -/
def fm_Fc (own : String) (index ci j : Nat) (fi : Bool) (tv : FieldType) : Prop := ∃ (T : u_T) (N : Nat) (ty : Nat → FieldType), vwCl[ci]? = some (own, T, N) ∧ (∀ w ∈ u_ws own T N, w ∈ fm_TT) ∧ j < N ∧ (T j).1 = own ∧ Cond.fieldLink own index own (T j).2.1 (T j).2.2.1 ∈ fm_TT ∧ (∀ k, k < N → parseFieldDescriptor (T k).2.2.1 = some (ty k)) ∧ (∀ a, a < N → ∀ b, b < N → a ≠ b → (T a).2.1 ≠ (T b).2.1) ∧ (T j).2.2.2 = fi ∧ parseFieldDescriptor (T j).2.2.1 = some tv
def fm_au (ad : Nat → Nat) (k q : Nat) : Nat → Nat := fun j => if j = k then q else ad j
theorem fm_au_at {ad : Nat → Nat} {k q : Nat} : fm_au ad k q k = q := if_pos rfl
theorem fm_au_lt {ad : Nat → Nat} {k q : Nat} : ∀ j, j < k → fm_au ad k q j = ad j := fun j h => if_neg (by omega)
/-- a cell more -/
theorem fm_kfold {G : fm_G} {M : fm_M} {b ci : Nat} {hl : List Nat} {SH : List fm_Sh} {ad : Nat → Nat} {sh : fm_Sh} {q k : Nat} {e : va_E} (hk : k = b + 1 + SH.length) (h0 : fm_okh k hl = true) (h1 : fm_okS k SH = true) (he : fm_cell (fm_ga G (fm_au ad k q)) M sh k = e) : fm_kw G M b ci hl SH ad ++ [(q, e)] = fm_kw G M b ci hl (SH ++ [sh]) (fm_au ad k q) := by
  rw [← fm_kw_ad (ad' := fm_au ad k q) h0 h1 (by omega) fm_au_lt]
  unfold fm_kw
  rw [fm_enS_app, List.cons_append, ← hk]
  have : fm_enS k [sh] (fm_ga G (fm_au ad k q)) M = [(q, e)] := by
    show [((fm_au ad k q) (k + 0), fm_cell (fm_ga G (fm_au ad k q)) M sh (k + 0))] = _
    rw [Nat.add_zero, fm_au_at, he]
  rw [this]
section FMK
variable {p : Program} {l : Launch} {e : Env} {R : Room} {s : State} {m : MethodId} {args : Array Value} {below : List Frame} {meth : Method} {c : Code} {H : Heap} {locs : List Loc} {cells slots : Nat} {Q : State → Prop}
variable {cc : ByteArray} {pc nL : Nat} {ls : Array Slot} {rest : List Value} {own : String} {G : fm_G} {M : fm_M} {A : Nat → Prop} {ws : va_W} {ad : Nat → Nat} {b ci : Nat} {hl : List Nat} {SH : List fm_Sh}
theorem fm_knew (C : fm_kc G p s m args c cc nL own) (E : fm_kW G A ws s H locs) {index cj N : Nat} {fs : List Value} (hN : fm_N own index cj N fs) (hcs : cells + 1 ≤ R.cells ∧ slots + N ≤ R.slots) (hdg : decode cc pc = .ok (.new index, 3))
    (kk : ∀ (q : Nat) (H1 : Heap), fm_kW G A (ws ++ [(q, .inr (cj, fs))]) s H1 locs → W p l e R s m args below meth c H1 locs (cells + 1) (slots + N) Q (F0 m (pc + 3) ls (.ref q :: rest))) : W p l e R s m args below meth c H locs cells slots Q (F0 m pc ls rest) := by
  obtain ⟨Cn, T, ty, h1, h2, h3, h4, h5, h6, h7⟩ := hN
  exact va_new C.1 C.2.1 C.2.2.2.2.1 h2 ty h3 C.2.2.2.1 (C.2.2.2.2.1 _ h4) (C.2.2.2.2.1 _ h5) (C.2.2.2.2.1 _ h6) C.2.2.2.2.2.1 E.1 E.2.1 E.2.2.1 E.2.2.2 h1 h7 hcs.1 hcs.2 hdg (fun q H1 a1 a2 a3 => kk q H1 ⟨a1, a2, a3, E.2.2.2⟩)
theorem fm_knewa (C : fm_kc G p s m args c cc nL own) (E : fm_kW G A ws s H locs) {atype : ArrayType} {ty : FieldType} (hty : newarray.typeOf atype = ty) {t : Nat} (ht : (fm_ty G)[t]? = some (G.2.2.1 t, ty)) (hw : Cond.arrayClass (newarray.typeOf atype) ∈ fm_TT) {n : Int32} {N' : Nat} {a0 : vp_A} (ha : ∀ cA : ClassId, vp_cell cA a0 = arrV cA N' (fun _ => defaultValue ty)) (hn : ¬ n < 0) (hN : n.toNatClampNeg = N') (hbytes : N' * componentBytes ty ≤ 536870912) (hcs : cells + 1 ≤ R.cells ∧ slots + N' ≤ R.slots) (hdg : decode cc pc = .ok (.newarray atype, 2))
    (kk : ∀ (q : Nat) (H1 : Heap), fm_kW G A (ws ++ [(q, .inl (G.2.2.1 t, a0))]) s H1 locs → W p l e R s m args below meth c H1 locs (cells + 1) (slots + N') Q (F0 m (pc + 2) ls (.ref q :: rest))) : W p l e R s m args below meth c H locs cells slots Q (F0 m pc ls (.int n :: rest)) := by
  refine va_newa C.1 C.2.1 (C.2.2.2.2.1 _ hw) hty C.2.2.2.2.2.1 E.1 E.2.1 E.2.2.1 E.2.2.2 ha hn hN hbytes hcs.1 hcs.2 hdg (fun q cA H1 k1 a1 a2 a3 => ?_)
  obtain rfl := fm_kcA C.2.2.2.2.2.1 k1 ht
  exact kk q H1 ⟨a1, a2, a3, E.2.2.2⟩
/-- an array of the object that is being made -/
theorem fm_kwa (C : fm_kc G p s m args c cc nL own) (E : fm_kW G A (fm_kw G M b ci hl SH ad) s H locs) {atype : ArrayType} {ty : FieldType} (hty : newarray.typeOf atype = ty) {t : Nat} (ht : (fm_ty G)[t]? = some (G.2.2.1 t, ty)) (hw : Cond.arrayClass (newarray.typeOf atype) ∈ fm_TT) {n : Int32} {N' k : Nat} {a0 : vp_A} (ha : ∀ cA : ClassId, vp_cell cA a0 = arrV cA N' (fun _ => defaultValue ty)) (hn : ¬ n < 0) (hN : n.toNatClampNeg = N') (hbytes : N' * componentBytes ty ≤ 536870912) (hcs : cells + 1 ≤ R.cells ∧ slots + N' ≤ R.slots) (hdg : decode cc pc = .ok (.newarray atype, 2))
    (sh : fm_Sh) (hk : k = b + 1 + SH.length) (h0 : fm_okh k hl = true) (h1 : fm_okS k SH = true) (he : ∀ ad' : Nat → Nat, fm_cell (fm_ga G ad') M sh k = .inl (G.2.2.1 t, a0))
    (kk : ∀ (ad' : Nat → Nat) (H1 : Heap), (∀ j, j < k → ad' j = ad j) → fm_kW G A (fm_kw G M b ci hl (SH ++ [sh]) ad') s H1 locs → W p l e R s m args below meth c H1 locs (cells + 1) (slots + N') Q (F0 m (pc + 2) ls (.ref (ad' k) :: rest))) : W p l e R s m args below meth c H locs cells slots Q (F0 m pc ls (.int n :: rest)) := by
  refine fm_knewa C E hty ht hw ha hn hN hbytes hcs hdg (fun q H1 E1 => ?_)
  rw [fm_kfold hk h0 h1 (he (fm_au ad k q))] at E1
  have := kk (fm_au ad k q) H1 fm_au_lt E1
  rw [fm_au_at] at this
  exact this
/-- an array of Scenes -/
theorem fm_kwq (C : fm_kc G p s m args c cc nL own) (E : fm_kW G A (fm_kw G M b ci hl SH ad) s H locs) {index : Nat} (hw : Cond.classLink own index "MicRow$Scene" ∈ fm_TT) {n : Int32} {N' k : Nat} (hn : ¬ n < 0) (hN : n.toNatClampNeg = N') (hbytes : N' * 4 ≤ 536870912) (hcs : cells + 1 ≤ R.cells ∧ slots + N' ≤ R.slots) (hdg : decode cc pc = .ok (.anewarray index, 3))
    (fl : List (Option Nat)) (hfl : ∀ o ∈ fl, o = none) (hk : k = b + 1 + SH.length) (h0 : fm_okh k hl = true) (h1 : fm_okS k SH = true)
    (kk : ∀ (ad' : Nat → Nat) (H1 : Heap), (∀ j, j < k → ad' j = ad j) → fm_kW G A (fm_kw G M b ci hl (SH ++ [(5, N', fl)]) ad') s H1 locs → W p l e R s m args below meth c H1 locs (cells + 1) (slots + N') Q (F0 m (pc + 3) ls (.ref (ad' k) :: rest))) : W p l e R s m args below meth c H locs cells slots Q (F0 m pc ls (.int n :: rest)) := by
  refine va_newq C.1 C.2.1 C.2.2.2.1 (C.2.2.2.2.1 _ hw) C.2.2.2.2.2.2.2.1 C.2.2.2.2.2.1 E.1 E.2.1 E.2.2.1 E.2.2.2 hn hN hbytes hcs.1 hcs.2 hdg (fun q cA H1 k1 a1 a2 a3 => ?_)
  obtain rfl : cA = G.2.2.1 5 := fm_kcA C.2.2.2.2.2.1 k1 rfl
  have he : fm_cell (fm_ga G (fm_au ad k q)) M (5, N', fl) k = .inl (G.2.2.1 5, N', .inr (.inr (.inr (.inr (fun _ => none))))) := by
    refine congrArg (fun f => (Sum.inl (G.2.2.1 5, N', .inr (.inr (.inr (.inr f)))) : va_E)) (funext fun i => ?_)
    show (fl.getD i none).map _ = none
    rw [List.getD_eq_getElem?_getD]
    cases hi : fl[i]? with
    | none => rfl
    | some o => rw [hfl o (List.mem_of_getElem? hi)]; rfl
  have E1 : fm_kW G A (fm_kw G M b ci hl SH ad ++ [(q, .inl (G.2.2.1 5, N', .inr (.inr (.inr (.inr (fun _ => none))))))]) s H1 locs := ⟨a1, a2, a3, E.2.2.2⟩
  rw [fm_kfold hk h0 h1 he] at E1
  have := kk (fm_au ad k q) H1 fm_au_lt E1
  rw [fm_au_at] at this
  exact this
/-- a field that holds a thing -/
theorem fm_kput (C : fm_kc G p s m args c cc nL own) (hin : meth.name = "<init>") (E : fm_kW G A (fm_kw G M b ci hl SH ad) s H locs) {index j k a x : Nat} {tv : FieldType} (F : fm_Fc own index ci j true tv) (hn : narrow tv (.ref x) = .ref x) (hf : fits tv (.ref x) = true) (hj : j < hl.length) (ha : ad b = a) (hx : ad k = x) (hdg : decode cc pc = .ok (.putfield index, 3))
    (kk : ∀ (H1 : Heap) (locs1 : List Loc), fm_kW G A (fm_kw G M b ci (hl.set j (k + 3)) SH ad) s H1 locs1 → W p l e R s m args below meth c H1 locs1 cells slots Q (F0 m (pc + 3) ls rest)) : W p l e R s m args below meth c H locs cells slots Q (F0 m pc ls (.ref x :: .ref a :: rest)) := by
  obtain ⟨T, N, ty, h1, h2, h3, h4, h5, h6, h7, h8, h9⟩ := F
  subst ha
  subst hx
  refine va_putF (C := own) (T := T) (N := N) (ref := own) (ty := tv) C.1 C.2.1 C.2.2.2.2.1 h2 ty h6 h7 C.2.2.2.1 C.2.2.2.2.2.1 E.1 E.2.1 E.2.2.1 0 rfl h1 j h3 (C.2.2.2.2.1 _ h5) (fun x hx => by rw [h4] at hx; exact hx) h8 hin h4 h9 hn hf (by rw [fm_hfs_len]; exact hj) hdg (fun H1 locs1 a1 a2 a3 => ?_)
  refine kk H1 locs1 ⟨?_, ?_, a3, E.2.2.2⟩
  · have e : fm_kw G M b ci (hl.set j (k + 3)) SH ad = (fm_kw G M b ci hl SH ad).set 0 (ad b, .inr (ci, (fm_hfs ad (M.1 b) hl).set j (.ref (ad k)))) := by
      unfold fm_kw
      rw [← fm_hfs_set]
      rfl
    rw [e]; exact a1
  · have e : fm_kw G M b ci (hl.set j (k + 3)) SH ad = (fm_kw G M b ci hl SH ad).set 0 (ad b, .inr (ci, (fm_hfs ad (M.1 b) hl).set j (.ref (ad k)))) := by
      unfold fm_kw
      rw [← fm_hfs_set]
      rfl
    rw [e]; exact a2
/-- a field that holds an int -/
theorem fm_kputi (C : fm_kc G p s m args c cc nL own) (E : fm_kW G A (fm_kw G M b ci hl SH ad) s H locs) {index j a : Nat} {x : Int32} (F : fm_Fc own index ci j false .int) (hj : j < hl.length) (ha : ad b = a) (hx : M.1 b j = x) (hdg : decode cc pc = .ok (.putfield index, 3))
    (kk : ∀ (H1 : Heap) (locs1 : List Loc), fm_kW G A (fm_kw G M b ci (hl.set j 0) SH ad) s H1 locs1 → W p l e R s m args below meth c H1 locs1 cells slots Q (F0 m (pc + 3) ls rest)) : W p l e R s m args below meth c H locs cells slots Q (F0 m pc ls (.int x :: .ref a :: rest)) := by
  obtain ⟨T, N, ty, h1, h2, h3, h4, h5, h6, h7, h8, h9⟩ := F
  subst ha
  subst hx
  refine va_put (C := own) (T := T) (N := N) (ref := own) (ty := .int) C.1 C.2.1 C.2.2.2.2.1 h2 ty h6 h7 C.2.2.2.1 C.2.2.2.2.2.1 E.1 E.2.1 E.2.2.1 0 rfl h1 j h3 (C.2.2.2.2.1 _ h5) (fun x hx => by rw [h4] at hx; exact hx) h8 h9 rfl rfl (by rw [fm_hfs_len]; exact hj) hdg (fun H1 locs1 a1 a2 a3 => ?_)
  have e : fm_kw G M b ci (hl.set j 0) SH ad = (fm_kw G M b ci hl SH ad).set 0 (ad b, .inr (ci, (fm_hfs ad (M.1 b) hl).set j (.int (M.1 b j)))) := by
    unfold fm_kw
    rw [← fm_hfs_set]
    rfl
  exact kk H1 locs1 ⟨by rw [e]; exact a1, by rw [e]; exact a2, a3, E.2.2.2⟩
/-- a field of its own is read -/
theorem fm_kget (C : fm_kc G p s m args c cc nL own) {ex : va_W} (E : fm_kW G A (fm_kw G M b ci hl SH ad ++ ex) s H locs) {index j k a : Nat} (F : fm_F own index ci j) (hj : hl[j]? = some (k + 3)) (ha : ad b = a) (hdg : decode cc pc = .ok (.getfield index, 3))
    (kk : W p l e R s m args below meth c H locs cells slots Q (F0 m (pc + 3) ls (.ref (ad k) :: rest))) : W p l e R s m args below meth c H locs cells slots Q (F0 m pc ls (.ref a :: rest)) := by
  obtain ⟨C1, T, N, h1, h2, h3, h4, h5⟩ := F
  subst ha
  have hfs : (fm_hfs ad (M.1 b) hl)[j]? = some (.ref (ad k)) := fm_hfs_at hj
  rcases h5 with h5 | ⟨host, h5⟩
  · exact va_get (C := C1) (T := T) (N := N) (ref := C1) C.1 C.2.1 C.2.2.2.2.1 h2 C.2.2.2.1 C.2.2.2.2.2.1 E.1 0 rfl h1 j h3 (C.2.2.2.2.1 _ h5) (fun x hx => by rw [h4] at hx; exact hx) hfs hdg kk
  · exact va_getN (C := C1) (T := T) (N := N) (ref := C1) (host := host) C.1 C.2.1 C.2.2.2.2.1 h2 C.2.2.2.1 C.2.2.2.2.2.1 E.1 0 rfl h1 j h3 (va_Nw.use rfl (C.2.2.2.2.2.2.1 _ h5)) (fun x hx => by rw [h4] at hx; exact hx) hfs hdg kk
/-- Object.<init> -/
theorem fm_kobj (C : fm_kc G p s m args c cc nL own) {index a : Nat} (hw : Cond.methodLink own index Lib.objectInit ∈ fm_TT) (h1 : Cond.instanceMethod Lib.objectInit ∈ fm_TT) (h2 : Cond.code Lib.objectInit ⟨#[0xb1]⟩ 1 none ∈ fm_TT) (hsz : ls.size = nL) (hR : 1 ≤ R.frames ∧ 20 ≤ R.locals) (hdg : decode cc pc = .ok (.invokespecial index, 3))
    (kk : W p l e R s m args below meth c H locs cells slots Q (F0 m (pc + 3) ls [])) : W p l e R s m args below meth c H locs cells slots Q (F0 m pc ls [.ref a]) :=
  W.objInit C.1 C.2.1 C.2.2.2.1 (C.2.2.2.2.1 _ hw) (C.2.2.2.2.1 _ h1) (C.2.2.2.2.1 _ h2) rfl (hsz.trans C.2.2.1.symm) rfl hdg hR.1 (by show 2 * 0 + 0 + 12 ≤ R.locals; omega) kk
end FMK
