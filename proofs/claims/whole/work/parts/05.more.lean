/-! ===== more rows: what is read or made gets a name ===== -/
def fm_pt {α : Type} (M : fm_M) (k j : Nat) (v : Int32) (K : fm_M → Option α) : Option α := K (fm_si M k j v)
theorem fm_pt_s {α : Type} {M : fm_M} {k j : Nat} {v : Int32} {K : fm_M → Option α} {r : α} (h : fm_pt M k j v K = some r) : ∃ M1, M1 = fm_si M k j v ∧ K M1 = some r := ⟨_, rfl, h⟩
theorem fm_ld_e {α : Type} {n : Nat} {M : fm_M} {k : Nat} {i : Int32} {K : Int32 → Option α} {r : α} (h : fm_ld n M k i K = some r) : fm_in i n = true ∧ ∃ x, x = M.1 k i.toNatClampNeg ∧ K x = some r := ⟨(fm_ld_s h).1, _, rfl, (fm_ld_s h).2⟩
theorem fm_ldl_e {α : Type} {n : Nat} {M : fm_M} {k : Nat} {i : Int32} {K : Int64 → Option α} {r : α} (h : fm_ldl n M k i K = some r) : fm_in i n = true ∧ ∃ x, x = M.2.1 k i.toNatClampNeg ∧ K x = some r := ⟨(fm_ldl_s h).1, _, rfl, (fm_ldl_s h).2⟩
theorem fm_st_e {α : Type} {n : Nat} {M : fm_M} {k : Nat} {i v : Int32} {K : fm_M → Option α} {r : α} (h : fm_st n M k i v K = some r) : fm_in i n = true ∧ ∃ M1, M1 = fm_si M k i.toNatClampNeg v ∧ K M1 = some r := ⟨(fm_st_s h).1, _, rfl, (fm_st_s h).2⟩
theorem fm_stl_e {α : Type} {n : Nat} {M : fm_M} {k : Nat} {i : Int32} {v : Int64} {K : fm_M → Option α} {r : α} (h : fm_stl n M k i v K = some r) : fm_in i n = true ∧ ∃ M1, M1 = fm_sl M k i.toNatClampNeg v ∧ K M1 = some r := ⟨(fm_stl_s h).1, _, rfl, (fm_stl_s h).2⟩
theorem fm_ix_e {α β : Type} {n : Nat} {f : Nat → β} {i : Int32} {K : β → Option α} {r : α} (h : fm_ix n f i K = some r) : fm_in i n = true ∧ ∃ q, q = f i.toNatClampNeg ∧ K q = some r := ⟨(fm_ix_s h).1, _, rfl, (fm_ix_s h).2⟩
theorem fm_ix_t {α : Type} {SH : List fm_Sh} {sh : fm_Sh} {n b : Nat} {i : Int32} {K : Nat → Option α} {r : α} (ht : ∀ j, j < n → SH[b + j]? = some sh) (h : fm_ix n (fun j => b + j) i K = some r) : ∃ q, fm_in i n = true ∧ SH[q]? = some sh ∧ q = b + i.toNatClampNeg ∧ K q = some r := by
  obtain ⟨h1, h2⟩ := fm_ix_s h
  exact ⟨_, h1, ht _ (fm_in_lt h1), rfl, h2⟩
theorem fm_io {α : Type} {c : Prop} [Decidable c] {a b : Option α} {r : α} (h : (if c then a else b) = some r) : (c ∧ a = some r) ∨ (¬ c ∧ b = some r) := by
  by_cases hc : c
  · exact Or.inl ⟨hc, fm_ip h hc⟩
  · exact Or.inr ⟨hc, fm_in' h hc⟩
theorem fm_all {ws : List Cond} (h : ws.all (fun w => decide (w ∈ lw_tbl) && goodWord w) = true) : ∀ w ∈ ws, w ∈ fm_TT := by
  intro w hw
  have h1 := List.all_eq_true.mp h w hw
  simp only [Bool.and_eq_true, decide_eq_true_eq] at h1
  exact fm_tt h1.1 h1.2
def fm_sp {α : Type} (n : Nat) (M : fm_M) (i : Int32) (v : Nat) (K : fm_M → Option α) : Option α := if fm_in i n = true then K (fm_sr M i.toNatClampNeg v) else none
theorem fm_sp_e {α : Type} {n : Nat} {M : fm_M} {i : Int32} {v : Nat} {K : fm_M → Option α} {r : α} (h : fm_sp n M i v K = some r) : fm_in i n = true ∧ ∃ M1, M1 = fm_sr M i.toNatClampNeg v ∧ K M1 = some r := by
  unfold fm_sp at h
  split at h
  · exact ⟨by assumption, _, rfl, h⟩
  · cases h
def fm_cp {α : Type} (M : fm_M) (a b N : Nat) (K : fm_M → Option α) : Option α := K (fm_row M b (va_cpy (M.1 a) (M.1 b) 0 0 N))
theorem fm_cp_s {α : Type} {M : fm_M} {a b N : Nat} {K : fm_M → Option α} {r : α} (h : fm_cp M a b N K = some r) : ∃ M1, M1 = fm_row M b (va_cpy (M.1 a) (M.1 b) 0 0 N) ∧ K M1 = some r := ⟨_, rfl, h⟩
section FMM
variable {p : Program} {l : Launch} {e : Env} {R : Room} {s : State} {m : MethodId} {args : Array Value} {below : List Frame} {meth : Method} {c : Code} {H : Heap} {locs : List Loc} {cells slots : Nat} {Q : State → Prop}
variable {cc : ByteArray} {pc nL : Nat} {ls : Array Slot} {rest : List Value} {own : String} {ret : Option FieldType} {SH : List fm_Sh} {G : fm_G} {M M1 : fm_M}
theorem fm_iald' (C : fm_Cx SH G p s m args meth c cc nL own ret) (E : fm_Wd SH G M s H locs) {k n : Nat} {fl : List (Option Nat)} {i x : Int32} (hx : x = M.1 k i.toNatClampNeg) (hk : SH[k]? = some (0, n, fl)) (hin : fm_in i n = true) (hdg : decode cc pc = .ok (.iaload, 1))
    (kk : W p l e R s m args below meth c H locs cells slots Q (F0 m (pc + 1) ls (.int x :: rest))) : W p l e R s m args below meth c H locs cells slots Q (F0 m pc ls (.int i :: .ref (G.2.1 k) :: rest)) := by
  subst hx; exact fm_iald C E hk hin hdg kk
theorem fm_bald' (C : fm_Cx SH G p s m args meth c cc nL own ret) (E : fm_Wd SH G M s H locs) {k n : Nat} {fl : List (Option Nat)} {i x : Int32} (hx : x = M.1 k i.toNatClampNeg) (hk : SH[k]? = some (1, n, fl)) (hin : fm_in i n = true) (hdg : decode cc pc = .ok (.baload, 1))
    (kk : W p l e R s m args below meth c H locs cells slots Q (F0 m (pc + 1) ls (.int x :: rest))) : W p l e R s m args below meth c H locs cells slots Q (F0 m pc ls (.int i :: .ref (G.2.1 k) :: rest)) := by
  subst hx; exact fm_bald C E hk hin hdg kk
theorem fm_zald' (C : fm_Cx SH G p s m args meth c cc nL own ret) (E : fm_Wd SH G M s H locs) {k n : Nat} {fl : List (Option Nat)} {i x : Int32} (hx : x = M.1 k i.toNatClampNeg) (hk : SH[k]? = some (2, n, fl)) (hin : fm_in i n = true) (hdg : decode cc pc = .ok (.baload, 1))
    (kk : W p l e R s m args below meth c H locs cells slots Q (F0 m (pc + 1) ls (.int x :: rest))) : W p l e R s m args below meth c H locs cells slots Q (F0 m pc ls (.int i :: .ref (G.2.1 k) :: rest)) := by
  subst hx; exact fm_zald C E hk hin hdg kk
theorem fm_lald' (C : fm_Cx SH G p s m args meth c cc nL own ret) (E : fm_Wd SH G M s H locs) {k n : Nat} {fl : List (Option Nat)} {i : Int32} {x : Int64} (hx : x = M.2.1 k i.toNatClampNeg) (hk : SH[k]? = some (3, n, fl)) (hin : fm_in i n = true) (hdg : decode cc pc = .ok (.laload, 1))
    (kk : W p l e R s m args below meth c H locs cells slots Q (F0 m (pc + 1) ls (.long x :: rest))) : W p l e R s m args below meth c H locs cells slots Q (F0 m pc ls (.int i :: .ref (G.2.1 k) :: rest)) := by
  subst hx; exact fm_lald C E hk hin hdg kk
theorem fm_pald' (C : fm_Cx SH G p s m args meth c cc nL own ret) (E : fm_Wd SH G M s H locs) {k n q : Nat} {fl : List (Option Nat)} {i : Int32} (hx : q = M.2.2 i.toNatClampNeg) (hk : SH[k]? = some (6, n, fl)) (hin : fm_in i n = true) (hdg : decode cc pc = .ok (.aaload, 1))
    (kk : W p l e R s m args below meth c H locs cells slots Q (F0 m (pc + 1) ls (.ref (G.2.1 q) :: rest))) : W p l e R s m args below meth c H locs cells slots Q (F0 m pc ls (.int i :: .ref (G.2.1 k) :: rest)) := by
  subst hx; exact fm_pald C E hk hin hdg kk
theorem fm_iast' (C : fm_Cx SH G p s m args meth c cc nL own ret) (E : fm_Wd SH G M s H locs) {k n : Nat} {fl : List (Option Nat)} {i x : Int32} (hx : M1 = fm_si M k i.toNatClampNeg x) (hk : SH[k]? = some (0, n, fl)) (hin : fm_in i n = true) (hdg : decode cc pc = .ok (.iastore, 1))
    (kk : ∀ (H1 : Heap) (locs1 : List Loc), fm_Wd SH G M1 s H1 locs1 → W p l e R s m args below meth c H1 locs1 cells slots Q (F0 m (pc + 1) ls rest)) : W p l e R s m args below meth c H locs cells slots Q (F0 m pc ls (.int x :: .int i :: .ref (G.2.1 k) :: rest)) := by
  subst hx; exact fm_iast C E hk hin hdg kk
theorem fm_iastc' (C : fm_Cx SH G p s m args meth c cc nL own ret) (E : fm_Wd SH G M s H locs) {k n : Nat} {fl : List (Option Nat)} {i x : Int32} (j : Nat) (hj : i.toNatClampNeg = j) (hx : M1 = fm_si M k j x) (hk : SH[k]? = some (0, n, fl)) (hin : fm_in i n = true) (hdg : decode cc pc = .ok (.iastore, 1))
    (kk : ∀ (H1 : Heap) (locs1 : List Loc), fm_Wd SH G M1 s H1 locs1 → W p l e R s m args below meth c H1 locs1 cells slots Q (F0 m (pc + 1) ls rest)) : W p l e R s m args below meth c H locs cells slots Q (F0 m pc ls (.int x :: .int i :: .ref (G.2.1 k) :: rest)) := by
  subst hx; exact fm_iastc C E j hj hk hin hdg kk
theorem fm_bast' (C : fm_Cx SH G p s m args meth c cc nL own ret) (E : fm_Wd SH G M s H locs) {k n : Nat} {fl : List (Option Nat)} {i x : Int32} (hx : M1 = fm_si M k i.toNatClampNeg (vp_nar .byte x)) (hk : SH[k]? = some (1, n, fl)) (hin : fm_in i n = true) (hdg : decode cc pc = .ok (.bastore, 1))
    (kk : ∀ (H1 : Heap) (locs1 : List Loc), fm_Wd SH G M1 s H1 locs1 → W p l e R s m args below meth c H1 locs1 cells slots Q (F0 m (pc + 1) ls rest)) : W p l e R s m args below meth c H locs cells slots Q (F0 m pc ls (.int x :: .int i :: .ref (G.2.1 k) :: rest)) := by
  subst hx; exact fm_bast C E hk hin hdg kk
theorem fm_zast' (C : fm_Cx SH G p s m args meth c cc nL own ret) (E : fm_Wd SH G M s H locs) {k n : Nat} {fl : List (Option Nat)} {i x : Int32} (hx : M1 = fm_si M k i.toNatClampNeg (vp_nar .boolean x)) (hk : SH[k]? = some (2, n, fl)) (hin : fm_in i n = true) (hdg : decode cc pc = .ok (.bastore, 1))
    (kk : ∀ (H1 : Heap) (locs1 : List Loc), fm_Wd SH G M1 s H1 locs1 → W p l e R s m args below meth c H1 locs1 cells slots Q (F0 m (pc + 1) ls rest)) : W p l e R s m args below meth c H locs cells slots Q (F0 m pc ls (.int x :: .int i :: .ref (G.2.1 k) :: rest)) := by
  subst hx; exact fm_zast C E hk hin hdg kk
theorem fm_last' (C : fm_Cx SH G p s m args meth c cc nL own ret) (E : fm_Wd SH G M s H locs) {k n : Nat} {fl : List (Option Nat)} {i : Int32} {x : Int64} (hx : M1 = fm_sl M k i.toNatClampNeg x) (hk : SH[k]? = some (3, n, fl)) (hin : fm_in i n = true) (hdg : decode cc pc = .ok (.lastore, 1))
    (kk : ∀ (H1 : Heap) (locs1 : List Loc), fm_Wd SH G M1 s H1 locs1 → W p l e R s m args below meth c H1 locs1 cells slots Q (F0 m (pc + 1) ls rest)) : W p l e R s m args below meth c H locs cells slots Q (F0 m pc ls (.long x :: .int i :: .ref (G.2.1 k) :: rest)) := by
  subst hx; exact fm_last C E hk hin hdg kk
theorem fm_past' (C : fm_Cx SH G p s m args meth c cc nL own ret) (E : fm_Wd SH G M s H locs) {k n r n' : Nat} {fl fl' : List (Option Nat)} {i : Int32} (hx : M1 = fm_sr M i.toNatClampNeg r) (hk : SH[k]? = some (6, n, fl)) (h1 : ∀ (j : Nat) (sj : fm_Sh), SH[j]? = some sj → sj.1 = 6 → j = k) (hr : SH[r]? = some (14, n', fl')) (hin : fm_in i n = true) (hdg : decode cc pc = .ok (.aastore, 1))
    (kk : ∀ (H1 : Heap) (locs1 : List Loc), fm_Wd SH G M1 s H1 locs1 → W p l e R s m args below meth c H1 locs1 cells slots Q (F0 m (pc + 1) ls rest)) : W p l e R s m args below meth c H locs cells slots Q (F0 m pc ls (.ref (G.2.1 r) :: .int i :: .ref (G.2.1 k) :: rest)) := by
  subst hx; exact fm_past C E hk h1 hr hin hdg kk
theorem fm_put' (C : fm_Cx SH G p s m args meth c cc nL own ret) (E : fm_Wd SH G M s H locs) {ci k n j index : Nat} {fl : List (Option Nat)} {x : Int32} (hx : M1 = fm_si M k j x) (F : fm_Fp own index ci j) (hk : SH[k]? = some (ci + 7, n, fl)) (hj : fl[j]? = some none) (hdg : decode cc pc = .ok (.putfield index, 3))
    (kk : ∀ (H1 : Heap) (locs1 : List Loc), fm_Wd SH G M1 s H1 locs1 → W p l e R s m args below meth c H1 locs1 cells slots Q (F0 m (pc + 3) ls rest)) : W p l e R s m args below meth c H locs cells slots Q (F0 m pc ls (.int x :: .ref (G.2.1 k) :: rest)) := by
  subst hx; exact fm_put C E F hk hj hdg kk
theorem fm_copy' (C : fm_Cx SH G p s m args meth c cc nL own ret) (E : fm_Wd SH G M s H locs) {a b : Nat} {N : Nat} (hx : M1 = fm_row M b (va_cpy (M.1 a) (M.1 b) 0 0 N)) (V : Cond.native arraycopyName ∈ fm_TT ∧ Cond.static arraycopyName ∈ fm_TT ∧ Cond.initialized "java/lang/System" ∈ fm_TT) {index : Nat} (hl : Cond.methodLink own index arraycopyName ∈ fm_TT) (hsz : ls.size = nL) (hR : 1 ≤ R.frames ∧ 26 ≤ R.locals) (hst : (rest.map fun v => v.category).sum ≤ 8)
    {na nb : Nat} {fa fb : List (Option Nat)} {n : Int32} (ha : SH[a]? = some (0, na, fa)) (hb : SH[b]? = some (0, nb, fb)) (hn : ¬ n < 0) (hN : n.toNatClampNeg = N) (h1 : N ≤ na) (h2 : N ≤ nb) (hdg : decode cc pc = .ok (.invokestatic index, 3))
    (kk : ∀ (H1 : Heap) (locs1 : List Loc), fm_Wd SH G M1 s H1 locs1 → W p l e R s m args below meth c H1 locs1 cells slots Q (F0 m (pc + 3) ls rest)) : W p l e R s m args below meth c H locs cells slots Q (F0 m pc ls (.int n :: .int 0 :: .ref (G.2.1 b) :: .int 0 :: .ref (G.2.1 a) :: rest)) := by
  subst hx; exact fm_copy C E V hl hsz hR hst ha hb hn hN h1 h2 hdg kk
/-- a text by its number -/
theorem fm_lds (C : fm_Cx SH G p s m args meth c cc nL own ret) {i index : Nat} {tx : String} (hs : fm_Ss[i]? = some (own, index, tx)) (hdg : decode cc pc = .ok (.ldc index, 2))
    (kk : W p l e R s m args below meth c H locs cells slots Q (F0 m (pc + 2) ls (.ref (G.2.2.2.1 i) :: rest))) : W p l e R s m args below meth c H locs cells slots Q (F0 m pc ls rest) :=
  va_ldcS C.1 C.2.1 C.2.2.2.1 (C.2.2.2.2.2.2.2.2.2.2.2.1 i _ hs) hdg kk
end FMM
