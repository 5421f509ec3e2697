/-! ===== the flat memory: every object of the system has a number; what it holds is one function of numbers; its shape never changes ===== -/
/-- what ints, longs and the one changing row of references hold: by the thing's number and the place -/
abbrev fm_M : Type := (Nat → Nat → Int32) × (Nat → Nat → Int64) × (Nat → Nat)
/-- a shape: 0 int[] 1 byte[] 2 boolean[] 3 long[] 4 int[][] 5 Scene[] 6 Scene[] that changes, 7 + c an object of class c; its length; what it refers to (none: an int field) -/
abbrev fm_Sh : Type := Nat × Nat × List (Option Nat)
/-- the classes' numbers and slots, the addresses, the array classes, where the texts and their letters lie -/
abbrev fm_G : Type := va_G × (Nat → Nat) × (Nat → ClassId) × (Nat → Nat) × (Nat → Nat)
def fm_v (ad : Nat → Nat) (x : Int32) (o : Option Nat) : Value := match o with
  | none => Value.int x
  | some r => Value.ref (ad r)
def fm_fs (ad : Nat → Nat) (I : Nat → Int32) (fl : List (Option Nat)) : List Value := (List.range fl.length).map (fun j => fm_v ad (I j) (fl.getD j none))
def fm_cell (G : fm_G) (M : fm_M) (sh : fm_Sh) (k : Nat) : va_E := match sh.1 with
  | 0 => .inl (G.2.2.1 0, sh.2.1, .inl (M.1 k))
  | 1 => .inl (G.2.2.1 1, sh.2.1, .inl (M.1 k))
  | 2 => .inl (G.2.2.1 2, sh.2.1, .inl (M.1 k))
  | 3 => .inl (G.2.2.1 3, sh.2.1, .inr (.inl (M.2.1 k)))
  | 4 => .inl (G.2.2.1 4, sh.2.1, .inr (.inr (.inr (.inr (fun i => (sh.2.2.getD i none).map G.2.1)))))
  | 5 => .inl (G.2.2.1 5, sh.2.1, .inr (.inr (.inr (.inr (fun i => (sh.2.2.getD i none).map G.2.1)))))
  | 6 => .inl (G.2.2.1 5, sh.2.1, .inr (.inr (.inr (.inr (fun i => some (G.2.1 (M.2.2 i)))))))
  | c + 7 => .inr (c, fm_fs G.2.1 (M.1 k) sh.2.2)
def fm_en (SH : List fm_Sh) (G : fm_G) (M : fm_M) : va_W := (List.range SH.length).map (fun k => (G.2.1 k, fm_cell G M (SH.getD k (0, 0, [])) k))
def fm_ty (G : fm_G) : List (ClassId × FieldType) := [(G.2.2.1 0, .int), (G.2.2.1 1, .byte), (G.2.2.1 2, .boolean), (G.2.2.1 3, .long), (G.2.2.1 4, .array .int), (G.2.2.1 5, .object "MicRow$Scene")]
/-- an int, a long, a reference is stored -/
def fm_si (M : fm_M) (k j : Nat) (v : Int32) : fm_M := (fun a => if a = k then upd (M.1 a) j v else M.1 a, M.2)
def fm_sl (M : fm_M) (k j : Nat) (v : Int64) : fm_M := (M.1, fun a => if a = k then vp_updL (M.2.1 a) j v else M.2.1 a, M.2.2)
def fm_sr (M : fm_M) (j v : Nat) : fm_M := (M.1, M.2.1, va_up M.2.2 j v)
/-- a whole row of ints -/
def fm_row (M : fm_M) (k : Nat) (f : Nat → Int32) : fm_M := (fun a => if a = k then f else M.1 a, M.2)
/-- where an index is fine -/
def fm_in (i : Int32) (n : Nat) : Bool := !decide (i < 0) && decide (i.toNatClampNeg < n)
theorem fm_in_vp {i : Int32} {n : Nat} (h : fm_in i n = true) : vp_in i n := by
  simp only [fm_in, Bool.and_eq_true, Bool.not_eq_true', decide_eq_false_iff_not, decide_eq_true_eq] at h
  intro q
  rcases q with q | q
  · exact h.1 q
  · omega
theorem fm_in_lt {i : Int32} {n : Nat} (h : fm_in i n = true) : i.toNatClampNeg < n := by
  simp only [fm_in, Bool.and_eq_true, decide_eq_true_eq] at h
  exact h.2
/-- int[] rows read and written, with the check -/
def fm_ld {α : Type} (n : Nat) (M : fm_M) (k : Nat) (i : Int32) (K : Int32 → Option α) : Option α := if fm_in i n = true then K (M.1 k i.toNatClampNeg) else none
def fm_st {α : Type} (n : Nat) (M : fm_M) (k : Nat) (i v : Int32) (K : fm_M → Option α) : Option α := if fm_in i n = true then K (fm_si M k i.toNatClampNeg v) else none
def fm_ldl {α : Type} (n : Nat) (M : fm_M) (k : Nat) (i : Int32) (K : Int64 → Option α) : Option α := if fm_in i n = true then K (M.2.1 k i.toNatClampNeg) else none
def fm_stl {α : Type} (n : Nat) (M : fm_M) (k : Nat) (i : Int32) (v : Int64) (K : fm_M → Option α) : Option α := if fm_in i n = true then K (fm_sl M k i.toNatClampNeg v) else none
/-- a row of references: what its place holds, by a function of places -/
def fm_ix {α β : Type} (n : Nat) (f : Nat → β) (i : Int32) (K : β → Option α) : Option α := if fm_in i n = true then K (f i.toNatClampNeg) else none
theorem fm_ld_s {α : Type} {n : Nat} {M : fm_M} {k : Nat} {i : Int32} {K : Int32 → Option α} {r : α} (h : fm_ld n M k i K = some r) : fm_in i n = true ∧ K (M.1 k i.toNatClampNeg) = some r := by
  unfold fm_ld at h
  split at h
  · exact ⟨by assumption, h⟩
  · cases h
theorem fm_st_s {α : Type} {n : Nat} {M : fm_M} {k : Nat} {i v : Int32} {K : fm_M → Option α} {r : α} (h : fm_st n M k i v K = some r) : fm_in i n = true ∧ K (fm_si M k i.toNatClampNeg v) = some r := by
  unfold fm_st at h
  split at h
  · exact ⟨by assumption, h⟩
  · cases h
theorem fm_ldl_s {α : Type} {n : Nat} {M : fm_M} {k : Nat} {i : Int32} {K : Int64 → Option α} {r : α} (h : fm_ldl n M k i K = some r) : fm_in i n = true ∧ K (M.2.1 k i.toNatClampNeg) = some r := by
  unfold fm_ldl at h
  split at h
  · exact ⟨by assumption, h⟩
  · cases h
theorem fm_stl_s {α : Type} {n : Nat} {M : fm_M} {k : Nat} {i : Int32} {v : Int64} {K : fm_M → Option α} {r : α} (h : fm_stl n M k i v K = some r) : fm_in i n = true ∧ K (fm_sl M k i.toNatClampNeg v) = some r := by
  unfold fm_stl at h
  split at h
  · exact ⟨by assumption, h⟩
  · cases h
theorem fm_ix_s {α β : Type} {n : Nat} {f : Nat → β} {i : Int32} {K : β → Option α} {r : α} (h : fm_ix n f i K = some r) : fm_in i n = true ∧ K (f i.toNatClampNeg) = some r := by
  unfold fm_ix at h
  split at h
  · exact ⟨by assumption, h⟩
  · cases h
theorem fm_bd {α β : Type} {o : Option α} {K : α → Option β} {r : β} (h : o.bind K = some r) : ∃ a, o = some a ∧ K a = some r := by
  cases o with
  | none => cases h
  | some a => exact ⟨a, rfl, h⟩
theorem fm_ip {α : Type} {c : Prop} [Decidable c] {a b : Option α} {r : α} (h : (if c then a else b) = some r) (hc : c) : a = some r := by
  rw [if_pos hc] at h; exact h
theorem fm_in' {α : Type} {c : Prop} [Decidable c] {a b : Option α} {r : α} (h : (if c then a else b) = some r) (hc : ¬ c) : b = some r := by
  rw [if_neg hc] at h; exact h
/-- a loop: step says what happens at its head, going on by k; n rounds at most -/
def fm_lp {σ ρ : Type} (step : (σ → Option ρ) → σ → Option ρ) : Nat → σ → Option ρ
  | 0 => fun _ => none
  | n + 1 => step (fm_lp step n)
theorem fm_lp_0 {σ ρ : Type} {step : (σ → Option ρ) → σ → Option ρ} {s : σ} {r : ρ} {C : Prop} (h : fm_lp step 0 s = some r) : C := by cases h
theorem fm_lp_run {σ ρ : Type} (step : (σ → Option ρ) → σ → Option ρ) (g : Nat → σ) (n N : Nat) (h : ∀ i, i < n → ∀ k, step k (g i) = k (g (i + 1))) : fm_lp step (N + n) (g 0) = fm_lp step N (g n) := by
  induction n generalizing N with
  | zero => rfl
  | succ n ih =>
    have h1 := ih (N + 1) (fun i hi => h i (by omega))
    have e : N + (n + 1) = N + 1 + n := by omega
    rw [e, h1]
    exact h n (by omega) _
/-- the worlds -/
theorem fm_en_at {SH : List fm_Sh} {G : fm_G} {M : fm_M} {k : Nat} {sh : fm_Sh} (h : SH[k]? = some sh) : (fm_en SH G M)[k]? = some (G.2.1 k, fm_cell G M sh k) := by
  have hl : k < SH.length := (List.getElem?_eq_some_iff.mp h).1
  unfold fm_en
  rw [List.getElem?_map, List.getElem?_range hl]
  simp [List.getD_eq_getElem?_getD, h]
theorem fm_en_set {SH : List fm_Sh} {G : fm_G} {M M' : fm_M} {k : Nat} {sh : fm_Sh} (h : SH[k]? = some sh) {e : va_E} (he : fm_cell G M' sh k = e) (ho : ∀ (j : Nat) (sj : fm_Sh), SH[j]? = some sj → j ≠ k → fm_cell G M' sj j = fm_cell G M sj j) : (fm_en SH G M).set k (G.2.1 k, e) = fm_en SH G M' := by
  apply List.ext_getElem?
  intro j
  by_cases hj : j = k
  · subst hj
    have hl : j < (fm_en SH G M).length := by
      have := (List.getElem?_eq_some_iff.mp h).1
      simpa [fm_en] using this
    rw [List.getElem?_set_self hl, fm_en_at h, he]
  · rw [List.getElem?_set_ne (Ne.symm hj)]
    cases hs : SH[j]? with
    | none =>
      have hl : SH.length ≤ j := List.getElem?_eq_none_iff.mp hs
      rw [List.getElem?_eq_none (by simpa [fm_en] using hl), List.getElem?_eq_none (by simpa [fm_en] using hl)]
    | some sj => rw [fm_en_at hs, fm_en_at hs, ho j sj hs hj]
theorem fm_cell_off {G : fm_G} {M M' : fm_M} {sj : fm_Sh} {j : Nat} (h1 : M'.1 j = M.1 j) (h2 : M'.2.1 j = M.2.1 j) (h3 : sj.1 = 6 → M'.2.2 = M.2.2) : fm_cell G M' sj j = fm_cell G M sj j := by
  obtain ⟨t, n, fl⟩ := sj
  match t, h3 with
  | 0, _ => simp only [fm_cell, h1]
  | 1, _ => simp only [fm_cell, h1]
  | 2, _ => simp only [fm_cell, h1]
  | 3, _ => simp only [fm_cell, h2]
  | 4, _ => simp only [fm_cell]
  | 5, _ => simp only [fm_cell]
  | 6, h3 => simp only [fm_cell, h3 rfl]
  | c + 7, _ => simp only [fm_cell, h1]
theorem fm_si_ne {M : fm_M} {k j a : Nat} {v : Int32} (h : a ≠ k) : (fm_si M k j v).1 a = M.1 a := if_neg h
theorem fm_si_eq {M : fm_M} {k j : Nat} {v : Int32} : (fm_si M k j v).1 k = upd (M.1 k) j v := if_pos rfl
theorem fm_sl_ne {M : fm_M} {k j a : Nat} {v : Int64} (h : a ≠ k) : (fm_sl M k j v).2.1 a = M.2.1 a := if_neg h
theorem fm_sl_eq {M : fm_M} {k j : Nat} {v : Int64} : (fm_sl M k j v).2.1 k = vp_updL (M.2.1 k) j v := if_pos rfl
theorem fm_row_ne {M : fm_M} {k a : Nat} {f : Nat → Int32} (h : a ≠ k) : (fm_row M k f).1 a = M.1 a := if_neg h
theorem fm_row_eq {M : fm_M} {k : Nat} {f : Nat → Int32} : (fm_row M k f).1 k = f := if_pos rfl
theorem fm_fs_at {ad : Nat → Nat} {I : Nat → Int32} {fl : List (Option Nat)} {j : Nat} {x : Option Nat} (h : fl[j]? = some x) : (fm_fs ad I fl)[j]? = some (fm_v ad (I j) x) := by
  have hl : j < fl.length := (List.getElem?_eq_some_iff.mp h).1
  unfold fm_fs
  rw [List.getElem?_map, List.getElem?_range hl]
  simp [List.getD_eq_getElem?_getD, h]
theorem fm_fs_set {ad : Nat → Nat} {I : Nat → Int32} {fl : List (Option Nat)} {j : Nat} {v : Int32} (h : fl[j]? = some none) : (fm_fs ad I fl).set j (.int v) = fm_fs ad (upd I j v) fl := by
  apply List.ext_getElem?
  intro i
  have hl : j < (fm_fs ad I fl).length := by
    have := (List.getElem?_eq_some_iff.mp h).1
    simpa [fm_fs] using this
  by_cases hi : i = j
  · subst hi
    rw [List.getElem?_set_self hl, fm_fs_at h]
    simp [upd, fm_v]
  · rw [List.getElem?_set_ne (Ne.symm hi)]
    cases hs : fl[i]? with
    | none =>
      have hq : fl.length ≤ i := List.getElem?_eq_none_iff.mp hs
      rw [List.getElem?_eq_none (by simpa [fm_fs] using hq), List.getElem?_eq_none (by simpa [fm_fs] using hq)]
    | some x => rw [fm_fs_at hs, fm_fs_at hs]; simp [upd, hi]
theorem fm_fs_len {ad : Nat → Nat} {I : Nat → Int32} {fl : List (Option Nat)} : (fm_fs ad I fl).length = fl.length := by simp [fm_fs]
