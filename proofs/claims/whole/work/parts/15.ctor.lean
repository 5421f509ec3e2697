/-! ===== making: a world that grows ===== -/
theorem fm_AOA_moved {t : FieldType} {u U : State} (hvm : u.vm.Alike U.vm) (h : va_AOA t u) : va_AOA t U := Jvm.Stand.arrayOver_alikeB hvm h
/-- what a constructor takes as given -/
def fm_kg (G : fm_G) (U : State) : Prop := va_K G.1 vwCl (fm_ty G) U ∧ fm_nest U ∧ va_AO "MicRow$Scene" U ∧ va_AOA .int U
theorem fm_kg.warm {G : fm_G} {s U : State} (h : fm_kg G s) (hW : s.WarmedH U.vm) : fm_kg G U := ⟨va_K.moved hW.alike h.1, h.2.1.warm hW, h.2.2.1.moved hW.alike, fm_AOA_moved hW.alike h.2.2.2⟩
theorem fm_kg.same {G : fm_G} {s U : State} (h : fm_kg G s) (hv : s.vm = U.vm) : fm_kg G U := by
  have ha : s.vm.Alike U.vm := hv ▸ Vm.Alike.refl s.vm
  exact ⟨va_K.moved ha h.1, h.2.1.same hv, h.2.2.1.moved ha, fm_AOA_moved ha h.2.2.2⟩
/-- the addresses are others -/
abbrev fm_ga (G : fm_G) (ad : Nat → Nat) : fm_G := (G.1, ad, G.2.2)
/-- the fields of an object that is being made: 0 an int, 1 null, 2 the int 0, 3 + k the thing k -/
def fm_hv (ad : Nat → Nat) (x : Int32) (h : Nat) : Value := match h with
  | 0 => .int x
  | 1 => .null
  | 2 => .int 0
  | k + 3 => .ref (ad k)
def fm_hfs (ad : Nat → Nat) (I : Nat → Int32) (hl : List Nat) : List Value := (List.range hl.length).map (fun j => fm_hv ad (I j) (hl.getD j 0))
/-- the cells of the shapes SH, numbered from b on -/
def fm_enS (b : Nat) (SH : List fm_Sh) (G : fm_G) (M : fm_M) : va_W := (List.range SH.length).map (fun k => (G.2.1 (b + k), fm_cell G M (SH.getD k (0, 0, [])) (b + k)))
def fm_kw (G : fm_G) (M : fm_M) (b ci : Nat) (hl : List Nat) (SH : List fm_Sh) (ad : Nat → Nat) : va_W := (ad b, .inr (ci, fm_hfs ad (M.1 b) hl)) :: fm_enS (b + 1) SH (fm_ga G ad) M
/-- all that a shape speaks of lies below n -/
def fm_okv (n : Nat) (o : Option Nat) : Bool := match o with | none => true | some j => decide (j < n)
def fm_okS (n : Nat) (SH : List fm_Sh) : Bool := SH.all (fun sh => !decide (sh.1 = 6) && sh.2.2.all (fm_okv n))
def fm_okh (n : Nat) (hl : List Nat) : Bool := hl.all (fun h => decide (h < n + 3))
theorem fm_hfs_len {ad : Nat → Nat} {I : Nat → Int32} {hl : List Nat} : (fm_hfs ad I hl).length = hl.length := by simp [fm_hfs]
theorem fm_hfs_at {ad : Nat → Nat} {I : Nat → Int32} {hl : List Nat} {j h : Nat} (e : hl[j]? = some h) : (fm_hfs ad I hl)[j]? = some (fm_hv ad (I j) h) := by
  have hl' : j < hl.length := (List.getElem?_eq_some_iff.mp e).1
  unfold fm_hfs
  rw [List.getElem?_map, List.getElem?_range hl']
  simp [List.getD_eq_getElem?_getD, e]
theorem fm_hfs_set {ad : Nat → Nat} {I : Nat → Int32} {hl : List Nat} {j h : Nat} : (fm_hfs ad I hl).set j (fm_hv ad (I j) h) = fm_hfs ad I (hl.set j h) := by
  apply List.ext_getElem?
  intro i
  by_cases hi : i < hl.length
  · have e1 : (hl.set j h)[i]? = some ((hl.set j h).getD i 0) := by rw [List.getD_eq_getElem?_getD, List.getElem?_eq_getElem (by simpa using hi)]; rfl
    rw [fm_hfs_at e1, List.getElem?_set, fm_hfs_len]
    by_cases hj : j = i
    · subst hj
      simp [hi, List.getD_eq_getElem?_getD]
    · rw [if_neg hj]
      have e2 : hl[i]? = some ((hl.set j h).getD i 0) := by rw [← e1, List.getElem?_set, if_neg hj]
      rw [fm_hfs_at e2]
  · rw [List.getElem?_eq_none (by rw [List.length_set, fm_hfs_len]; omega), List.getElem?_eq_none (by rw [fm_hfs_len, List.length_set]; omega)]
theorem fm_hfs_ad {ad ad' : Nat → Nat} {I : Nat → Int32} {hl : List Nat} {n : Nat} (h : fm_okh n hl = true) (ha : ∀ j, j < n → ad' j = ad j) : fm_hfs ad' I hl = fm_hfs ad I hl := by
  unfold fm_hfs
  apply List.map_congr_left
  intro j hj
  have hj : j < hl.length := List.mem_range.mp hj
  have h2 := List.all_eq_true.mp h (hl.getD j 0) (by rw [List.getD_eq_getElem?_getD, List.getElem?_eq_getElem hj]; exact List.getElem_mem hj)
  generalize hl.getD j 0 = q at h2
  have h3 : q < n + 3 := by simpa using h2
  match q, h3 with
  | 0, _ => rfl
  | 1, _ => rfl
  | 2, _ => rfl
  | k + 3, h3 => show Value.ref (ad' k) = Value.ref (ad k); rw [ha k (by omega)]
theorem fm_enS_len {b : Nat} {SH : List fm_Sh} {G : fm_G} {M : fm_M} : (fm_enS b SH G M).length = SH.length := by simp [fm_enS]
theorem fm_enS_at {b : Nat} {SH : List fm_Sh} {G : fm_G} {M : fm_M} {k : Nat} {sh : fm_Sh} (h : SH[k]? = some sh) : (fm_enS b SH G M)[k]? = some (G.2.1 (b + k), fm_cell G M sh (b + k)) := by
  have hl : k < SH.length := (List.getElem?_eq_some_iff.mp h).1
  unfold fm_enS
  rw [List.getElem?_map, List.getElem?_range hl]
  simp [List.getD_eq_getElem?_getD, h]
theorem fm_enS_app {b : Nat} {S1 S2 : List fm_Sh} {G : fm_G} {M : fm_M} : fm_enS b (S1 ++ S2) G M = fm_enS b S1 G M ++ fm_enS (b + S1.length) S2 G M := by
  apply List.ext_getElem?
  intro i
  by_cases hi : i < S1.length
  · obtain ⟨sh, hs⟩ : ∃ sh, S1[i]? = some sh := ⟨S1[i], List.getElem?_eq_getElem hi⟩
    rw [List.getElem?_append_left (by rw [fm_enS_len]; exact hi), fm_enS_at hs, fm_enS_at (by rw [List.getElem?_append_left hi]; exact hs)]
  · by_cases h2 : i < S1.length + S2.length
    · obtain ⟨sh, hs⟩ : ∃ sh, S2[i - S1.length]? = some sh := ⟨S2[i - S1.length], List.getElem?_eq_getElem (by omega)⟩
      rw [List.getElem?_append_right (by rw [fm_enS_len]; omega), fm_enS_len, fm_enS_at hs, fm_enS_at (sh := sh) (by rw [List.getElem?_append_right (by omega)]; exact hs), show b + S1.length + (i - S1.length) = b + i by omega]
    · rw [List.getElem?_eq_none (by rw [fm_enS_len, List.length_append]; omega), List.getElem?_eq_none (by rw [List.length_append, fm_enS_len, fm_enS_len]; omega)]
theorem fm_enS_zero {SH : List fm_Sh} {G : fm_G} {M : fm_M} : fm_enS 0 SH G M = fm_en SH G M := by
  unfold fm_enS fm_en
  simp only [Nat.zero_add]
theorem fm_cell_ad {G : fm_G} {ad ad' : Nat → Nat} {M : fm_M} {sh : fm_Sh} {k n : Nat} (h6 : sh.1 ≠ 6) (h : sh.2.2.all (fm_okv n) = true) (ha : ∀ j, j < n → ad' j = ad j) : fm_cell (fm_ga G ad') M sh k = fm_cell (fm_ga G ad) M sh k := by
  obtain ⟨c, ln, fl⟩ := sh
  have hv : ∀ (i : Nat) (o : Option Nat), fl[i]? = some o → o.map ad' = o.map ad := fun i o hi => by
    have h2 := List.all_eq_true.mp h o (List.mem_of_getElem? hi)
    cases o with
    | none => rfl
    | some j => simp only [Option.map_some]; rw [ha j (by simpa [fm_okv] using h2)]
  have hf : (fun i => (fl.getD i none).map ad') = (fun i => (fl.getD i none).map ad) := by
    funext i
    rw [List.getD_eq_getElem?_getD]
    cases hi : fl[i]? with
    | none => rfl
    | some o => exact hv i o hi
  match c, h6 with
  | 0, _ => rfl
  | 1, _ => rfl
  | 2, _ => rfl
  | 3, _ => rfl
  | 4, _ => exact congrArg (fun f => (Sum.inl (G.2.2.1 4, ln, .inr (.inr (.inr (.inr f)))) : va_E)) hf
  | 5, _ => exact congrArg (fun f => (Sum.inl (G.2.2.1 5, ln, .inr (.inr (.inr (.inr f)))) : va_E)) hf
  | 6, h6 => exact absurd rfl h6
  | c + 7, _ =>
    have hx : fm_fs ad' (M.1 k) fl = fm_fs ad (M.1 k) fl := by
      unfold fm_fs
      apply List.map_congr_left
      intro j _
      have := congrFun hf j
      revert this
      cases fl.getD j none with
      | none => intro _; rfl
      | some r => intro h; exact congrArg Value.ref (Option.some.inj h)
    exact congrArg (fun f => (Sum.inr (c, f) : va_E)) hx
theorem fm_enS_ad {G : fm_G} {ad ad' : Nat → Nat} {M : fm_M} {SH : List fm_Sh} {b n : Nat} (h : fm_okS n SH = true) (hb : b + SH.length ≤ n) (ha : ∀ j, j < n → ad' j = ad j) : fm_enS b SH (fm_ga G ad') M = fm_enS b SH (fm_ga G ad) M := by
  apply List.ext_getElem?
  intro i
  by_cases hi : i < SH.length
  · obtain ⟨sh, hs⟩ : ∃ sh, SH[i]? = some sh := ⟨SH[i], List.getElem?_eq_getElem hi⟩
    have h2 := List.all_eq_true.mp h sh (List.mem_of_getElem? hs)
    simp only [Bool.and_eq_true, Bool.not_eq_true', decide_eq_false_iff_not] at h2
    rw [fm_enS_at hs, fm_enS_at hs, fm_cell_ad h2.1 h2.2 ha]
    show some (ad' (b + i), _) = some (ad (b + i), _)
    rw [ha (b + i) (by omega)]
  · rw [List.getElem?_eq_none (by rw [fm_enS_len]; omega), List.getElem?_eq_none (by rw [fm_enS_len]; omega)]
theorem fm_kw_ad {G : fm_G} {ad ad' : Nat → Nat} {M : fm_M} {SH : List fm_Sh} {b n ci : Nat} {hl : List Nat} (h0 : fm_okh n hl = true) (h : fm_okS n SH = true) (hb : b + 1 + SH.length ≤ n) (ha : ∀ j, j < n → ad' j = ad j) : fm_kw G M b ci hl SH ad' = fm_kw G M b ci hl SH ad := by
  unfold fm_kw
  rw [fm_hfs_ad h0 ha, fm_enS_ad h hb ha, ha b (by omega)]
