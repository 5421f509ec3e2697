/-! ===== the rows: instructions over the flat memory ===== -/
def fm_TT : List Cond := lw_tbl.filter goodWord
theorem fm_tt {w : Cond} (h : w ∈ lw_tbl) (hg : goodWord w = true) : w ∈ fm_TT := List.mem_filter.mpr ⟨h, hg⟩
/-- a word of the tables, by its place -/
theorem fm_wd {w : Cond} (i : Nat) (h : lw_tbl[i]? = some w) (hg : goodWord w = true) : w ∈ fm_TT := fm_tt (List.mem_of_getElem? h) hg
theorem fm_good : GoodIn fm_TT fm_TT := fun w h => ⟨h, good_of_word (List.mem_filter.mp h).2⟩
theorem fm_goodC {w : Cond} (h : w ∈ fm_TT) : GoodIn fm_TT (w :: fm_TT) := fun v hv => (List.mem_cons.mp hv).elim (fun e => by rw [e]; exact fm_good w h) (fm_good v)
theorem fm_goodCC {u w : Cond} (h : w ∈ fm_TT) : GoodIn (u :: fm_TT) (w :: fm_TT) := fun v hv => ⟨List.mem_cons_of_mem _ (fm_goodC h v hv).1, (fm_goodC h v hv).2⟩
/-- a static row of ints: where it lies, what it holds -/
def fm_z (C n : String) (N : Nat) (f : Nat → Int32) (A : Nat → Prop) (U : State) (H : Heap) : Prop := ∃ t : Nat, va_Z C n "[I" (.ref t) A U H ∧ va_T .int t N (fun j => .int (f j)) A U H
theorem fm_z.go {C n : String} {N : Nat} {f : Nat → Int32} {A B : Nat → Prop} {u U : State} {H H1 : Heap} (h : fm_z C n N f A u H) (hvm : u.vm.Alike U.vm) (hq : ∀ a : Nat, a < H.size → ¬ A a → H1[a]? = H[a]?) (hAB : ∀ q, B q → A q) : fm_z C n N f B U H1 := by
  obtain ⟨t, h1, h2⟩ := h
  exact ⟨t, ((h1.moved hvm).kept hq).narrow hAB, ((h2.moved hvm).kept hq).narrow hAB⟩
/-- what a method may take as given of the tables beside the good words: private members of nest mates, static rows, texts -/
def fm_NW : List Cond := lw_tbl.filter (fun w => match w with
  | .fieldLinkNest _ _ _ _ _ _ => true
  | .methodLinkNest _ _ _ _ => true
  | _ => false)
theorem fm_nw {w : Cond} (i : Nat) (h : lw_tbl[i]? = some w) (hg : (match w with
  | .fieldLinkNest _ _ _ _ _ _ => true
  | .methodLinkNest _ _ _ _ => true
  | _ => false) = true) : w ∈ fm_NW := List.mem_filter.mpr ⟨List.mem_of_getElem? h, hg⟩
def fm_nest (U : State) : Prop := ∀ w ∈ fm_NW, va_Nw w U
theorem fm_nest.warm {s U : State} (hW : s.WarmedH U.vm) (h : fm_nest s) : fm_nest U := by
  intro w hw
  have h1 := h w hw
  have h2 := (List.mem_filter.mp hw).2
  cases w <;> first | (cases h2; done) | exact va_Nw.warmF hW h1 | exact va_Nw.warmM hW h1
theorem fm_nest.same {s U : State} (hv : s.vm = U.vm) (h : fm_nest s) : fm_nest U := by
  intro w hw
  have h1 := h w hw
  have h2 := (List.mem_filter.mp hw).2
  cases w <;> first | (cases h2; done) | exact va_Nw.same rfl hv h1
