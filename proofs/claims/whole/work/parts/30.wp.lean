/-! ===== the pure part: what a function of the flat memory comes to ===== -/
def ok {α : Type} (c : Option α) (Q : α → Prop) : Prop := ∃ r, c = some r ∧ Q r
theorem ok_some {α : Type} {r : α} {Q : α → Prop} (h : Q r) : ok (some r) Q := ⟨r, rfl, h⟩
theorem ok_bind {α β : Type} {c : Option α} {k : α → Option β} {P : α → Prop} {Q : β → Prop} (h : ok c P) (hk : ∀ r, P r → ok (k r) Q) : ok (c.bind k) Q := by
  obtain ⟨r, e, p⟩ := h
  rw [e]
  exact hk r p
theorem ok_bindE {α β : Type} {c : Option α} {r : α} {k : α → Option β} {Q : β → Prop} (e : c = some r) (hk : ok (k r) Q) : ok (c.bind k) Q := by
  rw [e]
  exact hk
theorem ok_mono {α : Type} {c : Option α} {P Q : α → Prop} (h : ok c P) (hq : ∀ r, P r → Q r) : ok c Q := by
  obtain ⟨r, e, p⟩ := h
  exact ⟨r, e, hq r p⟩
theorem ok_pos {α : Type} {c : Prop} [Decidable c] {a b : Option α} {Q : α → Prop} (hc : c) (h : ok a Q) : ok (if c then a else b) Q := by
  rw [if_pos hc]; exact h
theorem ok_neg {α : Type} {c : Prop} [Decidable c] {a b : Option α} {Q : α → Prop} (hc : ¬ c) (h : ok b Q) : ok (if c then a else b) Q := by
  rw [if_neg hc]; exact h
theorem ok_ite {α : Type} {c : Prop} [Decidable c] {a b : Option α} {Q : α → Prop} (h1 : c → ok a Q) (h2 : ¬ c → ok b Q) : ok (if c then a else b) Q := by
  by_cases hc : c
  · exact ok_pos hc (h1 hc)
  · exact ok_neg hc (h2 hc)
/-- a loop: an invariant, a measure that falls -/
theorem ok_lp {σ ρ : Type} {step : (σ → Option ρ) → σ → Option ρ} {Q : ρ → Prop} (I : σ → Prop) (mu : σ → Nat) (hs : ∀ s, I s → ∀ k : σ → Option ρ, (∀ s', I s' → mu s' < mu s → ok (k s') Q) → ok (step k s) Q) : ∀ (N : Nat) (s : σ), I s → mu s < N → ok (fm_lp step N s) Q := by
  intro N
  induction N with
  | zero => intro s _ h; exact absurd h (Nat.not_lt_zero _)
  | succ N ih => intro s hI hm; exact hs s hI _ (fun s' h1 h2 => ih s' h1 (by omega))
/-- a loop that counts -/
theorem ok_for {σ ρ : Type} {step : (σ → Option ρ) → σ → Option ρ} {Q : ρ → Prop} (n : Nat) (I : Nat → σ → Prop) (hs : ∀ i s, i < n → I i s → ∀ k : σ → Option ρ, (∀ s', I (i + 1) s' → ok (k s') Q) → ok (step k s) Q) (he : ∀ s, I n s → ∀ k : σ → Option ρ, ok (step k s) Q) {N : Nat} {s : σ} (h0 : I 0 s) (hN : n < N) : ok (fm_lp step N s) Q := by
  have key : ∀ (j N : Nat) (s : σ) (i : Nat), i + j = n → I i s → j < N → ok (fm_lp step N s) Q := by
    intro j
    induction j with
    | zero =>
      intro N s i hi hI hN
      obtain ⟨N, rfl⟩ : ∃ N', N = N' + 1 := ⟨N - 1, by omega⟩
      obtain rfl : i = n := by omega
      exact he s hI _
    | succ j ih =>
      intro N s i hi hI hN
      obtain ⟨N, rfl⟩ : ∃ N', N = N' + 1 := ⟨N - 1, by omega⟩
      exact hs i s (by omega) hI _ (fun s' h' => ih N s' (i + 1) (by omega) h' (by omega))
  exact key n N s 0 (by omega) h0 hN
/-! ints that count -/
abbrev nn (i : Nat) : Int32 := Int32.ofNat i
def mr_B : Nat := 2147483648
theorem nn_toNat {i : Nat} (h : i < mr_B) : (nn i).toNatClampNeg = i := Int32.toNatClampNeg_ofNat_of_lt h
theorem nn_toInt {i : Nat} (h : i < mr_B) : (nn i).toInt = i := Int32.toInt_ofNat_of_lt h
theorem nn_succ {i : Nat} : nn i + 1 = nn (i + 1) := (Int32.ofNat_add i 1).symm
theorem nn_add {i j : Nat} : nn i + nn j = nn (i + j) := (Int32.ofNat_add i j).symm
theorem nn_sub {i j : Nat} (h : j ≤ i) : nn i - nn j = nn (i - j) := (Int32.ofNat_sub i j h).symm
theorem nn_mul {i j : Nat} : nn i * nn j = nn (i * j) := (Int32.ofNat_mul i j).symm
theorem nn_le {i j : Nat} (hi : i < mr_B) (hj : j < mr_B) : nn i ≤ nn j ↔ i ≤ j := by
  rw [Int32.le_iff_toInt_le, nn_toInt hi, nn_toInt hj]
  omega
theorem nn_lt {i j : Nat} (hi : i < mr_B) (hj : j < mr_B) : nn i < nn j ↔ i < j := by
  rw [Int32.lt_iff_toInt_lt, nn_toInt hi, nn_toInt hj]
  omega
theorem nn_inj {i j : Nat} (hi : i < mr_B) (hj : j < mr_B) : nn i = nn j ↔ i = j := by
  constructor
  · intro h
    have := congrArg Int32.toInt h
    rw [nn_toInt hi, nn_toInt hj] at this
    omega
  · intro h; rw [h]
theorem nn_in {i n : Nat} (h : i < n) (hn : n ≤ mr_B) : fm_in (nn i) n = true := by
  have h1 : i < mr_B := by omega
  have e2 : ¬ nn i < 0 := by
    intro h
    exact absurd ((nn_lt (i := i) (j := 0) h1 (by unfold mr_B; omega)).mp h) (Nat.not_lt_zero _)
  unfold fm_in
  rw [nn_toNat h1]
  simp [e2, h]
/-- an int within bounds is a count -/
theorem nn_of {x : Int32} {n : Nat} (h0 : 0 ≤ x) (h1 : x.toInt ≤ n) : ∃ i : Nat, i ≤ n ∧ x = nn i := by
  refine ⟨x.toNatClampNeg, ?_, (Int32.ofNat_toNatClampNeg x h0).symm⟩
  have := Int32.cast_toNatClampNeg x h0
  omega
section MRR
variable {α : Type} {M : fm_M} {k i n : Nat} {Q : α → Prop}
theorem ok_ld {K : Int32 → Option α} (h : i < n) (hn : n ≤ mr_B) (hk : ok (K (M.1 k i)) Q) : ok (fm_ld n M k (nn i) K) Q := by
  unfold fm_ld
  rw [if_pos (nn_in h hn), nn_toNat (by omega)]
  exact hk
theorem ok_st {K : fm_M → Option α} {v : Int32} (h : i < n) (hn : n ≤ mr_B) (hk : ok (K (fm_si M k i v)) Q) : ok (fm_st n M k (nn i) v K) Q := by
  unfold fm_st
  rw [if_pos (nn_in h hn), nn_toNat (by omega)]
  exact hk
theorem ok_ldl {K : Int64 → Option α} (h : i < n) (hn : n ≤ mr_B) (hk : ok (K (M.2.1 k i)) Q) : ok (fm_ldl n M k (nn i) K) Q := by
  unfold fm_ldl
  rw [if_pos (nn_in h hn), nn_toNat (by omega)]
  exact hk
theorem ok_stl {K : fm_M → Option α} {v : Int64} (h : i < n) (hn : n ≤ mr_B) (hk : ok (K (fm_sl M k i v)) Q) : ok (fm_stl n M k (nn i) v K) Q := by
  unfold fm_stl
  rw [if_pos (nn_in h hn), nn_toNat (by omega)]
  exact hk
theorem ok_ix {β : Type} {f : Nat → β} {K : β → Option α} (h : i < n) (hn : n ≤ mr_B) (hk : ok (K (f i)) Q) : ok (fm_ix n f (nn i) K) Q := by
  unfold fm_ix
  rw [if_pos (nn_in h hn), nn_toNat (by omega)]
  exact hk
theorem ok_pt {K : fm_M → Option α} {j : Nat} {v : Int32} (hk : ok (K (fm_si M k j v)) Q) : ok (fm_pt M k j v K) Q := hk
theorem ok_cp {K : fm_M → Option α} {a : Nat} (hk : ok (K (fm_row M k (va_cpy (M.1 a) (M.1 k) 0 0 n))) Q) : ok (fm_cp M a k n K) Q := hk
theorem ok_rq {K : Option α} {b : Bool} (hb : b = true) (hk : ok K Q) : ok (fm_rq b K) Q := by
  unfold fm_rq
  rw [if_pos hb]; exact hk
theorem ok_nz {K : Option α} {y : Int32} (hb : y ≠ 0) (hk : ok K Q) : ok (fm_nz y K) Q := by
  unfold fm_nz
  rw [if_neg hb]; exact hk
theorem ok_nzl {K : Option α} {y : Int64} (hb : y ≠ 0) (hk : ok K Q) : ok (fm_nzl y K) Q := by
  unfold fm_nzl
  rw [if_neg hb]; exact hk
end MRR
/-! what a store changes -/
theorem si_same {M : fm_M} {k j : Nat} {v : Int32} : (fm_si M k j v).1 k j = v := by simp [fm_si, upd]
theorem si_col {M : fm_M} {k j i : Nat} {v : Int32} (h : i ≠ j) : (fm_si M k j v).1 k i = M.1 k i := by simp [fm_si, upd, h]
theorem si_row {M : fm_M} {k j a : Nat} {v : Int32} (h : a ≠ k) : (fm_si M k j v).1 a = M.1 a := if_neg h
theorem si_at {M : fm_M} {k j a i : Nat} {v : Int32} : (fm_si M k j v).1 a i = if a = k ∧ i = j then v else M.1 a i := by
  by_cases h1 : a = k
  · subst h1
    by_cases h2 : i = j
    · subst h2; simp [si_same]
    · simp [si_col h2, h2]
  · rw [si_row h1]; simp [h1]
theorem row_at {M : fm_M} {k a : Nat} {f : Nat → Int32} : (fm_row M k f).1 a = if a = k then f else M.1 a := rfl
/-- the longs and the row of references stay under stores of ints -/
theorem si_two {M : fm_M} {k j : Nat} {v : Int32} : (fm_si M k j v).2 = M.2 := rfl
theorem row_two {M : fm_M} {k : Nat} {f : Nat → Int32} : (fm_row M k f).2 = M.2 := rfl
/-- nothing changed but the rows in A -/
def fr (A : Nat → Prop) (M M' : fm_M) : Prop := (∀ k, ¬ A k → M'.1 k = M.1 k) ∧ (∀ k, ¬ A k → M'.2.1 k = M.2.1 k) ∧ M'.2.2 = M.2.2
theorem fr.rf {A : Nat → Prop} {M : fm_M} : fr A M M := ⟨fun _ _ => rfl, fun _ _ => rfl, rfl⟩
theorem fr.tr {A : Nat → Prop} {M M' M'' : fm_M} (h : fr A M M') (h' : fr A M' M'') : fr A M M'' := ⟨fun k hk => (h'.1 k hk).trans (h.1 k hk), fun k hk => (h'.2.1 k hk).trans (h.2.1 k hk), h'.2.2.trans h.2.2⟩
theorem fr.up {A B : Nat → Prop} {M M' : fm_M} (h : fr A M M') (hAB : ∀ k, A k → B k) : fr B M M' := ⟨fun k hk => h.1 k (fun z => hk (hAB k z)), fun k hk => h.2.1 k (fun z => hk (hAB k z)), h.2.2⟩
theorem fr.si {A : Nat → Prop} {M : fm_M} {k j : Nat} {v : Int32} (h : A k) : fr A M (fm_si M k j v) := ⟨fun a ha => si_row (fun e => ha (e ▸ h)), fun _ _ => rfl, rfl⟩
theorem fr.row {A : Nat → Prop} {M : fm_M} {k : Nat} {f : Nat → Int32} (h : A k) : fr A M (fm_row M k f) := ⟨fun a ha => fm_row_ne (fun e => ha (e ▸ h)), fun _ _ => rfl, rfl⟩
theorem fr.sl {A : Nat → Prop} {M : fm_M} {k j : Nat} {v : Int64} (h : A k) : fr A M (fm_sl M k j v) := ⟨fun _ _ => rfl, fun a ha => fm_sl_ne (fun e => ha (e ▸ h)), rfl⟩
