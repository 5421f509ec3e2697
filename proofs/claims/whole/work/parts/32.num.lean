/-! ===== numbers: ints as whole numbers ===== -/
abbrev ii (z : Int) : Int32 := Int32.ofInt z
theorem ii_toInt {z : Int} (h : -2147483648 ≤ z ∧ z ≤ 2147483647) : (ii z).toInt = z := Int32.toInt_ofInt_of_le (by omega) (by omega)
theorem ii_of (x : Int32) : ii x.toInt = x := Int32.ofInt_toInt x
theorem nn_ii (i : Nat) : nn i = ii (i : Int) := Int32.ofInt_eq_ofNat.symm
theorem ii_nat {z : Int} (h : 0 ≤ z) : ii z = nn z.toNat := by
  rw [nn_ii, Int.toNat_of_nonneg h]
theorem ii_add (a b : Int) : ii a + ii b = ii (a + b) := (Int32.ofInt_add a b).symm
theorem ii_sub (a b : Int) : ii a - ii b = ii (a - b) := (Int32.ofInt_sub a b).symm
theorem ii_mul (a b : Int) : ii a * ii b = ii (a * b) := (Int32.ofInt_mul a b).symm
theorem ii_neg (a : Int) : -ii a = ii (-a) := (Int32.ofInt_neg a).symm
theorem ii_le {a b : Int} (h : (-2147483648 ≤ a ∧ a ≤ 2147483647) ∧ -2147483648 ≤ b ∧ b ≤ 2147483647) : ii a ≤ ii b ↔ a ≤ b := by
  rw [Int32.le_iff_toInt_le, ii_toInt h.1, ii_toInt h.2]
theorem ii_lt {a b : Int} (h : (-2147483648 ≤ a ∧ a ≤ 2147483647) ∧ -2147483648 ≤ b ∧ b ≤ 2147483647) : ii a < ii b ↔ a < b := by
  rw [Int32.lt_iff_toInt_lt, ii_toInt h.1, ii_toInt h.2]
theorem ii_inj {a b : Int} (h : (-2147483648 ≤ a ∧ a ≤ 2147483647) ∧ -2147483648 ≤ b ∧ b ≤ 2147483647) : ii a = ii b ↔ a = b := by
  constructor
  · intro e
    have := congrArg Int32.toInt e
    rwa [ii_toInt h.1, ii_toInt h.2] at this
  · intro e; rw [e]
theorem mx_min : Int32.minValue.toInt = -2147483648 := rfl
theorem mx_max : Int32.maxValue.toInt = 2147483647 := rfl
theorem ii_div {a b : Int} (h : (-2147483648 ≤ a ∧ a ≤ 2147483647) ∧ -2147483648 ≤ b ∧ b ≤ 2147483647) : ii a / ii b = ii (a.tdiv b) := by
  exact (Int32.ofInt_tdiv (by rw [mx_min]; omega) (by rw [mx_max]; omega) (by rw [mx_min]; omega) (by rw [mx_max]; omega)).symm
theorem ii_jrem {a b : Int} (h : (-2147483648 ≤ a ∧ a ≤ 2147483647) ∧ -2147483648 ≤ b ∧ b ≤ 2147483647) : jrem (ii a) (ii b) = ii (a.tmod b) := by
  show ii a - ii a / ii b * ii b = _
  rw [ii_div h, ii_mul, ii_sub]
  congr 1
  have := Int.tmod_add_tdiv_mul a b
  omega
theorem tm_emod {k n : Int} (hn : 0 < n) : k % n = if 0 ≤ k.tmod n then k.tmod n else k.tmod n + n := by
  have e := Int.tmod_add_tdiv_mul k n
  have h1 := Int.tmod_lt_of_pos k hn
  have h2 := Int.lt_tmod_of_pos k hn
  have e3 : k % n = k.tmod n % n := by
    have e4 : k = k.tmod n + n * k.tdiv n := by rw [Int.mul_comm]; exact e.symm
    have e5 : (k.tmod n + n * k.tdiv n) % n = k.tmod n % n := Int.add_mul_emod_self_left _ _ _
    rw [← e4] at e5
    exact e5
  rw [e3]
  split
  · exact Int.emod_eq_of_lt (by assumption) h1
  · have e6 : (k.tmod n + n) % n = k.tmod n % n := Int.add_emod_right _ _
    rw [← e6]
    exact Int.emod_eq_of_lt (by omega) (by omega)
theorem nb_modulo {M : fm_M} {k n : Int} (hk : -1000000000 ≤ k ∧ k ≤ 1000000000) (hn : 0 < n ∧ n ≤ 1000000) : pModel_modulo M (ii k) (ii n) = some (ii (k % n)) := by
  have h1 := Int.tmod_lt_of_pos k hn.1
  have h2 := Int.lt_tmod_of_pos k hn.1
  unfold pModel_modulo fm_nz
  rw [if_neg (by rw [show (0 : Int32) = ii 0 from rfl, ii_inj (by omega)]; omega), ii_jrem (by omega), show (0 : Int32) = ii 0 from rfl, tm_emod hn.1]
  by_cases h : 0 ≤ k.tmod n
  · rw [if_pos ((ii_le (by omega)).mpr h), if_pos h]
  · rw [if_neg (fun q => h ((ii_le (by omega)).mp q)), if_neg h, ii_add]
theorem nb_eighths {M : fm_M} {x : Int} (hk : -1000000000 ≤ x ∧ x ≤ 1000000000) : pModel_eighths M (ii x) = some (ii (x / 8)) := by
  unfold pModel_eighths
  rw [show (8 : Int32) = ii 8 from rfl, nb_modulo hk (by omega)]
  show some ((ii x - ii (x % 8)) / ii 8) = _
  rw [ii_sub, ii_div (by omega), Int.tdiv_eq_ediv_of_dvd (by omega)]
  congr 2
  omega
theorem nb_sgn (x y : Int32) (hy : 0 ≤ y) : 0 ≤ (x ^^^ y) ↔ 0 ≤ x := by
  have key : ∀ z : Int32, 0 ≤ z ↔ z.toBitVec.msb = false := by
    intro z
    rw [Int32.le_iff_toInt_le]
    show (0 : Int) ≤ z.toBitVec.toInt ↔ _
    rw [BitVec.toInt_eq_msb_cond]
    have := z.toBitVec.isLt
    cases z.toBitVec.msb <;> simp <;> omega
  rw [key, key, Int32.toBitVec_xor, BitVec.msb_xor, (key y).mp hy]
  simp
theorem nb_floorMod {M : fm_M} {k n : Int} (hk : -1000000000 ≤ k ∧ k ≤ 1000000000) (hn : 0 < n ∧ n ≤ 1000000) : pMath_floorMod M (ii k) (ii n) = some (ii (k % n)) := by
  have h1 := Int.tmod_lt_of_pos k hn.1
  have h2 := Int.lt_tmod_of_pos k hn.1
  unfold pMath_floorMod fm_nz
  rw [if_neg (by rw [show (0 : Int32) = ii 0 from rfl, ii_inj (by omega)]; omega), ii_jrem (by omega), tm_emod hn.1]
  by_cases h : 0 ≤ k
  · have h3 := Int.tmod_nonneg n h
    rw [if_pos ((nb_sgn _ _ (by rw [show (0 : Int32) = ii 0 from rfl, ii_le (by omega)]; omega)).mpr (by rw [show (0 : Int32) = ii 0 from rfl, ii_le (by omega)]; omega)), if_pos h3]
  · rw [if_neg (fun q => by
      have := (nb_sgn _ _ (by rw [show (0 : Int32) = ii 0 from rfl, ii_le (by omega)]; omega)).mp q
      rw [show (0 : Int32) = ii 0 from rfl, ii_le (by omega)] at this
      omega), show (0 : Int32) = ii 0 from rfl]
    have h4 : k.tmod n ≤ 0 := by
      have := Int.tmod_nonneg n (a := -k) (by omega)
      rw [Int.neg_tmod] at this
      omega
    by_cases h5 : k.tmod n = 0
    · rw [if_pos ((ii_inj (by omega)).mpr h5), if_pos (by omega)]
    · rw [if_neg (fun q => h5 ((ii_inj (by omega)).mp q)), if_neg (by omega), ii_add]
theorem nb_and7 (x : Int) : ii x &&& 7 = ii (x % 8) := by
  rw [pk_and (ii x) 3 (by decide)]
  show nn _ = _
  rw [nn_ii]
  congr 1
  show (((BitVec.ofInt 32 x).toNat % 2 ^ 3 : Nat) : Int) = _
  rw [BitVec.toNat_ofInt]
  omega
theorem nb_shr3 {x : Int} (hx : -2147483648 ≤ x ∧ x ≤ 2147483647) : jshr (ii x) 3 = ii (x / 8) := by
  apply Int32.toInt.inj
  show (ii x >>> ((3 : Int32) &&& 31)).toInt = _
  rw [pk_shr (ii x) _ 3 (by decide), ii_toInt hx, ii_toInt (by omega), Int.shiftRight_eq_div_pow]
  rfl
/-! sets of six: all by looking -/
def pop (s : Nat) : Nat := (List.range 6).foldl (fun a m => a + if s.testBit m then 1 else 0) 0
def clr (s : Nat) : Nat := s &&& (s - 1)
theorem st_bit : ∀ s : Fin 64, ∀ m : Fin 7, ((jshr (nn s) (nn m)) &&& 1 = 0 ↔ s.val.testBit m = false) := by decide +kernel
theorem st_bit1 : ∀ s : Fin 64, ∀ m : Fin 7, ((jshr (nn s) (nn m)) &&& 1 = 1 ↔ s.val.testBit m = true) := by decide +kernel
theorem st_pop : ∀ s : Fin 64, pop s ≤ 6 := by decide +kernel
theorem st_clr : ∀ s : Fin 64, s.val ≠ 0 → clr s < s.val ∧ pop s = pop (clr s) + 1 ∧ (nn s &&& (nn s - 1)) = nn (clr s) := by decide +kernel
theorem st_or : ∀ s : Fin 64, ∀ m : Fin 6, nn s ||| (jshl 1 (nn m)) = nn (s.val ||| 2 ^ m.val) := by decide +kernel
theorem st_without : ∀ s : Fin 64, ∀ m : Fin 6, (nn s &&& ((jshl 1 (nn m)) ^^^ (-1))) = nn (s.val &&& (63 - 2 ^ m.val)) ∧ s.val &&& (63 - 2 ^ m.val) < 64 ∧ s.val &&& (63 - 2 ^ m.val) ≤ s.val ∧ (s.val.testBit m = true → pop (s.val &&& (63 - 2 ^ m.val)) + 1 = pop s.val) := by decide +kernel
set_option maxRecDepth 100000 in
theorem st_count : ∀ s : Fin 64, pInteger_bitCount fm_m0 (nn s) = some (nn (pop s)) := by decide +kernel
theorem bt_at {s m : Nat} (hs : s < 64) (hm : m < 7) : ((jshr (nn s) (nn m)) &&& 1 = 0 ↔ s.testBit m = false) := st_bit ⟨s, hs⟩ ⟨m, hm⟩
theorem bt_at1 {s m : Nat} (hs : s < 64) (hm : m < 7) : ((jshr (nn s) (nn m)) &&& 1 = 1 ↔ s.testBit m = true) := st_bit1 ⟨s, hs⟩ ⟨m, hm⟩
theorem pop_le {s : Nat} (hs : s < 64) : pop s ≤ 6 := st_pop ⟨s, hs⟩
theorem bt_count {M : fm_M} {s : Nat} (hs : s < 64) : pInteger_bitCount M (nn s) = some (nn (pop s)) := st_count ⟨s, hs⟩
theorem bt_or {s m : Nat} (hs : s < 64) (hm : m < 6) : nn s ||| (jshl 1 (nn m)) = nn (s ||| 2 ^ m) := st_or ⟨s, hs⟩ ⟨m, hm⟩
/-! loops whose states are known -/
theorem lp_res {σ ρ : Type} {step : (σ → Option ρ) → σ → Option ρ} (n : Nat) (st : Nat → σ) (res : Nat → Option ρ) (hs : ∀ i, i < n → ∀ k : σ → Option ρ, k (st (i + 1)) = res (i + 1) → step k (st i) = res i) (he : ∀ k : σ → Option ρ, step k (st n) = res n) {N : Nat} (hN : n < N) : fm_lp step N (st 0) = res 0 := by
  have key : ∀ (j N i : Nat), i + j = n → j < N → fm_lp step N (st i) = res i := by
    intro j
    induction j with
    | zero =>
      intro N i hi hN
      obtain ⟨N, rfl⟩ : ∃ N', N = N' + 1 := ⟨N - 1, by omega⟩
      obtain rfl : i = n := by omega
      exact he _
    | succ j ih =>
      intro N i hi hN
      obtain ⟨N, rfl⟩ : ∃ N', N = N' + 1 := ⟨N - 1, by omega⟩
      exact hs i (by omega) _ (ih N (i + 1) (by omega) (by omega))
  exact key n N 0 (by omega) hN
theorem lp_for {σ ρ : Type} {step : (σ → Option ρ) → σ → Option ρ} (n : Nat) (st : Nat → σ) (r : Option ρ) (hs : ∀ i, i < n → ∀ k : σ → Option ρ, step k (st i) = k (st (i + 1))) (he : ∀ k : σ → Option ρ, step k (st n) = r) {N : Nat} (hN : n < N) : fm_lp step N (st 0) = r :=
  lp_res n st (fun _ => r) (fun i hi k hk => (hs i hi k).trans hk) he hN
theorem bt_countBits {N : Nat} {M : fm_M} (hN : 100 ≤ N) : ∀ {s : Nat}, s < 64 → pModel_countBits N M (nn s) = some (nn (pop s)) := by
  have key : ∀ (p N s c : Nat), s < 64 → pop s = p → p < N → fm_lp (pModel_countBits_L4 N M) N (nn c, nn s) = some (nn (c + p)) := by
    intro p N s c hs hp hN
    have gen : ∀ (p N' s c : Nat), s < 64 → pop s = p → p < N' → fm_lp (pModel_countBits_L4 N M) N' (nn c, nn s) = some (nn (c + p)) := by
      intro p
      induction p with
      | zero =>
        intro N' s c hs hp hN
        obtain ⟨N', rfl⟩ : ∃ N1, N' = N1 + 1 := ⟨N' - 1, by omega⟩
        have : s = 0 := by
          by_cases h : s = 0
          · exact h
          · have := st_clr ⟨s, hs⟩ h
            dsimp only at this
            omega
        subst this
        show (if nn 0 = 0 then some (nn c) else fm_lp (pModel_countBits_L4 N M) N' (nn c + 1, nn 0 &&& (nn 0 - 1))) = _
        rw [if_pos (show nn 0 = 0 from rfl)]
        rfl
      | succ p ih =>
        intro N' s c hs hp hN
        obtain ⟨N', rfl⟩ : ∃ N1, N' = N1 + 1 := ⟨N' - 1, by omega⟩
        have hs0 : s ≠ 0 := by
          intro h
          subst h
          have : pop 0 = 0 := by decide
          omega
        obtain ⟨h1, h2, h3⟩ := st_clr ⟨s, hs⟩ hs0
        dsimp only at h1 h2 h3
        show (if nn s = 0 then _ else fm_lp (pModel_countBits_L4 N M) N' (nn c + 1, nn s &&& (nn s - 1))) = _
        rw [if_neg (by rw [show (0 : Int32) = nn 0 from rfl, nn_inj (by unfold mr_B; omega) (by unfold mr_B; omega)]; exact hs0), h3, nn_succ, ih N' (clr s) (c + 1) (by omega) (by omega) (by omega)]
        congr 2
        omega
    exact gen p N s c hs hp hN
  intro s hs
  have := key (pop s) N s 0 hs rfl (by have := pop_le hs; omega)
  rw [Nat.zero_add] at this
  exact this
/-! sums -/
def sm (f : Nat → Int32) : Nat → Int32
  | 0 => 0
  | n + 1 => sm f n + f n
theorem sm_congr {f h : Nat → Int32} : ∀ {n : Nat}, (∀ i, i < n → f i = h i) → sm f n = sm h n
  | 0, _ => rfl
  | n + 1, e => by
    show sm f n + f n = sm h n + h n
    rw [sm_congr (fun i hi => e i (by omega)), e n (by omega)]
theorem sm_more {f : Nat → Int32} {n : Nat} : ∀ {m : Nat}, (∀ i, n ≤ i → f i = 0) → n ≤ m → sm f m = sm f n
  | 0, _, h => by
    obtain rfl : n = 0 := by omega
    rfl
  | m + 1, e, h => by
    by_cases q : n = m + 1
    · rw [q]
    · show sm f m + f m = _
      rw [e m (by omega), Int32.add_zero]
      exact sm_more e (by omega)
/-! lists of bits -/
def bset (p : Nat → Bool) : Nat → Nat
  | 0 => 0
  | m + 1 => bset p m ||| (if p m then 2 ^ m else 0)
theorem bset_lt {p : Nat → Bool} : ∀ n, bset p n < 2 ^ n
  | 0 => by show 0 < 1; decide
  | n + 1 => by
    refine Nat.or_lt_two_pow (Nat.lt_of_lt_of_le (bset_lt n) (Nat.pow_le_pow_right (by decide) (by omega))) ?_
    split
    · exact Nat.pow_lt_pow_right (by decide) (by omega)
    · exact Nat.two_pow_pos _
theorem bset_bit {p : Nat → Bool} : ∀ n i, (bset p n).testBit i = (decide (i < n) && p i)
  | 0, i => by simp [bset]
  | n + 1, i => by
    show (bset p n ||| (if p n then 2 ^ n else 0)).testBit i = _
    rw [Nat.testBit_or, bset_bit n i]
    by_cases h : i = n
    · subst h
      cases hp : p i <;> simp [hp]
    · have h1 : ((if p n = true then 2 ^ n else 0).testBit i) = false := by
        split
        · rw [Nat.testBit_two_pow]
          simp
          omega
        · simp
      rw [h1]
      by_cases h2 : i < n
      · simp [h2, Nat.lt_succ_of_lt h2]
      · have : ¬ i < n + 1 := by omega
        simp [h2, this]
theorem bset_64 {p : Nat → Bool} {n : Nat} (h : n ≤ 6) : bset p n < 64 := Nat.lt_of_lt_of_le (bset_lt n) (Nat.pow_le_pow_right (n := 2) (by decide) h)
theorem bset_step {p : Nat → Bool} {m : Nat} (hm : m < 6) : (p m = true → nn (bset p m) ||| (jshl 1 (nn m)) = nn (bset p (m + 1))) ∧ (p m = false → nn (bset p m) ||| 0 = nn (bset p (m + 1))) := by
  constructor
  · intro h
    rw [bt_or (bset_64 (by omega)) hm]
    show _ = nn (bset p m ||| (if p m then 2 ^ m else 0))
    rw [if_pos h]
  · intro h
    rw [Int32.or_zero]
    show _ = nn (bset p m ||| (if p m then 2 ^ m else 0))
    rw [h]
    simp
