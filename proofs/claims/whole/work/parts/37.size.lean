/-! ===== how large numbers get; powers as plain numbers; the first least one ===== -/
def ab (x : Int32) (c : Nat) : Prop := x.toInt.natAbs ≤ c
theorem ab_up {x : Int32} {a b : Nat} (h : ab x a) (hc : a ≤ b) : ab x b := Nat.le_trans h hc
theorem ab_ii {z : Int} {c : Nat} (h : z.natAbs ≤ c) (hc : c ≤ 2147483647) : ab (ii z) c := by
  unfold ab
  rw [ii_toInt (by omega)]
  exact h
theorem ab_nn {i c : Nat} (h : i ≤ c) (hc : c ≤ 1900000000) : ab (nn i) c := by
  unfold ab
  rw [nn_toInt nB]
  omega
theorem ab_add {x y : Int32} {a b : Nat} (hx : ab x a) (hy : ab y b) (h : a + b ≤ 2147483647) : ab (x + y) (a + b) := by
  unfold ab at *
  rw [← ii_of x, ← ii_of y, ii_add, ii_toInt (by omega)]
  omega
theorem ab_sub {x y : Int32} {a b : Nat} (hx : ab x a) (hy : ab y b) (h : a + b ≤ 2147483647) : ab (x - y) (a + b) := by
  unfold ab at *
  rw [← ii_of x, ← ii_of y, ii_sub, ii_toInt (by omega)]
  omega
theorem ab_mul {x y : Int32} {a b : Nat} (hx : ab x a) (hy : ab y b) (h : a * b ≤ 2147483647) : ab (x * y) (a * b) := by
  unfold ab at *
  have h1 := Nat.mul_le_mul hx hy
  rw [← Int.natAbs_mul] at h1
  rw [← ii_of x, ← ii_of y, ii_mul]
  generalize x.toInt * y.toInt = p at h1
  rw [ii_toInt (by omega)]
  exact h1
theorem ab_div {x : Int32} {a d : Nat} (hx : ab x a) (h1 : 1 ≤ d) (h2 : d ≤ 2000000000) (h : a ≤ 2147483647) : ab (x / nn d) (a / d) := by
  unfold ab at *
  have h3 : (x.toInt.tdiv (d : Int)).natAbs ≤ a / d := by
    rw [Int.natAbs_tdiv]
    exact Nat.div_le_div_right hx
  have h4 : a / d ≤ a := Nat.div_le_self _ _
  rw [← ii_of x, nn_ii, ii_div (by omega)]
  generalize x.toInt.tdiv (d : Int) = p at h3
  rw [ii_toInt (by omega)]
  exact h3
theorem ab_clamp {c : Nat} {v : Int32} (hc : c ≤ 9999) : ab (jmax (-(nn c)) (jmin (nn c) v)) c := by
  show ab (if -(nn c) < (if v < nn c then v else nn c) then (if v < nn c then v else nn c) else -(nn c)) c
  rw [nn_ii c, ii_neg]
  unfold ab
  by_cases h1 : v < ii (c : Int)
  · rw [if_pos h1]
    rw [Int32.lt_iff_toInt_lt, ii_toInt (by omega)] at h1
    by_cases h2 : ii (-(c : Int)) < v
    · rw [if_pos h2]
      rw [Int32.lt_iff_toInt_lt, ii_toInt (by omega)] at h2
      omega
    · rw [if_neg h2, ii_toInt (by omega)]
      omega
  · rw [if_neg h1]
    by_cases h2 : ii (-(c : Int)) < ii (c : Int)
    · rw [if_pos h2, ii_toInt (by omega)]
      omega
    · rw [if_neg h2, ii_toInt (by omega)]
      omega
theorem smp_ab {g : Nat → Int32} {A : Nat → Bool} {m : Nat} {t : Int} (hg : gV g) : ab (smp g A m t) 9999 := by
  obtain ⟨e, h1, h2⟩ := bd_nn hg.2.2.1 (by decide)
  unfold smp
  split
  · rw [e]
    exact ab_up (ab_clamp (by omega)) (by omega)
  · show (0 : Int32).toInt.natAbs ≤ 9999
    decide
theorem tr_ab {g : Nat → Int32} {H : Nat → Int → Int32} {m : Nat} {b t : Int} (hg : gV g) (hm : m < gn g) (hH : ∀ m t, ab (H m t) 9999) : ab (tr g H m b t) 20000 := by
  obtain ⟨e, h1, h2⟩ := bd_nn (hg.mic hm).2.2.2.1 (by decide)
  unfold tr
  generalize (g (1 + 6 * m)).toInt * b = X
  have f1 : 0 ≤ X % 8 ∧ X % 8 < 8 := by omega
  obtain ⟨f, ef, hf⟩ : ∃ f : Nat, X % 8 = (f : Int) ∧ f < 8 := ⟨(X % 8).toNat, by omega, by omega⟩
  rw [ef, ← nn_ii, show (8 : Int32) - nn f = nn (8 - f) from nn_sub (i := 8) (by omega), e]
  have a1 : ab (nn (8 - f) * H m (t + X / 8)) ((8 - f) * 9999) := ab_mul (ab_nn (Nat.le_refl _) (by omega)) (hH _ _) (by omega)
  have a2 : ab (nn f * H m (t + X / 8 + 1)) (f * 9999) := ab_mul (ab_nn (Nat.le_refl _) (by omega)) (hH _ _) (by omega)
  have a3 := ab_up (ab_add a1 a2 (by omega)) (show _ ≤ 79992 by omega)
  have a4 : ab (_ / nn 8) _ := ab_div (d := 8) a3 (by decide) (by decide) (by decide)
  have a5 := ab_mul a4 (ab_nn (i := (g (4 + 6 * m)).toNatClampNeg) (c := 200) (by omega) (by decide)) (by decide)
  exact ab_up (ab_div (d := 100) a5 (by decide) (by decide) (by decide)) (by decide)
theorem sm_ab {f : Nat → Int32} {c : Nat} : ∀ {n : Nat}, (∀ i, i < n → ab (f i) c) → n * c ≤ 2147483647 → ab (sm f n) (n * c)
  | 0, _, _ => by show (0 : Int32).toInt.natAbs ≤ _; simp
  | n + 1, h, hc => by
    rw [Nat.succ_mul] at hc ⊢
    exact ab_add (sm_ab (fun i hi => h i (by omega)) (by omega)) (h n (by omega)) hc
theorem bm_ab {T : Nat → Int32} {s : Nat} (hs : s < 64) (hT : ∀ m, s.testBit m = true → ab (T m) 20000) : ab (bm T s) 120000 := by
  unfold bm
  split
  · show (0 : Int32).toInt.natAbs ≤ _; decide
  · have h := sm_ab (f := fun m => if s.testBit m then T m else 0) (n := 6) (c := 20000) (fun i _ => by
      try dsimp only
      split
      · exact hT _ (by assumption)
      · show (0 : Int32).toInt.natAbs ≤ _; decide) (by decide)
    have hp := pop_pos hs (by assumption)
    have hp6 := pop_le hs
    exact ab_up (ab_div h hp (by omega) (by decide)) (Nat.div_le_self _ _)
theorem bk_ab {T : Nat → Int32} {s j : Nat} (h1 : ab (T (lva s j)) 20000) (h2 : ab (T (lva s (j + 1))) 20000) : ab (bk T s j) 40000 := ab_sub h1 h2 (by decide)
def bw (w : Nat → Int32) : Prop := ∀ j, ∃ n, n ≤ 32 ∧ w j = bs n
theorem st_bsab : ∀ n : Fin 33, (bs n).toInt.natAbs ≤ 16 := by decide +kernel
theorem bw_ab {w : Nat → Int32} (h : bw w) (j : Nat) : ab (w j) 16 := by
  obtain ⟨n, hn, e⟩ := h j
  rw [e]
  exact st_bsab ⟨n, by omega⟩
theorem cl_ab {B : Nat → Int32} {K : Nat → Nat → Int32} {w : Nat → Int32} {W i : Nat} (hB : ab (B i) 120000) (hK : ∀ j, j < W → ab (K j i) 40000) (hw : bw w) (hW : W ≤ 5) : ab (cl B K w W i) 3320000 := by
  have h := sm_ab (f := fun j => w j * K j i) (n := W) (c := 640000) (fun j hj => ab_mul (bw_ab hw j) (hK j hj) (by decide)) (by omega)
  unfold cl
  have h2 : ab (sm (fun j => w j * K j i) W / nn 16) (W * 640000 / 16) := ab_div h (by decide) (by decide) (by omega)
  have h3 := ab_up h2 (show _ ≤ 3200000 by omega)
  exact ab_sub hB h3 (by decide)
/-! powers -/
def sqn (x : Int32) : Nat := x.toInt.natAbs * x.toInt.natAbs
def ns (f : Nat → Nat) : Nat → Nat
  | 0 => 0
  | n + 1 => ns f n + f n
theorem ns_le {f : Nat → Nat} {c : Nat} : ∀ {n : Nat}, (∀ i, i < n → f i ≤ c) → ns f n ≤ n * c
  | 0, _ => by show 0 ≤ _; omega
  | n + 1, h => by
    rw [Nat.succ_mul]
    exact Nat.add_le_add (ns_le (fun i hi => h i (by omega))) (h n (by omega))
theorem ns_mono {f : Nat → Nat} {i : Nat} : ∀ {n : Nat}, i ≤ n → ns f i ≤ ns f n
  | 0, h => by
    obtain rfl : i = 0 := by omega
    exact Nat.le_refl _
  | n + 1, h => by
    by_cases e : i = n + 1
    · rw [e]; exact Nat.le_refl _
    · exact Nat.le_trans (ns_mono (by omega : i ≤ n)) (Nat.le_add_right _ _)
theorem ns_congr {f h : Nat → Nat} : ∀ {n : Nat}, (∀ i, i < n → f i = h i) → ns f n = ns h n
  | 0, _ => rfl
  | n + 1, e => by
    show ns f n + f n = ns h n + h n
    rw [ns_congr (fun i hi => e i (by omega)), e n (by omega)]
theorem lN_ii (n : Nat) : lN n = Int64.ofInt (n : Int) := Int64.ofInt_eq_ofNat.symm
theorem sq_lN (x : Int32) : x.toInt64 * x.toInt64 = lN (sqn x) := by
  rw [← Int64.ofInt_int32ToInt, ← Int64.ofInt_mul, lN_ii]
  congr 1
  unfold sqn
  exact Int.natAbs_mul_self.symm
theorem lN_plus (a b : Nat) : lN a + lN b = lN (a + b) := by
  rw [lN_ii, lN_ii, lN_ii, ← Int64.ofInt_add]
  rfl
theorem lN_times (a b : Nat) : lN a * lN b = lN (a * b) := by
  rw [lN_ii, lN_ii, lN_ii, ← Int64.ofInt_mul]
  rfl
theorem nn_lN {L : Nat} (h : L < 2000000000) : (nn L).toInt64 = lN L := by
  rw [← Int64.ofInt_int32ToInt, nn_toInt nB, lN_ii]
theorem sl_lN (r : Nat → Int32) : ∀ n, sl (fun i => (r i).toInt64 * (r i).toInt64) n = lN (ns (fun i => sqn (r i)) n)
  | 0 => rfl
  | n + 1 => by
    show sl _ n + _ = lN (ns _ n + sqn (r n))
    rw [sl_lN r n, ← lN_plus, ← sq_lN]
def pwn (r : Nat → Int32) (L : Nat) : Nat := ns (fun i => sqn (r i)) L / L
theorem sqn_le {x : Int32} {c : Nat} (h : ab x c) : sqn x ≤ c * c := Nat.mul_le_mul h h
theorem ns_sq {r : Nat → Int32} {L c : Nat} (h : ∀ i, i < L → ab (r i) c) : ns (fun i => sqn (r i)) L ≤ L * (c * c) := ns_le (fun i hi => sqn_le (h i hi))
theorem pw_pwn {r : Nat → Int32} {L : Nat} (h1 : 1 ≤ L ∧ L ≤ 48) (h : ns (fun i => sqn (r i)) L < 2 ^ 63) : pw r L = lN (pwn r L) := by
  unfold pw pwn
  rw [sl_lN, nn_lN (by omega), pk_lDiv h (by omega) (by omega)]
/-! the first least one -/
def am (P : Nat → Nat) : Nat → Nat
  | 0 => 0
  | n + 1 => if P (n + 1) < P (am P n) then n + 1 else am P n
theorem am_le (P : Nat → Nat) : ∀ n, am P n ≤ n
  | 0 => Nat.le_refl _
  | n + 1 => by
    unfold am
    split
    · exact Nat.le_refl _
    · exact Nat.le_succ_of_le (am_le P n)
theorem am_min (P : Nat → Nat) : ∀ n i, i ≤ n → P (am P n) ≤ P i
  | 0, i, h => by
    obtain rfl : i = 0 := by omega
    exact Nat.le_refl _
  | n + 1, i, h => by
    unfold am
    split
    · by_cases e : i = n + 1
      · rw [e]; exact Nat.le_refl _
      · exact Nat.le_trans (Nat.le_of_lt (by assumption)) (am_min P n i (by omega))
    · by_cases e : i = n + 1
      · rw [e]; exact Nat.not_lt.mp (by assumption)
      · exact am_min P n i (by omega)
theorem am_congr {P Q : Nat → Nat} : ∀ {n : Nat}, (∀ i, i ≤ n → P i = Q i) → am P n = am Q n
  | 0, _ => rfl
  | n + 1, h => by
    unfold am
    rw [am_congr (fun i hi => h i (by omega)), h (n + 1) (by omega), h _ (by have := am_le Q n; omega)]
/-! weights -/
def cP (B : Nat → Int32) (K : Nat → Nat → Int32) (W L : Nat) (w : Nat → Int32) : Nat := pwn (cl B K w W) L
def lr (B : Nat → Int32) (K : Nat → Nat → Int32) (W L : Nat) (w : Nat → Int32) (j : Nat) : Nat → Int32 := upd w j (bs (am (fun n => cP B K W L (upd w j (bs n))) 32))
def rd (B : Nat → Int32) (K : Nat → Nat → Int32) (W L : Nat) (w : Nat → Int32) : Nat → Nat → Int32
  | 0 => w
  | j + 1 => lr B K W L (rd B K W L w j) j
def wt (B : Nat → Int32) (K : Nat → Nat → Int32) (W L : Nat) : Nat → Nat → Int32
  | 0 => fun _ => 0
  | r + 1 => rd B K W L (wt B K W L r) W
theorem bw_upd {w : Nat → Int32} (h : bw w) {j n : Nat} (hn : n ≤ 32) : bw (upd w j (bs n)) := by
  intro i
  unfold upd
  split
  · exact ⟨n, hn, rfl⟩
  · exact h i
theorem bw_lr {B : Nat → Int32} {K : Nat → Nat → Int32} {W L : Nat} {w : Nat → Int32} (h : bw w) {j : Nat} : bw (lr B K W L w j) := bw_upd h (am_le _ _)
theorem bw_rd {B : Nat → Int32} {K : Nat → Nat → Int32} {W L : Nat} {w : Nat → Int32} (h : bw w) : ∀ j, bw (rd B K W L w j)
  | 0 => h
  | j + 1 => bw_lr (bw_rd h j)
theorem bw_0 : bw (fun _ => 0) := fun _ => ⟨0, by decide, rfl⟩
theorem bw_wt {B : Nat → Int32} {K : Nat → Nat → Int32} {W L : Nat} : ∀ r, bw (wt B K W L r)
  | 0 => bw_0
  | r + 1 => bw_rd (bw_wt r) W
theorem cl_congr {B C : Nat → Int32} {K J : Nat → Nat → Int32} {w v : Nat → Int32} {W i : Nat} (hB : B i = C i) (hK : ∀ j, j < W → K j i = J j i) (hw : ∀ j, j < W → w j = v j) : cl B K w W i = cl C J v W i := by
  unfold cl
  rw [hB, sm_congr (fun j hj => by rw [hK j hj, hw j hj])]
theorem cP_congr {B C : Nat → Int32} {K J : Nat → Nat → Int32} {w v : Nat → Int32} {W L : Nat} (hB : ∀ i, i < L → B i = C i) (hK : ∀ j i, j < W → i < L → K j i = J j i) (hw : ∀ j, j < W → w j = v j) : cP B K W L w = cP C J W L v := by
  unfold cP pwn
  rw [ns_congr (fun i hi => by rw [cl_congr (hB i hi) (fun j hj => hK j i hj hi) hw])]
theorem lr_congr {B C : Nat → Int32} {K J : Nat → Nat → Int32} {w : Nat → Int32} {W L j : Nat} (hB : ∀ i, i < L → B i = C i) (hK : ∀ j i, j < W → i < L → K j i = J j i) : lr B K W L w j = lr C J W L w j := by
  unfold lr
  rw [am_congr (fun n _ => cP_congr hB hK (fun _ _ => rfl))]
theorem rd_congr {B C : Nat → Int32} {K J : Nat → Nat → Int32} {w : Nat → Int32} {W L : Nat} (hB : ∀ i, i < L → B i = C i) (hK : ∀ j i, j < W → i < L → K j i = J j i) : ∀ j, rd B K W L w j = rd C J W L w j
  | 0 => rfl
  | j + 1 => by
    show lr B K W L (rd B K W L w j) j = lr C J W L (rd C J W L w j) j
    rw [rd_congr hB hK j, lr_congr hB hK]
theorem wt_congr {B C : Nat → Int32} {K J : Nat → Nat → Int32} {W L : Nat} (hB : ∀ i, i < L → B i = C i) (hK : ∀ j i, j < W → i < L → K j i = J j i) : ∀ r, wt B K W L r = wt C J W L r
  | 0 => rfl
  | r + 1 => by
    show rd B K W L (wt B K W L r) W = rd C J W L (wt C J W L r) W
    rw [wt_congr hB hK r, rd_congr hB hK]
def okB (B : Nat → Int32) (K : Nat → Nat → Int32) (W L : Nat) : Prop := W ≤ 5 ∧ 1 ≤ L ∧ L ≤ 48 ∧ (∀ i, i < L → ab (B i) 120000) ∧ ∀ j i, j < W → i < L → ab (K j i) 40000
theorem okB.ns {B : Nat → Int32} {K : Nat → Nat → Int32} {W L : Nat} (h : okB B K W L) {w : Nat → Int32} (hw : bw w) : ns (fun i => sqn (cl B K w W i)) L < 1000000000000000 := by
  obtain ⟨h1, h2, h3, h4, h5⟩ := h
  have := ns_sq (r := cl B K w W) (L := L) (c := 3320000) (fun i hi => cl_ab (h4 i hi) (fun j hj => h5 j i hj hi) hw h1)
  omega
theorem okB.pw {B : Nat → Int32} {K : Nat → Nat → Int32} {W L : Nat} (h : okB B K W L) {w : Nat → Int32} (hw : bw w) : pw (cl B K w W) L = lN (cP B K W L w) := pw_pwn ⟨h.2.1, h.2.2.1⟩ (by have := h.ns hw; omega)
theorem okB.lt {B : Nat → Int32} {K : Nat → Nat → Int32} {W L : Nat} (h : okB B K W L) {w : Nat → Int32} (hw : bw w) : cP B K W L w < 1000000000000000 := Nat.lt_of_le_of_lt (Nat.div_le_self _ _) (h.ns hw)
