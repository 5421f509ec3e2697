/-! ===== the methods as functions over the flat memory: by program out of the bytecode ===== -/
def pString_checkIndex (M : fm_M) (v0 v1 : Int32) : Option Unit := if v0 < 0 then none else if v0 < v1 then some () else none
def pBench_blockBetween_L3b (N : Nat) (v1 : Nat) (v2 : Nat) (v3 : Nat) (k3 : Int32 × fm_M → Option fm_M) (v4 : Int32) (M : fm_M) : Option fm_M :=
  if (M.1 181 10) ≤ v4 then some M else fm_ld (fm_n shC v1) M v1 v4 (fun x18 => fm_ld (fm_n shC v2) M v2 v4 (fun x22 => fm_st (fm_n shC v3) M v3 v4 (x18 - x22) (fun M24 => k3 ((v4 + 1), M24))))
def pBench_blockBetween_L3 (N : Nat) (v1 : Nat) (v2 : Nat) (v3 : Nat) (k3 : Int32 × fm_M → Option fm_M) (s : Int32 × fm_M) : Option fm_M := pBench_blockBetween_L3b N v1 v2 v3 k3 s.1 s.2
def pBench_blockBetween (N : Nat) (M : fm_M) (v1 : Nat) (v2 : Nat) (v3 : Nat) : Option fm_M :=
  fm_lp (pBench_blockBetween_L3 N v1 v2 v3) N (0, M)
def pBench_addToTaken_L2b (N : Nat) (v1 : Int32) (v2 : Int32) (k2 : Int32 × fm_M → Option fm_M) (v3 : Int32) (M : fm_M) : Option fm_M :=
  if (M.1 181 10) ≤ v3 then some M else fm_ld 48 M 199 v3 (fun x16 => fm_ix 5 (fun j => 192 + j) v1 (fun q23 => fm_ld 48 M q23 v3 (fun x25 => fm_st 48 M 199 v3 (x16 + (v2 * x25)) (fun M28 => k2 ((v3 + 1), M28)))))
def pBench_addToTaken_L2 (N : Nat) (v1 : Int32) (v2 : Int32) (k2 : Int32 × fm_M → Option fm_M) (s : Int32 × fm_M) : Option fm_M := pBench_addToTaken_L2b N v1 v2 k2 s.1 s.2
def pBench_addToTaken (N : Nat) (M : fm_M) (v1 : Int32) (v2 : Int32) : Option fm_M :=
  fm_lp (pBench_addToTaken_L2 N v1 v2) N (0, M)
def pBench_squares_L6b (N : Nat) (M : fm_M) (v1 : Int32) (v2 : Int32) (v3 : Int64) (k6 : Int64 × Int32 → Option Int64) (v5 : Int64) (v7 : Int32) : Option Int64 :=
  if (M.1 181 10) ≤ v7 then some v5 else if 0 ≤ (lg_cmp v5 v3) then some v5 else fm_ld 48 M 190 v7 (fun x28 => fm_ld 48 M 199 v7 (fun x35 => fm_ix 5 (fun j => 192 + j) v1 (fun q42 => fm_ld 48 M q42 v7 (fun x45 => k6 ((v5 + ((x28 - ((x35 + (v2 * x45)) / 16)).toInt64 * (x28 - ((x35 + (v2 * x45)) / 16)).toInt64)), (v7 + 1))))))
def pBench_squares_L6 (N : Nat) (M : fm_M) (v1 : Int32) (v2 : Int32) (v3 : Int64) (k6 : Int64 × Int32 → Option Int64) (s : Int64 × Int32) : Option Int64 := pBench_squares_L6b N M v1 v2 v3 k6 s.1 s.2
def pBench_squares (N : Nat) (M : fm_M) (v1 : Int32) (v2 : Int32) (v3 : Int64) : Option Int64 :=
  fm_lp (pBench_squares_L6 N M v1 v2 v3) N (0, 0)
def pBench_takeOff_L14b (N : Nat) (M : fm_M) (v1 : Int32) (k2 : Int32 × fm_M → Option fm_M) (k14 : Int32 × Int32 → Option fm_M) (v2 : Int32) (v3 : Int32) : Option fm_M :=
  if (M.1 181 9) ≤ v3 then fm_ld 48 M 190 v1 (fun x56 => fm_st 48 M 197 v1 (x56 - (v2 / 16)) (fun M62 => k2 ((v1 + 1), M62))) else fm_ld 5 M 198 v3 (fun x28 => fm_ix 5 (fun j => 192 + j) v3 (fun q34 => fm_ld 48 M q34 v1 (fun x36 => k14 ((v2 + (x28 * x36)), (v3 + 1)))))
def pBench_takeOff_L14 (N : Nat) (M : fm_M) (v1 : Int32) (k2 : Int32 × fm_M → Option fm_M) (k14 : Int32 × Int32 → Option fm_M) (s : Int32 × Int32) : Option fm_M := pBench_takeOff_L14b N M v1 k2 k14 s.1 s.2
def pBench_takeOff_L2b (N : Nat) (k2 : Int32 × fm_M → Option fm_M) (v1 : Int32) (M : fm_M) : Option fm_M :=
  if (M.1 181 10) ≤ v1 then some M else fm_lp (pBench_takeOff_L14 N M v1 k2) N (0, 0)
def pBench_takeOff_L2 (N : Nat) (k2 : Int32 × fm_M → Option fm_M) (s : Int32 × fm_M) : Option fm_M := pBench_takeOff_L2b N k2 s.1 s.2
def pBench_takeOff (N : Nat) (M : fm_M) : Option fm_M :=
  fm_lp (pBench_takeOff_L2 N) N (0, M)
def pBench_powerOf_J41 (N : Nat) (M : fm_M) (v2 : Int64) : Option Int64 :=
  fm_nzl ((M.1 181 10).toInt64) (some (v2 / (M.1 181 10).toInt64))
def pBench_powerOf_L5b (N : Nat) (M : fm_M) (v1 : Nat) (k5 : Int64 × Int32 → Option Int64) (v2 : Int64) (v4 : Int32) : Option Int64 :=
  if (M.1 181 10) ≤ v4 then pBench_powerOf_J41 N M v2 else fm_rq (fm_ia shC v1) (if (Int32.ofNat (fm_n shC v1)) ≤ v4 then pBench_powerOf_J41 N M v2 else fm_ld (fm_n shC v1) M v1 v4 (fun x25 => fm_ld (fm_n shC v1) M v1 v4 (fun x30 => k5 ((v2 + (x25.toInt64 * x30.toInt64)), (v4 + 1)))))
def pBench_powerOf_L5 (N : Nat) (M : fm_M) (v1 : Nat) (k5 : Int64 × Int32 → Option Int64) (s : Int64 × Int32) : Option Int64 := pBench_powerOf_L5b N M v1 k5 s.1 s.2
def pBench_powerOf (N : Nat) (M : fm_M) (v1 : Nat) : Option Int64 :=
  fm_lp (pBench_powerOf_L5 N M v1) N (0, 0)
def pBench_levelOf_J33 (N : Nat) (M : fm_M) (v2 : Int32) : Option Int32 :=
  fm_nz (M.1 181 10) (some (v2 / (M.1 181 10)))
def pBench_levelOf_L4b (N : Nat) (M : fm_M) (v1 : Nat) (k4 : Int32 × Int32 → Option Int32) (v2 : Int32) (v3 : Int32) : Option Int32 :=
  if (M.1 181 10) ≤ v3 then pBench_levelOf_J33 N M v2 else fm_rq (fm_ia shC v1) (if (Int32.ofNat (fm_n shC v1)) ≤ v3 then pBench_levelOf_J33 N M v2 else fm_ld (fm_n shC v1) M v1 v3 (fun x21 => k4 ((v2 + (jabs x21)), (v3 + 1))))
def pBench_levelOf_L4 (N : Nat) (M : fm_M) (v1 : Nat) (k4 : Int32 × Int32 → Option Int32) (s : Int32 × Int32) : Option Int32 := pBench_levelOf_L4b N M v1 k4 s.1 s.2
def pBench_levelOf (N : Nat) (M : fm_M) (v1 : Nat) : Option Int32 :=
  fm_lp (pBench_levelOf_L4 N M v1) N (0, 0)
def pBench_isQuiet_L2b (N : Nat) (M : fm_M) (k2 : Int32 → Option Int32) (v1 : Int32) : Option Int32 :=
  if (M.1 181 10) ≤ v1 then some 1 else fm_ld 48 M 189 v1 (fun x15 => if x15 = 0 then k2 (v1 + 1) else some 0)
def pBench_isQuiet_L2 (N : Nat) (M : fm_M) (k2 : Int32 → Option Int32) (s : Int32) : Option Int32 := pBench_isQuiet_L2b N M k2 s
def pBench_isQuiet (N : Nat) (M : fm_M) : Option Int32 :=
  fm_lp (pBench_isQuiet_L2 N M) N 0
def pBench_clips_L4b (N : Nat) (M : fm_M) (k4 : Int32 × Int32 → Option Int32) (v1 : Int32) (v2 : Int32) : Option Int32 :=
  if (M.1 181 10) ≤ v2 then some v1 else fm_ld 48 M 189 v2 (fun x17 => if (jabs x17) = (M.1 14 0) then k4 ((v1 + 1), (v2 + 1)) else k4 (v1, (v2 + 1)))
def pBench_clips_L4 (N : Nat) (M : fm_M) (k4 : Int32 × Int32 → Option Int32) (s : Int32 × Int32) : Option Int32 := pBench_clips_L4b N M k4 s.1 s.2
def pBench_clips (N : Nat) (M : fm_M) : Option Int32 :=
  fm_lp (pBench_clips_L4 N M) N (0, 0)
def pCompass_addToTotals_L2b (N : Nat) (v1 : Int32) (k2 : Int32 × fm_M → Option fm_M) (v2 : Int32) (M : fm_M) : Option fm_M :=
  if 17 ≤ v2 then some M else fm_ld 17 M 219 v2 (fun x14 => fm_ix 17 (fun j => 202 + j) v2 (fun q20 => fm_ld 48 M q20 v1 (fun x22 => fm_st 17 M 219 v2 (x14 + x22) (fun M24 => k2 ((v2 + 1), M24)))))
def pCompass_addToTotals_L2 (N : Nat) (v1 : Int32) (k2 : Int32 × fm_M → Option fm_M) (s : Int32 × fm_M) : Option fm_M := pCompass_addToTotals_L2b N v1 k2 s.1 s.2
def pCompass_addToTotals (N : Nat) (M : fm_M) (v1 : Int32) : Option fm_M :=
  fm_lp (pCompass_addToTotals_L2 N v1) N (0, M)
def pDice_start (M : fm_M) (v1 : Int32) : Option fm_M :=
  fm_pt M 220 0 v1 (fun M2 => some M2)
def pDice_draw (M : fm_M) (v1 : Int32) : Option (Int32 × fm_M) :=
  fm_pt M 220 0 (((M.1 220 0) * 1103515245) + 12345) (fun M12 => if 1 ≤ v1 then fm_nz v1 (some ((jrem (jushr (M12.1 220 0) 16) v1), M12)) else some (0, M12))
def pEars_listenTo (M : fm_M) (v1 : Int32) : Option fm_M :=
  fm_pt M 178 3 v1 (fun M2 => fm_pt M2 178 4 ((M2.1 178 4) + 1) (fun M12 => some M12))
def pEars_gust (M : fm_M) (v0 : Int32) (v1 : Int32) : Option Int32 :=
  some (((jrem (jrem ((((v1 + 300) * (v1 + 300)) * 7) + (((v0 + 1) * (v1 + 311)) * 13)) 1009) 17) - 8) * 8)
def pLetters_addFour_L16b (N : Nat) (v1 : Int32) (k16 : Int32 × fm_M → Option (Int32 × fm_M)) (v2 : Int32) (M : fm_M) : Option (Int32 × fm_M) :=
  if v2 < 0 then some ((M.1 173 1), M) else fm_st 80 M 174 (M.1 173 1) ((jushr v1 v2) &&& 255) (fun M35 => fm_pt M35 173 1 ((M35.1 173 1) + 1) (fun M43 => k16 ((v2 + (-8)), M43)))
def pLetters_addFour_L16 (N : Nat) (v1 : Int32) (k16 : Int32 × fm_M → Option (Int32 × fm_M)) (s : Int32 × fm_M) : Option (Int32 × fm_M) := pLetters_addFour_L16b N v1 k16 s.1 s.2
def pLetters_addFour (N : Nat) (M : fm_M) (v1 : Int32) : Option (Int32 × fm_M) :=
  if ((M.1 173 1) + 4) ≤ 80 then fm_lp (pLetters_addFour_L16 N v1) N (24, M) else some ((-1), M)
def pLetters_cutTo (M : fm_M) (v1 : Int32) : Option (Int32 × fm_M) :=
  if v1 < 0 then some (0, M) else if v1 ≤ (M.1 173 1) then fm_pt M 173 1 v1 (fun M16 => some (1, M16)) else some (0, M)
def pLetters_at (M : fm_M) (v1 : Int32) : Option Int32 :=
  if v1 < 0 then some (-1) else if (M.1 173 1) ≤ v1 then some (-1) else fm_ld 80 M 174 v1 (fun x17 => some x17)
def pLetters_isPlusOrMinus (M : fm_M) (v1 : Int32) : Option Int32 :=
  (pLetters_at M v1).bind (fun x2 => if x2 = 43 then some 1 else (pLetters_at M v1).bind (fun x12 => if x12 = 45 then some 1 else some 0))
def pPast_dropOldest_L9b (N : Nat) (v1 : Nat) (k9 : Int32 × fm_M → Option fm_M) (v2 : Int32) (M : fm_M) : Option fm_M :=
  if 8 ≤ v2 then fm_rq (fm_sc v1) (fm_sp 8 M (8 - 1) v1 (fun M50 => fm_pt M50 59 1 ((M50.1 59 1) - 1) (fun M58 => some M58))) else fm_ix 8 M.2.2 v2 (fun q30 => fm_rq (fm_sc q30) (fm_sp 8 M (v2 - 1) q30 (fun M31 => k9 ((v2 + 1), M31))))
def pPast_dropOldest_L9 (N : Nat) (v1 : Nat) (k9 : Int32 × fm_M → Option fm_M) (s : Int32 × fm_M) : Option fm_M := pPast_dropOldest_L9b N v1 k9 s.1 s.2
def pPast_dropOldest (N : Nat) (M : fm_M) : Option fm_M :=
  fm_lp (pPast_dropOldest_L9 N (M.2.2 0)) N (1, M)
def pPast_forget (M : fm_M) : Option fm_M :=
  fm_pt M 59 1 0 (fun M2 => some M2)
def pReader_shapeOf (M : fm_M) (v0 : Int32) : Option Nat :=
  if v0 = 97 then some 3 else if v0 = 98 then some 1 else if v0 = 99 then some 0 else if v0 = 100 then some 2 else if v0 = 103 then some 0 else if v0 = 111 then some 2 else if v0 = 115 then some 2 else if v0 = 119 then some 2 else some 4
def pScene_copyFrom_L54b (N : Nat) (v0 : Nat) (v1 : Nat) (k54 : Int32 × fm_M → Option fm_M) (v2 : Int32) (M : fm_M) : Option fm_M :=
  if 4 ≤ v2 then fm_cp M (v1 + 13) (v0 + 13) 3 (fun M99 => some M99) else fm_ix 4 (fun j => v1 + 9 + j) v2 (fun q64 => fm_ix 4 (fun j => v0 + 9 + j) v2 (fun q71 => fm_cp M q64 q71 15 (fun M75 => k54 ((v2 + 1), M75))))
def pScene_copyFrom_L54 (N : Nat) (v0 : Nat) (v1 : Nat) (k54 : Int32 × fm_M → Option fm_M) (s : Int32 × fm_M) : Option fm_M := pScene_copyFrom_L54b N v0 v1 k54 s.1 s.2
def pScene_copyFrom_L18b (N : Nat) (v0 : Nat) (v1 : Nat) (k18 : Int32 × fm_M → Option fm_M) (v2 : Int32) (M : fm_M) : Option fm_M :=
  if 6 ≤ v2 then fm_lp (pScene_copyFrom_L54 N v0 v1) N (0, M) else fm_ix 6 (fun j => v1 + 2 + j) v2 (fun q32 => fm_ix 6 (fun j => v0 + 2 + j) v2 (fun q39 => fm_cp M q32 q39 6 (fun M43 => k18 ((v2 + 1), M43))))
def pScene_copyFrom_L18 (N : Nat) (v0 : Nat) (v1 : Nat) (k18 : Int32 × fm_M → Option fm_M) (s : Int32 × fm_M) : Option fm_M := pScene_copyFrom_L18b N v0 v1 k18 s.1 s.2
def pScene_copyFrom (N : Nat) (M : fm_M) (v0 : Nat) (v1 : Nat) : Option fm_M :=
  fm_rq (fm_sc v0) (fm_rq (fm_sc v1) (fm_pt M v0 0 (M.1 v1 0) (fun M5 => fm_pt M5 v0 1 (M5.1 v1 1) (fun M13 => fm_lp (pScene_copyFrom_L18 N v0 v1) N (0, M13)))))
def pScene_hasMic (M : fm_M) (v1 : Int32) : Option Int32 :=
  if v1 < 0 then some 0 else if (M.1 1 0) ≤ v1 then some 0 else some 1
def pScene_hasSource (M : fm_M) (v1 : Int32) : Option Int32 :=
  if v1 < 0 then some 0 else if (M.1 1 1) ≤ v1 then some 0 else some 1
def pScene_begin (M : fm_M) : Option Int32 :=
  some (M.1 14 1)
def pScene_length (M : fm_M) : Option Int32 :=
  some (M.1 14 2)
def pScene_isLive (M : fm_M) (v1 : Int32) : Option Int32 :=
  (pScene_hasMic M v1).bind (fun x2 => if x2 = 0 then some 0 else fm_ld 6 M 8 v1 (fun x15 => if x15 = 0 then some 1 else some 0))
def pScene_liveSet_L4b (N : Nat) (M : fm_M) (k4 : Int32 × Int32 → Option Int32) (v1 : Int32) (v2 : Int32) : Option Int32 :=
  if (M.1 1 0) ≤ v2 then some v1 else (pScene_isLive M v2).bind (fun x15 => if x15 = 0 then k4 ((v1 ||| 0), (v2 + 1)) else k4 ((v1 ||| (jshl 1 v2)), (v2 + 1)))
def pScene_liveSet_L4 (N : Nat) (M : fm_M) (k4 : Int32 × Int32 → Option Int32) (s : Int32 × Int32) : Option Int32 := pScene_liveSet_L4b N M k4 s.1 s.2
def pScene_liveSet (N : Nat) (M : fm_M) : Option Int32 :=
  fm_lp (pScene_liveSet_L4 N M) N (0, 0)
def pScene_sourcesFrom_L4b (N : Nat) (M : fm_M) (v1 : Int32) (k4 : Int32 × Int32 → Option Int32) (v2 : Int32) (v3 : Int32) : Option Int32 :=
  if (M.1 1 1) ≤ v3 then some v2 else fm_ix 4 (fun j => 10 + j) v3 (fun q18 => if (M.1 q18 0) = v1 then k4 ((v2 ||| (jshl 1 v3)), (v3 + 1)) else k4 ((v2 ||| 0), (v3 + 1)))
def pScene_sourcesFrom_L4 (N : Nat) (M : fm_M) (v1 : Int32) (k4 : Int32 × Int32 → Option Int32) (s : Int32 × Int32) : Option Int32 := pScene_sourcesFrom_L4b N M v1 k4 s.1 s.2
def pScene_sourcesFrom (N : Nat) (M : fm_M) (v1 : Int32) : Option Int32 :=
  fm_lp (pScene_sourcesFrom_L4 N M v1) N (0, 0)
def pScene_addMic_L13b (N : Nat) (v1 : Int32) (k13 : Int32 × fm_M → Option (Int32 × fm_M)) (v2 : Int32) (M : fm_M) : Option (Int32 × fm_M) :=
  if 5 < v2 then fm_st 6 M 3 (M.1 1 0) v1 (fun M51 => fm_pt M51 1 0 ((M51.1 1 0) + 1) (fun M59 => some (1, M59))) else fm_ix 6 (fun j => 3 + j) v2 (fun q23 => fm_ix 6 (fun j => ([0, 100, 0, 100, 0, 0] : List Int32).getD j 0) v2 (fun x32 => fm_st 6 M q23 (M.1 1 0) x32 (fun M33 => k13 ((v2 + 1), M33))))
def pScene_addMic_L13 (N : Nat) (v1 : Int32) (k13 : Int32 × fm_M → Option (Int32 × fm_M)) (s : Int32 × fm_M) : Option (Int32 × fm_M) := pScene_addMic_L13b N v1 k13 s.1 s.2
def pScene_addMic (N : Nat) (M : fm_M) (v1 : Int32) : Option (Int32 × fm_M) :=
  if (M.1 1 0) < 6 then fm_lp (pScene_addMic_L13 N v1) N (1, M) else some (0, M)
def pScene_drop_L12b (N : Nat) (k12 : Int32 × fm_M → Option (Int32 × fm_M)) (v2 : Int32) (M : fm_M) : Option (Int32 × fm_M) :=
  if (M.1 1 1) ≤ (v2 + 1) then fm_pt M 1 1 ((M.1 1 1) - 1) (fun M56 => some ((M56.1 1 1), M56)) else fm_ix 4 (fun j => 10 + j) (v2 + 1) (fun q29 => fm_ix 4 (fun j => 10 + j) v2 (fun q36 => fm_cp M q29 q36 15 (fun M40 => k12 ((v2 + 1), M40))))
def pScene_drop_L12 (N : Nat) (k12 : Int32 × fm_M → Option (Int32 × fm_M)) (s : Int32 × fm_M) : Option (Int32 × fm_M) := pScene_drop_L12b N k12 s.1 s.2
def pScene_drop (N : Nat) (M : fm_M) (v1 : Int32) : Option (Int32 × fm_M) :=
  (pScene_hasSource M v1).bind (fun x2 => if x2 = 0 then some ((-1), M) else fm_lp (pScene_drop_L12 N) N (v1, M))
def pTold_clear (M : fm_M) : Option fm_M :=
  fm_pt M 176 1 0 (fun M2 => some M2)
def pTold_add (M : fm_M) (v1 : Int64) : Option fm_M :=
  if 17 ≤ (M.1 176 1) then some M else fm_stl 17 M 177 (M.1 176 1) v1 (fun M21 => fm_pt M21 176 1 ((M21.1 176 1) + 1) (fun M29 => some M29))
def pMicRow_sign (N : Nat) (M : fm_M) (v1 : Int32) : Option (Int32 × fm_M) :=
  (pLetters_addFour N M v1).bind (fun (x5, M5) => some (x5, M5))
def pMicRow_end (M : fm_M) (v1 : Int32) : Option (Int32 × fm_M) :=
  (pLetters_cutTo M v1).bind (fun (x5, M5) => fm_bo x5 (some (x5, M5)))
def pMicRow_narrowed (M : fm_M) (v0 : Int32) (v1 : Int32) : Option Int32 :=
  if v0 = 0 then some v1.toInt8.toInt32 else if v0 = 1 then some v1.toInt16.toInt32 else some v1
def pMicRow_demand (M : fm_M) (v0 : Int32) : Option Unit :=
  if v0 = 0 then none else some ()
def pMicRow_areTwoMics (M : fm_M) (v1 : Int32) (v2 : Int32) : Option Int32 :=
  (pScene_hasMic M v1).bind (fun x5 => if x5 = 0 then some 0 else (pScene_hasMic M v2).bind (fun x16 => if x16 = 0 then some 0 else if v1 = v2 then some 0 else some 1))
def pMicRow_count (N : Nat) (M : fm_M) (v1 : Int32) : Option Int32 :=
  if v1 = 0 then some (M.1 1 0) else if v1 = 1 then some (M.1 1 1) else if v1 = 2 then (pScene_liveSet N M).bind (fun x72 => some x72) else if v1 = 3 then some (M.1 14 0) else if v1 = 4 then (pScene_begin M).bind (fun x90 => some x90) else if v1 = 5 then (pScene_length M).bind (fun x98 => some x98) else if v1 = 6 then some (M.1 59 1) else if v1 = 7 then some (M.1 176 1) else if v1 = 8 then some (M.1 173 1) else some (-1)
def pMicRow_row_J20 (M : fm_M) (v1 : Int32) (s0 : Int32) : Option Int64 :=
  (pMicRow_demand M s0).bind (fun x20 => fm_ldl 17 M 177 v1 (fun x31 => some x31))
def pMicRow_row_J19 (M : fm_M) (v1 : Int32) : Option Int64 :=
  pMicRow_row_J20 M v1 0
def pMicRow_row (M : fm_M) (v1 : Int32) : Option Int64 :=
  if v1 < 0 then pMicRow_row_J19 M v1 else if (M.1 176 1) ≤ v1 then pMicRow_row_J19 M v1 else pMicRow_row_J20 M v1 1
def pMicRow_within (M : fm_M) (v0 : Int32) (v1 : Int32) (v2 : Int32) : Option Int32 :=
  if v0 < v1 then some 0 else if v2 < v0 then some 0 else some 1
def pMicRow_clamp (M : fm_M) (v0 : Int32) (v1 : Int32) (v2 : Int32) : Option Int32 :=
  some (jmax v1 (jmin v2 v0))
def pMicRow_isDirection (M : fm_M) (v0 : Int32) : Option Int32 :=
  (pMicRow_within M v0 (-8) 8).bind (fun x5 => fm_bo x5 (some x5))
def pMicRow_pairsOf (M : fm_M) (v0 : Int32) : Option Int32 :=
  some ((v0 * (v0 - 1)) / 2)
def pMicRow_bySize (M : fm_M) (v0 : Int32) : Option Int32 :=
  if (jrem v0 2) = 1 then some ((v0 + 1) / 2) else some (-(v0 / 2))
def pModel_thrown (M : fm_M) : Option Int32 :=
  some (M.1 0 5)
def pModel_in (M : fm_M) (v0 : Int32) (v1 : Int32) (v2 : Int32) : Option Int32 :=
  if v0 < v1 then some 0 else if v2 < v0 then some 0 else some 1
def pModel_lost (M : fm_M) : Option (Int32 × fm_M) :=
  fm_pt M 0 5 1 (fun M2 => some (0, M2))
def pModel_tell (M : fm_M) (v1 : Int64) : Option fm_M :=
  fm_stl 32 M 3 (M.1 0 4) v1 (fun M9 => fm_pt M9 0 4 ((M9.1 0 4) + 1) (fun M17 => some M17))
def pModel_isMic (M : fm_M) (v1 : Int32) : Option Int32 :=
  (pModel_in M v1 0 ((M.1 1 0) - 1)).bind (fun x10 => fm_bo x10 (some x10))
def pModel_isSide (M : fm_M) (v0 : Int32) : Option Int32 :=
  (pModel_in M v0 (-8) 8).bind (fun x5 => fm_bo x5 (some x5))
def pModel_of (M : fm_M) (v1 : Int32) (v2 : Int32) : Option Int32 :=
  fm_ld 101 M 1 ((1 + (6 * v1)) + v2) (fun x12 => some x12)
def pModel_ofSource (M : fm_M) (v1 : Int32) (v2 : Int32) : Option Int32 :=
  fm_ld 101 M 1 ((41 + (15 * v1)) + v2) (fun x13 => some x13)
def pModel_sign_L20b (N : Nat) (v1 : Int32) (k20 : Int32 × fm_M → Option (Int32 × fm_M)) (v2 : Int32) (M : fm_M) : Option (Int32 × fm_M) :=
  if v2 < 0 then some ((M.1 0 2), M) else fm_pt M 0 2 ((M.1 0 2) + 1) (fun M36 => fm_st 80 M36 2 (M.1 0 2) (vp_nar .byte ((jshr v1 (8 * v2)).toInt8.toInt32)) (fun M46 => k20 ((v2 + (-1)), M46)))
def pModel_sign_L20 (N : Nat) (v1 : Int32) (k20 : Int32 × fm_M → Option (Int32 × fm_M)) (s : Int32 × fm_M) : Option (Int32 × fm_M) := pModel_sign_L20b N v1 k20 s.1 s.2
def pModel_sign (N : Nat) (M : fm_M) (v1 : Int32) : Option (Int32 × fm_M) :=
  fm_pt M 0 5 0 (fun M2 => if ((M2.1 0 2) + 4) ≤ 80 then fm_lp (pModel_sign_L20 N v1) N (3, M2) else some ((-1), M2))
def pModel_end (M : fm_M) (v1 : Int32) : Option (Int32 × fm_M) :=
  fm_pt M 0 5 0 (fun M2 => (pModel_in M2 v1 0 (M2.1 0 2)).bind (fun x11 => if x11 = 0 then some (0, M2) else fm_pt M2 0 2 v1 (fun M21 => some (1, M21))))
def pModel_begin (M : fm_M) : Option fm_M :=
  fm_pt M 0 6 (M.1 0 2) (fun M5 => fm_pt M5 0 7 0 (fun M10 => fm_pt M10 0 8 (-1) (fun M15 => fm_pt M15 0 2 0 (fun M20 => some M20))))
def pModel_here (M : fm_M) : Option Int32 :=
  if (M.1 0 6) ≤ (M.1 0 7) then some (-1) else fm_ld 80 M 2 (M.1 0 7) (fun x19 => some (x19 &&& 255))
def pModel_fine (M : fm_M) : Option Int32 :=
  if (M.1 0 8) = (-1) then some 1 else some 0
def pModel_fault (M : fm_M) (v1 : Int32) : Option fm_M :=
  (pModel_fine M).bind (fun x1 => if x1 = 0 then some M else fm_pt M 0 8 v1 (fun M9 => some M9))
def pModel_oneOf (M : fm_M) (v1 : Int32) (v2 : Int32) : Option (Int32 × fm_M) :=
  (pModel_fine M).bind (fun x1 => if x1 = 0 then some (0, M) else (pModel_here M).bind (fun x10 => (pModel_in M x10 v1 ((v1 + v2) - 1)).bind (fun x19 => if x19 = 0 then (pModel_fault M (M.1 0 7)).bind (fun M30 => some (0, M30)) else fm_pt M 0 7 ((M.1 0 7) + 1) (fun M42 => fm_ld 80 M42 2 ((M42.1 0 7) - 1) (fun x55 => some ((x55 - v1), M42))))))
def pModel_digits_L4b (N : Nat) (v1 : Int32) (k4 : Int32 × Int32 × fm_M → Option (Int32 × fm_M)) (v2 : Int32) (v3 : Int32) (M : fm_M) : Option (Int32 × fm_M) :=
  if v1 ≤ v3 then some (v2, M) else (pModel_oneOf M 48 10).bind (fun (x18, M18) => k4 (((10 * v2) + x18), (v3 + 1), M18))
def pModel_digits_L4 (N : Nat) (v1 : Int32) (k4 : Int32 × Int32 × fm_M → Option (Int32 × fm_M)) (s : Int32 × Int32 × fm_M) : Option (Int32 × fm_M) := pModel_digits_L4b N v1 k4 s.1 s.2.1 s.2.2
def pModel_digits (N : Nat) (M : fm_M) (v1 : Int32) : Option (Int32 × fm_M) :=
  fm_lp (pModel_digits_L4 N v1) N (0, 0, M)
def pModel_passes (M : fm_M) (v1 : Int32) : Option (Int32 × fm_M) :=
  (pModel_fine M).bind (fun x1 => if x1 = 0 then some (0, M) else (pModel_here M).bind (fun x8 => if x8 = v1 then fm_pt M 0 7 ((M.1 0 7) + 1) (fun M24 => some (1, M24)) else some (0, M)))
def pModel_wasRight_J19 (M : fm_M) : Option (Int32 × fm_M) :=
  (pModel_fine M).bind (fun x20 => fm_bo x20 (some (x20, M)))
def pModel_wasRight (M : fm_M) : Option (Int32 × fm_M) :=
  if (M.1 0 6) ≤ (M.1 0 7) then pModel_wasRight_J19 M else (pModel_fault M (M.1 0 7)).bind (fun M16 => pModel_wasRight_J19 M16)
def pModel_sheet_J123 (N : Nat) (M : fm_M) (v1 : Int32) (v2 : Int32) (v4 : Int32) (v6 : Int32) (v7 : Int32) (v9 : Int32) (k46 : Int32 × Int32 × Int32 × fm_M → Option (Int32 × fm_M)) (s0 : Int32) (s1 : Int32) : Option (Int32 × fm_M) :=
  fm_st 101 M 1 ((1 + (6 * v7)) + 1) v9 (fun M141 => k46 ((s0 + s1), (v6 + v4), (v7 + 1), M141))
def pModel_sheet_J86 (N : Nat) (M : fm_M) (v1 : Int32) (v2 : Int32) (v4 : Int32) (v5 : Int32) (v6 : Int32) (v7 : Int32) (k46 : Int32 × Int32 × Int32 × fm_M → Option (Int32 × fm_M)) (s0 : Int32) : Option (Int32 × fm_M) :=
  (pModel_of M v7 1).bind (fun x110 => if x110 = (jmax 1 (jmin 400 s0)) then pModel_sheet_J123 N M v1 v2 v4 v6 v7 (jmax 1 (jmin 400 s0)) k46 v5 0 else pModel_sheet_J123 N M v1 v2 v4 v6 v7 (jmax 1 (jmin 400 s0)) k46 v5 1)
def pModel_sheet_L46b (N : Nat) (v1 : Int32) (v2 : Int32) (v4 : Int32) (k46 : Int32 × Int32 × Int32 × fm_M → Option (Int32 × fm_M)) (v5 : Int32) (v6 : Int32) (v7 : Int32) (M : fm_M) : Option (Int32 × fm_M) :=
  if v2 ≤ v7 then some (v5, M) else if (M.1 1 0) ≤ v7 then some (v5, M) else if v1 = 0 then pModel_sheet_J86 N M v1 v2 v4 v5 v6 v7 k46 v6.toInt8.toInt32 else if v1 = 1 then pModel_sheet_J86 N M v1 v2 v4 v5 v6 v7 k46 v6.toInt16.toInt32 else pModel_sheet_J86 N M v1 v2 v4 v5 v6 v7 k46 v6
def pModel_sheet_L46 (N : Nat) (v1 : Int32) (v2 : Int32) (v4 : Int32) (k46 : Int32 × Int32 × Int32 × fm_M → Option (Int32 × fm_M)) (s : Int32 × Int32 × Int32 × fm_M) : Option (Int32 × fm_M) := pModel_sheet_L46b N v1 v2 v4 k46 s.1 s.2.1 s.2.2.1 s.2.2.2
def pModel_sheet (N : Nat) (M : fm_M) (v1 : Int32) (v2 : Int32) (v3 : Int32) (v4 : Int32) : Option (Int32 × fm_M) :=
  fm_pt M 0 5 0 (fun M2 => (pModel_in M2 v1 0 3).bind (fun x8 => if x8 = 0 then some ((-1), M2) else if v2 ≤ 6 then if v1 = 3 then some ((-3), M2) else if 0 ≤ v2 then fm_lp (pModel_sheet_L46 N v1 v2 v4) N (0, v3, 0, M2) else some ((-2), M2) else some ((-1), M2)))
def pModel_mic_J31 (M : fm_M) : Option (Int32 × fm_M) :=
  (pModel_lost M).bind (fun (x32, M32) => some (x32, M32))
def pModel_mic (M : fm_M) (v1 : Int32) (v2 : Int32) : Option (Int32 × fm_M) :=
  fm_pt M 0 5 0 (fun M2 => (pModel_isMic M2 v1).bind (fun x7 => if x7 = 0 then pModel_mic_J31 M2 else (pModel_in M2 v2 0 5).bind (fun x16 => if x16 = 0 then pModel_mic_J31 M2 else (pModel_of M2 v1 v2).bind (fun x25 => some (x25, M2)))))
def pModel_source (M : fm_M) (v1 : Int32) (v2 : Int32) : Option (Int32 × fm_M) :=
  fm_pt M 0 5 0 (fun M2 => (pModel_in M2 v1 0 ((M2.1 1 40) - 1)).bind (fun x16 => if x16 = 0 then (pModel_lost M2).bind (fun (x23, M23) => some (x23, M23)) else (pModel_ofSource M2 v1 2).bind (fun x33 => (pModel_in M2 v2 0 (2 + x33)).bind (fun x37 => if x37 = 0 then (pModel_lost M2).bind (fun (x53, M53) => some (x53, M53)) else (pModel_ofSource M2 v1 v2).bind (fun x46 => some (x46, M2))))))
def pModel_modulo (M : fm_M) (v0 : Int32) (v1 : Int32) : Option Int32 :=
  fm_nz v1 (if 0 ≤ (jrem v0 v1) then some (jrem v0 v1) else some ((jrem v0 v1) + v1))
def pModel_eighths (M : fm_M) (v0 : Int32) : Option Int32 :=
  (pModel_modulo M v0 8).bind (fun x4 => some ((v0 - x4) / 8))
def pModel_heardOf (M : fm_M) (v1 : Int32) (v2 : Int32) (v3 : Int32) : Option Int32 :=
  (pModel_ofSource M v1 0).bind (fun x8 => (pModel_eighths M ((8 * v3) - (v2 * x8))).bind (fun x17 => (pModel_ofSource M v1 2).bind (fun x35 => (pModel_ofSource M v1 1).bind (fun x43 => (pModel_modulo M x17 x35).bind (fun x58 => (pModel_ofSource M v1 (3 + x58)).bind (fun x62 => (pModel_modulo M (x17 + 1) x35).bind (fun x77 => (pModel_ofSource M v1 (3 + x77)).bind (fun x81 => some (x43 * (((8 - (((8 * v3) - (v2 * x8)) - (8 * x17))) * x62) + ((((8 * v3) - (v2 * x8)) - (8 * x17)) * x81)))))))))))
def pModel_gust (M : fm_M) (v0 : Int32) (v1 : Int32) : Option Int32 :=
  some (((jrem (jrem ((((v1 + 300) * (v1 + 300)) * 7) + (((v0 + 1) * (v1 + 311)) * 13)) 1009) 17) - 8) * 8)
def pModel_sampleOf_J95 (N : Nat) (M : fm_M) (v1 : Int32) (v2 : Int32) (v4 : Int32) (k28 : Int32 × Int32 → Option Int32) (s0 : Int32) : Option Int32 :=
  (pModel_of M v1 0).bind (fun x101 => (pModel_heardOf M v4 x101 v2).bind (fun x105 => k28 ((s0 + x105), (v4 + 1))))
def pModel_sampleOf_J67 (N : Nat) (M : fm_M) (v1 : Int32) (v2 : Int32) (v4 : Int32) (k28 : Int32 × Int32 → Option Int32) (s0 : Int32) : Option Int32 :=
  if (M.1 0 12) = 300 then pModel_sampleOf_J95 N M v1 v2 v4 k28 s0 else (pModel_ofSource M v4 0).bind (fun x81 => if x81 = (M.1 0 12) then pModel_sampleOf_J95 N M v1 v2 v4 k28 s0 else k28 ((s0 + 0), (v4 + 1)))
def pModel_sampleOf_L28b (N : Nat) (M : fm_M) (v1 : Int32) (v2 : Int32) (k28 : Int32 × Int32 → Option Int32) (v3 : Int32) (v4 : Int32) : Option Int32 :=
  if (M.1 1 40) ≤ v4 then (pModel_of M v1 1).bind (fun x120 => some (jmax (-(M.1 1 37)) (jmin (M.1 1 37) ((v3 * x120) / 100)))) else if v4 = (M.1 0 11) then k28 ((v3 + 0), (v4 + 1)) else if (M.1 0 13) = (-1) then pModel_sampleOf_J67 N M v1 v2 v4 k28 v3 else if v4 = (M.1 0 13) then pModel_sampleOf_J67 N M v1 v2 v4 k28 v3 else k28 ((v3 + 0), (v4 + 1))
def pModel_sampleOf_L28 (N : Nat) (M : fm_M) (v1 : Int32) (v2 : Int32) (k28 : Int32 × Int32 → Option Int32) (s : Int32 × Int32) : Option Int32 := pModel_sampleOf_L28b N M v1 v2 k28 s.1 s.2
def pModel_sampleOf (N : Nat) (M : fm_M) (v1 : Int32) (v2 : Int32) : Option Int32 :=
  (pModel_of M v1 4).bind (fun x3 => if x3 = 1 then some 0 else (pModel_of M v1 2).bind (fun x15 => (pModel_gust M v1 v2).bind (fun x20 => fm_lp (pModel_sampleOf_L28 N M v1 v2) N ((x15 * x20), 0))))
def pModel_hear_L16b (N : Nat) (v1 : Int32) (k2 : Int32 × fm_M → Option fm_M) (k16 : Int32 × fm_M → Option fm_M) (v2 : Int32) (M : fm_M) : Option fm_M :=
  if 300 < v2 then k2 ((v1 + 1), M) else (pModel_sampleOf N M v1 v2).bind (fun x41 => fm_st 3606 M 5 (((601 * v1) + v2) + 300) x41 (fun M44 => k16 ((v2 + 1), M44)))
def pModel_hear_L16 (N : Nat) (v1 : Int32) (k2 : Int32 × fm_M → Option fm_M) (k16 : Int32 × fm_M → Option fm_M) (s : Int32 × fm_M) : Option fm_M := pModel_hear_L16b N v1 k2 k16 s.1 s.2
def pModel_hear_L2b (N : Nat) (k2 : Int32 × fm_M → Option fm_M) (v1 : Int32) (M : fm_M) : Option fm_M :=
  if (M.1 1 0) ≤ v1 then some M else fm_lp (pModel_hear_L16 N v1 k2) N ((-300), M)
def pModel_hear_L2 (N : Nat) (k2 : Int32 × fm_M → Option fm_M) (s : Int32 × fm_M) : Option fm_M := pModel_hear_L2b N k2 s.1 s.2
def pModel_hear (N : Nat) (M : fm_M) : Option fm_M :=
  fm_lp (pModel_hear_L2 N) N (0, M)
def pModel_heard (M : fm_M) (v1 : Int32) (v2 : Int32) : Option Int32 :=
  fm_ld 3606 M 5 (((601 * v1) + v2) + 300) (fun x15 => some x15)
def pModel_sample_J35 (N : Nat) (M : fm_M) : Option (Int32 × fm_M) :=
  (pModel_lost M).bind (fun (x36, M36) => some (x36, M36))
def pModel_sample (N : Nat) (M : fm_M) (v1 : Int32) (v2 : Int32) : Option (Int32 × fm_M) :=
  fm_pt M 0 5 0 (fun M2 => (pModel_isMic M2 v1).bind (fun x7 => if x7 = 0 then pModel_sample_J35 N M2 else (pModel_in M2 v2 (-300) 300).bind (fun x20 => if x20 = 0 then pModel_sample_J35 N M2 else (pModel_sampleOf N M2 v1 v2).bind (fun x29 => some (x29, M2)))))
def pModel_turnedOf_J66 (M : fm_M) (v1 : Int32) (s0 : Int32) (s1 : Int32) : Option Int32 :=
  (pModel_of M v1 3).bind (fun x77 => some ((((s0 + s1) / 8) * x77) / 100))
def pModel_turnedOf (M : fm_M) (v1 : Int32) (v2 : Int32) (v3 : Int32) : Option Int32 :=
  (pModel_of M v1 0).bind (fun x7 => (pModel_eighths M ((8 * v3) + (x7 * v2))).bind (fun x17 => (pModel_heard M v1 x17).bind (fun x41 => if (((8 * v3) + (x7 * v2)) - (8 * x17)) = 0 then pModel_turnedOf_J66 M v1 ((8 - (((8 * v3) + (x7 * v2)) - (8 * x17))) * x41) 0 else (pModel_heard M v1 (x17 + 1)).bind (fun x62 => pModel_turnedOf_J66 M v1 ((8 - (((8 * v3) + (x7 * v2)) - (8 * x17))) * x41) ((((8 * v3) + (x7 * v2)) - (8 * x17)) * x62)))))
def pModel_isNear (M : fm_M) (v0 : Int32) : Option Int32 :=
  (pModel_in M v0 (-200) 200).bind (fun x7 => fm_bo x7 (some x7))
def pModel_turned_J27 (N : Nat) (M : fm_M) : Option (Int32 × fm_M) :=
  (pModel_lost M).bind (fun (x28, M28) => some (x28, M28))
def pModel_turned (N : Nat) (M : fm_M) (v1 : Int32) (v2 : Int32) (v3 : Int32) : Option (Int32 × fm_M) :=
  fm_pt M 0 5 0 (fun M2 => (pModel_isMic M2 v1).bind (fun x7 => if x7 = 0 then pModel_turned_J27 N M2 else (pModel_isSide M2 v2).bind (fun x14 => if x14 = 0 then pModel_turned_J27 N M2 else (pModel_isNear M2 v3).bind (fun x21 => if x21 = 0 then pModel_turned_J27 N M2 else (pModel_hear N M2).bind (fun M33 => (pModel_turnedOf M33 v1 v2 v3).bind (fun x40 => some (x40, M33)))))))
def pModel_liveBits_L4b (N : Nat) (M : fm_M) (k4 : Int32 × Int32 → Option Int32) (v1 : Int32) (v2 : Int32) : Option Int32 :=
  if (M.1 1 0) ≤ v2 then some v1 else (pModel_of M v2 5).bind (fun x18 => if x18 = 0 then k4 ((v1 ||| (jshl 1 v2)), (v2 + 1)) else k4 ((v1 ||| 0), (v2 + 1)))
def pModel_liveBits_L4 (N : Nat) (M : fm_M) (k4 : Int32 × Int32 → Option Int32) (s : Int32 × Int32) : Option Int32 := pModel_liveBits_L4b N M k4 s.1 s.2
def pModel_liveBits (N : Nat) (M : fm_M) : Option Int32 :=
  fm_lp (pModel_liveBits_L4 N M) N (0, 0)
def pModel_countBits_L4b (N : Nat) (M : fm_M) (k4 : Int32 × Int32 → Option Int32) (v1 : Int32) (v2 : Int32) : Option Int32 :=
  if v2 = 0 then some v1 else k4 ((v1 + 1), (v2 &&& (v2 - 1)))
def pModel_countBits_L4 (N : Nat) (M : fm_M) (k4 : Int32 × Int32 → Option Int32) (s : Int32 × Int32) : Option Int32 := pModel_countBits_L4b N M k4 s.1 s.2
def pModel_countBits (N : Nat) (M : fm_M) (v0 : Int32) : Option Int32 :=
  fm_lp (pModel_countBits_L4 N M) N (0, v0)
def pModel_has (M : fm_M) (v0 : Int32) (v1 : Int32) : Option Int32 :=
  if ((jshr v0 v1) &&& 1) = 1 then some 1 else some 0
def pModel_beamOf_L6b (N : Nat) (M : fm_M) (v1 : Int32) (v2 : Int32) (v3 : Int32) (k6 : Int32 × Int32 → Option Int32) (v4 : Int32) (v5 : Int32) : Option Int32 :=
  if (M.1 1 0) ≤ v5 then if v1 = 0 then some 0 else (pModel_countBits N M v1).bind (fun x60 => fm_nz x60 (some (v4 / x60))) else (pModel_has M v1 v5).bind (fun x22 => if x22 = 0 then k6 ((v4 + 0), (v5 + 1)) else (pModel_turnedOf M v5 v2 v3).bind (fun x33 => k6 ((v4 + x33), (v5 + 1))))
def pModel_beamOf_L6 (N : Nat) (M : fm_M) (v1 : Int32) (v2 : Int32) (v3 : Int32) (k6 : Int32 × Int32 → Option Int32) (s : Int32 × Int32) : Option Int32 := pModel_beamOf_L6b N M v1 v2 v3 k6 s.1 s.2
def pModel_beamOf (N : Nat) (M : fm_M) (v1 : Int32) (v2 : Int32) (v3 : Int32) : Option Int32 :=
  fm_lp (pModel_beamOf_L6 N M v1 v2 v3) N (0, 0)
def pModel_liveAt_J16 (N : Nat) (M : fm_M) (v0 : Int32) (v2 : Int32) (v3 : Int32) (k4 : Int32 × Int32 → Option Int32) : Option Int32 :=
  (pModel_has M v0 v2).bind (fun x19 => if x19 = 0 then k4 ((v2 + 1), (v3 - 0)) else k4 ((v2 + 1), (v3 - 1)))
def pModel_liveAt_L4b (N : Nat) (M : fm_M) (v0 : Int32) (k4 : Int32 × Int32 → Option Int32) (v2 : Int32) (v3 : Int32) : Option Int32 :=
  (pModel_has M v0 v2).bind (fun x6 => if x6 = 0 then pModel_liveAt_J16 N M v0 v2 v3 k4 else if v3 ≤ 0 then some v2 else pModel_liveAt_J16 N M v0 v2 v3 k4)
def pModel_liveAt_L4 (N : Nat) (M : fm_M) (v0 : Int32) (k4 : Int32 × Int32 → Option Int32) (s : Int32 × Int32) : Option Int32 := pModel_liveAt_L4b N M v0 k4 s.1 s.2
def pModel_liveAt (N : Nat) (M : fm_M) (v0 : Int32) (v1 : Int32) : Option Int32 :=
  fm_lp (pModel_liveAt_L4 N M v0) N (0, v1)
def pModel_blockedOf (N : Nat) (M : fm_M) (v1 : Int32) (v2 : Int32) (v3 : Int32) (v4 : Int32) : Option Int32 :=
  (pModel_liveAt N M v1 v3).bind (fun x3 => (pModel_turnedOf M x3 v2 v4).bind (fun x9 => (pModel_liveAt N M v1 (v3 + 1)).bind (fun x17 => (pModel_turnedOf M x17 v2 v4).bind (fun x23 => some (x9 - x23)))))
def pModel_beam_J19 (N : Nat) (M : fm_M) : Option (Int32 × fm_M) :=
  (pModel_lost M).bind (fun (x20, M20) => some (x20, M20))
def pModel_beam (N : Nat) (M : fm_M) (v1 : Int32) (v2 : Int32) : Option (Int32 × fm_M) :=
  fm_pt M 0 5 0 (fun M2 => (pModel_isSide M2 v1).bind (fun x6 => if x6 = 0 then pModel_beam_J19 N M2 else (pModel_isNear M2 v2).bind (fun x13 => if x13 = 0 then pModel_beam_J19 N M2 else (pModel_hear N M2).bind (fun M25 => (pModel_liveBits N M25).bind (fun x30 => (pModel_beamOf N M25 x30 v1 v2).bind (fun x35 => some (x35, M25)))))))
def pModel_blocked_J40 (N : Nat) (M : fm_M) : Option (Int32 × fm_M) :=
  (pModel_lost M).bind (fun (x41, M41) => some (x41, M41))
def pModel_blocked (N : Nat) (M : fm_M) (v1 : Int32) (v2 : Int32) (v3 : Int32) : Option (Int32 × fm_M) :=
  fm_pt M 0 5 0 (fun M2 => (pModel_liveBits N M2).bind (fun x6 => (pModel_isSide M2 v1).bind (fun x12 => if x12 = 0 then pModel_blocked_J40 N M2 else (pModel_isNear M2 v3).bind (fun x19 => if x19 = 0 then pModel_blocked_J40 N M2 else (pModel_countBits N M2 x6).bind (fun x29 => (pModel_in M2 v2 0 (x29 - 2)).bind (fun x34 => if x34 = 0 then pModel_blocked_J40 N M2 else (pModel_hear N M2).bind (fun M46 => (pModel_blockedOf N M46 x6 v1 v2 v3).bind (fun x55 => some (x55, M46)))))))))
def pModel_layBeam_L2b (N : Nat) (v1 : Int32) (v2 : Int32) (k2 : Int32 × fm_M → Option fm_M) (v3 : Int32) (M : fm_M) : Option fm_M :=
  if (M.1 1 39) ≤ v3 then some M else (pModel_beamOf N M v1 v2 ((M.1 1 38) + v3)).bind (fun x30 => fm_st 48 M 7 v3 x30 (fun M33 => k2 ((v3 + 1), M33)))
def pModel_layBeam_L2 (N : Nat) (v1 : Int32) (v2 : Int32) (k2 : Int32 × fm_M → Option fm_M) (s : Int32 × fm_M) : Option fm_M := pModel_layBeam_L2b N v1 v2 k2 s.1 s.2
def pModel_layBeam (N : Nat) (M : fm_M) (v1 : Int32) (v2 : Int32) : Option fm_M :=
  fm_lp (pModel_layBeam_L2 N v1 v2) N (0, M)
def pModel_layClean_L17b (N : Nat) (M : fm_M) (v1 : Int32) (k2 : Int32 × fm_M → Option fm_M) (k17 : Int32 × Int32 → Option fm_M) (v2 : Int32) (v3 : Int32) : Option fm_M :=
  if (M.1 0 15) ≤ v3 then fm_ld 48 M 7 v1 (fun x62 => fm_st 48 M 9 v1 (x62 - (v2 / 16)) (fun M68 => k2 ((v1 + 1), M68))) else fm_ld 6 M 6 v3 (fun x31 => fm_ld 288 M 8 ((48 * v3) + v1) (fun x42 => k17 ((v2 + (x31 * x42)), (v3 + 1))))
def pModel_layClean_L17 (N : Nat) (M : fm_M) (v1 : Int32) (k2 : Int32 × fm_M → Option fm_M) (k17 : Int32 × Int32 → Option fm_M) (s : Int32 × Int32) : Option fm_M := pModel_layClean_L17b N M v1 k2 k17 s.1 s.2
def pModel_layClean_L2b (N : Nat) (k2 : Int32 × fm_M → Option fm_M) (v1 : Int32) (M : fm_M) : Option fm_M :=
  if (M.1 1 39) ≤ v1 then some M else fm_lp (pModel_layClean_L17 N M v1 k2) N (0, 0)
def pModel_layClean_L2 (N : Nat) (k2 : Int32 × fm_M → Option fm_M) (s : Int32 × fm_M) : Option fm_M := pModel_layClean_L2b N k2 s.1 s.2
def pModel_layClean (N : Nat) (M : fm_M) : Option fm_M :=
  fm_lp (pModel_layClean_L2 N) N (0, M)
def pModel_powerOf_L5b (N : Nat) (M : fm_M) (v1 : Nat) (k5 : Int64 × Int32 → Option Int64) (v2 : Int64) (v4 : Int32) : Option Int64 :=
  if (M.1 1 39) ≤ v4 then fm_nzl ((M.1 1 39).toInt64) (some (v2 / (M.1 1 39).toInt64)) else fm_ld (fm_n shM v1) M v1 v4 (fun x21 => fm_ld (fm_n shM v1) M v1 v4 (fun x26 => k5 ((v2 + (x21.toInt64 * x26.toInt64)), (v4 + 1))))
def pModel_powerOf_L5 (N : Nat) (M : fm_M) (v1 : Nat) (k5 : Int64 × Int32 → Option Int64) (s : Int64 × Int32) : Option Int64 := pModel_powerOf_L5b N M v1 k5 s.1 s.2
def pModel_powerOf (N : Nat) (M : fm_M) (v1 : Nat) : Option Int64 :=
  fm_lp (pModel_powerOf_L5 N M v1) N (0, 0)
def pModel_levelOf_L4b (N : Nat) (M : fm_M) (v1 : Nat) (k4 : Int32 × Int32 → Option Int32) (v2 : Int32) (v3 : Int32) : Option Int32 :=
  if (M.1 1 39) ≤ v3 then fm_nz (M.1 1 39) (some (v2 / (M.1 1 39))) else fm_ld (fm_n shM v1) M v1 v3 (fun x18 => k4 ((v2 + (jabs x18)), (v3 + 1)))
def pModel_levelOf_L4 (N : Nat) (M : fm_M) (v1 : Nat) (k4 : Int32 × Int32 → Option Int32) (s : Int32 × Int32) : Option Int32 := pModel_levelOf_L4b N M v1 k4 s.1 s.2
def pModel_levelOf (N : Nat) (M : fm_M) (v1 : Nat) : Option Int32 :=
  fm_lp (pModel_levelOf_L4 N M v1) N (0, 0)
def pModel_turn (M : fm_M) (v0 : Int32) : Option Int32 :=
  if (jrem v0 2) = 1 then some ((v0 + 1) / 2) else some ((-v0) / 2)
def pModel_learn_J57 (N : Nat) (M : fm_M) (v1 : Int32) (v5 : Int32) (v6 : Int64) (k9 : Int32 × Int64 × Int32 × fm_M → Option fm_M) : Option fm_M :=
  fm_ld 6 M 6 v1 (fun x65 => k9 (x65, v6, (v5 + 1), M))
def pModel_learn_L9b (N : Nat) (v1 : Int32) (k9 : Int32 × Int64 × Int32 × fm_M → Option fm_M) (v2 : Int32) (v3 : Int64) (v5 : Int32) (M : fm_M) : Option fm_M :=
  if 32 < v5 then fm_st 6 M 6 v1 v2 (fun M79 => some M79) else (pModel_turn M v5).bind (fun x23 => fm_st 6 M 6 v1 x23 (fun M26 => (pModel_layClean N M26).bind (fun M28 => (pModel_powerOf N M28 9).bind (fun x36 => if (lg_cmp v3 0) < 0 then pModel_learn_J57 N M28 v1 v5 x36 k9 else if (lg_cmp x36 v3) < 0 then pModel_learn_J57 N M28 v1 v5 x36 k9 else k9 (v2, v3, (v5 + 1), M28)))))
def pModel_learn_L9 (N : Nat) (v1 : Int32) (k9 : Int32 × Int64 × Int32 × fm_M → Option fm_M) (s : Int32 × Int64 × Int32 × fm_M) : Option fm_M := pModel_learn_L9b N v1 k9 s.1 s.2.1 s.2.2.1 s.2.2.2
def pModel_learn (N : Nat) (M : fm_M) (v1 : Int32) : Option fm_M :=
  fm_lp (pModel_learn_L9 N v1) N (0, (-1), 0, M)
def pModel_layWeights_L103b (N : Nat) (v3 : Int32) (k95 : Int32 × fm_M → Option fm_M) (k103 : Int32 × fm_M → Option fm_M) (v4 : Int32) (M : fm_M) : Option fm_M :=
  if (M.1 0 15) ≤ v4 then k95 ((v3 + 1), M) else (pModel_learn N M v4).bind (fun M115 => k103 ((v4 + 1), M115))
def pModel_layWeights_L103 (N : Nat) (v3 : Int32) (k95 : Int32 × fm_M → Option fm_M) (k103 : Int32 × fm_M → Option fm_M) (s : Int32 × fm_M) : Option fm_M := pModel_layWeights_L103b N v3 k95 k103 s.1 s.2
def pModel_layWeights_L95b (N : Nat) (k95 : Int32 × fm_M → Option fm_M) (v3 : Int32) (M : fm_M) : Option fm_M :=
  if 3 ≤ v3 then (pModel_layClean N M).bind (fun M131 => some M131) else fm_lp (pModel_layWeights_L103 N v3 k95) N (0, M)
def pModel_layWeights_L95 (N : Nat) (k95 : Int32 × fm_M → Option fm_M) (s : Int32 × fm_M) : Option fm_M := pModel_layWeights_L95b N k95 s.1 s.2
def pModel_layWeights_L40b (N : Nat) (v1 : Int32) (v2 : Int32) (v3 : Int32) (k22 : Int32 × fm_M → Option fm_M) (k40 : Int32 × fm_M → Option fm_M) (v4 : Int32) (M : fm_M) : Option fm_M :=
  if (M.1 1 39) ≤ v4 then k22 ((v3 + 1), M) else (pModel_blockedOf N M v1 v2 v3 ((M.1 1 38) + v4)).bind (fun x77 => fm_st 288 M 8 ((48 * v3) + v4) x77 (fun M80 => k40 ((v4 + 1), M80)))
def pModel_layWeights_L40 (N : Nat) (v1 : Int32) (v2 : Int32) (v3 : Int32) (k22 : Int32 × fm_M → Option fm_M) (k40 : Int32 × fm_M → Option fm_M) (s : Int32 × fm_M) : Option fm_M := pModel_layWeights_L40b N v1 v2 v3 k22 k40 s.1 s.2
def pModel_layWeights_L22b (N : Nat) (v1 : Int32) (v2 : Int32) (k22 : Int32 × fm_M → Option fm_M) (v3 : Int32) (M : fm_M) : Option fm_M :=
  if (M.1 0 15) ≤ v3 then fm_lp (pModel_layWeights_L95 N) N (0, M) else fm_st 6 M 6 v3 0 (fun M36 => fm_lp (pModel_layWeights_L40 N v1 v2 v3 k22) N (0, M36))
def pModel_layWeights_L22 (N : Nat) (v1 : Int32) (v2 : Int32) (k22 : Int32 × fm_M → Option fm_M) (s : Int32 × fm_M) : Option fm_M := pModel_layWeights_L22b N v1 v2 k22 s.1 s.2
def pModel_layWeights (N : Nat) (M : fm_M) (v1 : Int32) (v2 : Int32) : Option fm_M :=
  (pModel_layBeam N M v1 v2).bind (fun M3 => (pModel_countBits N M3 v1).bind (fun x9 => fm_pt M3 0 15 (jmax 0 (x9 - 1)) (fun M17 => fm_lp (pModel_layWeights_L22 N v1 v2) N (0, M17))))
def pModel_clean_J19 (N : Nat) (M : fm_M) : Option (Int32 × fm_M) :=
  (pModel_lost M).bind (fun (x20, M20) => some (x20, M20))
def pModel_clean_L45b (N : Nat) (M : fm_M) (v1 : Int32) (v2 : Int32) (v3 : Int32) (k45 : Int32 × Int32 → Option (Int32 × fm_M)) (v4 : Int32) (v5 : Int32) : Option (Int32 × fm_M) :=
  if (M.1 0 15) ≤ v5 then (pModel_beamOf N M v3 v1 v2).bind (fun x86 => some ((x86 - (v4 / 16)), M)) else fm_ld 6 M 6 v5 (fun x62 => (pModel_blockedOf N M v3 v1 v5 v2).bind (fun x69 => k45 ((v4 + (x62 * x69)), (v5 + 1))))
def pModel_clean_L45 (N : Nat) (M : fm_M) (v1 : Int32) (v2 : Int32) (v3 : Int32) (k45 : Int32 × Int32 → Option (Int32 × fm_M)) (s : Int32 × Int32) : Option (Int32 × fm_M) := pModel_clean_L45b N M v1 v2 v3 k45 s.1 s.2
def pModel_clean (N : Nat) (M : fm_M) (v1 : Int32) (v2 : Int32) : Option (Int32 × fm_M) :=
  fm_pt M 0 5 0 (fun M2 => (pModel_isSide M2 v1).bind (fun x6 => if x6 = 0 then pModel_clean_J19 N M2 else (pModel_isNear M2 v2).bind (fun x13 => if x13 = 0 then pModel_clean_J19 N M2 else (pModel_hear N M2).bind (fun M25 => (pModel_liveBits N M25).bind (fun x29 => (pModel_layWeights N M25 x29 v1).bind (fun M36 => fm_lp (pModel_clean_L45 N M36 v1 v2 x29) N (0, 0)))))))
def pModel_layMic_L2b (N : Nat) (v1 : Int32) (k2 : Int32 × fm_M → Option fm_M) (v2 : Int32) (M : fm_M) : Option fm_M :=
  if (M.1 1 39) ≤ v2 then some M else (pModel_heard M v1 ((M.1 1 38) + v2)).bind (fun x29 => fm_st 48 M 10 v2 x29 (fun M32 => k2 ((v2 + 1), M32)))
def pModel_layMic_L2 (N : Nat) (v1 : Int32) (k2 : Int32 × fm_M → Option fm_M) (s : Int32 × fm_M) : Option fm_M := pModel_layMic_L2b N v1 k2 s.1 s.2
def pModel_layMic (N : Nat) (M : fm_M) (v1 : Int32) : Option fm_M :=
  fm_lp (pModel_layMic_L2 N v1) N (0, M)
def pModel_level_L39b (N : Nat) (M : fm_M) (k39 : Int32 × Int32 × Int32 → Option (Int32 × fm_M)) (v2 : Int32) (v3 : Int32) (v4 : Int32) : Option (Int32 × fm_M) :=
  if v4 < 0 then fm_pt M 0 4 0 (fun M83 => (pModel_powerOf N M83 10).bind (fun x92 => (pModel_tell M83 x92).bind (fun M95 => (pModel_tell M95 v2.toInt64).bind (fun M101 => (pModel_tell M101 (((M101.1 1 38) + v3).toInt64)).bind (fun M115 => (pModel_levelOf N M115 10).bind (fun x123 => some (x123, M115))))))) else fm_ld 48 M 10 v4 (fun x50 => if v2 ≤ (jabs x50) then fm_ld 48 M 10 v4 (fun x67 => k39 ((jabs x67), v4, (v4 + (-1)))) else k39 (v2, v3, (v4 + (-1))))
def pModel_level_L39 (N : Nat) (M : fm_M) (k39 : Int32 × Int32 × Int32 → Option (Int32 × fm_M)) (s : Int32 × Int32 × Int32) : Option (Int32 × fm_M) := pModel_level_L39b N M k39 s.1 s.2.1 s.2.2
def pModel_level (N : Nat) (M : fm_M) (v1 : Int32) : Option (Int32 × fm_M) :=
  fm_pt M 0 5 0 (fun M2 => (pModel_isMic M2 v1).bind (fun x7 => if x7 = 0 then some ((-1), M2) else (pModel_hear N M2).bind (fun M16 => (pModel_layMic N M16 v1).bind (fun M21 => fm_lp (pModel_level_L39 N M21) N (0, 0, ((M21.1 1 39) - 1))))))
def pModel_beams (N : Nat) (M : fm_M) (v1 : Int32) : Option (Int32 × fm_M) :=
  fm_pt M 0 5 0 (fun M2 => (pModel_isSide M2 v1).bind (fun x6 => if x6 = 0 then some ((-1), M2) else (pModel_hear N M2).bind (fun M15 => (pModel_liveBits N M15).bind (fun x20 => (pModel_layWeights N M15 x20 v1).bind (fun M24 => fm_pt M24 0 4 0 (fun M29 => (pModel_powerOf N M29 7).bind (fun x38 => (pModel_tell M29 x38).bind (fun M41 => (pModel_levelOf N M41 9).bind (fun x50 => (pModel_tell M41 x50.toInt64).bind (fun M54 => (pModel_powerOf N M54 9).bind (fun x63 => (pModel_tell M54 x63).bind (fun M66 => (pModel_levelOf N M66 7).bind (fun x74 => some (x74, M66))))))))))))))
def pModel_weights_L34b (N : Nat) (k34 : Int32 × fm_M → Option (Int32 × fm_M)) (v2 : Int32) (M : fm_M) : Option (Int32 × fm_M) :=
  if (M.1 0 15) ≤ v2 then some ((M.1 0 15), M) else fm_ld 6 M 6 v2 (fun x48 => (pModel_tell M x48.toInt64).bind (fun M50 => k34 ((v2 + 1), M50)))
def pModel_weights_L34 (N : Nat) (k34 : Int32 × fm_M → Option (Int32 × fm_M)) (s : Int32 × fm_M) : Option (Int32 × fm_M) := pModel_weights_L34b N k34 s.1 s.2
def pModel_weights (N : Nat) (M : fm_M) (v1 : Int32) : Option (Int32 × fm_M) :=
  fm_pt M 0 5 0 (fun M2 => (pModel_isSide M2 v1).bind (fun x6 => if x6 = 0 then some ((-1), M2) else (pModel_hear N M2).bind (fun M15 => (pModel_liveBits N M15).bind (fun x20 => (pModel_layWeights N M15 x20 v1).bind (fun M24 => fm_pt M24 0 4 0 (fun M29 => fm_lp (pModel_weights_L34 N) N (0, M29)))))))
def pModel_beamPower (N : Nat) (M : fm_M) (v1 : Int32) (v2 : Int32) : Option (Int64 × fm_M) :=
  (pModel_layBeam N M v1 v2).bind (fun M3 => (pModel_powerOf N M3 7).bind (fun x11 => some (x11, M3)))
def pModel_cleanPower (N : Nat) (M : fm_M) (v1 : Int32) (v2 : Int32) : Option (Int64 × fm_M) :=
  (pModel_layWeights N M v1 v2).bind (fun M3 => (pModel_powerOf N M3 9).bind (fun x11 => some (x11, M3)))
def pModel_loudest_J76 (N : Nat) (M : fm_M) (v1 : Int32) (v2 : Int32) (v3 : Int32) (v4 : Int64) (v6 : Int32) (k42 : Int32 × Int64 × Int32 × fm_M → Option (Int32 × fm_M)) (s0 : Int64) : Option (Int32 × fm_M) :=
  if 0 < (lg_cmp s0 v4) then (pModel_turn M v6).bind (fun x95 => k42 (x95, s0, (v6 + 1), M)) else k42 (v3, v4, (v6 + 1), M)
def pModel_loudest_L42b (N : Nat) (v1 : Int32) (v2 : Int32) (k42 : Int32 × Int64 × Int32 × fm_M → Option (Int32 × fm_M)) (v3 : Int32) (v4 : Int64) (v6 : Int32) (M : fm_M) : Option (Int32 × fm_M) :=
  if 16 < v6 then fm_pt M 0 4 0 (fun M107 => (pModel_tell M107 v4).bind (fun M113 => some ((8 + v3), M113))) else if v1 = 0 then (pModel_turn M v6).bind (fun x57 => (pModel_beamPower N M v2 x57).bind (fun (x60, M60) => pModel_loudest_J76 N M60 v1 v2 v3 v4 v6 k42 x60)) else (pModel_turn M v6).bind (fun x70 => (pModel_cleanPower N M v2 x70).bind (fun (x73, M73) => pModel_loudest_J76 N M73 v1 v2 v3 v4 v6 k42 x73))
def pModel_loudest_L42 (N : Nat) (v1 : Int32) (v2 : Int32) (k42 : Int32 × Int64 × Int32 × fm_M → Option (Int32 × fm_M)) (s : Int32 × Int64 × Int32 × fm_M) : Option (Int32 × fm_M) := pModel_loudest_L42b N v1 v2 k42 s.1 s.2.1 s.2.2.1 s.2.2.2
def pModel_loudest (N : Nat) (M : fm_M) (v1 : Int32) : Option (Int32 × fm_M) :=
  fm_pt M 0 5 0 (fun M2 => (pModel_in M2 v1 0 1).bind (fun x8 => if x8 = 0 then some ((-1), M2) else (pModel_liveBits N M2).bind (fun x17 => if x17 = 0 then some ((-2), M2) else (pModel_hear N M2).bind (fun M29 => fm_lp (pModel_loudest_L42 N v1 x17) N (0, (-1), 0, M29)))))
def pModel_pattern_L34b (N : Nat) (v1 : Int32) (k34 : Int32 × Int32 × Int32 × fm_M → Option (Int32 × fm_M)) (v2 : Int32) (v3 : Int32) (v4 : Int32) (M : fm_M) : Option (Int32 × fm_M) :=
  if 8 < v4 then some ((8 + v2), M) else (pModel_layBeam N M v1 v4).bind (fun M45 => (pModel_levelOf N M45 7).bind (fun x53 => (pModel_tell M45 x53.toInt64).bind (fun M62 => if v4 ≤ (-8) then k34 (v4, x53, (v4 + 1), M62) else if x53 < v3 then k34 (v4, x53, (v4 + 1), M62) else k34 (v2, v3, (v4 + 1), M62))))
def pModel_pattern_L34 (N : Nat) (v1 : Int32) (k34 : Int32 × Int32 × Int32 × fm_M → Option (Int32 × fm_M)) (s : Int32 × Int32 × Int32 × fm_M) : Option (Int32 × fm_M) := pModel_pattern_L34b N v1 k34 s.1 s.2.1 s.2.2.1 s.2.2.2
def pModel_pattern (N : Nat) (M : fm_M) : Option (Int32 × fm_M) :=
  fm_pt M 0 5 0 (fun M2 => (pModel_liveBits N M2).bind (fun x6 => if x6 = 0 then some ((-2), M2) else (pModel_hear N M2).bind (fun M18 => fm_pt M18 0 4 0 (fun M23 => fm_lp (pModel_pattern_L34 N x6) N (0, 0, (-8), M23)))))
def pModel_signOf (M : fm_M) (v0 : Int32) : Option Int32 :=
  if v0 ≤ 0 then if 0 ≤ v0 then some 0 else some (-1) else some 1
def pModel_agreeOf_L12b (N : Nat) (M : fm_M) (v1 : Int32) (v2 : Int32) (v3 : Int32) (k12 : Int32 × Int32 → Option Int32) (v4 : Int32) (v5 : Int32) : Option Int32 :=
  if ((M.1 1 38) + (M.1 1 39)) ≤ v5 then some v4 else (pModel_turnedOf M v1 v3 v5).bind (fun x39 => (pModel_signOf M x39).bind (fun x42 => (pModel_turnedOf M v2 v3 v5).bind (fun x50 => (pModel_signOf M x50).bind (fun x53 => if x42 = x53 then k12 ((v4 + 1), (v5 + 1)) else k12 ((v4 + 0), (v5 + 1))))))
def pModel_agreeOf_L12 (N : Nat) (M : fm_M) (v1 : Int32) (v2 : Int32) (v3 : Int32) (k12 : Int32 × Int32 → Option Int32) (s : Int32 × Int32) : Option Int32 := pModel_agreeOf_L12b N M v1 v2 v3 k12 s.1 s.2
def pModel_agreeOf (N : Nat) (M : fm_M) (v1 : Int32) (v2 : Int32) (v3 : Int32) : Option Int32 :=
  fm_lp (pModel_agreeOf_L12 N M v1 v2 v3) N (0, (M.1 1 38))
def pModel_agree (N : Nat) (M : fm_M) (v1 : Int32) (v2 : Int32) (v3 : Int32) : Option (Int32 × fm_M) :=
  fm_pt M 0 5 0 (fun M2 => (pModel_isMic M2 v1).bind (fun x7 => if x7 = 0 then some ((-1), M2) else (pModel_isMic M2 v2).bind (fun x15 => if x15 = 0 then some ((-1), M2) else if v1 = v2 then some ((-1), M2) else (pModel_isSide M2 v3).bind (fun x27 => if x27 = 0 then some ((-1), M2) else (pModel_hear N M2).bind (fun M36 => fm_pt M36 0 4 0 (fun M41 => (pModel_tell M41 ((M41.1 1 39).toInt64)).bind (fun M53 => (pModel_agreeOf N M53 v1 v2 v3).bind (fun x60 => some (x60, M53)))))))))
def pModel_fromOf_L38b (N : Nat) (M : fm_M) (v1 : Int32) (v2 : Int32) (v3 : Int32) (v5 : Int32) (k9 : Int32 × Int32 × fm_M → Option (Int32 × fm_M)) (k21 : Int32 × Int32 → Option (Int32 × fm_M)) (k38 : Int32 × Int32 → Option (Int32 × fm_M)) (v4 : Int32) (v6 : Int32) : Option (Int32 × fm_M) :=
  if (M.1 1 0) ≤ v6 then k21 (v4, (v5 + 1)) else (pModel_has M v1 v5).bind (fun x54 => if x54 = 0 then k38 ((v4 + 0), (v6 + 1)) else (pModel_has M v1 v6).bind (fun x63 => if x63 = 0 then k38 ((v4 + 0), (v6 + 1)) else (pModel_turn M v3).bind (fun x75 => (pModel_agreeOf N M v5 v6 x75).bind (fun x78 => k38 ((v4 + x78), (v6 + 1))))))
def pModel_fromOf_L38 (N : Nat) (M : fm_M) (v1 : Int32) (v2 : Int32) (v3 : Int32) (v5 : Int32) (k9 : Int32 × Int32 × fm_M → Option (Int32 × fm_M)) (k21 : Int32 × Int32 → Option (Int32 × fm_M)) (k38 : Int32 × Int32 → Option (Int32 × fm_M)) (s : Int32 × Int32) : Option (Int32 × fm_M) := pModel_fromOf_L38b N M v1 v2 v3 v5 k9 k21 k38 s.1 s.2
def pModel_fromOf_L21b (N : Nat) (M : fm_M) (v1 : Int32) (v2 : Int32) (v3 : Int32) (k9 : Int32 × Int32 × fm_M → Option (Int32 × fm_M)) (k21 : Int32 × Int32 → Option (Int32 × fm_M)) (v4 : Int32) (v5 : Int32) : Option (Int32 × fm_M) :=
  if (M.1 1 0) ≤ v5 then if (M.1 0 20) < v4 then fm_pt M 0 20 v4 (fun M115 => (pModel_turn M115 v3).bind (fun x119 => k9 (x119, (v3 + 1), M115))) else k9 (v2, (v3 + 1), M) else fm_lp (pModel_fromOf_L38 N M v1 v2 v3 v5 k9 k21) N (v4, (v5 + 1))
def pModel_fromOf_L21 (N : Nat) (M : fm_M) (v1 : Int32) (v2 : Int32) (v3 : Int32) (k9 : Int32 × Int32 × fm_M → Option (Int32 × fm_M)) (k21 : Int32 × Int32 → Option (Int32 × fm_M)) (s : Int32 × Int32) : Option (Int32 × fm_M) := pModel_fromOf_L21b N M v1 v2 v3 k9 k21 s.1 s.2
def pModel_fromOf_L9b (N : Nat) (v1 : Int32) (k9 : Int32 × Int32 × fm_M → Option (Int32 × fm_M)) (v2 : Int32) (v3 : Int32) (M : fm_M) : Option (Int32 × fm_M) :=
  if 16 < v3 then some (v2, M) else fm_lp (pModel_fromOf_L21 N M v1 v2 v3 k9) N (0, 0)
def pModel_fromOf_L9 (N : Nat) (v1 : Int32) (k9 : Int32 × Int32 × fm_M → Option (Int32 × fm_M)) (s : Int32 × Int32 × fm_M) : Option (Int32 × fm_M) := pModel_fromOf_L9b N v1 k9 s.1 s.2.1 s.2.2
def pModel_fromOf (N : Nat) (M : fm_M) (v1 : Int32) : Option (Int32 × fm_M) :=
  fm_pt M 0 20 (-1) (fun M4 => fm_lp (pModel_fromOf_L9 N v1) N (0, 0, M4))
def pModel_from (N : Nat) (M : fm_M) : Option (Int32 × fm_M) :=
  fm_pt M 0 5 0 (fun M2 => (pModel_liveBits N M2).bind (fun x6 => (pModel_countBits N M2 x6).bind (fun x11 => if 2 ≤ x11 then (pModel_hear N M2).bind (fun M24 => (pModel_fromOf N M24 x6).bind (fun (x29, M29) => fm_pt M29 0 4 0 (fun M35 => (pModel_tell M35 ((M35.1 0 20).toInt64)).bind (fun M44 => (pModel_tell M44 (((x11 * (x11 - 1)) / 2).toInt64)).bind (fun M56 => some ((8 + x29), M56)))))) else some ((-2), M2))))
def pModel_layAgree_L31b (N : Nat) (M : fm_M) (v1 : Int32) (v2 : Int32) (v4 : Int32) (k3 : Int32 × fm_M → Option fm_M) (k14 : Int32 × Int32 → Option fm_M) (k31 : Int32 × Int32 → Option fm_M) (v3 : Int32) (v5 : Int32) : Option fm_M :=
  if (M.1 1 0) ≤ v5 then k14 (v3, (v4 + 1)) else (pModel_has M v1 v4).bind (fun x46 => if x46 = 0 then k31 ((v3 + 0), (v5 + 1)) else (pModel_has M v1 v5).bind (fun x55 => if x55 = 0 then k31 ((v3 + 0), (v5 + 1)) else (pModel_agreeOf N M v4 v5 v2).bind (fun x67 => k31 ((v3 + x67), (v5 + 1)))))
def pModel_layAgree_L31 (N : Nat) (M : fm_M) (v1 : Int32) (v2 : Int32) (v4 : Int32) (k3 : Int32 × fm_M → Option fm_M) (k14 : Int32 × Int32 → Option fm_M) (k31 : Int32 × Int32 → Option fm_M) (s : Int32 × Int32) : Option fm_M := pModel_layAgree_L31b N M v1 v2 v4 k3 k14 k31 s.1 s.2
def pModel_layAgree_L14b (N : Nat) (M : fm_M) (v1 : Int32) (v2 : Int32) (k3 : Int32 × fm_M → Option fm_M) (k14 : Int32 × Int32 → Option fm_M) (v3 : Int32) (v4 : Int32) : Option fm_M :=
  if (M.1 1 0) ≤ v4 then fm_st 17 M 11 (8 + v2) v3 (fun M97 => k3 ((v2 + 1), M97)) else fm_lp (pModel_layAgree_L31 N M v1 v2 v4 k3 k14) N (v3, (v4 + 1))
def pModel_layAgree_L14 (N : Nat) (M : fm_M) (v1 : Int32) (v2 : Int32) (k3 : Int32 × fm_M → Option fm_M) (k14 : Int32 × Int32 → Option fm_M) (s : Int32 × Int32) : Option fm_M := pModel_layAgree_L14b N M v1 v2 k3 k14 s.1 s.2
def pModel_layAgree_L3b (N : Nat) (v1 : Int32) (k3 : Int32 × fm_M → Option fm_M) (v2 : Int32) (M : fm_M) : Option fm_M :=
  if 8 < v2 then some M else fm_lp (pModel_layAgree_L14 N M v1 v2 k3) N (0, 0)
def pModel_layAgree_L3 (N : Nat) (v1 : Int32) (k3 : Int32 × fm_M → Option fm_M) (s : Int32 × fm_M) : Option fm_M := pModel_layAgree_L3b N v1 k3 s.1 s.2
def pModel_layAgree (N : Nat) (M : fm_M) (v1 : Int32) : Option fm_M :=
  fm_lp (pModel_layAgree_L3 N v1) N ((-8), M)
def pModel_doubtful_L64b (N : Nat) (v2 : Int32) (k64 : Int32 × fm_M → Option (Int32 × fm_M)) (v3 : Int32) (M : fm_M) : Option (Int32 × fm_M) :=
  if 16 < v3 then some ((M.1 0 4), M) else fm_ld 17 M 11 v3 (fun x75 => if x75 = v2 then (pModel_tell M v3.toInt64).bind (fun M83 => k64 ((v3 + 1), M83)) else k64 ((v3 + 1), M))
def pModel_doubtful_L64 (N : Nat) (v2 : Int32) (k64 : Int32 × fm_M → Option (Int32 × fm_M)) (s : Int32 × fm_M) : Option (Int32 × fm_M) := pModel_doubtful_L64b N v2 k64 s.1 s.2
def pModel_doubtful_L34b (N : Nat) (M : fm_M) (k34 : Int32 × Int32 → Option (Int32 × fm_M)) (v2 : Int32) (v3 : Int32) : Option (Int32 × fm_M) :=
  if 16 < v3 then fm_pt M 0 4 0 (fun M59 => fm_lp (pModel_doubtful_L64 N v2) N (0, M59)) else fm_ld 17 M 11 v3 (fun x46 => k34 ((jmax v2 x46), (v3 + 1)))
def pModel_doubtful_L34 (N : Nat) (M : fm_M) (k34 : Int32 × Int32 → Option (Int32 × fm_M)) (s : Int32 × Int32) : Option (Int32 × fm_M) := pModel_doubtful_L34b N M k34 s.1 s.2
def pModel_doubtful (N : Nat) (M : fm_M) : Option (Int32 × fm_M) :=
  fm_pt M 0 5 0 (fun M2 => (pModel_liveBits N M2).bind (fun x6 => (pModel_countBits N M2 x6).bind (fun x11 => if 2 ≤ x11 then (pModel_hear N M2).bind (fun M22 => (pModel_layAgree N M22 x6).bind (fun M27 => fm_lp (pModel_doubtful_L34 N M27) N (0, 0))) else some ((-2), M2))))
def pModel_tracks_L81b (N : Nat) (v1 : Int32) (v2 : Int32) (v3 : Int32) (k81 : Int32 × Int32 × fm_M → Option (Int32 × fm_M)) (v4 : Int32) (v5 : Int32) (M : fm_M) : Option (Int32 × fm_M) :=
  if v1 ≤ v5 then fm_pt M 1 38 v3 (fun M167 => some (v4, M167)) else fm_pt M 1 38 (v3 + (v5 * (M.1 1 39))) (fun M105 => (pModel_fromOf N M105 v2).bind (fun (x111, M111) => (pModel_tell M111 ((8 + x111).toInt64)).bind (fun M116 => if v5 ≤ 0 then k81 ((v4 + 0), (v5 + 1), M116) else fm_ldl 32 M116 3 v5 (fun x132 => fm_ldl 32 M116 3 (v5 - 1) (fun x141 => if (lg_cmp x132 x141) = 0 then k81 ((v4 + 0), (v5 + 1), M116) else k81 ((v4 + 1), (v5 + 1), M116))))))
def pModel_tracks_L81 (N : Nat) (v1 : Int32) (v2 : Int32) (v3 : Int32) (k81 : Int32 × Int32 × fm_M → Option (Int32 × fm_M)) (s : Int32 × Int32 × fm_M) : Option (Int32 × fm_M) := pModel_tracks_L81b N v1 v2 v3 k81 s.1 s.2.1 s.2.2
def pModel_tracks (N : Nat) (M : fm_M) (v1 : Int32) : Option (Int32 × fm_M) :=
  fm_pt M 0 5 0 (fun M2 => (pModel_in M2 v1 1 12).bind (fun x9 => if x9 = 0 then some ((-1), M2) else if ((M2.1 1 38) + ((v1 - 1) * (M2.1 1 39))) ≤ 200 then (pModel_liveBits N M2).bind (fun x43 => (pModel_countBits N M2 x43).bind (fun x48 => if 2 ≤ x48 then (pModel_hear N M2).bind (fun M59 => fm_pt M59 0 4 0 (fun M75 => fm_lp (pModel_tracks_L81 N v1 x43 (M59.1 1 38)) N (0, 0, M75))) else some ((-2), M2))) else some ((-1), M2)))
def pModel_micPower_L2b (N : Nat) (v1 : Int32) (k2 : Int32 × fm_M → Option (Int64 × fm_M)) (v2 : Int32) (M : fm_M) : Option (Int64 × fm_M) :=
  if (M.1 1 39) ≤ v2 then (pModel_powerOf N M 10).bind (fun x44 => some (x44, M)) else (pModel_sampleOf N M v1 ((M.1 1 38) + v2)).bind (fun x29 => fm_st 48 M 10 v2 x29 (fun M32 => k2 ((v2 + 1), M32)))
def pModel_micPower_L2 (N : Nat) (v1 : Int32) (k2 : Int32 × fm_M → Option (Int64 × fm_M)) (s : Int32 × fm_M) : Option (Int64 × fm_M) := pModel_micPower_L2b N v1 k2 s.1 s.2
def pModel_micPower (N : Nat) (M : fm_M) (v1 : Int32) : Option (Int64 × fm_M) :=
  fm_lp (pModel_micPower_L2 N v1) N (0, M)
def pModel_strongest_L37b (N : Nat) (v1 : Int32) (k37 : Int32 × Int64 × Int32 × fm_M → Option (Int32 × fm_M)) (v2 : Int32) (v3 : Int64) (v5 : Int32) (M : fm_M) : Option (Int32 × fm_M) :=
  if (M.1 1 40) ≤ v5 then fm_pt M 0 13 (-1) (fun M86 => fm_pt M86 0 4 0 (fun M91 => (pModel_tell M91 v3).bind (fun M96 => (pModel_micPower N M96 v1).bind (fun (x102, M102) => (pModel_tell M102 x102).bind (fun M105 => some (v2, M105)))))) else fm_pt M 0 13 v5 (fun M52 => (pModel_micPower N M52 v1).bind (fun (x57, M57) => if 0 < (lg_cmp x57 v3) then k37 (v5, x57, (v5 + 1), M57) else k37 (v2, v3, (v5 + 1), M57)))
def pModel_strongest_L37 (N : Nat) (v1 : Int32) (k37 : Int32 × Int64 × Int32 × fm_M → Option (Int32 × fm_M)) (s : Int32 × Int64 × Int32 × fm_M) : Option (Int32 × fm_M) := pModel_strongest_L37b N v1 k37 s.1 s.2.1 s.2.2.1 s.2.2.2
def pModel_strongest (N : Nat) (M : fm_M) (v1 : Int32) : Option (Int32 × fm_M) :=
  fm_pt M 0 5 0 (fun M2 => (pModel_isMic M2 v1).bind (fun x7 => if x7 = 0 then some ((-1), M2) else if (M2.1 1 40) = 0 then some ((-2), M2) else fm_lp (pModel_strongest_L37 N v1) N ((-1), (-1), 0, M2)))
def pModel_isQuiet_L8b (N : Nat) (M : fm_M) (v1 : Int32) (k8 : Int32 → Option Int32) (v2 : Int32) : Option Int32 :=
  if ((M.1 1 38) + (M.1 1 39)) ≤ v2 then some 1 else (pModel_heard M v1 v2).bind (fun x30 => if x30 = 0 then k8 (v2 + 1) else some 0)
def pModel_isQuiet_L8 (N : Nat) (M : fm_M) (v1 : Int32) (k8 : Int32 → Option Int32) (s : Int32) : Option Int32 := pModel_isQuiet_L8b N M v1 k8 s
def pModel_isQuiet (N : Nat) (M : fm_M) (v1 : Int32) : Option Int32 :=
  fm_lp (pModel_isQuiet_L8 N M v1) N (M.1 1 38)
def pModel_clippedOf_L10b (N : Nat) (M : fm_M) (v1 : Int32) (k10 : Int32 × Int32 → Option Int32) (v2 : Int32) (v3 : Int32) : Option Int32 :=
  if ((M.1 1 38) + (M.1 1 39)) ≤ v3 then some v2 else (pModel_heard M v1 v3).bind (fun x33 => if (jabs x33) = (M.1 1 37) then k10 ((v2 + 1), (v3 + 1)) else k10 ((v2 + 0), (v3 + 1)))
def pModel_clippedOf_L10 (N : Nat) (M : fm_M) (v1 : Int32) (k10 : Int32 × Int32 → Option Int32) (s : Int32 × Int32) : Option Int32 := pModel_clippedOf_L10b N M v1 k10 s.1 s.2
def pModel_clippedOf (N : Nat) (M : fm_M) (v1 : Int32) : Option Int32 :=
  fm_lp (pModel_clippedOf_L10 N M v1) N (0, (M.1 1 38))
def pModel_roughOf_L12b (N : Nat) (M : fm_M) (v1 : Int32) (k12 : Int32 × Int32 → Option Int32) (v2 : Int32) (v3 : Int32) : Option Int32 :=
  if ((M.1 1 38) + (M.1 1 39)) ≤ v3 then some v2 else (pModel_heard M v1 v3).bind (fun x35 => (pModel_signOf M x35).bind (fun x38 => (pModel_heard M v1 (v3 - 1)).bind (fun x46 => (pModel_signOf M x46).bind (fun x49 => if x38 = x49 then k12 ((v2 + 0), (v3 + 1)) else k12 ((v2 + 1), (v3 + 1))))))
def pModel_roughOf_L12 (N : Nat) (M : fm_M) (v1 : Int32) (k12 : Int32 × Int32 → Option Int32) (s : Int32 × Int32) : Option Int32 := pModel_roughOf_L12b N M v1 k12 s.1 s.2
def pModel_roughOf (N : Nat) (M : fm_M) (v1 : Int32) : Option Int32 :=
  fm_lp (pModel_roughOf_L12 N M v1) N (0, ((M.1 1 38) + 1))
def pModel_faults_J81 (N : Nat) (M : fm_M) (v1 : Int32) (v2 : Int32) (v4 : Int32) (v5 : Int32) (k31 : Int32 × Int32 × Int32 × Int32 → Option (Int32 × fm_M)) (s0 : Int32) (s1 : Int32) : Option (Int32 × fm_M) :=
  (pModel_roughOf N M v5).bind (fun x88 => if x88 < v1 then k31 (v2, (s0 ||| s1), (v4 ||| 0), (v5 + 1)) else k31 (v2, (s0 ||| s1), (v4 ||| (jshl 1 v5)), (v5 + 1)))
def pModel_faults_J60 (N : Nat) (M : fm_M) (v1 : Int32) (v3 : Int32) (v4 : Int32) (v5 : Int32) (k31 : Int32 × Int32 × Int32 × Int32 → Option (Int32 × fm_M)) (s0 : Int32) (s1 : Int32) : Option (Int32 × fm_M) :=
  (pModel_clippedOf N M v5).bind (fun x66 => if x66 < v1 then pModel_faults_J81 N M v1 (s0 ||| s1) v4 v5 k31 v3 0 else pModel_faults_J81 N M v1 (s0 ||| s1) v4 v5 k31 v3 (jshl 1 v5))
def pModel_faults_L31b (N : Nat) (M : fm_M) (v1 : Int32) (k31 : Int32 × Int32 × Int32 × Int32 → Option (Int32 × fm_M)) (v2 : Int32) (v3 : Int32) (v4 : Int32) (v5 : Int32) : Option (Int32 × fm_M) :=
  if (M.1 1 0) ≤ v5 then fm_pt M 0 4 0 (fun M114 => (pModel_tell M114 v3.toInt64).bind (fun M120 => (pModel_tell M120 v4.toInt64).bind (fun M127 => some (v2, M127)))) else (pModel_isQuiet N M v5).bind (fun x46 => if x46 = 0 then pModel_faults_J60 N M v1 v3 v4 v5 k31 v2 0 else pModel_faults_J60 N M v1 v3 v4 v5 k31 v2 (jshl 1 v5))
def pModel_faults_L31 (N : Nat) (M : fm_M) (v1 : Int32) (k31 : Int32 × Int32 × Int32 × Int32 → Option (Int32 × fm_M)) (s : Int32 × Int32 × Int32 × Int32) : Option (Int32 × fm_M) := pModel_faults_L31b N M v1 k31 s.1 s.2.1 s.2.2.1 s.2.2.2
def pModel_faults (N : Nat) (M : fm_M) (v1 : Int32) : Option (Int32 × fm_M) :=
  fm_pt M 0 5 0 (fun M2 => (pModel_in M2 v1 0 48).bind (fun x9 => if x9 = 0 then some ((-1), M2) else (pModel_hear N M2).bind (fun M18 => fm_lp (pModel_faults_L31 N M18 v1) N (0, 0, 0, 0))))
def pModel_clipped_J48 (N : Nat) (M : fm_M) (v1 : Int32) (s1 : Int64) : Option (Int32 × fm_M) :=
  (pModel_tell M s1).bind (fun M48 => (pModel_clippedOf N M48 v1).bind (fun x53 => some (x53, M48)))
def pModel_clipped (N : Nat) (M : fm_M) (v1 : Int32) : Option (Int32 × fm_M) :=
  fm_pt M 0 5 0 (fun M2 => (pModel_isMic M2 v1).bind (fun x7 => if x7 = 0 then some ((-1), M2) else (pModel_hear N M2).bind (fun M16 => fm_pt M16 0 4 0 (fun M21 => (pModel_roughOf N M21 v1).bind (fun x27 => (pModel_tell M21 x27.toInt64).bind (fun M31 => (pModel_isQuiet N M31 v1).bind (fun x37 => if x37 = 0 then pModel_clipped_J48 N M31 v1 0 else pModel_clipped_J48 N M31 v1 1)))))))
def pModel_without (N : Nat) (M : fm_M) (v1 : Int32) (v2 : Int32) : Option (Int32 × fm_M) :=
  fm_pt M 0 5 0 (fun M2 => (pModel_liveBits N M2).bind (fun x6 => (pModel_isMic M2 v1).bind (fun x12 => if x12 = 0 then some ((-1), M2) else (pModel_has M2 x6 v1).bind (fun x20 => if x20 = 0 then some ((-1), M2) else (pModel_isSide M2 v2).bind (fun x27 => if x27 = 0 then some ((-1), M2) else (pModel_countBits N M2 x6).bind (fun x36 => if x36 = 1 then some ((-2), M2) else (pModel_hear N M2).bind (fun M47 => fm_pt M47 0 4 0 (fun M52 => (pModel_beamPower N M52 x6 v2).bind (fun (x59, M59) => (pModel_tell M59 x59).bind (fun M62 => (pModel_beamPower N M62 (x6 &&& ((jshl 1 v1) ^^^ (-1))) v2).bind (fun (x74, M74) => some (x74.toInt32, M74))))))))))))
def pModel_worst_L42b (N : Nat) (v1 : Int32) (v2 : Int32) (k42 : Int32 × Int64 × Int32 × fm_M → Option (Int32 × fm_M)) (v3 : Int32) (v4 : Int64) (v6 : Int32) (M : fm_M) : Option (Int32 × fm_M) :=
  if (M.1 1 0) ≤ v6 then fm_pt M 0 4 0 (fun M111 => (pModel_tell M111 v4).bind (fun M117 => some (v3, M117))) else (pModel_has M v2 v6).bind (fun x56 => if x56 = 0 then k42 (v3, v4, (v6 + 1), M) else (pModel_cleanPower N M (v2 &&& ((jshl 1 v6) ^^^ (-1))) v1).bind (fun (x75, M75) => if v3 = (-1) then k42 (v6, x75, (v6 + 1), M75) else if (lg_cmp x75 v4) < 0 then k42 (v6, x75, (v6 + 1), M75) else k42 (v3, v4, (v6 + 1), M75)))
def pModel_worst_L42 (N : Nat) (v1 : Int32) (v2 : Int32) (k42 : Int32 × Int64 × Int32 × fm_M → Option (Int32 × fm_M)) (s : Int32 × Int64 × Int32 × fm_M) : Option (Int32 × fm_M) := pModel_worst_L42b N v1 v2 k42 s.1 s.2.1 s.2.2.1 s.2.2.2
def pModel_worst (N : Nat) (M : fm_M) (v1 : Int32) : Option (Int32 × fm_M) :=
  fm_pt M 0 5 0 (fun M2 => (pModel_isSide M2 v1).bind (fun x6 => if x6 = 0 then some ((-1), M2) else (pModel_liveBits N M2).bind (fun x15 => (pModel_countBits N M2 x15).bind (fun x20 => if 2 ≤ x20 then (pModel_hear N M2).bind (fun M31 => fm_lp (pModel_worst_L42 N v1 x15) N ((-1), 0, 0, M31)) else some ((-2), M2)))))
def pModel_best_L49b (N : Nat) (v1 : Int32) (v2 : Int32) (k49 : Int32 × Int64 × Int32 × fm_M → Option (Int32 × fm_M)) (v3 : Int32) (v4 : Int64) (v6 : Int32) (M : fm_M) : Option (Int32 × fm_M) :=
  if (jshl 1 (M.1 1 0)) ≤ v6 then fm_pt M 0 4 0 (fun M114 => (pModel_tell M114 v4).bind (fun M120 => some (v3, M120))) else (pModel_countBits N M v6).bind (fun x64 => if x64 = v1 then (pModel_beamPower N M v6 v2).bind (fun (x78, M78) => if v3 = (-1) then k49 (v6, x78, (v6 + 1), M78) else if (lg_cmp x78 v4) < 0 then k49 (v6, x78, (v6 + 1), M78) else k49 (v3, v4, (v6 + 1), M78)) else k49 (v3, v4, (v6 + 1), M))
def pModel_best_L49 (N : Nat) (v1 : Int32) (v2 : Int32) (k49 : Int32 × Int64 × Int32 × fm_M → Option (Int32 × fm_M)) (s : Int32 × Int64 × Int32 × fm_M) : Option (Int32 × fm_M) := pModel_best_L49b N v1 v2 k49 s.1 s.2.1 s.2.2.1 s.2.2.2
def pModel_best (N : Nat) (M : fm_M) (v1 : Int32) (v2 : Int32) : Option (Int32 × fm_M) :=
  fm_pt M 0 5 0 (fun M2 => (pModel_in M2 v1 1 6).bind (fun x9 => if x9 = 0 then some ((-1), M2) else (pModel_isSide M2 v2).bind (fun x16 => if x16 = 0 then some ((-1), M2) else if v1 ≤ (M2.1 1 0) then (pModel_hear N M2).bind (fun M38 => fm_lp (pModel_best_L49 N v1 v2) N ((-1), 0, 1, M38)) else some ((-2), M2))))
def pModel_masks_L34b (N : Nat) (v1 : Int32) (k34 : Int32 × Int64 × Int32 × fm_M → Option (Int32 × fm_M)) (v2 : Int32) (v3 : Int64) (v5 : Int32) (M : fm_M) : Option (Int32 × fm_M) :=
  if (M.1 1 40) ≤ v5 then fm_pt M 0 11 (-1) (fun M96 => fm_pt M96 0 4 0 (fun M101 => (pModel_tell M101 v3).bind (fun M106 => some (v2, M106)))) else fm_pt M 0 11 v5 (fun M49 => (pModel_hear N M49).bind (fun M53 => (pModel_liveBits N M53).bind (fun x58 => (pModel_beamPower N M53 x58 v1).bind (fun (x62, M62) => if v2 = (-1) then k34 (v5, x62, (v5 + 1), M62) else if (lg_cmp x62 v3) < 0 then k34 (v5, x62, (v5 + 1), M62) else k34 (v2, v3, (v5 + 1), M62)))))
def pModel_masks_L34 (N : Nat) (v1 : Int32) (k34 : Int32 × Int64 × Int32 × fm_M → Option (Int32 × fm_M)) (s : Int32 × Int64 × Int32 × fm_M) : Option (Int32 × fm_M) := pModel_masks_L34b N v1 k34 s.1 s.2.1 s.2.2.1 s.2.2.2
def pModel_masks (N : Nat) (M : fm_M) (v1 : Int32) : Option (Int32 × fm_M) :=
  fm_pt M 0 5 0 (fun M2 => (pModel_isSide M2 v1).bind (fun x6 => if x6 = 0 then some ((-1), M2) else if (M2.1 1 40) = 0 then some ((-2), M2) else fm_lp (pModel_masks_L34 N v1) N ((-1), 0, 0, M2)))
def pModel_nulled_L118b (N : Nat) (v1 : Int32) (v3 : Int32) (v4 : Int32) (v5 : Int32) (k106 : Int32 × fm_M → Option (Int32 × fm_M)) (k118 : Int32 × fm_M → Option (Int32 × fm_M)) (v6 : Int32) (M : fm_M) : Option (Int32 × fm_M) :=
  if (M.1 1 39) ≤ v6 then k106 ((v5 + 1), M) else (pModel_blockedOf N M v4 v1 v5 ((M.1 1 38) + v6)).bind (fun x158 => fm_st 288 M 8 ((48 * v5) + v6) x158 (fun M161 => k118 ((v6 + 1), M161)))
def pModel_nulled_L118 (N : Nat) (v1 : Int32) (v3 : Int32) (v4 : Int32) (v5 : Int32) (k106 : Int32 × fm_M → Option (Int32 × fm_M)) (k118 : Int32 × fm_M → Option (Int32 × fm_M)) (s : Int32 × fm_M) : Option (Int32 × fm_M) := pModel_nulled_L118b N v1 v3 v4 v5 k106 k118 s.1 s.2
def pModel_nulled_L106b (N : Nat) (v1 : Int32) (v3 : Int32) (v4 : Int32) (k106 : Int32 × fm_M → Option (Int32 × fm_M)) (v5 : Int32) (M : fm_M) : Option (Int32 × fm_M) :=
  if (M.1 0 15) ≤ v5 then (pModel_layClean N M).bind (fun M175 => fm_pt M175 0 4 0 (fun M180 => (pModel_powerOf N M180 9).bind (fun x189 => (pModel_tell M180 x189).bind (fun M192 => (pModel_powerOf N M192 7).bind (fun x201 => (pModel_tell M192 x201).bind (fun M204 => some (v3, M204))))))) else fm_lp (pModel_nulled_L118 N v1 v3 v4 v5 k106) N (0, M)
def pModel_nulled_L106 (N : Nat) (v1 : Int32) (v3 : Int32) (v4 : Int32) (k106 : Int32 × fm_M → Option (Int32 × fm_M)) (s : Int32 × fm_M) : Option (Int32 × fm_M) := pModel_nulled_L106b N v1 v3 v4 k106 s.1 s.2
def pModel_nulled_L26b (N : Nat) (M : fm_M) (v1 : Int32) (v2 : Int32) (k26 : Int32 × Int32 → Option (Int32 × fm_M)) (v3 : Int32) (v4 : Int32) : Option (Int32 × fm_M) :=
  if (M.1 1 40) ≤ v4 then (pModel_liveBits N M).bind (fun x64 => fm_pt M 0 12 v2 (fun M71 => (pModel_hear N M71).bind (fun M75 => (pModel_layWeights N M75 x64 v1).bind (fun M82 => fm_pt M82 0 12 300 (fun M89 => (pModel_hear N M89).bind (fun M93 => (pModel_layBeam N M93 x64 v1).bind (fun M100 => fm_lp (pModel_nulled_L106 N v1 v3 x64) N (0, M100)))))))) else (pModel_ofSource M v4 0).bind (fun x43 => if x43 = v2 then k26 ((v3 + 1), (v4 + 1)) else k26 ((v3 + 0), (v4 + 1)))
def pModel_nulled_L26 (N : Nat) (M : fm_M) (v1 : Int32) (v2 : Int32) (k26 : Int32 × Int32 → Option (Int32 × fm_M)) (s : Int32 × Int32) : Option (Int32 × fm_M) := pModel_nulled_L26b N M v1 v2 k26 s.1 s.2
def pModel_nulled (N : Nat) (M : fm_M) (v1 : Int32) (v2 : Int32) : Option (Int32 × fm_M) :=
  fm_pt M 0 5 0 (fun M2 => (pModel_isSide M2 v1).bind (fun x6 => if x6 = 0 then some ((-1), M2) else (pModel_isSide M2 v2).bind (fun x13 => if x13 = 0 then some ((-1), M2) else fm_lp (pModel_nulled_L26 N M2 v1 v2) N (0, 0))))
def pModel_behind_L59b (N : Nat) (M : fm_M) (v1 : Int32) (v2 : Int32) (v3 : Int32) (v4 : Int32) (v5 : Int32) (k40 : Int32 × Int32 × Int32 → Option (Int32 × fm_M)) (k59 : Int32 × Int32 → Option (Int32 × fm_M)) (v6 : Int32) (v7 : Int32) : Option (Int32 × fm_M) :=
  if ((M.1 1 38) + (M.1 1 39)) ≤ v7 then if v4 < v6 then (pModel_turn M v5).bind (fun x140 => k40 (x140, v6, (v5 + 1))) else k40 (v3, v4, (v5 + 1)) else (pModel_turn M v5).bind (fun x87 => (pModel_heard M v1 (v7 + x87)).bind (fun x91 => (pModel_signOf M x91).bind (fun x94 => (pModel_heard M v2 v7).bind (fun x101 => (pModel_signOf M x101).bind (fun x104 => if x94 = x104 then k59 ((v6 + 1), (v7 + 1)) else k59 ((v6 + 0), (v7 + 1)))))))
def pModel_behind_L59 (N : Nat) (M : fm_M) (v1 : Int32) (v2 : Int32) (v3 : Int32) (v4 : Int32) (v5 : Int32) (k40 : Int32 × Int32 × Int32 → Option (Int32 × fm_M)) (k59 : Int32 × Int32 → Option (Int32 × fm_M)) (s : Int32 × Int32) : Option (Int32 × fm_M) := pModel_behind_L59b N M v1 v2 v3 v4 v5 k40 k59 s.1 s.2
def pModel_behind_L40b (N : Nat) (M : fm_M) (v1 : Int32) (v2 : Int32) (k40 : Int32 × Int32 × Int32 → Option (Int32 × fm_M)) (v3 : Int32) (v4 : Int32) (v5 : Int32) : Option (Int32 × fm_M) :=
  if 16 < v5 then fm_pt M 0 4 0 (fun M152 => (pModel_tell M152 v4.toInt64).bind (fun M159 => some ((8 + v3), M159))) else fm_lp (pModel_behind_L59 N M v1 v2 v3 v4 v5 k40) N (0, (M.1 1 38))
def pModel_behind_L40 (N : Nat) (M : fm_M) (v1 : Int32) (v2 : Int32) (k40 : Int32 × Int32 × Int32 → Option (Int32 × fm_M)) (s : Int32 × Int32 × Int32) : Option (Int32 × fm_M) := pModel_behind_L40b N M v1 v2 k40 s.1 s.2.1 s.2.2
def pModel_behind (N : Nat) (M : fm_M) (v1 : Int32) (v2 : Int32) : Option (Int32 × fm_M) :=
  fm_pt M 0 5 0 (fun M2 => (pModel_isMic M2 v1).bind (fun x7 => if x7 = 0 then some ((-1), M2) else (pModel_isMic M2 v2).bind (fun x15 => if x15 = 0 then some ((-1), M2) else if v1 = v2 then some ((-1), M2) else (pModel_hear N M2).bind (fun M29 => fm_lp (pModel_behind_L40 N M29 v1 v2) N (0, (-1), 0)))))
def pModel_later (N : Nat) (M : fm_M) (v1 : Int32) : Option (Int32 × fm_M) :=
  fm_pt M 0 5 0 (fun M2 => (pModel_in M2 v1 0 200).bind (fun x10 => if x10 = 0 then some ((-1), M2) else (pModel_liveBits N M2).bind (fun x19 => (pModel_countBits N M2 x19).bind (fun x24 => if 2 ≤ x24 then (pModel_hear N M2).bind (fun M35 => fm_pt M35 1 38 v1 (fun M53 => (pModel_fromOf N M53 x19).bind (fun (x56, M56) => fm_pt M56 1 38 (M35.1 1 38) (fun M68 => fm_pt M68 0 4 0 (fun M71 => (pModel_tell M71 ((M71.1 0 20).toInt64)).bind (fun M80 => some ((8 + x56), M80))))))) else some ((-2), M2)))))
def pModel_doesSettle_L2b (N : Nat) (M : fm_M) (v1 : Int32) (v2 : Int32) (k2 : Int32 → Option Int32) (v3 : Int32) : Option Int32 :=
  if (jmin 48 (v1 + 4)) < v3 then some 1 else fm_ld 49 M 12 v3 (fun x19 => if x19 = v2 then k2 (v3 + 1) else some 0)
def pModel_doesSettle_L2 (N : Nat) (M : fm_M) (v1 : Int32) (v2 : Int32) (k2 : Int32 → Option Int32) (s : Int32) : Option Int32 := pModel_doesSettle_L2b N M v1 v2 k2 s
def pModel_doesSettle (N : Nat) (M : fm_M) (v1 : Int32) (v2 : Int32) : Option Int32 :=
  fm_lp (pModel_doesSettle_L2 N M v1 v2) N v1
def pModel_settles_L90b (N : Nat) (M : fm_M) (v1 : Int32) (k90 : Int32 → Option (Int32 × fm_M)) (v4 : Int32) : Option (Int32 × fm_M) :=
  if 48 < v4 then some ((-2), M) else (pModel_doesSettle N M v4 v1).bind (fun x101 => if x101 = 0 then k90 (v4 + 1) else some (v4, M))
def pModel_settles_L90 (N : Nat) (M : fm_M) (v1 : Int32) (k90 : Int32 → Option (Int32 × fm_M)) (s : Int32) : Option (Int32 × fm_M) := pModel_settles_L90b N M v1 k90 s
def pModel_settles_L45b (N : Nat) (v1 : Int32) (v2 : Int32) (v3 : Int32) (k45 : Int32 × fm_M → Option (Int32 × fm_M)) (v4 : Int32) (M : fm_M) : Option (Int32 × fm_M) :=
  if 48 < v4 then fm_pt M 1 39 v3 (fun M86 => fm_lp (pModel_settles_L90 N M86 v1) N 4) else fm_pt M 1 39 v4 (fun M60 => (pModel_fromOf N M60 v2).bind (fun (x69, M69) => fm_st 49 M69 12 v4 x69 (fun M72 => k45 ((v4 + 1), M72))))
def pModel_settles_L45 (N : Nat) (v1 : Int32) (v2 : Int32) (v3 : Int32) (k45 : Int32 × fm_M → Option (Int32 × fm_M)) (s : Int32 × fm_M) : Option (Int32 × fm_M) := pModel_settles_L45b N v1 v2 v3 k45 s.1 s.2
def pModel_settles (N : Nat) (M : fm_M) (v1 : Int32) : Option (Int32 × fm_M) :=
  fm_pt M 0 5 0 (fun M2 => (pModel_isSide M2 v1).bind (fun x6 => if x6 = 0 then some ((-1), M2) else (pModel_liveBits N M2).bind (fun x15 => (pModel_countBits N M2 x15).bind (fun x20 => if 2 ≤ x20 then (pModel_hear N M2).bind (fun M31 => fm_lp (pModel_settles_L45 N v1 x15 (M31.1 1 39)) N (4, M31)) else some ((-2), M2)))))
def pModel_lay_L2b (N : Nat) (k2 : Int32 × fm_M → Option fm_M) (v1 : Int32) (M : fm_M) : Option fm_M :=
  if 101 ≤ v1 then some M else fm_ld 101 M 1 v1 (fun x18 => fm_st 101 M 14 v1 x18 (fun M19 => k2 ((v1 + 1), M19)))
def pModel_lay_L2 (N : Nat) (k2 : Int32 × fm_M → Option fm_M) (s : Int32 × fm_M) : Option fm_M := pModel_lay_L2b N k2 s.1 s.2
def pModel_lay (N : Nat) (M : fm_M) : Option fm_M :=
  fm_lp (pModel_lay_L2 N) N (0, M)
def pModel_note_L51b (N : Nat) (k51 : Int32 × fm_M → Option fm_M) (v1 : Int32) (M : fm_M) : Option fm_M :=
  if 101 ≤ v1 then fm_pt M 0 25 ((M.1 0 25) + 1) (fun M90 => some M90) else fm_ld 101 M 14 v1 (fun x75 => fm_st 808 M 13 ((101 * (M.1 0 25)) + v1) x75 (fun M76 => k51 ((v1 + 1), M76)))
def pModel_note_L51 (N : Nat) (k51 : Int32 × fm_M → Option fm_M) (s : Int32 × fm_M) : Option fm_M := pModel_note_L51b N k51 s.1 s.2
def pModel_note_J49 (N : Nat) (M : fm_M) : Option fm_M :=
  fm_lp (pModel_note_L51 N) N (0, M)
def pModel_note_L11b (N : Nat) (k11 : Int32 × fm_M → Option fm_M) (v1 : Int32) (M : fm_M) : Option fm_M :=
  if 707 ≤ v1 then fm_pt M 0 25 ((M.1 0 25) - 1) (fun M46 => pModel_note_J49 N M46) else fm_ld 808 M 13 (v1 + 101) (fun x31 => fm_st 808 M 13 v1 x31 (fun M32 => k11 ((v1 + 1), M32)))
def pModel_note_L11 (N : Nat) (k11 : Int32 × fm_M → Option fm_M) (s : Int32 × fm_M) : Option fm_M := pModel_note_L11b N k11 s.1 s.2
def pModel_note (N : Nat) (M : fm_M) : Option fm_M :=
  if (M.1 0 25) = 8 then fm_lp (pModel_note_L11 N) N (0, M) else pModel_note_J49 N M
def pModel_change (N : Nat) (M : fm_M) : Option fm_M :=
  (pModel_lay N M).bind (fun M1 => (pModel_note N M1).bind (fun M5 => some M5))
def pModel_refusesSet_J32 (M : fm_M) (v1 : Int32) (v2 : Int32) (v3 : Int32) (s0 : Int32) (s1 : Int32) : Option Int32 :=
  fm_ix 6 (fun j => ([40, 400, 9, 200, 1, 1] : List Int32).getD j 0) (1 + v2) (fun x38 => (pModel_in M s0 s1 x38).bind (fun x39 => if x39 = 0 then some (-1) else (pModel_of M v1 (1 + v2)).bind (fun x52 => if x52 = v3 then some (-2) else some 0)))
def pModel_refusesSet_J27 (M : fm_M) (v1 : Int32) (v2 : Int32) (v3 : Int32) (s0 : Int32) : Option Int32 :=
  pModel_refusesSet_J32 M v1 v2 v3 s0 1
def pModel_refusesSet (M : fm_M) (v1 : Int32) (v2 : Int32) (v3 : Int32) : Option Int32 :=
  (pModel_isMic M v1).bind (fun x2 => if x2 = 0 then some (-1) else (pModel_in M v2 0 4).bind (fun x11 => if x11 = 0 then some (-1) else if v2 = 0 then pModel_refusesSet_J27 M v1 v2 v3 v3 else if v2 = 2 then pModel_refusesSet_J27 M v1 v2 v3 v3 else pModel_refusesSet_J32 M v1 v2 v3 v3 0))
def pModel_sets (N : Nat) (M : fm_M) (v1 : Int32) (v2 : Int32) (v3 : Int32) : Option (Int32 × fm_M) :=
  fm_pt M 0 5 0 (fun M2 => (pModel_refusesSet M2 v1 v2 v3).bind (fun x9 => if 0 ≤ x9 then (pModel_change N M2).bind (fun M23 => (pModel_of M23 v1 (1 + v2)).bind (fun x31 => fm_st 101 M23 1 (((1 + (6 * v1)) + 1) + v2) v3 (fun M51 => some (x31, M51)))) else some (x9, M2)))
def pModel_refusesHold_J51 (M : fm_M) (v1 : Int32) (v2 : Int32) (s0 : Int32) (s1 : Int32) (s2 : Int32) : Option Int32 :=
  (pModel_in M s0 s1 s2).bind (fun x51 => if x51 = 0 then some (-1) else fm_ld 101 M 1 (37 + v1) (fun x67 => if x67 = v2 then some (-2) else some 0))
def pModel_refusesHold_J28 (M : fm_M) (v1 : Int32) (v2 : Int32) (s0 : Int32) (s1 : Int32) : Option Int32 :=
  if v1 = 0 then pModel_refusesHold_J51 M v1 v2 s0 s1 9999 else if v1 = 1 then pModel_refusesHold_J51 M v1 v2 s0 s1 200 else pModel_refusesHold_J51 M v1 v2 s0 s1 48
def pModel_refusesHold (M : fm_M) (v1 : Int32) (v2 : Int32) : Option Int32 :=
  (pModel_in M v1 0 2).bind (fun x3 => if x3 = 0 then some (-1) else if v1 = 0 then pModel_refusesHold_J28 M v1 v2 v2 1 else if v1 = 1 then pModel_refusesHold_J28 M v1 v2 v2 0 else pModel_refusesHold_J28 M v1 v2 v2 4)
def pModel_holds (N : Nat) (M : fm_M) (v1 : Int32) (v2 : Int32) : Option (Int32 × fm_M) :=
  fm_pt M 0 5 0 (fun M2 => (pModel_refusesHold M2 v1 v2).bind (fun x8 => if 0 ≤ x8 then (pModel_change N M2).bind (fun M19 => fm_ld 101 M19 1 (37 + v1) (fun x30 => fm_st 101 M19 1 (37 + v1) v2 (fun M42 => some (x30, M42)))) else some (x8, M2)))
def pModel_moves_J86 (N : Nat) (M : fm_M) (v1 : Int32) (v2 : Int32) (v3 : Int32) : Option (Int32 × fm_M) :=
  (pModel_change N M).bind (fun M87 => fm_st 101 M87 1 ((1 + (6 * v1)) + 0) v2 (fun M103 => some (v3, M103)))
def pModel_moves_J59 (N : Nat) (M : fm_M) (v1 : Int32) (v2 : Int32) (v3 : Int32) : Option (Int32 × fm_M) :=
  if (M.1 1 0) ≤ (v1 + 1) then pModel_moves_J86 N M v1 v2 v3 else (pModel_of M (v1 + 1) 0).bind (fun x77 => if v2 < x77 then pModel_moves_J86 N M v1 v2 v3 else some ((-3), M))
def pModel_moves (N : Nat) (M : fm_M) (v1 : Int32) (v2 : Int32) : Option (Int32 × fm_M) :=
  fm_pt M 0 5 0 (fun M2 => (pModel_isMic M2 v1).bind (fun x7 => if x7 = 0 then some ((-1), M2) else (pModel_in M2 v2 0 40).bind (fun x20 => if x20 = 0 then some ((-1), M2) else (pModel_of M2 v1 0).bind (fun x31 => if x31 = v2 then some ((-2), M2) else if v1 ≤ 0 then pModel_moves_J59 N M2 v1 v2 x31 else (pModel_of M2 (v1 - 1) 0).bind (fun x53 => if v2 ≤ x53 then some ((-3), M2) else pModel_moves_J59 N M2 v1 v2 x31)))))
def pModel_goLearn_J171 (N : Nat) (M : fm_M) (v1 : Int32) (v4 : Int32) (v5 : Int32) (k86 : Int32 × Int32 × fm_M → Option (Int32 × fm_M)) (s0 : Int32) (s1 : Int32) : Option (Int32 × fm_M) :=
  fm_st 101 M 1 ((1 + (6 * v4)) + 3) v5 (fun M188 => k86 ((s0 + s1), (v4 + 1), M188))
def pModel_goLearn_J151 (N : Nat) (M : fm_M) (v1 : Int32) (v3 : Int32) (v4 : Int32) (k86 : Int32 × Int32 × fm_M → Option (Int32 × fm_M)) (s0 : Int32) : Option (Int32 × fm_M) :=
  (pModel_of M v4 3).bind (fun x158 => if x158 = s0 then pModel_goLearn_J171 N M v1 v4 s0 k86 v3 0 else pModel_goLearn_J171 N M v1 v4 s0 k86 v3 1)
def pModel_goLearn_L86b (N : Nat) (v1 : Int32) (k86 : Int32 × Int32 × fm_M → Option (Int32 × fm_M)) (v3 : Int32) (v4 : Int32) (M : fm_M) : Option (Int32 × fm_M) :=
  if (M.1 1 0) ≤ v4 then some (v3, M) else (pModel_isQuiet N M v4).bind (fun x100 => if x100 = 0 then fm_ld 6 M 15 v4 (fun x115 => if x115 = 0 then pModel_goLearn_J151 N M v1 v3 v4 k86 200 else fm_ld 6 M 15 v4 (fun x143 => fm_nz x143 (pModel_goLearn_J151 N M v1 v3 v4 k86 (jmax 1 (jmin 200 ((100 * v1) / x143)))))) else k86 (v3, (v4 + 1), M))
def pModel_goLearn_L86 (N : Nat) (v1 : Int32) (k86 : Int32 × Int32 × fm_M → Option (Int32 × fm_M)) (s : Int32 × Int32 × fm_M) : Option (Int32 × fm_M) := pModel_goLearn_L86b N v1 k86 s.1 s.2.1 s.2.2
def pModel_goLearn_L10b (N : Nat) (k10 : Int32 × Int32 × Int32 × fm_M → Option (Int32 × fm_M)) (v1 : Int32) (v2 : Int32) (v3 : Int32) (M : fm_M) : Option (Int32 × fm_M) :=
  if (M.1 1 0) ≤ v3 then if v2 = 0 then some ((-2), M) else fm_lp (pModel_goLearn_L86 N v1) N (0, 0, M) else (pModel_layMic N M v3).bind (fun M22 => (pModel_levelOf N M22 10).bind (fun x35 => fm_st 6 M22 15 v3 x35 (fun M38 => fm_ld 6 M38 15 v3 (fun x45 => if v2 = 0 then (pModel_isQuiet N M38 v3).bind (fun x56 => if x56 = 0 then k10 ((jmax v1 x45), 1, (v3 + 1), M38) else k10 ((jmax v1 x45), 0, (v3 + 1), M38)) else k10 ((jmax v1 x45), 1, (v3 + 1), M38)))))
def pModel_goLearn_L10 (N : Nat) (k10 : Int32 × Int32 × Int32 × fm_M → Option (Int32 × fm_M)) (s : Int32 × Int32 × Int32 × fm_M) : Option (Int32 × fm_M) := pModel_goLearn_L10b N k10 s.1 s.2.1 s.2.2.1 s.2.2.2
def pModel_goLearn (N : Nat) (M : fm_M) : Option (Int32 × fm_M) :=
  (pModel_hear N M).bind (fun M1 => fm_lp (pModel_goLearn_L10 N) N (0, 0, 0, M1))
def pModel_learns (N : Nat) (M : fm_M) : Option (Int32 × fm_M) :=
  fm_pt M 0 5 0 (fun M2 => (pModel_lay N M2).bind (fun M6 => (pModel_goLearn N M6).bind (fun (x10, M10) => if 0 ≤ x10 then (pModel_note N M10).bind (fun M21 => some (x10, M21)) else some (x10, M10))))
def pModel_goSort_J66 (N : Nat) (M : fm_M) (v1 : Int32) (v3 : Int32) (v4 : Int32) (v5 : Int32) (k11 : Int32 × Int32 × Int32 × fm_M → Option (Int32 × fm_M)) (s0 : Int32) (s1 : Int32) : Option (Int32 × fm_M) :=
  fm_st 101 M 1 ((1 + (6 * v4)) + 5) v5 (fun M83 => k11 ((s0 + s1), (v3 + v5), (v4 + 1), M83))
def pModel_goSort_J46 (N : Nat) (M : fm_M) (v1 : Int32) (v2 : Int32) (v3 : Int32) (v4 : Int32) (k11 : Int32 × Int32 × Int32 × fm_M → Option (Int32 × fm_M)) (s0 : Int32) : Option (Int32 × fm_M) :=
  (pModel_of M v4 5).bind (fun x53 => if x53 = s0 then pModel_goSort_J66 N M v1 v3 v4 s0 k11 v2 0 else pModel_goSort_J66 N M v1 v3 v4 s0 k11 v2 1)
def pModel_goSort_J41 (N : Nat) (M : fm_M) (v1 : Int32) (v2 : Int32) (v3 : Int32) (v4 : Int32) (k11 : Int32 × Int32 × Int32 × fm_M → Option (Int32 × fm_M)) : Option (Int32 × fm_M) :=
  pModel_goSort_J46 N M v1 v2 v3 v4 k11 1
def pModel_goSort_L11b (N : Nat) (v1 : Int32) (k11 : Int32 × Int32 × Int32 × fm_M → Option (Int32 × fm_M)) (v2 : Int32) (v3 : Int32) (v4 : Int32) (M : fm_M) : Option (Int32 × fm_M) :=
  if (M.1 1 0) ≤ v4 then if v2 = 0 then some ((-2), M) else some (v3, M) else (pModel_isQuiet N M v4).bind (fun x25 => if x25 = 0 then (pModel_clippedOf N M v4).bind (fun x34 => if x34 < v1 then pModel_goSort_J46 N M v1 v2 v3 v4 k11 0 else pModel_goSort_J41 N M v1 v2 v3 v4 k11) else pModel_goSort_J41 N M v1 v2 v3 v4 k11)
def pModel_goSort_L11 (N : Nat) (v1 : Int32) (k11 : Int32 × Int32 × Int32 × fm_M → Option (Int32 × fm_M)) (s : Int32 × Int32 × Int32 × fm_M) : Option (Int32 × fm_M) := pModel_goSort_L11b N v1 k11 s.1 s.2.1 s.2.2.1 s.2.2.2
def pModel_goSort (N : Nat) (M : fm_M) (v1 : Int32) : Option (Int32 × fm_M) :=
  (pModel_hear N M).bind (fun M1 => fm_lp (pModel_goSort_L11 N v1) N (0, 0, 0, M1))
def pModel_sorts (N : Nat) (M : fm_M) (v1 : Int32) : Option (Int32 × fm_M) :=
  fm_pt M 0 5 0 (fun M2 => (pModel_in M2 v1 1 48).bind (fun x9 => if x9 = 0 then some ((-1), M2) else (pModel_lay N M2).bind (fun M18 => (pModel_goSort N M18 v1).bind (fun (x23, M23) => if 0 ≤ x23 then (pModel_note N M23).bind (fun M34 => some (x23, M34)) else some (x23, M23)))))
def pModel_goes_L87b (N : Nat) (k87 : Int32 × fm_M → Option (Int32 × fm_M)) (v2 : Int32) (M : fm_M) : Option (Int32 × fm_M) :=
  if 15 ≤ v2 then some ((M.1 1 40), M) else fm_st 101 M 1 ((41 + (15 * (M.1 1 40))) + v2) 0 (fun M113 => k87 ((v2 + 1), M113))
def pModel_goes_L87 (N : Nat) (k87 : Int32 × fm_M → Option (Int32 × fm_M)) (s : Int32 × fm_M) : Option (Int32 × fm_M) := pModel_goes_L87b N k87 s.1 s.2
def pModel_goes_L47b (N : Nat) (k47 : Int32 × fm_M → Option (Int32 × fm_M)) (v2 : Int32) (M : fm_M) : Option (Int32 × fm_M) :=
  if (41 + (15 * (M.1 1 40))) ≤ v2 then fm_lp (pModel_goes_L87 N) N (0, M) else fm_ld 101 M 1 (v2 + 15) (fun x77 => fm_st 101 M 1 v2 x77 (fun M78 => k47 ((v2 + 1), M78)))
def pModel_goes_L47 (N : Nat) (k47 : Int32 × fm_M → Option (Int32 × fm_M)) (s : Int32 × fm_M) : Option (Int32 × fm_M) := pModel_goes_L47b N k47 s.1 s.2
def pModel_goes (N : Nat) (M : fm_M) (v1 : Int32) : Option (Int32 × fm_M) :=
  fm_pt M 0 5 0 (fun M2 => (pModel_in M2 v1 0 ((M2.1 1 40) - 1)).bind (fun x16 => if x16 = 0 then some ((-1), M2) else (pModel_change N M2).bind (fun M25 => fm_pt M25 1 40 ((M25.1 1 40) - 1) (fun M38 => fm_lp (pModel_goes_L47 N) N ((41 + (15 * v1)), M38)))))
def pModel_refusesAim_J52 (M : fm_M) (v1 : Int32) (v2 : Int32) (v3 : Int32) : Option Int32 :=
  (pModel_ofSource M v1 v2).bind (fun x55 => if x55 = v3 then some (-2) else some 0)
def pModel_refusesAim (M : fm_M) (v1 : Int32) (v2 : Int32) (v3 : Int32) : Option Int32 :=
  (pModel_in M v1 0 ((M.1 1 40) - 1)).bind (fun x11 => if x11 = 0 then some (-1) else (pModel_in M v2 0 1).bind (fun x20 => if x20 = 0 then some (-1) else if v2 = 0 then (pModel_isSide M v3).bind (fun x31 => if x31 = 0 then some (-1) else pModel_refusesAim_J52 M v1 v2 v3) else (pModel_in M v3 1 9).bind (fun x44 => if x44 = 0 then some (-1) else pModel_refusesAim_J52 M v1 v2 v3)))
def pModel_aims (N : Nat) (M : fm_M) (v1 : Int32) (v2 : Int32) (v3 : Int32) : Option (Int32 × fm_M) :=
  fm_pt M 0 5 0 (fun M2 => (pModel_refusesAim M2 v1 v2 v3).bind (fun x9 => if 0 ≤ x9 then (pModel_change N M2).bind (fun M23 => (pModel_ofSource M23 v1 v2).bind (fun x29 => fm_st 101 M23 1 ((41 + (15 * v1)) + v2) v3 (fun M48 => if v2 = 0 then some ((8 + x29), M48) else some (x29, M48)))) else some (x9, M2)))
def pModel_readSide_J47 (M : fm_M) (v1 : Int32) : Option (Int32 × fm_M) :=
  fm_pt M 0 7 ((M.1 0 7) + 1) (fun M54 => (pModel_oneOf M54 48 9).bind (fun (x62, M62) => if v1 = 0 then some (x62, M62) else some ((-x62), M62)))
def pModel_readSide_J23 (M : fm_M) (s0 : Int32) : Option (Int32 × fm_M) :=
  if s0 = 0 then (pModel_here M).bind (fun x29 => if x29 = 43 then pModel_readSide_J47 M s0 else (pModel_fault M (M.1 0 7)).bind (fun M42 => some (0, M42))) else pModel_readSide_J47 M s0
def pModel_readSide (M : fm_M) : Option (Int32 × fm_M) :=
  (pModel_fine M).bind (fun x1 => if x1 = 0 then some (0, M) else (pModel_here M).bind (fun x10 => if x10 = 45 then pModel_readSide_J23 M 1 else pModel_readSide_J23 M 0))
def pModel_puts (M : fm_M) (v1 : Int32) (v2 : Int32) (v3 : Int32) : Option (Int32 × fm_M) :=
  (pModel_refusesSet M v1 v2 v3).bind (fun x4 => if 0 ≤ x4 then fm_st 101 M 1 (((1 + (6 * v1)) + 1) + v2) v3 (fun M27 => some (1, M27)) else some (0, M))
def pModel_actHolds (M : fm_M) (v1 : Int32) (v2 : Int32) : Option (Int32 × fm_M) :=
  (pModel_refusesHold M v1 v2).bind (fun x3 => if 0 ≤ x3 then fm_st 101 M 1 (37 + v1) v2 (fun M20 => some (1, M20)) else some (0, M))
def pModel_act (N : Nat) (M : fm_M) (v1 : Int32) : Option (Int32 × fm_M) :=
  fm_ld 320 M 4 (v1 + 1) (fun x7 => fm_ld 320 M 4 (v1 + 2) (fun x16 => fm_ld 320 M 4 v1 (fun x23 => if x23 = 97 then (pModel_refusesAim M x7 0 x16).bind (fun x182 => if 0 ≤ x182 then fm_st 101 M 1 (41 + (15 * x7)) x16 (fun M202 => some (1, M202)) else some (0, M)) else if x23 = 98 then (pModel_actHolds M 1 x7).bind (fun (x174, M174) => fm_bo x174 (some (x174, M174))) else if x23 = 99 then (pModel_actHolds M 0 x7).bind (fun (x167, M167) => fm_bo x167 (some (x167, M167))) else if x23 = 100 then (pModel_puts M x7 3 x16).bind (fun (x152, M152) => fm_bo x152 (some (x152, M152))) else if x23 = 103 then (pModel_puts M x7 0 x16).bind (fun (x136, M136) => fm_bo x136 (some (x136, M136))) else if x23 = 108 then (pModel_goLearn N M).bind (fun (x206, M206) => if x206 < 0 then some (0, M206) else some (1, M206)) else if x23 = 111 then (pModel_puts M x7 4 x16).bind (fun (x160, M160) => fm_bo x160 (some (x160, M160))) else if x23 = 119 then (pModel_puts M x7 1 x16).bind (fun (x144, M144) => fm_bo x144 (some (x144, M144))) else (pModel_in M x7 1 48).bind (fun x222 => if x222 = 0 then some (0, M) else (pModel_goSort N M x7).bind (fun (x230, M230) => if x230 < 0 then some (0, M230) else some (1, M230))))))
def pModel_undo_L26b (N : Nat) (k26 : Int32 × fm_M → Option (Int32 × fm_M)) (v1 : Int32) (M : fm_M) : Option (Int32 × fm_M) :=
  if 101 ≤ v1 then some ((M.1 0 25), M) else fm_ld 808 M 13 ((101 * (M.1 0 25)) + v1) (fun x50 => fm_st 101 M 1 v1 x50 (fun M51 => k26 ((v1 + 1), M51)))
def pModel_undo_L26 (N : Nat) (k26 : Int32 × fm_M → Option (Int32 × fm_M)) (s : Int32 × fm_M) : Option (Int32 × fm_M) := pModel_undo_L26b N k26 s.1 s.2
def pModel_undo (N : Nat) (M : fm_M) : Option (Int32 × fm_M) :=
  fm_pt M 0 5 0 (fun M2 => if (M2.1 0 25) = 0 then some ((-1), M2) else fm_pt M2 0 25 ((M2.1 0 25) - 1) (fun M21 => fm_lp (pModel_undo_L26 N) N (0, M21)))
def pModel_draw (M : fm_M) (v1 : Int32) : Option (Int32 × fm_M) :=
  fm_pt M 0 27 (((M.1 0 27) * 1103515245) + 12345) (fun M13 => fm_nz v1 (some ((jrem (jushr (M13.1 0 27) 16) v1), M13)))
def pModel_years_L204b (N : Nat) (v4 : Int32) (k204 : Int32 × fm_M → Option (Int32 × fm_M)) (v5 : Int32) (M : fm_M) : Option (Int32 × fm_M) :=
  if 101 ≤ v5 then some (v4, M) else fm_ld 101 M 16 v5 (fun x223 => fm_st 101 M 1 v5 x223 (fun M224 => k204 ((v5 + 1), M224)))
def pModel_years_L204 (N : Nat) (v4 : Int32) (k204 : Int32 × fm_M → Option (Int32 × fm_M)) (s : Int32 × fm_M) : Option (Int32 × fm_M) := pModel_years_L204b N v4 k204 s.1 s.2
def pModel_years_J198 (N : Nat) (M : fm_M) (v4 : Int32) (s1 : Int64) : Option (Int32 × fm_M) :=
  (pModel_tell M s1).bind (fun M198 => fm_lp (pModel_years_L204 N v4) N (0, M198))
def pModel_years_J137 (N : Nat) (M : fm_M) (v2 : Int32) (v4 : Int32) (v7 : Int32) (k53 : Int32 × Int32 × fm_M → Option (Int32 × fm_M)) (s0 : Int32) (s2 : Int32) (s3 : Int32) : Option (Int32 × fm_M) :=
  (pModel_puts M s2 s3 v7).bind (fun (x139, M139) => if x139 = 0 then k53 ((s0 + 0), (v4 + 1), M139) else k53 ((s0 + 1), (v4 + 1), M139))
def pModel_years_J111 (N : Nat) (M : fm_M) (v2 : Int32) (v3 : Int32) (v4 : Int32) (v5 : Int32) (v6 : Int32) (k53 : Int32 × Int32 × fm_M → Option (Int32 × fm_M)) (s0 : Int32) : Option (Int32 × fm_M) :=
  if v5 = 0 then pModel_years_J137 N M v2 v4 s0 k53 v3 v6 1 else if v5 = 1 then pModel_years_J137 N M v2 v4 s0 k53 v3 v6 4 else pModel_years_J137 N M v2 v4 s0 k53 v3 v6 0
def pModel_years_L53b (N : Nat) (v2 : Int32) (k53 : Int32 × Int32 × fm_M → Option (Int32 × fm_M)) (v3 : Int32) (v4 : Int32) (M : fm_M) : Option (Int32 × fm_M) :=
  if v2 ≤ v4 then (pModel_liveBits N M).bind (fun x159 => (pModel_hear N M).bind (fun M165 => (pModel_layBeam N M165 x159 0).bind (fun M172 => fm_pt M172 0 4 0 (fun M177 => if 0 ≤ v3 then (pModel_levelOf N M177 7).bind (fun x194 => pModel_years_J198 N M177 x159 x194.toInt64) else pModel_years_J198 N M177 x159 0)))) else (pModel_draw M 3).bind (fun (x61, M61) => (pModel_draw M61 6).bind (fun (x69, M69) => if x61 = 0 then (pModel_draw M69 10).bind (fun (x82, M82) => pModel_years_J111 N M82 v2 v3 v4 x61 x69 k53 x82) else if x61 = 1 then (pModel_draw M69 2).bind (fun (x96, M96) => pModel_years_J111 N M96 v2 v3 v4 x61 x69 k53 x96) else (pModel_draw M69 300).bind (fun (x106, M106) => pModel_years_J111 N M106 v2 v3 v4 x61 x69 k53 (x106 + 1))))
def pModel_years_L53 (N : Nat) (v2 : Int32) (k53 : Int32 × Int32 × fm_M → Option (Int32 × fm_M)) (s : Int32 × Int32 × fm_M) : Option (Int32 × fm_M) := pModel_years_L53b N v2 k53 s.1 s.2.1 s.2.2
def pModel_years_L24b (N : Nat) (v2 : Int32) (k24 : Int32 × fm_M → Option (Int32 × fm_M)) (v3 : Int32) (M : fm_M) : Option (Int32 × fm_M) :=
  if 101 ≤ v3 then fm_lp (pModel_years_L53 N v2) N (0, 0, M) else fm_ld 101 M 1 v3 (fun x40 => fm_st 101 M 16 v3 x40 (fun M41 => k24 ((v3 + 1), M41)))
def pModel_years_L24 (N : Nat) (v2 : Int32) (k24 : Int32 × fm_M → Option (Int32 × fm_M)) (s : Int32 × fm_M) : Option (Int32 × fm_M) := pModel_years_L24b N v2 k24 s.1 s.2
def pModel_years (N : Nat) (M : fm_M) (v1 : Int32) (v2 : Int32) : Option (Int32 × fm_M) :=
  fm_pt M 0 5 0 (fun M2 => (pModel_in M2 v2 1 30).bind (fun x9 => if x9 = 0 then some ((-1), M2) else fm_pt M2 0 27 v1 (fun M19 => fm_lp (pModel_years_L24 N v2) N (0, M19))))
def pModel_keep_L25b (N : Nat) (v1 : Int32) (k25 : Int32 × fm_M → Option (Int32 × fm_M)) (v2 : Int32) (M : fm_M) : Option (Int32 × fm_M) :=
  if 101 ≤ v2 then some (1, M) else fm_ld 101 M 1 v2 (fun x46 => fm_st 202 M 17 ((101 * v1) + v2) x46 (fun M47 => k25 ((v2 + 1), M47)))
def pModel_keep_L25 (N : Nat) (v1 : Int32) (k25 : Int32 × fm_M → Option (Int32 × fm_M)) (s : Int32 × fm_M) : Option (Int32 × fm_M) := pModel_keep_L25b N v1 k25 s.1 s.2
def pModel_keep (N : Nat) (M : fm_M) (v1 : Int32) : Option (Int32 × fm_M) :=
  fm_pt M 0 5 0 (fun M2 => (pModel_in M2 v1 0 1).bind (fun x8 => if x8 = 0 then some (0, M2) else fm_st 2 M2 18 v1 (vp_nar .boolean 1) (fun M22 => fm_lp (pModel_keep_L25 N v1) N (0, M22))))
def pModel_again_L27b (N : Nat) (v1 : Int32) (k27 : Int32 × fm_M → Option (Int32 × fm_M)) (v2 : Int32) (M : fm_M) : Option (Int32 × fm_M) :=
  if 101 ≤ v2 then fm_pt M 0 25 0 (fun M58 => some (1, M58)) else fm_ld 202 M 17 ((101 * v1) + v2) (fun x48 => fm_st 101 M 1 v2 x48 (fun M49 => k27 ((v2 + 1), M49)))
def pModel_again_L27 (N : Nat) (v1 : Int32) (k27 : Int32 × fm_M → Option (Int32 × fm_M)) (s : Int32 × fm_M) : Option (Int32 × fm_M) := pModel_again_L27b N v1 k27 s.1 s.2
def pModel_again (N : Nat) (M : fm_M) (v1 : Int32) : Option (Int32 × fm_M) :=
  fm_pt M 0 5 0 (fun M2 => (pModel_in M2 v1 0 1).bind (fun x8 => if x8 = 0 then some (0, M2) else fm_ld 2 M2 18 v1 (fun x19 => if x19 = 0 then some (0, M2) else fm_lp (pModel_again_L27 N v1) N (0, M2))))
def pModel_count (N : Nat) (M : fm_M) (v1 : Int32) : Option (Int32 × fm_M) :=
  fm_pt M 0 5 0 (fun M2 => if v1 = 0 then some ((M2.1 1 0), M2) else if v1 = 1 then some ((M2.1 1 40), M2) else if v1 = 2 then (pModel_liveBits N M2).bind (fun x72 => some (x72, M2)) else if v1 = 3 then fm_ld 101 M2 1 ((37 + v1) - 3) (fun x86 => some (x86, M2)) else if v1 = 4 then fm_ld 101 M2 1 ((37 + v1) - 3) (fun x86 => some (x86, M2)) else if v1 = 5 then fm_ld 101 M2 1 ((37 + v1) - 3) (fun x86 => some (x86, M2)) else if v1 = 6 then some ((M2.1 0 25), M2) else if v1 = 7 then some ((M2.1 0 4), M2) else if v1 = 8 then some ((M2.1 0 2), M2) else some ((-1), M2))
def pModel_row (M : fm_M) (v1 : Int32) : Option (Int64 × fm_M) :=
  fm_pt M 0 5 0 (fun M2 => (pModel_in M2 v1 0 ((M2.1 0 4) - 1)).bind (fun x13 => if x13 = 0 then (pModel_lost M2).bind (fun (x29, M29) => some (x29.toInt64, M29)) else fm_ldl 32 M2 3 v1 (fun x24 => some (x24, M2))))
def pInteger_compare (M : fm_M) (v0 : Int32) (v1 : Int32) : Option Int32 :=
  if v1 ≤ v0 then if v0 = v1 then some 0 else some 1 else some (-1)
def pInteger_bitCount (M : fm_M) (v0 : Int32) : Option Int32 :=
  some ((((((((v0 - ((jushr v0 1) &&& 1431655765)) &&& 858993459) + ((jushr (v0 - ((jushr v0 1) &&& 1431655765)) 2) &&& 858993459)) + (jushr (((v0 - ((jushr v0 1) &&& 1431655765)) &&& 858993459) + ((jushr (v0 - ((jushr v0 1) &&& 1431655765)) 2) &&& 858993459)) 4)) &&& 252645135) + (jushr (((((v0 - ((jushr v0 1) &&& 1431655765)) &&& 858993459) + ((jushr (v0 - ((jushr v0 1) &&& 1431655765)) 2) &&& 858993459)) + (jushr (((v0 - ((jushr v0 1) &&& 1431655765)) &&& 858993459) + ((jushr (v0 - ((jushr v0 1) &&& 1431655765)) 2) &&& 858993459)) 4)) &&& 252645135) 8)) + (jushr ((((((v0 - ((jushr v0 1) &&& 1431655765)) &&& 858993459) + ((jushr (v0 - ((jushr v0 1) &&& 1431655765)) 2) &&& 858993459)) + (jushr (((v0 - ((jushr v0 1) &&& 1431655765)) &&& 858993459) + ((jushr (v0 - ((jushr v0 1) &&& 1431655765)) 2) &&& 858993459)) 4)) &&& 252645135) + (jushr (((((v0 - ((jushr v0 1) &&& 1431655765)) &&& 858993459) + ((jushr (v0 - ((jushr v0 1) &&& 1431655765)) 2) &&& 858993459)) + (jushr (((v0 - ((jushr v0 1) &&& 1431655765)) &&& 858993459) + ((jushr (v0 - ((jushr v0 1) &&& 1431655765)) 2) &&& 858993459)) 4)) &&& 252645135) 8)) 16)) &&& 63)
def pMath_floorMod (M : fm_M) (v0 : Int32) (v1 : Int32) : Option Int32 :=
  fm_nz v1 (if 0 ≤ (v0 ^^^ v1) then some (jrem v0 v1) else if (jrem v0 v1) = 0 then some (jrem v0 v1) else some ((jrem v0 v1) + v1))
def pString_coder (M : fm_M) (v0 : Nat) : Option Int32 :=
  fm_rq (decide (v0 < 7)) (if (1 : Int32) = 0 then some 1 else some 0)
def pString_isLatin1 (M : fm_M) (v0 : Nat) : Option Int32 :=
  fm_rq (decide (v0 < 7)) (if (1 : Int32) = 0 then some 0 else if (0 : Int32) = 0 then some 1 else some 0)
def pLatin1_charAt (M : fm_M) (v0 : Nat) (v1 : Int32) : Option Int32 :=
  fm_rq (decide (v0 < 7)) ((pString_checkIndex M v1 (Int32.ofNat (fm_Sl.getD v0 0))).bind (fun x3 => fm_ix (fm_Sl.getD v0 0) (fun j => (fm_Sb.getD v0 []).getD j 0) v1 (fun x8 => some (((x8 &&& 255).toUInt32 % 65536).toInt32))))
def pLatin1_canEncode (M : fm_M) (v0 : Int32) : Option Int32 :=
  if v0 < 0 then some 0 else if 255 < v0 then some 0 else some 1
def pLatin1_indexOfChar_L7b (N : Nat) (M : fm_M) (v0 : Nat) (v3 : Int32) (v4 : Int32) (k7 : Int32 → Option Int32) (v5 : Int32) : Option Int32 :=
  if v3 ≤ v5 then some (-1) else fm_ix (fm_Sl.getD v0 0) (fun j => (fm_Sb.getD v0 []).getD j 0) v5 (fun x16 => if x16 = v4 then some v5 else k7 (v5 + 1))
def pLatin1_indexOfChar_L7 (N : Nat) (M : fm_M) (v0 : Nat) (v3 : Int32) (v4 : Int32) (k7 : Int32 → Option Int32) (s : Int32) : Option Int32 := pLatin1_indexOfChar_L7b N M v0 v3 v4 k7 s
def pLatin1_indexOfChar (N : Nat) (M : fm_M) (v0 : Nat) (v1 : Int32) (v2 : Int32) (v3 : Int32) : Option Int32 :=
  fm_rq (decide (v0 < 7)) (fm_lp (pLatin1_indexOfChar_L7 N M v0 v3 v1.toInt8.toInt32) N v2)
def pArrays_fill_L5b (N : Nat) (v0 : Nat) (v1 : Int32) (v3 : Int32) (k5 : Int32 × fm_M → Option fm_M) (v2 : Int32) (M : fm_M) : Option fm_M :=
  if v3 ≤ v2 then some M else fm_st (fm_n shC v0) M v0 v2 v1 (fun M13 => k5 ((v2 + 1), M13))
def pArrays_fill_L5 (N : Nat) (v0 : Nat) (v1 : Int32) (v3 : Int32) (k5 : Int32 × fm_M → Option fm_M) (s : Int32 × fm_M) : Option fm_M := pArrays_fill_L5b N v0 v1 v3 k5 s.1 s.2
def pArrays_fill (N : Nat) (M : fm_M) (v0 : Nat) (v1 : Int32) : Option fm_M :=
  fm_rq (fm_ia shC v0) (fm_lp (pArrays_fill_L5 N v0 v1 (Int32.ofNat (fm_n shC v0))) N (0, M))
def pBench_setLength (M : fm_M) (v1 : Int32) : Option fm_M :=
  (pMicRow_clamp M v1 1 48).bind (fun x5 => fm_pt M 181 10 x5 (fun M8 => some M8))
def pBench_turnedRow (M : fm_M) (v1 : Int32) : Option Nat :=
  (pMicRow_clamp M v1 0 5).bind (fun x7 => fm_ix 6 (fun j => 183 + j) x7 (fun q10 => some q10))
def pBench_mix_J74 (N : Nat) (M : fm_M) (v1 : Int32) (v2 : Int32) (v3 : Int32) (k7 : Int32 × fm_M → Option fm_M) (s1 : Int32) (s2 : Int32) : Option fm_M :=
  fm_st 48 M 190 s1 s2 (fun M74 => k7 ((v3 + 1), M74))
def pBench_mix_L21b (N : Nat) (M : fm_M) (v1 : Int32) (v2 : Int32) (v3 : Int32) (k7 : Int32 × fm_M → Option fm_M) (k21 : Int32 × Int32 → Option fm_M) (v4 : Int32) (v5 : Int32) : Option fm_M :=
  if 6 ≤ v5 then if v2 = 0 then pBench_mix_J74 N M v1 v2 v3 k7 v3 0 else fm_nz v2 (pBench_mix_J74 N M v1 v2 v3 k7 v3 (v4 / v2)) else if ((jshr v1 v5) &&& 1) = 0 then k21 (v4, (v5 + 1)) else fm_ix 6 (fun j => 183 + j) v5 (fun q45 => fm_ld 48 M q45 v3 (fun x47 => k21 ((v4 + x47), (v5 + 1))))
def pBench_mix_L21 (N : Nat) (M : fm_M) (v1 : Int32) (v2 : Int32) (v3 : Int32) (k7 : Int32 × fm_M → Option fm_M) (k21 : Int32 × Int32 → Option fm_M) (s : Int32 × Int32) : Option fm_M := pBench_mix_L21b N M v1 v2 v3 k7 k21 s.1 s.2
def pBench_mix_L7b (N : Nat) (v1 : Int32) (v2 : Int32) (k7 : Int32 × fm_M → Option fm_M) (v3 : Int32) (M : fm_M) : Option fm_M :=
  if (M.1 181 10) ≤ v3 then some M else fm_lp (pBench_mix_L21 N M v1 v2 v3 k7) N (0, 0)
def pBench_mix_L7 (N : Nat) (v1 : Int32) (v2 : Int32) (k7 : Int32 × fm_M → Option fm_M) (s : Int32 × fm_M) : Option fm_M := pBench_mix_L7b N v1 v2 k7 s.1 s.2
def pBench_mix (N : Nat) (M : fm_M) (v1 : Int32) : Option fm_M :=
  (pInteger_bitCount M v1).bind (fun x1 => fm_lp (pBench_mix_L7 N v1 x1) N (0, M))
def pBench_block_L9b (N : Nat) (v1 : Int32) (k9 : Int32 × Int32 × fm_M → Option fm_M) (v2 : Int32) (v3 : Int32) (M : fm_M) : Option fm_M :=
  if 6 ≤ v3 then some M else if ((jshr v1 v3) &&& 1) = 0 then k9 (v2, (v3 + 1), M) else if v2 = (-1) then k9 (v3, (v3 + 1), M) else fm_ix 6 (fun j => 183 + j) v2 (fun q37 => fm_ix 6 (fun j => 183 + j) v3 (fun q43 => fm_ix 5 (fun j => 192 + j) (M.1 181 9) (fun q52 => (pBench_blockBetween N M q37 q43 q52).bind (fun M53 => fm_pt M53 181 9 ((M53.1 181 9) + 1) (fun M63 => k9 (v3, (v3 + 1), M63))))))
def pBench_block_L9 (N : Nat) (v1 : Int32) (k9 : Int32 × Int32 × fm_M → Option fm_M) (s : Int32 × Int32 × fm_M) : Option fm_M := pBench_block_L9b N v1 k9 s.1 s.2.1 s.2.2
def pBench_block (N : Nat) (M : fm_M) (v1 : Int32) : Option fm_M :=
  fm_pt M 181 9 0 (fun M2 => fm_lp (pBench_block_L9 N v1) N ((-1), 0, M2))
def pBench_bestWeight_L30b (N : Nat) (M : fm_M) (v1 : Int32) (k30 : Int64 × Int32 × Int32 → Option Int32) (v3 : Int64) (v5 : Int32) (v6 : Int32) : Option Int32 :=
  if 33 ≤ v6 then some v5 else (pMicRow_bySize M v6).bind (fun x39 => (pBench_squares N M v1 x39 v3).bind (fun x49 => if 0 ≤ (lg_cmp x49 v3) then k30 (v3, v5, (v6 + 1)) else fm_nzl ((M.1 181 10).toInt64) (k30 (((x49 / (M.1 181 10).toInt64) * (M.1 181 10).toInt64), x39, (v6 + 1)))))
def pBench_bestWeight_L30 (N : Nat) (M : fm_M) (v1 : Int32) (k30 : Int64 × Int32 × Int32 → Option Int32) (s : Int64 × Int32 × Int32) : Option Int32 := pBench_bestWeight_L30b N M v1 k30 s.1 s.2.1 s.2.2
def pBench_bestWeight (N : Nat) (M : fm_M) (v1 : Int32) (v2 : Int32) : Option Int32 :=
  (pBench_squares N M v1 v2 1000000000000000).bind (fun x6 => fm_nzl ((M.1 181 10).toInt64) (fm_lp (pBench_bestWeight_L30 N M v1) N ((((x6 / (M.1 181 10).toInt64) + 1) * (M.1 181 10).toInt64), v2, 0)))
def pCompass_agreement (M : fm_M) (v1 : Int32) : Option Int32 :=
  (pMicRow_isDirection M v1).bind (fun x1 => if x1 = 0 then some 0 else fm_ld 17 M 219 (v1 + 8) (fun x15 => some x15))
def pCompass_direction_L4b (N : Nat) (M : fm_M) (k4 : Int32 × Int32 → Option Int32) (v1 : Int32) (v2 : Int32) : Option Int32 :=
  if 17 ≤ v2 then some v1 else (pMicRow_bySize M v2).bind (fun x12 => (pCompass_agreement M x12).bind (fun x15 => (pCompass_agreement M v1).bind (fun x20 => if x15 ≤ x20 then k4 (v1, (v2 + 1)) else (pMicRow_bySize M v2).bind (fun x27 => k4 (x27, (v2 + 1))))))
def pCompass_direction_L4 (N : Nat) (M : fm_M) (k4 : Int32 × Int32 → Option Int32) (s : Int32 × Int32) : Option Int32 := pCompass_direction_L4b N M k4 s.1 s.2
def pCompass_direction (N : Nat) (M : fm_M) : Option Int32 :=
  fm_lp (pCompass_direction_L4 N M) N (0, 1)
def pEars_waveAt_J61 (M : fm_M) (v0 : Nat) (v5 : Int32) (v6 : Int32) (s0 : Int32) : Option Int32 :=
  fm_ld (fm_n shC v0) M v0 1 (fun x65 => fm_ld (fm_n shC v0) M v0 (3 + v6) (fun x76 => fm_ld (fm_n shC v0) M v0 (3 + s0) (fun x85 => some (x65 * (((8 - v5) * x76) + (v5 * x85))))))
def pEars_waveAt (M : fm_M) (v0 : Nat) (v1 : Int32) (v2 : Int32) : Option Int32 :=
  fm_ld (fm_n shC v0) M v0 2 (fun x2 => (pMicRow_within M x2 1 12).bind (fun x8 => if x8 = 0 then some 0 else fm_ld (fm_n shC v0) M v0 0 (fun x23 => (pMath_floorMod M (jshr ((8 * v2) - (v1 * x23)) 3) x2).bind (fun x40 => if x2 ≤ (x40 + 1) then pEars_waveAt_J61 M v0 (((8 * v2) - (v1 * x23)) &&& 7) x40 0 else pEars_waveAt_J61 M v0 (((8 * v2) - (v1 * x23)) &&& 7) x40 (x40 + 1)))))
def pLetters_digit (M : fm_M) (v1 : Int32) : Option Int32 :=
  (pLetters_at M v1).bind (fun x2 => (pMicRow_within M x2 48 57).bind (fun x9 => if x9 = 0 then some (-1) else (pLetters_at M v1).bind (fun x17 => some (x17 - 48))))
def pLetters_number_L5b (N : Nat) (M : fm_M) (v1 : Int32) (v2 : Int32) (k5 : Int32 × Int32 → Option Int32) (v3 : Int32) (v4 : Int32) : Option Int32 :=
  if v2 ≤ v4 then some v3 else (pLetters_digit M (v1 + v4)).bind (fun x20 => k5 (((10 * v3) + x20), (v4 + 1)))
def pLetters_number_L5 (N : Nat) (M : fm_M) (v1 : Int32) (v2 : Int32) (k5 : Int32 × Int32 → Option Int32) (s : Int32 × Int32) : Option Int32 := pLetters_number_L5b N M v1 v2 k5 s.1 s.2
def pLetters_number (N : Nat) (M : fm_M) (v1 : Int32) (v2 : Int32) : Option Int32 :=
  fm_lp (pLetters_number_L5 N M v1 v2) N (0, 0)
def pLetters_signedDigit (M : fm_M) (v1 : Int32) : Option Int32 :=
  (pLetters_at M v1).bind (fun x2 => if x2 = 45 then (pLetters_digit M (v1 + 1)).bind (fun x14 => some (-x14)) else (pLetters_digit M (v1 + 1)).bind (fun x25 => some x25))
def pPast_push_J16 (N : Nat) (M : fm_M) : Option fm_M :=
  fm_ix 8 M.2.2 (M.1 59 1) (fun q24 => (pScene_copyFrom N M q24 15).bind (fun M26 => fm_pt M26 59 1 ((M26.1 59 1) + 1) (fun M36 => some M36)))
def pPast_push (N : Nat) (M : fm_M) : Option fm_M :=
  if (M.1 59 1) = 8 then (pPast_dropOldest N M).bind (fun M13 => pPast_push_J16 N M13) else pPast_push_J16 N M
def pPast_pop (N : Nat) (M : fm_M) : Option (Int32 × fm_M) :=
  if (M.1 59 1) = 0 then some ((-1), M) else fm_pt M 59 1 ((M.1 59 1) - 1) (fun M16 => fm_ix 8 M16.2.2 (M16.1 59 1) (fun q28 => (pScene_copyFrom N M16 1 q28).bind (fun M29 => some ((M29.1 59 1), M29))))
def pReader_readMics_L9b (N : Nat) (k9 : Int32 × Int32 × fm_M → Option (Int32 × fm_M)) (v2 : Int32) (v3 : Int32) (M : fm_M) : Option (Int32 × fm_M) :=
  if (M.1 173 1) ≤ v3 then if (M.1 173 1) = 0 then some (0, M) else some (((-1) - (M.1 173 1)), M) else (pLetters_digit M v3).bind (fun x25 => if 0 ≤ x25 then (pLetters_number N M v3 2).bind (fun x41 => (pLetters_digit M (v3 + 1)).bind (fun x53 => if x53 < 0 then some (((-2) - v3), M) else if 40 < x41 then some (((-2) - v3), M) else if v2 < x41 then (pScene_addMic N M x41).bind (fun (x83, M83) => if (v3 + 2) = (M83.1 173 1) then some ((M83.1 1 0), M83) else (pLetters_at M83 (v3 + 2)).bind (fun x115 => if x115 = 44 then if (M83.1 1 0) = 6 then some (((-3) - v3), M83) else k9 (x41, (v3 + 3), M83) else some (((-3) - v3), M83))) else some (((-2) - v3), M))) else some (((-1) - v3), M))
def pReader_readMics_L9 (N : Nat) (k9 : Int32 × Int32 × fm_M → Option (Int32 × fm_M)) (s : Int32 × Int32 × fm_M) : Option (Int32 × fm_M) := pReader_readMics_L9b N k9 s.1 s.2.1 s.2.2
def pReader_readMics (N : Nat) (M : fm_M) : Option (Int32 × fm_M) :=
  fm_pt M 1 0 0 (fun M2 => fm_lp (pReader_readMics_L9 N) N ((-1), 0, M2))
def pReader_readSource_J136 (N : Nat) (M : fm_M) (v1 : Nat) (v2 : Int32) (v3 : Int32) : Option (Int32 × fm_M) :=
  fm_st (fm_n shC v1) M v1 2 v3 (fun M139 => if 2 ≤ v3 then some (v3, M139) else some (((-1) - ((v2 + 3) + v3)), M139))
def pReader_readSource_L84b (N : Nat) (v1 : Nat) (v2 : Int32) (k84 : Int32 × fm_M → Option (Int32 × fm_M)) (v3 : Int32) (M : fm_M) : Option (Int32 × fm_M) :=
  if 12 ≤ v3 then pReader_readSource_J136 N M v1 v2 v3 else (pLetters_digit M ((v2 + 3) + v3)).bind (fun x99 => (pMicRow_within M x99 0 8).bind (fun x105 => if x105 = 0 then pReader_readSource_J136 N M v1 v2 v3 else (pLetters_digit M ((v2 + 3) + v3)).bind (fun x124 => fm_st (fm_n shC v1) M v1 (3 + v3) (x124 - 4) (fun M129 => k84 ((v3 + 1), M129)))))
def pReader_readSource_L84 (N : Nat) (v1 : Nat) (v2 : Int32) (k84 : Int32 × fm_M → Option (Int32 × fm_M)) (s : Int32 × fm_M) : Option (Int32 × fm_M) := pReader_readSource_L84b N v1 v2 k84 s.1 s.2
def pReader_readSource (N : Nat) (M : fm_M) (v1 : Nat) (v2 : Int32) : Option (Int32 × fm_M) :=
  (pLetters_isPlusOrMinus M v2).bind (fun x5 => if x5 = 0 then some (((-1) - v2), M) else (pLetters_digit M (v2 + 1)).bind (fun x22 => (pMicRow_within M x22 0 8).bind (fun x28 => if x28 = 0 then some (((-2) - v2), M) else (pLetters_digit M (v2 + 2)).bind (fun x46 => if 1 ≤ x46 then (pLetters_signedDigit M v2).bind (fun x65 => fm_st (fm_n shC v1) M v1 0 x65 (fun M68 => (pLetters_digit M68 (v2 + 2)).bind (fun x78 => fm_st (fm_n shC v1) M68 v1 1 x78 (fun M81 => fm_lp (pReader_readSource_L84 N v1 v2) N (0, M81))))) else some (((-3) - v2), M)))))
def pReader_fits (M : fm_M) (v1 : Int32) (v2 : Int32) : Option Int32 :=
  if v1 = 43 then (pLetters_isPlusOrMinus M v2).bind (fun x11 => fm_bo x11 (some x11)) else (pLetters_digit M v2).bind (fun x20 => (pMicRow_within M x20 0 (v1 - 48)).bind (fun x28 => fm_bo x28 (some x28)))
def pScene_ofMic (M : fm_M) (v1 : Int32) (v2 : Int32) : Option Int32 :=
  (pScene_hasMic M v1).bind (fun x2 => if x2 = 0 then some 0 else (pMicRow_within M v2 0 5).bind (fun x11 => if x11 = 0 then some 0 else fm_ix 6 (fun j => 3 + j) v2 (fun q22 => fm_ld 6 M q22 v1 (fun x24 => some x24))))
def pScene_ofSource (M : fm_M) (v1 : Int32) (v2 : Int32) : Option Int32 :=
  (pScene_hasSource M v1).bind (fun x2 => if x2 = 0 then some 0 else (pMicRow_within M v2 0 14).bind (fun x12 => if x12 = 0 then some 0 else fm_ix 4 (fun j => 10 + j) v1 (fun q23 => fm_ld 15 M q23 v2 (fun x25 => some x25))))
def pScene_liveCount (N : Nat) (M : fm_M) : Option Int32 :=
  (pScene_liveSet N M).bind (fun x1 => (pInteger_bitCount M x1).bind (fun x4 => some x4))
def pScene_put (M : fm_M) (v1 : Int32) (v2 : Int32) (v3 : Int32) : Option (Int32 × fm_M) :=
  (pScene_hasMic M v1).bind (fun x2 => if x2 = 0 then some ((-1), M) else (pMicRow_within M v2 1 5).bind (fun x11 => if x11 = 0 then some ((-1), M) else fm_ix 6 (fun j => ([0, 1, 0, 1, 0, 0] : List Int32).getD j 0) v2 (fun x22 => fm_ix 6 (fun j => ([40, 400, 9, 200, 1, 1] : List Int32).getD j 0) v2 (fun x27 => (pMicRow_within M v3 x22 x27).bind (fun x28 => if x28 = 0 then some ((-1), M) else fm_ix 6 (fun j => 3 + j) v2 (fun q41 => fm_ld 6 M q41 v1 (fun x43 => fm_ix 6 (fun j => 3 + j) v2 (fun q51 => fm_st 6 M q51 v1 v3 (fun M54 => if x43 = v3 then some ((-2), M54) else some (x43, M54))))))))))
def pScene_hold (M : fm_M) (v1 : Int32) (v2 : Int32) : Option (Int32 × fm_M) :=
  (pMicRow_within M v1 0 2).bind (fun x3 => if x3 = 0 then some ((-1), M) else fm_ix 3 (fun j => ([1, 0, 4] : List Int32).getD j 0) v1 (fun x14 => fm_ix 3 (fun j => ([9999, 200, 48] : List Int32).getD j 0) v1 (fun x19 => (pMicRow_within M v2 x14 x19).bind (fun x20 => if x20 = 0 then some ((-1), M) else fm_ld 3 M 14 v1 (fun x33 => fm_st 3 M 14 v1 v2 (fun M41 => if x33 = v2 then some ((-2), M41) else some (x33, M41)))))))
def pScene_move_J92 (M : fm_M) (v1 : Int32) (v2 : Int32) (v4 : Int32) (v5 : Int32) (s0 : Int32) : Option (Int32 × fm_M) :=
  if v5 = 0 then if s0 = 0 then fm_st 6 M 3 v1 v2 (fun M110 => some (v4, M110)) else some ((-3), M) else some ((-3), M)
def pScene_move_J91 (M : fm_M) (v1 : Int32) (v2 : Int32) (v4 : Int32) (v5 : Int32) : Option (Int32 × fm_M) :=
  pScene_move_J92 M v1 v2 v4 v5 0
def pScene_move_J66 (M : fm_M) (v1 : Int32) (v2 : Int32) (v4 : Int32) (s0 : Int32) : Option (Int32 × fm_M) :=
  if (M.1 1 0) ≤ (v1 + 1) then pScene_move_J91 M v1 v2 v4 s0 else fm_ld 6 M 3 (v1 + 1) (fun x83 => if v2 < x83 then pScene_move_J91 M v1 v2 v4 s0 else pScene_move_J92 M v1 v2 v4 s0 1)
def pScene_move_J65 (M : fm_M) (v1 : Int32) (v2 : Int32) (v4 : Int32) : Option (Int32 × fm_M) :=
  pScene_move_J66 M v1 v2 v4 0
def pScene_move (M : fm_M) (v1 : Int32) (v2 : Int32) : Option (Int32 × fm_M) :=
  (pScene_hasMic M v1).bind (fun x2 => if x2 = 0 then some ((-1), M) else (pMicRow_within M v2 0 40).bind (fun x19 => if x19 = 0 then some ((-1), M) else fm_ld 6 M 3 v1 (fun x36 => if x36 = v2 then some ((-2), M) else if v1 ≤ 0 then pScene_move_J65 M v1 v2 x36 else fm_ld 6 M 3 (v1 - 1) (fun x57 => if x57 < v2 then pScene_move_J65 M v1 v2 x36 else pScene_move_J66 M v1 v2 x36 1))))
def pScene_aim (M : fm_M) (v1 : Int32) (v2 : Int32) (v3 : Int32) : Option (Int32 × fm_M) :=
  (pScene_hasSource M v1).bind (fun x2 => if x2 = 0 then some ((-1), M) else (pMicRow_within M v2 0 1).bind (fun x11 => if x11 = 0 then some ((-1), M) else fm_ix 2 (fun j => ([(-8), 1] : List Int32).getD j 0) v2 (fun x22 => fm_ix 2 (fun j => ([8, 9] : List Int32).getD j 0) v2 (fun x27 => (pMicRow_within M v3 x22 x27).bind (fun x28 => if x28 = 0 then some ((-1), M) else fm_ix 4 (fun j => 10 + j) v1 (fun q41 => fm_ld 15 M q41 v2 (fun x43 => if x43 = v3 then some ((-2), M) else fm_ix 4 (fun j => 10 + j) v1 (fun q60 => fm_st 15 M q60 v2 v3 (fun M63 => if v2 = 0 then some ((x43 + 8), M63) else some (x43, M63))))))))))
def pMicRow_sheet_L41b (N : Nat) (v1 : Int32) (v2 : Int32) (v4 : Int32) (k41 : Int32 × Int32 × Int32 × fm_M → Option (Int32 × fm_M)) (v5 : Int32) (v6 : Int32) (v7 : Int32) (M : fm_M) : Option (Int32 × fm_M) :=
  if v2 ≤ v7 then some (v5, M) else (pScene_hasMic M v7).bind (fun x53 => if x53 = 0 then some (v5, M) else (pMicRow_narrowed M v1 v6).bind (fun x62 => (pMicRow_clamp M x62 1 400).bind (fun x75 => (pScene_put M v7 1 x75).bind (fun (x89, M89) => if x89 < 0 then k41 (v5, (v6 + v4), (v7 + 1), M89) else k41 ((v5 + 1), (v6 + v4), (v7 + 1), M89)))))
def pMicRow_sheet_L41 (N : Nat) (v1 : Int32) (v2 : Int32) (v4 : Int32) (k41 : Int32 × Int32 × Int32 × fm_M → Option (Int32 × fm_M)) (s : Int32 × Int32 × Int32 × fm_M) : Option (Int32 × fm_M) := pMicRow_sheet_L41b N v1 v2 v4 k41 s.1 s.2.1 s.2.2.1 s.2.2.2
def pMicRow_sheet (N : Nat) (M : fm_M) (v1 : Int32) (v2 : Int32) (v3 : Int32) (v4 : Int32) : Option (Int32 × fm_M) :=
  (pMicRow_within M v1 0 3).bind (fun x3 => if x3 = 0 then some ((-1), M) else if v2 ≤ 6 then if v1 = 3 then some ((-3), M) else if 0 ≤ v2 then fm_lp (pMicRow_sheet_L41 N v1 v2 v4) N (0, v3, 0, M) else some ((-2), M) else some ((-1), M))
def pMicRow_mic_J25 (M : fm_M) (v1 : Int32) (v2 : Int32) (s0 : Int32) : Option Int32 :=
  (pMicRow_demand M s0).bind (fun x25 => (pScene_ofMic M v1 v2).bind (fun x34 => some x34))
def pMicRow_mic_J24 (M : fm_M) (v1 : Int32) (v2 : Int32) : Option Int32 :=
  pMicRow_mic_J25 M v1 v2 0
def pMicRow_mic (M : fm_M) (v1 : Int32) (v2 : Int32) : Option Int32 :=
  (pScene_hasMic M v1).bind (fun x5 => if x5 = 0 then pMicRow_mic_J24 M v1 v2 else (pMicRow_within M v2 0 5).bind (fun x14 => if x14 = 0 then pMicRow_mic_J24 M v1 v2 else pMicRow_mic_J25 M v1 v2 1))
def pMicRow_source_J48 (M : fm_M) (v1 : Int32) (v2 : Int32) (s0 : Int32) : Option Int32 :=
  (pMicRow_demand M s0).bind (fun x48 => (pScene_ofSource M v1 v2).bind (fun x57 => some x57))
def pMicRow_source_J43 (M : fm_M) (v1 : Int32) (v2 : Int32) : Option Int32 :=
  pMicRow_source_J48 M v1 v2 1
def pMicRow_source_J20 (M : fm_M) (v1 : Int32) (v2 : Int32) (s0 : Int32) : Option Int32 :=
  (pMicRow_demand M s0).bind (fun x20 => if v2 < 3 then pMicRow_source_J43 M v1 v2 else (pScene_ofSource M v1 2).bind (fun x37 => if x37 ≤ (v2 - 3) then pMicRow_source_J48 M v1 v2 0 else pMicRow_source_J43 M v1 v2))
def pMicRow_source_J19 (M : fm_M) (v1 : Int32) (v2 : Int32) : Option Int32 :=
  pMicRow_source_J20 M v1 v2 0
def pMicRow_source (M : fm_M) (v1 : Int32) (v2 : Int32) : Option Int32 :=
  (pScene_hasSource M v1).bind (fun x5 => if x5 = 0 then pMicRow_source_J19 M v1 v2 else if v2 < 0 then pMicRow_source_J19 M v1 v2 else pMicRow_source_J20 M v1 v2 1)
def pMicRow_isTurnedTime (M : fm_M) (v0 : Int32) : Option Int32 :=
  (pMicRow_within M v0 (-200) 200).bind (fun x7 => fm_bo x7 (some x7))
def pMicRow_mixedPower (N : Nat) (M : fm_M) (v1 : Int32) : Option (Int64 × fm_M) :=
  (pBench_mix N M v1).bind (fun M5 => (pBench_powerOf N M5 190).bind (fun x19 => some (x19, M5)))
def pMicRow_undo (N : Nat) (M : fm_M) : Option (Int32 × fm_M) :=
  (pPast_pop N M).bind (fun (x8, M8) => some (x8, M8))
def pMicRow_drawnAct (M : fm_M) : Option fm_M :=
  (pDice_draw M 3).bind (fun (x5, M5) => (pDice_draw M5 6).bind (fun (x15, M15) => if x5 = 0 then (pDice_draw M15 10).bind (fun (x35, M35) => (pScene_put M35 x15 2 x35).bind (fun (x38, M38) => some M38)) else if x5 = 1 then (pDice_draw M15 2).bind (fun (x61, M61) => (pScene_put M61 x15 5 x61).bind (fun (x64, M64) => some M64)) else (pDice_draw M15 300).bind (fun (x84, M84) => (pScene_put M84 x15 1 (x84 + 1)).bind (fun (x89, M89) => some M89))))
def pMicRow_settleChange (N : Nat) (M : fm_M) (v1 : Int32) : Option (Int32 × fm_M) :=
  if 0 ≤ v1 then (pPast_push N M).bind (fun M26 => some (v1, M26)) else (pScene_copyFrom N M 1 15).bind (fun M12 => some (v1, M12))
def pMicRow_equalFor (N : Nat) (M : fm_M) (v1 : Int32) : Option Int32 :=
  (pBench_levelOf N M 189).bind (fun x11 => if x11 = 0 then some 200 else fm_nz x11 ((pMicRow_clamp M ((100 * v1) / x11) 1 200).bind (fun x41 => some x41)))
def pMicRow_keep (N : Nat) (M : fm_M) (v1 : Int32) : Option (Int32 × fm_M) :=
  (pMicRow_within M v1 0 1).bind (fun x3 => if x3 = 0 then some (0, M) else fm_ix 2 (fun j => 30 + 14 * j) v1 (fun q16 => (pScene_copyFrom N M q16 1).bind (fun M21 => fm_st 2 M21 58 v1 (vp_nar .boolean 1) (fun M30 => some (1, M30)))))
def pMicRow_again (N : Nat) (M : fm_M) (v1 : Int32) : Option (Int32 × fm_M) :=
  (pMicRow_within M v1 0 1).bind (fun x3 => if x3 = 0 then some (0, M) else fm_ld 2 M 58 v1 (fun x14 => if x14 = 0 then some (0, M) else fm_ix 2 (fun j => 30 + 14 * j) v1 (fun q29 => (pScene_copyFrom N M 1 q29).bind (fun M30 => (pPast_forget M30).bind (fun M37 => some (1, M37))))))
def pMicRow_signOf (M : fm_M) (v0 : Int32) : Option Int32 :=
  (pInteger_compare M v0 0).bind (fun x2 => some x2)
def pModel_mics_L148b (N : Nat) (v1 : Int32) (v3 : Int32) (k139 : Int32 × fm_M → Option (Int32 × fm_M)) (k148 : Int32 × fm_M → Option (Int32 × fm_M)) (v4 : Int32) (M : fm_M) : Option (Int32 × fm_M) :=
  if 6 ≤ v4 then if v3 < v1 then fm_ld 320 M 4 v3 (fun x201 => fm_st 101 M 1 ((1 + (6 * v3)) + 0) x201 (fun M202 => fm_st 101 M202 1 ((1 + (6 * v3)) + 1) 100 (fun M217 => fm_st 101 M217 1 ((1 + (6 * v3)) + 3) 100 (fun M232 => k139 ((v3 + 1), M232))))) else k139 ((v3 + 1), M) else fm_st 101 M 1 ((1 + (6 * v3)) + v4) 0 (fun M169 => k148 ((v4 + 1), M169))
def pModel_mics_L148 (N : Nat) (v1 : Int32) (v3 : Int32) (k139 : Int32 × fm_M → Option (Int32 × fm_M)) (k148 : Int32 × fm_M → Option (Int32 × fm_M)) (s : Int32 × fm_M) : Option (Int32 × fm_M) := pModel_mics_L148b N v1 v3 k139 k148 s.1 s.2
def pModel_mics_L139b (N : Nat) (v1 : Int32) (k139 : Int32 × fm_M → Option (Int32 × fm_M)) (v3 : Int32) (M : fm_M) : Option (Int32 × fm_M) :=
  if 6 ≤ v3 then some (v1, M) else fm_lp (pModel_mics_L148 N v1 v3 k139) N (0, M)
def pModel_mics_L139 (N : Nat) (v1 : Int32) (k139 : Int32 × fm_M → Option (Int32 × fm_M)) (s : Int32 × fm_M) : Option (Int32 × fm_M) := pModel_mics_L139b N v1 k139 s.1 s.2
def pModel_mics_J92 (N : Nat) (M : fm_M) (v1 : Int32) (v3 : Int32) (k24 : Int32 × Int32 × fm_M → Option (Int32 × fm_M)) : Option (Int32 × fm_M) :=
  fm_st 320 M 4 v1 v3 (fun M98 => (pModel_passes M98 44).bind (fun (x105, M105) => k24 ((v1 + 1), x105, M105)))
def pModel_mics_J82 (N : Nat) (M : fm_M) (v1 : Int32) (v3 : Int32) (k24 : Int32 × Int32 × fm_M → Option (Int32 × fm_M)) : Option (Int32 × fm_M) :=
  (pModel_fault M ((M.1 0 7) - 1)).bind (fun M89 => pModel_mics_J92 N M89 v1 v3 k24)
def pModel_mics_J44 (N : Nat) (M : fm_M) (v1 : Int32) (k24 : Int32 × Int32 × fm_M → Option (Int32 × fm_M)) : Option (Int32 × fm_M) :=
  (pModel_digits N M 2).bind (fun (x46, M46) => (pModel_fine M46).bind (fun x51 => if x51 = 0 then pModel_mics_J92 N M46 v1 x46 k24 else if 40 < x46 then pModel_mics_J82 N M46 v1 x46 k24 else if v1 ≤ 0 then pModel_mics_J92 N M46 v1 x46 k24 else fm_ld 320 M46 4 (v1 - 1) (fun x78 => if x78 < x46 then pModel_mics_J92 N M46 v1 x46 k24 else pModel_mics_J82 N M46 v1 x46 k24)))
def pModel_mics_L24b (N : Nat) (k24 : Int32 × Int32 × fm_M → Option (Int32 × fm_M)) (v1 : Int32) (v2 : Int32) (M : fm_M) : Option (Int32 × fm_M) :=
  if v2 = 0 then (pModel_wasRight M).bind (fun (x113, M113) => if x113 = 0 then some (((-1) - (M113.1 0 8)), M113) else (pModel_change N M113).bind (fun M127 => fm_pt M127 1 0 v1 (fun M136 => fm_lp (pModel_mics_L139 N v1) N (0, M136)))) else if v1 = 6 then (pModel_fault M ((M.1 0 7) - 1)).bind (fun M41 => pModel_mics_J44 N M41 v1 k24) else pModel_mics_J44 N M v1 k24
def pModel_mics_L24 (N : Nat) (k24 : Int32 × Int32 × fm_M → Option (Int32 × fm_M)) (s : Int32 × Int32 × fm_M) : Option (Int32 × fm_M) := pModel_mics_L24b N k24 s.1 s.2.1 s.2.2
def pModel_mics_J23 (N : Nat) (M : fm_M) (v1 : Int32) (s0 : Int32) : Option (Int32 × fm_M) :=
  fm_lp (pModel_mics_L24 N) N (v1, s0, M)
def pModel_mics (N : Nat) (M : fm_M) : Option (Int32 × fm_M) :=
  fm_pt M 0 5 0 (fun M2 => (pModel_begin M2).bind (fun M6 => if (M6.1 0 6) ≤ 0 then pModel_mics_J23 N M6 0 0 else pModel_mics_J23 N M6 0 1))
def pModel_readSource_J88 (N : Nat) (M : fm_M) (v1 : Int32) (v2 : Int32) : Option fm_M :=
  fm_st 320 M 4 (v1 + 2) v2 (fun M96 => some M96)
def pModel_readSource_J62 (N : Nat) (M : fm_M) (v1 : Int32) (v2 : Int32) (k30 : Int32 × fm_M → Option fm_M) : Option fm_M :=
  (pModel_oneOf M 48 9).bind (fun (x76, M76) => fm_st 320 M76 4 ((v1 + 3) + v2) (x76 - 4) (fun M81 => k30 ((v2 + 1), M81)))
def pModel_readSource_L30b (N : Nat) (v1 : Int32) (k30 : Int32 × fm_M → Option fm_M) (v2 : Int32) (M : fm_M) : Option fm_M :=
  (pModel_fine M).bind (fun x31 => if x31 = 0 then pModel_readSource_J88 N M v1 v2 else if v2 < 2 then pModel_readSource_J62 N M v1 v2 k30 else (pModel_here M).bind (fun x43 => (pModel_in M x43 48 56).bind (fun x50 => if x50 = 0 then pModel_readSource_J88 N M v1 v2 else if 12 ≤ v2 then pModel_readSource_J88 N M v1 v2 else pModel_readSource_J62 N M v1 v2 k30)))
def pModel_readSource_L30 (N : Nat) (v1 : Int32) (k30 : Int32 × fm_M → Option fm_M) (s : Int32 × fm_M) : Option fm_M := pModel_readSource_L30b N v1 k30 s.1 s.2
def pModel_readSource (N : Nat) (M : fm_M) (v1 : Int32) : Option fm_M :=
  (pModel_readSide M).bind (fun (x6, M6) => fm_st 320 M6 4 v1 x6 (fun M9 => (pModel_oneOf M9 49 9).bind (fun (x22, M22) => fm_st 320 M22 4 (v1 + 1) (x22 + 1) (fun M27 => fm_lp (pModel_readSource_L30 N v1) N (0, M27)))))
def pModel_sources_J154 (N : Nat) (M : fm_M) (v1 : Int32) (v3 : Int32) (k99 : Int32 × fm_M → Option (Int32 × fm_M)) (s1 : Int32) (s2 : Int32) : Option (Int32 × fm_M) :=
  fm_st 101 M 1 s1 s2 (fun M154 => k99 ((v3 + 1), M154))
def pModel_sources_J153 (N : Nat) (M : fm_M) (v1 : Int32) (v3 : Int32) (k99 : Int32 × fm_M → Option (Int32 × fm_M)) (s1 : Int32) : Option (Int32 × fm_M) :=
  pModel_sources_J154 N M v1 v3 k99 s1 0
def pModel_sources_L99b (N : Nat) (v1 : Int32) (k99 : Int32 × fm_M → Option (Int32 × fm_M)) (v3 : Int32) (M : fm_M) : Option (Int32 × fm_M) :=
  if 60 ≤ v3 then some (v1, M) else if (15 * v1) ≤ v3 then pModel_sources_J153 N M v1 v3 k99 (41 + v3) else fm_ld 320 M 4 (((v3 / 15) * 15) + 2) (fun x139 => if (3 + x139) ≤ (jrem v3 15) then pModel_sources_J153 N M v1 v3 k99 (41 + v3) else fm_ld 320 M 4 v3 (fun x149 => pModel_sources_J154 N M v1 v3 k99 (41 + v3) x149))
def pModel_sources_L99 (N : Nat) (v1 : Int32) (k99 : Int32 × fm_M → Option (Int32 × fm_M)) (s : Int32 × fm_M) : Option (Int32 × fm_M) := pModel_sources_L99b N v1 k99 s.1 s.2
def pModel_sources_J58 (N : Nat) (M : fm_M) (v1 : Int32) (k24 : Int32 × Int32 × fm_M → Option (Int32 × fm_M)) : Option (Int32 × fm_M) :=
  (pModel_passes M 59).bind (fun (x64, M64) => k24 ((v1 + 1), x64, M64))
def pModel_sources_J43 (N : Nat) (M : fm_M) (v1 : Int32) (k24 : Int32 × Int32 × fm_M → Option (Int32 × fm_M)) : Option (Int32 × fm_M) :=
  (pModel_fine M).bind (fun x44 => if x44 = 0 then pModel_sources_J58 N M v1 k24 else (pModel_readSource N M (15 * v1)).bind (fun M55 => pModel_sources_J58 N M55 v1 k24))
def pModel_sources_L24b (N : Nat) (k24 : Int32 × Int32 × fm_M → Option (Int32 × fm_M)) (v1 : Int32) (v2 : Int32) (M : fm_M) : Option (Int32 × fm_M) :=
  if v2 = 0 then (pModel_wasRight M).bind (fun (x72, M72) => if x72 = 0 then some (((-1) - (M72.1 0 8)), M72) else (pModel_change N M72).bind (fun M86 => fm_pt M86 1 40 v1 (fun M96 => fm_lp (pModel_sources_L99 N v1) N (0, M96)))) else if v1 = 4 then (pModel_fault M ((M.1 0 7) - 1)).bind (fun M40 => pModel_sources_J43 N M40 v1 k24) else pModel_sources_J43 N M v1 k24
def pModel_sources_L24 (N : Nat) (k24 : Int32 × Int32 × fm_M → Option (Int32 × fm_M)) (s : Int32 × Int32 × fm_M) : Option (Int32 × fm_M) := pModel_sources_L24b N k24 s.1 s.2.1 s.2.2
def pModel_sources_J23 (N : Nat) (M : fm_M) (v1 : Int32) (s0 : Int32) : Option (Int32 × fm_M) :=
  fm_lp (pModel_sources_L24 N) N (v1, s0, M)
def pModel_sources (N : Nat) (M : fm_M) : Option (Int32 × fm_M) :=
  fm_pt M 0 5 0 (fun M2 => (pModel_begin M2).bind (fun M6 => if (M6.1 0 6) ≤ 0 then pModel_sources_J23 N M6 0 0 else pModel_sources_J23 N M6 0 1))
def pString_length (M : fm_M) (v0 : Nat) : Option Int32 :=
  fm_rq (decide (v0 < 7)) ((pString_coder M v0).bind (fun x6 => some (jshr (Int32.ofNat (fm_Sl.getD v0 0)) x6)))
def pString_charAt (M : fm_M) (v0 : Nat) (v1 : Int32) : Option Int32 :=
  fm_rq (decide (v0 < 7)) ((pString_isLatin1 M v0).bind (fun x1 => if x1 = 0 then none else (pLatin1_charAt M v0 v1).bind (fun x12 => fm_co x12 (some x12))))
def pLatin1_indexOf (N : Nat) (M : fm_M) (v0 : Nat) (v1 : Int32) (v2 : Int32) (v3 : Int32) : Option Int32 :=
  fm_rq (decide (v0 < 7)) ((pLatin1_canEncode M v1).bind (fun x1 => if x1 = 0 then some (-1) else if (jmax v2 0) < (jmin v3 (Int32.ofNat (fm_Sl.getD v0 0))) then (pLatin1_indexOfChar N M v0 v1 (jmax v2 0) (jmin v3 (Int32.ofNat (fm_Sl.getD v0 0)))).bind (fun x33 => some x33) else some (-1)))
def pBench_learn_L33b (N : Nat) (v2 : Int32) (k20 : Int32 × Int32 × fm_M → Option fm_M) (k33 : Int32 × Int32 × fm_M → Option fm_M) (v1 : Int32) (v3 : Int32) (M : fm_M) : Option fm_M :=
  if (M.1 181 9) ≤ v3 then k20 (v1, (v2 + 1), M) else fm_ld 5 M 198 v3 (fun x46 => (pBench_addToTaken N M v3 (-x46)).bind (fun M54 => (pBench_bestWeight N M54 v3 x46).bind (fun x66 => fm_st 5 M54 198 v3 x66 (fun M69 => fm_ld 5 M69 198 v3 (fun x77 => (pBench_addToTaken N M69 v3 x77).bind (fun M78 => if v1 = 0 then fm_ld 5 M78 198 v3 (fun x90 => if x90 = x46 then k33 (0, (v3 + 1), M78) else k33 (1, (v3 + 1), M78)) else k33 (1, (v3 + 1), M78)))))))
def pBench_learn_L33 (N : Nat) (v2 : Int32) (k20 : Int32 × Int32 × fm_M → Option fm_M) (k33 : Int32 × Int32 × fm_M → Option fm_M) (s : Int32 × Int32 × fm_M) : Option fm_M := pBench_learn_L33b N v2 k20 k33 s.1 s.2.1 s.2.2
def pBench_learn_L20b (N : Nat) (k20 : Int32 × Int32 × fm_M → Option fm_M) (v1 : Int32) (v2 : Int32) (M : fm_M) : Option fm_M :=
  if 3 ≤ v2 then some M else if v1 = 0 then some M else fm_lp (pBench_learn_L33 N v2 k20) N (0, 0, M)
def pBench_learn_L20 (N : Nat) (k20 : Int32 × Int32 × fm_M → Option fm_M) (s : Int32 × Int32 × fm_M) : Option fm_M := pBench_learn_L20b N k20 s.1 s.2.1 s.2.2
def pBench_learn (N : Nat) (M : fm_M) : Option fm_M :=
  (pArrays_fill N M 198 0).bind (fun M5 => (pArrays_fill N M5 199 0).bind (fun M13 => fm_lp (pBench_learn_L20 N) N (1, 0, M13)))
def pBench_turnsOfSign_L4b (N : Nat) (M : fm_M) (k4 : Int32 × Int32 → Option Int32) (v1 : Int32) (v2 : Int32) : Option Int32 :=
  if (M.1 181 10) ≤ v2 then some v1 else fm_ld 48 M 189 (v2 - 1) (fun x19 => (pMicRow_signOf M x19).bind (fun x20 => fm_ld 48 M 189 v2 (fun x28 => (pMicRow_signOf M x28).bind (fun x29 => if x20 = x29 then k4 (v1, (v2 + 1)) else k4 ((v1 + 1), (v2 + 1))))))
def pBench_turnsOfSign_L4 (N : Nat) (M : fm_M) (k4 : Int32 × Int32 → Option Int32) (s : Int32 × Int32) : Option Int32 := pBench_turnsOfSign_L4b N M k4 s.1 s.2
def pBench_turnsOfSign (N : Nat) (M : fm_M) : Option Int32 :=
  fm_lp (pBench_turnsOfSign_L4 N M) N (0, 1)
def pBench_pairsAlike_J69 (N : Nat) (M : fm_M) (v1 : Int32) (v2 : Int32) (v3 : Int32) (v5 : Int32) (v6 : Int32) (v7 : Int32) (k11 : Int32 × Int32 × Int32 × Int32 → Option Int32) (s0 : Int32) (s1 : Int32) : Option Int32 :=
  if v7 = 0 then k11 (v3, (s0 + s1), (v5 + 1), (v6 + 1)) else k11 (v3, (s0 + s1), (v5 + 0), (v6 + 1))
def pBench_pairsAlike_J55 (N : Nat) (M : fm_M) (v1 : Int32) (v2 : Int32) (v4 : Int32) (v5 : Int32) (v6 : Int32) (v7 : Int32) (k11 : Int32 × Int32 × Int32 × Int32 → Option Int32) (s0 : Int32) (s1 : Int32) : Option Int32 :=
  if 0 ≤ v7 then pBench_pairsAlike_J69 N M v1 v2 (s0 + s1) v5 v6 v7 k11 v4 0 else pBench_pairsAlike_J69 N M v1 v2 (s0 + s1) v5 v6 v7 k11 v4 1
def pBench_pairsAlike_L11b (N : Nat) (M : fm_M) (v1 : Int32) (v2 : Int32) (k11 : Int32 × Int32 × Int32 × Int32 → Option Int32) (v3 : Int32) (v4 : Int32) (v5 : Int32) (v6 : Int32) : Option Int32 :=
  if 6 ≤ v6 then (pMicRow_pairsOf M v3).bind (fun x94 => (pMicRow_pairsOf M v4).bind (fun x99 => (pMicRow_pairsOf M v5).bind (fun x105 => some ((x94 + x99) + x105)))) else if ((jshr v1 v6) &&& 1) = 0 then k11 (v3, v4, v5, (v6 + 1)) else fm_ix 6 (fun j => 183 + j) v6 (fun q36 => fm_ld 48 M q36 v2 (fun x38 => (pMicRow_signOf M x38).bind (fun x39 => if x39 ≤ 0 then pBench_pairsAlike_J55 N M v1 v2 v4 v5 v6 x39 k11 v3 0 else pBench_pairsAlike_J55 N M v1 v2 v4 v5 v6 x39 k11 v3 1)))
def pBench_pairsAlike_L11 (N : Nat) (M : fm_M) (v1 : Int32) (v2 : Int32) (k11 : Int32 × Int32 × Int32 × Int32 → Option Int32) (s : Int32 × Int32 × Int32 × Int32) : Option Int32 := pBench_pairsAlike_L11b N M v1 v2 k11 s.1 s.2.1 s.2.2.1 s.2.2.2
def pBench_pairsAlike (N : Nat) (M : fm_M) (v1 : Int32) (v2 : Int32) : Option Int32 :=
  fm_lp (pBench_pairsAlike_L11 N M v1 v2) N (0, 0, 0, 0)
def pEars_reckon_L37b (N : Nat) (M : fm_M) (v1 : Int32) (v2 : Int32) (k37 : Int32 × Int32 → Option Int32) (v3 : Int32) (v4 : Int32) : Option Int32 :=
  if (M.1 1 1) ≤ v4 then fm_ld 6 M 4 v1 (fun x117 => (pMicRow_clamp M ((v3 * x117) / 100) (-(M.1 14 0)) (M.1 14 0)).bind (fun x127 => some x127)) else if ((jshr (M.1 178 3) v4) &&& 1) = 0 then k37 (v3, (v4 + 1)) else fm_ix 4 (fun j => 10 + j) v4 (fun q71 => fm_ld 6 M 3 v1 (fun x82 => (pEars_waveAt M q71 x82 v2).bind (fun x84 => k37 ((v3 + x84), (v4 + 1)))))
def pEars_reckon_L37 (N : Nat) (M : fm_M) (v1 : Int32) (v2 : Int32) (k37 : Int32 × Int32 → Option Int32) (s : Int32 × Int32) : Option Int32 := pEars_reckon_L37b N M v1 v2 k37 s.1 s.2
def pEars_reckon (N : Nat) (M : fm_M) (v1 : Int32) (v2 : Int32) : Option Int32 :=
  fm_ld 6 M 7 v1 (fun x10 => if x10 = 0 then fm_ld 6 M 5 v1 (fun x26 => (pEars_gust M v1 v2).bind (fun x29 => fm_lp (pEars_reckon_L37 N M v1 v2) N ((x26 * x29), 0))) else some 0)
def pReader_readSources_J113 (N : Nat) (M : fm_M) (v2 : Int32) : Option (Int32 × fm_M) :=
  if (M.1 173 1) = 0 then some (0, M) else some (((-1) - v2), M)
def pReader_readSources_L9b (N : Nat) (k9 : Int32 × Int32 × fm_M → Option (Int32 × fm_M)) (v2 : Int32) (v3 : Int32) (M : fm_M) : Option (Int32 × fm_M) :=
  if 4 ≤ v3 then pReader_readSources_J113 N M v2 else if (M.1 173 1) ≤ v2 then pReader_readSources_J113 N M v2 else fm_ix 4 (fun j => 10 + j) v3 (fun q31 => (pReader_readSource N M q31 v2).bind (fun (x33, M33) => if 0 ≤ x33 then fm_pt M33 1 1 ((M33.1 1 1) + 1) (fun M60 => if (v2 + (3 + x33)) = (M60.1 173 1) then some ((M60.1 1 1), M60) else (pLetters_at M60 (v2 + (3 + x33))).bind (fun x84 => if x84 = 59 then if (M60.1 1 1) = 4 then some (((-1) - (v2 + (3 + x33))), M60) else k9 (((v2 + (3 + x33)) + 1), (v3 + 1), M60) else some (((-1) - (v2 + (3 + x33))), M60))) else some (x33, M33)))
def pReader_readSources_L9 (N : Nat) (k9 : Int32 × Int32 × fm_M → Option (Int32 × fm_M)) (s : Int32 × Int32 × fm_M) : Option (Int32 × fm_M) := pReader_readSources_L9b N k9 s.1 s.2.1 s.2.2
def pReader_readSources (N : Nat) (M : fm_M) : Option (Int32 × fm_M) :=
  fm_pt M 1 1 0 (fun M2 => fm_lp (pReader_readSources_L9 N) N (0, 0, M2))
def pReader_isAct (M : fm_M) (v0 : Int32) : Option Int32 :=
  if v0 = 108 then some 1 else (pReader_shapeOf M v0).bind (fun x7 => (pString_length M x7).bind (fun x10 => if x10 ≤ 0 then some 0 else some 1))
def pMicRow_mics (N : Nat) (M : fm_M) : Option (Int32 × fm_M) :=
  (pScene_copyFrom N M 15 1).bind (fun M8 => (pReader_readMics N M8).bind (fun (x19, M19) => (pLetters_cutTo M19 0).bind (fun (x28, M28) => (pMicRow_settleChange N M28 x19).bind (fun (x34, M34) => some (x34, M34)))))
def pMicRow_sources (N : Nat) (M : fm_M) : Option (Int32 × fm_M) :=
  (pScene_copyFrom N M 15 1).bind (fun M8 => (pReader_readSources N M8).bind (fun (x19, M19) => (pLetters_cutTo M19 0).bind (fun (x28, M28) => (pMicRow_settleChange N M28 x19).bind (fun (x34, M34) => some (x34, M34)))))
def pMicRow_sets_J37 (N : Nat) (M : fm_M) (s1 : Int32) : Option (Int32 × fm_M) :=
  (pMicRow_settleChange N M s1).bind (fun (x37, M37) => some (x37, M37))
def pMicRow_sets (N : Nat) (M : fm_M) (v1 : Int32) (v2 : Int32) (v3 : Int32) : Option (Int32 × fm_M) :=
  (pScene_copyFrom N M 15 1).bind (fun M8 => (pMicRow_within M8 v2 0 4).bind (fun x15 => if x15 = 0 then pMicRow_sets_J37 N M8 (-1) else (pScene_put M8 v1 (v2 + 1) v3).bind (fun (x30, M30) => pMicRow_sets_J37 N M30 x30)))
def pMicRow_holds (N : Nat) (M : fm_M) (v1 : Int32) (v2 : Int32) : Option (Int32 × fm_M) :=
  (pScene_copyFrom N M 15 1).bind (fun M8 => (pScene_hold M8 v1 v2).bind (fun (x18, M18) => (pMicRow_settleChange N M18 x18).bind (fun (x21, M21) => some (x21, M21))))
def pMicRow_moves (N : Nat) (M : fm_M) (v1 : Int32) (v2 : Int32) : Option (Int32 × fm_M) :=
  (pScene_copyFrom N M 15 1).bind (fun M8 => (pScene_move M8 v1 v2).bind (fun (x18, M18) => (pMicRow_settleChange N M18 x18).bind (fun (x21, M21) => some (x21, M21))))
def pMicRow_aims (N : Nat) (M : fm_M) (v1 : Int32) (v2 : Int32) (v3 : Int32) : Option (Int32 × fm_M) :=
  (pScene_copyFrom N M 15 1).bind (fun M8 => (pScene_aim M8 v1 v2 v3).bind (fun (x19, M19) => (pMicRow_settleChange N M19 x19).bind (fun (x22, M22) => some (x22, M22))))
def pMicRow_goes (N : Nat) (M : fm_M) (v1 : Int32) : Option (Int32 × fm_M) :=
  (pScene_copyFrom N M 15 1).bind (fun M8 => (pScene_drop N M8 v1).bind (fun (x17, M17) => (pMicRow_settleChange N M17 x17).bind (fun (x20, M20) => some (x20, M20))))
def pString_indexOf2 (N : Nat) (M : fm_M) (v0 : Nat) (v1 : Int32) (v2 : Int32) : Option Int32 :=
  fm_rq (decide (v0 < 7)) ((pString_isLatin1 M v0).bind (fun x1 => if x1 = 0 then (pString_length M v0).bind (fun x30 => none) else (pString_length M v0).bind (fun x14 => (pLatin1_indexOf N M v0 v1 v2 x14).bind (fun x17 => some x17))))
def pEars_at_J73 (N : Nat) (M : fm_M) (v3 : Int32) : Option (Int32 × fm_M) :=
  fm_ld 3606 M 179 v3 (fun x78 => some (x78, M))
def pEars_at (N : Nat) (M : fm_M) (v1 : Int32) (v2 : Int32) : Option (Int32 × fm_M) :=
  (pScene_hasMic M v1).bind (fun x5 => if x5 = 0 then some (0, M) else (pMicRow_within M v2 (-300) 300).bind (fun x18 => if x18 = 0 then some (0, M) else fm_ld 3606 M 180 (((v1 * 601) + 300) + v2) (fun x43 => if x43 = (M.1 178 4) then pEars_at_J73 N M (((v1 * 601) + 300) + v2) else fm_st 3606 M 180 (((v1 * 601) + 300) + v2) (M.1 178 4) (fun M60 => (pEars_reckon N M60 v1 v2).bind (fun x69 => fm_st 3606 M60 179 (((v1 * 601) + 300) + v2) x69 (fun M72 => pEars_at_J73 N M72 (((v1 * 601) + 300) + v2)))))))
def pReader_faultInDay_L42b (N : Nat) (M : fm_M) (v3 : Nat) (k2 : Int32 → Option Int32) (k42 : Int32 × Int32 → Option Int32) (v1 : Int32) (v4 : Int32) : Option Int32 :=
  (pString_length M v3).bind (fun x45 => if x45 ≤ v4 then k2 v1 else (pString_charAt M v3 v4).bind (fun x55 => (pReader_fits M x55 v1).bind (fun x59 => if x59 = 0 then some v1 else k42 ((v1 + 1), (v4 + 1)))))
def pReader_faultInDay_L42 (N : Nat) (M : fm_M) (v3 : Nat) (k2 : Int32 → Option Int32) (k42 : Int32 × Int32 → Option Int32) (s : Int32 × Int32) : Option Int32 := pReader_faultInDay_L42b N M v3 k2 k42 s.1 s.2
def pReader_faultInDay_L2b (N : Nat) (M : fm_M) (k2 : Int32 → Option Int32) (v1 : Int32) : Option Int32 :=
  if (M.1 173 1) ≤ v1 then some (-1) else (pLetters_at M v1).bind (fun x18 => (pReader_isAct M x18).bind (fun x23 => if x23 = 0 then some v1 else (pReader_shapeOf M x18).bind (fun x32 => fm_lp (pReader_faultInDay_L42 N M x32 k2) N ((v1 + 1), 0))))
def pReader_faultInDay_L2 (N : Nat) (M : fm_M) (k2 : Int32 → Option Int32) (s : Int32) : Option Int32 := pReader_faultInDay_L2b N M k2 s
def pReader_faultInDay (N : Nat) (M : fm_M) : Option Int32 :=
  fm_lp (pReader_faultInDay_L2 N M) N 0
def pMicRow_sample_J29 (N : Nat) (M : fm_M) (v1 : Int32) (v2 : Int32) (s0 : Int32) : Option (Int32 × fm_M) :=
  (pMicRow_demand M s0).bind (fun x29 => (pEars_listenTo M (-1)).bind (fun M37 => (pEars_at N M37 v1 v2).bind (fun (x46, M46) => some (x46, M46))))
def pMicRow_sample_J28 (N : Nat) (M : fm_M) (v1 : Int32) (v2 : Int32) : Option (Int32 × fm_M) :=
  pMicRow_sample_J29 N M v1 v2 0
def pMicRow_sample (N : Nat) (M : fm_M) (v1 : Int32) (v2 : Int32) : Option (Int32 × fm_M) :=
  (pScene_hasMic M v1).bind (fun x5 => if x5 = 0 then pMicRow_sample_J28 N M v1 v2 else (pMicRow_within M v2 (-300) 300).bind (fun x18 => if x18 = 0 then pMicRow_sample_J28 N M v1 v2 else pMicRow_sample_J29 N M v1 v2 1))
def pMicRow_alikeWhenShifted_L6b (N : Nat) (v1 : Int32) (v2 : Int32) (v3 : Int32) (k6 : Int32 × Int32 × fm_M → Option (Int32 × fm_M)) (v4 : Int32) (v5 : Int32) (M : fm_M) : Option (Int32 × fm_M) :=
  (pScene_length M).bind (fun x12 => if x12 ≤ v5 then some (v4, M) else (pScene_begin M).bind (fun x22 => (pEars_at N M v1 ((x22 + v5) + v3)).bind (fun (x39, M39) => (pMicRow_signOf M39 x39).bind (fun x42 => (pEars_at N M39 v2 (x22 + v5)).bind (fun (x52, M52) => (pMicRow_signOf M52 x52).bind (fun x55 => if x42 = x55 then k6 ((v4 + 1), (v5 + 1), M52) else k6 (v4, (v5 + 1), M52)))))))
def pMicRow_alikeWhenShifted_L6 (N : Nat) (v1 : Int32) (v2 : Int32) (v3 : Int32) (k6 : Int32 × Int32 × fm_M → Option (Int32 × fm_M)) (s : Int32 × Int32 × fm_M) : Option (Int32 × fm_M) := pMicRow_alikeWhenShifted_L6b N v1 v2 v3 k6 s.1 s.2.1 s.2.2
def pMicRow_alikeWhenShifted (N : Nat) (M : fm_M) (v1 : Int32) (v2 : Int32) (v3 : Int32) : Option (Int32 × fm_M) :=
  fm_lp (pMicRow_alikeWhenShifted_L6 N v1 v2 v3) N (0, 0, M)
def pString_indexOf (N : Nat) (M : fm_M) (v0 : Nat) (v1 : Int32) : Option Int32 :=
  fm_rq (decide (v0 < 7)) ((pString_indexOf2 N M v0 v1 0).bind (fun x3 => some x3))
def pBench_hear_L8b (N : Nat) (v1 : Int32) (v2 : Int32) (k8 : Int32 × fm_M → Option fm_M) (v4 : Int32) (M : fm_M) : Option fm_M :=
  if (M.1 181 10) ≤ v4 then some M else (pEars_at N M v1 (v2 + v4)).bind (fun (x32, M32) => fm_st 48 M32 189 v4 x32 (fun M35 => k8 ((v4 + 1), M35)))
def pBench_hear_L8 (N : Nat) (v1 : Int32) (v2 : Int32) (k8 : Int32 × fm_M → Option fm_M) (s : Int32 × fm_M) : Option fm_M := pBench_hear_L8b N v1 v2 k8 s.1 s.2
def pBench_hear (N : Nat) (M : fm_M) (v1 : Int32) (v2 : Int32) (v3 : Int32) : Option fm_M :=
  (pBench_setLength M v3).bind (fun M2 => fm_lp (pBench_hear_L8 N v1 v2) N (0, M2))
def pBench_turnTo_L67b (N : Nat) (v1 : Int32) (v2 : Int32) (v4 : Int32) (v6 : Int32) (v7 : Int32) (k8 : Int32 × fm_M → Option fm_M) (k67 : Int32 × Int32 × fm_M → Option fm_M) (v8 : Int32) (v9 : Int32) (M : fm_M) : Option fm_M :=
  if (M.1 181 10) ≤ v9 then k8 ((v4 + 1), M) else (pEars_at N M v4 ((v6 + v9) + 1)).bind (fun (x93, M93) => fm_ix 6 (fun j => 183 + j) v4 (fun q104 => fm_ld 6 M93 6 v4 (fun x135 => fm_st 48 M93 q104 v9 ((((((8 - v7) * v8) + (v7 * x93)) / 8) * x135) / 100) (fun M140 => k67 (x93, (v9 + 1), M140)))))
def pBench_turnTo_L67 (N : Nat) (v1 : Int32) (v2 : Int32) (v4 : Int32) (v6 : Int32) (v7 : Int32) (k8 : Int32 × fm_M → Option fm_M) (k67 : Int32 × Int32 × fm_M → Option fm_M) (s : Int32 × Int32 × fm_M) : Option fm_M := pBench_turnTo_L67b N v1 v2 v4 v6 v7 k8 k67 s.1 s.2.1 s.2.2
def pBench_turnTo_L8b (N : Nat) (v1 : Int32) (v2 : Int32) (k8 : Int32 × fm_M → Option fm_M) (v4 : Int32) (M : fm_M) : Option fm_M :=
  if (M.1 1 0) ≤ v4 then some M else fm_ld 6 M 3 v4 (fun x31 => (pEars_at N M v4 (v2 + (jshr (x31 * v1) 3))).bind (fun (x59, M59) => fm_lp (pBench_turnTo_L67 N v1 v2 v4 (v2 + (jshr (x31 * v1) 3)) ((x31 * v1) &&& 7) k8) N (x59, 0, M59)))
def pBench_turnTo_L8 (N : Nat) (v1 : Int32) (v2 : Int32) (k8 : Int32 × fm_M → Option fm_M) (s : Int32 × fm_M) : Option fm_M := pBench_turnTo_L8b N v1 v2 k8 s.1 s.2
def pBench_turnTo (N : Nat) (M : fm_M) (v1 : Int32) (v2 : Int32) (v3 : Int32) : Option fm_M :=
  (pBench_setLength M v3).bind (fun M2 => fm_lp (pBench_turnTo_L8 N v1 v2) N (0, M2))
def pCompass_measure_L33b (N : Nat) (v1 : Int32) (v2 : Int32) (v3 : Int32) (v4 : Int32) (k12 : Int32 × fm_M → Option fm_M) (k33 : Int32 × fm_M → Option fm_M) (v5 : Int32) (M : fm_M) : Option fm_M :=
  if v2 ≤ v5 then k12 ((v4 + 1), M) else fm_ix 17 (fun j => 202 + j) (v4 + 8) (fun q48 => (pBench_pairsAlike N M v3 v5).bind (fun x58 => fm_st 48 M q48 v5 x58 (fun M61 => k33 ((v5 + 1), M61))))
def pCompass_measure_L33 (N : Nat) (v1 : Int32) (v2 : Int32) (v3 : Int32) (v4 : Int32) (k12 : Int32 × fm_M → Option fm_M) (k33 : Int32 × fm_M → Option fm_M) (s : Int32 × fm_M) : Option fm_M := pCompass_measure_L33b N v1 v2 v3 v4 k12 k33 s.1 s.2
def pCompass_measure_L12b (N : Nat) (v1 : Int32) (v2 : Int32) (v3 : Int32) (k12 : Int32 × fm_M → Option fm_M) (v4 : Int32) (M : fm_M) : Option fm_M :=
  if 8 < v4 then some M else (pBench_turnTo N M v4 v1 v2).bind (fun M27 => fm_lp (pCompass_measure_L33 N v1 v2 v3 v4 k12) N (0, M27))
def pCompass_measure_L12 (N : Nat) (v1 : Int32) (v2 : Int32) (v3 : Int32) (k12 : Int32 × fm_M → Option fm_M) (s : Int32 × fm_M) : Option fm_M := pCompass_measure_L12b N v1 v2 v3 k12 s.1 s.2
def pCompass_measure (N : Nat) (M : fm_M) (v1 : Int32) (v2 : Int32) (v3 : Int32) : Option fm_M :=
  (pArrays_fill N M 219 0).bind (fun M5 => fm_lp (pCompass_measure_L12 N v1 v2 v3) N ((-8), M5))
def pMicRow_turned_J30 (N : Nat) (M : fm_M) (v1 : Int32) (v2 : Int32) (v3 : Int32) (s0 : Int32) : Option (Int32 × fm_M) :=
  (pMicRow_demand M s0).bind (fun x30 => (pEars_listenTo M (-1)).bind (fun M38 => (pBench_turnTo N M38 v2 v3 1).bind (fun M48 => (pBench_turnedRow M48 v1).bind (fun x56 => fm_ld (fm_n shC x56) M48 x56 0 (fun x60 => some (x60, M48))))))
def pMicRow_turned_J29 (N : Nat) (M : fm_M) (v1 : Int32) (v2 : Int32) (v3 : Int32) : Option (Int32 × fm_M) :=
  pMicRow_turned_J30 N M v1 v2 v3 0
def pMicRow_turned (N : Nat) (M : fm_M) (v1 : Int32) (v2 : Int32) (v3 : Int32) : Option (Int32 × fm_M) :=
  (pScene_hasMic M v1).bind (fun x5 => if x5 = 0 then pMicRow_turned_J29 N M v1 v2 v3 else (pMicRow_isDirection M v2).bind (fun x12 => if x12 = 0 then pMicRow_turned_J29 N M v1 v2 v3 else (pMicRow_isTurnedTime M v3).bind (fun x19 => if x19 = 0 then pMicRow_turned_J29 N M v1 v2 v3 else pMicRow_turned_J30 N M v1 v2 v3 1)))
def pMicRow_beam_J19 (N : Nat) (M : fm_M) (v1 : Int32) (v2 : Int32) (s0 : Int32) : Option (Int32 × fm_M) :=
  (pMicRow_demand M s0).bind (fun x19 => (pEars_listenTo M (-1)).bind (fun M27 => (pBench_turnTo N M27 v1 v2 1).bind (fun M37 => (pScene_liveSet N M37).bind (fun x48 => (pBench_mix N M37 x48).bind (fun M51 => some ((M51.1 190 0), M51))))))
def pMicRow_beam_J18 (N : Nat) (M : fm_M) (v1 : Int32) (v2 : Int32) : Option (Int32 × fm_M) :=
  pMicRow_beam_J19 N M v1 v2 0
def pMicRow_beam (N : Nat) (M : fm_M) (v1 : Int32) (v2 : Int32) : Option (Int32 × fm_M) :=
  (pMicRow_isDirection M v1).bind (fun x1 => if x1 = 0 then pMicRow_beam_J18 N M v1 v2 else (pMicRow_isTurnedTime M v2).bind (fun x8 => if x8 = 0 then pMicRow_beam_J18 N M v1 v2 else pMicRow_beam_J19 N M v1 v2 1))
def pMicRow_blocked_J74 (N : Nat) (M : fm_M) (v2 : Int32) (s0 : Int32) : Option (Int32 × fm_M) :=
  (pMicRow_demand M s0).bind (fun x74 => fm_ix 5 (fun j => 192 + j) v2 (fun q85 => some ((M.1 q85 0), M)))
def pMicRow_blocked_J73 (N : Nat) (M : fm_M) (v2 : Int32) : Option (Int32 × fm_M) :=
  pMicRow_blocked_J74 N M v2 0
def pMicRow_blocked_J19 (N : Nat) (M : fm_M) (v1 : Int32) (v2 : Int32) (v3 : Int32) (s0 : Int32) : Option (Int32 × fm_M) :=
  (pMicRow_demand M s0).bind (fun x19 => (pEars_listenTo M (-1)).bind (fun M27 => (pBench_turnTo N M27 v1 v3 1).bind (fun M37 => (pScene_liveSet N M37).bind (fun x48 => (pBench_block N M37 x48).bind (fun M51 => if v2 < 0 then pMicRow_blocked_J73 N M51 v2 else if (M51.1 181 9) ≤ v2 then pMicRow_blocked_J73 N M51 v2 else pMicRow_blocked_J74 N M51 v2 1)))))
def pMicRow_blocked_J18 (N : Nat) (M : fm_M) (v1 : Int32) (v2 : Int32) (v3 : Int32) : Option (Int32 × fm_M) :=
  pMicRow_blocked_J19 N M v1 v2 v3 0
def pMicRow_blocked (N : Nat) (M : fm_M) (v1 : Int32) (v2 : Int32) (v3 : Int32) : Option (Int32 × fm_M) :=
  (pMicRow_isDirection M v1).bind (fun x1 => if x1 = 0 then pMicRow_blocked_J18 N M v1 v2 v3 else (pMicRow_isTurnedTime M v3).bind (fun x8 => if x8 = 0 then pMicRow_blocked_J18 N M v1 v2 v3 else pMicRow_blocked_J19 N M v1 v2 v3 1))
def pMicRow_level_L47b (N : Nat) (M : fm_M) (k47 : Int32 × Int32 → Option (Int32 × fm_M)) (v2 : Int32) (v3 : Int32) : Option (Int32 × fm_M) :=
  (pScene_length M).bind (fun x52 => if x52 ≤ v3 then (pTold_clear M).bind (fun M97 => (pBench_powerOf N M97 189).bind (fun x115 => (pTold_add M97 x115).bind (fun M118 => fm_ld 48 M118 189 v2 (fun x133 => (pTold_add M118 ((jabs x133).toInt64)).bind (fun M138 => (pScene_begin M138).bind (fun x149 => (pTold_add M138 ((x149 + v2).toInt64)).bind (fun M155 => (pBench_levelOf N M155 189).bind (fun x169 => some (x169, M155))))))))) else fm_ld 48 M 189 v3 (fun x66 => fm_ld 48 M 189 v2 (fun x78 => if (jabs x66) ≤ (jabs x78) then k47 (v2, (v3 + 1)) else k47 (v3, (v3 + 1)))))
def pMicRow_level_L47 (N : Nat) (M : fm_M) (k47 : Int32 × Int32 → Option (Int32 × fm_M)) (s : Int32 × Int32) : Option (Int32 × fm_M) := pMicRow_level_L47b N M k47 s.1 s.2
def pMicRow_level (N : Nat) (M : fm_M) (v1 : Int32) : Option (Int32 × fm_M) :=
  (pScene_hasMic M v1).bind (fun x5 => if x5 = 0 then some ((-1), M) else (pEars_listenTo M (-1)).bind (fun M18 => (pScene_begin M18).bind (fun x30 => (pScene_length M18).bind (fun x37 => (pBench_hear N M18 v1 x30 x37).bind (fun M40 => fm_lp (pMicRow_level_L47 N M40) N (0, 1))))))
def pMicRow_heardPower (N : Nat) (M : fm_M) (v1 : Int32) (v2 : Int32) : Option (Int64 × fm_M) :=
  (pEars_listenTo M v2).bind (fun M5 => (pScene_begin M5).bind (fun x17 => (pScene_length M5).bind (fun x24 => (pBench_hear N M5 v1 x17 x24).bind (fun M27 => (pBench_powerOf N M27 189).bind (fun x41 => some (x41, M27))))))
def pMicRow_faults_J106 (N : Nat) (M : fm_M) (v1 : Int32) (v2 : Int32) (v4 : Int32) (v5 : Int32) (k30 : Int32 × Int32 × Int32 × Int32 × fm_M → Option (Int32 × fm_M)) (s0 : Int32) (s1 : Int32) : Option (Int32 × fm_M) :=
  (pBench_turnsOfSign N M).bind (fun x114 => if x114 < v1 then k30 (v2, (s0 ||| s1), (v4 ||| 0), (v5 + 1), M) else k30 (v2, (s0 ||| s1), (v4 ||| (jshl 1 v5)), (v5 + 1), M))
def pMicRow_faults_J84 (N : Nat) (M : fm_M) (v1 : Int32) (v3 : Int32) (v4 : Int32) (v5 : Int32) (k30 : Int32 × Int32 × Int32 × Int32 × fm_M → Option (Int32 × fm_M)) (s0 : Int32) (s1 : Int32) : Option (Int32 × fm_M) :=
  (pBench_clips N M).bind (fun x91 => if x91 < v1 then pMicRow_faults_J106 N M v1 (s0 ||| s1) v4 v5 k30 v3 0 else pMicRow_faults_J106 N M v1 (s0 ||| s1) v4 v5 k30 v3 (jshl 1 v5))
def pMicRow_faults_L30b (N : Nat) (v1 : Int32) (k30 : Int32 × Int32 × Int32 × Int32 × fm_M → Option (Int32 × fm_M)) (v2 : Int32) (v3 : Int32) (v4 : Int32) (v5 : Int32) (M : fm_M) : Option (Int32 × fm_M) :=
  if (M.1 1 0) ≤ v5 then (pTold_clear M).bind (fun M142 => (pTold_add M142 v3.toInt64).bind (fun M151 => (pTold_add M151 v4.toInt64).bind (fun M161 => some (v2, M161)))) else (pScene_begin M).bind (fun x52 => (pScene_length M).bind (fun x59 => (pBench_hear N M v5 x52 x59).bind (fun M62 => (pBench_isQuiet N M62).bind (fun x70 => if x70 = 0 then pMicRow_faults_J84 N M62 v1 v3 v4 v5 k30 v2 0 else pMicRow_faults_J84 N M62 v1 v3 v4 v5 k30 v2 (jshl 1 v5)))))
def pMicRow_faults_L30 (N : Nat) (v1 : Int32) (k30 : Int32 × Int32 × Int32 × Int32 × fm_M → Option (Int32 × fm_M)) (s : Int32 × Int32 × Int32 × Int32 × fm_M) : Option (Int32 × fm_M) := pMicRow_faults_L30b N v1 k30 s.1 s.2.1 s.2.2.1 s.2.2.2.1 s.2.2.2.2
def pMicRow_faults (N : Nat) (M : fm_M) (v1 : Int32) : Option (Int32 × fm_M) :=
  (pMicRow_within M v1 0 48).bind (fun x4 => if x4 = 0 then some ((-1), M) else (pEars_listenTo M (-1)).bind (fun M17 => fm_lp (pMicRow_faults_L30 N v1) N (0, 0, 0, 0, M17)))
def pMicRow_clipped_J84 (N : Nat) (M : fm_M) (s1 : Int64) : Option (Int32 × fm_M) :=
  (pTold_add M s1).bind (fun M84 => (pBench_clips N M84).bind (fun x91 => some (x91, M84)))
def pMicRow_clipped (N : Nat) (M : fm_M) (v1 : Int32) : Option (Int32 × fm_M) :=
  (pScene_hasMic M v1).bind (fun x5 => if x5 = 0 then some ((-1), M) else (pEars_listenTo M (-1)).bind (fun M18 => (pScene_begin M18).bind (fun x30 => (pScene_length M18).bind (fun x37 => (pBench_hear N M18 v1 x30 x37).bind (fun M40 => (pTold_clear M40).bind (fun M47 => (pBench_turnsOfSign N M47).bind (fun x58 => (pTold_add M47 x58.toInt64).bind (fun M62 => (pBench_isQuiet N M62).bind (fun x73 => if x73 = 0 then pMicRow_clipped_J84 N M62 0 else pMicRow_clipped_J84 N M62 1)))))))))
def pMicRow_behind_L27b (N : Nat) (v1 : Int32) (v2 : Int32) (k27 : Int32 × Int32 × Int32 × fm_M → Option (Int32 × fm_M)) (v3 : Int32) (v4 : Int32) (v5 : Int32) (M : fm_M) : Option (Int32 × fm_M) :=
  if 17 ≤ v5 then (pTold_clear M).bind (fun M75 => (pTold_add M75 v4.toInt64).bind (fun M85 => some ((v3 + 8), M85))) else (pMicRow_bySize M v5).bind (fun x36 => (pMicRow_alikeWhenShifted N M v1 v2 x36).bind (fun (x46, M46) => if x46 ≤ v4 then k27 (v3, v4, (v5 + 1), M46) else k27 (x36, x46, (v5 + 1), M46)))
def pMicRow_behind_L27 (N : Nat) (v1 : Int32) (v2 : Int32) (k27 : Int32 × Int32 × Int32 × fm_M → Option (Int32 × fm_M)) (s : Int32 × Int32 × Int32 × fm_M) : Option (Int32 × fm_M) := pMicRow_behind_L27b N v1 v2 k27 s.1 s.2.1 s.2.2.1 s.2.2.2
def pMicRow_behind (N : Nat) (M : fm_M) (v1 : Int32) (v2 : Int32) : Option (Int32 × fm_M) :=
  (pMicRow_areTwoMics M v1 v2).bind (fun x3 => if x3 = 0 then some ((-1), M) else (pEars_listenTo M (-1)).bind (fun M16 => fm_lp (pMicRow_behind_L27 N v1 v2) N (0, (-1), 0, M16)))
def pMicRow_turnOverSpan (N : Nat) (M : fm_M) (v1 : Int32) : Option fm_M :=
  (pScene_begin M).bind (fun x9 => (pScene_length M).bind (fun x16 => (pBench_turnTo N M v1 x9 x16).bind (fun M19 => some M19)))
def pMicRow_learnWeights (N : Nat) (M : fm_M) (v1 : Int32) : Option fm_M :=
  (pMicRow_turnOverSpan N M v1).bind (fun M2 => (pScene_liveSet N M2).bind (fun x13 => (pBench_mix N M2 x13).bind (fun M16 => (pScene_liveSet N M16).bind (fun x27 => (pBench_block N M16 x27).bind (fun M30 => (pBench_learn N M30).bind (fun M37 => some M37))))))
def pMicRow_beamPower (N : Nat) (M : fm_M) (v1 : Int32) : Option (Int64 × fm_M) :=
  (pMicRow_turnOverSpan N M v1).bind (fun M2 => (pScene_liveSet N M2).bind (fun x10 => (pMicRow_mixedPower N M2 x10).bind (fun (x13, M13) => some (x13, M13))))
def pMicRow_cleanPower (N : Nat) (M : fm_M) (v1 : Int32) (v2 : Int32) : Option (Int64 × fm_M) :=
  (pMicRow_turnOverSpan N M v1).bind (fun M2 => (pBench_mix N M2 v2).bind (fun M10 => (pBench_block N M10 v2).bind (fun M18 => (pBench_learn N M18).bind (fun M25 => (pBench_takeOff N M25).bind (fun M32 => (pBench_powerOf N M32 197).bind (fun x46 => some (x46, M32)))))))
def pMicRow_years_L33b (N : Nat) (v2 : Int32) (k33 : Int32 × fm_M → Option (Int32 × fm_M)) (v3 : Int32) (M : fm_M) : Option (Int32 × fm_M) :=
  if v2 ≤ v3 then (pScene_liveSet N M).bind (fun x52 => (pEars_listenTo M (-1)).bind (fun M61 => (pMicRow_turnOverSpan N M61 0).bind (fun M66 => (pBench_mix N M66 x52).bind (fun M74 => (pTold_clear M74).bind (fun M81 => (pBench_levelOf N M81 190).bind (fun x99 => (pTold_add M81 x99.toInt64).bind (fun M103 => (pScene_copyFrom N M103 1 15).bind (fun M114 => some (x52, M114))))))))) else (pMicRow_drawnAct M).bind (fun M39 => k33 ((v3 + 1), M39))
def pMicRow_years_L33 (N : Nat) (v2 : Int32) (k33 : Int32 × fm_M → Option (Int32 × fm_M)) (s : Int32 × fm_M) : Option (Int32 × fm_M) := pMicRow_years_L33b N v2 k33 s.1 s.2
def pMicRow_years (N : Nat) (M : fm_M) (v1 : Int32) (v2 : Int32) : Option (Int32 × fm_M) :=
  (pMicRow_within M v2 1 30).bind (fun x4 => if x4 = 0 then some ((-1), M) else (pScene_copyFrom N M 15 1).bind (fun M20 => (pDice_start M20 v1).bind (fun M28 => fm_lp (pMicRow_years_L33 N v2) N (0, M28))))
def pMicRow_learnEqual_L92b (N : Nat) (v1 : Int32) (k92 : Int32 × Int32 × fm_M → Option (Int32 × fm_M)) (v2 : Int32) (v3 : Int32) (M : fm_M) : Option (Int32 × fm_M) :=
  if (M.1 1 0) ≤ v3 then some (v2, M) else (pScene_begin M).bind (fun x112 => (pScene_length M).bind (fun x119 => (pBench_hear N M v3 x112 x119).bind (fun M122 => (pBench_isQuiet N M122).bind (fun x129 => if x129 = 0 then (pMicRow_equalFor N M122 v1).bind (fun x143 => (pScene_put M122 v3 3 x143).bind (fun (x146, M146) => if x146 < 0 then k92 (v2, (v3 + 1), M146) else k92 ((v2 + 1), (v3 + 1), M146))) else k92 (v2, (v3 + 1), M122)))))
def pMicRow_learnEqual_L92 (N : Nat) (v1 : Int32) (k92 : Int32 × Int32 × fm_M → Option (Int32 × fm_M)) (s : Int32 × Int32 × fm_M) : Option (Int32 × fm_M) := pMicRow_learnEqual_L92b N v1 k92 s.1 s.2.1 s.2.2
def pMicRow_learnEqual_L12b (N : Nat) (k12 : Int32 × Int32 × fm_M → Option (Int32 × fm_M)) (v1 : Int32) (v2 : Int32) (M : fm_M) : Option (Int32 × fm_M) :=
  if (M.1 1 0) ≤ v2 then if v1 = (-1) then some ((-2), M) else fm_lp (pMicRow_learnEqual_L92 N v1) N (0, 0, M) else (pScene_begin M).bind (fun x32 => (pScene_length M).bind (fun x39 => (pBench_hear N M v2 x32 x39).bind (fun M42 => (pBench_isQuiet N M42).bind (fun x49 => if x49 = 0 then (pBench_levelOf N M42 189).bind (fun x67 => k12 ((jmax v1 x67), (v2 + 1), M42)) else k12 (v1, (v2 + 1), M42)))))
def pMicRow_learnEqual_L12 (N : Nat) (k12 : Int32 × Int32 × fm_M → Option (Int32 × fm_M)) (s : Int32 × Int32 × fm_M) : Option (Int32 × fm_M) := pMicRow_learnEqual_L12b N k12 s.1 s.2.1 s.2.2
def pMicRow_learnEqual (N : Nat) (M : fm_M) : Option (Int32 × fm_M) :=
  (pEars_listenTo M (-1)).bind (fun M5 => fm_lp (pMicRow_learnEqual_L12 N) N ((-1), 0, M5))
def pMicRow_sortOut_J101 (N : Nat) (M : fm_M) (v1 : Int32) (v2 : Int32) (v3 : Int32) (k24 : Int32 × Int32 × fm_M → Option (Int32 × fm_M)) (s1 : Int32) (s2 : Int32) (s3 : Int32) : Option (Int32 × fm_M) :=
  (pScene_put M s1 s2 s3).bind (fun (x101, M101) => if x101 < 0 then k24 (v2, (v3 + 1), M101) else k24 (1, (v3 + 1), M101))
def pMicRow_sortOut_J83 (N : Nat) (M : fm_M) (v1 : Int32) (v2 : Int32) (v3 : Int32) (k24 : Int32 × Int32 × fm_M → Option (Int32 × fm_M)) (s0 : Int32) : Option (Int32 × fm_M) :=
  if s0 = 0 then pMicRow_sortOut_J101 N M v1 v2 v3 k24 v3 5 0 else pMicRow_sortOut_J101 N M v1 v2 v3 k24 v3 5 1
def pMicRow_sortOut_J78 (N : Nat) (M : fm_M) (v1 : Int32) (v2 : Int32) (v3 : Int32) (k24 : Int32 × Int32 × fm_M → Option (Int32 × fm_M)) : Option (Int32 × fm_M) :=
  pMicRow_sortOut_J83 N M v1 v2 v3 k24 1
def pMicRow_sortOut_L24b (N : Nat) (v1 : Int32) (k24 : Int32 × Int32 × fm_M → Option (Int32 × fm_M)) (v2 : Int32) (v3 : Int32) (M : fm_M) : Option (Int32 × fm_M) :=
  if (M.1 1 0) ≤ v3 then if v2 = 0 then some ((-2), M) else (pScene_liveCount N M).bind (fun x130 => some (((M.1 1 0) - x130), M)) else (pScene_begin M).bind (fun x44 => (pScene_length M).bind (fun x51 => (pBench_hear N M v3 x44 x51).bind (fun M54 => (pBench_isQuiet N M54).bind (fun x61 => if x61 = 0 then (pBench_clips N M54).bind (fun x71 => if x71 < v1 then pMicRow_sortOut_J83 N M54 v1 v2 v3 k24 0 else pMicRow_sortOut_J78 N M54 v1 v2 v3 k24) else pMicRow_sortOut_J78 N M54 v1 v2 v3 k24))))
def pMicRow_sortOut_L24 (N : Nat) (v1 : Int32) (k24 : Int32 × Int32 × fm_M → Option (Int32 × fm_M)) (s : Int32 × Int32 × fm_M) : Option (Int32 × fm_M) := pMicRow_sortOut_L24b N v1 k24 s.1 s.2.1 s.2.2
def pMicRow_sortOut (N : Nat) (M : fm_M) (v1 : Int32) : Option (Int32 × fm_M) :=
  (pMicRow_within M v1 1 48).bind (fun x4 => if x4 = 0 then some ((-1), M) else (pEars_listenTo M (-1)).bind (fun M17 => fm_lp (pMicRow_sortOut_L24 N v1) N (0, 0, M17)))
def pModel_readAct_J21 (N : Nat) (M : fm_M) : Option fm_M :=
  (pModel_fault M (M.1 0 7)).bind (fun M26 => some M26)
def pModel_readAct_J152 (N : Nat) (M : fm_M) (v1 : Int32) : Option fm_M :=
  (pModel_digits N M 1).bind (fun (x161, M161) => fm_st 320 M161 4 (v1 + 2) x161 (fun M164 => some M164))
def pModel_readAct_J134 (N : Nat) (M : fm_M) (v1 : Int32) (v2 : Int32) : Option fm_M :=
  if v2 = 119 then pModel_readAct_J152 N M v1 else if v2 = 100 then pModel_readAct_J152 N M v1 else if v2 = 111 then pModel_readAct_J152 N M v1 else some M
def pModel_readAct_J116 (N : Nat) (M : fm_M) (v1 : Int32) (v2 : Int32) : Option fm_M :=
  if v2 = 97 then (pModel_readSide M).bind (fun (x130, M130) => fm_st 320 M130 4 (v1 + 2) x130 (fun M133 => pModel_readAct_J134 N M133 v1 v2)) else pModel_readAct_J134 N M v1 v2
def pModel_readAct_J93 (N : Nat) (M : fm_M) (v1 : Int32) (v2 : Int32) (s1 : Int32) (s3 : Int32) : Option fm_M :=
  (pModel_digits N M s3).bind (fun (x93, M93) => fm_st 320 M93 4 s1 x93 (fun M96 => if v2 = 103 then (pModel_digits N M96 3).bind (fun (x112, M112) => fm_st 320 M112 4 (v1 + 2) x112 (fun M115 => pModel_readAct_J116 N M115 v1 v2)) else pModel_readAct_J116 N M96 v1 v2))
def pModel_readAct (N : Nat) (M : fm_M) (v1 : Int32) : Option fm_M :=
  (pModel_here M).bind (fun x1 => if x1 = (-1) then pModel_readAct_J21 N M else (pString_indexOf N M 6 ((x1.toUInt32 % 65536).toInt32)).bind (fun x15 => if 0 ≤ x15 then fm_pt M 0 7 ((M.1 0 7) + 1) (fun M37 => fm_st 320 M37 4 v1 x1 (fun M46 => if x1 = 108 then some M46 else if x1 = 99 then pModel_readAct_J93 N M46 v1 x1 (v1 + 1) 4 else if x1 = 98 then pModel_readAct_J93 N M46 v1 x1 (v1 + 1) 3 else if x1 = 115 then pModel_readAct_J93 N M46 v1 x1 (v1 + 1) 2 else pModel_readAct_J93 N M46 v1 x1 (v1 + 1) 1)) else pModel_readAct_J21 N M))
def pModel_day_J107 (N : Nat) (M : fm_M) (v2 : Int32) (s1 : Int64) : Option (Int32 × fm_M) :=
  (pModel_tell M s1).bind (fun M107 => (pModel_liveBits N M107).bind (fun x112 => (pModel_tell M107 x112.toInt64).bind (fun M116 => some (v2, M116))))
def pModel_day_J91 (N : Nat) (M : fm_M) (v1 : Int32) (v2 : Int32) : Option (Int32 × fm_M) :=
  fm_pt M 0 4 0 (fun M93 => if v1 ≤ v2 then pModel_day_J107 N M93 v2 0 else pModel_day_J107 N M93 v2 1)
def pModel_day_J83 (N : Nat) (M : fm_M) (v1 : Int32) (v2 : Int32) : Option (Int32 × fm_M) :=
  if v2 ≤ 0 then pModel_day_J91 N M v1 v2 else (pModel_note N M).bind (fun M88 => pModel_day_J91 N M88 v1 v2)
def pModel_day_L62b (N : Nat) (v1 : Int32) (k62 : Int32 × fm_M → Option (Int32 × fm_M)) (v2 : Int32) (M : fm_M) : Option (Int32 × fm_M) :=
  if v1 ≤ v2 then pModel_day_J83 N M v1 v2 else (pModel_act N M (3 * v2)).bind (fun (x71, M71) => if x71 = 0 then pModel_day_J83 N M71 v1 v2 else k62 ((v2 + 1), M71))
def pModel_day_L62 (N : Nat) (v1 : Int32) (k62 : Int32 × fm_M → Option (Int32 × fm_M)) (s : Int32 × fm_M) : Option (Int32 × fm_M) := pModel_day_L62b N v1 k62 s.1 s.2
def pModel_day_J42 (N : Nat) (M : fm_M) (v1 : Int32) : Option (Int32 × fm_M) :=
  (pModel_wasRight M).bind (fun (x43, M43) => if x43 = 0 then some (((-1) - (M43.1 0 8)), M43) else (pModel_lay N M43).bind (fun M57 => fm_lp (pModel_day_L62 N v1) N (0, M57)))
def pModel_day_L11b (N : Nat) (k11 : Int32 × fm_M → Option (Int32 × fm_M)) (v1 : Int32) (M : fm_M) : Option (Int32 × fm_M) :=
  (pModel_fine M).bind (fun x12 => if x12 = 0 then pModel_day_J42 N M v1 else if (M.1 0 6) ≤ (M.1 0 7) then pModel_day_J42 N M v1 else (pModel_readAct N M (3 * v1)).bind (fun M33 => k11 ((v1 + 1), M33)))
def pModel_day_L11 (N : Nat) (k11 : Int32 × fm_M → Option (Int32 × fm_M)) (s : Int32 × fm_M) : Option (Int32 × fm_M) := pModel_day_L11b N k11 s.1 s.2
def pModel_day (N : Nat) (M : fm_M) : Option (Int32 × fm_M) :=
  fm_pt M 0 5 0 (fun M2 => (pModel_begin M2).bind (fun M6 => fm_lp (pModel_day_L11 N) N (0, M6)))
def pCompass_find_L20b (N : Nat) (v4 : Int32) (k20 : Int32 × fm_M → Option (Int32 × fm_M)) (v5 : Int32) (M : fm_M) : Option (Int32 × fm_M) :=
  if v4 ≤ v5 then (pCompass_direction N M).bind (fun x40 => some (x40, M)) else (pCompass_addToTotals N M v5).bind (fun M30 => k20 ((v5 + 1), M30))
def pCompass_find_L20 (N : Nat) (v4 : Int32) (k20 : Int32 × fm_M → Option (Int32 × fm_M)) (s : Int32 × fm_M) : Option (Int32 × fm_M) := pCompass_find_L20b N v4 k20 s.1 s.2
def pCompass_find (N : Nat) (M : fm_M) (v1 : Int32) (v2 : Int32) (v3 : Int32) : Option (Int32 × fm_M) :=
  (pMicRow_clamp M v2 1 48).bind (fun x4 => (pCompass_measure N M v1 x4 v3).bind (fun M14 => fm_lp (pCompass_find_L20 N x4) N (0, M14)))
def pCompass_leastLong_L14b (N : Nat) (v1 : Int32) (k14 : Int32 × Int32 × fm_M → Option (Int32 × fm_M)) (v4 : Int32) (v5 : Int32) (M : fm_M) : Option (Int32 × fm_M) :=
  if 48 < v5 then some (v4, M) else (pCompass_addToTotals N M (v5 - 1)).bind (fun M26 => if v5 < 4 then k14 ((-1), (v5 + 1), M26) else (pCompass_direction N M26).bind (fun x36 => if x36 = v1 then if v4 = (-1) then k14 (v5, (v5 + 1), M26) else if v5 = (v4 + 4) then some (v4, M26) else k14 (v4, (v5 + 1), M26) else k14 ((-1), (v5 + 1), M26)))
def pCompass_leastLong_L14 (N : Nat) (v1 : Int32) (k14 : Int32 × Int32 × fm_M → Option (Int32 × fm_M)) (s : Int32 × Int32 × fm_M) : Option (Int32 × fm_M) := pCompass_leastLong_L14b N v1 k14 s.1 s.2.1 s.2.2
def pCompass_leastLong (N : Nat) (M : fm_M) (v1 : Int32) (v2 : Int32) (v3 : Int32) : Option (Int32 × fm_M) :=
  (pCompass_measure N M v2 48 v3).bind (fun M5 => fm_lp (pCompass_leastLong_L14 N v1) N ((-1), 1, M5))
def pMicRow_clean_J19 (N : Nat) (M : fm_M) (v1 : Int32) (v2 : Int32) (s0 : Int32) : Option (Int32 × fm_M) :=
  (pMicRow_demand M s0).bind (fun x19 => (pEars_listenTo M (-1)).bind (fun M27 => (pMicRow_learnWeights N M27 v1).bind (fun M32 => (pBench_turnTo N M32 v1 v2 1).bind (fun M42 => (pScene_liveSet N M42).bind (fun x53 => (pBench_mix N M42 x53).bind (fun M56 => (pScene_liveSet N M56).bind (fun x67 => (pBench_block N M56 x67).bind (fun M70 => (pBench_takeOff N M70).bind (fun M77 => some ((M77.1 197 0), M77))))))))))
def pMicRow_clean_J18 (N : Nat) (M : fm_M) (v1 : Int32) (v2 : Int32) : Option (Int32 × fm_M) :=
  pMicRow_clean_J19 N M v1 v2 0
def pMicRow_clean (N : Nat) (M : fm_M) (v1 : Int32) (v2 : Int32) : Option (Int32 × fm_M) :=
  (pMicRow_isDirection M v1).bind (fun x1 => if x1 = 0 then pMicRow_clean_J18 N M v1 v2 else (pMicRow_isTurnedTime M v2).bind (fun x8 => if x8 = 0 then pMicRow_clean_J18 N M v1 v2 else pMicRow_clean_J19 N M v1 v2 1))
def pMicRow_beams (N : Nat) (M : fm_M) (v1 : Int32) : Option (Int32 × fm_M) :=
  (pMicRow_isDirection M v1).bind (fun x1 => if x1 = 0 then some ((-1), M) else (pEars_listenTo M (-1)).bind (fun M14 => (pMicRow_learnWeights N M14 v1).bind (fun M19 => (pBench_takeOff N M19).bind (fun M26 => (pTold_clear M26).bind (fun M33 => (pBench_powerOf N M33 190).bind (fun x51 => (pTold_add M33 x51).bind (fun M54 => (pBench_levelOf N M54 197).bind (fun x72 => (pTold_add M54 x72.toInt64).bind (fun M76 => (pBench_powerOf N M76 197).bind (fun x94 => (pTold_add M76 x94).bind (fun M97 => (pBench_levelOf N M97 190).bind (fun x111 => some (x111, M97)))))))))))))
def pMicRow_weights_L31b (N : Nat) (k31 : Int32 × fm_M → Option (Int32 × fm_M)) (v2 : Int32) (M : fm_M) : Option (Int32 × fm_M) :=
  if (M.1 181 9) ≤ v2 then some ((M.1 181 9), M) else fm_ld 5 M 198 v2 (fun x54 => (pTold_add M x54.toInt64).bind (fun M56 => k31 ((v2 + 1), M56)))
def pMicRow_weights_L31 (N : Nat) (k31 : Int32 × fm_M → Option (Int32 × fm_M)) (s : Int32 × fm_M) : Option (Int32 × fm_M) := pMicRow_weights_L31b N k31 s.1 s.2
def pMicRow_weights (N : Nat) (M : fm_M) (v1 : Int32) : Option (Int32 × fm_M) :=
  (pMicRow_isDirection M v1).bind (fun x1 => if x1 = 0 then some ((-1), M) else (pEars_listenTo M (-1)).bind (fun M14 => (pMicRow_learnWeights N M14 v1).bind (fun M19 => (pTold_clear M19).bind (fun M26 => fm_lp (pMicRow_weights_L31 N) N (0, M26)))))
def pMicRow_loudest_J81 (N : Nat) (M : fm_M) (v1 : Int32) (v2 : Int32) (v3 : Int64) (v5 : Int32) (v6 : Int32) (k41 : Int32 × Int64 × Int32 × fm_M → Option (Int32 × fm_M)) (s0 : Int64) : Option (Int32 × fm_M) :=
  if (lg_cmp s0 v3) ≤ 0 then k41 (v2, v3, (v5 + 1), M) else k41 (v6, s0, (v5 + 1), M)
def pMicRow_loudest_L41b (N : Nat) (v1 : Int32) (k41 : Int32 × Int64 × Int32 × fm_M → Option (Int32 × fm_M)) (v2 : Int32) (v3 : Int64) (v5 : Int32) (M : fm_M) : Option (Int32 × fm_M) :=
  if 17 ≤ v5 then (pTold_clear M).bind (fun M106 => (pTold_add M106 v3).bind (fun M114 => some ((v2 + 8), M114))) else (pMicRow_bySize M v5).bind (fun x50 => if v1 = 0 then (pMicRow_beamPower N M x50).bind (fun (x62, M62) => pMicRow_loudest_J81 N M62 v1 v2 v3 v5 x50 k41 x62) else (pScene_liveSet N M).bind (fun x75 => (pMicRow_cleanPower N M x50 x75).bind (fun (x78, M78) => pMicRow_loudest_J81 N M78 v1 v2 v3 v5 x50 k41 x78)))
def pMicRow_loudest_L41 (N : Nat) (v1 : Int32) (k41 : Int32 × Int64 × Int32 × fm_M → Option (Int32 × fm_M)) (s : Int32 × Int64 × Int32 × fm_M) : Option (Int32 × fm_M) := pMicRow_loudest_L41b N v1 k41 s.1 s.2.1 s.2.2.1 s.2.2.2
def pMicRow_loudest (N : Nat) (M : fm_M) (v1 : Int32) : Option (Int32 × fm_M) :=
  (pMicRow_within M v1 0 1).bind (fun x3 => if x3 = 0 then some ((-1), M) else (pScene_liveSet N M).bind (fun x15 => if x15 = 0 then some ((-2), M) else (pEars_listenTo M (-1)).bind (fun M29 => fm_lp (pMicRow_loudest_L41 N v1) N (0, (-1), 0, M29))))
def pMicRow_pattern_L36b (N : Nat) (k36 : Int32 × Int32 × Int32 × fm_M → Option (Int32 × fm_M)) (v1 : Int32) (v2 : Int32) (v3 : Int32) (M : fm_M) : Option (Int32 × fm_M) :=
  if 8 < v3 then some ((v1 + 8), M) else (pMicRow_turnOverSpan N M v3).bind (fun M44 => (pScene_liveSet N M44).bind (fun x55 => (pBench_mix N M44 x55).bind (fun M58 => (pBench_levelOf N M58 190).bind (fun x72 => (pTold_add M58 x72.toInt64).bind (fun M84 => if v2 < 0 then k36 (v3, x72, (v3 + 1), M84) else if v2 ≤ x72 then k36 (v1, v2, (v3 + 1), M84) else k36 (v3, x72, (v3 + 1), M84))))))
def pMicRow_pattern_L36 (N : Nat) (k36 : Int32 × Int32 × Int32 × fm_M → Option (Int32 × fm_M)) (s : Int32 × Int32 × Int32 × fm_M) : Option (Int32 × fm_M) := pMicRow_pattern_L36b N k36 s.1 s.2.1 s.2.2.1 s.2.2.2
def pMicRow_pattern (N : Nat) (M : fm_M) : Option (Int32 × fm_M) :=
  (pScene_liveSet N M).bind (fun x4 => if x4 = 0 then some ((-2), M) else (pEars_listenTo M (-1)).bind (fun M18 => (pTold_clear M18).bind (fun M25 => fm_lp (pMicRow_pattern_L36 N) N ((-8), (-1), (-8), M25))))
def pMicRow_agree_L37b (N : Nat) (M : fm_M) (v1 : Int32) (v2 : Int32) (k37 : Int32 × Int32 → Option (Int32 × fm_M)) (v4 : Int32) (v5 : Int32) : Option (Int32 × fm_M) :=
  (pScene_length M).bind (fun x43 => if x43 ≤ v5 then (pTold_clear M).bind (fun M93 => (pScene_length M93).bind (fun x104 => (pTold_add M93 x104.toInt64).bind (fun M108 => some (v4, M108)))) else (pBench_turnedRow M v1).bind (fun x54 => fm_ld (fm_n shC x54) M x54 v5 (fun x59 => (pMicRow_signOf M x59).bind (fun x60 => (pBench_turnedRow M v2).bind (fun x68 => fm_ld (fm_n shC x68) M x68 v5 (fun x73 => (pMicRow_signOf M x73).bind (fun x74 => if x60 = x74 then k37 ((v4 + 1), (v5 + 1)) else k37 (v4, (v5 + 1)))))))))
def pMicRow_agree_L37 (N : Nat) (M : fm_M) (v1 : Int32) (v2 : Int32) (k37 : Int32 × Int32 → Option (Int32 × fm_M)) (s : Int32 × Int32) : Option (Int32 × fm_M) := pMicRow_agree_L37b N M v1 v2 k37 s.1 s.2
def pMicRow_agree (N : Nat) (M : fm_M) (v1 : Int32) (v2 : Int32) (v3 : Int32) : Option (Int32 × fm_M) :=
  (pMicRow_areTwoMics M v1 v2).bind (fun x3 => if x3 = 0 then some ((-1), M) else (pMicRow_isDirection M v3).bind (fun x10 => if x10 = 0 then some ((-1), M) else (pEars_listenTo M (-1)).bind (fun M23 => (pMicRow_turnOverSpan N M23 v3).bind (fun M28 => fm_lp (pMicRow_agree_L37 N M28 v1 v2) N (0, 0)))))
def pMicRow_from (N : Nat) (M : fm_M) : Option (Int32 × fm_M) :=
  (pScene_liveCount N M).bind (fun x4 => if 2 ≤ x4 then (pEars_listenTo M (-1)).bind (fun M19 => (pScene_begin M19).bind (fun x30 => (pScene_length M19).bind (fun x37 => (pScene_liveSet N M19).bind (fun x44 => (pCompass_find N M19 x30 x37 x44).bind (fun (x47, M47) => (pTold_clear M47).bind (fun M55 => (pCompass_agreement M55 x47).bind (fun x67 => (pTold_add M55 x67.toInt64).bind (fun M71 => (pScene_liveCount N M71).bind (fun x82 => (pMicRow_pairsOf M71 x82).bind (fun x85 => (pTold_add M71 x85.toInt64).bind (fun M89 => some ((x47 + 8), M89)))))))))))) else some ((-2), M))
def pMicRow_doubtful_L70b (N : Nat) (v1 : Int32) (k70 : Int32 × Int32 × fm_M → Option (Int32 × fm_M)) (v2 : Int32) (v3 : Int32) (M : fm_M) : Option (Int32 × fm_M) :=
  if 8 < v3 then some (v2, M) else (pCompass_agreement M v3).bind (fun x81 => if x81 = v1 then (pTold_add M ((v3 + 8).toInt64)).bind (fun M97 => k70 ((v2 + 1), (v3 + 1), M97)) else k70 (v2, (v3 + 1), M))
def pMicRow_doubtful_L70 (N : Nat) (v1 : Int32) (k70 : Int32 × Int32 × fm_M → Option (Int32 × fm_M)) (s : Int32 × Int32 × fm_M) : Option (Int32 × fm_M) := pMicRow_doubtful_L70b N v1 k70 s.1 s.2.1 s.2.2
def pMicRow_doubtful (N : Nat) (M : fm_M) : Option (Int32 × fm_M) :=
  (pScene_liveCount N M).bind (fun x4 => if 2 ≤ x4 then (pEars_listenTo M (-1)).bind (fun M19 => (pScene_begin M19).bind (fun x34 => (pScene_length M19).bind (fun x41 => (pScene_liveSet N M19).bind (fun x48 => (pCompass_find N M19 x34 x41 x48).bind (fun (x51, M51) => (pCompass_agreement M51 x51).bind (fun x54 => (pTold_clear M51).bind (fun M64 => fm_lp (pMicRow_doubtful_L70 N x54) N (0, (-8), M64)))))))) else some ((-2), M))
def pMicRow_tracks_L73b (N : Nat) (v1 : Int32) (k73 : Int32 × Int32 × Int32 × fm_M → Option (Int32 × fm_M)) (v2 : Int32) (v3 : Int32) (v4 : Int32) (M : fm_M) : Option (Int32 × fm_M) :=
  if v1 ≤ v4 then some (v2, M) else (pScene_begin M).bind (fun x83 => (pScene_length M).bind (fun x92 => (pScene_length M).bind (fun x109 => (pScene_liveSet N M).bind (fun x116 => (pCompass_find N M (x83 + (v4 * x92)) x109 x116).bind (fun (x119, M119) => (pTold_add M119 ((x119 + 8).toInt64)).bind (fun M134 => if v4 ≤ 0 then k73 (v2, x119, (v4 + 1), M134) else if x119 = v3 then k73 (v2, x119, (v4 + 1), M134) else k73 ((v2 + 1), x119, (v4 + 1), M134)))))))
def pMicRow_tracks_L73 (N : Nat) (v1 : Int32) (k73 : Int32 × Int32 × Int32 × fm_M → Option (Int32 × fm_M)) (s : Int32 × Int32 × Int32 × fm_M) : Option (Int32 × fm_M) := pMicRow_tracks_L73b N v1 k73 s.1 s.2.1 s.2.2.1 s.2.2.2
def pMicRow_tracks (N : Nat) (M : fm_M) (v1 : Int32) : Option (Int32 × fm_M) :=
  (pMicRow_within M v1 1 12).bind (fun x4 => if x4 = 0 then some ((-1), M) else (pScene_begin M).bind (fun x14 => (pScene_length M).bind (fun x24 => if (x14 + ((v1 - 1) * x24)) ≤ 200 then (pScene_liveCount N M).bind (fun x41 => if 2 ≤ x41 then (pEars_listenTo M (-1)).bind (fun M56 => (pTold_clear M56).bind (fun M63 => fm_lp (pMicRow_tracks_L73 N v1) N (0, 0, 0, M63))) else some ((-2), M)) else some ((-1), M))))
def pMicRow_strongest_L35b (N : Nat) (v1 : Int32) (k35 : Int32 × Int64 × Int32 × fm_M → Option (Int32 × fm_M)) (v2 : Int32) (v3 : Int64) (v5 : Int32) (M : fm_M) : Option (Int32 × fm_M) :=
  if (M.1 1 1) ≤ v5 then (pTold_clear M).bind (fun M81 => (pTold_add M81 v3).bind (fun M89 => (pMicRow_heardPower N M89 v1 (-1)).bind (fun (x99, M99) => (pTold_add M99 x99).bind (fun M102 => some (v2, M102))))) else (pMicRow_heardPower N M v1 (jshl 1 v5)).bind (fun (x53, M53) => if (lg_cmp x53 v3) ≤ 0 then k35 (v2, v3, (v5 + 1), M53) else k35 (v5, x53, (v5 + 1), M53))
def pMicRow_strongest_L35 (N : Nat) (v1 : Int32) (k35 : Int32 × Int64 × Int32 × fm_M → Option (Int32 × fm_M)) (s : Int32 × Int64 × Int32 × fm_M) : Option (Int32 × fm_M) := pMicRow_strongest_L35b N v1 k35 s.1 s.2.1 s.2.2.1 s.2.2.2
def pMicRow_strongest (N : Nat) (M : fm_M) (v1 : Int32) : Option (Int32 × fm_M) :=
  (pScene_hasMic M v1).bind (fun x5 => if x5 = 0 then some ((-1), M) else if (M.1 1 1) = 0 then some ((-2), M) else fm_lp (pMicRow_strongest_L35 N v1) N (0, (-1), 0, M))
def pMicRow_without (N : Nat) (M : fm_M) (v1 : Int32) (v2 : Int32) : Option (Int32 × fm_M) :=
  (pScene_isLive M v1).bind (fun x5 => if x5 = 0 then some ((-1), M) else (pMicRow_isDirection M v2).bind (fun x12 => if x12 = 0 then some ((-1), M) else (pScene_liveCount N M).bind (fun x24 => if x24 = 1 then some ((-2), M) else (pEars_listenTo M (-1)).bind (fun M39 => (pMicRow_turnOverSpan N M39 v2).bind (fun M44 => (pScene_liveSet N M44).bind (fun x52 => (pMicRow_mixedPower N M44 x52).bind (fun (x55, M55) => (pTold_clear M55).bind (fun M63 => (pTold_add M63 x55).bind (fun M71 => (pScene_liveSet N M71).bind (fun x79 => (pMicRow_mixedPower N M71 (x79 &&& ((jshl 1 v1) ^^^ (-1)))).bind (fun (x88, M88) => some (x88.toInt32, M88))))))))))))
def pMicRow_worst_L38b (N : Nat) (v1 : Int32) (k38 : Int32 × Int64 × Int32 × fm_M → Option (Int32 × fm_M)) (v2 : Int32) (v3 : Int64) (v5 : Int32) (M : fm_M) : Option (Int32 × fm_M) :=
  if (M.1 1 0) ≤ v5 then (pTold_clear M).bind (fun M114 => (pTold_add M114 v3).bind (fun M122 => some (v2, M122))) else (pScene_isLive M v5).bind (fun x56 => if x56 = 0 then k38 (v2, v3, (v5 + 1), M) else (pScene_liveSet N M).bind (fun x71 => (pMicRow_cleanPower N M v1 (x71 &&& ((jshl 1 v5) ^^^ (-1)))).bind (fun (x81, M81) => if v2 = (-1) then k38 (v5, x81, (v5 + 1), M81) else if 0 ≤ (lg_cmp x81 v3) then k38 (v2, v3, (v5 + 1), M81) else k38 (v5, x81, (v5 + 1), M81))))
def pMicRow_worst_L38 (N : Nat) (v1 : Int32) (k38 : Int32 × Int64 × Int32 × fm_M → Option (Int32 × fm_M)) (s : Int32 × Int64 × Int32 × fm_M) : Option (Int32 × fm_M) := pMicRow_worst_L38b N v1 k38 s.1 s.2.1 s.2.2.1 s.2.2.2
def pMicRow_worst (N : Nat) (M : fm_M) (v1 : Int32) : Option (Int32 × fm_M) :=
  (pMicRow_isDirection M v1).bind (fun x1 => if x1 = 0 then some ((-1), M) else (pScene_liveCount N M).bind (fun x13 => if 2 ≤ x13 then (pEars_listenTo M (-1)).bind (fun M28 => fm_lp (pMicRow_worst_L38 N v1) N ((-1), 0, 0, M28)) else some ((-2), M)))
def pMicRow_best_L54b (N : Nat) (v1 : Int32) (k54 : Int32 × Int64 × Int32 × fm_M → Option (Int32 × fm_M)) (v3 : Int32) (v4 : Int64) (v6 : Int32) (M : fm_M) : Option (Int32 × fm_M) :=
  if (jshl 1 (M.1 1 0)) ≤ v6 then (pTold_clear M).bind (fun M118 => (pTold_add M118 v4).bind (fun M127 => some (v3, M127))) else (pInteger_bitCount M v6).bind (fun x70 => if x70 = v1 then (pMicRow_mixedPower N M v6).bind (fun (x83, M83) => if v3 = (-1) then k54 (v6, x83, (v6 + 1), M83) else if 0 ≤ (lg_cmp x83 v4) then k54 (v3, v4, (v6 + 1), M83) else k54 (v6, x83, (v6 + 1), M83)) else k54 (v3, v4, (v6 + 1), M))
def pMicRow_best_L54 (N : Nat) (v1 : Int32) (k54 : Int32 × Int64 × Int32 × fm_M → Option (Int32 × fm_M)) (s : Int32 × Int64 × Int32 × fm_M) : Option (Int32 × fm_M) := pMicRow_best_L54b N v1 k54 s.1 s.2.1 s.2.2.1 s.2.2.2
def pMicRow_best (N : Nat) (M : fm_M) (v1 : Int32) (v2 : Int32) : Option (Int32 × fm_M) :=
  (pMicRow_within M v1 1 6).bind (fun x4 => if x4 = 0 then some ((-1), M) else (pMicRow_isDirection M v2).bind (fun x11 => if x11 = 0 then some ((-1), M) else if v1 ≤ (M.1 1 0) then (pEars_listenTo M (-1)).bind (fun M38 => (pMicRow_turnOverSpan N M38 v2).bind (fun M43 => fm_lp (pMicRow_best_L54 N v1) N ((-1), 0, 1, M43))) else some ((-2), M)))
def pMicRow_masks_L29b (N : Nat) (v1 : Int32) (k29 : Int32 × Int64 × Int32 × fm_M → Option (Int32 × fm_M)) (v2 : Int32) (v3 : Int64) (v5 : Int32) (M : fm_M) : Option (Int32 × fm_M) :=
  if (M.1 1 1) ≤ v5 then (pTold_clear M).bind (fun M89 => (pTold_add M89 v3).bind (fun M97 => some (v2, M97))) else (pEars_listenTo M ((jshl 1 v5) ^^^ (-1))).bind (fun M51 => (pMicRow_beamPower N M51 v1).bind (fun (x56, M56) => if v2 = (-1) then k29 (v5, x56, (v5 + 1), M56) else if 0 ≤ (lg_cmp x56 v3) then k29 (v2, v3, (v5 + 1), M56) else k29 (v5, x56, (v5 + 1), M56)))
def pMicRow_masks_L29 (N : Nat) (v1 : Int32) (k29 : Int32 × Int64 × Int32 × fm_M → Option (Int32 × fm_M)) (s : Int32 × Int64 × Int32 × fm_M) : Option (Int32 × fm_M) := pMicRow_masks_L29b N v1 k29 s.1 s.2.1 s.2.2.1 s.2.2.2
def pMicRow_masks (N : Nat) (M : fm_M) (v1 : Int32) : Option (Int32 × fm_M) :=
  (pMicRow_isDirection M v1).bind (fun x1 => if x1 = 0 then some ((-1), M) else if (M.1 1 1) = 0 then some ((-2), M) else fm_lp (pMicRow_masks_L29 N v1) N ((-1), 0, 0, M))
def pMicRow_nulled (N : Nat) (M : fm_M) (v1 : Int32) (v2 : Int32) : Option (Int32 × fm_M) :=
  (pMicRow_isDirection M v1).bind (fun x1 => if x1 = 0 then some ((-1), M) else (pMicRow_isDirection M v2).bind (fun x8 => if x8 = 0 then some ((-1), M) else (pScene_sourcesFrom N M v2).bind (fun x21 => (pEars_listenTo M x21).bind (fun M30 => (pMicRow_learnWeights N M30 v1).bind (fun M35 => (pEars_listenTo M35 (-1)).bind (fun M43 => (pMicRow_turnOverSpan N M43 v1).bind (fun M48 => (pScene_liveSet N M48).bind (fun x59 => (pBench_mix N M48 x59).bind (fun M62 => (pScene_liveSet N M62).bind (fun x73 => (pBench_block N M62 x73).bind (fun M76 => (pBench_takeOff N M76).bind (fun M83 => (pTold_clear M83).bind (fun M90 => (pBench_powerOf N M90 197).bind (fun x108 => (pTold_add M90 x108).bind (fun M111 => (pBench_powerOf N M111 190).bind (fun x129 => (pTold_add M111 x129).bind (fun M132 => (pInteger_bitCount M132 x21).bind (fun x136 => some (x136, M132)))))))))))))))))))
def pMicRow_later (N : Nat) (M : fm_M) (v1 : Int32) : Option (Int32 × fm_M) :=
  (pMicRow_within M v1 0 200).bind (fun x5 => if x5 = 0 then some ((-1), M) else (pScene_liveCount N M).bind (fun x17 => if 2 ≤ x17 then (pEars_listenTo M (-1)).bind (fun M32 => (pScene_length M32).bind (fun x44 => (pScene_liveSet N M32).bind (fun x51 => (pCompass_find N M32 v1 x44 x51).bind (fun (x54, M54) => (pTold_clear M54).bind (fun M62 => (pCompass_agreement M62 x54).bind (fun x74 => (pTold_add M62 x74.toInt64).bind (fun M78 => some ((x54 + 8), M78)))))))) else some ((-2), M)))
def pMicRow_settles (N : Nat) (M : fm_M) (v1 : Int32) : Option (Int32 × fm_M) :=
  (pMicRow_isDirection M v1).bind (fun x1 => if x1 = 0 then some ((-1), M) else (pScene_liveCount N M).bind (fun x13 => if 2 ≤ x13 then (pEars_listenTo M (-1)).bind (fun M28 => (pScene_begin M28).bind (fun x40 => (pScene_liveSet N M28).bind (fun x47 => (pCompass_leastLong N M28 v1 x40 x47).bind (fun (x50, M50) => if x50 = (-1) then some ((-2), M50) else some (x50, M50))))) else some ((-2), M)))
def pMicRow_learns (N : Nat) (M : fm_M) : Option (Int32 × fm_M) :=
  (pScene_copyFrom N M 15 1).bind (fun M8 => (pMicRow_learnEqual N M8).bind (fun (x13, M13) => (pMicRow_settleChange N M13 x13).bind (fun (x16, M16) => some (x16, M16))))
def pMicRow_sorts (N : Nat) (M : fm_M) (v1 : Int32) : Option (Int32 × fm_M) :=
  (pScene_copyFrom N M 15 1).bind (fun M8 => (pMicRow_sortOut N M8 v1).bind (fun (x14, M14) => (pMicRow_settleChange N M14 x14).bind (fun (x17, M17) => some (x17, M17))))
def pMicRow_act (N : Nat) (M : fm_M) (v1 : Int32) : Option (Int32 × fm_M) :=
  (pLetters_digit M (v1 + 1)).bind (fun x7 => (pLetters_at M v1).bind (fun x16 => if x16 = 97 then (pLetters_signedDigit M (v1 + 2)).bind (fun x279 => (pScene_aim M x7 0 x279).bind (fun (x282, M282) => some (x282, M282))) else if x16 = 98 then (pLetters_number N M (v1 + 1) 3).bind (fun x238 => (pScene_hold M 1 x238).bind (fun (x241, M241) => some (x241, M241))) else if x16 = 99 then (pLetters_number N M (v1 + 1) 4).bind (fun x218 => (pScene_hold M 0 x218).bind (fun (x221, M221) => some (x221, M221))) else if x16 = 100 then (pLetters_digit M (v1 + 2)).bind (fun x178 => (pScene_put M x7 4 x178).bind (fun (x181, M181) => some (x181, M181))) else if x16 = 103 then (pLetters_number N M (v1 + 2) 3).bind (fun x138 => (pScene_put M x7 1 x138).bind (fun (x141, M141) => some (x141, M141))) else if x16 = 108 then (pMicRow_learnEqual N M).bind (fun (x246, M246) => some (x246, M246)) else if x16 = 111 then (pLetters_digit M (v1 + 2)).bind (fun x198 => (pScene_put M x7 5 x198).bind (fun (x201, M201) => some (x201, M201))) else if x16 = 115 then (pLetters_number N M (v1 + 1) 2).bind (fun x259 => (pMicRow_sortOut N M x259).bind (fun (x262, M262) => some (x262, M262))) else if x16 = 119 then (pLetters_digit M (v1 + 2)).bind (fun x158 => (pScene_put M x7 2 x158).bind (fun (x161, M161) => some (x161, M161))) else some ((-1), M)))
def pMicRow_day_J156 (N : Nat) (M : fm_M) (v2 : Int32) (s1 : Int64) : Option (Int32 × fm_M) :=
  (pTold_add M s1).bind (fun M156 => (pScene_liveSet N M156).bind (fun x167 => (pTold_add M156 x167.toInt64).bind (fun M171 => some (v2, M171))))
def pMicRow_day_J136 (N : Nat) (M : fm_M) (v2 : Int32) (v3 : Int32) : Option (Int32 × fm_M) :=
  (pTold_clear M).bind (fun M140 => if v3 = 0 then pMicRow_day_J156 N M140 v2 0 else pMicRow_day_J156 N M140 v2 1)
def pMicRow_day_J112 (N : Nat) (M : fm_M) (v2 : Int32) (v3 : Int32) : Option (Int32 × fm_M) :=
  (pLetters_cutTo M 0).bind (fun (x117, M117) => if v2 ≤ 0 then pMicRow_day_J136 N M117 v2 v3 else (pPast_push N M117).bind (fun M133 => pMicRow_day_J136 N M133 v2 v3))
def pMicRow_day_J85 (N : Nat) (M : fm_M) (v3 : Int32) (v4 : Int32) (k44 : Int32 × Int32 × Int32 × fm_M → Option (Int32 × fm_M)) (s0 : Int32) (s1 : Int32) : Option (Int32 × fm_M) :=
  (pLetters_at M v4).bind (fun x96 => (pReader_shapeOf M x96).bind (fun x99 => (pString_length M x99).bind (fun x102 => k44 ((s0 + s1), v3, (v4 + (1 + x102)), M))))
def pMicRow_day_J74 (N : Nat) (M : fm_M) (v2 : Int32) (v4 : Int32) (k44 : Int32 × Int32 × Int32 × fm_M → Option (Int32 × fm_M)) (s0 : Int32) : Option (Int32 × fm_M) :=
  if s0 = 0 then pMicRow_day_J85 N M s0 v4 k44 v2 1 else pMicRow_day_J85 N M s0 v4 k44 v2 0
def pMicRow_day_L44b (N : Nat) (k44 : Int32 × Int32 × Int32 × fm_M → Option (Int32 × fm_M)) (v2 : Int32) (v3 : Int32) (v4 : Int32) (M : fm_M) : Option (Int32 × fm_M) :=
  if (M.1 173 1) ≤ v4 then pMicRow_day_J112 N M v2 v3 else if v3 = 0 then (pMicRow_act N M v4).bind (fun (x63, M63) => if 0 ≤ x63 then pMicRow_day_J74 N M63 v2 v4 k44 0 else pMicRow_day_J74 N M63 v2 v4 k44 1) else pMicRow_day_J112 N M v2 v3
def pMicRow_day_L44 (N : Nat) (k44 : Int32 × Int32 × Int32 × fm_M → Option (Int32 × fm_M)) (s : Int32 × Int32 × Int32 × fm_M) : Option (Int32 × fm_M) := pMicRow_day_L44b N k44 s.1 s.2.1 s.2.2.1 s.2.2.2
def pMicRow_day (N : Nat) (M : fm_M) : Option (Int32 × fm_M) :=
  (pReader_faultInDay N M).bind (fun x4 => if x4 = (-1) then (pScene_copyFrom N M 15 1).bind (fun M34 => fm_lp (pMicRow_day_L44 N) N (0, 0, 0, M34)) else (pLetters_cutTo M 0).bind (fun (x18, M18) => some (((-1) - x4), M18)))
