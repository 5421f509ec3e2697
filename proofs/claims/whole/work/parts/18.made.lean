/-! ===== the constructors ===== -/
def fm_held0 : Nat → Int32 := upd (upd (upd (fun _ => 0) 0 9999) 1 0) 2 16
def fm_zero : Nat → Int32 := fun _ => 0
/-- what a new MicRow holds -/
def fm_hids : List Nat := [14, 28, 43, 57, 74, 88, 102, 116, 130, 144, 158, 172]
def fm_zk (k : Nat) : Bool := !fm_hids.contains k && !decide (k = 181)
def fm_m0 : fm_M := (fun k => if fm_hids.contains k then fm_held0 else if k = 181 then (fun j => if j = 10 then 1 else 0) else fm_zero, fun _ _ => 0, fun i => 61 + 14 * i)
theorem fm_zat {k : Nat} (h : fm_zk k = true) : fm_m0.1 k = fun _ => 0 := by
  simp only [fm_zk, Bool.and_eq_true, Bool.not_eq_true', decide_eq_false_iff_not] at h
  show (if fm_hids.contains k then fm_held0 else if k = 181 then _ else fm_zero) = _
  rw [if_neg (by rw [h.1]; decide), if_neg h.2]
  rfl
theorem fm_zall {b n : Nat} (h : ((List.range n).all fun i => fm_zk (b + i)) = true) : ∀ i, i < n → fm_m0.1 (b + i) = fun _ => 0 := fun i hi => fm_zat (List.all_eq_true.mp h i (List.mem_range.mpr hi))
/-- the bare model, and the model -/
def fm_m1z : fm_M := (fun k => if k = 0 then (fun j => if j = 11 then -1 else if j = 12 then 300 else if j = 13 then -1 else 0) else fm_zero, fun _ _ => 0, fun _ => 0)
def fm_m1 : fm_M := fm_si (fm_si fm_m1z 1 37 9999) 1 39 16
def fm_scM (M : fm_M) (b : Nat) : Prop := M.1 b = (fun _ => 0) ∧ (∀ i, i < 6 → M.1 (b + 2 + i) = fun _ => 0) ∧ (∀ i, i < 4 → M.1 (b + 9 + i) = fun _ => 0) ∧ M.1 (b + 13) = fm_held0
section FMX
variable {p : Program} {l : Launch} {e : Env} {R : Room} {s : State} {m : MethodId} {args : Array Value} {below : List Frame} {meth : Method} {c : Code} {H : Heap} {locs : List Loc} {cells slots : Nat} {Q : State → Prop}
variable {cc : ByteArray} {pc nL : Nat} {ls : Array Slot} {rest : List Value} {own : String} {G : fm_G} {M : fm_M} {A : Nat → Prop} {ws : va_W} {ad : Nat → Nat} {b ci : Nat} {hl : List Nat} {SH : List fm_Sh}
theorem fm_set_snoc {α : Type} (l : List α) (x y : α) : (l ++ [x]).set l.length y = l ++ [y] := by
  rw [List.set_append_right _ _ (Nat.le_refl _), Nat.sub_self]
  rfl
theorem fm_kiax (C : fm_kc G p s m args c cc nL own) {q n : Nat} {f : Nat → Int32} (E : fm_kW G A (ws ++ [(q, .inl (G.2.2.1 0, n, .inl f))]) s H locs) {j x : Int32} {J : Nat} (hin : fm_in j n = true) (hJ : j.toNatClampNeg = J) (hdg : decode cc pc = .ok (.iastore, 1))
    (kk : ∀ (H1 : Heap) (locs1 : List Loc), fm_kW G A (ws ++ [(q, .inl (G.2.2.1 0, n, .inl (upd f J x)))]) s H1 locs1 → W p l e R s m args below meth c H1 locs1 cells slots Q (F0 m (pc + 1) ls rest)) : W p l e R s m args below meth c H locs cells slots Q (F0 m pc ls (.int x :: .int j :: .ref q :: rest)) := by
  subst hJ
  refine va_iast C.1 C.2.1 C.2.2.2.2.2.1 E.1 E.2.1 E.2.2.1 ws.length 0 (fm_snoc_at _ _) rfl (fm_in_vp hin) hdg (fun H1 locs1 a1 a2 a3 => kk H1 locs1 ⟨?_, ?_, a3, E.2.2.2⟩)
  · rw [fm_set_snoc] at a1; exact a1
  · rw [fm_set_snoc] at a2; exact a2
/-- a store into an array of the object that is being made: its memory changes -/
theorem fm_kiast (C : fm_kc G p s m args c cc nL own) (E : fm_kW G A (fm_kw G M b ci hl SH ad) s H locs) {i n a : Nat} {j x : Int32} {J : Nat} (hi : SH[i]? = some (0, n, [])) (h6 : fm_okS (b + 1 + SH.length) SH = true) (ha : ad (b + 1 + i) = a) (hin : fm_in j n = true) (hJ : j.toNatClampNeg = J) (hdg : decode cc pc = .ok (.iastore, 1))
    (kk : ∀ (H1 : Heap) (locs1 : List Loc), fm_kW G A (fm_kw G (fm_si M (b + 1 + i) J x) b ci hl SH ad) s H1 locs1 → W p l e R s m args below meth c H1 locs1 cells slots Q (F0 m (pc + 1) ls rest)) : W p l e R s m args below meth c H locs cells slots Q (F0 m pc ls (.int x :: .int j :: .ref a :: rest)) := by
  subst ha
  subst hJ
  have w1 : (fm_kw G M b ci hl SH ad)[i + 1]? = some (ad (b + 1 + i), .inl (G.2.2.1 0, n, .inl (M.1 (b + 1 + i)))) := fm_enS_at hi
  refine va_iast C.1 C.2.1 C.2.2.2.2.2.1 E.1 E.2.1 E.2.2.1 (i + 1) 0 w1 rfl (fm_in_vp hin) hdg (fun H1 locs1 a1 a2 a3 => ?_)
  have e1 : (fm_kw G M b ci hl SH ad).set (i + 1) (ad (b + 1 + i), .inl (G.2.2.1 0, n, .inl (upd (M.1 (b + 1 + i)) j.toNatClampNeg x))) = fm_kw G (fm_si M (b + 1 + i) j.toNatClampNeg x) b ci hl SH ad := by
    unfold fm_kw
    rw [List.set_cons_succ, fm_si_ne (show b ≠ b + 1 + i by omega)]
    congr 1
    apply List.ext_getElem?
    intro u
    by_cases hu : u < SH.length
    · obtain ⟨sh, hs⟩ : ∃ sh, SH[u]? = some sh := ⟨SH[u], List.getElem?_eq_getElem hu⟩
      rw [List.getElem?_set, fm_enS_len]
      by_cases hiu : i = u
      · subst hiu
        have hc : fm_cell (fm_ga G ad) (fm_si M (b + 1 + i) j.toNatClampNeg x) sh (b + 1 + i) = .inl (G.2.2.1 0, n, .inl (upd (M.1 (b + 1 + i)) j.toNatClampNeg x)) := by
          rw [Option.some.inj (hs.symm.trans hi)]
          exact congrArg (fun f => (Sum.inl (G.2.2.1 0, n, Sum.inl f) : va_E)) fm_si_eq
        rw [if_pos rfl, if_pos hu, fm_enS_at hs, hc]
      · rw [if_neg hiu, fm_enS_at hs, fm_enS_at hs]
        have h2 := List.all_eq_true.mp h6 sh (List.mem_of_getElem? hs)
        simp only [Bool.and_eq_true, Bool.not_eq_true', decide_eq_false_iff_not] at h2
        rw [fm_cell_off (M := M) (M' := fm_si M (b + 1 + i) j.toNatClampNeg x) (fm_si_ne (by omega)) rfl (fun z => absurd z h2.1)]
    · rw [List.getElem?_eq_none (by rw [List.length_set, fm_enS_len]; omega), List.getElem?_eq_none (by rw [fm_enS_len]; omega)]
  exact kk H1 locs1 ⟨by rw [← e1]; exact a1, by rw [← e1]; exact a2, a3, E.2.2.2⟩
end FMX
theorem fm_ka_int : Cond.arrayClass .int ∈ fm_TT := fm_wd 150 (by decide +kernel) (by decide +kernel)
theorem fm_ka_byte : Cond.arrayClass .byte ∈ fm_TT := fm_wd 923 (by decide +kernel) (by decide +kernel)
theorem fm_ka_boolean : Cond.arrayClass .boolean ∈ fm_TT := fm_wd 168 (by decide +kernel) (by decide +kernel)
theorem fm_ka_long : Cond.arrayClass .long ∈ fm_TT := fm_wd 209 (by decide +kernel) (by decide +kernel)
theorem fm_koi : Cond.instanceMethod Lib.objectInit ∈ fm_TT := fm_wd 111 (by decide +kernel) (by decide +kernel)
theorem fm_koc : Cond.code Lib.objectInit ⟨#[0xb1]⟩ 1 none ∈ fm_TT := fm_wd 112 (by decide +kernel) (by decide +kernel)
theorem dX7_init_0 : decode cX7_init 0 = .ok (.aload_n 0, 1) := by decide +kernel
theorem dX7_init_1 : decode cX7_init 1 = .ok (.invokespecial 3, 3) := by decide +kernel
theorem dX7_init_4 : decode cX7_init 4 = .ok (.aload_n 0, 1) := by decide +kernel
theorem dX7_init_5 : decode cX7_init 5 = .ok (.bipush 6, 2) := by decide +kernel
theorem dX7_init_7 : decode cX7_init 7 = .ok (.bipush 6, 2) := by decide +kernel
theorem dX7_init_9 : decode cX7_init 9 = .ok (.multianewarray 9 2, 4) := by decide +kernel
theorem dX7_init_13 : decode cX7_init 13 = .ok (.putfield 11, 3) := by decide +kernel
theorem dX7_init_16 : decode cX7_init 16 = .ok (.aload_n 0, 1) := by decide +kernel
theorem dX7_init_17 : decode cX7_init 17 = .ok (.iconst 4, 1) := by decide +kernel
theorem dX7_init_18 : decode cX7_init 18 = .ok (.bipush 15, 2) := by decide +kernel
theorem dX7_init_20 : decode cX7_init 20 = .ok (.multianewarray 9 2, 4) := by decide +kernel
theorem dX7_init_24 : decode cX7_init 24 = .ok (.putfield 16, 3) := by decide +kernel
theorem dX7_init_27 : decode cX7_init 27 = .ok (.aload_n 0, 1) := by decide +kernel
theorem dX7_init_28 : decode cX7_init 28 = .ok (.iconst 3, 1) := by decide +kernel
theorem dX7_init_29 : decode cX7_init 29 = .ok (.newarray .int, 2) := by decide +kernel
theorem dX7_init_31 : decode cX7_init 31 = .ok (.dup, 1) := by decide +kernel
theorem dX7_init_32 : decode cX7_init 32 = .ok (.iconst 0, 1) := by decide +kernel
theorem dX7_init_33 : decode cX7_init 33 = .ok (.sipush 9999, 3) := by decide +kernel
theorem dX7_init_36 : decode cX7_init 36 = .ok (.iastore, 1) := by decide +kernel
theorem dX7_init_37 : decode cX7_init 37 = .ok (.dup, 1) := by decide +kernel
theorem dX7_init_38 : decode cX7_init 38 = .ok (.iconst 1, 1) := by decide +kernel
theorem dX7_init_39 : decode cX7_init 39 = .ok (.iconst 0, 1) := by decide +kernel
theorem dX7_init_40 : decode cX7_init 40 = .ok (.iastore, 1) := by decide +kernel
theorem dX7_init_41 : decode cX7_init 41 = .ok (.dup, 1) := by decide +kernel
theorem dX7_init_42 : decode cX7_init 42 = .ok (.iconst 2, 1) := by decide +kernel
theorem dX7_init_43 : decode cX7_init 43 = .ok (.bipush 16, 2) := by decide +kernel
theorem dX7_init_45 : decode cX7_init 45 = .ok (.iastore, 1) := by decide +kernel
theorem dX7_init_46 : decode cX7_init 46 = .ok (.putfield 19, 3) := by decide +kernel
theorem dX7_init_49 : decode cX7_init 49 = .ok (.return_, 1) := by decide +kernel
theorem kl_X7 : Cond.methodLink "MicRow$Scene" 3 Lib.objectInit ∈ fm_TT := fm_wd 118 (by decide +kernel) (by decide +kernel)
theorem kg_X7 : Cond.classLink "MicRow$Scene" 9 "[[I" ∈ fm_TT := fm_wd 119 (by decide +kernel) (by decide +kernel)
theorem kp_X7_11 : fm_Fc "MicRow$Scene" 11 7 2 true (.array (.array .int)) := ⟨TX7, 5, tyX7, rfl, inX7, (by decide), rfl, fm_wd 129 (by decide +kernel) (by decide +kernel), tyX7_ok, nmX7, rfl, (by decide +kernel)⟩
theorem kp_X7_16 : fm_Fc "MicRow$Scene" 16 7 3 true (.array (.array .int)) := ⟨TX7, 5, tyX7, rfl, inX7, (by decide), rfl, fm_wd 132 (by decide +kernel) (by decide +kernel), tyX7_ok, nmX7, rfl, (by decide +kernel)⟩
theorem kp_X7_19 : fm_Fc "MicRow$Scene" 19 7 4 true (.array .int) := ⟨TX7, 5, tyX7, rfl, inX7, (by decide), rfl, fm_wd 135 (by decide +kernel) (by decide +kernel), tyX7_ok, nmX7, rfl, (by decide +kernel)⟩
def shB_X7 (b : Nat) : List fm_Sh := [(14, 5, [none, none, some (b + 1), some (b + 8), some (b + 13)]), (4, 6, [some (b + 2), some (b + 3), some (b + 4), some (b + 5), some (b + 6), some (b + 7)]), (0, 6, []), (0, 6, []), (0, 6, []), (0, 6, []), (0, 6, []), (0, 6, []), (4, 4, [some (b + 9), some (b + 10), some (b + 11), some (b + 12)]), (0, 15, []), (0, 15, []), (0, 15, []), (0, 15, []), (0, 3, [])]
set_option maxHeartbeats 4000000 in
set_option maxRecDepth 20000 in
theorem k_X7 (l : Launch) (G : fm_G) (M : fm_M) (b : Nat) (hM : fm_scM M b) : fm_kMet l yX7_init cX7_init 1 { frames := 1, cells := 13, slots := 109, locals := 20 } G M b 7 [.int 0, .int 0, .null, .null, .null] (shB_X7 b) (fun _ => []) 13 109 := by
  refine fm_kenter (by decide) rfl (fun ad => Nat.le_of_ble_eq_true rfl) ?_
  intro a0 p e s m args below meth c ls C N E hl
  have hl : lv_has ls 1 [(0, .ref (a0 b))] := hl
  have E : fm_kW G (fm_kA (a0 b) s.heap.size) (fm_kw G M b 7 [2, 2, 1, 1, 1] [] a0) s s.heap [] := E
  refine lv_aload_n C.1 C.2.1 dX7_init_0 rfl (lv_at hl 0 rfl) ?_
  refine fm_kobj C kl_X7 fm_koi fm_koc hl.1 ⟨by decide, by decide⟩ dX7_init_1 ?_
  refine lv_aload_n C.1 C.2.1 dX7_init_4 rfl (lv_at hl 0 rfl) ?_
  refine lv_bipush (v := 6) C.1 C.2.1 dX7_init_5 (by decide) ?_
  refine lv_bipush (v := 6) C.1 C.2.1 dX7_init_7 (by decide) ?_
  refine fm_kmna (N := 6) (K := 6) (k := (b + 1)) C E kg_X7 fm_ka_int (by decide) (by decide) (by decide) (by decide) ⟨Nat.le_of_ble_eq_true rfl, Nat.le_of_ble_eq_true rfl⟩ ⟨Nat.le_of_ble_eq_true rfl, Nat.le_of_ble_eq_true rfl⟩ dX7_init_9 [(4, 6, [some (b + 2), some (b + 3), some (b + 4), some (b + 5), some (b + 6), some (b + 7)]), (0, 6, []), (0, 6, []), (0, 6, []), (0, 6, []), (0, 6, []), (0, 6, [])] rfl rfl (by simp [fm_okh] <;> omega) (by simp [fm_okS, fm_okv] <;> omega) hM.2.1 (fun a1 H h1 E => ?_)
  refine fm_kput (k := (b + 1)) C N.1 E kp_X7_11 rfl rfl (by simp) (h1 b (by omega)) rfl dX7_init_13 (fun H locs E => ?_)
  have E : fm_kW G (fm_kA (a0 b) s.heap.size) (fm_kw G M b 7 [2, 2, (b + 1) + 3, 1, 1] [(4, 6, [some (b + 2), some (b + 3), some (b + 4), some (b + 5), some (b + 6), some (b + 7)]), (0, 6, []), (0, 6, []), (0, 6, []), (0, 6, []), (0, 6, []), (0, 6, [])] a1) s _ _ := E
  refine lv_aload_n C.1 C.2.1 dX7_init_16 rfl (lv_at hl 0 rfl) ?_
  refine lv_iconst (v := 4) C.1 C.2.1 dX7_init_17 (by decide) ?_
  refine lv_bipush (v := 15) C.1 C.2.1 dX7_init_18 (by decide) ?_
  refine fm_kmna (N := 4) (K := 15) (k := (b + 8)) C E kg_X7 fm_ka_int (by decide) (by decide) (by decide) (by decide) ⟨Nat.le_of_ble_eq_true rfl, Nat.le_of_ble_eq_true rfl⟩ ⟨Nat.le_of_ble_eq_true rfl, Nat.le_of_ble_eq_true rfl⟩ dX7_init_20 [(4, 6, [some (b + 2), some (b + 3), some (b + 4), some (b + 5), some (b + 6), some (b + 7)]), (0, 6, []), (0, 6, []), (0, 6, []), (0, 6, []), (0, 6, []), (0, 6, []), (4, 4, [some (b + 9), some (b + 10), some (b + 11), some (b + 12)]), (0, 15, []), (0, 15, []), (0, 15, []), (0, 15, [])] rfl rfl (by simp [fm_okh] <;> omega) (by simp [fm_okS, fm_okv] <;> omega) hM.2.2.1 (fun a2 H h2 E => ?_)
  refine fm_kput (k := (b + 8)) C N.1 E kp_X7_16 rfl rfl (by simp) ((h2 b (by omega)).trans (h1 b (by omega))) rfl dX7_init_24 (fun H locs E => ?_)
  have E : fm_kW G (fm_kA (a0 b) s.heap.size) (fm_kw G M b 7 [2, 2, (b + 1) + 3, (b + 8) + 3, 1] [(4, 6, [some (b + 2), some (b + 3), some (b + 4), some (b + 5), some (b + 6), some (b + 7)]), (0, 6, []), (0, 6, []), (0, 6, []), (0, 6, []), (0, 6, []), (0, 6, []), (4, 4, [some (b + 9), some (b + 10), some (b + 11), some (b + 12)]), (0, 15, []), (0, 15, []), (0, 15, []), (0, 15, [])] a2) s _ _ := E
  refine lv_aload_n C.1 C.2.1 dX7_init_27 rfl (lv_at hl 0 rfl) ?_
  refine lv_iconst (v := 3) C.1 C.2.1 dX7_init_28 (by decide) ?_
  refine fm_knewa (atype := .int) (t := 0) (N' := 3) (a0 := (3, .inl (fun _ => 0))) C E rfl rfl fm_ka_int (fun _ => rfl) (by decide) (by decide) (Nat.le_of_ble_eq_true rfl) ⟨Nat.le_of_ble_eq_true rfl, Nat.le_of_ble_eq_true rfl⟩ dX7_init_29 (fun q29 H E => ?_)
  refine lv_dup C.1 C.2.1 dX7_init_31 rfl ?_
  refine lv_iconst (v := 0) C.1 C.2.1 dX7_init_32 (by decide) ?_
  refine lv_sipush (v := 9999) C.1 C.2.1 dX7_init_33 (by decide) ?_
  refine fm_kiax (J := 0) C E (by decide) (by decide) dX7_init_36 (fun H locs E => ?_)
  refine lv_dup C.1 C.2.1 dX7_init_37 rfl ?_
  refine lv_iconst (v := 1) C.1 C.2.1 dX7_init_38 (by decide) ?_
  refine lv_iconst (v := 0) C.1 C.2.1 dX7_init_39 (by decide) ?_
  refine fm_kiax (J := 1) C E (by decide) (by decide) dX7_init_40 (fun H locs E => ?_)
  refine lv_dup C.1 C.2.1 dX7_init_41 rfl ?_
  refine lv_iconst (v := 2) C.1 C.2.1 dX7_init_42 (by decide) ?_
  refine lv_bipush (v := 16) C.1 C.2.1 dX7_init_43 (by decide) ?_
  refine fm_kiax (J := 2) C E (by decide) (by decide) dX7_init_45 (fun H locs E => ?_)
  rw [fm_kfold (sh := (0, 3, [])) (k := (b + 13)) rfl (by simp [fm_okh] <;> omega) (by simp [fm_okS, fm_okv] <;> omega) (by show Sum.inl (_, _, Sum.inl (M.1 (b + 13))) = _; rw [hM.2.2.2]; rfl)] at E
  have g3 : fm_au a2 (b + 13) q29 (b + 13) = q29 := fm_au_at
  have h3 : ∀ j, j < (b + 13) → fm_au a2 (b + 13) q29 j = a2 j := fm_au_lt
  generalize fm_au a2 (b + 13) q29 = a3 at E g3 h3
  refine fm_kput (k := (b + 13)) C N.1 E kp_X7_19 rfl rfl (by simp) ((h3 b (by omega)).trans ((h2 b (by omega)).trans (h1 b (by omega)))) g3 dX7_init_46 (fun H locs E => ?_)
  have E : fm_kW G (fm_kA (a0 b) s.heap.size) (fm_kw G M b 7 [2, 2, (b + 1) + 3, (b + 8) + 3, (b + 13) + 3] [(4, 6, [some (b + 2), some (b + 3), some (b + 4), some (b + 5), some (b + 6), some (b + 7)]), (0, 6, []), (0, 6, []), (0, 6, []), (0, 6, []), (0, 6, []), (0, 6, []), (4, 4, [some (b + 9), some (b + 10), some (b + 11), some (b + 12)]), (0, 15, []), (0, 15, []), (0, 15, []), (0, 15, []), (0, 3, [])] a3) s _ _ := E
  exact W.widen (Nat.le_of_ble_eq_true rfl) (Nat.le_of_ble_eq_true rfl) (fm_kret (n := 5) (fl := [none, none, some (b + 1), some (b + 8), some (b + 13)]) C N E (by rw [hM.1]; rfl) rfl (fun j hj => ((h3 j (by omega)).trans ((h2 j (by omega)).trans (h1 j (by omega))))) dX7_init_49)
theorem fm_sc1 : fm_scM fm_m0 1 := ⟨rfl, fm_zall (by decide +kernel), fm_zall (by decide +kernel), rfl⟩
theorem fm_sc15 : fm_scM fm_m0 15 := ⟨rfl, fm_zall (by decide +kernel), fm_zall (by decide +kernel), rfl⟩
theorem fm_sc30 : fm_scM fm_m0 30 := ⟨rfl, fm_zall (by decide +kernel), fm_zall (by decide +kernel), rfl⟩
theorem fm_sc44 : fm_scM fm_m0 44 := ⟨rfl, fm_zall (by decide +kernel), fm_zall (by decide +kernel), rfl⟩
theorem fm_sc61 : fm_scM fm_m0 61 := ⟨rfl, fm_zall (by decide +kernel), fm_zall (by decide +kernel), rfl⟩
theorem fm_sc75 : fm_scM fm_m0 75 := ⟨rfl, fm_zall (by decide +kernel), fm_zall (by decide +kernel), rfl⟩
theorem fm_sc89 : fm_scM fm_m0 89 := ⟨rfl, fm_zall (by decide +kernel), fm_zall (by decide +kernel), rfl⟩
theorem fm_sc103 : fm_scM fm_m0 103 := ⟨rfl, fm_zall (by decide +kernel), fm_zall (by decide +kernel), rfl⟩
theorem fm_sc117 : fm_scM fm_m0 117 := ⟨rfl, fm_zall (by decide +kernel), fm_zall (by decide +kernel), rfl⟩
theorem fm_sc131 : fm_scM fm_m0 131 := ⟨rfl, fm_zall (by decide +kernel), fm_zall (by decide +kernel), rfl⟩
theorem fm_sc145 : fm_scM fm_m0 145 := ⟨rfl, fm_zall (by decide +kernel), fm_zall (by decide +kernel), rfl⟩
theorem fm_sc159 : fm_scM fm_m0 159 := ⟨rfl, fm_zall (by decide +kernel), fm_zall (by decide +kernel), rfl⟩
theorem dX5_init_0 : decode cX5_init 0 = .ok (.aload_n 0, 1) := by decide +kernel
theorem dX5_init_1 : decode cX5_init 1 = .ok (.invokespecial 3, 3) := by decide +kernel
theorem dX5_init_4 : decode cX5_init 4 = .ok (.aload_n 0, 1) := by decide +kernel
theorem dX5_init_5 : decode cX5_init 5 = .ok (.bipush 8, 2) := by decide +kernel
theorem dX5_init_7 : decode cX5_init 7 = .ok (.anewarray 9, 3) := by decide +kernel
theorem dX5_init_10 : decode cX5_init 10 = .ok (.dup, 1) := by decide +kernel
theorem dX5_init_11 : decode cX5_init 11 = .ok (.iconst 0, 1) := by decide +kernel
theorem dX5_init_12 : decode cX5_init 12 = .ok (.new 9, 3) := by decide +kernel
theorem dX5_init_15 : decode cX5_init 15 = .ok (.dup, 1) := by decide +kernel
theorem dX5_init_16 : decode cX5_init 16 = .ok (.invokespecial 11, 3) := by decide +kernel
theorem dX5_init_19 : decode cX5_init 19 = .ok (.aastore, 1) := by decide +kernel
theorem dX5_init_20 : decode cX5_init 20 = .ok (.dup, 1) := by decide +kernel
theorem dX5_init_21 : decode cX5_init 21 = .ok (.iconst 1, 1) := by decide +kernel
theorem dX5_init_22 : decode cX5_init 22 = .ok (.new 9, 3) := by decide +kernel
theorem dX5_init_25 : decode cX5_init 25 = .ok (.dup, 1) := by decide +kernel
theorem dX5_init_26 : decode cX5_init 26 = .ok (.invokespecial 11, 3) := by decide +kernel
theorem dX5_init_29 : decode cX5_init 29 = .ok (.aastore, 1) := by decide +kernel
theorem dX5_init_30 : decode cX5_init 30 = .ok (.dup, 1) := by decide +kernel
theorem dX5_init_31 : decode cX5_init 31 = .ok (.iconst 2, 1) := by decide +kernel
theorem dX5_init_32 : decode cX5_init 32 = .ok (.new 9, 3) := by decide +kernel
theorem dX5_init_35 : decode cX5_init 35 = .ok (.dup, 1) := by decide +kernel
theorem dX5_init_36 : decode cX5_init 36 = .ok (.invokespecial 11, 3) := by decide +kernel
theorem dX5_init_39 : decode cX5_init 39 = .ok (.aastore, 1) := by decide +kernel
theorem dX5_init_40 : decode cX5_init 40 = .ok (.dup, 1) := by decide +kernel
theorem dX5_init_41 : decode cX5_init 41 = .ok (.iconst 3, 1) := by decide +kernel
theorem dX5_init_42 : decode cX5_init 42 = .ok (.new 9, 3) := by decide +kernel
theorem dX5_init_45 : decode cX5_init 45 = .ok (.dup, 1) := by decide +kernel
theorem dX5_init_46 : decode cX5_init 46 = .ok (.invokespecial 11, 3) := by decide +kernel
theorem dX5_init_49 : decode cX5_init 49 = .ok (.aastore, 1) := by decide +kernel
theorem dX5_init_50 : decode cX5_init 50 = .ok (.dup, 1) := by decide +kernel
theorem dX5_init_51 : decode cX5_init 51 = .ok (.iconst 4, 1) := by decide +kernel
theorem dX5_init_52 : decode cX5_init 52 = .ok (.new 9, 3) := by decide +kernel
theorem dX5_init_55 : decode cX5_init 55 = .ok (.dup, 1) := by decide +kernel
theorem dX5_init_56 : decode cX5_init 56 = .ok (.invokespecial 11, 3) := by decide +kernel
theorem dX5_init_59 : decode cX5_init 59 = .ok (.aastore, 1) := by decide +kernel
theorem dX5_init_60 : decode cX5_init 60 = .ok (.dup, 1) := by decide +kernel
theorem dX5_init_61 : decode cX5_init 61 = .ok (.iconst 5, 1) := by decide +kernel
theorem dX5_init_62 : decode cX5_init 62 = .ok (.new 9, 3) := by decide +kernel
theorem dX5_init_65 : decode cX5_init 65 = .ok (.dup, 1) := by decide +kernel
theorem dX5_init_66 : decode cX5_init 66 = .ok (.invokespecial 11, 3) := by decide +kernel
theorem dX5_init_69 : decode cX5_init 69 = .ok (.aastore, 1) := by decide +kernel
theorem dX5_init_70 : decode cX5_init 70 = .ok (.dup, 1) := by decide +kernel
theorem dX5_init_71 : decode cX5_init 71 = .ok (.bipush 6, 2) := by decide +kernel
theorem dX5_init_73 : decode cX5_init 73 = .ok (.new 9, 3) := by decide +kernel
theorem dX5_init_76 : decode cX5_init 76 = .ok (.dup, 1) := by decide +kernel
theorem dX5_init_77 : decode cX5_init 77 = .ok (.invokespecial 11, 3) := by decide +kernel
theorem dX5_init_80 : decode cX5_init 80 = .ok (.aastore, 1) := by decide +kernel
theorem dX5_init_81 : decode cX5_init 81 = .ok (.dup, 1) := by decide +kernel
theorem dX5_init_82 : decode cX5_init 82 = .ok (.bipush 7, 2) := by decide +kernel
theorem dX5_init_84 : decode cX5_init 84 = .ok (.new 9, 3) := by decide +kernel
theorem dX5_init_87 : decode cX5_init 87 = .ok (.dup, 1) := by decide +kernel
theorem dX5_init_88 : decode cX5_init 88 = .ok (.invokespecial 11, 3) := by decide +kernel
theorem dX5_init_91 : decode cX5_init 91 = .ok (.aastore, 1) := by decide +kernel
theorem dX5_init_92 : decode cX5_init 92 = .ok (.putfield 12, 3) := by decide +kernel
theorem dX5_init_95 : decode cX5_init 95 = .ok (.return_, 1) := by decide +kernel
theorem kl_X5 : Cond.methodLink "MicRow$Past" 3 Lib.objectInit ∈ fm_TT := fm_wd 157 (by decide +kernel) (by decide +kernel)
theorem kh_X5 : Cond.classLink "MicRow$Past" 9 "MicRow$Scene" ∈ fm_TT := fm_wd 158 (by decide +kernel) (by decide +kernel)
theorem kn_X5_X7 : fm_N "MicRow$Past" 9 7 5 [.int 0, .int 0, .null, .null, .null] := ⟨RX7, TX7, tyX7, rfl, inX7, tyX7_ok, fm_wd 158 (by decide +kernel) (by decide +kernel), fm_wd 114 (by decide +kernel) (by decide +kernel), fm_wd 82 (by decide +kernel) (by decide +kernel), by decide +kernel⟩
theorem ki_X5_X7 : fm_I "MicRow$Past" 11 yX7_init 0 := ⟨Or.inr ⟨"MicRow", fm_nw 159 (by decide +kernel) (by decide +kernel)⟩, fm_wd 116 (by decide +kernel) (by decide +kernel), fm_wd 82 (by decide +kernel) (by decide +kernel), rfl, ⟨by decide, by decide, by decide +kernel⟩⟩
theorem kk_X7 : Cond.code yX7_init cX7_init 1 none ∈ fm_TT := fm_wd 117 (by decide +kernel) (by decide +kernel)
theorem kp_X5_12 : fm_Fc "MicRow$Past" 12 5 0 true (.array (.object "MicRow$Scene")) := ⟨TX5, 2, tyX5, rfl, inX5, (by decide), rfl, fm_wd 160 (by decide +kernel) (by decide +kernel), tyX5_ok, nmX5, rfl, (by decide +kernel)⟩
def shB_X5 : List fm_Sh := [(12, 2, [some 60, none]), (5, 8, [some 61, some 75, some 89, some 103, some 117, some 131, some 145, some 159]), (14, 5, [none, none, some 62, some 69, some 74]), (4, 6, [some 63, some 64, some 65, some 66, some 67, some 68]), (0, 6, []), (0, 6, []), (0, 6, []), (0, 6, []), (0, 6, []), (0, 6, []), (4, 4, [some 70, some 71, some 72, some 73]), (0, 15, []), (0, 15, []), (0, 15, []), (0, 15, []), (0, 3, []), (14, 5, [none, none, some 76, some 83, some 88]), (4, 6, [some 77, some 78, some 79, some 80, some 81, some 82]), (0, 6, []), (0, 6, []), (0, 6, []), (0, 6, []), (0, 6, []), (0, 6, []), (4, 4, [some 84, some 85, some 86, some 87]), (0, 15, []), (0, 15, []), (0, 15, []), (0, 15, []), (0, 3, []), (14, 5, [none, none, some 90, some 97, some 102]), (4, 6, [some 91, some 92, some 93, some 94, some 95, some 96]), (0, 6, []), (0, 6, []), (0, 6, []), (0, 6, []), (0, 6, []), (0, 6, []), (4, 4, [some 98, some 99, some 100, some 101]), (0, 15, []), (0, 15, []), (0, 15, []), (0, 15, []), (0, 3, []), (14, 5, [none, none, some 104, some 111, some 116]), (4, 6, [some 105, some 106, some 107, some 108, some 109, some 110]), (0, 6, []), (0, 6, []), (0, 6, []), (0, 6, []), (0, 6, []), (0, 6, []), (4, 4, [some 112, some 113, some 114, some 115]), (0, 15, []), (0, 15, []), (0, 15, []), (0, 15, []), (0, 3, []), (14, 5, [none, none, some 118, some 125, some 130]), (4, 6, [some 119, some 120, some 121, some 122, some 123, some 124]), (0, 6, []), (0, 6, []), (0, 6, []), (0, 6, []), (0, 6, []), (0, 6, []), (4, 4, [some 126, some 127, some 128, some 129]), (0, 15, []), (0, 15, []), (0, 15, []), (0, 15, []), (0, 3, []), (14, 5, [none, none, some 132, some 139, some 144]), (4, 6, [some 133, some 134, some 135, some 136, some 137, some 138]), (0, 6, []), (0, 6, []), (0, 6, []), (0, 6, []), (0, 6, []), (0, 6, []), (4, 4, [some 140, some 141, some 142, some 143]), (0, 15, []), (0, 15, []), (0, 15, []), (0, 15, []), (0, 3, []), (14, 5, [none, none, some 146, some 153, some 158]), (4, 6, [some 147, some 148, some 149, some 150, some 151, some 152]), (0, 6, []), (0, 6, []), (0, 6, []), (0, 6, []), (0, 6, []), (0, 6, []), (4, 4, [some 154, some 155, some 156, some 157]), (0, 15, []), (0, 15, []), (0, 15, []), (0, 15, []), (0, 3, []), (14, 5, [none, none, some 160, some 167, some 172]), (4, 6, [some 161, some 162, some 163, some 164, some 165, some 166]), (0, 6, []), (0, 6, []), (0, 6, []), (0, 6, []), (0, 6, []), (0, 6, []), (4, 4, [some 168, some 169, some 170, some 171]), (0, 15, []), (0, 15, []), (0, 15, []), (0, 15, []), (0, 3, [])]
set_option maxHeartbeats 4000000 in
set_option maxRecDepth 20000 in
theorem k_X5 (l : Launch) (G : fm_G) : fm_kMet l yX5_init cX5_init 1 { frames := 2, cells := 113, slots := 920, locals := 40 } G fm_m0 59 5 [.null, .int 0] shB_X5 (fun _ => []) 113 920 := by
  refine fm_kenter (by decide) rfl (fun ad => Nat.le_of_ble_eq_true rfl) ?_
  intro a0 p e s m args below meth c ls C N E hl
  have hl : lv_has ls 1 [(0, .ref (a0 59))] := hl
  have E : fm_kW G (fm_kA (a0 59) s.heap.size) (fm_kw G fm_m0 59 5 [1, 2] [] a0) s s.heap [] := E
  refine lv_aload_n C.1 C.2.1 dX5_init_0 rfl (lv_at hl 0 rfl) ?_
  refine fm_kobj C kl_X5 fm_koi fm_koc hl.1 ⟨by decide, by decide⟩ dX5_init_1 ?_
  refine lv_aload_n C.1 C.2.1 dX5_init_4 rfl (lv_at hl 0 rfl) ?_
  refine lv_bipush (v := 8) C.1 C.2.1 dX5_init_5 (by decide) ?_
  refine fm_kwq (N' := 8) (k := 60) C E kh_X5 (by decide) (by decide) (Nat.le_of_ble_eq_true rfl) ⟨Nat.le_of_ble_eq_true rfl, Nat.le_of_ble_eq_true rfl⟩ dX5_init_7 [none, none, none, none, none, none, none, none] (by decide) rfl (by decide) (by decide +kernel) (fun a1 H h1 E => ?_)
  have E : fm_kW G (fm_kA (a0 59) s.heap.size) (fm_kw G fm_m0 59 5 [1, 2] [(5, 8, [none, none, none, none, none, none, none, none])] a1) s _ _ := E
  refine lv_dup C.1 C.2.1 dX5_init_10 rfl ?_
  refine lv_iconst (v := 0) C.1 C.2.1 dX5_init_11 (by decide) ?_
  refine fm_knew C E kn_X5_X7 ⟨Nat.le_of_ble_eq_true rfl, Nat.le_of_ble_eq_true rfl⟩ dX5_init_12 (fun q12 H E => ?_)
  refine lv_dup C.1 C.2.1 dX5_init_15 rfl ?_
  refine fm_kinit (rest := [.ref _, .int _, .ref _, .ref _, .ref _]) C E [] ki_X5_X7 kk_X7 (k_X7 l G fm_m0 61 fm_sc61) rfl (by decide) (by decide +kernel) rfl rfl hl.1 (by simp [Value.category]) ⟨⟨rfl, rfl⟩, by decide, by decide⟩ ⟨Nat.le_of_ble_eq_true rfl, Nat.le_of_ble_eq_true rfl⟩ dX5_init_16 rfl (fun a2 H locs h2 g2 E => ?_)
  refine W.eq (g2 := F0 m 19 ls [.ref q12, .int 0, .ref (a1 60), .ref (a1 60), .ref (a0 59)]) rfl ?_
  have E : fm_kW G (fm_kA (a0 59) s.heap.size) (fm_kw G fm_m0 59 5 [1, 2] ([(5, 8, [none, none, none, none, none, none, none, none])] ++ shB_X7 61) a2) s _ _ := E
  refine fm_kaast (i := 0) (iv := 1) (kv := 61) (J := 0) C E rfl rfl rfl (h2 60 (by omega)) g2 (by decide) (by decide) (by decide) dX5_init_19 ([(5, 8, [some 61, none, none, none, none, none, none, none])] ++ shB_X7 61) rfl (fun H locs E => ?_)
  refine lv_dup C.1 C.2.1 dX5_init_20 rfl ?_
  refine lv_iconst (v := 1) C.1 C.2.1 dX5_init_21 (by decide) ?_
  refine fm_knew C E kn_X5_X7 ⟨Nat.le_of_ble_eq_true rfl, Nat.le_of_ble_eq_true rfl⟩ dX5_init_22 (fun q22 H E => ?_)
  refine lv_dup C.1 C.2.1 dX5_init_25 rfl ?_
  refine fm_kinit (rest := [.ref _, .int _, .ref _, .ref _, .ref _]) C E [] ki_X5_X7 kk_X7 (k_X7 l G fm_m0 75 fm_sc75) rfl (by decide) (by decide +kernel) rfl rfl hl.1 (by simp [Value.category]) ⟨⟨rfl, rfl⟩, by decide, by decide⟩ ⟨Nat.le_of_ble_eq_true rfl, Nat.le_of_ble_eq_true rfl⟩ dX5_init_26 rfl (fun a3 H locs h3 g3 E => ?_)
  refine W.eq (g2 := F0 m 29 ls [.ref q22, .int 1, .ref (a1 60), .ref (a1 60), .ref (a0 59)]) rfl ?_
  have E : fm_kW G (fm_kA (a0 59) s.heap.size) (fm_kw G fm_m0 59 5 [1, 2] ([(5, 8, [some 61, none, none, none, none, none, none, none])] ++ shB_X7 61 ++ shB_X7 75) a3) s _ _ := E
  refine fm_kaast (i := 0) (iv := 15) (kv := 75) (J := 1) C E rfl rfl rfl ((h3 60 (by omega)).trans (h2 60 (by omega))) g3 (by decide) (by decide) (by decide) dX5_init_29 ([(5, 8, [some 61, some 75, none, none, none, none, none, none])] ++ shB_X7 61 ++ shB_X7 75) rfl (fun H locs E => ?_)
  refine lv_dup C.1 C.2.1 dX5_init_30 rfl ?_
  refine lv_iconst (v := 2) C.1 C.2.1 dX5_init_31 (by decide) ?_
  refine fm_knew C E kn_X5_X7 ⟨Nat.le_of_ble_eq_true rfl, Nat.le_of_ble_eq_true rfl⟩ dX5_init_32 (fun q32 H E => ?_)
  refine lv_dup C.1 C.2.1 dX5_init_35 rfl ?_
  refine fm_kinit (rest := [.ref _, .int _, .ref _, .ref _, .ref _]) C E [] ki_X5_X7 kk_X7 (k_X7 l G fm_m0 89 fm_sc89) rfl (by decide) (by decide +kernel) rfl rfl hl.1 (by simp [Value.category]) ⟨⟨rfl, rfl⟩, by decide, by decide⟩ ⟨Nat.le_of_ble_eq_true rfl, Nat.le_of_ble_eq_true rfl⟩ dX5_init_36 rfl (fun a4 H locs h4 g4 E => ?_)
  refine W.eq (g2 := F0 m 39 ls [.ref q32, .int 2, .ref (a1 60), .ref (a1 60), .ref (a0 59)]) rfl ?_
  have E : fm_kW G (fm_kA (a0 59) s.heap.size) (fm_kw G fm_m0 59 5 [1, 2] ([(5, 8, [some 61, some 75, none, none, none, none, none, none])] ++ shB_X7 61 ++ shB_X7 75 ++ shB_X7 89) a4) s _ _ := E
  refine fm_kaast (i := 0) (iv := 29) (kv := 89) (J := 2) C E rfl rfl rfl ((h4 60 (by omega)).trans ((h3 60 (by omega)).trans (h2 60 (by omega)))) g4 (by decide) (by decide) (by decide) dX5_init_39 ([(5, 8, [some 61, some 75, some 89, none, none, none, none, none])] ++ shB_X7 61 ++ shB_X7 75 ++ shB_X7 89) rfl (fun H locs E => ?_)
  refine lv_dup C.1 C.2.1 dX5_init_40 rfl ?_
  refine lv_iconst (v := 3) C.1 C.2.1 dX5_init_41 (by decide) ?_
  refine fm_knew C E kn_X5_X7 ⟨Nat.le_of_ble_eq_true rfl, Nat.le_of_ble_eq_true rfl⟩ dX5_init_42 (fun q42 H E => ?_)
  refine lv_dup C.1 C.2.1 dX5_init_45 rfl ?_
  refine fm_kinit (rest := [.ref _, .int _, .ref _, .ref _, .ref _]) C E [] ki_X5_X7 kk_X7 (k_X7 l G fm_m0 103 fm_sc103) rfl (by decide) (by decide +kernel) rfl rfl hl.1 (by simp [Value.category]) ⟨⟨rfl, rfl⟩, by decide, by decide⟩ ⟨Nat.le_of_ble_eq_true rfl, Nat.le_of_ble_eq_true rfl⟩ dX5_init_46 rfl (fun a5 H locs h5 g5 E => ?_)
  refine W.eq (g2 := F0 m 49 ls [.ref q42, .int 3, .ref (a1 60), .ref (a1 60), .ref (a0 59)]) rfl ?_
  have E : fm_kW G (fm_kA (a0 59) s.heap.size) (fm_kw G fm_m0 59 5 [1, 2] ([(5, 8, [some 61, some 75, some 89, none, none, none, none, none])] ++ shB_X7 61 ++ shB_X7 75 ++ shB_X7 89 ++ shB_X7 103) a5) s _ _ := E
  refine fm_kaast (i := 0) (iv := 43) (kv := 103) (J := 3) C E rfl rfl rfl ((h5 60 (by omega)).trans ((h4 60 (by omega)).trans ((h3 60 (by omega)).trans (h2 60 (by omega))))) g5 (by decide) (by decide) (by decide) dX5_init_49 ([(5, 8, [some 61, some 75, some 89, some 103, none, none, none, none])] ++ shB_X7 61 ++ shB_X7 75 ++ shB_X7 89 ++ shB_X7 103) rfl (fun H locs E => ?_)
  refine lv_dup C.1 C.2.1 dX5_init_50 rfl ?_
  refine lv_iconst (v := 4) C.1 C.2.1 dX5_init_51 (by decide) ?_
  refine fm_knew C E kn_X5_X7 ⟨Nat.le_of_ble_eq_true rfl, Nat.le_of_ble_eq_true rfl⟩ dX5_init_52 (fun q52 H E => ?_)
  refine lv_dup C.1 C.2.1 dX5_init_55 rfl ?_
  refine fm_kinit (rest := [.ref _, .int _, .ref _, .ref _, .ref _]) C E [] ki_X5_X7 kk_X7 (k_X7 l G fm_m0 117 fm_sc117) rfl (by decide) (by decide +kernel) rfl rfl hl.1 (by simp [Value.category]) ⟨⟨rfl, rfl⟩, by decide, by decide⟩ ⟨Nat.le_of_ble_eq_true rfl, Nat.le_of_ble_eq_true rfl⟩ dX5_init_56 rfl (fun a6 H locs h6 g6 E => ?_)
  refine W.eq (g2 := F0 m 59 ls [.ref q52, .int 4, .ref (a1 60), .ref (a1 60), .ref (a0 59)]) rfl ?_
  have E : fm_kW G (fm_kA (a0 59) s.heap.size) (fm_kw G fm_m0 59 5 [1, 2] ([(5, 8, [some 61, some 75, some 89, some 103, none, none, none, none])] ++ shB_X7 61 ++ shB_X7 75 ++ shB_X7 89 ++ shB_X7 103 ++ shB_X7 117) a6) s _ _ := E
  refine fm_kaast (i := 0) (iv := 57) (kv := 117) (J := 4) C E rfl rfl rfl ((h6 60 (by omega)).trans ((h5 60 (by omega)).trans ((h4 60 (by omega)).trans ((h3 60 (by omega)).trans (h2 60 (by omega)))))) g6 (by decide) (by decide) (by decide) dX5_init_59 ([(5, 8, [some 61, some 75, some 89, some 103, some 117, none, none, none])] ++ shB_X7 61 ++ shB_X7 75 ++ shB_X7 89 ++ shB_X7 103 ++ shB_X7 117) rfl (fun H locs E => ?_)
  refine lv_dup C.1 C.2.1 dX5_init_60 rfl ?_
  refine lv_iconst (v := 5) C.1 C.2.1 dX5_init_61 (by decide) ?_
  refine fm_knew C E kn_X5_X7 ⟨Nat.le_of_ble_eq_true rfl, Nat.le_of_ble_eq_true rfl⟩ dX5_init_62 (fun q62 H E => ?_)
  refine lv_dup C.1 C.2.1 dX5_init_65 rfl ?_
  refine fm_kinit (rest := [.ref _, .int _, .ref _, .ref _, .ref _]) C E [] ki_X5_X7 kk_X7 (k_X7 l G fm_m0 131 fm_sc131) rfl (by decide) (by decide +kernel) rfl rfl hl.1 (by simp [Value.category]) ⟨⟨rfl, rfl⟩, by decide, by decide⟩ ⟨Nat.le_of_ble_eq_true rfl, Nat.le_of_ble_eq_true rfl⟩ dX5_init_66 rfl (fun a7 H locs h7 g7 E => ?_)
  refine W.eq (g2 := F0 m 69 ls [.ref q62, .int 5, .ref (a1 60), .ref (a1 60), .ref (a0 59)]) rfl ?_
  have E : fm_kW G (fm_kA (a0 59) s.heap.size) (fm_kw G fm_m0 59 5 [1, 2] ([(5, 8, [some 61, some 75, some 89, some 103, some 117, none, none, none])] ++ shB_X7 61 ++ shB_X7 75 ++ shB_X7 89 ++ shB_X7 103 ++ shB_X7 117 ++ shB_X7 131) a7) s _ _ := E
  refine fm_kaast (i := 0) (iv := 71) (kv := 131) (J := 5) C E rfl rfl rfl ((h7 60 (by omega)).trans ((h6 60 (by omega)).trans ((h5 60 (by omega)).trans ((h4 60 (by omega)).trans ((h3 60 (by omega)).trans (h2 60 (by omega))))))) g7 (by decide) (by decide) (by decide) dX5_init_69 ([(5, 8, [some 61, some 75, some 89, some 103, some 117, some 131, none, none])] ++ shB_X7 61 ++ shB_X7 75 ++ shB_X7 89 ++ shB_X7 103 ++ shB_X7 117 ++ shB_X7 131) rfl (fun H locs E => ?_)
  refine lv_dup C.1 C.2.1 dX5_init_70 rfl ?_
  refine lv_bipush (v := 6) C.1 C.2.1 dX5_init_71 (by decide) ?_
  refine fm_knew C E kn_X5_X7 ⟨Nat.le_of_ble_eq_true rfl, Nat.le_of_ble_eq_true rfl⟩ dX5_init_73 (fun q73 H E => ?_)
  refine lv_dup C.1 C.2.1 dX5_init_76 rfl ?_
  refine fm_kinit (rest := [.ref _, .int _, .ref _, .ref _, .ref _]) C E [] ki_X5_X7 kk_X7 (k_X7 l G fm_m0 145 fm_sc145) rfl (by decide) (by decide +kernel) rfl rfl hl.1 (by simp [Value.category]) ⟨⟨rfl, rfl⟩, by decide, by decide⟩ ⟨Nat.le_of_ble_eq_true rfl, Nat.le_of_ble_eq_true rfl⟩ dX5_init_77 rfl (fun a8 H locs h8 g8 E => ?_)
  refine W.eq (g2 := F0 m 80 ls [.ref q73, .int 6, .ref (a1 60), .ref (a1 60), .ref (a0 59)]) rfl ?_
  have E : fm_kW G (fm_kA (a0 59) s.heap.size) (fm_kw G fm_m0 59 5 [1, 2] ([(5, 8, [some 61, some 75, some 89, some 103, some 117, some 131, none, none])] ++ shB_X7 61 ++ shB_X7 75 ++ shB_X7 89 ++ shB_X7 103 ++ shB_X7 117 ++ shB_X7 131 ++ shB_X7 145) a8) s _ _ := E
  refine fm_kaast (i := 0) (iv := 85) (kv := 145) (J := 6) C E rfl rfl rfl ((h8 60 (by omega)).trans ((h7 60 (by omega)).trans ((h6 60 (by omega)).trans ((h5 60 (by omega)).trans ((h4 60 (by omega)).trans ((h3 60 (by omega)).trans (h2 60 (by omega)))))))) g8 (by decide) (by decide) (by decide) dX5_init_80 ([(5, 8, [some 61, some 75, some 89, some 103, some 117, some 131, some 145, none])] ++ shB_X7 61 ++ shB_X7 75 ++ shB_X7 89 ++ shB_X7 103 ++ shB_X7 117 ++ shB_X7 131 ++ shB_X7 145) rfl (fun H locs E => ?_)
  refine lv_dup C.1 C.2.1 dX5_init_81 rfl ?_
  refine lv_bipush (v := 7) C.1 C.2.1 dX5_init_82 (by decide) ?_
  refine fm_knew C E kn_X5_X7 ⟨Nat.le_of_ble_eq_true rfl, Nat.le_of_ble_eq_true rfl⟩ dX5_init_84 (fun q84 H E => ?_)
  refine lv_dup C.1 C.2.1 dX5_init_87 rfl ?_
  refine fm_kinit (rest := [.ref _, .int _, .ref _, .ref _, .ref _]) C E [] ki_X5_X7 kk_X7 (k_X7 l G fm_m0 159 fm_sc159) rfl (by decide) (by decide +kernel) rfl rfl hl.1 (by simp [Value.category]) ⟨⟨rfl, rfl⟩, by decide, by decide⟩ ⟨Nat.le_of_ble_eq_true rfl, Nat.le_of_ble_eq_true rfl⟩ dX5_init_88 rfl (fun a9 H locs h9 g9 E => ?_)
  refine W.eq (g2 := F0 m 91 ls [.ref q84, .int 7, .ref (a1 60), .ref (a1 60), .ref (a0 59)]) rfl ?_
  have E : fm_kW G (fm_kA (a0 59) s.heap.size) (fm_kw G fm_m0 59 5 [1, 2] ([(5, 8, [some 61, some 75, some 89, some 103, some 117, some 131, some 145, none])] ++ shB_X7 61 ++ shB_X7 75 ++ shB_X7 89 ++ shB_X7 103 ++ shB_X7 117 ++ shB_X7 131 ++ shB_X7 145 ++ shB_X7 159) a9) s _ _ := E
  refine fm_kaast (i := 0) (iv := 99) (kv := 159) (J := 7) C E rfl rfl rfl ((h9 60 (by omega)).trans ((h8 60 (by omega)).trans ((h7 60 (by omega)).trans ((h6 60 (by omega)).trans ((h5 60 (by omega)).trans ((h4 60 (by omega)).trans ((h3 60 (by omega)).trans (h2 60 (by omega))))))))) g9 (by decide) (by decide) (by decide) dX5_init_91 ([(5, 8, [some 61, some 75, some 89, some 103, some 117, some 131, some 145, some 159])] ++ shB_X7 61 ++ shB_X7 75 ++ shB_X7 89 ++ shB_X7 103 ++ shB_X7 117 ++ shB_X7 131 ++ shB_X7 145 ++ shB_X7 159) rfl (fun H locs E => ?_)
  refine fm_kput (k := 60) C N.1 E kp_X5_12 rfl rfl (by simp) ((h9 59 (by omega)).trans ((h8 59 (by omega)).trans ((h7 59 (by omega)).trans ((h6 59 (by omega)).trans ((h5 59 (by omega)).trans ((h4 59 (by omega)).trans ((h3 59 (by omega)).trans ((h2 59 (by omega)).trans (h1 59 (by omega)))))))))) ((h9 60 (by omega)).trans ((h8 60 (by omega)).trans ((h7 60 (by omega)).trans ((h6 60 (by omega)).trans ((h5 60 (by omega)).trans ((h4 60 (by omega)).trans ((h3 60 (by omega)).trans (h2 60 (by omega))))))))) dX5_init_92 (fun H locs E => ?_)
  have E : fm_kW G (fm_kA (a0 59) s.heap.size) (fm_kw G fm_m0 59 5 [63, 2] ([(5, 8, [some 61, some 75, some 89, some 103, some 117, some 131, some 145, some 159])] ++ shB_X7 61 ++ shB_X7 75 ++ shB_X7 89 ++ shB_X7 103 ++ shB_X7 117 ++ shB_X7 131 ++ shB_X7 145 ++ shB_X7 159) a9) s _ _ := E
  exact W.widen (Nat.le_of_ble_eq_true rfl) (Nat.le_of_ble_eq_true rfl) (fm_kret (n := 2) (fl := [some 60, none]) C N E rfl rfl (fun j hj => ((h9 j (by omega)).trans ((h8 j (by omega)).trans ((h7 j (by omega)).trans ((h6 j (by omega)).trans ((h5 j (by omega)).trans ((h4 j (by omega)).trans ((h3 j (by omega)).trans ((h2 j (by omega)).trans (h1 j (by omega))))))))))) dX5_init_95)
theorem dX4_init_0 : decode cX4_init 0 = .ok (.aload_n 0, 1) := by decide +kernel
theorem dX4_init_1 : decode cX4_init 1 = .ok (.invokespecial 3, 3) := by decide +kernel
theorem dX4_init_4 : decode cX4_init 4 = .ok (.aload_n 0, 1) := by decide +kernel
theorem dX4_init_5 : decode cX4_init 5 = .ok (.bipush 80, 2) := by decide +kernel
theorem dX4_init_7 : decode cX4_init 7 = .ok (.newarray .int, 2) := by decide +kernel
theorem dX4_init_9 : decode cX4_init 9 = .ok (.putfield 9, 3) := by decide +kernel
theorem dX4_init_12 : decode cX4_init 12 = .ok (.return_, 1) := by decide +kernel
theorem kl_X4 : Cond.methodLink "MicRow$Letters" 3 Lib.objectInit ∈ fm_TT := fm_wd 174 (by decide +kernel) (by decide +kernel)
theorem kp_X4_9 : fm_Fc "MicRow$Letters" 9 4 0 true (.array .int) := ⟨TX4, 2, tyX4, rfl, inX4, (by decide), rfl, fm_wd 175 (by decide +kernel) (by decide +kernel), tyX4_ok, nmX4, rfl, (by decide +kernel)⟩
def shB_X4 : List fm_Sh := [(11, 2, [some 174, none]), (0, 80, [])]
set_option maxHeartbeats 4000000 in
set_option maxRecDepth 20000 in
theorem k_X4 (l : Launch) (G : fm_G) : fm_kMet l yX4_init cX4_init 1 { frames := 1, cells := 1, slots := 80, locals := 20 } G fm_m0 173 4 [.null, .int 0] shB_X4 (fun _ => []) 1 80 := by
  refine fm_kenter (by decide) rfl (fun ad => Nat.le_of_ble_eq_true rfl) ?_
  intro a0 p e s m args below meth c ls C N E hl
  have hl : lv_has ls 1 [(0, .ref (a0 173))] := hl
  have E : fm_kW G (fm_kA (a0 173) s.heap.size) (fm_kw G fm_m0 173 4 [1, 2] [] a0) s s.heap [] := E
  refine lv_aload_n C.1 C.2.1 dX4_init_0 rfl (lv_at hl 0 rfl) ?_
  refine fm_kobj C kl_X4 fm_koi fm_koc hl.1 ⟨by decide, by decide⟩ dX4_init_1 ?_
  refine lv_aload_n C.1 C.2.1 dX4_init_4 rfl (lv_at hl 0 rfl) ?_
  refine lv_bipush (v := 80) C.1 C.2.1 dX4_init_5 (by decide) ?_
  refine fm_kwa (atype := .int) (t := 0) (N' := 80) (a0 := (80, .inl (fun _ => 0))) C E rfl rfl fm_ka_int (fun _ => rfl) (by decide) (by decide) (Nat.le_of_ble_eq_true rfl) ⟨Nat.le_of_ble_eq_true rfl, Nat.le_of_ble_eq_true rfl⟩ dX4_init_7 (0, 80, []) (k := 174) rfl (by decide) (by decide +kernel) (fun _ => rfl) (fun a1 H h1 E => ?_)
  have E : fm_kW G (fm_kA (a0 173) s.heap.size) (fm_kw G fm_m0 173 4 [1, 2] [(0, 80, [])] a1) s _ _ := E
  refine fm_kput (k := 174) C N.1 E kp_X4_9 rfl rfl (by simp) (h1 173 (by omega)) rfl dX4_init_9 (fun H locs E => ?_)
  have E : fm_kW G (fm_kA (a0 173) s.heap.size) (fm_kw G fm_m0 173 4 [177, 2] [(0, 80, [])] a1) s _ _ := E
  exact W.widen (Nat.le_of_ble_eq_true rfl) (Nat.le_of_ble_eq_true rfl) (fm_kret (n := 2) (fl := [some 174, none]) C N E rfl rfl (fun j hj => (h1 j (by omega))) dX4_init_12)
theorem dX6_init_0 : decode cX6_init 0 = .ok (.aload_n 0, 1) := by decide +kernel
theorem dX6_init_1 : decode cX6_init 1 = .ok (.invokespecial 3, 3) := by decide +kernel
theorem dX6_init_4 : decode cX6_init 4 = .ok (.aload_n 0, 1) := by decide +kernel
theorem dX6_init_5 : decode cX6_init 5 = .ok (.aload_n 1, 1) := by decide +kernel
theorem dX6_init_6 : decode cX6_init 6 = .ok (.putfield 9, 3) := by decide +kernel
theorem dX6_init_9 : decode cX6_init 9 = .ok (.return_, 1) := by decide +kernel
theorem kl_X6 : Cond.methodLink "MicRow$Reade\x72" 3 Lib.objectInit ∈ fm_TT := fm_wd 189 (by decide +kernel) (by decide +kernel)
theorem kp_X6_9 : fm_Fc "MicRow$Reade\x72" 9 6 0 true (.object "MicRow$Letters") := ⟨TX6, 1, tyX6, rfl, inX6, (by decide), rfl, fm_wd 190 (by decide +kernel) (by decide +kernel), tyX6_ok, nmX6, rfl, (by decide +kernel)⟩
def shB_X6 : List fm_Sh := [(13, 1, [some 173])]
set_option maxHeartbeats 4000000 in
set_option maxRecDepth 20000 in
theorem k_X6 (l : Launch) (G : fm_G) : fm_kMet l yX6_init cX6_init 2 { frames := 1, cells := 0, slots := 0, locals := 20 } G fm_m0 175 6 [.null] shB_X6 (fun ad => [.ref (ad 173)]) 0 0 := by
  refine fm_kenter (by decide) rfl (fun ad => Nat.le_of_ble_eq_true rfl) ?_
  intro a0 p e s m args below meth c ls C N E hl
  have hl : lv_has ls 2 [(0, .ref (a0 175)), (1, .ref (a0 173))] := hl
  have E : fm_kW G (fm_kA (a0 175) s.heap.size) (fm_kw G fm_m0 175 6 [1] [] a0) s s.heap [] := E
  refine lv_aload_n C.1 C.2.1 dX6_init_0 rfl (lv_at hl 0 rfl) ?_
  refine fm_kobj C kl_X6 fm_koi fm_koc hl.1 ⟨by decide, by decide⟩ dX6_init_1 ?_
  refine lv_aload_n C.1 C.2.1 dX6_init_4 rfl (lv_at hl 0 rfl) ?_
  refine lv_aload_n C.1 C.2.1 dX6_init_5 rfl (lv_at hl 1 rfl) ?_
  refine fm_kput (k := 173) C N.1 E kp_X6_9 rfl rfl (by simp) rfl rfl dX6_init_6 (fun H locs E => ?_)
  have E : fm_kW G (fm_kA (a0 175) s.heap.size) (fm_kw G fm_m0 175 6 [176] [] a0) s _ _ := E
  exact W.widen (Nat.le_of_ble_eq_true rfl) (Nat.le_of_ble_eq_true rfl) (fm_kret (n := 1) (fl := [some 173]) C N E rfl rfl (fun j hj => rfl) dX6_init_9)
theorem dX8_init_0 : decode cX8_init 0 = .ok (.aload_n 0, 1) := by decide +kernel
theorem dX8_init_1 : decode cX8_init 1 = .ok (.invokespecial 3, 3) := by decide +kernel
theorem dX8_init_4 : decode cX8_init 4 = .ok (.aload_n 0, 1) := by decide +kernel
theorem dX8_init_5 : decode cX8_init 5 = .ok (.bipush 17, 2) := by decide +kernel
theorem dX8_init_7 : decode cX8_init 7 = .ok (.newarray .long, 2) := by decide +kernel
theorem dX8_init_9 : decode cX8_init 9 = .ok (.putfield 9, 3) := by decide +kernel
theorem dX8_init_12 : decode cX8_init 12 = .ok (.return_, 1) := by decide +kernel
theorem kl_X8 : Cond.methodLink "MicRow$Told" 3 Lib.objectInit ∈ fm_TT := fm_wd 199 (by decide +kernel) (by decide +kernel)
theorem kp_X8_9 : fm_Fc "MicRow$Told" 9 8 0 true (.array .long) := ⟨TX8, 2, tyX8, rfl, inX8, (by decide), rfl, fm_wd 200 (by decide +kernel) (by decide +kernel), tyX8_ok, nmX8, rfl, (by decide +kernel)⟩
def shB_X8 : List fm_Sh := [(15, 2, [some 177, none]), (3, 17, [])]
set_option maxHeartbeats 4000000 in
set_option maxRecDepth 20000 in
theorem k_X8 (l : Launch) (G : fm_G) : fm_kMet l yX8_init cX8_init 1 { frames := 1, cells := 1, slots := 17, locals := 20 } G fm_m0 176 8 [.null, .int 0] shB_X8 (fun _ => []) 1 17 := by
  refine fm_kenter (by decide) rfl (fun ad => Nat.le_of_ble_eq_true rfl) ?_
  intro a0 p e s m args below meth c ls C N E hl
  have hl : lv_has ls 1 [(0, .ref (a0 176))] := hl
  have E : fm_kW G (fm_kA (a0 176) s.heap.size) (fm_kw G fm_m0 176 8 [1, 2] [] a0) s s.heap [] := E
  refine lv_aload_n C.1 C.2.1 dX8_init_0 rfl (lv_at hl 0 rfl) ?_
  refine fm_kobj C kl_X8 fm_koi fm_koc hl.1 ⟨by decide, by decide⟩ dX8_init_1 ?_
  refine lv_aload_n C.1 C.2.1 dX8_init_4 rfl (lv_at hl 0 rfl) ?_
  refine lv_bipush (v := 17) C.1 C.2.1 dX8_init_5 (by decide) ?_
  refine fm_kwa (atype := .long) (t := 3) (N' := 17) (a0 := (17, .inr (.inl (fun _ => 0)))) C E rfl rfl fm_ka_long (fun _ => rfl) (by decide) (by decide) (Nat.le_of_ble_eq_true rfl) ⟨Nat.le_of_ble_eq_true rfl, Nat.le_of_ble_eq_true rfl⟩ dX8_init_7 (3, 17, []) (k := 177) rfl (by decide) (by decide +kernel) (fun _ => rfl) (fun a1 H h1 E => ?_)
  have E : fm_kW G (fm_kA (a0 176) s.heap.size) (fm_kw G fm_m0 176 8 [1, 2] [(3, 17, [])] a1) s _ _ := E
  refine fm_kput (k := 177) C N.1 E kp_X8_9 rfl rfl (by simp) (h1 176 (by omega)) rfl dX8_init_9 (fun H locs E => ?_)
  have E : fm_kW G (fm_kA (a0 176) s.heap.size) (fm_kw G fm_m0 176 8 [180, 2] [(3, 17, [])] a1) s _ _ := E
  exact W.widen (Nat.le_of_ble_eq_true rfl) (Nat.le_of_ble_eq_true rfl) (fm_kret (n := 2) (fl := [some 177, none]) C N E rfl rfl (fun j hj => (h1 j (by omega))) dX8_init_12)
theorem dX3_init_0 : decode cX3_init 0 = .ok (.aload_n 0, 1) := by decide +kernel
theorem dX3_init_1 : decode cX3_init 1 = .ok (.invokespecial 3, 3) := by decide +kernel
theorem dX3_init_4 : decode cX3_init 4 = .ok (.aload_n 0, 1) := by decide +kernel
theorem dX3_init_5 : decode cX3_init 5 = .ok (.sipush 3606, 3) := by decide +kernel
theorem dX3_init_8 : decode cX3_init 8 = .ok (.newarray .int, 2) := by decide +kernel
theorem dX3_init_10 : decode cX3_init 10 = .ok (.putfield 11, 3) := by decide +kernel
theorem dX3_init_13 : decode cX3_init 13 = .ok (.aload_n 0, 1) := by decide +kernel
theorem dX3_init_14 : decode cX3_init 14 = .ok (.sipush 3606, 3) := by decide +kernel
theorem dX3_init_17 : decode cX3_init 17 = .ok (.newarray .int, 2) := by decide +kernel
theorem dX3_init_19 : decode cX3_init 19 = .ok (.putfield 15, 3) := by decide +kernel
theorem dX3_init_22 : decode cX3_init 22 = .ok (.aload_n 0, 1) := by decide +kernel
theorem dX3_init_23 : decode cX3_init 23 = .ok (.aload_n 1, 1) := by decide +kernel
theorem dX3_init_24 : decode cX3_init 24 = .ok (.putfield 18, 3) := by decide +kernel
theorem dX3_init_27 : decode cX3_init 27 = .ok (.return_, 1) := by decide +kernel
theorem kl_X3 : Cond.methodLink "MicRow$Ears" 3 Lib.objectInit ∈ fm_TT := fm_wd 215 (by decide +kernel) (by decide +kernel)
theorem kp_X3_11 : fm_Fc "MicRow$Ears" 11 3 1 true (.array .int) := ⟨TX3, 5, tyX3, rfl, inX3, (by decide), rfl, fm_wd 217 (by decide +kernel) (by decide +kernel), tyX3_ok, nmX3, rfl, (by decide +kernel)⟩
theorem kp_X3_15 : fm_Fc "MicRow$Ears" 15 3 2 true (.array .int) := ⟨TX3, 5, tyX3, rfl, inX3, (by decide), rfl, fm_wd 218 (by decide +kernel) (by decide +kernel), tyX3_ok, nmX3, rfl, (by decide +kernel)⟩
theorem kp_X3_18 : fm_Fc "MicRow$Ears" 18 3 0 true (.object "MicRow$Scene") := ⟨TX3, 5, tyX3, rfl, inX3, (by decide), rfl, fm_wd 216 (by decide +kernel) (by decide +kernel), tyX3_ok, nmX3, rfl, (by decide +kernel)⟩
def shB_X3 : List fm_Sh := [(10, 5, [some 1, some 179, some 180, none, none]), (0, 3606, []), (0, 3606, [])]
set_option maxHeartbeats 4000000 in
set_option maxRecDepth 20000 in
theorem k_X3 (l : Launch) (G : fm_G) : fm_kMet l yX3_init cX3_init 2 { frames := 1, cells := 2, slots := 7212, locals := 20 } G fm_m0 178 3 [.null, .null, .null, .int 0, .int 0] shB_X3 (fun ad => [.ref (ad 1)]) 2 7212 := by
  refine fm_kenter (by decide) rfl (fun ad => Nat.le_of_ble_eq_true rfl) ?_
  intro a0 p e s m args below meth c ls C N E hl
  have hl : lv_has ls 2 [(0, .ref (a0 178)), (1, .ref (a0 1))] := hl
  have E : fm_kW G (fm_kA (a0 178) s.heap.size) (fm_kw G fm_m0 178 3 [1, 1, 1, 2, 2] [] a0) s s.heap [] := E
  refine lv_aload_n C.1 C.2.1 dX3_init_0 rfl (lv_at hl 0 rfl) ?_
  refine fm_kobj C kl_X3 fm_koi fm_koc hl.1 ⟨by decide, by decide⟩ dX3_init_1 ?_
  refine lv_aload_n C.1 C.2.1 dX3_init_4 rfl (lv_at hl 0 rfl) ?_
  refine lv_sipush (v := 3606) C.1 C.2.1 dX3_init_5 (by decide) ?_
  refine fm_kwa (atype := .int) (t := 0) (N' := 3606) (a0 := (3606, .inl (fun _ => 0))) C E rfl rfl fm_ka_int (fun _ => rfl) (by decide) (by decide) (Nat.le_of_ble_eq_true rfl) ⟨Nat.le_of_ble_eq_true rfl, Nat.le_of_ble_eq_true rfl⟩ dX3_init_8 (0, 3606, []) (k := 179) rfl (by decide) (by decide +kernel) (fun _ => rfl) (fun a1 H h1 E => ?_)
  have E : fm_kW G (fm_kA (a0 178) s.heap.size) (fm_kw G fm_m0 178 3 [1, 1, 1, 2, 2] [(0, 3606, [])] a1) s _ _ := E
  refine fm_kput (k := 179) C N.1 E kp_X3_11 rfl rfl (by simp) (h1 178 (by omega)) rfl dX3_init_10 (fun H locs E => ?_)
  have E : fm_kW G (fm_kA (a0 178) s.heap.size) (fm_kw G fm_m0 178 3 [1, 182, 1, 2, 2] [(0, 3606, [])] a1) s _ _ := E
  refine lv_aload_n C.1 C.2.1 dX3_init_13 rfl (lv_at hl 0 rfl) ?_
  refine lv_sipush (v := 3606) C.1 C.2.1 dX3_init_14 (by decide) ?_
  refine fm_kwa (atype := .int) (t := 0) (N' := 3606) (a0 := (3606, .inl (fun _ => 0))) C E rfl rfl fm_ka_int (fun _ => rfl) (by decide) (by decide) (Nat.le_of_ble_eq_true rfl) ⟨Nat.le_of_ble_eq_true rfl, Nat.le_of_ble_eq_true rfl⟩ dX3_init_17 (0, 3606, []) (k := 180) rfl (by decide) (by decide +kernel) (fun _ => rfl) (fun a2 H h2 E => ?_)
  have E : fm_kW G (fm_kA (a0 178) s.heap.size) (fm_kw G fm_m0 178 3 [1, 182, 1, 2, 2] [(0, 3606, []), (0, 3606, [])] a2) s _ _ := E
  refine fm_kput (k := 180) C N.1 E kp_X3_15 rfl rfl (by simp) ((h2 178 (by omega)).trans (h1 178 (by omega))) rfl dX3_init_19 (fun H locs E => ?_)
  have E : fm_kW G (fm_kA (a0 178) s.heap.size) (fm_kw G fm_m0 178 3 [1, 182, 183, 2, 2] [(0, 3606, []), (0, 3606, [])] a2) s _ _ := E
  refine lv_aload_n C.1 C.2.1 dX3_init_22 rfl (lv_at hl 0 rfl) ?_
  refine lv_aload_n C.1 C.2.1 dX3_init_23 rfl (lv_at hl 1 rfl) ?_
  refine fm_kput (k := 1) C N.1 E kp_X3_18 rfl rfl (by simp) ((h2 178 (by omega)).trans (h1 178 (by omega))) ((h2 1 (by omega)).trans (h1 1 (by omega))) dX3_init_24 (fun H locs E => ?_)
  have E : fm_kW G (fm_kA (a0 178) s.heap.size) (fm_kw G fm_m0 178 3 [4, 182, 183, 2, 2] [(0, 3606, []), (0, 3606, [])] a2) s _ _ := E
  exact W.widen (Nat.le_of_ble_eq_true rfl) (Nat.le_of_ble_eq_true rfl) (fm_kret (n := 5) (fl := [some 1, some 179, some 180, none, none]) C N E rfl rfl (fun j hj => ((h2 j (by omega)).trans (h1 j (by omega)))) dX3_init_27)
theorem dX0_init_0 : decode cX0_init 0 = .ok (.aload_n 0, 1) := by decide +kernel
theorem dX0_init_1 : decode cX0_init 1 = .ok (.invokespecial 3, 3) := by decide +kernel
theorem dX0_init_4 : decode cX0_init 4 = .ok (.aload_n 0, 1) := by decide +kernel
theorem dX0_init_5 : decode cX0_init 5 = .ok (.bipush 6, 2) := by decide +kernel
theorem dX0_init_7 : decode cX0_init 7 = .ok (.bipush 48, 2) := by decide +kernel
theorem dX0_init_9 : decode cX0_init 9 = .ok (.multianewarray 9 2, 4) := by decide +kernel
theorem dX0_init_13 : decode cX0_init 13 = .ok (.putfield 11, 3) := by decide +kernel
theorem dX0_init_16 : decode cX0_init 16 = .ok (.aload_n 0, 1) := by decide +kernel
theorem dX0_init_17 : decode cX0_init 17 = .ok (.bipush 48, 2) := by decide +kernel
theorem dX0_init_19 : decode cX0_init 19 = .ok (.newarray .int, 2) := by decide +kernel
theorem dX0_init_21 : decode cX0_init 21 = .ok (.putfield 16, 3) := by decide +kernel
theorem dX0_init_24 : decode cX0_init 24 = .ok (.aload_n 0, 1) := by decide +kernel
theorem dX0_init_25 : decode cX0_init 25 = .ok (.bipush 48, 2) := by decide +kernel
theorem dX0_init_27 : decode cX0_init 27 = .ok (.newarray .int, 2) := by decide +kernel
theorem dX0_init_29 : decode cX0_init 29 = .ok (.putfield 20, 3) := by decide +kernel
theorem dX0_init_32 : decode cX0_init 32 = .ok (.aload_n 0, 1) := by decide +kernel
theorem dX0_init_33 : decode cX0_init 33 = .ok (.iconst 5, 1) := by decide +kernel
theorem dX0_init_34 : decode cX0_init 34 = .ok (.bipush 48, 2) := by decide +kernel
theorem dX0_init_36 : decode cX0_init 36 = .ok (.multianewarray 9 2, 4) := by decide +kernel
theorem dX0_init_40 : decode cX0_init 40 = .ok (.putfield 23, 3) := by decide +kernel
theorem dX0_init_43 : decode cX0_init 43 = .ok (.aload_n 0, 1) := by decide +kernel
theorem dX0_init_44 : decode cX0_init 44 = .ok (.bipush 48, 2) := by decide +kernel
theorem dX0_init_46 : decode cX0_init 46 = .ok (.newarray .int, 2) := by decide +kernel
theorem dX0_init_48 : decode cX0_init 48 = .ok (.putfield 26, 3) := by decide +kernel
theorem dX0_init_51 : decode cX0_init 51 = .ok (.aload_n 0, 1) := by decide +kernel
theorem dX0_init_52 : decode cX0_init 52 = .ok (.iconst 5, 1) := by decide +kernel
theorem dX0_init_53 : decode cX0_init 53 = .ok (.newarray .int, 2) := by decide +kernel
theorem dX0_init_55 : decode cX0_init 55 = .ok (.putfield 29, 3) := by decide +kernel
theorem dX0_init_58 : decode cX0_init 58 = .ok (.aload_n 0, 1) := by decide +kernel
theorem dX0_init_59 : decode cX0_init 59 = .ok (.bipush 48, 2) := by decide +kernel
theorem dX0_init_61 : decode cX0_init 61 = .ok (.newarray .int, 2) := by decide +kernel
theorem dX0_init_63 : decode cX0_init 63 = .ok (.putfield 32, 3) := by decide +kernel
theorem dX0_init_66 : decode cX0_init 66 = .ok (.aload_n 0, 1) := by decide +kernel
theorem dX0_init_67 : decode cX0_init 67 = .ok (.iconst 1, 1) := by decide +kernel
theorem dX0_init_68 : decode cX0_init 68 = .ok (.putfield 35, 3) := by decide +kernel
theorem dX0_init_71 : decode cX0_init 71 = .ok (.aload_n 0, 1) := by decide +kernel
theorem dX0_init_72 : decode cX0_init 72 = .ok (.aload_n 1, 1) := by decide +kernel
theorem dX0_init_73 : decode cX0_init 73 = .ok (.putfield 39, 3) := by decide +kernel
theorem dX0_init_76 : decode cX0_init 76 = .ok (.aload_n 0, 1) := by decide +kernel
theorem dX0_init_77 : decode cX0_init 77 = .ok (.aload_n 2, 1) := by decide +kernel
theorem dX0_init_78 : decode cX0_init 78 = .ok (.putfield 43, 3) := by decide +kernel
theorem dX0_init_81 : decode cX0_init 81 = .ok (.return_, 1) := by decide +kernel
theorem kl_X0 : Cond.methodLink "MicRow$Bench" 3 Lib.objectInit ∈ fm_TT := fm_wd 237 (by decide +kernel) (by decide +kernel)
theorem kg_X0 : Cond.classLink "MicRow$Bench" 9 "[[I" ∈ fm_TT := fm_wd 238 (by decide +kernel) (by decide +kernel)
theorem kp_X0_11 : fm_Fc "MicRow$Bench" 11 0 2 true (.array (.array .int)) := ⟨TX0, 11, tyX0, rfl, inX0, (by decide), rfl, fm_wd 241 (by decide +kernel) (by decide +kernel), tyX0_ok, nmX0, rfl, (by decide +kernel)⟩
theorem kp_X0_16 : fm_Fc "MicRow$Bench" 16 0 3 true (.array .int) := ⟨TX0, 11, tyX0, rfl, inX0, (by decide), rfl, fm_wd 242 (by decide +kernel) (by decide +kernel), tyX0_ok, nmX0, rfl, (by decide +kernel)⟩
theorem kp_X0_20 : fm_Fc "MicRow$Bench" 20 0 4 true (.array .int) := ⟨TX0, 11, tyX0, rfl, inX0, (by decide), rfl, fm_wd 244 (by decide +kernel) (by decide +kernel), tyX0_ok, nmX0, rfl, (by decide +kernel)⟩
theorem kp_X0_23 : fm_Fc "MicRow$Bench" 23 0 5 true (.array (.array .int)) := ⟨TX0, 11, tyX0, rfl, inX0, (by decide), rfl, fm_wd 246 (by decide +kernel) (by decide +kernel), tyX0_ok, nmX0, rfl, (by decide +kernel)⟩
theorem kp_X0_26 : fm_Fc "MicRow$Bench" 26 0 6 true (.array .int) := ⟨TX0, 11, tyX0, rfl, inX0, (by decide), rfl, fm_wd 248 (by decide +kernel) (by decide +kernel), tyX0_ok, nmX0, rfl, (by decide +kernel)⟩
theorem kp_X0_29 : fm_Fc "MicRow$Bench" 29 0 7 true (.array .int) := ⟨TX0, 11, tyX0, rfl, inX0, (by decide), rfl, fm_wd 250 (by decide +kernel) (by decide +kernel), tyX0_ok, nmX0, rfl, (by decide +kernel)⟩
theorem kp_X0_32 : fm_Fc "MicRow$Bench" 32 0 8 true (.array .int) := ⟨TX0, 11, tyX0, rfl, inX0, (by decide), rfl, fm_wd 252 (by decide +kernel) (by decide +kernel), tyX0_ok, nmX0, rfl, (by decide +kernel)⟩
theorem kp_X0_35 : fm_Fc "MicRow$Bench" 35 0 10 false .int := ⟨TX0, 11, tyX0, rfl, inX0, (by decide), rfl, fm_wd 255 (by decide +kernel) (by decide +kernel), tyX0_ok, nmX0, rfl, (by decide +kernel)⟩
theorem kp_X0_39 : fm_Fc "MicRow$Bench" 39 0 0 true (.object "MicRow$Scene") := ⟨TX0, 11, tyX0, rfl, inX0, (by decide), rfl, fm_wd 239 (by decide +kernel) (by decide +kernel), tyX0_ok, nmX0, rfl, (by decide +kernel)⟩
theorem kp_X0_43 : fm_Fc "MicRow$Bench" 43 0 1 true (.object "MicRow$Ears") := ⟨TX0, 11, tyX0, rfl, inX0, (by decide), rfl, fm_wd 240 (by decide +kernel) (by decide +kernel), tyX0_ok, nmX0, rfl, (by decide +kernel)⟩
def shB_X0 : List fm_Sh := [(7, 11, [some 1, some 178, some 182, some 189, some 190, some 191, some 197, some 198, some 199, none, none]), (4, 6, [some 183, some 184, some 185, some 186, some 187, some 188]), (0, 48, []), (0, 48, []), (0, 48, []), (0, 48, []), (0, 48, []), (0, 48, []), (0, 48, []), (0, 48, []), (4, 5, [some 192, some 193, some 194, some 195, some 196]), (0, 48, []), (0, 48, []), (0, 48, []), (0, 48, []), (0, 48, []), (0, 48, []), (0, 5, []), (0, 48, [])]
set_option maxHeartbeats 4000000 in
set_option maxRecDepth 20000 in
theorem k_X0 (l : Launch) (G : fm_G) : fm_kMet l yX0_init cX0_init 3 { frames := 1, cells := 18, slots := 736, locals := 20 } G fm_m0 181 0 [.null, .null, .null, .null, .null, .null, .null, .null, .null, .int 0, .int 0] shB_X0 (fun ad => [.ref (ad 1), .ref (ad 178)]) 18 736 := by
  refine fm_kenter (by decide) rfl (fun ad => Nat.le_of_ble_eq_true rfl) ?_
  intro a0 p e s m args below meth c ls C N E hl
  have hl : lv_has ls 3 [(0, .ref (a0 181)), (1, .ref (a0 1)), (2, .ref (a0 178))] := hl
  have E : fm_kW G (fm_kA (a0 181) s.heap.size) (fm_kw G fm_m0 181 0 [1, 1, 1, 1, 1, 1, 1, 1, 1, 2, 2] [] a0) s s.heap [] := E
  refine lv_aload_n C.1 C.2.1 dX0_init_0 rfl (lv_at hl 0 rfl) ?_
  refine fm_kobj C kl_X0 fm_koi fm_koc hl.1 ⟨by decide, by decide⟩ dX0_init_1 ?_
  refine lv_aload_n C.1 C.2.1 dX0_init_4 rfl (lv_at hl 0 rfl) ?_
  refine lv_bipush (v := 6) C.1 C.2.1 dX0_init_5 (by decide) ?_
  refine lv_bipush (v := 48) C.1 C.2.1 dX0_init_7 (by decide) ?_
  refine fm_kmna (N := 6) (K := 48) (k := 182) C E kg_X0 fm_ka_int (by decide) (by decide) (by decide) (by decide) ⟨Nat.le_of_ble_eq_true rfl, Nat.le_of_ble_eq_true rfl⟩ ⟨Nat.le_of_ble_eq_true rfl, Nat.le_of_ble_eq_true rfl⟩ dX0_init_9 [(4, 6, [some 183, some 184, some 185, some 186, some 187, some 188]), (0, 48, []), (0, 48, []), (0, 48, []), (0, 48, []), (0, 48, []), (0, 48, [])] rfl rfl (by decide) (by decide +kernel) (fm_zall (b := 183) (n := 6) (by decide +kernel)) (fun a1 H h1 E => ?_)
  refine fm_kput (k := 182) C N.1 E kp_X0_11 rfl rfl (by simp) (h1 181 (by omega)) rfl dX0_init_13 (fun H locs E => ?_)
  have E : fm_kW G (fm_kA (a0 181) s.heap.size) (fm_kw G fm_m0 181 0 [1, 1, 185, 1, 1, 1, 1, 1, 1, 2, 2] [(4, 6, [some 183, some 184, some 185, some 186, some 187, some 188]), (0, 48, []), (0, 48, []), (0, 48, []), (0, 48, []), (0, 48, []), (0, 48, [])] a1) s _ _ := E
  refine lv_aload_n C.1 C.2.1 dX0_init_16 rfl (lv_at hl 0 rfl) ?_
  refine lv_bipush (v := 48) C.1 C.2.1 dX0_init_17 (by decide) ?_
  refine fm_kwa (atype := .int) (t := 0) (N' := 48) (a0 := (48, .inl (fun _ => 0))) C E rfl rfl fm_ka_int (fun _ => rfl) (by decide) (by decide) (Nat.le_of_ble_eq_true rfl) ⟨Nat.le_of_ble_eq_true rfl, Nat.le_of_ble_eq_true rfl⟩ dX0_init_19 (0, 48, []) (k := 189) rfl (by decide) (by decide +kernel) (fun _ => rfl) (fun a2 H h2 E => ?_)
  have E : fm_kW G (fm_kA (a0 181) s.heap.size) (fm_kw G fm_m0 181 0 [1, 1, 185, 1, 1, 1, 1, 1, 1, 2, 2] [(4, 6, [some 183, some 184, some 185, some 186, some 187, some 188]), (0, 48, []), (0, 48, []), (0, 48, []), (0, 48, []), (0, 48, []), (0, 48, []), (0, 48, [])] a2) s _ _ := E
  refine fm_kput (k := 189) C N.1 E kp_X0_16 rfl rfl (by simp) ((h2 181 (by omega)).trans (h1 181 (by omega))) rfl dX0_init_21 (fun H locs E => ?_)
  have E : fm_kW G (fm_kA (a0 181) s.heap.size) (fm_kw G fm_m0 181 0 [1, 1, 185, 192, 1, 1, 1, 1, 1, 2, 2] [(4, 6, [some 183, some 184, some 185, some 186, some 187, some 188]), (0, 48, []), (0, 48, []), (0, 48, []), (0, 48, []), (0, 48, []), (0, 48, []), (0, 48, [])] a2) s _ _ := E
  refine lv_aload_n C.1 C.2.1 dX0_init_24 rfl (lv_at hl 0 rfl) ?_
  refine lv_bipush (v := 48) C.1 C.2.1 dX0_init_25 (by decide) ?_
  refine fm_kwa (atype := .int) (t := 0) (N' := 48) (a0 := (48, .inl (fun _ => 0))) C E rfl rfl fm_ka_int (fun _ => rfl) (by decide) (by decide) (Nat.le_of_ble_eq_true rfl) ⟨Nat.le_of_ble_eq_true rfl, Nat.le_of_ble_eq_true rfl⟩ dX0_init_27 (0, 48, []) (k := 190) rfl (by decide) (by decide +kernel) (fun _ => rfl) (fun a3 H h3 E => ?_)
  have E : fm_kW G (fm_kA (a0 181) s.heap.size) (fm_kw G fm_m0 181 0 [1, 1, 185, 192, 1, 1, 1, 1, 1, 2, 2] [(4, 6, [some 183, some 184, some 185, some 186, some 187, some 188]), (0, 48, []), (0, 48, []), (0, 48, []), (0, 48, []), (0, 48, []), (0, 48, []), (0, 48, []), (0, 48, [])] a3) s _ _ := E
  refine fm_kput (k := 190) C N.1 E kp_X0_20 rfl rfl (by simp) ((h3 181 (by omega)).trans ((h2 181 (by omega)).trans (h1 181 (by omega)))) rfl dX0_init_29 (fun H locs E => ?_)
  have E : fm_kW G (fm_kA (a0 181) s.heap.size) (fm_kw G fm_m0 181 0 [1, 1, 185, 192, 193, 1, 1, 1, 1, 2, 2] [(4, 6, [some 183, some 184, some 185, some 186, some 187, some 188]), (0, 48, []), (0, 48, []), (0, 48, []), (0, 48, []), (0, 48, []), (0, 48, []), (0, 48, []), (0, 48, [])] a3) s _ _ := E
  refine lv_aload_n C.1 C.2.1 dX0_init_32 rfl (lv_at hl 0 rfl) ?_
  refine lv_iconst (v := 5) C.1 C.2.1 dX0_init_33 (by decide) ?_
  refine lv_bipush (v := 48) C.1 C.2.1 dX0_init_34 (by decide) ?_
  refine fm_kmna (N := 5) (K := 48) (k := 191) C E kg_X0 fm_ka_int (by decide) (by decide) (by decide) (by decide) ⟨Nat.le_of_ble_eq_true rfl, Nat.le_of_ble_eq_true rfl⟩ ⟨Nat.le_of_ble_eq_true rfl, Nat.le_of_ble_eq_true rfl⟩ dX0_init_36 [(4, 6, [some 183, some 184, some 185, some 186, some 187, some 188]), (0, 48, []), (0, 48, []), (0, 48, []), (0, 48, []), (0, 48, []), (0, 48, []), (0, 48, []), (0, 48, []), (4, 5, [some 192, some 193, some 194, some 195, some 196]), (0, 48, []), (0, 48, []), (0, 48, []), (0, 48, []), (0, 48, [])] rfl rfl (by decide) (by decide +kernel) (fm_zall (b := 192) (n := 5) (by decide +kernel)) (fun a4 H h4 E => ?_)
  refine fm_kput (k := 191) C N.1 E kp_X0_23 rfl rfl (by simp) ((h4 181 (by omega)).trans ((h3 181 (by omega)).trans ((h2 181 (by omega)).trans (h1 181 (by omega))))) rfl dX0_init_40 (fun H locs E => ?_)
  have E : fm_kW G (fm_kA (a0 181) s.heap.size) (fm_kw G fm_m0 181 0 [1, 1, 185, 192, 193, 194, 1, 1, 1, 2, 2] [(4, 6, [some 183, some 184, some 185, some 186, some 187, some 188]), (0, 48, []), (0, 48, []), (0, 48, []), (0, 48, []), (0, 48, []), (0, 48, []), (0, 48, []), (0, 48, []), (4, 5, [some 192, some 193, some 194, some 195, some 196]), (0, 48, []), (0, 48, []), (0, 48, []), (0, 48, []), (0, 48, [])] a4) s _ _ := E
  refine lv_aload_n C.1 C.2.1 dX0_init_43 rfl (lv_at hl 0 rfl) ?_
  refine lv_bipush (v := 48) C.1 C.2.1 dX0_init_44 (by decide) ?_
  refine fm_kwa (atype := .int) (t := 0) (N' := 48) (a0 := (48, .inl (fun _ => 0))) C E rfl rfl fm_ka_int (fun _ => rfl) (by decide) (by decide) (Nat.le_of_ble_eq_true rfl) ⟨Nat.le_of_ble_eq_true rfl, Nat.le_of_ble_eq_true rfl⟩ dX0_init_46 (0, 48, []) (k := 197) rfl (by decide) (by decide +kernel) (fun _ => rfl) (fun a5 H h5 E => ?_)
  have E : fm_kW G (fm_kA (a0 181) s.heap.size) (fm_kw G fm_m0 181 0 [1, 1, 185, 192, 193, 194, 1, 1, 1, 2, 2] [(4, 6, [some 183, some 184, some 185, some 186, some 187, some 188]), (0, 48, []), (0, 48, []), (0, 48, []), (0, 48, []), (0, 48, []), (0, 48, []), (0, 48, []), (0, 48, []), (4, 5, [some 192, some 193, some 194, some 195, some 196]), (0, 48, []), (0, 48, []), (0, 48, []), (0, 48, []), (0, 48, []), (0, 48, [])] a5) s _ _ := E
  refine fm_kput (k := 197) C N.1 E kp_X0_26 rfl rfl (by simp) ((h5 181 (by omega)).trans ((h4 181 (by omega)).trans ((h3 181 (by omega)).trans ((h2 181 (by omega)).trans (h1 181 (by omega)))))) rfl dX0_init_48 (fun H locs E => ?_)
  have E : fm_kW G (fm_kA (a0 181) s.heap.size) (fm_kw G fm_m0 181 0 [1, 1, 185, 192, 193, 194, 200, 1, 1, 2, 2] [(4, 6, [some 183, some 184, some 185, some 186, some 187, some 188]), (0, 48, []), (0, 48, []), (0, 48, []), (0, 48, []), (0, 48, []), (0, 48, []), (0, 48, []), (0, 48, []), (4, 5, [some 192, some 193, some 194, some 195, some 196]), (0, 48, []), (0, 48, []), (0, 48, []), (0, 48, []), (0, 48, []), (0, 48, [])] a5) s _ _ := E
  refine lv_aload_n C.1 C.2.1 dX0_init_51 rfl (lv_at hl 0 rfl) ?_
  refine lv_iconst (v := 5) C.1 C.2.1 dX0_init_52 (by decide) ?_
  refine fm_kwa (atype := .int) (t := 0) (N' := 5) (a0 := (5, .inl (fun _ => 0))) C E rfl rfl fm_ka_int (fun _ => rfl) (by decide) (by decide) (Nat.le_of_ble_eq_true rfl) ⟨Nat.le_of_ble_eq_true rfl, Nat.le_of_ble_eq_true rfl⟩ dX0_init_53 (0, 5, []) (k := 198) rfl (by decide) (by decide +kernel) (fun _ => rfl) (fun a6 H h6 E => ?_)
  have E : fm_kW G (fm_kA (a0 181) s.heap.size) (fm_kw G fm_m0 181 0 [1, 1, 185, 192, 193, 194, 200, 1, 1, 2, 2] [(4, 6, [some 183, some 184, some 185, some 186, some 187, some 188]), (0, 48, []), (0, 48, []), (0, 48, []), (0, 48, []), (0, 48, []), (0, 48, []), (0, 48, []), (0, 48, []), (4, 5, [some 192, some 193, some 194, some 195, some 196]), (0, 48, []), (0, 48, []), (0, 48, []), (0, 48, []), (0, 48, []), (0, 48, []), (0, 5, [])] a6) s _ _ := E
  refine fm_kput (k := 198) C N.1 E kp_X0_29 rfl rfl (by simp) ((h6 181 (by omega)).trans ((h5 181 (by omega)).trans ((h4 181 (by omega)).trans ((h3 181 (by omega)).trans ((h2 181 (by omega)).trans (h1 181 (by omega))))))) rfl dX0_init_55 (fun H locs E => ?_)
  have E : fm_kW G (fm_kA (a0 181) s.heap.size) (fm_kw G fm_m0 181 0 [1, 1, 185, 192, 193, 194, 200, 201, 1, 2, 2] [(4, 6, [some 183, some 184, some 185, some 186, some 187, some 188]), (0, 48, []), (0, 48, []), (0, 48, []), (0, 48, []), (0, 48, []), (0, 48, []), (0, 48, []), (0, 48, []), (4, 5, [some 192, some 193, some 194, some 195, some 196]), (0, 48, []), (0, 48, []), (0, 48, []), (0, 48, []), (0, 48, []), (0, 48, []), (0, 5, [])] a6) s _ _ := E
  refine lv_aload_n C.1 C.2.1 dX0_init_58 rfl (lv_at hl 0 rfl) ?_
  refine lv_bipush (v := 48) C.1 C.2.1 dX0_init_59 (by decide) ?_
  refine fm_kwa (atype := .int) (t := 0) (N' := 48) (a0 := (48, .inl (fun _ => 0))) C E rfl rfl fm_ka_int (fun _ => rfl) (by decide) (by decide) (Nat.le_of_ble_eq_true rfl) ⟨Nat.le_of_ble_eq_true rfl, Nat.le_of_ble_eq_true rfl⟩ dX0_init_61 (0, 48, []) (k := 199) rfl (by decide) (by decide +kernel) (fun _ => rfl) (fun a7 H h7 E => ?_)
  have E : fm_kW G (fm_kA (a0 181) s.heap.size) (fm_kw G fm_m0 181 0 [1, 1, 185, 192, 193, 194, 200, 201, 1, 2, 2] [(4, 6, [some 183, some 184, some 185, some 186, some 187, some 188]), (0, 48, []), (0, 48, []), (0, 48, []), (0, 48, []), (0, 48, []), (0, 48, []), (0, 48, []), (0, 48, []), (4, 5, [some 192, some 193, some 194, some 195, some 196]), (0, 48, []), (0, 48, []), (0, 48, []), (0, 48, []), (0, 48, []), (0, 48, []), (0, 5, []), (0, 48, [])] a7) s _ _ := E
  refine fm_kput (k := 199) C N.1 E kp_X0_32 rfl rfl (by simp) ((h7 181 (by omega)).trans ((h6 181 (by omega)).trans ((h5 181 (by omega)).trans ((h4 181 (by omega)).trans ((h3 181 (by omega)).trans ((h2 181 (by omega)).trans (h1 181 (by omega)))))))) rfl dX0_init_63 (fun H locs E => ?_)
  have E : fm_kW G (fm_kA (a0 181) s.heap.size) (fm_kw G fm_m0 181 0 [1, 1, 185, 192, 193, 194, 200, 201, 202, 2, 2] [(4, 6, [some 183, some 184, some 185, some 186, some 187, some 188]), (0, 48, []), (0, 48, []), (0, 48, []), (0, 48, []), (0, 48, []), (0, 48, []), (0, 48, []), (0, 48, []), (4, 5, [some 192, some 193, some 194, some 195, some 196]), (0, 48, []), (0, 48, []), (0, 48, []), (0, 48, []), (0, 48, []), (0, 48, []), (0, 5, []), (0, 48, [])] a7) s _ _ := E
  refine lv_aload_n C.1 C.2.1 dX0_init_66 rfl (lv_at hl 0 rfl) ?_
  refine lv_iconst (v := 1) C.1 C.2.1 dX0_init_67 (by decide) ?_
  refine fm_kputi C E kp_X0_35 (by decide) ((h7 181 (by omega)).trans ((h6 181 (by omega)).trans ((h5 181 (by omega)).trans ((h4 181 (by omega)).trans ((h3 181 (by omega)).trans ((h2 181 (by omega)).trans (h1 181 (by omega)))))))) rfl dX0_init_68 (fun H locs E => ?_)
  have E : fm_kW G (fm_kA (a0 181) s.heap.size) (fm_kw G fm_m0 181 0 [1, 1, 185, 192, 193, 194, 200, 201, 202, 2, 0] [(4, 6, [some 183, some 184, some 185, some 186, some 187, some 188]), (0, 48, []), (0, 48, []), (0, 48, []), (0, 48, []), (0, 48, []), (0, 48, []), (0, 48, []), (0, 48, []), (4, 5, [some 192, some 193, some 194, some 195, some 196]), (0, 48, []), (0, 48, []), (0, 48, []), (0, 48, []), (0, 48, []), (0, 48, []), (0, 5, []), (0, 48, [])] a7) s _ _ := E
  refine lv_aload_n C.1 C.2.1 dX0_init_71 rfl (lv_at hl 0 rfl) ?_
  refine lv_aload_n C.1 C.2.1 dX0_init_72 rfl (lv_at hl 1 rfl) ?_
  refine fm_kput (k := 1) C N.1 E kp_X0_39 rfl rfl (by simp) ((h7 181 (by omega)).trans ((h6 181 (by omega)).trans ((h5 181 (by omega)).trans ((h4 181 (by omega)).trans ((h3 181 (by omega)).trans ((h2 181 (by omega)).trans (h1 181 (by omega)))))))) ((h7 1 (by omega)).trans ((h6 1 (by omega)).trans ((h5 1 (by omega)).trans ((h4 1 (by omega)).trans ((h3 1 (by omega)).trans ((h2 1 (by omega)).trans (h1 1 (by omega)))))))) dX0_init_73 (fun H locs E => ?_)
  have E : fm_kW G (fm_kA (a0 181) s.heap.size) (fm_kw G fm_m0 181 0 [4, 1, 185, 192, 193, 194, 200, 201, 202, 2, 0] [(4, 6, [some 183, some 184, some 185, some 186, some 187, some 188]), (0, 48, []), (0, 48, []), (0, 48, []), (0, 48, []), (0, 48, []), (0, 48, []), (0, 48, []), (0, 48, []), (4, 5, [some 192, some 193, some 194, some 195, some 196]), (0, 48, []), (0, 48, []), (0, 48, []), (0, 48, []), (0, 48, []), (0, 48, []), (0, 5, []), (0, 48, [])] a7) s _ _ := E
  refine lv_aload_n C.1 C.2.1 dX0_init_76 rfl (lv_at hl 0 rfl) ?_
  refine lv_aload_n C.1 C.2.1 dX0_init_77 rfl (lv_at hl 2 rfl) ?_
  refine fm_kput (k := 178) C N.1 E kp_X0_43 rfl rfl (by simp) ((h7 181 (by omega)).trans ((h6 181 (by omega)).trans ((h5 181 (by omega)).trans ((h4 181 (by omega)).trans ((h3 181 (by omega)).trans ((h2 181 (by omega)).trans (h1 181 (by omega)))))))) ((h7 178 (by omega)).trans ((h6 178 (by omega)).trans ((h5 178 (by omega)).trans ((h4 178 (by omega)).trans ((h3 178 (by omega)).trans ((h2 178 (by omega)).trans (h1 178 (by omega)))))))) dX0_init_78 (fun H locs E => ?_)
  have E : fm_kW G (fm_kA (a0 181) s.heap.size) (fm_kw G fm_m0 181 0 [4, 181, 185, 192, 193, 194, 200, 201, 202, 2, 0] [(4, 6, [some 183, some 184, some 185, some 186, some 187, some 188]), (0, 48, []), (0, 48, []), (0, 48, []), (0, 48, []), (0, 48, []), (0, 48, []), (0, 48, []), (0, 48, []), (4, 5, [some 192, some 193, some 194, some 195, some 196]), (0, 48, []), (0, 48, []), (0, 48, []), (0, 48, []), (0, 48, []), (0, 48, []), (0, 5, []), (0, 48, [])] a7) s _ _ := E
  exact W.widen (Nat.le_of_ble_eq_true rfl) (Nat.le_of_ble_eq_true rfl) (fm_kret (n := 11) (fl := [some 1, some 178, some 182, some 189, some 190, some 191, some 197, some 198, some 199, none, none]) C N E rfl rfl (fun j hj => ((h7 j (by omega)).trans ((h6 j (by omega)).trans ((h5 j (by omega)).trans ((h4 j (by omega)).trans ((h3 j (by omega)).trans ((h2 j (by omega)).trans (h1 j (by omega))))))))) dX0_init_81)
theorem dX1_init_0 : decode cX1_init 0 = .ok (.aload_n 0, 1) := by decide +kernel
theorem dX1_init_1 : decode cX1_init 1 = .ok (.invokespecial 3, 3) := by decide +kernel
theorem dX1_init_4 : decode cX1_init 4 = .ok (.aload_n 0, 1) := by decide +kernel
theorem dX1_init_5 : decode cX1_init 5 = .ok (.bipush 17, 2) := by decide +kernel
theorem dX1_init_7 : decode cX1_init 7 = .ok (.bipush 48, 2) := by decide +kernel
theorem dX1_init_9 : decode cX1_init 9 = .ok (.multianewarray 9 2, 4) := by decide +kernel
theorem dX1_init_13 : decode cX1_init 13 = .ok (.putfield 11, 3) := by decide +kernel
theorem dX1_init_16 : decode cX1_init 16 = .ok (.aload_n 0, 1) := by decide +kernel
theorem dX1_init_17 : decode cX1_init 17 = .ok (.bipush 17, 2) := by decide +kernel
theorem dX1_init_19 : decode cX1_init 19 = .ok (.newarray .int, 2) := by decide +kernel
theorem dX1_init_21 : decode cX1_init 21 = .ok (.putfield 16, 3) := by decide +kernel
theorem dX1_init_24 : decode cX1_init 24 = .ok (.aload_n 0, 1) := by decide +kernel
theorem dX1_init_25 : decode cX1_init 25 = .ok (.aload_n 1, 1) := by decide +kernel
theorem dX1_init_26 : decode cX1_init 26 = .ok (.putfield 20, 3) := by decide +kernel
theorem dX1_init_29 : decode cX1_init 29 = .ok (.return_, 1) := by decide +kernel
theorem kl_X1 : Cond.methodLink "MicRow$Compass" 3 Lib.objectInit ∈ fm_TT := fm_wd 284 (by decide +kernel) (by decide +kernel)
theorem kg_X1 : Cond.classLink "MicRow$Compass" 9 "[[I" ∈ fm_TT := fm_wd 285 (by decide +kernel) (by decide +kernel)
theorem kp_X1_11 : fm_Fc "MicRow$Compass" 11 1 1 true (.array (.array .int)) := ⟨TX1, 3, tyX1, rfl, inX1, (by decide), rfl, fm_wd 287 (by decide +kernel) (by decide +kernel), tyX1_ok, nmX1, rfl, (by decide +kernel)⟩
theorem kp_X1_16 : fm_Fc "MicRow$Compass" 16 1 2 true (.array .int) := ⟨TX1, 3, tyX1, rfl, inX1, (by decide), rfl, fm_wd 288 (by decide +kernel) (by decide +kernel), tyX1_ok, nmX1, rfl, (by decide +kernel)⟩
theorem kp_X1_20 : fm_Fc "MicRow$Compass" 20 1 0 true (.object "MicRow$Bench") := ⟨TX1, 3, tyX1, rfl, inX1, (by decide), rfl, fm_wd 286 (by decide +kernel) (by decide +kernel), tyX1_ok, nmX1, rfl, (by decide +kernel)⟩
def shB_X1 : List fm_Sh := [(8, 3, [some 181, some 201, some 219]), (4, 17, [some 202, some 203, some 204, some 205, some 206, some 207, some 208, some 209, some 210, some 211, some 212, some 213, some 214, some 215, some 216, some 217, some 218]), (0, 48, []), (0, 48, []), (0, 48, []), (0, 48, []), (0, 48, []), (0, 48, []), (0, 48, []), (0, 48, []), (0, 48, []), (0, 48, []), (0, 48, []), (0, 48, []), (0, 48, []), (0, 48, []), (0, 48, []), (0, 48, []), (0, 48, []), (0, 17, [])]
set_option maxHeartbeats 4000000 in
set_option maxRecDepth 20000 in
theorem k_X1 (l : Launch) (G : fm_G) : fm_kMet l yX1_init cX1_init 2 { frames := 1, cells := 19, slots := 850, locals := 20 } G fm_m0 200 1 [.null, .null, .null] shB_X1 (fun ad => [.ref (ad 181)]) 19 850 := by
  refine fm_kenter (by decide) rfl (fun ad => Nat.le_of_ble_eq_true rfl) ?_
  intro a0 p e s m args below meth c ls C N E hl
  have hl : lv_has ls 2 [(0, .ref (a0 200)), (1, .ref (a0 181))] := hl
  have E : fm_kW G (fm_kA (a0 200) s.heap.size) (fm_kw G fm_m0 200 1 [1, 1, 1] [] a0) s s.heap [] := E
  refine lv_aload_n C.1 C.2.1 dX1_init_0 rfl (lv_at hl 0 rfl) ?_
  refine fm_kobj C kl_X1 fm_koi fm_koc hl.1 ⟨by decide, by decide⟩ dX1_init_1 ?_
  refine lv_aload_n C.1 C.2.1 dX1_init_4 rfl (lv_at hl 0 rfl) ?_
  refine lv_bipush (v := 17) C.1 C.2.1 dX1_init_5 (by decide) ?_
  refine lv_bipush (v := 48) C.1 C.2.1 dX1_init_7 (by decide) ?_
  refine fm_kmna (N := 17) (K := 48) (k := 201) C E kg_X1 fm_ka_int (by decide) (by decide) (by decide) (by decide) ⟨Nat.le_of_ble_eq_true rfl, Nat.le_of_ble_eq_true rfl⟩ ⟨Nat.le_of_ble_eq_true rfl, Nat.le_of_ble_eq_true rfl⟩ dX1_init_9 [(4, 17, [some 202, some 203, some 204, some 205, some 206, some 207, some 208, some 209, some 210, some 211, some 212, some 213, some 214, some 215, some 216, some 217, some 218]), (0, 48, []), (0, 48, []), (0, 48, []), (0, 48, []), (0, 48, []), (0, 48, []), (0, 48, []), (0, 48, []), (0, 48, []), (0, 48, []), (0, 48, []), (0, 48, []), (0, 48, []), (0, 48, []), (0, 48, []), (0, 48, []), (0, 48, [])] rfl rfl (by decide) (by decide +kernel) (fm_zall (b := 202) (n := 17) (by decide +kernel)) (fun a1 H h1 E => ?_)
  refine fm_kput (k := 201) C N.1 E kp_X1_11 rfl rfl (by simp) (h1 200 (by omega)) rfl dX1_init_13 (fun H locs E => ?_)
  have E : fm_kW G (fm_kA (a0 200) s.heap.size) (fm_kw G fm_m0 200 1 [1, 204, 1] [(4, 17, [some 202, some 203, some 204, some 205, some 206, some 207, some 208, some 209, some 210, some 211, some 212, some 213, some 214, some 215, some 216, some 217, some 218]), (0, 48, []), (0, 48, []), (0, 48, []), (0, 48, []), (0, 48, []), (0, 48, []), (0, 48, []), (0, 48, []), (0, 48, []), (0, 48, []), (0, 48, []), (0, 48, []), (0, 48, []), (0, 48, []), (0, 48, []), (0, 48, []), (0, 48, [])] a1) s _ _ := E
  refine lv_aload_n C.1 C.2.1 dX1_init_16 rfl (lv_at hl 0 rfl) ?_
  refine lv_bipush (v := 17) C.1 C.2.1 dX1_init_17 (by decide) ?_
  refine fm_kwa (atype := .int) (t := 0) (N' := 17) (a0 := (17, .inl (fun _ => 0))) C E rfl rfl fm_ka_int (fun _ => rfl) (by decide) (by decide) (Nat.le_of_ble_eq_true rfl) ⟨Nat.le_of_ble_eq_true rfl, Nat.le_of_ble_eq_true rfl⟩ dX1_init_19 (0, 17, []) (k := 219) rfl (by decide) (by decide +kernel) (fun _ => rfl) (fun a2 H h2 E => ?_)
  have E : fm_kW G (fm_kA (a0 200) s.heap.size) (fm_kw G fm_m0 200 1 [1, 204, 1] [(4, 17, [some 202, some 203, some 204, some 205, some 206, some 207, some 208, some 209, some 210, some 211, some 212, some 213, some 214, some 215, some 216, some 217, some 218]), (0, 48, []), (0, 48, []), (0, 48, []), (0, 48, []), (0, 48, []), (0, 48, []), (0, 48, []), (0, 48, []), (0, 48, []), (0, 48, []), (0, 48, []), (0, 48, []), (0, 48, []), (0, 48, []), (0, 48, []), (0, 48, []), (0, 48, []), (0, 17, [])] a2) s _ _ := E
  refine fm_kput (k := 219) C N.1 E kp_X1_16 rfl rfl (by simp) ((h2 200 (by omega)).trans (h1 200 (by omega))) rfl dX1_init_21 (fun H locs E => ?_)
  have E : fm_kW G (fm_kA (a0 200) s.heap.size) (fm_kw G fm_m0 200 1 [1, 204, 222] [(4, 17, [some 202, some 203, some 204, some 205, some 206, some 207, some 208, some 209, some 210, some 211, some 212, some 213, some 214, some 215, some 216, some 217, some 218]), (0, 48, []), (0, 48, []), (0, 48, []), (0, 48, []), (0, 48, []), (0, 48, []), (0, 48, []), (0, 48, []), (0, 48, []), (0, 48, []), (0, 48, []), (0, 48, []), (0, 48, []), (0, 48, []), (0, 48, []), (0, 48, []), (0, 48, []), (0, 17, [])] a2) s _ _ := E
  refine lv_aload_n C.1 C.2.1 dX1_init_24 rfl (lv_at hl 0 rfl) ?_
  refine lv_aload_n C.1 C.2.1 dX1_init_25 rfl (lv_at hl 1 rfl) ?_
  refine fm_kput (k := 181) C N.1 E kp_X1_20 rfl rfl (by simp) ((h2 200 (by omega)).trans (h1 200 (by omega))) ((h2 181 (by omega)).trans (h1 181 (by omega))) dX1_init_26 (fun H locs E => ?_)
  have E : fm_kW G (fm_kA (a0 200) s.heap.size) (fm_kw G fm_m0 200 1 [184, 204, 222] [(4, 17, [some 202, some 203, some 204, some 205, some 206, some 207, some 208, some 209, some 210, some 211, some 212, some 213, some 214, some 215, some 216, some 217, some 218]), (0, 48, []), (0, 48, []), (0, 48, []), (0, 48, []), (0, 48, []), (0, 48, []), (0, 48, []), (0, 48, []), (0, 48, []), (0, 48, []), (0, 48, []), (0, 48, []), (0, 48, []), (0, 48, []), (0, 48, []), (0, 48, []), (0, 48, []), (0, 17, [])] a2) s _ _ := E
  exact W.widen (Nat.le_of_ble_eq_true rfl) (Nat.le_of_ble_eq_true rfl) (fm_kret (n := 3) (fl := [some 181, some 201, some 219]) C N E rfl rfl (fun j hj => ((h2 j (by omega)).trans (h1 j (by omega)))) dX1_init_29)
theorem dX2_init_0 : decode cX2_init 0 = .ok (.aload_n 0, 1) := by decide +kernel
theorem dX2_init_1 : decode cX2_init 1 = .ok (.invokespecial 1, 3) := by decide +kernel
theorem dX2_init_4 : decode cX2_init 4 = .ok (.return_, 1) := by decide +kernel
theorem kl_X2 : Cond.methodLink "MicRow$Dice" 1 Lib.objectInit ∈ fm_TT := fm_wd 301 (by decide +kernel) (by decide +kernel)
def shB_X2 : List fm_Sh := [(9, 1, [none])]
set_option maxHeartbeats 4000000 in
set_option maxRecDepth 20000 in
theorem k_X2 (l : Launch) (G : fm_G) : fm_kMet l yX2_init cX2_init 1 { frames := 1, cells := 0, slots := 0, locals := 20 } G fm_m0 220 2 [.int 0] shB_X2 (fun _ => []) 0 0 := by
  refine fm_kenter (by decide) rfl (fun ad => Nat.le_of_ble_eq_true rfl) ?_
  intro a0 p e s m args below meth c ls C N E hl
  have hl : lv_has ls 1 [(0, .ref (a0 220))] := hl
  have E : fm_kW G (fm_kA (a0 220) s.heap.size) (fm_kw G fm_m0 220 2 [2] [] a0) s s.heap [] := E
  refine lv_aload_n C.1 C.2.1 dX2_init_0 rfl (lv_at hl 0 rfl) ?_
  refine fm_kobj C kl_X2 fm_koi fm_koc hl.1 ⟨by decide, by decide⟩ dX2_init_1 ?_
  exact W.widen (Nat.le_of_ble_eq_true rfl) (Nat.le_of_ble_eq_true rfl) (fm_kret (n := 1) (fl := [none]) C N E rfl rfl (fun j hj => rfl) dX2_init_4)
theorem dX9_init_0 : decode cX9_init 0 = .ok (.aload_n 0, 1) := by decide +kernel
theorem dX9_init_1 : decode cX9_init 1 = .ok (.invokespecial 1, 3) := by decide +kernel
theorem dX9_init_4 : decode cX9_init 4 = .ok (.aload_n 0, 1) := by decide +kernel
theorem dX9_init_5 : decode cX9_init 5 = .ok (.new 7, 3) := by decide +kernel
theorem dX9_init_8 : decode cX9_init 8 = .ok (.dup, 1) := by decide +kernel
theorem dX9_init_9 : decode cX9_init 9 = .ok (.invokespecial 9, 3) := by decide +kernel
theorem dX9_init_12 : decode cX9_init 12 = .ok (.putfield 10, 3) := by decide +kernel
theorem dX9_init_15 : decode cX9_init 15 = .ok (.aload_n 0, 1) := by decide +kernel
theorem dX9_init_16 : decode cX9_init 16 = .ok (.new 7, 3) := by decide +kernel
theorem dX9_init_19 : decode cX9_init 19 = .ok (.dup, 1) := by decide +kernel
theorem dX9_init_20 : decode cX9_init 20 = .ok (.invokespecial 9, 3) := by decide +kernel
theorem dX9_init_23 : decode cX9_init 23 = .ok (.putfield 16, 3) := by decide +kernel
theorem dX9_init_26 : decode cX9_init 26 = .ok (.aload_n 0, 1) := by decide +kernel
theorem dX9_init_27 : decode cX9_init 27 = .ok (.iconst 2, 1) := by decide +kernel
theorem dX9_init_28 : decode cX9_init 28 = .ok (.anewarray 7, 3) := by decide +kernel
theorem dX9_init_31 : decode cX9_init 31 = .ok (.dup, 1) := by decide +kernel
theorem dX9_init_32 : decode cX9_init 32 = .ok (.iconst 0, 1) := by decide +kernel
theorem dX9_init_33 : decode cX9_init 33 = .ok (.new 7, 3) := by decide +kernel
theorem dX9_init_36 : decode cX9_init 36 = .ok (.dup, 1) := by decide +kernel
theorem dX9_init_37 : decode cX9_init 37 = .ok (.invokespecial 9, 3) := by decide +kernel
theorem dX9_init_40 : decode cX9_init 40 = .ok (.aastore, 1) := by decide +kernel
theorem dX9_init_41 : decode cX9_init 41 = .ok (.dup, 1) := by decide +kernel
theorem dX9_init_42 : decode cX9_init 42 = .ok (.iconst 1, 1) := by decide +kernel
theorem dX9_init_43 : decode cX9_init 43 = .ok (.new 7, 3) := by decide +kernel
theorem dX9_init_46 : decode cX9_init 46 = .ok (.dup, 1) := by decide +kernel
theorem dX9_init_47 : decode cX9_init 47 = .ok (.invokespecial 9, 3) := by decide +kernel
theorem dX9_init_50 : decode cX9_init 50 = .ok (.aastore, 1) := by decide +kernel
theorem dX9_init_51 : decode cX9_init 51 = .ok (.putfield 19, 3) := by decide +kernel
theorem dX9_init_54 : decode cX9_init 54 = .ok (.aload_n 0, 1) := by decide +kernel
theorem dX9_init_55 : decode cX9_init 55 = .ok (.iconst 2, 1) := by decide +kernel
theorem dX9_init_56 : decode cX9_init 56 = .ok (.newarray .boolean, 2) := by decide +kernel
theorem dX9_init_58 : decode cX9_init 58 = .ok (.putfield 23, 3) := by decide +kernel
theorem dX9_init_61 : decode cX9_init 61 = .ok (.aload_n 0, 1) := by decide +kernel
theorem dX9_init_62 : decode cX9_init 62 = .ok (.new 27, 3) := by decide +kernel
theorem dX9_init_65 : decode cX9_init 65 = .ok (.dup, 1) := by decide +kernel
theorem dX9_init_66 : decode cX9_init 66 = .ok (.invokespecial 29, 3) := by decide +kernel
theorem dX9_init_69 : decode cX9_init 69 = .ok (.putfield 30, 3) := by decide +kernel
theorem dX9_init_72 : decode cX9_init 72 = .ok (.aload_n 0, 1) := by decide +kernel
theorem dX9_init_73 : decode cX9_init 73 = .ok (.new 34, 3) := by decide +kernel
theorem dX9_init_76 : decode cX9_init 76 = .ok (.dup, 1) := by decide +kernel
theorem dX9_init_77 : decode cX9_init 77 = .ok (.invokespecial 36, 3) := by decide +kernel
theorem dX9_init_80 : decode cX9_init 80 = .ok (.putfield 37, 3) := by decide +kernel
theorem dX9_init_83 : decode cX9_init 83 = .ok (.aload_n 0, 1) := by decide +kernel
theorem dX9_init_84 : decode cX9_init 84 = .ok (.new 41, 3) := by decide +kernel
theorem dX9_init_87 : decode cX9_init 87 = .ok (.dup, 1) := by decide +kernel
theorem dX9_init_88 : decode cX9_init 88 = .ok (.aload_n 0, 1) := by decide +kernel
theorem dX9_init_89 : decode cX9_init 89 = .ok (.getfield 37, 3) := by decide +kernel
theorem dX9_init_92 : decode cX9_init 92 = .ok (.invokespecial 43, 3) := by decide +kernel
theorem dX9_init_95 : decode cX9_init 95 = .ok (.putfield 46, 3) := by decide +kernel
theorem dX9_init_98 : decode cX9_init 98 = .ok (.aload_n 0, 1) := by decide +kernel
theorem dX9_init_99 : decode cX9_init 99 = .ok (.new 50, 3) := by decide +kernel
theorem dX9_init_102 : decode cX9_init 102 = .ok (.dup, 1) := by decide +kernel
theorem dX9_init_103 : decode cX9_init 103 = .ok (.invokespecial 52, 3) := by decide +kernel
theorem dX9_init_106 : decode cX9_init 106 = .ok (.putfield 53, 3) := by decide +kernel
theorem dX9_init_109 : decode cX9_init 109 = .ok (.aload_n 0, 1) := by decide +kernel
theorem dX9_init_110 : decode cX9_init 110 = .ok (.new 57, 3) := by decide +kernel
theorem dX9_init_113 : decode cX9_init 113 = .ok (.dup, 1) := by decide +kernel
theorem dX9_init_114 : decode cX9_init 114 = .ok (.aload_n 0, 1) := by decide +kernel
theorem dX9_init_115 : decode cX9_init 115 = .ok (.getfield 10, 3) := by decide +kernel
theorem dX9_init_118 : decode cX9_init 118 = .ok (.invokespecial 59, 3) := by decide +kernel
theorem dX9_init_121 : decode cX9_init 121 = .ok (.putfield 62, 3) := by decide +kernel
theorem dX9_init_124 : decode cX9_init 124 = .ok (.aload_n 0, 1) := by decide +kernel
theorem dX9_init_125 : decode cX9_init 125 = .ok (.new 66, 3) := by decide +kernel
theorem dX9_init_128 : decode cX9_init 128 = .ok (.dup, 1) := by decide +kernel
theorem dX9_init_129 : decode cX9_init 129 = .ok (.aload_n 0, 1) := by decide +kernel
theorem dX9_init_130 : decode cX9_init 130 = .ok (.getfield 10, 3) := by decide +kernel
theorem dX9_init_133 : decode cX9_init 133 = .ok (.aload_n 0, 1) := by decide +kernel
theorem dX9_init_134 : decode cX9_init 134 = .ok (.getfield 62, 3) := by decide +kernel
theorem dX9_init_137 : decode cX9_init 137 = .ok (.invokespecial 68, 3) := by decide +kernel
theorem dX9_init_140 : decode cX9_init 140 = .ok (.putfield 71, 3) := by decide +kernel
theorem dX9_init_143 : decode cX9_init 143 = .ok (.aload_n 0, 1) := by decide +kernel
theorem dX9_init_144 : decode cX9_init 144 = .ok (.new 75, 3) := by decide +kernel
theorem dX9_init_147 : decode cX9_init 147 = .ok (.dup, 1) := by decide +kernel
theorem dX9_init_148 : decode cX9_init 148 = .ok (.aload_n 0, 1) := by decide +kernel
theorem dX9_init_149 : decode cX9_init 149 = .ok (.getfield 71, 3) := by decide +kernel
theorem dX9_init_152 : decode cX9_init 152 = .ok (.invokespecial 77, 3) := by decide +kernel
theorem dX9_init_155 : decode cX9_init 155 = .ok (.putfield 80, 3) := by decide +kernel
theorem dX9_init_158 : decode cX9_init 158 = .ok (.aload_n 0, 1) := by decide +kernel
theorem dX9_init_159 : decode cX9_init 159 = .ok (.new 84, 3) := by decide +kernel
theorem dX9_init_162 : decode cX9_init 162 = .ok (.dup, 1) := by decide +kernel
theorem dX9_init_163 : decode cX9_init 163 = .ok (.invokespecial 86, 3) := by decide +kernel
theorem dX9_init_166 : decode cX9_init 166 = .ok (.putfield 87, 3) := by decide +kernel
theorem dX9_init_169 : decode cX9_init 169 = .ok (.return_, 1) := by decide +kernel
theorem kl_X9 : Cond.methodLink "MicRow" 1 Lib.objectInit ∈ fm_TT := fm_wd 110 (by decide +kernel) (by decide +kernel)
theorem kn_X9_X7 : fm_N "MicRow" 7 7 5 [.int 0, .int 0, .null, .null, .null] := ⟨RX7, TX7, tyX7, rfl, inX7, tyX7_ok, fm_wd 113 (by decide +kernel) (by decide +kernel), fm_wd 114 (by decide +kernel) (by decide +kernel), fm_wd 82 (by decide +kernel) (by decide +kernel), by decide +kernel⟩
theorem ki_X9_X7 : fm_I "MicRow" 9 yX7_init 0 := ⟨Or.inr ⟨"MicRow", fm_nw 115 (by decide +kernel) (by decide +kernel)⟩, fm_wd 116 (by decide +kernel) (by decide +kernel), fm_wd 82 (by decide +kernel) (by decide +kernel), rfl, ⟨by decide, by decide, by decide +kernel⟩⟩
theorem kp_X9_10 : fm_Fc "MicRow" 10 9 0 true (.object "MicRow$Scene") := ⟨TX9, 12, tyX9, rfl, inX9, (by decide), rfl, fm_wd 306 (by decide +kernel) (by decide +kernel), tyX9_ok, nmX9, rfl, (by decide +kernel)⟩
theorem kp_X9_16 : fm_Fc "MicRow" 16 9 1 true (.object "MicRow$Scene") := ⟨TX9, 12, tyX9, rfl, inX9, (by decide), rfl, fm_wd 307 (by decide +kernel) (by decide +kernel), tyX9_ok, nmX9, rfl, (by decide +kernel)⟩
theorem kh_X9 : Cond.classLink "MicRow" 7 "MicRow$Scene" ∈ fm_TT := fm_wd 113 (by decide +kernel) (by decide +kernel)
theorem kp_X9_19 : fm_Fc "MicRow" 19 9 2 true (.array (.object "MicRow$Scene")) := ⟨TX9, 12, tyX9, rfl, inX9, (by decide), rfl, fm_wd 308 (by decide +kernel) (by decide +kernel), tyX9_ok, nmX9, rfl, (by decide +kernel)⟩
theorem kp_X9_23 : fm_Fc "MicRow" 23 9 3 true (.array .boolean) := ⟨TX9, 12, tyX9, rfl, inX9, (by decide), rfl, fm_wd 309 (by decide +kernel) (by decide +kernel), tyX9_ok, nmX9, rfl, (by decide +kernel)⟩
theorem kn_X9_X5 : fm_N "MicRow" 27 5 2 [.null, .int 0] := ⟨RX5, TX5, tyX5, rfl, inX5, tyX5_ok, fm_wd 152 (by decide +kernel) (by decide +kernel), fm_wd 153 (by decide +kernel) (by decide +kernel), fm_wd 83 (by decide +kernel) (by decide +kernel), by decide +kernel⟩
theorem ki_X9_X5 : fm_I "MicRow" 29 yX5_init 0 := ⟨Or.inr ⟨"MicRow", fm_nw 154 (by decide +kernel) (by decide +kernel)⟩, fm_wd 155 (by decide +kernel) (by decide +kernel), fm_wd 83 (by decide +kernel) (by decide +kernel), rfl, ⟨by decide, by decide, by decide +kernel⟩⟩
theorem kk_X5 : Cond.code yX5_init cX5_init 1 none ∈ fm_TT := fm_wd 156 (by decide +kernel) (by decide +kernel)
theorem kp_X9_30 : fm_Fc "MicRow" 30 9 4 true (.object "MicRow$Past") := ⟨TX9, 12, tyX9, rfl, inX9, (by decide), rfl, fm_wd 310 (by decide +kernel) (by decide +kernel), tyX9_ok, nmX9, rfl, (by decide +kernel)⟩
theorem kn_X9_X4 : fm_N "MicRow" 34 4 2 [.null, .int 0] := ⟨RX4, TX4, tyX4, rfl, inX4, tyX4_ok, fm_wd 169 (by decide +kernel) (by decide +kernel), fm_wd 170 (by decide +kernel) (by decide +kernel), fm_wd 84 (by decide +kernel) (by decide +kernel), by decide +kernel⟩
theorem ki_X9_X4 : fm_I "MicRow" 36 yX4_init 0 := ⟨Or.inr ⟨"MicRow", fm_nw 171 (by decide +kernel) (by decide +kernel)⟩, fm_wd 172 (by decide +kernel) (by decide +kernel), fm_wd 84 (by decide +kernel) (by decide +kernel), rfl, ⟨by decide, by decide, by decide +kernel⟩⟩
theorem kk_X4 : Cond.code yX4_init cX4_init 1 none ∈ fm_TT := fm_wd 173 (by decide +kernel) (by decide +kernel)
theorem kp_X9_37 : fm_Fc "MicRow" 37 9 5 true (.object "MicRow$Letters") := ⟨TX9, 12, tyX9, rfl, inX9, (by decide), rfl, fm_wd 311 (by decide +kernel) (by decide +kernel), tyX9_ok, nmX9, rfl, (by decide +kernel)⟩
theorem kn_X9_X6 : fm_N "MicRow" 41 6 1 [.null] := ⟨RX6, TX6, tyX6, rfl, inX6, tyX6_ok, fm_wd 184 (by decide +kernel) (by decide +kernel), fm_wd 185 (by decide +kernel) (by decide +kernel), fm_wd 85 (by decide +kernel) (by decide +kernel), by decide +kernel⟩
theorem kf_X9_37 : fm_F "MicRow" 37 9 5 := ⟨RX9, TX9, 12, rfl, inX9, (by decide), rfl, Or.inl (fm_wd 311 (by decide +kernel) (by decide +kernel))⟩
theorem ki_X9_X6 : fm_I "MicRow" 43 yX6_init 1 := ⟨Or.inl (fm_wd 186 (by decide +kernel) (by decide +kernel)), fm_wd 187 (by decide +kernel) (by decide +kernel), fm_wd 85 (by decide +kernel) (by decide +kernel), rfl, ⟨by decide, by decide, by decide +kernel⟩⟩
theorem kk_X6 : Cond.code yX6_init cX6_init 2 none ∈ fm_TT := fm_wd 188 (by decide +kernel) (by decide +kernel)
theorem kp_X9_46 : fm_Fc "MicRow" 46 9 6 true (.object "MicRow$Reade\x72") := ⟨TX9, 12, tyX9, rfl, inX9, (by decide), rfl, fm_wd 312 (by decide +kernel) (by decide +kernel), tyX9_ok, nmX9, rfl, (by decide +kernel)⟩
theorem kn_X9_X8 : fm_N "MicRow" 50 8 2 [.null, .int 0] := ⟨RX8, TX8, tyX8, rfl, inX8, tyX8_ok, fm_wd 194 (by decide +kernel) (by decide +kernel), fm_wd 195 (by decide +kernel) (by decide +kernel), fm_wd 86 (by decide +kernel) (by decide +kernel), by decide +kernel⟩
theorem ki_X9_X8 : fm_I "MicRow" 52 yX8_init 0 := ⟨Or.inr ⟨"MicRow", fm_nw 196 (by decide +kernel) (by decide +kernel)⟩, fm_wd 197 (by decide +kernel) (by decide +kernel), fm_wd 86 (by decide +kernel) (by decide +kernel), rfl, ⟨by decide, by decide, by decide +kernel⟩⟩
theorem kk_X8 : Cond.code yX8_init cX8_init 1 none ∈ fm_TT := fm_wd 198 (by decide +kernel) (by decide +kernel)
theorem kp_X9_53 : fm_Fc "MicRow" 53 9 7 true (.object "MicRow$Told") := ⟨TX9, 12, tyX9, rfl, inX9, (by decide), rfl, fm_wd 313 (by decide +kernel) (by decide +kernel), tyX9_ok, nmX9, rfl, (by decide +kernel)⟩
theorem kn_X9_X3 : fm_N "MicRow" 57 3 5 [.null, .null, .null, .int 0, .int 0] := ⟨RX3, TX3, tyX3, rfl, inX3, tyX3_ok, fm_wd 210 (by decide +kernel) (by decide +kernel), fm_wd 211 (by decide +kernel) (by decide +kernel), fm_wd 87 (by decide +kernel) (by decide +kernel), by decide +kernel⟩
theorem kf_X9_10 : fm_F "MicRow" 10 9 0 := ⟨RX9, TX9, 12, rfl, inX9, (by decide), rfl, Or.inl (fm_wd 306 (by decide +kernel) (by decide +kernel))⟩
theorem ki_X9_X3 : fm_I "MicRow" 59 yX3_init 1 := ⟨Or.inl (fm_wd 212 (by decide +kernel) (by decide +kernel)), fm_wd 213 (by decide +kernel) (by decide +kernel), fm_wd 87 (by decide +kernel) (by decide +kernel), rfl, ⟨by decide, by decide, by decide +kernel⟩⟩
theorem kk_X3 : Cond.code yX3_init cX3_init 2 none ∈ fm_TT := fm_wd 214 (by decide +kernel) (by decide +kernel)
theorem kp_X9_62 : fm_Fc "MicRow" 62 9 8 true (.object "MicRow$Ears") := ⟨TX9, 12, tyX9, rfl, inX9, (by decide), rfl, fm_wd 314 (by decide +kernel) (by decide +kernel), tyX9_ok, nmX9, rfl, (by decide +kernel)⟩
theorem kn_X9_X0 : fm_N "MicRow" 66 0 11 [.null, .null, .null, .null, .null, .null, .null, .null, .null, .int 0, .int 0] := ⟨RX0, TX0, tyX0, rfl, inX0, tyX0_ok, fm_wd 232 (by decide +kernel) (by decide +kernel), fm_wd 233 (by decide +kernel) (by decide +kernel), fm_wd 88 (by decide +kernel) (by decide +kernel), by decide +kernel⟩
theorem kf_X9_62 : fm_F "MicRow" 62 9 8 := ⟨RX9, TX9, 12, rfl, inX9, (by decide), rfl, Or.inl (fm_wd 314 (by decide +kernel) (by decide +kernel))⟩
theorem ki_X9_X0 : fm_I "MicRow" 68 yX0_init 2 := ⟨Or.inl (fm_wd 234 (by decide +kernel) (by decide +kernel)), fm_wd 235 (by decide +kernel) (by decide +kernel), fm_wd 88 (by decide +kernel) (by decide +kernel), rfl, ⟨by decide, by decide, by decide +kernel⟩⟩
theorem kk_X0 : Cond.code yX0_init cX0_init 3 none ∈ fm_TT := fm_wd 236 (by decide +kernel) (by decide +kernel)
theorem kp_X9_71 : fm_Fc "MicRow" 71 9 9 true (.object "MicRow$Bench") := ⟨TX9, 12, tyX9, rfl, inX9, (by decide), rfl, fm_wd 315 (by decide +kernel) (by decide +kernel), tyX9_ok, nmX9, rfl, (by decide +kernel)⟩
theorem kn_X9_X1 : fm_N "MicRow" 75 1 3 [.null, .null, .null] := ⟨RX1, TX1, tyX1, rfl, inX1, tyX1_ok, fm_wd 279 (by decide +kernel) (by decide +kernel), fm_wd 280 (by decide +kernel) (by decide +kernel), fm_wd 89 (by decide +kernel) (by decide +kernel), by decide +kernel⟩
theorem kf_X9_71 : fm_F "MicRow" 71 9 9 := ⟨RX9, TX9, 12, rfl, inX9, (by decide), rfl, Or.inl (fm_wd 315 (by decide +kernel) (by decide +kernel))⟩
theorem ki_X9_X1 : fm_I "MicRow" 77 yX1_init 1 := ⟨Or.inl (fm_wd 281 (by decide +kernel) (by decide +kernel)), fm_wd 282 (by decide +kernel) (by decide +kernel), fm_wd 89 (by decide +kernel) (by decide +kernel), rfl, ⟨by decide, by decide, by decide +kernel⟩⟩
theorem kk_X1 : Cond.code yX1_init cX1_init 2 none ∈ fm_TT := fm_wd 283 (by decide +kernel) (by decide +kernel)
theorem kp_X9_80 : fm_Fc "MicRow" 80 9 10 true (.object "MicRow$Compass") := ⟨TX9, 12, tyX9, rfl, inX9, (by decide), rfl, fm_wd 316 (by decide +kernel) (by decide +kernel), tyX9_ok, nmX9, rfl, (by decide +kernel)⟩
theorem kn_X9_X2 : fm_N "MicRow" 84 2 1 [.int 0] := ⟨RX2, TX2, tyX2, rfl, inX2, tyX2_ok, fm_wd 296 (by decide +kernel) (by decide +kernel), fm_wd 297 (by decide +kernel) (by decide +kernel), fm_wd 90 (by decide +kernel) (by decide +kernel), by decide +kernel⟩
theorem ki_X9_X2 : fm_I "MicRow" 86 yX2_init 0 := ⟨Or.inr ⟨"MicRow", fm_nw 298 (by decide +kernel) (by decide +kernel)⟩, fm_wd 299 (by decide +kernel) (by decide +kernel), fm_wd 90 (by decide +kernel) (by decide +kernel), rfl, ⟨by decide, by decide, by decide +kernel⟩⟩
theorem kk_X2 : Cond.code yX2_init cX2_init 1 none ∈ fm_TT := fm_wd 300 (by decide +kernel) (by decide +kernel)
theorem kp_X9_87 : fm_Fc "MicRow" 87 9 11 true (.object "MicRow$Dice") := ⟨TX9, 12, tyX9, rfl, inX9, (by decide), rfl, fm_wd 317 (by decide +kernel) (by decide +kernel), tyX9_ok, nmX9, rfl, (by decide +kernel)⟩
def shB_X9 : List fm_Sh := [(16, 12, [some 1, some 15, some 29, some 58, some 59, some 173, some 175, some 176, some 178, some 181, some 200, some 220]), (14, 5, [none, none, some 2, some 9, some 14]), (4, 6, [some 3, some 4, some 5, some 6, some 7, some 8]), (0, 6, []), (0, 6, []), (0, 6, []), (0, 6, []), (0, 6, []), (0, 6, []), (4, 4, [some 10, some 11, some 12, some 13]), (0, 15, []), (0, 15, []), (0, 15, []), (0, 15, []), (0, 3, []), (14, 5, [none, none, some 16, some 23, some 28]), (4, 6, [some 17, some 18, some 19, some 20, some 21, some 22]), (0, 6, []), (0, 6, []), (0, 6, []), (0, 6, []), (0, 6, []), (0, 6, []), (4, 4, [some 24, some 25, some 26, some 27]), (0, 15, []), (0, 15, []), (0, 15, []), (0, 15, []), (0, 3, []), (5, 2, [some 30, some 44]), (14, 5, [none, none, some 31, some 38, some 43]), (4, 6, [some 32, some 33, some 34, some 35, some 36, some 37]), (0, 6, []), (0, 6, []), (0, 6, []), (0, 6, []), (0, 6, []), (0, 6, []), (4, 4, [some 39, some 40, some 41, some 42]), (0, 15, []), (0, 15, []), (0, 15, []), (0, 15, []), (0, 3, []), (14, 5, [none, none, some 45, some 52, some 57]), (4, 6, [some 46, some 47, some 48, some 49, some 50, some 51]), (0, 6, []), (0, 6, []), (0, 6, []), (0, 6, []), (0, 6, []), (0, 6, []), (4, 4, [some 53, some 54, some 55, some 56]), (0, 15, []), (0, 15, []), (0, 15, []), (0, 15, []), (0, 3, []), (2, 2, []), (12, 2, [some 60, none]), (5, 8, [some 61, some 75, some 89, some 103, some 117, some 131, some 145, some 159]), (14, 5, [none, none, some 62, some 69, some 74]), (4, 6, [some 63, some 64, some 65, some 66, some 67, some 68]), (0, 6, []), (0, 6, []), (0, 6, []), (0, 6, []), (0, 6, []), (0, 6, []), (4, 4, [some 70, some 71, some 72, some 73]), (0, 15, []), (0, 15, []), (0, 15, []), (0, 15, []), (0, 3, []), (14, 5, [none, none, some 76, some 83, some 88]), (4, 6, [some 77, some 78, some 79, some 80, some 81, some 82]), (0, 6, []), (0, 6, []), (0, 6, []), (0, 6, []), (0, 6, []), (0, 6, []), (4, 4, [some 84, some 85, some 86, some 87]), (0, 15, []), (0, 15, []), (0, 15, []), (0, 15, []), (0, 3, []), (14, 5, [none, none, some 90, some 97, some 102]), (4, 6, [some 91, some 92, some 93, some 94, some 95, some 96]), (0, 6, []), (0, 6, []), (0, 6, []), (0, 6, []), (0, 6, []), (0, 6, []), (4, 4, [some 98, some 99, some 100, some 101]), (0, 15, []), (0, 15, []), (0, 15, []), (0, 15, []), (0, 3, []), (14, 5, [none, none, some 104, some 111, some 116]), (4, 6, [some 105, some 106, some 107, some 108, some 109, some 110]), (0, 6, []), (0, 6, []), (0, 6, []), (0, 6, []), (0, 6, []), (0, 6, []), (4, 4, [some 112, some 113, some 114, some 115]), (0, 15, []), (0, 15, []), (0, 15, []), (0, 15, []), (0, 3, []), (14, 5, [none, none, some 118, some 125, some 130]), (4, 6, [some 119, some 120, some 121, some 122, some 123, some 124]), (0, 6, []), (0, 6, []), (0, 6, []), (0, 6, []), (0, 6, []), (0, 6, []), (4, 4, [some 126, some 127, some 128, some 129]), (0, 15, []), (0, 15, []), (0, 15, []), (0, 15, []), (0, 3, []), (14, 5, [none, none, some 132, some 139, some 144]), (4, 6, [some 133, some 134, some 135, some 136, some 137, some 138]), (0, 6, []), (0, 6, []), (0, 6, []), (0, 6, []), (0, 6, []), (0, 6, []), (4, 4, [some 140, some 141, some 142, some 143]), (0, 15, []), (0, 15, []), (0, 15, []), (0, 15, []), (0, 3, []), (14, 5, [none, none, some 146, some 153, some 158]), (4, 6, [some 147, some 148, some 149, some 150, some 151, some 152]), (0, 6, []), (0, 6, []), (0, 6, []), (0, 6, []), (0, 6, []), (0, 6, []), (4, 4, [some 154, some 155, some 156, some 157]), (0, 15, []), (0, 15, []), (0, 15, []), (0, 15, []), (0, 3, []), (14, 5, [none, none, some 160, some 167, some 172]), (4, 6, [some 161, some 162, some 163, some 164, some 165, some 166]), (0, 6, []), (0, 6, []), (0, 6, []), (0, 6, []), (0, 6, []), (0, 6, []), (4, 4, [some 168, some 169, some 170, some 171]), (0, 15, []), (0, 15, []), (0, 15, []), (0, 15, []), (0, 3, []), (11, 2, [some 174, none]), (0, 80, []), (13, 1, [some 173]), (15, 2, [some 177, none]), (3, 17, []), (10, 5, [some 1, some 179, some 180, none, none]), (0, 3606, []), (0, 3606, []), (7, 11, [some 1, some 178, some 182, some 189, some 190, some 191, some 197, some 198, some 199, none, none]), (4, 6, [some 183, some 184, some 185, some 186, some 187, some 188]), (0, 48, []), (0, 48, []), (0, 48, []), (0, 48, []), (0, 48, []), (0, 48, []), (0, 48, []), (0, 48, []), (4, 5, [some 192, some 193, some 194, some 195, some 196]), (0, 48, []), (0, 48, []), (0, 48, []), (0, 48, []), (0, 48, []), (0, 48, []), (0, 5, []), (0, 48, []), (8, 3, [some 181, some 201, some 219]), (4, 17, [some 202, some 203, some 204, some 205, some 206, some 207, some 208, some 209, some 210, some 211, some 212, some 213, some 214, some 215, some 216, some 217, some 218]), (0, 48, []), (0, 48, []), (0, 48, []), (0, 48, []), (0, 48, []), (0, 48, []), (0, 48, []), (0, 48, []), (0, 48, []), (0, 48, []), (0, 48, []), (0, 48, []), (0, 48, []), (0, 48, []), (0, 48, []), (0, 48, []), (0, 48, []), (0, 17, []), (9, 1, [none])]
set_option maxHeartbeats 4000000 in
set_option maxRecDepth 20000 in
theorem k_X9 (l : Launch) (G : fm_G) : fm_kMet l yX9_init cX9_init 1 { frames := 3, cells := 220, slots := 10302, locals := 60 } G fm_m0 0 9 [.null, .null, .null, .null, .null, .null, .null, .null, .null, .null, .null, .null] shB_X9 (fun _ => []) 220 10302 := by
  refine fm_kenter (by decide) rfl (fun ad => Nat.le_of_ble_eq_true rfl) ?_
  intro a0 p e s m args below meth c ls C N E hl
  have hl : lv_has ls 1 [(0, .ref (a0 0))] := hl
  have E : fm_kW G (fm_kA (a0 0) s.heap.size) (fm_kw G fm_m0 0 9 [1, 1, 1, 1, 1, 1, 1, 1, 1, 1, 1, 1] [] a0) s s.heap [] := E
  refine lv_aload_n C.1 C.2.1 dX9_init_0 rfl (lv_at hl 0 rfl) ?_
  refine fm_kobj C kl_X9 fm_koi fm_koc hl.1 ⟨by decide, by decide⟩ dX9_init_1 ?_
  refine lv_aload_n C.1 C.2.1 dX9_init_4 rfl (lv_at hl 0 rfl) ?_
  refine fm_knew C E kn_X9_X7 ⟨Nat.le_of_ble_eq_true rfl, Nat.le_of_ble_eq_true rfl⟩ dX9_init_5 (fun q5 H E => ?_)
  refine lv_dup C.1 C.2.1 dX9_init_8 rfl ?_
  refine fm_kinit (rest := [.ref _, .ref _]) C E [] ki_X9_X7 kk_X7 (k_X7 l G fm_m0 1 fm_sc1) rfl (by decide) (by decide +kernel) rfl rfl hl.1 (by simp [Value.category]) ⟨⟨rfl, rfl⟩, by decide, by decide⟩ ⟨Nat.le_of_ble_eq_true rfl, Nat.le_of_ble_eq_true rfl⟩ dX9_init_9 rfl (fun a1 H locs h1 g1 E => ?_)
  refine W.eq (g2 := F0 m 12 ls [.ref q5, .ref (a0 0)]) rfl ?_
  have E : fm_kW G (fm_kA (a0 0) s.heap.size) (fm_kw G fm_m0 0 9 [1, 1, 1, 1, 1, 1, 1, 1, 1, 1, 1, 1] (shB_X7 1) a1) s _ _ := E
  refine fm_kput (k := 1) C N.1 E kp_X9_10 rfl rfl (by simp) (h1 0 (by omega)) g1 dX9_init_12 (fun H locs E => ?_)
  have E : fm_kW G (fm_kA (a0 0) s.heap.size) (fm_kw G fm_m0 0 9 [4, 1, 1, 1, 1, 1, 1, 1, 1, 1, 1, 1] (shB_X7 1) a1) s _ _ := E
  refine lv_aload_n C.1 C.2.1 dX9_init_15 rfl (lv_at hl 0 rfl) ?_
  refine fm_knew C E kn_X9_X7 ⟨Nat.le_of_ble_eq_true rfl, Nat.le_of_ble_eq_true rfl⟩ dX9_init_16 (fun q16 H E => ?_)
  refine lv_dup C.1 C.2.1 dX9_init_19 rfl ?_
  refine fm_kinit (rest := [.ref _, .ref _]) C E [] ki_X9_X7 kk_X7 (k_X7 l G fm_m0 15 fm_sc15) rfl (by decide) (by decide +kernel) rfl rfl hl.1 (by simp [Value.category]) ⟨⟨rfl, rfl⟩, by decide, by decide⟩ ⟨Nat.le_of_ble_eq_true rfl, Nat.le_of_ble_eq_true rfl⟩ dX9_init_20 rfl (fun a2 H locs h2 g2 E => ?_)
  refine W.eq (g2 := F0 m 23 ls [.ref q16, .ref (a0 0)]) rfl ?_
  have E : fm_kW G (fm_kA (a0 0) s.heap.size) (fm_kw G fm_m0 0 9 [4, 1, 1, 1, 1, 1, 1, 1, 1, 1, 1, 1] (shB_X7 1 ++ shB_X7 15) a2) s _ _ := E
  refine fm_kput (k := 15) C N.1 E kp_X9_16 rfl rfl (by simp) ((h2 0 (by omega)).trans (h1 0 (by omega))) g2 dX9_init_23 (fun H locs E => ?_)
  have E : fm_kW G (fm_kA (a0 0) s.heap.size) (fm_kw G fm_m0 0 9 [4, 18, 1, 1, 1, 1, 1, 1, 1, 1, 1, 1] (shB_X7 1 ++ shB_X7 15) a2) s _ _ := E
  refine lv_aload_n C.1 C.2.1 dX9_init_26 rfl (lv_at hl 0 rfl) ?_
  refine lv_iconst (v := 2) C.1 C.2.1 dX9_init_27 (by decide) ?_
  refine fm_kwq (N' := 2) (k := 29) C E kh_X9 (by decide) (by decide) (Nat.le_of_ble_eq_true rfl) ⟨Nat.le_of_ble_eq_true rfl, Nat.le_of_ble_eq_true rfl⟩ dX9_init_28 [none, none] (by decide) rfl (by decide) (by decide +kernel) (fun a3 H h3 E => ?_)
  have E : fm_kW G (fm_kA (a0 0) s.heap.size) (fm_kw G fm_m0 0 9 [4, 18, 1, 1, 1, 1, 1, 1, 1, 1, 1, 1] (shB_X7 1 ++ shB_X7 15 ++ [(5, 2, [none, none])]) a3) s _ _ := E
  refine lv_dup C.1 C.2.1 dX9_init_31 rfl ?_
  refine lv_iconst (v := 0) C.1 C.2.1 dX9_init_32 (by decide) ?_
  refine fm_knew C E kn_X9_X7 ⟨Nat.le_of_ble_eq_true rfl, Nat.le_of_ble_eq_true rfl⟩ dX9_init_33 (fun q33 H E => ?_)
  refine lv_dup C.1 C.2.1 dX9_init_36 rfl ?_
  refine fm_kinit (rest := [.ref _, .int _, .ref _, .ref _, .ref _]) C E [] ki_X9_X7 kk_X7 (k_X7 l G fm_m0 30 fm_sc30) rfl (by decide) (by decide +kernel) rfl rfl hl.1 (by simp [Value.category]) ⟨⟨rfl, rfl⟩, by decide, by decide⟩ ⟨Nat.le_of_ble_eq_true rfl, Nat.le_of_ble_eq_true rfl⟩ dX9_init_37 rfl (fun a4 H locs h4 g4 E => ?_)
  refine W.eq (g2 := F0 m 40 ls [.ref q33, .int 0, .ref (a3 29), .ref (a3 29), .ref (a0 0)]) rfl ?_
  have E : fm_kW G (fm_kA (a0 0) s.heap.size) (fm_kw G fm_m0 0 9 [4, 18, 1, 1, 1, 1, 1, 1, 1, 1, 1, 1] (shB_X7 1 ++ shB_X7 15 ++ [(5, 2, [none, none])] ++ shB_X7 30) a4) s _ _ := E
  refine fm_kaast (i := 28) (iv := 29) (kv := 30) (J := 0) C E rfl rfl rfl (h4 29 (by omega)) g4 (by decide) (by decide) (by decide) dX9_init_40 (shB_X7 1 ++ shB_X7 15 ++ [(5, 2, [some 30, none])] ++ shB_X7 30) rfl (fun H locs E => ?_)
  refine lv_dup C.1 C.2.1 dX9_init_41 rfl ?_
  refine lv_iconst (v := 1) C.1 C.2.1 dX9_init_42 (by decide) ?_
  refine fm_knew C E kn_X9_X7 ⟨Nat.le_of_ble_eq_true rfl, Nat.le_of_ble_eq_true rfl⟩ dX9_init_43 (fun q43 H E => ?_)
  refine lv_dup C.1 C.2.1 dX9_init_46 rfl ?_
  refine fm_kinit (rest := [.ref _, .int _, .ref _, .ref _, .ref _]) C E [] ki_X9_X7 kk_X7 (k_X7 l G fm_m0 44 fm_sc44) rfl (by decide) (by decide +kernel) rfl rfl hl.1 (by simp [Value.category]) ⟨⟨rfl, rfl⟩, by decide, by decide⟩ ⟨Nat.le_of_ble_eq_true rfl, Nat.le_of_ble_eq_true rfl⟩ dX9_init_47 rfl (fun a5 H locs h5 g5 E => ?_)
  refine W.eq (g2 := F0 m 50 ls [.ref q43, .int 1, .ref (a3 29), .ref (a3 29), .ref (a0 0)]) rfl ?_
  have E : fm_kW G (fm_kA (a0 0) s.heap.size) (fm_kw G fm_m0 0 9 [4, 18, 1, 1, 1, 1, 1, 1, 1, 1, 1, 1] (shB_X7 1 ++ shB_X7 15 ++ [(5, 2, [some 30, none])] ++ shB_X7 30 ++ shB_X7 44) a5) s _ _ := E
  refine fm_kaast (i := 28) (iv := 43) (kv := 44) (J := 1) C E rfl rfl rfl ((h5 29 (by omega)).trans (h4 29 (by omega))) g5 (by decide) (by decide) (by decide) dX9_init_50 (shB_X7 1 ++ shB_X7 15 ++ [(5, 2, [some 30, some 44])] ++ shB_X7 30 ++ shB_X7 44) rfl (fun H locs E => ?_)
  refine fm_kput (k := 29) C N.1 E kp_X9_19 rfl rfl (by simp) ((h5 0 (by omega)).trans ((h4 0 (by omega)).trans ((h3 0 (by omega)).trans ((h2 0 (by omega)).trans (h1 0 (by omega)))))) ((h5 29 (by omega)).trans (h4 29 (by omega))) dX9_init_51 (fun H locs E => ?_)
  have E : fm_kW G (fm_kA (a0 0) s.heap.size) (fm_kw G fm_m0 0 9 [4, 18, 32, 1, 1, 1, 1, 1, 1, 1, 1, 1] (shB_X7 1 ++ shB_X7 15 ++ [(5, 2, [some 30, some 44])] ++ shB_X7 30 ++ shB_X7 44) a5) s _ _ := E
  refine lv_aload_n C.1 C.2.1 dX9_init_54 rfl (lv_at hl 0 rfl) ?_
  refine lv_iconst (v := 2) C.1 C.2.1 dX9_init_55 (by decide) ?_
  refine fm_kwa (atype := .boolean) (t := 2) (N' := 2) (a0 := (2, .inl (fun _ => 0))) C E rfl rfl fm_ka_boolean (fun _ => rfl) (by decide) (by decide) (Nat.le_of_ble_eq_true rfl) ⟨Nat.le_of_ble_eq_true rfl, Nat.le_of_ble_eq_true rfl⟩ dX9_init_56 (2, 2, []) (k := 58) rfl (by decide) (by decide +kernel) (fun _ => rfl) (fun a6 H h6 E => ?_)
  have E : fm_kW G (fm_kA (a0 0) s.heap.size) (fm_kw G fm_m0 0 9 [4, 18, 32, 1, 1, 1, 1, 1, 1, 1, 1, 1] (shB_X7 1 ++ shB_X7 15 ++ [(5, 2, [some 30, some 44])] ++ shB_X7 30 ++ shB_X7 44 ++ [(2, 2, [])]) a6) s _ _ := E
  refine fm_kput (k := 58) C N.1 E kp_X9_23 rfl rfl (by simp) ((h6 0 (by omega)).trans ((h5 0 (by omega)).trans ((h4 0 (by omega)).trans ((h3 0 (by omega)).trans ((h2 0 (by omega)).trans (h1 0 (by omega))))))) rfl dX9_init_58 (fun H locs E => ?_)
  have E : fm_kW G (fm_kA (a0 0) s.heap.size) (fm_kw G fm_m0 0 9 [4, 18, 32, 61, 1, 1, 1, 1, 1, 1, 1, 1] (shB_X7 1 ++ shB_X7 15 ++ [(5, 2, [some 30, some 44])] ++ shB_X7 30 ++ shB_X7 44 ++ [(2, 2, [])]) a6) s _ _ := E
  refine lv_aload_n C.1 C.2.1 dX9_init_61 rfl (lv_at hl 0 rfl) ?_
  refine fm_knew C E kn_X9_X5 ⟨Nat.le_of_ble_eq_true rfl, Nat.le_of_ble_eq_true rfl⟩ dX9_init_62 (fun q62 H E => ?_)
  refine lv_dup C.1 C.2.1 dX9_init_65 rfl ?_
  refine fm_kinit (rest := [.ref _, .ref _]) C E [] ki_X9_X5 kk_X5 (k_X5 l G) rfl (by decide) (by decide +kernel) rfl rfl hl.1 (by simp [Value.category]) ⟨⟨rfl, rfl⟩, by decide, by decide⟩ ⟨Nat.le_of_ble_eq_true rfl, Nat.le_of_ble_eq_true rfl⟩ dX9_init_66 rfl (fun a7 H locs h7 g7 E => ?_)
  refine W.eq (g2 := F0 m 69 ls [.ref q62, .ref (a0 0)]) rfl ?_
  have E : fm_kW G (fm_kA (a0 0) s.heap.size) (fm_kw G fm_m0 0 9 [4, 18, 32, 61, 1, 1, 1, 1, 1, 1, 1, 1] (shB_X7 1 ++ shB_X7 15 ++ [(5, 2, [some 30, some 44])] ++ shB_X7 30 ++ shB_X7 44 ++ [(2, 2, [])] ++ shB_X5) a7) s _ _ := E
  refine fm_kput (k := 59) C N.1 E kp_X9_30 rfl rfl (by simp) ((h7 0 (by omega)).trans ((h6 0 (by omega)).trans ((h5 0 (by omega)).trans ((h4 0 (by omega)).trans ((h3 0 (by omega)).trans ((h2 0 (by omega)).trans (h1 0 (by omega)))))))) g7 dX9_init_69 (fun H locs E => ?_)
  have E : fm_kW G (fm_kA (a0 0) s.heap.size) (fm_kw G fm_m0 0 9 [4, 18, 32, 61, 62, 1, 1, 1, 1, 1, 1, 1] (shB_X7 1 ++ shB_X7 15 ++ [(5, 2, [some 30, some 44])] ++ shB_X7 30 ++ shB_X7 44 ++ [(2, 2, [])] ++ shB_X5) a7) s _ _ := E
  refine lv_aload_n C.1 C.2.1 dX9_init_72 rfl (lv_at hl 0 rfl) ?_
  refine fm_knew C E kn_X9_X4 ⟨Nat.le_of_ble_eq_true rfl, Nat.le_of_ble_eq_true rfl⟩ dX9_init_73 (fun q73 H E => ?_)
  refine lv_dup C.1 C.2.1 dX9_init_76 rfl ?_
  refine fm_kinit (rest := [.ref _, .ref _]) C E [] ki_X9_X4 kk_X4 (k_X4 l G) rfl (by decide) (by decide +kernel) rfl rfl hl.1 (by simp [Value.category]) ⟨⟨rfl, rfl⟩, by decide, by decide⟩ ⟨Nat.le_of_ble_eq_true rfl, Nat.le_of_ble_eq_true rfl⟩ dX9_init_77 rfl (fun a8 H locs h8 g8 E => ?_)
  refine W.eq (g2 := F0 m 80 ls [.ref q73, .ref (a0 0)]) rfl ?_
  have E : fm_kW G (fm_kA (a0 0) s.heap.size) (fm_kw G fm_m0 0 9 [4, 18, 32, 61, 62, 1, 1, 1, 1, 1, 1, 1] (shB_X7 1 ++ shB_X7 15 ++ [(5, 2, [some 30, some 44])] ++ shB_X7 30 ++ shB_X7 44 ++ [(2, 2, [])] ++ shB_X5 ++ shB_X4) a8) s _ _ := E
  refine fm_kput (k := 173) C N.1 E kp_X9_37 rfl rfl (by simp) ((h8 0 (by omega)).trans ((h7 0 (by omega)).trans ((h6 0 (by omega)).trans ((h5 0 (by omega)).trans ((h4 0 (by omega)).trans ((h3 0 (by omega)).trans ((h2 0 (by omega)).trans (h1 0 (by omega))))))))) g8 dX9_init_80 (fun H locs E => ?_)
  have E : fm_kW G (fm_kA (a0 0) s.heap.size) (fm_kw G fm_m0 0 9 [4, 18, 32, 61, 62, 176, 1, 1, 1, 1, 1, 1] (shB_X7 1 ++ shB_X7 15 ++ [(5, 2, [some 30, some 44])] ++ shB_X7 30 ++ shB_X7 44 ++ [(2, 2, [])] ++ shB_X5 ++ shB_X4) a8) s _ _ := E
  refine lv_aload_n C.1 C.2.1 dX9_init_83 rfl (lv_at hl 0 rfl) ?_
  refine fm_knew C E kn_X9_X6 ⟨Nat.le_of_ble_eq_true rfl, Nat.le_of_ble_eq_true rfl⟩ dX9_init_84 (fun q84 H E => ?_)
  refine lv_dup C.1 C.2.1 dX9_init_87 rfl ?_
  refine lv_aload_n C.1 C.2.1 dX9_init_88 rfl (lv_at hl 0 rfl) ?_
  refine fm_kget (ex := [_]) (k := 173) C E kf_X9_37 rfl ((h8 0 (by omega)).trans ((h7 0 (by omega)).trans ((h6 0 (by omega)).trans ((h5 0 (by omega)).trans ((h4 0 (by omega)).trans ((h3 0 (by omega)).trans ((h2 0 (by omega)).trans (h1 0 (by omega))))))))) dX9_init_89 ?_
  refine fm_kinit (rest := [.ref _, .ref _]) C E [.ref (a8 173)] ki_X9_X6 kk_X6 (k_X6 l G) rfl (by decide) (by decide +kernel) (by show [Value.ref (fm_au a8 175 q84 173)] = [Value.ref (a8 173)]; rw [fm_au_lt 173 (by omega)]) rfl hl.1 (by simp [Value.category]) ⟨⟨rfl, rfl⟩, by decide, by decide⟩ ⟨Nat.le_of_ble_eq_true rfl, Nat.le_of_ble_eq_true rfl⟩ dX9_init_92 rfl (fun a9 H locs h9 g9 E => ?_)
  refine W.eq (g2 := F0 m 95 ls [.ref q84, .ref (a0 0)]) rfl ?_
  have E : fm_kW G (fm_kA (a0 0) s.heap.size) (fm_kw G fm_m0 0 9 [4, 18, 32, 61, 62, 176, 1, 1, 1, 1, 1, 1] (shB_X7 1 ++ shB_X7 15 ++ [(5, 2, [some 30, some 44])] ++ shB_X7 30 ++ shB_X7 44 ++ [(2, 2, [])] ++ shB_X5 ++ shB_X4 ++ shB_X6) a9) s _ _ := E
  refine fm_kput (k := 175) C N.1 E kp_X9_46 rfl rfl (by simp) ((h9 0 (by omega)).trans ((h8 0 (by omega)).trans ((h7 0 (by omega)).trans ((h6 0 (by omega)).trans ((h5 0 (by omega)).trans ((h4 0 (by omega)).trans ((h3 0 (by omega)).trans ((h2 0 (by omega)).trans (h1 0 (by omega)))))))))) g9 dX9_init_95 (fun H locs E => ?_)
  have E : fm_kW G (fm_kA (a0 0) s.heap.size) (fm_kw G fm_m0 0 9 [4, 18, 32, 61, 62, 176, 178, 1, 1, 1, 1, 1] (shB_X7 1 ++ shB_X7 15 ++ [(5, 2, [some 30, some 44])] ++ shB_X7 30 ++ shB_X7 44 ++ [(2, 2, [])] ++ shB_X5 ++ shB_X4 ++ shB_X6) a9) s _ _ := E
  refine lv_aload_n C.1 C.2.1 dX9_init_98 rfl (lv_at hl 0 rfl) ?_
  refine fm_knew C E kn_X9_X8 ⟨Nat.le_of_ble_eq_true rfl, Nat.le_of_ble_eq_true rfl⟩ dX9_init_99 (fun q99 H E => ?_)
  refine lv_dup C.1 C.2.1 dX9_init_102 rfl ?_
  refine fm_kinit (rest := [.ref _, .ref _]) C E [] ki_X9_X8 kk_X8 (k_X8 l G) rfl (by decide) (by decide +kernel) rfl rfl hl.1 (by simp [Value.category]) ⟨⟨rfl, rfl⟩, by decide, by decide⟩ ⟨Nat.le_of_ble_eq_true rfl, Nat.le_of_ble_eq_true rfl⟩ dX9_init_103 rfl (fun a10 H locs h10 g10 E => ?_)
  refine W.eq (g2 := F0 m 106 ls [.ref q99, .ref (a0 0)]) rfl ?_
  have E : fm_kW G (fm_kA (a0 0) s.heap.size) (fm_kw G fm_m0 0 9 [4, 18, 32, 61, 62, 176, 178, 1, 1, 1, 1, 1] (shB_X7 1 ++ shB_X7 15 ++ [(5, 2, [some 30, some 44])] ++ shB_X7 30 ++ shB_X7 44 ++ [(2, 2, [])] ++ shB_X5 ++ shB_X4 ++ shB_X6 ++ shB_X8) a10) s _ _ := E
  refine fm_kput (k := 176) C N.1 E kp_X9_53 rfl rfl (by simp) ((h10 0 (by omega)).trans ((h9 0 (by omega)).trans ((h8 0 (by omega)).trans ((h7 0 (by omega)).trans ((h6 0 (by omega)).trans ((h5 0 (by omega)).trans ((h4 0 (by omega)).trans ((h3 0 (by omega)).trans ((h2 0 (by omega)).trans (h1 0 (by omega))))))))))) g10 dX9_init_106 (fun H locs E => ?_)
  have E : fm_kW G (fm_kA (a0 0) s.heap.size) (fm_kw G fm_m0 0 9 [4, 18, 32, 61, 62, 176, 178, 179, 1, 1, 1, 1] (shB_X7 1 ++ shB_X7 15 ++ [(5, 2, [some 30, some 44])] ++ shB_X7 30 ++ shB_X7 44 ++ [(2, 2, [])] ++ shB_X5 ++ shB_X4 ++ shB_X6 ++ shB_X8) a10) s _ _ := E
  refine lv_aload_n C.1 C.2.1 dX9_init_109 rfl (lv_at hl 0 rfl) ?_
  refine fm_knew C E kn_X9_X3 ⟨Nat.le_of_ble_eq_true rfl, Nat.le_of_ble_eq_true rfl⟩ dX9_init_110 (fun q110 H E => ?_)
  refine lv_dup C.1 C.2.1 dX9_init_113 rfl ?_
  refine lv_aload_n C.1 C.2.1 dX9_init_114 rfl (lv_at hl 0 rfl) ?_
  refine fm_kget (ex := [_]) (k := 1) C E kf_X9_10 rfl ((h10 0 (by omega)).trans ((h9 0 (by omega)).trans ((h8 0 (by omega)).trans ((h7 0 (by omega)).trans ((h6 0 (by omega)).trans ((h5 0 (by omega)).trans ((h4 0 (by omega)).trans ((h3 0 (by omega)).trans ((h2 0 (by omega)).trans (h1 0 (by omega))))))))))) dX9_init_115 ?_
  refine fm_kinit (rest := [.ref _, .ref _]) C E [.ref (a10 1)] ki_X9_X3 kk_X3 (k_X3 l G) rfl (by decide) (by decide +kernel) (by show [Value.ref (fm_au a10 178 q110 1)] = [Value.ref (a10 1)]; rw [fm_au_lt 1 (by omega)]) rfl hl.1 (by simp [Value.category]) ⟨⟨rfl, rfl⟩, by decide, by decide⟩ ⟨Nat.le_of_ble_eq_true rfl, Nat.le_of_ble_eq_true rfl⟩ dX9_init_118 rfl (fun a11 H locs h11 g11 E => ?_)
  refine W.eq (g2 := F0 m 121 ls [.ref q110, .ref (a0 0)]) rfl ?_
  have E : fm_kW G (fm_kA (a0 0) s.heap.size) (fm_kw G fm_m0 0 9 [4, 18, 32, 61, 62, 176, 178, 179, 1, 1, 1, 1] (shB_X7 1 ++ shB_X7 15 ++ [(5, 2, [some 30, some 44])] ++ shB_X7 30 ++ shB_X7 44 ++ [(2, 2, [])] ++ shB_X5 ++ shB_X4 ++ shB_X6 ++ shB_X8 ++ shB_X3) a11) s _ _ := E
  refine fm_kput (k := 178) C N.1 E kp_X9_62 rfl rfl (by simp) ((h11 0 (by omega)).trans ((h10 0 (by omega)).trans ((h9 0 (by omega)).trans ((h8 0 (by omega)).trans ((h7 0 (by omega)).trans ((h6 0 (by omega)).trans ((h5 0 (by omega)).trans ((h4 0 (by omega)).trans ((h3 0 (by omega)).trans ((h2 0 (by omega)).trans (h1 0 (by omega)))))))))))) g11 dX9_init_121 (fun H locs E => ?_)
  have E : fm_kW G (fm_kA (a0 0) s.heap.size) (fm_kw G fm_m0 0 9 [4, 18, 32, 61, 62, 176, 178, 179, 181, 1, 1, 1] (shB_X7 1 ++ shB_X7 15 ++ [(5, 2, [some 30, some 44])] ++ shB_X7 30 ++ shB_X7 44 ++ [(2, 2, [])] ++ shB_X5 ++ shB_X4 ++ shB_X6 ++ shB_X8 ++ shB_X3) a11) s _ _ := E
  refine lv_aload_n C.1 C.2.1 dX9_init_124 rfl (lv_at hl 0 rfl) ?_
  refine fm_knew C E kn_X9_X0 ⟨Nat.le_of_ble_eq_true rfl, Nat.le_of_ble_eq_true rfl⟩ dX9_init_125 (fun q125 H E => ?_)
  refine lv_dup C.1 C.2.1 dX9_init_128 rfl ?_
  refine lv_aload_n C.1 C.2.1 dX9_init_129 rfl (lv_at hl 0 rfl) ?_
  refine fm_kget (ex := [_]) (k := 1) C E kf_X9_10 rfl ((h11 0 (by omega)).trans ((h10 0 (by omega)).trans ((h9 0 (by omega)).trans ((h8 0 (by omega)).trans ((h7 0 (by omega)).trans ((h6 0 (by omega)).trans ((h5 0 (by omega)).trans ((h4 0 (by omega)).trans ((h3 0 (by omega)).trans ((h2 0 (by omega)).trans (h1 0 (by omega)))))))))))) dX9_init_130 ?_
  refine lv_aload_n C.1 C.2.1 dX9_init_133 rfl (lv_at hl 0 rfl) ?_
  refine fm_kget (ex := [_]) (k := 178) C E kf_X9_62 rfl ((h11 0 (by omega)).trans ((h10 0 (by omega)).trans ((h9 0 (by omega)).trans ((h8 0 (by omega)).trans ((h7 0 (by omega)).trans ((h6 0 (by omega)).trans ((h5 0 (by omega)).trans ((h4 0 (by omega)).trans ((h3 0 (by omega)).trans ((h2 0 (by omega)).trans (h1 0 (by omega)))))))))))) dX9_init_134 ?_
  refine fm_kinit (rest := [.ref _, .ref _]) C E [.ref (a11 1), .ref (a11 178)] ki_X9_X0 kk_X0 (k_X0 l G) rfl (by decide) (by decide +kernel) (by show [Value.ref (fm_au a11 181 q125 1), Value.ref (fm_au a11 181 q125 178)] = [Value.ref (a11 1), Value.ref (a11 178)]; rw [fm_au_lt 1 (by omega), fm_au_lt 178 (by omega)]) rfl hl.1 (by simp [Value.category]) ⟨⟨rfl, rfl⟩, by decide, by decide⟩ ⟨Nat.le_of_ble_eq_true rfl, Nat.le_of_ble_eq_true rfl⟩ dX9_init_137 rfl (fun a12 H locs h12 g12 E => ?_)
  refine W.eq (g2 := F0 m 140 ls [.ref q125, .ref (a0 0)]) rfl ?_
  have E : fm_kW G (fm_kA (a0 0) s.heap.size) (fm_kw G fm_m0 0 9 [4, 18, 32, 61, 62, 176, 178, 179, 181, 1, 1, 1] (shB_X7 1 ++ shB_X7 15 ++ [(5, 2, [some 30, some 44])] ++ shB_X7 30 ++ shB_X7 44 ++ [(2, 2, [])] ++ shB_X5 ++ shB_X4 ++ shB_X6 ++ shB_X8 ++ shB_X3 ++ shB_X0) a12) s _ _ := E
  refine fm_kput (k := 181) C N.1 E kp_X9_71 rfl rfl (by simp) ((h12 0 (by omega)).trans ((h11 0 (by omega)).trans ((h10 0 (by omega)).trans ((h9 0 (by omega)).trans ((h8 0 (by omega)).trans ((h7 0 (by omega)).trans ((h6 0 (by omega)).trans ((h5 0 (by omega)).trans ((h4 0 (by omega)).trans ((h3 0 (by omega)).trans ((h2 0 (by omega)).trans (h1 0 (by omega))))))))))))) g12 dX9_init_140 (fun H locs E => ?_)
  have E : fm_kW G (fm_kA (a0 0) s.heap.size) (fm_kw G fm_m0 0 9 [4, 18, 32, 61, 62, 176, 178, 179, 181, 184, 1, 1] (shB_X7 1 ++ shB_X7 15 ++ [(5, 2, [some 30, some 44])] ++ shB_X7 30 ++ shB_X7 44 ++ [(2, 2, [])] ++ shB_X5 ++ shB_X4 ++ shB_X6 ++ shB_X8 ++ shB_X3 ++ shB_X0) a12) s _ _ := E
  refine lv_aload_n C.1 C.2.1 dX9_init_143 rfl (lv_at hl 0 rfl) ?_
  refine fm_knew C E kn_X9_X1 ⟨Nat.le_of_ble_eq_true rfl, Nat.le_of_ble_eq_true rfl⟩ dX9_init_144 (fun q144 H E => ?_)
  refine lv_dup C.1 C.2.1 dX9_init_147 rfl ?_
  refine lv_aload_n C.1 C.2.1 dX9_init_148 rfl (lv_at hl 0 rfl) ?_
  refine fm_kget (ex := [_]) (k := 181) C E kf_X9_71 rfl ((h12 0 (by omega)).trans ((h11 0 (by omega)).trans ((h10 0 (by omega)).trans ((h9 0 (by omega)).trans ((h8 0 (by omega)).trans ((h7 0 (by omega)).trans ((h6 0 (by omega)).trans ((h5 0 (by omega)).trans ((h4 0 (by omega)).trans ((h3 0 (by omega)).trans ((h2 0 (by omega)).trans (h1 0 (by omega))))))))))))) dX9_init_149 ?_
  refine fm_kinit (rest := [.ref _, .ref _]) C E [.ref (a12 181)] ki_X9_X1 kk_X1 (k_X1 l G) rfl (by decide) (by decide +kernel) (by show [Value.ref (fm_au a12 200 q144 181)] = [Value.ref (a12 181)]; rw [fm_au_lt 181 (by omega)]) rfl hl.1 (by simp [Value.category]) ⟨⟨rfl, rfl⟩, by decide, by decide⟩ ⟨Nat.le_of_ble_eq_true rfl, Nat.le_of_ble_eq_true rfl⟩ dX9_init_152 rfl (fun a13 H locs h13 g13 E => ?_)
  refine W.eq (g2 := F0 m 155 ls [.ref q144, .ref (a0 0)]) rfl ?_
  have E : fm_kW G (fm_kA (a0 0) s.heap.size) (fm_kw G fm_m0 0 9 [4, 18, 32, 61, 62, 176, 178, 179, 181, 184, 1, 1] (shB_X7 1 ++ shB_X7 15 ++ [(5, 2, [some 30, some 44])] ++ shB_X7 30 ++ shB_X7 44 ++ [(2, 2, [])] ++ shB_X5 ++ shB_X4 ++ shB_X6 ++ shB_X8 ++ shB_X3 ++ shB_X0 ++ shB_X1) a13) s _ _ := E
  refine fm_kput (k := 200) C N.1 E kp_X9_80 rfl rfl (by simp) ((h13 0 (by omega)).trans ((h12 0 (by omega)).trans ((h11 0 (by omega)).trans ((h10 0 (by omega)).trans ((h9 0 (by omega)).trans ((h8 0 (by omega)).trans ((h7 0 (by omega)).trans ((h6 0 (by omega)).trans ((h5 0 (by omega)).trans ((h4 0 (by omega)).trans ((h3 0 (by omega)).trans ((h2 0 (by omega)).trans (h1 0 (by omega)))))))))))))) g13 dX9_init_155 (fun H locs E => ?_)
  have E : fm_kW G (fm_kA (a0 0) s.heap.size) (fm_kw G fm_m0 0 9 [4, 18, 32, 61, 62, 176, 178, 179, 181, 184, 203, 1] (shB_X7 1 ++ shB_X7 15 ++ [(5, 2, [some 30, some 44])] ++ shB_X7 30 ++ shB_X7 44 ++ [(2, 2, [])] ++ shB_X5 ++ shB_X4 ++ shB_X6 ++ shB_X8 ++ shB_X3 ++ shB_X0 ++ shB_X1) a13) s _ _ := E
  refine lv_aload_n C.1 C.2.1 dX9_init_158 rfl (lv_at hl 0 rfl) ?_
  refine fm_knew C E kn_X9_X2 ⟨Nat.le_of_ble_eq_true rfl, Nat.le_of_ble_eq_true rfl⟩ dX9_init_159 (fun q159 H E => ?_)
  refine lv_dup C.1 C.2.1 dX9_init_162 rfl ?_
  refine fm_kinit (rest := [.ref _, .ref _]) C E [] ki_X9_X2 kk_X2 (k_X2 l G) rfl (by decide) (by decide +kernel) rfl rfl hl.1 (by simp [Value.category]) ⟨⟨rfl, rfl⟩, by decide, by decide⟩ ⟨Nat.le_of_ble_eq_true rfl, Nat.le_of_ble_eq_true rfl⟩ dX9_init_163 rfl (fun a14 H locs h14 g14 E => ?_)
  refine W.eq (g2 := F0 m 166 ls [.ref q159, .ref (a0 0)]) rfl ?_
  have E : fm_kW G (fm_kA (a0 0) s.heap.size) (fm_kw G fm_m0 0 9 [4, 18, 32, 61, 62, 176, 178, 179, 181, 184, 203, 1] (shB_X7 1 ++ shB_X7 15 ++ [(5, 2, [some 30, some 44])] ++ shB_X7 30 ++ shB_X7 44 ++ [(2, 2, [])] ++ shB_X5 ++ shB_X4 ++ shB_X6 ++ shB_X8 ++ shB_X3 ++ shB_X0 ++ shB_X1 ++ shB_X2) a14) s _ _ := E
  refine fm_kput (k := 220) C N.1 E kp_X9_87 rfl rfl (by simp) ((h14 0 (by omega)).trans ((h13 0 (by omega)).trans ((h12 0 (by omega)).trans ((h11 0 (by omega)).trans ((h10 0 (by omega)).trans ((h9 0 (by omega)).trans ((h8 0 (by omega)).trans ((h7 0 (by omega)).trans ((h6 0 (by omega)).trans ((h5 0 (by omega)).trans ((h4 0 (by omega)).trans ((h3 0 (by omega)).trans ((h2 0 (by omega)).trans (h1 0 (by omega))))))))))))))) g14 dX9_init_166 (fun H locs E => ?_)
  have E : fm_kW G (fm_kA (a0 0) s.heap.size) (fm_kw G fm_m0 0 9 [4, 18, 32, 61, 62, 176, 178, 179, 181, 184, 203, 223] (shB_X7 1 ++ shB_X7 15 ++ [(5, 2, [some 30, some 44])] ++ shB_X7 30 ++ shB_X7 44 ++ [(2, 2, [])] ++ shB_X5 ++ shB_X4 ++ shB_X6 ++ shB_X8 ++ shB_X3 ++ shB_X0 ++ shB_X1 ++ shB_X2) a14) s _ _ := E
  exact W.widen (Nat.le_of_ble_eq_true rfl) (Nat.le_of_ble_eq_true rfl) (fm_kret (n := 12) (fl := [some 1, some 15, some 29, some 58, some 59, some 173, some 175, some 176, some 178, some 181, some 200, some 220]) C N E rfl rfl (fun j hj => ((h14 j (by omega)).trans ((h13 j (by omega)).trans ((h12 j (by omega)).trans ((h11 j (by omega)).trans ((h10 j (by omega)).trans ((h9 j (by omega)).trans ((h8 j (by omega)).trans ((h7 j (by omega)).trans ((h6 j (by omega)).trans ((h5 j (by omega)).trans ((h4 j (by omega)).trans ((h3 j (by omega)).trans ((h2 j (by omega)).trans (h1 j (by omega)))))))))))))))) dX9_init_169)
theorem dX10_init_0 : decode cX10_init 0 = .ok (.aload_n 0, 1) := by decide +kernel
theorem dX10_init_1 : decode cX10_init 1 = .ok (.invokespecial 3, 3) := by decide +kernel
theorem dX10_init_4 : decode cX10_init 4 = .ok (.aload_n 0, 1) := by decide +kernel
theorem dX10_init_5 : decode cX10_init 5 = .ok (.bipush 101, 2) := by decide +kernel
theorem dX10_init_7 : decode cX10_init 7 = .ok (.newarray .int, 2) := by decide +kernel
theorem dX10_init_9 : decode cX10_init 9 = .ok (.putfield 9, 3) := by decide +kernel
theorem dX10_init_12 : decode cX10_init 12 = .ok (.aload_n 0, 1) := by decide +kernel
theorem dX10_init_13 : decode cX10_init 13 = .ok (.bipush 80, 2) := by decide +kernel
theorem dX10_init_15 : decode cX10_init 15 = .ok (.newarray .byte, 2) := by decide +kernel
theorem dX10_init_17 : decode cX10_init 17 = .ok (.putfield 13, 3) := by decide +kernel
theorem dX10_init_20 : decode cX10_init 20 = .ok (.aload_n 0, 1) := by decide +kernel
theorem dX10_init_21 : decode cX10_init 21 = .ok (.bipush 32, 2) := by decide +kernel
theorem dX10_init_23 : decode cX10_init 23 = .ok (.newarray .long, 2) := by decide +kernel
theorem dX10_init_25 : decode cX10_init 25 = .ok (.putfield 17, 3) := by decide +kernel
theorem dX10_init_28 : decode cX10_init 28 = .ok (.aload_n 0, 1) := by decide +kernel
theorem dX10_init_29 : decode cX10_init 29 = .ok (.sipush 320, 3) := by decide +kernel
theorem dX10_init_32 : decode cX10_init 32 = .ok (.newarray .int, 2) := by decide +kernel
theorem dX10_init_34 : decode cX10_init 34 = .ok (.putfield 21, 3) := by decide +kernel
theorem dX10_init_37 : decode cX10_init 37 = .ok (.aload_n 0, 1) := by decide +kernel
theorem dX10_init_38 : decode cX10_init 38 = .ok (.sipush 3606, 3) := by decide +kernel
theorem dX10_init_41 : decode cX10_init 41 = .ok (.newarray .int, 2) := by decide +kernel
theorem dX10_init_43 : decode cX10_init 43 = .ok (.putfield 24, 3) := by decide +kernel
theorem dX10_init_46 : decode cX10_init 46 = .ok (.aload_n 0, 1) := by decide +kernel
theorem dX10_init_47 : decode cX10_init 47 = .ok (.iconst (-1), 1) := by decide +kernel
theorem dX10_init_48 : decode cX10_init 48 = .ok (.putfield 27, 3) := by decide +kernel
theorem dX10_init_51 : decode cX10_init 51 = .ok (.aload_n 0, 1) := by decide +kernel
theorem dX10_init_52 : decode cX10_init 52 = .ok (.sipush 300, 3) := by decide +kernel
theorem dX10_init_55 : decode cX10_init 55 = .ok (.putfield 31, 3) := by decide +kernel
theorem dX10_init_58 : decode cX10_init 58 = .ok (.aload_n 0, 1) := by decide +kernel
theorem dX10_init_59 : decode cX10_init 59 = .ok (.iconst (-1), 1) := by decide +kernel
theorem dX10_init_60 : decode cX10_init 60 = .ok (.putfield 34, 3) := by decide +kernel
theorem dX10_init_63 : decode cX10_init 63 = .ok (.aload_n 0, 1) := by decide +kernel
theorem dX10_init_64 : decode cX10_init 64 = .ok (.bipush 6, 2) := by decide +kernel
theorem dX10_init_66 : decode cX10_init 66 = .ok (.newarray .int, 2) := by decide +kernel
theorem dX10_init_68 : decode cX10_init 68 = .ok (.putfield 37, 3) := by decide +kernel
theorem dX10_init_71 : decode cX10_init 71 = .ok (.aload_n 0, 1) := by decide +kernel
theorem dX10_init_72 : decode cX10_init 72 = .ok (.bipush 48, 2) := by decide +kernel
theorem dX10_init_74 : decode cX10_init 74 = .ok (.newarray .int, 2) := by decide +kernel
theorem dX10_init_76 : decode cX10_init 76 = .ok (.putfield 40, 3) := by decide +kernel
theorem dX10_init_79 : decode cX10_init 79 = .ok (.aload_n 0, 1) := by decide +kernel
theorem dX10_init_80 : decode cX10_init 80 = .ok (.sipush 288, 3) := by decide +kernel
theorem dX10_init_83 : decode cX10_init 83 = .ok (.newarray .int, 2) := by decide +kernel
theorem dX10_init_85 : decode cX10_init 85 = .ok (.putfield 43, 3) := by decide +kernel
theorem dX10_init_88 : decode cX10_init 88 = .ok (.aload_n 0, 1) := by decide +kernel
theorem dX10_init_89 : decode cX10_init 89 = .ok (.bipush 48, 2) := by decide +kernel
theorem dX10_init_91 : decode cX10_init 91 = .ok (.newarray .int, 2) := by decide +kernel
theorem dX10_init_93 : decode cX10_init 93 = .ok (.putfield 46, 3) := by decide +kernel
theorem dX10_init_96 : decode cX10_init 96 = .ok (.aload_n 0, 1) := by decide +kernel
theorem dX10_init_97 : decode cX10_init 97 = .ok (.bipush 48, 2) := by decide +kernel
theorem dX10_init_99 : decode cX10_init 99 = .ok (.newarray .int, 2) := by decide +kernel
theorem dX10_init_101 : decode cX10_init 101 = .ok (.putfield 49, 3) := by decide +kernel
theorem dX10_init_104 : decode cX10_init 104 = .ok (.aload_n 0, 1) := by decide +kernel
theorem dX10_init_105 : decode cX10_init 105 = .ok (.bipush 17, 2) := by decide +kernel
theorem dX10_init_107 : decode cX10_init 107 = .ok (.newarray .int, 2) := by decide +kernel
theorem dX10_init_109 : decode cX10_init 109 = .ok (.putfield 52, 3) := by decide +kernel
theorem dX10_init_112 : decode cX10_init 112 = .ok (.aload_n 0, 1) := by decide +kernel
theorem dX10_init_113 : decode cX10_init 113 = .ok (.bipush 49, 2) := by decide +kernel
theorem dX10_init_115 : decode cX10_init 115 = .ok (.newarray .int, 2) := by decide +kernel
theorem dX10_init_117 : decode cX10_init 117 = .ok (.putfield 55, 3) := by decide +kernel
theorem dX10_init_120 : decode cX10_init 120 = .ok (.aload_n 0, 1) := by decide +kernel
theorem dX10_init_121 : decode cX10_init 121 = .ok (.sipush 808, 3) := by decide +kernel
theorem dX10_init_124 : decode cX10_init 124 = .ok (.newarray .int, 2) := by decide +kernel
theorem dX10_init_126 : decode cX10_init 126 = .ok (.putfield 58, 3) := by decide +kernel
theorem dX10_init_129 : decode cX10_init 129 = .ok (.aload_n 0, 1) := by decide +kernel
theorem dX10_init_130 : decode cX10_init 130 = .ok (.bipush 101, 2) := by decide +kernel
theorem dX10_init_132 : decode cX10_init 132 = .ok (.newarray .int, 2) := by decide +kernel
theorem dX10_init_134 : decode cX10_init 134 = .ok (.putfield 61, 3) := by decide +kernel
theorem dX10_init_137 : decode cX10_init 137 = .ok (.aload_n 0, 1) := by decide +kernel
theorem dX10_init_138 : decode cX10_init 138 = .ok (.bipush 6, 2) := by decide +kernel
theorem dX10_init_140 : decode cX10_init 140 = .ok (.newarray .int, 2) := by decide +kernel
theorem dX10_init_142 : decode cX10_init 142 = .ok (.putfield 64, 3) := by decide +kernel
theorem dX10_init_145 : decode cX10_init 145 = .ok (.aload_n 0, 1) := by decide +kernel
theorem dX10_init_146 : decode cX10_init 146 = .ok (.bipush 101, 2) := by decide +kernel
theorem dX10_init_148 : decode cX10_init 148 = .ok (.newarray .int, 2) := by decide +kernel
theorem dX10_init_150 : decode cX10_init 150 = .ok (.putfield 67, 3) := by decide +kernel
theorem dX10_init_153 : decode cX10_init 153 = .ok (.aload_n 0, 1) := by decide +kernel
theorem dX10_init_154 : decode cX10_init 154 = .ok (.sipush 202, 3) := by decide +kernel
theorem dX10_init_157 : decode cX10_init 157 = .ok (.newarray .int, 2) := by decide +kernel
theorem dX10_init_159 : decode cX10_init 159 = .ok (.putfield 70, 3) := by decide +kernel
theorem dX10_init_162 : decode cX10_init 162 = .ok (.aload_n 0, 1) := by decide +kernel
theorem dX10_init_163 : decode cX10_init 163 = .ok (.iconst 2, 1) := by decide +kernel
theorem dX10_init_164 : decode cX10_init 164 = .ok (.newarray .boolean, 2) := by decide +kernel
theorem dX10_init_166 : decode cX10_init 166 = .ok (.putfield 73, 3) := by decide +kernel
theorem dX10_init_169 : decode cX10_init 169 = .ok (.aload_n 0, 1) := by decide +kernel
theorem dX10_init_170 : decode cX10_init 170 = .ok (.getfield 9, 3) := by decide +kernel
theorem dX10_init_173 : decode cX10_init 173 = .ok (.bipush 37, 2) := by decide +kernel
theorem dX10_init_175 : decode cX10_init 175 = .ok (.sipush 9999, 3) := by decide +kernel
theorem dX10_init_178 : decode cX10_init 178 = .ok (.iastore, 1) := by decide +kernel
theorem dX10_init_179 : decode cX10_init 179 = .ok (.aload_n 0, 1) := by decide +kernel
theorem dX10_init_180 : decode cX10_init 180 = .ok (.getfield 9, 3) := by decide +kernel
theorem dX10_init_183 : decode cX10_init 183 = .ok (.bipush 39, 2) := by decide +kernel
theorem dX10_init_185 : decode cX10_init 185 = .ok (.bipush 16, 2) := by decide +kernel
theorem dX10_init_187 : decode cX10_init 187 = .ok (.iastore, 1) := by decide +kernel
theorem dX10_init_188 : decode cX10_init 188 = .ok (.return_, 1) := by decide +kernel
theorem kl_X10 : Cond.methodLink "MicRowModel" 3 Lib.objectInit ∈ fm_TT := fm_wd 1107 (by decide +kernel) (by decide +kernel)
theorem kp_X10_9 : fm_Fc "MicRowModel" 9 10 0 true (.array .int) := ⟨TX10, 31, tyX10, rfl, inX10, (by decide), rfl, fm_wd 1108 (by decide +kernel) (by decide +kernel), tyX10_ok, nmX10, rfl, (by decide +kernel)⟩
theorem kp_X10_13 : fm_Fc "MicRowModel" 13 10 1 true (.array .byte) := ⟨TX10, 31, tyX10, rfl, inX10, (by decide), rfl, fm_wd 1109 (by decide +kernel) (by decide +kernel), tyX10_ok, nmX10, rfl, (by decide +kernel)⟩
theorem kp_X10_17 : fm_Fc "MicRowModel" 17 10 3 true (.array .long) := ⟨TX10, 31, tyX10, rfl, inX10, (by decide), rfl, fm_wd 1111 (by decide +kernel) (by decide +kernel), tyX10_ok, nmX10, rfl, (by decide +kernel)⟩
theorem kp_X10_21 : fm_Fc "MicRowModel" 21 10 9 true (.array .int) := ⟨TX10, 31, tyX10, rfl, inX10, (by decide), rfl, fm_wd 1117 (by decide +kernel) (by decide +kernel), tyX10_ok, nmX10, rfl, (by decide +kernel)⟩
theorem kp_X10_24 : fm_Fc "MicRowModel" 24 10 10 true (.array .int) := ⟨TX10, 31, tyX10, rfl, inX10, (by decide), rfl, fm_wd 1118 (by decide +kernel) (by decide +kernel), tyX10_ok, nmX10, rfl, (by decide +kernel)⟩
theorem kp_X10_27 : fm_Fc "MicRowModel" 27 10 11 false .int := ⟨TX10, 31, tyX10, rfl, inX10, (by decide), rfl, fm_wd 1119 (by decide +kernel) (by decide +kernel), tyX10_ok, nmX10, rfl, (by decide +kernel)⟩
theorem kp_X10_31 : fm_Fc "MicRowModel" 31 10 12 false .int := ⟨TX10, 31, tyX10, rfl, inX10, (by decide), rfl, fm_wd 1120 (by decide +kernel) (by decide +kernel), tyX10_ok, nmX10, rfl, (by decide +kernel)⟩
theorem kp_X10_34 : fm_Fc "MicRowModel" 34 10 13 false .int := ⟨TX10, 31, tyX10, rfl, inX10, (by decide), rfl, fm_wd 1121 (by decide +kernel) (by decide +kernel), tyX10_ok, nmX10, rfl, (by decide +kernel)⟩
theorem kp_X10_37 : fm_Fc "MicRowModel" 37 10 14 true (.array .int) := ⟨TX10, 31, tyX10, rfl, inX10, (by decide), rfl, fm_wd 1122 (by decide +kernel) (by decide +kernel), tyX10_ok, nmX10, rfl, (by decide +kernel)⟩
theorem kp_X10_40 : fm_Fc "MicRowModel" 40 10 16 true (.array .int) := ⟨TX10, 31, tyX10, rfl, inX10, (by decide), rfl, fm_wd 1124 (by decide +kernel) (by decide +kernel), tyX10_ok, nmX10, rfl, (by decide +kernel)⟩
theorem kp_X10_43 : fm_Fc "MicRowModel" 43 10 17 true (.array .int) := ⟨TX10, 31, tyX10, rfl, inX10, (by decide), rfl, fm_wd 1125 (by decide +kernel) (by decide +kernel), tyX10_ok, nmX10, rfl, (by decide +kernel)⟩
theorem kp_X10_46 : fm_Fc "MicRowModel" 46 10 18 true (.array .int) := ⟨TX10, 31, tyX10, rfl, inX10, (by decide), rfl, fm_wd 1126 (by decide +kernel) (by decide +kernel), tyX10_ok, nmX10, rfl, (by decide +kernel)⟩
theorem kp_X10_49 : fm_Fc "MicRowModel" 49 10 19 true (.array .int) := ⟨TX10, 31, tyX10, rfl, inX10, (by decide), rfl, fm_wd 1127 (by decide +kernel) (by decide +kernel), tyX10_ok, nmX10, rfl, (by decide +kernel)⟩
theorem kp_X10_52 : fm_Fc "MicRowModel" 52 10 21 true (.array .int) := ⟨TX10, 31, tyX10, rfl, inX10, (by decide), rfl, fm_wd 1129 (by decide +kernel) (by decide +kernel), tyX10_ok, nmX10, rfl, (by decide +kernel)⟩
theorem kp_X10_55 : fm_Fc "MicRowModel" 55 10 22 true (.array .int) := ⟨TX10, 31, tyX10, rfl, inX10, (by decide), rfl, fm_wd 1130 (by decide +kernel) (by decide +kernel), tyX10_ok, nmX10, rfl, (by decide +kernel)⟩
theorem kp_X10_58 : fm_Fc "MicRowModel" 58 10 23 true (.array .int) := ⟨TX10, 31, tyX10, rfl, inX10, (by decide), rfl, fm_wd 1131 (by decide +kernel) (by decide +kernel), tyX10_ok, nmX10, rfl, (by decide +kernel)⟩
theorem kp_X10_61 : fm_Fc "MicRowModel" 61 10 24 true (.array .int) := ⟨TX10, 31, tyX10, rfl, inX10, (by decide), rfl, fm_wd 1132 (by decide +kernel) (by decide +kernel), tyX10_ok, nmX10, rfl, (by decide +kernel)⟩
theorem kp_X10_64 : fm_Fc "MicRowModel" 64 10 26 true (.array .int) := ⟨TX10, 31, tyX10, rfl, inX10, (by decide), rfl, fm_wd 1134 (by decide +kernel) (by decide +kernel), tyX10_ok, nmX10, rfl, (by decide +kernel)⟩
theorem kp_X10_67 : fm_Fc "MicRowModel" 67 10 28 true (.array .int) := ⟨TX10, 31, tyX10, rfl, inX10, (by decide), rfl, fm_wd 1136 (by decide +kernel) (by decide +kernel), tyX10_ok, nmX10, rfl, (by decide +kernel)⟩
theorem kp_X10_70 : fm_Fc "MicRowModel" 70 10 29 true (.array .int) := ⟨TX10, 31, tyX10, rfl, inX10, (by decide), rfl, fm_wd 1137 (by decide +kernel) (by decide +kernel), tyX10_ok, nmX10, rfl, (by decide +kernel)⟩
theorem kp_X10_73 : fm_Fc "MicRowModel" 73 10 30 true (.array .boolean) := ⟨TX10, 31, tyX10, rfl, inX10, (by decide), rfl, fm_wd 1138 (by decide +kernel) (by decide +kernel), tyX10_ok, nmX10, rfl, (by decide +kernel)⟩
theorem kf_X10_9 : fm_F "MicRowModel" 9 10 0 := ⟨RX10, TX10, 31, rfl, inX10, (by decide), rfl, Or.inl (fm_wd 1108 (by decide +kernel) (by decide +kernel))⟩
def shB_X10 : List fm_Sh := [(17, 31, [some 1, some 2, none, some 3, none, none, none, none, none, some 4, some 5, none, none, none, some 6, none, some 7, some 8, some 9, some 10, none, some 11, some 12, some 13, some 14, none, some 15, none, some 16, some 17, some 18]), (0, 101, []), (1, 80, []), (3, 32, []), (0, 320, []), (0, 3606, []), (0, 6, []), (0, 48, []), (0, 288, []), (0, 48, []), (0, 48, []), (0, 17, []), (0, 49, []), (0, 808, []), (0, 101, []), (0, 6, []), (0, 101, []), (0, 202, []), (2, 2, [])]
set_option maxHeartbeats 4000000 in
set_option maxRecDepth 20000 in
theorem k_X10 (l : Launch) (G : fm_G) : fm_kMet l yX10_init cX10_init 1 { frames := 1, cells := 18, slots := 5863, locals := 20 } G fm_m1 0 10 [.null, .null, .int 0, .null, .int 0, .int 0, .int 0, .int 0, .int 0, .null, .null, .int 0, .int 0, .int 0, .null, .int 0, .null, .null, .null, .null, .int 0, .null, .null, .null, .null, .int 0, .null, .int 0, .null, .null, .null] shB_X10 (fun _ => []) 18 5863 := by
  refine fm_kenter (by decide) rfl (fun ad => Nat.le_of_ble_eq_true rfl) ?_
  intro a0 p e s m args below meth c ls C N E hl
  have hl : lv_has ls 1 [(0, .ref (a0 0))] := hl
  have E : fm_kW G (fm_kA (a0 0) s.heap.size) (fm_kw G fm_m1z 0 10 [1, 1, 2, 1, 2, 2, 2, 2, 2, 1, 1, 2, 2, 2, 1, 2, 1, 1, 1, 1, 2, 1, 1, 1, 1, 2, 1, 2, 1, 1, 1] [] a0) s s.heap [] := E
  refine lv_aload_n C.1 C.2.1 dX10_init_0 rfl (lv_at hl 0 rfl) ?_
  refine fm_kobj C kl_X10 fm_koi fm_koc hl.1 ⟨by decide, by decide⟩ dX10_init_1 ?_
  refine lv_aload_n C.1 C.2.1 dX10_init_4 rfl (lv_at hl 0 rfl) ?_
  refine lv_bipush (v := 101) C.1 C.2.1 dX10_init_5 (by decide) ?_
  refine fm_kwa (atype := .int) (t := 0) (N' := 101) (a0 := (101, .inl (fun _ => 0))) C E rfl rfl fm_ka_int (fun _ => rfl) (by decide) (by decide) (Nat.le_of_ble_eq_true rfl) ⟨Nat.le_of_ble_eq_true rfl, Nat.le_of_ble_eq_true rfl⟩ dX10_init_7 (0, 101, []) (k := 1) rfl (by decide) (by decide +kernel) (fun _ => rfl) (fun a1 H h1 E => ?_)
  have E : fm_kW G (fm_kA (a0 0) s.heap.size) (fm_kw G fm_m1z 0 10 [1, 1, 2, 1, 2, 2, 2, 2, 2, 1, 1, 2, 2, 2, 1, 2, 1, 1, 1, 1, 2, 1, 1, 1, 1, 2, 1, 2, 1, 1, 1] [(0, 101, [])] a1) s _ _ := E
  refine fm_kput (k := 1) C N.1 E kp_X10_9 rfl rfl (by simp) (h1 0 (by omega)) rfl dX10_init_9 (fun H locs E => ?_)
  have E : fm_kW G (fm_kA (a0 0) s.heap.size) (fm_kw G fm_m1z 0 10 [4, 1, 2, 1, 2, 2, 2, 2, 2, 1, 1, 2, 2, 2, 1, 2, 1, 1, 1, 1, 2, 1, 1, 1, 1, 2, 1, 2, 1, 1, 1] [(0, 101, [])] a1) s _ _ := E
  refine lv_aload_n C.1 C.2.1 dX10_init_12 rfl (lv_at hl 0 rfl) ?_
  refine lv_bipush (v := 80) C.1 C.2.1 dX10_init_13 (by decide) ?_
  refine fm_kwa (atype := .byte) (t := 1) (N' := 80) (a0 := (80, .inl (fun _ => 0))) C E rfl rfl fm_ka_byte (fun _ => rfl) (by decide) (by decide) (Nat.le_of_ble_eq_true rfl) ⟨Nat.le_of_ble_eq_true rfl, Nat.le_of_ble_eq_true rfl⟩ dX10_init_15 (1, 80, []) (k := 2) rfl (by decide) (by decide +kernel) (fun _ => rfl) (fun a2 H h2 E => ?_)
  have E : fm_kW G (fm_kA (a0 0) s.heap.size) (fm_kw G fm_m1z 0 10 [4, 1, 2, 1, 2, 2, 2, 2, 2, 1, 1, 2, 2, 2, 1, 2, 1, 1, 1, 1, 2, 1, 1, 1, 1, 2, 1, 2, 1, 1, 1] [(0, 101, []), (1, 80, [])] a2) s _ _ := E
  refine fm_kput (k := 2) C N.1 E kp_X10_13 rfl rfl (by simp) ((h2 0 (by omega)).trans (h1 0 (by omega))) rfl dX10_init_17 (fun H locs E => ?_)
  have E : fm_kW G (fm_kA (a0 0) s.heap.size) (fm_kw G fm_m1z 0 10 [4, 5, 2, 1, 2, 2, 2, 2, 2, 1, 1, 2, 2, 2, 1, 2, 1, 1, 1, 1, 2, 1, 1, 1, 1, 2, 1, 2, 1, 1, 1] [(0, 101, []), (1, 80, [])] a2) s _ _ := E
  refine lv_aload_n C.1 C.2.1 dX10_init_20 rfl (lv_at hl 0 rfl) ?_
  refine lv_bipush (v := 32) C.1 C.2.1 dX10_init_21 (by decide) ?_
  refine fm_kwa (atype := .long) (t := 3) (N' := 32) (a0 := (32, .inr (.inl (fun _ => 0)))) C E rfl rfl fm_ka_long (fun _ => rfl) (by decide) (by decide) (Nat.le_of_ble_eq_true rfl) ⟨Nat.le_of_ble_eq_true rfl, Nat.le_of_ble_eq_true rfl⟩ dX10_init_23 (3, 32, []) (k := 3) rfl (by decide) (by decide +kernel) (fun _ => rfl) (fun a3 H h3 E => ?_)
  have E : fm_kW G (fm_kA (a0 0) s.heap.size) (fm_kw G fm_m1z 0 10 [4, 5, 2, 1, 2, 2, 2, 2, 2, 1, 1, 2, 2, 2, 1, 2, 1, 1, 1, 1, 2, 1, 1, 1, 1, 2, 1, 2, 1, 1, 1] [(0, 101, []), (1, 80, []), (3, 32, [])] a3) s _ _ := E
  refine fm_kput (k := 3) C N.1 E kp_X10_17 rfl rfl (by simp) ((h3 0 (by omega)).trans ((h2 0 (by omega)).trans (h1 0 (by omega)))) rfl dX10_init_25 (fun H locs E => ?_)
  have E : fm_kW G (fm_kA (a0 0) s.heap.size) (fm_kw G fm_m1z 0 10 [4, 5, 2, 6, 2, 2, 2, 2, 2, 1, 1, 2, 2, 2, 1, 2, 1, 1, 1, 1, 2, 1, 1, 1, 1, 2, 1, 2, 1, 1, 1] [(0, 101, []), (1, 80, []), (3, 32, [])] a3) s _ _ := E
  refine lv_aload_n C.1 C.2.1 dX10_init_28 rfl (lv_at hl 0 rfl) ?_
  refine lv_sipush (v := 320) C.1 C.2.1 dX10_init_29 (by decide) ?_
  refine fm_kwa (atype := .int) (t := 0) (N' := 320) (a0 := (320, .inl (fun _ => 0))) C E rfl rfl fm_ka_int (fun _ => rfl) (by decide) (by decide) (Nat.le_of_ble_eq_true rfl) ⟨Nat.le_of_ble_eq_true rfl, Nat.le_of_ble_eq_true rfl⟩ dX10_init_32 (0, 320, []) (k := 4) rfl (by decide) (by decide +kernel) (fun _ => rfl) (fun a4 H h4 E => ?_)
  have E : fm_kW G (fm_kA (a0 0) s.heap.size) (fm_kw G fm_m1z 0 10 [4, 5, 2, 6, 2, 2, 2, 2, 2, 1, 1, 2, 2, 2, 1, 2, 1, 1, 1, 1, 2, 1, 1, 1, 1, 2, 1, 2, 1, 1, 1] [(0, 101, []), (1, 80, []), (3, 32, []), (0, 320, [])] a4) s _ _ := E
  refine fm_kput (k := 4) C N.1 E kp_X10_21 rfl rfl (by simp) ((h4 0 (by omega)).trans ((h3 0 (by omega)).trans ((h2 0 (by omega)).trans (h1 0 (by omega))))) rfl dX10_init_34 (fun H locs E => ?_)
  have E : fm_kW G (fm_kA (a0 0) s.heap.size) (fm_kw G fm_m1z 0 10 [4, 5, 2, 6, 2, 2, 2, 2, 2, 7, 1, 2, 2, 2, 1, 2, 1, 1, 1, 1, 2, 1, 1, 1, 1, 2, 1, 2, 1, 1, 1] [(0, 101, []), (1, 80, []), (3, 32, []), (0, 320, [])] a4) s _ _ := E
  refine lv_aload_n C.1 C.2.1 dX10_init_37 rfl (lv_at hl 0 rfl) ?_
  refine lv_sipush (v := 3606) C.1 C.2.1 dX10_init_38 (by decide) ?_
  refine fm_kwa (atype := .int) (t := 0) (N' := 3606) (a0 := (3606, .inl (fun _ => 0))) C E rfl rfl fm_ka_int (fun _ => rfl) (by decide) (by decide) (Nat.le_of_ble_eq_true rfl) ⟨Nat.le_of_ble_eq_true rfl, Nat.le_of_ble_eq_true rfl⟩ dX10_init_41 (0, 3606, []) (k := 5) rfl (by decide) (by decide +kernel) (fun _ => rfl) (fun a5 H h5 E => ?_)
  have E : fm_kW G (fm_kA (a0 0) s.heap.size) (fm_kw G fm_m1z 0 10 [4, 5, 2, 6, 2, 2, 2, 2, 2, 7, 1, 2, 2, 2, 1, 2, 1, 1, 1, 1, 2, 1, 1, 1, 1, 2, 1, 2, 1, 1, 1] [(0, 101, []), (1, 80, []), (3, 32, []), (0, 320, []), (0, 3606, [])] a5) s _ _ := E
  refine fm_kput (k := 5) C N.1 E kp_X10_24 rfl rfl (by simp) ((h5 0 (by omega)).trans ((h4 0 (by omega)).trans ((h3 0 (by omega)).trans ((h2 0 (by omega)).trans (h1 0 (by omega)))))) rfl dX10_init_43 (fun H locs E => ?_)
  have E : fm_kW G (fm_kA (a0 0) s.heap.size) (fm_kw G fm_m1z 0 10 [4, 5, 2, 6, 2, 2, 2, 2, 2, 7, 8, 2, 2, 2, 1, 2, 1, 1, 1, 1, 2, 1, 1, 1, 1, 2, 1, 2, 1, 1, 1] [(0, 101, []), (1, 80, []), (3, 32, []), (0, 320, []), (0, 3606, [])] a5) s _ _ := E
  refine lv_aload_n C.1 C.2.1 dX10_init_46 rfl (lv_at hl 0 rfl) ?_
  refine lv_iconst (v := (-1)) C.1 C.2.1 dX10_init_47 (by decide) ?_
  refine fm_kputi C E kp_X10_27 (by decide) ((h5 0 (by omega)).trans ((h4 0 (by omega)).trans ((h3 0 (by omega)).trans ((h2 0 (by omega)).trans (h1 0 (by omega)))))) rfl dX10_init_48 (fun H locs E => ?_)
  have E : fm_kW G (fm_kA (a0 0) s.heap.size) (fm_kw G fm_m1z 0 10 [4, 5, 2, 6, 2, 2, 2, 2, 2, 7, 8, 0, 2, 2, 1, 2, 1, 1, 1, 1, 2, 1, 1, 1, 1, 2, 1, 2, 1, 1, 1] [(0, 101, []), (1, 80, []), (3, 32, []), (0, 320, []), (0, 3606, [])] a5) s _ _ := E
  refine lv_aload_n C.1 C.2.1 dX10_init_51 rfl (lv_at hl 0 rfl) ?_
  refine lv_sipush (v := 300) C.1 C.2.1 dX10_init_52 (by decide) ?_
  refine fm_kputi C E kp_X10_31 (by decide) ((h5 0 (by omega)).trans ((h4 0 (by omega)).trans ((h3 0 (by omega)).trans ((h2 0 (by omega)).trans (h1 0 (by omega)))))) rfl dX10_init_55 (fun H locs E => ?_)
  have E : fm_kW G (fm_kA (a0 0) s.heap.size) (fm_kw G fm_m1z 0 10 [4, 5, 2, 6, 2, 2, 2, 2, 2, 7, 8, 0, 0, 2, 1, 2, 1, 1, 1, 1, 2, 1, 1, 1, 1, 2, 1, 2, 1, 1, 1] [(0, 101, []), (1, 80, []), (3, 32, []), (0, 320, []), (0, 3606, [])] a5) s _ _ := E
  refine lv_aload_n C.1 C.2.1 dX10_init_58 rfl (lv_at hl 0 rfl) ?_
  refine lv_iconst (v := (-1)) C.1 C.2.1 dX10_init_59 (by decide) ?_
  refine fm_kputi C E kp_X10_34 (by decide) ((h5 0 (by omega)).trans ((h4 0 (by omega)).trans ((h3 0 (by omega)).trans ((h2 0 (by omega)).trans (h1 0 (by omega)))))) rfl dX10_init_60 (fun H locs E => ?_)
  have E : fm_kW G (fm_kA (a0 0) s.heap.size) (fm_kw G fm_m1z 0 10 [4, 5, 2, 6, 2, 2, 2, 2, 2, 7, 8, 0, 0, 0, 1, 2, 1, 1, 1, 1, 2, 1, 1, 1, 1, 2, 1, 2, 1, 1, 1] [(0, 101, []), (1, 80, []), (3, 32, []), (0, 320, []), (0, 3606, [])] a5) s _ _ := E
  refine lv_aload_n C.1 C.2.1 dX10_init_63 rfl (lv_at hl 0 rfl) ?_
  refine lv_bipush (v := 6) C.1 C.2.1 dX10_init_64 (by decide) ?_
  refine fm_kwa (atype := .int) (t := 0) (N' := 6) (a0 := (6, .inl (fun _ => 0))) C E rfl rfl fm_ka_int (fun _ => rfl) (by decide) (by decide) (Nat.le_of_ble_eq_true rfl) ⟨Nat.le_of_ble_eq_true rfl, Nat.le_of_ble_eq_true rfl⟩ dX10_init_66 (0, 6, []) (k := 6) rfl (by decide) (by decide +kernel) (fun _ => rfl) (fun a6 H h6 E => ?_)
  have E : fm_kW G (fm_kA (a0 0) s.heap.size) (fm_kw G fm_m1z 0 10 [4, 5, 2, 6, 2, 2, 2, 2, 2, 7, 8, 0, 0, 0, 1, 2, 1, 1, 1, 1, 2, 1, 1, 1, 1, 2, 1, 2, 1, 1, 1] [(0, 101, []), (1, 80, []), (3, 32, []), (0, 320, []), (0, 3606, []), (0, 6, [])] a6) s _ _ := E
  refine fm_kput (k := 6) C N.1 E kp_X10_37 rfl rfl (by simp) ((h6 0 (by omega)).trans ((h5 0 (by omega)).trans ((h4 0 (by omega)).trans ((h3 0 (by omega)).trans ((h2 0 (by omega)).trans (h1 0 (by omega))))))) rfl dX10_init_68 (fun H locs E => ?_)
  have E : fm_kW G (fm_kA (a0 0) s.heap.size) (fm_kw G fm_m1z 0 10 [4, 5, 2, 6, 2, 2, 2, 2, 2, 7, 8, 0, 0, 0, 9, 2, 1, 1, 1, 1, 2, 1, 1, 1, 1, 2, 1, 2, 1, 1, 1] [(0, 101, []), (1, 80, []), (3, 32, []), (0, 320, []), (0, 3606, []), (0, 6, [])] a6) s _ _ := E
  refine lv_aload_n C.1 C.2.1 dX10_init_71 rfl (lv_at hl 0 rfl) ?_
  refine lv_bipush (v := 48) C.1 C.2.1 dX10_init_72 (by decide) ?_
  refine fm_kwa (atype := .int) (t := 0) (N' := 48) (a0 := (48, .inl (fun _ => 0))) C E rfl rfl fm_ka_int (fun _ => rfl) (by decide) (by decide) (Nat.le_of_ble_eq_true rfl) ⟨Nat.le_of_ble_eq_true rfl, Nat.le_of_ble_eq_true rfl⟩ dX10_init_74 (0, 48, []) (k := 7) rfl (by decide) (by decide +kernel) (fun _ => rfl) (fun a7 H h7 E => ?_)
  have E : fm_kW G (fm_kA (a0 0) s.heap.size) (fm_kw G fm_m1z 0 10 [4, 5, 2, 6, 2, 2, 2, 2, 2, 7, 8, 0, 0, 0, 9, 2, 1, 1, 1, 1, 2, 1, 1, 1, 1, 2, 1, 2, 1, 1, 1] [(0, 101, []), (1, 80, []), (3, 32, []), (0, 320, []), (0, 3606, []), (0, 6, []), (0, 48, [])] a7) s _ _ := E
  refine fm_kput (k := 7) C N.1 E kp_X10_40 rfl rfl (by simp) ((h7 0 (by omega)).trans ((h6 0 (by omega)).trans ((h5 0 (by omega)).trans ((h4 0 (by omega)).trans ((h3 0 (by omega)).trans ((h2 0 (by omega)).trans (h1 0 (by omega)))))))) rfl dX10_init_76 (fun H locs E => ?_)
  have E : fm_kW G (fm_kA (a0 0) s.heap.size) (fm_kw G fm_m1z 0 10 [4, 5, 2, 6, 2, 2, 2, 2, 2, 7, 8, 0, 0, 0, 9, 2, 10, 1, 1, 1, 2, 1, 1, 1, 1, 2, 1, 2, 1, 1, 1] [(0, 101, []), (1, 80, []), (3, 32, []), (0, 320, []), (0, 3606, []), (0, 6, []), (0, 48, [])] a7) s _ _ := E
  refine lv_aload_n C.1 C.2.1 dX10_init_79 rfl (lv_at hl 0 rfl) ?_
  refine lv_sipush (v := 288) C.1 C.2.1 dX10_init_80 (by decide) ?_
  refine fm_kwa (atype := .int) (t := 0) (N' := 288) (a0 := (288, .inl (fun _ => 0))) C E rfl rfl fm_ka_int (fun _ => rfl) (by decide) (by decide) (Nat.le_of_ble_eq_true rfl) ⟨Nat.le_of_ble_eq_true rfl, Nat.le_of_ble_eq_true rfl⟩ dX10_init_83 (0, 288, []) (k := 8) rfl (by decide) (by decide +kernel) (fun _ => rfl) (fun a8 H h8 E => ?_)
  have E : fm_kW G (fm_kA (a0 0) s.heap.size) (fm_kw G fm_m1z 0 10 [4, 5, 2, 6, 2, 2, 2, 2, 2, 7, 8, 0, 0, 0, 9, 2, 10, 1, 1, 1, 2, 1, 1, 1, 1, 2, 1, 2, 1, 1, 1] [(0, 101, []), (1, 80, []), (3, 32, []), (0, 320, []), (0, 3606, []), (0, 6, []), (0, 48, []), (0, 288, [])] a8) s _ _ := E
  refine fm_kput (k := 8) C N.1 E kp_X10_43 rfl rfl (by simp) ((h8 0 (by omega)).trans ((h7 0 (by omega)).trans ((h6 0 (by omega)).trans ((h5 0 (by omega)).trans ((h4 0 (by omega)).trans ((h3 0 (by omega)).trans ((h2 0 (by omega)).trans (h1 0 (by omega))))))))) rfl dX10_init_85 (fun H locs E => ?_)
  have E : fm_kW G (fm_kA (a0 0) s.heap.size) (fm_kw G fm_m1z 0 10 [4, 5, 2, 6, 2, 2, 2, 2, 2, 7, 8, 0, 0, 0, 9, 2, 10, 11, 1, 1, 2, 1, 1, 1, 1, 2, 1, 2, 1, 1, 1] [(0, 101, []), (1, 80, []), (3, 32, []), (0, 320, []), (0, 3606, []), (0, 6, []), (0, 48, []), (0, 288, [])] a8) s _ _ := E
  refine lv_aload_n C.1 C.2.1 dX10_init_88 rfl (lv_at hl 0 rfl) ?_
  refine lv_bipush (v := 48) C.1 C.2.1 dX10_init_89 (by decide) ?_
  refine fm_kwa (atype := .int) (t := 0) (N' := 48) (a0 := (48, .inl (fun _ => 0))) C E rfl rfl fm_ka_int (fun _ => rfl) (by decide) (by decide) (Nat.le_of_ble_eq_true rfl) ⟨Nat.le_of_ble_eq_true rfl, Nat.le_of_ble_eq_true rfl⟩ dX10_init_91 (0, 48, []) (k := 9) rfl (by decide) (by decide +kernel) (fun _ => rfl) (fun a9 H h9 E => ?_)
  have E : fm_kW G (fm_kA (a0 0) s.heap.size) (fm_kw G fm_m1z 0 10 [4, 5, 2, 6, 2, 2, 2, 2, 2, 7, 8, 0, 0, 0, 9, 2, 10, 11, 1, 1, 2, 1, 1, 1, 1, 2, 1, 2, 1, 1, 1] [(0, 101, []), (1, 80, []), (3, 32, []), (0, 320, []), (0, 3606, []), (0, 6, []), (0, 48, []), (0, 288, []), (0, 48, [])] a9) s _ _ := E
  refine fm_kput (k := 9) C N.1 E kp_X10_46 rfl rfl (by simp) ((h9 0 (by omega)).trans ((h8 0 (by omega)).trans ((h7 0 (by omega)).trans ((h6 0 (by omega)).trans ((h5 0 (by omega)).trans ((h4 0 (by omega)).trans ((h3 0 (by omega)).trans ((h2 0 (by omega)).trans (h1 0 (by omega)))))))))) rfl dX10_init_93 (fun H locs E => ?_)
  have E : fm_kW G (fm_kA (a0 0) s.heap.size) (fm_kw G fm_m1z 0 10 [4, 5, 2, 6, 2, 2, 2, 2, 2, 7, 8, 0, 0, 0, 9, 2, 10, 11, 12, 1, 2, 1, 1, 1, 1, 2, 1, 2, 1, 1, 1] [(0, 101, []), (1, 80, []), (3, 32, []), (0, 320, []), (0, 3606, []), (0, 6, []), (0, 48, []), (0, 288, []), (0, 48, [])] a9) s _ _ := E
  refine lv_aload_n C.1 C.2.1 dX10_init_96 rfl (lv_at hl 0 rfl) ?_
  refine lv_bipush (v := 48) C.1 C.2.1 dX10_init_97 (by decide) ?_
  refine fm_kwa (atype := .int) (t := 0) (N' := 48) (a0 := (48, .inl (fun _ => 0))) C E rfl rfl fm_ka_int (fun _ => rfl) (by decide) (by decide) (Nat.le_of_ble_eq_true rfl) ⟨Nat.le_of_ble_eq_true rfl, Nat.le_of_ble_eq_true rfl⟩ dX10_init_99 (0, 48, []) (k := 10) rfl (by decide) (by decide +kernel) (fun _ => rfl) (fun a10 H h10 E => ?_)
  have E : fm_kW G (fm_kA (a0 0) s.heap.size) (fm_kw G fm_m1z 0 10 [4, 5, 2, 6, 2, 2, 2, 2, 2, 7, 8, 0, 0, 0, 9, 2, 10, 11, 12, 1, 2, 1, 1, 1, 1, 2, 1, 2, 1, 1, 1] [(0, 101, []), (1, 80, []), (3, 32, []), (0, 320, []), (0, 3606, []), (0, 6, []), (0, 48, []), (0, 288, []), (0, 48, []), (0, 48, [])] a10) s _ _ := E
  refine fm_kput (k := 10) C N.1 E kp_X10_49 rfl rfl (by simp) ((h10 0 (by omega)).trans ((h9 0 (by omega)).trans ((h8 0 (by omega)).trans ((h7 0 (by omega)).trans ((h6 0 (by omega)).trans ((h5 0 (by omega)).trans ((h4 0 (by omega)).trans ((h3 0 (by omega)).trans ((h2 0 (by omega)).trans (h1 0 (by omega))))))))))) rfl dX10_init_101 (fun H locs E => ?_)
  have E : fm_kW G (fm_kA (a0 0) s.heap.size) (fm_kw G fm_m1z 0 10 [4, 5, 2, 6, 2, 2, 2, 2, 2, 7, 8, 0, 0, 0, 9, 2, 10, 11, 12, 13, 2, 1, 1, 1, 1, 2, 1, 2, 1, 1, 1] [(0, 101, []), (1, 80, []), (3, 32, []), (0, 320, []), (0, 3606, []), (0, 6, []), (0, 48, []), (0, 288, []), (0, 48, []), (0, 48, [])] a10) s _ _ := E
  refine lv_aload_n C.1 C.2.1 dX10_init_104 rfl (lv_at hl 0 rfl) ?_
  refine lv_bipush (v := 17) C.1 C.2.1 dX10_init_105 (by decide) ?_
  refine fm_kwa (atype := .int) (t := 0) (N' := 17) (a0 := (17, .inl (fun _ => 0))) C E rfl rfl fm_ka_int (fun _ => rfl) (by decide) (by decide) (Nat.le_of_ble_eq_true rfl) ⟨Nat.le_of_ble_eq_true rfl, Nat.le_of_ble_eq_true rfl⟩ dX10_init_107 (0, 17, []) (k := 11) rfl (by decide) (by decide +kernel) (fun _ => rfl) (fun a11 H h11 E => ?_)
  have E : fm_kW G (fm_kA (a0 0) s.heap.size) (fm_kw G fm_m1z 0 10 [4, 5, 2, 6, 2, 2, 2, 2, 2, 7, 8, 0, 0, 0, 9, 2, 10, 11, 12, 13, 2, 1, 1, 1, 1, 2, 1, 2, 1, 1, 1] [(0, 101, []), (1, 80, []), (3, 32, []), (0, 320, []), (0, 3606, []), (0, 6, []), (0, 48, []), (0, 288, []), (0, 48, []), (0, 48, []), (0, 17, [])] a11) s _ _ := E
  refine fm_kput (k := 11) C N.1 E kp_X10_52 rfl rfl (by simp) ((h11 0 (by omega)).trans ((h10 0 (by omega)).trans ((h9 0 (by omega)).trans ((h8 0 (by omega)).trans ((h7 0 (by omega)).trans ((h6 0 (by omega)).trans ((h5 0 (by omega)).trans ((h4 0 (by omega)).trans ((h3 0 (by omega)).trans ((h2 0 (by omega)).trans (h1 0 (by omega)))))))))))) rfl dX10_init_109 (fun H locs E => ?_)
  have E : fm_kW G (fm_kA (a0 0) s.heap.size) (fm_kw G fm_m1z 0 10 [4, 5, 2, 6, 2, 2, 2, 2, 2, 7, 8, 0, 0, 0, 9, 2, 10, 11, 12, 13, 2, 14, 1, 1, 1, 2, 1, 2, 1, 1, 1] [(0, 101, []), (1, 80, []), (3, 32, []), (0, 320, []), (0, 3606, []), (0, 6, []), (0, 48, []), (0, 288, []), (0, 48, []), (0, 48, []), (0, 17, [])] a11) s _ _ := E
  refine lv_aload_n C.1 C.2.1 dX10_init_112 rfl (lv_at hl 0 rfl) ?_
  refine lv_bipush (v := 49) C.1 C.2.1 dX10_init_113 (by decide) ?_
  refine fm_kwa (atype := .int) (t := 0) (N' := 49) (a0 := (49, .inl (fun _ => 0))) C E rfl rfl fm_ka_int (fun _ => rfl) (by decide) (by decide) (Nat.le_of_ble_eq_true rfl) ⟨Nat.le_of_ble_eq_true rfl, Nat.le_of_ble_eq_true rfl⟩ dX10_init_115 (0, 49, []) (k := 12) rfl (by decide) (by decide +kernel) (fun _ => rfl) (fun a12 H h12 E => ?_)
  have E : fm_kW G (fm_kA (a0 0) s.heap.size) (fm_kw G fm_m1z 0 10 [4, 5, 2, 6, 2, 2, 2, 2, 2, 7, 8, 0, 0, 0, 9, 2, 10, 11, 12, 13, 2, 14, 1, 1, 1, 2, 1, 2, 1, 1, 1] [(0, 101, []), (1, 80, []), (3, 32, []), (0, 320, []), (0, 3606, []), (0, 6, []), (0, 48, []), (0, 288, []), (0, 48, []), (0, 48, []), (0, 17, []), (0, 49, [])] a12) s _ _ := E
  refine fm_kput (k := 12) C N.1 E kp_X10_55 rfl rfl (by simp) ((h12 0 (by omega)).trans ((h11 0 (by omega)).trans ((h10 0 (by omega)).trans ((h9 0 (by omega)).trans ((h8 0 (by omega)).trans ((h7 0 (by omega)).trans ((h6 0 (by omega)).trans ((h5 0 (by omega)).trans ((h4 0 (by omega)).trans ((h3 0 (by omega)).trans ((h2 0 (by omega)).trans (h1 0 (by omega))))))))))))) rfl dX10_init_117 (fun H locs E => ?_)
  have E : fm_kW G (fm_kA (a0 0) s.heap.size) (fm_kw G fm_m1z 0 10 [4, 5, 2, 6, 2, 2, 2, 2, 2, 7, 8, 0, 0, 0, 9, 2, 10, 11, 12, 13, 2, 14, 15, 1, 1, 2, 1, 2, 1, 1, 1] [(0, 101, []), (1, 80, []), (3, 32, []), (0, 320, []), (0, 3606, []), (0, 6, []), (0, 48, []), (0, 288, []), (0, 48, []), (0, 48, []), (0, 17, []), (0, 49, [])] a12) s _ _ := E
  refine lv_aload_n C.1 C.2.1 dX10_init_120 rfl (lv_at hl 0 rfl) ?_
  refine lv_sipush (v := 808) C.1 C.2.1 dX10_init_121 (by decide) ?_
  refine fm_kwa (atype := .int) (t := 0) (N' := 808) (a0 := (808, .inl (fun _ => 0))) C E rfl rfl fm_ka_int (fun _ => rfl) (by decide) (by decide) (Nat.le_of_ble_eq_true rfl) ⟨Nat.le_of_ble_eq_true rfl, Nat.le_of_ble_eq_true rfl⟩ dX10_init_124 (0, 808, []) (k := 13) rfl (by decide) (by decide +kernel) (fun _ => rfl) (fun a13 H h13 E => ?_)
  have E : fm_kW G (fm_kA (a0 0) s.heap.size) (fm_kw G fm_m1z 0 10 [4, 5, 2, 6, 2, 2, 2, 2, 2, 7, 8, 0, 0, 0, 9, 2, 10, 11, 12, 13, 2, 14, 15, 1, 1, 2, 1, 2, 1, 1, 1] [(0, 101, []), (1, 80, []), (3, 32, []), (0, 320, []), (0, 3606, []), (0, 6, []), (0, 48, []), (0, 288, []), (0, 48, []), (0, 48, []), (0, 17, []), (0, 49, []), (0, 808, [])] a13) s _ _ := E
  refine fm_kput (k := 13) C N.1 E kp_X10_58 rfl rfl (by simp) ((h13 0 (by omega)).trans ((h12 0 (by omega)).trans ((h11 0 (by omega)).trans ((h10 0 (by omega)).trans ((h9 0 (by omega)).trans ((h8 0 (by omega)).trans ((h7 0 (by omega)).trans ((h6 0 (by omega)).trans ((h5 0 (by omega)).trans ((h4 0 (by omega)).trans ((h3 0 (by omega)).trans ((h2 0 (by omega)).trans (h1 0 (by omega)))))))))))))) rfl dX10_init_126 (fun H locs E => ?_)
  have E : fm_kW G (fm_kA (a0 0) s.heap.size) (fm_kw G fm_m1z 0 10 [4, 5, 2, 6, 2, 2, 2, 2, 2, 7, 8, 0, 0, 0, 9, 2, 10, 11, 12, 13, 2, 14, 15, 16, 1, 2, 1, 2, 1, 1, 1] [(0, 101, []), (1, 80, []), (3, 32, []), (0, 320, []), (0, 3606, []), (0, 6, []), (0, 48, []), (0, 288, []), (0, 48, []), (0, 48, []), (0, 17, []), (0, 49, []), (0, 808, [])] a13) s _ _ := E
  refine lv_aload_n C.1 C.2.1 dX10_init_129 rfl (lv_at hl 0 rfl) ?_
  refine lv_bipush (v := 101) C.1 C.2.1 dX10_init_130 (by decide) ?_
  refine fm_kwa (atype := .int) (t := 0) (N' := 101) (a0 := (101, .inl (fun _ => 0))) C E rfl rfl fm_ka_int (fun _ => rfl) (by decide) (by decide) (Nat.le_of_ble_eq_true rfl) ⟨Nat.le_of_ble_eq_true rfl, Nat.le_of_ble_eq_true rfl⟩ dX10_init_132 (0, 101, []) (k := 14) rfl (by decide) (by decide +kernel) (fun _ => rfl) (fun a14 H h14 E => ?_)
  have E : fm_kW G (fm_kA (a0 0) s.heap.size) (fm_kw G fm_m1z 0 10 [4, 5, 2, 6, 2, 2, 2, 2, 2, 7, 8, 0, 0, 0, 9, 2, 10, 11, 12, 13, 2, 14, 15, 16, 1, 2, 1, 2, 1, 1, 1] [(0, 101, []), (1, 80, []), (3, 32, []), (0, 320, []), (0, 3606, []), (0, 6, []), (0, 48, []), (0, 288, []), (0, 48, []), (0, 48, []), (0, 17, []), (0, 49, []), (0, 808, []), (0, 101, [])] a14) s _ _ := E
  refine fm_kput (k := 14) C N.1 E kp_X10_61 rfl rfl (by simp) ((h14 0 (by omega)).trans ((h13 0 (by omega)).trans ((h12 0 (by omega)).trans ((h11 0 (by omega)).trans ((h10 0 (by omega)).trans ((h9 0 (by omega)).trans ((h8 0 (by omega)).trans ((h7 0 (by omega)).trans ((h6 0 (by omega)).trans ((h5 0 (by omega)).trans ((h4 0 (by omega)).trans ((h3 0 (by omega)).trans ((h2 0 (by omega)).trans (h1 0 (by omega))))))))))))))) rfl dX10_init_134 (fun H locs E => ?_)
  have E : fm_kW G (fm_kA (a0 0) s.heap.size) (fm_kw G fm_m1z 0 10 [4, 5, 2, 6, 2, 2, 2, 2, 2, 7, 8, 0, 0, 0, 9, 2, 10, 11, 12, 13, 2, 14, 15, 16, 17, 2, 1, 2, 1, 1, 1] [(0, 101, []), (1, 80, []), (3, 32, []), (0, 320, []), (0, 3606, []), (0, 6, []), (0, 48, []), (0, 288, []), (0, 48, []), (0, 48, []), (0, 17, []), (0, 49, []), (0, 808, []), (0, 101, [])] a14) s _ _ := E
  refine lv_aload_n C.1 C.2.1 dX10_init_137 rfl (lv_at hl 0 rfl) ?_
  refine lv_bipush (v := 6) C.1 C.2.1 dX10_init_138 (by decide) ?_
  refine fm_kwa (atype := .int) (t := 0) (N' := 6) (a0 := (6, .inl (fun _ => 0))) C E rfl rfl fm_ka_int (fun _ => rfl) (by decide) (by decide) (Nat.le_of_ble_eq_true rfl) ⟨Nat.le_of_ble_eq_true rfl, Nat.le_of_ble_eq_true rfl⟩ dX10_init_140 (0, 6, []) (k := 15) rfl (by decide) (by decide +kernel) (fun _ => rfl) (fun a15 H h15 E => ?_)
  have E : fm_kW G (fm_kA (a0 0) s.heap.size) (fm_kw G fm_m1z 0 10 [4, 5, 2, 6, 2, 2, 2, 2, 2, 7, 8, 0, 0, 0, 9, 2, 10, 11, 12, 13, 2, 14, 15, 16, 17, 2, 1, 2, 1, 1, 1] [(0, 101, []), (1, 80, []), (3, 32, []), (0, 320, []), (0, 3606, []), (0, 6, []), (0, 48, []), (0, 288, []), (0, 48, []), (0, 48, []), (0, 17, []), (0, 49, []), (0, 808, []), (0, 101, []), (0, 6, [])] a15) s _ _ := E
  refine fm_kput (k := 15) C N.1 E kp_X10_64 rfl rfl (by simp) ((h15 0 (by omega)).trans ((h14 0 (by omega)).trans ((h13 0 (by omega)).trans ((h12 0 (by omega)).trans ((h11 0 (by omega)).trans ((h10 0 (by omega)).trans ((h9 0 (by omega)).trans ((h8 0 (by omega)).trans ((h7 0 (by omega)).trans ((h6 0 (by omega)).trans ((h5 0 (by omega)).trans ((h4 0 (by omega)).trans ((h3 0 (by omega)).trans ((h2 0 (by omega)).trans (h1 0 (by omega)))))))))))))))) rfl dX10_init_142 (fun H locs E => ?_)
  have E : fm_kW G (fm_kA (a0 0) s.heap.size) (fm_kw G fm_m1z 0 10 [4, 5, 2, 6, 2, 2, 2, 2, 2, 7, 8, 0, 0, 0, 9, 2, 10, 11, 12, 13, 2, 14, 15, 16, 17, 2, 18, 2, 1, 1, 1] [(0, 101, []), (1, 80, []), (3, 32, []), (0, 320, []), (0, 3606, []), (0, 6, []), (0, 48, []), (0, 288, []), (0, 48, []), (0, 48, []), (0, 17, []), (0, 49, []), (0, 808, []), (0, 101, []), (0, 6, [])] a15) s _ _ := E
  refine lv_aload_n C.1 C.2.1 dX10_init_145 rfl (lv_at hl 0 rfl) ?_
  refine lv_bipush (v := 101) C.1 C.2.1 dX10_init_146 (by decide) ?_
  refine fm_kwa (atype := .int) (t := 0) (N' := 101) (a0 := (101, .inl (fun _ => 0))) C E rfl rfl fm_ka_int (fun _ => rfl) (by decide) (by decide) (Nat.le_of_ble_eq_true rfl) ⟨Nat.le_of_ble_eq_true rfl, Nat.le_of_ble_eq_true rfl⟩ dX10_init_148 (0, 101, []) (k := 16) rfl (by decide) (by decide +kernel) (fun _ => rfl) (fun a16 H h16 E => ?_)
  have E : fm_kW G (fm_kA (a0 0) s.heap.size) (fm_kw G fm_m1z 0 10 [4, 5, 2, 6, 2, 2, 2, 2, 2, 7, 8, 0, 0, 0, 9, 2, 10, 11, 12, 13, 2, 14, 15, 16, 17, 2, 18, 2, 1, 1, 1] [(0, 101, []), (1, 80, []), (3, 32, []), (0, 320, []), (0, 3606, []), (0, 6, []), (0, 48, []), (0, 288, []), (0, 48, []), (0, 48, []), (0, 17, []), (0, 49, []), (0, 808, []), (0, 101, []), (0, 6, []), (0, 101, [])] a16) s _ _ := E
  refine fm_kput (k := 16) C N.1 E kp_X10_67 rfl rfl (by simp) ((h16 0 (by omega)).trans ((h15 0 (by omega)).trans ((h14 0 (by omega)).trans ((h13 0 (by omega)).trans ((h12 0 (by omega)).trans ((h11 0 (by omega)).trans ((h10 0 (by omega)).trans ((h9 0 (by omega)).trans ((h8 0 (by omega)).trans ((h7 0 (by omega)).trans ((h6 0 (by omega)).trans ((h5 0 (by omega)).trans ((h4 0 (by omega)).trans ((h3 0 (by omega)).trans ((h2 0 (by omega)).trans (h1 0 (by omega))))))))))))))))) rfl dX10_init_150 (fun H locs E => ?_)
  have E : fm_kW G (fm_kA (a0 0) s.heap.size) (fm_kw G fm_m1z 0 10 [4, 5, 2, 6, 2, 2, 2, 2, 2, 7, 8, 0, 0, 0, 9, 2, 10, 11, 12, 13, 2, 14, 15, 16, 17, 2, 18, 2, 19, 1, 1] [(0, 101, []), (1, 80, []), (3, 32, []), (0, 320, []), (0, 3606, []), (0, 6, []), (0, 48, []), (0, 288, []), (0, 48, []), (0, 48, []), (0, 17, []), (0, 49, []), (0, 808, []), (0, 101, []), (0, 6, []), (0, 101, [])] a16) s _ _ := E
  refine lv_aload_n C.1 C.2.1 dX10_init_153 rfl (lv_at hl 0 rfl) ?_
  refine lv_sipush (v := 202) C.1 C.2.1 dX10_init_154 (by decide) ?_
  refine fm_kwa (atype := .int) (t := 0) (N' := 202) (a0 := (202, .inl (fun _ => 0))) C E rfl rfl fm_ka_int (fun _ => rfl) (by decide) (by decide) (Nat.le_of_ble_eq_true rfl) ⟨Nat.le_of_ble_eq_true rfl, Nat.le_of_ble_eq_true rfl⟩ dX10_init_157 (0, 202, []) (k := 17) rfl (by decide) (by decide +kernel) (fun _ => rfl) (fun a17 H h17 E => ?_)
  have E : fm_kW G (fm_kA (a0 0) s.heap.size) (fm_kw G fm_m1z 0 10 [4, 5, 2, 6, 2, 2, 2, 2, 2, 7, 8, 0, 0, 0, 9, 2, 10, 11, 12, 13, 2, 14, 15, 16, 17, 2, 18, 2, 19, 1, 1] [(0, 101, []), (1, 80, []), (3, 32, []), (0, 320, []), (0, 3606, []), (0, 6, []), (0, 48, []), (0, 288, []), (0, 48, []), (0, 48, []), (0, 17, []), (0, 49, []), (0, 808, []), (0, 101, []), (0, 6, []), (0, 101, []), (0, 202, [])] a17) s _ _ := E
  refine fm_kput (k := 17) C N.1 E kp_X10_70 rfl rfl (by simp) ((h17 0 (by omega)).trans ((h16 0 (by omega)).trans ((h15 0 (by omega)).trans ((h14 0 (by omega)).trans ((h13 0 (by omega)).trans ((h12 0 (by omega)).trans ((h11 0 (by omega)).trans ((h10 0 (by omega)).trans ((h9 0 (by omega)).trans ((h8 0 (by omega)).trans ((h7 0 (by omega)).trans ((h6 0 (by omega)).trans ((h5 0 (by omega)).trans ((h4 0 (by omega)).trans ((h3 0 (by omega)).trans ((h2 0 (by omega)).trans (h1 0 (by omega)))))))))))))))))) rfl dX10_init_159 (fun H locs E => ?_)
  have E : fm_kW G (fm_kA (a0 0) s.heap.size) (fm_kw G fm_m1z 0 10 [4, 5, 2, 6, 2, 2, 2, 2, 2, 7, 8, 0, 0, 0, 9, 2, 10, 11, 12, 13, 2, 14, 15, 16, 17, 2, 18, 2, 19, 20, 1] [(0, 101, []), (1, 80, []), (3, 32, []), (0, 320, []), (0, 3606, []), (0, 6, []), (0, 48, []), (0, 288, []), (0, 48, []), (0, 48, []), (0, 17, []), (0, 49, []), (0, 808, []), (0, 101, []), (0, 6, []), (0, 101, []), (0, 202, [])] a17) s _ _ := E
  refine lv_aload_n C.1 C.2.1 dX10_init_162 rfl (lv_at hl 0 rfl) ?_
  refine lv_iconst (v := 2) C.1 C.2.1 dX10_init_163 (by decide) ?_
  refine fm_kwa (atype := .boolean) (t := 2) (N' := 2) (a0 := (2, .inl (fun _ => 0))) C E rfl rfl fm_ka_boolean (fun _ => rfl) (by decide) (by decide) (Nat.le_of_ble_eq_true rfl) ⟨Nat.le_of_ble_eq_true rfl, Nat.le_of_ble_eq_true rfl⟩ dX10_init_164 (2, 2, []) (k := 18) rfl (by decide) (by decide +kernel) (fun _ => rfl) (fun a18 H h18 E => ?_)
  have E : fm_kW G (fm_kA (a0 0) s.heap.size) (fm_kw G fm_m1z 0 10 [4, 5, 2, 6, 2, 2, 2, 2, 2, 7, 8, 0, 0, 0, 9, 2, 10, 11, 12, 13, 2, 14, 15, 16, 17, 2, 18, 2, 19, 20, 1] [(0, 101, []), (1, 80, []), (3, 32, []), (0, 320, []), (0, 3606, []), (0, 6, []), (0, 48, []), (0, 288, []), (0, 48, []), (0, 48, []), (0, 17, []), (0, 49, []), (0, 808, []), (0, 101, []), (0, 6, []), (0, 101, []), (0, 202, []), (2, 2, [])] a18) s _ _ := E
  refine fm_kput (k := 18) C N.1 E kp_X10_73 rfl rfl (by simp) ((h18 0 (by omega)).trans ((h17 0 (by omega)).trans ((h16 0 (by omega)).trans ((h15 0 (by omega)).trans ((h14 0 (by omega)).trans ((h13 0 (by omega)).trans ((h12 0 (by omega)).trans ((h11 0 (by omega)).trans ((h10 0 (by omega)).trans ((h9 0 (by omega)).trans ((h8 0 (by omega)).trans ((h7 0 (by omega)).trans ((h6 0 (by omega)).trans ((h5 0 (by omega)).trans ((h4 0 (by omega)).trans ((h3 0 (by omega)).trans ((h2 0 (by omega)).trans (h1 0 (by omega))))))))))))))))))) rfl dX10_init_166 (fun H locs E => ?_)
  have E : fm_kW G (fm_kA (a0 0) s.heap.size) (fm_kw G fm_m1z 0 10 [4, 5, 2, 6, 2, 2, 2, 2, 2, 7, 8, 0, 0, 0, 9, 2, 10, 11, 12, 13, 2, 14, 15, 16, 17, 2, 18, 2, 19, 20, 21] [(0, 101, []), (1, 80, []), (3, 32, []), (0, 320, []), (0, 3606, []), (0, 6, []), (0, 48, []), (0, 288, []), (0, 48, []), (0, 48, []), (0, 17, []), (0, 49, []), (0, 808, []), (0, 101, []), (0, 6, []), (0, 101, []), (0, 202, []), (2, 2, [])] a18) s _ _ := E
  refine lv_aload_n C.1 C.2.1 dX10_init_169 rfl (lv_at hl 0 rfl) ?_
  refine fm_kget (ex := []) (k := 1) C (by rw [List.append_nil]; exact E) kf_X10_9 rfl ((h18 0 (by omega)).trans ((h17 0 (by omega)).trans ((h16 0 (by omega)).trans ((h15 0 (by omega)).trans ((h14 0 (by omega)).trans ((h13 0 (by omega)).trans ((h12 0 (by omega)).trans ((h11 0 (by omega)).trans ((h10 0 (by omega)).trans ((h9 0 (by omega)).trans ((h8 0 (by omega)).trans ((h7 0 (by omega)).trans ((h6 0 (by omega)).trans ((h5 0 (by omega)).trans ((h4 0 (by omega)).trans ((h3 0 (by omega)).trans ((h2 0 (by omega)).trans (h1 0 (by omega))))))))))))))))))) dX10_init_170 ?_
  refine lv_bipush (v := 37) C.1 C.2.1 dX10_init_173 (by decide) ?_
  refine lv_sipush (v := 9999) C.1 C.2.1 dX10_init_175 (by decide) ?_
  refine fm_kiast (i := 0) (J := 37) C E rfl (by decide +kernel) rfl (by decide) (by decide) dX10_init_178 (fun H locs E => ?_)
  have E : fm_kW G (fm_kA (a0 0) s.heap.size) (fm_kw G (fm_si fm_m1z 1 37 9999) 0 10 [4, 5, 2, 6, 2, 2, 2, 2, 2, 7, 8, 0, 0, 0, 9, 2, 10, 11, 12, 13, 2, 14, 15, 16, 17, 2, 18, 2, 19, 20, 21] [(0, 101, []), (1, 80, []), (3, 32, []), (0, 320, []), (0, 3606, []), (0, 6, []), (0, 48, []), (0, 288, []), (0, 48, []), (0, 48, []), (0, 17, []), (0, 49, []), (0, 808, []), (0, 101, []), (0, 6, []), (0, 101, []), (0, 202, []), (2, 2, [])] a18) s _ _ := E
  refine lv_aload_n C.1 C.2.1 dX10_init_179 rfl (lv_at hl 0 rfl) ?_
  refine fm_kget (ex := []) (k := 1) C (by rw [List.append_nil]; exact E) kf_X10_9 rfl ((h18 0 (by omega)).trans ((h17 0 (by omega)).trans ((h16 0 (by omega)).trans ((h15 0 (by omega)).trans ((h14 0 (by omega)).trans ((h13 0 (by omega)).trans ((h12 0 (by omega)).trans ((h11 0 (by omega)).trans ((h10 0 (by omega)).trans ((h9 0 (by omega)).trans ((h8 0 (by omega)).trans ((h7 0 (by omega)).trans ((h6 0 (by omega)).trans ((h5 0 (by omega)).trans ((h4 0 (by omega)).trans ((h3 0 (by omega)).trans ((h2 0 (by omega)).trans (h1 0 (by omega))))))))))))))))))) dX10_init_180 ?_
  refine lv_bipush (v := 39) C.1 C.2.1 dX10_init_183 (by decide) ?_
  refine lv_bipush (v := 16) C.1 C.2.1 dX10_init_185 (by decide) ?_
  refine fm_kiast (i := 0) (J := 39) C E rfl (by decide +kernel) rfl (by decide) (by decide) dX10_init_187 (fun H locs E => ?_)
  have E : fm_kW G (fm_kA (a0 0) s.heap.size) (fm_kw G (fm_si (fm_si fm_m1z 1 37 9999) 1 39 16) 0 10 [4, 5, 2, 6, 2, 2, 2, 2, 2, 7, 8, 0, 0, 0, 9, 2, 10, 11, 12, 13, 2, 14, 15, 16, 17, 2, 18, 2, 19, 20, 21] [(0, 101, []), (1, 80, []), (3, 32, []), (0, 320, []), (0, 3606, []), (0, 6, []), (0, 48, []), (0, 288, []), (0, 48, []), (0, 48, []), (0, 17, []), (0, 49, []), (0, 808, []), (0, 101, []), (0, 6, []), (0, 101, []), (0, 202, []), (2, 2, [])] a18) s _ _ := E
  exact W.widen (Nat.le_of_ble_eq_true rfl) (Nat.le_of_ble_eq_true rfl) (fm_kret (n := 31) (fl := [some 1, some 2, none, some 3, none, none, none, none, none, some 4, some 5, none, none, none, some 6, none, some 7, some 8, some 9, some 10, none, some 11, some 12, some 13, some 14, none, some 15, none, some 16, some 17, some 18]) C N E rfl rfl (fun j hj => ((h18 j (by omega)).trans ((h17 j (by omega)).trans ((h16 j (by omega)).trans ((h15 j (by omega)).trans ((h14 j (by omega)).trans ((h13 j (by omega)).trans ((h12 j (by omega)).trans ((h11 j (by omega)).trans ((h10 j (by omega)).trans ((h9 j (by omega)).trans ((h8 j (by omega)).trans ((h7 j (by omega)).trans ((h6 j (by omega)).trans ((h5 j (by omega)).trans ((h4 j (by omega)).trans ((h3 j (by omega)).trans ((h2 j (by omega)).trans (h1 j (by omega)))))))))))))))))))) dX10_init_188)
