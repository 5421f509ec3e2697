/-! ===== texts: constants of the tables ===== -/
def fm_co {α : Type} (v : Int32) (K : Option α) : Option α := if v = (v.toUInt32 % 65536).toInt32 then K else none
theorem fm_co_s {α : Type} {v : Int32} {K : Option α} {r : α} (h : fm_co v K = some r) : narrow .char (.int v) = .int v ∧ K = some r := by
  unfold fm_co at h
  split at h
  · rename_i hv
    refine ⟨?_, h⟩
    rw [hv]
    exact pk_nc v
  · cases h
section FMT
variable {p : Program} {l : Launch} {e : Env} {R : Room} {s : State} {m : MethodId} {args : Array Value} {below : List Frame} {meth : Method} {c : Code} {H : Heap} {locs : List Loc} {cells slots : Nat} {Q : State → Prop}
variable {cc : ByteArray} {pc nL : Nat} {ls : Array Slot} {rest : List Value} {own : String} {ret : Option FieldType} {SH : List fm_Sh} {G : fm_G} {M M1 : fm_M}
theorem fm_cmp (C : fm_Cx SH G p s m args meth c cc nL own ret) (E : fm_Wd SH G M s H locs) {index : Nat} (hl : Cond.fieldLink own index "java/lang/String" "COMPACT_STRINGS" "Z" ∈ fm_TT) (hdg : decode cc pc = .ok (.getstatic index, 3))
    (kk : W p l e R s m args below meth c H locs cells slots Q (F0 m (pc + 3) ls (.int 1 :: rest))) : W p l e R s m args below meth c H locs cells slots Q (F0 m pc ls rest) :=
  va_gets C.1 C.2.1 C.2.2.2.2.2.2.2.2.2.2.2.2.1 E.2.2 C.2.2.2.1 (C.2.2.2.2.1 _ hl) (fun x hx => hx) hdg kk
theorem fm_gtq (C : fm_Cx SH G p s m args meth c cc nL own ret) (E : fm_Wd SH G M s H locs) {index : Nat} (hl : Cond.fieldLink own index "jdk/internal/util/Preconditions" "SIOOBE_FORMATTER" "Ljava/util/function/BiFunction;" ∈ fm_TT) (hdg : decode cc pc = .ok (.getstatic index, 3))
    (kk : ∀ o : Option Nat, W p l e R s m args below meth c H locs cells slots Q (F0 m (pc + 3) ls (va_rf o :: rest))) : W p l e R s m args below meth c H locs cells slots Q (F0 m pc ls rest) := by
  rcases C.2.2.2.2.2.2.2.2.2.2.2.2.2.1 with h | ⟨t, h⟩
  · exact va_gets C.1 C.2.1 h E.2.2 C.2.2.2.1 (C.2.2.2.2.1 _ hl) (fun x hx => hx) hdg (kk none)
  · exact va_gets C.1 C.2.1 h E.2.2 C.2.2.2.1 (C.2.2.2.2.1 _ hl) (fun x hx => hx) hdg (kk (some t))
theorem fm_sco (C : fm_Cx SH G p s m args meth c cc nL own ret) (E : fm_Wd SH G M s H locs) {index i : Nat} (hi : i < 7) (hl : Cond.fieldLink own index "java/lang/String" "code\x72" "B" ∈ fm_TT) (hdg : decode cc pc = .ok (.getfield index, 3))
    (kk : W p l e R s m args below meth c H locs cells slots Q (F0 m (pc + 3) ls (.int 0 :: rest))) : W p l e R s m args below meth c H locs cells slots Q (F0 m pc ls (.ref (G.2.2.2.1 i) :: rest)) :=
  vk_getf C.1 C.2.1 (C.2.2.2.2.2.2.2.2.2.2.1.1 i hi).2.1 E.2.2 C.2.2.2.1 (C.2.2.2.2.1 _ hl) (fun x hx => hx) hdg kk
theorem fm_sva (C : fm_Cx SH G p s m args meth c cc nL own ret) (E : fm_Wd SH G M s H locs) {index i : Nat} (hi : i < 7) (hl : Cond.fieldLink own index "java/lang/String" "value" "[B" ∈ fm_TT) (hdg : decode cc pc = .ok (.getfield index, 3))
    (kk : W p l e R s m args below meth c H locs cells slots Q (F0 m (pc + 3) ls (.ref (G.2.2.2.2 i) :: rest))) : W p l e R s m args below meth c H locs cells slots Q (F0 m pc ls (.ref (G.2.2.2.1 i) :: rest)) :=
  vk_getf C.1 C.2.1 (C.2.2.2.2.2.2.2.2.2.2.1.1 i hi).2.2.1 E.2.2 C.2.2.2.1 (C.2.2.2.2.1 _ hl) (fun x hx => hx) hdg kk
theorem fm_sln (C : fm_Cx SH G p s m args meth c cc nL own ret) (E : fm_Wd SH G M s H locs) {i : Nat} (hi : i < 7) (hdg : decode cc pc = .ok (.arraylength, 1))
    (kk : W p l e R s m args below meth c H locs cells slots Q (F0 m (pc + 1) ls (.int (Int32.ofNat (fm_Sl.getD i 0)) :: rest))) : W p l e R s m args below meth c H locs cells slots Q (F0 m pc ls (.ref (G.2.2.2.2 i) :: rest)) :=
  va_tlen C.1 C.2.1 (C.2.2.2.2.2.2.2.2.2.2.1.1 i hi).2.2.2 E.2.2 rfl hdg kk
theorem fm_sbl (C : fm_Cx SH G p s m args meth c cc nL own ret) (E : fm_Wd SH G M s H locs) {i : Nat} {j x : Int32} (hi : i < 7) (hx : x = (fm_Sb.getD i []).getD j.toNatClampNeg 0) (hin : fm_in j (fm_Sl.getD i 0) = true) (hdg : decode cc pc = .ok (.baload, 1))
    (kk : W p l e R s m args below meth c H locs cells slots Q (F0 m (pc + 1) ls (.int x :: rest))) : W p l e R s m args below meth c H locs cells slots Q (F0 m pc ls (.int j :: .ref (G.2.2.2.2 i) :: rest)) := by
  subst hx
  exact va_tb C.1 C.2.1 (C.2.2.2.2.2.2.2.2.2.2.1.1 i hi).2.2.2 E.2.2 (fm_in_vp hin) rfl hdg kk
theorem fm_callT (C : fm_Cx SH G p s m args meth c cc nL own ret) (E : fm_Wd SH G M s H locs) {index n i maxL : Nat} {y : MethodName} {bytes : ByteArray} {rt : Option FieldType} {rm : Room} {o : Option Value} {M' : fm_M} {st0 : List Value} (As rest : List Value) (V : fm_V own index y n) (K : Cond.code y bytes maxL rt ∈ fm_TT)
    (hM : fm_Met l y bytes maxL rt rm SH G (.ref (G.2.2.2.1 i) :: As) M o M') (hi : i < 7) (hq : y.cls = "java/lang/String") (hn : As.length = n) (hsz : ls.size = nL) (hst : (rest.map fun v => v.category).sum ≤ 8) (hR : (rm.cells = 0 ∧ rm.slots = 0) ∧ rm.frames + 1 ≤ R.frames ∧ 8 + (maxL + 11) + rm.locals ≤ R.locals) (hcs : cells ≤ R.cells ∧ slots ≤ R.slots) (hdg : decode cc pc = .ok (.invokevirtual index, 3)) (stk : st0 = As.reverse ++ .ref (G.2.2.2.1 i) :: rest)
    (kk : ∀ (H1 : Heap) (locs1 : List Loc), fm_Wd SH G M' s H1 locs1 → W p l e R s m args below meth c H1 locs1 cells slots Q (F0 m (pc + 3) ls (o.toList ++ rest))) : W p l e R s m args below meth c H locs cells slots Q (F0 m pc ls st0) := by
  obtain ⟨hl, v2, v3, v4, v5⟩ := V
  have hts := C.2.2.2.2.1
  have hrecv := vk_recv C.2.2.2.2.2.2.2.2.2.2.1 hi E.2.2
  rw [← hq] at hrecv
  rcases hl with hl | ⟨host, hl⟩
  · exact fm_back E (va_runV (Ts := fm_TT) (own := own) (C := y.cls) (As := As) (rest := rest) ⟨C.1, C.2.1, C.2.2.1, C.2.2.2.1, hts⟩ (hM H.size) ⟨callB_of n hts (fm_goodC K) rfl hR.1.1 hR.1.2 (hts _ v4) (hts _ hl) v5 hR.2, hts _ v2, hts _ v3⟩ ⟨fm_blind, hrecv, fm_pc C E _⟩ rfl hn hsz stk (lv_room (pc := pc) hst) hdg hcs) kk
  · exact fm_back E (va_runVN (Ts := fm_TT) (own := own) (C := y.cls) (host := host) (As := As) (rest := rest) ⟨C.1, C.2.1, C.2.2.1, C.2.2.2.1, hts⟩ (hM H.size) ⟨va_cnB n hts (fm_goodC K) rfl hR.1.1 hR.1.2 (C.2.2.2.2.2.2.2.2.1 _ hl) (hts _ v4) v5 hR.2, hts _ v2, hts _ v3⟩ ⟨fm_blind, hrecv, fm_pc C E _⟩ rfl hn hsz stk (lv_room (pc := pc) hst) hdg hcs) kk
end FMT
