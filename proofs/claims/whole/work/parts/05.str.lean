/-! Rows for the two String constants of the class, as the JDK's own methods read them. -/
def isT (ty : FieldType) (x : Int32) : Bool := decide (vp_nar ty x = x)
theorem isT_c {x : Int32} (h : isT .char x = true) : narrow .char (.int x) = .int x := congrArg Value.int (of_decide_eq_true h : vp_nar .char x = x)
theorem isT_b {x : Int32} (h : isT .byte x = true) : narrow .byte (.int x) = .int x := congrArg Value.int (of_decide_eq_true h : vp_nar .byte x = x)
section
variable {p : Program} {l : Launch} {e : Env} {R : Room} {s : State} {m : MethodId} {args : Array Value} {below : List Frame} {meth : Method} {c : Code} {H : Heap} {locs : List Loc} {cells slots : Nat} {Q : State → Prop}
variable {n : Nat} {ce : CE} {D : va_G} {ad : Nat → Nat} {κ : KC} {cc : ByteArray} {own : String} {nL : Nat} {ret : Option FieldType} {pc : Nat} {ls : Array Slot} {rest : List Value} {σ : HS}
theorem g_sval (C : Cx n D ad κ p s m args meth c cc own nL ret) (hH : Hd n ce D ad κ s σ H locs) {i : Nat} (hi : i < 2) {index : Nat} (hlink : Cond.fieldLink own index "java/lang/String" "value" "[B" ∈ lg_tbl) (hdg : decode cc pc = .ok (.getfield index, 3))
    (kk : W p l e R s m args below meth c H locs cells slots Q (F0 m (pc + 3) ls (.ref (ad (200 + i)) :: rest))) : W p l e R s m args below meth c H locs cells slots Q (F0 m pc ls (.ref (ad (100 + i)) :: rest)) :=
  vk_getf (o := "java/lang/String") (ref := "java/lang/String") C.1 C.2.1 (C.2.2.2.2.2.2.2.1.2.2.2.2.2.1 i hi).2.2.1 hH.2 C.2.2.2.1 (C.2.2.2.2.1 _ hlink) (fun _ h => h) hdg kk
theorem g_scod (C : Cx n D ad κ p s m args meth c cc own nL ret) (hH : Hd n ce D ad κ s σ H locs) {i : Nat} (hi : i < 2) {index : Nat} (hlink : Cond.fieldLink own index "java/lang/String" "coder" "B" ∈ lg_tbl) (hdg : decode cc pc = .ok (.getfield index, 3))
    (kk : W p l e R s m args below meth c H locs cells slots Q (F0 m (pc + 3) ls (.int 0 :: rest))) : W p l e R s m args below meth c H locs cells slots Q (F0 m pc ls (.ref (ad (100 + i)) :: rest)) :=
  vk_getf (o := "java/lang/String") (ref := "java/lang/String") C.1 C.2.1 (C.2.2.2.2.2.2.2.1.2.2.2.2.2.1 i hi).2.1 hH.2 C.2.2.2.1 (C.2.2.2.2.1 _ hlink) (fun _ h => h) hdg kk
theorem g_slen (C : Cx n D ad κ p s m args meth c cc own nL ret) (hH : Hd n ce D ad κ s σ H locs) {i : Nat} (hi : i < 2) (hdg : decode cc pc = .ok (.arraylength, 1))
    (kk : W p l e R s m args below meth c H locs cells slots Q (F0 m (pc + 1) ls (.int (Int32.ofNat (lenJS.getD i 0)) :: rest))) : W p l e R s m args below meth c H locs cells slots Q (F0 m pc ls (.ref (ad (200 + i)) :: rest)) :=
  va_tlen C.1 C.2.1 (C.2.2.2.2.2.2.2.1.2.2.2.2.2.1 i hi).2.2.2 hH.2 rfl hdg kk
theorem g_sald (C : Cx n D ad κ p s m args meth c cc own nL ret) (hH : Hd n ce D ad κ s σ H locs) {i : Nat} (hi : i < 2) {x : Int32} (hin : vp_in x (lenJS.getD i 0)) (hdg : decode cc pc = .ok (.baload, 1))
    (kk : W p l e R s m args below meth c H locs cells slots Q (F0 m (pc + 1) ls (.int ((bytJS.getD i []).getD x.toNatClampNeg 0) :: rest))) : W p l e R s m args below meth c H locs cells slots Q (F0 m pc ls (.int x :: .ref (ad (200 + i)) :: rest)) :=
  va_tb C.1 C.2.1 (C.2.2.2.2.2.2.2.1.2.2.2.2.2.1 i hi).2.2.2 hH.2 hin rfl hdg kk
theorem g_comp (C : Cx n D ad κ p s m args meth c cc own nL ret) (hH : Hd n ce D ad κ s σ H locs) {index : Nat} (hlink : Cond.fieldLink own index "java/lang/String" "COMPACT_STRINGS" "Z" ∈ lg_tbl) (hdg : decode cc pc = .ok (.getstatic index, 3))
    (kk : W p l e R s m args below meth c H locs cells slots Q (F0 m (pc + 3) ls (.int 1 :: rest))) : W p l e R s m args below meth c H locs cells slots Q (F0 m pc ls rest) :=
  va_gets (ref := "java/lang/String") C.1 C.2.1 C.2.2.2.2.2.2.2.1.2.1 hH.2 C.2.2.2.1 (C.2.2.2.2.1 _ hlink) (fun _ h => h) hdg kk
theorem g_sio (C : Cx n D ad κ p s m args meth c cc own nL ret) (hH : Hd n ce D ad κ s σ H locs) {index : Nat} (hlink : Cond.fieldLink own index "jdk/internal/util/Preconditions" "SIOOBE_FORMATTER" "Ljava/util/function/BiFunction;" ∈ lg_tbl) (hdg : decode cc pc = .ok (.getstatic index, 3))
    (k1 : W p l e R s m args below meth c H locs cells slots Q (F0 m (pc + 3) ls (.ref (ad 300) :: rest))) (k2 : W p l e R s m args below meth c H locs cells slots Q (F0 m (pc + 3) ls (.null :: rest))) : W p l e R s m args below meth c H locs cells slots Q (F0 m pc ls rest) := by
  rcases C.2.2.2.2.2.2.2.1.2.2.1 with h | h
  · exact va_gets (ref := "jdk/internal/util/Preconditions") C.1 C.2.1 h hH.2 C.2.2.2.1 (C.2.2.2.2.1 _ hlink) (fun _ h => h) hdg k1
  · exact va_gets (ref := "jdk/internal/util/Preconditions") C.1 C.2.1 h hH.2 C.2.2.2.1 (C.2.2.2.2.1 _ hlink) (fun _ h => h) hdg k2
theorem g_ldc0 (C : Cx n D ad κ p s m args meth c cc RX6 nL ret) (hdg : decode cc pc = .ok (.ldc 85, 2))
    (kk : W p l e R s m args below meth c H locs cells slots Q (F0 m (pc + 2) ls (.ref (ad (100 + 0)) :: rest))) : W p l e R s m args below meth c H locs cells slots Q (F0 m pc ls rest) :=
  va_ldcS C.1 C.2.1 C.2.2.2.1 C.2.2.2.2.2.2.2.1.2.2.2.1 hdg kk
theorem g_ldc1 (C : Cx n D ad κ p s m args meth c cc RX6 nL ret) (hdg : decode cc pc = .ok (.ldc 66, 2))
    (kk : W p l e R s m args below meth c H locs cells slots Q (F0 m (pc + 2) ls (.ref (ad (100 + 1)) :: rest))) : W p l e R s m args below meth c H locs cells slots Q (F0 m pc ls rest) :=
  va_ldcS C.1 C.2.1 C.2.2.2.1 C.2.2.2.2.2.2.2.1.2.2.2.2.1 hdg kk
theorem g_runVS {y : MethodName} {bytes : ByteArray} {maxL index k : Nat} {rt : Option FieldType} {rm : Room} {As : List Value} {Qc : Array Value → State → Outcome → State → Prop} (C : Cx n D ad κ p s m args meth c cc own nL ret) (hH : Hd n ce D ad κ s σ H locs) (hls : ls.size = nL) (cv : cV own index y bytes maxL rt k) {i : Nat} (hi : i < 2) (hy : y.cls = "java/lang/String")
    (hM : Met l y (Cond.code y bytes maxL rt :: lg_tbl) rm (va_Pc (.ref (ad (100 + i)) :: As) (Pre n ce D ad κ σ)) Qc 0 0 (AX n ad)) (hr0 : rm.cells = 0 ∧ rm.slots = 0) (hR : rm.frames + 1 ≤ R.frames ∧ 8 + (maxL + 11) + rm.locals ≤ R.locals) (hk : As.length = k) {st : List Value} (hst : st = As.reverse ++ .ref (ad (100 + i)) :: rest) (hrm : (rest.map fun v => v.category).sum ≤ 8) (hdg : decode cc pc = .ok (.invokevirtual index, 3)) (hcs : cells ≤ R.cells ∧ slots ≤ R.slots) :
    va_Run p l e R s m args below meth c H locs cells slots 0 0 (F0 m pc ls st) rest (Qc (Value.ref (ad (100 + i)) :: As).toArray) (AX n ad) := by
  obtain ⟨⟨l1, l2, l3, l4, l5⟩, l6⟩ := cv
  have hts := C.2.2.2.2.1
  have hrv := vk_recv C.2.2.2.2.2.2.2.1.2.2.2.2.2 hi hH.2
  rw [← hy] at hrv
  exact va_runV (Ts := lg_tbl) (ws := Cond.code y bytes maxL rt :: lg_tbl) (rm := rm) (C := y.cls) ⟨C.1, C.2.1, C.2.2.1, C.2.2.2.1, hts⟩ hM ⟨callB_of k hts (lg_code l5) rfl hr0.1 hr0.2 (hts _ l4) (hts _ l1) l6 hR, hts _ l2, hts _ l3⟩
    ⟨Pre.blind, hrv, fun U hU hW => ⟨rfl, hH.pre C hU hW⟩⟩ rfl hk hls hst (lv_room hrm) hdg hcs
theorem g_retT {R' : Int32 × HS} {x : Int32} {ty : FieldType} (C : Cx n D ad κ p s m args meth c cc own nL (some ty)) (hH : Hd n ce D ad κ s σ H locs) (hx : narrow ty (.int x) = .int x) (h : some (x, σ) = some R') (hdg : decode cc pc = .ok (.ireturn, 1)) : W p l e R s m args below meth c H locs 0 0 (MQ below (QI n ce D ad κ R') args s 0 0 (AX n ad)) (F0 m pc ls [.int x]) := by
  cases h
  exact W.zret C.1 C.2.1 C.2.2.2.2.2.2.2.2.1 hx (fun t ht hW => ⟨⟨x, (), rfl, rfl, by show va_P _ _ _ t.heap; rw [ht]; exact hH.1⟩, hH.2.F ht⟩) hH.2.2.2 hdg C.2.2.2.2.2.2.2.2.2
end
