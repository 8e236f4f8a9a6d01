/-! Constructors: worlds that grow, by lists of cells; at their ends the typed heap. -/
def σz : HS := (fun _ _ => 0, fun _ _ => 0)
abbrev PreC (D : va_G) (κ : KC) (ad : Nat → Nat) (ws0 : va_W) (sz : Nat) (U : State) : Prop := U.heap.size = sz ∧ va_P D classes ws0 U.heap ∧ va_K D classes (tyL κ) U ∧ va_D (fun _ => True) ws0 ∧ Zx ad (va_A ws0 sz) U
abbrev QC (D : va_G) (A : Nat → Prop) (Post : va_W → Prop) : Array Value → State → Outcome → State → Prop := va_Qv Post (fun (w : va_W) t => va_P D classes w t.heap ∧ va_D A w) A
abbrev MtC (l : Launch) (D : va_G) (κ : KC) (ad : Nat → Nat) (y : MethodName) (cc : ByteArray) (nL : Nat) (rm : Room) (As : List Value) (ws0 : va_W) (sz mc ms : Nat) (Post : va_W → Prop) : Prop := Met l y (Cond.code y cc nL none :: lg_tbl) rm (va_Pc As (PreC D κ ad ws0 sz)) (QC D (va_A ws0 sz) Post) mc ms (va_A ws0 sz)
def Cn (D : va_G) (κ : KC) (ad : Nat → Nat) (p : Program) (s : State) (m : MethodId) (args : Array Value) (meth : Method) (c : Code) (cc : ByteArray) (own : String) (nL : Nat) (A : Nat → Prop) : Prop :=
  p.tables.exec = Jvm.exec ∧ c.code = cc ∧ c.maxLocals = nL ∧ s.vm.findClass own = some m.cls ∧ (∀ w ∈ lg_tbl, w.before args s = true) ∧ va_K D classes (tyL κ) s ∧ Zx ad A s ∧ (own ≠ RL → meth.sig.returnType = none) ∧ meth.locks = false ∧ (own ≠ RL → meth.name = "<init>") ∧ ∀ q : Nat, s.heap.size ≤ q → A q
theorem PreC.blind {D : va_G} {κ : KC} {ad : Nat → Nat} {ws0 : va_W} {sz : Nat} {As : List Value} : FrameBlind (va_Pc As (PreC D κ ad ws0 sz)) := fun a U g mk h => ⟨h.1, h.2.1, h.2.2.1, va_K.moved (u := U) (U := U.calling g mk a) (Vm.Alike.refl U.vm) h.2.2.2.1, h.2.2.2.2.1, h.2.2.2.2.2.call⟩
theorem openC {l : Launch} {D : va_G} {κ : KC} {ad : Nat → Nat} {y : MethodName} {cc : ByteArray} {nL : Nat} {rm : Room} {As : List Value} {ws0 : va_W} {sz mc ms : Nat} {Post : va_W → Prop} (hy : plainName y.cls = true) (hyn : y.name = "<init>") (hlen : (lg_sl As).length ≤ nL) {la : List (Nat × Value)} (hla : lv_args 0 As = la)
    (body : ∀ (p : Program) (e : Env) (s : State) (m : MethodId) (below : List Frame) (meth : Method) (c : Code) (ls : Array Slot) (A : Nat → Prop), Cn D κ ad p s m As.toArray meth c cc y.cls nL A → va_P D classes ws0 s.heap → va_D A ws0 → va_S A s.heap s.heap [] → s.heap.size = sz → va_A ws0 sz = A → lv_has ls nL la → W p l e rm s m As.toArray below meth c s.heap [] 0 0 (MQ below (QC D A Post) As.toArray s mc ms A) (F0 m 0 ls [])) :
    MtC l D κ ad y cc nL rm As ws0 sz mc ms Post := by
  refine Met.ofW (cc := cc) (maxL := nL) (ret := none) hy rfl ?_
  intro p e s m args below meth c s₁ B hml hv
  obtain ⟨rfl, hsz, hP, hK, hD0, hZ⟩ := hv
  have hts := atoms_spec (ws := Cond.code y cc nL none :: lg_tbl) B.pre
  have hown : s.vm.findClass y.cls = some m.cls := findClass_of_methodNamed B.named
  have hin : meth.name = "<init>" := (name_of_methodNamed B.named B.method).1.trans hyn
  have hl := lv_entry As hlen
  rw [lg_entry_eq]
  subst hla
  subst hsz
  have hD := hD0.self (sz := s.heap.size)
  exact body p e s m below meth c _ _ ⟨B.exec, B.bytes, hml, hown, fun w hw => hts w (List.mem_cons_of_mem _ hw), hK, hZ, fun _ => B.returns, B.notSynchronized, fun _ => hin, fun q h => Or.inr h⟩ hP hD va_S.rf rfl rfl hl
section
variable {p : Program} {l : Launch} {e : Env} {R : Room} {s : State} {m : MethodId} {args : Array Value} {below : List Frame} {meth : Method} {c : Code} {H : Heap} {locs : List Loc} {cells slots : Nat} {Q : State → Prop}
variable {D : va_G} {ad : Nat → Nat} {κ : KC} {cc : ByteArray} {own : String} {nL : Nat} {A : Nat → Prop} {pc : Nat} {ls : Array Slot} {rest : List Value} {ws : va_W}
theorem n_obj (C : Cn D κ ad p s m args meth c cc own nL A) (hls : ls.size = nL) {index : Nat} (hlink : Cond.methodLink own index Lib.objectInit ∈ lg_tbl) (hin : Cond.instanceMethod Lib.objectInit ∈ lg_tbl) (hco : Cond.code Lib.objectInit ⟨#[0xb1]⟩ 1 none ∈ lg_tbl) {a : Nat} (hdg : decode cc pc = .ok (.invokespecial index, 3)) (hfr : 1 ≤ R.frames) (hlo : (rest.map fun v => v.category).sum + 12 ≤ R.locals)
    (kk : W p l e R s m args below meth c H locs cells slots Q (F0 m (pc + 3) ls rest)) : W p l e R s m args below meth c H locs cells slots Q (F0 m pc ls (.ref a :: rest)) :=
  W.objInit C.1 C.2.1 C.2.2.2.1 (C.2.2.2.2.1 _ hlink) (C.2.2.2.2.1 _ hin) (C.2.2.2.2.1 _ hco) rfl (hls.trans C.2.2.1.symm) rfl hdg hfr (by show 2 * 0 + _ + 12 ≤ _; omega) kk
theorem n_newI (C : Cn D κ ad p s m args meth c cc own nL A) (harr : Cond.arrayClass .int ∈ lg_tbl) (hP : va_P D classes ws H) (hD : va_D A ws) (hS : va_S A s.heap H locs) {n : Int32} {N : Nat} (hn : ¬ n < 0) (hN : n.toNatClampNeg = N) (hby : N * componentBytes .int ≤ 536870912) (hce : cells + 1 ≤ R.cells) (hsl : slots + N ≤ R.slots) (hdg : decode cc pc = .ok (.newarray .int, 2))
    (kk : ∀ (q : Nat) (H1 : Heap), va_P D classes (ws ++ [(q, .inl (κ.1, N, .inl (fun _ => 0)))]) H1 → va_D A (ws ++ [(q, .inl (κ.1, N, .inl (fun _ => 0)))]) → va_S A s.heap H1 locs → W p l e R s m args below meth c H1 locs (cells + 1) (slots + N) Q (F0 m (pc + 2) ls (.ref q :: rest))) : W p l e R s m args below meth c H locs cells slots Q (F0 m pc ls (.int n :: rest)) := by
  refine va_newa (atype := .int) (ty := .int) (a0 := (N, .inl (fun _ => 0))) C.1 C.2.1 (C.2.2.2.2.1 _ harr) rfl C.2.2.2.2.2.1 hP hD hS C.2.2.2.2.2.2.2.2.2.2 (fun _ => rfl) hn hN hby hce hsl hdg (fun q cA H1 hK1 hP1 hD1 hS1 => ?_)
  have e1 : cA = κ.1 := Option.some.inj ((hK1.2 4 (cA, .int) rfl).2.symm.trans (C.2.2.2.2.2.1.2 0 (κ.1, .int) rfl).2)
  subst e1
  exact kk q H1 hP1 hD1 hS1
theorem n_newB (C : Cn D κ ad p s m args meth c cc own nL A) (harr : Cond.arrayClass .byte ∈ lg_tbl) (hP : va_P D classes ws H) (hD : va_D A ws) (hS : va_S A s.heap H locs) {n : Int32} {N : Nat} (hn : ¬ n < 0) (hN : n.toNatClampNeg = N) (hby : N * componentBytes .byte ≤ 536870912) (hce : cells + 1 ≤ R.cells) (hsl : slots + N ≤ R.slots) (hdg : decode cc pc = .ok (.newarray .byte, 2))
    (kk : ∀ (q : Nat) (H1 : Heap), va_P D classes (ws ++ [(q, .inl (κ.2.1, N, .inl (fun _ => 0)))]) H1 → va_D A (ws ++ [(q, .inl (κ.2.1, N, .inl (fun _ => 0)))]) → va_S A s.heap H1 locs → W p l e R s m args below meth c H1 locs (cells + 1) (slots + N) Q (F0 m (pc + 2) ls (.ref q :: rest))) : W p l e R s m args below meth c H locs cells slots Q (F0 m pc ls (.int n :: rest)) := by
  refine va_newa (atype := .byte) (ty := .byte) (a0 := (N, .inl (fun _ => 0))) C.1 C.2.1 (C.2.2.2.2.1 _ harr) rfl C.2.2.2.2.2.1 hP hD hS C.2.2.2.2.2.2.2.2.2.2 (fun _ => rfl) hn hN hby hce hsl hdg (fun q cA H1 hK1 hP1 hD1 hS1 => ?_)
  have e1 : cA = κ.2.1 := Option.some.inj ((hK1.2 4 (cA, .byte) rfl).2.symm.trans (C.2.2.2.2.2.1.2 1 (κ.2.1, .byte) rfl).2)
  subst e1
  exact kk q H1 hP1 hD1 hS1
theorem n_newZ (C : Cn D κ ad p s m args meth c cc own nL A) (harr : Cond.arrayClass .boolean ∈ lg_tbl) (hP : va_P D classes ws H) (hD : va_D A ws) (hS : va_S A s.heap H locs) {n : Int32} {N : Nat} (hn : ¬ n < 0) (hN : n.toNatClampNeg = N) (hby : N * componentBytes .boolean ≤ 536870912) (hce : cells + 1 ≤ R.cells) (hsl : slots + N ≤ R.slots) (hdg : decode cc pc = .ok (.newarray .boolean, 2))
    (kk : ∀ (q : Nat) (H1 : Heap), va_P D classes (ws ++ [(q, .inl (κ.2.2.1, N, .inl (fun _ => 0)))]) H1 → va_D A (ws ++ [(q, .inl (κ.2.2.1, N, .inl (fun _ => 0)))]) → va_S A s.heap H1 locs → W p l e R s m args below meth c H1 locs (cells + 1) (slots + N) Q (F0 m (pc + 2) ls (.ref q :: rest))) : W p l e R s m args below meth c H locs cells slots Q (F0 m pc ls (.int n :: rest)) := by
  refine va_newa (atype := .boolean) (ty := .boolean) (a0 := (N, .inl (fun _ => 0))) C.1 C.2.1 (C.2.2.2.2.1 _ harr) rfl C.2.2.2.2.2.1 hP hD hS C.2.2.2.2.2.2.2.2.2.2 (fun _ => rfl) hn hN hby hce hsl hdg (fun q cA H1 hK1 hP1 hD1 hS1 => ?_)
  have e1 : cA = κ.2.2.1 := Option.some.inj ((hK1.2 4 (cA, .boolean) rfl).2.symm.trans (C.2.2.2.2.2.1.2 2 (κ.2.2.1, .boolean) rfl).2)
  subst e1
  exact kk q H1 hP1 hD1 hS1
theorem n_newJ (C : Cn D κ ad p s m args meth c cc own nL A) (harr : Cond.arrayClass .long ∈ lg_tbl) (hP : va_P D classes ws H) (hD : va_D A ws) (hS : va_S A s.heap H locs) {n : Int32} {N : Nat} (hn : ¬ n < 0) (hN : n.toNatClampNeg = N) (hby : N * componentBytes .long ≤ 536870912) (hce : cells + 1 ≤ R.cells) (hsl : slots + N ≤ R.slots) (hdg : decode cc pc = .ok (.newarray .long, 2))
    (kk : ∀ (q : Nat) (H1 : Heap), va_P D classes (ws ++ [(q, .inl (κ.2.2.2, N, .inr (.inl (fun _ => 0))))]) H1 → va_D A (ws ++ [(q, .inl (κ.2.2.2, N, .inr (.inl (fun _ => 0))))]) → va_S A s.heap H1 locs → W p l e R s m args below meth c H1 locs (cells + 1) (slots + N) Q (F0 m (pc + 2) ls (.ref q :: rest))) : W p l e R s m args below meth c H locs cells slots Q (F0 m pc ls (.int n :: rest)) := by
  refine va_newa (atype := .long) (ty := .long) (a0 := (N, .inr (.inl (fun _ => 0)))) C.1 C.2.1 (C.2.2.2.2.1 _ harr) rfl C.2.2.2.2.2.1 hP hD hS C.2.2.2.2.2.2.2.2.2.2 (fun _ => rfl) hn hN hby hce hsl hdg (fun q cA H1 hK1 hP1 hD1 hS1 => ?_)
  have e1 : cA = κ.2.2.2 := Option.some.inj ((hK1.2 4 (cA, .long) rfl).2.symm.trans (C.2.2.2.2.2.1.2 3 (κ.2.2.2, .long) rfl).2)
  subst e1
  exact kk q H1 hP1 hD1 hS1
/-- what the tables say of a final field's putfield, of a new -/
def fq (own : String) (index ci k : Nat) (ty : FieldType) : Prop := ∃ (T : u_T) (N : Nat) (ty0 : Nat → FieldType), classes[ci]? = some (own, T, N) ∧ (∀ w ∈ u_ws own T N, w ∈ lg_tbl) ∧ k < N ∧ Cond.fieldLink own index own (T k).2.1 (T k).2.2.1 ∈ lg_tbl ∧ (T k).1 = own ∧ (∀ j, j < N → parseFieldDescriptor (T j).2.2.1 = some (ty0 j)) ∧ (∀ a, a < N → ∀ b, b < N → a ≠ b → (T a).2.1 ≠ (T b).2.1) ∧ (T k).2.2.2 = true ∧ parseFieldDescriptor (T k).2.2.1 = some ty
theorem n_putR (C : Cn D κ ad p s m args meth c cc own nL A) (hne : own ≠ RL) (hP : va_P D classes ws H) (hD : va_D A ws) (hS : va_S A s.heap H locs) (q0 : Nat) {a ci k index q : Nat} {fs : List Value} (he : ws[q0]? = some (a, .inr (ci, fs))) {ty : FieldType} (hf : fq own index ci k ty) (hn : narrow ty (.ref q) = .ref q) (hft : fits ty (.ref q) = true) (hl : k < fs.length) (hdg : decode cc pc = .ok (.putfield index, 3))
    (kk : ∀ (H1 : Heap) (locs1 : List Loc), va_P D classes (ws.set q0 (a, .inr (ci, fs.set k (.ref q)))) H1 → va_D A (ws.set q0 (a, .inr (ci, fs.set k (.ref q)))) → va_S A s.heap H1 locs1 → W p l e R s m args below meth c H1 locs1 cells slots Q (F0 m (pc + 3) ls rest)) : W p l e R s m args below meth c H locs cells slots Q (F0 m pc ls (.ref q :: .ref a :: rest)) := by
  obtain ⟨hx, hb, hml, hown, hts, hK, hZ, hr, hlk, hin, hA⟩ := C
  obtain ⟨T, N, ty0, h1, h2, h3, h4, h5, h6, h7, h8, h9⟩ := hf
  exact va_putF (D := D) (tys := tyL κ) (ref := own) hx hb hts h2 ty0 h6 h7 hown hK hP hD hS q0 he h1 k h3 (hts _ h4) (fun x h9 => by rw [h5] at h9; exact h9) h8 (hin hne) h5 h9 hn hft hl hdg kk
theorem n_putI (C : Cn D κ ad p s m args meth c cc own nL A) (hP : va_P D classes ws H) (hD : va_D A ws) (hS : va_S A s.heap H locs) (q0 : Nat) {a ci k index : Nat} {v : Int32} {fs : List Value} (he : ws[q0]? = some (a, .inr (ci, fs))) (hf : fp own index ci k .int) (hl : k < fs.length) (hdg : decode cc pc = .ok (.putfield index, 3))
    (kk : ∀ (H1 : Heap) (locs1 : List Loc), va_P D classes (ws.set q0 (a, .inr (ci, fs.set k (.int v)))) H1 → va_D A (ws.set q0 (a, .inr (ci, fs.set k (.int v)))) → va_S A s.heap H1 locs1 → W p l e R s m args below meth c H1 locs1 cells slots Q (F0 m (pc + 3) ls rest)) : W p l e R s m args below meth c H locs cells slots Q (F0 m pc ls (.int v :: .ref a :: rest)) := by
  obtain ⟨hx, hb, hml, hown, hts, hK, hZ, hr, hlk, hin, hA⟩ := C
  obtain ⟨Cn', T, N, ty0, h1, h2, h3, h4, h5, h6, h7, h8, h9⟩ := hf
  exact va_put (D := D) (tys := tyL κ) (ref := Cn') hx hb hts h2 ty0 h6 h7 hown hK hP hD hS q0 he h1 k h3 (hts _ h4) (fun x h9 => by rw [h5] at h9; exact h9) h8 h9 rfl rfl hl hdg kk
theorem n_get (C : Cn D κ ad p s m args meth c cc own nL A) (hP : va_P D classes ws H) (q0 : Nat) {a ci k index : Nat} {fs : List Value} (he : ws[q0]? = some (a, .inr (ci, fs))) (hf : fl own index ci k) {v : Value} (hv : fs[k]? = some v) (hdg : decode cc pc = .ok (.getfield index, 3))
    (kk : W p l e R s m args below meth c H locs cells slots Q (F0 m (pc + 3) ls (v :: rest))) : W p l e R s m args below meth c H locs cells slots Q (F0 m pc ls (.ref a :: rest)) := by
  obtain ⟨hx, hb, hml, hown, hts, hK, hZ, hr, hlk, hin, hA⟩ := C
  obtain ⟨Cn', T, N, h1, h2, h3, h4, h5⟩ := hf
  exact va_get (D := D) (tys := tyL κ) (ref := Cn') hx hb hts h2 hown hK hP q0 he h1 k h3 (hts _ h4) (fun x h9 => by rw [h5] at h9; exact h9) hv hdg kk
/-- a new row, and its place in the object that is being made -/
theorem n_stI (C : Cn D κ ad p s m args meth c cc own nL A) (hne : own ≠ RL) (harr : Cond.arrayClass .int ∈ lg_tbl) {h0 ci k index : Nat} {fs : List Value} {w : va_W} (hP : va_P D classes ((h0, .inr (ci, fs)) :: w) H) (hD : va_D A ((h0, .inr (ci, fs)) :: w)) (hS : va_S A s.heap H locs) (hf : fq own index ci k (.array .int)) {F : Nat} (hF : fs.length = F) (hk : k < F) {n : Int32} {N : Nat} (hn : ¬ n < 0) (hN : n.toNatClampNeg = N) (hby : N * componentBytes .int ≤ 536870912) (hce : cells + 1 ≤ R.cells) (hsl : slots + N ≤ R.slots) (hd1 : decode cc pc = .ok (.newarray .int, 2)) (hd2 : decode cc (pc + 2) = .ok (.putfield index, 3))
    (kk : ∀ (q : Nat) (H1 : Heap) (locs1 : List Loc), va_P D classes ((h0, .inr (ci, fs.set k (.ref q))) :: (w ++ [(q, .inl (κ.1, N, .inl (fun _ => 0)))])) H1 → va_D A ((h0, .inr (ci, fs.set k (.ref q))) :: (w ++ [(q, .inl (κ.1, N, .inl (fun _ => 0)))])) → va_S A s.heap H1 locs1 → W p l e R s m args below meth c H1 locs1 (cells + 1) (slots + N) Q (F0 m (pc + 5) ls rest)) : W p l e R s m args below meth c H locs cells slots Q (F0 m pc ls (.int n :: .ref h0 :: rest)) := by
  refine n_newI C harr hP hD hS hn hN hby hce hsl hd1 (fun q H0 hP hD hS => ?_)
  replace hP : va_P D classes ((h0, .inr (ci, fs)) :: (w ++ [(q, .inl (κ.1, N, .inl (fun _ => 0)))]) : va_W) H0 := hP
  replace hD : va_D A ((h0, .inr (ci, fs)) :: (w ++ [(q, .inl (κ.1, N, .inl (fun _ => 0)))]) : va_W) := hD
  refine n_putR C hne hP hD hS 0 rfl hf rfl rfl (by rw [hF]; exact hk) hd2 (fun H1 locs1 hP hD hS => ?_)
  replace hP : va_P D classes ((h0, .inr (ci, fs.set k (.ref q))) :: (w ++ [(q, .inl (κ.1, N, .inl (fun _ => 0)))]) : va_W) H1 := hP
  replace hD : va_D A ((h0, .inr (ci, fs.set k (.ref q))) :: (w ++ [(q, .inl (κ.1, N, .inl (fun _ => 0)))]) : va_W) := hD
  exact kk q H1 locs1 hP hD hS
/-- a new row, and its place in the object that is being made -/
theorem n_stB (C : Cn D κ ad p s m args meth c cc own nL A) (hne : own ≠ RL) (harr : Cond.arrayClass .byte ∈ lg_tbl) {h0 ci k index : Nat} {fs : List Value} {w : va_W} (hP : va_P D classes ((h0, .inr (ci, fs)) :: w) H) (hD : va_D A ((h0, .inr (ci, fs)) :: w)) (hS : va_S A s.heap H locs) (hf : fq own index ci k (.array .byte)) {F : Nat} (hF : fs.length = F) (hk : k < F) {n : Int32} {N : Nat} (hn : ¬ n < 0) (hN : n.toNatClampNeg = N) (hby : N * componentBytes .byte ≤ 536870912) (hce : cells + 1 ≤ R.cells) (hsl : slots + N ≤ R.slots) (hd1 : decode cc pc = .ok (.newarray .byte, 2)) (hd2 : decode cc (pc + 2) = .ok (.putfield index, 3))
    (kk : ∀ (q : Nat) (H1 : Heap) (locs1 : List Loc), va_P D classes ((h0, .inr (ci, fs.set k (.ref q))) :: (w ++ [(q, .inl (κ.2.1, N, .inl (fun _ => 0)))])) H1 → va_D A ((h0, .inr (ci, fs.set k (.ref q))) :: (w ++ [(q, .inl (κ.2.1, N, .inl (fun _ => 0)))])) → va_S A s.heap H1 locs1 → W p l e R s m args below meth c H1 locs1 (cells + 1) (slots + N) Q (F0 m (pc + 5) ls rest)) : W p l e R s m args below meth c H locs cells slots Q (F0 m pc ls (.int n :: .ref h0 :: rest)) := by
  refine n_newB C harr hP hD hS hn hN hby hce hsl hd1 (fun q H0 hP hD hS => ?_)
  replace hP : va_P D classes ((h0, .inr (ci, fs)) :: (w ++ [(q, .inl (κ.2.1, N, .inl (fun _ => 0)))]) : va_W) H0 := hP
  replace hD : va_D A ((h0, .inr (ci, fs)) :: (w ++ [(q, .inl (κ.2.1, N, .inl (fun _ => 0)))]) : va_W) := hD
  refine n_putR C hne hP hD hS 0 rfl hf rfl rfl (by rw [hF]; exact hk) hd2 (fun H1 locs1 hP hD hS => ?_)
  replace hP : va_P D classes ((h0, .inr (ci, fs.set k (.ref q))) :: (w ++ [(q, .inl (κ.2.1, N, .inl (fun _ => 0)))]) : va_W) H1 := hP
  replace hD : va_D A ((h0, .inr (ci, fs.set k (.ref q))) :: (w ++ [(q, .inl (κ.2.1, N, .inl (fun _ => 0)))]) : va_W) := hD
  exact kk q H1 locs1 hP hD hS
/-- a new row, and its place in the object that is being made -/
theorem n_stZ (C : Cn D κ ad p s m args meth c cc own nL A) (hne : own ≠ RL) (harr : Cond.arrayClass .boolean ∈ lg_tbl) {h0 ci k index : Nat} {fs : List Value} {w : va_W} (hP : va_P D classes ((h0, .inr (ci, fs)) :: w) H) (hD : va_D A ((h0, .inr (ci, fs)) :: w)) (hS : va_S A s.heap H locs) (hf : fq own index ci k (.array .boolean)) {F : Nat} (hF : fs.length = F) (hk : k < F) {n : Int32} {N : Nat} (hn : ¬ n < 0) (hN : n.toNatClampNeg = N) (hby : N * componentBytes .boolean ≤ 536870912) (hce : cells + 1 ≤ R.cells) (hsl : slots + N ≤ R.slots) (hd1 : decode cc pc = .ok (.newarray .boolean, 2)) (hd2 : decode cc (pc + 2) = .ok (.putfield index, 3))
    (kk : ∀ (q : Nat) (H1 : Heap) (locs1 : List Loc), va_P D classes ((h0, .inr (ci, fs.set k (.ref q))) :: (w ++ [(q, .inl (κ.2.2.1, N, .inl (fun _ => 0)))])) H1 → va_D A ((h0, .inr (ci, fs.set k (.ref q))) :: (w ++ [(q, .inl (κ.2.2.1, N, .inl (fun _ => 0)))])) → va_S A s.heap H1 locs1 → W p l e R s m args below meth c H1 locs1 (cells + 1) (slots + N) Q (F0 m (pc + 5) ls rest)) : W p l e R s m args below meth c H locs cells slots Q (F0 m pc ls (.int n :: .ref h0 :: rest)) := by
  refine n_newZ C harr hP hD hS hn hN hby hce hsl hd1 (fun q H0 hP hD hS => ?_)
  replace hP : va_P D classes ((h0, .inr (ci, fs)) :: (w ++ [(q, .inl (κ.2.2.1, N, .inl (fun _ => 0)))]) : va_W) H0 := hP
  replace hD : va_D A ((h0, .inr (ci, fs)) :: (w ++ [(q, .inl (κ.2.2.1, N, .inl (fun _ => 0)))]) : va_W) := hD
  refine n_putR C hne hP hD hS 0 rfl hf rfl rfl (by rw [hF]; exact hk) hd2 (fun H1 locs1 hP hD hS => ?_)
  replace hP : va_P D classes ((h0, .inr (ci, fs.set k (.ref q))) :: (w ++ [(q, .inl (κ.2.2.1, N, .inl (fun _ => 0)))]) : va_W) H1 := hP
  replace hD : va_D A ((h0, .inr (ci, fs.set k (.ref q))) :: (w ++ [(q, .inl (κ.2.2.1, N, .inl (fun _ => 0)))]) : va_W) := hD
  exact kk q H1 locs1 hP hD hS
/-- a new row, and its place in the object that is being made -/
theorem n_stJ (C : Cn D κ ad p s m args meth c cc own nL A) (hne : own ≠ RL) (harr : Cond.arrayClass .long ∈ lg_tbl) {h0 ci k index : Nat} {fs : List Value} {w : va_W} (hP : va_P D classes ((h0, .inr (ci, fs)) :: w) H) (hD : va_D A ((h0, .inr (ci, fs)) :: w)) (hS : va_S A s.heap H locs) (hf : fq own index ci k (.array .long)) {F : Nat} (hF : fs.length = F) (hk : k < F) {n : Int32} {N : Nat} (hn : ¬ n < 0) (hN : n.toNatClampNeg = N) (hby : N * componentBytes .long ≤ 536870912) (hce : cells + 1 ≤ R.cells) (hsl : slots + N ≤ R.slots) (hd1 : decode cc pc = .ok (.newarray .long, 2)) (hd2 : decode cc (pc + 2) = .ok (.putfield index, 3))
    (kk : ∀ (q : Nat) (H1 : Heap) (locs1 : List Loc), va_P D classes ((h0, .inr (ci, fs.set k (.ref q))) :: (w ++ [(q, .inl (κ.2.2.2, N, .inr (.inl (fun _ => 0))))])) H1 → va_D A ((h0, .inr (ci, fs.set k (.ref q))) :: (w ++ [(q, .inl (κ.2.2.2, N, .inr (.inl (fun _ => 0))))])) → va_S A s.heap H1 locs1 → W p l e R s m args below meth c H1 locs1 (cells + 1) (slots + N) Q (F0 m (pc + 5) ls rest)) : W p l e R s m args below meth c H locs cells slots Q (F0 m pc ls (.int n :: .ref h0 :: rest)) := by
  refine n_newJ C harr hP hD hS hn hN hby hce hsl hd1 (fun q H0 hP hD hS => ?_)
  replace hP : va_P D classes ((h0, .inr (ci, fs)) :: (w ++ [(q, .inl (κ.2.2.2, N, .inr (.inl (fun _ => 0))))]) : va_W) H0 := hP
  replace hD : va_D A ((h0, .inr (ci, fs)) :: (w ++ [(q, .inl (κ.2.2.2, N, .inr (.inl (fun _ => 0))))]) : va_W) := hD
  refine n_putR C hne hP hD hS 0 rfl hf rfl rfl (by rw [hF]; exact hk) hd2 (fun H1 locs1 hP hD hS => ?_)
  replace hP : va_P D classes ((h0, .inr (ci, fs.set k (.ref q))) :: (w ++ [(q, .inl (κ.2.2.2, N, .inr (.inl (fun _ => 0))))]) : va_W) H1 := hP
  replace hD : va_D A ((h0, .inr (ci, fs.set k (.ref q))) :: (w ++ [(q, .inl (κ.2.2.2, N, .inr (.inl (fun _ => 0))))]) : va_W) := hD
  exact kk q H1 locs1 hP hD hS
/-- what the tables say of a new object's class -/
def nw (own : String) (index ci : Nat) (fs : List Value) : Prop := ∃ (Cn' : String) (T : u_T) (ty0 : Nat → FieldType), classes[ci]? = some (Cn', T, fs.length) ∧ (∀ w ∈ u_ws Cn' T fs.length, w ∈ lg_tbl) ∧ (∀ j, j < fs.length → parseFieldDescriptor (T j).2.2.1 = some (ty0 j)) ∧ Cond.classLink own index Cn' ∈ lg_tbl ∧ Cond.instantiable Cn' fs.length ∈ lg_tbl ∧ Cond.initialized Cn' ∈ lg_tbl ∧ ∀ j, j < fs.length → defaultValue (ty0 j) = vp_V fs j
theorem n_new (C : Cn D κ ad p s m args meth c cc own nL A) (hP : va_P D classes ws H) (hD : va_D A ws) (hS : va_S A s.heap H locs) {index ci : Nat} {fs : List Value} (hw : nw own index ci fs) (hce : cells + 1 ≤ R.cells) (hsl : slots + fs.length ≤ R.slots) (hdg : decode cc pc = .ok (.new index, 3))
    (kk : ∀ (q : Nat) (H1 : Heap), va_P D classes (ws ++ [(q, .inr (ci, fs))]) H1 → va_D A (ws ++ [(q, .inr (ci, fs))]) → va_S A s.heap H1 locs → W p l e R s m args below meth c H1 locs (cells + 1) (slots + fs.length) Q (F0 m (pc + 3) ls (.ref q :: rest))) : W p l e R s m args below meth c H locs cells slots Q (F0 m pc ls rest) := by
  obtain ⟨hx, hb, hml, hown, hts, hK, hZ, hr, hlk, hin, hA⟩ := C
  obtain ⟨Cn', T, ty0, h1, h2, h3, h4, h5, h6, h7⟩ := hw
  exact va_new (D := D) (tys := tyL κ) hx hb hts h2 ty0 h3 hown (hts _ h4) (hts _ h5) (hts _ h6) hK hP hD hS hA h1 h7 hce hsl hdg kk
/-- a call of a constructor -/
def cI (own : String) (index : Nat) (y : MethodName) (bytes : ByteArray) (maxL k : Nat) : Prop := (Cond.methodLink own index y ∈ lg_tbl ∨ Cond.methodLinkNest own index y RX11 ∈ nestW) ∧ (Cond.instanceMethod y ∈ lg_tbl ∧ Cond.initialized y.cls ∈ lg_tbl ∧ Cond.code y bytes maxL none ∈ lg_tbl ∧ y.name = "<init>") ∧ y.cls ≠ "java/lang/invoke/MethodHandle" ∧ y.cls ≠ "java/lang/invoke/VarHandle" ∧ (parseMethodDescriptor y.desc).map (fun d => d.parameters.length) = some k
theorem n_callI {y : MethodName} {bytes : ByteArray} {maxL index k mc ms b : Nat} {rm : Room} {As : List Value} {wc wr : va_W} {Post : va_W → Prop} (C : Cn D κ ad p s m args meth c cc own nL A) (hP : va_P D classes ws H) (hD : va_D A ws) (hS : va_S A s.heap H locs) (hls : ls.size = nL) (ci : cI own index y bytes maxL k) (isC isR : List Nat) (hC : isC.map (fun i => ws[i]?) = wc.map some) (hR : isR.map (fun i => ws[i]?) = wr.map some) (hnC : va_nd isC = true) (hnR : va_nd isR = true) (hdis : ∀ i ∈ isR, i ∉ isC)
    (hM : MtC l D κ ad y bytes maxL rm (.ref b :: As) wc H.size mc ms Post) (hr0 : rm.cells = mc ∧ rm.slots = ms) (hRm : rm.frames + 1 ≤ R.frames ∧ 8 + (maxL + 11) + rm.locals ≤ R.locals) (hk : As.length = k) {st : List Value} (hst : st = As.reverse ++ .ref b :: rest) (hrm : (rest.map fun v => v.category).sum ≤ 8) (hdg : decode cc pc = .ok (.invokespecial index, 3)) (hcs : cells + mc ≤ R.cells ∧ slots + ms ≤ R.slots)
    (kk : ∀ (w : va_W) (H1 : Heap) (locs1 : List Loc), Post w → va_P D classes (wr ++ w) H1 → va_D A (wr ++ w) → va_S A s.heap H1 locs1 → W p l e R s m args below meth c H1 locs1 (cells + mc) (slots + ms) Q (F0 m (pc + 3) ls rest)) : W p l e R s m args below meth c H locs cells slots Q (F0 m pc ls st) := by
  obtain ⟨hx, hb, hml, hown, hts, hK, hZ, hr, hlk, hin, hA⟩ := C
  obtain ⟨hl, ⟨l1, l2, l3, l4⟩, l5⟩ := ci
  have hFc := va_free (wc := wc) hD hS hA isC hC
  have hPc : va_P D classes wc H := by
    refine hP.sub isC ?_
    have h1 : (isC.map (fun i => ws[i]?)).filterMap id = (wc.map some).filterMap id := congrArg _ hC
    simpa [List.filterMap_map, Function.comp_def] using h1
  have hDc := hD.sub isC hnC hC
  have hpre : PreS s H (va_Pc (.ref b :: As) (PreC D κ ad wc H.size)) (.ref b :: As) := ⟨PreC.blind, fun U hU hW => ⟨rfl, by rw [hU], by rw [hU]; exact hPc, va_K.moved hW.alike hK, hDc.weaken (fun _ _ _ _ => trivial), (hZ.go hW (fun a h1 h2 => by rw [hU]; exact hS.2.1 a h1 h2)).narrow hFc⟩⟩
  have hrun : va_Run p l e R s m args below meth c H locs cells slots mc ms (F0 m pc ls st) rest (QC D (va_A wc H.size) Post (Value.ref b :: As).toArray) (va_A wc H.size) := by
    rcases hl with hl | hl
    · exact va_runI (Ts := lg_tbl) (ws := Cond.code y bytes maxL none :: lg_tbl) (rm := rm) ⟨hx, hb, hml, hown, hts⟩ hM (cwI k hts (lg_code l3) rfl hr0.1 hr0.2 (hts _ l2) (hts _ hl) (hts _ l1) l4 l5 hRm) hpre rfl hk hls hst (lv_room hrm) hdg hcs
    · exact va_runIN (Ts := lg_tbl) (ws := Cond.code y bytes maxL none :: lg_tbl) (rm := rm) ⟨hx, hb, hml, hown, hts⟩ hM ⟨va_cnB k hts (lg_code l3) rfl hr0.1 hr0.2 (hZ.1 _ hl) (hts _ l2) l5 hRm, l4, hts _ l1⟩ hpre rfl hk hls hst (lv_room hrm) hdg hcs
  refine va_callv hrun hS (fun q _ h => hFc q h) hFc (fun w t H1 locs1 ht hvm hw hB hz1 hk1 hS1 => ?_)
  obtain ⟨hP1, hD1⟩ := hB
  rw [ht] at hP1
  obtain ⟨hP2, hD2⟩ := va_join (wr := wr) (w1 := w) hP hD isC isR hC hR hnR hdis hk1 hFc hP1 hD1
  exact kk w H1 locs1 hw hP2 hD2 hS1
theorem lw_isR (w z : va_W) : (List.range w.length).map (fun i => (w ++ z)[i]?) = w.map some := by
  apply List.ext_getElem?
  intro i
  by_cases hi : i < w.length
  · rw [List.getElem?_map, List.getElem?_range hi, List.getElem?_map, Option.map_some, List.getElem?_append_left hi]
    rw [List.getElem?_eq_getElem hi]
    rfl
  · rw [List.getElem?_eq_none (by simp; omega), List.getElem?_eq_none (by simp; omega)]
theorem nd_range (n : Nat) : va_nd (List.range n) = true := by
  suffices h : ∀ (l : List Nat), l.Nodup → va_nd l = true from h _ List.nodup_range
  intro l
  induction l with
  | nil => intro _; rfl
  | cons a l ih =>
    intro h
    have h1 := List.nodup_cons.mp h
    have h2 := ih h1.2
    simp [va_nd, h1.1, h2]
/-- a call of a constructor on the cell that came last: the others stay, its new cells come behind them -/
theorem n_callL {y : MethodName} {bytes : ByteArray} {maxL index k mc ms b : Nat} {rm : Room} {As : List Value} {e0 : va_E} {wr : va_W} {Post : va_W → Prop} (C : Cn D κ ad p s m args meth c cc own nL A) (hP : va_P D classes (wr ++ [(b, e0)]) H) (hD : va_D A (wr ++ [(b, e0)])) (hS : va_S A s.heap H locs) (hls : ls.size = nL) (ci : cI own index y bytes maxL k)
    (hM : MtC l D κ ad y bytes maxL rm (.ref b :: As) [(b, e0)] H.size mc ms Post) (hr0 : rm.cells = mc ∧ rm.slots = ms) (hRm : rm.frames + 1 ≤ R.frames ∧ 8 + (maxL + 11) + rm.locals ≤ R.locals) (hk : As.length = k) {st : List Value} (hst : st = As.reverse ++ .ref b :: rest) (hrm : (rest.map fun v => v.category).sum ≤ 8) (hdg : decode cc pc = .ok (.invokespecial index, 3)) (hcs : cells + mc ≤ R.cells ∧ slots + ms ≤ R.slots)
    (kk : ∀ (w : va_W) (H1 : Heap) (locs1 : List Loc), Post w → va_P D classes (wr ++ w) H1 → va_D A (wr ++ w) → va_S A s.heap H1 locs1 → W p l e R s m args below meth c H1 locs1 (cells + mc) (slots + ms) Q (F0 m (pc + 3) ls rest)) : W p l e R s m args below meth c H locs cells slots Q (F0 m pc ls st) := by
  refine n_callI (wr := wr) C hP hD hS hls ci [wr.length] (List.range wr.length) ?_ (lw_isR wr _) rfl (nd_range _) ?_ hM hr0 hRm hk hst hrm hdg hcs kk
  · rw [List.map_cons, List.map_nil, List.getElem?_append_right (Nat.le_refl _), Nat.sub_self]
    rfl
  · intro i hi hc
    have h1 := List.mem_range.mp hi
    simp at hc
    omega
/-- a constructor's end -/
theorem n_ret {Post : va_W → Prop} {w : va_W} (C : Cn D κ ad p s m args meth c cc own nL A) (hne : own ≠ RL) (hP : va_P D classes w H) (hD : va_D A w) (hS : va_S A s.heap H locs) (hw : Post w) (hdg : decode cc pc = .ok (.return_, 1)) : W p l e R s m args below meth c H locs cells slots (MQ below (QC D A Post) args s cells slots A) (F0 m pc ls []) :=
  W.vret C.1 C.2.1 (C.2.2.2.2.2.2.2.1 hne) (fun t ht hW => ⟨⟨w, rfl, hw, by show va_P _ _ _ t.heap; rw [ht]; exact hP, hD⟩, hS.F ht⟩) hS.2.2 hdg C.2.2.2.2.2.2.2.2.1
/-- from the list of cells to the typed heap: the context, the heap -/
theorem n_Cx {n : Nat} {ad' : Nat → Nat} (C : Cn D κ ad p s m args meth c cc own nL A) (hne : own ≠ RL) (hi : inj n ad') (he : ∀ i, 100 ≤ i → i ≤ 300 → ad' i = ad i) (hsub : ∀ q, AX n ad' q → A q) : Cx n D ad' κ p s m args meth c cc own nL none :=
  ⟨C.1, C.2.1, C.2.2.1, C.2.2.2.1, C.2.2.2.2.1, C.2.2.2.2.2.1, hi, (C.2.2.2.2.2.2.1.narrow hsub).ads he, C.2.2.2.2.2.2.2.1 hne, C.2.2.2.2.2.2.2.2.1⟩
end
/-- addresses by a list, the rest as before, 400 the bound -/
def adL (as : List Nat) (ad : Nat → Nat) (sz : Nat) : Nat → Nat := fun i => if i < 100 then as.getD i 0 else if i = 400 then sz else ad i
