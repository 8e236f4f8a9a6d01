/-! Rows over the typed heap: an instruction that reads or writes cells, a call, a return. -/
/-- what the tables say of one getfield's place: the class of its object (by number) and the field's place -/
def fl (own : String) (index ci k : Nat) : Prop := ∃ (Cn : String) (T : u_T) (N : Nat), classes[ci]? = some (Cn, T, N) ∧ (∀ w ∈ u_ws Cn T N, w ∈ lg_tbl) ∧ k < N ∧ Cond.fieldLink own index Cn (T k).2.1 (T k).2.2.1 ∈ lg_tbl ∧ (T k).1 = Cn
/-- likewise of a putfield's, with the field's type -/
def fp (own : String) (index ci k : Nat) (ty : FieldType) : Prop := ∃ (Cn : String) (T : u_T) (N : Nat) (ty0 : Nat → FieldType), classes[ci]? = some (Cn, T, N) ∧ (∀ w ∈ u_ws Cn T N, w ∈ lg_tbl) ∧ k < N ∧ Cond.fieldLink own index Cn (T k).2.1 (T k).2.2.1 ∈ lg_tbl ∧ (T k).1 = Cn ∧ (∀ j, j < N → parseFieldDescriptor (T j).2.2.1 = some (ty0 j)) ∧ (∀ a, a < N → ∀ b, b < N → a ≠ b → (T a).2.1 ≠ (T b).2.1) ∧ (T k).2.2.2 = false ∧ parseFieldDescriptor (T k).2.2.1 = some ty
section
variable {p : Program} {l : Launch} {e : Env} {R : Room} {s : State} {m : MethodId} {args : Array Value} {below : List Frame} {meth : Method} {c : Code} {H : Heap} {locs : List Loc} {cells slots : Nat} {Q : State → Prop}
variable {n : Nat} {ce : CE} {D : va_G} {ad : Nat → Nat} {κ : KC} {cc : ByteArray} {own : String} {nL : Nat} {ret : Option FieldType} {pc : Nat} {ls : Array Slot} {rest : List Value} {σ : HS}
theorem lv_eqi {x y : Int32} (h : y = x) (k : W p l e R s m args below meth c H locs cells slots Q (F0 m pc ls (.int y :: rest))) : W p l e R s m args below meth c H locs cells slots Q (F0 m pc ls (.int x :: rest)) := by
  subst h; exact k
theorem lv_eql {x y : Int64} (h : y = x) (k : W p l e R s m args below meth c H locs cells slots Q (F0 m pc ls (.long y :: rest))) : W p l e R s m args below meth c H locs cells slots Q (F0 m pc ls (.long x :: rest)) := by
  subst h; exact k
theorem g_get (C : Cx n D ad κ p s m args meth c cc own nL ret) (hH : Hd n ce D ad κ s σ H locs) (h : Nat) (hh : h < n) {ci k index : Nat} {fs : List Value} (hce : ce ad κ (σ.1 h) (σ.2 h) h = .inr (ci, fs)) (hf : fl own index ci k) {v : Value} (hv : fs[k]? = some v) (hdg : decode cc pc = .ok (.getfield index, 3))
    (kk : W p l e R s m args below meth c H locs cells slots Q (F0 m (pc + 3) ls (v :: rest))) : W p l e R s m args below meth c H locs cells slots Q (F0 m pc ls (.ref (ad h) :: rest)) := by
  obtain ⟨hx, hb, hml, hown, hts, hK, hi, hZ, hr, hlk⟩ := C
  obtain ⟨Cn, T, N, h1, h2, h3, h4, h5⟩ := hf
  exact va_get (D := D) (tys := tyL κ) (ws := wG n ce ad κ σ) (ref := Cn) hx hb hts h2 hown hK hH.1 h (by rw [wG_at hh, hce]) h1 k h3 (hts _ h4) (fun x h9 => by rw [h5] at h9; exact h9) hv hdg kk
theorem g_putI (C : Cx n D ad κ p s m args meth c cc own nL ret) (hH : Hd n ce D ad κ s σ H locs) (h : Nat) (hh : h < n) {ci k index : Nat} {fs : List Value} (hce : ce ad κ (σ.1 h) (σ.2 h) h = .inr (ci, fs)) {ty : FieldType} (hf : fp own index ci k ty) {v : Int32} (hn : narrow ty (.int v) = .int v) (hft : fits ty (.int v) = true) (hl : k < fs.length) (hce' : ce ad κ (upd (σ.1 h) k v) (σ.2 h) h = .inr (ci, fs.set k (.int v))) (hdg : decode cc pc = .ok (.putfield index, 3))
    (kk : ∀ (H1 : Heap) (locs1 : List Loc), Hd n ce D ad κ s (pI σ h k v) H1 locs1 → W p l e R s m args below meth c H1 locs1 cells slots Q (F0 m (pc + 3) ls rest)) : W p l e R s m args below meth c H locs cells slots Q (F0 m pc ls (.int v :: .ref (ad h) :: rest)) := by
  obtain ⟨hx, hb, hml, hown, hts, hK, hi, hZ, hr, hlk⟩ := C
  obtain ⟨Cn, T, N, ty0, h1, h2, h3, h4, h5, h6, h7, h8, h9⟩ := hf
  refine va_put (D := D) (tys := tyL κ) (ws := wG n ce ad κ σ) (ref := Cn) hx hb hts h2 ty0 h6 h7 hown hK hH.1 (wG_D hi) hH.2 h (by rw [wG_at hh, hce]) h1 k h3 (hts _ h4) (fun x h9 => by rw [h5] at h9; exact h9) h8 h9 hn hft hl hdg (fun H1 locs1 hP _ hS => ?_)
  refine kk H1 locs1 ⟨?_, hS⟩
  rw [wG_set (σ' := pI σ h k v) hh rI_o (by rw [pI, rI_s]; exact hce')] at hP
  exact hP
theorem g_putL (C : Cx n D ad κ p s m args meth c cc own nL ret) (hH : Hd n ce D ad κ s σ H locs) (h : Nat) (hh : h < n) {ci k index : Nat} {fs : List Value} (hce : ce ad κ (σ.1 h) (σ.2 h) h = .inr (ci, fs)) (hf : fp own index ci k .long) {v : Int64} (hl : k < fs.length) (hce' : ce ad κ (σ.1 h) (vp_updL (σ.2 h) k v) h = .inr (ci, fs.set k (.long v))) (hdg : decode cc pc = .ok (.putfield index, 3))
    (kk : ∀ (H1 : Heap) (locs1 : List Loc), Hd n ce D ad κ s (pL σ h k v) H1 locs1 → W p l e R s m args below meth c H1 locs1 cells slots Q (F0 m (pc + 3) ls rest)) : W p l e R s m args below meth c H locs cells slots Q (F0 m pc ls (.long v :: .ref (ad h) :: rest)) := by
  obtain ⟨hx, hb, hml, hown, hts, hK, hi, hZ, hr, hlk⟩ := C
  obtain ⟨Cn, T, N, ty0, h1, h2, h3, h4, h5, h6, h7, h8, h9⟩ := hf
  refine va_put (D := D) (tys := tyL κ) (ws := wG n ce ad κ σ) (ref := Cn) hx hb hts h2 ty0 h6 h7 hown hK hH.1 (wG_D hi) hH.2 h (by rw [wG_at hh, hce]) h1 k h3 (hts _ h4) (fun x h9 => by rw [h5] at h9; exact h9) h8 h9 rfl rfl hl hdg (fun H1 locs1 hP _ hS => ?_)
  refine kk H1 locs1 ⟨?_, hS⟩
  rw [wG_set (σ' := pL σ h k v) hh rL_o (by rw [pL, rL_s]; exact hce')] at hP
  exact hP
theorem g_iald (C : Cx n D ad κ p s m args meth c cc own nL ret) (hH : Hd n ce D ad κ s σ H locs) (h : Nat) (hh : h < n) {N : Nat} (hce : ce ad κ (σ.1 h) (σ.2 h) h = .inl (κ.1, N, .inl (σ.1 h))) {i : Int32} {k : Nat} (hk : i.toNatClampNeg = k) (hin : vp_in i N) (hdg : decode cc pc = .ok (.iaload, 1))
    (kk : W p l e R s m args below meth c H locs cells slots Q (F0 m (pc + 1) ls (.int (σ.1 h k) :: rest))) : W p l e R s m args below meth c H locs cells slots Q (F0 m pc ls (.int i :: .ref (ad h) :: rest)) := by
  subst hk
  exact va_iald (D := D) (tys := tyL κ) (ws := wG n ce ad κ σ) C.1 C.2.1 C.2.2.2.2.2.1 hH.1 h 0 (by rw [wG_at hh, hce]) rfl hin hdg kk
theorem g_bald (C : Cx n D ad κ p s m args meth c cc own nL ret) (hH : Hd n ce D ad κ s σ H locs) (h : Nat) (hh : h < n) {N : Nat} (hce : ce ad κ (σ.1 h) (σ.2 h) h = .inl (κ.2.1, N, .inl (σ.1 h))) {i : Int32} {k : Nat} (hk : i.toNatClampNeg = k) (hin : vp_in i N) (hdg : decode cc pc = .ok (.baload, 1))
    (kk : W p l e R s m args below meth c H locs cells slots Q (F0 m (pc + 1) ls (.int (σ.1 h k) :: rest))) : W p l e R s m args below meth c H locs cells slots Q (F0 m pc ls (.int i :: .ref (ad h) :: rest)) := by
  subst hk
  exact va_bald (D := D) (tys := tyL κ) (ws := wG n ce ad κ σ) C.1 C.2.1 C.2.2.2.2.2.1 hH.1 h 1 (by rw [wG_at hh, hce]) rfl hin hdg kk
theorem g_zald (C : Cx n D ad κ p s m args meth c cc own nL ret) (hH : Hd n ce D ad κ s σ H locs) (h : Nat) (hh : h < n) {N : Nat} (hce : ce ad κ (σ.1 h) (σ.2 h) h = .inl (κ.2.2.1, N, .inl (σ.1 h))) {i : Int32} {k : Nat} (hk : i.toNatClampNeg = k) (hin : vp_in i N) (hdg : decode cc pc = .ok (.baload, 1))
    (kk : W p l e R s m args below meth c H locs cells slots Q (F0 m (pc + 1) ls (.int (σ.1 h k) :: rest))) : W p l e R s m args below meth c H locs cells slots Q (F0 m pc ls (.int i :: .ref (ad h) :: rest)) := by
  subst hk
  exact va_zald (D := D) (tys := tyL κ) (ws := wG n ce ad κ σ) C.1 C.2.1 C.2.2.2.2.2.1 hH.1 h 2 (by rw [wG_at hh, hce]) rfl hin hdg kk
theorem g_lald (C : Cx n D ad κ p s m args meth c cc own nL ret) (hH : Hd n ce D ad κ s σ H locs) (h : Nat) (hh : h < n) {N : Nat} (hce : ce ad κ (σ.1 h) (σ.2 h) h = .inl (κ.2.2.2, N, .inr (.inl (σ.2 h)))) {i : Int32} {k : Nat} (hk : i.toNatClampNeg = k) (hin : vp_in i N) (hdg : decode cc pc = .ok (.laload, 1))
    (kk : W p l e R s m args below meth c H locs cells slots Q (F0 m (pc + 1) ls (.long (σ.2 h k) :: rest))) : W p l e R s m args below meth c H locs cells slots Q (F0 m pc ls (.int i :: .ref (ad h) :: rest)) := by
  subst hk
  exact va_lald (D := D) (tys := tyL κ) (ws := wG n ce ad κ σ) C.1 C.2.1 C.2.2.2.2.2.1 hH.1 h 3 (by rw [wG_at hh, hce]) rfl hin hdg kk
theorem g_iast (C : Cx n D ad κ p s m args meth c cc own nL ret) (hH : Hd n ce D ad κ s σ H locs) (h : Nat) (hh : h < n) {N : Nat} (hce : ∀ f q, ce ad κ f q h = .inl (κ.1, N, .inl f)) {i x : Int32} {k : Nat} (hk : i.toNatClampNeg = k) (hin : vp_in i N) (hdg : decode cc pc = .ok (.iastore, 1))
    (kk : ∀ (H1 : Heap) (locs1 : List Loc), Hd n ce D ad κ s (pI σ h k x) H1 locs1 → W p l e R s m args below meth c H1 locs1 cells slots Q (F0 m (pc + 1) ls rest)) : W p l e R s m args below meth c H locs cells slots Q (F0 m pc ls (.int x :: .int i :: .ref (ad h) :: rest)) := by
  subst hk
  refine va_iast (D := D) (tys := tyL κ) (ws := wG n ce ad κ σ) C.1 C.2.1 C.2.2.2.2.2.1 hH.1 (wG_D C.2.2.2.2.2.2.1) hH.2 h 0 (by rw [wG_at hh, hce]) rfl hin hdg (fun H1 locs1 hP _ hS => ?_)
  refine kk H1 locs1 ⟨?_, hS⟩
  rw [wG_set (σ' := pI σ h i.toNatClampNeg x) hh rI_o (by rw [hce, pI, rI_s])] at hP
  exact hP
theorem g_bast (C : Cx n D ad κ p s m args meth c cc own nL ret) (hH : Hd n ce D ad κ s σ H locs) (h : Nat) (hh : h < n) {N : Nat} (hce : ∀ f q, ce ad κ f q h = .inl (κ.2.1, N, .inl f)) {i x : Int32} {k : Nat} (hk : i.toNatClampNeg = k) (hin : vp_in i N) (hdg : decode cc pc = .ok (.bastore, 1))
    (kk : ∀ (H1 : Heap) (locs1 : List Loc), Hd n ce D ad κ s (pI σ h k (vp_nar .byte x)) H1 locs1 → W p l e R s m args below meth c H1 locs1 cells slots Q (F0 m (pc + 1) ls rest)) : W p l e R s m args below meth c H locs cells slots Q (F0 m pc ls (.int x :: .int i :: .ref (ad h) :: rest)) := by
  subst hk
  refine va_bast (D := D) (tys := tyL κ) (ws := wG n ce ad κ σ) C.1 C.2.1 C.2.2.2.2.2.1 hH.1 (wG_D C.2.2.2.2.2.2.1) hH.2 h 1 (by rw [wG_at hh, hce]) rfl hin hdg (fun H1 locs1 hP _ hS => ?_)
  refine kk H1 locs1 ⟨?_, hS⟩
  rw [wG_set (σ' := pI σ h i.toNatClampNeg (vp_nar .byte x)) hh rI_o (by rw [hce, pI, rI_s])] at hP
  exact hP
theorem g_zast (C : Cx n D ad κ p s m args meth c cc own nL ret) (hH : Hd n ce D ad κ s σ H locs) (h : Nat) (hh : h < n) {N : Nat} (hce : ∀ f q, ce ad κ f q h = .inl (κ.2.2.1, N, .inl f)) {i x : Int32} {k : Nat} (hk : i.toNatClampNeg = k) (hin : vp_in i N) (hdg : decode cc pc = .ok (.bastore, 1))
    (kk : ∀ (H1 : Heap) (locs1 : List Loc), Hd n ce D ad κ s (pI σ h k (vp_nar .boolean x)) H1 locs1 → W p l e R s m args below meth c H1 locs1 cells slots Q (F0 m (pc + 1) ls rest)) : W p l e R s m args below meth c H locs cells slots Q (F0 m pc ls (.int x :: .int i :: .ref (ad h) :: rest)) := by
  subst hk
  refine va_zast (D := D) (tys := tyL κ) (ws := wG n ce ad κ σ) C.1 C.2.1 C.2.2.2.2.2.1 hH.1 (wG_D C.2.2.2.2.2.2.1) hH.2 h 2 (by rw [wG_at hh, hce]) rfl hin hdg (fun H1 locs1 hP _ hS => ?_)
  refine kk H1 locs1 ⟨?_, hS⟩
  rw [wG_set (σ' := pI σ h i.toNatClampNeg (vp_nar .boolean x)) hh rI_o (by rw [hce, pI, rI_s])] at hP
  exact hP
theorem g_last (C : Cx n D ad κ p s m args meth c cc own nL ret) (hH : Hd n ce D ad κ s σ H locs) (h : Nat) (hh : h < n) {N : Nat} (hce : ∀ f q, ce ad κ f q h = .inl (κ.2.2.2, N, .inr (.inl q))) {i : Int32} {x : Int64} {k : Nat} (hk : i.toNatClampNeg = k) (hin : vp_in i N) (hdg : decode cc pc = .ok (.lastore, 1))
    (kk : ∀ (H1 : Heap) (locs1 : List Loc), Hd n ce D ad κ s (pL σ h k x) H1 locs1 → W p l e R s m args below meth c H1 locs1 cells slots Q (F0 m (pc + 1) ls rest)) : W p l e R s m args below meth c H locs cells slots Q (F0 m pc ls (.long x :: .int i :: .ref (ad h) :: rest)) := by
  subst hk
  refine va_last (D := D) (tys := tyL κ) (ws := wG n ce ad κ σ) C.1 C.2.1 C.2.2.2.2.2.1 hH.1 (wG_D C.2.2.2.2.2.2.1) hH.2 h 3 (by rw [wG_at hh, hce]) rfl hin hdg (fun H1 locs1 hP _ hS => ?_)
  refine kk H1 locs1 ⟨?_, hS⟩
  rw [wG_set (σ' := pL σ h i.toNatClampNeg x) hh rL_o (by rw [hce, pL, rL_s])] at hP
  exact hP
theorem g_alen (C : Cx n D ad κ p s m args meth c cc own nL ret) (hH : Hd n ce D ad κ s σ H locs) (h t0 : Nat) (hh : h < n) {cA : ClassId} {x : vp_A} (hce : ce ad κ (σ.1 h) (σ.2 h) h = .inl (cA, x)) {ty : FieldType} (ht : (tyL κ)[t0]? = some (cA, ty)) {v : Int32} (hv : Int32.ofNat x.1 = v) (hdg : decode cc pc = .ok (.arraylength, 1))
    (kk : W p l e R s m args below meth c H locs cells slots Q (F0 m (pc + 1) ls (.int v :: rest))) : W p l e R s m args below meth c H locs cells slots Q (F0 m pc ls (.ref (ad h) :: rest)) :=
  va_alen (D := D) (tys := tyL κ) (ws := wG n ce ad κ σ) C.1 C.2.1 C.2.2.2.2.2.1 hH.1 h t0 (by rw [wG_at hh, hce]) ht hv hdg kk
/-- arraycopy of ints, from one row into another -/
theorem g_copy (C : Cx n D ad κ p s m args meth c cc own nL ret) (hH : Hd n ce D ad κ s σ H locs) (hls : ls.size = nL) (h g : Nat) (hh : h < n) (hg : g < n) {N M : Nat} (hce : ce ad κ (σ.1 h) (σ.2 h) h = .inl (κ.1, N, .inl (σ.1 h))) (hcg : ∀ f q, ce ad κ f q g = .inl (κ.1, M, .inl f)) {index : Nat} (hlink : Cond.methodLink own index arraycopyName ∈ lg_tbl) (hnat : Cond.native arraycopyName ∈ lg_tbl) (hst : Cond.static arraycopyName ∈ lg_tbl) (hini : Cond.initialized "java/lang/System" ∈ lg_tbl)
    {sp dp k : Int32} {a b d : Nat} (ha : sp.toNatClampNeg = a) (hb0 : dp.toNatClampNeg = b) (hd : k.toNatClampNeg = d) (h1 : ¬ sp < 0) (h2 : ¬ dp < 0) (h3 : ¬ k < 0) (h4 : a + d ≤ N) (h5 : b + d ≤ M) (hfr : 1 ≤ R.frames) (hlo : (rest.map fun v => v.category).sum + (nativeFrameWords "java/lang/System" "arraycopy" 5 + 11) ≤ R.locals) (hdg : decode cc pc = .ok (.invokestatic index, 3))
    (kk : ∀ (H1 : Heap) (locs1 : List Loc), Hd n ce D ad κ s (rI σ g (va_cpy (σ.1 h) (σ.1 g) a b d)) H1 locs1 → W p l e R s m args below meth c H1 locs1 cells slots Q (F0 m (pc + 3) ls rest)) : W p l e R s m args below meth c H locs cells slots Q (F0 m pc ls (.int k :: .int dp :: .ref (ad g) :: .int sp :: .ref (ad h) :: rest)) := by
  subst ha; subst hb0; subst hd
  obtain ⟨hx, hb, hml, hown, hts, hK, hi, hZ, hr, hlk⟩ := C
  refine va_copyi (D := D) (tys := tyL κ) (ws := wG n ce ad κ σ) hx hb (hml.trans hls.symm) hown (hts _ hlink) (hts _ hnat) (hts _ hst) (hts _ hini) hK hH.1 (wG_D hi) hH.2 h g 0 0 (by rw [wG_at hh, hce]) (by rw [wG_at hg, hcg]) rfl rfl rfl h1 h2 h3 h4 h5 (fun _ _ => rfl) hfr hlo hdg (fun H1 locs1 hP _ hS => ?_)
  refine kk H1 locs1 ⟨?_, hS⟩
  rw [wG_set (σ' := rI σ g (va_cpy (σ.1 h) (σ.1 g) sp.toNatClampNeg dp.toNatClampNeg k.toNatClampNeg)) hg rI_o (by rw [hcg, rI_s])] at hP
  exact hP
/-- what a state behind a part of the way is, for a callee -/
theorem Hd.pre (C : Cx n D ad κ p s m args meth c cc own nL ret) (hH : Hd n ce D ad κ s σ H locs) {U : State} (hU : U.heap = H) (hW : s.WarmedH U.vm) : Pre n ce D ad κ σ U :=
  ⟨by rw [hU]; exact hH.1, va_K.moved hW.alike C.2.2.2.2.2.1, C.2.2.2.2.2.2.1, C.2.2.2.2.2.2.2.1.go hW (fun a h1 h2 => by rw [hU]; exact hH.2.2.1 a h1 h2)⟩
/-- the words of a call of an instance method; of a static one -/
def cV (own : String) (index : Nat) (y : MethodName) (bytes : ByteArray) (maxL : Nat) (ret : Option FieldType) (k : Nat) : Prop := (Cond.methodLink own index y ∈ lg_tbl ∧ Cond.instanceMethod y ∈ lg_tbl ∧ Cond.selects y.cls y y ∈ lg_tbl ∧ Cond.initialized y.cls ∈ lg_tbl ∧ Cond.code y bytes maxL ret ∈ lg_tbl) ∧ y.cls ≠ "java/lang/invoke/MethodHandle" ∧ y.cls ≠ "java/lang/invoke/VarHandle" ∧ (parseMethodDescriptor y.desc).map (fun d => d.parameters.length) = some k
def cS (own : String) (index : Nat) (y : MethodName) (bytes : ByteArray) (maxL : Nat) (ret : Option FieldType) (k : Nat) : Prop := (Cond.methodLink own index y ∈ lg_tbl ∧ Cond.static y ∈ lg_tbl ∧ Cond.initialized y.cls ∈ lg_tbl ∧ Cond.code y bytes maxL ret ∈ lg_tbl) ∧ y.cls ≠ "java/lang/invoke/MethodHandle" ∧ y.cls ≠ "java/lang/invoke/VarHandle" ∧ (parseMethodDescriptor y.desc).map (fun d => d.parameters.length) = some k
def cN (own : String) (index : Nat) (y : MethodName) (host : String) (bytes : ByteArray) (maxL : Nat) (ret : Option FieldType) (k : Nat) : Prop := (Cond.methodLinkNest own index y host ∈ nestW ∧ Cond.static y ∈ lg_tbl ∧ Cond.initialized y.cls ∈ lg_tbl ∧ Cond.code y bytes maxL ret ∈ lg_tbl) ∧ y.cls ≠ "java/lang/invoke/MethodHandle" ∧ y.cls ≠ "java/lang/invoke/VarHandle" ∧ (parseMethodDescriptor y.desc).map (fun d => d.parameters.length) = some k
theorem lg_code {w : Cond} (h : w ∈ lg_tbl) : GoodIn lg_tbl (w :: lg_tbl) := lg_good fun x hx => (List.mem_cons.mp hx).elim (fun e => e ▸ h) id
theorem rs_le {a b x y : Nat} (h : a ≤ x ∧ b ≤ y) : a ≤ x ∧ b ≤ y := h
/-- a call of an instance method, to its run -/
theorem g_runV {y : MethodName} {bytes : ByteArray} {maxL index k : Nat} {rt : Option FieldType} {rm : Room} {As : List Value} {Qc : Array Value → State → Outcome → State → Prop} (C : Cx n D ad κ p s m args meth c cc own nL ret) (hH : Hd n ce D ad κ s σ H locs) (hls : ls.size = nL) (cv : cV own index y bytes maxL rt k) (h : Nat) (hh : h < n) {ci : Nat} {fs : List Value} (hce : ce ad κ (σ.1 h) (σ.2 h) h = .inr (ci, fs)) {T : u_T} {N : Nat} (hc : classes[ci]? = some (y.cls, T, N))
    (hM : Met l y (Cond.code y bytes maxL rt :: lg_tbl) rm (va_Pc (.ref (ad h) :: As) (Pre n ce D ad κ σ)) Qc 0 0 (AX n ad)) (hr0 : rm.cells = 0 ∧ rm.slots = 0) (hR : rm.frames + 1 ≤ R.frames ∧ 8 + (maxL + 11) + rm.locals ≤ R.locals) (hk : As.length = k) {st : List Value} (hst : st = As.reverse ++ .ref (ad h) :: rest) (hrm : (rest.map fun v => v.category).sum ≤ 8) (hdg : decode cc pc = .ok (.invokevirtual index, 3)) (hcs : cells ≤ R.cells ∧ slots ≤ R.slots) :
    va_Run p l e R s m args below meth c H locs cells slots 0 0 (F0 m pc ls st) rest (Qc (Value.ref (ad h) :: As).toArray) (AX n ad) := by
  obtain ⟨⟨l1, l2, l3, l4, l5⟩, l6⟩ := cv
  have hts := C.2.2.2.2.1
  exact va_runV (Ts := lg_tbl) (ws := Cond.code y bytes maxL rt :: lg_tbl) (rm := rm) (C := y.cls) ⟨C.1, C.2.1, C.2.2.1, C.2.2.2.1, hts⟩ hM ⟨callB_of k hts (lg_code l5) rfl hr0.1 hr0.2 (hts _ l4) (hts _ l1) l6 hR, hts _ l2, hts _ l3⟩
    ⟨Pre.blind, va_recv C.2.2.2.2.2.1 hH.1 hc (show (wG n ce ad κ σ)[h]? = some (ad h, .inr (ci, fs)) by rw [wG_at hh, hce]), fun U hU hW => ⟨rfl, hH.pre C hU hW⟩⟩ rfl hk hls hst (lv_room hrm) hdg hcs
theorem g_runS {y : MethodName} {bytes : ByteArray} {maxL index k : Nat} {rt : Option FieldType} {rm : Room} {As : List Value} {Qc : Array Value → State → Outcome → State → Prop} (C : Cx n D ad κ p s m args meth c cc own nL ret) (hH : Hd n ce D ad κ s σ H locs) (hls : ls.size = nL) (cv : cS own index y bytes maxL rt k)
    (hM : Met l y (Cond.code y bytes maxL rt :: lg_tbl) rm (va_Pc As (Pre n ce D ad κ σ)) Qc 0 0 (AX n ad)) (hr0 : rm.cells = 0 ∧ rm.slots = 0) (hR : rm.frames + 1 ≤ R.frames ∧ 8 + (maxL + 11) + rm.locals ≤ R.locals) (hk : As.length = k) {st : List Value} (hst : st = As.reverse ++ rest) (hrm : (rest.map fun v => v.category).sum ≤ 8) (hdg : decode cc pc = .ok (.invokestatic index, 3)) (hcs : cells ≤ R.cells ∧ slots ≤ R.slots) :
    va_Run p l e R s m args below meth c H locs cells slots 0 0 (F0 m pc ls st) rest (Qc As.toArray) (AX n ad) := by
  obtain ⟨⟨l1, l2, l4, l5⟩, l6⟩ := cv
  have hts := C.2.2.2.2.1
  exact va_runS (Ts := lg_tbl) (ws := Cond.code y bytes maxL rt :: lg_tbl) (rm := rm) ⟨C.1, C.2.1, C.2.2.1, C.2.2.2.1, hts⟩ hM ⟨callB_of k hts (lg_code l5) rfl hr0.1 hr0.2 (hts _ l4) (hts _ l1) l6 hR, hts _ l2⟩
    ⟨Pre.blind, fun U hU hW => ⟨rfl, hH.pre C hU hW⟩⟩ rfl hk hls hst (lv_room hrm) hdg hcs
theorem g_runN {y : MethodName} {host : String} {bytes : ByteArray} {maxL index k : Nat} {rt : Option FieldType} {rm : Room} {As : List Value} {Qc : Array Value → State → Outcome → State → Prop} (C : Cx n D ad κ p s m args meth c cc own nL ret) (hH : Hd n ce D ad κ s σ H locs) (hls : ls.size = nL) (cv : cN own index y host bytes maxL rt k)
    (hM : Met l y (Cond.code y bytes maxL rt :: lg_tbl) rm (va_Pc As (Pre n ce D ad κ σ)) Qc 0 0 (AX n ad)) (hr0 : rm.cells = 0 ∧ rm.slots = 0) (hR : rm.frames + 1 ≤ R.frames ∧ 8 + (maxL + 11) + rm.locals ≤ R.locals) (hk : As.length = k) {st : List Value} (hst : st = As.reverse ++ rest) (hrm : (rest.map fun v => v.category).sum ≤ 8) (hdg : decode cc pc = .ok (.invokestatic index, 3)) (hcs : cells ≤ R.cells ∧ slots ≤ R.slots) :
    va_Run p l e R s m args below meth c H locs cells slots 0 0 (F0 m pc ls st) rest (Qc As.toArray) (AX n ad) := by
  obtain ⟨⟨l1, l2, l4, l5⟩, l6⟩ := cv
  have hts := C.2.2.2.2.1
  exact va_runSN (Ts := lg_tbl) (ws := Cond.code y bytes maxL rt :: lg_tbl) (rm := rm) ⟨C.1, C.2.1, C.2.2.1, C.2.2.2.1, hts⟩ hM ⟨va_cnB k hts (lg_code l5) rfl hr0.1 hr0.2 (C.2.2.2.2.2.2.2.1.1 _ l1) (hts _ l4) l6 hR, hts _ l2, trivial⟩
    ⟨Pre.blind, fun U hU hW => ⟨rfl, hH.pre C hU hW⟩⟩ rfl hk hls hst (lv_room hrm) hdg hcs
theorem g_ci {st : List Value} {a : Array Value} {r : Int32} {σ1 : HS} (hr : va_Run p l e R s m args below meth c H locs cells slots 0 0 (F0 m pc ls st) rest (QI n ce D ad κ (r, σ1) a) (AX n ad)) (hH : Hd n ce D ad κ s σ H locs)
    (kk : ∀ (H1 : Heap) (locs1 : List Loc), Hd n ce D ad κ s σ1 H1 locs1 → W p l e R s m args below meth c H1 locs1 cells slots Q (F0 m (pc + 3) ls (.int r :: rest))) : W p l e R s m args below meth c H locs cells slots Q (F0 m pc ls st) :=
  va_calli hr hH.2 (fun _ _ h => h) (fun _ h => h) (fun r' _ t H1 locs1 ht _ hp hb _ _ hS => by subst hp; exact kk H1 locs1 ⟨by rw [← ht]; exact hb, hS⟩)
theorem g_cl {st : List Value} {a : Array Value} {r : Int64} {σ1 : HS} (hr : va_Run p l e R s m args below meth c H locs cells slots 0 0 (F0 m pc ls st) rest (QL n ce D ad κ (r, σ1) a) (AX n ad)) (hH : Hd n ce D ad κ s σ H locs)
    (kk : ∀ (H1 : Heap) (locs1 : List Loc), Hd n ce D ad κ s σ1 H1 locs1 → W p l e R s m args below meth c H1 locs1 cells slots Q (F0 m (pc + 3) ls (.long r :: rest))) : W p l e R s m args below meth c H locs cells slots Q (F0 m pc ls st) :=
  va_calll hr hH.2 (fun _ _ h => h) (fun _ h => h) (fun r' _ t H1 locs1 ht _ hp hb _ _ hS => by subst hp; exact kk H1 locs1 ⟨by rw [← ht]; exact hb, hS⟩)
theorem g_cv {st : List Value} {a : Array Value} {σ1 : HS} (hr : va_Run p l e R s m args below meth c H locs cells slots 0 0 (F0 m pc ls st) rest (QV n ce D ad κ σ1 a) (AX n ad)) (hH : Hd n ce D ad κ s σ H locs)
    (kk : ∀ (H1 : Heap) (locs1 : List Loc), Hd n ce D ad κ s σ1 H1 locs1 → W p l e R s m args below meth c H1 locs1 cells slots Q (F0 m (pc + 3) ls rest)) : W p l e R s m args below meth c H locs cells slots Q (F0 m pc ls st) :=
  va_callv hr hH.2 (fun _ _ h => h) (fun _ h => h) (fun _ t H1 locs1 ht _ _ hb _ _ hS => kk H1 locs1 ⟨by rw [← ht]; exact hb, hS⟩)
theorem g_ret {R' : Int32 × HS} {x : Int32} (C : Cx n D ad κ p s m args meth c cc own nL (some .int)) (hH : Hd n ce D ad κ s σ H locs) (h : some (x, σ) = some R') (hdg : decode cc pc = .ok (.ireturn, 1)) : W p l e R s m args below meth c H locs 0 0 (MQ below (QI n ce D ad κ R') args s 0 0 (AX n ad)) (F0 m pc ls [.int x]) := by
  cases h
  exact W.iret C.1 C.2.1 C.2.2.2.2.2.2.2.2.1 (fun t ht hW => ⟨⟨x, (), rfl, rfl, by show va_P _ _ _ t.heap; rw [ht]; exact hH.1⟩, hH.2.F ht⟩) hH.2.2.2 hdg C.2.2.2.2.2.2.2.2.2
theorem g_retZ {R' : Int32 × HS} {x : Int32} (C : Cx n D ad κ p s m args meth c cc own nL (some .boolean)) (hH : Hd n ce D ad κ s σ H locs) (hx : isB x = true) (h : some (x, σ) = some R') (hdg : decode cc pc = .ok (.ireturn, 1)) : W p l e R s m args below meth c H locs 0 0 (MQ below (QI n ce D ad κ R') args s 0 0 (AX n ad)) (F0 m pc ls [.int x]) := by
  cases h
  exact W.zret C.1 C.2.1 C.2.2.2.2.2.2.2.2.1 (isB_n hx) (fun t ht hW => ⟨⟨x, (), rfl, rfl, by show va_P _ _ _ t.heap; rw [ht]; exact hH.1⟩, hH.2.F ht⟩) hH.2.2.2 hdg C.2.2.2.2.2.2.2.2.2
theorem g_retL {R' : Int64 × HS} {x : Int64} (C : Cx n D ad κ p s m args meth c cc own nL (some .long)) (hH : Hd n ce D ad κ s σ H locs) (h : some (x, σ) = some R') (hdg : decode cc pc = .ok (.lreturn, 1)) : W p l e R s m args below meth c H locs 0 0 (MQ below (QL n ce D ad κ R') args s 0 0 (AX n ad)) (F0 m pc ls [.long x]) := by
  cases h
  exact W.lret C.1 C.2.1 C.2.2.2.2.2.2.2.2.1 (fun t ht hW => ⟨⟨x, (), rfl, rfl, by show va_P _ _ _ t.heap; rw [ht]; exact hH.1⟩, hH.2.F ht⟩) hH.2.2.2 hdg C.2.2.2.2.2.2.2.2.2
theorem g_retV {R' : HS} (C : Cx n D ad κ p s m args meth c cc own nL none) (hH : Hd n ce D ad κ s σ H locs) (h : some σ = some R') (hdg : decode cc pc = .ok (.return_, 1)) : W p l e R s m args below meth c H locs 0 0 (MQ below (QV n ce D ad κ R') args s 0 0 (AX n ad)) (F0 m pc ls []) := by
  cases h
  exact W.vret C.1 C.2.1 C.2.2.2.2.2.2.2.2.1 (fun t ht hW => ⟨⟨(), rfl, trivial, by show va_P _ _ _ t.heap; rw [ht]; exact hH.1⟩, hH.2.F ht⟩) hH.2.2.2 hdg C.2.2.2.2.2.2.2.2.2
def ushr (x y : Int32) : Int32 := (x.toUInt32 >>> (y.toUInt32 &&& Int32.toUInt32 31)).toInt32
def cpk (sp dp k : Int32) (N M : Nat) : Bool := decide ((¬ sp < 0 ∧ ¬ dp < 0 ∧ ¬ k < 0) ∧ sp.toNatClampNeg + k.toNatClampNeg ≤ N ∧ dp.toNatClampNeg + k.toNatClampNeg ≤ M)
theorem cpk_ex {sp dp k : Int32} {N M : Nat} (h : cpk sp dp k N M = true) : (¬ sp < 0 ∧ ¬ dp < 0 ∧ ¬ k < 0) ∧ sp.toNatClampNeg + k.toNatClampNeg ≤ N ∧ dp.toNatClampNeg + k.toNatClampNeg ≤ M := of_decide_eq_true h
/-- Math.max, Math.min of ints -/
def mMax (own : String) (index : Nat) : Prop := Cond.methodLink own index Lib.Math.max.name ∈ lg_tbl ∧ Cond.static Lib.Math.max.name ∈ lg_tbl ∧ Cond.initialized "java/lang/Math" ∈ lg_tbl ∧ Cond.code Lib.Math.max.name Lib.Math.max.code 2 (some .int) ∈ lg_tbl
def mMin (own : String) (index : Nat) : Prop := Cond.methodLink own index Lib.Math.min.name ∈ lg_tbl ∧ Cond.static Lib.Math.min.name ∈ lg_tbl ∧ Cond.initialized "java/lang/Math" ∈ lg_tbl ∧ Cond.code Lib.Math.min.name Lib.Math.min.code 2 (some .int) ∈ lg_tbl
def maxI (x y : Int32) : Int32 := if x < y then y else x
def minI (x y : Int32) : Int32 := if y < x then y else x
theorem g_max (C : Cx n D ad κ p s m args meth c cc own nL ret) (hls : ls.size = nL) {index : Nat} (hm : mMax own index) (hfr : 1 ≤ R.frames) (hlo : (rest.map fun v => v.category).sum + 13 ≤ R.locals) (hcs : cells ≤ R.cells ∧ slots ≤ R.slots) {x y : Int32} (hdg : decode cc pc = .ok (.invokestatic index, 3))
    (kk : W p l e R s m args below meth c H locs cells slots Q (F0 m (pc + 3) ls (.int (maxI x y) :: rest))) : W p l e R s m args below meth c H locs cells slots Q (F0 m pc ls (.int y :: .int x :: rest)) :=
  va_mmax C.1 C.2.1 (C.2.2.1.trans hls.symm) C.2.2.2.1 (C.2.2.2.2.1 _ hm.1) (C.2.2.2.2.1 _ hm.2.1) (C.2.2.2.2.1 _ hm.2.2.1) (C.2.2.2.2.1 _ hm.2.2.2) hfr hlo hcs.1 hcs.2 hdg kk
theorem g_min (C : Cx n D ad κ p s m args meth c cc own nL ret) (hls : ls.size = nL) {index : Nat} (hm : mMin own index) (hfr : 1 ≤ R.frames) (hlo : (rest.map fun v => v.category).sum + 13 ≤ R.locals) (hcs : cells ≤ R.cells ∧ slots ≤ R.slots) {x y : Int32} (hdg : decode cc pc = .ok (.invokestatic index, 3))
    (kk : W p l e R s m args below meth c H locs cells slots Q (F0 m (pc + 3) ls (.int (minI x y) :: rest))) : W p l e R s m args below meth c H locs cells slots Q (F0 m pc ls (.int y :: .int x :: rest)) :=
  va_mmin C.1 C.2.1 (C.2.2.1.trans hls.symm) C.2.2.2.1 (C.2.2.2.2.1 _ hm.1) (C.2.2.2.2.1 _ hm.2.1) (C.2.2.2.2.1 _ hm.2.2.1) (C.2.2.2.2.1 _ hm.2.2.2) hfr hlo hcs.1 hcs.2 hdg kk
end
theorem z00 {a b : Nat} : 0 ≤ a ∧ 0 ≤ b := ⟨Nat.zero_le _, Nat.zero_le _⟩
