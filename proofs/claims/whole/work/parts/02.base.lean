/-! The heap of one side (class or reference): rows of ints and rows of longs, by handle and place; 'ad' takes a handle to its address; 'ce' says what cell a handle is. -/
abbrev HS : Type := (Nat → Nat → Int32) × (Nat → Nat → Int64)
abbrev KC : Type := ClassId × ClassId × ClassId × ClassId
abbrev CE : Type := (Nat → Nat) → KC → (Nat → Int32) → (Nat → Int64) → Nat → va_E
def rI (σ : HS) (h : Nat) (f : Nat → Int32) : HS := (va_up σ.1 h f, σ.2)
def rL (σ : HS) (h : Nat) (f : Nat → Int64) : HS := (σ.1, va_up σ.2 h f)
def pI (σ : HS) (h k : Nat) (v : Int32) : HS := rI σ h (upd (σ.1 h) k v)
def pL (σ : HS) (h k : Nat) (v : Int64) : HS := rL σ h (vp_updL (σ.2 h) k v)
def wG (n : Nat) (ce : CE) (ad : Nat → Nat) (κ : KC) (σ : HS) : va_W := (List.range n).map fun h => (ad h, ce ad κ (σ.1 h) (σ.2 h) h)
theorem wG_at {n : Nat} {ce : CE} {ad : Nat → Nat} {κ : KC} {σ : HS} {h : Nat} (hh : h < n) : (wG n ce ad κ σ)[h]? = some (ad h, ce ad κ (σ.1 h) (σ.2 h) h) := by
  unfold wG
  rw [List.getElem?_map, List.getElem?_range hh]
  rfl
theorem wG_len {n : Nat} {ce : CE} {ad : Nat → Nat} {κ : KC} {σ : HS} : (wG n ce ad κ σ).length = n := by simp [wG]
theorem wG_get {n : Nat} {ce : CE} {ad : Nat → Nat} {κ : KC} {σ : HS} {i : Nat} {q : Nat × va_E} (h : (wG n ce ad κ σ)[i]? = some q) : i < n ∧ q.1 = ad i := by
  have hi : i < n := by
    have := (List.getElem?_eq_some_iff.mp h).1
    rwa [wG_len] at this
  rw [wG_at hi] at h
  cases h
  exact ⟨hi, rfl⟩
theorem wG_set {n : Nat} {ce : CE} {ad : Nat → Nat} {κ : KC} {σ σ' : HS} {h : Nat} (hh : h < n) (ho : ∀ k, k ≠ h → σ'.1 k = σ.1 k ∧ σ'.2 k = σ.2 k) {x : va_E} (hx : ce ad κ (σ'.1 h) (σ'.2 h) h = x) : (wG n ce ad κ σ).set h (ad h, x) = wG n ce ad κ σ' := by
  subst hx
  apply List.ext_getElem?
  intro k
  by_cases hk : k = h
  · subst hk
    rw [List.getElem?_set_self (by rw [wG_len]; exact hh), wG_at hh]
  · rw [List.getElem?_set_ne (Ne.symm hk)]
    by_cases hn : k < n
    · rw [wG_at hn, wG_at hn, (ho k hk).1, (ho k hk).2]
    · rw [List.getElem?_eq_none (by rw [wG_len]; omega), List.getElem?_eq_none (by rw [wG_len]; omega)]
/-- what a method may change: its world's cells, and what lies from 'ad 400' on -/
def AX (n : Nat) (ad : Nat → Nat) : Nat → Prop := fun q => (∃ h, h < n ∧ q = ad h) ∨ ad 400 ≤ q
def inj (n : Nat) (ad : Nat → Nat) : Prop := ∀ i j : Nat, i < n → j < n → ad i = ad j → i = j
theorem wG_D {n : Nat} {ce : CE} {ad : Nat → Nat} {κ : KC} {σ : HS} (hi : inj n ad) : va_D (AX n ad) (wG n ce ad κ σ) := by
  refine ⟨fun i j p q hp hq e => ?_, fun k q hk => ?_⟩
  · obtain ⟨h1, h2⟩ := wG_get hp
    obtain ⟨h3, h4⟩ := wG_get hq
    exact hi i j h1 h3 (by rw [← h2, ← h4, e])
  · obtain ⟨h1, h2⟩ := wG_get hk
    exact Or.inl ⟨k, h1, h2⟩
theorem rI_o {σ : HS} {h : Nat} {f : Nat → Int32} : ∀ k, k ≠ h → (rI σ h f).1 k = σ.1 k ∧ (rI σ h f).2 k = σ.2 k := fun _ hk => ⟨va_up_ne _ _ hk, rfl⟩
theorem rL_o {σ : HS} {h : Nat} {f : Nat → Int64} : ∀ k, k ≠ h → (rL σ h f).1 k = σ.1 k ∧ (rL σ h f).2 k = σ.2 k := fun _ hk => ⟨rfl, va_up_ne _ _ hk⟩
theorem rI_s {σ : HS} {h : Nat} {f : Nat → Int32} : (rI σ h f).1 h = f := va_up_self _ _ _
theorem rL_s {σ : HS} {h : Nat} {f : Nat → Int64} : (rL σ h f).2 h = f := va_up_self _ _ _
abbrev classes : List vw_C := [(RX0, TX0, 9), (RX1, TX1, 3), (RX2, TX2, 3), (RX3, TX3, 5), (RX4, TX4, 2), (RX5, TX5, 14), (RX6, TX6, 6), (RX7, TX7, 1), (RX8, TX8, 2), (RX9, TX9, 13), (RX10, TX10, 11), (RX11, TX11, 11), (RX12, TX12, 64)]
abbrev tyL (κ : KC) : List (ClassId × FieldType) := [(κ.1, .int), (κ.2.1, .byte), (κ.2.2.1, .boolean), (κ.2.2.2, .long)]
/-- the tables' words that hold at every later state -/
def lg_tbl : List Cond := lw_tbl.filter goodWord
theorem lg_in {w : Cond} (h : w ∈ lw_tbl) (hg : goodWord w = true) : w ∈ lg_tbl := List.mem_filter.mpr ⟨h, hg⟩
theorem lg_at {w : Cond} (i : Nat) (h : tables_1[i]? = some w) (hg : goodWord w = true) : w ∈ lg_tbl := lg_in (List.mem_append_right _ (List.mem_of_getElem? h)) hg
theorem lg_sel {w : Cond} (i : Nat) (h : (k2_sels lw_privs)[i]? = some w) (hg : goodWord w = true) : w ∈ lg_tbl := lg_in (List.mem_append_left _ (List.mem_of_getElem? h)) hg
theorem lg_good {ws : List Cond} (h : ∀ w ∈ ws, w ∈ lg_tbl) : GoodIn lg_tbl ws := fun w hw => ⟨h w hw, good_of_word (List.mem_filter.mp (h w hw)).2⟩
/-- names that bind a number, a heap, an answer -/
abbrev hl_ {α β : Type} (x : α) (f : α → β) : β := f x
theorem hl_ex {α β : Type} {x : α} {f : α → Option β} {R : β} (h : hl_ x f = some R) : ∃ y, y = x ∧ f y = some R := ⟨x, rfl, h⟩
def bdI {β : Type} (o : Option (Int32 × HS)) (f : Int32 → HS → Option β) : Option β := match o with
  | some q => f q.1 q.2
  | none => none
def bdL {β : Type} (o : Option (Int64 × HS)) (f : Int64 → HS → Option β) : Option β := match o with
  | some q => f q.1 q.2
  | none => none
def bdV {β : Type} (o : Option HS) (f : HS → Option β) : Option β := match o with
  | some q => f q
  | none => none
theorem bdI_ex {β : Type} {o : Option (Int32 × HS)} {f : Int32 → HS → Option β} {R : β} (h : bdI o f = some R) : ∃ r σ, o = some (r, σ) ∧ f r σ = some R := by
  cases o with
  | none => cases h
  | some q => exact ⟨q.1, q.2, rfl, h⟩
theorem bdL_ex {β : Type} {o : Option (Int64 × HS)} {f : Int64 → HS → Option β} {R : β} (h : bdL o f = some R) : ∃ r σ, o = some (r, σ) ∧ f r σ = some R := by
  cases o with
  | none => cases h
  | some q => exact ⟨q.1, q.2, rfl, h⟩
theorem bdV_ex {β : Type} {o : Option HS} {f : HS → Option β} {R : β} (h : bdV o f = some R) : ∃ σ, o = some σ ∧ f σ = some R := by
  cases o with
  | none => cases h
  | some q => exact ⟨q, rfl, h⟩
def gd {β : Type} (b : Bool) (x : Option β) : Option β := if b then x else none
theorem gd_ex {β : Type} {b : Bool} {x : Option β} {R : β} (h : gd b x = some R) : b = true ∧ x = some R := by
  cases b with
  | false => cases h
  | true => exact ⟨rfl, h⟩
def ix (i : Int32) (n : Nat) : Bool := decide (0 ≤ i.toInt ∧ i.toInt < n)
theorem ix_in {i : Int32} {n : Nat} (h : ix i n = true) : vp_in i n := vp_in_iff.mpr (of_decide_eq_true h)
def nz (x : Int32) : Bool := decide (¬ x = 0)
theorem nz_ne {x : Int32} (h : nz x = true) : ¬ x = 0 := of_decide_eq_true h
def isB (x : Int32) : Bool := decide (x = 0 ∨ x = 1)
theorem isB_n {x : Int32} (h : isB x = true) : narrow .boolean (.int x) = .int x := by
  rcases of_decide_eq_true h with rfl | rfl <;> rfl
/-- what a method may lean on besides its own cells: links among nest mates, the String constants -/
def nestW : List Cond := [.methodLinkNest RX5 122 yX11_isPart RX11, .methodLinkNest RX3 44 yX11_within RX11, .methodLinkNest RX11 11 yX8_init RX11, .methodLinkNest RX11 34 yX7_init RX11, .methodLinkNest RX11 44 yX3_init RX11]
def lenJS : List Nat := [123, 9]
def bytJS : List (List Int32) := [[109, 105, 110, 117, 116, 101, 32, 102, 97, 109, 105, 108, 121, 32, 108, 101, 97, 115, 101, 32, 99, 111, 117, 103, 104, 115, 32, 119, 111, 114, 116, 104, 32, 114, 101, 110, 116, 115, 32, 99, 117, 114, 101, 115, 32, 100, 117, 115, 116, 32, 115, 121, 114, 117, 112, 32, 115, 101, 101, 100, 32, 105, 102, 32, 116, 104, 101, 110, 32, 101, 108, 115, 101, 32, 110, 111, 119, 32, 109, 97, 116, 116, 101, 114, 32, 100, 117, 115, 116, 121, 32, 115, 119, 101, 101, 116, 32, 122, 101, 97, 108, 32, 108, 111, 118, 101, 32, 119, 101, 101, 107, 32, 112, 97, 114, 116, 32, 119, 104, 105, 99, 104, 32], [59, 61, 43, 45, 42, 47, 60, 40, 41]]
/-- 'ad' also has the String constants (100, 101), their bytes (200, 201), and the formatter that a check of the JDK's hands on (300; or null) -/
def Zx (ad : Nat → Nat) (A : Nat → Prop) (U : State) : Prop := (∀ w ∈ nestW, va_Nw w U) ∧ va_Z "java/lang/String" "COMPACT_STRINGS" "Z" (.int 1) A U U.heap ∧ (va_Z "jdk/internal/util/Preconditions" "SIOOBE_FORMATTER" "Ljava/util/function/BiFunction;" (.ref (ad 300)) A U U.heap ∨ va_Z "jdk/internal/util/Preconditions" "SIOOBE_FORMATTER" "Ljava/util/function/BiFunction;" .null A U U.heap) ∧ vk_R RX6 85 "minute family lease coughs worth rents cures dust syrup seed if then else now matter dusty sweet zeal love week part which " (ad 100) U ∧ vk_R RX6 66 ";=+-*/<()" (ad 101) U ∧ vk_S 2 lenJS bytJS (fun i => ad (100 + i)) (fun i => ad (200 + i)) A U U.heap
theorem nestW_k : ∀ w ∈ nestW, ∃ a i x h, w = .methodLinkNest a i x h := by
  intro w hw
  simp only [nestW, List.mem_cons, List.not_mem_nil, or_false] at hw
  rcases hw with rfl | rfl | rfl | rfl | rfl <;> exact ⟨_, _, _, _, rfl⟩
theorem Zx.go {ad : Nat → Nat} {A : Nat → Prop} {s U : State} (h : Zx ad A s) (hW : s.WarmedH U.vm) (hS : ∀ a : Nat, a < s.heap.size → ¬ A a → U.heap[a]? = s.heap[a]?) : Zx ad A U := by
  obtain ⟨h1, h2, h2', h3, h4, h5⟩ := h
  refine ⟨fun w hw => ?_, (h2.moved hW.alike).kept hS, h2'.imp (fun h => (h.moved hW.alike).kept hS) (fun h => (h.moved hW.alike).kept hS), h3.warm hW, h4.warm hW, (h5.moved hW.alike).kept hS⟩
  obtain ⟨a, i, x, q, rfl⟩ := nestW_k w hw
  exact va_Nw.warmM hW (h1 _ hw)
theorem Zx.call {ad : Nat → Nat} {A : Nat → Prop} {U : State} {g : JFrame} {mk : MethodId} {a : Array Value} (h : Zx ad A U) : Zx ad A (U.calling g mk a) := by
  obtain ⟨h1, h2, h2', h3, h4, h5⟩ := h
  refine ⟨fun w hw => ?_, va_Z.moved (u := U) (U := U.calling g mk a) (Vm.Alike.refl U.vm) h2, h2'.imp (fun h => va_Z.moved (u := U) (U := U.calling g mk a) (Vm.Alike.refl U.vm) h) (fun h => va_Z.moved (u := U) (U := U.calling g mk a) (Vm.Alike.refl U.vm) h), vk_R.same (u := U) (U := U.calling g mk a) rfl h3, vk_R.same (u := U) (U := U.calling g mk a) rfl h4, vk_S.moved (u := U) (U := U.calling g mk a) (Vm.Alike.refl U.vm) h5⟩
  obtain ⟨x1, i, x, q, rfl⟩ := nestW_k w hw
  exact va_Nw.same rfl (u := U) (U := U.calling g mk a) rfl (h1 _ hw)
theorem Zx.narrow {ad : Nat → Nat} {A B : Nat → Prop} {U : State} (h : Zx ad A U) (hAB : ∀ q, B q → A q) : Zx ad B U := by
  obtain ⟨h1, h2, h2', h3, h4, h5⟩ := h
  exact ⟨h1, h2.narrow hAB, h2'.imp (fun h => h.narrow hAB) (fun h => h.narrow hAB), h3, h4, h5.narrow hAB⟩
theorem Zx.ads {ad ad' : Nat → Nat} {A : Nat → Prop} {U : State} (h : Zx ad A U) (e : ∀ i, 100 ≤ i → i ≤ 300 → ad' i = ad i) : Zx ad' A U := by
  obtain ⟨h1, h2, h2', h3, h4, h5, h6⟩ := h
  refine ⟨h1, h2, ?_, ?_, ?_, fun i hi => ?_, fun i j hi hj q => h6 i j hi hj ?_⟩
  · rw [e 300 (by omega) (by omega)]; exact h2'
  · rw [e 100 (by omega) (by omega)]; exact h3
  · rw [e 101 (by omega) (by omega)]; exact h4
  · have := h5 i hi
    dsimp only at this ⊢
    rw [e (100 + i) (by omega) (by omega), e (200 + i) (by omega) (by omega)]
    exact this
  · dsimp only at q ⊢
    rw [e (100 + i) (by omega) (by omega), e (100 + j) (by omega) (by omega)] at q
    exact q
def Pre (n : Nat) (ce : CE) (D : va_G) (ad : Nat → Nat) (κ : KC) (σ : HS) (U : State) : Prop := va_P D classes (wG n ce ad κ σ) U.heap ∧ va_K D classes (tyL κ) U ∧ inj n ad ∧ Zx ad (AX n ad) U
theorem Pre.blind {n : Nat} {ce : CE} {D : va_G} {ad : Nat → Nat} {κ : KC} {σ : HS} {As : List Value} : FrameBlind (va_Pc As (Pre n ce D ad κ σ)) := fun a U g mk h => ⟨h.1, h.2.1, va_K.moved (u := U) (U := U.calling g mk a) (Vm.Alike.refl U.vm) h.2.2.1, h.2.2.2.1, h.2.2.2.2.call⟩
/-- a method's context, the same at each of its instructions -/
def Cx (n : Nat) (D : va_G) (ad : Nat → Nat) (κ : KC) (p : Program) (s : State) (m : MethodId) (args : Array Value) (meth : Method) (c : Code) (cc : ByteArray) (own : String) (nL : Nat) (ret : Option FieldType) : Prop :=
  p.tables.exec = Jvm.exec ∧ c.code = cc ∧ c.maxLocals = nL ∧ s.vm.findClass own = some m.cls ∧ (∀ w ∈ lg_tbl, w.before args s = true) ∧ va_K D classes (tyL κ) s ∧ inj n ad ∧ Zx ad (AX n ad) s ∧ meth.sig.returnType = ret ∧ meth.locks = false
/-- the heap holds σ, and nothing else has changed -/
def Hd (n : Nat) (ce : CE) (D : va_G) (ad : Nat → Nat) (κ : KC) (s : State) (σ : HS) (H : Heap) (locs : List Loc) : Prop := va_P D classes (wG n ce ad κ σ) H ∧ va_S (AX n ad) s.heap H locs
abbrev QI (n : Nat) (ce : CE) (D : va_G) (ad : Nat → Nat) (κ : KC) (R : Int32 × HS) : Array Value → State → Outcome → State → Prop := va_Qi (fun (r : Int32) (_ : Unit) => r = R.1) (fun (_ : Unit) t => va_P D classes (wG n ce ad κ R.2) t.heap) (AX n ad)
abbrev QL (n : Nat) (ce : CE) (D : va_G) (ad : Nat → Nat) (κ : KC) (R : Int64 × HS) : Array Value → State → Outcome → State → Prop := va_Ql (fun (r : Int64) (_ : Unit) => r = R.1) (fun (_ : Unit) t => va_P D classes (wG n ce ad κ R.2) t.heap) (AX n ad)
abbrev QV (n : Nat) (ce : CE) (D : va_G) (ad : Nat → Nat) (κ : KC) (R : HS) : Array Value → State → Outcome → State → Prop := va_Qv (fun (_ : Unit) => True) (fun (_ : Unit) t => va_P D classes (wG n ce ad κ R) t.heap) (AX n ad)
/-- the contracts: from σ, with these arguments, the method answers R *)-/
abbrev MtI (l : Launch) (n : Nat) (ce : CE) (D : va_G) (ad : Nat → Nat) (κ : KC) (y : MethodName) (cc : ByteArray) (nL : Nat) (ret : Option FieldType) (rm : Room) (As : List Value) (σ : HS) (R : Int32 × HS) : Prop := Met l y (Cond.code y cc nL ret :: lg_tbl) rm (va_Pc As (Pre n ce D ad κ σ)) (QI n ce D ad κ R) 0 0 (AX n ad)
abbrev MtL (l : Launch) (n : Nat) (ce : CE) (D : va_G) (ad : Nat → Nat) (κ : KC) (y : MethodName) (cc : ByteArray) (nL : Nat) (ret : Option FieldType) (rm : Room) (As : List Value) (σ : HS) (R : Int64 × HS) : Prop := Met l y (Cond.code y cc nL ret :: lg_tbl) rm (va_Pc As (Pre n ce D ad κ σ)) (QL n ce D ad κ R) 0 0 (AX n ad)
abbrev MtV (l : Launch) (n : Nat) (ce : CE) (D : va_G) (ad : Nat → Nat) (κ : KC) (y : MethodName) (cc : ByteArray) (nL : Nat) (ret : Option FieldType) (rm : Room) (As : List Value) (σ : HS) (R : HS) : Prop := Met l y (Cond.code y cc nL ret :: lg_tbl) rm (va_Pc As (Pre n ce D ad κ σ)) (QV n ce D ad κ R) 0 0 (AX n ad)
/-- a method's beginning -/
theorem open_ {l : Launch} {n : Nat} {ce : CE} {D : va_G} {ad : Nat → Nat} {κ : KC} {y : MethodName} {cc : ByteArray} {nL : Nat} {ret : Option FieldType} {rm : Room} {As : List Value} {σ : HS} {Qc : Array Value → State → Outcome → State → Prop} (hy : plainName y.cls = true) (hlen : (lg_sl As).length ≤ nL) {la : List (Nat × Value)} (hla : lv_args 0 As = la)
    (body : ∀ (p : Program) (e : Env) (s : State) (m : MethodId) (below : List Frame) (meth : Method) (c : Code) (ls : Array Slot), Cx n D ad κ p s m As.toArray meth c cc y.cls nL ret → Hd n ce D ad κ s σ s.heap [] → lv_has ls nL la → W p l e rm s m As.toArray below meth c s.heap [] 0 0 (MQ below Qc As.toArray s 0 0 (AX n ad)) (F0 m 0 ls [])) :
    Met l y (Cond.code y cc nL ret :: lg_tbl) rm (va_Pc As (Pre n ce D ad κ σ)) Qc 0 0 (AX n ad) := by
  refine Met.ofW (cc := cc) (maxL := nL) (ret := ret) hy rfl ?_
  intro p e s m args below meth c s₁ B hml hv
  obtain ⟨rfl, hP, hK, hi, hZ⟩ := hv
  have hts := atoms_spec (ws := Cond.code y cc nL ret :: lg_tbl) B.pre
  have hown : s.vm.findClass y.cls = some m.cls := findClass_of_methodNamed B.named
  have hl := lv_entry As hlen
  rw [lg_entry_eq]
  subst hla
  exact body p e s m below meth c _ ⟨B.exec, B.bytes, hml, hown, fun w hw => hts w (List.mem_cons_of_mem _ hw), hK, hi, hZ, B.returns, B.notSynchronized⟩ ⟨hP, va_S.rf⟩ hl
