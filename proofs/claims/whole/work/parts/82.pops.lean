/-! The readers: frames, tokens, what waits. -/
def FR (ok okl : Nat → Nat → Prop) (σ σ' : HS) : Prop := (∀ h j, ¬ ok h j → σ'.1 h j = σ.1 h j) ∧ ∀ h j, ¬ okl h j → σ'.2 h j = σ.2 h j
theorem FR.rf {ok okl : Nat → Nat → Prop} {σ : HS} : FR ok okl σ σ := ⟨fun _ _ _ => rfl, fun _ _ _ => rfl⟩
theorem FR.tr {ok okl : Nat → Nat → Prop} {σ σ1 σ2 : HS} (h1 : FR ok okl σ σ1) (h2 : FR ok okl σ1 σ2) : FR ok okl σ σ2 := ⟨fun h j a => (h2.1 h j a).trans (h1.1 h j a), fun h j a => (h2.2 h j a).trans (h1.2 h j a)⟩
theorem FR.up {ok okl ok' okl' : Nat → Nat → Prop} {σ σ' : HS} (h : FR ok okl σ σ') (h1 : ∀ h j, ok h j → ok' h j) (h2 : ∀ h j, okl h j → okl' h j) : FR ok' okl' σ σ' := ⟨fun x j b => h.1 x j (fun c => b (h1 x j c)), fun x j b => h.2 x j (fun c => b (h2 x j c))⟩
theorem FR.p {ok okl : Nat → Nat → Prop} {σ σ1 : HS} {h k : Nat} {v : Int32} (h1 : FR ok okl σ σ1) (hk : ok h k) : FR ok okl σ (pI σ1 h k v) := by
  refine ⟨fun x j b => ?_, fun x j b => by rw [pI_2]; exact h1.2 x j b⟩
  rw [← h1.1 x j b]
  by_cases e : x = h
  · subst e
    rw [pI_s, pk_un (fun e => b (by rw [e]; exact hk))]
  · rw [pI_o e]
theorem FR.l {ok okl : Nat → Nat → Prop} {σ σ1 : HS} {h k : Nat} {v : Int64} (h1 : FR ok okl σ σ1) (hk : okl h k) : FR ok okl σ (pL σ1 h k v) := by
  refine ⟨fun x j b => h1.1 x j b, fun x j b => ?_⟩
  rw [← h1.2 x j b, pL_2]
  by_cases e : x = h
  · subst e
    rw [if_pos rfl, updL_a, if_neg (fun e => b (by rw [e]; exact hk))]
  · rw [if_neg e]
/-- what an E may change, on the class's side: from place c on in the rows of codes -/
def okX (c h j : Nat) : Prop := (h = 2 ∧ (j = 1 ∨ j = 6 ∨ j = 7 ∨ j = 8 ∨ j = 10 ∨ j = 11)) ∨ (h = 12 ∧ j = 5) ∨ h = 18 ∨ ((h = 34 ∨ h = 35) ∧ c ≤ j)
def olX (h j : Nat) : Prop := h = 2 ∧ j = 9
/-- the same of the reference: codes from c to e -/
def okM (c e h j : Nat) : Prop := (h = 0 ∧ (j = 11 ∨ j = 12 ∨ j = 13 ∨ j = 14 ∨ j = 39 ∨ j = 43)) ∨ h = 28 ∨ ((h = 26 ∨ h = 27) ∧ c ≤ j ∧ j < e)
def olM (_ _ : Nat) : Prop := False
def vk (k : Nat) : Prop := k ≤ 10 ∨ k = 13 ∨ k = 15 ∨ (20 ≤ k ∧ k < 42)
/-- tokens 0 .. N: kinds K, places P, numbers V, names W -/
def TS (K P V : Nat → Nat) (N : Nat) : Prop := N ≤ 400 ∧ (∀ j, j ≤ N → vk (K j) ∧ P j ≤ 2000 ∧ V j ≤ 9999) ∧ (∀ j, j < N → K j ≠ 0 ∧ K j ≠ 3) ∧ (K N = 0 ∨ K N = 3 ∨ N = 400) ∧ ∀ i j, i < j → j ≤ N → P i < P j
def TX_ (σ : HS) (K P V W : Nat → Nat) (N : Nat) : Prop := ∀ j, j ≤ N → σ.1 19 j = nI (xkN (K j)) ∧ σ.1 20 j = nI (P j) ∧ (K j = 2 → σ.2 21 j = lN (V j)) ∧ (K j = 1 → σ.2 21 j = lN (W j))
def TM_ (σ : HS) (K P V W : Nat → Nat) (N : Nat) : Prop := ∀ j, j ≤ N → σ.1 3 j = nI (K j) ∧ σ.1 4 j = nI (P j) ∧ (K j = 2 → σ.1 5 j = nI (V j)) ∧ (K j = 1 → σ.2 6 j = lN (W j))
theorem TX_f {ok okl : Nat → Nat → Prop} {σ σ' : HS} {K P V W : Nat → Nat} {N : Nat} (f : FR ok okl σ σ') (h19 : ∀ j, ¬ ok 19 j) (h20 : ∀ j, ¬ ok 20 j) (h21 : ∀ j, ¬ okl 21 j) (h : TX_ σ K P V W N) : TX_ σ' K P V W N := fun j hj => by rw [f.1 19 j (h19 j), f.1 20 j (h20 j), f.2 21 j (h21 j)]; exact h j hj
theorem TM_f {ok okl : Nat → Nat → Prop} {σ σ' : HS} {K P V W : Nat → Nat} {N : Nat} (f : FR ok okl σ σ') (h3 : ∀ j, ¬ ok 3 j) (h4 : ∀ j, ¬ ok 4 j) (h5 : ∀ j, ¬ ok 5 j) (h6 : ∀ j, ¬ okl 6 j) (h : TM_ σ K P V W N) : TM_ σ' K P V W N := fun j hj => by rw [f.1 3 j (h3 j), f.1 4 j (h4 j), f.1 5 j (h5 j), f.2 6 j (h6 j)]; exact h j hj
theorem TX_e {c : Nat} {σ σ' : HS} {K P V W : Nat → Nat} {N : Nat} (f : FR (okX c) olX σ σ') (h : TX_ σ K P V W N) : TX_ σ' K P V W N := TX_f f (fun j => by unfold okX; omega) (fun j => by unfold okX; omega) (fun j => by unfold olX; omega) h
theorem TM_e {c e : Nat} {σ σ' : HS} {K P V W : Nat → Nat} {N : Nat} (f : FR (okM c e) olM σ σ') (h : TM_ σ K P V W N) : TM_ σ' K P V W N := TM_f f (fun j => by unfold okM; omega) (fun j => by unfold okM; omega) (fun j => by unfold okM; omega) (fun j => by unfold olM; exact id) h
theorem xk_inj : ∀ a, a < 42 → ∀ b, b < 42 → (a ≤ 10 ∨ a = 13 ∨ a = 15 ∨ 20 ≤ a) ∧ (b ≤ 10 ∨ b = 13 ∨ b = 15 ∨ 20 ≤ b) ∧ xkN a = xkN b → a = b := by decide +kernel
theorem vk_lt {k : Nat} (h : vk k) : k < 42 := by unfold vk at h; omega
theorem vk_x {k : Nat} (h : vk k) : xkN k < 64 := (xk_st k (vk_lt h)).2.2
theorem xk_eq {a b : Nat} (ha : vk a) (hb : vk b) : nI (xkN a) = nI (xkN b) ↔ a = b := by
  have h1 := vk_x ha
  have h2 := vk_x hb
  rw [nI_eq (by omega) (by omega)]
  refine ⟨fun e => ?_, fun e => by rw [e]⟩
  have h3 := vk_lt ha
  have h4 := vk_lt hb
  unfold vk at ha hb
  exact xk_inj a h3 b h4 ⟨by omega, by omega, e⟩
/-! the class's tokens -/
theorem X_kindNow {σ : HS} {K P V W : Nat → Nat} {N a : Nat} (hS : TS K P V N) (hT : TX_ σ K P V W N) (h8 : σ.1 2 8 = nI a) (ha : a ≤ N) : FX5_kindNow σ = some (nI (xkN (K a)), σ) := by
  have := hS.1
  unfold FX5_kindNow
  rw [h8, if_neg (show ¬ (400 : Int32) < nI a from nI_nlt (a := 400) (by omega) (by omega)), gd_t (ix_nI (by omega) (by omega)), cl_nI (by omega), (hT a ha).1]
theorem X_fail {σ : HS} {K P V W : Nat → Nat} {N a : Nat} (s : Int32) (hS : TS K P V N) (hT : TX_ σ K P V W N) (h8 : σ.1 2 8 = nI a) (ha : a ≤ N) : FX5_fail s σ = some (0, pI (pI σ 2 11 s) 2 1 (nI (P a))) := by
  have := hS.1
  unfold FX5_fail
  simp only [hl_]
  rw [pI_s, pk_un (by omega), h8, if_neg (show ¬ (400 : Int32) < nI a from nI_nlt (a := 400) (by omega) (by omega)), gd_t (ix_nI (by omega) (by omega)), cl_nI (by omega), pI_o (by omega), (hT a ha).2.1]
def tkS (σ : HS) (P : Nat → Nat) (a : Nat) : HS := pI (pI (pL σ 2 9 (σ.2 21 a)) 2 10 (nI (P a))) 2 8 (nI (a + 1))
theorem X_take {σ : HS} {K P V W : Nat → Nat} {N a k : Nat} (hS : TS K P V N) (hT : TX_ σ K P V W N) (h8 : σ.1 2 8 = nI a) (ha : a ≤ N) (hk : vk k) : FX5_take (nI (xkN k)) σ = if K a = k then (if a < 400 then some (1, tkS σ P a) else some (0, pI (pI σ 2 11 2) 2 1 (nI (P a)))) else some (0, pI (pI σ 2 11 1) 2 1 (nI (P a))) := by
  have h400 := hS.1
  have hv := (hS.2.1 a ha).1
  unfold FX5_take
  rw [X_kindNow hS hT h8 ha, bdI_s]
  by_cases h : K a = k
  · rw [if_pos ((xk_eq hv hk).mpr h), if_pos h, h8]
    by_cases h4 : a < 400
    · have i1 : ix (nI a) 401 = true := ix_nI (by omega) (by omega)
      rw [if_pos (show nI a < (400 : Int32) from nI_lt (b := 400) h4 (by omega)), if_pos h4, gd_t i1]
      simp only [hl_]
      rw [cl_nI (by omega), pL_1, h8, gd_t i1, cl_nI (by omega), (hT a ha).2.1, pI_s, pk_un (by omega), pL_1, h8, nI_1]
      rfl
    · rw [if_neg (show ¬ nI a < (400 : Int32) from nI_nlt (b := 400) (by omega) (by omega)), if_neg h4, X_fail 2 hS hT h8 ha, bdI_s]
      rfl
  · rw [if_neg (fun e => h ((xk_eq hv hk).mp e)), if_neg h, X_fail 1 hS hT h8 ha, bdI_s]
    rfl
/-! the reference's -/
theorem M_is {σ : HS} {K P V W : Nat → Nat} {N a k : Nat} (hS : TS K P V N) (hT : TM_ σ K P V W N) (h11 : σ.1 0 11 = nI a) (h13 : σ.1 0 13 = 0) (ha : a ≤ N) (hk : k < 42) : FX12_is (nI k) σ = some (bI (decide (K a = k)), σ) := by
  have := hS.1
  have hv := vk_lt (hS.2.1 a ha).1
  unfold FX12_is
  rw [h13, if_pos rfl, h11, gd_t (ix_nI (by omega) (by omega)), cl_nI (by omega), (hT a ha).1]
  by_cases h : K a = k
  · rw [if_pos (by rw [h]), show decide (K a = k) = true from decide_eq_true h]; rfl
  · rw [if_neg (ne_I h (by omega) (by omega)), show decide (K a = k) = false from decide_eq_false h]; rfl
theorem M_isF {σ : HS} {ft : Nat} (k : Int32) (h13 : σ.1 0 13 = nI ft) (hf : ft = 1 ∨ ft = 2) : FX12_is k σ = some (0, σ) := by
  unfold FX12_is
  rw [h13, if_neg (show ¬ nI ft = (0 : Int32) from ne_I (b := 0) (by omega) (by omega) (by omega))]
theorem M_fail {σ : HS} {K P V W : Nat → Nat} {N a : Nat} (s : Int32) (hS : TS K P V N) (hT : TM_ σ K P V W N) (h11 : σ.1 0 11 = nI a) (h13 : σ.1 0 13 = 0) (ha : a ≤ N) : FX12_fail s σ = some (pI (pI σ 0 13 s) 0 14 (nI (P a))) := by
  have := hS.1
  unfold FX12_fail
  rw [h13, if_pos (show (0 : Int32) ≤ 0 by decide)]
  simp only [hl_]
  rw [pI_s, pk_un (by omega), h11, gd_t (ix_nI (by omega) (by omega)), cl_nI (by omega), pI_o (by omega), (hT a ha).2.1]
theorem M_failF {σ : HS} {ft : Nat} (s : Int32) (h13 : σ.1 0 13 = nI ft) (hf : ft = 1 ∨ ft = 2) : FX12_fail s σ = some σ := by
  unfold FX12_fail
  rw [h13, if_neg (show ¬ nI ft ≤ (0 : Int32) from nI_ge (a := 0) (by omega) (by omega))]
theorem M_goesOn {σ : HS} {K P V W : Nat → Nat} {N a : Nat} (hS : TS K P V N) (hT : TM_ σ K P V W N) (h11 : σ.1 0 11 = nI a) (h13 : σ.1 0 13 = 0) (ha : a ≤ N) : FX12_goesOn σ = if a < 400 then some (pI σ 0 11 (nI (a + 1))) else some (pI (pI σ 0 13 2) 0 14 (nI (P a))) := by
  have := hS.1
  unfold FX12_goesOn
  by_cases h : a < 400
  · rw [h11, if_neg (show ¬ nI a = (400 : Int32) from ne_I (b := 400) (by omega) (by omega) (by omega)), if_pos h]
    simp only [hl_]
    rw [nI_1]
  · rw [h11, if_pos (show nI a = (400 : Int32) by rw [show a = 400 by omega]; rfl), if_neg h, M_fail 2 hS hT h11 h13 ha, bdV_s]
/-- the reference, once it has failed -/
def FL (σ : HS) (ft fp : Nat) : Prop := (ft = 1 ∨ ft = 2) ∧ σ.1 0 13 = nI ft ∧ σ.1 0 14 = nI fp ∧ ∃ t, t ≤ 400 ∧ σ.1 0 11 = nI t
theorem M_goesOnF {σ : HS} {ft fp : Nat} (h : FL σ ft fp) : ∃ t, t ≤ 400 ∧ FX12_goesOn σ = some (pI σ 0 11 (nI t)) ∨ FX12_goesOn σ = some σ := by
  obtain ⟨h1, h2, h3, t, ht, h4⟩ := h
  by_cases h : t = 400
  · refine ⟨0, Or.inr ?_⟩
    unfold FX12_goesOn
    rw [h4, if_pos (show nI t = (400 : Int32) by rw [h]; rfl), M_failF 2 h2 h1, bdV_s]
  · refine ⟨t + 1, Or.inl ⟨by omega, ?_⟩⟩
    unfold FX12_goesOn
    rw [h4, if_neg (show ¬ nI t = (400 : Int32) from ne_I (b := 400) h (by omega) (by omega))]
    simp only [hl_]
    rw [nI_1]
theorem M_must {σ : HS} {K P V W : Nat → Nat} {N a k : Nat} (hS : TS K P V N) (hT : TM_ σ K P V W N) (h11 : σ.1 0 11 = nI a) (h13 : σ.1 0 13 = 0) (ha : a ≤ N) (hk : k < 42) : FX12_must (nI k) σ = if K a = k then (if a < 400 then some (pI σ 0 11 (nI (a + 1))) else some (pI (pI σ 0 13 2) 0 14 (nI (P a)))) else some (pI (pI σ 0 13 1) 0 14 (nI (P a))) := by
  unfold FX12_must
  rw [M_is hS hT h11 h13 ha hk, bdI_s]
  by_cases h : K a = k
  · rw [show decide (K a = k) = true from decide_eq_true h, bI_t, if_neg one_ne, M_goesOn hS hT h11 h13 ha, if_pos h]
    by_cases h4 : a < 400
    · rw [if_pos h4, bdV_s]
    · rw [if_neg h4, bdV_s]
  · rw [show decide (K a = k) = false from decide_eq_false h, bI_f, if_pos rfl, if_neg h, M_fail 1 hS hT h11 h13 ha, bdV_s]
theorem M_mustF {σ : HS} {ft : Nat} (k : Int32) (h13 : σ.1 0 13 = nI ft) (hf : ft = 1 ∨ ft = 2) : FX12_must k σ = some σ := by
  unfold FX12_must
  rw [M_isF k h13 hf, bdI_s, if_pos rfl, M_failF 1 h13 hf, bdV_s]
/-! what waits -/
def rkN (x : Nat) : Nat := if x = 8 ∨ x = 9 then 1 else 2
def ocN (x : Nat) : Nat := if x = 8 then 2 else if x = 9 then 3 else if x = 10 then 4 else 5
def isW (x : Nat) : Prop := x = 6 ∨ x = 8 ∨ x = 9 ∨ x = 10 ∨ x = 15
def c6 : List Nat → Nat
  | [] => 0
  | x :: w => c6 w + (if x = 6 then 1 else 0)
def opN : List Nat → Nat
  | [] => 0
  | x :: w => opN w + (if x = 6 then 0 else 1)
def okR : List Nat → Nat → Prop
  | [], _ => True
  | x :: w, r => isW x ∧ if x = 6 then okR w 3 else rkN x < r ∧ okR w (rkN x)
theorem okR_len : ∀ w r, 1 ≤ r → okR w r → w.length ≤ (r - 1) + 3 * c6 w ∧ opN w ≤ (r - 1) + 2 * c6 w := by
  intro w
  induction w with
  | nil => intro r _ _; simp [c6, opN]
  | cons x w ih =>
    intro r hr h
    simp only [okR] at h
    simp only [List.length_cons, c6, opN]
    by_cases h6 : x = 6
    · rw [if_pos h6] at h ⊢
      rw [if_pos h6]
      have := ih 3 (by omega) h.2
      omega
    · rw [if_neg h6] at h ⊢
      rw [if_neg h6]
      have hx : 1 ≤ rkN x := by unfold rkN; split <;> omega
      have := ih (rkN x) hx h.2.2
      omega
theorem okR_up : ∀ w r r', r ≤ r' → okR w r → okR w r' := by
  intro w
  cases w with
  | nil => intro r r' _ _; trivial
  | cons x w =>
    intro r r' hr h
    simp only [okR] at h ⊢
    by_cases h6 : x = 6
    · rw [if_pos h6] at h ⊢; exact h
    · rw [if_neg h6] at h ⊢; exact ⟨h.1, by omega, h.2.2⟩
/-- what comes out, down to a bracket or to what binds less than r -/
def pwW (r : Nat) : List Nat → List Nat
  | [] => []
  | x :: w => if x = 6 ∨ rkN x < r then x :: w else pwW r w
def pwP (r : Nat) : List Nat → Pg
  | [] => []
  | x :: w => if x = 6 ∨ rkN x < r then [] else (ocN x, 0) :: pwP r w
theorem pw_c6 (r : Nat) : ∀ w, c6 (pwW r w) = c6 w ∧ (pwP r w).length + opN (pwW r w) = opN w := by
  intro w
  induction w with
  | nil => exact ⟨rfl, rfl⟩
  | cons x w ih =>
    simp only [pwW, pwP]
    by_cases h : x = 6 ∨ rkN x < r
    · rw [if_pos h, if_pos h]; exact ⟨rfl, by simp⟩
    · rw [if_neg h, if_neg h]
      have h6 : x ≠ 6 := fun e => h (Or.inl e)
      simp only [c6, opN, List.length_cons]
      rw [if_neg h6, if_neg h6]
      omega
theorem pw_len (r : Nat) : ∀ w, (pwW r w).length + (pwP r w).length = w.length := by
  intro w
  induction w with
  | nil => rfl
  | cons x w ih =>
    simp only [pwW, pwP]
    by_cases h : x = 6 ∨ rkN x < r
    · rw [if_pos h, if_pos h]; simp
    · rw [if_neg h, if_neg h]; simp only [List.length_cons]; omega
/-- behind what came out by rank r stands nothing that binds as r does -/
theorem pw_okR (r : Nat) (hr : 1 ≤ r) : ∀ w q, okR w q → okR (pwW r w) r := by
  intro w
  induction w with
  | nil => intro q _; trivial
  | cons x w ih =>
    intro q h
    simp only [okR] at h
    simp only [pwW]
    by_cases hx : x = 6 ∨ rkN x < r
    · rw [if_pos hx]
      simp only [okR]
      by_cases h6 : x = 6
      · rw [if_pos h6] at h ⊢; exact h
      · rw [if_neg h6] at h ⊢; exact ⟨h.1, hx.resolve_left h6, h.2.2⟩
    · rw [if_neg hx]
      have h6 : x ≠ 6 := fun e => hx (Or.inl e)
      rw [if_neg h6] at h
      exact ih _ h.2.2
theorem pw_1 : ∀ w q, okR w q → pwW 1 w = [] ∨ ∃ v, pwW 1 w = 6 :: v ∧ okR v 3 := by
  intro w q h
  have h1 := pw_okR 1 (by omega) w q h
  cases hw : pwW 1 w with
  | nil => exact Or.inl rfl
  | cons x v =>
    rw [hw] at h1
    simp only [okR] at h1
    by_cases h6 : x = 6
    · rw [if_pos h6] at h1
      exact Or.inr ⟨v, by rw [h6], h1.2⟩
    · rw [if_neg h6] at h1
      have : 1 ≤ rkN x := by unfold rkN; split <;> omega
      omega
theorem dp_app : ∀ (p : Pg) (d e : Nat) (q : Pg) (g : Nat), dpP p d e → dpP q e g → dpP (p ++ q) d g := by
  intro p
  induction p with
  | nil => intro d e q g h1 h2; simp only [dpP] at h1; subst h1; exact h2
  | cons x p ih =>
    obtain ⟨k, n⟩ := x
    intro d e q g h1 h2
    simp only [List.cons_append, dpP] at h1 ⊢
    by_cases h0 : k = 0
    · rw [if_pos h0] at h1 ⊢; exact ⟨h1.1, ih _ _ _ _ h1.2 h2⟩
    · rw [if_neg h0] at h1 ⊢
      by_cases h0 : k = 1
      · rw [if_pos h0] at h1 ⊢; exact ⟨h1.1, h1.2.1, ih _ _ _ _ h1.2.2 h2⟩
      · rw [if_neg h0] at h1 ⊢; exact ⟨h1.1, h1.2.1, ih _ _ _ _ h1.2.2 h2⟩
theorem dp_pw (r : Nat) : ∀ w, dpP (pwP r w) (opN w + 1) (opN (pwW r w) + 1) := by
  intro w
  induction w with
  | nil => rfl
  | cons x w ih =>
    simp only [pwW, pwP]
    by_cases h : x = 6 ∨ rkN x < r
    · rw [if_pos h, if_pos h]; rfl
    · rw [if_neg h, if_neg h]
      have h6 : x ≠ 6 := fun e => h (Or.inl e)
      have ho : 2 ≤ ocN x ∧ ocN x < 6 := by unfold ocN; (repeat' split) <;> omega
      simp only [opN, dpP]
      rw [if_neg (by omega), if_neg (by omega), if_neg h6]
      exact ⟨ho.2, by omega, ih⟩
theorem XM_app {ops num : Nat → Int32} : ∀ (p : Pg) (i : Nat) (q : Pg), XM ops num p i → XM ops num q (i + p.length) → XM ops num (p ++ q) i := by
  intro p
  induction p with
  | nil => intro i q _ h; exact h
  | cons x p ih =>
    obtain ⟨k, n⟩ := x
    intro i q h1 h2
    simp only [List.cons_append, XM] at h1 ⊢
    refine ⟨h1.1, h1.2.1, ih (i + 1) q h1.2.2 ?_⟩
    rw [show i + 1 + p.length = i + (p.length + 1) by omega]; exact h2
theorem LM_app {cod val : Nat → Int32} : ∀ (p : Pg) (i : Nat) (q : Pg), LM cod val p i → LM cod val q (i + p.length) → LM cod val (p ++ q) i := by
  intro p
  induction p with
  | nil => intro i q _ h; exact h
  | cons x p ih =>
    obtain ⟨k, n⟩ := x
    intro i q h1 h2
    simp only [List.cons_append, LM] at h1 ⊢
    refine ⟨h1.1, h1.2.1, ih (i + 1) q h1.2.2 ?_⟩
    rw [show i + 1 + p.length = i + (p.length + 1) by omega]; exact h2
theorem XM_eq {ops num ops' num' : Nat → Int32} : ∀ (p : Pg) (i : Nat), (∀ j, i ≤ j → j < i + p.length → ops' j = ops j ∧ num' j = num j) → XM ops num p i → XM ops' num' p i := by
  intro p
  induction p with
  | nil => intro i _ _; trivial
  | cons x p ih =>
    obtain ⟨k, n⟩ := x
    intro i h h1
    simp only [XM] at h1 ⊢
    simp only [List.length_cons] at h
    obtain ⟨e1, e2⟩ := h i (by omega) (by omega)
    exact ⟨by rw [e1]; exact h1.1, fun hk => by rw [e2]; exact h1.2.1 hk, ih (i + 1) (fun j h2 h3 => h j (by omega) (by omega)) h1.2.2⟩
theorem LM_eq {ops num ops' num' : Nat → Int32} : ∀ (p : Pg) (i : Nat), (∀ j, i ≤ j → j < i + p.length → ops' j = ops j ∧ num' j = num j) → LM ops num p i → LM ops' num' p i := by
  intro p
  induction p with
  | nil => intro i _ _; trivial
  | cons x p ih =>
    obtain ⟨k, n⟩ := x
    intro i h h1
    simp only [LM] at h1 ⊢
    simp only [List.length_cons] at h
    obtain ⟨e1, e2⟩ := h i (by omega) (by omega)
    exact ⟨by rw [e1]; exact h1.1, fun hk => by rw [e2]; exact h1.2.1 hk, ih (i + 1) (fun j h2 h3 => h j (by omega) (by omega)) h1.2.2⟩
