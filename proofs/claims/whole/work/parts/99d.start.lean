/-! read, up to its first tell: the class. -/
def okPl (k c h j : Nat) : Prop := (h = 12 ∧ j = 5) ∨ (h = 33 ∧ j = k) ∨ ((h = 34 ∨ h = 35) ∧ (j = c ∨ j = c + 1))
theorem X_plainLaw {σ : HS} {k c : Nat} (x y : Int32) (h5 : σ.1 12 5 = nI c) (hk : k < 4) (hc : c + 1 < 408) : ∃ σ', FX9_putPlainLaw (nI k) x y σ = some σ' ∧ FR (okPl k c) olM σ σ' ∧ σ'.1 12 5 = nI (c + 2) ∧ σ'.1 33 k = nI c ∧ σ'.1 34 c = x ∧ σ'.1 35 c = y ∧ σ'.1 34 (c + 1) = 3 := by
  obtain ⟨σ1, h1⟩ : ∃ τ, τ = pI σ 33 k (nI c) := ⟨_, rfl⟩
  obtain ⟨σ2, h2⟩ : ∃ τ, τ = pI (pI (pI σ1 34 c x) 35 c y) 12 5 (nI (c + 1)) := ⟨_, rfl⟩
  obtain ⟨σ3, h3⟩ : ∃ τ, τ = pI (pI (pI σ2 34 (c + 1) 3) 35 (c + 1) 0) 12 5 (nI (c + 1 + 1)) := ⟨_, rfl⟩
  have e1 : σ1.1 12 5 = nI c := by rw [h1, pI_o (by omega)]; exact h5
  have e2 : σ2.1 12 5 = nI (c + 1) := by rw [h2, pI_s, pk_us]
  refine ⟨σ3, ?_, ?_, ?_, ?_, ?_, ?_, ?_⟩
  · unfold FX9_putPlainLaw
    rw [X_start h5 hk, bdV_s, ← h1, X_putCode x y e1 (by omega), bdV_s, ← h2, X_putCode 3 0 e2 (by omega), bdV_s, ← h3]
  · rw [h3, h2, h1]
    exact ((((((FR.rf.p (by unfold okPl; omega)).p (by unfold okPl; omega)).p (by unfold okPl; omega)).p (by unfold okPl; omega)).p (by unfold okPl; omega)).p (by unfold okPl; omega)).p (by unfold okPl; omega)
  · rw [h3, pI_s, pk_us]
  · rw [h3, pI_o (by omega), pI_o (by omega), pI_o (by omega), h2, pI_o (by omega), pI_o (by omega), pI_o (by omega), h1, pI_s, pk_us]
  · rw [h3, pI_o (by omega), pI_o (by omega), pI_s, pk_un (by omega), h2, pI_o (by omega), pI_o (by omega), pI_s, pk_us]
  · rw [h3, pI_o (by omega), pI_s, pk_un (by omega), pI_o (by omega), h2, pI_o (by omega), pI_s, pk_us]
  · rw [h3, pI_o (by omega), pI_o (by omega), pI_s, pk_us]
def okEmp (h _j : Nat) : Prop := h = 12 ∨ h = 32 ∨ h = 33 ∨ h = 34 ∨ h = 35
theorem okPl_E {k c : Nat} : ∀ h j, okPl k c h j → okEmp h j := by intro h j; unfold okPl okEmp; omega
theorem plX {σ : HS} {k c C : Nat} {x y : Int32} (h34 : σ.1 34 c = x) (h35 : σ.1 35 c = y) (h3 : σ.1 34 (c + 1) = 3) (hC : c + 1 < C) (hx : x = nI (opX ((plP k).headD (0, 0)).1)) (hy : y = ((plP k).headD (0, 0)).2) (hk : k < 4) : LawX (σ.1 34) (σ.1 35) C [] (plP k) c := by
  have h4 : k = 0 ∨ k = 1 ∨ k = 2 ∨ k = 3 := by omega
  rcases h4 with rfl | rfl | rfl | rfl
  · exact ⟨⟨h34.trans hx, fun _ => h35.trans hy, trivial⟩, dp_p.1, h3, hC⟩
  · exact ⟨⟨h34.trans hx, fun _ => h35.trans hy, trivial⟩, dp_p.1, h3, hC⟩
  · exact ⟨⟨h34.trans hx, fun _ => h35.trans hy, trivial⟩, dp_p.2.2, h3, hC⟩
  · exact ⟨⟨h34.trans hx, fun _ => h35.trans hy, trivial⟩, dp_p.2.1, h3, hC⟩
theorem FR.of_kX {S : List Nat} {ok okl : Nat → Nat → Prop} {σ σ' : HS} (h : kX S σ σ') (hS : ∀ h j, h ∈ S → ok h j) : FR ok okl σ σ' := ⟨fun x j b => by rw [h.1 x (fun c => b (hS x j c))], fun x j _ => by rw [h.2]⟩
theorem FR.of_kY {S T : List Nat} {ok okl : Nat → Nat → Prop} {σ σ' : HS} (h : kY S T σ σ') (hS : ∀ h j, h ∈ S → ok h j) (hT : ∀ h j, h ∈ T → okl h j) : FR ok okl σ σ' := ⟨fun x j b => by rw [h.1 x (fun c => b (hS x j c))], fun x j b => by rw [h.2 x (fun c => b (hT x j c))]⟩
theorem FR.of_kN {S F T : List Nat} {ok okl : Nat → Nat → Prop} {σ σ' : HS} (h : kN S F T σ σ') (hS : ∀ h j, h ∈ S → ok h j) (hF : ∀ j, j ∈ F → ok 0 j) (hT : ∀ h j, h ∈ T → okl h j) : FR ok okl σ σ' := by
  refine ⟨fun x j b => ?_, fun x j b => by rw [h.2.2 x (fun c => b (hT x j c))]⟩
  by_cases h0 : x = 0
  · subst h0; exact h.2.1 j (fun c => b (hF j c))
  · rw [h.1 x h0 (fun c => b (hS x j c))]
theorem X_empty (σ : HS) : ∃ σ', FX9_empty σ = some σ' ∧ FR okEmp olM σ σ' ∧ (∀ j, j < 5 → σ'.1 12 j = 0) ∧ σ'.1 12 5 = nI 8 ∧ (∀ j, j < 8 → σ'.1 32 j = -2) ∧ ∀ k, k < 4 → ∃ i, σ'.1 33 k = nI i ∧ LawX (σ'.1 34) (σ'.1 35) 8 [] (plP k) i := by
  obtain ⟨τ, hτ⟩ : ∃ τ, τ = pI (pI (pI (pI (pI (pI σ 12 0 0) 12 1 0) 12 2 0) 12 3 0) 12 4 0) 12 5 0 := ⟨_, rfl⟩
  have fτ : FR okEmp olM σ τ := by rw [hτ]; exact (((((FR.rf.p (Or.inl rfl)).p (Or.inl rfl)).p (Or.inl rfl)).p (Or.inl rfl)).p (Or.inl rfl)).p (Or.inl rfl)
  have zτ : ∀ j, j < 6 → τ.1 12 j = 0 := by
    intro j hj
    have h6 : j = 0 ∨ j = 1 ∨ j = 2 ∨ j = 3 ∨ j = 4 ∨ j = 5 := by omega
    rw [hτ]
    rcases h6 with rfl | rfl | rfl | rfl | rfl | rfl <;> rfl
  obtain ⟨σ0, e0, k0, r0⟩ := X_fill (a := 32) (N := 8) (-2) (by omega) τ
  have f0 : FR okEmp olM τ σ0 := FR.of_kX k0 (fun h j hh => by simp at hh; unfold okEmp; omega)
  have z0 : ∀ j, j < 6 → σ0.1 12 j = 0 := fun j hj => by rw [k0.1 12 (by decide)]; exact zτ j hj
  obtain ⟨σ1, e1, f1, a1, b1, c1, d1, g1⟩ := X_plainLaw (k := 0) (c := 0) 0 1 (z0 5 (by omega)) (by omega) (by omega)
  obtain ⟨σ2, e2, f2, a2, b2, c2, d2, g2⟩ := X_plainLaw (k := 1) (c := 2) 0 1 a1 (by omega) (by omega)
  obtain ⟨σ3, e3, f3, a3, b3, c3, d3, g3⟩ := X_plainLaw (k := 2) (c := 4) 1 4 a2 (by omega) (by omega)
  obtain ⟨σ4, e4, f4, a4, b4, c4, d4, g4⟩ := X_plainLaw (k := 3) (c := 6) 0 0 a3 (by omega) (by omega)
  have f14 : FR okEmp olM σ0 σ4 := (((f1.up okPl_E (fun _ _ h => h)).tr (f2.up okPl_E (fun _ _ h => h))).tr (f3.up okPl_E (fun _ _ h => h))).tr (f4.up okPl_E (fun _ _ h => h))
  refine ⟨σ4, ?_, (fτ.tr f0).tr f14, fun j hj => ?_, a4, fun j hj => ?_, fun k hk => ?_⟩
  · unfold FX9_empty
    simp only [hl_]
    rw [← hτ, e0, bdV_s, show FX9_putPlainLaw (0 : Int32) (0 : Int32) (1 : Int32) σ0 = some σ1 from e1, bdV_s, show FX9_putPlainLaw (1 : Int32) (0 : Int32) (1 : Int32) σ1 = some σ2 from e2, bdV_s, show FX9_putPlainLaw (2 : Int32) (1 : Int32) (4 : Int32) σ2 = some σ3 from e3, bdV_s, show FX9_putPlainLaw (3 : Int32) (0 : Int32) (0 : Int32) σ3 = some σ4 from e4, bdV_s]
  · rw [f4.1 12 j (by unfold okPl; omega), f3.1 12 j (by unfold okPl; omega), f2.1 12 j (by unfold okPl; omega), f1.1 12 j (by unfold okPl; omega)]
    exact z0 j (by omega)
  · rw [f4.1 32 j (by unfold okPl; omega), f3.1 32 j (by unfold okPl; omega), f2.1 32 j (by unfold okPl; omega), f1.1 32 j (by unfold okPl; omega)]
    exact r0 j hj
  · have h4 : k = 0 ∨ k = 1 ∨ k = 2 ∨ k = 3 := by omega
    rcases h4 with rfl | rfl | rfl | rfl
    · refine ⟨0, ?_, plX (x := 0) (y := 1) ?_ ?_ ?_ (by omega) rfl rfl (by omega)⟩
      · rw [f4.1 33 0 (by unfold okPl; omega), f3.1 33 0 (by unfold okPl; omega), f2.1 33 0 (by unfold okPl; omega)]; exact b1
      · rw [f4.1 34 0 (by unfold okPl; omega), f3.1 34 0 (by unfold okPl; omega), f2.1 34 0 (by unfold okPl; omega)]; exact c1
      · rw [f4.1 35 0 (by unfold okPl; omega), f3.1 35 0 (by unfold okPl; omega), f2.1 35 0 (by unfold okPl; omega)]; exact d1
      · rw [f4.1 34 (0 + 1) (by unfold okPl; omega), f3.1 34 (0 + 1) (by unfold okPl; omega), f2.1 34 (0 + 1) (by unfold okPl; omega)]; exact g1
    · refine ⟨2, ?_, plX (x := 0) (y := 1) ?_ ?_ ?_ (by omega) rfl rfl (by omega)⟩
      · rw [f4.1 33 1 (by unfold okPl; omega), f3.1 33 1 (by unfold okPl; omega)]; exact b2
      · rw [f4.1 34 2 (by unfold okPl; omega), f3.1 34 2 (by unfold okPl; omega)]; exact c2
      · rw [f4.1 35 2 (by unfold okPl; omega), f3.1 35 2 (by unfold okPl; omega)]; exact d2
      · rw [f4.1 34 (2 + 1) (by unfold okPl; omega), f3.1 34 (2 + 1) (by unfold okPl; omega)]; exact g2
    · refine ⟨4, ?_, plX (x := 1) (y := 4) ?_ ?_ ?_ (by omega) rfl rfl (by omega)⟩
      · rw [f4.1 33 2 (by unfold okPl; omega)]; exact b3
      · rw [f4.1 34 4 (by unfold okPl; omega)]; exact c3
      · rw [f4.1 35 4 (by unfold okPl; omega)]; exact d3
      · rw [f4.1 34 (4 + 1) (by unfold okPl; omega)]; exact g3
    · exact ⟨6, b4, plX (x := 0) (y := 0) c4 d4 g4 (by omega) rfl rfl (by omega)⟩
def okRX (h j : Nat) : Prop := okTX h j ∨ h = 13 ∨ h = 19 ∨ h = 20
def olRX (h j : Nat) : Prop := olTX h j ∨ h = 13 ∨ h = 21
theorem okEmp_R : ∀ h j, okEmp h j → okRX h j := by intro h j; unfold okEmp okRX okTX; omega
theorem olM_R : ∀ h j, olM h j → olRX h j := fun _ _ h => h.elim
/-- the class before its first tell -/
theorem X_begun {σ : HS} {b : Nat → Nat} {L : Nat} (hB : BX σ b L) : ∃ σ', FX5_readAll σ = FX5_readAll_48 fu 1 (nI 0) σ' ∧ FR okRX olRX σ σ' ∧ TKX σ' b L 401 ∧ (∀ j, j < 5 → σ'.1 12 j = 0) ∧ σ'.1 12 5 = nI 8 ∧ (∀ j, j < 8 → σ'.1 32 j = -2) ∧ (∀ k, k < 4 → ∃ i, σ'.1 33 k = nI i ∧ LawX (σ'.1 34) (σ'.1 35) 8 [] (plP k) i) ∧ σ'.1 2 5 = 0 ∧ σ'.1 2 8 = 0 ∧ σ'.1 2 11 = 0 ∧ σ'.1 2 12 = 0 ∧ σ'.1 2 13 = -1 := by
  obtain ⟨σ1, e1, k1, t1⟩ := X_scan hB
  obtain ⟨σ2, e2, f2, a2, b2, c2, d2⟩ := X_empty σ1
  obtain ⟨σ3, h3⟩ : ∃ τ, τ = pI (pI (pI (pI (pI (pI σ2 2 5 0) 2 8 0) 2 11 0) 2 1 (-1)) 2 12 0) 2 13 (-1) := ⟨_, rfl⟩
  have f3 : FR (fun h _ => h = 2) olM σ2 σ3 := by rw [h3]; exact ((((((FR.rf (ok := fun h _ => h = 2) (okl := olM)).p rfl).p rfl).p rfl).p rfl).p rfl).p rfl
  have r3 : FR okRX olRX σ2 σ3 := by rw [h3]; exact (((((FR.rf.p (by unfold okRX okTX; omega)).p (by unfold okRX okTX; omega)).p (by unfold okRX okTX; omega)).p (by unfold okRX okTX; omega)).p (by unfold okRX okTX; omega)).p (by unfold okRX okTX; omega)
  have f1 : FR okRX olRX σ σ1 := FR.of_kY k1 (fun h j hh => by simp at hh; unfold okRX; omega) (fun h j hh => by simp at hh; unfold olRX; omega)
  refine ⟨σ3, ?_, (f1.tr (f2.up okEmp_R olM_R)).tr r3, ?_, fun j hj => ?_, ?_, fun j hj => ?_, fun k hk => ?_, ?_, ?_, ?_, ?_, ?_⟩
  · unfold FX5_readAll
    simp only [hl_]
    rw [e1, bdV_s, e2, bdV_s, ← h3]
    rfl
  · intro j hj hh
    rw [f3.1 19 j (by omega), f3.1 20 j (by omega), f3.2 21 j (by unfold olM; exact id), f2.1 19 j (by unfold okEmp; omega), f2.1 20 j (by unfold okEmp; omega), f2.2 21 j (by unfold olM; exact id)]
    exact t1 j hj hh
  · rw [f3.1 12 j (by omega)]; exact a2 j hj
  · rw [f3.1 12 5 (by omega)]; exact b2
  · rw [f3.1 32 j (by omega)]; exact c2 j hj
  · obtain ⟨i, q1, q2⟩ := d2 k hk
    exact ⟨i, by rw [f3.1 33 k (by omega)]; exact q1, LawX_eq _ _ _ (fun j _ _ => ⟨f3.1 34 j (by omega), f3.1 35 j (by omega)⟩) q2⟩
  · rw [h3]; rfl
  · rw [h3]; rfl
  · rw [h3]; rfl
  · rw [h3]; rfl
  · rw [h3]; rfl
