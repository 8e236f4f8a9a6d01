/-! What comes out of what waits, on both sides. -/
def PXw (σ : HS) (w : List Nat) (p : Pg) (c : Nat) : Prop := σ.1 2 6 = nI w.length ∧ (∀ j, j < w.length → σ.1 18 (w.length - 1 - j) = nI (xkN (w.getD j 0))) ∧ σ.1 12 5 = nI (c + p.length) ∧ XM (σ.1 34) (σ.1 35) p c
def PMw (σ : HS) (w : List Nat) (p : Pg) (c : Nat) : Prop := σ.1 0 43 = nI w.length ∧ (∀ j, j < w.length → σ.1 28 (w.length - 1 - j) = nI (w.getD j 0)) ∧ σ.1 0 39 = nI (c + p.length) ∧ LM (σ.1 26) (σ.1 27) p c
def okP (c h j : Nat) : Prop := (h = 2 ∧ j = 6) ∨ (h = 12 ∧ j = 5) ∨ ((h = 34 ∨ h = 35) ∧ c ≤ j)
def okQ (c e h j : Nat) : Prop := (h = 0 ∧ (j = 39 ∨ j = 43)) ∨ ((h = 26 ∨ h = 27) ∧ c ≤ j ∧ j < e)
theorem okP_X {c : Nat} : ∀ h j, okP c h j → okX c h j := by intro h j; unfold okP okX; omega
theorem okQ_M {c e : Nat} : ∀ h j, okQ c e h j → okM c e h j := by intro h j; unfold okQ okM; omega
theorem ol0 : ∀ h j : Nat, olM h j → olX h j := by intro h j hh; exact hh.elim
def rkI (x : Int32) : Int32 := if x = 43 then 1 else if x = 45 then 1 else if x = 42 then 2 else if x = 47 then 2 else 0
theorem X_rankOf (x : Int32) (σ : HS) : FX5_rankOf x σ = some (rkI x, σ) := by
  unfold FX5_rankOf rkI
  by_cases h1 : x = 43
  · rw [if_pos h1, if_pos h1]
  rw [if_neg h1, if_neg h1]
  by_cases h2 : x = 45
  · rw [if_pos h2, if_pos h2]
  rw [if_neg h2, if_neg h2]
  by_cases h3 : x = 42
  · rw [if_pos h3, if_pos h3]
  rw [if_neg h3, if_neg h3]
  by_cases h4 : x = 47
  · rw [if_pos h4, if_pos h4]
  rw [if_neg h4, if_neg h4]
theorem rk_W {x r : Nat} (hx : isW x) (hr : r = 1 ∨ r = 2) : (rkI (nI (xkN x)) < nI r ↔ x = 6 ∨ rkN x < r) := by
  rcases hx with rfl | rfl | rfl | rfl | rfl <;> rcases hr with rfl | rfl <;> decide
theorem oc_W {x : Nat} (hx : isW x) (h6 : x ≠ 6) : xkN x = opX (ocN x) := by
  rcases hx with rfl | rfl | rfl | rfl | rfl <;> first | exact absurd rfl h6 | rfl
theorem X_putCode {σ : HS} {c : Nat} (x1 x2 : Int32) (h5 : σ.1 12 5 = nI c) (hc : c < 408) : FX9_putCode x1 x2 σ = some (pI (pI (pI σ 34 c x1) 35 c x2) 12 5 (nI (c + 1))) := by
  have i1 : ix (nI c) 408 = true := ix_nI hc (by omega)
  unfold FX9_putCode
  rw [h5, if_neg (show ¬ (408 : Int32) ≤ nI c from nI_ge (b := 408) hc (by omega)), gd_t i1]
  simp only [hl_]
  rw [cl_nI (by omega), pI_o (show 12 ≠ 34 by omega), h5, gd_t i1, cl_nI (by omega), pI_o (show 12 ≠ 35 by omega), pI_o (show 12 ≠ 34 by omega), h5, nI_1]
theorem M_emit {σ : HS} {c : Nat} (x1 x2 : Int32) (h39 : σ.1 0 39 = nI c) (hc : c < 840) : FX12_emit x1 x2 σ = some (pI (pI (pI σ 26 c x1) 27 c x2) 0 39 (nI (c + 1))) := by
  have i1 : ix (nI c) 840 = true := ix_nI hc (by omega)
  unfold FX12_emit
  rw [h39, gd_t i1]
  simp only [hl_]
  rw [cl_nI (by omega), pI_o (show 0 ≠ 26 by omega), h39, gd_t i1, cl_nI (by omega), pI_o (show 0 ≠ 27 by omega), pI_o (show 0 ≠ 26 by omega), h39, nI_1]
/-- one code more -/
theorem PX_put {σ : HS} {w : List Nat} {p : Pg} {c : Nat} (k : Nat) (n : Int32) (x1 x2 : Int32) (h : PXw σ w p c) (h1 : x1 = nI (opX k)) (h2 : k < 2 → x2 = n) : PXw (pI (pI (pI σ 34 (c + p.length) x1) 35 (c + p.length) x2) 12 5 (nI (c + p.length + 1))) w (p ++ [(k, n)]) c := by
  obtain ⟨a1, a2, a3, a4⟩ := h
  refine ⟨by rw [pI_o (by omega), pI_o (by omega), pI_o (by omega)]; exact a1, fun j hj => by rw [pI_o (by omega), pI_o (by omega), pI_o (by omega)]; exact a2 j hj, by rw [pI_s, pk_us, List.length_append]; rfl, ?_⟩
  refine XM_app p c _ (XM_eq p c (fun j hj1 hj2 => ⟨?_, ?_⟩) a4) ⟨?_, fun hk => ?_, trivial⟩
  · rw [pI_o (by omega), pI_o (by omega), pI_s, pk_un (by omega)]
  · rw [pI_o (by omega), pI_s, pk_un (by omega), pI_o (by omega)]
  · rw [pI_o (by omega), pI_o (by omega), pI_s, pk_us, h1]
  · rw [pI_o (by omega), pI_s, pk_us, h2 hk]
theorem PM_put {σ : HS} {w : List Nat} {p : Pg} {c : Nat} (k : Nat) (n : Int32) (x1 x2 : Int32) (h : PMw σ w p c) (h1 : x1 = nI k) (h2 : k < 2 → x2 = n) : PMw (pI (pI (pI σ 26 (c + p.length) x1) 27 (c + p.length) x2) 0 39 (nI (c + p.length + 1))) w (p ++ [(k, n)]) c := by
  obtain ⟨a1, a2, a3, a4⟩ := h
  refine ⟨by rw [pI_s, pk_un (by omega), pI_o (by omega), pI_o (by omega)]; exact a1, fun j hj => by rw [pI_o (by omega), pI_o (by omega), pI_o (by omega)]; exact a2 j hj, by rw [pI_s, pk_us, List.length_append]; rfl, ?_⟩
  refine LM_app p c _ (LM_eq p c (fun j hj1 hj2 => ⟨?_, ?_⟩) a4) ⟨?_, fun hk => ?_, trivial⟩
  · rw [pI_o (by omega), pI_o (by omega), pI_s, pk_un (by omega)]
  · rw [pI_o (by omega), pI_s, pk_un (by omega), pI_o (by omega)]
  · rw [pI_o (by omega), pI_o (by omega), pI_s, pk_us, h1]
  · rw [pI_o (by omega), pI_s, pk_us, h2 hk]
theorem X_pend {c r : Nat} (hr : r = 1 ∨ r = 2) : ∀ (w : List Nat) (p : Pg) (f q : Nat) (σ : HS), okR w q → PXw σ w p c → c + p.length + opN w ≤ 408 → w.length ≤ 21 → w.length < f → ∃ σ', FX5_putPending_0 f (nI r) σ = some σ' ∧ FR (okP c) olM σ σ' ∧ PXw σ' (pwW r w) (p ++ pwP r w) c := by
  intro w
  induction w with
  | nil =>
    intro p f q σ hq h hc hl hf
    obtain ⟨f, rfl⟩ : ∃ z, f = z + 1 := ⟨f - 1, by omega⟩
    rw [FX5_putPending_0, h.1, if_pos (show nI ([] : List Nat).length ≤ 0 by decide)]
    exact ⟨σ, rfl, FR.rf, by simpa [pwW, pwP] using h⟩
  | cons x w ih =>
    intro p f q σ hq h hc hl hf
    obtain ⟨f, rfl⟩ : ∃ z, f = z + 1 := ⟨f - 1, by omega⟩
    obtain ⟨a1, a2, a3, a4⟩ := id h
    simp only [List.length_cons] at a1 a2 hl hf
    have hx : isW x := by simp only [okR] at hq; exact hq.1
    have e0 := a2 0 (by omega)
    rw [show w.length + 1 - 1 - 0 = w.length by omega, show (x :: w).getD 0 0 = x from rfl] at e0
    have i21 : ix (nI w.length) 21 = true := ix_nI (by omega) (by omega)
    rw [FX5_putPending_0, a1, if_neg (show ¬ nI (w.length + 1) ≤ (0 : Int32) from nI_ge (a := 0) (by omega) (by omega)), s1I, gd_t i21, cl_nI (by omega), e0, X_rankOf, bdI_s]
    simp only [pwW, pwP]
    by_cases hs : x = 6 ∨ rkN x < r
    · rw [if_pos ((rk_W hx hr).mpr hs), if_pos hs, if_pos hs, List.append_nil]
      exact ⟨σ, rfl, FR.rf, h⟩
    · have h6 : x ≠ 6 := fun e => hs (Or.inl e)
      rw [if_neg (fun e => hs ((rk_W hx hr).mp e)), if_neg hs, if_neg hs]
      simp only [hl_]
      have ho : opN (x :: w) = opN w + 1 := by simp only [opN]; rw [if_neg h6]
      rw [a1, s1I, pI_s, pk_us, gd_t i21, cl_nI (by omega), pI_o (show 18 ≠ 2 by omega), e0, X_putCode (c := c + p.length) _ _ (by rw [pI_o (by omega)]; exact a3) (by omega), bdV_s]
      have hw : PXw (pI σ 2 6 (nI w.length)) w p c := by
        refine ⟨by rw [pI_s, pk_us], fun j hj => ?_, by rw [pI_o (by omega)]; exact a3, by rw [pI_o (by omega), pI_o (by omega)]; exact a4⟩
        have := a2 (j + 1) (by omega)
        rw [pI_o (by omega), show w.length - 1 - j = w.length + 1 - 1 - (j + 1) by omega, this]
        rfl
      have hq' : okR w (rkN x) := by simp only [okR] at hq; rw [if_neg h6] at hq; exact hq.2.2
      obtain ⟨σ', e1, f1, w1⟩ := ih (p ++ [(ocN x, 0)]) f _ _ hq' (PX_put (ocN x) 0 (nI (xkN x)) 0 hw (by rw [oc_W hx h6]) (fun _ => rfl)) (by rw [List.length_append]; show c + (p.length + 1) + opN w ≤ 408; omega) (by omega) (by omega)
      refine ⟨σ', e1, FR.tr ((((FR.rf.p (by unfold okP; omega)).p (by unfold okP; omega)).p (by unfold okP; omega)).p (by unfold okP; omega)) f1, ?_⟩
      rw [List.append_assoc] at w1; exact w1
theorem M_comes {c e r : Nat} {x1 : Int32} (he : e ≤ 840) (hr : (r = 1 ∧ x1 = 0) ∨ (r = 2 ∧ x1 = 1)) : ∀ (w : List Nat) (p : Pg) (f q : Nat) (σ : HS), okR w q → PMw σ w p c → c + p.length + opN w ≤ e → w.length ≤ 60 → w.length < f → ∃ σ', FX12_comesOut_0 f x1 σ = some σ' ∧ FR (okQ c e) olM σ σ' ∧ PMw σ' (pwW r w) (p ++ pwP r w) c := by
  intro w
  induction w with
  | nil =>
    intro p f q σ hq h hc hl hf
    obtain ⟨f, rfl⟩ : ∃ z, f = z + 1 := ⟨f - 1, by omega⟩
    rw [FX12_comesOut_0, h.1, if_pos (show nI ([] : List Nat).length ≤ 0 by decide)]
    exact ⟨σ, rfl, FR.rf, by simpa [pwW, pwP] using h⟩
  | cons x w ih =>
    intro p f q σ hq h hc hl hf
    obtain ⟨f, rfl⟩ : ∃ z, f = z + 1 := ⟨f - 1, by omega⟩
    obtain ⟨a1, a2, a3, a4⟩ := id h
    simp only [List.length_cons] at a1 a2 hl hf
    have hx : isW x := by simp only [okR] at hq; exact hq.1
    have e0 := a2 0 (by omega)
    rw [show w.length + 1 - 1 - 0 = w.length by omega, show (x :: w).getD 0 0 = x from rfl] at e0
    have i64 : ix (nI w.length) 64 = true := ix_nI (by omega) (by omega)
    rw [FX12_comesOut_0, a1, if_neg (show ¬ nI (w.length + 1) ≤ (0 : Int32) from nI_ge (a := 0) (by omega) (by omega)), s1I, gd_t i64]
    simp only [hl_]
    rw [cl_nI (by omega), e0]
    simp only [pwW, pwP]
    by_cases h6 : x = 6
    · rw [if_pos (show nI x = (6 : Int32) by rw [h6]; rfl), if_pos (Or.inl h6), if_pos (Or.inl h6), List.append_nil]
      exact ⟨σ, rfl, FR.rf, h⟩
    rw [if_neg (show ¬ nI x = (6 : Int32) from ne_I (b := 6) h6 (by unfold isW at hx; omega) (by omega))]
    by_cases hs : rkN x < r
    · have h89 : r = 2 ∧ (x = 8 ∨ x = 9) := by
        unfold rkN at hs
        by_cases hh : x = 8 ∨ x = 9
        · rw [if_pos hh] at hs; exact ⟨by omega, hh⟩
        · rw [if_neg hh] at hs; omega
      have hx1 : x1 = 1 := (hr.resolve_left (fun h => by omega)).2
      rw [if_pos (Or.inr hs), if_pos (Or.inr hs), List.append_nil, hx1, if_neg one_ne]
      rcases h89.2 with h8 | h9
      · rw [if_pos (show nI x = (8 : Int32) by rw [h8]; rfl)]
        exact ⟨σ, rfl, FR.rf, h⟩
      · rw [if_neg (show ¬ nI x = (8 : Int32) by rw [h9]; decide), if_pos (show nI x = (9 : Int32) by rw [h9]; rfl)]
        exact ⟨σ, rfl, FR.rf, h⟩
    · have hn : ¬ (x = 6 ∨ rkN x < r) := fun e => e.elim h6 hs
      rw [if_neg hn, if_neg hn]
      have ho : opN (x :: w) = opN w + 1 := by simp only [opN]; rw [if_neg h6]
      have hw : PMw (pI σ 0 43 (nI w.length)) w p c := by
        refine ⟨by rw [pI_s, pk_us], fun j hj => ?_, by rw [pI_s, pk_un (by omega)]; exact a3, by rw [pI_o (by omega), pI_o (by omega)]; exact a4⟩
        have := a2 (j + 1) (by omega)
        rw [pI_o (by omega), show w.length - 1 - j = w.length + 1 - 1 - (j + 1) by omega, this]
        rfl
      have hq' : okR w (rkN x) := by simp only [okR] at hq; rw [if_neg h6] at hq; exact hq.2.2
      obtain ⟨σ', e1, f1, w1⟩ := ih (p ++ [(ocN x, 0)]) f _ _ hq' (PM_put (ocN x) 0 (nI (ocN x)) 0 hw rfl (fun _ => rfl)) (by rw [List.length_append]; show c + (p.length + 1) + opN w ≤ e; omega) (by omega) (by omega)
      have e42 : FX12_comesOut_42 (FX12_comesOut_0 f) x1 (nI x) σ = some σ' := by
        unfold FX12_comesOut_42 FX12_comesOut_84
        simp only [hl_]
        rw [a1, s1I]
        have em : ∀ y : Int32, y = nI (ocN x) → (bdV (FX12_emit y (0 : Int32) (pI σ 0 43 (nI w.length))) fun σ_1 => FX12_comesOut_0 f x1 σ_1) = some σ' := by
          intro y hy
          rw [hy, M_emit (c := c + p.length) _ _ (by rw [pI_s, pk_un (by omega)]; exact a3) (by omega), bdV_s]
          exact e1
        rcases hx with rfl | rfl | rfl | rfl | rfl
        · exact absurd rfl h6
        · rw [if_pos (show nI 8 = (8 : Int32) from rfl)]; exact em _ rfl
        · rw [if_neg (show ¬ nI 9 = (8 : Int32) by decide), if_pos (show nI 9 = (9 : Int32) from rfl)]; exact em _ rfl
        · rw [if_neg (show ¬ nI 10 = (8 : Int32) by decide), if_neg (show ¬ nI 10 = (9 : Int32) by decide), if_pos (show nI 10 = (10 : Int32) from rfl)]; exact em _ rfl
        · rw [if_neg (show ¬ nI 15 = (8 : Int32) by decide), if_neg (show ¬ nI 15 = (9 : Int32) by decide), if_neg (show ¬ nI 15 = (10 : Int32) by decide)]; exact em _ rfl
      have fr : FR (okQ c e) olM σ σ' := FR.tr ((((FR.rf.p (by unfold okQ; omega)).p (by unfold okQ; omega)).p (by unfold okQ; omega)).p (by unfold okQ; omega)) f1
      rw [List.append_assoc] at w1
      refine ⟨σ', ?_, fr, w1⟩
      rcases hr with ⟨hr1, hx0⟩ | ⟨hr2, hx1⟩
      · rw [if_pos hx0]; exact e42
      · have h89 : x ≠ 8 ∧ x ≠ 9 := by
          constructor
          · intro e; subst e; exact hs (by rw [hr2]; decide)
          · intro e; subst e; exact hs (by rw [hr2]; decide)
        have hx' : x < 2 ^ 31 := by unfold isW at hx; omega
        rw [if_neg (show ¬ x1 = 0 by rw [hx1]; exact one_ne), if_neg (show ¬ nI x = (8 : Int32) from ne_I (b := 8) h89.1 hx' (by omega)), if_neg (show ¬ nI x = (9 : Int32) from ne_I (b := 9) h89.2 hx' (by omega))]
        exact e42
