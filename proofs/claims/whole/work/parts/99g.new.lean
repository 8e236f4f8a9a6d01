/-! A new text begins: the class. -/
theorem FR.r {ok okl : Nat → Nat → Prop} {σ σ1 : HS} {h : Nat} {f : Nat → Int32} (h1 : FR ok okl σ σ1) (hk : ∀ j, ok h j) : FR ok okl σ (rI σ1 h f) := by
  refine ⟨fun x j b => ?_, fun x j b => by rw [rI_2]; exact h1.2 x j b⟩
  rw [← h1.1 x j b]
  by_cases e : x = h
  · subst e; exact absurd (hk j) b
  · rw [rI_ne e]
def okCp (h _j : Nat) : Prop := h = 3 ∨ (22 ≤ h ∧ h ≤ 28)
theorem cp0 {f g : Nat → Int32} {n j : Nat} (hj : j < n) : va_cpy f g 0 0 n j = f j := by
  rw [cpy_a, if_pos (by omega), Nat.zero_add, Nat.sub_zero]
theorem X_copyNew (σ : HS) : ∃ σ', FX9_copyFrom σ = some σ' ∧ FR okCp olM σ σ' ∧ (∀ j, j < 6 → σ'.1 3 j = σ.1 12 j) ∧ (∀ j, j < 10 → σ'.1 22 j = σ.1 29 j) ∧ (∀ j, j < 5 → σ'.1 23 j = σ.1 30 j ∧ σ'.1 24 j = σ.1 31 j) ∧ (∀ j, j < 8 → σ'.1 25 j = σ.1 32 j) ∧ (∀ j, j < 4 → σ'.1 26 j = σ.1 33 j) ∧ ∀ j, j < 408 → σ'.1 27 j = σ.1 34 j ∧ σ'.1 28 j = σ.1 35 j := by
  refine ⟨_, rfl, ?_, fun j hj => ?_, fun j hj => ?_, fun j hj => ⟨?_, ?_⟩, fun j hj => ?_, fun j hj => ?_, fun j hj => ⟨?_, ?_⟩⟩
  · exact ((((((((((((FR.rf.p (Or.inl rfl)).p (Or.inl rfl)).p (Or.inl rfl)).p (Or.inl rfl)).p (Or.inl rfl)).p (Or.inl rfl)).r (fun _ => Or.inr (by omega))).r (fun _ => Or.inr (by omega))).r (fun _ => Or.inr (by omega))).r (fun _ => Or.inr (by omega))).r (fun _ => Or.inr (by omega))).r (fun _ => Or.inr (by omega))).r (fun _ => Or.inr (by omega))
  · have h6 : j = 0 ∨ j = 1 ∨ j = 2 ∨ j = 3 ∨ j = 4 ∨ j = 5 := by omega
    rcases h6 with rfl | rfl | rfl | rfl | rfl | rfl <;> rfl
  · exact cp0 (f := σ.1 29) (g := σ.1 22) hj
  · exact cp0 (f := σ.1 30) (g := σ.1 23) hj
  · exact cp0 (f := σ.1 31) (g := σ.1 24) hj
  · exact cp0 (f := σ.1 32) (g := σ.1 25) hj
  · exact cp0 (f := σ.1 33) (g := σ.1 26) hj
  · exact cp0 (f := σ.1 34) (g := σ.1 27) hj
  · exact cp0 (f := σ.1 35) (g := σ.1 28) hj
theorem X_begin (σ : HS) : ∃ σ', FX7_begin σ = some σ' ∧ kX [14] σ σ' ∧ (∀ j, j < 10 → σ'.1 14 j = σ.1 22 j) ∧ (∀ j, j < 8 → σ'.1 14 (10 + j) = σ.1 25 j) ∧ (∀ j, 18 ≤ j → j < 28 → σ'.1 14 j = 0) ∧ σ'.1 14 28 = σ.1 3 2 ∧ σ'.1 14 29 = σ.1 3 3 ∧ σ'.1 14 30 = 0 ∧ σ'.1 14 31 = 0 ∧ σ'.1 14 32 = -2 := by
  obtain ⟨σ1, e1, k1, r1⟩ := X_fill (a := 14) (N := 33) 0 (by omega) σ
  have e22 : σ1.1 22 = σ.1 22 := k1.1 22 (by decide)
  have e25 : σ1.1 25 = σ.1 25 := k1.1 25 (by decide)
  have e3 : σ1.1 3 = σ.1 3 := k1.1 3 (by decide)
  obtain ⟨σ2, h2⟩ : ∃ τ, τ = rI σ1 14 (va_cpy (σ1.1 22) (σ1.1 14) 0 0 10) := ⟨_, rfl⟩
  have z2 : σ2.1 14 = va_cpy (σ1.1 22) (σ1.1 14) 0 0 10 := by rw [h2, rI_eq]
  have y2 : ∀ a, a ≠ 14 → σ2.1 a = σ1.1 a := fun a ha => by rw [h2, rI_ne ha]
  obtain ⟨σ3, h3⟩ : ∃ τ, τ = rI σ2 14 (va_cpy (σ2.1 25) (σ2.1 14) 0 10 8) := ⟨_, rfl⟩
  have z3 : σ3.1 14 = va_cpy (σ2.1 25) (σ2.1 14) 0 10 8 := by rw [h3, rI_eq]
  have y3 : ∀ a, a ≠ 14 → σ3.1 a = σ1.1 a := fun a ha => by rw [h3, rI_ne ha, y2 a ha]
  obtain ⟨σ4, h4⟩ : ∃ τ, τ = pI (pI (pI σ3 14 28 (σ3.1 3 2)) 14 29 (σ3.1 3 3)) 14 32 (-2) := ⟨_, rfl⟩
  have c1 : ∀ j, σ3.1 14 j = if 10 ≤ j ∧ j < 18 then σ.1 25 (j - 10) else if j < 10 then σ.1 22 j else σ1.1 14 j := by
    intro j
    rw [z3, cpy_a, z2, cpy_a, y2 25 (by omega), e25, e22]
    by_cases q1 : 10 ≤ j ∧ j < 18
    · rw [if_pos (by omega), if_pos q1, Nat.zero_add]
    · rw [if_neg (by omega), if_neg q1]
      by_cases q2 : j < 10
      · rw [if_pos (by omega), if_pos q2, Nat.zero_add, Nat.sub_zero]
      · rw [if_neg (by omega), if_neg q2]
  have c2 : ∀ j, j ≠ 28 → j ≠ 29 → j ≠ 32 → σ4.1 14 j = σ3.1 14 j := fun j q1 q2 q3 => by rw [h4, pI_s, pk_un q3, pI_s, pk_un q2, pI_s, pk_un q1]
  refine ⟨σ4, ?_, ?_, fun j hj => ?_, fun j hj => ?_, fun j q1 q2 => ?_, ?_, ?_, ?_, ?_, ?_⟩
  · unfold FX7_begin
    rw [e1, bdV_s]
    simp only [hl_]
    rw [← h2, ← h3, h4]
    rfl
  · rw [h4, h3, h2]
    exact ((((k1.rr (by decide)).rr (by decide)).pp (by decide)).pp (by decide)).pp (by decide)
  · rw [c2 j (by omega) (by omega) (by omega), c1, if_neg (by omega), if_pos hj]
  · rw [c2 _ (by omega) (by omega) (by omega), c1, if_pos (by omega), Nat.add_sub_cancel_left]
  · rw [c2 _ (by omega) (by omega) (by omega), c1, if_neg (by omega), if_neg (by omega)]; exact r1 j (by omega)
  · rw [h4, pI_s, pk_un (by omega), pI_s, pk_un (by omega), pI_s, pk_us, y3 3 (by omega), e3]
  · rw [h4, pI_s, pk_un (by omega), pI_s, pk_us, y3 3 (by omega), e3]
  · rw [c2 _ (by omega) (by omega) (by omega), c1, if_neg (by omega), if_neg (by omega)]; exact r1 30 (by omega)
  · rw [c2 _ (by omega) (by omega) (by omega), c1, if_neg (by omega), if_neg (by omega)]; exact r1 31 (by omega)
  · rw [h4, pI_s, pk_us]
theorem X_clear : ∀ (n k f : Nat) (σ : HS), k + n = 3 → n < f → (∀ j, j < k → σ.1 38 j = 0) → ∃ σ', FX3_clearSlots_2 f (nI k) σ = some σ' ∧ kX [38] σ σ' ∧ ∀ j, j < 3 → σ'.1 38 j = 0 := by
  intro n
  induction n with
  | zero =>
    intro k f σ hk hf h
    obtain ⟨f, rfl⟩ : ∃ z, f = z + 1 := ⟨f - 1, by omega⟩
    rw [FX3_clearSlots_2, if_pos (show (3 : Int32) ≤ nI k from nI_le (a := 3) (by omega) (by omega))]
    exact ⟨σ, rfl, kX.rf, fun j hj => h j (by omega)⟩
  | succ n ih =>
    intro k f σ hk hf h
    obtain ⟨f, rfl⟩ : ∃ z, f = z + 1 := ⟨f - 1, by omega⟩
    have e : FX3_clearSlots_2 (f + 1) (nI k) σ = FX3_clearSlots_2 f (nI (k + 1)) (pI σ 38 k 0) := by
      rw [FX3_clearSlots_2, if_neg (show ¬ (3 : Int32) ≤ nI k from nI_ge (b := 3) (by omega) (by omega)), gd_t (ix_nI (by omega) (by omega))]
      simp only [hl_]
      rw [cl_nI (by omega), show vp_nar .boolean (0 : Int32) = 0 from rfl, nI_1]
    obtain ⟨σ', e1, k1, r1⟩ := ih (k + 1) f (pI σ 38 k 0) (by omega) (by omega) (fun j hj => by
      rw [pI_s]
      by_cases hj' : j = k
      · rw [hj', pk_us]
      · rw [pk_un hj']; exact h j (by omega))
    exact ⟨σ', e.trans e1, (kX.p (by decide)).tr k1, r1⟩
/-! .. and the reference. -/
theorem M_clear : ∀ (n k f : Nat) (σ : HS), k + n = 3 → n < f → (∀ j, j < k → σ.1 43 j = 0) → ∃ σ', FX12_read_214 f (nI k) σ = some (0, σ') ∧ kM [43] [] σ σ' ∧ ∀ j, j < 3 → σ'.1 43 j = 0 := by
  intro n
  induction n with
  | zero =>
    intro k f σ hk hf h
    obtain ⟨f, rfl⟩ : ∃ z, f = z + 1 := ⟨f - 1, by omega⟩
    rw [FX12_read_214, if_pos (show (3 : Int32) ≤ nI k from nI_le (a := 3) (by omega) (by omega))]
    exact ⟨σ, rfl, kM.rf, fun j hj => h j (by omega)⟩
  | succ n ih =>
    intro k f σ hk hf h
    obtain ⟨f, rfl⟩ : ∃ z, f = z + 1 := ⟨f - 1, by omega⟩
    have e : FX12_read_214 (f + 1) (nI k) σ = FX12_read_214 f (nI (k + 1)) (pI σ 43 k 0) := by
      rw [FX12_read_214, if_neg (show ¬ (3 : Int32) ≤ nI k from nI_ge (b := 3) (by omega) (by omega)), gd_t (ix_nI (by omega) (by omega))]
      simp only [hl_]
      rw [cl_nI (by omega), show vp_nar .boolean (0 : Int32) = 0 from rfl, nI_1]
    obtain ⟨σ', e1, k1, r1⟩ := ih (k + 1) f (pI σ 43 k 0) (by omega) (by omega) (fun j hj => by
      rw [pI_s]
      by_cases hj' : j = k
      · rw [hj', pk_us]
      · rw [pk_un hj']; exact h j (by omega))
    exact ⟨σ', e.trans e1, kM.tr (kM.pR (by decide) (by decide)) k1, r1⟩
theorem M_begins_2 : ∀ (n k f : Nat) (σ : HS), k + n = 33 → n < f → (∀ j, j < k → σ.1 32 j = 0) → ∃ σ', FX12_begins_2 f (nI k) σ = FX12_begins_23 fu 0 σ' ∧ kM [32] [] σ σ' ∧ ∀ j, j < 33 → σ'.1 32 j = 0 := by
  intro n
  induction n with
  | zero =>
    intro k f σ hk hf h
    obtain ⟨f, rfl⟩ : ∃ z, f = z + 1 := ⟨f - 1, by omega⟩
    rw [FX12_begins_2, if_pos (show (33 : Int32) ≤ nI k from nI_le (a := 33) (by omega) (by omega))]
    exact ⟨σ, rfl, kM.rf, fun j hj => h j (by omega)⟩
  | succ n ih =>
    intro k f σ hk hf h
    obtain ⟨f, rfl⟩ : ∃ z, f = z + 1 := ⟨f - 1, by omega⟩
    have e : FX12_begins_2 (f + 1) (nI k) σ = FX12_begins_2 f (nI (k + 1)) (pI σ 32 k 0) := by
      rw [FX12_begins_2, if_neg (show ¬ (33 : Int32) ≤ nI k from nI_ge (b := 33) (by omega) (by omega)), gd_t (ix_nI (by omega) (by omega))]
      simp only [hl_]
      rw [cl_nI (by omega), nI_1]
    obtain ⟨σ', e1, k1, r1⟩ := ih (k + 1) f (pI σ 32 k 0) (by omega) (by omega) (fun j hj => by
      rw [pI_s]
      by_cases hj' : j = k
      · rw [hj', pk_us]
      · rw [pk_un hj']; exact h j (by omega))
    exact ⟨σ', e.trans e1, kM.tr (kM.pR (by decide) (by decide)) k1, r1⟩
theorem M_begins_23 {s nm : Nat} (hs : s < 2) (hnm : nm ≤ 10) : ∀ (n k f : Nat) (σ : HS), σ.1 0 18 = nI s → σ.1 8 s = nI nm → k + n = nm → n < f → (∀ j, j < k → σ.1 32 j = σ.1 9 (10 * s + j)) → ∃ σ', FX12_begins_23 f (nI k) σ = FX12_begins_59 fu 0 σ' ∧ kM [32] [] σ σ' ∧ (∀ j, j < nm → σ'.1 32 j = σ.1 9 (10 * s + j)) ∧ ∀ j, nm ≤ j → σ'.1 32 j = σ.1 32 j := by
  intro n
  induction n with
  | zero =>
    intro k f σ h18 h8 hk hf h
    obtain ⟨f, rfl⟩ : ∃ z, f = z + 1 := ⟨f - 1, by omega⟩
    have em : FX12_many σ = some (nI nm, σ) := by
      unfold FX12_many
      rw [h18, gd_t (ix_nI hs (by omega)), cl_nI (by omega), h8]
    rw [FX12_begins_23, em, bdI_s, if_pos (nI_le (by omega) (by omega))]
    exact ⟨σ, rfl, kM.rf, fun j hj => h j (by omega), fun j _ => rfl⟩
  | succ n ih =>
    intro k f σ h18 h8 hk hf h
    obtain ⟨f, rfl⟩ : ∃ z, f = z + 1 := ⟨f - 1, by omega⟩
    have em : FX12_many σ = some (nI nm, σ) := by
      unfold FX12_many
      rw [h18, gd_t (ix_nI hs (by omega)), cl_nI (by omega), h8]
    have e10 : (10 : Int32) * nI s + nI k = nI (10 * s + k) := by rw [show (10 : Int32) = nI 10 from rfl, pk_mul, nI_add]
    have e : FX12_begins_23 (f + 1) (nI k) σ = FX12_begins_23 f (nI (k + 1)) (pI σ 32 k (σ.1 9 (10 * s + k))) := by
      rw [FX12_begins_23, em, bdI_s, if_neg (nI_ge (by omega) (by omega)), h18, e10, gd_t (ix_nI (k := 10 * s + k) (n := 20) (by omega) (by omega)), gd_t (ix_nI (k := k) (n := 33) (by omega) (by omega))]
      simp only [hl_]
      rw [cl_nI (show k < 2 ^ 31 by omega), cl_nI (show 10 * s + k < 2 ^ 31 by omega), nI_1]
    obtain ⟨σ', e1, k1, r1, r2⟩ := ih (k + 1) f (pI σ 32 k (σ.1 9 (10 * s + k))) (by rw [pI_o (by omega)]; exact h18) (by rw [pI_o (by omega)]; exact h8) (by omega) (by omega) (fun j hj => by
      rw [pI_s, pI_o (show 9 ≠ 32 by omega)]
      by_cases hj' : j = k
      · rw [hj', pk_us]
      · rw [pk_un hj']; exact h j (by omega))
    refine ⟨σ', e.trans e1, kM.tr (kM.pR (by decide) (by decide)) k1, fun j hj => ?_, fun j hj => ?_⟩
    · rw [r1 j hj, pI_o (by omega)]
    · rw [r2 j hj, pI_s, pk_un (by omega)]
theorem M_begins_59 {s : Nat} (hs : s < 2) : ∀ (n k f : Nat) (σ : HS), σ.1 0 18 = nI s → k + n = 8 → n < f → (∀ j, j < k → σ.1 32 (10 + j) = σ.1 14 (8 * s + j)) → ∃ σ', FX12_begins_59 f (nI k) σ = some σ' ∧ kM [32] [49] σ σ' ∧ (∀ j, j < 8 → σ'.1 32 (10 + j) = σ.1 14 (8 * s + j)) ∧ (σ'.1 32 18 = σ.1 16 s ∧ σ'.1 32 19 = σ.1 17 s ∧ σ'.1 32 22 = -2) ∧ ∀ j, j < 10 ∨ j = 20 ∨ j = 21 ∨ 23 ≤ j → σ'.1 32 j = σ.1 32 j := by
  intro n
  induction n with
  | zero =>
    intro k f σ h18 hk hf h
    obtain ⟨f, rfl⟩ : ∃ z, f = z + 1 := ⟨f - 1, by omega⟩
    have is : ix (nI s) 2 = true := ix_nI hs (by omega)
    obtain ⟨τ, hτ⟩ : ∃ τ, τ = pI (pI (pI σ 32 18 (σ.1 16 s)) 32 19 (σ.1 17 s)) 32 22 (-2) := ⟨_, rfl⟩
    have t18 : τ.1 0 18 = nI s := by rw [hτ, pI_o (by omega), pI_o (by omega), pI_o (by omega)]; exact h18
    refine ⟨pI τ 0 49 (τ.1 18 s), ?_, ?_, fun j hj => ?_, ⟨?_, ?_, ?_⟩, fun j hj => ?_⟩
    · rw [FX12_begins_59, if_pos (show (8 : Int32) ≤ nI k from nI_le (a := 8) (by omega) (by omega)), h18, gd_t is]
      simp only [hl_]
      rw [pI_o (show (0 : Nat) ≠ 32 by omega), h18, gd_t is, cl_nI (by omega), pI_o (show (17 : Nat) ≠ 32 by omega), ← hτ, t18, gd_t is, cl_nI (by omega)]
    · rw [hτ]
      exact kM.tr (kM.tr (kM.tr (kM.pR (by decide) (by decide)) (kM.pR (by decide) (by decide))) (kM.pR (by decide) (by decide))) (kM.pF (by decide))
    · rw [pI_o (by omega), hτ, pI_s, pk_un (by omega), pI_s, pk_un (by omega), pI_s, pk_un (by omega)]; exact h j (by omega)
    · rw [pI_o (by omega), hτ, pI_s, pk_un (by omega), pI_s, pk_un (by omega), pI_s, pk_us]
    · rw [pI_o (by omega), hτ, pI_s, pk_un (by omega), pI_s, pk_us]
    · rw [pI_o (by omega), hτ, pI_s, pk_us]
    · rw [pI_o (by omega), hτ, pI_s, pk_un (by omega), pI_s, pk_un (by omega), pI_s, pk_un (by omega)]
  | succ n ih =>
    intro k f σ h18 hk hf h
    obtain ⟨f, rfl⟩ : ∃ z, f = z + 1 := ⟨f - 1, by omega⟩
    have e8 : (8 : Int32) * nI s + nI k = nI (8 * s + k) := by rw [show (8 : Int32) = nI 8 from rfl, pk_mul, nI_add]
    have e10 : (10 : Int32) + nI k = nI (10 + k) := by rw [show (10 : Int32) = nI 10 from rfl, nI_add]
    have e : FX12_begins_59 (f + 1) (nI k) σ = FX12_begins_59 f (nI (k + 1)) (pI σ 32 (10 + k) (σ.1 14 (8 * s + k))) := by
      rw [FX12_begins_59, if_neg (show ¬ (8 : Int32) ≤ nI k from nI_ge (b := 8) (by omega) (by omega)), h18, e8, e10, gd_t (ix_nI (k := 8 * s + k) (n := 16) (by omega) (by omega)), gd_t (ix_nI (k := 10 + k) (n := 33) (by omega) (by omega))]
      simp only [hl_]
      rw [cl_nI (show 10 + k < 2 ^ 31 by omega), cl_nI (show 8 * s + k < 2 ^ 31 by omega), nI_1]
    obtain ⟨σ', e1, k1, r1, ⟨r2, r3, r4⟩, r5⟩ := ih (k + 1) f (pI σ 32 (10 + k) (σ.1 14 (8 * s + k))) (by rw [pI_o (by omega)]; exact h18) (by omega) (by omega) (fun j hj => by
      rw [pI_s, pI_o (show 14 ≠ 32 by omega)]
      by_cases hj' : j = k
      · rw [hj', pk_us]
      · rw [pk_un (by omega)]; exact h j (by omega))
    refine ⟨σ', e.trans e1, kM.tr (kM.pR (by decide) (by decide)) k1, fun j hj => ?_, ⟨?_, ?_, r4⟩, fun j hj => ?_⟩
    · rw [r1 j hj, pI_o (by omega)]
    · rw [r2, pI_o (by omega)]
    · rw [r3, pI_o (by omega)]
    · rw [r5 j hj, pI_s, pk_un (by omega)]
theorem M_begins {s nm : Nat} (hs : s < 2) (hnm : nm ≤ 10) {σ : HS} (h18 : σ.1 0 18 = nI s) (h8 : σ.1 8 s = nI nm) : ∃ σ', FX12_begins σ = some σ' ∧ kM [32] [49] σ σ' ∧ (∀ j, j < nm → σ'.1 32 j = σ.1 9 (10 * s + j)) ∧ (∀ j, nm ≤ j → j < 10 → σ'.1 32 j = 0) ∧ (∀ j, j < 8 → σ'.1 32 (10 + j) = σ.1 14 (8 * s + j)) ∧ (σ'.1 32 18 = σ.1 16 s ∧ σ'.1 32 19 = σ.1 17 s ∧ σ'.1 32 22 = -2) ∧ ∀ j, j = 20 ∨ j = 21 ∨ (23 ≤ j ∧ j < 33) → σ'.1 32 j = 0 := by
  obtain ⟨σ1, e1, k1, r1⟩ := M_begins_2 33 0 fu σ (by omega) (by show 33 < 5000; omega) (fun j hj => by omega)
  obtain ⟨σ2, e2, k2, r2, q2⟩ := M_begins_23 hs hnm nm 0 fu σ1 (by rw [k1.2.1 18 (by decide)]; exact h18) (by rw [k1.1 8 (by decide) (by decide)]; exact h8) (by omega) (by show nm < 5000; omega) (fun j hj => by omega)
  obtain ⟨σ3, e3, k3, r3, ⟨a1, a2, a3⟩, q3⟩ := M_begins_59 hs 8 0 fu σ2 (by rw [k2.2.1 18 (by decide), k1.2.1 18 (by decide)]; exact h18) (by omega) (by show 8 < 5000; omega) (fun j hj => by omega)
  have k12 : kM [32] [] σ σ2 := k1.tr k2
  refine ⟨σ3, ?_, (k12.up (fun _ h => h) (by simp)).tr k3, fun j hj => ?_, fun j h1 h2 => ?_, fun j hj => ?_, ⟨?_, ?_, a3⟩, fun j hj => ?_⟩
  · unfold FX12_begins
    rw [show FX12_begins_2 fu (0 : Int32) σ = FX12_begins_23 fu 0 σ1 from e1, show FX12_begins_23 fu (0 : Int32) σ1 = FX12_begins_59 fu 0 σ2 from e2]
    exact e3
  · rw [q3 j (by omega), r2 j hj, k1.1 9 (by decide) (by decide)]
  · rw [q3 j (by omega), q2 j h1]; exact r1 j (by omega)
  · rw [r3 j hj, k12.1 14 (by decide) (by decide)]
  · rw [a1, k12.1 16 (by decide) (by decide)]
  · rw [a2, k12.1 17 (by decide) (by decide)]
  · rw [q3 j (by omega), q2 j (by omega)]; exact r1 j (by omega)
