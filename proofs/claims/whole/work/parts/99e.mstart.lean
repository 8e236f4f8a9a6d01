/-! read, up to its first tell: the reference. -/
theorem M_copy {b : Nat → Nat} {L : Nat} (hL : L ≤ 2000) : ∀ (n i f : Nat) (σ : HS), σ.1 0 4 = nI L → (∀ j, j < L → σ.1 1 j &&& 255 = nI (b j)) → (∀ j, j < i → σ.1 2 j &&& 255 = nI (b j)) → i + n = L → n < f → ∃ σ' g, FX12_read_10 f (nI i) σ = FX12_read_10 (g + 1) (nI L) σ' ∧ kN [2] [] [] σ σ' ∧ ∀ j, j < L → σ'.1 2 j &&& 255 = nI (b j) := by
  intro n
  induction n with
  | zero =>
    intro i f σ h4 h1 h2 hi hf
    have e : i = L := by omega
    subst e
    exact ⟨σ, f - 1, by rw [show f - 1 + 1 = f by omega], kN.rf, h2⟩
  | succ n ih =>
    intro i f σ h4 h1 h2 hi hf
    obtain ⟨f, rfl⟩ : ∃ z, f = z + 1 := ⟨f - 1, by omega⟩
    have i2 : ix (nI i) 2000 = true := ix_nI (by omega) (by omega)
    have e : FX12_read_10 (f + 1) (nI i) σ = FX12_read_10 f (nI (i + 1)) (pI σ 2 i (vp_nar .byte (σ.1 1 i))) := by
      rw [FX12_read_10, h4, if_neg (nI_ge (by omega) (by omega)), gd_t i2, gd_t i2]
      simp only [hl_]
      rw [cl_nI (by omega), nI_1]
    have kp : kN [2] [] [] σ (pI σ 2 i (vp_nar .byte (σ.1 1 i))) := kN.rf.pR (by decide) (by decide)
    obtain ⟨σ', g, e1, k1, r1⟩ := ih (i + 1) f (pI σ 2 i (vp_nar .byte (σ.1 1 i))) (by rw [pI_o (by omega)]; exact h4) (fun j hj => by rw [pI_o (by omega)]; exact h1 j hj) (fun j hj => by
      rw [pI_s]
      by_cases hj' : j = i
      · rw [hj', pk_us, nar_255]; exact h1 i (by omega)
      · rw [pk_un hj']; exact h2 j (by omega)) (by omega) (by omega)
    exact ⟨σ', g, e.trans e1, kp.tr k1, r1⟩
def okP4 (s h j : Nat) : Prop := (h = 14 ∧ 8 * s ≤ j ∧ j < 8 * s + 8) ∨ ((h = 19 ∨ h = 20) ∧ 4 * s ≤ j ∧ j < 4 * s + 4)
theorem M_plain_71 {s : Nat} (hs : s < 2) : ∀ (n k f : Nat) (σ : HS), k + n = 4 → n < f → (∀ j, j < k → σ.1 19 (4 * s + j) = 0 ∧ σ.1 20 (4 * s + j) = 0) → ∃ σ', FX12_plain_71 f (nI s) (nI k) σ = some σ' ∧ FR (fun h j => (h = 19 ∨ h = 20) ∧ 4 * s ≤ j ∧ j < 4 * s + 4) olM σ σ' ∧ ∀ j, j < 4 → σ'.1 19 (4 * s + j) = 0 ∧ σ'.1 20 (4 * s + j) = 0 := by
  intro n
  induction n with
  | zero =>
    intro k f σ hk hf h
    obtain ⟨f, rfl⟩ : ∃ z, f = z + 1 := ⟨f - 1, by omega⟩
    rw [FX12_plain_71, if_pos (show (4 : Int32) ≤ nI k from nI_le (a := 4) (by omega) (by omega))]
    exact ⟨σ, rfl, FR.rf, fun j hj => h j (by omega)⟩
  | succ n ih =>
    intro k f σ hk hf h
    obtain ⟨f, rfl⟩ : ∃ z, f = z + 1 := ⟨f - 1, by omega⟩
    have e4 : (4 : Int32) * nI s + nI k = nI (4 * s + k) := by rw [show (4 : Int32) = nI 4 from rfl, pk_mul, nI_add]
    have i8 : ix (nI (4 * s + k)) 8 = true := ix_nI (by omega) (by omega)
    obtain ⟨τ, hτ⟩ : ∃ τ, τ = pI (pI σ 19 (4 * s + k) 0) 20 (4 * s + k) 0 := ⟨_, rfl⟩
    have e : FX12_plain_71 (f + 1) (nI s) (nI k) σ = FX12_plain_71 f (nI s) (nI (k + 1)) τ := by
      rw [FX12_plain_71, if_neg (show ¬ (4 : Int32) ≤ nI k from nI_ge (b := 4) (by omega) (by omega)), e4, gd_t i8]
      simp only [hl_]
      rw [gd_t i8, cl_nI (by omega), ← hτ, nI_1]
    have fτ : FR (fun h j => (h = 19 ∨ h = 20) ∧ 4 * s ≤ j ∧ j < 4 * s + 4) olM σ τ := by rw [hτ]; exact (FR.rf.p ⟨Or.inl rfl, by omega, by omega⟩).p ⟨Or.inr rfl, by omega, by omega⟩
    obtain ⟨σ', e1, k1, r1⟩ := ih (k + 1) f τ (by omega) (by omega) (fun j hj => by
      by_cases hj' : j = k
      · rw [hτ, hj']; exact ⟨by rw [pI_o (by omega), pI_s, pk_us], by rw [pI_s, pk_us]⟩
      · rw [hτ]; exact ⟨by rw [pI_o (by omega), pI_s, pk_un (by omega)]; exact (h j (by omega)).1, by rw [pI_s, pk_un (by omega), pI_o (by omega)]; exact (h j (by omega)).2⟩)
    exact ⟨σ', e.trans e1, fτ.tr k1, r1⟩
theorem M_plain_44 {s : Nat} (hs : s < 2) : ∀ (n k f : Nat) (σ : HS), k + n = 8 → n < f → (∀ j, j < k → σ.1 14 (8 * s + j) = -2) → ∃ σ', FX12_plain_44 f (nI s) (nI k) σ = some σ' ∧ FR (okP4 s) olM σ σ' ∧ (∀ j, j < 8 → σ'.1 14 (8 * s + j) = -2) ∧ ∀ j, j < 4 → σ'.1 19 (4 * s + j) = 0 ∧ σ'.1 20 (4 * s + j) = 0 := by
  intro n
  induction n with
  | zero =>
    intro k f σ hk hf h
    obtain ⟨f, rfl⟩ : ∃ z, f = z + 1 := ⟨f - 1, by omega⟩
    obtain ⟨σ', e1, k1, r1⟩ := M_plain_71 hs 4 0 fu σ (by omega) (by show 4 < 5000; omega) (fun j hj => by omega)
    refine ⟨σ', ?_, k1.up (fun h j hh => Or.inr hh) (fun _ _ h => h), fun j hj => ?_, r1⟩
    · rw [FX12_plain_44, if_pos (show (8 : Int32) ≤ nI k from nI_le (a := 8) (by omega) (by omega))]
      exact e1
    · rw [k1.1 14 _ (by omega)]; exact h j (by omega)
  | succ n ih =>
    intro k f σ hk hf h
    obtain ⟨f, rfl⟩ : ∃ z, f = z + 1 := ⟨f - 1, by omega⟩
    have e8 : (8 : Int32) * nI s + nI k = nI (8 * s + k) := by rw [show (8 : Int32) = nI 8 from rfl, pk_mul, nI_add]
    have i16 : ix (nI (8 * s + k)) 16 = true := ix_nI (by omega) (by omega)
    obtain ⟨τ, hτ⟩ : ∃ τ, τ = pI σ 14 (8 * s + k) (-2) := ⟨_, rfl⟩
    have e : FX12_plain_44 (f + 1) (nI s) (nI k) σ = FX12_plain_44 f (nI s) (nI (k + 1)) τ := by
      rw [FX12_plain_44, if_neg (show ¬ (8 : Int32) ≤ nI k from nI_ge (b := 8) (by omega) (by omega)), e8, gd_t i16]
      simp only [hl_]
      rw [cl_nI (by omega), ← hτ, nI_1]
    have fτ : FR (okP4 s) olM σ τ := by rw [hτ]; exact FR.rf.p (Or.inl ⟨rfl, by omega, by omega⟩)
    obtain ⟨σ', e1, k1, r1, r2⟩ := ih (k + 1) f τ (by omega) (by omega) (fun j hj => by
      rw [hτ, pI_s]
      by_cases hj' : j = k
      · rw [hj', pk_us]
      · rw [pk_un (by omega)]; exact h j (by omega))
    exact ⟨σ', e.trans e1, fτ.tr k1, r1, r2⟩
def okPM (s h j : Nat) : Prop := okP4 s h j ∨ ((h = 8 ∨ h = 11 ∨ (15 ≤ h ∧ h ≤ 18)) ∧ j = s)
theorem M_plain {s : Nat} (hs : s < 2) (σ : HS) : ∃ σ', FX12_plain (nI s) σ = some σ' ∧ FR (okPM s) olM σ σ' ∧ (σ'.1 8 s = 0 ∧ σ'.1 11 s = 0 ∧ σ'.1 15 s = 0 ∧ σ'.1 16 s = 0 ∧ σ'.1 17 s = 0 ∧ σ'.1 18 s = 0) ∧ (∀ j, j < 8 → σ'.1 14 (8 * s + j) = -2) ∧ ∀ j, j < 4 → σ'.1 19 (4 * s + j) = 0 ∧ σ'.1 20 (4 * s + j) = 0 := by
  have is : ix (nI s) 2 = true := ix_nI hs (by omega)
  obtain ⟨τ, hτ⟩ : ∃ τ, τ = pI (pI (pI (pI (pI (pI σ 8 s 0) 11 s 0) 15 s 0) 16 s 0) 17 s 0) 18 s 0 := ⟨_, rfl⟩
  have fτ : FR (okPM s) olM σ τ := by
    rw [hτ]
    exact (((((FR.rf.p (Or.inr ⟨by omega, rfl⟩)).p (Or.inr ⟨by omega, rfl⟩)).p (Or.inr ⟨by omega, rfl⟩)).p (Or.inr ⟨by omega, rfl⟩)).p (Or.inr ⟨by omega, rfl⟩)).p (Or.inr ⟨by omega, rfl⟩)
  obtain ⟨σ', e1, k1, r1, r2⟩ := M_plain_44 hs 8 0 fu τ (by omega) (by show 8 < 5000; omega) (fun j hj => by omega)
  refine ⟨σ', ?_, fτ.tr (k1.up (fun _ _ h => Or.inl h) (fun _ _ h => h)), ⟨?_, ?_, ?_, ?_, ?_, ?_⟩, r1, r2⟩
  · unfold FX12_plain
    rw [gd_t is]
    simp only [hl_]
    rw [gd_t is, gd_t is, gd_t is, gd_t is, gd_t is, cl_nI (by omega), ← hτ]
    exact e1
  · rw [k1.1 8 s (by unfold okP4; omega), hτ, pI_o (by omega), pI_o (by omega), pI_o (by omega), pI_o (by omega), pI_o (by omega), pI_s, pk_us]
  · rw [k1.1 11 s (by unfold okP4; omega), hτ, pI_o (by omega), pI_o (by omega), pI_o (by omega), pI_o (by omega), pI_s, pk_us]
  · rw [k1.1 15 s (by unfold okP4; omega), hτ, pI_o (by omega), pI_o (by omega), pI_o (by omega), pI_s, pk_us]
  · rw [k1.1 16 s (by unfold okP4; omega), hτ, pI_o (by omega), pI_o (by omega), pI_s, pk_us]
  · rw [k1.1 17 s (by unfold okP4; omega), hτ, pI_o (by omega), pI_s, pk_us]
  · rw [k1.1 18 s (by unfold okP4; omega), hτ, pI_s, pk_us]
def okRM (s h j : Nat) : Prop := okTM s h j ∨ (h = 0 ∧ (j = 2 ∨ j = 4 ∨ j = 10 ∨ j = 17 ∨ j = 19)) ∨ h = 2 ∨ h = 3 ∨ h = 4 ∨ h = 5
def olRM (h _j : Nat) : Prop := h = 10 ∨ h = 6
theorem okPM_R {s : Nat} : ∀ h j, okPM s h j → okRM s h j := by
  intro h j hh
  rcases hh with (hh | hh) | hh
  · exact Or.inl (Or.inr (Or.inr (Or.inr (Or.inr (Or.inr (Or.inr (Or.inr (Or.inr hh))))))))
  · exact Or.inl (Or.inr (Or.inr (Or.inr (Or.inr (Or.inl hh)))))
  · exact Or.inl (Or.inr (Or.inr (Or.inr (Or.inr (Or.inr (Or.inl hh))))))
/-- the reference before its first tell -/
theorem M_begun {σ : HS} {b : Nat → Nat} {L side s : Nat} (hs : s + side = 1) (hL : L ≤ 2000) (h2 : σ.1 0 2 = nI L) (h18 : σ.1 0 18 = nI side) (hb : ∀ j, j < L → σ.1 1 j &&& 255 = nI (b j) ∧ b j < 256) (hK : ∀ k, k < 22 → σ.2 7 k = keyV k) : ∃ σ', FX12_read σ = FX12_read_107 fu (nI L) σ' ∧ FR (okRM s) olRM σ σ' ∧ TKM σ' b L 401 ∧ (σ'.1 0 2 = 0 ∧ σ'.1 0 11 = 0 ∧ σ'.1 0 12 = 0 ∧ σ'.1 0 13 = 0 ∧ σ'.1 0 15 = 0 ∧ σ'.1 0 19 = nI s ∧ σ'.1 0 33 = nI (130 * s) ∧ σ'.1 0 39 = nI (420 * s)) ∧ (σ'.1 8 s = 0 ∧ σ'.1 11 s = 0 ∧ σ'.1 15 s = 0 ∧ σ'.1 16 s = 0 ∧ σ'.1 17 s = 0 ∧ σ'.1 18 s = 0) ∧ (∀ j, j < 8 → σ'.1 14 (8 * s + j) = -2) ∧ ∀ j, j < 4 → σ'.1 19 (4 * s + j) = 0 ∧ σ'.1 20 (4 * s + j) = 0 := by
  have hs2 : s < 2 := by omega
  obtain ⟨σ0, h0⟩ : ∃ τ, τ = pI σ 0 4 (nI L) := ⟨_, rfl⟩
  have f0 : FR (okRM s) olRM σ σ0 := by rw [h0]; exact FR.rf.p (Or.inr (Or.inl ⟨rfl, by omega⟩))
  obtain ⟨σ1, g, e1, k1, r1⟩ := M_copy (b := b) hL L 0 fu σ0 (by rw [h0, pI_s, pk_us]) (fun j hj => by rw [h0, pI_o (by omega)]; exact (hb j hj).1) (fun j hj => by omega) (by omega) (by show L < 5000; omega)
  have f1 : FR (okRM s) olRM σ0 σ1 := FR.of_kN k1 (fun h j hh => by simp at hh; unfold okRM; omega) (fun j hh => by simp at hh) (fun h j hh => by simp at hh)
  obtain ⟨σ2, h2'⟩ : ∃ τ, τ = pI σ1 0 2 0 := ⟨_, rfl⟩
  have f2 : FR (okRM s) olRM σ1 σ2 := by rw [h2']; exact FR.rf.p (Or.inr (Or.inl ⟨rfl, by omega⟩))
  have z4 : σ1.1 0 4 = nI L := by rw [k1.2.1 4 (by decide), h0, pI_s, pk_us]
  have hB : BM σ2 b L := ⟨by rw [h2', pI_s, pk_un (by omega)]; exact z4, hL, fun j hj => ⟨by rw [h2', pI_o (by omega)]; exact r1 j hj, (hb j hj).2⟩⟩
  have hK2 : ∀ k, k < 22 → σ2.2 7 k = keyV k := fun k hk => by rw [h2', pI_2, k1.2.2 7 (by decide), h0, pI_2]; exact hK k hk
  obtain ⟨σ3, e3, k3, t3⟩ := M_cut hB hK2
  have f3 : FR (okRM s) olRM σ2 σ3 := FR.of_kN k3 (fun h j hh => by simp at hh; unfold okRM; omega) (fun j hh => by simp at hh; unfold okRM; omega) (fun h j hh => by simp at hh; unfold olRM; omega)
  obtain ⟨σ4, h4⟩ : ∃ τ, τ = pI (pI (pI (pI σ3 0 11 0) 0 12 0) 0 13 0) 0 15 0 := ⟨_, rfl⟩
  have f4 : FR (okRM s) olRM σ3 σ4 := by rw [h4]; exact (((FR.rf.p (Or.inl (Or.inl ⟨rfl, by omega⟩))).p (Or.inl (Or.inl ⟨rfl, by omega⟩))).p (Or.inl (Or.inl ⟨rfl, by omega⟩))).p (Or.inl (Or.inl ⟨rfl, by omega⟩))
  have y18 : σ4.1 0 18 = nI side := by
    rw [h4, pI_s, pk_un (by omega), pI_s, pk_un (by omega), pI_s, pk_un (by omega), pI_s, pk_un (by omega), k3.2.1 18 (by decide), h2', pI_s, pk_un (by omega), k1.2.1 18 (by decide), h0, pI_s, pk_un (by omega)]
    exact h18
  have e1s : (1 : Int32) - nI side = nI s := by rw [show (1 : Int32) = nI 1 from rfl, pk_sub (by omega), show 1 - side = s by omega]
  obtain ⟨σ5, h5⟩ : ∃ τ, τ = pI σ4 0 19 (nI s) := ⟨_, rfl⟩
  have f5 : FR (okRM s) olRM σ4 σ5 := by rw [h5]; exact FR.rf.p (Or.inr (Or.inl ⟨rfl, by omega⟩))
  have y19 : σ5.1 0 19 = nI s := by rw [h5, pI_s, pk_us]
  obtain ⟨σ6, e6, f6, ⟨p1, p2, p3, p4, p5, p6⟩, p7, p8⟩ := M_plain hs2 σ5
  have z19 : σ6.1 0 19 = nI s := by rw [f6.1 0 19 (by unfold okPM okP4; omega)]; exact y19
  obtain ⟨σ7, h7⟩ : ∃ τ, τ = pI σ6 0 33 (nI (130 * s)) := ⟨_, rfl⟩
  have w19 : σ7.1 0 19 = nI s := by rw [h7, pI_s, pk_un (by omega)]; exact z19
  obtain ⟨σ8, h8⟩ : ∃ τ, τ = pI σ7 0 39 (nI (420 * s)) := ⟨_, rfl⟩
  have f78 : FR (okRM s) olRM σ6 σ8 := by rw [h8, h7]; exact (FR.rf.p (Or.inl (Or.inl ⟨rfl, by omega⟩))).p (Or.inl (Or.inl ⟨rfl, by omega⟩))
  have g8 : FR (fun h j => h = 0 ∧ (j = 33 ∨ j = 39)) olM σ6 σ8 := by rw [h8, h7]; exact (FR.rf.p ⟨rfl, by omega⟩).p ⟨rfl, by omega⟩
  have v0 : ∀ j, j ≠ 33 → j ≠ 39 → σ8.1 0 j = σ5.1 0 j := fun j q1 q2 => by rw [g8.1 0 j (by omega), f6.1 0 j (by unfold okPM okP4; omega)]
  refine ⟨σ8, ?_, (((((f0.tr f1).tr f2).tr f3).tr f4).tr f5).tr ((f6.up okPM_R (fun _ _ h => h.elim)).tr f78), ?_, ⟨?_, ?_, ?_, ?_, ?_, ?_, ?_, ?_⟩, ⟨?_, ?_, ?_, ?_, ?_, ?_⟩, fun j hj => ?_, fun j hj => ?_⟩
  · unfold FX12_read
    simp only [hl_]
    rw [h2, ← h0, show FX12_read_10 fu (0 : Int32) σ0 = FX12_read_10 (g + 1) (nI L) σ1 from e1, FX12_read_10, z4, if_pos (nI_le (Nat.le_refl _) (by omega))]
    simp only [hl_]
    rw [← h2', e3, bdV_s, ← h4, y18, e1s, ← h5, y19, e6, bdV_s, z19, show (130 : Int32) = nI 130 from rfl, pk_mul, ← h7, w19, show (420 : Int32) = nI 420 from rfl, pk_mul, ← h8]
  · have q3 : ∀ h j, h ≠ 0 → ¬ okPM s h j → σ8.1 h j = σ3.1 h j := fun h j q1 q2 => by rw [g8.1 h j (by omega), f6.1 h j q2, h5, pI_o q1, h4, pI_o q1, pI_o q1, pI_o q1, pI_o q1]
    have q6 : ∀ j, σ8.2 6 j = σ3.2 6 j := fun j => by rw [g8.2 6 j (by unfold olM; exact id), f6.2 6 j (by unfold olM; exact id), h5, pI_2, h4, pI_2, pI_2, pI_2, pI_2]
    intro j hj hh
    rw [q3 3 j (by omega) (by unfold okPM okP4; omega), q3 4 j (by omega) (by unfold okPM okP4; omega), q3 5 j (by omega) (by unfold okPM okP4; omega), q6 j]
    exact t3 j hj hh
  · rw [v0 2 (by omega) (by omega), h5, pI_s, pk_un (by omega), h4, pI_s, pk_un (by omega), pI_s, pk_un (by omega), pI_s, pk_un (by omega), pI_s, pk_un (by omega), k3.2.1 2 (by decide), h2', pI_s, pk_us]
  · rw [v0 11 (by omega) (by omega), h5, pI_s, pk_un (by omega), h4, pI_s, pk_un (by omega), pI_s, pk_un (by omega), pI_s, pk_un (by omega), pI_s, pk_us]
  · rw [v0 12 (by omega) (by omega), h5, pI_s, pk_un (by omega), h4, pI_s, pk_un (by omega), pI_s, pk_un (by omega), pI_s, pk_us]
  · rw [v0 13 (by omega) (by omega), h5, pI_s, pk_un (by omega), h4, pI_s, pk_un (by omega), pI_s, pk_us]
  · rw [v0 15 (by omega) (by omega), h5, pI_s, pk_un (by omega), h4, pI_s, pk_us]
  · rw [h8, pI_s, pk_un (by omega)]; exact w19
  · rw [h8, pI_s, pk_un (by omega), h7, pI_s, pk_us]
  · rw [h8, pI_s, pk_us]
  · rw [g8.1 8 s (by omega)]; exact p1
  · rw [g8.1 11 s (by omega)]; exact p2
  · rw [g8.1 15 s (by omega)]; exact p3
  · rw [g8.1 16 s (by omega)]; exact p4
  · rw [g8.1 17 s (by omega)]; exact p5
  · rw [g8.1 18 s (by omega)]; exact p6
  · rw [g8.1 14 _ (by omega)]; exact p7 j hj
  · rw [g8.1 19 _ (by omega), g8.1 20 _ (by omega)]; exact p8 j hj
