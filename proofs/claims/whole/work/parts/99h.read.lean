/-! read. -/
theorem LB_lawOf {σ : HS} {s k cm br : Nat} {L : Lawt} (hb : 4 * br ≤ 520 * s + 400) (hc : cm ≤ 420 * s + 400) (h : LB σ s k cm br L) : lawOf σ s k L (plP k) := by
  rcases h with ⟨h1, h2⟩ | ⟨b, e, i, h1, h2, h3, h4, h5, h6, h7, h8, h9⟩
  · exact Or.inl ⟨h1, h2⟩
  · exact Or.inr ⟨b, e, i, h1, h2, h3, h5, h6, h8, by omega, h9, by omega⟩
/-- the text that was read, with nothing wrong in it, begins on both sides -/
theorem R_succ {n : Nat} {K P V W : Nat → Nat} {N s a : Nat} {σX σM : HS} (hN : N ≤ 400) (hT : TI K P V W N s a σX σM) (h12 : σX.1 2 12 = 0) (nx : Nat) (hnx : nx < 40) (h63 : σX.1 6 3 = nI nx) (h02 : σM.1 0 2 = 0) (ky : ∀ k, k < 22 → σM.2 7 k = keyV k) (x1 : Int32) : ∃ σX' σM', (bdI (FX5_readAll_79 0 0 σX) fun r_1 σ_2 => hl_ (pI σ_2 1 1 (0 : Int32)) fun σ_4 => if r_1 = 0 then bdV (FX9_copyFrom σ_4) fun σ_6 => bdV (FX7_begin σ_6) fun σ_8 => bdV (FX3_clearThings σ_8) fun σ_10 => bdV (FX3_clearSlots σ_10) fun σ_12 => hl_ (pI σ_12 11 6 (0 : Int32)) fun σ_14 => some (r_1, σ_14) else some (r_1, σ_4)) = some (0, σX') ∧ FX12_read_129 x1 σM = some (0, σM') ∧ Rel n σX' σM' := by
  obtain ⟨nm, nf, nl, cx, cm, br, w, Ls, S0, ⟨⟨a1, a2, a3⟩, ⟨b1, b2, b3⟩, ⟨c1, c2, c3⟩, ⟨d1, d2, d3⟩, e, f, g⟩, dv, ⟨l5, l39, l33, ll⟩, ⟨w12, w15, w5, w13, w16⟩, hs, m19, q1, q2, q3, q4, q5⟩ := hT
  have ha := S0.2.2.1
  have hw : w = 0 := by
    have e0 : nI w = nI 0 := by rw [← w12]; exact h12
    exact (nI_eq (by omega) (by omega)).mp e0
  obtain ⟨v1, v2, v3, v4⟩ := dv hw
  -- the class
  obtain ⟨σ1, h1⟩ : ∃ τ, τ = pI (pI (pI σX 2 11 0) 2 1 (-1)) 1 1 0 := ⟨_, rfl⟩
  have E1 : FX5_readAll_79 0 0 σX = some (0, pI (pI σX 2 11 0) 2 1 (-1)) := by
    unfold FX5_readAll_79
    rw [S0.2.2.2.2.1, if_pos rfl]
    simp only [hl_]
    rw [h12, show (pI σX 2 11 0).1 2 13 = -1 by rw [pI_s, pk_un (by omega)]; exact w13 hw, show (pI (pI σX 2 11 0) 2 1 (-1)).1 2 11 = 0 by rw [pI_s, pk_un (by omega), pI_s, pk_us]]
  have y1 : ∀ h, h ≠ 1 → h ≠ 2 → σ1.1 h = σX.1 h := fun h r1 r2 => by rw [h1, pI_o r1, pI_o r2, pI_o r2]
  have y11 : σ1.1 1 1 = 0 := by rw [h1, pI_s, pk_us]
  have y21 : σ1.1 2 1 = -1 := by rw [h1, pI_o (by omega), pI_s, pk_us]
  obtain ⟨σ2, E2, f2, t3, t22, t23, t25, t26, t27⟩ := X_copyNew σ1
  obtain ⟨σ3, E3, k3, u0, u10, u18, u28, u29, u30, u31, u32⟩ := X_begin σ2
  obtain ⟨σ4, h4⟩ : ∃ τ, τ = pI σ3 6 4 0 := ⟨_, rfl⟩
  obtain ⟨σ5, E5, k5, r5⟩ := X_clear 3 0 fu σ4 (by omega) (by show 3 < 5000; omega) (fun j hj => by omega)
  obtain ⟨σ6, h6⟩ : ∃ τ, τ = pI σ5 11 6 0 := ⟨_, rfl⟩
  have Y6 : ∀ h, h ≠ 6 → h ≠ 11 → h ≠ 38 → σ6.1 h = σ3.1 h := fun h r1 r2 r3 => by rw [h6, pI_o r2, k5.1 h (by simpa using r3), h4, pI_o r1]
  have Y3 : ∀ h, h ≠ 6 → h ≠ 11 → h ≠ 38 → h ≠ 14 → σ6.1 h = σ2.1 h := fun h r1 r2 r3 r4 => by rw [Y6 h r1 r2 r3, k3.1 h (by simpa using r4)]
  -- the reference
  obtain ⟨μ1, g1⟩ : ∃ τ, τ = pI (pI σM 0 17 (-1)) 0 18 (nI s) := ⟨_, rfl⟩
  have z1 : ∀ h, h ≠ 0 → μ1.1 h = σM.1 h := fun h r => by rw [g1, pI_o r, pI_o r]
  obtain ⟨μ2, F2, k2, o1, o2, o3, ⟨o4, o5, o6⟩, o7⟩ := M_begins (σ := μ1) hs a3 (by rw [g1, pI_s, pk_us]) (by rw [z1 8 (by omega)]; exact a2)
  obtain ⟨μ3, F3, km3, o8⟩ := M_keepsRow μ2
  obtain ⟨μ4, g4⟩ : ∃ τ, τ = pI (pI μ3 0 50 0) 0 57 0 := ⟨_, rfl⟩
  obtain ⟨μ5, F5, km5, p5⟩ := M_clear 3 0 fu μ4 (by omega) (by show 3 < 5000; omega) (fun j hj => by omega)
  have Z5 : ∀ h, h ≠ 0 → h ≠ 31 → h ≠ 32 → h ≠ 43 → μ5.1 h = σM.1 h := fun h r0 r1 r2 r3 => by rw [km5.1 h r0 (by simpa using r3), g4, pI_o r0, pI_o r0, km3.1 h r0 (by simpa using r1), k2.1 h r0 (by simpa using r2), z1 h r0]
  have Z31 : ∀ j, j < 33 → μ5.1 31 j = μ2.1 32 j := fun j hj => by rw [km5.1 31 (by omega) (by decide), g4, pI_o (by omega), pI_o (by omega)]; exact o8 j hj
  have Z0 : ∀ j, j ≠ 17 → j ≠ 18 → j ≠ 49 → j ≠ 50 → j ≠ 57 → μ5.1 0 j = σM.1 0 j := fun j r1 r2 r3 r4 r5 => by rw [km5.2.1 j (by simp), g4, pI_s, pk_un r5, pI_s, pk_un r4, km3.2.1 j (by simp), k2.2.1 j (by simpa using r3), g1, pI_s, pk_un r2, pI_s, pk_un r1]
  have Z17 : μ5.1 0 17 = -1 := by rw [km5.2.1 17 (by simp), g4, pI_s, pk_un (by omega), pI_s, pk_un (by omega), km3.2.1 17 (by simp), k2.2.1 17 (by decide), g1, pI_s, pk_un (by omega), pI_s, pk_us]
  have Z18 : μ5.1 0 18 = nI s := by rw [km5.2.1 18 (by simp), g4, pI_s, pk_un (by omega), pI_s, pk_un (by omega), km3.2.1 18 (by simp), k2.2.1 18 (by decide), g1, pI_s, pk_us]
  have Z50 : μ5.1 0 50 = nI 0 := by rw [km5.2.1 50 (by simp), g4, pI_s, pk_un (by omega), pI_s, pk_us]; rfl
  have Z57 : μ5.1 0 57 = nI 0 := by rw [km5.2.1 57 (by simp), g4, pI_s, pk_us]; rfl
  have ZL : μ5.2 = σM.2 := by rw [km5.2.2, g4, pI_2, pI_2, km3.2.2, k2.2.2, g1, pI_2, pI_2]
  have n15 : σM.1 0 15 = 0 := by rw [w15, hw]; rfl
  refine ⟨σ6, μ5, ?_, ?_, s, nm, nf, σX.1 30, σX.1 31, σX.1 12 4, Ls, ⟨⟨a3, b3, ?_, ?_, fun j hj => ⟨?_, ?_⟩, cx, by omega, ?_, fun k hk => ?_⟩, ?_, ⟨⟨hs, Z18, b3, ?_, ?_, ?_, ?_⟩, ?_, a3, ?_⟩, fun j hj => ⟨?_, ?_⟩, ?_⟩, fun k hk => ?_, ⟨fun p hp => ?_, fun m hm => ?_, ?_, ?_, fun j hj => ⟨⟨0, by omega, ?_⟩, 0, by omega, ?_⟩⟩, ⟨0, nx, by omega, hnx, ?_, ?_, Z50, fun i hi => by omega⟩, fun j hj => Or.inl ⟨?_, p5 j hj⟩, ⟨0, by omega, ?_, Z57, fun i hi => by omega⟩, ⟨0, by omega, ?_, ?_, fun j hj => by omega⟩, ?_, fun k hk => ?_⟩
  · rw [E1, bdI_s]
    simp only [hl_]
    rw [← h1, if_pos trivial, E2, bdV_s, E3, bdV_s]
    unfold FX3_clearThings FX3_clearSlots
    simp only [hl_]
    rw [bdV_s, ← h4, show FX3_clearSlots_2 fu (0 : Int32) σ4 = some σ5 from E5, bdV_s, ← h6]
  · unfold FX12_read_129 FX12_read_159
    rw [S0.2.2.2.2.2.2.2, if_pos (show (0 : Int32) ≤ 0 by decide), n15, if_pos (show (0 : Int32) ≤ 0 by decide)]
    simp only [hl_]
    rw [show (pI σM 0 17 (-1)).1 0 13 = 0 by rw [pI_s, pk_un (by omega)]; exact S0.2.2.2.2.2.2.2, if_pos (show (0 : Int32) ≤ 0 by decide), show (pI σM 0 17 (-1)).1 0 15 = 0 by rw [pI_s, pk_un (by omega)]; exact n15, if_pos (show (0 : Int32) ≤ 0 by decide), show (pI σM 0 17 (-1)).1 0 19 = nI s by rw [pI_s, pk_un (by omega)]; exact m19, ← g1, F2, bdV_s, F3, bdV_s, ← g4]
    exact F5
  · rw [Y3 3 (by omega) (by omega) (by omega) (by omega), t3 0 (by omega), y1 12 (by omega) (by omega)]; exact a1
  · rw [Y3 3 (by omega) (by omega) (by omega) (by omega), t3 1 (by omega), y1 12 (by omega) (by omega)]; exact b1
  · rw [Y3 23 (by omega) (by omega) (by omega) (by omega), (t23 j (by omega)).1, y1 30 (by omega) (by omega)]
  · rw [Y3 24 (by omega) (by omega) (by omega) (by omega), (t23 j (by omega)).2, y1 31 (by omega) (by omega)]
  · rw [Y3 3 (by omega) (by omega) (by omega) (by omega), t3 5 (by omega), y1 12 (by omega) (by omega)]; exact l5
  · obtain ⟨⟨i, i1, i2⟩, -⟩ := ll k hk
    refine ⟨i, ?_, LawX_eq _ _ _ (fun j _ hj => ⟨?_, ?_⟩) i2⟩
    · rw [Y3 26 (by omega) (by omega) (by omega) (by omega), t26 k hk, y1 33 (by omega) (by omega)]; exact i1
    · rw [Y3 27 (by omega) (by omega) (by omega) (by omega), (t27 j (by omega)).1, y1 34 (by omega) (by omega)]
    · rw [Y3 28 (by omega) (by omega) (by omega) (by omega), (t27 j (by omega)).2, y1 35 (by omega) (by omega)]
  · rw [Y3 3 (by omega) (by omega) (by omega) (by omega), t3 4 (by omega), y1 12 (by omega) (by omega)]
  · exact lawOf_f (ok := fun h _ => h = 0 ∨ h = 31 ∨ h = 32 ∨ h = 43) (okl := olM) ⟨fun h j b => by rw [Z5 h (by omega) (by omega) (by omega) (by omega)], fun h j _ => by rw [ZL]⟩ (by omega) (by omega) (fun h j _ _ _ _ => by omega) (fun h j _ _ _ _ => by omega) (LB_lawOf (k := 0) (by omega) (by omega) (ll 0 (by omega)).2)
  · exact lawOf_f (ok := fun h _ => h = 0 ∨ h = 31 ∨ h = 32 ∨ h = 43) (okl := olM) ⟨fun h j b => by rw [Z5 h (by omega) (by omega) (by omega) (by omega)], fun h j _ => by rw [ZL]⟩ (by omega) (by omega) (fun h j _ _ _ _ => by omega) (fun h j _ _ _ _ => by omega) (LB_lawOf (k := 1) (by omega) (by omega) (ll 1 (by omega)).2)
  · exact lawOf_f (ok := fun h _ => h = 0 ∨ h = 31 ∨ h = 32 ∨ h = 43) (okl := olM) ⟨fun h j b => by rw [Z5 h (by omega) (by omega) (by omega) (by omega)], fun h j _ => by rw [ZL]⟩ (by omega) (by omega) (fun h j _ _ _ _ => by omega) (fun h j _ _ _ _ => by omega) (LB_lawOf (k := 2) (by omega) (by omega) (ll 2 (by omega)).2)
  · exact lawOf_f (ok := fun h _ => h = 0 ∨ h = 31 ∨ h = 32 ∨ h = 43) (okl := olM) ⟨fun h j b => by rw [Z5 h (by omega) (by omega) (by omega) (by omega)], fun h j _ => by rw [ZL]⟩ (by omega) (by omega) (fun h j _ _ _ _ => by omega) (fun h j _ _ _ _ => by omega) (LB_lawOf (k := 3) (by omega) (by omega) (ll 3 (by omega)).2)
  · rw [Z5 8 (by omega) (by omega) (by omega) (by omega)]; exact a2
  · rw [Z5 11 (by omega) (by omega) (by omega) (by omega)]; exact b2
  · rw [Z5 12 (by omega) (by omega) (by omega) (by omega)]; exact (f j hj).1.symm
  · rw [Z5 13 (by omega) (by omega) (by omega) (by omega)]; exact (f j hj).2.1.symm
  · rw [Z5 18 (by omega) (by omega) (by omega) (by omega)]; exact d3.symm
  · -- the row
    rw [Y6 14 (by omega) (by omega) (by omega), Z31 k hk]
    have hr : k < nm ∨ (nm ≤ k ∧ k < 10) ∨ (10 ≤ k ∧ k < 18) ∨ k = 18 ∨ k = 19 ∨ k = 20 ∨ k = 21 ∨ k = 22 ∨ 23 ≤ k := by omega
    rcases hr with hk1 | ⟨hk1, hk2⟩ | ⟨hk1, hk2⟩ | rfl | rfl | rfl | rfl | rfl | hk1
    · rw [rowC_m hk1 a3, u0 k (by omega), t22 k (by omega), y1 29 (by omega) (by omega), o1 k hk1, z1 9 (by omega)]; exact e k hk1
    · rw [rowC_z (by omega) hk2, o2 k hk1 hk2]
    · obtain ⟨p, rfl⟩ : ∃ p, k = 10 + p := ⟨k - 10, by omega⟩
      rw [rowC_p hk1 hk2, u10 p (by omega), t25 p (by omega), y1 32 (by omega) (by omega), o3 p (by omega), z1 14 (by omega)]; exact g p (by omega)
    · rw [rowC_d (by omega) (by omega), u28, t3 2 (by omega), y1 12 (by omega) (by omega), o4, z1 16 (by omega)]; exact d1
    · rw [rowC_d (by omega) (by omega), u29, t3 3 (by omega), y1 12 (by omega) (by omega), o5, z1 17 (by omega)]; exact d2
    · rw [rowC_d (by omega) (by omega), u30, o7 20 (by omega)]
    · rw [rowC_d (by omega) (by omega), u31, o7 21 (by omega)]
    · rw [rowC_d (by omega) (by omega), u32, o6]
    · rw [o7 k (by omega)]
      unfold rowC
      rw [if_neg (by omega), if_neg (by omega), if_neg (by omega)]
      exact u18 (k - 5) (by omega) (by omega)
  · rw [Z31 (10 + p) (by omega), o3 p hp, z1 14 (by omega)]; exact v4 p hp
  · rw [Z31 m (by omega), o1 m hm, z1 9 (by omega)]; exact v1 m hm
  · rw [Z31 18 (by omega), o4, z1 16 (by omega)]; exact v2
  · rw [Z31 19 (by omega), o5, z1 17 (by omega)]; exact v3
  · rw [Z31 (23 + j) (by omega), o7 _ (by omega)]; rfl
  · rw [Z31 (28 + j) (by omega), o7 _ (by omega)]; rfl
  · rw [h6, pI_o (by omega), k5.1 6 (by decide), h4, pI_s, pk_un (by omega), k3.1 6 (by decide), f2.1 6 3 (by unfold okCp; omega), y1 6 (by omega) (by omega)]; exact h63
  · rw [h6, pI_o (by omega), k5.1 6 (by decide), h4, pI_s, pk_us]; rfl
  · rw [h6, pI_o (by omega)]; exact r5 j hj
  · rw [h6, pI_s, pk_us]; rfl
  · rw [Y3 1 (by omega) (by omega) (by omega) (by omega), f2.1 1 1 (by unfold okCp; omega)]; exact y11
  · rw [Z0 2 (by omega) (by omega) (by omega) (by omega) (by omega)]; exact h02
  · rw [Y3 2 (by omega) (by omega) (by omega) (by omega), f2.1 2 1 (by unfold okCp; omega), y21, Z17]
  · rw [ZL]; exact ky k hk
theorem sT_2 : St_2 Rel := by
  intro n σX σM hn hR
  obtain ⟨side, nm, nf, z, l, sd, Ls, t, r, v, p, sr, w, e, pl, ky⟩ := hR
  obtain ⟨s, σX', σM', x1, hs, eX, eM, fX, fM, m2, hh⟩ := R_all (n := n) t e ky
  have fZ : ∀ τ, FR (fun h j => h = 2 ∧ (j = 11 ∨ j = 1)) olM σX' τ → FR okZX olRX σX (pI τ 1 1 0) := fun τ f1 => (((fX.up (fun _ _ h => Or.inl h) (fun _ _ h => h)).tr (f1.up (fun h j hh => Or.inl (Or.inl (Or.inl (by omega)))) (fun _ _ h => h.elim))).p (Or.inr ⟨rfl, rfl⟩))
  have fY : ∀ y, FR (okRM s) olRM σM (pI σM' 0 17 y) := fun y => fM.p (Or.inr (Or.inl ⟨rfl, by omega⟩))
  unfold FX11_read
  rw [eX, eM]
  rcases hh with ⟨K, P, V, W, N, a, hN, hS, hT⟩ | ⟨ft, fp, z11, z1, L⟩
  · by_cases h12 : σX'.1 2 12 = 0
    · obtain ⟨u, nx, p1, p2, p3, p4, p5, p6⟩ := p
      obtain ⟨σX2, σM2, e1, e2, hR'⟩ := R_succ (n := n + 1) hN hT h12 nx p2 (by rw [fX.1 6 3 (by unfold okRX okTX; omega)]; exact p3) m2 (fun k hk => by rw [fM.2 7 k (by unfold olRM; omega)]; exact ky k hk) x1
      exact ⟨0, σX2, σM2, e1, e2, hR'⟩
    · obtain ⟨nm', nf', nl, cx, cm, br, w', Ls', S0, -, -, -, ⟨w12, w15, w5, w13, w16⟩, -⟩ := hT
      have hw0 : w' ≠ 0 := fun q => h12 (by rw [w12, q]; rfl)
      obtain ⟨t0, -, c1, c2⟩ := w16 hw0
      have hgt : ¬ nI w' ≤ (0 : Int32) := by
        rw [Int32.le_iff_toInt_le, nI_I (by omega)]
        show ¬ (w' : Int) ≤ 0
        omega
      obtain ⟨τ, hτ⟩ : ∃ τ, τ = pI (pI σX' 2 11 (nI w')) 2 1 (nI (P t0)) := ⟨_, rfl⟩
      have E1 : FX5_readAll_79 0 0 σX' = some (nI w', τ) := by
        unfold FX5_readAll_79
        rw [S0.2.2.2.2.1, if_pos rfl]
        simp only [hl_]
        rw [w12, show (pI σX' 2 11 (nI w')).1 2 13 = nI (P t0) by rw [pI_s, pk_un (by omega)]; exact c1, ← hτ, show τ.1 2 11 = nI w' by rw [hτ, pI_s, pk_un (by omega), pI_s, pk_us]]
      refine ⟨nI w', pI τ 1 1 0, pI σM' 0 17 (nI (P t0)), ?_, ?_, Rel_fail hs t r v p sr w ky (fZ τ (by rw [hτ]; exact (FR.rf.p ⟨rfl, Or.inl rfl⟩).p ⟨rfl, Or.inr rfl⟩)) (fY _) (by rw [pI_s, pk_us]; rfl) (by rw [pI_s, pk_un (by omega)]; exact m2) (by rw [pI_o (by omega), hτ, pI_s, pk_us, pI_s, pk_us])⟩
      · rw [E1, bdI_s]
        simp only [hl_]
        rw [if_neg (show ¬ nI w' = (0 : Int32) from ne_I (b := 0) hw0 (by omega) (by omega))]
      · unfold FX12_read_129 FX12_read_159
        rw [S0.2.2.2.2.2.2.2, if_pos (show (0 : Int32) ≤ 0 by decide), w15, if_neg hgt, c2]
        simp only [hl_]
        rw [show (pI σM' 0 17 (nI (P t0))).1 0 13 = 0 by rw [pI_s, pk_un (by omega)]; exact S0.2.2.2.2.2.2.2, if_pos (show (0 : Int32) ≤ 0 by decide), show (pI σM' 0 17 (nI (P t0))).1 0 15 = nI w' by rw [pI_s, pk_un (by omega)]; exact w15, if_neg hgt]
  · have hft : ft = 1 ∨ ft = 2 := L.1
    have hne : ¬ nI ft = (0 : Int32) := ne_I (b := 0) (by omega) (by omega) (by omega)
    have E1 : FX5_readAll_79 0 0 σX' = some (nI ft, σX') := by
      unfold FX5_readAll_79
      rw [z11, if_neg hne]
    refine ⟨nI ft, pI σX' 1 1 0, pI σM' 0 17 (nI fp), ?_, ?_, Rel_fail hs t r v p sr w ky (fZ σX' FR.rf) (fY _) (by rw [pI_s, pk_us]; rfl) (by rw [pI_s, pk_un (by omega)]; exact m2) (by rw [pI_o (by omega), z1, pI_s, pk_us])⟩
    · rw [E1, bdI_s]
      simp only [hl_]
      rw [if_neg hne]
    · unfold FX12_read_129 FX12_read_159
      rw [if_neg (nz13 L).2, L.2.2.1]
      simp only [hl_]
      rw [show (pI σM' 0 17 (nI fp)).1 0 13 = nI ft by rw [pI_s, pk_un (by omega)]; exact L.2.1, if_neg (show ¬ nI ft ≤ (0 : Int32) by rw [← L.2.1]; exact (nz13 L).2)]
