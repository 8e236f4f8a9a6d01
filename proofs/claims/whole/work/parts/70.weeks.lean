/-! Face: hold, restore, weeks, gains, partsIn, year. -/
theorem Rel_H {n : Nat} {σX σM σX' σM' : HS} {side nm nf : Nat} {z l : Nat → Int32} {sd : Int32} {Ls : Nat → Lawt} (t : TR σX σM side nm nf z l sd Ls) (r : RR nm (σX.1 14) (σM.1 31)) (v : RV nm nf n (σM.1 31)) (p : PR σX σM nm nf n) (w : WR σX σM nm) (e : ER σX σM) (pl : σX.1 2 1 = σM.1 0 17) (ky : ∀ k, k < 22 → σM.2 7 k = keyV k) (kx : kX [37, 38] σX σX') (km : kM [43, 44] [] σM σM') (s : SR σX' σM' nm nf n) : Rel (n + 1) σX' σM' := by
  refine ⟨side, nm, nf, z, l, sd, Ls, TR_q (kx.1 3 (by decide)) (kx.1 23 (by decide)) (kx.1 24 (by decide)) (kx.1 26 (by decide)) (kx.1 27 (by decide)) (kx.1 28 (by decide)) km (by intro x h1 h2 h; simp at h; omega) (by decide) (by decide) (by decide) (by decide) (by decide) (by decide) t, ?_, ?_, ?_, SR_mono (by omega) s, ?_, ?_, ?_, ?_⟩
  · rw [kx.1 14 (by decide), km.1 31 (by decide) (by decide)]; exact r
  · rw [km.1 31 (by decide) (by decide)]; exact RV_mono (by omega) v
  · exact PR_mono (by omega) (PR_eq (kx.1 6 (by decide)) (kx.1 36 (by decide)) (km.2.1 50 (by decide)) (km.1 33 (by decide) (by decide)) p)
  · exact WR_eq (by rw [kx.1 11 (by decide)]) (kx.1 46 (by decide)) (kx.1 47 (by decide)) (kx.1 48 (by decide)) (km.2.1 57 (by decide)) (km.1 39 (by decide) (by decide)) (km.1 40 (by decide) (by decide)) (km.1 41 (by decide) (by decide)) w
  · exact ER_eq (kx.1 1 (by decide)) (kx.1 16 (by decide)) (km.2.1 2 (by decide)) (km.1 1 (by decide) (by decide)) e
  · rw [kx.1 2 (by decide), km.2.1 17 (by decide)]; exact pl
  · rw [km.2.2]; exact ky
theorem M_hold_20 {s : Nat} (hs : s < 3) : ∀ (n k f : Nat) (σ : HS), (∀ j, j < k → σ.1 44 (33 * s + j) = σ.1 31 j) → k + n = 33 → n < f → ∃ σ', FX12_hold_20 f (nI s) (nI k) σ = some (1, σ') ∧ kM [43, 44] [] σ σ' ∧ σ'.1 43 = σ.1 43 ∧ (∀ j, j < 33 → σ'.1 44 (33 * s + j) = σ.1 31 j) ∧ ∀ q, q < 33 * s ∨ 33 * s + 33 ≤ q → σ'.1 44 q = σ.1 44 q := by
  intro n
  induction n with
  | zero =>
    intro k f σ hj hk hf
    obtain ⟨f, rfl⟩ : ∃ z, f = z + 1 := ⟨f - 1, by omega⟩
    obtain rfl : k = 33 := by omega
    rw [FX12_hold_20, if_pos (show (33 : Int32) ≤ nI 33 by decide)]
    exact ⟨_, rfl, kM.rf, rfl, hj, fun _ _ => rfl⟩
  | succ n ih =>
    intro k f σ hj hk hf
    obtain ⟨f, rfl⟩ : ∃ z, f = z + 1 := ⟨f - 1, by omega⟩
    have e : (33 : Int32) * nI s + nI k = nI (33 * s + k) := by rw [show (33 : Int32) = nI 33 from rfl, pk_mul, nI_add]
    obtain ⟨σ', h1, k1, c1, r1, q1⟩ := ih (k + 1) f (pI σ 44 (33 * s + k) (σ.1 31 k)) (fun j hj' => by
      rw [pI_s, pI_o (by omega)]
      by_cases ej : j = k
      · rw [ej, pk_us]
      · rw [pk_un (by omega)]; exact hj j (by omega)) (by omega) (by omega)
    refine ⟨σ', ?_, kM.tr (kM.pR (by decide) (by decide)) k1, by rw [c1, pI_o (by omega)], ?_, ?_⟩
    · rw [FX12_hold_20, if_neg (show ¬ (33 : Int32) ≤ nI k from nI_ge (b := 33) (by omega) (by omega)), gd_t (ix_nI (by omega) (by omega)), e, gd_t (ix_nI (by omega) (by omega)), cl_nI (by omega), cl_nI (by omega), nI_1]
      exact h1
    · intro j hj'
      rw [r1 j hj', pI_o (by omega)]
    · intro q hq
      rw [q1 q hq, pI_s, pk_un (by omega)]
theorem slot_g {s : Nat} (hs : s < 3) : cpk (0 : Int32) (nI s * (33 : Int32)) (33 : Int32) 33 99 = true ∧ cpk (nI s * (33 : Int32)) (0 : Int32) (33 : Int32) 99 33 = true ∧ (nI s * (33 : Int32)).toNatClampNeg = 33 * s := by
  rw [show (33 : Int32) = nI 33 from rfl, pk_mul]
  exact ⟨cpk_t (a := 0) (by omega) (by omega) (by omega) (by omega), cpk_t (b := 0) (by omega) (by omega) (by omega) (by omega), by rw [cl_nI (by omega), Nat.mul_comm]⟩
theorem sT_39 : St_39 Rel := by
  intro n σX σM hn hR x1
  obtain ⟨side, nm, nf, z, l, sd, Ls, t, r, v, p, s, w, e, pl, ky⟩ := id hR
  have hnm := t.1.1
  rcases rngT x1 2 (by omega) with ⟨q, hq, rfl⟩ | ho
  · obtain ⟨g1, g2, ec⟩ := slot_g (show q < 3 by omega)
    have i3 : ix (nI q) 3 = true := ix_nI (by omega) (by omega)
    have nb : vp_nar .boolean (1 : Int32) = 1 := rfl
    obtain ⟨σb, hb, kb, cb, rb, qb⟩ := M_hold_20 (show q < 3 by omega) 33 0 fu (pI σM 43 q 1) (fun j hj => by omega) (by omega) (by show 33 < 5000; omega)
    obtain ⟨τ, hτ⟩ : ∃ τ, τ = pI (rI σX 37 (va_cpy (σX.1 14) (σX.1 37) 0 (33 * q) 33)) 38 q 1 := ⟨_, rfl⟩
    have t37 : τ.1 37 = va_cpy (σX.1 14) (σX.1 37) 0 (33 * q) 33 := by rw [hτ, pI_o (by omega), rI_eq]
    have t38 : τ.1 38 = upd (σX.1 38) q 1 := by rw [hτ, pI_s, rI_ne (by omega)]
    refine ⟨1, τ, σb, ?_, ?_, Rel_H t r v p w e pl ky (by rw [hτ]; exact (kX.rf.rr (by decide)).pp (by decide)) (kM.tr (kM.pR (by decide) (by decide)) kb) ?_⟩
    · unfold FX11_hold FX3_putInSlot
      rw [show (2 : Int32) = nI 2 from rfl, X_wi_i (by omega) hq, bdI_s, if_neg one_ne, gd_t g1]
      simp only [hl_]
      rw [gd_t i3, ec, cl_nI (by omega), nb, ← hτ, bdI_s]; rfl
    · unfold FX12_hold
      rw [show (2 : Int32) = nI 2 from rfl, M_in_i (by omega) hq, bdI_s, if_neg one_ne, gd_t i3]
      simp only [hl_]
      rw [cl_nI (by omega), nb]
      exact hb
    · intro s' hs'
      by_cases es : s' = q
      · subst es
        have eX : ∀ k, k < 33 → τ.1 37 (33 * s' + k) = σX.1 14 k := fun k hk => by
          rw [t37, cpy_a, if_pos (by omega)]; exact congrArg (σX.1 14) (show 0 + (33 * s' + k - 33 * s') = k by omega)
        have eM : ∀ k, k < 33 → σb.1 44 (33 * s' + k) = σM.1 31 k := fun k hk => by rw [rb k hk, pI_o (by omega)]
        exact Or.inr ⟨by rw [t38, pk_us], by rw [cb, pI_s, pk_us], RR_congr r eX eM, RV_congr hnm (fun k hk => (eM k hk).symm) v⟩
      · have eX : ∀ k, k < 33 → τ.1 37 (33 * s' + k) = σX.1 37 (33 * s' + k) := fun k hk => by
          rw [t37, cpy_a, if_neg (by omega)]
        have eM : ∀ k, k < 33 → σb.1 44 (33 * s' + k) = σM.1 44 (33 * s' + k) := fun k hk => by rw [qb _ (by omega), pI_o (by omega)]
        rw [t38, pk_un es, cb, pI_s, pk_un es]
        rcases s s' hs' with h | ⟨h1, h2, h3, h4⟩
        · exact Or.inl h
        · exact Or.inr ⟨h1, h2, RR_congr h3 eX eM, RV_congr hnm (fun k hk => (eM k hk).symm) h4⟩
  · refine ⟨0, σX, σM, ?_, ?_, Rel_q hR qX.rf kM.rf⟩
    · unfold FX11_hold FX3_putInSlot
      rw [show (2 : Int32) = nI 2 from rfl, X_wi_o ho, bdI_s, if_pos rfl, bdI_s]; rfl
    · unfold FX12_hold
      rw [show (2 : Int32) = nI 2 from rfl, M_in_o ho, bdI_s, if_pos rfl]
theorem M_restore_22 {s : Nat} (hs : s < 3) : ∀ (n k f : Nat) (σ : HS), (∀ j, j < k → σ.1 31 j = σ.1 44 (33 * s + j)) → k + n = 33 → n < f → ∃ σ', FX12_restore_22 f (nI s) (nI k) σ = some (1, σ') ∧ kM [31] [50] σ σ' ∧ σ'.1 0 50 = nI 0 ∧ ∀ j, j < 33 → σ'.1 31 j = σ.1 44 (33 * s + j) := by
  intro n
  induction n with
  | zero =>
    intro k f σ hj hk hf
    obtain ⟨f, rfl⟩ : ∃ z, f = z + 1 := ⟨f - 1, by omega⟩
    obtain rfl : k = 33 := by omega
    rw [FX12_restore_22, if_pos (show (33 : Int32) ≤ nI 33 by decide)]
    exact ⟨_, rfl, kM.pF (by decide), by rw [pI_s, pk_us]; rfl, fun j hj' => by rw [pI_o (by omega)]; exact hj j hj'⟩
  | succ n ih =>
    intro k f σ hj hk hf
    obtain ⟨f, rfl⟩ : ∃ z, f = z + 1 := ⟨f - 1, by omega⟩
    have e : (33 : Int32) * nI s + nI k = nI (33 * s + k) := by rw [show (33 : Int32) = nI 33 from rfl, pk_mul, nI_add]
    obtain ⟨σ', h1, k1, r0, r1⟩ := ih (k + 1) f (pI σ 31 k (σ.1 44 (33 * s + k))) (fun j hj' => by
      rw [pI_s, pI_o (by omega)]
      by_cases ej : j = k
      · rw [ej, pk_us]
      · rw [pk_un (by omega)]; exact hj j (by omega)) (by omega) (by omega)
    refine ⟨σ', ?_, kM.tr (kM.pR (by decide) (by decide)) k1, r0, ?_⟩
    · rw [FX12_restore_22, if_neg (show ¬ (33 : Int32) ≤ nI k from nI_ge (b := 33) (by omega) (by omega)), e, gd_t (ix_nI (by omega) (by omega)), gd_t (ix_nI (by omega) (by omega)), cl_nI (by omega), cl_nI (by omega), nI_1]
      exact h1
    · intro j hj'
      rw [r1 j hj', pI_o (by omega)]
theorem sT_40 : St_40 Rel := by
  intro n σX σM hn hR x1
  obtain ⟨side, nm, nf, z, l, sd, Ls, t, r, v, p, s, w, e, pl, ky⟩ := id hR
  have hnm := t.1.1
  rcases rngT x1 2 (by omega) with ⟨q, hq, rfl⟩ | ho
  · obtain ⟨g1, g2, ec⟩ := slot_g (show q < 3 by omega)
    have i3 : ix (nI q) 3 = true := ix_nI (by omega) (by omega)
    rcases s q (by omega) with ⟨h1, h2⟩ | ⟨h1, h2, h3, h4⟩
    · refine ⟨0, σX, σM, ?_, ?_, Rel_q hR qX.rf kM.rf⟩
      · unfold FX11_restore FX3_getFromSlot
        rw [show (2 : Int32) = nI 2 from rfl, X_wi_i (by omega) hq, bdI_s, if_neg one_ne, gd_t i3, cl_nI (by omega), h1, if_pos rfl, bdI_s, if_pos rfl]
      · unfold FX12_restore
        rw [show (2 : Int32) = nI 2 from rfl, M_in_i (by omega) hq, bdI_s, if_neg one_ne, gd_t i3, cl_nI (by omega), h2, if_pos rfl]
    · obtain ⟨σb, hb, kb, b50, rb⟩ := M_restore_22 (show q < 3 by omega) 33 0 fu σM (fun j hj => by omega) (by omega) (by show 33 < 5000; omega)
      obtain ⟨τ, hτ⟩ : ∃ τ, τ = pI (rI σX 14 (va_cpy (σX.1 37) (σX.1 14) (33 * q) 0 33)) 6 4 0 := ⟨_, rfl⟩
      have t14 : τ.1 14 = va_cpy (σX.1 37) (σX.1 14) (33 * q) 0 33 := by rw [hτ, pI_o (by omega), rI_eq]
      obtain ⟨u, nx, hu, hx, h63, h64, h50, hh⟩ := p
      refine ⟨1, τ, σb, ?_, ?_, Rel_D t s w e pl ky (by rw [hτ]; exact (kX.rf.rr (by decide)).pp (by decide)) (kb.up (by decide) (by decide)) ?_ ?_ ⟨0, nx, by omega, hx, ?_, ?_, b50, fun i hi => by omega⟩⟩
      · unfold FX11_restore FX3_getFromSlot FX3_clearThings
        rw [show (2 : Int32) = nI 2 from rfl, X_wi_i (by omega) hq, bdI_s, if_neg one_ne, gd_t i3, cl_nI (by omega), h1, if_neg one_ne, gd_t g2]
        simp only [hl_]
        rw [bdI_s, if_neg one_ne, bdV_s, ec, ← hτ]
      · unfold FX12_restore
        rw [show (2 : Int32) = nI 2 from rfl, M_in_i (by omega) hq, bdI_s, if_neg one_ne, gd_t i3, cl_nI (by omega), h2, if_neg one_ne]
        exact hb
      · refine RR_congr h3 (fun k hk => ?_) rb
        rw [t14, cpy_a, if_pos (by omega), Nat.sub_zero]
      · exact RV_mono (by omega) (RV_congr hnm (fun k hk => (rb k hk).symm) h4)
      · rw [hτ, pI_s, pk_un (by omega), rI_ne (by omega)]; exact h63
      · rw [hτ, pI_s, pk_us]; rfl
  · refine ⟨0, σX, σM, ?_, ?_, Rel_q hR qX.rf kM.rf⟩
    · unfold FX11_restore FX3_getFromSlot
      rw [show (2 : Int32) = nI 2 from rfl, X_wi_o ho, bdI_s, if_pos rfl, bdI_s, if_pos rfl]
    · unfold FX12_restore
      rw [show (2 : Int32) = nI 2 from rfl, M_in_o ho, bdI_s, if_pos rfl]
/-! How much may be gained and paid. -/
def RW (nm nf A B : Nat) (g : Nat → Int32) : Prop := OW g nf ∧ (∀ m, m < nm → ∃ v, v ≤ 5 ∧ g m = nI v) ∧ (∃ d, d ≤ 9 ∧ g 18 = nI d) ∧ (∃ d, d ≤ 9 ∧ g 19 = nI d) ∧ ∀ f, f < 5 → (∃ a, a ≤ A ∧ g (23 + f) = nI a) ∧ ∃ b, b ≤ B ∧ g (28 + f) = nI b
theorem gnF_rng {L : Lawt} {g : Nat → Int32} {z l : Int32} {c f A : Nat} (h : ∃ a, a ≤ A ∧ g (23 + f) = nI a) : ∀ m, ∃ a, a ≤ A + 9 * m ∧ gnF L g z l c f m = nI a := by
  intro m
  induction m with
  | zero => obtain ⟨a, h1, h2⟩ := h; exact ⟨a, by omega, h2⟩
  | succ m ih =>
    obtain ⟨a, h1, h2⟩ := ih
    simp only [gnF]
    by_cases hc : g (10 + ptF c m) = nI f
    · obtain ⟨k, hk, ek⟩ := clI_rng (n := 9) (by omega) (lawV (vN [nI m, g m, g 18, g 19, z, l, g 20, nI (ptF c m), nI f]) L.1 L.2)
      rw [if_pos hc, h2, show wthF L g z l f m (ptF c m) = nI k from ek, nI_add]
      exact ⟨a + k, by omega, rfl⟩
    · rw [if_neg hc]; exact ⟨a, by omega, h2⟩
theorem wkF_lo {Ls : Nat → Lawt} {z l : Nat → Int32} {nm nf c k : Nat} {g : Nat → Int32} (hk : k < 20) : wkF Ls z l nm nf c g k = g k := by
  unfold wkF
  rw [if_neg (by omega), if_neg (by omega), if_neg (by omega), if_neg (by omega), if_neg (by omega)]
theorem RW_wk {Ls : Nat → Lawt} {z l : Nat → Int32} {nm nf c A B : Nat} {g : Nat → Int32} (hnm : nm ≤ 10) (hnf : nf ≤ 5) (h : RW nm nf A B g) : RW nm nf (A + 90) (B + 99) (wkF Ls z l nm nf c g) := by
  obtain ⟨h1, h2, h3, h4, h5⟩ := h
  refine ⟨OW_wk h1, fun m hm => by rw [wkF_lo (by omega)]; exact h2 m hm, by rw [wkF_lo (by omega)]; exact h3, by rw [wkF_lo (by omega)]; exact h4, fun f hf => ⟨?_, ?_⟩⟩
  · by_cases hc : f < nf
    · obtain ⟨a, ha, ea⟩ := gnF_rng (L := Ls 1) (z := z f) (l := l f) (c := c) (h5 f hf).1 nm
      refine ⟨a, by omega, ?_⟩
      unfold wkF
      rw [if_neg (by omega), if_neg (by omega), if_neg (by omega), if_pos (by omega), Nat.add_sub_cancel_left]
      exact ea
    · obtain ⟨a, ha, ea⟩ := (h5 f hf).1
      refine ⟨a, by omega, ?_⟩
      unfold wkF
      rw [if_neg (by omega), if_neg (by omega), if_neg (by omega), if_neg (by omega), if_neg (by omega)]
      exact ea
  · obtain ⟨b, hb, eb⟩ := (h5 f hf).2
    by_cases hc : f < nf
    · obtain ⟨k, hk, ek⟩ := clI_rng (n := 99) (by omega) (lawV (vN [0, 0, g 18, g 19, z f, l f, g 20, numF g f, nI f]) (Ls 2).1 (Ls 2).2)
      refine ⟨b + k, by omega, ?_⟩
      unfold wkF
      rw [if_neg (by omega), if_neg (by omega), if_neg (by omega), if_neg (by omega), if_pos (by omega), Nat.add_sub_cancel_left, eb, show famF (Ls 2) g (z f) (l f) f (numF g f) = nI k from ek, nI_add]
    · refine ⟨b, by omega, ?_⟩
      unfold wkF
      rw [if_neg (by omega), if_neg (by omega), if_neg (by omega), if_neg (by omega), if_neg (by omega)]
      exact eb
theorem RW_wkI {sd : Int32} {Ls : Nat → Lawt} {z l : Nat → Int32} {nm nf : Nat} (hnm : nm ≤ 10) (hnf : nf ≤ 5) : ∀ (N A B : Nat) (g : Nat → Int32), RW nm nf A B g → RW nm nf (A + 90 * N) (B + 99 * N) (wkI sd Ls z l nm nf N g) := by
  intro N
  induction N with
  | zero => intro A B g h; exact h
  | succ N ih =>
    intro A B g h
    simp only [wkI]
    have := ih (A + 90) (B + 99) _ (RW_wk (Ls := Ls) (z := z) (l := l) (c := csN sd (Ls 0) g nm) hnm hnf h)
    rw [show A + 90 * (N + 1) = A + 90 + 90 * N by omega, show B + 99 * (N + 1) = B + 99 + 99 * N by omega]
    exact this
theorem RW_mono {nm nf A B A' B' : Nat} {g : Nat → Int32} (hA : A ≤ A') (hB : B ≤ B') (h : RW nm nf A B g) : RW nm nf A' B' g := by
  obtain ⟨h1, h2, h3, h4, h5⟩ := h
  refine ⟨h1, h2, h3, h4, fun f hf => ?_⟩
  obtain ⟨⟨a, ha, ea⟩, ⟨b, hb, eb⟩⟩ := h5 f hf
  exact ⟨⟨a, by omega, ea⟩, ⟨b, by omega, eb⟩⟩
theorem RV_wkI {sd : Int32} {Ls : Nat → Lawt} {z l : Nat → Int32} {nm nf n N : Nat} {g : Nat → Int32} (hnm : nm ≤ 10) (hnf : nf ≤ 5) (hN : N ≤ 40) (h : RV nm nf n g) : RV nm nf (n + 1) (wkI sd Ls z l nm nf N g) :=
  RW_mono (A := 3600 * n + 90 * N) (B := 3960 * n + 99 * N) (by omega) (by omega) (RW_wkI hnm hnf N _ _ g h)
theorem sT_12 : St_12 Rel := by
  intro n σX σM hn hR x1
  obtain ⟨side, nm, nf, z, l, sd, Ls, t, r, v, p, s, w, e, pl, ky⟩ := id hR
  obtain ⟨hT, hsd, hM, hzl, hsM⟩ := id t
  have hnm := hT.1
  have hnf := hT.2.1
  have r20 : σX.1 14 30 = σM.1 31 20 := by rw [← r 20 (by omega), rowC_20]
  rcases rngT x1 40 (by omega) with ⟨N, hN, rfl⟩ | ho
  · have XI : FX11_within (nI N) 0 40 σX = some (1, σX) := X_wi_i (n := 40) (by omega) hN
    have MI := M_isLong_i hN (σ := σM)
    by_cases h0 : N = 0
    · subst h0
      refine ⟨σX.1 14 30, σX, σM, ?_, ?_, Rel_q hR qX.rf kM.rf⟩
      · unfold FX11_weeks
        rw [XI, bdI_s, if_neg one_ne, if_pos (show nI 0 ≤ (0 : Int32) by decide)]
      · unfold FX12_weeks
        rw [MI, bdI_s, if_neg one_ne, if_pos (show nI 0 = (0 : Int32) from rfl), r20]
    · obtain ⟨σ5, c5, k5, r5, s5, hM5⟩ := M_copiesG hM
      obtain ⟨σ6, c6, k6, r6⟩ := M_goes z l hN hM5 (fun j hj => by rw [k5.1 12 (by decide) (by decide), k5.1 13 (by decide) (by decide)]; exact hzl j hj)
      have k56 : kM [29, 30, 32] [46, 49] σM σ6 := kM.tr (k5.up (by decide) (by decide)) (k6.up (by decide) (by decide))
      obtain ⟨σX', σM', hk, hr, kx, km, m31, p'⟩ := dn_keep hnm p r v (σ1 := σ6) (k56.2.1 50 (by decide)) (k56.1 33 (by decide) (by decide)) (k56.1 31 (by decide) (by decide))
      have T' : TX σX' nm nf z l Ls := TX_k hT kx (by unfold tX; decide)
      have e14 : σX'.1 14 = σX.1 14 := kx.1 14 (by decide)
      have O' : OW (rowC nm (σX'.1 (4 + 10))) nf := OW_congr (fun k hk => by rw [show (4 + 10) = 14 from rfl, e14]; exact (r k hk).symm) v.1
      obtain ⟨σX2, c7, k7, r7⟩ := X_preachWeeks st_4 sd hN T' O'
      have hgM : ∀ k, k < 33 → σM'.1 31 k = wkI sd Ls z l nm nf N (σM.1 31) k := fun k hk => by
        rw [m31 k hk, r6 k hk, s5, hsM]
        exact wkI_congr hnm hnf N _ _ r5 k hk
      have hgX : ∀ k, k < 33 → rowC nm (σX2.1 14) k = wkI sd Ls z l nm nf N (σM.1 31) k := fun k hk => by
        refine (r7 k hk).trans (wkI_congr hnm hnf N _ _ (fun j hj => ?_) k hk)
        rw [show (4 + 10) = 14 from rfl, e14]; exact r j hj
      have hRR : RR nm (σX2.1 14) (σM'.1 31) := fun k hk => (hgX k hk).trans (hgM k hk).symm
      refine ⟨σM'.1 31 20, σX2, σM', ?_, ?_, Rel_D t s w e pl ky ((kx.up (by decide)).tr (k7.up (by decide))) (kM.tr (k56.up (by decide) (by decide)) (km.up (by decide) (by decide))) hRR ?_ ?_⟩
      · unfold FX11_weeks
        rw [XI, bdI_s, if_neg one_ne, if_neg (show ¬ nI N ≤ (0 : Int32) from nI_ge (a := 0) (by omega) (by omega)), hk, bdV_s, kx.1 3 (by decide), hsd, c7, bdV_s, ← hRR 20 (by omega), rowC_20]
      · unfold FX12_weeks
        rw [MI, bdI_s, if_neg one_ne, if_neg (show ¬ nI N = (0 : Int32) from fun h => h0 ((nI_eq (b := 0) (by omega) (by omega)).mp h)), c5, bdV_s, c6, bdV_s, hr, bdV_s]
      · exact RV_congr hnm (fun k hk => (hgM k hk).symm) (RV_wkI hnm hnf hN v)
      · exact PR_mono (by omega) (PR_eq (k7.1 6 (by decide)) (k7.1 36 (by decide)) rfl rfl p')
  · refine ⟨-1, σX, σM, ?_, ?_, Rel_q hR qX.rf kM.rf⟩
    · unfold FX11_weeks
      rw [show (40 : Int32) = nI 40 from rfl, X_wi_o ho, bdI_s, if_pos rfl]
    · unfold FX12_weeks
      rw [M_isLong_o ho, bdI_s, if_pos rfl]
/-! weeks that are tried -/
theorem X_copyFrom (nm : Nat) (σ : HS) : ∃ σ', FX7_copyFrom σ = some σ' ∧ kX [15] σ σ' ∧ ∀ k, k < 33 → σ'.1 15 k = σ.1 14 k := by
  refine ⟨rI σ 15 (va_cpy (σ.1 14) (σ.1 15) 0 0 33), rfl, kX.r (by decide), fun k hk => ?_⟩
  rw [rI_eq, cpy_a, if_pos (by omega)]
  exact congrArg (σ.1 14) (show 0 + (k - 0) = k by omega)
theorem X_tryWeeks {σ : HS} {nm nf N : Nat} {z l : Nat → Int32} {Ls : Nat → Lawt} {G : Nat → Int32} (sd : Int32) (hN : N ≤ 40) (hT : TX σ nm nf z l Ls) (r : RR nm (σ.1 14) G) (hO : OW G nf) : ∃ σ', FX11_tryWeeks (nI N) sd σ = some σ' ∧ kX [15, 39, 40] σ σ' ∧ ∀ k, k < 33 → rowC nm (σ'.1 15) k = wkI sd Ls z l nm nf N G k := by
  have hnm := hT.1
  have hnf := hT.2.1
  obtain ⟨σ1, h1, k1, r1⟩ := X_copyFrom nm σ
  have T1 : TX σ1 nm nf z l Ls := TX_k hT k1 (by unfold tX; decide)
  have R1 : RR nm (σ1.1 15) G := RR_congr r r1 (fun _ _ => rfl)
  obtain ⟨σ2, h2, k2, r2⟩ := X_preachWeeks st_5 sd hN T1 (OW_congr (fun k hk => (R1 k hk).symm) hO)
  refine ⟨σ2, ?_, (k1.up (by decide)).tr (k2.up (by decide)), fun k hk => (r2 k hk).trans (wkI_congr hnm hnf N _ _ (fun j hj => R1 j hj) k hk)⟩
  unfold FX11_tryWeeks
  rw [h1, bdV_s, h2, bdV_s]
theorem M_tryWeeks {σ : HS} {side nm nf N : Nat} {z l : Nat → Int32} {Ls : Nat → Lawt} (hN : N ≤ 40) (hM : MM σ side nm nf Ls) (hnf : nf ≤ 5) (hzl : ∀ j, j < nf → σ.1 12 (5 * side + j) = z j ∧ σ.1 13 (5 * side + j) = l j) : ∃ σ1 σ2, FX12_copies σ = some σ1 ∧ FX12_goes (nI N) σ1 = some σ2 ∧ kM [29, 30, 32] [46, 49] σ σ2 ∧ ∀ k, k < 33 → σ2.1 32 k = wkI (σ.1 18 side) Ls z l nm nf N (σ.1 31) k := by
  obtain ⟨σ5, c5, k5, r5, s5, hM5⟩ := M_copiesG hM
  obtain ⟨σ6, c6, k6, r6⟩ := M_goes z l hN hM5 (fun j hj => by rw [k5.1 12 (by decide) (by decide), k5.1 13 (by decide) (by decide)]; exact hzl j hj)
  refine ⟨σ5, σ6, c5, c6, kM.tr (k5.up (by decide) (by decide)) (k6.up (by decide) (by decide)), fun k hk => ?_⟩
  rw [r6 k hk, s5]
  exact wkI_congr hM.2.2.1 hnf N _ _ r5 k hk
theorem sT_33 : St_33 Rel := by
  intro n σX σM hn hR x1
  obtain ⟨side, nm, nf, z, l, sd, Ls, t, r, v, p, s, w, e, pl, ky⟩ := id hR
  obtain ⟨hT, hsd, hM, hzl, hsM⟩ := t
  have hnm := hT.1
  have hnf := hT.2.1
  have h30 := hT.2.2.1
  have h31 := hT.2.2.2.1
  rcases rngT x1 40 (by omega) with ⟨N, hN, rfl⟩ | ho
  · have XI : FX11_within (nI N) 0 40 σX = some (1, σX) := X_wi_i (n := 40) (by omega) hN
    have MI := M_isLong_i hN (σ := σM)
    obtain ⟨σa, ha, ka, ra⟩ := X_tryWeeks sd hN hT r v.1
    obtain ⟨σ1, σb, h1, hb, kb, rb⟩ := M_tryWeeks hN hM hnf hzl
    refine ⟨σb.1 32 22, σa, σb, ?_, ?_, Rel_q hR (qX.of ka (by decide)) (kb.up (by decide) (by decide))⟩
    · unfold FX11_partsIn
      rw [XI, bdI_s, if_neg one_ne, hsd, ha, bdV_s, rb 22 (by omega), hsM, ← ra 22 (by omega), rowC_22]
    · unfold FX12_partsIn
      rw [MI, bdI_s, if_neg one_ne, h1, bdV_s, hb, bdV_s]
  · refine ⟨-1, σX, σM, ?_, ?_, Rel_q hR qX.rf kM.rf⟩
    · unfold FX11_partsIn
      rw [show (40 : Int32) = nI 40 from rfl, X_wi_o ho, bdI_s, if_pos rfl]
    · unfold FX12_partsIn
      rw [M_isLong_o ho, bdI_s, if_pos rfl]
theorem X_profitOf {st f : Nat} (hf : f < 5) (σ : HS) : FX7_profitOf st (nI f) σ = some (σ.1 (st + 10) (18 + f) - σ.1 (st + 10) (23 + f), σ) := by
  unfold FX7_profitOf FX7_gainedBy FX7_paidBy
  rw [show (18 : Int32) + nI f = nI (18 + f) from nI_add 18 f, show (23 : Int32) + nI f = nI (23 + f) from nI_add 23 f, gd_t (ix_nI (by omega) (by omega)), bdI_s, gd_t (ix_nI (by omega) (by omega)), bdI_s, cl_nI (by omega), cl_nI (by omega)]
theorem sub4I (a b c d : Int32) : a - b - c + d = a - c - (b - d) := by
  have h : -(b - d) = d - b := Int32.neg_sub
  rw [Int32.sub_eq_add_neg (a := a - c), h, Int32.sub_eq_add_neg, Int32.sub_eq_add_neg, Int32.sub_eq_add_neg, Int32.sub_eq_add_neg, Int32.add_assoc, Int32.add_assoc, Int32.add_assoc]
  rw [Int32.add_comm d (-b), ← Int32.add_assoc (-b) (-c) d, Int32.add_comm (-b) (-c), Int32.add_assoc]
theorem sT_32 : St_32 Rel := by
  intro n σX σM hn hR x1 x2
  obtain ⟨side, nm, nf, z, l, sd, Ls, t, r, v, p, s, w, e, pl, ky⟩ := id hR
  obtain ⟨hT, hsd, hM, hzl, hsM⟩ := t
  have hnm := hT.1
  have hnf := hT.2.1
  have h30 := hT.2.2.1
  have h31 := hT.2.2.2.1
  rcases rng x1 nf (by omega) with ⟨f, hf, rfl⟩ | ho
  · have XJ := X_isFamily_i h31 hnf hf
    have MJ := M_isFamily_i hM hf
    rcases rngT x2 40 (by omega) with ⟨N, hN, rfl⟩ | ho
    · have XI : FX11_within (nI N) 0 40 σX = some (1, σX) := X_wi_i (n := 40) (by omega) hN
      have MI := M_isLong_i hN (σ := σM)
      obtain ⟨σa, ha, ka, ra⟩ := X_tryWeeks sd hN hT r v.1
      obtain ⟨σ1, σb, h1, hb, kb, rb⟩ := M_tryWeeks hN hM hnf hzl
      have f1 : σa.1 15 (18 + f) = σb.1 32 (23 + f) := by rw [rb _ (by omega), hsM, ← ra (23 + f) (by omega), rowC_f (by omega)]; exact congrArg _ (by omega)
      have f2 : σa.1 15 (23 + f) = σb.1 32 (28 + f) := by rw [rb _ (by omega), hsM, ← ra (28 + f) (by omega), rowC_f (by omega)]; exact congrArg _ (by omega)
      have f3 : σa.1 14 (18 + f) = σb.1 31 (23 + f) := by rw [ka.1 14 (by decide), kb.1 31 (by decide) (by decide), ← r (23 + f) (by omega), rowC_f (by omega)]; exact congrArg _ (by omega)
      have f4 : σa.1 14 (23 + f) = σb.1 31 (28 + f) := by rw [ka.1 14 (by decide), kb.1 31 (by decide) (by decide), ← r (28 + f) (by omega), rowC_f (by omega)]; exact congrArg _ (by omega)
      refine ⟨(σb.1 32 (23 + f) - σb.1 32 (28 + f)) - (σb.1 31 (23 + f) - σb.1 31 (28 + f)), σa, σb, ?_, ?_, Rel_q hR (qX.of ka (by decide)) (kb.up (by decide) (by decide))⟩
      · unfold FX11_gains
        rw [XJ, bdI_s, if_neg one_ne, XI, bdI_s, if_neg one_ne, hsd, ha, bdV_s, X_profitOf (by omega), bdI_s, X_profitOf (by omega), bdI_s]
        rw [show (5 + 10) = 15 from rfl, show (4 + 10) = 14 from rfl, f1, f2, f3, f4]
      · unfold FX12_gains
        rw [MJ, bdI_s, if_neg one_ne, MI, bdI_s, if_neg one_ne, h1, bdV_s, hb, bdV_s, show (23 : Int32) + nI f = nI (23 + f) from nI_add 23 f, show (28 : Int32) + nI f = nI (28 + f) from nI_add 28 f, gd_t (ix_nI (by omega) (by omega)), gd_t (ix_nI (by omega) (by omega)), gd_t (ix_nI (by omega) (by omega)), gd_t (ix_nI (by omega) (by omega)), cl_nI (by omega), cl_nI (by omega), sub4I]
    · refine ⟨-100000000, σX, σM, ?_, ?_, Rel_q hR qX.rf kM.rf⟩
      · unfold FX11_gains
        rw [XJ, bdI_s, if_neg one_ne, show (40 : Int32) = nI 40 from rfl, X_wi_o ho, bdI_s, if_pos rfl]
      · unfold FX12_gains
        rw [MJ, bdI_s, if_neg one_ne, M_isLong_o ho, bdI_s, if_pos rfl]
  · exact ⟨-100000000, σX, σM, by simp only [FX11_gains, X_isFamily_o h31 ho, bdI_s, if_true], by simp only [FX12_gains, M_isFamily_o hM ho, bdI_s, if_true], Rel_q hR qX.rf kM.rf⟩
theorem year_go {n : Nat} {σX σM : HS} {side nm nf f N s : Nat} {z l : Nat → Int32} {sd : Int32} {Ls : Nat → Lawt} (hn : n < 512) (hT : TX σX nm nf z l Ls) (hsd : σX.1 3 4 = sd) (hM : MM σM side nm nf Ls) (hzl : ∀ j, j < nf → σM.1 12 (5 * side + j) = z j ∧ σM.1 13 (5 * side + j) = l j) (hsM : σM.1 18 side = sd) (r : RR nm (σX.1 14) (σM.1 31)) (v : RV nm nf n (σM.1 31)) (hf : f < nf) (hN : N ≤ 40) (hs : s ≤ 20) : ∀ (m i fl : Nat) (c : Int32) (σa σb : HS), kX [15, 39, 40] σX σa → kM [29, 30, 32] [46, 49] σM σb → i + m = s → m < fl → ∃ y σa' σb', FX11_year_36 fl (nI f) (nI N) (nI s) c (nI i) σa = some (y, σa') ∧ FX12_year_33 fl (nI f) (nI N) (nI s) c (nI i) σb = some (y, σb') ∧ kX [15, 39, 40] σX σa' ∧ kM [29, 30, 32] [46, 49] σM σb' := by
  have hnm := hT.1
  have hnf := hT.2.1
  intro m
  induction m with
  | zero =>
    intro i fl c σa σb ka kb hi hfl
    obtain ⟨fl, rfl⟩ : ∃ z, fl = z + 1 := ⟨fl - 1, by omega⟩
    have hle : nI s ≤ nI i := nI_le (by omega) (by omega)
    rw [FX11_year_36, FX12_year_33, if_pos hle, if_pos hle]
    exact ⟨c, σa, σb, rfl, rfl, ka, kb⟩
  | succ m ih =>
    intro i fl c σa σb ka kb hi hfl
    obtain ⟨fl, rfl⟩ : ∃ z, fl = z + 1 := ⟨fl - 1, by omega⟩
    have hle : ¬ nI s ≤ nI i := nI_ge (by omega) (by omega)
    obtain ⟨σc, hc, kc, rc⟩ := X_tryWeeks (G := σM.1 31) (sd + nI i) hN (TX_k hT ka (by unfold tX; decide)) (by rw [ka.1 14 (by decide)]; exact r) v.1
    have hMb : MM σb side nm nf Ls := MM_kM kb (by intro x h1 h2 h; simp at h; omega) (by decide) (by decide) (by decide) hM
    obtain ⟨σ5, c5, k5, r5, s5, hM5⟩ := M_copiesG hMb
    have s5' : σ5.1 0 49 = sd := by rw [s5, kb.1 18 (by decide) (by decide)]; exact hsM
    have k4 : kM [29, 30, 32] [46, 49] σ5 (pI σ5 0 49 (sd + nI i)) := kM.pF (by decide)
    have hM4 : MM (pI σ5 0 49 (sd + nI i)) side nm nf Ls := MM_kM k4 (by intro x h1 h2 h; simp at h; omega) (by decide) (by decide) (by decide) hM5
    obtain ⟨σ6, c6, k6, r6⟩ := M_goes z l hN hM4 (fun j hj => by rw [k4.1 12 (by decide) (by decide), k4.1 13 (by decide) (by decide), k5.1 12 (by decide) (by decide), k5.1 13 (by decide) (by decide), kb.1 12 (by decide) (by decide), kb.1 13 (by decide) (by decide)]; exact hzl j hj)
    have g6 : ∀ k, k < 33 → σ6.1 32 k = wkI (sd + nI i) Ls z l nm nf N (σM.1 31) k := fun k hk => by
      rw [r6 k hk, pI_s, pk_us]
      refine wkI_congr hnm hnf N _ _ (fun j hj => ?_) k hk
      rw [pI_o (by omega), r5 j hj, kb.1 31 (by decide) (by decide)]
    have kb6 : kM [29, 30, 32] [46, 49] σM σ6 := kM.tr kb (kM.tr (k5.up (by decide) (by decide)) (kM.tr k4 (k6.up (by decide) (by decide))))
    have kac : kX [15, 39, 40] σX σc := ka.tr kc
    obtain ⟨⟨a, ha, ea⟩, ⟨b, hb, eb⟩⟩ := (RV_wkI (sd := sd + nI i) (Ls := Ls) (z := z) (l := l) hnm hnf hN v).2.2.2.2 f (by omega)
    have f1 : σc.1 15 (18 + f) = nI a := by rw [← ea, ← rc (23 + f) (by omega), rowC_f (by omega)]; exact congrArg _ (by omega)
    have f2 : σc.1 15 (23 + f) = nI b := by rw [← eb, ← rc (28 + f) (by omega), rowC_f (by omega)]; exact congrArg _ (by omega)
    have f3 : σ6.1 32 (23 + f) = nI a := by rw [g6 _ (by omega), ea]
    have f4 : σ6.1 32 (28 + f) = nI b := by rw [g6 _ (by omega), eb]
    have hX : FX11_year_36 (fl + 1) (nI f) (nI N) (nI s) c (nI i) σa = if nI a - nI b ≤ 0 then FX11_year_36 fl (nI f) (nI N) (nI s) c (nI (i + 1)) σc else FX11_year_36 fl (nI f) (nI N) (nI s) (c + 1) (nI (i + 1)) σc := by
      rw [FX11_year_36, if_neg hle, ka.1 3 (by decide), hsd, hc, bdV_s, X_profitOf (by omega), bdI_s, show (5 + 10) = 15 from rfl, f1, f2, nI_1]
    have hMm : FX12_year_33 (fl + 1) (nI f) (nI N) (nI s) c (nI i) σb = if nI a ≤ nI b then FX12_year_33 fl (nI f) (nI N) (nI s) c (nI (i + 1)) σ6 else FX12_year_33 fl (nI f) (nI N) (nI s) (c + 1) (nI (i + 1)) σ6 := by
      rw [FX12_year_33, if_neg hle, c5, bdV_s]
      simp only [hl_]
      rw [s5', c6, bdV_s, show (23 : Int32) + nI f = nI (23 + f) from nI_add 23 f, show (28 : Int32) + nI f = nI (28 + f) from nI_add 28 f, gd_t (ix_nI (by omega) (by omega)), gd_t (ix_nI (by omega) (by omega)), cl_nI (by omega), cl_nI (by omega), f3, f4, nI_1]
    have hd : (nI a - nI b).toInt = (a : Int) - b := pk_sub_toInt (by omega) (by omega)
    rw [hX, hMm]
    by_cases hab : a ≤ b
    · rw [if_pos (show nI a - nI b ≤ 0 by rw [Int32.le_iff_toInt_le, hd]; show (a : Int) - b ≤ 0; omega), if_pos (nI_le hab (by omega))]
      exact ih (i + 1) fl c σc σ6 kac kb6 (by omega) (by omega)
    · rw [if_neg (show ¬ nI a - nI b ≤ 0 by rw [Int32.le_iff_toInt_le, hd]; show ¬ (a : Int) - b ≤ 0; omega), if_neg (nI_ge (by omega) (by omega))]
      exact ih (i + 1) fl (c + 1) σc σ6 kac kb6 (by omega) (by omega)
theorem rng1 (x : Int32) (n : Nat) (hn : n < 2 ^ 30) : (∃ k, 1 ≤ k ∧ k ≤ n ∧ x = nI k) ∨ (x < 1 ∨ nI n < x) := by
  rcases rngT x n hn with ⟨k, hk, rfl⟩ | h | h
  · by_cases h0 : k = 0
    · subst h0; exact Or.inr (Or.inl (by decide))
    · exact Or.inl ⟨k, by omega, hk, rfl⟩
  · refine Or.inr (Or.inl ?_)
    rw [Int32.lt_iff_toInt_lt] at h ⊢
    have h1 : (1 : Int32).toInt = 1 := rfl
    have h0 : (0 : Int32).toInt = 0 := rfl
    omega
  · exact Or.inr (Or.inr h)
theorem sT_34 : St_34 Rel := by
  intro n σX σM hn hR x1 x2 x3
  obtain ⟨side, nm, nf, z, l, sd, Ls, t, r, v, p, s, w, e, pl, ky⟩ := id hR
  obtain ⟨hT, hsd, hM, hzl, hsM⟩ := t
  have hnm := hT.1
  have hnf := hT.2.1
  have h30 := hT.2.2.1
  have h31 := hT.2.2.2.1
  rcases rng x1 nf (by omega) with ⟨f, hf, rfl⟩ | ho
  · have XJ := X_isFamily_i h31 hnf hf
    have MJ := M_isFamily_i hM hf
    rcases rngT x2 40 (by omega) with ⟨N, hN, rfl⟩ | ho
    · have XI : FX11_within (nI N) 0 40 σX = some (1, σX) := X_wi_i (n := 40) (by omega) hN
      have MI := M_isLong_i hN (σ := σM)
      rcases rng1 x3 20 (by omega) with ⟨k, hk1, hk, rfl⟩ | ho
      · have X1 : ¬ (nI k < 1 ∨ 20 < nI k) := fun h => h.elim (nI_nlt (b := 1) (by omega) (by omega)) (nI_nlt (a := 20) (by omega) (by omega))
        obtain ⟨y, σa, σb, h1, h2, ka, kb⟩ := year_go hn hT hsd hM hzl hsM r v hf hN hk k 0 fu 0 σX σM kX.rf kM.rf (by omega) (by show k < 5000; omega)
        refine ⟨y, σa, σb, ?_, ?_, Rel_q hR (qX.of ka (by decide)) (kb.up (by decide) (by decide))⟩
        · unfold FX11_year
          rw [XJ, bdI_s, if_neg one_ne, XI, bdI_s, if_neg one_ne, X_within, bdI_s, if_neg X1, if_neg one_ne]
          exact h1
        · unfold FX12_year
          rw [MJ, bdI_s, if_neg one_ne, MI, bdI_s, if_neg one_ne, M_in, bdI_s, if_neg X1, if_neg one_ne]
          exact h2
      · refine ⟨-1, σX, σM, ?_, ?_, Rel_q hR qX.rf kM.rf⟩
        · unfold FX11_year
          rw [XJ, bdI_s, if_neg one_ne, XI, bdI_s, if_neg one_ne, X_within, bdI_s, if_pos (show x3 < 1 ∨ 20 < x3 from ho), if_pos rfl]
        · unfold FX12_year
          rw [MJ, bdI_s, if_neg one_ne, MI, bdI_s, if_neg one_ne, M_in, bdI_s, if_pos (show x3 < 1 ∨ 20 < x3 from ho), if_pos rfl]
    · refine ⟨-1, σX, σM, ?_, ?_, Rel_q hR qX.rf kM.rf⟩
      · unfold FX11_year
        rw [XJ, bdI_s, if_neg one_ne, show (40 : Int32) = nI 40 from rfl, X_wi_o ho, bdI_s, if_pos rfl]
      · unfold FX12_year
        rw [MJ, bdI_s, if_neg one_ne, M_isLong_o ho, bdI_s, if_pos rfl]
  · exact ⟨-1, σX, σM, by simp only [FX11_year, X_isFamily_o h31 ho, bdI_s, if_true], by simp only [FX12_year, M_isFamily_o hM ho, bdI_s, if_true], Rel_q hR qX.rf kM.rf⟩
