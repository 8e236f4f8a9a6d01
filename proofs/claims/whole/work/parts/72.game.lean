/-! Face: pepper, soothes, swap, game. -/
theorem M_fillHave {σ : HS} {side nm nf f : Nat} {Ls : Nat → Lawt} {G : Nat → Int32} (hM : MM σ side nm nf Ls) (hf : f < nf) (hG : ∀ k, k < 33 → σ.1 32 k = G k) : ∃ σ1 σ2, FX12_fillsFalls σ = some σ1 ∧ FX12_haveOf (nI f) σ1 = some (haF Ls G (σ.1 12 (5 * side + f)) (σ.1 13 (5 * side + f)) nm f, σ2) ∧ kM [29, 30, 34, 35] [46] σ σ2 := by
  obtain ⟨σ1, h1, k1, f1⟩ := M_fillsFalls hM
  have Q1 : MQs σ1 side nm nf Ls G := ⟨MM_kM k1 s3445 (by decide) (by decide) (by decide) hM, fun k hk => by rw [k1.1 32 (by decide) (by decide)]; exact hG k hk, FF_congr hM.2.2.1 hG f1⟩
  obtain ⟨σ2, h2, k2⟩ := M_haveOf hf Q1
  rw [k1.1 12 (by decide) (by decide), k1.1 13 (by decide) (by decide)] at h2
  exact ⟨σ1, σ2, h1, h2, kM.tr k1 (k2.up (by decide) (by decide))⟩
theorem s_w : ∀ x, 19 ≤ x → x ≤ 27 → x ∉ [29, 30, 32, 34, 35] := by intro x h1 h2 h; simp at h; omega
theorem tX_g : tX [8, 15, 39, 40, 41, 42] := by unfold tX; decide
theorem pep_go {n : Nat} {σX σM : HS} {k : Nat} (hR : Rel n σX σM) (hk : k = 18 ∨ k = 19) (x1 : Int32) : ∃ (r : Int32) (σX' σM' : HS), (bdI (FX11_isFamily x1 σX) fun r_1 σ_2 => if r_1 = 0 then some ((-100000000 : Int32), σ_2) else bdI (FX11_gainByOneMore x1 (nI (k + 10)) σ_2) fun r_5 σ_6 => some (r_5, σ_6)) = some (r, σX') ∧ (bdI (FX12_moreBy x1 (nI k) σM) fun r_1 σ_2 => some (r_1, σ_2)) = some (r, σM') ∧ Rel (n + 1) σX' σM' := by
  obtain ⟨side, nm, nf, z, l, sd, Ls, t, r, v, p, s, w, e, pl, ky⟩ := id hR
  obtain ⟨hT, hsd, hM, hzl, hsM⟩ := t
  have hnm := hT.1
  have hnf := hT.2.1
  have h30 := hT.2.2.1
  have h31 := hT.2.2.2.1
  rcases rng x1 nf (by omega) with ⟨f, hf, rfl⟩ | ho
  · have XI := X_isFamily_i h31 hnf hf
    have MI := M_isFamily_i hM hf
    have i1 : ix (nI k) 33 = true := ix_nI (by omega) (by omega)
    have i2 : ix (nI (k + 10)) 33 = true := ix_nI (by omega) (by omega)
    have rk : σX.1 14 (k + 10) = σM.1 31 k := by rw [← r k (by omega), rowC_d (by omega) (by omega)]
    obtain ⟨d, hd, ed⟩ : ∃ d, d ≤ 9 ∧ σM.1 31 k = nI d := by
      rcases hk with rfl | rfl
      · exact v.2.2.1
      · exact v.2.2.2.1
    obtain ⟨σb, hb, kb, Qb, -⟩ := M_copiesFalls hM
    obtain ⟨σc, hc, kc⟩ := M_haveOf hf Qb
    rw [kb.1 12 (by decide) (by decide), kb.1 13 (by decide) (by decide), (hzl f hf).1, (hzl f hf).2] at hc
    have kbc : kM [29, 30, 32, 34, 35] [46, 49] σM σc := kM.tr kb (kc.up (by decide) (by decide))
    have Qc := MQs_v kc Qb
    have rc : σc.1 32 k = nI d := by rw [Qc.2.1 k (by omega), ed]
    rw [XI, bdI_s, if_neg one_ne, bdI_id, bdI_id]
    by_cases h9 : d = 9
    · subst h9
      refine ⟨0, σX, σc, ?_, ?_, Rel_q hR qX.rf (kbc.up (by decide) (by decide))⟩
      · unfold FX11_gainByOneMore
        rw [gd_t i2, cl_nI (by omega), rk, ed, if_neg (show ¬ nI 9 < (9 : Int32) by decide)]
      · unfold FX12_moreBy
        rw [MI, bdI_s, if_neg one_ne, hb, bdV_s, hc, bdI_s, gd_t i1, cl_nI (by omega), rc, if_pos (show nI 9 = (9 : Int32) from rfl)]
    · obtain ⟨τ, c1, k1, r1⟩ := X_copyFrom nm σX
      have k2 : kX [8, 15, 39, 40, 41, 42] σX (pI τ 15 (k + 10) (nI (d + 1))) := (k1.up (by decide)).pp (by decide)
      have T2 : TX (pI τ 15 (k + 10) (nI (d + 1))) nm nf z l Ls := TX_k hT k2 tX_g
      have R2 : RR nm ((pI τ 15 (k + 10) (nI (d + 1))).1 (5 + 10)) (upd (σM.1 31) k (nI (d + 1))) := by
        rw [show (5 + 10) = 15 from rfl, pI_s]
        exact RR_d hnm (by omega) (by omega) (RR_congr r r1 (fun _ _ => rfl))
      obtain ⟨σ3, h3, k3⟩ := X_haveIn (st := 5) T2 st_5 hf R2
      have k23 : kX [8, 15, 39, 40, 41, 42] σX σ3 := k2.tr (k3.up (by decide))
      obtain ⟨σ4, h4, k4⟩ := X_haveIn (st := 4) (G := σM.1 31) (TX_k hT k23 tX_g) st_4 hf (by rw [show (4 + 10) = 14 from rfl, k23.1 14 (by decide)]; exact r)
      have kd : kM [29, 30, 32, 34, 35] [46, 49] σM (pI σc 32 k (nI (d + 1))) := kM.tr kbc (kM.pR (by decide) (by decide))
      obtain ⟨σ5, σ6, h5, h6, k6⟩ := M_fillHave (f := f) (G := upd (σM.1 31) k (nI (d + 1))) (MM_kM kd s_w (by decide) (by decide) (by decide) hM) hf (fun j hj => by rw [pI_s, upd_a, upd_a, Qc.2.1 j hj])
      rw [kd.1 12 (by decide) (by decide), kd.1 13 (by decide) (by decide), (hzl f hf).1, (hzl f hf).2] at h6
      refine ⟨haF Ls (upd (σM.1 31) k (nI (d + 1))) (z f) (l f) nm f - haF Ls (σM.1 31) (z f) (l f) nm f, σ4, σ6, ?_, ?_, Rel_q hR (qX.of (k23.tr (k4.up (by decide))) (by decide)) (kM.tr (kd.up (by decide) (by decide)) (k6.up (by decide) (by decide)))⟩
      · unfold FX11_gainByOneMore
        rw [gd_t i2, cl_nI (by omega), rk, ed, if_pos (show nI d < (9 : Int32) from nI_lt (b := 9) (by omega) (by omega)), c1, bdV_s, gd_t i2, gd_t i2]
        simp only [hl_]
        rw [r1 (k + 10) (by omega), rk, ed, nI_1, h3, bdI_s, h4, bdI_s]
      · unfold FX12_moreBy
        rw [MI, bdI_s, if_neg one_ne, hb, bdV_s, hc, bdI_s, gd_t i1, cl_nI (by omega), rc, if_neg (show ¬ nI d = (9 : Int32) from fun h => h9 ((nI_eq (b := 9) (by omega) (by omega)).mp h)), gd_t i1, gd_t i1]
        simp only [hl_]
        rw [nI_1, h5, bdV_s, h6, bdI_s]
  · refine ⟨-100000000, σX, σM, ?_, ?_, Rel_q hR qX.rf kM.rf⟩
    · rw [X_isFamily_o h31 ho, bdI_s, if_pos rfl]
    · unfold FX12_moreBy
      rw [M_isFamily_o hM ho, bdI_s, if_pos rfl, bdI_s]
theorem sT_26 : St_26 Rel := by
  intro n σX σM hn hR x1
  exact pep_go (k := 18) hR (Or.inl rfl) x1
theorem sT_27 : St_27 Rel := by
  intro n σX σM hn hR x1
  exact pep_go (k := 19) hR (Or.inr rfl) x1
/-! swap -/
def inB (b : Int32) : Prop := b = -2 ∨ ∃ t, t < 2 ^ 30 ∧ b = nI t
theorem swap_in {σX σM : HS} {side nm nf f m : Nat} {z l : Nat → Int32} {Ls : Nat → Lawt} (KX KM : Int32 → Int32 → Int32 → Int32 → Int32 → HS → Option (Int32 × HS)) (x2 : Int32) (hT : TX σX nm nf z l Ls) (hM : MM σM side nm nf Ls) (hzl : ∀ j, j < nf → σM.1 12 (5 * side + j) = z j ∧ σM.1 13 (5 * side + j) = l j) (r : RR nm (σX.1 14) (σM.1 31)) (hf : f < nf) (hm : m < nm) : ∀ (n o fl : Nat) (best most : Int32) (σa σb : HS), inB best → kX [8, 15, 39, 40, 41, 42] σX σa → kM [29, 30, 32, 34, 35] [46, 49] σM σb → o + n = nm → n < fl → ∃ best' most' σa' σb', FX11_swap_54 KX fl (nI f) x2 best most (nI m) (nI o) σa = KX (nI f) x2 best' most' (nI (m + 1)) σa' ∧ FX12_swap_51 KM fl (nI f) x2 best most (nI m) (nI o) σb = KM (nI f) x2 best' most' (nI (m + 1)) σb' ∧ inB best' ∧ kX [8, 15, 39, 40, 41, 42] σX σa' ∧ kM [29, 30, 32, 34, 35] [46, 49] σM σb' := by
  have hnm := hT.1
  intro n
  induction n with
  | zero =>
    intro o fl best most σa σb hb ka kb ho hfl
    obtain ⟨fl, rfl⟩ : ∃ z, fl = z + 1 := ⟨fl - 1, by omega⟩
    obtain rfl : o = nm := by omega
    have hle : nI o ≤ nI o := nI_le (by omega) (by omega)
    have Mb : MM σb side o nf Ls := MM_kM kb s_w (by decide) (by decide) (by decide) hM
    rw [FX11_swap_54, FX12_swap_51, (TX_k hT ka tX_g).2.2.1, if_pos hle, M_many Mb, bdI_s, if_pos hle, nI_1]
    exact ⟨best, most, σa, σb, rfl, rfl, hb, ka, kb⟩
  | succ n ih =>
    intro o fl best most σa σb hb ka kb ho hfl
    obtain ⟨fl, rfl⟩ : ∃ z, fl = z + 1 := ⟨fl - 1, by omega⟩
    have hom : o < nm := by omega
    have hle : ¬ nI nm ≤ nI o := nI_ge (by omega) (by omega)
    have Ta := TX_k hT ka tX_g
    have Mb : MM σb side nm nf Ls := MM_kM kb s_w (by decide) (by decide) (by decide) hM
    have rm : σX.1 14 m = σM.1 31 m := by rw [← r m (by omega), rowC_m hm hnm]
    have ro : σX.1 14 o = σM.1 31 o := by rw [← r o (by omega), rowC_m hom hnm]
    obtain ⟨τ, c1, k1, r1⟩ := X_copyFrom nm σa
    have a14 : σa.1 14 = σX.1 14 := ka.1 14 (by decide)
    have t5m : τ.1 (5 + 10) m = σM.1 31 m := by rw [show (5 + 10) = 15 from rfl, r1 m (by omega), a14, rm]
    have t5o : τ.1 (5 + 10) o = σM.1 31 o := by rw [show (5 + 10) = 15 from rfl, r1 o (by omega), a14, ro]
    have c2 := X_exchange (st := 5) (show m < 10 by omega) (show o < 10 by omega) τ
    rw [t5m, t5o] at c2
    obtain ⟨τ2, hτ2⟩ : ∃ τ2, τ2 = pI (pI τ (5 + 10) m (σM.1 31 o)) (5 + 10) o (σM.1 31 m) := ⟨_, rfl⟩
    rw [← hτ2] at c2
    have k2 : kX [8, 15, 39, 40, 41, 42] σX τ2 := by rw [hτ2]; exact ((ka.tr (k1.up (by decide))).pp (by decide)).pp (by decide)
    have R2 : RR nm (τ2.1 (5 + 10)) (upd (upd (σM.1 31) m (σM.1 31 o)) o (σM.1 31 m)) := by
      rw [hτ2, pI_s, pI_s]
      refine RR_m hnm hom (RR_m hnm hm (RR_congr r (fun k hk => ?_) (fun _ _ => rfl)))
      rw [show (5 + 10) = 15 from rfl, r1 k hk, a14]
    obtain ⟨σ3, h3, k3⟩ := X_haveIn (st := 5) (TX_k hT k2 tX_g) st_5 hf R2
    have k23 : kX [8, 15, 39, 40, 41, 42] σX σ3 := k2.tr (k3.up (by decide))
    obtain ⟨σ4, h4, k4, r4⟩ := M_changesFor Mb hm hom
    have e31 : σb.1 31 = σM.1 31 := kb.1 31 (by decide) (by decide)
    rw [e31] at r4
    have kb4 : kM [29, 30, 32, 34, 35] [46, 49] σM σ4 := kM.tr kb (k4.up (by decide) (by decide))
    obtain ⟨σ5, σ6, h5, h6, k6⟩ := M_fillHave (f := f) (MM_kM kb4 s_w (by decide) (by decide) (by decide) hM) hf r4
    rw [kb4.1 12 (by decide) (by decide), kb4.1 13 (by decide) (by decide), (hzl f hf).1, (hzl f hf).2] at h6
    have kb6 : kM [29, 30, 32, 34, 35] [46, 49] σM σ6 := kM.tr kb4 (k6.up (by decide) (by decide))
    have e10 : (10 : Int32) * nI m + nI o = nI (10 * m + o) := by rw [show (10 : Int32) = nI 10 from rfl, pk_mul, nI_add]
    obtain ⟨h, hh⟩ : ∃ h, h = haF Ls (upd (upd (σM.1 31) m (σM.1 31 o)) o (σM.1 31 m)) (z f) (l f) nm f := ⟨_, rfl⟩
    rw [← hh] at h3 h6
    have hX : FX11_swap_54 KX (fl + 1) (nI f) x2 best most (nI m) (nI o) σa = if h ≤ most then FX11_swap_54 KX fl (nI f) x2 best most (nI m) (nI (o + 1)) σ3 else FX11_swap_54 KX fl (nI f) x2 (nI (10 * m + o)) h (nI m) (nI (o + 1)) σ3 := by
      rw [FX11_swap_54, Ta.2.2.1, if_neg hle]
      unfold FX11_haveAfterChange
      rw [c1, bdV_s, c2, bdV_s, h3, bdI_s, bdI_s]
      simp only [hl_]
      rw [e10, nI_1]
    have hMm : FX12_swap_51 KM (fl + 1) (nI f) x2 best most (nI m) (nI o) σb = if most < h then FX12_swap_51 KM fl (nI f) x2 (nI (10 * m + o)) h (nI m) (nI (o + 1)) σ6 else FX12_swap_51 KM fl (nI f) x2 best most (nI m) (nI (o + 1)) σ6 := by
      rw [FX12_swap_51, M_many Mb, bdI_s, if_neg hle, h4, bdV_s, h5, bdV_s, h6, bdI_s]
      simp only [hl_]
      rw [e10, nI_1]
    rw [hX, hMm]
    by_cases hc : h ≤ most
    · rw [if_pos hc, if_neg (Int32.not_lt.mpr hc)]
      exact ih (o + 1) fl best most σ3 σ6 hb k23 kb6 (by omega) (by omega)
    · rw [if_neg hc, if_pos (Int32.not_le.mp hc)]
      exact ih (o + 1) fl _ h σ3 σ6 (Or.inr ⟨10 * m + o, by omega, rfl⟩) k23 kb6 (by omega) (by omega)
theorem swap_out {σX σM : HS} {side nm nf f : Nat} {z l : Nat → Int32} {Ls : Nat → Lawt} (x2 : Int32) (hT : TX σX nm nf z l Ls) (hM : MM σM side nm nf Ls) (hzl : ∀ j, j < nf → σM.1 12 (5 * side + j) = z j ∧ σM.1 13 (5 * side + j) = l j) (r : RR nm (σX.1 14) (σM.1 31)) (hf : f < nf) : ∀ (n m fl : Nat) (best most : Int32) (σa σb : HS), inB best → kX [8, 15, 39, 40, 41, 42] σX σa → kM [29, 30, 32, 34, 35] [46, 49] σM σb → m + n = nm → n < fl → ∃ y σa' σb', FX11_swap_36 fl (nI f) x2 best most (nI m) σa = some (y, σa') ∧ FX12_swap_36 fl (nI f) x2 best most (nI m) σb = some (y, σb') ∧ kX [8, 15, 39, 40, 41, 42] σX σa' ∧ kM [29, 30, 32, 34, 35] [46, 49] σM σb' := by
  have hnm := hT.1
  intro n
  induction n with
  | zero =>
    intro m fl best most σa σb hb ka kb ho hfl
    obtain ⟨fl, rfl⟩ : ∃ z, fl = z + 1 := ⟨fl - 1, by omega⟩
    obtain rfl : m = nm := by omega
    have hle : nI m ≤ nI m := nI_le (by omega) (by omega)
    have Mb : MM σb side m nf Ls := MM_kM kb s_w (by decide) (by decide) (by decide) hM
    rw [FX11_swap_36, FX12_swap_36, (TX_k hT ka tX_g).2.2.1, if_pos hle, M_many Mb, bdI_s, if_pos hle]
    by_cases h0 : x2 = 0
    · rw [if_pos h0, if_pos h0]
      exact ⟨best, σa, σb, rfl, by rw [ite_self], ka, kb⟩
    · rw [if_neg h0, if_neg h0]
      rcases hb with h1 | ⟨t, ht, h1⟩
      · rw [h1, if_pos rfl, if_pos (show (-2 : Int32) < 0 by decide)]
        exact ⟨_, σa, σb, rfl, rfl, ka, kb⟩
      · rw [h1, if_neg (fun h => neg2_ne ht h.symm), if_neg (nn_0 ht)]
        exact ⟨_, σa, σb, rfl, rfl, ka, kb⟩
  | succ n ih =>
    intro m fl best most σa σb hb ka kb ho hfl
    obtain ⟨fl, rfl⟩ : ∃ z, fl = z + 1 := ⟨fl - 1, by omega⟩
    have hmm : m < nm := by omega
    have hle : ¬ nI nm ≤ nI m := nI_ge (by omega) (by omega)
    have Mb : MM σb side nm nf Ls := MM_kM kb s_w (by decide) (by decide) (by decide) hM
    obtain ⟨b', m', σa', σb', h1, h2, hb', ka', kb'⟩ := swap_in (FX11_swap_36 fl) (FX12_swap_36 fl) x2 hT hM hzl r hf hmm (nm - (m + 1)) (m + 1) fu best most σa σb hb ka kb (by omega) (by show nm - (m + 1) < 5000; omega)
    obtain ⟨y, σc, σd, h3, h4, kc, kd⟩ := ih (m + 1) fl b' m' σa' σb' hb' ka' kb' (by omega) (by omega)
    refine ⟨y, σc, σd, ?_, ?_, kc, kd⟩
    · rw [FX11_swap_36, (TX_k hT ka tX_g).2.2.1, if_neg hle]
      simp only [hl_]
      rw [nI_1, h1]; exact h3
    · rw [FX12_swap_36, M_many Mb, bdI_s, if_neg hle]
      simp only [hl_]
      rw [nI_1, h2]; exact h4
theorem sT_23 : St_23 Rel := by
  intro n σX σM hn hR x1 x2
  obtain ⟨side, nm, nf, z, l, sd, Ls, t, r, v, p, s, w, e, pl, ky⟩ := id hR
  obtain ⟨hT, hsd, hM, hzl, hsM⟩ := t
  have hnm := hT.1
  have hnf := hT.2.1
  have h30 := hT.2.2.1
  have h31 := hT.2.2.2.1
  rcases rng x1 nf (by omega) with ⟨f, hf, rfl⟩ | ho
  · have XI := X_isFamily_i h31 hnf hf
    have MI := M_isFamily_i hM hf
    rcases rngT x2 1 (by omega) with ⟨q, hq, rfl⟩ | ho
    · obtain ⟨σa, ha, ka⟩ := X_haveIn (st := 4) hT st_4 hf r
      obtain ⟨σb, hb, kb, Qb, -⟩ := M_copiesFalls hM
      obtain ⟨σc, hc, kc⟩ := M_haveOf hf Qb
      rw [kb.1 12 (by decide) (by decide), kb.1 13 (by decide) (by decide), (hzl f hf).1, (hzl f hf).2] at hc
      obtain ⟨y, σa', σb', h1, h2, ka', kb'⟩ := swap_out (nI q) hT hM hzl r hf nm 0 fu (-2) (haF Ls (σM.1 31) (z f) (l f) nm f) σa σc (Or.inl rfl) (ka.up (by decide)) (kM.tr kb (kc.up (by decide) (by decide))) (by omega) (by show nm < 5000; omega)
      refine ⟨y, σa', σb', ?_, ?_, Rel_q hR (qX.of ka' (by decide)) (kb'.up (by decide) (by decide))⟩
      · unfold FX11_swap
        rw [XI, bdI_s, if_neg one_ne, show FX11_within (nI q) 0 1 σX = some (1, σX) from X_wi_i (n := 1) (by omega) hq, bdI_s, if_neg one_ne, ha, bdI_s]
        exact h1
      · unfold FX12_swap
        rw [MI, bdI_s, if_neg one_ne, show FX12_in (nI q) 0 1 σM = some (1, σM) from M_in_i (n := 1) (by omega) hq, bdI_s, if_neg one_ne, hb, bdV_s, hc, bdI_s]
        exact h2
    · exact ⟨-1, σX, σM, by simp only [FX11_swap, XI, show FX11_within x2 0 1 σX = some (0, σX) from X_wi_o ho, bdI_s, one_ne, if_false, if_true], by simp only [FX12_swap, MI, show FX12_in x2 0 1 σM = some (0, σM) from M_in_o ho, bdI_s, one_ne, if_false, if_true], Rel_q hR qX.rf kM.rf⟩
  · exact ⟨-1, σX, σM, by simp only [FX11_swap, X_isFamily_o h31 ho, bdI_s, if_true], by simp only [FX12_swap, M_isFamily_o hM ho, bdI_s, if_true], Rel_q hR qX.rf kM.rf⟩
/-! game -/
def bst (V : Nat → Int32) : Nat → Nat → Int32 → Int32 → Int32 × Int32
  | 0, _, b, m => (b, m)
  | n + 1, s, b, m => if V s ≤ m then bst V n (s + 1) b m else bst V n (s + 1) (nI s) (V s)
theorem bst_flat {V : Nat → Int32} : ∀ (n s : Nat) (b m : Int32), (∀ j, s ≤ j → j < s + n → V j ≤ m) → bst V n s b m = (b, m) := by
  intro n
  induction n with
  | zero => intro s b m _; rfl
  | succ n ih =>
    intro s b m h
    simp only [bst]
    rw [if_pos (h s (by omega) (by omega))]
    exact ih (s + 1) b m (fun j h1 h2 => h j (by omega) (by omega))
theorem bst_app {V : Nat → Int32} : ∀ (n k s : Nat) (b m : Int32), bst V (n + k) s b m = bst V k (s + n) (bst V n s b m).1 (bst V n s b m).2 := by
  intro n
  induction n with
  | zero => intro k s b m; rw [Nat.zero_add]; rfl
  | succ n ih =>
    intro k s b m
    rw [show n + 1 + k = (n + k) + 1 by omega]
    simp only [bst]
    by_cases h : V s ≤ m
    · rw [if_pos h, if_pos h, ih, show s + 1 + n = s + (n + 1) by omega]
    · rw [if_neg h, if_neg h, ih, show s + 1 + n = s + (n + 1) by omega]
theorem bst_ge {V : Nat → Int32} : ∀ (n s : Nat) (b m : Int32), m ≤ (bst V n s b m).2 ∧ ∀ j, s ≤ j → j < s + n → V j ≤ (bst V n s b m).2 := by
  intro n
  induction n with
  | zero => intro s b m; exact ⟨Int32.le_refl _, fun j h1 h2 => by omega⟩
  | succ n ih =>
    intro s b m
    simp only [bst]
    by_cases h : V s ≤ m
    · rw [if_pos h]
      obtain ⟨h1, h2⟩ := ih (s + 1) b m
      refine ⟨h1, fun j h3 h4 => ?_⟩
      by_cases e : j = s
      · rw [e]; exact Int32.le_trans h h1
      · exact h2 j (by omega) (by omega)
    · rw [if_neg h]
      obtain ⟨h1, h2⟩ := ih (s + 1) (nI s) (V s)
      refine ⟨Int32.le_trans (Int32.le_of_lt (Int32.not_le.mp h)) h1, fun j h3 h4 => ?_⟩
      by_cases e : j = s
      · rw [e]; exact h1
      · exact h2 j (by omega) (by omega)
theorem bst_rng {V : Nat → Int32} {c : Nat} : ∀ (n s : Nat) (b m : Int32), s + n ≤ c + 1 → (∃ j, j ≤ c ∧ b = nI j) → ∃ j, j ≤ c ∧ (bst V n s b m).1 = nI j := by
  intro n
  induction n with
  | zero => intro s b m _ h; exact h
  | succ n ih =>
    intro s b m hs hb
    simp only [bst]
    by_cases h : V s ≤ m
    · rw [if_pos h]; exact ih (s + 1) b m (by omega) hb
    · rw [if_neg h]; exact ih (s + 1) (nI s) (V s) (by omega) ⟨s, by omega, rfl⟩
/-- more than c changes nothing -/
theorem bst_4 {V : Nat → Int32} {c : Nat} (hc : c ≤ 3) (hV : ∀ j, c ≤ j → V j = V c) (b m : Int32) : bst V 4 0 b m = bst V (c + 1) 0 b m := by
  rw [show (4 : Nat) = (c + 1) + (3 - c) by omega, bst_app]
  rw [bst_flat]
  intro j h1 h2
  rw [hV j (by omega)]
  exact (bst_ge (c + 1) 0 b m).2 c (by omega) (by omega)
def gmR (g : Nat → Int32) (D S d s : Nat) : Nat → Int32 := upd (upd g 18 (nI (min 9 (D + d)))) 19 (nI (min 9 (S + s)))
theorem clI_min {n a : Nat} (hn : n < 2 ^ 30) (ha : a < 2 ^ 30) : clI (nI n) (nI a) = nI (min n a) := by
  unfold clI
  rw [if_pos (show (0 : Int32) ≤ nI a from nI_le (a := 0) (by omega) (by omega))]
  by_cases h : a ≤ n
  · rw [if_pos (nI_le h (by omega)), Nat.min_eq_right h]
  · rw [if_neg (nI_ge (by omega) (by omega)), Nat.min_eq_left (by omega)]
theorem X_haveAfter {σX σa : HS} {nm nf f D S d s : Nat} {z l : Nat → Int32} {Ls : Nat → Lawt} {G : Nat → Int32} (hT : TX σX nm nf z l Ls) (r : RR nm (σX.1 14) G) (hf : f < nf) (eD : G 18 = nI D) (eS : G 19 = nI S) (hd : D + d ≤ 9) (hs : S + s ≤ 9) (ka : kX [8, 15, 39, 40, 41, 42] σX σa) : ∃ σ', FX11_haveAfter (nI f) (nI d) (nI s) σa = some (haF Ls (gmR G D S d s) (z f) (l f) nm f, σ') ∧ kX [8, 15, 39, 40, 41, 42] σX σ' := by
  have hnm := hT.1
  obtain ⟨τ, c1, k1, r1⟩ := X_copyFrom nm σa
  have a14 : σa.1 14 = σX.1 14 := ka.1 14 (by decide)
  have t28 : τ.1 15 28 = nI D := by rw [r1 28 (by omega), a14, ← eD, ← r 18 (by omega), rowC_18]
  have t29 : τ.1 15 29 = nI S := by rw [r1 29 (by omega), a14, ← eS, ← r 19 (by omega), rowC_19]
  have k2 : kX [8, 15, 39, 40, 41, 42] σX (pI (pI τ 15 28 (nI (D + d))) 15 29 (nI (S + s))) := ((ka.tr (k1.up (by decide))).pp (by decide)).pp (by decide)
  have R2 : RR nm ((pI (pI τ 15 28 (nI (D + d))) 15 29 (nI (S + s))).1 (5 + 10)) (gmR G D S d s) := by
    unfold gmR
    rw [show (5 + 10) = 15 from rfl, pI_s, pI_s, Nat.min_eq_right hd, Nat.min_eq_right hs]
    refine RR_d (d := 19) hnm (by omega) (by omega) (RR_d (d := 18) hnm (by omega) (by omega) (RR_congr r (fun k hk => ?_) (fun _ _ => rfl)))
    rw [r1 k hk, a14]
  obtain ⟨σ3, h3, k3⟩ := X_haveIn (st := 5) (TX_k hT k2 tX_g) st_5 hf R2
  refine ⟨σ3, ?_, k2.tr (k3.up (by decide))⟩
  unfold FX11_haveAfter
  rw [c1, bdV_s]
  simp only [hl_]
  rw [t28, nI_add, pI_s, pk_un (by omega), t29, nI_add, h3, bdI_s]
theorem M_gameHave {σM σb : HS} {side nm nf f D S d s : Nat} {z l : Nat → Int32} {Ls : Nat → Lawt} (hM : MM σM side nm nf Ls) (hzl : ∀ j, j < nf → σM.1 12 (5 * side + j) = z j ∧ σM.1 13 (5 * side + j) = l j) (hf : f < nf) (eD : σM.1 31 18 = nI D) (eS : σM.1 31 19 = nI S) (hD : D ≤ 9) (hS : S ≤ 9) (hd : d ≤ 3) (hs : s ≤ 3) (kb : kM [29, 30, 32, 34, 35] [46, 49] σM σb) : ∃ σ1 σ', FX12_copiesGame (nI d) (nI s) σb = some σ1 ∧ FX12_haveOf (nI f) σ1 = some (haF Ls (gmR (σM.1 31) D S d s) (z f) (l f) nm f, σ') ∧ kM [29, 30, 32, 34, 35] [46, 49] σM σ' := by
  have Mb : MM σb side nm nf Ls := MM_kM kb s_w (by decide) (by decide) (by decide) hM
  obtain ⟨σ5, c5, k5, r5, s5, hM5⟩ := M_copiesG Mb
  have e31 : σb.1 31 = σM.1 31 := kb.1 31 (by decide) (by decide)
  rw [e31] at r5
  obtain ⟨τ, hτ⟩ : ∃ τ, τ = pI (pI σ5 32 18 (nI (min 9 (D + d)))) 32 19 (nI (min 9 (S + s))) := ⟨_, rfl⟩
  have kτ : kM [29, 30, 32, 34, 35] [46, 49] σM τ := by rw [hτ]; exact kM.tr (kM.tr (kM.tr kb (k5.up (by decide) (by decide))) (kM.pR (by decide) (by decide))) (kM.pR (by decide) (by decide))
  have rτ : ∀ k, k < 33 → τ.1 32 k = gmR (σM.1 31) D S d s k := fun k hk => by
    unfold gmR
    rw [hτ, pI_s, pI_s, upd_a, upd_a, upd_a, upd_a, r5 k hk]
  obtain ⟨σ1, σ2, h1, h2, k2⟩ := M_fillHave (f := f) (MM_kM kτ s_w (by decide) (by decide) (by decide) hM) hf rτ
  rw [kτ.1 12 (by decide) (by decide), kτ.1 13 (by decide) (by decide), (hzl f hf).1, (hzl f hf).2] at h2
  refine ⟨σ1, σ2, ?_, h2, kM.tr kτ (k2.up (by decide) (by decide))⟩
  unfold FX12_copiesGame
  rw [c5, bdV_s, r5 18 (by omega), eD, nI_add, M_within, bdI_s]
  simp only [hl_]
  rw [pI_s, pk_un (by omega), r5 19 (by omega), eS, nI_add, M_within, bdI_s, show (9 : Int32) = nI 9 from rfl, clI_min (by omega) (by omega), clI_min (by omega) (by omega), ← hτ, h1, bdV_s]
theorem X_choices {σX σa : HS} {nm k D : Nat} {G : Nat → Int32} (r : RR nm (σX.1 14) G) (hk : k = 18 ∨ k = 19) (eD : G k = nI D) (hD : D ≤ 9) (ka : kX [8, 15, 39, 40, 41, 42] σX σa) : FX11_choicesOf (nI (k + 10)) σa = some (nI (min 3 (9 - D)), σa) := by
  unfold FX11_choicesOf
  have e : σa.1 14 (k + 10) = nI D := by rw [ka.1 14 (by decide), ← eD, ← r k (by omega), rowC_d (by omega) (by omega)]
  rw [gd_t (ix_nI (by omega) (by omega)), cl_nI (by omega), e, show (9 : Int32) = nI 9 from rfl, pk_sub hD, show (3 : Int32) = nI 3 from rfl, min_I (by omega) (by omega)]
theorem X_answer_8 {σX : HS} {nm nf o D S d : Nat} {z l : Nat → Int32} {Ls : Nat → Lawt} {G : Nat → Int32} (hT : TX σX nm nf z l Ls) (r : RR nm (σX.1 14) G) (ho : o < nf) (eD : G 18 = nI D) (eS : G 19 = nI S) (hd : D + d ≤ 9) (hS : S ≤ 9) : ∀ (n s fl : Nat) (b m : Int32) (σa : HS), kX [8, 15, 39, 40, 41, 42] σX σa → s + n = min 3 (9 - S) + 1 → n < fl → ∃ σ', FX11_answerTo_8 fl (nI d) (nI o) b m (nI s) σa = some ((bst (fun s => haF Ls (gmR G D S d s) (z o) (l o) nm o) n s b m).1, σ') ∧ kX [8, 15, 39, 40, 41, 42] σX σ' := by
  intro n
  induction n with
  | zero =>
    intro s fl b m σa ka hs hfl
    obtain ⟨fl, rfl⟩ : ∃ z, fl = z + 1 := ⟨fl - 1, by omega⟩
    have hc := X_choices (k := 19) r (Or.inr rfl) eS hS ka
    rw [FX11_answerTo_8, show (29 : Int32) = nI (19 + 10) from rfl, hc, bdI_s, if_pos (nI_lt (by omega) (by omega))]
    exact ⟨σa, rfl, ka⟩
  | succ n ih =>
    intro s fl b m σa ka hs hfl
    obtain ⟨fl, rfl⟩ : ∃ z, fl = z + 1 := ⟨fl - 1, by omega⟩
    have hc := X_choices (k := 19) r (Or.inr rfl) eS hS ka
    obtain ⟨σ1, h1, k1⟩ := X_haveAfter hT r ho eD eS hd (show S + s ≤ 9 by omega) ka
    rw [FX11_answerTo_8, show (29 : Int32) = nI (19 + 10) from rfl, hc, bdI_s, if_neg (nI_nlt (by omega) (by omega)), h1, bdI_s, nI_1]
    simp only [bst]
    by_cases hh : haF Ls (gmR G D S d s) (z o) (l o) nm o ≤ m
    · rw [if_pos hh, if_pos hh]
      exact ih (s + 1) fl b m σ1 k1 (by omega) (by omega)
    · rw [if_neg hh, if_neg hh]
      exact ih (s + 1) fl _ _ σ1 k1 (by omega) (by omega)
theorem M_sweet_8 {σM : HS} {side nm nf o D S d : Nat} {z l : Nat → Int32} {Ls : Nat → Lawt} (hM : MM σM side nm nf Ls) (hzl : ∀ j, j < nf → σM.1 12 (5 * side + j) = z j ∧ σM.1 13 (5 * side + j) = l j) (ho : o < nf) (eD : σM.1 31 18 = nI D) (eS : σM.1 31 19 = nI S) (hD : D ≤ 9) (hS : S ≤ 9) (hd : d ≤ 3) : ∀ (n s fl : Nat) (b m : Int32) (σb : HS), kM [29, 30, 32, 34, 35] [46, 49] σM σb → s + n = 4 → n < fl → ∃ σ', FX12_sweetFor_8 fl (nI o) (nI d) b m (nI s) σb = some ((bst (fun s => haF Ls (gmR (σM.1 31) D S d s) (z o) (l o) nm o) n s b m).1, σ') ∧ kM [29, 30, 32, 34, 35] [46, 49] σM σ' := by
  intro n
  induction n with
  | zero =>
    intro s fl b m σb kb hs hfl
    obtain ⟨fl, rfl⟩ : ∃ z, fl = z + 1 := ⟨fl - 1, by omega⟩
    rw [FX12_sweetFor_8, if_pos (show (4 : Int32) ≤ nI s from nI_le (a := 4) (by omega) (by omega))]
    exact ⟨σb, rfl, kb⟩
  | succ n ih =>
    intro s fl b m σb kb hs hfl
    obtain ⟨fl, rfl⟩ : ∃ z, fl = z + 1 := ⟨fl - 1, by omega⟩
    obtain ⟨σ1, σ2, h1, h2, k2⟩ := M_gameHave hM hzl ho eD eS hD hS hd (show s ≤ 3 by omega) kb
    rw [FX12_sweetFor_8, if_neg (show ¬ (4 : Int32) ≤ nI s from nI_ge (b := 4) (by omega) (by omega)), h1, bdV_s, h2, bdI_s, nI_1]
    simp only [bst]
    by_cases hh : haF Ls (gmR (σM.1 31) D S d s) (z o) (l o) nm o ≤ m
    · rw [if_pos hh, if_neg (Int32.not_lt.mpr hh)]
      exact ih (s + 1) fl b m σ2 k2 (by omega) (by omega)
    · rw [if_neg hh, if_pos (Int32.not_le.mp hh)]
      exact ih (s + 1) fl _ _ σ2 k2 (by omega) (by omega)
/-- what the other one gives to d -/
def swF (Ls : Nat → Lawt) (G : Nat → Int32) (z l : Int32) (nm o D S d : Nat) : Int32 := (bst (fun s => haF Ls (gmR G D S d s) z l nm o) 4 0 0 (-1)).1
theorem gm_flat {Ls : Nat → Lawt} {G : Nat → Int32} {z l : Int32} {nm o D S d : Nat} : ∀ j, min 3 (9 - S) ≤ j → j ≤ 3 → haF Ls (gmR G D S d j) z l nm o = haF Ls (gmR G D S d (min 3 (9 - S))) z l nm o := by
  intro j h1 h2
  have : min 9 (S + j) = min 9 (S + min 3 (9 - S)) := by omega
  unfold gmR
  rw [this]
theorem sw_c {Ls : Nat → Lawt} {G : Nat → Int32} {z l : Int32} {nm o D S d : Nat} : swF Ls G z l nm o D S d = (bst (fun s => haF Ls (gmR G D S d s) z l nm o) (min 3 (9 - S) + 1) 0 0 (-1)).1 := by
  unfold swF
  have h4 : (4 : Nat) = (min 3 (9 - S) + 1) + (3 - min 3 (9 - S)) := by omega
  rw [h4, bst_app]
  rw [bst_flat]
  intro j h1 h2
  rw [gm_flat j (by omega) (by omega)]
  exact (bst_ge (V := fun s => haF Ls (gmR G D S d s) z l nm o) (min 3 (9 - S) + 1) 0 0 (-1)).2 (min 3 (9 - S)) (by omega) (by omega)
theorem sw_rng {Ls : Nat → Lawt} {G : Nat → Int32} {z l : Int32} {nm o D S d : Nat} : ∃ s, s ≤ min 3 (9 - S) ∧ swF Ls G z l nm o D S d = nI s := by
  rw [sw_c]
  exact bst_rng (c := min 3 (9 - S)) _ 0 0 (-1) (by omega) ⟨0, by omega, rfl⟩
/-- what the first one has then -/
def gvF (Ls : Nat → Lawt) (G : Nat → Int32) (z l : Nat → Int32) (nm f o D S d : Nat) : Int32 := haF Ls (gmR G D S d (swF Ls G (z o) (l o) nm o D S d).toNatClampNeg) (z f) (l f) nm f
theorem sw_flat {Ls : Nat → Lawt} {G : Nat → Int32} {z l : Int32} {nm o D S : Nat} : ∀ j, min 3 (9 - D) ≤ j → swF Ls G z l nm o D S j = swF Ls G z l nm o D S (min 3 (9 - D)) ∨ 3 < j := by
  intro j h1
  by_cases h : j ≤ 3
  · refine Or.inl ?_
    have : min 9 (D + j) = min 9 (D + min 3 (9 - D)) := by omega
    unfold swF gmR
    rw [this]
  · exact Or.inr (by omega)
theorem gv_flat {Ls : Nat → Lawt} {G : Nat → Int32} {z l : Nat → Int32} {nm f o D S : Nat} : ∀ j, min 3 (9 - D) ≤ j → j ≤ 3 → gvF Ls G z l nm f o D S j = gvF Ls G z l nm f o D S (min 3 (9 - D)) := by
  intro j h1 h2
  have e : min 9 (D + j) = min 9 (D + min 3 (9 - D)) := by omega
  have e2 := (sw_flat (Ls := Ls) (G := G) (z := z o) (l := l o) (nm := nm) (o := o) (D := D) (S := S) j h1).resolve_right (by omega)
  unfold gvF
  rw [e2]
  unfold gmR
  rw [e]
def gyF (Ls : Nat → Lawt) (G : Nat → Int32) (z l : Nat → Int32) (nm o D S : Nat) (x3 : Int32) (p : Int32 × Int32) : Int32 := if x3 = 0 then p.1 else if x3 = 1 then swF Ls G (z o) (l o) nm o D S p.1.toNatClampNeg else p.2
theorem X_game_st {σX σa : HS} {nm nf f o D S d : Nat} {z l : Nat → Int32} {Ls : Nat → Lawt} {G : Nat → Int32} (x3 : Int32) (hT : TX σX nm nf z l Ls) (r : RR nm (σX.1 14) G) (hf : f < nf) (ho : o < nf) (eD : G 18 = nI D) (eS : G 19 = nI S) (hD : D ≤ 9) (hS : S ≤ 9) (hd : d ≤ min 3 (9 - D)) (ka : kX [8, 15, 39, 40, 41, 42] σX σa) : ∃ σ', kX [8, 15, 39, 40, 41, 42] σX σ' ∧ ∀ (fl : Nat) (b s m : Int32), FX11_game_44 (fl + 1) (nI f) (nI o) x3 b s m (nI d) σa = if gvF Ls G z l nm f o D S d ≤ m then FX11_game_44 fl (nI f) (nI o) x3 b s m (nI (d + 1)) σ' else FX11_game_44 fl (nI f) (nI o) x3 (nI d) (swF Ls G (z o) (l o) nm o D S d) (gvF Ls G z l nm f o D S d) (nI (d + 1)) σ' := by
  have hc := X_choices (k := 18) r (Or.inl rfl) eD hD ka
  obtain ⟨σ1, h1, k1⟩ := X_answer_8 hT r ho eD eS (show D + d ≤ 9 by omega) hS (min 3 (9 - S) + 1) 0 fu 0 (-1) σa ka (by omega) (by show min 3 (9 - S) + 1 < 5000; omega)
  rw [← sw_c] at h1
  obtain ⟨s', hs', es'⟩ := sw_rng (Ls := Ls) (G := G) (z := z o) (l := l o) (nm := nm) (o := o) (D := D) (S := S) (d := d)
  obtain ⟨σ2, h2, k2⟩ := X_haveAfter hT r hf eD eS (show D + d ≤ 9 by omega) (show S + s' ≤ 9 by omega) k1
  have eg : gvF Ls G z l nm f o D S d = haF Ls (gmR G D S d s') (z f) (l f) nm f := by
    unfold gvF
    rw [es', cl_nI (by omega)]
  refine ⟨σ2, k2, fun fl b s m => ?_⟩
  rw [FX11_game_44, show (28 : Int32) = nI (18 + 10) from rfl, hc, bdI_s, if_neg (nI_nlt (by omega) (by omega))]
  unfold FX11_answerTo
  rw [show (0 : Int32) = nI 0 from rfl] at h1 ⊢
  rw [h1, bdI_s, eg]
  rw [es'] at h1 ⊢
  rw [h2, bdI_s, nI_1]
theorem X_game_go {σX : HS} {nm nf f o D S : Nat} {z l : Nat → Int32} {Ls : Nat → Lawt} {G : Nat → Int32} (x3 : Int32) (hT : TX σX nm nf z l Ls) (r : RR nm (σX.1 14) G) (hf : f < nf) (ho : o < nf) (eD : G 18 = nI D) (eS : G 19 = nI S) (hD : D ≤ 9) (hS : S ≤ 9) : ∀ (n d fl : Nat) (b s m : Int32) (σa : HS), kX [8, 15, 39, 40, 41, 42] σX σa → (∃ j, j ≤ 3 ∧ b = nI j ∧ s = swF Ls G (z o) (l o) nm o D S j) → d + n = min 3 (9 - D) + 1 → n < fl → ∃ σ', FX11_game_44 fl (nI f) (nI o) x3 b s m (nI d) σa = some (gyF Ls G z l nm o D S x3 (bst (gvF Ls G z l nm f o D S) n d b m), σ') ∧ kX [8, 15, 39, 40, 41, 42] σX σ' := by
  intro n
  induction n with
  | zero =>
    intro d fl b s m σa ka hb hd hfl
    obtain ⟨fl, rfl⟩ : ∃ z, fl = z + 1 := ⟨fl - 1, by omega⟩
    have hc := X_choices (k := 18) r (Or.inl rfl) eD hD ka
    obtain ⟨j, hj, eb, es⟩ := hb
    rw [FX11_game_44, show (28 : Int32) = nI (18 + 10) from rfl, hc, bdI_s, if_pos (nI_lt (by omega) (by omega))]
    refine ⟨σa, ?_, ka⟩
    simp only [bst, gyF]
    by_cases h0 : x3 = 0
    · rw [if_pos h0, if_pos h0]
    · rw [if_neg h0, if_neg h0]
      by_cases h1 : x3 = 1
      · rw [if_pos h1, if_pos h1, es, eb, cl_nI (by omega)]
      · rw [if_neg h1, if_neg h1]
  | succ n ih =>
    intro d fl b s m σa ka hb hd hfl
    obtain ⟨fl, rfl⟩ : ∃ z, fl = z + 1 := ⟨fl - 1, by omega⟩
    obtain ⟨σ1, k1, h1⟩ := X_game_st x3 hT r hf ho eD eS hD hS (show d ≤ min 3 (9 - D) by omega) ka
    rw [h1]
    simp only [bst]
    by_cases hh : gvF Ls G z l nm f o D S d ≤ m
    · rw [if_pos hh, if_pos hh]
      exact ih (d + 1) fl b s m σ1 k1 hb (by omega) (by omega)
    · rw [if_neg hh, if_neg hh]
      exact ih (d + 1) fl _ _ _ σ1 k1 ⟨d, by omega, rfl, rfl⟩ (by omega) (by omega)
theorem M_game_go {σM : HS} {side nm nf f o D S : Nat} {z l : Nat → Int32} {Ls : Nat → Lawt} (x3 : Int32) (hM : MM σM side nm nf Ls) (hzl : ∀ j, j < nf → σM.1 12 (5 * side + j) = z j ∧ σM.1 13 (5 * side + j) = l j) (hf : f < nf) (ho : o < nf) (eD : σM.1 31 18 = nI D) (eS : σM.1 31 19 = nI S) (hD : D ≤ 9) (hS : S ≤ 9) : ∀ (n d fl : Nat) (b m : Int32) (σb : HS), kM [29, 30, 32, 34, 35] [46, 49] σM σb → (∃ j, j ≤ 3 ∧ b = nI j) → d + n = 4 → n < fl → ∃ σ', FX12_game_41 fl (nI f) (nI o) x3 b m (nI d) σb = some (gyF Ls (σM.1 31) z l nm o D S x3 (bst (gvF Ls (σM.1 31) z l nm f o D S) n d b m), σ') ∧ kM [29, 30, 32, 34, 35] [46, 49] σM σ' := by
  have sw : ∀ (d : Nat) (σb : HS), d ≤ 3 → kM [29, 30, 32, 34, 35] [46, 49] σM σb → ∃ σ', FX12_sweetFor (nI o) (nI d) σb = some (swF Ls (σM.1 31) (z o) (l o) nm o D S d, σ') ∧ kM [29, 30, 32, 34, 35] [46, 49] σM σ' := fun d σb hd kb => M_sweet_8 hM hzl ho eD eS hD hS hd 4 0 fu 0 (-1) σb kb (by omega) (by show 4 < 5000; omega)
  intro n
  induction n with
  | zero =>
    intro d fl b m σb kb hb hd hfl
    obtain ⟨fl, rfl⟩ : ∃ z, fl = z + 1 := ⟨fl - 1, by omega⟩
    obtain ⟨j, hj, eb⟩ := hb
    rw [FX12_game_41, if_pos (show (4 : Int32) ≤ nI d from nI_le (a := 4) (by omega) (by omega))]
    simp only [bst, gyF]
    by_cases h0 : x3 = 0
    · rw [if_pos h0, if_pos h0]; exact ⟨σb, rfl, kb⟩
    · rw [if_neg h0, if_neg h0]
      by_cases h1 : x3 = 1
      · obtain ⟨σ1, e1, k1⟩ := sw j σb hj kb
        rw [if_pos h1, if_pos h1, eb, e1, bdI_s, cl_nI (by omega)]
        exact ⟨σ1, rfl, k1⟩
      · rw [if_neg h1, if_neg h1]; exact ⟨σb, rfl, kb⟩
  | succ n ih =>
    intro d fl b m σb kb hb hd hfl
    obtain ⟨fl, rfl⟩ : ∃ z, fl = z + 1 := ⟨fl - 1, by omega⟩
    obtain ⟨σ1, e1, k1⟩ := sw d σb (by omega) kb
    obtain ⟨s', hs', es'⟩ := sw_rng (Ls := Ls) (G := σM.1 31) (z := z o) (l := l o) (nm := nm) (o := o) (D := D) (S := S) (d := d)
    obtain ⟨σ2, σ3, h2, h3, k3⟩ := M_gameHave hM hzl hf eD eS hD hS (show d ≤ 3 by omega) (show s' ≤ 3 by omega) k1
    have eg : gvF Ls (σM.1 31) z l nm f o D S d = haF Ls (gmR (σM.1 31) D S d s') (z f) (l f) nm f := by
      unfold gvF
      rw [es', cl_nI (by omega)]
    rw [es'] at e1
    rw [← eg] at h3
    rw [FX12_game_41, if_neg (show ¬ (4 : Int32) ≤ nI d from nI_ge (b := 4) (by omega) (by omega)), e1, bdI_s, h2, bdV_s, h3, bdI_s, nI_1]
    simp only [bst]
    by_cases hh : gvF Ls (σM.1 31) z l nm f o D S d ≤ m
    · rw [if_pos hh, if_neg (Int32.not_lt.mpr hh)]
      exact ih (d + 1) fl b m σ3 k3 hb (by omega) (by omega)
    · rw [if_neg hh, if_pos (Int32.not_le.mp hh)]
      exact ih (d + 1) fl _ _ σ3 k3 ⟨d, by omega, rfl⟩ (by omega) (by omega)
theorem sT_28 : St_28 Rel := by
  intro n σX σM hn hR x1 x2 x3
  obtain ⟨side, nm, nf, z, l, sd, Ls, t, r, v, p, s, w, e, pl, ky⟩ := id hR
  obtain ⟨hT, hsd, hM, hzl, hsM⟩ := t
  have hnm := hT.1
  have hnf := hT.2.1
  have h30 := hT.2.2.1
  have h31 := hT.2.2.2.1
  rcases rng x1 nf (by omega) with ⟨f, hf, rfl⟩ | ho
  · have XI := X_isFamily_i h31 hnf hf
    have MI := M_isFamily_i hM hf
    rcases rng x2 nf (by omega) with ⟨o, ho, rfl⟩ | ho
    · have XJ := X_isFamily_i h31 hnf ho
      have MJ := M_isFamily_i hM ho
      by_cases hfo : nI f = nI o
      · refine ⟨-1, σX, σM, ?_, ?_, Rel_q hR qX.rf kM.rf⟩
        · unfold FX11_game
          rw [XI, bdI_s, if_neg one_ne, XJ, bdI_s, if_neg one_ne, if_pos hfo]
        · unfold FX12_game
          rw [MI, bdI_s, if_neg one_ne, MJ, bdI_s, if_neg one_ne, if_pos hfo]
      · rcases rngT x3 2 (by omega) with ⟨q, hq, rfl⟩ | ho2
        · obtain ⟨D, hD, eD⟩ := v.2.2.1
          obtain ⟨S, hS, eS⟩ := v.2.2.2.1
          obtain ⟨σ1, k1, h1⟩ := X_game_st (nI q) hT r hf ho eD eS hD hS (show 0 ≤ min 3 (9 - D) by omega) (kX.rf (S := [8, 15, 39, 40, 41, 42]) (σ := σX))
          obtain ⟨g0, hg0, eg0⟩ := haF_n (Ls := Ls) (g := gmR (σM.1 31) D S 0 (swF Ls (σM.1 31) (z o) (l o) nm o D S 0).toNatClampNeg) (z := z f) (l := l f) (f := f) hnm
          have hgt : ¬ gvF Ls (σM.1 31) z l nm f o D S 0 ≤ -1 := by
            rw [show gvF Ls (σM.1 31) z l nm f o D S 0 = nI g0 from eg0]
            exact neg_lt (a := 1) (by omega) (by omega) (by omega)
          obtain ⟨σa, ha, ka⟩ := X_game_go (nI q) hT r hf ho eD eS hD hS (min 3 (9 - D)) 1 4999 (nI 0) (swF Ls (σM.1 31) (z o) (l o) nm o D S 0) (gvF Ls (σM.1 31) z l nm f o D S 0) σ1 k1 ⟨0, by omega, rfl, rfl⟩ (by omega) (by omega)
          obtain ⟨σb, hb, kb⟩ := M_game_go (nI q) hM hzl hf ho eD eS hD hS 4 0 fu (nI 0) (-1) σM kM.rf ⟨0, by omega, rfl⟩ (by omega) (by show 4 < 5000; omega)
          have eb : bst (gvF Ls (σM.1 31) z l nm f o D S) (min 3 (9 - D)) 1 (nI 0) (gvF Ls (σM.1 31) z l nm f o D S 0) = bst (gvF Ls (σM.1 31) z l nm f o D S) 4 0 (nI 0) (-1) := by
            have e1 : bst (gvF Ls (σM.1 31) z l nm f o D S) (min 3 (9 - D) + 1) 0 (nI 0) (-1) = bst (gvF Ls (σM.1 31) z l nm f o D S) (min 3 (9 - D)) 1 (nI 0) (gvF Ls (σM.1 31) z l nm f o D S 0) := by
              simp only [bst]
              rw [if_neg hgt]
            have h4 : (4 : Nat) = (min 3 (9 - D) + 1) + (3 - min 3 (9 - D)) := by omega
            have e2 := bst_app (V := gvF Ls (σM.1 31) z l nm f o D S) (min 3 (9 - D) + 1) (3 - min 3 (9 - D)) 0 (nI 0) (-1)
            rw [← h4, bst_flat (3 - min 3 (9 - D)) _ _ _ (fun j h1 h2 => by
              rw [gv_flat j (by omega) (by omega)]
              exact (bst_ge (V := gvF Ls (σM.1 31) z l nm f o D S) (min 3 (9 - D) + 1) 0 (nI 0) (-1)).2 (min 3 (9 - D)) (by omega) (by omega))] at e2
            exact e1.symm.trans e2.symm
          rw [eb] at ha
          refine ⟨_, σa, σb, Eq.trans ?_ ha, Eq.trans ?_ hb, Rel_q hR (qX.of ka (by decide)) (kb.up (by decide) (by decide))⟩
          · unfold FX11_game
            rw [XI, bdI_s, if_neg one_ne, XJ, bdI_s, if_neg one_ne, if_neg hfo, show FX11_within (nI q) 0 2 σX = some (1, σX) from X_wi_i (n := 2) (by omega) hq, bdI_s, if_neg one_ne]
            have := h1 4999 0 0 (-1)
            rw [if_neg hgt] at this
            exact this
          · unfold FX12_game
            rw [MI, bdI_s, if_neg one_ne, MJ, bdI_s, if_neg one_ne, if_neg hfo, show FX12_in (nI q) 0 2 σM = some (1, σM) from M_in_i (n := 2) (by omega) hq, bdI_s, if_neg one_ne]
            rfl
        · refine ⟨-1, σX, σM, ?_, ?_, Rel_q hR qX.rf kM.rf⟩
          · unfold FX11_game
            rw [XI, bdI_s, if_neg one_ne, XJ, bdI_s, if_neg one_ne, if_neg hfo, show FX11_within x3 0 2 σX = some (0, σX) from X_wi_o ho2, bdI_s, if_pos rfl]
          · unfold FX12_game
            rw [MI, bdI_s, if_neg one_ne, MJ, bdI_s, if_neg one_ne, if_neg hfo, show FX12_in x3 0 2 σM = some (0, σM) from M_in_o ho2, bdI_s, if_pos rfl]
    · exact ⟨-1, σX, σM, by simp only [FX11_game, XI, X_isFamily_o h31 ho, bdI_s, one_ne, if_false, if_true], by simp only [FX12_game, MI, M_isFamily_o hM ho, bdI_s, one_ne, if_false, if_true], Rel_q hR qX.rf kM.rf⟩
  · exact ⟨-1, σX, σM, by simp only [FX11_game, X_isFamily_o h31 ho, bdI_s, if_true], by simp only [FX12_game, M_isFamily_o hM ho, bdI_s, if_true], Rel_q hR qX.rf kM.rf⟩
