/-! Face: change, let, syrup, dust, undo, hold, restore. -/
theorem sT_8 : St_8 Rel := by
  intro n σX σM hn hR x1 x2
  obtain ⟨side, nm, nf, z, l, sd, Ls, t, r, v, p, s, w, e, pl, ky⟩ := id hR
  obtain ⟨hT, hsd, hM, hzl, hsM⟩ := id t
  have hnm := hT.1
  have h30 := hT.2.2.1
  rcases rng x1 nm (by omega) with ⟨m, hm, rfl⟩ | ho
  · have XI := X_isMinute_i h30 hnm hm
    have MI := M_isMinute_i hM hm
    rcases rng x2 nm (by omega) with ⟨o, ho, rfl⟩ | ho
    · have XJ := X_isMinute_i h30 hnm ho
      have MJ := M_isMinute_i hM ho
      have rm : σX.1 14 m = σM.1 31 m := by rw [← r m (by omega), rowC_m hm hnm]
      have ro : σX.1 14 o = σM.1 31 o := by rw [← r o (by omega), rowC_m ho hnm]
      have i1 : ix (nI m) 33 = true := ix_nI (by omega) (by omega)
      have i2 : ix (nI o) 33 = true := ix_nI (by omega) (by omega)
      by_cases he : σM.1 31 m = σM.1 31 o
      · refine ⟨0, σX, σM, ?_, ?_, Rel_q hR qX.rf kM.rf⟩
        · unfold FX11_change
          rw [XI, bdI_s, if_neg one_ne, XJ, bdI_s, if_neg one_ne, X_matterOf (by omega), bdI_s, X_matterOf (by omega), bdI_s, if_pos (show σX.1 (4 + 10) m = σX.1 (4 + 10) o from rm.trans (he.trans ro.symm))]
        · unfold FX12_change
          rw [MI, bdI_s, if_neg one_ne, MJ, bdI_s, if_neg one_ne, gd_t i1, gd_t i2, cl_nI (by omega), cl_nI (by omega), if_pos he]
      · obtain ⟨σ1, c1, k1, r1⟩ := M_changesFor hM hm ho
        obtain ⟨σX', σM', hk, hr, kx, km, m31, p'⟩ := dn_keep hnm p r v (σ1 := σ1) (k1.2.1 50 (by decide)) (k1.1 33 (by decide) (by decide)) (k1.1 31 (by decide) (by decide))
        have e14 : σX'.1 14 = σX.1 14 := kx.1 14 (by decide)
        have hg : ∀ k, k < 33 → upd (upd (σM.1 31) m (σM.1 31 o)) o (σM.1 31 m) k = σM'.1 31 k := fun k hk => by rw [m31 k hk, r1 k hk]
        refine ⟨1, pI (pI σX' 14 m (σX'.1 14 o)) 14 o (σX'.1 14 m), σM', ?_, ?_, Rel_D t s w e pl ky (((kx.up (by decide)).pp (by decide)).pp (by decide)) (kM.tr (k1.up (by decide) (by decide)) (km.up (by decide) (by decide))) ?_ ?_ ?_⟩
        · unfold FX11_change
          rw [XI, bdI_s, if_neg one_ne, XJ, bdI_s, if_neg one_ne, X_matterOf (by omega), bdI_s, X_matterOf (by omega), bdI_s, if_neg (show ¬ σX.1 (4 + 10) m = σX.1 (4 + 10) o from fun h => he (rm.symm.trans (h.trans ro))), hk, bdV_s, X_exchange (by omega) (by omega), bdV_s]
        · unfold FX12_change
          rw [MI, bdI_s, if_neg one_ne, MJ, bdI_s, if_neg one_ne, gd_t i1, gd_t i2, cl_nI (by omega), cl_nI (by omega), if_neg he, c1, bdV_s, hr, bdV_s]
        · rw [pI_s, pI_s, e14, rm, ro]
          exact RR_congr (RR_m hnm ho (RR_m hnm hm r)) (fun k _ => rfl) (fun k hk => (hg k hk).symm)
        · exact RV_mono (by omega) (RV_congr hnm hg (RV_m hnm ho (v.2.1 m hm) (RV_m hnm hm (v.2.1 o ho) v)))
        · exact PR_mono (by omega) (PR_eq (by rw [pI_o (by omega), pI_o (by omega)]) (by rw [pI_o (by omega), pI_o (by omega)]) rfl rfl p')
    · exact ⟨0, σX, σM, by simp only [FX11_change, XI, X_isMinute_o h30 ho, bdI_s, one_ne, if_false, if_true], by simp only [FX12_change, MI, M_isMinute_o hM ho, bdI_s, one_ne, if_false, if_true], Rel_q hR qX.rf kM.rf⟩
  · exact ⟨0, σX, σM, by simp only [FX11_change, X_isMinute_o h30 ho, bdI_s, if_true], by simp only [FX12_change, M_isMinute_o hM ho, bdI_s, if_true], Rel_q hR qX.rf kM.rf⟩
/-- one cell is set -/
theorem M_does {σ : HS} {side nm nf k : Nat} {Ls : Nat → Lawt} (hM : MM σ side nm nf Ls) (hk : k < 33) (x : Int32) : ∃ σ', (bdV (FX12_copies σ) fun σ_1 => gd (ix (nI k) 33) (some (pI σ_1 32 k x))) = some σ' ∧ (∀ (σ2 : HS), FX12_records σ' = some σ2 → FX12_does (nI k) x σ = some σ2) ∧ kM [32] [49] σ σ' ∧ ∀ j, j < 33 → σ'.1 32 j = upd (σ.1 31) k x j := by
  obtain ⟨σ1, h1, k1, r1, s1, hM1⟩ := M_copiesG hM
  have i1 : ix (nI k) 33 = true := ix_nI hk (by omega)
  refine ⟨pI σ1 32 k x, by rw [h1, bdV_s, gd_t i1], fun σ2 h2 => ?_, kM.tr k1 (kM.pR (by decide) (by decide)), fun j hj => ?_⟩
  · unfold FX12_does
    rw [h1, bdV_s, gd_t i1]
    simp only [hl_]
    rw [cl_nI (by omega), h2, bdV_s]
  · rw [pI_s, upd_a, upd_a, r1 j hj]
theorem let_go {n : Nat} {σX σM : HS} {side nm nf q : Nat} {z l : Nat → Int32} {sd : Int32} {Ls : Nat → Lawt} (hR : Rel n σX σM) (t : TR σX σM side nm nf z l sd Ls) (r : RR nm (σX.1 14) (σM.1 31)) (v : RV nm nf n (σM.1 31)) (p : PR σX σM nm nf n) (s : SR σX σM nm nf n) (w : WR σX σM nm) (e : ER σX σM) (pl : σX.1 2 1 = σM.1 0 17) (ky : ∀ k, k < 22 → σM.2 7 k = keyV k) (hq : q < 8) (x2 y : Int32) (hy : y = -2 ∨ ∃ f, f < nf ∧ y = nI f) : ∃ (r : Int32) (σX' σM' : HS), FX11_let_33 (nI q) x2 y σX = some (r, σX') ∧ FX12_let_33 (nI q) x2 y σM = some (r, σM') ∧ Rel (n + 1) σX' σM' := by
  obtain ⟨hT, hsd, hM, hzl, hsM⟩ := id t
  have hnm := hT.1
  have rq : σX.1 14 (10 + q) = σM.1 31 (10 + q) := by rw [← r (10 + q) (by omega), rowC_p (by omega) (by omega)]
  have e10 : (10 : Int32) + nI q = nI (10 + q) := nI_add 10 q
  have i1 : ix (nI (10 + q)) 33 = true := ix_nI (by omega) (by omega)
  by_cases he : σM.1 31 (10 + q) = y
  · refine ⟨0, σX, σM, ?_, ?_, Rel_q hR qX.rf kM.rf⟩
    · unfold FX11_let_33
      rw [X_ownerOf hq, bdI_s, if_pos (show σX.1 (4 + 10) (10 + q) = y from rq.trans he)]
    · unfold FX12_let_33
      rw [e10, gd_t i1, cl_nI (by omega), if_pos he]
  · obtain ⟨σ1, -, d1, k1, r1⟩ := M_does hM (show 10 + q < 33 by omega) y
    obtain ⟨σX', σM', hk, hr, kx, km, m31, p'⟩ := dn_keep hnm p r v (σ1 := σ1) (k1.2.1 50 (by decide)) (k1.1 33 (by decide) (by decide)) (k1.1 31 (by decide) (by decide))
    have hg : ∀ k, k < 33 → upd (σM.1 31) (10 + q) y k = σM'.1 31 k := fun k hk => by rw [m31 k hk, r1 k hk]
    refine ⟨1, pI σX' 14 (10 + q) y, σM', ?_, ?_, Rel_D t s w e pl ky ((kx.up (by decide)).pp (by decide)) (kM.tr (k1.up (by decide) (by decide)) (km.up (by decide) (by decide))) ?_ ?_ ?_⟩
    · unfold FX11_let_33 FX7_setOwner
      rw [X_ownerOf hq, bdI_s, if_neg (show ¬ σX.1 (4 + 10) (10 + q) = y from fun h => he (rq.symm.trans h)), hk, bdV_s, e10, gd_t i1]
      simp only [hl_]
      rw [cl_nI (by omega), bdV_s]
    · unfold FX12_let_33
      rw [e10, gd_t i1, cl_nI (by omega), if_neg he, d1 _ hr, bdV_s]
    · rw [pI_s, kx.1 14 (by decide)]
      exact RR_congr (RR_p hnm hq r) (fun k _ => rfl) (fun k hk => (hg k hk).symm)
    · exact RV_mono (by omega) (RV_congr hnm hg (RV_p hnm hq hy v))
    · exact PR_mono (by omega) (PR_eq (by rw [pI_o (by omega)]) (by rw [pI_o (by omega)]) rfl rfl p')
theorem n1_ne {f : Nat} (hf : f < 2 ^ 30) : ¬ nI f = (-1 : Int32) := by
  intro e
  have h := congrArg Int32.toInt e
  rw [nI_I hf] at h
  have h2 : (-1 : Int32).toInt = -1 := rfl
  omega
theorem sT_9 : St_9 Rel := by
  intro n σX σM hn hR x1 x2
  obtain ⟨side, nm, nf, z, l, sd, Ls, t, r, v, p, s, w, e, pl, ky⟩ := id hR
  obtain ⟨hT, hsd, hM, hzl, hsM⟩ := id t
  have hnm := hT.1
  have hnf := hT.2.1
  have h31 := hT.2.2.2.1
  rcases rng x1 8 (by omega) with ⟨q, hq, rfl⟩ | ho
  · have XI := X_isPart_i hq (σ := σX)
    have MI := M_isPart_i hq (σ := σM)
    by_cases hx : x2 = -1
    · obtain ⟨y, σX', σM', h1, h2, h3⟩ := let_go hR t r v p s w e pl ky hq x2 (-2) (Or.inl rfl)
      refine ⟨y, σX', σM', ?_, ?_, h3⟩
      · unfold FX11_let FX11_let_22
        rw [XI, bdI_s, if_neg one_ne, if_pos hx, if_pos hx]; exact h1
      · unfold FX12_let FX12_let_22
        rw [MI, bdI_s, if_neg one_ne, if_pos hx, if_pos hx]; exact h2
    · rcases rng x2 nf (by omega) with ⟨f, hf, rfl⟩ | ho
      · obtain ⟨y, σX', σM', h1, h2, h3⟩ := let_go hR t r v p s w e pl ky hq (nI f) (nI f) (Or.inr ⟨f, hf, rfl⟩)
        refine ⟨y, σX', σM', ?_, ?_, h3⟩
        · unfold FX11_let FX11_let_22
          rw [XI, bdI_s, if_neg one_ne, if_neg hx, X_isFamily_i h31 hnf hf, bdI_s, if_neg one_ne, if_neg hx]; exact h1
        · unfold FX12_let FX12_let_22
          rw [MI, bdI_s, if_neg one_ne, if_neg hx, M_isFamily_i hM hf, bdI_s, if_neg one_ne, if_neg hx]; exact h2
      · refine ⟨0, σX, σM, ?_, ?_, Rel_q hR qX.rf kM.rf⟩
        · unfold FX11_let
          rw [XI, bdI_s, if_neg one_ne, if_neg hx, X_isFamily_o h31 ho, bdI_s, if_pos rfl]
        · unfold FX12_let
          rw [MI, bdI_s, if_neg one_ne, if_neg hx, M_isFamily_o hM ho, bdI_s, if_pos rfl]
  · exact ⟨0, σX, σM, by simp only [FX11_let, X_isPart_o ho, bdI_s, if_true], by simp only [FX12_let, M_isPart_o ho, bdI_s, if_true], Rel_q hR qX.rf kM.rf⟩
theorem give_do {n : Nat} {σX σM : HS} {side nm nf k d d' : Nat} {z l : Nat → Int32} {sd : Int32} {Ls : Nat → Lawt} (t : TR σX σM side nm nf z l sd Ls) (r : RR nm (σX.1 14) (σM.1 31)) (v : RV nm nf n (σM.1 31)) (p : PR σX σM nm nf n) (s : SR σX σM nm nf n) (w : WR σX σM nm) (e : ER σX σM) (pl : σX.1 2 1 = σM.1 0 17) (ky : ∀ k, k < 22 → σM.2 7 k = keyV k) (hk : k = 18 ∨ k = 19) (hd' : d' ≤ 9) : ∃ (σX' σ1 σM' : HS), FX3_keep σX = some σX' ∧ FX12_does (nI k) (nI d') σM = some σM' ∧ Rel (n + 1) (pI σX' 14 (k + 10) (nI d')) σM' := by
  obtain ⟨hT, hsd, hM, hzl, hsM⟩ := id t
  have hnm := hT.1
  obtain ⟨σ1, -, d1, k1, r1⟩ := M_does hM (show k < 33 by omega) (nI d')
  obtain ⟨σX', σM', hk', hr, kx, km, m31, p'⟩ := dn_keep hnm p r v (σ1 := σ1) (k1.2.1 50 (by decide)) (k1.1 33 (by decide) (by decide)) (k1.1 31 (by decide) (by decide))
  have hg : ∀ j, j < 33 → upd (σM.1 31) k (nI d') j = σM'.1 31 j := fun j hj => by rw [m31 j hj, r1 j hj]
  refine ⟨σX', σ1, σM', hk', d1 _ hr, Rel_D t s w e pl ky ((kx.up (by decide)).pp (by decide)) (kM.tr (k1.up (by decide) (by decide)) (km.up (by decide) (by decide))) ?_ ?_ ?_⟩
  · rw [pI_s, kx.1 14 (by decide)]
    exact RR_congr (RR_d hnm (by omega) (by omega) r) (fun k _ => rfl) (fun k hk => (hg k hk).symm)
  · exact RV_mono (by omega) (RV_congr hnm hg (RV_d hnm hk ⟨d', hd', rfl⟩ v))
  · exact PR_mono (by omega) (PR_eq (by rw [pI_o (by omega)]) (by rw [pI_o (by omega)]) rfl rfl p')
theorem give_go {n : Nat} {σX σM : HS} {k : Nat} (hR : Rel n σX σM) (hk : k = 18 ∨ k = 19) (x : Int32) (hx : x = 0 ∨ x = 1) : ∃ (r : Int32) (σX' σM' : HS), FX11_give (nI (k + 10)) x σX = some (r, σX') ∧ FX12_given (nI k) x σM = some (r, σM') ∧ (r = 0 ∨ r = 1) ∧ Rel (n + 1) σX' σM' := by
  obtain ⟨side, nm, nf, z, l, sd, Ls, t, r, v, p, s, w, e, pl, ky⟩ := id hR
  have rk : σX.1 14 (k + 10) = σM.1 31 k := by rw [← r k (by omega), rowC_d (by omega) (by omega)]
  obtain ⟨d, hd, ed⟩ : ∃ d, d ≤ 9 ∧ σM.1 31 k = nI d := by
    rcases hk with rfl | rfl
    · exact v.2.2.1
    · exact v.2.2.2.1
  have i1 : ix (nI k) 33 = true := ix_nI (by omega) (by omega)
  have i2 : ix (nI (k + 10)) 33 = true := ix_nI (by omega) (by omega)
  have X0 : ∀ y1 : Int32, ∀ d', nI d + y1 = nI d' → d' ≤ 9 → ∀ σX', FX3_keep σX = some σX' → FX11_give_18 (nI (k + 10)) x (nI d) y1 σX = some (1, pI σX' 14 (k + 10) (nI d')) := by
    intro y1 d' e1 hd' σX' hkp
    unfold FX11_give_18
    simp only [hl_]
    rw [e1, show (9 : Int32) = nI 9 from rfl, X_wi_i (by omega) hd', bdI_s, if_neg one_ne, hkp, bdV_s, gd_t i2, cl_nI (by omega)]
  rcases hx with rfl | rfl
  · by_cases h0 : d = 0
    · subst h0
      refine ⟨0, σX, σM, ?_, ?_, Or.inl rfl, Rel_q hR qX.rf kM.rf⟩
      · unfold FX11_give FX11_give_18
        simp only [hl_]
        rw [gd_t i2, if_pos trivial, cl_nI (by omega), rk, ed, show nI 0 + (-1 : Int32) = -1 from rfl, show (9 : Int32) = nI 9 from rfl, X_wi_o (Or.inl (by decide)), bdI_s, if_pos rfl]
      · unfold FX12_given FX12_given_16
        rw [gd_t i1, if_pos rfl, cl_nI (by omega), ed, if_pos (show nI 0 = (0 : Int32) from rfl)]
    · obtain ⟨σX', σ1, σM', h1, h2, h3⟩ := give_do (d := d) t r v p s w e pl ky hk (show d - 1 ≤ 9 by omega)
      have em : nI d + (-1 : Int32) = nI (d - 1) := m1c (by omega)
      refine ⟨1, _, σM', ?_, ?_, Or.inr rfl, h3⟩
      · unfold FX11_give
        rw [gd_t i2, if_pos rfl, cl_nI (by omega), rk, ed]
        exact X0 _ _ em (by omega) _ h1
      · unfold FX12_given FX12_given_16 FX12_given_38
        rw [gd_t i1, if_pos rfl, cl_nI (by omega), ed, if_neg (show ¬ nI d = (0 : Int32) from fun h => h0 ((nI_eq (b := 0) (by omega) (by omega)).mp h)), gd_t i1, if_pos rfl, em, h2, bdV_s]
  · by_cases h0 : d = 9
    · subst h0
      refine ⟨0, σX, σM, ?_, ?_, Or.inl rfl, Rel_q hR qX.rf kM.rf⟩
      · unfold FX11_give FX11_give_18
        simp only [hl_]
        rw [gd_t i2, if_neg one_ne, cl_nI (by omega), rk, ed, show nI 9 + (1 : Int32) = nI 10 from rfl, show (9 : Int32) = nI 9 from rfl, X_wi_o (Or.inr (by decide)), bdI_s, if_pos rfl]
      · unfold FX12_given FX12_given_16
        rw [gd_t i1, if_neg one_ne, cl_nI (by omega), ed, if_pos (show nI 9 = (9 : Int32) from rfl)]
    · obtain ⟨σX', σ1, σM', h1, h2, h3⟩ := give_do (d := d) t r v p s w e pl ky hk (show d + 1 ≤ 9 by omega)
      refine ⟨1, _, σM', ?_, ?_, Or.inr rfl, h3⟩
      · unfold FX11_give
        rw [gd_t i2, if_neg one_ne, cl_nI (by omega), rk, ed]
        exact X0 _ _ (nI_1 d) (by omega) _ h1
      · unfold FX12_given FX12_given_16 FX12_given_38
        rw [gd_t i1, if_neg one_ne, cl_nI (by omega), ed, if_neg (show ¬ nI d = (9 : Int32) from fun h => h0 ((nI_eq (b := 9) (by omega) (by omega)).mp h)), gd_t i1, if_neg one_ne, nI_1, h2, bdV_s]
theorem isB_r {r : Int32} (h : r = 0 ∨ r = 1) : isB r = true := decide_eq_true h
theorem sT_10 : St_10 Rel := by
  intro n σX σM hn hR x1 hx
  obtain ⟨y, σX', σM', h1, h2, hy, h3⟩ := give_go (k := 19) hR (Or.inr rfl) x1 hx
  refine ⟨y, σX', σM', ?_, ?_, h3⟩
  · unfold FX11_syrup
    rw [show (29 : Int32) = nI (19 + 10) from rfl, h1, bdI_s, gd_t (isB_r hy)]
  · unfold FX12_syrup
    rw [show (19 : Int32) = nI 19 from rfl, h2, bdI_s, gd_t (isB_r hy)]
theorem sT_11 : St_11 Rel := by
  intro n σX σM hn hR x1 hx
  obtain ⟨y, σX', σM', h1, h2, hy, h3⟩ := give_go (k := 18) hR (Or.inl rfl) x1 hx
  refine ⟨y, σX', σM', ?_, ?_, h3⟩
  · unfold FX11_dust
    rw [show (28 : Int32) = nI (18 + 10) from rfl, h1, bdI_s, gd_t (isB_r hy)]
  · unfold FX12_dust
    rw [show (18 : Int32) = nI 18 from rfl, h2, bdI_s, gd_t (isB_r hy)]
/-! undo -/
theorem M_undo_21 {u : Nat} (hu : u < 40) : ∀ (n k f : Nat) (σ : HS), σ.1 0 50 = nI u → (∀ j, j < k → σ.1 31 j = σ.1 33 (33 * u + j)) → k + n = 33 → n < f → ∃ σ', FX12_undo_21 f (nI k) σ = some (1, σ') ∧ kM [31] [] σ σ' ∧ ∀ j, j < 33 → σ'.1 31 j = σ.1 33 (33 * u + j) := by
  intro n
  induction n with
  | zero =>
    intro k f σ h50 hj hk hf
    obtain ⟨f, rfl⟩ : ∃ z, f = z + 1 := ⟨f - 1, by omega⟩
    obtain rfl : k = 33 := by omega
    rw [FX12_undo_21, if_pos (show (33 : Int32) ≤ nI 33 by decide)]
    exact ⟨_, rfl, kM.rf, hj⟩
  | succ n ih =>
    intro k f σ h50 hj hk hf
    obtain ⟨f, rfl⟩ : ∃ z, f = z + 1 := ⟨f - 1, by omega⟩
    have e : (33 : Int32) * nI u + nI k = nI (33 * u + k) := by rw [show (33 : Int32) = nI 33 from rfl, pk_mul, nI_add]
    obtain ⟨σ', h1, k1, r1⟩ := ih (k + 1) f (pI σ 31 k (σ.1 33 (33 * u + k))) (by rw [pI_o (by omega)]; exact h50) (fun j hj' => by
      rw [pI_s, pI_o (by omega)]
      by_cases ej : j = k
      · rw [ej, pk_us]
      · rw [pk_un (by omega)]; exact hj j (by omega)) (by omega) (by omega)
    refine ⟨σ', ?_, kM.tr (kM.pR (by decide) (by decide)) k1, ?_⟩
    · rw [FX12_undo_21, if_neg (show ¬ (33 : Int32) ≤ nI k from nI_ge (b := 33) (by omega) (by omega)), h50, e, gd_t (ix_nI (by omega) (by omega)), gd_t (ix_nI (by omega) (by omega)), cl_nI (by omega), cl_nI (by omega), nI_1]
      exact h1
    · intro j hj'
      rw [r1 j hj', pI_o (by omega)]
theorem sT_13 : St_13 Rel := by
  intro n σX σM hn hR
  obtain ⟨side, nm, nf, z, l, sd, Ls, t, r, v, ⟨u, nx, hu, hx, h63, h64, h50, hh⟩, s, w, e, pl, ky⟩ := id hR
  have hnm := t.1.1
  by_cases h0 : u = 0
  · subst h0
    refine ⟨0, σX, σM, ?_, ?_, Rel_q hR qX.rf kM.rf⟩
    · unfold FX11_undo FX3_takeBack
      rw [h64, if_pos (show nI 0 = (0 : Int32) from rfl), bdI_s]; rfl
    · unfold FX12_undo
      rw [h50, if_pos (show nI 0 = (0 : Int32) from rfl)]
  · obtain ⟨w1, rfl⟩ : ∃ w1, u = w1 + 1 := ⟨u - 1, by omega⟩
    have hne : ¬ nI (w1 + 1) = (0 : Int32) := fun h => h0 ((nI_eq (b := 0) (by omega) (by omega)).mp h)
    obtain ⟨ny, hny⟩ : ∃ ny, ny = (nx + 39) % 40 := ⟨_, rfl⟩
    obtain ⟨σb, hb, kb, rb⟩ := M_undo_21 (u := w1) (by omega) 33 0 fu (pI σM 0 50 (nI w1)) (by rw [pI_s, pk_us]) (fun j hj => by omega) (by omega) (by show 33 < 5000; omega)
    have hw := hh w1 (by omega)
    have ei : (nx + 40 - (w1 + 1) + w1) % 40 = ny := by omega
    rw [ei] at hw
    obtain ⟨τ, hτ⟩ : ∃ τ, τ = pI (pI σX 6 4 (nI w1)) 6 3 (nI ny) := ⟨_, rfl⟩
    have t63 : τ.1 6 3 = nI ny := by rw [hτ, pI_s, pk_us]
    have t64 : τ.1 6 4 = nI w1 := by rw [hτ, pI_s, pk_un (by omega), pI_s, pk_us]
    have t36 : τ.1 36 = σX.1 36 := by rw [hτ, pI_o (by omega), pI_o (by omega)]
    have tk : kX [6, 14, 36, 39, 40] σX τ := by rw [hτ]; exact (kX.rf.pp (by decide)).pp (by decide)
    have hg : cpk (nI ny * (33 : Int32)) (0 : Int32) (33 : Int32) 1320 33 = true := by
      rw [show (33 : Int32) = nI 33 from rfl, pk_mul]
      exact cpk_t (b := 0) (by omega) (by omega) (by omega) (by omega)
    have ec : (nI ny * (33 : Int32)).toNatClampNeg = 33 * ny := by
      rw [show (33 : Int32) = nI 33 from rfl, pk_mul, cl_nI (by omega), Nat.mul_comm]
    have e38 : FX3_takeBack_38 (nI ny) (pI σX 6 4 (nI w1)) = some (1, rI τ 14 (va_cpy (τ.1 36) (τ.1 14) (33 * ny) 0 33)) := by
      unfold FX3_takeBack_38
      simp only [hl_]
      rw [← hτ, t63, gd_t hg, ec]
    have eb : ∀ k, k < 33 → σb.1 31 k = σM.1 33 (33 * w1 + k) := fun k hk => by rw [rb k hk, pI_o (by omega)]
    refine ⟨1, rI τ 14 (va_cpy (τ.1 36) (τ.1 14) (33 * ny) 0 33), σb, ?_, ?_, Rel_D t s w e pl ky (tk.rr (by decide)) (kM.tr (kM.pF (by decide)) (kb.up (by decide) (by decide))) ?_ ?_ ?_⟩
    · unfold FX11_undo FX3_takeBack
      simp only [hl_]
      rw [h64, if_neg hne, s1I, pI_s, pk_un (by omega), h63]
      by_cases hx0 : nx = 0
      · rw [if_pos (show nI nx ≤ (0 : Int32) from nI_le (b := 0) (by omega) (by omega)), show (39 : Int32) = nI ny by rw [show ny = 39 by omega]; rfl, e38, bdI_s]; rfl
      · rw [if_neg (show ¬ nI nx ≤ (0 : Int32) from nI_ge (a := 0) (by omega) (by omega)), show nI nx - (1 : Int32) = nI ny by rw [show nx = ny + 1 by omega]; exact s1I ny, e38, bdI_s]; rfl
    · unfold FX12_undo
      simp only [hl_]
      rw [h50, if_neg hne, s1I]
      exact hb
    · rw [rI_eq]
      refine RR_congr hw.1 (fun k hk => ?_) eb
      rw [cpy_a, if_pos (by omega), t36, Nat.sub_zero]
    · exact RV_mono (by omega) (RV_congr hnm (fun k hk => (eb k hk).symm) hw.2)
    · refine ⟨w1, ny, by omega, by omega, by rw [rI_ne (by omega)]; exact t63, by rw [rI_ne (by omega)]; exact t64, by rw [kb.2.1 50 (by decide), pI_s, pk_us], fun i hi => ?_⟩
      have hi' := hh i (by omega)
      rw [rI_ne (by omega), t36, kb.1 33 (by decide) (by decide), pI_o (by omega), show (ny + 40 - w1 + i) % 40 = (nx + 40 - (w1 + 1) + i) % 40 by omega]
      exact ⟨hi'.1, RV_mono (by omega) hi'.2⟩
