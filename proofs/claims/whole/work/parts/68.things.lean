/-! Things done, undone, held. -/
theorem cpk_t {a b c N M : Nat} (h1 : a + c ≤ N) (h2 : b + c ≤ M) (hN : N < 2 ^ 30) (hM : M < 2 ^ 30) : cpk (nI a) (nI b) (nI c) N M = true := by
  unfold cpk
  rw [cl_nI (by omega), cl_nI (by omega), cl_nI (by omega)]
  exact decide_eq_true ⟨⟨nI_pos (by omega), nI_pos (by omega), nI_pos (by omega)⟩, h1, h2⟩
theorem min_I {a b : Nat} (ha : a < 2 ^ 30) (hb : b < 2 ^ 30) : minI (nI a) (nI b) = nI (min a b) := by
  unfold minI
  by_cases h : b < a
  · rw [if_pos (nI_lt h (by omega)), Nat.min_eq_right (by omega)]
  · rw [if_neg (nI_nlt (by omega) (by omega)), Nat.min_eq_left (by omega)]
theorem max_I {a b : Nat} (ha : a < 2 ^ 30) (hb : b < 2 ^ 30) : maxI (nI a) (nI b) = nI (max a b) := by
  unfold maxI
  by_cases h : a < b
  · rw [if_pos (nI_lt h (by omega)), Nat.max_eq_right (by omega)]
  · rw [if_neg (nI_nlt (by omega) (by omega)), Nat.max_eq_left (by omega)]
theorem Rel_D {n : Nat} {σX σM σX' σM' : HS} {side nm nf : Nat} {z l : Nat → Int32} {sd : Int32} {Ls : Nat → Lawt} (t : TR σX σM side nm nf z l sd Ls) (s : SR σX σM nm nf n) (w : WR σX σM nm) (e : ER σX σM) (pl : σX.1 2 1 = σM.1 0 17) (ky : ∀ k, k < 22 → σM.2 7 k = keyV k) (kx : kX [6, 14, 36, 39, 40] σX σX') (km : kM [29, 30, 31, 32, 33] [46, 49, 50] σM σM') (r : RR nm (σX'.1 14) (σM'.1 31)) (v : RV nm nf (n + 1) (σM'.1 31)) (p : PR σX' σM' nm nf (n + 1)) : Rel (n + 1) σX' σM' := by
  refine ⟨side, nm, nf, z, l, sd, Ls, TR_q (kx.1 3 (by decide)) (kx.1 23 (by decide)) (kx.1 24 (by decide)) (kx.1 26 (by decide)) (kx.1 27 (by decide)) (kx.1 28 (by decide)) km (by intro x h1 h2 h; simp at h; omega) (by decide) (by decide) (by decide) (by decide) (by decide) (by decide) t, r, v, p, ?_, ?_, ?_, ?_, ?_⟩
  · exact SR_mono (by omega) (SR_eq (kx.1 37 (by decide)) (kx.1 38 (by decide)) (km.1 43 (by decide) (by decide)) (km.1 44 (by decide) (by decide)) s)
  · exact WR_eq (by rw [kx.1 11 (by decide)]) (kx.1 46 (by decide)) (kx.1 47 (by decide)) (kx.1 48 (by decide)) (km.2.1 57 (by decide)) (km.1 39 (by decide) (by decide)) (km.1 40 (by decide) (by decide)) (km.1 41 (by decide) (by decide)) w
  · exact ER_eq (kx.1 1 (by decide)) (kx.1 16 (by decide)) (km.2.1 2 (by decide)) (km.1 1 (by decide) (by decide)) e
  · rw [kx.1 2 (by decide), km.2.1 17 (by decide)]; exact pl
  · rw [km.2.2]; exact ky
theorem X_keep {σ : HS} {nx u : Nat} (h3 : σ.1 6 3 = nI nx) (hx : nx < 40) (h4 : σ.1 6 4 = nI u) (hu : u ≤ 40) : ∃ σ', FX3_keep σ = some σ' ∧ kX [6, 36] σ σ' ∧ σ'.1 6 3 = nI ((nx + 1) % 40) ∧ σ'.1 6 4 = nI (min (u + 1) 40) ∧ σ'.1 36 = va_cpy (σ.1 14) (σ.1 36) 0 (33 * nx) 33 := by
  obtain ⟨τ, hτ⟩ : ∃ τ, τ = rI σ 36 (va_cpy (σ.1 14) (σ.1 36) 0 (33 * nx) 33) := ⟨_, rfl⟩
  have t6 : τ.1 6 = σ.1 6 := by rw [hτ, rI_ne (by omega)]
  have t36 : τ.1 36 = va_cpy (σ.1 14) (σ.1 36) 0 (33 * nx) 33 := by rw [hτ, rI_eq]
  have tk : kX [6, 36] σ τ := by rw [hτ]; exact kX.r (by decide)
  have hg : cpk (0 : Int32) (nI nx * (33 : Int32)) (33 : Int32) 33 1320 = true := by
    rw [show (33 : Int32) = nI 33 from rfl, pk_mul]
    exact cpk_t (a := 0) (by omega) (by omega) (by omega) (by omega)
  have ec : (nI nx * (33 : Int32)).toNatClampNeg = 33 * nx := by
    rw [show (33 : Int32) = nI 33 from rfl, pk_mul, cl_nI (by omega), Nat.mul_comm]
  refine ⟨pI (pI τ 6 3 (nI ((nx + 1) % 40))) 6 4 (nI (min (u + 1) 40)), ?_, (tk.pp (by decide)).pp (by decide), ?_, ?_, ?_⟩
  · have e43 : FX3_keep_43 (nI ((nx + 1) % 40)) τ = some (pI (pI τ 6 3 (nI ((nx + 1) % 40))) 6 4 (nI (min (u + 1) 40))) := by
      unfold FX3_keep_43
      simp only [hl_]
      rw [pI_s, pk_un (by omega), t6, h4, nI_1, show (40 : Int32) = nI 40 from rfl, min_I (by omega) (by omega)]
    unfold FX3_keep
    rw [h3, gd_t hg]
    simp only [hl_]
    rw [ec, ← hτ, t6, h3, nI_1, ← e43]
    by_cases hh : nx + 1 = 40
    · rw [if_pos (show (40 : Int32) ≤ nI (nx + 1) from nI_le (a := 40) (by omega) (by omega)), show (nx + 1) % 40 = 0 by omega]
      rfl
    · rw [if_neg (show ¬ (40 : Int32) ≤ nI (nx + 1) from nI_ge (b := 40) (by omega) (by omega)), show (nx + 1) % 40 = nx + 1 by omega]
  · rw [pI_s, pk_un (by omega), pI_s, pk_us]
  · rw [pI_s, pk_us]
  · rw [pI_o (by omega), pI_o (by omega)]; exact t36
theorem M_rec51 {u : Nat} (hu : u < 40) : ∀ (n k f : Nat) (σ : HS), σ.1 0 50 = nI u → (∀ j, j < k → σ.1 33 (33 * u + j) = σ.1 31 j) → k + n = 33 → n < f → ∃ σ', FX12_records_51 f (nI k) σ = some σ' ∧ kM [31, 33] [50] σ σ' ∧ σ'.1 0 50 = nI (u + 1) ∧ (∀ j, j < 33 → σ'.1 31 j = σ.1 32 j) ∧ (∀ j, j < 33 → σ'.1 33 (33 * u + j) = σ.1 31 j) ∧ ∀ q, q < 33 * u → σ'.1 33 q = σ.1 33 q := by
  intro n
  induction n with
  | zero =>
    intro k f σ h50 hj hk hf
    obtain ⟨f, rfl⟩ : ∃ z, f = z + 1 := ⟨f - 1, by omega⟩
    obtain rfl : k = 33 := by omega
    obtain ⟨σ', h1, k1, r1⟩ := M_keepsRow (pI σ 0 50 (nI (u + 1)))
    refine ⟨σ', ?_, kM.tr (kM.pF (by decide)) (k1.up (by decide) (by decide)), ?_, ?_, ?_, ?_⟩
    · rw [FX12_records_51, if_pos (show (33 : Int32) ≤ nI 33 by decide)]
      simp only [hl_]
      rw [h50, nI_1, h1, bdV_s]
    · rw [k1.2.1 50 (by decide), pI_s, pk_us]
    · intro j hj'
      rw [r1 j hj', pI_o (by omega)]
    · intro j hj'
      rw [k1.1 33 (by decide) (by decide), pI_o (by omega)]; exact hj j hj'
    · intro q hq
      rw [k1.1 33 (by decide) (by decide), pI_o (by omega)]
  | succ n ih =>
    intro k f σ h50 hj hk hf
    obtain ⟨f, rfl⟩ : ∃ z, f = z + 1 := ⟨f - 1, by omega⟩
    have e : (33 : Int32) * nI u + nI k = nI (33 * u + k) := by rw [show (33 : Int32) = nI 33 from rfl, pk_mul, nI_add]
    obtain ⟨σ', h1, k1, r1, r2, r3, r4⟩ := ih (k + 1) f (pI σ 33 (33 * u + k) (σ.1 31 k)) (by rw [pI_o (by omega)]; exact h50) (fun j hj' => by
      rw [pI_s, pI_o (by omega)]
      by_cases ej : j = k
      · rw [ej, pk_us]
      · rw [pk_un (by omega)]; exact hj j (by omega)) (by omega) (by omega)
    refine ⟨σ', ?_, kM.tr (kM.pR (by decide) (by decide)) k1, r1, ?_, ?_, ?_⟩
    · rw [FX12_records_51, if_neg (show ¬ (33 : Int32) ≤ nI k from nI_ge (b := 33) (by omega) (by omega)), gd_t (ix_nI (by omega) (by omega)), h50, e, gd_t (ix_nI (by omega) (by omega)), cl_nI (by omega), cl_nI (by omega), nI_1]
      exact h1
    · intro j hj'
      rw [r2 j hj', pI_o (by omega)]
    · intro j hj'
      rw [r3 j hj', pI_o (by omega)]
    · intro q hq
      rw [r4 q hq, pI_s, pk_un (by omega)]
theorem M_rec11 (g : Nat → Int32) : ∀ (n k f : Nat) (σ : HS), σ.1 0 50 = nI 40 → (∀ j, j < k → σ.1 33 j = g (j + 33)) → (∀ j, k ≤ j → σ.1 33 j = g j) → k + n = 1287 → n < f → ∃ σ', FX12_records_11 f (nI k) σ = some σ' ∧ kM [31, 33] [50] σ σ' ∧ σ'.1 0 50 = nI 40 ∧ (∀ j, j < 33 → σ'.1 31 j = σ.1 32 j) ∧ (∀ j, j < 33 → σ'.1 33 (33 * 39 + j) = σ.1 31 j) ∧ ∀ q, q < 33 * 39 → σ'.1 33 q = g (q + 33) := by
  intro n
  induction n with
  | zero =>
    intro k f σ h50 hj hj2 hk hf
    obtain ⟨f, rfl⟩ : ∃ z, f = z + 1 := ⟨f - 1, by omega⟩
    obtain rfl : k = 1287 := by omega
    obtain ⟨σ', h1, k1, r1, r2, r3, r4⟩ := M_rec51 (u := 39) (by omega) 33 0 fu (pI σ 0 50 (nI 39)) (by rw [pI_s, pk_us]) (fun j hj' => by omega) (by omega) (by show 33 < 5000; omega)
    refine ⟨σ', ?_, kM.tr (kM.pF (by decide)) k1, r1, ?_, ?_, ?_⟩
    · rw [FX12_records_11, if_pos (show (1287 : Int32) ≤ nI 1287 by decide)]
      simp only [hl_]
      rw [h50]
      exact h1
    · intro j hj'
      rw [r2 j hj', pI_o (by omega)]
    · intro j hj'
      rw [r3 j hj', pI_o (by omega)]
    · intro q hq
      rw [r4 q hq, pI_o (by omega)]; exact hj q (by omega)
  | succ n ih =>
    intro k f σ h50 hj hj2 hk hf
    obtain ⟨f, rfl⟩ : ∃ z, f = z + 1 := ⟨f - 1, by omega⟩
    have e : nI k + (33 : Int32) = nI (k + 33) := by rw [show (33 : Int32) = nI 33 from rfl, nI_add]
    obtain ⟨σ', h1, k1, r1, r2, r3, r4⟩ := ih (k + 1) f (pI σ 33 k (σ.1 33 (k + 33))) (by rw [pI_o (by omega)]; exact h50) (fun j hj' => by
      rw [pI_s]
      by_cases ej : j = k
      · rw [ej, pk_us]; exact hj2 _ (by omega)
      · rw [pk_un (by omega)]; exact hj j (by omega)) (fun j hj' => by rw [pI_s, pk_un (by omega)]; exact hj2 j (by omega)) (by omega) (by omega)
    refine ⟨σ', ?_, kM.tr (kM.pR (by decide) (by decide)) k1, r1, ?_, ?_, r4⟩
    · rw [FX12_records_11, if_neg (show ¬ (1287 : Int32) ≤ nI k from nI_ge (b := 1287) (by omega) (by omega)), e, gd_t (ix_nI (by omega) (by omega)), gd_t (ix_nI (by omega) (by omega)), cl_nI (by omega), cl_nI (by omega), nI_1]
      exact h1
    · intro j hj'
      rw [r2 j hj', pI_o (by omega)]
    · intro j hj'
      rw [r3 j hj', pI_o (by omega)]
theorem rowC_congr {nm : Nat} {c c' : Nat → Int32} (h : ∀ k, k < 33 → c k = c' k) {k : Nat} (hk : k < 33) : rowC nm c k = rowC nm c' k := by
  unfold rowC
  by_cases h1 : k < 10
  · rw [if_pos h1, if_pos h1, h k hk]
  · rw [if_neg h1, if_neg h1]
    by_cases h2 : k < 18
    · rw [if_pos h2, if_pos h2, h k hk]
    · rw [if_neg h2, if_neg h2]
      by_cases h3 : k < 23
      · rw [if_pos h3, if_pos h3, h (k + 10) (by omega)]
      · rw [if_neg h3, if_neg h3, h (k - 5) (by omega)]
theorem RR_congr {nm : Nat} {c c' g g' : Nat → Int32} (h : RR nm c g) (hc : ∀ k, k < 33 → c' k = c k) (hg : ∀ k, k < 33 → g' k = g k) : RR nm c' g' := fun k hk => by rw [rowC_congr hc hk, hg k hk]; exact h k hk
/-- a thing done: what was is kept on both sides -/
theorem dn_keep {n : Nat} {σX σM σ1 : HS} {nm nf : Nat} (hnm : nm ≤ 10) (p : PR σX σM nm nf n) (r : RR nm (σX.1 14) (σM.1 31)) (v : RV nm nf n (σM.1 31)) (e50 : σ1.1 0 50 = σM.1 0 50) (e33 : σ1.1 33 = σM.1 33) (e31 : σ1.1 31 = σM.1 31) : ∃ σX' σM', FX3_keep σX = some σX' ∧ FX12_records σ1 = some σM' ∧ kX [6, 36] σX σX' ∧ kM [31, 33] [50] σ1 σM' ∧ (∀ j, j < 33 → σM'.1 31 j = σ1.1 32 j) ∧ PR σX' σM' nm nf n := by
  obtain ⟨u, nx, hu, hx, h63, h64, h50, hh⟩ := p
  obtain ⟨σX', hk, kx, x3, x4, x36⟩ := X_keep h63 hx h64 hu
  by_cases h40 : u = 40
  · subst h40
    obtain ⟨σM', hm, km, m50, m31, mt, ml⟩ := M_rec11 (σM.1 33) 1287 0 fu σ1 (e50.trans h50) (fun j hj => by omega) (fun j _ => by rw [e33]) (by omega) (by show 1287 < 5000; omega)
    refine ⟨σX', σM', hk, ?_, kx, km, m31, 40, (nx + 1) % 40, by omega, by omega, x3, by rw [x4]; rfl, m50, fun i hi => ?_⟩
    · unfold FX12_records
      rw [e50, h50, if_pos (show nI 40 = (40 : Int32) from rfl)]
      exact hm
    · by_cases h39 : i = 39
      · subst h39
        have eX : ∀ k, k < 33 → σX'.1 36 (33 * (((nx + 1) % 40 + 40 - 40 + 39) % 40) + k) = σX.1 14 k := by
          intro k hk33
          rw [show ((nx + 1) % 40 + 40 - 40 + 39) % 40 = nx by omega, x36, cpy_a, if_pos (by omega)]
          exact congrArg (σX.1 14) (show 0 + (33 * nx + k - 33 * nx) = k by omega)
        have eM : ∀ k, k < 33 → σM'.1 33 (33 * 39 + k) = σM.1 31 k := fun k hk33 => by rw [mt k hk33, e31]
        exact ⟨RR_congr r eX eM, RV_congr hnm (fun k hk33 => (eM k hk33).symm) v⟩
      · have eX : ∀ k, k < 33 → σX'.1 36 (33 * (((nx + 1) % 40 + 40 - 40 + i) % 40) + k) = σX.1 36 (33 * ((nx + 40 - 40 + (i + 1)) % 40) + k) := by
          intro k hk33
          rw [show ((nx + 1) % 40 + 40 - 40 + i) % 40 = (nx + 40 - 40 + (i + 1)) % 40 by omega, x36, cpy_a, if_neg (by omega)]
        have eM : ∀ k, k < 33 → σM'.1 33 (33 * i + k) = σM.1 33 (33 * (i + 1) + k) := fun k hk33 => by
          rw [ml _ (by omega)]; exact congrArg (σM.1 33) (show 33 * i + k + 33 = 33 * (i + 1) + k by omega)
        exact ⟨RR_congr (hh (i + 1) (by omega)).1 eX eM, RV_congr hnm (fun k hk33 => (eM k hk33).symm) (hh (i + 1) (by omega)).2⟩
  · obtain ⟨σM', hm, km, m50, m31, mt, ml⟩ := M_rec51 (u := u) (by omega) 33 0 fu σ1 (e50.trans h50) (fun j hj => by omega) (by omega) (by show 33 < 5000; omega)
    refine ⟨σX', σM', hk, ?_, kx, km, m31, u + 1, (nx + 1) % 40, by omega, by omega, x3, by rw [x4, Nat.min_eq_left (by omega)], m50, fun i hi => ?_⟩
    · unfold FX12_records
      rw [e50, h50, if_neg (show ¬ nI u = (40 : Int32) from fun e => h40 ((nI_eq (b := 40) (by omega) (by omega)).mp e))]
      exact hm
    · by_cases h39 : i = u
      · subst h39
        have eX : ∀ k, k < 33 → σX'.1 36 (33 * (((nx + 1) % 40 + 40 - (i + 1) + i) % 40) + k) = σX.1 14 k := by
          intro k hk33
          rw [show ((nx + 1) % 40 + 40 - (i + 1) + i) % 40 = nx by omega, x36, cpy_a, if_pos (by omega)]
          exact congrArg (σX.1 14) (show 0 + (33 * nx + k - 33 * nx) = k by omega)
        have eM : ∀ k, k < 33 → σM'.1 33 (33 * i + k) = σM.1 31 k := fun k hk33 => by rw [mt k hk33, e31]
        exact ⟨RR_congr r eX eM, RV_congr hnm (fun k hk33 => (eM k hk33).symm) v⟩
      · have eX : ∀ k, k < 33 → σX'.1 36 (33 * (((nx + 1) % 40 + 40 - (u + 1) + i) % 40) + k) = σX.1 36 (33 * ((nx + 40 - u + i) % 40) + k) := by
          intro k hk33
          rw [show ((nx + 1) % 40 + 40 - (u + 1) + i) % 40 = (nx + 40 - u + i) % 40 by omega, x36, cpy_a, if_neg (by omega)]
        have eM : ∀ k, k < 33 → σM'.1 33 (33 * i + k) = σM.1 33 (33 * i + k) := fun k hk33 => by
          rw [ml _ (by omega), e33]
        exact ⟨RR_congr (hh i (by omega)).1 eX eM, RV_congr hnm (fun k hk33 => (eM k hk33).symm) (hh i (by omega)).2⟩
/-! One cell of the row. -/
theorem RR_m {nm m : Nat} {c g : Nat → Int32} {x : Int32} (hnm : nm ≤ 10) (hm : m < nm) (h : RR nm c g) : RR nm (upd c m x) (upd g m x) := by
  intro k hk
  have hh := h k hk
  by_cases e : k = m
  · subst e
    rw [rowC_m hm hnm, pk_us, pk_us]
  · rw [pk_un e, ← hh]
    by_cases h1 : k < 10
    · by_cases h2 : k < nm
      · rw [rowC_m h2 hnm, rowC_m h2 hnm, pk_un e]
      · rw [rowC_z h2 h1, rowC_z h2 h1]
    · by_cases h2 : k < 18
      · rw [rowC_p (by omega) h2, rowC_p (by omega) h2, pk_un e]
      · by_cases h3 : k < 23
        · rw [rowC_d (by omega) h3, rowC_d (by omega) h3, pk_un (by omega)]
        · rw [rowC_f (by omega), rowC_f (by omega), pk_un (by omega)]
theorem RR_p {nm p : Nat} {c g : Nat → Int32} {x : Int32} (hnm : nm ≤ 10) (hp : p < 8) (h : RR nm c g) : RR nm (upd c (10 + p) x) (upd g (10 + p) x) := by
  intro k hk
  have hh := h k hk
  by_cases e : k = 10 + p
  · subst e
    rw [rowC_p (by omega) (by omega), pk_us, pk_us]
  · rw [pk_un e, ← hh]
    by_cases h1 : k < 10
    · by_cases h2 : k < nm
      · rw [rowC_m h2 hnm, rowC_m h2 hnm, pk_un e]
      · rw [rowC_z h2 h1, rowC_z h2 h1]
    · by_cases h2 : k < 18
      · rw [rowC_p (by omega) h2, rowC_p (by omega) h2, pk_un e]
      · by_cases h3 : k < 23
        · rw [rowC_d (by omega) h3, rowC_d (by omega) h3, pk_un (by omega)]
        · rw [rowC_f (by omega), rowC_f (by omega), pk_un (by omega)]
theorem RR_d {nm d : Nat} {c g : Nat → Int32} {x : Int32} (hnm : nm ≤ 10) (h1 : 18 ≤ d) (h2 : d < 23) (h : RR nm c g) : RR nm (upd c (d + 10) x) (upd g d x) := by
  intro k hk
  have hh := h k hk
  by_cases e : k = d
  · subst e
    rw [rowC_d h1 h2, pk_us, pk_us]
  · rw [pk_un e, ← hh]
    by_cases h1 : k < 10
    · by_cases h2 : k < nm
      · rw [rowC_m h2 hnm, rowC_m h2 hnm, pk_un (by omega)]
      · rw [rowC_z h2 h1, rowC_z h2 h1]
    · by_cases h2 : k < 18
      · rw [rowC_p (by omega) h2, rowC_p (by omega) h2, pk_un (by omega)]
      · by_cases h3 : k < 23
        · rw [rowC_d (by omega) h3, rowC_d (by omega) h3, pk_un (by omega)]
        · rw [rowC_f (by omega), rowC_f (by omega), pk_un (by omega)]
theorem RV_m {nm nf n m : Nat} {g : Nat → Int32} {x : Int32} (hnm : nm ≤ 10) (hm : m < nm) (hx : ∃ v, v ≤ 5 ∧ x = nI v) (h : RV nm nf n g) : RV nm nf n (upd g m x) := by
  obtain ⟨h1, h2, h3, h4, h5⟩ := h
  refine ⟨fun p hp => by rw [pk_un (by omega)]; exact h1 p hp, fun j hj => ?_, by rw [pk_un (by omega)]; exact h3, by rw [pk_un (by omega)]; exact h4, fun f hf => by rw [pk_un (by omega), pk_un (by omega)]; exact h5 f hf⟩
  by_cases e : j = m
  · rw [e, pk_us]; exact hx
  · rw [pk_un e]; exact h2 j hj
theorem RV_p {nm nf n p : Nat} {g : Nat → Int32} {x : Int32} (hnm : nm ≤ 10) (hp : p < 8) (hx : x = -2 ∨ ∃ f, f < nf ∧ x = nI f) (h : RV nm nf n g) : RV nm nf n (upd g (10 + p) x) := by
  obtain ⟨h1, h2, h3, h4, h5⟩ := h
  refine ⟨fun j hj => ?_, fun j hj => by rw [pk_un (by omega)]; exact h2 j hj, by rw [pk_un (by omega)]; exact h3, by rw [pk_un (by omega)]; exact h4, fun f hf => by rw [pk_un (by omega), pk_un (by omega)]; exact h5 f hf⟩
  by_cases e : j = p
  · rw [e, pk_us]; exact hx
  · rw [pk_un (by omega)]; exact h1 j hj
theorem RV_d {nm nf n k : Nat} {g : Nat → Int32} {x : Int32} (hnm : nm ≤ 10) (hk : k = 18 ∨ k = 19) (hx : ∃ d, d ≤ 9 ∧ x = nI d) (h : RV nm nf n g) : RV nm nf n (upd g k x) := by
  obtain ⟨h1, h2, h3, h4, h5⟩ := h
  refine ⟨fun j hj => by rw [pk_un (by omega)]; exact h1 j hj, fun j hj => by rw [pk_un (by omega)]; exact h2 j hj, ?_, ?_, fun f hf => by rw [pk_un (by omega), pk_un (by omega)]; exact h5 f hf⟩
  · by_cases e : k = 18
    · rw [e, pk_us]; exact hx
    · rw [pk_un (by omega)]; exact h3
  · by_cases e : k = 19
    · rw [e, pk_us]; exact hx
    · rw [pk_un (by omega)]; exact h4
theorem X_exchange {st m o : Nat} (hm : m < 10) (ho : o < 10) (σ : HS) : FX7_exchange st (nI m) (nI o) σ = some (pI (pI σ (st + 10) m (σ.1 (st + 10) o)) (st + 10) o (σ.1 (st + 10) m)) := by
  have e1 : (0 : Int32) + nI m = nI m := Int32.zero_add _
  have e2 : (0 : Int32) + nI o = nI o := Int32.zero_add _
  have i1 : ix (nI m) 33 = true := ix_nI (by omega) (by omega)
  have i2 : ix (nI o) 33 = true := ix_nI (by omega) (by omega)
  unfold FX7_exchange
  rw [e1, e2, gd_t i1]
  simp only [hl_]
  rw [gd_t i2, gd_t i1, gd_t i2, cl_nI (by omega), cl_nI (by omega)]
theorem X_matterOf {st m : Nat} (hm : m < 10) (σ : HS) : FX7_matterOf st (nI m) σ = some (σ.1 (st + 10) m, σ) := by
  unfold FX7_matterOf
  rw [show (0 : Int32) + nI m = nI m from Int32.zero_add _, gd_t (ix_nI (by omega) (by omega)), cl_nI (by omega)]
theorem X_ownerOf {st p : Nat} (hp : p < 8) (σ : HS) : FX7_ownerOf st (nI p) σ = some (σ.1 (st + 10) (10 + p), σ) := by
  unfold FX7_ownerOf
  rw [show (10 : Int32) + nI p = nI (10 + p) from nI_add 10 p, gd_t (ix_nI (by omega) (by omega)), cl_nI (by omega)]
theorem M_changesFor {σ : HS} {side nm nf m o : Nat} {Ls : Nat → Lawt} (hM : MM σ side nm nf Ls) (hm : m < nm) (ho : o < nm) : ∃ σ', FX12_changesFor (nI m) (nI o) σ = some σ' ∧ kM [32] [49] σ σ' ∧ ∀ k, k < 33 → σ'.1 32 k = upd (upd (σ.1 31) m (σ.1 31 o)) o (σ.1 31 m) k := by
  have hnm := hM.2.2.1
  obtain ⟨σ1, h1, k1, r1, s1, hM1⟩ := M_copiesG hM
  have e31 : σ1.1 31 = σ.1 31 := k1.1 31 (by decide) (by decide)
  have i1 : ix (nI m) 33 = true := ix_nI (by omega) (by omega)
  have i2 : ix (nI o) 33 = true := ix_nI (by omega) (by omega)
  refine ⟨pI (pI σ1 32 m (σ.1 31 o)) 32 o (σ.1 31 m), ?_, kM.tr (kM.tr k1 (kM.pR (by decide) (by decide))) (kM.pR (by decide) (by decide)), fun k hk => ?_⟩
  · unfold FX12_changesFor
    rw [h1, bdV_s, gd_t i2, gd_t i1]
    simp only [hl_]
    rw [gd_t i1, gd_t i2, cl_nI (by omega), cl_nI (by omega), pI_o (by omega), e31]
  · rw [pI_s, pI_s, upd_a, upd_a, upd_a, upd_a, r1 k hk]
