/-! Face: cover. -/
/-- bits of the matters -/
def mtN (G : Nat → Int32) : Nat → Nat
  | 0 => 0
  | m + 1 => mtN G m ||| 2 ^ (G m).toNatClampNeg
theorem mtN_lt {G : Nat → Int32} {nm : Nat} (h : ∀ m, m < nm → ∃ v, v ≤ 5 ∧ G m = nI v) : ∀ m, m ≤ nm → mtN G m < 2 ^ 6 := by
  intro m
  induction m with
  | zero => intro _; exact Nat.two_pow_pos 6
  | succ m ih =>
    intro hm
    obtain ⟨v, hv, ev⟩ := h m (by omega)
    simp only [mtN]
    rw [ev, cl_nI (by omega)]
    exact Nat.or_lt_two_pow (ih (by omega)) (Nat.pow_lt_pow_right (by decide) (by omega))
theorem mtN_bit {G : Nat → Int32} {nm mt : Nat} (hmt : mt ≤ 5) (h : ∀ m, m < nm → ∃ v, v ≤ 5 ∧ G m = nI v) : ∀ m, m ≤ nm → (mtN G m / 2 ^ mt % 2 = 1 ↔ ∃ j, j < m ∧ G j = nI mt) := by
  intro m
  induction m with
  | zero => intro _; simp [mtN]
  | succ m ih =>
    intro hm
    have ih := ih (by omega)
    obtain ⟨v, hv, ev⟩ := h m (by omega)
    have e : ∀ x : Nat, (x / 2 ^ mt % 2 = 1 ↔ x.testBit mt = true) := fun x => by rw [Nat.testBit_eq_decide_div_mod_eq, decide_eq_true_iff]
    rw [e] at ih ⊢
    simp only [mtN]
    rw [ev, cl_nI (by omega), Nat.testBit_or, Bool.or_eq_true, ih, Nat.testBit_two_pow]
    constructor
    · rintro (⟨j, hj, ej⟩ | hv')
      · exact ⟨j, by omega, ej⟩
      · have : v = mt := by simpa using hv'
        exact ⟨m, by omega, by rw [ev, this]⟩
    · rintro ⟨j, hj, ej⟩
      by_cases hjm : j = m
      · subst hjm
        rw [ev] at ej
        refine Or.inr ?_
        have := (nI_eq (by omega) (by omega)).mp ej
        simp [this]
      · exact Or.inl ⟨j, by omega, ej⟩
theorem X_matters {nm nf : Nat} {z l : Nat → Int32} {Ls : Nat → Lawt} {G : Nat → Int32} {σ : HS} (hT : TX σ nm nf z l Ls) (hG : RR nm (σ.1 14) G) (h : ∀ m, m < nm → ∃ v, v ≤ 5 ∧ G m = nI v) : ∀ (n m f : Nat), m + n = nm → n < f → FX11_mattersThereAre_4 f (nI (mtN G m)) (nI m) σ = some (nI (mtN G nm), σ) := by
  have hnm := hT.1
  intro n
  induction n with
  | zero =>
    intro m f hm hf
    obtain ⟨f, rfl⟩ : ∃ z, f = z + 1 := ⟨f - 1, by omega⟩
    obtain rfl : m = nm := by omega
    rw [FX11_mattersThereAre_4, hT.2.2.1, if_pos (nI_le (by omega) (by omega))]
  | succ n ih =>
    intro m f hm hf
    obtain ⟨f, rfl⟩ : ∃ z, f = z + 1 := ⟨f - 1, by omega⟩
    have ih' := ih (m + 1) f (by omega) (by omega)
    obtain ⟨v, hv, ev⟩ := h m (by omega)
    have e : σ.1 (4 + 10) m = G m := by rw [← hG m (by omega), rowC_m (by omega) hnm]
    rw [FX11_mattersThereAre_4, hT.2.2.1, if_neg (nI_ge (by omega) (by omega)), X_matterOf (by omega), bdI_s, e]
    simp only [hl_]
    simp only [mtN] at ih'
    rw [ev, cl_nI (by omega)] at ih'
    rw [ev, sh1 _ (by omega), nI_or, nI_1]
    exact ih'
theorem poN_0 {G : Nat → Int32} {mt c : Nat} : ∀ m, (∀ j, j < m → ¬ G j = nI mt) → poN G mt c m = 0 := by
  intro m
  induction m with
  | zero => intro _; rfl
  | succ m ih =>
    intro h
    simp only [poN]
    rw [if_neg (h m (by omega))]
    exact ih (fun j hj => h j (by omega))
theorem or_ne {a b : Nat} (h : a ≠ 0 ∨ b ≠ 0) : a ||| b ≠ 0 := by
  intro e
  have := Nat.or_eq_zero_iff.mp e
  rcases h with h | h
  · exact h this.1
  · exact h this.2
theorem poN_ne {G : Nat → Int32} {mt c : Nat} : ∀ m j, j < m → G j = nI mt → poN G mt c m ≠ 0 := by
  intro m
  induction m with
  | zero => intro j hj _; omega
  | succ m ih =>
    intro j hj ej
    simp only [poN]
    by_cases h : G m = nI mt
    · rw [if_pos h]
      exact or_ne (Or.inr (Nat.ne_of_gt (Nat.two_pow_pos _)))
    · rw [if_neg h]
      have : j ≠ m := fun e => h (by rw [← e]; exact ej)
      exact ih j (by omega) ej
theorem met_none {q : Nat → Nat} {G : Nat → Int32} {mt nm x : Nat} (h : ∀ j, j < nm → ¬ G j = nI mt) : metB q G mt nm x = false := by
  obtain ⟨c, hc⟩ := List.exists_mem_of_ne_nil _ (setsL_ne (q := q) nm)
  unfold metB
  rw [List.all_eq_false]
  exact ⟨c, hc, by rw [poN_0 nm h, Nat.zero_and]; decide⟩
theorem met_255 {q : Nat → Nat} {G : Nat → Int32} {mt nm j : Nat} (hj : j < nm) (ej : G j = nI mt) : metB q G mt nm 255 = true := by
  unfold metB
  rw [List.all_eq_true]
  intro c _
  have h1 := poN_lt G mt c nm
  have h2 : poN G mt c nm &&& 255 = poN G mt c nm := by
    have := Nat.and_two_pow_sub_one_eq_mod (poN G mt c nm) 8
    rw [show 2 ^ 8 - 1 = 255 from rfl] at this
    rw [this, Nat.mod_eq_of_lt h1]
  rw [h2]
  have := poN_ne (c := c) nm j hj ej
  simp [this]
theorem cnt_255 : ∀ p, p < 255 → cntN p 10 < cntN 255 10 := by decide +kernel
theorem cnt_le8 : ∀ p, p < 256 → cntN p 10 ≤ cntN 255 10 := by decide +kernel
theorem cover_no {side nm nf mt : Nat} {Ls : Nat → Lawt} {G : Nat → Int32} {σ : HS} (x1 x2 : Int32) (Q : MQs σ side nm nf Ls G) (h38 : ∀ j, j < 2 ^ nm → σ.1 38 j = hitI (qF (Ls 0) G) G mt nm j) (h : ∀ j, j < nm → ¬ G j = nI mt) : ∀ (n k f : Nat), k + n = 256 → n < f → FX12_cover_29 f x1 x2 (-2) (nI k) σ = some (-2, σ) := by
  intro n
  induction n with
  | zero =>
    intro k f hk hf
    obtain ⟨f, rfl⟩ : ∃ z, f = z + 1 := ⟨f - 1, by omega⟩
    obtain rfl : k = 256 := by omega
    rw [FX12_cover_29, if_pos (show (256 : Int32) ≤ nI 256 by decide), if_pos (show (-2 : Int32) < 0 by decide)]
  | succ n ih =>
    intro k f hk hf
    obtain ⟨f, rfl⟩ : ∃ z, f = z + 1 := ⟨f - 1, by omega⟩
    rw [FX12_cover_29, if_neg (show ¬ (256 : Int32) ≤ nI k from nI_ge (b := 256) (by omega) (by omega)), if_pos (show (-2 : Int32) < 0 by decide)]
    unfold FX12_cover_53
    rw [M_isIn Q h38, met_none h, bI_f, bdI_s, if_pos rfl, nI_1]
    exact ih (k + 1) f (by omega) (by omega)
theorem cover_go {side nm nf mt y : Nat} {Ls : Nat → Lawt} {G : Nat → Int32} {σa σb : HS} (x1 : Int32) (hy : y ≤ 1) (Q : MQs σb side nm nf Ls G) (h38 : ∀ j, j < 2 ^ nm → σb.1 38 j = hitI (qF (Ls 0) G) G mt nm j) (h45 : ∀ p, p < 256 → σa.1 45 p = if p ∈ (setsL (qF (Ls 0) G) nm).map (fun c => poN G mt c nm) then 1 else 0) (h255 : metB (qF (Ls 0) G) G mt nm 255 = true) : ∀ (n k f b : Nat) (bM : Int32), b < 256 → (bM = nI b ∨ bM = -2 ∧ b = 255 ∧ k < 256) → k + n = 256 → n < f → ∃ c, c < 256 ∧ FX1_fewestParts_6 f (nI b) (nI k) σa = some (nI c, σa) ∧ FX12_cover_29 f x1 (nI y) bM (nI k) σb = some (if y = 0 then nI (cntN c 10) else nI c, σb) := by
  intro n
  induction n with
  | zero =>
    intro k f b bM hb hM hk hf
    obtain ⟨f, rfl⟩ : ∃ z, f = z + 1 := ⟨f - 1, by omega⟩
    obtain rfl : k = 256 := by omega
    obtain rfl : bM = nI b := hM.resolve_right (fun h => by omega)
    rw [FX1_fewestParts_6, FX12_cover_29, if_pos (show (256 : Int32) ≤ nI 256 by decide), if_pos (show (256 : Int32) ≤ nI 256 by decide), if_neg (nn_0 (by omega))]
    refine ⟨b, hb, rfl, ?_⟩
    by_cases h0 : y = 0
    · subst h0
      rw [if_neg (show ¬ nI 0 = (1 : Int32) by decide), M_bits (by omega), bdI_s, if_pos rfl]
    · obtain rfl : y = 1 := by omega
      rw [if_pos (show nI 1 = (1 : Int32) from rfl), if_neg h0]
  | succ n ih =>
    intro k f b bM hb hM hk hf
    obtain ⟨f, rfl⟩ : ∃ z, f = z + 1 := ⟨f - 1, by omega⟩
    have hk6 : k < 256 := by omega
    have h6 : ¬ (256 : Int32) ≤ nI k := nI_ge (b := 256) (by omega) (by omega)
    have c1 := cntN_le k 10
    have c2 := cntN_le b 10
    have mk := X_isMetBy (mt := mt) (G := G) (q := qF (Ls 0) G) (nm := nm) (σ := σa) hk6 h45
    have im := M_isIn (x := k) Q h38
    have hX : FX1_fewestParts_6 (f + 1) (nI b) (nI k) σa = if cntN b 10 ≤ cntN k 10 then FX1_fewestParts_6 f (nI b) (nI (k + 1)) σa else if metB (qF (Ls 0) G) G mt nm k = true then FX1_fewestParts_6 f (nI k) (nI (k + 1)) σa else FX1_fewestParts_6 f (nI b) (nI (k + 1)) σa := by
      rw [FX1_fewestParts_6, if_neg h6, X_bitCount (by omega), bdI_s, X_bitCount (by omega), bdI_s, nI_1, mk, bdI_s]
      by_cases hc : cntN b 10 ≤ cntN k 10
      · rw [if_pos (nI_le hc (by omega)), if_pos hc]
      · rw [if_neg (nI_ge (by omega) (by omega)), if_neg hc]
        by_cases hm : metB (qF (Ls 0) G) G mt nm k = true
        · rw [hm, bI_t, if_neg one_ne, if_pos rfl]
        · rw [show metB (qF (Ls 0) G) G mt nm k = false by simpa using hm, bI_f, if_pos rfl, if_neg (by decide)]
    have e53 : ∀ bM : Int32, FX12_cover_53 (FX12_cover_29 f) x1 (nI y) bM (nI k) σb = if metB (qF (Ls 0) G) G mt nm k = true then FX12_cover_29 f x1 (nI y) (nI k) (nI (k + 1)) σb else FX12_cover_29 f x1 (nI y) bM (nI (k + 1)) σb := by
      intro bM
      unfold FX12_cover_53
      rw [im, bdI_s, nI_1]
      by_cases hm : metB (qF (Ls 0) G) G mt nm k = true
      · rw [hm, bI_t, if_neg one_ne, if_pos rfl]
      · rw [show metB (qF (Ls 0) G) G mt nm k = false by simpa using hm, bI_f, if_pos rfl, if_neg (by decide)]
    rcases hM with hM | ⟨hM, hb5, -⟩
    · have hMm : FX12_cover_29 (f + 1) x1 (nI y) bM (nI k) σb = if cntN b 10 ≤ cntN k 10 then FX12_cover_29 f x1 (nI y) (nI b) (nI (k + 1)) σb else if metB (qF (Ls 0) G) G mt nm k = true then FX12_cover_29 f x1 (nI y) (nI k) (nI (k + 1)) σb else FX12_cover_29 f x1 (nI y) (nI b) (nI (k + 1)) σb := by
        rw [FX12_cover_29, if_neg h6, hM, if_neg (nn_0 (by omega)), M_bits (by omega), bdI_s, M_bits (by omega), bdI_s, e53, nI_1]
        by_cases hc : cntN b 10 ≤ cntN k 10
        · rw [if_pos (nI_le hc (by omega)), if_pos hc]
        · rw [if_neg (nI_ge (by omega) (by omega)), if_neg hc]
      rw [hX, hMm]
      by_cases hc : cntN b 10 ≤ cntN k 10
      · rw [if_pos hc, if_pos hc]
        exact ih (k + 1) f b _ hb (Or.inl rfl) (by omega) (by omega)
      · rw [if_neg hc, if_neg hc]
        by_cases hm : metB (qF (Ls 0) G) G mt nm k = true
        · rw [if_pos hm, if_pos hm]
          exact ih (k + 1) f k _ hk6 (Or.inl rfl) (by omega) (by omega)
        · rw [if_neg hm, if_neg hm]
          exact ih (k + 1) f b _ hb (Or.inl rfl) (by omega) (by omega)
    · subst hb5
      rw [hX, FX12_cover_29, if_neg h6, hM, if_pos (show (-2 : Int32) < 0 by decide), e53]
      by_cases hk5 : k = 255
      · subst hk5
        rw [if_pos (Nat.le_refl _), if_pos h255]
        exact ih (255 + 1) f 255 _ (by omega) (Or.inl rfl) (by omega) (by omega)
      · rw [if_neg (by have := cnt_255 k (by omega); omega)]
        by_cases hm : metB (qF (Ls 0) G) G mt nm k = true
        · rw [if_pos hm, if_pos hm]
          exact ih (k + 1) f k _ hk6 (Or.inl rfl) (by omega) (by omega)
        · rw [if_neg hm, if_neg hm]
          exact ih (k + 1) f 255 _ (by omega) (Or.inr ⟨rfl, rfl, by omega⟩) (by omega) (by omega)
theorem sT_25 : St_25 Rel := by
  intro n σX σM hn hR x1 x2
  obtain ⟨side, nm, nf, z, l, sd, Ls, t, r, v, p, s, w, e, pl, ky⟩ := id hR
  obtain ⟨hT, hsd, hM, hzl, hsM⟩ := t
  have hnm := hT.1
  have hnf := hT.2.1
  have h30 := hT.2.2.1
  have h31 := hT.2.2.2.1
  rcases rngT x1 5 (by omega) with ⟨mt, hmt, rfl⟩ | ho
  · have XJ := X_isMatter_i hmt (σ := σX)
    have MJ := M_isMatter_i hmt (σ := σM)
    rcases rngT x2 1 (by omega) with ⟨y, hy, rfl⟩ | ho
    · have XI : FX11_within (nI y) 0 1 σX = some (1, σX) := X_wi_i (n := 1) (by omega) hy
      have MI : FX12_in (nI y) 0 1 σM = some (1, σM) := M_in_i (n := 1) (by omega) hy
      obtain ⟨σb, hb, kb, Qb, -⟩ := M_copiesFalls hM
      have p2 := p2_lt hnm
      obtain ⟨σc, hc, kc, hitc⟩ := M_fillsHits_6 (mt := mt) (2 ^ nm) 0 fu σb Qb (fun j hj => by omega) (by omega) (by show 2 ^ nm < 5000; omega)
      have Qc := MQs_kM kc s_38 (by decide) (by decide) (by decide) (by decide) (by decide) (by decide) Qb
      have kbc : qM σM σc := kM.tr (kb.up (by decide) (by decide)) (kc.up (by decide) (by decide))
      have em := X_matters hT r v.2.1 nm 0 fu (by omega) (by show nm < 5000; omega)
      have ml := mtN_lt (G := σM.1 31) v.2.1 nm (Nat.le_refl _)
      have mb := mtN_bit (G := σM.1 31) hmt v.2.1 nm (Nat.le_refl _)
      have eb := bit_at mt (by omega) (mtN (σM.1 31) nm) (by omega)
      by_cases hex : ∃ j, j < nm ∧ σM.1 31 j = nI mt
      · obtain ⟨j, hj, ej⟩ := id hex
        obtain ⟨σa, ha, ka, sa⟩ := X_look_2 (mt := mt) 256 0 fu σX hT r (fun p hp => by omega) (by omega) (by show 256 < 5000; omega)
        obtain ⟨c, hc6, h1, h2⟩ := cover_go (nI mt) hy Qc hitc sa (met_255 hj ej) 256 0 fu 255 (-2) (by omega) (Or.inr ⟨rfl, rfl, by omega⟩) (by omega) (by show 256 < 5000; omega)
        refine ⟨if y = 0 then nI (cntN c 10) else nI c, σa, σc, ?_, ?_, Rel_q hR (qX.of ka (by decide)) kbc⟩
        · have e1 : FX11_mattersThereAre σX = some (nI (mtN (σM.1 31) nm), σX) := em
          have e2 : FX1_look (nI mt) σX = some σa := ha
          have e3 : FX1_fewestParts σa = some (nI c, σa) := h1
          unfold FX11_cover
          rw [XJ, bdI_s, if_neg one_ne, XI, bdI_s, if_neg one_ne, e1, bdI_s, eb, mb.mpr hex, if_neg (show ¬ nI 1 = (0 : Int32) by decide), e2, bdV_s, e3, bdI_s, X_bitCount (by omega), bdI_s]
          by_cases h0 : y = 0
          · subst h0; rw [if_pos (show nI 0 = (0 : Int32) from rfl), if_pos rfl]
          · rw [if_neg (show ¬ nI y = (0 : Int32) from fun e => h0 ((nI_eq (b := 0) (by omega) (by omega)).mp e)), if_neg h0]
        · have e2 : FX12_fillsHits (nI mt) σM = some σc := by
            unfold FX12_fillsHits
            rw [hb, bdV_s]; exact hc
          unfold FX12_cover
          rw [MJ, bdI_s, if_neg one_ne, MI, bdI_s, if_neg one_ne, e2, bdV_s]
          exact h2
      · have hno : ∀ j, j < nm → ¬ σM.1 31 j = nI mt := fun j hj ej => hex ⟨j, hj, ej⟩
        have hb0 : mtN (σM.1 31) nm / 2 ^ mt % 2 = 0 := by
          by_cases h1 : mtN (σM.1 31) nm / 2 ^ mt % 2 = 1
          · exact absurd (mb.mp h1) hex
          · omega
        refine ⟨-2, σX, σc, ?_, ?_, Rel_q hR qX.rf kbc⟩
        · have e1 : FX11_mattersThereAre σX = some (nI (mtN (σM.1 31) nm), σX) := em
          unfold FX11_cover
          rw [XJ, bdI_s, if_neg one_ne, XI, bdI_s, if_neg one_ne, e1, bdI_s, eb, hb0, if_pos (show nI 0 = (0 : Int32) from rfl)]
        · have e2 : FX12_fillsHits (nI mt) σM = some σc := by
            unfold FX12_fillsHits
            rw [hb, bdV_s]; exact hc
          unfold FX12_cover
          rw [MJ, bdI_s, if_neg one_ne, MI, bdI_s, if_neg one_ne, e2, bdV_s]
          exact cover_no (nI mt) (nI y) Qc hitc hno 256 0 fu (by omega) (by show 256 < 5000; omega)
    · exact ⟨-1, σX, σM, by simp only [FX11_cover, XJ, show FX11_within x2 0 1 σX = some (0, σX) from X_wi_o ho, bdI_s, one_ne, if_false, if_true], by simp only [FX12_cover, MJ, show FX12_in x2 0 1 σM = some (0, σM) from M_in_o ho, bdI_s, one_ne, if_false, if_true], Rel_q hR qX.rf kM.rf⟩
  · exact ⟨-1, σX, σM, by simp only [FX11_cover, X_isMatter_o ho, bdI_s, if_true], by simp only [FX12_cover, M_isMatter_o ho, bdI_s, if_true], Rel_q hR qX.rf kM.rf⟩
