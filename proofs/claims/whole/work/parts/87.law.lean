/-! A law: class and reference. -/
def SY (K P V W : Nat → Nat) (N a : Nat) (σX σM : HS) : Prop := TX_ σX K P V W N ∧ TM_ σM K P V W N ∧ a ≤ N ∧ σX.1 2 8 = nI a ∧ σX.1 2 11 = 0 ∧ σM.1 0 11 = nI a ∧ σM.1 0 12 = nI 0 ∧ σM.1 0 13 = 0
/-- both fail at a -/
def BF (σX σM σX' σM' : HS) : Prop := ∃ ft fp, σX' = pI (pI σX 2 11 (nI ft)) 2 1 (nI fp) ∧ σM' = pI (pI σM 0 13 (nI ft)) 0 14 (nI fp) ∧ FL σM' ft fp
theorem tk_SY {K P V W : Nat → Nat} {N a : Nat} {σX σM : HS} (hS : TS K P V N) (h : SY K P V W N a σX σM) (h4 : a < 400) (h0 : K a ≠ 0) (h3 : K a ≠ 3) : SY K P V W N (a + 1) (tkS σX P a) (pI σM 0 11 (nI (a + 1))) := by
  obtain ⟨h1, h2, ha, x8, x11, m11, m12, m13⟩ := h
  have := lt_N hS ha h4 h0 h3
  exact ⟨TX_f tk_f (fun j => by unfold okT; omega) (fun j => by unfold okT; omega) (fun j => by unfold olX; omega) h1, TM_f (ok := fun h j => h = 0 ∧ j = 11) (okl := olM) (FR.rf.p ⟨rfl, rfl⟩) (fun j => by omega) (fun j => by omega) (fun j => by omega) (fun j => by unfold olM; exact id) h2, by omega, tk_8, by rw [tk_f.1 2 11 (by unfold okT; omega)]; exact x11, by rw [pI_s, pk_us], by rw [pI_s, pk_un (by omega)]; exact m12, by rw [pI_s, pk_un (by omega)]; exact m13⟩
theorem SY_must {K P V W : Nat → Nat} {N a k : Nat} {σX σM : HS} (hS : TS K P V N) (h : SY K P V W N a σX σM) (hk : vk k) (h0 : k ≠ 0) (h3 : k ≠ 3) : (K a = k ∧ FX5_take (nI (xkN k)) σX = some (1, tkS σX P a) ∧ FX12_must (nI k) σM = some (pI σM 0 11 (nI (a + 1))) ∧ SY K P V W N (a + 1) (tkS σX P a) (pI σM 0 11 (nI (a + 1)))) ∨ ∃ σX' σM', FX5_take (nI (xkN k)) σX = some (0, σX') ∧ FX12_must (nI k) σM = some σM' ∧ BF σX σM σX' σM' := by
  obtain ⟨h1, h2, ha, x8, x11, m11, m12, m13⟩ := id h
  have hN := hS.1
  rw [X_take hS h1 x8 ha hk, M_must hS h2 m11 m13 ha (vk_lt hk)]
  by_cases hK : K a = k
  · rw [if_pos hK, if_pos hK]
    by_cases h4 : a < 400
    · rw [if_pos h4, if_pos h4]
      exact Or.inl ⟨hK, rfl, rfl, tk_SY hS h h4 (by omega) (by omega)⟩
    · rw [if_neg h4, if_neg h4]
      exact Or.inr ⟨_, _, rfl, rfl, 2, P a, rfl, rfl, FLs 2 (Or.inr rfl) (by omega) m11⟩
  · rw [if_neg hK, if_neg hK]
    exact Or.inr ⟨_, _, rfl, rfl, 1, P a, rfl, rfl, FLs 1 (Or.inl rfl) (by omega) m11⟩
theorem SY_go {K P V W : Nat → Nat} {N a : Nat} {σX σM : HS} (hS : TS K P V N) (h : SY K P V W N a σX σM) (h0 : K a ≠ 0) (h3 : K a ≠ 3) : (a < 400 ∧ FX5_take (nI (xkN (K a))) σX = some (1, tkS σX P a) ∧ FX12_goesOn σM = some (pI σM 0 11 (nI (a + 1))) ∧ SY K P V W N (a + 1) (tkS σX P a) (pI σM 0 11 (nI (a + 1)))) ∨ ∃ σX' σM', FX5_take (nI (xkN (K a))) σX = some (0, σX') ∧ FX12_goesOn σM = some σM' ∧ BF σX σM σX' σM' := by
  obtain ⟨h1, h2, ha, x8, x11, m11, m12, m13⟩ := id h
  have hN := hS.1
  rw [X_take hS h1 x8 ha (hS.2.1 a ha).1, M_goesOn hS h2 m11 m13 ha, if_pos rfl]
  by_cases h4 : a < 400
  · rw [if_pos h4, if_pos h4]
    exact Or.inl ⟨h4, rfl, rfl, tk_SY hS h h4 h0 h3⟩
  · rw [if_neg h4, if_neg h4]
    exact Or.inr ⟨_, _, rfl, rfl, 2, P a, rfl, rfl, FLs 2 (Or.inr rfl) (by omega) m11⟩
theorem BF_X {σX σM σX' σM' : HS} (h : BF σX σM σX' σM') {c : Nat} : FR (okX c) olX σX σX' := by
  obtain ⟨ft, fp, rfl, -⟩ := h
  exact (FR.rf.p (by unfold okX; omega)).p (by unfold okX; omega)
def okBF (h j : Nat) : Prop := h = 0 ∧ (j = 13 ∨ j = 14)
theorem BF_M {σX σM σX' σM' : HS} (h : BF σX σM σX' σM') : FR okBF olM σM σM' := by
  obtain ⟨ft, fp, -, rfl, -⟩ := h
  exact (FR.rf.p ⟨rfl, Or.inl rfl⟩).p ⟨rfl, Or.inr rfl⟩
/-- what a law may change on the reference's side -/
def okL (s k cm br h j : Nat) : Prop := (h = 0 ∧ (j = 11 ∨ j = 12 ∨ j = 13 ∨ j = 14 ∨ j = 33 ∨ j = 39 ∨ j = 43)) ∨ h = 28 ∨ ((h = 26 ∨ h = 27) ∧ cm ≤ j ∧ j < 420 * s + 420) ∨ (21 ≤ h ∧ h ≤ 25 ∧ br ≤ j ∧ j < 130 * s + 130) ∨ ((h = 19 ∨ h = 20) ∧ j = 4 * s + k)
theorem okM_L {s k cm cm' br : Nat} (hc : cm ≤ cm') : ∀ h j, okM cm' (420 * s + 420) h j → okL s k cm br h j := by intro h j; unfold okM okL; omega
theorem okL_L {s k cm cm' br br' : Nat} (hc : cm ≤ cm') (hb : br ≤ br') : ∀ h j, okL s k cm' br' h j → okL s k cm br h j := by intro h j; unfold okL; omega
theorem okB_L {s k cm br : Nat} : ∀ h j, okBF h j → okL s k cm br h j := by intro h j; unfold okBF okL; omega
theorem TM_l {s k cm br : Nat} {σ σ' : HS} {K P V W : Nat → Nat} {N : Nat} (f : FR (okL s k cm br) olM σ σ') (h : TM_ σ K P V W N) : TM_ σ' K P V W N := TM_f f (fun j => by unfold okL; omega) (fun j => by unfold okL; omega) (fun j => by unfold okL; omega) (fun j => by unfold olM; exact id) h
/-! the reference in a law, once it has failed -/
theorem M_exprF {σ : HS} {ft fp : Nat} (h : FL σ ft fp) : FX12_expression σ = some (pI σ 0 43 0) := by
  have L0 : FL (pI σ 0 43 0) ft fp := by
    obtain ⟨a1, a2, a3, t, ht, a4⟩ := h
    exact ⟨a1, by rw [pI_s, pk_un (by omega)]; exact a2, by rw [pI_s, pk_un (by omega)]; exact a3, t, ht, by rw [pI_s, pk_un (by omega)]; exact a4⟩
  unfold FX12_expression
  simp only [hl_]
  rw [show fu = 4999 + 1 from rfl, M_12F _ L0]
theorem M_termF {σ : HS} {ft fp s k cm br b : Nat} (hs : s < 2) (h : FL σ ft fp) (h33 : σ.1 0 33 = nI b) (hb : br ≤ b) (hb2 : b < 130 * s + 130) : ∃ σ', FX12_term σ = some σ' ∧ FR (okL s k cm br) olM σ σ' ∧ FL σ' ft fp ∧ σ'.1 0 33 = nI (b + 1) := by
  have i1 : ix (nI b) 260 = true := ix_nI (by omega) (by omega)
  obtain ⟨σ1, hσ1⟩ : ∃ σ1, σ1 = pI σ 24 b (σ.1 0 39) := ⟨_, rfl⟩
  have L1 : FL σ1 ft fp := FL_f (ok := fun h _ => h = 24) (okl := olM) (by rw [hσ1]; exact FR.rf.p rfl) (by omega) (by omega) (by omega) h
  refine ⟨pI (pI σ1 25 b (σ1.1 0 39)) 0 33 (nI (b + 1)), ?_, ?_, ?_, by rw [pI_s, pk_us]⟩
  · unfold FX12_term FX12_term_24
    rw [h33, gd_t i1]
    simp only [hl_]
    rw [cl_nI (by omega), ← hσ1, if_neg (nz13 L1).1, show σ1.1 0 33 = nI b by rw [hσ1, pI_o (by omega)]; exact h33, gd_t i1, cl_nI (by omega), pI_o (show 0 ≠ 25 by omega), show σ1.1 0 33 = nI b by rw [hσ1, pI_o (by omega)]; exact h33, nI_1]
  · rw [hσ1]; exact ((FR.rf.p (by unfold okL; omega)).p (by unfold okL; omega)).p (by unfold okL; omega)
  · exact FL_f (ok := fun h j => h = 25 ∨ (h = 0 ∧ j = 33)) (okl := olM) ((FR.rf.p (Or.inl rfl)).p (Or.inr ⟨rfl, rfl⟩)) (by omega) (by omega) (by omega) L1
theorem M_tl129F {σ : HS} {ft fp s k cm br b : Nat} (x1 x2 x3 : Int32) (hs : s < 2) (h : FL σ ft fp) (h33 : σ.1 0 33 = nI b) (hb : br ≤ b) (hb2 : b < 130 * s + 130) : ∃ σ', FX12_tellLaw_129 x1 x2 x3 σ = some σ' ∧ FR (okL s k cm br) olM σ σ' ∧ FL σ' ft fp := by
  have i1 : ix (nI b) 260 = true := ix_nI (by omega) (by omega)
  obtain ⟨σ1, hσ1⟩ : ∃ σ1, σ1 = pI σ 21 b 0 := ⟨_, rfl⟩
  have L1 : FL σ1 ft fp := FL_f (ok := fun h _ => h = 21) (okl := olM) (by rw [hσ1]; exact FR.rf.p rfl) (by omega) (by omega) (by omega) h
  obtain ⟨σ2, e2, f2, L2, -⟩ := M_termF (k := k) (cm := cm) (br := br) (b := b) hs L1 (by rw [hσ1, pI_o (by omega)]; exact h33) hb hb2
  refine ⟨σ2, ?_, FR.tr (by rw [hσ1]; exact FR.rf.p (by unfold okL; omega)) f2, L2⟩
  unfold FX12_tellLaw_129
  rw [h33, gd_t i1]
  simp only [hl_]
  rw [cl_nI (by omega), show vp_nar .boolean (0 : Int32) = 0 from rfl, ← hσ1, e2, bdV_s, M_mustF _ L2.2.1 L2.1, bdV_s, if_neg (nz13 L2).2]
theorem M_tl12F {σ : HS} {ft fp s k cm br b f : Nat} (x1 x2 x3 : Int32) (hs : s < 2) (h : FL σ ft fp) (h33 : σ.1 0 33 = nI b) (hb : br ≤ b) (hb2 : b < 130 * s + 130) : ∃ σ', FX12_tellLaw_12 (f + 1) x1 x2 x3 σ = some σ' ∧ FR (okL s k cm br) olM σ σ' ∧ FL σ' ft fp := by
  rw [FX12_tellLaw_12, if_neg (nz13 h).1]
  exact M_tl129F x1 x2 x3 hs h h33 hb hb2
theorem M_tl110F {σ : HS} {ft fp s k cm br b f : Nat} (x1 x2 x3 : Int32) (hs : s < 2) (h : FL σ ft fp) (h33 : σ.1 0 33 = nI b) (hb : br ≤ b) (hb2 : b + 1 < 130 * s + 130) : ∃ σ', FX12_tellLaw_110 (FX12_tellLaw_12 (f + 1)) x1 x2 x3 σ = some σ' ∧ FR (okL s k cm br) olM σ σ' ∧ FL σ' ft fp := by
  obtain ⟨σ2, e2, f2, L2, h2⟩ := M_termF (k := k) (cm := cm) (br := br) (b := b) hs h h33 hb (by omega)
  obtain ⟨σ3, e3, f3, L3⟩ := M_tl12F (k := k) (cm := cm) (br := br) (b := b + 1) (f := f) x1 x2 x3 hs L2 h2 (by omega) hb2
  refine ⟨σ3, ?_, f2.tr f3, L3⟩
  unfold FX12_tellLaw_110
  rw [M_mustF _ h.2.1 h.1, bdV_s, e2, bdV_s, M_mustF _ L2.2.1 L2.1, bdV_s, e3]
theorem lmE_le : ∀ (r : List (Pg × Pg × Pg)) (f : Pg) (i : Nat), i ≤ lmE r f i := by
  intro r
  induction r with
  | nil => intro f i; simp only [lmE]; omega
  | cons q r ih => obtain ⟨a, b, t⟩ := q; intro f i; simp only [lmE]; have := ih f (i + a.length + b.length + t.length); omega
/-- what comes of a law -/
def LO (N a0 s k first cx cm br n : Nat) (rX : Option (Int32 × HS)) (rM : Option HS) (σX σM : HS) : Prop := ∃ σX' σM', FR (okX cx) olX σX σX' ∧ FR (okL s k cm br) olM σM σM' ∧ rM = some σM' ∧ ((∃ (a' : Nat) (r : List (Pg × Pg × Pg)) (f : Pg) (cx' br' : Nat), rX = some (1, σX') ∧ a' ≤ N ∧ a0 ≤ a' ∧ (σX'.1 2 8 = nI a' ∧ σX'.1 2 11 = 0 ∧ σX'.1 12 5 = nI cx' ∧ LawX (σX'.1 34) (σX'.1 35) cx' r f cx) ∧ (σM'.1 0 11 = nI a' ∧ σM'.1 0 12 = nI 0 ∧ σM'.1 0 13 = 0 ∧ σM'.1 0 39 = nI (lmE r f cm) ∧ σM'.1 0 33 = nI br' ∧ LawM σM' r f br br' cm ∧ σM'.1 19 (4 * s + k) = nI first ∧ σM'.1 20 (4 * s + k) = nI br') ∧ r.length ≤ n ∧ br < br' ∧ cx' ≤ 8 + a' ∧ lmE r f cm ≤ 420 * s + a' ∧ 4 * br' ≤ 520 * s + a') ∨ ∃ ft fp, rX = some (0, σX') ∧ σX'.1 2 11 = nI ft ∧ σX'.1 2 1 = nI fp ∧ FL σM' ft fp)
theorem LO_tr {N a0 s k first cx cm br n : Nat} {rX : Option (Int32 × HS)} {rM : Option HS} {σX σM σX' σM' : HS} (f1 : FR (okX cx) olX σX σX') (f2 : FR (okL s k cm br) olM σM σM') (h : LO N a0 s k first cx cm br n rX rM σX' σM') : LO N a0 s k first cx cm br n rX rM σX σM := by
  obtain ⟨a1, a2, g1, g2, g3⟩ := h
  exact ⟨a1, a2, f1.tr g1, f2.tr g2, g3⟩
theorem LO_f {N a0 s k first cx cm br n ft fp : Nat} {rM : Option HS} {σX σM σX' σM' : HS} (f1 : FR (okX cx) olX σX σX') (f2 : FR (okL s k cm br) olM σM σM') (h : rM = some σM') (h1 : σX'.1 2 11 = nI ft) (h2 : σX'.1 2 1 = nI fp) (hL : FL σM' ft fp) : LO N a0 s k first cx cm br n (some (0, σX')) rM σX σM := ⟨σX', σM', f1, f2, h, Or.inr ⟨ft, fp, rfl, h1, h2, hL⟩⟩
theorem BF_2 {σX σM σX' σM' : HS} (h : BF σX σM σX' σM') : ∃ ft fp, σX'.1 2 11 = nI ft ∧ σX'.1 2 1 = nI fp ∧ FL σM' ft fp := by
  obtain ⟨ft, fp, rfl, rfl, L⟩ := h
  exact ⟨ft, fp, by rw [pI_s, pk_un (by omega), pI_s, pk_us], by rw [pI_s, pk_us], L⟩
theorem LawX_eq {ops num ops' num' : Nat → Int32} {C : Nat} : ∀ (r : List (Pg × Pg × Pg)) (f : Pg) (i : Nat), (∀ j, i ≤ j → j < C → ops' j = ops j ∧ num' j = num j) → LawX ops num C r f i → LawX ops' num' C r f i := by
  intro r
  induction r with
  | nil =>
    intro f i h hl
    simp only [LawX] at hl ⊢
    exact ⟨XM_eq f i (fun j h1 h2 => h j h1 (by omega)) hl.1, hl.2.1, by rw [(h _ (by omega) hl.2.2.2).1]; exact hl.2.2.1, hl.2.2.2⟩
  | cons q r ih =>
    obtain ⟨a, b, t⟩ := q
    intro f i h hl
    simp only [LawX] at hl ⊢
    obtain ⟨⟨l1, l2, l3, l4, l5, l6⟩, l7, l8, l9⟩ := hl
    have hlt := LawX_lt r f _ l9
    refine ⟨⟨XM_eq a i (fun j h1 h2 => h j h1 (by omega)) l1, XM_eq b _ (fun j h1 h2 => h j (by omega) (by omega)) l2, ?_, ?_, XM_eq t _ (fun j h1 h2 => h j (by omega) (by omega)) l5, ?_⟩, l7, l8, ih f _ (fun j h1 h2 => h j (by omega) h2) l9⟩
    · rw [(h _ (by omega) (by omega)).1]; exact l3
    · rw [(h _ (by omega) (by omega)).2]; exact l4
    · rw [(h _ (by omega) (by omega)).1]; exact l6
theorem LawX_up {ops num : Nat → Int32} {C C' : Nat} (hC : C ≤ C') : ∀ (r : List (Pg × Pg × Pg)) (f : Pg) (i : Nat), LawX ops num C r f i → LawX ops num C' r f i := by
  intro r
  induction r with
  | nil => intro f i hl; simp only [LawX] at hl ⊢; exact ⟨hl.1, hl.2.1, hl.2.2.1, by omega⟩
  | cons q r ih =>
    obtain ⟨a, b, t⟩ := q
    intro f i hl
    simp only [LawX] at hl ⊢
    exact ⟨hl.1, hl.2.1, by omega, ih f _ hl.2.2.2⟩
theorem LawM_eq {σ σ' : HS} : ∀ (r : List (Pg × Pg × Pg)) (f : Pg) (b e i : Nat), (∀ h j, 21 ≤ h → h ≤ 25 → b ≤ j → j < e → σ'.1 h j = σ.1 h j) → (∀ j, i ≤ j → j < lmE r f i → σ'.1 26 j = σ.1 26 j ∧ σ'.1 27 j = σ.1 27 j) → LawM σ r f b e i → LawM σ' r f b e i := by
  intro r
  induction r with
  | nil =>
    intro f b e i h1 h2 hl
    simp only [LawM, lmE] at hl h2 ⊢
    obtain ⟨l1, l2, l3, l4, l5, l6, l7, l8⟩ := hl
    exact ⟨l1, l2, by rw [h1 21 b (by omega) (by omega) (by omega) (by omega)]; exact l3, by rw [h1 24 b (by omega) (by omega) (by omega) (by omega)]; exact l4, by rw [h1 25 b (by omega) (by omega) (by omega) (by omega)]; exact l5, LM_eq f i h2 l6, l7, l8⟩
  | cons q r ih =>
    obtain ⟨a, c, t⟩ := q
    intro f b e i h1 h2 hl
    simp only [LawM, lmE] at hl h2 ⊢
    obtain ⟨⟨l1, l2, l3, l4, l5, l6, l7⟩, ⟨l8, l9, l10⟩, l11, l12, l13⟩ := hl
    have hle := lmE_le r f (i + a.length + c.length + t.length)
    exact ⟨⟨l1, l2, by rw [h1 21 b (by omega) (by omega) (by omega) (by omega)]; exact l3, by rw [h1 22 b (by omega) (by omega) (by omega) (by omega)]; exact l4, by rw [h1 23 b (by omega) (by omega) (by omega) (by omega)]; exact l5, by rw [h1 24 b (by omega) (by omega) (by omega) (by omega)]; exact l6, by rw [h1 25 b (by omega) (by omega) (by omega) (by omega)]; exact l7⟩, ⟨LM_eq a i (fun j q1 q2 => h2 j q1 (by omega)) l8, LM_eq c _ (fun j q1 q2 => h2 j (by omega) (by omega)) l9, LM_eq t _ (fun j q1 q2 => h2 j (by omega) (by omega)) l10⟩, l11, l12, ih f (b + 1) e _ (fun h j q1 q2 q3 q4 => h1 h j q1 q2 (by omega) q4) (fun j q1 q2 => h2 j (by omega) q2) l13⟩
