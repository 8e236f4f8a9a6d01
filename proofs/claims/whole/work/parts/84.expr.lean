/-! An E: class and reference. -/
def g1I (x : Int32) : Int32 := if x = 40 then 1 else if x = 23 then 1 else if x < 13 then 0 else if 21 < x then 0 else 1
theorem X_goes1 (x : Int32) (σ : HS) : FX5_goesOnSum x 1 σ = some (g1I x, σ) := by
  unfold FX5_goesOnSum FX5_isVar g1I
  rw [if_neg one_ne]
  by_cases h1 : x = 40
  · rw [if_pos h1, if_pos h1]
  rw [if_neg h1, if_neg h1]
  by_cases h2 : x = 23
  · rw [if_pos h2, if_pos h2]
  rw [if_neg h2, if_neg h2]
  by_cases h3 : x < 13
  · rw [if_pos h3, if_pos h3, bdI_s, if_pos rfl]
  rw [if_neg h3, if_neg h3]
  by_cases h4 : 21 < x
  · rw [if_pos h4, if_pos h4, bdI_s, if_pos rfl]
  rw [if_neg h4, if_neg h4, bdI_s, if_neg one_ne]
theorem g1_k : ∀ k, k < 42 → g1I (nI (xkN k)) = bI (decide (k = 6 ∨ k = 2 ∨ 33 ≤ k)) := by decide +kernel
def rkK (k : Nat) : Nat := if k = 8 ∨ k = 9 then 1 else if k = 10 ∨ k = 15 then 2 else 0
theorem rk_k : ∀ k, k < 42 → rkI (nI (xkN k)) = nI (rkK k) := by decide +kernel
theorem X_goes0 {σ : HS} {k o : Nat} (hk : vk k) (h7 : σ.1 2 7 = nI o) (ho : o ≤ 6) : FX5_goesOnSum (nI (xkN k)) 0 σ = some (bI (decide (0 < rkK k ∨ (k = 7 ∧ 0 < o))), σ) := by
  have hl := vk_lt hk
  have hx := vk_x hk
  unfold FX5_goesOnSum
  rw [if_pos rfl, X_rankOf, bdI_s, rk_k k hl]
  by_cases hr : 0 < rkK k
  · have : rkK k ≤ 2 := by unfold rkK; (repeat' split) <;> omega
    rw [if_pos (show (0 : Int32) < nI (rkK k) from nI_lt (a := 0) hr (by omega)), show decide (0 < rkK k ∨ (k = 7 ∧ 0 < o)) = true from decide_eq_true (Or.inl hr)]; rfl
  · rw [if_neg (show ¬ (0 : Int32) < nI (rkK k) by rw [show rkK k = 0 by omega]; decide)]
    by_cases h7' : k = 7
    · rw [if_pos (show nI (xkN k) = (41 : Int32) by rw [h7']; rfl), h7]
      by_cases h0 : 0 < o
      · rw [if_neg (show ¬ nI o ≤ (0 : Int32) from nI_ge (a := 0) h0 (by omega)), show decide (0 < rkK k ∨ (k = 7 ∧ 0 < o)) = true from decide_eq_true (Or.inr ⟨h7', h0⟩)]; rfl
      · rw [if_pos (show nI o ≤ (0 : Int32) from nI_le (b := 0) (by omega) (by omega)), show decide (0 < rkK k ∨ (k = 7 ∧ 0 < o)) = false from decide_eq_false (by omega)]; rfl
    · rw [if_neg (show ¬ nI (xkN k) = (41 : Int32) from fun e => h7' ((xk_eq hk (show vk 7 by unfold vk; omega)).mp e)), show decide (0 < rkK k ∨ (k = 7 ∧ 0 < o)) = false from decide_eq_false (by omega)]; rfl
theorem FL_f {ok okl : Nat → Nat → Prop} {σ σ' : HS} {ft fp : Nat} (f : FR ok okl σ σ') (h11 : ¬ ok 0 11) (h13 : ¬ ok 0 13) (h14 : ¬ ok 0 14) (h : FL σ ft fp) : FL σ' ft fp := by
  obtain ⟨a1, a2, a3, t, ht, a4⟩ := h
  exact ⟨a1, by rw [f.1 0 13 h13]; exact a2, by rw [f.1 0 14 h14]; exact a3, t, ht, by rw [f.1 0 11 h11]; exact a4⟩
theorem nz13 {σ : HS} {ft fp : Nat} (h : FL σ ft fp) : ¬ σ.1 0 13 = 0 ∧ ¬ σ.1 0 13 ≤ 0 := by
  obtain ⟨h1, h2, -⟩ := h
  rw [h2]
  exact ⟨ne_I (b := 0) (by omega) (by omega) (by omega), nI_ge (a := 0) (by omega) (by omega)⟩
theorem M_unitF {σ : HS} {ft fp : Nat} (h : FL σ ft fp) : FX12_unit σ = some σ := by
  unfold FX12_unit FX12_unit_88
  rw [M_isF 2 h.2.1 h.1, bdI_s, if_pos rfl, if_neg (nz13 h).1, M_failF 1 h.2.1 h.1, bdV_s]
theorem M_23F {σ : HS} {ft fp f : Nat} {k12 : Int32 → Int32 → HS → Option HS} (x1 x2 : Int32) (h : FL σ ft fp) : FX12_expression_23 k12 (f + 1) x1 x2 σ = some σ := by
  rw [FX12_expression_23, M_isF 6 h.2.1 h.1, bdI_s, if_pos rfl, M_unitF h, bdV_s, if_neg (nz13 h).2]
theorem M_12F {σ : HS} {ft fp g : Nat} (x1 : Int32) (h : FL σ ft fp) : FX12_expression_12 (g + 1) x1 1 σ = some σ := by
  rw [FX12_expression_12, if_neg one_ne, if_neg (nz13 h).1]
theorem M_96F {σ : HS} {ft fp f c e q : Nat} {w : List Nat} {p : Pg} {k12 : Int32 → Int32 → HS → Option HS} (x1 x2 : Int32) (he : e ≤ 840) (hq : okR w q) (hP : PMw σ w p c) (hb : c + p.length + opN w ≤ e) (hl : w.length ≤ 60) (h : FL σ ft fp) : ∃ σ', FX12_expression_96 k12 (f + 1) x1 x2 σ = some σ' ∧ FR (okQ c e) olM σ σ' ∧ FL σ' ft fp := by
  obtain ⟨σ', e1, f1, -⟩ := M_comes he (Or.inl ⟨rfl, rfl⟩) w p fu q σ hq hP hb hl (by show w.length < 5000; omega)
  refine ⟨σ', ?_, f1, FL_f f1 (by unfold okQ; omega) (by unfold okQ; omega) (by unfold okQ; omega) h⟩
  have e204 : FX12_expression_204 x1 0 σ = some σ' := by
    unfold FX12_expression_204 FX12_comesOut
    rw [e1, bdV_s]
  rw [FX12_expression_96, M_isF 7 h.2.1 h.1, bdI_s, if_pos rfl]
  unfold FX12_expression_145
  rw [M_isF 8 h.2.1 h.1, bdI_s, if_pos rfl, M_isF 9 h.2.1 h.1, bdI_s, if_pos rfl, M_isF 10 h.2.1 h.1, bdI_s, if_pos rfl, M_isF 15 h.2.1 h.1, bdI_s, if_pos rfl]
  unfold FX12_expression_186
  rw [if_pos rfl, M_failF 1 h.2.1 h.1, bdV_s, ite_self]
  exact e204
/-- a bracket is taken up, in any case -/
theorem M_46 {σ : HS} {K P V W : Nat → Nat} {N a o m c e : Nat} {k12 k23 : Int32 → Int32 → HS → Option HS} (x1 x2 : Int32) (hS : TS K P V N) (hT : TM_ σ K P V W N) (ha : a ≤ N) (h11 : σ.1 0 11 = nI a) (h12 : σ.1 0 12 = nI o) (h43 : σ.1 0 43 = nI m) (h13 : σ.1 0 13 = 0) (hm : m < 64) : (a < 400 → FX12_expression_46 k12 k23 x1 x2 σ = k23 x1 x2 (pI (pI (pI (pI σ 0 12 (nI (o + 1))) 0 11 (nI (a + 1))) 28 m 6) 0 43 (nI (m + 1)))) ∧ (¬ a < 400 → ∃ σ', FX12_expression_46 k12 k23 x1 x2 σ = k23 x1 x2 σ' ∧ FR (okM c e) olM σ σ' ∧ FL σ' 2 (P a)) := by
  have f0 : FR (okM c e) olM σ (pI σ 0 12 (nI (o + 1))) := FR.rf.p (by unfold okM; omega)
  have hT0 := TM_e f0 hT
  have g := M_goesOn hS hT0 (a := a) (by rw [pI_s, pk_un (by omega)]; exact h11) (by rw [pI_s, pk_un (by omega)]; exact h13) ha
  constructor
  · intro h4
    rw [if_pos h4] at g
    unfold FX12_expression_46
    simp only [hl_]
    rw [h12, nI_1, g, bdV_s, pI_s, pk_un (by omega), pI_s, pk_un (by omega), h43, gd_t (ix_nI hm (by omega)), cl_nI (by omega), pI_o (show 0 ≠ 28 by omega), pI_s, pk_un (by omega), pI_s, pk_un (by omega), h43, nI_1]
  · intro h4
    rw [if_neg h4] at g
    refine ⟨pI (pI (pI (pI (pI σ 0 12 (nI (o + 1))) 0 13 2) 0 14 (nI (P a))) 28 m 6) 0 43 (nI (m + 1)), ?_, ((((f0.p (by unfold okM; omega)).p (by unfold okM; omega)).p (by unfold okM; omega)).p (by unfold okM; omega)), Or.inr rfl, ?_, ?_, a, by have := hS.1; omega, ?_⟩
    · unfold FX12_expression_46
      simp only [hl_]
      rw [h12, nI_1, g, bdV_s, pI_s, pk_un (by omega), pI_s, pk_un (by omega), pI_s, pk_un (by omega), h43, gd_t (ix_nI hm (by omega)), cl_nI (by omega), pI_o (show 0 ≠ 28 by omega), pI_s, pk_un (by omega), pI_s, pk_un (by omega), pI_s, pk_un (by omega), h43, nI_1]
    · rw [pI_s, pk_un (by omega), pI_o (by omega), pI_s, pk_un (by omega), pI_s, pk_us]; rfl
    · rw [pI_s, pk_un (by omega), pI_o (by omega), pI_s, pk_us]
    · rw [pI_s, pk_un (by omega), pI_o (by omega), pI_s, pk_un (by omega), pI_s, pk_un (by omega), pI_s, pk_un (by omega)]; exact h11
theorem M_46F {σ : HS} {ft fp o m c e : Nat} {k12 k23 : Int32 → Int32 → HS → Option HS} (x1 x2 : Int32) (h : FL σ ft fp) (h12 : σ.1 0 12 = nI o) (h43 : σ.1 0 43 = nI m) (hm : m < 64) : ∃ σ', FX12_expression_46 k12 k23 x1 x2 σ = k23 x1 x2 σ' ∧ FR (okM c e) olM σ σ' ∧ FL σ' ft fp := by
  have f0 : FR (okM c e) olM σ (pI σ 0 12 (nI (o + 1))) := FR.rf.p (by unfold okM; omega)
  have h0 : FL (pI σ 0 12 (nI (o + 1))) ft fp := by
    obtain ⟨a1, a2, a3, t, ht, a4⟩ := h
    exact ⟨a1, by rw [pI_s, pk_un (by omega)]; exact a2, by rw [pI_s, pk_un (by omega)]; exact a3, t, ht, by rw [pI_s, pk_un (by omega)]; exact a4⟩
  obtain ⟨τ, g, fτ, Lτ, t43⟩ : ∃ τ, FX12_goesOn (pI σ 0 12 (nI (o + 1))) = some τ ∧ FR (okM c e) olM σ τ ∧ FL τ ft fp ∧ τ.1 0 43 = nI m := by
    obtain ⟨t, ⟨ht, g⟩ | g⟩ := M_goesOnF h0
    · refine ⟨_, g, f0.p (by unfold okM; omega), ?_, by rw [pI_s, pk_un (by omega), pI_s, pk_un (by omega)]; exact h43⟩
      obtain ⟨a1, a2, a3, -⟩ := h0
      exact ⟨a1, by rw [pI_s, pk_un (by omega)]; exact a2, by rw [pI_s, pk_un (by omega)]; exact a3, t, ht, by rw [pI_s, pk_us]⟩
    · exact ⟨_, g, f0, h0, by rw [pI_s, pk_un (by omega)]; exact h43⟩
  refine ⟨pI (pI τ 28 m 6) 0 43 (nI (m + 1)), ?_, (fτ.p (by unfold okM; omega)).p (by unfold okM; omega), ?_⟩
  · unfold FX12_expression_46
    simp only [hl_]
    rw [h12, nI_1, g, bdV_s, t43, gd_t (ix_nI hm (by omega)), cl_nI (by omega), pI_o (show 0 ≠ 28 by omega), t43, nI_1]
  · obtain ⟨a1, a2, a3, t, ht, a4⟩ := Lτ
    exact ⟨a1, by rw [pI_s, pk_un (by omega), pI_o (by omega)]; exact a2, by rw [pI_s, pk_un (by omega), pI_o (by omega)]; exact a3, t, ht, by rw [pI_s, pk_un (by omega), pI_o (by omega)]; exact a4⟩
def ES (K P V W : Nat → Nat) (N cx cm a : Nat) (w : List Nat) (p : Pg) (σX σM : HS) : Prop := TX_ σX K P V W N ∧ TM_ σM K P V W N ∧ a ≤ N ∧ (PXw σX w p cx ∧ σX.1 2 8 = nI a ∧ σX.1 2 7 = nI (c6 w) ∧ σX.1 2 11 = 0) ∧ (PMw σM w p cm ∧ σM.1 0 11 = nI a ∧ σM.1 0 12 = nI (c6 w) ∧ σM.1 0 13 = 0) ∧ okR w 3 ∧ c6 w ≤ 6
def EO (N a0 cx cm e : Nat) (rX : Option (Int32 × HS)) (rM : Option HS) (σX σM : HS) : Prop := ∃ σX' σM', FR (okX cx) olX σX σX' ∧ FR (okM cm e) olM σM σM' ∧ rM = some σM' ∧ ((∃ a' p, rX = some (1, σX') ∧ a' ≤ N ∧ (PXw σX' [] p cx ∧ σX'.1 2 8 = nI a' ∧ σX'.1 2 11 = 0) ∧ (PMw σM' [] p cm ∧ σM'.1 0 11 = nI a' ∧ σM'.1 0 12 = nI 0 ∧ σM'.1 0 13 = 0) ∧ dpP p 0 1 ∧ a0 + p.length ≤ a') ∨ ∃ ft fp, rX = some (0, σX') ∧ σX'.1 2 11 = nI ft ∧ σX'.1 2 1 = nI fp ∧ FL σM' ft fp)
theorem EO_tr {N a0 cx cm e : Nat} {rX : Option (Int32 × HS)} {rM : Option HS} {σX σM σX1 σM1 : HS} (f1 : FR (okX cx) olX σX σX1) (f2 : FR (okM cm e) olM σM σM1) (h : EO N a0 cx cm e rX rM σX1 σM1) : EO N a0 cx cm e rX rM σX σM := by
  obtain ⟨σX', σM', g1, g2, g3⟩ := h
  exact ⟨σX', σM', f1.tr g1, f2.tr g2, g3⟩
/-- both fail -/
theorem EO_fail {N a0 cx cm e : Nat} {rM : Option HS} {σX σM σM' : HS} (s ft fp : Nat) (h2 : FR (okM cm e) olM σM σM') (h3 : rM = some σM') (h4 : FL σM' ft fp) (hs : s = ft) : EO N a0 cx cm e (some (0, pI (pI σX 2 11 (nI s)) 2 1 (nI fp))) rM σX σM := by
  subst hs
  exact ⟨_, σM', (FR.rf.p (by unfold okX; omega)).p (by unfold okX; omega), h2, h3, Or.inr ⟨s, fp, rfl, by rw [pI_s, pk_un (by omega), pI_s, pk_us], by rw [pI_s, pk_us], h4⟩⟩
theorem X_push {σ : HS} {w : List Nat} {p : Pg} {c k : Nat} (h : PXw σ w p c) (hl : w.length < 21) : FX5_push (nI (xkN k)) σ = some (pI (pI σ 18 w.length (nI (xkN k))) 2 6 (nI (w.length + 1))) ∧ PXw (pI (pI σ 18 w.length (nI (xkN k))) 2 6 (nI (w.length + 1))) (k :: w) p c := by
  obtain ⟨a1, a2, a3, a4⟩ := h
  constructor
  · unfold FX5_push
    rw [a1, if_neg (show ¬ (21 : Int32) ≤ nI w.length from nI_ge (b := 21) hl (by omega)), gd_t (ix_nI hl (by omega))]
    simp only [hl_]
    rw [cl_nI (by omega), pI_o (show 2 ≠ 18 by omega), a1, nI_1]
  · refine ⟨by rw [pI_s, pk_us]; rfl, fun j hj => ?_, by rw [pI_o (by omega), pI_o (by omega)]; exact a3, by rw [pI_o (by omega), pI_o (by omega), pI_o (by omega), pI_o (by omega)]; exact a4⟩
    simp only [List.length_cons] at hj ⊢
    rw [pI_o (by omega), pI_s]
    cases j with
    | zero => rw [show w.length + 1 - 1 - 0 = w.length by omega, pk_us]; rfl
    | succ j =>
      rw [show w.length + 1 - 1 - (j + 1) = w.length - 1 - j by omega, pk_un (by omega)]
      exact a2 j (by omega)
theorem PMw_push {σ : HS} {w : List Nat} {p : Pg} {c k : Nat} (h : PMw σ w p c) : PMw (pI (pI σ 28 w.length (nI k)) 0 43 (nI (w.length + 1))) (k :: w) p c := by
  obtain ⟨a1, a2, a3, a4⟩ := h
  refine ⟨by rw [pI_s, pk_us]; rfl, fun j hj => ?_, by rw [pI_s, pk_un (by omega), pI_o (by omega)]; exact a3, by rw [pI_o (by omega), pI_o (by omega), pI_o (by omega), pI_o (by omega)]; exact a4⟩
  simp only [List.length_cons] at hj ⊢
  rw [pI_o (by omega), pI_s]
  cases j with
  | zero => rw [show w.length + 1 - 1 - 0 = w.length by omega, pk_us]; rfl
  | succ j =>
    rw [show w.length + 1 - 1 - (j + 1) = w.length - 1 - j by omega, pk_un (by omega)]
    exact a2 j (by omega)
theorem PX_e {ok okl : Nat → Nat → Prop} {σ σ' : HS} {w : List Nat} {p : Pg} {c : Nat} (f : FR ok okl σ σ') (h26 : ¬ ok 2 6) (h18 : ∀ j, ¬ ok 18 j) (h12 : ¬ ok 12 5) (h34 : ∀ j, ¬ ok 34 j) (h35 : ∀ j, ¬ ok 35 j) (h : PXw σ w p c) : PXw σ' w p c := by
  obtain ⟨a1, a2, a3, a4⟩ := h
  exact ⟨by rw [f.1 2 6 h26]; exact a1, fun j hj => by rw [f.1 18 _ (h18 _)]; exact a2 j hj, by rw [f.1 12 5 h12]; exact a3, XM_eq p c (fun j _ _ => ⟨f.1 34 j (h34 j), f.1 35 j (h35 j)⟩) a4⟩
theorem PM_e {ok okl : Nat → Nat → Prop} {σ σ' : HS} {w : List Nat} {p : Pg} {c : Nat} (f : FR ok okl σ σ') (h43 : ¬ ok 0 43) (h28 : ∀ j, ¬ ok 28 j) (h39 : ¬ ok 0 39) (h26 : ∀ j, ¬ ok 26 j) (h27 : ∀ j, ¬ ok 27 j) (h : PMw σ w p c) : PMw σ' w p c := by
  obtain ⟨a1, a2, a3, a4⟩ := h
  exact ⟨by rw [f.1 0 43 h43]; exact a1, fun j hj => by rw [f.1 28 _ (h28 _)]; exact a2 j hj, by rw [f.1 0 39 h39]; exact a3, LM_eq p c (fun j _ _ => ⟨f.1 26 j (h26 j), f.1 27 j (h27 j)⟩) a4⟩
/-- what taking a token changes -/
def okT (h j : Nat) : Prop := h = 2 ∧ (j = 8 ∨ j = 10)
theorem tk_f {σ : HS} {P : Nat → Nat} {a : Nat} : FR okT olX σ (tkS σ P a) := ((FR.rf.l (by unfold olX; omega)).p (by unfold okT; omega)).p (by unfold okT; omega)
theorem tk_X {c : Nat} : ∀ h j, okT h j → okX c h j := by intro h j; unfold okT okX; omega
theorem tk_8 {σ : HS} {P : Nat → Nat} {a : Nat} : (tkS σ P a).1 2 8 = nI (a + 1) := by unfold tkS; rw [pI_s, pk_us]
theorem tk_9 {σ : HS} {P : Nat → Nat} {a : Nat} : (tkS σ P a).2 2 9 = σ.2 21 a := by unfold tkS; rw [pI_2, pI_2, pL_s]
theorem tk_10 {σ : HS} {P : Nat → Nat} {a : Nat} : (tkS σ P a).1 2 10 = nI (P a) := by unfold tkS; rw [pI_s, pk_un (by omega), pI_s, pk_us]
theorem tk_P {σ : HS} {P : Nat → Nat} {a c : Nat} {w : List Nat} {p : Pg} (h : PXw σ w p c) : PXw (tkS σ P a) w p c := PX_e tk_f (by unfold okT; omega) (fun j => by unfold okT; omega) (by unfold okT; omega) (fun j => by unfold okT; omega) (fun j => by unfold okT; omega) h
