/-! An E, step by step on both sides. -/
theorem opc_W {k : Nat} (hk : k = 8 ∨ k = 9 ∨ k = 10 ∨ k = 15) : isW k ∧ k ≠ 6 ∧ rkK k = rkN k ∧ (rkN k = 1 ∨ rkN k = 2) := by
  rcases hk with rfl | rfl | rfl | rfl <;> refine ⟨by unfold isW; omega, by omega, by decide, by decide⟩
theorem M_145o {σ : HS} {K P V W : Nat → Nat} {N a : Nat} {k12 : Int32 → Int32 → HS → Option HS} (x1 x2 : Int32) (hS : TS K P V N) (hT : TM_ σ K P V W N) (h11 : σ.1 0 11 = nI a) (h13 : σ.1 0 13 = 0) (ha : a ≤ N) : FX12_expression_145 k12 x1 x2 σ = if K a = 8 ∨ K a = 9 then FX12_expression_234 k12 x1 1 0 σ else if K a = 10 ∨ K a = 15 then FX12_expression_234 k12 x1 1 1 σ else FX12_expression_186 k12 x1 x2 0 σ := by
  have i : ∀ k, k < 42 → FX12_is (nI k) σ = some (bI (decide (K a = k)), σ) := fun k hk => M_is hS hT h11 h13 ha hk
  have i8 : FX12_is (8 : Int32) σ = some (bI (decide (K a = 8)), σ) := i 8 (by omega)
  have i9 : FX12_is (9 : Int32) σ = some (bI (decide (K a = 9)), σ) := i 9 (by omega)
  have i10 : FX12_is (10 : Int32) σ = some (bI (decide (K a = 10)), σ) := i 10 (by omega)
  have i15 : FX12_is (15 : Int32) σ = some (bI (decide (K a = 15)), σ) := i 15 (by omega)
  have e86 : FX12_expression_186 k12 x1 x2 1 σ = if K a = 10 ∨ K a = 15 then FX12_expression_234 k12 x1 1 1 σ else FX12_expression_234 k12 x1 1 0 σ := by
    unfold FX12_expression_186 FX12_expression_229
    rw [if_neg one_ne, i10, bdI_s]
    by_cases h10 : K a = 10
    · rw [show decide (K a = 10) = true from decide_eq_true h10, bI_t, if_neg one_ne, if_pos (Or.inl h10)]
    · rw [show decide (K a = 10) = false from decide_eq_false h10, bI_f, if_pos rfl, i15, bdI_s]
      by_cases h15 : K a = 15
      · rw [show decide (K a = 15) = true from decide_eq_true h15, bI_t, if_neg one_ne, if_pos (Or.inr h15)]
      · rw [show decide (K a = 15) = false from decide_eq_false h15, bI_f, if_pos rfl, if_neg (fun h => h.elim h10 h15)]
  unfold FX12_expression_145 FX12_expression_181
  rw [i8, bdI_s]
  by_cases h8 : K a = 8
  · rw [show decide (K a = 8) = true from decide_eq_true h8, bI_t, if_neg one_ne, e86, if_neg (by omega), if_pos (Or.inl h8)]
  rw [show decide (K a = 8) = false from decide_eq_false h8, bI_f, if_pos rfl, i9, bdI_s]
  by_cases h9 : K a = 9
  · rw [show decide (K a = 9) = true from decide_eq_true h9, bI_t, if_neg one_ne, e86, if_neg (by omega), if_pos (Or.inr h9)]
  rw [show decide (K a = 9) = false from decide_eq_false h9, bI_f, if_pos rfl, i10, bdI_s, if_neg (fun h => h.elim h8 h9)]
  by_cases h10 : K a = 10
  · rw [show decide (K a = 10) = true from decide_eq_true h10, bI_t, if_neg one_ne, e86, if_pos (Or.inl h10), if_pos (Or.inl h10)]
  rw [show decide (K a = 10) = false from decide_eq_false h10, bI_f, if_pos rfl, i15, bdI_s]
  by_cases h15 : K a = 15
  · rw [show decide (K a = 15) = true from decide_eq_true h15, bI_t, if_neg one_ne, e86, if_pos (Or.inr h15), if_pos (Or.inr h15)]
  rw [show decide (K a = 15) = false from decide_eq_false h15, bI_f, if_pos rfl, if_neg (fun h => h.elim h10 h15)]
theorem E_go {K P V W : Nat → Nat} {N cx cm s a0 : Nat} (hS : TS K P V N) (hs : s < 2) (hcm : cm ≤ 420 * s + a0) (hcx : cx ≤ 8 + a0) : ∀ n, (∀ (a : Nat) (w : List Nat) (p : Pg) (σX σM : HS) (i fX fM gM : Nat) (x2 : Int32), a + n = N → ES K P V W N cx cm a w p σX σM → dpP p 0 (opN w) → a0 + p.length + opN w ≤ a → i ≤ a → n < fX → n < fM → n < gM → EO N a0 cx cm (420 * s + 420) (FX5_readSum_14 fX 1 (nI i) σX) (FX12_expression_23 (FX12_expression_12 gM) fM (nI 0) x2 σM) σX σM) ∧ (∀ (a : Nat) (w : List Nat) (p : Pg) (σX σM : HS) (i fX fM gM : Nat) (x2 : Int32), a + n = N → ES K P V W N cx cm a w p σX σM → dpP p 0 (opN w + 1) → a0 + p.length + opN w ≤ a → i ≤ a → n < fX → n < fM → n < gM → EO N a0 cx cm (420 * s + 420) (FX5_readSum_14 fX 0 (nI i) σX) (FX12_expression_96 (FX12_expression_12 gM) fM (nI 0) x2 σM) σX σM) := by
  have hN := hS.1
  intro n
  induction n with
  | zero =>
    sorry
  | succ n ih =>
    sorry
