/-! A new object: both sides as the constructors leave them. -/
theorem fi_X3 : σX1.1 3 0 = nI 0 ∧ σX1.1 3 1 = nI 0 ∧ σX1.1 3 4 = 0 ∧ σX1.1 3 5 = nI 8 := by decide +kernel
theorem fi_X26 : ∀ k, k < 4 → σX1.1 26 k = nI (2 * k) := by decide +kernel
theorem fi_X27 : ∀ k, k < 4 → σX1.1 27 (2 * k) = nI (opX ((plP k).headD (0, 0)).1) ∧ σX1.1 28 (2 * k) = ((plP k).headD (0, 0)).2 ∧ σX1.1 27 (2 * k + 1) = nI 3 := by decide +kernel
theorem fi_X6 : σX1.1 6 3 = nI 0 ∧ σX1.1 6 4 = nI 0 ∧ σX1.1 11 6 = nI 0 ∧ σX1.1 1 1 = nI 0 ∧ σX1.1 2 1 = -1 := by decide +kernel
theorem fi_X38 : ∀ k, k < 3 → σX1.1 38 k = 0 ∧ σM1.1 43 k = 0 := by decide +kernel
theorem fi_M0 : σM1.1 0 18 = nI 0 ∧ σM1.1 8 0 = nI 0 ∧ σM1.1 11 0 = nI 0 ∧ σM1.1 18 0 = 0 ∧ σM1.1 0 50 = nI 0 ∧ σM1.1 0 57 = nI 0 ∧ σM1.1 0 2 = nI 0 ∧ σM1.1 0 17 = -1 := by decide +kernel
theorem fi_M19 : ∀ k, k < 4 → σM1.1 19 (4 * 0 + k) = σM1.1 20 (4 * 0 + k) := by decide +kernel
theorem fi_row : ∀ k, k < 33 → rowC 0 (σX1.1 14) k = σM1.1 31 k := by decide +kernel
theorem fi_own : ∀ k, k < 8 → σM1.1 31 (10 + k) = -2 := by decide +kernel
theorem fi_z : σM1.1 31 18 = nI 0 ∧ σM1.1 31 19 = nI 0 ∧ ∀ f, f < 5 → σM1.1 31 (23 + f) = nI 0 ∧ σM1.1 31 (28 + f) = nI 0 := by decide +kernel
theorem fi_key : ∀ k, k < 22 → σM1.2 7 k = keyV k := by decide +kernel
theorem plG {ops num : Nat → Int32} {k c C : Nat} {x y : Int32} (h34 : ops c = x) (h35 : num c = y) (h3 : ops (c + 1) = nI 3) (hC : c + 1 < C) (hx : x = nI (opX ((plP k).headD (0, 0)).1)) (hy : y = ((plP k).headD (0, 0)).2) (hk : k < 4) : LawX ops num C [] (plP k) c := by
  have h4 : k = 0 ∨ k = 1 ∨ k = 2 ∨ k = 3 := by omega
  rcases h4 with rfl | rfl | rfl | rfl
  · exact ⟨⟨h34.trans hx, fun _ => h35.trans hy, trivial⟩, dp_p.1, h3, hC⟩
  · exact ⟨⟨h34.trans hx, fun _ => h35.trans hy, trivial⟩, dp_p.1, h3, hC⟩
  · exact ⟨⟨h34.trans hx, fun _ => h35.trans hy, trivial⟩, dp_p.2.2, h3, hC⟩
  · exact ⟨⟨h34.trans hx, fun _ => h35.trans hy, trivial⟩, dp_p.2.1, h3, hC⟩
theorem Rel_0 : Rel 0 σX1 σM1 := by
  obtain ⟨a1, a2, a3, a4⟩ := fi_X3
  obtain ⟨c1, c2, c3, c4, c5⟩ := fi_X6
  obtain ⟨d1, d2, d3, d4, d5, d6, d7, d8⟩ := fi_M0
  obtain ⟨e1, e2, e3⟩ := fi_z
  refine ⟨0, 0, 0, fun _ => 0, fun _ => 0, 0, fun k => ([], plP k), ⟨⟨by omega, by omega, a1, a2, fun f hf => by omega, 8, by omega, a4, fun k hk => ⟨2 * k, fi_X26 k hk, plG (fi_X27 k hk).1 (fi_X27 k hk).2.1 (fi_X27 k hk).2.2 (by omega) rfl rfl hk⟩⟩, a3, ⟨⟨by omega, d1, by omega, Or.inl ⟨fi_M19 0 (by omega), rfl⟩, Or.inl ⟨fi_M19 1 (by omega), rfl⟩, Or.inl ⟨fi_M19 2 (by omega), rfl⟩, Or.inl ⟨fi_M19 3 (by omega), rfl⟩⟩, d2, by omega, d3⟩, fun j hj => by omega, d4⟩, fi_row, ⟨fun p hp => Or.inl (fi_own p hp), fun m hm => by omega, ⟨0, by omega, e1⟩, ⟨0, by omega, e2⟩, fun f hf => ⟨⟨0, by omega, (e3 f hf).1⟩, 0, by omega, (e3 f hf).2⟩⟩, ⟨0, 0, by omega, by omega, c1, c2, d5, fun i hi => by omega⟩, fun k hk => Or.inl (fi_X38 k hk), ⟨0, by omega, c3, d6, fun i hi => by omega⟩, ⟨0, by omega, c4, d7, fun j hj => by omega⟩, by rw [c5, d8], fi_key⟩
theorem Rel_mono (n : Nat) (σX σM : HS) (h : Rel n σX σM) : Rel (n + 1) σX σM := Rel_q h qX.rf kM.rf
