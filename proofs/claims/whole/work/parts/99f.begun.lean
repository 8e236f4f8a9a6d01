/-! Both sides before the first tell; all tells. -/
theorem R_begun {σX σM : HS} {b : Nat → Nat} {L N s : Nat} (hs : s < 2) (hS : TS (tK b L) (tP b L) (tV b L) N) (tx : TKX σX b L 401) (x0 : ∀ j, j < 5 → σX.1 12 j = 0) (x5 : σX.1 12 5 = nI 8) (x32 : ∀ j, j < 8 → σX.1 32 j = -2) (xl : ∀ k, k < 4 → ∃ i, σX.1 33 k = nI i ∧ LawX (σX.1 34) (σX.1 35) 8 [] (plP k) i) (y5 : σX.1 2 5 = 0) (y8 : σX.1 2 8 = 0) (y11 : σX.1 2 11 = 0) (y12 : σX.1 2 12 = 0) (y13 : σX.1 2 13 = -1) (tm : TKM σM b L 401) (m11 : σM.1 0 11 = 0) (m12 : σM.1 0 12 = 0) (m13 : σM.1 0 13 = 0) (m15 : σM.1 0 15 = 0) (m19 : σM.1 0 19 = nI s) (m33 : σM.1 0 33 = nI (130 * s)) (m39 : σM.1 0 39 = nI (420 * s)) (p1 : σM.1 8 s = 0) (p2 : σM.1 11 s = 0) (p3 : σM.1 15 s = 0) (p4 : σM.1 16 s = 0) (p5 : σM.1 17 s = 0) (p6 : σM.1 18 s = 0) (p7 : ∀ j, j < 8 → σM.1 14 (8 * s + j) = -2) (p8 : ∀ j, j < 4 → σM.1 19 (4 * s + j) = 0 ∧ σM.1 20 (4 * s + j) = 0) : TI (tK b L) (tP b L) (tV b L) (tW b L) N s 0 σX σM := by
  refine ⟨0, 0, 0, 8, 420 * s, 130 * s, 0, fun k => ([], plP k), ⟨TX_of hS tx, TM_of hS tm, Nat.zero_le _, y8, y11, m11, m12, m13⟩, ⟨⟨x0 0 (by omega), p1, by omega⟩, ⟨x0 1 (by omega), p2, by omega⟩, ⟨y5, p3, by omega⟩, ⟨(x0 2 (by omega)).trans p4.symm, (x0 3 (by omega)).trans p5.symm, (x0 4 (by omega)).trans p6.symm⟩, fun j hj => by omega, fun j hj => by omega, fun j hj => (x32 j hj).trans (p7 j hj).symm⟩, fun _ => ⟨fun j hj => by omega, ⟨0, by omega, p4⟩, ⟨0, by omega, p5⟩, fun j hj => Or.inl (p7 j hj)⟩, ⟨x5, m39, m33, fun k hk => ⟨xl k hk, Or.inl ⟨(p8 k hk).1.trans (p8 k hk).2.symm, rfl⟩⟩⟩, ⟨y12, m15, by omega, fun _ => y13, fun h => absurd rfl h⟩, hs, m19, by omega, by omega, by omega, by omega, by omega⟩
def okZX (h j : Nat) : Prop := okRX h j ∨ (h = 1 ∧ j = 1)
theorem okTX_R : ∀ h j, okTX h j → okRX h j := fun _ _ h => Or.inl h
theorem olTX_R : ∀ h j, olTX h j → olRX h j := fun _ _ h => Or.inl h
theorem okTM_R {s : Nat} : ∀ h j, okTM s h j → okRM s h j := fun _ _ h => Or.inl h
theorem olTM_R : ∀ h j, olTM h j → olRM h j := fun _ _ h => Or.inl h
/-- read, as far as its last tell -/
theorem R_all {n : Nat} {σX σM : HS} {side nm nf : Nat} {z l : Nat → Int32} {sd : Int32} {Ls : Nat → Lawt} (t : TR σX σM side nm nf z l sd Ls) (e : ER σX σM) (ky : ∀ k, k < 22 → σM.2 7 k = keyV k) : ∃ s σX' σM' x1, s + side = 1 ∧ FX5_readAll σX = FX5_readAll_79 0 0 σX' ∧ FX12_read σM = FX12_read_129 x1 σM' ∧ FR okRX olRX σX σX' ∧ FR (okRM s) olRM σM σM' ∧ σM'.1 0 2 = 0 ∧ ((∃ K P V W N a, N ≤ 400 ∧ TS K P V N ∧ TI K P V W N s a σX' σM') ∨ ∃ ft fp, σX'.1 2 11 = nI ft ∧ σX'.1 2 1 = nI fp ∧ FL σM' ft fp) := by
  obtain ⟨L, hL, l1, l2, lb⟩ := e
  obtain ⟨hT, hsd, hM, hzl, hsM⟩ := t
  have hside := hM.1.1
  have h18 := hM.1.2.1
  have hb0 : ∃ b : Nat → Nat, ∀ j, σX.1 16 j &&& 255 = nI (b j) ∧ b j < 256 := by
    refine ⟨fun j => (and255 (σX.1 16 j)).choose, fun j => ?_⟩
    have := (and255 (σX.1 16 j)).choose_spec
    exact ⟨this.2, this.1⟩
  obtain ⟨b, hb⟩ := hb0
  obtain ⟨N, hS⟩ := TS_of b L hL
  obtain ⟨σ1, e1, f1, t1, x0, x5, x32, xl, y5, y8, y11, y12, y13⟩ := X_begun (σ := σX) (b := b) (L := L) ⟨l1, hL, fun j _ => hb j⟩
  obtain ⟨s, hs⟩ : ∃ s, s + side = 1 := ⟨1 - side, by omega⟩
  obtain ⟨σ2, e2, f2, t2, ⟨m2, m11, m12, m13, m15, m19, m33, m39⟩, ⟨p1, p2, p3, p4, p5, p6⟩, p7, p8⟩ := M_begun (σ := σM) (b := b) hs hL l2 h18 (fun j hj => by rw [← lb j hj]; exact hb j) ky
  have hN := hS.1
  have T0 := R_begun (by omega) hS t1 x0 x5 x32 xl y5 y8 y11 y12 y13 t2 m11 m12 m13 m15 m19 m33 m39 p1 p2 p3 p4 p5 p6 p7 p8
  obtain ⟨σX', σM', g1, g2, e3, e4, hh⟩ := R_loop (nI L) hS (N + 1) 0 0 fu fu σ1 σ2 T0 (Nat.le_refl _) (by omega) (by show N + 1 < 5000; omega) (by show N + 1 < 5000; omega)
  refine ⟨s, σX', σM', nI L, hs, e1.trans e3, e2.trans e4, f1.tr (g1.up okTX_R olTX_R), f2.tr (g2.up okTM_R olTM_R), ?_, ?_⟩
  · rw [g2.1 0 2 (by unfold okTM; omega)]; exact m2
  · rcases hh with ⟨a, hT'⟩ | hh
    · exact Or.inl ⟨_, _, _, _, N, a, hN, hS, hT'⟩
    · exact Or.inr hh
/-! A read that fails leaves what there was. -/
theorem lawOf_f {ok okl : Nat → Nat → Prop} {σ σ' : HS} {side k : Nat} {L : Lawt} {pl : Pg} (f : FR ok okl σ σ') (m1 : ¬ ok 19 (4 * side + k)) (m2 : ¬ ok 20 (4 * side + k)) (m3 : ∀ h j, 21 ≤ h → h ≤ 25 → 130 * side ≤ j → j < 130 * side + 130 → ¬ ok h j) (m4 : ∀ h j, 26 ≤ h → h ≤ 27 → 420 * side ≤ j → j < 420 * side + 420 → ¬ ok h j) (h : lawOf σ side k L pl) : lawOf σ' side k L pl := by
  rcases h with ⟨h1, h2⟩ | ⟨b, e, i, h1, h2, h3, h4, h5, h6, h7, h8, h9⟩
  · exact Or.inl ⟨by rw [f.1 19 _ m1, f.1 20 _ m2]; exact h1, h2⟩
  · exact Or.inr ⟨b, e, i, by rw [f.1 19 _ m1]; exact h1, by rw [f.1 20 _ m2]; exact h2, h3, LawM_eq L.1 L.2 b e i (fun h j q1 q2 q3 q4 => f.1 h j (m3 h j q1 q2 (by omega) (by omega))) (fun j q1 q2 => ⟨f.1 26 j (m4 26 j (by omega) (by omega) (by omega) (by omega)), f.1 27 j (m4 27 j (by omega) (by omega) (by omega) (by omega))⟩) h4, h5, h6, h7, h8, h9⟩
theorem nRM_21 {s side h j : Nat} (hs : s + side = 1) (h1 : 21 ≤ h) (h2 : h ≤ 25) (h3 : 130 * side ≤ j) (h4 : j < 130 * side + 130) : ¬ okRM s h j := by
  intro hh
  unfold okRM okTM at hh
  rcases hh with (hh | hh | hh | hh | hh | hh | hh | hh | hh) | hh | hh | hh | hh | hh <;> omega
theorem nRM_26 {s side h j : Nat} (hs : s + side = 1) (h1 : 26 ≤ h) (h2 : h ≤ 27) (h3 : 420 * side ≤ j) (h4 : j < 420 * side + 420) : ¬ okRM s h j := by
  intro hh
  unfold okRM okTM at hh
  rcases hh with (hh | hh | hh | hh | hh | hh | hh | hh | hh) | hh | hh | hh | hh | hh <;> omega
theorem nRM_4 {s side k h : Nat} (hs : s + side = 1) (hk : k < 4) (h1 : h = 19 ∨ h = 20) : ¬ okRM s h (4 * side + k) := by
  intro hh
  unfold okRM okTM at hh
  rcases hh with (hh | hh | hh | hh | hh | hh | hh | hh | hh) | hh | hh | hh | hh | hh <;> omega
theorem nRM_1 {s side h : Nat} (hs : s + side = 1) (h1 : h = 8 ∨ h = 11 ∨ h = 18) : ¬ okRM s h side := by
  intro hh
  unfold okRM okTM at hh
  rcases hh with (hh | hh | hh | hh | hh | hh | hh | hh | hh) | hh | hh | hh | hh | hh <;> omega
theorem nRM_5 {s side j h : Nat} (hs : s + side = 1) (hj : j < 5) (h1 : h = 12 ∨ h = 13) : ¬ okRM s h (5 * side + j) := by
  intro hh
  unfold okRM okTM at hh
  rcases hh with (hh | hh | hh | hh | hh | hh | hh | hh | hh) | hh | hh | hh | hh | hh <;> omega
theorem nRM_h {s h j : Nat} (h1 : h = 1 ∨ 29 ≤ h) : ¬ okRM s h j := by
  intro hh
  unfold okRM okTM at hh
  rcases hh with (hh | hh | hh | hh | hh | hh | hh | hh | hh) | hh | hh | hh | hh | hh <;> omega
theorem nRM_0 {s j : Nat} (h1 : j = 18 ∨ j = 50 ∨ j = 57) : ¬ okRM s 0 j := by
  intro hh
  unfold okRM okTM at hh
  rcases hh with (hh | hh | hh | hh | hh | hh | hh | hh | hh) | hh | hh | hh | hh | hh <;> omega
theorem nZX {h j : Nat} (h1 : h = 3 ∨ h = 6 ∨ h = 11 ∨ h = 14 ∨ h = 16 ∨ (22 ≤ h ∧ h ≤ 28) ∨ 36 ≤ h) : ¬ okZX h j := by
  unfold okZX okRX okTX; omega
theorem TR_f {σX σM σX' σM' : HS} {s side nm nf : Nat} {z l : Nat → Int32} {sd : Int32} {Ls : Nat → Lawt} (hs : s + side = 1) (fX : FR okZX olRX σX σX') (fM : FR (okRM s) olRM σM σM') (t : TR σX σM side nm nf z l sd Ls) : TR σX' σM' side nm nf z l sd Ls := by
  obtain ⟨h1, h2, ⟨⟨a1, a2, a3, a4, a5, a6, a7⟩, a8, a9, a10⟩, h4, h5⟩ := t
  have X := fun h (q : h = 3 ∨ h = 6 ∨ h = 11 ∨ h = 14 ∨ h = 16 ∨ (22 ≤ h ∧ h ≤ 28) ∨ 36 ≤ h) => (funext fun j => fX.1 h j (nZX q) : σX'.1 h = σX.1 h)
  have LW := fun (k : Nat) (hk : k < 4) (L : Lawt) (pl : Pg) (q : lawOf σM side k L pl) => (lawOf_f fM (nRM_4 hs hk (Or.inl rfl)) (nRM_4 hs hk (Or.inr rfl)) (fun h j q1 q2 q3 q4 => nRM_21 hs q1 q2 q3 q4) (fun h j q1 q2 q3 q4 => nRM_26 hs q1 q2 q3 q4) q : lawOf σM' side k L pl)
  refine ⟨TX_eq h1 (X 3 (by omega)) (X 23 (by omega)) (X 24 (by omega)) (X 26 (by omega)) (X 27 (by omega)) (X 28 (by omega)), by rw [X 3 (by omega)]; exact h2, ⟨⟨a1, by rw [fM.1 0 18 (nRM_0 (Or.inl rfl))]; exact a2, a3, LW 0 (by omega) _ _ a4, LW 1 (by omega) _ _ a5, LW 2 (by omega) _ _ a6, LW 3 (by omega) _ _ a7⟩, by rw [fM.1 8 side (nRM_1 hs (Or.inl rfl))]; exact a8, a9, by rw [fM.1 11 side (nRM_1 hs (Or.inr (Or.inl rfl)))]; exact a10⟩, fun j hj => ?_, by rw [fM.1 18 side (nRM_1 hs (Or.inr (Or.inr rfl)))]; exact h5⟩
  rw [fM.1 12 _ (nRM_5 hs (show j < 5 by omega) (Or.inl rfl)), fM.1 13 _ (nRM_5 hs (show j < 5 by omega) (Or.inr rfl))]
  exact h4 j hj
theorem Rel_fail {n : Nat} {σX σM σX' σM' : HS} {s side nm nf : Nat} {z l : Nat → Int32} {sd : Int32} {Ls : Nat → Lawt} (hs : s + side = 1) (t : TR σX σM side nm nf z l sd Ls) (r : RR nm (σX.1 14) (σM.1 31)) (v : RV nm nf n (σM.1 31)) (p : PR σX σM nm nf n) (sr : SR σX σM nm nf n) (w : WR σX σM nm) (ky : ∀ k, k < 22 → σM.2 7 k = keyV k) (fX : FR okZX olRX σX σX') (fM : FR (okRM s) olRM σM σM') (e1 : σX'.1 1 1 = nI 0) (e2 : σM'.1 0 2 = nI 0) (pl : σX'.1 2 1 = σM'.1 0 17) : Rel (n + 1) σX' σM' := by
  have X := fun h (q : h = 3 ∨ h = 6 ∨ h = 11 ∨ h = 14 ∨ h = 16 ∨ (22 ≤ h ∧ h ≤ 28) ∨ 36 ≤ h) => (funext fun j => fX.1 h j (nZX q) : σX'.1 h = σX.1 h)
  have M := fun h (q : h = 1 ∨ 29 ≤ h) => (funext fun j => fM.1 h j (nRM_h q) : σM'.1 h = σM.1 h)
  refine ⟨side, nm, nf, z, l, sd, Ls, TR_f hs fX fM t, ?_, ?_, ?_, ?_, ?_, ⟨0, by omega, e1, e2, fun j hj => by omega⟩, pl, fun k hk => ?_⟩
  · rw [X 14 (by omega), M 31 (by omega)]; exact r
  · rw [M 31 (by omega)]; exact RV_mono (by omega) v
  · exact PR_mono (by omega) (PR_eq (X 6 (by omega)) (X 36 (by omega)) (fM.1 0 50 (nRM_0 (Or.inr (Or.inl rfl)))) (M 33 (by omega)) p)
  · exact SR_mono (by omega) (SR_eq (X 37 (by omega)) (X 38 (by omega)) (M 43 (by omega)) (M 44 (by omega)) sr)
  · exact WR_eq (by rw [X 11 (by omega)]) (X 46 (by omega)) (X 47 (by omega)) (X 48 (by omega)) (fM.1 0 57 (nRM_0 (Or.inr (Or.inr rfl)))) (M 39 (by omega)) (M 40 (by omega)) (M 41 (by omega)) w
  · rw [fM.2 7 k (by unfold olRM; omega)]; exact ky k hk
