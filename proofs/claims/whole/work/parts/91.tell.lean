/-! The tells: what holds between two of them; a law. -/
def plP (k : Nat) : Pg := if k = 2 then [(1, 4)] else if k = 3 then [(0, 0)] else [(0, 1)]
def LB (σ : HS) (s k cm br : Nat) (L : Lawt) : Prop := (σ.1 19 (4 * s + k) = σ.1 20 (4 * s + k) ∧ L = ([], plP k)) ∨ ∃ b e i, σ.1 19 (4 * s + k) = nI b ∧ σ.1 20 (4 * s + k) = nI e ∧ b < e ∧ e ≤ br ∧ LawM σ L.1 L.2 b e i ∧ L.1.length ≤ 4 ∧ lmE L.1 L.2 i ≤ cm ∧ 130 * s ≤ b ∧ 420 * s ≤ i
/-- what was told so far, on both sides -/
def DX (σX σM : HS) (s nm nf nl : Nat) : Prop := (σX.1 12 0 = nI nm ∧ σM.1 8 s = nI nm ∧ nm ≤ 10) ∧ (σX.1 12 1 = nI nf ∧ σM.1 11 s = nI nf ∧ nf ≤ 5) ∧ (σX.1 2 5 = nI nl ∧ σM.1 15 s = nI nl ∧ nl ≤ 8) ∧ (σX.1 12 2 = σM.1 16 s ∧ σX.1 12 3 = σM.1 17 s ∧ σX.1 12 4 = σM.1 18 s) ∧ (∀ j, j < nm → σX.1 29 j = σM.1 9 (10 * s + j)) ∧ (∀ j, j < nf → σX.1 30 j = σM.1 12 (5 * s + j) ∧ σX.1 31 j = σM.1 13 (5 * s + j) ∧ σX.2 17 j = σM.2 10 j) ∧ ∀ j, j < 8 → σX.1 32 j = σM.1 14 (8 * s + j)
/-- its bounds, while nothing was wrong -/
def DV (σM : HS) (s nm nf : Nat) : Prop := (∀ j, j < nm → ∃ v, v ≤ 5 ∧ σM.1 9 (10 * s + j) = nI v) ∧ (∃ d, d ≤ 9 ∧ σM.1 16 s = nI d) ∧ (∃ d, d ≤ 9 ∧ σM.1 17 s = nI d) ∧ ∀ j, j < 8 → σM.1 14 (8 * s + j) = -2 ∨ ∃ f, f < nf ∧ σM.1 14 (8 * s + j) = nI f
def DL (σX σM : HS) (s cx cm br : Nat) (Ls : Nat → Lawt) : Prop := σX.1 12 5 = nI cx ∧ σM.1 0 39 = nI cm ∧ σM.1 0 33 = nI br ∧ ∀ k, k < 4 → (∃ i, σX.1 33 k = nI i ∧ LawX (σX.1 34) (σX.1 35) cx (Ls k).1 (Ls k).2 i) ∧ LB σM s k cm br (Ls k)
def DW (σX σM : HS) (P : Nat → Nat) (a w : Nat) : Prop := σX.1 2 12 = nI w ∧ σM.1 0 15 = nI w ∧ w ≤ 5 ∧ (w = 0 → σX.1 2 13 = -1) ∧ (w ≠ 0 → ∃ t, t < a ∧ σX.1 2 13 = nI (P t) ∧ σM.1 0 16 = nI (P t))
def TI (K P V W : Nat → Nat) (N s a : Nat) (σX σM : HS) : Prop := ∃ (nm nf nl cx cm br w : Nat) (Ls : Nat → Lawt), SY K P V W N a σX σM ∧ DX σX σM s nm nf nl ∧ (w = 0 → DV σM s nm nf) ∧ DL σX σM s cx cm br Ls ∧ DW σX σM P a w ∧ s < 2 ∧ σM.1 0 19 = nI s ∧ cx ≤ 8 + a ∧ 420 * s ≤ cm ∧ cm ≤ 420 * s + a ∧ 130 * s ≤ br ∧ 4 * br ≤ 520 * s + a
def okTX (h j : Nat) : Prop := (h = 2 ∧ (j = 1 ∨ (5 ≤ j ∧ j ≤ 13))) ∨ h = 12 ∨ h = 18 ∨ (29 ≤ h ∧ h ≤ 35)
def olTX (h j : Nat) : Prop := (h = 2 ∧ j = 9) ∨ h = 17
def okTM (s h j : Nat) : Prop := (h = 0 ∧ ((11 ≤ j ∧ j ≤ 16) ∨ j = 33 ∨ j = 39 ∨ j = 43)) ∨ h = 28 ∨ ((h = 26 ∨ h = 27) ∧ 420 * s ≤ j ∧ j < 420 * s + 420) ∨ (21 ≤ h ∧ h ≤ 25 ∧ 130 * s ≤ j ∧ j < 130 * s + 130) ∨ ((h = 19 ∨ h = 20) ∧ 4 * s ≤ j ∧ j < 4 * s + 4) ∨ ((h = 8 ∨ h = 11 ∨ (15 ≤ h ∧ h ≤ 18)) ∧ j = s) ∨ (h = 9 ∧ 10 * s ≤ j ∧ j < 10 * s + 10) ∨ ((h = 12 ∨ h = 13) ∧ 5 * s ≤ j ∧ j < 5 * s + 5) ∨ (h = 14 ∧ 8 * s ≤ j ∧ j < 8 * s + 8)
def olTM (h _j : Nat) : Prop := h = 10
/-- what comes of a tell -/
def TO (K P V W : Nat → Nat) (N s a : Nat) (rX : Option (Int32 × HS)) (rM : Option HS) (σX σM : HS) : Prop := ∃ σX' σM', FR okTX olTX σX σX' ∧ FR (okTM s) olTM σM σM' ∧ rM = some σM' ∧ ((∃ a', rX = some (1, σX') ∧ a < a' ∧ TI K P V W N s a' σX' σM') ∨ ∃ ft fp, rX = some (0, σX') ∧ σX'.1 2 11 = nI ft ∧ σX'.1 2 1 = nI fp ∧ FL σM' ft fp)
theorem okX_T {c : Nat} : ∀ h j, okX c h j → okTX h j := by intro h j; unfold okX okTX; omega
theorem okT_T : ∀ h j, okT h j → okTX h j := by intro h j; unfold okT okTX; omega
theorem olX_T : ∀ h j, olX h j → olTX h j := by intro h j; unfold olX olTX; omega
theorem olM_T : ∀ h j, olM h j → olTM h j := by intro h j hh; exact hh.elim
theorem okL_T {s k cm br : Nat} (hk : k < 4) (hc : 420 * s ≤ cm) (hb : 130 * s ≤ br) : ∀ h j, okL s k cm br h j → okTM s h j := by
  intro h j hh
  unfold okL at hh
  unfold okTM
  rcases hh with ⟨h1, h2⟩ | h1 | ⟨h1, h2, h3⟩ | ⟨h1, h2, h3, h4⟩ | ⟨h1, h2⟩
  · exact Or.inl ⟨h1, by omega⟩
  · exact Or.inr (Or.inl h1)
  · exact Or.inr (Or.inr (Or.inl ⟨h1, by omega, h3⟩))
  · exact Or.inr (Or.inr (Or.inr (Or.inl ⟨h1, h2, by omega, h4⟩)))
  · exact Or.inr (Or.inr (Or.inr (Or.inr (Or.inl ⟨h1, by omega, by omega⟩))))
theorem okBF_T {s : Nat} : ∀ h j, okBF h j → okTM s h j := by intro h j; unfold okBF okTM; omega
theorem DX_f {okx olx okm olm : Nat → Nat → Prop} {σX σM σX' σM' : HS} {s nm nf nl : Nat} (fx : FR okx olx σX σX') (fm : FR okm olm σM σM') (h0 : ∀ j, j < 5 → ¬ okx 12 j) (h1 : ¬ okx 2 5) (h2 : ∀ h j, 29 ≤ h → h ≤ 32 → ¬ okx h j) (h3 : ∀ j, ¬ olx 17 j) (m1 : ∀ h j, 8 ≤ h → h ≤ 18 → ¬ okm h j) (m2 : ∀ j, ¬ olm 10 j) (h : DX σX σM s nm nf nl) : DX σX' σM' s nm nf nl := by
  obtain ⟨⟨a1, a2, a3⟩, ⟨b1, b2, b3⟩, ⟨c1, c2, c3⟩, ⟨d1, d2, d3⟩, e, f, g⟩ := h
  have M := fun h j (q1 : 8 ≤ h) (q2 : h ≤ 18) => fm.1 h j (m1 h j q1 q2)
  have X := fun h j (q1 : 29 ≤ h) (q2 : h ≤ 32) => fx.1 h j (h2 h j q1 q2)
  have Z := fun j (q : j < 5) => fx.1 12 j (h0 j q)
  refine ⟨⟨by rw [Z 0 (by omega)]; exact a1, by rw [M 8 s (by omega) (by omega)]; exact a2, a3⟩, ⟨by rw [Z 1 (by omega)]; exact b1, by rw [M 11 s (by omega) (by omega)]; exact b2, b3⟩, ⟨by rw [fx.1 2 5 h1]; exact c1, by rw [M 15 s (by omega) (by omega)]; exact c2, c3⟩, ⟨by rw [Z 2 (by omega), M 16 s (by omega) (by omega)]; exact d1, by rw [Z 3 (by omega), M 17 s (by omega) (by omega)]; exact d2, by rw [Z 4 (by omega), M 18 s (by omega) (by omega)]; exact d3⟩, fun j hj => ?_, fun j hj => ⟨?_, ?_, ?_⟩, fun j hj => ?_⟩
  · rw [X 29 j (by omega) (by omega), M 9 _ (by omega) (by omega)]; exact e j hj
  · rw [X 30 j (by omega) (by omega), M 12 _ (by omega) (by omega)]; exact (f j hj).1
  · rw [X 31 j (by omega) (by omega), M 13 _ (by omega) (by omega)]; exact (f j hj).2.1
  · rw [fx.2 17 j (h3 j), fm.2 10 j (m2 j)]; exact (f j hj).2.2
  · rw [X 32 j (by omega) (by omega), M 14 _ (by omega) (by omega)]; exact g j hj
theorem DV_f {okm olm : Nat → Nat → Prop} {σM σM' : HS} {s nm nf : Nat} (fm : FR okm olm σM σM') (m1 : ∀ h j, 8 ≤ h → h ≤ 18 → ¬ okm h j) (h : DV σM s nm nf) : DV σM' s nm nf := by
  obtain ⟨a, b, c, d⟩ := h
  have M := fun h j (q1 : 8 ≤ h) (q2 : h ≤ 18) => fm.1 h j (m1 h j q1 q2)
  exact ⟨fun j hj => by rw [M 9 _ (by omega) (by omega)]; exact a j hj, by rw [M 16 _ (by omega) (by omega)]; exact b, by rw [M 17 _ (by omega) (by omega)]; exact c, fun j hj => by rw [M 14 _ (by omega) (by omega)]; exact d j hj⟩
theorem DW_f {okx olx okm olm : Nat → Nat → Prop} {σX σM σX' σM' : HS} {P : Nat → Nat} {a a' w : Nat} (fx : FR okx olx σX σX') (fm : FR okm olm σM σM') (h1 : ¬ okx 2 12) (h2 : ¬ okx 2 13) (m1 : ¬ okm 0 15) (m2 : ¬ okm 0 16) (ha : a ≤ a') (h : DW σX σM P a w) : DW σX' σM' P a' w := by
  obtain ⟨b1, b2, b3, b4, b5⟩ := h
  refine ⟨by rw [fx.1 2 12 h1]; exact b1, by rw [fm.1 0 15 m1]; exact b2, b3, fun hw => by rw [fx.1 2 13 h2]; exact b4 hw, fun hw => ?_⟩
  obtain ⟨t, ht, c1, c2⟩ := b5 hw
  exact ⟨t, by omega, by rw [fx.1 2 13 h2]; exact c1, by rw [fm.1 0 16 m2]; exact c2⟩
/-- a law that stays -/
theorem LB_f {okm olm : Nat → Nat → Prop} {σM σM' : HS} {s k cm br cm' br' : Nat} {L : Lawt} (fm : FR okm olm σM σM') (m1 : ¬ okm 19 (4 * s + k)) (m2 : ¬ okm 20 (4 * s + k)) (m3 : ∀ h j, 21 ≤ h → h ≤ 25 → j < br → ¬ okm h j) (m4 : ∀ h j, 26 ≤ h → h ≤ 27 → j < cm → ¬ okm h j) (hc : cm ≤ cm') (hb : br ≤ br') (h : LB σM s k cm br L) : LB σM' s k cm' br' L := by
  rcases h with ⟨h1, h2⟩ | ⟨b, e, i, h1, h2, h3, h4, h5, h6, h7, h8⟩
  · exact Or.inl ⟨by rw [fm.1 19 _ m1, fm.1 20 _ m2]; exact h1, h2⟩
  · exact Or.inr ⟨b, e, i, by rw [fm.1 19 _ m1]; exact h1, by rw [fm.1 20 _ m2]; exact h2, h3, by omega, LawM_eq L.1 L.2 b e i (fun h j q1 q2 _ q4 => fm.1 h j (m3 h j q1 q2 (by omega))) (fun j _ q2 => ⟨fm.1 26 j (m4 26 j (by omega) (by omega) (by omega)), fm.1 27 j (m4 27 j (by omega) (by omega) (by omega))⟩) h5, h6, by omega, h8⟩
theorem X_start {σ : HS} {c k : Nat} (h5 : σ.1 12 5 = nI c) (hk : k < 4) : FX9_startLaw (nI k) σ = some (pI σ 33 k (nI c)) := by
  unfold FX9_startLaw
  rw [gd_t (ix_nI hk (by omega))]
  simp only [hl_]
  rw [cl_nI (by omega), h5]
def okLX (cx k h j : Nat) : Prop := okX cx h j ∨ (h = 33 ∧ j = k)
theorem okLX_T {cx k : Nat} : ∀ h j, okLX cx k h j → okTX h j := by intro h j; unfold okLX okX okTX; omega
theorem T_law {K P V W : Nat → Nat} {N s k a : Nat} {σX σM : HS} (hS : TS K P V N) (hk : k < 4) (hT : TI K P V W N s a σX σM) (hK : K a = 23 + k) : TO K P V W N s a (FX5_readLaw (nI k) σX) (FX12_tellOne_284 (nI k) σM) σX σM := by
  obtain ⟨nm, nf, nl, cx, cm, br, w, Ls, S0, dx, dv, ⟨l5, l39, l33, ll⟩, dw, hs, m19, q1, q2, q3, q4, q5⟩ := hT
  have hN := hS.1
  have ha := S0.2.2.1
  have ek : FX5_kindNow σX = some (nI (xkN (K a)), σX) := X_kindNow hS S0.1 S0.2.2.2.1 ha
  unfold FX5_readLaw FX12_tellOne_284
  rw [ek, bdI_s, S0.2.2.2.2.2.2.2, if_pos (show (0 : Int32) ≤ 0 by decide)]
  rcases SY_go hS S0 (by omega) (by omega) with ⟨h4, eX, eM, S1⟩ | ⟨σX', σM', eX, eM, B⟩
  · obtain ⟨τX, hτX⟩ : ∃ τ, τ = tkS σX P a := ⟨_, rfl⟩
    obtain ⟨τM, hτM⟩ : ∃ τ, τ = pI σM 0 11 (nI (a + 1)) := ⟨_, rfl⟩
    rw [eX, bdI_s, if_neg one_ne, eM, bdV_s]
    rw [← hτX, ← hτM] at S1 ⊢
    have fX1 : FR (okLX cx k) olX σX τX := by rw [hτX]; exact tk_f.up (fun h j hh => Or.inl (tk_X h j hh)) (fun _ _ h => h)
    have fM1 : FR (okL s k cm br) olM σM τM := by rw [hτM]; exact FR.rf.p (by unfold okL; omega)
    unfold FX12_tellLaw
    rw [show (61 : Int32) = nI (xkN 5) from rfl, show FX12_must (5 : Int32) τM = FX12_must (nI 5) τM from rfl]
    rcases SY_must (k := 5) hS S1 (by unfold vk; omega) (by omega) (by omega) with ⟨hk5, e3, e4, S2⟩ | ⟨σX3, σM3, e3, e4, B⟩
    · obtain ⟨υX, hυX⟩ : ∃ τ, τ = tkS τX P (a + 1) := ⟨_, rfl⟩
      obtain ⟨υM, hυM⟩ : ∃ τ, τ = pI τM 0 11 (nI (a + 1 + 1)) := ⟨_, rfl⟩
      rw [e3, bdI_s, if_neg one_ne, e4, bdV_s]
      rw [← hυX, ← hυM] at S2 ⊢
      have fX2 : FR (okLX cx k) olX σX υX := by rw [hυX]; exact fX1.tr (tk_f.up (fun h j hh => Or.inl (tk_X h j hh)) (fun _ _ h => h))
      have fM2 : FR (okL s k cm br) olM σM υM := by rw [hυM]; exact fM1.p (by unfold okL; omega)
      have u5 : υX.1 12 5 = nI cx := by rw [hυX, tk_f.1 12 5 (by unfold okT; omega), hτX, tk_f.1 12 5 (by unfold okT; omega)]; exact l5
      have u39 : υM.1 0 39 = nI cm := by rw [hυM, pI_s, pk_un (by omega), hτM, pI_s, pk_un (by omega)]; exact l39
      have u33 : υM.1 0 33 = nI br := by rw [hυM, pI_s, pk_un (by omega), hτM, pI_s, pk_un (by omega)]; exact l33
      have u19 : υM.1 0 19 = nI s := by rw [hυM, pI_s, pk_un (by omega), hτM, pI_s, pk_un (by omega)]; exact m19
      rw [X_start u5 hk, bdV_s]
      simp only [hl_]
      rw [u33]
      obtain ⟨ξX, hξX⟩ : ∃ τ, τ = pI υX 33 k (nI cx) := ⟨_, rfl⟩
      rw [← hξX]
      have S3 : SY K P V W N (a + 1 + 1) ξX υM := by rw [hξX]; exact SY_pX S2 (by omega) (by omega)
      have fX3 : FR (okLX cx k) olX σX ξX := by rw [hξX]; exact fX2.p (by unfold okLX; omega)
      have v5 : ξX.1 12 5 = nI cx := by rw [hξX, pI_o (by omega)]; exact u5
      have L : LO N (a + 1 + 1) s k br cx cm br 4 (FX5_readLaw_32 fu (nI k) 0 ξX) (FX12_tellLaw_12 fu (nI k) (nI br) 0 υM) ξX υM := L_go (nI k) hS hs hk 4 0 rfl (a + 1 + 1) cx cm br ξX υM fu fu (by decide) (by decide) S3 (by omega) q2 (by omega) (by omega) q4 v5 u39 u33 u19
      obtain ⟨σX', σM', fx, fm, eM', hh⟩ := L
      have fX4 : FR (okLX cx k) olX σX σX' := fX3.tr (fx.up (fun _ _ h => Or.inl h) (fun _ _ h => h))
      have fM4 : FR (okL s k cm br) olM σM σM' := fM2.tr fm
      rw [eM', bdV_s]
      refine ⟨σX', σM', fX4.up okLX_T olX_T, fM4.up (okL_T hk q2 q4) olM_T, rfl, ?_⟩
      rcases hh with ⟨a', r, f, cx', br', eX', ha', haa, ⟨y8, y11, y5, lx⟩, ⟨z11, z12, z13, z39, z33, lm, z19, z20⟩, hr, hb, c1, c2, c3⟩ | hh
      · have hlx := LawX_lt r f cx lx
        have hlm := lmE_le r f cm
        have x33 : σX'.1 33 k = nI cx := by rw [fx.1 33 k (by unfold okX; omega), hξX, pI_s, pk_us]
        refine Or.inl ⟨a', eX', by omega, nm, nf, nl, cx', lmE r f cm, br', w, fun i => if i = k then (r, f) else Ls i, ⟨TX_f fX4 (fun j => by unfold okLX okX; omega) (fun j => by unfold okLX okX; omega) (fun j => by unfold olX; omega) S0.1, TM_l fM4 S0.2.1, ha', y8, y11, z11, z12, z13⟩, DX_f fX4 fM4 (fun j _ => by unfold okLX okX; omega) (by unfold okLX okX; omega) (fun h j _ _ => by unfold okLX okX; omega) (fun j => by unfold olX; omega) (fun h j _ _ => by unfold okL; omega) (fun j => by unfold olM; exact id) dx, fun hw => DV_f fM4 (fun h j _ _ => by unfold okL; omega) (dv hw), ⟨y5, z39, z33, fun i hi => ?_⟩, DW_f fX4 fM4 (by unfold okLX okX; omega) (by unfold okLX okX; omega) (by unfold okL; omega) (by unfold okL; omega) (by omega) dw, hs, by rw [fM4.1 0 19 (by unfold okL; omega)]; exact m19, c1, by omega, c2, by omega, c3⟩
        by_cases hik : i = k
        · subst hik
          simp only [if_true]
          exact ⟨⟨cx, x33, lx⟩, Or.inr ⟨br, br', cm, z19, z20, hb, Nat.le_refl _, lm, hr, Nat.le_refl _, q4, q2⟩⟩
        · simp only [if_neg hik]
          obtain ⟨⟨i0, g1, g2⟩, g3⟩ := ll i hi
          refine ⟨⟨i0, ?_, ?_⟩, LB_f fM4 (by unfold okL; omega) (by unfold okL; omega) (fun h j _ _ hj => by unfold okL; omega) (fun h j _ _ hj => by unfold okL; omega) (by omega) (by omega) g3⟩
          · rw [fX4.1 33 i (by unfold okLX okX; omega)]; exact g1
          · exact LawX_up (by omega) _ _ _ (LawX_eq _ _ _ (fun j _ hj => ⟨fX4.1 34 j (by unfold okLX okX; omega), fX4.1 35 j (by unfold okLX okX; omega)⟩) g2)
      · exact Or.inr hh
    · rw [e3, bdI_s, if_pos rfl, e4, bdV_s]
      obtain ⟨ft, fp, b11, b1, L⟩ := BF_2 B
      have v33 : σM3.1 0 33 = nI br := by rw [(BF_M B).1 0 33 (by unfold okBF; omega), hτM, pI_s, pk_un (by omega)]; exact l33
      obtain ⟨σM4, e5, f5, L5⟩ := M_tl12F (k := k) (cm := cm) (br := br) (b := br) (f := 4999) (nI k) (nI br) 0 hs L v33 (Nat.le_refl _) (by omega)
      simp only [hl_]
      rw [v33, show fu = 4999 + 1 from rfl, e5, bdV_s]
      exact ⟨σX3, σM4, (fX1.up okLX_T olX_T).tr ((BF_X (c := 0) B).up okX_T olX_T), ((fM1.tr ((BF_M B).up okB_L (fun _ _ h => h))).tr f5).up (okL_T hk q2 q4) olM_T, rfl, Or.inr ⟨ft, fp, rfl, b11, b1, L5⟩⟩
  · rw [eX, bdI_s, if_pos rfl, eM, bdV_s]
    obtain ⟨ft, fp, b11, b1, L⟩ := BF_2 B
    have v33 : σM'.1 0 33 = nI br := by rw [(BF_M B).1 0 33 (by unfold okBF; omega)]; exact l33
    obtain ⟨σM4, e5, f5, L5⟩ := M_tl12F (k := k) (cm := cm) (br := br) (b := br) (f := 4999) (nI k) (nI br) 0 hs L v33 (Nat.le_refl _) (by omega)
    unfold FX12_tellLaw
    rw [M_mustF _ L.2.1 L.1, bdV_s]
    simp only [hl_]
    rw [v33, show fu = 4999 + 1 from rfl, e5, bdV_s]
    exact ⟨σX', σM4, (BF_X (c := 0) B).up okX_T olX_T, (((BF_M B).up okB_L (fun _ _ h => h)).tr f5).up (okL_T hk q2 q4) olM_T, rfl, Or.inr ⟨ft, fp, rfl, b11, b1, L5⟩⟩
