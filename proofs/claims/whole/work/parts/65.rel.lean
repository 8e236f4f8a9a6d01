/-! What ties the class to the reference between two calls. -/
def RV (nm nf n : Nat) (g : Nat → Int32) : Prop := OW g nf ∧ (∀ m, m < nm → ∃ v, v ≤ 5 ∧ g m = nI v) ∧ (∃ d, d ≤ 9 ∧ g 18 = nI d) ∧ (∃ d, d ≤ 9 ∧ g 19 = nI d) ∧ ∀ f, f < 5 → (∃ a, a ≤ 3600 * n ∧ g (23 + f) = nI a) ∧ ∃ b, b ≤ 3960 * n ∧ g (28 + f) = nI b
theorem RV_mono {nm nf n n' : Nat} {g : Nat → Int32} (h : n ≤ n') (hv : RV nm nf n g) : RV nm nf n' g := by
  obtain ⟨h1, h2, h3, h4, h5⟩ := hv
  refine ⟨h1, h2, h3, h4, fun f hf => ?_⟩
  obtain ⟨⟨a, ha, ea⟩, ⟨b, hb, eb⟩⟩ := h5 f hf
  exact ⟨⟨a, by omega, ea⟩, ⟨b, by omega, eb⟩⟩
theorem RV_congr {nm nf n : Nat} {g g' : Nat → Int32} (hnm : nm ≤ 10) (h : ∀ k, k < 33 → g k = g' k) (hv : RV nm nf n g) : RV nm nf n g' := by
  obtain ⟨h1, h2, h3, h4, h5⟩ := hv
  refine ⟨OW_congr h h1, fun m hm => ?_, ?_, ?_, fun f hf => ?_⟩
  · rw [← h m (by omega)]; exact h2 m hm
  · rw [← h 18 (by omega)]; exact h3
  · rw [← h 19 (by omega)]; exact h4
  · rw [← h (23 + f) (by omega), ← h (28 + f) (by omega)]; exact h5 f hf
def RR (nm : Nat) (c g : Nat → Int32) : Prop := ∀ k, k < 33 → rowC nm c k = g k
/-- text -/
def TR (σX σM : HS) (side nm nf : Nat) (z l : Nat → Int32) (sd : Int32) (Ls : Nat → Lawt) : Prop := TX σX nm nf z l Ls ∧ σX.1 3 4 = sd ∧ MM σM side nm nf Ls ∧ (∀ j, j < nf → σM.1 12 (5 * side + j) = z j ∧ σM.1 13 (5 * side + j) = l j) ∧ σM.1 18 side = sd
/-- things done -/
def PR (σX σM : HS) (nm nf n : Nat) : Prop := ∃ u nx, u ≤ 40 ∧ nx < 40 ∧ σX.1 6 3 = nI nx ∧ σX.1 6 4 = nI u ∧ σM.1 0 50 = nI u ∧ ∀ i, i < u → RR nm (fun k => σX.1 36 (33 * ((nx + 40 - u + i) % 40) + k)) (fun k => σM.1 33 (33 * i + k)) ∧ RV nm nf n (fun k => σM.1 33 (33 * i + k))
/-- slots -/
def SR (σX σM : HS) (nm nf n : Nat) : Prop := ∀ s, s < 3 → (σX.1 38 s = 0 ∧ σM.1 43 s = 0) ∨ (σX.1 38 s = 1 ∧ σM.1 43 s = 1 ∧ RR nm (fun k => σX.1 37 (33 * s + k)) (fun k => σM.1 44 (33 * s + k)) ∧ RV nm nf n (fun k => σM.1 44 (33 * s + k)))
/-- what was told -/
def WR (σX σM : HS) (nm : Nat) : Prop := ∃ t, t ≤ 20 ∧ σX.1 11 6 = nI t ∧ σM.1 0 57 = nI t ∧ ∀ i, i < t → (∃ m, m < nm ∧ σX.1 46 i = nI m ∧ σM.1 39 i = nI m) ∧ (∃ p, p < 8 ∧ σX.1 47 i = nI p ∧ σM.1 40 i = nI p) ∧ ∃ b, b < 2 ∧ σX.1 48 i = nI b ∧ σM.1 41 i = nI b
/-- the tape -/
def ER (σX σM : HS) : Prop := ∃ L, L ≤ 2000 ∧ σX.1 1 1 = nI L ∧ σM.1 0 2 = nI L ∧ ∀ j, j < L → σX.1 16 j = σM.1 1 j
def kyL : List (List Nat) := [[109, 105, 110, 117, 116, 101], [102, 97, 109, 105, 108, 121], [108, 101, 97, 115, 101], [99, 111, 117, 103, 104, 115], [119, 111, 114, 116, 104], [114, 101, 110, 116, 115], [99, 117, 114, 101, 115], [100, 117, 115, 116], [115, 121, 114, 117, 112], [115, 101, 101, 100], [105, 102], [116, 104, 101, 110], [101, 108, 115, 101], [110, 111, 119], [109, 97, 116, 116, 101, 114], [100, 117, 115, 116, 121], [115, 119, 101, 101, 116], [122, 101, 97, 108], [108, 111, 118, 101], [119, 101, 101, 107], [112, 97, 114, 116], [119, 104, 105, 99, 104]]
def kvl (l : List Nat) : Nat := l.foldl (fun a c => a * 27 + (c - 96)) 0
def keyV (k : Nat) : Int64 := lN (kvl (kyL.getD k []))
def Rel (n : Nat) (σX σM : HS) : Prop := ∃ (side nm nf : Nat) (z l : Nat → Int32) (sd : Int32) (Ls : Nat → Lawt), TR σX σM side nm nf z l sd Ls ∧ RR nm (σX.1 14) (σM.1 31) ∧ RV nm nf n (σM.1 31) ∧ PR σX σM nm nf n ∧ SR σX σM nm nf n ∧ WR σX σM nm ∧ ER σX σM ∧ σX.1 2 1 = σM.1 0 17 ∧ ∀ k, k < 22 → σM.2 7 k = keyV k
def sX : List Nat := [8, 15, 39, 40, 41, 42, 43, 44, 45, 49]
def sM : List Nat := [29, 30, 32, 34, 35, 36, 37, 38, 42]
/-- a question leaves all but the rows to work on -/
def qX (σ σ' : HS) : Prop := (∀ h, h ∉ [8, 11, 15, 39, 40, 41, 42, 43, 44, 45, 49] → σ'.1 h = σ.1 h) ∧ σ'.1 11 6 = σ.1 11 6
theorem qX.of {S : List Nat} {σ σ' : HS} (k : kX S σ σ') (h : ∀ x ∈ S, x ∈ sX) : qX σ σ' := by
  have k' := k.up h
  refine ⟨fun x hx => k'.1 x (fun hm => hx ?_), by rw [k'.1 11 (by decide)]⟩
  simp only [sX, List.mem_cons, List.not_mem_nil, or_false] at hm ⊢
  omega
theorem qX.rf {σ : HS} : qX σ σ := ⟨fun _ _ => rfl, rfl⟩
theorem qX.tr {σ σ1 σ2 : HS} (h1 : qX σ σ1) (h2 : qX σ1 σ2) : qX σ σ2 := ⟨fun h a => (h2.1 h a).trans (h1.1 h a), h2.2.trans h1.2⟩
abbrev qM (σ σ' : HS) : Prop := kM sM [46, 49] σ σ'
theorem s_sM : ∀ x, 19 ≤ x → x ≤ 27 → x ∉ sM := by intro x h1 h2 h; simp only [sM, List.mem_cons, List.not_mem_nil, or_false] at h; omega
theorem PR_mono {σX σM : HS} {nm nf n n' : Nat} (hn : n ≤ n') (h : PR σX σM nm nf n) : PR σX σM nm nf n' := by
  obtain ⟨u, nx, h1, h2, h3, h4, h5, h6⟩ := h
  exact ⟨u, nx, h1, h2, h3, h4, h5, fun i hi => ⟨(h6 i hi).1, RV_mono hn (h6 i hi).2⟩⟩
theorem SR_mono {σX σM : HS} {nm nf n n' : Nat} (hn : n ≤ n') (h : SR σX σM nm nf n) : SR σX σM nm nf n' := by
  intro s hs
  rcases h s hs with h | ⟨h1, h2, h3, h4⟩
  · exact Or.inl h
  · exact Or.inr ⟨h1, h2, h3, RV_mono hn h4⟩
theorem PR_eq {σX σM σX' σM' : HS} {nm nf n : Nat} (e6 : σX'.1 6 = σX.1 6) (e36 : σX'.1 36 = σX.1 36) (e50 : σM'.1 0 50 = σM.1 0 50) (e33 : σM'.1 33 = σM.1 33) (h : PR σX σM nm nf n) : PR σX' σM' nm nf n := by
  unfold PR at h ⊢
  rw [e6, e36, e50, e33]
  exact h
theorem SR_eq {σX σM σX' σM' : HS} {nm nf n : Nat} (e37 : σX'.1 37 = σX.1 37) (e38 : σX'.1 38 = σX.1 38) (e43 : σM'.1 43 = σM.1 43) (e44 : σM'.1 44 = σM.1 44) (h : SR σX σM nm nf n) : SR σX' σM' nm nf n := by
  unfold SR at h ⊢
  rw [e37, e38, e43, e44]
  exact h
theorem WR_eq {σX σM σX' σM' : HS} {nm : Nat} (e6 : σX'.1 11 6 = σX.1 11 6) (e46 : σX'.1 46 = σX.1 46) (e47 : σX'.1 47 = σX.1 47) (e48 : σX'.1 48 = σX.1 48) (e57 : σM'.1 0 57 = σM.1 0 57) (e39 : σM'.1 39 = σM.1 39) (e40 : σM'.1 40 = σM.1 40) (e41 : σM'.1 41 = σM.1 41) (h : WR σX σM nm) : WR σX' σM' nm := by
  unfold WR at h ⊢
  rw [e6, e46, e47, e48, e57, e39, e40, e41]
  exact h
theorem ER_eq {σX σM σX' σM' : HS} (e1 : σX'.1 1 = σX.1 1) (e16 : σX'.1 16 = σX.1 16) (e2 : σM'.1 0 2 = σM.1 0 2) (m1 : σM'.1 1 = σM.1 1) (h : ER σX σM) : ER σX' σM' := by
  unfold ER at h ⊢
  rw [e1, e16, e2, m1]
  exact h
theorem TR_q {σX σM σX' σM' : HS} {side nm nf : Nat} {z l : Nat → Int32} {sd : Int32} {Ls : Nat → Lawt} {S F : List Nat} (e3 : σX'.1 3 = σX.1 3) (e23 : σX'.1 23 = σX.1 23) (e24 : σX'.1 24 = σX.1 24) (e26 : σX'.1 26 = σX.1 26) (e27 : σX'.1 27 = σX.1 27) (e28 : σX'.1 28 = σX.1 28) (k : kM S F σM σM') (hS : ∀ x, 19 ≤ x → x ≤ 27 → x ∉ S) (h8 : 8 ∉ S) (h11 : 11 ∉ S) (h12 : 12 ∉ S) (h13 : 13 ∉ S) (h18 : 18 ∉ S) (hF : 18 ∉ F) (h : TR σX σM side nm nf z l sd Ls) : TR σX' σM' side nm nf z l sd Ls := by
  obtain ⟨h1, h2, h3, h4, h5⟩ := h
  exact ⟨TX_eq h1 e3 e23 e24 e26 e27 e28, by rw [e3]; exact h2, MM_kM k hS h8 h11 hF h3, fun j hj => by rw [k.1 12 (by decide) h12, k.1 13 (by decide) h13]; exact h4 j hj, by rw [k.1 18 (by decide) h18]; exact h5⟩
theorem Rel_q {n : Nat} {σX σM σX' σM' : HS} (hR : Rel n σX σM) (hX : qX σX σX') (hM : qM σM σM') : Rel (n + 1) σX' σM' := by
  obtain ⟨side, nm, nf, z, l, sd, Ls, t, r, v, p, s, w, e, pl, ky⟩ := hR
  refine ⟨side, nm, nf, z, l, sd, Ls, TR_q (hX.1 3 (by decide)) (hX.1 23 (by decide)) (hX.1 24 (by decide)) (hX.1 26 (by decide)) (hX.1 27 (by decide)) (hX.1 28 (by decide)) hM s_sM (by decide) (by decide) (by decide) (by decide) (by decide) (by decide) t, ?_, ?_, ?_, ?_, ?_, ?_, ?_, ?_⟩
  · rw [hX.1 14 (by decide), hM.1 31 (by decide) (by decide)]; exact r
  · rw [hM.1 31 (by decide) (by decide)]; exact RV_mono (by omega) v
  · exact PR_mono (by omega) (PR_eq (hX.1 6 (by decide)) (hX.1 36 (by decide)) (hM.2.1 50 (by decide)) (hM.1 33 (by decide) (by decide)) p)
  · exact SR_mono (by omega) (SR_eq (hX.1 37 (by decide)) (hX.1 38 (by decide)) (hM.1 43 (by decide) (by decide)) (hM.1 44 (by decide) (by decide)) s)
  · exact WR_eq hX.2 (hX.1 46 (by decide)) (hX.1 47 (by decide)) (hX.1 48 (by decide)) (hM.2.1 57 (by decide)) (hM.1 39 (by decide) (by decide)) (hM.1 40 (by decide) (by decide)) (hM.1 41 (by decide) (by decide)) w
  · exact ER_eq (hX.1 1 (by decide)) (hX.1 16 (by decide)) (hM.2.1 2 (by decide)) (hM.1 1 (by decide) (by decide)) e
  · rw [hX.1 2 (by decide), hM.2.1 17 (by decide)]; exact pl
  · rw [hM.2.2]; exact ky
/-! Guards of both sides. -/
theorem one_ne : ¬ (1 : Int32) = 0 := by decide
theorem g_sel {x a b : Int32} (h : x < a ∨ b < x) : (if x < a ∨ b < x then (0 : Int32) else 1) = 0 := if_pos h
theorem X_isMinute_i {σ : HS} {nm k : Nat} (h3 : σ.1 3 0 = nI nm) (hnm : nm ≤ 10) (hk : k < nm) : FX11_isMinute (nI k) σ = some (1, σ) := by
  unfold FX11_isMinute
  rw [h3, X_within, bdI_s, if_neg (fun h => h.elim (rng_in (by omega) hk).1 (rng_in (by omega) hk).2)]
  rfl
theorem X_isMinute_o {σ : HS} {nm : Nat} {x : Int32} (h3 : σ.1 3 0 = nI nm) (h : x < 0 ∨ nI nm - 1 < x) : FX11_isMinute x σ = some (0, σ) := by
  unfold FX11_isMinute
  rw [h3, X_within, bdI_s, if_pos h]
  rfl
theorem X_isFamily_i {σ : HS} {nf k : Nat} (h3 : σ.1 3 1 = nI nf) (hnf : nf ≤ 5) (hk : k < nf) : FX11_isFamily (nI k) σ = some (1, σ) := by
  unfold FX11_isFamily
  rw [h3, X_within, bdI_s, if_neg (fun h => h.elim (rng_in (by omega) hk).1 (rng_in (by omega) hk).2)]
  rfl
theorem X_isFamily_o {σ : HS} {nf : Nat} {x : Int32} (h3 : σ.1 3 1 = nI nf) (h : x < 0 ∨ nI nf - 1 < x) : FX11_isFamily x σ = some (0, σ) := by
  unfold FX11_isFamily
  rw [h3, X_within, bdI_s, if_pos h]
  rfl
theorem X_isPart_i {σ : HS} {k : Nat} (hk : k < 8) : FX11_isPart (nI k) σ = some (1, σ) := by
  rw [X_isPart, if_neg (fun h => h.elim (rng_in (n := 8) (by omega) hk).1 (rng_in (n := 8) (by omega) hk).2)]
theorem X_isPart_o {σ : HS} {x : Int32} (h : x < 0 ∨ nI 8 - 1 < x) : FX11_isPart x σ = some (0, σ) := by
  rw [X_isPart, if_pos (show x < 0 ∨ 7 < x from h)]
theorem X_wi_i {σ : HS} {n k : Nat} (hn : n < 2 ^ 30) (hk : k ≤ n) : FX11_within (nI k) 0 (nI n) σ = some (1, σ) := by
  rw [X_within, if_neg (fun h => h.elim (rngT_in hn hk).1 (rngT_in hn hk).2)]
theorem X_wi_o {σ : HS} {n : Nat} {x : Int32} (h : x < 0 ∨ nI n < x) : FX11_within x 0 (nI n) σ = some (0, σ) := by
  rw [X_within, if_pos h]
theorem M_in_i {σ : HS} {n k : Nat} (hn : n < 2 ^ 30) (hk : k ≤ n) : FX12_in (nI k) 0 (nI n) σ = some (1, σ) := by
  rw [M_in, if_neg (fun h => h.elim (rngT_in hn hk).1 (rngT_in hn hk).2)]
theorem M_in_o {σ : HS} {n : Nat} {x : Int32} (h : x < 0 ∨ nI n < x) : FX12_in x 0 (nI n) σ = some (0, σ) := by
  rw [M_in, if_pos h]
theorem M_isPart_i {σ : HS} {k : Nat} (hk : k < 8) : FX12_isPart (nI k) σ = some (1, σ) := by
  rw [M_isPart, if_neg (fun h => h.elim (rng_in (n := 8) (by omega) hk).1 (rng_in (n := 8) (by omega) hk).2)]
theorem M_isPart_o {σ : HS} {x : Int32} (h : x < 0 ∨ nI 8 - 1 < x) : FX12_isPart x σ = some (0, σ) := by
  rw [M_isPart, if_pos (show x < 0 ∨ 7 < x from h)]
theorem M_isMinute_i {σ : HS} {side nm nf k : Nat} {Ls : Nat → Lawt} (hM : MM σ side nm nf Ls) (hk : k < nm) : FX12_isMinute (nI k) σ = some (1, σ) := by
  have := hM.2.2.1
  unfold FX12_isMinute
  rw [M_many hM, bdI_s, M_in, bdI_s, if_neg (fun h => h.elim (rng_in (by omega) hk).1 (rng_in (by omega) hk).2)]
  rfl
theorem M_isMinute_o {σ : HS} {side nm nf : Nat} {x : Int32} {Ls : Nat → Lawt} (hM : MM σ side nm nf Ls) (h : x < 0 ∨ nI nm - 1 < x) : FX12_isMinute x σ = some (0, σ) := by
  unfold FX12_isMinute
  rw [M_many hM, bdI_s, M_in, bdI_s, if_pos h]
  rfl
theorem M_fams {σ : HS} {side nm nf : Nat} {Ls : Nat → Lawt} (hM : MM σ side nm nf Ls) {β : Type} {F : Int32 → Option β} : gd (ix (σ.1 0 18) 2) (F (σ.1 11 ((σ.1 0 18).toNatClampNeg))) = F (nI nf) := by
  have h1 := hM.1.1
  rw [hM.1.2.1, gd_t (ix_nI h1 (by omega)), cl_nI (by omega), hM.2.2.2]
theorem M_isFamily_i {σ : HS} {side nm nf k : Nat} {Ls : Nat → Lawt} (hM : MM σ side nm nf Ls) (hk : k < nf) : FX12_isFamily (nI k) σ = some (1, σ) := by
  have := hM.1.2.2.1
  unfold FX12_isFamily
  rw [M_fams hM (F := fun v => bdI (FX12_in (nI k) (0 : Int32) (v - (1 : Int32)) σ) fun r_2 σ_3 => gd (isB r_2) (some (r_2, σ_3))), M_in, bdI_s, if_neg (fun h => h.elim (rng_in (by omega) hk).1 (rng_in (by omega) hk).2)]
  rfl
theorem M_isFamily_o {σ : HS} {side nm nf : Nat} {x : Int32} {Ls : Nat → Lawt} (hM : MM σ side nm nf Ls) (h : x < 0 ∨ nI nf - 1 < x) : FX12_isFamily x σ = some (0, σ) := by
  unfold FX12_isFamily
  rw [M_fams hM (F := fun v => bdI (FX12_in x (0 : Int32) (v - (1 : Int32)) σ) fun r_2 σ_3 => gd (isB r_2) (some (r_2, σ_3))), M_in, bdI_s, if_pos h]
  rfl
theorem X_isMatter_i {σ : HS} {k : Nat} (hk : k ≤ 5) : FX11_isMatter (nI k) σ = some (1, σ) := by
  unfold FX11_isMatter
  rw [show (5 : Int32) = nI 5 from rfl, X_wi_i (by omega) hk, bdI_s]
  rfl
theorem X_isMatter_o {σ : HS} {x : Int32} (h : x < 0 ∨ nI 5 < x) : FX11_isMatter x σ = some (0, σ) := by
  unfold FX11_isMatter
  rw [show (5 : Int32) = nI 5 from rfl, X_wi_o h, bdI_s]
  rfl
theorem M_isMatter_i {σ : HS} {k : Nat} (hk : k ≤ 5) : FX12_isMatter (nI k) σ = some (1, σ) := by
  unfold FX12_isMatter
  rw [show (5 : Int32) = nI 5 from rfl, M_in_i (by omega) hk, bdI_s]
  rfl
theorem M_isMatter_o {σ : HS} {x : Int32} (h : x < 0 ∨ nI 5 < x) : FX12_isMatter x σ = some (0, σ) := by
  unfold FX12_isMatter
  rw [show (5 : Int32) = nI 5 from rfl, M_in_o h, bdI_s]
  rfl
theorem M_isLong_i {σ : HS} {k : Nat} (hk : k ≤ 40) : FX12_isLong (nI k) σ = some (1, σ) := by
  unfold FX12_isLong
  rw [show (40 : Int32) = nI 40 from rfl, M_in_i (by omega) hk, bdI_s]
  rfl
theorem M_isLong_o {σ : HS} {x : Int32} (h : x < 0 ∨ nI 40 < x) : FX12_isLong x σ = some (0, σ) := by
  unfold FX12_isLong
  rw [show (40 : Int32) = nI 40 from rfl, M_in_o h, bdI_s]
  rfl
/-! The class's work, told by the reference's row. -/
theorem WX_congr {σ : HS} {q q' : Nat → Nat} {nm : Nat} (hnm : nm ≤ 10) (h : ∀ m, m < nm → q m = q' m) (hW : WX σ q nm) : WX σ q' nm := by
  obtain ⟨h1, h2, h3, h4, h5⟩ := hW
  refine ⟨h1, ?_, ?_, fun i hi => by rw [← h i hi]; exact h4 i hi, fun h0 m j hm hj => ?_⟩
  · rw [h2]; congr 1; exact bS_congr nm (fun p hp => by rw [h p hp])
  · rw [h3]; congr 1; exact bS_congr nm (fun p hp => by rw [h p hp])
  · rw [h5 h0 m j hm hj]
    congr 1
    by_cases hlt : m < nm
    · rw [if_pos hlt, if_pos hlt]; exact fwN_congr m j (fun i hi => h i (by omega))
    · rw [if_neg hlt, if_neg hlt]
theorem X_weighG {σ : HS} {nm nf st : Nat} {z l : Nat → Int32} {Ls : Nat → Lawt} {G : Nat → Int32} (hT : TX σ nm nf z l Ls) (hst : isSt st) (hG : RR nm (σ.1 (st + 10)) G) : ∃ σ', FX0_weigh st σ = some σ' ∧ kX [8, 39, 40, 41, 42] σ σ' ∧ WX σ' (qF (Ls 0) G) nm := by
  have hnm := hT.1
  obtain ⟨σ', h1, k1, w1⟩ := X_weigh hT hst
  exact ⟨σ', h1, k1, WX_congr hnm (fun m hm => qF_congr hG (by omega)) w1⟩
theorem vaF_congr {L : Lawt} {q q' : Nat → Nat} {g g' : Nat → Int32} {z l : Int32} {nm f p : Nat} (hg : ∀ k, k < 33 → g k = g' k) : ∀ m, m ≤ 10 → (∀ i, i < m → q i = q' i) → vaF L q g z l nm f p m = vaF L q' g' z l nm f p m := by
  intro m
  induction m with
  | zero => intro _ _; rfl
  | succ m ih =>
    intro hm hq
    simp only [vaF]
    rw [ih (by omega) (fun i hi => hq i (by omega)), fwN_congr m p (fun i hi => hq i (by omega)), wthF_congr (fun k hk => hg k (by omega)) (show m < 10 by omega)]
theorem vmG_congr {L : Lawt} {q q' : Nat → Nat} {g g' : Nat → Int32} {z l : Int32} {nm f x : Nat} (hnm : nm ≤ 10) (hg : ∀ k, k < 33 → g k = g' k) (hq : ∀ i, i < nm → q i = q' i) : ∀ (n p : Nat) (a : Int32), vmG L q g z l nm f x n p a = vmG L q' g' z l nm f x n p a := by
  intro n
  induction n with
  | zero => intro p a; rfl
  | succ n ih =>
    intro p a
    simp only [vmG]
    rw [vaF_congr hg nm hnm hq, ih]
theorem haG_congr {L : Lawt} {q q' : Nat → Nat} {g g' : Nat → Int32} {z l : Int32} {nm f : Nat} (hnm : nm ≤ 10) (hg : ∀ k, k < 33 → g k = g' k) (hq : ∀ i, i < nm → q i = q' i) : ∀ (n p : Nat) (a : Int32), p + n ≤ 8 → haG L q g z l nm f n p a = haG L q' g' z l nm f n p a := by
  intro n
  induction n with
  | zero => intro p a _; rfl
  | succ n ih =>
    intro p a hp
    simp only [haG]
    rw [vaF_congr hg nm hnm hq, hg (10 + p) (by omega), ih _ _ (by omega)]
theorem haF_congr {Ls : Nat → Lawt} {g g' : Nat → Int32} {z l : Int32} {nm f : Nat} (hnm : nm ≤ 10) (hg : ∀ k, k < 33 → g k = g' k) : haF Ls g z l nm f = haF Ls g' z l nm f := haG_congr hnm hg (fun i hi => qF_congr hg (by omega)) 8 0 0 (by omega)
theorem X_valueG {σ : HS} {nm nf st f x : Nat} {z l : Nat → Int32} {Ls : Nat → Lawt} {G : Nat → Int32} (hst : isSt st) (hf : f < nf) (hx : x < 1024) (hT : TX σ nm nf z l Ls) (hG : RR nm (σ.1 (st + 10)) G) (hW : WX σ (qF (Ls 0) G) nm) : ∃ σ', FX0_valueOf st (nI f) (nI x) σ = some (vmG (Ls 1) (qF (Ls 0) G) G (z f) (l f) nm f x 8 0 0, σ') ∧ kX [39, 40] σ σ' := by
  have hnm := hT.1
  have hq : ∀ m, m < nm → qF (Ls 0) (rowC nm (σ.1 (st + 10))) m = qF (Ls 0) G m := fun m hm => qF_congr hG (by omega)
  obtain ⟨σ', h1, k1⟩ := X_valueOf hst hf hx hT (WX_congr hnm (fun m hm => (hq m hm).symm) hW)
  rw [vmG_congr hnm hG hq] at h1
  exact ⟨σ', h1, k1⟩
theorem X_haveG {σ : HS} {nm nf st f : Nat} {z l : Nat → Int32} {Ls : Nat → Lawt} {G : Nat → Int32} (hst : isSt st) (hf : f < nf) (hT : TX σ nm nf z l Ls) (hG : RR nm (σ.1 (st + 10)) G) (hW : WX σ (qF (Ls 0) G) nm) : ∃ σ', (bdI (FX7_partsOf st (nI f) σ) fun r σ1 => FX0_valueOf st (nI f) r σ1) = some (haF Ls G (z f) (l f) nm f, σ') ∧ kX [39, 40] σ σ' := by
  have hnm := hT.1
  have hq : ∀ m, m < nm → qF (Ls 0) (rowC nm (σ.1 (st + 10))) m = qF (Ls 0) G m := fun m hm => qF_congr hG (by omega)
  obtain ⟨σ', h1, k1⟩ := X_haveOf hst hf hT (WX_congr hnm (fun m hm => (hq m hm).symm) hW)
  rw [haF_congr hnm hG] at h1
  exact ⟨σ', h1, k1⟩
/-- one part -/
theorem vmG_1 {L : Lawt} {q : Nat → Nat} {g : Nat → Int32} {z l : Int32} {nm f p : Nat} (hp : p < 8) : vmG L q g z l nm f (2 ^ p) 8 0 0 = vaF L q g z l nm f p nm := by
  rcases (show p = 0 ∨ p = 1 ∨ p = 2 ∨ p = 3 ∨ p = 4 ∨ p = 5 ∨ p = 6 ∨ p = 7 by omega) with rfl | rfl | rfl | rfl | rfl | rfl | rfl | rfl <;> simp [vmG]
theorem X_value1 {σ : HS} {nm nf st f p : Nat} {z l : Nat → Int32} {Ls : Nat → Lawt} {G : Nat → Int32} (hst : isSt st) (hf : f < nf) (hp : p < 8) (hT : TX σ nm nf z l Ls) (hG : RR nm (σ.1 (st + 10)) G) (hW : WX σ (qF (Ls 0) G) nm) : ∃ σ', FX0_valueOf st (nI f) ((1 : Int32) <<< (nI p &&& 31)) σ = some (vaF (Ls 1) (qF (Ls 0) G) G (z f) (l f) nm f p nm, σ') ∧ kX [39, 40] σ σ' := by
  have e : (1 : Int32) <<< (nI p &&& 31) = nI (2 ^ p) := by
    have := or_bit p (by omega) 0 (Nat.two_pow_pos p)
    rw [Nat.zero_add] at this
    rw [← this, show nI 0 = (0 : Int32) from rfl, Int32.zero_or]
  have h2 : 2 ^ p ≤ 2 ^ 7 := Nat.pow_le_pow_right (by decide) (by omega)
  obtain ⟨σ', h1, k1⟩ := X_valueG hst hf (show 2 ^ p < 1024 by omega) hT hG hW
  rw [vmG_1 hp] at h1
  exact ⟨σ', by rw [e]; exact h1, k1⟩
