/-! The reference's scanner. -/
def kN (S F T : List Nat) (σ σ' : HS) : Prop := (∀ h, h ≠ 0 → h ∉ S → σ'.1 h = σ.1 h) ∧ (∀ k, k ∉ F → σ'.1 0 k = σ.1 0 k) ∧ ∀ h, h ∉ T → σ'.2 h = σ.2 h
theorem kN.rf {S F T : List Nat} {σ : HS} : kN S F T σ σ := ⟨fun _ _ _ => rfl, fun _ _ => rfl, fun _ _ => rfl⟩
theorem kN.tr {S F T : List Nat} {σ σ1 σ2 : HS} (h1 : kN S F T σ σ1) (h2 : kN S F T σ1 σ2) : kN S F T σ σ2 := ⟨fun h a b => (h2.1 h a b).trans (h1.1 h a b), fun k a => (h2.2.1 k a).trans (h1.2.1 k a), fun h a => (h2.2.2 h a).trans (h1.2.2 h a)⟩
theorem kN.up {S F T S' F' T' : List Nat} {σ σ' : HS} (h : kN S F T σ σ') (hS : ∀ x ∈ S, x ∈ S') (hF : ∀ x ∈ F, x ∈ F') (hT : ∀ x ∈ T, x ∈ T') : kN S' F' T' σ σ' := ⟨fun x a b => h.1 x a (fun c => b (hS x c)), fun k a => h.2.1 k (fun c => a (hF k c)), fun x a => h.2.2 x (fun c => a (hT x c))⟩
theorem kN.pR {S F T : List Nat} {σ σ1 : HS} {h k : Nat} {v : Int32} (h1 : kN S F T σ σ1) (hh : h ≠ 0) (hS : h ∈ S) : kN S F T σ (pI σ1 h k v) := ⟨fun x a b => by rw [pI_o (fun e => b (by rw [e]; exact hS))]; exact h1.1 x a b, fun j b => by rw [pI_o (fun e => hh e.symm)]; exact h1.2.1 j b, fun x b => by rw [pI_2]; exact h1.2.2 x b⟩
theorem kN.pF {S F T : List Nat} {σ σ1 : HS} {k : Nat} {v : Int32} (h1 : kN S F T σ σ1) (hF : k ∈ F) : kN S F T σ (pI σ1 0 k v) := ⟨fun x a b => by rw [pI_o a]; exact h1.1 x a b, fun j b => by rw [pI_s, pk_un (fun e => b (by rw [e]; exact hF))]; exact h1.2.1 j b, fun x b => by rw [pI_2]; exact h1.2.2 x b⟩
theorem kN.l {S F T : List Nat} {σ σ1 : HS} {h k : Nat} {v : Int64} (h1 : kN S F T σ σ1) (hT : h ∈ T) : kN S F T σ (pL σ1 h k v) := ⟨fun x a b => h1.1 x a b, fun j b => h1.2.1 j b, fun x b => by rw [pL_2, if_neg (fun e => b (by rw [e]; exact hT))]; exact h1.2.2 x b⟩
theorem kN.of {S F : List Nat} {σ σ' : HS} (h : kM S F σ σ') : kN S F [] σ σ' := ⟨h.1, h.2.1, fun x _ => by rw [h.2.2]⟩
theorem kN.to {S F : List Nat} {σ σ' : HS} (h : kN S F [] σ σ') : kM S F σ σ' := ⟨h.1, h.2.1, funext fun x => h.2.2 x (by simp)⟩
def BM (σ : HS) (b : Nat → Nat) (L : Nat) : Prop := σ.1 0 4 = nI L ∧ L ≤ 2000 ∧ ∀ j, j < L → σ.1 2 j &&& 255 = nI (b j) ∧ b j < 256
theorem BM_k {S F T : List Nat} {σ σ' : HS} {b : Nat → Nat} {L : Nat} (k : kN S F T σ σ') (h2 : 2 ∉ S) (h4 : 4 ∉ F) (h : BM σ b L) : BM σ' b L := ⟨by rw [k.2.1 4 h4]; exact h.1, h.2.1, fun j hj => by rw [k.1 2 (by decide) h2]; exact h.2.2 j hj⟩
theorem M_byteAt {σ : HS} {b : Nat → Nat} {L p : Nat} (hB : BM σ b L) (hp : p < L) : FX12_byteAt (nI p) σ = some (nI (b p), σ) := by
  have := hB.2.1
  unfold FX12_byteAt
  rw [hB.1, if_neg (nI_ge hp (by omega)), gd_t (ix_nI (by omega) (by omega)), cl_nI (by omega), (hB.2.2 p hp).1]
theorem M_byteE {σ : HS} {b : Nat → Nat} {L p : Nat} (hB : BM σ b L) (hp : L ≤ p) (hp2 : p < 5000) : FX12_byteAt (nI p) σ = some (nI 0, σ) := by
  unfold FX12_byteAt
  rw [hB.1, if_pos (nI_le hp (by omega))]; rfl
theorem M_isLetter {c : Nat} (hc : c < 256) (σ : HS) : FX12_isLetter (nI c) σ = some (bI (isL c), σ) := X_isLetter hc σ
theorem M_isDigit {c : Nat} (hc : c < 256) (σ : HS) : FX12_isDigit (nI c) σ = some (bI (isD c), σ) := X_isDigit hc σ
def mkF (v : Int64) : Nat → Nat → Int32 → Int32
  | 0, _, x => x
  | n + 1, k, x => mkF v n (k + 1) (if keyV k = v then nI (20 + k) else x)
theorem key_ne : ∀ i, i < 22 → ∀ j, j < 22 → i ≠ j → kvl (kyL.getD i []) ≠ kvl (kyL.getD j []) := by decide +kernel
theorem key_lt : ∀ i, i < 22 → kvl (kyL.getD i []) < 2 ^ 63 := by decide +kernel
theorem keyV_ne {i j : Nat} (hi : i < 22) (hj : j < 22) (h : i ≠ j) : keyV i ≠ keyV j := fun e => key_ne i hi j hj h ((pk_lEQ (key_lt i hi) (key_lt j hj)).mp e)
theorem mkF_no (v : Int64) : ∀ n k x, (∀ j, k ≤ j → j < k + n → keyV j ≠ v) → mkF v n k x = x := by
  intro n
  induction n with
  | zero => intro k x _; rfl
  | succ n ih =>
    intro k x h
    simp only [mkF]
    rw [if_neg (h k (by omega) (by omega))]
    exact ih (k + 1) x (fun j h1 h2 => h j (by omega) (by omega))
theorem mkF_kw (v : Int64) : ∀ n k x, k + n = 22 → mkF v n k x = if kwI v n k < 22 then nI (20 + kwI v n k) else x := by
  intro n
  induction n with
  | zero =>
    intro k x _
    rw [show kwI v 0 k = 22 from rfl, if_neg (by omega)]; rfl
  | succ n ih =>
    intro k x hk
    simp only [mkF]
    by_cases h : keyV k = v
    · rw [if_pos h, show kwI v (n + 1) k = k by simp only [kwI]; rw [if_pos h], if_pos (by omega)]
      exact mkF_no v n (k + 1) _ (fun j h1 h2 e => keyV_ne (show j < 22 by omega) (show k < 22 by omega) (by omega) (e.trans h.symm))
    · rw [if_neg h, show kwI v (n + 1) k = kwI v n (k + 1) by simp only [kwI]; rw [if_neg h]]
      exact ih (k + 1) x (by omega)
theorem M_c146 {k7 : Int32 → HS → Option HS} {σ : HS} (x1 x2 x3 : Int32) (v : Int64) (hK : ∀ k, k < 22 → σ.2 7 k = keyV k) : ∀ (n k f : Nat) (x6 : Int32), k + n = 22 → n < f → FX12_cut_146 k7 f x1 x2 x3 v x6 (nI k) σ = FX12_cut_179 k7 x1 x2 x3 v (mkF v n k x6) σ := by
  intro n
  induction n with
  | zero =>
    intro k f x6 hk hf
    obtain ⟨f, rfl⟩ : ∃ z, f = z + 1 := ⟨f - 1, by omega⟩
    rw [FX12_cut_146, if_pos (show (22 : Int32) ≤ nI k from nI_le (a := 22) (by omega) (by omega))]; rfl
  | succ n ih =>
    intro k f x6 hk hf
    obtain ⟨f, rfl⟩ : ∃ z, f = z + 1 := ⟨f - 1, by omega⟩
    simp only [mkF]
    rw [FX12_cut_146, if_neg (show ¬ (22 : Int32) ≤ nI k from nI_ge (b := 22) (by omega) (by omega)), gd_t (ix_nI (by omega) (by omega)), cl_nI (by omega), hK k (by omega), nI_1]
    simp only [hl_]
    by_cases h : keyV k = v
    · rw [if_pos ((lg_cmp_eq _ _).mpr h), if_pos h, show (20 : Int32) + nI k = nI (20 + k) from nI_add 20 k]
      exact ih (k + 1) f _ (by omega) (by omega)
    · rw [if_neg (fun e => h ((lg_cmp_eq _ _).mp e)), if_neg h]
      exact ih (k + 1) f _ (by omega) (by omega)
theorem M_c85 {k7 : Int32 → HS → Option HS} {b : Nat → Nat} {L i : Nat} {σ : HS} (x2 : Int32) (hB : BM σ b L) : ∀ (n m f v : Nat), i + m + n = L → n < f → ∃ v', FX12_cut_85 k7 f (nI i) x2 (nI m) (lN v) σ = FX12_cut_135 k7 (nI i) x2 (nI (m + runN isL b n (i + m))) (lN v') (if m + runN isL b n (i + m) ≤ 8 then 1 else 3) σ ∧ (m + runN isL b n (i + m) ≤ 8 → v' = nmF b (runN isL b n (i + m)) v (i + m)) := by
  have hL := hB.2.1
  have fin : ∀ (m f v : Nat), m ≤ 2000 → FX12_cut_85 k7 (f + 1) (nI i) x2 (nI m) (lN v) σ = (bdI (FX12_byteAt (nI (i + m)) σ) fun r_9 σ_10 => bdI (FX12_isLetter r_9 σ_10) fun r_12 σ_13 => if r_12 = 0 then FX12_cut_135 k7 (nI i) x2 (nI m) (lN v) (if m ≤ 8 then 1 else 3) σ_13 else if (8 : Int32) ≤ nI m then FX12_cut_85 k7 f (nI i) x2 (nI (m + 1)) (lN v) σ_13 else bdI (FX12_byteAt (nI (i + m)) σ_13) fun r_18 σ_19 => bdL (FX12_appends (lN v) r_18 σ_19) fun r_21 σ_22 => FX12_cut_85 k7 f (nI i) x2 (nI (m + 1)) r_21 σ_22) := by
    intro m f v hm
    rw [FX12_cut_85, nI_add, nI_1]
    congr 1
    funext r s
    congr 1
    funext r2 s2
    by_cases h0 : r2 = 0
    · rw [if_pos h0, if_pos h0]
      by_cases h8 : m ≤ 8
      · rw [if_pos (show nI m ≤ (8 : Int32) from nI_le (b := 8) h8 (by omega)), if_pos h8]
      · rw [if_neg (show ¬ nI m ≤ (8 : Int32) from nI_ge (a := 8) (by omega) (by omega)), if_neg h8]
    · rw [if_neg h0, if_neg h0]
  intro n
  induction n with
  | zero =>
    intro m f v hm hf
    obtain ⟨f, rfl⟩ : ∃ z, f = z + 1 := ⟨f - 1, by omega⟩
    rw [fin m f v (by omega), M_byteE hB (by omega) (by omega), bdI_s, M_isLetter (by omega), show isL 0 = false from rfl, bI_f, bdI_s, if_pos rfl]
    exact ⟨v, rfl, fun _ => rfl⟩
  | succ n ih =>
    intro m f v hm hf
    obtain ⟨f, rfl⟩ : ∃ z, f = z + 1 := ⟨f - 1, by omega⟩
    have hb := (hB.2.2 (i + m) (by omega)).2
    rw [fin m f v (by omega), M_byteAt hB (by omega), bdI_s, M_isLetter hb, bdI_s]
    by_cases h : isL (b (i + m)) = true
    · have hl : 97 ≤ b (i + m) ∧ b (i + m) ≤ 122 := of_decide_eq_true h
      rw [h, bI_t, if_neg one_ne, show runN isL b (n + 1) (i + m) = runN isL b n (i + m + 1) + 1 by simp only [runN]; rw [if_pos h]]
      by_cases h8 : 8 ≤ m
      · rw [if_pos (show (8 : Int32) ≤ nI m from nI_le (a := 8) h8 (by omega))]
        obtain ⟨v', e1, e2⟩ := ih (m + 1) f v (by omega) (by omega)
        rw [show i + (m + 1) = i + m + 1 by omega] at e1 e2
        refine ⟨v', ?_, fun h => by omega⟩
        rw [e1, show m + 1 + runN isL b n (i + m + 1) = m + (runN isL b n (i + m + 1) + 1) by omega]
      · rw [if_neg (show ¬ (8 : Int32) ≤ nI m from nI_ge (b := 8) (by omega) (by omega)), M_byteAt hB (by omega), bdI_s]
        unfold FX12_appends
        rw [if_neg (show ¬ nI (b (i + m)) = (0 : Int32) from ne_I (b := 0) (by omega) (by omega) (by omega)), bdL_s, let_I h, show (27 : Int64) = lN 27 from rfl, lN_mul, lN_add, Nat.mul_comm 27 v]
        obtain ⟨v', e1, e2⟩ := ih (m + 1) f (v * 27 + (b (i + m) - 96)) (by omega) (by omega)
        rw [show i + (m + 1) = i + m + 1 by omega] at e1 e2
        refine ⟨v', ?_, fun h => e2 (by omega)⟩
        rw [e1, show m + 1 + runN isL b n (i + m + 1) = m + (runN isL b n (i + m + 1) + 1) by omega]
    · rw [show isL (b (i + m)) = false by simpa using h, bI_f, if_pos rfl, show runN isL b (n + 1) (i + m) = 0 by simp only [runN]; rw [if_neg h]]
      exact ⟨v, rfl, fun _ => rfl⟩
theorem M_c208 {k7 : Int32 → HS → Option HS} {b : Nat → Nat} {L i : Nat} {σ : HS} (x2 : Int32) (hB : BM σ b L) : ∀ (n m f v : Nat), i + m + n = L → n < f → ∃ v', FX12_cut_208 k7 f (nI i) x2 (nI m) (nI v) σ = FX12_cut_261 k7 (nI i) x2 (nI (m + runN isD b n (i + m))) (nI v') (if m + runN isD b n (i + m) ≤ 4 then 2 else 3) σ ∧ (m + runN isD b n (i + m) ≤ 4 → v' = dgF b (runN isD b n (i + m)) v (i + m)) := by
  have hL := hB.2.1
  have fin : ∀ (m f v : Nat), m ≤ 2000 → FX12_cut_208 k7 (f + 1) (nI i) x2 (nI m) (nI v) σ = (bdI (FX12_byteAt (nI (i + m)) σ) fun r_27 σ_28 => bdI (FX12_isDigit r_27 σ_28) fun r_30 σ_31 => if r_30 = 0 then FX12_cut_261 k7 (nI i) x2 (nI m) (nI v) (if m ≤ 4 then 2 else 3) σ_31 else if (4 : Int32) ≤ nI m then FX12_cut_208 k7 f (nI i) x2 (nI (m + 1)) (nI v) σ_31 else bdI (FX12_byteAt (nI (i + m)) σ_31) fun r_36 σ_37 => FX12_cut_208 k7 f (nI i) x2 (nI (m + 1)) ((((10 : Int32) * nI v) + r_36) - (48 : Int32)) σ_37) := by
    intro m f v hm
    rw [FX12_cut_208, nI_add, nI_1]
    congr 1
    funext r s
    congr 1
    funext r2 s2
    by_cases h0 : r2 = 0
    · rw [if_pos h0, if_pos h0]
      by_cases h8 : m ≤ 4
      · rw [if_pos (show nI m ≤ (4 : Int32) from nI_le (b := 4) h8 (by omega)), if_pos h8]
      · rw [if_neg (show ¬ nI m ≤ (4 : Int32) from nI_ge (a := 4) (by omega) (by omega)), if_neg h8]
    · rw [if_neg h0, if_neg h0]
  intro n
  induction n with
  | zero =>
    intro m f v hm hf
    obtain ⟨f, rfl⟩ : ∃ z, f = z + 1 := ⟨f - 1, by omega⟩
    rw [fin m f v (by omega), M_byteE hB (by omega) (by omega), bdI_s, M_isDigit (by omega), show isD 0 = false from rfl, bI_f, bdI_s, if_pos rfl]
    exact ⟨v, rfl, fun _ => rfl⟩
  | succ n ih =>
    intro m f v hm hf
    obtain ⟨f, rfl⟩ : ∃ z, f = z + 1 := ⟨f - 1, by omega⟩
    have hb := (hB.2.2 (i + m) (by omega)).2
    rw [fin m f v (by omega), M_byteAt hB (by omega), bdI_s, M_isDigit hb, bdI_s]
    by_cases h : isD (b (i + m)) = true
    · have hl : 48 ≤ b (i + m) ∧ b (i + m) ≤ 57 := of_decide_eq_true h
      rw [h, bI_t, if_neg one_ne, show runN isD b (n + 1) (i + m) = runN isD b n (i + m + 1) + 1 by simp only [runN]; rw [if_pos h]]
      by_cases h8 : 4 ≤ m
      · rw [if_pos (show (4 : Int32) ≤ nI m from nI_le (a := 4) h8 (by omega))]
        obtain ⟨v', e1, e2⟩ := ih (m + 1) f v (by omega) (by omega)
        rw [show i + (m + 1) = i + m + 1 by omega] at e1 e2
        refine ⟨v', ?_, fun h => by omega⟩
        rw [e1, show m + 1 + runN isD b n (i + m + 1) = m + (runN isD b n (i + m + 1) + 1) by omega]
      · rw [if_neg (show ¬ (4 : Int32) ≤ nI m from nI_ge (b := 4) (by omega) (by omega)), M_byteAt hB (by omega), bdI_s, show (10 : Int32) = nI 10 from rfl, pk_mul, nI_add, show (48 : Int32) = nI 48 from rfl, pk_sub (by omega), show 10 * v + b (i + m) - 48 = 10 * v + (b (i + m) - 48) by omega]
        obtain ⟨v', e1, e2⟩ := ih (m + 1) f (10 * v + (b (i + m) - 48)) (by omega) (by omega)
        rw [show i + (m + 1) = i + m + 1 by omega] at e1 e2
        refine ⟨v', ?_, fun h => e2 (by omega)⟩
        rw [e1, show m + 1 + runN isD b n (i + m + 1) = m + (runN isD b n (i + m + 1) + 1) by omega]
    · rw [show isD (b (i + m)) = false by simpa using h, bI_f, if_pos rfl, show runN isD b (n + 1) (i + m) = 0 by simp only [runN]; rw [if_neg h]]
      exact ⟨v, rfl, fun _ => rfl⟩
theorem M_token {k : Nat} {σ : HS} (x1 x2 x3 : Int32) (x4 : Int64) (h10 : σ.1 0 10 = nI k) (hk : k < 403) : ∃ σ', FX12_token x1 x2 x3 x4 σ = some σ' ∧ kN [3, 4, 5] [10] [6] σ σ' ∧ σ'.1 0 10 = nI (k + 1) ∧ (σ'.1 3 k = x1 ∧ σ'.1 4 k = x2 ∧ σ'.1 5 k = x3 ∧ σ'.2 6 k = x4) ∧ ∀ j, j ≠ k → σ'.1 3 j = σ.1 3 j ∧ σ'.1 4 j = σ.1 4 j ∧ σ'.1 5 j = σ.1 5 j ∧ σ'.2 6 j = σ.2 6 j := by
  have i1 : ix (nI k) 403 = true := ix_nI hk (by omega)
  refine ⟨pI (pL (pI (pI (pI σ 3 k x1) 4 k x2) 5 k x3) 6 k x4) 0 10 (nI (k + 1)), ?_, ((((kN.rf.pR (by decide) (by decide)).pR (by decide) (by decide)).pR (by decide) (by decide)).l (by decide)).pF (by decide), ?_, ⟨?_, ?_, ?_, ?_⟩, fun j hj => ⟨?_, ?_, ?_, ?_⟩⟩
  · unfold FX12_token
    rw [h10, gd_t i1]
    simp only [hl_]
    rw [cl_nI (by omega), pI_o (show 0 ≠ 3 by omega), h10, gd_t i1, cl_nI (by omega), pI_o (show 0 ≠ 4 by omega), pI_o (show 0 ≠ 3 by omega), h10, gd_t i1, cl_nI (by omega), pI_o (show 0 ≠ 5 by omega), pI_o (show 0 ≠ 4 by omega), pI_o (show 0 ≠ 3 by omega), h10, gd_t i1, cl_nI (by omega), pL_1, pI_o (show 0 ≠ 5 by omega), pI_o (show 0 ≠ 4 by omega), pI_o (show 0 ≠ 3 by omega), h10, nI_1]
  · rw [pI_s, pk_us]
  · rw [pI_o (by omega), pL_1, pI_o (by omega), pI_o (by omega), pI_s, pk_us]
  · rw [pI_o (by omega), pL_1, pI_o (by omega), pI_s, pk_us]
  · rw [pI_o (by omega), pL_1, pI_s, pk_us]
  · rw [pI_2, pL_s]
  · rw [pI_o (by omega), pL_1, pI_o (by omega), pI_o (by omega), pI_s, pk_un hj]
  · rw [pI_o (by omega), pL_1, pI_o (by omega), pI_s, pk_un hj, pI_o (by omega)]
  · rw [pI_o (by omega), pL_1, pI_s, pk_un hj, pI_o (by omega), pI_o (by omega)]
  · rw [pI_2, pL_2, if_pos rfl, updL_a, if_neg hj]; rfl
theorem M_sign {c : Nat} (hc : c < 256) (x1 x3 : Int32) (σ : HS) : FX12_sign x1 (nI c) x3 σ = FX12_sign_95 x1 (nI c) x3 (nI (skd c)) σ := by
  unfold FX12_sign FX12_sign_43 FX12_sign_55 FX12_sign_65 FX12_sign_75 FX12_sign_85 skd
  by_cases h1 : c = 59
  · subst h1; rfl
  by_cases h2 : c = 61
  · subst h2; rfl
  by_cases h3 : c = 40
  · subst h3; rfl
  by_cases h4 : c = 41
  · subst h4; rfl
  by_cases h5 : c = 43
  · subst h5; rfl
  by_cases h6 : c = 45
  · subst h6; rfl
  by_cases h7 : c = 42
  · subst h7; rfl
  by_cases h8 : c = 47
  · subst h8; rfl
  by_cases h9 : c = 60
  · subst h9; rfl
  rw [if_neg (show ¬ nI c = (59 : Int32) from ne_I (b := 59) h1 (by omega) (by omega)), if_neg (show ¬ nI c = (61 : Int32) from ne_I (b := 61) h2 (by omega) (by omega)), if_neg (show ¬ nI c = (40 : Int32) from ne_I (b := 40) h3 (by omega) (by omega)), if_neg (show ¬ nI c = (41 : Int32) from ne_I (b := 41) h4 (by omega) (by omega)), if_neg (show ¬ nI c = (43 : Int32) from ne_I (b := 43) h5 (by omega) (by omega)), if_neg (show ¬ nI c = (45 : Int32) from ne_I (b := 45) h6 (by omega) (by omega)), if_neg (show ¬ nI c = (42 : Int32) from ne_I (b := 42) h7 (by omega) (by omega)), if_neg (show ¬ nI c = (47 : Int32) from ne_I (b := 47) h8 (by omega) (by omega)), if_neg (show ¬ nI c = (60 : Int32) from ne_I (b := 60) h9 (by omega) (by omega)), if_neg h1, if_neg h2, if_neg h3, if_neg h4, if_neg h5, if_neg h6, if_neg h7, if_neg h8, if_neg h9]
  rfl
theorem TKM_s {σ σ' : HS} {b : Nat → Nat} {L k : Nat} (hT : TKM σ b L k) (hk : (σ'.1 3 k = nI (kdN b L (psN b L k)) ∧ σ'.1 4 k = nI (psN b L k) ∧ (kdN b L (psN b L k) = 2 → σ'.1 5 k = nI (vlN b L (psN b L k))) ∧ (kdN b L (psN b L k) = 1 → σ'.2 6 k = lN (nvN b L (psN b L k))))) (ho : ∀ j, j ≠ k → σ'.1 3 j = σ.1 3 j ∧ σ'.1 4 j = σ.1 4 j ∧ σ'.1 5 j = σ.1 5 j ∧ σ'.2 6 j = σ.2 6 j) : TKM σ' b L (k + 1) := by
  intro j hj hg
  by_cases e : j = k
  · subst e; exact hk
  · obtain ⟨o1, o2, o3, o4⟩ := ho j e
    rw [o1, o2, o3, o4]
    exact hT j (by omega) hg
theorem M_cut_7 {b : Nat → Nat} {L : Nat} : ∀ (N n i k f : Nat) (σ : HS), n ≤ N → BM σ b L → (∀ k, k < 22 → σ.2 7 k = keyV k) → σ.1 0 10 = nI k → k ≤ 401 → (∀ j, j < k → kdN b L (psN b L j) ≠ 0) → TKM σ b L k → skN b L i = psN b L k → i + n = L → n < f → ∃ σ', FX12_cut_7 f (nI i) σ = some σ' ∧ kN [3, 4, 5] [10] [6] σ σ' ∧ TKM σ' b L 401 := by
  intro N
  induction N with
  | zero =>
    intro n i k f σ hnN hB hK h10 hk hg hT hs hi hf
    have hL := hB.2.1
    obtain ⟨f, rfl⟩ : ∃ z, f = z + 1 := ⟨f - 1, by omega⟩
    obtain rfl : i = L := by omega
    by_cases h401 : k = 401
    · subst h401
      rw [FX12_cut_7, h10, if_pos (show (400 : Int32) < nI 401 by decide)]
      exact ⟨σ, rfl, kN.rf, hT⟩
    · have hps : psN b i k = i := by
        rw [← hs]
        have := sk_le b i (Nat.le_refl i)
        omega
      have hkd : kdN b i (psN b i k) = 0 := kd_0.mpr (by omega)
      obtain ⟨σ', e1, k1, -, ⟨t1, t2, -, -⟩, ho⟩ := M_token (0 : Int32) (nI i) (0 : Int32) (0 : Int64) h10 (show k < 403 by omega)
      refine ⟨σ', ?_, k1, ?_⟩
      · rw [FX12_cut_7, h10, if_neg (show ¬ (400 : Int32) < nI k from nI_nlt (a := 400) (by omega) (by omega)), M_byteE hB (Nat.le_refl _) (by omega), bdI_s, hB.1, if_neg (nI_nlt (Nat.le_refl _) (by omega)), e1, bdV_s]
      · have hT' := TKM_s (σ' := σ') hT ⟨by rw [hkd, t1]; rfl, by rw [hps, t2], fun h => by omega, fun h => by omega⟩ ho
        intro j hj hgj
        by_cases ej : j < k + 1
        · exact hT' j ej hgj
        · exact absurd hkd (hgj k (by omega))
  | succ N ih =>
    intro n i k f σ hnN hB hK h10 hk hg hT hs hi hf
    have hL := hB.2.1
    by_cases hn0 : n = 0
    · exact ih n i k f σ (by omega) hB hK h10 hk hg hT hs hi hf
    obtain ⟨f, rfl⟩ : ∃ z, f = z + 1 := ⟨f - 1, by omega⟩
    by_cases h401 : k = 401
    · subst h401
      rw [FX12_cut_7, h10, if_pos (show (400 : Int32) < nI 401 by decide)]
      exact ⟨σ, rfl, kN.rf, hT⟩
    have hiL : i < L := by omega
    have hb := (hB.2.2 i hiL).2
    have hsk : skN b L i = if isBl (b i) = true then skN b L (i + 1) else i := by
      unfold skN
      obtain ⟨m, hm⟩ : ∃ m, L - i = m + 1 := ⟨L - i - 1, by omega⟩
      rw [hm, show L - (i + 1) = m by omega]
      simp only [runN]
      by_cases h : isBl (b i) = true
      · rw [if_pos h, if_pos h]; omega
      · rw [if_neg h, if_neg h]; rfl
    have e0 : FX12_cut_7 (f + 1) (nI i) σ = if isBl (b i) = true then FX12_cut_7 f (nI (i + 1)) σ else if isL (b i) = true then FX12_cut_85 (FX12_cut_7 f) fu (nI i) (nI (b i)) (0 : Int32) (0 : Int64) σ else if isD (b i) = true then FX12_cut_208 (FX12_cut_7 f) fu (nI i) (nI (b i)) (0 : Int32) (0 : Int32) σ else bdI (FX12_byteAt (nI (i + 1)) σ) fun r_57 σ_58 => bdI (FX12_sign (nI i) (nI (b i)) r_57 σ_58) fun r_60 σ_61 => hl_ (nI i + r_60) fun x1_63 => FX12_cut_7 f x1_63 σ_61 := by
      rw [FX12_cut_7, h10, if_neg (show ¬ (400 : Int32) < nI k from nI_nlt (a := 400) (by omega) (by omega)), M_byteAt hB hiL, bdI_s, hB.1, if_pos (nI_lt hiL (by omega)), nI_1, M_isLetter hb, bdI_s]
      by_cases h9 : b i = 9
      · rw [if_pos (show nI (b i) = (9 : Int32) by rw [h9]; rfl), if_pos (show isBl (b i) = true from decide_eq_true (by omega))]
      rw [if_neg (show ¬ nI (b i) = (9 : Int32) from ne_I (b := 9) h9 (by omega) (by omega))]
      by_cases h10' : b i = 10
      · rw [if_pos (show nI (b i) = (10 : Int32) by rw [h10']; rfl), if_pos (show isBl (b i) = true from decide_eq_true (by omega))]
      rw [if_neg (show ¬ nI (b i) = (10 : Int32) from ne_I (b := 10) h10' (by omega) (by omega))]
      by_cases h13 : b i = 13
      · rw [if_pos (show nI (b i) = (13 : Int32) by rw [h13]; rfl), if_pos (show isBl (b i) = true from decide_eq_true (by omega))]
      rw [if_neg (show ¬ nI (b i) = (13 : Int32) from ne_I (b := 13) h13 (by omega) (by omega))]
      by_cases h32 : b i = 32
      · rw [if_pos (show nI (b i) = (32 : Int32) by rw [h32]; rfl), if_pos (show isBl (b i) = true from decide_eq_true (by omega))]
      rw [if_neg (show ¬ nI (b i) = (32 : Int32) from ne_I (b := 32) h32 (by omega) (by omega)), if_neg (show ¬ isBl (b i) = true from fun e => by have := of_decide_eq_true e; omega)]
      by_cases hl : isL (b i) = true
      · rw [hl, bI_t, if_neg one_ne, if_pos rfl]
      · rw [show isL (b i) = false by simpa using hl, bI_f, if_pos rfl, if_neg (by decide), M_isDigit hb, bdI_s]
        by_cases hd : isD (b i) = true
        · rw [hd, bI_t, if_neg one_ne, if_pos rfl]
        · rw [show isD (b i) = false by simpa using hd, bI_f, if_pos rfl, if_neg (by decide)]
    rw [e0]
    by_cases hbl : isBl (b i) = true
    · rw [if_pos hbl]
      rw [if_pos hbl] at hsk
      exact ih (n - 1) (i + 1) k f σ (by omega) hB hK h10 hk hg hT (by rw [← hsk]; exact hs) (by omega) (by omega)
    · rw [if_neg hbl]
      rw [if_neg hbl] at hsk
      have hps : psN b L k = i := by rw [← hs]; exact hsk
      have hkd0 : kdN b L (psN b L k) ≠ 0 := fun e => by have := kd_0.mp e; omega
      have hgo : ∀ j, j < k + 1 → kdN b L (psN b L j) ≠ 0 := fun j hj => by
        by_cases e : j = k
        · rw [e]; exact hkd0
        · exact hg j (by omega)
      have hnx : psN b L (k + 1) = skN b L (i + lnN b L i) := by
        show skN b L (psN b L k + lnN b L (psN b L k)) = _
        rw [hps]
      have hll := ln_le b L hiL
      have go : ∀ (σ1 : HS) (x1 x3 : Int32) (x4 : Int64), FX12_token x1 (nI i) x3 x4 σ = some σ1 → x1 = nI (kdN b L i) → (kdN b L i = 2 → x3 = nI (vlN b L i)) → (kdN b L i = 1 → x4 = lN (nvN b L i)) → ∃ σ', FX12_cut_7 f (nI (i + lnN b L i)) σ1 = some σ' ∧ kN [3, 4, 5] [10] [6] σ σ' ∧ TKM σ' b L 401 := by
        intro σ1 x1 x3 x4 et h1 h2 h3
        obtain ⟨σ', e1, k1, s10, ⟨t1, t2, t3, t4⟩, ho⟩ := M_token x1 (nI i) x3 x4 h10 (show k < 403 by omega)
        obtain rfl : σ1 = σ' := by rw [et] at e1; exact Option.some.inj e1
        have hT' := TKM_s (σ' := σ1) hT ⟨by rw [hps, t1, h1], by rw [hps, t2], fun h => by rw [t3]; rw [hps] at h ⊢; exact h2 h, fun h => by rw [t4]; rw [hps] at h ⊢; exact h3 h⟩ ho
        obtain ⟨σ2, e2, k2, T2⟩ := ih (n - lnN b L i) (i + lnN b L i) (k + 1) f σ1 (by omega) (BM_k k1 (by decide) (by decide) hB) (fun j hj => by rw [k1.2.2 7 (by decide)]; exact hK j hj) s10 (by omega) hgo hT' hnx.symm (by omega) (by omega)
        exact ⟨σ2, e2, k1.tr k2, T2⟩
      by_cases hl : isL (b i) = true
      · have hln : lnN b L i = runN isL b (L - i) i := by unfold lnN; rw [if_pos hl]
        rw [if_pos hl]
        obtain ⟨v', e1, e2⟩ := M_c85 (k7 := FX12_cut_7 f) (i := i) (nI (b i)) hB (L - i) 0 fu 0 (by omega) (by show L - i < 5000; omega)
        rw [Nat.zero_add, Nat.add_zero] at e1 e2
        rw [show (0 : Int32) = nI 0 from rfl, show (0 : Int64) = lN 0 from rfl, e1]
        unfold FX12_cut_135
        by_cases h8 : runN isL b (L - i) i ≤ 8
        · rw [if_neg (show ¬ (8 : Int32) < nI (runN isL b (L - i) i) from nI_nlt (a := 8) h8 (by omega)), if_pos h8, show (0 : Int32) = nI 0 from rfl, M_c146 _ _ _ _ hK 22 0 fu _ (by omega) (by show 22 < 5000; omega), mkF_kw _ 22 0 _ (by omega), e2 h8]
          have hkd : kdN b L i = if kwI (lN (nmF b (runN isL b (L - i) i) 0 i)) 22 0 < 22 then 20 + kwI (lN (nmF b (runN isL b (L - i) i) 0 i)) 22 0 else 1 := by
            unfold kdN
            rw [if_neg (by omega), if_pos hl, if_pos h8]
          have hx : (if kwI (lN (nmF b (runN isL b (L - i) i) 0 i)) 22 0 < 22 then nI (20 + kwI (lN (nmF b (runN isL b (L - i) i) 0 i)) 22 0) else (1 : Int32)) = nI (kdN b L i) := by
            rw [hkd]
            by_cases hw : kwI (lN (nmF b (runN isL b (L - i) i) 0 i)) 22 0 < 22
            · rw [if_pos hw, if_pos hw]
            · rw [if_neg hw, if_neg hw]; rfl
          rw [hx]
          unfold FX12_cut_179
          obtain ⟨σ1, et, -⟩ := M_token (nI (kdN b L i)) (nI i) (0 : Int32) (lN (nmF b (runN isL b (L - i) i) 0 i)) h10 (show k < 403 by omega)
          rw [et, bdV_s]
          simp only [hl_]
          rw [nI_add, ← hln]
          exact go σ1 _ _ _ et rfl (fun h => by
            rw [hkd] at h
            by_cases hw : kwI (lN (nmF b (runN isL b (L - i) i) 0 i)) 22 0 < 22
            · rw [if_pos hw] at h; omega
            · rw [if_neg hw] at h; omega) (fun _ => rfl)
        · have hrl := run_le isL b (L - i) i
          rw [if_pos (show (8 : Int32) < nI (runN isL b (L - i) i) from nI_lt (a := 8) (by omega) (by omega)), if_neg h8]
          have hkd : kdN b L i = 3 := by
            unfold kdN
            rw [if_neg (by omega), if_pos hl, if_neg h8]
          unfold FX12_cut_179
          obtain ⟨σ1, et, -⟩ := M_token (3 : Int32) (nI i) (0 : Int32) (lN v') h10 (show k < 403 by omega)
          rw [et, bdV_s]
          simp only [hl_]
          rw [nI_add, ← hln]
          exact go σ1 _ _ _ et (by rw [hkd]; rfl) (fun h => by omega) (fun h => by omega)
      · rw [if_neg hl]
        by_cases hd : isD (b i) = true
        · have hln : lnN b L i = runN isD b (L - i) i := by unfold lnN; rw [if_neg hl, if_pos hd]
          rw [if_pos hd]
          obtain ⟨v', e1, e2⟩ := M_c208 (k7 := FX12_cut_7 f) (i := i) (nI (b i)) hB (L - i) 0 fu 0 (by omega) (by show L - i < 5000; omega)
          rw [Nat.zero_add, Nat.add_zero] at e1 e2
          rw [show (0 : Int32) = nI 0 from rfl, e1]
          unfold FX12_cut_261
          by_cases h4 : runN isD b (L - i) i ≤ 4
          · have hkd : kdN b L i = 2 := by
              unfold kdN
              rw [if_neg (by omega), if_neg hl, if_pos hd, if_pos h4]
            rw [if_pos h4, e2 h4]
            obtain ⟨σ1, et, -⟩ := M_token (2 : Int32) (nI i) (nI (dgF b (runN isD b (L - i) i) 0 i)) (0 : Int64) h10 (show k < 403 by omega)
            rw [et, bdV_s]
            simp only [hl_]
            rw [nI_add, ← hln]
            exact go σ1 _ _ _ et (by rw [hkd]; rfl) (fun _ => rfl) (fun h => by omega)
          · have hkd : kdN b L i = 3 := by
              unfold kdN
              rw [if_neg (by omega), if_neg hl, if_pos hd, if_neg h4]
            rw [if_neg h4]
            obtain ⟨σ1, et, -⟩ := M_token (3 : Int32) (nI i) (nI v') (0 : Int64) h10 (show k < 403 by omega)
            rw [et, bdV_s]
            simp only [hl_]
            rw [nI_add, ← hln]
            exact go σ1 _ _ _ et (by rw [hkd]; rfl) (fun h => by omega) (fun h => by omega)
        · have hln : lnN b L i = 1 := by unfold lnN; rw [if_neg hl, if_neg hd]
          have hkd : kdN b L i = skd (b i) := by
            unfold kdN
            rw [if_neg (by omega), if_neg hl, if_neg hd]
          have hks : skd (b i) ≠ 2 ∧ skd (b i) ≠ 1 := by
            unfold skd
            constructor <;> (repeat' split) <;> omega
          rw [if_neg hd]
          obtain ⟨r57, e57⟩ : ∃ r, FX12_byteAt (nI (i + 1)) σ = some (r, σ) := by
            by_cases h1 : i + 1 < L
            · exact ⟨_, M_byteAt hB h1⟩
            · exact ⟨_, M_byteE hB (by omega) (by omega)⟩
          rw [e57, bdI_s, M_sign hb]
          unfold FX12_sign_95
          obtain ⟨σ1, et, -⟩ := M_token (nI (skd (b i))) (nI i) (0 : Int32) (0 : Int64) h10 (show k < 403 by omega)
          rw [et, bdV_s, bdI_s]
          simp only [hl_]
          rw [nI_1, ← hln]
          exact go σ1 _ _ _ et (by rw [hkd]) (fun h => by omega) (fun h => by omega)
theorem M_cut {b : Nat → Nat} {L : Nat} {σ : HS} (hB : BM σ b L) (hK : ∀ k, k < 22 → σ.2 7 k = keyV k) : ∃ σ', FX12_cut σ = some σ' ∧ kN [3, 4, 5] [10] [6] σ σ' ∧ TKM σ' b L 401 := by
  have hL := hB.2.1
  have kp : kN [3, 4, 5] [10] [6] σ (pI σ 0 10 0) := kN.rf.pF (by decide)
  obtain ⟨σ', e1, k1, t1⟩ := M_cut_7 L L 0 0 fu (pI σ 0 10 0) (Nat.le_refl _) (BM_k kp (by decide) (by decide) hB) hK (by rw [pI_s, pk_us]; rfl) (by omega) (fun j hj => by omega) (fun j hj => by omega) rfl (by omega) (by show L < 5000; omega)
  exact ⟨σ', e1, kp.tr k1, t1⟩
