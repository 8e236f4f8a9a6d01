/-! Face: buy, richest, cure, likely. -/
theorem wthF_rng (L : Lawt) (g : Nat → Int32) (z l : Int32) (f m p : Nat) : ∃ k, k ≤ 9 ∧ wthF L g z l f m p = nI k := clI_rng (n := 9) (by omega) _
theorem vaF_rng {L : Lawt} {q : Nat → Nat} (hq : ∀ m, q m ≤ 4) {g : Nat → Int32} {z l : Int32} {nm f p : Nat} (hnm : nm ≤ 10) (hp : p < 8) : ∀ m, ∃ a, a ≤ 9437184 * m ∧ vaF L q g z l nm f p m = nI a := by
  intro m
  induction m with
  | zero => exact ⟨0, by omega, rfl⟩
  | succ m ih =>
    obtain ⟨a, ha, ea⟩ := ih
    obtain ⟨k, hk, ek⟩ := wthF_rng L g z l f m p
    have h1 := fwN_le hq nm m p hp
    have h2 := p4_lt hnm
    have h3 : fwN q nm m p * k ≤ 1048576 * 9 := Nat.mul_le_mul (by omega) hk
    refine ⟨a + fwN q nm m p * k, by omega, ?_⟩
    simp only [vaF]
    rw [ea, ek, pk_mul, nI_add]
theorem vaF_n {L : Lawt} {q : Nat → Nat} (hq : ∀ m, q m ≤ 4) {g : Nat → Int32} {z l : Int32} {nm f p : Nat} (hnm : nm ≤ 10) (hp : p < 8) : ∃ a, a ≤ 94371840 ∧ vaF L q g z l nm f p nm = nI a := by
  obtain ⟨a, ha, ea⟩ := vaF_rng (L := L) (g := g) (z := z) (l := l) (f := f) hq hnm hp nm
  exact ⟨a, by omega, ea⟩
theorem haG_rng {L : Lawt} {q : Nat → Nat} (hq : ∀ m, q m ≤ 4) {g : Nat → Int32} {z l : Int32} {nm f : Nat} (hnm : nm ≤ 10) : ∀ (n p a : Nat), p + n ≤ 8 → ∃ b, b ≤ a + 94371840 * n ∧ haG L q g z l nm f n p (nI a) = nI b := by
  intro n
  induction n with
  | zero => intro p a _; exact ⟨a, by omega, rfl⟩
  | succ n ih =>
    intro p a hp
    simp only [haG]
    by_cases hc : g (10 + p) = nI f
    · obtain ⟨v, hv, ev⟩ := vaF_n (L := L) (g := g) (z := z) (l := l) (f := f) hq hnm (show p < 8 by omega)
      rw [if_pos hc, ev, nI_add]
      obtain ⟨b, hb, eb⟩ := ih (p + 1) (a + v) (by omega)
      exact ⟨b, by omega, eb⟩
    · rw [if_neg hc]
      obtain ⟨b, hb, eb⟩ := ih (p + 1) a (by omega)
      exact ⟨b, by omega, eb⟩
theorem haF_n {Ls : Nat → Lawt} {g : Nat → Int32} {z l : Int32} {nm f : Nat} (hnm : nm ≤ 10) : ∃ b, b ≤ 754974720 ∧ haF Ls g z l nm f = nI b := by
  obtain ⟨b, hb, eb⟩ := haG_rng (L := Ls 1) (g := g) (z := z) (l := l) (f := f) (q := qF (Ls 0) g) (fun m => (qF_ok (Ls 0) g m).1) hnm 8 0 0 (by omega)
  exact ⟨b, by omega, eb⟩
theorem neg_lt {a b : Nat} (h0 : 0 < a) (ha : a < 2 ^ 30) (hb : b < 2 ^ 30) : ¬ nI b ≤ -nI a := by
  rw [nge_p h0 ha hb]; exact id
theorem nn_0 {b : Nat} (hb : b < 2 ^ 30) : ¬ nI b < 0 := nI_pos (by omega)
theorem s2930 : ∀ x, 19 ≤ x → x ≤ 27 → x ∉ [29, 30] := s29
theorem MQs_v {σ σ' : HS} {side nm nf : Nat} {Ls : Nat → Lawt} {g : Nat → Int32} (h : kM [29, 30] [46] σ σ') (hq : MQs σ side nm nf Ls g) : MQs σ' side nm nf Ls g := MQs_kM h s29 (by decide) (by decide) (by decide) (by decide) (by decide) (by decide) hq
theorem buy_go {side nm nf f : Nat} {z l : Nat → Int32} {Ls : Nat → Lawt} {G : Nat → Int32} {σ1 σ2 : HS} (x2 : Int32) (hf : f < nf) (hnm : nm ≤ 10) (hO : OW G nf) (hnf : nf ≤ 5) : ∀ (n p fl : Nat) (best most : Int32) (σa σb : HS), (best = -2 ∧ most = -2 ∨ ∃ b, b < 8 ∧ best = nI b ∧ most = vaF (Ls 1) (qF (Ls 0) G) G (z f) (l f) nm f b nm) → TX σa nm nf z l Ls → RR nm (σa.1 14) G → WX σa (qF (Ls 0) G) nm → kX [39, 40] σ1 σa → MQs σb side nm nf Ls G → (σb.1 12 (5 * side + f) = z f ∧ σb.1 13 (5 * side + f) = l f) → kM [29, 30] [46] σ2 σb → p + n = 8 → n < fl → ∃ y σa' σb', FX11_buy_40 fl (nI f) x2 best most (nI p) σa = some (y, σa') ∧ FX12_buy_29 fl (nI f) x2 best (nI p) σb = some (y, σb') ∧ kX [39, 40] σ1 σa' ∧ kM [29, 30] [46] σ2 σb' := by
  have hq : ∀ m, qF (Ls 0) G m ≤ 4 := fun m => (qF_ok (Ls 0) G m).1
  intro n
  induction n with
  | zero =>
    intro p fl best most σa σb hb Ta Ra Wa ka Qb zb kb hp hfl
    obtain ⟨fl, rfl⟩ : ∃ z, fl = z + 1 := ⟨fl - 1, by omega⟩
    obtain rfl : p = 8 := by omega
    rw [FX11_buy_40, FX12_buy_29, if_pos (show (8 : Int32) ≤ nI 8 by decide), if_pos (show (8 : Int32) ≤ nI 8 by decide)]
    rcases hb with ⟨h1, h2⟩ | ⟨b, hb, h1, h2⟩
    · rw [h1, h2, if_pos (show (-2 : Int32) < 0 by decide)]
      by_cases h0 : x2 = 0
      · rw [if_pos h0]; exact ⟨-2, σa, σb, rfl, rfl, ka, kb⟩
      · rw [if_neg h0]; exact ⟨-2, σa, σb, rfl, rfl, ka, kb⟩
    · rw [h1, h2, if_neg (nn_0 (by omega))]
      by_cases h0 : x2 = 0
      · rw [if_pos h0, if_pos h0]; exact ⟨nI b, σa, σb, rfl, rfl, ka, kb⟩
      · rw [if_neg h0, if_neg h0]
        obtain ⟨σd, hd, kd⟩ := M_valueOf hf hb Qb
        rw [zb.1, zb.2] at hd
        rw [hd, bdI_s]
        exact ⟨_, σa, σd, rfl, rfl, ka, kM.tr kb kd⟩
  | succ n ih =>
    intro p fl best most σa σb hb Ta Ra Wa ka Qb zb kb hp hfl
    obtain ⟨fl, rfl⟩ : ∃ z, fl = z + 1 := ⟨fl - 1, by omega⟩
    have h8 : ¬ (8 : Int32) ≤ nI p := nI_ge (b := 8) (by omega) (by omega)
    have e10 : (10 : Int32) + nI p = nI (10 + p) := nI_add 10 p
    have ro : σa.1 (4 + 10) (10 + p) = G (10 + p) := by rw [← Ra (10 + p) (by omega), rowC_p (by omega) (by omega)]
    rw [FX11_buy_40, FX12_buy_29, if_neg h8, if_neg h8, X_ownerOf (by omega), bdI_s, ro, e10, gd_t (ix_nI (by omega) (by omega)), cl_nI (by omega), Qb.2.1 (10 + p) (by omega), nI_1]
    rcases hO p (by omega) with ho | ⟨o, ho, eo⟩
    · rw [ho, if_pos rfl, if_neg (show ¬ (0 : Int32) ≤ -2 by decide)]
      obtain ⟨σc, hc, kc⟩ := X_value1 (st := 4) st_4 hf (show p < 8 by omega) Ta Ra Wa
      obtain ⟨v, hv, ev⟩ := vaF_n (L := Ls 1) (q := qF (Ls 0) G) (g := G) (z := z f) (l := l f) (f := f) hq hnm (show p < 8 by omega)
      have Tc := TX_k Ta kc tX_v
      have Rc : RR nm (σc.1 14) G := by rw [kc.1 14 (by decide)]; exact Ra
      have Wc := WX_k kc (by decide) (by decide) (by decide) Wa
      have kac := ka.tr kc
      rw [hc, bdI_s]
      rcases hb with ⟨h1, h2⟩ | ⟨b, hb, h1, h2⟩
      · rw [h1, h2, if_pos (show (-2 : Int32) < 0 by decide), ev, if_neg (show ¬ nI v ≤ (-2 : Int32) from neg_lt (a := 2) (by omega) (by omega) (by omega)), ← ev]
        exact ih (p + 1) fl _ _ σc σb (Or.inr ⟨p, by omega, rfl, rfl⟩) Tc Rc Wc kac Qb zb kb (by omega) (by omega)
      · obtain ⟨σd, hd, kd⟩ := M_valueOf hf (show p < 8 by omega) Qb
        have Qd := MQs_v kd Qb
        obtain ⟨σe, he, ke⟩ := M_valueOf hf hb Qd
        rw [zb.1, zb.2] at hd
        rw [kd.1 12 (by decide) (by decide), kd.1 13 (by decide) (by decide), zb.1, zb.2] at he
        have kde := kM.tr kd ke
        have ze : σe.1 12 (5 * side + f) = z f ∧ σe.1 13 (5 * side + f) = l f := by rw [kde.1 12 (by decide) (by decide), kde.1 13 (by decide) (by decide)]; exact zb
        rw [h1, h2, if_neg (nn_0 (by omega)), hd, bdI_s, he, bdI_s]
        by_cases hle : vaF (Ls 1) (qF (Ls 0) G) G (z f) (l f) nm f p nm ≤ vaF (Ls 1) (qF (Ls 0) G) G (z f) (l f) nm f b nm
        · rw [if_pos hle, if_pos hle]
          exact ih (p + 1) fl _ _ σc σe (Or.inr ⟨b, hb, rfl, rfl⟩) Tc Rc Wc kac (MQs_v ke Qd) ze (kM.tr kb kde) (by omega) (by omega)
        · rw [if_neg hle, if_neg hle]
          exact ih (p + 1) fl _ _ σc σe (Or.inr ⟨p, by omega, rfl, rfl⟩) Tc Rc Wc kac (MQs_v ke Qd) ze (kM.tr kb kde) (by omega) (by omega)
    · rw [eo, if_neg (fun h => neg2_ne (f := o) (by omega) h.symm), if_pos (show (0 : Int32) ≤ nI o from nI_le (a := 0) (by omega) (by omega))]
      exact ih (p + 1) fl _ _ σa σb hb Ta Ra Wa ka Qb zb kb (by omega) (by omega)
theorem sT_22 : St_22 Rel := by
  intro n σX σM hn hR x1 x2
  obtain ⟨side, nm, nf, z, l, sd, Ls, t, r, v, p, s, w, e, pl, ky⟩ := id hR
  obtain ⟨hT, hsd, hM, hzl, hsM⟩ := t
  have hnm := hT.1
  have hnf := hT.2.1
  have h30 := hT.2.2.1
  have h31 := hT.2.2.2.1
  rcases rng x1 nf (by omega) with ⟨f, hf, rfl⟩ | ho
  · have XI := X_isFamily_i h31 hnf hf
    have MI := M_isFamily_i hM hf
    rcases rngT x2 1 (by omega) with ⟨q, hq, rfl⟩ | ho
    · obtain ⟨σa, σb, ha, hb, qa, qb, ka, wa, Qb, Ta, ra, e12, e13⟩ := ready hT hM r hR
      obtain ⟨y, σa', σb', h1, h2, ka', kb'⟩ := buy_go (σ1 := σa) (σ2 := σb) (z := z) (l := l) (nI q) hf hnm v.1 hnf 8 0 fu (-2) (-2) σa σb (Or.inl ⟨rfl, rfl⟩) Ta ra wa kX.rf Qb (by rw [e12, e13]; exact hzl f hf) kM.rf (by omega) (by show 8 < 5000; omega)
      refine ⟨y, σa', σb', ?_, ?_, Rel_q hR (qa.tr (qX.of ka' (by decide))) (qb.tr (kb'.up (by decide) (by decide)))⟩
      · unfold FX11_buy
        rw [XI, bdI_s, if_neg one_ne, show FX11_within (nI q) 0 1 σX = some (1, σX) from X_wi_i (n := 1) (by omega) hq, bdI_s, if_neg one_ne, ha, bdV_s]
        exact h1
      · unfold FX12_buy
        rw [MI, bdI_s, if_neg one_ne, show FX12_in (nI q) 0 1 σM = some (1, σM) from M_in_i (n := 1) (by omega) hq, bdI_s, if_neg one_ne, hb, bdV_s]
        exact h2
    · exact ⟨-1, σX, σM, by simp only [FX11_buy, XI, show FX11_within x2 0 1 σX = some (0, σX) from X_wi_o ho, bdI_s, one_ne, if_false, if_true], by simp only [FX12_buy, MI, show FX12_in x2 0 1 σM = some (0, σM) from M_in_o ho, bdI_s, one_ne, if_false, if_true], Rel_q hR qX.rf kM.rf⟩
  · exact ⟨-1, σX, σM, by simp only [FX11_buy, X_isFamily_o h31 ho, bdI_s, if_true], by simp only [FX12_buy, M_isFamily_o hM ho, bdI_s, if_true], Rel_q hR qX.rf kM.rf⟩
theorem X_haveOf0 {σ : HS} {nm nf f : Nat} {z l : Nat → Int32} {Ls : Nat → Lawt} {G : Nat → Int32} (hf : f < nf) (hT : TX σ nm nf z l Ls) (hG : RR nm (σ.1 14) G) (hW : WX σ (qF (Ls 0) G) nm) : ∃ σ', FX0_haveOf 4 (nI f) σ = some (haF Ls G (z f) (l f) nm f, σ') ∧ kX [39, 40] σ σ' := by
  obtain ⟨σ', h1, k1⟩ := X_haveG (st := 4) st_4 hf hT hG hW
  refine ⟨σ', ?_, k1⟩
  unfold FX0_haveOf
  simp only [bdI_id]
  exact h1
theorem rich_go {side nm nf : Nat} {z l : Nat → Int32} {Ls : Nat → Lawt} {G : Nat → Int32} {σ1 σ2 : HS} (x1 : Int32) (hnm : nm ≤ 10) (hnf : nf ≤ 5) : ∀ (n p fl : Nat) (best most : Int32) (σa σb : HS), (best = -2 ∧ most = -2 ∨ ∃ b, b < nf ∧ best = nI b ∧ most = haF Ls G (z b) (l b) nm b) → TX σa nm nf z l Ls → RR nm (σa.1 14) G → WX σa (qF (Ls 0) G) nm → kX [39, 40] σ1 σa → MQs σb side nm nf Ls G → (∀ j, j < nf → σb.1 12 (5 * side + j) = z j ∧ σb.1 13 (5 * side + j) = l j) → kM [29, 30] [46] σ2 σb → p + n = nf → n < fl → ∃ y σa' σb', FX11_richest_31 fl x1 best most (nI p) σa = some (y, σa') ∧ FX12_richest_20 fl x1 best (nI p) σb = some (y, σb') ∧ kX [39, 40] σ1 σa' ∧ kM [29, 30] [46] σ2 σb' := by
  intro n
  induction n with
  | zero =>
    intro p fl best most σa σb hb Ta Ra Wa ka Qb zb kb hp hfl
    obtain ⟨fl, rfl⟩ : ∃ z, fl = z + 1 := ⟨fl - 1, by omega⟩
    obtain rfl : p = nf := by omega
    have hle : nI p ≤ nI p := nI_le (by omega) (by omega)
    rw [FX11_richest_31, FX12_richest_20, Ta.2.2.2.1, if_pos hle, M_fams Qb.1 (F := fun v => if v ≤ nI p then if best < 0 then some (best, σb) else if x1 = 0 then some (best, σb) else bdI (FX12_haveOf best σb) fun r_5 σ_6 => some (r_5, σ_6) else if best < 0 then FX12_richest_20 fl x1 (nI p) (nI p + 1) σb else bdI (FX12_haveOf (nI p) σb) fun r_9 σ_10 => bdI (FX12_haveOf best σ_10) fun r_12 σ_13 => if r_9 ≤ r_12 then FX12_richest_20 fl x1 best (nI p + 1) σ_13 else FX12_richest_20 fl x1 (nI p) (nI p + 1) σ_13), if_pos hle]
    rcases hb with ⟨h1, h2⟩ | ⟨b, hb, h1, h2⟩
    · rw [h1, h2, if_pos (show (-2 : Int32) < 0 by decide)]
      by_cases h0 : x1 = 0
      · rw [if_pos h0]; exact ⟨-2, σa, σb, rfl, rfl, ka, kb⟩
      · rw [if_neg h0]; exact ⟨-2, σa, σb, rfl, rfl, ka, kb⟩
    · rw [h1, h2, if_neg (nn_0 (by omega))]
      by_cases h0 : x1 = 0
      · rw [if_pos h0, if_pos h0]; exact ⟨nI b, σa, σb, rfl, rfl, ka, kb⟩
      · rw [if_neg h0, if_neg h0]
        obtain ⟨σd, hd, kd⟩ := M_haveOf hb Qb
        rw [(zb b hb).1, (zb b hb).2] at hd
        rw [hd, bdI_s]
        exact ⟨_, σa, σd, rfl, rfl, ka, kM.tr kb kd⟩
  | succ n ih =>
    intro p fl best most σa σb hb Ta Ra Wa ka Qb zb kb hp hfl
    obtain ⟨fl, rfl⟩ : ∃ z, fl = z + 1 := ⟨fl - 1, by omega⟩
    have hpf : p < nf := by omega
    have hle : ¬ nI nf ≤ nI p := nI_ge (by omega) (by omega)
    rw [FX11_richest_31, FX12_richest_20, Ta.2.2.2.1, if_neg hle, M_fams Qb.1 (F := fun v => if v ≤ nI p then if best < 0 then some (best, σb) else if x1 = 0 then some (best, σb) else bdI (FX12_haveOf best σb) fun r_5 σ_6 => some (r_5, σ_6) else if best < 0 then FX12_richest_20 fl x1 (nI p) (nI p + 1) σb else bdI (FX12_haveOf (nI p) σb) fun r_9 σ_10 => bdI (FX12_haveOf best σ_10) fun r_12 σ_13 => if r_9 ≤ r_12 then FX12_richest_20 fl x1 best (nI p + 1) σ_13 else FX12_richest_20 fl x1 (nI p) (nI p + 1) σ_13), if_neg hle, nI_1]
    obtain ⟨σc, hc, kc⟩ := X_haveOf0 hpf Ta Ra Wa
    obtain ⟨v, hv, ev⟩ := haF_n (Ls := Ls) (g := G) (z := z p) (l := l p) (f := p) hnm
    have Tc := TX_k Ta kc tX_v
    have Rc : RR nm (σc.1 14) G := by rw [kc.1 14 (by decide)]; exact Ra
    have Wc := WX_k kc (by decide) (by decide) (by decide) Wa
    have kac := ka.tr kc
    rw [hc, bdI_s]
    rcases hb with ⟨h1, h2⟩ | ⟨b, hb, h1, h2⟩
    · rw [h1, h2, if_pos (show (-2 : Int32) < 0 by decide), ev, if_neg (show ¬ nI v ≤ (-2 : Int32) from neg_lt (a := 2) (by omega) (by omega) (by omega)), ← ev]
      exact ih (p + 1) fl _ _ σc σb (Or.inr ⟨p, hpf, rfl, rfl⟩) Tc Rc Wc kac Qb zb kb (by omega) (by omega)
    · obtain ⟨σd, hd, kd⟩ := M_haveOf hpf Qb
      have Qd := MQs_v kd Qb
      obtain ⟨σe, he, ke⟩ := M_haveOf hb Qd
      rw [(zb p hpf).1, (zb p hpf).2] at hd
      rw [kd.1 12 (by decide) (by decide), kd.1 13 (by decide) (by decide), (zb b hb).1, (zb b hb).2] at he
      have kde := kM.tr kd ke
      have ze : ∀ j, j < nf → σe.1 12 (5 * side + j) = z j ∧ σe.1 13 (5 * side + j) = l j := fun j hj => by rw [kde.1 12 (by decide) (by decide), kde.1 13 (by decide) (by decide)]; exact zb j hj
      rw [h1, h2, if_neg (nn_0 (by omega)), hd, bdI_s, he, bdI_s]
      by_cases hle : haF Ls G (z p) (l p) nm p ≤ haF Ls G (z b) (l b) nm b
      · rw [if_pos hle, if_pos hle]
        exact ih (p + 1) fl _ _ σc σe (Or.inr ⟨b, hb, rfl, rfl⟩) Tc Rc Wc kac (MQs_v ke Qd) ze (kM.tr kb kde) (by omega) (by omega)
      · rw [if_neg hle, if_neg hle]
        exact ih (p + 1) fl _ _ σc σe (Or.inr ⟨p, hpf, rfl, rfl⟩) Tc Rc Wc kac (MQs_v ke Qd) ze (kM.tr kb kde) (by omega) (by omega)
theorem sT_30 : St_30 Rel := by
  intro n σX σM hn hR x1
  obtain ⟨side, nm, nf, z, l, sd, Ls, t, r, v, p, s, w, e, pl, ky⟩ := id hR
  obtain ⟨hT, hsd, hM, hzl, hsM⟩ := t
  have hnm := hT.1
  have hnf := hT.2.1
  have h30 := hT.2.2.1
  have h31 := hT.2.2.2.1
  rcases rngT x1 1 (by omega) with ⟨q, hq, rfl⟩ | ho
  · obtain ⟨σa, σb, ha, hb, qa, qb, ka, wa, Qb, Ta, ra, e12, e13⟩ := ready hT hM r hR
    obtain ⟨y, σa', σb', h1, h2, ka', kb'⟩ := rich_go (σ1 := σa) (σ2 := σb) (z := z) (l := l) (nI q) hnm hnf nf 0 fu (-2) (-2) σa σb (Or.inl ⟨rfl, rfl⟩) Ta ra wa kX.rf Qb (by rw [e12, e13]; exact hzl) kM.rf (by omega) (by show nf < 5000; omega)
    refine ⟨y, σa', σb', ?_, ?_, Rel_q hR (qa.tr (qX.of ka' (by decide))) (qb.tr (kb'.up (by decide) (by decide)))⟩
    · unfold FX11_richest
      rw [show FX11_within (nI q) 0 1 σX = some (1, σX) from X_wi_i (n := 1) (by omega) hq, bdI_s, if_neg one_ne, ha, bdV_s]
      exact h1
    · unfold FX12_richest
      rw [show FX12_in (nI q) 0 1 σM = some (1, σM) from M_in_i (n := 1) (by omega) hq, bdI_s, if_neg one_ne, hb, bdV_s]
      exact h2
  · exact ⟨-1, σX, σM, by simp only [FX11_richest, show FX11_within x1 0 1 σX = some (0, σX) from X_wi_o ho, bdI_s, if_true], by simp only [FX12_richest, show FX12_in x1 0 1 σM = some (0, σM) from M_in_o ho, bdI_s, if_true], Rel_q hR qX.rf kM.rf⟩
theorem sh_2n : ∀ k, k ≤ 10 → (((nI (2 * k)) &&& 31).toBitVec.smod 32).toNat = 2 * k := by decide +kernel
theorem two_I (k : Nat) : (2 : Int32) * nI k = nI (2 * k) := pk_mul 2 k
theorem cure_go {side nm nf : Nat} {z l : Nat → Int32} {Ls : Nat → Lawt} {G : Nat → Int32} {σ1 σ2 : HS} (hnm : nm ≤ 10) (hnf : nf ≤ 5) : ∀ (n p fl : Nat) (x1 : Int32) (σa σb : HS), TX σa nm nf z l Ls → RR nm (σa.1 14) G → WX σa (qF (Ls 0) G) nm → kX [39, 40] σ1 σa → MQs σb side nm nf Ls G → (∀ j, j < nf → σb.1 12 (5 * side + j) = z j ∧ σb.1 13 (5 * side + j) = l j) → kM [29, 30] [46] σ2 σb → p + n = nf → n < fl → ∃ y σa' σb', FX11_cure_15 fl x1 (nI p) σa = some (y, σa') ∧ FX12_cure_8 fl x1 (nI p) σb = some (y, σb') ∧ kX [39, 40] σ1 σa' ∧ kM [29, 30] [46] σ2 σb' := by
  intro n
  induction n with
  | zero =>
    intro p fl x1 σa σb Ta Ra Wa ka Qb zb kb hp hfl
    obtain ⟨fl, rfl⟩ : ∃ z, fl = z + 1 := ⟨fl - 1, by omega⟩
    obtain rfl : p = nf := by omega
    have hle : nI p ≤ nI p := nI_le (by omega) (by omega)
    have hs := Qb.1.1.1
    rw [FX11_cure_15, FX12_cure_8, Ta.2.2.2.1, if_pos hle, Qb.1.1.2.1, gd_t (ix_nI hs (by omega)), cl_nI (by omega), Qb.1.2.2.2, if_pos hle]
    exact ⟨x1, σa, σb, rfl, rfl, ka, kb⟩
  | succ n ih =>
    intro p fl x1 σa σb Ta Ra Wa ka Qb zb kb hp hfl
    obtain ⟨fl, rfl⟩ : ∃ z, fl = z + 1 := ⟨fl - 1, by omega⟩
    have hpf : p < nf := by omega
    have hle : ¬ nI nf ≤ nI p := nI_ge (by omega) (by omega)
    have hs := Qb.1.1.1
    obtain ⟨σc, hc, kc⟩ := X_haveOf0 hpf Ta Ra Wa
    have Tc := TX_k Ta kc tX_v
    have Rc : RR nm (σc.1 14) G := by rw [kc.1 14 (by decide)]; exact Ra
    obtain ⟨σd, hd, kd⟩ := X_cureFor (st := 4) Tc st_4 hpf
    rw [famF_congr (fun k hk => Rc k (by omega)), numF_congr (fun k hk => Rc k (by omega))] at hd
    obtain ⟨v, hv, ev⟩ := haF_n (Ls := Ls) (g := G) (z := z p) (l := l p) (f := p) hnm
    obtain ⟨σe, he, ke⟩ := M_curesOf Qb.1.1 hpf
    rw [(zb p hpf).1, (zb p hpf).2, famF_congr (fun k hk => Qb.2.1 k (by omega)), numF_congr (fun k hk => Qb.2.1 k (by omega))] at he
    have Qe := MQs_v ke Qb
    obtain ⟨σf, hf, kf⟩ := M_haveOf hpf Qe
    rw [ke.1 12 (by decide) (by decide), ke.1 13 (by decide) (by decide), (zb p hpf).1, (zb p hpf).2, ev] at hf
    have Qf := MQs_v kf Qe
    have kef := kM.tr ke kf
    have zf : ∀ j, j < nf → σf.1 12 (5 * side + j) = z j ∧ σf.1 13 (5 * side + j) = l j := fun j hj => by rw [kef.1 12 (by decide) (by decide), kef.1 13 (by decide) (by decide)]; exact zb j hj
    have p4 := p4_lt hnm
    have p40 : 0 < 4 ^ nm := Nat.pow_pos (by decide)
    have e4 : nI v >>> (nI (2 * nm) &&& 31) = nI (v / 4 ^ nm) := by
      rw [pk_shrN (by omega) _ (2 * nm) (sh_2n nm hnm), Nat.pow_mul]
    have hX : FX11_cure_15 (fl + 1) x1 (nI p) σa = if famF (Ls 3) G (z p) (l p) p (numF G p) ≤ nI (v / 4 ^ nm) then FX11_cure_15 fl x1 (nI (p + 1)) σd else FX11_cure_15 fl (x1 ||| ((1 : Int32) <<< (nI p &&& 31))) (nI (p + 1)) σd := by
      rw [FX11_cure_15, Ta.2.2.2.1, if_neg hle, hc, bdI_s]
      simp only [hl_]
      rw [hd, bdI_s, ev, Tc.2.2.1, two_I, e4, nI_1]
    have hnz : nz (nI (4 ^ nm)) = true := decide_eq_true (fun h => by
      have := (nI_eq (b := 0) (by omega) (by omega)).mp h
      omega)
    have hMm : FX12_cure_8 (fl + 1) x1 (nI p) σb = if famF (Ls 3) G (z p) (l p) p (numF G p) ≤ nI (v / 4 ^ nm) then FX12_cure_8 fl x1 (nI (p + 1)) σf else FX12_cure_8 fl (x1 ||| ((1 : Int32) <<< (nI p &&& 31))) (nI (p + 1)) σf := by
      rw [FX12_cure_8, Qb.1.1.2.1, gd_t (ix_nI hs (by omega)), cl_nI (by omega), Qb.1.2.2.2, if_neg hle, he, bdI_s, hf, bdI_s, M_many Qf.1, bdI_s, M_power nm hnm, bdI_s, gd_t hnz, pk_div (by omega) p40 (by omega), nI_1]
    have kcd := kc.tr kd
    have Td := TX_k Ta kcd tX_v
    have Rd : RR nm (σd.1 14) G := by rw [kcd.1 14 (by decide)]; exact Ra
    have Wd := WX_k kcd (by decide) (by decide) (by decide) Wa
    rw [hX, hMm]
    by_cases hcc : famF (Ls 3) G (z p) (l p) p (numF G p) ≤ nI (v / 4 ^ nm)
    · rw [if_pos hcc, if_pos hcc]
      exact ih (p + 1) fl _ σd σf Td Rd Wd (ka.tr kcd) Qf zf (kM.tr kb kef) (by omega) (by omega)
    · rw [if_neg hcc, if_neg hcc]
      exact ih (p + 1) fl _ σd σf Td Rd Wd (ka.tr kcd) Qf zf (kM.tr kb kef) (by omega) (by omega)
theorem sT_29 : St_29 Rel := by
  intro n σX σM hn hR
  obtain ⟨side, nm, nf, z, l, sd, Ls, t, r, v, p, s, w, e, pl, ky⟩ := id hR
  obtain ⟨hT, hsd, hM, hzl, hsM⟩ := t
  have hnm := hT.1
  have hnf := hT.2.1
  have h30 := hT.2.2.1
  have h31 := hT.2.2.2.1
  obtain ⟨σa, σb, ha, hb, qa, qb, ka, wa, Qb, Ta, ra, e12, e13⟩ := ready hT hM r hR
  obtain ⟨y, σa', σb', h1, h2, ka', kb'⟩ := cure_go (σ1 := σa) (σ2 := σb) (z := z) (l := l) hnm hnf nf 0 fu 0 σa σb Ta ra wa kX.rf Qb (by rw [e12, e13]; exact hzl) kM.rf (by omega) (by show nf < 5000; omega)
  refine ⟨y, σa', σb', ?_, ?_, Rel_q hR (qa.tr (qX.of ka' (by decide))) (qb.tr (kb'.up (by decide) (by decide)))⟩
  · unfold FX11_cure
    rw [ha, bdV_s]
    exact h1
  · unfold FX12_cure
    rw [hb, bdV_s]
    exact h2
theorem lk_max : ∀ q, q ≤ 4 → maxI (nI q) ((4 : Int32) - nI q) = if nI q ≤ (2 : Int32) then (4 : Int32) - nI q else nI q := by decide +kernel
theorem lk_le : ∀ q, q ≤ 4 → (nI q ≤ (4 : Int32) - nI q ↔ nI q ≤ (2 : Int32)) := by decide +kernel
theorem likely_go {side nm nf : Nat} {z l : Nat → Int32} {Ls : Nat → Lawt} {G : Nat → Int32} {σ1 σb : HS} (x1 : Int32) (hnm : nm ≤ 10) (Qb : MQs σb side nm nf Ls G) : ∀ (n p fl : Nat) (x2 x3 : Int32) (σa : HS), TX σa nm nf z l Ls → RR nm (σa.1 14) G → kX [39, 40] σ1 σa → p + n = nm → n < fl → ∃ y σa', FX11_likely_18 fl x1 x2 x3 (nI p) σa = some (y, σa') ∧ FX12_likely_22 fl x1 x2 x3 (nI p) σb = some (y, σb) ∧ kX [39, 40] σ1 σa' := by
  intro n
  induction n with
  | zero =>
    intro p fl x2 x3 σa Ta Ra ka hp hfl
    obtain ⟨fl, rfl⟩ : ∃ z, fl = z + 1 := ⟨fl - 1, by omega⟩
    obtain rfl : p = nm := by omega
    have hle : nI p ≤ nI p := nI_le (by omega) (by omega)
    rw [FX11_likely_18, FX12_likely_22, Ta.2.2.1, if_pos hle, M_many Qb.1, bdI_s, if_pos hle]
    by_cases h0 : x1 = 0
    · rw [if_pos h0, if_pos h0]; exact ⟨_, σa, rfl, rfl, ka⟩
    · rw [if_neg h0, if_neg h0]; exact ⟨_, σa, rfl, rfl, ka⟩
  | succ n ih =>
    intro p fl x2 x3 σa Ta Ra ka hp hfl
    obtain ⟨fl, rfl⟩ : ∃ z, fl = z + 1 := ⟨fl - 1, by omega⟩
    have hpm : p < nm := by omega
    have hle : ¬ nI nm ≤ nI p := nI_ge (by omega) (by omega)
    obtain ⟨σc, hc, kc⟩ := X_quartersOf (st := 4) Ta st_4 hpm
    rw [cghF_congr (fun k hk => Ra k (by omega)) (show p < 10 by omega), (qF_ok (Ls 0) G p).2] at hc
    have hq := (qF_ok (Ls 0) G p).1
    have Tc := TX_k Ta kc tX_v
    have Rc : RR nm (σc.1 14) G := by rw [kc.1 14 (by decide)]; exact Ra
    have i10 : ix (nI p) 10 = true := ix_nI (by omega) (by omega)
    have ch := Qb.2.2.1 p hpm
    rw [FX11_likely_18, FX12_likely_22, Ta.2.2.1, if_neg hle, M_many Qb.1, bdI_s, if_neg hle, hc, bdI_s, gd_t i10, cl_nI (by omega), ch]
    unfold FX11_likely_61 FX12_likely_49
    simp only [hl_]
    rw [gd_t i10, gd_t i10, gd_t i10, cl_nI (by omega), ch, lk_max _ hq, nI_1]
    by_cases h2 : nI (qF (Ls 0) G p) ≤ (2 : Int32)
    · rw [if_pos ((lk_le _ hq).mpr h2), if_pos h2, if_pos h2, if_pos h2]
      exact ih (p + 1) fl _ _ σc Tc Rc (ka.tr kc) (by omega) (by omega)
    · rw [if_neg (fun h => h2 ((lk_le _ hq).mp h)), if_neg h2, if_neg h2, if_neg h2, gd_t i10, gd_t i10]
      exact ih (p + 1) fl _ _ σc Tc Rc (ka.tr kc) (by omega) (by omega)
theorem sT_31 : St_31 Rel := by
  intro n σX σM hn hR x1
  obtain ⟨side, nm, nf, z, l, sd, Ls, t, r, v, p, s, w, e, pl, ky⟩ := id hR
  obtain ⟨hT, hsd, hM, hzl, hsM⟩ := t
  have hnm := hT.1
  have hnf := hT.2.1
  have h30 := hT.2.2.1
  have h31 := hT.2.2.2.1
  rcases rngT x1 1 (by omega) with ⟨q, hq, rfl⟩ | ho
  · obtain ⟨σb, hb, kb, Qb, -⟩ := M_copiesFalls hM
    obtain ⟨y, σa', h1, h2, ka'⟩ := likely_go (σ1 := σX) (z := z) (l := l) (nI q) hnm Qb nm 0 fu 0 1 σX hT r kX.rf (by omega) (by show nm < 5000; omega)
    refine ⟨y, σa', σb, ?_, ?_, Rel_q hR (qX.of ka' (by decide)) (kb.up (by decide) (by decide))⟩
    · unfold FX11_likely
      rw [show FX11_within (nI q) 0 1 σX = some (1, σX) from X_wi_i (n := 1) (by omega) hq, bdI_s, if_neg one_ne]
      exact h1
    · unfold FX12_likely
      rw [show FX12_in (nI q) 0 1 σM = some (1, σM) from M_in_i (n := 1) (by omega) hq, bdI_s, if_neg one_ne, hb, bdV_s]
      exact h2
  · exact ⟨-1, σX, σM, by simp only [FX11_likely, show FX11_within x1 0 1 σX = some (0, σX) from X_wi_o ho, bdI_s, if_true], by simp only [FX12_likely, show FX12_in x1 0 1 σM = some (0, σM) from M_in_o ho, bdI_s, if_true], Rel_q hR qX.rf kM.rf⟩
