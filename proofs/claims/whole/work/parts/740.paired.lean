def opI (n c : Nat) : Int32 := if c < n then nI c else -2
theorem pairedOf_m {w : Kw} {L : Nat} {ν : Mem} {R : Rw} {m x : Nat} (hQ : QL w L ν) (hN : NR ν R) (hR : RG w R) (hm : m + 1 ≤ kn w) (hB : Bx (kn w) (m + 1) x) (hl : Low (kn w) x (kn w - (m + 1))) (ht : ∀ y, y < 2 ^ kn w → ν.1 43 y = FFp R (kn w) y) : Wo (fX12_pairedOf (nI x) ν) (fun r => r = opI (kn w) (cP R (kn w) m x)) := by
  have hn := hQ.2.1
  have hb := hl.2.1
  have hx6 := lt64 hB.1 hn
  have hr6 := lt64 (xor_lt hB.1 (show kn w - (m + 1) < kn w by omega)) hn
  have hle := pc_le hn hB.1
  obtain ⟨e1, e2, e3⟩ := cP_al (R := R) hn hm hB hb
  have hvc := vN_g hR hn hm hB hb e2
  obtain ⟨f1, f2⟩ := al_firstF e1
  have hlt : kn w - (m + 1) < cP R (kn w) m x := by
    unfold pP at e2
    by_cases hc : cP R (kn w) m x < kn w
    · rw [if_pos hc] at e2; simp at e2; exact e2.2
    · omega
  unfold fX12_pairedOf
  rw [Wo_b1]
  refine Wo_mono (lowest_m hn hB.1 hl) ?_
  rintro r rfl
  rw [andn hx6 (by omega) hb, bd_eq, bd_eq, nI_1]
  refine lpU (σ := Unit) (fun n' y _ => fX12_pairedOf_l18 (nI x) (nI (kn w - (m + 1))) (nI (x ^^^ 2 ^ (kn w - (m + 1)))) ν n' y) (cP R (kn w) m x) (fun b _ => kn w - (m + 1) < b) _ ?_ ?_ FU (kn w - (m + 1) + 1) () (by omega) (by unfold FU; omega) (by omega)
  · rintro n' b _ hb2 hbl hrec
    have hbn : b < kn w := by omega
    show Wo (fX12_pairedOf_s18 _ _ _ _ _ _) _
    unfold fX12_pairedOf_s18
    have hne : ¬ kn w - (m + 1) = b := by omega
    have hbb : (x ^^^ 2 ^ (kn w - (m + 1))).testBit b = x.testBit b := by rw [tb_xor]; simp [hne]
    have hpb : pP (kn w) m x b = x.testBit b := by
      unfold pP
      rw [if_pos hbn]
      simp [hbl]
    rw [many_m hQ, b1_some, if_neg (by rw [nI_leI (by omega) (by omega)]; omega), B_bit hr6 (by omega), nI_1, hbb]
    by_cases hx : x.testBit b = true
    · have hpt : pP (kn w) m x b = true := by rw [hpb]; exact hx
      have hvb := vN_g hR hn hm hB hb hpt
      rw [if_pos hx, if_pos rfl, pairedWith_m hQ hN hR hm hB hb hbn hpt (fun y hy => ht y (Nat.lt_trans hy hB.1)), b1_some, ix_nI (by omega) (by omega), gd_true, nI_clamp (by omega), ht x hB.1, FF_x hR hn hm hB hb, if_neg]
      · exact hrec () (by omega)
      · rw [dI_eq (by omega) (by omega) (by omega)]
        intro hx2
        have := f2 b hb2 hpt
        rw [hvb.2, hvc.2, hx2] at this
        exact this (by grind)
    · rw [if_neg hx, if_neg (by decide)]
      exact hrec () (by omega)
  · rintro n' _ hbl
    show Wo (fX12_pairedOf_s18 _ _ _ _ _ _) _
    unfold fX12_pairedOf_s18 opI
    by_cases hc : cP R (kn w) m x < kn w
    · have hne : ¬ kn w - (m + 1) = cP R (kn w) m x := by omega
      have hbb : (x ^^^ 2 ^ (kn w - (m + 1))).testBit (cP R (kn w) m x) = true := by
        rw [tb_xor]
        have e4 := e2
        unfold pP at e4
        rw [if_pos hc] at e4
        simp at e4
        simp [hne, e4.1]
      rw [many_m hQ, b1_some, if_neg (by rw [nI_leI (by omega) (by omega)]; omega), B_bit hr6 (by omega), hbb, if_pos rfl, if_pos rfl, pairedWith_m hQ hN hR hm hB hb hc e2 (fun y hy => ht y (Nat.lt_trans hy hB.1)), b1_some, ix_nI (by omega) (by omega), gd_true, nI_clamp (by omega), ht x hB.1, FF_x hR hn hm hB hb, if_pos rfl, Wo_some, if_pos hc]
    · rw [many_m hQ, b1_some, if_pos (by rw [nI_leI (by omega) (by omega)]; omega), Wo_some, if_neg hc]
theorem paired51_m {w : Kw} {L : Nat} {ν : Mem} {R : Rw} {i : Nat} (hQ : QL w L ν) (hN : NR ν R) (hR : RG w R) (hi : i < kn w) (ht : ∀ y, y < 2 ^ kn w → ν.1 43 y = FFp R (kn w) y) {c : Nat} : ∀ {n' x : Nat}, pcn x ≤ c → c < n' → x < 2 ^ kn w → x.testBit i = true → Wo (fX12_paired_l51 (nI i) ν n' (nI x)) (fun p => p.1 = pwS R (kn w) (kn w) x i ∧ p.2 = ν) := by
  have hn := hQ.2.1
  induction c with
  | zero =>
    intro n' x hp _ hx hb
    have := pc_xor hn hx hi hb
    omega
  | succ c ih =>
    intro n' x hp hc hx hb
    obtain ⟨n', rfl⟩ : ∃ k, n' = k + 1 := ⟨n' - 1, by omega⟩
    have hx6 := lt64 hx hn
    obtain ⟨a, hl⟩ := low_ex hx (by intro h0; rw [h0, Nat.zero_testBit] at hb; cases hb)
    have hla := hl.1
    obtain ⟨m, hm⟩ : ∃ m, a + (m + 1) = kn w := ⟨kn w - a - 1, by omega⟩
    have ea : a = kn w - (m + 1) := by omega
    have hB := Low_Bx hx hl hm
    subst ea
    have hba := hl.2.1
    obtain ⟨e1, e2, e3⟩ := cP_al (R := R) hn (show m + 1 ≤ kn w by omega) hB hba
    show Wo (fX12_paired_s51 _ _ _ _) _
    unfold fX12_paired_s51
    rw [Wo_b1]
    refine Wo_mono (lowest_m hn hx hl) ?_
    rintro r rfl
    rw [Wo_b1]
    refine Wo_mono (pairedOf_m hQ hN hR (by omega) hB hl ht) ?_
    rintro r rfl
    rw [full_w hB (by omega), pwS_s hba]
    unfold opI pwB
    have hpc1 := pc_xor hn hx (show kn w - (m + 1) < kn w by omega) hba
    refine Wo_if (fun h1 => ?_) (fun h1 => ?_)
    · rw [nI_eq (by omega) (by omega)] at h1
      rw [Wo_some]
      refine ⟨?_, rfl⟩
      dsimp only
      rw [h1, if_pos rfl, if_pos rfl]
    · rw [nI_eq (by omega) (by omega)] at h1
      have h1' : ¬ i = kn w - (m + 1) := fun hx => h1 hx.symm
      rw [if_neg h1', if_neg h1']
      by_cases hcn : cP R (kn w) m x < kn w
      · rw [if_pos hcn, if_pos hcn]
        have e4 := e2
        unfold pP at e4
        rw [if_pos hcn] at e4
        simp at e4
        refine Wo_if (fun h2 => ?_) (fun h2 => ?_)
        · rw [nI_eq (by omega) (by omega)] at h2
          rw [Wo_some, if_pos h2.symm]
          exact ⟨rfl, rfl⟩
        · rw [nI_eq (by omega) (by omega)] at h2
          have h2' : ¬ i = cP R (kn w) m x := fun hx => h2 hx.symm
          have hne : ¬ kn w - (m + 1) = cP R (kn w) m x := by omega
          rw [if_neg h2', andn hx6 (by omega) hba, bd_eq, if_neg (nI_pos (by omega)), andn (lt64 (xor_lt hx (by omega)) hn) (by omega) (by rw [tb_xor, e4.1]; simp [hne]), bd_eq]
          have hB2 := Bx_2 (show m + 1 ≤ kn w by omega) hB hba hcn e4.2
          have hpc2 := pc_2 hn (show m + 1 ≤ kn w by omega) hB hba hcn e4.2 e4.1
          rw [← full_w hB2 (show m ≤ kn w by omega)]
          exact ih (by omega) (by omega) hB2.1 (by rw [tb_xor, tb_xor, hb]; simp [h1, h2])
      · rw [if_neg hcn, if_neg hcn, if_neg (fun hx => n2_nI (show i < 2 ^ 31 by omega) hx.symm), andn hx6 (by omega) hba, bd_eq, if_pos (by decide)]
        have hB1 := Bx_1 (show m + 1 ≤ kn w by omega) hB hba
        rw [← full_w hB1 (show m ≤ kn w by omega)]
        exact ih (by omega) (by omega) hB1.1 (by rw [tb_xor, hb]; simp [h1])
theorem tb_full {n i : Nat} : (2 ^ n - 1).testBit i = decide (i < n) := Nat.testBit_two_pow_sub_one ..
theorem IVp_0 {n : Nat} (hn : n ≤ 6) : IVp n 0 0 (2 ^ n - 1) := by
  have hp : 0 < 2 ^ n := Nat.pow_pos (by omega)
  refine ⟨by omega, hp, fun i hi => ?_, Or.inl ⟨fun i hi => by omega, by rw [pc_mask hn]⟩⟩
  rw [tb_full, Nat.zero_testBit]
  simp [hi]
def pdV (w : Kw) (R : Rw) (o : Option Nat) : Int32 := match o with
  | none => pvS R (kn w) (kn w) (2 ^ kn w - 1)
  | some i => pwS R (kn w) (kn w) (2 ^ kn w - 1) i
theorem paired_c {w : Kw} {μ : Mem} {R : Rw} {z : Int32} {o : Option Nat} (hK : KZ w) (hQ : QC w μ) (hS : SF μ 24 (kp w) R) (hR : RG w R) (hz : (z = -1 ∧ o = none) ∨ ∃ i, i < kn w ∧ z = nI i ∧ o = some i) : Wo (fX11_paired_b15 z μ) (fun p => p.1 = pdV w R o ∧ KC μ p.2) := by
  have hn := hQ.1
  unfold fX11_paired_b15 fX2_search
  have f1 : F3 μ (upI μ 183 2 1000000) := F3_up (by omega)
  rw [hQ.2.1, bd_eq, Wo_b1, Wo_b1]
  refine Wo_mono (pair_c (R := R) (m := kn w) (f := 8) (h := 0) (pd := 0) (X := 2 ^ kn w - 1) (l := 0) hK hR (by omega) (by omega) (IVp_0 hn) (by omega) (SR_fr hS.1 (f1.1 24 (by omega)) (f1.1 25 (by omega)))) ?_
  rintro s ⟨k1, k2, k3⟩
  rw [Wo_some]
  have hkc := F3_KC (F3_tr f1 k1)
  obtain ⟨v, hv, ev⟩ := pvS_nI hR hn (Nat.le_refl _) (IVp_Bx (m := kn w) (by omega) (IVp_0 hn))
  rw [pc_mask hn] at hv
  have e0 : nI 0 + pvS R (kn w) (kn w) (2 ^ kn w - 1) = pvS R (kn w) (kn w) (2 ^ kn w - 1) := by rw [nI_0]; grind
  rw [e0] at k3
  rcases k3 with ⟨b1, b2, b3⟩ | ⟨b1, _, _⟩
  · rcases hz with ⟨rfl, rfl⟩ | ⟨i, hi, rfl, rfl⟩
    · rw [if_pos rfl, Wo_some]
      exact ⟨b2, hkc⟩
    · rw [if_neg (n1_nI (by omega)), ix_nI (by omega) (by omega), gd_true, nI_clamp (by omega), Wo_some]
      refine ⟨?_, hkc⟩
      dsimp only
      rw [b3 i hi]
      dsimp only
      rw [tb_full, if_pos (by simpa using hi)]; rfl
  · exfalso
    apply b1
    rw [rd_Is, ev]
    simp (disch := omega) only [L_add, L_add2, L_mul, L_mul2, L_sub, nI_add, pk_mul, pk_sub, L_le, L_le2, L_lt, L_lt2, L_eq, L_eq2, nI_leI, nI_ltI, nI_eq, nI_clamp, ix_nI, ix_lit, L_cl]
    omega
theorem paired_m {w : Kw} {L : Nat} {ν : Mem} {R : Rw} {z : Int32} {o : Option Nat} (hQ : QL w L ν) (hN : NR ν R) (hR : RG w R) (hz : (z = -1 ∧ o = none) ∨ ∃ i, i < kn w ∧ z = nI i ∧ o = some i) : Wo (fX12_paired_b15 z ν) (fun p => p.1 = pdV w R o ∧ Fc ν p.2) := by
  have hn := hQ.2.1
  have hp0 : 0 < 2 ^ kn w := Nat.pow_pos (by omega)
  unfold fX12_paired_b15
  rw [Wo_b1]
  refine Wo_mono (fillsP_m hQ hN hR) ?_
  rintro s ⟨k1, k2, k3⟩
  have hQs : QL w L s := QL_fr hQ (fun j _ _ => k2 j (by omega)) (by rw [k2 0 (by omega)])
  have hNs : NR s R := NR_fr hN (k2 31 (by omega))
  have hf : Fc ν s := ⟨fun j a b c d => k2 j (by omega), fun k _ _ _ => by rw [k2 0 (by omega)], k3⟩
  have hx6 : 2 ^ kn w - 1 < 64 := lt64 (n := kn w) (by omega) hn
  rw [many_m hQs, b1_some, bd_eq, maskN (by omega)]
  rcases hz with ⟨rfl, rfl⟩ | ⟨i, hi, rfl, rfl⟩
  · rw [if_pos rfl, ix_nI (by omega) (by omega), gd_true, nI_clamp (by omega), b1_some, k1 _ (by omega), Wo_some]
    refine ⟨?_, hf⟩
    dsimp only
    unfold FFp
    rw [pc_mask hn, show (2 : Int32) = nI 2 from rfl, pk_div (by omega) (by omega) (by omega), L_mul2]
    show _ = pvS R (kn w) (kn w) (2 ^ kn w - 1)
    grind
  · rw [if_neg (n1_nI (by omega))]
    refine Wo_mono (paired51_m (c := 6) hQs hNs hR hi k1 (by rw [pc_mask hn]; exact hn) (by unfold FU; omega) (by omega) (by rw [tb_full]; simpa using hi)) ?_
    rintro p ⟨h1, h2⟩
    exact ⟨h1, by rw [h2]; exact hf⟩
theorem r_paired {μ ν : Mem} (h : REL μ ν) (z0 : Int32) : ∃ (r : Int32) (μ' : Mem) (ν' : Mem), fX11_paired z0 μ = some (r, μ') ∧ fX12_paired z0 ν = some (r, ν') ∧ REL μ' ν' := by
  have h' := h
  obtain ⟨w, L, R, a1, a2, a3, a4, a5, a6, a7, a8, a9, a10, a11, a12⟩ := h'
  unfold fX11_paired fX12_paired
  by_cases c2 : z0 = -1
  · rw [if_pos c2, if_pos c2]
    exact rel_of h _ (paired_c (o := none) a1 a2 a5 a4.1 (Or.inl ⟨c2, rfl⟩)) (paired_m a3 a6 a4.1 (Or.inl ⟨c2, rfl⟩))
  · rw [if_neg c2, if_neg c2]
    rcases house_cases a2 a3 z0 with ⟨f1, f2⟩ | ⟨o, ho, rfl, f1, f2⟩
    · rw [f1, f2, b1_some, b1_some, if_pos rfl, if_pos rfl]; exact ⟨_, _, _, rfl, rfl, h⟩
    · rw [f1, f2, b1_some, b1_some, if_neg n10, if_neg n10]
      exact rel_of h _ (paired_c (o := some o) a1 a2 a5 a4.1 (Or.inr ⟨o, ho, rfl, rfl⟩)) (paired_m a3 a6 a4.1 (Or.inr ⟨o, ho, rfl, rfl⟩))
