def Fx (ν ν' : Mem) : Prop := (∀ j, j ≠ 0 → ¬ (29 ≤ j ∧ j ≤ 30) → ¬ (32 ≤ j ∧ j ≤ 34) → ¬ (36 ≤ j ∧ j ≤ 38) → ν'.1 j = ν.1 j) ∧ (∀ k, k ≠ 46 → ν'.1 0 k = ν.1 0 k) ∧ ν'.2 = ν.2
theorem Fx_rfl {ν : Mem} : Fx ν ν := ⟨fun _ _ _ _ _ => rfl, fun _ _ => rfl, rfl⟩
theorem Fx_tr {a b c : Mem} (h : Fx a b) (h2 : Fx b c) : Fx a c := ⟨fun j h0 h1 h3 h4 => (h2.1 j h0 h1 h3 h4).trans (h.1 j h0 h1 h3 h4), fun k a => (h2.2.1 k a).trans (h.2.1 k a), h2.2.2.trans h.2.2⟩
theorem Fw_Fx {ν ν' : Mem} (h : Fw ν ν') : Fx ν ν' := ⟨fun j a b c d => h.1 j a b c (by omega), h.2.1, h.2.2⟩
theorem Fx_Fc {ν ν' : Mem} (h : Fx ν ν') : Fc ν ν' := ⟨fun j a b c d => h.1 j a b c (by omega), fun k a _ _ => h.2.1 k a, h.2.2⟩
theorem shared_m {w : Kw} {L : Nat} {ν : Mem} {R : Rw} {n : Nat} (hQ : QL w L ν) (hM : MR ν R) (h50 : ν.1 0 50 = 1) (hn : n ≤ 30) : Wo (fX12_burnsShared (nI n) ν) (fun s => MR s (dS w R n) ∧ Fw ν s) := by
  have hn6 := hQ.2.1
  unfold fX12_burnsShared
  rw [Wo_b1]
  refine Wo_mono (fillsShare_m hQ hM hn) ?_
  rintro s0 ⟨k1, k2, k3⟩
  refine lp0 (σ := Int32 × Mem) (fun n' x s => fX12_burnsShared_l9 n' s.1 x s.2) (kn w) (by omega) (fun i s => s.1 = nI (lfS w R n i) ∧ MR s.2 (bS w R n i) ∧ UB w R n s.2 ∧ Fw ν s.2) _ (nI n, s0) ⟨rfl, k1, k2, k3⟩ ?_ ?_
  · rintro n' i ⟨x, s⟩ hi ⟨i1, i2, i3, i4⟩ hrec
    dsimp only at i1 i2 i3 i4 ⊢
    subst i1
    have hl := @lfS_le w R n i
    have hg := @gvS_le w R n i
    show Wo (fX12_burnsShared_s9 _ _ _ _) _
    unfold fX12_burnsShared_s9
    have hQ' := QL_Fc hQ (Fw_Fc i4)
    rw [many_m hQ', b1_some, if_neg (by simp (disch := omega) only [L_add, L_add2, L_mul, L_mul2, L_sub, nI_add, pk_mul, pk_sub, L_le, L_le2, L_lt, L_lt2, L_eq, L_eq2, nI_leI, nI_ltI, nI_eq, nI_clamp, ix_nI, ix_lit, L_cl]; omega), Wo_b1]
    refine Wo_mono (shareFor_m hn6 hn hi hl i3) ?_
    rintro r rfl
    rw [bd_eq, pk_sub ow_le, Wo_b1]
    refine Wo_mono (burns_m (n := gvS w R n i) hQ' i2 hi (by omega)) ?_
    rintro s1 ⟨j1, j2⟩
    rw [nI_1]
    refine hrec (nI (lfS w R n (i + 1)), s1) ⟨rfl, j1, ?_, Fw_tr i4 (Fm_Fw j2)⟩
    dsimp only
    unfold UB
    rw [j2.1 36 (by omega) (by omega) (by omega) (by omega) (by omega) (by omega), j2.1 37 (by omega) (by omega) (by omega) (by omega) (by omega) (by omega)]
    exact i3
  · rintro n' ⟨x, s⟩ ⟨i1, i2, i3, i4⟩
    dsimp only at i1 i2 i3 i4 ⊢
    show Wo (fX12_burnsShared_s9 _ _ _ _) _
    unfold fX12_burnsShared_s9
    have hQ' := QL_Fc hQ (Fw_Fc i4)
    rw [many_m hQ', b1_some, if_pos (by simp (disch := omega) only [L_add, L_add2, L_mul, L_mul2, L_sub, nI_add, pk_mul, pk_sub, L_le, L_le2, L_lt, L_lt2, L_eq, L_eq2, nI_leI, nI_ltI, nI_eq, nI_clamp, ix_nI, ix_lit, L_cl]; omega), Wo_b1]
    refine Wo_mono (dayGoes_m (st := none) hQ' i2 (Or.inl ⟨by rw [i4.2.1 50 (by omega)]; exact h50, rfl⟩)) ?_
    rintro s1 ⟨j1, j2⟩
    rw [Wo_some]
    exact ⟨j1, Fw_tr i4 (Fm_Fw j2)⟩
theorem keptAll_m {w : Kw} {L : Nat} {ν : Mem} {R : Rw} (hQ : QL w L ν) (hM : MR ν R) : Wo (fX12_keptAll ν) (fun r => r = sq (fun h => R (12 + h)) (kn w)) := by
  have hn6 := hQ.2.1
  unfold fX12_keptAll
  refine lp0 (fun n' x s => fX12_keptAll_l4 ν n' s x) (kn w) (by omega) (fun i s => s = sq (fun h => R (12 + h)) i) _ 0 rfl ?_ ?_
  · rintro n' i s hi rfl hrec
    show Wo (fX12_keptAll_s4 _ _ _ _) _
    unfold fX12_keptAll_s4
    rw [many_m hQ, b1_some, if_neg (by simp (disch := omega) only [L_add, L_add2, L_mul, L_mul2, L_sub, nI_add, pk_mul, pk_sub, L_le, L_le2, L_lt, L_lt2, L_eq, L_eq2, nI_leI, nI_ltI, nI_eq, nI_clamp, ix_nI, ix_lit, L_cl]; omega), L_add2, ix_nI (by omega) (by omega), gd_true, nI_clamp (by omega), hM _ (by omega), bd_eq, nI_1]
    exact hrec _ rfl
  · rintro n' s rfl
    show Wo (fX12_keptAll_s4 _ _ _ _) _
    unfold fX12_keptAll_s4
    rw [many_m hQ, b1_some, if_pos (by simp (disch := omega) only [L_add, L_add2, L_mul, L_mul2, L_sub, nI_add, pk_mul, pk_sub, L_le, L_le2, L_lt, L_lt2, L_eq, L_eq2, nI_leI, nI_ltI, nI_eq, nI_clamp, ix_nI, ix_lit, L_cl]; omega), Wo_some]
theorem l51_m {ν : Mem} {R : Rw} {K : Mem → Option (Int32 × Mem)} {Q : Int32 × Mem → Prop} (hM : MR ν R) (hK : ∀ s, MR s R → (∀ k, k < 39 → s.1 38 k = R k) → (∀ j, j ≠ 38 → s.1 j = ν.1 j) → s.2 = ν.2 → Wo (K s) Q) : Wo (fX12_plan_l51 K FU 0 ν) Q := by
  refine lp0 (fun n' x s => fX12_plan_l51 K n' x s) 39 (by omega) (fun i s => (∀ k, k < i → s.1 38 k = R k) ∧ (∀ j, j ≠ 38 → s.1 j = ν.1 j) ∧ s.2 = ν.2) _ ν ⟨fun k hk => by omega, fun _ _ => rfl, rfl⟩ ?_ ?_
  · rintro n' i s hi ⟨i1, i2, i3⟩ hrec
    show Wo (fX12_plan_s51 _ _ _ _) _
    unfold fX12_plan_s51
    rw [if_neg (by simp (disch := omega) only [L_add, L_add2, L_mul, L_mul2, L_sub, nI_add, pk_mul, pk_sub, L_le, L_le2, L_lt, L_lt2, L_eq, L_eq2, nI_leI, nI_ltI, nI_eq, nI_clamp, ix_nI, ix_lit, L_cl]; omega)]
    simp (disch := omega) only [L_add, L_add2, L_mul, L_mul2, L_sub, nI_add, pk_mul, pk_sub, L_le, L_le2, L_lt, L_lt2, L_eq, L_eq2, nI_leI, nI_ltI, nI_eq, nI_clamp, ix_nI, ix_lit, L_cl, gd_true, bd_eq]
    refine hrec _ ⟨fun k hk => ?_, fun j hj => by rw [rd_Ii hj]; exact i2 j hj, i3⟩
    by_cases he : k = i
    · subst he; rw [rd_Is, i2 32 (by omega)]; exact hM k (by omega)
    · rw [rd_Ik he]; exact i1 k (by omega)
  · rintro n' s ⟨i1, i2, i3⟩
    show Wo (fX12_plan_s51 _ _ _ _) _
    unfold fX12_plan_s51
    rw [if_pos (by decide)]
    exact hK s (MR_fr hM (i2 32 (by omega))) i1 i2 i3
theorem l93_m {ν : Mem} {R : Rw} {K : Mem → Option (Int32 × Mem)} {Q : Int32 × Mem → Prop} (hM : ∀ k, k < 39 → ν.1 38 k = R k) (hK : ∀ s, MR s R → (∀ j, j ≠ 32 → s.1 j = ν.1 j) → s.2 = ν.2 → Wo (K s) Q) : Wo (fX12_plan_l93 K FU 0 ν) Q := by
  refine lp0 (fun n' x s => fX12_plan_l93 K n' x s) 39 (by omega) (fun i s => (∀ k, k < i → s.1 32 k = R k) ∧ (∀ j, j ≠ 32 → s.1 j = ν.1 j) ∧ s.2 = ν.2) _ ν ⟨fun k hk => by omega, fun _ _ => rfl, rfl⟩ ?_ ?_
  · rintro n' i s hi ⟨i1, i2, i3⟩ hrec
    show Wo (fX12_plan_s93 _ _ _ _) _
    unfold fX12_plan_s93
    rw [if_neg (by simp (disch := omega) only [L_add, L_add2, L_mul, L_mul2, L_sub, nI_add, pk_mul, pk_sub, L_le, L_le2, L_lt, L_lt2, L_eq, L_eq2, nI_leI, nI_ltI, nI_eq, nI_clamp, ix_nI, ix_lit, L_cl]; omega)]
    simp (disch := omega) only [L_add, L_add2, L_mul, L_mul2, L_sub, nI_add, pk_mul, pk_sub, L_le, L_le2, L_lt, L_lt2, L_eq, L_eq2, nI_leI, nI_ltI, nI_eq, nI_clamp, ix_nI, ix_lit, L_cl, gd_true, bd_eq]
    refine hrec _ ⟨fun k hk => ?_, fun j hj => by rw [rd_Ii hj]; exact i2 j hj, i3⟩
    by_cases he : k = i
    · subst he; rw [rd_Is, i2 38 (by omega)]; exact hM k (by omega)
    · rw [rd_Ik he]; exact i1 k (by omega)
  · rintro n' s ⟨i1, i2, i3⟩
    show Wo (fX12_plan_s93 _ _ _ _) _
    unfold fX12_plan_s93
    rw [if_pos (by decide)]
    exact hK s i1 i2 i3
abbrev Ps : Type := Option (Int32 × Nat × Nat)
def pst (s : Ps) (a b : Nat) (v : Int32) : Ps := match s with
  | none => some (v, a, b)
  | some (u, x, y) => if v ≤ u then some (u, x, y) else some (v, a, b)
def plb (w : Kw) (R : Rw) (n a : Nat) (s : Ps) : Nat → Ps
  | 0 => s
  | b + 1 => pst (plb w R n a s b) a b (kp3 w (dS w R a) b (n - a - b))
def pla (w : Kw) (R : Rw) (n : Nat) : Nat → Ps
  | 0 => none
  | a + 1 => plb w R n a (pla w R n a) (n - a + 1)
theorem sq_rng {g : Nat → Int32} {n : Nat} (hn : n ≤ 6) (h : ∀ i, i < n → 0 ≤ g i ∧ g i ≤ 999) : ∃ m, m ≤ 999 * n ∧ sq g n = nI m := by
  induction n with
  | zero => exact ⟨0, by omega, rfl⟩
  | succ n ih =>
    obtain ⟨m, hm, e⟩ := ih (by omega) (fun i hi => h i (by omega))
    obtain ⟨k, hk, e2⟩ := rng_nI (n := 999) rfl (h n (by omega))
    refine ⟨m + k, by omega, ?_⟩
    show sq g n + g n = _
    rw [e, e2, nI_add]
theorem kp3_nn {w : Kw} {R : Rw} {b c : Nat} (hK : KW w) (hR : RG w R) : ¬ kp3 w R b c ≤ -1 := by
  have hn6 := hK.1
  obtain ⟨m, hm, e⟩ := @sq_rng (fun h => dS w (dS w R b) c (12 + h)) (kn w) hn6 (fun i hi => (RG_dS hK (RG_dS hK hR) i (by omega)).2.1)
  unfold kp3
  rw [e]
  have := nI_pos' (n := m) (by omega)
  generalize nI m = x at this
  grind
def ECp (s : Ps) (μ : Mem) : Prop := match s with
  | none => μ.1 190 0 = -1
  | some (u, x, y) => μ.1 190 0 = u ∧ μ.1 190 1 = nI x ∧ μ.1 190 2 = nI y
theorem ECp_fr {s : Ps} {μ μ' : Mem} (h : ECp s μ) (hf : μ'.1 190 = μ.1 190) : ECp s μ' := by
  cases s with
  | none => show μ'.1 190 0 = -1; rw [hf]; exact h
  | some p => obtain ⟨u, x, y⟩ := p; show μ'.1 190 0 = u ∧ μ'.1 190 1 = nI x ∧ μ'.1 190 2 = nI y; rw [hf]; exact h
/-- the state in which tomorrow's shares are tried -/
def PI (w : Kw) (R Ra : Rw) (n na : Nat) (μ s : Mem) : Prop := TB w R 120 n s ∧ SR s 26 (kp w) Ra ∧ TB w Ra 139 na s ∧ KC μ s
theorem plan99_c {w : Kw} {R : Rw} {μ s0 : Mem} {n a : Nat} {S : Ps} {K : Mem → Option (Int32 × Mem)} {Q : Int32 × Mem → Prop} (hK : KW w) (hQ : QC w μ) (hm : MoE μ) (hR : RG w R) (hz : ∀ h, kn w ≤ h → h < 6 → R (12 + h) = 0) (hn : n ≤ 10) (ha : a ≤ n) (hP : PI w R (dS w R a) n (n - a) μ s0) (hE : ECp S s0) (hk : ∀ s, TB w R 120 n s → KC μ s → ECp (plb w R n a S (n - a + 1)) s → Wo (K s) Q) : Wo (fX11_plan_l99 K (nI n) (nI a) FU 0 s0) Q := by
  have hn6 := hK.1
  refine lp0 (fun n' x s => fX11_plan_l99 K (nI n) (nI a) n' x s) (n - a + 1) (by omega) (fun b s => PI w R (dS w R a) n (n - a) μ s ∧ ECp (plb w R n a S b) s) _ s0 ⟨hP, hE⟩ ?_ ?_
  · rintro n' b s hb ⟨⟨p1, p2, p3, p4⟩, i2⟩ hrec
    show Wo (fX11_plan_s99 _ _ _ _ _ _) _
    unfold fX11_plan_s99
    rw [pk_sub ha, if_neg (by simp (disch := omega) only [L_add, L_add2, L_mul, L_mul2, L_sub, nI_add, pk_mul, pk_sub, L_le, L_le2, L_lt, L_lt2, L_eq, L_eq2, nI_leI, nI_ltI, nI_eq, nI_clamp, ix_nI, ix_lit, L_cl]; omega), pk_sub (by omega), Wo_b2]
    refine Wo_mono (kept_c hK (QC_KC hQ p4) (MO_MqE hm p4.2.2) p2 (RG_dS hK hR) (fun h h1 h2 => dS_tail hn6 h1 h2 (hz h h1 h2)) (by omega) p3 (by omega) (by omega)) ?_
    rintro ⟨r, s1⟩ ⟨h1, h2⟩
    dsimp only at h1 h2 ⊢
    have e190 : s1.1 190 = s.1 190 := h2.1 190 (by omega) (by omega) (by omega)
    have E1 := ECp_fr i2 e190
    have P1 : PI w R (dS w R a) n (n - a) μ s1 := ⟨TB_fr hn6 p1 (fun j _ _ => h2.1 j (by omega) (by omega) (by omega)), SR_fr p2 (h2.1 26 (by omega) (by omega) (by omega)) (h2.1 27 (by omega) (by omega) (by omega)), TB_fr hn6 p3 (fun j _ _ => h2.1 j (by omega) (by omega) (by omega)), KC_tr p4 (Fp_KC h2)⟩
    have nn := @kp3_nn w (dS w R a) b (n - a - b) hK (RG_dS hK hR)
    rw [h1, nI_1]
    have new : pst (plb w R n a S b) a b (kp3 w (dS w R a) b (n - a - b)) = some (kp3 w (dS w R a) b (n - a - b), a, b) → Wo (bd (upI s1 190 0 (kp3 w (dS w R a) b (n - a - b))) (fun μ15 => bd (upI μ15 190 1 (nI a)) (fun μ17 => bd (upI μ17 190 2 (nI b)) (fun μ19 => fX11_plan_l99 K (nI n) (nI a) n' (nI (b + 1)) μ19)))) Q := by
      intro e
      rw [bd_eq, bd_eq, bd_eq]
      refine hrec _ ⟨⟨TB_fr hn6 P1.1 (fun j _ _ => by simp (disch := omega) only [rd_Ii]), SR_fr P1.2.1 (by simp (disch := omega) only [rd_Ii]) (by simp (disch := omega) only [rd_Ii]), TB_fr hn6 P1.2.2.1 (fun j _ _ => by simp (disch := omega) only [rd_Ii]), KC_tr P1.2.2.2 (KC_tr (KC_up (by omega)) (KC_tr (KC_up (by omega)) (KC_up (by omega))))⟩, ?_⟩
      show ECp (pst _ _ _ _) _
      rw [e]
      show _ ∧ _ ∧ _
      simp (disch := omega) only [rd_Is, rd_Ik, and_self]
    cases hS : plb w R n a S b with
    | none =>
      rw [hS] at E1 new
      rw [show s1.1 190 0 = -1 from E1, if_neg nn]
      exact new rfl
    | some p =>
      obtain ⟨u, x, y⟩ := p
      rw [hS] at E1 new
      rw [E1.1]
      refine Wo_if (fun hc => ?_) (fun hc => ?_)
      · refine hrec s1 ⟨P1, ?_⟩
        show ECp (pst _ _ _ _) _
        rw [hS]
        unfold pst
        dsimp only
        rw [if_pos hc]
        exact E1
      · exact new (by unfold pst; dsimp only; rw [if_neg hc])
  · rintro n' s ⟨⟨p1, p2, p3, p4⟩, i2⟩
    show Wo (fX11_plan_s99 _ _ _ _ _ _) _
    unfold fX11_plan_s99
    rw [pk_sub ha, if_pos (by simp (disch := omega) only [L_add, L_add2, L_mul, L_mul2, L_sub, nI_add, pk_mul, pk_sub, L_le, L_le2, L_lt, L_lt2, L_eq, L_eq2, nI_leI, nI_ltI, nI_eq, nI_clamp, ix_nI, ix_lit, L_cl]; omega)]
    exact hk s p1 p4 i2
def plV (s : Ps) (c : Nat) : Int32 := match s with
  | none => 0
  | some (u, x, y) => if c = 0 then u else if c = 1 then nI x else nI y
theorem pst_some {s : Ps} {a b : Nat} {v : Int32} : ∃ p, pst s a b v = some p := by
  unfold pst
  split
  · exact ⟨_, rfl⟩
  · split <;> exact ⟨_, rfl⟩
theorem pla_some {w : Kw} {R : Rw} {n a : Nat} : ∃ p, pla w R n (a + 1) = some p := by
  show ∃ p, pst _ _ _ _ = some p
  exact pst_some
theorem plan_c {w : Kw} {μ : Mem} {R : Rw} {n c : Nat} (hK : KW w) (hQ : QC w μ) (hm : MoE μ) (hS : SF μ 24 (kp w) R) (hR : RG w R) (hz : ∀ h, kn w ≤ h → h < 6 → R (12 + h) = 0) (hn : n ≤ 10) (hc : c ≤ 2) : Wo (bd (upI μ 190 0 (-1)) (fun μ1 => b1 (fX6_weigh 120 31 17 24 (nI n) μ1) (fun μ4 => fX11_plan_l46 (nI n) (nI c) FU 0 μ4))) (fun p => p.1 = plV (pla w R n (n + 1)) c ∧ KC μ p.2) := by
  have hn6 := hK.1
  have q0 : Sq 120 31 := Or.inl ⟨rfl, rfl⟩
  have q1 : Sq 139 11 := Or.inr (Or.inl ⟨rfl, rfl⟩)
  rw [bd_eq, Wo_b1]
  have f0 : KC μ (upI μ 190 0 (-1)) := KC_up (by omega)
  refine Wo_mono (weigh_c (R := R) q0 (n := n) (by omega) (QC_KC hQ f0) (MO_MqE hm f0.2.2) (Or.inl rfl) (SF_KC hS f0).1 hR) ?_
  rintro s0 ⟨k1, k2⟩
  refine lp0 (fun n' x s => fX11_plan_l46 (nI n) (nI c) n' x s) (n + 1) (by omega) (fun a s => TB w R 120 n s ∧ KC μ s ∧ ECp (pla w R n a) s) _ s0 ⟨k1, KC_tr f0 (Fq_KC q0 k2), ?_⟩ ?_ ?_
  · show s0.1 190 0 = -1
    rw [k2.1 190 (by omega) (by omega), rd_Is]
  · rintro n' a s ha ⟨i1, i2, i3⟩ hrec
    show Wo (fX11_plan_s46 _ _ _ _ _) _
    unfold fX11_plan_s46
    have hm1 := MO_MqE hm i2.2.2
    rw [if_neg (by simp (disch := omega) only [L_add, L_add2, L_mul, L_mul2, L_sub, nI_add, pk_mul, pk_sub, L_le, L_le2, L_lt, L_lt2, L_eq, L_eq2, nI_leI, nI_ltI, nI_eq, nI_clamp, ix_nI, ix_lit, L_cl]; omega), Wo_b1]
    refine Wo_mono (shareOut_c q0 (n := n) (k := a) (by omega) hm1 hn6 i1 (by omega)) ?_
    rintro s1 ⟨j1, j2, j3⟩
    have c1 : KC μ s1 := KC_tr i2 ⟨fun j a b c d => j2 j (by omega), j3, MqE_of (fun j hj => j2 j (by omega))⟩
    rw [Wo_b1]
    refine Wo_mono (burnGiven_c (R := R) (n := a) q0 (QC_KC hQ c1) (Or.inl ⟨rfl, rfl⟩) (SF_KC hS c1).1 hR (by omega) (by rw [j2 120 (by omega)]; exact i1.1) j1) ?_
    rintro s2 ⟨l1, l2⟩
    have c2 : KC μ s2 := KC_tr c1 (Fs_KC l2)
    rw [pk_sub (by omega), Wo_b1]
    refine Wo_mono (weigh_c (R := dS w R a) q1 (n := n - a) (by omega) (QC_KC hQ c2) (MO_MqE hm c2.2.2) (Or.inr (Or.inl rfl)) l1 (RG_dS hK hR)) ?_
    rintro s3 ⟨m1, m2⟩
    have c3 : KC μ s3 := KC_tr c2 (Fq_KC q1 m2)
    refine plan99_c (R := R) (μ := μ) (S := pla w R n a) hK hQ hm hR hz hn (by omega) ⟨?_, SR_fr l1 (m2.1 26 (by omega) (by omega)) (m2.1 27 (by omega) (by omega)), m1, c3⟩ ?_ ?_
    · exact TB_fr hn6 i1 (fun j _ _ => by rw [m2.1 j (by omega) (by omega), l2.1 j (by omega) (by omega) (by omega), j2 j (by omega)])
    · exact ECp_fr i3 (by rw [m2.1 190 (by omega) (by omega), l2.1 190 (by omega) (by omega) (by omega), j2 190 (by omega)])
    · intro s4 t1 t2 t3
      rw [nI_1]
      exact hrec s4 ⟨t1, t2, t3⟩
  · rintro n' s ⟨i1, i2, i3⟩
    show Wo (fX11_plan_s46 _ _ _ _ _) _
    unfold fX11_plan_s46
    rw [if_pos (by simp (disch := omega) only [L_add, L_add2, L_mul, L_mul2, L_sub, nI_add, pk_mul, pk_sub, L_le, L_le2, L_lt, L_lt2, L_eq, L_eq2, nI_leI, nI_ltI, nI_eq, nI_clamp, ix_nI, ix_lit, L_cl]; omega), ix_nI (by omega) (by omega), gd_true, nI_clamp (by omega), Wo_some]
    refine ⟨?_, i2⟩
    dsimp only
    obtain ⟨⟨u, x, y⟩, e⟩ := @pla_some w R n n
    rw [e] at i3 ⊢
    match c, hc with
    | 0, _ => exact i3.1
    | 1, _ => exact i3.2.1
    | 2, _ => exact i3.2.2
def pm0 (s : Ps) : Int32 := match s with
  | none => -1
  | some (u, _, _) => u
def pm1 (s : Ps) : Int32 := match s with
  | none => 0
  | some (_, x, _) => nI x
def pm2 (s : Ps) : Int32 := match s with
  | none => 0
  | some (_, _, y) => nI y
theorem plan81_m {w : Kw} {L : Nat} {R : Rw} {ν s0 : Mem} {n a : Nat} {S : Ps} {K : Int32 → Int32 → Int32 → Mem → Option (Int32 × Mem)} {Q : Int32 × Mem → Prop} (hK : KW w) (hQ : QL w L ν) (hR : RG w R) (hn : n ≤ 10) (ha : a ≤ n) (h38 : ∀ k, k < 39 → s0.1 38 k = dS w R a k) (hf : Fc ν s0) (h50 : s0.1 0 50 = 1) (hk : ∀ s, Fc ν s → Wo (K (pm0 (plb w R n a S (n - a + 1))) (pm1 (plb w R n a S (n - a + 1))) (pm2 (plb w R n a S (n - a + 1))) s) Q) : Wo (fX12_plan_l81 K (nI n) (nI a) FU (pm0 S) (pm1 S) (pm2 S) 0 s0) Q := by
  refine lp0 (σ := Int32 × Int32 × Int32 × Mem) (fun n' x s => fX12_plan_l81 K (nI n) (nI a) n' s.1 s.2.1 s.2.2.1 x s.2.2.2) (n - a + 1) (by omega) (fun b s => (s.1 = pm0 (plb w R n a S b) ∧ s.2.1 = pm1 (plb w R n a S b) ∧ s.2.2.1 = pm2 (plb w R n a S b)) ∧ (∀ k, k < 39 → s.2.2.2.1 38 k = dS w R a k) ∧ Fc ν s.2.2.2 ∧ s.2.2.2.1 0 50 = 1) _ (pm0 S, pm1 S, pm2 S, s0) ⟨⟨rfl, rfl, rfl⟩, h38, hf, h50⟩ ?_ ?_
  · rintro n' b ⟨x, y, z, s⟩ hb ⟨⟨i1, i2, i3⟩, i4, i5, i6⟩ hrec
    dsimp only at i1 i2 i3 i4 i5 i6 ⊢
    subst i1 i2 i3
    show Wo (fX12_plan_s81 _ _ _ _ _ _ _ _ _) _
    unfold fX12_plan_s81
    rw [pk_sub ha, if_neg (by simp (disch := omega) only [L_add, L_add2, L_mul, L_mul2, L_sub, nI_add, pk_mul, pk_sub, L_le, L_le2, L_lt, L_lt2, L_eq, L_eq2, nI_leI, nI_ltI, nI_eq, nI_clamp, ix_nI, ix_lit, L_cl]; omega), pk_sub (by omega)]
    refine l93_m i4 ?_
    intro s1 j1 j2 j3
    have f1 : Fx s s1 := ⟨fun j a b c d => j2 j (by omega), fun k _ => by rw [j2 0 (by omega)], j3⟩
    have hQ1 := QL_Fc (QL_Fc hQ i5) (Fx_Fc f1)
    rw [Wo_b1]
    refine Wo_mono (shared_m (n := b) hQ1 j1 (by rw [j2 0 (by omega)]; exact i6) (by omega)) ?_
    rintro s2 ⟨l1, l2⟩
    have f2 := Fx_tr f1 (Fw_Fx l2)
    rw [Wo_b1]
    refine Wo_mono (shared_m (n := n - a - b) (QL_Fc (QL_Fc hQ i5) (Fx_Fc f2)) l1 (by rw [f2.2.1 50 (by omega)]; exact i6) (by omega)) ?_
    rintro s3 ⟨m1, m2⟩
    have f3 := Fx_tr f2 (Fw_Fx m2)
    have hQ3 := QL_Fc (QL_Fc hQ i5) (Fx_Fc f3)
    have g38 : ∀ k, k < 39 → s3.1 38 k = dS w R a k := by
      intro k hk
      rw [m2.1 38 (by omega) (by omega) (by omega) (by omega), l2.1 38 (by omega) (by omega) (by omega) (by omega), j2 38 (by omega)]; exact i4 k hk
    have g50 : s3.1 0 50 = 1 := by rw [f3.2.1 50 (by omega)]; exact i6
    have gF := Fc_tr i5 (Fx_Fc f3)
    rw [Wo_b1]
    refine Wo_mono (keptAll_m hQ3 m1) ?_
    rintro r rfl
    have nn := @kp3_nn w (dS w R a) b (n - a - b) hK (RG_dS hK hR)
    rw [show sq (fun h => dS w (dS w (dS w R a) b) (n - a - b) (12 + h)) (kn w) = kp3 w (dS w R a) b (n - a - b) from rfl, nI_1 b]
    have es : plb w R n a S (b + 1) = pst (plb w R n a S b) a b (kp3 w (dS w R a) b (n - a - b)) := rfl
    have new : pst (plb w R n a S b) a b (kp3 w (dS w R a) b (n - a - b)) = some (kp3 w (dS w R a) b (n - a - b), a, b) → Wo (b1 (fX12_keptAll s3) (fun r26 => fX12_plan_l81 K (nI n) (nI a) n' r26 (nI a) (nI b) (nI (b + 1)) s3)) Q := by
      intro e
      rw [Wo_b1]
      refine Wo_mono (keptAll_m hQ3 m1) ?_
      rintro r rfl
      exact hrec (_, _, _, s3) ⟨⟨by rw [es, e]; rfl, by rw [es, e]; rfl, by rw [es, e]; rfl⟩, g38, gF, g50⟩
    cases hS : plb w R n a S b with
    | none =>
      rw [hS] at es new
      rw [if_pos (by show (-1 : Int32) < _; grind)]
      exact new rfl
    | some p =>
      obtain ⟨u, x, y⟩ := p
      rw [hS] at es new
      refine Wo_if (fun hc => ?_) (fun hc => ?_)
      · exact new (by unfold pst; dsimp only; rw [if_neg (by have : u < kp3 w (dS w R a) b (n - a - b) := hc; grind)])
      · have e : pst (some (u, x, y)) a b (kp3 w (dS w R a) b (n - a - b)) = some (u, x, y) := by
          unfold pst; dsimp only; rw [if_pos (by have : ¬ u < kp3 w (dS w R a) b (n - a - b) := hc; grind)]
        exact hrec (_, _, _, s3) ⟨⟨by rw [es, e]; rfl, by rw [es, e]; rfl, by rw [es, e]; rfl⟩, g38, gF, g50⟩
  · rintro n' ⟨x, y, z, s⟩ ⟨⟨i1, i2, i3⟩, i4, i5, i6⟩
    dsimp only at i1 i2 i3 i4 i5 i6 ⊢
    subst i1 i2 i3
    show Wo (fX12_plan_s81 _ _ _ _ _ _ _ _ _) _
    unfold fX12_plan_s81
    rw [pk_sub ha, if_pos (by simp (disch := omega) only [L_add, L_add2, L_mul, L_mul2, L_sub, nI_add, pk_mul, pk_sub, L_le, L_le2, L_lt, L_lt2, L_eq, L_eq2, nI_leI, nI_ltI, nI_eq, nI_clamp, ix_nI, ix_lit, L_cl]; omega)]
    exact hk s i5
theorem plan_m {w : Kw} {L : Nat} {ν : Mem} {R : Rw} {n : Nat} {K : Int32 → Int32 → Int32 → Mem → Option (Int32 × Mem)} {Q : Int32 × Mem → Prop} (hK : KW w) (hQ : QL w L ν) (hN : NR ν R) (hR : RG w R) (hn : n ≤ 10) (hk : ∀ s, Fc ν s → Wo (K (pm0 (pla w R n (n + 1))) (pm1 (pla w R n (n + 1))) (pm2 (pla w R n (n + 1))) s) Q) : Wo (fX12_plan_l32 K (nI n) FU (-1) 0 0 0 ν) Q := by
  refine lp0 (σ := Int32 × Int32 × Int32 × Mem) (fun n' x s => fX12_plan_l32 K (nI n) n' s.1 s.2.1 s.2.2.1 x s.2.2.2) (n + 1) (by omega) (fun a s => (s.1 = pm0 (pla w R n a) ∧ s.2.1 = pm1 (pla w R n a) ∧ s.2.2.1 = pm2 (pla w R n a)) ∧ Fc ν s.2.2.2) _ (-1, 0, 0, ν) ⟨⟨rfl, rfl, rfl⟩, Fc_rfl⟩ ?_ ?_
  · rintro n' a ⟨x, y, z, s⟩ ha ⟨⟨i1, i2, i3⟩, i4⟩ hrec
    dsimp only at i1 i2 i3 i4 ⊢
    subst i1 i2 i3
    show Wo (fX12_plan_s32 _ _ _ _ _ _ _ _) _
    unfold fX12_plan_s32
    rw [if_neg (by simp (disch := omega) only [L_add, L_add2, L_mul, L_mul2, L_sub, nI_add, pk_mul, pk_sub, L_le, L_le2, L_lt, L_lt2, L_eq, L_eq2, nI_leI, nI_ltI, nI_eq, nI_clamp, ix_nI, ix_lit, L_cl]; omega), Wo_b1]
    refine Wo_mono (copiesStill_s (QL_Fc hQ i4) (NR_Fc hN i4)) ?_
    rintro s1 ⟨j1, j2, j3⟩
    have f1 := Fc_tr i4 j2
    rw [Wo_b1]
    refine Wo_mono (shared_m (n := a) (QL_Fc hQ f1) j1 j3 (by omega)) ?_
    rintro s2 ⟨l1, l2⟩
    have f2 := Fc_tr f1 (Fw_Fc l2)
    refine l51_m l1 ?_
    intro s3 m1 m2 m3 m4
    have f3 : Fc ν s3 := Fc_tr f2 ⟨fun j a b c d => m3 j (by omega), fun k _ _ _ => by rw [m3 0 (by omega)], m4⟩
    refine plan81_m (R := R) (ν := ν) (S := pla w R n a) hK hQ hR hn (by omega) m2 f3 (by rw [m3 0 (by omega), l2.2.1 50 (by omega)]; exact j3) ?_
    intro s4 f4
    rw [nI_1]
    exact hrec (_, _, _, s4) ⟨⟨rfl, rfl, rfl⟩, f4⟩
  · rintro n' ⟨x, y, z, s⟩ ⟨⟨i1, i2, i3⟩, i4⟩
    dsimp only at i1 i2 i3 i4 ⊢
    subst i1 i2 i3
    show Wo (fX12_plan_s32 _ _ _ _ _ _ _ _) _
    unfold fX12_plan_s32
    rw [if_pos (by simp (disch := omega) only [L_add, L_add2, L_mul, L_mul2, L_sub, nI_add, pk_mul, pk_sub, L_le, L_le2, L_lt, L_lt2, L_eq, L_eq2, nI_leI, nI_ltI, nI_eq, nI_clamp, ix_nI, ix_lit, L_cl]; omega)]
    exact hk s i4
theorem r_plan {μ ν : Mem} (h : REL μ ν) (z0 : Int32) (z1 : Int32) : ∃ (r : Int32) (μ' : Mem) (ν' : Mem), fX11_plan z0 z1 μ = some (r, μ') ∧ fX12_plan z0 z1 ν = some (r, ν') ∧ REL μ' ν' := by
  have h' := h
  obtain ⟨w, L, R, a1, a2, a3, a4, a5, a6, a7, a8, a9, a10, a11, a12⟩ := h'
  have hn := a2.1
  unfold fX11_plan fX12_plan
  rw [in_c, b1_some]
  by_cases c0 : z0 < 0
  · rw [if_pos c0, if_pos (Or.inl c0), if_pos rfl]; exact ⟨_, _, _, rfl, rfl, h⟩
  · rw [if_neg c0]
    by_cases c1 : 10 < z0
    · rw [if_pos c1, if_pos (show z0 < 0 ∨ 10 < z0 from Or.inr c1), if_pos rfl]; exact ⟨_, _, _, rfl, rfl, h⟩
    · rw [if_neg c1, if_neg (show ¬ (z0 < 0 ∨ 10 < z0) from fun hx => hx.elim c0 c1), if_neg n10, in_c, b1_some]
      obtain ⟨n, hn1, rfl⟩ := nI_of c0
      rw [L_lt (by omega) (by omega)] at c1
      by_cases c2 : z1 < 0
      · rw [if_pos c2, if_pos (Or.inl c2), if_pos rfl]; exact ⟨_, _, _, rfl, rfl, h⟩
      · rw [if_neg c2]
        by_cases c3 : z1 ≤ 2
        · rw [if_pos c3, if_neg (show ¬ (z1 < 0 ∨ 2 < z1) by grind), if_neg n10]
          obtain ⟨c, hc1, rfl⟩ := nI_of c2
          rw [L_le2 (by omega) (by omega)] at c3
          refine rel_of h _ (plan_c a1.1 a2 a12.1 a5 a4.1 a4.2.2 (by omega) c3) ?_
          refine plan_m a1.1 a3 a6 a4.1 (by omega) ?_
          intro s hs
          obtain ⟨⟨u, x, y⟩, e⟩ := @pla_some w R n n
          rw [e]
          match c, c3 with
          | 0, _ => rw [if_pos nI_0, Wo_some]; exact ⟨rfl, hs⟩
          | 1, _ => rw [if_neg (by decide), if_pos (show nI 1 = 1 from rfl), Wo_some]; exact ⟨rfl, hs⟩
          | 2, _ => rw [if_neg (by decide), if_neg (by decide), Wo_some]; exact ⟨rfl, hs⟩
        · rw [if_neg c3, if_pos (show z1 < 0 ∨ 2 < z1 by grind), if_pos rfl]; exact ⟨_, _, _, rfl, rfl, h⟩
