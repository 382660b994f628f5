/-- the model's tables -/
def UB (w : Kw) (R : Rw) (n : Nat) (ν : Mem) : Prop := (∀ h, h < kn w → ∀ k, k ≤ n → ν.1 36 (31 * h + k) = gl w R h k) ∧ ∀ h, h ≤ kn w → ∀ k, k ≤ n → ν.1 37 (31 * h + k) = leS (gl w R) (kn w) (kn w - h) k
theorem lossWith_m {w : Kw} {R : Rw} {ν : Mem} {n h k o : Nat} (hn6 : kn w ≤ 6) (hh : h < kn w) (hn : n ≤ 30) (hk : k ≤ n) (ho : o ≤ k) (t1 : ∀ k, k ≤ n → ν.1 36 (31 * h + k) = gl w R h k) (t2 : ∀ k, k ≤ n → ν.1 37 (31 * (h + 1) + k) = leS (gl w R) (kn w) (kn w - (h + 1)) k) : fX12_lossWith (nI h) (nI o) (nI k) ν = some (cS w R h k o) := by
  unfold fX12_lossWith
  simp (disch := omega) only [L_add, L_add2, L_mul, L_mul2, L_sub, nI_add, pk_mul, pk_sub, L_le, L_le2, L_lt, L_lt2, L_eq, L_eq2, nI_leI, nI_ltI, nI_eq, nI_clamp, ix_nI, ix_lit, L_cl, gd_true]
  rw [t1 o (by omega), show 31 * h + 31 + k - o = 31 * (h + 1) + (k - o) by omega, t2 (k - o) (by omega)]; rfl
theorem fs46_m {w : Kw} {R : Rw} {ν : Mem} {n h : Nat} {K : Mem → Option Mem} {Q : Mem → Prop} (hn6 : kn w ≤ 6) (hh : h < kn w) (hn : n ≤ 30) (t1 : ∀ k, k ≤ n → ν.1 36 (31 * h + k) = gl w R h k) (t2 : ∀ k, k ≤ n → ν.1 37 (31 * (h + 1) + k) = leS (gl w R) (kn w) (kn w - (h + 1)) k) (hK : ∀ s, (∀ k, k ≤ n → s.1 37 (31 * h + k) = leS (gl w R) (kn w) (kn w - h) k) → (∀ m, 31 * (h + 1) ≤ m → s.1 37 m = ν.1 37 m) → (∀ j, j ≠ 37 → s.1 j = ν.1 j) → s.2 = ν.2 → Wo (K s) Q) : Wo (fX12_fillsShare_l46 K (nI n) (nI h) FU 0 ν) Q := by
  refine lp0 (fun n' x s => fX12_fillsShare_l46 K (nI n) (nI h) n' x s) (n + 1) (by omega) (fun i s => (∀ k, k < i → s.1 37 (31 * h + k) = leS (gl w R) (kn w) (kn w - h) k) ∧ (∀ m, 31 * (h + 1) ≤ m → s.1 37 m = ν.1 37 m) ∧ (∀ j, j ≠ 37 → s.1 j = ν.1 j) ∧ s.2 = ν.2) _ ν ⟨fun k hk => by omega, fun _ _ => rfl, fun _ _ => rfl, rfl⟩ ?_ ?_
  · rintro n' i s hi ⟨i1, i2, i3, i4⟩ hrec
    show Wo (fX12_fillsShare_s46 _ _ _ _ _ _) _
    unfold fX12_fillsShare_s46
    have u1 : ∀ k, k ≤ n → s.1 36 (31 * h + k) = gl w R h k := fun k hk => by rw [i3 36 (by omega)]; exact t1 k hk
    have u2 : ∀ k, k ≤ n → s.1 37 (31 * (h + 1) + k) = leS (gl w R) (kn w) (kn w - (h + 1)) k := fun k hk => by rw [i2 _ (by omega)]; exact t2 k hk
    have el : ∀ o, o ≤ i → fX12_lossWith (nI h) (nI o) (nI i) s = some (cS w R h i o) := fun o ho => lossWith_m hn6 hh hn (by omega) ho u1 u2
    have e0 : fX12_lossWith (nI h) 0 (nI i) s = some (cS w R h i 0) := el 0 (by omega)
    rw [if_neg (by simp (disch := omega) only [L_add, L_add2, L_mul, L_mul2, L_sub, nI_add, pk_mul, pk_sub, L_le, L_le2, L_lt, L_lt2, L_eq, L_eq2, nI_leI, nI_ltI, nI_eq, nI_clamp, ix_nI, ix_lit, L_cl]; omega), e0, b1_some]
    refine lpU (fun n' x y => fX12_fillsShare_l63 _ (nI h) (nI i) s n' y x) (i + 1) (fun j y => ∃ b, alF (fun _ => true) (cS w R h i) j = some b ∧ b < j ∧ y = cS w R h i b) _ ?_ ?_ FU 1 (cS w R h i 0) (by omega) (by unfold FU; omega) ⟨0, rfl, by omega, rfl⟩
    · rintro n'' j y hj ⟨b, e, hb, rfl⟩ hrec2
      show Wo (fX12_fillsShare_s63 _ _ _ _ _ _ _) _
      unfold fX12_fillsShare_s63
      have e2 : alF (fun _ => true) (cS w R h i) (j + 1) = (match alF (fun _ => true) (cS w R h i) j with | none => some j | some b => if cS w R h i b ≤ cS w R h i j then some b else some j) := rfl
      rw [e] at e2
      dsimp only at e2
      rw [if_neg (by simp (disch := omega) only [L_add, L_add2, L_mul, L_mul2, L_sub, nI_add, pk_mul, pk_sub, L_le, L_le2, L_lt, L_lt2, L_eq, L_eq2, nI_leI, nI_ltI, nI_eq, nI_clamp, ix_nI, ix_lit, L_cl]; omega), el j (by omega), b1_some, b1_some, nI_1 j]
      refine Wo_if (fun hc => ?_) (fun hc => ?_)
      · rw [if_pos hc] at e2
        exact hrec2 _ ⟨b, e2, by omega, rfl⟩
      · rw [if_neg hc] at e2
        exact hrec2 _ ⟨j, e2, by omega, rfl⟩
    · rintro n'' y ⟨b, e, hb, rfl⟩
      show Wo (fX12_fillsShare_s63 _ _ _ _ _ _ _) _
      unfold fX12_fillsShare_s63
      have eo := @ow_al w R h i
      rw [e] at eo
      cases eo
      rw [if_pos (by simp (disch := omega) only [L_add, L_add2, L_mul, L_mul2, L_sub, nI_add, pk_mul, pk_sub, L_le, L_le2, L_lt, L_lt2, L_eq, L_eq2, nI_leI, nI_ltI, nI_eq, nI_clamp, ix_nI, ix_lit, L_cl]; omega)]
      dsimp only
      rw [L_mul2, nI_add, ix_nI (by omega) (by omega), gd_true, nI_clamp (by omega), bd_eq, nI_1]
      refine hrec _ ⟨fun k hk => ?_, fun m hm => by rw [rd_Ik (by omega)]; exact i2 m hm, fun j hj => by rw [rd_Ii hj]; exact i3 j hj, i4⟩
      by_cases he : k = i
      · subst he; rw [rd_Is, leS_s hh]
      · rw [rd_Ik (by omega)]; exact i1 k (by omega)
  · rintro n' s ⟨i1, i2, i3, i4⟩
    show Wo (fX12_fillsShare_s46 _ _ _ _ _ _) _
    unfold fX12_fillsShare_s46
    rw [if_pos (by simp (disch := omega) only [L_add, L_add2, L_mul, L_mul2, L_sub, nI_add, pk_mul, pk_sub, L_le, L_le2, L_lt, L_lt2, L_eq, L_eq2, nI_leI, nI_ltI, nI_eq, nI_clamp, ix_nI, ix_lit, L_cl]; omega)]
    exact hK s (fun k hk => i1 k (by omega)) i2 i3 i4
theorem fs7_m {w : Kw} {L : Nat} {ν : Mem} {n : Nat} {K : Mem → Option Mem} {Q : Mem → Prop} (hQ : QL w L ν) (hn : n ≤ 30) (hK : ∀ s, (∀ k, k ≤ n → s.1 37 (31 * kn w + k) = 0) → (∀ j, j ≠ 37 → s.1 j = ν.1 j) → s.2 = ν.2 → Wo (K s) Q) : Wo (fX12_fillsShare_l7 K (nI n) FU 0 ν) Q := by
  have hn6 := hQ.2.1
  refine lp0 (fun n' x s => fX12_fillsShare_l7 K (nI n) n' x s) (n + 1) (by omega) (fun i s => (∀ k, k < i → s.1 37 (31 * kn w + k) = 0) ∧ (∀ j, j ≠ 37 → s.1 j = ν.1 j) ∧ s.2 = ν.2) _ ν ⟨fun k hk => by omega, fun _ _ => rfl, rfl⟩ ?_ ?_
  · rintro n' i s hi ⟨i1, i3, i4⟩ hrec
    show Wo (fX12_fillsShare_s7 _ _ _ _ _) _
    unfold fX12_fillsShare_s7
    have hQ' : QL w L s := QL_fr hQ (fun j _ _ => i3 j (by omega)) (by rw [i3 0 (by omega)])
    rw [if_neg (by simp (disch := omega) only [L_add, L_add2, L_mul, L_mul2, L_sub, nI_add, pk_mul, pk_sub, L_le, L_le2, L_lt, L_lt2, L_eq, L_eq2, nI_leI, nI_ltI, nI_eq, nI_clamp, ix_nI, ix_lit, L_cl]; omega), many_m hQ', b1_some, L_mul2, nI_add, ix_nI (by omega) (by omega), gd_true, nI_clamp (by omega), bd_eq, nI_1]
    refine hrec _ ⟨fun k hk => ?_, fun j hj => by rw [rd_Ii hj]; exact i3 j hj, i4⟩
    by_cases he : k = i
    · subst he; rw [rd_Is]
    · rw [rd_Ik (by omega)]; exact i1 k (by omega)
  · rintro n' s ⟨i1, i3, i4⟩
    show Wo (fX12_fillsShare_s7 _ _ _ _ _) _
    unfold fX12_fillsShare_s7
    rw [if_pos (by simp (disch := omega) only [L_add, L_add2, L_mul, L_mul2, L_sub, nI_add, pk_mul, pk_sub, L_le, L_le2, L_lt, L_lt2, L_eq, L_eq2, nI_leI, nI_ltI, nI_eq, nI_clamp, ix_nI, ix_lit, L_cl]; omega)]
    exact hK s (fun k hk => i1 k (by omega)) i3 i4
theorem Fw_37 {ν ν' : Mem} (h : ∀ j, j ≠ 37 → ν'.1 j = ν.1 j) (h2 : ν'.2 = ν.2) : Fw ν ν' := ⟨fun j a b c d => h j (by omega), fun k _ => by rw [h 0 (by omega)], h2⟩
theorem fillsShare_m {w : Kw} {L : Nat} {ν : Mem} {R : Rw} {n : Nat} (hQ : QL w L ν) (hM : MR ν R) (hn : n ≤ 30) : Wo (fX12_fillsShare (nI n) ν) (fun ν' => MR ν' R ∧ UB w R n ν' ∧ Fw ν ν') := by
  have hn6 := hQ.2.1
  unfold fX12_fillsShare
  rw [Wo_b1]
  refine Wo_mono (fillsLoss_m hQ hM hn) ?_
  rintro s0 ⟨k1, k2, k3⟩
  have hQ0 := QL_Fc hQ (Fw_Fc k3)
  refine fs7_m hQ0 hn ?_
  intro s1 j1 j2 j3
  have hQ1 : QL w L s1 := QL_fr hQ0 (fun j _ _ => j2 j (by omega)) (by rw [j2 0 (by omega)])
  rw [many_m hQ1, b1_some, bd_eq]
  refine lpD (fun n' x s => fX12_fillsShare_l40 (nI n) n' x s) (fun m s => m ≤ kn w ∧ (∀ h, m ≤ h → h ≤ kn w → ∀ k, k ≤ n → s.1 37 (31 * h + k) = leS (gl w R) (kn w) (kn w - h) k) ∧ (∀ j, j ≠ 37 → s.1 j = s1.1 j) ∧ s.2 = s1.2) _ ?_ ?_ FU (kn w) s1 (by unfold FU; omega) ⟨Nat.le_refl _, fun h a b k hk => by rw [show h = kn w by omega, j1 k hk, Nat.sub_self]; rfl, fun _ _ => rfl, rfl⟩
  · rintro n' m s ⟨i0, i1, i2, i3⟩ hrec
    show Wo (fX12_fillsShare_s40 _ _ _ _) _
    unfold fX12_fillsShare_s40
    rw [if_neg (nI_pos (by omega))]
    refine fs46_m (R := R) hn6 (by omega) hn (fun k hk => by rw [i2 36 (by omega), j2 36 (by omega)]; exact k2 m (by omega) k hk) (i1 (m + 1) (by omega) (by omega)) ?_
    intro s2 l1 l2 l3 l4
    rw [m1_sub]
    refine hrec s2 ⟨by omega, ?_, fun j hj => by rw [l3 j hj]; exact i2 j hj, l4.trans i3⟩
    intro h a b k hk
    by_cases he : h = m
    · subst he; exact l1 k hk
    · rw [l2 _ (by omega)]; exact i1 h (by omega) b k hk
  · rintro n' s ⟨i0, i1, i2, i3⟩
    show Wo (fX12_fillsShare_s40 _ _ _ _) _
    unfold fX12_fillsShare_s40
    rw [if_pos (by decide), Wo_some]
    refine ⟨MR_fr k1 (by rw [i2 32 (by omega), j2 32 (by omega)]), ⟨fun h hh k hk => by rw [i2 36 (by omega), j2 36 (by omega)]; exact k2 h hh k hk, fun h hh k hk => i1 h (by omega) hh k hk⟩, Fw_tr k3 (Fw_tr (Fw_37 j2 j3) (Fw_37 i2 i3))⟩
theorem shareFor_m {w : Kw} {ν : Mem} {R : Rw} {n h k : Nat} (hn6 : kn w ≤ 6) (hn : n ≤ 30) (hh : h < kn w) (hk : k ≤ n) (ht : UB w R n ν) : Wo (fX12_shareFor (nI h) (nI k) ν) (fun r => r = nI (ow w R h k)) := by
  have hle := @ow_le w R h k
  have hf := al_first (@ow_al w R h k)
  unfold fX12_shareFor
  have e37 : ν.1 37 (31 * h + k) = cS w R h k (ow w R h k) := by rw [ht.2 h (by omega) k hk, leS_s hh]
  refine lp0 (σ := Unit) (fun n' x _ => fX12_shareFor_l2 (nI h) (nI k) ν n' x) (ow w R h k) (by omega) (fun _ _ => True) _ () trivial ?_ ?_
  · rintro n' i _ hi _ hrec
    show Wo (fX12_shareFor_s2 _ _ _ _ _) _
    unfold fX12_shareFor_s2
    rw [lossWith_m hn6 hh hn hk (by omega) (ht.1 h hh) (ht.2 (h + 1) (by omega)), b1_some, L_mul2, nI_add, ix_nI (by omega) (by omega), gd_true, nI_clamp (by omega), e37, nI_1, if_neg]
    · exact hrec () trivial
    · intro hx
      have := hf.2 i hi
      rw [hx] at this
      exact this (by grind)
  · rintro n' _ _
    show Wo (fX12_shareFor_s2 _ _ _ _ _) _
    unfold fX12_shareFor_s2
    rw [lossWith_m hn6 hh hn hk hle (ht.1 h hh) (ht.2 (h + 1) (by omega)), b1_some, L_mul2, nI_add, ix_nI (by omega) (by omega), gd_true, nI_clamp (by omega), e37, if_pos rfl, Wo_some]
theorem share48_m {w : Kw} {ν : Mem} {R : Rw} {n i : Nat} (hn6 : kn w ≤ 6) (hn : n ≤ 30) (hi : i < kn w) (ht : UB w R n ν) : Wo (fX12_share_l48 (nI i) ν FU (nI n) 0) (fun p => p.1 = nI (gvS w R n i) ∧ p.2 = ν) := by
  refine lp0 (fun n' x s => fX12_share_l48 (nI i) ν n' s x) i (by omega) (fun h s => s = nI (lfS w R n h)) _ (nI n) rfl ?_ ?_
  · rintro n' h s hh rfl hrec
    have hl := @lfS_le w R n h
    show Wo (fX12_share_s48 _ _ _ _ _) _
    unfold fX12_share_s48
    rw [if_neg (by simp (disch := omega) only [L_add, L_add2, L_mul, L_mul2, L_sub, nI_add, pk_mul, pk_sub, L_le, L_le2, L_lt, L_lt2, L_eq, L_eq2, nI_leI, nI_ltI, nI_eq, nI_clamp, ix_nI, ix_lit, L_cl]; omega), Wo_b1]
    refine Wo_mono (shareFor_m hn6 hn (h := h) (by omega) hl ht) ?_
    rintro r rfl
    rw [bd_eq, pk_sub ow_le, nI_1]
    exact hrec _ rfl
  · rintro n' s rfl
    have hl := @lfS_le w R n i
    show Wo (fX12_share_s48 _ _ _ _ _) _
    unfold fX12_share_s48
    rw [if_pos (by simp (disch := omega) only [L_add, L_add2, L_mul, L_mul2, L_sub, nI_add, pk_mul, pk_sub, L_le, L_le2, L_lt, L_lt2, L_eq, L_eq2, nI_leI, nI_ltI, nI_eq, nI_clamp, ix_nI, ix_lit, L_cl]; omega), Wo_b1]
    refine Wo_mono (shareFor_m hn6 hn hi hl ht) ?_
    rintro r rfl
    rw [Wo_some]
    exact ⟨rfl, rfl⟩
def shV (w : Kw) (R : Rw) (n : Nat) (o : Option Nat) : Int32 := match o with
  | none => leS (gl w R) (kn w) (kn w) n
  | some i => nI (gvS w R n i)
theorem share_c {w : Kw} {μ : Mem} {R : Rw} {n : Nat} {z : Int32} {o : Option Nat} (hQ : QC w μ) (hm : MoE μ) (hS : SF μ 24 (kp w) R) (hR : RG w R) (hn : n ≤ 30) (hz : (z = -1 ∧ o = none) ∨ ∃ i, i < kn w ∧ z = nI i ∧ o = some i) : Wo (fX11_share_b25 (nI n) z μ) (fun p => p.1 = shV w R n o ∧ KC μ p.2) := by
  have hn6 := hQ.1
  have hq : Sq 120 31 := Or.inl ⟨rfl, rfl⟩
  unfold fX11_share_b25
  rw [Wo_b1]
  refine Wo_mono (weigh_c (R := R) hq (by omega) hQ hm (Or.inl rfl) hS.1 hR) ?_
  rintro s ⟨k1, k2⟩
  have hk := Fq_KC hq k2
  have hm1 := MO_MqE hm hk.2.2
  rcases hz with ⟨rfl, rfl⟩ | ⟨i, hi, rfl, rfl⟩
  · rw [if_pos rfl, least_c hq (by omega) hm1 k1 (Nat.le_refl _), b1_some, Wo_some]
    exact ⟨rfl, hk⟩
  · rw [if_neg (by intro hx; have := nI_pos (n := i) (by omega); rw [hx] at this; exact this (by decide)), Wo_b1]
    refine Wo_mono (shareOut_c hq (by omega) hm1 hn6 k1 (Nat.le_refl _)) ?_
    rintro s1 ⟨j1, j2, j3⟩
    unfold fX6_givenTo
    rw [if_neg (nI_pos (by omega)), if_neg (by simp (disch := omega) only [L_add, L_add2, L_mul, L_mul2, L_sub, nI_add, pk_mul, pk_sub, L_le, L_le2, L_lt, L_lt2, L_eq, L_eq2, nI_leI, nI_ltI, nI_eq, nI_clamp, ix_nI, ix_lit, L_cl]; omega), ix_nI (by omega) (by omega), gd_true, nI_clamp (by omega), b1_some, Wo_some]
    exact ⟨j1 i hi, KC_tr hk ⟨fun j a b c d => j2 j (by omega), j3, MqE_of (fun j hj => j2 j (by omega))⟩⟩
theorem share_m {w : Kw} {L : Nat} {ν : Mem} {R : Rw} {n : Nat} {z : Int32} {o : Option Nat} (hQ : QL w L ν) (hN : NR ν R) (hn : n ≤ 30) (hz : (z = -1 ∧ o = none) ∨ ∃ i, i < kn w ∧ z = nI i ∧ o = some i) : Wo (fX12_share_b22 (nI n) z ν) (fun p => p.1 = shV w R n o ∧ Fc ν p.2) := by
  have hn6 := hQ.2.1
  unfold fX12_share_b22
  rw [Wo_b1]
  refine Wo_mono (copies_s hQ hN) ?_
  rintro s ⟨m1, m2, _⟩
  rw [Wo_b1]
  refine Wo_mono (fillsShare_m (QL_Fc hQ m2) m1 hn) ?_
  rintro s1 ⟨k1, k2, k3⟩
  have fc := Fc_tr m2 (Fw_Fc k3)
  rcases hz with ⟨rfl, rfl⟩ | ⟨i, hi, rfl, rfl⟩
  · rw [if_pos rfl, ix_nI (by omega) (by omega), gd_true, nI_clamp (by omega), Wo_some]
    have := k2.2 0 (by omega) n (Nat.le_refl _)
    rw [Nat.mul_zero, Nat.zero_add, Nat.sub_zero] at this
    exact ⟨this, fc⟩
  · rw [if_neg (by intro hx; have := nI_pos (n := i) (by omega); rw [hx] at this; exact this (by decide))]
    exact Wo_mono (share48_m hn6 hn hi k2) (fun p hp => ⟨hp.1, by rw [hp.2]; exact fc⟩)
theorem r_share {μ ν : Mem} (h : REL μ ν) (z0 : Int32) (z1 : Int32) : ∃ (r : Int32) (μ' : Mem) (ν' : Mem), fX11_share z0 z1 μ = some (r, μ') ∧ fX12_share z0 z1 ν = some (r, ν') ∧ REL μ' ν' := by
  have h' := h
  obtain ⟨w, L, R, a1, a2, a3, a4, a5, a6, a7, a8, a9, a10, a11, a12⟩ := h'
  have hn := a2.1
  unfold fX11_share fX12_share fX12_isSmall
  rw [in_c, b1_some, b1_some]
  by_cases c0 : z0 < 0
  · rw [if_pos c0, if_pos (Or.inl c0), if_pos p001]; exact ⟨_, _, _, rfl, rfl, h⟩
  · rw [if_neg c0]
    by_cases c1 : 30 < z0
    · rw [if_pos c1, if_pos (show z0 < 0 ∨ 30 < z0 from Or.inr c1), if_pos p001]; exact ⟨_, _, _, rfl, rfl, h⟩
    · rw [if_neg c1, if_neg (show ¬ (z0 < 0 ∨ 30 < z0) from fun hx => hx.elim c0 c1), if_neg n101]
      obtain ⟨n, hn1, rfl⟩ := nI_of c0
      rw [L_lt (by omega) (by omega)] at c1
      by_cases c2 : z1 = -1
      · rw [if_pos c2, if_pos c2]
        exact rel_of h _ (share_c (o := none) a2 a12.1 a5 a4.1 (by omega) (Or.inl ⟨c2, rfl⟩)) (share_m a3 a6 (by omega) (Or.inl ⟨c2, rfl⟩))
      · rw [if_neg c2, if_neg c2]
        rcases house_cases a2 a3 z1 with ⟨f1, f2⟩ | ⟨o, ho, rfl, f1, f2⟩
        · rw [f1, f2, b1_some, b1_some, if_pos rfl, if_pos rfl]; exact ⟨_, _, _, rfl, rfl, h⟩
        · rw [f1, f2, b1_some, b1_some, if_neg n10, if_neg n10]
          exact rel_of h _ (share_c (o := some o) a2 a12.1 a5 a4.1 (by omega) (Or.inr ⟨o, ho, rfl, rfl⟩)) (share_m a3 a6 (by omega) (Or.inr ⟨o, ho, rfl, rfl⟩))
