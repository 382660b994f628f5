def R0 (h : Nat) (a b : Nat → Int32) (c : Int32) (k : Nat) : Int32 := if 6 ≤ k ∧ k < 6 + h then a (k - 6) else if 12 ≤ k ∧ k < 12 + h then b (k - 12) else if k = 37 then c else 0
theorem begins_m {ν : Mem} {L h : Nat} (hL : L < 2) (h18 : ν.1 0 18 = nI L) (hh : h ≤ 6) (h9 : ν.1 9 L = nI h) : Wo (fX12_begins ν) (fun ν' => (∀ j, j ≠ 0 → j ≠ 32 → ν'.1 j = ν.1 j) ∧ (∀ k, k ≠ 49 → k ≠ 50 → ν'.1 0 k = ν.1 0 k) ∧ ν'.2 = ν.2 ∧ MR ν' (R0 h (fun i => ν.1 11 (6 * L + i)) (fun i => ν.1 12 (6 * L + i)) (ν.1 15 L))) := by
  unfold fX12_begins
  refine lp0 (fun n' x s => fX12_begins_l2 _ n' x s) 39 (by omega) (fun i s => (∀ j, j ≠ 32 → s.1 j = ν.1 j) ∧ s.2 = ν.2 ∧ ∀ k, k < i → s.1 32 k = 0) _ ν ⟨fun _ _ => rfl, rfl, fun k hk => by omega⟩ ?_ ?_
  · rintro n' i s hi ⟨i1, i2, i3⟩ hrec
    show Wo (fX12_begins_s2 _ _ _ _) _
    unfold fX12_begins_s2
    rw [if_neg (by simp (disch := omega) only [L_add, L_add2, L_mul, L_mul2, L_sub, nI_add, pk_mul, pk_sub, L_le, L_le2, L_lt, L_lt2, L_eq, L_eq2, nI_leI, nI_ltI, nI_eq, nI_clamp, ix_nI, ix_lit, L_cl]; omega), ix_nI (by omega) (by omega), gd_true, nI_clamp (by omega), bd_eq, nI_1 i]
    refine hrec _ ⟨fun j hj => by rw [rd_Ii hj]; exact i1 j hj, i2, fun k hk => ?_⟩
    by_cases e : k = i
    · subst e; exact rd_Is
    · rw [rd_Ik e]; exact i3 k (by omega)
  · rintro n' s ⟨i1, i2, i3⟩
    show Wo (fX12_begins_s2 _ _ _ _) _
    unfold fX12_begins_s2
    rw [if_pos (by decide)]
    have many : ∀ s : Mem, (∀ j, j ≠ 32 → s.1 j = ν.1 j) → fX12_many s = some (nI h) := by
      intro s hs
      unfold fX12_many
      rw [hs 0 (by omega), h18, ix_nI (by omega) (by omega), gd_true, nI_clamp (by omega), hs 9 (by omega), h9]
    refine lp0 (fun n' x s => fX12_begins_l23 _ n' x s) h (by omega) (fun i s => (∀ j, j ≠ 32 → s.1 j = ν.1 j) ∧ s.2 = ν.2 ∧ ∀ k, k < 39 → s.1 32 k = R0 i (fun i => ν.1 11 (6 * L + i)) (fun i => ν.1 12 (6 * L + i)) 0 k) _ s ⟨i1, i2, fun k hk => by rw [i3 k hk]; unfold R0; rw [if_neg (by omega), if_neg (by omega)]; split <;> rfl⟩ ?_ ?_
    · rintro n'' i s' hi ⟨j1, j2, j3⟩ hrec
      show Wo (fX12_begins_s23 _ _ _ _) _
      unfold fX12_begins_s23
      have e6 : 6 * nI L + nI i = nI (6 * L + i) := by simp (disch := omega) only [L_add, L_add2, L_mul, L_mul2, L_sub, nI_add, pk_mul, pk_sub, L_le, L_le2, L_lt, L_lt2, L_eq, L_eq2, nI_leI, nI_ltI, nI_eq, nI_clamp, ix_nI, ix_lit, L_cl]
      have e7 : (6 : Int32) + nI i = nI (6 + i) := by simp (disch := omega) only [L_add, L_add2, L_mul, L_mul2, L_sub, nI_add, pk_mul, pk_sub, L_le, L_le2, L_lt, L_lt2, L_eq, L_eq2, nI_leI, nI_ltI, nI_eq, nI_clamp, ix_nI, ix_lit, L_cl]
      have e8 : (12 : Int32) + nI i = nI (12 + i) := by simp (disch := omega) only [L_add, L_add2, L_mul, L_mul2, L_sub, nI_add, pk_mul, pk_sub, L_le, L_le2, L_lt, L_lt2, L_eq, L_eq2, nI_leI, nI_ltI, nI_eq, nI_clamp, ix_nI, ix_lit, L_cl]
      rw [many s' j1, b1_some, if_neg (by simp (disch := omega) only [L_add, L_add2, L_mul, L_mul2, L_sub, nI_add, pk_mul, pk_sub, L_le, L_le2, L_lt, L_lt2, L_eq, L_eq2, nI_leI, nI_ltI, nI_eq, nI_clamp, ix_nI, ix_lit, L_cl]; omega), j1 0 (by omega), h18, e6, e7, e8, ix_nI (by omega) (by omega), gd_true, ix_nI (by omega) (by omega), gd_true, nI_clamp (by omega), nI_clamp (by omega), bd_eq, rd_Ii (by omega), j1 0 (by omega), h18, e6, ix_nI (by omega) (by omega), gd_true, ix_nI (by omega) (by omega), gd_true, nI_clamp (by omega), nI_clamp (by omega), bd_eq, nI_1 i, rd_Ii (by omega), j1 11 (by omega), j1 12 (by omega)]
      refine hrec _ ⟨fun j hj => by rw [rd_Ii hj, rd_Ii hj]; exact j1 j hj, j2, fun k hk => ?_⟩
      have hj := j3 k hk
      unfold R0 at hj ⊢
      by_cases k6 : k = 6 + i
      · subst k6
        rw [rd_Ik (by omega), rd_Is, if_pos (by omega), show 6 + i - 6 = i by omega]
      · by_cases k12 : k = 12 + i
        · subst k12
          rw [rd_Is, if_neg (by omega), if_pos (by omega), show 12 + i - 12 = i by omega]
        · rw [rd_Ik k12, rd_Ik k6, hj]
          by_cases c1 : 6 ≤ k ∧ k < 6 + i
          · rw [if_pos c1, if_pos (show 6 ≤ k ∧ k < 6 + (i + 1) by omega)]
          · rw [if_neg c1, if_neg (show ¬ (6 ≤ k ∧ k < 6 + (i + 1)) by omega)]
            by_cases c2 : 12 ≤ k ∧ k < 12 + i
            · rw [if_pos c2, if_pos (show 12 ≤ k ∧ k < 12 + (i + 1) by omega)]
            · rw [if_neg c2, if_neg (show ¬ (12 ≤ k ∧ k < 12 + (i + 1)) by omega)]
    · rintro n'' s' ⟨j1, j2, j3⟩
      show Wo (fX12_begins_s23 _ _ _ _) _
      unfold fX12_begins_s23
      rw [many s' j1, b1_some, if_pos (by simp (disch := omega) only [L_add, L_add2, L_mul, L_mul2, L_sub, nI_add, pk_mul, pk_sub, L_le, L_le2, L_lt, L_lt2, L_eq, L_eq2, nI_leI, nI_ltI, nI_eq, nI_clamp, ix_nI, ix_lit, L_cl]; omega)]
      show Wo (gd (ix (s'.1 0 18) 2) (bd (upI s' 32 37 (s'.1 15 ((s'.1 0 18).toNatClampNeg))) (fun μ17 => gd (ix (μ17.1 0 18) 2) (bd (upI μ17 0 49 (μ17.1 18 ((μ17.1 0 18).toNatClampNeg))) (fun μ20 => bd (upI μ20 0 50 0) (fun μ22 => some μ22)))))) _
      rw [j1 0 (by omega), h18, ix_nI (by omega) (by omega), gd_true, nI_clamp (by omega), bd_eq, rd_Ii (by omega), j1 0 (by omega), h18, ix_nI (by omega) (by omega), gd_true, nI_clamp (by omega), bd_eq, bd_eq, Wo_some, j1 15 (by omega)]
      refine ⟨fun j a b => by rw [rd_Ii a, rd_Ii a, rd_Ii b]; exact j1 j b, fun k a b => by rw [rd_Ik b, rd_Ik a, rd_Ii (by omega), j1 0 (by omega)], j2, fun k hk => ?_⟩
      rw [rd_Ii (by omega), rd_Ii (by omega)]
      by_cases e : k = 37
      · subst e; rw [rd_Is]; unfold R0; rw [if_neg (by omega), if_neg (by omega), if_pos rfl]
      · rw [rd_Ik e, j3 k hk]; unfold R0; rw [if_neg e, if_neg e]
theorem clearAll_c {μ : Mem} : Wo (fX0_clearAll μ) (fun μ' => (∀ j, j ≠ 30 → j ≠ 119 → μ'.1 j = μ.1 j) ∧ (∀ k, k ≠ 4 → μ'.1 30 k = μ.1 30 k) ∧ μ'.1 30 4 = 0 ∧ μ'.2 = μ.2 ∧ ∀ s, s < 3 → μ'.1 119 s = 0) := by
  unfold fX0_clearAll
  rw [bd_eq]
  refine lp0 (fun n' x s => fX0_clearAll_l7 n' x s) 3 (by omega) (fun i s => (∀ j, j ≠ 119 → s.1 j = (upI μ 30 4 0).1 j) ∧ s.2 = μ.2 ∧ ∀ k, k < i → s.1 119 k = 0) _ (upI μ 30 4 0) ⟨fun _ _ => rfl, rfl, fun k hk => by omega⟩ ?_ ?_
  · rintro n' i s hi ⟨i1, i2, i3⟩ hrec
    show Wo (fX0_clearAll_s7 _ _ _) _
    unfold fX0_clearAll_s7
    rw [if_neg (by simp (disch := omega) only [L_add, L_add2, L_mul, L_mul2, L_sub, nI_add, pk_mul, pk_sub, L_le, L_le2, L_lt, L_lt2, L_eq, L_eq2, nI_leI, nI_ltI, nI_eq, nI_clamp, ix_nI, ix_lit, L_cl]; omega), ix_nI (by omega) (by omega), gd_true, nI_clamp (by omega), bd_eq, nI_1 i]
    refine hrec _ ⟨fun j hj => by rw [rd_Ii hj]; exact i1 j hj, i2, fun k hk => ?_⟩
    by_cases e : k = i
    · subst e; exact rd_Is
    · rw [rd_Ik e]; exact i3 k (by omega)
  · rintro n' s ⟨i1, i2, i3⟩
    show Wo (fX0_clearAll_s7 _ _ _) _
    unfold fX0_clearAll_s7
    rw [if_pos (by decide), Wo_some]
    exact ⟨fun j a b => by rw [i1 j b, rd_Ii a], fun k hk => by rw [i1 30 (by omega), rd_Ik hk], by rw [i1 30 (by omega), rd_Is], i2, i3⟩
theorem l214_m {ν : Mem} : Wo (fX12_read_l214 FU 0 ν) (fun p => p.1 = 0 ∧ (∀ j, j ≠ 47 → p.2.1 j = ν.1 j) ∧ p.2.2 = ν.2 ∧ ∀ s, s < 3 → p.2.1 47 s = 0) := by
  refine lp0 (fun n' x s => fX12_read_l214 n' x s) 3 (by omega) (fun i s => (∀ j, j ≠ 47 → s.1 j = ν.1 j) ∧ s.2 = ν.2 ∧ ∀ k, k < i → s.1 47 k = 0) _ ν ⟨fun _ _ => rfl, rfl, fun k hk => by omega⟩ ?_ ?_
  · rintro n' i s hi ⟨i1, i2, i3⟩ hrec
    show Wo (fX12_read_s214 _ _ _) _
    unfold fX12_read_s214
    rw [if_neg (by simp (disch := omega) only [L_add, L_add2, L_mul, L_mul2, L_sub, nI_add, pk_mul, pk_sub, L_le, L_le2, L_lt, L_lt2, L_eq, L_eq2, nI_leI, nI_ltI, nI_eq, nI_clamp, ix_nI, ix_lit, L_cl]; omega), ix_nI (by omega) (by omega), gd_true, nI_clamp (by omega), bd_eq, nI_1 i]
    refine hrec _ ⟨fun j hj => by rw [rd_Ii hj]; exact i1 j hj, i2, fun k hk => ?_⟩
    by_cases e : k = i
    · subst e; exact rd_Is
    · rw [rd_Ik e]; exact i3 k (by omega)
  · rintro n' s ⟨i1, i2, i3⟩
    show Wo (fX12_read_s214 _ _ _) _
    unfold fX12_read_s214
    rw [if_pos (by decide), Wo_some]
    exact ⟨rfl, i1, i2, i3⟩
