theorem cpo_n {n N : Nat} (h : n ≤ N) (hN : N < 2 ^ 31) : cpo 0 0 (nI n) N N = true := by
  unfold cpo
  rw [nI_clamp (by omega)]
  have h0 : (0 : Int32).toNatClampNeg = 0 := rfl
  rw [h0]
  have h1 : (0 : Int32) ≤ nI n := by simp (disch := omega) only [L_add, L_add2, L_mul, L_mul2, L_sub, nI_add, pk_mul, pk_sub, L_le, L_le2, L_lt, L_lt2, L_eq, L_eq2, nI_leI, nI_ltI, nI_eq, nI_clamp, ix_nI, ix_lit, L_cl]; omega
  exact decide_eq_true ⟨⟨by decide, by decide, h1⟩, by omega, by omega⟩
theorem cp1_c {μ : Mem} {sz : Nat} (h : μ.1 11 4 = nI sz) (hs : sz ≤ 416) : Wo (fX1_copyFrom 19 11 μ) (fun μ' => (∀ j, ¬ (19 ≤ j ∧ j ≤ 22) → μ'.1 j = μ.1 j) ∧ μ'.2 = μ.2 ∧ μ'.1 19 4 = nI sz ∧ (∀ i, i < sz → μ'.1 20 i = μ.1 12 i ∧ μ'.1 21 i = μ.1 13 i) ∧ ∀ k, k < 4 → μ'.1 22 k = μ.1 14 k) := by
  unfold fX1_copyFrom
  have h0 : (0 : Int32).toNatClampNeg = 0 := rfl
  have h4 : (4 : Int32).toNatClampNeg = 4 := rfl
  rw [h, cpo_n hs (by omega), gd_true, bd_eq, show (11 + 1) = 12 from rfl, show (19 + 1) = 20 from rfl, show (19 + 2) = 21 from rfl, show (11 + 2) = 13 from rfl, show (11 + 3) = 14 from rfl, show (19 + 3) = 22 from rfl, h0, nI_clamp (by omega)]
  generalize hμ1 : upA μ 20 (va_cpy (μ.1 12) (μ.1 20) 0 0 sz) = μ1
  have a1 : ∀ j, j ≠ 20 → μ1.1 j = μ.1 j := fun j hj => by rw [← hμ1]; exact (upA_ne hj).1
  have a2 : ∀ i, i < sz → μ1.1 20 i = μ.1 12 i := fun i hi => by rw [← hμ1, upA_eq, pk_cpy_in (Nat.zero_le _) (by omega), Nat.zero_add, Nat.sub_zero]
  have am : μ1.2 = μ.2 := by rw [← hμ1]; rfl
  have e1 : μ1.1 11 4 = nI sz := by rw [a1 11 (by omega)]; exact h
  rw [e1, cpo_n hs (by omega), gd_true, bd_eq, nI_clamp (by omega)]
  generalize hμ2 : upA μ1 21 (va_cpy (μ1.1 13) (μ1.1 21) 0 0 sz) = μ2
  have b1 : ∀ j, j ≠ 21 → μ2.1 j = μ1.1 j := fun j hj => by rw [← hμ2]; exact (upA_ne hj).1
  have b2 : ∀ i, i < sz → μ2.1 21 i = μ1.1 13 i := fun i hi => by rw [← hμ2, upA_eq, pk_cpy_in (Nat.zero_le _) (by omega), Nat.zero_add, Nat.sub_zero]
  have bm : μ2.2 = μ1.2 := by rw [← hμ2]; rfl
  rw [show cpo 0 0 4 4 4 = true from by decide, gd_true, bd_eq, h4]
  generalize hμ3 : upA μ2 22 (va_cpy (μ2.1 14) (μ2.1 22) 0 0 4) = μ3
  have c1 : ∀ j, j ≠ 22 → μ3.1 j = μ2.1 j := fun j hj => by rw [← hμ3]; exact (upA_ne hj).1
  have c2 : ∀ i, i < 4 → μ3.1 22 i = μ2.1 14 i := fun i hi => by rw [← hμ3, upA_eq, pk_cpy_in (Nat.zero_le _) (by omega), Nat.zero_add, Nat.sub_zero]
  have cm : μ3.2 = μ2.2 := by rw [← hμ3]; rfl
  rw [bd_eq, Wo_some, c1 11 (by omega), b1 11 (by omega), e1]
  refine ⟨fun j hj => by rw [rd_Ii (by omega), c1 j (by omega), b1 j (by omega), a1 j (by omega)], by rw [rd_I2, cm, bm, am], rd_Is, fun i hi => ⟨?_, ?_⟩, fun k hk => ?_⟩
  · rw [rd_Ii (by omega), c1 20 (by omega), b1 20 (by omega)]; exact a2 i hi
  · rw [rd_Ii (by omega), c1 21 (by omega), b2 i hi, a1 13 (by omega)]
  · rw [rd_Ii (by omega), c2 k hk, b1 14 (by omega), a1 14 (by omega)]
theorem cp3_c {μ : Mem} {sz : Nat} (h : μ.1 11 4 = nI sz) (hs : sz ≤ 416) : Wo (fX3_copyFrom 17 9 μ) (fun μ' => (∀ j, ¬ (17 ≤ j ∧ j ≤ 22) → μ'.1 j = μ.1 j) ∧ μ'.2 = μ.2 ∧ (∀ k, 2 ≤ k → k ≤ 6 → μ'.1 17 k = μ.1 9 k) ∧ (∀ i, i < 30 → μ'.1 18 i = μ.1 10 i) ∧ μ'.1 19 4 = nI sz ∧ (∀ i, i < sz → μ'.1 20 i = μ.1 12 i ∧ μ'.1 21 i = μ.1 13 i) ∧ ∀ k, k < 4 → μ'.1 22 k = μ.1 14 k) := by
  unfold fX3_copyFrom
  have h0 : (0 : Int32).toNatClampNeg = 0 := rfl
  have h30 : (30 : Int32).toNatClampNeg = 30 := rfl
  rw [show cpo 0 0 30 30 30 = true from by decide, gd_true, bd_eq, show 17 + 1 = 18 from rfl, show 9 + 1 = 10 from rfl, show 17 + 2 = 19 from rfl, show 9 + 2 = 11 from rfl, h0, h30]
  generalize hμ2 : upA μ 18 (va_cpy (μ.1 10) (μ.1 18) 0 0 30) = μ2
  have b1 : ∀ j, j ≠ 18 → μ2.1 j = μ.1 j := fun j hj => by rw [← hμ2]; exact (upA_ne hj).1
  have b2 : ∀ i, i < 30 → μ2.1 18 i = μ.1 10 i := fun i hi => by rw [← hμ2, upA_eq, pk_cpy_in (Nat.zero_le _) (by omega), Nat.zero_add, Nat.sub_zero]
  have bm : μ2.2 = μ.2 := by rw [← hμ2]; rfl
  rw [Wo_b1]
  refine Wo_mono (cp1_c (μ := μ2) (sz := sz) (by rw [b1 11 (by omega)]; exact h) hs) ?_
  rintro μ3 ⟨c1, c2, c3, c4, c5⟩
  simp only [bd_eq, Wo_some]
  have d8 : ∀ k, μ3.1 9 k = μ.1 9 k := fun k => by rw [c1 9 (by omega), b1 9 (by omega)]
  refine ⟨fun j hj => ?_, ?_, fun k hk1 hk2 => ?_, fun i hi => ?_, ?_, fun i hi => ?_, fun k hk => ?_⟩
  · rw [rd_Ii (by omega), rd_Ii (by omega), rd_Ii (by omega), rd_Ii (by omega), rd_Ii (by omega), c1 j (by omega), b1 j (by omega)]
  · simp only [rd_I2]; rw [c2, bm]
  · rcases (show k = 2 ∨ k = 3 ∨ k = 4 ∨ k = 5 ∨ k = 6 by omega) with rfl | rfl | rfl | rfl | rfl <;> simp (disch := omega) only [rd_Is, rd_Ik, rd_Ii, d8]
  · rw [rd_Ii (by omega), rd_Ii (by omega), rd_Ii (by omega), rd_Ii (by omega), rd_Ii (by omega), c1 18 (by omega)]; exact b2 i hi
  · rw [rd_Ii (by omega), rd_Ii (by omega), rd_Ii (by omega), rd_Ii (by omega), rd_Ii (by omega)]; exact c3
  · have := c4 i hi
    simp (disch := omega) only [rd_Ii]
    rw [b1 12 (by omega), b1 13 (by omega)] at this
    exact this
  · rw [rd_Ii (by omega), rd_Ii (by omega), rd_Ii (by omega), rd_Ii (by omega), rd_Ii (by omega), c5 k hk, b1 14 (by omega)]
theorem set24_c {h c : Nat} {v : Int32} {μ : Mem} (hh : h < 6) (hc : c < 7) : fX7_set 24 (nI h) (nI c) v μ = some (upI μ 25 (7 * h + c) v) := by
  unfold fX7_set
  rw [show nI h * 7 + nI c = nI (h * 7 + c) by simp (disch := omega) only [L_add, L_add2, L_mul, L_mul2, L_sub, nI_add, pk_mul, pk_sub, L_le, L_le2, L_lt, L_lt2, L_eq, L_eq2, nI_leI, nI_ltI, nI_eq, nI_clamp, ix_nI, ix_lit, L_cl], bd_eq, if_neg (nI_pos (by omega)), if_neg (by simp (disch := omega) only [L_add, L_add2, L_mul, L_mul2, L_sub, nI_add, pk_mul, pk_sub, L_le, L_le2, L_lt, L_lt2, L_eq, L_eq2, nI_leI, nI_ltI, nI_eq, nI_clamp, ix_nI, ix_lit, L_cl]; omega), ix_nI (by omega) (by omega), gd_true, nI_clamp (by omega), bd_eq, show h * 7 + c = 7 * h + c by omega]
theorem num_c {h c : Nat} {μ : Mem} (hh : h < 6) (hc : c < 5) : fX3_number 17 (nI h) (nI c) μ = some (μ.1 18 (h * 5 + c)) := by
  unfold fX3_number
  rw [show nI h * 5 + nI c = nI (h * 5 + c) by simp (disch := omega) only [L_add, L_add2, L_mul, L_mul2, L_sub, nI_add, pk_mul, pk_sub, L_le, L_le2, L_lt, L_lt2, L_eq, L_eq2, nI_leI, nI_ltI, nI_eq, nI_clamp, ix_nI, ix_lit, L_cl], bd_eq, if_neg (nI_pos (by omega)), if_neg (by simp (disch := omega) only [L_add, L_add2, L_mul, L_mul2, L_sub, nI_add, pk_mul, pk_sub, L_le, L_le2, L_lt, L_lt2, L_eq, L_eq2, nI_leI, nI_ltI, nI_eq, nI_clamp, ix_nI, ix_lit, L_cl]; omega), ix_nI (by omega) (by omega), gd_true, nI_clamp (by omega)]
def bgV (N : Nat → Nat → Int32) (i h c : Nat) : Int32 := if h < i then (if c = 0 then N h 0 else if c = 2 then N h 1 else if c = 3 then N h 2 else 0) else 0
theorem begin_c {μ : Mem} {h : Nat} (hh : h ≤ 6) (h3 : μ.1 17 2 = nI h) : Wo (fX3_begin 17 24 μ) (fun μ' => (∀ j, j ≠ 24 → j ≠ 25 → μ'.1 j = μ.1 j) ∧ μ'.2 = μ.2 ∧ (∀ i c, i < 6 → c < 7 → μ'.1 25 (7 * i + c) = bgV (fun a b => μ.1 18 (a * 5 + b)) h i c) ∧ μ'.1 24 1 = 0 ∧ μ'.1 24 2 = μ.1 17 3 ∧ μ'.1 24 3 = 0 ∧ μ'.1 24 4 = 0) := by
  unfold fX3_begin
  refine lp0 (fun n' x s => fX3_begin_l2 _ 17 24 n' x s) 6 (by omega) (fun i s => (∀ j, j ≠ 25 → s.1 j = μ.1 j) ∧ s.2 = μ.2 ∧ ∀ k, k < 7 * i → s.1 25 k = 0) _ μ ⟨fun _ _ => rfl, rfl, fun k hk => by omega⟩ ?_ ?_
  · rintro n' i s hi ⟨i1, i2, i3⟩ hrec
    show Wo (fX3_begin_s2 _ _ _ _ _ _) _
    unfold fX3_begin_s2
    rw [if_neg (by simp (disch := omega) only [L_add, L_add2, L_mul, L_mul2, L_sub, nI_add, pk_mul, pk_sub, L_le, L_le2, L_lt, L_lt2, L_eq, L_eq2, nI_leI, nI_ltI, nI_eq, nI_clamp, ix_nI, ix_lit, L_cl]; omega)]
    refine lp0 (fun n' x s => fX3_begin_l10 _ 17 24 (nI i) n' x s) 7 (by omega) (fun c s => (∀ j, j ≠ 25 → s.1 j = μ.1 j) ∧ s.2 = μ.2 ∧ ∀ k, k < 7 * i + c → s.1 25 k = 0) _ s ⟨i1, i2, fun k hk => i3 k (by omega)⟩ ?_ ?_
    · rintro n'' c s' hc ⟨j1, j2, j3⟩ hrec'
      show Wo (fX3_begin_s10 _ _ _ _ _ _ _) _
      unfold fX3_begin_s10
      rw [if_neg (by simp (disch := omega) only [L_add, L_add2, L_mul, L_mul2, L_sub, nI_add, pk_mul, pk_sub, L_le, L_le2, L_lt, L_lt2, L_eq, L_eq2, nI_leI, nI_ltI, nI_eq, nI_clamp, ix_nI, ix_lit, L_cl]; omega), set24_c hi hc, b1_some, nI_1 c]
      refine hrec' _ ⟨fun j hj => by rw [rd_Ii hj]; exact j1 j hj, j2, fun k hk => ?_⟩
      by_cases e : k = 7 * i + c
      · subst e; exact rd_Is
      · rw [rd_Ik e]; exact j3 k (by omega)
    · rintro n'' s' ⟨j1, j2, j3⟩
      show Wo (fX3_begin_s10 _ _ _ _ _ _ _) _
      unfold fX3_begin_s10
      rw [if_pos (by decide)]
      show Wo (fX3_begin_l2 _ 17 24 n' (nI i + 1) s') _
      rw [nI_1]
      exact hrec _ ⟨j1, j2, fun k hk => j3 k (by omega)⟩
  · rintro n' s ⟨i1, i2, i3⟩
    show Wo (fX3_begin_s2 _ _ _ _ _ _) _
    unfold fX3_begin_s2
    rw [if_pos (by decide)]
    refine lp0 (fun n' x s => fX3_begin_l37 _ 17 24 n' x s) h (by omega) (fun i s => (∀ j, j ≠ 25 → s.1 j = μ.1 j) ∧ s.2 = μ.2 ∧ ∀ a c, a < 6 → c < 7 → s.1 25 (7 * a + c) = bgV (fun a b => μ.1 18 (a * 5 + b)) i a c) _ s ⟨i1, i2, fun a c ha hc => by rw [i3 _ (by omega)]; unfold bgV; rw [if_neg (by omega)]⟩ ?_ ?_
    · rintro n'' i s' hi ⟨j1, j2, j3⟩ hrec
      show Wo (fX3_begin_s37 _ _ _ _ _ _) _
      unfold fX3_begin_s37
      have e18 : s'.1 18 = μ.1 18 := j1 18 (by omega)
      rw [j1 17 (by omega), h3, if_neg (by simp (disch := omega) only [L_add, L_add2, L_mul, L_mul2, L_sub, nI_add, pk_mul, pk_sub, L_le, L_le2, L_lt, L_lt2, L_eq, L_eq2, nI_leI, nI_ltI, nI_eq, nI_clamp, ix_nI, ix_lit, L_cl]; omega)]
      show Wo (b1 (fX3_number 17 (nI i) (nI 0) s') (fun r6 => b1 (fX7_set 24 (nI i) (nI 0) r6 s') (fun μ8 => b1 (fX3_number 17 (nI i) (nI 1) μ8) (fun r10 => b1 (fX7_set 24 (nI i) (nI 2) r10 μ8) (fun μ12 => b1 (fX3_number 17 (nI i) (nI 2) μ12) (fun r14 => b1 (fX7_set 24 (nI i) (nI 3) r14 μ12) (fun μ16 => fX3_begin_l37 _ 17 24 n'' (nI i + 1) μ16))))))) _
      rw [num_c (by omega) (by omega), b1_some, set24_c (by omega) (by omega), b1_some, num_c (by omega) (by omega), b1_some, set24_c (by omega) (by omega), b1_some, num_c (by omega) (by omega), b1_some, set24_c (by omega) (by omega), b1_some, nI_1, rd_Ii (by omega), rd_Ii (by omega), rd_Ii (by omega), e18]
      refine hrec _ ⟨fun j hj => by rw [rd_Ii hj, rd_Ii hj, rd_Ii hj]; exact j1 j hj, j2, fun a c ha hc => ?_⟩
      have hj := j3 a c ha hc
      unfold bgV at hj ⊢
      by_cases ea : a = i
      · subst ea
        rw [if_neg (by omega)] at hj
        rw [if_pos (by omega)]
        by_cases c0 : c = 0
        · subst c0; rw [rd_Ik (by omega), rd_Ik (by omega), rd_Is, if_pos rfl]
        · rw [if_neg c0]
          by_cases c2 : c = 2
          · subst c2; rw [rd_Ik (by omega), rd_Is, if_pos rfl]
          · rw [if_neg c2]
            by_cases c3 : c = 3
            · subst c3; rw [rd_Is, if_pos rfl]
            · rw [if_neg c3, rd_Ik (by omega), rd_Ik (by omega), rd_Ik (by omega)]; exact hj
      · rw [rd_Ik (by omega), rd_Ik (by omega), rd_Ik (by omega), hj]
        by_cases hl : a < i
        · rw [if_pos hl, if_pos (show a < i + 1 by omega)]
        · rw [if_neg hl, if_neg (show ¬ a < i + 1 by omega)]
    · rintro n'' s' ⟨j1, j2, j3⟩
      show Wo (fX3_begin_s37 _ _ _ _ _ _) _
      unfold fX3_begin_s37
      rw [j1 17 (by omega), h3, if_pos (by simp (disch := omega) only [L_add, L_add2, L_mul, L_mul2, L_sub, nI_add, pk_mul, pk_sub, L_le, L_le2, L_lt, L_lt2, L_eq, L_eq2, nI_leI, nI_ltI, nI_eq, nI_clamp, ix_nI, ix_lit, L_cl]; omega)]
      show Wo (bd (upI s' 24 1 0) (fun μ18 => bd (upI μ18 24 2 (μ18.1 17 3)) (fun μ20 => bd (upI μ20 24 3 0) (fun μ22 => bd (upI μ22 24 4 0) (fun μ24 => some μ24))))) _
      rw [bd_eq, bd_eq, bd_eq, bd_eq, Wo_some, rd_Ii (by omega), j1 17 (by omega)]
      refine ⟨fun j a c => by rw [rd_Ii a, rd_Ii a, rd_Ii a, rd_Ii a]; exact j1 j c, j2, fun i c hi hc => by rw [rd_Ii (by omega), rd_Ii (by omega), rd_Ii (by omega), rd_Ii (by omega)]; exact j3 i c hi hc, ?_, ?_, ?_, rd_Is⟩
      · simp (disch := omega) only [rd_Ik, rd_Is]
      · simp (disch := omega) only [rd_Ik, rd_Is]
      · simp (disch := omega) only [rd_Ik, rd_Is]
