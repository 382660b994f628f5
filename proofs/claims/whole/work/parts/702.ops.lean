theorem upd_ap (f : Nat → Int32) (k : Nat) (x : Int32) (j : Nat) : upd f k x j = if j = k then x else f j := rfl
def sB1 (w : Kw) (h : Nat) (R : Nat → Int32) : Nat → Int32 := upd (upd R (6 + h) (cl 0 999 (R (6 + h) + sW w R h))) (30 + h) (R (30 + h) + 1)
def sB (w : Kw) (h : Nat) : Nat → (Nat → Int32) → Nat → Int32
  | 0, R => R
  | n + 1, R => sB1 w h (sB w h n R)
def sP (w : Kw) (R : Nat → Int32) (h : Nat) : Nat → Int32 := upd (upd (upd R (12 + h) (R (12 + h) - sF w R h)) (6 + h) (cl 0 999 (R (6 + h) - sCh w R h))) (30 + h) 0
def sPs (w : Kw) : Nat → (Nat → Int32) → Nat → Int32
  | 0, R => R
  | n + 1, R => sP w (sPs w n R) n
theorem sW_rng {w : Kw} {R : Nat → Int32} {h : Nat} : 0 ≤ sW w R h ∧ sW w R h ≤ 99 := cl_rng (by decide)
theorem sC_rng {w : Kw} {R : Nat → Int32} {h : Nat} : 0 ≤ sC w R h ∧ sC w R h ≤ 99 := cl_rng (by decide)
theorem sF_rng {w : Kw} {R : Nat → Int32} {h : Nat} (hR : RG w R) (hh : h < 6) : 0 ≤ sF w R h ∧ sF w R h ≤ R (12 + h) := cl_rng (hR h hh).2.1.1
theorem sCh_rng {w : Kw} {R : Nat → Int32} {h : Nat} (hR : RG w R) (hh : h < 6) : 0 ≤ sCh w R h ∧ sCh w R h ≤ 198 := by
  have h1 := (hR h hh).2.2.1
  have h2 := @sC_rng w R h
  unfold sCh
  rcases h1 with h1 | h1 <;> rw [h1] <;> grind
theorem RG_B1 {w : Kw} {R : Nat → Int32} {h : Nat} (hR : RG w R) (hh : h < 6) : RG w (sB1 w h R) := by
  intro h' hh'
  have := hR h' hh'
  have hc := @cl_rng 999 (R (6 + h) + sW w R h) (by decide)
  unfold sB1
  by_cases e : h' = h
  · subst e; simp (disch := omega) only [pk_us, pk_un]; grind
  · simp (disch := omega) only [pk_us, pk_un]; exact this
theorem RG_B {w : Kw} {R : Nat → Int32} {h : Nat} (hR : RG w R) (hh : h < 6) (n : Nat) : RG w (sB w h n R) := by
  induction n with
  | zero => exact hR
  | succ n ih => exact RG_B1 ih hh
theorem RG_P {w : Kw} {R : Nat → Int32} {h : Nat} (hR : RG w R) (hh : h < 6) : RG w (sP w R h) := by
  intro h' hh'
  have := hR h' hh'
  have hc := @cl_rng 999 (R (6 + h) - sCh w R h) (by decide)
  have hf := sF_rng hR hh
  unfold sP
  by_cases e : h' = h
  · subst e; simp (disch := omega) only [pk_us, pk_un]; grind
  · simp (disch := omega) only [pk_us, pk_un]; exact this
theorem RG_Ps {w : Kw} {R : Nat → Int32} (hR : RG w R) {n : Nat} (hn : n ≤ 6) : RG w (sPs w n R) := by
  induction n with
  | zero => exact hR
  | succ n ih => exact RG_P (ih (by omega)) (by omega)
theorem burn1_c {w : Kw} {μ : Mem} {q h : Nat} {R : Nat → Int32} (hQ : QC w μ) (hq : 24 ≤ q) (hS : SR μ q (kp w) R) (hR : RG w R) (hh : h < 6) (x3 x4 : Int32) (hx : ¬ x3 ≤ x4) (rec : Int32 → Mem → Option Mem) (Q : Mem → Prop) (hrec : ∀ μ' : Mem, SR μ' q (kp w) (sB1 w h R) → Fs q μ μ' → μ'.1 q 2 = μ.1 q 2 - 1 → μ'.1 q 3 = μ.1 q 3 + 1 → μ'.1 q 4 = μ.1 q 4 → Wo (rec (x4 + 1) μ') Q) : Wo (fX3_burnIn_s3 rec 17 q (nI h) x3 x4 μ) Q := by
  unfold fX3_burnIn_s3
  rw [if_neg hx, get_2 hS hh, b1_some, Wo_b2]
  refine Wo_mono (warms_c hQ hq hS hh) ?_
  rintro ⟨r, μ1⟩ ⟨h1, h2, h3⟩
  dsimp only at h1 h2 h3
  have hS1 : SR μ1 q (kp w) R := SR_fr hS (h2 q (by omega)) (h2 (q + 1) (by omega))
  have hS2 := SR_cell hS1 (h := h) (c := 2) hh (by omega) (by omega) (jmin 999 (R (6 + h) + r))
  have hS3 := SR_cell hS2 (h := h) (c := 6) hh (by omega) (by omega) (R (30 + h) + 1)
  simp only [bd_eq, set_2 hh, b1_some, get_6 hS2 hh]
  rw [pk_un (by omega), set_6 hh, b1_some]
  refine hrec _ ?_ ?_ ?_ ?_ ?_
  · refine SR_obj (SR_obj ?_ (by omega) _) (by omega) _
    have h4 := (hR h hh).1
    have h5 := @sW_rng w R h
    have he : jmin 999 (R (6 + h) + r) = cl 0 999 (R (6 + h) + sW w R h) := by
      rw [h1]; unfold jmin cl; grind
    rw [he] at hS3
    rw [he]
    exact hS3
  · refine ⟨fun j a b c => ?_, h3⟩
    rw [rd_Ii a, rd_Ii a, rd_Ii b, rd_Ii b]; exact h2 j c
  · simp (disch := omega) only [rd_Is, rd_Ii, rd_Ik, rd_I2]
    rw [h2 q (by omega)]
  · simp (disch := omega) only [rd_Is, rd_Ii, rd_Ik, rd_I2]
    rw [h2 q (by omega)]
  · simp (disch := omega) only [rd_Is, rd_Ii, rd_Ik, rd_I2]
    rw [h2 q (by omega)]
theorem burnIn_c {w : Kw} {μ : Mem} {q h n : Nat} {R : Nat → Int32} (hQ : QC w μ) (hq : 24 ≤ q) (hS : SR μ q (kp w) R) (hR : RG w R) (hh : h < 6) (hn : n < 100) : Wo (fX3_burnIn 17 q (nI h) (nI n) μ) (fun μ' => SR μ' q (kp w) (sB w h n R) ∧ Fs q μ μ' ∧ μ'.1 q 2 = μ.1 q 2 - nI n ∧ μ'.1 q 3 = μ.1 q 3 + nI n ∧ μ'.1 q 4 = μ.1 q 4) := by
  unfold fX3_burnIn
  refine lp0 (fun n' x s => fX3_burnIn_l3 17 q (nI h) (nI n) n' x s) n (by omega) (fun i s => SR s q (kp w) (sB w h i R) ∧ Fs q μ s ∧ s.1 q 2 = μ.1 q 2 - nI i ∧ s.1 q 3 = μ.1 q 3 + nI i ∧ s.1 q 4 = μ.1 q 4) _ μ ⟨hS, Fs_rfl, by rw [nI_0]; grind, by rw [nI_0]; grind, rfl⟩ ?_ ?_
  · rintro n' i s hi ⟨i1, i2, i3, i4, i5⟩ hrec
    refine burn1_c (QC_Fs hQ hq i2) hq i1 (RG_B hR hh i) hh _ _ (by simp (disch := omega) only [L_add, L_add2, L_mul, L_mul2, L_sub, nI_add, pk_mul, pk_sub, L_le, L_le2, L_lt, L_lt2, L_eq, L_eq2, nI_leI, nI_ltI, nI_eq, nI_clamp, ix_nI, ix_lit, L_cl]; omega) _ _ ?_
    intro μ' j1 j2 j3 j4 j5
    rw [nI_1]
    refine hrec μ' ⟨j1, Fs_tr i2 j2, ?_, ?_, ?_⟩
    · rw [j3, i3, ← nI_1]; grind
    · rw [j4, i4, ← nI_1]; grind
    · rw [j5, i5]
  · rintro n' s hI
    show Wo (fX3_burnIn_s3 _ _ _ _ _ _ _) _
    unfold fX3_burnIn_s3
    rw [if_pos (by simp (disch := omega) only [L_add, L_add2, L_mul, L_mul2, L_sub, nI_add, pk_mul, pk_sub, L_le, L_le2, L_lt, L_lt2, L_eq, L_eq2, nI_leI, nI_ltI, nI_eq, nI_clamp, ix_nI, ix_lit, L_cl]; omega), Wo_some]
    exact hI
theorem passHouse_c {w : Kw} {μ : Mem} {q h : Nat} {R : Nat → Int32} (hQ : QC w μ) (hq : 24 ≤ q) (hS : SR μ q (kp w) R) (hR : RG w R) (hh : h < 6) : Wo (fX3_passHouse 17 q (nI h) μ) (fun μ' => SR μ' q (kp w) (sP w R h) ∧ Fs q μ μ' ∧ μ'.1 q = μ.1 q) := by
  unfold fX3_passHouse
  rw [Wo_b2]
  refine Wo_mono (fades_c hQ hq hS hR hh) ?_
  rintro ⟨r, μ1⟩ ⟨h1, h2, h3⟩
  dsimp only at h1 h2 h3
  have hS1 : SR μ1 q (kp w) R := SR_fr hS (h2 q (by omega)) (h2 (q + 1) (by omega))
  have hQ1 : QC w μ1 := QC_fr hQ (fun j _ _ => h2 j (by omega))
  rw [Wo_b2]
  refine Wo_mono (cools_c hQ1 hq hS1 hh) ?_
  rintro ⟨r', μ2⟩ ⟨h1', h2', h3'⟩
  dsimp only at h1' h2' h3'
  have hS2 : SR μ2 q (kp w) R := SR_fr hS1 (h2' q (by omega)) (h2' (q + 1) (by omega))
  have hS3 := SR_cell hS2 (h := h) (c := 3) hh (by omega) (by omega) (R (12 + h) - r)
  have hS4 := SR_cell hS3 (h := h) (c := 2) hh (by omega) (by omega) (jmax 0 (R (6 + h) - r' * (1 + R (18 + h))))
  have hS5 := SR_cell hS4 (h := h) (c := 6) hh (by omega) (by omega) 0
  have e1 := get_2 hS3 hh
  rw [pk_un (by omega)] at e1
  unfold fX3_timesCooled
  simp only [bd_eq, set_2 hh, set_3 hh, set_6 hh, b1_some, get_3 hS2 hh, get_4 hS2 hh, e1]
  rw [Wo_some]
  have h4 := (hR h hh).1
  have h5 := sCh_rng hR hh
  have he : jmax 0 (R (6 + h) - r' * (1 + R (18 + h))) = cl 0 999 (R (6 + h) - sCh w R h) := by
    have : r' * (1 + R (18 + h)) = sCh w R h := by unfold sCh; rw [← h1']; grind
    rw [this]; unfold jmax cl; grind
  refine ⟨?_, ?_, ?_⟩
  · rw [he] at hS5 ⊢
    rw [show r = sF w R h from h1] at hS5 ⊢
    exact hS5
  · refine ⟨fun j a b c => ?_, ?_⟩
    · rw [rd_Ii b, rd_Ii b, rd_Ii b]; exact (h2' j c).trans (h2 j c)
    · exact h3'.trans h3
  · simp (disch := omega) only [rd_Is, rd_Ii, rd_Ik, rd_I2]
    exact (h2' q (by omega)).trans (h2 q (by omega))
theorem passDay_c {w : Kw} {μ : Mem} {q : Nat} {R : Nat → Int32} (hQ : QC w μ) (hq : 24 ≤ q) (hS : SR μ q (kp w) R) (hR : RG w R) : Wo (fX3_passDay 17 q μ) (fun μ' => SR μ' q (kp w) (sPs w (kn w) R) ∧ Fs q μ μ' ∧ μ'.1 q = μ.1 q) := by
  unfold fX3_passDay
  have hn := hQ.1
  refine lp0 (fun n' x s => fX3_passDay_l2 17 q n' x s) (kn w) (by omega) (fun i s => SR s q (kp w) (sPs w i R) ∧ Fs q μ s ∧ s.1 q = μ.1 q) _ μ ⟨hS, Fs_rfl, rfl⟩ ?_ ?_
  · rintro n' i s hi ⟨i1, i2, i3⟩ hrec
    show Wo (fX3_passDay_s2 _ _ _ _ _) _
    unfold fX3_passDay_s2
    have hQ' := QC_Fs hQ hq i2
    rw [hQ'.2.1, if_neg (by simp (disch := omega) only [L_add, L_add2, L_mul, L_mul2, L_sub, nI_add, pk_mul, pk_sub, L_le, L_le2, L_lt, L_lt2, L_eq, L_eq2, nI_leI, nI_ltI, nI_eq, nI_clamp, ix_nI, ix_lit, L_cl]; omega), Wo_b1]
    refine Wo_mono (passHouse_c hQ' hq i1 (RG_Ps hR (by omega)) (by omega)) ?_
    rintro μ' ⟨j1, j2, j3⟩
    rw [nI_1]
    exact hrec μ' ⟨j1, Fs_tr i2 j2, j3.trans i3⟩
  · rintro n' s ⟨i1, i2, i3⟩
    show Wo (fX3_passDay_s2 _ _ _ _ _) _
    unfold fX3_passDay_s2
    rw [(QC_Fs hQ hq i2).2.1, if_pos (by simp (disch := omega) only [L_add, L_add2, L_mul, L_mul2, L_sub, nI_add, pk_mul, pk_sub, L_le, L_le2, L_lt, L_lt2, L_eq, L_eq2, nI_leI, nI_ltI, nI_eq, nI_clamp, ix_nI, ix_lit, L_cl]; omega), Wo_some]
    exact ⟨i1, i2, i3⟩
