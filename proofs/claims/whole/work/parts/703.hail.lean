def mx (a b : Int32) : Int32 := (((a ^^^ b) * 1103515245) + 12345) ^^^ (ushr (((a ^^^ b) * 1103515245) + 12345) 15)
def lv (n s k : Int32) : Int32 := (ushr (mx (mx s 177) k) 1) - (ushr (mx (mx s 177) k) 1) / n * n
theorem ushr1_nI (x : Int32) : ∃ m : Nat, m < 2 ^ 31 ∧ ushr x 1 = nI m := by
  have h := pk_ushr x 1 1 (by decide)
  refine ⟨x.toBitVec.toNat / 2, ?_, ?_⟩
  · have := x.toBitVec.isLt; omega
  · apply Int32.toBitVec_inj.mp
    apply BitVec.eq_of_toNat_eq
    rw [pk_tn (by have := x.toBitVec.isLt; omega)]
    exact h
theorem lv_nI {k : Nat} (s a : Int32) (hk : 0 < k) (hk2 : k < 2 ^ 31) : ∃ j, j < k ∧ lv (nI k) s a = nI j := by
  unfold lv
  obtain ⟨m, hm, he⟩ := ushr1_nI (mx (mx s 177) a)
  rw [he, pk_rem hm hk hk2]
  exact ⟨m % k, Nat.mod_lt _ hk, rfl⟩
theorem mixed_c (a b : Int32) : fX3_mixed a b = some (mx a b) := rfl
theorem mixed_m (a b : Int32) : fX12_mixed a b = some (mx a b) := rfl
theorem lot_c {n : Nat} (s k : Int32) (hn : 0 < n) (hn2 : n < 2 ^ 31) : fX3_lot (nI n) s k = some (lv (nI n) s k) := by
  unfold fX3_lot
  rw [mixed_c, b1_some, mixed_c, b1_some, if_neg (by simp (disch := omega) only [L_add, L_add2, L_mul, L_mul2, L_sub, nI_add, pk_mul, pk_sub, L_le, L_le2, L_lt, L_lt2, L_eq, L_eq2, nI_leI, nI_ltI, nI_eq, nI_clamp, ix_nI, ix_lit, L_cl]; omega), dz_nI hn hn2]
  rfl
theorem hails_c {w : Kw} {μ : Mem} (hQ : QC w μ) (s d : Int32) : fX3_hails 17 s d μ = some (if khail w ≤ lv 100 s (4 * d) then 0 else 1) := by
  unfold fX3_hails
  rw [show (100 : Int32) = nI 100 from rfl, lot_c s _ (by omega) (by omega), b1_some, hQ.2.2.2.1]
  split <;> rfl
/-- the house that is struck, if one is -/
def sK (w : Kw) (s d : Int32) : Option Nat := if kn w = 0 then none else if khail w ≤ lv 100 s (4 * d) then none else some (lv (nI (kn w)) s (4 * d + 1)).toNatClampNeg
theorem sK_lt {w : Kw} {s d : Int32} {h : Nat} (hn : kn w ≤ 6) (he : sK w s d = some h) : h < kn w ∧ lv (nI (kn w)) s (4 * d + 1) = nI h := by
  unfold sK at he
  split at he
  · cases he
  · split at he
    · cases he
    · cases he
      obtain ⟨j, hj, e⟩ := lv_nI (k := kn w) s (4 * d + 1) (by omega) (by omega)
      rw [e, nI_clamp (by omega)]; exact ⟨hj, rfl⟩
theorem struck_c {w : Kw} {μ : Mem} (hQ : QC w μ) (s d : Int32) : fX3_struckHouse 17 s d μ = some (match sK w s d with | none => -1 | some h => nI h) := by
  unfold fX3_struckHouse
  have hn := hQ.1
  rw [hQ.2.1]
  by_cases h0 : kn w = 0
  · rw [if_pos (by rw [h0]; decide)]; unfold sK; rw [if_pos h0]
  · rw [if_neg (by simp (disch := omega) only [L_add, L_add2, L_mul, L_mul2, L_sub, nI_add, pk_mul, pk_sub, L_le, L_le2, L_lt, L_lt2, L_eq, L_eq2, nI_leI, nI_ltI, nI_eq, nI_clamp, ix_nI, ix_lit, L_cl]; omega), hails_c hQ, b1_some]
    by_cases h1 : khail w ≤ lv 100 s (4 * d)
    · rw [if_pos h1, if_pos rfl]; unfold sK; rw [if_neg h0, if_pos h1]
    · rw [if_neg h1, if_neg (by decide), lot_c _ _ (by omega) (by omega), b1_some]
      have e : sK w s d = some (lv (nI (kn w)) s (4 * d + 1)).toNatClampNeg := by unfold sK; rw [if_neg h0, if_neg h1]
      rw [e]
      exact congrArg some (sK_lt hn e).2
def sBk (w : Kw) (h : Nat) (R : Nat → Int32) : Nat → Int32 := if kp w h ≤ R h then R else upd R h (R h + 1)
def sH (w : Kw) (s : Int32) (R : Nat → Int32) : Nat → Int32 := match sK w s (R 36) with
  | none => R
  | some h => sBk w h R
/-- what holds of a quarter -/
def KW (w : Kw) : Prop := kn w ≤ 6 ∧ (∀ h, 0 ≤ kp w h ∧ kp w h ≤ 20) ∧ (∀ h, kn w ≤ h → kp w h = 0)
theorem RG_Bk {w : Kw} {R : Nat → Int32} {h : Nat} (hK : KW w) (hR : RG w R) (hh : h < 6) : RG w (sBk w h R) := by
  unfold sBk
  split
  · exact hR
  · intro h' hh'
    have h1 := hR h' hh'
    have h2 := hK.2.1 h
    by_cases e : h' = h
    · subst e; simp (disch := omega) only [pk_us, pk_un]; grind
    · simp (disch := omega) only [pk_us, pk_un]; exact h1
theorem RG_H {w : Kw} {R : Nat → Int32} {s : Int32} (hK : KW w) (hR : RG w R) : RG w (sH w s R) := by
  unfold sH
  split
  · exact hR
  · exact RG_Bk hK hR (by have := (sK_lt hK.1 (by assumption)).1; have := hK.1; omega)
theorem breakPane_c {w : Kw} {μ : Mem} {q h : Nat} {R : Nat → Int32} (hS : SR μ q (kp w) R) (hh : h < 6) : Wo (fX3_breakPane 17 q (nI h) μ) (fun μ' => SR μ' q (kp w) (sBk w h R) ∧ Fs q μ μ' ∧ μ'.1 q = μ.1 q) := by
  unfold fX3_breakPane
  rw [get_1 hS hh, b1_some, get_p hS hh, b1_some]
  unfold sBk
  split
  · rw [Wo_some]; exact ⟨hS, Fs_rfl, rfl⟩
  · rw [set_1 hh, b1_some, Wo_some]
    refine ⟨?_, Fs_cell, rd_Ii (by omega)⟩
    have := SR_cell hS (h := h) (c := 1) hh (by omega) (by omega) (R h + 1)
    rw [show 6 * (1 - 1) + h = h by omega] at this
    exact this
theorem hailOn_c {w : Kw} {μ : Mem} {q : Nat} {R : Nat → Int32} (hQ : QC w μ) (hS : SR μ q (kp w) R) : Wo (fX3_hailOn 17 q μ) (fun μ' => SR μ' q (kp w) (sH w (kseed w) R) ∧ Fs q μ μ' ∧ μ'.1 q = μ.1 q) := by
  unfold fX3_hailOn
  rw [hQ.2.2.2.2.1, hS.2.2, struck_c hQ, b1_some]
  unfold sH
  split
  · rename_i e
    rw [if_pos rfl, Wo_some]; exact ⟨hS, Fs_rfl, rfl⟩
  · rename_i h e
    have hl := (sK_lt hQ.1 e).1
    have hn := hQ.1
    rw [if_neg, Wo_b1]
    · refine Wo_mono (breakPane_c hS (by omega)) ?_
      intro μ' h'
      rw [Wo_some]; exact h'
    · intro hx
      have := nI_pos (n := h) (by omega)
      rw [hx] at this
      exact this (by decide)
theorem copy_c {μ : Mem} {q q1 : Nat} (h0 : q ≠ q1) (h1 : q + 1 ≠ q1) (h2 : q ≠ q1 + 1) : Wo (fX7_copyFrom q q1 μ) (fun μ' => (∀ j, j ≠ q → j ≠ q + 1 → μ'.1 j = μ.1 j) ∧ μ'.2 = μ.2 ∧ (∀ i, i < 42 → μ'.1 (q + 1) i = μ.1 (q1 + 1) i) ∧ μ'.1 q 1 = μ.1 q1 1 ∧ μ'.1 q 2 = μ.1 q1 2 ∧ μ'.1 q 3 = μ.1 q1 3 ∧ μ'.1 q 4 = μ.1 q1 4) := by
  unfold fX7_copyFrom
  rw [show cpo 0 0 42 42 42 = true from by decide]
  simp only [gd_true, bd_eq, Wo_some]
  refine ⟨fun j a b => ?_, rfl, fun i hi => ?_, ?_⟩
  · rw [rd_Ii a, rd_Ii a, rd_Ii a, rd_Ii a]; exact (upA_ne b).1
  · rw [rd_Ii (by omega), rd_Ii (by omega), rd_Ii (by omega), rd_Ii (by omega), upA_eq]
    simp (disch := omega) only [L_cl]
    rw [pk_cpy_in (Nat.zero_le _) (by omega)]
    simp only [Nat.zero_add, Nat.sub_zero]
  · have e : ∀ m : Mem, ∀ f : Nat → Int32, (upA m (q + 1) f).1 q1 = m.1 q1 := fun m f => (upA_ne (by omega)).1
    simp (disch := omega) only [rd_Is, rd_Ik, rd_Ii, e, and_self]
/-- the whole state: with the coals, what was burnt and the cuttings -/
def SF (μ : Mem) (q : Nat) (pan R : Nat → Int32) : Prop := SR μ q pan R ∧ μ.1 q 2 = R 37 ∧ μ.1 q 3 = R 38 ∧ μ.1 q 4 = R 24 + R 25 + R 26 + R 27 + R 28 + R 29
theorem SR_copy {μ μ' : Mem} {q q1 : Nat} {pan R : Nat → Int32} (hS : SR μ q1 pan R) (h : ∀ i, i < 42 → μ'.1 (q + 1) i = μ.1 (q1 + 1) i) (h1 : μ'.1 q 1 = μ.1 q1 1) : SR μ' q pan R := by
  refine ⟨fun h' hh' => ?_, fun h' c' hh' h1' h7' => ?_, ?_⟩
  · rw [h _ (by omega)]; exact hS.1 h' hh'
  · rw [h _ (by omega)]; exact hS.2.1 h' c' hh' h1' h7'
  · rw [h1]; exact hS.2.2
theorem SF_copy {μ μ' : Mem} {q q1 : Nat} {pan R : Nat → Int32} (hS : SF μ q1 pan R) (h : (∀ i, i < 42 → μ'.1 (q + 1) i = μ.1 (q1 + 1) i) ∧ μ'.1 q 1 = μ.1 q1 1 ∧ μ'.1 q 2 = μ.1 q1 2 ∧ μ'.1 q 3 = μ.1 q1 3 ∧ μ'.1 q 4 = μ.1 q1 4) : SF μ' q pan R :=
  ⟨SR_copy hS.1 h.1 h.2.1, h.2.2.1.trans hS.2.1, h.2.2.2.1.trans hS.2.2.1, h.2.2.2.2.trans hS.2.2.2⟩
theorem SF_fr {μ μ' : Mem} {q : Nat} {pan R : Nat → Int32} (hS : SF μ q pan R) (h : μ'.1 q = μ.1 q) (h2 : μ'.1 (q + 1) = μ.1 (q + 1)) : SF μ' q pan R := by
  refine ⟨SR_fr hS.1 h h2, ?_⟩
  rw [h]; exact hS.2
theorem copyF_c {μ : Mem} {q q1 : Nat} {pan R : Nat → Int32} (hS : SF μ q1 pan R) (h0 : q ≠ q1) (h1 : q + 1 ≠ q1) (h2 : q ≠ q1 + 1) : Wo (fX7_copyFrom q q1 μ) (fun μ' => (∀ j, j ≠ q → j ≠ q + 1 → μ'.1 j = μ.1 j) ∧ μ'.2 = μ.2 ∧ SF μ' q pan R) :=
  Wo_mono (copy_c h0 h1 h2) (fun _ h => ⟨h.1, h.2.1, SF_copy hS h.2.2⟩)
/-- a sum over the six houses -/
theorem sumOf_c {μ : Mem} {q c : Nat} (hc : c < 7) : fX7_sumOf q (nI c) μ = some (μ.1 (q + 1) c + μ.1 (q + 1) (7 + c) + μ.1 (q + 1) (14 + c) + μ.1 (q + 1) (21 + c) + μ.1 (q + 1) (28 + c) + μ.1 (q + 1) (35 + c)) := by
  have e : ∀ (n : Nat) (a : Int32) (i : Nat), i < 6 → fX7_sumOf_l4 q (nI c) μ (n + 1) a (nI i) = fX7_sumOf_l4 q (nI c) μ n (a + μ.1 (q + 1) (7 * i + c)) (nI (i + 1)) := by
    intro n a i hi
    show fX7_sumOf_s4 _ _ _ _ _ _ = _
    unfold fX7_sumOf_s4
    rw [if_neg (by simp (disch := omega) only [L_add, L_add2, L_mul, L_mul2, L_sub, nI_add, pk_mul, pk_sub, L_le, L_le2, L_lt, L_lt2, L_eq, L_eq2, nI_leI, nI_ltI, nI_eq, nI_clamp, ix_nI, ix_lit, L_cl]; omega), get_c hi hc, b1_some, bd_eq, nI_1]
  have e6 : ∀ (n : Nat) (a : Int32), fX7_sumOf_l4 q (nI c) μ (n + 1) a (nI 6) = some a := by
    intro n a
    show fX7_sumOf_s4 _ _ _ _ _ _ = _
    unfold fX7_sumOf_s4
    rw [if_pos (by decide)]
  unfold fX7_sumOf FU
  rw [show (fX7_sumOf_l4 q (nI c) μ 100000 0 0) = fX7_sumOf_l4 q (nI c) μ 100000 0 (nI 0) from rfl, e _ _ _ (by omega), e _ _ _ (by omega), e _ _ _ (by omega), e _ _ _ (by omega), e _ _ _ (by omega), e _ _ _ (by omega), e6]
  simp only [Nat.mul_zero, Nat.zero_add, Nat.reduceMul, Nat.reduceAdd, Nat.mul_one]
  congr 1
  grind
