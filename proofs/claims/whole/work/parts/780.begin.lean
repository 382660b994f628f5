def FQc (μ μ' : Mem) : Prop := (∀ j, j ≠ 3 → j ≠ 4 → j ≠ 6 → ¬ (8 ≤ j ∧ j ≤ 14) → μ'.1 j = μ.1 j) ∧ ∀ j, j ≠ 7 → j ≠ 16 → μ'.2 j = μ.2 j
theorem FQc_FR {a b c : Mem} (h : FQc a b) (h2 : FRc b c) : FQc a c := ⟨fun j x y z u => (h2.1 j x (by omega) (by omega) (by omega)).trans (h.1 j x y z u), fun j x y => (h2.2.2.2 j y).trans (h.2 j x y)⟩
def D0 (k : Nat) : Bs × Cd := ([], dcL k)
theorem startC {b : Nat → Int32} {T : Nat} {μ : Mem} {Q : Int32 × Mem → Prop} (hT : T ≤ 2000) (hX : TXc b T μ) (hB : BYb b T) (hW : ∀ i, i < 21 → μ.2 5 i = WCL.getD i 0) (hc : ∀ μ3, DrC (tTk b T) (tTv b T) (tTn b T) (tPl b T) (eT b T) 0 0 none (fun _ => 0) (fun _ _ => 0) nb0 D0 μ3 → FQc μ μ3 → Wo (fX4_readText_l36 2 FU 1 (nI 0) μ3) Q) : Wo (fX4_readText 2 (nI T) μ) Q := by
  unfold fX4_readText
  rw [Wo_b1]
  refine Wo_mono (split_c hT hX hB hW) ?_
  rintro μ1 ⟨t1, f1⟩
  unfold fX3_setUntold
  rw [Wo_b1, Wo_b1]
  refine Wo_mono untold_c ?_
  intro μ2 u
  have u1 := UC_lay u
  have u2 := u.2.2.2
  rw [bd_eq, bd_eq, bd_eq, bd_eq, bd_eq, Wo_some, bd_eq, bd_eq, bd_eq]
  generalize hμ3 : upI (upI (upI (upI (upI (upI (upI (upI μ2 9 2 0) 9 3 20) 9 4 20) 9 5 0) 9 6 0) 3 2 0) 3 3 0) 3 4 (-1) = μ3
  have r : ∀ j, j ≠ 3 → j ≠ 9 → μ3.1 j = μ2.1 j := fun j a b => by rw [← hμ3, rd_Ii a, rd_Ii a, rd_Ii a, rd_Ii b, rd_Ii b, rd_Ii b, rd_Ii b, rd_Ii b]
  have r2 : μ3.2 = μ2.2 := by rw [← hμ3]; rfl
  have q : ∀ j, j ≠ 3 → j ≠ 4 → j ≠ 6 → ¬ (8 ≤ j ∧ j ≤ 14) → μ3.1 j = μ.1 j := fun j a b c d => by rw [r j a (by omega), u2.1 j (by omega), f1.1 j b c (by omega)]
  refine hc μ3 ⟨?_, ?_, ?_, ?_, fun i hi => by omega, fun i hi => by omega, fun i hi => ?_, 10, ?_, by omega, fun k hk => ?_⟩ ⟨q, fun j a _ => by rw [r2, u2.2.2, f1.2.2 j a]⟩
  · exact TKc_fr t1 (by rw [r 6 (by omega) (by omega), u2.1 6 (by omega)]) (by rw [r 8 (by omega) (by omega), u2.1 8 (by omega)]) (by rw [r2, u2.2.2])
  · rw [← hμ3, rd_Ik (by omega), rd_Ik (by omega), rd_Is]; rfl
  · show μ3.1 3 3 = 0
    rw [← hμ3, rd_Ik (by omega), rd_Is]
  · rw [← hμ3, rd_Ii (by omega), rd_Ii (by omega), rd_Ii (by omega), rd_Ik (by omega), rd_Ik (by omega), rd_Ik (by omega), rd_Ik (by omega), rd_Is]; rfl
  · rw [← hμ3, rd_Ii (by omega), rd_Ii (by omega), rd_Ii (by omega)]
    rcases (show i = 0 ∨ i = 1 ∨ i = 2 ∨ i = 3 by omega) with rfl | rfl | rfl | rfl
    · rw [rd_Ik (by omega), rd_Ik (by omega), rd_Ik (by omega), rd_Is]; rfl
    · rw [rd_Ik (by omega), rd_Ik (by omega), rd_Is]; rfl
    · rw [rd_Ik (by omega), rd_Is]; rfl
    · rw [rd_Is]; rfl
  · rw [r 11 (by omega) (by omega)]; exact u1.1
  · obtain ⟨⟨i, e1, e2⟩, e3⟩ := u1.2 k hk
    exact ⟨⟨i, by rw [r 14 (by omega) (by omega)]; exact e1, LayC_keep e2 (Nat.le_refl _) (fun j _ => by rw [r (11 + 1) (by omega) (by omega), r (11 + 2) (by omega) (by omega)]; exact ⟨rfl, rfl⟩)⟩, e3⟩
theorem PuD_0 {e : Nat} : PuD e 0 0 none (fun _ _ => 0) nb0 := by
  refine ⟨Nat.zero_le _, by omega, fun y t1 h => (by cases h), fun _ => ⟨fun i hi => by omega, fun i hi => ?_⟩⟩
  rcases (show i = 0 ∨ i = 1 ∨ i = 2 ∨ i = 3 by omega) with rfl | rfl | rfl | rfl <;> decide
def fq0 (k : Nat) : Prop := k = 2 ∨ k = 4 ∨ (10 ≤ k ∧ k ≤ 16) ∨ k = 19 ∨ k = 33 ∨ k = 39 ∨ k = 43
def FQm (sd : Nat) (ν0 ν : Mem) : Prop := (∀ j, j ≠ 0 → ¬ (2 ≤ j ∧ j ≤ 5) → ¬ (9 ≤ j ∧ j ≤ 28) → ν.1 j = ν0.1 j) ∧ (∀ k, ¬ fq0 k → ν.1 0 k = ν0.1 0 k) ∧ (∀ j, j = 9 ∨ (15 ≤ j ∧ j ≤ 18) → ∀ i, i ≠ sd → ν.1 j i = ν0.1 j i) ∧ (∀ j, 10 ≤ j → j ≤ 14 → ∀ i, ¬ (6 * sd ≤ i ∧ i < 6 * sd + 6) → ν.1 j i = ν0.1 j i) ∧ (∀ j, 19 ≤ j → j ≤ 20 → ∀ i, ¬ (4 * sd ≤ i ∧ i < 4 * sd + 4) → ν.1 j i = ν0.1 j i) ∧ (∀ j, 21 ≤ j → j ≤ 25 → ∀ i, i < 130 * sd ∨ 130 * sd + 130 ≤ i → ν.1 j i = ν0.1 j i) ∧ (∀ j, 26 ≤ j → j ≤ 27 → ∀ i, i < 420 * sd ∨ 420 * sd + 420 ≤ i → ν.1 j i = ν0.1 j i) ∧ ∀ j, j ≠ 6 → j ≠ 8 → ν.2 j = ν0.2 j
theorem FQm_FR {sd : Nat} {a b c : Mem} (h : FQm sd a b) (g : FRm sd b c) : FQm sd a c := by
  obtain ⟨h1, h2, h3, h4, h5, h6, h7, h8⟩ := h
  obtain ⟨g1, g2, g3, g4, g5, g6, g7, g8⟩ := g
  refine ⟨fun j x y z => (g1 j x z).trans (h1 j x y z), fun k x => (g2 k (fun hf => x ?_)).trans (h2 k x), fun j x i y => (g3 j x i y).trans (h3 j x i y), fun j x y i z => (g4 j x y i z).trans (h4 j x y i z), fun j x y i z => (g5 j x y i z).trans (h5 j x y i z), fun j x y i z => (g6 j x y i z).trans (h6 j x y i z), fun j x y i z => (g7 j x y i z).trans (h7 j x y i z), fun j x y => (g8 j y).trans (h8 j x y)⟩
  unfold fr0 at hf
  unfold fq0
  omega
theorem by8_D : ∀ n : Fin 256, (bO n.1).toInt8.toInt32 = bO n.1 := by decide +kernel
theorem by8 {c : Int32} (h1 : -128 ≤ c) (h2 : c ≤ 127) : c.toInt8.toInt32 = c := by
  obtain ⟨n, rfl⟩ := bO_of h1 h2
  exact by8_D n
theorem plain_m {sd : Nat} {ν : Mem} (hsd : sd < 2) : Wo (fX12_plain (nI sd) ν) (fun ν' => (∀ j, j ≠ 9 → ¬ (15 ≤ j ∧ j ≤ 20) → ν'.1 j = ν.1 j) ∧ (∀ j, j = 9 ∨ (15 ≤ j ∧ j ≤ 18) → ∀ i, i ≠ sd → ν'.1 j i = ν.1 j i) ∧ (∀ j, 19 ≤ j → j ≤ 20 → ∀ i, ¬ (4 * sd ≤ i ∧ i < 4 * sd + 4) → ν'.1 j i = ν.1 j i) ∧ ν'.2 = ν.2 ∧ ν'.1 9 sd = 0 ∧ (∀ i, i < 4 → ν'.1 (15 + i) sd = nb0 i) ∧ ∀ k, k < 4 → ν'.1 19 (4 * sd + k) = 0 ∧ ν'.1 20 (4 * sd + k) = 0) := by
  unfold fX12_plain
  rw [ix_nI (by omega) (by omega), gd_true, nI_clamp (by omega), bd_eq, gd_true, bd_eq, gd_true, bd_eq, gd_true, bd_eq, gd_true, bd_eq]
  generalize hν1 : upI (upI (upI (upI (upI ν 9 sd 0) 15 sd 20) 16 sd 20) 17 sd 0) 18 sd 0 = ν1
  have r : ∀ j, j ≠ 9 → ¬ (15 ≤ j ∧ j ≤ 18) → ν1.1 j = ν.1 j := fun j a b => by rw [← hν1, rd_Ii (by omega), rd_Ii (by omega), rd_Ii (by omega), rd_Ii (by omega), rd_Ii (by omega)]
  have rk : ∀ j, j = 9 ∨ (15 ≤ j ∧ j ≤ 18) → ∀ i, i ≠ sd → ν1.1 j i = ν.1 j i := by
    intro j hj i hi
    rw [← hν1]
    rcases (show j = 9 ∨ j = 15 ∨ j = 16 ∨ j = 17 ∨ j = 18 by omega) with rfl | rfl | rfl | rfl | rfl <;> simp (disch := omega) only [rd_Ii, rd_Ik]
  have r9 : ν1.1 9 sd = 0 := by rw [← hν1]; simp (disch := omega) only [rd_Ii, rd_Is]
  have rn : ∀ i, i < 4 → ν1.1 (15 + i) sd = nb0 i := by
    intro i hi
    rw [← hν1]
    rcases (show i = 0 ∨ i = 1 ∨ i = 2 ∨ i = 3 by omega) with rfl | rfl | rfl | rfl
    · rw [rd_Ii (by omega), rd_Ii (by omega), rd_Ii (by omega), rd_Is]; rfl
    · rw [rd_Ii (by omega), rd_Ii (by omega), rd_Is]; rfl
    · rw [rd_Ii (by omega), rd_Is]; rfl
    · rw [rd_Is]; rfl
  have rm : ν1.2 = ν.2 := by rw [← hν1]; rfl
  refine lp0 (fun n' x s => fX12_plain_l39 (nI sd) n' x s) 4 (by omega) (fun i s => (∀ j, j ≠ 19 → j ≠ 20 → s.1 j = ν1.1 j) ∧ s.2 = ν1.2 ∧ (∀ j, 19 ≤ j → j ≤ 20 → ∀ k, ¬ (4 * sd ≤ k ∧ k < 4 * sd + 4) → s.1 j k = ν1.1 j k) ∧ ∀ k, k < i → s.1 19 (4 * sd + k) = 0 ∧ s.1 20 (4 * sd + k) = 0) _ ν1 ⟨fun _ _ _ => rfl, rfl, fun _ _ _ _ _ => rfl, fun k hk => by omega⟩ ?_ ?_
  · rintro n' i s hi ⟨i1, i2, i3, i4⟩ hrec
    show Wo (fX12_plain_s39 _ _ _ _) _
    unfold fX12_plain_s39
    have ei : 4 * nI sd + nI i = nI (4 * sd + i) := by simp (disch := omega) only [L_add, L_add2, L_mul, L_mul2, L_sub, nI_add, pk_mul, pk_sub, L_le, L_le2, L_lt, L_lt2, L_eq, L_eq2, nI_leI, nI_ltI, nI_eq, nI_clamp, ix_nI, ix_lit, L_cl]
    rw [if_neg (by simp (disch := omega) only [L_add, L_add2, L_mul, L_mul2, L_sub, nI_add, pk_mul, pk_sub, L_le, L_le2, L_lt, L_lt2, L_eq, L_eq2, nI_leI, nI_ltI, nI_eq, nI_clamp, ix_nI, ix_lit, L_cl]; omega), ei, ix_nI (by omega) (by omega), gd_true, nI_clamp (by omega), bd_eq, gd_true, bd_eq, nI_1]
    refine hrec _ ⟨fun j a b => by rw [rd_Ii b, rd_Ii a]; exact i1 j a b, i2, fun j a b k c => ?_, fun k hk => ?_⟩
    · rcases (show j = 19 ∨ j = 20 by omega) with rfl | rfl
      · rw [rd_Ii (by omega), rd_Ik (by omega)]; exact i3 19 a b k c
      · rw [rd_Ik (by omega), rd_Ii (by omega)]; exact i3 20 a b k c
    · by_cases e : k = i
      · subst e; rw [rd_Ii (by omega), rd_Is, rd_Is]; exact ⟨rfl, rfl⟩
      · rw [rd_Ii (by omega), rd_Ik (by omega), rd_Ik (by omega), rd_Ii (by omega)]; exact i4 k (by omega)
  · rintro n' s ⟨i1, i2, i3, i4⟩
    show Wo (fX12_plain_s39 _ _ _ _) _
    unfold fX12_plain_s39
    rw [if_pos (by decide), Wo_some]
    exact ⟨fun j a b => by rw [i1 j (by omega) (by omega), r j a (by omega)], fun j a i c => by rw [i1 j (by omega) (by omega)]; exact rk j a i c, fun j a b i c => by rw [i3 j a b i c, r j (by omega) (by omega)], i2.trans rm, by rw [i1 9 (by omega) (by omega)]; exact r9, fun i hi => by rw [i1 (15 + i) (by omega) (by omega)]; exact rn i hi, i4⟩
