theorem startM {b : Nat → Int32} {T L : Nat} {ν : Mem} {Q : Int32 × Mem → Prop} (hT : T ≤ 2000) (hB : BYb b T) (h2 : ν.1 0 2 = nI T) (hX : ∀ i, i < T → ν.1 1 i = b i) (hW : ∀ i, i < 21 → ν.2 7 i = WKL.getD i 0) (hL : L < 2) (h18 : ν.1 0 18 = nI L) (hc : ∀ ν3, DrM (tTk b T) (tTv b T) (tTn b T) (tPl b T) (eT b T) (1 - L) 0 0 none (fun _ => 0) (fun _ _ => 0) nb0 D0 ν3 → FQm (1 - L) ν ν3 → ν3.1 0 2 = 0 → Wo (fX12_read_l107 (fun μ32 => fX12_read_b129 μ32) FU ν3) Q) : Wo (fX12_read ν) Q := by
  unfold fX12_read
  rw [bd_eq, h2]
  have q1 : (upI ν 0 4 (nI T)).1 1 = ν.1 1 := by rw [rd_Ii (by omega)]
  have q4 : (upI ν 0 4 (nI T)).1 0 4 = nI T := rd_Is
  generalize hν1 : upI ν 0 4 (nI T) = ν1
  rw [hν1] at q1 q4
  have qj : ∀ j, j ≠ 0 → ν1.1 j = ν.1 j := fun j hj => by rw [← hν1, rd_Ii hj]
  have qk : ∀ k, k ≠ 4 → ν1.1 0 k = ν.1 0 k := fun k hk => by rw [← hν1, rd_Ik hk]
  have qm : ν1.2 = ν.2 := by rw [← hν1]; rfl
  refine lp0 (fun n' x s => fX12_read_l10 _ n' x s) T (by omega) (fun i s => (∀ j, j ≠ 2 → s.1 j = ν1.1 j) ∧ s.2 = ν1.2 ∧ ∀ k, k < i → s.1 2 k = b k) _ ν1 ⟨fun _ _ => rfl, rfl, fun k hk => by omega⟩ ?_ ?_
  · rintro n' i s hi ⟨i1, i2, i3⟩ hrec
    show Wo (fX12_read_s10 _ _ _ _) _
    unfold fX12_read_s10
    rw [i1 0 (by omega), q4, if_neg (by simp (disch := omega) only [L_add, L_add2, L_mul, L_mul2, L_sub, nI_add, pk_mul, pk_sub, L_le, L_le2, L_lt, L_lt2, L_eq, L_eq2, nI_leI, nI_ltI, nI_eq, nI_clamp, ix_nI, ix_lit, L_cl]; omega), ix_nI (by omega) (by omega), gd_true, gd_true, nI_clamp (by omega), i1 1 (by omega), q1, hX i hi, by8 (hB i hi).1 (hB i hi).2, bd_eq, nI_1]
    refine hrec _ ⟨fun j hj => by rw [rd_Ii hj]; exact i1 j hj, i2, fun k hk => ?_⟩
    by_cases e : k = i
    · subst e; exact rd_Is
    · rw [rd_Ik e]; exact i3 k (by omega)
  · rintro n' s ⟨i1, i2, i3⟩
    show Wo (fX12_read_s10 _ _ _ _) _
    unfold fX12_read_s10
    rw [i1 0 (by omega), q4, if_pos (by simp (disch := omega) only [L_add, L_add2, L_mul, L_mul2, L_sub, nI_add, pk_mul, pk_sub, L_le, L_le2, L_lt, L_lt2, L_eq, L_eq2, nI_leI, nI_ltI, nI_eq, nI_clamp, ix_nI, ix_lit, L_cl]; omega)]
    show Wo (bd (upI s 0 2 0) _) _
    rw [bd_eq, Wo_b1]
    refine Wo_mono (cuts_m (b := b) hT hB ⟨by rw [rd_Ik (by omega), i1 0 (by omega)]; exact q4, fun i hi => by rw [rd_Ii (by omega)]; exact i3 i hi⟩ (fun i hi => by rw [rd_I2, i2, qm]; exact hW i hi)) ?_
    rintro ν2 ⟨t2, f2⟩
    have e18 : ν2.1 0 18 = nI L := by rw [f2.2.1 18 (by omega), rd_Ik (by omega), i1 0 (by omega), qk 18 (by omega)]; exact h18
    rw [bd_eq, bd_eq, bd_eq, bd_eq, rd_Ik (by omega), rd_Ik (by omega), rd_Ik (by omega), rd_Ik (by omega), e18, show (1 : Int32) - nI L = nI (1 - L) by rcases (show L = 0 ∨ L = 1 by omega) with rfl | rfl <;> rfl, bd_eq, rd_Is]
    generalize hν3 : upI (upI (upI (upI (upI ν2 0 11 0) 0 12 0) 0 13 0) 0 15 0) 0 19 (nI (1 - L)) = ν3
    have sj : ∀ j, j ≠ 0 → ν3.1 j = ν2.1 j := fun j hj => by rw [← hν3, rd_Ii hj, rd_Ii hj, rd_Ii hj, rd_Ii hj, rd_Ii hj]
    have sm : ν3.2 = ν2.2 := by rw [← hν3]; rfl
    have sk : ∀ k, ¬ fq0 k → ν3.1 0 k = ν2.1 0 k := fun k hk => by
      unfold fq0 at hk
      rw [← hν3, rd_Ik (by omega), rd_Ik (by omega), rd_Ik (by omega), rd_Ik (by omega), rd_Ik (by omega)]
    have s2 : ν3.1 0 2 = 0 := by rw [← hν3, rd_Ik (by omega), rd_Ik (by omega), rd_Ik (by omega), rd_Ik (by omega), rd_Ik (by omega), f2.2.1 2 (by omega), rd_Is]
    have s11 : ν3.1 0 11 = 0 := by rw [← hν3, rd_Ik (by omega), rd_Ik (by omega), rd_Ik (by omega), rd_Ik (by omega), rd_Is]
    have s12 : ν3.1 0 12 = 0 := by rw [← hν3, rd_Ik (by omega), rd_Ik (by omega), rd_Ik (by omega), rd_Is]
    have s13 : ν3.1 0 13 = 0 := by rw [← hν3, rd_Ik (by omega), rd_Ik (by omega), rd_Is]
    have s15 : ν3.1 0 15 = 0 := by rw [← hν3, rd_Ik (by omega), rd_Is]
    have s19 : ν3.1 0 19 = nI (1 - L) := by rw [← hν3, rd_Is]
    rw [Wo_b1]
    refine Wo_mono (plain_m (sd := 1 - L) (ν := ν3) (by omega)) ?_
    rintro ν4 ⟨p1, p2, p3, p4, p5, p6, p7⟩
    have w0 : ν4.1 0 = ν3.1 0 := p1 0 (by omega) (by omega)
    rw [w0, s19, show (130 : Int32) * nI (1 - L) = nI (130 * (1 - L)) by simp (disch := omega) only [L_add, L_add2, L_mul, L_mul2, L_sub, nI_add, pk_mul, pk_sub, L_le, L_le2, L_lt, L_lt2, L_eq, L_eq2, nI_leI, nI_ltI, nI_eq, nI_clamp, ix_nI, ix_lit, L_cl], bd_eq, rd_Ik (by omega), w0, s19, show (420 : Int32) * nI (1 - L) = nI (420 * (1 - L)) by simp (disch := omega) only [L_add, L_add2, L_mul, L_mul2, L_sub, nI_add, pk_mul, pk_sub, L_le, L_le2, L_lt, L_lt2, L_eq, L_eq2, nI_leI, nI_ltI, nI_eq, nI_clamp, ix_nI, ix_lit, L_cl], bd_eq]
    generalize hν5 : upI (upI ν4 0 33 (nI (130 * (1 - L)))) 0 39 (nI (420 * (1 - L))) = ν5
    have vj : ∀ j, j ≠ 0 → ν5.1 j = ν4.1 j := fun j hj => by rw [← hν5, rd_Ii hj, rd_Ii hj]
    have vk : ∀ k, k ≠ 33 → k ≠ 39 → ν5.1 0 k = ν3.1 0 k := fun k a c => by rw [← hν5, rd_Ik c, rd_Ik a, w0]
    have vm : ν5.2 = ν2.2 := by rw [← hν5]; exact p4.trans sm
    have gj : ∀ j, j ≠ 0 → ¬ (2 ≤ j ∧ j ≤ 5) → ν2.1 j = ν.1 j := fun j a c => by rw [f2.1 j a (by omega) (by omega) (by omega), rd_Ii a, i1 j (by omega), qj j a]
    refine hc ν5 ⟨?_, ⟨?_, ?_, ?_, ?_⟩, ?_, ?_, fun i hi => by omega, fun i hi => by omega, fun i hi => ?_, 130 * (1 - L), 420 * (1 - L), ?_, ?_, by omega, fun k hk => Or.inl ⟨?_, rfl⟩⟩ ⟨fun j a c d => ?_, fun k hk => ?_, fun j a i c => ?_, fun j a c i d => ?_, fun j a c i d => ?_, fun j a c i d => ?_, fun j a c i d => ?_, fun j a c => ?_⟩ (by rw [vk 2 (by omega) (by omega)]; exact s2)
    · exact TKm_fr t2 (by rw [vj 3 (by omega), p1 3 (by omega) (by omega), sj 3 (by omega)]) (by rw [vj 4 (by omega), p1 4 (by omega) (by omega), sj 4 (by omega)]) (by rw [vj 5 (by omega), p1 5 (by omega) (by omega), sj 5 (by omega)]) (by rw [vm])
    · rw [vk 13 (by omega) (by omega)]; exact s13
    · rw [vk 11 (by omega) (by omega)]; exact s11
    · rw [vk 12 (by omega) (by omega)]; exact s12
    · rw [vk 19 (by omega) (by omega)]; exact s19
    · show ν5.1 0 15 = 0
      rw [vk 15 (by omega) (by omega)]; exact s15
    · rw [vj 9 (by omega)]; exact p5
    · rw [vj (15 + i) (by omega)]; exact p6 i hi
    · rw [← hν5, rd_Ik (by omega), rd_Is]
    · rw [← hν5, rd_Is]
    · rw [vj 19 (by omega), vj 20 (by omega), (p7 k hk).1, (p7 k hk).2]
    · rw [vj j a, p1 j (by omega) (by omega), sj j a, gj j a c]
    · have hk' := hk
      unfold fq0 at hk'
      rw [vk k (by omega) (by omega), sk k hk, f2.2.1 k (by omega), rd_Ik (by omega), i1 0 (by omega), qk k (by omega)]
    · rw [vj j (by omega), p2 j a i c, sj j (by omega), gj j (by omega) (by omega)]
    · rw [vj j (by omega), p1 j (by omega) (by omega), sj j (by omega), gj j (by omega) (by omega)]
    · rw [vj j (by omega), p3 j a c i d, sj j (by omega), gj j (by omega) (by omega)]
    · rw [vj j (by omega), p1 j (by omega) (by omega), sj j (by omega), gj j (by omega) (by omega)]
    · rw [vj j (by omega), p1 j (by omega) (by omega), sj j (by omega), gj j (by omega) (by omega)]
    · rw [vm, f2.2.2 j a, rd_I2, i2, qm]
