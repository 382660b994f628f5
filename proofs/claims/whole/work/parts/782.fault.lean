/-- a fault: the old state stands, the tape is empty, the place is told -/
theorem REL_err {w : Kw} {L : Nat} {R : Rw} {μ ν μ1 ν1 : Mem} {p : Int32} (hL : L < 2) (h : KZ w ∧ QC w μ ∧ QL w L ν ∧ GS w R ∧ SF μ 24 (kp w) R ∧ NR ν R ∧ HH w μ ν ∧ SS w μ ν ∧ TT μ ν ∧ TP μ ν ∧ μ.1 1 16 = ν.1 0 17 ∧ WT μ ν) (fc : FQc μ μ1) (fm : FQm (1 - L) ν ν1) (h2 : ν1.1 0 2 = 0) : REL (upI (upI μ1 1 15 0) 1 16 p) (upI ν1 0 17 p) := by
  obtain ⟨k1, k2, k3, k4, k5, k6, k7, k8, k9, k10, k11, k12⟩ := h
  obtain ⟨m1, m2, m3, m4, m5, m6, m7, m8⟩ := fm
  have cj : ∀ j, j ≠ 1 → j ≠ 3 → j ≠ 4 → j ≠ 6 → ¬ (8 ≤ j ∧ j ≤ 14) → (upI (upI μ1 1 15 0) 1 16 p).1 j = μ.1 j := fun j a b c d e => by rw [rd_Ii a, rd_Ii a]; exact fc.1 j b c d e
  have vj : ∀ j, j ≠ 0 → ¬ (2 ≤ j ∧ j ≤ 5) → ¬ (9 ≤ j ∧ j ≤ 28) → (upI ν1 0 17 p).1 j = ν.1 j := fun j a b c => by rw [rd_Ii a]; exact m1 j a b c
  have vk : ∀ k, k ≠ 17 → ¬ fq0 k → (upI ν1 0 17 p).1 0 k = ν.1 0 k := fun k a b => by rw [rd_Ik a]; exact m2 k b
  have n18 : ¬ fq0 18 := by unfold fq0; omega
  have n53 : ¬ fq0 53 := by unfold fq0; omega
  have n63 : ¬ fq0 63 := by unfold fq0; omega
  obtain ⟨q1, q2, q3, q4, q5, q6, q7, q8, q9⟩ := k3
  refine ⟨w, L, R, k1, QC_fr k2 (fun j a b => cj j (by omega) (by omega) (by omega) (by omega) (by omega)), ⟨q1, q2, by rw [vk 18 (by omega) n18]; exact q3, ?_, fun h hh => ?_, ?_, ?_, ?_, ?_⟩, k4, SF_fr k5 (cj 24 (by omega) (by omega) (by omega) (by omega) (by omega)) (cj 25 (by omega) (by omega) (by omega) (by omega) (by omega)), NR_fr k6 (vj 31 (by omega) (by omega) (by omega)), HH_fr k7 (fun j a b => cj j (by omega) (by omega) (by omega) (by omega) (by omega)) (vj 35 (by omega) (by omega) (by omega)) (vk 53 (by omega) n53), SS_fr k8 (fun j a b => cj j (by omega) (by omega) (by omega) (by omega) (by omega)) (vj 47 (by omega) (by omega) (by omega)) (vj 48 (by omega) (by omega) (by omega)), TT_fr k9 (fun j a b => cj j (by omega) (by omega) (by omega) (by omega) (by omega)) (fun j a b => vj j (by omega) (by omega) (by omega)) (vk 63 (by omega) n63), ⟨0, by omega, by rw [rd_Ik (by omega), rd_Is]; rfl, by rw [rd_Ik (by omega)]; exact h2, fun i hi => by omega⟩, by rw [rd_Is, rd_Is], WT_fr k12 (MqE_of (fun j hj => cj j (by omega) (by omega) (by omega) (by omega) (by omega))) (fc.2 5 (by omega) (by omega)) (m8 7 (by omega) (by omega))⟩
  · rw [rd_Ii (by omega), m3 9 (Or.inl rfl) L (by omega)]; exact q4
  · rw [rd_Ii (by omega), rd_Ii (by omega), rd_Ii (by omega), m4 10 (by omega) (by omega) _ (by omega), m4 13 (by omega) (by omega) _ (by omega), m4 14 (by omega) (by omega) _ (by omega)]; exact q5 h hh
  · rw [rd_Ii (by omega), m3 16 (by omega) L (by omega)]; exact q6
  · rw [rd_Ii (by omega), m3 17 (by omega) L (by omega)]; exact q7
  · rw [rd_Ii (by omega), m3 18 (by omega) L (by omega)]; exact q8
  · refine LawM_own q9 (fun L' hL' e => ?_) (by rw [vk 18 (by omega) n18])
    have : L' = L := (nI_eq (by omega) (by omega)).mp (e.symm.trans q3)
    subst this
    exact ⟨fun j a b i c d => by rw [rd_Ii (by omega)]; exact m5 j a b i (by omega), fun j a b i c d => by rw [rd_Ii (by omega)]; exact m6 j a b i (by omega), fun j a b i c d => by rw [rd_Ii (by omega)]; exact m7 j a b i (by omega)⟩
theorem b129_e {x : Nat} {ν : Mem} (hx : x = 1 ∨ x = 2) (h : ν.1 0 13 = nI x) : fX12_read_b129 ν = some (nI x, upI ν 0 17 (ν.1 0 14)) := by
  unfold fX12_read_b129 fX12_read_b159
  rw [h, if_neg (nI_nle (by omega) (by omega)), bd_eq, rd_Ik (by omega), h, if_neg (nI_nle (by omega) (by omega))]
theorem b129_w {y : Nat} {ν : Mem} (hy : y = 3 ∨ y = 5) (h : ν.1 0 13 = 0) (h15 : ν.1 0 15 = nI y) : fX12_read_b129 ν = some (nI y, upI ν 0 17 (ν.1 0 16)) := by
  unfold fX12_read_b129 fX12_read_b159
  rw [h, if_pos (by decide), h15, if_neg (nI_nle (by omega) (by omega)), bd_eq, rd_Ik (by omega), h, if_pos (by decide), rd_Ik (by omega), h15, if_neg (nI_nle (by omega) (by omega))]
theorem read_e {μ2 : Mem} {x : Nat} (hx : 1 ≤ x ∧ x ≤ 5) : (bd (upI μ2 1 15 0) (fun μ4 => (if nI x = 0 then fX11_read_b37 (nI x) (-1) μ4 else fX11_read_b37 (nI x) (μ4.1 3 4) μ4))) = some (nI x, upI (upI μ2 1 15 0) 1 16 (μ2.1 3 4)) := by
  unfold fX11_read_b37
  rw [bd_eq, if_neg (nI_ne0 (by omega) (by omega)), rd_Ii (by omega), bd_eq, if_neg (nI_ne0 (by omega) (by omega))]
