set_option maxHeartbeats 8000000 in
set_option maxRecDepth 100000 in
theorem init_m (ν : Mem) : Wo (fX12_init (zr ν 0)) (fun ν0 => QL (wR D0 0 (fun _ _ => 0) nb0) 0 ν0 ∧ NR ν0 (rR 0 (fun _ _ => 0) nb0) ∧ ν0.1 0 2 = 0 ∧ ν0.1 0 17 = -1 ∧ ν0.1 0 53 = 0 ∧ ν0.1 0 63 = 0 ∧ (∀ s, ν0.1 47 s = 0) ∧ ∀ i, i < 21 → ν0.2 7 i = WKL.getD i 0) := by
  unfold fX12_init
  rw [bd_eq, bd_eq, bd_eq, bd_eq, bd_eq, bd_eq, bd_eq, bd_eq, bd_eq, bd_eq, bd_eq, bd_eq, bd_eq, bd_eq, bd_eq, bd_eq, bd_eq, bd_eq, bd_eq, bd_eq, bd_eq, bd_eq, bd_eq, bd_eq, bd_eq, bd_eq, bd_eq, bd_eq, bd_eq, bd_eq, bd_eq, bd_eq, bd_eq, bd_eq, bd_eq, bd_eq, bd_eq, bd_eq, bd_eq, bd_eq, bd_eq, bd_eq, bd_eq, bd_eq, bd_eq, bd_eq, bd_eq, bd_eq, bd_eq]
  obtain ⟨ν1, hν1⟩ : ∃ ν1, zF 8 41 (upI (zF 1 7 (zr ν 0)) 0 17 (-1)) = ν1 := ⟨_, rfl⟩
  rw [Wo_b1]
  change Wo (fX12_plain (nI 0) (zF 8 41 (upI (zF 1 7 (zr ν 0)) 0 17 (-1)))) _
  rw [hν1]
  have a0 : ∀ k, k ≠ 17 → ν1.1 0 k = 0 := fun k hk => by rw [← hν1, zF_out (by omega), rd_Ik hk, zF_out (by omega), zr_eq.1]
  have a17 : ν1.1 0 17 = -1 := by rw [← hν1, zF_out (by omega), rd_Is]
  have a1 : ∀ j, 8 ≤ j → j ≤ 48 → ν1.1 j = fun _ => 0 := fun j x y => by rw [← hν1]; exact zF_in x (by omega)
  refine Wo_mono (plain_m (sd := 0) (ν := ν1) (by omega)) ?_
  rintro ν2 ⟨p1, p2, p3, p4, p5, p6, p7⟩
  rw [show (1 : Int32) = nI 1 from rfl, Wo_b1]
  refine Wo_mono (plain_m (sd := 1) (ν := ν2) (by omega)) ?_
  rintro ν3 ⟨q1, q2, q3, q4, q5, q6, q7⟩
  rw [wdK_0, b1_some, bd_eq, wdK_1, b1_some, bd_eq, wdK_2, b1_some, bd_eq, wdK_3, b1_some, bd_eq, wdK_4, b1_some, bd_eq, wdK_5, b1_some, bd_eq, wdK_6, b1_some, bd_eq, wdK_7, b1_some, bd_eq, wdK_8, b1_some, bd_eq, wdK_9, b1_some, bd_eq, wdK_10, b1_some, bd_eq, wdK_11, b1_some, bd_eq, wdK_12, b1_some, bd_eq, wdK_13, b1_some, bd_eq, wdK_14, b1_some, bd_eq, wdK_15, b1_some, bd_eq, wdK_16, b1_some, bd_eq, wdK_17, b1_some, bd_eq, wdK_18, b1_some, bd_eq, wdK_19, b1_some, bd_eq, wdK_20, b1_some, bd_eq]
  show Wo (b1 (fX12_begins (wdF ν3)) _) _
  have c0 : ν3.1 0 = ν1.1 0 := by rw [q1 0 (by omega) (by omega), p1 0 (by omega) (by omega)]
  have c9 : ν3.1 9 0 = 0 := by rw [q2 9 (Or.inl rfl) 0 (by omega)]; exact p5
  have cn : ∀ i, i < 4 → ν3.1 (15 + i) 0 = nb0 i := fun i hi => by rw [q2 (15 + i) (by omega) 0 (by omega)]; exact p6 i hi
  rw [Wo_b1]
  refine Wo_mono (begins_m (ν := wdF ν3) (L := 0) (h := 0) (by omega) (by rw [wdF_1, c0, a0 18 (by omega)]; rfl) (by omega) (by rw [wdF_1]; exact c9)) ?_
  rintro ν4 ⟨b1, b2, b3, b4⟩
  rw [Wo_b1]
  have hMR : MR ν4 (rR 0 (fun _ _ => 0) nb0) := by
    intro k hk
    rw [b4 k hk, wdF_1, show ν3.1 15 0 = nb0 0 from cn 0 (by omega)]
    exact R0_cg (fun i hi => by omega) (fun i hi => by omega) k
  refine Wo_mono (keepsRow_m (R := rR 0 (fun _ _ => 0) nb0) hMR) ?_
  rintro ν5 ⟨d1, d2, d3⟩
  rw [Wo_some]
  have g : ∀ j, j ≠ 0 → j ≠ 31 → j ≠ 32 → ν5.1 j = ν3.1 j := fun j x y z => by rw [d2 j y, b1 j x z, wdF_1]
  have g0 : ∀ k, k ≠ 49 → k ≠ 50 → ν5.1 0 k = ν1.1 0 k := fun k x y => by rw [d2 0 (by omega), b2 k x y, wdF_1, c0]
  have g18 : ν5.1 0 18 = nI 0 := by rw [g0 18 (by omega) (by omega), a0 18 (by omega)]; rfl
  refine ⟨⟨by omega, Nat.zero_le _, g18, by rw [g 9 (by omega) (by omega) (by omega)]; exact c9, fun i hi => absurd hi (Nat.not_lt_zero _), ?_, ?_, ?_, ?_⟩, d1, ?_, ?_, ?_, ?_, fun s => ?_, fun i hi => ?_⟩
  · rw [g 16 (by omega) (by omega) (by omega)]; exact cn 1 (by omega)
  · rw [g 17 (by omega) (by omega) (by omega)]; exact cn 2 (by omega)
  · rw [g 18 (by omega) (by omega) (by omega)]; exact cn 3 (by omega)
  · show LawM ν5 (fun k v => lvL v (D0 k).1 (D0 k).2)
    refine LawM_of (by omega) g18 (fun k hk => Or.inl ⟨?_, rfl⟩)
    rw [g 19 (by omega) (by omega) (by omega), g 20 (by omega) (by omega) (by omega), q3 19 (by omega) (by omega) _ (by omega), q3 20 (by omega) (by omega) _ (by omega), (p7 k hk).1, (p7 k hk).2]
  · rw [g0 2 (by omega) (by omega)]; exact a0 2 (by omega)
  · rw [g0 17 (by omega) (by omega)]; exact a17
  · rw [g0 53 (by omega) (by omega)]; exact a0 53 (by omega)
  · rw [g0 63 (by omega) (by omega)]; exact a0 63 (by omega)
  · rw [g 47 (by omega) (by omega) (by omega), q1 47 (by omega) (by omega), p1 47 (by omega) (by omega), a1 47 (by omega) (by omega)]
  · rw [d3, b3]; exact wdF_7 i hi
