theorem endC_ok {tk : Nat → Nat} {tv : Nat → Int32} {tn : Nat → Int64} {pl : Nat → Int32} {e t h : Nat} {nm : Nat → Int64} {vs : Nat → Nat → Int32} {nb : Nat → Int32} {D : Nat → Bs × Cd} {μ : Mem} (he : e ≤ 400) (hP : PuD e t h none vs nb) (hC : DrC tk tv tn pl e t h none nm vs nb D μ) : Wo (fX11_read_b37 0 (-1) (upI μ 1 15 0)) (fun p => p.1 = 0 ∧ QC (wR D h vs nb) p.2 ∧ SF p.2 24 (kp (wR D h vs nb)) (rR h vs nb) ∧ p.2.1 1 15 = 0 ∧ p.2.1 1 16 = -1 ∧ p.2.1 30 4 = 0 ∧ p.2.1 30 3 = μ.1 30 3 ∧ (∀ s, s < 3 → p.2.1 119 s = 0) ∧ p.2.1 186 3 = 0 ∧ MqE μ p.2 ∧ p.2.2 5 = μ.2 5) := by
  obtain ⟨p1, p2, p3, p4⟩ := hP
  obtain ⟨c1, c2, c3, c4, c5, c6, c7, sz, c8, c9, c10⟩ := hC
  unfold fX11_read_b37
  rw [bd_eq, if_pos rfl, Wo_b1]
  generalize hμ6 : upI (upI μ 1 15 0) 1 16 (-1) = μ6
  have a : ∀ j, j ≠ 1 → μ6.1 j = μ.1 j := fun j hj => by rw [← hμ6, rd_Ii hj, rd_Ii hj]
  have a15 : μ6.1 1 15 = 0 := by rw [← hμ6, rd_Ik (by omega), rd_Is]
  have a16 : μ6.1 1 16 = -1 := by rw [← hμ6, rd_Is]
  have am : μ6.2 = μ.2 := by rw [← hμ6]; rfl
  refine Wo_mono (cp3_c (μ := μ6) (sz := sz) (by rw [a 11 (by omega)]; exact c8) (by omega)) ?_
  rintro μ9 ⟨b1, b2, b3, b4, b5, b6, b7⟩
  rw [Wo_b1]
  have e3 : μ9.1 17 2 = nI h := by rw [b3 2 (by omega) (by omega), a 9 (by omega)]; exact c4
  refine Wo_mono (begin_c (μ := μ9) (h := h) p2 e3) ?_
  rintro μ11 ⟨d1, d2, d3, d4, d5, d6, d7⟩
  rw [Wo_b1]
  refine Wo_mono (clearAll_c (μ := μ11)) ?_
  rintro μ13 ⟨f1, f2, f3, f4, f5⟩
  rw [bd_eq, Wo_some]
  have g : ∀ j, j ≠ 0 → j ≠ 30 → j ≠ 119 → j ≠ 186 → j ≠ 24 → j ≠ 25 → (upI μ13 186 3 0).1 j = μ9.1 j := fun j x0 x1 x2 x3 x4 x5 => by rw [rd_Ii x3, f1 j x1 x2, d1 j x4 x5]
  have gn : ∀ i c, i < h → c < 5 → μ9.1 18 (i * 5 + c) = vs i c := fun i c hi hc => by rw [b4 _ (by omega), a 10 (by omega)]; exact c6 i hi c hc
  have gk : ∀ k, k < 4 → μ9.1 17 (3 + k) = nb k := fun k hk => by rw [b3 _ (by omega) (by omega), a 9 (by omega)]; exact c7 k hk
  refine ⟨rfl, ⟨p2, ?_, ?_, ?_, ?_, fun i hi => ⟨?_, ?_⟩, ?_⟩, ⟨⟨fun i hi => ?_, fun i c hi h1 h7 => ?_, ?_⟩, ?_, ?_, ?_⟩, ?_, ?_, ?_, ?_, fun s hs => ?_, rd_Is, ?_, ?_⟩
  · show (upI μ13 186 3 0).1 17 2 = nI h
    rw [g 17 (by omega) (by omega) (by omega) (by omega) (by omega) (by omega)]; exact e3
  · show (upI μ13 186 3 0).1 17 4 = nb 1
    rw [g 17 (by omega) (by omega) (by omega) (by omega) (by omega) (by omega)]; exact gk 1 (by omega)
  · show (upI μ13 186 3 0).1 17 5 = nb 2
    rw [g 17 (by omega) (by omega) (by omega) (by omega) (by omega) (by omega)]; exact gk 2 (by omega)
  · show (upI μ13 186 3 0).1 17 6 = nb 3
    rw [g 17 (by omega) (by omega) (by omega) (by omega) (by omega) (by omega)]; exact gk 3 (by omega)
  · have hi' : i < h := hi
    show (upI μ13 186 3 0).1 18 (5 * i + 3) = vs i 3
    rw [g 18 (by omega) (by omega) (by omega) (by omega) (by omega) (by omega), show 5 * i + 3 = i * 5 + 3 by omega]; exact gn i 3 hi' (by omega)
  · have hi' : i < h := hi
    show (upI μ13 186 3 0).1 18 (5 * i + 4) = vs i 4
    rw [g 18 (by omega) (by omega) (by omega) (by omega) (by omega) (by omega), show 5 * i + 4 = i * 5 + 4 by omega]; exact gn i 4 hi' (by omega)
  · show LawC (upI μ13 186 3 0) (fun k v => lvL v (D k).1 (D k).2)
    refine LawC_of (sz := sz) (by rw [g 19 (by omega) (by omega) (by omega) (by omega) (by omega) (by omega)]; exact b5) (by omega) (fun k hk => ?_)
    obtain ⟨⟨i, e1, e2⟩, e4⟩ := c10 k hk
    refine ⟨i, by rw [g 22 (by omega) (by omega) (by omega) (by omega) (by omega) (by omega), b7 k hk, a 14 (by omega)]; exact e1, LayC_mv e2 (fun j hj => ?_), e4⟩
    rw [g (19 + 1) (by omega) (by omega) (by omega) (by omega) (by omega) (by omega), g (19 + 2) (by omega) (by omega) (by omega) (by omega) (by omega) (by omega)]
    have := b6 j hj
    rw [a 12 (by omega), a 13 (by omega)] at this
    exact this
  · show (upI μ13 186 3 0).1 25 (7 * i) = if i < h then vs i 0 else 0
    rw [rd_Ii (by omega), f1 25 (by omega) (by omega), show 7 * i = 7 * i + 0 by omega, d3 i 0 hi (by omega)]
    unfold bgV
    by_cases c : i < h
    · rw [if_pos c, if_pos rfl, if_pos c]; exact gn i 0 c (by omega)
    · rw [if_neg c, if_neg c]
  · show (upI μ13 186 3 0).1 25 (7 * i + c) = rR h vs nb (6 * (c - 1) + i)
    rw [rd_Ii (by omega), f1 25 (by omega) (by omega), d3 i c hi h7]
    unfold bgV
    by_cases e2 : c = 2
    · subst e2
      rw [show 6 * (2 - 1) + i = 6 + i by omega, rR_a hi p2]
      by_cases c : i < h
      · rw [if_pos c, if_neg (by omega), if_pos rfl, if_pos c]; exact gn i 1 c (by omega)
      · rw [if_neg c, if_neg c]
    · by_cases e3' : c = 3
      · subst e3'
        rw [show 6 * (3 - 1) + i = 12 + i by omega, rR_b hi p2]
        by_cases c : i < h
        · rw [if_pos c, if_neg (by omega), if_neg (by omega), if_pos rfl, if_pos c]; exact gn i 2 c (by omega)
        · rw [if_neg c, if_neg c]
      · rw [rR_z p2 (by omega) (by omega), if_neg (show ¬ c = 0 by omega), if_neg e2, if_neg e3']
        split <;> rfl
  · show (upI μ13 186 3 0).1 24 1 = rR h vs nb 36
    rw [rd_Ii (by omega), f1 24 (by omega) (by omega), d4, rR_z p2 (by omega) (by omega)]
  · show (upI μ13 186 3 0).1 24 2 = rR h vs nb 37
    rw [rd_Ii (by omega), f1 24 (by omega) (by omega), d5, rR_c p2]; exact gk 0 (by omega)
  · show (upI μ13 186 3 0).1 24 3 = rR h vs nb 38
    rw [rd_Ii (by omega), f1 24 (by omega) (by omega), d6, rR_z p2 (by omega) (by omega)]
  · show (upI μ13 186 3 0).1 24 4 = rR h vs nb 24 + rR h vs nb 25 + rR h vs nb 26 + rR h vs nb 27 + rR h vs nb 28 + rR h vs nb 29
    rw [rd_Ii (by omega), f1 24 (by omega) (by omega), d7, rR_z p2 (k := 24) (by omega) (by omega), rR_z p2 (k := 25) (by omega) (by omega), rR_z p2 (k := 26) (by omega) (by omega), rR_z p2 (k := 27) (by omega) (by omega), rR_z p2 (k := 28) (by omega) (by omega), rR_z p2 (k := 29) (by omega) (by omega)]
    decide
  · show (upI μ13 186 3 0).1 1 15 = 0
    rw [rd_Ii (by omega), f1 1 (by omega) (by omega), d1 1 (by omega) (by omega), b1 1 (by omega)]; exact a15
  · show (upI μ13 186 3 0).1 1 16 = -1
    rw [rd_Ii (by omega), f1 1 (by omega) (by omega), d1 1 (by omega) (by omega), b1 1 (by omega)]; exact a16
  · show (upI μ13 186 3 0).1 30 4 = 0
    rw [rd_Ii (by omega)]; exact f3
  · show (upI μ13 186 3 0).1 30 3 = μ.1 30 3
    rw [rd_Ii (by omega), f2 3 (by omega), d1 30 (by omega) (by omega), b1 30 (by omega), a 30 (by omega)]
  · show (upI μ13 186 3 0).1 119 s = 0
    rw [rd_Ii (by omega)]; exact f5 s hs
  · refine MqE_of (fun j hj => ?_)
    show (upI μ13 186 3 0).1 j = μ.1 j
    rw [g j (by omega) (by omega) (by omega) (by omega) (by omega) (by omega), b1 j (by omega), a j (by omega)]
  · show (upI μ13 186 3 0).2 5 = μ.2 5
    rw [rd_I2, f4, d2, b2, am]
theorem endM_ok {tk : Nat → Nat} {tv : Nat → Int32} {tn : Nat → Int64} {pl : Nat → Int32} {e sd t h : Nat} {nm : Nat → Int64} {vs : Nat → Nat → Int32} {nb : Nat → Int32} {D : Nat → Bs × Cd} {ν : Mem} (he : e ≤ 400) (hsd : sd < 2) (hP : PuD e t h none vs nb) (hE : ∀ k, k < 4 → EXL (D k).1 (D k).2) (hM : DrM tk tv tn pl e sd t h none nm vs nb D ν) : Wo (fX12_read_b129 ν) (fun p => p.1 = 0 ∧ QL (wR D h vs nb) sd p.2 ∧ NR p.2 (rR h vs nb) ∧ p.2.1 0 2 = ν.1 0 2 ∧ p.2.1 0 17 = -1 ∧ p.2.1 0 53 = 0 ∧ p.2.1 0 63 = 0 ∧ (∀ s, s < 3 → p.2.1 47 s = 0) ∧ p.2.2 = ν.2) := by
  obtain ⟨p1, p2, p3, p4⟩ := hP
  obtain ⟨m1, ⟨m13, m11, m12, m19⟩, m3, m4, m5, m6, m7, bc, ec, m8, m9, m10, m11'⟩ := hM
  have m15 : ν.1 0 15 = 0 := m3
  unfold fX12_read_b129 fX12_read_b159
  rw [m13, if_pos (by decide), m15, if_pos (by decide), bd_eq, rd_Ik (by omega), m13, if_pos (by decide), rd_Ik (by omega), m15, if_pos (by decide), rd_Ik (by omega), m19, bd_eq, Wo_b1]
  generalize hν2 : upI (upI ν 0 17 (-1)) 0 18 (nI sd) = ν2
  have a : ∀ j, j ≠ 0 → ν2.1 j = ν.1 j := fun j hj => by rw [← hν2, rd_Ii hj, rd_Ii hj]
  have ak : ∀ k, k ≠ 17 → k ≠ 18 → ν2.1 0 k = ν.1 0 k := fun k x y => by rw [← hν2, rd_Ik y, rd_Ik x]
  have a17 : ν2.1 0 17 = -1 := by rw [← hν2, rd_Ik (by omega), rd_Is]
  have a18 : ν2.1 0 18 = nI sd := by rw [← hν2, rd_Is]
  have am : ν2.2 = ν.2 := by rw [← hν2]; rfl
  refine Wo_mono (begins_m (ν := ν2) (L := sd) (h := h) hsd a18 p2 (by rw [a 9 (by omega)]; exact m4)) ?_
  rintro ν3 ⟨b1, b2, b3, b4⟩
  rw [Wo_b1]
  have hMR : MR ν3 (rR h vs nb) := by
    intro k hk
    rw [b4 k hk, a 11 (by omega), a 12 (by omega), a 15 (by omega)]
    have e0 : ν.1 15 sd = nb 0 := m7 0 (by omega)
    rw [e0]
    exact R0_cg (fun i hi => m6 i hi 1 (by omega)) (fun i hi => m6 i hi 2 (by omega)) k
  refine Wo_mono (keepsRow_m (R := rR h vs nb) hMR) ?_
  rintro ν4 ⟨c1, c2, c3⟩
  rw [bd_eq, bd_eq]
  refine Wo_mono l214_m ?_
  rintro ⟨r, ν5⟩ ⟨d1, d2, d3, d4⟩
  dsimp only at d1 d2 d3 d4
  have g : ∀ j, j ≠ 0 → j ≠ 31 → j ≠ 32 → j ≠ 47 → ν5.1 j = ν.1 j := fun j x0 x1 x2 x3 => by rw [d2 j x3, rd_Ii x0, rd_Ii x0, c2 j x1, b1 j x0 x2, a j x0]
  have gk : ∀ k, k ≠ 17 → k ≠ 18 → k ≠ 49 → k ≠ 50 → k ≠ 53 → k ≠ 63 → ν5.1 0 k = ν.1 0 k := fun k x0 x1 x2 x3 x4 x5 => by rw [d2 0 (by omega), rd_Ik x5, rd_Ik x4, c2 0 (by omega), b2 k x2 x3, ak k x0 x1]
  have g18 : ν5.1 0 18 = nI sd := by rw [d2 0 (by omega), rd_Ik (by omega), rd_Ik (by omega), c2 0 (by omega), b2 18 (by omega) (by omega)]; exact a18
  refine ⟨d1, ⟨hsd, p2, g18, ?_, fun i hi => ?_, ?_, ?_, ?_, ?_⟩, fun k hk => ?_, ?_, ?_, ?_, ?_, d4, ?_⟩
  · show ν5.1 9 sd = nI h
    rw [g 9 (by omega) (by omega) (by omega) (by omega)]; exact m4
  · have hi' : i < h := hi
    show ν5.1 10 (6 * sd + i) = (if i < h then vs i 0 else 0) ∧ ν5.1 13 (6 * sd + i) = vs i 3 ∧ ν5.1 14 (6 * sd + i) = vs i 4
    rw [if_pos hi', g 10 (by omega) (by omega) (by omega) (by omega), g 13 (by omega) (by omega) (by omega) (by omega), g 14 (by omega) (by omega) (by omega) (by omega)]
    exact ⟨m6 i hi' 0 (by omega), m6 i hi' 3 (by omega), m6 i hi' 4 (by omega)⟩
  · show ν5.1 16 sd = nb 1
    rw [g 16 (by omega) (by omega) (by omega) (by omega)]; exact m7 1 (by omega)
  · show ν5.1 17 sd = nb 2
    rw [g 17 (by omega) (by omega) (by omega) (by omega)]; exact m7 2 (by omega)
  · show ν5.1 18 sd = nb 3
    rw [g 18 (by omega) (by omega) (by omega) (by omega)]; exact m7 3 (by omega)
  · show LawM ν5 (fun k v => lvL v (D k).1 (D k).2)
    refine LawM_of hsd g18 (fun k hk => ?_)
    unfold MLaw
    rw [g 19 (by omega) (by omega) (by omega) (by omega), g 20 (by omega) (by omega) (by omega) (by omega)]
    rcases m11' k hk with hz | ⟨b, z1, z2, z3⟩
    · exact Or.inl hz
    · have hb := z3.1
      refine Or.inr ⟨b, z1, z2, by omega, ?_, hE k hk⟩
      have z4 : LayN ν5 sd bc ec (D k) b := LayN_keep z3 (Nat.le_refl _) (Nat.le_refl _) (fun j x y i _ _ => by rw [g j (by omega) (by omega) (by omega) (by omega)]) (fun i _ _ => by rw [g 26 (by omega) (by omega) (by omega) (by omega), g 27 (by omega) (by omega) (by omega) (by omega)]; exact ⟨rfl, rfl⟩)
      exact LayN_Lay (bs := (D k).1) (cf := (D k).2) (by omega) (by omega) z4
  · show ν5.1 31 k = rR h vs nb k
    rw [d2 31 (by omega), rd_Ii (by omega), rd_Ii (by omega)]; exact c1 k hk
  · exact gk 2 (by omega) (by omega) (by omega) (by omega) (by omega) (by omega)
  · show ν5.1 0 17 = -1
    rw [d2 0 (by omega), rd_Ik (by omega), rd_Ik (by omega), c2 0 (by omega), b2 17 (by omega) (by omega)]; exact a17
  · show ν5.1 0 53 = 0
    rw [d2 0 (by omega), rd_Ik (by omega), rd_Is]
  · show ν5.1 0 63 = 0
    rw [d2 0 (by omega), rd_Is]
  · show ν5.2 = ν.2
    rw [d3, rd_I2, rd_I2, c3, b3, am]
