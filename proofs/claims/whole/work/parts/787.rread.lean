theorem Wo_sw {α β : Type} {x : Option α} {y : Option β} {Q : α → β → Prop} (h : Wo x (fun p => Wo y (Q p))) : Wo y (fun q => Wo x (fun p => Q p q)) := by
  obtain ⟨p, e1, q, e2, hq⟩ := h
  exact ⟨q, e2, p, e1, hq⟩
theorem r_read {μ ν : Mem} (h : REL μ ν) : ∃ (r : Int32) (μ' : Mem) (ν' : Mem), fX11_read μ = some (r, μ') ∧ fX12_read ν = some (r, ν') ∧ REL μ' ν' := by
  obtain ⟨w, L, R, hall⟩ := h
  have hall' := hall
  obtain ⟨k1, k2, k3, k4, k5, k6, k7, k8, k9, k10, k11, k12⟩ := hall'
  obtain ⟨T, hT, t1, t2, t3⟩ := k10
  have hL := k3.1
  have hB : BYb (fun i => μ.1 2 i) T := fun i hi => (t3 i hi).2
  suffices H : Wo (fX11_read μ) (fun p => Wo (fX12_read ν) (fun q => q.1 = p.1 ∧ REL p.2 q.2)) by
    obtain ⟨⟨r, μ'⟩, e1, ⟨r', ν'⟩, e2, e3, e4⟩ := H
    have e3' : r' = r := e3
    exact ⟨r, μ', ν', e1, by rw [e2, e3'], e4⟩
  refine Wo_sw (startM (b := fun i => μ.1 2 i) hT hB t2 (fun i hi => ((t3 i hi).1).symm) k12.2.2 hL k3.2.2.1 (fun ν3 hM fM h2 => Wo_sw ?_))
  unfold fX11_read
  rw [t1, Wo_b2]
  refine startC (b := fun i => μ.1 2 i) hT (fun i hi => rfl) hB k12.2.1 (fun μ3 hC fC => ?_)
  have hTE := TE_t (b := fun i => μ.1 2 i) (T := T)
  have h400 := hTE.1
  refine Wo_mono (loop_j (Q := fun p q => Wo (bd (upI p.2 1 15 0) (fun μ4 => (if p.1 = 0 then fX11_read_b37 p.1 (-1) μ4 else fX11_read_b37 p.1 (μ4.1 3 4) μ4))) (fun p' => q.1 = p'.1 ∧ REL p'.2 q.2)) (K := fun μ32 => fX12_read_b129 μ32) (μ0 := μ3) (ν0 := ν3) (sd := 1 - L) (q1 := 2) hTE (PLm_t hT) (by omega) (fun t h' w' nm vs nb D μ' ν' hP hC' hM' fc fm => ?_) (fun x t' μ' ν' hx a1 a2 fc b1 b2 fm => ?_) (m := 401) (i := 0) (N1 := FU) (N2 := FU) (by omega) (by omega) (by unfold FU; omega) (by unfold FU; omega) PuD_0 hC hM FRc_rfl FRm_rfl) (fun p hp => Wo_sw hp)
  · have fC' := FQc_FR fC fc
    have fM' := FQm_FR fM fm
    have n2 : ¬ fr0 2 := by unfold fr0; omega
    have h2' : ν'.1 0 2 = 0 := by rw [fm.2.1 2 n2]; exact h2
    have hNc := hC'.2.2.1
    have hNm := hM'.2.2.1
    have m13 := hM'.2.1.1
    match w', hNc, hNm, hP, hC', hM' with
    | some (y, t1'), hNc, hNm, hP, hC', hM' =>
      show Wo (fX12_read_b129 ν') _
      dsimp only
      rw [b129_w hNm.1 m13 hNm.2.1, Wo_some, hNc.2.1, read_e (by have := hNc.1; omega), Wo_some]
      refine ⟨rfl, ?_⟩
      rw [hNm.2.2, hNc.2.2]
      exact REL_err hL hall fC' fM' h2'
    | none, hNc, hNm, hP, hC', hM' =>
      have h3 : μ'.1 3 3 = 0 := hNc
      have hE : ∀ k, k < 4 → EXL (D k).1 (D k).2 := by
        obtain ⟨_, _, _, _, _, _, _, sz, _, _, c10⟩ := hC'
        exact fun k hk => (c10 k hk).2
      show Wo (fX12_read_b129 ν') _
      dsimp only
      rw [h3, bd_eq, if_pos rfl]
      refine Wo_mono (endM_ok h400 (by omega) hP hE hM') ?_
      rintro ⟨r, ν5⟩ ⟨d1, d2, d3, d4, d5, d6, d7, d8, d9⟩
      refine Wo_mono (endC_ok h400 hP hC') ?_
      rintro ⟨r', μ5⟩ ⟨e1, e2, e3, e4, e5, e6, e7, e8, e9, e10, e11⟩
      refine ⟨d1.trans e1.symm, wR D h' vs nb, 1 - L, rR h' vs nb, KZ_R hP, e2, d2, GS_R hP, e3, d3, ?_, fun s hs => Or.inl ⟨e8 s hs, d8 s hs⟩, ⟨0, by omega, e9, d7, fun i hi => by omega⟩, ⟨0, by omega, e4, d4.trans h2', fun i hi => by omega⟩, e5.trans d5.symm, ?_⟩
      · obtain ⟨hs, _, ⟨_, nw, q1, q2, _⟩, _⟩ := k7
        exact ⟨[], fun R hR => by simp at hR, ⟨e6, nw, q1, by rw [e7, fC'.1 30 (by omega) (by omega) (by omega) (by omega)]; exact q2, fun i R hR => by simp at hR⟩, ⟨by simp, d6, fun i R hR => by simp at hR⟩⟩
      · exact WT_fr k12 (MqE_tr (MqE_of (fun j hj => fC'.1 j (by omega) (by omega) (by omega) (by omega))) e10) (e11.trans (fC'.2 5 (by omega) (by omega))) (by rw [d9]; exact fM'.2.2.2.2.2.2.2 7 (by omega) (by omega))
  · have fC' := FQc_FR fC fc
    have fM' := FQm_FR fM fm
    have n2 : ¬ fr0 2 := by unfold fr0; omega
    have h2' : ν'.1 0 2 = 0 := by rw [fm.2.1 2 n2]; exact h2
    show Wo (fX12_read_b129 ν') _
    dsimp only
    rw [b129_e hx b1, Wo_some, a1, read_e (by omega), Wo_some]
    refine ⟨rfl, ?_⟩
    rw [b2, a2]
    exact REL_err hL hall fC' fM' h2'
