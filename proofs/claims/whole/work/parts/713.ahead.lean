theorem worst_c {w : Kw} {μ : Mem} {R : Rw} {z : Int32} (hQ : QC w μ) (hS : SF μ 24 (kp w) R) (hR : RG w R) : Wo (fX11_worst_b11 z μ) (fun p => p.1 = (if z = 0 then oI (am (sF w R) (kn w)) else oV (sF w R) (-2) (am (sF w R) (kn w))) ∧ KC μ p.2) := by
  unfold fX11_worst_b11
  have hn := hQ.1
  refine lp0 (fun n' x s => fX11_worst_l20 z n' s.1 s.2.1 x s.2.2) (kn w) (by omega) (fun i (s : Int32 × Int32 × Mem) => (s.1 = oI (am (sF w R) i) ∧ s.2.1 = oV (sF w R) (-2) (am (sF w R) i)) ∧ KC μ s.2.2) _ (-2, -2, μ) ⟨⟨rfl, rfl⟩, KC_rfl⟩ ?_ ?_
  · rintro n' i ⟨x1, x2, s⟩ hi ⟨⟨i1, i2⟩, i3⟩ hrec
    dsimp only at i1 i2 i3 ⊢
    show Wo (fX11_worst_s20 _ _ _ _ _ _) _
    unfold fX11_worst_s20
    have hQ' := QC_KC hQ i3
    rw [hQ'.2.1, if_neg (by simp (disch := omega) only [L_add, L_add2, L_mul, L_mul2, L_sub, nI_add, pk_mul, pk_sub, L_le, L_le2, L_lt, L_lt2, L_eq, L_eq2, nI_leI, nI_ltI, nI_eq, nI_clamp, ix_nI, ix_lit, L_cl]; omega), Wo_b2]
    refine Wo_mono (fades_c hQ' (by omega) (SF_KC hS i3).1 hR (by omega)) ?_
    rintro ⟨r, μ1⟩ ⟨h1, h2, h3⟩
    dsimp only at h1 h2 h3 ⊢
    have hk := KC_law h2 h3
    subst h1 i1 i2
    have hz := am_step (g := sF w R) (z := -2) (n := i) (by have := (sF_rng hR (show i < 6 by omega)).1; grind)
    by_cases hc : sF w R i ≤ oV (sF w R) (-2) (am (sF w R) i)
    · rw [if_pos hc] at hz ⊢
      rw [nI_1]
      exact hrec (_, _, μ1) ⟨⟨congrArg Prod.fst hz, congrArg Prod.snd hz⟩, KC_tr i3 hk⟩
    · rw [if_neg hc] at hz ⊢
      rw [nI_1]
      exact hrec (_, _, μ1) ⟨⟨congrArg Prod.fst hz, congrArg Prod.snd hz⟩, KC_tr i3 hk⟩
  · rintro n' ⟨x1, x2, s⟩ ⟨⟨i1, i2⟩, i3⟩
    dsimp only at i1 i2 i3 ⊢
    show Wo (fX11_worst_s20 _ _ _ _ _ _) _
    unfold fX11_worst_s20
    rw [(QC_KC hQ i3).2.1, if_pos (by simp (disch := omega) only [L_add, L_add2, L_mul, L_mul2, L_sub, nI_add, pk_mul, pk_sub, L_le, L_le2, L_lt, L_lt2, L_eq, L_eq2, nI_leI, nI_ltI, nI_eq, nI_clamp, ix_nI, ix_lit, L_cl]; omega)]
    subst i1 i2
    by_cases hz : z = 0
    · rw [if_pos hz, Wo_some, if_pos hz]; exact ⟨rfl, i3⟩
    · rw [if_neg hz, Wo_some, if_neg hz]; exact ⟨rfl, i3⟩
theorem draughty_c {w : Kw} {μ : Mem} {R : Rw} {z : Int32} (hQ : QC w μ) (hS : SF μ 24 (kp w) R) (hR : RG w R) : Wo (fX11_draughty_b11 z μ) (fun p => p.1 = (if z = 0 then oI (am (sCh w R) (kn w)) else oV (sCh w R) (-2) (am (sCh w R) (kn w))) ∧ KC μ p.2) := by
  unfold fX11_draughty_b11
  have hn := hQ.1
  refine lp0 (fun n' x s => fX11_draughty_l20 z n' s.1 s.2.1 x s.2.2) (kn w) (by omega) (fun i (s : Int32 × Int32 × Mem) => (s.1 = oI (am (sCh w R) i) ∧ s.2.1 = oV (sCh w R) (-2) (am (sCh w R) i)) ∧ KC μ s.2.2) _ (-2, -2, μ) ⟨⟨rfl, rfl⟩, KC_rfl⟩ ?_ ?_
  · rintro n' i ⟨x1, x2, s⟩ hi ⟨⟨i1, i2⟩, i3⟩ hrec
    dsimp only at i1 i2 i3 ⊢
    show Wo (fX11_draughty_s20 _ _ _ _ _ _) _
    unfold fX11_draughty_s20
    have hQ' := QC_KC hQ i3
    rw [hQ'.2.1, if_neg (by simp (disch := omega) only [L_add, L_add2, L_mul, L_mul2, L_sub, nI_add, pk_mul, pk_sub, L_le, L_le2, L_lt, L_lt2, L_eq, L_eq2, nI_leI, nI_ltI, nI_eq, nI_clamp, ix_nI, ix_lit, L_cl]; omega), Wo_b2]
    refine Wo_mono (cools_c hQ' (by omega) (SF_KC hS i3).1 (by omega)) ?_
    rintro ⟨r, μ1⟩ ⟨h1, h2, h3⟩
    dsimp only at h1 h2 h3 ⊢
    have hk := KC_law h2 h3
    unfold fX3_timesCooled
    rw [get_4 (SF_KC hS (KC_tr i3 hk)).1 (by omega), b1_some, b1_some, bd_eq]
    have he : r * (1 + R (18 + i)) = sCh w R i := by rw [h1]; unfold sCh; grind
    rw [he]
    subst i1 i2
    have hz := am_step (g := sCh w R) (z := -2) (n := i) (by have := (sCh_rng hR (show i < 6 by omega)).1; grind)
    by_cases hc : sCh w R i ≤ oV (sCh w R) (-2) (am (sCh w R) i)
    · rw [if_pos hc] at hz ⊢
      rw [nI_1]
      exact hrec (_, _, μ1) ⟨⟨congrArg Prod.fst hz, congrArg Prod.snd hz⟩, KC_tr i3 hk⟩
    · rw [if_neg hc] at hz ⊢
      rw [nI_1]
      exact hrec (_, _, μ1) ⟨⟨congrArg Prod.fst hz, congrArg Prod.snd hz⟩, KC_tr i3 hk⟩
  · rintro n' ⟨x1, x2, s⟩ ⟨⟨i1, i2⟩, i3⟩
    dsimp only at i1 i2 i3 ⊢
    show Wo (fX11_draughty_s20 _ _ _ _ _ _) _
    unfold fX11_draughty_s20
    rw [(QC_KC hQ i3).2.1, if_pos (by simp (disch := omega) only [L_add, L_add2, L_mul, L_mul2, L_sub, nI_add, pk_mul, pk_sub, L_le, L_le2, L_lt, L_lt2, L_eq, L_eq2, nI_leI, nI_ltI, nI_eq, nI_clamp, ix_nI, ix_lit, L_cl]; omega)]
    subst i1 i2
    by_cases hz : z = 0
    · rw [if_pos hz, Wo_some, if_pos hz]; exact ⟨rfl, i3⟩
    · rw [if_neg hz, Wo_some, if_neg hz]; exact ⟨rfl, i3⟩
theorem worst_m {w : Kw} {L : Nat} {ν : Mem} {R : Rw} {z : Int32} (hQ : QL w L ν) (hM : MR ν R) : Wo (fX12_worst_l20 (fun y13 μ14 => (if y13 < 0 then some (y13, μ14) else (if z = 0 then some (y13, μ14) else b2 (fX12_fadesOf y13 μ14) (fun r17 μ16 => some (r17, μ16))))) FU (-2) 0 ν) (fun p => p.1 = (if z = 0 then oI (am (sF w R) (kn w)) else oV (sF w R) (-2) (am (sF w R) (kn w))) ∧ Fc ν p.2) := by
  have hn := hQ.2.1
  refine lp0 (fun n' x s => fX12_worst_l20 _ n' s.1 x s.2) (kn w) (by omega) (fun i (s : Int32 × Mem) => s.1 = oI (am (sF w R) i) ∧ MR s.2 R ∧ Fc ν s.2) _ (-2, ν) ⟨rfl, hM, Fc_rfl⟩ ?_ ?_
  · rintro n' i ⟨x1, s⟩ hi ⟨i1, i2, i3⟩ hrec
    dsimp only at i1 i2 i3 ⊢
    show Wo (fX12_worst_s20 _ _ _ _ _) _
    unfold fX12_worst_s20
    have hQ' := QL_Fc hQ i3
    rw [many_m hQ', b1_some, if_neg (by simp (disch := omega) only [L_add, L_add2, L_mul, L_mul2, L_sub, nI_add, pk_mul, pk_sub, L_le, L_le2, L_lt, L_lt2, L_eq, L_eq2, nI_leI, nI_ltI, nI_eq, nI_clamp, ix_nI, ix_lit, L_cl]; omega)]
    subst i1
    have es : am (sF w R) (i + 1) = (match am (sF w R) i with | none => some i | some b => if sF w R i ≤ sF w R b then some b else some i) := rfl
    cases ha : am (sF w R) i with
    | none =>
      rw [ha] at es
      rw [if_pos (by decide), nI_1]
      exact hrec (_, s) ⟨by rw [es]; rfl, i2, i3⟩
    | some b =>
      have hb := am_lt ha
      rw [ha] at es
      rw [show oI (some b) = nI b from rfl, if_neg (nI_pos (by omega)), Wo_b2]
      refine Wo_mono (fadesOf_m hQ' i2 hi) ?_
      rintro ⟨r, μ1⟩ ⟨h1, h2, h3⟩
      dsimp only at h1 h2 h3 ⊢
      rw [Wo_b2]
      refine Wo_mono (fadesOf_m (h := b) (QL_Fc hQ' (Fl_Fc h3)) h2 (by omega)) ?_
      rintro ⟨r', μ2⟩ ⟨h4, h5, h6⟩
      dsimp only at h4 h5 h6 ⊢
      subst h1 h4
      by_cases hc : sF w R i ≤ sF w R b
      · rw [if_pos hc, nI_1]
        exact hrec (_, μ2) ⟨by rw [es]; dsimp only; rw [if_pos hc]; rfl, h5, Fc_tr i3 (Fc_tr (Fl_Fc h3) (Fl_Fc h6))⟩
      · rw [if_neg hc, nI_1]
        exact hrec (_, μ2) ⟨by rw [es]; dsimp only; rw [if_neg hc]; rfl, h5, Fc_tr i3 (Fc_tr (Fl_Fc h3) (Fl_Fc h6))⟩
  · rintro n' ⟨x1, s⟩ ⟨i1, i2, i3⟩
    dsimp only at i1 i2 i3 ⊢
    show Wo (fX12_worst_s20 _ _ _ _ _) _
    unfold fX12_worst_s20
    rw [many_m (QL_Fc hQ i3), b1_some, if_pos (by simp (disch := omega) only [L_add, L_add2, L_mul, L_mul2, L_sub, nI_add, pk_mul, pk_sub, L_le, L_le2, L_lt, L_lt2, L_eq, L_eq2, nI_leI, nI_ltI, nI_eq, nI_clamp, ix_nI, ix_lit, L_cl]; omega)]
    dsimp only
    subst i1
    cases ha : am (sF w R) (kn w) with
    | none =>
      rw [if_pos (by decide), Wo_some]
      exact ⟨by split <;> rfl, i3⟩
    | some b =>
      have hb := am_lt ha
      rw [show oI (some b) = nI b from rfl, if_neg (nI_pos (by omega))]
      by_cases hz : z = 0
      · rw [if_pos hz, if_pos hz, Wo_some]; exact ⟨rfl, i3⟩
      · rw [if_neg hz, if_neg hz, Wo_b2]
        refine Wo_mono (fadesOf_m (QL_Fc hQ i3) i2 hb) ?_
        rintro ⟨r, μ1⟩ ⟨h1, h2, h3⟩
        rw [Wo_some]
        exact ⟨h1, Fc_tr i3 (Fl_Fc h3)⟩
theorem draughty_m {w : Kw} {L : Nat} {ν : Mem} {R : Rw} {z : Int32} (hQ : QL w L ν) (hM : MR ν R) : Wo (fX12_draughty_l20 (fun y13 μ14 => (if y13 < 0 then some (y13, μ14) else (if z = 0 then some (y13, μ14) else b2 (fX12_chillOf y13 μ14) (fun r17 μ16 => some (r17, μ16))))) FU (-2) 0 ν) (fun p => p.1 = (if z = 0 then oI (am (sCh w R) (kn w)) else oV (sCh w R) (-2) (am (sCh w R) (kn w))) ∧ Fc ν p.2) := by
  have hn := hQ.2.1
  refine lp0 (fun n' x s => fX12_draughty_l20 _ n' s.1 x s.2) (kn w) (by omega) (fun i (s : Int32 × Mem) => s.1 = oI (am (sCh w R) i) ∧ MR s.2 R ∧ Fc ν s.2) _ (-2, ν) ⟨rfl, hM, Fc_rfl⟩ ?_ ?_
  · rintro n' i ⟨x1, s⟩ hi ⟨i1, i2, i3⟩ hrec
    dsimp only at i1 i2 i3 ⊢
    show Wo (fX12_draughty_s20 _ _ _ _ _) _
    unfold fX12_draughty_s20
    have hQ' := QL_Fc hQ i3
    rw [many_m hQ', b1_some, if_neg (by simp (disch := omega) only [L_add, L_add2, L_mul, L_mul2, L_sub, nI_add, pk_mul, pk_sub, L_le, L_le2, L_lt, L_lt2, L_eq, L_eq2, nI_leI, nI_ltI, nI_eq, nI_clamp, ix_nI, ix_lit, L_cl]; omega)]
    subst i1
    have es : am (sCh w R) (i + 1) = (match am (sCh w R) i with | none => some i | some b => if sCh w R i ≤ sCh w R b then some b else some i) := rfl
    cases ha : am (sCh w R) i with
    | none =>
      rw [ha] at es
      rw [if_pos (by decide), nI_1]
      exact hrec (_, s) ⟨by rw [es]; rfl, i2, i3⟩
    | some b =>
      have hb := am_lt ha
      rw [ha] at es
      rw [show oI (some b) = nI b from rfl, if_neg (nI_pos (by omega)), Wo_b2]
      refine Wo_mono (chillOf_m hQ' i2 hi) ?_
      rintro ⟨r, μ1⟩ ⟨h1, h2, h3⟩
      dsimp only at h1 h2 h3 ⊢
      rw [Wo_b2]
      refine Wo_mono (chillOf_m (h := b) (QL_Fc hQ' (Fl_Fc h3)) h2 (by omega)) ?_
      rintro ⟨r', μ2⟩ ⟨h4, h5, h6⟩
      dsimp only at h4 h5 h6 ⊢
      subst h1 h4
      by_cases hc : sCh w R i ≤ sCh w R b
      · rw [if_pos hc, nI_1]
        exact hrec (_, μ2) ⟨by rw [es]; dsimp only; rw [if_pos hc]; rfl, h5, Fc_tr i3 (Fc_tr (Fl_Fc h3) (Fl_Fc h6))⟩
      · rw [if_neg hc, nI_1]
        exact hrec (_, μ2) ⟨by rw [es]; dsimp only; rw [if_neg hc]; rfl, h5, Fc_tr i3 (Fc_tr (Fl_Fc h3) (Fl_Fc h6))⟩
  · rintro n' ⟨x1, s⟩ ⟨i1, i2, i3⟩
    dsimp only at i1 i2 i3 ⊢
    show Wo (fX12_draughty_s20 _ _ _ _ _) _
    unfold fX12_draughty_s20
    rw [many_m (QL_Fc hQ i3), b1_some, if_pos (by simp (disch := omega) only [L_add, L_add2, L_mul, L_mul2, L_sub, nI_add, pk_mul, pk_sub, L_le, L_le2, L_lt, L_lt2, L_eq, L_eq2, nI_leI, nI_ltI, nI_eq, nI_clamp, ix_nI, ix_lit, L_cl]; omega)]
    dsimp only
    subst i1
    cases ha : am (sCh w R) (kn w) with
    | none =>
      rw [if_pos (by decide), Wo_some]
      exact ⟨by split <;> rfl, i3⟩
    | some b =>
      have hb := am_lt ha
      rw [show oI (some b) = nI b from rfl, if_neg (nI_pos (by omega))]
      by_cases hz : z = 0
      · rw [if_pos hz, if_pos hz, Wo_some]; exact ⟨rfl, i3⟩
      · rw [if_neg hz, if_neg hz, Wo_b2]
        refine Wo_mono (chillOf_m (QL_Fc hQ i3) i2 hb) ?_
        rintro ⟨r, μ1⟩ ⟨h1, h2, h3⟩
        rw [Wo_some]
        exact ⟨h1, Fc_tr i3 (Fl_Fc h3)⟩
theorem in01 (z : Int32) : fX12_in z 0 1 = some (if z = 0 ∨ z = 1 then 1 else 0) := by
  rw [in_c]
  congr 1
  by_cases h : z = 0 ∨ z = 1
  · rw [if_pos h, if_neg (by grind)]
  · rw [if_neg h, if_pos (by grind)]
theorem r_worst {μ ν : Mem} (h : REL μ ν) (z0 : Int32) : ∃ (r : Int32) (μ' : Mem) (ν' : Mem), fX11_worst z0 μ = some (r, μ') ∧ fX12_worst z0 ν = some (r, ν') ∧ REL μ' ν' := by
  have h' := h
  obtain ⟨w, L, R, a1, a2, a3, a4, a5, a6, a7, a8, a9, a10, a11, a12⟩ := h'
  by_cases hz : z0 = 0 ∨ z0 = 1
  · refine rel_of h _ (Wo_mono (o := fX11_worst z0 μ) (Q := fun p => p.1 = (if z0 = 0 then oI (am (sF w R) (kn w)) else oV (sF w R) (-2) (am (sF w R) (kn w))) ∧ KC μ p.2) ?_ (fun _ h => h)) ?_
    · unfold fX11_worst
      rcases hz with hz | hz
      · rw [if_pos hz]; exact worst_c a2 a5 a4.1
      · rw [if_neg (by rw [hz]; decide), if_pos hz]; exact worst_c a2 a5 a4.1
    · unfold fX12_worst
      rw [in01, if_pos hz, b1_some, if_neg n10, Wo_b1]
      refine Wo_mono (copies_s a3 a6) ?_
      rintro ν1 ⟨h1, h2, _⟩
      exact Wo_mono (worst_m (QL_Fc a3 h2) h1) (fun p hp => ⟨hp.1, Fc_tr h2 hp.2⟩)
  · refine rel_of h (-1) ?_ ?_
    · unfold fX11_worst
      rw [if_neg (fun h => hz (Or.inl h)), if_neg (fun h => hz (Or.inr h)), Wo_some]; exact ⟨rfl, KC_rfl⟩
    · unfold fX12_worst
      rw [in01, if_neg hz, b1_some, if_pos rfl, Wo_some]; exact ⟨rfl, Fc_rfl⟩
theorem r_draughty {μ ν : Mem} (h : REL μ ν) (z0 : Int32) : ∃ (r : Int32) (μ' : Mem) (ν' : Mem), fX11_draughty z0 μ = some (r, μ') ∧ fX12_draughty z0 ν = some (r, ν') ∧ REL μ' ν' := by
  have h' := h
  obtain ⟨w, L, R, a1, a2, a3, a4, a5, a6, a7, a8, a9, a10, a11, a12⟩ := h'
  by_cases hz : z0 = 0 ∨ z0 = 1
  · refine rel_of h _ (Wo_mono (o := fX11_draughty z0 μ) (Q := fun p => p.1 = (if z0 = 0 then oI (am (sCh w R) (kn w)) else oV (sCh w R) (-2) (am (sCh w R) (kn w))) ∧ KC μ p.2) ?_ (fun _ h => h)) ?_
    · unfold fX11_draughty
      rcases hz with hz | hz
      · rw [if_pos hz]; exact draughty_c a2 a5 a4.1
      · rw [if_neg (by rw [hz]; decide), if_pos hz]; exact draughty_c a2 a5 a4.1
    · unfold fX12_draughty
      rw [in01, if_pos hz, b1_some, if_neg n10, Wo_b1]
      refine Wo_mono (copies_s a3 a6) ?_
      rintro ν1 ⟨h1, h2, _⟩
      exact Wo_mono (draughty_m (QL_Fc a3 h2) h1) (fun p hp => ⟨hp.1, Fc_tr h2 hp.2⟩)
  · refine rel_of h (-1) ?_ ?_
    · unfold fX11_draughty
      rw [if_neg (fun h => hz (Or.inl h)), if_neg (fun h => hz (Or.inr h)), Wo_some]; exact ⟨rfl, KC_rfl⟩
    · unfold fX12_draughty
      rw [in01, if_neg hz, b1_some, if_pos rfl, Wo_some]; exact ⟨rfl, Fc_rfl⟩
