theorem n10 : ¬ (1 : Int32) = 0 := by decide
theorem n101 : ¬ (1 : Int32) &&& 1 = 0 := by decide
theorem p001 : (0 : Int32) &&& 1 = 0 := by decide
theorem Fs_KC {μ μ' : Mem} (h : Fs 26 μ μ') : KC μ μ' := KC_Fs h (by omega)
theorem copyA_c {w : Kw} {μ : Mem} {q : Nat} {R : Rw} (hS : SF μ 24 (kp w) R) (hq : q = 26 ∨ q = 28) : Wo (fX7_copyFrom q 24 μ) (fun μ' => KC μ μ' ∧ SF μ' q (kp w) R) := by
  refine Wo_mono (copyF_c hS (by omega) (by omega) (by omega)) ?_
  rintro μ' ⟨h1, h2, h3⟩
  exact ⟨⟨fun j a b c d => h1 j (by omega) (by omega), h2, MqE_of (fun j hj => h1 j (by omega) (by omega))⟩, h3⟩
theorem lossWith_c {w : Kw} {μ : Mem} {R : Rw} {h n : Nat} (hQ : QC w μ) (hS : SF μ 24 (kp w) R) (hR : RG w R) (hh : h < 6) (hn : n < 100) : Wo (fX11_lossWith (nI h) (nI n) μ) (fun p => p.1 = sF w (sB w h n R) h ∧ KC μ p.2) := by
  unfold fX11_lossWith
  rw [Wo_b1]
  refine Wo_mono (copyA_c hS (by omega)) ?_
  rintro μ1 ⟨h1, h2⟩
  rw [Wo_b1]
  refine Wo_mono (burnIn_c (QC_KC hQ h1) (by omega) h2.1 hR hh hn) ?_
  rintro μ2 ⟨h3, h4, _⟩
  rw [Wo_b2]
  refine Wo_mono (fades_c (QC_KC (QC_KC hQ h1) (Fs_KC h4)) (by omega) h3 (RG_B hR hh n) hh) ?_
  rintro ⟨r, μ3⟩ ⟨h5, h6, h7⟩
  rw [Wo_some]
  exact ⟨h5, KC_tr h1 (KC_tr (Fs_KC h4) (KC_law h6 h7))⟩
theorem lossOf_m {w : Kw} {L : Nat} {ν : Mem} {R : Rw} {h n : Nat} (hQ : QL w L ν) (hN : NR ν R) (hh : h < kn w) (hn : n < 100) : Wo (fX12_lossOf (nI h) (nI n) ν) (fun p => p.1 = sF w (sB w h n R) h ∧ Fc ν p.2) := by
  unfold fX12_lossOf
  rw [Wo_b1]
  refine Wo_mono (copies_s hQ hN) ?_
  rintro μ1 ⟨h1, h2, _, _⟩
  rw [Wo_b1]
  refine Wo_mono (burns_m (QL_Fc hQ h2) h1 hh (by omega)) ?_
  rintro μ2 ⟨h3, h4⟩
  rw [Wo_b2]
  refine Wo_mono (fadesOf_m (QL_Fc (QL_Fc hQ h2) (Fm_Fc h4)) h3 hh) ?_
  rintro ⟨r, μ3⟩ ⟨h5, h6, h7⟩
  rw [Wo_some]
  exact ⟨h5, Fc_tr h2 (Fc_tr (Fm_Fc h4) (Fl_Fc h7))⟩
theorem r_loss {μ ν : Mem} (h : REL μ ν) (z0 : Int32) (z1 : Int32) : ∃ (r : Int32) (μ' : Mem) (ν' : Mem), fX11_loss z0 z1 μ = some (r, μ') ∧ fX12_loss z0 z1 ν = some (r, ν') ∧ REL μ' ν' := by
  have h' := h
  obtain ⟨w, L, R, a1, a2, a3, a4, a5, a6, a7, a8, a9, a10, a11, a12⟩ := h'
  have hn := a2.1
  unfold fX11_loss fX12_loss
  rcases house_cases a2 a3 z0 with ⟨e1, e2⟩ | ⟨k, hk, rfl, e1, e2⟩
  · rw [e1, e2, b1_some, b1_some, if_pos rfl, if_pos rfl]; exact ⟨_, _, _, rfl, rfl, h⟩
  · rw [e1, e2, b1_some, b1_some, if_neg n10, if_neg n10]
    unfold fX12_isSmall
    rw [in_c, b1_some, b1_some]
    by_cases c0 : z1 < 0
    · rw [if_pos c0, if_pos (Or.inl c0), if_pos p001]; exact ⟨_, _, _, rfl, rfl, h⟩
    · rw [if_neg c0]
      by_cases c1 : z1 ≤ 30
      · rw [if_pos c1, if_neg (show ¬ (z1 < 0 ∨ 30 < z1) by grind), if_neg n101]
        obtain ⟨n, hn1, rfl⟩ := nI_of c0
        rw [L_le2 (by omega) (by omega)] at c1
        refine rel_of h (sF w (sB w k n R) k) ?_ ?_
        · rw [Wo_b2]; exact Wo_mono (lossWith_c a2 a5 a4.1 (by omega) (by omega)) (fun p hp => by rw [Wo_some]; exact hp)
        · exact lossOf_m a3 a6 hk (by omega)
      · rw [if_neg c1, if_pos (show z1 < 0 ∨ 30 < z1 by grind), if_pos p001]; exact ⟨_, _, _, rfl, rfl, h⟩
/-- what one coal saves -/
def sv (w : Kw) (R : Rw) (h : Nat) : Int32 := sF w R h - sF w (sB w h 1 R) h
theorem saved_c {w : Kw} {μ : Mem} {R : Rw} {h : Nat} (hQ : QC w μ) (hS : SF μ 24 (kp w) R) (hR : RG w R) (hh : h < 6) : Wo (fX11_savedByOne (nI h) μ) (fun p => p.1 = sv w R h ∧ KC μ p.2) := by
  unfold fX11_savedByOne
  rw [Wo_b2]
  refine Wo_mono (fades_c hQ (by omega) hS.1 hR hh) ?_
  rintro ⟨r, μ1⟩ ⟨h1, h2, h3⟩
  dsimp only at h1 h2 h3
  rw [Wo_b2]
  have hk := KC_law h2 h3
  refine Wo_mono (lossWith_c (n := 1) (QC_KC hQ hk) (SF_KC hS hk) hR hh (by omega)) ?_
  rintro ⟨r', μ2⟩ ⟨h4, h5⟩
  dsimp only at h4 h5
  rw [Wo_some]
  refine ⟨?_, KC_tr hk h5⟩
  show r - r' = _
  rw [h1, h4]; rfl
theorem saves_m {w : Kw} {L : Nat} {ν : Mem} {R : Rw} {h : Nat} (hQ : QL w L ν) (hN : NR ν R) (hh : h < kn w) : Wo (fX12_savesOf (nI h) ν) (fun p => p.1 = sv w R h ∧ Fc ν p.2) := by
  unfold fX12_savesOf
  rw [Wo_b2]
  refine Wo_mono (lossOf_m (n := 0) hQ hN hh (by omega)) ?_
  rintro ⟨r, μ1⟩ ⟨h1, h2⟩
  dsimp only at h1 h2
  rw [Wo_b2]
  refine Wo_mono (lossOf_m (n := 1) (QL_Fc hQ h2) (NR_Fc hN h2) hh (by omega)) ?_
  rintro ⟨r', μ2⟩ ⟨h3, h4⟩
  dsimp only at h3 h4
  rw [Wo_some]
  refine ⟨?_, Fc_tr h2 h4⟩
  show r - r' = _
  rw [h1, h3]; rfl
theorem r_saves {μ ν : Mem} (h : REL μ ν) (z0 : Int32) : ∃ (r : Int32) (μ' : Mem) (ν' : Mem), fX11_saves z0 μ = some (r, μ') ∧ fX12_saves z0 ν = some (r, ν') ∧ REL μ' ν' := by
  have h' := h
  obtain ⟨w, L, R, a1, a2, a3, a4, a5, a6, a7, a8, a9, a10, a11, a12⟩ := h'
  have hn := a2.1
  unfold fX11_saves fX12_saves
  rcases house_cases a2 a3 z0 with ⟨e1, e2⟩ | ⟨k, hk, rfl, e1, e2⟩
  · rw [e1, e2, b1_some, b1_some, if_pos rfl, if_pos rfl]; exact ⟨_, _, _, rfl, rfl, h⟩
  · rw [e1, e2, b1_some, b1_some, if_neg n10, if_neg n10]
    refine rel_of h (sv w R k) ?_ ?_
    · rw [Wo_b2]; exact Wo_mono (saved_c a2 a5 a4.1 (by omega)) (fun p hp => by rw [Wo_some]; exact hp)
    · rw [Wo_b2]; exact Wo_mono (saves_m a3 a6 hk) (fun p hp => by rw [Wo_some]; exact hp)
theorem sv_rng {w : Kw} {R : Rw} {h : Nat} (hR : RG w R) (hh : h < 6) : -100000 < sv w R h := by
  have h1 := sF_rng hR hh
  have h2 := sF_rng (RG_B hR hh 1) hh
  have h3 := (hR h hh).2.1
  have h4 := (RG_B hR hh 1 h hh).2.1
  unfold sv
  grind
theorem first_c {w : Kw} {μ : Mem} {R : Rw} (hQ : QC w μ) (hS : SF μ 24 (kp w) R) (hR : RG w R) : Wo (fX11_first μ) (fun p => p.1 = oI (am (sv w R) (kn w)) ∧ KC μ p.2) := by
  unfold fX11_first
  have hn := hQ.1
  refine lp0 (fun n' x s => fX11_first_l9 n' s.1 s.2.1 x s.2.2) (kn w) (by omega) (fun i (s : Int32 × Int32 × Mem) => (s.1 = oI (am (sv w R) i) ∧ s.2.1 = oV (sv w R) (-100000) (am (sv w R) i)) ∧ KC μ s.2.2) _ (-2, -100000, μ) ⟨⟨rfl, rfl⟩, KC_rfl⟩ ?_ ?_
  · rintro n' i ⟨x1, x2, s⟩ hi ⟨⟨i1, i2⟩, i3⟩ hrec
    dsimp only at i1 i2 i3 ⊢
    show Wo (fX11_first_s9 _ _ _ _ _) _
    unfold fX11_first_s9
    have hQ' := QC_KC hQ i3
    rw [hQ'.2.1, if_neg (by simp (disch := omega) only [L_add, L_add2, L_mul, L_mul2, L_sub, nI_add, pk_mul, pk_sub, L_le, L_le2, L_lt, L_lt2, L_eq, L_eq2, nI_leI, nI_ltI, nI_eq, nI_clamp, ix_nI, ix_lit, L_cl]; omega), Wo_b2]
    refine Wo_mono (saved_c hQ' (SF_KC hS i3) hR (by omega)) ?_
    rintro ⟨r, μ1⟩ ⟨h1, h2⟩
    dsimp only at h1 h2 ⊢
    subst h1 i1 i2
    have hz := am_step (g := sv w R) (z := -100000) (n := i) (sv_rng hR (by omega))
    by_cases hc : sv w R i ≤ oV (sv w R) (-100000) (am (sv w R) i)
    · rw [if_pos hc] at hz ⊢
      rw [nI_1]
      exact hrec (_, _, μ1) ⟨⟨congrArg Prod.fst hz, congrArg Prod.snd hz⟩, KC_tr i3 h2⟩
    · rw [if_neg hc] at hz ⊢
      rw [nI_1]
      exact hrec (_, _, μ1) ⟨⟨congrArg Prod.fst hz, congrArg Prod.snd hz⟩, KC_tr i3 h2⟩
  · rintro n' ⟨x1, x2, s⟩ ⟨⟨i1, i2⟩, i3⟩
    dsimp only at i1 i2 i3 ⊢
    show Wo (fX11_first_s9 _ _ _ _ _) _
    unfold fX11_first_s9
    rw [(QC_KC hQ i3).2.1, if_pos (by simp (disch := omega) only [L_add, L_add2, L_mul, L_mul2, L_sub, nI_add, pk_mul, pk_sub, L_le, L_le2, L_lt, L_lt2, L_eq, L_eq2, nI_leI, nI_ltI, nI_eq, nI_clamp, ix_nI, ix_lit, L_cl]; omega), Wo_some]
    exact ⟨i1, i3⟩
theorem first_m {w : Kw} {L : Nat} {ν : Mem} {R : Rw} (hQ : QL w L ν) (hN : NR ν R) : Wo (fX12_first ν) (fun p => p.1 = oI (am (sv w R) (kn w)) ∧ Fc ν p.2) := by
  unfold fX12_first
  have hn := hQ.2.1
  refine lp0 (fun n' x s => fX12_first_l5 n' s.1 x s.2) (kn w) (by omega) (fun i (s : Int32 × Mem) => s.1 = oI (am (sv w R) i) ∧ Fc ν s.2) _ (-2, ν) ⟨rfl, Fc_rfl⟩ ?_ ?_
  · rintro n' i ⟨x1, s⟩ hi ⟨i1, i3⟩ hrec
    dsimp only at i1 i3 ⊢
    show Wo (fX12_first_s5 _ _ _ _) _
    unfold fX12_first_s5
    have hQ' := QL_Fc hQ i3
    rw [many_m hQ', b1_some, if_neg (by simp (disch := omega) only [L_add, L_add2, L_mul, L_mul2, L_sub, nI_add, pk_mul, pk_sub, L_le, L_le2, L_lt, L_lt2, L_eq, L_eq2, nI_leI, nI_ltI, nI_eq, nI_clamp, ix_nI, ix_lit, L_cl]; omega)]
    subst i1
    have es : am (sv w R) (i + 1) = (match am (sv w R) i with | none => some i | some b => if sv w R i ≤ sv w R b then some b else some i) := rfl
    cases ha : am (sv w R) i with
    | none =>
      rw [ha] at es
      rw [if_pos (by decide), nI_1]
      exact hrec (_, s) ⟨by rw [es]; rfl, i3⟩
    | some b =>
      have hb := am_lt ha
      rw [ha] at es
      rw [show oI (some b) = nI b from rfl, if_neg (nI_pos (by omega)), Wo_b2]
      refine Wo_mono (saves_m hQ' (NR_Fc hN i3) hi) ?_
      rintro ⟨r, μ1⟩ ⟨h1, h2⟩
      dsimp only at h1 h2 ⊢
      rw [Wo_b2]
      refine Wo_mono (saves_m (h := b) (QL_Fc hQ' h2) (NR_Fc (NR_Fc hN i3) h2) (by omega)) ?_
      rintro ⟨r', μ2⟩ ⟨h3, h4⟩
      dsimp only at h3 h4 ⊢
      subst h1 h3
      by_cases hc : sv w R i ≤ sv w R b
      · rw [if_pos hc, nI_1]
        exact hrec (_, μ2) ⟨by rw [es]; dsimp only; rw [if_pos hc]; rfl, Fc_tr i3 (Fc_tr h2 h4)⟩
      · rw [if_neg hc, nI_1]
        exact hrec (_, μ2) ⟨by rw [es]; dsimp only; rw [if_neg hc]; rfl, Fc_tr i3 (Fc_tr h2 h4)⟩
  · rintro n' ⟨x1, s⟩ ⟨i1, i3⟩
    dsimp only at i1 i3 ⊢
    show Wo (fX12_first_s5 _ _ _ _) _
    unfold fX12_first_s5
    rw [many_m (QL_Fc hQ i3), b1_some, if_pos (by simp (disch := omega) only [L_add, L_add2, L_mul, L_mul2, L_sub, nI_add, pk_mul, pk_sub, L_le, L_le2, L_lt, L_lt2, L_eq, L_eq2, nI_leI, nI_ltI, nI_eq, nI_clamp, ix_nI, ix_lit, L_cl]; omega), Wo_some]
    exact ⟨i1, i3⟩
theorem r_first {μ ν : Mem} (h : REL μ ν) : ∃ (r : Int32) (μ' : Mem) (ν' : Mem), fX11_first μ = some (r, μ') ∧ fX12_first ν = some (r, ν') ∧ REL μ' ν' := by
  have h' := h
  obtain ⟨w, L, R, a1, a2, a3, a4, a5, a6, a7, a8, a9, a10, a11, a12⟩ := h'
  exact rel_of h _ (first_c a2 a5 a4.1) (first_m a3 a6)
