theorem isLong_m (x : Int32) : fX12_isLong x = some (if x < 0 ∨ 60 < x then 0 else 1) := by
  unfold fX12_isLong
  rw [in_c, b1_some]
  congr 1
  split <;> decide
theorem then_m {w : Kw} {L n : Nat} {ν : Mem} {R : Rw} (hQ : QL w L ν) (hN : NR ν R) (hn : n ≤ 60) (K : Mem → Option (Int32 × Mem)) (Q : Int32 × Mem → Prop) (hK : ∀ s, MR s (sDays w (some (kseed w)) n R) → Fc ν s → Wo (K s) Q) : Wo (b1 (fX12_copies ν) (fun μ8 => b1 (fX12_goes (nI n) μ8) K)) Q := by
  rw [Wo_b1]
  refine Wo_mono (copies_s hQ hN) ?_
  rintro ν1 ⟨h1, h2, h3, h4⟩
  rw [Wo_b1]
  refine Wo_mono (goes_m (st := some (kseed w)) (QL_Fc hQ h2) h1 (Or.inr ⟨h4, by rw [h3]⟩) (by omega)) ?_
  rintro ν2 ⟨h5, h6⟩
  exact hK ν2 h5 (Fc_tr h2 (Fm_Fc h6))
theorem r_then {μ ν : Mem} (h : REL μ ν) (z0 : Int32) (z1 : Int32) (z2 : Int32) : ∃ (r : Int32) (μ' : Mem) (ν' : Mem), fX11_then z0 z1 z2 μ = some (r, μ') ∧ fX12_then z0 z1 z2 ν = some (r, ν') ∧ REL μ' ν' := by
  have h' := h
  obtain ⟨w, L, R, a1, a2, a3, a4, a5, a6, a7, a8, a9, a10, a11, a12⟩ := h'
  have hn := a2.1
  unfold fX11_then fX12_then
  rcases house_cases a2 a3 z0 with ⟨e1, e2⟩ | ⟨k, hk, rfl, e1, e2⟩
  · rw [e1, e2, b1_some, b1_some, if_pos rfl, if_pos rfl]; exact ⟨_, _, _, rfl, rfl, h⟩
  · rw [e1, e2, b1_some, b1_some, if_neg n10, if_neg n10, isLong_m, b1_some]
    by_cases c0 : z1 < 0
    · rw [if_pos c0, if_pos (Or.inl c0), if_pos rfl]; exact ⟨_, _, _, rfl, rfl, h⟩
    · rw [if_neg c0]
      by_cases c1 : 60 < z1
      · rw [if_pos c1, if_pos (show z1 < 0 ∨ 60 < z1 from Or.inr c1), if_pos rfl]; exact ⟨_, _, _, rfl, rfl, h⟩
      · rw [if_neg c1, if_neg (show ¬ (z1 < 0 ∨ 60 < z1) from fun hx => hx.elim c0 c1), if_neg n10, in_c, b1_some]
        by_cases c2 : z2 < 0
        · rw [if_pos c2, if_pos (Or.inl c2), if_pos rfl]; exact ⟨_, _, _, rfl, rfl, h⟩
        · rw [if_neg c2]
          by_cases c3 : z2 ≤ 2
          · rw [if_pos c3, if_neg (show ¬ (z2 < 0 ∨ 2 < z2) by grind), if_neg n10]
            obtain ⟨n, hn1, rfl⟩ := nI_of c0
            rw [L_lt (by omega) (by omega)] at c1
            rw [a2.2.2.2.2.1]
            have hE := @EqH_days w k R hn hk (some (kseed w)) n
            by_cases d0 : z2 = 0
            · refine rel_of h (sDays w (some (kseed w)) n R (6 + k)) ?_ ?_
              · rw [Wo_b1]
                refine Wo_mono (ahead_c (n := n) a1.1 a2 a5 a4.1 hk (by omega)) ?_
                rintro μ1 ⟨h1, h2⟩
                rw [if_pos d0, get_2 h1 (by omega), b1_some, Wo_some]
                exact ⟨hE.2.1.symm, h2⟩
              · refine then_m a3 a6 (by omega) _ _ (fun s h1 h2 => ?_)
                rw [if_pos d0]
                simp (disch := omega) only [L_add, L_add2, L_mul, L_mul2, L_sub, nI_add, pk_mul, pk_sub, L_le, L_le2, L_lt, L_lt2, L_eq, L_eq2, nI_leI, nI_ltI, nI_eq, nI_clamp, ix_nI, ix_lit, L_cl, Wo_b1, Wo_b2, Wo_gd, Wo_some, Wo_bd, b1_some, b2_some, gd_true, bd_eq, true_and]
                exact ⟨h1 _ (by omega), h2⟩
            · by_cases d1 : z2 = 1
              · refine rel_of h (sDays w (some (kseed w)) n R (12 + k)) ?_ ?_
                · rw [Wo_b1]
                  refine Wo_mono (ahead_c (n := n) a1.1 a2 a5 a4.1 hk (by omega)) ?_
                  rintro μ1 ⟨h1, h2⟩
                  rw [if_neg d0, if_pos d1, get_3 h1 (by omega), b1_some, Wo_some]
                  exact ⟨hE.2.2.1.symm, h2⟩
                · refine then_m a3 a6 (by omega) _ _ (fun s h1 h2 => ?_)
                  rw [if_neg d0, if_pos d1]
                  simp (disch := omega) only [L_add, L_add2, L_mul, L_mul2, L_sub, nI_add, pk_mul, pk_sub, L_le, L_le2, L_lt, L_lt2, L_eq, L_eq2, nI_leI, nI_ltI, nI_eq, nI_clamp, ix_nI, ix_lit, L_cl, Wo_b1, Wo_b2, Wo_gd, Wo_some, Wo_bd, b1_some, b2_some, gd_true, bd_eq, true_and]
                  exact ⟨h1 _ (by omega), h2⟩
              · refine rel_of h (sDays w (some (kseed w)) n R k) ?_ ?_
                · rw [Wo_b1]
                  refine Wo_mono (ahead_c (n := n) a1.1 a2 a5 a4.1 hk (by omega)) ?_
                  rintro μ1 ⟨h1, h2⟩
                  rw [if_neg d0, if_neg d1, get_1 h1 (by omega), b1_some, Wo_some]
                  exact ⟨hE.1.symm, h2⟩
                · refine then_m a3 a6 (by omega) _ _ (fun s h1 h2 => ?_)
                  rw [if_neg d0, if_neg d1]
                  simp (disch := omega) only [L_add, L_add2, L_mul, L_mul2, L_sub, nI_add, pk_mul, pk_sub, L_le, L_le2, L_lt, L_lt2, L_eq, L_eq2, nI_leI, nI_ltI, nI_eq, nI_clamp, ix_nI, ix_lit, L_cl, Wo_b1, Wo_b2, Wo_gd, Wo_some, Wo_bd, b1_some, b2_some, gd_true, bd_eq, true_and]
                  exact ⟨h1 _ (by omega), h2⟩
          · rw [if_neg c3, if_pos (show z2 < 0 ∨ 2 < z2 by grind), if_pos rfl]; exact ⟨_, _, _, rfl, rfl, h⟩
def yc (w : Kw) (R : Rw) (h n : Nat) : Nat → Int32
  | 0 => 0
  | i + 1 => if sDays w (some (kseed w + nI i)) n R (12 + h) ≤ 0 then yc w R h n i else yc w R h n i + 1
theorem yc_s {w : Kw} {R : Rw} {h n i : Nat} : yc w R h n (i + 1) = if sDays w (some (kseed w + nI i)) n R (12 + h) ≤ 0 then yc w R h n i else yc w R h n i + 1 := by rw [yc]
theorem yc_0 {w : Kw} {R : Rw} {h n : Nat} : 0 = yc w R h n 0 := by rw [yc]
theorem year_c {w : Kw} {μ : Mem} {R : Rw} {h n s : Nat} (hK : KW w) (hQ : QC w μ) (hS : SF μ 24 (kp w) R) (hR : RG w R) (hh : h < kn w) (hn : n ≤ 60) (hs : s ≤ 20) : Wo (fX11_year_l37 (nI h) (nI n) (nI s) FU 0 0 μ) (fun p => p.1 = yc w R h n s ∧ KC μ p.2) := by
  have hn6 := hQ.1
  refine lp0 (σ := Int32 × Mem) (fun n' x t => fX11_year_l37 (nI h) (nI n) (nI s) n' t.1 x t.2) s (by omega) (fun i (t : Int32 × Mem) => t.1 = yc w R h n i ∧ KC μ t.2) _ (0, μ) ⟨yc_0, KC_rfl⟩ ?_ ?_
  · rintro n' i ⟨x4, s1⟩ hi ⟨i1, i2⟩ hrec
    dsimp only at i1 i2 ⊢
    show Wo (fX11_year_s37 _ _ _ _ _ _ _) _
    unfold fX11_year_s37
    rw [if_neg (by simp (disch := omega) only [L_add, L_add2, L_mul, L_mul2, L_sub, nI_add, pk_mul, pk_sub, L_le, L_le2, L_lt, L_lt2, L_eq, L_eq2, nI_leI, nI_ltI, nI_eq, nI_clamp, ix_nI, ix_lit, L_cl]; omega), Wo_b1, (QC_KC hQ i2).2.2.2.2.1]
    refine Wo_mono (ahead_c hK (QC_KC hQ i2) (SF_KC hS i2) hR hh hn) ?_
    rintro μ1 ⟨h1, h2⟩
    have hE := (@EqH_days w h R hn6 hh (some (kseed w + nI i)) n).2.2.1
    rw [get_3 h1 (by omega), b1_some, nI_1, ← hE]
    subst i1
    have es := @yc_s w R h n i
    by_cases hc : sDays w (some (kseed w + nI i)) n R (12 + h) ≤ 0
    · rw [if_pos hc] at es ⊢
      exact hrec (yc w R h n i, μ1) ⟨es.symm, KC_tr i2 h2⟩
    · rw [if_neg hc] at es ⊢
      exact hrec (yc w R h n i + 1, μ1) ⟨es.symm, KC_tr i2 h2⟩
  · rintro n' ⟨x4, s1⟩ hI
    show Wo (fX11_year_s37 _ _ _ _ _ _ _) _
    unfold fX11_year_s37
    rw [if_pos (by simp (disch := omega) only [L_add, L_add2, L_mul, L_mul2, L_sub, nI_add, pk_mul, pk_sub, L_le, L_le2, L_lt, L_lt2, L_eq, L_eq2, nI_leI, nI_ltI, nI_eq, nI_clamp, ix_nI, ix_lit, L_cl]; omega), Wo_some]
    exact hI
theorem year_m {w : Kw} {L : Nat} {ν : Mem} {R : Rw} {h n s : Nat} (hQ : QL w L ν) (hN : NR ν R) (hh : h < kn w) (hn : n ≤ 60) (hs : s ≤ 20) : Wo (fX12_year_l33 (nI h) (nI n) (nI s) FU 0 0 ν) (fun p => p.1 = yc w R h n s ∧ Fc ν p.2) := by
  have hn6 := hQ.2.1
  refine lp0 (σ := Int32 × Mem) (fun n' x t => fX12_year_l33 (nI h) (nI n) (nI s) n' t.1 x t.2) s (by omega) (fun i (t : Int32 × Mem) => t.1 = yc w R h n i ∧ Fc ν t.2) _ (0, ν) ⟨yc_0, Fc_rfl⟩ ?_ ?_
  · rintro n' i ⟨x4, s1⟩ hi ⟨i1, i2⟩ hrec
    dsimp only at i1 i2 ⊢
    show Wo (fX12_year_s33 _ _ _ _ _ _ _) _
    unfold fX12_year_s33
    rw [if_neg (by simp (disch := omega) only [L_add, L_add2, L_mul, L_mul2, L_sub, nI_add, pk_mul, pk_sub, L_le, L_le2, L_lt, L_lt2, L_eq, L_eq2, nI_leI, nI_ltI, nI_eq, nI_clamp, ix_nI, ix_lit, L_cl]; omega), Wo_b1]
    refine Wo_mono (copies_s (QL_Fc hQ i2) (NR_Fc hN i2)) ?_
    rintro ν1 ⟨h1, h2, h3, h4⟩
    have f0 : Fc ν1 (upI ν1 0 49 (ν1.1 0 49 + nI i)) := Fc_up0 (by omega)
    rw [bd_eq, Wo_b1]
    refine Wo_mono (goes_m (st := some (kseed w + nI i)) (QL_Fc (QL_Fc (QL_Fc hQ i2) h2) f0) (MR_fr h1 (rd_Ii (by omega))) (Or.inr ⟨by rw [rd_Ik (by omega)]; exact h4, by rw [rd_Is, h3]⟩) (by omega)) ?_
    rintro ν2 ⟨h5, h6⟩
    simp (disch := omega) only [L_add, L_add2, L_mul, L_mul2, L_sub, nI_add, pk_mul, pk_sub, L_le, L_le2, L_lt, L_lt2, L_eq, L_eq2, nI_leI, nI_ltI, nI_eq, nI_clamp, ix_nI, ix_lit, L_cl, Wo_b1, Wo_b2, Wo_gd, Wo_some, Wo_bd, b1_some, b2_some, gd_true, bd_eq, true_and]
    rw [h5 _ (by omega)]
    subst i1
    have es := @yc_s w R h n i
    have hf := Fc_tr i2 (Fc_tr h2 (Fc_tr f0 (Fm_Fc h6)))
    by_cases hc : sDays w (some (kseed w + nI i)) n R (12 + h) ≤ 0
    · rw [if_pos hc] at es ⊢
      exact hrec (yc w R h n i, ν2) ⟨es.symm, hf⟩
    · rw [if_neg hc] at es ⊢
      exact hrec (yc w R h n i + 1, ν2) ⟨es.symm, hf⟩
  · rintro n' ⟨x4, s1⟩ hI
    show Wo (fX12_year_s33 _ _ _ _ _ _ _) _
    unfold fX12_year_s33
    rw [if_pos (by simp (disch := omega) only [L_add, L_add2, L_mul, L_mul2, L_sub, nI_add, pk_mul, pk_sub, L_le, L_le2, L_lt, L_lt2, L_eq, L_eq2, nI_leI, nI_ltI, nI_eq, nI_clamp, ix_nI, ix_lit, L_cl]; omega), Wo_some]
    exact hI
theorem r_year {μ ν : Mem} (h : REL μ ν) (z0 : Int32) (z1 : Int32) (z2 : Int32) : ∃ (r : Int32) (μ' : Mem) (ν' : Mem), fX11_year z0 z1 z2 μ = some (r, μ') ∧ fX12_year z0 z1 z2 ν = some (r, ν') ∧ REL μ' ν' := by
  have h' := h
  obtain ⟨w, L, R, a1, a2, a3, a4, a5, a6, a7, a8, a9, a10, a11, a12⟩ := h'
  have hn := a2.1
  unfold fX11_year fX12_year
  rcases house_cases a2 a3 z0 with ⟨e1, e2⟩ | ⟨k, hk, rfl, e1, e2⟩
  · rw [e1, e2, b1_some, b1_some, if_pos rfl, if_pos rfl]; exact ⟨_, _, _, rfl, rfl, h⟩
  · rw [e1, e2, b1_some, b1_some, if_neg n10, if_neg n10, isLong_m, b1_some]
    by_cases c0 : z1 < 0
    · rw [if_pos c0, if_pos (Or.inl c0), if_pos rfl]; exact ⟨_, _, _, rfl, rfl, h⟩
    · rw [if_neg c0]
      by_cases c1 : 60 < z1
      · rw [if_pos c1, if_pos (show z1 < 0 ∨ 60 < z1 from Or.inr c1), if_pos rfl]; exact ⟨_, _, _, rfl, rfl, h⟩
      · rw [if_neg c1, if_neg (show ¬ (z1 < 0 ∨ 60 < z1) from fun hx => hx.elim c0 c1), if_neg n10, in_c, b1_some]
        by_cases c2 : z2 < 1
        · rw [if_pos c2, if_pos (Or.inl c2), if_pos rfl]; exact ⟨_, _, _, rfl, rfl, h⟩
        · rw [if_neg c2]
          by_cases c3 : z2 ≤ 20
          · rw [if_pos c3, if_neg (show ¬ (z2 < 1 ∨ 20 < z2) by grind), if_neg n10]
            obtain ⟨n, hn1, rfl⟩ := nI_of c0
            obtain ⟨s, hs1, rfl⟩ := nI_of (show ¬ z2 < 0 by grind)
            rw [L_lt (by omega) (by omega)] at c1
            rw [L_le2 (by omega) (by omega)] at c3
            exact rel_of h _ (year_c a1.1 a2 a5 a4.1 hk (by omega) (by omega)) (year_m a3 a6 hk (by omega) (by omega))
          · rw [if_neg c3, if_pos (show z2 < 1 ∨ 20 < z2 by grind), if_pos rfl]; exact ⟨_, _, _, rfl, rfl, h⟩
