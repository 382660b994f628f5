theorem MR_up {ν : Mem} {R : Nat → Int32} (h : MR ν R) (k : Nat) (v : Int32) : MR (upI ν 32 k v) (upd R k v) := by
  intro i hi
  rw [rd_If, upd_ap, upd_ap, h i hi]
theorem MR_fr {ν ν' : Mem} {R : Nat → Int32} (h : MR ν R) (hf : ν'.1 32 = ν.1 32) : MR ν' R := by
  intro i hi; rw [hf]; exact h i hi
theorem MR_ext {ν : Mem} {R R' : Nat → Int32} (h : MR ν R) (he : ∀ k, k < 39 → R' k = R k) : MR ν R' := fun k hk => (h k hk).trans (he k hk).symm
theorem burnsOne_m {w : Kw} {L h : Nat} {ν : Mem} {R : Nat → Int32} (hQ : QL w L ν) (hM : MR ν R) (hh : h < kn w) : Wo (fX12_burnsOne (nI h) ν) (fun ν' => MR ν' (sB1 w h R) ∧ Fm ν ν') := by
  have h2 := hQ.2.1
  unfold fX12_burnsOne
  simp (disch := omega) only [L_add, L_add2, L_mul, L_mul2, L_sub, nI_add, pk_mul, pk_sub, L_le, L_le2, L_lt, L_lt2, L_eq, L_eq2, nI_leI, nI_ltI, nI_eq, nI_clamp, ix_nI, ix_lit, L_cl, Wo_b1, Wo_b2, Wo_gd, Wo_some, Wo_bd, b1_some, b2_some, gd_true, bd_eq, true_and]
  refine Wo_mono (warmsOf_m hQ hM hh) ?_
  rintro ⟨r, ν'⟩ ⟨h1, h3, h4⟩
  dsimp only at h1 h3 h4
  rw [cl_within, Wo_some]
  simp (disch := omega) only [rd_Ik, hM (6 + h), h3 (30 + h), h1]
  exact ⟨MR_up (MR_up h3 _ _) _ _, Fm_tr (Fl_Fm h4) (Fm_tr (Fm_up (by omega)) (Fm_up (by omega)))⟩
theorem burns_m {w : Kw} {L h n : Nat} {ν : Mem} {R : Nat → Int32} (hQ : QL w L ν) (hM : MR ν R) (hh : h < kn w) (hn : n < 1000) : Wo (fX12_burns (nI h) (nI n) ν) (fun ν' => MR ν' (sB w h n R) ∧ Fm ν ν') := by
  unfold fX12_burns
  refine lp0 (fun n' x s => fX12_burns_l2 (nI h) (nI n) n' x s) n (by omega) (fun i s => MR s (sB w h i R) ∧ Fm ν s) _ ν ⟨hM, Fm_rfl⟩ ?_ ?_
  · rintro n' i s hi ⟨i1, i2⟩ hrec
    show Wo (fX12_burns_s2 _ _ _ _ _) _
    unfold fX12_burns_s2
    rw [if_neg (by simp (disch := omega) only [L_add, L_add2, L_mul, L_mul2, L_sub, nI_add, pk_mul, pk_sub, L_le, L_le2, L_lt, L_lt2, L_eq, L_eq2, nI_leI, nI_ltI, nI_eq, nI_clamp, ix_nI, ix_lit, L_cl]; omega), Wo_b1]
    refine Wo_mono (burnsOne_m (QL_Fm hQ i2) i1 hh) ?_
    rintro ν' ⟨j1, j2⟩
    rw [nI_1]
    exact hrec ν' ⟨j1, Fm_tr i2 j2⟩
  · rintro n' s hI
    show Wo (fX12_burns_s2 _ _ _ _ _) _
    unfold fX12_burns_s2
    rw [if_pos (by simp (disch := omega) only [L_add, L_add2, L_mul, L_mul2, L_sub, nI_add, pk_mul, pk_sub, L_le, L_le2, L_lt, L_lt2, L_eq, L_eq2, nI_leI, nI_ltI, nI_eq, nI_clamp, ix_nI, ix_lit, L_cl]; omega), Wo_some]
    exact hI
theorem sP_ne {w : Kw} {R : Nat → Int32} {h k : Nat} (h1 : k ≠ 12 + h) (h2 : k ≠ 6 + h) (h3 : k ≠ 30 + h) : sP w R h k = R k := by
  unfold sP
  rw [pk_un h3, pk_un h2, pk_un h1]
theorem sPs_ne {w : Kw} {R : Nat → Int32} {n k : Nat} (h : ∀ h, h < n → k ≠ 12 + h ∧ k ≠ 6 + h ∧ k ≠ 30 + h) : sPs w n R k = R k := by
  induction n with
  | zero => rfl
  | succ n ih =>
    have := h n (by omega)
    show sP w (sPs w n R) n k = _
    rw [sP_ne this.1 this.2.1 this.2.2]
    exact ih (fun h' hh' => h h' (by omega))
theorem HV_ext {pan R R' : Nat → Int32} {h : Nat} (hh : h < 6) (h1 : R' h = R h) (h2 : R' (6 + h) = R (6 + h)) (h3 : R' (12 + h) = R (12 + h)) (h4 : R' (18 + h) = R (18 + h)) (h5 : R' (24 + h) = R (24 + h)) (h6 : R' (30 + h) = R (30 + h)) (h7 : R' 36 = R 36) : HV pan R' h = HV pan R h := by
  funext i
  match i with
  | 0 => rfl
  | 1 => show R' (0 + h) = R (0 + h); rw [Nat.zero_add]; exact h1
  | 2 => exact h2
  | 3 => exact h3
  | 4 => exact h4
  | 5 => exact h7
  | 6 => rfl
  | 7 => exact h5
  | i + 8 =>
    show (if i + 8 = 0 then _ else if i + 8 < 5 then _ else if i + 8 = 5 then _ else if i + 8 = 6 then _ else if i + 8 = 7 then _ else R' (30 + h)) = (if i + 8 = 0 then _ else if i + 8 < 5 then _ else if i + 8 = 5 then _ else if i + 8 = 6 then _ else if i + 8 = 7 then _ else R (30 + h))
    simp (disch := omega) only [if_neg, h6]
theorem HV_Ps {w : Kw} {R : Nat → Int32} {n h : Nat} (hn : n ≤ h) (hh : h < 6) : HV (kp w) (sPs w n R) h = HV (kp w) R h :=
  HV_ext hh (sPs_ne (fun _ _ => by omega)) (sPs_ne (fun _ _ => by omega)) (sPs_ne (fun _ _ => by omega)) (sPs_ne (fun _ _ => by omega)) (sPs_ne (fun _ _ => by omega)) (sPs_ne (fun _ _ => by omega)) (sPs_ne (fun _ _ => by omega))
theorem sF_Ps {w : Kw} {R : Nat → Int32} {n h : Nat} (hn : n ≤ h) (hh : h < 6) : sF w (sPs w n R) h = sF w R h := by
  unfold sF
  rw [HV_Ps hn hh, sPs_ne (fun _ _ => by omega)]
theorem sCh_Ps {w : Kw} {R : Nat → Int32} {n h : Nat} (hn : n ≤ h) (hh : h < 6) : sCh w (sPs w n R) h = sCh w R h := by
  unfold sCh sC
  rw [HV_Ps hn hh, sPs_ne (fun _ _ => by omega)]
def sDay (w : Kw) (st : Option Int32) (R : Nat → Int32) : Nat → Int32 :=
  match st with
  | none => upd (sPs w (kn w) R) 36 (R 36 + 1)
  | some s => upd (sH w s (sPs w (kn w) R)) 36 (R 36 + 1)
theorem RG_36 {w : Kw} {R : Nat → Int32} (hR : RG w R) (v : Int32) : RG w (upd R 36 v) := by
  intro h hh
  have := hR h hh
  simp (disch := omega) only [pk_un]
  exact this
theorem RG_Day {w : Kw} {R : Nat → Int32} (hK : KW w) (hR : RG w R) (st : Option Int32) : RG w (sDay w st R) := by
  unfold sDay
  split
  · exact RG_36 (RG_Ps hR hK.1) _
  · exact RG_36 (RG_H hK (RG_Ps hR hK.1)) _
theorem sH_36 {w : Kw} {R : Nat → Int32} {s : Int32} (hn : kn w ≤ 6) {k : Nat} (hk : 6 ≤ k) : sH w s R k = R k := by
  unfold sH
  cases e : sK w s (R 36) with
  | none => rfl
  | some h =>
    have := (sK_lt hn e).1
    show sBk w h R k = _
    unfold sBk
    by_cases hc : kp w h ≤ R h
    · rw [if_pos hc]
    · rw [if_neg hc, pk_un (by omega)]
theorem lotOf_m {ν : Mem} {n : Nat} (k : Int32) (hn : 0 < n) (hn2 : n < 2 ^ 31) : fX12_lotOf k (nI n) ν = some (lv (nI n) (ν.1 0 49) k) := by
  unfold fX12_lotOf
  rw [mixed_m, b1_some, mixed_m, b1_some, dz_nI hn hn2]
  rfl
theorem isHail_m {w : Kw} {L : Nat} {ν : Mem} {R : Nat → Int32} (hQ : QL w L ν) (hM : MR ν R) : fX12_isHail ν = some (if khail w ≤ lv 100 (ν.1 0 49) (4 * R 36) then 0 else 1) := by
  have h1 := hQ.1
  have e : fX12_lotOf (4 * (ν.1 32 36)) 100 ν = some (lv 100 (ν.1 0 49) (4 * R 36)) := by
    rw [hM 36 (by omega)]; exact lotOf_m (n := 100) (4 * R 36) (by omega) (by omega)
  unfold fX12_isHail
  rw [e, b1_some, hQ.2.2.1, ix_nI (by omega) (by omega), gd_true, nI_clamp (by omega), hQ.2.2.2.2.2.2.1]
  by_cases hc : khail w ≤ lv 100 (ν.1 0 49) (4 * R 36)
  · rw [if_pos hc, if_pos hc]
  · rw [if_neg hc, if_neg hc]
theorem dayGoes_m {w : Kw} {L : Nat} {ν : Mem} {R : Nat → Int32} {st : Option Int32} (hQ : QL w L ν) (hM : MR ν R) (hst : (ν.1 0 50 = 1 ∧ st = none) ∨ (ν.1 0 50 = 0 ∧ st = some (ν.1 0 49))) : Wo (fX12_dayGoes ν) (fun ν' => MR ν' (sDay w st R) ∧ Fm ν ν') := by
  have hn := hQ.2.1
  unfold fX12_dayGoes
  refine lp0 (fun n' x s => fX12_dayGoes_l2 _ n' x s) (kn w) (by omega) (fun i s => MR s R ∧ Fm ν s ∧ ∀ h, h < i → s.1 33 h = sF w R h ∧ s.1 34 h = sCh w R h) _ ν ⟨hM, Fm_rfl, fun h hh => by omega⟩ ?_ ?_
  · rintro n' i s hi ⟨i1, i2, i3⟩ hrec
    show Wo (fX12_dayGoes_s2 _ _ _ _) _
    unfold fX12_dayGoes_s2
    have hQ1 := QL_Fm hQ i2
    rw [many_m hQ1, b1_some, if_neg (by simp (disch := omega) only [L_add, L_add2, L_mul, L_mul2, L_sub, nI_add, pk_mul, pk_sub, L_le, L_le2, L_lt, L_lt2, L_eq, L_eq2, nI_leI, nI_ltI, nI_eq, nI_clamp, ix_nI, ix_lit, L_cl]; omega), Wo_b2]
    refine Wo_mono (fadesOf_m hQ1 i1 hi) ?_
    rintro ⟨r, s1⟩ ⟨j1, j2, j3⟩
    dsimp only at j1 j2 j3
    simp (disch := omega) only [L_add, L_add2, L_mul, L_mul2, L_sub, nI_add, pk_mul, pk_sub, L_le, L_le2, L_lt, L_lt2, L_eq, L_eq2, nI_leI, nI_ltI, nI_eq, nI_clamp, ix_nI, ix_lit, L_cl, Wo_b1, Wo_b2, Wo_gd, Wo_some, Wo_bd, b1_some, b2_some, gd_true, bd_eq, true_and]
    have f1 : Fm s1 (upI s1 33 i r) := Fm_up (by omega)
    refine Wo_mono (chillOf_m (QL_Fm (QL_Fm hQ1 (Fl_Fm j3)) f1) (MR_fr j2 (rd_Ii (by omega))) hi) ?_
    rintro ⟨r2, s2⟩ ⟨l1, l2, l3⟩
    dsimp only at l1 l2 l3
    refine hrec (upI s2 34 i r2) ⟨MR_fr l2 (rd_Ii (by omega)), Fm_tr i2 (Fm_tr (Fl_Fm j3) (Fm_tr f1 (Fm_tr (Fl_Fm l3) (Fm_up (by omega))))), fun h hh => ?_⟩
    by_cases he : h = i
    · subst he
      rw [rd_Is, rd_Ii (by omega), l3.1 33 (by omega) (by omega) (by omega), rd_Is]
      exact ⟨j1, l1⟩
    · rw [rd_Ik he, rd_Ii (by omega), l3.1 33 (by omega) (by omega) (by omega), rd_Ik he, l3.1 34 (by omega) (by omega) (by omega), rd_Ii (by omega), j3.1 33 (by omega) (by omega) (by omega), j3.1 34 (by omega) (by omega) (by omega)]
      exact i3 h (by omega)
  · rintro n' s ⟨i1, i2, i3⟩
    show Wo (fX12_dayGoes_s2 _ _ _ _) _
    unfold fX12_dayGoes_s2
    rw [many_m (QL_Fm hQ i2), b1_some, if_pos (by simp (disch := omega) only [L_add, L_add2, L_mul, L_mul2, L_sub, nI_add, pk_mul, pk_sub, L_le, L_le2, L_lt, L_lt2, L_eq, L_eq2, nI_leI, nI_ltI, nI_eq, nI_clamp, ix_nI, ix_lit, L_cl]; omega)]
    refine lp0 (fun n' x s => fX12_dayGoes_l40 _ n' x s) (kn w) (by omega) (fun i s => MR s (sPs w i R) ∧ Fm ν s ∧ ∀ h, h < kn w → s.1 33 h = sF w R h ∧ s.1 34 h = sCh w R h) _ s ⟨i1, i2, i3⟩ ?_ ?_
    · rintro n' i s hi ⟨i1, i2, i3⟩ hrec
      show Wo (fX12_dayGoes_s40 _ _ _ _) _
      unfold fX12_dayGoes_s40
      rw [many_m (QL_Fm hQ i2), b1_some, if_neg (by simp (disch := omega) only [L_add, L_add2, L_mul, L_mul2, L_sub, nI_add, pk_mul, pk_sub, L_le, L_le2, L_lt, L_lt2, L_eq, L_eq2, nI_leI, nI_ltI, nI_eq, nI_clamp, ix_nI, ix_lit, L_cl]; omega)]
      simp (disch := omega) only [L_add, L_add2, L_mul, L_mul2, L_sub, nI_add, pk_mul, pk_sub, L_le, L_le2, L_lt, L_lt2, L_eq, L_eq2, nI_leI, nI_ltI, nI_eq, nI_clamp, ix_nI, ix_lit, L_cl, Wo_b1, Wo_b2, Wo_gd, Wo_some, Wo_bd, b1_some, b2_some, gd_true, bd_eq, true_and, cl_within, rd_Ik, rd_Ii, i1 (12 + i), i1 (6 + i)]
      refine hrec _ ⟨?_, Fm_tr i2 (Fm_tr (Fm_up (by omega)) (Fm_tr (Fm_up (by omega)) (Fm_up (by omega)))), ?_⟩
      · rw [(i3 i hi).1, (i3 i hi).2, ← sF_Ps (n := i) (h := i) (by omega) (by omega), ← sCh_Ps (n := i) (h := i) (by omega) (by omega)]
        exact MR_up (MR_up (MR_up i1 _ _) _ _) _ _
      · intro h hh
        simp (disch := omega) only [rd_Ii]
        exact i3 h hh
    · rintro n' s ⟨i1, i2, i3⟩
      show Wo (fX12_dayGoes_s40 _ _ _ _) _
      unfold fX12_dayGoes_s40
      have hQ1 := QL_Fm hQ i2
      have h36 : sPs w (kn w) R 36 = R 36 := sPs_ne (fun _ _ => by omega)
      rw [many_m hQ1, b1_some, if_pos (by simp (disch := omega) only [L_add, L_add2, L_mul, L_mul2, L_sub, nI_add, pk_mul, pk_sub, L_le, L_le2, L_lt, L_lt2, L_eq, L_eq2, nI_leI, nI_ltI, nI_eq, nI_clamp, ix_nI, ix_lit, L_cl]; omega)]
      dsimp only
      rw [i2.2.1 50 (by omega)]
      have fin : ∀ s' R', MR s' R' → R' 36 = R 36 → Fm ν s' → Wo (fX12_dayGoes_b179 s') (fun ν' => MR ν' (upd R' 36 (R 36 + 1)) ∧ Fm ν ν') := by
        intro s' R' a b c
        unfold fX12_dayGoes_b179
        rw [bd_eq, Wo_some, a 36 (by omega), b]
        exact ⟨MR_up a _ _, Fm_tr c (Fm_up (by omega))⟩
      rcases hst with ⟨e0, e1⟩ | ⟨e0, e1⟩
      · rw [e0, if_neg (by decide), e1]
        exact fin s _ i1 h36 i2
      · rw [e0, if_pos rfl, e1, many_m hQ1, b1_some]
        have e2 : s.1 0 49 = ν.1 0 49 := i2.2.1 49 (by omega)
        show Wo _ (fun ν' => MR ν' (upd (sH w (ν.1 0 49) (sPs w (kn w) R)) 36 (R 36 + 1)) ∧ Fm ν ν')
        by_cases h0 : kn w = 0
        · rw [if_pos (by rw [h0]; decide)]
          have : sH w (ν.1 0 49) (sPs w (kn w) R) = sPs w (kn w) R := by unfold sH sK; rw [if_pos h0]
          rw [this]
          exact fin s _ i1 h36 i2
        · rw [if_neg (by simp (disch := omega) only [L_add, L_add2, L_mul, L_mul2, L_sub, nI_add, pk_mul, pk_sub, L_le, L_le2, L_lt, L_lt2, L_eq, L_eq2, nI_leI, nI_ltI, nI_eq, nI_clamp, ix_nI, ix_lit, L_cl]; omega), isHail_m hQ1 i1, b1_some, h36, e2]
          by_cases h1 : khail w ≤ lv 100 (ν.1 0 49) (4 * R 36)
          · rw [if_pos h1, if_pos rfl]
            have : sH w (ν.1 0 49) (sPs w (kn w) R) = sPs w (kn w) R := by unfold sH sK; rw [h36, if_neg h0, if_pos h1]
            rw [this]
            exact fin s _ i1 h36 i2
          · have e : sK w (ν.1 0 49) (R 36) = some (lv (nI (kn w)) (ν.1 0 49) (4 * R 36 + 1)).toNatClampNeg := by unfold sK; rw [if_neg h0, if_neg h1]
            generalize hg : (lv (nI (kn w)) (ν.1 0 49) (4 * R 36 + 1)).toNatClampNeg = g at e
            have hl := sK_lt hn e
            rw [if_neg h1, if_neg (by decide), b1_some, i1 36 (by omega), h36, lotOf_m _ (by omega) (by omega), b1_some, e2, hl.2, ix_nI (by omega) (by omega), gd_true, panesAt_m hQ1 hl.1, b1_some, nI_clamp (by omega), i1 g (by omega), gd_true, gd_true, bd_eq]
            have hs : sH w (ν.1 0 49) (sPs w (kn w) R) = sBk w g (sPs w (kn w) R) := by unfold sH; rw [h36, e]
            rw [hs]
            unfold sBk
            by_cases hc : kp w g ≤ sPs w (kn w) R g
            · rw [if_pos hc, if_pos hc]
              exact fin s _ i1 h36 i2
            · rw [if_neg hc, if_neg hc]
              exact fin _ _ (MR_up i1 _ _) (by rw [pk_un (by omega)]; exact h36) (Fm_tr i2 (Fm_up (by omega)))
