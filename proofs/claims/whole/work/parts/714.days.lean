/-- the first day on which it is 0 -/
def ff (g : Nat → Int32) : Nat → Nat → Int32
  | 0, _ => -2
  | n + 1, d => if g d = 0 then nI d else ff g n (d + 1)
theorem ff_ext {g g' : Nat → Int32} (h : ∀ d, g d = g' d) : g = g' := funext h
theorem ff_z {g : Nat → Int32} {i : Nat} (hi : i < 201) (h : g i = 0) : ff g (201 - i) i = nI i := by
  rw [show 201 - i = (200 - i) + 1 by omega]; unfold ff; rw [if_pos h]
theorem ff_n {g : Nat → Int32} {i : Nat} (hi : i < 201) (h : ¬ g i = 0) : ff g (201 - i) i = ff g (201 - (i + 1)) (i + 1) := by
  rw [show 201 - i = (201 - (i + 1)) + 1 by omega]
  show (if g i = 0 then nI i else ff g (201 - (i + 1)) (i + 1)) = _
  rw [if_neg h]
theorem get_k {w : Kw} {μ : Mem} {q h c : Nat} {R : Rw} (hS : SR μ q (kp w) R) (hh : h < 6) (hc : c = 2 ∨ c = 3) : fX7_get q (nI h) (nI c) μ = some (R (6 * (c - 1) + h)) := by
  rw [get_c hh (by omega), hS.2.1 h c hh (by omega) (by omega)]
theorem till_c {w : Kw} {μ : Mem} {R : Rw} {h c : Nat} (hK : KW w) (hQ : QC w μ) (hS : SF μ 24 (kp w) R) (hR : RG w R) (hh : h < kn w) (hc : c = 2 ∨ c = 3) : Wo (fX11_daysTillNothing (nI h) (nI c) μ) (fun p => p.1 = ff (fun d => sDays w none d R (6 * (c - 1) + h)) 201 0 ∧ KC μ p.2) := by
  have hn := hQ.1
  have hg : (fun d => sDays w none d R (6 * (c - 1) + h)) = (fun d => sD1s w none h d R (6 * (c - 1) + h)) := by
    funext d
    have := @EqH_days w h R hn hh none d
    rcases hc with rfl | rfl
    · exact this.2.1
    · exact this.2.2.1
  rw [hg]
  generalize hv : ff (fun d => sD1s w none h d R (6 * (c - 1) + h)) 201 0 = V
  unfold fX11_daysTillNothing
  rw [Wo_b1]
  refine Wo_mono (copyA_c hS (by omega)) ?_
  rintro μ1 ⟨k1, k2⟩
  refine lp0 (fun n' x s => fX11_daysTillNothing_l13 (nI h) (nI c) n' x s) 201 (by omega) (fun i s => SR s 26 (kp w) (sD1s w none h i R) ∧ KC μ s ∧ ff (fun d => sD1s w none h d R (6 * (c - 1) + h)) (201 - i) i = V) _ μ1 ⟨k2.1, k1, hv⟩ ?_ ?_
  · rintro n' i s hi ⟨i1, i2, i3⟩ hrec
    show Wo (fX11_daysTillNothing_s13 _ _ _ _ _) _
    unfold fX11_daysTillNothing_s13
    rw [if_neg (by simp (disch := omega) only [L_add, L_add2, L_mul, L_mul2, L_sub, nI_add, pk_mul, pk_sub, L_le, L_le2, L_lt, L_lt2, L_eq, L_eq2, nI_leI, nI_ltI, nI_eq, nI_clamp, ix_nI, ix_lit, L_cl]; omega), get_k i1 (by omega) hc, b1_some]
    have hQ' := QC_KC hQ i2
    by_cases hz : sD1s w none h i R (6 * (c - 1) + h) = 0
    · rw [if_pos hz, Wo_some]
      exact ⟨by rw [← i3]; exact (ff_z hi hz).symm, i2⟩
    · rw [if_neg hz, Wo_b1]
      refine Wo_mono (passHouse_c hQ' (by omega) i1 (RG_D1s hK hR (by omega) none i) (by omega)) ?_
      rintro μ2 ⟨j1, j2, j3⟩
      rw [bd_eq, nI_1]
      refine hrec _ ⟨?_, KC_tr i2 (KC_tr (Fs_KC j2) (KC_up (by omega))), by rw [← i3]; exact (ff_n hi hz).symm⟩
      rw [j1.2.2]
      have := SR_day j1 (sP w (sD1s w none h i R) h 36 + 1)
      rw [sP_ne (by omega) (by omega) (by omega)] at this ⊢
      exact this
  · rintro n' s ⟨i1, i2, i3⟩
    show Wo (fX11_daysTillNothing_s13 _ _ _ _ _) _
    unfold fX11_daysTillNothing_s13
    rw [if_pos (by simp (disch := omega) only [L_add, L_add2, L_mul, L_mul2, L_sub, nI_add, pk_mul, pk_sub, L_le, L_le2, L_lt, L_lt2, L_eq, L_eq2, nI_leI, nI_ltI, nI_eq, nI_clamp, ix_nI, ix_lit, L_cl]; omega), Wo_some]
    exact ⟨i3, i2⟩
theorem till_m {w : Kw} {L k : Nat} {ν : Mem} {R : Rw} (hQ : QL w L ν) (hN : NR ν R) (hk : k < 39) : Wo (fX12_behindNone (nI k) ν) (fun p => p.1 = ff (fun d => sDays w none d R k) 201 0 ∧ Fc ν p.2) := by
  generalize hv : ff (fun d => sDays w none d R k) 201 0 = V
  unfold fX12_behindNone
  rw [Wo_b1]
  refine Wo_mono (copiesStill_s hQ hN) ?_
  rintro μ1 ⟨k1, k2, k3⟩
  refine lp0 (fun n' x s => fX12_behindNone_l6 (nI k) n' x s) 201 (by omega) (fun i s => MR s (sDays w none i R) ∧ Fc ν s ∧ s.1 0 50 = 1 ∧ ff (fun d => sDays w none d R k) (201 - i) i = V) _ μ1 ⟨k1, k2, k3, hv⟩ ?_ ?_
  · rintro n' i s hi ⟨i1, i2, i3, i4⟩ hrec
    show Wo (fX12_behindNone_s6 _ _ _ _) _
    unfold fX12_behindNone_s6
    rw [if_neg (by simp (disch := omega) only [L_add, L_add2, L_mul, L_mul2, L_sub, nI_add, pk_mul, pk_sub, L_le, L_le2, L_lt, L_lt2, L_eq, L_eq2, nI_leI, nI_ltI, nI_eq, nI_clamp, ix_nI, ix_lit, L_cl]; omega), ix_nI hk (by omega), gd_true, nI_clamp (by omega), i1 k hk]
    by_cases hz : sDays w none i R k = 0
    · rw [if_pos hz, Wo_some]
      exact ⟨by rw [← i4]; exact (ff_z hi hz).symm, i2⟩
    · rw [if_neg hz, Wo_b1]
      refine Wo_mono (dayGoes_m (st := none) (QL_Fc hQ i2) i1 (Or.inl ⟨i3, rfl⟩)) ?_
      rintro μ2 ⟨j1, j2⟩
      rw [nI_1]
      exact hrec _ ⟨j1, Fc_tr i2 (Fm_Fc j2), by rw [j2.2.1 50 (by omega)]; exact i3, by rw [← i4]; exact (ff_n hi hz).symm⟩
  · rintro n' s ⟨i1, i2, i3, i4⟩
    show Wo (fX12_behindNone_s6 _ _ _ _) _
    unfold fX12_behindNone_s6
    rw [if_pos (by simp (disch := omega) only [L_add, L_add2, L_mul, L_mul2, L_sub, nI_add, pk_mul, pk_sub, L_le, L_le2, L_lt, L_lt2, L_eq, L_eq2, nI_leI, nI_ltI, nI_eq, nI_clamp, ix_nI, ix_lit, L_cl]; omega), Wo_some]
    exact ⟨i4, i2⟩
theorem r_gone {μ ν : Mem} (h : REL μ ν) (z0 : Int32) : ∃ (r : Int32) (μ' : Mem) (ν' : Mem), fX11_gone z0 μ = some (r, μ') ∧ fX12_gone z0 ν = some (r, ν') ∧ REL μ' ν' := by
  have h' := h
  obtain ⟨w, L, R, a1, a2, a3, a4, a5, a6, a7, a8, a9, a10, a11, a12⟩ := h'
  have hn := a2.1
  unfold fX11_gone fX12_gone
  rcases house_cases a2 a3 z0 with ⟨e1, e2⟩ | ⟨k, hk, rfl, e1, e2⟩
  · rw [e1, e2, b1_some, b1_some, if_pos rfl, if_pos rfl]; exact ⟨_, _, _, rfl, rfl, h⟩
  · rw [e1, e2, b1_some, b1_some, if_neg n10, if_neg n10, L_add2]
    refine rel_of h (ff (fun d => sDays w none d R (12 + k)) 201 0) ?_ ?_
    · rw [Wo_b2]; exact Wo_mono (till_c (c := 3) a1.1 a2 a5 a4.1 hk (by omega)) (fun p hp => by rw [Wo_some]; exact hp)
    · rw [Wo_b2]; exact Wo_mono (till_m a3 a6 (by omega)) (fun p hp => by rw [Wo_some]; exact hp)
theorem r_cold {μ ν : Mem} (h : REL μ ν) (z0 : Int32) : ∃ (r : Int32) (μ' : Mem) (ν' : Mem), fX11_cold z0 μ = some (r, μ') ∧ fX12_cold z0 ν = some (r, ν') ∧ REL μ' ν' := by
  have h' := h
  obtain ⟨w, L, R, a1, a2, a3, a4, a5, a6, a7, a8, a9, a10, a11, a12⟩ := h'
  have hn := a2.1
  unfold fX11_cold fX12_cold
  rcases house_cases a2 a3 z0 with ⟨e1, e2⟩ | ⟨k, hk, rfl, e1, e2⟩
  · rw [e1, e2, b1_some, b1_some, if_pos rfl, if_pos rfl]; exact ⟨_, _, _, rfl, rfl, h⟩
  · rw [e1, e2, b1_some, b1_some, if_neg n10, if_neg n10, L_add2]
    refine rel_of h (ff (fun d => sDays w none d R (6 + k)) 201 0) ?_ ?_
    · rw [Wo_b2]; exact Wo_mono (till_c (c := 2) a1.1 a2 a5 a4.1 hk (by omega)) (fun p hp => by rw [Wo_some]; exact hp)
    · rw [Wo_b2]; exact Wo_mono (till_m a3 a6 (by omega)) (fun p hp => by rw [Wo_some]; exact hp)
theorem ahead_c {w : Kw} {μ : Mem} {R : Rw} {h n : Nat} {sd : Int32} (hK : KW w) (hQ : QC w μ) (hS : SF μ 24 (kp w) R) (hR : RG w R) (hh : h < kn w) (hn : n ≤ 60) : Wo (fX11_lookAhead (nI h) (nI n) sd μ) (fun μ' => SR μ' 26 (kp w) (sD1s w (some sd) h n R) ∧ KC μ μ') := by
  have hn6 := hQ.1
  unfold fX11_lookAhead
  rw [Wo_b1]
  refine Wo_mono (copyA_c hS (by omega)) ?_
  rintro μ1 ⟨k1, k2⟩
  refine lp0 (fun n' x s => fX11_lookAhead_l14 (nI h) (nI n) sd n' x s) n (by omega) (fun i s => SR s 26 (kp w) (sD1s w (some sd) h i R) ∧ KC μ s) _ μ1 ⟨k2.1, k1⟩ ?_ ?_
  · rintro n' i s hi ⟨i1, i2⟩ hrec
    show Wo (fX11_lookAhead_s14 _ _ _ _ _ _) _
    unfold fX11_lookAhead_s14
    have hQ' := QC_KC hQ i2
    rw [if_neg (by simp (disch := omega) only [L_add, L_add2, L_mul, L_mul2, L_sub, nI_add, pk_mul, pk_sub, L_le, L_le2, L_lt, L_lt2, L_eq, L_eq2, nI_leI, nI_ltI, nI_eq, nI_clamp, ix_nI, ix_lit, L_cl]; omega), Wo_b1]
    refine Wo_mono (passHouse_c hQ' (by omega) i1 (RG_D1s hK hR (by omega) _ i) (by omega)) ?_
    rintro μ2 ⟨j1, j2, j3⟩
    have h36 : sP w (sD1s w (some sd) h i R) h 36 = sD1s w (some sd) h i R 36 := sP_ne (by omega) (by omega) (by omega)
    rw [struck_c (QC_KC hQ' (Fs_KC j2)), b1_some, j1.2.2, h36]
    have hfin : ∀ (s' : Mem) (R' : Rw), SR s' 26 (kp w) R' → R' 36 = sD1s w (some sd) h i R 36 → KC μ s' → sD1s w (some sd) h (i + 1) R = upd R' 36 (sD1s w (some sd) h i R 36 + 1) → Wo (fX11_lookAhead_b63 (fX11_lookAhead_l14 (nI h) (nI n) sd n') (nI h) (nI n) sd (nI i) s') (fun μ' => SR μ' 26 (kp w) (sD1s w (some sd) h n R) ∧ KC μ μ') := by
      intro s' R' b1 b2 b3 b4
      unfold fX11_lookAhead_b63
      rw [bd_eq, nI_1, b1.2.2, b2]
      refine hrec _ ⟨?_, KC_tr b3 (KC_up (by omega))⟩
      rw [b4]
      exact SR_day b1 _
    cases e3 : sK w sd (sD1s w (some sd) h i R 36) with
    | none =>
      rw [if_neg]
      · refine hfin μ2 _ j1 h36 (KC_tr i2 (Fs_KC j2)) ?_
        show upd (if sK w sd (sD1s w (some sd) h i R 36) = some h then _ else _) _ _ = _
        rw [e3, if_neg (by intro h; cases h)]
      · intro hx
        have := nI_pos (n := h) (by omega)
        rw [← hx] at this
        exact this (by decide)
    | some h' =>
      have hl := (sK_lt hn6 e3).1
      by_cases he : h' = h
      · subst he
        rw [if_pos rfl, Wo_b1]
        refine Wo_mono (breakPane_c j1 (by omega)) ?_
        rintro μ3 ⟨l1, l2, l3⟩
        refine hfin μ3 _ l1 ?_ (KC_tr i2 (KC_tr (Fs_KC j2) (Fs_KC l2))) ?_
        · unfold sBk
          split
          · exact h36
          · rw [pk_un (by omega)]; exact h36
        · show upd (if sK w sd (sD1s w (some sd) h' i R 36) = some h' then _ else _) _ _ = _
          rw [e3, if_pos rfl]
      · rw [if_neg]
        · refine hfin μ2 _ j1 h36 (KC_tr i2 (Fs_KC j2)) ?_
          show upd (if sK w sd (sD1s w (some sd) h i R 36) = some h then _ else _) _ _ = _
          rw [e3, if_neg (by intro hx; cases hx; exact he rfl)]
        · show ¬ nI h' = nI h
          rw [nI_eq (by omega) (by omega)]; exact he
  · rintro n' s hI
    show Wo (fX11_lookAhead_s14 _ _ _ _ _ _) _
    unfold fX11_lookAhead_s14
    rw [if_pos (by simp (disch := omega) only [L_add, L_add2, L_mul, L_mul2, L_sub, nI_add, pk_mul, pk_sub, L_le, L_le2, L_lt, L_lt2, L_eq, L_eq2, nI_leI, nI_ltI, nI_eq, nI_clamp, ix_nI, ix_lit, L_cl]; omega), Wo_some]
    exact hI
