theorem tenth {v : Int32} (h0 : 0 ≤ v) (h1 : v ≤ 999) : 0 ≤ v / 10 ∧ v / 10 ≤ 99 ∧ v / 10 ≤ v := by
  obtain ⟨m, hm, rfl⟩ := nI_of (show ¬ v < 0 by grind)
  rw [L_le2 (by omega) (by omega)] at h1
  rw [show (10 : Int32) = nI 10 from rfl, pk_div (by omega) (by omega) (by omega)]
  refine ⟨nI_pos' (by omega), ?_, ?_⟩
  · rw [L_le2 (by omega) (by omega)]; omega
  · rw [nI_leI (by omega) (by omega)]; omega
theorem cut_r1 {a t : Int32} (h1 : 0 ≤ a ∧ a ≤ 999) (h2 : 0 ≤ t ∧ t ≤ 99 ∧ t ≤ a) : 0 ≤ a - t ∧ a - t ≤ 999 := by grind
theorem cut_r2 {a t : Int32} (h1 : 0 ≤ a ∧ a ≤ 999) (h2 : 0 ≤ t ∧ t ≤ 99) : jmin 999 (a + t) = cl 0 999 (a + t) := by unfold jmin cl; grind
def sCut (h o : Nat) (R : Rw) : Rw := upd (upd (upd R (12 + h) (R (12 + h) - R (12 + h) / 10)) (12 + o) (cl 0 999 (R (12 + o) + R (12 + h) / 10))) (24 + o) (R (24 + o) + 1)
theorem leaf_sum {R : Rw} {o : Nat} (ho : o < 6) (v : Int32) (hv : v = R (24 + o) + 1) (s : Int32) (hs : s = R 24 + R 25 + R 26 + R 27 + R 28 + R 29) : s + 1 = upd R (24 + o) v 24 + upd R (24 + o) v 25 + upd R (24 + o) v 26 + upd R (24 + o) v 27 + upd R (24 + o) v 28 + upd R (24 + o) v 29 := by
  subst hs hv
  simp only [upd_ap]
  match o, ho with
  | 0, _ => simp; grind
  | 1, _ => simp; grind
  | 2, _ => simp; grind
  | 3, _ => simp; grind
  | 4, _ => simp; grind
  | 5, _ => simp; grind
theorem GS_cut {w : Kw} {R : Rw} {h o : Nat} (hG : GS w R) (hn : kn w ≤ 6) (hh : h < kn w) (ho : o < kn w) (hne : h ≠ o) : GS w (sCut h o R) := by
  have h1 := (hG.1 h (by omega)).2.1
  have h2 := tenth h1.1 h1.2
  have h3 := @cl_rng 999 (R (12 + o) + R (12 + h) / 10) (by decide)
  unfold sCut
  refine ⟨?_, ?_, ?_⟩
  · intro h' hh'
    have := hG.1 h' hh'
    by_cases e : h' = h
    · subst e; simp (disch := omega) only [pk_un, pk_us]; exact ⟨this.1, cut_r1 h1 h2, this.2.2⟩
    · by_cases e2 : h' = o
      · subst e2; simp (disch := omega) only [pk_un, pk_us]; exact ⟨this.1, h3, this.2.2⟩
      · simp (disch := omega) only [pk_un, pk_us]; exact this
  · simp (disch := omega) only [pk_un]; exact hG.2.1
  · intro h' a b; simp (disch := omega) only [pk_un]; exact hG.2.2 h' a b
theorem r_cut {μ ν : Mem} (h : REL μ ν) (z0 : Int32) (z1 : Int32) : ∃ (r : Int32) (μ' : Mem) (ν' : Mem), fX11_cut z0 z1 μ = some (r, μ') ∧ fX12_cut z0 z1 ν = some (r, ν') ∧ REL μ' ν' := by
  have h' := h
  obtain ⟨w, L, R, a1, a2, a3, a4, a5, a6, a7, a8, a9, a10, a11, a12⟩ := h'
  have hn := a2.1
  unfold fX11_cut fX12_cut
  rcases house_cases a2 a3 z0 with ⟨e1, e2⟩ | ⟨k, hk, rfl, e1, e2⟩
  · rw [e1, e2, b1_some, b1_some, if_pos rfl, if_pos rfl]; exact ⟨_, _, _, rfl, rfl, h⟩
  · rw [e1, e2, b1_some, b1_some, if_neg n10, if_neg n10]
    rcases house_cases a2 a3 z1 with ⟨f1, f2⟩ | ⟨o, ho, rfl, f1, f2⟩
    · rw [f1, f2, b1_some, b1_some, if_pos rfl, if_pos rfl]; exact ⟨_, _, _, rfl, rfl, h⟩
    · rw [f1, f2, b1_some, b1_some, if_neg n10, if_neg n10]
      by_cases hc : nI k = nI o
      · rw [if_pos hc, if_pos hc]; exact ⟨_, _, _, rfl, rfl, h⟩
      · rw [if_neg hc, if_neg hc]
        rw [nI_eq (by omega) (by omega)] at hc
        have r1 := (a4.1 k (by omega)).2.1
        have r2 := tenth r1.1 r1.2
        have r3 := (a4.1 o (by omega)).2.1
        have he : jmin 999 (R (12 + o) + R (12 + k) / 10) = cl 0 999 (R (12 + o) + R (12 + k) / 10) := cut_r2 r3 ⟨r2.1, r2.2.1⟩
        refine mut_of a1 a2 a3 a4 a7 a8 a9 a10 a11 a12 (R (12 + k) / 10) (sCut k o R) (GS_cut a4 hn hk ho hc) ?_ ?_
        · intro hs hl hc1
          rw [Wo_b1]
          refine Wo_mono (push_c a5 hl hc1) ?_
          rintro μ1 ⟨h1, h2, h3⟩
          have hS1 : SF μ1 24 (kp w) R := SF_fr a5 (h2 24 (by omega)) (h2 25 (by omega))
          have hS2 := SF_cell (c := 3) hS1 (show k < 6 by omega) (by omega) (by omega) (by omega) (R (12 + k) - R (12 + k) / 10)
          have hS3 := SF_cell (c := 3) hS2 (show o < 6 by omega) (by omega) (by omega) (by omega) (jmin 999 (R (12 + o) + R (12 + k) / 10))
          have hS4 := SR_cell (c := 5) hS3.1 (show o < 6 by omega) (by omega) (by omega) (R (24 + o) + 1)
          have g2 := get_3 hS2.1 (show o < 6 by omega)
          rw [pk_un (by omega)] at g2
          have g3 := get_5 hS3.1 (show o < 6 by omega)
          rw [pk_un (by omega), pk_un (by omega)] at g3
          rw [get_3 hS1.1 (by omega), b1_some, bd_eq, set_3 (by omega), b1_some, g2, b1_some, set_3 (by omega), b1_some, g3, b1_some, set_5 (by omega), b1_some, bd_eq, Wo_some]
          refine ⟨rfl, ⟨?_, ?_, ?_, ?_⟩, HC_fr h1 (fun j _ _ => by simp (disch := omega) only [rd_Ii]), ?_, h3⟩
          · rw [he] at hS4 ⊢
            exact SR_obj hS4 (by omega) _
          · unfold sCut; simp (disch := omega) only [rd_Ik, rd_Ii, pk_un]; exact hS1.2.1
          · unfold sCut; simp (disch := omega) only [rd_Ik, rd_Ii, pk_un]; exact hS1.2.2.1
          · unfold sCut
            dsimp only
            rw [rd_Is]
            refine leaf_sum (by omega) _ ?_ _ ?_
            · rw [pk_un (by omega), pk_un (by omega)]
            · simp (disch := omega) only [rd_Ik, rd_Ii, pk_un]; exact hS1.2.2.2
          · intro j a b
            dsimp only
            simp (disch := omega) only [rd_Ii]; exact h2 j b
        · intro hs hH
          refine mutm a3 a6 hH _ _ (fun s m1 m2 m3 m4 m5 m6 m7 => ?_)
          simp (disch := omega) only [L_add2, ix_nI, gd_true, nI_clamp, bd_eq, cl_within, b1_some, rd_Ik, m1 (12 + k), m1 (12 + o), m1 (24 + o)]
          exact mutr (MR_up (MR_up (MR_up m1 _ _) _ _) _ _) (NR_fr m3 (by simp (disch := omega) only [rd_Ii])) (HM_fr m4 (by simp (disch := omega) only [rd_Ii]) (by simp (disch := omega) only [rd_Ii])) (Fc_tr m2 (Fc_tr (Fc_up (by omega)) (Fc_tr (Fc_up (by omega)) (Fc_up (by omega))))) _ _ (fun s' hs' => rfl)
theorem sDay_ne {w : Kw} {st : Option Int32} {R : Rw} {k : Nat} (hn : kn w ≤ 6) (h : ∀ h, h < kn w → k ≠ 12 + h ∧ k ≠ 6 + h ∧ k ≠ 30 + h) (hk : 6 ≤ k) (h36 : k ≠ 36) : sDay w st R k = R k := by
  unfold sDay
  cases st with
  | none => show upd _ _ _ k = _; rw [pk_un h36]; exact sPs_ne h
  | some s => show upd _ _ _ k = _; rw [pk_un h36, sH_36 hn hk]; exact sPs_ne h
theorem sDays_ne {w : Kw} {st : Option Int32} {R : Rw} {k n : Nat} (hn : kn w ≤ 6) (h : ∀ h, h < kn w → k ≠ 12 + h ∧ k ≠ 6 + h ∧ k ≠ 30 + h) (hk : 6 ≤ k) (h36 : k ≠ 36) : sDays w st n R k = R k := by
  induction n with
  | zero => rfl
  | succ n ih => exact (sDay_ne hn h hk h36).trans ih
theorem GS_days {w : Kw} {R : Rw} (hK : KW w) (h : GS w R) (st : Option Int32) (n : Nat) : GS w (sDays w st n R) := by
  refine ⟨RG_Days hK h.1 st n, ?_, ?_⟩
  · rw [sDays_ne hK.1 (fun h _ => by have := hK.1; omega) (by omega) (by omega)]; exact h.2.1
  · intro h' a b
    rw [sDays_ne hK.1 (fun h _ => by have := hK.1; omega) (by omega) (by omega)]; exact h.2.2 h' a b
theorem days_c {w : Kw} {μ : Mem} {R : Rw} {n : Nat} (hK : KW w) (hQ : QC w μ) (hS : SF μ 24 (kp w) R) (hR : RG w R) (hn : n ≤ 60) : Wo (fX11_days_b27 (nI n) μ) (fun p => p.1 = sDays w (some (kseed w)) n R 36 ∧ SF p.2 24 (kp w) (sDays w (some (kseed w)) n R) ∧ Fs 24 μ p.2) := by
  unfold fX11_days_b27
  have hn6 := hQ.1
  refine lp0 (σ := Mem) (fun n' x s => fX11_days_l29 (nI n) n' x s) n (by omega) (fun i s => SF s 24 (kp w) (sDays w (some (kseed w)) i R) ∧ Fs 24 μ s) _ μ ⟨hS, Fs_rfl⟩ ?_ ?_
  · rintro n' i s hi ⟨i1, i2⟩ hrec
    show Wo (fX11_days_s29 _ _ _ _) _
    unfold fX11_days_s29
    have hQ1 := QC_Fs hQ (by omega) i2
    rw [if_neg (by simp (disch := omega) only [L_add, L_add2, L_mul, L_mul2, L_sub, nI_add, pk_mul, pk_sub, L_le, L_le2, L_lt, L_lt2, L_eq, L_eq2, nI_leI, nI_ltI, nI_eq, nI_clamp, ix_nI, ix_lit, L_cl]; omega), Wo_b1]
    refine Wo_mono (passDay_c hQ1 (by omega) i1.1 (RG_Days hK hR _ i)) ?_
    rintro μ1 ⟨j1, j2, j3⟩
    rw [Wo_b1]
    refine Wo_mono (hailOn_c (QC_Fs hQ1 (by omega) j2) j1) ?_
    rintro μ2 ⟨l1, l2, l3⟩
    have h36 : sH w (kseed w) (sPs w (kn w) (sDays w (some (kseed w)) i R)) 36 = sDays w (some (kseed w)) i R 36 := (sH_36 hn6 (by omega)).trans (sPs_ne (fun _ _ => by omega))
    rw [bd_eq, nI_1, l1.2.2, h36]
    refine hrec _ ⟨⟨SR_day l1 _, ?_⟩, Fs_tr i2 (Fs_tr j2 (Fs_tr l2 Fs_obj))⟩
    have e : ∀ k, (k = 37 ∨ k = 38 ∨ (24 ≤ k ∧ k < 30)) → sDays w (some (kseed w)) (i + 1) R k = sDays w (some (kseed w)) i R k := fun k hk => sDay_ne hn6 (fun _ _ => by omega) (by omega) (by omega)
    rw [e 37 (by omega), e 38 (by omega), e 24 (by omega), e 25 (by omega), e 26 (by omega), e 27 (by omega), e 28 (by omega), e 29 (by omega)]
    simp (disch := omega) only [rd_Ik]
    rw [l3, j3]
    exact i1.2
  · rintro n' s ⟨i1, i2⟩
    show Wo (fX11_days_s29 _ _ _ _) _
    unfold fX11_days_s29
    rw [if_pos (by simp (disch := omega) only [L_add, L_add2, L_mul, L_mul2, L_sub, nI_add, pk_mul, pk_sub, L_le, L_le2, L_lt, L_lt2, L_eq, L_eq2, nI_leI, nI_ltI, nI_eq, nI_clamp, ix_nI, ix_lit, L_cl]; omega), Wo_some]
    exact ⟨i1.1.2.2, i1, i2⟩
theorem r_days {μ ν : Mem} (h : REL μ ν) (z0 : Int32) : ∃ (r : Int32) (μ' : Mem) (ν' : Mem), fX11_days z0 μ = some (r, μ') ∧ fX12_days z0 ν = some (r, ν') ∧ REL μ' ν' := by
  have h' := h
  obtain ⟨w, L, R, a1, a2, a3, a4, a5, a6, a7, a8, a9, a10, a11, a12⟩ := h'
  have hn := a2.1
  unfold fX11_days fX12_days
  rw [isLong_m, b1_some]
  by_cases c0 : z0 < 0
  · rw [if_pos c0, if_pos (Or.inl c0), if_pos rfl]; exact ⟨_, _, _, rfl, rfl, h⟩
  · rw [if_neg c0]
    by_cases c1 : z0 ≤ 60
    · rw [if_pos c1, if_neg (show ¬ (z0 < 0 ∨ 60 < z0) by grind), if_neg n10]
      obtain ⟨n, hn1, rfl⟩ := nI_of c0
      rw [L_le2 (by omega) (by omega)] at c1
      by_cases c2 : n = 0
      · subst c2
        rw [if_pos (by decide), if_pos nI_0]
        refine ⟨R 36, μ, ν, ?_, by rw [a6 36 (by omega)], h⟩
        unfold fX11_days_b27 FU
        show fX11_days_s29 _ _ _ _ = _
        unfold fX11_days_s29
        rw [if_pos (by decide), a5.1.2.2]
      · rw [if_neg (by simp (disch := omega) only [L_add, L_add2, L_mul, L_mul2, L_sub, nI_add, pk_mul, pk_sub, L_le, L_le2, L_lt, L_lt2, L_eq, L_eq2, nI_leI, nI_ltI, nI_eq, nI_clamp, ix_nI, ix_lit, L_cl]; omega), if_neg (by simp (disch := omega) only [L_add, L_add2, L_mul, L_mul2, L_sub, nI_add, pk_mul, pk_sub, L_le, L_le2, L_lt, L_lt2, L_eq, L_eq2, nI_leI, nI_ltI, nI_eq, nI_clamp, ix_nI, ix_lit, L_cl]; omega)]
        refine mut_of a1 a2 a3 a4 a7 a8 a9 a10 a11 a12 (sDays w (some (kseed w)) n R 36) _ (GS_days a1.1 a4 (some (kseed w)) n) ?_ ?_
        · intro hs hl hc
          rw [Wo_b1]
          refine Wo_mono (push_c a5 hl hc) ?_
          rintro μ1 ⟨h1, h2, h3⟩
          have hS1 : SF μ1 24 (kp w) R := SF_fr a5 (h2 24 (by omega)) (h2 25 (by omega))
          have hQ1 : QC w μ1 := QC_fr a2 (fun j _ _ => h2 j (by omega))
          refine Wo_mono (days_c a1.1 hQ1 hS1 a4.1 c1) ?_
          rintro ⟨r, μ2⟩ ⟨k1, k2, k3⟩
          dsimp only at k1 k2 k3 ⊢
          refine ⟨k1, k2, HC_fr h1 (fun j _ _ => k3.1 j (by omega) (by omega) (by omega)), ?_, k3.2.trans h3⟩
          intro j a b
          rw [k3.1 j (by omega) (by omega) (by omega)]; exact h2 j b
        · intro hs hH
          refine mutm a3 a6 hH _ _ (fun s m1 m2 m3 m4 m5 m6 m7 => ?_)
          rw [Wo_b1]
          refine Wo_mono (goes_m (st := some (kseed w)) m5 m1 (Or.inr ⟨m7, by rw [m6]⟩) (by omega)) ?_
          rintro s1 ⟨k1, k2⟩
          exact mutr k1 (NR_Fm m3 k2) (HM_Fm m4 k2) (Fc_tr m2 (Fm_Fc k2)) _ _ (fun s' hs' => by rw [hs' 36 (by omega)])
    · rw [if_neg c1, if_pos (show z0 < 0 ∨ 60 < z0 by grind), if_pos rfl]; exact ⟨_, _, _, rfl, rfl, h⟩
