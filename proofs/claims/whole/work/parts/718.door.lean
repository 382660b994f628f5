theorem RG_open {w : Kw} {R : Rw} (hR : RG w R) {h : Nat} (hh : h < 6) {v : Int32} (hv : v = 0 ∨ v = 1) : RG w (upd R (18 + h) v) := by
  intro h' hh'
  have := hR h' hh'
  by_cases e : h' = h
  · subst e; simp (disch := omega) only [pk_un, pk_us]; exact ⟨this.1, this.2.1, hv, this.2.2.2⟩
  · simp (disch := omega) only [pk_un]; exact this
theorem SF_cell {μ : Mem} {q h c : Nat} {pan R : Rw} (hS : SF μ q pan R) (hh : h < 6) (h1 : 1 ≤ c) (h7 : c < 7) (h5 : c ≠ 5) (v : Int32) : SF (upI μ (q + 1) (7 * h + c) v) q pan (upd R (6 * (c - 1) + h) v) := by
  refine ⟨SR_cell hS.1 hh h1 h7 v, ?_⟩
  simp (disch := omega) only [rd_Ii, pk_un]
  exact hS.2
theorem door_c {w : Kw} {μ : Mem} {R : Rw} {h : Nat} {v : Int32} {hs : List Rw} (hS : SF μ 24 (kp w) R) (hh : h < 6) (hl : hs.length ≤ 40) (hc : HC μ (kp w) hs) : Wo (b1 (fX0_push 24 μ) (fun μ6 => b1 (fX7_set 24 (nI h) 4 v μ6) (fun μ8 => some ((1 : Int32), μ8)))) (fun p => p.1 = 1 ∧ SF p.2 24 (kp w) (upd R (18 + h) v) ∧ HC p.2 (kp w) (psh R hs) ∧ (∀ j, ¬ (23 ≤ j ∧ j ≤ 25) → ¬ (30 ≤ j ∧ j ≤ 111) → p.2.1 j = μ.1 j) ∧ p.2.2 = μ.2) := by
  rw [Wo_b1]
  refine Wo_mono (push_c hS hl hc) ?_
  rintro μ1 ⟨h1, h2, h3⟩
  have hS1 : SF μ1 24 (kp w) R := SF_fr hS (h2 24 (by omega)) (h2 25 (by omega))
  rw [set_4 hh, b1_some, Wo_some]
  refine ⟨rfl, SF_cell (c := 4) hS1 hh (by omega) (by omega) (by omega) v, HC_fr h1 (fun j _ _ => rd_Ii (by omega)), ?_, h3⟩
  intro j a b
  dsimp only
  rw [rd_Ii (by omega)]; exact h2 j b
theorem door_m {w : Kw} {L : Nat} {ν : Mem} {R : Rw} {h : Nat} {v : Int32} {hs : List Rw} (hQ : QL w L ν) (hN : NR ν R) (hh : h < 6) (hH : HM ν hs) (K : Mem → Option (Int32 × Mem)) (hK : ∀ s : Mem, K s = gd (ix (18 + nI h) 39) (bd (upI s 32 ((18 + nI h).toNatClampNeg) v) (fun μ7 => b1 (fX12_records μ7) (fun μ10 => some (1, μ10))))) : Wo (b1 (fX12_copies ν) K) (fun p => p.1 = 1 ∧ NR p.2 (upd R (18 + h) v) ∧ HM p.2 (psh R hs) ∧ (∀ j, j ≠ 0 → ¬ (29 ≤ j ∧ j ≤ 43) → p.2.1 j = ν.1 j) ∧ (∀ k, ¬ (46 ≤ k ∧ k ≤ 50) → k ≠ 53 → p.2.1 0 k = ν.1 0 k) ∧ p.2.2 = ν.2) := by
  refine mutm hQ hN hH _ _ (fun s m1 m2 m3 m4 m5 m6 m7 => ?_)
  rw [hK]
  rw [L_add2, ix_nI (by omega) (by omega), gd_true, nI_clamp (by omega), bd_eq]
  exact mutr (MR_up m1 _ _) (NR_fr m3 (rd_Ii (by omega))) (HM_fr m4 (rd_Ii (by omega)) (by rw [rd_Ii (by omega)])) (Fc_tr m2 (Fc_up (by omega))) _ _ (fun s' hs' => rfl)
theorem r_door {μ ν : Mem} (h : REL μ ν) (z0 : Int32) (z1 : Int32) (hz1 : z1 = 0 ∨ z1 = 1) : ∃ (r : Int32) (μ' : Mem) (ν' : Mem), fX11_door z0 z1 μ = some (r, μ') ∧ fX12_door z0 z1 ν = some (r, ν') ∧ REL μ' ν' := by
  have h' := h
  obtain ⟨w, L, R, a1, a2, a3, a4, a5, a6, a7, a8, a9, a10, a11, a12⟩ := h'
  have hn := a2.1
  have e0 : fX11_door z0 z1 μ = fX11_door_b9 z0 z1 μ := by
    unfold fX11_door
    rcases hz1 with rfl | rfl
    · rw [if_pos rfl]
    · rw [if_neg n10]
  rw [e0]
  unfold fX11_door_b9 fX12_door
  rcases house_cases a2 a3 z0 with ⟨e1, e2⟩ | ⟨k, hk, rfl, e1, e2⟩
  · rw [e1, e2, b1_some, b1_some, if_pos rfl, if_pos rfl]; exact ⟨_, _, _, rfl, rfl, h⟩
  · rw [e1, e2, b1_some, b1_some, if_neg n10, if_neg n10, get_4 a5.1 (by omega), b1_some]
    have e3 : (if ν.1 31 ((18 + nI k).toNatClampNeg) = 1 then fX12_door_b26 (nI k) z1 1 ν else fX12_door_b26 (nI k) z1 0 ν) = fX12_door_b26 (nI k) z1 (R (18 + k)) ν := by
      rw [L_add2, nI_clamp (by omega), a6 _ (by omega)]
      rcases (a4.1 k (by omega)).2.2.1 with hx | hx <;> rw [hx]
      · rw [if_neg (by decide)]
      · rw [if_pos rfl]
    rw [e3, L_add2, ix_nI (by omega) (by omega), gd_true]
    unfold fX12_door_b26
    by_cases hc : R (18 + k) = z1
    · rw [if_pos hc, if_pos hc]; exact ⟨_, _, _, rfl, rfl, h⟩
    · rw [if_neg hc, if_neg hc]
      have hG : GS w (upd R (18 + k) z1) := ⟨RG_open a4.1 (by omega) hz1, by rw [pk_un (by omega)]; exact a4.2.1, fun h1 b1 b2 => by rw [pk_un (by omega)]; exact a4.2.2 h1 b1 b2⟩
      refine mut_of a1 a2 a3 a4 a7 a8 a9 a10 a11 a12 1 _ hG ?_ ?_
      · intro hs hl hc
        exact door_c a5 (by omega) hl hc
      · intro hs hH
        refine door_m a3 a6 (by omega) hH _ (fun s => ?_)
        rcases hz1 with rfl | rfl
        · rw [if_pos rfl]
        · rw [if_neg n10]
theorem r_mend {μ ν : Mem} (h : REL μ ν) (z0 : Int32) : ∃ (r : Int32) (μ' : Mem) (ν' : Mem), fX11_mend z0 μ = some (r, μ') ∧ fX12_mend z0 ν = some (r, ν') ∧ REL μ' ν' := by
  have h' := h
  obtain ⟨w, L, R, a1, a2, a3, a4, a5, a6, a7, a8, a9, a10, a11, a12⟩ := h'
  have hn := a2.1
  rcases house_cases a2 a3 z0 with ⟨e1, e2⟩ | ⟨k, hk, rfl, e1, e2⟩
  · unfold fX11_mend fX12_mend
    rw [e1, e2, b1_some, b1_some, if_pos rfl, if_pos rfl]; exact ⟨_, _, _, rfl, rfl, h⟩
  · have hb := (a4.1 k (by omega)).2.2.2
    have hM := @cl_rng 99 (kLV w 3 (HV (kp w) R k)) (by decide)
    by_cases c0 : 1 ≤ R k
    · by_cases c1 : sM w R k ≤ R 37
      · have hG : GS w (upd (upd R k (R k - 1)) 37 (R 37 - sM w R k)) := by
          refine ⟨RG_big ?_ (by omega) _, ?_, ?_⟩
          · intro h1 b1
            have := a4.1 h1 b1
            by_cases e : h1 = k
            · subst e; simp (disch := omega) only [pk_un, pk_us]; refine ⟨this.1, this.2.1, this.2.2.1, ?_⟩; grind
            · simp (disch := omega) only [pk_un]; exact this
          · rw [pk_us]; have := a4.2.1; unfold sM at c1 ⊢; grind
          · intro h1 b1 b2; rw [pk_un (by omega), pk_un (by omega)]; exact a4.2.2 h1 b1 b2
        refine mut_of a1 a2 a3 a4 a7 a8 a9 a10 a11 a12 (sM w R k) _ hG ?_ ?_
        · intro hs hl hc
          unfold fX11_mend
          rw [e1, b1_some, if_neg n10, get_1 a5.1 (by omega), b1_some, if_pos c0, Wo_b2]
          refine Wo_mono (mends_c a2 (by omega) a5.1 (by omega)) ?_
          rintro ⟨r, μ1⟩ ⟨h1, h2, h3⟩
          dsimp only at h1 h2 h3 ⊢
          have hS1 : SF μ1 24 (kp w) R := SF_fr a5 (h2 24 (by omega)) (h2 25 (by omega))
          rw [hS1.2.1, h1, if_pos c1, Wo_b1]
          refine Wo_mono (push_c hS1 hl (HC_fr hc (fun j _ _ => h2 j (by omega)))) ?_
          rintro μ2 ⟨k1, k2, k3⟩
          have hS2 : SF μ2 24 (kp w) R := SF_fr hS1 (k2 24 (by omega)) (k2 25 (by omega))
          have hS3 := SF_37 hS2 (μ2.1 24 2 - sM w R k)
          have hS4 := SF_cell (c := 1) hS3 (show k < 6 by omega) (by omega) (by omega) (by omega) (R k - 1)
          rw [bd_eq, get_1 hS3.1 (by omega), b1_some, set_1 (by omega), b1_some, Wo_some]
          rw [pk_un (by omega)]
          refine ⟨rfl, ?_, HC_fr k1 (fun j _ _ => by rw [rd_Ii (by omega), rd_Ii (by omega)]), ?_, ?_⟩
          · rw [hS2.2.1] at hS4 ⊢
            have he : upd (upd R 37 (R 37 - sM w R k)) (6 * (1 - 1) + k) (R k - 1) = upd (upd R k (R k - 1)) 37 (R 37 - sM w R k) := by
              funext i
              simp only [upd_ap, Nat.sub_self, Nat.mul_zero, Nat.zero_add]
              by_cases i1 : i = k
              · rw [if_pos i1, if_pos i1, if_neg (by omega)]
              · rw [if_neg i1, if_neg i1]
            rw [he] at hS4
            exact hS4
          · intro j a b
            dsimp only
            rw [rd_Ii (by omega), rd_Ii (by omega), k2 j b]; exact h2 j (by omega)
          · exact k3.trans h3
        · intro hs hH
          unfold fX12_mend
          rw [e2, b1_some, if_neg n10, ix_nI (by omega) (by omega), gd_true, nI_clamp (by omega), a6 k (by omega), if_neg (by grind)]
          refine mutm a3 a6 hH _ _ (fun s m1 m2 m3 m4 m5 m6 m7 => ?_)
          rw [Wo_b2]
          refine Wo_mono (mendsOf_m m5 m1 hk) ?_
          rintro ⟨r, s1⟩ ⟨k1, k2, k3⟩
          dsimp only at k1 k2 k3 ⊢
          rw [k2 37 (by omega), k1, if_pos c1, gd_true, gd_true, bd_eq, bd_eq, rd_Ik (by omega), k2 37 (by omega), k2 k (by omega)]
          exact mutr (MR_up (MR_up k2 _ _) _ _) (NR_fr (NR_fr (NR_Fm m3 (Fl_Fm k3)) (rd_Ii (by omega))) (rd_Ii (by omega))) (HM_fr (HM_Fm m4 (Fl_Fm k3)) (by rw [rd_Ii (by omega), rd_Ii (by omega)]) (by rw [rd_Ii (by omega), rd_Ii (by omega)])) (Fc_tr m2 (Fc_tr (Fl_Fc k3) (Fc_tr (Fc_up (by omega)) (Fc_up (by omega))))) _ _ (fun s' hs' => rfl)
      · refine rel_of h (-1) ?_ ?_
        · unfold fX11_mend
          rw [e1, b1_some, if_neg n10, get_1 a5.1 (by omega), b1_some, if_pos c0, Wo_b2]
          refine Wo_mono (mends_c a2 (by omega) a5.1 (by omega)) ?_
          rintro ⟨r, μ1⟩ ⟨h1, h2, h3⟩
          dsimp only at h1 h2 h3 ⊢
          have hS1 : SF μ1 24 (kp w) R := SF_fr a5 (h2 24 (by omega)) (h2 25 (by omega))
          rw [hS1.2.1, h1, if_neg c1, Wo_some]
          exact ⟨rfl, KC_law h2 h3⟩
        · unfold fX12_mend
          rw [e2, b1_some, if_neg n10, ix_nI (by omega) (by omega), gd_true, nI_clamp (by omega), a6 k (by omega), if_neg (by grind), Wo_b1]
          refine Wo_mono (copies_s a3 a6) ?_
          rintro s ⟨m1, m2, _, _⟩
          rw [Wo_b2]
          refine Wo_mono (mendsOf_m (QL_Fc a3 m2) m1 hk) ?_
          rintro ⟨r, s1⟩ ⟨k1, k2, k3⟩
          dsimp only at k1 k2 k3 ⊢
          rw [k2 37 (by omega), k1, if_neg c1, Wo_some]
          exact ⟨rfl, Fc_tr m2 (Fl_Fc k3)⟩
    · refine rel_of h (-1) ?_ ?_
      · unfold fX11_mend
        rw [e1, b1_some, if_neg n10, get_1 a5.1 (by omega), b1_some, if_neg c0, Wo_some]
        exact ⟨rfl, KC_rfl⟩
      · unfold fX12_mend
        rw [e2, b1_some, if_neg n10, ix_nI (by omega) (by omega), gd_true, nI_clamp (by omega), a6 k (by omega), if_pos (by grind), Wo_some]
        exact ⟨rfl, Fc_rfl⟩
