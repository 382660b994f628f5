theorem RG_big {w : Kw} {R : Rw} (hR : RG w R) {k : Nat} (hk : 36 ≤ k) (v : Int32) : RG w (upd R k v) := by
  intro h hh
  have := hR h hh
  simp (disch := omega) only [pk_un]
  exact this
theorem SF_37 {μ : Mem} {q : Nat} {pan R : Rw} (h : SF μ q pan R) (v : Int32) : SF (upI μ q 2 v) q pan (upd R 37 v) := by
  refine ⟨SR_big (SR_obj h.1 (by omega) _) (by omega) _, ?_, ?_, ?_⟩
  · rw [rd_Is, pk_us]
  · rw [rd_Ik (by omega), pk_un (by omega)]; exact h.2.2.1
  · simp (disch := omega) only [rd_Ik, pk_un]; exact h.2.2.2
theorem GS_37 {w : Kw} {R : Rw} (h : GS w R) {v : Int32} (hv : 0 ≤ v ∧ v ≤ 9999) : GS w (upd R 37 v) := by
  refine ⟨RG_big h.1 (by omega) _, ?_, ?_⟩
  · rw [pk_us]; exact hv
  · intro h' a b; rw [pk_un (by omega)]; exact h.2.2 h' a b
theorem r_bring {μ ν : Mem} (h : REL μ ν) (z0 : Int32) : ∃ (r : Int32) (μ' : Mem) (ν' : Mem), fX11_bring z0 μ = some (r, μ') ∧ fX12_bring z0 ν = some (r, ν') ∧ REL μ' ν' := by
  have h' := h
  obtain ⟨w, L, R, a1, a2, a3, a4, a5, a6, a7, a8, a9, a10, a11, a12⟩ := h'
  unfold fX11_bring fX12_bring
  rw [in_c, b1_some]
  by_cases c0 : z0 < 1
  · rw [if_pos c0, if_pos (Or.inl c0), if_pos rfl]; exact ⟨_, _, _, rfl, rfl, h⟩
  · rw [if_neg c0]
    by_cases c1 : z0 ≤ 99
    · rw [if_pos c1, if_neg (show ¬ (z0 < 1 ∨ 99 < z0) by grind), if_neg n10]
      have hc := a4.2.1
      have he : jmin 9999 (R 37 + z0) = cl 0 9999 (R 37 + z0) := by unfold jmin cl; grind
      refine mut_of a1 a2 a3 a4 a7 a8 a9 a10 a11 a12 (cl 0 9999 (R 37 + z0)) (upd R 37 (cl 0 9999 (R 37 + z0))) (GS_37 a4 (cl_rng (by decide))) ?_ ?_
      · intro hs hl hc
        rw [Wo_b1]
        refine Wo_mono (push_c a5 hl hc) ?_
        rintro μ1 ⟨h1, h2, h3⟩
        have hS1 : SF μ1 24 (kp w) R := SF_fr a5 (h2 24 (by omega)) (h2 25 (by omega))
        rw [bd_eq, Wo_some, rd_Is, hS1.2.1, he]
        refine ⟨rfl, SF_37 hS1 _, ?_, ?_, h3⟩
        · obtain ⟨b1, nw, b2, b3, b4⟩ := h1
          refine ⟨by rw [rd_Ii (by omega)]; exact b1, nw, b2, by rw [rd_Ii (by omega)]; exact b3, fun i R1 hi => SF_fr (b4 i R1 hi) (rd_Ii (by omega)) (rd_Ii (by omega))⟩
        · intro j a b
          show (upI μ1 24 2 _).1 j = _
          rw [rd_Ii (by omega)]; exact h2 j b
      · intro hs hH
        refine mutm a3 a6 hH _ _ (fun s m1 m2 m3 m4 m5 m6 m7 => ?_)
        rw [cl_within, b1_some, bd_eq, m1 37 (by omega)]
        exact mutr (MR_up m1 _ _) (NR_fr m3 (rd_Ii (by omega))) ⟨m4.1, by rw [rd_Ii (by omega)]; exact m4.2.1, by rw [rd_Ii (by omega)]; exact m4.2.2⟩ (Fc_tr m2 (Fc_up (by omega))) _ _ (fun s' hs' => by rw [hs' 37 (by omega), pk_us])
    · rw [if_neg c1, if_pos (show z0 < 1 ∨ 99 < z0 by grind), if_pos rfl]; exact ⟨_, _, _, rfl, rfl, h⟩
theorem HC_fr {μ μ' : Mem} {pan : Rw} {hs : List Rw} (h : HC μ pan hs) (hf : ∀ j, 30 ≤ j → j ≤ 111 → μ'.1 j = μ.1 j) : HC μ' pan hs := by
  obtain ⟨b1, nw, b2, b3, b4⟩ := h
  exact ⟨by rw [hf 30 (by omega) (by omega)]; exact b1, nw, b2, by rw [hf 30 (by omega) (by omega)]; exact b3, fun i R1 hi => SF_fr (b4 i R1 hi) (hf _ (by omega) (by omega)) (hf _ (by omega) (by omega))⟩
theorem HM_fr {ν ν' : Mem} {hs : List Rw} (h : HM ν hs) (h1 : ν'.1 35 = ν.1 35) (h2 : ν'.1 0 53 = ν.1 0 53) : HM ν' hs := ⟨h.1, h2.trans h.2.1, by rw [h1]; exact h.2.2⟩
theorem HM_Fm {ν ν' : Mem} {hs : List Rw} (h : HM ν hs) (hf : Fm ν ν') : HM ν' hs := HM_fr h (hf.1 35 (by omega) (by omega) (by omega) (by omega) (by omega) (by omega)) (hf.2.1 53 (by omega))
theorem sB_coal {w : Kw} {R : Rw} {h n k : Nat} (hh : h < 6) (hk : k = 37 ∨ k = 38 ∨ (24 ≤ k ∧ k < 30)) : sB w h n R k = R k := sB_ne (by omega) (by omega)
theorem r_burn {μ ν : Mem} (h : REL μ ν) (z0 : Int32) (z1 : Int32) : ∃ (r : Int32) (μ' : Mem) (ν' : Mem), fX11_burn z0 z1 μ = some (r, μ') ∧ fX12_burn z0 z1 ν = some (r, ν') ∧ REL μ' ν' := by
  have h' := h
  obtain ⟨w, L, R, a1, a2, a3, a4, a5, a6, a7, a8, a9, a10, a11, a12⟩ := h'
  have hn := a2.1
  unfold fX11_burn fX12_burn
  rcases house_cases a2 a3 z0 with ⟨e1, e2⟩ | ⟨k, hk, rfl, e1, e2⟩
  · rw [e1, e2, b1_some, b1_some, if_pos rfl, if_pos rfl]; exact ⟨_, _, _, rfl, rfl, h⟩
  · rw [e1, e2, b1_some, b1_some, if_neg n10, if_neg n10, in_c, b1_some]
    by_cases c0 : z1 < 1
    · rw [if_pos c0, if_pos (Or.inl c0), if_pos rfl]; exact ⟨_, _, _, rfl, rfl, h⟩
    · rw [if_neg c0]
      by_cases c1 : 99 < z1
      · rw [if_pos c1, if_pos (show z1 < 1 ∨ 99 < z1 from Or.inr c1), if_pos rfl]; exact ⟨_, _, _, rfl, rfl, h⟩
      · rw [if_neg c1, if_neg (show ¬ (z1 < 1 ∨ 99 < z1) from fun hx => hx.elim c0 c1), if_neg n10, a5.2.1, a6 37 (by omega)]
        by_cases c2 : z1 ≤ R 37
        · rw [if_pos c2, if_pos c2]
          obtain ⟨n, hn1, rfl⟩ := nI_of (show ¬ z1 < 0 by grind)
          have c3 := c1
          rw [L_lt (by omega) (by omega)] at c3
          have hc := a4.2.1
          have hp := nI_pos' hn1
          have hRB := RG_B a4.1 (show k < 6 by omega) n
          have hG : GS w (upd (upd (sB w k n R) 37 (R 37 - nI n)) 38 (R 38 + nI n)) := by
            refine ⟨RG_big (RG_big hRB (by omega) _) (by omega) _, ?_, ?_⟩
            · rw [pk_un (by omega), pk_us]; grind
            · intro h1 b1 b2; rw [pk_un (by omega), pk_un (by omega), sB_ne (by omega) (by omega)]; exact a4.2.2 h1 b1 b2
          refine mut_of a1 a2 a3 a4 a7 a8 a9 a10 a11 a12 (sB w k n R (6 + k)) _ hG ?_ ?_
          · intro hs hl hc
            rw [Wo_b1]
            refine Wo_mono (push_c a5 hl hc) ?_
            rintro μ1 ⟨h1, h2, h3⟩
            have hS1 : SF μ1 24 (kp w) R := SF_fr a5 (h2 24 (by omega)) (h2 25 (by omega))
            have hQ1 : QC w μ1 := QC_fr a2 (fun j _ _ => h2 j (by omega))
            rw [Wo_b1]
            refine Wo_mono (burnIn_c hQ1 (by omega) hS1.1 a4.1 (show k < 6 by omega) (show n < 100 by omega)) ?_
            rintro μ2 ⟨k1, k2, k3, k4, k5⟩
            rw [get_2 k1 (by omega), b1_some, Wo_some]
            refine ⟨rfl, ⟨SR_big (SR_big k1 (by omega) _) (by omega) _, ?_, ?_, ?_⟩, ?_, ?_, ?_⟩
            · dsimp only; rw [k3, hS1.2.1, pk_un (by omega), pk_us]
            · dsimp only; rw [k4, hS1.2.2.1, pk_us]
            · dsimp only; rw [k5, hS1.2.2.2]
              simp (disch := omega) only [pk_un, sB_ne]
            · exact HC_fr h1 (fun j _ _ => k2.1 j (by omega) (by omega) (by omega))
            · intro j a b
              dsimp only
              rw [k2.1 j (by omega) (by omega) (by omega)]; exact h2 j b
            · exact k2.2.trans h3
          · intro hs hH
            refine mutm a3 a6 hH _ _ (fun s m1 m2 m3 m4 m5 m6 m7 => ?_)
            rw [Wo_b1]
            refine Wo_mono (burns_m m5 m1 hk (by omega)) ?_
            rintro s1 ⟨k1, k2⟩
            rw [bd_eq, bd_eq, rd_Ik (by omega), k1 37 (by omega), k1 38 (by omega), sB_coal (by omega) (by omega), sB_coal (by omega) (by omega)]
            refine mutr (MR_up (MR_up k1 _ _) _ _) (NR_fr (NR_fr (NR_Fm m3 k2) (rd_Ii (by omega))) (rd_Ii (by omega))) (HM_fr (HM_Fm m4 k2) (by rw [rd_Ii (by omega), rd_Ii (by omega)]) (by rw [rd_Ii (by omega), rd_Ii (by omega)])) (Fc_tr m2 (Fc_tr (Fm_Fc k2) (Fc_tr (Fc_up (by omega)) (Fc_up (by omega))))) _ _ (fun s' hs' => ?_)
            simp (disch := omega) only [L_add, L_add2, L_mul, L_mul2, L_sub, nI_add, pk_mul, pk_sub, L_le, L_le2, L_lt, L_lt2, L_eq, L_eq2, nI_leI, nI_ltI, nI_eq, nI_clamp, ix_nI, ix_lit, L_cl, Wo_b1, Wo_b2, Wo_gd, Wo_some, Wo_bd, b1_some, b2_some, gd_true, bd_eq, true_and]
            rw [hs' _ (by omega), pk_un (by omega), pk_un (by omega)]
        · rw [if_neg c2, if_neg c2]; exact ⟨_, _, _, rfl, rfl, h⟩
