theorem xOf_c {w : Kw} {μ : Mem} {h : Nat} (hQ : QC w μ) (hh : h < kn w) : fX3_xOf 17 (nI h) μ = some (kx w h) := by
  have hn := hQ.1
  unfold fX3_xOf fX3_number
  simp (disch := omega) only [L_add, L_add2, L_mul, L_mul2, L_sub, nI_add, pk_mul, pk_sub, L_le, L_le2, L_lt, L_lt2, L_eq, L_eq2, nI_leI, nI_ltI, nI_eq, nI_clamp, ix_nI, ix_lit, L_cl, Wo_b1, Wo_b2, Wo_gd, Wo_some, Wo_bd, b1_some, b2_some, gd_true, bd_eq, true_and, if_neg]
  rw [show h * 5 + 3 = 5 * h + 3 by omega, (hQ.2.2.2.2.2.1 h hh).1]
theorem yOf_c {w : Kw} {μ : Mem} {h : Nat} (hQ : QC w μ) (hh : h < kn w) : fX3_yOf 17 (nI h) μ = some (ky w h) := by
  have hn := hQ.1
  unfold fX3_yOf fX3_number
  simp (disch := omega) only [L_add, L_add2, L_mul, L_mul2, L_sub, nI_add, pk_mul, pk_sub, L_le, L_le2, L_lt, L_lt2, L_eq, L_eq2, nI_leI, nI_ltI, nI_eq, nI_clamp, ix_nI, ix_lit, L_cl, Wo_b1, Wo_b2, Wo_gd, Wo_some, Wo_bd, b1_some, b2_some, gd_true, bd_eq, true_and, if_neg]
  rw [show h * 5 + 4 = 5 * h + 4 by omega, (hQ.2.2.2.2.2.1 h hh).2]
theorem r_house {μ ν : Mem} (h : REL μ ν) (z0 : Int32) (z1 : Int32) : ∃ (r : Int32) (μ' : Mem) (ν' : Mem), fX11_house z0 z1 μ = some (r, μ') ∧ fX12_house z0 z1 ν = some (r, ν') ∧ REL μ' ν' := by
  have h' := h
  obtain ⟨w, L, R, a1, a2, a3, a4, a5, a6, a7, a8, a9, a10, a11, a12⟩ := h'
  have hn := a2.1
  have hL := a3.1
  unfold fX11_house fX12_house
  rcases house_cases a2 a3 z0 with ⟨e1, e2⟩ | ⟨k, hk, rfl, e1, e2⟩
  · rw [e1, e2, b1_some, b1_some, if_pos rfl, if_pos rfl]; exact ⟨_, _, _, rfl, rfl, h⟩
  · rw [e1, e2, b1_some, b1_some, if_neg n10, if_neg n10]
    rcases pk_ix z1 (n := 13) (by omega) with c0 | c0 | ⟨c, hc, rfl⟩
    · refine rel_of h (-1) ?_ ?_
      · rw [if_pos c0, Wo_some]; exact ⟨rfl, KC_rfl⟩
      · rw [Wo_b1]
        refine Wo_mono (copies_s a3 a6) ?_
        rintro s ⟨m1, m2, _, _⟩
        rw [if_neg (by rintro rfl; exact absurd c0 (by decide)), if_neg (by rintro rfl; exact absurd c0 (by decide)), if_neg (by rintro rfl; exact absurd c0 (by decide)), if_neg (by rintro rfl; exact absurd c0 (by decide)), if_neg (by rintro rfl; exact absurd c0 (by decide)), if_neg (by rintro rfl; exact absurd c0 (by decide)), if_neg (by rintro rfl; exact absurd c0 (by decide)), if_neg (by rintro rfl; exact absurd c0 (by decide)), if_neg (by rintro rfl; exact absurd c0 (by decide)), if_neg (by rintro rfl; exact absurd c0 (by decide)), if_neg (by rintro rfl; exact absurd c0 (by decide)), if_neg (by rintro rfl; exact absurd c0 (by decide)), if_neg (by rintro rfl; exact absurd c0 (by decide)), Wo_some]
        exact ⟨rfl, m2⟩
    · refine rel_of h (-1) ?_ ?_
      · have c1 : ¬ z1 < 0 := by
          intro hx
          rw [show nI 13 = 13 from rfl] at c0
          grind
        have c2 : ¬ z1 ≤ 12 := by
          intro hx
          rw [show nI 13 = 13 from rfl] at c0
          grind
        rw [if_neg c1, if_neg c2, Wo_some]; exact ⟨rfl, KC_rfl⟩
      · rw [Wo_b1]
        refine Wo_mono (copies_s a3 a6) ?_
        rintro s ⟨m1, m2, _, _⟩
        rw [if_neg (by rintro rfl; exact absurd c0 (by decide)), if_neg (by rintro rfl; exact absurd c0 (by decide)), if_neg (by rintro rfl; exact absurd c0 (by decide)), if_neg (by rintro rfl; exact absurd c0 (by decide)), if_neg (by rintro rfl; exact absurd c0 (by decide)), if_neg (by rintro rfl; exact absurd c0 (by decide)), if_neg (by rintro rfl; exact absurd c0 (by decide)), if_neg (by rintro rfl; exact absurd c0 (by decide)), if_neg (by rintro rfl; exact absurd c0 (by decide)), if_neg (by rintro rfl; exact absurd c0 (by decide)), if_neg (by rintro rfl; exact absurd c0 (by decide)), if_neg (by rintro rfl; exact absurd c0 (by decide)), if_neg (by rintro rfl; exact absurd c0 (by decide)), Wo_some]
        exact ⟨rfl, m2⟩
    · have hcs : c = 0 ∨ c = 1 ∨ c = 2 ∨ c = 3 ∨ c = 4 ∨ c = 5 ∨ c = 6 ∨ c = 7 ∨ c = 8 ∨ c = 9 ∨ c = 10 ∨ c = 11 ∨ c = 12 := by omega
      rcases hcs with rfl | rfl | rfl | rfl | rfl | rfl | rfl | rfl | rfl | rfl | rfl | rfl | rfl
      · rw [show nI 0 = (0 : Int32) from rfl]
        refine rel_of h (kp w k) ?_ ?_
        · rw [if_neg (by decide), if_pos (by decide), if_neg (by decide), get_p a5.1 (by omega), b1_some, Wo_some]; exact ⟨rfl, KC_rfl⟩
        · rw [Wo_b1]
          refine Wo_mono (copies_s a3 a6) ?_
          rintro s ⟨m1, m2, _, _⟩
          have hQ := QL_Fc a3 m2
          rw [if_pos rfl, panesAt_m hQ hk, b1_some, Wo_some]; exact ⟨rfl, m2⟩
      · rw [show nI 1 = (1 : Int32) from rfl]
        refine rel_of h (R k) ?_ ?_
        · rw [if_neg (by decide), if_pos (by decide), if_neg (by decide), get_1 a5.1 (by omega), b1_some, Wo_some]; exact ⟨rfl, KC_rfl⟩
        · rw [Wo_b1]
          refine Wo_mono (copies_s a3 a6) ?_
          rintro s ⟨m1, m2, _, _⟩
          have hQ := QL_Fc a3 m2
          rw [if_neg (by decide), if_pos rfl, ix_nI (by omega) (by omega), gd_true, nI_clamp (by omega), Wo_some]; exact ⟨m1 _ (by omega), m2⟩
      · rw [show nI 2 = (2 : Int32) from rfl]
        refine rel_of h (R (6 + k)) ?_ ?_
        · rw [if_neg (by decide), if_pos (by decide), if_neg (by decide), get_2 a5.1 (by omega), b1_some, Wo_some]; exact ⟨rfl, KC_rfl⟩
        · rw [Wo_b1]
          refine Wo_mono (copies_s a3 a6) ?_
          rintro s ⟨m1, m2, _, _⟩
          have hQ := QL_Fc a3 m2
          rw [if_neg (by decide), if_neg (by decide), if_pos rfl, L_add2, ix_nI (by omega) (by omega), gd_true, nI_clamp (by omega), Wo_some]; exact ⟨m1 _ (by omega), m2⟩
      · rw [show nI 3 = (3 : Int32) from rfl]
        refine rel_of h (R (12 + k)) ?_ ?_
        · rw [if_neg (by decide), if_pos (by decide), if_neg (by decide), get_3 a5.1 (by omega), b1_some, Wo_some]; exact ⟨rfl, KC_rfl⟩
        · rw [Wo_b1]
          refine Wo_mono (copies_s a3 a6) ?_
          rintro s ⟨m1, m2, _, _⟩
          have hQ := QL_Fc a3 m2
          rw [if_neg (by decide), if_neg (by decide), if_neg (by decide), if_pos rfl, L_add2, ix_nI (by omega) (by omega), gd_true, nI_clamp (by omega), Wo_some]; exact ⟨m1 _ (by omega), m2⟩
      · rw [show nI 4 = (4 : Int32) from rfl]
        refine rel_of h (R (18 + k)) ?_ ?_
        · rw [if_neg (by decide), if_pos (by decide), if_neg (by decide), get_4 a5.1 (by omega), b1_some, Wo_some]; exact ⟨rfl, KC_rfl⟩
        · rw [Wo_b1]
          refine Wo_mono (copies_s a3 a6) ?_
          rintro s ⟨m1, m2, _, _⟩
          have hQ := QL_Fc a3 m2
          rw [if_neg (by decide), if_neg (by decide), if_neg (by decide), if_neg (by decide), if_pos rfl, L_add2, ix_nI (by omega) (by omega), gd_true, nI_clamp (by omega), Wo_some]; exact ⟨m1 _ (by omega), m2⟩
      · rw [show nI 5 = (5 : Int32) from rfl]
        refine rel_of h (R (24 + k)) ?_ ?_
        · rw [if_neg (by decide), if_pos (by decide), if_neg (by decide), get_5 a5.1 (by omega), b1_some, Wo_some]; exact ⟨rfl, KC_rfl⟩
        · rw [Wo_b1]
          refine Wo_mono (copies_s a3 a6) ?_
          rintro s ⟨m1, m2, _, _⟩
          have hQ := QL_Fc a3 m2
          rw [if_neg (by decide), if_neg (by decide), if_neg (by decide), if_neg (by decide), if_neg (by decide), if_pos rfl, L_add2, ix_nI (by omega) (by omega), gd_true, nI_clamp (by omega), Wo_some]; exact ⟨m1 _ (by omega), m2⟩
      · rw [show nI 6 = (6 : Int32) from rfl]
        refine rel_of h (R (30 + k)) ?_ ?_
        · rw [if_neg (by decide), if_pos (by decide), if_neg (by decide), get_6 a5.1 (by omega), b1_some, Wo_some]; exact ⟨rfl, KC_rfl⟩
        · rw [Wo_b1]
          refine Wo_mono (copies_s a3 a6) ?_
          rintro s ⟨m1, m2, _, _⟩
          have hQ := QL_Fc a3 m2
          rw [if_neg (by decide), if_neg (by decide), if_neg (by decide), if_neg (by decide), if_neg (by decide), if_neg (by decide), if_pos rfl, L_add2, ix_nI (by omega) (by omega), gd_true, nI_clamp (by omega), Wo_some]; exact ⟨m1 _ (by omega), m2⟩
      · rw [show nI 7 = (7 : Int32) from rfl]
        refine rel_of h (sC w R k) ?_ ?_
        · rw [if_neg (by decide), if_pos (by decide), if_pos (by decide), if_pos rfl, Wo_b2]
          refine Wo_mono (cools_c a2 (by omega) a5.1 (by omega)) ?_
          rintro ⟨r, s1⟩ ⟨k1, k2, k3⟩
          rw [Wo_some]; exact ⟨k1, KC_law k2 k3⟩
        · rw [Wo_b1]
          refine Wo_mono (copies_s a3 a6) ?_
          rintro s ⟨m1, m2, _, _⟩
          have hQ := QL_Fc a3 m2
          rw [if_neg (by decide), if_neg (by decide), if_neg (by decide), if_neg (by decide), if_neg (by decide), if_neg (by decide), if_neg (by decide), if_pos rfl, Wo_b2]
          refine Wo_mono (coolsOf_m hQ m1 hk) ?_
          rintro ⟨r, s1⟩ ⟨k1, k2, k3⟩
          rw [Wo_some]; exact ⟨k1, Fc_tr m2 (Fl_Fc k3)⟩
      · rw [show nI 8 = (8 : Int32) from rfl]
        refine rel_of h (sW w R k) ?_ ?_
        · rw [if_neg (by decide), if_pos (by decide), if_pos (by decide), if_neg (by decide), if_pos rfl, Wo_b2]
          refine Wo_mono (warms_c a2 (by omega) a5.1 (by omega)) ?_
          rintro ⟨r, s1⟩ ⟨k1, k2, k3⟩
          rw [Wo_some]; exact ⟨k1, KC_law k2 k3⟩
        · rw [Wo_b1]
          refine Wo_mono (copies_s a3 a6) ?_
          rintro s ⟨m1, m2, _, _⟩
          have hQ := QL_Fc a3 m2
          rw [if_neg (by decide), if_neg (by decide), if_neg (by decide), if_neg (by decide), if_neg (by decide), if_neg (by decide), if_neg (by decide), if_neg (by decide), if_pos rfl, Wo_b2]
          refine Wo_mono (warmsOf_m hQ m1 hk) ?_
          rintro ⟨r, s1⟩ ⟨k1, k2, k3⟩
          rw [Wo_some]; exact ⟨k1, Fc_tr m2 (Fl_Fc k3)⟩
      · rw [show nI 9 = (9 : Int32) from rfl]
        refine rel_of h (sF w R k) ?_ ?_
        · rw [if_neg (by decide), if_pos (by decide), if_pos (by decide), if_neg (by decide), if_neg (by decide), if_pos rfl, Wo_b2]
          refine Wo_mono (fades_c a2 (by omega) a5.1 a4.1 (by omega)) ?_
          rintro ⟨r, s1⟩ ⟨k1, k2, k3⟩
          rw [Wo_some]; exact ⟨k1, KC_law k2 k3⟩
        · rw [Wo_b1]
          refine Wo_mono (copies_s a3 a6) ?_
          rintro s ⟨m1, m2, _, _⟩
          have hQ := QL_Fc a3 m2
          rw [if_neg (by decide), if_neg (by decide), if_neg (by decide), if_neg (by decide), if_neg (by decide), if_neg (by decide), if_neg (by decide), if_neg (by decide), if_neg (by decide), if_pos rfl, Wo_b2]
          refine Wo_mono (fadesOf_m hQ m1 hk) ?_
          rintro ⟨r, s1⟩ ⟨k1, k2, k3⟩
          rw [Wo_some]; exact ⟨k1, Fc_tr m2 (Fl_Fc k3)⟩
      · rw [show nI 10 = (10 : Int32) from rfl]
        refine rel_of h (sM w R k) ?_ ?_
        · rw [if_neg (by decide), if_pos (by decide), if_pos (by decide), if_neg (by decide), if_neg (by decide), if_neg (by decide), if_pos rfl, Wo_b2]
          refine Wo_mono (mends_c a2 (by omega) a5.1 (by omega)) ?_
          rintro ⟨r, s1⟩ ⟨k1, k2, k3⟩
          rw [Wo_some]; exact ⟨k1, KC_law k2 k3⟩
        · rw [Wo_b1]
          refine Wo_mono (copies_s a3 a6) ?_
          rintro s ⟨m1, m2, _, _⟩
          have hQ := QL_Fc a3 m2
          rw [if_neg (by decide), if_neg (by decide), if_neg (by decide), if_neg (by decide), if_neg (by decide), if_neg (by decide), if_neg (by decide), if_neg (by decide), if_neg (by decide), if_neg (by decide), if_pos rfl, Wo_b2]
          refine Wo_mono (mendsOf_m hQ m1 hk) ?_
          rintro ⟨r, s1⟩ ⟨k1, k2, k3⟩
          rw [Wo_some]; exact ⟨k1, Fc_tr m2 (Fl_Fc k3)⟩
      · rw [show nI 11 = (11 : Int32) from rfl]
        refine rel_of h (kx w k) ?_ ?_
        · rw [if_neg (by decide), if_pos (by decide), if_pos (by decide), if_neg (by decide), if_neg (by decide), if_neg (by decide), if_neg (by decide), if_pos rfl, xOf_c a2 hk, b1_some, Wo_some]; exact ⟨rfl, KC_rfl⟩
        · rw [Wo_b1]
          refine Wo_mono (copies_s a3 a6) ?_
          rintro s ⟨m1, m2, _, _⟩
          have hQ := QL_Fc a3 m2
          rw [if_neg (by decide), if_neg (by decide), if_neg (by decide), if_neg (by decide), if_neg (by decide), if_neg (by decide), if_neg (by decide), if_neg (by decide), if_neg (by decide), if_neg (by decide), if_neg (by decide), if_pos rfl, hQ.2.2.1, L_mul2, nI_add, ix_nI (by omega) (by omega), gd_true, nI_clamp (by omega), Wo_some]; exact ⟨(hQ.2.2.2.2.1 k hk).2.1, m2⟩
      · rw [show nI 12 = (12 : Int32) from rfl]
        refine rel_of h (ky w k) ?_ ?_
        · rw [if_neg (by decide), if_pos (by decide), if_pos (by decide), if_neg (by decide), if_neg (by decide), if_neg (by decide), if_neg (by decide), if_neg (by decide), yOf_c a2 hk, b1_some, Wo_some]; exact ⟨rfl, KC_rfl⟩
        · rw [Wo_b1]
          refine Wo_mono (copies_s a3 a6) ?_
          rintro s ⟨m1, m2, _, _⟩
          have hQ := QL_Fc a3 m2
          rw [if_neg (by decide), if_neg (by decide), if_neg (by decide), if_neg (by decide), if_neg (by decide), if_neg (by decide), if_neg (by decide), if_neg (by decide), if_neg (by decide), if_neg (by decide), if_neg (by decide), if_neg (by decide), if_pos rfl, hQ.2.2.1, L_mul2, nI_add, ix_nI (by omega) (by omega), gd_true, nI_clamp (by omega), Wo_some]; exact ⟨(hQ.2.2.2.2.1 k hk).2.2, m2⟩
def sm (R : Rw) (v : Int32) : Nat → Int32
  | 0 => 0
  | n + 1 => if R (12 + n) < v then sm R v n else sm R v n + 1
theorem summers_c {w : Kw} {μ : Mem} {R : Rw} {v : Int32} (hQ : QC w μ) (hS : SF μ 24 (kp w) R) : Wo (fX11_summers_l18 v μ FU 0 0) (fun r => r = sm R v (kn w)) := by
  have hn := hQ.1
  refine lp0 (fun n' x s => fX11_summers_l18 v μ n' s x) (kn w) (by omega) (fun i s => s = sm R v i) _ 0 rfl ?_ ?_
  · rintro n' i s hi rfl hrec
    show Wo (fX11_summers_s18 _ _ _ _ _) _
    unfold fX11_summers_s18
    rw [hQ.2.1, if_neg (by simp (disch := omega) only [L_add, L_add2, L_mul, L_mul2, L_sub, nI_add, pk_mul, pk_sub, L_le, L_le2, L_lt, L_lt2, L_eq, L_eq2, nI_leI, nI_ltI, nI_eq, nI_clamp, ix_nI, ix_lit, L_cl]; omega), get_3 hS.1 (by omega), b1_some, nI_1]
    refine Wo_if (fun hc => hrec _ ?_) (fun hc => hrec _ ?_)
    · show _ = (if R (12 + i) < v then _ else _); rw [if_pos hc]
    · show _ = (if R (12 + i) < v then _ else _); rw [if_neg hc]
  · rintro n' s rfl
    show Wo (fX11_summers_s18 _ _ _ _ _) _
    unfold fX11_summers_s18
    rw [hQ.2.1, if_pos (by simp (disch := omega) only [L_add, L_add2, L_mul, L_mul2, L_sub, nI_add, pk_mul, pk_sub, L_le, L_le2, L_lt, L_lt2, L_eq, L_eq2, nI_leI, nI_ltI, nI_eq, nI_clamp, ix_nI, ix_lit, L_cl]; omega), Wo_some]
theorem summers_m {w : Kw} {L : Nat} {ν : Mem} {R : Rw} {v : Int32} (hQ : QL w L ν) (hN : NR ν R) : Wo (fX12_summers_l17 v ν FU 0 0) (fun r => r = sm R v (kn w)) := by
  have hn := hQ.2.1
  refine lp0 (fun n' x s => fX12_summers_l17 v ν n' s x) (kn w) (by omega) (fun i s => s = sm R v i) _ 0 rfl ?_ ?_
  · rintro n' i s hi rfl hrec
    show Wo (fX12_summers_s17 _ _ _ _ _) _
    unfold fX12_summers_s17
    rw [many_m hQ, b1_some, if_neg (by simp (disch := omega) only [L_add, L_add2, L_mul, L_mul2, L_sub, nI_add, pk_mul, pk_sub, L_le, L_le2, L_lt, L_lt2, L_eq, L_eq2, nI_leI, nI_ltI, nI_eq, nI_clamp, ix_nI, ix_lit, L_cl]; omega), L_add2, ix_nI (by omega) (by omega), gd_true, nI_clamp (by omega), hN _ (by omega), nI_1]
    refine Wo_if (fun hc => hrec _ ?_) (fun hc => hrec _ ?_)
    · show _ = (if R (12 + i) < v then _ else _); rw [if_pos hc]
    · show _ = (if R (12 + i) < v then _ else _); rw [if_neg hc]
  · rintro n' s rfl
    show Wo (fX12_summers_s17 _ _ _ _ _) _
    unfold fX12_summers_s17
    rw [many_m hQ, b1_some, if_pos (by simp (disch := omega) only [L_add, L_add2, L_mul, L_mul2, L_sub, nI_add, pk_mul, pk_sub, L_le, L_le2, L_lt, L_lt2, L_eq, L_eq2, nI_leI, nI_ltI, nI_eq, nI_clamp, ix_nI, ix_lit, L_cl]; omega), Wo_some]
/-- both answer alike, and nothing is changed -/
theorem rel_p {μ ν : Mem} {f g : Option Int32} (h : REL μ ν) (v : Int32) (hf : Wo f (fun r => r = v)) (hg : Wo g (fun r => r = v)) : ∃ (r : Int32), f = some r ∧ g = some r ∧ REL μ ν := by
  obtain ⟨r, e1, h1⟩ := hf
  obtain ⟨r', e2, h2⟩ := hg
  subst h1; subst h2
  exact ⟨_, e1, e2, h⟩
theorem r_summers {μ ν : Mem} (h : REL μ ν) (z0 : Int32) : ∃ (r : Int32), fX11_summers z0 μ = some r ∧ fX12_summers z0 ν = some r ∧ REL μ ν := by
  have h' := h
  obtain ⟨w, L, R, a1, a2, a3, a4, a5, a6, a7, a8, a9, a10, a11, a12⟩ := h'
  unfold fX11_summers fX12_summers
  rw [in_c, b1_some]
  by_cases c0 : z0 < 1
  · rw [if_pos c0, if_pos (Or.inl c0), if_pos rfl]; exact ⟨_, rfl, rfl, h⟩
  · rw [if_neg c0]
    by_cases c1 : z0 ≤ 999
    · rw [if_pos c1, if_neg (show ¬ (z0 < 1 ∨ 999 < z0) by grind), if_neg n10]
      exact rel_p h _ (summers_c a2 a5) (summers_m a3 a6)
    · rw [if_neg c1, if_pos (show z0 < 1 ∨ 999 < z0 by grind), if_pos rfl]; exact ⟨_, rfl, rfl, h⟩
