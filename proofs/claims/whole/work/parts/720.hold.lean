theorem pop_c {μ : Mem} {pan R1 : Rw} {hs : List Rw} (hH : HC μ pan (R1 :: hs)) (hl : hs.length < 40) : Wo (fX0_pop 24 μ) (fun p => p.1 = 1 ∧ SF p.2 24 pan R1 ∧ HC p.2 pan hs ∧ (∀ j, ¬ (24 ≤ j ∧ j ≤ 25) → j ≠ 30 → p.2.1 j = μ.1 j) ∧ p.2.2 = μ.2) := by
  obtain ⟨b1, nw, b2, b3, b4⟩ := hH
  rw [List.length_cons] at b1
  have hS := b4 0 R1 rfl
  rw [show 32 + 2 * ((nw + 40 - 0) % 40) = 31 + 1 + 2 * nw by omega] at hS
  unfold fX0_pop
  rw [b1, if_pos (by simp (disch := omega) only [L_add, L_add2, L_mul, L_mul2, L_sub, nI_add, pk_mul, pk_sub, L_le, L_le2, L_lt, L_lt2, L_eq, L_eq2, nI_leI, nI_ltI, nI_eq, nI_clamp, ix_nI, ix_lit, L_cl]; omega), b3, ix_nI (by omega) (by omega), gd_true, nI_clamp (by omega), Wo_b1]
  refine Wo_mono (copyF_c (q := 24) hS (by omega) (by omega) (by omega)) ?_
  rintro μ1 ⟨h1, h2, h3⟩
  have e3 : μ1.1 30 3 = nI nw := by rw [h1 30 (by omega) (by omega)]; exact b3
  have e4 : μ1.1 30 4 = nI (hs.length + 1) := by rw [h1 30 (by omega) (by omega)]; exact b1
  have fin : ∀ nw', nw' = (nw + 39) % 40 → Wo (fX0_pop_b42 24 (nI nw') μ1) (fun p => p.1 = 1 ∧ SF p.2 24 pan R1 ∧ HC p.2 pan hs ∧ (∀ j, ¬ (24 ≤ j ∧ j ≤ 25) → j ≠ 30 → p.2.1 j = μ.1 j) ∧ p.2.2 = μ.2) := by
    intro nw' hn'
    unfold fX0_pop_b42
    rw [bd_eq, bd_eq, Wo_some, rd_Ik (by omega), e4, L_sub (by omega)]
    refine ⟨rfl, SF_fr (SF_fr h3 (rd_Ii (by omega)) (rd_Ii (by omega))) (rd_Ii (by omega)) (rd_Ii (by omega)), ⟨rd_Is, nw', by omega, by rw [rd_Ik (by omega), rd_Is], ?_⟩, ?_, h2⟩
    · intro i R hi
      have hx := get_len hi
      have := b4 (i + 1) R (by rw [List.getElem?_cons_succ]; exact hi)
      rw [show (nw + 40 - (i + 1)) % 40 = (nw' + 40 - i) % 40 by omega] at this
      refine SF_fr this ?_ ?_
      · dsimp only; rw [rd_Ii (by omega), rd_Ii (by omega), h1 _ (by omega) (by omega)]
      · dsimp only; rw [rd_Ii (by omega), rd_Ii (by omega), h1 _ (by omega) (by omega)]
    · intro j a b
      dsimp only
      rw [rd_Ii b, rd_Ii b]; exact h1 j (by omega) (by omega)
  rw [e3]
  refine Wo_if (fun hc => ?_) (fun hc => ?_)
  · rw [L_le2 (by omega) (by omega)] at hc
    exact fin 39 (by omega)
  · rw [L_le2 (by omega) (by omega)] at hc
    rw [L_sub (by omega)]
    exact fin (nw - 1) (by omega)
theorem undo_m {ν : Mem} {R1 : Rw} {hs : List Rw} (hH : HM ν (R1 :: hs)) : Wo (fX12_undo ν) (fun p => p.1 = 1 ∧ NR p.2 R1 ∧ HM p.2 hs ∧ (∀ j, j ≠ 0 → j ≠ 31 → p.2.1 j = ν.1 j) ∧ (∀ k, k ≠ 53 → p.2.1 0 k = ν.1 0 k) ∧ p.2.2 = ν.2) := by
  obtain ⟨h1, h2, h3⟩ := hH
  rw [List.length_cons] at h1 h2
  unfold fX12_undo
  rw [h2, if_neg (by simp (disch := omega) only [L_add, L_add2, L_mul, L_mul2, L_sub, nI_add, pk_mul, pk_sub, L_le, L_le2, L_lt, L_lt2, L_eq, L_eq2, nI_leI, nI_ltI, nI_eq, nI_clamp, ix_nI, ix_lit, L_cl]; omega), bd_eq, L_sub (by omega)]
  refine lp0 (fun n' x s => fX12_undo_l21 n' x s) 39 (by omega) (fun i s => (∀ k, k < i → s.1 31 k = R1 k) ∧ (∀ j, j ≠ 31 → s.1 j = (upI ν 0 53 (nI (hs.length + 1 - 1))).1 j) ∧ s.2 = ν.2) _ _ ⟨fun k hk => by omega, fun _ _ => rfl, rfl⟩ ?_ ?_
  · rintro n' i s hi ⟨i1, i2, i3⟩ hrec
    show Wo (fX12_undo_s21 _ _ _) _
    unfold fX12_undo_s21
    have e0 : s.1 0 53 = nI hs.length := by rw [i2 0 (by omega), rd_Is]; rfl
    rw [if_neg (by simp (disch := omega) only [L_add, L_add2, L_mul, L_mul2, L_sub, nI_add, pk_mul, pk_sub, L_le, L_le2, L_lt, L_lt2, L_eq, L_eq2, nI_leI, nI_ltI, nI_eq, nI_clamp, ix_nI, ix_lit, L_cl]; omega)]
    simp (disch := omega) only [e0, L_add, L_add2, L_mul, L_mul2, L_sub, nI_add, pk_mul, pk_sub, L_le, L_le2, L_lt, L_lt2, L_eq, L_eq2, nI_leI, nI_ltI, nI_eq, nI_clamp, ix_nI, ix_lit, L_cl, Wo_b1, Wo_b2, Wo_gd, Wo_some, Wo_bd, b1_some, b2_some, gd_true, bd_eq, true_and]
    refine hrec _ ⟨fun k hk => ?_, fun j hj => by rw [rd_Ii hj]; exact i2 j hj, i3⟩
    by_cases he : k = i
    · subst he
      rw [rd_Is, i2 35 (by omega), rd_Ii (by omega)]
      have := h3 0 R1 rfl k (by omega)
      rw [List.length_cons, show hs.length + 1 - 1 - 0 = hs.length by omega] at this
      exact this
    · rw [rd_Ik he]; exact i1 k (by omega)
  · rintro n' s ⟨i1, i2, i3⟩
    show Wo (fX12_undo_s21 _ _ _) _
    unfold fX12_undo_s21
    rw [if_pos (by decide), Wo_some]
    refine ⟨rfl, i1, ⟨by omega, by dsimp only; rw [i2 0 (by omega), rd_Is]; rfl, ?_⟩, fun j a b => by dsimp only; rw [i2 j b, rd_Ii a], fun k a => by dsimp only; rw [i2 0 (by omega), rd_Ik a], i3⟩
    intro i R hi k hk
    have hx := get_len hi
    have := h3 (i + 1) R (by rw [List.getElem?_cons_succ]; exact hi) k hk
    rw [List.length_cons, show hs.length + 1 - 1 - (i + 1) = hs.length - 1 - i by omega] at this
    dsimp only
    rw [i2 35 (by omega), rd_Ii (by omega)]
    exact this
theorem r_undo {μ ν : Mem} (h : REL μ ν) : ∃ (r : Int32) (μ' : Mem) (ν' : Mem), fX11_undo μ = some (r, μ') ∧ fX12_undo ν = some (r, ν') ∧ REL μ' ν' := by
  have h' := h
  obtain ⟨w, L, R, a1, a2, a3, a4, a5, a6, ⟨hs, c1, c2, c3⟩, a8, a9, a10, a11, a12⟩ := h'
  cases hs with
  | nil =>
    unfold fX11_undo fX0_pop fX12_undo
    rw [c2.1, c3.2.1, if_neg (by decide), if_pos (by decide), b2_some]
    exact ⟨_, _, _, rfl, rfl, h⟩
  | cons R1 hs =>
    have hl := c3.1
    rw [List.length_cons] at hl
    obtain ⟨⟨r, μ'⟩, e1, h1, h2, h3, h4, h5⟩ := pop_c c2 (by omega)
    obtain ⟨⟨r', ν'⟩, e2, k1, k2, k3, k4, k5, k6⟩ := undo_m c3
    dsimp only at h1 h2 h3 h4 h5 k1 k2 k3 k4 k5 k6
    subst h1; subst k1
    unfold fX11_undo
    rw [e1, b2_some]
    refine ⟨_, μ', ν', rfl, e2, ?_⟩
    exact REL_new a1 a2 a3 a8 a9 a10 a11 a12 (c1 R1 (List.mem_cons_self ..)) h2 k2 (fun R hR => c1 R (List.mem_cons_of_mem _ hR)) h3 k3 (fun j a b => h4 j (by omega) (by omega)) h5 (fun j a b => k4 j a (by omega)) (fun k a b => k5 k b) k6
theorem REL_slot {μ ν μ' ν' : Mem} {w : Kw} {L : Nat} {R : Rw} (a1 : KZ w) (a2 : QC w μ) (a3 : QL w L ν) (a4 : GS w R) (a5 : SF μ 24 (kp w) R) (a6 : NR ν R) (a7 : HH w μ ν) (a9 : TT μ ν) (a10 : TP μ ν) (a11 : μ.1 1 16 = ν.1 0 17) (a12 : WT μ ν) (s : SS w μ' ν') (fc : ∀ j, ¬ (113 ≤ j ∧ j ≤ 119) → μ'.1 j = μ.1 j) (fc2 : μ'.2 = μ.2) (fm : ∀ j, j ≠ 47 → j ≠ 48 → ν'.1 j = ν.1 j) (fm2 : ν'.2 = ν.2) : REL μ' ν' := by
  have e0 := fm 0 (by omega) (by omega)
  refine ⟨w, L, R, a1, ?_, ?_, a4, ?_, ?_, ?_, s, ?_, ?_, ?_, ?_⟩
  · exact QC_fr a2 (fun j _ _ => fc j (by omega))
  · exact QL_fr a3 (fun j _ _ => fm j (by omega) (by omega)) (by rw [e0])
  · exact SF_fr a5 (fc 24 (by omega)) (fc 25 (by omega))
  · exact NR_fr a6 (fm 31 (by omega) (by omega))
  · exact HH_fr a7 (fun j _ _ => fc j (by omega)) (fm 35 (by omega) (by omega)) (by rw [e0])
  · exact TT_fr a9 (fun j _ _ => fc j (by omega)) (fun j _ _ => fm j (by omega) (by omega)) (by rw [e0])
  · exact TP_fr a10 (by rw [fc 1 (by omega)]) (by rw [e0]) (fc 2 (by omega)) (fm 1 (by omega) (by omega))
  · rw [fc 1 (by omega), e0]; exact a11
  · exact WT_fr a12 (MqE_of (fun j hj => fc j (by omega))) (by rw [fc2]) (by rw [fm2])
theorem hold_c {μ : Mem} {pan R : Rw} {s : Nat} (hS : SF μ 24 pan R) (hs : s < 3) : Wo (fX11_hold (nI s) μ) (fun p => p.1 = 1 ∧ SF p.2 (113 + 2 * s) pan R ∧ p.2.1 119 s = 1 ∧ (∀ i, i ≠ s → p.2.1 119 i = μ.1 119 i) ∧ (∀ j, j ≠ 113 + 2 * s → j ≠ 114 + 2 * s → j ≠ 119 → p.2.1 j = μ.1 j) ∧ p.2.2 = μ.2) := by
  unfold fX11_hold fX0_keep
  rw [if_neg (nI_pos (by omega)), if_pos (by simp (disch := omega) only [L_add, L_add2, L_mul, L_mul2, L_sub, nI_add, pk_mul, pk_sub, L_le, L_le2, L_lt, L_lt2, L_eq, L_eq2, nI_leI, nI_ltI, nI_eq, nI_clamp, ix_nI, ix_lit, L_cl]; omega), ix_nI (by omega) (by omega), gd_true, nI_clamp (by omega), Wo_b2, Wo_b1]
  refine Wo_mono (copyF_c (q := 112 + 1 + 2 * s) hS (by omega) (by omega) (by omega)) ?_
  rintro μ1 ⟨h1, h2, h3⟩
  rw [gd_true, bd_eq, Wo_some, Wo_some]
  refine ⟨by show (1 : Int32) &&& 1 = 1; decide, SF_fr h3 (rd_Ii (by omega)) (rd_Ii (by omega)), rd_Is, fun i hi => by dsimp only; rw [rd_Ik hi, h1 119 (by omega) (by omega)], fun j a b c => by dsimp only; rw [rd_Ii c]; exact h1 j (by omega) (by omega), h2⟩
theorem hold_m {ν : Mem} {R : Rw} {s : Nat} (hN : NR ν R) (hs : s < 3) : Wo (fX12_hold (nI s) ν) (fun p => p.1 = 1 ∧ (∀ k, k < 39 → p.2.1 48 (39 * s + k) = R k) ∧ (∀ m, (m < 39 * s ∨ 39 * s + 39 ≤ m) → p.2.1 48 m = ν.1 48 m) ∧ p.2.1 47 s = 1 ∧ (∀ i, i ≠ s → p.2.1 47 i = ν.1 47 i) ∧ (∀ j, j ≠ 47 → j ≠ 48 → p.2.1 j = ν.1 j) ∧ p.2.2 = ν.2) := by
  unfold fX12_hold
  rw [in_c, b1_some, if_neg (show ¬ (nI s < 0 ∨ 2 < nI s) from fun h => h.elim (nI_pos (by omega)) (by simp (disch := omega) only [L_add, L_add2, L_mul, L_mul2, L_sub, nI_add, pk_mul, pk_sub, L_le, L_le2, L_lt, L_lt2, L_eq, L_eq2, nI_leI, nI_ltI, nI_eq, nI_clamp, ix_nI, ix_lit, L_cl]; omega)), if_neg n10, ix_nI (by omega) (by omega), gd_true, nI_clamp (by omega), bd_eq]
  refine lp0 (fun n' x t => fX12_hold_l20 (nI s) n' x t) 39 (by omega) (fun i t => (∀ k, k < i → t.1 48 (39 * s + k) = R k) ∧ (∀ m, (m < 39 * s ∨ 39 * s + 39 ≤ m) → t.1 48 m = ν.1 48 m) ∧ (∀ j, j ≠ 48 → t.1 j = (upI ν 47 s 1).1 j) ∧ t.2 = ν.2) _ _ ⟨fun k hk => by omega, fun _ _ => by rw [rd_Ii (by omega)], fun _ _ => rfl, rfl⟩ ?_ ?_
  · rintro n' i t hi ⟨i1, i2, i3, i4⟩ hrec
    show Wo (fX12_hold_s20 _ _ _ _) _
    unfold fX12_hold_s20
    rw [if_neg (by simp (disch := omega) only [L_add, L_add2, L_mul, L_mul2, L_sub, nI_add, pk_mul, pk_sub, L_le, L_le2, L_lt, L_lt2, L_eq, L_eq2, nI_leI, nI_ltI, nI_eq, nI_clamp, ix_nI, ix_lit, L_cl]; omega)]
    simp (disch := omega) only [L_add, L_add2, L_mul, L_mul2, L_sub, nI_add, pk_mul, pk_sub, L_le, L_le2, L_lt, L_lt2, L_eq, L_eq2, nI_leI, nI_ltI, nI_eq, nI_clamp, ix_nI, ix_lit, L_cl, Wo_b1, Wo_b2, Wo_gd, Wo_some, Wo_bd, b1_some, b2_some, gd_true, bd_eq, true_and]
    refine hrec _ ⟨fun k hk => ?_, fun m hm => by rw [rd_Ik (by omega)]; exact i2 m hm, fun j hj => by rw [rd_Ii hj]; exact i3 j hj, i4⟩
    by_cases he : k = i
    · subst he; rw [rd_Is, i3 31 (by omega), rd_Ii (by omega)]; exact hN k (by omega)
    · rw [rd_Ik (by omega)]; exact i1 k (by omega)
  · rintro n' t ⟨i1, i2, i3, i4⟩
    show Wo (fX12_hold_s20 _ _ _ _) _
    unfold fX12_hold_s20
    rw [if_pos (by decide), Wo_some]
    refine ⟨rfl, i1, i2, by dsimp only; rw [i3 47 (by omega), rd_Is], fun i hi => by dsimp only; rw [i3 47 (by omega), rd_Ik hi], fun j a b => by dsimp only; rw [i3 j b, rd_Ii a], i4⟩
/-- a slot's number: both say no, or it is one -/
theorem slot_cases (x : Int32) : (x < 0 ∨ 3 ≤ x) ∨ ∃ s, s < 3 ∧ x = nI s := by
  rcases pk_ix x (n := 3) (by omega) with h | h | h
  · exact Or.inl (Or.inl h)
  · exact Or.inl (Or.inr h)
  · exact Or.inr h
theorem r_hold {μ ν : Mem} (h : REL μ ν) (z0 : Int32) : ∃ (r : Int32) (μ' : Mem) (ν' : Mem), fX11_hold z0 μ = some (r, μ') ∧ fX12_hold z0 ν = some (r, ν') ∧ REL μ' ν' := by
  have h' := h
  obtain ⟨w, L, R, a1, a2, a3, a4, a5, a6, a7, a8, a9, a10, a11, a12⟩ := h'
  rcases slot_cases z0 with hz | ⟨s, hs, rfl⟩
  · unfold fX11_hold fX0_keep fX12_hold
    rw [in_c, b1_some, if_pos (show z0 < 0 ∨ 2 < z0 by grind), if_pos rfl]
    by_cases c : z0 < 0
    · rw [if_pos c, b2_some]; exact ⟨_, _, _, rfl, rfl, h⟩
    · rw [if_neg c, if_neg (by grind), b2_some]; exact ⟨_, _, _, rfl, rfl, h⟩
  · obtain ⟨⟨r, μ'⟩, e1, h1, h2, h3, h4, h5, h6⟩ := hold_c a5 hs
    obtain ⟨⟨r', ν'⟩, e2, k1, k2, k3, k4, k5, k6, k7⟩ := hold_m a6 hs
    dsimp only at h1 h2 h3 h4 h5 h6 k1 k2 k3 k4 k5 k6 k7
    subst h1; subst k1
    refine ⟨_, μ', ν', e1, e2, ?_⟩
    refine REL_slot a1 a2 a3 a4 a5 a6 a7 a9 a10 a11 a12 ?_ (fun j a => h5 j (by omega) (by omega) (by omega)) h6 k6 k7
    intro s' hs'
    by_cases he : s' = s
    · subst he
      exact Or.inr ⟨R, a4, h3, k4, h2, k2⟩
    · rw [h4 s' he, k5 s' he]
      rcases a8 s' hs' with hx | ⟨R1, b1, b2, b3, b4, b5⟩
      · exact Or.inl hx
      · refine Or.inr ⟨R1, b1, b2, b3, SF_fr b4 (h5 _ (by omega) (by omega) (by omega)) (h5 _ (by omega) (by omega) (by omega)), fun k hk => ?_⟩
        rw [k3 _ (by omega)]; exact b5 k hk
theorem restore_m {ν : Mem} {R : Rw} {s : Nat} (hs : s < 3) (h1 : ν.1 47 s = 1) (h2 : ∀ k, k < 39 → ν.1 48 (39 * s + k) = R k) : Wo (fX12_restore (nI s) ν) (fun p => p.1 = 1 ∧ NR p.2 R ∧ p.2.1 0 53 = 0 ∧ (∀ j, j ≠ 0 → j ≠ 31 → p.2.1 j = ν.1 j) ∧ (∀ k, k ≠ 53 → p.2.1 0 k = ν.1 0 k) ∧ p.2.2 = ν.2) := by
  unfold fX12_restore
  rw [in_c, b1_some, if_neg (show ¬ (nI s < 0 ∨ 2 < nI s) from fun h => h.elim (nI_pos (by omega)) (by simp (disch := omega) only [L_add, L_add2, L_mul, L_mul2, L_sub, nI_add, pk_mul, pk_sub, L_le, L_le2, L_lt, L_lt2, L_eq, L_eq2, nI_leI, nI_ltI, nI_eq, nI_clamp, ix_nI, ix_lit, L_cl]; omega)), if_neg n10, ix_nI (by omega) (by omega), gd_true, nI_clamp (by omega), h1, if_neg n10]
  refine lp0 (fun n' x t => fX12_restore_l22 (nI s) n' x t) 39 (by omega) (fun i t => (∀ k, k < i → t.1 31 k = R k) ∧ (∀ j, j ≠ 31 → t.1 j = ν.1 j) ∧ t.2 = ν.2) _ _ ⟨fun k hk => by omega, fun _ _ => rfl, rfl⟩ ?_ ?_
  · rintro n' i t hi ⟨i1, i3, i4⟩ hrec
    show Wo (fX12_restore_s22 _ _ _ _) _
    unfold fX12_restore_s22
    rw [if_neg (by simp (disch := omega) only [L_add, L_add2, L_mul, L_mul2, L_sub, nI_add, pk_mul, pk_sub, L_le, L_le2, L_lt, L_lt2, L_eq, L_eq2, nI_leI, nI_ltI, nI_eq, nI_clamp, ix_nI, ix_lit, L_cl]; omega)]
    simp (disch := omega) only [L_add, L_add2, L_mul, L_mul2, L_sub, nI_add, pk_mul, pk_sub, L_le, L_le2, L_lt, L_lt2, L_eq, L_eq2, nI_leI, nI_ltI, nI_eq, nI_clamp, ix_nI, ix_lit, L_cl, Wo_b1, Wo_b2, Wo_gd, Wo_some, Wo_bd, b1_some, b2_some, gd_true, bd_eq, true_and]
    refine hrec _ ⟨fun k hk => ?_, fun j hj => by rw [rd_Ii hj]; exact i3 j hj, i4⟩
    by_cases he : k = i
    · subst he; rw [rd_Is, i3 48 (by omega)]; exact h2 k (by omega)
    · rw [rd_Ik (by omega)]; exact i1 k (by omega)
  · rintro n' t ⟨i1, i3, i4⟩
    show Wo (fX12_restore_s22 _ _ _ _) _
    unfold fX12_restore_s22
    rw [if_pos (by decide), bd_eq, Wo_some]
    exact ⟨rfl, fun k hk => by dsimp only; rw [rd_Ii (by omega)]; exact i1 k hk, rd_Is, fun j a b => by dsimp only; rw [rd_Ii a]; exact i3 j b, fun k a => by dsimp only; rw [rd_Ik a, i3 0 (by omega)], i4⟩
theorem restore_c {μ : Mem} {pan R : Rw} {s : Nat} (hs : s < 3) (h1 : μ.1 119 s = 1) (h2 : SF μ (113 + 2 * s) pan R) : Wo (fX11_restore (nI s) μ) (fun p => p.1 = 1 ∧ SF p.2 24 pan R ∧ p.2.1 30 4 = 0 ∧ p.2.1 30 3 = μ.1 30 3 ∧ (∀ j, ¬ (24 ≤ j ∧ j ≤ 25) → j ≠ 30 → p.2.1 j = μ.1 j) ∧ p.2.2 = μ.2) := by
  unfold fX11_restore fX0_fetch
  rw [if_neg (nI_pos (by omega)), if_neg (by simp (disch := omega) only [L_add, L_add2, L_mul, L_mul2, L_sub, nI_add, pk_mul, pk_sub, L_le, L_le2, L_lt, L_lt2, L_eq, L_eq2, nI_leI, nI_ltI, nI_eq, nI_clamp, ix_nI, ix_lit, L_cl]; omega), ix_nI (by omega) (by omega), gd_true, nI_clamp (by omega), h1, if_neg n10, gd_true, Wo_b2, Wo_b1]
  refine Wo_mono (copyF_c (q := 24) (q1 := 112 + 1 + 2 * s) h2 (by omega) (by omega) (by omega)) ?_
  rintro μ1 ⟨k1, k2, k3⟩
  rw [bd_eq, Wo_some, Wo_some]
  exact ⟨by show (1 : Int32) &&& 1 = 1; decide, SF_fr k3 (rd_Ii (by omega)) (rd_Ii (by omega)), rd_Is, by dsimp only; rw [rd_Ik (by omega), k1 30 (by omega) (by omega)], fun j a b => by dsimp only; rw [rd_Ii b]; exact k1 j (by omega) (by omega), k2⟩
theorem r_restore {μ ν : Mem} (h : REL μ ν) (z0 : Int32) : ∃ (r : Int32) (μ' : Mem) (ν' : Mem), fX11_restore z0 μ = some (r, μ') ∧ fX12_restore z0 ν = some (r, ν') ∧ REL μ' ν' := by
  have h' := h
  obtain ⟨w, L, R, a1, a2, a3, a4, a5, a6, ⟨hs, c1, c2, c3⟩, a8, a9, a10, a11, a12⟩ := h'
  rcases slot_cases z0 with hz | ⟨s, hs, rfl⟩
  · unfold fX11_restore fX0_fetch fX12_restore
    rw [in_c, b1_some, if_pos (show z0 < 0 ∨ 2 < z0 by grind), if_pos rfl]
    by_cases c : z0 < 0
    · rw [if_pos c, b2_some]; exact ⟨_, _, _, rfl, rfl, h⟩
    · rw [if_neg c, if_pos (by grind), b2_some]; exact ⟨_, _, _, rfl, rfl, h⟩
  · rcases a8 s hs with ⟨hx, hy⟩ | ⟨R1, b1, b2, b3, b4, b5⟩
    · unfold fX11_restore fX0_fetch fX12_restore
      rw [in_c, b1_some, if_neg (show ¬ (nI s < 0 ∨ 2 < nI s) from fun h => h.elim (nI_pos (by omega)) (by simp (disch := omega) only [L_add, L_add2, L_mul, L_mul2, L_sub, nI_add, pk_mul, pk_sub, L_le, L_le2, L_lt, L_lt2, L_eq, L_eq2, nI_leI, nI_ltI, nI_eq, nI_clamp, ix_nI, ix_lit, L_cl]; omega)), if_neg n10, if_neg (nI_pos (by omega)), if_neg (by simp (disch := omega) only [L_add, L_add2, L_mul, L_mul2, L_sub, nI_add, pk_mul, pk_sub, L_le, L_le2, L_lt, L_lt2, L_eq, L_eq2, nI_leI, nI_ltI, nI_eq, nI_clamp, ix_nI, ix_lit, L_cl]; omega), ix_nI (by omega) (by omega), gd_true, gd_true, nI_clamp (by omega), hx, hy, if_pos rfl, if_pos rfl, b2_some]
      exact ⟨_, _, _, rfl, rfl, h⟩
    · obtain ⟨⟨r, μ'⟩, e1, h1, h2, h3, h4, h5, h6⟩ := restore_c hs b2 b4
      obtain ⟨⟨r', ν'⟩, e2, k1, k2, k3, k4, k5, k6⟩ := restore_m hs b3 b5
      dsimp only at h1 h2 h3 h4 h5 h6 k1 k2 k3 k4 k5 k6
      subst h1; subst k1
      refine ⟨_, μ', ν', e1, e2, ?_⟩
      obtain ⟨d1, nw, d2, d3, d4⟩ := c2
      exact REL_new (hs' := []) a1 a2 a3 a8 a9 a10 a11 a12 b1 h2 k2 (fun R hR => by cases hR) ⟨h3, nw, d2, h4.trans d3, fun i R hi => by simp at hi⟩ ⟨by simp, k3, fun i R hi => by simp at hi⟩ (fun j a b => h5 j (by omega) (by omega)) h6 (fun j a b => k4 j a (by omega)) (fun k a b => k5 k b) k6
theorem REL_told {μ ν μ' ν' : Mem} (h : REL μ ν) (t : TT μ' ν') (fc : ∀ j, ¬ (186 ≤ j ∧ j ≤ 189) → μ'.1 j = μ.1 j) (fc2 : μ'.2 = μ.2) (fm : ∀ j, j ≠ 0 → ¬ (44 ≤ j ∧ j ≤ 46) → ν'.1 j = ν.1 j) (fm0 : ∀ k, k ≠ 63 → ν'.1 0 k = ν.1 0 k) (fm2 : ν'.2 = ν.2) : REL μ' ν' := by
  obtain ⟨w, L, R, a1, a2, a3, a4, a5, a6, a7, a8, a9, a10, a11, a12⟩ := h
  refine ⟨w, L, R, a1, ?_, ?_, a4, ?_, ?_, ?_, ?_, t, ?_, ?_, ?_⟩
  · exact QC_fr a2 (fun j _ _ => fc j (by omega))
  · exact QL_fr a3 (fun j _ _ => fm j (by omega) (by omega)) (fm0 18 (by omega))
  · exact SF_fr a5 (fc 24 (by omega)) (fc 25 (by omega))
  · exact NR_fr a6 (fm 31 (by omega) (by omega))
  · exact HH_fr a7 (fun j _ _ => fc j (by omega)) (fm 35 (by omega) (by omega)) (fm0 53 (by omega))
  · exact SS_fr a8 (fun j _ _ => fc j (by omega)) (fm 47 (by omega) (by omega)) (fm 48 (by omega) (by omega))
  · exact TP_fr a10 (by rw [fc 1 (by omega)]) (fm0 2 (by omega)) (fc 2 (by omega)) (fm 1 (by omega) (by omega))
  · rw [fc 1 (by omega), fm0 17 (by omega)]; exact a11
  · exact WT_fr a12 (MqE_of (fun j hj => fc j (by omega))) (by rw [fc2]) (by rw [fm2])
theorem r_forget {μ ν : Mem} (h : REL μ ν) : ∃ (r : Int32) (μ' : Mem) (ν' : Mem), fX11_forget μ = some (r, μ') ∧ fX12_forget ν = some (r, ν') ∧ REL μ' ν' := by
  have h' := h
  obtain ⟨w, L, R, a1, a2, a3, a4, a5, a6, a7, a8, ⟨t, t1, t2, t3, t4⟩, a10, a11, a12⟩ := h'
  unfold fX11_forget fX12_forget
  rw [bd_eq, bd_eq, bd_eq, bd_eq, t2, t3]
  refine ⟨_, _, _, rfl, rfl, REL_told h ⟨0, by omega, rd_Is, rd_Is, fun i hi => by omega⟩ (fun j hj => rd_Ii (by omega)) rfl (fun j a b => rd_Ii a) (fun k a => rd_Ik a) rfl⟩
theorem and1 {z : Int32} (h : z = 0 ∨ z = 1) : z &&& 1 = z := by rcases h with rfl | rfl <;> decide
theorem r_tell {μ ν : Mem} (h : REL μ ν) (z0 : Int32) (z1 : Int32) (z2 : Int32) (hz2 : z2 = 0 ∨ z2 = 1) : ∃ (r : Int32) (μ' : Mem) (ν' : Mem), fX11_tell z0 z1 z2 μ = some (r, μ') ∧ fX12_tell z0 z1 z2 ν = some (r, ν') ∧ REL μ' ν' := by
  have h' := h
  obtain ⟨w, L, R, a1, a2, a3, a4, a5, a6, a7, a8, ⟨t, t1, t2, t3, t4⟩, a10, a11, a12⟩ := h'
  unfold fX11_tell fX12_tell fX9_add
  by_cases c0 : z0 < 0 ∨ 3 < z0
  · have e1 : fX12_in z0 0 3 = some 0 := by rw [in_c, if_pos c0]
    rw [e1, b1_some, if_pos rfl]
    have e2 : (if ν.1 0 63 = 20 then some ((-1 : Int32), ν) else some (-1, ν)) = some (-1, ν) := by split <;> rfl
    rw [e2]
    by_cases c : z0 < 0
    · rw [if_pos c]; exact ⟨_, _, _, rfl, rfl, h⟩
    · rw [if_neg c, if_pos (by grind)]; exact ⟨_, _, _, rfl, rfl, h⟩
  · have e1 : fX12_in z0 0 3 = some 1 := by rw [in_c, if_neg c0]
    rw [e1, b1_some, if_neg n10, if_neg (show ¬ z0 < 0 by grind), if_neg (show ¬ 4 ≤ z0 by grind)]
    by_cases c1 : z1 < 0 ∨ 999 < z1
    · have e3 : fX12_in z1 0 999 = some 0 := by rw [in_c, if_pos c1]
      rw [e3, b1_some, if_pos rfl]
      have e2 : (if ν.1 0 63 = 20 then some ((-1 : Int32), ν) else some (-1, ν)) = some (-1, ν) := by split <;> rfl
      rw [e2]
      by_cases c : z1 < 0
      · rw [if_pos c]; exact ⟨_, _, _, rfl, rfl, h⟩
      · rw [if_neg c, if_neg (by grind)]; exact ⟨_, _, _, rfl, rfl, h⟩
    · have e3 : fX12_in z1 0 999 = some 1 := by rw [in_c, if_neg c1]
      rw [e3, b1_some, if_neg n10, if_neg (show ¬ z1 < 0 by grind), if_pos (show z1 ≤ 999 by grind), t2, t3]
      by_cases c2 : t = 20
      · subst c2
        rw [if_pos (show nI 20 = 20 from rfl), if_neg (show ¬ nI 20 < 20 by decide), b2_some]; exact ⟨_, _, _, rfl, rfl, h⟩
      · obtain ⟨m, hm, rfl⟩ := nI_of (show ¬ z0 < 0 by grind)
        have hm4 : m < 4 := by
          have : ¬ 3 < nI m := fun hx => c0 (Or.inr hx)
          rw [L_lt (by omega) (by omega)] at this
          omega
        rw [if_neg (show ¬ nI t = 20 by simp (disch := omega) only [L_add, L_add2, L_mul, L_mul2, L_sub, nI_add, pk_mul, pk_sub, L_le, L_le2, L_lt, L_lt2, L_eq, L_eq2, nI_leI, nI_ltI, nI_eq, nI_clamp, ix_nI, ix_lit, L_cl]; omega), if_pos (show nI t < 20 by simp (disch := omega) only [L_add, L_add2, L_mul, L_mul2, L_sub, nI_add, pk_mul, pk_sub, L_le, L_le2, L_lt, L_lt2, L_eq, L_eq2, nI_leI, nI_ltI, nI_eq, nI_clamp, ix_nI, ix_lit, L_cl]; omega)]
        simp (disch := omega) only [t2, t3, L_add, L_add2, L_mul, L_mul2, L_sub, nI_add, pk_mul, pk_sub, L_le, L_le2, L_lt, L_lt2, L_eq, L_eq2, nI_leI, nI_ltI, nI_eq, nI_clamp, ix_nI, ix_lit, L_cl, Wo_b1, Wo_b2, Wo_gd, Wo_some, Wo_bd, b1_some, b2_some, gd_true, bd_eq, true_and, rd_Ii, rd_Is, and1 hz2]
        refine ⟨_, _, _, rfl, rfl, REL_told h ⟨t + 1, by omega, rd_Is, rd_Is, fun i hi => ?_⟩ ?_ rfl ?_ ?_ rfl⟩
        · simp (disch := omega) only [rd_Ii]
          by_cases he : i = t
          · subst he
            simp (disch := omega) only [rd_Is, rd_Ii]
            exact ⟨m, hm4, rfl, rfl, trivial, trivial, hz2⟩
          · simp (disch := omega) only [rd_Ik, rd_Ii]
            exact t4 i (by omega)
        · intro j hj; simp (disch := omega) only [rd_Ii]
        · intro j a b; simp (disch := omega) only [rd_Ii]
        · intro k a; simp (disch := omega) only [rd_Ik, rd_Ii]
