theorem t12_s (n : Nat) (K : Mem → Option Mem) (y : Int32) (ν : Mem) : fX12_tellLaw_l12 K (n + 1) y ν = fX12_tellLaw_s12 (fX12_tellLaw_l12 K n) K y ν := rfl
theorem lawl_m {tk : Nat → Nat} {tv : Nat → Int32} {tn : Nat → Int64} {pl : Nat → Int32} {e : Nat} {ν0 : Mem} {sd bc ec bu ub : Nat} {x1 x2 : Int32} {Q : Mem → Prop} (hT : TE tk e) (hK : TKm tk tv tn pl e ν0) (hub : ub = 420 * sd + 420) (hsd : sd < 2) (hbu : bu ≤ 260) (hec : 420 * sd ≤ ec) (hb : bc + 6 < bu) {r : Nat} : ∀ {bs : Bs} {t eq i N : Nat} {ν : Mem}, r + i = 4 → 5 < N + i → bs.length = i → t ≤ e → eq ≤ 420 * sd + t → BLm ν0 sd bc ec bu ub bs t eq ν → (∀ x t' ν', pIf tk tv r t bs = .error (x, t') → FLm pl ν0 bc bu ec ub x t' ν' → Q ν') → (∀ bs' t' eq' ν', pIf tk tv r t bs = .ok (bs', t') → t + 7 * bs'.length ≤ t' + 7 * bs.length → bs'.length ≤ 4 → t' ≤ e → eq' ≤ 420 * sd + t' → eq' + t ≤ eq + t' → BLm ν0 sd bc ec bu ub bs' t' eq' ν' → Wo (fX12_tellLaw_b129 x1 x2 ν') Q) → Wo (fX12_tellLaw_l12 (fun μ32 => fX12_tellLaw_b129 x1 x2 μ32) N (nI i) ν) Q := by
  have h400 := hT.1
  induction r with
  | zero =>
    intro bs t eq i N ν hi hN hl ht heq hB herr hok
    obtain ⟨N, rfl⟩ : ∃ n', N = n' + 1 := ⟨N - 1, by omega⟩
    have hi4 : i = 4 := by omega
    rw [t12_s]
    unfold fX12_tellLaw_s12
    have hB' := hB
    obtain ⟨b13, b11, b12, b39, beq, b33, bP, bF⟩ := hB
    have hK1 := TKm_FY hK bF
    rw [b13, if_pos rfl, show (29 : Int32) = nI 29 from rfl, is_m hT hK1 b13 b11 ht (by omega), b1_some]
    have hp : pIf tk tv 0 t bs = if tk t = 29 then .error (2, t) else .ok (bs, t) := rfl
    by_cases h : tk t = 29
    · rw [if_pos h, if_neg n10, if_pos (by rw [hi4]; rfl), show (2 : Int32) = nI 2 from rfl, fail_m hT hK1 b13 b11 ht, b1_some]
      unfold fX12_tellLaw_b38
      rw [rd_Ik (by omega), rd_Is, if_neg (by decide), Wo_some]
      exact herr 2 t _ (by rw [hp, if_pos h]) ⟨by rw [rd_Ik (by omega), rd_Is], rd_Is, FYm_0 (FYm_0 bF (Or.inl (Or.inl (by omega)))) (Or.inl (Or.inl (by omega)))⟩
    · rw [if_neg h, if_pos rfl]
      exact hok bs t eq ν (by rw [hp, if_neg h]) (Nat.le_refl _) (by omega) ht heq (Nat.le_refl _) hB'
  | succ r ih =>
    intro bs t eq i N ν hi hN hl ht heq hB herr hok
    obtain ⟨N, rfl⟩ : ∃ n', N = n' + 1 + 1 := ⟨N - 2, by omega⟩
    rw [t12_s]
    unfold fX12_tellLaw_s12
    have hB' := hB
    obtain ⟨b13, b11, b12, b39, beq, b33, bP, bF⟩ := hB
    have hK1 := TKm_FY hK bF
    rw [b13, if_pos rfl, show (29 : Int32) = nI 29 from rfl, is_m hT hK1 b13 b11 ht (by omega), b1_some]
    have hp : pIf tk tv (r + 1) t bs = if tk t = 29 then exB (pBr tk tv t) (fun q => pIf tk tv r q.2 (bs ++ [q.1])) else .ok (bs, t) := rfl
    by_cases h : tk t = 29
    · rw [if_pos h, if_neg n10, if_neg (by rw [show (4 : Int32) = nI 4 from rfl]; simp (disch := omega) only [L_add, L_add2, L_mul, L_mul2, L_sub, nI_add, pk_mul, pk_sub, L_le, L_le2, L_lt, L_lt2, L_eq, L_eq2, nI_leI, nI_ltI, nI_eq, nI_clamp, ix_nI, ix_lit, L_cl]; omega)]
      rw [if_pos h] at hp
      refine brn_m (tv := tv) hT hK hub hsd hbu hec ht heq (by omega) hB' h (fun x t' ν' hb1 hF => ?_) (fun p t' eq' ν' hb1 l1 l2 l3 l4 hB1 => ?_)
      · exact herr x t' ν' (by rw [hp, hb1]; rfl) hF
      · rw [hb1, exB_ok] at hp
        rw [nI_1]
        have hlen : (bs ++ [p]).length = bs.length + 1 := by rw [List.length_append]; rfl
        refine ih (by omega) (by omega) (by omega) l2 l3 hB1 (fun x t'' ν'' hq => herr x t'' ν'' (by rw [hp]; exact hq)) (fun bs' t'' eq'' ν'' hq g1 g2 g3 g4 g5 => hok bs' t'' eq'' ν'' (by rw [hp]; exact hq) (by omega) g2 g3 g4 (by omega))
    · rw [if_neg h] at hp
      rw [if_neg h, if_pos rfl]
      exact hok bs t eq ν hp (Nat.le_refl _) (by omega) ht heq (Nat.le_refl _) hB'
def FGm (ν0 : Mem) (k sd bc ec : Nat) (ν : Mem) : Prop := (∀ j, j ≠ 0 → j ≠ 19 → j ≠ 20 → ¬ (21 ≤ j ∧ j ≤ 28) → ν.1 j = ν0.1 j) ∧ (∀ k, ¬ f0 k → k ≠ 33 → ν.1 0 k = ν0.1 0 k) ∧ ν.2 = ν0.2 ∧ (∀ j, 21 ≤ j → j ≤ 25 → ∀ i, i < bc ∨ 130 * sd + 130 ≤ i → ν.1 j i = ν0.1 j i) ∧ (∀ i, i < ec ∨ 420 * sd + 420 ≤ i → ν.1 26 i = ν0.1 26 i ∧ ν.1 27 i = ν0.1 27 i) ∧ ∀ i, i ≠ 4 * sd + k → ν.1 19 i = ν0.1 19 i ∧ ν.1 20 i = ν0.1 20 i
theorem FYm_FG {ν0 ν : Mem} {k sd bc ec : Nat} (h : FYm ν0 bc (130 * sd + 130) ec (420 * sd + 420) ν) : FGm ν0 k sd bc ec ν := ⟨fun j a _ _ b => h.1 j a b, h.2.1, h.2.2.1, h.2.2.2.1, h.2.2.2.2, fun i _ => by rw [h.1 19 (by omega) (by omega), h.1 20 (by omega) (by omega)]; exact ⟨rfl, rfl⟩⟩
def RLm (pl : Nat → Int32) (k sd e t bc ec : Nat) (ν : Mem) (r : Except (Nat × Nat) ((Bs × Cd) × Nat)) (ν' : Mem) : Prop := match r with
  | .error (x, t') => ν'.1 0 13 = nI x ∧ ν'.1 0 14 = pl t' ∧ FGm ν k sd bc ec ν'
  | .ok (D, t') => ν'.1 0 13 = 0 ∧ ν'.1 0 11 = nI t' ∧ ν'.1 0 12 = 0 ∧ ∃ bc' ec', ν'.1 0 33 = nI bc' ∧ ν'.1 0 39 = nI ec' ∧ bc' = bc + D.1.length + 1 ∧ ec ≤ ec' ∧ 4 * bc' ≤ 520 * sd + t' ∧ ec' ≤ 420 * sd + t' ∧ LayN ν' sd bc' ec' D bc ∧ ν'.1 19 (4 * sd + k) = nI bc ∧ ν'.1 20 (4 * sd + k) = nI bc' ∧ FGm ν k sd bc ec ν' ∧ t < t' ∧ t' ≤ e
theorem tellLaw_m {tk : Nat → Nat} {tv : Nat → Int32} {tn : Nat → Int64} {pl : Nat → Int32} {e : Nat} {t bc ec k sd : Nat} {ν : Mem} (hT : TE tk e) (hK : TKm tk tv tn pl e ν) (h13 : ν.1 0 13 = 0) (h11 : ν.1 0 11 = nI t) (h12 : ν.1 0 12 = 0) (h33 : ν.1 0 33 = nI bc) (h39 : ν.1 0 39 = nI ec) (h19 : ν.1 0 19 = nI sd) (hsd : sd < 2) (ht : t ≤ e) (hec : 420 * sd ≤ ec) (hec2 : ec ≤ 420 * sd + t) (hbc : 130 * sd ≤ bc) (hbc2 : 4 * bc + 1 ≤ 520 * sd + t) (hk : k < 4) : Wo (fX12_tellLaw (nI k) ν) (RLm pl k sd e t bc ec ν (pLw tk tv t)) := by
  have h400 := hT.1
  unfold fX12_tellLaw
  rw [show (5 : Int32) = nI 5 from rfl]
  refine mstM hT hK h13 h11 ht (by omega) (by omega) (by omega) (fun x hx hp => ?_) (fun p1 _ _ m1 => ?_)
  · have hL : pLw tk tv t = .error (x, t) := by unfold pLw; rw [hp]; rfl
    have hF : FYm ν bc (130 * sd + 130) ec (420 * sd + 420) (upI (upI ν 0 13 (nI x)) 0 14 (pl t)) := FYm_0 (FYm_0 FYm_rfl (Or.inl (Or.inl (by omega)))) (Or.inl (Or.inl (by omega)))
    generalize hν1 : upI (upI ν 0 13 (nI x)) 0 14 (pl t) = ν1
    have g13 : ν1.1 0 13 = nI x := by rw [← hν1, rd_Ik (by omega), rd_Is]
    have g14 : ν1.1 0 14 = pl t := by rw [← hν1, rd_Is]
    have g33 : ν1.1 0 33 = nI bc := by rw [← hν1, rd_Ik (by omega), rd_Ik (by omega)]; exact h33
    rw [hν1] at hF
    rw [bd_eq, show FU = 99999 + 1 from rfl, t12_s]
    unfold fX12_tellLaw_s12
    rw [g13, if_neg (nI_ne0 (by omega) (by omega))]
    refine b129_f (pl := pl) (ν0 := ν) (bc := bc) (bu := 130 * sd + 130) (ec := ec) (ub := 420 * sd + 420) (x := x) (t' := t) (b := bc) ⟨⟨g13, g14, hF⟩, hx, g33⟩ (by omega) (by omega) (fun ν' h' => ?_)
    rw [hL]
    exact ⟨h'.1, h'.2.1, FYm_FG h'.2.2⟩
  · have e33 : (upI ν 0 11 (nI (t + 1))).1 0 33 = nI bc := by rw [rd_Ik (by omega)]; exact h33
    rw [e33, bd_eq]
    have hL : pLw tk tv t = exB (pIf tk tv 4 (t + 1) []) (fun q => exB (pE tk tv q.2) (fun q2 => exB (pTk tk 4 q2.2) (fun t => .ok ((q.1, q2.1), t)))) := by unfold pLw; rw [p1, exB_ok]
    have hF0 : FYm ν bc (130 * sd + 130) ec (420 * sd + 420) (upI ν 0 11 (nI (t + 1))) := FYm_0 FYm_rfl (Or.inl (Or.inl (by omega)))
    show Wo (fX12_tellLaw_l12 (fun μ32 => fX12_tellLaw_b129 (nI k) (nI bc) μ32) FU (nI 0) _) _
    refine lawl_m (tv := tv) (ν0 := ν) (sd := sd) (bc := bc) (ec := ec) (bu := 130 * sd + 130) (ub := 420 * sd + 420) hT hK rfl hsd (by omega) hec (by omega) (r := 4) (bs := []) (t := t + 1) (eq := ec) (i := 0) (by omega) (by unfold FU; omega) rfl m1 (by omega) ⟨by rw [rd_Ik (by omega)]; exact h13, rd_Is, by rw [rd_Ik (by omega)]; exact h12, by rw [rd_Ik (by omega)]; exact h39, Nat.le_refl _, e33, fun k p hp => by simp at hp, hF0⟩ (fun x t' ν' hp hF => ?_) (fun bs t1 eq1 ν1 hp l1 l2 l3 l4 l5 hB => ?_)
    · rw [hL, hp]
      exact ⟨hF.1, hF.2.1, FYm_FG hF.2.2⟩
    · obtain ⟨b13, b11, b12, b39, beq, b33, bP, bF⟩ := hB
      rw [hp, exB_ok] at hL
      dsimp only at hL
      dsimp only [List.length_nil] at l1
      unfold fX12_tellLaw_b129 fX12_term
      rw [b33, ix_nI (by omega) (by omega), gd_true, nI_clamp (by omega), bd_eq]
      have g1 : FYm ν bc (130 * sd + 130) ec (420 * sd + 420) (upI ν1 21 (bc + bs.length) 0) := FYm_b bF (by omega) (by omega)
      have g33 : (upI ν1 21 (bc + bs.length) 0).1 0 33 = nI (bc + bs.length) := by rw [rd_Ii (by omega)]; exact b33
      rw [g33, ix_nI (by omega) (by omega), gd_true, nI_clamp (by omega), rd_Ii (by omega), b39, bd_eq, rd_Ii (by omega), rd_Ii (by omega), b13, if_pos rfl]
      generalize hν2 : upI (upI ν1 21 (bc + bs.length) 0) 24 (bc + bs.length) (nI eq1) = ν2
      have f2 : FYm ν bc (130 * sd + 130) ec (420 * sd + 420) ν2 := by rw [← hν2]; exact FYm_b g1 (by omega) (by omega)
      have z0 : ν2.1 0 = ν1.1 0 := by rw [← hν2, rd_Ii (by omega), rd_Ii (by omega)]
      have z21 : ν2.1 21 (bc + bs.length) = 0 := by rw [← hν2, rd_Ii (by omega), rd_Is]
      have z24 : ν2.1 24 (bc + bs.length) = nI eq1 := by rw [← hν2, rd_Is]
      have zP : PreM ν2 sd eq1 bs bc := by
        rw [← hν2]
        refine PreM_keep bP (Nat.le_refl _) (fun j a b i c d => ?_) (fun i _ _ => by simp (disch := omega) only [rd_Ii, and_self])
        by_cases e24 : j = 24
        · subst e24; rw [rd_Ik (by omega), rd_Ii (by omega)]
        · by_cases e21 : j = 21
          · subst e21; rw [rd_Ii (by omega), rd_Ik (by omega)]
          · rw [rd_Ii e24, rd_Ii e21]
      rw [Wo_b1]
      refine expM (tv := tv) (ec := eq1) (ub := 420 * sd + 420) hT (TKm_FY hK f2) (by omega) (by rw [z0]; exact b13) (by rw [z0]; exact b11) (by rw [z0]; exact b12) (by rw [z0]; exact b39) l3 (by omega) (fun x t' ν' hx hq hF => ?_) (fun cf t2 ν3 hq o1 u1 u2 e1 u3 => ?_)
      · have nf : ¬ f0 33 := by unfold f0; omega
        have y33 : ν'.1 0 33 = nI (bc + bs.length) := by rw [hF.2.2.2.2.1 33 nf, z0]; exact b33
        have fF := FYm_X f2 hF.2.2.2 beq hF.2.2.1
        unfold fX12_term_b24
        rw [y33, ix_nI (by omega) (by omega), gd_true, nI_clamp (by omega), bd_eq, bd_eq, Wo_some]
        generalize hν4 : upI (upI ν' 25 (bc + bs.length) (ν'.1 0 39)) 0 33 ((upI ν' 25 (bc + bs.length) (ν'.1 0 39)).1 0 33 + 1) = ν4
        have q13 : ν4.1 0 13 = nI x := by rw [← hν4, rd_Ik (by omega), rd_Ii (by omega)]; exact hF.1
        have q14 : ν4.1 0 14 = pl t' := by rw [← hν4, rd_Ik (by omega), rd_Ii (by omega)]; exact hF.2.1
        have q4 : FYm ν bc (130 * sd + 130) ec (420 * sd + 420) ν4 := by rw [← hν4]; exact FYm_0 (FYm_b fF (by omega) (by omega)) (Or.inr rfl)
        rw [must_f q13 hx, b1_some, q13, if_neg (nI_nle (by omega) (by omega)), Wo_some, hL, hq]
        exact ⟨q13, q14, FYm_FG q4⟩
      · obtain ⟨o13, o11, o12, o39, oS, oC, oF⟩ := o1
        rw [hq, exB_ok] at hL
        dsimp only at hL
        have nf : ¬ f0 33 := by unfold f0; omega
        have y33 : ν3.1 0 33 = nI (bc + bs.length) := by rw [oF.2.1 33 nf, z0]; exact b33
        have f3 := FYm_X f2 oF beq oC
        unfold fX12_term_b24
        rw [y33, ix_nI (by omega) (by omega), gd_true, nI_clamp (by omega), o39, bd_eq, rd_Ii (by omega), y33, nI_1, bd_eq, Wo_some]
        generalize hν4 : upI (upI ν3 25 (bc + bs.length) (nI (eq1 + cf.length))) 0 33 (nI (bc + bs.length + 1)) = ν4
        have v0 : ∀ k, k ≠ 33 → ν4.1 0 k = ν3.1 0 k := fun k hk => by rw [← hν4, rd_Ik hk, rd_Ii (by omega)]
        have v33 : ν4.1 0 33 = nI (bc + bs.length + 1) := by rw [← hν4, rd_Is]
        have v25 : ν4.1 25 (bc + bs.length) = nI (eq1 + cf.length) := by rw [← hν4, rd_Ii (by omega), rd_Is]
        have vj : ∀ j, j ≠ 0 → j ≠ 25 → ν4.1 j = ν3.1 j := fun j a b => by rw [← hν4, rd_Ii a, rd_Ii b]
        have v25' : ∀ i, i ≠ bc + bs.length → ν4.1 25 i = ν3.1 25 i := fun i hi => by rw [← hν4, rd_Ii (by omega), rd_Ik hi]
        have f4 : FYm ν bc (130 * sd + 130) ec (420 * sd + 420) ν4 := by rw [← hν4]; exact FYm_0 (FYm_b f3 (by omega) (by omega)) (Or.inr rfl)
        rw [show (4 : Int32) = nI 4 from rfl]
        refine mstM hT (TKm_FY hK f4) (by rw [v0 13 (by omega)]; exact o13) (by rw [v0 11 (by omega)]; exact o11) u2 (by omega) (by omega) (by omega) (fun x hx hr => ?_) (fun hr _ _ m5 => ?_)
        · rw [rd_Ik (by omega), rd_Is, if_neg (nI_nle (by omega) (by omega)), Wo_some, hL, hr]
          exact ⟨by rw [rd_Ik (by omega), rd_Is], rd_Is, FYm_FG (FYm_0 (FYm_0 f4 (Or.inl (Or.inl (by omega)))) (Or.inl (Or.inl (by omega))))⟩
        · have e19 : (upI ν4 0 11 (nI (t2 + 1))).1 0 19 = nI sd := by
            have n19 : ¬ f0 19 := by unfold f0; omega
            rw [rd_Ik (by omega), f4.2.1 19 n19 (by omega)]; exact h19
          have ei : nI 4 * nI sd + nI k = nI (4 * sd + k) := by simp (disch := omega) only [L_add, L_add2, L_mul, L_mul2, L_sub, nI_add, pk_mul, pk_sub, L_le, L_le2, L_lt, L_lt2, L_eq, L_eq2, nI_leI, nI_ltI, nI_eq, nI_clamp, ix_nI, ix_lit, L_cl]
          rw [show (upI ν4 0 11 (nI (t2 + 1))).1 0 13 = 0 by rw [rd_Ik (by omega), v0 13 (by omega)]; exact o13, if_pos (by decide), e19, ei, ix_nI (by omega) (by omega), gd_true, nI_clamp (by omega), bd_eq]
          rw [rd_Ii (by omega), e19, ei, ix_nI (by omega) (by omega), gd_true, nI_clamp (by omega), rd_Ik (by omega), v33, bd_eq, Wo_some, hL, hr, exB_ok]
          have f5 : FYm ν bc (130 * sd + 130) ec (420 * sd + 420) (upI ν4 0 11 (nI (t2 + 1))) := FYm_0 f4 (Or.inl (Or.inl (by omega)))
          generalize hν5 : upI ν4 0 11 (nI (t2 + 1)) = ν5
          rw [hν5] at f5
          have w0 : ∀ k, k ≠ 11 → ν5.1 0 k = ν4.1 0 k := fun k hk => by rw [← hν5, rd_Ik hk]
          have w11 : ν5.1 0 11 = nI (t2 + 1) := by rw [← hν5, rd_Is]
          have wj : ∀ j, j ≠ 0 → ν5.1 j = ν4.1 j := fun j a => by rw [← hν5, rd_Ii a]
          generalize hν6 : upI (upI ν5 19 (4 * sd + k) (nI bc)) 20 (4 * sd + k) (nI (bc + bs.length + 1)) = ν6
          have x0 : ν6.1 0 = ν5.1 0 := by rw [← hν6, rd_Ii (by omega), rd_Ii (by omega)]
          have xj : ∀ j, j ≠ 19 → j ≠ 20 → ν6.1 j = ν5.1 j := fun j a b => by rw [← hν6, rd_Ii b, rd_Ii a]
          have x19 : ν6.1 19 (4 * sd + k) = nI bc := by rw [← hν6, rd_Ii (by omega), rd_Is]
          have x20 : ν6.1 20 (4 * sd + k) = nI (bc + bs.length + 1) := by rw [← hν6, rd_Is]
          have x19' : ∀ i, i ≠ 4 * sd + k → ν6.1 19 i = ν5.1 19 i ∧ ν6.1 20 i = ν5.1 20 i := fun i hi => by rw [← hν6, rd_Ii (by omega), rd_Ik hi, rd_Ik hi, rd_Ii (by omega)]; exact ⟨rfl, rfl⟩
          have h5 : FGm ν k sd bc ec ν5 := FYm_FG f5
          have k63 : ∀ j, j ≠ 0 → j ≠ 19 → j ≠ 20 → j ≠ 25 → ν6.1 j = ν3.1 j := fun j a b c d => by rw [xj j b c, wj j a, vj j a d]
          refine ⟨by rw [x0, w0 13 (by omega), v0 13 (by omega)]; exact o13, by rw [x0]; exact w11, by rw [x0, w0 12 (by omega), v0 12 (by omega)]; exact o12, bc + bs.length + 1, eq1 + cf.length, by rw [x0, w0 33 (by omega)]; exact v33, by rw [x0, w0 39 (by omega), v0 39 (by omega)]; exact o39, rfl, by omega, by omega, by omega, ?_, x19, x20, ?_, by omega, m5⟩
          · refine ⟨⟨hbc, Nat.lt_succ_self _⟩, ?_, ?_, eq1, ⟨by omega, Nat.le_refl _⟩, ?_, ?_, ?_⟩
            · refine PreM_keep zP (by omega) (fun j a b i c d => ?_) (fun i a b => ?_)
              · have d' : i < bc + bs.length := d
                rw [xj j (by omega) (by omega), wj j (by omega)]
                by_cases e25 : j = 25
                · subst e25; rw [v25' i (by omega), oF.1 25 (by omega) (by omega) (by omega) (by omega)]
                · rw [vj j (by omega) e25, oF.1 j (by omega) (by omega) (by omega) (by omega)]
              · rw [k63 26 (by omega) (by omega) (by omega) (by omega), k63 27 (by omega) (by omega) (by omega) (by omega)]
                exact oC i (Or.inl b)
            · dsimp only; rw [k63 21 (by omega) (by omega) (by omega) (by omega), oF.1 21 (by omega) (by omega) (by omega) (by omega)]; exact z21
            · dsimp only; rw [k63 24 (by omega) (by omega) (by omega) (by omega), oF.1 24 (by omega) (by omega) (by omega) (by omega)]; exact z24
            · dsimp only; rw [xj 25 (by omega) (by omega), wj 25 (by omega)]; exact v25
            · exact SegM_in oS (fun i _ _ => by rw [k63 26 (by omega) (by omega) (by omega) (by omega)]) (fun i _ _ => by rw [k63 27 (by omega) (by omega) (by omega) (by omega)])
          · obtain ⟨a1, a2, a3, a4, a5, a6⟩ := h5
            exact ⟨fun j a b c d => by rw [xj j b c]; exact a1 j a b c d, fun i a b => by rw [x0]; exact a2 i a b, by rw [← hν6]; exact a3, fun j a b i c => by rw [xj j (by omega) (by omega)]; exact a4 j a b i c, fun i a => by rw [xj 26 (by omega) (by omega), xj 27 (by omega) (by omega)]; exact a5 i a, fun i hi => by have q1 := x19' i hi; have q2 := a6 i hi; exact ⟨q1.1.trans q2.1, q1.2.trans q2.2⟩⟩
