theorem ULx_all {tk : Nat → Nat} {tv : Nat → Int32} {tn : Nat → Int64} {pl : Nat → Int32} {e : Nat} {ν0 : Mem} {e0 ub : Nat} (hT : TE tk e) (hK : TKm tk tv tn pl e ν0) (h8 : ub ≤ 840) {d : Nat} (hd6 : d ≤ 6) : ULx tk tv pl e ν0 e0 ub d := by
  have h400 := hT.1
  induction d with
  | zero =>
    intro E W t n12 n23 ν Q hE ht hr hl h12 h23 hQ
    obtain ⟨n23, rfl⟩ : ∃ n', n23 = n' + 1 := ⟨n23 - 1, by omega⟩
    have hQ' : CtR pl ν0 e0 ub E W 6 (if tk t = 6 then .error (2, t) else pBs tk tv t) Q := hQ
    by_cases c6 : tk t = 6
    · rw [if_pos c6] at hQ'
      obtain ⟨hC, h13, h11, h12'⟩ := hE
      have hK1 := TKm_FX hK hC.2.2.2.2.2
      have i6 : fX12_is 6 ν = some 1 := by
        have := is_m (k := 6) hT hK1 h13 h11 ht (by omega)
        rw [if_pos c6] at this; exact this
      unfold OOx
      show Wo (fX12_expression_s23 _ _ _) _
      unfold fX12_expression_s23
      rw [i6, b1_some, if_neg n10, h12', if_pos (show nI (6 - 0) = 6 from rfl), fail_m hT hK1 h13 h11 ht, b1_some]
      unfold fX12_expression_b46
      rw [bd_eq]
      have c1 := CMx_0 (k := 12) (v := (upI (upI ν 0 13 2) 0 14 (pl t)).1 0 12 + 1) (CMx_0 (k := 14) (v := pl t) (CMx_0 (k := 13) (v := 2) hC (by omega)) (by omega)) (by omega)
      have g13 : (upI (upI (upI ν 0 13 2) 0 14 (pl t)) 0 12 ((upI (upI ν 0 13 2) 0 14 (pl t)).1 0 12 + 1)).1 0 13 = nI 2 := by rw [rd_Ik (by omega), rd_Ik (by omega), rd_Is]; rfl
      have g14 : (upI (upI (upI ν 0 13 2) 0 14 (pl t)) 0 12 ((upI (upI ν 0 13 2) 0 14 (pl t)).1 0 12 + 1)).1 0 14 = pl t := by rw [rd_Ik (by omega), rd_Is]
      rw [Wo_b1]
      refine Wo_mono (goesOn_f g13 (Or.inr rfl)) ?_
      intro ν2 hν2
      have c2 : CMx ν0 e0 ub E W ν2 ∧ ν2.1 0 13 = nI 2 ∧ ν2.1 0 14 = pl t := by
        rcases hν2 with rfl | ⟨x, rfl⟩
        · exact ⟨c1, g13, g14⟩
        · exact ⟨CMx_0 c1 (by omega), by rw [rd_Ik (by omega)]; exact g13, by rw [rd_Ik (by omega)]; exact g14⟩
      rw [c2.1.2.2.1, ix_nI (by omega) (by omega), gd_true, bd_eq, nI_clamp (by omega), rd_Ii (by omega), c2.1.2.2.1, nI_1, bd_eq]
      obtain ⟨n23, rfl⟩ : ∃ n', n23 = n' + 1 := ⟨n23 - 1, by omega⟩
      exact O_f (n12 := n12) (n23 := n23) (CMx_push (x := 6) c2.1) (by rw [rd_Ik (by omega), rd_Ii (by omega)]; exact c2.2.1) (Or.inr rfl) (by rw [rd_Ik (by omega), rd_Ii (by omega)]; exact c2.2.2) hQ'
    · rw [if_neg c6] at hQ'
      exact O_base hT hK h8 hE ht hr c6 h12 hQ'
  | succ d ih =>
    intro E W t n12 n23 ν Q hE ht hr hl h12 h23 hQ
    obtain ⟨n23, rfl⟩ : ∃ n', n23 = n' + 1 := ⟨n23 - 1, by omega⟩
    have hQ' : CtR pl ν0 e0 ub E W (6 - (d + 1)) (if tk t = 6 then (if t < 400 then pCl tk (pSm tk (pUn tk tv d) (t + 1)) else .error (2, t)) else pBs tk tv t) Q := hQ
    by_cases c6 : tk t = 6
    · rw [if_pos c6] at hQ'
      obtain ⟨hC, h13, h11, h12'⟩ := hE
      have hK1 := TKm_FX hK hC.2.2.2.2.2
      have i6 : fX12_is 6 ν = some 1 := by
        have := is_m (k := 6) hT hK1 h13 h11 ht (by omega)
        rw [if_pos c6] at this; exact this
      unfold OOx
      show Wo (fX12_expression_s23 _ _ _) _
      unfold fX12_expression_s23
      rw [i6, b1_some, if_neg n10, h12', if_neg (by simp (disch := omega) only [L_add, L_add2, L_mul, L_mul2, L_sub, nI_add, pk_mul, pk_sub, L_le, L_le2, L_lt, L_lt2, L_eq, L_eq2, nI_leI, nI_ltI, nI_eq, nI_clamp, ix_nI, ix_lit, L_cl]; omega)]
      unfold fX12_expression_b46
      rw [h12', nI_1, bd_eq, show 6 - (d + 1) + 1 = 6 - d by omega]
      have c1 := CMx_0 (k := 12) (v := nI (6 - d)) hC (by omega)
      have g11 : (upI ν 0 12 (nI (6 - d))).1 0 11 = nI t := by rw [rd_Ik (by omega)]; exact h11
      have g13 : (upI ν 0 12 (nI (6 - d))).1 0 13 = 0 := by rw [rd_Ik (by omega)]; exact h13
      by_cases h4 : t < 400
      · have hnx := TE_nx hT ht h4 (by omega) (by omega)
        rw [if_pos h4] at hQ'
        have c2 := CMx_0 (k := 11) (v := nI (t + 1)) c1 (by omega)
        rw [goesOn_ok g11 h4, b1_some, c2.2.2.1, ix_nI (by omega) (by omega), gd_true, bd_eq, nI_clamp (by omega), rd_Ii (by omega), c2.2.2.1, nI_1, bd_eq]
        have c3 := CMx_push (x := 6) c2
        have hps := pSm_ok hT (fun t ht => pUn_ok (tv := tv) (d := d) hT ht) hnx
        refine SMx hT hK h8 (ih (by omega)) (W := 6 :: W) (Or.inl rfl) (Or.inl rfl) (by rw [List.length_cons]; omega) ⟨c3, by rw [rd_Ik (by omega), rd_Ii (by omega), rd_Ik (by omega)]; exact g13, by rw [rd_Ik (by omega), rd_Ii (by omega), rd_Is], by rw [rd_Ik (by omega), rd_Ii (by omega), rd_Ik (by omega), rd_Is]⟩ hnx (by rw [List.length_cons]; omega) (by omega) (by omega) ?_
        unfold pCl at hQ'
        cases es : pSm tk (pUn tk tv d) (t + 1) with
        | error x => rw [es] at hQ'; exact hQ'
        | ok q =>
          obtain ⟨c, t1⟩ := q
          rw [es] at hQ' hps
          obtain ⟨u1, u2, u3, u4⟩ := hps
          intro p c' ν' m12 m96 hc hp hp2 hE' hop g12 g96
          dsimp only at hQ'
          obtain ⟨m96, rfl⟩ : ∃ n', m96 = n' + 1 := ⟨m96 - 1, by omega⟩
          have hlc : c.length = c'.length + p.length := by rw [hc, List.length_append, fls_len]
          have hns : ∀ w ∈ p, ¬ stops 0 w := by
            intro w hw
            rintro (hx | ⟨hx, _⟩)
            · exact hp w hw hx
            · exact hx rfl
          by_cases h7 : tk t1 = 7
          · rw [if_pos h7] at hQ'
            obtain ⟨hC', k13, k11, k12⟩ := hE'
            have hK2 := TKm_FX hK hC'.2.2.2.2.2
            have i7 : fX12_is 7 ν' = some 1 := by
              have := is_m (k := 7) hT hK2 k13 k11 u2 (by omega)
              rw [if_pos h7] at this; exact this
            unfold AAx
            show Wo (fX12_expression_s96 _ _ _ _) _
            unfold fX12_expression_s96
            rw [i7, b1_some, if_neg n10, k12, if_neg (by rw [nI_leI (by omega) (by omega)]; omega)]
            unfold fX12_comesOut
            rw [Wo_b1]
            refine Wo_mono (comes_m h8 (W := 6 :: W) (Or.inl rfl) hC' hns (by rw [List.length_append]; omega) (by rw [List.length_append, List.length_cons]; omega) (by unfold FU; omega)) ?_
            rintro ν2 ⟨l1, l2⟩
            rw [List.append_assoc, ← hc] at l1
            have l3 := CMx_pop l1
            rw [l1.2.2.1, List.length_cons, L_sub (by omega), show W.length + 1 - 1 = W.length by omega, bd_eq, rd_Ik (by omega), l2 12 (by omega) (by omega), k12, L_sub (by omega), show 6 - d - 1 = 6 - (d + 1) by omega, bd_eq]
            have l4 := CMx_0 (k := 12) (v := nI (6 - (d + 1))) l3 (by omega)
            have m11 : (upI (upI ν2 0 43 (nI W.length)) 0 12 (nI (6 - (d + 1)))).1 0 11 = nI t1 := by rw [rd_Ik (by omega), rd_Ik (by omega), l2 11 (by omega) (by omega)]; exact k11
            have m13 : (upI (upI ν2 0 43 (nI W.length)) 0 12 (nI (6 - (d + 1)))).1 0 13 = 0 := by rw [rd_Ik (by omega), rd_Ik (by omega), l2 13 (by omega) (by omega)]; exact k13
            by_cases h41 : t1 < 400
            · rw [if_pos h41] at hQ'
              rw [goesOn_ok m11 h41, b1_some]
              exact hQ' _ m12 m96 ⟨CMx_0 l4 (by omega), by rw [rd_Ik (by omega)]; exact m13, rd_Is, by rw [rd_Ik (by omega), rd_Is]⟩ (by omega) (by omega)
            · rw [if_neg h41] at hQ'
              rw [goesOn_2 hT (TKm_FX hK l4.2.2.2.2.2) m13 m11 u2 h41, b1_some]
              obtain ⟨m96, rfl⟩ : ∃ n', m96 = n' + 1 := ⟨m96 - 1, by omega⟩
              exact A_f (n12 := m12) (n96 := m96) (k := 2) h8 (CMx_0 (CMx_0 l4 (by omega)) (by omega)) (by rw [rd_Ik (by omega), rd_Is]; rfl) (Or.inr rfl) rd_Is (by rw [List.length_append]; omega) (by omega) hQ'
          · rw [if_neg h7] at hQ'
            refine A_end hT hK h8 hE' u2 hop (Or.inl h7) ?_
            obtain ⟨hC', k13, k11, k12⟩ := hE'
            have hK2 := TKm_FX hK hC'.2.2.2.2.2
            unfold KE
            rw [k12, if_neg (by rw [nI_leI (by omega) (by omega)]; omega), fail_m hT hK2 k13 k11 u2, b1_some, Wo_b1]
            refine Wo_mono (comes_any h8 (CMx_0 (CMx_0 hC' (by omega)) (by omega)) (by rw [List.length_append, List.length_append, List.length_cons]; omega) (by rw [List.length_append, List.length_cons]; omega)) ?_
            rintro ν2 ⟨⟨E', W', l1⟩, l2⟩
            rw [Wo_some]
            exact hQ' _ (FMx_of l1 (by rw [l2 13 (by omega) (by omega), rd_Ik (by omega), rd_Is]; rfl) (by rw [l2 14 (by omega) (by omega), rd_Is]))
      · rw [if_neg h4] at hQ'
        rw [goesOn_2 hT (TKm_FX hK c1.2.2.2.2.2) g13 g11 ht h4, b1_some]
        have c2 := CMx_0 (k := 14) (v := pl t) (CMx_0 (k := 13) (v := 2) c1 (by omega)) (by omega)
        rw [c2.2.2.1, ix_nI (by omega) (by omega), gd_true, bd_eq, nI_clamp (by omega), rd_Ii (by omega), c2.2.2.1, nI_1, bd_eq]
        obtain ⟨n23, rfl⟩ : ∃ n', n23 = n' + 1 := ⟨n23 - 1, by omega⟩
        exact O_f (n12 := n12) (n23 := n23) (k := 2) (CMx_push (x := 6) c2) (by rw [rd_Ik (by omega), rd_Ii (by omega), rd_Ik (by omega), rd_Is]; rfl) (Or.inr rfl) (by rw [rd_Ik (by omega), rd_Ii (by omega), rd_Is]) hQ'
    · rw [if_neg c6] at hQ'
      exact O_base hT hK h8 hE ht hr c6 h12 hQ'
def OKm (ν0 : Mem) (e0 ub : Nat) (c : Cd) (t' : Nat) (ν : Mem) : Prop := ν.1 0 13 = 0 ∧ ν.1 0 11 = nI t' ∧ ν.1 0 12 = 0 ∧ ν.1 0 39 = nI (e0 + c.length) ∧ SegM ν e0 c ∧ (∀ i, i < e0 ∨ ub ≤ i → ν.1 26 i = ν0.1 26 i ∧ ν.1 27 i = ν0.1 27 i) ∧ FXm ν0 ν
def RMm (pl : Nat → Int32) (ν0 : Mem) (e0 ub : Nat) (r : Rs) (ν : Mem) : Prop := match r with
  | .error (k, t') => FMx pl ν0 e0 ub k t' ν
  | .ok (c, t') => OKm ν0 e0 ub c t' ν
theorem l12_s (n : Nat) (K : Mem → Option Mem) (x y : Int32) (ν : Mem) : fX12_expression_l12 K x (n + 1) y ν = fX12_expression_s12 (fX12_expression_l12 K x n) K x y ν := rfl
theorem expr_m {tk : Nat → Nat} {tv : Nat → Int32} {tn : Nat → Int64} {pl : Nat → Int32} {e : Nat} {ν0 : Mem} {e0 ub : Nat} (hT : TE tk e) (hK : TKm tk tv tn pl e ν0) (h8 : ub ≤ 840) {t : Nat} (h13 : ν0.1 0 13 = 0) (h11 : ν0.1 0 11 = nI t) (h12 : ν0.1 0 12 = 0) (h39 : ν0.1 0 39 = nI e0) (ht : t ≤ e) (hr : e0 + 401 ≤ ub + t) : Wo (fX12_expression ν0) (RMm pl ν0 e0 ub (pE tk tv t)) := by
  have h400 := hT.1
  have hps := pE_ok (tv := tv) hT ht
  unfold fX12_expression
  rw [bd_eq, rd_Ik (by omega), h12, bd_eq]
  show Wo (fX12_expression_l12 KE (nI 0) FU 1 (upI ν0 0 43 0)) _
  rw [show FU = 99999 + 1 from rfl, l12_s]
  unfold fX12_expression_s12
  rw [if_neg n10, rd_Ik (by omega), h13, if_pos rfl]
  show Wo (OOx 99999 FU (upI ν0 0 43 0)) _
  have hC : CMx ν0 e0 ub [] [] (upI ν0 0 43 0) := ⟨by rw [rd_Ik (by omega)]; exact h39, fun k p hp => by simp at hp, rd_Is, StC_nil, fun i _ => by rw [rd_Ii (by omega), rd_Ii (by omega)]; exact ⟨rfl, rfl⟩, FXm_0 (Or.inr (Or.inr rfl))⟩
  refine SMx hT hK h8 (d := 6) (ULx_all hT hK h8 (Nat.le_refl _)) (E := []) (W := []) (n12 := 99999) (n23 := FU) trivial trivial (by simp) ⟨hC, by rw [rd_Ik (by omega)]; exact h13, by rw [rd_Ik (by omega)]; exact h11, by rw [rd_Ik (by omega)]; exact h12⟩ ht (by simp; omega) (by omega) (by unfold FU; omega) ?_
  show CtS pl ν0 e0 ub tk [] [] 0 (pE tk tv t) _
  cases es : pE tk tv t with
  | error x => intro ν' hF; exact hF
  | ok q =>
    obtain ⟨c, t1⟩ := q
    rw [es] at hps
    obtain ⟨u1, u2, u3, u4⟩ := hps
    intro p c' ν' m12 m96 hc hp hp2 hE' hop g12 g96
    obtain ⟨m96, rfl⟩ : ∃ n', m96 = n' + 1 := ⟨m96 - 1, by omega⟩
    have hlc : c.length = c'.length + p.length := by rw [hc, List.length_append, fls_len]
    rw [List.append_nil, List.nil_append] at hE'
    refine A_end hT hK h8 hE' u2 hop (Or.inr rfl) ?_
    obtain ⟨hC', k13, k11, k12⟩ := hE'
    unfold KE fX12_comesOut
    rw [k12, if_pos (by decide), Wo_b1]
    refine Wo_mono (comes_m h8 (W := []) (p := p) trivial (by rw [List.append_nil]; exact hC') (fun w hw => ?_) (by omega) (by rw [List.append_nil]; omega) (by unfold FU; omega)) ?_
    · rintro (hx | ⟨hx, _⟩)
      · exact hp w hw hx
      · exact hx rfl
    · rintro ν2 ⟨l1, l2⟩
      rw [← hc] at l1
      rw [Wo_some]
      exact ⟨by rw [l2 13 (by omega) (by omega)]; exact k13, by rw [l2 11 (by omega) (by omega)]; exact k11, by rw [l2 12 (by omega) (by omega)]; exact k12, l1.1, l1.2.1, l1.2.2.2.2.1, l1.2.2.2.2.2⟩
