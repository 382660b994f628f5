theorem oneM_house {tk : Nat → Nat} {tv : Nat → Int32} {tn : Nat → Int64} {pl : Nat → Int32} {e : Nat} {sd t : Nat} {ν : Mem} (hT : TE tk e) (hK : TKm tk tv tn pl e ν) (h11 : ν.1 0 11 = nI t) (ht : t ≤ e) (h19 : ν.1 0 19 = nI sd) (hsd : sd < 2) (hk : tk t = 20) : fX12_tellOne ν = if ν.1 9 sd = 6 then b1 (fX12_fail 2 ν) (fun μ8 => fX12_tellOne_b79 μ8) else fX12_tellOne_b79 ν := by
  have h400 := hT.1
  unfold fX12_tellOne
  rw [h11, ix_nI (by omega) (by omega), gd_true, nI_clamp (by omega), (hK t ht).1, bd_eq, hk, if_pos (show nI 20 = 20 from rfl), h19, ix_nI (by omega) (by omega), gd_true, nI_clamp (by omega)]
theorem oneM_law {tk : Nat → Nat} {tv : Nat → Int32} {tn : Nat → Int64} {pl : Nat → Int32} {e : Nat} {t k : Nat} {ν : Mem} (hT : TE tk e) (hK : TKm tk tv tn pl e ν) (h11 : ν.1 0 11 = nI t) (ht : t ≤ e) (hk : tk t = 21 + k) (hk4 : k < 4) : fX12_tellOne ν = fX12_tellOne_b207 (nI k) ν := by
  have h400 := hT.1
  have em2 : nI (21 + k) - 21 = nI k := by rcases (show k = 0 ∨ k = 1 ∨ k = 2 ∨ k = 3 by omega) with rfl | rfl | rfl | rfl <;> rfl
  have q : ∀ c : Nat, (c < 21 ∨ 24 < c) → c < 41 → ¬ nI (21 + k) = nI c := fun c a b => by rw [nI_eq (by omega) (by omega)]; omega
  unfold fX12_tellOne
  rw [h11, ix_nI (by omega) (by omega), gd_true, nI_clamp (by omega), (hK t ht).1, bd_eq, hk, if_neg (show ¬ nI (21 + k) = 20 from q 20 (by omega) (by omega)), if_neg (show ¬ nI (21 + k) = 25 from q 25 (by omega) (by omega)), if_neg (show ¬ nI (21 + k) = 26 from q 26 (by omega) (by omega)), if_neg (show ¬ nI (21 + k) = 27 from q 27 (by omega) (by omega)), if_neg (show ¬ nI (21 + k) = 28 from q 28 (by omega) (by omega)), gd_true, bd_eq, em2, if_neg (nI_pos (by omega)), gd_true, if_pos (by simp (disch := omega) only [L_add, L_add2, L_mul, L_mul2, L_sub, nI_add, pk_mul, pk_sub, L_le, L_le2, L_lt, L_lt2, L_eq, L_eq2, nI_leI, nI_ltI, nI_eq, nI_clamp, ix_nI, ix_lit, L_cl]; omega)]
theorem oneM_num {tk : Nat → Nat} {tv : Nat → Int32} {tn : Nat → Int64} {pl : Nat → Int32} {e : Nat} {sd t i : Nat} {ν : Mem} (hT : TE tk e) (hK : TKm tk tv tn pl e ν) (h11 : ν.1 0 11 = nI t) (ht : t ≤ e) (h19 : ν.1 0 19 = nI sd) (hsd : sd < 2) (hk : tk t = 25 + i) (hi : i < 4) : fX12_tellOne ν = b2 (fX12_toldInt (xLEAST (5 + i)) (xMOST (5 + i)) ν) (fun r ν1 => some (upI ν1 (15 + i) sd r)) := by
  have h400 := hT.1
  unfold fX12_tellOne
  rw [h11, ix_nI (by omega) (by omega), gd_true, nI_clamp (by omega), (hK t ht).1, bd_eq, hk, h19, ix_nI (by omega) (by omega), nI_clamp (by omega)]
  rcases (show i = 0 ∨ i = 1 ∨ i = 2 ∨ i = 3 by omega) with rfl | rfl | rfl | rfl
  · rw [if_neg (by decide), if_pos (by decide)]; rfl
  · rw [if_neg (by decide), if_neg (by decide), if_pos (by decide)]; rfl
  · rw [if_neg (by decide), if_neg (by decide), if_neg (by decide), if_pos (by decide)]; rfl
  · rw [if_neg (by decide), if_neg (by decide), if_neg (by decide), if_neg (by decide), if_pos (by decide)]; rfl
theorem oneM_oth {tk : Nat → Nat} {tv : Nat → Int32} {tn : Nat → Int64} {pl : Nat → Int32} {e : Nat} {t : Nat} {ν : Mem} (hT : TE tk e) (hK : TKm tk tv tn pl e ν) (h13 : ν.1 0 13 = 0) (h11 : ν.1 0 11 = nI t) (ht : t ≤ e) (hk : tk t < 20 ∨ 28 < tk t) : fX12_tellOne ν = some (upI (upI ν 0 13 (nI 1)) 0 14 (pl t)) := by
  have h400 := hT.1
  have h41 := hT.2.2 t ht
  have q : ∀ c : Nat, 20 ≤ c → c ≤ 28 → ¬ nI (tk t) = nI c := fun c a b => by rw [nI_eq (by omega) (by omega)]; omega
  have b2' : ∀ y, fX12_tellOne_b202 y ν = some (upI (upI ν 0 13 (nI 1)) 0 14 (pl t)) := by
    intro y
    unfold fX12_tellOne_b202 fX12_tellOne_b207
    rw [fail_m hT hK h13 h11 ht, b1_some, rd_Ik (by omega), rd_Is, if_neg (by decide)]
    rfl
  unfold fX12_tellOne
  rw [h11, ix_nI (by omega) (by omega), gd_true, nI_clamp (by omega), (hK t ht).1, bd_eq, if_neg (show ¬ nI (tk t) = 20 from q 20 (by omega) (by omega)), if_neg (show ¬ nI (tk t) = 25 from q 25 (by omega) (by omega)), if_neg (show ¬ nI (tk t) = 26 from q 26 (by omega) (by omega)), if_neg (show ¬ nI (tk t) = 27 from q 27 (by omega) (by omega)), if_neg (show ¬ nI (tk t) = 28 from q 28 (by omega) (by omega)), gd_true, bd_eq, b2']
  rcases hk with hk | hk
  · rw [if_pos (m_lo ⟨tk t, h41⟩ (by show tk t < 21; omega))]
  · rw [if_neg (m_hi ⟨tk t, h41⟩ (by show 21 ≤ tk t; omega)), gd_true, if_neg (by simp (disch := omega) only [L_add, L_add2, L_mul, L_mul2, L_sub, nI_add, pk_mul, pk_sub, L_le, L_le2, L_lt, L_lt2, L_eq, L_eq2, nI_leI, nI_ltI, nI_eq, nI_clamp, ix_nI, ix_lit, L_cl]; omega)]
theorem one_j {tk : Nat → Nat} {tv : Nat → Int32} {tn : Nat → Int64} {pl : Nat → Int32} {e : Nat} {sd t h : Nat} {w : Option (Nat × Nat)} {nm : Nat → Int64} {vs : Nat → Nat → Int32} {nb : Nat → Int32} {D : Nat → Bs × Cd} {μ ν : Mem} (hT : TE tk e) (hPl : PLm pl e) (hsd : sd < 2) (hP : PuD e t h w vs nb) (hC : DrC tk tv tn pl e t h w nm vs nb D μ) (hM : DrM tk tv tn pl e sd t h w nm vs nb D ν) : Wo (fX4_tellOne μ) (fun p => Wo (fX12_tellOne ν) (fun ν' => JE pl sd μ ν p ν' ∨ JO tk tv tn pl e sd t μ ν p ν')) := by
  have h400 := hT.1
  have hP' := hP
  have hC' := hC
  have hM' := hM
  obtain ⟨ht, hh, hwt, hrn⟩ := hP'
  obtain ⟨c1, c2, c3, c4, c5, c6, c7, sz, c8, c9, c10⟩ := hC'
  obtain ⟨m1, ⟨m13, m11, m12, m19⟩, m3, m4, m5, m6, m7, bc, ec, m8, m9, m10, m11'⟩ := hM'
  have h41 := hT.2.2 t ht
  unfold fX4_tellOne
  rw [c2, ix_nI (by omega) (by omega), gd_true, nI_clamp (by omega), (c1 t ht).1, bd_eq]
  have f1c : FHc μ (upI μ 3 2 (nI (t + 1))) := FHc_2 (by omega)
  have errc : ∀ {x t' : Nat}, FRc μ (upI (upI μ 3 3 (nI x)) 3 4 (pl t')) := fun {x t'} => FRc_FH (FHc_tr (FHc_2 (by omega)) (FHc_2 (by omega)))
  have errm : ∀ {x t' : Nat}, FRm sd ν (upI (upI ν 0 13 (nI x)) 0 14 (pl t')) := fun {x t'} => FRm_FH (FHm_FN (FNm_tr (FNm_0 (by omega)) (FNm_0 (by omega))))
  have er : ∀ {x : Nat}, (x = 1 ∨ x = 2) → JE pl sd μ ν (0, upI (upI μ 3 3 (nI x)) 3 4 (pl t)) (upI (upI ν 0 13 (nI x)) 0 14 (pl t)) := fun {x} hx => ⟨x, t, hx, rfl, by dsimp only; rw [rd_Ik (by omega), rd_Is], rd_Is, errc, by rw [rd_Ik (by omega), rd_Is], rd_Is, errm⟩
  have a0 : (0 : Int32) &&& 1 = 0 := by decide
  have a1 : (1 : Int32) &&& 1 = 1 := by decide
  by_cases k20 : tk t = 20
  · rw [k20, if_pos (show nI (cK 20) = 0 from rfl), oneM_house hT m1 m11 ht m19 hsd k20, m4]
    by_cases h6 : h = 6
    · unfold fX4_tellHouse
      rw [c4, bd_eq, if_neg (by rw [h6]; decide), refuse_c hT c1 c2 ht, b2_some, b2_some, Wo_some, if_pos (by rw [h6]; rfl), fail_m hT m1 m13 m11 ht, b1_some]
      unfold fX12_tellOne_b79
      rw [rd_Ik (by omega), rd_Is, if_neg (by decide), Wo_some]
      exact Or.inl (er (x := 2) (Or.inr rfl))
    · rw [if_neg (by rw [show (6 : Int32) = nI 6 from rfl]; simp (disch := omega) only [L_add, L_add2, L_mul, L_mul2, L_sub, nI_add, pk_mul, pk_sub, L_le, L_le2, L_lt, L_lt2, L_eq, L_eq2, nI_leI, nI_ltI, nI_eq, nI_clamp, ix_nI, ix_lit, L_cl]; omega)]
      unfold fX12_tellOne_b79
      rw [m13, if_pos rfl, Wo_b2]
      refine Wo_mono (tellHouse_c (nm := nm) hT c1 (by omega) c2 ht c3 c4 c5) ?_
      rintro ⟨r, μ'⟩ hr
      rw [Wo_some, Wo_b1]
      refine Wo_mono (tellHouse_m (nm := nm) hT hPl m1 (by omega) hsd m13 m11 m19 m4 ht k20 m5 m3 hwt) ?_
      intro ν' hν
      rw [Wo_some]
      cases es : pHs tk t with
      | error z =>
        obtain ⟨x, t'⟩ := z
        rw [es] at hr hν
        obtain ⟨b1, b2, b3, b4, b5⟩ := hr
        have b1' : r = 0 := b1
        exact Or.inl ⟨x, t', b2, by show r &&& 1 = 0; rw [b1', a0], b3, b4, FRc_FH b5, hν.1, hν.2.1, FRm_FH hν.2.2⟩
      | ok t' =>
        rw [es] at hr hν
        have hr1 : r = 1 := hr.1
        have he : t + 8 ≤ e := by have := hr.2.1; have := hr.2.2.1; omega
        have hDc := DrC_house hC hr
        exact Or.inr ⟨by show r &&& 1 = 1; rw [hr1, a1], t + 8, h + 1, _, _, _, nb, D, by omega, PuD_house hP (by omega) he, hDc, DrM_house hM hν, FRc_FH hr.2.2.2.2.2.2.2.2.2.2.2, FRm_FH hν.2.2.2.2.2.2.2.2.2⟩
  · by_cases kl : 21 ≤ tk t ∧ tk t ≤ 24
    · obtain ⟨k, hk⟩ : ∃ k, tk t = 21 + k := ⟨tk t - 21, by omega⟩
      have hk4 : k < 4 := by omega
      have ec1 : nI (cK (21 + k)) = nI (1 + k) := by rcases (show k = 0 ∨ k = 1 ∨ k = 2 ∨ k = 3 by omega) with rfl | rfl | rfl | rfl <;> rfl
      have ec2 : nI (1 + k) - 1 = nI k := by rcases (show k = 0 ∨ k = 1 ∨ k = 2 ∨ k = 3 by omega) with rfl | rfl | rfl | rfl <;> rfl
      have l1 : ¬ nI (1 + k) = 0 := nI_ne0 (by omega) (by omega)
      rw [hk, oneM_law hT m1 m11 ht hk hk4, ec1, if_neg l1, if_neg (by simp (disch := omega) only [L_add, L_add2, L_mul, L_mul2, L_sub, nI_add, pk_mul, pk_sub, L_le, L_le2, L_lt, L_lt2, L_eq, L_eq2, nI_leI, nI_ltI, nI_eq, nI_clamp, ix_nI, ix_lit, L_cl]; omega), if_neg (by simp (disch := omega) only [L_add, L_add2, L_mul, L_mul2, L_sub, nI_add, pk_mul, pk_sub, L_le, L_le2, L_lt, L_lt2, L_eq, L_eq2, nI_leI, nI_ltI, nI_eq, nI_clamp, ix_nI, ix_lit, L_cl]; omega), ec2, ← ec1]
      unfold fX12_tellOne_b207
      rw [m13, if_pos (by decide)]
      by_cases h4 : t < 400
      · have m400 := TE_nx hT ht h4 (by omega) (by omega)
        rw [take_ok hT c1 c2 ht hk h4, b2_some, if_neg n10, goesOn_ok m11 h4, b1_some, Wo_b2]
        refine Wo_mono (tellLaw_c (tv := tv) hT (TKc_FH c1 f1c) rd_Is m400 (by rw [rd_Ii (by omega)]; exact c8) (by omega) hk4) ?_
        rintro ⟨r, μ'⟩ hr
        have M : Wo (fX12_tellLaw (nI k) (upI ν 0 11 (nI (t + 1)))) (RLm pl k sd e (t + 1) bc ec (upI ν 0 11 (nI (t + 1))) (pLw tk tv (t + 1))) := tellLaw_m (tv := tv) hT (TKm_FN m1 (FNm_0 (Or.inl rfl))) (by rw [rd_Ik (by omega)]; exact m13) rd_Is (by rw [rd_Ik (by omega)]; exact m12) (by rw [rd_Ik (by omega)]; exact m8) (by rw [rd_Ik (by omega)]; exact m9) (by rw [rd_Ik (by omega)]; exact m19) hsd m400 (by omega) (by omega) (by omega) (by omega) hk4
        have fm : FRm sd ν (upI ν 0 11 (nI (t + 1))) := FRm_FH (FHm_FN (FNm_0 (Or.inl rfl)))
        cases es : pLw tk tv (t + 1) with
        | error z =>
          obtain ⟨x, t'⟩ := z
          rw [es] at hr M
          obtain ⟨b1, b2, b3, b4, b5⟩ := hr
          have b1' : r = 0 := b1
          rw [b1', if_pos rfl, Wo_some, Wo_b1]
          refine Wo_mono M (fun ν' hν => ?_)
          rw [Wo_some]
          exact Or.inl ⟨x, t', b2, rfl, b3, b4, FRc_tr (FRc_FH f1c) (FRc_FL b5), hν.1, hν.2.1, FRm_tr fm (FRm_FG hk4 (by omega) (by omega) hν.2.2)⟩
        | ok z =>
          obtain ⟨D', t'⟩ := z
          rw [es] at hr M
          have hr1 : r = 1 := hr.1
          have hDc := DrC_law hC c8 c9 c10 hk4 hr
          have hfl := hr.2.2.2.2.2.2.2.2.1
          have hlt := hr.2.2.2.2.2.2.2.2.2
          rw [hr1, if_neg n10, Wo_some, Wo_b1]
          refine Wo_mono M (fun ν' hν => ?_)
          rw [Wo_some]
          have hDm := DrM_law hM m10 m11' hk4 hν
          obtain ⟨_, _, _, bc', ec', _, _, q1, q2, q3, q4, _, _, _, q5, q6, q7⟩ := hν
          exact Or.inr ⟨rfl, t', h, w, nm, vs, nb, _, by omega, ⟨q7, hh, fun y t1 hq => by have := hwt y t1 hq; omega, hrn⟩, hDc, hDm, FRc_tr (FRc_FH f1c) (FRc_FL hfl), FRm_tr fm (FRm_FG hk4 (by omega) (by omega) q5)⟩
      · rw [take_2 hT c1 c2 ht hk h4, b2_some, if_pos rfl, Wo_some, goesOn_2 hT m1 m13 m11 ht h4, b1_some, Wo_b1]
        refine Wo_mono (tlw_f (pl := pl) (ν0 := ν) (sd := sd) (bc := bc) (ec := ec) (x := 2) (t' := t) (k := k) (Or.inr rfl) hsd (by omega) (by rw [rd_Ik (by omega), rd_Is]; rfl) rd_Is (by rw [rd_Ik (by omega), rd_Ik (by omega)]; exact m8) (FYm_0 (FYm_0 FYm_rfl (Or.inl (Or.inl (by omega)))) (Or.inl (Or.inl (by omega))))) ?_
        rintro ν' ⟨q1, q2, q3⟩
        rw [Wo_some]
        exact Or.inl ⟨2, t, Or.inr rfl, rfl, by dsimp only; rw [rd_Ik (by omega), rd_Is]; rfl, rd_Is, errc (x := 2), q1, q2, FRm_FG hk4 (by omega) (by omega) q3⟩
    · by_cases kn : 25 ≤ tk t ∧ tk t ≤ 28
      · obtain ⟨i, hi⟩ : ∃ i, tk t = 25 + i := ⟨tk t - 25, by omega⟩
        have hi4 : i < 4 := by omega
        have ec1 : nI (cK (25 + i)) = nI (5 + i) := by rcases (show i = 0 ∨ i = 1 ∨ i = 2 ∨ i = 3 by omega) with rfl | rfl | rfl | rfl <;> rfl
        have l1 : ¬ nI (5 + i) = 0 := nI_ne0 (by omega) (by omega)
        unfold fX4_tellOne_b56
        rw [hi, oneM_num hT m1 m11 ht m19 hsd hi hi4, ec1, if_neg l1, if_neg (by simp (disch := omega) only [L_add, L_add2, L_mul, L_mul2, L_sub, nI_add, pk_mul, pk_sub, L_le, L_le2, L_lt, L_lt2, L_eq, L_eq2, nI_leI, nI_ltI, nI_eq, nI_clamp, ix_nI, ix_lit, L_cl]; omega), if_pos (show (4 : Int32) < nI (5 + i) by simp (disch := omega) only [L_add, L_add2, L_mul, L_mul2, L_sub, nI_add, pk_mul, pk_sub, L_le, L_le2, L_lt, L_lt2, L_eq, L_eq2, nI_leI, nI_ltI, nI_eq, nI_clamp, ix_nI, ix_lit, L_cl]; omega), if_neg (by simp (disch := omega) only [L_add, L_add2, L_mul, L_mul2, L_sub, nI_add, pk_mul, pk_sub, L_le, L_le2, L_lt, L_lt2, L_eq, L_eq2, nI_leI, nI_ltI, nI_eq, nI_clamp, ix_nI, ix_lit, L_cl]; omega), if_neg (by simp (disch := omega) only [L_add, L_add2, L_mul, L_mul2, L_sub, nI_add, pk_mul, pk_sub, L_le, L_le2, L_lt, L_lt2, L_eq, L_eq2, nI_leI, nI_ltI, nI_eq, nI_clamp, ix_nI, ix_lit, L_cl]; omega), ← ec1]
        have M := toldInt_m (tv := tv) (sd := sd) (i := 5 + i) hT hPl m1 m13 m11 ht hi (by omega) (by omega) m3 hwt
        by_cases h4 : t < 400
        · have m400 := TE_nx hT ht h4 (by omega) (by omega)
          rw [take_ok hT c1 c2 ht hi h4, b2_some, if_neg n10, ec1, Wo_b2]
          rw [pTk_t hi h4, exB_ok] at M
          refine Wo_mono (tellNumber_c (tv := tv) (w := w) hT (TKc_FH c1 f1c) hi4 rd_Is m400 (NTc_fr c3 (by rw [rd_Ik (by omega)]) (by rw [rd_Ik (by omega)]))) ?_
          rintro ⟨r, μ'⟩ hr
          cases es : pNm tk (t + 1) with
          | error z =>
            obtain ⟨x, t'⟩ := z
            rw [es] at hr M
            obtain ⟨b1, b2, b3, b4, b5⟩ := hr
            have b1' : r = 0 := b1
            rw [b1', if_pos rfl, Wo_some, Wo_b2]
            refine Wo_mono M (fun p' hν => ?_)
            rw [Wo_some]
            exact Or.inl ⟨x, t', b2, rfl, b3, b4, FRc_tr (FRc_FH f1c) (FRc_FH b5), by rw [rd_Ii (by omega)]; exact hν.1, by rw [rd_Ii (by omega)]; exact hν.2.1, FRm_FH (FHm_tr (FHm_FN hν.2.2) (FHm_b (Or.inr (by omega))))⟩
          | ok t' =>
            rw [es] at hr M
            have hr1 : r = 1 := hr.1
            have he : t + 3 ≤ e := by have := hr.2.1; have := hr.2.2.1; omega
            have hDc := DrC_num hC hi4 f1c (by rw [rd_Ii (by omega)]) (by rw [rd_Ii (by omega)]) rfl hr
            have hfh := hr.2.2.2.2.2.2.2.2.2
            rw [hr1, if_neg n10, Wo_some, Wo_b2]
            refine Wo_mono M (fun p' hν => ?_)
            rw [Wo_some]
            have hDm := DrM_num hM hi4 hν
            exact Or.inr ⟨rfl, t + 3, h, _, nm, vs, _, D, by omega, PuD_num hP he, hDc, hDm.1, FRc_tr (FRc_FH f1c) (FRc_FH hfh), FRm_FH hDm.2⟩
        · rw [take_2 hT c1 c2 ht hi h4, b2_some, if_pos rfl, Wo_some, Wo_b2]
          rw [pTk_2 hi h4, exB_er] at M
          refine Wo_mono M (fun p' hν => ?_)
          rw [Wo_some]
          exact Or.inl ⟨2, t, Or.inr rfl, rfl, by dsimp only; rw [rd_Ik (by omega), rd_Is]; rfl, rd_Is, errc (x := 2), by rw [rd_Ii (by omega)]; exact hν.1, by rw [rd_Ii (by omega)]; exact hν.2.1, FRm_FH (FHm_tr (FHm_FN hν.2.2) (FHm_b (Or.inr (by omega))))⟩
      · have hb := cK_big ⟨tk t, h41⟩ (by show tk t < 20 ∨ 28 < tk t; omega)
        dsimp only at hb
        have hl := cK_ltD ⟨tk t, h41⟩
        dsimp only at hl
        unfold fX4_tellOne_b56
        rw [oneM_oth hT m1 m13 m11 ht (by omega), if_neg (nI_ne0 (by omega) (by omega)), if_neg (by simp (disch := omega) only [L_add, L_add2, L_mul, L_mul2, L_sub, nI_add, pk_mul, pk_sub, L_le, L_le2, L_lt, L_lt2, L_eq, L_eq2, nI_leI, nI_ltI, nI_eq, nI_clamp, ix_nI, ix_lit, L_cl]; omega), if_pos (show (4 : Int32) < nI (cK (tk t)) by simp (disch := omega) only [L_add, L_add2, L_mul, L_mul2, L_sub, nI_add, pk_mul, pk_sub, L_le, L_le2, L_lt, L_lt2, L_eq, L_eq2, nI_leI, nI_ltI, nI_eq, nI_clamp, ix_nI, ix_lit, L_cl]; omega), if_neg (by simp (disch := omega) only [L_add, L_add2, L_mul, L_mul2, L_sub, nI_add, pk_mul, pk_sub, L_le, L_le2, L_lt, L_lt2, L_eq, L_eq2, nI_leI, nI_ltI, nI_eq, nI_clamp, ix_nI, ix_lit, L_cl]; omega), if_pos (show (8 : Int32) < nI (cK (tk t)) by simp (disch := omega) only [L_add, L_add2, L_mul, L_mul2, L_sub, nI_add, pk_mul, pk_sub, L_le, L_le2, L_lt, L_lt2, L_eq, L_eq2, nI_leI, nI_ltI, nI_eq, nI_clamp, ix_nI, ix_lit, L_cl]; omega), refuse_c hT c1 c2 ht, b2_some, Wo_some, Wo_some]
        exact Or.inl (er (x := 1) (Or.inl rfl))
