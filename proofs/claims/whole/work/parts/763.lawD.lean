def BLc (μ0 : Mem) (sz0 : Nat) (bs : Bs) (t sz : Nat) (μ : Mem) : Prop := μ.1 3 2 = nI t ∧ (∀ k, k ≠ 2 → μ.1 3 k = μ0.1 3 k) ∧ μ.1 11 4 = nI sz ∧ PreC μ 11 bs sz0 sz ∧ (∀ i, i < sz0 → μ.1 12 i = μ0.1 12 i ∧ μ.1 13 i = μ0.1 13 i) ∧ FXc μ0 μ ∧ ∀ b ∈ bs, EX 15 b.1 ∧ EX 15 b.2.1 ∧ EX 15 b.2.2
theorem lawl_c {tk : Nat → Nat} {tv : Nat → Int32} {tn : Nat → Int64} {pl : Nat → Int32} {e : Nat} {sz0 t0 : Nat} {μ0 : Mem} {Q : Int32 × Mem → Prop} (hT : TE tk e) (hK : TKc tk tv tn pl e μ0) (h0 : sz0 ≤ t0 + 10) {r : Nat} : ∀ {bs : Bs} {t sz i N : Nat} {μ : Mem}, r + i = 4 → 4 < N + i → t ≤ e → t0 ≤ t → sz + t0 ≤ sz0 + t → BLc μ0 sz0 bs t sz μ → (∀ x t' μ', (x = 1 ∨ x = 2) → pIf tk tv r t bs = .error (x, t') → μ'.1 3 3 = nI x → μ'.1 3 4 = pl t' → FXc μ0 μ' → Q (0, μ')) → (∀ bs' t' sz' μ', pIf tk tv r t bs = .ok (bs', t') → t ≤ t' → t' ≤ e → sz' + t0 ≤ sz0 + t' → BLc μ0 sz0 bs' t' sz' μ' → Wo (fX4_tellLaw_b155 μ') Q) → Wo (fX4_tellLaw_l26 (fun μ39 => fX4_tellLaw_b155 μ39) N (nI i) μ) Q := by
  have h400 := hT.1
  induction r with
  | zero =>
    intro bs t sz i N μ hi hN ht htt hsz hB herr hok
    obtain ⟨N, rfl⟩ : ∃ n', N = n' + 1 := ⟨N - 1, by omega⟩
    have hi4 : i = 4 := by omega
    subst hi4
    obtain ⟨b1, b2, b3, b4, b5, b6, b7⟩ := hB
    have hK1 := TKc_FX hK b6
    have e29 : nI (cK (tk t)) = 9 ↔ tk t = 29 := cK_eq (b := 29) (hT.2.2 t ht) (by omega)
    show Wo (fX4_tellLaw_s26 _ _ _ _) _
    unfold fX4_tellLaw_s26
    rw [if_neg (by decide), b1, ix_nI (by omega) (by omega), gd_true, nI_clamp (by omega), (hK1 t ht).1]
    have hp : pIf tk tv 0 t bs = if tk t = 29 then .error (2, t) else .ok (bs, t) := rfl
    by_cases h : tk t = 29
    · rw [if_pos (e29.mpr h), if_pos (show nI 4 = 4 from rfl), refuse_c hT hK1 b1 ht, b2_some, Wo_some]
      exact herr 2 t _ (Or.inr rfl) (by rw [hp, if_pos h]) (by rw [rd_Ik (by omega), rd_Is]; rfl) rd_Is (FXc_tr b6 (FXc_tr FXc_2 FXc_2))
    · rw [if_neg (fun hx => h (e29.mp hx))]
      exact hok bs t sz μ (by rw [hp, if_neg h]) (Nat.le_refl _) ht hsz ⟨b1, b2, b3, b4, b5, b6, b7⟩
  | succ r ih =>
    intro bs t sz i N μ hi hN ht htt hsz hB herr hok
    obtain ⟨N, rfl⟩ : ∃ n', N = n' + 1 := ⟨N - 1, by omega⟩
    obtain ⟨b1, b2, b3, b4, b5, b6, b7⟩ := hB
    have hK1 := TKc_FX hK b6
    have hle := PreC_le b4
    have e29 : nI (cK (tk t)) = 9 ↔ tk t = 29 := cK_eq (b := 29) (hT.2.2 t ht) (by omega)
    show Wo (fX4_tellLaw_s26 _ _ _ _) _
    unfold fX4_tellLaw_s26
    rw [if_neg (by simp (disch := omega) only [L_add, L_add2, L_mul, L_mul2, L_sub, nI_add, pk_mul, pk_sub, L_le, L_le2, L_lt, L_lt2, L_eq, L_eq2, nI_leI, nI_ltI, nI_eq, nI_clamp, ix_nI, ix_lit, L_cl]; omega), b1, ix_nI (by omega) (by omega), gd_true, nI_clamp (by omega), (hK1 t ht).1]
    have hp : pIf tk tv (r + 1) t bs = if tk t = 29 then exB (pBr tk tv t) (fun q => pIf tk tv r q.2 (bs ++ [q.1])) else .ok (bs, t) := rfl
    by_cases h : tk t = 29
    · rw [if_pos (e29.mpr h), if_neg (by simp (disch := omega) only [L_add, L_add2, L_mul, L_mul2, L_sub, nI_add, pk_mul, pk_sub, L_le, L_le2, L_lt, L_lt2, L_eq, L_eq2, nI_leI, nI_ltI, nI_eq, nI_clamp, ix_nI, ix_lit, L_cl]; omega)]
      rw [if_pos h] at hp
      refine brn_c (tv := tv) hT hK1 b1 ht b3 (by omega) (fun x t' μ' hx hb a1 a2 a3 => ?_) (fun c1 c2 c3 t' μ' hb l1 l2 l3 hE hO hA => ?_)
      · exact herr x t' μ' hx (by rw [hp, hb]; rfl) a1 a2 (FXc_tr b6 a3)
      · rw [hb, exB_ok] at hp
        rw [nI_1]
        have hlen := brL_len c1 c2 c3
        have hP := PreC_snoc (PreC_keep b4 (fun k hk => hO.2.2.2.2.1 k hk)) (brL_Pre hO.2.2.2.1 hA)
        refine ih (bs := bs ++ [(c1, c2, c3)]) (sz := sz + c1.length + c2.length + c3.length + 2) (by omega) (by omega) l2 (by omega) (by omega) ⟨hO.1, fun k hk => (hO.2.1 k hk).trans (b2 k hk), ?_, hP, fun i hi => ⟨((hO.2.2.2.2.1 i (by omega)).1).trans (b5 i hi).1, ((hO.2.2.2.2.1 i (by omega)).2).trans (b5 i hi).2⟩, FXc_tr b6 hO.2.2.2.2.2, fun b hb => ?_⟩ (fun x t'' μ'' hx hq => herr x t'' μ'' hx (by rw [hp]; exact hq)) (fun bs' t'' sz' μ'' hq g1 => hok bs' t'' sz' μ'' (by rw [hp]; exact hq) (by omega))
        · rw [hO.2.2.1, hlen]
          congr 1
          omega
        · rcases List.mem_append.mp hb with hb | hb
          · exact b7 b hb
          · rw [List.mem_singleton] at hb; subst hb; exact hE
    · rw [if_neg h] at hp
      rw [if_neg (fun hx => h (e29.mp hx))]
      exact hok bs t sz μ hp (Nat.le_refl _) ht hsz ⟨b1, b2, b3, b4, b5, b6, b7⟩
def FLc (μ μ' : Mem) : Prop := (∀ j, j ≠ 3 → ¬ (11 ≤ j ∧ j ≤ 14) → μ'.1 j = μ.1 j) ∧ (∀ k, k ≠ 4 → μ'.1 11 k = μ.1 11 k) ∧ μ'.2 = μ.2
theorem FXc_FL {μ μ' : Mem} (h : FXc μ μ') : FLc μ μ' := ⟨fun j a b => h.1 j a (by omega) (by omega) (by omega), h.2.1, h.2.2⟩
theorem FLc_tr {a b c : Mem} (h : FLc a b) (h2 : FLc b c) : FLc a c := ⟨fun j x y => (h2.1 j x y).trans (h.1 j x y), fun k x => (h2.2.1 k x).trans (h.2.1 k x), h2.2.2.trans h.2.2⟩
def RLc (pl : Nat → Int32) (k e t sz : Nat) (μ : Mem) (r : Except (Nat × Nat) ((Bs × Cd) × Nat)) (p : Int32 × Mem) : Prop := match r with
  | .error (x, t') => p.1 = 0 ∧ (x = 1 ∨ x = 2) ∧ p.2.1 3 3 = nI x ∧ p.2.1 3 4 = pl t' ∧ FLc μ p.2
  | .ok (D, t') => p.1 = 1 ∧ p.2.1 3 2 = nI t' ∧ (∀ j, j ≠ 2 → p.2.1 3 j = μ.1 3 j) ∧ (∃ sz', p.2.1 11 4 = nI sz' ∧ sz ≤ sz' ∧ sz' + t ≤ sz + t' ∧ LayC p.2 11 sz' D.1 sz D.2) ∧ EXL D.1 D.2 ∧ p.2.1 14 k = nI sz ∧ (∀ i, i ≠ k → p.2.1 14 i = μ.1 14 i) ∧ (∀ i, i < sz → p.2.1 12 i = μ.1 12 i ∧ p.2.1 13 i = μ.1 13 i) ∧ FLc μ p.2 ∧ t < t' ∧ t' ≤ e
theorem tellLaw_c {tk : Nat → Nat} {tv : Nat → Int32} {tn : Nat → Int64} {pl : Nat → Int32} {e : Nat} {t sz k : Nat} {μ : Mem} (hT : TE tk e) (hK : TKc tk tv tn pl e μ) (h2 : μ.1 3 2 = nI t) (ht : t ≤ e) (h4 : μ.1 11 4 = nI sz) (hs : sz ≤ t + 10) (hk : k < 4) : Wo (fX4_tellLaw (nI k) μ) (RLc pl k e t sz μ (pLw tk tv t)) := by
  have h400 := hT.1
  unfold fX4_tellLaw
  rw [show (61 : Int32) = nI (cK 5) from rfl]
  refine tkC hT hK h2 ht (by omega) (by omega) (by omega) (fun x hx hp => ?_) (fun p1 _ k2 k3 => ?_)
  · rw [if_pos rfl, Wo_some]
    have : pLw tk tv t = .error (x, t) := by unfold pLw; rw [hp]; rfl
    rw [this]
    exact ⟨rfl, hx, by dsimp only; rw [rd_Ik (by omega), rd_Is], rd_Is, FXc_FL (FXc_tr FXc_2 FXc_2)⟩
  · rw [if_neg n10]
    have e4 : (upI μ 3 2 (nI (t + 1))).1 11 4 = nI sz := by rw [rd_Ii (by omega)]; exact h4
    have eb : fX1_begin 11 (nI k) (upI μ 3 2 (nI (t + 1))) = some (upI (upI μ 3 2 (nI (t + 1))) 14 k (nI sz)) := by
      unfold fX1_begin
      rw [if_neg (nI_pos (by omega)), if_neg (by simp (disch := omega) only [L_add, L_add2, L_mul, L_mul2, L_sub, nI_add, pk_mul, pk_sub, L_le, L_le2, L_lt, L_lt2, L_eq, L_eq2, nI_leI, nI_ltI, nI_eq, nI_clamp, ix_nI, ix_lit, L_cl]; omega), ix_nI (by omega) (by omega), gd_true, bd_eq, nI_clamp (by omega), e4]
    rw [eb, b1_some]
    generalize hμ0 : upI (upI μ 3 2 (nI (t + 1))) 14 k (nI sz) = μ0
    have f0 : FLc μ μ0 := by
      rw [← hμ0]
      exact ⟨fun j a b => by rw [rd_Ii (by omega), rd_Ii a], fun i _ => by rw [rd_Ii (by omega), rd_Ii (by omega)], rfl⟩
    have g2 : μ0.1 3 2 = nI (t + 1) := by rw [← hμ0, rd_Ii (by omega), rd_Is]
    have g2' : ∀ j, j ≠ 2 → μ0.1 3 j = μ.1 3 j := fun j hj => by rw [← hμ0, rd_Ii (by omega), rd_Ik hj]
    have g4 : μ0.1 11 4 = nI sz := by rw [← hμ0, rd_Ii (by omega)]; exact e4
    have g14 : μ0.1 14 k = nI sz := by rw [← hμ0, rd_Is]
    have g14' : ∀ i, i ≠ k → μ0.1 14 i = μ.1 14 i := fun i hi => by rw [← hμ0, rd_Ik hi, rd_Ii (by omega)]
    have g12 : ∀ i, μ0.1 12 i = μ.1 12 i ∧ μ0.1 13 i = μ.1 13 i := fun i => by rw [← hμ0]; rw [rd_Ii (by omega), rd_Ii (by omega), rd_Ii (by omega), rd_Ii (by omega)]; exact ⟨rfl, rfl⟩
    have hK0 : TKc tk tv tn pl e μ0 := TKc_fr hK (f0.1 6 (by omega) (by omega)) (f0.1 8 (by omega) (by omega)) (by rw [f0.2.2])
    have hL : pLw tk tv t = exB (pIf tk tv 4 (t + 1) []) (fun q => exB (pE tk tv q.2) (fun q2 => exB (pTk tk 4 q2.2) (fun t => .ok ((q.1, q2.1), t)))) := by unfold pLw; rw [p1, exB_ok]
    refine lawl_c (tv := tv) (sz0 := sz) (t0 := t + 1) hT hK0 (by omega) (r := 4) (bs := []) (t := t + 1) (sz := sz) (i := 0) (N := FU) (by omega) (by unfold FU; omega) k3 (Nat.le_refl _) (by omega) ⟨g2, fun _ _ => rfl, g4, rfl, fun _ _ => ⟨rfl, rfl⟩, FXc_rfl, fun b hb => by simp at hb⟩ (fun x t' μ' hx hp a1 a2 a3 => ?_) (fun bs t1 sz1 μ1 hp l1 l2 l3 hB => ?_)
    · rw [hL, hp]
      exact ⟨rfl, hx, a1, a2, FLc_tr f0 (FXc_FL a3)⟩
    · obtain ⟨b1, b2, b3, b4, b5, b6, b7⟩ := hB
      have hle := PreC_le b4
      rw [hp, exB_ok] at hL
      dsimp only at hL
      unfold fX4_tellLaw_b155
      refine exC (tv := tv) hT (TKc_FX hK0 b6) b1 l2 b3 (by omega) (fun x t' μ' hx _ hq a1 a2 a3 => ?_) (fun cf t2 μ2 hq o2 l4 l5 e2 l6 => ?_)
      · rw [if_pos rfl, Wo_some, hL, hq]
        exact ⟨rfl, hx, a1, a2, FLc_tr f0 (FXc_FL (FXc_tr b6 a3))⟩
      · rw [hq, exB_ok] at hL
        dsimp only at hL
        rw [if_neg n10, append_c o2.2.2.1 (by omega), b1_some, show (59 : Int32) = nI (cK 4) from rfl]
        have o3 := OKc_app (p := (7, 0)) (x := 15) (y := 0) o2 rfl (fun h => by cases h)
        generalize hμ3 : upI (upI (upI μ2 (11 + 1) (sz1 + cf.length) 15) (11 + 2) (sz1 + cf.length) 0) 11 4 (nI (sz1 + cf.length + 1)) = μ3
        have o3' : OKc μ1 sz1 (cf ++ [(7, 0)]) t2 μ3 := by rw [← hμ3]; exact o3
        have f3 := FXc_tr b6 o3'.2.2.2.2.2
        refine tkC hT (TKc_FX hK0 f3) o3'.1 l5 (by omega) (by omega) (by omega) (fun x hx hr => ?_) (fun hr _ _ m5 => ?_)
        · rw [Wo_some, hL, hr]
          exact ⟨by show (0 : Int32) &&& 1 = 0; decide, hx, by dsimp only; rw [rd_Ik (by omega), rd_Is], rd_Is, FLc_tr f0 (FXc_FL (FXc_tr f3 (FXc_tr FXc_2 FXc_2)))⟩
        · rw [Wo_some, hL, hr]
          have o4 := OKc_at (t' := t2 + 1) o3'
          refine ⟨by show (1 : Int32) &&& 1 = 1; decide, rd_Is, fun j hj => ?_, ⟨sz1 + cf.length + 1, ?_, by omega, by omega, ?_⟩, ⟨b7, e2⟩, ?_, fun i hi => ?_, fun i hi => ?_, FLc_tr f0 (FXc_FL (FXc_tr f3 FXc_2)), by omega, m5⟩
          · exact ((o4.2.1 j hj).trans (b2 j hj)).trans (g2' j hj)
          · rw [o4.2.2.1, List.length_append]; rfl
          · refine PreC_Lay (PreC_keep b4 (fun k hk => o4.2.2.2.2.1 k hk)) ⟨SegC_l o4.2.2.2.1, ?_, Nat.lt_succ_self _⟩
            have := (SegC_r o4.2.2.2.1 0 (7, 0) rfl).1
            rw [Nat.add_zero] at this
            exact this
          · rw [rd_Ii (by omega), f3.1 14 (by omega) (by omega) (by omega) (by omega)]; exact g14
          · dsimp only; rw [rd_Ii (by omega), f3.1 14 (by omega) (by omega) (by omega) (by omega)]; exact g14' i hi
          · have q1 := o4.2.2.2.2.1 i (by omega)
            have q2 := b5 i hi
            have q3 := g12 i
            exact ⟨(q1.1.trans q2.1).trans q3.1, (q1.2.trans q2.2).trans q3.2⟩
