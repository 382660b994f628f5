def dupF (nm : Nat → Int64) (x : Int64) : Nat → Nat → Bool
  | 0, _ => false
  | r + 1, i => decide (lg_cmp (nm i) x = 0) || dupF nm x r (i + 1)
theorem in2_s (x : Int64) (μ : Mem) (n : Nat) (y : Int32) : fX4_isToldAlready_l2 x μ (n + 1) y = fX4_isToldAlready_s2 (fX4_isToldAlready_l2 x μ n) x y μ := rfl
theorem isNamed_c {μ : Mem} {nm : Nat → Int64} {x : Int64} {h : Nat} (h83 : μ.1 9 2 = nI h) (hh : h ≤ 6) (hn : ∀ i, i < h → μ.2 16 i = nm i) {r : Nat} : ∀ {i N : Nat}, r + i = h → h < N + i → fX4_isToldAlready_l2 x μ N (nI i) = some (if dupF nm x r i then 1 else 0) := by
  induction r with
  | zero =>
    intro i N hi hN
    obtain ⟨N, rfl⟩ : ∃ n', N = n' + 1 := ⟨N - 1, by omega⟩
    rw [in2_s]
    unfold fX4_isToldAlready_s2
    rw [h83, if_pos (by simp (disch := omega) only [L_add, L_add2, L_mul, L_mul2, L_sub, nI_add, pk_mul, pk_sub, L_le, L_le2, L_lt, L_lt2, L_eq, L_eq2, nI_leI, nI_ltI, nI_eq, nI_clamp, ix_nI, ix_lit, L_cl]; omega)]
    rfl
  | succ r ih =>
    intro i N hi hN
    obtain ⟨N, rfl⟩ : ∃ n', N = n' + 1 := ⟨N - 1, by omega⟩
    rw [in2_s]
    unfold fX4_isToldAlready_s2
    rw [h83, if_neg (by simp (disch := omega) only [L_add, L_add2, L_mul, L_mul2, L_sub, nI_add, pk_mul, pk_sub, L_le, L_le2, L_lt, L_lt2, L_eq, L_eq2, nI_leI, nI_ltI, nI_eq, nI_clamp, ix_nI, ix_lit, L_cl]; omega), if_neg (by simp (disch := omega) only [L_add, L_add2, L_mul, L_mul2, L_sub, nI_add, pk_mul, pk_sub, L_le, L_le2, L_lt, L_lt2, L_eq, L_eq2, nI_leI, nI_ltI, nI_eq, nI_clamp, ix_nI, ix_lit, L_cl]; omega), ix_nI (by omega) (by omega), gd_true, nI_clamp (by omega), hn i (by omega), nI_1, ih (by omega) (by omega)]
    show _ = some (if (decide (lg_cmp (nm i) x = 0) || dupF nm x r (i + 1)) = true then 1 else 0)
    by_cases hc : lg_cmp (nm i) x = 0
    · rw [if_pos hc, decide_eq_true hc, Bool.true_or, if_pos rfl]
    · rw [if_neg hc, decide_eq_false hc, Bool.false_or]
def p95 (tk : Nat → Nat) (t : Nat) : Except (Nat × Nat) Nat := exB (pTk tk 1 t) (fun t => exB (pKs tk [2, 2, 2, 2, 2] t) (fun t => pTk tk 4 t))
theorem b95_c {tk : Nat → Nat} {tv : Nat → Int32} {tn : Nat → Int64} {pl : Nat → Int32} {e : Nat} {t h : Nat} {w : Option (Nat × Nat)} {μ : Mem} {Q : Int32 × Mem → Prop} (hT : TE tk e) (hK : TKc tk tv tn pl e μ) (hh : h < 6) (h2 : μ.1 3 2 = nI t) (ht : t ≤ e) (hw : NTc pl w μ) (h83 : μ.1 9 2 = nI h)
    (herr : ∀ x t' μ', (x = 1 ∨ x = 2) → p95 tk t = .error (x, t') → μ'.1 3 3 = nI x → μ'.1 3 4 = pl t' → FHc μ μ' → Q (0, μ'))
    (hok : ∀ μ', p95 tk t = .ok (t + 7) → tk t = 1 → t + 7 ≤ e → μ'.1 3 2 = nI (t + 7) → NTc pl (wNo tv w (t + 1) 5) μ' → μ'.1 9 2 = nI (h + 1) → (∀ k, k ≠ 2 → μ'.1 9 k = μ.1 9 k) → (∀ j, j < 5 → μ'.1 10 (h * 5 + j) = tv (t + 1 + j)) → (∀ k, k < h * 5 → μ'.1 10 k = μ.1 10 k) → μ'.2 = μ.2 → FHc μ μ' → Q (1, μ')) : Wo (fX4_tellHouse_b89 (nI h) μ) Q := by
  have h400 := hT.1
  unfold fX4_tellHouse_b89
  rw [show (21 : Int32) = nI (cK 1) from rfl]
  refine tkC hT hK h2 ht (by omega) (by omega) (by omega) (fun x hx hq => ?_) (fun hq k1 k4 m1 => ?_)
  · rw [if_pos rfl, Wo_some]
    exact herr x t _ hx (by unfold p95; rw [hq]; rfl) (by rw [rd_Ik (by omega), rd_Is]) rd_Is (FHc_tr (FHc_2 (by omega)) (FHc_2 (by omega)))
  · rw [if_neg n10]
    have hp : p95 tk t = exB (pKs tk [2, 2, 2, 2, 2] (t + 1)) (fun t => pTk tk 4 t) := by unfold p95; rw [hq, exB_ok]
    have f0 : FHc μ (upI μ 3 2 (nI (t + 1))) := FHc_2 (by omega)
    generalize hμ0 : upI μ 3 2 (nI (t + 1)) = μ0
    rw [hμ0] at f0
    have g2 : μ0.1 3 2 = nI (t + 1 + 0) := by rw [← hμ0, rd_Is]
    have gw : NTc pl w μ0 := by rw [← hμ0]; exact NTc_fr hw (by rw [rd_Ik (by omega)]) (by rw [rd_Ik (by omega)])
    have g8 : μ0.1 9 = μ.1 9 := by rw [← hμ0, rd_Ii (by omega)]
    have g10 : μ0.1 10 = μ.1 10 := by rw [← hμ0, rd_Ii (by omega)]
    have gm : μ0.2 = μ.2 := by rw [← hμ0]; rfl
    refine hl_c (tv := tv) (tn := tn) (pl := pl) (e := e) (t := t + 1) (h := h) (w := w) (μ0 := μ0) hT (TKc_FH hK f0) hh (r := 5) (i := 0) (N := FU) (by omega) (by unfold FU; omega) m1 ⟨g2, gw, rfl, rfl, fun j hj => by omega, fun _ _ => rfl, FHc_rfl⟩ (fun x t' μ' hx hr a1 a2 a3 => ?_) (fun μ' hr m5 hS => ?_)
    · exact herr x t' μ' hx (by rw [hp]; show exB (pKs tk (List.replicate 5 2) (t + 1 + 0)) _ = _; rw [hr]; rfl) a1 a2 (FHc_tr f0 a3)
    · have hp2 : p95 tk t = pTk tk 4 (t + 1 + 5) := by rw [hp]; show exB (pKs tk (List.replicate 5 2) (t + 1 + 0)) _ = _; rw [hr]; rfl
      obtain ⟨s1, s2, s3, s4, s5, s6, s7⟩ := hS
      have e83 : μ'.1 9 2 = nI h := by rw [s3, g8]; exact h83
      rw [e83, nI_1, bd_eq, show (59 : Int32) = nI (cK 4) from rfl]
      have f1 : FHc μ (upI μ' 9 2 (nI (h + 1))) := FHc_tr f0 (FHc_tr s7 (FHc_8 (by omega)))
      refine tkC hT (TKc_FH hK f1) (by rw [rd_Ii (by omega)]; exact s1) m5 (by omega) (by omega) (by omega) (fun x hx hq => ?_) (fun hq _ _ m6 => ?_)
      · rw [Wo_some]
        exact herr x (t + 1 + 5) _ hx (by rw [hp2, hq]) (by rw [rd_Ik (by omega), rd_Is]) rd_Is (FHc_tr f1 (FHc_tr (FHc_2 (by omega)) (FHc_2 (by omega))))
      · rw [Wo_some]
        refine hok _ (by rw [hp2, hq]) k1 m6 (by rw [rd_Is]) ?_ ?_ (fun k hk => ?_) (fun j hj => ?_) (fun k hk => ?_) (s4.trans gm) (FHc_tr f1 (FHc_2 (by omega)))
        · exact NTc_fr s2 (by rw [rd_Ik (by omega), rd_Ii (by omega)]) (by rw [rd_Ik (by omega), rd_Ii (by omega)])
        · rw [rd_Ii (by omega), rd_Is]
        · rw [rd_Ii (by omega), rd_Ik hk, s3, g8]
        · rw [rd_Ii (by omega), rd_Ii (by omega)]; exact s5 j hj
        · rw [rd_Ii (by omega), rd_Ii (by omega), s6 k hk, g10]
def RHc (tk : Nat → Nat) (tv : Nat → Int32) (tn : Nat → Int64) (pl : Nat → Int32) (e : Nat) (nm : Nat → Int64) (t h : Nat) (w : Option (Nat × Nat)) (μ : Mem) (r : Except (Nat × Nat) Nat) (p : Int32 × Mem) : Prop := match r with
  | .error (x, t') => p.1 = 0 ∧ (x = 1 ∨ x = 2) ∧ p.2.1 3 3 = nI x ∧ p.2.1 3 4 = pl t' ∧ FHc μ p.2
  | .ok t' => p.1 = 1 ∧ t' = t + 8 ∧ t' ≤ e ∧ p.2.1 3 2 = nI (t + 8) ∧ NTc pl (wNo tv (ntd w (dupF nm (tn (t + 1)) h 0) 3 (t + 1)) (t + 2) 5) p.2 ∧ p.2.1 9 2 = nI (h + 1) ∧ (∀ k, k ≠ 2 → p.2.1 9 k = μ.1 9 k) ∧ (∀ j, j < 5 → p.2.1 10 (h * 5 + j) = tv (t + 2 + j)) ∧ (∀ k, k < h * 5 → p.2.1 10 k = μ.1 10 k) ∧ p.2.2 16 h = tn (t + 1) ∧ (∀ i, i ≠ h → p.2.2 16 i = μ.2 16 i) ∧ FHc μ p.2
theorem tellHouse_c {tk : Nat → Nat} {tv : Nat → Int32} {tn : Nat → Int64} {pl : Nat → Int32} {e : Nat} {nm : Nat → Int64} {t h : Nat} {w : Option (Nat × Nat)} {μ : Mem} (hT : TE tk e) (hK : TKc tk tv tn pl e μ) (hh : h < 6) (h2 : μ.1 3 2 = nI t) (ht : t ≤ e) (hw : NTc pl w μ) (h83 : μ.1 9 2 = nI h) (hn : ∀ i, i < h → μ.2 16 i = nm i) : Wo (fX4_tellHouse μ) (RHc tk tv tn pl e nm t h w μ (pHs tk t)) := by
  have h400 := hT.1
  unfold fX4_tellHouse
  rw [h83, bd_eq, if_pos (by simp (disch := omega) only [L_add, L_add2, L_mul, L_mul2, L_sub, nI_add, pk_mul, pk_sub, L_le, L_le2, L_lt, L_lt2, L_eq, L_eq2, nI_leI, nI_ltI, nI_eq, nI_clamp, ix_nI, ix_lit, L_cl]; omega), show (0 : Int32) = nI (cK 20) from rfl]
  refine tkC hT hK h2 ht (by omega) (by omega) (by omega) (fun x hx hq => ?_) (fun hq k1 k4 m1 => ?_)
  · rw [if_pos (show (0 : Int32) = nI (cK 20) from rfl), Wo_some, show pHs tk t = .error (x, t) by unfold pHs; rw [hq]; rfl]
    exact ⟨rfl, hx, by dsimp only; rw [rd_Ik (by omega), rd_Is], rd_Is, FHc_tr (FHc_2 (by omega)) (FHc_2 (by omega))⟩
  · have hp : pHs tk t = p95 tk (t + 1) := by unfold pHs; rw [hq, exB_ok]; rfl
    rw [if_neg (show ¬ (1 : Int32) = nI (cK 20) from n10), rd_Is, ix_nI (by omega) (by omega), gd_true, ix_nI (by omega) (by omega), gd_true, nI_clamp (by omega), nI_clamp (by omega), bd_eq]
    have f1 : FHc μ (upL (upI μ 3 2 (nI (t + 1))) 16 h ((upI μ 3 2 (nI (t + 1))).2 7 (t + 1))) := FHc_tr (FHc_2 (by omega)) FHc_L
    generalize hμ1 : upL (upI μ 3 2 (nI (t + 1))) 16 h ((upI μ 3 2 (nI (t + 1))).2 7 (t + 1)) = μ1
    rw [hμ1] at f1
    have hK1 := TKc_FH hK f1
    have g2 : μ1.1 3 2 = nI (t + 1) := by rw [← hμ1, rd_L1, rd_Is]
    have gw : NTc pl w μ1 := by rw [← hμ1]; exact NTc_fr hw (by rw [rd_L1, rd_Ik (by omega)]) (by rw [rd_L1, rd_Ik (by omega)])
    have g8 : μ1.1 9 = μ.1 9 := by rw [← hμ1, rd_L1, rd_Ii (by omega)]
    have g10 : μ1.1 10 = μ.1 10 := by rw [← hμ1, rd_L1, rd_Ii (by omega)]
    have gn : μ1.2 16 h = μ.2 7 (t + 1) := by rw [← hμ1, rd_Ls]; rfl
    have gn' : ∀ i, i ≠ h → μ1.2 16 i = μ.2 16 i := fun i hi => by rw [← hμ1, rd_Lk hi]; rfl
    have g83 : μ1.1 9 2 = nI h := by rw [g8]; exact h83
    have e1 : nI (cK (tk (t + 1))) = 21 ↔ tk (t + 1) = 1 := cK_eq (b := 1) (hT.2.2 _ m1) (by omega)
    have go : ∀ {w' : Option (Nat × Nat)} {μ2 : Mem}, F2c μ1 μ2 → NTc pl w' μ2 → (tk (t + 1) = 1 → w' = ntd w (dupF nm (tn (t + 1)) h 0) 3 (t + 1)) → Wo (fX4_tellHouse_b89 (nI h) μ2) (RHc tk tv tn pl e nm t h w μ (pHs tk t)) := by
      intro w' μ2 f2 hw' hwe
      have f12 := FHc_tr f1 (FHc_F2 f2)
      refine b95_c (tv := tv) hT (TKc_F2 hK1 f2) hh (by rw [f2.2.1 2 (by omega) (by omega)]; exact g2) m1 hw' (by rw [f2.1 9 (by omega)]; exact g83) (fun x t' μ' hx hr a1 a2 a3 => ?_) (fun μ' hr a1 a2 a3 a4 a5 a6 a7 a8 a9 a10 => ?_)
      · rw [hp, hr]
        exact ⟨rfl, hx, a1, a2, FHc_tr f12 a3⟩
      · rw [hp, hr]
        rw [hwe a1] at a4
        refine ⟨rfl, by omega, a2, a3, a4, a5, fun k hk => by dsimp only; rw [a6 k hk, f2.1 9 (by omega), g8], fun j hj => a7 j hj, fun k hk => by dsimp only; rw [a8 k hk, f2.1 10 (by omega), g10], ?_, fun i hi => ?_, FHc_tr f12 a10⟩
        · dsimp only; rw [a9, f2.2.2, gn]; exact (hK _ m1).2.2.2 a1
        · dsimp only; rw [a9, f2.2.2]; exact gn' i hi
    rw [g2, ix_nI (by omega) (by omega), gd_true, nI_clamp (by omega), (hK1 _ m1).1]
    by_cases h1 : tk (t + 1) = 1
    · rw [if_pos (e1.mpr h1), gd_true, (hK1 _ m1).2.2.2 h1]
      unfold fX4_isToldAlready
      have hin : fX4_isToldAlready_l2 (tn (t + 1)) μ1 FU 0 = some (if dupF nm (tn (t + 1)) h 0 then 1 else 0) := isNamed_c (μ := μ1) (nm := nm) (x := tn (t + 1)) (h := h) g83 (by omega) (fun i hi => by rw [gn' i (by omega)]; exact hn i hi) (r := h) (i := 0) (N := FU) (by omega) (by unfold FU; omega)
      rw [show (nI (cK 20)) = nI 0 from rfl, hin, b1_some]
      by_cases hd : dupF nm (tn (t + 1)) h 0 = true
      · rw [if_pos hd, if_neg (show ¬ (1 : Int32) = nI 0 from n10), show (3 : Int32) = nI 3 from rfl]
        refine note_c hT hK1 g2 m1 (Or.inl rfl) gw (fun μ2 a b => go b a (fun _ => by rw [hd]))
      · rw [if_neg hd, if_pos (show (0 : Int32) = nI 0 from rfl)]
        refine go F2c_rfl gw (fun _ => ?_)
        rw [Bool.eq_false_iff.mpr hd, ntd_f]
    · rw [if_neg (fun hx => h1 (e1.mp hx))]
      exact go F2c_rfl gw (fun hx => absurd hx h1)
def pNm (tk : Nat → Nat) (t : Nat) : Except (Nat × Nat) Nat := exB (pTk tk 2 t) (fun t => pTk tk 4 t)
def RNc (tv : Nat → Int32) (pl : Nat → Int32) (e i t : Nat) (w : Option (Nat × Nat)) (μ : Mem) (r : Except (Nat × Nat) Nat) (p : Int32 × Mem) : Prop := match r with
  | .error (x, t') => p.1 = 0 ∧ (x = 1 ∨ x = 2) ∧ p.2.1 3 3 = nI x ∧ p.2.1 3 4 = pl t' ∧ FHc μ p.2
  | .ok t' => p.1 = 1 ∧ t' = t + 2 ∧ t' ≤ e ∧ p.2.1 3 2 = nI (t + 2) ∧ NTc pl (ntd w (oor (5 + i) (tv t)) 5 t) p.2 ∧ p.2.1 9 (3 + i) = tv t ∧ (∀ k, k ≠ 3 + i → p.2.1 9 k = μ.1 9 k) ∧ p.2.1 10 = μ.1 10 ∧ p.2.2 = μ.2 ∧ FHc μ p.2
theorem tellNumber_c {tk : Nat → Nat} {tv : Nat → Int32} {tn : Nat → Int64} {pl : Nat → Int32} {e : Nat} {t i : Nat} {w : Option (Nat × Nat)} {μ : Mem} (hT : TE tk e) (hK : TKc tk tv tn pl e μ) (hi : i < 4) (h2 : μ.1 3 2 = nI t) (ht : t ≤ e) (hw : NTc pl w μ) : Wo (fX4_tellNumber (nI (5 + i)) μ) (RNc tv pl e i t w μ (pNm tk t)) := by
  have h400 := hT.1
  unfold fX4_tellNumber
  have e5 : 5 + nI (5 + i) - 5 = nI (5 + i) := by
    rcases (show i = 0 ∨ i = 1 ∨ i = 2 ∨ i = 3 by omega) with rfl | rfl | rfl | rfl <;> rfl
  rw [e5]
  have tl : ∀ {μ5 : Mem} {w' : Option (Nat × Nat)}, pTk tk 2 t = .ok (t + 1) → FHc μ μ5 → μ5.1 3 2 = nI (t + 1) → t + 1 ≤ e → NTc pl w' μ5 → w' = ntd w (oor (5 + i) (tv t)) 5 t → μ5.1 9 = μ.1 9 → μ5.1 10 = μ.1 10 → μ5.2 = μ.2 → Wo (bd (upI μ5 9 (3 + i) (tv t)) (fun μ9 => b2 (fX4_take (nI (cK 4)) μ9) (fun r13 μ12 => some (r13 &&& 1, μ12)))) (RNc tv pl e i t w μ (pNm tk t)) := by
    intro μ5 w' hq f5 g2 m1 gw hwe g8 g10 gm
    have hp : pNm tk t = pTk tk 4 (t + 1) := by unfold pNm; rw [hq, exB_ok]
    rw [bd_eq]
    have f6 : FHc μ (upI μ5 9 (3 + i) (tv t)) := FHc_tr f5 (FHc_8 (by omega))
    refine tkC hT (TKc_FH hK f6) (by rw [rd_Ii (by omega)]; exact g2) m1 (by omega) (by omega) (by omega) (fun x hx hq => ?_) (fun hq _ _ m2 => ?_)
    · rw [Wo_some, hp, hq]
      exact ⟨by show (0 : Int32) &&& 1 = 0; decide, hx, by dsimp only; rw [rd_Ik (by omega), rd_Is], rd_Is, FHc_tr f6 (FHc_tr (FHc_2 (by omega)) (FHc_2 (by omega)))⟩
    · rw [Wo_some, hp, hq]
      refine ⟨by show (1 : Int32) &&& 1 = 1; decide, rfl, m2, rd_Is, ?_, ?_, fun k hk => ?_, ?_, gm, FHc_tr f6 (FHc_2 (by omega))⟩
      · rw [← hwe]
        exact NTc_fr gw (by dsimp only; rw [rd_Ik (by omega), rd_Ii (by omega)]) (by dsimp only; rw [rd_Ik (by omega), rd_Ii (by omega)])
      · dsimp only; rw [rd_Ii (by omega), rd_Is]
      · dsimp only; rw [rd_Ii (by omega), rd_Ik hk, g8]
      · dsimp only; rw [rd_Ii (by omega), rd_Ii (by omega), g10]
  refine numC (tv := tv) hT hK h2 ht (by omega) hw (fun hne y => ?_) (fun heq μ1 n1 f1 => ?_)
  · rw [show (22 : Int32) = nI (cK 2) from rfl]
    refine tkC hT hK h2 ht (by omega) (by omega) (by omega) (fun x hx hq => ?_) (fun _ hq => absurd hq hne)
    rw [if_pos rfl, Wo_some, show pNm tk t = .error (x, t) by unfold pNm; rw [hq]; rfl]
    exact ⟨rfl, hx, by dsimp only; rw [rd_Ik (by omega), rd_Is], rd_Is, FHc_tr (FHc_2 (by omega)) (FHc_2 (by omega))⟩
  · rw [show (22 : Int32) = nI (cK 2) from rfl]
    refine tkC hT (TKc_F2 hK f1) (by rw [f1.2.1 2 (by omega) (by omega)]; exact h2) ht (by omega) (by omega) (by omega) (fun x hx hq => ?_) (fun hq _ _ m1 => ?_)
    · rw [if_pos rfl, Wo_some, show pNm tk t = .error (x, t) by unfold pNm; rw [hq]; rfl]
      exact ⟨rfl, hx, by dsimp only; rw [rd_Ik (by omega), rd_Is], rd_Is, FHc_tr (FHc_F2 f1) (FHc_tr (FHc_2 (by omega)) (FHc_2 (by omega)))⟩
    · rw [if_neg n10, bd_eq]
      have T := tl (μ5 := upI μ1 3 2 (nI (t + 1))) (w' := ntd w (oor (5 + i) (tv t)) 5 t) hq (FHc_tr (FHc_F2 f1) (FHc_2 (by omega))) rd_Is m1 (NTc_fr n1 (by rw [rd_Ik (by omega)]) (by rw [rd_Ik (by omega)])) rfl (by rw [rd_Ii (by omega), f1.1 9 (by omega)]) (by rw [rd_Ii (by omega), f1.1 10 (by omega)]) f1.2.2
      rcases (show i = 0 ∨ i = 1 ∨ i = 2 ∨ i = 3 by omega) with rfl | rfl | rfl | rfl
      · rw [if_pos (by decide)]; exact T
      · rw [if_neg (by decide), if_pos (by decide)]; exact T
      · rw [if_neg (by decide), if_neg (by decide), if_pos (by decide)]; exact T
      · rw [if_neg (by decide), if_neg (by decide), if_neg (by decide)]; exact T
