def AtC (b : Nat → Int32) (T n : Nat) (k i j : Nat) (μ : Mem) : Prop := μ.1 6 n = nI (cK k) ∧ μ.1 8 n = nI i ∧ (k = 2 → (μ.2 7 n).toInt32 = (nuF b (j - i) i 0).toInt32) ∧ (k = 1 → μ.2 7 n = nmF b (j - i) i 0)
def FTc (n : Nat) (μ μ' : Mem) : Prop := (∀ j, j ≠ 4 → j ≠ 6 → j ≠ 8 → μ'.1 j = μ.1 j) ∧ (∀ k, k ≠ 4 → μ'.1 4 k = μ.1 4 k) ∧ (∀ k, k ≠ n → μ'.1 6 k = μ.1 6 k ∧ μ'.1 8 k = μ.1 8 k ∧ μ'.2 7 k = μ.2 7 k) ∧ ∀ j, j ≠ 7 → μ'.2 j = μ.2 j
theorem FTc_tr {n : Nat} {a b c : Mem} (h : FTc n a b) (h2 : FTc n b c) : FTc n a c := ⟨fun j x y z => (h2.1 j x y z).trans (h.1 j x y z), fun k x => (h2.2.1 k x).trans (h.2.1 k x), fun k x => by have p := h.2.2.1 k x; have q := h2.2.2.1 k x; exact ⟨q.1.trans p.1, q.2.1.trans p.2.1, q.2.2.trans p.2.2⟩, fun j x => (h2.2.2.2 j x).trans (h.2.2.2 j x)⟩
theorem FTc_5 {n : Nat} {μ : Mem} {j : Nat} {v : Int32} (hj : j = 6 ∨ j = 8) : FTc n μ (upI μ j n v) := by
  refine ⟨fun i x y z => rd_Ii (by omega), fun k _ => by rw [rd_Ii (by omega)], fun k hk => ?_, fun _ _ => rfl⟩
  rcases hj with rfl | rfl
  · rw [rd_Ik hk, rd_Ii (by omega)]; exact ⟨rfl, rfl, rfl⟩
  · rw [rd_Ik hk, rd_Ii (by omega)]; exact ⟨rfl, rfl, rfl⟩
theorem FTc_3 {n : Nat} {μ : Mem} {v : Int32} : FTc n μ (upI μ 4 4 v) := ⟨fun i x y z => rd_Ii x, fun k hk => rd_Ik hk, fun k _ => by rw [rd_Ii (by omega), rd_Ii (by omega)]; exact ⟨rfl, rfl, rfl⟩, fun _ _ => rfl⟩
theorem FTc_L {n : Nat} {μ : Mem} {v : Int64} : FTc n μ (upL μ 7 n v) := ⟨fun _ _ _ _ => rfl, fun _ _ => rfl, fun k hk => ⟨rfl, rfl, rd_Lk hk⟩, fun _ h => rd_Li h⟩
theorem putEnd {b : Nat → Int32} {T n k i j : Nat} {μ0 μ : Mem} (hf : FTc n μ0 μ) (h34 : μ.1 4 4 = nI n) (hn : n ≤ 400) (h7 : μ.1 8 n = nI i) (h2 : k = 2 → (μ.2 7 n).toInt32 = (nuF b (j - i) i 0).toInt32) (h1 : k = 1 → μ.2 7 n = nmF b (j - i) i 0) : Wo (gd (ix (nI n) 401) (bd (upI μ 6 (nI n).toNatClampNeg (nI (cK k))) (fun μ17 => bd (upI μ17 4 4 ((μ17.1 4 4) + 1)) (fun μ19 => some μ19)))) (fun μ' => μ'.1 4 4 = nI (n + 1) ∧ AtC b T n k i j μ' ∧ FTc n μ0 μ') := by
  rw [ix_nI (by omega) (by omega), gd_true, nI_clamp (by omega), bd_eq, bd_eq, rd_Ii (by omega), h34, nI_1, Wo_some]
  exact ⟨rd_Is, ⟨by rw [rd_Ii (by omega), rd_Is], by rw [rd_Ii (by omega), rd_Ii (by omega)]; exact h7, h2, h1⟩, FTc_tr hf (FTc_tr (FTc_5 (Or.inl rfl)) FTc_3)⟩
theorem putToken_c {b : Nat → Int32} {T n i j : Nat} {μ : Mem} (hT : T ≤ 2000) (hX : TXc b T μ) (hB : ∀ k, k < T → -128 ≤ b k ∧ b k ≤ 127) (hW : ∀ i, i < 21 → μ.2 5 i = WCL.getD i 0) (h34 : μ.1 4 4 = nI n) (hn : n ≤ 400) (hi : i ≤ T) (hj : j = tEn b T i) : Wo (fX8_putToken 2 (nI i) (nI j) μ) (fun μ' => μ'.1 4 4 = nI (n + 1) ∧ AtC b T n (tKd b T i j) i j μ' ∧ FTc n μ μ') := by
  unfold fX8_putToken
  rw [h34, ix_nI (by omega) (by omega), gd_true, nI_clamp (by omega), bd_eq, rd_Ii (by omega), h34, ix_nI (by omega) (by omega), gd_true, nI_clamp (by omega), bd_eq]
  have f1 : FTc n μ (upL (upI μ 8 n (nI i)) 7 n 0) := FTc_tr (FTc_5 (Or.inr rfl)) FTc_L
  generalize hμ1 : upL (upI μ 8 n (nI i)) 7 n 0 = μ1
  rw [hμ1] at f1
  have g34 : μ1.1 4 4 = nI n := by rw [← hμ1, rd_L1, rd_Ii (by omega)]; exact h34
  have g7 : μ1.1 8 n = nI i := by rw [← hμ1, rd_L1, rd_Is]
  have gX : TXc b T μ1 := fun k hk => by rw [f1.1 2 (by omega) (by omega) (by omega)]; exact hX k hk
  have gW : ∀ i, i < 21 → μ1.2 5 i = WCL.getD i 0 := fun k hk => by rw [f1.2.2.2 5 (by omega)]; exact hW k hk
  unfold tKd
  by_cases hTi : T ≤ i
  · have hji : j = i := by rw [hj]; unfold tEn; rw [if_pos hTi]
    rw [if_pos (by rw [hji]), if_pos hTi, g34]
    exact putEnd (k := 0) f1 g34 hn g7 (fun h => by cases h) (fun h => by cases h)
  · have hgt := tEn_gt (b := b) (T := T) (i := i) (by omega)
    rw [← hj] at hgt
    have esub : nI j - nI i = nI (j - i) := by simp (disch := omega) only [L_add, L_add2, L_mul, L_mul2, L_sub, nI_add, pk_mul, pk_sub, L_le, L_le2, L_lt, L_lt2, L_eq, L_eq2, nI_leI, nI_ltI, nI_eq, nI_clamp, ix_nI, ix_lit, L_cl]
    rw [if_neg (by simp (disch := omega) only [L_add, L_add2, L_mul, L_mul2, L_sub, nI_add, pk_mul, pk_sub, L_le, L_le2, L_lt, L_lt2, L_eq, L_eq2, nI_leI, nI_ltI, nI_eq, nI_clamp, ix_nI, ix_lit, L_cl]; omega), if_neg hTi, ix_nI (by omega) (by omega), gd_true, nI_clamp (by omega), gX i (by omega), isLetter_c, b1_some]
    have hL : ∀ (v : Int64), FTc n μ (upL μ1 7 n v) ∧ (upL μ1 7 n v).1 4 4 = nI n ∧ (upL μ1 7 n v).1 8 n = nI i ∧ (upL μ1 7 n v).2 7 n = v := fun v => ⟨FTc_tr f1 FTc_L, g34, g7, rd_Ls⟩
    by_cases h1 : leB (b i) = true
    · have enm : fX8_nameOf 2 (nI i) (nI j) μ1 = some (nmF b (j - i) i 0) := nm_c hT gX hgt.2 (by omega) (by unfold FU; omega)
      obtain ⟨l1, l2, l3, l4⟩ := hL (nmF b (j - i) i 0)
      rw [if_pos h1, if_neg n10, enm, b1_some, g34, ix_nI (by omega) (by omega), gd_true, nI_clamp (by omega), bd_eq, if_pos h1, l2, esub]
      by_cases h8 : j - i ≤ 8
      · rw [if_pos (by simp (disch := omega) only [L_add, L_add2, L_mul, L_mul2, L_sub, nI_add, pk_mul, pk_sub, L_le, L_le2, L_lt, L_lt2, L_eq, L_eq2, nI_leI, nI_ltI, nI_eq, nI_clamp, ix_nI, ix_lit, L_cl]; omega), if_pos h8, ix_nI (by omega) (by omega), gd_true, nI_clamp (by omega), l4]
        have ekn : fX8_kindOfName (nmF b (j - i) i 0) (upL μ1 7 n (nmF b (j - i) i 0)) = some (nI (kdC (nmF b (j - i) i 0) 21 0)) := kn_c (r := 21) (i := 0) (N := FU) (fun k hk => by rw [rd_Li (by omega)]; exact gW k hk) (by omega) (by unfold FU; omega)
        rw [ekn, b1_some, kd_eq]
        have hk2 := kdM_lt (x := nmF b (j - i) i 0) (r := 21) (i := 0) (a := 1) rfl (by omega) (by omega) (by omega)
        exact putEnd l1 l2 hn l3 (fun h => by omega) (fun _ => l4)
      · rw [if_neg (by simp (disch := omega) only [L_add, L_add2, L_mul, L_mul2, L_sub, nI_add, pk_mul, pk_sub, L_le, L_le2, L_lt, L_lt2, L_eq, L_eq2, nI_leI, nI_ltI, nI_eq, nI_clamp, ix_nI, ix_lit, L_cl]; omega), if_neg h8]
        exact putEnd (k := 3) l1 l2 hn l3 (fun h => by cases h) (fun h => by cases h)
    · rw [if_neg h1, if_pos rfl, isDigit_c, b1_some, if_neg h1]
      by_cases h2 : diB (b i) = true
      · have enu : fX8_numberOf 2 (nI i) (nI j) μ1 = some (nuF b (j - i) i 0) := nu_c hT gX hgt.2 (by omega) (by unfold FU; omega)
        obtain ⟨l1, l2, l3, l4⟩ := hL (nuF b (j - i) i 0)
        rw [if_pos h2, if_neg n10, enu, b1_some, g34, ix_nI (by omega) (by omega), gd_true, nI_clamp (by omega), bd_eq, if_pos h2, l2, esub]
        by_cases h4 : j - i ≤ 4
        · rw [if_pos (by simp (disch := omega) only [L_add, L_add2, L_mul, L_mul2, L_sub, nI_add, pk_mul, pk_sub, L_le, L_le2, L_lt, L_lt2, L_eq, L_eq2, nI_leI, nI_ltI, nI_eq, nI_clamp, ix_nI, ix_lit, L_cl]; omega), if_pos h4]
          exact putEnd (k := 2) l1 l2 hn l3 (fun _ => by rw [l4]) (fun h => by cases h)
        · rw [if_neg (by simp (disch := omega) only [L_add, L_add2, L_mul, L_mul2, L_sub, nI_add, pk_mul, pk_sub, L_le, L_le2, L_lt, L_lt2, L_eq, L_eq2, nI_leI, nI_ltI, nI_eq, nI_clamp, ix_nI, ix_lit, L_cl]; omega), if_neg h4]
          exact putEnd (k := 3) l1 l2 hn l3 (fun h => by cases h) (fun h => by cases h)
      · obtain ⟨r, e1, e2, e3⟩ := sg_c (hB i (by omega)).1 (hB i (by omega)).2
        have hs := sgB_lt (b i)
        rw [if_neg h2, if_pos rfl, e1, b1_some, if_neg h2, g34]
        by_cases h3 : sgB (b i) = 3
        · rw [if_pos (e2.mpr h3), h3]
          exact putEnd (k := 3) f1 g34 hn g7 (fun h => by cases h) (fun h => by cases h)
        · rw [if_neg (fun hx => h3 (e2.mp hx)), gd_true]
          have e3' := e3 h3
          have : fX8_putToken_b183 2 (nI n) (b i) μ1 = fX8_putToken_b183 2 (nI n) (nI (cK (sgB (b i)))) μ1 := by rw [← e3']
          rw [this]
          exact putEnd f1 g34 hn g7 (fun h => absurd h hs.2.2.1) (fun h => absurd h hs.2.2.2)
def FSc (μ μ' : Mem) : Prop := (∀ j, j ≠ 4 → j ≠ 6 → j ≠ 8 → μ'.1 j = μ.1 j) ∧ (∀ k, k ≠ 4 → μ'.1 4 k = μ.1 4 k) ∧ ∀ j, j ≠ 7 → μ'.2 j = μ.2 j
theorem sp_s (q n : Nat) (x y z : Int32) (μ : Mem) : fX8_split_l10 q x (n + 1) y z μ = fX8_split_s10 (fX8_split_l10 q x n) q x y z μ := rfl
theorem split_l {b : Nat → Int32} {T : Nat} {μ0 : Mem} (hT : T ≤ 2000) (hX : TXc b T μ0) (hB : ∀ k, k < T → -128 ≤ b k ∧ b k ≤ 127) (hW : ∀ i, i < 21 → μ0.2 5 i = WCL.getD i 0) {r : Nat} : ∀ {n N : Nat} {μ : Mem}, r + n = 401 → r < N → FSc μ0 μ → μ.1 4 4 = nI n → (∀ i, i < n → AtC b T i (tTk b T i) (tSt b T i) (tP b T (i + 1)) μ) → Wo (fX8_split_l10 2 (nI T) N (nI (tP b T n)) (nI n) μ) (fun μ' => TKc (tTk b T) (tTv b T) (tTn b T) (tPl b T) (eT b T) μ' ∧ FSc μ0 μ') := by
  have he : eT b T ≤ 400 := (TE_t (b := b) (T := T)).1
  induction r with
  | zero =>
    intro n N μ hn hN hF h34 hA
    obtain ⟨N, rfl⟩ : ∃ n', N = n' + 1 := ⟨N - 1, by omega⟩
    rw [sp_s]
    unfold fX8_split_s10
    rw [if_pos (by simp (disch := omega) only [L_add, L_add2, L_mul, L_mul2, L_sub, nI_add, pk_mul, pk_sub, L_le, L_le2, L_lt, L_lt2, L_eq, L_eq2, nI_leI, nI_ltI, nI_eq, nI_clamp, ix_nI, ix_lit, L_cl]; omega), Wo_some]
    exact ⟨fun i hi => hA i (by omega), hF⟩
  | succ r ih =>
    intro n N μ hn hN hF h34 hA
    obtain ⟨N, rfl⟩ : ∃ n', N = n' + 1 := ⟨N - 1, by omega⟩
    rw [sp_s]
    unfold fX8_split_s10
    have hle := tP_le (b := b) (T := T) (n := n)
    have gX : TXc b T μ := fun k hk => by rw [hF.1 2 (by omega) (by omega) (by omega)]; exact hX k hk
    have gW : ∀ i, i < 21 → μ.2 5 i = WCL.getD i 0 := fun k hk => by rw [hF.2.2 5 (by omega)]; exact hW k hk
    have eb : fX8_endOfBlanks 2 (nI T) (nI (tP b T n)) μ = some (nI (tSt b T n)) := eb_c hT gX (by omega) (by unfold FU; omega)
    rw [if_neg (by simp (disch := omega) only [L_add, L_add2, L_mul, L_mul2, L_sub, nI_add, pk_mul, pk_sub, L_le, L_le2, L_lt, L_lt2, L_eq, L_eq2, nI_leI, nI_ltI, nI_eq, nI_clamp, ix_nI, ix_lit, L_cl]; omega), eb, b1_some, endOfRun_c hT gX hle.2.1, b1_some, Wo_b1]
    refine Wo_mono (putToken_c hT gX hB gW h34 (by omega) hle.2.1 rfl) ?_
    rintro μ1 ⟨a1, a2, a3⟩
    have hF1 : FSc μ0 μ1 := ⟨fun j x y z => (a3.1 j x y z).trans (hF.1 j x y z), fun k x => (a3.2.1 k x).trans (hF.2.1 k x), fun j x => (a3.2.2.2 j x).trans (hF.2.2 j x)⟩
    have hA1 : ∀ i, i < n + 1 → AtC b T i (tTk b T i) (tSt b T i) (tP b T (i + 1)) μ1 := by
      intro i hi
      by_cases e : i = n
      · subst e; exact a2
      · obtain ⟨q1, q2, q3, q4⟩ := hA i (by omega)
        obtain ⟨p1, p2, p3⟩ := a3.2.2.1 i e
        exact ⟨p1.trans q1, p2.trans q2, fun h => by rw [p3]; exact q3 h, fun h => by rw [p3]; exact q4 h⟩
    have hk41 : tTk b T n < 41 := tKd_lt
    have e23 : nI (cK (tTk b T n)) = 23 ↔ tTk b T n = 0 := cK_eq (b := 0) hk41 (by omega)
    have e24 : nI (cK (tTk b T n)) = 24 ↔ tTk b T n = 3 := cK_eq (b := 3) hk41 (by omega)
    have hstop : tTk b T n = 0 ∨ tTk b T n = 3 → TKc (tTk b T) (tTv b T) (tTn b T) (tPl b T) (eT b T) μ1 := by
      intro h i hi
      refine hA1 i ?_
      rcases Nat.lt_or_ge n (eT b T) with hx | hx
      · have := stE_bef (tk := tTk b T) (r := 400) (n := 0) (i := n) (Nat.zero_le _) hx
        rcases h with h | h
        · exact absurd h this.1
        · exact absurd h this.2
      · omega
    have a2' : μ1.1 6 n = nI (cK (tTk b T n)) := a2.1
    rw [ix_nI (by omega) (by omega), gd_true, gd_true, nI_clamp (by omega), a2']
    by_cases h0 : tTk b T n = 0
    · rw [if_pos (e23.mpr h0), Wo_some]
      exact ⟨hstop (Or.inl h0), hF1⟩
    · rw [if_neg (fun hx => h0 (e23.mp hx))]
      by_cases h3 : tTk b T n = 3
      · rw [if_pos (e24.mpr h3), Wo_some]
        exact ⟨hstop (Or.inr h3), hF1⟩
      · rw [if_neg (fun hx => h3 (e24.mp hx)), nI_1]
        exact ih (n := n + 1) (by omega) (by omega) hF1 a1 hA1
theorem split_c {b : Nat → Int32} {T : Nat} {μ : Mem} (hT : T ≤ 2000) (hX : TXc b T μ) (hB : ∀ k, k < T → -128 ≤ b k ∧ b k ≤ 127) (hW : ∀ i, i < 21 → μ.2 5 i = WCL.getD i 0) : Wo (fX8_split 2 (nI T) μ) (fun μ' => TKc (tTk b T) (tTv b T) (tTn b T) (tPl b T) (eT b T) μ' ∧ FSc μ μ') := by
  unfold fX8_split
  rw [bd_eq]
  exact split_l hT hX hB hW (r := 401) (n := 0) (N := FU) (by omega) (by unfold FU; omega) ⟨fun j x _ _ => rd_Ii x, fun k x => rd_Ik x, fun _ _ => rfl⟩ rd_Is (fun i hi => by omega)
