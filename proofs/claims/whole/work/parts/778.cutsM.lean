def AsM (b : Nat → Int32) (T : Nat) (ν : Mem) (i : Nat) : Prop := ν.1 3 i = nI (tTk b T i) ∧ ν.1 4 i = tPl b T i ∧ (tTk b T i = 2 → ν.1 5 i = tTv b T i) ∧ (tTk b T i = 1 → ν.2 6 i = tTn b T i)
def FCm (ν ν' : Mem) : Prop := (∀ j, j ≠ 0 → j ≠ 3 → j ≠ 4 → j ≠ 5 → ν'.1 j = ν.1 j) ∧ (∀ k, k ≠ 10 → ν'.1 0 k = ν.1 0 k) ∧ ∀ j, j ≠ 6 → ν'.2 j = ν.2 j
theorem FCm_FT {n : Nat} {a b c : Mem} (h : FCm a b) (h2 : FTm n b c) : FCm a c := ⟨fun j x y z u => (h2.1 j x y z u).trans (h.1 j x y z u), fun k x => (h2.2.1 k x).trans (h.2.1 k x), fun j x => (h2.2.2.2 j x).trans (h.2.2 j x)⟩
theorem AsM_FT {b : Nat → Int32} {T n : Nat} {ν ν' : Mem} (hA : ∀ i, i < n → AsM b T ν i) (hf : FTm n ν ν') (hn : AsM b T ν' n) : ∀ i, i < n + 1 → AsM b T ν' i := by
  intro i hi
  by_cases e : i = n
  · rw [e]; exact hn
  · obtain ⟨a1, a2, a3, a4⟩ := hA i (by omega)
    obtain ⟨p1, p2, p3, p4⟩ := hf.2.2.1 i e
    exact ⟨p1.trans a1, p2.trans a2, fun h => p3.trans (a3 h), fun h => p4.trans (a4 h)⟩
theorem bl_if {α : Type} {c : Int32} {A B : α} : (if c = 9 then A else if c = 10 then A else if c = 13 then A else if c = 32 then A else B) = if blB c = true then A else B := by
  unfold blB
  by_cases h1 : c = 9
  · rw [if_pos h1, decide_eq_true h1]; rfl
  · rw [if_neg h1, decide_eq_false h1]
    by_cases h2 : c = 10
    · rw [if_pos h2, decide_eq_true h2]; rfl
    · rw [if_neg h2, decide_eq_false h2]
      by_cases h3 : c = 13
      · rw [if_pos h3, decide_eq_true h3]; rfl
      · rw [if_neg h3, decide_eq_false h3]
        by_cases h4 : c = 32
        · rw [if_pos h4, decide_eq_true h4]; rfl
        · rw [if_neg h4, decide_eq_false h4]; rfl
theorem cu_s (n : Nat) (x : Int32) (ν : Mem) : fX12_cutsUp_l7 (n + 1) x ν = fX12_cutsUp_s7 (fX12_cutsUp_l7 n) x ν := rfl
theorem run_ok {p : Int32 → Bool} {b : Nat → Int32} {T i n : Nat} (hi : i < T) (h : p (b i) = true) (hn : i + n = eW p b (T - (i + 1)) (i + 1)) : (i + n ≤ T ∧ 0 < n) ∧ (∀ k, k < n → p (b (i + k)) = true) ∧ (i + n < T → p (b (i + n)) = false) := by
  have hl := eW_le (p := p) (b := b) (r := T - (i + 1)) (i := i + 1)
  refine ⟨by omega, fun k hk => ?_, fun hx => ?_⟩
  · by_cases e : k = 0
    · rw [e]; exact h
    · exact eW_in (i := i + 1) (r := T - (i + 1)) (by omega) (by omega)
  · rw [hn]
    exact eW_out (by omega)
theorem cu_m {b : Nat → Int32} {T : Nat} {ν0 : Mem} (hT : T ≤ 2000) (hB : BYb b T) (hX : TXm b T ν0) (hW : ∀ i, i < 21 → ν0.2 7 i = WKL.getD i 0) {m : Nat} : ∀ {n p N : Nat} {ν : Mem}, T < p + m → m < N → tP b T n ≤ p → p ≤ tSt b T n → n ≤ 401 → FCm ν0 ν → ν.1 0 10 = nI n → (∀ i, i < n → AsM b T ν i) → Wo (fX12_cutsUp_l7 N (nI p) ν) (fun ν' => TKm (tTk b T) (tTv b T) (tTn b T) (tPl b T) (eT b T) ν' ∧ FCm ν0 ν') := by
  have he : eT b T ≤ 400 := (TE_t (b := b) (T := T)).1
  induction m with
  | zero =>
    intro n p N ν h1 h2 h3 h4
    have := tP_le (b := b) (T := T) (n := n)
    omega
  | succ m ih =>
    intro n p N ν h1 h2 h3 h4 h5 hF h10 hA
    obtain ⟨N, rfl⟩ : ∃ n', N = n' + 1 := ⟨N - 1, by omega⟩
    have hle := tP_le (b := b) (T := T) (n := n)
    have hle1 := tP_le (b := b) (T := T) (n := n + 1)
    have gX : TXm b T ν := ⟨by rw [hF.2.1 4 (by omega)]; exact hX.1, fun k hk => by rw [hF.1 2 (by omega) (by omega) (by omega) (by omega)]; exact hX.2 k hk⟩
    have gW : ∀ i, i < 21 → ν.2 7 i = WKL.getD i 0 := fun k hk => by rw [hF.2.2 7 (by omega)]; exact hW k hk
    rw [cu_s]
    unfold fX12_cutsUp_s7
    rw [h10]
    by_cases h401 : n = 401
    · rw [if_pos (by rw [h401]; decide), Wo_some]
      exact ⟨fun i hi => hA i (by omega), hF⟩
    · rw [if_neg (by simp (disch := omega) only [L_add, L_add2, L_mul, L_mul2, L_sub, nI_add, pk_mul, pk_sub, L_le, L_le2, L_lt, L_lt2, L_eq, L_eq2, nI_leI, nI_ltI, nI_eq, nI_clamp, ix_nI, ix_lit, L_cl]; omega), byteAt_m hT gX (by omega), b1_some, gX.1]
      have next : ∀ {ν' : Mem}, p = tSt b T n → p < T → ν'.1 0 10 = nI (n + 1) → FTm n ν ν' → AsM b T ν' n → Wo (fX12_cutsUp_l7 N (nI (tP b T (n + 1))) ν') (fun ν' => TKm (tTk b T) (tTv b T) (tTn b T) (tPl b T) (eT b T) ν' ∧ FCm ν0 ν') := by
        intro ν' e1 e2 a1 a2 a3
        have h6 := (tEn_gt (b := b) e2).1
        have h7 : tP b T (n + 1) = tEn b T (tSt b T n) := rfl
        rw [← e1] at h7
        exact ih (n := n + 1) (by omega) (by omega) (Nat.le_refl _) hle1.1 (by omega) (FCm_FT hF a2) a1 (AsM_FT hA a2 a3)
      by_cases hpT : p < T
      · rw [if_pos hpT, if_pos (by simp (disch := omega) only [L_add, L_add2, L_mul, L_mul2, L_sub, nI_add, pk_mul, pk_sub, L_le, L_le2, L_lt, L_lt2, L_eq, L_eq2, nI_leI, nI_ltI, nI_eq, nI_clamp, ix_nI, ix_lit, L_cl]; omega), bl_if]
        obtain ⟨y1, y2, y3, y4, y5, y6, y7⟩ := by_m (hB _ hpT).1 (hB _ hpT).2
        rw [y1]
        by_cases hps : p < tSt b T n
        · have hbl : blB (b p) = true := eW_in (i := tP b T n) (r := T - tP b T n) h3 hps
          rw [if_pos hbl, nI_1]
          exact ih (by omega) (by omega) (by omega) (by omega) h5 hF h10 hA
        · have hp : p = tSt b T n := by omega
          have hbl : blB (b p) = false := by
            rw [hp]
            exact eW_out (by show tSt b T n < _; omega)
          have hen : tP b T (n + 1) = tEn b T p := by rw [hp]; rfl
          have hkd : tTk b T n = tKd b T p (tP b T (n + 1)) := by rw [hp]; rfl
          have hpl : tPl b T n = nI p := by rw [hp]; rfl
          have htv : tTv b T n = (nuF b (tP b T (n + 1) - p) p 0).toInt32 := by rw [hp]; rfl
          have htn : tTn b T n = nmF b (tP b T (n + 1) - p) p 0 := by rw [hp]; rfl
          unfold tKd at hkd
          unfold tEn at hen
          rw [if_neg (by omega)] at hkd hen
          rw [hbl, if_neg (by decide), isLetter_m, y2, b1_some]
          by_cases hl : leB (b p) = true
          · rw [if_pos hl] at hkd hen
            obtain ⟨len, hlen⟩ : ∃ len, tP b T (n + 1) = p + len := ⟨tP b T (n + 1) - p, by omega⟩
            obtain ⟨⟨r1, r2⟩, r3, r4⟩ := run_ok (n := len) hpT hl (by rw [← hlen]; exact hen)
            have hsub : tP b T (n + 1) - p = len := by omega
            rw [hsub] at hkd htv htn
            rw [if_pos hl, if_neg n10]
            show Wo (fX12_cutsUp_l85 _ (nI p) ν FU (nI 0) 0) _
            refine c85_m (i := p) (n := len) (r := len) (c := 0) hT hB gX r1 r3 r4 (by omega) (by unfold FU; omega) (fun z hz => ?_)
            have e179 : ∀ k, k = tTk b T n → Wo (fX12_cutsUp_b179 (fX12_cutsUp_l7 N) (nI p) (nI len) z (nI k) ν) (fun ν' => TKm (tTk b T) (tTv b T) (tTn b T) (tPl b T) (eT b T) ν' ∧ FCm ν0 ν') := by
              intro k hk
              subst hk
              unfold fX12_cutsUp_b179
              refine token_m h10 h5 (fun ν' a1 a2 a3 => ?_)
              rw [show nI p + nI len = nI (p + len) by simp (disch := omega) only [L_add, L_add2, L_mul, L_mul2, L_sub, nI_add, pk_mul, pk_sub, L_le, L_le2, L_lt, L_lt2, L_eq, L_eq2, nI_leI, nI_ltI, nI_eq, nI_clamp, ix_nI, ix_lit, L_cl], bd_eq, ← hlen]
              refine next hp hpT a1 a3 ⟨a2.1, by rw [hpl]; exact a2.2.1, fun h2 => ?_, fun h1' => ?_⟩
              · exfalso
                have hk2 := kdM_lt (x := nmF b len p 0) (r := 21) (i := 0) (a := 1) rfl (by omega) (by omega) (by omega)
                rw [hkd] at h2
                split at h2 <;> omega
              · rw [htn, a2.2.2.2]
                refine hz ?_
                rw [hkd] at h1'
                rcases Nat.lt_or_ge 8 len with hx | hx
                · rw [if_neg (by omega)] at h1'; omega
                · exact hx
            unfold fX12_cutsUp_b135
            by_cases h8 : len ≤ 8
            · rw [if_pos (by simp (disch := omega) only [L_add, L_add2, L_mul, L_mul2, L_sub, nI_add, pk_mul, pk_sub, L_le, L_le2, L_lt, L_lt2, L_eq, L_eq2, nI_leI, nI_ltI, nI_eq, nI_clamp, ix_nI, ix_lit, L_cl]; omega), if_neg (by simp (disch := omega) only [L_add, L_add2, L_mul, L_mul2, L_sub, nI_add, pk_mul, pk_sub, L_le, L_le2, L_lt, L_lt2, L_eq, L_eq2, nI_leI, nI_ltI, nI_eq, nI_clamp, ix_nI, ix_lit, L_cl]; omega)]
              show Wo (fX12_cutsUp_l146 _ z ν FU (nI 1) (nI 0)) _
              rw [c146_m gW (r := 21) (i := 0) (by omega) (by unfold FU; omega)]
              refine e179 _ ?_
              rw [hkd, if_pos h8, hz h8, Nat.add_zero]
            · rw [if_neg (by simp (disch := omega) only [L_add, L_add2, L_mul, L_mul2, L_sub, nI_add, pk_mul, pk_sub, L_le, L_le2, L_lt, L_lt2, L_eq, L_eq2, nI_leI, nI_ltI, nI_eq, nI_clamp, ix_nI, ix_lit, L_cl]; omega), if_pos (by simp (disch := omega) only [L_add, L_add2, L_mul, L_mul2, L_sub, nI_add, pk_mul, pk_sub, L_le, L_le2, L_lt, L_lt2, L_eq, L_eq2, nI_leI, nI_ltI, nI_eq, nI_clamp, ix_nI, ix_lit, L_cl]; omega)]
              refine e179 3 ?_
              rw [hkd, if_neg h8]
          · rw [if_neg hl] at hkd hen
            rw [if_neg hl, if_pos rfl, isDigit_m, y3, b1_some]
            by_cases hd : diB (b p) = true
            · rw [if_pos hd] at hkd hen
              obtain ⟨len, hlen⟩ : ∃ len, tP b T (n + 1) = p + len := ⟨tP b T (n + 1) - p, by omega⟩
              obtain ⟨⟨r1, r2⟩, r3, r4⟩ := run_ok (n := len) hpT hd (by rw [← hlen]; exact hen)
              have hsub : tP b T (n + 1) - p = len := by omega
              rw [hsub] at hkd htv htn
              rw [if_pos hd, if_neg n10]
              show Wo (fX12_cutsUp_l208 _ (nI p) ν FU (nI 0) (0 : Int64).toInt32) _
              refine c208_m (i := p) (n := len) (r := len) (c := 0) hT hB gX r1 r3 r4 (by omega) (by unfold FU; omega) (fun z hz => ?_)
              have e261 : ∀ k, k = tTk b T n → Wo (fX12_cutsUp_b261 (fX12_cutsUp_l7 N) (nI p) (nI len) z (nI k) ν) (fun ν' => TKm (tTk b T) (tTv b T) (tTn b T) (tPl b T) (eT b T) ν' ∧ FCm ν0 ν') := by
                intro k hk
                subst hk
                unfold fX12_cutsUp_b261
                refine token_m h10 h5 (fun ν' a1 a2 a3 => ?_)
                rw [show nI p + nI len = nI (p + len) by simp (disch := omega) only [L_add, L_add2, L_mul, L_mul2, L_sub, nI_add, pk_mul, pk_sub, L_le, L_le2, L_lt, L_lt2, L_eq, L_eq2, nI_leI, nI_ltI, nI_eq, nI_clamp, ix_nI, ix_lit, L_cl], bd_eq, ← hlen]
                refine next hp hpT a1 a3 ⟨a2.1, by rw [hpl]; exact a2.2.1, fun h2 => ?_, fun h1' => ?_⟩
                · rw [htv, a2.2.2.1]
                  refine hz ?_
                  rw [hkd] at h2
                  rcases Nat.lt_or_ge 4 len with hx | hx
                  · rw [if_neg (by omega)] at h2; omega
                  · exact hx
                · exfalso
                  rw [hkd] at h1'
                  split at h1' <;> omega
              by_cases h4' : len ≤ 4
              · rw [if_pos (by simp (disch := omega) only [L_add, L_add2, L_mul, L_mul2, L_sub, nI_add, pk_mul, pk_sub, L_le, L_le2, L_lt, L_lt2, L_eq, L_eq2, nI_leI, nI_ltI, nI_eq, nI_clamp, ix_nI, ix_lit, L_cl]; omega)]
                refine e261 2 ?_
                rw [hkd, if_pos h4']
              · rw [if_neg (by simp (disch := omega) only [L_add, L_add2, L_mul, L_mul2, L_sub, nI_add, pk_mul, pk_sub, L_le, L_le2, L_lt, L_lt2, L_eq, L_eq2, nI_leI, nI_ltI, nI_eq, nI_clamp, ix_nI, ix_lit, L_cl]; omega)]
                refine e261 3 ?_
                rw [hkd, if_neg h4']
            · rw [if_neg hd] at hkd hen
              rw [if_neg hd, if_pos rfl, nI_1 p, byteAt_m hT gX (by omega), b1_some]
              refine sign_m h10 h5 (fun ν' a1 a2 a3 => ?_)
              rw [y4] at a2
              have hs := sgB_lt (b p)
              rw [nI_1 p, bd_eq, ← hen]
              refine next hp hpT a1 a3 ⟨by rw [hkd]; exact a2.1, by rw [hpl]; exact a2.2.1, fun h2 => ?_, fun h1' => ?_⟩
              · rw [hkd] at h2; exact absurd h2 hs.2.2.1
              · rw [hkd] at h1'; exact absurd h1' hs.2.2.2
      · have hpT' : p = T := by omega
        have hst : tSt b T n = T := by omega
        have hk0 : tTk b T n = 0 := by unfold tTk tKd; rw [if_pos (by omega)]
        rw [if_neg (by simp (disch := omega) only [L_add, L_add2, L_mul, L_mul2, L_sub, nI_add, pk_mul, pk_sub, L_le, L_le2, L_lt, L_lt2, L_eq, L_eq2, nI_leI, nI_ltI, nI_eq, nI_clamp, ix_nI, ix_lit, L_cl]; omega)]
        show Wo (b1 (fX12_token (nI 0) (nI T) 0 0 ν) _) _
        refine token_m h10 h5 (fun ν' a1 a2 a3 => ?_)
        rw [Wo_some]
        have hA1 := AsM_FT hA a3 ⟨by rw [hk0]; exact a2.1, by unfold tPl; rw [hst]; exact a2.2.1, fun h => by omega, fun h => by omega⟩
        refine ⟨fun i hi => hA1 i ?_, FCm_FT hF a3⟩
        rcases Nat.lt_or_ge n (eT b T) with hx | hx
        · have := stE_bef (tk := tTk b T) (r := 400) (n := 0) (i := n) (Nat.zero_le _) hx
          exact absurd hk0 this.1
        · omega
theorem cuts_m {b : Nat → Int32} {T : Nat} {ν : Mem} (hT : T ≤ 2000) (hB : BYb b T) (hX : TXm b T ν) (hW : ∀ i, i < 21 → ν.2 7 i = WKL.getD i 0) : Wo (fX12_cutsUp ν) (fun ν' => TKm (tTk b T) (tTv b T) (tTn b T) (tPl b T) (eT b T) ν' ∧ FCm ν ν') := by
  unfold fX12_cutsUp
  rw [bd_eq]
  exact cu_m hT hB hX hW (m := T + 1) (n := 0) (p := 0) (N := FU) (by omega) (by unfold FU; omega) (Nat.le_refl _) (Nat.zero_le _) (by omega) ⟨fun j x _ _ _ => rd_Ii x, fun k x => rd_Ik x, fun _ _ => rfl⟩ rd_Is (fun i hi => by omega)
