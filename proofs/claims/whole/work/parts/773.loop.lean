theorem l36_s (q1 n : Nat) (x y : Int32) (μ : Mem) : fX4_readText_l36 q1 (n + 1) x y μ = fX4_readText_s36 (fX4_readText_l36 q1 n) q1 x y μ := rfl
theorem l107_s (K : Mem → Option (Int32 × Mem)) (n : Nat) (ν : Mem) : fX12_read_l107 K (n + 1) ν = fX12_read_s107 (fX12_read_l107 K n) K ν := rfl
theorem l36_0 {q1 n : Nat} {y : Int32} {μ : Mem} : fX4_readText_l36 q1 (n + 1) 0 y μ = some (μ.1 3 3, μ) := by
  rw [l36_s]
  unfold fX4_readText_s36
  rw [if_pos (show (0 : Int32) = 0 from rfl)]
  split <;> rfl
theorem loop_j {tk : Nat → Nat} {tv : Nat → Int32} {tn : Nat → Int64} {pl : Nat → Int32} {e sd q1 : Nat} {μ0 ν0 : Mem} {K : Mem → Option (Int32 × Mem)} {Q : Int32 × Mem → Int32 × Mem → Prop} (hT : TE tk e) (hPl : PLm pl e) (hsd : sd < 2)
    (hend : ∀ t h w nm vs nb D μ' ν', PuD e t h w vs nb → DrC tk tv tn pl e t h w nm vs nb D μ' → DrM tk tv tn pl e sd t h w nm vs nb D ν' → FRc μ0 μ' → FRm sd ν0 ν' → Wo (K ν') (Q (μ'.1 3 3, μ')))
    (herr : ∀ x t' μ' ν', (x = 1 ∨ x = 2) → μ'.1 3 3 = nI x → μ'.1 3 4 = pl t' → FRc μ0 μ' → ν'.1 0 13 = nI x → ν'.1 0 14 = pl t' → FRm sd ν0 ν' → Wo (K ν') (Q (μ'.1 3 3, μ'))) {m : Nat} : ∀ {t h i N1 N2 : Nat} {w : Option (Nat × Nat)} {nm : Nat → Int64} {vs : Nat → Nat → Int32} {nb : Nat → Int32} {D : Nat → Bs × Cd} {μ ν : Mem}, e < t + m → i ≤ t → m < N1 → m < N2 → PuD e t h w vs nb → DrC tk tv tn pl e t h w nm vs nb D μ → DrM tk tv tn pl e sd t h w nm vs nb D ν → FRc μ0 μ → FRm sd ν0 ν → Wo (fX4_readText_l36 q1 N1 1 (nI i) μ) (fun p => Wo (fX12_read_l107 K N2 ν) (Q p)) := by
  have h400 := hT.1
  induction m with
  | zero =>
    intro t h i N1 N2 w nm vs nb D μ ν h1 _ _ _ hP
    have := hP.1
    omega
  | succ m ih =>
    intro t h i N1 N2 w nm vs nb D μ ν h1 h2 h3 h4 hP hC hM fc fm
    obtain ⟨N1, rfl⟩ : ∃ n', N1 = n' + 1 + 1 := ⟨N1 - 2, by omega⟩
    obtain ⟨N2, rfl⟩ : ∃ n', N2 = n' + 1 + 1 := ⟨N2 - 2, by omega⟩
    have ht := hP.1
    have c1 := hC.1
    have c2 := hC.2.1
    have m1 := hM.1
    obtain ⟨m13, m11, m12, m19⟩ := hM.2.1
    have e23 : nI (cK (tk t)) = 23 ↔ tk t = 0 := cK_eq (b := 0) (hT.2.2 t ht) (by omega)
    rw [l36_s]
    unfold fX4_readText_s36
    rw [if_neg (by simp (disch := omega) only [L_add, L_add2, L_mul, L_mul2, L_sub, nI_add, pk_mul, pk_sub, L_le, L_le2, L_lt, L_lt2, L_eq, L_eq2, nI_leI, nI_ltI, nI_eq, nI_clamp, ix_nI, ix_lit, L_cl]; omega), if_neg n10, c2, ix_nI (by omega) (by omega), gd_true, nI_clamp (by omega), (c1 t ht).1]
    have hl : fX12_read_l107 K (N2 + 1 + 1) ν = if tk t = 0 then K ν else b1 (fX12_tellOne ν) (fun μ31 => fX12_read_l107 K (N2 + 1) μ31) := by
      rw [l107_s]
      unfold fX12_read_s107
      rw [m13, if_pos rfl, show fX12_is 0 ν = fX12_is (nI 0) ν from rfl, is_m hT m1 m13 m11 ht (by omega), b1_some]
      by_cases hk : tk t = 0
      · rw [if_pos hk, if_neg n10, if_pos hk]
      · rw [if_neg hk, if_pos rfl, if_neg hk]
    rw [hl]
    by_cases hk : tk t = 0
    · rw [if_pos (e23.mpr hk), if_pos hk, l36_0, Wo_some]
      exact hend t h w nm vs nb D μ ν hP hC hM fc fm
    · rw [if_neg (fun hx => hk (e23.mp hx)), if_neg hk, Wo_b2]
      refine Wo_mono (one_j hT hPl hsd hP hC hM) ?_
      rintro ⟨r, μ'⟩ hp
      obtain ⟨ν', e1, hJ⟩ := hp
      rw [e1, b1_some]
      rcases hJ with ⟨x, t', j1, j2, j3, j4, j5, j6, j7, j8⟩ | ⟨j1, t', h', w', nm', vs', nb', D', j2, j3, j4, j5, j6, j7⟩
      · have j2' : r = 0 := j2
        rw [j2', if_pos rfl, l36_0, Wo_some, l107_s]
        unfold fX12_read_s107
        rw [j6, if_neg (nI_ne0 (by omega) (by omega))]
        exact herr x t' μ' ν' j1 j3 j4 (FRc_tr fc j5) j6 j7 (FRm_tr fm j8)
      · have j1' : r = 1 := j1
        rw [j1', if_neg n10, nI_1]
        exact ih (by omega) (by omega) (by omega) (by omega) j3 j4 j5 (FRc_tr fc j6) (FRm_tr fm j7)
