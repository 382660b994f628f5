def F23 (μ μ' : Mem) : Prop := (∀ j, j ≠ 23 → μ'.1 j = μ.1 j) ∧ μ'.2 = μ.2
theorem F23_rfl {μ : Mem} : F23 μ μ := ⟨fun _ _ => rfl, rfl⟩
theorem F23_up {μ μ' : Mem} {k : Nat} {v : Int32} (h : F23 μ μ') : F23 μ (upI μ' 23 k v) := ⟨fun j hj => by rw [rd_Ii hj]; exact h.1 j hj, h.2⟩
theorem nI_m2 (m : Nat) : nI (m + 2) + (-2) = nI m := by
  rw [show m + 2 = m + 1 + 1 by omega, nI_succ, nI_succ]; grind
theorem crun {q2 h sz lo : Nat} {pan R : Rw} {μ0 : Mem} {K : Int32 → Mem → Option (Int32 × Mem)} {Q : Int32 × Mem → Prop} (hq : 24 ≤ q2) (hh : h < 6) (hsz : μ0.1 19 4 = nI sz) (hs4 : sz ≤ 416) (hS : SR μ0 q2 pan R) : ∀ {c : Cd} {i n d' : Nat} {s : List Int32} {μ : Mem}, SegC μ0 19 i c → i + c.length ≤ sz → dpx lo 32 c s.length d' → s.length ≤ 32 → StC μ 23 s → F23 μ0 μ → c.length < n → (rn (HV pan R h) c s = none → ∀ μ', F23 μ0 μ' → Q (0, μ')) → (∀ s', rn (HV pan R h) c s = some s' → s'.length = d' → ∀ μ' n', F23 μ0 μ' → StC μ' 23 s' → n' + c.length = n → Wo (fX1_valueOf_l31 K 19 q2 (nI h) n' (nI s'.length) (nI (i + c.length)) μ') Q) → Wo (fX1_valueOf_l31 K 19 q2 (nI h) n (nI s.length) (nI i) μ) Q := by
  intro c
  induction c with
  | nil =>
    intro i n d' s μ _ _ hd _ hst hf hn _ h2
    have hd' : s.length = d' := hd
    exact h2 s rfl hd' μ n hf hst rfl
  | cons p c ih =>
    intro i n d' s μ hseg hle hd h32 hst hf hn h1 h2
    obtain ⟨k, x⟩ := p
    rw [List.length_cons] at hle hn
    obtain ⟨n, rfl⟩ : ∃ n', n = n' + 1 := ⟨n - 1, by omega⟩
    have hp := hseg 0 (k, x) rfl
    rw [Nat.add_zero] at hp
    have htl := SegC_tl hseg
    have hS1 : SR μ q2 pan R := SR_fr hS (hf.1 _ (by omega)) (hf.1 _ (by omega))
    have hd0 : (if k < 2 then s.length < 32 ∧ (k = 1 → ∃ j, j < 9 ∧ x = nI j) ∧ dpx lo 32 c (s.length + 1) d' else k < 6 ∧ lo + 2 ≤ s.length ∧ dpx lo 32 c (s.length - 1) d') := hd
    have estep : μ.1 20 i = stpC (k, x) := by rw [hf.1 20 (by omega)]; exact hp.1
    show Wo (fX1_valueOf_s31 _ _ _ _ _ _ _ _) _
    unfold fX1_valueOf_s31
    rw [hf.1 19 (by omega), hsz, if_neg (by rw [nI_leI (by omega) (by omega)]; omega), ix_nI (by omega) (by omega), gd_true, nI_clamp (by omega), bd_eq, show 19 + 1 = 20 from rfl, estep]
    by_cases hk : k < 2
    · rw [if_pos hk] at hd0
      obtain ⟨g1, g2, g3⟩ := hd0
      have push : ∀ y, rn (HV pan R h) ((k, x) :: c) s = rn (HV pan R h) c (y :: s) → Wo (gd (ix (nI s.length) 32) (bd (upI μ (19 + 4) (nI s.length).toNatClampNeg y) (fun μ' => fX1_valueOf_l31 K 19 q2 (nI h) n (nI s.length + 1) (nI i + 1) μ'))) Q := by
        intro y ey
        rw [ix_nI g1 (by omega), gd_true, bd_eq, nI_clamp (by omega), nI_1, nI_1]
        rw [ey] at h1 h2
        refine ih (s := y :: s) (μ := upI μ 23 s.length y) htl (by omega) g3 (by rw [List.length_cons]; omega) (StC_push hst) (F23_up hf) (by omega) h1 ?_
        intro s' e' hl μ' n' hf' hs' hn'
        have := h2 s' e' hl μ' n' hf' hs' (by rw [List.length_cons]; omega)
        rw [List.length_cons, show i + (c.length + 1) = i + 1 + c.length by omega] at this
        exact this
      by_cases hk0 : k = 0
      · subst hk0
        have eo : μ.1 21 i = x := by rw [hf.1 21 (by omega)]; exact hp.2 rfl
        rw [show stpC (0, x) = 9 from rfl, if_neg (by decide), if_pos (by simp (disch := omega) only [L_add, L_add2, L_mul, L_mul2, L_sub, nI_add, pk_mul, pk_sub, L_le, L_le2, L_lt, L_lt2, L_eq, L_eq2, nI_leI, nI_ltI, nI_eq, nI_clamp, ix_nI, ix_lit, L_cl]; omega), if_neg (by decide), if_neg (by decide)]
        unfold fX1_valueOf_b97
        rw [if_pos (by decide), show 19 + 2 = 21 from rfl, eo]
        exact push x rfl
      · have hk1 : k = 1 := by omega
        subst hk1
        obtain ⟨j, hj, rfl⟩ := g2 rfl
        have ev : ∀ y, y = HV pan R h j → rn (HV pan R h) ((1, nI j) :: c) s = rn (HV pan R h) c (y :: s) := by
          intro y hy
          show (if (1 : Nat) = 0 then _ else if (1 : Nat) = 1 then rn (HV pan R h) c (HV pan R h (nI j).toNatClampNeg :: s) else _) = _
          rw [if_neg (by decide), if_pos rfl, nI_clamp (by omega), hy]
        have e9 : ¬ 9 < stpC (1, nI j) := by
          match j, hj with
          | 0, _ => decide
          | 1, _ => decide
          | 2, _ => decide
          | 3, _ => decide
          | 4, _ => decide
          | 5, _ => decide
          | 6, _ => decide
          | 7, _ => decide
          | 8, _ => decide
        rw [if_neg e9, if_pos (by simp (disch := omega) only [L_add, L_add2, L_mul, L_mul2, L_sub, nI_add, pk_mul, pk_sub, L_le, L_le2, L_lt, L_lt2, L_eq, L_eq2, nI_leI, nI_ltI, nI_eq, nI_clamp, ix_nI, ix_lit, L_cl]; omega)]
        match j, hj with
        | 0, _ =>
          rw [show stpC (1, nI 0) = 0 from rfl, if_neg (by decide), if_neg (by decide)]
          unfold fX1_valueOf_b97
          rw [if_neg (by decide), get_p hS1 hh, b1_some]
          exact push _ (ev _ rfl)
        | 1, _ =>
          rw [show stpC (1, nI 1) = 1 from rfl, if_neg (by decide), if_neg (by decide)]
          unfold fX1_valueOf_b97
          rw [if_neg (by decide), get_1 hS1 hh, b1_some]
          exact push _ (ev _ (by show _ = R (0 + h); rw [Nat.zero_add]))
        | 2, _ =>
          rw [show stpC (1, nI 2) = 2 from rfl, if_neg (by decide), if_neg (by decide)]
          unfold fX1_valueOf_b97
          rw [if_neg (by decide), get_2 hS1 hh, b1_some]
          exact push _ (ev _ rfl)
        | 3, _ =>
          rw [show stpC (1, nI 3) = 3 from rfl, if_neg (by decide), if_neg (by decide)]
          unfold fX1_valueOf_b97
          rw [if_neg (by decide), get_3 hS1 hh, b1_some]
          exact push _ (ev _ rfl)
        | 4, _ =>
          rw [show stpC (1, nI 4) = 4 from rfl, if_neg (by decide), if_neg (by decide)]
          unfold fX1_valueOf_b97
          rw [if_neg (by decide), get_4 hS1 hh, b1_some]
          exact push _ (ev _ rfl)
        | 5, _ =>
          rw [show stpC (1, nI 5) = 7 from rfl, if_pos rfl]
          unfold fX1_valueOf_b97
          rw [if_pos (by decide)]
          exact push _ (ev _ hS1.2.2)
        | 6, _ =>
          rw [show stpC (1, nI 6) = 8 from rfl, if_neg (by decide), if_pos rfl]
          unfold fX1_valueOf_b97
          rw [if_pos (by decide)]
          exact push _ (ev _ rfl)
        | 7, _ =>
          rw [show stpC (1, nI 7) = 5 from rfl, if_neg (by decide), if_neg (by decide)]
          unfold fX1_valueOf_b97
          rw [if_neg (by decide), get_5 hS1 hh, b1_some]
          exact push _ (ev _ rfl)
        | 8, _ =>
          rw [show stpC (1, nI 8) = 6 from rfl, if_neg (by decide), if_neg (by decide)]
          unfold fX1_valueOf_b97
          rw [if_neg (by decide), get_6 hS1 hh, b1_some]
          exact push _ (ev _ rfl)
    · rw [if_neg hk] at hd0
      obtain ⟨g1, g2, g3⟩ := hd0
      have es : stpC (k, x) = nI (k + 8) := by
        show (if k = 0 then _ else if k = 1 then _ else nI (k + 8)) = _
        rw [if_neg (by omega), if_neg (by omega)]
      match s, g2, g3, hst, h1, h2, h32 with
      | [], g2, _, _, _, _, _ => exfalso; rw [List.length_nil] at g2; omega
      | [b], g2, _, _, _, _, _ => exfalso; rw [List.length_cons, List.length_nil] at g2; omega
      | b :: a :: s, g2, g3, hst, h1, h2, h32 =>
        have e0 : rn (HV pan R h) ((k, x) :: c) (b :: a :: s) = (if k = 5 ∧ b = 0 then none else rn (HV pan R h) c (opV k a b :: s)) := by
          show (if k = 0 then _ else if k = 1 then _ else _) = _
          rw [if_neg (by omega), if_neg (by omega)]
        rw [e0] at h1 h2
        have hl : (b :: a :: s).length = s.length + 2 := by rw [List.length_cons, List.length_cons]
        rw [hl] at g2 g3 h32 ⊢
        have hab := StC_ab hst
        rw [es, if_pos (by simp (disch := omega) only [L_add, L_add2, L_mul, L_mul2, L_sub, nI_add, pk_mul, pk_sub, L_le, L_le2, L_lt, L_lt2, L_eq, L_eq2, nI_leI, nI_ltI, nI_eq, nI_clamp, ix_nI, ix_lit, L_cl]; omega), if_neg (by simp (disch := omega) only [L_add, L_add2, L_mul, L_mul2, L_sub, nI_add, pk_mul, pk_sub, L_le, L_le2, L_lt, L_lt2, L_eq, L_eq2, nI_leI, nI_ltI, nI_eq, nI_clamp, ix_nI, ix_lit, L_cl]; omega), if_pos (by simp (disch := omega) only [L_add, L_add2, L_mul, L_mul2, L_sub, nI_add, pk_mul, pk_sub, L_le, L_le2, L_lt, L_lt2, L_eq, L_eq2, nI_leI, nI_ltI, nI_eq, nI_clamp, ix_nI, ix_lit, L_cl]; omega), nI_m2, ix_nI (by omega) (by omega), gd_true, nI_1, ix_nI (by omega) (by omega), nI_clamp (by omega), nI_clamp (by omega), bd_eq, gd_true, bd_eq, show 19 + 4 = 23 from rfl, hab.1, hab.2, if_neg (by simp (disch := omega) only [L_add, L_add2, L_mul, L_mul2, L_sub, nI_add, pk_mul, pk_sub, L_le, L_le2, L_lt, L_lt2, L_eq, L_eq2, nI_leI, nI_ltI, nI_eq, nI_clamp, ix_nI, ix_lit, L_cl]; omega)]
        have fin : ¬ (k = 5 ∧ b = 0) → Wo (fX1_valueOf_b240 (fX1_valueOf_l31 K 19 q2 (nI h) n) K 19 q2 (nI h) (nI s.length) (nI i) (nI (k + 8)) a b μ) Q := by
          intro hz
          unfold fX1_valueOf_b240
          have ej : fX1_joined (nI (k + 8)) a b = some (opV k a b) := by
            have hk4 : k = 2 ∨ k = 3 ∨ k = 4 ∨ k = 5 := by omega
            unfold fX1_joined
            rcases hk4 with rfl | rfl | rfl | rfl
            · rw [if_pos (show nI (2 + 8) = 10 from rfl)]; rfl
            · rw [if_neg (by decide), if_pos (show nI (3 + 8) = 11 from rfl)]; rfl
            · rw [if_neg (by decide), if_neg (by decide), if_pos (show nI (4 + 8) = 12 from rfl)]; rfl
            · have hb : ¬ b = 0 := fun hx => hz ⟨rfl, hx⟩
              rw [if_neg (by decide), if_neg (by decide), if_neg (by decide), if_neg hb, show dz b = true by unfold dz; simpa using hb]; rfl
          rw [ej, b1_some, ix_nI (by omega) (by omega), gd_true, bd_eq, nI_clamp (by omega), nI_1, nI_1, show 19 + 4 = 23 from rfl]
          rw [if_neg hz] at h1 h2
          refine ih (s := opV k a b :: s) (μ := upI μ 23 s.length (opV k a b)) htl (by omega) (by rw [List.length_cons]; rw [show s.length + 1 = s.length + 2 - 1 by omega]; exact g3) (by rw [List.length_cons]; omega) (StC_op hst) (F23_up hf) (by omega) h1 ?_
          intro s' e' hl μ' n' hf' hs' hn'
          have := h2 s' e' hl μ' n' hf' hs' (by rw [List.length_cons]; omega)
          rw [List.length_cons, show i + (c.length + 1) = i + 1 + c.length by omega] at this
          exact this
        refine Wo_if (fun h13 => ?_) (fun h13 => ?_)
        · refine Wo_if (fun hb0 => ?_) (fun hb0 => ?_)
          · rw [Wo_some]
            have hk5 : k = 5 := by
              rw [show (13 : Int32) = nI 13 from rfl, nI_eq (by omega) (by omega)] at h13; omega
            rw [if_pos ⟨hk5, hb0⟩] at h1
            exact h1 rfl μ hf
          · exact fin (fun hx => hb0 hx.2)
        · refine fin (fun hx => h13 ?_)
          rw [hx.1]; rfl
/-- the model's stack machine -/
def F30 (ν ν' : Mem) : Prop := (∀ j, j ≠ 0 → j ≠ 30 → ν'.1 j = ν.1 j) ∧ (∀ k, k ≠ 46 → ν'.1 0 k = ν.1 0 k) ∧ ν'.2 = ν.2
theorem F30_rfl {ν : Mem} : F30 ν ν := ⟨fun _ _ _ => rfl, fun _ _ => rfl, rfl⟩
theorem F30_tr {a b c : Mem} (h : F30 a b) (h2 : F30 b c) : F30 a c := ⟨fun j x y => (h2.1 j x y).trans (h.1 j x y), fun k x => (h2.2.1 k x).trans (h.2.1 k x), h2.2.2.trans h.2.2⟩
theorem F30_up {ν ν' : Mem} {k : Nat} {v : Int32} (h : F30 ν ν') : F30 ν (upI ν' 30 k v) := ⟨fun j h0 h1 => by rw [rd_Ii h1]; exact h.1 j h0 h1, fun k hk => by rw [rd_Ii (by omega)]; exact h.2.1 k hk, h.2.2⟩
theorem F30_46 {ν ν' : Mem} {v : Int32} (h : F30 ν ν') : F30 ν (upI ν' 0 46 v) := ⟨fun j h0 h1 => by rw [rd_Ii h0]; exact h.1 j h0 h1, fun k hk => by rw [rd_Ik hk]; exact h.2.1 k hk, h.2.2⟩
theorem mrun {ν0 : Mem} {v : Nat → Int32} {lo M e : Nat} {Q : Int32 × Mem → Prop} (hM : M ≤ 400) (hv : ∀ i, i < 9 → ν0.1 29 i = v i) (he : e ≤ 840) : ∀ {c : Cd} {i n d' : Nat} {s : List Int32} {ν : Mem}, SegM ν0 i c → i + c.length = e → dpx lo M c s.length d' → s.length ≤ M → StC ν 30 s → F30 ν0 ν → ν.1 0 46 = ν0.1 0 46 → c.length < n → (rn v c s = none → ∀ ν', F30 ν0 ν' → ν'.1 0 46 = 1 → Q (0, ν')) → (∀ s', rn v c s = some s' → s'.length = d' → ∀ ν', F30 ν0 ν' → StC ν' 30 s' → ν'.1 0 46 = ν0.1 0 46 → Q (ν'.1 30 0, ν')) → Wo (fX12_termOf_l5 (nI e) n (nI s.length) (nI i) ν) Q := by
  intro c
  induction c with
  | nil =>
    intro i n d' s ν _ hie hd _ hst hf h46 hn _ h2
    obtain ⟨n, rfl⟩ : ∃ n', n = n' + 1 := ⟨n - 1, by omega⟩
    rw [List.length_nil] at hie
    show Wo (fX12_termOf_s5 _ _ _ _ _) _
    unfold fX12_termOf_s5
    rw [if_pos (by rw [nI_leI (by omega) (by omega)]; omega), Wo_some]
    exact h2 s rfl hd ν hf hst h46
  | cons p c ih =>
    intro i n d' s ν hseg hie hd h32 hst hf h46 hn h1 h2
    obtain ⟨k, x⟩ := p
    rw [List.length_cons] at hie hn
    obtain ⟨n, rfl⟩ : ∃ n', n = n' + 1 := ⟨n - 1, by omega⟩
    have hp := hseg 0 (k, x) rfl
    rw [Nat.add_zero] at hp
    have htl := SegM_tl hseg
    have hd0 : (if k < 2 then s.length < M ∧ (k = 1 → ∃ j, j < 9 ∧ x = nI j) ∧ dpx lo M c (s.length + 1) d' else k < 6 ∧ lo + 2 ≤ s.length ∧ dpx lo M c (s.length - 1) d') := hd
    have e26 : ν.1 26 i = nI k := by rw [hf.1 26 (by omega) (by omega)]; exact hp.1
    have e27 : ν.1 27 i = x := by rw [hf.1 27 (by omega) (by omega)]; exact hp.2
    show Wo (fX12_termOf_s5 _ _ _ _ _) _
    unfold fX12_termOf_s5
    rw [if_neg (by rw [nI_leI (by omega) (by omega)]; omega), ix_nI (by omega) (by omega), gd_true, nI_clamp (by omega), bd_eq, e26]
    by_cases hk : k < 2
    · rw [if_pos hk] at hd0
      obtain ⟨g1, g2, g3⟩ := hd0
      rw [if_neg (by simp (disch := omega) only [L_add, L_add2, L_mul, L_mul2, L_sub, nI_add, pk_mul, pk_sub, L_le, L_le2, L_lt, L_lt2, L_eq, L_eq2, nI_leI, nI_ltI, nI_eq, nI_clamp, ix_nI, ix_lit, L_cl]; omega)]
      have push : ∀ y, rn v ((k, x) :: c) s = rn v c (y :: s) → Wo (fX12_termOf_l5 (nI e) n (nI (s.length + 1)) (nI (i + 1)) (upI ν 30 s.length y)) Q := by
        intro y ey
        rw [ey] at h1 h2
        exact ih (s := y :: s) htl (by omega) g3 (by rw [List.length_cons]; omega) (StC_push hst) (F30_up hf) (by rw [rd_Ii (by omega)]; exact h46) (by omega) h1 h2
      by_cases hk0 : k = 0
      · subst hk0
        rw [if_pos (show nI 0 = 0 from rfl), gd_true, ix_nI (by omega) (by omega), gd_true, bd_eq, nI_clamp (by omega), e27, nI_1, nI_1]
        exact push x rfl
      · have hk1 : k = 1 := by omega
        subst hk1
        obtain ⟨j, hj, rfl⟩ := g2 rfl
        rw [if_neg (by decide), gd_true, e27, ix_nI (by omega) (by omega), gd_true, ix_nI (by omega) (by omega), gd_true, bd_eq, nI_clamp (by omega), nI_clamp (by omega), hf.1 29 (by omega) (by omega), hv j hj, nI_1, nI_1]
        refine push (v j) ?_
        show (if (1 : Nat) = 0 then _ else if (1 : Nat) = 1 then rn v c (v (nI j).toNatClampNeg :: s) else _) = _
        rw [if_neg (by decide), if_pos rfl, nI_clamp (by omega)]
    · rw [if_neg hk] at hd0
      obtain ⟨g1, g2, g3⟩ := hd0
      rw [if_pos (by simp (disch := omega) only [L_add, L_add2, L_mul, L_mul2, L_sub, nI_add, pk_mul, pk_sub, L_le, L_le2, L_lt, L_lt2, L_eq, L_eq2, nI_leI, nI_ltI, nI_eq, nI_clamp, ix_nI, ix_lit, L_cl]; omega)]
      match s, g2, g3, hst, h1, h2, h32 with
      | [], g2, _, _, _, _, _ => exfalso; rw [List.length_nil] at g2; omega
      | [b], g2, _, _, _, _, _ => exfalso; rw [List.length_cons, List.length_nil] at g2; omega
      | b :: a :: s, g2, g3, hst, h1, h2, h32 =>
        have e0 : rn v ((k, x) :: c) (b :: a :: s) = (if k = 5 ∧ b = 0 then none else rn v c (opV k a b :: s)) := by
          show (if k = 0 then _ else if k = 1 then _ else _) = _
          rw [if_neg (by omega), if_neg (by omega)]
        rw [e0] at h1 h2
        have hl : (b :: a :: s).length = s.length + 2 := by rw [List.length_cons, List.length_cons]
        rw [hl] at g2 g3 h32 ⊢
        have hab := StC_ab hst
        rw [show s.length + 2 = s.length + 1 + 1 by omega, pk_m1, L_sub (by omega), show s.length + 1 - 1 = s.length by omega, ix_nI (by omega) (by omega), gd_true, ix_nI (by omega) (by omega), nI_clamp (by omega), nI_clamp (by omega), bd_eq, gd_true, bd_eq, hab.1, hab.2]
        have fin : ¬ (k = 5 ∧ b = 0) → Wo (fX12_termOf_b104 (fX12_termOf_l5 (nI e) n) (nI e) (nI (s.length + 1)) (nI i) (nI k) a b ν) Q := by
          intro hz
          rw [if_neg hz] at h1 h2
          have go : Wo (fX12_termOf_l5 (nI e) n (nI (s.length + 1)) (nI (i + 1)) (upI ν 30 s.length (opV k a b))) Q :=
            ih (s := opV k a b :: s) htl (by omega) (by rw [List.length_cons]; rw [show s.length + 1 = s.length + 2 - 1 by omega]; exact g3) (by rw [List.length_cons]; omega) (StC_op hst) (F30_up hf) (by rw [rd_Ii (by omega)]; exact h46) (by omega) h1 h2
          unfold fX12_termOf_b104
          rw [L_sub (by omega), show s.length + 1 - 1 = s.length by omega, ix_nI (by omega) (by omega), gd_true, gd_true, gd_true, gd_true, nI_clamp (by omega), bd_eq, bd_eq, bd_eq, bd_eq, nI_1 i]
          have hk4 : k = 2 ∨ k = 3 ∨ k = 4 ∨ k = 5 := by omega
          rcases hk4 with rfl | rfl | rfl | rfl
          · rw [if_pos (show nI 2 = 2 from rfl)]; exact go
          · rw [if_neg (by decide), if_pos (show nI 3 = 3 from rfl)]; exact go
          · rw [if_neg (by decide), if_neg (by decide), if_pos (show nI 4 = 4 from rfl)]; exact go
          · have hb : ¬ b = 0 := fun hx => hz ⟨rfl, hx⟩
            rw [if_neg (by decide), if_neg (by decide), if_neg (by decide), show dz b = true by unfold dz; simpa using hb, gd_true]; exact go
        refine Wo_if (fun h5 => ?_) (fun h5 => ?_)
        · refine Wo_if (fun hb0 => ?_) (fun hb0 => ?_)
          · rw [bd_eq, Wo_some]
            have hk5 : k = 5 := by
              rw [show (5 : Int32) = nI 5 from rfl, nI_eq (by omega) (by omega)] at h5; omega
            rw [if_pos ⟨hk5, hb0⟩] at h1
            exact h1 rfl _ (F30_46 hf) rd_Is
          · exact fin (fun hx => hb0 hx.2)
        · refine fin (fun hx => h5 ?_)
          rw [hx.1]; rfl
