/-- the first place at which it is 0 -/
def fz (g : Nat → Int32) : Nat → Nat → Option Nat
  | 0, _ => none
  | m + 1, d => if g d = 0 then some d else fz g m (d + 1)
theorem fz_z {g : Nat → Int32} {e i : Nat} (hi : i < e) (h : g i = 0) : fz g (e - i) i = some i := by
  rw [show e - i = (e - i - 1) + 1 by omega]; unfold fz; rw [if_pos h]
theorem fz_n {g : Nat → Int32} {e i : Nat} (hi : i < e) (h : ¬ g i = 0) : fz g (e - i) i = fz g (e - (i + 1)) (i + 1) := by
  rw [show e - i = (e - (i + 1)) + 1 by omega]
  show (if g i = 0 then some i else fz g (e - (i + 1)) (i + 1)) = _
  rw [if_neg h]
theorem fz_lt {g : Nat → Int32} {m d n : Nat} (h : fz g m d = some n) : n < d + m := by
  induction m generalizing d with
  | zero => cases h
  | succ m ih =>
    unfold fz at h
    split at h
    · cases h; omega
    · have := ih h; omega
/-- the fewest coals by which a house has no loss -/
def nd (w : Kw) (R : Rw) (h : Nat) : Option Nat := fz (fun n => sF w (sB w h n R) h) 31 0
theorem nd_lt {w : Kw} {R : Rw} {h n : Nat} (e : nd w R h = some n) : n ≤ 30 := by
  have := fz_lt e; omega
def ndC (o : Option Nat) : Int32 := match o with
  | none => -1
  | some n => nI n
def ndM (o : Option Nat) : Int32 := match o with
  | none => 31
  | some n => nI n
def Fn (μ μ' : Mem) : Prop := (∀ j, j ≠ 23 → j ≠ 28 → j ≠ 29 → μ'.1 j = μ.1 j) ∧ μ'.2 = μ.2
theorem Fn_KC {μ μ' : Mem} (h : Fn μ μ') : KC μ μ' := ⟨fun j a b c d => h.1 j a (by omega) (by omega), h.2, MqE_of (fun j hj => h.1 j (by omega) (by omega) (by omega))⟩
theorem Fn_tr {a b c : Mem} (h : Fn a b) (h2 : Fn b c) : Fn a c := ⟨fun j x y z => (h2.1 j x y z).trans (h.1 j x y z), h2.2.trans h.2⟩
theorem need_c {w : Kw} {μ : Mem} {R : Rw} {h q : Nat} (hQ : QC w μ) (hq : q = 24 ∨ q = 26) (hS : SR μ q (kp w) R) (hR : RG w R) (hh : h < 6) : Wo (fX11_coalsNeeded q (nI h) μ) (fun p => p.1 = ndC (nd w R h) ∧ Fn μ p.2) := by
  generalize hv : nd w R h = V
  unfold fX11_coalsNeeded
  rw [Wo_b1]
  refine Wo_mono (copy_c (q := 28) (q1 := q) (by omega) (by omega) (by omega)) ?_
  rintro μ1 ⟨k1, k2, k3, k4, _⟩
  have f1 : Fn μ μ1 := ⟨fun j a b c => k1 j b c, k2⟩
  refine lp0 (fun n' x s => fX11_coalsNeeded_l10 q (nI h) n' x s) 31 (by omega) (fun i s => SR s 28 (kp w) (sB w h i R) ∧ Fn μ s ∧ fz (fun n => sF w (sB w h n R) h) (31 - i) i = V) _ μ1 ⟨SR_copy hS k3 k4, f1, hv⟩ ?_ ?_
  · rintro n' i s hi ⟨i1, i2, i3⟩ hrec
    show Wo (fX11_coalsNeeded_s10 _ _ _ _ _) _
    unfold fX11_coalsNeeded_s10
    have hQ' := QC_KC hQ (Fn_KC i2)
    rw [if_neg (by simp (disch := omega) only [L_add, L_add2, L_mul, L_mul2, L_sub, nI_add, pk_mul, pk_sub, L_le, L_le2, L_lt, L_lt2, L_eq, L_eq2, nI_leI, nI_ltI, nI_eq, nI_clamp, ix_nI, ix_lit, L_cl]; omega), Wo_b2]
    refine Wo_mono (fades_c hQ' (by omega) i1 (RG_B hR hh i) hh) ?_
    rintro ⟨r, μ2⟩ ⟨h1, h2, h3⟩
    dsimp only at h1 h2 h3 ⊢
    have f2 : Fn s μ2 := ⟨fun j a _ _ => h2 j a, h3⟩
    rw [h1]
    refine Wo_if (fun hz => ?_) (fun hz => ?_)
    · rw [Wo_some]
      refine ⟨?_, Fn_tr i2 f2⟩
      rw [← i3, fz_z hi hz]; rfl
    · rw [Wo_b1]
      refine Wo_mono (burnIn_c (n := 1) (QC_KC hQ' (Fn_KC f2)) (by omega) (SR_fr i1 (h2 28 (by omega)) (h2 29 (by omega))) (RG_B hR hh i) hh (by omega)) ?_
      rintro μ3 ⟨j1, j2, _⟩
      rw [nI_1]
      exact hrec μ3 ⟨j1, Fn_tr i2 (Fn_tr f2 ⟨fun j a b c => j2.1 j b c a, j2.2⟩), by rw [← i3]; exact (fz_n hi hz).symm⟩
  · rintro n' s ⟨i1, i2, i3⟩
    show Wo (fX11_coalsNeeded_s10 _ _ _ _ _) _
    unfold fX11_coalsNeeded_s10
    rw [if_pos (by decide), Wo_some]
    exact ⟨by rw [← i3]; rfl, i2⟩
theorem MR_back {w : Kw} {ν : Mem} {R : Rw} {h n : Nat} (hh : h < 6) (hM : MR ν (sB w h n R)) : MR (upI (upI ν 32 (6 + h) (R (6 + h))) 32 (30 + h) (R (30 + h))) R := by
  refine MR_ext (MR_up (MR_up hM _ _) _ _) (fun k hk => ?_)
  simp only [upd_ap]
  by_cases h1 : k = 30 + h
  · rw [if_pos h1, h1]
  · rw [if_neg h1]
    by_cases h2 : k = 6 + h
    · rw [if_pos h2, h2]
    · rw [if_neg h2, sB_ne h2 h1]
theorem needNow_m {w : Kw} {L : Nat} {ν : Mem} {R : Rw} {h : Nat} (hQ : QL w L ν) (hM : MR ν R) (hh : h < kn w) : Wo (fX12_needsNow (nI h) ν) (fun p => p.1 = ndM (nd w R h) ∧ MR p.2 R ∧ Fm ν p.2) := by
  have hn := hQ.2.1
  generalize hv : nd w R h = V
  unfold fX12_needsNow
  rw [L_add2, L_add2, ix_nI (by omega) (by omega), ix_nI (by omega) (by omega), nI_clamp (by omega), nI_clamp (by omega), gd_true, bd_eq, gd_true, bd_eq, hM _ (by omega), hM _ (by omega)]
  have fin : ∀ (x : Int32) (s : Mem) (n : Nat), x = ndM V → MR s (sB w h n R) → Fm ν s → Wo (fX12_needsNow_b56 (nI h) (R (6 + h)) (R (30 + h)) x s) (fun p => p.1 = ndM V ∧ MR p.2 R ∧ Fm ν p.2) := by
    intro x s n hx m1 m2
    unfold fX12_needsNow_b56
    rw [L_add2, L_add2, ix_nI (by omega) (by omega), ix_nI (by omega) (by omega), nI_clamp (by omega), nI_clamp (by omega), gd_true, bd_eq, gd_true, bd_eq, Wo_some]
    exact ⟨hx, MR_back (by omega) m1, Fm_tr m2 (Fm_tr (Fm_up (by omega)) (Fm_up (by omega)))⟩
  refine lp0 (fun n' x s => fX12_needsNow_l23 _ (nI h) n' x s) 31 (by omega) (fun i s => (∃ n, MR s (sB w h n R) ∧ (i < 31 → n = i)) ∧ Fm ν s ∧ fz (fun n => sF w (sB w h n R) h) (31 - i) i = V) _ ν ⟨⟨0, hM, fun _ => rfl⟩, Fm_rfl, hv⟩ ?_ ?_
  · rintro n' i s hi ⟨⟨n, i1, i0⟩, i2, i3⟩ hrec
    have := i0 hi
    subst this
    show Wo (fX12_needsNow_s23 _ _ _ _ _) _
    unfold fX12_needsNow_s23
    rw [if_neg (by simp (disch := omega) only [L_add, L_add2, L_mul, L_mul2, L_sub, nI_add, pk_mul, pk_sub, L_le, L_le2, L_lt, L_lt2, L_eq, L_eq2, nI_leI, nI_ltI, nI_eq, nI_clamp, ix_nI, ix_lit, L_cl]; omega), Wo_b2]
    refine Wo_mono (fadesOf_m (QL_Fm hQ i2) i1 hh) ?_
    rintro ⟨r, s1⟩ ⟨h1, h2, h3⟩
    dsimp only at h1 h2 h3 ⊢
    have f2 := Fm_tr i2 (Fl_Fm h3)
    rw [h1, nI_1]
    refine Wo_if (fun hz => ?_) (fun hz => ?_)
    · exact fin _ s1 n (by rw [← i3, fz_z hi hz]; rfl) h2 f2
    · refine Wo_if (fun hc => ?_) (fun hc => ?_)
      · rw [L_le (by omega) (by omega)] at hc
        exact hrec s1 ⟨⟨n, h2, fun hx => by omega⟩, f2, by rw [← i3]; exact (fz_n hi hz).symm⟩
      · rw [Wo_b1]
        refine Wo_mono (burnsOne_m (QL_Fm hQ f2) h2 hh) ?_
        rintro s2 ⟨j1, j2⟩
        exact hrec s2 ⟨⟨n + 1, j1, fun _ => rfl⟩, Fm_tr f2 j2, by rw [← i3]; exact (fz_n hi hz).symm⟩
  · rintro n' s ⟨⟨n, i1, i0⟩, i2, i3⟩
    show Wo (fX12_needsNow_s23 _ _ _ _ _) _
    unfold fX12_needsNow_s23
    rw [if_pos (by decide)]
    exact fin _ s n (by rw [← i3]; rfl) i1 i2
/-- one house of a day on which coals are to last -/
def lh (w : Kw) (R : Rw) (h : Nat) : Option Rw := match nd w R h with
  | none => some R
  | some n => if nI n ≤ R 37 then some (upd (sB w h n R) 37 (R 37 - nI n)) else none
def lr (w : Kw) (R : Rw) : Nat → Option Rw
  | 0 => some R
  | n + 1 => match lr w R n with
    | none => none
    | some R' => lh w R' n
def lsd (w : Kw) : Nat → Nat → Rw → Int32
  | 0, _, _ => 60
  | m + 1, d, R => match lr w R (kn w) with
    | none => nI d
    | some R' => lsd w m (d + 1) (sDay w none R')
def LG (w : Kw) (R : Rw) : Prop := RG w R ∧ 0 ≤ R 37
theorem sub_nn {a b : Int32} (h : b ≤ a) (hb : 0 ≤ b) (ha : 0 ≤ a) : 0 ≤ a - b := by grind
theorem lh_ok {w : Kw} {R R' : Rw} {h : Nat} (hG : LG w R) (hh : h < 6) (e : lh w R h = some R') : LG w R' := by
  unfold lh at e
  split at e
  · cases e; exact hG
  · rename_i n en
    split at e
    · rename_i hc
      cases e
      refine ⟨RG_big (RG_B hG.1 hh n) (by omega) _, ?_⟩
      rw [pk_us]
      have := nd_lt en
      exact sub_nn hc (nI_pos' (by omega)) hG.2
    · cases e
theorem lr_ok {w : Kw} {R R' : Rw} {n : Nat} (hG : LG w R) (hn : n ≤ 6) (e : lr w R n = some R') : LG w R' := by
  induction n generalizing R' with
  | zero => cases e; exact hG
  | succ n ih =>
    unfold lr at e
    split at e
    · cases e
    · rename_i R1 e1
      exact lh_ok (ih (by omega) e1) (by omega) e
theorem lr_none {w : Kw} {R : Rw} {i n : Nat} (h : lr w R i = none) (hi : i ≤ n) : lr w R n = none := by
  induction n with
  | zero => rw [show i = 0 by omega] at h; exact h
  | succ n ih =>
    by_cases he : i = n + 1
    · rw [← he]; exact h
    · unfold lr; rw [ih (by omega)]
theorem lr_s {w : Kw} {R R1 : Rw} {n : Nat} (h : lr w R n = some R1) : lr w R (n + 1) = lh w R1 n := by
  show (match lr w R n with | none => none | some R' => lh w R' n) = _
  rw [h]
theorem LG_day {w : Kw} {R : Rw} (hK : KW w) (hG : LG w R) : LG w (sDay w none R) := by
  refine ⟨RG_Day hK hG.1 none, ?_⟩
  rw [sDay_ne hK.1 (fun h _ => by have := hK.1; omega) (by omega) (by omega)]
  exact hG.2
theorem jmax_nI {n : Nat} (h : n < 2 ^ 31) : jmax 0 (nI n) = nI n := by
  unfold jmax
  by_cases h0 : n = 0
  · rw [if_neg (by rw [h0]; decide), h0]; rfl
  · rw [if_pos (by simp (disch := omega) only [L_add, L_add2, L_mul, L_mul2, L_sub, nI_add, pk_mul, pk_sub, L_le, L_le2, L_lt, L_lt2, L_eq, L_eq2, nI_leI, nI_ltI, nI_eq, nI_clamp, ix_nI, ix_lit, L_cl]; omega)]
theorem lasts21_c {w : Kw} {μ : Mem} {R : Rw} {K : Mem → Option (Int32 × Mem)} {d : Nat} {Q : Int32 × Mem → Prop} (hQ : QC w μ) (hS : SR μ 26 (kp w) R) (hC : μ.1 26 2 = R 37) (hG : LG w R) (h0 : lr w R (kn w) = none → ∀ s, KC μ s → Q (nI d, s)) (hK : ∀ s R', lr w R (kn w) = some R' → SR s 26 (kp w) R' → s.1 26 2 = R' 37 → KC μ s → Wo (K s) Q) : Wo (fX11_lasts_l21 K (nI d) FU 0 μ) Q := by
  have hn := hQ.1
  refine lp0 (fun n' x s => fX11_lasts_l21 K (nI d) n' x s) (kn w) (by omega) (fun i s => ∃ R1, lr w R i = some R1 ∧ SR s 26 (kp w) R1 ∧ s.1 26 2 = R1 37 ∧ KC μ s) _ μ ⟨R, rfl, hS, hC, KC_rfl⟩ ?_ ?_
  · rintro n' i s hi ⟨R1, e1, i1, i2, i3⟩ hrec
    have hG1 := lr_ok hG (by omega) e1
    show Wo (fX11_lasts_s21 _ _ _ _ _) _
    unfold fX11_lasts_s21
    have hQ' := QC_KC hQ i3
    rw [hQ'.2.1, if_neg (by simp (disch := omega) only [L_add, L_add2, L_mul, L_mul2, L_sub, nI_add, pk_mul, pk_sub, L_le, L_le2, L_lt, L_lt2, L_eq, L_eq2, nI_leI, nI_ltI, nI_eq, nI_clamp, ix_nI, ix_lit, L_cl]; omega), Wo_b2]
    refine Wo_mono (need_c (q := 26) hQ' (by omega) i1 hG1.1 (by omega)) ?_
    rintro ⟨r, μ1⟩ ⟨h1, h2⟩
    dsimp only at h1 h2 ⊢
    have c1 : μ1.1 26 2 = R1 37 := by rw [h2.1 26 (by omega) (by omega) (by omega)]; exact i2
    have s1 : SR μ1 26 (kp w) R1 := SR_fr i1 (h2.1 26 (by omega) (by omega) (by omega)) (h2.1 27 (by omega) (by omega) (by omega))
    have k1 := KC_tr i3 (Fn_KC h2)
    have es := lr_s e1
    rw [bd_eq, h1, c1]
    have go : ∀ n, n ≤ 30 → ∀ R2, lr w R (i + 1) = some R2 → R2 37 = R1 37 - nI n → (∀ k, k < 37 → R2 k = sB w i n R1 k) → Wo (b1 (fX3_burnIn 17 26 (nI i) (nI n) μ1) (fun μ9 => fX11_lasts_l21 K (nI d) n' (nI i + 1) μ9)) Q := by
      intro n hn30 R2 e2 e37 ek
      rw [Wo_b1]
      refine Wo_mono (burnIn_c (QC_KC hQ k1) (by omega) s1 hG1.1 (by omega) (by omega)) ?_
      rintro μ2 ⟨j1, j2, j3, _⟩
      rw [nI_1]
      exact hrec μ2 ⟨R2, e2, SR_ext j1 ek, by rw [j3, c1, e37], KC_tr k1 (Fs_KC j2)⟩
    cases en : nd w R1 i with
    | none =>
      have es2 : lr w R (i + 1) = some R1 := by rw [es]; unfold lh; rw [en]
      rw [show jmax 0 (ndC none) = nI 0 from by decide, if_pos (by rw [nI_0]; exact hG1.2)]
      exact go 0 (by omega) R1 es2 (by rw [nI_0]; grind) (fun k _ => rfl)
    | some n =>
      have hn30 := nd_lt en
      rw [show ndC (some n) = nI n from rfl, jmax_nI (by omega)]
      refine Wo_if (fun hc => ?_) (fun hc => ?_)
      · have es2 : lr w R (i + 1) = some (upd (sB w i n R1) 37 (R1 37 - nI n)) := by rw [es]; unfold lh; rw [en]; dsimp only; rw [if_pos hc]
        exact go n hn30 _ es2 pk_us (fun k hk => pk_un (by omega))
      · have es2 : lr w R (i + 1) = none := by rw [es]; unfold lh; rw [en]; dsimp only; rw [if_neg hc]
        rw [Wo_some]
        exact h0 (lr_none es2 (by omega)) _ k1
  · rintro n' s ⟨R1, e1, i1, i2, i3⟩
    show Wo (fX11_lasts_s21 _ _ _ _ _) _
    unfold fX11_lasts_s21
    rw [(QC_KC hQ i3).2.1, if_pos (by simp (disch := omega) only [L_add, L_add2, L_mul, L_mul2, L_sub, nI_add, pk_mul, pk_sub, L_le, L_le2, L_lt, L_lt2, L_eq, L_eq2, nI_leI, nI_ltI, nI_eq, nI_clamp, ix_nI, ix_lit, L_cl]; omega)]
    exact hK s R1 e1 i1 i2 i3
theorem lasts_c {w : Kw} {μ : Mem} {R : Rw} (hK : KW w) (hQ : QC w μ) (hS : SF μ 24 (kp w) R) (hG : LG w R) : Wo (fX11_lasts μ) (fun p => p.1 = lsd w 60 0 R ∧ KC μ p.2) := by
  generalize hv : lsd w 60 0 R = V
  unfold fX11_lasts
  rw [Wo_b1]
  refine Wo_mono (copyA_c hS (by omega)) ?_
  rintro μ1 ⟨k1, k2⟩
  refine lp0 (fun n' x s => fX11_lasts_l13 n' x s) 60 (by omega) (fun i s => ∃ R1, LG w R1 ∧ SR s 26 (kp w) R1 ∧ s.1 26 2 = R1 37 ∧ KC μ s ∧ lsd w (60 - i) i R1 = V) _ μ1 ⟨R, hG, k2.1, k2.2.1, k1, hv⟩ ?_ ?_
  · rintro n' i s hi ⟨R1, g1, i1, i2, i3, i4⟩ hrec
    show Wo (fX11_lasts_s13 _ _ _) _
    unfold fX11_lasts_s13
    rw [if_neg (by simp (disch := omega) only [L_add, L_add2, L_mul, L_mul2, L_sub, nI_add, pk_mul, pk_sub, L_le, L_le2, L_lt, L_lt2, L_eq, L_eq2, nI_leI, nI_ltI, nI_eq, nI_clamp, ix_nI, ix_lit, L_cl]; omega)]
    rw [show 60 - i = (60 - (i + 1)) + 1 by omega] at i4
    have e4 : (match lr w R1 (kn w) with | none => nI i | some R' => lsd w (60 - (i + 1)) (i + 1) (sDay w none R')) = V := i4
    have hQ' := QC_KC hQ i3
    refine lasts21_c hQ' i1 i2 g1 ?_ ?_
    · intro hx s2 k2; rw [hx] at e4; exact ⟨e4, KC_tr i3 k2⟩
    · intro s2 R2 e2 j1 j2 j3
      rw [e2] at e4
      have g2 := lr_ok g1 hQ.1 e2
      have hn6 := hQ.1
      rw [Wo_b1]
      refine Wo_mono (passDay_c (QC_KC hQ' j3) (by omega) j1 g2.1) ?_
      rintro μ3 ⟨l1, l2, l3⟩
      rw [bd_eq, nI_1, l1.2.2, sPs_ne (fun _ _ => by omega)]
      refine hrec (upI μ3 26 1 (R2 36 + 1)) ⟨sDay w none R2, LG_day hK g2, SR_day l1 _, ?_, KC_tr i3 (KC_tr j3 (KC_tr (Fs_KC l2) (KC_up (by omega)))), e4⟩
      rw [rd_Ik (by omega), l3, j2]
      exact (sDay_ne hK.1 (fun h _ => by have := hK.1; omega) (by omega) (by omega)).symm
  · rintro n' s ⟨R1, g1, i1, i2, i3, i4⟩
    show Wo (fX11_lasts_s13 _ _ _) _
    unfold fX11_lasts_s13
    rw [if_pos (by decide), Wo_some]
    exact ⟨by rw [← i4]; rfl, i3⟩
theorem runs_m {w : Kw} {L : Nat} {ν : Mem} {R : Rw} (hQ : QL w L ν) (hM : MR ν R) (hG : LG w R) : Wo (fX12_runsOut ν) (fun p => Fm ν p.2 ∧ ((lr w R (kn w) = none ∧ p.1 = 1) ∨ ∃ R', lr w R (kn w) = some R' ∧ p.1 = 0 ∧ MR p.2 R')) := by
  have hn := hQ.2.1
  unfold fX12_runsOut
  refine lp0 (fun n' x s => fX12_runsOut_l2 n' x s) (kn w) (by omega) (fun i s => ∃ R1, lr w R i = some R1 ∧ MR s R1 ∧ Fm ν s) _ ν ⟨R, rfl, hM, Fm_rfl⟩ ?_ ?_
  · rintro n' i s hi ⟨R1, e1, i1, i2⟩ hrec
    have hG1 := lr_ok hG (by omega) e1
    have es := lr_s e1
    show Wo (fX12_runsOut_s2 _ _ _) _
    unfold fX12_runsOut_s2
    have hQ' := QL_Fm hQ i2
    rw [many_m hQ', b1_some, if_neg (by simp (disch := omega) only [L_add, L_add2, L_mul, L_mul2, L_sub, nI_add, pk_mul, pk_sub, L_le, L_le2, L_lt, L_lt2, L_eq, L_eq2, nI_leI, nI_ltI, nI_eq, nI_clamp, ix_nI, ix_lit, L_cl]; omega), Wo_b2]
    refine Wo_mono (needNow_m hQ' i1 hi) ?_
    rintro ⟨r, s1⟩ ⟨h1, h2, h3⟩
    dsimp only at h1 h2 h3 ⊢
    have f1 := Fm_tr i2 h3
    rw [h1, h2 37 (by omega), nI_1]
    cases en : nd w R1 i with
    | none =>
      have es2 : lr w R (i + 1) = some R1 := by rw [es]; unfold lh; rw [en]
      rw [if_neg (by decide)]
      exact hrec s1 ⟨R1, es2, h2, f1⟩
    | some n =>
      have hn30 := nd_lt en
      rw [show ndM (some n) = nI n from rfl, if_pos (by simp (disch := omega) only [L_add, L_add2, L_mul, L_mul2, L_sub, nI_add, pk_mul, pk_sub, L_le, L_le2, L_lt, L_lt2, L_eq, L_eq2, nI_leI, nI_ltI, nI_eq, nI_clamp, ix_nI, ix_lit, L_cl]; omega)]
      refine Wo_if (fun hc => ?_) (fun hc => ?_)
      · have es2 : lr w R (i + 1) = some (upd (sB w i n R1) 37 (R1 37 - nI n)) := by rw [es]; unfold lh; rw [en]; dsimp only; rw [if_pos hc]
        rw [Wo_b1]
        refine Wo_mono (burns_m (QL_Fm hQ f1) h2 hi (by omega)) ?_
        rintro s2 ⟨j1, j2⟩
        rw [bd_eq, j1 37 (by omega), sB_ne (by omega) (by omega)]
        exact hrec _ ⟨_, es2, MR_up j1 _ _, Fm_tr f1 (Fm_tr j2 (Fm_up (by omega)))⟩
      · have es2 : lr w R (i + 1) = none := by rw [es]; unfold lh; rw [en]; dsimp only; rw [if_neg hc]
        rw [Wo_some]
        exact ⟨f1, Or.inl ⟨lr_none es2 (by omega), rfl⟩⟩
  · rintro n' s ⟨R1, e1, i1, i2⟩
    show Wo (fX12_runsOut_s2 _ _ _) _
    unfold fX12_runsOut_s2
    rw [many_m (QL_Fm hQ i2), b1_some, if_pos (by simp (disch := omega) only [L_add, L_add2, L_mul, L_mul2, L_sub, nI_add, pk_mul, pk_sub, L_le, L_le2, L_lt, L_lt2, L_eq, L_eq2, nI_leI, nI_ltI, nI_eq, nI_clamp, ix_nI, ix_lit, L_cl]; omega), Wo_some]
    exact ⟨i2, Or.inr ⟨R1, e1, rfl, i1⟩⟩
theorem lasts_m {w : Kw} {L : Nat} {ν : Mem} {R : Rw} (hK : KW w) (hQ : QL w L ν) (hN : NR ν R) (hG : LG w R) : Wo (fX12_lasts ν) (fun p => p.1 = lsd w 60 0 R ∧ Fc ν p.2) := by
  generalize hv : lsd w 60 0 R = V
  unfold fX12_lasts
  rw [Wo_b1]
  refine Wo_mono (copiesStill_s hQ hN) ?_
  rintro s0 ⟨k1, k2, k3⟩
  refine lp0 (fun n' x s => fX12_lasts_l6 n' x s) 60 (by omega) (fun i s => ∃ R1, LG w R1 ∧ MR s R1 ∧ Fc ν s ∧ s.1 0 50 = 1 ∧ lsd w (60 - i) i R1 = V) _ s0 ⟨R, hG, k1, k2, k3, hv⟩ ?_ ?_
  · rintro n' i s hi ⟨R1, g1, i1, i2, i3, i4⟩ hrec
    show Wo (fX12_lasts_s6 _ _ _) _
    unfold fX12_lasts_s6
    rw [show 60 - i = (60 - (i + 1)) + 1 by omega] at i4
    have e4 : (match lr w R1 (kn w) with | none => nI i | some R' => lsd w (60 - (i + 1)) (i + 1) (sDay w none R')) = V := i4
    have hQ' := QL_Fc hQ i2
    rw [if_neg (by simp (disch := omega) only [L_add, L_add2, L_mul, L_mul2, L_sub, nI_add, pk_mul, pk_sub, L_le, L_le2, L_lt, L_lt2, L_eq, L_eq2, nI_leI, nI_ltI, nI_eq, nI_clamp, ix_nI, ix_lit, L_cl]; omega), Wo_b2]
    refine Wo_mono (runs_m hQ' i1 g1) ?_
    rintro ⟨r, s1⟩ ⟨h1, h2⟩
    dsimp only at h1 h2 ⊢
    rcases h2 with ⟨e, h2⟩ | ⟨R2, e, h2, h3⟩
    · rw [e] at e4
      rw [h2, if_neg n10, Wo_some]
      exact ⟨e4, Fc_tr i2 (Fm_Fc h1)⟩
    · rw [e] at e4
      rw [h2, if_pos rfl, Wo_b1]
      have c50 : s1.1 0 50 = 1 := by rw [h1.2.1 50 (by omega)]; exact i3
      refine Wo_mono (dayGoes_m (st := none) (QL_Fm hQ' h1) h3 (Or.inl ⟨c50, rfl⟩)) ?_
      rintro s2 ⟨j1, j2⟩
      rw [nI_1]
      exact hrec s2 ⟨_, LG_day hK (lr_ok g1 hQ.2.1 e), j1, Fc_tr i2 (Fc_tr (Fm_Fc h1) (Fm_Fc j2)), by rw [j2.2.1 50 (by omega)]; exact c50, e4⟩
  · rintro n' s ⟨R1, g1, i1, i2, i3, i4⟩
    show Wo (fX12_lasts_s6 _ _ _) _
    unfold fX12_lasts_s6
    rw [if_pos (by decide), Wo_some]
    exact ⟨by rw [← i4]; rfl, i2⟩
theorem r_lasts {μ ν : Mem} (h : REL μ ν) : ∃ (r : Int32) (μ' : Mem) (ν' : Mem), fX11_lasts μ = some (r, μ') ∧ fX12_lasts ν = some (r, ν') ∧ REL μ' ν' := by
  have h' := h
  obtain ⟨w, L, R, a1, a2, a3, a4, a5, a6, a7, a8, a9, a10, a11, a12⟩ := h'
  exact rel_of h _ (lasts_c a1.1 a2 a5 ⟨a4.1, a4.2.1.1⟩) (lasts_m a1.1 a3 a6 ⟨a4.1, a4.2.1.1⟩)
/-- loss tables -/
def Fw (ν ν' : Mem) : Prop := (∀ j, j ≠ 0 → ¬ (29 ≤ j ∧ j ≤ 30) → ¬ (32 ≤ j ∧ j ≤ 34) → ¬ (36 ≤ j ∧ j ≤ 37) → ν'.1 j = ν.1 j) ∧ (∀ k, k ≠ 46 → ν'.1 0 k = ν.1 0 k) ∧ ν'.2 = ν.2
theorem Fw_rfl {ν : Mem} : Fw ν ν := ⟨fun _ _ _ _ _ => rfl, fun _ _ => rfl, rfl⟩
theorem Fw_tr {a b c : Mem} (h : Fw a b) (h2 : Fw b c) : Fw a c := ⟨fun j h0 h1 h3 h4 => (h2.1 j h0 h1 h3 h4).trans (h.1 j h0 h1 h3 h4), fun k a => (h2.2.1 k a).trans (h.2.1 k a), h2.2.2.trans h.2.2⟩
theorem Fm_Fw {ν ν' : Mem} (h : Fm ν ν') : Fw ν ν' := ⟨fun j a b c d => h.1 j a (by omega) (by omega) (by omega) (by omega) (by omega), h.2.1, h.2.2⟩
theorem Fw_Fc {ν ν' : Mem} (h : Fw ν ν') : Fc ν ν' := ⟨fun j a b c d => h.1 j a b c (by omega), fun k a _ _ => h.2.1 k a, h.2.2⟩
theorem Fw_up {ν : Mem} {j k : Nat} {v : Int32} (h : (29 ≤ j ∧ j ≤ 30) ∨ (32 ≤ j ∧ j ≤ 34) ∨ (36 ≤ j ∧ j ≤ 37)) : Fw ν (upI ν j k v) := ⟨fun i _ _ _ _ => rd_Ii (by omega), fun i _ => by rw [rd_Ii (by omega)], rfl⟩
/-- the loss of a house with n coals more -/
def gl (w : Kw) (R : Rw) (h n : Nat) : Int32 := sF w (sB w h n R) h
theorem fill34_m {w : Kw} {L : Nat} {ν : Mem} {R : Rw} {h most : Nat} {K : Mem → Option Mem} {Q : Mem → Prop} (hQ : QL w L ν) (hM : MR ν R) (hh : h < kn w) (hm : most ≤ 30) (hK : ∀ s n, MR s (sB w h n R) → (∀ i, i ≤ most → s.1 36 (31 * h + i) = gl w R h i) → (∀ m, m < 31 * h → s.1 36 m = ν.1 36 m) → Fw ν s → Wo (K s) Q) : Wo (fX12_fillsLoss_l34 K (nI most) (nI h) FU 0 ν) Q := by
  have hn := hQ.2.1
  refine lp0 (fun n' x s => fX12_fillsLoss_l34 K (nI most) (nI h) n' x s) (most + 1) (by omega) (fun i s => (∃ n, MR s (sB w h n R) ∧ (i ≤ most → n = i)) ∧ (∀ k, k < i → s.1 36 (31 * h + k) = gl w R h k) ∧ (∀ m, m < 31 * h → s.1 36 m = ν.1 36 m) ∧ Fw ν s) _ ν ⟨⟨0, hM, fun _ => rfl⟩, fun k hk => by omega, fun _ _ => rfl, Fw_rfl⟩ ?_ ?_
  · rintro n' i s hi ⟨⟨n, i1, i0⟩, i2, i3, i4⟩ hrec
    have := i0 (by omega)
    subst this
    show Wo (fX12_fillsLoss_s34 _ _ _ _ _ _) _
    unfold fX12_fillsLoss_s34
    rw [if_neg (by simp (disch := omega) only [L_add, L_add2, L_mul, L_mul2, L_sub, nI_add, pk_mul, pk_sub, L_le, L_le2, L_lt, L_lt2, L_eq, L_eq2, nI_leI, nI_ltI, nI_eq, nI_clamp, ix_nI, ix_lit, L_cl]; omega), Wo_b2]
    refine Wo_mono (fadesOf_m (QL_Fc hQ (Fw_Fc i4)) i1 hh) ?_
    rintro ⟨r, s1⟩ ⟨h1, h2, h3⟩
    dsimp only at h1 h2 h3 ⊢
    have e36 : s1.1 36 = s.1 36 := h3.1 36 (by omega) (by omega) (by omega)
    rw [L_mul2, nI_add, ix_nI (by omega) (by omega), gd_true, nI_clamp (by omega), bd_eq, nI_1]
    have f2 : Fw ν (upI s1 36 (31 * h + n) r) := Fw_tr i4 (Fw_tr (Fm_Fw (Fl_Fm h3)) (Fw_up (by omega)))
    have m2 : MR (upI s1 36 (31 * h + n) r) (sB w h n R) := MR_fr h2 (rd_Ii (by omega))
    have p1 : ∀ k, k < n + 1 → (upI s1 36 (31 * h + n) r).1 36 (31 * h + k) = gl w R h k := by
      intro k hk
      by_cases he : k = n
      · subst he; rw [rd_Is]; exact h1
      · rw [rd_Ik (by omega), e36]; exact i2 k (by omega)
    have p2 : ∀ m, m < 31 * h → (upI s1 36 (31 * h + n) r).1 36 m = ν.1 36 m := by
      intro m hm; rw [rd_Ik (by omega), e36]; exact i3 m hm
    refine Wo_if (fun hc => ?_) (fun hc => ?_)
    · rw [nI_leI (by omega) (by omega)] at hc
      exact hrec _ ⟨⟨n, m2, fun hx => by omega⟩, p1, p2, f2⟩
    · rw [Wo_b1]
      refine Wo_mono (burnsOne_m (QL_Fc hQ (Fw_Fc f2)) m2 hh) ?_
      rintro s2 ⟨j1, j2⟩
      have e2 : s2.1 36 = (upI s1 36 (31 * h + n) r).1 36 := j2.1 36 (by omega) (by omega) (by omega) (by omega) (by omega) (by omega)
      exact hrec _ ⟨⟨n + 1, j1, fun hx => rfl⟩, by rw [e2]; exact p1, by rw [e2]; exact p2, Fw_tr f2 (Fm_Fw j2)⟩
  · rintro n' s ⟨⟨n, i1, i0⟩, i2, i3, i4⟩
    show Wo (fX12_fillsLoss_s34 _ _ _ _ _ _) _
    unfold fX12_fillsLoss_s34
    rw [if_pos (by simp (disch := omega) only [L_add, L_add2, L_mul, L_mul2, L_sub, nI_add, pk_mul, pk_sub, L_le, L_le2, L_lt, L_lt2, L_eq, L_eq2, nI_leI, nI_ltI, nI_eq, nI_clamp, ix_nI, ix_lit, L_cl]; omega)]
    exact hK s n i1 (fun i hi => i2 i (by omega)) i3 i4
theorem fillsLoss_m {w : Kw} {L : Nat} {ν : Mem} {R : Rw} {most : Nat} (hQ : QL w L ν) (hM : MR ν R) (hm : most ≤ 30) : Wo (fX12_fillsLoss (nI most) ν) (fun ν' => MR ν' R ∧ (∀ h, h < kn w → ∀ n, n ≤ most → ν'.1 36 (31 * h + n) = gl w R h n) ∧ Fw ν ν') := by
  have hn := hQ.2.1
  unfold fX12_fillsLoss
  refine lp0 (fun n' x s => fX12_fillsLoss_l2 (nI most) n' x s) (kn w) (by omega) (fun i s => MR s R ∧ (∀ h, h < i → ∀ n, n ≤ most → s.1 36 (31 * h + n) = gl w R h n) ∧ Fw ν s) _ ν ⟨hM, fun h hh => by omega, Fw_rfl⟩ ?_ ?_
  · rintro n' i s hi ⟨i1, i2, i3⟩ hrec
    have hQ' := QL_Fc hQ (Fw_Fc i3)
    show Wo (fX12_fillsLoss_s2 _ _ _ _) _
    unfold fX12_fillsLoss_s2
    rw [many_m hQ', b1_some, if_neg (by simp (disch := omega) only [L_add, L_add2, L_mul, L_mul2, L_sub, nI_add, pk_mul, pk_sub, L_le, L_le2, L_lt, L_lt2, L_eq, L_eq2, nI_leI, nI_ltI, nI_eq, nI_clamp, ix_nI, ix_lit, L_cl]; omega), L_add2, L_add2, ix_nI (by omega) (by omega), ix_nI (by omega) (by omega), nI_clamp (by omega), nI_clamp (by omega), gd_true, bd_eq, gd_true, bd_eq, i1 _ (by omega), i1 _ (by omega)]
    refine fill34_m hQ' i1 hi hm ?_
    intro s1 n j1 j2 j3 j4
    rw [gd_true, bd_eq, gd_true, bd_eq, nI_1]
    refine hrec _ ⟨MR_back (by omega) j1, ?_, Fw_tr i3 (Fw_tr j4 (Fw_tr (Fw_up (by omega)) (Fw_up (by omega))))⟩
    intro h hh n hn
    rw [rd_Ii (by omega), rd_Ii (by omega)]
    by_cases he : h = i
    · subst he; exact j2 n hn
    · rw [j3 _ (by omega)]; exact i2 h (by omega) n hn
  · rintro n' s ⟨i1, i2, i3⟩
    show Wo (fX12_fillsLoss_s2 _ _ _ _) _
    unfold fX12_fillsLoss_s2
    rw [many_m (QL_Fc hQ (Fw_Fc i3)), b1_some, if_pos (by simp (disch := omega) only [L_add, L_add2, L_mul, L_mul2, L_sub, nI_add, pk_mul, pk_sub, L_le, L_le2, L_lt, L_lt2, L_eq, L_eq2, nI_leI, nI_ltI, nI_eq, nI_clamp, ix_nI, ix_lit, L_cl]; omega), Wo_some]
    exact ⟨i1, i2, i3⟩
theorem needsOf_m {w : Kw} {ν : Mem} {R : Rw} {h : Nat} (hh : h < 6) (ht : ∀ n, n ≤ 30 → ν.1 36 (31 * h + n) = gl w R h n) : Wo (fX12_needsOf (nI h) ν) (fun r => r = ndM (nd w R h)) := by
  generalize hv : nd w R h = V
  unfold fX12_needsOf
  refine lp0 (σ := Unit) (fun n' x _ => fX12_needsOf_l2 (nI h) ν n' x) 31 (by omega) (fun i _ => fz (fun n => sF w (sB w h n R) h) (31 - i) i = V) _ () hv ?_ ?_
  · rintro n' i _ hi i3 hrec
    show Wo (fX12_needsOf_s2 _ _ _ _) _
    unfold fX12_needsOf_s2
    rw [if_neg (by simp (disch := omega) only [L_add, L_add2, L_mul, L_mul2, L_sub, nI_add, pk_mul, pk_sub, L_le, L_le2, L_lt, L_lt2, L_eq, L_eq2, nI_leI, nI_ltI, nI_eq, nI_clamp, ix_nI, ix_lit, L_cl]; omega), L_mul2, nI_add, ix_nI (by omega) (by omega), gd_true, nI_clamp (by omega), ht i (by omega), nI_1]
    refine Wo_if (fun hz => ?_) (fun hz => ?_)
    · rw [Wo_some, ← i3, fz_z (g := fun n => sF w (sB w h n R) h) hi hz]; rfl
    · exact hrec () (by rw [← i3]; exact (fz_n (g := fun n => sF w (sB w h n R) h) hi hz).symm)
  · rintro n' _ i3
    show Wo (fX12_needsOf_s2 _ _ _ _) _
    unfold fX12_needsOf_s2
    rw [if_pos (by decide), Wo_some, ← i3]; rfl
def esq (d : Nat → Option Nat) : Nat → Option Int32
  | 0 => some 0
  | n + 1 => match esq d n with
    | none => none
    | some s => match d n with
      | none => none
      | some k => some (s + nI k)
theorem esq_none {d : Nat → Option Nat} {i n : Nat} (h : esq d i = none) (hi : i ≤ n) : esq d n = none := by
  induction n with
  | zero => rw [show i = 0 by omega] at h; exact h
  | succ n ih =>
    by_cases he : i = n + 1
    · rw [← he]; exact h
    · unfold esq; rw [ih (by omega)]
theorem esq_s {d : Nat → Option Nat} {n : Nat} {s : Int32} (h : esq d n = some s) : esq d (n + 1) = (match d n with | none => none | some k => some (s + nI k)) := by
  show (match esq d n with | none => none | some s => match d n with | none => none | some k => some (s + nI k)) = _
  rw [h]
def esV (o : Option Int32) : Int32 := match o with
  | none => -2
  | some s => s
theorem enough_c {w : Kw} {μ : Mem} {R : Rw} (hQ : QC w μ) (hS : SF μ 24 (kp w) R) (hR : RG w R) : Wo (fX11_enough μ) (fun p => p.1 = esV (esq (nd w R) (kn w)) ∧ KC μ p.2) := by
  have hn := hQ.1
  unfold fX11_enough
  refine lp0 (σ := Int32 × Mem) (fun n' x s => fX11_enough_l4 n' s.1 x s.2) (kn w) (by omega) (fun i s => esq (nd w R) i = some s.1 ∧ KC μ s.2) _ (0, μ) ⟨rfl, KC_rfl⟩ ?_ ?_
  · rintro n' i ⟨x, s⟩ hi ⟨i1, i2⟩ hrec
    dsimp only at i1 i2 ⊢
    show Wo (fX11_enough_s4 _ _ _ _) _
    unfold fX11_enough_s4
    have hQ' := QC_KC hQ i2
    have es := esq_s i1
    rw [hQ'.2.1, if_neg (by simp (disch := omega) only [L_add, L_add2, L_mul, L_mul2, L_sub, nI_add, pk_mul, pk_sub, L_le, L_le2, L_lt, L_lt2, L_eq, L_eq2, nI_leI, nI_ltI, nI_eq, nI_clamp, ix_nI, ix_lit, L_cl]; omega), Wo_b2]
    refine Wo_mono (need_c (q := 24) hQ' (by omega) (SF_KC hS i2).1 hR (by omega)) ?_
    rintro ⟨r, μ1⟩ ⟨h1, h2⟩
    dsimp only at h1 h2 ⊢
    rw [h1, bd_eq, nI_1]
    have k1 := KC_tr i2 (Fn_KC h2)
    cases en : nd w R i with
    | none =>
      rw [en] at es
      rw [if_pos (show ndC none = -1 from rfl), Wo_some]
      exact ⟨by dsimp only; rw [esq_none es (by omega)]; rfl, k1⟩
    | some n =>
      have hn30 := nd_lt en
      rw [en] at es
      rw [if_neg]
      · exact hrec (_, μ1) ⟨es, k1⟩
      · intro hx
        have := nI_pos (n := n) (by omega)
        rw [show nI n = -1 from hx] at this
        exact this (by decide)
  · rintro n' ⟨x, s⟩ ⟨i1, i2⟩
    dsimp only at i1 i2 ⊢
    show Wo (fX11_enough_s4 _ _ _ _) _
    unfold fX11_enough_s4
    rw [(QC_KC hQ i2).2.1, if_pos (by simp (disch := omega) only [L_add, L_add2, L_mul, L_mul2, L_sub, nI_add, pk_mul, pk_sub, L_le, L_le2, L_lt, L_lt2, L_eq, L_eq2, nI_leI, nI_ltI, nI_eq, nI_clamp, ix_nI, ix_lit, L_cl]; omega), Wo_some, i1]
    exact ⟨rfl, i2⟩
theorem enough_m {w : Kw} {L : Nat} {ν : Mem} {R : Rw} (hQ : QL w L ν) (ht : ∀ h, h < kn w → ∀ n, n ≤ 30 → ν.1 36 (31 * h + n) = gl w R h n) : Wo (fX12_enough_l14 ν FU 0 0) (fun p => p.1 = esV (esq (nd w R) (kn w)) ∧ p.2 = ν) := by
  have hn := hQ.2.1
  refine lp0 (fun n' x s => fX12_enough_l14 ν n' s x) (kn w) (by omega) (fun i s => esq (nd w R) i = some s) _ 0 rfl ?_ ?_
  · rintro n' i x hi i1 hrec
    show Wo (fX12_enough_s14 _ _ _ _) _
    unfold fX12_enough_s14
    have es := esq_s i1
    rw [many_m hQ, b1_some, if_neg (by simp (disch := omega) only [L_add, L_add2, L_mul, L_mul2, L_sub, nI_add, pk_mul, pk_sub, L_le, L_le2, L_lt, L_lt2, L_eq, L_eq2, nI_leI, nI_ltI, nI_eq, nI_clamp, ix_nI, ix_lit, L_cl]; omega), Wo_b1]
    refine Wo_mono (needsOf_m (by omega) (ht i hi)) ?_
    rintro r rfl
    cases en : nd w R i with
    | none =>
      rw [en] at es
      rw [if_neg (by decide), Wo_some]
      exact ⟨by dsimp only; rw [esq_none es (by omega)]; rfl, rfl⟩
    | some n =>
      have hn30 := nd_lt en
      rw [en] at es
      rw [if_pos (by show nI n ≤ 30; simp (disch := omega) only [L_add, L_add2, L_mul, L_mul2, L_sub, nI_add, pk_mul, pk_sub, L_le, L_le2, L_lt, L_lt2, L_eq, L_eq2, nI_leI, nI_ltI, nI_eq, nI_clamp, ix_nI, ix_lit, L_cl]; omega), Wo_b1]
      refine Wo_mono (needsOf_m (by omega) (ht i hi)) ?_
      rintro r rfl
      rw [en, bd_eq, nI_1]
      exact hrec _ es
  · rintro n' x i1
    show Wo (fX12_enough_s14 _ _ _ _) _
    unfold fX12_enough_s14
    rw [many_m hQ, b1_some, if_pos (by simp (disch := omega) only [L_add, L_add2, L_mul, L_mul2, L_sub, nI_add, pk_mul, pk_sub, L_le, L_le2, L_lt, L_lt2, L_eq, L_eq2, nI_leI, nI_ltI, nI_eq, nI_clamp, ix_nI, ix_lit, L_cl]; omega), Wo_some, i1]
    exact ⟨rfl, rfl⟩
theorem r_enough {μ ν : Mem} (h : REL μ ν) : ∃ (r : Int32) (μ' : Mem) (ν' : Mem), fX11_enough μ = some (r, μ') ∧ fX12_enough ν = some (r, ν') ∧ REL μ' ν' := by
  have h' := h
  obtain ⟨w, L, R, a1, a2, a3, a4, a5, a6, a7, a8, a9, a10, a11, a12⟩ := h'
  refine rel_of h _ (enough_c a2 a5 a4.1) ?_
  unfold fX12_enough
  rw [Wo_b1]
  refine Wo_mono (copies_s a3 a6) ?_
  rintro s ⟨m1, m2, _⟩
  rw [Wo_b1]
  refine Wo_mono (fillsLoss_m (most := 30) (QL_Fc a3 m2) m1 (by omega)) ?_
  rintro s1 ⟨k1, k2, k3⟩
  exact Wo_mono (enough_m (QL_Fc (QL_Fc a3 m2) (Fw_Fc k3)) k2) (fun p hp => ⟨hp.1, by rw [hp.2]; exact Fc_tr m2 (Fw_Fc k3)⟩)
