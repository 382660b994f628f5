def bS (w : Kw) (R : Rw) (n : Nat) : Nat → Rw
  | 0 => R
  | h + 1 => sB w h (gvS w R n h) (bS w R n h)
/-- a day on which n coals are burnt as they are best shared -/
def dS (w : Kw) (R : Rw) (n : Nat) : Rw := sDay w none (bS w R n (kn w))
theorem RG_bS {w : Kw} {R : Rw} {n m : Nat} (hR : RG w R) (hm : m ≤ 6) : RG w (bS w R n m) := by
  induction m with
  | zero => exact hR
  | succ m ih => exact RG_B (ih (by omega)) (by omega) _
theorem RG_dS {w : Kw} {R : Rw} {n : Nat} (hK : KW w) (hR : RG w R) : RG w (dS w R n) := RG_Day hK (RG_bS hR hK.1) none
theorem bS_ne {w : Kw} {R : Rw} {n m k : Nat} (h : ∀ h, h < m → k ≠ 6 + h ∧ k ≠ 30 + h) : bS w R n m k = R k := by
  induction m with
  | zero => rfl
  | succ m ih => exact (sB_ne (h m (by omega)).1 (h m (by omega)).2).trans (ih (fun h' hh => h h' (by omega)))
theorem bS_bef {w : Kw} {R : Rw} {n m h : Nat} (hm : m ≤ h) (hh : h < 6) : EqH h R (bS w R n m) := by
  induction m with
  | zero => exact EqH_rfl
  | succ m ih => exact EqH_tr (ih (by omega)) (sB_oth (by omega) hh (by omega))
theorem bS_own {w : Kw} {R : Rw} {n m h : Nat} (hh : h < m) (hm : m ≤ 6) : EqH h (sB w h (gvS w R n h) R) (bS w R n m) := by
  induction m with
  | zero => omega
  | succ m ih =>
    by_cases he : h = m
    · subst he; exact sB_EqH (by omega) (bS_bef (Nat.le_refl _) (by omega)) _
    · exact EqH_tr (ih (by omega) (by omega)) (sB_oth (by omega) (by omega) (by omega))
theorem dS_kept {w : Kw} {R : Rw} {n h : Nat} (hn : kn w ≤ 6) (hh : h < kn w) : dS w R n (12 + h) = R (12 + h) - gl w R h (gvS w R n h) := by
  unfold dS
  show upd (sPs w (kn w) (bS w R n (kn w))) 36 _ (12 + h) = _
  rw [pk_un (by omega)]
  have e1 := @sPs_own w (bS w R n (kn w)) h (kn w) hh hn
  have e2 := @bS_own w R n (kn w) h hh hn
  rw [e1.2.2.1]
  unfold sP
  simp (disch := omega) only [pk_un, pk_us]
  rw [e2.2.2.1, sF_EqH (by omega) e2, sB_ne (by omega) (by omega)]; rfl
theorem dS_tail {w : Kw} {R : Rw} {n h : Nat} (hn : kn w ≤ 6) (hh : kn w ≤ h) (h6 : h < 6) (hz : R (12 + h) = 0) : dS w R n (12 + h) = 0 := by
  unfold dS
  rw [sDay_ne hn (fun h' _ => by omega) (by omega) (by omega), bS_ne (fun h' _ => by omega)]; exact hz
theorem leS_sum {w : Kw} {R : Rw} {n h : Nat} (hh : h ≤ kn w) : leS (gl w R) (kn w) (kn w) n = sq (fun i => gl w R i (gvS w R n i)) h + leS (gl w R) (kn w) (kn w - h) (lfS w R n h) := by
  induction h with
  | zero => show _ = 0 + leS (gl w R) (kn w) (kn w - 0) n; rw [Nat.sub_zero]; grind
  | succ h ih =>
    rw [ih (by omega), leS_s (by omega)]
    show _ = (sq (fun i => gl w R i (gvS w R n i)) h + gl w R h (gvS w R n h)) + leS (gl w R) (kn w) (kn w - (h + 1)) (lfS w R n h - ow w R h (lfS w R n h))
    show _ + (gl w R h (gvS w R n h) + leS (gl w R) (kn w) (kn w - (h + 1)) (lfS w R n h - ow w R h (lfS w R n h))) = _
    grind
theorem sq_sub {a b : Nat → Int32} {n : Nat} : sq (fun i => a i - b i) n = sq a n - sq b n := by
  induction n with
  | zero => show (0 : Int32) = 0 - 0; decide
  | succ n ih =>
    show sq (fun i => a i - b i) n + (a n - b n) = (sq a n + a n) - (sq b n + b n)
    rw [ih]; grind
theorem sq_ext {a b : Nat → Int32} {n : Nat} (h : ∀ i, i < n → a i = b i) : sq a n = sq b n := by
  induction n with
  | zero => rfl
  | succ n ih =>
    show sq a n + a n = sq b n + b n
    rw [ih (fun i hi => h i (by omega)), h n (by omega)]
theorem dS_sum {w : Kw} {R : Rw} {n : Nat} (hn : kn w ≤ 6) : sq (fun h => dS w R n (12 + h)) (kn w) = sq (fun h => R (12 + h)) (kn w) - leS (gl w R) (kn w) (kn w) n := by
  rw [sq_ext (b := fun h => R (12 + h) - gl w R h (gvS w R n h)) (fun h hh => dS_kept hn hh), sq_sub, leS_sum (Nat.le_refl _), Nat.sub_self]
  show _ = _ - (_ + 0)
  grind
theorem sq_z6 {g : Nat → Int32} {m : Nat} (hm : m ≤ 6) (h : ∀ i, m ≤ i → i < 6 → g i = 0) : sq g 6 = sq g m := by
  have : ∀ n, m + n ≤ 6 → sq g (m + n) = sq g m := by
    intro n
    induction n with
    | zero => intro _; rfl
    | succ n ih => intro hn; show sq g (m + n) + g (m + n) = _; rw [ih (by omega), h _ (by omega) (by omega)]; grind
  have := this (6 - m) (by omega)
  rw [show m + (6 - m) = 6 by omega] at this
  exact this
theorem sumRq_c {μ : Mem} {q : Nat} {pan R : Rw} (hS : SR μ q pan R) : fX7_sumOf q 3 μ = some (sq (fun h => R (12 + h)) 6) := by
  rw [show fX7_sumOf q 3 μ = fX7_sumOf q (nI 3) μ from rfl, sumOf_c (by omega)]
  have := hS.2.1
  simp only [sq]
  have e0 := this 0 3 (by omega) (by omega) (by omega)
  have e1 := this 1 3 (by omega) (by omega) (by omega)
  have e2 := this 2 3 (by omega) (by omega) (by omega)
  have e3 := this 3 3 (by omega) (by omega) (by omega)
  have e4 := this 4 3 (by omega) (by omega) (by omega)
  have e5 := this 5 3 (by omega) (by omega) (by omega)
  simp only [Nat.mul_zero, Nat.zero_add, Nat.reduceMul, Nat.mul_one, Nat.reduceAdd, Nat.reduceSub] at e0 e1 e2 e3 e4 e5 ⊢
  rw [e0, e1, e2, e3, e4, e5]
  congr 1
  grind
theorem burnGiven_c {w : Kw} {R : Rw} {μ : Mem} {q hn q2 q3 n : Nat} (hq : Sq q hn) (hQ : QC w μ) (h23 : (q2 = 24 ∧ q3 = 26) ∨ (q2 = 26 ∧ q3 = 28)) (hS : SR μ q2 (kp w) R) (hR : RG w R) (hn1 : n ≤ 30) (h5 : μ.1 q 5 = nI (kn w)) (hg : ∀ h, h < kn w → μ.1 (q + 18) h = nI (gvS w R n h)) : Wo (fX6_burnGiven q hn 17 q2 q3 μ) (fun s => SR s q3 (kp w) (dS w R n) ∧ Fs q3 μ s) := by
  have hq2 := Sq_q hq
  have hn6 := hQ.1
  unfold fX6_burnGiven
  rw [Wo_b1]
  refine Wo_mono (copy_c (q := q3) (q1 := q2) (by omega) (by omega) (by omega)) ?_
  rintro s0 ⟨k1, k2, k3, k4, _⟩
  refine lp0 (fun n' x s => fX6_burnGiven_l8 _ q hn 17 q2 q3 n' x s) (kn w) (by omega) (fun i s => SR s q3 (kp w) (bS w R n i) ∧ Fs q3 μ s) _ s0 ⟨SR_copy hS k3 k4, fun j a b c => k1 j a b, k2⟩ ?_ ?_
  · rintro n' i s hi ⟨i1, i2⟩ hrec
    show Wo (fX6_burnGiven_s8 _ _ _ _ _ _ _ _ _) _
    unfold fX6_burnGiven_s8
    have e5 : s.1 q 5 = nI (kn w) := by rw [i2.1 q (by omega) (by omega) (by omega)]; exact h5
    have eg : s.1 (q + 18) i = nI (gvS w R n i) := by rw [i2.1 _ (by omega) (by omega) (by omega)]; exact hg i hi
    have hgl := @gvS_le w R n i
    rw [e5, if_neg (by simp (disch := omega) only [L_add, L_add2, L_mul, L_mul2, L_sub, nI_add, pk_mul, pk_sub, L_le, L_le2, L_lt, L_lt2, L_eq, L_eq2, nI_leI, nI_ltI, nI_eq, nI_clamp, ix_nI, ix_lit, L_cl]; omega), ix_nI (by omega) (by omega), gd_true, nI_clamp (by omega), eg, Wo_b1]
    refine Wo_mono (burnIn_c (QC_Fs hQ (by omega) i2) (by omega) i1 (RG_bS hR (by omega)) (by omega) (by omega)) ?_
    rintro s1 ⟨j1, j2, _⟩
    rw [nI_1]
    exact hrec s1 ⟨j1, Fs_tr i2 j2⟩
  · rintro n' s ⟨i1, i2⟩
    show Wo (fX6_burnGiven_s8 _ _ _ _ _ _ _ _ _) _
    unfold fX6_burnGiven_s8
    have e5 : s.1 q 5 = nI (kn w) := by rw [i2.1 q (by omega) (by omega) (by omega)]; exact h5
    rw [e5, if_pos (by simp (disch := omega) only [L_add, L_add2, L_mul, L_mul2, L_sub, nI_add, pk_mul, pk_sub, L_le, L_le2, L_lt, L_lt2, L_eq, L_eq2, nI_leI, nI_ltI, nI_eq, nI_clamp, ix_nI, ix_lit, L_cl]; omega), Wo_b1]
    refine Wo_mono (passDay_c (QC_Fs hQ (by omega) i2) (by omega) i1 (RG_bS hR hn6)) ?_
    rintro s1 ⟨j1, j2, j3⟩
    rw [bd_eq, Wo_some, j1.2.2, sPs_ne (fun _ _ => by omega)]
    exact ⟨SR_day j1 _, Fs_tr i2 (Fs_tr j2 Fs_obj)⟩
theorem TB_fr {w : Kw} {R : Rw} {q n : Nat} {μ μ' : Mem} (hn6 : kn w ≤ 6) (h : TB w R q n μ) (hf : ∀ j, q ≤ j → j ≤ q + 17 → μ'.1 j = μ.1 j) : TB w R q n μ' :=
  ⟨by rw [hf q (by omega) (by omega)]; exact h.1, fun x hx k hk => by rw [hf _ (by omega) (by omega)]; exact h.2.1 x hx k hk, fun x hx k hk => by rw [hf _ (by omega) (by omega)]; exact h.2.2 x hx k hk⟩
def Fp (μ μ' : Mem) : Prop := (∀ j, j ≠ 23 → ¬ (28 ≤ j ∧ j ≤ 29) → ¬ (157 ≤ j ∧ j ≤ 176) → μ'.1 j = μ.1 j) ∧ μ'.2 = μ.2 ∧ μ'.1 158 0 = μ.1 158 0
theorem Fp_tr {a b c : Mem} (h : Fp a b) (h2 : Fp b c) : Fp a c := ⟨fun j x y z => (h2.1 j x y z).trans (h.1 j x y z), h2.2.1.trans h.2.1, h2.2.2.trans h.2.2⟩
theorem Fp_KC {μ μ' : Mem} (h : Fp μ μ') : KC μ μ' := ⟨fun j a b c d => h.1 j a (by omega) (by omega), h.2.1, by rw [h.1 120 (by omega) (by omega) (by omega)], by rw [h.1 139 (by omega) (by omega) (by omega)], h.2.2⟩
/-- what is kept by a plan -/
def kp3 (w : Kw) (R : Rw) (b c : Nat) : Int32 := sq (fun h => dS w (dS w R b) c (12 + h)) (kn w)
theorem kept_c {w : Kw} {R : Rw} {μ : Mem} {na b c : Nat} (hK : KW w) (hQ : QC w μ) (hm : MoE μ) (hS : SR μ 26 (kp w) R) (hR : RG w R) (hz : ∀ h, kn w ≤ h → h < 6 → R (12 + h) = 0) (hna : na ≤ 10) (ht : TB w R 139 na μ) (hb : b ≤ na) (hc : c ≤ 10) : Wo (fX11_keptByPlan (nI b) (nI c) μ) (fun p => p.1 = kp3 w R b c ∧ Fp μ p.2) := by
  have hn6 := hQ.1
  have q1 : Sq 139 11 := Or.inr (Or.inl ⟨rfl, rfl⟩)
  have q2 : Sq 158 11 := Or.inr (Or.inr ⟨rfl, rfl⟩)
  unfold fX11_keptByPlan
  rw [Wo_b1]
  refine Wo_mono (shareOut_c q1 (by omega) hm hn6 ht hb) ?_
  rintro s1 ⟨k1, k2, k3⟩
  have f1 : Fp μ s1 := ⟨fun j a _ d => k2 j (by omega), k3, by rw [k2 158 (by omega)]⟩
  have hQ1 := QC_KC hQ (Fp_KC f1)
  rw [Wo_b1]
  refine Wo_mono (burnGiven_c (R := R) q1 hQ1 (Or.inr ⟨rfl, rfl⟩) (SR_fr hS (k2 26 (by omega)) (k2 27 (by omega))) hR (by omega) (by rw [k2 139 (by omega)]; exact ht.1) k1) ?_
  rintro s2 ⟨j1, j2⟩
  have f2 : Fp μ s2 := Fp_tr f1 ⟨fun j a b _ => j2.1 j (by omega) (by omega) a, j2.2, by rw [j2.1 158 (by omega) (by omega) (by omega)]⟩
  have hQ2 := QC_KC hQ (Fp_KC f2)
  have hm2 := MO_MqE hm (Fp_KC f2).2.2
  rw [Wo_b1]
  refine Wo_mono (weigh_c (R := dS w R b) q2 (n := c) (by omega) hQ2 hm2 (Or.inr (Or.inr rfl)) j1 (RG_dS hK hR)) ?_
  rintro s3 ⟨l1, l2⟩
  have f3 : Fp μ s3 := Fp_tr f2 ⟨fun j a b d => l2.1 j a (by omega), l2.2.1, l2.2.2⟩
  have hm3 := MO_MqE hm (Fp_KC f3).2.2
  have s3S : SR s3 28 (kp w) (dS w R b) := SR_fr j1 (l2.1 28 (by omega) (by omega)) (l2.1 29 (by omega) (by omega))
  rw [sumRq_c s3S, b1_some, least_c q2 (by omega) hm3 l1 (Nat.le_refl _), b1_some, Wo_some]
  refine ⟨?_, f3⟩
  dsimp only
  unfold kp3
  rw [dS_sum hn6, sq_z6 hn6 (fun i h1 h2 => dS_tail hn6 h1 h2 (hz i h1 h2))]
