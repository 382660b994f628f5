def MR (ν : Mem) (R : Nat → Int32) : Prop := ∀ k, k < 39 → ν.1 32 k = R k
def Fm (ν ν' : Mem) : Prop := (∀ j, j ≠ 0 → j ≠ 29 → j ≠ 30 → j ≠ 32 → j ≠ 33 → j ≠ 34 → ν'.1 j = ν.1 j) ∧ (∀ k, k ≠ 46 → ν'.1 0 k = ν.1 0 k) ∧ ν'.2 = ν.2
theorem Fm_rfl {ν : Mem} : Fm ν ν := ⟨fun _ _ _ _ _ _ _ => rfl, fun _ _ => rfl, rfl⟩
theorem Fm_tr {a b c : Mem} (h : Fm a b) (h2 : Fm b c) : Fm a c := ⟨fun j h0 h1 h3 h4 h5 h6 => (h2.1 j h0 h1 h3 h4 h5 h6).trans (h.1 j h0 h1 h3 h4 h5 h6), fun k hk => (h2.2.1 k hk).trans (h.2.1 k hk), h2.2.2.trans h.2.2⟩
theorem Fm_up {ν : Mem} {j k : Nat} {v : Int32} (h : j = 29 ∨ j = 30 ∨ j = 32 ∨ j = 33 ∨ j = 34) : Fm ν (upI ν j k v) := ⟨fun i _ _ _ _ _ _ => rd_Ii (by omega), fun i _ => by rw [rd_Ii (by omega)], rfl⟩
theorem Fm_up0 {ν : Mem} {v : Int32} : Fm ν (upI ν 0 46 v) := ⟨fun i _ _ _ _ _ _ => rd_Ii (by omega), fun i _ => by rw [rd_Ik (by omega)], rfl⟩
def dfl (k : Nat) (v : Nat → Int32) : Int32 := if k = 0 then v 1 + 1 else if k = 1 then 5 else 1
/-- what the laws of the side that goes on rest on -/
def Own (ν ν' : Mem) : Prop := ∀ L, L < 2 → ν.1 0 18 = nI L → (∀ j, 19 ≤ j → j ≤ 20 → ∀ i, 4 * L ≤ i → i < 4 * L + 4 → ν'.1 j i = ν.1 j i) ∧ (∀ j, 21 ≤ j → j ≤ 25 → ∀ i, 130 * L ≤ i → i < 130 * L + 130 → ν'.1 j i = ν.1 j i) ∧ (∀ j, 26 ≤ j → j ≤ 27 → ∀ i, 420 * L ≤ i → i < 420 * L + 420 → ν'.1 j i = ν.1 j i)
theorem Own_all {ν ν' : Mem} (h : ∀ j, 19 ≤ j → j ≤ 27 → ν'.1 j = ν.1 j) : Own ν ν' := fun _ _ _ => ⟨fun j a b i _ _ => by rw [h j (by omega) (by omega)], fun j a b i _ _ => by rw [h j (by omega) (by omega)], fun j a b i _ _ => by rw [h j (by omega) (by omega)]⟩
theorem Own_tr {a b c : Mem} (h : Own a b) (h0 : b.1 0 18 = a.1 0 18) (h2 : Own b c) : Own a c := by
  intro L hL e
  obtain ⟨p1, p2, p3⟩ := h L hL e
  obtain ⟨q1, q2, q3⟩ := h2 L hL (h0.trans e)
  exact ⟨fun j x y i u v => (q1 j x y i u v).trans (p1 j x y i u v), fun j x y i u v => (q2 j x y i u v).trans (p2 j x y i u v), fun j x y i u v => (q3 j x y i u v).trans (p3 j x y i u v)⟩
def LawM (ν : Mem) (LV : Nat → (Nat → Int32) → Int32) : Prop := ∀ ν' : Mem, Own ν ν' → ν'.1 0 18 = ν.1 0 18 → ∀ k : Nat, k < 4 → ∀ v plain, (∀ i, i < 9 → ν'.1 29 i = v i) → plain = dfl k v → Wo (fX12_lawTells (nI k) plain ν') (fun p => p.1 = LV k v ∧ (∀ j, j ≠ 0 → j ≠ 30 → p.2.1 j = ν'.1 j) ∧ (∀ i, i ≠ 46 → p.2.1 0 i = ν'.1 0 i) ∧ p.2.2 = ν'.2)
def QL (w : Kw) (L : Nat) (ν : Mem) : Prop := L < 2 ∧ kn w ≤ 6 ∧ ν.1 0 18 = nI L ∧ ν.1 9 L = nI (kn w) ∧ (∀ h, h < kn w → ν.1 10 (6 * L + h) = kp w h ∧ ν.1 13 (6 * L + h) = kx w h ∧ ν.1 14 (6 * L + h) = ky w h) ∧ ν.1 16 L = kroof w ∧ ν.1 17 L = khail w ∧ ν.1 18 L = kseed w ∧ LawM ν (kLV w)
theorem LawM_own {ν ν' : Mem} {LV : Nat → (Nat → Int32) → Int32} (h : LawM ν LV) (hf : Own ν ν') (h0 : ν'.1 0 18 = ν.1 0 18) : LawM ν' LV :=
  fun m hm h1 => h m (Own_tr hf h0 hm) (h1.trans h0)
theorem LawM_fr {ν ν' : Mem} {LV : Nat → (Nat → Int32) → Int32} (h : LawM ν LV) (hf : ∀ j, 19 ≤ j → j ≤ 27 → ν'.1 j = ν.1 j) (h0 : ν'.1 0 18 = ν.1 0 18) : LawM ν' LV := LawM_own h (Own_all hf) h0
theorem QL_fr {w : Kw} {L : Nat} {ν ν' : Mem} (h : QL w L ν) (hf : ∀ j, 9 ≤ j → j ≤ 27 → ν'.1 j = ν.1 j) (h0 : ν'.1 0 18 = ν.1 0 18) : QL w L ν' := by
  obtain ⟨h1, h2, h3, h4, h5, h6, h7, h8, h9⟩ := h
  refine ⟨h1, h2, h0.trans h3, ?_, ?_, ?_, ?_, ?_, LawM_fr h9 (fun j a b => hf j (by omega) b) h0⟩
  · rw [hf 9 (by omega) (by omega)]; exact h4
  · rw [hf 10 (by omega) (by omega), hf 13 (by omega) (by omega), hf 14 (by omega) (by omega)]; exact h5
  · rw [hf 16 (by omega) (by omega)]; exact h6
  · rw [hf 17 (by omega) (by omega)]; exact h7
  · rw [hf 18 (by omega) (by omega)]; exact h8
theorem QL_Fm {w : Kw} {L : Nat} {ν ν' : Mem} (h : QL w L ν) (hf : Fm ν ν') : QL w L ν' := QL_fr h (fun j a b => hf.1 j (by omega) (by omega) (by omega) (by omega) (by omega) (by omega)) (hf.2.1 18 (by omega))
theorem many_m {w : Kw} {L : Nat} {ν : Mem} (h : QL w L ν) : fX12_many ν = some (nI (kn w)) := by
  unfold fX12_many
  have h1 := h.1
  rw [h.2.2.1]
  simp (disch := omega) only [L_add, L_add2, L_mul, L_mul2, L_sub, nI_add, pk_mul, pk_sub, L_le, L_le2, L_lt, L_lt2, L_eq, L_eq2, nI_leI, nI_ltI, nI_eq, nI_clamp, ix_nI, ix_lit, L_cl, Wo_b1, Wo_b2, Wo_gd, Wo_some, Wo_bd, b1_some, b2_some, gd_true, bd_eq, true_and]
  rw [h.2.2.2.1]
theorem panesAt_m {w : Kw} {L h : Nat} {ν : Mem} (hQ : QL w L ν) (hh : h < kn w) : fX12_panesAt (nI h) ν = some (kp w h) := by
  unfold fX12_panesAt
  have h1 := hQ.1
  have h2 := hQ.2.1
  rw [hQ.2.2.1]
  simp (disch := omega) only [L_add, L_add2, L_mul, L_mul2, L_sub, nI_add, pk_mul, pk_sub, L_le, L_le2, L_lt, L_lt2, L_eq, L_eq2, nI_leI, nI_ltI, nI_eq, nI_clamp, ix_nI, ix_lit, L_cl, Wo_b1, Wo_b2, Wo_gd, Wo_some, Wo_bd, b1_some, b2_some, gd_true, bd_eq, true_and]
  rw [(hQ.2.2.2.2.1 h hh).1]
def Fl (ν ν' : Mem) : Prop := (∀ j, j ≠ 0 → j ≠ 29 → j ≠ 30 → ν'.1 j = ν.1 j) ∧ (∀ k, k ≠ 46 → ν'.1 0 k = ν.1 0 k) ∧ ν'.2 = ν.2
theorem Fl_Fm {ν ν' : Mem} (h : Fl ν ν') : Fm ν ν' := ⟨fun j a b c _ _ _ => h.1 j a b c, h.2.1, h.2.2⟩
def PV (ν : Mem) (R : Nat → Int32) (v : Int32) (p : Int32 × Mem) : Prop := p.1 = v ∧ MR p.2 R ∧ Fl ν p.2
theorem lawOf_m {w : Kw} {L h k : Nat} {ν : Mem} {R : Nat → Int32} {plain most : Int32} (hQ : QL w L ν) (hM : MR ν R) (hh : h < kn w) (hk : k < 4) (hp : plain = dfl k (HV (kp w) R h)) : Wo (fX12_lawOf (nI h) (nI k) plain most ν) (PV ν R (cl 0 most (kLV w k (HV (kp w) R h)))) := by
  have h2 := hQ.2.1
  unfold fX12_lawOf
  rw [panesAt_m hQ hh, b1_some, bd_eq]
  have e : ∀ (K : Mem → Option (Int32 × Mem)) (n i : Nat) (s : Mem), i < 4 → fX12_lawOf_l14 K (nI h) (n + 1) (nI i) s = fX12_lawOf_l14 K (nI h) n (nI (i + 1)) (upI s 29 (1 + i) (s.1 32 (6 * i + h))) := by
    intro K n i s hi
    show fX12_lawOf_s14 _ _ _ _ _ = _
    unfold fX12_lawOf_s14
    simp (disch := omega) only [L_add, L_add2, L_mul, L_mul2, L_sub, nI_add, pk_mul, pk_sub, L_le, L_le2, L_lt, L_lt2, L_eq, L_eq2, nI_leI, nI_ltI, nI_eq, nI_clamp, ix_nI, ix_lit, L_cl, Wo_b1, Wo_b2, Wo_gd, Wo_some, Wo_bd, b1_some, b2_some, gd_true, bd_eq, true_and, if_pos, if_neg]
  have e4 : ∀ (K : Mem → Option (Int32 × Mem)) (n : Nat) (s : Mem), fX12_lawOf_l14 K (nI h) (n + 1) (nI 4) s = K s := by
    intro K n s
    show fX12_lawOf_s14 _ _ _ _ _ = _
    unfold fX12_lawOf_s14
    rw [if_pos (by decide)]
  rw [show (0 : Int32) = nI 0 from rfl]
  unfold FU
  rw [e _ _ _ _ (by omega), e _ _ _ _ (by omega), e _ _ _ _ (by omega), e _ _ _ _ (by omega), e4]
  simp (disch := omega) only [L_add, L_add2, L_mul, L_mul2, L_sub, nI_add, pk_mul, pk_sub, L_le, L_le2, L_lt, L_lt2, L_eq, L_eq2, nI_leI, nI_ltI, nI_eq, nI_clamp, ix_nI, ix_lit, L_cl, Wo_b1, Wo_b2, Wo_gd, Wo_some, Wo_bd, b1_some, b2_some, gd_true, bd_eq, true_and, rd_Is, rd_Ii, rd_Ik, rd_I2, Nat.reduceMul, Nat.reduceAdd, Nat.zero_add, Nat.mul_zero, Nat.mul_one]
  refine Wo_mono (hQ.2.2.2.2.2.2.2.2 _ (Own_all (fun j a b => ?_)) ?_ k hk (HV (kp w) R h) plain ?_ hp) ?_
  · simp (disch := omega) only [rd_Ii]
  · simp (disch := omega) only [rd_Ii]
  · intro i hi
    rw [hM 36 (by omega), hM (24 + h) (by omega), hM (30 + h) (by omega), hM h (by omega), hM (6 + h) (by omega), hM (12 + h) (by omega), hM (18 + h) (by omega)]
    match i, hi with
    | 0, _ => simp (disch := omega) only [rd_Is, rd_Ik]; rfl
    | 1, _ => simp (disch := omega) only [rd_Is, rd_Ik]; unfold HV; simp only [Nat.reduceLT, Nat.reduceSub, if_true, Nat.mul_zero, Nat.zero_add, Nat.one_ne_zero, if_false]
    | 2, _ => simp (disch := omega) only [rd_Is, rd_Ik]; rfl
    | 3, _ => simp (disch := omega) only [rd_Is, rd_Ik]; rfl
    | 4, _ => simp (disch := omega) only [rd_Is, rd_Ik]; rfl
    | 5, _ => simp (disch := omega) only [rd_Is, rd_Ik]; rfl
    | 6, _ => simp (disch := omega) only [rd_Is, rd_Ik]; rfl
    | 7, _ => simp (disch := omega) only [rd_Is, rd_Ik]; rfl
    | 8, _ => simp (disch := omega) only [rd_Is, rd_Ik]; rfl
  · rintro ⟨r, ν'⟩ ⟨h1, h3, h4, h5⟩
    dsimp only at h1 h3 h4 h5
    rw [cl_within, Wo_some]
    refine ⟨by rw [h1], ?_, ?_, ?_, ?_⟩
    · intro i hi
      show ν'.1 32 i = _
      rw [h3 32 (by omega) (by omega)]
      simp (disch := omega) only [rd_Ii]
      exact hM i hi
    · intro j a b c
      show ν'.1 j = _
      rw [h3 j a c]
      simp (disch := omega) only [rd_Ii]
    · intro i hi
      show ν'.1 0 i = _
      rw [h4 i hi]
      simp (disch := omega) only [rd_Ii]
    · exact h5
theorem fadesOf_m {w : Kw} {L h : Nat} {ν : Mem} {R : Nat → Int32} (hQ : QL w L ν) (hM : MR ν R) (hh : h < kn w) : Wo (fX12_fadesOf (nI h) ν) (PV ν R (sF w R h)) := by
  have h2 := hQ.2.1
  unfold fX12_fadesOf
  simp (disch := omega) only [L_add, L_add2, L_mul, L_mul2, L_sub, nI_add, pk_mul, pk_sub, L_le, L_le2, L_lt, L_lt2, L_eq, L_eq2, nI_leI, nI_ltI, nI_eq, nI_clamp, ix_nI, ix_lit, L_cl, Wo_b1, Wo_b2, Wo_gd, Wo_some, Wo_bd, b1_some, b2_some, gd_true, bd_eq, true_and]
  rw [hM (12 + h) (by omega)]
  refine Wo_mono (lawOf_m (k := 2) hQ hM hh (by omega) rfl) ?_
  rintro ⟨r, ν'⟩ h; exact h
theorem warmsOf_m {w : Kw} {L h : Nat} {ν : Mem} {R : Nat → Int32} (hQ : QL w L ν) (hM : MR ν R) (hh : h < kn w) : Wo (fX12_warmsOf (nI h) ν) (PV ν R (sW w R h)) := by
  unfold fX12_warmsOf
  simp (disch := omega) only [Wo_b1, Wo_b2, Wo_gd, Wo_some, Wo_bd, b1_some, b2_some, gd_true, bd_eq, true_and]
  refine Wo_mono (lawOf_m (k := 1) hQ hM hh (by omega) rfl) ?_
  rintro ⟨r, ν'⟩ h; exact h
theorem mendsOf_m {w : Kw} {L h : Nat} {ν : Mem} {R : Nat → Int32} (hQ : QL w L ν) (hM : MR ν R) (hh : h < kn w) : Wo (fX12_mendsOf (nI h) ν) (PV ν R (sM w R h)) := by
  unfold fX12_mendsOf
  simp (disch := omega) only [Wo_b1, Wo_b2, Wo_gd, Wo_some, Wo_bd, b1_some, b2_some, gd_true, bd_eq, true_and]
  refine Wo_mono (lawOf_m (k := 3) hQ hM hh (by omega) rfl) ?_
  rintro ⟨r, ν'⟩ h; exact h
theorem coolsOf_m {w : Kw} {L h : Nat} {ν : Mem} {R : Nat → Int32} (hQ : QL w L ν) (hM : MR ν R) (hh : h < kn w) : Wo (fX12_coolsOf (nI h) ν) (PV ν R (sC w R h)) := by
  have h2 := hQ.2.1
  unfold fX12_coolsOf
  simp (disch := omega) only [L_add, L_add2, L_mul, L_mul2, L_sub, nI_add, pk_mul, pk_sub, L_le, L_le2, L_lt, L_lt2, L_eq, L_eq2, nI_leI, nI_ltI, nI_eq, nI_clamp, ix_nI, ix_lit, L_cl, Wo_b1, Wo_b2, Wo_gd, Wo_some, Wo_bd, b1_some, b2_some, gd_true, bd_eq, true_and]
  rw [hM h (by omega)]
  refine Wo_mono (lawOf_m (k := 0) hQ hM hh (by omega) ?_) ?_
  · unfold dfl HV; simp only [Nat.reduceLT, Nat.reduceSub, if_true, Nat.mul_zero, Nat.zero_add, Nat.one_ne_zero, if_false]
  rintro ⟨r, ν'⟩ h; exact h
theorem chillOf_m {w : Kw} {L h : Nat} {ν : Mem} {R : Nat → Int32} (hQ : QL w L ν) (hM : MR ν R) (hh : h < kn w) : Wo (fX12_chillOf (nI h) ν) (PV ν R (sCh w R h)) := by
  have h2 := hQ.2.1
  unfold fX12_chillOf
  simp (disch := omega) only [L_add, L_add2, L_mul, L_mul2, L_sub, nI_add, pk_mul, pk_sub, L_le, L_le2, L_lt, L_lt2, L_eq, L_eq2, nI_leI, nI_ltI, nI_eq, nI_clamp, ix_nI, ix_lit, L_cl, Wo_b1, Wo_b2, Wo_gd, Wo_some, Wo_bd, b1_some, b2_some, gd_true, bd_eq, true_and]
  refine Wo_mono (coolsOf_m hQ hM hh) ?_
  rintro ⟨r, ν'⟩ ⟨h1, h3, h4⟩
  dsimp only at h1 h3 h4
  refine ⟨?_, h3, h4⟩
  dsimp only
  rw [h3 _ (by omega), h1]; rfl
