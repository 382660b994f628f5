def NR (ν : Mem) (R : Nat → Int32) : Prop := ∀ k, k < 39 → ν.1 31 k = R k
theorem copies_m {w : Kw} {L : Nat} {ν : Mem} {R : Nat → Int32} (hQ : QL w L ν) (hN : NR ν R) : Wo (fX12_copies ν) (fun ν' => MR ν' R ∧ (∀ j, j ≠ 0 → j ≠ 32 → ν'.1 j = ν.1 j) ∧ (∀ k, k ≠ 49 → k ≠ 50 → ν'.1 0 k = ν.1 0 k) ∧ ν'.2 = ν.2 ∧ ν'.1 0 49 = kseed w ∧ ν'.1 0 50 = 0) := by
  have h1 := hQ.1
  unfold fX12_copies
  refine lp0 (fun n' x s => fX12_copies_l2 _ n' x s) 39 (by omega) (fun i s => (∀ k, k < i → s.1 32 k = R k) ∧ (∀ j, j ≠ 32 → s.1 j = ν.1 j) ∧ s.2 = ν.2) _ ν ⟨fun k hk => by omega, fun _ _ => rfl, rfl⟩ ?_ ?_
  · rintro n' i s hi ⟨i1, i2, i3⟩ hrec
    show Wo (fX12_copies_s2 _ _ _ _) _
    unfold fX12_copies_s2
    simp (disch := omega) only [L_add, L_add2, L_mul, L_mul2, L_sub, nI_add, pk_mul, pk_sub, L_le, L_le2, L_lt, L_lt2, L_eq, L_eq2, nI_leI, nI_ltI, nI_eq, nI_clamp, ix_nI, ix_lit, L_cl, Wo_b1, Wo_b2, Wo_gd, Wo_some, Wo_bd, b1_some, b2_some, gd_true, bd_eq, true_and, if_pos, if_neg]
    refine hrec _ ⟨fun k hk => ?_, fun j hj => by rw [rd_Ii hj]; exact i2 j hj, i3⟩
    by_cases he : k = i
    · subst he; rw [rd_Is, i2 31 (by omega)]; exact hN k (by omega)
    · rw [rd_Ik he]; exact i1 k (by omega)
  · rintro n' s ⟨i1, i2, i3⟩
    show Wo (fX12_copies_s2 _ _ _ _) _
    unfold fX12_copies_s2
    rw [if_pos (by decide)]
    have e0 : s.1 0 18 = nI L := by rw [i2 0 (by omega)]; exact hQ.2.2.1
    simp (disch := omega) only [e0, L_add, L_add2, L_mul, L_mul2, L_sub, nI_add, pk_mul, pk_sub, L_le, L_le2, L_lt, L_lt2, L_eq, L_eq2, nI_leI, nI_ltI, nI_eq, nI_clamp, ix_nI, ix_lit, L_cl, Wo_b1, Wo_b2, Wo_gd, Wo_some, Wo_bd, b1_some, b2_some, gd_true, bd_eq, true_and]
    refine ⟨?_, ?_, ?_, i3, ?_, ?_⟩
    · intro k hk; simp (disch := omega) only [rd_Ii]; exact i1 k hk
    · intro j a b; simp (disch := omega) only [rd_Ii]; exact i2 j b
    · intro k a b; simp (disch := omega) only [rd_Ik]; rw [i2 0 (by omega)]
    · simp (disch := omega) only [rd_Ik, rd_Is]; rw [i2 18 (by omega)]; exact hQ.2.2.2.2.2.2.2.1
    · simp (disch := omega) only [rd_Is]
/-- what scratch work leaves alone -/
def Fc (ν ν' : Mem) : Prop := (∀ j, j ≠ 0 → ¬ (29 ≤ j ∧ j ≤ 30) → ¬ (32 ≤ j ∧ j ≤ 34) → ¬ (36 ≤ j ∧ j ≤ 43) → ν'.1 j = ν.1 j) ∧ (∀ k, k ≠ 46 → k ≠ 49 → k ≠ 50 → ν'.1 0 k = ν.1 0 k) ∧ ν'.2 = ν.2
theorem Fc_rfl {ν : Mem} : Fc ν ν := ⟨fun _ _ _ _ _ => rfl, fun _ _ _ _ => rfl, rfl⟩
theorem Fc_tr {a b c : Mem} (h : Fc a b) (h2 : Fc b c) : Fc a c := ⟨fun j h0 h1 h3 h4 => (h2.1 j h0 h1 h3 h4).trans (h.1 j h0 h1 h3 h4), fun k a b c => (h2.2.1 k a b c).trans (h.2.1 k a b c), h2.2.2.trans h.2.2⟩
theorem Fm_Fc {ν ν' : Mem} (h : Fm ν ν') : Fc ν ν' := ⟨fun j a b c d => h.1 j a (by omega) (by omega) (by omega) (by omega) (by omega), fun k a _ _ => h.2.1 k a, h.2.2⟩
theorem Fl_Fc {ν ν' : Mem} (h : Fl ν ν') : Fc ν ν' := Fm_Fc (Fl_Fm h)
theorem Fc_up {ν : Mem} {j k : Nat} {v : Int32} (h : (29 ≤ j ∧ j ≤ 30) ∨ (32 ≤ j ∧ j ≤ 34) ∨ (36 ≤ j ∧ j ≤ 43)) : Fc ν (upI ν j k v) := ⟨fun i _ _ _ _ => rd_Ii (by omega), fun i _ _ _ => by rw [rd_Ii (by omega)], rfl⟩
theorem Fc_up0 {ν : Mem} {k : Nat} {v : Int32} (h : k = 46 ∨ k = 49 ∨ k = 50) : Fc ν (upI ν 0 k v) := ⟨fun i _ _ _ _ => rd_Ii (by omega), fun i _ _ _ => by rw [rd_Ik (by omega)], rfl⟩
theorem QL_Fc {w : Kw} {L : Nat} {ν ν' : Mem} (h : QL w L ν) (hf : Fc ν ν') : QL w L ν' := QL_fr h (fun j a b => hf.1 j (by omega) (by omega) (by omega) (by omega)) (hf.2.1 18 (by omega) (by omega) (by omega))
theorem NR_Fc {ν ν' : Mem} {R : Nat → Int32} (h : NR ν R) (hf : Fc ν ν') : NR ν' R := by
  intro k hk; rw [hf.1 31 (by omega) (by omega) (by omega) (by omega)]; exact h k hk
theorem NR_Fm {ν ν' : Mem} {R : Nat → Int32} (h : NR ν R) (hf : Fm ν ν') : NR ν' R := NR_Fc h (Fm_Fc hf)
/-- copies, in short -/
theorem copies_s {w : Kw} {L : Nat} {ν : Mem} {R : Nat → Int32} (hQ : QL w L ν) (hN : NR ν R) : Wo (fX12_copies ν) (fun ν' => MR ν' R ∧ Fc ν ν' ∧ ν'.1 0 49 = kseed w ∧ ν'.1 0 50 = 0) :=
  Wo_mono (copies_m hQ hN) (fun _ h => ⟨h.1, ⟨fun j a b c d => h.2.1 j a (by omega), fun k _ a b => h.2.2.1 k a b, h.2.2.2.1⟩, h.2.2.2.2.1, h.2.2.2.2.2⟩)
theorem copiesStill_s {w : Kw} {L : Nat} {ν : Mem} {R : Nat → Int32} (hQ : QL w L ν) (hN : NR ν R) : Wo (fX12_copiesStill ν) (fun ν' => MR ν' R ∧ Fc ν ν' ∧ ν'.1 0 50 = 1) := by
  unfold fX12_copiesStill
  rw [Wo_b1]
  refine Wo_mono (copies_s hQ hN) ?_
  rintro ν' ⟨h1, h2, _, _⟩
  rw [bd_eq, Wo_some]
  exact ⟨MR_fr h1 (rd_Ii (by omega)), Fc_tr h2 (Fc_up0 (by omega)), rd_Is⟩
def sDays (w : Kw) (st : Option Int32) : Nat → (Nat → Int32) → Nat → Int32
  | 0, R => R
  | n + 1, R => sDay w st (sDays w st n R)
theorem RG_Days {w : Kw} {R : Nat → Int32} (hK : KW w) (hR : RG w R) (st : Option Int32) (n : Nat) : RG w (sDays w st n R) := by
  induction n with
  | zero => exact hR
  | succ n ih => exact RG_Day hK ih st
theorem goes_m {w : Kw} {L n : Nat} {ν : Mem} {R : Nat → Int32} {st : Option Int32} (hQ : QL w L ν) (hM : MR ν R) (hst : (ν.1 0 50 = 1 ∧ st = none) ∨ (ν.1 0 50 = 0 ∧ st = some (ν.1 0 49))) (hn : n < 1000) : Wo (fX12_goes (nI n) ν) (fun ν' => MR ν' (sDays w st n R) ∧ Fm ν ν') := by
  unfold fX12_goes
  refine lp0 (fun n' x s => fX12_goes_l2 (nI n) n' x s) n (by omega) (fun i s => MR s (sDays w st i R) ∧ Fm ν s) _ ν ⟨hM, Fm_rfl⟩ ?_ ?_
  · rintro n' i s hi ⟨i1, i2⟩ hrec
    show Wo (fX12_goes_s2 _ _ _ _) _
    unfold fX12_goes_s2
    rw [if_neg (by simp (disch := omega) only [L_add, L_add2, L_mul, L_mul2, L_sub, nI_add, pk_mul, pk_sub, L_le, L_le2, L_lt, L_lt2, L_eq, L_eq2, nI_leI, nI_ltI, nI_eq, nI_clamp, ix_nI, ix_lit, L_cl]; omega), Wo_b1]
    refine Wo_mono (dayGoes_m (st := st) (QL_Fm hQ i2) i1 ?_) ?_
    · rw [i2.2.1 50 (by omega), i2.2.1 49 (by omega)]; exact hst
    rintro ν' ⟨j1, j2⟩
    rw [nI_1]
    exact hrec ν' ⟨j1, Fm_tr i2 j2⟩
  · rintro n' s hI
    show Wo (fX12_goes_s2 _ _ _ _) _
    unfold fX12_goes_s2
    rw [if_pos (by simp (disch := omega) only [L_add, L_add2, L_mul, L_mul2, L_sub, nI_add, pk_mul, pk_sub, L_le, L_le2, L_lt, L_lt2, L_eq, L_eq2, nI_leI, nI_ltI, nI_eq, nI_clamp, ix_nI, ix_lit, L_cl]; omega), Wo_some]
    exact hI
theorem keepsRow_m {ν : Mem} {R : Nat → Int32} (hM : MR ν R) : Wo (fX12_keepsRow ν) (fun ν' => NR ν' R ∧ (∀ j, j ≠ 31 → ν'.1 j = ν.1 j) ∧ ν'.2 = ν.2) := by
  unfold fX12_keepsRow
  refine lp0 (fun n' x s => fX12_keepsRow_l2 n' x s) 39 (by omega) (fun i s => (∀ k, k < i → s.1 31 k = R k) ∧ (∀ j, j ≠ 31 → s.1 j = ν.1 j) ∧ s.2 = ν.2) _ ν ⟨fun k hk => by omega, fun _ _ => rfl, rfl⟩ ?_ ?_
  · rintro n' i s hi ⟨i1, i2, i3⟩ hrec
    show Wo (fX12_keepsRow_s2 _ _ _) _
    unfold fX12_keepsRow_s2
    simp (disch := omega) only [L_add, L_add2, L_mul, L_mul2, L_sub, nI_add, pk_mul, pk_sub, L_le, L_le2, L_lt, L_lt2, L_eq, L_eq2, nI_leI, nI_ltI, nI_eq, nI_clamp, ix_nI, ix_lit, L_cl, Wo_b1, Wo_b2, Wo_gd, Wo_some, Wo_bd, b1_some, b2_some, gd_true, bd_eq, true_and, if_pos, if_neg]
    refine hrec _ ⟨fun k hk => ?_, fun j hj => by rw [rd_Ii hj]; exact i2 j hj, i3⟩
    by_cases he : k = i
    · subst he; rw [rd_Is, i2 32 (by omega)]; exact hM k (by omega)
    · rw [rd_Ik he]; exact i1 k (by omega)
  · rintro n' s hI
    show Wo (fX12_keepsRow_s2 _ _ _) _
    unfold fX12_keepsRow_s2
    rw [if_pos (by decide), Wo_some]
    exact hI
theorem rec49_m {ν : Mem} {R R' : Nat → Int32} {u : Nat} (hN : NR ν R) (hM : MR ν R') (hu : ν.1 0 53 = nI u) (hu2 : u < 40) : Wo (fX12_records_b49 ν) (fun ν' => NR ν' R' ∧ ν'.1 0 53 = nI (u + 1) ∧ (∀ k, k < 39 → ν'.1 35 (39 * u + k) = R k) ∧ (∀ m, m < 39 * u → ν'.1 35 m = ν.1 35 m) ∧ (∀ j, j ≠ 0 → j ≠ 31 → j ≠ 35 → ν'.1 j = ν.1 j) ∧ (∀ k, k ≠ 53 → ν'.1 0 k = ν.1 0 k) ∧ ν'.2 = ν.2) := by
  unfold fX12_records_b49
  refine lp0 (fun n' x s => fX12_records_l51 n' x s) 39 (by omega) (fun i s => (∀ k, k < i → s.1 35 (39 * u + k) = R k) ∧ (∀ m, m < 39 * u → s.1 35 m = ν.1 35 m) ∧ (∀ j, j ≠ 35 → s.1 j = ν.1 j) ∧ s.2 = ν.2) _ ν ⟨fun k hk => by omega, fun _ _ => rfl, fun _ _ => rfl, rfl⟩ ?_ ?_
  · rintro n' i s hi ⟨i1, i2, i3, i4⟩ hrec
    show Wo (fX12_records_s51 _ _ _) _
    unfold fX12_records_s51
    have e0 : s.1 0 53 = nI u := by rw [i3 0 (by omega)]; exact hu
    rw [if_neg (by simp (disch := omega) only [L_add, L_add2, L_mul, L_mul2, L_sub, nI_add, pk_mul, pk_sub, L_le, L_le2, L_lt, L_lt2, L_eq, L_eq2, nI_leI, nI_ltI, nI_eq, nI_clamp, ix_nI, ix_lit, L_cl]; omega)]
    simp (disch := omega) only [e0, L_add, L_add2, L_mul, L_mul2, L_sub, nI_add, pk_mul, pk_sub, L_le, L_le2, L_lt, L_lt2, L_eq, L_eq2, nI_leI, nI_ltI, nI_eq, nI_clamp, ix_nI, ix_lit, L_cl, Wo_b1, Wo_b2, Wo_gd, Wo_some, Wo_bd, b1_some, b2_some, gd_true, bd_eq, true_and]
    refine hrec _ ⟨fun k hk => ?_, fun m hm => by rw [rd_Ik (by omega)]; exact i2 m hm, fun j hj => by rw [rd_Ii hj]; exact i3 j hj, i4⟩
    by_cases he : k = i
    · subst he; rw [rd_Is, i3 31 (by omega)]; exact hN k (by omega)
    · rw [rd_Ik (by omega)]; exact i1 k (by omega)
  · rintro n' s ⟨i1, i2, i3, i4⟩
    show Wo (fX12_records_s51 _ _ _) _
    unfold fX12_records_s51
    have e0 : s.1 0 53 = nI u := by rw [i3 0 (by omega)]; exact hu
    rw [if_pos (by decide), bd_eq, Wo_b1]
    refine Wo_mono (keepsRow_m (R := R') ?_) ?_
    · intro k hk; rw [rd_Ii (by omega), i3 32 (by omega)]; exact hM k hk
    · rintro ν' ⟨j1, j2, j3⟩
      rw [Wo_some]
      refine ⟨j1, ?_, ?_, ?_, ?_, ?_, ?_⟩
      · rw [j2 0 (by omega), rd_Is, e0, nI_1]
      · intro k hk; rw [j2 35 (by omega), rd_Ii (by omega)]; exact i1 k hk
      · intro k hk; rw [j2 35 (by omega), rd_Ii (by omega)]; exact i2 k hk
      · intro j a b c; rw [j2 j b, rd_Ii a]; exact i3 j c
      · intro k a; rw [j2 0 (by omega), rd_Ik a, i3 0 (by omega)]
      · exact j3.trans i4
abbrev Rw : Type := Nat → Int32
def psh (R : Rw) (hs : List Rw) : List Rw := (R :: hs).take 40
theorem psh_get {R R1 : Rw} {hs : List Rw} {i : Nat} (h : (psh R hs)[i]? = some R1) : (i = 0 ∧ R1 = R) ∨ ∃ j, i = j + 1 ∧ j + 1 < 40 ∧ hs[j]? = some R1 := by
  unfold psh at h
  rw [List.getElem?_take] at h
  split at h
  · cases i with
    | zero => left; simp at h; exact ⟨rfl, h.symm⟩
    | succ j => right; exact ⟨j, rfl, by omega, by simpa using h⟩
  · cases h
theorem psh_len {R : Rw} {hs : List Rw} (h : hs.length ≤ 40) : (psh R hs).length = if hs.length = 40 then 40 else hs.length + 1 := by
  unfold psh
  rw [List.length_take, List.length_cons]
  split <;> omega
def HM (ν : Mem) (hs : List Rw) : Prop := hs.length ≤ 40 ∧ ν.1 0 53 = nI hs.length ∧ ∀ i R, hs[i]? = some R → ∀ k, k < 39 → ν.1 35 (39 * (hs.length - 1 - i) + k) = R k
theorem get_len {hs : List Rw} {i : Nat} {R : Rw} (h : hs[i]? = some R) : i < hs.length := by
  rcases Nat.lt_or_ge i hs.length with h1 | h1
  · exact h1
  · rw [List.getElem?_eq_none h1] at h; cases h
theorem shift_m {ν : Mem} {K : Mem → Option Mem} {Q : Mem → Prop} (hK : ∀ s : Mem, (∀ m, m < 1521 → s.1 35 m = ν.1 35 (m + 39)) → (∀ j, j ≠ 35 → s.1 j = ν.1 j) → s.2 = ν.2 → Wo (K s) Q) : Wo (fX12_records_l11 K FU 0 ν) Q := by
  refine lp0 (fun n' x s => fX12_records_l11 _ n' x s) 1521 (by omega) (fun i s => (∀ m, m < i → s.1 35 m = ν.1 35 (m + 39)) ∧ (∀ m, i ≤ m → s.1 35 m = ν.1 35 m) ∧ (∀ j, j ≠ 35 → s.1 j = ν.1 j) ∧ s.2 = ν.2) _ ν ⟨fun k hk => by omega, fun _ _ => rfl, fun _ _ => rfl, rfl⟩ ?_ ?_
  · rintro n' i s hi ⟨i1, i2, i3, i4⟩ hrec
    show Wo (fX12_records_s11 _ _ _ _) _
    unfold fX12_records_s11
    rw [if_neg (by simp (disch := omega) only [L_add, L_add2, L_mul, L_mul2, L_sub, nI_add, pk_mul, pk_sub, L_le, L_le2, L_lt, L_lt2, L_eq, L_eq2, nI_leI, nI_ltI, nI_eq, nI_clamp, ix_nI, ix_lit, L_cl]; omega)]
    simp (disch := omega) only [L_add, L_add2, L_mul, L_mul2, L_sub, nI_add, pk_mul, pk_sub, L_le, L_le2, L_lt, L_lt2, L_eq, L_eq2, nI_leI, nI_ltI, nI_eq, nI_clamp, ix_nI, ix_lit, L_cl, Wo_b1, Wo_b2, Wo_gd, Wo_some, Wo_bd, b1_some, b2_some, gd_true, bd_eq, true_and]
    refine hrec _ ⟨fun m hm => ?_, fun m hm => by rw [rd_Ik (by omega)]; exact i2 m (by omega), fun j hj => by rw [rd_Ii hj]; exact i3 j hj, i4⟩
    by_cases he : m = i
    · subst he; rw [rd_Is]; exact i2 _ (by omega)
    · rw [rd_Ik he]; exact i1 m (by omega)
  · rintro n' s ⟨i1, i2, i3, i4⟩
    show Wo (fX12_records_s11 _ _ _ _) _
    unfold fX12_records_s11
    rw [if_pos (by simp (disch := omega) only [L_add, L_add2, L_mul, L_mul2, L_sub, nI_add, pk_mul, pk_sub, L_le, L_le2, L_lt, L_lt2, L_eq, L_eq2, nI_leI, nI_ltI, nI_eq, nI_clamp, ix_nI, ix_lit, L_cl]; omega)]
    exact hK s i1 i3 i4
theorem full_m {ν : Mem} {R R' : Nat → Int32} {hs : List Rw} (hN : NR ν R) (hM : MR ν R') (hH : HM ν hs) (hf : hs.length = 40) {s : Mem} (i1 : ∀ m, m < 1521 → s.1 35 m = ν.1 35 (m + 39)) (i3 : ∀ j, j ≠ 35 → s.1 j = ν.1 j) (i4 : s.2 = ν.2) : Wo (fX12_records_b49 (upI s 0 53 (s.1 0 53 - 1))) (fun ν' => NR ν' R' ∧ HM ν' (psh R hs) ∧ (∀ j, j ≠ 0 → j ≠ 31 → j ≠ 35 → ν'.1 j = ν.1 j) ∧ (∀ k, k ≠ 53 → ν'.1 0 k = ν.1 0 k) ∧ ν'.2 = ν.2) := by
  obtain ⟨h1, h2, h3⟩ := hH
  refine Wo_mono (rec49_m (R := R) (R' := R') (u := 39) ?_ ?_ ?_ (by omega)) ?_
  · intro k hk; rw [rd_Ii (by omega), i3 31 (by omega)]; exact hN k hk
  · intro k hk; rw [rd_Ii (by omega), i3 32 (by omega)]; exact hM k hk
  · rw [rd_Is, i3 0 (by omega), h2, hf]; decide
  · rintro ν' ⟨j1, j2, j3, j4, j5, j6, j7⟩
    have hl : (psh R hs).length = 40 := by rw [psh_len h1, if_pos hf]
    refine ⟨j1, ⟨?_, ?_, ?_⟩, ?_, ?_, ?_⟩
    · omega
    · rw [hl]; exact j2
    · intro i R1 hi k hk
      rw [hl]
      rcases psh_get hi with ⟨rfl, rfl⟩ | ⟨j, rfl, hj, hg⟩
      · rw [show 39 * (40 - 1 - 0) + k = 39 * 39 + k by omega]; exact j3 k hk
      · have e : 39 * (40 - 1 - (j + 1)) + k + 39 = 39 * (40 - 1 - j) + k := by omega
        rw [j4 _ (by omega), rd_Ii (by omega), i1 _ (by omega), e]
        have := h3 j R1 hg k hk
        rw [hf] at this
        exact this
    · intro j a b c; rw [j5 j a b c, rd_Ii a]; exact i3 j c
    · intro k a; rw [j6 k a, rd_Ik a, i3 0 (by omega)]
    · exact j7.trans i4
theorem recA_m {ν : Mem} {R R' : Nat → Int32} {hs : List Rw} (hN : NR ν R) (hM : MR ν R') (hH : HM ν hs) (hf : hs.length = 40) : Wo (fX12_records_l11 (fun μ13 => bd (upI μ13 0 53 ((μ13.1 0 53) - 1)) (fun μ14 => fX12_records_b49 μ14)) FU 0 ν) (fun ν' => NR ν' R' ∧ HM ν' (psh R hs) ∧ (∀ j, j ≠ 0 → j ≠ 31 → j ≠ 35 → ν'.1 j = ν.1 j) ∧ (∀ k, k ≠ 53 → ν'.1 0 k = ν.1 0 k) ∧ ν'.2 = ν.2) :=
  shift_m (fun s i1 i3 i4 => by rw [bd_eq]; exact full_m hN hM hH hf i1 i3 i4)
theorem recB_m {ν : Mem} {R R' : Nat → Int32} {hs : List Rw} (hN : NR ν R) (hM : MR ν R') (hH : HM ν hs) (hf : ¬ hs.length = 40) : Wo (fX12_records_b49 ν) (fun ν' => NR ν' R' ∧ HM ν' (psh R hs) ∧ (∀ j, j ≠ 0 → j ≠ 31 → j ≠ 35 → ν'.1 j = ν.1 j) ∧ (∀ k, k ≠ 53 → ν'.1 0 k = ν.1 0 k) ∧ ν'.2 = ν.2) := by
  obtain ⟨h1, h2, h3⟩ := hH
  refine Wo_mono (rec49_m hN hM h2 (by omega)) ?_
  rintro ν' ⟨j1, j2, j3, j4, j5, j6, j7⟩
  refine ⟨j1, ⟨?_, ?_, ?_⟩, j5, j6, j7⟩
  · rw [psh_len h1]; split <;> omega
  · rw [psh_len h1, if_neg hf]; exact j2
  · intro i R1 hi k hk
    rw [psh_len h1, if_neg hf]
    rcases psh_get hi with ⟨rfl, rfl⟩ | ⟨j, rfl, hj, hg⟩
    · rw [show hs.length + 1 - 1 - 0 = hs.length by omega]; exact j3 k hk
    · have hl := get_len hg
      have e : hs.length + 1 - 1 - (j + 1) = hs.length - 1 - j := by omega
      rw [e, j4 _ (by omega)]
      exact h3 j R1 hg k hk
theorem records_m {ν : Mem} {R R' : Nat → Int32} {hs : List Rw} (hN : NR ν R) (hM : MR ν R') (hH : HM ν hs) : Wo (fX12_records ν) (fun ν' => NR ν' R' ∧ HM ν' (psh R hs) ∧ (∀ j, j ≠ 0 → j ≠ 31 → j ≠ 35 → ν'.1 j = ν.1 j) ∧ (∀ k, k ≠ 53 → ν'.1 0 k = ν.1 0 k) ∧ ν'.2 = ν.2) := by
  unfold fX12_records
  refine Wo_if (fun h => recA_m hN hM hH ?_) (fun h => recB_m hN hM hH ?_)
  · rw [hH.2.1, show (40 : Int32) = nI 40 from rfl, nI_eq (by have := hH.1; omega) (by omega)] at h; exact h
  · rw [hH.2.1, show (40 : Int32) = nI 40 from rfl, nI_eq (by have := hH.1; omega) (by omega)] at h; exact h
