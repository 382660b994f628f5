/-- a loop that counts down to 0 -/
theorem lpD {σ α : Type} (f : Nat → Int32 → σ → Option α) (I : Nat → σ → Prop) (Q : α → Prop) (hs : ∀ n m s, I (m + 1) s → (∀ s', I m s' → Wo (f n (nI m - 1) s') Q) → Wo (f (n + 1) (nI m) s) Q) (hx : ∀ n s, I 0 s → Wo (f (n + 1) (-1) s) Q) : ∀ (n m : Nat) (s : σ), m < n → I m s → Wo (f n (nI m - 1) s) Q := by
  intro n
  induction n with
  | zero => intro m s h _; omega
  | succ n ih =>
    intro m s hm hI
    cases m with
    | zero => exact hx n s hI
    | succ m =>
      rw [nI_pred]
      exact hs n m s hI (fun s' h' => ih m s' (by omega) h')
theorem m1_sub (m : Nat) : nI m + (-1) = nI m - 1 := by grind
/-- the least loss of the last m houses with k coals -/
def leS (g : Nat → Nat → Int32) (n : Nat) : Nat → Nat → Int32
  | 0, _ => 0
  | m + 1, k => oV (fun o => g (n - (m + 1)) o + leS g n m (k - o)) 0 (alF (fun _ => true) (fun o => g (n - (m + 1)) o + leS g n m (k - o)) (k + 1))
/-- what own coals of k make in house h -/
def cS (w : Kw) (R : Rw) (h k o : Nat) : Int32 := gl w R h o + leS (gl w R) (kn w) (kn w - (h + 1)) (k - o)
def ow (w : Kw) (R : Rw) (h k : Nat) : Nat := match alF (fun _ => true) (cS w R h k) (k + 1) with
  | none => 0
  | some b => b
theorem al_t {g : Nat → Int32} {n : Nat} (h : 0 < n) : ∃ b, alF (fun _ => true) g n = some b ∧ b < n := by
  cases ha : alF (fun _ => true) g n with
  | none => exact absurd (alF_none ha 0 h) (by decide)
  | some b => exact ⟨b, rfl, (alF_lt ha).1⟩
theorem ow_al {w : Kw} {R : Rw} {h k : Nat} : alF (fun _ => true) (cS w R h k) (k + 1) = some (ow w R h k) := by
  obtain ⟨b, e, _⟩ := @al_t (cS w R h k) (k + 1) (by omega)
  unfold ow
  rw [e]
theorem ow_le {w : Kw} {R : Rw} {h k : Nat} : ow w R h k ≤ k := by
  have := (alF_lt (@ow_al w R h k)).1
  omega
theorem al_first {g : Nat → Int32} {n b : Nat} (h : alF (fun _ => true) g n = some b) : (∀ i, i < n → g b ≤ g i) ∧ ∀ i, i < b → ¬ g i ≤ g b := by
  induction n generalizing b with
  | zero => cases h
  | succ n ih =>
    have e : alF (fun _ => true) g (n + 1) = (match alF (fun _ => true) g n with | none => some n | some b => if g b ≤ g n then some b else some n) := rfl
    rw [e] at h
    cases ha : alF (fun _ => true) g n with
    | none =>
      rw [ha] at h
      cases h
      have hz : n = 0 := by
        rcases Nat.eq_zero_or_pos n with h0 | h0
        · exact h0
        · exact absurd (alF_none ha 0 h0) (by decide)
      subst hz
      exact ⟨fun i hi => by rw [show i = 0 by omega]; grind, fun i hi => by omega⟩
    | some c =>
      rw [ha] at h
      obtain ⟨h1, h2⟩ := ih ha
      have hc := (alF_lt ha).1
      dsimp only at h
      split at h
      · rename_i hle
        cases h
        refine ⟨fun i hi => ?_, h2⟩
        by_cases he : i = n
        · rw [he]; exact hle
        · exact h1 i (by omega)
      · rename_i hle
        cases h
        refine ⟨fun i hi => ?_, fun i hi => ?_⟩
        · by_cases he : i = n
          · rw [he]; grind
          · have := h1 i (by omega); grind
        · have := h1 i hi; grind
theorem leS_s {w : Kw} {R : Rw} {h k : Nat} (hh : h < kn w) : leS (gl w R) (kn w) (kn w - h) k = cS w R h k (ow w R h k) := by
  have e1 : kn w - h = (kn w - (h + 1)) + 1 := by omega
  rw [e1]
  show oV (fun o => gl w R (kn w - (kn w - (h + 1) + 1)) o + leS (gl w R) (kn w) (kn w - (h + 1)) (k - o)) 0 (alF (fun _ => true) (fun o => gl w R (kn w - (kn w - (h + 1) + 1)) o + leS (gl w R) (kn w) (kn w - (h + 1)) (k - o)) (k + 1)) = _
  rw [show kn w - (kn w - (h + 1) + 1) = h by omega]
  show oV (cS w R h k) 0 (alF (fun _ => true) (cS w R h k) (k + 1)) = _
  rw [ow_al]
  rfl
/-- which Shares -/
def Sq (q hn : Nat) : Prop := (q = 120 ∧ hn = 31) ∨ (q = 139 ∧ hn = 11) ∨ (q = 158 ∧ hn = 11)
def Fq (q : Nat) (μ μ' : Mem) : Prop := (∀ j, j ≠ 23 → ¬ (q ≤ j ∧ j ≤ q + 18) → μ'.1 j = μ.1 j) ∧ μ'.2 = μ.2 ∧ μ'.1 q 0 = μ.1 q 0
theorem Fq_rfl {q : Nat} {μ : Mem} : Fq q μ μ := ⟨fun _ _ _ => rfl, rfl, rfl⟩
theorem Fq_tr {q : Nat} {a b c : Mem} (h : Fq q a b) (h2 : Fq q b c) : Fq q a c := ⟨fun j x y => (h2.1 j x y).trans (h.1 j x y), h2.2.1.trans h.2.1, h2.2.2.trans h.2.2⟩
theorem Fq_up {q j k : Nat} {μ : Mem} {v : Int32} (h : q < j ∧ j ≤ q + 18) : Fq q μ (upI μ j k v) := ⟨fun i _ _ => rd_Ii (by omega), rfl, by rw [rd_Ii (by omega)]⟩
theorem Fq_up0 {q k : Nat} {μ : Mem} {v : Int32} (h : k ≠ 0) : Fq q μ (upI μ q k v) := ⟨fun i _ _ => rd_Ii (by omega), rfl, rd_Ik (by omega)⟩
theorem Fq_Fs {q : Nat} {μ μ' : Mem} (h : Fs (q + 1) μ μ') (hq : 24 ≤ q) : Fq q μ μ' := ⟨fun j a b => h.1 j (by omega) (by omega) a, h.2, by rw [h.1 q (by omega) (by omega) (by omega)]⟩
theorem Fq_law {q : Nat} {μ μ' : Mem} (h : ∀ j, j ≠ 23 → μ'.1 j = μ.1 j) (h2 : μ'.2 = μ.2) (hq : 24 ≤ q) : Fq q μ μ' := ⟨fun j a _ => h j a, h2, by rw [h q (by omega)]⟩
theorem Fq_KC {q hn : Nat} {μ μ' : Mem} (hq : Sq q hn) (h : Fq q μ μ') : KC μ μ' := by
  have hq' : q = 120 ∨ q = 139 ∨ q = 158 := by rcases hq with ⟨a, _⟩ | ⟨a, _⟩ | ⟨a, _⟩ <;> omega
  refine ⟨fun j a b c d => h.1 j a (by omega), h.2.1, ?_⟩
  rcases hq' with rfl | rfl | rfl
  · exact ⟨h.2.2, by rw [h.1 139 (by omega) (by omega)], by rw [h.1 158 (by omega) (by omega)]⟩
  · exact ⟨by rw [h.1 120 (by omega) (by omega)], h.2.2, by rw [h.1 158 (by omega) (by omega)]⟩
  · exact ⟨by rw [h.1 120 (by omega) (by omega)], by rw [h.1 139 (by omega) (by omega)], h.2.2⟩
theorem Sq_q {q hn : Nat} (h : Sq q hn) : (q = 120 ∨ q = 139 ∨ q = 158) ∧ (hn = 31 ∨ hn = 11) := by
  rcases h with ⟨a, b⟩ | ⟨a, b⟩ | ⟨a, b⟩ <;> omega
theorem MoE_q {q hn : Nat} {μ : Mem} (h : Sq q hn) (hm : MoE μ) : μ.1 q 0 = nI (hn - 1) := by
  rcases h with ⟨rfl, rfl⟩ | ⟨rfl, rfl⟩ | ⟨rfl, rfl⟩
  · exact hm.1
  · exact hm.2.1
  · exact hm.2.2
theorem QC_Fq {w : Kw} {q : Nat} {μ μ' : Mem} (h : QC w μ) (hq : 24 ≤ q) (hf : Fq q μ μ') : QC w μ' := QC_fr h (fun j a b => hf.1 j (by omega) (by omega))
/-- the losses of house h are there -/
def T1 (w : Kw) (R : Rw) (q n h : Nat) (μ : Mem) : Prop := ∀ k, k ≤ n → μ.1 (q + 4 + h) k = gl w R h k
/-- the least losses from house h on -/
def T2 (w : Kw) (R : Rw) (q n h : Nat) (μ : Mem) : Prop := ∀ k, k ≤ n → μ.1 (q + 11 + h) k = leS (gl w R) (kn w) (kn w - h) k
theorem fewest_c {w : Kw} {R : Rw} {μ : Mem} {q hn h k n : Nat} (hq : Sq q hn) (hn1 : n < hn) (hk : k ≤ n) (hh : h < 6) (t1 : T1 w R q n h μ) (t2 : T2 w R q n (h + 1) μ) : Wo (fX6_fewestBest q hn (nI h) (nI k) μ) (fun r => r = nI (ow w R h k)) := by
  have hq2 := Sq_q hq
  unfold fX6_fewestBest
  have ec : ∀ o, o ≤ k → μ.1 (q + 3 + 1 + h) o + μ.1 (q + 10 + 1 + (h + 1)) (k - o) = cS w R h k o := by
    intro o ho
    rw [show q + 3 + 1 + h = q + 4 + h by omega, show q + 10 + 1 + (h + 1) = q + 11 + (h + 1) by omega, t1 o (by omega), t2 (k - o) (by omega)]; rfl
  refine lpU (fun n' x s => fX6_fewestBest_l5 q hn (nI h) (nI k) μ n' s x) (k + 1) (fun i s => ∃ b, alF (fun _ => true) (cS w R h k) i = some b ∧ b < i ∧ s = nI b) _ ?_ ?_ FU 1 0 (by omega) (by unfold FU; omega) ⟨0, rfl, by omega, rfl⟩
  · rintro n' i s hi ⟨b, e, hb, rfl⟩ hrec
    show Wo (fX6_fewestBest_s5 _ _ _ _ _ _ _ _) _
    unfold fX6_fewestBest_s5
    rw [if_neg (by simp (disch := omega) only [L_add, L_add2, L_mul, L_mul2, L_sub, nI_add, pk_mul, pk_sub, L_le, L_le2, L_lt, L_lt2, L_eq, L_eq2, nI_leI, nI_ltI, nI_eq, nI_clamp, ix_nI, ix_lit, L_cl]; omega)]
    have e2 : alF (fun _ => true) (cS w R h k) (i + 1) = (match alF (fun _ => true) (cS w R h k) i with | none => some i | some b => if cS w R h k b ≤ cS w R h k i then some b else some i) := rfl
    rw [e] at e2
    dsimp only at e2
    simp (disch := omega) only [L_add, L_add2, L_mul, L_mul2, L_sub, nI_add, pk_mul, pk_sub, L_le, L_le2, L_lt, L_lt2, L_eq, L_eq2, nI_leI, nI_ltI, nI_eq, nI_clamp, ix_nI, ix_lit, L_cl, gd_true, bd_eq, ec]
    refine Wo_if (fun hc => ?_) (fun hc => ?_)
    · rw [if_pos hc] at e2
      exact hrec _ ⟨b, e2, by omega, rfl⟩
    · rw [if_neg hc] at e2
      exact hrec _ ⟨i, e2, by omega, rfl⟩
  · rintro n' s ⟨b, e, hb, rfl⟩
    show Wo (fX6_fewestBest_s5 _ _ _ _ _ _ _ _) _
    unfold fX6_fewestBest_s5
    rw [if_pos (by simp (disch := omega) only [L_add, L_add2, L_mul, L_mul2, L_sub, nI_add, pk_mul, pk_sub, L_le, L_le2, L_lt, L_lt2, L_eq, L_eq2, nI_leI, nI_ltI, nI_eq, nI_clamp, ix_nI, ix_lit, L_cl]; omega), Wo_some]
    have := @ow_al w R h k
    rw [e] at this
    cases this; rfl
/-- the losses of one house -/
theorem w41_c {w : Kw} {R R' : Rw} {μ : Mem} {q hn q2 i n : Nat} {K : Mem → Option Mem} {Q : Mem → Prop} (hq : Sq q hn) (hn1 : n < hn) (hQ : QC w μ) (hi : i < kn w) (hS : SR μ (q + 1) (kp w) R') (hR : RG w R') (hE : EqH i R R') (hK : ∀ s, SR s (q + 1) (kp w) (sB w i n R') → T1 w R q n i s → Fq q μ s → s.1 q 5 = μ.1 q 5 → (∀ j, q + 3 ≤ j → j ≠ q + 4 + i → s.1 j = μ.1 j) → Wo (K s) Q) : Wo (fX6_weigh_l41 K q hn 17 q2 (nI n) (nI i) FU 0 μ) Q := by
  have hq2 := Sq_q hq
  have hn6 := hQ.1
  refine lp0 (fun n' x s => fX6_weigh_l41 K q hn 17 q2 (nI n) (nI i) n' x s) (n + 1) (by omega) (fun k s => SR s (q + 1) (kp w) (sB w i (k - 1) R') ∧ (∀ k', k' < k → s.1 (q + 4 + i) k' = gl w R i k') ∧ Fq q μ s ∧ s.1 q 5 = μ.1 q 5 ∧ (∀ j, q + 3 ≤ j → j ≠ q + 4 + i → s.1 j = μ.1 j)) _ μ ⟨hS, fun k' hk => by omega, Fq_rfl, rfl, fun _ _ _ => rfl⟩ ?_ ?_
  · rintro n' k s hk ⟨i1, i2, i3, i4, i5⟩ hrec
    have hQ1 := QC_Fq hQ (by omega) i3
    have fin : ∀ s', SR s' (q + 1) (kp w) (sB w i k R') → (∀ j, q + 3 ≤ j → s'.1 j = s.1 j) → Fq q s s' → s'.1 q 5 = s.1 q 5 → Wo (fX6_weigh_b64 (fX6_weigh_l41 K q hn 17 q2 (nI n) (nI i) n') K q hn 17 q2 (nI n) (nI i) (nI k) s') Q := by
      intro s' j1 j2 j3 j4
      unfold fX6_weigh_b64
      rw [ix_nI (by omega) (by omega), gd_true, Wo_b2]
      refine Wo_mono (fades_c (QC_Fq hQ1 (by omega) j3) (by omega) j1 (RG_B hR (by omega) k) (by omega)) ?_
      rintro ⟨r, s2⟩ ⟨h1, h2, h3⟩
      dsimp only at h1 h2 h3 ⊢
      rw [ix_nI (by omega) (by omega), gd_true, bd_eq, nI_clamp (by omega), nI_clamp (by omega), nI_1, show q + 3 + 1 + i = q + 4 + i by omega]
      have hv : r = gl w R i k := by rw [h1]; exact sF_EqH (by omega) (sB_EqH (by omega) hE k)
      refine hrec _ ⟨?_, ?_, Fq_tr i3 (Fq_tr j3 (Fq_tr (Fq_law h2 h3 (by omega)) (Fq_up (by omega)))), ?_, ?_⟩
      · rw [show k + 1 - 1 = k by omega]
        exact SR_fr j1 (by rw [rd_Ii (by omega), h2 _ (by omega)]) (by rw [rd_Ii (by omega), h2 _ (by omega)])
      · intro k' hk'
        by_cases he : k' = k
        · subst he; rw [rd_Is]; exact hv
        · rw [rd_Ik he, h2 _ (by omega), j2 _ (by omega)]; exact i2 k' (by omega)
      · rw [rd_Ii (by omega), h2 _ (by omega), j4]; exact i4
      · intro j hj1 hj2
        rw [rd_Ii (by omega), h2 _ (by omega), j2 j (by omega)]; exact i5 j hj1 hj2
    show Wo (fX6_weigh_s41 _ _ _ _ _ _ _ _ _ _) _
    unfold fX6_weigh_s41
    rw [if_neg (by simp (disch := omega) only [L_add, L_add2, L_mul, L_mul2, L_sub, nI_add, pk_mul, pk_sub, L_le, L_le2, L_lt, L_lt2, L_eq, L_eq2, nI_leI, nI_ltI, nI_eq, nI_clamp, ix_nI, ix_lit, L_cl]; omega)]
    refine Wo_if (fun hc => ?_) (fun hc => ?_)
    · rw [L_le2 (by omega) (by omega)] at hc
      have hk0 : k = 0 := by omega
      subst hk0
      exact fin s i1 (fun _ _ => rfl) Fq_rfl rfl
    · rw [L_le2 (by omega) (by omega)] at hc
      rw [Wo_b1]
      refine Wo_mono (burnIn_c (n := 1) hQ1 (by omega) i1 (RG_B hR (by omega) _) (by omega) (by omega)) ?_
      rintro s1 ⟨j1, j2, _⟩
      have e : sB w i 1 (sB w i (k - 1) R') = sB w i k R' := by
        obtain ⟨m, rfl⟩ : ∃ m, k = m + 1 := ⟨k - 1, by omega⟩
        rfl
      rw [e] at j1
      exact fin s1 j1 (fun j hj => j2.1 j (by omega) (by omega) (by omega)) (Fq_Fs j2 (by omega)) (by rw [j2.1 q (by omega) (by omega) (by omega)])
  · rintro n' s ⟨i1, i2, i3, i4, i5⟩
    show Wo (fX6_weigh_s41 _ _ _ _ _ _ _ _ _ _) _
    unfold fX6_weigh_s41
    rw [if_pos (by simp (disch := omega) only [L_add, L_add2, L_mul, L_mul2, L_sub, nI_add, pk_mul, pk_sub, L_le, L_le2, L_lt, L_lt2, L_eq, L_eq2, nI_leI, nI_ltI, nI_eq, nI_clamp, ix_nI, ix_lit, L_cl]; omega)]
    rw [show n + 1 - 1 = n by omega] at i1
    exact hK s i1 (fun k hk => i2 k (by omega)) i3 i4 i5
theorem w29_c {w : Kw} {R : Rw} {μ : Mem} {q hn q2 n : Nat} {K : Mem → Option Mem} {Q : Mem → Prop} (hq : Sq q hn) (hn1 : n < hn) (hQ : QC w μ) (hS : SR μ (q + 1) (kp w) R) (hR : RG w R) (h5 : μ.1 q 5 = nI (kn w)) (hK : ∀ s, (∀ h, h < kn w → T1 w R q n h s) → Fq q μ s → s.1 q 5 = nI (kn w) → Wo (K s) Q) : Wo (fX6_weigh_l29 K q hn 17 q2 (nI n) FU 0 μ) Q := by
  have hq2 := Sq_q hq
  have hn6 := hQ.1
  refine lp0 (fun n' x s => fX6_weigh_l29 K q hn 17 q2 (nI n) n' x s) (kn w) (by omega) (fun i s => (∃ R', SR s (q + 1) (kp w) R' ∧ RG w R' ∧ ∀ h, i ≤ h → h < 6 → EqH h R R') ∧ (∀ h, h < i → T1 w R q n h s) ∧ Fq q μ s ∧ s.1 q 5 = nI (kn w)) _ μ ⟨⟨R, hS, hR, fun _ _ _ => EqH_rfl⟩, fun h hh => by omega, Fq_rfl, h5⟩ ?_ ?_
  · rintro n' i s hi ⟨⟨R', i1, i2, i3⟩, i4, i5, i6⟩ hrec
    show Wo (fX6_weigh_s29 _ _ _ _ _ _ _ _ _) _
    unfold fX6_weigh_s29
    rw [i6, if_neg (by simp (disch := omega) only [L_add, L_add2, L_mul, L_mul2, L_sub, nI_add, pk_mul, pk_sub, L_le, L_le2, L_lt, L_lt2, L_eq, L_eq2, nI_leI, nI_ltI, nI_eq, nI_clamp, ix_nI, ix_lit, L_cl]; omega)]
    refine w41_c (R := R) hq hn1 (QC_Fq hQ (by omega) i5) hi i1 i2 (i3 i (Nat.le_refl _) (by omega)) ?_
    intro s1 j1 j2 j3 j4 j5
    rw [nI_1]
    refine hrec s1 ⟨⟨_, j1, RG_B i2 (by omega) n, fun h hh hh6 => EqH_tr (i3 h (by omega) hh6) (sB_oth (by omega) hh6 (by omega))⟩, ?_, Fq_tr i5 j3, j4.trans i6⟩
    intro h hh
    by_cases he : h = i
    · subst he; exact j2
    · intro k hk
      rw [j5 _ (by omega) (by omega)]; exact i4 h (by omega) k hk
  · rintro n' s ⟨⟨R', i1, i2, i3⟩, i4, i5, i6⟩
    show Wo (fX6_weigh_s29 _ _ _ _ _ _ _ _ _) _
    unfold fX6_weigh_s29
    rw [i6, if_pos (by simp (disch := omega) only [L_add, L_add2, L_mul, L_mul2, L_sub, nI_add, pk_mul, pk_sub, L_le, L_le2, L_lt, L_lt2, L_eq, L_eq2, nI_leI, nI_ltI, nI_eq, nI_clamp, ix_nI, ix_lit, L_cl]; omega)]
    exact hK s i4 i5 i6
theorem w99_c {w : Kw} {R : Rw} {μ : Mem} {q hn q2 n : Nat} {K : Mem → Option Mem} {Q : Mem → Prop} (hq : Sq q hn) (hn1 : n < hn) (hn6 : kn w ≤ 6) (h5 : μ.1 q 5 = nI (kn w)) (hK : ∀ s, T2 w R q n (kn w) s → (∀ j, j ≠ q + 11 + kn w → s.1 j = μ.1 j) → s.2 = μ.2 → Wo (K s) Q) : Wo (fX6_weigh_l99 K q hn 17 q2 (nI n) FU 0 μ) Q := by
  have hq2 := Sq_q hq
  refine lp0 (fun n' x s => fX6_weigh_l99 K q hn 17 q2 (nI n) n' x s) (n + 1) (by omega) (fun i s => (∀ k, k < i → s.1 (q + 11 + kn w) k = 0) ∧ (∀ j, j ≠ q + 11 + kn w → s.1 j = μ.1 j) ∧ s.2 = μ.2) _ μ ⟨fun k hk => by omega, fun _ _ => rfl, rfl⟩ ?_ ?_
  · rintro n' i s hi ⟨i1, i2, i3⟩ hrec
    show Wo (fX6_weigh_s99 _ _ _ _ _ _ _ _ _) _
    unfold fX6_weigh_s99
    have e5 : s.1 q 5 = nI (kn w) := by rw [i2 q (by omega)]; exact h5
    rw [if_neg (by simp (disch := omega) only [L_add, L_add2, L_mul, L_mul2, L_sub, nI_add, pk_mul, pk_sub, L_le, L_le2, L_lt, L_lt2, L_eq, L_eq2, nI_leI, nI_ltI, nI_eq, nI_clamp, ix_nI, ix_lit, L_cl]; omega), e5]
    simp (disch := omega) only [L_add, L_add2, L_mul, L_mul2, L_sub, nI_add, pk_mul, pk_sub, L_le, L_le2, L_lt, L_lt2, L_eq, L_eq2, nI_leI, nI_ltI, nI_eq, nI_clamp, ix_nI, ix_lit, L_cl, gd_true, bd_eq]
    rw [show q + 10 + 1 + kn w = q + 11 + kn w by omega]
    refine hrec _ ⟨fun k hk => ?_, fun j hj => by rw [rd_Ii hj]; exact i2 j hj, i3⟩
    by_cases he : k = i
    · subst he; rw [rd_Is]
    · rw [rd_Ik he]; exact i1 k (by omega)
  · rintro n' s ⟨i1, i2, i3⟩
    show Wo (fX6_weigh_s99 _ _ _ _ _ _ _ _ _) _
    unfold fX6_weigh_s99
    rw [if_pos (by simp (disch := omega) only [L_add, L_add2, L_mul, L_mul2, L_sub, nI_add, pk_mul, pk_sub, L_le, L_le2, L_lt, L_lt2, L_eq, L_eq2, nI_leI, nI_ltI, nI_eq, nI_clamp, ix_nI, ix_lit, L_cl]; omega)]
    refine hK s (fun k hk => ?_) i2 i3
    rw [i1 k (by omega), Nat.sub_self]; rfl
theorem w141_c {w : Kw} {R : Rw} {μ : Mem} {q hn q2 n h : Nat} {K : Mem → Option Mem} {Q : Mem → Prop} (hq : Sq q hn) (hn1 : n < hn) (hn6 : kn w ≤ 6) (hh : h < kn w) (t1 : T1 w R q n h μ) (t2 : T2 w R q n (h + 1) μ) (hK : ∀ s, T2 w R q n h s → (∀ j, j ≠ q + 11 + h → s.1 j = μ.1 j) → s.2 = μ.2 → Wo (K s) Q) : Wo (fX6_weigh_l141 K q hn 17 q2 (nI n) (nI h) FU 0 μ) Q := by
  have hq2 := Sq_q hq
  refine lp0 (fun n' x s => fX6_weigh_l141 K q hn 17 q2 (nI n) (nI h) n' x s) (n + 1) (by omega) (fun i s => (∀ k, k < i → s.1 (q + 11 + h) k = leS (gl w R) (kn w) (kn w - h) k) ∧ (∀ j, j ≠ q + 11 + h → s.1 j = μ.1 j) ∧ s.2 = μ.2) _ μ ⟨fun k hk => by omega, fun _ _ => rfl, rfl⟩ ?_ ?_
  · rintro n' i s hi ⟨i1, i2, i3⟩ hrec
    show Wo (fX6_weigh_s141 _ _ _ _ _ _ _ _ _ _) _
    unfold fX6_weigh_s141
    have u1 : T1 w R q n h s := fun k hk => by rw [i2 _ (by omega)]; exact t1 k hk
    have u2 : T2 w R q n (h + 1) s := fun k hk => by rw [i2 _ (by omega)]; exact t2 k hk
    rw [if_neg (by simp (disch := omega) only [L_add, L_add2, L_mul, L_mul2, L_sub, nI_add, pk_mul, pk_sub, L_le, L_le2, L_lt, L_lt2, L_eq, L_eq2, nI_leI, nI_ltI, nI_eq, nI_clamp, ix_nI, ix_lit, L_cl]; omega), Wo_b1]
    refine Wo_mono (fewest_c hq hn1 (k := i) (by omega) (by omega) u1 u2) ?_
    rintro r rfl
    have hle := @ow_le w R h i
    simp (disch := omega) only [L_add, L_add2, L_mul, L_mul2, L_sub, nI_add, pk_mul, pk_sub, L_le, L_le2, L_lt, L_lt2, L_eq, L_eq2, nI_leI, nI_ltI, nI_eq, nI_clamp, ix_nI, ix_lit, L_cl, gd_true, bd_eq]
    rw [show q + 10 + 1 + h = q + 11 + h by omega, show q + 3 + 1 + h = q + 4 + h by omega, show q + 10 + 1 + (h + 1) = q + 11 + (h + 1) by omega, u1 _ (by omega), u2 _ (by omega)]
    refine hrec _ ⟨fun k hk => ?_, fun j hj => by rw [rd_Ii hj]; exact i2 j hj, i3⟩
    by_cases he : k = i
    · subst he; rw [rd_Is, leS_s hh]; rfl
    · rw [rd_Ik he]; exact i1 k (by omega)
  · rintro n' s ⟨i1, i2, i3⟩
    show Wo (fX6_weigh_s141 _ _ _ _ _ _ _ _ _ _) _
    unfold fX6_weigh_s141
    rw [if_pos (by simp (disch := omega) only [L_add, L_add2, L_mul, L_mul2, L_sub, nI_add, pk_mul, pk_sub, L_le, L_le2, L_lt, L_lt2, L_eq, L_eq2, nI_leI, nI_ltI, nI_eq, nI_clamp, ix_nI, ix_lit, L_cl]; omega)]
    exact hK s (fun k hk => i1 k (by omega)) i2 i3
/-- all that weigh finds -/
def TB (w : Kw) (R : Rw) (q n : Nat) (μ : Mem) : Prop := μ.1 q 5 = nI (kn w) ∧ (∀ h, h < kn w → T1 w R q n h μ) ∧ ∀ h, h ≤ kn w → T2 w R q n h μ
theorem w133_c {w : Kw} {R : Rw} {μ : Mem} {q hn q2 n : Nat} (hq : Sq q hn) (hn1 : n < hn) (hn6 : kn w ≤ 6) (h5 : μ.1 q 5 = nI (kn w)) (t1 : ∀ h, h < kn w → T1 w R q n h μ) (t2 : T2 w R q n (kn w) μ) : Wo (fX6_weigh_l133 q hn 17 q2 (nI n) FU (nI (kn w) - 1) μ) (fun s => TB w R q n s ∧ Fq q μ s) := by
  have hq2 := Sq_q hq
  refine lpD (fun n' x s => fX6_weigh_l133 q hn 17 q2 (nI n) n' x s) (fun m s => m ≤ kn w ∧ (∀ h, m ≤ h → h ≤ kn w → T2 w R q n h s) ∧ (∀ j, ¬ (q + 11 ≤ j ∧ j ≤ q + 17) → s.1 j = μ.1 j) ∧ s.2 = μ.2) _ ?_ ?_ FU (kn w) μ (by unfold FU; omega) ⟨Nat.le_refl _, fun h a b => by rw [show h = kn w by omega]; exact t2, fun _ _ => rfl, rfl⟩
  · rintro n' m s ⟨i0, i1, i2, i3⟩ hrec
    show Wo (fX6_weigh_s133 _ _ _ _ _ _ _ _) _
    unfold fX6_weigh_s133
    rw [if_neg (nI_pos (by omega))]
    refine w141_c (R := R) hq hn1 hn6 (by omega) (fun k hk => by rw [i2 _ (by omega)]; exact t1 m (by omega) k hk) (i1 (m + 1) (by omega) (by omega)) ?_
    intro s1 j1 j2 j3
    rw [m1_sub]
    refine hrec s1 ⟨by omega, ?_, fun j hj => by rw [j2 j (by omega)]; exact i2 j hj, j3.trans i3⟩
    intro h a b
    by_cases he : h = m
    · subst he; exact j1
    · intro k hk; rw [j2 _ (by omega)]; exact i1 h (by omega) b k hk
  · rintro n' s ⟨i0, i1, i2, i3⟩
    show Wo (fX6_weigh_s133 _ _ _ _ _ _ _ _) _
    unfold fX6_weigh_s133
    rw [if_pos (by decide), Wo_some]
    refine ⟨⟨by rw [i2 q (by omega)]; exact h5, fun h hh k hk => by rw [i2 _ (by omega)]; exact t1 h hh k hk, fun h hh => i1 h (by omega) hh⟩, fun j a b => i2 j (by omega), i3, by rw [i2 q (by omega)]⟩
theorem jmin_nI {n m : Nat} (h : n ≤ m) (hm : m < 2 ^ 31) : jmin (nI n) (nI m) = nI n := by
  unfold jmin
  rw [if_neg (by rw [nI_ltI (by omega) (by omega)]; omega)]
theorem weigh_c {w : Kw} {R : Rw} {μ : Mem} {q hn q2 n : Nat} (hq : Sq q hn) (hn1 : n < hn) (hQ : QC w μ) (hm : MoE μ) (h2 : q2 = 24 ∨ q2 = 26 ∨ q2 = 28) (hS : SR μ q2 (kp w) R) (hR : RG w R) : Wo (fX6_weigh q hn 17 q2 (nI n) μ) (fun μ' => TB w R q n μ' ∧ Fq q μ μ') := by
  have hq2 := Sq_q hq
  have hn6 := hQ.1
  unfold fX6_weigh
  rw [bd_eq, MoE_q hq hm, jmin_nI (by omega) (by omega), bd_eq, hQ.2.1, Wo_b1]
  have f1 : Fq q μ (upI μ q 5 (nI (kn w))) := Fq_up0 (by omega)
  refine Wo_mono (copy_c (q := q + 1) (q1 := q2) (by omega) (by omega) (by omega)) ?_
  rintro s ⟨k1, k2, k3, k4, _⟩
  have f2 : Fq q μ s := Fq_tr f1 ⟨fun j a b => k1 j (by omega) (by omega), k2, by rw [k1 q (by omega) (by omega)]⟩
  have s2 : SR s (q + 1) (kp w) R := SR_copy (SR_fr hS (rd_Ii (by omega)) (rd_Ii (by omega))) k3 k4
  refine w29_c (R := R) hq hn1 (QC_Fq hQ (by omega) f2) s2 hR (by rw [k1 q (by omega) (by omega), rd_Is]) ?_
  intro s1 j1 j2 j3
  refine w99_c (R := R) hq hn1 hn6 j3 ?_
  intro s3 l1 l2 l3
  have e5 : s3.1 q 5 = nI (kn w) := by rw [l2 q (by omega)]; exact j3
  rw [bd_eq, e5]
  refine Wo_mono (w133_c (R := R) hq hn1 hn6 e5 (fun h hh k hk => by rw [l2 _ (by omega)]; exact j1 h hh k hk) l1) ?_
  rintro s4 ⟨m1, m2⟩
  exact ⟨m1, Fq_tr f2 (Fq_tr j2 (Fq_tr ⟨fun j a b => l2 j (by omega), l3, by rw [l2 q (by omega)]⟩ m2))⟩
theorem least_c {w : Kw} {R : Rw} {μ : Mem} {q hn n k : Nat} (hq : Sq q hn) (hn1 : n < hn) (hm : MoE μ) (ht : TB w R q n μ) (hk : k ≤ n) : fX6_leastLoss q hn (nI k) μ = some (leS (gl w R) (kn w) (kn w) k) := by
  have hq2 := Sq_q hq
  unfold fX6_leastLoss
  rw [if_neg (nI_pos (by omega)), MoE_q hq hm, if_neg (by rw [nI_ltI (by omega) (by omega)]; omega), ix_nI (by omega) (by omega), gd_true, nI_clamp (by omega)]
  have := ht.2.2 0 (by omega) k hk
  rw [Nat.sub_zero] at this
  rw [show (0 : Int32).toNatClampNeg = 0 from rfl]
  exact congrArg some this
/-- how many are left when the share of house h is taken -/
def lfS (w : Kw) (R : Rw) (n : Nat) : Nat → Nat
  | 0 => n
  | h + 1 => lfS w R n h - ow w R h (lfS w R n h)
theorem lfS_le {w : Kw} {R : Rw} {n h : Nat} : lfS w R n h ≤ n := by
  induction h with
  | zero => exact Nat.le_refl _
  | succ h ih => show lfS w R n h - _ ≤ n; omega
/-- the share of house h -/
def gvS (w : Kw) (R : Rw) (n h : Nat) : Nat := ow w R h (lfS w R n h)
theorem gvS_le {w : Kw} {R : Rw} {n h : Nat} : gvS w R n h ≤ n := Nat.le_trans ow_le lfS_le
theorem shareOut_c {w : Kw} {R : Rw} {μ : Mem} {q hn n k : Nat} (hq : Sq q hn) (hn1 : n < hn) (hm : MoE μ) (hn6 : kn w ≤ 6) (ht : TB w R q n μ) (hk : k ≤ n) : Wo (fX6_shareOut q hn (nI k) μ) (fun s => (∀ h, h < kn w → s.1 (q + 18) h = nI (gvS w R k h)) ∧ (∀ j, j ≠ q + 18 → s.1 j = μ.1 j) ∧ s.2 = μ.2) := by
  have hq2 := Sq_q hq
  unfold fX6_shareOut
  rw [bd_eq, MoE_q hq hm, jmin_nI (by omega) (by omega)]
  refine lp0 (σ := Int32 × Mem) (fun n' x s => fX6_shareOut_l11 q hn n' s.1 x s.2) (kn w) (by omega) (fun i s => s.1 = nI (lfS w R k i) ∧ (∀ h, h < i → s.2.1 (q + 18) h = nI (gvS w R k h)) ∧ (∀ j, j ≠ q + 18 → s.2.1 j = μ.1 j) ∧ s.2.2 = μ.2) _ (nI k, μ) ⟨rfl, fun h hh => by omega, fun _ _ => rfl, rfl⟩ ?_ ?_
  · rintro n' i ⟨x, s⟩ hi ⟨i1, i2, i3, i4⟩ hrec
    dsimp only at i1 i2 i3 i4 ⊢
    subst i1
    show Wo (fX6_shareOut_s11 _ _ _ _ _ _) _
    unfold fX6_shareOut_s11
    have e5 : s.1 q 5 = nI (kn w) := by rw [i3 q (by omega)]; exact ht.1
    have hl := @lfS_le w R k i
    rw [e5, if_neg (by simp (disch := omega) only [L_add, L_add2, L_mul, L_mul2, L_sub, nI_add, pk_mul, pk_sub, L_le, L_le2, L_lt, L_lt2, L_eq, L_eq2, nI_leI, nI_ltI, nI_eq, nI_clamp, ix_nI, ix_lit, L_cl]; omega), Wo_b1]
    refine Wo_mono (fewest_c (R := R) hq hn1 (k := lfS w R k i) (by omega) (by omega) (fun k' hk' => by rw [i3 _ (by omega)]; exact ht.2.1 i hi k' hk') (fun k' hk' => by rw [i3 _ (by omega)]; exact ht.2.2 (i + 1) (by omega) k' hk')) ?_
    rintro r rfl
    have hle := @ow_le w R i (lfS w R k i)
    rw [ix_nI (by omega) (by omega), gd_true, bd_eq, gd_true, bd_eq, nI_clamp (by omega), rd_Is, pk_sub hle, nI_1]
    refine hrec (nI (lfS w R k (i + 1)), upI s (q + 18) i (nI (ow w R i (lfS w R k i)))) ⟨rfl, fun h hh => ?_, fun j hj => by dsimp only; rw [rd_Ii hj]; exact i3 j hj, i4⟩
    dsimp only
    by_cases he : h = i
    · subst he; rw [rd_Is]; rfl
    · rw [rd_Ik he]; exact i2 h (by omega)
  · rintro n' ⟨x, s⟩ ⟨i1, i2, i3, i4⟩
    dsimp only at i1 i2 i3 i4 ⊢
    show Wo (fX6_shareOut_s11 _ _ _ _ _ _) _
    unfold fX6_shareOut_s11
    have e5 : s.1 q 5 = nI (kn w) := by rw [i3 q (by omega)]; exact ht.1
    rw [e5, if_pos (by simp (disch := omega) only [L_add, L_add2, L_mul, L_mul2, L_sub, nI_add, pk_mul, pk_sub, L_le, L_le2, L_lt, L_lt2, L_eq, L_eq2, nI_leI, nI_ltI, nI_eq, nI_clamp, ix_nI, ix_lit, L_cl]; omega), Wo_some]
    exact ⟨i2, i3, i4⟩
