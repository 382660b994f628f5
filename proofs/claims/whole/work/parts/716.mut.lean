theorem psh_mem {R R1 : Rw} {hs : List Rw} (h : R1 ∈ psh R hs) : R1 = R ∨ R1 ∈ hs := by
  have := List.mem_of_mem_take h
  simpa using this
theorem psh_GS {w : Kw} {R : Rw} {hs : List Rw} (g : GS w R) (h : ∀ R ∈ hs, GS w R) : ∀ R1 ∈ psh R hs, GS w R1 := by
  intro R1 h1
  rcases psh_mem h1 with rfl | h2
  · exact g
  · exact h R1 h2
theorem REL_new {μ ν μ' ν' : Mem} {w : Kw} {L : Nat} {R' : Rw} {hs' : List Rw} (a1 : KZ w) (a2 : QC w μ) (a3 : QL w L ν) (a8 : SS w μ ν) (a9 : TT μ ν) (a10 : TP μ ν) (a11 : μ.1 1 16 = ν.1 0 17) (a12 : WT μ ν) (g : GS w R') (s : SF μ' 24 (kp w) R') (n : NR ν' R') (hg : ∀ R ∈ hs', GS w R) (hc : HC μ' (kp w) hs') (hm : HM ν' hs') (fc : ∀ j, ¬ (23 ≤ j ∧ j ≤ 25) → ¬ (30 ≤ j ∧ j ≤ 111) → μ'.1 j = μ.1 j) (fc2 : μ'.2 = μ.2) (fm : ∀ j, j ≠ 0 → ¬ (29 ≤ j ∧ j ≤ 43) → ν'.1 j = ν.1 j) (fm0 : ∀ k, ¬ (46 ≤ k ∧ k ≤ 50) → k ≠ 53 → ν'.1 0 k = ν.1 0 k) (fm2 : ν'.2 = ν.2) : REL μ' ν' := by
  refine ⟨w, L, R', a1, ?_, ?_, g, s, n, ⟨hs', hg, hc, hm⟩, ?_, ?_, ?_, ?_, ?_⟩
  · exact QC_fr a2 (fun j _ _ => fc j (by omega) (by omega))
  · exact QL_fr a3 (fun j _ _ => fm j (by omega) (by omega)) (fm0 18 (by omega) (by omega))
  · exact SS_fr a8 (fun j _ _ => fc j (by omega) (by omega)) (fm 47 (by omega) (by omega)) (fm 48 (by omega) (by omega))
  · exact TT_fr a9 (fun j _ _ => fc j (by omega) (by omega)) (fun j _ _ => fm j (by omega) (by omega)) (fm0 63 (by omega) (by omega))
  · exact TP_fr a10 (by rw [fc 1 (by omega) (by omega)]) (fm0 2 (by omega) (by omega)) (fc 2 (by omega) (by omega)) (fm 1 (by omega) (by omega))
  · rw [fc 1 (by omega) (by omega), fm0 17 (by omega) (by omega)]; exact a11
  · exact WT_fr a12 (MqE_of (fun j hj => fc j (by omega) (by omega))) (by rw [fc2]) (by rw [fm2])
theorem push22_c {μ : Mem} {pan R : Rw} {hs : List Rw} {nw nw' : Nat} (hS : SF μ 24 pan R) (hl : hs.length ≤ 40) (h4 : μ.1 30 4 = nI hs.length) (hb : ∀ i R, hs[i]? = some R → SF μ (32 + 2 * ((nw + 40 - i) % 40)) pan R) (hn : nw < 40) (hn' : nw' = (nw + 1) % 40) : Wo (fX0_push_b22 24 (nI nw') μ) (fun μ' => HC μ' pan (psh R hs) ∧ (∀ j, ¬ (30 ≤ j ∧ j ≤ 111) → μ'.1 j = μ.1 j) ∧ μ'.2 = μ.2) := by
  unfold fX0_push_b22
  rw [bd_eq, rd_Is, ix_nI (by omega) (by omega), gd_true, nI_clamp (by omega), Wo_b1]
  have hS1 : SF (upI μ 30 3 (nI nw')) 24 pan R := SF_fr hS (rd_Ii (by omega)) (rd_Ii (by omega))
  refine Wo_mono (copyF_c (q := 31 + 1 + 2 * nw') hS1 (by omega) (by omega) (by omega)) ?_
  rintro μ1 ⟨h1, h2, h3⟩
  rw [bd_eq, Wo_some]
  have e4 : μ1.1 30 4 = nI hs.length := by rw [h1 30 (by omega) (by omega), rd_Ik (by omega)]; exact h4
  refine ⟨⟨?_, nw', by omega, ?_, ?_⟩, ?_, ?_⟩
  · rw [rd_Is, e4, psh_len hl, nI_1]
    unfold jmin
    split
    · rename_i hc
      rw [show (40 : Int32) = nI 40 from rfl, nI_ltI (by omega) (by omega)] at hc
      rw [if_neg (by omega)]
    · rename_i hc
      rw [show (40 : Int32) = nI 40 from rfl, nI_ltI (by omega) (by omega)] at hc
      by_cases hx : hs.length = 40
      · rw [if_pos hx]; rfl
      · rw [if_neg hx, show hs.length + 1 = 40 by omega]; rfl
  · rw [rd_Ik (by omega), h1 30 (by omega) (by omega), rd_Is]
  · intro i R1 hi
    rcases psh_get hi with ⟨rfl, rfl⟩ | ⟨j, rfl, hj, hg⟩
    · have e : 32 + 2 * ((nw' + 40 - 0) % 40) = 31 + 1 + 2 * nw' := by omega
      rw [e]
      exact SF_fr h3 (rd_Ii (by omega)) (rd_Ii (by omega))
    · have e : (nw' + 40 - (j + 1)) % 40 = (nw + 40 - j) % 40 := by omega
      rw [e]
      refine SF_fr (hb j R1 hg) ?_ ?_
      · rw [rd_Ii (by omega), h1 _ (by omega) (by omega), rd_Ii (by omega)]
      · rw [rd_Ii (by omega), h1 _ (by omega) (by omega), rd_Ii (by omega)]
  · intro j hj
    rw [rd_Ii (by omega), h1 j (by omega) (by omega), rd_Ii (by omega)]
  · exact h2
theorem push_c {μ : Mem} {pan R : Rw} {hs : List Rw} (hS : SF μ 24 pan R) (hl : hs.length ≤ 40) (hH : HC μ pan hs) : Wo (fX0_push 24 μ) (fun μ' => HC μ' pan (psh R hs) ∧ (∀ j, ¬ (30 ≤ j ∧ j ≤ 111) → μ'.1 j = μ.1 j) ∧ μ'.2 = μ.2) := by
  obtain ⟨b1, nw, b2, b3, b4⟩ := hH
  unfold fX0_push
  rw [b3, nI_1]
  refine Wo_if (fun hc => ?_) (fun hc => ?_)
  · rw [L_le (by omega) (by omega)] at hc
    exact push22_c (nw' := 0) hS hl b1 b4 b2 (by omega)
  · rw [L_le (by omega) (by omega)] at hc
    exact push22_c (nw' := nw + 1) hS hl b1 b4 b2 (by omega)
/-- a call that changes the state: class and model to the same new row -/
theorem mut_of {μ ν : Mem} {f g : Option (Int32 × Mem)} {w : Kw} {L : Nat} {R : Rw} (a1 : KZ w) (a2 : QC w μ) (a3 : QL w L ν) (a4 : GS w R) (a7 : HH w μ ν) (a8 : SS w μ ν) (a9 : TT μ ν) (a10 : TP μ ν) (a11 : μ.1 1 16 = ν.1 0 17) (a12 : WT μ ν) (v : Int32) (R' : Rw) (g' : GS w R')
    (hf : ∀ hs, hs.length ≤ 40 → HC μ (kp w) hs → Wo f (fun p => p.1 = v ∧ SF p.2 24 (kp w) R' ∧ HC p.2 (kp w) (psh R hs) ∧ (∀ j, ¬ (23 ≤ j ∧ j ≤ 25) → ¬ (30 ≤ j ∧ j ≤ 111) → p.2.1 j = μ.1 j) ∧ p.2.2 = μ.2))
    (hg : ∀ hs, HM ν hs → Wo g (fun p => p.1 = v ∧ NR p.2 R' ∧ HM p.2 (psh R hs) ∧ (∀ j, j ≠ 0 → ¬ (29 ≤ j ∧ j ≤ 43) → p.2.1 j = ν.1 j) ∧ (∀ k, ¬ (46 ≤ k ∧ k ≤ 50) → k ≠ 53 → p.2.1 0 k = ν.1 0 k) ∧ p.2.2 = ν.2)) : ∃ (r : Int32) (μ' ν' : Mem), f = some (r, μ') ∧ g = some (r, ν') ∧ REL μ' ν' := by
  obtain ⟨hs, c1, c2, c3⟩ := a7
  obtain ⟨⟨r, μ'⟩, e1, h1, h2, h3, h4, h5⟩ := hf hs c3.1 c2
  obtain ⟨⟨r', ν'⟩, e2, k1, k2, k3, k4, k5, k6⟩ := hg hs c3
  dsimp only at h1 h2 h3 h4 h5 k1 k2 k3 k4 k5 k6
  subst h1; subst k1
  exact ⟨_, μ', ν', e1, e2, REL_new a1 a2 a3 a8 a9 a10 a11 a12 g' h2 k2 (psh_GS a4 c1) h3 k3 h4 h5 k4 k5 k6⟩
/-- the model's half: copies, an operation on the row, records -/
theorem mutm {w : Kw} {L : Nat} {ν : Mem} {R : Rw} {hs : List Rw} (a3 : QL w L ν) (a6 : NR ν R) (hM : HM ν hs) (K : Mem → Option (Int32 × Mem)) (Q : Int32 × Mem → Prop) (hK : ∀ s, MR s R → Fc ν s → NR s R → HM s hs → QL w L s → s.1 0 49 = kseed w → s.1 0 50 = 0 → Wo (K s) Q) : Wo (b1 (fX12_copies ν) K) Q := by
  rw [Wo_b1]
  refine Wo_mono (copies_s a3 a6) ?_
  rintro s ⟨h1, h2, h3, h4⟩
  refine hK s h1 h2 (NR_Fc a6 h2) ?_ (QL_Fc a3 h2) h3 h4
  refine ⟨hM.1, (h2.2.1 53 (by omega) (by omega) (by omega)).trans hM.2.1, ?_⟩
  rw [h2.1 35 (by omega) (by omega) (by omega) (by omega)]
  exact hM.2.2
/-- .. its end -/
theorem mutr {ν s : Mem} {R R' : Rw} {hs : List Rw} (hM : MR s R') (hN : NR s R) (hH : HM s hs) (hf : Fc ν s) (K : Mem → Option (Int32 × Mem)) (v : Int32) (hK : ∀ s', NR s' R' → K s' = some (v, s')) : Wo (b1 (fX12_records s) K) (fun p => p.1 = v ∧ NR p.2 R' ∧ HM p.2 (psh R hs) ∧ (∀ j, j ≠ 0 → ¬ (29 ≤ j ∧ j ≤ 43) → p.2.1 j = ν.1 j) ∧ (∀ k, ¬ (46 ≤ k ∧ k ≤ 50) → k ≠ 53 → p.2.1 0 k = ν.1 0 k) ∧ p.2.2 = ν.2) := by
  rw [Wo_b1]
  refine Wo_mono (records_m hN hM hH) ?_
  rintro s' ⟨h1, h2, h3, h4, h5⟩
  rw [hK s' h1, Wo_some]
  refine ⟨rfl, h1, h2, ?_, ?_, ?_⟩
  · intro j a b
    show s'.1 j = _
    rw [h3 j a (by omega) (by omega)]
    exact hf.1 j a (by omega) (by omega) (by omega)
  · intro k a b
    show s'.1 0 k = _
    rw [h4 k b]
    exact hf.2.1 k (by omega) (by omega) (by omega)
  · exact h5.trans hf.2.2
