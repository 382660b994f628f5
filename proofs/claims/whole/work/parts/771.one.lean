theorem tlw_f {pl : Nat → Int32} {sd bc ec x t' k : Nat} {ν0 ν : Mem} (hx : x = 1 ∨ x = 2) (hsd : sd < 2) (hb : 130 * sd ≤ bc ∧ bc < 130 * sd + 130) (h13 : ν.1 0 13 = nI x) (h14 : ν.1 0 14 = pl t') (h33 : ν.1 0 33 = nI bc) (hF : FYm ν0 bc (130 * sd + 130) ec (420 * sd + 420) ν) : Wo (fX12_tellLaw (nI k) ν) (fun ν' => ν'.1 0 13 = nI x ∧ ν'.1 0 14 = pl t' ∧ FGm ν0 k sd bc ec ν') := by
  unfold fX12_tellLaw
  rw [must_f h13 hx, b1_some, bd_eq, show FU = 99999 + 1 from rfl, t12_s]
  unfold fX12_tellLaw_s12
  rw [h13, if_neg (nI_ne0 (by omega) (by omega))]
  exact b129_f (pl := pl) (ν0 := ν0) (bc := bc) (bu := 130 * sd + 130) (ec := ec) (ub := 420 * sd + 420) (x := x) (t' := t') (b := bc) ⟨⟨h13, h14, hF⟩, hx, h33⟩ (by omega) (by omega) (fun ν' h' => ⟨h'.1, h'.2.1, FYm_FG h'.2.2⟩)
theorem DrC_num {tk : Nat → Nat} {tv : Nat → Int32} {tn : Nat → Int64} {pl : Nat → Int32} {e t h i : Nat} {w : Option (Nat × Nat)} {nm : Nat → Int64} {vs : Nat → Nat → Int32} {nb : Nat → Int32} {D : Nat → Bs × Cd} {μ μ1 : Mem} {t' : Nat} {p : Int32 × Mem} (hD : DrC tk tv tn pl e t h w nm vs nb D μ) (hi : i < 4) (f1 : FHc μ μ1) (g8 : μ1.1 9 = μ.1 9) (g10 : μ1.1 10 = μ.1 10) (g2 : μ1.2 = μ.2) (hR : RNc tv pl e i (t + 1) w μ1 (.ok t') p) : DrC tk tv tn pl e (t + 3) h (ntd w (oor (5 + i) (tv (t + 1))) 5 (t + 1)) nm vs (fun k => if k = i then tv (t + 1) else nb k) D p.2 := by
  obtain ⟨d1, d2, d3, d4, d5, d6, d7, sz, d8, d9, d10⟩ := hD
  obtain ⟨r1, r2, r3, r4, r5, r6, r7, r8, r9, r10⟩ := hR
  have f2 := FHc_tr f1 r10
  refine ⟨TKc_FH d1 f2, r4, r5, by rw [r7 2 (by omega), g8]; exact d4, fun i hi => by rw [r9, g2]; exact d5 i hi, fun i hi j hj => by rw [r8, g10]; exact d6 i hi j hj, fun k hk => ?_, sz, by rw [f2.1 11 (by omega) (by omega) (by omega)]; exact d8, by omega, fun k hk => ⟨?_, (d10 k hk).2⟩⟩
  · dsimp only
    by_cases e1 : k = i
    · rw [if_pos e1, e1]; exact r6
    · rw [if_neg e1, r7 (3 + k) (by omega), g8]; exact d7 k hk
  · obtain ⟨i, e1, e2⟩ := (d10 k hk).1
    exact ⟨i, by rw [f2.1 14 (by omega) (by omega) (by omega)]; exact e1, LayC_keep e2 (Nat.le_refl _) (fun j _ => by rw [f2.1 (11 + 1) (by omega) (by omega) (by omega), f2.1 (11 + 2) (by omega) (by omega) (by omega)]; exact ⟨rfl, rfl⟩)⟩
theorem DrM_num {tk : Nat → Nat} {tv : Nat → Int32} {tn : Nat → Int64} {pl : Nat → Int32} {e sd t h i : Nat} {w : Option (Nat × Nat)} {nm : Nat → Int64} {vs : Nat → Nat → Int32} {nb : Nat → Int32} {D : Nat → Bs × Cd} {ν : Mem} {t' : Nat} {p : Int32 × Mem} (hD : DrM tk tv tn pl e sd t h w nm vs nb D ν) (hi : i < 4) (hR : RNm tv pl sd (5 + i) t w ν (.ok t') p) : DrM tk tv tn pl e sd (t + 3) h (ntd w (oor (5 + i) (tv (t + 1))) 5 (t + 1)) nm vs (fun k => if k = i then tv (t + 1) else nb k) D (upI p.2 (15 + i) sd p.1) ∧ FHm sd ν (upI p.2 (15 + i) sd p.1) := by
  obtain ⟨d1, d2, d3, d4, d5, d6, d7, bc, ec, d8, d9, d10, d11⟩ := hD
  obtain ⟨r1, r2, r3, r4, r5⟩ := hR
  have f2 : FHm sd ν (upI p.2 (15 + i) sd p.1) := FHm_tr (FHm_FN r5) (FHm_b (Or.inr (by omega)))
  refine ⟨⟨TKm_FH d1 f2, ⟨by rw [rd_Ii (by omega)]; exact r2, by rw [rd_Ii (by omega)]; exact r3, by rw [f2.2.1 12 (by omega) (by omega)]; exact d2.2.2.1, by rw [f2.2.1 19 (by omega) (by omega)]; exact d2.2.2.2⟩, NTm_fr r4 (by rw [rd_Ii (by omega)]) (by rw [rd_Ii (by omega)]), by rw [rd_Ii (by omega), r5.1 9 (by omega)]; exact d4, fun i hi => by rw [rd_I2, r5.2.2]; exact d5 i hi, fun i hi j hj => by rw [rd_Ii (by omega), r5.1 _ (by omega)]; exact d6 i hi j hj, fun k hk => ?_, bc, ec, by rw [f2.2.1 33 (by omega) (by omega)]; exact d8, by rw [f2.2.1 39 (by omega) (by omega)]; exact d9, by omega, LawN_FH f2 d11⟩, f2⟩
  dsimp only
  by_cases e1 : k = i
  · rw [if_pos e1, e1, rd_Is]; exact r1
  · rw [if_neg e1, rd_Ii (by omega), r5.1 _ (by omega)]; exact d7 k hk
theorem PuD_num {tv : Nat → Int32} {e t h i : Nat} {w : Option (Nat × Nat)} {vs : Nat → Nat → Int32} {nb : Nat → Int32} (hP : PuD e t h w vs nb) (he : t + 3 ≤ e) : PuD e (t + 3) h (ntd w (oor (5 + i) (tv (t + 1))) 5 (t + 1)) vs (fun k => if k = i then tv (t + 1) else nb k) := by
  obtain ⟨p1, p2, p3, p4⟩ := hP
  refine ⟨he, p2, fun y t1 hq => ?_, fun hq => ?_⟩
  · rcases ntd_at hq with hz | ⟨_, hz⟩
    · have := p3 y t1 hz; omega
    · omega
  · have h1 := ntd_none hq
    have h2 := p4 h1.1
    refine ⟨h2.1, fun k hk => ?_⟩
    dsimp only
    by_cases e1 : k = i
    · rw [if_pos e1, e1]; exact h1.2
    · rw [if_neg e1]; exact h2.2 k hk
theorem DrC_law {tk : Nat → Nat} {tv : Nat → Int32} {tn : Nat → Int64} {pl : Nat → Int32} {e t h k sz : Nat} {w : Option (Nat × Nat)} {nm : Nat → Int64} {vs : Nat → Nat → Int32} {nb : Nat → Int32} {D : Nat → Bs × Cd} {μ : Mem} {t' : Nat} {D' : Bs × Cd} {p : Int32 × Mem} (hD : DrC tk tv tn pl e t h w nm vs nb D μ) (d8 : μ.1 11 4 = nI sz) (d9 : sz ≤ t + 10) (d10 : ∀ k, k < 4 → (∃ i, μ.1 14 k = nI i ∧ LayC μ 11 sz (D k).1 i (D k).2) ∧ EXL (D k).1 (D k).2) (hk : k < 4) (hR : RLc pl k e (t + 1) sz (upI μ 3 2 (nI (t + 1))) (.ok (D', t')) p) : DrC tk tv tn pl e t' h w nm vs nb (fun i => if i = k then D' else D i) p.2 := by
  obtain ⟨d1, d2, d3, d4, d5, d6, d7, _⟩ := hD
  obtain ⟨r1, r2, r3, ⟨sz', r4, r5, r6, r7⟩, r8, r9, r10, r11, r12, r13, r14⟩ := hR
  have fj : ∀ j, j ≠ 3 → ¬ (11 ≤ j ∧ j ≤ 14) → p.2.1 j = μ.1 j := fun j a b => by rw [r12.1 j a b, rd_Ii a]
  have f2 : p.2.2 = μ.2 := r12.2.2
  refine ⟨TKc_fr d1 (fj 6 (by omega) (by omega)) (fj 8 (by omega) (by omega)) (by rw [f2]), r2, NTc_fr d3 (by rw [r3 3 (by omega), rd_Ik (by omega)]) (by rw [r3 4 (by omega), rd_Ik (by omega)]), by rw [fj 9 (by omega) (by omega)]; exact d4, fun i hi => by rw [f2]; exact d5 i hi, fun i hi j hj => by rw [fj 10 (by omega) (by omega)]; exact d6 i hi j hj, fun i hi => by rw [fj 9 (by omega) (by omega)]; exact d7 i hi, sz', r4, by omega, fun i hi => ?_⟩
  dsimp only
  by_cases e1 : i = k
  · rw [if_pos e1]
    exact ⟨⟨sz, by rw [e1]; exact r9, r7⟩, r8⟩
  · rw [if_neg e1]
    obtain ⟨b, e2, e3⟩ := (d10 i hi).1
    refine ⟨⟨b, by rw [r10 i e1, rd_Ii (by omega)]; exact e2, LayC_keep e3 r5 (fun j hj => ?_)⟩, (d10 i hi).2⟩
    have := r11 j hj
    rw [rd_Ii (by omega), rd_Ii (by omega)] at this
    exact this
theorem DrM_law {tk : Nat → Nat} {tv : Nat → Int32} {tn : Nat → Int64} {pl : Nat → Int32} {e sd t h k bc ec : Nat} {w : Option (Nat × Nat)} {nm : Nat → Int64} {vs : Nat → Nat → Int32} {nb : Nat → Int32} {D : Nat → Bs × Cd} {ν : Mem} {t' : Nat} {D' : Bs × Cd} {ν' : Mem} (hD : DrM tk tv tn pl e sd t h w nm vs nb D ν) (d10 : 130 * sd ≤ bc ∧ 4 * bc ≤ 520 * sd + t ∧ 420 * sd ≤ ec ∧ ec ≤ 420 * sd + t) (d11 : ∀ k, k < 4 → (ν.1 19 (4 * sd + k) = ν.1 20 (4 * sd + k) ∧ D k = ([], dcL k)) ∨ ∃ b, ν.1 19 (4 * sd + k) = nI b ∧ ν.1 20 (4 * sd + k) = nI (b + (D k).1.length + 1) ∧ LayN ν sd bc ec (D k) b) (hk : k < 4) (hR : RLm pl k sd e (t + 1) bc ec (upI ν 0 11 (nI (t + 1))) (.ok (D', t')) ν') : DrM tk tv tn pl e sd t' h w nm vs nb (fun i => if i = k then D' else D i) ν' := by
  obtain ⟨d1, d2, d3, d4, d5, d6, d7, _⟩ := hD
  obtain ⟨r1, r2, r3, bc', ec', r4, r5, r6, r7, r8, r9, r10, r11, r12, r13, r14, r15⟩ := hR
  obtain ⟨g1, g2, g3, g4, g5, g6⟩ := r13
  have fj : ∀ j, j ≠ 0 → j ≠ 19 → j ≠ 20 → ¬ (21 ≤ j ∧ j ≤ 28) → ν'.1 j = ν.1 j := fun j a b c d => by rw [g1 j a b c d, rd_Ii a]
  have f0' : ∀ i, ¬ f0 i → i ≠ 33 → ν'.1 0 i = ν.1 0 i := fun i a b => by have : i ≠ 11 := (fun hx => a (Or.inl (by omega))); rw [g2 i a b, rd_Ik this]
  have n19 : ¬ f0 19 := by unfold f0; omega
  have n15 : ¬ f0 15 := by unfold f0; omega
  have n16 : ¬ f0 16 := by unfold f0; omega
  have f2 : ν'.2 = ν.2 := g3
  refine ⟨TKm_fr d1 (fj 3 (by omega) (by omega) (by omega) (by omega)) (fj 4 (by omega) (by omega) (by omega) (by omega)) (fj 5 (by omega) (by omega) (by omega) (by omega)) (by rw [f2]), ⟨r1, r2, r3, by rw [f0' 19 n19 (by omega)]; exact d2.2.2.2⟩, NTm_fr d3 (f0' 15 n15 (by omega)) (f0' 16 n16 (by omega)), by rw [fj 9 (by omega) (by omega) (by omega) (by omega)]; exact d4, fun i hi => by rw [f2]; exact d5 i hi, fun i hi j hj => by rw [fj (10 + j) (by omega) (by omega) (by omega) (by omega)]; exact d6 i hi j hj, fun i hi => by rw [fj (15 + i) (by omega) (by omega) (by omega) (by omega)]; exact d7 i hi, bc', ec', r4, r5, by omega, fun i hi => ?_⟩
  dsimp only
  by_cases e1 : i = k
  · rw [if_pos e1, e1]
    exact Or.inr ⟨bc, r11, by rw [r12, r6], r10⟩
  · rw [if_neg e1]
    have q := g6 (4 * sd + i) (by omega)
    rw [rd_Ii (by omega), rd_Ii (by omega)] at q
    rw [q.1, q.2]
    rcases d11 i hi with hz | ⟨b, z1, z2, z3⟩
    · exact Or.inl hz
    · refine Or.inr ⟨b, z1, z2, LayN_keep z3 (by omega) r7 (fun j x y m _ v => ?_) (fun m _ v => ?_)⟩
      · rw [g4 j x y m (Or.inl v), rd_Ii (by omega)]
      · have := g5 m (Or.inl v)
        rw [rd_Ii (by omega), rd_Ii (by omega)] at this
        exact this
def JE (pl : Nat → Int32) (sd : Nat) (μ ν : Mem) (p : Int32 × Mem) (ν' : Mem) : Prop := ∃ x t', (x = 1 ∨ x = 2) ∧ p.1 = 0 ∧ p.2.1 3 3 = nI x ∧ p.2.1 3 4 = pl t' ∧ FRc μ p.2 ∧ ν'.1 0 13 = nI x ∧ ν'.1 0 14 = pl t' ∧ FRm sd ν ν'
def JO (tk : Nat → Nat) (tv : Nat → Int32) (tn : Nat → Int64) (pl : Nat → Int32) (e sd t : Nat) (μ ν : Mem) (p : Int32 × Mem) (ν' : Mem) : Prop := p.1 = 1 ∧ ∃ t' h' w' nm' vs' nb' D', t + 1 ≤ t' ∧ PuD e t' h' w' vs' nb' ∧ DrC tk tv tn pl e t' h' w' nm' vs' nb' D' p.2 ∧ DrM tk tv tn pl e sd t' h' w' nm' vs' nb' D' ν' ∧ FRc μ p.2 ∧ FRm sd ν ν'
theorem cK_big : ∀ a : Fin 41, (a.1 < 20 ∨ 28 < a.1) → 8 < cK a.1 := by decide +kernel
theorem m_lo : ∀ a : Fin 41, a.1 < 21 → nI a.1 - 21 < 0 := by decide +kernel
theorem m_hi : ∀ a : Fin 41, 21 ≤ a.1 → ¬ nI a.1 - 21 < 0 := by decide +kernel
