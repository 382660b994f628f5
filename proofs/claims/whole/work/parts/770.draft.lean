theorem ntd_none {w : Option (Nat × Nat)} {c : Bool} {x t : Nat} (h : ntd w c x t = none) : w = none ∧ c = false := by
  cases w with
  | some z => cases h
  | none =>
    cases c with
    | false => exact ⟨rfl, rfl⟩
    | true => cases h
theorem wNo_none {tv : Nat → Int32} {w : Option (Nat × Nat)} {t i : Nat} (h : wNo tv w t i = none) : w = none ∧ ∀ j, j < i → oor j (tv (t + j)) = false := by
  induction i with
  | zero => exact ⟨h, fun j hj => by omega⟩
  | succ i ih =>
    have h1 := ntd_none h
    have h2 := ih h1.1
    refine ⟨h2.1, fun j hj => ?_⟩
    by_cases hji : j = i
    · subst hji; exact h1.2
    · exact h2.2 j (by omega)
def PuD (e t h : Nat) (w : Option (Nat × Nat)) (vs : Nat → Nat → Int32) (nb : Nat → Int32) : Prop := t ≤ e ∧ h ≤ 6 ∧ (∀ y t1, w = some (y, t1) → t1 < t) ∧ (w = none → (∀ i, i < h → ∀ j, j < 5 → oor j (vs i j) = false) ∧ ∀ i, i < 4 → oor (5 + i) (nb i) = false)
def DrC (tk : Nat → Nat) (tv : Nat → Int32) (tn : Nat → Int64) (pl : Nat → Int32) (e t h : Nat) (w : Option (Nat × Nat)) (nm : Nat → Int64) (vs : Nat → Nat → Int32) (nb : Nat → Int32) (D : Nat → Bs × Cd) (μ : Mem) : Prop := TKc tk tv tn pl e μ ∧ μ.1 3 2 = nI t ∧ NTc pl w μ ∧ μ.1 9 2 = nI h ∧ (∀ i, i < h → μ.2 16 i = nm i) ∧ (∀ i, i < h → ∀ j, j < 5 → μ.1 10 (i * 5 + j) = vs i j) ∧ (∀ i, i < 4 → μ.1 9 (3 + i) = nb i) ∧ ∃ sz, μ.1 11 4 = nI sz ∧ sz ≤ t + 10 ∧ ∀ k, k < 4 → (∃ i, μ.1 14 k = nI i ∧ LayC μ 11 sz (D k).1 i (D k).2) ∧ EXL (D k).1 (D k).2
def DrM (tk : Nat → Nat) (tv : Nat → Int32) (tn : Nat → Int64) (pl : Nat → Int32) (e sd t h : Nat) (w : Option (Nat × Nat)) (nm : Nat → Int64) (vs : Nat → Nat → Int32) (nb : Nat → Int32) (D : Nat → Bs × Cd) (ν : Mem) : Prop := TKm tk tv tn pl e ν ∧ (ν.1 0 13 = 0 ∧ ν.1 0 11 = nI t ∧ ν.1 0 12 = 0 ∧ ν.1 0 19 = nI sd) ∧ NTm pl w ν ∧ ν.1 9 sd = nI h ∧ (∀ i, i < h → ν.2 8 i = nm i) ∧ (∀ i, i < h → ∀ j, j < 5 → ν.1 (10 + j) (6 * sd + i) = vs i j) ∧ (∀ i, i < 4 → ν.1 (15 + i) sd = nb i) ∧ ∃ bc ec, ν.1 0 33 = nI bc ∧ ν.1 0 39 = nI ec ∧ (130 * sd ≤ bc ∧ 4 * bc ≤ 520 * sd + t ∧ 420 * sd ≤ ec ∧ ec ≤ 420 * sd + t) ∧ ∀ k, k < 4 → (ν.1 19 (4 * sd + k) = ν.1 20 (4 * sd + k) ∧ D k = ([], dcL k)) ∨ ∃ b, ν.1 19 (4 * sd + k) = nI b ∧ ν.1 20 (4 * sd + k) = nI (b + (D k).1.length + 1) ∧ LayN ν sd bc ec (D k) b
def FRc (μ0 μ : Mem) : Prop := (∀ j, j ≠ 3 → j ≠ 9 → j ≠ 10 → ¬ (11 ≤ j ∧ j ≤ 14) → μ.1 j = μ0.1 j) ∧ (∀ k, ¬ (2 ≤ k ∧ k ≤ 6) → μ.1 9 k = μ0.1 9 k) ∧ (∀ k, k ≠ 4 → μ.1 11 k = μ0.1 11 k) ∧ ∀ j, j ≠ 16 → μ.2 j = μ0.2 j
theorem FRc_rfl {μ : Mem} : FRc μ μ := ⟨fun _ _ _ _ _ => rfl, fun _ _ => rfl, fun _ _ => rfl, fun _ _ => rfl⟩
theorem FRc_tr {a b c : Mem} (h : FRc a b) (h2 : FRc b c) : FRc a c := ⟨fun j x y z u => (h2.1 j x y z u).trans (h.1 j x y z u), fun k x => (h2.2.1 k x).trans (h.2.1 k x), fun k x => (h2.2.2.1 k x).trans (h.2.2.1 k x), fun j x => (h2.2.2.2 j x).trans (h.2.2.2 j x)⟩
theorem FRc_FH {a b : Mem} (h : FHc a b) : FRc a b := ⟨fun j x y z _ => h.1 j x y z, h.2.2.1, fun k _ => by rw [h.1 11 (by omega) (by omega) (by omega)], h.2.2.2⟩
theorem FRc_FL {a b : Mem} (h : FLc a b) : FRc a b := ⟨fun j x _ _ y => h.1 j x y, fun k _ => by rw [h.1 9 (by omega) (by omega)], h.2.1, fun j _ => by rw [h.2.2]⟩
def fr0 (k : Nat) : Prop := (11 ≤ k ∧ k ≤ 16) ∨ k = 33 ∨ k = 39 ∨ k = 43
def FRm (sd : Nat) (ν0 ν : Mem) : Prop := (∀ j, j ≠ 0 → ¬ (9 ≤ j ∧ j ≤ 28) → ν.1 j = ν0.1 j) ∧ (∀ k, ¬ fr0 k → ν.1 0 k = ν0.1 0 k) ∧ (∀ j, j = 9 ∨ (15 ≤ j ∧ j ≤ 18) → ∀ i, i ≠ sd → ν.1 j i = ν0.1 j i) ∧ (∀ j, 10 ≤ j → j ≤ 14 → ∀ i, ¬ (6 * sd ≤ i ∧ i < 6 * sd + 6) → ν.1 j i = ν0.1 j i) ∧ (∀ j, 19 ≤ j → j ≤ 20 → ∀ i, ¬ (4 * sd ≤ i ∧ i < 4 * sd + 4) → ν.1 j i = ν0.1 j i) ∧ (∀ j, 21 ≤ j → j ≤ 25 → ∀ i, i < 130 * sd ∨ 130 * sd + 130 ≤ i → ν.1 j i = ν0.1 j i) ∧ (∀ j, 26 ≤ j → j ≤ 27 → ∀ i, i < 420 * sd ∨ 420 * sd + 420 ≤ i → ν.1 j i = ν0.1 j i) ∧ ∀ j, j ≠ 8 → ν.2 j = ν0.2 j
theorem FRm_rfl {sd : Nat} {ν : Mem} : FRm sd ν ν := ⟨fun _ _ _ => rfl, fun _ _ => rfl, fun _ _ _ _ => rfl, fun _ _ _ _ _ => rfl, fun _ _ _ _ _ => rfl, fun _ _ _ _ _ => rfl, fun _ _ _ _ _ => rfl, fun _ _ => rfl⟩
theorem FRm_tr {sd : Nat} {a b c : Mem} (h : FRm sd a b) (g : FRm sd b c) : FRm sd a c := by
  obtain ⟨h1, h2, h3, h4, h5, h6, h7, h8⟩ := h
  obtain ⟨g1, g2, g3, g4, g5, g6, g7, g8⟩ := g
  exact ⟨fun j x y => (g1 j x y).trans (h1 j x y), fun k x => (g2 k x).trans (h2 k x), fun j x i y => (g3 j x i y).trans (h3 j x i y), fun j x y i z => (g4 j x y i z).trans (h4 j x y i z), fun j x y i z => (g5 j x y i z).trans (h5 j x y i z), fun j x y i z => (g6 j x y i z).trans (h6 j x y i z), fun j x y i z => (g7 j x y i z).trans (h7 j x y i z), fun j x => (g8 j x).trans (h8 j x)⟩
theorem FRm_FH {sd : Nat} {a b : Mem} (h : FHm sd a b) : FRm sd a b := ⟨fun j x y => h.1 j x (by omega), fun k x => h.2.1 k (fun e => x (Or.inl (by omega))) (fun e => x (Or.inl (by omega))), h.2.2.1, h.2.2.2.1, fun j x y i _ => by rw [h.1 j (by omega) (by omega)], fun j x y i _ => by rw [h.1 j (by omega) (by omega)], fun j x y i _ => by rw [h.1 j (by omega) (by omega)], h.2.2.2.2⟩
theorem FRm_FG {k sd bc ec : Nat} {a b : Mem} (hk : k < 4) (hb : 130 * sd ≤ bc) (he : 420 * sd ≤ ec) (h : FGm a k sd bc ec b) : FRm sd a b := by
  obtain ⟨h1, h2, h3, h4, h5, h6⟩ := h
  refine ⟨fun j x y => h1 j x (by omega) (by omega) (by omega), fun i x => h2 i (fun hf => x ?_) (fun e => x (Or.inr (Or.inl e))), fun j x i _ => by rw [h1 j (by omega) (by omega) (by omega) (by omega)], fun j x y i _ => by rw [h1 j (by omega) (by omega) (by omega) (by omega)], fun j x y i z => ?_, fun j x y i z => h4 j x y i (by omega), fun j x y i z => ?_, fun j _ => by rw [h3]⟩
  · rcases hf with hf | hf | hf
    · exact Or.inl (by omega)
    · exact Or.inr (Or.inr (Or.inl hf))
    · exact Or.inr (Or.inr (Or.inr hf))
  · have := h6 i (by omega)
    rcases (show j = 19 ∨ j = 20 by omega) with rfl | rfl
    · exact this.1
    · exact this.2
  · have := h5 i (by omega)
    rcases (show j = 26 ∨ j = 27 by omega) with rfl | rfl
    · exact this.1
    · exact this.2
/-- a house more -/
theorem DrC_house {tk : Nat → Nat} {tv : Nat → Int32} {tn : Nat → Int64} {pl : Nat → Int32} {e t h : Nat} {w : Option (Nat × Nat)} {nm : Nat → Int64} {vs : Nat → Nat → Int32} {nb : Nat → Int32} {D : Nat → Bs × Cd} {μ : Mem} {t' : Nat} {p : Int32 × Mem} (hD : DrC tk tv tn pl e t h w nm vs nb D μ) (hR : RHc tk tv tn pl e nm t h w μ (.ok t') p) : DrC tk tv tn pl e (t + 8) (h + 1) (wNo tv (ntd w (dupF nm (tn (t + 1)) h 0) 3 (t + 1)) (t + 2) 5) (fun i => if i = h then tn (t + 1) else nm i) (fun i j => if i = h then tv (t + 2 + j) else vs i j) nb D p.2 := by
  obtain ⟨d1, d2, d3, d4, d5, d6, d7, sz, d8, d9, d10⟩ := hD
  obtain ⟨r1, r2, r3, r4, r5, r6, r7, r8, r9, r10, r11, r12⟩ := hR
  refine ⟨TKc_FH d1 r12, r4, r5, r6, fun i hi => ?_, fun i hi j hj => ?_, fun i hi => by rw [r7 (3 + i) (by omega)]; exact d7 i hi, sz, by rw [r12.1 11 (by omega) (by omega) (by omega)]; exact d8, by omega, fun k hk => ⟨?_, (d10 k hk).2⟩⟩
  · dsimp only
    by_cases e1 : i = h
    · rw [if_pos e1, e1]; exact r10
    · rw [if_neg e1, r11 i e1]; exact d5 i (by omega)
  · dsimp only
    by_cases e1 : i = h
    · rw [if_pos e1, e1]; exact r8 j hj
    · rw [if_neg e1, r9 _ (by omega)]; exact d6 i (by omega) j hj
  · obtain ⟨i, e1, e2⟩ := (d10 k hk).1
    exact ⟨i, by rw [r12.1 14 (by omega) (by omega) (by omega)]; exact e1, LayC_keep e2 (Nat.le_refl _) (fun j _ => by rw [r12.1 (11 + 1) (by omega) (by omega) (by omega), r12.1 (11 + 2) (by omega) (by omega) (by omega)]; exact ⟨rfl, rfl⟩)⟩
theorem LawN_FH {sd : Nat} {ν ν' : Mem} {bc ec : Nat} {D : Nat → Bs × Cd} (hf : FHm sd ν ν') (h : ∀ k, k < 4 → (ν.1 19 (4 * sd + k) = ν.1 20 (4 * sd + k) ∧ D k = ([], dcL k)) ∨ ∃ b, ν.1 19 (4 * sd + k) = nI b ∧ ν.1 20 (4 * sd + k) = nI (b + (D k).1.length + 1) ∧ LayN ν sd bc ec (D k) b) : ∀ k, k < 4 → (ν'.1 19 (4 * sd + k) = ν'.1 20 (4 * sd + k) ∧ D k = ([], dcL k)) ∨ ∃ b, ν'.1 19 (4 * sd + k) = nI b ∧ ν'.1 20 (4 * sd + k) = nI (b + (D k).1.length + 1) ∧ LayN ν' sd bc ec (D k) b := by
  intro k hk
  rw [hf.1 19 (by omega) (by omega), hf.1 20 (by omega) (by omega)]
  rcases h k hk with h | ⟨b, h1, h2, h3⟩
  · exact Or.inl h
  · exact Or.inr ⟨b, h1, h2, LayN_keep h3 (Nat.le_refl _) (Nat.le_refl _) (fun j x y i _ _ => by rw [hf.1 j (by omega) (by omega)]) (fun i _ _ => by rw [hf.1 26 (by omega) (by omega), hf.1 27 (by omega) (by omega)]; exact ⟨rfl, rfl⟩)⟩
theorem DrM_house {tk : Nat → Nat} {tv : Nat → Int32} {tn : Nat → Int64} {pl : Nat → Int32} {e sd t h : Nat} {w : Option (Nat × Nat)} {nm : Nat → Int64} {vs : Nat → Nat → Int32} {nb : Nat → Int32} {D : Nat → Bs × Cd} {ν : Mem} {t' : Nat} {ν' : Mem} (hD : DrM tk tv tn pl e sd t h w nm vs nb D ν) (hR : RHm tk tv tn pl nm sd t h w ν (.ok t') ν') : DrM tk tv tn pl e sd (t + 8) (h + 1) (wNo tv (ntd w (dupF nm (tn (t + 1)) h 0) 3 (t + 1)) (t + 2) 5) (fun i => if i = h then tn (t + 1) else nm i) (fun i j => if i = h then tv (t + 2 + j) else vs i j) nb D ν' := by
  obtain ⟨d1, d2, d3, d4, d5, d6, d7, bc, ec, d8, d9, d10, d11⟩ := hD
  obtain ⟨r1, r2, r3, r4, r5, r6, r7, r8, r9, r10⟩ := hR
  refine ⟨TKm_FH d1 r10, ⟨r1, r2, by rw [r10.2.1 12 (by omega) (by omega)]; exact d2.2.2.1, by rw [r10.2.1 19 (by omega) (by omega)]; exact d2.2.2.2⟩, r3, r4, fun i hi => ?_, fun i hi j hj => ?_, fun i hi => by rw [r7 (15 + i) (by omega) (by omega)]; exact d7 i hi, bc, ec, by rw [r10.2.1 33 (by omega) (by omega)]; exact d8, by rw [r10.2.1 39 (by omega) (by omega)]; exact d9, by omega, LawN_FH r10 d11⟩
  · dsimp only
    by_cases e1 : i = h
    · rw [if_pos e1, e1]; exact r8
    · rw [if_neg e1, r9 i e1]; exact d5 i (by omega)
  · dsimp only
    by_cases e1 : i = h
    · rw [if_pos e1, e1]; exact r5 j hj
    · rw [if_neg e1, r6 (10 + j) (by omega) (by omega) _ (by omega)]; exact d6 i (by omega) j hj
theorem PuD_house {tv : Nat → Int32} {tn : Nat → Int64} {e t h : Nat} {w : Option (Nat × Nat)} {nm : Nat → Int64} {vs : Nat → Nat → Int32} {nb : Nat → Int32} (hP : PuD e t h w vs nb) (hh : h < 6) (he : t + 8 ≤ e) : PuD e (t + 8) (h + 1) (wNo tv (ntd w (dupF nm (tn (t + 1)) h 0) 3 (t + 1)) (t + 2) 5) (fun i j => if i = h then tv (t + 2 + j) else vs i j) nb := by
  obtain ⟨p1, p2, p3, p4⟩ := hP
  refine ⟨he, by omega, fun y t1 hq => ?_, fun hq => ?_⟩
  · have := wNo_lt (t := t + 2) (fun y t1 hz => ?_) hq
    · omega
    · rcases ntd_at hz with hz | ⟨_, hz⟩
      · have := p3 y t1 hz; omega
      · omega
  · have h1 := wNo_none hq
    have h2 := p4 (ntd_none h1.1).1
    refine ⟨fun i hi j hj => ?_, h2.2⟩
    dsimp only
    by_cases e1 : i = h
    · rw [if_pos e1]; exact h1.2 j hj
    · rw [if_neg e1]; exact h2.1 i (by omega) j hj
