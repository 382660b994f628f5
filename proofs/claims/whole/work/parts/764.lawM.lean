def FYm (ν0 : Mem) (bc bu ec ub : Nat) (ν : Mem) : Prop := (∀ j, j ≠ 0 → ¬ (21 ≤ j ∧ j ≤ 28) → ν.1 j = ν0.1 j) ∧ (∀ k, ¬ f0 k → k ≠ 33 → ν.1 0 k = ν0.1 0 k) ∧ ν.2 = ν0.2 ∧ (∀ j, 21 ≤ j → j ≤ 25 → ∀ i, i < bc ∨ bu ≤ i → ν.1 j i = ν0.1 j i) ∧ ∀ i, i < ec ∨ ub ≤ i → ν.1 26 i = ν0.1 26 i ∧ ν.1 27 i = ν0.1 27 i
theorem FYm_rfl {ν : Mem} {bc bu ec ub : Nat} : FYm ν bc bu ec ub ν := ⟨fun _ _ _ => rfl, fun _ _ _ => rfl, rfl, fun _ _ _ _ _ => rfl, fun _ _ => ⟨rfl, rfl⟩⟩
theorem FYm_0 {ν0 ν : Mem} {bc bu ec ub k : Nat} {v : Int32} (h : FYm ν0 bc bu ec ub ν) (hk : f0 k ∨ k = 33) : FYm ν0 bc bu ec ub (upI ν 0 k v) := by
  obtain ⟨a1, a2, a3, a4, a5⟩ := h
  refine ⟨fun j x y => by rw [rd_Ii x]; exact a1 j x y, fun i x y => ?_, a3, fun j x y i z => by rw [rd_Ii (by omega)]; exact a4 j x y i z, fun i z => by rw [rd_Ii (by omega), rd_Ii (by omega)]; exact a5 i z⟩
  rw [rd_Ik (fun hx => by subst hx; exact hk.elim x y)]
  exact a2 i x y
theorem FYm_b {ν0 ν : Mem} {bc bu ec ub j b : Nat} {v : Int32} (h : FYm ν0 bc bu ec ub ν) (hj : 21 ≤ j ∧ j ≤ 25) (hb : bc ≤ b ∧ b < bu) : FYm ν0 bc bu ec ub (upI ν j b v) := by
  obtain ⟨a1, a2, a3, a4, a5⟩ := h
  refine ⟨fun i x y => by rw [rd_Ii (by omega)]; exact a1 i x y, fun i x y => by rw [rd_Ii (by omega)]; exact a2 i x y, a3, fun i x y m z => ?_, fun i z => by rw [rd_Ii (by omega), rd_Ii (by omega)]; exact a5 i z⟩
  by_cases he : i = j
  · subst he; rw [rd_Ik (by omega)]; exact a4 i x y m z
  · rw [rd_Ii he]; exact a4 i x y m z
theorem FYm_X {ν0 ν ν' : Mem} {bc bu ec ub ec' : Nat} (h : FYm ν0 bc bu ec ub ν) (hf : FXm ν ν') (he : ec ≤ ec') (h2 : ∀ i, i < ec' ∨ ub ≤ i → ν'.1 26 i = ν.1 26 i ∧ ν'.1 27 i = ν.1 27 i) : FYm ν0 bc bu ec ub ν' := by
  obtain ⟨a1, a2, a3, a4, a5⟩ := h
  exact ⟨fun j x y => (hf.1 j x (by omega) (by omega) (by omega)).trans (a1 j x y), fun k x y => (hf.2.1 k x).trans (a2 k x y), hf.2.2.trans a3, fun j x y i z => by rw [hf.1 j (by omega) (by omega) (by omega) (by omega)]; exact a4 j x y i z, fun i z => by have q := h2 i (by omega); have r := a5 i z; exact ⟨q.1.trans r.1, q.2.trans r.2⟩⟩
theorem TKm_FY {tk : Nat → Nat} {tv : Nat → Int32} {tn : Nat → Int64} {pl : Nat → Int32} {e : Nat} {ν ν' : Mem} {bc bu ec ub : Nat} (h : TKm tk tv tn pl e ν) (hf : FYm ν bc bu ec ub ν') : TKm tk tv tn pl e ν' := TKm_fr h (hf.1 3 (by omega) (by omega)) (hf.1 4 (by omega) (by omega)) (hf.1 5 (by omega) (by omega)) (by rw [hf.2.2.1])
theorem must_f {ν : Mem} {k : Nat} {x : Int32} (h13 : ν.1 0 13 = nI k) (hk : k = 1 ∨ k = 2) : fX12_must x ν = some ν := by
  unfold fX12_must
  rw [is_f h13 hk, b1_some, if_pos rfl, fail_f h13 hk, b1_some]
theorem mstM {tk : Nat → Nat} {tv : Nat → Int32} {tn : Nat → Int64} {pl : Nat → Int32} {e : Nat} {α : Type} {t k : Nat} {ν : Mem} {F : Mem → Option α} {Q : α → Prop} (hT : TE tk e) (hK : TKm tk tv tn pl e ν) (h13 : ν.1 0 13 = 0) (h11 : ν.1 0 11 = nI t) (ht : t ≤ e) (hk : k < 41) (hk0 : k ≠ 0) (hk3 : k ≠ 3) (herr : ∀ x, (x = 1 ∨ x = 2) → pTk tk k t = .error (x, t) → Wo (F (upI (upI ν 0 13 (nI x)) 0 14 (pl t))) Q) (hok : pTk tk k t = .ok (t + 1) → tk t = k → t < 400 → t + 1 ≤ e → Wo (F (upI ν 0 11 (nI (t + 1)))) Q) : Wo (b1 (fX12_must (nI k) ν) F) Q := by
  unfold fX12_must
  rw [is_m hT hK h13 h11 ht hk, b1_some]
  by_cases h : tk t = k
  · rw [if_pos h, if_neg n10]
    by_cases h4 : t < 400
    · rw [goesOn_ok h11 h4, b1_some, b1_some]
      exact hok (pTk_t h h4) h h4 (TE_nx hT ht h4 (by omega) (by omega))
    · rw [goesOn_2 hT hK h13 h11 ht h4, b1_some, b1_some]
      exact herr 2 (Or.inr rfl) (pTk_2 h h4)
  · rw [if_neg h, if_pos rfl, fail_m hT hK h13 h11 ht, b1_some, b1_some]
    exact herr 1 (Or.inl rfl) (pTk_1 h)
theorem expM {tk : Nat → Nat} {tv : Nat → Int32} {tn : Nat → Int64} {pl : Nat → Int32} {e : Nat} {α : Type} {t ec ub : Nat} {ν : Mem} {F : Mem → Option α} {Q : α → Prop} (hT : TE tk e) (hK : TKm tk tv tn pl e ν) (h8 : ub ≤ 840) (h13 : ν.1 0 13 = 0) (h11 : ν.1 0 11 = nI t) (h12 : ν.1 0 12 = 0) (h39 : ν.1 0 39 = nI ec) (ht : t ≤ e) (hr : ec + 401 ≤ ub + t) (herr : ∀ x t' ν', (x = 1 ∨ x = 2) → pE tk tv t = .error (x, t') → FMx pl ν ec ub x t' ν' → Wo (F ν') Q) (hok : ∀ c t' ν', pE tk tv t = .ok (c, t') → OKm ν ec ub c t' ν' → t < t' → t' ≤ e → EX 15 c → c.length ≤ t' - t → Wo (F ν') Q) : Wo (b1 (fX12_expression ν) F) Q := by
  rw [Wo_b1]
  refine Wo_mono (expr_m (tv := tv) hT hK h8 h13 h11 h12 h39 ht hr) ?_
  intro s hr
  have hp := pE_ok (tv := tv) hT ht
  cases es : pE tk tv t with
  | error x =>
    obtain ⟨k, t'⟩ := x
    rw [es] at hr hp
    exact herr k t' s hp.1 es hr
  | ok q =>
    obtain ⟨c, t'⟩ := q
    rw [es] at hr hp
    exact hok c t' s es hr hp.1 hp.2.1 hp.2.2.1 hp.2.2.2
def FLm (pl : Nat → Int32) (ν0 : Mem) (bc bu ec ub x t' : Nat) (ν : Mem) : Prop := ν.1 0 13 = nI x ∧ ν.1 0 14 = pl t' ∧ FYm ν0 bc bu ec ub ν
/-- a fault state in a law: so many branches -/
def FBm (pl : Nat → Int32) (ν0 : Mem) (bc bu ec ub x t' b : Nat) (ν : Mem) : Prop := FLm pl ν0 bc bu ec ub x t' ν ∧ (x = 1 ∨ x = 2) ∧ ν.1 0 33 = nI b
theorem FBm_b {pl : Nat → Int32} {ν0 ν : Mem} {bc bu ec ub x t' b j i : Nat} {v : Int32} (h : FBm pl ν0 bc bu ec ub x t' b ν) (hj : 21 ≤ j ∧ j ≤ 25) (hi : bc ≤ i ∧ i < bu) : FBm pl ν0 bc bu ec ub x t' b (upI ν j i v) :=
  ⟨⟨by rw [rd_Ii (by omega)]; exact h.1.1, by rw [rd_Ii (by omega)]; exact h.1.2.1, FYm_b h.1.2.2 hj hi⟩, h.2.1, by rw [rd_Ii (by omega)]; exact h.2.2⟩
theorem term_f {pl : Nat → Int32} {ν0 ν : Mem} {bc bu ec ub x t' b : Nat} (h : FBm pl ν0 bc bu ec ub x t' b ν) (hb : bc ≤ b ∧ b < bu) (hu : bu ≤ 260) : Wo (fX12_term ν) (FBm pl ν0 bc bu ec ub x t' (b + 1)) := by
  have hx := h.2.1
  unfold fX12_term
  rw [h.2.2, ix_nI (by omega) (by omega), gd_true, nI_clamp (by omega), bd_eq, rd_Ii (by omega), h.1.1, if_neg (nI_ne0 (by omega) (by omega))]
  have h1 := FBm_b (v := ν.1 0 39) h (j := 24) (i := b) (by omega) hb
  unfold fX12_term_b24
  rw [h1.2.2, ix_nI (by omega) (by omega), gd_true, nI_clamp (by omega), bd_eq]
  have h2 := FBm_b (v := (upI ν 24 b (ν.1 0 39)).1 0 39) h1 (j := 25) (i := b) (by omega) hb
  rw [h2.2.2, nI_1, bd_eq, Wo_some]
  exact ⟨⟨by rw [rd_Ik (by omega)]; exact h2.1.1, by rw [rd_Ik (by omega)]; exact h2.1.2.1, FYm_0 h2.1.2.2 (Or.inr rfl)⟩, h.2.1, rd_Is⟩
theorem b129_f {pl : Nat → Int32} {ν0 ν : Mem} {bc bu ec ub x t' b : Nat} {x1 x2 : Int32} {Q : Mem → Prop} (h : FBm pl ν0 bc bu ec ub x t' b ν) (hb : bc ≤ b ∧ b < bu) (hu : bu ≤ 260) (hQ : ∀ ν', FLm pl ν0 bc bu ec ub x t' ν' → Q ν') : Wo (fX12_tellLaw_b129 x1 x2 ν) Q := by
  have hx := h.2.1
  unfold fX12_tellLaw_b129
  rw [h.2.2, ix_nI (by omega) (by omega), gd_true, nI_clamp (by omega), bd_eq, Wo_b1]
  refine Wo_mono (term_f (FBm_b h (by omega) hb) hb hu) ?_
  intro ν1 h1
  rw [must_f h1.1.1 hx, b1_some, h1.1.1, if_neg (nI_nle (by omega) (by omega)), Wo_some]
  exact hQ ν1 h1.1
theorem exp_f {k : Nat} {ν : Mem} (h13 : ν.1 0 13 = nI k) (hk : k = 1 ∨ k = 2) : fX12_expression ν = some (upI ν 0 43 0) := by
  unfold fX12_expression
  rw [bd_eq, bd_eq, show FU = 99999 + 1 from rfl, l12_s]
  unfold fX12_expression_s12
  rw [if_neg n10, rd_Ik (by omega), h13, if_neg (nI_ne0 (by omega) (by omega))]
theorem FBm_0 {pl : Nat → Int32} {ν0 ν : Mem} {bc bu ec ub x t' b : Nat} {v : Int32} (h : FBm pl ν0 bc bu ec ub x t' b ν) : FBm pl ν0 bc bu ec ub x t' b (upI ν 0 43 v) :=
  ⟨⟨by rw [rd_Ik (by omega)]; exact h.1.1, by rw [rd_Ik (by omega)]; exact h.1.2.1, FYm_0 h.1.2.2 (Or.inl (Or.inr (Or.inr rfl)))⟩, h.2.1, by rw [rd_Ik (by omega)]; exact h.2.2⟩
theorem b110_f {pl : Nat → Int32} {ν0 ν : Mem} {bc bu ec ub x t' b N : Nat} {x1 x2 x3 : Int32} {Q : Mem → Prop} (h : FBm pl ν0 bc bu ec ub x t' b ν) (hb : bc ≤ b ∧ b + 1 < bu) (hu : bu ≤ 260) (hQ : ∀ ν', FLm pl ν0 bc bu ec ub x t' ν' → Q ν') : Wo (fX12_tellLaw_b110 (fX12_tellLaw_l12 (fun μ32 => fX12_tellLaw_b129 x1 x2 μ32) (N + 1)) (fun μ32 => fX12_tellLaw_b129 x1 x2 μ32) x3 ν) Q := by
  have hx := h.2.1
  unfold fX12_tellLaw_b110
  rw [must_f h.1.1 hx, b1_some, Wo_b1]
  refine Wo_mono (term_f h ⟨hb.1, by omega⟩ hu) ?_
  intro ν1 h1
  rw [must_f h1.1.1 hx, b1_some]
  show Wo (fX12_tellLaw_s12 _ _ _ _) _
  unfold fX12_tellLaw_s12
  rw [h1.1.1, if_neg (nI_ne0 (by omega) (by omega))]
  exact b129_f h1 ⟨by omega, hb.2⟩ hu hQ
/-- the state between the if's of a law -/
def BLm (ν0 : Mem) (sd bc ec bu ub : Nat) (bs : Bs) (t eq : Nat) (ν : Mem) : Prop := ν.1 0 13 = 0 ∧ ν.1 0 11 = nI t ∧ ν.1 0 12 = 0 ∧ ν.1 0 39 = nI eq ∧ ec ≤ eq ∧ ν.1 0 33 = nI (bc + bs.length) ∧ PreM ν sd eq bs bc ∧ FYm ν0 bc bu ec ub ν
theorem brn_m {tk : Nat → Nat} {tv : Nat → Int32} {tn : Nat → Int64} {pl : Nat → Int32} {e : Nat} {ν0 ν : Mem} {sd bc ec bu ub t eq N : Nat} {bs : Bs} {x1 x2 x3 : Int32} {Q : Mem → Prop} (hT : TE tk e) (hK : TKm tk tv tn pl e ν0) (hub : ub = 420 * sd + 420) (hsd : sd < 2) (hbu : bu ≤ 260) (hec : 420 * sd ≤ ec) (ht : t ≤ e) (heq : eq ≤ 420 * sd + t) (hb : bc + bs.length + 2 < bu) (hB : BLm ν0 sd bc ec bu ub bs t eq ν) (h29 : tk t = 29)
    (herr : ∀ x t' ν', pBr tk tv t = .error (x, t') → FLm pl ν0 bc bu ec ub x t' ν' → Q ν')
    (hok : ∀ p t' eq' ν', pBr tk tv t = .ok (p, t') → t + 7 ≤ t' → t' ≤ e → eq' ≤ 420 * sd + t' → eq' + t ≤ eq + t' → BLm ν0 sd bc ec bu ub (bs ++ [p]) t' eq' ν' → Wo (fX12_tellLaw_l12 (fun μ32 => fX12_tellLaw_b129 x1 x2 μ32) (N + 1) (x3 + 1) ν') Q) :
    Wo (fX12_tellLaw_b38 (fX12_tellLaw_l12 (fun μ32 => fX12_tellLaw_b129 x1 x2 μ32) (N + 1)) (fun μ32 => fX12_tellLaw_b129 x1 x2 μ32) x3 ν) Q := by
  have h400 := hT.1
  obtain ⟨b13, b11, b12, b39, beq, b33, bP, bF⟩ := hB
  have hK1 := TKm_FY hK bF
  have h8 : ub ≤ 840 := by omega
  have mkF : ∀ {ν1 : Mem} {x t' : Nat}, (x = 1 ∨ x = 2) → ν1.1 0 33 = nI (bc + bs.length) → ν1.1 0 13 = nI x → ν1.1 0 14 = pl t' → FYm ν0 bc bu ec ub ν1 → FBm pl ν0 bc bu ec ub x t' (bc + bs.length) ν1 := fun hx a b c d => ⟨⟨b, c, d⟩, hx, a⟩
  have nf : ¬ f0 33 := by unfold f0; omega
  unfold fX12_tellLaw_b38
  rw [b13, if_pos (by decide)]
  have tail1 : ∀ {ν1 : Mem} {x t' : Nat}, pBr tk tv t = .error (x, t') → FBm pl ν0 bc bu ec ub x t' (bc + bs.length) ν1 → Wo (b1 (fX12_must 13 ν1) (fun μ18 => gd (ix (μ18.1 0 33) 260) (bd (upI μ18 23 ((μ18.1 0 33).toNatClampNeg) (μ18.1 0 39)) (fun μ20 => (if (μ20.1 0 13) = 0 then b1 (fX12_expression μ20) (fun μ29 => fX12_tellLaw_b110 (fX12_tellLaw_l12 (fun μ32 => fX12_tellLaw_b129 x1 x2 μ32) (N + 1)) (fun μ32 => fX12_tellLaw_b129 x1 x2 μ32) (x3 + 1) μ29) else fX12_tellLaw_b110 (fX12_tellLaw_l12 (fun μ32 => fX12_tellLaw_b129 x1 x2 μ32) (N + 1)) (fun μ32 => fX12_tellLaw_b129 x1 x2 μ32) (x3 + 1) μ20))))) Q := by
    intro ν1 x t' hp hF
    have hx := hF.2.1
    rw [must_f hF.1.1 hx, b1_some, hF.2.2, ix_nI (by omega) (by omega), gd_true, nI_clamp (by omega), bd_eq, rd_Ii (by omega), hF.1.1, if_neg (nI_ne0 (by omega) (by omega))]
    exact b110_f (FBm_b hF (by omega) (by omega)) (by omega) hbu (fun ν' h' => herr x t' ν' hp h')
  by_cases h4 : t < 400
  · have p1 := pTk_t h29 h4
    have hnx := TE_nx hT ht h4 (by omega) (by omega)
    rw [goesOn_ok b11 h4, b1_some]
    have f1 : FYm ν0 bc bu ec ub (upI ν 0 11 (nI (t + 1))) := FYm_0 bF (Or.inl (Or.inl (by omega)))
    have e33 : (upI ν 0 11 (nI (t + 1))).1 0 33 = nI (bc + bs.length) := by rw [rd_Ik (by omega)]; exact b33
    rw [e33, ix_nI (by omega) (by omega), gd_true, nI_clamp (by omega), bd_eq, rd_Ii (by omega), e33, ix_nI (by omega) (by omega), gd_true, nI_clamp (by omega), rd_Ik (by omega), b39, bd_eq]
    generalize hν2 : upI (upI (upI ν 0 11 (nI (t + 1))) 21 (bc + bs.length) 1) 22 (bc + bs.length) (nI eq) = ν2
    have f2 : FYm ν0 bc bu ec ub ν2 := by rw [← hν2]; exact FYm_b (FYm_b f1 (by omega) (by omega)) (by omega) (by omega)
    have z : ∀ k, k ≠ 11 → ν2.1 0 k = ν.1 0 k := fun k hk => by rw [← hν2, rd_Ii (by omega), rd_Ii (by omega), rd_Ik hk]
    have z11 : ν2.1 0 11 = nI (t + 1) := by rw [← hν2, rd_Ii (by omega), rd_Ii (by omega), rd_Is]
    have z21 : ν2.1 21 (bc + bs.length) = 1 := by rw [← hν2, rd_Ii (by omega), rd_Is]
    have z22 : ν2.1 22 (bc + bs.length) = nI eq := by rw [← hν2, rd_Is]
    have zP : PreM ν2 sd eq bs bc := by
      rw [← hν2]
      refine PreM_keep bP (Nat.le_refl _) (fun j a b i c d => ?_) (fun i _ _ => by simp (disch := omega) only [rd_Ii, and_self])
      by_cases e21 : j = 21
      · subst e21; rw [rd_Ii (by omega), rd_Ik (by omega), rd_Ii (by omega)]
      · by_cases e22 : j = 22
        · subst e22; rw [rd_Ik (by omega), rd_Ii (by omega), rd_Ii (by omega)]
        · rw [rd_Ii e22, rd_Ii e21, rd_Ii (by omega)]
    refine expM (tv := tv) (ec := eq) (ub := ub) hT (TKm_FY hK f2) h8 (by rw [z 13 (by omega)]; exact b13) z11 (by rw [z 12 (by omega)]; exact b12) (by rw [z 39 (by omega)]; exact b39) hnx (by omega) (fun x t' ν' hx hp hF => ?_) (fun c1 t1 ν3 p2 o1 l1 l2 e1 l3 => ?_)
    · exact tail1 (by unfold pBr; rw [p1, exB_ok, hp]; rfl) (mkF hx (by rw [hF.2.2.2.2.1 33 nf, z 33 (by omega)]; exact b33) hF.1 hF.2.1 (FYm_X f2 hF.2.2.2 beq hF.2.2.1))
    · obtain ⟨o13, o11, o12, o39, oS, oC, oF⟩ := o1
      have f3 := FYm_X f2 oF beq oC
      have y33 : ν3.1 0 33 = nI (bc + bs.length) := by rw [oF.2.1 33 nf, z 33 (by omega)]; exact b33
      rw [show (13 : Int32) = nI 13 from rfl]
      refine mstM hT (TKm_FY hK f3) o13 o11 l2 (by omega) (by omega) (by omega) (fun x hx hp => ?_) (fun p3 _ _ m3 => ?_)
      · have hF : FBm pl ν0 bc bu ec ub x t1 (bc + bs.length) (upI (upI ν3 0 13 (nI x)) 0 14 (pl t1)) := mkF hx (by rw [rd_Ik (by omega), rd_Ik (by omega)]; exact y33) (by rw [rd_Ik (by omega), rd_Is]) rd_Is (FYm_0 (FYm_0 f3 (Or.inl (Or.inl (by omega)))) (Or.inl (Or.inl (by omega))))
        have := tail1 (ν1 := upI (upI ν3 0 13 (nI x)) 0 14 (pl t1)) (by unfold pBr; rw [p1, exB_ok, p2, exB_ok, hp]; rfl) hF
        rw [must_f hF.1.1 hx, b1_some] at this
        exact this
      · have g33 : (upI ν3 0 11 (nI (t1 + 1))).1 0 33 = nI (bc + bs.length) := by rw [rd_Ik (by omega)]; exact y33
        rw [g33, ix_nI (by omega) (by omega), gd_true, nI_clamp (by omega), rd_Ik (by omega), o39, bd_eq, rd_Ii (by omega), rd_Ik (by omega), o13, if_pos rfl]
        generalize hν4 : upI (upI ν3 0 11 (nI (t1 + 1))) 23 (bc + bs.length) (nI (eq + c1.length)) = ν4
        have f4 : FYm ν0 bc bu ec ub ν4 := by rw [← hν4]; exact FYm_b (FYm_0 f3 (Or.inl (Or.inl (by omega)))) (by omega) (by omega)
        have w0 : ∀ k, k ≠ 11 → ν4.1 0 k = ν3.1 0 k := fun k hk => by rw [← hν4, rd_Ii (by omega), rd_Ik hk]
        have w11 : ν4.1 0 11 = nI (t1 + 1) := by rw [← hν4, rd_Ii (by omega), rd_Is]
        have w23 : ν4.1 23 (bc + bs.length) = nI (eq + c1.length) := by rw [← hν4, rd_Is]
        have wj : ∀ j, j ≠ 0 → j ≠ 23 → ν4.1 j = ν3.1 j := fun j a b => by rw [← hν4, rd_Ii b, rd_Ii a]
        have w23' : ∀ i, i ≠ bc + bs.length → ν4.1 23 i = ν3.1 23 i := fun i hi => by rw [← hν4, rd_Ik hi, rd_Ii (by omega)]
        have hl1 : eq + c1.length ≤ 420 * sd + (t1 + 1) := by omega
        refine expM (tv := tv) (ec := eq + c1.length) (ub := ub) hT (TKm_FY hK f4) h8 (by rw [w0 13 (by omega)]; exact o13) w11 (by rw [w0 12 (by omega)]; exact o12) (by rw [w0 39 (by omega)]; exact o39) m3 (by omega) (fun x t' ν' hx hp hF => ?_) (fun c2 t2 ν5 p4 q1 l4 l5 e2 l6 => ?_)
        · have hF' : FBm pl ν0 bc bu ec ub x t' (bc + bs.length) ν' := mkF hx (by rw [hF.2.2.2.2.1 33 nf, w0 33 (by omega)]; exact y33) hF.1 hF.2.1 (FYm_X f4 hF.2.2.2 (by omega) hF.2.2.1)
          exact b110_f hF' (by omega) hbu (fun ν'' h'' => herr x t' ν'' (by unfold pBr; rw [p1, exB_ok, p2, exB_ok, p3, exB_ok, hp]; rfl) h'')
        · obtain ⟨q13, q11, q12, q39, qS, qC, qF⟩ := q1
          have f5 := FYm_X f4 qF (by omega) qC
          have y33' : ν5.1 0 33 = nI (bc + bs.length) := by rw [qF.2.1 33 nf, w0 33 (by omega)]; exact y33
          unfold fX12_tellLaw_b110
          rw [show (30 : Int32) = nI 30 from rfl]
          refine mstM hT (TKm_FY hK f5) q13 q11 l5 (by omega) (by omega) (by omega) (fun x hx hp => ?_) (fun p5 _ _ m5 => ?_)
          · have hF' : FBm pl ν0 bc bu ec ub x t2 (bc + bs.length) (upI (upI ν5 0 13 (nI x)) 0 14 (pl t2)) := mkF hx (by rw [rd_Ik (by omega), rd_Ik (by omega)]; exact y33') (by rw [rd_Ik (by omega), rd_Is]) rd_Is (FYm_0 (FYm_0 f5 (Or.inl (Or.inl (by omega)))) (Or.inl (Or.inl (by omega))))
            have := b110_f (N := N) (x1 := x1) (x2 := x2) (x3 := x3 + 1) (Q := Q) hF' (by omega) hbu (fun ν'' h'' => herr x t2 ν'' (by unfold pBr; rw [p1, exB_ok, p2, exB_ok, p3, exB_ok, p4, exB_ok, hp]; rfl) h'')
            unfold fX12_tellLaw_b110 at this
            rw [must_f hF'.1.1 hx, b1_some] at this
            exact this
          · unfold fX12_term
            have g33' : (upI ν5 0 11 (nI (t2 + 1))).1 0 33 = nI (bc + bs.length) := by rw [rd_Ik (by omega)]; exact y33'
            rw [g33', ix_nI (by omega) (by omega), gd_true, nI_clamp (by omega), rd_Ik (by omega), q39, bd_eq, rd_Ii (by omega), rd_Ik (by omega), q13, if_pos rfl]
            generalize hν6 : upI (upI ν5 0 11 (nI (t2 + 1))) 24 (bc + bs.length) (nI (eq + c1.length + c2.length)) = ν6
            have f6 : FYm ν0 bc bu ec ub ν6 := by rw [← hν6]; exact FYm_b (FYm_0 f5 (Or.inl (Or.inl (by omega)))) (by omega) (by omega)
            have u0 : ∀ k, k ≠ 11 → ν6.1 0 k = ν5.1 0 k := fun k hk => by rw [← hν6, rd_Ii (by omega), rd_Ik hk]
            have u11 : ν6.1 0 11 = nI (t2 + 1) := by rw [← hν6, rd_Ii (by omega), rd_Is]
            have u24 : ν6.1 24 (bc + bs.length) = nI (eq + c1.length + c2.length) := by rw [← hν6, rd_Is]
            have uj : ∀ j, j ≠ 0 → j ≠ 24 → ν6.1 j = ν5.1 j := fun j a b => by rw [← hν6, rd_Ii b, rd_Ii a]
            have u24' : ∀ i, i ≠ bc + bs.length → ν6.1 24 i = ν5.1 24 i := fun i hi => by rw [← hν6, rd_Ik hi, rd_Ii (by omega)]
            rw [Wo_b1]
            refine expM (tv := tv) (ec := eq + c1.length + c2.length) (ub := ub) hT (TKm_FY hK f6) h8 (by rw [u0 13 (by omega)]; exact q13) u11 (by rw [u0 12 (by omega)]; exact q12) (by rw [u0 39 (by omega)]; exact q39) m5 (by omega) (fun x t' ν' hx hp hF => ?_) (fun c3 t3 ν7 p6 r1 l7 l8 e3 l9 => ?_)
            · have hF' : FBm pl ν0 bc bu ec ub x t' (bc + bs.length) ν' := mkF hx (by rw [hF.2.2.2.2.1 33 nf, u0 33 (by omega)]; exact y33') hF.1 hF.2.1 (FYm_X f6 hF.2.2.2 (by omega) hF.2.2.1)
              unfold fX12_term_b24
              rw [hF'.2.2, ix_nI (by omega) (by omega), gd_true, nI_clamp (by omega), bd_eq, rd_Ii (by omega), hF'.2.2, nI_1, bd_eq, Wo_some]
              have hF2 : FBm pl ν0 bc bu ec ub x t' (bc + bs.length + 1) (upI (upI ν' 25 (bc + bs.length) (ν'.1 0 39)) 0 33 (nI (bc + bs.length + 1))) := by
                have := FBm_b (v := ν'.1 0 39) hF' (j := 25) (i := bc + bs.length) (by omega) (by omega)
                exact ⟨⟨by rw [rd_Ik (by omega)]; exact this.1.1, by rw [rd_Ik (by omega)]; exact this.1.2.1, FYm_0 this.1.2.2 (Or.inr rfl)⟩, hx, rd_Is⟩
              rw [must_f hF2.1.1 hx, b1_some]
              show Wo (fX12_tellLaw_s12 _ _ _ _) _
              unfold fX12_tellLaw_s12
              rw [hF2.1.1, if_neg (nI_ne0 (by omega) (by omega))]
              exact b129_f hF2 (by omega) hbu (fun ν'' h'' => herr x t' ν'' (by unfold pBr; rw [p1, exB_ok, p2, exB_ok, p3, exB_ok, p4, exB_ok, p5, exB_ok, hp]; rfl) h'')
            · obtain ⟨r13, r11, r12, r39, rS, rC, rF⟩ := r1
              have f7 := FYm_X f6 rF (by omega) rC
              have y33'' : ν7.1 0 33 = nI (bc + bs.length) := by rw [rF.2.1 33 nf, u0 33 (by omega)]; exact y33'
              unfold fX12_term_b24
              rw [y33'', ix_nI (by omega) (by omega), gd_true, nI_clamp (by omega), r39, bd_eq, rd_Ii (by omega), y33'', nI_1, bd_eq, Wo_some]
              generalize hν8 : upI (upI ν7 25 (bc + bs.length) (nI (eq + c1.length + c2.length + c3.length))) 0 33 (nI (bc + bs.length + 1)) = ν8
              have f8 : FYm ν0 bc bu ec ub ν8 := by rw [← hν8]; exact FYm_0 (FYm_b f7 (by omega) (by omega)) (Or.inr rfl)
              have v0 : ∀ k, k ≠ 33 → ν8.1 0 k = ν7.1 0 k := fun k hk => by rw [← hν8, rd_Ik hk, rd_Ii (by omega)]
              have v33 : ν8.1 0 33 = nI (bc + bs.length + 1) := by rw [← hν8, rd_Is]
              have v25 : ν8.1 25 (bc + bs.length) = nI (eq + c1.length + c2.length + c3.length) := by rw [← hν8, rd_Ii (by omega), rd_Is]
              have vj : ∀ j, j ≠ 0 → j ≠ 25 → ν8.1 j = ν7.1 j := fun j a b => by rw [← hν8, rd_Ii a, rd_Ii b]
              have v25' : ∀ i, i ≠ bc + bs.length → ν8.1 25 i = ν7.1 25 i := fun i hi => by rw [← hν8, rd_Ii (by omega), rd_Ik hi]
              rw [show (31 : Int32) = nI 31 from rfl]
              refine mstM hT (TKm_FY hK f8) (by rw [v0 13 (by omega)]; exact r13) (by rw [v0 11 (by omega)]; exact r11) l8 (by omega) (by omega) (by omega) (fun x hx hp => ?_) (fun p7 _ _ m7 => ?_)
              · have hF2 : FBm pl ν0 bc bu ec ub x t3 (bc + bs.length + 1) (upI (upI ν8 0 13 (nI x)) 0 14 (pl t3)) := ⟨⟨by rw [rd_Ik (by omega), rd_Is], rd_Is, FYm_0 (FYm_0 f8 (Or.inl (Or.inl (by omega)))) (Or.inl (Or.inl (by omega)))⟩, hx, by rw [rd_Ik (by omega), rd_Ik (by omega)]; exact v33⟩
                show Wo (fX12_tellLaw_s12 _ _ _ _) _
                unfold fX12_tellLaw_s12
                rw [hF2.1.1, if_neg (nI_ne0 (by omega) (by omega))]
                exact b129_f hF2 (by omega) hbu (fun ν'' h'' => herr x t3 ν'' (by unfold pBr; rw [p1, exB_ok, p2, exB_ok, p3, exB_ok, p4, exB_ok, p5, exB_ok, p6, exB_ok, hp]; rfl) h'')
              · have eall : ∀ j, 26 ≤ j → j ≤ 27 → (upI ν8 0 11 (nI (t3 + 1))).1 j = ν7.1 j := fun j a b => by rw [rd_Ii (by omega), vj j (by omega) (by omega)]
                refine hok (c1, c2, c3) (t3 + 1) (eq + c1.length + c2.length + c3.length) _ (by unfold pBr; rw [p1, exB_ok, p2, exB_ok, p3, exB_ok, p4, exB_ok, p5, exB_ok, p6, exB_ok, p7]; rfl) (by omega) m7 (by omega) (by omega) ⟨by rw [rd_Ik (by omega), v0 13 (by omega)]; exact r13, rd_Is, by rw [rd_Ik (by omega), v0 12 (by omega)]; exact r12, by rw [rd_Ik (by omega), v0 39 (by omega)]; exact r39, by omega, by rw [rd_Ik (by omega), v33, List.length_append]; rfl, ?_, FYm_0 f8 (Or.inl (Or.inl (by omega)))⟩
                have k57 : ∀ i, i < eq + c1.length + c2.length → ν7.1 26 i = ν5.1 26 i ∧ ν7.1 27 i = ν5.1 27 i := fun i hi => by have := rC i (Or.inl hi); rw [uj 26 (by omega) (by omega), uj 27 (by omega) (by omega)] at this; exact this
                have k35 : ∀ i, i < eq + c1.length → ν5.1 26 i = ν3.1 26 i ∧ ν5.1 27 i = ν3.1 27 i := fun i hi => by have := qC i (Or.inl hi); rw [wj 26 (by omega) (by omega), wj 27 (by omega) (by omega)] at this; exact this
                have k23 : ∀ i, i < eq → ν3.1 26 i = ν2.1 26 i ∧ ν3.1 27 i = ν2.1 27 i := fun i hi => oC i (Or.inl hi)
                have kbr : ∀ j, 21 ≤ j → j ≤ 25 → ∀ i, i ≠ bc + bs.length → (upI ν8 0 11 (nI (t3 + 1))).1 j i = ν2.1 j i := by
                  intro j a b i hi
                  have s1 : ν8.1 j i = ν7.1 j i := by
                    by_cases hj : j = 25
                    · rw [hj]; exact v25' i hi
                    · rw [vj j (by omega) hj]
                  have s2 : ν6.1 j i = ν5.1 j i := by
                    by_cases hj : j = 24
                    · rw [hj]; exact u24' i hi
                    · rw [uj j (by omega) hj]
                  have s3 : ν4.1 j i = ν3.1 j i := by
                    by_cases hj : j = 23
                    · rw [hj]; exact w23' i hi
                    · rw [wj j (by omega) hj]
                  rw [rd_Ii (by omega), s1, rF.1 j (by omega) (by omega) (by omega) (by omega), s2, qF.1 j (by omega) (by omega) (by omega) (by omega), s3, oF.1 j (by omega) (by omega) (by omega) (by omega)]
                refine PreM_snoc (PreM_keep zP (by omega) (fun j a b i c d => kbr j a b i (by omega)) (fun i a b => ?_)) ⟨?_, eq, ⟨by omega, Nat.le_refl _⟩, ?_, ?_, ?_, ?_, ?_, ?_, ?_⟩
                · rw [eall 26 (by omega) (by omega), eall 27 (by omega) (by omega)]
                  have a1 := k57 i (by omega)
                  have a2 := k35 i (by omega)
                  have a3 := k23 i b
                  exact ⟨(a1.1.trans a2.1).trans a3.1, (a1.2.trans a2.2).trans a3.2⟩
                · rw [rd_Ii (by omega), vj 21 (by omega) (by omega), rF.1 21 (by omega) (by omega) (by omega) (by omega), uj 21 (by omega) (by omega), qF.1 21 (by omega) (by omega) (by omega) (by omega), wj 21 (by omega) (by omega), oF.1 21 (by omega) (by omega) (by omega) (by omega)]; exact z21
                · rw [rd_Ii (by omega), vj 22 (by omega) (by omega), rF.1 22 (by omega) (by omega) (by omega) (by omega), uj 22 (by omega) (by omega), qF.1 22 (by omega) (by omega) (by omega) (by omega), wj 22 (by omega) (by omega), oF.1 22 (by omega) (by omega) (by omega) (by omega)]; exact z22
                · rw [rd_Ii (by omega), vj 23 (by omega) (by omega), rF.1 23 (by omega) (by omega) (by omega) (by omega), uj 23 (by omega) (by omega), qF.1 23 (by omega) (by omega) (by omega) (by omega)]; exact w23
                · rw [rd_Ii (by omega), vj 24 (by omega) (by omega), rF.1 24 (by omega) (by omega) (by omega) (by omega)]; exact u24
                · rw [rd_Ii (by omega)]; exact v25
                · refine SegM_in oS (fun i a b => ?_) (fun i a b => ?_)
                  · have b' : i < eq + c1.length := b
                    rw [eall 26 (by omega) (by omega), (k57 i (by omega)).1, (k35 i b').1]
                  · have b' : i < eq + c1.length := b
                    rw [eall 27 (by omega) (by omega), (k57 i (by omega)).2, (k35 i b').2]
                · refine SegM_in qS (fun i a b => ?_) (fun i a b => ?_)
                  · rw [eall 26 (by omega) (by omega), (k57 i (by omega)).1]
                  · rw [eall 27 (by omega) (by omega), (k57 i (by omega)).2]
                · refine SegM_in rS (fun i a b => ?_) (fun i a b => ?_)
                  · rw [eall 26 (by omega) (by omega)]
                  · rw [eall 27 (by omega) (by omega)]
  · rw [goesOn_2 hT hK1 b13 b11 ht h4, b1_some]
    have p1 := pTk_2 h29 h4
    have hF : FBm pl ν0 bc bu ec ub 2 t (bc + bs.length) (upI (upI ν 0 13 2) 0 14 (pl t)) := mkF (Or.inr rfl) (by rw [rd_Ik (by omega), rd_Ik (by omega)]; exact b33) (by rw [rd_Ik (by omega), rd_Is]; rfl) rd_Is (FYm_0 (FYm_0 bF (Or.inl (Or.inl (by omega)))) (Or.inl (Or.inl (by omega))))
    rw [hF.2.2, ix_nI (by omega) (by omega), gd_true, nI_clamp (by omega), bd_eq]
    have hF1 := FBm_b (v := 1) hF (j := 21) (i := bc + bs.length) (by omega) (by omega)
    rw [hF1.2.2, ix_nI (by omega) (by omega), gd_true, nI_clamp (by omega), bd_eq]
    have hF2 := FBm_b (v := (upI (upI (upI ν 0 13 2) 0 14 (pl t)) 21 (bc + bs.length) 1).1 0 39) hF1 (j := 22) (i := bc + bs.length) (by omega) (by omega)
    rw [exp_f hF2.1.1 (Or.inr rfl), b1_some]
    exact tail1 (by unfold pBr; rw [p1]; rfl) (FBm_0 hF2)
