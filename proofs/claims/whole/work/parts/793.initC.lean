def Lo (k : Nat) (a b : Mem) : Prop := ∀ j, j < k → b.1 j = a.1 j ∧ b.2 j = a.2 j
def Hi (k : Nat) (a b : Mem) : Prop := ∀ j, k ≤ j → b.1 j = a.1 j ∧ b.2 j = a.2 j
/-- an object made at k, with all that lies in it -/
theorem New {k : Nat} {μ : Mem} {f : Mem → Option Mem} {P : Mem → Prop} {F : Mem → Option Mem} {Q : Mem → Prop} (h : ∀ μ1 : Mem, μ1.1 k = (fun _ => 0) → Wo (f μ1) P) (hc : ∀ μ' ν : Mem, P ν → Lo k μ μ' → Hi k ν μ' → Wo (F μ') Q) : Wo (bd (zr μ k) (fun μ1 => b1 (f μ1) (fun ν => bd (mg k μ1 ν) F))) Q := by
  rw [bd_eq, Wo_b1]
  refine Wo_mono (h _ zr_eq.1) (fun ν hν => ?_)
  rw [bd_eq]
  refine hc _ ν hν (fun j hj => ?_) (fun j hj => mg_hi hj)
  rw [(mg_lo hj).1, (mg_lo hj).2]
  exact zr_ne (by omega)
def tkQ : Nat → Nat → Nat → List Int64 → List Int64
  | 0, _, _, L => L
  | n + 1, w, k, L => if 21 ≤ w then L else if scc 0 k = 32 then tkQ n (w + 1) (k + 1) L else tkQ n w (k + 1) (L.set w (L.getD w 0 * 27 + ((scc 0 k - 97) + 1).toInt64))
theorem tkL_Q {i : Nat} : ∀ (n w k : Nat) (μ : Mem) (L : List Int64), L.length = 21 → (∀ x, x < 21 → μ.2 (i + 1) x = L.getD x 0) → ∀ x, x < 21 → (tkL i n w k μ).2 (i + 1) x = (tkQ n w k L).getD x 0 := by
  intro n
  induction n with
  | zero => intro w k μ L _ h; exact h
  | succ n ih =>
    intro w k μ L hL h
    rw [tkL, tkQ]
    by_cases c1 : 21 ≤ w
    · rw [if_pos c1, if_pos c1]; exact h
    · rw [if_neg c1, if_neg c1]
      by_cases c2 : scc 0 k = 32
      · rw [if_pos c2, if_pos c2]; exact ih _ _ _ _ hL h
      · rw [if_neg c2, if_neg c2]
        refine ih _ _ _ _ (by rw [List.length_set]; exact hL) (fun x hx => ?_)
        by_cases e : x = w
        · subst e
          rw [rd_Ls, h x hx, List.getD_eq_getElem?_getD (l := L.set _ _), List.getElem?_set_self (by omega)] <;> rfl
        · rw [rd_Lk e, h x hx, List.getD_eq_getElem?_getD (l := L.set _ _), List.getElem?_set_ne (by omega), List.getD_eq_getElem?_getD]
theorem tkQ_0 : tkQ 115 0 0 (List.replicate 21 0) = WCL := by decide +kernel
theorem tkQ_z : ∀ x, x < 21 → (List.replicate 21 (0 : Int64)).getD x 0 = 0 := by
  intro x hx
  rw [List.getD_eq_getElem?_getD, List.getElem?_replicate, if_pos hx] <;> rfl
theorem tkL_w {i : Nat} {μ : Mem} : ∀ x, x < 21 → (tkL i 115 0 0 (zr μ (i + 1))).2 (i + 1) x = WCL.getD x 0 := by
  intro x hx
  rw [← tkQ_0]
  exact tkL_Q 115 0 0 (zr μ (i + 1)) (List.replicate 21 0) List.length_replicate (fun y hy => by rw [zr_eq.2, tkQ_z y hy]) x hx
def Q3 (i : Nat) (μ : Mem) : Prop := μ.1 i 2 = 0 ∧ μ.1 i 3 = 20 ∧ μ.1 i 4 = 20 ∧ μ.1 i 5 = 0 ∧ μ.1 i 6 = 0 ∧ μ.1 (i + 2) 4 = nI 10 ∧ ∀ k, k < 4 → (∃ a, μ.1 (i + 2 + 3) k = nI a ∧ LayC μ (i + 2) 10 [] a (dcL k)) ∧ EXL [] (dcL k)
theorem q3_init {i : Nat} {μ : Mem} : Wo (fX3_init i μ) (Q3 i) := by
  unfold fX3_init
  rw [bd_eq, bd_eq, Wo_b1]
  unfold fX1_init
  rw [bd_eq, bd_eq, bd_eq, bd_eq, Wo_b1]
  refine Wo_mono untold_q (fun μ1 _ => ?_)
  rw [Wo_some, bd_eq, Wo_b1]
  unfold fX3_setUntold
  rw [Wo_b1]
  refine Wo_mono untold_q (fun μ2 h2 => ?_)
  rw [bd_eq, bd_eq, bd_eq, bd_eq, bd_eq, Wo_some, Wo_some]
  obtain ⟨u1, u2⟩ := UQ_lay h2
  generalize hμ3 : upI (upI (upI (upI (upI μ2 i 2 0) i 3 20) i 4 20) i 5 0) i 6 0 = μ3
  have r : ∀ j, j ≠ i → μ3.1 j = μ2.1 j := fun j a => by rw [← hμ3, rd_Ii a, rd_Ii a, rd_Ii a, rd_Ii a, rd_Ii a]
  refine ⟨?_, ?_, ?_, ?_, ?_, by rw [r _ (by omega)]; exact u1, fun k hk => ?_⟩
  · rw [← hμ3, rd_Ik (by omega), rd_Ik (by omega), rd_Ik (by omega), rd_Ik (by omega), rd_Is]
  · rw [← hμ3, rd_Ik (by omega), rd_Ik (by omega), rd_Ik (by omega), rd_Is]
  · rw [← hμ3, rd_Ik (by omega), rd_Ik (by omega), rd_Is]
  · rw [← hμ3, rd_Ik (by omega), rd_Is]
  · rw [← hμ3, rd_Is]
  · obtain ⟨⟨a, e1, e2⟩, e3⟩ := u2 k hk
    exact ⟨⟨a, by rw [r _ (by omega)]; exact e1, LayC_keep e2 (Nat.le_refl _) (fun j _ => by rw [r (i + 2 + 1) (by omega), r (i + 2 + 2) (by omega)]; exact ⟨rfl, rfl⟩)⟩, e3⟩
theorem rd_init {i : Nat} {μ : Mem} : Wo (fX4_init i μ) (fun ν => ∀ x, x < 21 → ν.2 (i + 1 + 1) x = WCL.getD x 0) := by
  unfold fX4_init
  rw [bd_eq, Wo_b1]
  unfold fX8_init
  rw [Wo_some, bd_eq, bd_eq, Wo_b1]
  refine Wo_mono q3_init (fun μ9 _ => ?_)
  rw [bd_eq, bd_eq, Wo_some]
  intro x hx
  rw [(zr_ne (by omega)).2, (mg_lo (by omega)).2, (zr_ne (by omega)).2, (mg_hi (by omega)).2, (zr_ne (by omega)).2, (zr_ne (by omega)).2, (zr_ne (by omega)).2]
  exact tkL_w x hx
theorem s7_init {i : Nat} {μ : Mem} (h : μ.1 i = fun _ => 0) : Wo (fX7_init i μ) (fun ν => ν.1 i = (fun _ => 0) ∧ ν.1 (i + 1) = fun _ => 0) := by
  rw [f7, Wo_some]
  exact ⟨by rw [(zr_ne (by omega)).1]; exact h, zr_eq.1⟩
theorem stp_lo {b j : Nat} {μ : Mem} (h : j < b) : (stp b μ).1 j = μ.1 j := by
  unfold stp
  rw [(mg_lo h).1, (zr_ne (by omega)).1]
theorem mkS_lo {b j : Nat} {μ : Mem} (h : j < b) : ∀ n, (mkS b n μ).1 j = μ.1 j
  | 0 => rfl
  | n + 1 => by
    show (stp (b + 2 * n) (mkS b n μ)).1 j = μ.1 j
    rw [stp_lo (by omega)]
    exact mkS_lo h n
theorem h0_init {i : Nat} {μ : Mem} (h : μ.1 i = fun _ => 0) : Wo (fX0_init i μ) (fun ν => ν.1 i = (fun _ => 0) ∧ ν.1 (i + 89) = fun _ => 0) := by
  unfold fX0_init
  rw [Wo_some]
  exact ⟨by rw [(zr_ne (by omega)).1, mkS_lo (by omega), (zr_ne (by omega)).1, mkS_lo (by omega), (zr_ne (by omega)).1]; exact h, zr_eq.1⟩
theorem zrs_lo {i n j : Nat} {μ : Mem} (h : j < i) : (zrs μ i n).1 j = μ.1 j := if_neg (by omega)
theorem s6_init {i n : Nat} {x : Int32} {μ : Mem} : Wo (fX6_init i x n μ) (fun ν => ν.1 i 0 = x) := by
  unfold fX6_init
  rw [bd_eq, bd_eq, f7, b1_some, bd_eq, bd_eq, bd_eq, bd_eq, Wo_some]
  rw [(zr_ne (by omega)).1, zrs_lo (by omega), zrs_lo (by omega), (mg_lo (by omega)).1, (zr_ne (by omega)).1, rd_Is]
theorem w10_init {i : Nat} {μ : Mem} : Wo (fX10_init i μ) (fun _ => True) := by
  unfold fX10_init
  rw [bd_eq, bd_eq, Wo_some]
  trivial
theorem w5_init {i : Nat} {μ : Mem} : Wo (fX5_init i μ) (fun _ => True) := by
  unfold fX5_init
  rw [bd_eq, bd_eq, Wo_some]
  trivial
theorem w2_init {i : Nat} {μ : Mem} : Wo (fX2_init i μ) (fun _ => True) := by
  unfold fX2_init
  rw [bd_eq, bd_eq, Wo_some]
  trivial
theorem t9_init {i : Nat} {μ : Mem} (h : μ.1 i = fun _ => 0) : Wo (fX9_init i μ) (fun ν => ν.1 i = fun _ => 0) := by
  unfold fX9_init
  rw [bd_eq, bd_eq, bd_eq, Wo_some, (zr_ne (by omega)).1, (zr_ne (by omega)).1, (zr_ne (by omega)).1]
  exact h
theorem gch {k k' : Nat} {a b c : Mem} (g : ∀ j, j ≠ 1 → j < k' → c.1 j = b.1 j ∧ c.2 j = b.2 j) (l : Lo k a b) (hk : k ≤ k') : ∀ j, j ≠ 1 → j < k → c.1 j = a.1 j ∧ c.2 j = a.2 j := fun j x y => ⟨(g j x (by omega)).1.trans (l j y).1, (g j x (by omega)).2.trans (l j y).2⟩
theorem Q3_cg {i : Nat} {a b : Mem} (h : Q3 i a) (e : ∀ j, i ≤ j → j ≤ i + 6 → b.1 j = a.1 j) : Q3 i b := by
  obtain ⟨h1, h2, h3, h4, h5, h6, h7⟩ := h
  refine ⟨by rw [e i (by omega) (by omega)]; exact h1, by rw [e i (by omega) (by omega)]; exact h2, by rw [e i (by omega) (by omega)]; exact h3, by rw [e i (by omega) (by omega)]; exact h4, by rw [e i (by omega) (by omega)]; exact h5, by rw [e _ (by omega) (by omega)]; exact h6, fun k hk => ?_⟩
  obtain ⟨⟨x, e1, e2⟩, e3⟩ := h7 k hk
  exact ⟨⟨x, by rw [e _ (by omega) (by omega)]; exact e1, LayC_keep e2 (Nat.le_refl _) (fun j _ => by rw [e (i + 2 + 1) (by omega) (by omega), e (i + 2 + 2) (by omega) (by omega)]; exact ⟨rfl, rfl⟩)⟩, e3⟩
theorem init_c (μ : Mem) : Wo (fX11_init (zr μ 1)) (fun ν => (∀ x, x < 21 → ν.2 5 x = WCL.getD x 0) ∧ Q3 17 ν ∧ (∀ k, k ≠ 2 → ν.1 24 k = 0) ∧ ν.1 24 2 = 20 ∧ (∀ k, ν.1 25 k = 0) ∧ (∀ k, ν.1 30 k = 0) ∧ (∀ k, ν.1 119 k = 0) ∧ ν.1 120 0 = 30 ∧ ν.1 139 0 = 10 ∧ ν.1 158 0 = 10 ∧ (∀ k, ν.1 186 k = 0) ∧ ν.1 1 15 = 0 ∧ ν.1 1 16 = -1) := by
  unfold fX11_init
  rw [bd_eq]
  refine New (fun μ1 _ => rd_init) (fun a2 ν2 p2 l2 h2 => ?_)
  refine New (fun μ1 _ => q3_init) (fun a16 ν16 p16 l16 h16 => ?_)
  refine New (fun μ1 z => s7_init z) (fun a24 ν24 p24 l24 h24 => ?_)
  rw [bd_eq]
  generalize hu : upI a24 24 2 (a24.1 17 3) = u24
  refine New (fun μ1 z => s7_init z) (fun a26 ν26 _ l26 _ => ?_)
  refine New (fun μ1 z => s7_init z) (fun a28 ν28 _ l28 _ => ?_)
  refine New (fun μ1 z => h0_init z) (fun a30 ν30 p30 l30 h30 => ?_)
  refine New (fun μ1 _ => s6_init) (fun a120 ν120 p120 l120 h120 => ?_)
  refine New (fun μ1 _ => s6_init) (fun a139 ν139 p139 l139 h139 => ?_)
  refine New (fun μ1 _ => s6_init) (fun a158 ν158 p158 l158 h158 => ?_)
  refine New (fun μ1 _ => w10_init) (fun a177 ν177 _ l177 _ => ?_)
  refine New (fun μ1 _ => w5_init) (fun a180 ν180 _ l180 _ => ?_)
  refine New (fun μ1 _ => w2_init) (fun a183 ν183 _ l183 _ => ?_)
  refine New (fun μ1 z => t9_init z) (fun a186 ν186 p186 l186 h186 => ?_)
  rw [bd_eq, bd_eq, bd_eq, Wo_some]
  generalize hf : upI (upI (zr a186 190) 1 15 0) 1 16 (-1) = fin
  have g186 : ∀ j, j ≠ 1 → j < 190 → fin.1 j = a186.1 j ∧ fin.2 j = a186.2 j := fun j x y => by
    rw [← hf]
    exact ⟨by rw [rd_Ii x, rd_Ii x, (zr_ne (by omega)).1], by rw [rd_I2, rd_I2, (zr_ne (by omega)).2]⟩
  have g183 := gch g186 l186 (by omega)
  have g180 := gch g183 l183 (by omega)
  have g177 := gch g180 l180 (by omega)
  have g158 := gch g177 l177 (by omega)
  have g139 := gch g158 l158 (by omega)
  have g120 := gch g139 l139 (by omega)
  have g30 := gch g120 l120 (by omega)
  have g28 := gch g30 l30 (by omega)
  have g26 := gch g28 l28 (by omega)
  have gu := gch g26 l26 (by omega)
  have g24 : ∀ j, j ≠ 1 → j < 24 → fin.1 j = a24.1 j ∧ fin.2 j = a24.2 j := fun j x y => by
    rw [(gu j x (by omega)).1, (gu j x (by omega)).2, ← hu]
    exact ⟨rd_Ii (by omega), by rw [rd_I2]⟩
  have g16 := gch g24 l24 (by omega)
  have g2 := gch g16 l16 (by omega)
  have p4 : ∀ x, x < 21 → ν2.2 5 x = WCL.getD x 0 := p2
  have p25 : ν24.1 25 = fun _ => 0 := p24.2
  have p119 : ν30.1 119 = fun _ => 0 := p30.2
  have q16 : Q3 17 fin := Q3_cg p16 (fun j x y => by rw [(g16 j (by omega) (by omega)).1, (h16 j x).1])
  have e164 : a24.1 17 3 = 20 := by rw [← (g24 17 (by omega) (by omega)).1]; exact q16.2.1
  refine ⟨fun x hx => ?_, q16, fun k hk => ?_, ?_, fun k => ?_, fun k => ?_, fun k => ?_, ?_, ?_, ?_, fun k => ?_, ?_, ?_⟩
  · rw [(g2 5 (by omega) (by omega)).2, (h2 5 (by omega)).2]; exact p4 x hx
  · rw [(gu 24 (by omega) (by omega)).1, ← hu, rd_Ik hk, (h24 24 (by omega)).1, p24.1]
  · rw [(gu 24 (by omega) (by omega)).1, ← hu, rd_Is]; exact e164
  · rw [(gu 25 (by omega) (by omega)).1, ← hu, rd_Ii (by omega), (h24 25 (by omega)).1, p25]
  · rw [(g30 30 (by omega) (by omega)).1, (h30 30 (by omega)).1, p30.1]
  · rw [(g30 119 (by omega) (by omega)).1, (h30 119 (by omega)).1, p119]
  · rw [(g120 120 (by omega) (by omega)).1, (h120 120 (by omega)).1]; exact p120
  · rw [(g139 139 (by omega) (by omega)).1, (h139 139 (by omega)).1]; exact p139
  · rw [(g158 158 (by omega) (by omega)).1, (h158 158 (by omega)).1]; exact p158
  · rw [(g186 186 (by omega) (by omega)).1, (h186 186 (by omega)).1, p186]
  · rw [← hf, rd_Ik (by omega), rd_Is]
  · rw [← hf, rd_Is]
theorem rR_0 {k : Nat} (h : k ≠ 37) : rR 0 (fun _ _ => 0) nb0 k = 0 := by
  unfold rR R0
  rw [if_neg (by omega), if_neg (by omega), if_neg h]
theorem r_init (μ ν : Mem) : ∃ μ0 ν0 : Mem, fX11_init (zr μ 1) = some μ0 ∧ fX12_init (zr ν 0) = some ν0 ∧ REL μ0 ν0 := by
  obtain ⟨μ0, e1, c1, c2, c3, c4, c5, c6, c7, c8, c9, c10, c11, c12, c13⟩ := init_c μ
  obtain ⟨ν0, e2, q1, q2, q3, q4, q5, q6, q7, q8⟩ := init_m ν
  obtain ⟨u1, u2, u3, u4, u5, u6, u7⟩ := c2
  have hS : SF μ0 24 (kp (wR D0 0 (fun _ _ => 0) nb0)) (rR 0 (fun _ _ => 0) nb0) := by
    refine ⟨⟨fun h hh => ?_, fun h c hh hc1 hc2 => ?_, ?_⟩, ?_, ?_, ?_⟩
    · refine (c5 _).trans ?_
      show (0 : Int32) = if h < 0 then (0 : Int32) else 0
      rw [if_neg (by omega)]
    · exact (c5 _).trans (rR_0 (by omega)).symm
    · rw [c3 1 (by omega), rR_0 (by omega)]
    · rw [rR_c (Nat.zero_le _)]; exact c4
    · rw [c3 3 (by omega), rR_0 (by omega)]
    · rw [c3 4 (by omega), rR_0 (by omega), rR_0 (by omega), rR_0 (by omega), rR_0 (by omega), rR_0 (by omega), rR_0 (by omega)] <;> rfl
  have hQ : QC (wR D0 0 (fun _ _ => 0) nb0) μ0 := by
    refine ⟨Nat.zero_le _, u1, u3, u4, u5, fun h hh => absurd hh (Nat.not_lt_zero _), ?_⟩
    show LawC μ0 (fun k v => lvL v (D0 k).1 (D0 k).2)
    refine LawC_of (sz := 10) u6 (by omega) (fun k hk => ?_)
    obtain ⟨⟨a, x1, x2⟩, x3⟩ := u7 k hk
    exact ⟨a, x1, x2, x3⟩
  refine ⟨μ0, ν0, e1, e2, wR D0 0 (fun _ _ => 0) nb0, 0, rR 0 (fun _ _ => 0) nb0, KZ_R (PuD_0 (e := 0)), hQ, q1, GS_R (PuD_0 (e := 0)), hS, q2, ?_, fun s _ => Or.inl ⟨c7 s, q7 s⟩, ⟨0, by omega, c11 3, q6, fun i hi => absurd hi (Nat.not_lt_zero _)⟩, ⟨0, by omega, c12, q3, fun i hi => absurd hi (Nat.not_lt_zero _)⟩, c13.trans q4.symm, ⟨c8, c9, c10⟩, c1, q8⟩
  exact ⟨[], fun R hR => by simp at hR, ⟨c6 4, 0, by omega, c6 3, fun i R hR => by simp at hR⟩, ⟨by simp, q5, fun i R hR => by simp at hR⟩⟩
