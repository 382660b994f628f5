def TKm (tk : Nat → Nat) (tv : Nat → Int32) (tn : Nat → Int64) (pl : Nat → Int32) (e : Nat) (ν : Mem) : Prop := ∀ i, i ≤ e → ν.1 3 i = nI (tk i) ∧ ν.1 4 i = pl i ∧ (tk i = 2 → ν.1 5 i = tv i) ∧ (tk i = 1 → ν.2 6 i = tn i)
def f0 (k : Nat) : Prop := (11 ≤ k ∧ k ≤ 14) ∨ k = 39 ∨ k = 43
def FXm (ν ν' : Mem) : Prop := (∀ j, j ≠ 0 → j ≠ 26 → j ≠ 27 → j ≠ 28 → ν'.1 j = ν.1 j) ∧ (∀ k, ¬ f0 k → ν'.1 0 k = ν.1 0 k) ∧ ν'.2 = ν.2
theorem FXm_rfl {ν : Mem} : FXm ν ν := ⟨fun _ _ _ _ _ => rfl, fun _ _ => rfl, rfl⟩
theorem FXm_tr {a b c : Mem} (h : FXm a b) (h2 : FXm b c) : FXm a c := ⟨fun j x y z u => (h2.1 j x y z u).trans (h.1 j x y z u), fun k x => (h2.2.1 k x).trans (h.2.1 k x), h2.2.2.trans h.2.2⟩
theorem FXm_0 {ν : Mem} {k : Nat} {v : Int32} (hk : f0 k) : FXm ν (upI ν 0 k v) := ⟨fun j a _ _ _ => rd_Ii a, fun i hi => rd_Ik (fun hx => hi (hx ▸ hk)), rfl⟩
theorem FXm_a {ν : Mem} {j k : Nat} {v : Int32} (hj : j = 26 ∨ j = 27 ∨ j = 28) : FXm ν (upI ν j k v) := ⟨fun i _ _ _ _ => rd_Ii (by omega), fun i _ => by rw [rd_Ii (by omega)], rfl⟩
theorem TKm_fr {tk : Nat → Nat} {tv : Nat → Int32} {tn : Nat → Int64} {pl : Nat → Int32} {e : Nat} {ν ν' : Mem} (h : TKm tk tv tn pl e ν) (h3 : ν'.1 3 = ν.1 3) (h4 : ν'.1 4 = ν.1 4) (h5 : ν'.1 5 = ν.1 5) (h6 : ν'.2 6 = ν.2 6) : TKm tk tv tn pl e ν' := by
  intro i hi
  rw [h3, h4, h5, h6]
  exact h i hi
theorem TKm_FX {tk : Nat → Nat} {tv : Nat → Int32} {tn : Nat → Int64} {pl : Nat → Int32} {e : Nat} {ν ν' : Mem} (h : TKm tk tv tn pl e ν) (hf : FXm ν ν') : TKm tk tv tn pl e ν' := TKm_fr h (hf.1 3 (by omega) (by omega) (by omega) (by omega)) (hf.1 4 (by omega) (by omega) (by omega) (by omega)) (hf.1 5 (by omega) (by omega) (by omega) (by omega)) (by rw [hf.2.2])
theorem is_m {tk : Nat → Nat} {tv : Nat → Int32} {tn : Nat → Int64} {pl : Nat → Int32} {e t k : Nat} {ν : Mem} (hT : TE tk e) (hK : TKm tk tv tn pl e ν) (h13 : ν.1 0 13 = 0) (h11 : ν.1 0 11 = nI t) (ht : t ≤ e) (hk : k < 41) : fX12_is (nI k) ν = some (if tk t = k then 1 else 0) := by
  have h400 := hT.1
  have hd := hT.2.2 t ht
  unfold fX12_is
  rw [h13, if_pos rfl, h11, ix_nI (by omega) (by omega), gd_true, nI_clamp (by omega), (hK t ht).1]
  by_cases h : tk t = k
  · rw [if_pos h, if_pos (by rw [h])]
  · rw [if_neg h, if_neg (by rw [nI_eq (by omega) (by omega)]; exact h)]
theorem is_f {ν : Mem} {k : Nat} {x : Int32} (h13 : ν.1 0 13 = nI k) (hk : k = 1 ∨ k = 2) : fX12_is x ν = some 0 := by
  unfold fX12_is
  rw [h13, if_neg (nI_ne0 (by omega) (by omega))]
theorem fail_m {tk : Nat → Nat} {tv : Nat → Int32} {tn : Nat → Int64} {pl : Nat → Int32} {e t : Nat} {ν : Mem} {x : Int32} (hT : TE tk e) (hK : TKm tk tv tn pl e ν) (h13 : ν.1 0 13 = 0) (h11 : ν.1 0 11 = nI t) (ht : t ≤ e) : fX12_fail x ν = some (upI (upI ν 0 13 x) 0 14 (pl t)) := by
  have h400 := hT.1
  unfold fX12_fail
  rw [h13, if_pos (by decide), bd_eq, rd_Ik (by omega), h11, ix_nI (by omega) (by omega), gd_true, nI_clamp (by omega), rd_Ii (by omega), (hK t ht).2.1, bd_eq]
theorem fail_f {ν : Mem} {k : Nat} {x : Int32} (h13 : ν.1 0 13 = nI k) (hk : k = 1 ∨ k = 2) : fX12_fail x ν = some ν := by
  unfold fX12_fail
  rw [h13, if_neg (nI_nle (by omega) (by omega))]
theorem goesOn_ok {ν : Mem} {t : Nat} (h11 : ν.1 0 11 = nI t) (h4 : t < 400) : fX12_goesOn ν = some (upI ν 0 11 (nI (t + 1))) := by
  unfold fX12_goesOn
  rw [h11, if_neg (by simp (disch := omega) only [L_add, L_add2, L_mul, L_mul2, L_sub, nI_add, pk_mul, pk_sub, L_le, L_le2, L_lt, L_lt2, L_eq, L_eq2, nI_leI, nI_ltI, nI_eq, nI_clamp, ix_nI, ix_lit, L_cl]; omega), bd_eq, nI_1]
theorem goesOn_2 {tk : Nat → Nat} {tv : Nat → Int32} {tn : Nat → Int64} {pl : Nat → Int32} {e t : Nat} {ν : Mem} (hT : TE tk e) (hK : TKm tk tv tn pl e ν) (h13 : ν.1 0 13 = 0) (h11 : ν.1 0 11 = nI t) (ht : t ≤ e) (h4 : ¬ t < 400) : fX12_goesOn ν = some (upI (upI ν 0 13 2) 0 14 (pl t)) := by
  have h400 := hT.1
  unfold fX12_goesOn
  rw [h11, if_pos (by rw [show t = 400 by omega]; rfl), fail_m hT hK h13 h11 ht, b1_some]
theorem goesOn_f {ν : Mem} {k : Nat} (h13 : ν.1 0 13 = nI k) (hk : k = 1 ∨ k = 2) : Wo (fX12_goesOn ν) (fun ν' => ν' = ν ∨ ∃ x, ν' = upI ν 0 11 x) := by
  unfold fX12_goesOn
  refine Wo_if (fun _ => ?_) (fun _ => ?_)
  · rw [fail_f h13 hk, b1_some, Wo_some]; exact Or.inl rfl
  · rw [bd_eq, Wo_some]; exact Or.inr ⟨_, rfl⟩
theorem SegM_app {ν : Mem} {i : Nat} {c1 c2 : Cd} (h1 : SegM ν i c1) (h2 : SegM ν (i + c1.length) c2) : SegM ν i (c1 ++ c2) := by
  intro k p hp
  rcases Nat.lt_or_ge k c1.length with hk | hk
  · rw [List.getElem?_append_left hk] at hp
    exact h1 k p hp
  · rw [List.getElem?_append_right hk] at hp
    have := h2 _ p hp
    rw [show i + c1.length + (k - c1.length) = i + k by omega] at this
    exact this
/-- the state of an expression that is being read: code E, waiting signs W (the last first) -/
def CMx (ν0 : Mem) (e0 ub : Nat) (E : Cd) (W : List Int32) (ν : Mem) : Prop := ν.1 0 39 = nI (e0 + E.length) ∧ SegM ν e0 E ∧ ν.1 0 43 = nI W.length ∧ StC ν 28 W ∧ (∀ i, i < e0 ∨ ub ≤ i → ν.1 26 i = ν0.1 26 i ∧ ν.1 27 i = ν0.1 27 i) ∧ FXm ν0 ν
theorem CMx_0 {ν0 ν : Mem} {e0 ub k : Nat} {E : Cd} {W : List Int32} {v : Int32} (h : CMx ν0 e0 ub E W ν) (hk : 11 ≤ k ∧ k ≤ 14) : CMx ν0 e0 ub E W (upI ν 0 k v) := by
  obtain ⟨a1, a2, a3, a4, a5, a6⟩ := h
  refine ⟨by rw [rd_Ik (by omega)]; exact a1, SegM_in a2 (fun i _ _ => by rw [rd_Ii (by omega)]) (fun i _ _ => by rw [rd_Ii (by omega)]), by rw [rd_Ik (by omega)]; exact a3, fun i x hx => by rw [rd_Ii (by omega)]; exact a4 i x hx, fun i hi => by rw [rd_Ii (by omega), rd_Ii (by omega)]; exact a5 i hi, FXm_tr a6 (FXm_0 (Or.inl hk))⟩
theorem CMx_emit {ν0 ν : Mem} {e0 ub : Nat} {E : Cd} {W : List Int32} {k : Nat} {v : Int32} (h : CMx ν0 e0 ub E W ν) (hu : e0 + E.length < ub) (h8 : ub ≤ 840) : ∃ ν', fX12_emit (nI k) v ν = some ν' ∧ CMx ν0 e0 ub (E ++ [(k, v)]) W ν' ∧ ∀ i, i ≠ 39 → ν'.1 0 i = ν.1 0 i := by
  obtain ⟨a1, a2, a3, a4, a5, a6⟩ := h
  refine ⟨upI (upI (upI ν 26 (e0 + E.length) (nI k)) 27 (e0 + E.length) v) 0 39 (nI (e0 + E.length + 1)), ?_, ?_, fun i hi => by rw [rd_Ik hi, rd_Ii (by omega), rd_Ii (by omega)]⟩
  · unfold fX12_emit
    rw [a1, ix_nI (by omega) (by omega), gd_true, bd_eq, nI_clamp (by omega), rd_Ii (by omega), a1, ix_nI (by omega) (by omega), gd_true, bd_eq, nI_clamp (by omega), rd_Ii (by omega), rd_Ii (by omega), a1, bd_eq, nI_1]
  · refine ⟨by rw [rd_Is, List.length_append, List.length_cons, List.length_nil]; rfl, ?_, by rw [rd_Ik (by omega), rd_Ii (by omega), rd_Ii (by omega)]; exact a3, fun i x hx => by rw [rd_Ii (by omega), rd_Ii (by omega), rd_Ii (by omega)]; exact a4 i x hx, fun i hi => ?_, FXm_tr a6 (FXm_tr (FXm_a (Or.inl rfl)) (FXm_tr (FXm_a (Or.inr (Or.inl rfl))) (FXm_0 (Or.inr (Or.inl rfl)))))⟩
    · refine SegM_app (SegM_in a2 (fun i h1 h2 => ?_) (fun i h1 h2 => ?_)) ?_
      · rw [rd_Ii (by omega), rd_Ii (by omega), rd_Ik (by omega)]
      · rw [rd_Ii (by omega), rd_Ik (by omega), rd_Ii (by omega)]
      · intro i q hq
        have := len_of hq
        rw [List.length_cons, List.length_nil] at this
        have hi0 : i = 0 := by omega
        subst hi0
        cases hq
        simp only [Nat.add_zero]
        exact ⟨by rw [rd_Ii (by omega), rd_Ii (by omega), rd_Is], by rw [rd_Ii (by omega), rd_Is]⟩
    · rw [rd_Ii (by omega), rd_Ii (by omega), rd_Ik (by omega), rd_Ii (by omega), rd_Ik (by omega), rd_Ii (by omega)]
      exact a5 i hi
theorem CMx_push {ν0 ν : Mem} {e0 ub : Nat} {E : Cd} {W : List Int32} {x : Int32} (h : CMx ν0 e0 ub E W ν) : CMx ν0 e0 ub E (x :: W) (upI (upI ν 28 W.length x) 0 43 (nI (W.length + 1))) := by
  obtain ⟨a1, a2, a3, a4, a5, a6⟩ := h
  refine ⟨by rw [rd_Ik (by omega), rd_Ii (by omega)]; exact a1, SegM_in a2 (fun i _ _ => by rw [rd_Ii (by omega), rd_Ii (by omega)]) (fun i _ _ => by rw [rd_Ii (by omega), rd_Ii (by omega)]), by rw [rd_Is, List.length_cons], ?_, fun i hi => by rw [rd_Ii (by omega), rd_Ii (by omega), rd_Ii (by omega), rd_Ii (by omega)]; exact a5 i hi, FXm_tr a6 (FXm_tr (FXm_a (Or.inr (Or.inr rfl))) (FXm_0 (Or.inr (Or.inr rfl))))⟩
  have := StC_push (x := x) a4
  intro i y hy
  rw [rd_Ii (by omega)]
  exact this i y hy
theorem CMx_pop {ν0 ν : Mem} {e0 ub : Nat} {E : Cd} {W : List Int32} {x : Int32} (h : CMx ν0 e0 ub E (x :: W) ν) : CMx ν0 e0 ub E W (upI ν 0 43 (nI W.length)) := by
  obtain ⟨a1, a2, a3, a4, a5, a6⟩ := h
  refine ⟨by rw [rd_Ik (by omega)]; exact a1, SegM_in a2 (fun i _ _ => by rw [rd_Ii (by omega)]) (fun i _ _ => by rw [rd_Ii (by omega)]), rd_Is, fun i y hy => ?_, fun i hi => by rw [rd_Ii (by omega), rd_Ii (by omega)]; exact a5 i hi, FXm_tr a6 (FXm_0 (Or.inr (Or.inr rfl)))⟩
  rw [rd_Ii (by omega)]
  have hl : i < W.length := by
    rcases Nat.lt_or_ge i W.length with h1 | h1
    · exact h1
    · rw [List.getElem?_eq_none h1] at hy; cases hy
  have := a4 (i + 1) y (by rw [List.getElem?_cons_succ]; exact hy)
  rw [List.length_cons, show W.length + 1 - 1 - (i + 1) = W.length - 1 - i by omega] at this
  exact this
theorem CMx_top {ν0 ν : Mem} {e0 ub : Nat} {E : Cd} {W : List Int32} {x : Int32} (h : CMx ν0 e0 ub E (x :: W) ν) : ν.1 28 W.length = x := by
  have := h.2.2.2.1 0 x rfl
  rw [List.length_cons, show W.length + 1 - 1 - 0 = W.length by omega] at this
  exact this
/-- the code of a sign -/
def ocd (w : Int32) : Nat := if w = 8 then 2 else if w = 9 then 3 else if w = 10 then 4 else 5
def fls (p : List Int32) : Cd := p.map (fun w => (ocd w, 0))
/-- a sign that stops what comes out -/
def stops (x1 w : Int32) : Prop := w = 6 ∨ (x1 ≠ 0 ∧ (w = 8 ∨ w = 9))
def top_stops (x1 : Int32) (W : List Int32) : Prop := match W with
  | [] => True
  | w :: _ => stops x1 w
theorem comes_m {ν0 : Mem} {e0 ub : Nat} {x1 : Int32} {W : List Int32} (h8 : ub ≤ 840) (hW : top_stops x1 W) {p : List Int32} : ∀ {E : Cd} {ν : Mem} {n : Nat}, CMx ν0 e0 ub E (p ++ W) ν → (∀ w ∈ p, ¬ stops x1 w) → e0 + E.length + p.length ≤ ub → (p ++ W).length ≤ 60 → p.length < n → Wo (fX12_comesOut_l0 x1 n ν) (fun ν' => CMx ν0 e0 ub (E ++ fls p) W ν' ∧ ∀ i, i ≠ 39 → i ≠ 43 → ν'.1 0 i = ν.1 0 i) := by
  induction p with
  | nil =>
    intro E ν n hC _ _ hl hn
    obtain ⟨n, rfl⟩ : ∃ n', n = n' + 1 := ⟨n - 1, by omega⟩
    rw [List.nil_append] at hC hl
    show Wo (fX12_comesOut_s0 _ _ _) _
    unfold fX12_comesOut_s0
    have e : fls [] = [] := rfl
    rw [hC.2.2.1, e, List.append_nil]
    cases W with
    | nil => rw [if_pos (by decide), Wo_some]; exact ⟨hC, fun _ _ _ => rfl⟩
    | cons w W =>
      rw [List.length_cons] at hl
      have hs : stops x1 w := hW
      rw [if_neg (nI_nle (by rw [List.length_cons]; omega) (by rw [List.length_cons]; omega)), List.length_cons, L_sub (by omega), show W.length + 1 - 1 = W.length by omega, ix_nI (by omega) (by omega), gd_true, bd_eq, nI_clamp (by omega), CMx_top hC]
      rcases hs with hs | ⟨hs, hs2⟩
      · rw [if_pos hs, Wo_some]; exact ⟨hC, fun _ _ _ => rfl⟩
      · rw [if_neg (by rcases hs2 with h | h <;> rw [h] <;> decide), if_neg hs]
        rcases hs2 with h | h
        · rw [if_pos h, Wo_some]; exact ⟨hC, fun _ _ _ => rfl⟩
        · rw [if_neg (by rw [h]; decide), if_pos h, Wo_some]; exact ⟨hC, fun _ _ _ => rfl⟩
  | cons w p ih =>
    intro E ν n hC hp hu hl hn
    obtain ⟨n, rfl⟩ : ∃ n', n = n' + 1 := ⟨n - 1, by omega⟩
    have hns : ¬ stops x1 w := hp w (List.mem_cons_self ..)
    rw [List.length_cons] at hn hu
    rw [List.cons_append] at hC hl
    rw [List.length_cons] at hl
    have hpop := CMx_pop hC
    show Wo (fX12_comesOut_s0 _ _ _) _
    unfold fX12_comesOut_s0
    rw [hC.2.2.1, if_neg (nI_nle (by rw [List.length_cons]; omega) (by rw [List.length_cons]; omega)), List.length_cons, L_sub (by omega), show (p ++ W).length + 1 - 1 = (p ++ W).length by omega, ix_nI (by omega) (by omega), gd_true, bd_eq, nI_clamp (by omega), CMx_top hC, if_neg (fun hx => hns (Or.inl hx))]
    have go : Wo (fX12_comesOut_b42 (fX12_comesOut_l0 x1 n) x1 w ν) (fun ν' => CMx ν0 e0 ub (E ++ fls (w :: p)) W ν' ∧ ∀ i, i ≠ 39 → i ≠ 43 → ν'.1 0 i = ν.1 0 i) := by
      unfold fX12_comesOut_b42
      rw [hC.2.2.1, List.length_cons, L_sub (by omega), show (p ++ W).length + 1 - 1 = (p ++ W).length by omega, bd_eq]
      obtain ⟨ν', e1, e2, e3⟩ := CMx_emit (k := ocd w) (v := 0) hpop (by omega) h8
      have fin : Wo (b1 (fX12_emit (nI (ocd w)) 0 (upI ν 0 43 (nI (p ++ W).length))) (fun μ13 => fX12_comesOut_l0 x1 n μ13)) (fun ν' => CMx ν0 e0 ub (E ++ fls (w :: p)) W ν' ∧ ∀ i, i ≠ 39 → i ≠ 43 → ν'.1 0 i = ν.1 0 i) := by
        rw [e1, b1_some]
        refine Wo_mono (ih e2 (fun v hv => hp v (List.mem_cons_of_mem _ hv)) (by rw [List.length_append, List.length_cons, List.length_nil]; omega) (by omega) (by omega)) ?_
        rintro ν'' ⟨k1, k2⟩
        refine ⟨?_, fun i h1 h2 => by rw [k2 i h1 h2, e3 i h1, rd_Ik h2]⟩
        rw [List.append_assoc] at k1
        exact k1
      unfold ocd at fin
      by_cases h1 : w = 8
      · rw [if_pos h1]; rw [if_pos h1] at fin; exact fin
      · rw [if_neg h1]; rw [if_neg h1] at fin
        by_cases h2 : w = 9
        · rw [if_pos h2]; rw [if_pos h2] at fin; exact fin
        · rw [if_neg h2]; rw [if_neg h2] at fin
          by_cases h3 : w = 10
          · rw [if_pos h3]; rw [if_pos h3] at fin; exact fin
          · rw [if_neg h3]; rw [if_neg h3] at fin; exact fin
    by_cases hx0 : x1 = 0
    · rw [if_pos hx0]; exact go
    · rw [if_neg hx0, if_neg (fun h => hns (Or.inr ⟨hx0, Or.inl h⟩)), if_neg (fun h => hns (Or.inr ⟨hx0, Or.inr h⟩))]
      exact go
