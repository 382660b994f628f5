def EMx (ν0 : Mem) (e0 ub : Nat) (E : Cd) (W : List Int32) (t op : Nat) (ν : Mem) : Prop := CMx ν0 e0 ub E W ν ∧ ν.1 0 13 = 0 ∧ ν.1 0 11 = nI t ∧ ν.1 0 12 = nI op
def FMx (pl : Nat → Int32) (ν0 : Mem) (e0 ub k t' : Nat) (ν : Mem) : Prop := ν.1 0 13 = nI k ∧ ν.1 0 14 = pl t' ∧ (∀ i, i < e0 ∨ ub ≤ i → ν.1 26 i = ν0.1 26 i ∧ ν.1 27 i = ν0.1 27 i) ∧ FXm ν0 ν
def wokM (w : Int32) : Prop := w = 6 ∨ w = 8 ∨ w = 9 ∨ w = 10 ∨ w = 15
def KE : Mem → Option Mem := fun μ54 => (if (μ54.1 0 12) ≤ nI 0 then b1 (fX12_comesOut 0 μ54) (fun μ56 => some μ56) else b1 (fX12_fail 1 μ54) (fun μ58 => b1 (fX12_comesOut 0 μ58) (fun μ60 => some μ60)))
def AAx (n12 n96 : Nat) (ν : Mem) : Option Mem := fX12_expression_l96 (fun μ31 => fX12_expression_b145 (fX12_expression_l12 KE (nI 0) n12) KE (nI 0) μ31) (nI 0) n96 ν
def OOx (n12 n23 : Nat) (ν : Mem) : Option Mem := fX12_expression_l23 (fun μ18 => b1 (fX12_unit μ18) (fun μ20 => (if (μ20.1 0 13) ≤ 0 then AAx n12 FU μ20 else some μ20))) n23 ν
theorem w_split (W : List Int32) : ∃ p W0, W = p ++ W0 ∧ (∀ w ∈ p, ¬ stops 0 w) ∧ top_stops 0 W0 := by
  induction W with
  | nil => exact ⟨[], [], rfl, fun w hw => by simp at hw, trivial⟩
  | cons w W ih =>
    by_cases h : w = 6
    · exact ⟨[], w :: W, rfl, fun w hw => by simp at hw, Or.inl h⟩
    · obtain ⟨p, W0, e1, e2, e3⟩ := ih
      refine ⟨w :: p, W0, by rw [e1]; rfl, fun v hv => ?_, e3⟩
      rcases List.mem_cons.mp hv with rfl | hv
      · rintro (hx | hx)
        · exact h hx
        · exact hx.1 rfl
      · exact e2 v hv
/-- what comes out at the end, fault or not -/
theorem comes_any {ν0 : Mem} {e0 ub : Nat} {E : Cd} {W : List Int32} {ν : Mem} (h8 : ub ≤ 840) (hC : CMx ν0 e0 ub E W ν) (hr : e0 + E.length + W.length ≤ ub) (hl : W.length ≤ 60) : Wo (fX12_comesOut 0 ν) (fun ν' => (∃ E' W', CMx ν0 e0 ub E' W' ν') ∧ ∀ i, i ≠ 39 → i ≠ 43 → ν'.1 0 i = ν.1 0 i) := by
  obtain ⟨p, W0, e1, e2, e3⟩ := w_split W
  subst e1
  have hlen : (p ++ W0).length = p.length + W0.length := List.length_append
  unfold fX12_comesOut
  refine Wo_mono (comes_m h8 e3 hC e2 (by omega) hl (by unfold FU; omega)) ?_
  rintro ν' ⟨k1, k2⟩
  exact ⟨⟨_, _, k1⟩, k2⟩
theorem FMx_of {pl : Nat → Int32} {ν0 : Mem} {e0 ub k t : Nat} {E : Cd} {W : List Int32} {ν : Mem} (h : CMx ν0 e0 ub E W ν) (h13 : ν.1 0 13 = nI k) (h14 : ν.1 0 14 = pl t) : FMx pl ν0 e0 ub k t ν := ⟨h13, h14, h.2.2.2.2.1, h.2.2.2.2.2⟩
theorem KE_f {pl : Nat → Int32} {ν0 : Mem} {e0 ub k t : Nat} {E : Cd} {W : List Int32} {ν : Mem} (h8 : ub ≤ 840) (hC : CMx ν0 e0 ub E W ν) (h13 : ν.1 0 13 = nI k) (hk : k = 1 ∨ k = 2) (h14 : ν.1 0 14 = pl t) (hr : e0 + E.length + W.length ≤ ub) (hl : W.length ≤ 60) : Wo (KE ν) (FMx pl ν0 e0 ub k t) := by
  unfold KE
  have go : Wo (b1 (fX12_comesOut 0 ν) (fun μ56 => some μ56)) (FMx pl ν0 e0 ub k t) := by
    rw [Wo_b1]
    refine Wo_mono (comes_any h8 hC hr hl) ?_
    rintro ν' ⟨⟨E', W', k1⟩, k2⟩
    rw [Wo_some]
    exact FMx_of k1 (by rw [k2 13 (by omega) (by omega)]; exact h13) (by rw [k2 14 (by omega) (by omega)]; exact h14)
  refine Wo_if (fun _ => go) (fun _ => ?_)
  rw [fail_f h13 hk, b1_some]
  exact go
theorem A_f {pl : Nat → Int32} {ν0 : Mem} {e0 ub k t n12 n96 : Nat} {E : Cd} {W : List Int32} {ν : Mem} {Q : Mem → Prop} (h8 : ub ≤ 840) (hC : CMx ν0 e0 ub E W ν) (h13 : ν.1 0 13 = nI k) (hk : k = 1 ∨ k = 2) (h14 : ν.1 0 14 = pl t) (hr : e0 + E.length + W.length ≤ ub) (hl : W.length ≤ 60) (hQ : ∀ ν', FMx pl ν0 e0 ub k t ν' → Q ν') : Wo (AAx n12 (n96 + 1) ν) Q := by
  unfold AAx
  show Wo (fX12_expression_s96 _ _ _ _) _
  unfold fX12_expression_s96
  rw [is_f h13 hk, b1_some, if_pos rfl]
  show Wo (fX12_expression_b145 (fX12_expression_l12 KE (nI 0) n12) KE (nI 0) ν) Q
  unfold fX12_expression_b145 fX12_expression_b186
  rw [is_f h13 hk, is_f h13 hk, is_f h13 hk, is_f h13 hk, b1_some, if_pos rfl, b1_some, if_pos rfl, b1_some, if_pos rfl, b1_some, if_pos rfl, if_pos rfl]
  exact Wo_mono (KE_f h8 hC h13 hk h14 hr hl) hQ
theorem A_end {tk : Nat → Nat} {tv : Nat → Int32} {tn : Nat → Int64} {pl : Nat → Int32} {e : Nat} {ν0 : Mem} {e0 ub : Nat} (hT : TE tk e) (hK : TKm tk tv tn pl e ν0) (h8 : ub ≤ 840) {t op n12 n96 : Nat} {E : Cd} {W : List Int32} {ν : Mem} {Q : Mem → Prop} (hE : EMx ν0 e0 ub E W t op ν) (ht : t ≤ e) (hop : tk t ≠ 8 ∧ tk t ≠ 9 ∧ tk t ≠ 10 ∧ tk t ≠ 15) (h7 : tk t ≠ 7 ∨ op = 0) (hQ : Wo (KE ν) Q) : Wo (AAx n12 (n96 + 1) ν) Q := by
  obtain ⟨hC, h13, h11, h12⟩ := hE
  have hK1 := TKm_FX hK hC.2.2.2.2.2
  have i7 : fX12_is 7 ν = some (if tk t = 7 then 1 else 0) := is_m (k := 7) hT hK1 h13 h11 ht (by omega)
  have i8 : fX12_is 8 ν = some (if tk t = 8 then 1 else 0) := is_m (k := 8) hT hK1 h13 h11 ht (by omega)
  have i9 : fX12_is 9 ν = some (if tk t = 9 then 1 else 0) := is_m (k := 9) hT hK1 h13 h11 ht (by omega)
  have i10 : fX12_is 10 ν = some (if tk t = 10 then 1 else 0) := is_m (k := 10) hT hK1 h13 h11 ht (by omega)
  have i15 : fX12_is 15 ν = some (if tk t = 15 then 1 else 0) := is_m (k := 15) hT hK1 h13 h11 ht (by omega)
  rw [if_neg hop.1] at i8
  rw [if_neg hop.2.1] at i9
  rw [if_neg hop.2.2.1] at i10
  rw [if_neg hop.2.2.2] at i15
  have go : Wo (fX12_expression_b145 (fX12_expression_l12 KE (nI 0) n12) KE (nI 0) ν) Q := by
    unfold fX12_expression_b145 fX12_expression_b186
    rw [i8, b1_some, if_pos rfl, i9, b1_some, if_pos rfl, i10, b1_some, if_pos rfl, i15, b1_some, if_pos rfl, if_pos rfl]
    exact hQ
  unfold AAx
  show Wo (fX12_expression_s96 _ _ _ _) _
  unfold fX12_expression_s96
  rw [i7, b1_some]
  rcases h7 with h7 | h7
  · rw [if_neg h7, if_pos rfl]; exact go
  · rw [h12, h7, if_pos (show nI 0 ≤ nI 0 by decide)]
    refine Wo_if (fun _ => go) (fun _ => go)
theorem A_op {tk : Nat → Nat} {tv : Nat → Int32} {tn : Nat → Int64} {pl : Nat → Int32} {e : Nat} {ν0 : Mem} {e0 ub : Nat} (hT : TE tk e) (hK : TKm tk tv tn pl e ν0) (h8 : ub ≤ 840) {t op o n12 n96 : Nat} {x1 : Int32} {E : Cd} {p W : List Int32} {ν : Mem} {Q : Mem → Prop} (hE : EMx ν0 e0 ub E (p ++ W) t op ν) (ht : t ≤ e) (ho : tk t = o) (hx : ((o = 10 ∨ o = 15) ∧ x1 = 1) ∨ ((o = 8 ∨ o = 9) ∧ x1 = 0)) (hp : ∀ w ∈ p, ¬ stops x1 w) (hW : top_stops x1 W) (hr : e0 + E.length + (p ++ W).length + 401 ≤ ub + t) (hl : (p ++ W).length ≤ 50) (hok : t < 400 → ∀ ν', EMx ν0 e0 ub (E ++ fls p) (nI o :: W) (t + 1) op ν' → Wo (OOx n12 FU ν') Q) (herr : ¬ t < 400 → ∀ ν', FMx pl ν0 e0 ub 2 t ν' → Q ν') : Wo (AAx (n12 + 1) (n96 + 1) ν) Q := by
  have h400 := hT.1
  obtain ⟨hC, h13, h11, h12⟩ := hE
  have hK1 := TKm_FX hK hC.2.2.2.2.2
  have hlen : (p ++ W).length = p.length + W.length := List.length_append
  have i7 : fX12_is 7 ν = some 0 := by
    have := is_m (k := 7) hT hK1 h13 h11 ht (by omega)
    rw [if_neg (by omega)] at this; exact this
  have i8 : fX12_is 8 ν = some (if tk t = 8 then 1 else 0) := is_m (k := 8) hT hK1 h13 h11 ht (by omega)
  have i9 : fX12_is 9 ν = some (if tk t = 9 then 1 else 0) := is_m (k := 9) hT hK1 h13 h11 ht (by omega)
  have i10 : fX12_is 10 ν = some (if tk t = 10 then 1 else 0) := is_m (k := 10) hT hK1 h13 h11 ht (by omega)
  have i15 : fX12_is 15 ν = some (if tk t = 15 then 1 else 0) := is_m (k := 15) hT hK1 h13 h11 ht (by omega)
  have go : Wo (fX12_expression_b234 (fX12_expression_l12 KE (nI 0) (n12 + 1)) KE (nI 0) 1 x1 ν) Q := by
    unfold fX12_expression_b234 fX12_comesOut
    rw [Wo_b1]
    refine Wo_mono (comes_m h8 hW hC hp (by omega) (by omega) (by unfold FU; omega)) ?_
    rintro ν1 ⟨k1, k2⟩
    have g11 : ν1.1 0 11 = nI t := by rw [k2 11 (by omega) (by omega)]; exact h11
    have g12 : ν1.1 0 12 = nI op := by rw [k2 12 (by omega) (by omega)]; exact h12
    have g13 : ν1.1 0 13 = 0 := by rw [k2 13 (by omega) (by omega)]; exact h13
    have hK2 := TKm_FX hK k1.2.2.2.2.2
    rw [g11, ix_nI (by omega) (by omega), gd_true, nI_clamp (by omega), (hK2 t ht).1, ho, k1.2.2.1, ix_nI (by omega) (by omega), gd_true, nI_clamp (by omega), bd_eq, rd_Ii (by omega), k1.2.2.1, nI_1, bd_eq]
    have kp := CMx_push (x := nI o) k1
    have q11 : (upI (upI ν1 28 W.length (nI o)) 0 43 (nI (W.length + 1))).1 0 11 = nI t := by rw [rd_Ik (by omega), rd_Ii (by omega)]; exact g11
    have q12 : (upI (upI ν1 28 W.length (nI o)) 0 43 (nI (W.length + 1))).1 0 12 = nI op := by rw [rd_Ik (by omega), rd_Ii (by omega)]; exact g12
    have q13 : (upI (upI ν1 28 W.length (nI o)) 0 43 (nI (W.length + 1))).1 0 13 = 0 := by rw [rd_Ik (by omega), rd_Ii (by omega)]; exact g13
    by_cases h4 : t < 400
    · rw [goesOn_ok q11 h4, b1_some]
      show Wo (fX12_expression_s12 _ _ _ _ _) _
      unfold fX12_expression_s12
      rw [if_neg n10, rd_Ik (by omega), q13, if_pos rfl]
      exact hok h4 _ ⟨CMx_0 kp (by omega), by rw [rd_Ik (by omega)]; exact q13, rd_Is, by rw [rd_Ik (by omega)]; exact q12⟩
    · rw [goesOn_2 hT (TKm_FX hK kp.2.2.2.2.2) q13 q11 ht h4, b1_some]
      show Wo (fX12_expression_s12 _ _ _ _ _) _
      unfold fX12_expression_s12
      rw [if_neg n10, rd_Ik (by omega), rd_Is, if_neg (by decide), Wo_some]
      exact herr h4 _ (FMx_of (CMx_0 (CMx_0 kp (by omega)) (by omega)) (by rw [rd_Ik (by omega), rd_Is]; rfl) rd_Is)
  unfold AAx
  show Wo (fX12_expression_s96 _ _ _ _) _
  unfold fX12_expression_s96
  rw [i7, b1_some, if_pos rfl]
  show Wo (fX12_expression_b145 (fX12_expression_l12 KE (nI 0) (n12 + 1)) KE (nI 0) ν) Q
  unfold fX12_expression_b145 fX12_expression_b181 fX12_expression_b186 fX12_expression_b229
  rw [i8, i9, i10, i15, ho]
  rcases hx with ⟨rfl | rfl, rfl⟩ | ⟨rfl | rfl, rfl⟩
  · rw [if_neg (show ¬ (10 : Nat) = 8 by omega), if_neg (show ¬ (10 : Nat) = 9 by omega), if_pos rfl, b1_some, if_pos rfl, b1_some, if_pos rfl, b1_some, if_neg n10, if_neg n10, b1_some, if_neg n10]; exact go
  · rw [if_neg (show ¬ (15 : Nat) = 8 by omega), if_neg (show ¬ (15 : Nat) = 9 by omega), if_neg (show ¬ (15 : Nat) = 10 by omega), if_pos rfl, b1_some, if_pos rfl, b1_some, if_pos rfl, b1_some, if_pos rfl, b1_some, if_neg n10, if_neg n10, b1_some, if_pos rfl, b1_some, if_neg n10]; exact go
  · rw [if_pos rfl, if_neg (show ¬ (8 : Nat) = 10 by omega), if_neg (show ¬ (8 : Nat) = 15 by omega), b1_some, if_neg n10, if_neg n10, b1_some, if_pos rfl, b1_some, if_pos rfl]; exact go
  · rw [if_neg (show ¬ (9 : Nat) = 8 by omega), if_pos rfl, if_neg (show ¬ (9 : Nat) = 10 by omega), if_neg (show ¬ (9 : Nat) = 15 by omega), b1_some, if_pos rfl, b1_some, if_neg n10, if_neg n10, b1_some, if_pos rfl, b1_some, if_pos rfl]; exact go
